/-! PART 30: shifts; the table of what reckons -/
noncomputable section
theorem y_n32 (y : Int32) (c : Nat) (h : y.toInt = c) (hc : c < 32) : y = Int32.ofNat c := by
  apply Int32.toInt_inj.mp
  rw [h]
  revert hc
  revert c
  intro c _ hc
  rw [Int32.toInt_ofNat_of_lt (by omega)]
theorem y_n64 (y : Int32) (c : Nat) (h : y.toInt = c) (hc : c < 64) : y = Int32.ofNat c := by
  apply Int32.toInt_inj.mp
  rw [h, Int32.toInt_ofNat_of_lt (by omega)]
theorem y_m32 : ∀ c : Fin 32, ((Int32.ofNat c &&& 31).toBitVec.smod 32).toNat = c := by decide +kernel
theorem y_u32 : ∀ c : Fin 32, (UInt32.mod ((Int32.ofNat c).toUInt32 &&& Int32.toUInt32 31) 32).toBitVec.toNat = c := by decide +kernel
theorem y_m64 : ∀ c : Fin 64, (((Int32.ofNat c).toInt64 &&& 63).toBitVec.smod 64).toNat = c := by decide +kernel
theorem y_u64 : ∀ c : Fin 64, (UInt64.mod ((Int32.ofNat c).toInt64.toUInt64 &&& Int64.toUInt64 63) 64).toBitVec.toNat = c := by decide +kernel
theorem y_bmk {a k : Int} {m : Nat} : (a + k * (m : Int)).bmod m = a.bmod m := by
  rw [Int.bmod_def, Int.bmod_def, Int.add_mul_emod_self_right]
theorem y_bv_shl {n : Nat} (b : BitVec n) (c : Nat) : (b <<< c).toInt = (2 ^ c * b.toInt).bmod (2 ^ n) := by
  rw [BitVec.toInt_shiftLeft]
  have e1 : ((b.toNat <<< c : Nat) : Int) = 2 ^ c * (b.toNat : Int) := by
    rw [Nat.shiftLeft_eq, Int.natCast_mul, Int.natCast_pow, Int.mul_comm]
    rfl
  rw [e1, BitVec.toInt_eq_toNat_cond]
  by_cases hq : 2 * b.toNat < 2 ^ n
  · rw [if_pos hq]
  · rw [if_neg hq]
    have e2 : 2 ^ c * (b.toNat : Int) = 2 ^ c * ((b.toNat : Int) - ((2 ^ n : Nat) : Int)) + 2 ^ c * ((2 ^ n : Nat) : Int) := by
      rw [Int.mul_sub]
      omega
    rw [e2, y_bmk]
theorem y_i_shl (x y : Int32) (c : Nat) (h : y.toInt = c) (hc : c < 32) (h1 : y_l32 ≤ 2 ^ c * x.toInt) (h2 : 2 ^ c * x.toInt ≤ y_h32) : (x <<< (y &&& 31)).toInt = 2 ^ c * x.toInt := by
  rw [y_n32 y c h hc]
  have e : (x <<< (Int32.ofNat c &&& 31)).toInt = (x.toBitVec <<< ((Int32.ofNat c &&& 31).toBitVec.smod 32).toNat).toInt := rfl
  rw [e, y_m32 ⟨c, hc⟩, y_bv_shl]
  exact y_bm32 h1 h2
theorem y_l_shl (x : Int64) (y : Int32) (c : Nat) (h : y.toInt = c) (hc : c < 64) (h1 : y_l64 ≤ 2 ^ c * x.toInt) (h2 : 2 ^ c * x.toInt ≤ y_h64) : (x <<< (y.toInt64 &&& 63)).toInt = 2 ^ c * x.toInt := by
  rw [y_n64 y c h hc]
  have e : (x <<< ((Int32.ofNat c).toInt64 &&& 63)).toInt = (x.toBitVec <<< (((Int32.ofNat c).toInt64 &&& 63).toBitVec.smod 64).toNat).toInt := rfl
  rw [e, y_m64 ⟨c, hc⟩, y_bv_shl]
  exact y_bm64 h1 h2
theorem y_i_shr (x y : Int32) (c : Nat) (h : y.toInt = c) (hc : c < 32) : (x >>> (y &&& 31)).toInt = x.toInt / 2 ^ c := by
  rw [y_n32 y c h hc]
  have e : (x >>> (Int32.ofNat c &&& 31)).toInt = (x.toBitVec.sshiftRight ((Int32.ofNat c &&& 31).toBitVec.smod 32).toNat).toInt := rfl
  rw [e, y_m32 ⟨c, hc⟩, BitVec.toInt_sshiftRight, Int.shiftRight_eq_div_pow]
  rfl
theorem y_l_shr (x : Int64) (y : Int32) (c : Nat) (h : y.toInt = c) (hc : c < 64) : (x >>> (y.toInt64 &&& 63)).toInt = x.toInt / 2 ^ c := by
  rw [y_n64 y c h hc]
  have e : (x >>> ((Int32.ofNat c).toInt64 &&& 63)).toInt = (x.toBitVec.sshiftRight (((Int32.ofNat c).toInt64 &&& 63).toBitVec.smod 64).toNat).toInt := rfl
  rw [e, y_m64 ⟨c, hc⟩, BitVec.toInt_sshiftRight, Int.shiftRight_eq_div_pow]
  rfl
theorem y_bv_ush {n : Nat} (b : BitVec n) (c : Nat) (hc : c < n) : (0 ≤ b.toInt → (b >>> c).toInt = b.toInt / 2 ^ c) ∧ (0 < c → 0 ≤ (b >>> c).toInt ∧ (b >>> c).toInt < 2 ^ (n - c)) := by
  have e1 : (b >>> c).toNat = b.toNat / 2 ^ c := by rw [BitVec.toNat_ushiftRight, Nat.shiftRight_eq_div_pow]
  have e3 : b.toNat / 2 ^ c ≤ b.toNat := Nat.div_le_self _ _
  refine ⟨fun h => ?_, fun h => ?_⟩
  · obtain ⟨h1, h2⟩ := y_bv_pos h
    rw [BitVec.toInt_eq_toNat_of_lt (by rw [e1]; omega), e1, h1, Int.natCast_ediv, Int.natCast_pow]
    rfl
  · have h4 : (b >>> c).toNat < 2 ^ (n - c) := by
      rw [e1]
      refine Nat.div_lt_of_lt_mul ?_
      rw [← Nat.pow_add, show c + (n - c) = n by omega]
      exact b.isLt
    have h5 : 2 * 2 ^ (n - c) ≤ 2 ^ n := by
      rw [← Nat.pow_succ']
      exact Nat.pow_le_pow_right (by decide) (by omega)
    exact y_bv_lt h4 (by omega)
theorem y_i_ush (x y : Int32) (c : Nat) (h : y.toInt = c) (hc : c < 32) : (0 ≤ x.toInt → ((x.toUInt32 >>> (y.toUInt32 &&& Int32.toUInt32 31)).toInt32).toInt = x.toInt / 2 ^ c) ∧ (0 < c → 0 ≤ ((x.toUInt32 >>> (y.toUInt32 &&& Int32.toUInt32 31)).toInt32).toInt ∧ ((x.toUInt32 >>> (y.toUInt32 &&& Int32.toUInt32 31)).toInt32).toInt < 2 ^ (32 - c)) := by
  rw [y_n32 y c h hc]
  have e : ((x.toUInt32 >>> ((Int32.ofNat c).toUInt32 &&& Int32.toUInt32 31)).toInt32).toInt = (x.toBitVec >>> (UInt32.mod ((Int32.ofNat c).toUInt32 &&& Int32.toUInt32 31) 32).toBitVec.toNat).toInt := rfl
  rw [e, y_u32 ⟨c, hc⟩]
  exact y_bv_ush x.toBitVec c hc
theorem y_l_ush (x : Int64) (y : Int32) (c : Nat) (h : y.toInt = c) (hc : c < 64) : (0 ≤ x.toInt → ((x.toUInt64 >>> (y.toInt64.toUInt64 &&& Int64.toUInt64 63)).toInt64).toInt = x.toInt / 2 ^ c) ∧ (0 < c → 0 ≤ ((x.toUInt64 >>> (y.toInt64.toUInt64 &&& Int64.toUInt64 63)).toInt64).toInt ∧ ((x.toUInt64 >>> (y.toInt64.toUInt64 &&& Int64.toUInt64 63)).toInt64).toInt < 2 ^ (64 - c)) := by
  rw [y_n64 y c h hc]
  have e : ((x.toUInt64 >>> ((Int32.ofNat c).toInt64.toUInt64 &&& Int64.toUInt64 63)).toInt64).toInt = (x.toBitVec >>> (UInt64.mod ((Int32.ofNat c).toInt64.toUInt64 &&& Int64.toUInt64 63) 64).toBitVec.toNat).toInt := rfl
  rw [e, y_u64 ⟨c, hc⟩]
  exact y_bv_ush x.toBitVec c hc
/-- as it is -/
def y_idn : y_K2 := fun S e1 _ s => some (S, e1, s)
theorem y_idn_ok {lo hi : Int} : y_OK lo hi (fun x _ z => z = x) y_idn := by
  intro KT LT IV AT r S S' lv stk w s s' e1 e2 e' h k z _ _ hp
  cases h
  exact ⟨r, y_gt.rf, k, hp⟩
def y_ari (ins : Instr) (S : y_S) (s : y_Str) : Option (y_S × y_Str) := match ins with
  | .iadd => y_B2 0 0 0 (y_lin g_add y_l32 y_h32) S s
  | .isub => y_B2 0 0 0 (y_lin g_sub y_l32 y_h32) S s
  | .imul => y_B2 0 0 0 (y_mul y_l32 y_h32) S s
  | .iand => y_B2 0 0 0 (y_cs y_fa (y_and y_l32 y_h32)) S s
  | .ior => y_B2 0 0 0 (y_cs y_fo (y_or y_l32 y_h32)) S s
  | .ixor => y_B2 0 0 0 (y_cs y_fx (y_or y_l32 y_h32)) S s
  | .idiv => y_B2 0 0 0 (y_div y_l32 y_h32) S s
  | .irem => y_B2 0 0 0 y_rem S s
  | .ishl => y_B2 0 0 0 (y_shl y_l32 y_h32 32) S s
  | .ishr => y_B2 0 0 0 (y_shr y_l32 y_h32 32) S s
  | .iushr => y_B2 0 0 0 (y_cs y_fu (y_ush y_l32 y_h32 32)) S s
  | .ineg => y_B1 0 0 (y_lin (fun e _ => g_k (-1) e) y_l32 y_h32) S s
  | .i2l => y_B1 0 1 y_idn S s
  | .i2b => y_B1 0 0 (y_lin (fun e _ => e) (-128) 127) S s
  | .l2i => y_B1 1 0 (y_lin (fun e _ => e) y_l32 y_h32) S s
  | .lneg => y_B1 1 1 (y_lin (fun e _ => g_k (-1) e) y_l64 y_h64) S s
  | .ladd => y_B2 1 1 1 (y_lin g_add y_l64 y_h64) S s
  | .lsub => y_B2 1 1 1 (y_lin g_sub y_l64 y_h64) S s
  | .lmul => y_B2 1 1 1 (y_mul y_l64 y_h64) S s
  | .land => y_B2 1 1 1 (y_and y_l64 y_h64) S s
  | .lor => y_B2 1 1 1 (y_or y_l64 y_h64) S s
  | .lxor => y_B2 1 1 1 (y_or y_l64 y_h64) S s
  | .ldiv => y_B2 1 1 1 (y_ng y_l64 y_h64 (y_div y_l64 y_h64)) S s
  | .lrem => y_B2 1 1 1 (y_ng y_l64 y_h64 y_rem) S s
  | .lshl => y_B2 1 0 1 (y_shl y_l64 y_h64 64) S s
  | .lshr => y_B2 1 0 1 (y_shr y_l64 y_h64 64) S s
  | .lushr => y_B2 1 0 1 (y_ush y_l64 y_h64 64) S s
  | _ => none
end
