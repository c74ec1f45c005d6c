/-! PART 29: the reckoning instructions, one by one -/
noncomputable section
def y_ex (S S' : y_S) (r r' : Nat → Int) : Prop := (∀ i, i < s_n S → r' i = r i) ∧ s_n S ≤ s_n S'
theorem y_ex.rf {S : y_S} {r : Nat → Int} : y_ex S S r r := ⟨fun _ _ => rfl, Nat.le_refl _⟩
theorem y_ex.tr {S S' S'' : y_S} {r r' r'' : Nat → Int} (h : y_ex S S' r r') (k : y_ex S' S'' r' r'') : y_ex S S'' r r'' := ⟨fun i hi => (k.1 i (Nat.lt_of_lt_of_le hi h.2)).trans (h.1 i hi), Nat.le_trans h.2 k.2⟩
def y_nm (t : Nat) (v : Value) (z : Int) : Prop := match t with
  | 0 => ∃ x : Int32, v = .int x ∧ x.toInt = z
  | 1 => ∃ x : Int64, v = .long x ∧ x.toInt = z
  | _ => False
theorem y_dV_nm {KT : Nat → Option (Nat ⊕ Nat)} {LT : Nat → Option Nat} {r : Nat → Int} {st : e_ST} {t : Nat} {e : g_LE} {v : Value} (ht : t < 2) : y_dV KT LT r st (t, e) v ↔ y_nm t v (g_ev r e) := by
  match t with
  | 0 => exact Iff.rfl
  | 1 => exact Iff.rfl
  | t + 2 => omega
def y_l32 : Int := -2147483648
def y_h32 : Int := 2147483647
def y_l64 : Int := -9223372036854775808
def y_h64 : Int := 9223372036854775807
theorem y_r32 (x : Int32) : y_l32 ≤ x.toInt ∧ x.toInt ≤ y_h32 := by
  have h1 := Int32.le_toInt x
  have h2 := Int32.toInt_lt x
  unfold y_l32 y_h32
  omega
theorem y_r64 (x : Int64) : y_l64 ≤ x.toInt ∧ x.toInt ≤ y_h64 := by
  have h1 := Int64.le_toInt x
  have h2 := Int64.toInt_lt x
  unfold y_l64 y_h64
  omega
theorem y_bm32 {e : Int} (h1 : y_l32 ≤ e) (h2 : e ≤ y_h32) : e.bmod (2 ^ 32) = e := by
  unfold y_l32 at h1
  unfold y_h32 at h2
  exact Int.bmod_eq_of_le (by omega) (by omega)
theorem y_bm64 {e : Int} (h1 : y_l64 ≤ e) (h2 : e ≤ y_h64) : e.bmod (2 ^ 64) = e := by
  unfold y_l64 at h1
  unfold y_h64 at h2
  exact Int.bmod_eq_of_le (by omega) (by omega)
def y_B2 (t1 t2 t3 : Nat) (κ : y_K2) (S : y_S) (s : y_Str) : Option (y_S × y_Str) := match s_s S with
  | q2 :: q1 :: l => match Nat.beq q1.1 t1 && Nat.beq q2.1 t2 with
    | true => (match κ (y_st S l) q1.2 q2.2 s with
      | some (S', e, s') => some (y_pu S' (t3, e), s')
      | none => none)
    | false => none
  | _ => none
def y_B1 (t1 t3 : Nat) (κ : y_K2) (S : y_S) (s : y_Str) : Option (y_S × y_Str) := match s_s S with
  | q1 :: l => match Nat.beq q1.1 t1 with
    | true => (match κ (y_st S l) q1.2 [] s with
      | some (S', e, s') => some (y_pu S' (t3, e), s')
      | none => none)
    | false => none
  | _ => none
section Y_B
variable {KT : Nat → Option (Nat ⊕ Nat)} {LT : Nat → Option Nat} {IV : y_W → Prop} {AT : Nat → List Int → y_W → Prop} {r r' : Nat → Int} {S S' : y_S} {lv : e_LV} {stk : List Value} {w : y_W} {s s' : y_Str} {lo hi : Int} {κ : y_K2} {P : Int → Int → Int → Prop}
theorem y_B2_ok {t1 t2 t3 : Nat} (ht1 : t1 < 2) (ht2 : t2 < 2) (ht3 : t3 < 2) (hκ : y_OK lo hi P κ) {G : Int → Prop} (hG : ∀ (r : Nat → Int) (S S' : y_S) (s s' : y_Str) (e1 e2 e' : g_LE), κ S e1 e2 s = some (S', e', s') → r 0 = 1 → g_FF r (s_f S) → G (g_ev r e2)) {f : List Value → Option (List Value)}
    (hf : ∀ v1 v2 x y rest, y_nm t1 v1 x → y_nm t2 v2 y → G y → ∃ v z, f (v2 :: v1 :: rest) = some (v :: rest) ∧ y_nm t3 v z ∧ lo ≤ z ∧ z ≤ hi ∧ P x y z) (h : y_B2 t1 t2 t3 κ S s = some (S', s')) (k : y_D KT LT IV AT r S lv stk w) : ∃ r' stk', y_ex S S' r r' ∧ y_D KT LT IV AT r' S' lv stk' w ∧ f stk = some stk' := by
  unfold y_B2 at h
  split at h
  · rename_i q2 q1 l hs
    split at h
    · rename_i hq
      rw [Bool.and_eq_true] at hq
      obtain ⟨u1, e1⟩ := q1
      obtain ⟨u2, e2⟩ := q2
      have hu1 : u1 = t1 := Nat.eq_of_beq_eq_true hq.1
      have hu2 : u2 = t2 := Nat.eq_of_beq_eq_true hq.2
      subst hu1 hu2
      split at h
      · rename_i S1 e s1 hk
        cases h
        obtain ⟨v2, rest2, rfl, hv2, k2⟩ := y_D_po k hs
        obtain ⟨v1, rest, rfl, hv1, k1⟩ := y_D_po (S := y_st S ((u1, e1) :: l)) (l := l) k2 rfl
        rw [y_dV_nm ht2] at hv2
        rw [y_dV_nm ht1] at hv1
        obtain ⟨v, z, g1, g2, g3, g4, g5⟩ := hf v1 v2 _ _ rest hv1 hv2 (hG r _ _ _ _ _ _ _ hk k.1 k.2.2.2.2.1)
        obtain ⟨r', hg, kd, hz⟩ := hκ KT LT IV AT r _ _ lv rest w _ _ _ _ _ hk k1 z g3 g4 g5
        refine ⟨r', v :: rest, ⟨hg.1, hg.2.1⟩, y_D_pu kd ?_, g1⟩
        rw [y_dV_nm ht3, ← hz]
        exact g2
      · cases h
    · cases h
  · cases h
theorem y_B1_ok {t1 t3 : Nat} (ht1 : t1 < 2) (ht3 : t3 < 2) (hκ : y_OK lo hi P κ) {f : List Value → Option (List Value)}
    (hf : ∀ v1 x rest, y_nm t1 v1 x → ∃ v z, f (v1 :: rest) = some (v :: rest) ∧ y_nm t3 v z ∧ lo ≤ z ∧ z ≤ hi ∧ P x 0 z) (h : y_B1 t1 t3 κ S s = some (S', s')) (k : y_D KT LT IV AT r S lv stk w) : ∃ r' stk', y_ex S S' r r' ∧ y_D KT LT IV AT r' S' lv stk' w ∧ f stk = some stk' := by
  unfold y_B1 at h
  split at h
  · rename_i q1 l hs
    split at h
    · rename_i hq
      obtain ⟨u1, e1⟩ := q1
      have hu1 : u1 = t1 := Nat.eq_of_beq_eq_true hq
      subst hu1
      split at h
      · rename_i S1 e s1 hk
        cases h
        obtain ⟨v1, rest, rfl, hv1, k1⟩ := y_D_po k hs
        rw [y_dV_nm ht1] at hv1
        obtain ⟨v, z, g1, g2, g3, g4, g5⟩ := hf v1 _ rest hv1
        obtain ⟨r', hg, kd, hz⟩ := hκ KT LT IV AT r _ _ lv rest w _ _ _ _ _ hk k1 z g3 g4 g5
        refine ⟨r', v :: rest, ⟨hg.1, hg.2.1⟩, y_D_pu kd ?_, g1⟩
        rw [y_dV_nm ht3, ← hz]
        exact g2
      · cases h
    · cases h
  · cases h
end Y_B
/-! what the machine's numbers do -/
theorem y_i_add (x y : Int32) : y_l32 ≤ x.toInt + y.toInt → x.toInt + y.toInt ≤ y_h32 → (x + y).toInt = x.toInt + y.toInt := fun h1 h2 => by rw [Int32.toInt_add, y_bm32 h1 h2]
theorem y_i_sub (x y : Int32) : y_l32 ≤ x.toInt - y.toInt → x.toInt - y.toInt ≤ y_h32 → (x - y).toInt = x.toInt - y.toInt := fun h1 h2 => by rw [Int32.toInt_sub, y_bm32 h1 h2]
theorem y_i_mul (x y : Int32) : y_l32 ≤ x.toInt * y.toInt → x.toInt * y.toInt ≤ y_h32 → (x * y).toInt = x.toInt * y.toInt := fun h1 h2 => by rw [Int32.toInt_mul, y_bm32 h1 h2]
theorem y_i_neg (x : Int32) : y_l32 ≤ -x.toInt → -x.toInt ≤ y_h32 → (-x).toInt = -x.toInt := fun h1 h2 => by rw [Int32.toInt_neg, y_bm32 h1 h2]
theorem y_l_add (x y : Int64) : y_l64 ≤ x.toInt + y.toInt → x.toInt + y.toInt ≤ y_h64 → (x + y).toInt = x.toInt + y.toInt := fun h1 h2 => by rw [Int64.toInt_add, y_bm64 h1 h2]
theorem y_l_sub (x y : Int64) : y_l64 ≤ x.toInt - y.toInt → x.toInt - y.toInt ≤ y_h64 → (x - y).toInt = x.toInt - y.toInt := fun h1 h2 => by rw [Int64.toInt_sub, y_bm64 h1 h2]
theorem y_l_mul (x y : Int64) : y_l64 ≤ x.toInt * y.toInt → x.toInt * y.toInt ≤ y_h64 → (x * y).toInt = x.toInt * y.toInt := fun h1 h2 => by rw [Int64.toInt_mul, y_bm64 h1 h2]
theorem y_l_neg (x : Int64) : y_l64 ≤ -x.toInt → -x.toInt ≤ y_h64 → (-x).toInt = -x.toInt := fun h1 h2 => by rw [Int64.toInt_neg, y_bm64 h1 h2]
theorem y_tdiv_r {x y lo hi : Int} (hy : 0 < y) (h1 : lo ≤ x) (h2 : x ≤ hi) (hlo : lo ≤ 0) (hhi : 0 ≤ hi) : lo ≤ x.tdiv y ∧ x.tdiv y ≤ hi := by
  by_cases hx : 0 ≤ x
  · obtain ⟨g1, g2, g3, g4⟩ := y_tdiv hx hy
    omega
  · have e1 : x.tdiv y = -((-x).tdiv y) := by rw [Int.neg_tdiv, Int.neg_neg]
    obtain ⟨g1, g2, g3, g4⟩ := y_tdiv (x := -x) (by omega) hy
    omega
theorem y_i_div (x y : Int32) (hy : 0 < y.toInt) : (x / y).toInt = x.toInt.tdiv y.toInt := by
  have h := y_tdiv_r hy (y_r32 x).1 (y_r32 x).2 (by decide) (by decide)
  rw [Int32.toInt_div, y_bm32 h.1 h.2]
theorem y_l_div (x y : Int64) (hy : 0 < y.toInt) : (x / y).toInt = x.toInt.tdiv y.toInt := by
  have h := y_tdiv_r hy (y_r64 x).1 (y_r64 x).2 (by decide) (by decide)
  rw [Int64.toInt_div, y_bm64 h.1 h.2]
theorem y_tmod_eq {x y lo hi : Int} (hy : 0 < y) (h1 : lo ≤ x) (h2 : x ≤ hi) (hlo : lo ≤ 0) (hhi : 0 ≤ hi) : x - x.tdiv y * y = x.tmod y ∧ (lo ≤ x.tdiv y * y ∧ x.tdiv y * y ≤ hi) ∧ (lo ≤ x - x.tdiv y * y ∧ x - x.tdiv y * y ≤ hi) := by
  have e0 := Int.mul_tdiv_add_tmod x y
  have e1 : x.tdiv y * y = y * x.tdiv y := Int.mul_comm _ _
  have g1 := Int.tmod_lt_of_pos x hy
  have g2 := Int.lt_tmod_of_pos x hy
  by_cases hx : 0 ≤ x
  · have g3 := Int.tmod_nonneg y hx
    have g4 : x.tmod y ≤ x := by rw [Int.tmod_eq_emod_of_nonneg hx]; exact y_emod_le hx hy
    omega
  · have g3 : 0 ≤ (-x).tmod y := Int.tmod_nonneg y (by omega)
    have g4 : (-x).tmod y ≤ -x := by rw [Int.tmod_eq_emod_of_nonneg (by omega)]; exact y_emod_le (by omega) hy
    rw [Int.neg_tmod] at g3 g4
    omega
theorem y_i_rem (x y : Int32) (hy : 0 < y.toInt) : (x - x / y * y).toInt = x.toInt.tmod y.toInt := by
  obtain ⟨h1, h2, h3⟩ := y_tmod_eq hy (y_r32 x).1 (y_r32 x).2 (by decide) (by decide)
  have e1 := y_i_div x y hy
  have e2 : (x / y * y).toInt = x.toInt.tdiv y.toInt * y.toInt := by rw [y_i_mul _ _ (by rw [e1]; exact h2.1) (by rw [e1]; exact h2.2), e1]
  rw [y_i_sub _ _ (by rw [e2]; exact h3.1) (by rw [e2]; exact h3.2), e2, h1]
theorem y_l_rem (x y : Int64) (hy : 0 < y.toInt) : (x - x / y * y).toInt = x.toInt.tmod y.toInt := by
  obtain ⟨h1, h2, h3⟩ := y_tmod_eq hy (y_r64 x).1 (y_r64 x).2 (by decide) (by decide)
  have e1 := y_l_div x y hy
  have e2 : (x / y * y).toInt = x.toInt.tdiv y.toInt * y.toInt := by rw [y_l_mul _ _ (by rw [e1]; exact h2.1) (by rw [e1]; exact h2.2), e1]
  rw [y_l_sub _ _ (by rw [e2]; exact h3.1) (by rw [e2]; exact h3.2), e2, h1]
theorem y_bv_pos {n : Nat} {b : BitVec n} (h : 0 ≤ b.toInt) : b.toInt = b.toNat ∧ 2 * b.toNat < 2 ^ n := by
  have hc := BitVec.toInt_eq_toNat_cond b
  by_cases hq : 2 * b.toNat < 2 ^ n
  · rw [if_pos hq] at hc
    exact ⟨hc, hq⟩
  · rw [if_neg hq] at hc
    have h2 := b.isLt
    have h3 : ((b.toNat : Int) - (2 ^ n : Nat)) < 0 := by omega
    omega
theorem y_bv_and {n : Nat} {a b : BitVec n} (h : 0 ≤ b.toInt) : 0 ≤ (a &&& b).toInt ∧ (a &&& b).toInt ≤ b.toInt := by
  obtain ⟨h1, h2⟩ := y_bv_pos h
  have h3 : (a &&& b).toNat ≤ b.toNat := by rw [BitVec.toNat_and]; exact Nat.and_le_right
  have h4 : (a &&& b).toInt = (a &&& b).toNat := BitVec.toInt_eq_toNat_of_lt (by omega)
  rw [h4, h1]
  omega
theorem y_i_and (x y : Int32) : (0 ≤ y.toInt → 0 ≤ (x &&& y).toInt ∧ (x &&& y).toInt ≤ y.toInt) ∧ (0 ≤ x.toInt → 0 ≤ (x &&& y).toInt ∧ (x &&& y).toInt ≤ x.toInt) := by
  have e : (x &&& y).toInt = (x.toBitVec &&& y.toBitVec).toInt := rfl
  refine ⟨fun h => by rw [e]; exact y_bv_and h, fun h => ?_⟩
  rw [e, BitVec.and_comm]
  exact y_bv_and h
theorem y_l_and (x y : Int64) : (0 ≤ y.toInt → 0 ≤ (x &&& y).toInt ∧ (x &&& y).toInt ≤ y.toInt) ∧ (0 ≤ x.toInt → 0 ≤ (x &&& y).toInt ∧ (x &&& y).toInt ≤ x.toInt) := by
  have e : (x &&& y).toInt = (x.toBitVec &&& y.toBitVec).toInt := rfl
  refine ⟨fun h => by rw [e]; exact y_bv_and h, fun h => ?_⟩
  rw [e, BitVec.and_comm]
  exact y_bv_and h
theorem y_bv_msk {n p : Nat} {a b : BitVec n} (hp : p + 1 < n) (h : b.toInt = 2 ^ p - 1) : ∃ q : Int, (a &&& b).toInt = a.toInt - 2 ^ p * q := by
  have h0 : (0 : Int) < 2 ^ p := Int.pow_pos (by decide)
  obtain ⟨h1, h2⟩ := y_bv_pos (b := b) (by omega)
  have h3 : b.toNat = 2 ^ p - 1 := by
    have h5 : ((2 ^ p : Nat) : Int) = 2 ^ p := Int.natCast_pow 2 p
    have h6 : 0 < 2 ^ p := Nat.two_pow_pos p
    omega
  have h4 : (a &&& b).toNat = a.toNat % 2 ^ p := by rw [BitVec.toNat_and, h3, Nat.and_two_pow_sub_one_eq_mod]
  have h5 : (a &&& b).toInt = (a &&& b).toNat := by
    refine BitVec.toInt_eq_toNat_of_lt ?_
    have h6 : (a &&& b).toNat ≤ b.toNat := by rw [BitVec.toNat_and]; exact Nat.and_le_right
    omega
  have h7 : ((2 ^ p : Nat) : Int) = 2 ^ p := Int.natCast_pow 2 p
  have h8 : (a.toNat : Int) = 2 ^ p * ((a.toNat / 2 ^ p : Nat) : Int) + ((a.toNat % 2 ^ p : Nat) : Int) := by
    rw [← h7, ← Int.natCast_mul, ← Int.natCast_add, Nat.div_add_mod]
  have h9 := BitVec.toInt_eq_toNat_cond a
  by_cases hq : 2 * a.toNat < 2 ^ n
  · rw [if_pos hq] at h9
    refine ⟨((a.toNat / 2 ^ p : Nat) : Int), ?_⟩
    rw [h5, h4, h9]
    omega
  · rw [if_neg hq] at h9
    refine ⟨((a.toNat / 2 ^ p : Nat) : Int) - 2 ^ (n - p), ?_⟩
    have e1 : ((2 ^ n : Nat) : Int) = 2 ^ p * 2 ^ (n - p) := by
      rw [← Int.pow_add, Int.natCast_pow]
      have : p + (n - p) = n := by omega
      rw [this]
      rfl
    rw [h5, h4, h9, Int.mul_sub, e1]
    omega
theorem y_i_msk (x y : Int32) (p : Nat) (hp : p < 31) (h : y.toInt = 2 ^ p - 1) : ∃ q : Int, (x &&& y).toInt = x.toInt - 2 ^ p * q :=
  y_bv_msk (a := x.toBitVec) (b := y.toBitVec) (by omega) h
theorem y_l_msk (x y : Int64) (p : Nat) (hp : p < 31) (h : y.toInt = 2 ^ p - 1) : ∃ q : Int, (x &&& y).toInt = x.toInt - 2 ^ p * q :=
  y_bv_msk (a := x.toBitVec) (b := y.toBitVec) (by omega) h
theorem y_bv_lt {n p : Nat} {c : BitVec n} (h : c.toNat < 2 ^ p) (h2 : 2 * c.toNat < 2 ^ n) : 0 ≤ c.toInt ∧ c.toInt < 2 ^ p := by
  rw [BitVec.toInt_eq_toNat_of_lt h2]
  have h3 : ((c.toNat : Nat) : Int) < ((2 ^ p : Nat) : Int) := Int.ofNat_lt.mpr h
  rw [Int.natCast_pow] at h3
  exact ⟨Int.natCast_nonneg _, h3⟩
theorem y_bv_or {n : Nat} (hn : 0 < n) {a b : BitVec n} {p : Nat} (ha : 0 ≤ a.toInt) (hb : 0 ≤ b.toInt) (ha2 : a.toInt < 2 ^ p) (hb2 : b.toInt < 2 ^ p) : (0 ≤ (a ||| b).toInt ∧ (a ||| b).toInt < 2 ^ p) ∧ (0 ≤ (a ^^^ b).toInt ∧ (a ^^^ b).toInt < 2 ^ p) := by
  obtain ⟨a1, a2⟩ := y_bv_pos ha
  obtain ⟨b1, b2⟩ := y_bv_pos hb
  have ha3 : a.toNat < 2 ^ p := by
    rw [a1] at ha2
    have : ((a.toNat : Nat) : Int) < ((2 ^ p : Nat) : Int) := by rw [Int.natCast_pow]; exact ha2
    exact Int.ofNat_lt.mp this
  have hb3 : b.toNat < 2 ^ p := by
    rw [b1] at hb2
    have : ((b.toNat : Nat) : Int) < ((2 ^ p : Nat) : Int) := by rw [Int.natCast_pow]; exact hb2
    exact Int.ofNat_lt.mp this
  obtain ⟨m, rfl⟩ : ∃ m, n = m + 1 := ⟨n - 1, by omega⟩
  have e2 : 2 ^ (m + 1) = 2 * 2 ^ m := by rw [Nat.pow_succ, Nat.mul_comm]
  have a4 : a.toNat < 2 ^ m := by omega
  have b4 : b.toNat < 2 ^ m := by omega
  refine ⟨y_bv_lt (by rw [BitVec.toNat_or]; exact Nat.or_lt_two_pow ha3 hb3) ?_, y_bv_lt (by rw [BitVec.toNat_xor]; exact Nat.xor_lt_two_pow ha3 hb3) ?_⟩
  · have := Nat.or_lt_two_pow a4 b4
    rw [BitVec.toNat_or]
    omega
  · have := Nat.xor_lt_two_pow a4 b4
    rw [BitVec.toNat_xor]
    omega
theorem y_i_or (x y : Int32) (p : Nat) (h1 : 0 ≤ x.toInt) (h2 : 0 ≤ y.toInt) (h3 : x.toInt < 2 ^ p) (h4 : y.toInt < 2 ^ p) : 0 ≤ (x ||| y).toInt ∧ (x ||| y).toInt < 2 ^ p := (y_bv_or (a := x.toBitVec) (b := y.toBitVec) (by decide) h1 h2 h3 h4).1
theorem y_i_xor (x y : Int32) (p : Nat) (h1 : 0 ≤ x.toInt) (h2 : 0 ≤ y.toInt) (h3 : x.toInt < 2 ^ p) (h4 : y.toInt < 2 ^ p) : 0 ≤ (x ^^^ y).toInt ∧ (x ^^^ y).toInt < 2 ^ p := (y_bv_or (a := x.toBitVec) (b := y.toBitVec) (by decide) h1 h2 h3 h4).2
theorem y_l_or (x y : Int64) (p : Nat) (h1 : 0 ≤ x.toInt) (h2 : 0 ≤ y.toInt) (h3 : x.toInt < 2 ^ p) (h4 : y.toInt < 2 ^ p) : 0 ≤ (x ||| y).toInt ∧ (x ||| y).toInt < 2 ^ p := (y_bv_or (a := x.toBitVec) (b := y.toBitVec) (by decide) h1 h2 h3 h4).1
theorem y_l_xor (x y : Int64) (p : Nat) (h1 : 0 ≤ x.toInt) (h2 : 0 ≤ y.toInt) (h3 : x.toInt < 2 ^ p) (h4 : y.toInt < 2 ^ p) : 0 ≤ (x ^^^ y).toInt ∧ (x ^^^ y).toInt < 2 ^ p := (y_bv_or (a := x.toBitVec) (b := y.toBitVec) (by decide) h1 h2 h3 h4).2
end
