/-! PART 31: what reckons, is done -/
noncomputable section
theorem y_i2b (x : Int32) : -128 ≤ x.toInt8.toInt32.toInt ∧ x.toInt8.toInt32.toInt ≤ 127 ∧ (-128 ≤ x.toInt → x.toInt ≤ 127 → x.toInt8.toInt32.toInt = x.toInt) := by
  have h1 := Int8.le_toInt x.toInt8
  have h2 := Int8.toInt_lt x.toInt8
  rw [Int8.toInt_toInt32]
  refine ⟨by omega, by omega, fun h3 h4 => ?_⟩
  rw [Int32.toInt_toInt8]
  exact Int.bmod_eq_of_le (by omega) (by omega)
theorem y_GT {κ : y_K2} : ∀ (r : Nat → Int) (S S' : y_S) (s s' : y_Str) (e1 e2 e' : g_LE), κ S e1 e2 s = some (S', e', s') → r 0 = 1 → g_FF r (s_f S) → True := fun _ _ _ _ _ _ _ _ _ _ _ => trivial
section Y_AR
variable {KT : Nat → Option (Nat ⊕ Nat)} {LT : Nat → Option Nat} {IV : y_W → Prop} {AT : Nat → List Int → y_W → Prop} {r r' : Nat → Int} {S S' : y_S} {lv : e_LV} {stk : List Value} {w : y_W} {s s' : y_Str} {nL pc : Nat}
theorem y_a_iadd (h : y_ari .iadd S s = some (S', s')) (k : y_D KT LT IV AT r S lv stk w) : ∃ r' stk', y_ex S S' r r' ∧ y_D KT LT IV AT r' S' lv stk' w ∧ e_s nL .iadd pc lv stk = some (pc + 1, lv, stk') := by
  have := y_B2_ok (f := fun stk => e_ii stk fun x y => some (.int (x + y))) (by decide) (by decide) (by decide) (y_lin_ok (P := fun x y z => y_l32 ≤ x + y → x + y ≤ y_h32 → z = x + y) (G := fun x y => x + y) (fun r e1 e2 => g_ev_add r e1 e2) (fun _ _ _ h => h)) (G := fun _ => True) y_GT (by
    rintro v1 v2 _ _ rest ⟨x, rfl, rfl⟩ ⟨y, rfl, rfl⟩ hG
    exact ⟨_, _, rfl, ⟨_, rfl, rfl⟩, (y_r32 (x + y)).1, (y_r32 (x + y)).2, y_i_add x y⟩) h k
  obtain ⟨r', stk', g1, g2, g3⟩ := this
  exact ⟨r', stk', g1, g2, by show e_n pc 1 lv (e_ii stk _) = _; rw [g3]; rfl⟩
theorem y_a_isub (h : y_ari .isub S s = some (S', s')) (k : y_D KT LT IV AT r S lv stk w) : ∃ r' stk', y_ex S S' r r' ∧ y_D KT LT IV AT r' S' lv stk' w ∧ e_s nL .isub pc lv stk = some (pc + 1, lv, stk') := by
  have := y_B2_ok (f := fun stk => e_ii stk fun x y => some (.int (x - y))) (by decide) (by decide) (by decide) (y_lin_ok (P := fun x y z => y_l32 ≤ x - y → x - y ≤ y_h32 → z = x - y) (G := fun x y => x - y) (fun r e1 e2 => g_ev_sub r e1 e2) (fun _ _ _ h => h)) (G := fun _ => True) y_GT (by
    rintro v1 v2 _ _ rest ⟨x, rfl, rfl⟩ ⟨y, rfl, rfl⟩ hG
    exact ⟨_, _, rfl, ⟨_, rfl, rfl⟩, (y_r32 (x - y)).1, (y_r32 (x - y)).2, y_i_sub x y⟩) h k
  obtain ⟨r', stk', g1, g2, g3⟩ := this
  exact ⟨r', stk', g1, g2, by show e_n pc 1 lv (e_ii stk _) = _; rw [g3]; rfl⟩
theorem y_a_imul (h : y_ari .imul S s = some (S', s')) (k : y_D KT LT IV AT r S lv stk w) : ∃ r' stk', y_ex S S' r r' ∧ y_D KT LT IV AT r' S' lv stk' w ∧ e_s nL .imul pc lv stk = some (pc + 1, lv, stk') := by
  have := y_B2_ok (f := fun stk => e_ii stk fun x y => some (.int (x * y))) (by decide) (by decide) (by decide) y_mul_ok (G := fun _ => True) y_GT (by
    rintro v1 v2 _ _ rest ⟨x, rfl, rfl⟩ ⟨y, rfl, rfl⟩ hG
    exact ⟨_, _, rfl, ⟨_, rfl, rfl⟩, (y_r32 (x * y)).1, (y_r32 (x * y)).2, y_i_mul x y⟩) h k
  obtain ⟨r', stk', g1, g2, g3⟩ := this
  exact ⟨r', stk', g1, g2, by show e_n pc 1 lv (e_ii stk _) = _; rw [g3]; rfl⟩
theorem y_a_iand (h : y_ari .iand S s = some (S', s')) (k : y_D KT LT IV AT r S lv stk w) : ∃ r' stk', y_ex S S' r r' ∧ y_D KT LT IV AT r' S' lv stk' w ∧ e_s nL .iand pc lv stk = some (pc + 1, lv, stk') := by
  have := y_B2_ok (f := fun stk => e_ii stk fun x y => some (.int (x &&& y))) (by decide) (by decide) (by decide) (y_cs_ok (f := y_fa) y_and_ok) (G := fun _ => True) y_GT (by
    rintro v1 v2 _ _ rest ⟨x, rfl, rfl⟩ ⟨y, rfl, rfl⟩ hG
    exact ⟨_, _, rfl, ⟨_, rfl, rfl⟩, (y_r32 (x &&& y)).1, (y_r32 (x &&& y)).2, by unfold y_fa; rw [Int32.ofInt_toInt, Int32.ofInt_toInt], (y_i_and x y).1, (y_i_and x y).2, y_i_msk x y⟩) h k
  obtain ⟨r', stk', g1, g2, g3⟩ := this
  exact ⟨r', stk', g1, g2, by show e_n pc 1 lv (e_ii stk _) = _; rw [g3]; rfl⟩
theorem y_a_ior (h : y_ari .ior S s = some (S', s')) (k : y_D KT LT IV AT r S lv stk w) : ∃ r' stk', y_ex S S' r r' ∧ y_D KT LT IV AT r' S' lv stk' w ∧ e_s nL .ior pc lv stk = some (pc + 1, lv, stk') := by
  have := y_B2_ok (f := fun stk => e_ii stk fun x y => some (.int (x ||| y))) (by decide) (by decide) (by decide) (y_cs_ok (f := y_fo) y_or_ok) (G := fun _ => True) y_GT (by
    rintro v1 v2 _ _ rest ⟨x, rfl, rfl⟩ ⟨y, rfl, rfl⟩ hG
    exact ⟨_, _, rfl, ⟨_, rfl, rfl⟩, (y_r32 (x ||| y)).1, (y_r32 (x ||| y)).2, by unfold y_fo; rw [Int32.ofInt_toInt, Int32.ofInt_toInt], y_i_or x y⟩) h k
  obtain ⟨r', stk', g1, g2, g3⟩ := this
  exact ⟨r', stk', g1, g2, by show e_n pc 1 lv (e_ii stk _) = _; rw [g3]; rfl⟩
theorem y_a_ixor (h : y_ari .ixor S s = some (S', s')) (k : y_D KT LT IV AT r S lv stk w) : ∃ r' stk', y_ex S S' r r' ∧ y_D KT LT IV AT r' S' lv stk' w ∧ e_s nL .ixor pc lv stk = some (pc + 1, lv, stk') := by
  have := y_B2_ok (f := fun stk => e_ii stk fun x y => some (.int (x ^^^ y))) (by decide) (by decide) (by decide) (y_cs_ok (f := y_fx) y_or_ok) (G := fun _ => True) y_GT (by
    rintro v1 v2 _ _ rest ⟨x, rfl, rfl⟩ ⟨y, rfl, rfl⟩ hG
    exact ⟨_, _, rfl, ⟨_, rfl, rfl⟩, (y_r32 (x ^^^ y)).1, (y_r32 (x ^^^ y)).2, by unfold y_fx; rw [Int32.ofInt_toInt, Int32.ofInt_toInt], y_i_xor x y⟩) h k
  obtain ⟨r', stk', g1, g2, g3⟩ := this
  exact ⟨r', stk', g1, g2, by show e_n pc 1 lv (e_ii stk _) = _; rw [g3]; rfl⟩
theorem y_a_idiv (h : y_ari .idiv S s = some (S', s')) (k : y_D KT LT IV AT r S lv stk w) : ∃ r' stk', y_ex S S' r r' ∧ y_D KT LT IV AT r' S' lv stk' w ∧ e_s nL .idiv pc lv stk = some (pc + 1, lv, stk') := by
  have := y_B2_ok (f := fun stk => e_ii stk fun x y => if y = 0 then none else some (.int (x / y))) (by decide) (by decide) (by decide) y_div_ok (G := fun y => 0 < y) (fun _ _ _ _ _ _ _ _ h h0 hF => y_div_pos h0 hF h) (by
    rintro v1 v2 _ _ rest ⟨x, rfl, rfl⟩ ⟨y, rfl, rfl⟩ hG
    exact by
      have hy : y ≠ 0 := by
        rintro rfl
        exact absurd hG (by decide)
      exact ⟨_, _, by unfold e_ii; dsimp only; rw [if_neg hy]; rfl, ⟨_, rfl, rfl⟩, (y_r32 _).1, (y_r32 _).2, fun h => y_i_div x y h⟩) h k
  obtain ⟨r', stk', g1, g2, g3⟩ := this
  exact ⟨r', stk', g1, g2, by show e_n pc 1 lv (e_ii stk _) = _; rw [g3]; rfl⟩
theorem y_a_irem (h : y_ari .irem S s = some (S', s')) (k : y_D KT LT IV AT r S lv stk w) : ∃ r' stk', y_ex S S' r r' ∧ y_D KT LT IV AT r' S' lv stk' w ∧ e_s nL .irem pc lv stk = some (pc + 1, lv, stk') := by
  have := y_B2_ok (f := fun stk => e_ii stk fun x y => if y = 0 then none else some (.int (x - x / y * y))) (by decide) (by decide) (by decide) y_rem_ok (G := fun y => 0 < y) (fun _ _ _ _ _ _ _ _ h h0 hF => y_rem_pos h0 hF h) (by
    rintro v1 v2 _ _ rest ⟨x, rfl, rfl⟩ ⟨y, rfl, rfl⟩ hG
    exact by
      have hy : y ≠ 0 := by
        rintro rfl
        exact absurd hG (by decide)
      exact ⟨_, _, by unfold e_ii; dsimp only; rw [if_neg hy]; rfl, ⟨_, rfl, rfl⟩, (y_r32 _).1, (y_r32 _).2, fun h => y_i_rem x y h⟩) h k
  obtain ⟨r', stk', g1, g2, g3⟩ := this
  exact ⟨r', stk', g1, g2, by show e_n pc 1 lv (e_ii stk _) = _; rw [g3]; rfl⟩
theorem y_a_ishl (h : y_ari .ishl S s = some (S', s')) (k : y_D KT LT IV AT r S lv stk w) : ∃ r' stk', y_ex S S' r r' ∧ y_D KT LT IV AT r' S' lv stk' w ∧ e_s nL .ishl pc lv stk = some (pc + 1, lv, stk') := by
  have := y_B2_ok (f := fun stk => e_ii stk fun x y => some (.int (x <<< (y &&& 31)))) (by decide) (by decide) (by decide) y_shl_ok (G := fun _ => True) y_GT (by
    rintro v1 v2 _ _ rest ⟨x, rfl, rfl⟩ ⟨y, rfl, rfl⟩ hG
    exact ⟨_, _, rfl, ⟨_, rfl, rfl⟩, (y_r32 (x <<< (y &&& 31))).1, (y_r32 (x <<< (y &&& 31))).2, fun c hc hw => y_i_shl x y c hc hw⟩) h k
  obtain ⟨r', stk', g1, g2, g3⟩ := this
  exact ⟨r', stk', g1, g2, by show e_n pc 1 lv (e_ii stk _) = _; rw [g3]; rfl⟩
theorem y_a_ishr (h : y_ari .ishr S s = some (S', s')) (k : y_D KT LT IV AT r S lv stk w) : ∃ r' stk', y_ex S S' r r' ∧ y_D KT LT IV AT r' S' lv stk' w ∧ e_s nL .ishr pc lv stk = some (pc + 1, lv, stk') := by
  have := y_B2_ok (f := fun stk => e_ii stk fun x y => some (.int (x >>> (y &&& 31)))) (by decide) (by decide) (by decide) y_shr_ok (G := fun _ => True) y_GT (by
    rintro v1 v2 _ _ rest ⟨x, rfl, rfl⟩ ⟨y, rfl, rfl⟩ hG
    exact ⟨_, _, rfl, ⟨_, rfl, rfl⟩, (y_r32 (x >>> (y &&& 31))).1, (y_r32 (x >>> (y &&& 31))).2, fun c hc hw => y_i_shr x y c hc hw⟩) h k
  obtain ⟨r', stk', g1, g2, g3⟩ := this
  exact ⟨r', stk', g1, g2, by show e_n pc 1 lv (e_ii stk _) = _; rw [g3]; rfl⟩
theorem y_a_iushr (h : y_ari .iushr S s = some (S', s')) (k : y_D KT LT IV AT r S lv stk w) : ∃ r' stk', y_ex S S' r r' ∧ y_D KT LT IV AT r' S' lv stk' w ∧ e_s nL .iushr pc lv stk = some (pc + 1, lv, stk') := by
  have := y_B2_ok (f := fun stk => e_ii stk fun x y => some (.int ((x.toUInt32 >>> (y.toUInt32 &&& Int32.toUInt32 31)).toInt32))) (by decide) (by decide) (by decide) (y_cs_ok (f := y_fu) y_ush_ok) (G := fun _ => True) y_GT (by
    rintro v1 v2 _ _ rest ⟨x, rfl, rfl⟩ ⟨y, rfl, rfl⟩ hG
    exact ⟨_, _, rfl, ⟨_, rfl, rfl⟩, (y_r32 ((x.toUInt32 >>> (y.toUInt32 &&& Int32.toUInt32 31)).toInt32)).1, (y_r32 ((x.toUInt32 >>> (y.toUInt32 &&& Int32.toUInt32 31)).toInt32)).2, by unfold y_fu; rw [Int32.ofInt_toInt, Int32.ofInt_toInt], fun c hc hw => y_i_ush x y c hc hw⟩) h k
  obtain ⟨r', stk', g1, g2, g3⟩ := this
  exact ⟨r', stk', g1, g2, by show e_n pc 1 lv (e_ii stk _) = _; rw [g3]; rfl⟩
theorem y_a_ineg (h : y_ari .ineg S s = some (S', s')) (k : y_D KT LT IV AT r S lv stk w) : ∃ r' stk', y_ex S S' r r' ∧ y_D KT LT IV AT r' S' lv stk' w ∧ e_s nL .ineg pc lv stk = some (pc + 1, lv, stk') := by
  have := y_B1_ok (f := fun stk => e_i stk fun x => some (.int (-x))) (by decide) (by decide) (y_lin_ok (P := fun x y z => y_l32 ≤ -x → -x ≤ y_h32 → z = -x) (G := fun x y => -x) (fun r e1 e2 => by rw [g_ev_k]; omega) (fun _ _ _ h => h)) (by
    rintro v1 _ rest ⟨x, rfl, rfl⟩
    exact ⟨_, _, rfl, ⟨_, rfl, rfl⟩, (y_r32 (-x)).1, (y_r32 (-x)).2, y_i_neg x⟩) h k
  obtain ⟨r', stk', g1, g2, g3⟩ := this
  exact ⟨r', stk', g1, g2, by show e_n pc 1 lv (e_i stk _) = _; rw [g3]; rfl⟩
theorem y_a_ladd (h : y_ari .ladd S s = some (S', s')) (k : y_D KT LT IV AT r S lv stk w) : ∃ r' stk', y_ex S S' r r' ∧ y_D KT LT IV AT r' S' lv stk' w ∧ e_s nL .ladd pc lv stk = some (pc + 1, lv, stk') := by
  have := y_B2_ok (f := fun stk => e_ll stk fun x y => some (.long (x + y))) (by decide) (by decide) (by decide) (y_lin_ok (P := fun x y z => y_l64 ≤ x + y → x + y ≤ y_h64 → z = x + y) (G := fun x y => x + y) (fun r e1 e2 => g_ev_add r e1 e2) (fun _ _ _ h => h)) (G := fun _ => True) y_GT (by
    rintro v1 v2 _ _ rest ⟨x, rfl, rfl⟩ ⟨y, rfl, rfl⟩ hG
    exact ⟨_, _, rfl, ⟨_, rfl, rfl⟩, (y_r64 (x + y)).1, (y_r64 (x + y)).2, y_l_add x y⟩) h k
  obtain ⟨r', stk', g1, g2, g3⟩ := this
  exact ⟨r', stk', g1, g2, by show e_n pc 1 lv (e_ll stk _) = _; rw [g3]; rfl⟩
theorem y_a_lsub (h : y_ari .lsub S s = some (S', s')) (k : y_D KT LT IV AT r S lv stk w) : ∃ r' stk', y_ex S S' r r' ∧ y_D KT LT IV AT r' S' lv stk' w ∧ e_s nL .lsub pc lv stk = some (pc + 1, lv, stk') := by
  have := y_B2_ok (f := fun stk => e_ll stk fun x y => some (.long (x - y))) (by decide) (by decide) (by decide) (y_lin_ok (P := fun x y z => y_l64 ≤ x - y → x - y ≤ y_h64 → z = x - y) (G := fun x y => x - y) (fun r e1 e2 => g_ev_sub r e1 e2) (fun _ _ _ h => h)) (G := fun _ => True) y_GT (by
    rintro v1 v2 _ _ rest ⟨x, rfl, rfl⟩ ⟨y, rfl, rfl⟩ hG
    exact ⟨_, _, rfl, ⟨_, rfl, rfl⟩, (y_r64 (x - y)).1, (y_r64 (x - y)).2, y_l_sub x y⟩) h k
  obtain ⟨r', stk', g1, g2, g3⟩ := this
  exact ⟨r', stk', g1, g2, by show e_n pc 1 lv (e_ll stk _) = _; rw [g3]; rfl⟩
theorem y_a_lmul (h : y_ari .lmul S s = some (S', s')) (k : y_D KT LT IV AT r S lv stk w) : ∃ r' stk', y_ex S S' r r' ∧ y_D KT LT IV AT r' S' lv stk' w ∧ e_s nL .lmul pc lv stk = some (pc + 1, lv, stk') := by
  have := y_B2_ok (f := fun stk => e_ll stk fun x y => some (.long (x * y))) (by decide) (by decide) (by decide) y_mul_ok (G := fun _ => True) y_GT (by
    rintro v1 v2 _ _ rest ⟨x, rfl, rfl⟩ ⟨y, rfl, rfl⟩ hG
    exact ⟨_, _, rfl, ⟨_, rfl, rfl⟩, (y_r64 (x * y)).1, (y_r64 (x * y)).2, y_l_mul x y⟩) h k
  obtain ⟨r', stk', g1, g2, g3⟩ := this
  exact ⟨r', stk', g1, g2, by show e_n pc 1 lv (e_ll stk _) = _; rw [g3]; rfl⟩
theorem y_a_land (h : y_ari .land S s = some (S', s')) (k : y_D KT LT IV AT r S lv stk w) : ∃ r' stk', y_ex S S' r r' ∧ y_D KT LT IV AT r' S' lv stk' w ∧ e_s nL .land pc lv stk = some (pc + 1, lv, stk') := by
  have := y_B2_ok (f := fun stk => e_ll stk fun x y => some (.long (x &&& y))) (by decide) (by decide) (by decide) y_and_ok (G := fun _ => True) y_GT (by
    rintro v1 v2 _ _ rest ⟨x, rfl, rfl⟩ ⟨y, rfl, rfl⟩ hG
    exact ⟨_, _, rfl, ⟨_, rfl, rfl⟩, (y_r64 (x &&& y)).1, (y_r64 (x &&& y)).2, (y_l_and x y).1, (y_l_and x y).2, y_l_msk x y⟩) h k
  obtain ⟨r', stk', g1, g2, g3⟩ := this
  exact ⟨r', stk', g1, g2, by show e_n pc 1 lv (e_ll stk _) = _; rw [g3]; rfl⟩
theorem y_a_lor (h : y_ari .lor S s = some (S', s')) (k : y_D KT LT IV AT r S lv stk w) : ∃ r' stk', y_ex S S' r r' ∧ y_D KT LT IV AT r' S' lv stk' w ∧ e_s nL .lor pc lv stk = some (pc + 1, lv, stk') := by
  have := y_B2_ok (f := fun stk => e_ll stk fun x y => some (.long (x ||| y))) (by decide) (by decide) (by decide) y_or_ok (G := fun _ => True) y_GT (by
    rintro v1 v2 _ _ rest ⟨x, rfl, rfl⟩ ⟨y, rfl, rfl⟩ hG
    exact ⟨_, _, rfl, ⟨_, rfl, rfl⟩, (y_r64 (x ||| y)).1, (y_r64 (x ||| y)).2, y_l_or x y⟩) h k
  obtain ⟨r', stk', g1, g2, g3⟩ := this
  exact ⟨r', stk', g1, g2, by show e_n pc 1 lv (e_ll stk _) = _; rw [g3]; rfl⟩
theorem y_a_lxor (h : y_ari .lxor S s = some (S', s')) (k : y_D KT LT IV AT r S lv stk w) : ∃ r' stk', y_ex S S' r r' ∧ y_D KT LT IV AT r' S' lv stk' w ∧ e_s nL .lxor pc lv stk = some (pc + 1, lv, stk') := by
  have := y_B2_ok (f := fun stk => e_ll stk fun x y => some (.long (x ^^^ y))) (by decide) (by decide) (by decide) y_or_ok (G := fun _ => True) y_GT (by
    rintro v1 v2 _ _ rest ⟨x, rfl, rfl⟩ ⟨y, rfl, rfl⟩ hG
    exact ⟨_, _, rfl, ⟨_, rfl, rfl⟩, (y_r64 (x ^^^ y)).1, (y_r64 (x ^^^ y)).2, y_l_xor x y⟩) h k
  obtain ⟨r', stk', g1, g2, g3⟩ := this
  exact ⟨r', stk', g1, g2, by show e_n pc 1 lv (e_ll stk _) = _; rw [g3]; rfl⟩
theorem y_a_ldiv (h : y_ari .ldiv S s = some (S', s')) (k : y_D KT LT IV AT r S lv stk w) : ∃ r' stk', y_ex S S' r r' ∧ y_D KT LT IV AT r' S' lv stk' w ∧ e_s nL .ldiv pc lv stk = some (pc + 1, lv, stk') := by
  have := y_B2_ok (f := fun stk => e_ll stk fun x y => if y = 0 then none else some (.long (x / y))) (by decide) (by decide) (by decide) (y_ng_ok y_div_ok) (G := fun y => y ≠ 0) (fun _ _ _ _ _ _ _ _ h h0 hF => y_ng_nz h0 hF (fun _ h => y_div_pos h0 hF h) h) (by
    rintro v1 v2 _ _ rest ⟨x, rfl, rfl⟩ ⟨y, rfl, rfl⟩ hG
    exact by
      have hy : y ≠ 0 := by
        rintro rfl
        exact hG rfl
      exact ⟨_, _, by unfold e_ll; dsimp only; rw [if_neg hy]; rfl, ⟨_, rfl, rfl⟩, (y_r64 _).1, (y_r64 _).2, fun h => y_l_div x y h⟩) h k
  obtain ⟨r', stk', g1, g2, g3⟩ := this
  exact ⟨r', stk', g1, g2, by show e_n pc 1 lv (e_ll stk _) = _; rw [g3]; rfl⟩
theorem y_a_lrem (h : y_ari .lrem S s = some (S', s')) (k : y_D KT LT IV AT r S lv stk w) : ∃ r' stk', y_ex S S' r r' ∧ y_D KT LT IV AT r' S' lv stk' w ∧ e_s nL .lrem pc lv stk = some (pc + 1, lv, stk') := by
  have := y_B2_ok (f := fun stk => e_ll stk fun x y => if y = 0 then none else some (.long (x - x / y * y))) (by decide) (by decide) (by decide) (y_ng_ok y_rem_ok) (G := fun y => y ≠ 0) (fun _ _ _ _ _ _ _ _ h h0 hF => y_ng_nz h0 hF (fun _ h => y_rem_pos h0 hF h) h) (by
    rintro v1 v2 _ _ rest ⟨x, rfl, rfl⟩ ⟨y, rfl, rfl⟩ hG
    exact by
      have hy : y ≠ 0 := by
        rintro rfl
        exact hG rfl
      exact ⟨_, _, by unfold e_ll; dsimp only; rw [if_neg hy]; rfl, ⟨_, rfl, rfl⟩, (y_r64 _).1, (y_r64 _).2, fun h => y_l_rem x y h⟩) h k
  obtain ⟨r', stk', g1, g2, g3⟩ := this
  exact ⟨r', stk', g1, g2, by show e_n pc 1 lv (e_ll stk _) = _; rw [g3]; rfl⟩
theorem y_a_lshl (h : y_ari .lshl S s = some (S', s')) (k : y_D KT LT IV AT r S lv stk w) : ∃ r' stk', y_ex S S' r r' ∧ y_D KT LT IV AT r' S' lv stk' w ∧ e_s nL .lshl pc lv stk = some (pc + 1, lv, stk') := by
  have := y_B2_ok (f := fun stk => e_li stk fun x y => some (.long (x <<< (y.toInt64 &&& 63)))) (by decide) (by decide) (by decide) y_shl_ok (G := fun _ => True) y_GT (by
    rintro v1 v2 _ _ rest ⟨x, rfl, rfl⟩ ⟨y, rfl, rfl⟩ hG
    exact ⟨_, _, rfl, ⟨_, rfl, rfl⟩, (y_r64 (x <<< (y.toInt64 &&& 63))).1, (y_r64 (x <<< (y.toInt64 &&& 63))).2, fun c hc hw => y_l_shl x y c hc hw⟩) h k
  obtain ⟨r', stk', g1, g2, g3⟩ := this
  exact ⟨r', stk', g1, g2, by show e_n pc 1 lv (e_li stk _) = _; rw [g3]; rfl⟩
theorem y_a_lshr (h : y_ari .lshr S s = some (S', s')) (k : y_D KT LT IV AT r S lv stk w) : ∃ r' stk', y_ex S S' r r' ∧ y_D KT LT IV AT r' S' lv stk' w ∧ e_s nL .lshr pc lv stk = some (pc + 1, lv, stk') := by
  have := y_B2_ok (f := fun stk => e_li stk fun x y => some (.long (x >>> (y.toInt64 &&& 63)))) (by decide) (by decide) (by decide) y_shr_ok (G := fun _ => True) y_GT (by
    rintro v1 v2 _ _ rest ⟨x, rfl, rfl⟩ ⟨y, rfl, rfl⟩ hG
    exact ⟨_, _, rfl, ⟨_, rfl, rfl⟩, (y_r64 (x >>> (y.toInt64 &&& 63))).1, (y_r64 (x >>> (y.toInt64 &&& 63))).2, fun c hc hw => y_l_shr x y c hc hw⟩) h k
  obtain ⟨r', stk', g1, g2, g3⟩ := this
  exact ⟨r', stk', g1, g2, by show e_n pc 1 lv (e_li stk _) = _; rw [g3]; rfl⟩
theorem y_a_lushr (h : y_ari .lushr S s = some (S', s')) (k : y_D KT LT IV AT r S lv stk w) : ∃ r' stk', y_ex S S' r r' ∧ y_D KT LT IV AT r' S' lv stk' w ∧ e_s nL .lushr pc lv stk = some (pc + 1, lv, stk') := by
  have := y_B2_ok (f := fun stk => e_li stk fun x y => some (.long ((x.toUInt64 >>> (y.toInt64.toUInt64 &&& Int64.toUInt64 63)).toInt64))) (by decide) (by decide) (by decide) y_ush_ok (G := fun _ => True) y_GT (by
    rintro v1 v2 _ _ rest ⟨x, rfl, rfl⟩ ⟨y, rfl, rfl⟩ hG
    exact ⟨_, _, rfl, ⟨_, rfl, rfl⟩, (y_r64 ((x.toUInt64 >>> (y.toInt64.toUInt64 &&& Int64.toUInt64 63)).toInt64)).1, (y_r64 ((x.toUInt64 >>> (y.toInt64.toUInt64 &&& Int64.toUInt64 63)).toInt64)).2, fun c hc hw => y_l_ush x y c hc hw⟩) h k
  obtain ⟨r', stk', g1, g2, g3⟩ := this
  exact ⟨r', stk', g1, g2, by show e_n pc 1 lv (e_li stk _) = _; rw [g3]; rfl⟩
theorem y_a_lneg (h : y_ari .lneg S s = some (S', s')) (k : y_D KT LT IV AT r S lv stk w) : ∃ r' stk', y_ex S S' r r' ∧ y_D KT LT IV AT r' S' lv stk' w ∧ e_s nL .lneg pc lv stk = some (pc + 1, lv, stk') := by
  have := y_B1_ok (f := fun stk => e_l stk fun x => some (.long (-x))) (by decide) (by decide) (y_lin_ok (P := fun x y z => y_l64 ≤ -x → -x ≤ y_h64 → z = -x) (G := fun x y => -x) (fun r e1 e2 => by rw [g_ev_k]; omega) (fun _ _ _ h => h)) (by
    rintro v1 _ rest ⟨x, rfl, rfl⟩
    exact ⟨_, _, rfl, ⟨_, rfl, rfl⟩, (y_r64 (-x)).1, (y_r64 (-x)).2, y_l_neg x⟩) h k
  obtain ⟨r', stk', g1, g2, g3⟩ := this
  exact ⟨r', stk', g1, g2, by show e_n pc 1 lv (e_l stk _) = _; rw [g3]; rfl⟩
theorem y_a_i2l (h : y_ari .i2l S s = some (S', s')) (k : y_D KT LT IV AT r S lv stk w) : ∃ r' stk', y_ex S S' r r' ∧ y_D KT LT IV AT r' S' lv stk' w ∧ e_s nL .i2l pc lv stk = some (pc + 1, lv, stk') := by
  have := y_B1_ok (f := fun stk => e_i stk fun x => some (.long x.toInt64)) (by decide) (by decide) (y_idn_ok (lo := y_l64) (hi := y_h64)) (by
    rintro v1 _ rest ⟨x, rfl, rfl⟩
    exact ⟨_, _, rfl, ⟨_, rfl, rfl⟩, (y_r64 _).1, (y_r64 _).2, Int32.toInt_toInt64 x⟩) h k
  obtain ⟨r', stk', g1, g2, g3⟩ := this
  exact ⟨r', stk', g1, g2, by show e_n pc 1 lv (e_i stk _) = _; rw [g3]; rfl⟩
theorem y_a_i2b (h : y_ari .i2b S s = some (S', s')) (k : y_D KT LT IV AT r S lv stk w) : ∃ r' stk', y_ex S S' r r' ∧ y_D KT LT IV AT r' S' lv stk' w ∧ e_s nL .i2b pc lv stk = some (pc + 1, lv, stk') := by
  have := y_B1_ok (f := fun stk => e_i stk fun x => some (.int x.toInt8.toInt32)) (by decide) (by decide) (y_lin_ok (P := fun x y z => (-128) ≤ x → x ≤ 127 → z = x) (G := fun x y => x) (fun r e1 e2 => rfl) (fun _ _ _ h => h)) (by
    rintro v1 _ rest ⟨x, rfl, rfl⟩
    exact ⟨_, _, rfl, ⟨_, rfl, rfl⟩, (y_i2b x).1, (y_i2b x).2.1, (y_i2b x).2.2⟩) h k
  obtain ⟨r', stk', g1, g2, g3⟩ := this
  exact ⟨r', stk', g1, g2, by show e_n pc 1 lv (e_i stk _) = _; rw [g3]; rfl⟩
theorem y_a_l2i (h : y_ari .l2i S s = some (S', s')) (k : y_D KT LT IV AT r S lv stk w) : ∃ r' stk', y_ex S S' r r' ∧ y_D KT LT IV AT r' S' lv stk' w ∧ e_s nL .l2i pc lv stk = some (pc + 1, lv, stk') := by
  have := y_B1_ok (f := fun stk => e_l stk fun x => some (.int x.toInt32)) (by decide) (by decide) (y_lin_ok (P := fun x y z => y_l32 ≤ x → x ≤ y_h32 → z = x) (G := fun x y => x) (fun r e1 e2 => rfl) (fun _ _ _ h => h)) (by
    rintro v1 _ rest ⟨x, rfl, rfl⟩
    exact ⟨_, _, rfl, ⟨_, rfl, rfl⟩, (y_r32 _).1, (y_r32 _).2, fun h1 h2 => by rw [Int64.toInt_toInt32, y_bm32 h1 h2]⟩) h k
  obtain ⟨r', stk', g1, g2, g3⟩ := this
  exact ⟨r', stk', g1, g2, by show e_n pc 1 lv (e_l stk _) = _; rw [g3]; rfl⟩
end Y_AR
theorem y_ari_ok {KT : Nat → Option (Nat ⊕ Nat)} {LT : Nat → Option Nat} {IV : y_W → Prop} {AT : Nat → List Int → y_W → Prop} {r : Nat → Int} {S S' : y_S} {lv : e_LV} {stk : List Value} {w : y_W} {s s' : y_Str} {nL pc : Nat} : ∀ {ins : Instr}, y_ari ins S s = some (S', s') → y_D KT LT IV AT r S lv stk w → ∃ r' stk', y_ex S S' r r' ∧ y_D KT LT IV AT r' S' lv stk' w ∧ e_s nL ins pc lv stk = some (pc + 1, lv, stk') ∧ e_lf ins 1 = 1
  | ins, h, k => by
    unfold y_ari at h
    split at h
    · obtain ⟨r', stk', g1, g2, g3⟩ := y_a_iadd (nL := nL) (pc := pc) h k
      exact ⟨r', stk', g1, g2, g3, rfl⟩
    · obtain ⟨r', stk', g1, g2, g3⟩ := y_a_isub (nL := nL) (pc := pc) h k
      exact ⟨r', stk', g1, g2, g3, rfl⟩
    · obtain ⟨r', stk', g1, g2, g3⟩ := y_a_imul (nL := nL) (pc := pc) h k
      exact ⟨r', stk', g1, g2, g3, rfl⟩
    · obtain ⟨r', stk', g1, g2, g3⟩ := y_a_iand (nL := nL) (pc := pc) h k
      exact ⟨r', stk', g1, g2, g3, rfl⟩
    · obtain ⟨r', stk', g1, g2, g3⟩ := y_a_ior (nL := nL) (pc := pc) h k
      exact ⟨r', stk', g1, g2, g3, rfl⟩
    · obtain ⟨r', stk', g1, g2, g3⟩ := y_a_ixor (nL := nL) (pc := pc) h k
      exact ⟨r', stk', g1, g2, g3, rfl⟩
    · obtain ⟨r', stk', g1, g2, g3⟩ := y_a_idiv (nL := nL) (pc := pc) h k
      exact ⟨r', stk', g1, g2, g3, rfl⟩
    · obtain ⟨r', stk', g1, g2, g3⟩ := y_a_irem (nL := nL) (pc := pc) h k
      exact ⟨r', stk', g1, g2, g3, rfl⟩
    · obtain ⟨r', stk', g1, g2, g3⟩ := y_a_ishl (nL := nL) (pc := pc) h k
      exact ⟨r', stk', g1, g2, g3, rfl⟩
    · obtain ⟨r', stk', g1, g2, g3⟩ := y_a_ishr (nL := nL) (pc := pc) h k
      exact ⟨r', stk', g1, g2, g3, rfl⟩
    · obtain ⟨r', stk', g1, g2, g3⟩ := y_a_iushr (nL := nL) (pc := pc) h k
      exact ⟨r', stk', g1, g2, g3, rfl⟩
    · obtain ⟨r', stk', g1, g2, g3⟩ := y_a_ineg (nL := nL) (pc := pc) h k
      exact ⟨r', stk', g1, g2, g3, rfl⟩
    · obtain ⟨r', stk', g1, g2, g3⟩ := y_a_i2l (nL := nL) (pc := pc) h k
      exact ⟨r', stk', g1, g2, g3, rfl⟩
    · obtain ⟨r', stk', g1, g2, g3⟩ := y_a_i2b (nL := nL) (pc := pc) h k
      exact ⟨r', stk', g1, g2, g3, rfl⟩
    · obtain ⟨r', stk', g1, g2, g3⟩ := y_a_l2i (nL := nL) (pc := pc) h k
      exact ⟨r', stk', g1, g2, g3, rfl⟩
    · obtain ⟨r', stk', g1, g2, g3⟩ := y_a_lneg (nL := nL) (pc := pc) h k
      exact ⟨r', stk', g1, g2, g3, rfl⟩
    · obtain ⟨r', stk', g1, g2, g3⟩ := y_a_ladd (nL := nL) (pc := pc) h k
      exact ⟨r', stk', g1, g2, g3, rfl⟩
    · obtain ⟨r', stk', g1, g2, g3⟩ := y_a_lsub (nL := nL) (pc := pc) h k
      exact ⟨r', stk', g1, g2, g3, rfl⟩
    · obtain ⟨r', stk', g1, g2, g3⟩ := y_a_lmul (nL := nL) (pc := pc) h k
      exact ⟨r', stk', g1, g2, g3, rfl⟩
    · obtain ⟨r', stk', g1, g2, g3⟩ := y_a_land (nL := nL) (pc := pc) h k
      exact ⟨r', stk', g1, g2, g3, rfl⟩
    · obtain ⟨r', stk', g1, g2, g3⟩ := y_a_lor (nL := nL) (pc := pc) h k
      exact ⟨r', stk', g1, g2, g3, rfl⟩
    · obtain ⟨r', stk', g1, g2, g3⟩ := y_a_lxor (nL := nL) (pc := pc) h k
      exact ⟨r', stk', g1, g2, g3, rfl⟩
    · obtain ⟨r', stk', g1, g2, g3⟩ := y_a_ldiv (nL := nL) (pc := pc) h k
      exact ⟨r', stk', g1, g2, g3, rfl⟩
    · obtain ⟨r', stk', g1, g2, g3⟩ := y_a_lrem (nL := nL) (pc := pc) h k
      exact ⟨r', stk', g1, g2, g3, rfl⟩
    · obtain ⟨r', stk', g1, g2, g3⟩ := y_a_lshl (nL := nL) (pc := pc) h k
      exact ⟨r', stk', g1, g2, g3, rfl⟩
    · obtain ⟨r', stk', g1, g2, g3⟩ := y_a_lshr (nL := nL) (pc := pc) h k
      exact ⟨r', stk', g1, g2, g3, rfl⟩
    · obtain ⟨r', stk', g1, g2, g3⟩ := y_a_lushr (nL := nL) (pc := pc) h k
      exact ⟨r', stk', g1, g2, g3, rfl⟩
    · cases h
end
