/-! PART 19: Math's min, max, abs; references compared -/
noncomputable section
def e_pM (pm : Nat → Nat → Nat) : e_EX0 := fun M ins len pc _ stk _ => match ins with
  | .invokestatic idx => if len = 3 then (match pm (e_mo M) idx, stk with
    | 1, .int y :: .int x :: r => if e_cat r ≤ 8 then some (pc + 3, .int (if y < x then y else x) :: r) else none
    | 2, .int y :: .int x :: r => if e_cat r ≤ 8 then some (pc + 3, .int (if x < y then y else x) :: r) else none
    | 3, .long x :: r => if e_cat r ≤ 8 then some (pc + 3, .long (if 0 < x then x else -x) :: r) else none
    | 4, .long y :: .long x :: r => if e_cat r ≤ 8 then some (pc + 3, .long (if y < x then y else x) :: r) else none
    | _, _ => none) else none
  | _ => none
/-- what the words say of them -/
def e_OKPM (W0 : List Cond) (own : Nat → String) (pm : Nat → Nat → Nat) : Prop := ∀ o idx,
  (pm o idx = 1 → Cond.methodLink (own o) idx Lib.Math.min.name ∈ W0 ∧ Cond.static Lib.Math.min.name ∈ W0 ∧ Cond.initialized "java/lang/Math" ∈ W0 ∧ Cond.code Lib.Math.min.name Lib.Math.min.code 2 (some .int) ∈ W0) ∧
  (pm o idx = 2 → Cond.methodLink (own o) idx Lib.Math.max.name ∈ W0 ∧ Cond.static Lib.Math.max.name ∈ W0 ∧ Cond.initialized "java/lang/Math" ∈ W0 ∧ Cond.code Lib.Math.max.name Lib.Math.max.code 2 (some .int) ∈ W0) ∧
  (pm o idx = 3 → Cond.methodLink (own o) idx Lib.MathLoose.abs_long.x ∈ W0 ∧ Cond.static Lib.MathLoose.abs_long.x ∈ W0 ∧ Cond.initialized "java/lang/Math" ∈ W0 ∧ Cond.code Lib.MathLoose.abs_long.x Lib.MathLoose.abs_long.code 2 (some .long) ∈ W0) ∧
  (pm o idx = 4 → Cond.methodLink (own o) idx Lib.MathLoose.min_long.x ∈ W0 ∧ Cond.static Lib.MathLoose.min_long.x ∈ W0 ∧ Cond.initialized "java/lang/Math" ∈ W0 ∧ Cond.code Lib.MathLoose.min_long.x Lib.MathLoose.min_long.code 4 (some .long) ∈ W0)
section E_P
variable {l : Launch} {ad : Nat → Nat} {D : va_G} {cl : List vw_C} {tys : List (ClassId × FieldType)} {fty : Nat → Nat → FieldType} {W0 Z0 : List Cond} {XB : State → Heap → Prop} {own : Nat → String} {b0 d : Nat}
theorem e_mv_sum {ad : Nat → Nat} {r : List Value} (h : e_cat r ≤ 8) : ((List.map (e_vm ad) r).map fun v => v.category).sum ≤ 8 := by
  have h1 := e_mv_cat ad r
  unfold e_mv at h1
  rw [h1]
  exact h
theorem e_pM_ok {pm : Nat → Nat → Nat} (hP : e_OKPM W0 own pm) : e_EX0S l ad D cl tys fty W0 Z0 XB own b0 d (e_pM pm) := by
  intro p e R s m args below meth c Q H locs ls cells slots M ins len pc lv stk st pc' stk' h hM hx hb hml hg hW0 hz hZ0 hXB hown hK had hb0 hR hS hdec hRf hRl hc hs kk
  unfold e_pM at h
  split at h
  · rename_i idx
    split at h
    · rename_i hlen
      subst hlen
      obtain ⟨q1, q2, q3, q4⟩ := hP (e_mo M) idx
      split at h
      · rename_i y x r hk
        split at h
        · rename_i hr
          cases h
          have g := e_mv_sum (ad := ad) hr
          obtain ⟨w1, w2, w3, w4⟩ := q1 hk
          exact va_mmin hx hb hml hown (hW0 _ w1) (hW0 _ w2) (hW0 _ w3) (hW0 _ w4) (by omega) (by omega) hc hs hdec kk
        · cases h
      · rename_i y x r hk
        split at h
        · rename_i hr
          cases h
          have g := e_mv_sum (ad := ad) hr
          obtain ⟨w1, w2, w3, w4⟩ := q2 hk
          exact va_mmax hx hb hml hown (hW0 _ w1) (hW0 _ w2) (hW0 _ w3) (hW0 _ w4) (by omega) (by omega) hc hs hdec kk
        · cases h
      · rename_i x r hk
        split at h
        · rename_i hr
          cases h
          have g := e_mv_sum (ad := ad) hr
          obtain ⟨w1, w2, w3, w4⟩ := q3 hk
          exact va_mabs_long hx hb hml hown (hW0 _ w1) (hW0 _ w2) (hW0 _ w3) (hW0 _ w4) (by omega) (by omega) hc hs hdec kk
        · cases h
      · rename_i y x r hk
        split at h
        · rename_i hr
          cases h
          have g := e_mv_sum (ad := ad) hr
          obtain ⟨w1, w2, w3, w4⟩ := q4 hk
          exact va_mmin_long hx hb hml hown (hW0 _ w1) (hW0 _ w2) (hW0 _ w3) (hW0 _ w4) (by omega) (by omega) hc hs hdec kk
        · cases h
      · cases h
    · cases h
  · cases h
/-- a reference below the bound, or null -/
def e_ro : Value → Option (Option Nat)
  | .null => some none
  | .ref a => if a < e_lim then some (some a) else none
  | _ => none
def e_pA : e_EX0 := fun _ ins len pc _ stk _ => match ins, stk with
  | .if_acmp c off, v2 :: v1 :: r => if len = 3 then (match e_ro v1, e_ro v2, e_tg pc off, c with
    | some x, some y, some g, .eq => some (if x = y then g else pc + 3, r)
    | some x, some y, some g, .ne => some (if x = y then pc + 3 else g, r)
    | _, _, _, _ => none) else none
  | _, _ => none
theorem e_ro_ok (had : e_AD ad b0) {v : Value} {x : Option Nat} (h : e_ro v = some x) : e_vm ad v = va_rf (x.map ad) ∧ ∀ a, x = some a → ad a = b0 + a := by
  unfold e_ro at h
  split at h
  · cases h
    exact ⟨rfl, fun a q => by cases q⟩
  · split at h
    · rename_i a ha
      cases h
      exact ⟨rfl, fun b q => by cases q; exact had _ ha⟩
    · cases h
  · cases h
theorem e_ro_eq {x y : Option Nat} (hx : ∀ a, x = some a → ad a = b0 + a) (hy : ∀ a, y = some a → ad a = b0 + a) : x.map ad = y.map ad ↔ x = y := by
  refine ⟨fun q => ?_, fun q => by rw [q]⟩
  match x, y, hx, hy, q with
  | none, none, _, _, _ => rfl
  | none, some b, _, _, q => cases q
  | some a, none, _, _, q => cases q
  | some a, some b, hx, hy, q =>
    have h1 := Option.some.inj q
    rw [hx a rfl, hy b rfl] at h1
    rw [show a = b by omega]
theorem e_pA_ok : e_EX0S l ad D cl tys fty W0 Z0 XB own b0 d e_pA := by
  intro p e R s m args below meth c Q H locs ls cells slots M ins len pc lv stk st pc' stk' h hM hx hb hml hg hW0 hz hZ0 hXB hown hK had hb0 hR hS hdec hRf hRl hc hs kk
  unfold e_pA at h
  split at h
  · rename_i cd off v2 v1 r
    split at h
    · rename_i hlen
      subst hlen
      split at h
      · rename_i x y g h1 h2 h3
        cases h
        obtain ⟨e1, a1⟩ := e_ro_ok had h1
        obtain ⟨e2, a2⟩ := e_ro_ok had h2
        have hxy := e_ro_eq a1 a2
        show W p l e R s m args below meth c H locs cells slots Q (F0 m pc ls (e_vm ad v2 :: e_vm ad v1 :: e_mv ad _))
        rw [e1, e2]
        refine lv_acmp_eq hx hb hdec (e_tg_ok h3) (fun q => ?_) (fun q => ?_)
        · rw [if_pos (hxy.mp q)] at kk
          exact kk
        · rw [if_neg (fun z => q (hxy.mpr z))] at kk
          exact kk
      · rename_i x y g h1 h2 h3
        cases h
        obtain ⟨e1, a1⟩ := e_ro_ok had h1
        obtain ⟨e2, a2⟩ := e_ro_ok had h2
        have hxy := e_ro_eq a1 a2
        show W p l e R s m args below meth c H locs cells slots Q (F0 m pc ls (e_vm ad v2 :: e_vm ad v1 :: e_mv ad _))
        rw [e1, e2]
        refine lv_acmp_ne hx hb hdec (e_tg_ok h3) (fun q => ?_) (fun q => ?_)
        · rw [if_neg (fun z => q (hxy.mpr z))] at kk
          exact kk
        · have q' : x.map ad = y.map ad := by first | exact q | exact Classical.not_not.mp q
          rw [if_pos (hxy.mp q')] at kk
          exact kk
      · cases h
    · cases h
  · cases h
end E_P
end
