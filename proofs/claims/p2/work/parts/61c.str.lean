/-! PART 61c: constant Strings' own fields, static numbers -/
noncomputable section
def e_pG (sf : Nat → Nat → Nat) (xo : Nat → Option Nat) (si : Nat → Nat → Option Nat) (xi : Nat → Option (String × String × String × Int32)) : e_EX0 := fun M ins len pc _ stk _ => match ins with
  | .getfield idx => match stk with
    | .ref q :: r => if len = 3 then (match sf (e_mo M) idx with
      | 1 => (xo q).map fun v => (pc + 3, .ref v :: r)
      | 2 => (xo q).map fun _ => (pc + 3, .int 0 :: r)
      | _ => none) else none
    | _ => none
  | .getstatic idx => if len = 3 then (match si (e_mo M) idx with
    | some k => (xi k).map fun x => (pc + 3, .int x.2.2.2 :: stk)
    | none => none) else none
  | _ => none
/-- what the words say of them -/
def e_OKPG (W0 : List Cond) (own : Nat → String) (sf : Nat → Nat → Nat) (si : Nat → Nat → Option Nat) (xi : Nat → Option (String × String × String × Int32)) : Prop := ∀ o idx,
  (sf o idx = 1 → Cond.fieldLink (own o) idx "java/lang/String" "value" "[B" ∈ W0) ∧
  (sf o idx = 2 → Cond.fieldLink (own o) idx "java/lang/String" "coder" "B" ∈ W0) ∧
  ∀ k x, si o idx = some k → xi k = some x → Cond.fieldLink (own o) idx x.1 x.2.1 x.2.2.1 ∈ W0
section E_PG
variable {l : Launch} {ad : Nat → Nat} {D : va_G} {cl : List vw_C} {tys : List (ClassId × FieldType)} {fty : Nat → Nat → FieldType} {W0 Z0 : List Cond} {own : Nat → String} {b0 d : Nat}
variable {xa : Nat → Option (FieldType × Nat × (Nat → Value))} {xs : Nat → Option (String × String × String)} {xo : Nat → Option Nat} {xi : Nat → Option (String × String × String × Int32)} {sr : Nat → Nat → Option Nat} {sf : Nat → Nat → Nat} {si : Nat → Nat → Option Nat}
theorem e_pG_ok (hG : e_OKPG W0 own sf si xi) : e_EX0S l ad D cl tys fty W0 Z0 (e_XB ad own b0 xa xs xo xi sr) own b0 d (e_pG sf xo si xi) := by
  intro p e R s m args below meth c Q H locs ls cells slots M ins len pc lv stk st pc' stk' h hM hx hb hml hg hW0 hz hZ0 hXB hown hK had hb0 hR hS hdec hRf hRl hc hs kk
  obtain ⟨h1, h2, h3, h4, h5⟩ := hXB
  unfold e_pG at h
  split at h
  · rename_i idx
    split at h
    · rename_i q r
      split at h
      · rename_i hlen
        subst hlen
        split at h
        · rename_i hsf
          obtain ⟨v, hq, h9⟩ := Option.map_eq_some_iff.mp h
          cases h9
          exact vk_getf hx hb (h3 q v hq).2.2 hS hown (hW0 _ ((hG _ _).1 hsf)) (fun _ h9 => h9) hdec kk
        · rename_i hsf
          obtain ⟨v, hq, h9⟩ := Option.map_eq_some_iff.mp h
          cases h9
          exact vk_getf hx hb (h3 q v hq).2.1 hS hown (hW0 _ ((hG _ _).2.1 hsf)) (fun _ h9 => h9) hdec kk
        · cases h
      · cases h
    · cases h
  · rename_i idx
    split at h
    · rename_i hlen
      subst hlen
      split at h
      · rename_i k hk
        obtain ⟨x, hq, h9⟩ := Option.map_eq_some_iff.mp h
        cases h9
        exact va_gets hx hb (h4 k x hq) hS hown (hW0 _ ((hG _ _).2.2 k x hk hq)) (fun _ h9 => h9) hdec kk
      · cases h
    · cases h
  · cases h
end E_PG
end
