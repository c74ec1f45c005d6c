/-! PART 20: constant Strings, statics' arrays, static numbers: how they are read -/
noncomputable section
section E_R
variable {p : Program} {l : Launch} {e : Env} {R : Room} {s : State} {m : MethodId} {args : Array Value} {below : List Frame} {meth : Method} {c : Code} {H : Heap} {locs : List Loc} {cells slots : Nat} {Q : State → Prop}
variable {cc : ByteArray} {pc : Nat} {ls : Array Slot} {rest : List Value}
/-- ldc_w of a String constant -/
theorem e_ldcwS (hexec : p.tables.exec = Jvm.exec) (hb : c.code = cc) {own tx : String} {index q : Nat} (hown : s.vm.findClass own = some m.cls) (hZ : vk_R own index tx q s) (hdg : decode cc pc = .ok (.ldc_w index, 3))
    (k : W p l e R s m args below meth c H locs cells slots Q (F0 m (pc + 3) ls (.ref q :: rest))) : W p l e R s m args below meth c H locs cells slots Q (F0 m pc ls rest) := by
  intro T hT X
  obtain ⟨t, a1, b1⟩ := k T hT X
  refine ⟨t, ?_, b1⟩
  obtain ⟨k0, cf, i, a', hk, hcf, hcp, -, hr, hev'⟩ := Cond.stringRef_spec hown hZ.1
  cases hZ.2.symm.trans hev'
  obtain ⟨k', hk', he⟩ := X.warmed.alike.2.2 _ _ hk
  have hr' : k'.resolved[index]? = some (some (.string q)) := by
    rcases X.warmed.entry hk hk' index with h | ⟨h, -⟩
    · rw [h]; exact hr
    · rw [hr] at h; cases h
  have hd' : decode c.code pc = .ok (.ldc_w index, 3) := by rw [hb]; exact hdg
  jvm_step X.here [hexec, hd', ldc_w.wp_string (e := e) (s := T) (f := F0 m pc ls rest) X.here.top hk' (by rw [he]; exact hcf) hcp hr']
  exact a1
end E_R
/-- the values that constants hold: numbers alone -/
def e_pv : Value → Bool
  | .int _ => true
  | .long _ => true
  | _ => false
theorem e_pv_m {ad : Nat → Nat} {v : Value} (h : e_pv v = true) : e_vm ad v = v := by cases v <;> first | rfl | cases h
def e_pR (xa : Nat → Option (FieldType × Nat × (Nat → Value))) (gs : Nat → Nat → Option Nat) (sr : Nat → Nat → Option Nat) : e_EX0 := fun M ins len pc _ stk _ => match ins with
  | .getstatic idx => if len = 3 then (gs (e_mo M) idx).map fun q => (pc + 3, .ref q :: stk) else none
  | .ldc idx => if len = 2 then (sr (e_mo M) idx).map fun q => (pc + 2, .ref q :: stk) else none
  | .ldc_w idx => if len = 3 then (sr (e_mo M) idx).map fun q => (pc + 3, .ref q :: stk) else none
  | .arraylength => match stk with
    | .ref q :: r => if len = 1 then (xa q).map fun x => (pc + 1, .int (Int32.ofNat x.2.1) :: r) else none
    | _ => none
  | .iaload => match stk with
    | .int i :: .ref q :: r => match xa q with
      | some x => if len = 1 ∧ x.1 = .int ∧ e_pv (x.2.2 i.toNatClampNeg) = true ∧ ¬ (i < 0 ∨ x.2.1 ≤ i.toNatClampNeg) then some (pc + 1, x.2.2 i.toNatClampNeg :: r) else none
      | none => none
    | _ => none
  | .laload => match stk with
    | .int i :: .ref q :: r => match xa q with
      | some x => if len = 1 ∧ x.1 = .long ∧ e_pv (x.2.2 i.toNatClampNeg) = true ∧ ¬ (i < 0 ∨ x.2.1 ≤ i.toNatClampNeg) then some (pc + 1, x.2.2 i.toNatClampNeg :: r) else none
      | none => none
    | _ => none
  | .baload => match stk with
    | .int i :: .ref q :: r => match xa q with
      | some x => if len = 1 ∧ x.1 = .byte ∧ e_pv (x.2.2 i.toNatClampNeg) = true ∧ ¬ (i < 0 ∨ x.2.1 ≤ i.toNatClampNeg) then some (pc + 1, x.2.2 i.toNatClampNeg :: r) else none
      | none => none
    | _ => none
  | _ => none
/-- how a static's array is linked -/
def e_OKGS (Z0 : List Cond) (own : Nat → String) (gs : Nat → Nat → Option Nat) (xs : Nat → Option (String × String × String)) : Prop := ∀ o idx q, gs o idx = some q → ∃ C n d host, xs q = some (C, n, d) ∧ Cond.fieldLinkNest (own o) idx C n d host ∈ Z0
section E_RO
variable {l : Launch} {ad : Nat → Nat} {D : va_G} {cl : List vw_C} {tys : List (ClassId × FieldType)} {fty : Nat → Nat → FieldType} {W0 Z0 : List Cond} {own : Nat → String} {b0 d : Nat}
variable {xa : Nat → Option (FieldType × Nat × (Nat → Value))} {xs : Nat → Option (String × String × String)} {xo : Nat → Option Nat} {xi : Nat → Option (String × String × String × Int32)} {sr : Nat → Nat → Option Nat} {gs : Nat → Nat → Option Nat}
theorem e_pR_ok (hG : e_OKGS Z0 own gs xs) : e_EX0S l ad D cl tys fty W0 Z0 (e_XB ad own b0 xa xs xo xi sr) own b0 d (e_pR xa gs sr) := by
  intro p e R s m args below meth c Q H locs ls cells slots M ins len pc lv stk st pc' stk' h hM hx hb hml hg hW0 hz hZ0 hXB hown hK had hb0 hR hS hdec hRf hRl hc hs kk
  obtain ⟨h1, h2, h3, h4, h5⟩ := hXB
  unfold e_pR at h
  split at h
  · rename_i idx
    split at h
    · rename_i hlen
      subst hlen
      obtain ⟨q, hq, h9⟩ := Option.map_eq_some_iff.mp h
      cases h9
      obtain ⟨C, n, d, host, g1, g2⟩ := hG _ _ _ hq
      exact va_getsN hx hb (h2 q _ g1) hS hown (va_Nw.use rfl (hZ0 _ g2)) (fun _ h9 => h9) hdec kk
    · cases h
  · rename_i idx
    split at h
    · rename_i hlen
      subst hlen
      obtain ⟨q, hq, h9⟩ := Option.map_eq_some_iff.mp h
      cases h9
      obtain ⟨tx, g1⟩ := h5 _ _ _ hq
      exact va_ldcS hx hb hown g1 hdec kk
    · cases h
  · rename_i idx
    split at h
    · rename_i hlen
      subst hlen
      obtain ⟨q, hq, h9⟩ := Option.map_eq_some_iff.mp h
      cases h9
      obtain ⟨tx, g1⟩ := h5 _ _ _ hq
      exact e_ldcwS hx hb hown g1 hdec kk
    · cases h
  · split at h
    · rename_i q r
      split at h
      · rename_i hlen
        subst hlen
        obtain ⟨x, hq, h9⟩ := Option.map_eq_some_iff.mp h
        cases h9
        exact va_tlen hx hb (h1 q x hq) hS rfl hdec kk
      · cases h
    · cases h
  · split at h
    · rename_i i q r
      split at h
      · rename_i x hq
        split at h
        · rename_i hh
          obtain ⟨rfl, ht, hp, hin⟩ := hh
          cases h
          have g := h1 q x hq
          rw [ht] at g
          refine va_ti hx hb g hS hin rfl hdec ?_
          have k1 := kk
          unfold e_mv at k1
          rw [List.map_cons, e_pv_m hp] at k1
          exact k1
        · cases h
      · cases h
    · cases h
  · split at h
    · rename_i i q r
      split at h
      · rename_i x hq
        split at h
        · rename_i hh
          obtain ⟨rfl, ht, hp, hin⟩ := hh
          cases h
          have g := h1 q x hq
          rw [ht] at g
          refine va_tl hx hb g hS hin rfl hdec ?_
          have k1 := kk
          unfold e_mv at k1
          rw [List.map_cons, e_pv_m hp] at k1
          exact k1
        · cases h
      · cases h
    · cases h
  · split at h
    · rename_i i q r
      split at h
      · rename_i x hq
        split at h
        · rename_i hh
          obtain ⟨rfl, ht, hp, hin⟩ := hh
          cases h
          have g := h1 q x hq
          rw [ht] at g
          refine va_tb hx hb g hS hin rfl hdec ?_
          have k1 := kk
          unfold e_mv at k1
          rw [List.map_cons, e_pv_m hp] at k1
          exact k1
        · cases h
      · cases h
    · cases h
  · cases h
end E_RO
end
