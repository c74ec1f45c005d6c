/-! PART 6: one step of an instruction that touches a cell -/
def e_ld1 (ins : Instr) (ty : FieldType) : Bool := match ins, ty with
  | .iaload, .int => true
  | .baload, .byte => true
  | .baload, .boolean => true
  | .laload, .long => true
  | .aaload, .object _ => true
  | .aaload, .array _ => true
  | _, _ => false
def e_fi (ty : FieldType) : List FieldType → Option Nat
  | [] => none
  | x :: r => if x = ty then some 0 else (e_fi ty r).map (· + 1)
theorem e_fi_ok {ty : FieldType} : ∀ {l : List FieldType} {t : Nat}, e_fi ty l = some t → l[t]? = some ty
  | [], _, h => by cases h
  | x :: r, t, h => by
    unfold e_fi at h
    by_cases hx : x = ty
    · rw [if_pos hx] at h
      cases h
      rw [hx]
      rfl
    · rw [if_neg hx] at h
      obtain ⟨u, h1, h2⟩ := Option.map_eq_some_iff.mp h
      subst h2
      rw [List.getElem?_cons_succ]
      exact e_fi_ok h1
section E_H
variable (cl : List vw_C) (ats : List FieldType) (fty : Nat → Nat → FieldType) (fl : Nat → Nat → Option (Nat × Nat)) (kI : Nat → Nat → Option Int32) (kL : Nat → Nat → Option Int64) (nl : Nat → Nat → Option Nat) (kS : Nat → Nat → Option Nat) (o : Nat) (ini : Option String)
def e_ldr (st : e_ST) (ins : Instr) (pc : Nat) (lv : e_LV) (stk : List Value) : Option (e_FR × e_ST) := match stk with
  | .int i :: .ref a :: r => match e_K st a with
    | some (.inr t) => match ats[t]? with
      | some ty => if e_ld1 ins ty = true ∧ ¬ (i < 0 ∨ e_N st a ≤ i.toNatClampNeg) then some ((pc + 1, lv, e_vf st a i.toNatClampNeg ty :: r), st) else none
      | none => none
    | _ => none
  | _ => none
def e_str (st : e_ST) (ins : Instr) (pc : Nat) (lv : e_LV) (stk : List Value) : Option (e_FR × e_ST) := match stk with
  | v :: .int i :: .ref a :: r => match e_K st a with
    | some (.inr t) => if ¬ (i < 0 ∨ e_N st a ≤ i.toNatClampNeg) then (match ins, ats[t]?, v with
      | .iastore, some .int, .int x => some ((pc + 1, lv, r), e_sI st a i.toNatClampNeg x)
      | .bastore, some .byte, .int x => some ((pc + 1, lv, r), e_sI st a i.toNatClampNeg (vp_nar .byte x))
      | .bastore, some .boolean, .int x => some ((pc + 1, lv, r), e_sI st a i.toNatClampNeg (vp_nar .boolean x))
      | .lastore, some .long, .long x => some ((pc + 1, lv, r), e_sL st a i.toNatClampNeg x)
      | .aastore, some (.object _), .null => some ((pc + 1, lv, r), e_sP st a i.toNatClampNeg none)
      | .aastore, some (.object C), .ref b => match e_K st b with
        | some (.inl ci) => match cl[ci]? with
          | some q => if q.1 = C then some ((pc + 1, lv, r), e_sP st a i.toNatClampNeg (some b)) else none
          | none => none
        | _ => none
      | _, _, _ => none) else none
    | _ => none
  | _ => none
def e_h (ins : Instr) (pc : Nat) (lv : e_LV) (stk : List Value) (st : e_ST) : Option (e_FR × e_ST) := match ins with
  | .getfield idx => match stk with
    | .ref a :: r => match fl o idx with
      | some (ci, k) => if e_K st a = some (.inl ci) then some ((pc + 3, lv, e_vf st a k (fty ci k) :: r), st) else none
      | none => none
    | _ => none
  | .putfield idx => match stk with
    | v :: .ref a :: r => match fl o idx with
      | some (ci, k) => match cl[ci]? with
        | some q => if e_K st a = some (.inl ci) ∧ ((q.2.1 k).2.2.2 = false ∨ ini = some (q.2.1 k).1) then (e_set st a k (fty ci k) v).map fun st' => ((pc + 3, lv, r), st') else none
        | none => none
      | none => none
    | _ => none
  | .iaload => e_ldr ats st .iaload pc lv stk
  | .baload => e_ldr ats st .baload pc lv stk
  | .laload => e_ldr ats st .laload pc lv stk
  | .aaload => e_ldr ats st .aaload pc lv stk
  | .iastore => e_str cl ats st .iastore pc lv stk
  | .bastore => e_str cl ats st .bastore pc lv stk
  | .lastore => e_str cl ats st .lastore pc lv stk
  | .aastore => e_str cl ats st .aastore pc lv stk
  | .arraylength => match stk with
    | .ref a :: r => match e_K st a with
      | some (.inr t) => match ats[t]? with
        | some _ => some ((pc + 1, lv, .int (Int32.ofNat (e_N st a)) :: r), st)
        | none => none
      | _ => none
    | _ => none
  | .newarray at_ => match stk with
    | .int n :: r => match e_fi (newarray.typeOf at_) ats with
      | some t => if ¬ n < 0 ∧ n.toNatClampNeg * componentBytes (newarray.typeOf at_) ≤ 536870912 ∧ (newarray.typeOf at_ ≠ .float ∧ newarray.typeOf at_ ≠ .double) ∧ e_T st < e_lim then some ((pc + 2, lv, .ref (e_T st) :: r), e_new st (.inr t) n.toNatClampNeg) else none
      | none => none
    | _ => none
  | .new idx => match nl o idx with
    | some ci => match cl[ci]? with
      | some q => if e_T st < e_lim then some ((pc + 3, lv, .ref (e_T st) :: stk), e_new st (.inl ci) q.2.2) else none
      | none => none
    | none => none
  | .ldc idx => match kI o idx with
    | some v => some ((pc + 2, lv, .int v :: stk), st)
    | none => match kS o idx with
      | some q => some ((pc + 2, lv, .ref q :: stk), st)
      | none => none
  | .ldc_w idx => match kI o idx with
    | some v => some ((pc + 3, lv, .int v :: stk), st)
    | none => none
  | .ldc2_w idx => match kL o idx with
    | some v => some ((pc + 3, lv, .long v :: stk), st)
    | none => none
  | _ => none
end E_H
def e_lh : Instr → Nat
  | .getfield _ => 3 | .putfield _ => 3 | .newarray _ => 2 | .new _ => 3 | .ldc _ => 2 | .ldc_w _ => 3 | .ldc2_w _ => 3
  | _ => 1
section E_HOK
variable {p : Program} {l : Launch} {e : Env} {R : Room} {s : State} {m : MethodId} {args : Array Value} {below : List Frame} {meth : Method} {c : Code} {H : Heap} {locs : List Loc} {cells slots : Nat} {Q : State → Prop}
variable {cc : ByteArray} {pc : Nat} {ls : Array Slot} {D : va_G} {cl : List vw_C} {tys : List (ClassId × FieldType)} {ats : List FieldType} {fty : Nat → Nat → FieldType} {st st' : e_ST} {H0 : Heap} {W0 Z0 : List Cond}
variable {fl : Nat → Nat → Option (Nat × Nat)} {kI : Nat → Nat → Option Int32} {kL : Nat → Nat → Option Int64} {nl : Nat → Nat → Option Nat} {kS : Nat → Nat → Option Nat} {ad : Nat → Nat} {b0 o : Nat} {ini : Option String} {own : String}
/-- the tables of a class's pool say what the words say -/
def e_OKT (cl : List vw_C) (ats : List FieldType) (fty : Nat → Nat → FieldType) (W0 Z0 : List Cond) (fl : Nat → Nat → Option (Nat × Nat)) (kI : Nat → Nat → Option Int32) (kL : Nat → Nat → Option Int64) (nl : Nat → Nat → Option Nat) (o : Nat) (own : String) : Prop :=
  (∀ idx ci k, fl o idx = some (ci, k) → ∃ r, cl[ci]? = some r ∧ k < r.2.2 ∧ e_FL W0 Z0 r own idx k ∧ ((r.2.1 k).2.2.2 = true → (r.2.1 k).1 = own → Cond.fieldLink own idx (r.2.1 k).1 (r.2.1 k).2.1 (r.2.1 k).2.2.1 ∈ W0)) ∧
  (∀ idx v, kI o idx = some v → Cond.constant own idx v ∈ W0) ∧ (∀ idx v, kL o idx = some v → Cond.constantLong own idx v ∈ W0) ∧
  (∀ idx ci, nl o idx = some ci → ∃ r, cl[ci]? = some r ∧ Cond.classLink own idx r.1 ∈ W0 ∧ Cond.instantiable r.1 r.2.2 ∈ W0 ∧ Cond.initialized r.1 ∈ W0)
/-- the same for all classes: the fields' types, the arrays' classes -/
def e_OKC (cl : List vw_C) (ats : List FieldType) (fty : Nat → Nat → FieldType) (W0 : List Cond) : Prop := e_CL cl fty W0 ∧ (∀ ci k, fty ci k ≠ .float ∧ fty ci k ≠ .double) ∧ ∀ ty, ty ∈ ats → (∃ at_, ty = newarray.typeOf at_) → Cond.arrayClass ty ∈ W0
theorem e_h_ok (hx : p.tables.exec = Jvm.exec) (hb : c.code = cc) (hW0 : ∀ w ∈ W0, w.before args s = true) (hZ0 : ∀ z ∈ Z0, va_Nw z s) (hC : e_OKC cl ats fty W0) (hO : e_OKT cl ats fty W0 Z0 fl kI kL nl o own) (hkS : ∀ idx q, kS o idx = some q → ∃ tx, vk_R own idx tx (ad q) s) (hini : ∀ n, ini = some n → meth.name = "<init>" ∧ n = own) (hown : s.vm.findClass own = some m.cls)
    (hK : va_K D cl tys s) (hta : ∀ (t : Nat) (ty : FieldType), ats[t]? = some ty → ∃ cA, tys[t]? = some (cA, ty)) (had : e_AD ad b0) (hR : e_RR ad b0 D cl tys fty st H) (hS : va_S (fun q => b0 ≤ q) H0 H locs) {ins : Instr} {f : e_FR} {lv : e_LV} {stk : List Value} {nL : Nat} (hd : decode cc pc = .ok (ins, e_lh ins)) (h : e_h cl ats fty fl kI kL nl kS o ini ins pc lv stk st = some (f, st')) (hl : lv_has ls nL (e_mp ad lv))
    (hcells : cells + (e_T st' - e_T st) ≤ R.cells) (hslots : slots + (e_Z st' - e_Z st) ≤ R.slots)
    (kk : ∀ (H1 : Heap) (locs1 : List Loc), e_RR ad b0 D cl tys fty st' H1 → va_S (fun q => b0 ≤ q) H0 H1 locs1 → lv_has ls nL (e_mp ad f.2.1) → e_T st ≤ e_T st' → e_Z st ≤ e_Z st' → W p l e R s m args below meth c H1 locs1 (cells + (e_T st' - e_T st)) (slots + (e_Z st' - e_Z st)) Q (F0 m f.1 ls (e_mv ad f.2.2))) : W p l e R s m args below meth c H locs cells slots Q (F0 m pc ls (e_mv ad stk)) := by
  have z0 : ∀ n : Nat, n + (e_T st - e_T st) = n := fun n => by omega
  have z1 : ∀ n : Nat, n + (e_Z st - e_Z st) = n := fun n => by omega
  have same : st' = st → (∀ (H1 : Heap) (locs1 : List Loc), e_RR ad b0 D cl tys fty st H1 → va_S (fun q => b0 ≤ q) H0 H1 locs1 → W p l e R s m args below meth c H1 locs1 cells slots Q (F0 m f.1 ls (e_mv ad f.2.2))) ∨ ¬ lv_has ls nL (e_mp ad f.2.1) := by
    intro he
    subst he
    by_cases hlf : lv_has ls nL (e_mp ad f.2.1)
    · refine Or.inl fun H1 locs1 h1 h2 => ?_
      have k1 := kk H1 locs1 h1 h2 hlf (Nat.le_refl _) (Nat.le_refl _)
      rw [z0, z1] at k1
      exact k1
    · exact Or.inr hlf
  have moved : e_T st' = e_T st → e_Z st' = e_Z st → lv_has ls nL (e_mp ad f.2.1) → ∀ (H1 : Heap) (locs1 : List Loc), e_RR ad b0 D cl tys fty st' H1 → va_S (fun q => b0 ≤ q) H0 H1 locs1 → W p l e R s m args below meth c H1 locs1 cells slots Q (F0 m f.1 ls (e_mv ad f.2.2)) := by
    intro eT eZ hlf H1 locs1 h1 h2
    have k1 := kk H1 locs1 h1 h2 hlf (by rw [eT]; exact Nat.le_refl _) (by rw [eZ]; exact Nat.le_refl _)
    rw [eT, eZ, z0, z1] at k1
    exact k1
  obtain ⟨hCL, hnf, hac⟩ := hC
  obtain ⟨hfl, hkI, hkL, hnl⟩ := hO
  have LDR : ∀ (ins : Instr) (stk2 : List Value), (ins = .iaload ∨ ins = .baload ∨ ins = .laload ∨ ins = .aaload) → decode cc pc = .ok (ins, 1) → e_ldr ats st ins pc lv stk2 = some (f, st') → W p l e R s m args below meth c H locs cells slots Q (F0 m pc ls (e_mv ad stk2)) := by
    clear h hd
    intro ins stk2 hins hd h
    unfold e_ldr at h
    split at h
    · rename_i i a r
      split at h
      · rename_i t hk
        split at h
        · rename_i ty hty
          by_cases hq : e_ld1 ins ty = true ∧ ¬ (i < 0 ∨ e_N st a ≤ i.toNatClampNeg)
          · rw [if_pos hq] at h
            cases h
            have k1 := moved rfl rfl hl H locs hR hS
            obtain ⟨cA, ht⟩ := hta t ty hty
            rcases hins with rfl | rfl | rfl | rfl
            · cases ty <;> simp [e_ld1] at hq
              exact e_iald (q := (cA, .int)) hx hb hK had hR hk ht (by unfold vp_in; simpa using hq) hd k1
            · cases ty <;> simp [e_ld1] at hq
              · exact e_bald (q := (cA, .byte)) hx hb hK had hR hk ht (by unfold vp_in; simpa using hq) hd k1
              · exact e_zald (q := (cA, .boolean)) hx hb hK had hR hk ht (by unfold vp_in; simpa using hq) hd k1
            · cases ty <;> simp [e_ld1] at hq
              exact e_lald (q := (cA, .long)) hx hb hK had hR hk ht (by unfold vp_in; simpa using hq) hd k1
            · cases ty <;> simp [e_ld1] at hq
              · exact e_aald (q := (cA, .long)) hx hb hK had hR hk ht (by unfold vp_in; simpa using hq) hd k1
              · exact e_aalda (q := (cA, .long)) hx hb hK had hR hk ht (by unfold vp_in; simpa using hq) hd k1
          · rw [if_neg hq] at h
            cases h
        · cases h
      · cases h
    · cases h
  have STR : ∀ (ins : Instr) (stk2 : List Value), (ins = .iastore ∨ ins = .bastore ∨ ins = .lastore ∨ ins = .aastore) → decode cc pc = .ok (ins, 1) → e_str cl ats st ins pc lv stk2 = some (f, st') → W p l e R s m args below meth c H locs cells slots Q (F0 m pc ls (e_mv ad stk2)) := by
    clear h hd
    intro ins stk2 hins hd h
    unfold e_str at h
    split at h
    · rename_i v i a r
      split at h
      · rename_i t hk
        by_cases hq : ¬ (i < 0 ∨ e_N st a ≤ i.toNatClampNeg)
        · rw [if_pos hq] at h
          have hin : vp_in i (e_N st a) := hq
          split at h
          · rename_i hty
            obtain ⟨cA, ht⟩ := hta t _ hty
            cases h
            exact e_iast (q := (cA, .int)) hx hb hK had hR hS hk ht hin hd (moved rfl rfl hl)
          · rename_i hty
            obtain ⟨cA, ht⟩ := hta t _ hty
            cases h
            exact e_bast (q := (cA, .int)) hx hb hK had hR hS hk ht hin hd (moved rfl rfl hl)
          · rename_i hty
            obtain ⟨cA, ht⟩ := hta t _ hty
            cases h
            exact e_zast (q := (cA, .int)) hx hb hK had hR hS hk ht hin hd (moved rfl rfl hl)
          · rename_i hty
            obtain ⟨cA, ht⟩ := hta t _ hty
            cases h
            exact e_last (q := (cA, .int)) hx hb hK had hR hS hk ht hin hd (moved rfl rfl hl)
          · rename_i hty
            obtain ⟨cA, ht⟩ := hta t _ hty
            cases h
            exact e_aastN (q := (cA, .int)) hx hb hK had hR hS hk ht hin hd (moved rfl rfl hl)
          · rename_i C b hty
            obtain ⟨cA, ht⟩ := hta t _ hty
            split at h
            · rename_i ci hkb
              split at h
              · rename_i q0 hc
                by_cases hC : q0.1 = C
                · rw [if_pos hC] at h
                  cases h
                  subst hC
                  exact e_aast (q := (cA, .int)) (r := q0) hx hb hK had hR hS hk ht hkb hc hin hd (moved rfl rfl hl)
                · rw [if_neg hC] at h
                  cases h
              · cases h
            · cases h
          · cases h
        · rw [if_neg hq] at h
          cases h
      · cases h
    · cases h
  cases ins with
  | iaload => exact LDR _ _ (Or.inl rfl) hd h
  | baload => exact LDR _ _ (Or.inr (Or.inl rfl)) hd h
  | laload => exact LDR _ _ (Or.inr (Or.inr (Or.inl rfl))) hd h
  | aaload => exact LDR _ _ (Or.inr (Or.inr (Or.inr rfl))) hd h
  | iastore => exact STR _ _ (Or.inl rfl) hd h
  | bastore => exact STR _ _ (Or.inr (Or.inl rfl)) hd h
  | lastore => exact STR _ _ (Or.inr (Or.inr (Or.inl rfl))) hd h
  | aastore => exact STR _ _ (Or.inr (Or.inr (Or.inr rfl))) hd h
  | getfield idx =>
    unfold e_h at h
    dsimp only at h
    split at h
    · rename_i a r
      split at h
      · rename_i ci k hf
        by_cases hk : e_K st a = some (.inl ci)
        · rw [if_pos hk] at h
          cases h
          obtain ⟨r0, hc, hkn, hl0, -⟩ := hfl idx ci k hf
          exact e_getfield hx hb hW0 hZ0 hCL hown hK had hR hk hc hkn hl0 hd (moved rfl rfl hl H locs hR hS)
        · rw [if_neg hk] at h
          cases h
      · cases h
    · cases h
  | putfield idx =>
    unfold e_h at h
    dsimp only at h
    split at h
    · rename_i v a r
      split at h
      · rename_i ci k hf
        split at h
        · rename_i q0 hc0
          by_cases hk : e_K st a = some (.inl ci) ∧ ((q0.2.1 k).2.2.2 = false ∨ ini = some (q0.2.1 k).1)
          · rw [if_pos hk] at h
            obtain ⟨st1, hset, h2⟩ := Option.map_eq_some_iff.mp h
            cases h2
            obtain ⟨r0, hc, hkn, hl0, hfi⟩ := hfl idx ci k hf
            cases hc0.symm.trans hc
            have eT := (e_set_ok hset).2.2.2.1
            have eZ := (e_set_ok hset).2.2.2.2.1
            cases hff : (q0.2.1 k).2.2.2 with
            | false => exact e_putfield hx hb hW0 hZ0 hCL hown hK had hR hS hk.1 hc hkn hl0 hff hset hd (moved eT eZ hl)
            | true =>
              have hin2 : ini = some (q0.2.1 k).1 := by
                rcases hk.2 with q | q
                · rw [hff] at q; cases q
                · exact q
              exact e_putfinal hx hb hW0 hCL hown hK had hR hS hk.1 hc hkn (hfi hff (hini _ hin2).2) hff (hini _ hin2).1 (hini _ hin2).2 hset hd (moved eT eZ hl)
          · rw [if_neg hk] at h
            cases h
        · cases h
      · cases h
    · cases h
  | arraylength =>
    unfold e_h at h
    dsimp only at h
    split at h
    · rename_i a r
      split at h
      · rename_i t hk
        split at h
        · rename_i ty hty
          cases h
          obtain ⟨cA, ht⟩ := hta t ty hty
          exact e_alen hx hb hK had hR hk ht rfl hd (moved rfl rfl hl H locs hR hS)
        · cases h
      · cases h
    · cases h
  | newarray at_ =>
    unfold e_h at h
    dsimp only at h
    split at h
    · rename_i n r
      split at h
      · rename_i t ht0
        by_cases hq : ¬ n < 0 ∧ n.toNatClampNeg * componentBytes (newarray.typeOf at_) ≤ 536870912 ∧ (newarray.typeOf at_ ≠ .float ∧ newarray.typeOf at_ ≠ .double) ∧ e_T st < e_lim
        · rw [if_pos hq] at h
          cases h
          have hty := e_fi_ok ht0
          obtain ⟨cA, ht⟩ := hta t _ hty
          have eT : e_T (e_new st (.inr t) n.toNatClampNeg) - e_T st = 1 := by show e_T st + 1 - e_T st = 1; omega
          have eZ : e_Z (e_new st (.inr t) n.toNatClampNeg) - e_Z st = n.toNatClampNeg := by show e_Z st + n.toNatClampNeg - e_Z st = _; omega
          rw [eT] at hcells
          rw [eZ] at hslots
          refine e_newa (q := (cA, .int)) hx hb (hW0 _ (hac _ (List.mem_of_getElem? hty) ⟨at_, rfl⟩)) hK had hR hS ht hq.2.2.1 hq.2.2.2 hq.1 hq.2.1 hcells hslots hd fun H1 h1 h2 => ?_
          have k1 := kk H1 locs h1 h2 hl (by show e_T st ≤ e_T st + 1; omega) (by show e_Z st ≤ e_Z st + _; omega)
          rw [eT, eZ] at k1
          exact k1
        · rw [if_neg hq] at h
          cases h
      · cases h
    · cases h
  | new idx =>
    unfold e_h at h
    dsimp only at h
    split at h
    · rename_i ci hn0
      split at h
      · rename_i q0 hc
        split at h
        · rename_i hlim
          cases h
          obtain ⟨r0, hc0, h1, h2, h3⟩ := hnl idx ci hn0
          cases hc.symm.trans hc0
          obtain ⟨C, T, N⟩ := q0
          have eT : e_T (e_new st (.inl ci) N) - e_T st = 1 := by show e_T st + 1 - e_T st = 1; omega
          have eZ : e_Z (e_new st (.inl ci) N) - e_Z st = N := by show e_Z st + N - e_Z st = _; omega
          rw [eT] at hcells
          rw [eZ] at hslots
          refine e_newc hx hb hW0 hCL (hnf ci) hown h1 h2 h3 hK had hR hS hc hlim hcells hslots hd fun H1 g1 g2 => ?_
          have k1 := kk H1 locs g1 g2 hl (by show e_T st ≤ e_T st + 1; omega) (by show e_Z st ≤ e_Z st + _; omega)
          rw [eT, eZ] at k1
          exact k1
        · cases h
      · cases h
    · cases h
  | ldc idx =>
    unfold e_h at h
    dsimp only at h
    split at h
    · rename_i v hv
      cases h
      exact lv_ldc hx hb hown (hW0 _ (hkI idx v hv)) hd (moved rfl rfl hl H locs hR hS)
    · split at h
      · rename_i q0 hq
        cases h
        obtain ⟨tx, hz⟩ := hkS idx q0 hq
        exact va_ldcS hx hb hown hz hd (moved rfl rfl hl H locs hR hS)
      · cases h
  | ldc_w idx =>
    unfold e_h at h
    dsimp only at h
    split at h
    · rename_i v hv
      cases h
      exact lv_ldcw hx hb hown (hW0 _ (hkI idx v hv)) hd (moved rfl rfl hl H locs hR hS)
    · cases h
  | ldc2_w idx =>
    unfold e_h at h
    dsimp only at h
    split at h
    · rename_i v hv
      cases h
      exact lv_ldc2 hx hb hown (hW0 _ (hkL idx v hv)) hd (moved rfl rfl hl H locs hR hS)
    · cases h
  | _ =>
    have h0 : (none : Option (e_FR × e_ST)) = some (f, st') := h
    cases h0
end E_HOK
