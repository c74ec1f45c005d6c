/-! PART 23: new int[n][k] -/
noncomputable section
def e_mna (st : e_ST) (t ti n k : Nat) : e_ST := ((fun b => if b = e_T st then some (.inr t) else if e_T st < b ∧ b ≤ e_T st + n then some (.inr ti) else e_K st b), (fun b => if e_T st ≤ b ∧ b ≤ e_T st + n then (fun _ => 0) else e_I st b), (fun b => if e_T st ≤ b ∧ b ≤ e_T st + n then (fun _ => 0) else e_L st b), (fun b => if b = e_T st then (fun j => if j < n then some (e_T st + 1 + j) else none) else if e_T st < b ∧ b ≤ e_T st + n then (fun _ => none) else e_P st b), (fun b => if b = e_T st then n else if e_T st < b ∧ b ≤ e_T st + n then k else e_N st b), e_T st + 1 + n, e_Z st + n + n * k)
def e_pQ (ats : List FieldType) (mn : Nat → Nat → Option (Nat × Nat)) : e_EX := fun M ins len pc lv stk st => match ins, stk with
  | .multianewarray idx dims, .int k :: .int n :: r => match mn (e_mo M) idx with
    | some q => if len = 4 ∧ dims = 2 ∧ ats[q.1]? = some (.array .int) ∧ ats[q.2]? = some .int ∧ ¬ n < 0 ∧ ¬ k < 0 ∧ n.toNatClampNeg * 4 ≤ 536870912 ∧ k.toNatClampNeg * 4 ≤ 536870912 ∧ e_T st + n.toNatClampNeg < e_lim then some ((pc + 4, lv, .ref (e_T st) :: r), e_mna st q.1 q.2 n.toNatClampNeg k.toNatClampNeg) else none
    | none => none
  | _, _ => none
theorem e_pQ_g {ats : List FieldType} {mn : Nat → Nat → Option (Nat × Nat)} : e_xgrow (e_pQ ats mn) := by
  intro M ins len pc lv stk st f st' h
  unfold e_pQ at h
  split at h
  · split at h
    · split at h
      · cases h
        refine ⟨?_, ?_⟩
        · show e_T st ≤ e_T st + 1 + _
          omega
        · show e_Z st ≤ e_Z st + _ + _
          omega
      · cases h
    · cases h
  · cases h
def e_OKMN (W0 : List Cond) (own : Nat → String) (mn : Nat → Nat → Option (Nat × Nat)) : Prop := ∀ o idx q, mn o idx = some q → Cond.classLink (own o) idx "[[I" ∈ W0 ∧ Cond.arrayClass .int ∈ W0
theorem e_inner (c : ClassId) (K : Nat) : Jvm.Free.Multi.innerC c K (defaultValue .int) = vp_cell c (K, .inl (fun _ => 0)) := by
  show ({ cls := c, slots := Array.replicate K (.int 0), vm := .none } : Cell) = _
  exact arrV_new ..
theorem e_outer (c : ClassId) (N h0 : Nat) : ∀ i : Nat, Jvm.Free.Multi.outerC c N h0 i = arrV c N (fun j => va_rf (if j < i then some (h0 + 1 + j) else none))
  | 0 => by
    show ({ cls := c, slots := Array.replicate N .null, vm := .none } : Cell) = _
    rw [arrV_new]
    refine congrArg (arrV c N) (funext fun j => ?_)
    simp [va_rf]
  | i + 1 => by
    show (Jvm.Free.Multi.outerC c N h0 i).setSlot i (.ref (h0 + 1 + i)) = _
    rw [e_outer c N h0 i, arrV_store]
    refine congrArg (arrV c N) (funext fun j => ?_)
    by_cases e : j = i
    · subst e
      simp [updV, va_rf]
    · by_cases h : j < i
      · simp [updV, e, h, Nat.lt_succ_of_lt h]
      · simp [updV, e, h, show ¬ j < i + 1 by omega]
section E_QO
variable {l : Launch} {ad : Nat → Nat} {D : va_G} {cl : List vw_C} {tys : List (ClassId × FieldType)} {ats : List FieldType} {fty : Nat → Nat → FieldType} {W0 Z0 : List Cond} {own : Nat → String} {b0 d : Nat} {oc : List String} {mn : Nat → Nat → Option (Nat × Nat)}
theorem e_mna_old {st : e_ST} {t ti n k b : Nat} (hb : b < e_T st ∨ e_T st + n < b) : e_en ad cl tys fty (e_mna st t ti n k) b = e_en ad cl tys fty st b := by
  have n1 : ¬ b = e_T st := by omega
  have n2 : ¬ (e_T st < b ∧ b ≤ e_T st + n) := by omega
  have n3 : ¬ (e_T st ≤ b ∧ b ≤ e_T st + n) := by omega
  have hK : e_K (e_mna st t ti n k) b = e_K st b := by
    show (if b = e_T st then _ else if e_T st < b ∧ b ≤ e_T st + n then _ else e_K st b) = _
    rw [if_neg n1, if_neg n2]
  have hI : e_I (e_mna st t ti n k) b = e_I st b := by
    show (if e_T st ≤ b ∧ b ≤ e_T st + n then _ else e_I st b) = _
    rw [if_neg n3]
  have hL : e_L (e_mna st t ti n k) b = e_L st b := by
    show (if e_T st ≤ b ∧ b ≤ e_T st + n then _ else e_L st b) = _
    rw [if_neg n3]
  have hPp : e_P (e_mna st t ti n k) b = e_P st b := by
    show (if b = e_T st then _ else if e_T st < b ∧ b ≤ e_T st + n then _ else e_P st b) = _
    rw [if_neg n1, if_neg n2]
  have hN : e_N (e_mna st t ti n k) b = e_N st b := by
    show (if b = e_T st then _ else if e_T st < b ∧ b ≤ e_T st + n then _ else e_N st b) = _
    rw [if_neg n1, if_neg n2]
  have h1 : ∀ (j : Nat) (ty : FieldType), e_vf (e_mna st t ti n k) b j ty = e_vf st b j ty := by
    intro j ty
    cases ty <;> simp only [e_vf, hI, hL, hPp]
  have h2 : ∀ ty : FieldType, e_sh ad (e_mna st t ti n k) b ty = e_sh ad st b ty := by
    intro ty
    cases ty <;> simp only [e_sh, hI, hL, hPp]
  simp only [e_en, e_fs, h1, h2, hK, hN]
theorem e_pQ_ok (hta : ∀ (t : Nat) (ty : FieldType), ats[t]? = some ty → ∃ cA, tys[t]? = some (cA, ty)) (hP : e_OKMN W0 own mn) : e_EXS l ad D cl tys fty W0 Z0 (e_XA oc) own b0 d (e_pQ ats mn) := by
  intro p e R s m args below meth c Q H locs ls cells slots M ins len pc lv stk st f st' h hM hx hb hml hg hW0 hz hZ0 hXB hown hK had hb0 hR hS hl hdec hRf hRl hc hs kk
  unfold e_pQ at h
  split at h
  · rename_i idx dims k n r
    split at h
    · rename_i q hmn
      split at h
      · rename_i hq
        obtain ⟨rfl, rfl, hty, htyi, hn, hk, hb1, hb2, hlim⟩ := hq
        obtain ⟨t, ti⟩ := q
        cases h
        obtain ⟨w1, w2⟩ := hP _ _ _ hmn
        obtain ⟨cA0, ht⟩ := hta _ _ hty
        obtain ⟨cy, hti⟩ := hta _ _ htyi
        have hcy : s.vm.findClass (FieldType.array FieldType.int).toString = some cy := (hK.2 ti _ hti).2
        have hcA : s.vm.findClass ("[" ++ (FieldType.array FieldType.int).toString) = some cA0 := (hK.2 t _ ht).2
        have eT : e_T (e_mna st t ti n.toNatClampNeg k.toNatClampNeg) - e_T st = 1 + n.toNatClampNeg := by show e_T st + 1 + _ - e_T st = _; omega
        have eZ : e_Z (e_mna st t ti n.toNatClampNeg k.toNatClampNeg) - e_Z st = n.toNatClampNeg + n.toNatClampNeg * k.toNatClampNeg := by show e_Z st + _ + _ - e_Z st = _; omega
        rw [eT] at hc
        rw [eZ] at hs
        intro T hT Xs
        obtain ⟨vm₁, cA, comp, -, fA, fC, hO, -, X', step⟩ := Xs.multianewarray2F (ty := .int) hx hown (hW0 _ w1) (va_AOA.use hXB.2) (hW0 _ w2) (g := F0 m pc ls (.int k :: .int n :: e_mv ad r)) rfl (by rw [hb]; exact hdec) rfl hn hk hb1 hb2 (by omega) rfl rfl hc hs
        have ec : cy = comp := Option.some.inj (hcy.symm.trans fC)
        subst ec
        have ec2 : cA0 = cA := Option.some.inj (hcA.symm.trans fA)
        subst ec2
        generalize hF : Jvm.Free.Multi.fill (T.setVm vm₁) cA0 cy n.toNatClampNeg k.toNatClampNeg (defaultValue .int) n.toNatClampNeg = F at X' step
        have hTh : (T.setVm vm₁).heap = H := hT
        obtain ⟨f1, f2, -, -⟩ := Jvm.Free.Multi.fill_facts (T.setVm vm₁) cA0 cy n.toNatClampNeg k.toNatClampNeg (defaultValue .int) n.toNatClampNeg
        rw [hF, hTh] at f1 f2
        have hold : ∀ x : Nat, x < H.size → F.heap[x]? = H[x]? := fun x hx => by
          have := Jvm.Free.Multi.fill_old (T.setVm vm₁) cA0 cy n.toNatClampNeg k.toNatClampNeg (defaultValue .int) (a := x) (by rw [hTh]; exact hx) n.toNatClampNeg
          rw [hF, hTh] at this
          exact this
        have hrow : ∀ j : Nat, j < n.toNatClampNeg → F.heap[H.size + 1 + j]? = some (vp_cell cy (k.toNatClampNeg, .inl (fun _ => 0))) := fun j hj => by
          have := Jvm.Free.Multi.fill_inner (T.setVm vm₁) cA0 cy n.toNatClampNeg k.toNatClampNeg (defaultValue .int) n.toNatClampNeg j hj
          rw [hF, hTh, e_inner] at this
          exact this
        rw [e_outer] at f2
        have adn : ∀ x, x ≤ e_T st + n.toNatClampNeg → ad x = b0 + x := fun x hx => had x (by omega)
        have hRR : e_RR ad b0 D cl tys fty (e_mna st t ti n.toNatClampNeg k.toNatClampNeg) F.heap := by
          refine ⟨?_, ?_, fun b hbk => ?_, fun b y hy => ?_⟩
          · rw [f1, hR.1]
            show _ = b0 + (e_T st + 1 + _)
            omega
          · show e_T st + 1 + _ ≤ e_lim
            omega
          · show b < e_T st + 1 + _
            by_cases h1 : b = e_T st
            · omega
            · by_cases h2 : e_T st < b ∧ b ≤ e_T st + n.toNatClampNeg
              · omega
              · have h3 : e_K (e_mna st t ti n.toNatClampNeg k.toNatClampNeg) b = e_K st b := by
                  show (if b = e_T st then _ else if e_T st < b ∧ b ≤ e_T st + _ then _ else e_K st b) = _
                  rw [if_neg h1, if_neg h2]
                rw [h3] at hbk
                have := hR.2.2.1 b hbk
                omega
          · by_cases h1 : b = e_T st
            · subst h1
              have ek : e_K (e_mna st t ti n.toNatClampNeg k.toNatClampNeg) (e_T st) = some (.inr t) := by
                show (if e_T st = e_T st then _ else _) = _
                rw [if_pos rfl]
              rw [e_en_arr ek ht] at hy
              cases hy
              show F.heap[ad (e_T st)]? = some (vp_cell _ _)
              rw [adn _ (by omega), ← hR.1, f2]
              refine congrArg some ?_
              have en : e_N (e_mna st t ti n.toNatClampNeg k.toNatClampNeg) (e_T st) = n.toNatClampNeg := by
                show (if e_T st = e_T st then _ else _) = _
                rw [if_pos rfl]
              have ep : e_P (e_mna st t ti n.toNatClampNeg k.toNatClampNeg) (e_T st) = fun j => if j < n.toNatClampNeg then some (e_T st + 1 + j) else none := by
                show (if e_T st = e_T st then _ else _) = _
                rw [if_pos rfl]
              rw [en]
              show _ = vp_cell _ (_, .inr (.inr (.inr (.inr (fun j => (e_P (e_mna st t ti n.toNatClampNeg k.toNatClampNeg) (e_T st) j).map ad)))))
              rw [ep, vp_cell_q]
              refine congrArg (arrV cA0 n.toNatClampNeg) (funext fun j => ?_)
              by_cases hj : j < n.toNatClampNeg
              · rw [if_pos hj]
                show va_rf (some _) = va_rf (Option.map ad (if j < n.toNatClampNeg then some (e_T st + 1 + j) else none))
                rw [if_pos hj]
                show va_rf (some _) = va_rf (some (ad (e_T st + 1 + j)))
                rw [adn _ (by omega), hR.1]
                congr 2
                omega
              · rw [if_neg hj]
                show va_rf none = va_rf (Option.map ad (if j < n.toNatClampNeg then some (e_T st + 1 + j) else none))
                rw [if_neg hj]
                rfl
            · by_cases h2 : e_T st < b ∧ b ≤ e_T st + n.toNatClampNeg
              · have ek : e_K (e_mna st t ti n.toNatClampNeg k.toNatClampNeg) b = some (.inr ti) := by
                  show (if b = e_T st then _ else if e_T st < b ∧ b ≤ e_T st + _ then _ else e_K st b) = _
                  rw [if_neg h1, if_pos h2]
                rw [e_en_arr ek hti] at hy
                cases hy
                show F.heap[ad b]? = some (vp_cell _ _)
                have hj : F.heap[H.size + 1 + (b - e_T st - 1)]? = _ := hrow (b - e_T st - 1) (by omega)
                rw [adn _ (by omega), show b0 + b = H.size + 1 + (b - e_T st - 1) by rw [hR.1]; omega, hj]
                refine congrArg some ?_
                have en : e_N (e_mna st t ti n.toNatClampNeg k.toNatClampNeg) b = k.toNatClampNeg := by
                  show (if b = e_T st then _ else if e_T st < b ∧ b ≤ e_T st + _ then _ else e_N st b) = _
                  rw [if_neg h1, if_pos h2]
                have ei : e_I (e_mna st t ti n.toNatClampNeg k.toNatClampNeg) b = fun _ => 0 := by
                  show (if e_T st ≤ b ∧ b ≤ e_T st + _ then _ else e_I st b) = _
                  rw [if_pos (by omega)]
                rw [en]
                show _ = vp_cell _ (_, .inl (e_I (e_mna st t ti n.toNatClampNeg k.toNatClampNeg) b))
                rw [ei]
              · rw [e_mna_old (by omega)] at hy
                have h9 := hR.2.2.2 b y hy
                exact h9.kept (hold _ h9.lt)
        have hSS : va_S (e_A b0) s.heap F.heap locs := ⟨Nat.le_trans hS.1 (by rw [f1]; omega), fun x h1 h2 => (hold x (Nat.lt_of_lt_of_le h1 hS.1)).trans (hS.2.1 x h1 h2), hS.2.2⟩
        have k1 := kk F.heap locs ls hRR hSS hl
        rw [eT, eZ] at k1
        have k2 : W p l e R s m args below meth c F.heap locs (cells + (1 + n.toNatClampNeg)) (slots + (n.toNatClampNeg + n.toNatClampNeg * k.toNatClampNeg)) Q (F0 m (pc + 4) ls (.ref (ad (e_T st)) :: e_mv ad r)) := k1
        rw [adn _ (by omega), ← hR.1, ← Nat.add_assoc, ← Nat.add_assoc] at k2
        obtain ⟨t9, a1, b1⟩ := k2 F rfl X'
        refine ⟨t9, step t9 ?_, b1⟩
        rw [show T.heap.size = H.size by rw [← hT]]
        exact a1
      · cases h
    · cases h
  · cases h
end E_QO
end
