/-! PART 21: System.arraycopy between arrays of ints, or of bytes -/
noncomputable section
def e_cI (st : e_ST) (a : Nat) (g : Nat → Int32) : e_ST := (e_K st, (fun b => if b = a then g else e_I st b), e_L st, e_P st, e_N st, e_T st, e_Z st)
def e_ib (ty : FieldType) : Bool := match ty with
  | .int => true
  | .byte => true
  | _ => false
def e_pC (ats : List FieldType) (pm : Nat → Nat → Nat) : e_EX := fun M ins len pc lv stk st => match ins, stk with
  | .invokestatic idx, .int n :: .int dp :: .ref a :: .int sp :: .ref a0 :: r => if len = 3 ∧ pm (e_mo M) idx = 5 ∧ e_cat r ≤ 8 then (match e_K st a0, e_K st a with
    | some (.inr t0), some (.inr t1) => match ats[t0]?, ats[t1]? with
      | some ty, some ty1 => if ty1 = ty ∧ e_ib ty = true ∧ ¬ sp < 0 ∧ ¬ dp < 0 ∧ ¬ n < 0 ∧ sp.toNatClampNeg + n.toNatClampNeg ≤ e_N st a0 ∧ dp.toNatClampNeg + n.toNatClampNeg ≤ e_N st a ∧ (∀ i, i < n.toNatClampNeg → fits ty (.int (e_I st a0 (sp.toNatClampNeg + i))) = true) then some ((pc + 3, lv, r), e_cI st a (va_cpy (e_I st a0) (e_I st a) sp.toNatClampNeg dp.toNatClampNeg n.toNatClampNeg)) else none
      | _, _ => none
    | _, _ => none) else none
  | _, _ => none
/-- what the words say of it -/
def e_OKPC (W0 : List Cond) (own : Nat → String) (pm : Nat → Nat → Nat) : Prop := ∀ o idx, pm o idx = 5 → Cond.methodLink (own o) idx arraycopyName ∈ W0 ∧ Cond.native arraycopyName ∈ W0 ∧ Cond.static arraycopyName ∈ W0 ∧ Cond.initialized "java/lang/System" ∈ W0
section E_CP
variable {p : Program} {l : Launch} {e : Env} {R : Room} {s : State} {m : MethodId} {args : Array Value} {below : List Frame} {meth : Method} {c : Code} {H : Heap} {locs : List Loc} {cells slots : Nat} {Q : State → Prop}
variable {cc : ByteArray} {pc : Nat} {ls : Array Slot} {D : va_G} {cl : List vw_C} {tys : List (ClassId × FieldType)} {fty : Nat → Nat → FieldType} {st : e_ST} {ad : Nat → Nat} {b0 : Nat} {H0 : Heap} {rest : List Value}
theorem e_sh_ib {ty : FieldType} (h : e_ib ty = true) (st : e_ST) (a : Nat) : e_sh ad st a ty = .inl (e_I st a) := by
  cases ty <;> first | rfl | cases h
theorem e_cI_ne {a b : Nat} {g : Nat → Int32} (hb : b ≠ a) : e_en ad cl tys fty (e_cI st a g) b = e_en ad cl tys fty st b := by
  have h1 : ∀ (j : Nat) (ty : FieldType), e_vf (e_cI st a g) b j ty = e_vf st b j ty := by
    intro j ty
    cases ty <;> simp [e_vf, e_cI, e_I, e_L, e_P, hb]
  have h2 : ∀ ty : FieldType, e_sh ad (e_cI st a g) b ty = e_sh ad st b ty := by
    intro ty
    cases ty <;> simp [e_sh, e_cI, e_I, e_L, e_P, hb]
  simp only [e_en, e_fs, h1, h2]
  rfl
theorem e_copyi (hexec : p.tables.exec = Jvm.exec) (hb : c.code = cc) (hml : c.maxLocals = ls.size) {own : String} {index : Nat} (hown : s.vm.findClass own = some m.cls) (hlink : (Cond.methodLink own index arraycopyName).before args s = true) (hnat : (Cond.native arraycopyName).before args s = true) (hstat : (Cond.static arraycopyName).before args s = true) (hini : (Cond.initialized "java/lang/System").before args s = true)
    (hK : va_K D cl tys s) (had : e_AD ad b0) (hR : e_RR ad b0 D cl tys fty st H) (hS : va_S (e_A b0) H0 H locs) {a0 a t0 t1 : Nat} {c0 c1 : ClassId} {ty : FieldType} (hib : e_ib ty = true) (hk0 : e_K st a0 = some (.inr t0)) (hk1 : e_K st a = some (.inr t1)) (ht0 : tys[t0]? = some (c0, ty)) (ht1 : tys[t1]? = some (c1, ty))
    {sp dp n : Int32} (h1 : ¬ sp < 0) (h2 : ¬ dp < 0) (h3 : ¬ n < 0) (h4 : sp.toNatClampNeg + n.toNatClampNeg ≤ e_N st a0) (h5 : dp.toNatClampNeg + n.toNatClampNeg ≤ e_N st a) (hfit : ∀ i, i < n.toNatClampNeg → fits ty (.int (e_I st a0 (sp.toNatClampNeg + i))) = true)
    (hframes : 1 ≤ R.frames) (hlocals : (rest.map fun v => v.category).sum + (nativeFrameWords "java/lang/System" "arraycopy" 5 + 11) ≤ R.locals) (hdg : decode cc pc = .ok (.invokestatic index, 3))
    (kk : ∀ (H1 : Heap) (locs1 : List Loc), e_RR ad b0 D cl tys fty (e_cI st a (va_cpy (e_I st a0) (e_I st a) sp.toNatClampNeg dp.toNatClampNeg n.toNatClampNeg)) H1 → va_S (e_A b0) H0 H1 locs1 → W p l e R s m args below meth c H1 locs1 cells slots Q (F0 m (pc + 3) ls rest)) : W p l e R s m args below meth c H locs cells slots Q (F0 m pc ls (.int n :: .int dp :: .ref (ad a) :: .int sp :: .ref (ad a0) :: rest)) := by
  have nn : ∀ z : Int32, ¬ z < 0 → z.toInt = (z.toNatClampNeg : Int) := by
    intro z hz
    have hz0 : (0 : Int) ≤ z.toInt := by
      have := Int32.not_lt.mp hz
      simpa using Int32.le_iff_toInt_le.mp this
    show z.toInt = ((z.toInt.toNat : Nat) : Int)
    omega
  have hpr : refKind ty = false := by cases ty <;> first | rfl | cases hib
  intro T hT X
  have hc0 : H[ad a0]? = some (vp_cell c0 (e_N st a0, .inl (e_I st a0))) := by
    have := e_cell had hR hk0 ht0
    rw [e_sh_ib hib] at this
    exact this
  have hc1 : H[ad a]? = some (vp_cell c1 (e_N st a, .inl (e_I st a))) := by
    have := e_cell had hR hk1 ht1
    rw [e_sh_ib hib] at this
    exact this
  obtain ⟨-, k0, hk0', cm0, hkk0⟩ := (hK.2 t0 _ ht0).1 (e_N st a0) (fun j => .int (e_I st a0 j))
  obtain ⟨-, k1, hk1', cm1, hkk1⟩ := (hK.2 t1 _ ht1).1 (e_N st a) (fun j => .int (e_I st a j))
  obtain ⟨vm', X', step⟩ := X.arraycopy hexec hown hlink hnat hstat hini (src := ad a0) (dst := ad a) (cs := vp_cell c0 (e_N st a0, .inl (e_I st a0))) (cd := vp_cell c1 (e_N st a, .inl (e_I st a))) (srcPos := sp) (destPos := dp) (n := n) (by rw [hT]; exact hc0) (by rw [hT]; exact hc1)
    (fun _ h => by cases h) (fun _ h => by cases h) (fun h => by cases h) (fun h => by cases h) hk0' hk1' hkk0 hkk1 (by simp [hpr]) h1 h2 h3
    (by rw [nn sp h1, nn n h3]; show ¬ _ > ((arrV c0 (e_N st a0) (fun j => .int (e_I st a0 j))).slots.size : Int); rw [arrV_size]; omega)
    (by rw [nn dp h2, nn n h3]; show ¬ _ > ((arrV c1 (e_N st a) (fun j => .int (e_I st a j))).slots.size : Int); rw [arrV_size]; omega)
    (fun vm₁ _ i hi => by
      have e9 : (vp_cell c0 (e_N st a0, .inl (e_I st a0))).slots.getD (sp.toNatClampNeg + i) .null = .int (e_I st a0 (sp.toNatClampNeg + i)) := by
        show (arrV c0 (e_N st a0) (fun j => .int (e_I st a0 j))).slots.getD _ _ = _
        rw [Array.getD_eq_getD_getElem?, arrV_read _ _ (by omega)]
        rfl
      refine ⟨?_, ?_⟩
      · rw [e9]
        exact hfit i hi
      · rw [e9]
        exact trivial)
    (g := F0 m pc ls (.int n :: .int dp :: .ref (ad a) :: .int sp :: .ref (ad a0) :: rest)) rfl (by rw [hml]) (rest := rest) rfl (by rw [hb]; exact hdg) hframes (by show 2 * 0 + _ + _ ≤ _; omega)
  have e1 : copied (vp_cell c0 (e_N st a0, .inl (e_I st a0))) (vp_cell c1 (e_N st a, .inl (e_I st a))) sp dp n = vp_cell c1 (e_N st a, .inl (va_cpy (e_I st a0) (e_I st a) sp.toNatClampNeg dp.toNatClampNeg n.toNatClampNeg)) := va_copied (fun z => .int z) c0 c1 (e_I st a0) (e_I st a) h4
  rw [e1] at X' step
  generalize hG : va_cpy (e_I st a0) (e_I st a) sp.toNatClampNeg dp.toNatClampNeg n.toNatClampNeg = G at X' step kk
  have hl : ad a < H.size := (Array.getElem?_eq_some_iff.mp hc1).1
  have hheap : ((T.setVm vm').setCell (ad a) (vp_cell c1 (e_N st a, .inl G))).heap = H.setIfInBounds (ad a) (vp_cell c1 (e_N st a, .inl G)) := by rw [← hT]; rfl
  have oq : ∀ q : Nat, q ≠ ad a → (H.setIfInBounds (ad a) (vp_cell c1 (e_N st a, .inl G)))[q]? = H[q]? := fun q hq => by simp [Array.getElem?_setIfInBounds, Ne.symm hq]
  have hA : e_A b0 (ad a) := e_base had hR hk1
  have he : e_en ad cl tys fty (e_cI st a G) a = some (.inl (c1, e_N st a, .inl G)) := by
    rw [e_en_arr (st := e_cI st a G) (q := (c1, ty)) (by show e_K st a = _; exact hk1) ht1, e_sh_ib hib]
    have h9 : e_I (e_cI st a G) a = G := by simp [e_cI, e_I]
    rw [h9]
    rfl
  obtain ⟨t, a1, b1⟩ := kk _ _ (e_RR.set (st' := e_cI st a G) hR had (by rw [hk1]; intro q; cases q) (by simp) oq rfl rfl (fun b hb => e_cI_ne hb) he (show (H.setIfInBounds (ad a) _)[ad a]? = some _ by simp [Array.getElem?_setIfInBounds, hl])) ⟨by simp; exact hS.1, fun q g1 g2 => by
      rw [oq q (fun e => g2 (by rw [e]; exact hA))]
      exact hS.2.1 q g1 g2, fun q hq => by
      rcases List.mem_append.mp hq with h | h
      · exact hS.2.2 q h
      · obtain ⟨z, -, hz⟩ := List.mem_map.mp h
        rw [← hz]
        exact hA⟩ _ hheap X'
  exact ⟨t, step t a1, b1⟩
end E_CP
theorem e_pC_g {ats : List FieldType} {pm : Nat → Nat → Nat} : e_xgrow (e_pC ats pm) := by
  intro M ins len pc lv stk st f st' h
  unfold e_pC at h
  split at h
  · split at h
    · split at h
      · split at h
        · split at h
          · cases h
            exact e_le.rf
          · cases h
        · cases h
      · cases h
    · cases h
  · cases h
section E_CO
variable {l : Launch} {ad : Nat → Nat} {D : va_G} {cl : List vw_C} {tys : List (ClassId × FieldType)} {ats : List FieldType} {fty : Nat → Nat → FieldType} {W0 Z0 : List Cond} {XB : State → Heap → Prop} {own : Nat → String} {b0 d : Nat}
theorem e_pC_ok {pm : Nat → Nat → Nat} (hta : ∀ (t : Nat) (ty : FieldType), ats[t]? = some ty → ∃ cA, tys[t]? = some (cA, ty)) (hP : e_OKPC W0 own pm) : e_EXS l ad D cl tys fty W0 Z0 XB own b0 d (e_pC ats pm) := by
  intro p e R s m args below meth c Q H locs ls cells slots M ins len pc lv stk st f st' h hM hx hb hml hg hW0 hz hZ0 hXB hown hK had hb0 hR hS hl hdec hRf hRl hc hs kk
  unfold e_pC at h
  split at h
  · rename_i idx n dp a sp a0 r
    split at h
    · rename_i hh
      obtain ⟨rfl, hpm, hr⟩ := hh
      split at h
      · rename_i t0 t1 hk0 hk1
        split at h
        · rename_i ty ty1 hty hty1
          split at h
          · rename_i hq
            obtain ⟨rfl, hib, h1, h2, h3, h4, h5, h6⟩ := hq
            cases h
            obtain ⟨cA, ht0⟩ := hta _ _ hty
            obtain ⟨cB, ht1⟩ := hta _ _ hty1
            obtain ⟨w1, w2, w3, w4⟩ := hP _ _ hpm
            have g := e_mv_sum (ad := ad) hr
            have nf : nativeFrameWords "java/lang/System" "arraycopy" 5 = 7 := by decide
            refine e_copyi hx hb (hml.trans hl.1.symm) hown (hW0 _ w1) (hW0 _ w2) (hW0 _ w3) (hW0 _ w4) hK had hR hS hib hk0 hk1 ht0 ht1 h1 h2 h3 h4 h5 h6 (by omega) (by rw [nf]; omega) hdec fun H1 locs1 g1 g2 => ?_
            have k1 := kk H1 locs1 ls g1 g2 hl
            have z0 : ∀ n : Nat, n + (e_T st - e_T st) = n := fun n => by omega
            have z1 : ∀ n : Nat, n + (e_Z st - e_Z st) = n := fun n => by omega
            have k2 : W p l e R s m args below meth c H1 locs1 (cells + (e_T st - e_T st)) (slots + (e_Z st - e_Z st)) Q (F0 m (pc + 3) ls (e_mv ad r)) := k1
            rw [z0, z1] at k2
            exact k2
          · cases h
        · cases h
      · cases h
    · cases h
  · cases h
end E_CO
end
