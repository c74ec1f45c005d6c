/-! PART 16: e_OKP, the end: fields, constants, classes -/
def e_cD : vw_C := ("", e_T0, 0)
theorem e_cl_get {ci : Nat} {r : vw_C} (h : e_cl[ci]? = some r) : e_cl.getD ci e_cD = r := by rw [List.getD_eq_getElem?_getD, h]; rfl
theorem e_cl_lt {ci : Nat} {r : vw_C} (h : e_cl[ci]? = some r) : ci < 22 := (List.getElem?_eq_some_iff.mp h).1
theorem e_cl_some {ci : Nat} (h : ci < 22) : ∃ r, e_cl[ci]? = some r := ⟨e_cl[ci]'h, List.getElem?_eq_getElem h⟩
theorem e_rg {n : Nat} {P : Nat → Bool} (h : (List.range n).all P = true) {i : Nat} (hi : i < n) : P i = true := List.all_eq_true.mp h i (List.mem_range.mpr hi)
def e_cN (ci : Nat) : Nat := (e_cl.getD ci e_cD).2.2
theorem e_fT_eq {ci k : Nat} {r : vw_C} (h : e_cl[ci]? = some r) : e_fT ci k = r.2.1 k := by
  unfold e_fT
  rw [show e_cl.getD ci ("", e_T0, 0) = r from e_cl_get h]
theorem e_cN_eq {ci : Nat} {r : vw_C} (h : e_cl[ci]? = some r) : e_cN ci = r.2.2 := by unfold e_cN; rw [e_cl_get h]
theorem e_cC_eq {ci : Nat} {r : vw_C} (h : e_cl[ci]? = some r) : e_cC ci = r.1 := by
  unfold e_cC
  rw [show e_cl.getD ci ("", e_T0, 0) = r from e_cl_get h]
set_option maxRecDepth 100000 in
theorem e_c_fty : (List.range 22).all (fun ci => (List.range (e_cN ci)).all fun k => decide (parseFieldDescriptor (e_fT ci k).2.2.1 = some (e_fty ci k))) = true := by decide +kernel
set_option maxRecDepth 100000 in
theorem e_c_dis : (List.range 22).all (fun ci => (List.range (e_cN ci)).all fun a => (List.range (e_cN ci)).all fun b => decide (a = b) || decide ((e_fT ci a).2.1 ≠ (e_fT ci b).2.1)) = true := by decide +kernel
set_option maxRecDepth 100000 in
theorem e_c_cn : (List.range 22).all (fun ci => decide (e_own (e_cn ci) = e_cC ci)) = true := by decide +kernel
set_option maxRecDepth 100000 in
theorem e_c_flW : e_flW.all (fun x => decide (x.2.2.1 < 22) && decide (x.2.2.2 < e_cN x.2.2.1)) = true := by decide +kernel
set_option maxRecDepth 100000 in
theorem e_c_flN : e_flN.all (fun x => decide (x.2.2.1 < 22) && (decide (x.2.2.2.1 < e_cN x.2.2.1) && (!(e_fT x.2.2.1 x.2.2.2.1).2.2.2 || decide ((e_fT x.2.2.1 x.2.2.2.1).1 ≠ e_own x.1)))) = true := by decide +kernel
set_option maxRecDepth 100000 in
theorem e_c_nl : e_nlL.all (fun x => decide (x.2.2 < 22) && (decide ((e_cC x.2.2, e_cN x.2.2) ∈ e_insts) && decide (e_cC x.2.2 ∈ e_inits))) = true := by decide +kernel
theorem e_c_nf : e_ftyL.all (fun l => l.all fun ty => decide (ty ≠ .float ∧ ty ≠ .double)) = true := by decide +kernel
theorem e_getD {α : Type} {P : α → Prop} {l : List α} {d : α} (h : ∀ x ∈ l, P x) (hd : P d) (k : Nat) : P (l.getD k d) := by
  rw [List.getD_eq_getElem?_getD]
  cases hk : l[k]? with
  | none => exact hd
  | some x => exact h x (List.mem_of_getElem? hk)
theorem e_fty_nf (ci k : Nat) : e_fty ci k ≠ .float ∧ e_fty ci k ≠ .double := by
  unfold e_fty
  refine e_getD (P := fun ty : FieldType => ty ≠ .float ∧ ty ≠ .double) ?_ ⟨by decide, by decide⟩ k
  refine e_getD (P := fun l : List FieldType => ∀ x ∈ l, x ≠ .float ∧ x ≠ .double) (fun l hl x hx => ?_) (fun x hx => by cases hx) ci
  have h := List.all_eq_true.mp (List.all_eq_true.mp e_c_nf l hl) x hx
  exact of_decide_eq_true h
theorem e_lay_good {C : String} {T : u_T} {N : Nat} {w : Cond} (h : w ∈ u_ws C T N) : goodWord w = true := by
  obtain ⟨k, -, rfl⟩ := List.mem_map.mp h
  unfold u_lay
  split <;> rfl
theorem e_ok_uws : ∀ (ci : Nat) (r : vw_C), e_cl[ci]? = some r → ∀ w ∈ u_ws r.1 r.2.1 r.2.2, w ∈ e_W0
  | 0, r, h, w, hw => by cases h; cases hw
  | 1, r, h, w, hw => by cases h; exact e_iW e_s_u1 hw (e_lay_good hw)
  | 2, r, h, w, hw => by cases h; exact e_iW e_s_u2 hw (e_lay_good hw)
  | 3, r, h, w, hw => by cases h; exact e_iW e_s_u3 hw (e_lay_good hw)
  | 4, r, h, w, hw => by cases h; exact e_iW e_s_u4 hw (e_lay_good hw)
  | 5, r, h, w, hw => by cases h; exact e_iW e_s_u5 hw (e_lay_good hw)
  | 6, r, h, w, hw => by cases h; exact e_iW e_s_u6 hw (e_lay_good hw)
  | 7, r, h, w, hw => by cases h; exact e_iW e_s_u7 hw (e_lay_good hw)
  | 8, r, h, w, hw => by cases h; exact e_iW e_s_u8 hw (e_lay_good hw)
  | 9, r, h, w, hw => by cases h; exact e_iW e_s_u9 hw (e_lay_good hw)
  | 10, r, h, w, hw => by cases h; exact e_iW e_s_u10 hw (e_lay_good hw)
  | 11, r, h, w, hw => by cases h; exact e_iW e_s_u11 hw (e_lay_good hw)
  | 12, r, h, w, hw => by cases h; exact e_iW e_s_u12 hw (e_lay_good hw)
  | 13, r, h, w, hw => by cases h; exact e_iW e_s_u13 hw (e_lay_good hw)
  | 14, r, h, w, hw => by cases h; exact e_iW e_s_u14 hw (e_lay_good hw)
  | 15, r, h, w, hw => by cases h; exact e_iW e_s_u15 hw (e_lay_good hw)
  | 16, r, h, w, hw => by cases h; exact e_iW e_s_u16 hw (e_lay_good hw)
  | 17, r, h, w, hw => by cases h; exact e_iW e_s_u17 hw (e_lay_good hw)
  | 18, r, h, w, hw => by cases h; exact e_iW e_s_u18 hw (e_lay_good hw)
  | 19, r, h, w, hw => by cases h; exact e_iW e_s_u19 hw (e_lay_good hw)
  | 20, r, h, w, hw => by cases h; exact e_iW e_s_u20 hw (e_lay_good hw)
  | 21, r, h, w, hw => by cases h; exact e_iW e_s_u21 hw (e_lay_good hw)
  | k + 22, r, h, w, hw => by cases h
theorem e_ok_C : e_OKC e_cl e_ats e_fty e_W0 := by
  refine ⟨fun ci r h => ⟨e_ok_uws ci r h, fun k hk => ?_, fun a ha b hb hab => ?_⟩, e_fty_nf, fun ty hty hat => ?_⟩
  · have h1 := e_rg (e_rg e_c_fty (e_cl_lt h)) (i := k) (by rw [e_cN_eq h]; exact hk)
    rw [e_fT_eq h] at h1
    exact of_decide_eq_true h1
  · have h1 := e_rg (e_rg (e_rg e_c_dis (e_cl_lt h)) (i := a) (by rw [e_cN_eq h]; exact ha)) (i := b) (by rw [e_cN_eq h]; exact hb)
    rw [e_fT_eq h, e_fT_eq h] at h1
    simp only [Bool.or_eq_true, decide_eq_true_eq] at h1
    rcases h1 with h1 | h1
    · exact absurd h1 hab
    · exact h1
  · have h4 : ty ∈ e_ats.take 4 → Cond.arrayClass ty ∈ e_W0 := fun q => e_iW e_s_ats (e_mem_map (f := fun t => Cond.arrayClass t) q) rfl
    unfold e_ats at hty
    simp only [List.mem_cons, List.not_mem_nil, or_false] at hty
    rcases hty with rfl | rfl | rfl | rfl | rfl | rfl | rfl
    · exact h4 (by decide)
    · exact h4 (by decide)
    · exact h4 (by decide)
    · exact h4 (by decide)
    all_goals
      obtain ⟨a, ha⟩ := hat
      cases a <;> cases ha
theorem e_ok_T (o : Nat) : e_OKT e_cl e_ats e_fty e_W0 e_Z0 e_fl e_kI e_kL e_nl o (e_own o) := by
  refine ⟨fun idx ci k h => ?_, fun idx v h => ?_, fun idx v h => ?_, fun idx ci h => ?_⟩
  · unfold e_fl at h
    split at h
    · rename_i x hx
      obtain ⟨rfl, rfl⟩ : ci = x.2.2.1 ∧ k = x.2.2.2 := by
        have h9 := Option.some.inj h
        rw [h9]
        exact ⟨rfl, rfl⟩
      have hm := List.mem_of_find?_eq_some hx
      have hp := List.find?_some hx
      simp only [Bool.and_eq_true, beq_iff_eq] at hp
      have h1 := List.all_eq_true.mp e_c_flW x hm
      simp only [Bool.and_eq_true, decide_eq_true_eq] at h1
      obtain ⟨r, hr⟩ := e_cl_some h1.1
      have h9 := e_iW e_s_flW (e_mem_map (f := fun x => Cond.fieldLink (e_own x.1) x.2.1 (e_fT x.2.2.1 x.2.2.2).1 (e_fT x.2.2.1 x.2.2.2).2.1 (e_fT x.2.2.1 x.2.2.2).2.2.1) hm) rfl
      rw [e_fT_eq hr, hp.1, hp.2] at h9
      exact ⟨r, hr, by rw [← e_cN_eq hr]; exact h1.2, Or.inl h9, fun _ _ => h9⟩
    · obtain ⟨x, hx, h2⟩ := Option.map_eq_some_iff.mp h
      obtain ⟨rfl, rfl⟩ : x.2.2.1 = ci ∧ x.2.2.2.1 = k := Prod.mk.inj h2
      have hm := List.mem_of_find?_eq_some hx
      have hp := List.find?_some hx
      simp only [Bool.and_eq_true, beq_iff_eq] at hp
      have h1 := List.all_eq_true.mp e_c_flN x hm
      simp only [Bool.and_eq_true, Bool.or_eq_true, Bool.not_eq_true', decide_eq_true_eq] at h1
      obtain ⟨r, hr⟩ := e_cl_some h1.1
      have h9 := e_iZ e_s_flN (e_mem_map (f := fun x => Cond.fieldLinkNest (e_own x.1) x.2.1 (e_fT x.2.2.1 x.2.2.2.1).1 (e_fT x.2.2.1 x.2.2.2.1).2.1 (e_fT x.2.2.1 x.2.2.2.1).2.2.1 x.2.2.2.2) hm) rfl
      rw [e_fT_eq hr, hp.1, hp.2] at h9
      have h8 := h1.2.2
      rw [e_fT_eq hr, hp.1] at h8
      refine ⟨r, hr, by rw [← e_cN_eq hr]; exact h1.2.1, Or.inr ⟨_, h9⟩, fun q1 q2 => ?_⟩
      rcases h8 with h8 | h8
      · rw [q1] at h8; cases h8
      · exact absurd q2 h8
  · obtain ⟨x, hx, h2⟩ := Option.map_eq_some_iff.mp h
    subst h2
    have hm := List.mem_of_find?_eq_some hx
    have hp := List.find?_some hx
    simp only [Bool.and_eq_true, beq_iff_eq] at hp
    have h9 := e_iW e_s_kI (e_mem_map (f := fun x => Cond.constant (e_own x.1) x.2.1 x.2.2) hm) rfl
    rw [hp.1, hp.2] at h9
    exact h9
  · obtain ⟨x, hx, h2⟩ := Option.map_eq_some_iff.mp h
    subst h2
    have hm := List.mem_of_find?_eq_some hx
    have hp := List.find?_some hx
    simp only [Bool.and_eq_true, beq_iff_eq] at hp
    have h9 := e_iW e_s_kL (e_mem_map (f := fun x => Cond.constantLong (e_own x.1) x.2.1 x.2.2) hm) rfl
    rw [hp.1, hp.2] at h9
    exact h9
  · obtain ⟨x, hx, h2⟩ := Option.map_eq_some_iff.mp h
    subst h2
    have hm := List.mem_of_find?_eq_some hx
    have hp := List.find?_some hx
    simp only [Bool.and_eq_true, beq_iff_eq] at hp
    have h1 := List.all_eq_true.mp e_c_nl x hm
    simp only [Bool.and_eq_true, decide_eq_true_eq] at h1
    obtain ⟨r, hr⟩ := e_cl_some h1.1
    have h9 := e_iW e_s_nl (e_mem_map (f := fun x => Cond.classLink (e_own x.1) x.2.1 (e_cC x.2.2)) hm) rfl
    have h8 := h1.2
    rw [e_cC_eq hr, e_cN_eq hr] at h8
    rw [e_cC_eq hr, hp.1, hp.2] at h9
    exact ⟨r, hr, h9, e_iW e_insts_ok (e_mem_map (f := fun x => Cond.instantiable x.1 x.2) h8.1) rfl, e_iW e_s_ini (e_mem_map h8.2) rfl⟩
/-- what the evaluator of this program reckons with is what its words say -/
theorem e_okP : e_OKP e_cl e_ats e_fty e_W0 e_Z0 e_fl e_kI e_kL e_nl e_ml e_mt e_cn 0 e_own := by
  refine ⟨e_ok_C, e_ok_T, fun w h => (List.mem_filter.mp h).2, fun z h => (List.mem_filter.mp h).2, fun j M h => e_okM h, e_ok_ml, fun ci q h => ?_, ⟨_, rfl, rfl⟩⟩
  have h1 := e_rg e_c_cn (e_cl_lt h)
  rw [e_cC_eq h] at h1
  exact of_decide_eq_true h1
