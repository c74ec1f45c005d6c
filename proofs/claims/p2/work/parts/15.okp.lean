/-! PART 15: e_OKP of the program's tables -/
theorem e_iW {f : List Cond} (h : e_isub f tables_1 = true) {w : Cond} (hw : w ∈ f) (hg : goodWord w = true) : w ∈ e_W0 := e_inW (lw_in (e_isub_ok h w hw)) hg
theorem e_iZ {f : List Cond} (h : e_isub f tables_1 = true) {w : Cond} (hw : w ∈ f) (hg : e_z w = true) : w ∈ e_Z0 := e_inZ (lw_in (e_isub_ok h w hw)) hg
theorem e_cW {f : List Cond} (h : e_csub f tables_1 = true) {w : Cond} (hw : w ∈ f) (hg : goodWord w = true) : w ∈ e_W0 := e_inW (lw_in (e_csub_ok h w hw)) hg
theorem e_good_cw {M : e_M} : goodWord (e_cw M) = true := by
  unfold e_cw
  split <;> rfl
set_option maxRecDepth 100000 in
theorem e_c_names : e_mtL.all (fun M => plainName (e_my M).cls && (decide ((e_my M).cls ≠ "java/lang/invoke/MethodHandle" ∧ (e_my M).cls ≠ "java/lang/invoke/VarHandle") && (decide (e_own (e_mo M) = (e_my M).cls) && (decide ((e_my M).cls ∈ e_inits) && (decide (e_mL M ≤ 21)))))) = true := by decide +kernel
set_option maxRecDepth 100000 in
theorem e_c_desc : e_mtL.all (fun M => decide ((parseMethodDescriptor (e_my M).desc).map (fun d => d.parameters.length) = some (e_mn M))) = true := by decide +kernel
set_option maxRecDepth 100000 in
theorem e_c_hs : e_mtL.all (fun M => (e_mh M).all fun x => decide (x.2.2.2 ≠ 0) && e_hs.any fun h => decide (h.1 = (e_my M).cls ∧ h.2.1 = x.2.2.2 ∧ h.2.2 ∈ e_hn)) = true := by decide +kernel
set_option maxRecDepth 100000 in
theorem e_c_S : e_mS.all (fun M => decide (e_mh M = [])) = true := by decide +kernel
set_option maxRecDepth 100000 in
theorem e_c_I : e_mI.all (fun M => decide (e_mh M = [] ∧ (e_my M).name = "<init>" ∧ e_mr M = none)) = true := by decide +kernel
def e_kd (how j : Nat) : Bool := (decide (how = 0) && decide (j < 641)) || ((decide (how = 1) && (decide (641 ≤ j) && decide (j < 702))) || (decide (how = 2) && decide (702 ≤ j)))
set_option maxRecDepth 100000 in
theorem e_c_mlW : e_mlW.all (fun x => e_kd x.2.2.1 x.2.2.2) = true := by decide +kernel
set_option maxRecDepth 100000 in
theorem e_c_mlN : e_mlN.all (fun x => e_kd x.2.2.1 x.2.2.2.1 && decide (e_mh (e_jm x.2.2.2.1) = [])) = true := by decide +kernel
theorem e_in4 {M : e_M} (h : M ∈ e_mtL) : M ∈ e_mV ∨ M ∈ e_mP ∨ M ∈ e_mS ∨ M ∈ e_mI := by
  unfold e_mtL at h
  simp only [List.mem_append] at h
  rcases h with (h | h) | (h | h)
  · exact Or.inl h
  · exact Or.inr (Or.inl h)
  · exact Or.inr (Or.inr (Or.inl h))
  · exact Or.inr (Or.inr (Or.inr h))
theorem e_mem_map {α β : Type} {f : α → β} {l : List α} {a : α} (h : a ∈ l) : f a ∈ l.map f := List.mem_map.mpr ⟨a, h, rfl⟩
theorem e_okM {j : Nat} {M : e_M} (h : e_mt j = some M) : e_OKM e_W0 e_Z0 e_own M := by
  have hm := e_mt_in h
  have h1 := List.all_eq_true.mp e_c_names M hm
  have h2 := List.all_eq_true.mp e_c_desc M hm
  have h3 := List.all_eq_true.mp e_c_hs M hm
  simp only [Bool.and_eq_true, decide_eq_true_eq] at h1 h2
  refine ⟨?_, h1.1, h1.2.1, h2, h1.2.2.1, e_iW e_s_ini (e_mem_map h1.2.2.2.1) rfl, h1.2.2.2.2, fun x hx => ?_⟩
  · rcases e_in4 hm with q | q | q | q
    · exact e_cW e_s_code0 (e_mem_map q) e_good_cw
    · exact e_cW e_s_code1 (e_mem_map q) e_good_cw
    · exact e_cW e_s_code2 (e_mem_map q) e_good_cw
    · exact e_cW e_s_code3 (e_mem_map q) e_good_cw
  · have h4 := List.all_eq_true.mp h3 x hx
    rw [Bool.and_eq_true] at h4
    obtain ⟨h5, h6⟩ := h4
    obtain ⟨y, hy, h7⟩ := List.any_eq_true.mp h6
    simp only [decide_eq_true_eq] at h5 h7
    refine ⟨h5, y.2.2, ?_, e_iZ e_s_hn (e_mem_map h7.2.2) rfl⟩
    have h8 := e_iW e_s_hs (e_mem_map hy) rfl
    rw [h7.1, h7.2.1] at h8
    exact h8
theorem e_mt_01 {j : Nat} {M : e_M} (h : e_mt j = some M) (hj : j < 641) : M ∈ e_mV ∨ M ∈ e_mP := by
  have h0 : e_mt j = e_mL0[j]? := by
    unfold e_mt e_mtL
    exact List.getElem?_append_left (by show j < e_mL0.length; rw [e_len0]; exact hj)
  rw [h0] at h
  exact List.mem_append.mp (List.mem_of_getElem? h)
theorem e_mt_23 {j : Nat} {M : e_M} (h : e_mt j = some M) (hj : 641 ≤ j) : e_mL1[j - 641]? = some M := by
  have h0 : e_mt j = e_mL1[j - e_mL0.length]? := by
    unfold e_mt e_mtL
    exact List.getElem?_append_right (by show e_mL0.length ≤ j; rw [e_len0]; exact hj)
  rw [h0, e_len0] at h
  exact h
theorem e_mt_2 {j : Nat} {M : e_M} (h : e_mt j = some M) (hj : 641 ≤ j) (hk : j < 702) : M ∈ e_mS := by
  have h1 := e_mt_23 h hj
  unfold e_mL1 at h1
  rw [List.getElem?_append_left (by rw [e_lenS]; omega)] at h1
  exact List.mem_of_getElem? h1
theorem e_mt_3 {j : Nat} {M : e_M} (h : e_mt j = some M) (hj : 702 ≤ j) : M ∈ e_mI := by
  have h1 := e_mt_23 h (by omega)
  unfold e_mL1 at h1
  rw [List.getElem?_append_right (by rw [e_lenS]; omega)] at h1
  exact List.mem_of_getElem? h1
theorem e_okL {own : String} {idx how j : Nat} {M : e_M} (h : e_mt j = some M) (hk : e_kd how j = true) (hl : e_LK e_W0 e_Z0 own idx (e_my M) (e_mh M = [])) : how ≠ 9 ∧ e_OKL e_W0 e_Z0 own idx how M := by
  unfold e_kd at hk
  simp only [Bool.or_eq_true, Bool.and_eq_true, decide_eq_true_eq] at hk
  rcases hk with ⟨rfl, hk⟩ | ⟨rfl, hk⟩ | ⟨rfl, hk⟩
  · refine ⟨by omega, ?_, ?_, hl⟩
    · rcases e_mt_01 h hk with q | q
      · exact e_iW e_s_inst0 (e_mem_map (f := fun M => Cond.instanceMethod (e_my M)) q) rfl
      · exact e_iW e_s_inst1 (e_mem_map (f := fun M => Cond.instanceMethod (e_my M)) q) rfl
    · rcases e_mt_01 h hk with q | q
      · exact e_iW e_s_selV (e_mem_map (f := fun M => Cond.selects (e_my M).cls (e_my M) (e_my M)) q) rfl
      · exact e_inW (List.mem_append_left _ (e_isub_ok e_s_selP _ (e_mem_map (f := fun M => Cond.selects (e_my M).cls (e_my M) (e_my M)) q))) rfl
  · have q := e_mt_2 h hk.1 hk.2
    have h5 := List.all_eq_true.mp e_c_S M q
    simp only [decide_eq_true_eq] at h5
    refine ⟨by omega, e_iW e_s_stat (e_mem_map (f := fun M => Cond.static (e_my M)) q) rfl, h5, ?_⟩
    rcases hl with hl | hl
    · exact Or.inl hl
    · exact Or.inr ⟨trivial, hl.2⟩
  · have q := e_mt_3 h hk
    have h5 := List.all_eq_true.mp e_c_I M q
    simp only [decide_eq_true_eq] at h5
    refine ⟨by omega, h5.2.1, h5.2.2, h5.1, e_iW e_s_inst3 (e_mem_map (f := fun M => Cond.instanceMethod (e_my M)) q) rfl, ?_⟩
    rcases hl with hl | hl
    · exact Or.inl hl
    · exact Or.inr ⟨trivial, hl.2⟩
theorem e_ok_ml (o idx how j : Nat) (h : e_ml o idx = some (how, j)) : (how = 9 ∧ Cond.methodLink (e_own o) idx objectInit ∈ e_W0 ∧ Cond.instanceMethod objectInit ∈ e_W0 ∧ Cond.code objectInit ⟨#[0xb1]⟩ 1 none ∈ e_W0) ∨ (how ≠ 9 ∧ ∀ M, e_mt j = some M → e_OKL e_W0 e_Z0 (e_own o) idx how M) := by
  unfold e_ml at h
  split at h
  · rename_i x hx
    obtain ⟨rfl, rfl⟩ : how = x.2.2.1 ∧ j = x.2.2.2 := by
      have h9 := Option.some.inj h
      rw [h9]
      exact ⟨rfl, rfl⟩
    have hm := List.mem_of_find?_eq_some hx
    have hp := List.find?_some hx
    simp only [Bool.and_eq_true, beq_iff_eq] at hp
    have hk := List.all_eq_true.mp e_c_mlW x hm
    have key : ∀ M, e_mt x.2.2.2 = some M → x.2.2.1 ≠ 9 ∧ e_OKL e_W0 e_Z0 (e_own o) idx x.2.2.1 M := fun M hM => by
      refine e_okL hM hk (Or.inl ?_)
      have h9 := e_iW e_s_mlW (e_mem_map (f := fun x => Cond.methodLink (e_own x.1) x.2.1 (e_my (e_jm x.2.2.2))) hm) rfl
      rw [e_jm_ok hM, hp.1, hp.2] at h9
      exact h9
    refine Or.inr ⟨?_, fun M hM => (key M hM).2⟩
    intro h9
    unfold e_kd at hk
    simp only [Bool.or_eq_true, Bool.and_eq_true, decide_eq_true_eq] at hk
    have h9' : x.2.2.1 = 9 := h9
    omega
  · split at h
    · rename_i x hx
      cases h
      have hm := List.mem_of_find?_eq_some hx
      have hp := List.find?_some hx
      simp only [Bool.and_eq_true, beq_iff_eq] at hp
      have hk0 := List.all_eq_true.mp e_c_mlN x hm
      simp only [Bool.and_eq_true, decide_eq_true_eq] at hk0
      obtain ⟨hk, hh⟩ := hk0
      refine Or.inr ⟨?_, fun M hM => ?_⟩
      · intro h9
        unfold e_kd at hk
        simp only [Bool.or_eq_true, Bool.and_eq_true, decide_eq_true_eq] at hk
        have h9' : x.2.2.1 = 9 := h9
        omega
      · refine (e_okL hM hk (Or.inr ⟨?_, x.2.2.2.2, ?_⟩)).2
        · rw [e_jm_ok hM] at hh
          exact hh
        · have h9 := e_iZ e_s_mlN (e_mem_map (f := fun x => Cond.methodLinkNest (e_own x.1) x.2.1 (e_my (e_jm x.2.2.2.1)) x.2.2.2.2) hm) rfl
          rw [e_jm_ok hM, hp.1, hp.2] at h9
          exact h9
    · obtain ⟨x, hx, h2⟩ := Option.map_eq_some_iff.mp h
      cases h2
      have hm := List.mem_of_find?_eq_some hx
      have hp := List.find?_some hx
      simp only [Bool.and_eq_true, beq_iff_eq] at hp
      refine Or.inl ⟨rfl, ?_, e_iW e_s_obi (List.mem_singleton.mpr rfl) rfl, e_cW e_s_obj (List.mem_singleton.mpr rfl) rfl⟩
      have h9 := e_iW e_s_mlO (e_mem_map (f := fun x => Cond.methodLink (e_own x.1) x.2 objectInit) hm) rfl
      rw [hp.1, hp.2] at h9
      exact h9
