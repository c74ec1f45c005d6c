/-! PART 53: all promises of a list, at every depth -/
noncomputable section
def y_lva : Nat → List y_SV → List (Nat × y_SV)
  | _, [] => []
  | i, q :: l => (i, q) :: y_lva (match Nat.beq q.1 1 with
    | true => i + 2
    | false => i + 1) l
def y_ent0 (E : y_S) : y_S := (s_n E, y_lva 0 (s_s E), [], s_m E, y_ra (s_f E) [], s_a E)
/-- one promise: how its depth is above 0, its walk; at each head, a walk -/
abbrev y_CE : Type := y_CX × List y_HD × y_Str × List y_Str
def y_chh (U : y_WT) (fp : Nat → List g_LE → List y_MI) (RL : y_R2) (T : y_TB) (XR : y_XR) (XN : e_M → Instr → y_S → Bool) (CS : List y_CX) (M : e_M) (c : y_CX) (hd : List y_HD) (L fu : Nat) : List y_HD → List y_Str → Bool
  | [], [] => true
  | H :: l, s :: ss => (Nat.ble (s_n (c_E c)) (s_n H.2.1) && (H.2.2.all (g_sc (s_n H.2.1)) && (Nat.beq H.2.2.length L && (s_s H.2.1).isEmpty))) && ((match y_rn U fp RL T XR XN CS M c hd (some H.2.2) [] fu true H.1 (y_hst H.2.1) s with
    | some [] => true
    | _ => false) && y_chh U fp RL T XR XN CS M c hd L fu l ss)
  | _, _ => false
def y_chc (U : y_WT) (fp : Nat → List g_LE → List y_MI) (RL : y_R2) (T : y_TB) (XR : y_CX → y_XR) (XN : e_M → Instr → y_S → Bool) (CS : List y_CX) (L fu : Nat) (e : y_CE) : Bool := match t_mt T (c_j e.1) with
  | none => false
  | some M => (y_okc e.1 && ((s_l (c_E e.1)).isEmpty && Nat.ble (y_cts (s_s (c_E e.1))) (e_mL M))) && ((match y_ck (y_ra (s_f (c_E e.1)) []) e.2.2.1 (g_ac (-1) (c_D e.1)) with
    | none => false
    | some s => (match y_rn U fp RL T (XR e.1) XN CS M e.1 e.2.1 none [] fu true 0 (y_ent0 (c_E e.1)) s with
      | some [] => true
      | _ => false)) && y_chh U fp RL T (XR e.1) XN CS M e.1 e.2.1 L fu e.2.1 e.2.2.2)
section Y_AL
variable {T : y_TB} {U : y_WT} {AT : Nat → List Int → y_W → Prop} {fp : Nat → List g_LE → List y_MI} {RL : y_R2} {XN : e_M → Instr → y_S → Bool} {CS : List y_CX} {M : e_M} {c : y_CX} {hd : List y_HD} {r r' r0 r1 : Nat → Int} {w w' w0 : y_W} {d : Nat} {As : List Value}
theorem y_lva_ok {st : e_ST} {KT : Nat → Option (Nat ⊕ Nat)} {LT : Nat → Option Nat} : ∀ {l : List y_SV} {vs : List Value} {i : Nat}, y_dS KT LT r st l vs → y_dL KT LT r st (y_lva i l) (lv_args i vs) ∧ ∀ q ∈ y_lva i l, i ≤ q.1
  | [], [], _, _ => ⟨fun q hq => (by cases hq), fun q hq => (by cases hq)⟩
  | q :: l, v :: vs, i, h => by
    have hcat : (if v.category = 2 then i + 2 else i + 1) = (match Nat.beq q.1 1 with
      | true => i + 2
      | false => i + 1) := by
      split
      · rename_i hv
        split
        · rfl
        · rename_i hq
          obtain ⟨t, e⟩ := q
          have ht : t ≠ 1 := by
            intro hc
            rw [hc] at hq
            cases hq
          rw [y_cat h.1 ht] at hv
          omega
      · rename_i hv
        split
        · rename_i hq
          obtain ⟨t, e⟩ := q
          have ht : t = 1 := Nat.eq_of_beq_eq_true hq
          subst ht
          obtain ⟨x, rfl, -⟩ := h.1
          exact absurd rfl hv
        · rfl
    obtain ⟨ih1, ih2⟩ := y_lva_ok (i := if v.category = 2 then i + 2 else i + 1) h.2
    have hge : i + 1 ≤ (if v.category = 2 then i + 2 else i + 1) := by split <;> omega
    unfold y_lva lv_args
    rw [← hcat]
    refine ⟨y_dL_cons (fun z hz => ?_) h.1 ih1, fun z hz => ?_⟩
    · have := ih2 z hz
      omega
    · rcases List.mem_cons.mp hz with hz | hz
      · rw [hz]; exact Nat.le_refl _
      · have := ih2 z hz
        omega
  | [], _ :: _, _, h => h.elim
  | _ :: _, [], _, h => h.elim
theorem y_sl_len {st : e_ST} {KT : Nat → Option (Nat ⊕ Nat)} {LT : Nat → Option Nat} : ∀ {l : List y_SV} {vs : List Value}, y_dS KT LT r st l vs → (lg_sl vs).length = y_cts l
  | [], [], _ => rfl
  | q :: l, v :: vs, h => by
    have ih := y_sl_len h.2
    have e1 : (lg_sl (v :: vs)).length = (if v.category = 2 then 2 else 1) + (lg_sl vs).length := by
      unfold lg_sl
      rw [List.flatMap_cons, List.length_append]
      congr 1
      split <;> rfl
    rw [e1, ih]
    show _ = (match Nat.beq q.1 1 with
      | true => 2
      | false => 1) + y_cts l
    congr 1
    obtain ⟨t, e⟩ := q
    split
    · rename_i hv
      split
      · rfl
      · rename_i hq
        have ht : t ≠ 1 := by
          intro hc
          rw [hc] at hq
          cases hq
        rw [y_cat h.1 ht] at hv
        omega
    · rename_i hv
      split
      · rename_i hq
        have ht : t = 1 := Nat.eq_of_beq_eq_true hq
        subst ht
        obtain ⟨x, rfl, -⟩ := h.1
        exact absurd rfl hv
      · rfl
  | [], _ :: _, h => h.elim
  | _ :: _, [], h => h.elim
theorem y_chh_ok {XR : y_XR} {L fu : Nat} : ∀ {l : List y_HD} {ss : List y_Str}, y_chh U fp RL T XR XN CS M c hd L fu l ss = true → ∀ H ∈ l, (s_n (c_E c) ≤ s_n H.2.1 ∧ (∀ e ∈ H.2.2, g_sc (s_n H.2.1) e = true) ∧ H.2.2.length = L ∧ s_s H.2.1 = []) ∧ ∃ s, y_rn U fp RL T XR XN CS M c hd (some H.2.2) [] fu true H.1 (y_hst H.2.1) s = some []
  | [], [], _, H, hH => by cases hH
  | K :: l, s :: ss, h, H, hH => by
    unfold y_chh at h
    rw [Bool.and_eq_true, Bool.and_eq_true, Bool.and_eq_true, Bool.and_eq_true, Bool.and_eq_true] at h
    obtain ⟨⟨h1, h2, h3, h4⟩, h5, h6⟩ := h
    rcases List.mem_cons.mp hH with hH | hH
    · subst hH
      refine ⟨⟨Nat.le_of_ble_eq_true h1, List.all_eq_true.mp h2, Nat.eq_of_beq_eq_true h3, List.isEmpty_iff.mp h4⟩, s, ?_⟩
      split at h5
      · assumption
      · cases h5
    · exact y_chh_ok h6 H hH
  | [], _ :: _, h, _, _ => by cases h
  | _ :: _, [], h, _, _ => by cases h
/-- walks from the places where a walk was cut: each may come to the later ones -/
def y_PK (U : y_WT) (fp : Nat → List g_LE → List y_MI) (RL : y_R2) (T : y_TB) (XR : y_XR) (XN : e_M → Instr → y_S → Bool) (CS : List y_CX) (M : e_M) (c : y_CX) (hd : List y_HD) (m0 : Option (List g_LE)) (fu : Nat) : List (Nat × y_S) → Prop
  | [] => True
  | x :: CK => (∃ s CS', (∀ c' ∈ CS', c' ∈ CS) ∧ y_rn U fp RL T XR XN CS' M c hd m0 CK fu true x.1 x.2 s = some []) ∧ y_PK U fp RL T XR XN CS M c hd m0 fu CK
/-- a promise that is checked, in pieces -/
def y_CHP (U : y_WT) (fp : Nat → List g_LE → List y_MI) (RL : y_R2) (T : y_TB) (XR : y_CX → y_XR) (XN : e_M → Instr → y_S → Bool) (CS : List y_CX) (L fu : Nat) (c : y_CX) (hd : List y_HD) : Prop := ∃ M, t_mt T (c_j c) = some M ∧ (y_okc c && ((s_l (c_E c)).isEmpty && Nat.ble (y_cts (s_s (c_E c))) (e_mL M))) = true ∧ (∃ s0 s CK CS', (∀ c' ∈ CS', c' ∈ CS) ∧ y_ck (y_ra (s_f (c_E c)) []) s0 (g_ac (-1) (c_D c)) = some s ∧ y_rn U fp RL T (XR c) XN CS' M c hd none CK fu true 0 (y_ent0 (c_E c)) s = some [] ∧ y_PK U fp RL T (XR c) XN CS M c hd none fu CK) ∧ ∀ H ∈ hd, (s_n (c_E c) ≤ s_n H.2.1 ∧ (∀ e ∈ H.2.2, g_sc (s_n H.2.1) e = true) ∧ H.2.2.length = L ∧ s_s H.2.1 = []) ∧ ∃ s CK CS', (∀ c' ∈ CS', c' ∈ CS) ∧ y_rn U fp RL T (XR c) XN CS' M c hd (some H.2.2) CK fu true H.1 (y_hst H.2.1) s = some [] ∧ y_PK U fp RL T (XR c) XN CS M c hd (some H.2.2) fu CK
theorem y_chc_p {XR : y_CX → y_XR} {L fu : Nat} {e : y_CE} (h : y_chc U fp RL T XR XN CS L fu e = true) : y_CHP U fp RL T XR XN CS L fu e.1 e.2.1 := by
  obtain ⟨c, hd, s0, ss⟩ := e
  unfold y_chc at h
  dsimp only at h
  split at h
  · cases h
  · rename_i M hM
    rw [Bool.and_eq_true] at h
    obtain ⟨hok, h2⟩ := h
    rw [Bool.and_eq_true] at h2
    obtain ⟨hwk, hch⟩ := h2
    refine ⟨M, hM, hok, ?_, fun H hH => ?_⟩
    · split at hwk
      · cases hwk
      · rename_i s hck
        split at hwk
        · rename_i hrn
          exact ⟨s0, s, [], CS, fun _ h => h, hck, hrn, trivial⟩
        · cases hwk
    · obtain ⟨h1, s, h2⟩ := y_chh_ok hch H hH
      exact ⟨h1, s, [], CS, fun _ h => h, h2, trivial⟩
theorem y_PK_ok (hH : y_HY T U AT fp RL XN) {XR : y_XR} (hXR : y_XO T U AT (c_M c) (c_t c) XR) (hCS : ∀ c' ∈ CS, y_CT T U AT d c') (hok : y_okc c = true) (hE : y_DD U AT r0 (c_E c) [] As w0) (hD : g_ev r0 (c_D c) ≤ (d : Int) + 1) {n1 fu : Nat} {m0 : Option (List g_LE)} (hn1 : s_n (c_E c) ≤ n1) (hr1 : ∀ i, i < s_n (c_E c) → r1 i = r0 i) (hm0 : ∀ m, m0 = some m → ∀ e ∈ m, g_sc n1 e = true)
    (HH : ∀ H ∈ hd, ∀ (rr : Nat → Int) (lv : e_LV) (w : y_W), y_DD U AT rr H.2.1 lv [] w → (∀ i, i < s_n (c_E c) → rr i = r0 i) → y_Fr r0 (c_M c) w0 w → y_dec m0 r1 H rr → y_GD T U AT d M c r0 w0 lv [] w H.1) :
    ∀ {CK : List (Nat × y_S)}, y_PK U fp RL T XR XN CS M c hd m0 fu CK → ∀ x ∈ CK, ∀ (rr : Nat → Int) (lv : e_LV) (stk : List Value) (w : y_W), y_DD U AT rr x.2 lv stk w → (∀ i, i < n1 → rr i = r1 i) → n1 ≤ s_n x.2 → y_Fr r0 (c_M c) w0 w → y_GD T U AT d M c r0 w0 lv stk w x.1
  | [], _, x, hx => by cases hx
  | y :: CK, h, x, hx => by
    obtain ⟨⟨s, CS', hsub, hs⟩, h2⟩ := h
    have ih := y_PK_ok hH hXR hCS hok hE hD hn1 hr1 hm0 HH h2
    rcases List.mem_cons.mp hx with hx | hx
    · subst hx
      intro rr lv stk w kD hrr hn hf
      exact y_rn_ok hH hXR (fun c' h => hCS c' (hsub c' h)) hok hE hD hn1 hr1 hm0 HH ih fu true _ _ s [] hs rr lv stk w kD hrr hn hf
    · exact ih x hx
/-- a promise that is checked holds one deeper than those that it calls by -/
theorem y_chp_ok (hH : y_HY T U AT fp RL XN) {XR : y_CX → y_XR} (hXR : ∀ c, y_XO T U AT (c_M c) (c_t c) (XR c)) {L fu : Nat} (h : y_CHP U fp RL T XR XN CS L fu c hd) (hCS : ∀ c' ∈ CS, y_CT T U AT d c') : y_CT T U AT (d + 1) c := by
  obtain ⟨M, hM, hsh, ⟨s0, s, CK, CS0, hsub, hck, hrn, hpk⟩, hall⟩ := h
  rw [Bool.and_eq_true, Bool.and_eq_true] at hsh
  obtain ⟨hok, hl0, hcts⟩ := hsh
  intro r0 w0 As hE hD
  have hD2 : g_ev r0 (c_D c) ≤ (d : Int) + 1 := by
    have : ((d + 1 : Nat) : Int) = (d : Int) + 1 := rfl
    omega
  -- every head is good
  have heads : ∀ (mv : List Nat), mv.length = L → ∀ H ∈ hd, ∀ (rr : Nat → Int) (lv : e_LV) (w : y_W), H.2.2.map (fun e => (g_ev rr e).toNat) = mv → y_DD U AT rr H.2.1 lv [] w → (∀ i, i < s_n (c_E c) → rr i = r0 i) → y_Fr r0 (c_M c) w0 w → y_GD T U AT d M c r0 w0 lv [] w H.1 := by
    refine y_lt_ind L _ fun mv hmv ihm => ?_
    intro H hHd rr lv w hm kD hrr hfr
    obtain ⟨⟨g1, g2, g3, g4⟩, s, CK, CS1, hsub1, hs, hpk⟩ := hall H hHd
    have HH : ∀ H2 ∈ hd, ∀ (rr2 : Nat → Int) (lv : e_LV) (w : y_W), y_DD U AT rr2 H2.2.1 lv [] w → (∀ i, i < s_n (c_E c) → rr2 i = r0 i) → y_Fr r0 (c_M c) w0 w → y_dec (some H.2.2) rr H2 rr2 → y_GD T U AT d M c r0 w0 lv [] w H2.1 := by
      intro H2 hH2 rr2 lv2 w2 kD2 hrr2 hfr2 hdec
      obtain ⟨⟨-, -, q3, -⟩, -⟩ := hall H2 hH2
      refine ihm _ (by rw [List.length_map, q3]) ?_ H2 hH2 rr2 lv2 w2 rfl kD2 hrr2 hfr2
      have h9 : y_lt (H2.2.2.map fun e => (g_ev rr2 e).toNat) (H.2.2.map fun e => (g_ev rr e).toNat) := hdec
      rw [hm] at h9
      exact h9
    have hm0 : ∀ m, some H.2.2 = some m → ∀ e ∈ m, g_sc (s_n H.2.1) e = true := fun m hm2 e he => by cases hm2; exact g2 e he
    exact y_rn_ok (r1 := rr) (m0 := some H.2.2) hH (hXR c) (fun c' h => hCS c' (hsub1 c' h)) hok hE hD2 g1 hrr hm0 HH (y_PK_ok hH (hXR c) hCS hok hE hD2 g1 hrr hm0 HH hpk) fu true H.1 (y_hst H.2.1) s [] hs rr lv [] w (y_D_hst kD) (fun _ _ => rfl) (Nat.le_refl _) hfr
  have hst := hE.2.2.1
  have hent : y_DD U AT r0 (y_ent0 (c_E c)) (lv_args 0 As) [] w0 := by
    obtain ⟨k0, k1, k2, k3, k4, k5, k6⟩ := hE
    exact ⟨k0, (y_lva_ok k2).1, trivial, k3, g_FF_ra k4, k5, k6⟩
  have HH : ∀ H2 ∈ hd, ∀ (rr2 : Nat → Int) (lv : e_LV) (w : y_W), y_DD U AT rr2 H2.2.1 lv [] w → (∀ i, i < s_n (c_E c) → rr2 i = r0 i) → y_Fr r0 (c_M c) w0 w → y_dec none r0 H2 rr2 → y_GD T U AT d M c r0 w0 lv [] w H2.1 := by
    intro H hHd rr lv w kD hrr hfr _
    exact heads _ (by rw [List.length_map]; exact (hall H hHd).1.2.2.1) H hHd rr lv w rfl kD hrr hfr
  have hm0 : ∀ m, (none : Option (List g_LE)) = some m → ∀ e ∈ m, g_sc (s_n (c_E c)) e = true := fun m hm => by cases hm
  have hgd : y_GD T U AT d M c r0 w0 (lv_args 0 As) [] w0 0 := y_rn_ok (r1 := r0) (m0 := none) hH (hXR c) (fun c' h => hCS c' (hsub c' h)) hok hE hD2 (Nat.le_refl _) (fun _ _ => rfl) hm0 HH (y_PK_ok hH (hXR c) hCS hok hE hD2 (Nat.le_refl _) (fun _ _ => rfl) hm0 HH hpk) fu true 0 (y_ent0 (c_E c)) s [] hrn r0 (lv_args 0 As) [] w0 hent (fun _ _ => rfl) (Nat.le_refl _) y_Fr.rf
  obtain ⟨res, w', hb, hf, x, hx, hres⟩ := hgd
  exact ⟨res, w', y_Run.of hM (by rw [y_sl_len hst]; exact Nat.le_of_ble_eq_true hcts) hb, hf, x, hx, hres⟩
theorem y_chp_0 {XR : y_CX → y_XR} {L fu : Nat} (h : y_CHP U fp RL T XR XN CS L fu c hd) : y_CT T U AT 0 c := by
  obtain ⟨M, hM, hsh, ⟨s0, s, CK, CS0, hsub, hck, hrn, hpk⟩, hall⟩ := h
  intro r0 w0 As hE hD
  have h1 := y_ck_ok hE.1 (g_FF_ra hE.2.2.2.2.1) hck
  rw [g_ev_ac r0 hE.1] at h1
  omega
theorem y_chc_ok (hH : y_HY T U AT fp RL XN) {XR : y_CX → y_XR} (hXR : ∀ c, y_XO T U AT (c_M c) (c_t c) (XR c)) {L fu : Nat} {e : y_CE} (h : y_chc U fp RL T XR XN CS L fu e = true) (hCS : ∀ c' ∈ CS, y_CT T U AT d c') : y_CT T U AT (d + 1) e.1 := y_chp_ok hH hXR (y_chc_p h) hCS
theorem y_chc_0 {XR : y_CX → y_XR} {L fu : Nat} {e : y_CE} (h : y_chc U fp RL T XR XN CS L fu e = true) : y_CT T U AT 0 e.1 := y_chp_0 (y_chc_p h)
/-- pieces, for the kernel -/
def y_pc0 (T : y_TB) (L : Nat) (c : y_CX) (hd : List y_HD) : Bool := match t_mt T (c_j c) with
  | none => false
  | some M => (y_okc c && ((s_l (c_E c)).isEmpty && Nat.ble (y_cts (s_s (c_E c))) (e_mL M))) && hd.all (fun H => Nat.ble (s_n (c_E c)) (s_n H.2.1) && (H.2.2.all (g_sc (s_n H.2.1)) && (Nat.beq H.2.2.length L && (s_s H.2.1).isEmpty)))
def y_pc1 (U : y_WT) (fp : Nat → List g_LE → List y_MI) (RL : y_R2) (T : y_TB) (XR : y_CX → y_XR) (XN : e_M → Instr → y_S → Bool) (CS : List y_CX) (fu : Nat) (c : y_CX) (hd : List y_HD) (CK : List (Nat × y_S)) (s0 : y_Str) : Bool := match t_mt T (c_j c) with
  | none => false
  | some M => match y_ck (y_ra (s_f (c_E c)) []) s0 (g_ac (-1) (c_D c)) with
    | none => false
    | some s => match y_rn U fp RL T (XR c) XN CS M c hd none CK fu true 0 (y_ent0 (c_E c)) s with
      | some [] => true
      | _ => false
def y_pc2 (U : y_WT) (fp : Nat → List g_LE → List y_MI) (RL : y_R2) (T : y_TB) (XR : y_CX → y_XR) (XN : e_M → Instr → y_S → Bool) (CS : List y_CX) (fu : Nat) (c : y_CX) (hd : List y_HD) (m0 : Option (List g_LE)) (CK : List (Nat × y_S)) (x : Nat × y_S) (s : y_Str) : Bool := match t_mt T (c_j c) with
  | none => false
  | some M => match y_rn U fp RL T (XR c) XN CS M c hd m0 CK fu true x.1 x.2 s with
    | some [] => true
    | _ => false
theorem y_pc0_s {L : Nat} (h : y_pc0 T L c hd = true) : ∃ M, t_mt T (c_j c) = some M ∧ (y_okc c && ((s_l (c_E c)).isEmpty && Nat.ble (y_cts (s_s (c_E c))) (e_mL M))) = true ∧ ∀ H ∈ hd, (s_n (c_E c) ≤ s_n H.2.1 ∧ (∀ e ∈ H.2.2, g_sc (s_n H.2.1) e = true) ∧ H.2.2.length = L ∧ s_s H.2.1 = []) := by
  unfold y_pc0 at h
  split at h
  · cases h
  · rename_i M hM
    rw [Bool.and_eq_true] at h
    refine ⟨M, hM, h.1, fun H hH => ?_⟩
    have h2 := List.all_eq_true.mp h.2 H hH
    rw [Bool.and_eq_true, Bool.and_eq_true, Bool.and_eq_true] at h2
    exact ⟨Nat.le_of_ble_eq_true h2.1, List.all_eq_true.mp h2.2.1, Nat.eq_of_beq_eq_true h2.2.2.1, List.isEmpty_iff.mp h2.2.2.2⟩
theorem y_pc1_s {CS' : List y_CX} (hsub : ∀ c' ∈ CS', c' ∈ CS) (hM : t_mt T (c_j c) = some M) {XR : y_CX → y_XR} {fu : Nat} {CK : List (Nat × y_S)} {s0 : y_Str} (h : y_pc1 U fp RL T XR XN CS' fu c hd CK s0 = true) (hpk : y_PK U fp RL T (XR c) XN CS M c hd none fu CK) : ∃ s0 s CK CS', (∀ c' ∈ CS', c' ∈ CS) ∧ y_ck (y_ra (s_f (c_E c)) []) s0 (g_ac (-1) (c_D c)) = some s ∧ y_rn U fp RL T (XR c) XN CS' M c hd none CK fu true 0 (y_ent0 (c_E c)) s = some [] ∧ y_PK U fp RL T (XR c) XN CS M c hd none fu CK := by
  unfold y_pc1 at h
  rw [hM] at h
  dsimp only at h
  split at h
  · cases h
  · rename_i s hs
    split at h
    · rename_i hrn
      exact ⟨s0, s, CK, CS', hsub, hs, hrn, hpk⟩
    · cases h
theorem y_pc2_s {CS' : List y_CX} (hsub : ∀ c' ∈ CS', c' ∈ CS) (hM : t_mt T (c_j c) = some M) {XR : y_CX → y_XR} {fu : Nat} {m0 : Option (List g_LE)} {CK : List (Nat × y_S)} {x : Nat × y_S} {s : y_Str} (h : y_pc2 U fp RL T XR XN CS' fu c hd m0 CK x s = true) : ∃ s CS', (∀ c' ∈ CS', c' ∈ CS) ∧ y_rn U fp RL T (XR c) XN CS' M c hd m0 CK fu true x.1 x.2 s = some [] := by
  unfold y_pc2 at h
  rw [hM] at h
  dsimp only at h
  split at h
  · rename_i hrn
    exact ⟨s, CS', hsub, hrn⟩
  · cases h
/-- ALL PROMISES: each is checked, or shown by hand -/
theorem y_all (CS : List y_CX) (h0 : ∀ c ∈ CS, y_CT T U AT 0 c) (h1 : ∀ d, (∀ c ∈ CS, y_CT T U AT d c) → ∀ c ∈ CS, y_CT T U AT (d + 1) c) : ∀ d, ∀ c ∈ CS, y_CT T U AT d c
  | 0 => h0
  | d + 1 => h1 d (y_all CS h0 h1 d)
end Y_AL
end
