/-! PART 52: THE CHECKER IS SOUND -/
noncomputable section
section Y_SO
variable {T : y_TB} {U : y_WT} {AT : Nat → List Int → y_W → Prop} {fp : Nat → List g_LE → List y_MI} {RL : y_R2} {XR : y_XR} {XN : e_M → Instr → y_S → Bool} {CS : List y_CX} {M : e_M} {c : y_CX} {hd : List y_HD} {m0 : Option (List g_LE)} {CK : List (Nat × y_S)} {r r' r0 r1 : Nat → Int} {w w' w0 : y_W} {d n1 : Nat} {As : List Value}
/-- a ghost's step: the ghosts' memory alone may be another one -/
def y_GP2 (U : y_WT) (AT : Nat → List Int → y_W → Prop) (c : y_CX) (r : Nat → Int) (S : y_S) (lv : e_LV) (stk : List Value) (w : y_W) (L : List y_S) : Prop := ∃ S' ∈ L, ∃ (r' : Nat → Int) (w' : y_W), w'.1 = w.1 ∧ y_ex S S' r r' ∧ y_DD U AT r' S' lv stk w' ∧ ∃ Mi, y_Fr r' Mi w w' ∧ ∀ m ∈ Mi, ∀ {kd a k : Nat}, y_cvr r' m kd a k → (∃ n ∈ c_M c, y_cvr r' n kd a k) ∨ (kd < 4 ∧ ∃ t, c_t c = some t ∧ g_ev r' t ≤ (a : Int))
def y_RO2 (U : y_WT) (AT : Nat → List Int → y_W → Prop) (RL : y_R2) : Prop := ∀ (c : y_CX) (id : Nat) (S : y_S) (it : y_It) (s s' : y_Str) (L : List y_S) (r : Nat → Int) (lv : e_LV) (stk : List Value) (w : y_W), RL c id S it s = some (L, s') → y_DD U AT r S lv stk w → y_GP2 U AT c r S lv stk w L
theorem y_GP2.of {S : y_S} {lv : e_LV} {stk : List Value} {w : y_W} {L : List y_S} (h : y_GP U AT r S lv stk w L) : y_GP2 U AT c r S lv stk w L := by
  obtain ⟨S', hS', r', hx, kD⟩ := h
  exact ⟨S', hS', r', w, rfl, hx, kD, [], y_Fr.rf, fun m hm => by cases hm⟩
theorem y_kee_ok {kd : Nat} {t : y_It} {S : y_S} {r : Nat → Int} {lv : e_LV} {stk : List Value} {w : y_W} (k : y_DD U AT r S lv stk w) : y_ex S (y_kee kd t S) r r ∧ y_DD U AT r (y_kee kd t S) lv stk w := by
  obtain ⟨k0, k1, k2, k3, k4, k5, k6⟩ := k
  unfold y_kee
  split
  · exact ⟨⟨fun _ _ => rfl, Nat.le_refl _⟩, k0, k1, k2, k3, fun f hf => k4 f (y_kp_m t _ f hf), k5, k6⟩
  · exact ⟨⟨fun _ _ => rfl, Nat.le_refl _⟩, k0, k1, k2, fun m hm => k3 m (y_kp_m t _ m hm), k4, k5, k6⟩
  · exact ⟨⟨fun _ _ => rfl, Nat.le_refl _⟩, k0, k1, k2, k3, k4, fun a ha => k5 a (y_kp_m t _ a ha), k6⟩
  · exact ⟨⟨fun _ _ => rfl, Nat.le_refl _⟩, k0, fun q hq => k1 q (y_kp_m t _ q hq), k2, k3, k4, k5, k6⟩
theorem y_gq_ok (hR : y_RO2 U AT RL) {S : y_S} {it : y_It} {s s' : y_Str} {L : List y_S} (h : y_gq U RL c S it s = some (L, s')) {r : Nat → Int} {lv : e_LV} {stk : List Value} {w : y_W} (k : y_DD U AT r S lv stk w) : y_GP2 U AT c r S lv stk w L := by
  unfold y_gq at h
  split at h
  · exact hR c _ S _ _ _ L r lv stk w h k
  · cases h
    have h2 := fun (kd : Nat) (t : y_It) => y_kee_ok (kd := kd) (t := t) k
    exact y_GP2.of ⟨_, List.mem_singleton_self _, r, (h2 _ _).1, (h2 _ _).2⟩
  · split at h
    · rename_i c1 x1 y1 z1 _
      unfold y_one at h
      split at h
      · rename_i S1 s1 h3
        cases h
        obtain ⟨r', e1, e2⟩ := y_gpt_ok h3 k
        exact y_GP2.of ⟨_, List.mem_singleton_self _, r', e1, e2⟩
      · cases h
    · exact y_GP2.of (y_gop_ok (RL := fun _ _ _ _ => none) (fun _ _ _ _ _ _ _ _ _ _ h => by cases h) h k)
theorem y_GD.gh {lv : e_LV} {stk : List Value} {pc : Nat} (hw : w'.1 = w.1) (h : y_GD T U AT d M c r0 w0 lv stk w' pc) : y_GD T U AT d M c r0 w0 lv stk w pc := by
  obtain ⟨res, w2, hb, hx⟩ := h
  rw [hw] at hb
  exact ⟨res, w2, hb, hx⟩
/-- what the world keeps, all in one -/
def y_HY (T : y_TB) (U : y_WT) (AT : Nat → List Int → y_W → Prop) (fp : Nat → List g_LE → List y_MI) (RL : y_R2) (XN : e_M → Instr → y_S → Bool) : Prop := y_UO U ∧ y_UZ U ∧ y_AO AT fp ∧ y_RO2 U AT RL ∧ y_XN T U AT XN ∧ ∀ q o, t_xo T q = some o → e_lim ≤ q
def y_dec (m0 : Option (List g_LE)) (r1 : Nat → Int) (H : y_HD) (rr : Nat → Int) : Prop := match m0 with
  | none => True
  | some m => y_lt (H.2.2.map fun e => (g_ev rr e).toNat) (m.map fun e => (g_ev r1 e).toNat)
theorem y_GD.go {lv lv' : e_LV} {stk stk' : List Value} {pc pc' : Nat} {ins : Instr} {len : Nat} (hdc : decode (e_mc M) pc = .ok (ins, len)) (hy : ∃ fu, y_N T d (y_C T fu d) M ins len pc lv stk w.1 = some (.inr (.inl ((pc', lv', stk'), w'.1)))) (h : y_GD T U AT d M c r0 w0 lv' stk' w' pc') : y_GD T U AT d M c r0 w0 lv stk w pc := by
  obtain ⟨res, w2, hb, hx⟩ := h
  exact ⟨res, w2, y_BR.go hdc hy hb, hx⟩
theorem y_sam_ok {S P : y_S} (h : y_sam S P = true) {r : Nat → Int} {lv : e_LV} {stk : List Value} {w : y_W} (k : y_DD U AT r S lv stk w) : s_n S = s_n P ∧ y_DD U AT r P lv stk w := by
  unfold y_sam at h
  simp only [y_bx_eq, y_bl_eq, Bool.and_eq_true] at h
  obtain ⟨h1, h2, h3, h5, h6, h7⟩ := h
  obtain ⟨k0, k1, k2, k3, k4, k5, k6⟩ := k
  refine ⟨Nat.eq_of_beq_eq_true h1, k0, fun q hq => ?_, ?_, ?_, ?_, ?_, k6⟩
  · have h8 := List.all_eq_true.mp h2 q hq
    unfold y_loq at h8
    split at h8
    · rename_i z hz
      rw [y_bx_eq, Bool.and_eq_true] at h8
      obtain ⟨v, e1, e2⟩ := k1 _ (y_lok_mem hz)
      have e3 : q.2 = z := (Prod.ext (Nat.eq_of_beq_eq_true h8.1) (g_eq_ok h8.2)).symm
      refine ⟨v, e1, ?_⟩
      rw [e3]
      exact e2
    · cases h8
  · rw [← y_lq_ok y_veq_ok h3]
    exact k2
  · rw [← y_lq_ok y_meq_ok h5]
    exact k3
  · rw [← y_lq_ok (fun _ _ h => g_eq_ok h) h6]
    exact k4
  · rw [← y_lq_ok y_aeq_ok h7]
    exact k5
theorem y_rn_ok (hH : y_HY T U AT fp RL XN) (hXR : y_XO T U AT (c_M c) (c_t c) XR) (hCS : ∀ c' ∈ CS, y_CT T U AT d c') (hok : y_okc c = true) (hE : y_DD U AT r0 (c_E c) [] As w0) (hD : g_ev r0 (c_D c) ≤ (d : Int) + 1) (hn1 : s_n (c_E c) ≤ n1) (hr1 : ∀ i, i < s_n (c_E c) → r1 i = r0 i) (hm0 : ∀ m, m0 = some m → ∀ e ∈ m, g_sc n1 e = true)
    (HH : ∀ H ∈ hd, ∀ (rr : Nat → Int) (lv : e_LV) (w : y_W), y_DD U AT rr H.2.1 lv [] w → (∀ i, i < s_n (c_E c) → rr i = r0 i) → y_Fr r0 (c_M c) w0 w → y_dec m0 r1 H rr → y_GD T U AT d M c r0 w0 lv [] w H.1)
    (HK : ∀ x ∈ CK, ∀ (rr : Nat → Int) (lv : e_LV) (stk : List Value) (w : y_W), y_DD U AT rr x.2 lv stk w → (∀ i, i < n1 → rr i = r1 i) → n1 ≤ s_n x.2 → y_Fr r0 (c_M c) w0 w → y_GD T U AT d M c r0 w0 lv stk w x.1) :
    ∀ (n : Nat) (fi : Bool) (pc : Nat) (S : y_S) (s s' : y_Str), y_rn U fp RL T XR XN CS M c hd m0 CK n fi pc S s = some s' → ∀ (r : Nat → Int) (lv : e_LV) (stk : List Value) (w : y_W), y_DD U AT r S lv stk w → (∀ i, i < n1 → r i = r1 i) → n1 ≤ s_n S → y_Fr r0 (c_M c) w0 w → y_GD T U AT d M c r0 w0 lv stk w pc
  | 0, _, _, _, _, _, h => by cases h
  | n + 1, fi, pc, S, s, s', h => by
    intro r lv stk w k hr hn hf
    obtain ⟨hU, hZ, hA, hR, hXN, hXO⟩ := hH
    have ih := y_rn_ok ⟨hU, hZ, hA, hR, hXN, hXO⟩ hXR hCS hok hE hD hn1 hr1 hm0 HH HK n
    have h0 := k.1
    have hr0 : ∀ i, i < s_n (c_E c) → r i = r0 i := fun i hi => (hr i (Nat.lt_of_lt_of_le hi hn1)).trans (hr1 i hi)
    have hDD : g_ev r (c_D c) ≤ (d : Int) + 1 := by
      have h1 := hok
      unfold y_okc at h1
      rw [Bool.and_eq_true, Bool.and_eq_true] at h1
      rw [g_sc_ev hr0 h1.1.2]
      exact hD
    -- a state that goes on
    have nxt : ∀ {fi' : Bool} {pc' : Nat} {S' : y_S} {s1 s2 : y_Str}, y_rn U fp RL T XR XN CS M c hd m0 CK n fi' pc' S' s1 = some s2 → ∀ {r' : Nat → Int} {lv' : e_LV} {stk' : List Value} {w' : y_W}, y_ex S S' r r' → y_DD U AT r' S' lv' stk' w' → y_Fr r0 (c_M c) w0 w' → y_GD T U AT d M c r0 w0 lv' stk' w' pc' := by
      intro fi' pc' S' s1 s2 hq r' lv' stk' w' hx hD' hf'
      exact ih fi' pc' S' s1 s2 hq r' lv' stk' w' hD' (fun i hi => (hx.1 i (Nat.lt_of_lt_of_le hi hn)).trans (hr i hi)) (Nat.le_trans hn hx.2) hf'
    have frs : ∀ {r' : Nat → Int} {S' : y_S} {w' : y_W}, y_ex S S' r r' → (∃ Mi, y_Fr r' Mi w w' ∧ ∀ m ∈ Mi, ∀ {kd a k : Nat}, y_cvr r' m kd a k → (∃ n ∈ c_M c, y_cvr r' n kd a k) ∨ (kd < 4 ∧ ∃ t, c_t c = some t ∧ g_ev r' t ≤ (a : Int))) → y_Fr r0 (c_M c) w0 w' := by
      intro r' S' w' hx hq
      exact y_fr_stp hok hE (fun i hi => (hx.1 i (Nat.lt_of_lt_of_le hi (Nat.le_trans hn1 hn))).trans (hr0 i hi)) hf hq
    unfold y_rn at h
    split at h
    · split at h
      · rename_i H hHd
        split at h
        · rename_i hpc
          have hpc := Nat.eq_of_beq_eq_true hpc
          subst hpc
          unfold y_arr at h
          split at h
          · rename_i σ s2 hsg
            split at h
            · rename_i hchk
              rw [Bool.and_eq_true, Bool.and_eq_true] at hchk
              obtain ⟨hid, hle, hes⟩ := hchk
              have hes := List.isEmpty_iff.mp hes
              split at h
              · rename_i s3 hmat
                have kP := y_mat_ok hmat k
                have hstk : stk = [] := by
                  have h9 := kP.2.2.1
                  rw [hes] at h9
                  match stk, h9 with
                  | [], _ => rfl
                subst hstk
                have hrs := y_ids_rs h0 hid
                refine HH H (List.mem_of_getElem? hHd) (g_rs r σ) lv w kP (fun i hi => (hrs i hi).trans (hr0 i hi)) hf ?_
                unfold y_dec
                split at h
                · trivial
                · rename_i m
                  have h9 := y_lex_ok h0 k.2.2.2.2.1 h
                  rw [List.map_map] at h9
                  have e1 : H.2.2.map (fun e => (g_ev (g_rs r σ) e).toNat) = H.2.2.map ((fun e => (g_ev r e).toNat) ∘ g_sb σ) := List.map_congr_left fun e _ => by
                    show (g_ev (g_rs r σ) e).toNat = (g_ev r (g_sb σ e)).toNat
                    rw [g_ev_sb]
                  have e2 : m.map (fun e => (g_ev r1 e).toNat) = m.map (fun e => (g_ev r e).toNat) := List.map_congr_left fun e he => by
                    show (g_ev r1 e).toNat = (g_ev r e).toNat
                    rw [g_sc_ev hr (hm0 m rfl e he)]
                  dsimp only
                  rw [e1, e2]
                  exact h9
              · cases h
            · cases h
          · cases h
        · cases h
      · cases h
    · exact nxt h y_ex.rf k hf
    · split at h
      · cases h
      · rename_i L s2 hg
        obtain ⟨S', hS', r', w', hw', hx, kD, hfr⟩ := y_gq_ok hR hg k
        obtain ⟨s3, s4, hq⟩ := y_alG_ok h S' hS'
        rw [y_nz_eq] at hq
        exact y_GD.gh hw' (nxt hq hx kD (frs hx hfr))
    · split at h
      · split at h
        · rename_i x hx
          split at h
          · rename_i hb
            rw [Bool.and_eq_true] at hb
            have h9 := y_sam_ok hb.2 k
            have h8 := Nat.eq_of_beq_eq_true hb.1
            subst h8
            exact HK x (List.mem_of_getElem? hx) r lv stk w h9.2 hr (h9.1 ▸ hn) hf
          · cases h
        · cases h
      · split at h
        · cases h
        · rename_i L s2 hg
          obtain ⟨S', hS', r', w', hw', hx, kD, hfr⟩ := y_gq_ok hR hg k
          obtain ⟨s3, s4, hq⟩ := y_alG_ok h S' hS'
          rw [y_nz_eq] at hq
          exact y_GD.gh hw' (nxt hq hx kD (frs hx hfr))
      · split at h
        · cases h
        · rename_i ins len hdc
          split at h
          · rename_i hisr
            split at h
            · rename_i s2 hxn hrt
              rw [Bool.and_eq_true] at hxn
              obtain ⟨v, hv, hstk⟩ := y_rtv_ok hrt k
              obtain ⟨x, hx, hk, r', hr', hD'⟩ := y_end_ok h k hr0
              refine ⟨some v, w, y_BR.ret hdc ⟨0, y_N_r (hXN d M ins len pc S r lv stk w hxn.1 k) (y_rtv_is hrt) (Nat.eq_of_beq_eq_true hxn.2) hv⟩, hf, x, hx, r', hr', ?_⟩
              unfold y_XD
              rw [hk]
              exact ⟨v, rfl, hstk ▸ hD'⟩
            · cases h
          · split at h
            · split at h
              · rename_i t e l hs hxn
                rw [Bool.and_eq_true] at hxn
                split at h
                · rename_i ci hkt
                  split at h
                  · rename_i s2 hec hck
                    obtain ⟨v, rest, rfl, hv, k1⟩ := y_D_po k hs
                    obtain ⟨b, rfl, hb, hpt⟩ := y_nn1 h0 hv (y_ck_ok h0 k.2.2.2.2.1 hck)
                    have hKb := (hpt _ hkt).1
                    rw [Nat.eq_of_beq_eq_true hec] at hKb
                    refine y_thw_ok (w' := w) h hdc ⟨0, y_N_t (hXN d M _ len pc S r lv _ w hxn.1 k) (Nat.eq_of_beq_eq_true hxn.2) hKb⟩ k hr0 hf ?_
                    intro pc' S' s3 s4 hq lv' kD' hn'
                    rw [y_nN_eq, y_nz_eq] at hq
                    exact nxt hq ⟨fun _ _ => rfl, Nat.le_of_eq hn'.symm⟩ kD' hf
                  · cases h
                · cases h
              · cases h
            · split at h
              · rename_i Bs s2 hiv
                split at h
                · rename_i hxn
                  rw [Bool.and_eq_true] at hxn
                  obtain ⟨res, w', ts, ⟨fu, hN⟩, hfr, x, hx, r2, hex, hres⟩ := y_ivk_ok hA hXO hCS hiv (hXN d M _ len pc S r lv stk w hxn.1 k) (Nat.eq_of_beq_eq_true hxn.2) hDD k
                  have hf' : y_Fr r0 (c_M c) w0 w' := y_fr_stp hok hE hr0 hf hfr
                  obtain ⟨s3, s4, hq⟩ := y_alX_ok h x hx
                  obtain ⟨kx, Sx⟩ := x
                  dsimp only at hres hq hex
                  split at hq
                  · obtain ⟨v, hv, kD'⟩ := hres
                    subst hv
                    rw [y_nN_eq, y_nz_eq] at hq
                    exact y_GD.go hdc ⟨fu, hN⟩ (nxt hq hex kD' hf')
                  · rename_i hkx
                    have hres2 : res = none ∧ y_DD U AT r2 Sx lv ts w' := by
                      split at hres
                      · exact absurd rfl hkx
                      · exact hres
                    obtain ⟨hv, kD'⟩ := hres2
                    subst hv
                    refine y_thw_ok (w' := w') hq hdc ⟨fu, hN⟩ kD' (fun i hi => (hex.1 i (Nat.lt_of_lt_of_le hi (Nat.le_trans hn1 hn))).trans (hr0 i hi)) hf' ?_
                    intro pc' S' s5 s6 hq2 lv' kD2 hn'
                    rw [y_nN_eq, y_nz_eq] at hq2
                    exact nxt hq2 ⟨hex.1, by rw [hn']; exact hex.2⟩ kD2 hf'
                · cases h
              · split at h
                · cases h
                · rename_i B s2 hst
                  unfold y_stp at hst
                  split at hst
                  · obtain ⟨pc', lv', stk', w', S', r', hB, hex, kD', hfx, hfr⟩ := hXR d M _ len pc S _ _ B r lv stk w hst k
                    obtain ⟨s3, s4, hq⟩ := y_alB_ok h _ hB
                    rw [y_nN_eq, y_nz_eq] at hq
                    exact y_GD.go hdc ⟨0, y_N_x hfx⟩ (nxt hq hex kD' (frs hex hfr))
                  · rename_i hxn
                    have hnone := hXN d M _ len pc S r lv stk w hxn k
                    split at hst
                    · rename_i hcc
                      split at hst
                      · rename_i hlen
                        obtain ⟨pc', lv', stk', w', S', r', hB, hex, kD', hfx, hfr⟩ := y_cel_ok (M := M) hU hZ hA hst k
                        obtain ⟨s3, s4, hq⟩ := y_alB_ok h _ hB
                        rw [y_nN_eq, y_nz_eq] at hq
                        exact y_GD.go hdc ⟨0, y_N_h hnone hcc hfx (Nat.eq_of_beq_eq_true hlen)⟩ (nxt hq hex kD' (frs hex hfr))
                      · cases hst
                    · split at hst
                      · cases hst
                      · rename_i hdf
                        rw [Bool.and_eq_true] at hdf
                        have hlen := Nat.eq_of_beq_eq_true hdf.2
                        split at hst
                        · rename_i S1 s1 har
                          cases hst
                          obtain ⟨r', stk', hex, kD', he, hlf⟩ := y_ari_ok (nL := e_mL M) (pc := pc) har k
                          obtain ⟨s3, s4, hq⟩ := y_alB_ok h _ List.mem_cons_self
                          rw [y_nN_eq, y_nz_eq] at hq
                          exact y_GD.go hdc ⟨0, y_N_s hnone hdf.1 he hlen⟩ (nxt hq hex kD' hf)
                        · obtain ⟨pc', lv', stk', S', r', hB, hex, kD', he⟩ := y_flo_ok hst k
                          obtain ⟨s3, s4, hq⟩ := y_alB_ok h _ hB
                          rw [y_nN_eq, y_nz_eq] at hq
                          exact y_GD.go hdc ⟨0, y_N_s hnone hdf.1 he hlen⟩ (nxt hq hex kD' hf)
    · cases h
end Y_SO
end
