/-! PART 43: new objects and arrays; constants of the pool -/
noncomputable section
def y_TZ : List y_MI := [(4, [], [], none), (5, [], [], none)]
/-- the tag suits what is made -/
def y_tgn (U : y_WT) (tag : Nat) (c : Nat ⊕ Nat) (n : g_LE) : Bool := (match w_KT U tag with
  | some c' => y_keq c' c
  | none => false) && (match w_LT U tag with
  | none => true
  | some m => g_eq n (g_c (m : Int)))
def y_mke (c : Nat ⊕ Nat) (t n : g_LE) (z : Option g_LE) (zs : y_It) : List y_ME := (4, [], [], g_ac 1 t) :: (match z with
  | some z => [(5, [], [], g_add z n)]
  | none => []) ++ (match c with
  | .inr _ => [(3, t, [], n)]
  | .inl _ => []) ++ (zs.filter fun q => Nat.blt q.2.toNat 3).map fun q => (q.2.toNat, t, g_c (q.1 : Int), [])
def y_mk (U : y_WT) (fp : Nat → List g_LE → List y_MI) (N : List y_MI) (t0 : Option g_LE) (S : y_S) (c : Nat ⊕ Nat) (n : g_LE) (tag : Nat) (zs : y_It) (s : y_Str) : Option (y_S × g_LE × y_Str) := match y_ent (s_m S) 4 [] [] with
  | none => none
  | some t => match y_tgn U tag c n with
    | false => none
    | true => match y_cks (s_f S) s (g_ac ((e_lim : Int) - 1) (g_k (-1) t) :: y_bnd (w_RG U 3 none c 0) n) with
      | none => none
      | some s1 => match y_covs (s_f S) N t0 y_TZ s1 with
        | none => none
        | some s2 => match y_flt (s_f S) y_TZ (s_m S) s2 with
          | none => none
          | some (ms, s3) => match y_fla fp (s_f S) y_TZ (s_a S) s3 with
            | none => none
            | some (as, s4) => some (y_chS S (y_mke c t n (y_ent (s_m S) 5 [] []) zs ++ ms) as, g_ac 1 t, s4)
/-- 0 lies within what holds of all of a kind -/
def y_UZ (U : y_WT) : Prop := (∀ kd c k lo hi, kd < 3 → w_RG U kd none c k = some (lo, hi) → lo ≤ 0 ∧ 0 ≤ hi) ∧ ∀ ci k, w_RG U 3 none (.inl ci) k = none
section Y_NW
variable {U : y_WT} {AT : Nat → List Int → y_W → Prop} {fp : Nat → List g_LE → List y_MI} {T : y_TB} {M : e_M} {r r' : Nat → Int} {S S' : y_S} {lv : e_LV} {stk : List Value} {w w' : y_W} {s s' : y_Str} {N : List y_MI} {t0 : Option g_LE} {B : y_BL} {pc : Nat}
theorem y_new_I {st : e_ST} {c : Nat ⊕ Nat} {n b : Nat} : e_I (e_new st c n) b = if b = e_T st then (fun _ => 0) else e_I st b := rfl
theorem y_new_L {st : e_ST} {c : Nat ⊕ Nat} {n b : Nat} : e_L (e_new st c n) b = if b = e_T st then (fun _ => 0) else e_L st b := rfl
theorem y_new_P {st : e_ST} {c : Nat ⊕ Nat} {n b : Nat} : e_P (e_new st c n) b = if b = e_T st then (fun _ => none) else e_P st b := rfl
theorem y_new_K {st : e_ST} {c : Nat ⊕ Nat} {n b : Nat} : e_K (e_new st c n) b = if b = e_T st then some c else e_K st b := rfl
theorem y_new_N {st : e_ST} {c : Nat ⊕ Nat} {n b : Nat} : e_N (e_new st c n) b = if b = e_T st then n else e_N st b := rfl
theorem y_new_T {st : e_ST} {c : Nat ⊕ Nat} {n : Nat} : e_T (e_new st c n) = e_T st + 1 := rfl
theorem y_new_Z {st : e_ST} {c : Nat ⊕ Nat} {n : Nat} : e_Z (e_new st c n) = e_Z st + n := rfl
theorem y_new_r8 {c : Nat ⊕ Nat} {n a k : Nat} : y_r8 (e_new w.1 c n, w.2) a k = y_r8 w a k := by
  by_cases ha : a = e_T w.1
  · rw [y_r8_T (w := w) (Nat.le_of_eq ha.symm)]
    unfold y_r8
    split
    · show (e_I (e_new w.1 c n) a k).toInt = 0
      rw [y_new_I, if_pos ha]
      rfl
    · rfl
  · have e1 : Nat.blt a (e_T (e_new w.1 c n)) = Nat.blt a (e_T w.1) := by
      rw [y_new_T]
      cases h : Nat.blt a (e_T w.1) with
      | true =>
        have := Nat.blt_eq.mp h
        exact Nat.blt_eq.mpr (by omega)
      | false =>
        cases h2 : Nat.blt a (e_T w.1 + 1) with
        | false => rfl
        | true =>
          have h3 := Nat.blt_eq.mp h2
          have h4 : Nat.blt a (e_T w.1) = true := Nat.blt_eq.mpr (by omega)
          rw [h] at h4
          cases h4
    have e2 : e_K (e_new w.1 c n) a = e_K w.1 a := by rw [y_new_K, if_neg ha]
    have e3 : e_I (e_new w.1 c n) a k = e_I w.1 a k := by rw [y_new_I, if_neg ha]
    unfold y_r8
    dsimp only
    rw [e1, e2, e3]
theorem y_new_rd {c : Nat ⊕ Nat} {n kd a k : Nat} (h4 : kd ≠ 4) (h5 : kd ≠ 5) (ha : kd < 4 → a ≠ e_T w.1) : y_rd (e_new w.1 c n, w.2) kd a k = y_rd w kd a k := by
  match kd with
  | 0 => rw [y_rd_0, y_rd_0, y_new_I, if_neg (ha (by decide))]
  | 1 => rw [y_rd_1, y_rd_1, y_new_L, if_neg (ha (by decide))]
  | 2 => rw [y_rd_2, y_rd_2, y_new_P, if_neg (ha (by decide))]
  | 3 => rw [y_rd_3, y_rd_3, y_new_N, if_neg (ha (by decide))]
  | 4 => exact absurd rfl h4
  | 5 => exact absurd rfl h5
  | 6 => rw [y_rd_66, y_rd_66]
  | 7 => rw [y_rd_77, y_rd_77]
  | 8 =>
    rw [y_rd_88, y_rd_88]
    exact y_new_r8
  | m + 9 => rw [y_rd_99, y_rd_99]
theorem y_new_z {c : Nat ⊕ Nat} {n kd k : Nat} (h : kd < 3) : y_rd (e_new w.1 c n, w.2) kd (e_T w.1) k = 0 := by
  match kd, h with
  | 0, _ => rw [y_rd_0, y_new_I, if_pos rfl]; rfl
  | 1, _ => rw [y_rd_1, y_new_L, if_pos rfl]; rfl
  | 2, _ => rw [y_rd_2, y_new_P, if_pos rfl]; rfl
theorem y_mk_ok (hU : y_UO U) (hZ : y_UZ U) (hA : y_AO AT fp) {c : Nat ⊕ Nat} {n v : g_LE} {tag : Nat} {zs : y_It} {m : Nat} (h : y_mk U fp N t0 S c n tag zs s = some (S', v, s')) (kD : y_DD U AT r S lv stk w) (hn : g_ev r n = m) : e_T w.1 < e_lim ∧ y_DD U AT r S' lv stk (e_new w.1 c m, w.2) ∧ (s_n S' = s_n S ∧ s_l S' = s_l S ∧ s_s S' = s_s S) ∧ y_dV (w_KT U) (w_LT U) r (e_new w.1 c m) (tag + 2, v) (.ref (e_T w.1)) ∧ y_Fr r y_TZ w (e_new w.1 c m, w.2) ∧ ∀ i ∈ y_TZ, ∀ {kd a k : Nat}, y_cvr r i kd a k → (∃ n ∈ N, y_cvr r n kd a k) ∨ (kd < 4 ∧ ∃ t, t0 = some t ∧ g_ev r t ≤ (a : Int)) := by
  have h0 := kD.1
  have hF := kD.2.2.2.2.1
  unfold y_mk at h
  split at h
  · cases h
  · rename_i t ht
    split at h
    · cases h
    · rename_i htg
      split at h
      · cases h
      · rename_i s1 hck
        split at h
        · cases h
        · rename_i s2 hcv
          split at h
          · cases h
          · rename_i ms s3 hms
            split at h
            · cases h
            · rename_i as s4 has
              cases h
              have hall := y_cks_ok h0 hF hck
              have hT : (e_T w.1 : Int) = g_ev r t := (y_ent_ok kD.2.2.2.1 (by decide) ht).1
              have h1 := hall _ List.mem_cons_self
              rw [g_ev_ac r h0, g_ev_k, ← hT] at h1
              have hlt : e_T w.1 < e_lim := by omega
              have hb : ∀ {lo hi : Int}, w_RG U 3 none c 0 = some (lo, hi) → lo ≤ g_ev r n ∧ g_ev r n ≤ hi := fun hq => y_bnd_ok h0 (fun f hf => hall f (List.mem_cons_of_mem _ hf)) hq
              obtain ⟨hI1, hI2, hI3⟩ := kD.2.2.2.2.2.2
              have hKN : ∀ a c', e_K w.1 a = some c' → e_K (e_new w.1 c m) a = some c' ∧ e_N (e_new w.1 c m) a = e_N w.1 a := by
                intro a c' hc'
                have hne : a ≠ e_T w.1 := Nat.ne_of_lt (hI3 a c' hc').1
                exact ⟨by rw [y_new_K, if_neg hne]; exact hc', by rw [y_new_N, if_neg hne]⟩
              have hfr : y_Fr r y_TZ w (e_new w.1 c m, w.2) := by
                refine ⟨fun kd a k ha hn4 => ?_, hKN, by show e_T w.1 ≤ e_T w.1 + 1; omega, by show e_Z w.1 ≤ e_Z w.1 + m; omega⟩
                have h4 : kd ≠ 4 := fun hc => hn4 (4, [], [], none) List.mem_cons_self ⟨hc.symm, Or.inl hc⟩
                have h5 : kd ≠ 5 := fun hc => hn4 (5, [], [], none) (List.mem_cons_of_mem _ List.mem_cons_self) ⟨hc.symm, Or.inr (Or.inl hc)⟩
                by_cases hq : a = e_T w.1
                · by_cases h3 : kd < 3
                  · rw [hq, y_new_z h3]
                    exact (hI2.2 kd _ k h3 (Nat.le_refl _)).symm
                  · refine y_new_rd h4 h5 fun h => ?_
                    exact Nat.ne_of_lt (ha (by omega))
                · exact y_new_rd h4 h5 fun _ => hq
              have hI' : y_IV U (e_new w.1 c m, w.2) := by
                refine ⟨⟨by have := hI1.1; show w_NF U ≤ e_T w.1 + 1; omega, fun a c' hq => (hKN a c' (hI1.2 a c' hq)).1⟩, ⟨by show e_T w.1 + 1 ≤ e_lim; omega, fun kd a k h3 hge => ?_⟩, fun a c' hc' => ?_⟩
                · have hge : e_T w.1 + 1 ≤ a := hge
                  rw [y_new_rd (by omega) (by omega) fun _ => by omega]
                  exact hI2.2 kd a k h3 (by omega)
                have hc' : e_K (e_new w.1 c m) a = some c' := hc'
                by_cases hq : a = e_T w.1
                · subst hq
                  rw [y_new_K, if_pos rfl] at hc'
                  cases hc'
                  refine ⟨by show e_T w.1 < e_T w.1 + 1; omega, fun kd k lo hi hkd hrg => ?_, fun k b hb2 => ?_⟩
                  · have hrg2 : w_RG U kd none c (y_rk c k) = some (lo, hi) := by
                      rcases hrg with hrg | hrg
                      · exact hrg
                      · rw [hU.2 _ hI1.1] at hrg; exact hrg
                    by_cases h3 : kd < 3
                    · rw [y_new_z h3]
                      exact hZ.1 kd c _ lo hi h3 hrg2
                    · have h33 : kd = 3 := by omega
                      subst h33
                      have e3 : y_rd (e_new w.1 c m, w.2) 3 (e_T w.1) k = (m : Int) := by rw [y_rd_3, y_new_N, if_pos rfl]
                      rw [e3, ← hn]
                      cases c with
                      | inr ti => exact hb hrg2
                      | inl ci =>
                        rw [hZ.2] at hrg2
                        cases hrg2
                  · have hb2 : e_P (e_new w.1 c m) (e_T w.1) k = some b := hb2
                    rw [y_new_P, if_pos rfl] at hb2
                    cases hb2
                · rw [y_new_K, if_neg hq] at hc'
                  obtain ⟨i1, i2, i3⟩ := hI3 a c' hc'
                  refine ⟨by show a < e_T w.1 + 1; omega, fun kd k lo hi hkd hrg => ?_, fun k b hb2 => ?_⟩
                  · rw [y_new_rd (by omega) (by omega) fun _ => hq]
                    exact i2 kd k lo hi hkd hrg
                  · have hb2 : e_P (e_new w.1 c m) a k = some b := hb2
                    rw [y_new_P, if_neg hq] at hb2
                    exact y_pt_ch hKN (i3 k b hb2)
              obtain ⟨d0, d1, d2, d3, d4, d5, d6⟩ := y_chg hA kD hfr hI' hms has
              refine ⟨hlt, ⟨d0, d1, d2, fun e he => ?_, d4, d5, d6⟩, ⟨rfl, rfl, rfl⟩, ?_, hfr, fun i hi _ _ _ hc => y_covs_ok h0 hF hcv i hi hc⟩
              · rcases List.mem_append.mp he with he | he
                · unfold y_mke at he
                  rcases List.mem_append.mp he with he | he
                  · rcases List.mem_append.mp he with he | he
                    rotate_left
                    · split at he
                      · rw [List.mem_singleton.mp he]
                        refine ⟨?_, fun _ => ?_, ?_, Int.le_refl 0⟩
                        · show y_rd (e_new w.1 _ m, w.2) 3 (g_ev r t).toNat _ = g_ev r n
                          rw [← hT, hn]
                          show y_rd (e_new w.1 _ m, w.2) 3 (e_T w.1) _ = (m : Int)
                          rw [y_rd_3, y_new_N, if_pos rfl]
                        · show (g_ev r t).toNat < e_T w.1 + 1
                          rw [← hT]
                          show e_T w.1 < e_T w.1 + 1
                          omega
                        · show 0 ≤ g_ev r t
                          rw [← hT]
                          exact Int.natCast_nonneg _
                      · cases he
                    rcases List.mem_cons.mp he with he | he
                    · subst he
                      refine ⟨?_, fun hq => absurd (show 4 < 4 from hq) (by decide), Int.le_refl 0, Int.le_refl 0⟩
                      show ((e_T w.1 + 1 : Nat) : Int) = g_ev r (g_ac 1 t)
                      rw [g_ev_ac r h0, ← hT]
                      rfl
                    · split at he
                      · rename_i z hz
                        rw [List.mem_singleton.mp he]
                        have hZ2 : (e_Z w.1 : Int) = g_ev r z := (y_ent_ok kD.2.2.2.1 (by decide) hz).1
                        refine ⟨?_, fun hq => absurd (show 5 < 4 from hq) (by decide), Int.le_refl 0, Int.le_refl 0⟩
                        show ((e_Z w.1 + m : Nat) : Int) = g_ev r (g_add z n)
                        rw [g_ev_add, ← hZ2, hn]
                        rfl
                      · cases he
                  · obtain ⟨q, hq1, hq2⟩ := List.mem_map.mp he
                    have hq3 := Nat.blt_eq.mp (List.mem_filter.mp hq1).2
                    subst hq2
                    unfold y_dM
                    split
                    · rename_i h7
                      exact absurd (show q.2.toNat = 7 from h7) (by omega)
                    · refine ⟨?_, fun _ => ?_, ?_, ?_⟩
                      · show y_rd (e_new w.1 c m, w.2) q.2.toNat (g_ev r t).toNat _ = 0
                        rw [← hT]
                        exact y_new_z hq3
                      · show (g_ev r t).toNat < e_T w.1 + 1
                        rw [← hT]
                        show e_T w.1 < e_T w.1 + 1
                        omega
                      · show 0 ≤ g_ev r t
                        rw [← hT]
                        exact Int.natCast_nonneg _
                      · show 0 ≤ g_ev r (g_c (q.1 : Int))
                        rw [g_ev_c r h0]
                        exact Int.natCast_nonneg _
                · exact d3 e he
              · unfold y_tgn at htg
                rw [Bool.and_eq_true] at htg
                refine ⟨some (e_T w.1), rfl, ?_, fun b hb2 kd hkd => ?_⟩
                · rw [y_en_s]
                  show (e_T w.1 : Int) + 1 = g_ev r (g_ac 1 t)
                  rw [g_ev_ac r h0, ← hT]
                · cases hb2
                  rw [hkd] at htg
                  have h9 : kd = c := y_keq_ok htg.1
                  subst h9
                  refine ⟨by rw [y_new_K, if_pos rfl], fun n' hn' => ?_⟩
                  rw [hn'] at htg
                  have h10 : n = g_c (n' : Int) := g_eq_ok htg.2
                  rw [h10, g_ev_c r h0] at hn
                  rw [y_new_N, if_pos rfl]
                  omega
end Y_NW
end
