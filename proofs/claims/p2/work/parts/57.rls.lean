/-! PART 57: the rules: an instance of a relation; a look at a place; a ghost's write; before a write and behind it -/
noncomputable section
def i_bd (A : List g_LE) (b : g_LE × g_LE) (P : g_LE) : List g_LE := [g_sub P (g_sb A b.1), g_sub (g_sb A b.2) P, P]
/-- a cell that is known, of the heap or not -/
def i_en (ms : List y_ME) (kd : Nat) (a k : g_LE) : Option g_LE := y_ent ms (i_kd kd) (i_sw kd a k) (i_sw kd k a)
/-- a place that is not there yet -/
def i_z0 (S : y_S) (σ : List g_LE) (t : y_RC) (s : y_Str) : Option y_Str := match y_ent (s_m S) 4 [] [], Nat.ble 16 t.1 && (Nat.blt (i_kd t.1) 3 || Nat.beq (i_kd t.1) 8) with
  | some z, true => y_cks (s_f S) s [g_sub (g_sb σ t.2.2) z]
  | _, _ => none
/-- a relation's cells, as far as they are known -/
def i_is (W : List y_WE) (A : List g_LE) : List y_RC → y_S → List g_LE → y_Str → Option (y_S × List g_LE × y_Str)
  | [], S, σ, s => some (S, σ, s)
  | t :: l, S, σ, s => match s with
    | [] :: s0 => (match i_en (s_m S) t.1 (g_sb σ t.2.1) (g_sb σ t.2.2), y_adr (g_sb σ t.2.1) with
      | some x, some n => (match i_fd W t.1 n with
        | some b => (match y_old S x, y_cks (s_f S) s0 (i_bd A b (g_sb σ t.2.2)) with
          | true, some s1 => i_is W A l S (σ ++ [x]) s1
          | _, _ => none)
        | none => none)
      | _, _ => none)
    | [(8, _)] :: s0 => (match i_z0 S σ t s0 with
      | some s1 => i_is W A l S (σ ++ [[]]) s1
      | none => none)
    | _ :: s0 => (match y_sc S with
      | true => i_is W A l (y_nw S []) (σ ++ [g_s (s_n S)]) s0
      | false => none)
    | [] => none
theorem i_sc_mo {n m : Nat} (h : n ≤ m) : ∀ {e : g_LE}, g_sc n e = true → g_sc m e = true := by
  intro e he
  rw [g_sc_def] at he ⊢
  rw [List.all_eq_true] at he ⊢
  intro t ht
  exact Nat.blt_eq.mpr (Nat.lt_of_lt_of_le (Nat.blt_eq.mp (he t ht)) h)
def i_od (S : y_S) (σ : List g_LE) : Prop := ∀ e ∈ σ, g_sc (s_n S) e = true
theorem i_map_ex {S S' : y_S} {r r' : Nat → Int} (hx : y_ex S S' r r') {σ : List g_LE} (h : i_od S σ) : σ.map (g_ev r') = σ.map (g_ev r) := List.map_congr_left fun e he => g_sc_ev hx.1 (h e he)
theorem i_od_ex {S S' : y_S} {r r' : Nat → Int} (hx : y_ex S S' r r') {σ : List g_LE} (h : i_od S σ) : i_od S' σ := fun e he => i_sc_mo hx.2 (h e he)
theorem i_od_sn {S : y_S} {σ : List g_LE} {x : g_LE} (h : i_od S σ) (hx : g_sc (s_n S) x = true) : i_od S (σ ++ [x]) := by
  intro e he
  rcases List.mem_append.mp he with he | he
  · exact h e he
  · rw [List.mem_singleton.mp he]
    exact hx
theorem i_sc_s {n i : Nat} (h : i < n) : g_sc n (g_s i) = true := by
  rw [g_sc_def]
  unfold g_s
  rw [List.all_eq_true]
  intro t ht
  rw [List.mem_singleton.mp ht]
  exact Nat.blt_eq.mpr h
section I_IS
variable {U : y_WT} {AT : Nat → List Int → y_W → Prop} {W : List y_WE} {lv : e_LV} {stk : List Value} {w : y_W}
theorem i_ne7 {kd n : Nat} (hW : W.all (i_ok1 n) = true) {a : Nat} {b : g_LE × g_LE} (h : i_fd W kd a = some b) : i_kd kd ≠ 7 := by
  intro e
  rcases i_ok1_s (List.all_eq_true.mp hW _ (i_fd_m h)) with ⟨hb, h1⟩ | ⟨hb, h1⟩
  · rw [i_kd_f hb] at e
    omega
  · rw [i_kd_t hb] at e
    omega
/-- a cell that is known, through the mask -/
theorem i_bd_ok {r : Nat → Int} {F A : List g_LE} (h0 : r 0 = 1) (hF : g_FF r F) {s s1 : y_Str} {b : g_LE × g_LE} {P : g_LE} (h : y_cks F s (i_bd A b P) = some s1) : g_ev (i_r (A.map (g_ev r))) b.1 ≤ ((g_ev r P).toNat : Int) ∧ ((g_ev r P).toNat : Int) ≤ g_ev (i_r (A.map (g_ev r))) b.2 ∧ 0 ≤ g_ev r P := by
  have hc := y_cks_ok h0 hF h
  have h1 := hc _ List.mem_cons_self
  have h2 := hc _ (List.mem_cons_of_mem _ List.mem_cons_self)
  have h3 := hc _ (List.mem_cons_of_mem _ (List.mem_cons_of_mem _ List.mem_cons_self))
  rw [g_ev_sub] at h1 h2
  rw [i_ev_sb h0, i_ev_sb h0]
  omega
theorem i_mk_in {ρ : y_RHO} {kd a k : Nat} {b : g_LE × g_LE} {AV : List Int} (h : i_fd W kd a = some b) (h1 : g_ev (i_r AV) b.1 ≤ (k : Int)) (h2 : (k : Int) ≤ g_ev (i_r AV) b.2) : i_mk W AV ρ kd a k = ρ kd a k := by
  unfold i_mk
  rw [h]
  dsimp only
  rw [decide_eq_true h1, decide_eq_true h2]
  rfl
theorem i_en_ok {r : Nat → Int} {kd : Nat} {a k v : g_LE} {ms : List y_ME} (hm : ∀ m ∈ ms, y_dM r w m) (h7 : i_kd kd ≠ 7) (h : i_en ms kd a k = some v) : i_vw (y_rd w) kd (g_ev r a).toNat (g_ev r k).toNat = g_ev r v ∧ 0 ≤ g_ev r a ∧ 0 ≤ g_ev r k := by
  have h1 := y_ent_ok hm h7 h
  cases hb : Nat.ble 16 kd with
  | false =>
    rw [i_kd_f hb, i_sw_f hb, i_sw_f hb] at h1
    refine ⟨?_, h1.2.2.1, h1.2.2.2⟩
    unfold i_vw
    rw [i_kd_f hb, i_sw_f hb, i_sw_f hb]
    exact h1.1
  | true =>
    rw [i_kd_t hb, i_sw_t hb, i_sw_t hb] at h1
    refine ⟨?_, h1.2.2.2, h1.2.2.1⟩
    unfold i_vw
    rw [i_kd_t hb, i_sw_t hb, i_sw_t hb]
    exact h1.1
theorem i_mk_at {r : Nat → Int} {S : y_S} {s s1 : y_Str} {kd n0 n : Nat} {b : g_LE × g_LE} {A P x : g_LE} {AA : List g_LE} (hW : W.all (i_ok1 n0) = true) (k : y_DD U AT r S lv stk w) (he : i_en (s_m S) kd A P = some x) (ha : y_adr A = some n) (hin : i_fd W kd n = some b) (hck : y_cks (s_f S) s (i_bd AA b P) = some s1) : i_mk W (AA.map (g_ev r)) (i_vw (y_rd w)) kd (g_ev r A).toNat (g_ev r P).toNat = g_ev r x ∧ i_vw (y_rd w) kd (g_ev r A).toNat (g_ev r P).toNat = g_ev r x ∧ (g_ev r A).toNat = n ∧ 0 ≤ g_ev r P ∧ (g_ev (i_r (AA.map (g_ev r))) b.1 ≤ ((g_ev r P).toNat : Int) ∧ ((g_ev r P).toNat : Int) ≤ g_ev (i_r (AA.map (g_ev r))) b.2) ∧ 0 ≤ g_ev r A := by
  have h0 := k.1
  have h1 := i_en_ok k.2.2.2.1 (i_ne7 hW hin) he
  have h2 := y_adr_ok h0 ha
  have h3 := i_bd_ok h0 k.2.2.2.2.1 hck
  refine ⟨?_, h1.1, h2, h1.2.2, ⟨h3.1, h3.2.1⟩, h1.2.1⟩
  rw [h2, i_mk_in hin h3.1 h3.2.1, ← h2]
  exact h1.1
theorem i_z0_ok {t : y_RC} {σ : List g_LE} {s s1 : y_Str} {r : Nat → Int} {S : y_S} (h : i_z0 S σ t s = some s1) (k : y_DD U AT r S lv stk w) : Nat.ble 16 t.1 = true ∧ (i_kd t.1 < 3 ∨ i_kd t.1 = 8) ∧ e_T w.1 ≤ (g_ev r (g_sb σ t.2.2)).toNat := by
  unfold i_z0 at h
  split at h
  · rename_i z hz hb
    rw [Bool.and_eq_true] at hb
    have h1 := y_cks_ok k.1 k.2.2.2.2.1 h _ List.mem_cons_self
    have hT : (e_T w.1 : Int) = g_ev r z := (y_ent_ok k.2.2.2.1 (by decide) hz).1
    rw [g_ev_sub] at h1
    refine ⟨hb.1, ?_, by omega⟩
    have h3 := hb.2
    rw [Bool.or_eq_true] at h3
    exact h3.imp Nat.blt_eq.mp Nat.eq_of_beq_eq_true
  · cases h
theorem i_z0_vw {t0 A K : Nat} (hI : y_IV U w) (hb : Nat.ble 16 t0 = true) (h3 : i_kd t0 < 3 ∨ i_kd t0 = 8) (hK : e_T w.1 ≤ K) : i_vw (y_rd w) t0 A K = 0 := by
  unfold i_vw
  rw [i_sw_t hb, i_sw_t hb]
  rcases h3 with h3 | h3
  · exact hI.2.1.2 _ _ _ h3 hK
  · rw [h3]
    exact y_r8_T hK
theorem i_mk_0 {ρ : y_RHO} {AV : List Int} {kd a k : Nat} (h : ρ kd a k = 0) : i_mk W AV ρ kd a k = 0 := by
  unfold i_mk
  split
  · split
    · exact h
    · rfl
  · rfl
theorem i_is_ok {n0 : Nat} {A : List g_LE} {AV : List Int} (hW : W.all (i_ok1 n0) = true) : ∀ {l : List y_RC} {S S' : y_S} {σ σ' : List g_LE} {s s' : y_Str} {r : Nat → Int}, i_is W A l S σ s = some (S', σ', s') → y_DD U AT r S lv stk w → i_od S σ → i_od S A → A.map (g_ev r) = AV → ∃ r', y_ex S S' r r' ∧ y_DD U AT r' S' lv stk w ∧ i_vs (i_mk W AV (i_vw (y_rd w))) l (σ.map (g_ev r)) = σ'.map (g_ev r')
  | [], S, S', σ, σ', s, s', r, h, k, _, _, _ => by
    cases h
    exact ⟨r, y_ex.rf, k, rfl⟩
  | t :: l, S, S', σ, σ', s, s', r, h, k, ho, hoA, hAV => by
    have h0 := k.1
    unfold i_is at h
    unfold i_vs
    rw [i_ev_sb h0, i_ev_sb h0]
    split at h
    · rename_i s0
      split at h
      · rename_i x n he ha
        split at h
        · rename_i b hin
          split at h
          · rename_i s1 hold hck
            have h1 := (i_mk_at hW k he ha hin hck).1
            rw [hAV] at h1
            rw [h1]
            have h2 := i_is_ok hW h k (i_od_sn ho hold) hoA hAV
            rw [List.map_append] at h2
            exact h2
          · cases h
        · cases h
      · cases h
    · split at h
      · rename_i s1 hz
        obtain ⟨z1, z2, z3⟩ := i_z0_ok hz k
        rw [i_mk_0 (i_z0_vw k.2.2.2.2.2.2 z1 z2 z3)]
        have h2 := i_is_ok hW h k (i_od_sn ho (show g_sc (s_n S) [] = true from rfl)) hoA hAV
        rw [List.map_append] at h2
        exact h2
      · cases h
    · split at h
      · rename_i hs
        have hn : 0 < s_n S := (y_sc_s hs).1
        have hD := y_D_nw (L := []) hs k (i_mk W AV (i_vw (y_rd w)) t.1 (g_ev r (g_sb σ t.2.1)).toNat (g_ev r (g_sb σ t.2.2)).toNat) (fun f hf => by cases hf)
        have hx : y_ex S (y_nw S []) r (y_nv r (s_n S) (i_mk W AV (i_vw (y_rd w)) t.1 (g_ev r (g_sb σ t.2.1)).toNat (g_ev r (g_sb σ t.2.2)).toNat)) := ⟨fun i hi => y_nv_lt hi, Nat.le_succ _⟩
        obtain ⟨r', x1, x2, x3⟩ := i_is_ok hW h hD (i_od_sn (i_od_ex hx ho) (i_sc_s (Nat.lt_succ_self _))) (i_od_ex hx hoA) ((i_map_ex hx hoA).trans hAV)
        refine ⟨r', hx.tr x1, x2, ?_⟩
        rw [List.map_append, i_map_ex hx ho] at x3
        rw [← x3]
        show i_vs _ l _ = i_vs _ l (_ ++ [g_ev _ (g_s (s_n S))])
        rw [g_ev_s, y_nv_at]
      · cases h
    · cases h
end I_IS
/-- the rules that know a relation's instance -/
def i_g1 (FS : List y_FA) (S : y_S) (i j : Nat) (s : y_Str) : Option (List y_S × y_Str) := match (s_a S)[i]?, s with
  | some a, κ :: μ :: s1 => (match FS[a.1 / 16]?, Nat.beq (a.1 % 16) 15 && (y_old S κ && (y_old S μ && a.2.all (y_old S))) with
    | some F, true => (match F.2[j]? with
      | some R => (match i_is F.1 a.2 R.1 S (κ :: μ :: a.2) s1 with
        | some (S', σ, s2) => some (R.2.map (fun D => y_af S' (D.map (g_sb σ))), s2)
        | none => none)
      | none => none)
    | _, _ => none)
  | _, _ => none
/-- a look at a place; of the heap: any that is there -/
def i_gh (S : y_S) (kd A : Nat) (P : g_LE) (s1 : y_Str) : Option (List y_S × y_Str) := match y_ent (s_m S) 4 [] [] with
  | some t => (match y_cks (s_f S) s1 [P, g_ac (-1) (g_sub t P)], (Nat.blt (kd - 16) 4 || Nat.beq (kd - 16) 8) && (y_sc S && y_old S P) with
    | some s2, true => some ([y_am (y_nw S []) (kd - 16, P, g_c (A : Int), g_s (s_n S))], s2)
    | _, _ => none)
  | none => none
def i_g0 (U : y_WT) (S : y_S) (kd A : Nat) (s : y_Str) : Option (List y_S × y_Str) := match s with
  | P :: s1 => (match Nat.ble 16 kd with
    | true => i_gh S kd A P s1
    | false => match y_ck (s_f S) s1 P with
    | some s2 => (match Nat.beq kd 6 with
      | true => (match y_sc S && y_old S P with
        | true => some ([y_am (y_nw S []) (6, g_c (A : Int), P, g_s (s_n S))], s2)
        | false => none)
      | false => (match w_FK U A, Nat.blt kd 4 with
        | some c, true => (match (match c with
            | .inr _ => some 0
            | .inl _ => y_adr P) with
          | some kc => (match y_get U S kd c (g_c (A : Int)) P kc with
            | some (S', _) => some ([S'], s2)
            | none => none)
          | none => none)
        | _, _ => none))
    | none => none)
  | _ => none
/-- what stands at one place is one -/
def i_g2 (S : y_S) (i j : Nat) (s : y_Str) : Option (List y_S × y_Str) := match (s_m S)[i]?, (s_m S)[j]? with
  | some m, some n => (match Nat.beq m.1 n.1 && !Nat.beq m.1 7, y_cks (s_f S) s [g_sub m.2.1 n.2.1, g_sub n.2.1 m.2.1, g_sub m.2.2.1 n.2.2.1, g_sub n.2.2.1 m.2.2.1] with
    | true, some s1 => some ([y_af S [g_sub m.2.2.2 n.2.2.2, g_sub n.2.2.2 m.2.2.2]], s1)
    | _, _ => none)
  | _, _ => none
/-- steps that leave all as it is -/
def i_pr (U : y_WT) (FS : List y_FA) (S : y_S) (it : y_It) (s : y_Str) : Option (List y_S × y_Str) := match it with
  | [(11, 0), (kd, A)] => i_g0 U S kd A.toNat s
  | [(11, 1), (i, j)] => i_g1 FS S i j.toNat s
  | [(11, 2), (i, j)] => i_g2 S i j.toNat s
  | it => y_gop U (fun _ _ _ _ => none) S it s
section I_PR
variable {U : y_WT} {AT : Nat → List Int → y_W → Prop} {FS : List y_FA} {n0 : Nat} {r : Nat → Int} {S S' : y_S} {lv : e_LV} {stk : List Value} {w : y_W} {s s' : y_Str} {L : List y_S} {it : y_It}
theorem i_g1_ok (hok : i_ok FS n0 = true) {i j : Nat} (h : i_g1 FS S i j s = some (L, s')) (k : y_DD U (i_AT FS n0) r S lv stk w) : y_GP U (i_AT FS n0) r S lv stk w L := by
  have h0 := k.1
  unfold i_g1 at h
  split at h
  · rename_i a κ μ s1 ha
    split at h
    · rename_i F hF hb
      split at h
      · rename_i R hR
        split at h
        · rename_i S1 σ s2 his
          cases h
          rw [Bool.and_eq_true, Bool.and_eq_true, Bool.and_eq_true] at hb
          have hat := k.2.2.2.2.2.1 a (List.mem_of_getElem? ha)
          have hW := List.all_eq_true.mp hok F (List.mem_of_getElem? hF)
          obtain ⟨r', x1, x2, x3⟩ := i_is_ok hW his k (fun e he => by
            rcases List.mem_cons.mp he with he | he
            · rw [he]; exact hb.2.1
            rcases List.mem_cons.mp he with he | he
            · rw [he]; exact hb.2.2.1
            · exact List.all_eq_true.mp hb.2.2.2 e he) (fun e he => List.all_eq_true.mp hb.2.2.2 e he) rfl
          unfold i_AT at hat
          rw [hF] at hat
          have hat := hat.2
          dsimp only at hat
          rw [hb.1] at hat
          obtain ⟨D, hD, h2⟩ := hat.2 R (List.mem_of_getElem? hR) (g_ev r κ) (g_ev r μ)
          refine ⟨y_af S1 (D.map (g_sb σ)), List.mem_map.mpr ⟨D, hD, rfl⟩, r', x1, y_D_f x2 fun f hf => ?_⟩
          obtain ⟨e, he, rfl⟩ := List.mem_map.mp hf
          rw [← i_ev_sb x2.1, ← x3]
          exact h2 e he
        · cases h
      · cases h
    · cases h
  · cases h
theorem i_gh_ok {kd A : Nat} {P : g_LE} (h : i_gh S kd A P s = some (L, s')) (k : y_DD U AT r S lv stk w) : y_GP U AT r S lv stk w L := by
  have h0 := k.1
  unfold i_gh at h
  split at h
  · rename_i t ht
    split at h
    · rename_i s2 hck hs
      cases h
      rw [Bool.and_eq_true, Bool.and_eq_true] at hs
      have hkd : kd - 16 < 4 ∨ kd - 16 = 8 := by
        have h3 := hs.1
        rw [Bool.or_eq_true] at h3
        exact h3.imp Nat.blt_eq.mp Nat.eq_of_beq_eq_true
      have hc := y_cks_ok h0 k.2.2.2.2.1 hck
      have hP := hc _ List.mem_cons_self
      have hT := hc _ (List.mem_cons_of_mem _ List.mem_cons_self)
      rw [g_ev_ac r h0, g_ev_sub] at hT
      have h1 := (y_ent_ok k.2.2.2.1 (by decide) ht).1
      have h2 : (e_T w.1 : Int) = g_ev r t := h1
      have hn : 0 < s_n S := (y_sc_s hs.2.1).1
      have hD := y_D_nw (L := []) hs.2.1 k (y_rd w (kd - 16) (g_ev r P).toNat A) (fun f hf => by cases hf)
      have h00 : (y_nv r (s_n S) (y_rd w (kd - 16) (g_ev r P).toNat A)) 0 = 1 := (y_nv_lt hn).trans h0
      have hPe : g_ev (y_nv r (s_n S) (y_rd w (kd - 16) (g_ev r P).toNat A)) P = g_ev r P := g_sc_ev (fun i hi => y_nv_lt hi) hs.2.2
      refine ⟨_, List.mem_singleton.mpr rfl, _, ⟨fun i hi => y_nv_lt hi, Nat.le_succ _⟩, y_D_am hD ?_⟩
      unfold y_dM
      split
      · rename_i h7
        have h7 : kd - 16 = 7 := h7
        omega
      · refine ⟨?_, fun _ => ?_, ?_, ?_⟩
        · show y_rd w (kd - 16) (g_ev _ P).toNat (g_ev _ (g_c (A : Int))).toNat = g_ev _ (g_s (s_n S))
          rw [g_ev_s, y_nv_at, hPe, g_ev_c _ h00]
          rfl
        · show (g_ev _ P).toNat < e_T w.1
          rw [hPe]
          omega
        · show 0 ≤ g_ev _ P
          rw [hPe]
          exact hP
        · show 0 ≤ g_ev _ (g_c (A : Int))
          rw [g_ev_c _ h00]
          exact Int.natCast_nonneg _
    · cases h
  · cases h
theorem i_g0_ok {kd A : Nat} (h : i_g0 U S kd A s = some (L, s')) (k : y_DD U AT r S lv stk w) : y_GP U AT r S lv stk w L := by
  have h0 := k.1
  unfold i_g0 at h
  split at h
  · rename_i P s1
    split at h
    · exact i_gh_ok h k
    split at h
    · rename_i s2 hck
      have hP := y_ck_ok h0 k.2.2.2.2.1 hck
      split at h
      · rename_i h6
        split at h
        · rename_i hs
          cases h
          rw [Bool.and_eq_true] at hs
          have hn : 0 < s_n S := (y_sc_s hs.1).1
          have hD := y_D_nw (L := []) hs.1 k (w.2 A (g_ev r P).toNat) (fun f hf => by cases hf)
          have h00 : (y_nv r (s_n S) (w.2 A (g_ev r P).toNat)) 0 = 1 := (y_nv_lt hn).trans h0
          refine ⟨_, List.mem_singleton.mpr rfl, _, ⟨fun i hi => y_nv_lt hi, Nat.le_succ _⟩, y_D_am hD ⟨?_, fun hq => absurd (show 6 < 4 from hq) (by decide), ?_, ?_⟩⟩
          · show w.2 (g_ev _ (g_c (A : Int))).toNat (g_ev _ P).toNat = g_ev _ (g_s (s_n S))
            rw [g_ev_s, y_nv_at, g_ev_c _ h00, g_sc_ev (fun i hi => y_nv_lt hi) hs.2]
            rfl
          · show 0 ≤ g_ev _ (g_c (A : Int))
            rw [g_ev_c _ h00]
            exact Int.natCast_nonneg _
          · show 0 ≤ g_ev _ P
            rw [g_sc_ev (fun i hi => y_nv_lt hi) hs.2]
            exact hP
        · cases h
      · split at h
        · rename_i c hc hkd
          split at h
          · rename_i kc hkc
            split at h
            · rename_i S1 v hg
              cases h
              have hK := (k.2.2.2.2.2.2).1.2 A c hc
              obtain ⟨r', x1, x2⟩ := y_get_gp hg k (Nat.blt_eq.mp hkd) (by rw [g_ev_c r h0]; exact hK) (by
                split at hkc
                · cases hkc
                  rfl
                · exact y_adr_ok h0 hkc) (by rw [g_ev_c r h0]; exact Int.natCast_nonneg _) hP
              exact ⟨_, List.mem_singleton.mpr rfl, r', x1, x2⟩
            · cases h
          · cases h
        · cases h
    · cases h
  · cases h
theorem i_g2_ok {i j : Nat} (h : i_g2 S i j s = some (L, s')) (k : y_DD U AT r S lv stk w) : y_GP U AT r S lv stk w L := by
  have h0 := k.1
  unfold i_g2 at h
  split at h
  · rename_i m n hm hn
    split at h
    · rename_i s1 hb hck
      cases h
      rw [Bool.and_eq_true] at hb
      have h7 : m.1 ≠ 7 := fun e => by
        have h9 := hb.2
        rw [e] at h9
        exact absurd h9 (by decide)
      have e1 := Nat.eq_of_beq_eq_true hb.1
      have hc := y_cks_ok h0 k.2.2.2.2.1 hck
      have ea := y_eq2 (hc _ List.mem_cons_self) (hc _ (List.mem_cons_of_mem _ List.mem_cons_self))
      have ek := y_eq2 (hc _ (List.mem_cons_of_mem _ (List.mem_cons_of_mem _ List.mem_cons_self))) (hc _ (List.mem_cons_of_mem _ (List.mem_cons_of_mem _ (List.mem_cons_of_mem _ List.mem_cons_self))))
      have hm1 := k.2.2.2.1 m (List.mem_of_getElem? hm)
      have hn1 := k.2.2.2.1 n (List.mem_of_getElem? hn)
      have get : ∀ {q : y_ME}, q.1 ≠ 7 → y_dM r w q → y_rd w q.1 (g_ev r q.2.1).toNat (g_ev r q.2.2.1).toNat = g_ev r q.2.2.2 := by
        intro q hq hd
        unfold y_dM at hd
        split at hd
        · rename_i h8
          exact absurd h8 hq
        · exact hd.1
      have v1 := get h7 hm1
      have v2 := get (e1 ▸ h7) hn1
      rw [e1, ea, ek, v2] at v1
      refine ⟨_, List.mem_singleton.mpr rfl, r, y_ex.rf, y_D_f k fun f hf => ?_⟩
      rcases List.mem_cons.mp hf with hf | hf
      · rw [hf, g_ev_sub]; omega
      · rw [List.mem_singleton.mp hf, g_ev_sub]; omega
    · cases h
  · cases h
theorem i_pr_ok (hok : i_ok FS n0 = true) (h : i_pr U FS S it s = some (L, s')) (k : y_DD U (i_AT FS n0) r S lv stk w) : y_GP U (i_AT FS n0) r S lv stk w L := by
  unfold i_pr at h
  split at h
  · exact i_g0_ok h k
  · exact i_g1_ok hok h k
  · exact i_g2_ok h k
  · exact y_gop_ok (RL := fun _ _ _ _ => none) (fun _ _ _ _ _ _ _ _ _ _ h => by cases h) h k
end I_PR
end
