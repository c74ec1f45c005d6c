/-! PART 58: a ghost's write; before a write, and behind it -/
noncomputable section
def i_g3 (fp : Nat → List g_LE → List y_MI) (c : y_CX) (S : y_S) (A : Nat) (s : y_Str) : Option (List y_S × y_Str) := match s with
  | P :: v :: s1 => (match y_ck (s_f S) s1 P with
    | some s2 => (match y_cov (s_f S) (c_M c) (c_t c) (y_itm 6 (g_c (A : Int)) P) s2 with
      | some s3 => (match y_flt (s_f S) [y_itm 6 (g_c (A : Int)) P] (s_m S) s3 with
        | some (ms, s4) => (match y_fla fp (s_f S) [y_itm 6 (g_c (A : Int)) P] (s_a S) s4 with
          | some (as, s5) => some ([y_chS S ((6, g_c (A : Int), P, v) :: ms) as], s5)
          | none => none)
        | none => none)
      | none => none)
    | none => none)
  | _ => none
def i_gw (w : y_W) (A K : Nat) (v : Int) : y_W := (w.1, fun a k => if a = A ∧ k = K then v else w.2 a k)
section I_G3
variable {U : y_WT} {AT : Nat → List Int → y_W → Prop} {fp : Nat → List g_LE → List y_MI} {c : y_CX} {r : Nat → Int} {S S' : y_S} {lv : e_LV} {stk : List Value} {w w' : y_W} {s s' : y_Str} {L : List y_S}
theorem i_gw_fr {A K : Nat} {v : Int} {a k : g_LE} (ha : g_ev r a = A) (hk : g_ev r k = K) : y_Fr r [y_itm 6 a k] w (i_gw w A K v) := by
  refine ⟨fun kd b j _ hc => ?_, fun _ _ h => ⟨h, rfl⟩, Nat.le_refl _, Nat.le_refl _⟩
  match kd with
  | 0 => rfl
  | 1 => rfl
  | 2 => rfl
  | 3 => rfl
  | 4 => rfl
  | 5 => rfl
  | 6 =>
    show (if b = A ∧ j = K then v else w.2 b j) = w.2 b j
    rw [if_neg]
    rintro ⟨rfl, rfl⟩
    refine hc _ List.mem_cons_self ⟨rfl, Or.inr (Or.inr ⟨?_, ?_, fun q hq => ?_⟩)⟩
    · show g_ev r a ≤ _
      rw [ha]; exact Int.le_refl _
    · show _ ≤ g_ev r a
      rw [ha]; exact Int.le_refl _
    · cases hq
      exact ⟨by show g_ev r k ≤ _; rw [hk]; exact Int.le_refl _, by show _ ≤ g_ev r k; rw [hk]; exact Int.le_refl _⟩
  | 7 => rfl
  | 8 => rfl
  | n + 9 => rfl
theorem i_g3_ok (hA : y_AO AT fp) {A : Nat} (h : i_g3 fp c S A s = some (L, s')) (k : y_DD U AT r S lv stk w) : y_GP2 U AT c r S lv stk w L := by
  have h0 := k.1
  have hF := k.2.2.2.2.1
  unfold i_g3 at h
  split at h
  · rename_i P v s1
    split at h
    · rename_i s2 hck
      have hP := y_ck_ok h0 hF hck
      split at h
      · rename_i s3 hcv
        split at h
        · rename_i ms s4 hms
          split at h
          · rename_i as s5 has
            cases h
            have hk : g_ev r P = ((g_ev r P).toNat : Int) := (Int.toNat_of_nonneg hP).symm
            have hfr := i_gw_fr (w := w) (v := g_ev r v) (g_ev_c r h0 (A : Int)) hk
            have hI : y_IV U (i_gw w A (g_ev r P).toNat (g_ev r v)) := by
              obtain ⟨i1, i2, i3⟩ := k.2.2.2.2.2.2
              refine ⟨i1, ⟨i2.1, fun kd a k' h3 hge => ?_⟩, fun a c' hc' => ?_⟩
              · have h9 := i2.2 kd a k' h3 hge
                match kd, h3, h9 with
                | 0, _, h9 => exact h9
                | 1, _, h9 => exact h9
                | 2, _, h9 => exact h9
              obtain ⟨j1, j2, j3⟩ := i3 a c' hc'
              refine ⟨j1, fun kd k' lo hi h4 hq => ?_, j3⟩
              have h9 := j2 kd k' lo hi h4 hq
              match kd, h4, h9 with
              | 0, _, h9 => exact h9
              | 1, _, h9 => exact h9
              | 2, _, h9 => exact h9
              | 3, _, h9 => exact h9
            obtain ⟨d0, d1, d2, d3, d4, d5, d6⟩ := y_chg hA k hfr hI hms has
            refine ⟨_, List.mem_singleton.mpr rfl, r, i_gw w A (g_ev r P).toNat (g_ev r v), rfl, y_ex.rf, ⟨d0, d1, d2, fun m hm => ?_, d4, d5, d6⟩, _, hfr, fun m hm kd' a' k' hc => ?_⟩
            · rcases List.mem_cons.mp hm with hm | hm
              · subst hm
                refine ⟨?_, fun hq => absurd (show 6 < 4 from hq) (by decide), ?_, hP⟩
                · show (if (g_ev r (g_c (A : Int))).toNat = A ∧ (g_ev r P).toNat = (g_ev r P).toNat then g_ev r v else w.2 _ _) = g_ev r v
                  rw [if_pos ⟨by rw [g_ev_c r h0]; rfl, rfl⟩]
                · show 0 ≤ g_ev r (g_c (A : Int))
                  rw [g_ev_c r h0]
                  exact Int.natCast_nonneg _
              · exact d3 m hm
            · rw [List.mem_singleton.mp hm] at hc
              exact y_cov_ok h0 hF hcv hc
          · cases h
        · cases h
      · cases h
    · cases h
  · cases h
end I_G3
def i_v1 (a : g_LE) (S : y_S) (s : y_Str) : Option y_Str := match y_ent (s_m S) 4 [] [] with
  | some z => y_ck (s_f S) s (g_ac (-1) (g_sub z a))
  | none => none
/-- a place that is not there yet holds 0 behind the write as well -/
def i_v0 (kd : Nat) (a q : g_LE) (S : y_S) (σ : List g_LE) (t : y_RC) (s : y_Str) : Option y_Str := match i_z0 S σ t s, Nat.beq (i_kd t.1) kd with
  | none, _ => none
  | some s1, false => some s1
  | some s1, true => match y_adr (g_sb σ t.2.1), y_adr q with
    | some n, some m => (match Nat.beq n m with
      | false => some s1
      | true => i_v1 a S s1)
    | _, _ => i_v1 a S s1
/-- a cell's value behind a write of v at (kd, a, q): 0 not known; 1 it is this place; else another one: 2 by kind, 3 by the address, 4 before it, 5 behind it; 6, 7 the address lies before, behind that of the write -/
def i_vl (W : List y_WE) (A : List g_LE) (kd : Nat) (a q v : g_LE) (S : y_S) (σ : List g_LE) (t : y_RC) (j : Nat) (s : y_Str) : Option (y_S × g_LE × y_Str) := match j with
  | 0 => (match y_sc S with
    | true => some (y_nw S [], g_s (s_n S), s)
    | false => none)
  | 1 => (match y_adr (g_sb σ t.2.1), Nat.beq (i_kd t.1) kd && g_eq (g_sb σ t.2.1) (i_sw t.1 a q), y_cks (s_f S) s [g_sub (g_sb σ t.2.2) (i_sw t.1 q a), g_sub (i_sw t.1 q a) (g_sb σ t.2.2)] with
    | some n, true, some s0 => (match i_fd W t.1 n with
      | some b => (match y_cks (s_f S) s0 (i_bd A b (i_sw t.1 q a)) with
        | some s1 => some (S, v, s1)
        | none => none)
      | none => none)
    | _, _, _ => none)
  | 8 => (match i_v0 kd a q S σ t s with
    | some s1 => some (S, [], s1)
    | none => none)
  | j => (match i_en (s_m S) t.1 (g_sb σ t.2.1) (g_sb σ t.2.2), y_adr (g_sb σ t.2.1), (match y_adr (g_sb σ t.2.1) with
      | some n => (match i_fd W t.1 n with
        | some b => y_cks (s_f S) s (i_bd A b (g_sb σ t.2.2))
        | none => none)
      | none => none) with
    | some x, some n, some s1 => (match y_old S x with
      | true => (match j with
        | 2 => (match Nat.beq (i_kd t.1) kd with
          | false => some (S, x, s1)
          | true => none)
        | 3 => (match y_adr (i_sw t.1 a q) with
          | some m => (match Nat.beq n m with
            | false => some (S, x, s1)
            | true => none)
          | none => none)
        | 4 => (match y_ck (s_f S) s1 (g_ac (-1) (g_sub (i_sw t.1 q a) (g_sb σ t.2.2))) with
          | some s2 => some (S, x, s2)
          | none => none)
        | 6 => (match y_ck (s_f S) s1 (g_ac (-1) (g_sub (i_sw t.1 a q) (g_sb σ t.2.1))) with
          | some s2 => some (S, x, s2)
          | none => none)
        | 7 => (match y_ck (s_f S) s1 (g_ac (-1) (g_sub (g_sb σ t.2.1) (i_sw t.1 a q))) with
          | some s2 => some (S, x, s2)
          | none => none)
        | _ => (match y_ck (s_f S) s1 (g_ac (-1) (g_sub (g_sb σ t.2.2) (i_sw t.1 q a))) with
          | some s2 => some (S, x, s2)
          | none => none))
      | false => none)
    | _, _, _ => none)
section I_VL
variable {U : y_WT} {AT : Nat → List Int → y_W → Prop} {W : List y_WE} {r : Nat → Int} {S S' : y_S} {lv : e_LV} {stk : List Value} {w : y_W} {s s' : y_Str} {σ : List g_LE}
theorem i_up_sw {ρ : y_RHO} {kd kd' A K : Nat} {a q v : Int} : i_vw (i_up ρ kd a q v) kd' A K = if i_kd kd' = kd ∧ (A : Int) = i_sw kd' a q ∧ (K : Int) = i_sw kd' q a then v else i_vw ρ kd' A K := by
  unfold i_vw i_up
  cases hb : Nat.ble 16 kd' with
  | false =>
    rw [i_sw_f hb, i_sw_f hb, i_sw_f hb, i_sw_f hb]
  | true =>
    rw [i_sw_t hb, i_sw_t hb, i_sw_t hb, i_sw_t hb]
    by_cases h : i_kd kd' = kd ∧ (A : Int) = q ∧ (K : Int) = a
    · rw [if_pos h, if_pos ⟨h.1, h.2.2, h.2.1⟩]
    · rw [if_neg h, if_neg (fun h2 => h ⟨h2.1, h2.2.2, h2.2.1⟩)]
theorem i_sw_ev {r : Nat → Int} {kd : Nat} {a q : g_LE} : g_ev r (i_sw kd a q) = i_sw kd (g_ev r a) (g_ev r q) := by
  cases hb : Nat.ble 16 kd with
  | false => rw [i_sw_f hb, i_sw_f hb]
  | true => rw [i_sw_t hb, i_sw_t hb]
theorem i_v1_ok {a : g_LE} (h : i_v1 a S s = some s') (k : y_DD U AT r S lv stk w) : g_ev r a < (e_T w.1 : Int) := by
  unfold i_v1 at h
  split at h
  · rename_i z hz
    have h1 := y_ck_ok k.1 k.2.2.2.2.1 h
    have hT : (e_T w.1 : Int) = g_ev r z := (y_ent_ok k.2.2.2.1 (by decide) hz).1
    rw [g_ev_ac r k.1, g_ev_sub] at h1
    omega
  · cases h
theorem i_v0_ok {kd : Nat} {a q v : g_LE} {t : y_RC} (h : i_v0 kd a q S σ t s = some s') (k : y_DD U AT r S lv stk w) {AV : List Int} : i_mk W AV (i_vw (i_up (y_rd w) kd (g_ev r a) (g_ev r q) (g_ev r v))) t.1 (g_ev r (g_sb σ t.2.1)).toNat (g_ev r (g_sb σ t.2.2)).toNat = 0 := by
  have h0 := k.1
  unfold i_v0 at h
  have main : ∀ {s1 : y_Str}, i_z0 S σ t s = some s1 → ¬ (i_kd t.1 = kd ∧ (((g_ev r (g_sb σ t.2.1)).toNat : Nat) : Int) = g_ev r q ∧ (((g_ev r (g_sb σ t.2.2)).toNat : Nat) : Int) = g_ev r a) → i_mk W AV (i_vw (i_up (y_rd w) kd (g_ev r a) (g_ev r q) (g_ev r v))) t.1 (g_ev r (g_sb σ t.2.1)).toNat (g_ev r (g_sb σ t.2.2)).toNat = 0 := by
    intro s1 hz hne
    obtain ⟨z1, z2, z3⟩ := i_z0_ok hz k
    refine i_mk_0 ?_
    rw [i_up_sw, i_sw_t z1, i_sw_t z1, if_neg hne]
    exact i_z0_vw k.2.2.2.2.2.2 z1 z2 z3
  have far : ∀ {s1 : y_Str}, i_z0 S σ t s = some s1 → i_v1 a S s1 = some s' → ¬ (i_kd t.1 = kd ∧ (((g_ev r (g_sb σ t.2.1)).toNat : Nat) : Int) = g_ev r q ∧ (((g_ev r (g_sb σ t.2.2)).toNat : Nat) : Int) = g_ev r a) := by
    intro s1 hz hv hq
    obtain ⟨z1, z2, z3⟩ := i_z0_ok hz k
    have h2 := i_v1_ok hv k
    omega
  split at h
  · cases h
  · rename_i s1 hz hb
    refine main hz fun hq => ?_
    rw [hq.1, Nat.beq_refl] at hb
    cases hb
  · rename_i s1 hz hb
    split at h
    · rename_i n m hn hm
      split at h
      · rename_i hnm
        refine main hz fun hq => ?_
        have h9 := y_adr_ok h0 hn
        have h10 := y_adr_ok h0 hm
        have h11 : n = m := by omega
        rw [h11, Nat.beq_refl] at hnm
        cases hnm
      · exact main hz (far hz h)
    · exact main hz (far hz h)
theorem i_vl_ok {n0 : Nat} {A : List g_LE} {AV : List Int} (hAV : A.map (g_ev r) = AV) (hW : W.all (i_ok1 n0) = true) {kd j : Nat} {a q v x : g_LE} {t : y_RC} (h : i_vl W A kd a q v S σ t j s = some (S', x, s')) (k : y_DD U AT r S lv stk w) (hv : g_sc (s_n S) v = true) (ho : i_od S σ) : ∃ r', y_ex S S' r r' ∧ y_DD U AT r' S' lv stk w ∧ g_sc (s_n S') x = true ∧ i_mk W AV (i_vw (i_up (y_rd w) kd (g_ev r a) (g_ev r q) (g_ev r v))) t.1 (g_ev r (g_sb σ t.2.1)).toNat (g_ev r (g_sb σ t.2.2)).toNat = g_ev r' x := by
  have h0 := k.1
  have hF := k.2.2.2.2.1
  unfold i_vl at h
  split at h
  · split at h
    · rename_i hs
      cases h
      have hn : 0 < s_n S := (y_sc_s hs).1
      have hD := y_D_nw (L := []) hs k (i_mk W AV (i_vw (i_up (y_rd w) kd (g_ev r a) (g_ev r q) (g_ev r v))) t.1 (g_ev r (g_sb σ t.2.1)).toNat (g_ev r (g_sb σ t.2.2)).toNat) (fun f hf => by cases hf)
      refine ⟨_, ⟨fun i hi => y_nv_lt hi, Nat.le_succ _⟩, hD, i_sc_s (Nat.lt_succ_self _), ?_⟩
      rw [g_ev_s, y_nv_at]
    · cases h
  · split at h
    · rename_i n s0 hn hb hck
      split at h
      · rename_i bd hin
        split at h
        rotate_left
        · cases h
        rename_i s1 hck2
        cases h
        rw [Bool.and_eq_true] at hb
        have hc := y_cks_ok h0 hF hck
        have e1 := Nat.eq_of_beq_eq_true hb.1
        have e2 := y_adr_ok h0 hn
        have e3 := y_eq2 (hc _ List.mem_cons_self) (hc _ (List.mem_cons_of_mem _ List.mem_cons_self))
        have e5 := i_bd_ok h0 hF hck2
        rw [hAV] at e5
        have e9 : g_ev r (g_sb σ t.2.2) = g_ev r (i_sw t.1 q a) := by omega
        have e6 : g_ev (i_r AV) bd.1 ≤ ((g_ev r (g_sb σ t.2.2)).toNat : Int) ∧ ((g_ev r (g_sb σ t.2.2)).toNat : Int) ≤ g_ev (i_r AV) bd.2 := by rw [e9]; exact ⟨e5.1, e5.2.1⟩
        refine ⟨r, y_ex.rf, k, hv, ?_⟩
        have e7 : g_sb σ t.2.1 = i_sw t.1 a q := g_eq_ok hb.2
        have e8 : (((g_ev r (g_sb σ t.2.1)).toNat : Nat) : Int) = g_ev r (i_sw t.1 a q) := by
          have h9 : ∃ m : Nat, g_ev r (i_sw t.1 a q) = (m : Int) := by
            have h10 := hn
            unfold y_adr at h10
            split at h10
            · rename_i m hm
              refine ⟨m, ?_⟩
              have h11 := g_cst_ok h0 hm
              rw [← e7]
              exact h11
            · cases h10
          obtain ⟨m, hm⟩ := h9
          rw [e7, hm]
          rfl
        have e10 : (((g_ev r (g_sb σ t.2.2)).toNat : Nat) : Int) = g_ev r (i_sw t.1 q a) := by omega
        rw [i_sw_ev] at e8 e10
        rw [e2, i_mk_in hin e6.1 e6.2, ← e2, i_up_sw, if_pos ⟨e1, e8, e10⟩]
      · cases h
    · cases h
  · split at h
    · rename_i s1 hz
      cases h
      exact ⟨r, y_ex.rf, k, rfl, i_v0_ok hz k⟩
    · cases h
  · rename_i hj0 hj1
    split at h
    · rename_i x1 n s1 he hn hck
      split at h
      · rename_i hio
        rw [hn] at hck
        dsimp only at hck
        split at hck
        rotate_left
        · cases hck
        rename_i bd hin
        obtain ⟨c1, c2, c3, c4, c5, c6⟩ := i_mk_at hW k he hn hin hck
        rw [hAV] at c5
        have fin : ∀ {y : g_LE}, x1 = y → ¬ (i_kd t.1 = kd ∧ (((g_ev r (g_sb σ t.2.1)).toNat : Nat) : Int) = g_ev r (i_sw t.1 a q) ∧ (((g_ev r (g_sb σ t.2.2)).toNat : Nat) : Int) = g_ev r (i_sw t.1 q a)) → ∃ r', y_ex S S r r' ∧ y_DD U AT r' S lv stk w ∧ g_sc (s_n S) y = true ∧ i_mk W AV (i_vw (i_up (y_rd w) kd (g_ev r a) (g_ev r q) (g_ev r v))) t.1 (g_ev r (g_sb σ t.2.1)).toNat (g_ev r (g_sb σ t.2.2)).toNat = g_ev r' y := by
          intro y hy hne
          subst hy
          refine ⟨r, y_ex.rf, k, hio, ?_⟩
          rw [i_sw_ev, i_sw_ev] at hne
          rw [c3, i_mk_in hin c5.1 c5.2, ← c3, i_up_sw, if_neg hne]
          exact c2
        split at h
        · split at h
          · rename_i hb
            cases h
            refine fin rfl fun hq => ?_
            rw [hq.1, Nat.beq_refl] at hb
            cases hb
          · cases h
        · split at h
          · rename_i m hm
            split at h
            · rename_i hb
              cases h
              refine fin rfl fun hq => ?_
              have h9 := y_adr_ok h0 hm
              have h10 : n = m := by omega
              rw [h10, Nat.beq_refl] at hb
              cases hb
            · cases h
          · cases h
        · split at h
          · rename_i s2 hck2
            cases h
            refine fin rfl fun hq => ?_
            have h9 := y_ck_ok h0 hF hck2
            rw [g_ev_ac r h0, g_ev_sub] at h9
            omega
          · cases h
        · split at h
          · rename_i s2 hck2
            cases h
            refine fin rfl fun hq => ?_
            have h9 := y_ck_ok h0 hF hck2
            rw [g_ev_ac r h0, g_ev_sub] at h9
            omega
          · cases h
        · split at h
          · rename_i s2 hck2
            cases h
            refine fin rfl fun hq => ?_
            have h9 := y_ck_ok h0 hF hck2
            rw [g_ev_ac r h0, g_ev_sub] at h9
            omega
          · cases h
        · split at h
          · rename_i s2 hck2
            cases h
            refine fin rfl fun hq => ?_
            have h9 := y_ck_ok h0 hF hck2
            rw [g_ev_ac r h0, g_ev_sub] at h9
            omega
          · cases h
      · cases h
    · cases h
end I_VL
/-- that one of the lists holds behind the write: cells are looked at in their order, steps between -/
def i_pw (U : y_WT) (FS : List y_FA) (W : List y_WE) (A : List g_LE) (kd : Nat) (a q v : g_LE) (dj : List (List g_LE)) : Nat → y_S → List g_LE → List y_RC → y_Str → Option y_Str
  | 0, _, _, _, _ => none
  | n + 1, S, σ, ts, s => match s with
    | [] => none
    | it :: s1 => match it with
      | [] => (match ts, s1 with
        | [], [(i, _)] :: s2 => (match dj[i]? with
          | some D => y_cks (s_f S) s2 (D.map (g_sb σ))
          | none => none)
        | _, _ => none)
      | [(12, j)] => (match ts with
        | [] => none
        | t :: l => match i_vl W A kd a q v S σ t j.toNat s1 with
          | none => none
          | some (S', x, s2) => i_pw U FS W A kd a q v dj n S' (σ ++ [x]) l s2)
      | it => match i_pr U FS S it s1 with
        | none => none
        | some (L, s2) => y_alG (fun S' s' => i_pw U FS W A kd a q v dj n (y_nz n S') σ ts s') L s2
section I_PW
variable {U : y_WT} {FS : List y_FA} {n0 : Nat} {W : List y_WE} {lv : e_LV} {stk : List Value} {w : y_W} {kd : Nat} {a q v : g_LE} {dj : List (List g_LE)} {av qv vv : Int} {A : List g_LE} {AV : List Int}
theorem i_pw_ok (hok : i_ok FS n0 = true) (hW : W.all (i_ok1 n0) = true) : ∀ (n : Nat) (S : y_S) (σ : List g_LE) (ts : List y_RC) (s s' : y_Str) (r : Nat → Int), i_pw U FS W A kd a q v dj n S σ ts s = some s' → y_DD U (i_AT FS n0) r S lv stk w → i_od S σ → i_od S A → A.map (g_ev r) = AV → g_sc (s_n S) a = true → g_sc (s_n S) q = true → g_sc (s_n S) v = true → g_ev r a = av → g_ev r q = qv → g_ev r v = vv → i_dj dj (i_vs (i_mk W AV (i_vw (i_up (y_rd w) kd av qv vv))) ts (σ.map (g_ev r)))
  | 0, _, _, _, _, _, _, h, _, _, _, _, _, _, _, _, _, _ => by cases h
  | n + 1, S, σ, ts, s, s', r, h, k, ho, hoA, hAV, sa, sq, sv, ea, eq, ev => by
    have h0 := k.1
    unfold i_pw at h
    split at h
    · cases h
    · rename_i it s1
      split at h
      · split at h
        · rename_i i z s2
          split at h
          · rename_i D hD
            refine ⟨D, List.mem_of_getElem? hD, fun e he => ?_⟩
            show 0 ≤ g_ev (i_r (σ.map (g_ev r))) e
            rw [i_ev_sb h0]
            exact y_cks_ok h0 k.2.2.2.2.1 h _ (List.mem_map.mpr ⟨e, he, rfl⟩)
          · cases h
        · cases h
      · split at h
        · cases h
        · rename_i t l
          split at h
          · cases h
          · rename_i S' x s2 hvl
            obtain ⟨r', x1, x2, x3, x4⟩ := i_vl_ok hAV hW hvl k sv ho
            have up : ∀ {e : g_LE}, g_sc (s_n S) e = true → g_ev r' e = g_ev r e := fun he => g_sc_ev x1.1 he
            have h2 := i_pw_ok hok hW n S' (σ ++ [x]) l s2 s' r' h x2 (i_od_sn (i_od_ex x1 ho) x3) (i_od_ex x1 hoA) ((i_map_ex x1 hoA).trans hAV) (i_sc_mo x1.2 sa) (i_sc_mo x1.2 sq) (i_sc_mo x1.2 sv) ((up sa).trans ea) ((up sq).trans eq) ((up sv).trans ev)
            rw [List.map_append, i_map_ex x1 ho] at h2
            unfold i_vs
            rw [i_ev_sb h0, i_ev_sb h0]
            rw [ea, eq, ev] at x4
            rw [x4]
            exact h2
      · split at h
        · cases h
        · rename_i L s2 hpr
          obtain ⟨S', hS', r', x1, x2⟩ := i_pr_ok hok hpr k
          obtain ⟨s3, s4, hq⟩ := y_alG_ok h S' hS'
          rw [y_nz_eq] at hq
          have up : ∀ {e : g_LE}, g_sc (s_n S) e = true → g_ev r' e = g_ev r e := fun he => g_sc_ev x1.1 he
          have h2 := i_pw_ok hok hW n S' σ ts s3 s4 r' hq x2 (i_od_ex x1 ho) (i_od_ex x1 hoA) ((i_map_ex x1 hoA).trans hAV) (i_sc_mo x1.2 sa) (i_sc_mo x1.2 sq) (i_sc_mo x1.2 sv) ((up sa).trans ea) ((up sq).trans eq) ((up sv).trans ev)
          rw [i_map_ex x1 ho] at h2
          exact h2
end I_PW
end
