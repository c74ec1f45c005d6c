/-! PART 59: all rules, and that they are sound -/
noncomputable section
/-- whether a relation doesn't look there -/
def i_of1 (kd : Nat) (a q : g_LE) (t : y_RC) : Bool := match Nat.beq (i_kd t.1) kd with
  | false => true
  | true => match y_adr t.2.1, y_adr (i_sw t.1 a q) with
    | some n, some m => !Nat.beq n m
    | _, _ => false
def i_pws (U : y_WT) (FS : List y_FA) (W : List y_WE) (AF : List g_LE) (kd : Nat) (a q v : g_LE) (S1 : y_S) (σ0 : List g_LE) : List y_RR → y_Str → Option y_Str
  | [], s => some s
  | R :: l, s => match R.1.all (i_of1 kd a q) with
    | true => i_pws U FS W AF kd a q v S1 σ0 l s
    | false => match i_pw U FS W AF kd a q v R.2 100000 S1 σ0 R.1 s with
      | some s1 => i_pws U FS W AF kd a q v S1 σ0 l s1
      | none => none
def y_aa (S : y_S) (a : y_AT) : y_S := (s_n S, s_l S, s_s S, s_m S, s_f S, a :: s_a S)
/-- two new numbers -/
def i_n2 (S : y_S) : y_S := y_nw (y_nw S []) []
/-- before a write -/
def i_g4 (U : y_WT) (FS : List y_FA) (S : y_S) (i kd : Nat) (s : y_Str) : Option (List y_S × y_Str) := match (s_a S)[i]?, s with
  | some t, a :: q :: v :: s1 => (match FS[t.1 / 16]?, Nat.beq (t.1 % 16) 15 with
    | some F, true => (match (Nat.blt kd 15 && (y_sc S && y_sc (y_nw S []))) && ((y_old S a && (y_old S q && y_old S v)) && t.2.all (y_old S)) with
      | true => (match i_pws U FS F.1 t.2 kd a q v (i_n2 S) (g_s (s_n S) :: g_s (s_n S + 1) :: t.2) F.2 s1 with
        | some s2 => some ([y_aa S (16 * (t.1 / 16) + kd, a :: q :: v :: t.2)], s2)
        | none => none)
      | false => none)
    | _, _ => none)
  | _, _ => none
/-- behind it -/
def i_g5 (S : y_S) (i : Nat) (s : y_Str) : Option (List y_S × y_Str) := match (s_a S)[i]? with
  | some (id, a :: q :: v :: A) => (match Nat.blt (id % 16) 15 && !Nat.beq (id % 16) 7, y_ent (s_m S) (id % 16) a q with
    | true, some x => (match g_eq x v with
      | true => some ([y_aa S (16 * (id / 16) + 15, A)], s)
      | false => none)
    | _, _ => none)
  | _ => none
/-- a fact that is shown by cases: only it is kept -/
def i_lm (U : y_WT) (FS : List y_FA) (e : g_LE) : Nat → y_S → y_Str → Option y_Str
  | 0, _, _ => none
  | n + 1, S, s => match s with
    | [] => none
    | it :: s1 => match it with
      | [] => y_ck (s_f S) s1 e
      | it => match i_pr U FS S it s1 with
        | none => none
        | some (L, s2) => y_alG (fun S' s' => i_lm U FS e n (y_nz n S') s') L s2
def i_g6 (U : y_WT) (FS : List y_FA) (S : y_S) (s : y_Str) : Option (List y_S × y_Str) := match s with
  | e :: s1 => (match y_old S e, i_lm U FS e 100000 S s1 with
    | true, some s2 => some ([y_af S [e]], s2)
    | _, _ => none)
  | _ => none
def i_R2 (U : y_WT) (FS : List y_FA) (fp : Nat → List g_LE → List y_MI) : y_R2 := fun c id S as s => match id, as with
  | 0, [(kd, A)] => i_g0 U S kd A.toNat s
  | 1, [(i, j)] => i_g1 FS S i j.toNat s
  | 2, [(i, j)] => i_g2 S i j.toNat s
  | 3, [(A, _)] => i_g3 fp c S A s
  | 4, [(i, kd)] => i_g4 U FS S i kd.toNat s
  | 5, [(i, _)] => i_g5 S i s
  | 6, [] => i_g6 U FS S s
  | _, _ => none
section I_RU
variable {U : y_WT} {FS : List y_FA} {n0 : Nat} {fp : Nat → List g_LE → List y_MI} {AT : Nat → List Int → y_W → Prop} {W : List y_WE} {r : Nat → Int} {S S' : y_S} {lv : e_LV} {stk : List Value} {w : y_W} {s s' : y_Str} {L : List y_S}
theorem i_vs_of {kd : Nat} {a q : g_LE} {r : Nat → Int} (h0 : r 0 = 1) {v : Int} {AV : List Int} {ρ : y_RHO} : ∀ {l : List y_RC} {V : List Int}, l.all (i_of1 kd a q) = true → i_vs (i_mk W AV (i_vw (i_up ρ kd (g_ev r a) (g_ev r q) v))) l V = i_vs (i_mk W AV (i_vw ρ)) l V
  | [], V, _ => rfl
  | t :: l, V, h => by
    rw [List.all_cons, Bool.and_eq_true] at h
    unfold i_vs
    have h1 : i_mk W AV (i_vw (i_up ρ kd (g_ev r a) (g_ev r q) v)) t.1 (g_ev (i_r V) t.2.1).toNat (g_ev (i_r V) t.2.2).toNat = i_mk W AV (i_vw ρ) t.1 (g_ev (i_r V) t.2.1).toNat (g_ev (i_r V) t.2.2).toNat := by
      unfold i_mk
      split
      · rw [i_up_sw, if_neg]
        rintro ⟨e1, e2, -⟩
        have h2 := h.1
        unfold i_of1 at h2
        rw [e1, Nat.beq_refl] at h2
        dsimp only at h2
        split at h2
        · rename_i n m hn hm
          have h3 := y_adr_ok (r := i_r V) rfl hn
          have h4 := y_adr_ok h0 hm
          rw [← i_sw_ev] at e2
          have h5 : n = m := by omega
          rw [h5, Nat.beq_refl] at h2
          cases h2
        · cases h2
      · rfl
    rw [h1]
    exact i_vs_of h0 h.2
theorem y_D_aa {a : y_AT} (k : y_DD U AT r S lv stk w) (h : AT a.1 (a.2.map (g_ev r)) w) : y_DD U AT r (y_aa S a) lv stk w := by
  obtain ⟨k0, k1, k2, k3, k4, k5, k6⟩ := k
  refine ⟨k0, k1, k2, k3, k4, fun q hq => ?_, k6⟩
  rcases List.mem_cons.mp hq with hq | hq
  · rw [hq]; exact h
  · exact k5 q hq
theorem i_n2_ok (hs : y_sc S = true) (hs2 : y_sc (y_nw S []) = true) (k : y_DD U AT r S lv stk w) (κ μ : Int) : ∃ r1, y_ex S (i_n2 S) r r1 ∧ y_DD U AT r1 (i_n2 S) lv stk w ∧ r1 (s_n S) = κ ∧ r1 (s_n S + 1) = μ := by
  have k1 := y_D_nw (L := []) hs k κ (fun f hf => by cases hf)
  have k2 := y_D_nw (L := []) hs2 k1 μ (fun f hf => by cases hf)
  have x1 : y_ex S (y_nw S []) r (y_nv r (s_n S) κ) := ⟨fun i hi => y_nv_lt hi, Nat.le_succ _⟩
  have x2 : y_ex (y_nw S []) (i_n2 S) (y_nv r (s_n S) κ) (y_nv (y_nv r (s_n S) κ) (s_n S + 1) μ) := ⟨fun i hi => y_nv_lt hi, Nat.le_succ _⟩
  exact ⟨_, x1.tr x2, k2, (y_nv_lt (Nat.lt_succ_self _)).trans y_nv_at, y_nv_at⟩
theorem i_pws_ok {AF : List g_LE} {AV : List Int} (hok : i_ok FS n0 = true) (hW : W.all (i_ok1 n0) = true) {kd : Nat} {a q v : g_LE} {A : List Int} {S1 : y_S} {σ0 : List g_LE} (hs : i_od S1 σ0) (sa : g_sc (s_n S1) a = true) (sq : g_sc (s_n S1) q = true) (sv : g_sc (s_n S1) v = true) (κ : Int) {r1 : Nat → Int} (hr : σ0.map (g_ev r1) = κ :: A) (k : y_DD U (i_AT FS n0) r1 S1 lv stk w) (hoA : i_od S1 AF) (hAV : AF.map (g_ev r1) = AV) : ∀ {l : List y_RR} {s s' : y_Str}, i_pws U FS W AF kd a q v S1 σ0 l s = some s' → (∀ R ∈ l, i_at (i_mk W AV (i_vw (y_rd w))) R (κ :: A)) → ∀ R ∈ l, i_at (i_mk W AV (i_vw (i_up (y_rd w) kd (g_ev r1 a) (g_ev r1 q) (g_ev r1 v)))) R (κ :: A)
  | [], _, _, _, _, R, hR => by cases hR
  | R0 :: l, s, s', h, hold, R, hR => by
    unfold i_pws at h
    split at h
    · rename_i hof
      rcases List.mem_cons.mp hR with hR | hR
      · rw [hR]
        have h1 := hold R0 List.mem_cons_self
        unfold i_at at h1 ⊢
        rw [i_vs_of k.1 hof]
        exact h1
      · exact i_pws_ok hok hW hs sa sq sv κ hr k hoA hAV h (fun R hR => hold R (List.mem_cons_of_mem _ hR)) R hR
    · split at h
      · rename_i s1 hpw
        rcases List.mem_cons.mp hR with hR | hR
        · rw [hR]
          have h1 := i_pw_ok hok hW _ _ _ _ _ _ _ hpw k hs hoA hAV sa sq sv rfl rfl rfl
          rw [hr] at h1
          exact h1
        · exact i_pws_ok hok hW hs sa sq sv κ hr k hoA hAV h (fun R hR => hold R (List.mem_cons_of_mem _ hR)) R hR
      · cases h
theorem i_g4_ok (hok : i_ok FS n0 = true) {i kd : Nat} (h : i_g4 U FS S i kd s = some (L, s')) (k : y_DD U (i_AT FS n0) r S lv stk w) : y_GP U (i_AT FS n0) r S lv stk w L := by
  have h0 := k.1
  unfold i_g4 at h
  split at h
  · rename_i t a q v s1 ht
    split at h
    · rename_i F hF hb
      split at h
      · rename_i hc
        split at h
        · rename_i s2 hpws
          cases h
          rw [Bool.and_eq_true, Bool.and_eq_true, Bool.and_eq_true, Bool.and_eq_true, Bool.and_eq_true] at hc
          rw [Bool.and_eq_true] at hc
          obtain ⟨⟨hkd, hs, hs2⟩, ⟨oa, oq, ov⟩, ot⟩ := hc
          have hkd := Nat.blt_eq.mp hkd
          have hat := k.2.2.2.2.2.1 t (List.mem_of_getElem? ht)
          have hW := List.all_eq_true.mp hok F (List.mem_of_getElem? hF)
          have hn : 0 < s_n S := (y_sc_s hs).1
          refine ⟨_, List.mem_singleton.mpr rfl, r, y_ex.rf, y_D_aa k ?_⟩
          unfold i_AT at hat ⊢
          refine ⟨hat.1, ?_⟩
          have e1 : (16 * (t.1 / 16) + kd) / 16 = t.1 / 16 := by omega
          have e2 : (16 * (t.1 / 16) + kd) % 16 = kd := by omega
          have hat := hat.2
          rw [hF, hb] at hat
          dsimp only at hat ⊢
          rw [e1, e2, hF]
          have e3 : Nat.beq kd 15 = false := by
            cases hq : Nat.beq kd 15 with
            | false => rfl
            | true => exact absurd (Nat.eq_of_beq_eq_true hq) (by omega)
          rw [e3]
          dsimp only [List.map]
          refine ⟨hat.1, ?_⟩
          intro R hR κ μ
          obtain ⟨r1, hx, hD, hκ, hμ⟩ := i_n2_ok hs hs2 k κ μ
          have hot : i_od S t.2 := fun e he => List.all_eq_true.mp ot e he
          have up : ∀ {e : g_LE}, g_sc (s_n S) e = true → g_ev r1 e = g_ev r e := fun he => g_sc_ev hx.1 he
          rw [← up oa, ← up oq, ← up ov]
          refine i_pws_ok hok hW (S1 := i_n2 S) (fun e he => ?_) (i_sc_mo hx.2 oa) (i_sc_mo hx.2 oq) (i_sc_mo hx.2 ov) κ (A := μ :: t.2.map (g_ev r)) ?_ hD (i_od_ex hx hot) (i_map_ex hx hot) hpws (fun R hR => hat.2 R hR κ μ) R hR
          · rcases List.mem_cons.mp he with he | he
            · rw [he]
              exact i_sc_s (Nat.lt_succ_of_lt (Nat.lt_succ_self _))
            rcases List.mem_cons.mp he with he | he
            · rw [he]
              exact i_sc_s (Nat.lt_succ_self _)
            · exact i_od_ex hx hot e he
          · rw [List.map_cons, List.map_cons, i_map_ex hx hot, g_ev_s, g_ev_s, hκ, hμ]
        · cases h
      · cases h
    · cases h
  · cases h
theorem i_g5_ok {i : Nat} (h : i_g5 S i s = some (L, s')) (k : y_DD U (i_AT FS n0) r S lv stk w) : y_GP U (i_AT FS n0) r S lv stk w L := by
  have h0 := k.1
  unfold i_g5 at h
  split at h
  · rename_i id a q v A ht
    split at h
    · rename_i x hb he
      split at h
      · rename_i hx
        cases h
        rw [Bool.and_eq_true] at hb
        have h15 := Nat.blt_eq.mp hb.1
        have hat := k.2.2.2.2.2.1 _ (List.mem_of_getElem? ht)
        have h7 : id % 16 ≠ 7 := fun e => by
          have h9 := hb.2
          rw [e] at h9
          exact absurd h9 (by decide)
        obtain ⟨c1, -, c2, c3⟩ := y_ent_ok k.2.2.2.1 h7 he
        rw [g_eq_ok hx] at c1
        refine ⟨_, List.mem_singleton.mpr rfl, r, y_ex.rf, y_D_aa k ?_⟩
        unfold i_AT at hat ⊢
        refine ⟨hat.1, ?_⟩
        have hat := hat.2
        dsimp only at hat ⊢
        have e1 : (16 * (id / 16) + 15) / 16 = id / 16 := by omega
        have e2 : (16 * (id / 16) + 15) % 16 = 15 := by omega
        rw [e1, e2]
        split at hat
        · exact hat.elim
        · rename_i F hF
          dsimp only [List.map] at hat ⊢
          have e3 : Nat.beq (id % 16) 15 = false := by
            cases hq : Nat.beq (id % 16) 15 with
            | false => rfl
            | true => exact absurd (Nat.eq_of_beq_eq_true hq) (by omega)
          rw [e3] at hat
          dsimp only at hat
          have e4 : i_up (y_rd w) (id % 16) (g_ev r a) (g_ev r q) (g_ev r v) = y_rd w := by
            funext kd' a' k'
            unfold i_up
            split
            · rename_i hq
              obtain ⟨q1, q2, q3⟩ := hq
              have p1 : a' = (g_ev r a).toNat := by omega
              have p2 : k' = (g_ev r q).toNat := by omega
              rw [q1, p1, p2]
              exact c1.symm
            · rfl
          rw [e4] at hat
          exact hat
      · cases h
    · cases h
  · cases h
theorem i_lm_ok (hok : i_ok FS n0 = true) {e : g_LE} {x : Int} : ∀ (n : Nat) (S : y_S) (s s' : y_Str) (r : Nat → Int), i_lm U FS e n S s = some s' → y_DD U (i_AT FS n0) r S lv stk w → g_sc (s_n S) e = true → g_ev r e = x → 0 ≤ x
  | 0, _, _, _, _, h, _, _, _ => by cases h
  | n + 1, S, s, s', r, h, k, he, hx => by
    unfold i_lm at h
    split at h
    · cases h
    · rename_i it s1
      split at h
      · rw [← hx]
        exact y_ck_ok k.1 k.2.2.2.2.1 h
      · split at h
        · cases h
        · rename_i L s2 hpr
          obtain ⟨S', hS', r', x1, x2⟩ := i_pr_ok hok hpr k
          obtain ⟨s3, s4, hq⟩ := y_alG_ok h S' hS'
          rw [y_nz_eq] at hq
          exact i_lm_ok hok n S' s3 s4 r' hq x2 (i_sc_mo x1.2 he) ((g_sc_ev x1.1 he).trans hx)
theorem i_g6_ok (hok : i_ok FS n0 = true) (h : i_g6 U FS S s = some (L, s')) (k : y_DD U (i_AT FS n0) r S lv stk w) : y_GP U (i_AT FS n0) r S lv stk w L := by
  unfold i_g6 at h
  split at h
  · rename_i e s1
    split at h
    · rename_i s2 ho hl
      cases h
      refine ⟨_, List.mem_singleton.mpr rfl, r, y_ex.rf, y_D_f k fun f hf => ?_⟩
      rw [List.mem_singleton.mp hf]
      exact i_lm_ok hok _ S s1 _ r hl k ho rfl
    · cases h
  · cases h
theorem i_R2_ok (hok : i_ok FS n0 = true) : y_RO2 U (i_AT FS n0) (i_R2 U FS (i_fp FS)) := by
  intro c id S it s s' L r lv stk w h k
  unfold i_R2 at h
  split at h
  · exact y_GP2.of (i_g0_ok h k)
  · exact y_GP2.of (i_g1_ok hok h k)
  · exact y_GP2.of (i_g2_ok h k)
  · exact i_g3_ok (i_AO hok) h k
  · exact y_GP2.of (i_g4_ok hok h k)
  · exact y_GP2.of (i_g5_ok h k)
  · exact y_GP2.of (i_g6_ok hok h k)
  · cases h
end I_RU
end
