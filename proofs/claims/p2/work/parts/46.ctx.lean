/-! PART 46: what methods promise, and what a call comes to -/
noncomputable section
abbrev y_X : Type := Nat × y_S
/-- method, beginning, depth, what may change, the bound of new cells, ends -/
abbrev y_CX : Type := Nat × y_S × g_LE × List y_MI × Option g_LE × List y_X
def c_j (c : y_CX) : Nat := c.1
def c_E (c : y_CX) : y_S := c.2.1
def c_D (c : y_CX) : g_LE := c.2.2.1
def c_M (c : y_CX) : List y_MI := c.2.2.2.1
def c_t (c : y_CX) : Option g_LE := c.2.2.2.2.1
def c_X (c : y_CX) : List y_X := c.2.2.2.2.2
def y_XD (U : y_WT) (AT : Nat → List Int → y_W → Prop) (r : Nat → Int) (x : y_X) (res : Option (Option Value)) (w : y_W) : Prop := match x.1 with
  | 0 => ∃ v, res = some v ∧ y_DD U AT r x.2 [] v.toList w
  | _ => res = none ∧ y_DD U AT r x.2 [] [] w
def y_CT (T : y_TB) (U : y_WT) (AT : Nat → List Int → y_W → Prop) (d : Nat) (c : y_CX) : Prop := ∀ (r : Nat → Int) (w : y_W) (As : List Value), y_DD U AT r (c_E c) [] As w → g_ev r (c_D c) ≤ (d : Int) → ∃ (res : Option (Option Value)) (w' : y_W), y_Run T d (c_j c) As w.1 (res, w'.1) ∧ y_Fr r (c_M c) w w' ∧ ∃ x ∈ c_X c, ∃ r' : Nat → Int, (∀ i, i < s_n (c_E c) → r' i = r i) ∧ y_XD U AT r' x res w'
/-- an end, in the caller's symbols -/
def y_sg2 (σ : List g_LE) (n k : Nat) : List g_LE := σ ++ (List.range k).map fun j => g_s (n + j)
def y_exs (σ : List g_LE) (S : y_S) (ms : List y_ME) (as : List y_AT) (rest : List y_SV) (nE : Nat) (P : y_S) : y_S :=
  (s_n S + (s_n P - nE), s_l S, (s_s P).map (y_sbV (y_sg2 σ (s_n S) (s_n P - nE))) ++ rest, (s_m P).map (y_sbM (y_sg2 σ (s_n S) (s_n P - nE))) ++ ms, y_ra ((s_f P).map (g_sb (y_sg2 σ (s_n S) (s_n P - nE)))) (s_f S), (s_a P).map (y_sbA (y_sg2 σ (s_n S) (s_n P - nE))) ++ as)
/-- a call by a promise: what is behind it, end by end -/
def y_cal2 (fp : Nat → List g_LE → List y_MI) (N : List y_MI) (t0 : Option g_LE) (D : g_LE) (c : y_CX) (S : y_S) (args rest : List y_SV) (s : y_Str) : Option (List y_X × y_Str) := match y_sgm (y_st S args) [] (c_E c) s with
  | none => none
  | some (σ, s1) => match (Nat.beq (σ.length + 1) (s_n (c_E c)) && (s_l (c_E c)).isEmpty) && (y_sc S && (σ.all (y_old S) && ((c_X c).all fun x => y_sc x.2 && Nat.ble (s_n (c_E c)) (s_n x.2)))) with
    | false => none
    | true => match y_mat (y_st S args) σ (c_E c) s1 with
      | none => none
      | some s2 => match y_ck (s_f S) s2 (g_ac (-1) (g_sub D (g_sb σ (c_D c)))) with
        | none => none
        | some s3 => match y_covs (s_f S) N t0 ((c_M c).map (y_sbI σ)) s3 with
          | none => none
          | some s4 => match y_flt (s_f S) ((c_M c).map (y_sbI σ)) (s_m S) s4 with
            | none => none
            | some (ms, s5) => match y_fla fp (s_f S) ((c_M c).map (y_sbI σ)) (s_a S) s5 with
              | none => none
              | some (as, s6) => some ((c_X c).map fun x => (x.1, y_exs σ S ms as rest (s_n (c_E c)) x.2), s6)
section Y_CX
variable {T : y_TB} {U : y_WT} {AT : Nat → List Int → y_W → Prop} {fp : Nat → List g_LE → List y_MI} {r r' : Nat → Int} {S S' P : y_S} {lv : e_LV} {stk : List Value} {w w' : y_W} {s s' : y_Str} {σ : List g_LE} {N : List y_MI} {t0 : Option g_LE} {D : g_LE} {st : e_ST} {KT : Nat → Option (Nat ⊕ Nat)} {LT : Nat → Option Nat}
theorem y_dS_app : ∀ {l m : List y_SV} {vs us : List Value}, y_dS KT LT r st l vs → y_dS KT LT r st m us → y_dS KT LT r st (l ++ m) (vs ++ us)
  | [], _, [], _, _, k => k
  | _ :: _, _, _ :: _, _, h, k => ⟨h.1, y_dS_app h.2 k⟩
  | [], _, _ :: _, _, h, _ => h.elim
  | _ :: _, _, [], _, h, _ => h.elim
theorem y_dS_spl : ∀ {l m : List y_SV} {vs : List Value}, y_dS KT LT r st (l ++ m) vs → ∃ us ts, vs = us ++ ts ∧ y_dS KT LT r st l us ∧ y_dS KT LT r st m ts ∧ us.length = l.length
  | [], _, vs, h => ⟨[], vs, rfl, trivial, h, rfl⟩
  | _ :: l, m, [], h => h.elim
  | _ :: l, m, v :: vs, h => by
    obtain ⟨us, ts, e, h1, h2, h3⟩ := y_dS_spl h.2
    exact ⟨v :: us, ts, by rw [e]; rfl, ⟨h.1, h1⟩, h2, by rw [List.length_cons, List.length_cons, h3]⟩
theorem y_dS_rev : ∀ {l : List y_SV} {vs : List Value}, y_dS KT LT r st l vs → y_dS KT LT r st l.reverse vs.reverse
  | [], [], _ => trivial
  | q :: l, v :: vs, h => by
    rw [List.reverse_cons, List.reverse_cons]
    exact y_dS_app (y_dS_rev h.2) ⟨h.1, trivial⟩
  | [], _ :: _, h => h.elim
  | _ :: _, [], h => h.elim
/-- the caller's symbols: its own, then the end's new ones -/
def y_r2 (r r' : Nat → Int) (n nE : Nat) : Nat → Int := fun i => if i < n then r i else r' (nE + (i - n))
theorem y_r2_rs {n nE k : Nat} (h0 : r 0 = 1) (hn : 0 < n) (hl : σ.length + 1 = nE) (ho : ∀ e ∈ σ, g_sc n e = true) (hr : ∀ i, i < nE → r' i = g_rs r σ i) : ∀ i, i < nE + k → g_rs (y_r2 r r' n nE) (y_sg2 σ n k) i = r' i := by
  intro i hi
  have hz : (y_r2 r r' n nE) 0 = 1 := (if_pos hn).trans h0
  match i with
  | 0 => rw [g_rs_0 hz, hr 0 (by omega), g_rs_0 h0]
  | q + 1 =>
    show g_ev (y_r2 r r' n nE) (g_get (y_sg2 σ n k) q) = r' (q + 1)
    rw [g_get_eq]
    unfold y_sg2
    rw [List.getD_eq_getElem?_getD]
    by_cases hq : q < σ.length
    · rw [List.getElem?_append_left hq, List.getElem?_eq_getElem hq]
      show g_ev (y_r2 r r' n nE) (σ[q]) = r' (q + 1)
      rw [hr (q + 1) (by omega), g_sc_ev (r' := y_r2 r r' n nE) (r := r) (fun j hj => if_pos hj) (ho _ (List.getElem_mem hq))]
      show g_ev r (σ[q]) = g_ev r (g_get σ q)
      rw [g_get_eq, List.getD_eq_getElem?_getD, List.getElem?_eq_getElem hq]
      rfl
    · rw [List.getElem?_append_right (by omega), List.getElem?_map, List.getElem?_range (by omega)]
      show g_ev (y_r2 r r' n nE) (g_s (n + (q - σ.length))) = r' (q + 1)
      rw [g_ev_s]
      show (if n + (q - σ.length) < n then _ else r' (nE + (n + (q - σ.length) - n))) = r' (q + 1)
      rw [if_neg (by omega)]
      congr 1
      omega
/-- values and entries in the caller's symbols -/
theorem y_sbV_ok {n : Nat} {q : y_SV} {v : Value} {r2 : Nat → Int} (h : ∀ i, i < n → g_rs r2 σ i = r' i) (hs : g_sc n q.2 = true) (k : y_dV KT LT r' st q v) : y_dV KT LT r2 st (y_sbV σ q) v := by
  obtain ⟨t, e⟩ := q
  have he : g_ev r2 (g_sb σ e) = g_ev r' e := by rw [g_ev_sb]; exact g_sc_ev h hs
  match t with
  | 0 => obtain ⟨x, h1, h2⟩ := k; exact ⟨x, h1, h2.trans he.symm⟩
  | 1 => obtain ⟨x, h1, h2⟩ := k; exact (show y_dV KT LT r2 st (1, g_sb σ e) v from ⟨x, h1, h2.trans he.symm⟩)
  | t + 2 => obtain ⟨o, h1, h2, h3⟩ := k; exact (show y_dV KT LT r2 st (t + 2, g_sb σ e) v from ⟨o, h1, h2.trans he.symm, h3⟩)
theorem y_sbS_ok {n : Nat} {r2 : Nat → Int} (h : ∀ i, i < n → g_rs r2 σ i = r' i) : ∀ {l : List y_SV} {vs : List Value}, l.all (fun q => g_sc n q.2) = true → y_dS KT LT r' st l vs → y_dS KT LT r2 st (l.map (y_sbV σ)) vs
  | [], [], _, _ => trivial
  | q :: l, v :: vs, hs, k => by
    rw [List.all_cons, Bool.and_eq_true] at hs
    exact ⟨y_sbV_ok h hs.1 k.1, y_sbS_ok h hs.2 k.2⟩
  | [], _ :: _, _, k => k.elim
  | _ :: _, [], _, k => k.elim
theorem y_sbM_ok {n : Nat} {m : y_ME} {r2 : Nat → Int} (h : ∀ i, i < n → g_rs r2 σ i = r' i) (hs : y_scM n m = true) (k : y_dM r' w m) : y_dM r2 w (y_sbM σ m) := by
  rw [y_scM_def] at hs
  rw [Bool.and_eq_true, Bool.and_eq_true] at hs
  obtain ⟨kd, a, b, v⟩ := m
  have ea : g_ev r2 (g_sb σ a) = g_ev r' a := by rw [g_ev_sb]; exact g_sc_ev h hs.1
  have eb : g_ev r2 (g_sb σ b) = g_ev r' b := by rw [g_ev_sb]; exact g_sc_ev h hs.2.1
  have ev : g_ev r2 (g_sb σ v) = g_ev r' v := by rw [g_ev_sb]; exact g_sc_ev h hs.2.2
  unfold y_dM at k ⊢
  unfold y_sbM
  dsimp only at k ⊢
  rw [ea, eb, ev]
  exact k
theorem y_exs_ok {ms : List y_ME} {as : List y_AT} {rest : List y_SV} {nE : Nat} {vs us : List Value} (hsc : y_sc S = true) (hl : σ.length + 1 = nE) (ho : ∀ e ∈ σ, g_sc (s_n S) e = true) (hP : y_sc P = true) (hnP : nE ≤ s_n P) (kS : y_DD U AT r (s_n S, s_l S, rest, ms, s_f S, as) lv us w') (hscm : ∀ m ∈ ms, y_scM (s_n S) m = true) (hsca : ∀ a ∈ as, ∀ e ∈ a.2, g_sc (s_n S) e = true) (hscr : rest.all (fun q => g_sc (s_n S) q.2) = true) (hr : ∀ i, i < nE → r' i = g_rs r σ i) (kP : y_DD U AT r' P [] vs w') : ∃ r2, y_ex S (y_exs σ S ms as rest nE P) r r2 ∧ y_DD U AT r2 (y_exs σ S ms as rest nE P) lv (vs ++ us) w' := by
  obtain ⟨g0, g1, g2, g3, g4, g5⟩ := y_sc_s hsc
  obtain ⟨p0, p1, p2, p3, p4, p5⟩ := y_sc_s hP
  obtain ⟨k0, k1, k2, k3, k4, k5, k6⟩ := kS
  obtain ⟨q0, q1, q2, q3, q4, q5, q6⟩ := kP
  have hrs : ∀ i, i < s_n P → g_rs (y_r2 r r' (s_n S) nE) (y_sg2 σ (s_n S) (s_n P - nE)) i = r' i := by
    intro i hi
    exact y_r2_rs k0 g0 hl ho hr i (by omega)
  have hup : ∀ i, i < s_n S → y_r2 r r' (s_n S) nE i = r i := fun i hi => if_pos hi
  refine ⟨y_r2 r r' (s_n S) nE, ⟨hup, Nat.le_add_right _ _⟩, (hup 0 g0).trans k0, fun q hq => ?_, y_dS_app (y_sbS_ok hrs p2 q2) (y_dS_up hup hscr k2), fun m hm => ?_, fun f hf => ?_, fun a ha => ?_, k6⟩
  · obtain ⟨v, e1, e2⟩ := k1 q hq
    exact ⟨v, e1, y_dV_up hup (g1 q hq) e2⟩
  · rcases List.mem_append.mp hm with hm | hm
    · obtain ⟨m', hm', rfl⟩ := List.mem_map.mp hm
      exact y_sbM_ok hrs (p3 m' hm') (q3 m' hm')
    · exact y_dM_up hup (hscm m hm) (k3 m hm)
  · rcases y_ra_m hf with hf | hf
    · obtain ⟨f', hf', rfl⟩ := List.mem_map.mp hf
      rw [g_ev_sb, g_sc_ev hrs (p4 f' hf')]
      exact q4 f' hf'
    · rw [g_sc_ev hup (g4 f hf)]
      exact k4 f hf
  · rcases List.mem_append.mp ha with ha | ha
    · obtain ⟨a', ha', rfl⟩ := List.mem_map.mp ha
      have h9 : (y_sbA (y_sg2 σ (s_n S) (s_n P - nE)) a').2.map (g_ev (y_r2 r r' (s_n S) nE)) = a'.2.map (g_ev r') := by
        unfold y_sbA
        rw [List.map_map]
        refine List.map_congr_left fun e he => ?_
        show g_ev _ (g_sb _ e) = _
        rw [g_ev_sb, g_sc_ev hrs (p5 a' ha' e he)]
      rw [h9]
      exact q5 a' ha'
    · have h9 : a.2.map (g_ev (y_r2 r r' (s_n S) nE)) = a.2.map (g_ev r) := List.map_congr_left fun e he => g_sc_ev hup (hsca a ha e he)
      rw [h9]
      exact k5 a ha
theorem y_flt_sub {F : List g_LE} {M : List y_MI} : ∀ {ms ms' : List y_ME} {s s' : y_Str}, y_flt F M ms s = some (ms', s') → ∀ m ∈ ms', m ∈ ms
  | [], ms', s, s', h, m, hm => by cases h; cases hm
  | e :: l, ms', s, s', h, m, hm => by
    unfold y_flt at h
    split at h
    · split at h
      · rename_i hq
        cases h
        rcases List.mem_cons.mp hm with hm | hm
        · rw [hm]; exact List.mem_cons_self
        · exact List.mem_cons_of_mem _ (y_flt_sub hq m hm)
      · cases h
    · split at h
      · cases h
      · split at h
        · cases h
        · rename_i hq
          split at h
          · cases h
            rcases List.mem_cons.mp hm with hm | hm
            · rw [hm]; exact List.mem_cons_self
            · exact List.mem_cons_of_mem _ (y_flt_sub hq m hm)
          · cases h
            exact List.mem_cons_of_mem _ (y_flt_sub hq m hm)
theorem y_fla_sub {F : List g_LE} {M : List y_MI} : ∀ {L L' : List y_AT} {s s' : y_Str}, y_fla fp F M L s = some (L', s') → ∀ a ∈ L', a ∈ L
  | [], L', s, s', h, m, hm => by cases h; cases hm
  | e :: l, L', s, s', h, m, hm => by
    unfold y_fla at h
    split at h
    · cases h
    · split at h
      · cases h
      · rename_i hq
        split at h
        · cases h
          rcases List.mem_cons.mp hm with hm | hm
          · rw [hm]; exact List.mem_cons_self
          · exact List.mem_cons_of_mem _ (y_fla_sub hq m hm)
        · cases h
          exact List.mem_cons_of_mem _ (y_fla_sub hq m hm)
/-- a call is done -/
theorem y_cal2_ok (hA : y_AO AT fp) {c : y_CX} {args rest : List y_SV} {Bs : List y_X} {us ts : List Value} {d : Nat} (h : y_cal2 fp N t0 D c S args rest s = some (Bs, s')) (hct : y_CT T U AT d c) (hd : g_ev r D ≤ (d : Int) + 1) (k : y_DD U AT r S lv stk w) (hargs : y_dS (w_KT U) (w_LT U) r w.1 args us) (hrest : y_dS (w_KT U) (w_LT U) r w.1 rest ts) (hsub : rest.all (fun q => g_sc (s_n S) q.2) = true) : ∃ (res : Option (Option Value)) (w' : y_W), y_Run T d (c_j c) us w.1 (res, w'.1) ∧ (∃ Mi, y_Fr r Mi w w' ∧ ∀ m ∈ Mi, ∀ {kd a k : Nat}, y_cvr r m kd a k → (∃ n ∈ N, y_cvr r n kd a k) ∨ (kd < 4 ∧ ∃ t, t0 = some t ∧ g_ev r t ≤ (a : Int))) ∧ ∃ x ∈ Bs, ∃ r2, y_ex S x.2 r r2 ∧ match x.1 with
    | 0 => ∃ v, res = some v ∧ y_DD U AT r2 x.2 lv (v.toList ++ ts) w'
    | _ => res = none ∧ y_DD U AT r2 x.2 lv ts w' := by
  have h0 := k.1
  unfold y_cal2 at h
  split at h
  · cases h
  · rename_i σ s1 hsg
    split at h
    · cases h
    · rename_i hchk
      rw [Bool.and_eq_true, Bool.and_eq_true, Bool.and_eq_true, Bool.and_eq_true] at hchk
      obtain ⟨⟨c1, c5⟩, c2, c3, c4⟩ := hchk
      have c1 := Nat.eq_of_beq_eq_true c1
      have c5 := List.isEmpty_iff.mp c5
      have c3 : ∀ e ∈ σ, g_sc (s_n S) e = true := List.all_eq_true.mp c3
      split at h
      · cases h
      · rename_i s2 hmat
        split at h
        · cases h
        · rename_i s3 hdep
          split at h
          · cases h
          · rename_i s4 hcov
            split at h
            · cases h
            · rename_i ms s5 hms
              split at h
              · cases h
              · rename_i as s6 has
                cases h
                have kE := y_mat_ok hmat (y_D_st k hargs)
                have hdd := y_ck_ok h0 k.2.2.2.2.1 hdep
                rw [g_ev_ac r h0, g_ev_sub, g_ev_sb] at hdd
                have kE2 : y_DD U AT (g_rs r σ) (c_E c) lv us w := kE
                have kE3 : y_DD U AT (g_rs r σ) (c_E c) [] us w := by
                  obtain ⟨e0, -, e2, e3, e4, e5, e6⟩ := kE2
                  refine ⟨e0, ?_, e2, e3, e4, e5, e6⟩
                  rw [c5]
                  intro q hq
                  cases hq
                obtain ⟨res, w', hrun, hfr, x, hx, r', hr', hXD⟩ := hct (g_rs r σ) w us kE3 (by omega)
                have hfr2 := y_Fr_sb hfr
                have hxs := List.all_eq_true.mp c4 x hx
                rw [Bool.and_eq_true] at hxs
                have hle := Nat.le_of_ble_eq_true hxs.2
                obtain ⟨g0, g1, g2, g3, g4, g5⟩ := y_sc_s c2
                refine ⟨res, w', hrun, ⟨_, hfr2, fun m hm _ _ _ hc => y_covs_ok h0 k.2.2.2.2.1 hcov m hm hc⟩, _, List.mem_map_of_mem hx, ?_⟩
                have hfin : ∀ vs : List Value, y_DD U AT r' x.2 [] vs w' → ∃ r2, y_ex S (y_exs σ S ms as rest (s_n (c_E c)) x.2) r r2 ∧ y_DD U AT r2 (y_exs σ S ms as rest (s_n (c_E c)) x.2) lv (vs ++ ts) w' := by
                  intro vs hvs
                  have hI' : y_IV U w' := hvs.2.2.2.2.2.2
                  have k2 := y_chg hA k hfr2 hI' hms has
                  have k3 := y_D_st k2 (y_dS_ch hfr2.2.1 hrest)
                  exact y_exs_ok c2 c1 c3 hxs.1 hle k3 (fun m hm => g3 m (y_flt_sub hms m hm)) (fun a ha => g5 a (y_fla_sub has a ha)) hsub hr' hvs
                obtain ⟨kx, P⟩ := x
                unfold y_XD at hXD
                dsimp only at hXD hfin ⊢
                split at hXD
                · obtain ⟨v, hv, hvD⟩ := hXD
                  obtain ⟨r2, f1, f2⟩ := hfin _ hvD
                  exact ⟨r2, f1, v, hv, f2⟩
                · obtain ⟨hv, hvD⟩ := hXD
                  obtain ⟨r2, f1, f2⟩ := hfin _ hvD
                  exact ⟨r2, f1, hv, f2⟩
end Y_CX
end
