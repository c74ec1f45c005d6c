/-! PART 38: atoms and what they depend on; a state that has changed -/
noncomputable section
/-- two items have no place in common: [] they may; else by which of four -/
def y_dsk (F : List g_LE) (m n : y_MI) (s : y_Str) : Option (Bool × y_Str) := match s with
  | [] :: s1 => some (false, s1)
  | [(j, _)] :: s1 => (match y_ck F s1 (match j, m.2.2.2, n.2.2.2 with
    | 0, _, _ => g_ac (-1) (g_sub m.2.1 n.2.2.1)
    | 1, _, _ => g_ac (-1) (g_sub n.2.1 m.2.2.1)
    | 2, some p, some q => g_ac (-1) (g_sub p.1 q.2)
    | _, some p, some q => g_ac (-1) (g_sub q.1 p.2)
    | _, _, _ => g_c (-1)) with
    | some s2 => some (true, s2)
    | none => none)
  | _ => none
def y_dis (F : List g_LE) (m n : y_MI) (s : y_Str) : Option (Bool × y_Str) := match Nat.beq m.1 n.1 with
  | false => some (true, s)
  | true => match Nat.beq m.1 4 || Nat.beq m.1 5 with
    | true => some (false, s)
    | false => match g_dk m.2.1 n.2.2.1, g_dk n.2.1 m.2.2.1 with
      | some c1, some c2 => (match y_pos c1 || y_pos c2 with
        | true => some (true, s)
        | false => match m.2.2.2, n.2.2.2 with
          | some _, some _ => y_dsk F m n s
          | _, _ => some (false, s))
      | _, _ => y_dsk F m n s
def y_diss (F : List g_LE) (m : y_MI) : List y_MI → y_Str → Option (Bool × y_Str)
  | [], s => some (true, s)
  | n :: l, s => match y_dis F m n s with
    | none => none
    | some (false, s1) => some (false, s1)
    | some (true, s1) => y_diss F m l s1
def y_disl0 (F : List g_LE) (M : List y_MI) : List y_MI → y_Str → Option (Bool × y_Str)
  | [], s => some (true, s)
  | m :: l, s => match y_diss F m M s with
    | none => none
    | some (false, s1) => some (false, s1)
    | some (true, s1) => y_disl0 F M l s1
def y_disl (F : List g_LE) (M : List y_MI) (L : List y_MI) (s : y_Str) : Option (Bool × y_Str) := @Bool.rec (fun _ => Option (Bool × y_Str)) (y_disl0 F M L s) (some (true, s)) (y_mdj (y_msk M) (y_msk L))
def y_fla (fp : Nat → List g_LE → List y_MI) (F : List g_LE) (M : List y_MI) : List y_AT → y_Str → Option (List y_AT × y_Str)
  | [], s => some ([], s)
  | a :: l, s => match y_disl F M (fp a.1 a.2) s with
    | none => none
    | some (b, s1) => match y_fla fp F M l s1 with
      | none => none
      | some (l', s2) => match b with
        | true => some (a :: l', s2)
        | false => some (l', s2)
/-- an atom depends on its places alone -/
def y_AO (AT : Nat → List Int → y_W → Prop) (fp : Nat → List g_LE → List y_MI) : Prop := ∀ (r : Nat → Int) (id : Nat) (args : List g_LE) (M : List y_MI) (w w' : y_W), r 0 = 1 → y_Fr r M w w' → (∀ m ∈ fp id args, ∀ n ∈ M, ∀ kd a k, y_cvr r m kd a k → ¬ y_cvr r n kd a k) → AT id (args.map (g_ev r)) w → AT id (args.map (g_ev r)) w'
section Y_CH
variable {U : y_WT} {AT : Nat → List Int → y_W → Prop} {fp : Nat → List g_LE → List y_MI} {r r' : Nat → Int} {S S' : y_S} {lv : e_LV} {stk : List Value} {w w' : y_W} {s s' : y_Str} {F : List g_LE} {M : List y_MI}
theorem y_dsk_ok (h0 : r 0 = 1) (hF : g_FF r F) {m n : y_MI} (hm : m.1 ≠ 4 ∧ m.1 ≠ 5) (h : y_dsk F m n s = some (true, s')) {kd a k : Nat} (h1 : y_cvr r m kd a k) : ¬ y_cvr r n kd a k := by
  intro h2
  unfold y_dsk at h
  split at h
  · cases h
  · rename_i j x s1
    split at h
    · rename_i s2 hq
      have hc := y_ck_ok h0 hF hq
      obtain ⟨e1, h1⟩ := h1
      obtain ⟨e2, h2⟩ := h2
      have a1 : g_ev r m.2.1 ≤ (a : Int) ∧ (a : Int) ≤ g_ev r m.2.2.1 ∧ ∀ q, m.2.2.2 = some q → g_ev r q.1 ≤ (k : Int) ∧ (k : Int) ≤ g_ev r q.2 := by
        rcases h1 with h1 | h1 | h1
        · exact absurd (e1.trans h1) hm.1
        · exact absurd (e1.trans h1) hm.2
        · exact h1
      have a2 : g_ev r n.2.1 ≤ (a : Int) ∧ (a : Int) ≤ g_ev r n.2.2.1 ∧ ∀ q, n.2.2.2 = some q → g_ev r q.1 ≤ (k : Int) ∧ (k : Int) ≤ g_ev r q.2 := by
        rcases h2 with h2 | h2 | h2
        · exact absurd (e1.trans h2) hm.1
        · exact absurd (e1.trans h2) hm.2
        · exact h2
      obtain ⟨b1, b2, b3⟩ := a1
      obtain ⟨c1, c2, c3⟩ := a2
      split at hc
      · rw [g_ev_ac r h0, g_ev_sub] at hc
        omega
      · rw [g_ev_ac r h0, g_ev_sub] at hc
        omega
      · rename_i p q hp hq2
        have d1 := b3 p hp
        have d2 := c3 q hq2
        rw [g_ev_ac r h0, g_ev_sub] at hc
        omega
      · rename_i p q _ _ _ hp hq2
        have d1 := b3 p hp
        have d2 := c3 q hq2
        rw [g_ev_ac r h0, g_ev_sub] at hc
        omega
      · rw [g_ev_c r h0] at hc
        exact absurd hc (by decide)
    · cases h
  · cases h
theorem y_dis_ok (h0 : r 0 = 1) (hF : g_FF r F) {m n : y_MI} (h : y_dis F m n s = some (true, s')) {kd a k : Nat} (h1 : y_cvr r m kd a k) : ¬ y_cvr r n kd a k := by
  unfold y_dis at h
  split at h
  · rename_i hq
    rintro ⟨h2, -⟩
    rw [h1.1, h2, Nat.beq_refl] at hq
    cases hq
  · split at h
    · cases h
    · rename_i hn
      have hm : m.1 ≠ 4 ∧ m.1 ≠ 5 := by
        refine ⟨fun h4 => ?_, fun h5 => ?_⟩
        · rw [h4] at hn; cases hn
        · rw [h5] at hn; cases hn
      split at h
      · rename_i c1 c2 hc1 hc2
        split at h
        · rename_i hp
          rw [Bool.or_eq_true] at hp
          have e1 := g_dk_ok h0 hc1
          have e2 := g_dk_ok h0 hc2
          rw [g_ev_sub] at e1 e2
          obtain ⟨i1, h1⟩ := h1
          rintro ⟨i2, h2⟩
          rcases h1 with h1 | h1 | ⟨h1, h3, -⟩
          · exact hm.1 (i1.trans h1)
          · exact hm.2 (i1.trans h1)
          · rcases h2 with h2 | h2 | ⟨h2, h4, -⟩
            · exact hm.1 (i1.trans h2)
            · exact hm.2 (i1.trans h2)
            · rcases hp with hp | hp
              · have := y_pos_ok hp
                omega
              · have := y_pos_ok hp
                omega
        · split at h
          · exact y_dsk_ok h0 hF hm h h1
          · cases h
      · exact y_dsk_ok h0 hF hm h h1
theorem y_diss_ok (h0 : r 0 = 1) (hF : g_FF r F) {m : y_MI} : ∀ {M : List y_MI} {s s' : y_Str}, y_diss F m M s = some (true, s') → ∀ n ∈ M, ∀ kd a k, y_cvr r m kd a k → ¬ y_cvr r n kd a k
  | [], _, _, _, n, hn => by cases hn
  | n0 :: l, s, s', h, n, hn => by
    unfold y_diss at h
    split at h
    · cases h
    · cases h
    · rename_i s1 hq
      intro kd a k h1
      rcases List.mem_cons.mp hn with hn | hn
      · rw [hn]; exact y_dis_ok h0 hF hq h1
      · exact y_diss_ok h0 hF h n hn kd a k h1
theorem y_disl0_ok (h0 : r 0 = 1) (hF : g_FF r F) : ∀ {L : List y_MI} {s s' : y_Str}, y_disl0 F M L s = some (true, s') → ∀ m ∈ L, ∀ n ∈ M, ∀ kd a k, y_cvr r m kd a k → ¬ y_cvr r n kd a k
  | [], _, _, _, m, hm => by cases hm
  | m0 :: l, s, s', h, m, hm => by
    unfold y_disl0 at h
    split at h
    · cases h
    · cases h
    · rename_i s1 hq
      rcases List.mem_cons.mp hm with hm | hm
      · rw [hm]; exact y_diss_ok h0 hF hq
      · exact y_disl0_ok h0 hF h m hm
theorem y_disl_ok (h0 : r 0 = 1) (hF : g_FF r F) {L : List y_MI} {s s' : y_Str} (h : y_disl F M L s = some (true, s')) : ∀ m ∈ L, ∀ n ∈ M, ∀ kd a k, y_cvr r m kd a k → ¬ y_cvr r n kd a k := by
  unfold y_disl at h
  cases hq : y_mdj (y_msk M) (y_msk L) with
  | false =>
    rw [hq] at h
    exact y_disl0_ok h0 hF h
  | true => exact fun m hm n hn kd a k h1 h2 => y_mdj_ok hq (y_msk_ok h0 n hn h2) (y_msk_ok h0 m hm h1)
theorem y_fla_ok (h0 : r 0 = 1) (hF : g_FF r F) (hA : y_AO AT fp) (hfr : y_Fr r M w w') : ∀ {L L' : List y_AT} {s s' : y_Str}, y_fla fp F M L s = some (L', s') → (∀ a ∈ L, AT a.1 (a.2.map (g_ev r)) w) → ∀ a ∈ L', AT a.1 (a.2.map (g_ev r)) w'
  | [], L', s, s', h, _, a, ha => by cases h; cases ha
  | a0 :: l, L', s, s', h, hl, a, ha => by
    have ih := hl a0 List.mem_cons_self
    have hl2 : ∀ a ∈ l, AT a.1 (a.2.map (g_ev r)) w := fun a h => hl a (List.mem_cons_of_mem _ h)
    unfold y_fla at h
    split at h
    · cases h
    · rename_i b s1 hb
      split at h
      · cases h
      · rename_i l' s2 hq
        split at h
        · cases h
          rcases List.mem_cons.mp ha with ha | ha
          · rw [ha]
            exact hA r _ _ M w w' h0 hfr (fun m hm n hn kd x k hc => y_disl_ok h0 hF hb m hm n hn kd x k hc) ih
          · exact y_fla_ok h0 hF hA hfr hq hl2 a ha
        · cases h
          exact y_fla_ok h0 hF hA hfr hq hl2 a ha
theorem y_pt_ch {KT : Nat → Option (Nat ⊕ Nat)} {LT : Nat → Option Nat} {st st' : e_ST} (h : ∀ a c, e_K st a = some c → e_K st' a = some c ∧ e_N st' a = e_N st a) {t b : Nat} (k : y_pt KT LT st t b) : y_pt KT LT st' t b := by
  intro kd hkd
  obtain ⟨h1, h2⟩ := k kd hkd
  obtain ⟨h3, h4⟩ := h b kd h1
  exact ⟨h3, fun n hn => h4.trans (h2 n hn)⟩
theorem y_dV_ch {KT : Nat → Option (Nat ⊕ Nat)} {LT : Nat → Option Nat} {st st' : e_ST} (h : ∀ a c, e_K st a = some c → e_K st' a = some c ∧ e_N st' a = e_N st a) {q : y_SV} {v : Value} (k : y_dV KT LT r st q v) : y_dV KT LT r st' q v := by
  obtain ⟨t, e⟩ := q
  match t with
  | 0 => exact k
  | 1 => exact k
  | t + 2 => obtain ⟨o, h1, h2, h3⟩ := k; exact ⟨o, h1, h2, fun b hb => y_pt_ch h (h3 b hb)⟩
theorem y_dS_ch {KT : Nat → Option (Nat ⊕ Nat)} {LT : Nat → Option Nat} {st st' : e_ST} (h : ∀ a c, e_K st a = some c → e_K st' a = some c ∧ e_N st' a = e_N st a) : ∀ {l : List y_SV} {m : List Value}, y_dS KT LT r st l m → y_dS KT LT r st' l m
  | [], [], _ => trivial
  | _ :: _, _ :: _, k => ⟨y_dV_ch h k.1, y_dS_ch h k.2⟩
  | [], _ :: _, k => k.elim
  | _ :: _, [], k => k.elim
/-- the world has changed at some places -/
def y_chS (S : y_S) (ms : List y_ME) (as : List y_AT) : y_S := (s_n S, s_l S, s_s S, ms, s_f S, as)
theorem y_chg {ms : List y_ME} {as : List y_AT} {s1 s2 : y_Str} (hA : y_AO AT fp) (k : y_DD U AT r S lv stk w) (hfr : y_Fr r M w w') (hI : y_IV U w') (hms : y_flt (s_f S) M (s_m S) s = some (ms, s1)) (has : y_fla fp (s_f S) M (s_a S) s1 = some (as, s2)) : y_DD U AT r (y_chS S ms as) lv stk w' := by
  obtain ⟨k0, k1, k2, k3, k4, k5, k6⟩ := k
  refine ⟨k0, fun q hq => ?_, y_dS_ch hfr.2.1 k2, y_flt_ok k0 k4 hfr hms k3, k4, y_fla_ok k0 k4 hA hfr has k5, hI⟩
  obtain ⟨v, e1, e2⟩ := k1 q hq
  exact ⟨v, e1, y_dV_ch hfr.2.1 e2⟩
end Y_CH
end
