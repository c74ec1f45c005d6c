/-! PART 45: a state suits a pattern, its symbols in place of the pattern's -/
noncomputable section
def y_sbV (σ : List g_LE) (q : y_SV) : y_SV := (q.1, g_sb σ q.2)
def y_sbI (σ : List g_LE) (m : y_MI) : y_MI := (m.1, g_sb σ m.2.1, g_sb σ m.2.2.1, m.2.2.2.map fun q => (g_sb σ q.1, g_sb σ q.2))
def y_sbM (σ : List g_LE) (m : y_ME) : y_ME := (m.1, g_sb σ m.2.1, g_sb σ m.2.2.1, g_sb σ m.2.2.2)
def y_sbA (σ : List g_LE) (a : y_AT) : y_AT := (a.1, a.2.map (g_sb σ))
/-- what a pattern's symbols stand for, as far as values say -/
def y_bd (σ : List g_LE) (p e : g_LE) : List g_LE := match g_eq p (g_s (σ.length + 1)) with
  | true => σ ++ [e]
  | false => σ
def y_bS (σ : List g_LE) : List y_SV → List y_SV → List g_LE
  | p :: l, q :: m => y_bS (y_bd σ p.2 q.2) l m
  | _, _ => σ
def y_bL (S : y_S) (σ : List g_LE) : List (Nat × y_SV) → List g_LE
  | [] => σ
  | p :: l => match y_lok (s_l S) p.1 with
    | some q => y_bL S (y_bd σ p.2.2 q.2) l
    | none => y_bL S σ l
def y_bM (S : y_S) (σ : List g_LE) : List y_ME → List g_LE
  | [] => σ
  | p :: l => match y_ent (s_m S) p.1 (g_sb σ p.2.1) (g_sb σ p.2.2.1) with
    | some v => y_bM S (y_bd σ p.2.2.2 v) l
    | none => y_bM S σ l
/-- the rest is said -/
def y_bN : Nat → List g_LE → y_Str → Option (List g_LE × y_Str)
  | 0, σ, s => some (σ, s)
  | n + 1, σ, s => match s with
    | [] => none
    | e :: s1 => y_bN n (σ ++ [e]) s1
/-- what the symbols of P stand for in S: σ0 to begin with -/
def y_sgm (S : y_S) (σ0 : List g_LE) (P : y_S) (s : y_Str) : Option (List g_LE × y_Str) :=
  let σ := y_bM S (y_bL S (y_bS σ0 (s_s P) (s_s S)) (s_l P)) (s_m P)
  y_bN (s_n P - 1 - σ.length) σ s
def y_tok (p q : y_SV) : Bool := Nat.beq p.1 q.1 || (Nat.ble 2 p.1 && (Nat.ble 2 q.1 && g_eq q.2 []))
def y_mV (σ : List g_LE) (p q : y_SV) : Bool := y_tok p q && g_eq (g_sb σ p.2) q.2
def y_mS (σ : List g_LE) : List y_SV → List y_SV → Bool
  | [], [] => true
  | p :: l, q :: m => y_mV σ p q && y_mS σ l m
  | _, _ => false
def y_mL (S : y_S) (σ : List g_LE) : List (Nat × y_SV) → Bool
  | [] => true
  | p :: l => (match y_lok (s_l S) p.1 with
    | some q => y_mV σ p.2 q
    | none => false) && y_mL S σ l
def y_mM (S : y_S) (σ : List g_LE) : List y_ME → Bool
  | [] => true
  | p :: l => (match Nat.beq p.1 7 with
    | true => (match y_prd (s_m S) (g_sb σ p.2.1) (g_sb σ p.2.2.1) with
      | some v => g_eq v (g_sb σ p.2.2.2)
      | none => false)
    | false => match y_ent (s_m S) p.1 (g_sb σ p.2.1) (g_sb σ p.2.2.1) with
      | some v => g_eq v (g_sb σ p.2.2.2)
      | none => false) && y_mM S σ l
def y_leq : List g_LE → List g_LE → Bool
  | [], [] => true
  | a :: l, b :: m => g_eq a b && y_leq l m
  | _, _ => false
def y_mA (S : y_S) (σ : List g_LE) : List y_AT → Bool
  | [] => true
  | p :: l => ((s_a S).any fun a => Nat.beq a.1 p.1 && y_leq a.2 (p.2.map (g_sb σ))) && y_mA S σ l
def y_mat (S : y_S) (σ : List g_LE) (P : y_S) (s : y_Str) : Option y_Str := match y_mS σ (s_s P) (s_s S) && (y_mL S σ (s_l P) && (y_mM S σ (s_m P) && y_mA S σ (s_a P))) with
  | true => y_cks (s_f S) s ((s_f P).map (g_sb σ))
  | false => none
section Y_MT
variable {U : y_WT} {AT : Nat → List Int → y_W → Prop} {r r' : Nat → Int} {S S' P : y_S} {lv : e_LV} {stk : List Value} {w w' : y_W} {s s' : y_Str} {σ : List g_LE} {st : e_ST} {KT : Nat → Option (Nat ⊕ Nat)} {LT : Nat → Option Nat}
theorem y_leq_ok : ∀ {l m : List g_LE}, y_leq l m = true → l = m
  | [], [], _ => rfl
  | a :: l, b :: m, h => by
    unfold y_leq at h
    rw [Bool.and_eq_true] at h
    rw [g_eq_ok h.1, y_leq_ok h.2]
  | [], _ :: _, h => by cases h
  | _ :: _, [], h => by cases h
theorem y_mV_ok {p q : y_SV} {v : Value} (h : y_mV σ p q = true) (k : y_dV KT LT r st q v) : y_dV KT LT (g_rs r σ) st p v := by
  obtain ⟨t, e⟩ := p
  obtain ⟨u, f⟩ := q
  unfold y_mV y_tok at h
  rw [Bool.and_eq_true, Bool.or_eq_true, Bool.and_eq_true, Bool.and_eq_true] at h
  obtain ⟨h1, h2⟩ := h
  have he : g_ev (g_rs r σ) e = g_ev r f := by rw [← g_ev_sb, g_eq_ok h2]
  rcases h1 with h1 | ⟨h1, h3, h4⟩
  · have ht : t = u := Nat.eq_of_beq_eq_true h1
    subst ht
    match t with
    | 0 => obtain ⟨x, h5, h6⟩ := k; exact ⟨x, h5, h6.trans he.symm⟩
    | 1 => obtain ⟨x, h5, h6⟩ := k; exact ⟨x, h5, h6.trans he.symm⟩
    | t + 2 => obtain ⟨o, h5, h6, h7⟩ := k; exact ⟨o, h5, h6.trans he.symm, h7⟩
  · have h1 : 2 ≤ t := Nat.le_of_ble_eq_true h1
    have h3 : 2 ≤ u := Nat.le_of_ble_eq_true h3
    have h4 : f = [] := g_eq_ok h4
    subst h4
    match t, h1, u, h3 with
    | t + 2, _, u + 2, _ =>
      obtain ⟨o, h5, h6, h7⟩ := k
      have h8 : o = none := y_en_0.mp h6
      subst h8
      exact ⟨none, h5, by rw [he]; rfl, fun b hb => by cases hb⟩
theorem y_mS_ok : ∀ {l m : List y_SV} {vs : List Value}, y_mS σ l m = true → y_dS KT LT r st m vs → y_dS KT LT (g_rs r σ) st l vs
  | [], [], [], _, _ => trivial
  | p :: l, q :: m, v :: vs, h, k => by
    unfold y_mS at h
    rw [Bool.and_eq_true] at h
    exact ⟨y_mV_ok h.1 k.1, y_mS_ok h.2 k.2⟩
  | [], [], _ :: _, _, k => k.elim
  | [], _ :: _, _, h, _ => by cases h
  | _ :: _, [], _, h, _ => by cases h
  | _ :: _, _ :: _, [], _, k => k.elim
theorem y_mL_ok {lv : e_LV} (k : y_dL KT LT r st (s_l S) lv) : ∀ {l : List (Nat × y_SV)}, y_mL S σ l = true → y_dL KT LT (g_rs r σ) st l lv
  | [], _, q, hq => by cases hq
  | p :: l, h, q, hq => by
    unfold y_mL at h
    rw [Bool.and_eq_true] at h
    rcases List.mem_cons.mp hq with hq | hq
    · subst hq
      obtain ⟨h1, -⟩ := h
      split at h1
      · rename_i q' hq'
        obtain ⟨v, e1, e2⟩ := k _ (y_lok_mem hq')
        exact ⟨v, e1, y_mV_ok h1 e2⟩
      · cases h1
    · exact y_mL_ok k h.2 q hq
theorem y_mM_ok (h0 : r 0 = 1) (k : ∀ m ∈ s_m S, y_dM r w m) : ∀ {l : List y_ME}, y_mM S σ l = true → ∀ m ∈ l, y_dM (g_rs r σ) w m
  | [], _, q, hq => by cases hq
  | p :: l, h, q, hq => by
    unfold y_mM at h
    rw [Bool.and_eq_true] at h
    rcases List.mem_cons.mp hq with hq | hq
    · subst hq
      obtain ⟨h1, -⟩ := h
      obtain ⟨kd, a, b, v⟩ := q
      split at h1
      · rename_i h7
        have hk : kd = 7 := Nat.eq_of_beq_eq_true h7
        subst hk
        split at h1
        · rename_i v' hv'
          have e1 := y_prd_ok h0 k hv'
          show g_ev (g_rs r σ) a * g_ev (g_rs r σ) b = g_ev (g_rs r σ) v
          rw [← g_ev_sb, ← g_ev_sb, ← g_ev_sb, ← g_eq_ok h1]
          exact e1.symm
        · cases h1
      · rename_i h7
        have hk : kd ≠ 7 := by
          intro hc
          subst hc
          cases h7
        split at h1
        · rename_i v' hv'
          have e1 := y_ent_ok k hk hv'
          rw [g_eq_ok h1] at e1
          rw [g_ev_sb, g_ev_sb, g_ev_sb] at e1
          unfold y_dM
          split
          · rename_i h9
            exact absurd h9 hk
          · exact e1
        · cases h1
    · exact y_mM_ok h0 k h.2 q hq
theorem y_mA_ok (k : ∀ a ∈ s_a S, AT a.1 (a.2.map (g_ev r)) w) : ∀ {l : List y_AT}, y_mA S σ l = true → ∀ a ∈ l, AT a.1 (a.2.map (g_ev (g_rs r σ))) w
  | [], _, q, hq => by cases hq
  | p :: l, h, q, hq => by
    unfold y_mA at h
    rw [Bool.and_eq_true] at h
    rcases List.mem_cons.mp hq with hq | hq
    · subst hq
      obtain ⟨a, ha, h1⟩ := List.any_eq_true.mp h.1
      rw [Bool.and_eq_true] at h1
      have h2 := k a ha
      have h3 : a.1 = q.1 := Nat.eq_of_beq_eq_true h1.1
      rw [y_leq_ok h1.2, h3, List.map_map] at h2
      have h4 : q.2.map (g_ev (g_rs r σ)) = q.2.map (g_ev r ∘ g_sb σ) := List.map_congr_left fun e _ => (g_ev_sb r σ e).symm
      rw [h4]
      exact h2
    · exact y_mA_ok k h.2 q hq
theorem y_mat_ok (h : y_mat S σ P s = some s') (k : y_DD U AT r S lv stk w) : y_DD U AT (g_rs r σ) P lv stk w := by
  obtain ⟨k0, k1, k2, k3, k4, k5, k6⟩ := k
  unfold y_mat at h
  split at h
  · rename_i hq
    rw [Bool.and_eq_true, Bool.and_eq_true, Bool.and_eq_true] at hq
    obtain ⟨q1, q2, q3, q4⟩ := hq
    have hall := y_cks_ok k0 k4 h
    refine ⟨g_rs_0 k0 σ, y_mL_ok k1 q2, y_mS_ok q1 k2, y_mM_ok k0 k3 q3, fun f hf => ?_, y_mA_ok k5 q4, k6⟩
    rw [← g_ev_sb]
    exact hall _ (List.mem_map_of_mem hf)
  · cases h
theorem y_cvr_sb {m : y_MI} {kd a k : Nat} : y_cvr r (y_sbI σ m) kd a k ↔ y_cvr (g_rs r σ) m kd a k := by
  obtain ⟨q, lo, hi, kr⟩ := m
  unfold y_cvr y_sbI
  dsimp only
  rw [g_ev_sb, g_ev_sb]
  cases kr with
  | none =>
    refine ⟨fun h => ⟨h.1, ?_⟩, fun h => ⟨h.1, ?_⟩⟩
    · rcases h.2 with h2 | h2 | ⟨h2, h3, -⟩
      · exact Or.inl h2
      · exact Or.inr (Or.inl h2)
      · exact Or.inr (Or.inr ⟨h2, h3, fun q hq => by cases hq⟩)
    · rcases h.2 with h2 | h2 | ⟨h2, h3, -⟩
      · exact Or.inl h2
      · exact Or.inr (Or.inl h2)
      · exact Or.inr (Or.inr ⟨h2, h3, fun q hq => by cases hq⟩)
  | some p =>
    refine ⟨fun h => ⟨h.1, ?_⟩, fun h => ⟨h.1, ?_⟩⟩
    · rcases h.2 with h2 | h2 | ⟨h2, h3, h4⟩
      · exact Or.inl h2
      · exact Or.inr (Or.inl h2)
      · refine Or.inr (Or.inr ⟨h2, h3, fun q hq => ?_⟩)
        cases hq
        have := h4 _ rfl
        rw [g_ev_sb, g_ev_sb] at this
        exact this
    · rcases h.2 with h2 | h2 | ⟨h2, h3, h4⟩
      · exact Or.inl h2
      · exact Or.inr (Or.inl h2)
      · refine Or.inr (Or.inr ⟨h2, h3, fun q hq => ?_⟩)
        cases hq
        have := h4 _ rfl
        rw [g_ev_sb, g_ev_sb]
        exact this
theorem y_Fr_sb {M : List y_MI} : y_Fr (g_rs r σ) M w w' → y_Fr r (M.map (y_sbI σ)) w w' := by
  rintro ⟨h1, h2, h3, h4⟩
  refine ⟨fun kd a k ha hn => h1 kd a k ha fun m hm hc => ?_, h2, h3, h4⟩
  exact hn _ (List.mem_map_of_mem hm) (y_cvr_sb.mpr hc)
end Y_MT
end
