/-! PART 50: what a walk shows: its pieces -/
noncomputable section
def y_lt : List Nat → List Nat → Prop
  | a :: l, b :: m => a < b ∨ (a = b ∧ y_lt l m)
  | _, _ => False
theorem y_lt_ind : ∀ (n : Nat) (P : List Nat → Prop), (∀ m, m.length = n → (∀ m', m'.length = n → y_lt m' m → P m') → P m) → ∀ m, m.length = n → P m
  | 0, P, h, m, hm => by
    have he : m = [] := List.length_eq_zero_iff.mp hm
    subst he
    exact h [] rfl fun m' _ hl => by
      unfold y_lt at hl
      split at hl
      · rename_i he
        cases he
      · exact hl.elim
  | n + 1, P, h, m, hm => by
    have key : ∀ (b : Nat) (l : List Nat), l.length = n → P (b :: l) := by
      intro b
      induction b using Nat.strongRecOn with
      | ind b ih =>
        intro l hl
        refine y_lt_ind n (fun l => P (b :: l)) (fun l hl ihl => ?_) l hl
        refine h (b :: l) (by rw [List.length_cons, hl]) fun m' hm' hlt => ?_
        match m', hm', hlt with
        | a :: l', hm2, hlt2 =>
          rw [List.length_cons] at hm2
          have hl' : l'.length = n := by omega
          rcases (show a < b ∨ (a = b ∧ y_lt l' l) from hlt2) with h9 | ⟨h9, h10⟩
          · exact ih a h9 l' hl'
          · rw [h9]
            exact ihl l' hl' h10
        | [], hm2, _ => rw [List.length_nil] at hm2; omega
    match m, hm with
    | b :: l, hm =>
      rw [List.length_cons] at hm
      exact key b l (by omega)
    | [], hm => rw [List.length_nil] at hm; omega
section Y_RK
variable {T : y_TB} {U : y_WT} {AT : Nat → List Int → y_W → Prop} {fp : Nat → List g_LE → List y_MI} {RL : y_R2} {XR : y_XR} {XN : e_M → Instr → y_S → Bool} {CS : List y_CX} {M : e_M} {c : y_CX} {hd : List y_HD} {r r' r0 r1 : Nat → Int} {S S' P : y_S} {lv : e_LV} {stk : List Value} {w w' w0 : y_W} {s s' : y_Str} {σ : List g_LE} {N : List y_MI} {t0 : Option g_LE} {D : g_LE} {d pc : Nat} {F : List g_LE}
theorem y_lex_ok (h0 : r 0 = 1) (hF : g_FF r F) : ∀ {m m' : List g_LE} {s s' : y_Str}, y_lex F m m' s = some s' → y_lt (m'.map fun e => (g_ev r e).toNat) (m.map fun e => (g_ev r e).toNat)
  | a :: l, a' :: l', s, s', h => by
    unfold y_lex at h
    split at h
    · split at h
      · rename_i s2 hq
        have h1 := y_ck_ok h0 hF hq
        rw [g_ev_sub] at h1
        by_cases he : (g_ev r a').toNat < (g_ev r a).toNat
        · exact Or.inl he
        · have h9 : (g_ev r a').toNat = (g_ev r a).toNat := by omega
          exact Or.inr ⟨h9, y_lex_ok h0 hF h⟩
      · cases h
    · have hall := y_cks_ok h0 hF h
      have h1 := hall _ List.mem_cons_self
      have h2 := hall _ (List.mem_cons_of_mem _ List.mem_cons_self)
      rw [g_ev_ac r h0] at h1 h2
      rw [g_ev_sub] at h2
      have h9 : (g_ev r a').toNat < (g_ev r a).toNat := by omega
      exact Or.inl h9
    · cases h
  | [], _, _, _, h => by unfold y_lex at h; cases h
  | _ :: _, [], _, _, h => by unfold y_lex at h; cases h
theorem y_idn1_ok : ∀ {k i : Nat} {σ : List g_LE}, y_idn1 k i σ = true → ∀ q, q < k → σ.getD q [] = g_s (i + q)
  | 0, _, _, _, q, hq => by omega
  | k + 1, i, e :: l, h, q, hq => by
    unfold y_idn1 at h
    rw [Bool.and_eq_true] at h
    match q with
    | 0 => exact g_eq_ok h.1
    | q + 1 =>
      have := y_idn1_ok h.2 q (by omega)
      rw [show i + (q + 1) = i + 1 + q by omega]
      exact this
  | _ + 1, _, [], h, _, _ => by cases h
theorem y_ids_rs (h0 : r 0 = 1) {n : Nat} (h : y_idn1 (n - 1) 1 σ = true) : ∀ i, i < n → g_rs r σ i = r i := by
  intro i hi
  match i with
  | 0 => rw [g_rs_0 h0, h0]
  | q + 1 =>
    show g_ev r (g_get σ q) = r (q + 1)
    rw [g_get_eq]
    rw [y_idn1_ok h q (by omega), g_ev_s, Nat.add_comm]
/-- good: from here the method comes to one of its ends -/
def y_GD (T : y_TB) (U : y_WT) (AT : Nat → List Int → y_W → Prop) (d : Nat) (M : e_M) (c : y_CX) (r0 : Nat → Int) (w0 : y_W) (lv : e_LV) (stk : List Value) (w : y_W) (pc : Nat) : Prop := ∃ (res : Option (Option Value)) (w' : y_W), y_BR T d M pc lv stk w.1 (res, w'.1) ∧ y_Fr r0 (c_M c) w0 w' ∧ ∃ x ∈ c_X c, ∃ r' : Nat → Int, (∀ i, i < s_n (c_E c) → r' i = r0 i) ∧ y_XD U AT r' x res w'
theorem y_end_ok {kx : Nat} (h : y_end c kx S s = some s') (k : y_DD U AT r S lv stk w) (hr : ∀ i, i < s_n (c_E c) → r i = r0 i) : ∃ x ∈ c_X c, x.1 = kx ∧ ∃ r' : Nat → Int, (∀ i, i < s_n (c_E c) → r' i = r0 i) ∧ y_DD U AT r' x.2 [] stk w := by
  unfold y_end at h
  split at h
  · split at h
    · rename_i x hx
      split at h
      · rename_i hk
        rw [Bool.and_eq_true] at hk
        split at h
        · rename_i σ s2 hsg
          split at h
          · rename_i hid
            obtain ⟨e0, e1, e2, e3, e4, e5, e6⟩ := y_mat_ok h k
            have hl := List.isEmpty_iff.mp hk.2
            refine ⟨x, List.mem_of_getElem? hx, Nat.eq_of_beq_eq_true hk.1, g_rs r σ, fun i hi => (y_ids_rs k.1 hid i hi).trans (hr i hi), e0, ?_, e2, e3, e4, e5, e6⟩
            rw [hl]
            intro q hq
            cases hq
          · cases h
        · cases h
      · cases h
    · cases h
  · cases h
theorem y_alB_ok {f : Nat → y_S → y_Str → Option y_Str} : ∀ {B : y_BL} {s s' : y_Str}, y_alB f B s = some s' → ∀ b ∈ B, ∃ s1 s2, f b.1 b.2 s1 = some s2
  | [], _, _, _, b, hb => by cases hb
  | a :: l, s, s', h, b, hb => by
    unfold y_alB at h
    split at h
    · cases h
    · rename_i s1 hq
      rcases List.mem_cons.mp hb with hb | hb
      · rw [hb]; exact ⟨_, _, hq⟩
      · exact y_alB_ok h b hb
theorem y_alG_ok {f : y_S → y_Str → Option y_Str} : ∀ {B : List y_S} {s s' : y_Str}, y_alG f B s = some s' → ∀ b ∈ B, ∃ s1 s2, f b s1 = some s2
  | [], _, _, _, b, hb => by cases hb
  | a :: l, s, s', h, b, hb => by
    unfold y_alG at h
    split at h
    · cases h
    · rename_i s1 hq
      rcases List.mem_cons.mp hb with hb | hb
      · rw [hb]; exact ⟨_, _, hq⟩
      · exact y_alG_ok h b hb
theorem y_alX_ok {f : y_X → y_Str → Option y_Str} : ∀ {B : List y_X} {s s' : y_Str}, y_alX f B s = some s' → ∀ b ∈ B, ∃ s1 s2, f b s1 = some s2
  | [], _, _, _, b, hb => by cases hb
  | a :: l, s, s', h, b, hb => by
    unfold y_alX at h
    split at h
    · cases h
    · rename_i s1 hq
      rcases List.mem_cons.mp hb with hb | hb
      · rw [hb]; exact ⟨_, _, hq⟩
      · exact y_alX_ok h b hb
/-- what a method's promise says of itself alone -/
def y_scI (n : Nat) (m : y_MI) : Bool := g_sc n m.2.1 && (g_sc n m.2.2.1 && (match m.2.2.2 with
  | none => true
  | some q => g_sc n q.1 && g_sc n q.2))
def y_okc (c : y_CX) : Bool := (Nat.blt 0 (s_n (c_E c)) && g_sc (s_n (c_E c)) (c_D c)) && ((c_M c).all (y_scI (s_n (c_E c))) && (match c_t c with
  | none => true
  | some _ => false))
theorem y_scI_ok {n : Nat} {m : y_MI} (hs : y_scI n m = true) (h : ∀ i, i < n → r i = r0 i) {kd a k : Nat} (hc : y_cvr r m kd a k) : y_cvr r0 m kd a k := by
  unfold y_scI at hs
  rw [Bool.and_eq_true, Bool.and_eq_true] at hs
  obtain ⟨h1, h2⟩ := hc
  refine ⟨h1, ?_⟩
  rw [g_sc_ev h hs.1, g_sc_ev h hs.2.1] at h2
  rcases h2 with h2 | h2 | ⟨h2, h3, h4⟩
  · exact Or.inl h2
  · exact Or.inr (Or.inl h2)
  · refine Or.inr (Or.inr ⟨h2, h3, fun q hq => ?_⟩)
    have h5 := hs.2.2
    rw [hq] at h5
    have h5 : (g_sc n q.1 && g_sc n q.2) = true := h5
    rw [Bool.and_eq_true] at h5
    have h6 := h4 q hq
    rw [g_sc_ev h h5.1, g_sc_ev h h5.2] at h6
    exact h6
/-- one step's change goes into the method's -/
theorem y_fr_stp (hc : y_okc c = true) (hE : y_DD U AT r0 (c_E c) [] stk w0) (hr : ∀ i, i < s_n (c_E c) → r i = r0 i) (hf : y_Fr r0 (c_M c) w0 w) (h : ∃ Mi, y_Fr r Mi w w' ∧ ∀ m ∈ Mi, ∀ {kd a k : Nat}, y_cvr r m kd a k → (∃ n ∈ c_M c, y_cvr r n kd a k) ∨ (kd < 4 ∧ ∃ t, c_t c = some t ∧ g_ev r t ≤ (a : Int))) : y_Fr r0 (c_M c) w0 w' := by
  obtain ⟨Mi, h1, h2⟩ := h
  unfold y_okc at hc
  rw [Bool.and_eq_true, Bool.and_eq_true, Bool.and_eq_true] at hc
  obtain ⟨⟨c1, c2⟩, c3, c4⟩ := hc
  refine hf.tr (t0 := c_t c) h1 (fun n hn kd a k hcv => y_scI_ok (List.all_eq_true.mp c3 n hn) hr hcv) ?_ h2
  cases ht : c_t c with
  | none => rfl
  | some t =>
    rw [ht] at c4
    cases c4
theorem y_thw_ok {f : Nat → y_S → y_Str → Option y_Str} {ins : Instr} {len : Nat} (h : y_thw c M f pc S s = some s') (hdc : decode (e_mc M) pc = .ok (ins, len)) (hy : ∃ fu, y_N T d (y_C T fu d) M ins len pc lv stk w.1 = some (.inr (.inr w'.1))) {vs : List Value} (k : y_DD U AT r S lv vs w') (hr : ∀ i, i < s_n (c_E c) → r i = r0 i) (hf : y_Fr r0 (c_M c) w0 w') (hgo : ∀ pc' S' s1 s2, f pc' S' s1 = some s2 → ∀ lv', y_DD U AT r S' lv' [] w' → s_n S' = s_n S → y_GD T U AT d M c r0 w0 lv' [] w' pc') : y_GD T U AT d M c r0 w0 lv stk w pc := by
  have k0 : y_DD U AT r (y_st S []) lv [] w' := y_D_st k trivial
  unfold y_thw at h
  split at h
  · rename_i hh
    obtain ⟨x, hx, hk, r', hr', hD⟩ := y_end_ok h k0 hr
    refine ⟨none, w', y_BR.thr hdc hy hh, hf, x, hx, r', hr', ?_⟩
    unfold y_XD
    rw [hk]
    exact ⟨rfl, hD⟩
  · rename_i x hh
    split at h
    · cases h
    · rename_i kq pc' lv0 hc
      split at h
      · rename_i hlt
        have hcl : e_cch (e_mc M) x.2.2.1 lv = some (kq, pc', lv.filter fun q => !(q.1 == kq) && !(q.1 + 1 == kq && q.2.category == 2)) := by
          unfold e_cch at hc ⊢
          split at hc
          · cases hc; rfl
          · cases hc; rfl
          · cases hc
        have hgd := hgo _ _ _ _ h (lv.filter fun q => !(q.1 == kq) && !(q.1 + 1 == kq && q.2.category == 2)) (y_D_lo k0 (y_dL_f1 k0.2.1)) rfl
        obtain ⟨res, w2, hb, hf2, hx⟩ := hgd
        exact ⟨res, w2, y_BR.cat hdc hy hh hcl (Nat.blt_eq.mp hlt) hb, hf2, hx⟩
      · cases h
end Y_RK
end
