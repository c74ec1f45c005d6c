/-! PART 27: small steps of the checker: certificates, new symbols, locals -/
noncomputable section
abbrev y_It : Type := List (Nat × Int)
abbrev y_Str : Type := List y_It
def y_ct (t : y_It) : List (Nat × Nat) := t.map fun q => (q.1, q.2.toNat)
/-- (k, -1) ahead: k e + k - 1 is shown, so e >= 0 -/
def y_en1 (F : List g_LE) (t : y_It) (e : g_LE) : Bool := match t with
  | (k + 1, .negSucc _) :: t' => g_ent F (y_ct t') (g_ac (k : Int) (g_k ((k : Int) + 1) e))
  | t => g_ent F (y_ct t) e
/-- e >= 0: by itself, or by the next certificate -/
def y_ck (F : List g_LE) (s : y_Str) (e : g_LE) : Option y_Str := match g_ent [] [] e with
  | true => some s
  | false => match s with
    | [] => none
    | t :: s1 => match y_en1 F t e with
      | true => some s1
      | false => none
theorem g_FF_nil {r : Nat → Int} : g_FF r [] := fun _ h => by cases h
theorem y_en1_ok {r : Nat → Int} (h0 : r 0 = 1) {F : List g_LE} (hF : g_FF r F) {t : y_It} {e : g_LE} (h : y_en1 F t e = true) : 0 ≤ g_ev r e := by
  unfold y_en1 at h
  split at h
  · rename_i k _ t'
    have h1 := g_ent_ok h0 hF h
    rw [g_ev_ac r h0, g_ev_k] at h1
    by_cases hq : 0 ≤ g_ev r e
    · exact hq
    · have h4 : g_ev r e ≤ -1 := by omega
      have h5 := Int.mul_le_mul_of_nonneg_left h4 (show (0 : Int) ≤ (k : Int) + 1 by omega)
      omega
  · exact g_ent_ok h0 hF h
theorem y_ck_ok {r : Nat → Int} (h0 : r 0 = 1) {F : List g_LE} (hF : g_FF r F) {s s' : y_Str} {e : g_LE} (h : y_ck F s e = some s') : 0 ≤ g_ev r e := by
  unfold y_ck at h
  split at h
  · rename_i hq
    exact g_ent_ok h0 g_FF_nil hq
  · split at h
    · cases h
    · split at h
      · rename_i hq
        exact y_en1_ok h0 hF hq
      · cases h
/-- all of some -/
def y_cks (F : List g_LE) : y_Str → List g_LE → Option y_Str
  | s, [] => some s
  | s, e :: l => match y_ck F s e with
    | none => none
    | some s1 => y_cks F s1 l
theorem y_cks_ok {r : Nat → Int} (h0 : r 0 = 1) {F : List g_LE} (hF : g_FF r F) : ∀ {l : List g_LE} {s s' : y_Str}, y_cks F s l = some s' → ∀ e ∈ l, 0 ≤ g_ev r e
  | [], _, _, _, e, he => by cases he
  | e0 :: l, s, s', h, e, he => by
    unfold y_cks at h
    split at h
    · cases h
    · rename_i s1 h1
      rcases List.mem_cons.mp he with he | he
      · rw [he]; exact y_ck_ok h0 hF h1
      · exact y_cks_ok h0 hF h e he
def y_st (S : y_S) (l : List y_SV) : y_S := (s_n S, s_l S, l, s_m S, s_f S, s_a S)
def y_lo (S : y_S) (l : List (Nat × y_SV)) : y_S := (s_n S, l, s_s S, s_m S, s_f S, s_a S)
def y_pu (S : y_S) (q : y_SV) : y_S := y_st S (q :: s_s S)
/-- a new symbol, with facts -/
def y_nw (S : y_S) (L : List g_LE) : y_S := (s_n S + 1, s_l S, s_s S, s_m S, y_ra L (s_f S), s_a S)
def y_lok (L : List (Nat × y_SV)) (i : Nat) : Option y_SV := match L with
  | [] => none
  | q :: l => match Nat.beq q.1 i with
    | true => some q.2
    | false => y_lok l i
def y_f1 (i : Nat) (q : Nat × y_SV) : Bool := !(Nat.beq q.1 i) && !(Nat.beq (q.1 + 1) i && Nat.beq q.2.1 1)
def y_f2 (i : Nat) (q : Nat × y_SV) : Bool := !(Nat.beq q.1 i) && (!(Nat.beq q.1 (i + 1)) && !(Nat.beq (q.1 + 1) i && Nat.beq q.2.1 1))
def y_s1 (i : Nat) (q : y_SV) (L : List (Nat × y_SV)) : List (Nat × y_SV) := (i, q) :: L.filter (y_f1 i)
def y_s2 (i : Nat) (q : y_SV) (L : List (Nat × y_SV)) : List (Nat × y_SV) := (i, q) :: L.filter (y_f2 i)
section Y_SM
variable {KT : Nat → Option (Nat ⊕ Nat)} {LT : Nat → Option Nat} {IV : y_W → Prop} {AT : Nat → List Int → y_W → Prop} {r r' : Nat → Int} {S : y_S} {lv : e_LV} {stk : List Value} {w : y_W} {st : e_ST}
theorem y_D_st {l : List y_SV} {stk' : List Value} (k : y_D KT LT IV AT r S lv stk w) (h : y_dS KT LT r w.1 l stk') : y_D KT LT IV AT r (y_st S l) lv stk' w := by
  obtain ⟨k0, k1, k2, k3, k4, k5, k6⟩ := k
  exact ⟨k0, k1, h, k3, k4, k5, k6⟩
theorem y_D_lo {l : List (Nat × y_SV)} {lv' : e_LV} (k : y_D KT LT IV AT r S lv stk w) (h : y_dL KT LT r w.1 l lv') : y_D KT LT IV AT r (y_lo S l) lv' stk w := by
  obtain ⟨k0, k1, k2, k3, k4, k5, k6⟩ := k
  exact ⟨k0, h, k2, k3, k4, k5, k6⟩
theorem y_D_pu {q : y_SV} {v : Value} (k : y_D KT LT IV AT r S lv stk w) (h : y_dV KT LT r w.1 q v) : y_D KT LT IV AT r (y_pu S q) lv (v :: stk) w := y_D_st k ⟨h, k.2.2.1⟩
/-- the top is taken -/
theorem y_D_po {q : y_SV} {l : List y_SV} (k : y_D KT LT IV AT r S lv stk w) (h : s_s S = q :: l) : ∃ v rest, stk = v :: rest ∧ y_dV KT LT r w.1 q v ∧ y_D KT LT IV AT r (y_st S l) lv rest w := by
  have h2 := k.2.2.1
  rw [h] at h2
  cases stk with
  | nil => exact h2.elim
  | cons v rest => exact ⟨v, rest, rfl, h2.1, y_D_st k h2.2⟩
theorem y_D_nw {L : List g_LE} (hs : y_sc S = true) (k : y_D KT LT IV AT r S lv stk w) (x : Int) (h : ∀ f ∈ L, 0 ≤ g_ev (y_nv r (s_n S) x) f) : y_D KT LT IV AT (y_nv r (s_n S) x) (y_nw S L) lv stk w := y_D_f (y_D_up hs (fun i hi => y_nv_lt hi) k) h
theorem y_lok_mem : ∀ {L : List (Nat × y_SV)} {i : Nat} {q : y_SV}, y_lok L i = some q → (i, q) ∈ L
  | [], _, _, h => by cases h
  | z :: l, i, q, h => by
    unfold y_lok at h
    split at h
    · rename_i hz
      cases h
      rw [← Nat.eq_of_beq_eq_true hz]
      exact List.mem_cons_self
    · exact List.mem_cons_of_mem _ (y_lok_mem h)
theorem y_cat {t : Nat} {e : g_LE} {v : Value} (h : y_dV KT LT r st (t, e) v) (ht : t ≠ 1) : v.category = 1 := by
  match t with
  | 0 => obtain ⟨x, h1, -⟩ := h; rw [h1]; rfl
  | 1 => exact absurd rfl ht
  | t + 2 => obtain ⟨o, h1, -⟩ := h; rw [h1]; cases o <;> rfl
theorem e_lk_filter {p : Nat × Value → Bool} : ∀ {l : e_LV} {j : Nat} {v : Value}, e_lk l j = some v → p (j, v) = true → e_lk (l.filter p) j = some v
  | [], _, _, h, _ => by cases h
  | q :: l, j, v, h, hp => by
    unfold e_lk at h
    by_cases hq : q.1 = j
    · rw [if_pos hq] at h
      cases h
      have hq2 : p q = true := by rw [← hq] at hp; exact hp
      rw [List.filter_cons_of_pos hq2]
      unfold e_lk
      rw [if_pos hq]
    · rw [if_neg hq] at h
      have ih := e_lk_filter h hp
      by_cases hq2 : p q = true
      · rw [List.filter_cons_of_pos hq2]
        unfold e_lk
        rw [if_neg hq]
        exact ih
      · rw [List.filter_cons_of_neg hq2]
        exact ih
theorem y_beq {a b : Nat} : Nat.beq a b = (a == b) := by
  rw [Bool.eq_iff_iff, Nat.beq_eq, beq_iff_eq]
theorem y_dL_f1 {L : List (Nat × y_SV)} {i : Nat} (k : y_dL KT LT r st L lv) : y_dL KT LT r st (L.filter (y_f1 i)) (lv.filter fun q => !(q.1 == i) && !(q.1 + 1 == i && q.2.category == 2)) := by
  intro q hq
  obtain ⟨h1, h2⟩ := List.mem_filter.mp hq
  obtain ⟨v, e1, e2⟩ := k q h1
  refine ⟨v, e_lk_filter e1 ?_, e2⟩
  unfold y_f1 at h2
  rw [Bool.and_eq_true, y_beq, y_beq] at h2
  rw [Bool.and_eq_true]
  refine ⟨h2.1, ?_⟩
  have h3 := h2.2
  cases hb : (q.1 + 1 == i) with
  | false => rfl
  | true =>
    rw [hb] at h3
    have h4 : q.2.1 ≠ 1 := by
      intro hc
      rw [hc] at h3
      cases h3
    rw [y_cat (t := q.2.1) (e := q.2.2) e2 h4]
    rfl
theorem y_dL_f2 {L : List (Nat × y_SV)} {i : Nat} (k : y_dL KT LT r st L lv) : y_dL KT LT r st (L.filter (y_f2 i)) (lv.filter fun q => !(q.1 == i) && (!(q.1 == i + 1) && !(q.1 + 1 == i && q.2.category == 2))) := by
  intro q hq
  obtain ⟨h1, h2⟩ := List.mem_filter.mp hq
  obtain ⟨v, e1, e2⟩ := k q h1
  refine ⟨v, e_lk_filter e1 ?_, e2⟩
  unfold y_f2 at h2
  rw [Bool.and_eq_true, Bool.and_eq_true, y_beq, y_beq, y_beq] at h2
  rw [Bool.and_eq_true, Bool.and_eq_true]
  refine ⟨h2.1, h2.2.1, ?_⟩
  have h3 := h2.2.2
  cases hb : (q.1 + 1 == i) with
  | false => rfl
  | true =>
    rw [hb] at h3
    have h4 : q.2.1 ≠ 1 := by
      intro hc
      rw [hc] at h3
      cases h3
    rw [y_cat (t := q.2.1) (e := q.2.2) e2 h4]
    rfl
theorem y_dL_cons {L : List (Nat × y_SV)} {l : e_LV} {i : Nat} {q : y_SV} {v : Value} (hne : ∀ z ∈ L, z.1 ≠ i) (hq : y_dV KT LT r st q v) (k : y_dL KT LT r st L l) : y_dL KT LT r st ((i, q) :: L) ((i, v) :: l) := by
  intro z hz
  rcases List.mem_cons.mp hz with hz | hz
  · subst hz
    exact ⟨v, by unfold e_lk; rw [if_pos rfl], hq⟩
  · obtain ⟨v', e1, e2⟩ := k z hz
    refine ⟨v', ?_, e2⟩
    unfold e_lk
    rw [if_neg (fun h => hne z hz h.symm)]
    exact e1
theorem y_dL_s1 {L : List (Nat × y_SV)} {i : Nat} {q : y_SV} {v : Value} (hq : y_dV KT LT r st q v) (k : y_dL KT LT r st L lv) : y_dL KT LT r st (y_s1 i q L) (e_s1 i v lv) := by
  refine y_dL_cons (fun z hz h => ?_) hq (y_dL_f1 k)
  have h2 := (List.mem_filter.mp hz).2
  unfold y_f1 at h2
  rw [h, Nat.beq_refl] at h2
  cases h2
theorem y_dL_s2 {L : List (Nat × y_SV)} {i : Nat} {q : y_SV} {v : Value} (hq : y_dV KT LT r st q v) (k : y_dL KT LT r st L lv) : y_dL KT LT r st (y_s2 i q L) (e_s2 i v lv) := by
  refine y_dL_cons (fun z hz h => ?_) hq (y_dL_f2 k)
  have h2 := (List.mem_filter.mp hz).2
  unfold y_f2 at h2
  rw [h, Nat.beq_refl] at h2
  cases h2
end Y_SM
/-! numbers within bounds: as they are, or a new symbol -/
def y_le2 (a b : Int) : Bool := g_nn (b - a)
theorem y_le2_ok {a b : Int} (h : y_le2 a b = true) : a ≤ b := by have := g_nn_ok h; omega
/-- n - lo, hi - n -/
def y_rg (n : Nat) (lo hi : Int) : List g_LE := [g_ac (-lo) (g_s n), g_ac hi (g_k (-1) (g_s n))]
theorem y_rg_ok {r : Nat → Int} (h0 : r 0 = 1) {n : Nat} {lo hi : Int} (h1 : lo ≤ r n) (h2 : r n ≤ hi) : ∀ f ∈ y_rg n lo hi, 0 ≤ g_ev r f := by
  intro f hf
  unfold y_rg at hf
  rcases List.mem_cons.mp hf with hf | hf
  · rw [hf, g_ev_ac r h0, g_ev_s]; omega
  · rw [List.mem_singleton.mp hf, g_ev_ac r h0, g_ev_k, g_ev_s]; omega
def y_inr (e : g_LE) (lo hi : Int) : Bool := match g_cst e with
  | some c => y_le2 lo c && y_le2 c hi
  | none => false
theorem y_inr_ok {r : Nat → Int} (h0 : r 0 = 1) {e : g_LE} {lo hi : Int} (h : y_inr e lo hi = true) : lo ≤ g_ev r e ∧ g_ev r e ≤ hi := by
  unfold y_inr at h
  split at h
  · rename_i c hc
    rw [g_cst_ok h0 hc]
    rw [Bool.and_eq_true] at h
    exact ⟨y_le2_ok h.1, y_le2_ok h.2⟩
  · cases h
def y_fit (S : y_S) (s : y_Str) (e : g_LE) (lo hi : Int) : Option (y_S × g_LE × y_Str) := match y_inr e lo hi with
  | true => some (S, e, s)
  | false => match s with
    | [] => none
    | [] :: s1 => match y_cks (s_f S) s1 [g_ac (-lo) e, g_ac hi (g_k (-1) e)] with
      | some s2 => some (S, e, s2)
      | none => none
    | _ :: s1 => match y_sc S with
      | true => some (y_nw S (y_rg (s_n S) lo hi), g_s (s_n S), s1)
      | false => none
/-- r' goes on from r; S' is S with more symbols and facts -/
def y_gt (S S' : y_S) (r r' : Nat → Int) : Prop := (∀ i, i < s_n S → r' i = r i) ∧ s_n S ≤ s_n S' ∧ s_l S' = s_l S ∧ s_s S' = s_s S ∧ s_m S' = s_m S ∧ s_a S' = s_a S
theorem y_gt.rf {S : y_S} {r : Nat → Int} : y_gt S S r r := ⟨fun _ _ => rfl, Nat.le_refl _, rfl, rfl, rfl, rfl⟩
theorem y_gt.tr {S S' S'' : y_S} {r r' r'' : Nat → Int} (h : y_gt S S' r r') (k : y_gt S' S'' r' r'') : y_gt S S'' r r'' := by
  obtain ⟨h1, h2, h3, h4, h5, h6⟩ := h
  obtain ⟨k1, k2, k3, k4, k5, k6⟩ := k
  exact ⟨fun i hi => (k1 i (Nat.lt_of_lt_of_le hi h2)).trans (h1 i hi), Nat.le_trans h2 k2, k3.trans h3, k4.trans h4, k5.trans h5, k6.trans h6⟩
theorem y_gt.nw {S : y_S} {r : Nat → Int} {x : Int} {L : List g_LE} : y_gt S (y_nw S L) r (y_nv r (s_n S) x) := ⟨fun _ hi => y_nv_lt hi, Nat.le_succ _, rfl, rfl, rfl, rfl⟩
section Y_FT
variable {KT : Nat → Option (Nat ⊕ Nat)} {LT : Nat → Option Nat} {IV : y_W → Prop} {AT : Nat → List Int → y_W → Prop} {r r' : Nat → Int} {S S' : y_S} {lv : e_LV} {stk : List Value} {w : y_W} {st : e_ST}
/-- a new symbol for a number, with facts -/
theorem y_nw_ok {L : List g_LE} (hs : y_sc S = true) (k : y_D KT LT IV AT r S lv stk w) (x : Int) (h : ∀ f ∈ L, 0 ≤ g_ev (y_nv r (s_n S) x) f) : ∃ r', y_gt S (y_nw S L) r r' ∧ y_D KT LT IV AT r' (y_nw S L) lv stk w ∧ x = g_ev r' (g_s (s_n S)) :=
  ⟨y_nv r (s_n S) x, y_gt.nw, y_D_nw hs k x h, by rw [g_ev_s, y_nv_at]⟩
theorem y_fit_ok {s s' : y_Str} {e e' : g_LE} {lo hi z : Int} (h : y_fit S s e lo hi = some (S', e', s')) (k : y_D KT LT IV AT r S lv stk w) (h1 : lo ≤ z) (h2 : z ≤ hi) (h3 : lo ≤ g_ev r e → g_ev r e ≤ hi → z = g_ev r e) : ∃ r', y_gt S S' r r' ∧ y_D KT LT IV AT r' S' lv stk w ∧ z = g_ev r' e' := by
  have h0 : r 0 = 1 := k.1
  unfold y_fit at h
  split at h
  · rename_i hq
    cases h
    have h4 := y_inr_ok h0 hq
    exact ⟨r, y_gt.rf, k, h3 h4.1 h4.2⟩
  · split at h
    · cases h
    · split at h
      · rename_i s2 hq
        cases h
        have h4 := y_cks_ok h0 k.2.2.2.2.1 hq
        have h5 := h4 _ List.mem_cons_self
        have h6 := h4 _ (List.mem_cons_of_mem _ List.mem_cons_self)
        rw [g_ev_ac r h0] at h5
        rw [g_ev_ac r h0, g_ev_k] at h6
        exact ⟨r, y_gt.rf, k, h3 (by omega) (by omega)⟩
      · cases h
    · split at h
      · rename_i hs
        cases h
        have hn : 0 < s_n S := (y_sc_s hs).1
        have h00 : (y_nv r (s_n S) z) 0 = 1 := (y_nv_lt hn).trans h0
        exact y_nw_ok hs k z (y_rg_ok h00 (by rw [y_nv_at]; exact h1) (by rw [y_nv_at]; exact h2))
      · cases h
end Y_FT
end
