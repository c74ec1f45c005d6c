/-! PART 39: writing -/
noncomputable section
def y_itm (kd : Nat) (a k : g_LE) : y_MI := (kd, a, a, some (k, k))
/-- a node's int stands twice: among all ints, among those of nodes -/
def y_its (kd : Nat) (c : Nat ⊕ Nat) (a k : g_LE) : List y_MI := match kd, c with
  | 0, .inl 12 => [y_itm 0 a k, y_itm 8 a k]
  | _, _ => [y_itm kd a k]
def y_ens (kd : Nat) (c : Nat ⊕ Nat) (a k v : g_LE) (ms : List y_ME) : List y_ME := match kd, c with
  | 0, .inl 12 => (0, a, k, v) :: (8, a, k, v) :: ms
  | _, _ => (kd, a, k, v) :: ms
def y_bnd (q : Option (Int × Int)) (v : g_LE) : List g_LE := match q with
  | none => []
  | some (lo, hi) => [g_ac (-lo) v, g_ac hi (g_k (-1) v)]
/-- the bounds that a written value owes -/
def y_owe (U : y_WT) (kd : Nat) (c : Nat ⊕ Nat) (a : g_LE) (kc : Nat) (v : g_LE) : List g_LE := y_bnd (w_RG U kd none c kc) v ++ (match y_adr a with
  | some A => y_bnd (w_RG U kd (some A) c kc) v
  | none => match Nat.blt kd 2 && w_GN U c with
    | true => []
    | false => [g_ac (-(w_NF U : Int)) a])
/-- two bounds: the one says no more than the other -/
def y_req (x y : Option (Int × Int)) : Bool := match x with
  | none => true
  | some (l, h) => match y with
    | some (l', h') => g_ieq l l' && g_ieq h h'
    | none => false
/-- fixed cells from lo on, n of them: all with the bounds of their kind -/
def y_rge (U : y_WT) (kd : Nat) (c : Nat ⊕ Nat) (kc lo n : Nat) : Bool := (List.range n).all fun i => y_req (w_RG U kd (some (lo + i)) c kc) (w_RG U kd none c kc)
def y_keq : (Nat ⊕ Nat) → (Nat ⊕ Nat) → Bool
  | .inl a, .inl b => Nat.beq a b
  | .inr a, .inr b => Nat.beq a b
  | _, _ => false
theorem y_keq_ok : ∀ {a b : Nat ⊕ Nat}, y_keq a b = true → a = b
  | .inl _, .inl _, h => congrArg Sum.inl (Nat.eq_of_beq_eq_true h)
  | .inr _, .inr _, h => congrArg Sum.inr (Nat.eq_of_beq_eq_true h)
  | .inl _, .inr _, h => by cases h
  | .inr _, .inl _, h => by cases h
/-- fixed cells from lo on, n of them: all with the same bounds -/
def y_rgu (U : y_WT) (kd : Nat) (c : Nat ⊕ Nat) (kc lo n : Nat) : Bool := (List.range n).all fun i => y_req (w_RG U kd (some (lo + i)) c kc) (w_RG U kd (some lo) c kc)
/-- fixed cells of a kind and of a length: all with the bounds of their kind -/
def y_rgn (U : y_WT) (kd : Nat) (c : Nat ⊕ Nat) (kc : Nat) (n : Int) : Bool := (List.range (w_NF U)).all fun A => match w_FK U A with
  | some c' => (match y_keq c' c with
    | true => (match w_RG U 3 (some A) c 0 with
      | some q => decide (n < q.1) || decide (q.2 < n) || y_req (w_RG U kd (some A) c kc) (w_RG U kd none c kc)
      | none => y_req (w_RG U kd (some A) c kc) (w_RG U kd none c kc))
    | false => true)
  | none => y_req (w_RG U kd (some A) c kc) (w_RG U kd none c kc)
/-- what a written value owes where the place is not known: by a range of fixed cells, by the length -/
def y_owr (U : y_WT) (kd : Nat) (c : Nat ⊕ Nat) (a : g_LE) (kc : Nat) (v : g_LE) (ms : List y_ME) (lo m n : Nat) : Option (List g_LE) := match m with
  | 6 => (match y_rge U kd c kc lo n with
    | true => some (y_bnd (w_RG U kd none c kc) v ++ [g_ac (-(lo : Int)) a, g_ac ((lo : Int) + (n : Int) - 1) (g_k (-1) a)])
    | false => none)
  | 7 => (match y_rgu U kd c kc lo n with
    | true => some ((y_bnd (w_RG U kd none c kc) v ++ y_bnd (w_RG U kd (some lo) c kc) v) ++ [g_ac (-(lo : Int)) a, g_ac ((lo : Int) + (n : Int) - 1) (g_k (-1) a)])
    | false => none)
  | 8 => (match y_ent ms 3 a [] with
    | some L => (match y_adr L with
      | some n' => (match y_rgn U kd c kc (n' : Int) with
        | true => some (y_bnd (w_RG U kd none c kc) v)
        | false => none)
      | none => none)
    | none => none)
  | _ => none
def y_ows (U : y_WT) (kd : Nat) (c : Nat ⊕ Nat) (a : g_LE) (kc : Nat) (v : g_LE) (ms : List y_ME) (s : y_Str) : Option (List g_LE × y_Str) := match y_adr a, s with
  | none, [(lo, .negSucc m), (n, _)] :: s1 => (match y_owr U kd c a kc v ms lo m n with
    | some L => some (L, s1)
    | none => none)
  | _, _ => some (y_owe U kd c a kc v, s)
def y_put (U : y_WT) (fp : Nat → List g_LE → List y_MI) (N : List y_MI) (t0 : Option g_LE) (S : y_S) (kd : Nat) (c : Nat ⊕ Nat) (a k : g_LE) (kc : Nat) (v : g_LE) (s : y_Str) : Option (y_S × y_Str) := match y_ows U kd c a kc v (s_m S) s with
  | none => none
  | some (L, s0) => match y_cks (s_f S) s0 L with
    | none => none
    | some s1 => match y_covs (s_f S) N t0 (y_its kd c a k) s1 with
      | none => none
      | some s2 => match y_flt (s_f S) (y_its kd c a k) (s_m S) s2 with
        | none => none
        | some (ms, s3) => match y_fla fp (s_f S) (y_its kd c a k) (s_a S) s3 with
          | none => none
          | some (as, s4) => some (y_chS S (y_ens kd c a k v ms) as, s4)
/-- what the tables keep -/
def y_UO (U : y_WT) : Prop := (∀ c, w_GN U c = true → ∀ kd A k, kd < 2 → w_RG U kd (some A) c k = w_RG U kd none c k) ∧ ∀ A, w_NF U ≤ A → ∀ kd c k, w_RG U kd (some A) c k = w_RG U kd none c k
/-- one place alone is another -/
def y_W1 (w w' : y_W) (kd A K : Nat) : Prop := (∀ kd' a k, ¬ ((kd' = kd ∨ (kd' = 8 ∧ kd = 0)) ∧ a = A ∧ k = K) → y_rd w' kd' a k = y_rd w kd' a k) ∧ e_K w'.1 = e_K w.1 ∧ e_N w'.1 = e_N w.1 ∧ e_T w'.1 = e_T w.1 ∧ e_Z w'.1 = e_Z w.1
section Y_PU
variable {U : y_WT} {AT : Nat → List Int → y_W → Prop} {fp : Nat → List g_LE → List y_MI} {r r' : Nat → Int} {S S' : y_S} {lv : e_LV} {stk : List Value} {w w' : y_W} {s s' : y_Str} {F : List g_LE} {N : List y_MI} {t0 : Option g_LE}
theorem y_bnd_ok (h0 : r 0 = 1) {q : Option (Int × Int)} {v : g_LE} (h : ∀ f ∈ y_bnd q v, 0 ≤ g_ev r f) {lo hi : Int} (hq : q = some (lo, hi)) : lo ≤ g_ev r v ∧ g_ev r v ≤ hi := by
  subst hq
  have h1 := h (g_ac (-lo) v) List.mem_cons_self
  have h2 := h (g_ac hi (g_k (-1) v)) (List.mem_cons_of_mem _ List.mem_cons_self)
  rw [g_ev_ac r h0] at h1 h2
  rw [g_ev_k] at h2
  omega
theorem y_r8_0 {w : y_W} {a k : Nat} {c : Nat ⊕ Nat} (h : e_K w.1 a = some c) (hc : c ≠ .inl 12) : y_r8 w a k = 0 := by
  unfold y_r8
  split
  · rename_i h1 h2
    rw [h] at h2
    exact absurd (Option.some.inj h2) hc
  · rfl
theorem y_r8_1 {w : y_W} {a k : Nat} (h : e_K w.1 a = some (.inl 12)) (ha : a < e_T w.1) : y_r8 w a k = (e_I w.1 a k).toInt := by
  unfold y_r8
  rw [h, Nat.blt_eq.mpr ha]
  all_goals rfl
theorem y_r8_T {w : y_W} {a k : Nat} (h : e_T w.1 ≤ a) : y_r8 w a k = 0 := by
  unfold y_r8
  split
  · rename_i h1 h2
    have := Nat.blt_eq.mp h1
    omega
  · rfl
theorem y_r8_cg {w w' : y_W} {a k : Nat} (h1 : e_T w'.1 = e_T w.1) (h2 : e_K w'.1 = e_K w.1) (h3 : e_I w'.1 a k = e_I w.1 a k) : y_r8 w' a k = y_r8 w a k := by
  unfold y_r8
  rw [h1, h2, h3]
theorem y_its_m {kd : Nat} {c : Nat ⊕ Nat} {a k : g_LE} : y_itm kd a k ∈ y_its kd c a k := by
  unfold y_its
  split
  · exact List.mem_cons_self
  · exact List.mem_cons_self
theorem y_W1_fr {kd A K : Nat} {c : Nat ⊕ Nat} (h : y_W1 w w' kd A K) (hK : e_K w.1 A = some c) {a k : g_LE} (ha : g_ev r a = A) (hk : g_ev r k = K) : y_Fr r (y_its kd c a k) w w' := by
  obtain ⟨h1, h2, h3, h4, h5⟩ := h
  refine ⟨fun kd' a' k' _ hn => ?_, fun a c hc => ⟨by rw [h2]; exact hc, by rw [h3]⟩, by rw [h4]; exact Nat.le_refl _, by rw [h5]; exact Nat.le_refl _⟩
  have cv : ∀ {q : Nat}, y_itm q a k ∈ y_its kd c a k → kd' = q → a' = A → k' = K → False := by
    intro q hq e1 e2 e3
    refine hn _ hq ⟨e1.symm, Or.inr (Or.inr ⟨?_, ?_, fun p hp => ?_⟩)⟩
    · rw [e2]; exact Int.le_of_eq ha
    · rw [e2]; exact Int.le_of_eq ha.symm
    · cases hp
      rw [e3]
      exact ⟨Int.le_of_eq hk, Int.le_of_eq hk.symm⟩
  by_cases hs : (kd' = kd ∨ (kd' = 8 ∧ kd = 0)) ∧ a' = A ∧ k' = K
  · obtain ⟨hs1, e2, e3⟩ := hs
    rcases hs1 with e1 | ⟨e1, e0⟩
    · exact (cv y_its_m e1 e2 e3).elim
    · by_cases hc : c = .inl 12
      · subst hc e0
        exact (cv (q := 8) (List.mem_cons_of_mem _ List.mem_cons_self) e1 e2 e3).elim
      · subst e1 e2
        have g1 : y_rd w' 8 a' k' = 0 := y_r8_0 (by rw [h2]; exact hK) hc
        have g2 : y_rd w 8 a' k' = 0 := y_r8_0 hK hc
        rw [g1, g2]
  · exact h1 kd' a' k' hs
theorem y_req_ok {x y : Option (Int × Int)} (h : y_req x y = true) {lo hi : Int} (hq : x = some (lo, hi)) : y = some (lo, hi) := by
  subst hq
  unfold y_req at h
  dsimp only at h
  split at h
  · rename_i l' h'
    rw [Bool.and_eq_true] at h
    rw [g_ieq_ok h.1, g_ieq_ok h.2]
  · cases h
theorem y_keq_rf : ∀ (c : Nat ⊕ Nat), y_keq c c = true
  | .inl x => by show Nat.beq x x = true; exact Nat.beq_refl x
  | .inr x => by show Nat.beq x x = true; exact Nat.beq_refl x
theorem y_rgn_ok (hU : y_UO U) (hI : y_IV U w) {kd : Nat} {c : Nat ⊕ Nat} {kc A : Nat} {n : Int} (h : y_rgn U kd c kc n = true) (hK : e_K w.1 A = some c) (hn : y_rd w 3 A 0 = n) (hc0 : y_rk c 0 = 0) {lo hi : Int} (hq : w_RG U kd (some A) c kc = some (lo, hi)) : w_RG U kd none c kc = some (lo, hi) := by
  by_cases hA : A < w_NF U
  · have h1 := List.all_eq_true.mp h A (List.mem_range.mpr hA)
    split at h1
    · rename_i c' hc'
      have h2 := hI.1.2 A c' hc'
      rw [hK] at h2
      cases h2
      rw [y_keq_rf] at h1
      dsimp only at h1
      split at h1
      · rename_i q hq3
        have h4 := (hI.2.2 A c hK).2.1 3 0 q.1 q.2 (by decide) (Or.inr (by rw [hc0]; exact hq3))
        rw [hn] at h4
        rw [Bool.or_eq_true, Bool.or_eq_true] at h1
        rcases h1 with (h1 | h1) | h1
        · have := of_decide_eq_true h1
          omega
        · have := of_decide_eq_true h1
          omega
        · exact y_req_ok h1 hq
      · exact y_req_ok h1 hq
    · exact y_req_ok h1 hq
  · rw [hU.2 A (by omega)] at hq
    exact hq
theorem y_ows_ok (hU : y_UO U) (h0 : r 0 = 1) (hI : y_IV U w) {ms : List y_ME} (hm : ∀ m ∈ ms, y_dM r w m) {kd : Nat} {c : Nat ⊕ Nat} {a v : g_LE} {kc A : Nat} {L : List g_LE} (h : y_ows U kd c a kc v ms s = some (L, s')) (hb : ∀ f ∈ L, 0 ≤ g_ev r f) (ha : g_ev r a = A) (hK : e_K w.1 A = some c) : (∀ {lo hi : Int}, w_RG U kd none c kc = some (lo, hi) → lo ≤ g_ev r v ∧ g_ev r v ≤ hi) ∧ ∀ lo hi, w_RG U kd (some A) c kc = some (lo, hi) → lo ≤ g_ev r v ∧ g_ev r v ≤ hi := by
  unfold y_ows at h
  split at h
  · rename_i lo0 m0 n0 z0 s1 hadr
    split at h
    · rename_i L' hr
      cases h
      unfold y_owr at hr
      split at hr
      · split at hr
        · rename_i hr2
          cases hr
          refine ⟨fun hq => y_bnd_ok h0 (fun f hf => hb f (List.mem_append_left _ hf)) hq, fun lo hi hq => ?_⟩
          have g1 := hb _ (List.mem_append_right _ List.mem_cons_self)
          have g2 := hb _ (List.mem_append_right _ (List.mem_cons_of_mem _ List.mem_cons_self))
          rw [g_ev_ac r h0, ha] at g1
          rw [g_ev_ac r h0, g_ev_k, ha] at g2
          have h3 := List.all_eq_true.mp hr2 (A - lo0) (List.mem_range.mpr (by omega))
          have e3 : lo0 + (A - lo0) = A := by omega
          rw [e3] at h3
          exact y_bnd_ok h0 (fun f hf => hb f (List.mem_append_left _ hf)) (y_req_ok h3 hq)
        · cases hr
      · split at hr
        · rename_i hr2
          cases hr
          refine ⟨fun hq => y_bnd_ok h0 (fun f hf => hb f (List.mem_append_left _ (List.mem_append_left _ hf))) hq, fun lo hi hq => ?_⟩
          have g1 := hb _ (List.mem_append_right _ List.mem_cons_self)
          have g2 := hb _ (List.mem_append_right _ (List.mem_cons_of_mem _ List.mem_cons_self))
          rw [g_ev_ac r h0, ha] at g1
          rw [g_ev_ac r h0, g_ev_k, ha] at g2
          have h3 := List.all_eq_true.mp hr2 (A - lo0) (List.mem_range.mpr (by omega))
          have e3 : lo0 + (A - lo0) = A := by omega
          rw [e3] at h3
          exact y_bnd_ok h0 (fun f hf => hb f (List.mem_append_left _ (List.mem_append_right _ hf))) (y_req_ok h3 hq)
        · cases hr
      · split at hr
        · rename_i Le hL
          split at hr
          · rename_i n' hn'
            split at hr
            · rename_i hr2
              cases hr
              have e1 := (y_ent_ok hm (by decide) hL).1
              rw [ha, Int.toNat_natCast] at e1
              refine ⟨fun hq => y_bnd_ok h0 hb hq, fun lo hi hq => y_bnd_ok h0 hb ?_⟩
              refine y_rgn_ok hU hI hr2 hK (show y_rd w 3 A 0 = (n' : Int) from ?_) (by cases c <;> rfl) hq
              have e2 := y_adr_ok h0 hn'
              have e3 := y_rd_nn (w := w) (a := A) (k := (g_ev r []).toNat) (Or.inr rfl : 3 = 2 ∨ 3 = 3)
              have e4 : (g_ev r ([] : g_LE)).toNat = 0 := rfl
              rw [e4] at e1 e3
              omega
            · cases hr
          · cases hr
        · cases hr
      · cases hr
    · cases h
  · cases h
    have hb1 : ∀ {lo hi : Int}, w_RG U kd none c kc = some (lo, hi) → lo ≤ g_ev r v ∧ g_ev r v ≤ hi := fun hq => y_bnd_ok h0 (fun f hf => hb f (List.mem_append_left _ hf)) hq
    refine ⟨hb1, fun lo hi hq => ?_⟩
    have hb3 : ∀ f ∈ (match y_adr a with
      | some A => y_bnd (w_RG U kd (some A) c kc) v
      | none => match Nat.blt kd 2 && w_GN U c with
        | true => []
        | false => [g_ac (-(w_NF U : Int)) a]), 0 ≤ g_ev r f := fun f hf => hb f (List.mem_append_right _ hf)
    split at hb3
    · rename_i A' hA'
      have h9 := y_adr_ok h0 hA'
      rw [ha] at h9
      have h10 : A = A' := h9
      subst h10
      exact y_bnd_ok h0 hb3 hq
    · split at hb3
      · rename_i hg
        rw [Bool.and_eq_true] at hg
        rw [hU.1 c hg.2 kd A kc (Nat.blt_eq.mp hg.1)] at hq
        exact hb1 hq
      · have h9 := hb3 _ List.mem_cons_self
        rw [g_ev_ac r h0, ha] at h9
        rw [hU.2 A (by omega)] at hq
        exact hb1 hq
theorem y_put_ok (hU : y_UO U) (hA : y_AO AT fp) {kd : Nat} {c : Nat ⊕ Nat} {a k v : g_LE} {kc A K : Nat} (h : y_put U fp N t0 S kd c a k kc v s = some (S', s')) (kD : y_DD U AT r S lv stk w) (hkd : kd < 3) (ha : g_ev r a = A) (hk : g_ev r k = K) (hK : e_K w.1 A = some c) (hkc : y_rk c K = kc) (hw : y_W1 w w' kd A K) (hx : y_rd w' kd A K = g_ev r v) (hp : ∀ b, kd = 2 → e_P w'.1 A K = some b → y_pt (w_KT U) (w_LT U) w.1 (w_PT U c kc) b) : y_DD U AT r S' lv stk w' ∧ (s_n S' = s_n S ∧ s_l S' = s_l S ∧ s_s S' = s_s S) ∧ y_Fr r (y_its kd c a k) w w' ∧ ∀ m ∈ y_its kd c a k, ∀ {kd' a' k' : Nat}, y_cvr r m kd' a' k' → (∃ n ∈ N, y_cvr r n kd' a' k') ∨ (kd' < 4 ∧ ∃ t, t0 = some t ∧ g_ev r t ≤ (a' : Int)) := by
  have h0 := kD.1
  have hF := kD.2.2.2.2.1
  have hfr := y_W1_fr hw hK ha hk
  unfold y_put at h
  split at h
  · cases h
  rename_i L0 s0 hows
  split at h
  · cases h
  · rename_i s1 hb
    split at h
    · cases h
    · rename_i s2 hcv
      split at h
      · cases h
      · rename_i ms s3 hms
        split at h
        · cases h
        · rename_i as s4 has
          cases h
          have hb := y_cks_ok h0 hF hb
          obtain ⟨hb1, hb2⟩ := y_ows_ok hU h0 kD.2.2.2.2.2.2 kD.2.2.2.1 hows hb ha hK
          have hI := kD.2.2.2.2.2.2
          obtain ⟨hT, hL, hI⟩ := hI
          obtain ⟨w1, w2, w3, w4, w5⟩ := hw
          have hI' : y_IV U w' := by
            refine ⟨⟨by rw [w4]; exact hT.1, fun a' c' hq => by rw [w2]; exact hT.2 a' c' hq⟩, ⟨by rw [w4]; exact hL.1, fun kd' a' k' h3 hge => ?_⟩, fun a' c' hc' => ?_⟩
            · rw [w4] at hge
              have hAT := (hI A c hK).1
              rw [w1 kd' a' k' (fun hq => by have := hq.2.1; omega)]
              exact hL.2 kd' a' k' h3 hge
            rw [w2] at hc'
            obtain ⟨i1, i2, i3⟩ := hI a' c' hc'
            refine ⟨by rw [w4]; exact i1, fun kd' k' lo hi h4 hq => ?_, fun k' b hb' => ?_⟩
            · by_cases hs : kd' = kd ∧ a' = A ∧ k' = K
              · obtain ⟨rfl, rfl, rfl⟩ := hs
                rw [hK] at hc'
                cases hc'
                rw [hx]
                rw [hkc] at hq
                rcases hq with hq | hq
                · exact hb1 hq
                · exact hb2 lo hi hq
              · rw [w1 kd' a' k' (fun hq => hs ⟨hq.1.resolve_right (fun h8 => by omega), hq.2⟩)]
                exact i2 kd' k' lo hi h4 hq
            · refine y_pt_ch hfr.2.1 ?_
              by_cases hs : 2 = kd ∧ a' = A ∧ k' = K
              · obtain ⟨rfl, rfl, rfl⟩ := hs
                rw [hK] at hc'
                cases hc'
                rw [hkc]
                exact hp b rfl hb'
              · have h9 : y_en (e_P w'.1 a' k') = y_en (e_P w.1 a' k') := w1 2 a' k' (fun hq => hs ⟨hq.1.resolve_right (fun h8 => by omega), hq.2⟩)
                rw [hb', y_en_s] at h9
                cases hp2 : e_P w.1 a' k' with
                | none =>
                  rw [hp2] at h9
                  have h10 : (b : Int) + 1 = 0 := h9
                  omega
                | some b2 =>
                  rw [hp2, y_en_s] at h9
                  have h10 : b = b2 := by omega
                  rw [h10]
                  exact i3 k' b2 hp2
          have hd := y_chg hA kD hfr hI' hms has
          obtain ⟨d0, d1, d2, d3, d4, d5, d6⟩ := hd
          have hm0 : y_dM r w' (kd, a, k, v) := by
            unfold y_dM
            split
            · rename_i h7
              exact absurd (show kd = 7 from h7) (by omega)
            · refine ⟨?_, fun _ => ?_, ?_, ?_⟩
              · show y_rd w' kd (g_ev r a).toNat (g_ev r k).toNat = g_ev r v
                rw [ha, hk]
                exact hx
              · show (g_ev r a).toNat < e_T w'.1
                rw [ha, w4]
                exact (hI A c hK).1
              · show 0 ≤ g_ev r a
                rw [ha]
                exact Int.natCast_nonneg _
              · show 0 ≤ g_ev r k
                rw [hk]
                exact Int.natCast_nonneg _
          refine ⟨⟨d0, d1, d2, fun m hm => ?_, d4, d5, d6⟩, ⟨rfl, rfl, rfl⟩, hfr, fun m hm kd' a' k' hc => y_covs_ok h0 hF hcv m hm hc⟩
          have hm : m ∈ y_ens kd c a k v ms := hm
          unfold y_ens at hm
          split at hm
          · rcases List.mem_cons.mp hm with hm | hm
            · subst hm
              exact hm0
            · rcases List.mem_cons.mp hm with hm | hm
              · subst hm
                refine ⟨?_, fun hq => absurd (show (8:Nat) < 4 from hq) (by decide), ?_, ?_⟩
                · show y_rd w' 8 (g_ev r a).toNat (g_ev r k).toNat = g_ev r v
                  rw [ha, hk]
                  show y_r8 w' A K = g_ev r v
                  rw [y_r8_1 (by rw [w2]; exact hK) (by rw [w4]; exact (hI A _ hK).1)]
                  exact hx
                · show 0 ≤ g_ev r a
                  rw [ha]
                  exact Int.natCast_nonneg _
                · show 0 ≤ g_ev r k
                  rw [hk]
                  exact Int.natCast_nonneg _
              · exact d3 m hm
          · rcases List.mem_cons.mp hm with hm | hm
            · subst hm
              exact hm0
            · exact d3 m hm
end Y_PU
end
