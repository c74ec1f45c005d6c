/-! PART 47a: steps of the checker alone, about pointers: where they lie, how long what they point to is -/
noncomputable section
/-- no fixed cell is of a kind -/
def y_nofx (U : y_WT) (c : Nat ⊕ Nat) : Bool := (List.range (w_NF U)).all fun A => match w_FK U A with
  | some c' => !(y_keq c' c)
  | none => false
/-- fixed cells from lo on, n of them: the same bounds; of one kind -/
def y_unf (U : y_WT) (kd : Nat) (c : Nat ⊕ Nat) (kc lo n : Nat) (l h : Int) : Bool := (List.range n).all fun i => match w_RG U kd (some (lo + i)) c kc with
  | some q => g_ieq q.1 l && g_ieq q.2 h
  | none => false
def y_fku (U : y_WT) (c : Nat ⊕ Nat) (lo n : Nat) : Bool := (List.range n).all fun i => match w_FK U (lo + i) with
  | some c' => y_keq c' c
  | none => false
def y_p30 (U : y_WT) (S : y_S) (j : Nat) (s : y_Str) : Option (y_S × y_Str) := match (s_s S)[j]? with
  | some (t + 2, e) => (match w_KT U t with
    | some c => (match y_nofx U c, y_ck (s_f S) s (g_ac (-1) e) with
      | true, some s1 => some (y_af S [g_ac (-((w_NF U : Int) + 1)) e], s1)
      | _, _ => none)
    | none => none)
  | _ => none
def y_p31 (U : y_WT) (S : y_S) (j t' f : Nat) (s : y_Str) : Option (y_S × y_Str) := match (s_s S)[j]? with
  | some (t + 2, e) => (match w_KT U t, w_KT U t', w_LT U t' with
    | some c, some c', none => (match y_keq c c' with
      | true => (match f with
        | 0 => some (y_st S ((s_s S).set j (t' + 2, e)), s)
        | _ => match w_LT U t, y_ck (s_f S) s (g_ac (-1) e) with
          | some n, some s1 => some (y_am (y_st S ((s_s S).set j (t' + 2, e))) (3, g_ac (-1) e, [], g_c (n : Int)), s1)
          | _, _ => none)
      | false => none)
    | _, _, _ => none)
  | _ => none
def y_p32 (U : y_WT) (S : y_S) (lo n : Nat) (s : y_Str) : Option (y_S × y_Str) := match s_s S with
  | (t + 2, e) :: _ => (match w_KT U t with
    | some (.inr ti) => (match w_RG U 3 (some lo) (.inr ti) 0 with
      | some q => (match y_unf U 3 (.inr ti) 0 lo n q.1 q.1, y_cks (s_f S) s [g_ac (-1 - (lo : Int)) e, g_ac ((lo : Int) + (n : Int)) (g_k (-1) e)] with
        | true, some s1 => some (y_am S (3, g_ac (-1) e, [], g_c q.1), s1)
        | _, _ => none)
      | none => none)
    | _ => none)
  | _ => none
/-- what a pointer points to is there -/
def y_pT (U : y_WT) (S : y_S) (q : Option y_SV) (s : y_Str) : Option (y_S × y_Str) := match q, y_ent (s_m S) 4 [] [] with
  | some (t + 2, e), some z => (match w_KT U t with
    | some _ => some (y_af S [g_sub z e], s)
    | none => none)
  | _, _ => none
def y_p34 (U : y_WT) (S : y_S) (i : Nat) (s : y_Str) : Option (y_S × y_Str) := match (s_m S)[i]?, y_ent (s_m S) 4 [] [] with
  | some (2, a, k, v), some z => (match y_adr a, y_adr k with
    | some A, some K => (match w_FK U A with
      | some c => (match w_KT U (w_PT U c (y_rk c K)) with
        | some _ => some (y_af S [g_sub z v], s)
        | none => none)
      | none => none)
    | _, _ => none)
  | _, _ => none
def y_p36 (U : y_WT) (S : y_S) (i lo n : Nat) (s : y_Str) : Option (y_S × y_Str) := match (s_m S)[i]? with
  | some (kd, a, k, v) => (match Nat.blt kd 4, w_FK U lo with
    | true, some (.inr ti) => (match w_RG U kd (some lo) (.inr ti) 0 with
      | some q => (match y_unf U kd (.inr ti) 0 lo n q.1 q.2 && y_fku U (.inr ti) lo n, y_cks (s_f S) s [g_ac (-(lo : Int)) a, g_ac ((lo : Int) + (n : Int) - 1) (g_k (-1) a)] with
        | true, some s1 => some (y_af S (y_rgv v q.1 q.2), s1)
        | _, _ => none)
      | none => none)
    | _, _ => none)
  | none => none
/-- how long what a pointer points to may be -/
def y_p37 (U : y_WT) (S : y_S) (i j : Nat) (s : y_Str) : Option (y_S × y_Str) := match (s_m S)[i]?, (s_s S)[j]? with
  | some (3, a, _, v), some (t + 2, e) => (match g_eq a (g_ac (-1) e), w_KT U t with
    | true, some (.inr ti) => (match w_RG U 3 none (.inr ti) 0, y_ck (s_f S) s (g_ac (-1) e) with
      | some q, some s1 => some (y_af S (y_rgv v q.1 q.2), s1)
      | _, _ => none)
    | _, _ => none)
  | _, _ => none
/-- a product is written down by its forms -/
def y_p38 (S : y_S) (s : y_Str) : Option (y_S × y_Str) := match s with
  | a :: k :: s1 => (match y_prd (s_m S) a k with
    | some e => some (y_am S (7, a, k, e), s1)
    | none => none)
  | _ => none
/-- a field of what a pointer points to is read ahead -/
def y_p39 (U : y_WT) (S : y_S) (kd j sl : Nat) (s : y_Str) : Option (y_S × y_Str) := match (s_s S)[j]? with
  | some (t + 2, e) => (match w_KT U t, y_ck (s_f S) s (g_ac (-1) e), Nat.blt kd 3 with
    | some c, some s1, true => (match y_get U S kd c (g_ac (-1) e) (g_c (sl : Int)) (y_rk c sl) with
      | some (S1, _) => some (S1, s1)
      | none => none)
    | _, _, _ => none)
  | _ => none
/-- pointers to different kinds of cells are different -/
def y_p40 (U : y_WT) (S : y_S) (j i : Nat) (s : y_Str) : Option (y_S × y_Str) := match (s_s S)[j]?, y_lok (s_l S) i with
  | some (t + 2, e), some (t' + 2, e') => (match w_KT U t, w_KT U t', y_cks (s_f S) s [g_sub e e', g_sub e' e, g_ac (-1) e] with
    | some c, some c', some s1 => (match y_keq c c' with
      | true => none
      | false => some (y_af S [g_c (-1)], s1))
    | _, _, _ => none)
  | _, _ => none
/-- an int of a node is read ahead, and stands among those of nodes -/
def y_p41 (U : y_WT) (S : y_S) (j sl : Nat) (s : y_Str) : Option (y_S × y_Str) := match (s_s S)[j]? with
  | some (t + 2, e) => (match w_KT U t, y_ck (s_f S) s (g_ac (-1) e), y_old S (g_ac (-1) e) with
    | some (.inl 12), some s1, true => (match y_get U S 0 (.inl 12) (g_ac (-1) e) (g_c (sl : Int)) sl with
      | some (S1, v) => some (y_am S1 (8, g_ac (-1) e, g_c (sl : Int), v), s1)
      | none => none)
    | _, _, _ => none)
  | _ => none
/-- what all arrays hold together is not below 0 -/
def y_p42 (S : y_S) (i : Nat) (s : y_Str) : Option (y_S × y_Str) := match (s_m S)[i]? with
  | some (5, _, _, v) => some (y_af S [v], s)
  | _ => none
/-- a pointer of a local lies above the fixed cells -/
def y_p43 (U : y_WT) (S : y_S) (i : Nat) (s : y_Str) : Option (y_S × y_Str) := match y_lok (s_l S) i with
  | some (t + 2, e) => (match w_KT U t with
    | some c => (match y_nofx U c, y_ck (s_f S) s (g_ac (-1) e) with
      | true, some s1 => some (y_af S [g_ac (-((w_NF U : Int) + 1)) e], s1)
      | _, _ => none)
    | none => none)
  | _ => none
def y_gpt (U : y_WT) (S : y_S) (c : Nat) (x : Int) (y : Nat) (z : Int) (s : y_Str) : Option (y_S × y_Str) := match c - 30 with
  | 0 => y_p30 U S y s
  | 1 => y_p31 U S y x.toNat z.toNat s
  | 2 => y_p32 U S y z.toNat s
  | 3 => y_pT U S (y_lok (s_l S) y) s
  | 4 => y_p34 U S y s
  | 5 => y_pT U S ((s_s S)[y]?) s
  | 6 => y_p36 U S x.toNat y z.toNat s
  | 7 => y_p37 U S x.toNat y s
  | 8 => y_p38 S s
  | 9 => y_p39 U S x.toNat y z.toNat s
  | 10 => y_p40 U S y z.toNat s
  | 11 => y_p41 U S y z.toNat s
  | 12 => y_p42 S x.toNat s
  | 13 => y_p43 U S y s
  | _ => none
section Y_PT
variable {U : y_WT} {AT : Nat → List Int → y_W → Prop} {r r' : Nat → Int} {S S' : y_S} {lv : e_LV} {stk : List Value} {w : y_W} {s s' : y_Str}
theorem y_dS_at {KT : Nat → Option (Nat ⊕ Nat)} {LT : Nat → Option Nat} {st : e_ST} : ∀ {l : List y_SV} {m : List Value} {j : Nat} {q : y_SV}, y_dS KT LT r st l m → l[j]? = some q → ∃ v, y_dV KT LT r st q v
  | [], _, _, _, _, h => by cases h
  | _ :: _, [], _, _, k, _ => k.elim
  | p :: l, v :: m, 0, q, k, h => by cases h; exact ⟨v, k.1⟩
  | p :: l, v :: m, j + 1, q, k, h => y_dS_at k.2 (by simpa using h)
theorem y_dS_set {KT : Nat → Option (Nat ⊕ Nat)} {LT : Nat → Option Nat} {st : e_ST} {p q : y_SV} (hq : ∀ v, y_dV KT LT r st q v → y_dV KT LT r st p v) : ∀ {l : List y_SV} {m : List Value} {j : Nat}, y_dS KT LT r st l m → l[j]? = some q → y_dS KT LT r st (l.set j p) m
  | [], _, _, _, h => by cases h
  | _ :: _, [], _, k, _ => k.elim
  | a :: l, v :: m, 0, k, h => by cases h; exact ⟨hq v k.1, k.2⟩
  | a :: l, v :: m, j + 1, k, h => ⟨k.1, y_dS_set hq k.2 (by simpa using h)⟩
/-- a pointer that is there: its cell, of its kind -/
theorem y_dV_p {t : Nat} {e : g_LE} {v : Value} (k : y_dV (w_KT U) (w_LT U) r w.1 (t + 2, e) v) (hI : y_IV U w) {c : Nat ⊕ Nat} (hc : w_KT U t = some c) : g_ev r e = 0 ∨ ∃ b : Nat, g_ev r e = (b : Int) + 1 ∧ e_K w.1 b = some c ∧ b < e_T w.1 ∧ ∀ n, w_LT U t = some n → e_N w.1 b = n := by
  obtain ⟨o, h1, h2, h3⟩ := k
  cases o with
  | none => exact Or.inl h2.symm
  | some b =>
    obtain ⟨h4, h5⟩ := h3 b rfl c hc
    exact Or.inr ⟨b, by rw [← h2, y_en_s], h4, (hI.2.2 b c h4).1, h5⟩
theorem y_nofx_ok (hI : y_IV U w) {c : Nat ⊕ Nat} (h : y_nofx U c = true) {b : Nat} (hb : e_K w.1 b = some c) : w_NF U ≤ b := by
  by_cases hlt : b < w_NF U
  · have h1 := List.all_eq_true.mp h b (List.mem_range.mpr hlt)
    split at h1
    · rename_i c' hc'
      have h2 := hI.1.2 b c' hc'
      rw [hb] at h2
      cases h2
      cases c with
      | inl x => exact absurd h1 (by show ¬ ((!(Nat.beq x x)) = true); rw [Nat.beq_refl]; decide)
      | inr x => exact absurd h1 (by show ¬ ((!(Nat.beq x x)) = true); rw [Nat.beq_refl]; decide)
    · cases h1
  · omega
theorem y_unf_ok {kd : Nat} {c : Nat ⊕ Nat} {kc lo n : Nat} {l h : Int} (hu : y_unf U kd c kc lo n l h = true) {A : Nat} (h1 : lo ≤ A) (h2 : A < lo + n) : w_RG U kd (some A) c kc = some (l, h) := by
  have h3 := List.all_eq_true.mp hu (A - lo) (List.mem_range.mpr (by omega))
  rw [show lo + (A - lo) = A by omega] at h3
  split at h3
  · rename_i q hq
    rw [Bool.and_eq_true] at h3
    rw [hq, ← g_ieq_ok h3.1, ← g_ieq_ok h3.2]
  · cases h3
theorem y_fku_ok (hI : y_IV U w) {c : Nat ⊕ Nat} {lo n : Nat} (hu : y_fku U c lo n = true) {A : Nat} (h1 : lo ≤ A) (h2 : A < lo + n) : e_K w.1 A = some c := by
  have h3 := List.all_eq_true.mp hu (A - lo) (List.mem_range.mpr (by omega))
  rw [show lo + (A - lo) = A by omega] at h3
  split at h3
  · rename_i c' hc'
    have h4 := y_keq_ok h3
    subst h4
    exact hI.1.2 A _ hc'
  · cases h3
theorem y_p30_ok {j : Nat} (h : y_p30 U S j s = some (S', s')) (kD : y_DD U AT r S lv stk w) : ∃ r', y_ex S S' r r' ∧ y_DD U AT r' S' lv stk w := by
  have h0 := kD.1
  have hI := kD.2.2.2.2.2.2
  unfold y_p30 at h
  split at h
  · rename_i t e hj
    split at h
    · rename_i c hc
      split at h
      · rename_i s1 hn hck
        cases h
        obtain ⟨v, hv⟩ := y_dS_at kD.2.2.1 hj
        have h1 := y_ck_ok h0 kD.2.2.2.2.1 hck
        rw [g_ev_ac r h0] at h1
        refine ⟨r, y_ex.rf, y_D_f kD (y_sgl ?_)⟩
        rw [g_ev_ac r h0]
        rcases y_dV_p hv hI hc with h2 | ⟨b, h2, h3, -⟩
        · omega
        · have := y_nofx_ok hI hn h3
          omega
      · cases h
    · cases h
  · cases h
theorem y_p31_ok {j t' f : Nat} (h : y_p31 U S j t' f s = some (S', s')) (kD : y_DD U AT r S lv stk w) : ∃ r', y_ex S S' r r' ∧ y_DD U AT r' S' lv stk w := by
  have h0 := kD.1
  have hI := kD.2.2.2.2.2.2
  unfold y_p31 at h
  split at h
  · rename_i t e hj
    split at h
    · rename_i c c' hc hc' hl'
      split at h
      · rename_i hk
        have hk := y_keq_ok hk
        subst hk
        have hset : y_dS (w_KT U) (w_LT U) r w.1 ((s_s S).set j (t' + 2, e)) stk := by
          refine y_dS_set (fun v hv => ?_) kD.2.2.1 hj
          obtain ⟨o, h1, h2, h3⟩ := hv
          refine ⟨o, h1, h2, fun b hb kd hkd => ?_⟩
          rw [hc'] at hkd
          cases hkd
          exact ⟨(h3 b hb c hc).1, fun n hn => by rw [hl'] at hn; cases hn⟩
        have kS : y_DD U AT r (y_st S ((s_s S).set j (t' + 2, e))) lv stk w := y_D_st kD hset
        split at h
        · cases h
          exact ⟨r, y_ex.rf, kS⟩
        · split at h
          · rename_i n s1 hn hck
            cases h
            obtain ⟨v, hv⟩ := y_dS_at kD.2.2.1 hj
            have h1 := y_ck_ok h0 kD.2.2.2.2.1 hck
            rw [g_ev_ac r h0] at h1
            refine ⟨r, y_ex.rf, y_D_am kS ?_⟩
            rcases y_dV_p hv hI hc with h2 | ⟨b, h2, h3, h4, h5⟩
            · omega
            · have eb : (g_ev r (g_ac (-1) e)).toNat = b := by
                rw [g_ev_ac r h0]
                omega
              refine ⟨?_, fun _ => ?_, ?_, Int.le_refl 0⟩
              · show y_rd w 3 (g_ev r (g_ac (-1) e)).toNat _ = g_ev r (g_c (n : Int))
                rw [eb, y_rd_3, h5 n hn, g_ev_c r h0]
              · show (g_ev r (g_ac (-1) e)).toNat < e_T w.1
                rw [eb]
                exact h4
              · show 0 ≤ g_ev r (g_ac (-1) e)
                rw [g_ev_ac r h0]
                omega
          · cases h
      · cases h
    · cases h
  · cases h
theorem y_p32_ok {lo n : Nat} (h : y_p32 U S lo n s = some (S', s')) (kD : y_DD U AT r S lv stk w) : ∃ r', y_ex S S' r r' ∧ y_DD U AT r' S' lv stk w := by
  have h0 := kD.1
  have hI := kD.2.2.2.2.2.2
  unfold y_p32 at h
  split at h
  · rename_i t e l hs
    split at h
    · rename_i ti hc
      split at h
      · rename_i q hq
        split at h
        · rename_i s1 hu hck
          cases h
          have hall := y_cks_ok h0 kD.2.2.2.2.1 hck
          have g1 := hall _ List.mem_cons_self
          have g2 := hall _ (List.mem_cons_of_mem _ List.mem_cons_self)
          rw [g_ev_ac r h0] at g1 g2
          rw [g_ev_k] at g2
          obtain ⟨v, hv⟩ := y_dS_at (j := 0) (q := (t + 2, e)) kD.2.2.1 (by rw [hs]; rfl)
          refine ⟨r, y_ex.rf, y_D_am kD ?_⟩
          rcases y_dV_p hv hI hc with h2 | ⟨b, h2, h3, h4, h5⟩
          · omega
          · have eb : (g_ev r (g_ac (-1) e)).toNat = b := by
              rw [g_ev_ac r h0]
              omega
            have hr := y_unf_ok hu (A := b) (by omega) (by omega)
            have h6 := (hI.2.2 b _ h3).2.1 3 0 q.1 q.1 (by decide) (Or.inr hr)
            rw [y_rd_3] at h6
            refine ⟨?_, fun _ => ?_, ?_, Int.le_refl 0⟩
            · show y_rd w 3 (g_ev r (g_ac (-1) e)).toNat _ = g_ev r (g_c q.1)
              rw [eb, y_rd_3, g_ev_c r h0]
              omega
            · show (g_ev r (g_ac (-1) e)).toNat < e_T w.1
              rw [eb]
              exact h4
            · show 0 ≤ g_ev r (g_ac (-1) e)
              rw [g_ev_ac r h0]
              omega
        · cases h
      · cases h
    · cases h
  · cases h
theorem y_pT_ok {q : Option y_SV} (hq : ∀ z, q = some z → ∃ v, y_dV (w_KT U) (w_LT U) r w.1 z v) (h : y_pT U S q s = some (S', s')) (kD : y_DD U AT r S lv stk w) : ∃ r', y_ex S S' r r' ∧ y_DD U AT r' S' lv stk w := by
  have hI := kD.2.2.2.2.2.2
  unfold y_pT at h
  split at h
  · rename_i t e z hz
    split at h
    · rename_i c hc
      cases h
      obtain ⟨v, hv⟩ := hq _ rfl
      have hT : (e_T w.1 : Int) = g_ev r z := (y_ent_ok kD.2.2.2.1 (by decide) hz).1
      refine ⟨r, y_ex.rf, y_D_f kD (y_sgl ?_)⟩
      rw [g_ev_sub, ← hT]
      rcases y_dV_p hv hI hc with h2 | ⟨b, h2, h3, h4, h5⟩
      · omega
      · omega
    · cases h
  · cases h
theorem y_p34_ok {i : Nat} (h : y_p34 U S i s = some (S', s')) (kD : y_DD U AT r S lv stk w) : ∃ r', y_ex S S' r r' ∧ y_DD U AT r' S' lv stk w := by
  have h0 := kD.1
  have hI := kD.2.2.2.2.2.2
  unfold y_p34 at h
  split at h
  · rename_i a k v z hm hz
    split at h
    · rename_i A K hA hK
      split at h
      · rename_i c hc
        split at h
        · rename_i c2 hc2
          cases h
          have hT : (e_T w.1 : Int) = g_ev r z := (y_ent_ok kD.2.2.2.1 (by decide) hz).1
          have hM := (kD.2.2.2.1 _ (List.mem_of_getElem? hm)).1
          have ea : (g_ev r a).toNat = A := y_adr_ok h0 hA
          have ek : (g_ev r k).toNat = K := y_adr_ok h0 hK
          dsimp only at hM
          rw [ea, ek, y_rd_2] at hM
          refine ⟨r, y_ex.rf, y_D_f kD (y_sgl ?_)⟩
          rw [g_ev_sub, ← hT, ← hM]
          cases hp : e_P w.1 A K with
          | none =>
            show 0 ≤ (e_T w.1 : Int) - 0
            omega
          | some b =>
            have h1 := (hI.2.2 A c (hI.1.2 A c hc)).2.2 K b hp
            have h2 := (h1 c2 hc2).1
            have h3 := (hI.2.2 b c2 h2).1
            rw [y_en_s]
            omega
        · cases h
      · cases h
    · cases h
  · cases h
theorem y_p36_ok {i lo n : Nat} (h : y_p36 U S i lo n s = some (S', s')) (kD : y_DD U AT r S lv stk w) : ∃ r', y_ex S S' r r' ∧ y_DD U AT r' S' lv stk w := by
  have h0 := kD.1
  have hI := kD.2.2.2.2.2.2
  unfold y_p36 at h
  split at h
  · rename_i kd a k v hm
    split at h
    · rename_i ti hkd hfk
      split at h
      · rename_i q hq
        split at h
        · rename_i s1 hu hck
          cases h
          rw [Bool.and_eq_true] at hu
          have hkd := Nat.blt_eq.mp hkd
          have hall := y_cks_ok h0 kD.2.2.2.2.1 hck
          have g1 := hall _ List.mem_cons_self
          have g2 := hall _ (List.mem_cons_of_mem _ List.mem_cons_self)
          rw [g_ev_ac r h0] at g1 g2
          rw [g_ev_k] at g2
          have hM := kD.2.2.2.1 _ (List.mem_of_getElem? hm)
          have h1 : y_rd w kd (g_ev r a).toNat (g_ev r k).toNat = g_ev r v := by
            unfold y_dM at hM
            split at hM
            · rename_i h7
              have h7 : kd = 7 := h7
              omega
            · exact hM.1
          have hA := y_fku_ok hI hu.2 (A := (g_ev r a).toNat) (by omega) (by omega)
          have hr := y_unf_ok hu.1 (A := (g_ev r a).toNat) (by omega) (by omega)
          have h6 := (hI.2.2 _ _ hA).2.1 kd (g_ev r k).toNat q.1 q.2 hkd (Or.inr hr)
          rw [h1] at h6
          exact ⟨r, y_ex.rf, y_D_f kD (y_rgv_ok h0 h6.1 h6.2)⟩
        · cases h
      · cases h
    · cases h
  · cases h
theorem y_p37_ok {i j : Nat} (h : y_p37 U S i j s = some (S', s')) (kD : y_DD U AT r S lv stk w) : ∃ r', y_ex S S' r r' ∧ y_DD U AT r' S' lv stk w := by
  have h0 := kD.1
  have hI := kD.2.2.2.2.2.2
  unfold y_p37 at h
  split at h
  · rename_i a k v t e hm hj
    split at h
    · rename_i ti hae hc
      split at h
      · rename_i q s1 hq hck
        cases h
        obtain ⟨v0, hv⟩ := y_dS_at kD.2.2.1 hj
        have h1 := y_ck_ok h0 kD.2.2.2.2.1 hck
        rw [g_ev_ac r h0] at h1
        have hM := (kD.2.2.2.1 _ (List.mem_of_getElem? hm)).1
        dsimp only at hM
        rw [g_eq_ok hae, y_rd_3] at hM
        refine ⟨r, y_ex.rf, y_D_f kD ?_⟩
        rcases y_dV_p hv hI hc with h2 | ⟨b, h2, h3, h4, h5⟩
        · omega
        · have eb : (g_ev r (g_ac (-1) e)).toNat = b := by
            rw [g_ev_ac r h0]
            omega
          rw [eb] at hM
          have h6 := (hI.2.2 b _ h3).2.1 3 0 q.1 q.2 (by decide) (Or.inl hq)
          rw [y_rd_3, hM] at h6
          exact y_rgv_ok h0 h6.1 h6.2
      · cases h
    · cases h
  · cases h
theorem y_p38_ok (h : y_p38 S s = some (S', s')) (kD : y_DD U AT r S lv stk w) : ∃ r', y_ex S S' r r' ∧ y_DD U AT r' S' lv stk w := by
  have h0 := kD.1
  unfold y_p38 at h
  split at h
  · rename_i a k s1
    split at h
    · rename_i e he
      cases h
      refine ⟨r, y_ex.rf, y_D_am kD ?_⟩
      show g_ev r a * g_ev r k = g_ev r e
      exact (y_prd_ok h0 kD.2.2.2.1 he).symm
    · cases h
  · cases h
theorem y_p39_ok {kd j sl : Nat} (h : y_p39 U S kd j sl s = some (S', s')) (kD : y_DD U AT r S lv stk w) : ∃ r', y_ex S S' r r' ∧ y_DD U AT r' S' lv stk w := by
  have h0 := kD.1
  have hI := kD.2.2.2.2.2.2
  unfold y_p39 at h
  split at h
  · rename_i t e hj
    split at h
    · rename_i c s1 hc hck hkd
      split at h
      · rename_i S1 v1 hg
        cases h
        obtain ⟨v0, hv⟩ := y_dS_at kD.2.2.1 hj
        have h1 := y_ck_ok h0 kD.2.2.2.2.1 hck
        rw [g_ev_ac r h0] at h1
        have hkd := Nat.blt_eq.mp hkd
        rcases y_dV_p hv hI hc with h2 | ⟨b, h2, h3, h4, h5⟩
        · omega
        · have eb : (g_ev r (g_ac (-1) e)).toNat = b := by
            rw [g_ev_ac r h0]
            omega
          have es : (g_ev r (g_c (sl : Int))).toNat = sl := by
            rw [g_ev_c r h0]
            exact Int.toNat_natCast sl
          obtain ⟨r', x1, x2, -⟩ := y_get_ok hg kD (by omega) (by rw [eb]; exact h3) (by rw [es]) (by rw [g_ev_ac r h0]; omega) (by rw [g_ev_c r h0]; exact Int.natCast_nonneg sl)
          exact ⟨r', ⟨x1.1, x1.2.1⟩, x2⟩
      · cases h
    · cases h
  · cases h
theorem y_p40_ok {j i : Nat} (h : y_p40 U S j i s = some (S', s')) (kD : y_DD U AT r S lv stk w) : ∃ r', y_ex S S' r r' ∧ y_DD U AT r' S' lv stk w := by
  have h0 := kD.1
  have hI := kD.2.2.2.2.2.2
  unfold y_p40 at h
  split at h
  · rename_i t e t' e' hj hi
    split at h
    · rename_i c c' s1 hc hc' hck
      split at h
      · cases h
      · rename_i hk
        exfalso
        have hall := y_cks_ok h0 kD.2.2.2.2.1 hck
        have g1 := hall _ List.mem_cons_self
        have g2 := hall _ (List.mem_cons_of_mem _ List.mem_cons_self)
        have g3 := hall _ (List.mem_cons_of_mem _ (List.mem_cons_of_mem _ List.mem_cons_self))
        rw [g_ev_sub] at g1 g2
        rw [g_ev_ac r h0] at g3
        obtain ⟨v0, hv⟩ := y_dS_at kD.2.2.1 hj
        obtain ⟨v1, -, hv1⟩ := kD.2.1 _ (y_lok_mem hi)
        rcases y_dV_p hv hI hc with h2 | ⟨b, h2, h3, -⟩
        · omega
        · rcases y_dV_p hv1 hI hc' with h4 | ⟨b', h4, h5, -⟩
          · omega
          · have eb : b = b' := by omega
            subst eb
            rw [h3] at h5
            cases h5
            cases c with
            | inl x => exact absurd hk (by show ¬ (Nat.beq x x = false); rw [Nat.beq_refl]; decide)
            | inr x => exact absurd hk (by show ¬ (Nat.beq x x = false); rw [Nat.beq_refl]; decide)
    · cases h
  · cases h
theorem y_p41_ok {j sl : Nat} (h : y_p41 U S j sl s = some (S', s')) (kD : y_DD U AT r S lv stk w) : ∃ r', y_ex S S' r r' ∧ y_DD U AT r' S' lv stk w := by
  have h0 := kD.1
  have hI := kD.2.2.2.2.2.2
  unfold y_p41 at h
  split at h
  · rename_i t e hj
    split at h
    · rename_i s1 hc hck hold
      split at h
      · rename_i S1 v1 hg
        cases h
        obtain ⟨v0, hv⟩ := y_dS_at kD.2.2.1 hj
        have h1 := y_ck_ok h0 kD.2.2.2.2.1 hck
        rw [g_ev_ac r h0] at h1
        rcases y_dV_p hv hI hc with h2 | ⟨b, h2, h3, h4, h5⟩
        · omega
        · have eb : (g_ev r (g_ac (-1) e)).toNat = b := by
            rw [g_ev_ac r h0]
            omega
          have es : (g_ev r (g_c (sl : Int))).toNat = sl := by
            rw [g_ev_c r h0]
            exact Int.toNat_natCast sl
          obtain ⟨r', x1, x2, x3⟩ := y_get_ok hg kD (by decide) (by rw [eb]; exact h3) (by rw [es]; rfl) (by rw [g_ev_ac r h0]; omega) (by rw [g_ev_c r h0]; exact Int.natCast_nonneg sl)
          have h00 := x2.1
          have ee : g_ev r' (g_ac (-1) e) = g_ev r (g_ac (-1) e) := g_sc_ev (fun i hi => x1.1 i hi) hold
          refine ⟨r', ⟨x1.1, x1.2.1⟩, y_D_am x2 ⟨?_, fun hq => absurd (show (8:Nat) < 4 from hq) (by decide), ?_, ?_⟩⟩
          · show y_rd w 8 (g_ev r' (g_ac (-1) e)).toNat (g_ev r' (g_c (sl : Int))).toNat = g_ev r' v1
            rw [ee, eb, g_ev_c r' h00, Int.toNat_natCast]
            rw [eb, es] at x3
            rw [← x3]
            exact y_r8_1 h3 h4
          · show 0 ≤ g_ev r' (g_ac (-1) e)
            rw [ee, g_ev_ac r h0]
            omega
          · show 0 ≤ g_ev r' (g_c (sl : Int))
            rw [g_ev_c r' h00]
            exact Int.natCast_nonneg sl
      · cases h
    · cases h
  · cases h
theorem y_p42_ok {i : Nat} (h : y_p42 S i s = some (S', s')) (kD : y_DD U AT r S lv stk w) : ∃ r', y_ex S S' r r' ∧ y_DD U AT r' S' lv stk w := by
  unfold y_p42 at h
  split at h
  · rename_i a k v hm
    cases h
    have hM := (kD.2.2.2.1 _ (List.mem_of_getElem? hm)).1
    dsimp only at hM
    rw [y_rd_5] at hM
    refine ⟨r, y_ex.rf, y_D_f kD ?_⟩
    intro f hf
    rw [List.mem_singleton.mp hf, ← hM]
    exact Int.natCast_nonneg _
  · cases h
theorem y_p43_ok {i : Nat} (h : y_p43 U S i s = some (S', s')) (kD : y_DD U AT r S lv stk w) : ∃ r', y_ex S S' r r' ∧ y_DD U AT r' S' lv stk w := by
  have h0 := kD.1
  have hI := kD.2.2.2.2.2.2
  unfold y_p43 at h
  split at h
  · rename_i t e hi
    split at h
    · rename_i c hc
      split at h
      · rename_i s1 hn hck
        cases h
        obtain ⟨v, -, hv⟩ := kD.2.1 _ (y_lok_mem hi)
        have h1 := y_ck_ok h0 kD.2.2.2.2.1 hck
        rw [g_ev_ac r h0] at h1
        refine ⟨r, y_ex.rf, y_D_f kD (y_sgl ?_)⟩
        rw [g_ev_ac r h0]
        rcases y_dV_p hv hI hc with h2 | ⟨b, h2, h3, -⟩
        · omega
        · have := y_nofx_ok hI hn h3
          omega
      · cases h
    · cases h
  · cases h
theorem y_gpt_ok {c y : Nat} {x z : Int} (h : y_gpt U S c x y z s = some (S', s')) (kD : y_DD U AT r S lv stk w) : ∃ r', y_ex S S' r r' ∧ y_DD U AT r' S' lv stk w := by
  unfold y_gpt at h
  split at h
  · exact y_p30_ok h kD
  · exact y_p31_ok h kD
  · exact y_p32_ok h kD
  · refine y_pT_ok (fun q hq => ?_) h kD
    obtain ⟨v, -, e2⟩ := kD.2.1 _ (y_lok_mem hq)
    exact ⟨v, e2⟩
  · exact y_p34_ok h kD
  · exact y_pT_ok (fun q hq => y_dS_at kD.2.2.1 hq) h kD
  · exact y_p36_ok h kD
  · exact y_p37_ok h kD
  · exact y_p38_ok h kD
  · exact y_p39_ok h kD
  · exact y_p40_ok h kD
  · exact y_p41_ok h kD
  · exact y_p42_ok h kD
  · exact y_p43_ok h kD
  · cases h
end Y_PT
end
