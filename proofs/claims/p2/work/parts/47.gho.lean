/-! PART 47: steps of the checker alone -/
noncomputable section
abbrev y_RL : Type := Nat → y_S → y_It → y_Str → Option (y_S × y_Str)
def y_one (x : Option (y_S × y_Str)) : Option (List y_S × y_Str) := match x with
  | some (S, s) => some ([S], s)
  | none => none
def y_g1 (U : y_WT) (S : y_S) (kd A k : Nat) (s : y_Str) : Option (y_S × y_Str) := match w_FK U A, Nat.blt kd 4 with
  | some c, true => (match y_get U S kd c (g_c (A : Int)) (g_c (k : Int)) (y_rk c k) with
    | some (S', _) => some (S', s)
    | none => none)
  | _, _ => none
def y_g2 (U : y_WT) (S : y_S) (kd : Nat) (s : y_Str) : Option (y_S × y_Str) := match y_sc S, kd with
  | true, 4 => some (y_am (y_nw S (y_rg (s_n S) (w_NF U : Int) (e_lim : Int))) (4, [], [], g_s (s_n S)), s)
  | true, 5 => some (y_am (y_nw S [g_s (s_n S)]) (5, [], [], g_s (s_n S)), s)
  | _, _ => none
def y_g3 (U : y_WT) (S : y_S) (kd i k : Nat) (s : y_Str) : Option (y_S × y_Str) := match y_lok (s_l S) i, Nat.blt kd 4 with
  | some (t + 2, e), true => (match w_KT U t with
    | some c => (match y_ck (s_f S) s (g_ac (-1) e) with
      | some s1 => (match y_get U S kd c (g_ac (-1) e) (g_c (k : Int)) (y_rk c k) with
        | some (S', _) => some (S', s1)
        | none => none)
      | none => none)
    | none => none)
  | _, _ => none
def y_g4 (S : y_S) (i j : Nat) (s : y_Str) : Option (y_S × y_Str) := match y_sc S && (Nat.blt i (s_n S) && Nat.blt j (s_n S)) with
  | true => some (y_am (y_nw S []) (7, g_s i, g_s j, g_s (s_n S)), s)
  | false => none
def y_g13 (S : y_S) (i : Nat) (a k : g_LE) (s : y_Str) : Option (y_S × y_Str) := match (s_m S)[i]? with
  | none => none
  | some m => match Nat.beq m.1 7 with
    | true => none
    | false => match y_cks (s_f S) s [g_sub a m.2.1, g_sub m.2.1 a, g_sub k m.2.2.1, g_sub m.2.2.1 k] with
      | none => none
      | some s1 => some (y_am S (m.1, a, k, m.2.2.2), s1)
def y_g14 (S : y_S) (i : Nat) (e : g_LE) (s : y_Str) : Option (y_S × y_Str) := match y_lok (s_l S) i with
  | none => none
  | some q => match y_cks (s_f S) s [g_sub e q.2, g_sub q.2 e] with
    | none => none
    | some s1 => some (y_lo S ((i, (q.1, e)) :: s_l S), s1)
def y_g15 (S : y_S) (i : Nat) (e : g_LE) (s : y_Str) : Option (y_S × y_Str) := match (s_m S)[i]? with
  | none => none
  | some m => match Nat.beq m.1 7 with
    | true => none
    | false => match y_cks (s_f S) s [g_sub e m.2.2.2, g_sub m.2.2.2 e] with
      | none => none
      | some s1 => some (y_am S (m.1, m.2.1, m.2.2.1, e), s1)
def y_g16 (S : y_S) (e : g_LE) (s : y_Str) : Option (y_S × y_Str) := match s_s S with
  | [] => none
  | q :: l => match y_cks (s_f S) s [g_sub e q.2, g_sub q.2 e] with
    | none => none
    | some s1 => some (y_st S ((q.1, e) :: l), s1)
/-- what is known of any number of a type -/
def y_rgv (v : g_LE) (lo hi : Int) : List g_LE := [g_ac (-lo) v, g_ac hi (g_k (-1) v)]
def y_g17 (S : y_S) (i : Nat) : Option y_S := match y_lok (s_l S) i with
  | some (0, e) => some (y_af S (y_rgv e y_l32 y_h32))
  | _ => none
def y_g18 (U : y_WT) (S : y_S) (i : Nat) : Option y_S := match (s_m S)[i]? with
  | some (4, _, _, v) => some (y_af S (y_rgv v (w_NF U : Int) (e_lim : Int)))
  | some (5, _, _, v) => some (y_af S [v])
  | some (kd, a, k, v) => (match Nat.blt kd 4, y_adr a, y_adr k with
    | true, some A, some K => (match w_FK U A with
      | some c => some (y_af S (match w_RG U kd (some A) c (y_rk c K) with
        | some (lo, hi) => y_rgv v lo hi
        | none => match kd with
          | 0 => y_rgv v y_l32 y_h32
          | 1 => y_rgv v y_l64 y_h64
          | _ => [v]))
      | none => none)
    | _, _, _ => none)
  | none => none
def y_ons (x : Option y_S) (s : y_Str) : Option (y_S × y_Str) := x.map fun S => (S, s)
def y_gop (U : y_WT) (RL : y_RL) (S : y_S) (it : y_It) (s : y_Str) : Option (List y_S × y_Str) := match it, s with
  | [(1, kd), (A, k)], s => y_one (y_g1 U S kd.toNat A k.toNat s)
  | [(2, kd)], s => y_one (y_g2 U S kd.toNat s)
  | [(3, kd), (i, k)], s => y_one (y_g3 U S kd.toNat i k.toNat s)
  | [(4, _), (i, j)], s => y_one (y_g4 S i j.toNat s)
  | [(5, _)], A :: B :: s => (match y_cks (s_f S) s [A, B], y_prd (s_m S) A B with
    | some s1, some e => some ([y_af S [e]], s1)
    | _, _ => none)
  | [(6, _)], e :: s => some ([y_af S [e], y_af S [g_ac (-1) (g_k (-1) e)]], s)
  | [(7, _)], e :: s => (match y_ck (s_f S) s e with
    | some s1 => some ([y_af S [e]], s1)
    | none => none)
  | [(8, k)], e :: s => (match y_pos k, y_ck (s_f S) s (g_ac (k - 1) (g_k k e)) with
    | true, some s1 => some ([y_af S [e]], s1)
    | _, _ => none)
  | [(9, _)], s => (match y_ck (s_f S) s (g_c (-1)) with
    | some s1 => some ([], s1)
    | none => none)
  | (10, id) :: as, s => y_one (RL id.toNat S as s)
  | [(13, _), (i, _)], a :: k :: s => y_one (y_g13 S i a k s)
  | [(14, _), (i, _)], e :: s => y_one (y_g14 S i e s)
  | [(15, _), (i, _)], e :: s => y_one (y_g15 S i e s)
  | [(16, _)], e :: s => y_one (y_g16 S e s)
  | [(17, _), (i, _)], s => y_one (y_ons (y_g17 S i) s)
  | [(18, _), (i, _)], s => y_one (y_ons (y_g18 U S i) s)
  | _, _ => none
/-- rules add knowledge alone -/
def y_RO (U : y_WT) (AT : Nat → List Int → y_W → Prop) (RL : y_RL) : Prop := ∀ (id : Nat) (S S' : y_S) (it : y_It) (s s' : y_Str) (r : Nat → Int) (lv : e_LV) (stk : List Value) (w : y_W), RL id S it s = some (S', s') → y_DD U AT r S lv stk w → ∃ r', y_ex S S' r r' ∧ y_DD U AT r' S' lv stk w
section Y_GO
variable {U : y_WT} {AT : Nat → List Int → y_W → Prop} {RL : y_RL} {r r' : Nat → Int} {S S' : y_S} {lv : e_LV} {stk : List Value} {w : y_W} {s s' : y_Str}
def y_GP (U : y_WT) (AT : Nat → List Int → y_W → Prop) (r : Nat → Int) (S : y_S) (lv : e_LV) (stk : List Value) (w : y_W) (L : List y_S) : Prop := ∃ S' ∈ L, ∃ r', y_ex S S' r r' ∧ y_DD U AT r' S' lv stk w
theorem y_one_s {x : Option (y_S × y_Str)} {L : List y_S} (h : y_one x = some (L, s')) : ∃ S', x = some (S', s') ∧ L = [S'] := by
  unfold y_one at h
  split at h
  · cases h
    exact ⟨_, rfl, rfl⟩
  · cases h
theorem y_D_am {m : y_ME} (k : y_DD U AT r S lv stk w) (h : y_dM r w m) : y_DD U AT r (y_am S m) lv stk w := by
  obtain ⟨k0, k1, k2, k3, k4, k5, k6⟩ := k
  refine ⟨k0, k1, k2, fun q hq => ?_, k4, k5, k6⟩
  rcases List.mem_cons.mp hq with hq | hq
  · rw [hq]; exact h
  · exact k3 q hq
theorem y_get_gp {kd : Nat} {c : Nat ⊕ Nat} {a k v : g_LE} {kc : Nat} (h : y_get U S kd c a k kc = some (S', v)) (kD : y_DD U AT r S lv stk w) (hkd : kd < 4) (hK : e_K w.1 (g_ev r a).toNat = some c) (hk : y_rk c (g_ev r k).toNat = kc) (ha0 : 0 ≤ g_ev r a) (hk0 : 0 ≤ g_ev r k) : ∃ r', y_ex S S' r r' ∧ y_DD U AT r' S' lv stk w := by
  obtain ⟨r', x1, x2, -⟩ := y_get_ok h kD hkd hK hk ha0 hk0
  exact ⟨r', ⟨x1.1, x1.2.1⟩, x2⟩
theorem y_g1_ok {kd A k : Nat} (h : y_g1 U S kd A k s = some (S', s')) (kD : y_DD U AT r S lv stk w) : ∃ r', y_ex S S' r r' ∧ y_DD U AT r' S' lv stk w := by
  have h0 := kD.1
  unfold y_g1 at h
  split at h
  · rename_i c hc hkd
    split at h
    · rename_i S1 v hg
      cases h
      have hK := (kD.2.2.2.2.2.2).1.2 A c hc
      refine y_get_gp hg kD (Nat.blt_eq.mp hkd) ?_ ?_ ?_ ?_
      · rw [g_ev_c r h0]; exact hK
      · rw [g_ev_c r h0]; rfl
      · rw [g_ev_c r h0]; exact Int.natCast_nonneg _
      · rw [g_ev_c r h0]; exact Int.natCast_nonneg _
    · cases h
  · cases h
theorem y_g2_ok {kd : Nat} (h : y_g2 U S kd s = some (S', s')) (kD : y_DD U AT r S lv stk w) : ∃ r', y_ex S S' r r' ∧ y_DD U AT r' S' lv stk w := by
  have h0 := kD.1
  unfold y_g2 at h
  split at h
  · rename_i hs
    cases h
    have hn : 0 < s_n S := (y_sc_s hs).1
    have hI := kD.2.2.2.2.2.2
    have h00 : (y_nv r (s_n S) (e_T w.1 : Int)) 0 = 1 := (y_nv_lt hn).trans h0
    have hD := y_D_nw (L := y_rg (s_n S) (w_NF U : Int) (e_lim : Int)) hs kD (e_T w.1 : Int) (y_rg_ok h00 (by rw [y_nv_at]; have := hI.1.1; omega) (by rw [y_nv_at]; have := hI.2.1; omega))
    refine ⟨_, ⟨fun i hi => y_nv_lt hi, Nat.le_succ _⟩, y_D_am hD ⟨?_, fun hq => absurd (show 4 < 4 from hq) (by decide), Int.le_refl 0, Int.le_refl 0⟩⟩
    show (e_T w.1 : Int) = g_ev _ (g_s (s_n S))
    rw [g_ev_s, y_nv_at]
  · rename_i hs
    cases h
    have hn : 0 < s_n S := (y_sc_s hs).1
    have hD := y_D_nw (L := [g_s (s_n S)]) hs kD (e_Z w.1 : Int) (y_sgl (by rw [g_ev_s, y_nv_at]; exact Int.natCast_nonneg _))
    refine ⟨_, ⟨fun i hi => y_nv_lt hi, Nat.le_succ _⟩, y_D_am hD ⟨?_, fun hq => absurd (show 5 < 4 from hq) (by decide), Int.le_refl 0, Int.le_refl 0⟩⟩
    show (e_Z w.1 : Int) = g_ev _ (g_s (s_n S))
    rw [g_ev_s, y_nv_at]
  · cases h
theorem y_g3_ok {kd i k : Nat} (h : y_g3 U S kd i k s = some (S', s')) (kD : y_DD U AT r S lv stk w) : ∃ r', y_ex S S' r r' ∧ y_DD U AT r' S' lv stk w := by
  have h0 := kD.1
  unfold y_g3 at h
  split at h
  · rename_i t e hl hkd
    split at h
    · rename_i c hkt
      split at h
      · rename_i s1 hck
        split at h
        · rename_i S1 v hg
          cases h
          obtain ⟨v0, e1, e2⟩ := kD.2.1 _ (y_lok_mem hl)
          obtain ⟨b, rfl, hb, hpt⟩ := y_nn1 h0 e2 (y_ck_ok h0 kD.2.2.2.2.1 hck)
          refine y_get_gp hg kD (Nat.blt_eq.mp hkd) ?_ ?_ ?_ ?_
          · rw [hb]; exact (hpt c hkt).1
          · rw [g_ev_c r h0]; rfl
          · rw [hb]; exact Int.natCast_nonneg _
          · rw [g_ev_c r h0]; exact Int.natCast_nonneg _
        · cases h
      · cases h
    · cases h
  · cases h
theorem y_g4_ok {i j : Nat} (h : y_g4 S i j s = some (S', s')) (kD : y_DD U AT r S lv stk w) : ∃ r', y_ex S S' r r' ∧ y_DD U AT r' S' lv stk w := by
  unfold y_g4 at h
  split at h
  · rename_i hs
    cases h
    rw [Bool.and_eq_true, Bool.and_eq_true] at hs
    have hi := Nat.blt_eq.mp hs.2.1
    have hj := Nat.blt_eq.mp hs.2.2
    have hD := y_D_nw (L := []) hs.1 kD (r i * r j) (fun f hf => by cases hf)
    refine ⟨_, ⟨fun i hi => y_nv_lt hi, Nat.le_succ _⟩, y_D_am hD ?_⟩
    show g_ev _ (g_s i) * g_ev _ (g_s j) = g_ev _ (g_s (s_n S))
    rw [g_ev_s, g_ev_s, g_ev_s, y_nv_at, y_nv_lt hi, y_nv_lt hj]
  · cases h
theorem y_eq2 {a b : g_LE} (h1 : 0 ≤ g_ev r (g_sub a b)) (h2 : 0 ≤ g_ev r (g_sub b a)) : g_ev r a = g_ev r b := by
  rw [g_ev_sub] at h1 h2
  omega
theorem y_g13_ok {i : Nat} {a k : g_LE} (h : y_g13 S i a k s = some (S', s')) (kD : y_DD U AT r S lv stk w) : ∃ r', y_ex S S' r r' ∧ y_DD U AT r' S' lv stk w := by
  have h0 := kD.1
  unfold y_g13 at h
  split at h
  · cases h
  · rename_i m hm
    split at h
    · cases h
    · rename_i h7
      split at h
      · cases h
      · rename_i s1 hck
        cases h
        have hall := y_cks_ok h0 kD.2.2.2.2.1 hck
        have ea := y_eq2 (hall (g_sub a m.2.1) (by simp)) (hall (g_sub m.2.1 a) (by simp))
        have ek := y_eq2 (hall (g_sub k m.2.2.1) (by simp)) (hall (g_sub m.2.2.1 k) (by simp))
        have hM := kD.2.2.2.1 m (List.mem_of_getElem? hm)
        refine ⟨r, y_ex.rf, y_D_am kD ?_⟩
        obtain ⟨kd, a', k', v⟩ := m
        unfold y_dM at hM ⊢
        dsimp only at hM ⊢
        rw [ea, ek]
        exact hM
theorem y_g14_ok {i : Nat} {e : g_LE} (h : y_g14 S i e s = some (S', s')) (kD : y_DD U AT r S lv stk w) : ∃ r', y_ex S S' r r' ∧ y_DD U AT r' S' lv stk w := by
  have h0 := kD.1
  unfold y_g14 at h
  split at h
  · cases h
  · rename_i q hq
    split at h
    · cases h
    · rename_i s1 hck
      cases h
      have hall := y_cks_ok h0 kD.2.2.2.2.1 hck
      have ee := y_eq2 (hall (g_sub e q.2) (by simp)) (hall (g_sub q.2 e) (by simp))
      obtain ⟨v, e1, e2⟩ := kD.2.1 _ (y_lok_mem hq)
      refine ⟨r, y_ex.rf, y_D_lo kD fun z hz => ?_⟩
      rcases List.mem_cons.mp hz with hz | hz
      · subst hz
        refine ⟨v, e1, ?_⟩
        obtain ⟨t, f⟩ := q
        match t with
        | 0 => obtain ⟨x, h1, h2⟩ := e2; exact ⟨x, h1, h2.trans ee.symm⟩
        | 1 => obtain ⟨x, h1, h2⟩ := e2; exact (show y_dV _ _ r w.1 (1, e) v from ⟨x, h1, h2.trans ee.symm⟩)
        | t + 2 => obtain ⟨o, h1, h2, h3⟩ := e2; exact (show y_dV _ _ r w.1 (t + 2, e) v from ⟨o, h1, h2.trans ee.symm, h3⟩)
      · exact kD.2.1 z hz
theorem y_g15_ok {i : Nat} {e : g_LE} (h : y_g15 S i e s = some (S', s')) (kD : y_DD U AT r S lv stk w) : ∃ r', y_ex S S' r r' ∧ y_DD U AT r' S' lv stk w := by
  have h0 := kD.1
  unfold y_g15 at h
  split at h
  · cases h
  · rename_i m hm
    split at h
    · cases h
    · rename_i h7
      split at h
      · cases h
      · rename_i s1 hck
        cases h
        have hall := y_cks_ok h0 kD.2.2.2.2.1 hck
        have ee := y_eq2 (hall (g_sub e m.2.2.2) (by simp)) (hall (g_sub m.2.2.2 e) (by simp))
        have hM := kD.2.2.2.1 m (List.mem_of_getElem? hm)
        refine ⟨r, y_ex.rf, y_D_am kD ?_⟩
        obtain ⟨kd, a', k', v⟩ := m
        unfold y_dM at hM ⊢
        dsimp only at hM ⊢ ee
        rw [ee]
        exact hM
theorem y_g16_ok {e : g_LE} (h : y_g16 S e s = some (S', s')) (kD : y_DD U AT r S lv stk w) : ∃ r', y_ex S S' r r' ∧ y_DD U AT r' S' lv stk w := by
  have h0 := kD.1
  unfold y_g16 at h
  split at h
  · cases h
  · rename_i q l hs
    split at h
    · cases h
    · rename_i s1 hck
      cases h
      have hall := y_cks_ok h0 kD.2.2.2.2.1 hck
      have ee := y_eq2 (hall (g_sub e q.2) (by simp)) (hall (g_sub q.2 e) (by simp))
      obtain ⟨v, rest, rfl, e2, k1⟩ := y_D_po kD hs
      refine ⟨r, y_ex.rf, y_D_st kD ⟨?_, k1.2.2.1⟩⟩
      obtain ⟨t, f⟩ := q
      match t with
      | 0 => obtain ⟨x, h1, h2⟩ := e2; exact ⟨x, h1, h2.trans ee.symm⟩
      | 1 => obtain ⟨x, h1, h2⟩ := e2; exact (show y_dV _ _ r w.1 (1, e) v from ⟨x, h1, h2.trans ee.symm⟩)
      | t + 2 => obtain ⟨o, h1, h2, h3⟩ := e2; exact (show y_dV _ _ r w.1 (t + 2, e) v from ⟨o, h1, h2.trans ee.symm, h3⟩)
theorem y_rgv_ok {v : g_LE} {lo hi : Int} (h0 : r 0 = 1) (h1 : lo ≤ g_ev r v) (h2 : g_ev r v ≤ hi) : ∀ f ∈ y_rgv v lo hi, 0 ≤ g_ev r f := y_dbl (by rw [g_ev_ac r h0]; omega) (by rw [g_ev_ac r h0, g_ev_k]; omega)
theorem y_g17_ok {i : Nat} (h : y_g17 S i = some S') (kD : y_DD U AT r S lv stk w) : ∃ r', y_ex S S' r r' ∧ y_DD U AT r' S' lv stk w := by
  unfold y_g17 at h
  split at h
  · rename_i e hq
    cases h
    obtain ⟨v, e1, x, e2, e3⟩ := kD.2.1 _ (y_lok_mem hq)
    have e3 : x.toInt = g_ev r e := e3
    exact ⟨r, ⟨fun _ _ => rfl, Nat.le_refl _⟩, y_D_f kD (y_rgv_ok kD.1 (by rw [← e3]; exact (y_r32 x).1) (by rw [← e3]; exact (y_r32 x).2))⟩
  · cases h
theorem y_g18_ok {i : Nat} (h : y_g18 U S i = some S') (kD : y_DD U AT r S lv stk w) : ∃ r', y_ex S S' r r' ∧ y_DD U AT r' S' lv stk w := by
  have h0 := kD.1
  have hI := kD.2.2.2.2.2.2
  unfold y_g18 at h
  split at h
  · rename_i a k v hm
    cases h
    have hM := kD.2.2.2.1 _ (List.mem_of_getElem? hm)
    have h1 : (e_T w.1 : Int) = g_ev r v := hM.1
    exact ⟨r, ⟨fun _ _ => rfl, Nat.le_refl _⟩, y_D_f kD (y_rgv_ok h0 (by rw [← h1]; have := hI.1.1; omega) (by rw [← h1]; have := hI.2.1; omega))⟩
  · rename_i a k v hm
    cases h
    have hM := kD.2.2.2.1 _ (List.mem_of_getElem? hm)
    have h1 : (e_Z w.1 : Int) = g_ev r v := hM.1
    exact ⟨r, ⟨fun _ _ => rfl, Nat.le_refl _⟩, y_D_f kD (y_sgl (by rw [← h1]; exact Int.natCast_nonneg _))⟩
  · rename_i kd a k v hn4 hn5 hm
    split at h
    · rename_i A K hkd hA hK
      split at h
      · rename_i c hc
        cases h
        have hkd := Nat.blt_eq.mp hkd
        have hM := kD.2.2.2.1 _ (List.mem_of_getElem? hm)
        have h1 : y_rd w kd A K = g_ev r v := by
          unfold y_dM at hM
          split at hM
          · rename_i h7
            have h7 : kd = 7 := h7
            omega
          · have h9 := hM.1
            have ea : (g_ev r a).toNat = A := y_adr_ok h0 hA
            have ek : (g_ev r k).toNat = K := y_adr_ok h0 hK
            dsimp only at h9
            rw [ea, ek] at h9
            exact h9
        have hKA := hI.1.2 A c hc
        have hrg := (hI.2.2 A c hKA).2.1 kd K
        refine ⟨r, ⟨fun _ _ => rfl, Nat.le_refl _⟩, y_D_f kD ?_⟩
        split
        · rename_i lo hi hq
          have h2 := hrg lo hi hkd (Or.inr hq)
          exact y_rgv_ok h0 (by rw [← h1]; exact h2.1) (by rw [← h1]; exact h2.2)
        · split
          · exact y_rgv_ok h0 (by rw [← h1]; exact (y_r32 _).1) (by rw [← h1]; exact (y_r32 _).2)
          · exact y_rgv_ok h0 (by rw [← h1]; exact (y_r64 _).1) (by rw [← h1]; exact (y_r64 _).2)
          · rename_i g0 g1
            have g0 : kd ≠ 0 := g0
            have g1 : kd ≠ 1 := g1
            refine y_sgl ?_
            rw [← h1]
            exact y_rd_nn (by omega)
      · cases h
    · cases h
  · cases h
theorem y_ons_s {x : Option y_S} (h : y_ons x s = some (S', s')) : x = some S' := by
  unfold y_ons at h
  obtain ⟨z, h1, h2⟩ := Option.map_eq_some_iff.mp h
  cases h2
  exact h1
theorem y_gop_ok (hR : y_RO U AT RL) {it : y_It} {L : List y_S} (h : y_gop U RL S it s = some (L, s')) (k : y_DD U AT r S lv stk w) : y_GP U AT r S lv stk w L := by
  have h0 := k.1
  have one : ∀ {x : Option (y_S × y_Str)} {s1 : y_Str}, y_one x = some (L, s1) → (∀ S', x = some (S', s1) → ∃ r', y_ex S S' r r' ∧ y_DD U AT r' S' lv stk w) → y_GP U AT r S lv stk w L := by
    intro x s1 hx hk
    obtain ⟨S', e1, e2⟩ := y_one_s hx
    subst e2
    exact ⟨S', List.mem_cons_self, hk S' e1⟩
  unfold y_gop at h
  split at h
  · exact one h fun S' e => y_g1_ok e k
  · exact one h fun S' e => y_g2_ok e k
  · exact one h fun S' e => y_g3_ok e k
  · exact one h fun S' e => y_g4_ok e k
  · rename_i A B s2
    split at h
    · rename_i s1 e h1 h2
      cases h
      have hall := y_cks_ok h0 k.2.2.2.2.1 h1
      refine ⟨_, List.mem_cons_self, r, ⟨fun _ _ => rfl, Nat.le_refl _⟩, y_D_f k (y_sgl ?_)⟩
      rw [y_prd_ok h0 k.2.2.2.1 h2]
      exact Int.mul_nonneg (hall A List.mem_cons_self) (hall B (List.mem_cons_of_mem _ List.mem_cons_self))
    · cases h
  · rename_i e s2
    cases h
    by_cases hq : 0 ≤ g_ev r e
    · exact ⟨_, List.mem_cons_self, r, ⟨fun _ _ => rfl, Nat.le_refl _⟩, y_D_f k (y_sgl hq)⟩
    · exact ⟨_, List.mem_cons_of_mem _ List.mem_cons_self, r, ⟨fun _ _ => rfl, Nat.le_refl _⟩, y_D_f k (y_sgl (by rw [g_ev_ac r h0, g_ev_k]; omega))⟩
  · split at h
    · rename_i s1 h1
      cases h
      exact ⟨_, List.mem_cons_self, r, ⟨fun _ _ => rfl, Nat.le_refl _⟩, y_D_f k (y_sgl (y_ck_ok h0 k.2.2.2.2.1 h1))⟩
    · cases h
  · rename_i q e s2
    split at h
    · rename_i s1 hp h1
      cases h
      have h2 := y_ck_ok h0 k.2.2.2.2.1 h1
      have h3 := y_pos_ok hp
      rw [g_ev_ac r h0, g_ev_k] at h2
      refine ⟨_, List.mem_cons_self, r, ⟨fun _ _ => rfl, Nat.le_refl _⟩, y_D_f k (y_sgl ?_)⟩
      by_cases hq : 0 ≤ g_ev r e
      · exact hq
      · have h4 : g_ev r e ≤ -1 := by omega
        have h5 := Int.mul_le_mul_of_nonneg_left h4 (Int.le_of_lt h3)
        omega
    · cases h
  · split at h
    · rename_i s1 h1
      have h2 := y_ck_ok h0 k.2.2.2.2.1 h1
      rw [g_ev_c r h0] at h2
      exact absurd h2 (by decide)
    · cases h
  · exact one h fun S' e => hR _ _ _ _ _ _ r lv stk w e k
  · exact one h fun S' e => y_g13_ok e k
  · exact one h fun S' e => y_g14_ok e k
  · exact one h fun S' e => y_g15_ok e k
  · exact one h fun S' e => y_g16_ok e k
  · exact one h fun S' e => y_g17_ok (y_ons_s e) k
  · exact one h fun S' e => y_g18_ok (y_ons_s e) k
  · cases h
end Y_GO
end
