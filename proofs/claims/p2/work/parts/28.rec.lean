/-! PART 28: what instructions that reckon come to -/
noncomputable section
abbrev y_K2 : Type := y_S → g_LE → g_LE → y_Str → Option (y_S × g_LE × y_Str)
def y_OK (lo hi : Int) (P : Int → Int → Int → Prop) (κ : y_K2) : Prop := ∀ (KT : Nat → Option (Nat ⊕ Nat)) (LT : Nat → Option Nat) (IV : y_W → Prop) (AT : Nat → List Int → y_W → Prop) (r : Nat → Int) (S S' : y_S) (lv : e_LV) (stk : List Value) (w : y_W) (s s' : y_Str) (e1 e2 e' : g_LE), κ S e1 e2 s = some (S', e', s') → y_D KT LT IV AT r S lv stk w → ∀ z : Int, lo ≤ z → z ≤ hi → P (g_ev r e1) (g_ev r e2) z → ∃ r', y_gt S S' r r' ∧ y_D KT LT IV AT r' S' lv stk w ∧ z = g_ev r' e'
/-- a new symbol with facts about it: they are worked out of its number -/
def y_fr (S : y_S) (s : y_Str) (L : Nat → List g_LE) : Option (y_S × g_LE × y_Str) := match y_sc S with
  | true => some (y_nw S (L (s_n S)), g_s (s_n S), s)
  | false => none
section Y_FR
variable {KT : Nat → Option (Nat ⊕ Nat)} {LT : Nat → Option Nat} {IV : y_W → Prop} {AT : Nat → List Int → y_W → Prop} {r r' : Nat → Int} {S S' : y_S} {lv : e_LV} {stk : List Value} {w : y_W} {st : e_ST}
/-- the forms that its facts are made of are of old symbols -/
theorem y_fr_ok {s s' : y_Str} {e' : g_LE} {L : Nat → List g_LE} (h : y_fr S s L = some (S', e', s')) (k : y_D KT LT IV AT r S lv stk w) (z : Int) (hL : y_sc S = true → ∀ r' : Nat → Int, r' 0 = 1 → (∀ i, i < s_n S → r' i = r i) → r' (s_n S) = z → ∀ f ∈ L (s_n S), 0 ≤ g_ev r' f) : ∃ r', y_gt S S' r r' ∧ y_D KT LT IV AT r' S' lv stk w ∧ z = g_ev r' e' := by
  unfold y_fr at h
  split at h
  · rename_i hs
    cases h
    have hn : 0 < s_n S := (y_sc_s hs).1
    exact y_nw_ok hs k z (hL hs _ ((y_nv_lt hn).trans k.1) (fun i hi => y_nv_lt hi) y_nv_at)
  · cases h
end Y_FR
/-- e is of old symbols -/
def y_old (S : y_S) (e : g_LE) : Bool := g_sc (s_n S) e
def y_lin (F : g_LE → g_LE → g_LE) (lo hi : Int) : y_K2 := fun S e1 e2 s => y_fit S s (F e1 e2) lo hi
theorem y_lin_ok {F : g_LE → g_LE → g_LE} {lo hi : Int} {P : Int → Int → Int → Prop} {G : Int → Int → Int} (hF : ∀ r e1 e2, g_ev r (F e1 e2) = G (g_ev r e1) (g_ev r e2)) (hP : ∀ x y z, P x y z → lo ≤ G x y → G x y ≤ hi → z = G x y) : y_OK lo hi P (y_lin F lo hi) := by
  intro KT LT IV AT r S S' lv stk w s s' e1 e2 e' h k z h1 h2 hp
  refine y_fit_ok h k h1 h2 fun h3 h4 => ?_
  rw [hF] at h3 h4 ⊢
  exact hP _ _ _ hp h3 h4
/-- any number of the range -/
def y_any (lo hi : Int) (S : y_S) (s : y_Str) : Option (y_S × g_LE × y_Str) := y_fr S s fun n => y_rg n lo hi
theorem y_any_ok {KT : Nat → Option (Nat ⊕ Nat)} {LT : Nat → Option Nat} {IV : y_W → Prop} {AT : Nat → List Int → y_W → Prop} {r : Nat → Int} {S S' : y_S} {lv : e_LV} {stk : List Value} {w : y_W} {s s' : y_Str} {e' : g_LE} {lo hi z : Int} (h : y_any lo hi S s = some (S', e', s')) (k : y_D KT LT IV AT r S lv stk w) (h1 : lo ≤ z) (h2 : z ≤ hi) : ∃ r', y_gt S S' r r' ∧ y_D KT LT IV AT r' S' lv stk w ∧ z = g_ev r' e' :=
  y_fr_ok h k z fun _ r' h0 _ hz => y_rg_ok h0 (by rw [hz]; exact h1) (by rw [hz]; exact h2)
/-! products -/
def y_find (ms : List y_ME) (i j : Nat) : Option g_LE := match ms with
  | [] => none
  | m :: l => match Nat.beq m.1 7 && (g_eq m.2.1 (g_s i) && g_eq m.2.2.1 (g_s j)) with
    | true => some m.2.2.2
    | false => y_find l i j
theorem y_find_ok {r : Nat → Int} {w : y_W} {i j : Nat} {v : g_LE} : ∀ {ms : List y_ME}, (∀ m ∈ ms, y_dM r w m) → y_find ms i j = some v → r i * r j = g_ev r v
  | [], _, h => by cases h
  | m :: l, hm, h => by
    unfold y_find at h
    split at h
    · rename_i hq
      cases h
      rw [Bool.and_eq_true, Bool.and_eq_true] at hq
      have h1 := hm m List.mem_cons_self
      obtain ⟨kd, a, b, v⟩ := m
      have hk : kd = 7 := Nat.eq_of_beq_eq_true hq.1
      have ha : a = g_s i := g_eq_ok hq.2.1
      have hb : b = g_s j := g_eq_ok hq.2.2
      subst hk ha hb
      have h2 : g_ev r (g_s i) * g_ev r (g_s j) = g_ev r v := h1
      rw [g_ev_s, g_ev_s] at h2
      exact h2
    · exact y_find_ok (fun m hm2 => hm m (List.mem_cons_of_mem _ hm2)) h
def y_pr1 (ms : List y_ME) (i j : Nat) : Option g_LE := match i, j with
  | 0, j => some (g_s j)
  | i, 0 => some (g_s i)
  | i, j => match y_find ms i j with
    | some v => some v
    | none => y_find ms j i
theorem y_pr1_ok {r : Nat → Int} (h0 : r 0 = 1) {w : y_W} {ms : List y_ME} (hm : ∀ m ∈ ms, y_dM r w m) {i j : Nat} {v : g_LE} (h : y_pr1 ms i j = some v) : r i * r j = g_ev r v := by
  unfold y_pr1 at h
  split at h
  · cases h
    rw [g_ev_s, h0, Int.one_mul]
  · cases h
    rw [g_ev_s, h0, Int.mul_one]
  · split at h
    · rename_i hq
      cases h
      exact y_find_ok hm hq
    · rw [Int.mul_comm]
      exact y_find_ok hm h
def y_pr2 (ms : List y_ME) (i : Nat) (a : Int) : g_LE → Option g_LE
  | [] => some []
  | t :: l => match y_pr1 ms i t.1, y_pr2 ms i a l with
    | some v, some e => some (g_mad (a * t.2) v e)
    | _, _ => none
theorem y_pr2_ok {r : Nat → Int} (h0 : r 0 = 1) {w : y_W} {ms : List y_ME} (hm : ∀ m ∈ ms, y_dM r w m) {i : Nat} {a : Int} : ∀ {l e : g_LE}, y_pr2 ms i a l = some e → g_ev r e = a * r i * g_ev r l
  | [], e, h => by cases h; simp [g_ev]
  | t :: l, e, h => by
    unfold y_pr2 at h
    split at h
    · rename_i v e1 hv he
      cases h
      rw [g_ev_mad, ← y_pr1_ok h0 hm hv, y_pr2_ok h0 hm he]
      simp only [g_ev]
      rw [Int.mul_add]
      congr 1
      rw [Int.mul_assoc, Int.mul_assoc, Int.mul_left_comm t.2 (r i)]
    · cases h
def y_prd (ms : List y_ME) : g_LE → g_LE → Option g_LE
  | [], _ => some []
  | t :: l, b => match y_pr2 ms t.1 t.2 b, y_prd ms l b with
    | some e, some f => some (g_add e f)
    | _, _ => none
theorem y_prd_ok {r : Nat → Int} (h0 : r 0 = 1) {w : y_W} {ms : List y_ME} (hm : ∀ m ∈ ms, y_dM r w m) : ∀ {a b e : g_LE}, y_prd ms a b = some e → g_ev r e = g_ev r a * g_ev r b
  | [], b, e, h => by cases h; simp [g_ev]
  | t :: l, b, e, h => by
    unfold y_prd at h
    split at h
    · rename_i e1 f1 he hf
      cases h
      rw [g_ev_add, y_pr2_ok h0 hm he, y_prd_ok h0 hm hf]
      simp only [g_ev]
      rw [Int.add_mul]
    · cases h
/-- the next says how: [] by the products that are known, else any number -/
def y_mul (lo hi : Int) : y_K2 := fun S e1 e2 s => match g_cst e1, g_cst e2 with
  | _, some c => y_fit S s (g_k c e1) lo hi
  | some c, _ => y_fit S s (g_k c e2) lo hi
  | _, _ => match s with
    | [] :: s1 => match y_prd (s_m S) e1 e2 with
      | some e => y_fit S s1 e lo hi
      | none => none
    | _ :: s1 => y_any lo hi S s1
    | [] => none
theorem y_mul_ok {lo hi : Int} : y_OK lo hi (fun x y z => lo ≤ x * y → x * y ≤ hi → z = x * y) (y_mul lo hi) := by
  intro KT LT IV AT r S S' lv stk w s s' e1 e2 e' h k z h1 h2 hp
  have h0 : r 0 = 1 := k.1
  unfold y_mul at h
  split at h
  · rename_i c hc
    refine y_fit_ok h k h1 h2 fun h3 h4 => ?_
    have h5 := g_cst_ok h0 hc
    rw [g_ev_k, Int.mul_comm] at h3 h4 ⊢
    rw [h5] at hp
    exact hp h3 h4
  · rename_i c hc hx
    refine y_fit_ok h k h1 h2 fun h3 h4 => ?_
    have h5 := g_cst_ok h0 hc
    rw [g_ev_k] at h3 h4 ⊢
    rw [h5] at hp
    exact hp h3 h4
  · split at h
    · split at h
      · rename_i e hq
        refine y_fit_ok h k h1 h2 fun h3 h4 => ?_
        rw [y_prd_ok h0 k.2.2.2.1 hq] at h3 h4 ⊢
        exact hp h3 h4
      · cases h
    · exact y_any_ok h k h1 h2
    · cases h
/-- division by what is above 0; the next says whether what is divided is not below 0 -/
def y_div (lo hi : Int) : y_K2 := fun S e1 e2 s => match y_ck (s_f S) s (g_ac (-1) e2) with
  | none => none
  | some s0 => match y_old S e1 && y_old S e2 with
    | false => none
    | true => match s0 with
      | [] :: s1 => match y_ck (s_f S) s1 e1 with
        | none => none
        | some s2 => match g_cst e2 with
          | some c => y_fr S s2 fun n => [g_s n, g_mad (-c) (g_s n) e1, g_ac (c - 1) (g_mad c (g_s n) (g_k (-1) e1))]
          | none => y_fr S s2 fun n => [g_s n, g_sub e1 (g_s n)]
      | [_] :: s1 => y_any lo hi S s1
      | (_ :: _ :: _) :: s1 => match y_ck (s_f S) s1 (g_k (-1) e1) with
        | none => none
        | some s2 => match g_cst e2 with
          | some c => y_fr S s2 fun n => [g_k (-1) (g_s n), g_mad c (g_s n) (g_k (-1) e1), g_ac (c - 1) (g_mad (-c) (g_s n) e1)]
          | none => y_fr S s2 fun n => [g_k (-1) (g_s n), g_sub (g_s n) e1]
      | [] => none
theorem y_div_pos {lo hi : Int} {r : Nat → Int} {S S' : y_S} {s s' : y_Str} {e1 e2 e' : g_LE} (h0 : r 0 = 1) (hF : g_FF r (s_f S)) (h : y_div lo hi S e1 e2 s = some (S', e', s')) : 0 < g_ev r e2 := by
  unfold y_div at h
  split at h
  · cases h
  · rename_i s0 hq
    have h1 := y_ck_ok h0 hF hq
    rw [g_ev_ac r h0] at h1
    omega
theorem y_tdiv {x y : Int} (hx : 0 ≤ x) (hy : 0 < y) : 0 ≤ x.tdiv y ∧ y * x.tdiv y ≤ x ∧ x < y * x.tdiv y + y ∧ x.tdiv y ≤ x := by
  rw [Int.tdiv_eq_ediv_of_nonneg hx]
  have h1 := Int.mul_ediv_add_emod x y
  have h2 := Int.emod_nonneg x (Int.ne_of_gt hy)
  have h3 := Int.emod_lt_of_pos x hy
  have h4 := Int.ediv_nonneg hx (Int.le_of_lt hy)
  refine ⟨h4, by omega, by omega, Int.ediv_le_self y hx⟩
theorem y_tdivn {x y : Int} (hx : x ≤ 0) (hy : 0 < y) : x.tdiv y ≤ 0 ∧ x ≤ y * x.tdiv y ∧ y * x.tdiv y - y < x ∧ x ≤ x.tdiv y := by
  obtain ⟨g1, g2, g3, g4⟩ := y_tdiv (x := -x) (by omega) hy
  rw [Int.neg_tdiv, Int.mul_neg] at g2 g3
  rw [Int.neg_tdiv] at g1 g4
  exact ⟨by omega, by omega, by omega, by omega⟩
theorem y_div_ok {lo hi : Int} : y_OK lo hi (fun x y z => 0 < y → z = x.tdiv y) (y_div lo hi) := by
  intro KT LT IV AT r S S' lv stk w s s' e1 e2 e' h k z h1 h2 hp
  have h0 : r 0 = 1 := k.1
  have hy := y_div_pos h0 k.2.2.2.2.1 h
  unfold y_div at h
  split at h
  · cases h
  · split at h
    · cases h
    · rename_i hold
      rw [Bool.and_eq_true] at hold
      split at h
      · rename_i s0 s1 hq0
        split at h
        · cases h
        · rename_i s2 hq
          have hx := y_ck_ok h0 k.2.2.2.2.1 hq
          have hz := hp hy
          obtain ⟨g1, g2, g3, g4⟩ := y_tdiv hx hy
          rw [← hz] at g1 g2 g3 g4
          split at h
          · rename_i c hc
            rw [g_cst_ok h0 hc] at g2 g3
            refine y_fr_ok h k z fun _ r' h00 hr hzz f hf => ?_
            have he1 : g_ev r' e1 = g_ev r e1 := g_sc_ev hr hold.1
            simp only [List.mem_cons, List.not_mem_nil, or_false] at hf
            rcases hf with rfl | rfl | rfl
            · rw [g_ev_s, hzz]; exact g1
            · rw [g_ev_mad, g_ev_s, hzz, he1, Int.neg_mul]; omega
            · rw [g_ev_ac r' h00, g_ev_mad, g_ev_s, hzz, g_ev_k, he1]; omega
          · refine y_fr_ok h k z fun _ r' h00 hr hzz f hf => ?_
            have he1 : g_ev r' e1 = g_ev r e1 := g_sc_ev hr hold.1
            simp only [List.mem_cons, List.not_mem_nil, or_false] at hf
            rcases hf with rfl | rfl
            · rw [g_ev_s, hzz]; exact g1
            · rw [g_ev_sub, g_ev_s, hzz, he1]; omega
      · exact y_any_ok h k h1 h2
      · split at h
        · cases h
        · rename_i s2 hq
          have hx := y_ck_ok h0 k.2.2.2.2.1 hq
          rw [g_ev_k] at hx
          have hz := hp hy
          obtain ⟨g1, g2, g3, g4⟩ := y_tdivn (x := g_ev r e1) (by omega) hy
          rw [← hz] at g1 g2 g3 g4
          split at h
          · rename_i c hc
            rw [g_cst_ok h0 hc] at g2 g3
            refine y_fr_ok h k z fun _ r' h00 hr hzz f hf => ?_
            have he1 : g_ev r' e1 = g_ev r e1 := g_sc_ev hr hold.1
            simp only [List.mem_cons, List.not_mem_nil, or_false] at hf
            rcases hf with rfl | rfl | rfl
            · rw [g_ev_k, g_ev_s, hzz]; omega
            · rw [g_ev_mad, g_ev_s, hzz, g_ev_k, he1]; omega
            · rw [g_ev_ac r' h00, g_ev_mad, g_ev_s, hzz, he1, Int.neg_mul]; omega
          · refine y_fr_ok h k z fun _ r' h00 hr hzz f hf => ?_
            have he1 : g_ev r' e1 = g_ev r e1 := g_sc_ev hr hold.1
            simp only [List.mem_cons, List.not_mem_nil, or_false] at hf
            rcases hf with rfl | rfl
            · rw [g_ev_k, g_ev_s, hzz]; omega
            · rw [g_ev_sub, g_ev_s, hzz, he1]; omega
      · cases h
theorem y_emod_le {x y : Int} (hx : 0 ≤ x) (hy : 0 < y) : x % y ≤ x := by
  have h1 := Int.mul_ediv_add_emod x y
  have h2 := Int.mul_nonneg (Int.le_of_lt hy) (Int.ediv_nonneg hx (Int.le_of_lt hy))
  omega
/-- what is left of a division by what is above 0 -/
def y_rem : y_K2 := fun S e1 e2 s => match y_ck (s_f S) s (g_ac (-1) e2) with
  | none => none
  | some s0 => match y_old S e1 && y_old S e2 with
    | false => none
    | true => match s0 with
      | [] :: s1 => match y_ck (s_f S) s1 e1 with
        | none => none
        | some s2 => y_fr S s2 fun n => [g_s n, g_ac (-1) (g_sub e2 (g_s n)), g_sub e1 (g_s n)]
      | _ :: s1 => y_fr S s1 fun n => [g_ac (-1) (g_add e2 (g_s n)), g_ac (-1) (g_sub e2 (g_s n))]
      | [] => none
theorem y_rem_pos {r : Nat → Int} {S S' : y_S} {s s' : y_Str} {e1 e2 e' : g_LE} (h0 : r 0 = 1) (hF : g_FF r (s_f S)) (h : y_rem S e1 e2 s = some (S', e', s')) : 0 < g_ev r e2 := by
  unfold y_rem at h
  split at h
  · cases h
  · rename_i s0 hq
    have h1 := y_ck_ok h0 hF hq
    rw [g_ev_ac r h0] at h1
    omega
theorem y_rem_ok {lo hi : Int} : y_OK lo hi (fun x y z => 0 < y → z = x.tmod y) y_rem := by
  intro KT LT IV AT r S S' lv stk w s s' e1 e2 e' h k z h1 h2 hp
  have h0 : r 0 = 1 := k.1
  have hy := y_rem_pos h0 k.2.2.2.2.1 h
  have hz := hp hy
  have g3 : z < g_ev r e2 := by rw [hz]; exact Int.tmod_lt_of_pos _ hy
  have g4 : -(g_ev r e2) < z := by
    rw [hz]
    have := Int.lt_tmod_of_pos (g_ev r e1) hy
    exact this
  unfold y_rem at h
  split at h
  · cases h
  · split at h
    · cases h
    · rename_i hold
      rw [Bool.and_eq_true] at hold
      split at h
      · split at h
        · cases h
        · rename_i s2 hq
          have hx := y_ck_ok h0 k.2.2.2.2.1 hq
          have g1 : 0 ≤ z := by rw [hz]; exact Int.tmod_nonneg _ hx
          have g2 : z ≤ g_ev r e1 := by
            rw [hz, Int.tmod_eq_emod_of_nonneg hx]
            exact y_emod_le hx hy
          refine y_fr_ok h k z fun _ r' h00 hr hzz f hf => ?_
          have he1 : g_ev r' e1 = g_ev r e1 := g_sc_ev hr hold.1
          have he2 : g_ev r' e2 = g_ev r e2 := g_sc_ev hr hold.2
          simp only [List.mem_cons, List.not_mem_nil, or_false] at hf
          rcases hf with rfl | rfl | rfl
          · rw [g_ev_s, hzz]; exact g1
          · rw [g_ev_ac r' h00, g_ev_sub, g_ev_s, hzz, he2]; omega
          · rw [g_ev_sub, g_ev_s, hzz, he1]; omega
      · refine y_fr_ok h k z fun _ r' h00 hr hzz f hf => ?_
        have he2 : g_ev r' e2 = g_ev r e2 := g_sc_ev hr hold.2
        simp only [List.mem_cons, List.not_mem_nil, or_false] at hf
        rcases hf with rfl | rfl
        · rw [g_ev_ac r' h00, g_ev_add, g_ev_s, hzz, he2]; omega
        · rw [g_ev_ac r' h00, g_ev_sub, g_ev_s, hzz, he2]; omega
      · cases h
/-- by what is below 0: any number -/
def y_ng (lo hi : Int) (f : y_K2) : y_K2 := fun S e1 e2 s => match s with
  | [(7, .ofNat 0)] :: s1 => (match y_ck (s_f S) s1 (g_ac (-1) (g_k (-1) e2)) with
    | some s2 => y_any lo hi S s2
    | none => none)
  | _ => f S e1 e2 s
theorem y_ng_nz {lo hi : Int} {f : y_K2} {r : Nat → Int} {S S' : y_S} {s s' : y_Str} {e1 e2 e' : g_LE} (h0 : r 0 = 1) (hF : g_FF r (s_f S)) (hf : ∀ s, f S e1 e2 s = some (S', e', s') → 0 < g_ev r e2) (h : y_ng lo hi f S e1 e2 s = some (S', e', s')) : g_ev r e2 ≠ 0 := by
  unfold y_ng at h
  split at h
  · split at h
    · rename_i s2 hq
      have h1 := y_ck_ok h0 hF hq
      rw [g_ev_ac r h0, g_ev_k] at h1
      omega
    · cases h
  · have := hf _ h
    omega
theorem y_ng_ok {lo hi : Int} {P : Int → Int → Int → Prop} {f : y_K2} (hf : y_OK lo hi P f) : y_OK lo hi P (y_ng lo hi f) := by
  intro KT LT IV AT r S S' lv stk w s s' e1 e2 e' h k z h1 h2 hp
  unfold y_ng at h
  split at h
  · split at h
    · exact y_any_ok h k h1 h2
    · cases h
  · exact hf KT LT IV AT r S S' lv stk w _ s' e1 e2 e' h k z h1 h2 hp
/-- and with what is not below 0 -/
def y_and (lo hi : Int) : y_K2 := fun S e1 e2 s => match s with
  | [] :: s1 => (match y_ck (s_f S) s1 e2 with
    | none => none
    | some s2 => match y_old S e2 with
      | true => y_fr S s2 fun n => [g_s n, g_sub e2 (g_s n)]
      | false => none)
  | [_] :: s1 => (match y_ck (s_f S) s1 e1 with
    | none => none
    | some s2 => match y_old S e1 with
      | true => y_fr S s2 fun n => [g_s n, g_sub e1 (g_s n)]
      | false => none)
  | [q, _, _] :: s1 => (match Nat.blt q.1 31 && (g_eq e2 (g_c (2 ^ q.1 - 1)) && y_old S e1) with
    | false => none
    | true => match y_fr S s1 fun n => [g_mad (-(2 ^ q.1)) (g_s n) e1, g_ac (2 ^ q.1 - 1) (g_k (-1) (g_mad (-(2 ^ q.1)) (g_s n) e1))] with
      | none => none
      | some (S1, e, s2) => some (S1, g_mad (-(2 ^ q.1)) e e1, s2))
  | _ :: s1 => y_any lo hi S s1
  | [] => none
theorem y_and_ok {lo hi : Int} : y_OK lo hi (fun x y z => (0 ≤ y → 0 ≤ z ∧ z ≤ y) ∧ (0 ≤ x → 0 ≤ z ∧ z ≤ x) ∧ ∀ p : Nat, p < 31 → y = 2 ^ p - 1 → ∃ q : Int, z = x - 2 ^ p * q) (y_and lo hi) := by
  intro KT LT IV AT r S S' lv stk w s s' e1 e2 e' h k z h1 h2 hp
  have h0 : r 0 = 1 := k.1
  unfold y_and at h
  split at h
  · split at h
    · cases h
    · rename_i s2 hq
      have hx := hp.1 (y_ck_ok h0 k.2.2.2.2.1 hq)
      split at h
      · rename_i hold
        refine y_fr_ok h k z fun _ r' h00 hr hzz f hf => ?_
        have he2 : g_ev r' e2 = g_ev r e2 := g_sc_ev hr hold
        simp only [List.mem_cons, List.not_mem_nil, or_false] at hf
        rcases hf with rfl | rfl
        · rw [g_ev_s, hzz]; exact hx.1
        · rw [g_ev_sub, g_ev_s, hzz, he2]; omega
      · cases h
  · split at h
    · cases h
    · rename_i s2 hq
      have hx := hp.2.1 (y_ck_ok h0 k.2.2.2.2.1 hq)
      split at h
      · rename_i hold
        refine y_fr_ok h k z fun _ r' h00 hr hzz f hf => ?_
        have he1 : g_ev r' e1 = g_ev r e1 := g_sc_ev hr hold
        simp only [List.mem_cons, List.not_mem_nil, or_false] at hf
        rcases hf with rfl | rfl
        · rw [g_ev_s, hzz]; exact hx.1
        · rw [g_ev_sub, g_ev_s, hzz, he1]; omega
      · cases h
  · rename_i q _ _ s1
    split at h
    · cases h
    · rename_i hc
      rw [Bool.and_eq_true, Bool.and_eq_true] at hc
      obtain ⟨c1, c2, c3⟩ := hc
      have c1 : q.1 < 31 := Nat.blt_eq.mp c1
      have hy : g_ev r e2 = 2 ^ q.1 - 1 := by rw [g_eq_ok c2, g_ev_c r h0]
      obtain ⟨m, hm⟩ := hp.2.2 q.1 c1 hy
      have hz := hp.1 (by rw [hy]; have : (0 : Int) < 2 ^ q.1 := Int.pow_pos (by decide); omega)
      rw [hy] at hz
      split at h
      · cases h
      · rename_i S1 e s2 hfr
        obtain ⟨r', g1, g2, g3⟩ := y_fr_ok hfr k m fun _ r' h00 hr hzz f hf => by
          have he1 : g_ev r' e1 = g_ev r e1 := g_sc_ev hr c3
          have e9 : -(2 ^ q.1 : Int) * m = -(2 ^ q.1 * m) := Int.neg_mul _ _
          simp only [List.mem_cons, List.not_mem_nil, or_false] at hf
          rcases hf with rfl | rfl
          · rw [g_ev_mad, g_ev_s, hzz, he1, e9]; omega
          · rw [g_ev_ac r' h00, g_ev_k, g_ev_mad, g_ev_s, hzz, he1, e9]; omega
        cases h
        refine ⟨r', g1, g2, ?_⟩
        have he1 : g_ev r' e1 = g_ev r e1 := g_sc_ev g1.1 c3
        rw [g_ev_mad, ← g3, he1, Int.neg_mul]
        omega
  · exact y_any_ok h k h1 h2
  · cases h
/-- or, exclusive or: of numbers below 2^p, which the next says -/
def y_or (lo hi : Int) : y_K2 := fun S e1 e2 s => match s with
  | [q] :: s1 => (match y_cks (s_f S) s1 [e1, e2, g_ac (2 ^ q.1 - 1) (g_k (-1) e1), g_ac (2 ^ q.1 - 1) (g_k (-1) e2)] with
    | none => none
    | some s2 => y_fr S s2 fun n => y_rg n 0 (2 ^ q.1 - 1))
  | _ :: s1 => y_any lo hi S s1
  | [] => none
theorem y_or_ok {lo hi : Int} : y_OK lo hi (fun x y z => ∀ p : Nat, 0 ≤ x → 0 ≤ y → x < 2 ^ p → y < 2 ^ p → 0 ≤ z ∧ z < 2 ^ p) (y_or lo hi) := by
  intro KT LT IV AT r S S' lv stk w s s' e1 e2 e' h k z h1 h2 hp
  have h0 : r 0 = 1 := k.1
  unfold y_or at h
  split at h
  · rename_i q s1
    split at h
    · cases h
    · rename_i s2 hq
      have hc := y_cks_ok h0 k.2.2.2.2.1 hq
      have c1 := hc e1 (by simp)
      have c2 := hc e2 (by simp)
      have c3 := hc (g_ac (2 ^ q.1 - 1) (g_k (-1) e1)) (by simp)
      have c4 := hc (g_ac (2 ^ q.1 - 1) (g_k (-1) e2)) (by simp)
      rw [g_ev_ac r h0, g_ev_k] at c3 c4
      have hx := hp q.1 c1 c2 (by omega) (by omega)
      refine y_fr_ok h k z fun _ r' h00 hr hzz => ?_
      exact y_rg_ok h00 (by rw [hzz]; exact hx.1) (by rw [hzz]; omega)
  · exact y_any_ok h k h1 h2
  · cases h
/-- shifts by a number -/
def y_shl (lo hi : Int) (w : Nat) : y_K2 := fun S e1 e2 s => match g_cst e2 with
  | some (.ofNat c) => (match Nat.blt c w with
    | true => y_fit S s (g_k (2 ^ c) e1) lo hi
    | false => none)
  | _ => y_any lo hi S s
theorem y_shl_ok {lo hi : Int} {w : Nat} : y_OK lo hi (fun x y z => ∀ c : Nat, y = c → c < w → lo ≤ 2 ^ c * x → 2 ^ c * x ≤ hi → z = 2 ^ c * x) (y_shl lo hi w) := by
  intro KT LT IV AT r S S' lv stk w s s' e1 e2 e' h k z h1 h2 hp
  have h0 : r 0 = 1 := k.1
  unfold y_shl at h
  split at h
  · rename_i c hc
    split at h
    · rename_i hw
      refine y_fit_ok h k h1 h2 fun h3 h4 => ?_
      rw [g_ev_k] at h3 h4 ⊢
      exact hp c (g_cst_ok h0 hc) (Nat.blt_eq.mp hw) h3 h4
    · cases h
  · exact y_any_ok h k h1 h2
/-- to the right: the quotient downward -/
def y_shr (lo hi : Int) (w : Nat) : y_K2 := fun S e1 e2 s => match g_cst e2 with
  | some (.ofNat c) => (match Nat.blt c w && y_old S e1 with
    | true => y_fr S s fun n => y_rg n lo hi ++ [g_mad (-2 ^ c) (g_s n) e1, g_ac (2 ^ c - 1) (g_mad (2 ^ c) (g_s n) (g_k (-1) e1))]
    | false => none)
  | _ => y_any lo hi S s
theorem y_shr_ok {lo hi : Int} {w : Nat} : y_OK lo hi (fun x y z => ∀ c : Nat, y = c → c < w → z = x / 2 ^ c) (y_shr lo hi w) := by
  intro KT LT IV AT r S S' lv stk w s s' e1 e2 e' h k z h1 h2 hp
  have h0 : r 0 = 1 := k.1
  unfold y_shr at h
  split at h
  · rename_i c hc
    split at h
    · rename_i hw
      rw [Bool.and_eq_true] at hw
      have hz := hp c (g_cst_ok h0 hc) (Nat.blt_eq.mp hw.1)
      have hpos : (0 : Int) < 2 ^ c := Int.pow_pos (by decide)
      have g1 := Int.mul_ediv_add_emod (g_ev r e1) (2 ^ c)
      have g2 := Int.emod_nonneg (g_ev r e1) (Int.ne_of_gt hpos)
      have g3 := Int.emod_lt_of_pos (g_ev r e1) hpos
      rw [← hz] at g1
      refine y_fr_ok h k z fun _ r' h00 hr hzz f hf => ?_
      have he1 : g_ev r' e1 = g_ev r e1 := g_sc_ev hr hw.2
      rcases List.mem_append.mp hf with hf | hf
      · exact y_rg_ok h00 (by rw [hzz]; exact h1) (by rw [hzz]; exact h2) f hf
      · simp only [List.mem_cons, List.not_mem_nil, or_false] at hf
        rcases hf with rfl | rfl
        · rw [g_ev_mad, g_ev_s, hzz, he1, Int.neg_mul]; omega
        · rw [g_ev_ac r' h00, g_ev_mad, g_ev_s, hzz, g_ev_k, he1]; omega
    · cases h
  · exact y_any_ok h k h1 h2
/-- to the right with 0s: what is not below 0 as above; the next says which -/
def y_ush (lo hi : Int) (w : Nat) : y_K2 := fun S e1 e2 s => match s with
  | [] :: s1 => (match y_ck (s_f S) s1 e1 with
    | some s2 => y_shr lo hi w S e1 e2 s2
    | none => none)
  | [_] :: s1 => (match g_cst e2 with
    | some (.ofNat c) => (match Nat.blt 0 c && Nat.blt c w with
      | true => y_fr S s1 fun n => y_rg n 0 (2 ^ (w - c) - 1)
      | false => none)
    | _ => none)
  | _ :: s1 => y_any lo hi S s1
  | [] => none
theorem y_ush_ok {lo hi : Int} {w : Nat} : y_OK lo hi (fun x y z => ∀ c : Nat, y = c → c < w → (0 ≤ x → z = x / 2 ^ c) ∧ (0 < c → 0 ≤ z ∧ z < 2 ^ (w - c))) (y_ush lo hi w) := by
  intro KT LT IV AT r S S' lv stk w s s' e1 e2 e' h k z h1 h2 hp
  have h0 : r 0 = 1 := k.1
  unfold y_ush at h
  split at h
  · split at h
    · rename_i s2 hq
      have hx := y_ck_ok h0 k.2.2.2.2.1 hq
      exact y_shr_ok KT LT IV AT r S S' lv stk _ _ _ _ _ _ h k z h1 h2 fun c hc hw => (hp c hc hw).1 hx
    · cases h
  · split at h
    · rename_i c hc
      split at h
      · rename_i hw
        rw [Bool.and_eq_true] at hw
        have g := (hp c (g_cst_ok h0 hc) (Nat.blt_eq.mp hw.2)).2 (Nat.blt_eq.mp hw.1)
        refine y_fr_ok h k z fun _ r' h00 hr hzz => ?_
        exact y_rg_ok h00 (by rw [hzz]; exact g.1) (by rw [hzz]; omega)
      · cases h
    · cases h
  · exact y_any_ok h k h1 h2
  · cases h
/-- numbers that are both known: what comes out is reckoned -/
def y_cs (f : Int → Int → Int) (κ : y_K2) : y_K2 := fun S e1 e2 s => match s with
  | [_, _, _, _] :: s1 => (match g_cst e1, g_cst e2 with
    | some a, some b => some (S, g_c (f a b), s1)
    | _, _ => none)
  | s => κ S e1 e2 s
theorem y_cs_ok {lo hi : Int} {f : Int → Int → Int} {P : Int → Int → Int → Prop} {κ : y_K2} (hκ : y_OK lo hi P κ) : y_OK lo hi (fun x y z => z = f x y ∧ P x y z) (y_cs f κ) := by
  intro KT LT IV AT r S S' lv stk w s s' e1 e2 e' h k z h1 h2 hp
  unfold y_cs at h
  split at h
  · split at h
    · rename_i a b ha hb
      cases h
      refine ⟨r, ⟨fun _ _ => rfl, Nat.le_refl _, rfl, rfl, rfl, rfl⟩, k, ?_⟩
      rw [g_ev_c r k.1, hp.1, g_cst_ok k.1 ha, g_cst_ok k.1 hb]
    · cases h
  · exact hκ KT LT IV AT r S S' lv stk w _ _ _ _ _ h k z h1 h2 hp.2
def y_fa (a b : Int) : Int := (Int32.ofInt a &&& Int32.ofInt b).toInt
def y_fo (a b : Int) : Int := (Int32.ofInt a ||| Int32.ofInt b).toInt
def y_fx (a b : Int) : Int := (Int32.ofInt a ^^^ Int32.ofInt b).toInt
def y_fu (a b : Int) : Int := (((Int32.ofInt a).toUInt32 >>> ((Int32.ofInt b).toUInt32 &&& Int32.toUInt32 31)).toInt32).toInt
end
