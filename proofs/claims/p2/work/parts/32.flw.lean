/-! PART 32: branches -/
noncomputable section
abbrev y_BL : Type := List (Nat × y_S)
def y_af (S : y_S) (L : List g_LE) : y_S := (s_n S, s_l S, s_s S, s_m S, y_ra L (s_f S), s_a S)
/-- a branch with facts: [] it is gone on with; else why it can't be -/
def y_br (S : y_S) (L : List g_LE) (pc : Nat) (s : y_Str) : Option (y_BL × y_Str) := match s with
  | [] => none
  | [] :: s1 => some ([(pc, y_af S L)], s1)
  | t :: s1 => match g_ent (y_ra L (s_f S)) (y_ct t) (g_c (-1)) with
    | true => some ([], s1)
    | false => none
def y_bb (a : Option (y_BL × y_Str)) (b : y_Str → Option (y_BL × y_Str)) : Option (y_BL × y_Str) := match a with
  | none => none
  | some (A, s) => match b s with
    | none => none
    | some (B, s') => some (A ++ B, s')
theorem y_bb_s {a : Option (y_BL × y_Str)} {b : y_Str → Option (y_BL × y_Str)} {C : y_BL} {s' : y_Str} (h : y_bb a b = some (C, s')) : ∃ A s B, a = some (A, s) ∧ b s = some (B, s') ∧ C = A ++ B := by
  unfold y_bb at h
  split at h
  · cases h
  · split at h
    · cases h
    · rename_i hb
      cases h
      exact ⟨_, _, _, rfl, hb, rfl⟩
def y_ccP (c : ClassFile.Cond) (k : Int) : Prop := match c with
  | .eq => k = 0
  | .ne => k ≠ 0
  | .lt => k < 0
  | .ge => 0 ≤ k
  | .gt => 0 < k
  | .le => k ≤ 0
def y_ccB (c : ClassFile.Cond) (k : Int) : Bool := match c with
  | .eq => g_z k
  | .ne => !(g_z k)
  | .lt => !(g_nn k)
  | .ge => g_nn k
  | .gt => !(g_nn (-k))
  | .le => g_nn (-k)
theorem g_nn_iff {k : Int} : g_nn k = true ↔ 0 ≤ k := by
  constructor
  · exact g_nn_ok
  · intro h
    cases k with
    | ofNat n => rfl
    | negSucc n => exact absurd h (by omega)
theorem g_z_iff {k : Int} : g_z k = true ↔ k = 0 := by
  constructor
  · exact g_z_ok
  · rintro rfl
    rfl
theorem y_ccB_iff {c : ClassFile.Cond} {k : Int} : y_ccB c k = true ↔ y_ccP c k := by
  cases c <;> simp only [y_ccB, y_ccP, Bool.not_eq_true', ← Bool.not_eq_true, g_z_iff, g_nn_iff] <;> omega
theorem y_cmp_iff {c : ClassFile.Cond} {x y : Int32} : e_cmp c x y = true ↔ y_ccP c (x.toInt - y.toInt) := by
  have h : x = y ↔ x.toInt = y.toInt := Int32.toInt_inj.symm
  cases c <;> simp only [e_cmp, y_ccP, Bool.not_eq_true', ← Bool.not_eq_true, decide_eq_true_iff, Int32.lt_iff_toInt_lt, Int32.le_iff_toInt_le, h] <;> omega
/-- facts where d is not 0: the next says whether it is above or below -/
def y_ne (F : List g_LE) (d : g_LE) (s : y_Str) : Option (List g_LE × y_Str) := match s with
  | [] => none
  | [] :: s1 => some ([], s1)
  | [_] :: s1 => (match y_ck F s1 d with
    | some s2 => some ([g_ac (-1) d], s2)
    | none => none)
  | _ :: s1 => (match y_ck F s1 (g_k (-1) d) with
    | some s2 => some ([g_ac (-1) (g_k (-1) d)], s2)
    | none => none)
theorem y_ne_ok {r : Nat → Int} (h0 : r 0 = 1) {F : List g_LE} (hF : g_FF r F) {d : g_LE} {s s' : y_Str} {L : List g_LE} (h : y_ne F d s = some (L, s')) (hd : g_ev r d ≠ 0) : ∀ f ∈ L, 0 ≤ g_ev r f := by
  unfold y_ne at h
  split at h
  · cases h
  · cases h
    intro f hf
    cases hf
  · split at h
    · rename_i s2 hq
      cases h
      have h1 := y_ck_ok h0 hF hq
      intro f hf
      rw [List.mem_singleton.mp hf, g_ev_ac r h0]
      omega
    · cases h
  · split at h
    · rename_i s2 hq
      cases h
      have h1 := y_ck_ok h0 hF hq
      rw [g_ev_k] at h1
      intro f hf
      rw [List.mem_singleton.mp hf, g_ev_ac r h0, g_ev_k]
      omega
    · cases h
def y_b2 (S : y_S) (A : List g_LE) (g : Nat) (B : List g_LE) (n : Nat) (s : y_Str) : Option (y_BL × y_Str) := y_bb (y_br S A g s) fun s1 => y_br S B n s1
def y_if (S : y_S) (c : ClassFile.Cond) (d : g_LE) (g n : Nat) (s : y_Str) : Option (y_BL × y_Str) := match g_cst d with
  | some k => (match y_ccB c k with
    | true => some ([(g, S)], s)
    | false => some ([(n, S)], s))
  | none => match c with
    | .eq => (match y_ne (s_f S) d s with
      | some (N, s1) => y_b2 S [d, g_k (-1) d] g N n s1
      | none => none)
    | .ne => (match y_ne (s_f S) d s with
      | some (N, s1) => y_b2 S N g [d, g_k (-1) d] n s1
      | none => none)
    | .lt => y_b2 S [g_ac (-1) (g_k (-1) d)] g [d] n s
    | .ge => y_b2 S [d] g [g_ac (-1) (g_k (-1) d)] n s
    | .gt => y_b2 S [g_ac (-1) d] g [g_k (-1) d] n s
    | .le => y_b2 S [g_k (-1) d] g [g_ac (-1) d] n s
section Y_BRN
variable {KT : Nat → Option (Nat ⊕ Nat)} {LT : Nat → Option Nat} {IV : y_W → Prop} {AT : Nat → List Int → y_W → Prop} {r r' : Nat → Int} {S S' : y_S} {lv : e_LV} {stk : List Value} {w : y_W} {s s' : y_Str}
theorem y_br_ok {L : List g_LE} {pc : Nat} {B : y_BL} (h : y_br S L pc s = some (B, s')) (k : y_D KT LT IV AT r S lv stk w) (hL : ∀ f ∈ L, 0 ≤ g_ev r f) : (pc, y_af S L) ∈ B ∧ y_D KT LT IV AT r (y_af S L) lv stk w := by
  have kd : y_D KT LT IV AT r (y_af S L) lv stk w := y_D_f k hL
  unfold y_br at h
  split at h
  · cases h
  · cases h
    exact ⟨List.mem_cons_self, kd⟩
  · split at h
    · rename_i hq
      have h1 := g_ent_ok k.1 (show g_FF r (y_ra L (s_f S)) from kd.2.2.2.2.1) hq
      rw [g_ev_c r k.1] at h1
      exact absurd h1 (by decide)
    · cases h
/-- one of two -/
theorem y_b2_ok {A B : List g_LE} {g n : Nat} {C : y_BL} (h : y_b2 S A g B n s = some (C, s')) (k : y_D KT LT IV AT r S lv stk w) (t : Bool) (hA : t = true → ∀ f ∈ A, 0 ≤ g_ev r f) (hB : t = false → ∀ f ∈ B, 0 ≤ g_ev r f) : ∃ S', (if t = true then g else n, S') ∈ C ∧ y_D KT LT IV AT r S' lv stk w ∧ y_ex S S' r r := by
  obtain ⟨A1, s1, B1, h1, h2, rfl⟩ := y_bb_s h
  cases t with
  | true =>
    obtain ⟨g1, g2⟩ := y_br_ok h1 k (hA rfl)
    exact ⟨_, List.mem_append_left _ g1, g2, fun _ _ => rfl, Nat.le_refl _⟩
  | false =>
    obtain ⟨g1, g2⟩ := y_br_ok h2 k (hB rfl)
    exact ⟨_, List.mem_append_right _ g1, g2, fun _ _ => rfl, Nat.le_refl _⟩
theorem y_sgl {P : g_LE → Prop} {e : g_LE} (h : P e) : ∀ f ∈ [e], P f := by
  intro f hf
  rw [List.mem_singleton.mp hf]
  exact h
theorem y_dbl {P : g_LE → Prop} {a b : g_LE} (h1 : P a) (h2 : P b) : ∀ f ∈ [a, b], P f := by
  intro f hf
  rcases List.mem_cons.mp hf with hf | hf
  · rw [hf]; exact h1
  · rw [List.mem_singleton.mp hf]; exact h2
theorem y_if_ok {c : ClassFile.Cond} {d : g_LE} {g n : Nat} {C : y_BL} (h : y_if S c d g n s = some (C, s')) (k : y_D KT LT IV AT r S lv stk w) (t : Bool) (ht : t = true ↔ y_ccP c (g_ev r d)) : ∃ S', (if t = true then g else n, S') ∈ C ∧ y_D KT LT IV AT r S' lv stk w ∧ y_ex S S' r r := by
  have h0 : r 0 = 1 := k.1
  have hf : t = false ↔ ¬ y_ccP c (g_ev r d) := by
    rw [← ht]
    cases t <;> simp
  unfold y_if at h
  split at h
  · rename_i k1 hk
    rw [g_cst_ok h0 hk, ← y_ccB_iff] at ht
    have hb : t = y_ccB c k1 := by
      cases t <;> cases hq : y_ccB c k1 <;> simp_all
    rw [hb]
    split at h
    · rename_i hq
      cases h
      rw [hq]
      exact ⟨S, List.mem_cons_self, k, y_ex.rf⟩
    · rename_i hq
      cases h
      rw [hq]
      exact ⟨S, List.mem_cons_self, k, y_ex.rf⟩
  · split at h
    · split at h
      · rename_i N s1 hN
        refine y_b2_ok h k t (fun hq => ?_) (fun hq => y_ne_ok h0 k.2.2.2.2.1 hN (hf.mp hq))
        have := ht.mp hq
        unfold y_ccP at this
        exact y_dbl (by omega) (by rw [g_ev_k]; omega)
      · cases h
    · split at h
      · rename_i N s1 hN
        refine y_b2_ok h k t (fun hq => y_ne_ok h0 k.2.2.2.2.1 hN (ht.mp hq)) (fun hq => ?_)
        have := hf.mp hq
        unfold y_ccP at this
        exact y_dbl (by omega) (by rw [g_ev_k]; omega)
      · cases h
    all_goals
      refine y_b2_ok h k t (fun hq => ?_) (fun hq => ?_)
      · have := ht.mp hq
        unfold y_ccP at this
        refine y_sgl ?_
        try simp only [g_ev_ac r h0, g_ev_k]
        omega
      · have := hf.mp hq
        unfold y_ccP at this
        refine y_sgl ?_
        try simp only [g_ev_ac r h0, g_ev_k]
        omega
end Y_BRN
end
