/-! PART 17: linear forms over symbols; symbol 0 is the number 1 -/
abbrev g_LE : Type := List (Nat × Int)
def g_ev (r : Nat → Int) : g_LE → Int
  | [] => 0
  | t :: l => t.2 * r t.1 + g_ev r l
def g_nn : Int → Bool
  | .ofNat _ => true
  | .negSucc _ => false
theorem g_nn_ok {c : Int} (h : g_nn c = true) : 0 ≤ c := by
  cases c with
  | ofNat n => exact Int.natCast_nonneg n
  | negSucc n => cases h
def g_z : Int → Bool
  | .ofNat n => Nat.beq n 0
  | .negSucc _ => false
theorem g_z_ok {c : Int} (h : g_z c = true) : c = 0 := by
  cases c with
  | ofNat n => rw [Nat.eq_of_beq_eq_true h]; rfl
  | negSucc n => cases h
def g_ins (i : Nat) (c : Int) : g_LE → g_LE
  | [] => match g_z c with
    | true => []
    | false => [(i, c)]
  | t :: l => match Nat.blt i t.1 with
    | true => (match g_z c with
      | true => t :: l
      | false => (i, c) :: t :: l)
    | false => match Nat.beq i t.1 with
      | true => (match g_z (t.2 + c) with
        | true => l
        | false => (i, t.2 + c) :: l)
      | false => t :: g_ins i c l
theorem g_ev_ins (r : Nat → Int) (i : Nat) (c : Int) : ∀ l : g_LE, g_ev r (g_ins i c l) = c * r i + g_ev r l
  | [] => by
    unfold g_ins
    split
    · rename_i h
      rw [g_z_ok h]
      simp [g_ev]
    · simp [g_ev]
  | t :: l => by
    unfold g_ins
    split
    · split
      · rename_i h
        rw [g_z_ok h]
        simp [g_ev]
      · simp [g_ev]
    · split
      · rename_i h
        have he := Nat.eq_of_beq_eq_true h
        split
        · rename_i h2
          have hz := g_z_ok h2
          have h3 : t.2 * r t.1 + c * r t.1 = 0 := by rw [← Int.add_mul, hz, Int.zero_mul]
          simp only [g_ev]
          rw [he]
          omega
        · simp only [g_ev]
          rw [he, Int.add_mul]
          omega
      · simp only [g_ev]
        rw [g_ev_ins r i c l]
        omega
/-- k a + b -/
def g_mad (k : Int) : g_LE → g_LE → g_LE
  | [], b => b
  | t :: a, b => g_ins t.1 (k * t.2) (g_mad k a b)
theorem g_ev_mad (r : Nat → Int) (k : Int) : ∀ a b : g_LE, g_ev r (g_mad k a b) = k * g_ev r a + g_ev r b
  | [], b => by simp [g_mad, g_ev]
  | t :: a, b => by
    unfold g_mad
    rw [g_ev_ins, g_ev_mad r k a b]
    simp only [g_ev]
    rw [Int.mul_add, Int.mul_assoc]
    omega
def g_add (a b : g_LE) : g_LE := g_mad 1 a b
def g_sub (a b : g_LE) : g_LE := g_mad (-1) b a
def g_k (k : Int) (a : g_LE) : g_LE := g_mad k a []
def g_c (c : Int) : g_LE := g_ins 0 c []
def g_s (i : Nat) : g_LE := [(i, 1)]
theorem g_ev_add (r : Nat → Int) (a b : g_LE) : g_ev r (g_add a b) = g_ev r a + g_ev r b := by rw [g_add, g_ev_mad]; omega
theorem g_ev_sub (r : Nat → Int) (a b : g_LE) : g_ev r (g_sub a b) = g_ev r a - g_ev r b := by rw [g_sub, g_ev_mad]; omega
theorem g_ev_k (r : Nat → Int) (k : Int) (a : g_LE) : g_ev r (g_k k a) = k * g_ev r a := by rw [g_k, g_ev_mad]; simp [g_ev]
theorem g_ev_c (r : Nat → Int) (h : r 0 = 1) (c : Int) : g_ev r (g_c c) = c := by rw [g_c, g_ev_ins, h]; simp [g_ev]
theorem g_ev_s (r : Nat → Int) (i : Nat) : g_ev r (g_s i) = r i := by simp [g_s, g_ev]
/-- a + c -/
def g_ac (c : Int) (a : g_LE) : g_LE := g_ins 0 c a
theorem g_ev_ac (r : Nat → Int) (h : r 0 = 1) (c : Int) (a : g_LE) : g_ev r (g_ac c a) = g_ev r a + c := by rw [g_ac, g_ev_ins, h]; omega
def g_ieq : Int → Int → Bool
  | .ofNat a, .ofNat b => Nat.beq a b
  | .negSucc a, .negSucc b => Nat.beq a b
  | _, _ => false
theorem g_ieq_ok : ∀ {a b : Int}, g_ieq a b = true → a = b
  | .ofNat a, .ofNat b, h => by rw [Nat.eq_of_beq_eq_true h]
  | .negSucc a, .negSucc b, h => by rw [Nat.eq_of_beq_eq_true h]
  | .ofNat _, .negSucc _, h => by cases h
  | .negSucc _, .ofNat _, h => by cases h
def g_eq : g_LE → g_LE → Bool
  | [], [] => true
  | t :: a, u :: b => Nat.beq t.1 u.1 && (g_ieq t.2 u.2 && g_eq a b)
  | _, _ => false
theorem g_eq_ok : ∀ {a b : g_LE}, g_eq a b = true → a = b
  | [], [], _ => rfl
  | t :: a, u :: b, h => by
    unfold g_eq at h
    simp only [Bool.and_eq_true] at h
    rw [g_eq_ok h.2.2]
    congr 1
    exact Prod.ext (Nat.eq_of_beq_eq_true h.1) (g_ieq_ok h.2.1)
  | [], _ :: _, h => by cases h
  | _ :: _, [], h => by cases h
/-- a number that is there for certain -/
def g_cst : g_LE → Option Int
  | [] => some 0
  | [t] => match Nat.beq t.1 0 with
    | true => some t.2
    | false => none
  | _ => none
theorem g_cst_ok {r : Nat → Int} (h : r 0 = 1) : ∀ {e : g_LE} {c : Int}, g_cst e = some c → g_ev r e = c
  | [], c, hc => by cases hc; rfl
  | [t], c, hc => by
    have hq : (match Nat.beq t.1 0 with | true => some t.2 | false => none) = some c := hc
    cases hb : Nat.beq t.1 0 with
    | true =>
      rw [hb] at hq
      cases hq
      have h3 := Nat.eq_of_beq_eq_true hb
      simp [g_ev, h3, h]
    | false =>
      rw [hb] at hq
      cases hq
  | _ :: _ :: _, c, hc => by cases hc
/-- shown: f - sum of facts is a number >= 0 -/
def g_cmb (F : List g_LE) : List (Nat × Nat) → g_LE → g_LE
  | [], f => f
  | q :: ct, f => g_cmb F ct (g_mad (Int.negOfNat q.2) (F.getD q.1 []) f)
def g_ent (F : List g_LE) (ct : List (Nat × Nat)) (f : g_LE) : Bool := match g_cst (g_cmb F ct f) with
  | some c => g_nn c
  | none => false
def g_FF (r : Nat → Int) (F : List g_LE) : Prop := ∀ f ∈ F, 0 ≤ g_ev r f
theorem g_FF.get {r : Nat → Int} {F : List g_LE} (h : g_FF r F) (i : Nat) : 0 ≤ g_ev r (F.getD i []) := by
  rw [List.getD_eq_getElem?_getD]
  cases hx : F[i]? with
  | none => exact Int.le_refl 0
  | some f => exact h f (List.mem_of_getElem? hx)
theorem g_FF.cons {r : Nat → Int} {F : List g_LE} {f : g_LE} (hf : 0 ≤ g_ev r f) (h : g_FF r F) : g_FF r (f :: F) := by
  intro x hx
  rcases List.mem_cons.mp hx with hx | hx
  · rw [hx]; exact hf
  · exact h x hx
theorem g_cmb_le {r : Nat → Int} {F : List g_LE} (h : g_FF r F) : ∀ (ct : List (Nat × Nat)) (f : g_LE), g_ev r (g_cmb F ct f) ≤ g_ev r f
  | [], f => Int.le_refl _
  | q :: ct, f => by
    unfold g_cmb
    refine Int.le_trans (g_cmb_le h ct _) ?_
    rw [g_ev_mad]
    have h1 := h.get q.1
    have h2 : Int.negOfNat q.2 * g_ev r (F.getD q.1 []) ≤ 0 := by
      rw [Int.negOfNat_eq]
      have h3 : 0 ≤ Int.ofNat q.2 * g_ev r (F.getD q.1 []) := Int.mul_nonneg (Int.natCast_nonneg _) h1
      have h4 : -Int.ofNat q.2 * g_ev r (F.getD q.1 []) = -(Int.ofNat q.2 * g_ev r (F.getD q.1 [])) := Int.neg_mul _ _
      omega
    omega
theorem g_ent_ok {r : Nat → Int} (h0 : r 0 = 1) {F : List g_LE} (h : g_FF r F) {ct : List (Nat × Nat)} {f : g_LE} (he : g_ent F ct f = true) : 0 ≤ g_ev r f := by
  unfold g_ent at he
  split at he
  · rename_i c hc
    have h1 := g_cst_ok h0 hc
    have h2 := g_cmb_le h ct f
    have h3 := g_nn_ok he
    omega
  · cases he
/-- symbols below n alone -/
def g_sc (n : Nat) (e : g_LE) : Bool := e.all fun t => Nat.blt t.1 n
theorem g_sc_ev {n : Nat} {r r' : Nat → Int} (h : ∀ i, i < n → r' i = r i) : ∀ {e : g_LE}, g_sc n e = true → g_ev r' e = g_ev r e
  | [], _ => rfl
  | t :: l, he => by
    unfold g_sc at he
    rw [List.all_cons, Bool.and_eq_true] at he
    simp only [g_ev]
    rw [g_sc_ev h (e := l) he.2, h t.1 (Nat.blt_eq.mp he.1)]
/-- other forms in place of the symbols: symbol 0 stays -/
def g_sub1 (m : List g_LE) (i : Nat) : g_LE := match i with
  | 0 => [(0, 1)]
  | i + 1 => m.getD i []
def g_sb (m : List g_LE) : g_LE → g_LE
  | [] => []
  | t :: l => g_mad t.2 (g_sub1 m t.1) (g_sb m l)
def g_rs (r : Nat → Int) (m : List g_LE) (i : Nat) : Int := g_ev r (g_sub1 m i)
theorem g_ev_sb (r : Nat → Int) (m : List g_LE) : ∀ e : g_LE, g_ev r (g_sb m e) = g_ev (g_rs r m) e
  | [] => rfl
  | t :: l => by
    unfold g_sb
    rw [g_ev_mad, g_ev_sb r m l]
    rfl
theorem g_rs_0 {r : Nat → Int} (h : r 0 = 1) (m : List g_LE) : g_rs r m 0 = 1 := by simp [g_rs, g_sub1, g_ev, h]
