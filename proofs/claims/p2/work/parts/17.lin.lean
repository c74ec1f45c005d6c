/-! PART 17: linear forms over symbols; symbol 0 is the number 1 -/
noncomputable section
abbrev g_LE : Type := List (Nat × Int)
def g_ev (r : Nat → Int) : g_LE → Int
  | [] => 0
  | t :: l => t.2 * r t.1 + g_ev r l
def g_nn (c : Int) : Bool := @Int.rec (fun _ => Bool) (fun _ => true) (fun _ => false) c
theorem g_nn_ok {c : Int} (h : g_nn c = true) : 0 ≤ c := by
  cases c with
  | ofNat n => exact Int.natCast_nonneg n
  | negSucc n => cases h
def g_z (c : Int) : Bool := @Int.rec (fun _ => Bool) (fun n => Nat.beq n 0) (fun _ => false) c
theorem g_z_ok {c : Int} (h : g_z c = true) : c = 0 := by
  cases c with
  | ofNat n => rw [Nat.eq_of_beq_eq_true h]; rfl
  | negSucc n => cases h
/-! sums and products of numbers, with few steps -/
def g_isb (m n : Nat) : Int := @Nat.rec (fun _ => Int) (Int.ofNat (Nat.sub m n)) (fun k _ => Int.negSucc k) (Nat.sub n m)
theorem g_isb_eq {m n : Nat} : g_isb m n = Int.subNatNat m n := by
  unfold g_isb Int.subNatNat
  show _ = match Nat.sub n m with | 0 => Int.ofNat (m - n) | Nat.succ k => Int.negSucc k
  cases Nat.sub n m <;> rfl
def g_ia (a b : Int) : Int := @Int.rec (fun _ => Int) (fun m => @Int.rec (fun _ => Int) (fun n => Int.ofNat (Nat.add m n)) (fun n => g_isb m (Nat.succ n)) b) (fun m => @Int.rec (fun _ => Int) (fun n => g_isb n (Nat.succ m)) (fun n => Int.negSucc (Nat.succ (Nat.add m n))) b) a
theorem g_ia_eq {a b : Int} : g_ia a b = a + b := by
  cases a <;> cases b
  · rfl
  · exact g_isb_eq
  · exact g_isb_eq
  · rfl
def g_ng (n : Nat) : Int := @Nat.rec (fun _ => Int) (Int.ofNat 0) (fun m _ => Int.negSucc m) n
theorem g_ng_eq {n : Nat} : g_ng n = Int.negOfNat n := by cases n <;> rfl
def g_im (a b : Int) : Int := @Int.rec (fun _ => Int) (fun m => @Int.rec (fun _ => Int) (fun n => Int.ofNat (Nat.mul m n)) (fun n => g_ng (Nat.mul m (Nat.succ n))) b) (fun m => @Int.rec (fun _ => Int) (fun n => g_ng (Nat.mul (Nat.succ m) n)) (fun n => Int.ofNat (Nat.mul (Nat.succ m) (Nat.succ n))) b) a
theorem g_im_eq {a b : Int} : g_im a b = a * b := by
  cases a <;> cases b
  · rfl
  · exact g_ng_eq
  · exact g_ng_eq
  · rfl
def g_ins (i : Nat) (c : Int) (l : g_LE) : g_LE := @List.rec (Nat × Int) (fun _ => g_LE) (@Bool.rec (fun _ => g_LE) [(i, c)] [] (g_z c)) (fun t l ih => @Bool.rec (fun _ => g_LE) (@Bool.rec (fun _ => g_LE) (t :: ih) (@Bool.rec (fun _ => g_LE) ((i, g_ia t.2 c) :: l) l (g_z (g_ia t.2 c))) (Nat.beq i t.1)) (@Bool.rec (fun _ => g_LE) ((i, c) :: t :: l) (t :: l) (g_z c)) (Nat.ble (Nat.succ i) t.1)) l
theorem g_ev_ins (r : Nat → Int) (i : Nat) (c : Int) : ∀ l : g_LE, g_ev r (g_ins i c l) = c * r i + g_ev r l
  | [] => by
    show g_ev r (@Bool.rec (fun _ => g_LE) [(i, c)] [] (g_z c)) = _
    cases h : g_z c with
    | true =>
      rw [g_z_ok h]
      simp [g_ev]
    | false => simp [g_ev]
  | t :: l => by
    show g_ev r (@Bool.rec (fun _ => g_LE) (@Bool.rec (fun _ => g_LE) (t :: g_ins i c l) (@Bool.rec (fun _ => g_LE) ((i, g_ia t.2 c) :: l) l (g_z (g_ia t.2 c))) (Nat.beq i t.1)) (@Bool.rec (fun _ => g_LE) ((i, c) :: t :: l) (t :: l) (g_z c)) (Nat.ble (Nat.succ i) t.1)) = _
    cases h1 : Nat.ble (Nat.succ i) t.1 with
    | true =>
      cases h : g_z c with
      | true =>
        rw [g_z_ok h]
        simp [g_ev]
      | false => simp [g_ev]
    | false =>
      cases h : Nat.beq i t.1 with
      | true =>
        have he := Nat.eq_of_beq_eq_true h
        cases h2 : g_z (g_ia t.2 c) with
        | true =>
          have hz := g_z_ok h2
          rw [g_ia_eq] at hz
          have h3 : t.2 * r t.1 + c * r t.1 = 0 := by rw [← Int.add_mul, hz, Int.zero_mul]
          simp only [g_ev]
          rw [he]
          omega
        | false =>
          simp only [g_ev]
          rw [g_ia_eq, he, Int.add_mul]
          omega
      | false =>
        simp only [g_ev]
        rw [g_ev_ins r i c l]
        omega
/-- k a + b -/
def g_mad (k : Int) (a b : g_LE) : g_LE := @List.rec (Nat × Int) (fun _ => g_LE) b (fun t _ ih => g_ins t.1 (g_im k t.2) ih) a
theorem g_ev_mad (r : Nat → Int) (k : Int) : ∀ a b : g_LE, g_ev r (g_mad k a b) = k * g_ev r a + g_ev r b
  | [], b => by simp [g_mad, g_ev]
  | t :: a, b => by
    show g_ev r (g_ins t.1 (g_im k t.2) (g_mad k a b)) = _
    rw [g_im_eq, g_ev_ins, g_ev_mad r k a b]
    simp only [g_ev]
    rw [Int.mul_add, Int.mul_assoc]
    omega
def g_add (a b : g_LE) : g_LE := g_mad 1 a b
def g_sub (a b : g_LE) : g_LE := g_mad (-1) b a
def g_k (k : Int) (a : g_LE) : g_LE := g_mad k a []
def g_c (c : Int) : g_LE := g_ins 0 c []
def g_s (i : Nat) : g_LE := [(i, 1)]
theorem g_ev_add (r : Nat → Int) (a b : g_LE) : g_ev r (g_add a b) = g_ev r a + g_ev r b := by rw [g_add, g_ev_mad]; omega
theorem g_ev_sub (r : Nat → Int) (a b : g_LE) : g_ev r (g_sub a b) = g_ev r a - g_ev r b := by rw [g_sub, g_ev_mad]; omega
theorem g_ev_k (r : Nat → Int) (k : Int) (a : g_LE) : g_ev r (g_k k a) = k * g_ev r a := by rw [g_k, g_ev_mad]; simp [g_ev]
theorem g_ev_c (r : Nat → Int) (h : r 0 = 1) (c : Int) : g_ev r (g_c c) = c := by rw [g_c, g_ev_ins, h]; simp [g_ev]
theorem g_ev_s (r : Nat → Int) (i : Nat) : g_ev r (g_s i) = r i := by simp [g_s, g_ev]
/-- a + c -/
def g_ac (c : Int) (a : g_LE) : g_LE := g_ins 0 c a
theorem g_ev_ac (r : Nat → Int) (h : r 0 = 1) (c : Int) (a : g_LE) : g_ev r (g_ac c a) = g_ev r a + c := by rw [g_ac, g_ev_ins, h]; omega
def g_ieq (a b : Int) : Bool := @Int.rec (fun _ => Bool) (fun m => @Int.rec (fun _ => Bool) (fun n => Nat.beq m n) (fun _ => false) b) (fun m => @Int.rec (fun _ => Bool) (fun _ => false) (fun n => Nat.beq m n) b) a
theorem g_ieq_ok : ∀ {a b : Int}, g_ieq a b = true → a = b
  | .ofNat a, .ofNat b, h => by rw [Nat.eq_of_beq_eq_true h]
  | .negSucc a, .negSucc b, h => by rw [Nat.eq_of_beq_eq_true h]
  | .ofNat _, .negSucc _, h => by cases h
  | .negSucc _, .ofNat _, h => by cases h
def g_eq (a b : g_LE) : Bool := @List.rec (Nat × Int) (fun _ => g_LE → Bool) (fun b => @List.rec (Nat × Int) (fun _ => Bool) true (fun _ _ _ => false) b) (fun t _ ih b => @List.rec (Nat × Int) (fun _ => Bool) false (fun u b _ => @Bool.rec (fun _ => Bool) false (@Bool.rec (fun _ => Bool) false (ih b) (g_ieq t.2 u.2)) (Nat.beq t.1 u.1)) b) a b
theorem g_eq_ok : ∀ {a b : g_LE}, g_eq a b = true → a = b
  | [], [], _ => rfl
  | t :: a, u :: b, h => by
    have h' : @Bool.rec (fun _ => Bool) false (@Bool.rec (fun _ => Bool) false (g_eq a b) (g_ieq t.2 u.2)) (Nat.beq t.1 u.1) = true := h
    cases h1 : Nat.beq t.1 u.1 with
    | false => rw [h1] at h'; cases h'
    | true =>
      rw [h1] at h'
      cases h2 : g_ieq t.2 u.2 with
      | false => rw [h2] at h'; cases h'
      | true =>
        rw [h2] at h'
        rw [g_eq_ok (a := a) (b := b) h']
        congr 1
        exact Prod.ext (Nat.eq_of_beq_eq_true h1) (g_ieq_ok h2)
  | [], _ :: _, h => by cases h
  | _ :: _, [], h => by cases h
/-- a number that is there for certain -/
def g_cst (e : g_LE) : Option Int := @List.rec (Nat × Int) (fun _ => Option Int) (some 0) (fun t l _ => @List.rec (Nat × Int) (fun _ => Option Int) (@Bool.rec (fun _ => Option Int) none (some t.2) (Nat.beq t.1 0)) (fun _ _ _ => none) l) e
theorem g_cst_ok {r : Nat → Int} (h : r 0 = 1) : ∀ {e : g_LE} {c : Int}, g_cst e = some c → g_ev r e = c
  | [], c, hc => by cases hc; rfl
  | [t], c, hc => by
    have hq : @Bool.rec (fun _ => Option Int) none (some t.2) (Nat.beq t.1 0) = some c := hc
    cases hb : Nat.beq t.1 0 with
    | true =>
      rw [hb] at hq
      cases hq
      have h3 := Nat.eq_of_beq_eq_true hb
      simp [g_ev, h3, h]
    | false =>
      rw [hb] at hq
      cases hq
  | _ :: _ :: _, c, hc => by cases hc
/-- a difference that is a number -/
def g_ig (a : Int) : Int := @Int.rec (fun _ => Int) (fun n => g_ng n) (fun n => Int.ofNat (Nat.succ n)) a
theorem g_ig_eq {a : Int} : g_ig a = -a := by
  cases a with
  | ofNat n => cases n <;> rfl
  | negSucc n => rfl
def g_dk (a b : g_LE) : Option Int := @List.rec (Nat × Int) (fun _ => Option Int) (g_cst (g_sub a b)) (fun t l _ => @List.rec (Nat × Int) (fun _ => Option Int) (@Bool.rec (fun _ => Option Int) (g_cst (g_sub a b)) (@List.rec (Nat × Int) (fun _ => Option Int) (g_cst (g_sub a b)) (fun u l2 _ => @List.rec (Nat × Int) (fun _ => Option Int) (@Bool.rec (fun _ => Option Int) (g_cst (g_sub a b)) (some (g_ia t.2 (g_ig u.2))) (Nat.beq u.1 0)) (fun _ _ _ => g_cst (g_sub a b)) l2) b) (Nat.beq t.1 0)) (fun _ _ _ => g_cst (g_sub a b)) l) a
theorem g_dk_ok {r : Nat → Int} (h : r 0 = 1) : ∀ {a b : g_LE} {c : Int}, g_dk a b = some c → g_ev r (g_sub a b) = c
  | [], b, c, hc => g_cst_ok h hc
  | _ :: _ :: _, b, c, hc => g_cst_ok h hc
  | [t], b, c, hc => by
    cases ht : Nat.beq t.1 0 with
    | false =>
      unfold g_dk at hc
      dsimp only at hc
      rw [ht] at hc
      exact g_cst_ok h hc
    | true =>
      match b with
      | [] =>
        unfold g_dk at hc
        dsimp only at hc
        rw [ht] at hc
        exact g_cst_ok h hc
      | _ :: _ :: _ =>
        unfold g_dk at hc
        dsimp only at hc
        rw [ht] at hc
        exact g_cst_ok h hc
      | [u] =>
        cases hu : Nat.beq u.1 0 with
        | false =>
          unfold g_dk at hc
          dsimp only at hc
          rw [ht, hu] at hc
          exact g_cst_ok h hc
        | true =>
          unfold g_dk at hc
          dsimp only at hc
          rw [ht, hu] at hc
          dsimp only at hc
          cases hc
          rw [g_ia_eq, g_ig_eq, g_ev_sub]
          simp only [g_ev, Nat.eq_of_beq_eq_true ht, Nat.eq_of_beq_eq_true hu, h]
          omega
/-- shown: f - sum of facts is a number >= 0 -/
def g_get (F : List g_LE) (i : Nat) : g_LE := @List.rec g_LE (fun _ => Nat → g_LE) (fun _ => []) (fun f _ ih i => @Nat.rec (fun _ => g_LE) f (fun j _ => ih j) i) F i
theorem g_get_eq : ∀ {F : List g_LE} {i : Nat}, g_get F i = F.getD i []
  | [], _ => by rw [List.getD_nil]; rfl
  | f :: F, 0 => rfl
  | f :: F, j + 1 => by
    rw [List.getD_cons_succ, ← g_get_eq]
    rfl
def g_cmb (F : List g_LE) (ct : List (Nat × Nat)) (f : g_LE) : g_LE := @List.rec (Nat × Nat) (fun _ => g_LE → g_LE) (fun f => f) (fun q _ ih f => ih (g_mad (g_ng q.2) (g_get F q.1) f)) ct f
def g_ent (F : List g_LE) (ct : List (Nat × Nat)) (f : g_LE) : Bool := @Option.rec Int (fun _ => Bool) false (fun c => g_nn c) (g_cst (g_cmb F ct f))
def g_FF (r : Nat → Int) (F : List g_LE) : Prop := ∀ f ∈ F, 0 ≤ g_ev r f
theorem g_FF.get {r : Nat → Int} {F : List g_LE} (h : g_FF r F) (i : Nat) : 0 ≤ g_ev r (F.getD i []) := by
  rw [List.getD_eq_getElem?_getD]
  cases hx : F[i]? with
  | none => exact Int.le_refl 0
  | some f => exact h f (List.mem_of_getElem? hx)
theorem g_FF.cons {r : Nat → Int} {F : List g_LE} {f : g_LE} (hf : 0 ≤ g_ev r f) (h : g_FF r F) : g_FF r (f :: F) := by
  intro x hx
  rcases List.mem_cons.mp hx with hx | hx
  · rw [hx]; exact hf
  · exact h x hx
theorem g_cmb_le {r : Nat → Int} {F : List g_LE} (h : g_FF r F) : ∀ (ct : List (Nat × Nat)) (f : g_LE), g_ev r (g_cmb F ct f) ≤ g_ev r f
  | [], f => Int.le_refl _
  | q :: ct, f => by
    show g_ev r (g_cmb F ct (g_mad (g_ng q.2) (g_get F q.1) f)) ≤ _
    refine Int.le_trans (g_cmb_le h ct _) ?_
    rw [g_ev_mad, g_ng_eq, g_get_eq]
    have h1 := h.get q.1
    have h2 : Int.negOfNat q.2 * g_ev r (F.getD q.1 []) ≤ 0 := by
      rw [Int.negOfNat_eq]
      have h3 : 0 ≤ Int.ofNat q.2 * g_ev r (F.getD q.1 []) := Int.mul_nonneg (Int.natCast_nonneg _) h1
      have h4 : -Int.ofNat q.2 * g_ev r (F.getD q.1 []) = -(Int.ofNat q.2 * g_ev r (F.getD q.1 [])) := Int.neg_mul _ _
      omega
    omega
theorem g_ent_ok {r : Nat → Int} (h0 : r 0 = 1) {F : List g_LE} (h : g_FF r F) {ct : List (Nat × Nat)} {f : g_LE} (he : g_ent F ct f = true) : 0 ≤ g_ev r f := by
  unfold g_ent at he
  cases hc : g_cst (g_cmb F ct f) with
  | some c =>
    rw [hc] at he
    have h1 := g_cst_ok h0 hc
    have h2 := g_cmb_le h ct f
    have h3 := g_nn_ok he
    omega
  | none => rw [hc] at he; cases he
/-- symbols below n alone -/
def g_sc (n : Nat) (e : g_LE) : Bool := @List.rec (Nat × Int) (fun _ => Bool) true (fun t _ ih => @Bool.rec (fun _ => Bool) false ih (Nat.ble (Nat.succ t.1) n)) e
theorem g_sc_def {n : Nat} : ∀ {e : g_LE}, g_sc n e = e.all fun t => Nat.blt t.1 n
  | [] => rfl
  | t :: l => by
    rw [List.all_cons, ← g_sc_def]
    show @Bool.rec (fun _ => Bool) false (g_sc n l) (Nat.ble (Nat.succ t.1) n) = (Nat.ble (Nat.succ t.1) n && g_sc n l)
    cases Nat.ble (Nat.succ t.1) n <;> rfl
theorem g_sc_ev {n : Nat} {r r' : Nat → Int} (h : ∀ i, i < n → r' i = r i) : ∀ {e : g_LE}, g_sc n e = true → g_ev r' e = g_ev r e
  | [], _ => rfl
  | t :: l, he => by
    rw [g_sc_def, List.all_cons, Bool.and_eq_true, ← g_sc_def] at he
    simp only [g_ev]
    rw [g_sc_ev h (e := l) he.2, h t.1 (Nat.blt_eq.mp he.1)]
/-- other forms in place of the symbols: symbol 0 stays -/
def g_sub1 (m : List g_LE) (i : Nat) : g_LE := @Nat.rec (fun _ => g_LE) [(0, 1)] (fun i _ => g_get m i) i
def g_sb (m : List g_LE) (e : g_LE) : g_LE := @List.rec (Nat × Int) (fun _ => g_LE) [] (fun t _ ih => g_mad t.2 (g_sub1 m t.1) ih) e
def g_rs (r : Nat → Int) (m : List g_LE) (i : Nat) : Int := g_ev r (g_sub1 m i)
theorem g_ev_sb (r : Nat → Int) (m : List g_LE) : ∀ e : g_LE, g_ev r (g_sb m e) = g_ev (g_rs r m) e
  | [] => rfl
  | t :: l => by
    show g_ev r (g_mad t.2 (g_sub1 m t.1) (g_sb m l)) = _
    rw [g_ev_mad, g_ev_sb r m l]
    rfl
theorem g_rs_0 {r : Nat → Int} (h : r 0 = 1) (m : List g_LE) : g_rs r m 0 = 1 := by simp [g_rs, g_sub1, g_ev, h]
end
