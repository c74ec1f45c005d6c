/-! PART 61g: data packed in numbers by tokens of 12 bits -/
noncomputable section
abbrev p_P (β : Type) : Type 1 := (α : Type) → List Nat → (β → List Nat → α) → α
/-- a reader only hands on what it has read -/
def p_OK {β : Type} (p : p_P β) : Prop := ∀ N : List Nat, ∃ v M, ∀ (α : Type) (k : β → List Nat → α), p α N k = k v M
/-- sixteen tokens of a number, the lowest first -/
def p_tk (l : List Nat) : List Nat := List.rec (motive := fun _ => List Nat) [] (fun c _ ih => Nat.land c 4095 :: Nat.land (Nat.shiftRight c 12) 4095 :: Nat.land (Nat.shiftRight c 24) 4095 :: Nat.land (Nat.shiftRight c 36) 4095 :: Nat.land (Nat.shiftRight c 48) 4095 :: Nat.land (Nat.shiftRight c 60) 4095 :: Nat.land (Nat.shiftRight c 72) 4095 :: Nat.land (Nat.shiftRight c 84) 4095 :: Nat.land (Nat.shiftRight c 96) 4095 :: Nat.land (Nat.shiftRight c 108) 4095 :: Nat.land (Nat.shiftRight c 120) 4095 :: Nat.land (Nat.shiftRight c 132) 4095 :: Nat.land (Nat.shiftRight c 144) 4095 :: Nat.land (Nat.shiftRight c 156) 4095 :: Nat.land (Nat.shiftRight c 168) 4095 :: Nat.land (Nat.shiftRight c 180) 4095 :: ih) l
def p_tok : p_P Nat := fun _ ds k => match ds with
  | [] => k 0 []
  | t :: l => y_nN t fun t => k t l
theorem p_tok_ok : p_OK p_tok := fun ds => by
  cases ds with
  | nil => exact ⟨0, [], fun _ _ => rfl⟩
  | cons t l => exact ⟨t, l, fun α k => by unfold p_tok; dsimp only; rw [y_nN_eq]⟩
def p_dg (m : Nat) : Nat → p_P Nat := fun acc α N k => (Nat.rec (motive := fun _ => Nat → List Nat → α) (fun acc N => k acc N) (fun _ ih acc N => p_tok α N fun t M => y_nN (Nat.add (Nat.mul acc 4096) t) fun a => ih a M) m) acc N
theorem p_dg_ok : ∀ (m acc : Nat), p_OK (p_dg m acc)
  | 0, acc => fun N => ⟨acc, N, fun _ _ => rfl⟩
  | m + 1, acc => fun N => by
    obtain ⟨t, M, h⟩ := p_tok_ok N
    obtain ⟨v, M2, h2⟩ := p_dg_ok m (Nat.add (Nat.mul acc 4096) t) M
    refine ⟨v, M2, fun α k => ?_⟩
    have e : p_dg (m + 1) acc α N k = p_tok α N fun t M => y_nN (Nat.add (Nat.mul acc 4096) t) fun a => p_dg m a α M k := rfl
    rw [e, h, y_nN_eq, h2]
/-- a number: one token, or 4095, how many, and the tokens -/
def p_nat : p_P Nat := fun α N k => p_tok α N fun t M => match Nat.blt t 4095 with
  | true => k t M
  | false => p_tok α M fun m M => p_dg m 0 α M k
theorem p_nat_ok : p_OK p_nat := fun N => by
  obtain ⟨t, M, h⟩ := p_tok_ok N
  cases ht : Nat.blt t 4095 with
  | true => exact ⟨t, M, fun α k => by unfold p_nat; rw [h, ht]⟩
  | false =>
    obtain ⟨m, M2, h2⟩ := p_tok_ok M
    obtain ⟨v, M3, h3⟩ := p_dg_ok m 0 M2
    exact ⟨v, M3, fun α k => by unfold p_nat; rw [h, ht]; dsimp only; rw [h2, h3]⟩
/-- an even number is it doubled; an odd one lies below 0 -/
def p_int : p_P Int := fun α N k => p_nat α N fun n M => y_nN (Nat.shiftRight n 1) fun h => match Nat.beq (Nat.land n 1) 0 with
  | true => k (.ofNat h) M
  | false => k (.negSucc h) M
theorem p_int_ok : p_OK p_int := fun N => by
  obtain ⟨n, M, h⟩ := p_nat_ok N
  cases hb : Nat.beq (Nat.land n 1) 0 with
  | true => exact ⟨.ofNat (Nat.shiftRight n 1), M, fun α k => by unfold p_int; rw [h, y_nN_eq, hb]⟩
  | false => exact ⟨.negSucc (Nat.shiftRight n 1), M, fun α k => by unfold p_int; rw [h, y_nN_eq, hb]⟩
/-- a number and a multiplier: 4 n + (0: 1, 1: -1, 2: it follows, 3: 0) -/
def p_tm : p_P (Nat × Int) := fun α N k => p_nat α N fun z M => y_nN (Nat.shiftRight z 2) fun n => match Nat.land z 3 with
  | 0 => k (n, .ofNat 1) M
  | 1 => k (n, .negSucc 0) M
  | 2 => p_int α M fun c M => k (n, c) M
  | _ => k (n, .ofNat 0) M
theorem p_tm_ok : p_OK p_tm := fun N => by
  obtain ⟨z, M, h⟩ := p_nat_ok N
  obtain ⟨c, M2, h2⟩ := p_int_ok M
  by_cases h0 : Nat.land z 3 = 0
  · exact ⟨(Nat.shiftRight z 2, .ofNat 1), M, fun α k => by unfold p_tm; rw [h, y_nN_eq, h0]; rfl⟩
  by_cases h1 : Nat.land z 3 = 1
  · exact ⟨(Nat.shiftRight z 2, .negSucc 0), M, fun α k => by unfold p_tm; rw [h, y_nN_eq, h1]; rfl⟩
  by_cases h3 : Nat.land z 3 = 2
  · exact ⟨(Nat.shiftRight z 2, c), M2, fun α k => by unfold p_tm; rw [h, y_nN_eq, h3]; exact h2 α fun c M => k (Nat.shiftRight z 2, c) M⟩
  · refine ⟨(Nat.shiftRight z 2, .ofNat 0), M, fun α k => ?_⟩
    unfold p_tm
    rw [h, y_nN_eq]
    split
    · rename_i hq; exact absurd hq h0
    · rename_i hq; exact absurd hq h1
    · rename_i hq; exact absurd hq h3
    · rfl
def p_rp {β : Type} (p : p_P β) (n : Nat) : p_P (List β) := fun α N k => (Nat.rec (motive := fun _ => List Nat → (List β → List Nat → α) → α) (fun N k => k [] N) (fun _ ih N k => p α N fun a M => ih M fun l M => k (a :: l) M) n) N k
theorem p_rp_ok {β : Type} {p : p_P β} (hp : p_OK p) : ∀ n, p_OK (p_rp p n)
  | 0 => fun N => ⟨[], N, fun _ _ => rfl⟩
  | n + 1 => fun N => by
    obtain ⟨v, M, h⟩ := hp N
    obtain ⟨v2, M2, h2⟩ := p_rp_ok hp n M
    refine ⟨v :: v2, M2, fun α k => ?_⟩
    have e : p_rp p (n + 1) α N k = p α N fun a M => p_rp p n α M fun l M => k (a :: l) M := rfl
    rw [e, h, h2]
def p_li {β : Type} (p : p_P β) : p_P (List β) := fun α N k => p_nat α N fun n M => p_rp p n α M k
theorem p_li_ok {β : Type} {p : p_P β} (hp : p_OK p) : p_OK (p_li p) := fun N => by
  obtain ⟨n, M, h⟩ := p_nat_ok N
  obtain ⟨v, M2, h2⟩ := p_rp_ok hp n M
  exact ⟨v, M2, fun α k => by unfold p_li; rw [h, h2]⟩
def p_pr {β γ : Type} (p : p_P β) (q : p_P γ) : p_P (β × γ) := fun α N k => p α N fun a M => q α M fun b M => k (a, b) M
theorem p_pr_ok {β γ : Type} {p : p_P β} {q : p_P γ} (hp : p_OK p) (hq : p_OK q) : p_OK (p_pr p q) := fun N => by
  obtain ⟨v, M, h⟩ := hp N
  obtain ⟨v2, M2, h2⟩ := hq M
  exact ⟨(v, v2), M2, fun α k => by unfold p_pr; rw [h, h2]⟩
def p_op {β : Type} (p : p_P β) : p_P (Option β) := fun α N k => p_nat α N fun n M => match Nat.beq n 0 with
  | true => k none M
  | false => p α M fun a M => k (some a) M
theorem p_op_ok {β : Type} {p : p_P β} (hp : p_OK p) : p_OK (p_op p) := fun N => by
  obtain ⟨n, M, h⟩ := p_nat_ok N
  cases hb : Nat.beq n 0 with
  | true => exact ⟨none, M, fun α k => by unfold p_op; rw [h, hb]⟩
  | false =>
    obtain ⟨v, M2, h2⟩ := hp M
    exact ⟨some v, M2, fun α k => by unfold p_op; rw [h, hb]; dsimp only; rw [h2]⟩
def p_LE : p_P g_LE := p_li p_tm
theorem p_LE_ok : p_OK p_LE := p_li_ok p_tm_ok
def p_SV : p_P y_SV := p_pr p_nat p_LE
theorem p_SV_ok : p_OK p_SV := p_pr_ok p_nat_ok p_LE_ok
def p_ME : p_P y_ME := p_pr p_nat (p_pr p_LE (p_pr p_LE p_LE))
theorem p_ME_ok : p_OK p_ME := p_pr_ok p_nat_ok (p_pr_ok p_LE_ok (p_pr_ok p_LE_ok p_LE_ok))
def p_AT : p_P y_AT := p_pr p_nat (p_li p_LE)
theorem p_AT_ok : p_OK p_AT := p_pr_ok p_nat_ok (p_li_ok p_LE_ok)
def p_S : p_P y_S := p_pr p_nat (p_pr (p_li (p_pr p_nat p_SV)) (p_pr (p_li p_SV) (p_pr (p_li p_ME) (p_pr (p_li p_LE) (p_li p_AT)))))
theorem p_S_ok : p_OK p_S := p_pr_ok p_nat_ok (p_pr_ok (p_li_ok (p_pr_ok p_nat_ok p_SV_ok)) (p_pr_ok (p_li_ok p_SV_ok) (p_pr_ok (p_li_ok p_ME_ok) (p_pr_ok (p_li_ok p_LE_ok) (p_li_ok p_AT_ok)))))
def p_MI : p_P y_MI := p_pr p_nat (p_pr p_LE (p_pr p_LE (p_op (p_pr p_LE p_LE))))
theorem p_MI_ok : p_OK p_MI := p_pr_ok p_nat_ok (p_pr_ok p_LE_ok (p_pr_ok p_LE_ok (p_op_ok (p_pr_ok p_LE_ok p_LE_ok))))
def p_CX : p_P y_CX := p_pr p_nat (p_pr p_S (p_pr p_LE (p_pr (p_li p_MI) (p_pr (p_op p_LE) (p_li (p_pr p_nat p_S))))))
theorem p_CX_ok : p_OK p_CX := p_pr_ok p_nat_ok (p_pr_ok p_S_ok (p_pr_ok p_LE_ok (p_pr_ok (p_li_ok p_MI_ok) (p_pr_ok (p_op_ok p_LE_ok) (p_li_ok (p_pr_ok p_nat_ok p_S_ok))))))
def p_HD : p_P y_HD := p_pr p_nat (p_pr p_S (p_li p_LE))
theorem p_HD_ok : p_OK p_HD := p_pr_ok p_nat_ok (p_pr_ok p_S_ok (p_li_ok p_LE_ok))
/-- an item: 4 n + (0: n pairs, 1: (n, 1), 2: (n, 0), 3: (n, 1) and another (m, 1)) -/
def p_it : p_P y_It := fun α N k => p_nat α N fun z M => y_nN (Nat.shiftRight z 2) fun n => match Nat.land z 3 with
  | 0 => p_rp p_tm n α M k
  | 1 => k [(n, .ofNat 1)] M
  | 2 => k [(n, .ofNat 0)] M
  | _ => p_nat α M fun m M => k [(n, .ofNat 1), (m, .ofNat 1)] M
/-- a promise out of its numbers -/
def p_cx (N : List Nat) (α : Type) (k : y_CX → α) : α := p_CX α (p_tk N) fun c _ => k c
theorem p_cx_eq (N : List Nat) (α : Type) (k : y_CX → α) : p_cx N α k = k (p_cx N y_CX id) := by
  unfold p_cx
  obtain ⟨v, e, h⟩ := p_CX_ok (p_tk N)
  rw [h, h]
  rfl
def p_hs (N : List Nat) (α : Type) (k : List y_HD → α) : α := p_li p_HD α (p_tk N) fun c _ => k c
theorem p_hs_eq (N : List Nat) (α : Type) (k : List y_HD → α) : p_hs N α k = k (p_hs N (List y_HD) id) := by
  unfold p_hs
  obtain ⟨v, e, h⟩ := p_li_ok p_HD_ok (p_tk N)
  rw [h, h]
  rfl
/-- promises out of their numbers -/
def p_cs : List (List Nat) → (α : Type) → (List y_CX → α) → α
  | [], _, k => k []
  | p :: l, α, k => p_cx p α fun c => p_cs l α fun cs => k (c :: cs)
def p_csv (l : List (List Nat)) : List y_CX := l.map fun p => p_cx p y_CX id
theorem p_cs_eq : ∀ (l : List (List Nat)) (α : Type) (k : List y_CX → α), p_cs l α k = k (p_csv l)
  | [], _, _ => rfl
  | p :: l, α, k => by
    unfold p_cs
    rw [p_cx_eq, p_cs_eq l]
    rfl
/-- places where a walk is cut, out of their numbers -/
def p_KS : p_P (Nat × y_S) := p_pr p_nat p_S
theorem p_KS_ok : p_OK p_KS := p_pr_ok p_nat_ok p_S_ok
def p_k1 (N : List Nat) (α : Type) (k : Nat × y_S → α) : α := p_KS α (p_tk N) fun c _ => k c
theorem p_k1_eq (N : List Nat) (α : Type) (k : Nat × y_S → α) : p_k1 N α k = k (p_k1 N (Nat × y_S) id) := by
  unfold p_k1
  obtain ⟨v, e, h⟩ := p_KS_ok (p_tk N)
  rw [h, h]
  rfl
def p_ck : List (List Nat) → (α : Type) → (List (Nat × y_S) → α) → α
  | [], _, k => k []
  | p :: l, α, k => p_k1 p α fun c => p_ck l α fun cs => k (c :: cs)
def p_ckv (l : List (List Nat)) : List (Nat × y_S) := l.map fun p => p_k1 p (Nat × y_S) id
theorem p_ck_eq : ∀ (l : List (List Nat)) (α : Type) (k : List (Nat × y_S) → α), p_ck l α k = k (p_ckv l)
  | [], _, _ => rfl
  | p :: l, α, k => by
    unfold p_ck
    rw [p_k1_eq, p_ck_eq l]
    rfl
/-- a stream, item by item as it is come to -/
def p_str (n : Nat) (ds : List Nat) : y_Str := (Nat.rec (motive := fun _ => List Nat → y_Str) (fun _ => []) (fun _ ih ds => p_it y_Str ds fun it l => it :: ih l) n) ds
def p_st (n : Nat) (l : List Nat) : y_Str := p_str n (p_tk l)
end
