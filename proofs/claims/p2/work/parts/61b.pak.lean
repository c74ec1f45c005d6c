/-! PART 61b: data packed in numbers, taken apart by the kernel -/
noncomputable section
abbrev q_P (β : Type) : Type 1 := (α : Type) → List Nat → (β → List Nat → α) → α
/-- a reader only hands on what it has read -/
def q_OK {β : Type} (p : q_P β) : Prop := ∀ ds : List Nat, ∃ v d, ∀ (α : Type) (k : β → List Nat → α), p α ds k = k v d
/-- digits of 6 bits: below 32 a number ends -/
def q_dig : Nat → Nat → (α : Type) → (List Nat → α) → α
  | 0, _, _, k => k []
  | n + 1, N, α, k => y_nN (N % 64) fun d => y_nN (N / 64) fun M => q_dig n M α fun l => k (d :: l)
theorem q_dig_ex : ∀ (n N : Nat), ∃ v, ∀ (α : Type) (k : List Nat → α), q_dig n N α k = k v
  | 0, _ => ⟨[], fun _ _ => rfl⟩
  | n + 1, N => by
    obtain ⟨v, h⟩ := q_dig_ex n (N / 64)
    exact ⟨N % 64 :: v, fun α k => by unfold q_dig; rw [y_nN_eq, y_nN_eq, h]⟩
/-- a long number is halved first -/
def q_spl : Nat → Nat → (α : Type) → (List Nat → α) → α
  | 0, N, α, k => q_dig 256 N α k
  | d + 1, N, α, k => y_nN (Nat.shiftLeft 1536 d) fun b => y_nN (N % Nat.shiftLeft 1 b) fun lo => y_nN (Nat.shiftRight N b) fun hi => q_spl d lo α fun a => q_spl d hi α fun c => k (a ++ c)
theorem q_spl_ex : ∀ (d N : Nat), ∃ v, ∀ (α : Type) (k : List Nat → α), q_spl d N α k = k v
  | 0, N => q_dig_ex 256 N
  | d + 1, N => by
    obtain ⟨v, h⟩ := q_spl_ex d (N % Nat.shiftLeft 1 (Nat.shiftLeft 1536 d))
    obtain ⟨v2, h2⟩ := q_spl_ex d (Nat.shiftRight N (Nat.shiftLeft 1536 d))
    exact ⟨v ++ v2, fun α k => by unfold q_spl; rw [y_nN_eq, y_nN_eq, y_nN_eq, h, h2]⟩
def q_num : Nat → Nat → q_P Nat
  | 0, acc => fun _ ds k => y_nN acc fun a => k a ds
  | n + 1, acc => fun α ds k => match ds with
    | [] => y_nN acc fun a => k a []
    | d :: l => match Nat.blt d 32 with
      | true => y_nN (acc * 32 + d) fun a => k a l
      | false => y_nN (acc * 32 + (d - 32)) fun a => q_num n a α l k
theorem q_num_ok : ∀ (n acc : Nat), q_OK (q_num n acc)
  | 0, acc => fun ds => ⟨acc, ds, fun α k => by
    unfold q_num
    rw [y_nN_eq]⟩
  | n + 1, acc => fun ds => by
    cases ds with
    | nil => exact ⟨acc, [], fun α k => by unfold q_num; dsimp only; rw [y_nN_eq]⟩
    | cons d l =>
      cases hd : Nat.blt d 32 with
      | true => exact ⟨acc * 32 + d, l, fun α k => by unfold q_num; dsimp only; rw [hd]; dsimp only; rw [y_nN_eq]⟩
      | false =>
        obtain ⟨v, e, h⟩ := q_num_ok n (acc * 32 + (d - 32)) l
        exact ⟨v, e, fun α k => by unfold q_num; dsimp only; rw [hd]; dsimp only; rw [y_nN_eq, h]⟩
def q_nat : q_P Nat := q_num 20 0
theorem q_nat_ok : q_OK q_nat := q_num_ok 20 0
/-- an even number is it doubled; an odd one lies below 0 -/
def q_int : q_P Int := fun α ds k => q_nat α ds fun n ds => y_nN (n / 2) fun h => match Nat.beq (n % 2) 0 with
  | true => k (.ofNat h) ds
  | false => k (.negSucc h) ds
theorem q_int_ok : q_OK q_int := fun ds => by
  obtain ⟨v, e, h⟩ := q_nat_ok ds
  cases hv : Nat.beq (v % 2) 0 with
  | true => exact ⟨.ofNat (v / 2), e, fun α k => by unfold q_int; rw [h, y_nN_eq, hv]⟩
  | false => exact ⟨.negSucc (v / 2), e, fun α k => by unfold q_int; rw [h, y_nN_eq, hv]⟩
def q_pr {β γ : Type} (p : q_P β) (q : q_P γ) : q_P (β × γ) := fun α ds k => p α ds fun a ds => q α ds fun b ds => k (a, b) ds
theorem q_pr_ok {β γ : Type} {p : q_P β} {q : q_P γ} (hp : q_OK p) (hq : q_OK q) : q_OK (q_pr p q) := fun ds => by
  obtain ⟨v, e, h⟩ := hp ds
  obtain ⟨v2, e2, h2⟩ := hq e
  exact ⟨(v, v2), e2, fun α k => by unfold q_pr; rw [h, h2]⟩
def q_ls {β : Type} (p : q_P β) : Nat → q_P (List β)
  | 0 => fun _ ds k => k [] ds
  | n + 1 => fun α ds k => p α ds fun a ds => q_ls p n α ds fun l ds => k (a :: l) ds
theorem q_ls_ok {β : Type} {p : q_P β} (hp : q_OK p) : ∀ n, q_OK (q_ls p n)
  | 0 => fun ds => ⟨[], ds, fun _ _ => rfl⟩
  | n + 1 => fun ds => by
    obtain ⟨v, e, h⟩ := hp ds
    obtain ⟨v2, e2, h2⟩ := q_ls_ok hp n e
    exact ⟨v :: v2, e2, fun α k => by unfold q_ls; rw [h, h2]⟩
def q_li {β : Type} (p : q_P β) : q_P (List β) := fun α ds k => q_nat α ds fun n ds => q_ls p n α ds k
theorem q_li_ok {β : Type} {p : q_P β} (hp : q_OK p) : q_OK (q_li p) := fun ds => by
  obtain ⟨v, e, h⟩ := q_nat_ok ds
  obtain ⟨v2, e2, h2⟩ := q_ls_ok hp v e
  exact ⟨v2, e2, fun α k => by unfold q_li; rw [h, h2]⟩
def q_op {β : Type} (p : q_P β) : q_P (Option β) := fun α ds k => q_nat α ds fun n ds => match Nat.beq n 0 with
  | true => k none ds
  | false => p α ds fun a ds => k (some a) ds
theorem q_op_ok {β : Type} {p : q_P β} (hp : q_OK p) : q_OK (q_op p) := fun ds => by
  obtain ⟨v, e, h⟩ := q_nat_ok ds
  cases hv : Nat.beq v 0 with
  | true => exact ⟨none, e, fun α k => by unfold q_op; rw [h, hv]⟩
  | false =>
    obtain ⟨v2, e2, h2⟩ := hp e
    exact ⟨some v2, e2, fun α k => by unfold q_op; rw [h, hv]; dsimp only; rw [h2]⟩
def q_LE : q_P g_LE := q_li (q_pr q_nat q_int)
theorem q_LE_ok : q_OK q_LE := q_li_ok (q_pr_ok q_nat_ok q_int_ok)
def q_SV : q_P y_SV := q_pr q_nat q_LE
theorem q_SV_ok : q_OK q_SV := q_pr_ok q_nat_ok q_LE_ok
def q_ME : q_P y_ME := q_pr q_nat (q_pr q_LE (q_pr q_LE q_LE))
theorem q_ME_ok : q_OK q_ME := q_pr_ok q_nat_ok (q_pr_ok q_LE_ok (q_pr_ok q_LE_ok q_LE_ok))
def q_AT : q_P y_AT := q_pr q_nat (q_li q_LE)
theorem q_AT_ok : q_OK q_AT := q_pr_ok q_nat_ok (q_li_ok q_LE_ok)
def q_S : q_P y_S := q_pr q_nat (q_pr (q_li (q_pr q_nat q_SV)) (q_pr (q_li q_SV) (q_pr (q_li q_ME) (q_pr (q_li q_LE) (q_li q_AT)))))
theorem q_S_ok : q_OK q_S := q_pr_ok q_nat_ok (q_pr_ok (q_li_ok (q_pr_ok q_nat_ok q_SV_ok)) (q_pr_ok (q_li_ok q_SV_ok) (q_pr_ok (q_li_ok q_ME_ok) (q_pr_ok (q_li_ok q_LE_ok) (q_li_ok q_AT_ok)))))
def q_MI : q_P y_MI := q_pr q_nat (q_pr q_LE (q_pr q_LE (q_op (q_pr q_LE q_LE))))
theorem q_MI_ok : q_OK q_MI := q_pr_ok q_nat_ok (q_pr_ok q_LE_ok (q_pr_ok q_LE_ok (q_op_ok (q_pr_ok q_LE_ok q_LE_ok))))
def q_CX : q_P y_CX := q_pr q_nat (q_pr q_S (q_pr q_LE (q_pr (q_li q_MI) (q_pr (q_op q_LE) (q_li (q_pr q_nat q_S))))))
theorem q_CX_ok : q_OK q_CX := q_pr_ok q_nat_ok (q_pr_ok q_S_ok (q_pr_ok q_LE_ok (q_pr_ok (q_li_ok q_MI_ok) (q_pr_ok (q_op_ok q_LE_ok) (q_li_ok (q_pr_ok q_nat_ok q_S_ok))))))
def q_HD : q_P y_HD := q_pr q_nat (q_pr q_S (q_li q_LE))
theorem q_HD_ok : q_OK q_HD := q_pr_ok q_nat_ok (q_pr_ok q_S_ok (q_li_ok q_LE_ok))
def q_ST : q_P y_Str := q_li (q_li (q_pr q_nat q_int))
theorem q_ST_ok : q_OK q_ST := q_li_ok (q_li_ok (q_pr_ok q_nat_ok q_int_ok))
def q_CE : q_P (List y_HD × y_Str × List y_Str) := q_pr (q_li q_HD) (q_pr q_ST (q_li q_ST))
theorem q_CE_ok : q_OK q_CE := q_pr_ok (q_li_ok q_HD_ok) (q_pr_ok q_ST_ok (q_li_ok q_ST_ok))
/-- a promise out of its number -/
def q_cx (d N : Nat) (α : Type) (k : y_CX → α) : α := q_spl d N α fun ds => q_CX α ds fun c _ => k c
theorem q_cx_eq (d N : Nat) (α : Type) (k : y_CX → α) : q_cx d N α k = k (q_cx d N y_CX id) := by
  unfold q_cx
  obtain ⟨u, hu⟩ := q_spl_ex d N
  obtain ⟨v, e, h⟩ := q_CX_ok u
  rw [hu, hu, h, h]
  rfl
def q_ce (d N : Nat) (α : Type) (k : List y_HD × y_Str × List y_Str → α) : α := q_spl d N α fun ds => q_CE α ds fun c _ => k c
theorem q_ce_eq (d N : Nat) (α : Type) (k : List y_HD × y_Str × List y_Str → α) : q_ce d N α k = k (q_ce d N (List y_HD × y_Str × List y_Str) id) := by
  unfold q_ce
  obtain ⟨u, hu⟩ := q_spl_ex d N
  obtain ⟨v, e, h⟩ := q_CE_ok u
  rw [hu, hu, h, h]
  rfl
/-- promises out of their numbers -/
def q_cs : List (Nat × Nat) → (α : Type) → (List y_CX → α) → α
  | [], _, k => k []
  | p :: l, α, k => q_cx p.1 p.2 α fun c => q_cs l α fun cs => k (c :: cs)
def q_csv (l : List (Nat × Nat)) : List y_CX := l.map fun p => q_cx p.1 p.2 y_CX id
theorem q_cs_eq : ∀ (l : List (Nat × Nat)) (α : Type) (k : List y_CX → α), q_cs l α k = k (q_csv l)
  | [], _, _ => rfl
  | p :: l, α, k => by
    unfold q_cs
    rw [q_cx_eq, q_cs_eq l]
    rfl
end
