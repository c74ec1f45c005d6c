/-! PART 49: the walk over a method's body -/
noncomputable section
/-- steps from outside, and that they are done -/
abbrev y_XR : Type := e_M → Instr → Nat → Nat → y_S → y_Str → Option (y_BL × y_Str)
def y_XO (T : y_TB) (U : y_WT) (AT : Nat → List Int → y_W → Prop) (N : List y_MI) (t0 : Option g_LE) (XR : y_XR) : Prop := ∀ (d : Nat) (M : e_M) (ins : Instr) (len pc : Nat) (S : y_S) (s s' : y_Str) (B : y_BL) (r : Nat → Int) (lv : e_LV) (stk : List Value) (w : y_W), XR M ins len pc S s = some (B, s') → y_DD U AT r S lv stk w → y_CP U AT N t0 r S w B (t_ex T d M ins len pc lv stk w.1)
/-- where nothing comes from outside -/
def y_XN (T : y_TB) (U : y_WT) (AT : Nat → List Int → y_W → Prop) (XN : e_M → Instr → y_S → Bool) : Prop := ∀ (d : Nat) (M : e_M) (ins : Instr) (len pc : Nat) (S : y_S) (r : Nat → Int) (lv : e_LV) (stk : List Value) (w : y_W), XN M ins S = true → y_DD U AT r S lv stk w → t_ex T d M ins len pc lv stk w.1 = none
def y_stp (U : y_WT) (fp : Nat → List g_LE → List y_MI) (T : y_TB) (M : e_M) (N : List y_MI) (t0 : Option g_LE) (XR : y_XR) (XN : e_M → Instr → y_S → Bool) (ins : Instr) (len pc : Nat) (S : y_S) (s : y_Str) : Option (y_BL × y_Str) := match XN M ins S with
  | false => XR M ins len pc S s
  | true => match y_cc ins with
    | true => (match Nat.beq (e_lh ins) len with
      | true => y_cel U fp N t0 T (e_mo M) (e_ini M) ins pc S s
      | false => none)
    | false => match y_df ins && Nat.beq (e_lf ins len) len with
      | false => none
      | true => match y_ari ins S s with
        | some (S1, s1) => some ([(pc + 1, S1)], s1)
        | none => y_flo (e_mL M) ins pc S s
def y_cts : List y_SV → Nat
  | [] => 0
  | q :: l => (match Nat.beq q.1 1 with
    | true => 2
    | false => 1) + y_cts l
/-- a call: its ends, or (Object's constructor) nothing -/
def y_iv1 (fp : Nat → List g_LE → List y_MI) (CS : List y_CX) (N : List y_MI) (t0 : Option g_LE) (D : g_LE) (j : Nat) (S : y_S) (args rest : List y_SV) (s : y_Str) : Option (List y_X × y_Str) := match s with
  | [(h, _)] :: s1 => (match CS[h]? with
    | some c => (match Nat.beq (c_j c) j && Nat.ble (y_cts rest) 8 with
      | true => y_cal2 fp N t0 D c S args rest s1
      | false => none)
    | none => none)
  | _ => none
/-- a constant String (or another thing of the world's own) of a class -/
def y_xow (T : y_TB) (e : g_LE) (o : Nat) : Bool := match y_adr (g_ac (-1) e) with
  | some q => (match t_xo T q with
    | some o' => Nat.beq o' o
    | none => false)
  | none => false
def y_ivk (U : y_WT) (fp : Nat → List g_LE → List y_MI) (T : y_TB) (CS : List y_CX) (M : e_M) (N : List y_MI) (t0 : Option g_LE) (D : g_LE) (ins : Instr) (S : y_S) (s : y_Str) : Option (List y_X × y_Str) := match ins with
  | .invokevirtual idx => (match t_ml T (e_mo M) idx with
    | some (0, j) => (match t_mt T j with
      | none => none
      | some M' => match Nat.ble (e_mn M') (s_s S).length, (s_s S).drop (e_mn M') with
        | true, (t + 2, e) :: rest => (match w_KT U t with
          | some (.inl ci) => (match ((t_cl T)[ci]?).isSome && Nat.beq (t_cn T ci) (e_mo M'), y_ck (s_f S) s (g_ac (-1) e) with
            | true, some s1 => y_iv1 fp CS N t0 D j S ((t + 2, e) :: ((s_s S).take (e_mn M')).reverse) rest s1
            | _, _ => none)
          | some (.inr _) => none
          | none => (match y_xow T e (e_mo M'), y_ck (s_f S) s (g_ac (-1) e) with
            | true, some s1 => y_iv1 fp CS N t0 D j S ((t + 2, e) :: ((s_s S).take (e_mn M')).reverse) rest s1
            | _, _ => none))
        | _, _ => none)
    | _ => none)
  | .invokestatic idx => (match t_ml T (e_mo M) idx with
    | some (1, j) => (match t_mt T j with
      | none => none
      | some M' => match Nat.ble (e_mn M') (s_s S).length with
        | true => y_iv1 fp CS N t0 D j S ((s_s S).take (e_mn M')).reverse ((s_s S).drop (e_mn M')) s
        | false => none)
    | _ => none)
  | .invokespecial idx => (match t_ml T (e_mo M) idx with
    | some (2, j) => (match t_mt T j with
      | none => none
      | some M' => match Nat.ble (e_mn M') (s_s S).length, (s_s S).drop (e_mn M') with
        | true, (t + 2, e) :: rest => (match y_ck (s_f S) s (g_ac (-1) e) with
          | some s1 => y_iv1 fp CS N t0 D j S ((t + 2, e) :: ((s_s S).take (e_mn M')).reverse) rest s1
          | none => none)
        | _, _ => none)
    | some (9, _) => (match s_s S with
      | (t + 2, e) :: l => (match y_ck (s_f S) s (g_ac (-1) e), Nat.ble (y_cts l) 8 with
        | some s1, true => some ([(0, y_st S l)], s1)
        | _, _ => none)
      | _ => none)
    | _ => none)
  | _ => none
/-- the method's own symbols stand for themselves -/
def y_idn1 : Nat → Nat → List g_LE → Bool
  | 0, _, _ => true
  | n + 1, i, e :: l => g_eq e (g_s i) && y_idn1 n (i + 1) l
  | _ + 1, _, [] => false
def y_ids (n : Nat) : List g_LE := (List.range n).map fun i => g_s (i + 1)
/-- an end of the method itself -/
def y_end (c : y_CX) (kx : Nat) (S : y_S) (s : y_Str) : Option y_Str := match s with
  | [(i, _)] :: s1 => (match (c_X c)[i]? with
    | some x => (match Nat.beq x.1 kx && (s_l x.2).isEmpty with
      | true => (match y_sgm S (y_ids (s_n (c_E c) - 1)) x.2 s1 with
        | some (σ, s2) => (match y_idn1 (s_n (c_E c) - 1) 1 σ with
          | true => y_mat S σ x.2 s2
          | false => none)
        | none => none)
      | false => none)
    | none => none)
  | _ => none
/-- place, pattern, measure -/
abbrev y_HD : Type := Nat × y_S × List g_LE
/-- the measure has fallen: [] it has not risen here; else it falls here -/
def y_lex (F : List g_LE) : List g_LE → List g_LE → y_Str → Option y_Str
  | m :: l, m' :: l', s => (match s with
    | [] :: s1 => (match y_ck F s1 (g_sub m m') with
      | some s2 => y_lex F l l' s2
      | none => none)
    | [_] :: s1 => y_cks F s1 [g_ac (-1) m, g_ac (-1) (g_sub m m')]
    | _ => none)
  | _, _, _ => none
def y_arr (c : y_CX) (m0 : Option (List g_LE)) (H : y_HD) (S : y_S) (s : y_Str) : Option y_Str := match y_sgm S (y_ids (s_n (c_E c) - 1)) H.2.1 s with
  | some (σ, s2) => (match y_idn1 (s_n (c_E c) - 1) 1 σ && (Nat.ble (s_n (c_E c)) (s_n H.2.1) && (s_s H.2.1).isEmpty) with
    | true => (match y_mat S σ H.2.1 s2 with
      | some s3 => (match m0 with
        | none => some s3
        | some m => y_lex (s_f S) m (H.2.2.map (g_sb σ)) s3)
      | none => none)
    | false => none)
  | none => none
def y_alB (f : Nat → y_S → y_Str → Option y_Str) : y_BL → y_Str → Option y_Str
  | [], s => some s
  | b :: l, s => match f b.1 b.2 s with
    | none => none
    | some s1 => y_alB f l s1
def y_alG (f : y_S → y_Str → Option y_Str) : List y_S → y_Str → Option y_Str
  | [], s => some s
  | b :: l, s => match f b s with
    | none => none
    | some s1 => y_alG f l s1
/-- an exception: caught here, or an end -/
def y_thw (c : y_CX) (M : e_M) (f : Nat → y_S → y_Str → Option y_Str) (pc : Nat) (S : y_S) (s : y_Str) : Option y_Str := match e_hd (e_mh M) pc with
  | none => y_end c 1 (y_st S []) s
  | some x => match e_cch (e_mc M) x.2.2.1 [] with
    | none => none
    | some (k, pc', _) => match Nat.blt k (e_mL M) with
      | true => f pc' (y_lo (y_st S []) ((s_l S).filter (y_f1 k))) s
      | false => none
def y_alX (f : y_X → y_Str → Option y_Str) : List y_X → y_Str → Option y_Str
  | [], s => some s
  | b :: l, s => match f b s with
    | none => none
    | some s1 => y_alX f l s1
abbrev y_R2 : Type := y_CX → Nat → y_S → y_It → y_Str → Option (List y_S × y_Str)
/-- of a list: so many stay, so many go, and so on; the rest stays -/
def y_kt {α : Type} (n : Nat) (k : List α → List α) (l : List α) : List α := @Nat.rec (fun _ => List α → List α) k (fun _ ih l => @List.rec α (fun _ => List α) [] (fun x l' _ => x :: ih l') l) n l
def y_kdr {α : Type} (n : Nat) (k : List α → List α) (l : List α) : List α := @Nat.rec (fun _ => List α → List α) k (fun _ ih l => @List.rec α (fun _ => List α) [] (fun _ l' _ => ih l') l) n l
def y_kp {α : Type} (t : y_It) (l : List α) : List α := @List.rec (Nat × Int) (fun _ => List α → List α) (fun l => l) (fun q _ ih => y_kt q.1 (y_kdr q.2.toNat ih)) t l
theorem y_kt_m {α : Type} {k : List α → List α} (hk : ∀ l, ∀ x ∈ k l, x ∈ l) : ∀ (n : Nat) (l : List α), ∀ x ∈ y_kt n k l, x ∈ l
  | 0, l, x, h => hk l x h
  | _ + 1, [], x, h => by cases h
  | n + 1, y :: l, x, h => by
    have h' : x ∈ y :: y_kt n k l := h
    rcases List.mem_cons.mp h' with h' | h'
    · rw [h']; exact List.mem_cons_self
    · exact List.mem_cons_of_mem _ (y_kt_m hk n l x h')
theorem y_kdr_m {α : Type} {k : List α → List α} (hk : ∀ l, ∀ x ∈ k l, x ∈ l) : ∀ (n : Nat) (l : List α), ∀ x ∈ y_kdr n k l, x ∈ l
  | 0, l, x, h => hk l x h
  | _ + 1, [], x, h => by cases h
  | n + 1, y :: l, x, h => List.mem_cons_of_mem _ (y_kdr_m hk n l x h)
theorem y_kp_m {α : Type} : ∀ (t : y_It) (l : List α), ∀ x ∈ y_kp t l, x ∈ l
  | [], _, _, h => h
  | q :: t, l, x, h => y_kt_m (k := y_kdr q.2.toNat (y_kp t)) (fun l x h => y_kdr_m (y_kp_m t) _ l x h) q.1 l x h
def y_kee (kd : Nat) (t : y_It) (S : y_S) : y_S := match kd with
  | 0 => (s_n S, s_l S, s_s S, s_m S, y_kp t (s_f S), s_a S)
  | 1 => (s_n S, s_l S, s_s S, y_kp t (s_m S), s_f S, s_a S)
  | 2 => (s_n S, s_l S, s_s S, s_m S, s_f S, y_kp t (s_a S))
  | _ => (s_n S, y_kp t (s_l S), s_s S, s_m S, s_f S, s_a S)
/-- a step about pointers -/
def y_pit (it : y_It) : Option (Nat × Int × Nat × Int) := match it with
  | [(c, x), (y, z)] => @Bool.rec (fun _ => Option (Nat × Int × Nat × Int)) none (some (c, x, y, z)) (Nat.ble 30 c)
  | _ => none
/-- a ghost's step: by a rule, or one of the common ones -/
def y_gq (U : y_WT) (RL : y_R2) (c : y_CX) (S : y_S) (it : y_It) (s : y_Str) : Option (List y_S × y_Str) := match it with
  | (11, id) :: as => RL c id.toNat S as s
  | (22, kd) :: t => some ([y_kee kd.toNat t S], s)
  | it => match y_pit it with
    | some (c, x, y, z) => y_one (y_gpt U S c x y z s)
    | none => y_gop U (fun _ _ _ _ => none) S it s
/-- lists that are the same -/
def y_lq {α : Type} (p : α → α → Bool) (a b : List α) : Bool := @List.rec α (fun _ => List α → Bool) (fun b => @List.rec α (fun _ => Bool) true (fun _ _ _ => false) b) (fun x _ ih b => @List.rec α (fun _ => Bool) false (fun y b _ => @Bool.rec (fun _ => Bool) false (ih b) (p x y)) b) a b
theorem y_lq_ok {α : Type} {p : α → α → Bool} (hp : ∀ x y, p x y = true → x = y) : ∀ {a b : List α}, y_lq p a b = true → a = b
  | [], [], _ => rfl
  | x :: a, y :: b, h => by
    have h' : @Bool.rec (fun _ => Bool) false (y_lq p a b) (p x y) = true := h
    cases hq : p x y with
    | false => rw [hq] at h'; cases h'
    | true =>
      rw [hq] at h'
      rw [hp x y hq, y_lq_ok hp h']
  | [], _ :: _, h => by cases h
  | _ :: _, [], h => by cases h
def y_meq (m n : y_ME) : Bool := y_bx (Nat.beq m.1 n.1) (y_bx (g_eq m.2.1 n.2.1) (y_bx (g_eq m.2.2.1 n.2.2.1) (g_eq m.2.2.2 n.2.2.2)))
theorem y_meq_ok (m n : y_ME) (h : y_meq m n = true) : m = n := by
  unfold y_meq at h
  rw [y_bx_eq, y_bx_eq, y_bx_eq, Bool.and_eq_true, Bool.and_eq_true, Bool.and_eq_true] at h
  exact Prod.ext (Nat.eq_of_beq_eq_true h.1) (Prod.ext (g_eq_ok h.2.1) (Prod.ext (g_eq_ok h.2.2.1) (g_eq_ok h.2.2.2)))
def y_aeq (a b : y_AT) : Bool := y_bx (Nat.beq a.1 b.1) (y_lq g_eq a.2 b.2)
theorem y_aeq_ok (a b : y_AT) (h : y_aeq a b = true) : a = b := by
  unfold y_aeq at h
  rw [y_bx_eq, Bool.and_eq_true] at h
  exact Prod.ext (Nat.eq_of_beq_eq_true h.1) (y_lq_ok (fun _ _ h => g_eq_ok h) h.2)
def y_loq (L : List (Nat × y_SV)) (q : Nat × y_SV) : Bool := match y_lok L q.1 with
  | some z => y_bx (Nat.beq z.1 q.2.1) (g_eq z.2 q.2.2)
  | none => false
def y_veq (a b : y_SV) : Bool := y_bx (Nat.beq a.1 b.1) (g_eq a.2 b.2)
theorem y_veq_ok (a b : y_SV) (h : y_veq a b = true) : a = b := by
  unfold y_veq at h
  rw [y_bx_eq, Bool.and_eq_true] at h
  exact Prod.ext (Nat.eq_of_beq_eq_true h.1) (g_eq_ok h.2)
/-- S is as P says -/
def y_sam (S P : y_S) : Bool := y_bx (Nat.beq (s_n S) (s_n P)) (y_bx (y_bl (y_loq (s_l S)) (s_l P)) (y_bx (y_lq y_veq (s_s S) (s_s P)) (y_bx (y_lq y_meq (s_m S) (s_m P)) (y_bx (y_lq g_eq (s_f S) (s_f P)) (y_lq y_aeq (s_a S) (s_a P))))))
def y_rn (U : y_WT) (fp : Nat → List g_LE → List y_MI) (RL : y_R2) (T : y_TB) (XR : y_XR) (XN : e_M → Instr → y_S → Bool) (CS : List y_CX) (M : e_M) (c : y_CX) (hd : List y_HD) (m0 : Option (List g_LE)) (CK : List (Nat × y_S)) : Nat → Bool → Nat → y_S → y_Str → Option y_Str
  | 0, _, _, _, _ => none
  | n + 1, fi, pc, S, s => match fi, hd.any (fun H => Nat.beq H.1 pc), s with
    | false, true, [(0, h)] :: s1 => (match hd[h.toNat]? with
      | some H => (match Nat.beq H.1 pc with
        | true => y_arr c m0 H S s1
        | false => none)
      | none => none)
    | false, true, [] :: s1 => y_rn U fp RL T XR XN CS M c hd m0 CK n true pc S s1
    | false, true, it :: s1 => (match y_gq U RL c S it s1 with
      | none => none
      | some (L, s2) => y_alG (fun S' s' => y_rn U fp RL T XR XN CS M c hd m0 CK n false pc (y_nz n S') s') L s2)
    | _, _, it :: s1 => (match it with
      | [(21, k)] => (match CK[k.toNat]? with
        | some x => (match Nat.beq x.1 pc && y_sam S x.2 with
          | true => some s1
          | false => none)
        | none => none)
      | _ :: _ => (match y_gq U RL c S it s1 with
        | none => none
        | some (L, s2) => y_alG (fun S' s' => y_rn U fp RL T XR XN CS M c hd m0 CK n true pc (y_nz n S') s') L s2)
      | [] => match decode (e_mc M) pc with
        | .error _ => none
        | .ok (ins, len) => match y_isr ins with
          | true => (match XN M ins S && Nat.beq len 1, y_rtv (e_mr M) ins S s1 with
            | true, some s2 => y_end c 0 S s2
            | _, _ => none)
          | false => match ins with
            | .athrow => (match s_s S, XN M .athrow S && Nat.beq len 1 with
              | (t + 2, e) :: _, true => (match w_KT U t with
                | some (.inl ci) => (match Nat.beq ci (t_ec T), y_ck (s_f S) s1 (g_ac (-1) e) with
                  | true, some s2 => y_thw c M (fun pc' S' s' => y_nN pc' fun pq => y_rn U fp RL T XR XN CS M c hd m0 CK n false pq (y_nz n S') s') pc S s2
                  | _, _ => none)
                | _ => none)
              | _, _ => none)
            | ins => match y_ivk U fp T CS M (c_M c) (c_t c) (c_D c) ins S s1 with
              | some (Bs, s2) => (match XN M ins S && Nat.beq len 3 with
                | true => y_alX (fun x s' => match x.1 with
                  | 0 => y_nN (pc + 3) fun pq => y_rn U fp RL T XR XN CS M c hd m0 CK n false pq (y_nz n x.2) s'
                  | _ => y_thw c M (fun pc' S' s' => y_nN pc' fun pq => y_rn U fp RL T XR XN CS M c hd m0 CK n false pq (y_nz n S') s') pc x.2 s') Bs s2
                | false => none)
              | none => match y_stp U fp T M (c_M c) (c_t c) XR XN ins len pc S s1 with
                | none => none
                | some (B, s2) => y_alB (fun pc' S' s' => y_nN pc' fun pq => y_rn U fp RL T XR XN CS M c hd m0 CK n false pq (y_nz n S') s') B s2)
    | _, _, [] => none
end
