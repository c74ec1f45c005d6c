/-! PART 26: symbolic states: what they say of a state of the evaluator -/
noncomputable section
abbrev y_SV : Type := Nat × g_LE
abbrev y_ME : Type := Nat × g_LE × g_LE × g_LE
abbrev y_AT : Type := Nat × List g_LE
/-- how many symbols; locals, stack, memory, facts, atoms -/
abbrev y_S : Type := Nat × List (Nat × y_SV) × List y_SV × List y_ME × List g_LE × List y_AT
/-- a state of the evaluator and a ghost's memory -/
abbrev y_W : Type := e_ST × (Nat → Nat → Int)
def s_n (S : y_S) : Nat := S.1
def s_l (S : y_S) : List (Nat × y_SV) := S.2.1
def s_s (S : y_S) : List y_SV := S.2.2.1
def s_m (S : y_S) : List y_ME := S.2.2.2.1
def s_f (S : y_S) : List g_LE := S.2.2.2.2.1
def s_a (S : y_S) : List y_AT := S.2.2.2.2.2
def y_en : Option Nat → Int
  | none => 0
  | some b => (b : Int) + 1
/-- ints of one class's objects alone (nodes): what arrays hold is none of them -/
def y_r8 (w : y_W) (a k : Nat) : Int := match Nat.blt a (e_T w.1), e_K w.1 a with
  | true, some (.inl 12) => (e_I w.1 a k).toInt
  | _, _ => 0
def y_rd (w : y_W) (kd a k : Nat) : Int := match kd with
  | 0 => (e_I w.1 a k).toInt
  | 1 => (e_L w.1 a k).toInt
  | 2 => y_en (e_P w.1 a k)
  | 3 => (e_N w.1 a : Int)
  | 4 => (e_T w.1 : Int)
  | 5 => (e_Z w.1 : Int)
  | 6 => w.2 a k
  | 8 => y_r8 w a k
  | _ => 0
/-- what a reference points to, by its tag -/
def y_pt (KT : Nat → Option (Nat ⊕ Nat)) (LT : Nat → Option Nat) (st : e_ST) (t b : Nat) : Prop := ∀ kd, KT t = some kd → e_K st b = some kd ∧ ∀ n, LT t = some n → e_N st b = n
def y_dV (KT : Nat → Option (Nat ⊕ Nat)) (LT : Nat → Option Nat) (r : Nat → Int) (st : e_ST) (q : y_SV) (v : Value) : Prop := match q.1 with
  | 0 => ∃ x : Int32, v = .int x ∧ x.toInt = g_ev r q.2
  | 1 => ∃ x : Int64, v = .long x ∧ x.toInt = g_ev r q.2
  | t + 2 => ∃ o : Option Nat, v = va_rf o ∧ y_en o = g_ev r q.2 ∧ ∀ b, o = some b → y_pt KT LT st t b
def y_dS (KT : Nat → Option (Nat ⊕ Nat)) (LT : Nat → Option Nat) (r : Nat → Int) (st : e_ST) : List y_SV → List Value → Prop
  | [], [] => True
  | q :: l, v :: m => y_dV KT LT r st q v ∧ y_dS KT LT r st l m
  | _, _ => False
/-- kind 7: a product -/
def y_dM (r : Nat → Int) (w : y_W) (m : y_ME) : Prop := match m.1 with
  | 7 => g_ev r m.2.1 * g_ev r m.2.2.1 = g_ev r m.2.2.2
  | kd => y_rd w kd (g_ev r m.2.1).toNat (g_ev r m.2.2.1).toNat = g_ev r m.2.2.2 ∧ (kd < 4 → (g_ev r m.2.1).toNat < e_T w.1) ∧ 0 ≤ g_ev r m.2.1 ∧ 0 ≤ g_ev r m.2.2.1
def y_dL (KT : Nat → Option (Nat ⊕ Nat)) (LT : Nat → Option Nat) (r : Nat → Int) (st : e_ST) (L : List (Nat × y_SV)) (lv : e_LV) : Prop := ∀ q ∈ L, ∃ v, e_lk lv q.1 = some v ∧ y_dV KT LT r st q.2 v
def y_D (KT : Nat → Option (Nat ⊕ Nat)) (LT : Nat → Option Nat) (IV : y_W → Prop) (AT : Nat → List Int → y_W → Prop) (r : Nat → Int) (S : y_S) (lv : e_LV) (stk : List Value) (w : y_W) : Prop :=
  r 0 = 1 ∧ y_dL KT LT r w.1 (s_l S) lv ∧ y_dS KT LT r w.1 (s_s S) stk ∧ (∀ m ∈ s_m S, y_dM r w m) ∧ g_FF r (s_f S) ∧ (∀ a ∈ s_a S, AT a.1 (a.2.map (g_ev r)) w) ∧ IV w
/-- symbols below n alone -/
def y_bl {α : Type} (p : α → Bool) (l : List α) : Bool := @List.rec α (fun _ => Bool) true (fun x _ ih => @Bool.rec (fun _ => Bool) false ih (p x)) l
theorem y_bl_eq {α : Type} {p : α → Bool} : ∀ {l : List α}, y_bl p l = l.all p
  | [] => rfl
  | x :: l => by
    rw [List.all_cons, ← y_bl_eq]
    show @Bool.rec (fun _ => Bool) false (y_bl p l) (p x) = (p x && y_bl p l)
    cases p x <;> rfl
def y_bx (a b : Bool) : Bool := @Bool.rec (fun _ => Bool) false b a
theorem y_bx_eq {a b : Bool} : y_bx a b = (a && b) := by cases a <;> rfl
def y_scM (n : Nat) (m : y_ME) : Bool := y_bx (g_sc n m.2.1) (y_bx (g_sc n m.2.2.1) (g_sc n m.2.2.2))
theorem y_scM_def {n : Nat} {m : y_ME} : y_scM n m = (g_sc n m.2.1 && (g_sc n m.2.2.1 && g_sc n m.2.2.2)) := by
  unfold y_scM
  rw [y_bx_eq, y_bx_eq]
/-- above all symbols of a form -/
def g_nx (a b : Nat) : Nat := Nat.add a (Nat.sub b a)
theorem g_nx_eq {a b n : Nat} : Nat.ble (g_nx a b) n = (Nat.ble a n && Nat.ble b n) := by
  show Nat.ble (a + (b - a)) n = _
  rw [Bool.eq_iff_iff, Bool.and_eq_true, Nat.ble_eq, Nat.ble_eq, Nat.ble_eq]
  omega
def g_mx (e : g_LE) : Nat := @List.rec (Nat × Int) (fun _ => Nat) 0 (fun t _ ih => g_nx (Nat.succ t.1) ih) e
theorem g_mx_eq {n : Nat} : ∀ {e : g_LE}, Nat.ble (g_mx e) n = g_sc n e
  | [] => by
    show Nat.ble 0 n = true
    exact Nat.ble_eq_true_of_le (Nat.zero_le _)
  | t :: l => by
    show Nat.ble (g_nx (Nat.succ t.1) (g_mx l)) n = @Bool.rec (fun _ => Bool) false (g_sc n l) (Nat.ble (Nat.succ t.1) n)
    rw [g_nx_eq, g_mx_eq]
    cases Nat.ble (Nat.succ t.1) n <;> rfl
def y_mxF (F : List g_LE) : Nat := @List.rec g_LE (fun _ => Nat) 0 (fun f _ ih => g_nx (g_mx f) ih) F
theorem y_mxF_eq {n : Nat} : ∀ {F : List g_LE}, Nat.ble (y_mxF F) n = F.all (g_sc n)
  | [] => by
    show Nat.ble 0 n = true
    exact Nat.ble_eq_true_of_le (Nat.zero_le _)
  | f :: F => by
    rw [List.all_cons, ← y_mxF_eq, ← g_mx_eq]
    exact g_nx_eq
def y_mxM (M : List y_ME) : Nat := @List.rec y_ME (fun _ => Nat) 0 (fun m _ ih => g_nx (g_nx (g_mx m.2.1) (g_nx (g_mx m.2.2.1) (g_mx m.2.2.2))) ih) M
theorem y_mxM_eq {n : Nat} : ∀ {M : List y_ME}, Nat.ble (y_mxM M) n = M.all (y_scM n)
  | [] => by
    show Nat.ble 0 n = true
    exact Nat.ble_eq_true_of_le (Nat.zero_le _)
  | m :: M => by
    rw [List.all_cons, ← y_mxM_eq, y_scM_def, ← g_mx_eq, ← g_mx_eq, ← g_mx_eq]
    show Nat.ble (g_nx (g_nx (g_mx m.2.1) (g_nx (g_mx m.2.2.1) (g_mx m.2.2.2))) (y_mxM M)) n = _
    rw [g_nx_eq, g_nx_eq, g_nx_eq]
def y_mxA (M : List y_AT) : Nat := @List.rec y_AT (fun _ => Nat) 0 (fun m _ ih => g_nx (y_mxF m.2) ih) M
theorem y_mxA_eq {n : Nat} : ∀ {M : List y_AT}, Nat.ble (y_mxA M) n = M.all (fun a => a.2.all (g_sc n))
  | [] => by
    show Nat.ble 0 n = true
    exact Nat.ble_eq_true_of_le (Nat.zero_le _)
  | m :: M => by
    rw [List.all_cons, ← y_mxA_eq, ← y_mxF_eq]
    show Nat.ble (g_nx (y_mxF m.2) (y_mxA M)) n = _
    rw [g_nx_eq]
def y_sc (S : y_S) : Bool := y_bx (Nat.ble 1 (s_n S)) (y_bx (y_bl (fun q => g_sc (s_n S) q.2.2) (s_l S)) (y_bx (y_bl (fun q => g_sc (s_n S) q.2) (s_s S)) (y_bx (Nat.ble (y_mxM (s_m S)) (s_n S)) (y_bx (Nat.ble (y_mxF (s_f S)) (s_n S)) (Nat.ble (y_mxA (s_a S)) (s_n S))))))
theorem y_sc_def {S : y_S} : y_sc S = (Nat.blt 0 (s_n S) && ((s_l S).all (fun q => g_sc (s_n S) q.2.2) && ((s_s S).all (fun q => g_sc (s_n S) q.2) && ((s_m S).all (y_scM (s_n S)) && ((s_f S).all (g_sc (s_n S)) && (s_a S).all (fun a => a.2.all (g_sc (s_n S)))))))) := by
  unfold y_sc
  simp only [y_bx_eq, y_bl_eq, y_mxM_eq, y_mxF_eq, y_mxA_eq]
  rfl
/-- a list's elements put ahead, one by one -/
def y_ra {α : Type} (L F : List α) : List α := @List.rec α (fun _ => List α → List α) (fun F => F) (fun x _ ih F => ih (x :: F)) L F
theorem y_ra_m {α : Type} {x : α} : ∀ {L F : List α}, x ∈ y_ra L F → x ∈ L ∨ x ∈ F
  | [], _, h => Or.inr h
  | y :: L, F, h => by
    have h' : x ∈ y_ra L (y :: F) := h
    rcases y_ra_m h' with h1 | h1
    · exact Or.inl (List.mem_cons_of_mem _ h1)
    · rcases List.mem_cons.mp h1 with h2 | h2
      · exact Or.inl (h2 ▸ List.mem_cons_self)
      · exact Or.inr h2
/-- facts the other way round -/
def y_hst (S : y_S) : y_S := (S.1, S.2.1, S.2.2.1, S.2.2.2.1, y_ra S.2.2.2.2.1 [], S.2.2.2.2.2)
theorem g_FF_ra {r : Nat → Int} {F : List g_LE} (h : g_FF r F) : g_FF r (y_ra F []) := fun f hf => by
  rcases y_ra_m hf with h1 | h1
  · exact h f h1
  · cases h1
section Y_D
variable {KT : Nat → Option (Nat ⊕ Nat)} {LT : Nat → Option Nat} {IV : y_W → Prop} {AT : Nat → List Int → y_W → Prop} {r r' : Nat → Int} {S : y_S} {lv : e_LV} {stk : List Value} {w : y_W} {st : e_ST}
theorem y_dV_up {n : Nat} (h : ∀ i, i < n → r' i = r i) {q : y_SV} {v : Value} (hs : g_sc n q.2 = true) (k : y_dV KT LT r st q v) : y_dV KT LT r' st q v := by
  obtain ⟨t, e⟩ := q
  have he : g_ev r' e = g_ev r e := g_sc_ev h hs
  match t with
  | 0 => obtain ⟨x, h1, h2⟩ := k; exact ⟨x, h1, h2.trans he.symm⟩
  | 1 => obtain ⟨x, h1, h2⟩ := k; exact ⟨x, h1, h2.trans he.symm⟩
  | t + 2 => obtain ⟨o, h1, h2, h3⟩ := k; exact ⟨o, h1, h2.trans he.symm, h3⟩
theorem y_dS_up {n : Nat} (h : ∀ i, i < n → r' i = r i) : ∀ {l : List y_SV} {m : List Value}, l.all (fun q => g_sc n q.2) = true → y_dS KT LT r st l m → y_dS KT LT r' st l m
  | [], [], _, _ => trivial
  | q :: l, v :: m, hs, k => by
    rw [List.all_cons, Bool.and_eq_true] at hs
    exact ⟨y_dV_up h hs.1 k.1, y_dS_up h hs.2 k.2⟩
  | [], _ :: _, _, k => k.elim
  | _ :: _, [], _, k => k.elim
theorem y_dM_up {n : Nat} (h : ∀ i, i < n → r' i = r i) {m : y_ME} (hs : y_scM n m = true) (k : y_dM r w m) : y_dM r' w m := by
  rw [y_scM_def] at hs
  rw [Bool.and_eq_true, Bool.and_eq_true] at hs
  unfold y_dM at k ⊢
  rw [g_sc_ev h hs.1, g_sc_ev h hs.2.1, g_sc_ev h hs.2.2]
  exact k
theorem y_sc_s (h : y_sc S = true) : 0 < s_n S ∧ (∀ q ∈ s_l S, g_sc (s_n S) q.2.2 = true) ∧ (s_s S).all (fun q => g_sc (s_n S) q.2) = true ∧ (∀ m ∈ s_m S, y_scM (s_n S) m = true) ∧ (∀ f ∈ s_f S, g_sc (s_n S) f = true) ∧ ∀ a ∈ s_a S, ∀ e ∈ a.2, g_sc (s_n S) e = true := by
  rw [y_sc_def] at h
  simp only [Bool.and_eq_true] at h
  obtain ⟨h0, h1, h2, h3, h4, h5⟩ := h
  exact ⟨Nat.blt_eq.mp h0, List.all_eq_true.mp h1, h2, List.all_eq_true.mp h3, List.all_eq_true.mp h4, fun a ha => List.all_eq_true.mp (List.all_eq_true.mp h5 a ha)⟩
theorem y_D_up (hs : y_sc S = true) (h : ∀ i, i < s_n S → r' i = r i) (k : y_D KT LT IV AT r S lv stk w) : y_D KT LT IV AT r' S lv stk w := by
  obtain ⟨g0, g1, g2, g3, g4, g5⟩ := y_sc_s hs
  obtain ⟨k0, k1, k2, k3, k4, k5, k6⟩ := k
  refine ⟨(h 0 g0).trans k0, fun q hq => ?_, y_dS_up h g2 k2, fun m hm => y_dM_up h (g3 m hm) (k3 m hm), fun f hf => ?_, fun a ha => ?_, k6⟩
  · obtain ⟨v, e1, e2⟩ := k1 q hq
    exact ⟨v, e1, y_dV_up h (g1 q hq) e2⟩
  · rw [g_sc_ev h (g4 f hf)]
    exact k4 f hf
  · have he : a.2.map (g_ev r') = a.2.map (g_ev r) := List.map_congr_left fun e he => g_sc_ev h (g5 a ha e he)
    rw [he]
    exact k5 a ha
/-- a new symbol's value -/
def y_nv (r : Nat → Int) (n : Nat) (x : Int) : Nat → Int := fun i => if i = n then x else r i
theorem y_nv_lt {n : Nat} {x : Int} {i : Nat} (h : i < n) : y_nv r n x i = r i := if_neg (Nat.ne_of_lt h)
theorem y_nv_at {n : Nat} {x : Int} : y_nv r n x n = x := if_pos rfl
/-- more facts -/
theorem y_D_f {L : List g_LE} (k : y_D KT LT IV AT r S lv stk w) (h : ∀ f ∈ L, 0 ≤ g_ev r f) : y_D KT LT IV AT r (s_n S, s_l S, s_s S, s_m S, y_ra L (s_f S), s_a S) lv stk w := by
  obtain ⟨k0, k1, k2, k3, k4, k5, k6⟩ := k
  refine ⟨k0, k1, k2, k3, fun f hf => ?_, k5, k6⟩
  have hf : f ∈ y_ra L (s_f S) := hf
  rcases y_ra_m hf with hf | hf
  · exact h f hf
  · exact k4 f hf
theorem y_D_hst (k : y_D KT LT IV AT r S lv stk w) : y_D KT LT IV AT r (y_hst S) lv stk w := by
  obtain ⟨k0, k1, k2, k3, k4, k5, k6⟩ := k
  exact ⟨k0, k1, k2, k3, g_FF_ra k4, k5, k6⟩
end Y_D
/-! numbers written out: what the kernel works with is kept small -/
def y_nN {α : Type} (n : Nat) (k : Nat → α) : α := @Nat.rec (fun _ => α) (k 0) (fun m _ => k (Nat.succ m)) n
theorem y_nN_eq {α : Type} {n : Nat} {k : Nat → α} : y_nN n k = k n := by cases n <;> rfl
def y_nI {α : Type} (i : Int) (k : Int → α) : α := @Int.rec (fun _ => α) (fun n => @Nat.rec (fun _ => α) (k (.ofNat 0)) (fun m _ => k (.ofNat (Nat.succ m))) n) (fun n => @Nat.rec (fun _ => α) (k (.negSucc 0)) (fun m _ => k (.negSucc (Nat.succ m))) n) i
theorem y_nI_eq {α : Type} {i : Int} {k : Int → α} : y_nI i k = k i := by
  cases i with
  | ofNat n => cases n <;> rfl
  | negSucc n => cases n <;> rfl
def y_nG {α : Type} (l : g_LE) (k : g_LE → α) : α := @List.rec (Nat × Int) (fun _ => (g_LE → α) → α) (fun k => k []) (fun t _ ih k => y_nN t.1 fun a => y_nI t.2 fun b => ih fun l => k ((a, b) :: l)) l k
theorem y_nG_eq {α : Type} : ∀ {l : g_LE} {k : g_LE → α}, y_nG l k = k l
  | [], _ => rfl
  | t :: l, k => by
    show (y_nN t.1 fun a => y_nI t.2 fun b => y_nG l fun l => k ((a, b) :: l)) = _
    rw [y_nN_eq, y_nI_eq, y_nG_eq]
def y_nV {α : Type} (q : y_SV) (k : y_SV → α) : α := y_nN q.1 fun a => y_nG q.2 fun b => k (a, b)
theorem y_nV_eq {α : Type} {q : y_SV} {k : y_SV → α} : y_nV q k = k q := by
  unfold y_nV
  rw [y_nN_eq, y_nG_eq]
def y_nS {α : Type} (l : List y_SV) (k : List y_SV → α) : α := @List.rec y_SV (fun _ => (List y_SV → α) → α) (fun k => k []) (fun q _ ih k => y_nV q fun q => ih fun l => k (q :: l)) l k
theorem y_nS_eq {α : Type} : ∀ {l : List y_SV} {k : List y_SV → α}, y_nS l k = k l
  | [], _ => rfl
  | q :: l, k => by
    show (y_nV q fun q => y_nS l fun l => k (q :: l)) = _
    rw [y_nV_eq, y_nS_eq]
def y_nL {α : Type} (l : List (Nat × y_SV)) (k : List (Nat × y_SV) → α) : α := @List.rec (Nat × y_SV) (fun _ => (List (Nat × y_SV) → α) → α) (fun k => k []) (fun q _ ih k => y_nN q.1 fun a => y_nV q.2 fun b => ih fun l => k ((a, b) :: l)) l k
theorem y_nL_eq {α : Type} : ∀ {l : List (Nat × y_SV)} {k : List (Nat × y_SV) → α}, y_nL l k = k l
  | [], _ => rfl
  | q :: l, k => by
    show (y_nN q.1 fun a => y_nV q.2 fun b => y_nL l fun l => k ((a, b) :: l)) = _
    rw [y_nN_eq, y_nV_eq, y_nL_eq]
def y_nM {α : Type} (l : List y_ME) (k : List y_ME → α) : α := @List.rec y_ME (fun _ => (List y_ME → α) → α) (fun k => k []) (fun m _ ih k => y_nN m.1 fun a => y_nG m.2.1 fun b => y_nG m.2.2.1 fun c => y_nG m.2.2.2 fun d => ih fun l => k ((a, b, c, d) :: l)) l k
theorem y_nM_eq {α : Type} : ∀ {l : List y_ME} {k : List y_ME → α}, y_nM l k = k l
  | [], _ => rfl
  | q :: l, k => by
    show (y_nN q.1 fun a => y_nG q.2.1 fun b => y_nG q.2.2.1 fun c => y_nG q.2.2.2 fun d => y_nM l fun l => k ((a, b, c, d) :: l)) = _
    rw [y_nN_eq, y_nG_eq, y_nG_eq, y_nG_eq, y_nM_eq]
def y_nF {α : Type} (l : List g_LE) (k : List g_LE → α) : α := @List.rec g_LE (fun _ => (List g_LE → α) → α) (fun k => k []) (fun q _ ih k => y_nG q fun q => ih fun l => k (q :: l)) l k
theorem y_nF_eq {α : Type} : ∀ {l : List g_LE} {k : List g_LE → α}, y_nF l k = k l
  | [], _ => rfl
  | q :: l, k => by
    show (y_nG q fun q => y_nF l fun l => k (q :: l)) = _
    rw [y_nG_eq, y_nF_eq]
def y_nA {α : Type} (l : List y_AT) (k : List y_AT → α) : α := @List.rec y_AT (fun _ => (List y_AT → α) → α) (fun k => k []) (fun q _ ih k => y_nN q.1 fun a => y_nF q.2 fun b => ih fun l => k ((a, b) :: l)) l k
theorem y_nA_eq {α : Type} : ∀ {l : List y_AT} {k : List y_AT → α}, y_nA l k = k l
  | [], _ => rfl
  | q :: l, k => by
    show (y_nN q.1 fun a => y_nF q.2 fun b => y_nA l fun l => k ((a, b) :: l)) = _
    rw [y_nN_eq, y_nF_eq, y_nA_eq]
def y_nf (S : y_S) : y_S := y_nN (s_n S) fun n => y_nL (s_l S) fun l => y_nS (s_s S) fun s => y_nM (s_m S) fun m => y_nF (s_f S) fun f => y_nA (s_a S) fun a => (n, l, s, m, f, a)
theorem y_nf_eq {S : y_S} : y_nf S = S := by
  unfold y_nf
  rw [y_nN_eq, y_nL_eq, y_nS_eq, y_nM_eq, y_nF_eq, y_nA_eq]
  rfl
/-- every sixteenth time -/
def y_nz (n : Nat) (S : y_S) : y_S := @Bool.rec (fun _ => y_S) S (y_nf S) (Nat.beq (Nat.land n 15) 0)
theorem y_nz_eq {n : Nat} {S : y_S} : y_nz n S = S := by
  unfold y_nz
  cases Nat.beq (Nat.land n 15) 0
  · rfl
  · exact y_nf_eq
def y_np (n : Nat) : Nat := y_nN n id
theorem y_np_eq {n : Nat} : y_np n = n := y_nN_eq
end
