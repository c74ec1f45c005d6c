/-! PART 33: the other instructions that touch no cell -/
noncomputable section
def y_on (pc : Nat) (S : y_S) (s : y_Str) : Option (y_BL × y_Str) := some ([(pc, S)], s)
def y_ldi (pc n i : Nat) (S : y_S) (s : y_Str) (ok : Nat → Bool) : Option (y_BL × y_Str) := match y_lok (s_l S) i with
  | some q => (match ok q.1 with
    | true => y_on (pc + n) (y_pu S q) s
    | false => none)
  | none => none
def y_sti (pc n i nL : Nat) (S : y_S) (s : y_Str) (ok : Nat → Bool) (w : Bool) : Option (y_BL × y_Str) := match s_s S with
  | q :: l => (match ok q.1 && Nat.blt (match w with | true => i + 1 | false => i) nL with
    | true => y_on (pc + n) (y_lo (y_st S l) (match w with | true => y_s2 i q (s_l S) | false => y_s1 i q (s_l S))) s
    | false => none)
  | [] => none
def y_is0 (t : Nat) : Bool := Nat.beq t 0
def y_is1 (t : Nat) : Bool := Nat.beq t 1
def y_is2 (t : Nat) : Bool := Nat.ble 2 t
def y_nul (S : y_S) (e : g_LE) (g n : Nat) (s : y_Str) : Option (y_BL × y_Str) := match g_cst e with
  | some k => (match g_z k with
    | true => y_on g S s
    | false => y_on n S s)
  | none => y_b2 S [e, g_k (-1) e] g [g_ac (-1) e] n s
def y_c1 (q : y_SV) : Bool := !(Nat.beq q.1 1)
/-- a branch with a value pushed -/
def y_bp (S : y_S) (q : y_SV) (L : List g_LE) (pc : Nat) (s : y_Str) : Option (y_BL × y_Str) := y_br (y_pu S q) L pc s
def y_lcm (S : y_S) (d : g_LE) (pc : Nat) (s : y_Str) : Option (y_BL × y_Str) := match g_cst d with
  | some k => (match g_z k with
    | true => y_on pc (y_pu S (0, [])) s
    | false => match g_nn k with
      | true => y_on pc (y_pu S (0, g_c 1)) s
      | false => y_on pc (y_pu S (0, g_c (-1))) s)
  | none => match s with
    | [] :: s1 => y_bb (y_bp S (0, g_c (-1)) [g_ac (-1) (g_k (-1) d)] pc s1) fun s2 => y_bb (y_bp S (0, []) [d, g_k (-1) d] pc s2) fun s3 => y_bp S (0, g_c 1) [g_ac (-1) d] pc s3
    | [_] :: s1 => (match y_sc S && y_old S d with
      | true => y_bb (y_bp S (0, g_c (-1)) [g_ac (-1) (g_k (-1) d)] pc s1) fun s2 => y_bp (y_nw S (y_rg (s_n S) 0 1)) (0, g_s (s_n S)) [d] pc s2
      | false => none)
    | _ :: s1 => (match y_sc S && y_old S d with
      | true => y_bb (y_bp S (0, g_c 1) [g_ac (-1) d] pc s1) fun s2 => y_bp (y_nw S (y_rg (s_n S) (-1) 0)) (0, g_s (s_n S)) [g_k (-1) d] pc s2
      | false => none)
    | [] => none
/-- a switch's cases from a key on -/
def y_tsw (S : y_S) (e : g_LE) (pc : Nat) : Int → List Int → y_Str → Option (y_BL × y_Str)
  | _, [], s => some ([], s)
  | k, o :: l, s => match e_tg pc o with
    | none => none
    | some g => y_bb (y_br S [g_ac (-k) e, g_ac k (g_k (-1) e)] g s) fun s1 => y_tsw S e pc (k + 1) l s1
def y_lsw (S : y_S) (e : g_LE) (pc : Nat) (d : Int) : List (Int × Int) → y_Str → Option (y_BL × y_Str)
  | [], s => (match e_tg pc d with
    | none => none
    | some g => y_br S [] g s)
  | p :: l, s => match e_tg pc p.2 with
    | none => none
    | some g => y_bb (y_br S [g_ac (-p.1) e, g_ac p.1 (g_k (-1) e)] g s) fun s1 => y_lsw S e pc d l s1
def y_flo (nL : Nat) (ins : Instr) (pc : Nat) (S : y_S) (s : y_Str) : Option (y_BL × y_Str) := match ins with
  | .iconst n => y_on (pc + 1) (y_pu S (0, g_c (Int32.ofInt n).toInt)) s
  | .bipush n => y_on (pc + 2) (y_pu S (0, g_c ((Int8.ofInt n).toInt32).toInt)) s
  | .sipush n => y_on (pc + 3) (y_pu S (0, g_c ((Int16.ofInt n).toInt32).toInt)) s
  | .lconst n => y_on (pc + 1) (y_pu S (1, g_c (Int64.ofNat (n : Nat)).toInt)) s
  | .aconst_null => y_on (pc + 1) (y_pu S (902, [])) s
  | .iload_n k => y_ldi pc 1 k S s y_is0
  | .iload i => y_ldi pc 2 i S s y_is0
  | .lload_n k => y_ldi pc 1 k S s y_is1
  | .lload i => y_ldi pc 2 i S s y_is1
  | .aload_n k => y_ldi pc 1 k S s y_is2
  | .aload i => y_ldi pc 2 i S s y_is2
  | .istore_n k => y_sti pc 1 k nL S s y_is0 false
  | .istore i => y_sti pc 2 i nL S s y_is0 false
  | .lstore_n k => y_sti pc 1 k nL S s y_is1 true
  | .lstore i => y_sti pc 2 i nL S s y_is1 true
  | .astore_n k => y_sti pc 1 k nL S s y_is2 false
  | .astore i => y_sti pc 2 i nL S s y_is2 false
  | .iinc i n => (match y_lok (s_l S) i with
    | some q => (match y_is0 q.1 && Nat.blt i nL with
      | true => (match y_fit S s (g_ac (Int32.ofInt n).toInt q.2) y_l32 y_h32 with
        | some (S1, e, s1) => y_on (pc + 3) (y_lo S1 (y_s1 i (0, e) (s_l S1))) s1
        | none => none)
      | false => none)
    | none => none)
  | .dup => (match s_s S with
    | q :: l => (match y_c1 q with
      | true => y_on (pc + 1) (y_st S (q :: q :: l)) s
      | false => none)
    | [] => none)
  | .pop => (match s_s S with
    | q :: l => (match y_c1 q with
      | true => y_on (pc + 1) (y_st S l) s
      | false => none)
    | [] => none)
  | .dup_x1 => (match s_s S with
    | q :: p :: l => (match y_c1 q && y_c1 p with
      | true => y_on (pc + 1) (y_st S (q :: p :: q :: l)) s
      | false => none)
    | _ => none)
  | .dup2 => (match s_s S with
    | [] => none
    | q :: l => (match y_c1 q with
      | false => y_on (pc + 1) (y_st S (q :: q :: l)) s
      | true => match l with
        | [] => none
        | p :: l1 => match y_c1 p with
          | true => y_on (pc + 1) (y_st S (q :: p :: q :: p :: l1)) s
          | false => none))
  | .goto off => (match e_tg pc off with
    | some g => y_on g S s
    | none => none)
  | .ifCond c off => (match s_s S, e_tg pc off with
    | (0, e) :: l, some g => y_if (y_st S l) c e g (pc + 3) s
    | _, _ => none)
  | .if_icmp c off => (match s_s S, e_tg pc off with
    | (0, e2) :: (0, e1) :: l, some g => y_if (y_st S l) c (g_sub e1 e2) g (pc + 3) s
    | _, _ => none)
  | .ifnull off => (match s_s S, e_tg pc off with
    | (_ + 2, e) :: l, some g => y_nul (y_st S l) e g (pc + 3) s
    | _, _ => none)
  | .ifnonnull off => (match s_s S, e_tg pc off with
    | (_ + 2, e) :: l, some g => y_nul (y_st S l) e (pc + 3) g s
    | _, _ => none)
  | .lcmp => (match s_s S with
    | (1, e2) :: (1, e1) :: l => y_lcm (y_st S l) (g_sub e1 e2) (pc + 1) s
    | _ => none)
  | .tableswitch d lo hi offs => (match s_s S, e_tg pc d with
    | (0, e) :: l, some g => (match y_le2 (hi - lo + 1) offs.toList.length with
      | true => y_bb (y_br (y_st S l) [g_ac (lo - 1) (g_k (-1) e)] g s) fun s1 => y_bb (y_br (y_st S l) [g_ac (-hi - 1) e] g s1) fun s2 => y_tsw (y_st S l) e pc lo offs.toList s2
      | false => none)
    | _, _ => none)
  | .lookupswitch d ps => (match s_s S with
    | (0, e) :: l => (match (ps.toList.zip (ps.toList.drop 1)).all (fun (a, next) => a.1 < next.1) with
      | true => y_lsw (y_st S l) e pc d ps.toList s
      | false => none)
    | _ => none)
  | _ => none
section Y_FL
variable {KT : Nat → Option (Nat ⊕ Nat)} {LT : Nat → Option Nat} {IV : y_W → Prop} {AT : Nat → List Int → y_W → Prop} {r r' : Nat → Int} {S S' : y_S} {lv : e_LV} {stk : List Value} {w : y_W} {s s' : y_Str} {B : y_BL} {pc nL : Nat}
/-- what a step that touches no cell owes -/
def y_FP (KT : Nat → Option (Nat ⊕ Nat)) (LT : Nat → Option Nat) (IV : y_W → Prop) (AT : Nat → List Int → y_W → Prop) (r : Nat → Int) (S : y_S) (lv : e_LV) (stk : List Value) (w : y_W) (B : y_BL) (nL : Nat) (ins : Instr) (pc : Nat) : Prop := ∃ pc' lv' stk' S' r', (pc', S') ∈ B ∧ y_ex S S' r r' ∧ y_D KT LT IV AT r' S' lv' stk' w ∧ e_s nL ins pc lv stk = some (pc', lv', stk')
theorem y_FP.on {ins : Instr} {pc' : Nat} {lv' : e_LV} {stk' : List Value} (h : y_on pc' S' s = some (B, s')) (hx : y_ex S S' r r') (k : y_D KT LT IV AT r' S' lv' stk' w) (he : e_s nL ins pc lv stk = some (pc', lv', stk')) : y_FP KT LT IV AT r S lv stk w B nL ins pc := by
  cases h
  exact ⟨pc', lv', stk', S', r', List.mem_cons_self, hx, k, he⟩
theorem y_ex.st {l : List y_SV} : y_ex S (y_st S l) r r := y_ex.rf
theorem y_isI_ok {q : y_SV} {v : Value} {st : e_ST} (h : y_is0 q.1 = true) (k : y_dV KT LT r st q v) : e_isI v = true := by
  obtain ⟨t, e⟩ := q
  have ht : t = 0 := Nat.eq_of_beq_eq_true h
  subst ht
  obtain ⟨x, rfl, -⟩ := k
  rfl
theorem y_isL_ok {q : y_SV} {v : Value} {st : e_ST} (h : y_is1 q.1 = true) (k : y_dV KT LT r st q v) : e_isL v = true := by
  obtain ⟨t, e⟩ := q
  have ht : t = 1 := Nat.eq_of_beq_eq_true h
  subst ht
  obtain ⟨x, rfl, -⟩ := k
  rfl
theorem y_isA_ok {q : y_SV} {v : Value} {st : e_ST} (h : y_is2 q.1 = true) (k : y_dV KT LT r st q v) : e_isA v = true := by
  obtain ⟨t, e⟩ := q
  have ht : 2 ≤ t := Nat.le_of_ble_eq_true h
  match t, ht with
  | t + 2, _ =>
    obtain ⟨o, rfl, -⟩ := k
    cases o <;> rfl
theorem y_ldi_ok {n i : Nat} {ok : Nat → Bool} {okv : Value → Bool} (hok : ∀ (q : y_SV) (v : Value), ok q.1 = true → y_dV KT LT r w.1 q v → okv v = true) (h : y_ldi pc n i S s ok = some (B, s')) (k : y_D KT LT IV AT r S lv stk w) {ins : Instr} (he : e_s nL ins pc lv stk = e_ld pc n i lv stk okv) : y_FP KT LT IV AT r S lv stk w B nL ins pc := by
  unfold y_ldi at h
  split at h
  · rename_i q hq
    split at h
    · rename_i ho
      obtain ⟨v, e1, e2⟩ := k.2.1 _ (y_lok_mem hq)
      refine y_FP.on h y_ex.rf (y_D_pu k e2) ?_
      rw [he]
      unfold e_ld
      rw [e1]
      dsimp only
      rw [if_pos (hok q v ho e2)]
    · cases h
  · cases h
theorem y_sti_ok {n i : Nat} {ok : Nat → Bool} {okv : Value → Bool} {wd : Bool} (hok : ∀ (q : y_SV) (v : Value), ok q.1 = true → y_dV KT LT r w.1 q v → okv v = true) (h : y_sti pc n i nL S s ok wd = some (B, s')) (k : y_D KT LT IV AT r S lv stk w) {ins : Instr} (he : e_s nL ins pc lv stk = e_sv pc n i nL lv stk okv wd) : y_FP KT LT IV AT r S lv stk w B nL ins pc := by
  unfold y_sti at h
  split at h
  · rename_i q l hq
    split at h
    · rename_i ho
      rw [Bool.and_eq_true] at ho
      obtain ⟨v, rest, rfl, hv, k1⟩ := y_D_po k hq
      have hlt := Nat.blt_eq.mp ho.2
      cases wd with
      | true =>
        refine y_FP.on h y_ex.rf (lv' := e_s2 i v lv) (stk' := rest) (y_D_lo k1 (y_dL_s2 hv k.2.1)) ?_
        rw [he]
        unfold e_sv
        dsimp only
        rw [if_pos ⟨hok q v ho.1 hv, hlt⟩]
        rfl
      | false =>
        refine y_FP.on h y_ex.rf (lv' := e_s1 i v lv) (stk' := rest) (y_D_lo k1 (y_dL_s1 hv k.2.1)) ?_
        rw [he]
        unfold e_sv
        dsimp only
        rw [if_pos ⟨hok q v ho.1 hv, hlt⟩]
        rfl
    · cases h
  · cases h
theorem y_c1_ok {q : y_SV} {v : Value} {st : e_ST} (h : y_c1 q = true) (k : y_dV KT LT r st q v) : e_c1 v = true := by
  unfold y_c1 at h
  have ht : q.1 ≠ 1 := by
    intro hc
    rw [hc] at h
    cases h
  unfold e_c1
  rw [y_cat (t := q.1) (e := q.2) k ht]
  rfl
theorem y_en_s {b : Nat} : y_en (some b) = (b : Int) + 1 := rfl
theorem y_en_0 {o : Option Nat} : y_en o = 0 ↔ o = none := by
  cases o with
  | none => exact ⟨fun _ => rfl, fun _ => rfl⟩
  | some b =>
    refine ⟨fun h => ?_, fun h => by cases h⟩
    rw [y_en_s] at h
    omega
theorem y_en_nn {o : Option Nat} : 0 ≤ y_en o := by
  cases o with
  | none => exact Int.le_refl 0
  | some b => rw [y_en_s]; omega
/-- null or not -/
theorem y_nul_ok {e : g_LE} {g n : Nat} {C : y_BL} {o : Option Nat} (h : y_nul S e g n s = some (C, s')) (k : y_D KT LT IV AT r S lv stk w) (ho : y_en o = g_ev r e) : ∃ S', (if o.isNone = true then g else n, S') ∈ C ∧ y_D KT LT IV AT r S' lv stk w ∧ y_ex S S' r r := by
  have h0 := k.1
  have hnn : 0 ≤ y_en o := y_en_nn
  unfold y_nul at h
  split at h
  · rename_i c hc
    have hz := g_cst_ok h0 hc
    split at h
    · rename_i hq
      cases h
      have ho2 : o = none := y_en_0.mp (by rw [ho, hz, g_z_ok hq])
      subst ho2
      exact ⟨S, List.mem_cons_self, k, y_ex.rf⟩
    · rename_i hq
      cases h
      cases o with
      | none =>
        have h9 : c = 0 := by rw [← hz, ← ho]; rfl
        rw [h9] at hq
        cases hq
      | some b => exact ⟨S, List.mem_cons_self, k, y_ex.rf⟩
  · refine y_b2_ok h k o.isNone (fun hq => ?_) (fun hq => ?_)
    · have ho2 : o = none := Option.isNone_iff_eq_none.mp hq
      have h9 : g_ev r e = 0 := by rw [← ho, ho2]; rfl
      exact y_dbl (by omega) (by rw [g_ev_k]; omega)
    · cases o with
      | none => cases hq
      | some b =>
        refine y_sgl ?_
        rw [g_ev_ac r h0, ← ho, y_en_s]
        omega
end Y_FL
end
