/-! PART 8: a method's body, over what its calls come to -/
def e_take (n : Nat) (stk : List Value) : Option (List Value × List Value) := if n ≤ stk.length then some ((stk.take n).reverse, stk.drop n) else none
theorem e_take_ok {n : Nat} {stk As rest : List Value} (h : e_take n stk = some (As, rest)) : stk = As.reverse ++ rest ∧ As.length = n := by
  unfold e_take at h
  by_cases hn : n ≤ stk.length
  · rw [if_pos hn] at h
    cases h
    refine ⟨?_, ?_⟩
    · rw [List.reverse_reverse, List.take_append_drop]
    · rw [List.length_reverse, List.length_take]
      omega
  · rw [if_neg hn] at h
    cases h
def e_cat (l : List Value) : Nat := (l.map fun v => v.category).sum
/-- an answer -/
def e_ret (mr : Option FieldType) (ins : Instr) (stk : List Value) : Option (Option Value) := match ins, stk with
  | .ireturn, [.int x] => match mr with
    | some ty => if narrow ty (.int x) = .int x then some (some (.int x)) else none
    | none => none
  | .lreturn, [.long x] => if mr = some .long then some (some (.long x)) else none
  | .areturn, [v] => match mr with
    | some (.object _) => if e_isA v = true then some (some v) else none
    | some (.array _) => if e_isA v = true then some (some v) else none
    | _ => none
  | .return_, [] => if mr = none then some none else none
  | _, _ => none
/-- what more is taken (instructions and calls of the JDK's own, one by one): tried first -/
abbrev e_EX : Type := e_M → Instr → Nat → Nat → e_LV → List Value → e_ST → Option (e_FR × e_ST)
/-- who covers a place -/
def e_hd (hh : List (Nat × Nat × Nat × Nat)) (pc : Nat) : Option (Nat × Nat × Nat × Nat) := hh.find? fun x => decide (x.1 ≤ pc ∧ pc < x.2.1)
section E_B
variable (cl : List vw_C) (ats : List FieldType) (fty : Nat → Nat → FieldType) (fl : Nat → Nat → Option (Nat × Nat)) (kI : Nat → Nat → Option Int32) (kL : Nat → Nat → Option Int64) (nl : Nat → Nat → Option Nat) (kS : Nat → Nat → Option Nat) (ml : Nat → Nat → Option (Nat × Nat)) (mt : Nat → Option e_M) (cn : Nat → Nat) (eci : Nat) (xo : Nat → Option Nat)
def e_inv (call : Nat → List Value → e_ST → Option e_RS) (how j : Nat) (stk : List Value) (st : e_ST) : Option (e_RS × List Value) := match mt j with
  | none => none
  | some M => match how, e_take (e_mn M) stk with
    | 0, some (As, .ref b :: rest) => match xo b with
      | some o => if o = e_mo M ∧ e_cat rest ≤ 8 then (call j (.ref b :: As) st).map fun r => (r, rest) else none
      | none => match e_K st b with
        | some (.inl ci) => if (cl[ci]?).isSome = true ∧ cn ci = e_mo M ∧ e_cat rest ≤ 8 then (call j (.ref b :: As) st).map fun r => (r, rest) else none
        | _ => none
    | 1, some (As, rest) => if e_cat rest ≤ 8 then (call j As st).map fun r => (r, rest) else none
    | 2, some (As, .ref b :: rest) => if e_cat rest ≤ 8 then (call j (.ref b :: As) st).map fun r => (r, rest) else none
    | _, _ => none
/-- behind a call: on, or thrown -/
def e_bk (pc : Nat) (lv : e_LV) (x : e_RS × List Value) : e_RS ⊕ (e_FR × e_ST) ⊕ e_ST := match x with
  | ((some v, st), rest) => .inr (.inl ((pc + 3, lv, v.toList ++ rest), st))
  | ((none, st), _) => .inr (.inr st)
def e_nx (call : Nat → List Value → e_ST → Option e_RS) (M : e_M) (ins : Instr) (len pc : Nat) (lv : e_LV) (stk : List Value) (st : e_ST) : Option (e_RS ⊕ (e_FR × e_ST) ⊕ e_ST) := match ins with
  | .ireturn => if len = 1 then (e_ret (e_mr M) .ireturn stk).map fun v => .inl (some v, st) else none
  | .lreturn => if len = 1 then (e_ret (e_mr M) .lreturn stk).map fun v => .inl (some v, st) else none
  | .areturn => if len = 1 then (e_ret (e_mr M) .areturn stk).map fun v => .inl (some v, st) else none
  | .return_ => if len = 1 then (e_ret (e_mr M) .return_ stk).map fun v => .inl (some v, st) else none
  | .athrow => match stk with
    | .ref q :: _ => if len = 1 ∧ e_K st q = some (.inl eci) then some (.inr (.inr st)) else none
    | _ => none
  | .invokevirtual idx => match ml (e_mo M) idx with
    | some (0, j) => if len = 3 then (e_inv cl mt cn xo call 0 j stk st).map (e_bk pc lv) else none
    | _ => none
  | .invokestatic idx => match ml (e_mo M) idx with
    | some (1, j) => if len = 3 then (e_inv cl mt cn xo call 1 j stk st).map (e_bk pc lv) else none
    | _ => none
  | .invokespecial idx => match ml (e_mo M) idx with
    | some (2, j) => if len = 3 then (e_inv cl mt cn xo call 2 j stk st).map (e_bk pc lv) else none
    | some (9, _) => match stk with
      | .ref _ :: r => if len = 3 ∧ e_cat r ≤ 8 then some (.inr (.inl ((pc + 3, lv, r), st))) else none
      | _ => none
    | _ => none
  | ins => match e_s (e_mL M) ins pc lv stk with
    | some f => if e_lf ins len = len then some (.inr (.inl (f, st))) else none
    | none => if e_lh ins = len then (e_h cl ats fty fl kI kL nl kS (e_mo M) (if (e_my M).name = "<init>" then some (e_my M).cls else none) ins pc lv stk st).map fun x => .inr (.inl x) else none
/-- where an exception is put that this method catches: into a local that nobody reads -/
def e_cch (cc : ByteArray) (hp : Nat) (lv : e_LV) : Option (Nat × Nat × e_LV) := match decode cc hp with
  | .ok (.astore k, 2) => some (k, hp + 2, lv.filter fun q => !(q.1 == k) && !(q.1 + 1 == k && q.2.category == 2))
  | .ok (.astore_n k, 1) => some (k, hp + 1, lv.filter fun q => !(q.1 == (k : Nat)) && !(q.1 + 1 == (k : Nat) && q.2.category == 2))
  | _ => none
def e_ny (ex : e_EX) (call : Nat → List Value → e_ST → Option e_RS) (M : e_M) (ins : Instr) (len pc : Nat) (lv : e_LV) (stk : List Value) (st : e_ST) : Option (e_RS ⊕ (e_FR × e_ST) ⊕ e_ST) := match ex M ins len pc lv stk st with
  | some x => some (.inr (.inl x))
  | none => e_nx cl ats fty fl kI kL nl kS ml mt cn eci xo call M ins len pc lv stk st
def e_body (ex : e_EX) (call : Nat → List Value → e_ST → Option e_RS) (M : e_M) : Nat → Nat → e_LV → List Value → e_ST → Option e_RS
  | 0, _, _, _, _ => none
  | n + 1, pc, lv, stk, st => match decode (e_mc M) pc with
    | .error _ => none
    | .ok (ins, len) => match e_ny cl ats fty fl kI kL nl kS ml mt cn eci xo ex call M ins len pc lv stk st with
      | none => none
      | some (.inl r) => some r
      | some (.inr (.inl (f, st'))) => e_body ex call M n f.1 f.2.1 f.2.2 st'
      | some (.inr (.inr st')) => match e_hd (e_mh M) pc with
        | none => some (none, st')
        | some x => match e_cch (e_mc M) x.2.2.1 lv with
          | none => none
          | some (k, pc', lv') => if k < e_mL M then e_body ex call M n pc' lv' [] st' else none
/-- a method at a depth of calls; fu: how many instructions each may take -/
def e_m (ex : Nat → e_EX) (fu : Nat) : Nat → Nat → List Value → e_ST → Option e_RS
  | 0, _, _, _ => none
  | d + 1, j, As, st => match mt j with
    | none => none
    | some M => if (lg_sl As).length ≤ e_mL M then e_body cl ats fty fl kI kL nl kS ml mt cn eci xo (ex d) (e_m ex fu d) M fu 0 (lv_args 0 As) [] st else none
end E_B
