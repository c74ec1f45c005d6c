/-! AN EVALUATOR of bytecode over an abstract heap, and that the machine does what it says: PART 1, the instructions that touch no cell. -/
abbrev e_LV : Type := List (Nat × Value)
abbrev e_FR : Type := Nat × e_LV × List Value
def e_lk : e_LV → Nat → Option Value
  | [], _ => none
  | q :: l, i => if q.1 = i then some q.2 else e_lk l i
theorem e_lk_mem : ∀ {l : e_LV} {i : Nat} {v : Value}, e_lk l i = some v → (i, v) ∈ l
  | [], _, _, h => by cases h
  | q :: l, i, v, h => by
    unfold e_lk at h
    by_cases hq : q.1 = i
    · rw [if_pos hq] at h
      cases h
      rw [← hq]
      exact List.mem_cons_self
    · rw [if_neg hq] at h
      exact List.mem_cons_of_mem _ (e_lk_mem h)
def e_s1 (i : Nat) (v : Value) (l : e_LV) : e_LV := (i, v) :: l.filter (fun q => !(q.1 == i) && !(q.1 + 1 == i && q.2.category == 2))
def e_s2 (i : Nat) (v : Value) (l : e_LV) : e_LV := (i, v) :: l.filter (fun q => !(q.1 == i) && (!(q.1 == i + 1) && !(q.1 + 1 == i && q.2.category == 2)))
def e_tg (pc : Nat) (off : Int) : Option Nat := if 0 ≤ (pc : Int) + off then some ((pc : Int) + off).toNat else none
theorem e_tg_ok {pc t : Nat} {off : Int} (h : e_tg pc off = some t) : (pc : Int) + off = (t : Int) := by
  unfold e_tg at h
  by_cases hq : 0 ≤ (pc : Int) + off
  · rw [if_pos hq] at h
    cases h
    omega
  · rw [if_neg hq] at h
    cases h
def e_cmp (c : ClassFile.Cond) (x y : Int32) : Bool := match c with
  | .eq => decide (x = y)
  | .ne => !decide (x = y)
  | .lt => decide (x < y)
  | .ge => decide (y ≤ x)
  | .gt => decide (y < x)
  | .le => decide (x ≤ y)
/-- the stack's top one or two, worked out -/
def e_i (stk : List Value) (f : Int32 → Option Value) : Option (List Value) := match stk with
  | .int x :: r => (f x).map (· :: r)
  | _ => none
def e_l (stk : List Value) (f : Int64 → Option Value) : Option (List Value) := match stk with
  | .long x :: r => (f x).map (· :: r)
  | _ => none
def e_ii (stk : List Value) (f : Int32 → Int32 → Option Value) : Option (List Value) := match stk with
  | .int y :: .int x :: r => (f x y).map (· :: r)
  | _ => none
def e_ll (stk : List Value) (f : Int64 → Int64 → Option Value) : Option (List Value) := match stk with
  | .long y :: .long x :: r => (f x y).map (· :: r)
  | _ => none
def e_li (stk : List Value) (f : Int64 → Int32 → Option Value) : Option (List Value) := match stk with
  | .int y :: .long x :: r => (f x y).map (· :: r)
  | _ => none
theorem e_i_s {stk s' : List Value} {f : Int32 → Option Value} (h : e_i stk f = some s') : ∃ x r v, stk = .int x :: r ∧ f x = some v ∧ s' = v :: r := by
  unfold e_i at h
  split at h
  · obtain ⟨v, h1, h2⟩ := Option.map_eq_some_iff.mp h
    exact ⟨_, _, v, rfl, h1, h2.symm⟩
  · cases h
theorem e_l_s {stk s' : List Value} {f : Int64 → Option Value} (h : e_l stk f = some s') : ∃ x r v, stk = .long x :: r ∧ f x = some v ∧ s' = v :: r := by
  unfold e_l at h
  split at h
  · obtain ⟨v, h1, h2⟩ := Option.map_eq_some_iff.mp h
    exact ⟨_, _, v, rfl, h1, h2.symm⟩
  · cases h
theorem e_ii_s {stk s' : List Value} {f : Int32 → Int32 → Option Value} (h : e_ii stk f = some s') : ∃ x y r v, stk = .int y :: .int x :: r ∧ f x y = some v ∧ s' = v :: r := by
  unfold e_ii at h
  split at h
  · obtain ⟨v, h1, h2⟩ := Option.map_eq_some_iff.mp h
    exact ⟨_, _, _, v, rfl, h1, h2.symm⟩
  · cases h
theorem e_ll_s {stk s' : List Value} {f : Int64 → Int64 → Option Value} (h : e_ll stk f = some s') : ∃ x y r v, stk = .long y :: .long x :: r ∧ f x y = some v ∧ s' = v :: r := by
  unfold e_ll at h
  split at h
  · obtain ⟨v, h1, h2⟩ := Option.map_eq_some_iff.mp h
    exact ⟨_, _, _, v, rfl, h1, h2.symm⟩
  · cases h
theorem e_li_s {stk s' : List Value} {f : Int64 → Int32 → Option Value} (h : e_li stk f = some s') : ∃ x y r v, stk = .int y :: .long x :: r ∧ f x y = some v ∧ s' = v :: r := by
  unfold e_li at h
  split at h
  · obtain ⟨v, h1, h2⟩ := Option.map_eq_some_iff.mp h
    exact ⟨_, _, _, v, rfl, h1, h2.symm⟩
  · cases h
def e_n (pc n : Nat) (lv : e_LV) (o : Option (List Value)) : Option e_FR := o.map fun s => (pc + n, lv, s)
theorem e_n_s {pc n pc' : Nat} {lv lv' : e_LV} {o : Option (List Value)} {s' : List Value} (h : e_n pc n lv o = some (pc', lv', s')) : pc' = pc + n ∧ lv' = lv ∧ o = some s' := by
  obtain ⟨v, h1, h2⟩ := Option.map_eq_some_iff.mp h
  cases h2
  exact ⟨rfl, rfl, h1⟩
def e_ld (pc n i : Nat) (lv : e_LV) (stk : List Value) (ok : Value → Bool) : Option e_FR := match e_lk lv i with
  | some v => if ok v = true then some (pc + n, lv, v :: stk) else none
  | none => none
theorem e_ld_s {pc n i pc' : Nat} {lv lv' : e_LV} {stk s' : List Value} {ok : Value → Bool} (h : e_ld pc n i lv stk ok = some (pc', lv', s')) : ∃ v, e_lk lv i = some v ∧ ok v = true ∧ pc' = pc + n ∧ lv' = lv ∧ s' = v :: stk := by
  unfold e_ld at h
  split at h
  · rename_i v hv
    by_cases hk : ok v = true
    · rw [if_pos hk] at h
      cases h
      exact ⟨v, hv, hk, rfl, rfl, rfl⟩
    · rw [if_neg hk] at h
      cases h
  · cases h
def e_isI : Value → Bool | .int _ => true | _ => false
def e_isL : Value → Bool | .long _ => true | _ => false
def e_isA : Value → Bool | .ref _ => true | .null => true | _ => false
theorem e_isI_s {v : Value} (h : e_isI v = true) : ∃ x, v = .int x := by cases v <;> first | exact ⟨_, rfl⟩ | cases h
theorem e_isL_s {v : Value} (h : e_isL v = true) : ∃ x, v = .long x := by cases v <;> first | exact ⟨_, rfl⟩ | cases h
theorem e_isA_s {v : Value} (h : e_isA v = true) : v = .null ∨ ∃ a, v = .ref a := by cases v <;> first | exact Or.inl rfl | exact Or.inr ⟨_, rfl⟩ | cases h
/-- a store of one slot (w = false) or two -/
def e_sv (pc n i nL : Nat) (lv : e_LV) (stk : List Value) (ok : Value → Bool) (w : Bool) : Option e_FR := match stk with
  | v :: r => if ok v = true ∧ (if w = true then i + 1 else i) < nL then some (pc + n, if w = true then e_s2 i v lv else e_s1 i v lv, r) else none
  | [] => none
theorem e_sv_s {pc n i nL pc' : Nat} {lv lv' : e_LV} {stk s' : List Value} {ok : Value → Bool} {w : Bool} (h : e_sv pc n i nL lv stk ok w = some (pc', lv', s')) : ∃ v, stk = v :: s' ∧ ok v = true ∧ (if w = true then i + 1 else i) < nL ∧ pc' = pc + n ∧ lv' = (if w = true then e_s2 i v lv else e_s1 i v lv) := by
  unfold e_sv at h
  split at h
  · rename_i v r
    by_cases hk : ok v = true ∧ (if w = true then i + 1 else i) < nL
    · rw [if_pos hk] at h
      cases h
      exact ⟨v, rfl, hk.1, hk.2, rfl, rfl⟩
    · rw [if_neg hk] at h
      cases h
  · cases h
def e_jp (pc : Nat) (off : Int) (lv : e_LV) (stk : List Value) (t : Bool) : Option e_FR := (e_tg pc off).map fun g => (if t = true then g else pc + 3, lv, stk)
theorem e_jp_s {pc pc' : Nat} {off : Int} {lv lv' : e_LV} {stk s' : List Value} {t : Bool} (h : e_jp pc off lv stk t = some (pc', lv', s')) : ∃ g : Nat, (pc : Int) + off = (g : Int) ∧ pc' = (if t = true then g else pc + 3) ∧ lv' = lv ∧ s' = stk := by
  obtain ⟨g, h1, h2⟩ := Option.map_eq_some_iff.mp h
  cases h2
  exact ⟨g, e_tg_ok h1, rfl, rfl, rfl⟩
def e_c1 (v : Value) : Bool := v.category == 1
/-- one step of an instruction that touches no cell; its length is e_len's -/
def e_s (nL : Nat) (ins : Instr) (pc : Nat) (lv : e_LV) (stk : List Value) : Option e_FR := match ins with
  | .iconst n => some (pc + 1, lv, .int (Int32.ofInt n) :: stk)
  | .bipush n => some (pc + 2, lv, .int ((Int8.ofInt n).toInt32) :: stk)
  | .sipush n => some (pc + 3, lv, .int ((Int16.ofInt n).toInt32) :: stk)
  | .lconst n => some (pc + 1, lv, .long (Int64.ofNat (n : Nat)) :: stk)
  | .aconst_null => some (pc + 1, lv, .null :: stk)
  | .iload_n k => e_ld pc 1 k lv stk e_isI
  | .iload i => e_ld pc 2 i lv stk e_isI
  | .lload_n k => e_ld pc 1 k lv stk e_isL
  | .lload i => e_ld pc 2 i lv stk e_isL
  | .aload_n k => e_ld pc 1 k lv stk e_isA
  | .aload i => e_ld pc 2 i lv stk e_isA
  | .istore_n k => e_sv pc 1 k nL lv stk e_isI false
  | .istore i => e_sv pc 2 i nL lv stk e_isI false
  | .lstore_n k => e_sv pc 1 k nL lv stk e_isL true
  | .lstore i => e_sv pc 2 i nL lv stk e_isL true
  | .astore_n k => e_sv pc 1 k nL lv stk e_isA false
  | .astore i => e_sv pc 2 i nL lv stk e_isA false
  | .iinc i n => match e_lk lv i with
    | some (.int x) => if i < nL then some (pc + 3, e_s1 i (.int (x + Int32.ofInt n)) lv, stk) else none
    | _ => none
  | .iadd => e_n pc 1 lv (e_ii stk fun x y => some (.int (x + y)))
  | .isub => e_n pc 1 lv (e_ii stk fun x y => some (.int (x - y)))
  | .imul => e_n pc 1 lv (e_ii stk fun x y => some (.int (x * y)))
  | .iand => e_n pc 1 lv (e_ii stk fun x y => some (.int (x &&& y)))
  | .ior => e_n pc 1 lv (e_ii stk fun x y => some (.int (x ||| y)))
  | .ixor => e_n pc 1 lv (e_ii stk fun x y => some (.int (x ^^^ y)))
  | .idiv => e_n pc 1 lv (e_ii stk fun x y => if y = 0 then none else some (.int (x / y)))
  | .irem => e_n pc 1 lv (e_ii stk fun x y => if y = 0 then none else some (.int (x - x / y * y)))
  | .ishl => e_n pc 1 lv (e_ii stk fun x y => some (.int (x <<< (y &&& 31))))
  | .ishr => e_n pc 1 lv (e_ii stk fun x y => some (.int (x >>> (y &&& 31))))
  | .iushr => e_n pc 1 lv (e_ii stk fun x y => some (.int ((x.toUInt32 >>> (y.toUInt32 &&& Int32.toUInt32 31)).toInt32)))
  | .ineg => e_n pc 1 lv (e_i stk fun x => some (.int (-x)))
  | .i2l => e_n pc 1 lv (e_i stk fun x => some (.long x.toInt64))
  | .i2b => e_n pc 1 lv (e_i stk fun x => some (.int x.toInt8.toInt32))
  | .l2i => e_n pc 1 lv (e_l stk fun x => some (.int x.toInt32))
  | .lneg => e_n pc 1 lv (e_l stk fun x => some (.long (-x)))
  | .ladd => e_n pc 1 lv (e_ll stk fun x y => some (.long (x + y)))
  | .lsub => e_n pc 1 lv (e_ll stk fun x y => some (.long (x - y)))
  | .lmul => e_n pc 1 lv (e_ll stk fun x y => some (.long (x * y)))
  | .land => e_n pc 1 lv (e_ll stk fun x y => some (.long (x &&& y)))
  | .lor => e_n pc 1 lv (e_ll stk fun x y => some (.long (x ||| y)))
  | .lxor => e_n pc 1 lv (e_ll stk fun x y => some (.long (x ^^^ y)))
  | .ldiv => e_n pc 1 lv (e_ll stk fun x y => if y = 0 then none else some (.long (x / y)))
  | .lrem => e_n pc 1 lv (e_ll stk fun x y => if y = 0 then none else some (.long (x - x / y * y)))
  | .lcmp => e_n pc 1 lv (e_ll stk fun x y => some (.int (lg_cmp x y)))
  | .lshl => e_n pc 1 lv (e_li stk fun x y => some (.long (x <<< (y.toInt64 &&& 63))))
  | .lshr => e_n pc 1 lv (e_li stk fun x y => some (.long (x >>> (y.toInt64 &&& 63))))
  | .lushr => e_n pc 1 lv (e_li stk fun x y => some (.long ((x.toUInt64 >>> (y.toInt64.toUInt64 &&& Int64.toUInt64 63)).toInt64)))
  | .dup => match stk with
    | v :: r => if e_c1 v = true then some (pc + 1, lv, v :: v :: r) else none
    | [] => none
  | .pop => match stk with
    | v :: r => if e_c1 v = true then some (pc + 1, lv, r) else none
    | [] => none
  | .dup_x1 => match stk with
    | v :: w :: r => if e_c1 v = true ∧ e_c1 w = true then some (pc + 1, lv, v :: w :: v :: r) else none
    | _ => none
  | .dup2 => match stk with
    | .long x :: r => some (pc + 1, lv, .long x :: .long x :: r)
    | v :: w :: r => if e_c1 v = true ∧ e_c1 w = true then some (pc + 1, lv, v :: w :: v :: w :: r) else none
    | _ => none
  | .goto off => e_jp pc off lv stk true
  | .ifCond c off => match stk with
    | .int x :: r => e_jp pc off lv r (e_cmp c x 0)
    | _ => none
  | .if_icmp c off => match stk with
    | .int y :: .int x :: r => e_jp pc off lv r (e_cmp c x y)
    | _ => none
  | .ifnull off => match stk with
    | .null :: r => e_jp pc off lv r true
    | .ref _ :: r => e_jp pc off lv r false
    | _ => none
  | .ifnonnull off => match stk with
    | .null :: r => e_jp pc off lv r false
    | .ref _ :: r => e_jp pc off lv r true
    | _ => none
  | .tableswitch d lo hi offs => match stk with
    | .int x :: r => if x.toInt < lo ∨ hi < x.toInt then (e_tg pc d).map fun g => (g, lv, r) else match offs[(x.toInt - lo).toNat]? with
      | some off => (e_tg pc off).map fun g => (g, lv, r)
      | none => none
    | _ => none
  | .lookupswitch d ps => match stk with
    | .int x :: r => if (ps.toList.zip (ps.toList.drop 1)).all (fun (a, next) => a.1 < next.1) = true then (e_tg pc (Op.lookupswitch.offset ps.toList d x.toInt)).map fun g => (g, lv, r) else none
    | _ => none
  | _ => none
def e_len : Instr → Nat
  | .iconst _ => 1 | .bipush _ => 2 | .sipush _ => 3 | .lconst _ => 1 | .aconst_null => 1
  | .iload_n _ => 1 | .iload _ => 2 | .lload_n _ => 1 | .lload _ => 2 | .aload_n _ => 1 | .aload _ => 2
  | .istore_n _ => 1 | .istore _ => 2 | .lstore_n _ => 1 | .lstore _ => 2 | .astore_n _ => 1 | .astore _ => 2
  | .iinc _ _ => 3 | .goto _ => 3 | .ifCond _ _ => 3 | .if_icmp _ _ => 3 | .ifnull _ => 3 | .ifnonnull _ => 3
  | _ => 1
/-- a switch may be of any length -/
def e_lf (ins : Instr) (len : Nat) : Nat := match ins with
  | .tableswitch _ _ _ _ => len
  | .lookupswitch _ _ => len
  | i => e_len i
/-! addresses of the evaluator are its own: ad says which cell of the machine each is -/
def e_vm (ad : Nat → Nat) : Value → Value
  | .ref a => .ref (ad a)
  | v => v
def e_mp (ad : Nat → Nat) (lv : e_LV) : e_LV := lv.map fun q => (q.1, e_vm ad q.2)
def e_mv (ad : Nat → Nat) (stk : List Value) : List Value := stk.map (e_vm ad)
theorem e_vm_cat (ad : Nat → Nat) (v : Value) : (e_vm ad v).category = v.category := by cases v <;> rfl
theorem e_ms1 (ad : Nat → Nat) (i : Nat) (v : Value) (lv : e_LV) : (i, e_vm ad v) :: (e_mp ad lv).filter (fun q => !(q.1 == i) && !(q.1 + 1 == i && q.2.category == 2)) = e_mp ad (e_s1 i v lv) := by
  unfold e_mp e_s1
  rw [List.map_cons, List.filter_map]
  congr 2
  refine List.filter_congr fun q _ => ?_
  simp [Function.comp, e_vm_cat]
theorem e_ms2 (ad : Nat → Nat) (i : Nat) (v : Value) (lv : e_LV) : (i, e_vm ad v) :: (e_mp ad lv).filter (fun q => !(q.1 == i) && (!(q.1 == i + 1) && !(q.1 + 1 == i && q.2.category == 2))) = e_mp ad (e_s2 i v lv) := by
  unfold e_mp e_s2
  rw [List.map_cons, List.filter_map]
  congr 2
  refine List.filter_congr fun q _ => ?_
  simp [Function.comp, e_vm_cat]
theorem e_mv_cat (ad : Nat → Nat) (stk : List Value) : (e_mv ad stk).map (fun v => v.category) = stk.map fun v => v.category := by
  unfold e_mv
  rw [List.map_map]
  refine List.map_congr_left fun v _ => ?_
  simp [Function.comp, e_vm_cat]
