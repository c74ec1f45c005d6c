/-! PART 10: the machine does what the evaluator says -/
section E_TH
variable {p : Program} {l : Launch} {e : Env} {R : Room} {s : State} {m : MethodId} {args : Array Value} {below : List Frame} {meth : Method} {c : Code} {H : Heap} {locs : List Loc} {cells slots : Nat} {Q : State → Prop}
variable {cc : ByteArray} {pc : Nat} {ls : Array Slot} {rest : List Value}
theorem e_athrow (hexec : p.tables.exec = Jvm.exec) (hb : c.code = cc) {q : Nat} (hdg : decode cc pc = .ok (.athrow, 1)) (kk : vx_W p l e R s m args below meth c H locs cells slots Q (F0 m pc ls rest) q) :
    W p l e R s m args below meth c H locs cells slots Q (F0 m pc ls (.ref q :: rest)) := by
  intro T hT X
  obtain ⟨t, a, b⟩ := kk T hT X
  refine ⟨t, ?_, b⟩
  jvm_step X.here [X.here.top, hexec, hb, hdg, athrow.wp_sem]
  exact a
end E_TH
/-- what the words say of all that is linked -/
def e_OKP (cl : List vw_C) (ats : List FieldType) (fty : Nat → Nat → FieldType) (W0 Z0 : List Cond) (fl : Nat → Nat → Option (Nat × Nat)) (kI : Nat → Nat → Option Int32) (kL : Nat → Nat → Option Int64) (nl : Nat → Nat → Option Nat) (ml : Nat → Nat → Option (Nat × Nat)) (mt : Nat → Option e_M) (cn : Nat → Nat) (eci : Nat) (own : Nat → String) : Prop :=
  e_OKC cl ats fty W0 ∧ (∀ o, e_OKT cl ats fty W0 Z0 fl kI kL nl o (own o)) ∧ (∀ w ∈ W0, goodWord w = true) ∧ (∀ z ∈ Z0, e_z z = true) ∧ (∀ j M, mt j = some M → e_OKM W0 Z0 own M) ∧
  (∀ o idx how j, ml o idx = some (how, j) → (how = 9 ∧ Cond.methodLink (own o) idx objectInit ∈ W0 ∧ Cond.instanceMethod objectInit ∈ W0 ∧ Cond.code objectInit ⟨#[0xb1]⟩ 1 none ∈ W0) ∨ (how ≠ 9 ∧ ∀ M, mt j = some M → e_OKL W0 Z0 (own o) idx how M)) ∧
  (∀ ci q, cl[ci]? = some q → own (cn ci) = q.1) ∧ (∃ r, cl[eci]? = some r ∧ r.1 = e_eX)
section E_O
variable {p : Program} {l : Launch} {e : Env} {s : State} {m : MethodId} {args : Array Value} {below : List Frame} {meth : Method} {c : Code}
variable {D : va_G} {cl : List vw_C} {tys : List (ClassId × FieldType)} {ats : List FieldType} {fty : Nat → Nat → FieldType} {W0 Z0 : List Cond}
variable {fl : Nat → Nat → Option (Nat × Nat)} {kI : Nat → Nat → Option Int32} {kL : Nat → Nat → Option Int64} {nl : Nat → Nat → Option Nat} {kS : Nat → Nat → Option Nat} {XB : State → Heap → Prop} {ad : Nat → Nat} {b0 : Nat} {ml : Nat → Nat → Option (Nat × Nat)} {mt : Nat → Option e_M} {cn : Nat → Nat} {eci : Nat} {xo : Nat → Option Nat} {own : Nat → String}
theorem e_inv_ok (hcn : ∀ (ci : Nat) (q : vw_C), cl[ci]? = some q → own (cn ci) = q.1) (hmo : ∀ j M, mt j = some M → own (e_mo M) = (e_my M).cls) {call : Nat → List Value → e_ST → Option e_RS} {how j : Nat} {stk rest : List Value} {st : e_ST} {r : e_RS} (h : e_inv cl mt cn xo call how j stk st = some (r, rest)) :
    ∃ M As b, mt j = some M ∧ As.length = e_mn M ∧ e_cat rest ≤ 8 ∧ ((how = 0 ∧ stk = As.reverse ++ .ref b :: rest ∧ (xo b = some (e_mo M) ∨ ∃ (ci : Nat) (q : vw_C), e_K st b = some (.inl ci) ∧ cl[ci]? = some q ∧ q.1 = (e_my M).cls) ∧ call j (.ref b :: As) st = some r) ∨ (how = 1 ∧ stk = As.reverse ++ rest ∧ call j As st = some r) ∨ (how = 2 ∧ stk = As.reverse ++ .ref b :: rest ∧ call j (.ref b :: As) st = some r)) := by
  unfold e_inv at h
  split at h
  · cases h
  · rename_i M hM
    split at h
    · rename_i As b rest0 ht
      split at h
      · rename_i o ho
        split at h
        · rename_i hc
          obtain ⟨r0, h1, h2⟩ := Option.map_eq_some_iff.mp h
          cases h2
          obtain ⟨g1, g2⟩ := e_take_ok ht
          exact ⟨M, As, b, hM, g2, hc.2, Or.inl ⟨rfl, g1, Or.inl (by rw [ho, hc.1]), h1⟩⟩
        · cases h
      · split at h
        · rename_i ci hk
          split at h
          · rename_i hc
            obtain ⟨r0, h1, h2⟩ := Option.map_eq_some_iff.mp h
            cases h2
            obtain ⟨g1, g2⟩ := e_take_ok ht
            obtain ⟨q, hq⟩ := Option.isSome_iff_exists.mp hc.1
            exact ⟨M, As, b, hM, g2, hc.2.2, Or.inl ⟨rfl, g1, Or.inr ⟨ci, q, hk, hq, by rw [← hcn ci q hq, hc.2.1]; exact hmo j M hM⟩, h1⟩⟩
          · cases h
        · cases h
    · rename_i As rest0 ht
      split at h
      · rename_i hc
        obtain ⟨r0, h1, h2⟩ := Option.map_eq_some_iff.mp h
        cases h2
        obtain ⟨g1, g2⟩ := e_take_ok ht
        exact ⟨M, As, 0, hM, g2, hc, Or.inr (Or.inl ⟨rfl, g1, h1⟩)⟩
      · cases h
    · rename_i As b rest0 ht
      split at h
      · rename_i hc
        obtain ⟨r0, h1, h2⟩ := Option.map_eq_some_iff.mp h
        cases h2
        obtain ⟨g1, g2⟩ := e_take_ok ht
        exact ⟨M, As, b, hM, g2, hc, Or.inr (Or.inr ⟨rfl, g1, h1⟩)⟩
      · cases h
    · cases h
theorem e_cch_ok {cc : ByteArray} {hp k pc' : Nat} {lv lv' : e_LV} (h : e_cch cc hp lv = some (k, pc', lv')) : lv' = (lv.filter fun q => !(q.1 == k) && !(q.1 + 1 == k && q.2.category == 2)) ∧ ((pc' = hp + 2 ∧ decode cc hp = .ok (.astore k, 2)) ∨ (pc' = hp + 1 ∧ ∃ q : Fin 4, (q : Nat) = k ∧ decode cc hp = .ok (.astore_n q, 1))) := by
  unfold e_cch at h
  split at h
  · rename_i hd
    cases h
    exact ⟨rfl, Or.inl ⟨rfl, hd⟩⟩
  · rename_i q hd
    cases h
    exact ⟨rfl, Or.inr ⟨rfl, q, rfl, hd⟩⟩
  · cases h
theorem e_mp_f {ad : Nat → Nat} {k : Nat} {lv : e_LV} : ((e_mp ad lv).filter fun q => !(q.1 == k) && !(q.1 + 1 == k && q.2.category == 2)) = e_mp ad (lv.filter fun q => !(q.1 == k) && !(q.1 + 1 == k && q.2.category == 2)) := by
  unfold e_mp
  rw [List.filter_map]
  congr 1
  refine List.filter_congr fun q _ => ?_
  simp [Function.comp, e_vm_cat]
theorem e_isA_m {ad : Nat → Nat} {v : Value} (h : e_isA v = true) : e_vm ad v = .null ∨ ∃ a, e_vm ad v = .ref a := by
  rcases e_isA_s h with rfl | ⟨a, rfl⟩
  · exact Or.inl rfl
  · exact Or.inr ⟨_, rfl⟩
theorem e_mv_ret {ad : Nat → Nat} {v : Option Value} {rest : List Value} : (v.map (e_vm ad)).toList ++ e_mv ad rest = e_mv ad (v.toList ++ rest) := by cases v <;> rfl
theorem lv_tl {ls : Array Slot} {nL : Nat} {q : Nat × Value} {l : List (Nat × Value)} (h : lv_has ls nL (q :: l)) : lv_has ls nL l := ⟨h.1, h.2.1, fun x hx => h.2.2 x (List.mem_cons_of_mem _ hx)⟩
/-- what more is taken, is done: at a depth of d calls -/
def e_EXS (l : Launch) (ad : Nat → Nat) (D : va_G) (cl : List vw_C) (tys : List (ClassId × FieldType)) (fty : Nat → Nat → FieldType) (W0 Z0 : List Cond) (XB : State → Heap → Prop) (own : Nat → String) (b0 d : Nat) (ex : e_EX) : Prop :=
  ∀ (p : Program) (e : Env) (R : Room) (s : State) (m : MethodId) (args : Array Value) (below : List Frame) (meth : Method) (c : Code) (Q : State → Prop) (H : Heap) (locs : List Loc) (ls : Array Slot) (cells slots : Nat) (M : e_M) (ins : Instr) (len pc : Nat) (lv : e_LV) (stk : List Value) (st : e_ST) (f : e_FR) (st' : e_ST),
    ex M ins len pc lv stk st = some (f, st') → e_OKM W0 Z0 own M → p.tables.exec = Jvm.exec → c.code = e_mc M → c.maxLocals = e_mL M → (∀ w ∈ W0, goodWord w = true) → (∀ w ∈ W0, w.before args s = true) → (∀ z ∈ Z0, e_z z = true) → (∀ z ∈ Z0, va_Nw z s) → XB s s.heap → s.vm.findClass (own (e_mo M)) = some m.cls → va_K D cl tys s → e_AD ad b0 → b0 ≤ s.heap.size → e_RR ad b0 D cl tys fty st H → va_S (e_A b0) s.heap H locs → lv_has ls (e_mL M) (e_mp ad lv) → decode (e_mc M) pc = .ok (ins, len) → R.frames = d + 1 → R.locals = 40 * (d + 1) → cells + (e_T st' - e_T st) ≤ R.cells → slots + (e_Z st' - e_Z st) ≤ R.slots →
    (∀ (H1 : Heap) (locs1 : List Loc) (ls1 : Array Slot), e_RR ad b0 D cl tys fty st' H1 → va_S (e_A b0) s.heap H1 locs1 → lv_has ls1 (e_mL M) (e_mp ad f.2.1) → W p l e R s m args below meth c H1 locs1 (cells + (e_T st' - e_T st)) (slots + (e_Z st' - e_Z st)) Q (F0 m f.1 ls1 (e_mv ad f.2.2))) → W p l e R s m args below meth c H locs cells slots Q (F0 m pc ls (e_mv ad stk))
set_option maxHeartbeats 2000000 in
theorem e_body_ok (hP : e_OKP cl ats fty W0 Z0 fl kI kL nl ml mt cn eci own) {M : e_M} (hMj : e_OKM W0 Z0 own M) {d mc ms T0 S0 : Nat} (hx : p.tables.exec = Jvm.exec) (hb : c.code = e_mc M) (hml : c.maxLocals = e_mL M) (hr : meth.sig.returnType = e_mr M) (hlocks : meth.locks = false) (hname : (e_my M).name = "<init>" → meth.name = "<init>") (hTab : c.exceptionTable.toList = tableOf (e_mh M))
    (hW0 : ∀ w ∈ W0, w.before args s = true) (hZ0 : ∀ z ∈ Z0, va_Nw z s) (hS0 : ∀ o idx q, kS o idx = some q → ∃ tx, vk_R (own o) idx tx (ad q) s) (hown : s.vm.findClass (own (e_mo M)) = some m.cls) (hK : va_K D cl tys s) (hta : ∀ (t : Nat) (ty : FieldType), ats[t]? = some ty → ∃ cA, tys[t]? = some (cA, ty)) (had : e_AD ad b0) (hb0 : b0 ≤ s.heap.size) (hXC : e_XC b0 XB) (hXO : ∀ (U : State) (H : Heap) (q o : Nat), XB U H → xo q = some o → ∃ cell : Cell, H[ad q]? = some cell ∧ cell.vm.isStatics = false ∧ U.vm.findClass (own o) = some cell.cls) (hXB : XB s s.heap) {ex : e_EX} (hex : e_xgrow ex)
    {call : Nat → List Value → e_ST → Option e_RS} (hgrow : e_grow call) (hcall : ∀ j M' As st r, mt j = some M' → call j As st = some r → e_CT l ad D cl tys fty W0 Z0 kS XB own b0 d M' As st r) (hEX : e_EXS l ad D cl tys fty W0 Z0 XB own b0 d ex) {rf : e_RS} (hmc : mc + T0 = e_T rf.2) (hms : ms + S0 = e_Z rf.2) :
    ∀ (n pc : Nat) (lv : e_LV) (stk : List Value) (st : e_ST), e_body cl ats fty fl kI kL nl kS ml mt cn eci xo ex call M n pc lv stk st = some rf → ∀ (H : Heap) (locs : List Loc) (ls : Array Slot) (cells slots : Nat), e_RR ad b0 D cl tys fty st H → va_S (e_A b0) s.heap H locs → lv_has ls (e_mL M) (e_mp ad lv) → cells + T0 = e_T st → slots + S0 = e_Z st →
      W p l e (e_rm (d + 1) mc ms) s m args below meth c H locs cells slots (vx_MQ below (e_QR ad D cl tys fty b0 rf) (e_XR ad D cl tys fty b0 rf) args s mc ms (e_A b0)) (F0 m pc ls (e_mv ad stk)) := by
  obtain ⟨hC, hO, hWg, hZg, hMs, hLs, hcn, rX, hcX, hnX⟩ := hP
  intro n
  induction n with
  | zero => intro pc lv stk st h; cases h
  | succ n ih =>
    intro pc lv stk st h H locs ls cells slots hR hS hl hcells hslots
    unfold e_body at h
    split at h
    · cases h
    · rename_i ins len hd
      have hdec : decode (e_mc M) pc = .ok (ins, len) := hd
      -- what is thrown here or comes from a call
      have THR : ∀ (st' : e_ST), (match e_hd (e_mh M) pc with
          | none => some ((none, st') : e_RS)
          | some x => match e_cch (e_mc M) x.2.2.1 lv with
            | none => none
            | some (k, pc', lv') => if k < e_mL M then e_body cl ats fty fl kI kL nl kS ml mt cn eci xo ex call M n pc' lv' [] st' else none) = some rf →
          ∀ (q9 : Addr) (ce : Cell) (H1 : Heap) (locs1 : List Loc) (rest : List Value) (cells slots : Nat), e_RR ad b0 D cl tys fty st' H1 → va_S (e_A b0) s.heap H1 locs1 → H1[q9]? = some ce → ce.vm = .none → s.vm.findClass e_eX = some ce.cls → cells + T0 = e_T st' → slots + S0 = e_Z st' →
          vx_W p l e (e_rm (d + 1) mc ms) s m args below meth c H1 locs1 cells slots (vx_MQ below (e_QR ad D cl tys fty b0 rf) (e_XR ad D cl tys fty b0 rf) args s mc ms (e_A b0)) (F0 m pc ls rest) q9 := by
        intro st' h q9 ce H1 locs1 rest cells slots hR1 hS1 hce hcv hcl hc1 hs1
        split at h
        · rename_i hn
          cases h
          refine vx_out (fun x hx1 => ?_) hlocks hce hcv hcl (fun t ht _ => ⟨rfl, rfl, by rw [ht]; exact hR1, hS1.F ht⟩) hS1.2.2 (by have : e_T st' = mc + T0 := hmc.symm; omega) (by have : e_Z st' = ms + S0 := hms.symm; omega)
          rw [hTab] at hx1
          obtain ⟨y, hy, rfl⟩ := List.mem_map.mp hx1
          have := List.find?_eq_none.mp hn y hy
          simp only [decide_eq_true_eq] at this
          simp only [covers, Bool.and_eq_false_iff, decide_eq_false_iff_not]
          rcases Nat.lt_or_ge pc y.1 with q | q
          · exact Or.inl (by omega)
          · exact Or.inr (fun q2 => this ⟨q, q2⟩)
        · rename_i x hx1
          split at h
          · cases h
          · rename_i k pc' lv' hcch
            split at h
            · rename_i hk
              obtain ⟨g1, as, bs, g2, g3⟩ := List.find?_eq_some_iff_append.mp hx1
              have hxm : x ∈ e_mh M := by rw [g2]; exact List.mem_append_right _ List.mem_cons_self
              obtain ⟨h0, nm, hlk, hcs⟩ := hMj.2.2.2.2.2.2.2 x hxm
              have hownc : own (e_mo M) = (e_my M).cls := hMj.2.2.2.2.1
              refine vx_catch (own := own (e_mo M)) hown (tableOf as) ⟨x.1, x.2.1, x.2.2.1, x.2.2.2⟩ (tableOf bs) (by rw [hTab, g2]; simp [tableOf]) (fun z hz => ?_) ?_ h0 (hW0 _ (by rw [hownc]; exact hlk)) (va_Nw.use rfl (hZ0 _ hcs)) hce hcv hcl ?_
              · obtain ⟨y, hy, rfl⟩ := List.mem_map.mp hz
                have := g3 y hy
                simp only [Bool.not_eq_true', decide_eq_false_iff_not] at this
                refine Or.inl ?_
                simp only [covers, Bool.and_eq_false_iff, decide_eq_false_iff_not]
                rcases Nat.lt_or_ge pc y.1 with q | q
                · exact Or.inl (by omega)
                · exact Or.inr (fun q2 => this ⟨q, q2⟩)
              · simp only [decide_eq_true_eq] at g1
                simp only [covers, Bool.and_eq_true, decide_eq_true_eq]
                exact g1
              · obtain ⟨rfl, hdd⟩ := e_cch_ok hcch
                rcases hdd with ⟨rfl, hdd⟩ | ⟨rfl, q, rfl, hdd⟩
                · exact lv_astore hx hb hdd hl hk rfl fun ls' hl' => ih _ _ _ _ h H1 locs1 ls' cells slots hR1 hS1 (by rw [← e_mp_f]; exact lv_tl hl') hc1 hs1
                · exact lv_astore_n hx hb hdd rfl hl hk rfl fun ls' hl' => ih _ _ _ _ h H1 locs1 ls' cells slots hR1 hS1 (by rw [← e_mp_f]; exact lv_tl hl') hc1 hs1
            · cases h
      -- what a call does
      have CALL : ∀ (how j idx : Nat) (x : e_RS × List Value), how ≠ 9 → ml (e_mo M) idx = some (how, j) → e_inv cl mt cn xo call how j stk st = some x → ((how = 0 ∧ decode (e_mc M) pc = .ok (.invokevirtual idx, 3)) ∨ (how = 1 ∧ decode (e_mc M) pc = .ok (.invokestatic idx, 3)) ∨ (how = 2 ∧ decode (e_mc M) pc = .ok (.invokespecial idx, 3))) →
          (∀ v st' rest, x = ((some v, st'), rest) → e_body cl ats fty fl kI kL nl kS ml mt cn eci xo ex call M n (pc + 3) lv (v.toList ++ rest) st' = some rf) →
          (∀ st' rest, x = ((none, st'), rest) → (match e_hd (e_mh M) pc with
            | none => some ((none, st') : e_RS)
            | some x => match e_cch (e_mc M) x.2.2.1 lv with
              | none => none
              | some (k, pc', lv') => if k < e_mL M then e_body cl ats fty fl kI kL nl kS ml mt cn eci xo ex call M n pc' lv' [] st' else none) = some rf) →
          e_le x.1.2 rf.2 → W p l e (e_rm (d + 1) mc ms) s m args below meth c H locs cells slots (vx_MQ below (e_QR ad D cl tys fty b0 rf) (e_XR ad D cl tys fty b0 rf) args s mc ms (e_A b0)) (F0 m pc ls (e_mv ad stk)) := by
        intro how j idx x h9 hml0 hi hdd k1 k2 hle
        obtain ⟨r, rest⟩ := x
        obtain ⟨M', As, b, hM', hlen, hcat, hcase⟩ := e_inv_ok (own := own) hcn (fun j M h => (hMs j M h).2.2.2.2.1) hi
        have hL' : e_OKL W0 Z0 (own (e_mo M)) idx how M' := by
          rcases hLs _ _ _ _ hml0 with ⟨q, -⟩ | ⟨-, q⟩
          · exact absurd q h9
          · exact q M' hM'
        have hg : e_le st r.2 := e_inv_le hgrow hi
        have hle' : e_le r.2 rf.2 := hle
        obtain ⟨le1, le2⟩ := hg
        obtain ⟨le3, le4⟩ := hle'
        obtain ⟨a, hrun⟩ := e_call (R := e_rm (d + 1) mc ms) (d := d) (mc := e_T r.2 - e_T st) (ms := e_Z r.2 - e_Z st) (o := e_mo M) (As := As) (stk := stk) (rest := rest) (b := b) (locs := locs) (ls := ls) (cells := cells) (slots := slots) hx hb hml hWg hW0 hZg hZ0 hS0 hown hK hR (Nat.le_trans hb0 hS.1) hXC (hXC.2.2 s s.heap H hXB hS.2.1) hl.1 (hMs j M' hM') hL' rfl rfl rfl rfl hlen hcat ⟨by show cells + _ ≤ mc; omega, by show slots + _ ≤ ms; omega⟩
          (by
            rcases hcase with ⟨q1, q2, q3, q4⟩ | ⟨q1, q2, q4⟩ | ⟨q1, q2, q4⟩
            · rcases hdd with ⟨-, hdd⟩ | ⟨z, -⟩ | ⟨z, -⟩
              · refine Or.inl ⟨q1, hdd, q2, ?_, hcall _ _ _ _ _ hM' q4⟩
                rcases q3 with q3 | ⟨ci, q, hkb, hc9, hq9⟩
                · have g := hXO s H _ _ (hXC.2.2 s s.heap H hXB hS.2.1) q3
                  rw [(hMs j M' hM').2.2.2.2.1] at g
                  exact g
                · obtain ⟨C, T, N⟩ := q
                  have hrecv := va_recv (s := s) hK (e_one (hR.2.2.2 _ _ (e_en_obj hkb hc9))) (q0 := 0) hc9 rfl
                  rw [hq9] at hrecv
                  exact hrecv
              · omega
              · omega
            · rcases hdd with ⟨z, -⟩ | ⟨-, hdd⟩ | ⟨z, -⟩
              · omega
              · exact Or.inr (Or.inl ⟨q1, hdd, q2, hcall _ _ _ _ _ hM' q4⟩)
              · omega
            · rcases hdd with ⟨z, -⟩ | ⟨z, -⟩ | ⟨-, hdd⟩
              · omega
              · omega
              · exact Or.inr (Or.inr ⟨q1, hdd, q2, hcall _ _ _ _ _ hM' q4⟩))
        refine e_after hrun hS (fun hv q9 ce H1 locs1 hR1 hS1 hce hcv hcl => ?_) (fun v hv H1 locs1 hR1 hS1 => ?_)
        · obtain ⟨rv, rs⟩ := r
          cases hv
          exact THR rs (k2 rs rest rfl) q9 ce H1 locs1 _ _ _ hR1 hS1 hce hcv hcl (by show cells + (e_T rs - e_T st) + T0 = e_T rs; have : e_T st ≤ e_T rs := le1; omega) (by show slots + (e_Z rs - e_Z st) + S0 = e_Z rs; have : e_Z st ≤ e_Z rs := le2; omega)
        · obtain ⟨rv, rs⟩ := r
          cases hv
          rw [e_mv_ret]
          exact ih _ _ _ _ (k1 v rs rest rfl) H1 locs1 ls _ _ hR1 hS1 hl (by show cells + (e_T rs - e_T st) + T0 = e_T rs; have : e_T st ≤ e_T rs := le1; omega) (by show slots + (e_Z rs - e_Z st) + S0 = e_Z rs; have : e_Z st ≤ e_Z rs := le2; omega)
      have KEY : ∀ x, e_nx cl ats fty fl kI kL nl kS ml mt cn eci xo call M ins len pc lv stk st = some x → (∀ r, x = .inl r → r = rf) → (∀ f st', x = .inr (.inl (f, st')) → e_body cl ats fty fl kI kL nl kS ml mt cn eci xo ex call M n f.1 f.2.1 f.2.2 st' = some rf) →
          (∀ st', x = .inr (.inr st') → (match e_hd (e_mh M) pc with
            | none => some ((none, st') : e_RS)
            | some x => match e_cch (e_mc M) x.2.2.1 lv with
              | none => none
              | some (k, pc', lv') => if k < e_mL M then e_body cl ats fty fl kI kL nl kS ml mt cn eci xo ex call M n pc' lv' [] st' else none) = some rf) → e_le (e_xst x) rf.2 →
          W p l e (e_rm (d + 1) mc ms) s m args below meth c H locs cells slots (vx_MQ below (e_QR ad D cl tys fty b0 rf) (e_XR ad D cl tys fty b0 rf) args s mc ms (e_A b0)) (F0 m pc ls (e_mv ad stk)) := by
        clear h
        intro x hx1 kr kf kt hle
        have RET : ∀ v, x = .inl (some v, st) → rf = (some v, st) ∧ cells = mc ∧ slots = ms := by
          intro v hv
          have h1 := kr _ hv
          subst h1
          exact ⟨rfl, by have : mc + T0 = e_T st := hmc; omega, by have : ms + S0 = e_Z st := hms; omega⟩
        have DFL : (match e_s (e_mL M) ins pc lv stk with
            | some f => if e_lf ins len = len then some (.inr (.inl (f, st))) else none
            | none => if e_lh ins = len then (e_h cl ats fty fl kI kL nl kS (e_mo M) (if (e_my M).name = "<init>" then some (e_my M).cls else none) ins pc lv stk st).map fun x => (.inr (.inl x) : e_RS ⊕ (e_FR × e_ST) ⊕ e_ST) else none) = some x → W p l e (e_rm (d + 1) mc ms) s m args below meth c H locs cells slots (vx_MQ below (e_QR ad D cl tys fty b0 rf) (e_XR ad D cl tys fty b0 rf) args s mc ms (e_A b0)) (F0 m pc ls (e_mv ad stk)) := by
          intro hq
          split at hq
          · rename_i f hf
            split at hq
            · rename_i hlen
              cases hq
              obtain ⟨pc', lv', stk'⟩ := f
              exact e_s_ok hx hb (by rw [hlen]; exact hdec) hf hl fun ls' hl' => ih _ _ _ _ (kf _ _ rfl) H locs ls' cells slots hR hS hl' hcells hslots
            · cases hq
          · split at hq
            · rename_i hlen
              obtain ⟨y, h1, h2⟩ := Option.map_eq_some_iff.mp hq
              obtain ⟨f, st'⟩ := y
              subst h2
              have g := e_h_le h1
              obtain ⟨le1, le2⟩ := g
              obtain ⟨le3, le4⟩ := hle
              have le3' : e_T st' ≤ e_T rf.2 := le3
              have le4' : e_Z st' ≤ e_Z rf.2 := le4
              refine e_h_ok (Z0 := Z0) (W0 := W0) (own := own (e_mo M)) (H0 := s.heap) hx hb hW0 hZ0 hC (hO (e_mo M)) (fun idx q hq => hS0 _ idx q hq) (fun n9 hi => by
                by_cases h9 : (e_my M).name = "<init>"
                · rw [if_pos h9] at hi
                  exact ⟨hname h9, (Option.some.inj hi).symm.trans hMj.2.2.2.2.1.symm⟩
                · rw [if_neg h9] at hi
                  cases hi) hown hK hta had hR hS (by rw [hlen]; exact hdec) h1 hl (by show cells + _ ≤ mc; omega) (by show slots + _ ≤ ms; omega) fun H1 locs1 hR1 hS1 hl1 _ _ => ?_
              exact ih _ _ _ _ (kf _ _ rfl) H1 locs1 ls _ _ hR1 hS1 hl1 (by omega) (by omega)
            · cases hq
        cases ins with
        | ireturn =>
          unfold e_nx at hx1
          dsimp only at hx1
          split at hx1
          · rename_i hlen
            subst hlen
            obtain ⟨v, h1, h2⟩ := Option.map_eq_some_iff.mp hx1
            obtain ⟨rfl, rfl, rfl⟩ := RET v h2.symm
            unfold e_ret at h1
            split at h1
            · rename_i x0 _
              split at h1
              · rename_i ty hty
                split at h1
                · rename_i hn
                  cases h1
                  exact vx_ret (W.zret hx hb (hr.trans hty) hn (fun t ht _ => ⟨⟨_, rfl, rfl⟩, by rw [ht]; exact hR, hS.F ht⟩) hS.2.2 hdec hlocks)
                · cases h1
              · cases h1
            · rename_i hi; cases hi
            · rename_i hi; cases hi
            · rename_i hi; cases hi
            · cases h1
          · cases hx1
        | lreturn =>
          unfold e_nx at hx1
          dsimp only at hx1
          split at hx1
          · rename_i hlen
            subst hlen
            obtain ⟨v, h1, h2⟩ := Option.map_eq_some_iff.mp hx1
            obtain ⟨rfl, rfl, rfl⟩ := RET v h2.symm
            unfold e_ret at h1
            split at h1
            · rename_i hi; cases hi
            · split at h1
              · rename_i hty
                cases h1
                exact vx_ret (W.lret hx hb (hr.trans hty) (fun t ht _ => ⟨⟨_, rfl, rfl⟩, by rw [ht]; exact hR, hS.F ht⟩) hS.2.2 hdec hlocks)
              · cases h1
            · rename_i hi; cases hi
            · rename_i hi; cases hi
            · cases h1
          · cases hx1
        | areturn =>
          unfold e_nx at hx1
          dsimp only at hx1
          split at hx1
          · rename_i hlen
            subst hlen
            obtain ⟨v, h1, h2⟩ := Option.map_eq_some_iff.mp hx1
            obtain ⟨rfl, rfl, rfl⟩ := RET v h2.symm
            unfold e_ret at h1
            split at h1
            · rename_i hi; cases hi
            · rename_i hi; cases hi
            · split at h1
              · rename_i C hty
                split at h1
                · rename_i hv
                  cases h1
                  exact vx_ret (W.aret hx hb (hr.trans hty) (Or.inl ⟨_, rfl⟩) (e_isA_m hv) (fun t ht _ => ⟨⟨_, rfl, rfl⟩, by rw [ht]; exact hR, hS.F ht⟩) hS.2.2 hdec hlocks)
                · cases h1
              · rename_i C hty
                split at h1
                · rename_i hv
                  cases h1
                  exact vx_ret (W.aret hx hb (hr.trans hty) (Or.inr ⟨_, rfl⟩) (e_isA_m hv) (fun t ht _ => ⟨⟨_, rfl, rfl⟩, by rw [ht]; exact hR, hS.F ht⟩) hS.2.2 hdec hlocks)
                · cases h1
              · cases h1
            · rename_i hi; cases hi
            · cases h1
          · cases hx1
        | return_ =>
          unfold e_nx at hx1
          dsimp only at hx1
          split at hx1
          · rename_i hlen
            subst hlen
            obtain ⟨v, h1, h2⟩ := Option.map_eq_some_iff.mp hx1
            obtain ⟨rfl, rfl, rfl⟩ := RET v h2.symm
            unfold e_ret at h1
            split at h1
            · rename_i hi; cases hi
            · rename_i hi; cases hi
            · rename_i hi; cases hi
            · split at h1
              · rename_i hty
                cases h1
                exact vx_ret (W.vret hx hb (hr.trans hty) (fun t ht _ => ⟨⟨_, rfl, rfl⟩, by rw [ht]; exact hR, hS.F ht⟩) hS.2.2 hdec hlocks)
              · cases h1
            · cases h1
          · cases hx1
        | athrow =>
          unfold e_nx at hx1
          dsimp only at hx1
          split at hx1
          · rename_i q r0
            split at hx1
            · rename_i hq
              cases hx1
              obtain ⟨rfl, hk⟩ := hq
              obtain ⟨r', g1, cell, q1, q2, q3, q4⟩ := hR.2.2.2 q _ (e_en_obj hk hcX)
              have hfc := (hK.1 eci rX hcX).2.1
              rw [hnX] at hfc
              exact e_athrow hx hb hdec (THR st (kt st rfl) (ad q) cell H locs _ cells slots hR hS q1 q3 (by rw [q2]; exact hfc) hcells hslots)
            · cases hx1
          · cases hx1
        | invokevirtual idx =>
          unfold e_nx at hx1
          dsimp only at hx1
          split at hx1
          · rename_i j hj
            split at hx1
            · rename_i hlen
              subst hlen
              obtain ⟨y, h1, h2⟩ := Option.map_eq_some_iff.mp hx1
              refine CALL 0 j idx y (by decide) hj h1 (Or.inl ⟨rfl, hdec⟩) (fun v st' rest hy => ?_) (fun st' rest hy => ?_) (by rw [← e_bk_st (pc := pc) (lv := lv), h2]; exact hle)
              · subst hy
                exact kf _ _ h2.symm
              · subst hy
                exact kt _ h2.symm
            · cases hx1
          · cases hx1
        | invokestatic idx =>
          unfold e_nx at hx1
          dsimp only at hx1
          split at hx1
          · rename_i j hj
            split at hx1
            · rename_i hlen
              subst hlen
              obtain ⟨y, h1, h2⟩ := Option.map_eq_some_iff.mp hx1
              refine CALL 1 j idx y (by decide) hj h1 (Or.inr (Or.inl ⟨rfl, hdec⟩)) (fun v st' rest hy => ?_) (fun st' rest hy => ?_) (by rw [← e_bk_st (pc := pc) (lv := lv), h2]; exact hle)
              · subst hy
                exact kf _ _ h2.symm
              · subst hy
                exact kt _ h2.symm
            · cases hx1
          · cases hx1
        | invokespecial idx =>
          unfold e_nx at hx1
          dsimp only at hx1
          split at hx1
          · rename_i j hj
            split at hx1
            · rename_i hlen
              subst hlen
              obtain ⟨y, h1, h2⟩ := Option.map_eq_some_iff.mp hx1
              refine CALL 2 j idx y (by decide) hj h1 (Or.inr (Or.inr ⟨rfl, hdec⟩)) (fun v st' rest hy => ?_) (fun st' rest hy => ?_) (by rw [← e_bk_st (pc := pc) (lv := lv), h2]; exact hle)
              · subst hy
                exact kf _ _ h2.symm
              · subst hy
                exact kt _ h2.symm
            · cases hx1
          · rename_i j hj
            split at hx1
            · rename_i a0 r0
              split at hx1
              · rename_i hq
                cases hx1
                obtain ⟨rfl, hcat⟩ := hq
                rcases hLs _ _ _ _ hj with ⟨-, w1, w2, w3⟩ | ⟨w, -⟩
                · refine W.objInit (rest := e_mv ad r0) hx hb hown (hW0 _ w1) (hW0 _ w2) (hW0 _ w3) rfl (by rw [hml]; exact hl.1) rfl hdec (by show 1 ≤ d + 1; omega) (by show 2 * 0 + _ + 12 ≤ 40 * (d + 1); rw [e_mv_cat]; have : (r0.map fun v => v.category).sum ≤ 8 := hcat; omega) ?_
                  exact ih _ _ _ _ (kf _ _ rfl) H locs ls cells slots hR hS hl hcells hslots
                · exact absurd rfl w
              · cases hx1
            · cases hx1
          · cases hx1
        | _ => exact DFL hx1
      have KEY2 : ∀ x, e_ny cl ats fty fl kI kL nl kS ml mt cn eci xo ex call M ins len pc lv stk st = some x → (∀ r, x = .inl r → r = rf) → (∀ f st', x = .inr (.inl (f, st')) → e_body cl ats fty fl kI kL nl kS ml mt cn eci xo ex call M n f.1 f.2.1 f.2.2 st' = some rf) →
          (∀ st', x = .inr (.inr st') → (match e_hd (e_mh M) pc with
            | none => some ((none, st') : e_RS)
            | some x => match e_cch (e_mc M) x.2.2.1 lv with
              | none => none
              | some (k, pc', lv') => if k < e_mL M then e_body cl ats fty fl kI kL nl kS ml mt cn eci xo ex call M n pc' lv' [] st' else none) = some rf) → e_le (e_xst x) rf.2 →
          W p l e (e_rm (d + 1) mc ms) s m args below meth c H locs cells slots (vx_MQ below (e_QR ad D cl tys fty b0 rf) (e_XR ad D cl tys fty b0 rf) args s mc ms (e_A b0)) (F0 m pc ls (e_mv ad stk)) := by
        intro x hx1 kr kf kt hle
        unfold e_ny at hx1
        split at hx1
        · rename_i y hy
          cases hx1
          obtain ⟨f, st'⟩ := y
          have g := hex _ _ _ _ _ _ _ _ _ hy
          obtain ⟨le1, le2⟩ := g
          obtain ⟨le3, le4⟩ := hle
          have le3' : e_T st' ≤ e_T rf.2 := le3
          have le4' : e_Z st' ≤ e_Z rf.2 := le4
          exact hEX p e _ s m args below meth c _ H locs ls cells slots M ins len pc lv stk st f st' hy hMj hx hb hml hWg hW0 hZg hZ0 hXB hown hK had hb0 hR hS hl hdec rfl rfl (by show cells + _ ≤ mc; omega) (by show slots + _ ≤ ms; omega) fun H1 locs1 ls1 hR1 hS1 hl1 => ih _ _ _ _ (kf _ _ rfl) H1 locs1 ls1 _ _ hR1 hS1 hl1 (by omega) (by omega)
        · exact KEY x hx1 kr kf kt hle
      split at h
      · cases h
      · rename_i r0 h1
        cases h
        exact KEY2 _ h1 (fun r hr1 => by cases hr1; rfl) (fun f st' q => by cases q) (fun st' q => by cases q) e_le.rf
      · rename_i f st' h1
        exact KEY2 _ h1 (fun r q => by cases q) (fun f0 st0 q => by cases q; exact h) (fun st0 q => by cases q) (e_body_le hex hgrow h)
      · rename_i st' h1
        refine KEY2 _ h1 (fun r q => by cases q) (fun f0 st0 q => by cases q) (fun st0 q => by cases q; exact h) ?_
        split at h
        · cases h
          exact e_le.rf
        · split at h
          · cases h
          · split at h
            · exact e_body_le hex hgrow h
            · cases h
end E_O
