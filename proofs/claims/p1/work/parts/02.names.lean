def va_AOA (t : FieldType) (U : State) : Prop := (Cond.arrayOver (.array t)).before #[] U = true
theorem va_AOA.use {t : FieldType} {A : Array Value} {U : State} (h : va_AOA t U) : (Cond.arrayOver (.array t)).before A U = true := h
theorem k_idx_bare (vm : Vm) (comp : ClassId) : (vm.bare.classes.findIdx? fun (x : Class) => match x.kind with | .array component _ => component == comp | _ => false) = (vm.classes.findIdx? fun (x : Class) => match x.kind with | .array component _ => component == comp | _ => false) := by
  simp only [Vm.bare, Array.findIdx?_map]
  rfl
theorem va_AOA.moved {t : FieldType} {u U : State} (hvm : u.vm.Alike U.vm) (h : va_AOA t u) : va_AOA t U := by
  obtain ⟨comp, c, k, h1, h2, h3, h4, h5⟩ := arrayOver_specB h
  obtain ⟨k', hk', he⟩ := hvm.2.2 _ _ h3
  have hi : (U.vm.classes.findIdx? fun (x : Class) => match x.kind with | .array component _ => component == comp | _ => false) = some c := by
    rw [← k_idx_bare]
    first | rw [hvm.bare_eq] | rw [← hvm.bare_eq]
    rw [k_idx_bare]
    exact h2
  have hkind : k'.kind = .array comp (.array t) := by rw [he]; exact h4
  have f1 : U.vm.findClass (FieldType.array t).toString = some comp := by rw [hvm.findClass]; exact h1
  have f2 : U.vm.findClass ("[" ++ (FieldType.array t).toString) = some c := by rw [hvm.findClass]; exact h5
  unfold va_AOA Cond.before Cond.holds
  simp only [Cond.value]
  rw [f1, Option.bind_some]
  refine (congrArg (fun o : Option Nat => (o.bind (fun c => (U.vm.classes[c]?).map fun (k : Class) => match k.kind with | .array _ ty => decide (ty = FieldType.array t) && decide (U.vm.findClass ("[" ++ (FieldType.array t).toString) = some c) | _ => false) == some true)) hi).trans ?_
  simp [hk', hkind, f2]
theorem goodIn_r {big : List Cond} (ws : List Cond) (ps : List Nat) (hp : ws = ps.filterMap (fun i => big[i]?)) (h : ws.all goodWord = true) : GoodIn big ws := by
  intro w hw
  have h1 := List.all_eq_true.mp h w hw
  rw [hp] at hw
  obtain ⟨i, -, hi⟩ := List.mem_filterMap.mp hw
  have hm : w ∈ big := by first | exact List.mem_of_getElem? hi | exact List.getElem?_mem hi
  exact ⟨hm, good_of_word h1⟩
theorem goodIn_app {big a b : List Cond} (ha : GoodIn big a) (hb : GoodIn big b) : GoodIn big (a ++ b) := fun w h => (List.mem_append.mp h).elim (ha w) (hb w)
theorem goodIn_ca {big a b : List Cond} {c : Cond} (ha : GoodIn big (c :: a)) (hb : GoodIn big b) : GoodIn big (c :: (a ++ b)) := fun w h => (List.mem_cons.mp h).elim (fun e => ha w (List.mem_cons.mpr (Or.inl e))) (fun h => (List.mem_append.mp h).elim (fun h => ha w (List.mem_cons.mpr (Or.inr h))) (hb w))
theorem goodIn_sub {big ws : List Cond} (hm : ∀ w ∈ ws, w ∈ big) (h : ws.all goodWord = true) : GoodIn big ws := fun w hw => ⟨hm w hw, good_of_word (List.all_eq_true.mp h w hw)⟩
def vr_up {α : Type} (f : Nat → α) (l : List Nat) (v : α) : Nat → α := fun a => if a ∈ l then v else f a
theorem vr_up_in {α : Type} {f : Nat → α} {l : List Nat} {v : α} {a : Nat} (h : a ∈ l) : vr_up f l v a = v := if_pos h
theorem vr_up_ne {α : Type} {f : Nat → α} {l : List Nat} {v : α} {a : Nat} (h : a ∉ l) : vr_up f l v a = f a := if_neg h
theorem vr_rows {L l : List Nat} {f : Nat → va_E} {e : va_E} (h : ∀ a, a ∈ l → a ∉ L) : va_pl L f ++ l.map (fun a => (a, e)) = va_pl (L ++ l) (vr_up f l e) := by
  unfold va_pl
  rw [List.map_append]
  congr 1
  · apply List.map_congr_left
    intro a ha
    rw [vr_up_ne (fun q => h a q ha)]
  · apply List.map_congr_left
    intro a ha
    rw [vr_up_in ha]
theorem vr_lay {X rows : va_W} {x : Nat × va_E} {pl : va_W} {D : va_G} {cl : List vw_C} {H : Heap} (hP : va_P D cl (((X ++ pl) ++ [x]) ++ rows) H) : va_P D cl ((X ++ [x]) ++ (pl ++ rows)) H := by
  rw [List.append_assoc (X ++ pl)] at hP
  have h := va_P.swap hP
  rw [← List.append_assoc X] at h
  have h2 := va_P.swap h
  rw [List.append_assoc (X ++ [x])] at h2
  exact h2
theorem vr_layD {X rows : va_W} {x : Nat × va_E} {pl : va_W} {A : Nat → Prop} (hD : va_D A (((X ++ pl) ++ [x]) ++ rows)) : va_D A ((X ++ [x]) ++ (pl ++ rows)) := by
  rw [List.append_assoc (X ++ pl)] at hD
  have h := va_D.swap hD
  rw [← List.append_assoc X] at h
  have h2 := va_D.swap h
  rw [List.append_assoc (X ++ [x])] at h2
  exact h2
theorem vr_outer (c : ClassId) (N h0 : Nat) : ∀ i : Nat, Jvm.Free.Multi.outerC c N h0 i = arrV c N (fun j => va_rf (if j < i then some (h0 + 1 + j) else none))
  | 0 => by
    show ({ cls := c, slots := Array.replicate N .null, vm := .none } : Cell) = _
    rw [arrV_new]
    refine congrArg (arrV c N) (funext fun j => ?_)
    simp [va_rf]
  | i + 1 => by
    show (Jvm.Free.Multi.outerC c N h0 i).setSlot i (.ref (h0 + 1 + i)) = _
    rw [vr_outer c N h0 i, arrV_store]
    refine congrArg (arrV c N) (funext fun j => ?_)
    by_cases e : j = i
    · subst e
      simp [updV, va_rf]
    · by_cases h : j < i
      · simp [updV, e, h, Nat.lt_succ_of_lt h]
      · simp [updV, e, h, show ¬ j < i + 1 by omega]
section VGM
variable {p : Program} {l : Launch} {e : Env} {R : Room} {s : State} {m : MethodId} {args : Array Value} {below : List Frame} {meth : Method} {c : Code} {H : Heap} {locs : List Loc} {cells slots : Nat} {Q : State → Prop}
variable {cc : ByteArray} {pc : Nat} {ls : Array Slot} {rest : List Value} {D : va_G} {cl : List vw_C} {A : Nat → Prop} {a : Nat} {tys : List (ClassId × FieldType)} {ws : va_W} {H0 : Heap}
theorem va_mna {X : va_W} {L : List Nat} {f : Nat → va_E} {cc : ByteArray} (hexec : p.tables.exec = Jvm.exec) (hb : c.code = cc) {own : String} {index : Nat} {ty : FieldType} {cy : ClassId} (hown : s.vm.findClass own = some m.cls) (hclink : (Cond.classLink own index ("[" ++ (FieldType.array ty).toString)).before args s = true) (hover : va_AOA ty s) (harr : (Cond.arrayClass ty).before args s = true) (hcy : s.vm.findClass (FieldType.array ty).toString = some cy)
    (hK : va_K D cl tys s) (hP : va_P D cl (X ++ va_pl L f) H) (hD : va_D A (X ++ va_pl L f)) (hS : va_S A H0 H locs) (hA : ∀ q, H0.size ≤ q → A q) {n k : Int32} {N' K' : Nat} {z : vp_A} (hn : ¬ n < 0) (hk : ¬ k < 0) (hN : n.toNatClampNeg = N') (hM : k.toNatClampNeg = K')
    (hb1 : N' * 4 ≤ 536870912) (hb2 : K' * componentBytes ty ≤ 536870912) (hb3 : K' ≤ 536870912) (hdf : fits ty (defaultValue ty) = true) (hdd : (defaultValue ty).isDefault = true) (hcells : cells + (1 + N') ≤ R.cells) (hslots : slots + (N' + N' * K') ≤ R.slots) (hz : ∀ c : ClassId, Jvm.Free.Multi.innerC c K' (defaultValue ty) = vp_cell c z) (hdg : decode cc pc = .ok (.multianewarray index 2, 4))
    (kk : ∀ (q : Nat) (r : Nat → Nat) (cA : ClassId) (H1 : Heap), (∀ i j : Nat, i < N' → j < N' → r i = r j → i = j) → (∀ i : Nat, i < N' → r i ∉ L) → va_K D cl (tys ++ [(cA, .array ty)]) s →
      va_P D cl ((X ++ [(q, .inl (cA, N', .inr (.inr (.inr (.inr (fun i => if i < N' then some (r i) else none))))))]) ++ va_pl (L ++ (List.range N').map r) (vr_up f ((List.range N').map r) (.inl (cy, z)))) H1 → va_D A ((X ++ [(q, .inl (cA, N', .inr (.inr (.inr (.inr (fun i => if i < N' then some (r i) else none))))))]) ++ va_pl (L ++ (List.range N').map r) (vr_up f ((List.range N').map r) (.inl (cy, z)))) → va_S A H0 H1 locs →
      W p l e R s m args below meth c H1 locs (cells + 1 + N') (slots + N' + N' * K') Q (F0 m (pc + 4) ls (.ref q :: rest))) : W p l e R s m args below meth c H locs cells slots Q (F0 m pc ls (.int k :: .int n :: rest)) := by
  subst hN
  subst hM
  intro T hT Xs
  obtain ⟨vm₁, cA, comp, -, fA, fC, hO, -, X', step⟩ := Xs.multianewarray2F hexec hown hclink (va_AOA.use hover) harr (g := F0 m pc ls (.int k :: .int n :: rest)) rfl (by rw [hb]; exact hdg) rfl hn hk hb1 hb2 hb3 hdf hdd hcells hslots
  have ec : some cy = some comp := hcy.symm.trans fC
  cases ec
  generalize hF : Jvm.Free.Multi.fill (T.setVm vm₁) cA cy n.toNatClampNeg k.toNatClampNeg (defaultValue ty) n.toNatClampNeg = F at X' step
  have hTh : (T.setVm vm₁).heap = H := hT
  obtain ⟨f1, f2, -, -⟩ := Jvm.Free.Multi.fill_facts (T.setVm vm₁) cA cy n.toNatClampNeg k.toNatClampNeg (defaultValue ty) n.toNatClampNeg
  rw [hF, hTh] at f1 f2
  have hold : ∀ x : Nat, x < H.size → F.heap[x]? = H[x]? := fun x hx => by
    have := Jvm.Free.Multi.fill_old (T.setVm vm₁) cA cy n.toNatClampNeg k.toNatClampNeg (defaultValue ty) (a := x) (by rw [hTh]; exact hx) n.toNatClampNeg
    rw [hF, hTh] at this
    exact this
  have hrow : ∀ j : Nat, j < n.toNatClampNeg → F.heap[H.size + 1 + j]? = some (vp_cell cy z) := fun j hj => by
    have := Jvm.Free.Multi.fill_inner (T.setVm vm₁) cA cy n.toNatClampNeg k.toNatClampNeg (defaultValue ty) n.toNatClampNeg j hj
    rw [hF, hTh, hz] at this
    exact this
  have hout : Jvm.Free.Multi.outerC cA n.toNatClampNeg H.size n.toNatClampNeg = vp_cell cA (n.toNatClampNeg, .inr (.inr (.inr (.inr (fun i => if i < n.toNatClampNeg then some (H.size + 1 + i) else none))))) := by
    rw [vp_cell_q]
    exact vr_outer cA n.toNatClampNeg H.size n.toNatClampNeg
  rw [hout] at f2
  have hlt : ∀ a, a ∈ L → a < H.size := fun a ha => by
    obtain ⟨k9, hk9⟩ := va_pl_get (X := X) (f := f) ha
    exact (hP k9 _ hk9).lt
  have hnl : ∀ i : Nat, i < n.toNatClampNeg → H.size + 1 + i ∉ L := fun i _ h => by
    have := hlt _ h
    omega
  have hnm : ∀ a, a ∈ (List.range n.toNatClampNeg).map (fun i => H.size + 1 + i) → a ∉ L := fun a ha h => by
    obtain ⟨i, -, rfl⟩ := List.mem_map.mp ha
    have := hlt _ h
    omega
  have hP0 : va_P D cl (X ++ va_pl L f) F.heap := hP.kept (fun k9 x hx => hold x.1 ((hP k9 x hx).lt))
  have hP1 : va_P D cl ((X ++ va_pl L f) ++ [(H.size, .inl (cA, n.toNatClampNeg, .inr (.inr (.inr (.inr (fun i => if i < n.toNatClampNeg then some (H.size + 1 + i) else none))))))]) F.heap := hP0.app (fun k9 x hx => by
    have h0 : k9 < 1 := (List.getElem?_eq_some_iff.mp hx).1
    rw [show k9 = 0 by omega] at hx
    cases hx
    exact f2)
  have hP2 : va_P D cl (((X ++ va_pl L f) ++ [(H.size, .inl (cA, n.toNatClampNeg, .inr (.inr (.inr (.inr (fun i => if i < n.toNatClampNeg then some (H.size + 1 + i) else none))))))]) ++ ((List.range n.toNatClampNeg).map (fun i => H.size + 1 + i)).map (fun a => (a, .inl (cy, z)))) F.heap := hP1.app (fun k9 x hx => by
    obtain ⟨a, ha, rfl⟩ := List.mem_map.mp (List.mem_of_getElem? hx)
    obtain ⟨i, hi, rfl⟩ := List.mem_map.mp ha
    exact hrow i (List.mem_range.mp hi))
  have hD2 : va_D A (((X ++ va_pl L f) ++ [(H.size, .inl (cA, n.toNatClampNeg, .inr (.inr (.inr (.inr (fun i => if i < n.toNatClampNeg then some (H.size + 1 + i) else none))))))]) ++ ((List.range n.toNatClampNeg).map (fun i => H.size + 1 + i)).map (fun a => (a, .inl (cy, z)))) := by
    have hD1 := hD.push (e := .inl (cA, n.toNatClampNeg, .inr (.inr (.inr (.inr (fun i => if i < n.toNatClampNeg then some (H.size + 1 + i) else none)))))) hP rfl (hA _ hS.1)
    generalize hW1 : (X ++ va_pl L f) ++ [(H.size, .inl (cA, n.toNatClampNeg, .inr (.inr (.inr (.inr (fun i => if i < n.toNatClampNeg then some (H.size + 1 + i) else none))))))] = W1 at hD1 hP1 ⊢
    have hle : ∀ (k9 : Nat) (x : Nat × va_E), W1[k9]? = some x → x.1 ≤ H.size := fun k9 x hx => by
      rw [← hW1] at hx
      by_cases hl : k9 < (X ++ va_pl L f).length
      · rw [List.getElem?_append_left hl] at hx
        exact Nat.le_of_lt ((hP k9 x hx).lt)
      · rw [List.getElem?_append_right (by omega)] at hx
        have h0 : k9 - (X ++ va_pl L f).length < 1 := (List.getElem?_eq_some_iff.mp hx).1
        rw [show k9 - (X ++ va_pl L f).length = 0 by omega] at hx
        cases hx
        exact Nat.le_refl _
    have hr : ∀ (k9 : Nat) (x : Nat × va_E), (((List.range n.toNatClampNeg).map (fun i => H.size + 1 + i)).map (fun a => ((a, .inl (cy, z)) : Nat × va_E)))[k9]? = some x → x.1 = H.size + 1 + k9 := fun k9 x hx => by
      rw [List.getElem?_map, List.getElem?_map] at hx
      by_cases h9 : k9 < n.toNatClampNeg
      · rw [List.getElem?_range h9] at hx
        cases hx
        rfl
      · have hn0 : (List.range n.toNatClampNeg)[k9]? = none := List.getElem?_eq_none (by rw [List.length_range]; omega)
        rw [hn0] at hx
        cases hx
    refine ⟨fun i j x y hi hj hxy => ?_, fun k9 x hx => ?_⟩
    · by_cases h1 : i < W1.length <;> by_cases h2 : j < W1.length
      · rw [List.getElem?_append_left h1] at hi
        rw [List.getElem?_append_left h2] at hj
        exact hD1.1 i j x y hi hj hxy
      · rw [List.getElem?_append_left h1] at hi
        rw [List.getElem?_append_right (by omega)] at hj
        have := hle _ _ hi
        have := hr _ _ hj
        omega
      · rw [List.getElem?_append_right (by omega)] at hi
        rw [List.getElem?_append_left h2] at hj
        have := hle _ _ hj
        have := hr _ _ hi
        omega
      · rw [List.getElem?_append_right (by omega)] at hi hj
        have := hr _ _ hi
        have := hr _ _ hj
        omega
    · by_cases h1 : k9 < W1.length
      · rw [List.getElem?_append_left h1] at hx
        exact hD1.2 k9 x hx
      · rw [List.getElem?_append_right (by omega)] at hx
        have := hr _ _ hx
        exact hA _ (by have := hS.1; omega)
  have hAr : ArrOfT s cA (.array ty) := fun N9 z9 => by
    obtain ⟨-, k9, hk9, cm9, hkk9⟩ := (hO 0 0 0).1
    exact ⟨(fun q hq => by cases hq), k9, hk9, cm9, hkk9⟩
  have hK2 : va_K D cl (tys ++ [(cA, .array ty)]) s := ⟨hK.1, fun k9 x hx => by
    by_cases hl : k9 < tys.length
    · rw [List.getElem?_append_left hl] at hx
      exact hK.2 k9 x hx
    · rw [List.getElem?_append_right (by omega)] at hx
      have h0 : k9 - tys.length < 1 := (List.getElem?_eq_some_iff.mp hx).1
      rw [show k9 - tys.length = 0 by omega] at hx
      cases hx
      exact ⟨hAr, fA⟩⟩
  obtain ⟨t, a1, b1⟩ := kk H.size (fun i => H.size + 1 + i) cA F.heap (fun i j _ _ h => by have h9 : H.size + 1 + i = H.size + 1 + j := h; omega) hnl hK2 (by rw [← vr_rows hnm]; exact vr_lay hP2) (by rw [← vr_rows hnm]; exact vr_layD hD2) ⟨by rw [f1]; have := hS.1; omega, fun x h1 h2 => (hold x (Nat.lt_of_lt_of_le h1 hS.1)).trans (hS.2.1 x h1 h2), hS.2.2⟩ F rfl X'
  refine ⟨t, step t ?_, b1⟩
  have e : T.heap.size = H.size := by rw [hT]
  rw [e]
  exact a1
end VGM
section VXA
def vx_T (XC : String → State → State → Prop) (st : State) (q : Addr) (t : State) (mc ms : Nat) (free : Addr → Prop) : Prop :=
  ∃ (E : String) (ce : Cell) (L : List Loc), XC E st t ∧ t.heap[q]? = some ce ∧ ce.vm = .none ∧ st.vm.findClass E = some ce.cls ∧ st.WarmedH t.vm ∧ st.sameButNew ({ t with vm := st.vm } : State) L mc ms ∧ ∀ z ∈ L, free z.base
def vx_Q (Qc : Array Value → State → Outcome → State → Prop) (XC : String → State → State → Prop) (mc ms : Nat) (free : Addr → Prop) : Array Value → State → Outcome → State → Prop := fun a st o t =>
  (Qc a st o t ∧ ∃ L, FrameEnd st o t L mc ms ∧ ∀ q ∈ L, free q.base) ∨ ∃ q, o = .threw q ∧ vx_T XC st q t mc ms free
def vx_Met (l : Launch) (y : MethodName) (ws : List Cond) (rm : Room) (Pc : Array Value → State → Prop) (Qc : Array Value → State → Outcome → State → Prop) (XC : String → State → State → Prop) (mc ms : Nat) (free : Addr → Prop) : Prop :=
  MetFree l y (headSpec ws rm) Pc (fun _ _ _ _ _ => True) (vx_Q Qc XC mc ms free)
def vx_Post (XC : String → State → State → Prop) (mc ms : Nat) (free : Addr → Prop) : Pt → Array Value → Addr → Pt → Prop := fun A a q B =>
  ∃ (g : JFrame) (mk : MethodId) (t : State) (L : List Loc) (E : String) (ce : Cell), B.U.heap = t.heap ∧ B.U.vm = t.vm ∧ XC E (A.U.calling g mk a) t ∧ t.heap[q]? = some ce ∧ ce.vm = .none ∧ A.U.vm.findClass E = some ce.cls ∧ B.locs = A.locs ++ L ∧ (∀ z ∈ L, free z.base) ∧ B.cells = A.cells + mc ∧ B.slots = A.slots + ms
def vx_Back (l : Launch) (R : Room) (p : Program) (e : Env) (below : List Frame) (s : State) (sargs : Array Value) (y : MethodName) (len W9 : Nat)
    (Pre : Pt → Array Value → Prop) (Post : Pt → Array Value → Option Value → Pt → Prop) (PostX : Pt → Array Value → Addr → Pt → Prop) : Prop :=
  ∀ (m : MethodId) (meth : Method) (c : Code) (A : Pt) (g : JFrame) (ig : Instr) (mk : MethodId) (a : Array Value),
    Stand p l e R s m sargs below meth c A.U A.locs A.cells A.slots → g.method = m → g.locals.size = c.maxLocals → decode c.code g.pc = .ok (ig, len) →
    2 * g.monitorRoom + (g.stack.map fun v => v.category).sum ≤ W9 → A.U.methodNamed? y = some mk → Pre A a →
    (∃ (v : Option Value) (B : Pt), Stand p l e R s m sargs below meth c B.U B.locs B.cells B.slots ∧ Post A a v B ∧
      Steps p.tables e below (doInvoke e (A.U.setTop g) [] mk a).1 (B.U.setTop { g with pc := g.pc + len, stack := v.toList ++ g.stack })) ∨
    (∃ (q : Addr) (B : Pt), Stand p l e R s m sargs below meth c B.U B.locs B.cells B.slots ∧ PostX A a q B ∧
      Steps p.tables e below (doInvoke e (A.U.setTop g) [] mk a).1 ((B.U.setTop g).pushFrame (.throwing q)))
section Payer
variable {l : Launch} {R : Room} {p : Program} {e : Env} {below : List Frame} {s : State} {sargs : Array Value} {y : MethodName} {len W9 : Nat}
theorem vx_back {ws : List Cond} {rm : Room} {Pc : Array Value → State → Prop} {Qc : Array Value → State → Outcome → State → Prop} {XC : String → State → State → Prop} {mc ms : Nat} {free : Addr → Prop} {bytes : ByteArray} {maxL : Nat} {ret : Option FieldType}
    (hM : vx_Met l y ws rm Pc Qc XC mc ms free) (hblind : FrameBlind Pc) (hrc : rm.cells = mc) (hrs : rm.slots = ms)
    (hframes : rm.frames + 1 ≤ R.frames) (hlocals : W9 + (maxL + 11) + rm.locals ≤ R.locals)
    (hws : ∀ w ∈ ws, ∀ a' U, s.WarmedH U.vm → w.before a' U = true) (hcode : Cond.code y bytes maxL ret ∈ ws) (hinit : ∀ a' U, s.WarmedH U.vm → (Cond.initialized y.cls).before a' U = true) :
    vx_Back l R p e below s sargs y len W9 (PreOf R mc ms Pc) (PostOf Qc mc ms free) (vx_Post XC mc ms free) := by
  intro m meth c A g ig mk a X hg hsize hdg hW hn hp
  have h1 : (headSpec ws rm).pre.before a A.U = true := atoms_intro fun w hw => hws w hw _ _ X.warmed
  have h2 : (Cond.code y bytes maxL ret).before a A.U = true := hws _ hcode _ _ X.warmed
  have h3 : (Cond.initialized y.cls).before a A.U = true := hinit _ _ X.warmed
  have h4 : A.cells + (headSpec ws rm).room.cells ≤ R.cells := by rw [show (headSpec ws rm).room.cells = mc from hrc]; exact hp.1
  have h5 : A.slots + (headSpec ws rm).room.slots ≤ R.slots := by rw [show (headSpec ws rm).room.slots = ms from hrs]; exact hp.2.1
  have hPc : Pc a (A.U.calling g mk a) := hblind _ _ _ _ hp.2.2
  obtain ⟨U, Ls, c0, s0⟩ := A
  dsimp only [Pt.U, Pt.locs, Pt.cells, Pt.slots] at h1 h2 h3 h4 h5 X hn hPc ⊢
  obtain ⟨methY, cY, hmY, hcY, -, hlY, -, -, -, -⟩ := Cond.code_spec hn h2
  obtain ⟨kY, hkY, -⟩ := className_of_methodNamed hn
  have hinitY : kY.init = .initialized := Cond.initialized_spec (findClass_of_methodNamed hn) hkY h3
  have h : At U g.method c below := by rw [hg]; exact X.here
  have hlocals9 : W9 + (maxL + 11) + (headSpec ws rm).room.locals ≤ R.locals := hlocals
  have happ : (headSpec ws rm).appliesLoose y e.platform (U.calling g mk a) = true :=
    Spec.appliesLoose_calling (g := g) h hdg hn hkY hinitY
      (X.room_calling (g := g) (R' := (headSpec ws rm).room) hsize hmY hcY hframes (by rw [hlY]; omega) h4 h5) h1
  obtain ⟨mid, hmid⟩ := h.above
  have hfr : (U.setTop g).frames = (.java g :: mid) ++ below := by rw [State.frames_setTop' g h.top, hmid]; rfl
  obtain ⟨o, s₂, hsteps, -, hend, hq⟩ := Steps.callFree hM p X.admits X.cas X.clock (acts := []) hfr happ hPc trivial
  have hq' : vx_Q Qc XC mc ms free a (U.calling g mk a) o s₂ := hq
  rw [State.frames_setTop' g h.top] at hend
  obtain ⟨g₀, hg0⟩ := Option.isSome_iff_exists.mp h.top
  obtain ⟨r, hr⟩ := State.topJava?_eq_some.mp hg0
  have hr' : (({ U with heap := s₂.heap, slotsUsed := s₂.slotsUsed } : State).setVm s₂.vm).frames = .java g₀ :: r := hr
  rcases hq' with ⟨hqc, L, hfe, hL⟩ | ⟨q, rfl, E, ce, L, hx, hce, hcv, hcl, hW₂, hsm, hL⟩
  · obtain ⟨⟨v, rfl⟩, hW₂, e2, q2, q3, q4, q5, q6⟩ := id hfe
    have e3 : s₂ = ({ (U.calling g mk a).setFrames s₂.frames with heap := s₂.heap, slotsUsed := s₂.slotsUsed } : State).setVm s₂.vm := by
      have : s₂ = ({ s₂ with vm := (U.calling g mk a).vm } : State).setVm s₂.vm := rfl
      rw [e2] at this
      exact this
    obtain ⟨c₂, i₂, len₂, hc₂, hd₂, hf₂⟩ := hend
    have hW' : U.WarmedH s₂.vm := hW₂
    have hcc : c₂ = c := by
      have h1 : s₂.code? g.method = U.code? g.method := by
        rw [State.code?_eq, State.code?_eq, hW'.alike.method?]
      exact Option.some.inj (hc₂.symm.trans (h1.trans h.code))
    subst hcc
    have hlen : len₂ = len := by rw [hdg] at hd₂; cases hd₂; rfl
    subst hlen
    have hs₂ : s₂ = (({ U with heap := s₂.heap, slotsUsed := s₂.slotsUsed } : State).setVm s₂.vm).setTop { g with pc := g.pc + len₂, stack := v.toList ++ g.stack } := by
      refine e3.trans ?_
      rw [hf₂, State.calling_eq h.top, State.setFrames_setFrames, State.setTop_of_frames _ hr', hr]
      rfl
    have hsame : U.sameButNew ({ U with heap := s₂.heap, slotsUsed := s₂.slotsUsed } : State) L mc ms := by
      refine ⟨?_, q2, q3, q4, q5, q6⟩
      obtain ⟨t, ht, -⟩ := State.frames_cons hr
      show ({ U with heap := s₂.heap, slotsUsed := s₂.slotsUsed } : State) = { U.setFrames U.frames with heap := s₂.heap, slotsUsed := s₂.slotsUsed }
      rw [State.setFrames_self ht]
    subst hg
    refine Or.inl ⟨v, ⟨(({ U with heap := s₂.heap, slotsUsed := s₂.slotsUsed } : State).setVm s₂.vm), Ls ++ L, c0 + mc, s0 + ms⟩,
      ⟨X.admits, X.cas, X.clock, X.frames, X.room, X.hears, X.method, X.code, (X.here.setHeapUsed s₂.heap s₂.slotsUsed).setVm hW'.alike, X.tail, State.WarmedH.trans X.warmed hW', X.limits, X.bytes, X.same.trans (hsame.setVm s.vm)⟩,
      ⟨g, mk, s₂, L, rfl, rfl, hqc, rfl, hL, rfl, rfl⟩, ?_⟩
    show Steps p.tables e below _ ((({ U with heap := s₂.heap, slotsUsed := s₂.slotsUsed } : State).setVm s₂.vm).setTop { g with pc := g.pc + len₂, stack := v.toList ++ g.stack })
    rw [← hs₂]
    exact hsteps
  · obtain ⟨e2, q2, q3, q4, q5, q6⟩ := id hsm
    have e3 : s₂ = ({ (U.calling g mk a).setFrames s₂.frames with heap := s₂.heap, slotsUsed := s₂.slotsUsed } : State).setVm s₂.vm := by
      have : s₂ = ({ s₂ with vm := (U.calling g mk a).vm } : State).setVm s₂.vm := rfl
      rw [e2] at this
      exact this
    have hf₂ : s₂.frames = .throwing q :: .java g :: U.frames.tail := hend
    have hW' : U.WarmedH s₂.vm := hW₂
    have hs₂ : s₂ = ((({ U with heap := s₂.heap, slotsUsed := s₂.slotsUsed } : State).setVm s₂.vm).setTop g).pushFrame (.throwing q) := by
      refine e3.trans ?_
      rw [hf₂, State.calling_eq h.top, State.setFrames_setFrames, State.pushFrame, State.frames_setTop _ hr', State.setTop_of_frames _ hr', State.setFrames_setFrames, hr]
      rfl
    have hsame : U.sameButNew ({ U with heap := s₂.heap, slotsUsed := s₂.slotsUsed } : State) L mc ms := by
      refine ⟨?_, q2, q3, q4, q5, q6⟩
      obtain ⟨t, ht, -⟩ := State.frames_cons hr
      show ({ U with heap := s₂.heap, slotsUsed := s₂.slotsUsed } : State) = { U.setFrames U.frames with heap := s₂.heap, slotsUsed := s₂.slotsUsed }
      rw [State.setFrames_self ht]
    subst hg
    refine Or.inr ⟨q, ⟨(({ U with heap := s₂.heap, slotsUsed := s₂.slotsUsed } : State).setVm s₂.vm), Ls ++ L, c0 + mc, s0 + ms⟩,
      ⟨X.admits, X.cas, X.clock, X.frames, X.room, X.hears, X.method, X.code, (X.here.setHeapUsed s₂.heap s₂.slotsUsed).setVm hW'.alike, X.tail, State.WarmedH.trans X.warmed hW', X.limits, X.bytes, X.same.trans (hsame.setVm s.vm)⟩,
      ⟨g, mk, s₂, L, E, ce, rfl, rfl, hx, hce, hcv, hcl, rfl, hL, rfl, rfl⟩, ?_⟩
    show Steps p.tables e below _ (((({ U with heap := s₂.heap, slotsUsed := s₂.slotsUsed } : State).setVm s₂.vm).setTop g).pushFrame (.throwing q))
    rw [← hs₂]
    exact hsteps
end Payer
section Calls
variable {p : Program} {l : Launch} {e : Env} {R : Room} {s : State} {m : MethodId} {args : Array Value} {below : List Frame} {meth : Method} {c : Code} {T : State} {locs : List Loc} {cells slots : Nat}
theorem vx_callV (X : Stand p l e R s m args below meth c T locs cells slots) (hexec : p.tables.exec = Jvm.exec) {own C : String} {index : Nat} {y : MethodName} {bytes : ByteArray} {maxL : Nat} {ret : Option FieldType}
    (hown : s.vm.findClass own = some m.cls) (hlink : (Cond.methodLink own index y).before args s = true) (hinst : (Cond.instanceMethod y).before args s = true) (hsel : (Cond.selects C y y).before args s = true)
    (hcode : (Cond.code y bytes maxL ret).before args s = true) (hy : y.cls ≠ "java/lang/invoke/MethodHandle" ∧ y.cls ≠ "java/lang/invoke/VarHandle")
    {W9 : Nat} {Pre : Pt → Array Value → Prop} {Post : Pt → Array Value → Option Value → Pt → Prop} {PostX : Pt → Array Value → Addr → Pt → Prop} (hK : vx_Back l R p e below s args y 3 W9 Pre Post PostX)
    {b : Addr} {cellB : Cell} (hcell : T.heap[b]? = some cellB) (hobj : cellB.vm.isStatics = false) (hcls : s.vm.findClass C = some cellB.cls)
    {g : JFrame} (hg : g.method = m) (hsize : g.locals.size = c.maxLocals) {argsL rest : List Value} (hlen : ∀ sig, parseMethodDescriptor y.desc = some sig → argsL.length = sig.parameters.length)
    (hstack : g.stack = argsL.reverse ++ .ref b :: rest) (hW : 2 * g.monitorRoom + (rest.map fun v => v.category).sum ≤ W9) (hdg : decode c.code g.pc = .ok (.invokevirtual index, 3))
    (hpre : ∀ vm₁, s.WarmedH vm₁ → Pre ⟨T.setVm vm₁, locs, cells, slots⟩ (Value.ref b :: argsL).toArray) :
    (∃ (v : Option Value) (vm₁ : Vm) (B : Pt), s.WarmedH vm₁ ∧ Stand p l e R s m args below meth c B.U B.locs B.cells B.slots ∧ Post ⟨T.setVm vm₁, locs, cells, slots⟩ (Value.ref b :: argsL).toArray v B ∧
      ∀ target, Steps p.tables e below (B.U.setTop { g with pc := g.pc + 3, stack := v.toList ++ rest }) target → Steps p.tables e below (T.setTop g) target) ∨
    (∃ (q : Addr) (vm₁ : Vm) (B : Pt), s.WarmedH vm₁ ∧ Stand p l e R s m args below meth c B.U B.locs B.cells B.slots ∧ PostX ⟨T.setVm vm₁, locs, cells, slots⟩ (Value.ref b :: argsL).toArray q B ∧
      Steps p.tables e below (T.setTop g) ((B.U.setTop { g with stack := rest }).pushFrame (.throwing q))) := by
  obtain ⟨mk, methM, hnamed, hmethM, hstM, habM⟩ := Cond.instanceMethod_spec hinst
  obtain ⟨methM', cM, hmethM', -, -, -, -, -, -, hsigM⟩ := Cond.code_spec hnamed hcode
  cases hmethM.symm.trans hmethM'
  obtain ⟨c2, r2, m2, q1, q2, q3, q4, kP, hkP, hkPi⟩ := Cond.selects_spec hsel
  cases hcls.symm.trans q1
  cases (State.methodFound?_of_named hnamed hy).symm.trans q2
  cases hnamed.symm.trans q3
  have hselP : selectMethod e.platform s.vm cellB.cls mk = .method mk := by rw [Launch.admits_selectMethod X.admits]; exact q4
  obtain ⟨vm₁, X₁, hstep₁⟩ := X.invokevirtual hexec hown hlink hnamed hmethM hstM hkP hkPi hy (a := b) (cell := cellB) hcell
    (fun z h => by rw [h] at hobj; cases hobj) hselP hmethM habM hkP hkPi (g := g) hg (argsL := argsL) (rest := rest) (hlen _ hsigM) hstack hdg
  rcases hK m meth c ⟨T.setVm vm₁, locs, cells, slots⟩ { g with stack := rest } (.invokevirtual index) mk (Value.ref b :: argsL).toArray X₁ hg hsize hdg hW (X₁.named hnamed) (hpre vm₁ X₁.warmed) with ⟨v, B, X', hpost, hsteps⟩ | ⟨q, B, X', hpost, hsteps⟩
  · exact Or.inl ⟨v, vm₁, B, X₁.warmed, X', hpost, fun target h => hstep₁ _ fun acts => by rw [doInvoke_state]; exact hsteps.trans h⟩
  · exact Or.inr ⟨q, vm₁, B, X₁.warmed, X', hpost, hstep₁ _ fun acts => by rw [doInvoke_state]; exact hsteps⟩
theorem vx_callS (X : Stand p l e R s m args below meth c T locs cells slots) (hexec : p.tables.exec = Jvm.exec) {own : String} {index : Nat} {y : MethodName} {bytes : ByteArray} {maxL : Nat} {ret : Option FieldType}
    (hown : s.vm.findClass own = some m.cls) (hlink : (Cond.methodLink own index y).before args s = true) (hstat : (Cond.static y).before args s = true) (hinit : (Cond.initialized y.cls).before args s = true)
    (hcode : (Cond.code y bytes maxL ret).before args s = true) (hy : y.cls ≠ "java/lang/invoke/MethodHandle" ∧ y.cls ≠ "java/lang/invoke/VarHandle")
    {W9 : Nat} {Pre : Pt → Array Value → Prop} {Post : Pt → Array Value → Option Value → Pt → Prop} {PostX : Pt → Array Value → Addr → Pt → Prop} (hK : vx_Back l R p e below s args y 3 W9 Pre Post PostX)
    {g : JFrame} (hg : g.method = m) (hsize : g.locals.size = c.maxLocals) {argsL rest : List Value} (hlen : ∀ sig, parseMethodDescriptor y.desc = some sig → argsL.length = sig.parameters.length)
    (hstack : g.stack = argsL.reverse ++ rest) (hW : 2 * g.monitorRoom + (rest.map fun v => v.category).sum ≤ W9) (hdg : decode c.code g.pc = .ok (.invokestatic index, 3))
    (hpre : ∀ vm₁, s.WarmedH vm₁ → Pre ⟨T.setVm vm₁, locs, cells, slots⟩ argsL.toArray) :
    (∃ (v : Option Value) (vm₁ : Vm) (B : Pt), s.WarmedH vm₁ ∧ Stand p l e R s m args below meth c B.U B.locs B.cells B.slots ∧ Post ⟨T.setVm vm₁, locs, cells, slots⟩ argsL.toArray v B ∧
      ∀ target, Steps p.tables e below (B.U.setTop { g with pc := g.pc + 3, stack := v.toList ++ rest }) target → Steps p.tables e below (T.setTop g) target) ∨
    (∃ (q : Addr) (vm₁ : Vm) (B : Pt), s.WarmedH vm₁ ∧ Stand p l e R s m args below meth c B.U B.locs B.cells B.slots ∧ PostX ⟨T.setVm vm₁, locs, cells, slots⟩ argsL.toArray q B ∧
      Steps p.tables e below (T.setTop g) ((B.U.setTop { g with stack := rest }).pushFrame (.throwing q))) := by
  obtain ⟨mk, hnamed⟩ := Cond.code_named hcode
  obtain ⟨methM, cM, hmethM, -, -, -, -, -, -, hsigM⟩ := Cond.code_spec hnamed hcode
  have hstatic : methM.isStatic = true := Cond.static_spec hnamed hmethM hstat
  obtain ⟨kP, hkP, -⟩ := className_of_methodNamed hnamed
  have hinitP : kP.init = .initialized := Cond.initialized_spec (findClass_of_methodNamed hnamed) hkP hinit
  obtain ⟨vm₁, X₁, hstep₁⟩ := X.invokestatic hexec hown hlink hnamed hmethM hstatic hkP hinitP hy (g := g) hg (argsL := argsL) (rest := rest) (hlen _ hsigM) hstack hdg
  rcases hK m meth c ⟨T.setVm vm₁, locs, cells, slots⟩ { g with stack := rest } (.invokestatic index) mk argsL.toArray X₁ hg hsize hdg hW (X₁.named hnamed) (hpre vm₁ X₁.warmed) with ⟨v, B, X', hpost, hsteps⟩ | ⟨q, B, X', hpost, hsteps⟩
  · exact Or.inl ⟨v, vm₁, B, X₁.warmed, X', hpost, fun target h => hstep₁ _ fun acts => by rw [doInvoke_state]; exact hsteps.trans h⟩
  · exact Or.inr ⟨q, vm₁, B, X₁.warmed, X', hpost, hstep₁ _ fun acts => by rw [doInvoke_state]; exact hsteps⟩
end Calls
theorem vx_cls {s : State} {T : State} {vm₁ : Vm} {E : String} {k : ClassId} (hW : s.WarmedH vm₁) (h : (T.setVm vm₁).vm.findClass E = some k) : s.vm.findClass E = some k := by
  have h1 : vm₁.findClass E = some k := h
  rw [hW.alike.findClass] at h1
  exact h1
def vx_W (p : Program) (l : Launch) (e : Env) (R : Room) (s : State) (m : MethodId) (args : Array Value) (below : List Frame) (meth : Method) (c : Code) (H : Heap) (locs : List Loc) (cells slots : Nat) (Q : State → Prop) (g : JFrame) (q : Addr) : Prop :=
  ∀ T : State, T.heap = H → Stand p l e R s m args below meth c T locs cells slots → ∃ t, Steps p.tables e below ((T.setTop g).pushFrame (.throwing q)) t ∧ Q t
def vx_Run (p : Program) (l : Launch) (e : Env) (R : Room) (s : State) (m : MethodId) (args : Array Value) (below : List Frame) (meth : Method) (c : Code) (H : Heap) (locs : List Loc) (cells slots mc ms : Nat) (g : JFrame) (rest : List Value) (Qa : State → Outcome → State → Prop) (XC : String → State → State → Prop) (free : Addr → Prop) : Prop :=
  ∀ T : State, T.heap = H → Stand p l e R s m args below meth c T locs cells slots →
    (∃ (v : Option Value) (st₀ t T' : State) (L : List Loc), st₀.heap = H ∧ Stand p l e R s m args below meth c T' (locs ++ L) (cells + mc) (slots + ms) ∧ (∀ q ∈ L, free q.base) ∧ T'.heap = t.heap ∧ T'.vm = t.vm ∧ Qa st₀ (.returned v) t ∧
      Goes p e below T g T' { g with pc := g.pc + 3, stack := v.toList ++ rest }) ∨
    (∃ (q : Addr) (st₀ t T' : State) (L : List Loc) (E : String) (ce : Cell), st₀.heap = H ∧ Stand p l e R s m args below meth c T' (locs ++ L) (cells + mc) (slots + ms) ∧ (∀ z ∈ L, free z.base) ∧ T'.heap = t.heap ∧ T'.vm = t.vm ∧ XC E st₀ t ∧ t.heap[q]? = some ce ∧ ce.vm = .none ∧ s.vm.findClass E = some ce.cls ∧
      Steps p.tables e below (T.setTop g) ((T'.setTop { g with stack := rest }).pushFrame (.throwing q)))
def vx_X {S : Type} (px : S → Prop) (B : String → S → State → Prop) (A : Nat → Prop) : String → State → State → Prop := fun E st t => ∃ u : S, px u ∧ B E u t ∧ va_F A st t
section Runs
variable {p : Program} {l : Launch} {e : Env} {R : Room} {s : State} {m : MethodId} {args : Array Value} {below : List Frame} {meth : Method} {c : Code} {H : Heap} {locs : List Loc} {cells slots : Nat}
variable {y : MethodName} {bytes cc : ByteArray} {maxL nL mc ms n index : Nat} {ret : Option FieldType} {ws : List Cond} {rm : Room} {Pc : Array Value → State → Prop} {Qc : Array Value → State → Outcome → State → Prop} {XC : String → State → State → Prop} {free : Addr → Prop} {Ts : List Cond} {own C : String} {b : Addr} {As rest : List Value} {g : JFrame}
theorem vx_callBack (cb : CallB R s args own index y bytes maxL ret ws rm mc ms n) (hM : vx_Met l y ws rm Pc Qc XC mc ms free) (hbl : FrameBlind Pc) : vx_Back l R p e below s args y 3 8 (PreOf R mc ms Pc) (PostOf Qc mc ms free) (vx_Post XC mc ms free) := by
  obtain ⟨hrc, hrs, hfr, hlo, hws, hcw, -, hini, -⟩ := cb
  exact vx_back (bytes := bytes) (maxL := maxL) (ret := ret) hM hbl hrc hrs hfr hlo hws hcw (fun a' U hW => word_at hW (Or.inl (by first | rfl | simp [Cond.onTables, Cond.keeps, Cond.steady])) hini)
theorem vx_runV (S : CallFix p m c cc nL s args Ts own) (hM : vx_Met l y ws rm Pc Qc XC mc ms free) (cw : CallW R s args own C index y bytes maxL ret ws rm mc ms n) (hp : PreV s H C b Pc As)
    (hg : g.method = m) (hn : As.length = n) (hsize : g.locals.size = nL) (hstack : g.stack = As.reverse ++ .ref b :: rest) (hW : 2 * g.monitorRoom + (rest.map fun v => v.category).sum ≤ 8) (hdg : decode cc g.pc = .ok (.invokevirtual index, 3)) (hf : cells + mc ≤ R.cells ∧ slots + ms ≤ R.slots) :
    vx_Run p l e R s m args below meth c H locs cells slots mc ms g rest (Qc (Value.ref b :: As).toArray) XC free := by
  have hK : vx_Back l R p e below s args y 3 8 (PreOf R mc ms Pc) (PostOf Qc mc ms free) (vx_Post XC mc ms free) := vx_callBack cw.1 hM hp.1
  obtain ⟨⟨-, -, -, -, -, -, hcode, -, hy, hlen, hl⟩, hin, hse⟩ := cw
  obtain ⟨hx, hb, hml, ho, -⟩ := S
  obtain ⟨-, ⟨cellB, hcB, hoB, hclB⟩, hPc⟩ := hp
  intro T hT X
  rcases vx_callV X hx (C := C) (bytes := bytes) (maxL := maxL) (ret := ret) ho hl hin hse hcode hy hK (by rw [hT]; exact hcB) hoB hclB hg (hsize.trans hml.symm) (argsL := As) (rest := rest) (fun sig h => hn.trans (hlen sig h)) hstack hW (by rw [hb]; exact hdg)
    (fun vm₁ hW₁ => ⟨hf.1, hf.2, hPc (T.setVm vm₁) hT hW₁⟩) with ⟨v, vm₁, ⟨U', l2, c2, s2⟩, hW₁, X', ⟨g', mk, t, L, e1, e2, hq, h1, hL, h2, h3⟩, st⟩ | ⟨q, vm₁, ⟨U', l2, c2, s2⟩, hW₁, X', ⟨g', mk, t, L, E, ce, e1, e2, hq, hce, hcv, hcl, h1, hL, h2, h3⟩, st⟩
  · dsimp only [Pt.U, Pt.locs, Pt.cells, Pt.slots] at X' e1 e2 h1 h2 h3 st
    subst h1; subst h2; subst h3
    exact Or.inl ⟨v, (T.setVm vm₁).calling g' mk (Value.ref b :: As).toArray, t, U', L, hT, X', hL, e1, e2, hq, st⟩
  · dsimp only [Pt.U, Pt.locs, Pt.cells, Pt.slots] at X' e1 e2 h1 h2 h3 st hcl
    subst h1; subst h2; subst h3
    exact Or.inr ⟨q, (T.setVm vm₁).calling g' mk (Value.ref b :: As).toArray, t, U', L, E, ce, hT, X', hL, e1, e2, hq, hce, hcv, vx_cls hW₁ hcl, st⟩
theorem vx_runS (S : CallFix p m c cc nL s args Ts own) (hM : vx_Met l y ws rm Pc Qc XC mc ms free) (cw : CallB R s args own index y bytes maxL ret ws rm mc ms n ∧ (Cond.static y).before args s = true) (hp : PreS s H Pc As)
    (hg : g.method = m) (hn : As.length = n) (hsize : g.locals.size = nL) (hstack : g.stack = As.reverse ++ rest) (hW : 2 * g.monitorRoom + (rest.map fun v => v.category).sum ≤ 8) (hdg : decode cc g.pc = .ok (.invokestatic index, 3)) (hf : cells + mc ≤ R.cells ∧ slots + ms ≤ R.slots) :
    vx_Run p l e R s m args below meth c H locs cells slots mc ms g rest (Qc As.toArray) XC free := by
  have hK : vx_Back l R p e below s args y 3 8 (PreOf R mc ms Pc) (PostOf Qc mc ms free) (vx_Post XC mc ms free) := vx_callBack cw.1 hM hp.1
  obtain ⟨⟨-, -, -, -, -, -, hcode, hini, hy, hlen, hl⟩, hstt⟩ := cw
  obtain ⟨hx, hb, hml, ho, -⟩ := S
  intro T hT X
  rcases vx_callS X hx (bytes := bytes) (maxL := maxL) (ret := ret) ho hl hstt hini hcode hy hK hg (hsize.trans hml.symm) (argsL := As) (rest := rest) (fun sig h => hn.trans (hlen sig h)) hstack hW (by rw [hb]; exact hdg)
    (fun vm₁ hW₁ => ⟨hf.1, hf.2, hp.2 (T.setVm vm₁) hT hW₁⟩) with ⟨v, vm₁, ⟨U', l2, c2, s2⟩, hW₁, X', ⟨g', mk, t, L, e1, e2, hq, h1, hL, h2, h3⟩, st⟩ | ⟨q, vm₁, ⟨U', l2, c2, s2⟩, hW₁, X', ⟨g', mk, t, L, E, ce, e1, e2, hq, hce, hcv, hcl, h1, hL, h2, h3⟩, st⟩
  · dsimp only [Pt.U, Pt.locs, Pt.cells, Pt.slots] at X' e1 e2 h1 h2 h3 st
    subst h1; subst h2; subst h3
    exact Or.inl ⟨v, (T.setVm vm₁).calling g' mk As.toArray, t, U', L, hT, X', hL, e1, e2, hq, st⟩
  · dsimp only [Pt.U, Pt.locs, Pt.cells, Pt.slots] at X' e1 e2 h1 h2 h3 st hcl
    subst h1; subst h2; subst h3
    exact Or.inr ⟨q, (T.setVm vm₁).calling g' mk As.toArray, t, U', L, E, ce, hT, X', hL, e1, e2, hq, hce, hcv, vx_cls hW₁ hcl, st⟩
end Runs
section Rows
variable {p : Program} {l : Launch} {e : Env} {R : Room} {s : State} {m : MethodId} {args : Array Value} {below : List Frame} {meth : Method} {c : Code} {H : Heap} {locs : List Loc} {cells slots : Nat} {Q : State → Prop}
variable {mc ms : Nat} {free : Addr → Prop} {A0 A1 : Nat → Prop} {H0 : Heap} {a : Array Value} {pc : Nat} {ls : Array Slot} {st0 rest : List Value}
theorem vx_keep {st₀ t T' : State} {L : List Loc} (h0 : st₀.heap = H) (e1 : T'.heap = t.heap) (hS : va_S A0 H0 H locs) (hA : ∀ q, q < H.size → A1 q → A0 q) (hf : ∀ q, free q → A0 q) (hL : ∀ q ∈ L, free q.base) (hF : va_F A1 st₀ t) :
    H.size ≤ T'.heap.size ∧ (∀ q : Nat, q < H.size → ¬ A1 q → T'.heap[q]? = H[q]?) ∧ va_S A0 H0 T'.heap (locs ++ L) := by
  obtain ⟨hz, hk⟩ := hF
  rw [h0] at hz hk
  exact ⟨by rw [e1]; exact hz, fun q h1 h2 => by rw [e1]; exact hk q h1 h2,
    ⟨Nat.le_trans hS.1 (by rw [e1]; exact hz), fun q h1 h2 => by rw [e1, hk q (Nat.lt_of_lt_of_le h1 hS.1) (fun z => h2 (hA q (Nat.lt_of_lt_of_le h1 hS.1) z))]; exact hS.2.1 q h1 h2, fun q hq => by
      rcases List.mem_append.mp hq with h | h
      · exact hS.2.2 q h
      · exact hf _ (hL q h)⟩⟩
theorem vx_calli {S SX : Type} {post : Int32 → S → Prop} {px : SX → Prop} {B : S → State → Prop} {BX : String → SX → State → Prop} {AX : Nat → Prop} (hr : vx_Run p l e R s m args below meth c H locs cells slots mc ms (F0 m pc ls st0) rest (va_Qi post B A1 a) (vx_X px BX AX) free) (hS : va_S A0 H0 H locs) (hA : ∀ q, q < H.size → A1 q → A0 q) (hf : ∀ q, free q → A0 q) (hAX : ∀ q, q < H.size → AX q → A0 q)
    (kx : ∀ (E : String) (ce : Cell) (q9 : Addr) (u : SX) (t : State) (H1 : Heap) (locs1 : List Loc), t.heap = H1 → s.vm.Alike t.vm → px u → BX E u t → H.size ≤ H1.size → (∀ q : Nat, q < H.size → ¬ AX q → H1[q]? = H[q]?) → va_S A0 H0 H1 locs1 → H1[q9]? = some ce → ce.vm = .none → s.vm.findClass E = some ce.cls → vx_W p l e R s m args below meth c H1 locs1 (cells + mc) (slots + ms) Q (F0 m pc ls rest) q9)
    (kk : ∀ (r : Int32) (u : S) (t : State) (H1 : Heap) (locs1 : List Loc), t.heap = H1 → s.vm.Alike t.vm → post r u → B u t → H.size ≤ H1.size → (∀ q : Nat, q < H.size → ¬ A1 q → H1[q]? = H[q]?) → va_S A0 H0 H1 locs1 → W p l e R s m args below meth c H1 locs1 (cells + mc) (slots + ms) Q (F0 m (pc + 3) ls (.int r :: rest))) : W p l e R s m args below meth c H locs cells slots Q (F0 m pc ls st0) := by
  intro T hT X
  rcases hr T hT X with ⟨v, st₀, t, T', L, h0, X', hL, e1, e2, ⟨⟨r, u, hv, hp, hb⟩, hF⟩, st⟩ | ⟨q, st₀, t, T', L, E, ce, h0, X', hL, e1, e2, ⟨u, hp, hb, hF⟩, hce, hcv, hcl, st⟩
  · cases hv
    obtain ⟨k1, k2, k3⟩ := vx_keep h0 e1 hS hA hf hL hF
    obtain ⟨t2, a1, b1⟩ := kk r u t T'.heap (locs ++ L) e1.symm (by rw [← e2]; exact X'.warmed.alike) hp hb k1 k2 k3 T' rfl X'
    exact ⟨t2, st t2 a1, b1⟩
  · obtain ⟨k1, k2, k3⟩ := vx_keep h0 e1 hS hAX hf hL hF
    obtain ⟨t2, a1, b1⟩ := kx E ce q u t T'.heap (locs ++ L) e1.symm (by rw [← e2]; exact X'.warmed.alike) hp hb k1 k2 k3 (by rw [e1]; exact hce) hcv hcl T' rfl X'
    exact ⟨t2, st.trans a1, b1⟩
theorem vx_calll {S SX : Type} {post : Int64 → S → Prop} {px : SX → Prop} {B : S → State → Prop} {BX : String → SX → State → Prop} {AX : Nat → Prop} (hr : vx_Run p l e R s m args below meth c H locs cells slots mc ms (F0 m pc ls st0) rest (va_Ql post B A1 a) (vx_X px BX AX) free) (hS : va_S A0 H0 H locs) (hA : ∀ q, q < H.size → A1 q → A0 q) (hf : ∀ q, free q → A0 q) (hAX : ∀ q, q < H.size → AX q → A0 q)
    (kx : ∀ (E : String) (ce : Cell) (q9 : Addr) (u : SX) (t : State) (H1 : Heap) (locs1 : List Loc), t.heap = H1 → s.vm.Alike t.vm → px u → BX E u t → H.size ≤ H1.size → (∀ q : Nat, q < H.size → ¬ AX q → H1[q]? = H[q]?) → va_S A0 H0 H1 locs1 → H1[q9]? = some ce → ce.vm = .none → s.vm.findClass E = some ce.cls → vx_W p l e R s m args below meth c H1 locs1 (cells + mc) (slots + ms) Q (F0 m pc ls rest) q9)
    (kk : ∀ (r : Int64) (u : S) (t : State) (H1 : Heap) (locs1 : List Loc), t.heap = H1 → s.vm.Alike t.vm → post r u → B u t → H.size ≤ H1.size → (∀ q : Nat, q < H.size → ¬ A1 q → H1[q]? = H[q]?) → va_S A0 H0 H1 locs1 → W p l e R s m args below meth c H1 locs1 (cells + mc) (slots + ms) Q (F0 m (pc + 3) ls (.long r :: rest))) : W p l e R s m args below meth c H locs cells slots Q (F0 m pc ls st0) := by
  intro T hT X
  rcases hr T hT X with ⟨v, st₀, t, T', L, h0, X', hL, e1, e2, ⟨⟨r, u, hv, hp, hb⟩, hF⟩, st⟩ | ⟨q, st₀, t, T', L, E, ce, h0, X', hL, e1, e2, ⟨u, hp, hb, hF⟩, hce, hcv, hcl, st⟩
  · cases hv
    obtain ⟨k1, k2, k3⟩ := vx_keep h0 e1 hS hA hf hL hF
    obtain ⟨t2, a1, b1⟩ := kk r u t T'.heap (locs ++ L) e1.symm (by rw [← e2]; exact X'.warmed.alike) hp hb k1 k2 k3 T' rfl X'
    exact ⟨t2, st t2 a1, b1⟩
  · obtain ⟨k1, k2, k3⟩ := vx_keep h0 e1 hS hAX hf hL hF
    obtain ⟨t2, a1, b1⟩ := kx E ce q u t T'.heap (locs ++ L) e1.symm (by rw [← e2]; exact X'.warmed.alike) hp hb k1 k2 k3 (by rw [e1]; exact hce) hcv hcl T' rfl X'
    exact ⟨t2, st.trans a1, b1⟩
theorem vx_callf {S SX : Type} {post : UInt32 → S → Prop} {px : SX → Prop} {B : S → State → Prop} {BX : String → SX → State → Prop} {AX : Nat → Prop} (hr : vx_Run p l e R s m args below meth c H locs cells slots mc ms (F0 m pc ls st0) rest (va_Qf post B A1 a) (vx_X px BX AX) free) (hS : va_S A0 H0 H locs) (hA : ∀ q, q < H.size → A1 q → A0 q) (hf : ∀ q, free q → A0 q) (hAX : ∀ q, q < H.size → AX q → A0 q)
    (kx : ∀ (E : String) (ce : Cell) (q9 : Addr) (u : SX) (t : State) (H1 : Heap) (locs1 : List Loc), t.heap = H1 → s.vm.Alike t.vm → px u → BX E u t → H.size ≤ H1.size → (∀ q : Nat, q < H.size → ¬ AX q → H1[q]? = H[q]?) → va_S A0 H0 H1 locs1 → H1[q9]? = some ce → ce.vm = .none → s.vm.findClass E = some ce.cls → vx_W p l e R s m args below meth c H1 locs1 (cells + mc) (slots + ms) Q (F0 m pc ls rest) q9)
    (kk : ∀ (r : UInt32) (u : S) (t : State) (H1 : Heap) (locs1 : List Loc), t.heap = H1 → s.vm.Alike t.vm → post r u → B u t → H.size ≤ H1.size → (∀ q : Nat, q < H.size → ¬ A1 q → H1[q]? = H[q]?) → va_S A0 H0 H1 locs1 → W p l e R s m args below meth c H1 locs1 (cells + mc) (slots + ms) Q (F0 m (pc + 3) ls (.float r :: rest))) : W p l e R s m args below meth c H locs cells slots Q (F0 m pc ls st0) := by
  intro T hT X
  rcases hr T hT X with ⟨v, st₀, t, T', L, h0, X', hL, e1, e2, ⟨⟨r, u, hv, hp, hb⟩, hF⟩, st⟩ | ⟨q, st₀, t, T', L, E, ce, h0, X', hL, e1, e2, ⟨u, hp, hb, hF⟩, hce, hcv, hcl, st⟩
  · cases hv
    obtain ⟨k1, k2, k3⟩ := vx_keep h0 e1 hS hA hf hL hF
    obtain ⟨t2, a1, b1⟩ := kk r u t T'.heap (locs ++ L) e1.symm (by rw [← e2]; exact X'.warmed.alike) hp hb k1 k2 k3 T' rfl X'
    exact ⟨t2, st t2 a1, b1⟩
  · obtain ⟨k1, k2, k3⟩ := vx_keep h0 e1 hS hAX hf hL hF
    obtain ⟨t2, a1, b1⟩ := kx E ce q u t T'.heap (locs ++ L) e1.symm (by rw [← e2]; exact X'.warmed.alike) hp hb k1 k2 k3 (by rw [e1]; exact hce) hcv hcl T' rfl X'
    exact ⟨t2, st.trans a1, b1⟩
theorem vx_calld {S SX : Type} {post : UInt64 → S → Prop} {px : SX → Prop} {B : S → State → Prop} {BX : String → SX → State → Prop} {AX : Nat → Prop} (hr : vx_Run p l e R s m args below meth c H locs cells slots mc ms (F0 m pc ls st0) rest (va_Qd post B A1 a) (vx_X px BX AX) free) (hS : va_S A0 H0 H locs) (hA : ∀ q, q < H.size → A1 q → A0 q) (hf : ∀ q, free q → A0 q) (hAX : ∀ q, q < H.size → AX q → A0 q)
    (kx : ∀ (E : String) (ce : Cell) (q9 : Addr) (u : SX) (t : State) (H1 : Heap) (locs1 : List Loc), t.heap = H1 → s.vm.Alike t.vm → px u → BX E u t → H.size ≤ H1.size → (∀ q : Nat, q < H.size → ¬ AX q → H1[q]? = H[q]?) → va_S A0 H0 H1 locs1 → H1[q9]? = some ce → ce.vm = .none → s.vm.findClass E = some ce.cls → vx_W p l e R s m args below meth c H1 locs1 (cells + mc) (slots + ms) Q (F0 m pc ls rest) q9)
    (kk : ∀ (r : UInt64) (u : S) (t : State) (H1 : Heap) (locs1 : List Loc), t.heap = H1 → s.vm.Alike t.vm → post r u → B u t → H.size ≤ H1.size → (∀ q : Nat, q < H.size → ¬ A1 q → H1[q]? = H[q]?) → va_S A0 H0 H1 locs1 → W p l e R s m args below meth c H1 locs1 (cells + mc) (slots + ms) Q (F0 m (pc + 3) ls (.double r :: rest))) : W p l e R s m args below meth c H locs cells slots Q (F0 m pc ls st0) := by
  intro T hT X
  rcases hr T hT X with ⟨v, st₀, t, T', L, h0, X', hL, e1, e2, ⟨⟨r, u, hv, hp, hb⟩, hF⟩, st⟩ | ⟨q, st₀, t, T', L, E, ce, h0, X', hL, e1, e2, ⟨u, hp, hb, hF⟩, hce, hcv, hcl, st⟩
  · cases hv
    obtain ⟨k1, k2, k3⟩ := vx_keep h0 e1 hS hA hf hL hF
    obtain ⟨t2, a1, b1⟩ := kk r u t T'.heap (locs ++ L) e1.symm (by rw [← e2]; exact X'.warmed.alike) hp hb k1 k2 k3 T' rfl X'
    exact ⟨t2, st t2 a1, b1⟩
  · obtain ⟨k1, k2, k3⟩ := vx_keep h0 e1 hS hAX hf hL hF
    obtain ⟨t2, a1, b1⟩ := kx E ce q u t T'.heap (locs ++ L) e1.symm (by rw [← e2]; exact X'.warmed.alike) hp hb k1 k2 k3 (by rw [e1]; exact hce) hcv hcl T' rfl X'
    exact ⟨t2, st.trans a1, b1⟩
theorem vx_callv {S SX : Type} {post : S → Prop} {px : SX → Prop} {B : S → State → Prop} {BX : String → SX → State → Prop} {AX : Nat → Prop} (hr : vx_Run p l e R s m args below meth c H locs cells slots mc ms (F0 m pc ls st0) rest (va_Qv post B A1 a) (vx_X px BX AX) free) (hS : va_S A0 H0 H locs) (hA : ∀ q, q < H.size → A1 q → A0 q) (hf : ∀ q, free q → A0 q) (hAX : ∀ q, q < H.size → AX q → A0 q)
    (kx : ∀ (E : String) (ce : Cell) (q9 : Addr) (u : SX) (t : State) (H1 : Heap) (locs1 : List Loc), t.heap = H1 → s.vm.Alike t.vm → px u → BX E u t → H.size ≤ H1.size → (∀ q : Nat, q < H.size → ¬ AX q → H1[q]? = H[q]?) → va_S A0 H0 H1 locs1 → H1[q9]? = some ce → ce.vm = .none → s.vm.findClass E = some ce.cls → vx_W p l e R s m args below meth c H1 locs1 (cells + mc) (slots + ms) Q (F0 m pc ls rest) q9)
    (kk : ∀ (u : S) (t : State) (H1 : Heap) (locs1 : List Loc), t.heap = H1 → s.vm.Alike t.vm → post u → B u t → H.size ≤ H1.size → (∀ q : Nat, q < H.size → ¬ A1 q → H1[q]? = H[q]?) → va_S A0 H0 H1 locs1 → W p l e R s m args below meth c H1 locs1 (cells + mc) (slots + ms) Q (F0 m (pc + 3) ls (rest))) : W p l e R s m args below meth c H locs cells slots Q (F0 m pc ls st0) := by
  intro T hT X
  rcases hr T hT X with ⟨v, st₀, t, T', L, h0, X', hL, e1, e2, ⟨⟨u, hv, hp, hb⟩, hF⟩, st⟩ | ⟨q, st₀, t, T', L, E, ce, h0, X', hL, e1, e2, ⟨u, hp, hb, hF⟩, hce, hcv, hcl, st⟩
  · cases hv
    obtain ⟨k1, k2, k3⟩ := vx_keep h0 e1 hS hA hf hL hF
    obtain ⟨t2, a1, b1⟩ := kk u t T'.heap (locs ++ L) e1.symm (by rw [← e2]; exact X'.warmed.alike) hp hb k1 k2 k3 T' rfl X'
    exact ⟨t2, st t2 a1, b1⟩
  · obtain ⟨k1, k2, k3⟩ := vx_keep h0 e1 hS hAX hf hL hF
    obtain ⟨t2, a1, b1⟩ := kx E ce q u t T'.heap (locs ++ L) e1.symm (by rw [← e2]; exact X'.warmed.alike) hp hb k1 k2 k3 (by rw [e1]; exact hce) hcv hcl T' rfl X'
    exact ⟨t2, st.trans a1, b1⟩
theorem vx_catch {own name : String} {E : String} {ce : Cell} {q : Addr} (hown : s.vm.findClass own = some m.cls) (pre : List ExceptionTableEntry) (x : ExceptionTableEntry) (suf : List ExceptionTableEntry) (hsplit : c.exceptionTable.toList = pre ++ x :: suf)
    (hpass : ∀ z ∈ pre, covers z pc = false ∨ (z.catchType ≠ 0 ∧ ∃ nm : String, (Cond.classLink own z.catchType nm).before args s = true ∧ va_Nc E nm s)) (hx : covers x pc = true) (h0 : x.catchType ≠ 0)
    (hlink : (Cond.classLink own x.catchType name).before args s = true) (hcast : (Cond.castable E name).before args s = true) (hcell : H[q]? = some ce) (hv : ce.vm = .none) (hcl : s.vm.findClass E = some ce.cls)
    (kk : W p l e R s m args below meth c H locs cells slots Q (F0 m x.handlerPc ls [.ref q])) : vx_W p l e R s m args below meth c H locs cells slots Q (F0 m pc ls rest) q := by
  intro T hT X
  have hpl : e.platform.magicAccessors = ({} : Platform).magicAccessors := by rw [X.admits.platform]
  obtain ⟨c3, c4, hc3, hc4, hasg⟩ := Cond.castable_spec hcast
  cases Option.some.inj (hc3.symm.trans hcl)
  obtain ⟨c5, hc5, hcl5⟩ := Cond.classLink_spec hown hlink e.platform hpl
  cases Option.some.inj (hc4.symm.trans hc5)
  obtain ⟨vm', X', st⟩ := X.thenCaughtThrough q (g := F0 m pc ls rest) rfl (Steps.refl _) (by rw [hT]; exact hcell) (by rw [hv]; rfl) (by obtain ⟨k9, h9, -⟩ := Vm.findClass_spec hcl; exact ⟨k9, h9⟩) pre x suf hsplit
    (fun z hz => by
      rcases hpass z hz with h | ⟨hz0, nm, hl1, hn1⟩
      · exact Or.inl h
      · obtain ⟨c6, hc6, hcl6⟩ := Cond.classLink_spec hown hl1 e.platform hpl
        obtain ⟨a8, b8, h1, h2, h3⟩ := hn1
        cases Option.some.inj (h1.symm.trans hcl)
        cases Option.some.inj (h2.symm.trans hc6)
        exact Or.inr ⟨hz0, _, hcl6, h3⟩) hx (Or.inr ⟨h0, c4, hcl5, hasg⟩)
  obtain ⟨t, a1, b1⟩ := kk (T.setVm vm') hT X'
  exact ⟨t, st.trans a1, b1⟩
end Rows
section Ends
variable {p : Program} {l : Launch} {e : Env} {R : Room} {s : State} {m : MethodId} {args : Array Value} {below : List Frame} {meth : Method} {c : Code} {H : Heap} {locs : List Loc} {cells slots : Nat} {Q : State → Prop}
variable {mc ms : Nat} {free : Addr → Prop} {A0 A1 : Nat → Prop} {H0 : Heap} {a : Array Value} {ls : Array Slot} {st0 rest : List Value}
variable {Qc : Array Value → State → Outcome → State → Prop} {XC : String → State → State → Prop}
def vx_MQ (below : List Frame) (Qc : Array Value → State → Outcome → State → Prop) (XC : String → State → State → Prop) (a : Array Value) (s : State) (mc ms : Nat) (free : Addr → Prop) : State → Prop := fun t =>
  ∃ o, t.status = .running ∧ Ended t below o ∧ vx_Q Qc XC mc ms free a s o t
theorem vx_ret {g : JFrame} {mc ms : Nat} (k : W p l e R s m args below meth c H locs cells slots (MQ below Qc args s mc ms free) g) : W p l e R s m args below meth c H locs cells slots (vx_MQ below Qc XC args s mc ms free) g := by
  intro T hT X
  obtain ⟨t, a1, o, b1, b2, b3, b4⟩ := k T hT X
  exact ⟨t, a1, o, b1, b2, Or.inl ⟨b3, b4⟩⟩
theorem vx_widen {g : JFrame} {q : Addr} {k n : Nat} (h1 : cells ≤ k) (h2 : slots ≤ n) (kk : vx_W p l e R s m args below meth c H locs k n Q g q) : vx_W p l e R s m args below meth c H locs cells slots Q g q := fun T hT X => kk T hT (stand_widen X h1 h2)
theorem vx_out {pc : Nat} {E : String} {ce : Cell} {q : Addr} {mc ms : Nat} (hout : ∀ x ∈ c.exceptionTable.toList, covers x pc = false) (hlocks : meth.locks = false) (hcell : H[q]? = some ce) (hv : ce.vm = .none) (hcl : s.vm.findClass E = some ce.cls)
    (hx : ∀ t : State, t.heap = H → s.vm.Alike t.vm → XC E s t) (hf : ∀ z ∈ locs, free z.base) (hc : cells ≤ mc) (hs : slots ≤ ms) :
    vx_W p l e R s m args below meth c H locs cells slots (vx_MQ below Qc XC args s mc ms free) (F0 m pc ls rest) q := by
  intro T hT X
  obtain ⟨st1, hrun, hend, hW, hsm⟩ := X.leaveThrown q (g := F0 m pc ls rest) rfl rfl rfl hout hlocks
  have hcell9 : (T.setFrames (.throwing q :: below)).heap[q]? = some ce := by
    show T.heap[q]? = some ce
    rw [hT]; exact hcell
  exact ⟨_, st1, .threw q, hrun, hend, Or.inr ⟨q, rfl, E, ce, locs, hx _ hT hW.alike, hcell9, hv, hcl, hW, hsm.mono hc hs, hf⟩⟩
theorem vx_frame {U : State} {k n : Nat} (h : s.sameButNew ({ U with vm := s.vm } : State) locs k n) : s.heap.size ≤ U.heap.size ∧ ∀ q : Nat, q < s.heap.size → (∀ z ∈ locs, z.base ≠ q) → U.heap[q]? = s.heap[q]? := by
  obtain ⟨-, h2, -, -, -, h6⟩ := h
  refine ⟨h2, fun q hq hz => ?_⟩
  obtain ⟨c9, e1, e2, e3, e4⟩ := h6 q _ (Array.getElem?_eq_getElem hq)
  have hs : c9.slots = (s.heap[q]).slots := Array.ext_getElem? fun i => e4 i fun hm => hz _ hm rfl
  have h9 : c9 = s.heap[q] := by
    rw [hs] at e2
    exact e2
  have e5 : U.heap[q]? = some c9 := e1
  rw [e5, h9, Array.getElem?_eq_getElem hq]
def vx_no (w : Cond) : Bool := decide (w ≠ .isRef (.static Bundle.tN "UNASSIGNED_STACK" Bundle.steD)) && decide (w ≠ .isRef (.static Bundle.tN "SUPPRESSED_SENTINEL" Bundle.listD)) && decide (w ≠ .laysStatic Bundle.tN "UNASSIGNED_STACK" Bundle.steD) && decide (w ≠ .laysStatic Bundle.tN "SUPPRESSED_SENTINEL" Bundle.listD)
def vx_at0 (own : String) (ic : Nat) (X : String) (names : List String) : List Cond := (Bundle.ownAtoms0 own ic X names).filter vx_no
def vx_atS (own : String) (ic : Nat) (X : String) (names : List String) : List Cond := (Bundle.ownAtoms own ic X names).filter vx_no
def vx_ot (w : Cond) : Bool := w.onTables || goodWord w
theorem vx_ot_at {args a' : Array Value} {s U : State} {w : Cond} (hW : s.WarmedH U.vm) (hvm : s.vm = U.vm) (hg : vx_ot w = true) (h : w.before args s = true) : w.before a' U = true := by
  simp only [vx_ot, Bool.or_eq_true] at hg
  rcases hg with hg | hg
  · exact va_tabs hg hvm h
  · exact word_at hW (good_of_word hg) h
theorem vx_hat {args : Array Value} {s : State} {L B : List Cond} (h1 : ∀ w ∈ L.filter goodWord, w.before args s = true) (h2 : ∀ w ∈ L.filter (fun w => !goodWord w), w ∈ B) (h3 : ∀ w ∈ B, w.before args s = true) : ∀ w ∈ L, w.before args s = true := by
  intro w hw
  by_cases g : goodWord w = true
  · exact h1 w (List.mem_filter.mpr ⟨hw, g⟩)
  · refine h3 w (h2 w (List.mem_filter.mpr ⟨hw, ?_⟩))
    show (!goodWord w) = true
    cases hgw : goodWord w
    · rfl
    · exact absurd hgw g
theorem vx_c {args : Array Value} {s : State} {w : Cond} {B : List Cond} (h : w.before args s = true) (t : ∀ w ∈ B, w.before args s = true) : ∀ w' ∈ w :: B, w'.before args s = true := fun w' h' => (List.mem_cons.mp h').elim (fun e => by rw [e]; exact h) (t w')
theorem vx_n {args : Array Value} {s : State} : ∀ w ∈ ([] : List Cond), w.before args s = true := fun _ h => nomatch h
theorem vx_own {args : Array Value} {s : State} {L : List Cond} (h1 : ∀ w ∈ L.filter vx_no, w.before args s = true)
    (hU : (Cond.isRef (.static Bundle.tN "UNASSIGNED_STACK" Bundle.steD)).before args s = true) (hN : (Cond.isRef (.static Bundle.tN "SUPPRESSED_SENTINEL" Bundle.listD)).before args s = true)
    (lU : (Cond.laysStatic Bundle.tN "UNASSIGNED_STACK" Bundle.steD).before args s = true) (lN : (Cond.laysStatic Bundle.tN "SUPPRESSED_SENTINEL" Bundle.listD).before args s = true) : ∀ w ∈ L, w.before args s = true := by
  intro w hw
  by_cases e1 : w = .isRef (.static Bundle.tN "UNASSIGNED_STACK" Bundle.steD)
  · rw [e1]; exact hU
  · by_cases e2 : w = .isRef (.static Bundle.tN "SUPPRESSED_SENTINEL" Bundle.listD)
    · rw [e2]; exact hN
    · by_cases e3 : w = .laysStatic Bundle.tN "UNASSIGNED_STACK" Bundle.steD
      · rw [e3]; exact lU
      · by_cases e4 : w = .laysStatic Bundle.tN "SUPPRESSED_SENTINEL" Bundle.listD
        · rw [e4]; exact lN
        · exact h1 w (List.mem_filter.mpr ⟨hw, by unfold vx_no; rw [decide_eq_true e1, decide_eq_true e2, decide_eq_true e3, decide_eq_true e4]; rfl⟩)
def vx_L (C n d : String) (A : Nat → Prop) (U : State) (H : Heap) : Prop := ∃ (c : ClassId) (k : Class) (i : Nat) (f : Field) (a : Nat) (cell : Cell), U.vm.findClass C = some c ∧ U.fieldFound? C n d = some (c, k, i, f) ∧ f.isStatic = true ∧ k.statics = some a ∧ H[a]? = some cell ∧ cell.vm.isStatics = true ∧ cell.cls = c ∧ f.slot < cell.slots.size ∧ k.staticTypes[f.slot]? = some f.type ∧ ¬ A a
theorem vx_L.moved {C n d : String} {A : Nat → Prop} {u U : State} {H : Heap} (hvm : u.vm.Alike U.vm) (h : vx_L C n d A u H) : vx_L C n d A U H := by
  obtain ⟨c, k, i, f, a, cell, h1, h2, h3, h4, h5, h6, h7, h8, h9, h10⟩ := h
  obtain ⟨k', hi', he⟩ := State.fieldFound?_setVm hvm h2
  exact ⟨c, k', i, f, a, cell, by rw [hvm.findClass]; exact h1, hi', h3, by rw [he]; exact h4, h5, h6, h7, h8, by rw [he]; exact h9, h10⟩
theorem vx_L.kept {C n d : String} {A : Nat → Prop} {U : State} {H H1 : Heap} (h : vx_L C n d A U H) (hq : ∀ a : Nat, a < H.size → ¬ A a → H1[a]? = H[a]?) : vx_L C n d A U H1 := by
  obtain ⟨c, k, i, f, a, cell, h1, h2, h3, h4, h5, h6, h7, h8, h9, h10⟩ := h
  exact ⟨c, k, i, f, a, cell, h1, h2, h3, h4, by rw [hq a (Array.getElem?_eq_some_iff.mp h5).1 h10]; exact h5, h6, h7, h8, h9, h10⟩
theorem vx_L.narrow {C n d : String} {A B : Nat → Prop} {U : State} {H : Heap} (h : vx_L C n d A U H) (hAB : ∀ q, B q → A q) : vx_L C n d B U H := by
  obtain ⟨c, k, i, f, a, cell, h1, h2, h3, h4, h5, h6, h7, h8, h9, h10⟩ := h
  exact ⟨c, k, i, f, a, cell, h1, h2, h3, h4, h5, h6, h7, h8, h9, fun z => h10 (hAB _ z)⟩
theorem vx_L.word {C n d : String} {A : Nat → Prop} {s : State} {args : Array Value} (h : vx_L C n d A s s.heap) : (Cond.laysStatic C n d).before args s = true := by
  obtain ⟨c, k, i, f, a, cell, h1, h2, h3, h4, h5, h6, h7, h8, h9, -⟩ := h
  show (Cond.laysStatic C n d).holds args s none s [] = true
  exact Cond.laysStatic_of h1 h2 h3 h4 h5 h6 h7 h8 h9
def vx_Zq (C n d : String) (A : Nat → Prop) (U : State) (H : Heap) : Prop := va_Zq C n d A U H ∧ vx_L C n d A U H
theorem vx_Zq.moved {C n d : String} {A : Nat → Prop} {u U : State} {H : Heap} (hvm : u.vm.Alike U.vm) (h : vx_Zq C n d A u H) : vx_Zq C n d A U H := ⟨va_Zq.moved hvm h.1, vx_L.moved hvm h.2⟩
theorem vx_Zq.kept {C n d : String} {A : Nat → Prop} {U : State} {H H1 : Heap} (h : vx_Zq C n d A U H) (hq : ∀ a : Nat, a < H.size → ¬ A a → H1[a]? = H[a]?) : vx_Zq C n d A U H1 := ⟨va_Zq.kept h.1 hq, vx_L.kept h.2 hq⟩
theorem vx_Zq.narrow {C n d : String} {A B : Nat → Prop} {U : State} {H : Heap} (h : vx_Zq C n d A U H) (hAB : ∀ q, B q → A q) : vx_Zq C n d B U H := ⟨va_Zq.narrow h.1 hAB, vx_L.narrow h.2 hAB⟩
theorem vx_Zqof {args : Array Value} {s : State} {C n d : String} {A : Nat → Prop} (hl : (Cond.laysStatic C n d).before args s = true) (hini : (Cond.initialized C).before args s = true) (h : (Cond.isRef (.static C n d)).before args s = true) (hA : ∀ a : Nat, a < s.heap.size → ¬ A a) : vx_Zq C n d A s s.heap := by
  refine ⟨va_Zqof hl hini h hA, ?_⟩
  obtain ⟨c, k, i, f, a, cell, h1, h2, h3, h4, h5, h6, h7, h8, h9⟩ := Cond.laysStatic_spec hl
  exact ⟨c, k, i, f, a, cell, h1, h2, h3, h4, h5, h6, h7, h8, h9, hA a (Array.getElem?_eq_some_iff.mp h5).1⟩
theorem vx_isRef {C n d : String} {v : Value} {A : Nat → Prop} {s : State} {args : Array Value} (h : va_Z C n d v A s s.heap) (hv : v.isRef = true) : (Cond.isRef (.static C n d)).before args s = true := by
  obtain ⟨cf, kf, fi, f, a, cell, h1, h2, h3, h4, h5, h6, h7, -⟩ := h
  have he : (Term.static C n d).eval args s none [] s = some v := by
    simp [Term.eval, State.fieldNamed?, h1, h2, h4, h5, h6, h7]
  simp only [Cond.before, Cond.holds, Cond.value, he]
  cases v <;> simp_all [Value.isRef]
theorem vx_isRefq {C n d : String} {A : Nat → Prop} {s : State} {args : Array Value} (h : va_Zq C n d A s s.heap) : (Cond.isRef (.static C n d)).before args s = true := by
  rcases h with h | ⟨t, h⟩
  · exact vx_isRef h rfl
  · exact vx_isRef h rfl
theorem vx_rebase {T : State} (X : Stand p l e R s m args below meth c T locs cells slots) {R' : Room} (hf : R'.frames ≤ R.frames) (hl : R'.locals ≤ R.locals) (hc : cells + R'.cells ≤ R.cells) (hs : slots + R'.slots ≤ R.slots) :
    Stand p l e R' ((T.setVm s.vm).setFrames (.invoking m args :: below)) m args below meth c T [] 0 0 := by
  have htop : (T.setVm s.vm).topJava?.isSome := X.here.top
  have hF : ((T.setVm s.vm).setFrames (.invoking m args :: below)).frames = .invoking m args :: below := State.frames_setFrames _ (State.cur_lt_of_top htop)
  obtain ⟨g₀, hg0⟩ := Option.isSome_iff_exists.mp htop
  obtain ⟨r, hr⟩ := State.topJava?_eq_some.mp hg0
  have hl9 : e.platform.stackLimits (T.setVm s.vm).me = e.platform.stackLimits s.me := X.limits
  have hb9 : (T.setVm s.vm).me.stackBytes = s.me.stackBytes := X.bytes
  refine ⟨X.admits, X.cas, X.clock, hF, ?_, X.hears, X.method, X.code, X.here, X.tail, X.warmed, ?_, ?_, ?_⟩
  · have h := X.room
    have hU : ((T.setVm s.vm).setFrames (.invoking m args :: below)).localsInUse = s.localsInUse := by
      rw [State.localsInUse_invoking hF (meth := meth) (c := c) X.method X.code, State.localsInUse_invoking X.frames X.method X.code]
    simp only [State.hasRoom, Bool.and_eq_true, decide_eq_true_eq] at h ⊢
    obtain ⟨⟨⟨⟨h1, h2, h3, h4, h5, h6⟩, h7⟩, h8⟩, h9⟩ := h
    rw [X.frames, List.length_cons] at h2 h3
    have q1 := X.heapSize
    have q2 := X.used
    simp only [hF, hU, List.length_cons, State.stackLimits_setFrames, State.stackBytes_setFrames, hl9, hb9]
    refine ⟨⟨⟨⟨by omega, by omega, by omega, by omega, by omega, h6⟩, ?_⟩, ?_⟩, X.book⟩
    · show T.heap.size + R'.cells ≤ e.platform.maxCells
      omega
    · show T.slotsUsed + R'.slots ≤ e.platform.maxSlots
      omega
  · rw [State.stackLimits_setFrames]; rfl
  · rw [State.stackBytes_setFrames]; rfl
  · refine ⟨?_, Nat.le_refl _, Nat.le_refl _, ?_, ?_, fun a c9 h9 => ⟨c9, h9, rfl, rfl, fun _ _ => rfl⟩⟩
    · obtain ⟨t, ht, -⟩ := State.frames_cons hr
      show T.setVm s.vm = { ((T.setVm s.vm).setFrames (.invoking m args :: below)).setFrames (T.setVm s.vm).frames with heap := T.heap, slotsUsed := T.slotsUsed }
      rw [State.setFrames_setFrames, State.setFrames_self ht]
      rfl
    · show T.slotsUsed = T.slotsUsed + ((T.heap.toList.drop T.heap.size).map (·.slots.size)).sum
      rw [List.drop_eq_nil_of_le (Nat.le_of_eq Array.length_toList)]
      rfl
    · show ((T.heap.toList.drop T.heap.size).map (·.slots.size)).sum ≤ 0
      rw [List.drop_eq_nil_of_le (Nat.le_of_eq Array.length_toList)]
      exact Nat.le_refl _
theorem vx_throw0 {cc : ByteArray} {pc : Nat} (hexec : p.tables.exec = Jvm.exec) (hb : c.code = cc) (hl : l.stackTraces = false) {own cls : String} {names : List String} {ik ic mc ms : Nat} {A : Nat → Prop}
    (hown : s.vm.findClass own = some m.cls) (hcls : Bundle.fit cls = true) (hnames : ∀ n ∈ names, Bundle.fit n = true)
    (hk : (Cond.classLink own ik cls).before args s = true) (hini : (Cond.initialized cls).before args s = true) (hat : ∀ w ∈ vx_at0 own ic cls names, w.before args s = true)
    (hgood : ∀ w ∈ Cond.classLink own ik cls :: Cond.initialized cls :: vx_at0 own ic cls names, vx_ot w = true)
    (hU : vx_Zq Bundle.tN "UNASSIGNED_STACK" Bundle.steD A s s.heap) (hN : vx_Zq Bundle.tN "SUPPRESSED_SENTINEL" Bundle.listD A s s.heap) (hS : va_S A s.heap H locs) (hsize : ls.size = c.maxLocals)
    (d0 : decode cc pc = .ok (.new ik, 3)) (d3 : decode cc (pc + 3) = .ok (.dup, 1)) (d4 : decode cc (pc + 4) = .ok (.invokespecial ic, 3)) (d7 : decode cc (pc + 7) = .ok (.athrow, 1))
    (hout : ∀ x ∈ c.exceptionTable.toList, covers x (pc + 7) = false)
    (hRframes : names.length + 3 < R.frames) (hRlocals : (rest.map fun v => v.category).sum + (13 * (names.length + 1) + 42) ≤ R.locals) (hRcells : cells + 1 ≤ R.cells) (hRslots : slots + 6 ≤ R.slots) (hlocks : meth.locks = false)
    (hx : ∀ t : State, s.vm.Alike t.vm → H.size ≤ t.heap.size → (∀ q : Nat, q < H.size → t.heap[q]? = H[q]?) → XC cls s t)
    (hf : ∀ z ∈ locs, free z.base) (hc : cells + 1 ≤ mc) (hs : slots + 6 ≤ ms) :
    W p l e R s m args below meth c H locs cells slots (vx_MQ below Qc XC args s mc ms free) (F0 m pc ls rest) := by
  intro T hT X
  have htr : e.platform.stackTraces = false := (show e.platform.stackTraces = l.stackTraces by rw [X.admits.platform]).trans hl
  have Y := vx_rebase X (R' := { frames := R.frames, locals := R.locals, cells := 1, slots := 6 }) (Nat.le_refl _) (Nat.le_refl _) hRcells hRslots
  obtain ⟨s', hA⟩ : ∃ z, z = (T.setVm s.vm).setFrames (.invoking m args :: below) := ⟨_, rfl⟩
  rw [← hA] at Y
  have hvm : s'.vm = s.vm := by rw [hA]; rfl
  have hhp : s'.heap = H := by rw [hA]; exact hT
  have hW0 : s.WarmedH s'.vm := by rw [hvm]; exact State.WarmedH.refl s
  have hat' : ∀ w ∈ vx_at0 own ic cls names, w.before args s' = true := fun w hw => vx_ot_at hW0 hvm.symm (hgood w (List.mem_cons_of_mem _ (List.mem_cons_of_mem _ hw))) (hat w hw)
  have hk' : (Cond.classLink own ik cls).before args s' = true := vx_ot_at hW0 hvm.symm (hgood _ List.mem_cons_self) hk
  have hini' : (Cond.initialized cls).before args s' = true := vx_ot_at hW0 hvm.symm (hgood _ (List.mem_cons_of_mem _ List.mem_cons_self)) hini
  have hU' : vx_Zq Bundle.tN "UNASSIGNED_STACK" Bundle.steD A s' s'.heap := by rw [hhp]; exact vx_Zq.moved hW0.alike (hU.kept hS.2.1)
  have hN' : vx_Zq Bundle.tN "SUPPRESSED_SENTINEL" Bundle.listD A s' s'.heap := by rw [hhp]; exact vx_Zq.moved hW0.alike (hN.kept hS.2.1)
  have h : ∀ w ∈ Bundle.ownAtoms0 own ic cls names, w.before args s' = true := vx_own hat' (vx_isRefq hU'.1) (vx_isRefq hN'.1) hU'.2.word hN'.2.word
  have hown' : s'.vm.findClass own = some m.cls := by rw [hvm]; exact hown
  have hins : (Cond.instantiable cls 6).before args s' = true := h _ (by simp [Bundle.ownAtoms0])
  obtain ⟨vm₁, cX, kX, hfX, hkX, -, -, X₁, st1⟩ := Y.newCold hexec (own := own) (C := cls) (index := ik) (n := 6) hown' hk' hins hini'
    (g := F0 m pc ls rest) rfl (by rw [hb]; exact d0) (Nat.le_refl _) (Nat.le_refl _)
  generalize hT1 : (T.setVm vm₁).pushCell { cls := cX, slots := kX.instanceTypes.map defaultValue, vm := .none } = T1 at X₁ st1
  have hcat : (Value.ref T.heap.size).category = 1 := rfl
  have hcellA : T1.heap[T.heap.size]? = some (freshCell cX kX) := by rw [← hT1]; exact State.heap_pushCell_size _ _
  have d3' : decode c.code (pc + 3) = .ok (.dup, 1) := by rw [hb]; exact d3
  obtain ⟨U, hsteps, hrun, hend, hW, hsame, ce, hce, hO⟩ := X₁.ctorThrow0 hexec htr (own := own) (cls := cls) (names := names) (ic := ic) hown' hcls hnames h (fun x hx => nomatch hx) hfX hkX hcellA (by rw [hhp, hT]; exact Nat.le_refl _)
    (g := { method := m, pc := pc + 4, locals := ls, stack := .ref T.heap.size :: .ref T.heap.size :: rest, locked := none }) rfl hsize rfl rfl (rest := rest) rfl
    (by rw [hb]; exact d4) (by rw [hb]; exact d7) hout hRframes (by simp only [List.map_cons, List.sum_cons, hcat]; omega) hlocks
  obtain ⟨f1, f2⟩ := vx_frame hsame
  rw [hhp] at f1 f2
  have hWs : s.WarmedH U.vm := State.WarmedH.trans hW0 hW
  have hcl : s.vm.findClass cls = some ce.cls := by
    have h9 := hO.cls
    rw [hvm] at h9
    exact h9
  have hall : s.sameButNew ({ U with vm := s.vm } : State) locs mc ms := by
    subst hA
    obtain ⟨e1, e2⟩ := hsame
    rw [State.setFrames_setFrames] at e1
    have h2 : (T.setVm s.vm).sameButNew ({ U with vm := s.vm } : State) [] (0 + 1) (0 + 6) := ⟨e1, e2⟩
    have h3 := X.same.trans h2
    rw [List.append_nil] at h3
    exact h3.mono hc hs
  refine ⟨U, ?_, .threw T.heap.size, hrun, hend, Or.inr ⟨T.heap.size, rfl, cls, ce, locs, hx U hWs.alike f1 (fun q hq => f2 q hq (fun z hz => nomatch hz)), hce, hO.vm, hcl, hWs, hall, hf⟩⟩
  refine st1 _ ?_
  show Steps p.tables e below (T1.setTop { method := m, pc := pc + 3, locals := ls, stack := .ref T.heap.size :: rest, locked := none }) _
  jvm_step X₁.here [X₁.here.top, hexec, d3', Value.category]
  exact hsteps
theorem vx_throwS {cc : ByteArray} {pc : Nat} (hexec : p.tables.exec = Jvm.exec) (hb : c.code = cc) (hl : l.stackTraces = false) {own cls text : String} {names : List String} {ik is ic mc ms sa : Nat} {A : Nat → Prop}
    (hown : s.vm.findClass own = some m.cls) (hcls : Bundle.fit cls = true) (hnames : ∀ n ∈ names, Bundle.fit n = true)
    (hk : (Cond.classLink own ik cls).before args s = true) (hini : (Cond.initialized cls).before args s = true) (hstr : vk_R own is text sa s) (hat : ∀ w ∈ vx_atS own ic cls names, w.before args s = true)
    (hgood : ∀ w ∈ Cond.classLink own ik cls :: Cond.initialized cls :: vx_atS own ic cls names, vx_ot w = true)
    (hU : vx_Zq Bundle.tN "UNASSIGNED_STACK" Bundle.steD A s s.heap) (hN : vx_Zq Bundle.tN "SUPPRESSED_SENTINEL" Bundle.listD A s s.heap) (hS : va_S A s.heap H locs) (hsize : ls.size = c.maxLocals)
    (d0 : decode cc pc = .ok (.new ik, 3)) (d3 : decode cc (pc + 3) = .ok (.dup, 1)) (d4 : decode cc (pc + 4) = .ok (.ldc is, 2)) (d6 : decode cc (pc + 6) = .ok (.invokespecial ic, 3)) (d9 : decode cc (pc + 9) = .ok (.athrow, 1))
    (hout : ∀ x ∈ c.exceptionTable.toList, covers x (pc + 9) = false)
    (hRframes : names.length + 3 < R.frames) (hRlocals : (rest.map fun v => v.category).sum + (13 * (names.length + 1) + 43) ≤ R.locals) (hRcells : cells + 1 ≤ R.cells) (hRslots : slots + 6 ≤ R.slots) (hlocks : meth.locks = false)
    (hx : ∀ t : State, s.vm.Alike t.vm → H.size ≤ t.heap.size → (∀ q : Nat, q < H.size → t.heap[q]? = H[q]?) → XC cls s t)
    (hf : ∀ z ∈ locs, free z.base) (hc : cells + 1 ≤ mc) (hs : slots + 6 ≤ ms) :
    W p l e R s m args below meth c H locs cells slots (vx_MQ below Qc XC args s mc ms free) (F0 m pc ls rest) := by
  intro T hT X
  have htr : e.platform.stackTraces = false := (show e.platform.stackTraces = l.stackTraces by rw [X.admits.platform]).trans hl
  have Y := vx_rebase X (R' := { frames := R.frames, locals := R.locals, cells := 1, slots := 6 }) (Nat.le_refl _) (Nat.le_refl _) hRcells hRslots
  obtain ⟨s', hA⟩ : ∃ z, z = (T.setVm s.vm).setFrames (.invoking m args :: below) := ⟨_, rfl⟩
  rw [← hA] at Y
  have hvm : s'.vm = s.vm := by rw [hA]; rfl
  have hhp : s'.heap = H := by rw [hA]; exact hT
  have hW0 : s.WarmedH s'.vm := by rw [hvm]; exact State.WarmedH.refl s
  have hat' : ∀ w ∈ vx_atS own ic cls names, w.before args s' = true := fun w hw => vx_ot_at hW0 hvm.symm (hgood w (List.mem_cons_of_mem _ (List.mem_cons_of_mem _ hw))) (hat w hw)
  have hk' : (Cond.classLink own ik cls).before args s' = true := vx_ot_at hW0 hvm.symm (hgood _ List.mem_cons_self) hk
  have hini' : (Cond.initialized cls).before args s' = true := vx_ot_at hW0 hvm.symm (hgood _ (List.mem_cons_of_mem _ List.mem_cons_self)) hini
  have hU' : vx_Zq Bundle.tN "UNASSIGNED_STACK" Bundle.steD A s' s'.heap := by rw [hhp]; exact vx_Zq.moved hW0.alike (hU.kept hS.2.1)
  have hN' : vx_Zq Bundle.tN "SUPPRESSED_SENTINEL" Bundle.listD A s' s'.heap := by rw [hhp]; exact vx_Zq.moved hW0.alike (hN.kept hS.2.1)
  have h : ∀ w ∈ Bundle.ownAtoms own ic cls names, w.before args s' = true := vx_own hat' (vx_isRefq hU'.1) (vx_isRefq hN'.1) hU'.2.word hN'.2.word
  have hown' : s'.vm.findClass own = some m.cls := by rw [hvm]; exact hown
  have hins : (Cond.instantiable cls 6).before args s' = true := h _ (by simp [Bundle.ownAtoms])
  obtain ⟨vm₁, cX, kX, hfX, hkX, -, -, X₁, st1⟩ := Y.newCold hexec (own := own) (C := cls) (index := ik) (n := 6) hown' hk' hins hini'
    (g := F0 m pc ls rest) rfl (by rw [hb]; exact d0) (Nat.le_refl _) (Nat.le_refl _)
  generalize hT1 : (T.setVm vm₁).pushCell { cls := cX, slots := kX.instanceTypes.map defaultValue, vm := .none } = T1 at X₁ st1
  have hcat : (Value.ref T.heap.size).category = 1 := rfl
  have hcellA : T1.heap[T.heap.size]? = some (freshCell cX kX) := by rw [← hT1]; exact State.heap_pushCell_size _ _
  have d3' : decode c.code (pc + 3) = .ok (.dup, 1) := by rw [hb]; exact d3
  have d4' : decode c.code (pc + 4) = .ok (.ldc is, 2) := by rw [hb]; exact d4
  have hstr' : vk_R own is text sa s' := vk_R.warm hW0 hstr
  obtain ⟨U, hsteps, hrun, hend, hW, hsame, ce, hce, hO⟩ := X₁.ctorThrowS hexec htr (own := own) (cls := cls) (names := names) (ic := ic) hown' hcls hnames h (fun x hx => nomatch hx) hfX hkX hcellA (by rw [hhp, hT]; exact Nat.le_refl _) (msg := .ref sa) rfl
    (g := { method := m, pc := pc + 6, locals := ls, stack := .ref sa :: .ref T.heap.size :: .ref T.heap.size :: rest, locked := none }) rfl hsize rfl rfl (rest := rest) rfl
    (by rw [hb]; exact d6) (by rw [hb]; exact d9) hout hRframes (by simp only [List.map_cons, List.sum_cons, hcat]; omega) hlocks
  obtain ⟨f1, f2⟩ := vx_frame hsame
  rw [hhp] at f1 f2
  have hWs : s.WarmedH U.vm := State.WarmedH.trans hW0 hW
  have hcl : s.vm.findClass cls = some ce.cls := by
    have h9 := hO.cls
    rw [hvm] at h9
    exact h9
  have hall : s.sameButNew ({ U with vm := s.vm } : State) locs mc ms := by
    subst hA
    obtain ⟨e1, e2⟩ := hsame
    rw [State.setFrames_setFrames] at e1
    have h2 : (T.setVm s.vm).sameButNew ({ U with vm := s.vm } : State) [] (0 + 1) (0 + 6) := ⟨e1, e2⟩
    have h3 := X.same.trans h2
    rw [List.append_nil] at h3
    exact h3.mono hc hs
  refine ⟨U, ?_, .threw T.heap.size, hrun, hend, Or.inr ⟨T.heap.size, rfl, cls, ce, locs, hx U hWs.alike f1 (fun q hq => f2 q hq (fun z hz => nomatch hz)), hce, hO.vm, hcl, hWs, hall, hf⟩⟩
  refine st1 _ ?_
  show Steps p.tables e below (T1.setTop { method := m, pc := pc + 3, locals := ls, stack := .ref T.heap.size :: rest, locked := none }) _
  jvm_step X₁.here [X₁.here.top, hexec, d3', Value.category]
  exact X₁.ldcString hexec (own := own) (text := text) (index := is) (a := sa) hown' hstr'.1 hstr'.2
    (g := { method := m, pc := pc + 4, locals := ls, stack := .ref T.heap.size :: .ref T.heap.size :: rest, locked := none }) rfl d4' _ hsteps
theorem vx_throwSW {cc : ByteArray} {pc : Nat} (hexec : p.tables.exec = Jvm.exec) (hb : c.code = cc) (hl : l.stackTraces = false) {own cls text : String} {names : List String} {ik is ic mc ms sa : Nat} {A : Nat → Prop}
    (hown : s.vm.findClass own = some m.cls) (hcls : Bundle.fit cls = true) (hnames : ∀ n ∈ names, Bundle.fit n = true)
    (hk : (Cond.classLink own ik cls).before args s = true) (hini : (Cond.initialized cls).before args s = true) (hstr : vk_R own is text sa s) (hat : ∀ w ∈ vx_atS own ic cls names, w.before args s = true)
    (hgood : ∀ w ∈ Cond.classLink own ik cls :: Cond.initialized cls :: vx_atS own ic cls names, vx_ot w = true)
    (hU : vx_Zq Bundle.tN "UNASSIGNED_STACK" Bundle.steD A s s.heap) (hN : vx_Zq Bundle.tN "SUPPRESSED_SENTINEL" Bundle.listD A s s.heap) (hS : va_S A s.heap H locs) (hsize : ls.size = c.maxLocals)
    (d0 : decode cc pc = .ok (.new ik, 3)) (d3 : decode cc (pc + 3) = .ok (.dup, 1)) (d4 : decode cc (pc + 4) = .ok (.ldc_w is, 3)) (d7 : decode cc (pc + 7) = .ok (.invokespecial ic, 3)) (d10 : decode cc (pc + 10) = .ok (.athrow, 1))
    (hout : ∀ x ∈ c.exceptionTable.toList, covers x (pc + 10) = false)
    (hRframes : names.length + 3 < R.frames) (hRlocals : (rest.map fun v => v.category).sum + (13 * (names.length + 1) + 43) ≤ R.locals) (hRcells : cells + 1 ≤ R.cells) (hRslots : slots + 6 ≤ R.slots) (hlocks : meth.locks = false)
    (hx : ∀ t : State, s.vm.Alike t.vm → H.size ≤ t.heap.size → (∀ q : Nat, q < H.size → t.heap[q]? = H[q]?) → XC cls s t)
    (hf : ∀ z ∈ locs, free z.base) (hc : cells + 1 ≤ mc) (hs : slots + 6 ≤ ms) :
    W p l e R s m args below meth c H locs cells slots (vx_MQ below Qc XC args s mc ms free) (F0 m pc ls rest) := by
  intro T hT X
  have htr : e.platform.stackTraces = false := (show e.platform.stackTraces = l.stackTraces by rw [X.admits.platform]).trans hl
  have Y := vx_rebase X (R' := { frames := R.frames, locals := R.locals, cells := 1, slots := 6 }) (Nat.le_refl _) (Nat.le_refl _) hRcells hRslots
  obtain ⟨s', hA⟩ : ∃ z, z = (T.setVm s.vm).setFrames (.invoking m args :: below) := ⟨_, rfl⟩
  rw [← hA] at Y
  have hvm : s'.vm = s.vm := by rw [hA]; rfl
  have hhp : s'.heap = H := by rw [hA]; exact hT
  have hW0 : s.WarmedH s'.vm := by rw [hvm]; exact State.WarmedH.refl s
  have hat' : ∀ w ∈ vx_atS own ic cls names, w.before args s' = true := fun w hw => vx_ot_at hW0 hvm.symm (hgood w (List.mem_cons_of_mem _ (List.mem_cons_of_mem _ hw))) (hat w hw)
  have hk' : (Cond.classLink own ik cls).before args s' = true := vx_ot_at hW0 hvm.symm (hgood _ List.mem_cons_self) hk
  have hini' : (Cond.initialized cls).before args s' = true := vx_ot_at hW0 hvm.symm (hgood _ (List.mem_cons_of_mem _ List.mem_cons_self)) hini
  have hU' : vx_Zq Bundle.tN "UNASSIGNED_STACK" Bundle.steD A s' s'.heap := by rw [hhp]; exact vx_Zq.moved hW0.alike (hU.kept hS.2.1)
  have hN' : vx_Zq Bundle.tN "SUPPRESSED_SENTINEL" Bundle.listD A s' s'.heap := by rw [hhp]; exact vx_Zq.moved hW0.alike (hN.kept hS.2.1)
  have h : ∀ w ∈ Bundle.ownAtoms own ic cls names, w.before args s' = true := vx_own hat' (vx_isRefq hU'.1) (vx_isRefq hN'.1) hU'.2.word hN'.2.word
  have hown' : s'.vm.findClass own = some m.cls := by rw [hvm]; exact hown
  have hins : (Cond.instantiable cls 6).before args s' = true := h _ (by simp [Bundle.ownAtoms])
  obtain ⟨vm₁, cX, kX, hfX, hkX, -, -, X₁, st1⟩ := Y.newCold hexec (own := own) (C := cls) (index := ik) (n := 6) hown' hk' hins hini'
    (g := F0 m pc ls rest) rfl (by rw [hb]; exact d0) (Nat.le_refl _) (Nat.le_refl _)
  generalize hT1 : (T.setVm vm₁).pushCell { cls := cX, slots := kX.instanceTypes.map defaultValue, vm := .none } = T1 at X₁ st1
  have hcat : (Value.ref T.heap.size).category = 1 := rfl
  have hcellA : T1.heap[T.heap.size]? = some (freshCell cX kX) := by rw [← hT1]; exact State.heap_pushCell_size _ _
  have d3' : decode c.code (pc + 3) = .ok (.dup, 1) := by rw [hb]; exact d3
  have d4' : decode c.code (pc + 4) = .ok (.ldc_w is, 3) := by rw [hb]; exact d4
  have hstr' : vk_R own is text sa s' := vk_R.warm hW0 hstr
  obtain ⟨U, hsteps, hrun, hend, hW, hsame, ce, hce, hO⟩ := X₁.ctorThrowS hexec htr (own := own) (cls := cls) (names := names) (ic := ic) hown' hcls hnames h (fun x hx => nomatch hx) hfX hkX hcellA (by rw [hhp, hT]; exact Nat.le_refl _) (msg := .ref sa) rfl
    (g := { method := m, pc := pc + 7, locals := ls, stack := .ref sa :: .ref T.heap.size :: .ref T.heap.size :: rest, locked := none }) rfl hsize rfl rfl (rest := rest) rfl
    (by rw [hb]; exact d7) (by rw [hb]; exact d10) hout hRframes (by simp only [List.map_cons, List.sum_cons, hcat]; omega) hlocks
  obtain ⟨f1, f2⟩ := vx_frame hsame
  rw [hhp] at f1 f2
  have hWs : s.WarmedH U.vm := State.WarmedH.trans hW0 hW
  have hcl : s.vm.findClass cls = some ce.cls := by
    have h9 := hO.cls
    rw [hvm] at h9
    exact h9
  have hall : s.sameButNew ({ U with vm := s.vm } : State) locs mc ms := by
    subst hA
    obtain ⟨e1, e2⟩ := hsame
    rw [State.setFrames_setFrames] at e1
    have h2 : (T.setVm s.vm).sameButNew ({ U with vm := s.vm } : State) [] (0 + 1) (0 + 6) := ⟨e1, e2⟩
    have h3 := X.same.trans h2
    rw [List.append_nil] at h3
    exact h3.mono hc hs
  refine ⟨U, ?_, .threw T.heap.size, hrun, hend, Or.inr ⟨T.heap.size, rfl, cls, ce, locs, hx U hWs.alike f1 (fun q hq => f2 q hq (fun z hz => nomatch hz)), hce, hO.vm, hcl, hWs, hall, hf⟩⟩
  refine st1 _ ?_
  show Steps p.tables e below (T1.setTop { method := m, pc := pc + 3, locals := ls, stack := .ref T.heap.size :: rest, locked := none }) _
  jvm_step X₁.here [X₁.here.top, hexec, d3', Value.category]
  exact X₁.ldcStringW hexec (own := own) (text := text) (index := is) (a := sa) hown' hstr'.1 hstr'.2
    (g := { method := m, pc := pc + 4, locals := ls, stack := .ref T.heap.size :: .ref T.heap.size :: rest, locked := none }) rfl d4' _ hsteps
end Ends
section Bodies
variable {l : Launch}
theorem vx_ofW {y : MethodName} {ws ws' : List Cond} {rm : Room} {Pc : Array Value → State → Prop} {Qc : Array Value → State → Outcome → State → Prop} {XC : String → State → State → Prop} {mc ms : Nat} {free : Addr → Prop} {cc : ByteArray} {maxL : Nat} {ret : Option FieldType}
    (hy : plainName y.cls = true) (hw : ws = Cond.code y cc maxL ret :: ws')
    (body : ∀ p e s m args below meth c s₁, BodyLoose p l y (headSpec ws rm) cc maxL ret e s m args below meth c s₁ → c.maxLocals = maxL → (∀ x ∈ c.exceptionTable.toList, False) → Pc args s →
      W p l e (headSpec ws rm).room s m args below meth c s.heap [] 0 0 (vx_MQ below Qc XC args s mc ms free) (entryFrame m args maxL)) : vx_Met l y ws rm Pc Qc XC mc ms free := by
  refine MetFree.of_bodyS (code := cc) (maxLocals := maxL) (ret := ret) hy ?_ ?_
  · intro args s m h hn
    obtain ⟨meth, c, h1, h2, h3, h4, h5, h6, -, -⟩ := Cond.code_spec hn (atoms_spec (ws := ws) h _ (by rw [hw]; exact List.mem_cons_self))
    exact ⟨meth, c, h1, h2, h3, h4, h5, h6⟩
  · intro p e s m args below meth c s₁ B hml hP _
    have hh0 : s₁.heap = s.heap := by rw [B.state]; rfl
    have ht : ∀ x ∈ c.exceptionTable.toList, False := by
      obtain ⟨meth9, c9, h1, h2, -, -, -, -, h7, -⟩ := Cond.code_spec B.named (atoms_spec (ws := ws) B.pre _ (by rw [hw]; exact List.mem_cons_self))
      cases Option.some.inj (h1.symm.trans B.method)
      cases Option.some.inj (h2.symm.trans (Stand.of_body B).code)
      intro x hx
      rw [Array.isEmpty_iff.mp h7] at hx
      cases hx
    obtain ⟨t, a1, o, b1, b2, b3⟩ := body p e s m args below meth c s₁ B hml ht hP s₁ hh0 (Stand.of_body B)
    exact ⟨t, o, a1, b1, b2, b3⟩
theorem vx_table {p : Program} {x y : MethodName} {S : Spec} {cc bytes : ByteArray} {maxL maxL' : Nat} {ret ret' : Option FieldType} {e : Env} {s s₁ : State} {m : MethodId} {args : Array Value} {below : List Frame} {meth : Method} {c : Code} {hh : List (Nat × Nat × Nat × Nat)}
    (B : BodyLoose p l y S cc maxL ret e s m args below meth c s₁) (h : (Cond.codeWith y bytes maxL' ret' hh).before args s = true) : c.exceptionTable.toList = tableOf hh := by
  obtain ⟨m9, meth9, c9, hn9, h1, h2, -, -, h6, -⟩ := Cond.codeWith_spec h
  cases Option.some.inj (hn9.symm.trans B.named)
  cases Option.some.inj (h1.symm.trans B.method)
  cases Option.some.inj (h2.symm.trans (Stand.of_body B).code)
  rw [← h6, table_eq]
end Bodies
end VXA
section VXS
variable {p : Program} {l : Launch} {e : Env} {R : Room} {s : State} {m : MethodId} {args : Array Value} {below : List Frame} {meth : Method} {c : Code} {T : State} {H : Heap} {locs : List Loc} {cells slots : Nat}
abbrev vx_CSW (R : Room) (s : State) (args : Array Value) (own : String) (index : Nat) (y : MethodName) (bytes : ByteArray) (maxL : Nat) (ret : Option FieldType) (hh : List (Nat × Nat × Nat × Nat)) (ws : List Cond) (rm : Room) (mc ms n : Nat) : Prop :=
  (rm.cells = mc ∧ rm.slots = ms ∧ rm.frames + 1 ≤ R.frames ∧ 8 + (maxL + 11) + rm.locals ≤ R.locals ∧ (∀ w ∈ ws, ∀ (a' : Array Value) (U : State), s.WarmedH U.vm → w.before a' U = true) ∧ Cond.codeWith y bytes maxL ret hh ∈ ws) ∧
  (Cond.codeWith y bytes maxL ret hh).before args s = true ∧ (Cond.initialized y.cls).before args s = true ∧ (y.cls ≠ "java/lang/invoke/MethodHandle" ∧ y.cls ≠ "java/lang/invoke/VarHandle") ∧
  (∀ sig, parseMethodDescriptor y.desc = some sig → n = sig.parameters.length) ∧ (Cond.methodLink own index y).before args s = true ∧ (Cond.static y).before args s = true
theorem vx_cwSW {own : String} {index maxL mc ms : Nat} {y : MethodName} {bytes : ByteArray} {ret : Option FieldType} {hh : List (Nat × Nat × Nat × Nat)} {Ts ws ws' : List Cond} {rm : Room} (n : Nat) (ht : ∀ w ∈ Ts, w.before args s = true) (hT : GoodIn Ts (va_wsS own index y ws)) (hw : ws = Cond.codeWith y bytes maxL ret hh :: ws') (hrc : rm.cells = mc) (hrs : rm.slots = ms)
    (hd : y.cls ≠ "java/lang/invoke/MethodHandle" ∧ y.cls ≠ "java/lang/invoke/VarHandle" ∧ (parseMethodDescriptor y.desc).map (fun d => d.parameters.length) = some n) (hR : rm.frames + 1 ≤ R.frames ∧ 8 + (maxL + 11) + rm.locals ≤ R.locals) :
    vx_CSW R s args own index y bytes maxL ret hh ws rm mc ms n := by
  have ok : ∀ w ∈ va_wsS own index y ws, w.before args s = true := fun w h => ht w (hT w h).1
  have hG : GoodIn Ts ws := fun w h => hT w (by unfold va_wsS; exact List.mem_append_right _ h)
  have hc : Cond.codeWith y bytes maxL ret hh ∈ ws := by rw [hw]; exact List.mem_cons_self
  refine ⟨⟨hrc, hrs, hR.1, hR.2, pay_in ht hG, hc⟩, ht _ (hG _ hc).1, ok _ (by simp [va_wsS]), ⟨hd.1, hd.2.1⟩, fun sig h => ?_, ok _ (by simp [va_wsS]), ok _ (by simp [va_wsS])⟩
  have h2 := hd.2.2
  rw [h] at h2
  exact (Option.some.inj h2).symm
theorem vx_callSW (X : Stand p l e R s m args below meth c T locs cells slots) (hexec : p.tables.exec = Jvm.exec) {own : String} {index : Nat} {y : MethodName} {bytes : ByteArray} {maxL : Nat} {ret : Option FieldType} {hh : List (Nat × Nat × Nat × Nat)}
    (hown : s.vm.findClass own = some m.cls) (hlink : (Cond.methodLink own index y).before args s = true) (hstat : (Cond.static y).before args s = true) (hinit : (Cond.initialized y.cls).before args s = true)
    (hcode : (Cond.codeWith y bytes maxL ret hh).before args s = true) (hy : y.cls ≠ "java/lang/invoke/MethodHandle" ∧ y.cls ≠ "java/lang/invoke/VarHandle")
    {W9 : Nat} {Pre : Pt → Array Value → Prop} {Post : Pt → Array Value → Option Value → Pt → Prop} (hK : Back l R p e below s args y 3 W9 Pre Post)
    {g : JFrame} (hg : g.method = m) (hsize : g.locals.size = c.maxLocals) {argsL rest : List Value} (hlen : ∀ sig, parseMethodDescriptor y.desc = some sig → argsL.length = sig.parameters.length)
    (hstack : g.stack = argsL.reverse ++ rest) (hW : 2 * g.monitorRoom + (rest.map fun v => v.category).sum ≤ W9) (hdg : decode c.code g.pc = .ok (.invokestatic index, 3))
    (hpre : ∀ vm₁, s.WarmedH vm₁ → Pre ⟨T.setVm vm₁, locs, cells, slots⟩ argsL.toArray) :
    ∃ (v : Option Value) (vm₁ : Vm) (B : Pt), s.WarmedH vm₁ ∧ Stand p l e R s m args below meth c B.U B.locs B.cells B.slots ∧ Post ⟨T.setVm vm₁, locs, cells, slots⟩ argsL.toArray v B ∧
      ∀ target, Steps p.tables e below (B.U.setTop { g with pc := g.pc + 3, stack := v.toList ++ rest }) target → Steps p.tables e below (T.setTop g) target := by
  obtain ⟨mk, methM, cM, hnamed, hmethM, -, -, -, -, -, -, hsigM⟩ := Cond.codeWith_spec hcode
  have hstatic : methM.isStatic = true := Cond.static_spec hnamed hmethM hstat
  obtain ⟨kP, hkP, -⟩ := className_of_methodNamed hnamed
  have hinitP : kP.init = .initialized := Cond.initialized_spec (findClass_of_methodNamed hnamed) hkP hinit
  obtain ⟨vm₁, X₁, hstep₁⟩ := X.invokestatic hexec hown hlink hnamed hmethM hstatic hkP hinitP hy (g := g) hg (argsL := argsL) (rest := rest) (hlen _ hsigM) hstack hdg
  obtain ⟨v, B, X', hpost, hsteps⟩ := hK m meth c ⟨T.setVm vm₁, locs, cells, slots⟩ { g with stack := rest } (.invokestatic index) mk argsL.toArray X₁ hg hsize hdg hW (X₁.named hnamed) (hpre vm₁ X₁.warmed)
  exact ⟨v, vm₁, B, X₁.warmed, X', hpost, fun target h => hstep₁ _ fun acts => by rw [doInvoke_state]; exact hsteps.trans h⟩
theorem vx_runSW {y : MethodName} {bytes cc : ByteArray} {maxL nL mc ms n index : Nat} {ret : Option FieldType} {hh : List (Nat × Nat × Nat × Nat)} {ws : List Cond} {rm : Room} {Pc : Array Value → State → Prop} {Qc : Array Value → State → Outcome → State → Prop} {free : Addr → Prop} {Ts : List Cond} {own : String} {As rest : List Value} {g : JFrame}
    (S : CallFix p m c cc nL s args Ts own) (hM : Met l y ws rm Pc Qc mc ms free) (cw : vx_CSW R s args own index y bytes maxL ret hh ws rm mc ms n) (hp : PreS s H Pc As)
    (hg : g.method = m) (hn : As.length = n) (hsize : g.locals.size = nL) (hstack : g.stack = As.reverse ++ rest) (hW : 2 * g.monitorRoom + (rest.map fun v => v.category).sum ≤ 8) (hdg : decode cc g.pc = .ok (.invokestatic index, 3)) (hf : cells + mc ≤ R.cells ∧ slots + ms ≤ R.slots) :
    va_Run p l e R s m args below meth c H locs cells slots mc ms g rest (Qc As.toArray) (free) := by
  obtain ⟨⟨hrc, hrs, hfr, hlo, hws, hcw⟩, hcode, hini, hy, hlen, hl, hstt⟩ := cw
  have hK : Back l R p e below s args y 3 8 (PreOf R mc ms Pc) (PostOf Qc mc ms free) := va_backW (hh := hh) (bytes := bytes) (maxL := maxL) (ret := ret) hM hp.1 hrc hrs hfr hlo hws hcw (fun a' U hW => word_at hW (Or.inl (by first | rfl | simp [Cond.onTables, Cond.keeps, Cond.steady])) hini)
  obtain ⟨hx, hb, hml, ho, -⟩ := S
  intro T hT X
  obtain ⟨v, vm₁, ⟨U', l2, c2, s2⟩, hW₁, X', ⟨g', mk, t, L, e1, e2, hq, h1, hL, h2, h3⟩, st⟩ := vx_callSW X hx (hh := hh) (bytes := bytes) (maxL := maxL) (ret := ret) ho hl hstt hini hcode hy hK hg (hsize.trans hml.symm) (argsL := As) (rest := rest) (fun sig h => hn.trans (hlen sig h)) hstack hW (by rw [hb]; exact hdg)
    (fun vm₁ hW₁ => ⟨hf.1, hf.2, hp.2 (T.setVm vm₁) hT hW₁⟩)
  dsimp only [Pt.U, Pt.locs, Pt.cells, Pt.slots] at X' e1 e2 h1 h2 h3 st
  subst h1; subst h2; subst h3
  exact ⟨v, (T.setVm vm₁).calling g' mk As.toArray, t, U', L, hT, X', hL, e1, e2, hq, st⟩
theorem vx_outP {p : Program} {l : Launch} {e : Env} {R : Room} {s : State} {m : MethodId} {args : Array Value} {below : List Frame} {meth : Method} {c : Code} {H : Heap} {locs : List Loc} {cells slots : Nat} {free : Addr → Prop} {ls : Array Slot} {rest : List Value} {Qc : Array Value → State → Outcome → State → Prop} {XC : String → State → State → Prop}
    {pc : Nat} {own E : String} {ce : Cell} {q : Addr} {mc ms : Nat} (hown : s.vm.findClass own = some m.cls) (hlocks : meth.locks = false)
    (hpass : ∀ z ∈ c.exceptionTable.toList, covers z pc = false ∨ (z.catchType ≠ 0 ∧ ∃ nm : String, (Cond.classLink own z.catchType nm).before args s = true ∧ va_Nc E nm s)) (hcell : H[q]? = some ce) (hv : ce.vm = .none) (hcl : s.vm.findClass E = some ce.cls)
    (hx : ∀ t : State, t.heap = H → s.vm.Alike t.vm → XC E s t) (hf : ∀ z ∈ locs, free z.base) (hc : cells ≤ mc) (hs : slots ≤ ms) :
    vx_W p l e R s m args below meth c H locs cells slots (vx_MQ below Qc XC args s mc ms free) (F0 m pc ls rest) q := by
  intro T hT X
  have hpl : e.platform.magicAccessors = ({} : Platform).magicAccessors := by rw [X.admits.platform]
  obtain ⟨vm', hW', X', st⟩ := X.outThrough hlocks q (g := F0 m pc ls rest) rfl rfl rfl (cell := ce) (by rw [hT]; exact hcell) (by rw [hv]; rfl)
    (by obtain ⟨k9, h9, -⟩ := Vm.findClass_spec hcl; exact ⟨k9, h9⟩) (fun z hz => by
      rcases hpass z hz with h | ⟨hz0, nm, hl1, hn1⟩
      · exact Or.inl h
      · obtain ⟨c6, hc6, hcl6⟩ := Cond.classLink_spec hown hl1 e.platform hpl
        obtain ⟨a8, b8, h1, h2, h3⟩ := hn1
        cases Option.some.inj (h1.symm.trans hcl)
        cases Option.some.inj (h2.symm.trans hc6)
        exact Or.inr ⟨hz0, _, hcl6, h3⟩)
  obtain ⟨g₀, hfr⟩ := X'.frames_eq
  have hcell9 : ((T.setVm vm').setFrames (.throwing q :: below)).heap[q]? = some ce := by
    show T.heap[q]? = some ce
    rw [hT]; exact hcell
  have hend : Ended ((T.setVm vm').setFrames (.throwing q :: below)) below (.threw q) := State.frames_setFrames _ (State.cur_lt_of_frames hfr)
  refine ⟨(T.setVm vm').setFrames (.throwing q :: below), ?_, .threw q, X'.here.running, hend, Or.inr ⟨q, rfl, E, ce, locs, hx _ hT (X'.ends _).1.alike, hcell9, hv, hcl, (X'.ends _).1, (X'.ends _).2.mono hc hs, hf⟩⟩
  rw [X.pushThrowing_eq]
  exact st
theorem vx_lt {D : va_G} {cl : List vw_C} {ws : va_W} {H1 : Heap} (h : va_P D cl ws H1) {k : Nat} {q : Nat × va_E} (hk : ws[k]? = some q) : q.1 < H1.size := (h k q hk).lt
end VXS
section VXH
section
variable {l : Launch} {R : Room} {p : Program} {e : Env} {below : List Frame} {s : State} {sargs : Array Value} {y : MethodName} {len W9 : Nat}
theorem vx_backW {ws : List Cond} {rm : Room} {Pc : Array Value → State → Prop} {Qc : Array Value → State → Outcome → State → Prop} {XC : String → State → State → Prop} {mc ms : Nat} {free : Addr → Prop} {bytes : ByteArray} {maxL : Nat} {ret : Option FieldType} {hh : List (Nat × Nat × Nat × Nat)}
    (hM : vx_Met l y ws rm Pc Qc XC mc ms free) (hblind : FrameBlind Pc) (hrc : rm.cells = mc) (hrs : rm.slots = ms)
    (hframes : rm.frames + 1 ≤ R.frames) (hlocals : W9 + (maxL + 11) + rm.locals ≤ R.locals)
    (hws : ∀ w ∈ ws, ∀ a' U, s.WarmedH U.vm → w.before a' U = true) (hcode : Cond.codeWith y bytes maxL ret hh ∈ ws) (hinit : ∀ a' U, s.WarmedH U.vm → (Cond.initialized y.cls).before a' U = true) :
    vx_Back l R p e below s sargs y len W9 (PreOf R mc ms Pc) (PostOf Qc mc ms free) (vx_Post XC mc ms free) := by
  intro m meth c A g ig mk a X hg hsize hdg hW hn hp
  have h1 : (headSpec ws rm).pre.before a A.U = true := atoms_intro fun w hw => hws w hw _ _ X.warmed
  have h2 : (Cond.codeWith y bytes maxL ret hh).before a A.U = true := hws _ hcode _ _ X.warmed
  have h3 : (Cond.initialized y.cls).before a A.U = true := hinit _ _ X.warmed
  have h4 : A.cells + (headSpec ws rm).room.cells ≤ R.cells := by rw [show (headSpec ws rm).room.cells = mc from hrc]; exact hp.1
  have h5 : A.slots + (headSpec ws rm).room.slots ≤ R.slots := by rw [show (headSpec ws rm).room.slots = ms from hrs]; exact hp.2.1
  have hPc : Pc a (A.U.calling g mk a) := hblind _ _ _ _ hp.2.2
  obtain ⟨U, Ls, c0, s0⟩ := A
  dsimp only [Pt.U, Pt.locs, Pt.cells, Pt.slots] at h1 h2 h3 h4 h5 X hn hPc ⊢
  obtain ⟨m9, methY, cY, hn9, hmY, hcY, -, hlY, -⟩ := Cond.codeWith_spec h2
  cases Option.some.inj (hn9.symm.trans hn)
  obtain ⟨kY, hkY, -⟩ := className_of_methodNamed hn
  have hinitY : kY.init = .initialized := Cond.initialized_spec (findClass_of_methodNamed hn) hkY h3
  have h : At U g.method c below := by rw [hg]; exact X.here
  have hlocals9 : W9 + (maxL + 11) + (headSpec ws rm).room.locals ≤ R.locals := hlocals
  have happ : (headSpec ws rm).appliesLoose y e.platform (U.calling g mk a) = true :=
    Spec.appliesLoose_calling (g := g) h hdg hn hkY hinitY
      (X.room_calling (g := g) (R' := (headSpec ws rm).room) hsize hmY hcY hframes (by rw [hlY]; omega) h4 h5) h1
  obtain ⟨mid, hmid⟩ := h.above
  have hfr : (U.setTop g).frames = (.java g :: mid) ++ below := by rw [State.frames_setTop' g h.top, hmid]; rfl
  obtain ⟨o, s₂, hsteps, -, hend, hq⟩ := Steps.callFree hM p X.admits X.cas X.clock (acts := []) hfr happ hPc trivial
  have hq' : vx_Q Qc XC mc ms free a (U.calling g mk a) o s₂ := hq
  rw [State.frames_setTop' g h.top] at hend
  obtain ⟨g₀, hg0⟩ := Option.isSome_iff_exists.mp h.top
  obtain ⟨r, hr⟩ := State.topJava?_eq_some.mp hg0
  have hr' : (({ U with heap := s₂.heap, slotsUsed := s₂.slotsUsed } : State).setVm s₂.vm).frames = .java g₀ :: r := hr
  rcases hq' with ⟨hqc, L, hfe, hL⟩ | ⟨q, rfl, E, ce, L, hx, hce, hcv, hcl, hW₂, hsm, hL⟩
  · obtain ⟨⟨v, rfl⟩, hW₂, e2, q2, q3, q4, q5, q6⟩ := id hfe
    have e3 : s₂ = ({ (U.calling g mk a).setFrames s₂.frames with heap := s₂.heap, slotsUsed := s₂.slotsUsed } : State).setVm s₂.vm := by
      have : s₂ = ({ s₂ with vm := (U.calling g mk a).vm } : State).setVm s₂.vm := rfl
      rw [e2] at this
      exact this
    obtain ⟨c₂, i₂, len₂, hc₂, hd₂, hf₂⟩ := hend
    have hW' : U.WarmedH s₂.vm := hW₂
    have hcc : c₂ = c := by
      have h1 : s₂.code? g.method = U.code? g.method := by
        rw [State.code?_eq, State.code?_eq, hW'.alike.method?]
      exact Option.some.inj (hc₂.symm.trans (h1.trans h.code))
    subst hcc
    have hlen : len₂ = len := by rw [hdg] at hd₂; cases hd₂; rfl
    subst hlen
    have hs₂ : s₂ = (({ U with heap := s₂.heap, slotsUsed := s₂.slotsUsed } : State).setVm s₂.vm).setTop { g with pc := g.pc + len₂, stack := v.toList ++ g.stack } := by
      refine e3.trans ?_
      rw [hf₂, State.calling_eq h.top, State.setFrames_setFrames, State.setTop_of_frames _ hr', hr]
      rfl
    have hsame : U.sameButNew ({ U with heap := s₂.heap, slotsUsed := s₂.slotsUsed } : State) L mc ms := by
      refine ⟨?_, q2, q3, q4, q5, q6⟩
      obtain ⟨t, ht, -⟩ := State.frames_cons hr
      show ({ U with heap := s₂.heap, slotsUsed := s₂.slotsUsed } : State) = { U.setFrames U.frames with heap := s₂.heap, slotsUsed := s₂.slotsUsed }
      rw [State.setFrames_self ht]
    subst hg
    refine Or.inl ⟨v, ⟨(({ U with heap := s₂.heap, slotsUsed := s₂.slotsUsed } : State).setVm s₂.vm), Ls ++ L, c0 + mc, s0 + ms⟩,
      ⟨X.admits, X.cas, X.clock, X.frames, X.room, X.hears, X.method, X.code, (X.here.setHeapUsed s₂.heap s₂.slotsUsed).setVm hW'.alike, X.tail, State.WarmedH.trans X.warmed hW', X.limits, X.bytes, X.same.trans (hsame.setVm s.vm)⟩,
      ⟨g, mk, s₂, L, rfl, rfl, hqc, rfl, hL, rfl, rfl⟩, ?_⟩
    show Steps p.tables e below _ ((({ U with heap := s₂.heap, slotsUsed := s₂.slotsUsed } : State).setVm s₂.vm).setTop { g with pc := g.pc + len₂, stack := v.toList ++ g.stack })
    rw [← hs₂]
    exact hsteps
  · obtain ⟨e2, q2, q3, q4, q5, q6⟩ := id hsm
    have e3 : s₂ = ({ (U.calling g mk a).setFrames s₂.frames with heap := s₂.heap, slotsUsed := s₂.slotsUsed } : State).setVm s₂.vm := by
      have : s₂ = ({ s₂ with vm := (U.calling g mk a).vm } : State).setVm s₂.vm := rfl
      rw [e2] at this
      exact this
    have hf₂ : s₂.frames = .throwing q :: .java g :: U.frames.tail := hend
    have hW' : U.WarmedH s₂.vm := hW₂
    have hs₂ : s₂ = ((({ U with heap := s₂.heap, slotsUsed := s₂.slotsUsed } : State).setVm s₂.vm).setTop g).pushFrame (.throwing q) := by
      refine e3.trans ?_
      rw [hf₂, State.calling_eq h.top, State.setFrames_setFrames, State.pushFrame, State.frames_setTop _ hr', State.setTop_of_frames _ hr', State.setFrames_setFrames, hr]
      rfl
    have hsame : U.sameButNew ({ U with heap := s₂.heap, slotsUsed := s₂.slotsUsed } : State) L mc ms := by
      refine ⟨?_, q2, q3, q4, q5, q6⟩
      obtain ⟨t, ht, -⟩ := State.frames_cons hr
      show ({ U with heap := s₂.heap, slotsUsed := s₂.slotsUsed } : State) = { U.setFrames U.frames with heap := s₂.heap, slotsUsed := s₂.slotsUsed }
      rw [State.setFrames_self ht]
    subst hg
    refine Or.inr ⟨q, ⟨(({ U with heap := s₂.heap, slotsUsed := s₂.slotsUsed } : State).setVm s₂.vm), Ls ++ L, c0 + mc, s0 + ms⟩,
      ⟨X.admits, X.cas, X.clock, X.frames, X.room, X.hears, X.method, X.code, (X.here.setHeapUsed s₂.heap s₂.slotsUsed).setVm hW'.alike, X.tail, State.WarmedH.trans X.warmed hW', X.limits, X.bytes, X.same.trans (hsame.setVm s.vm)⟩,
      ⟨g, mk, s₂, L, E, ce, rfl, rfl, hx, hce, hcv, hcl, rfl, hL, rfl, rfl⟩, ?_⟩
    show Steps p.tables e below _ (((({ U with heap := s₂.heap, slotsUsed := s₂.slotsUsed } : State).setVm s₂.vm).setTop g).pushFrame (.throwing q))
    rw [← hs₂]
    exact hsteps
end
variable {p : Program} {l : Launch} {e : Env} {R : Room} {s : State} {m : MethodId} {args : Array Value} {below : List Frame} {meth : Method} {c : Code} {T : State} {H : Heap} {locs : List Loc} {cells slots : Nat}
theorem vx_callVX (X : Stand p l e R s m args below meth c T locs cells slots) (hexec : p.tables.exec = Jvm.exec) {own C : String} {index : Nat} {y : MethodName} {bytes : ByteArray} {maxL : Nat} {ret : Option FieldType} {hh : List (Nat × Nat × Nat × Nat)}
    (hown : s.vm.findClass own = some m.cls) (hlink : (Cond.methodLink own index y).before args s = true) (hinst : (Cond.instanceMethod y).before args s = true) (hsel : (Cond.selects C y y).before args s = true)
    (hcode : (Cond.codeWith y bytes maxL ret hh).before args s = true) (hy : y.cls ≠ "java/lang/invoke/MethodHandle" ∧ y.cls ≠ "java/lang/invoke/VarHandle")
    {W9 : Nat} {Pre : Pt → Array Value → Prop} {Post : Pt → Array Value → Option Value → Pt → Prop} {PostX : Pt → Array Value → Addr → Pt → Prop} (hK : vx_Back l R p e below s args y 3 W9 Pre Post PostX)
    {b : Addr} {cellB : Cell} (hcell : T.heap[b]? = some cellB) (hobj : cellB.vm.isStatics = false) (hcls : s.vm.findClass C = some cellB.cls)
    {g : JFrame} (hg : g.method = m) (hsize : g.locals.size = c.maxLocals) {argsL rest : List Value} (hlen : ∀ sig, parseMethodDescriptor y.desc = some sig → argsL.length = sig.parameters.length)
    (hstack : g.stack = argsL.reverse ++ .ref b :: rest) (hW : 2 * g.monitorRoom + (rest.map fun v => v.category).sum ≤ W9) (hdg : decode c.code g.pc = .ok (.invokevirtual index, 3))
    (hpre : ∀ vm₁, s.WarmedH vm₁ → Pre ⟨T.setVm vm₁, locs, cells, slots⟩ (Value.ref b :: argsL).toArray) :
    (∃ (v : Option Value) (vm₁ : Vm) (B : Pt), s.WarmedH vm₁ ∧ Stand p l e R s m args below meth c B.U B.locs B.cells B.slots ∧ Post ⟨T.setVm vm₁, locs, cells, slots⟩ (Value.ref b :: argsL).toArray v B ∧
      ∀ target, Steps p.tables e below (B.U.setTop { g with pc := g.pc + 3, stack := v.toList ++ rest }) target → Steps p.tables e below (T.setTop g) target) ∨
    (∃ (q : Addr) (vm₁ : Vm) (B : Pt), s.WarmedH vm₁ ∧ Stand p l e R s m args below meth c B.U B.locs B.cells B.slots ∧ PostX ⟨T.setVm vm₁, locs, cells, slots⟩ (Value.ref b :: argsL).toArray q B ∧
      Steps p.tables e below (T.setTop g) ((B.U.setTop { g with stack := rest }).pushFrame (.throwing q))) := by
  obtain ⟨mk, methM, hnamed, hmethM, hstM, habM⟩ := Cond.instanceMethod_spec hinst
  obtain ⟨m8, methM', cM, hn8, hmethM', -, -, -, -, -, -, hsigM⟩ := Cond.codeWith_spec hcode
  cases Option.some.inj (hn8.symm.trans hnamed)
  cases hmethM.symm.trans hmethM'
  obtain ⟨c2, r2, m2, q1, q2, q3, q4, kP, hkP, hkPi⟩ := Cond.selects_spec hsel
  cases hcls.symm.trans q1
  cases (State.methodFound?_of_named hnamed hy).symm.trans q2
  cases hnamed.symm.trans q3
  have hselP : selectMethod e.platform s.vm cellB.cls mk = .method mk := by rw [Launch.admits_selectMethod X.admits]; exact q4
  obtain ⟨vm₁, X₁, hstep₁⟩ := X.invokevirtual hexec hown hlink hnamed hmethM hstM hkP hkPi hy (a := b) (cell := cellB) hcell
    (fun z h => by rw [h] at hobj; cases hobj) hselP hmethM habM hkP hkPi (g := g) hg (argsL := argsL) (rest := rest) (hlen _ hsigM) hstack hdg
  rcases hK m meth c ⟨T.setVm vm₁, locs, cells, slots⟩ { g with stack := rest } (.invokevirtual index) mk (Value.ref b :: argsL).toArray X₁ hg hsize hdg hW (X₁.named hnamed) (hpre vm₁ X₁.warmed) with ⟨v, B, X', hpost, hsteps⟩ | ⟨q, B, X', hpost, hsteps⟩
  · exact Or.inl ⟨v, vm₁, B, X₁.warmed, X', hpost, fun target h => hstep₁ _ fun acts => by rw [doInvoke_state]; exact hsteps.trans h⟩
  · exact Or.inr ⟨q, vm₁, B, X₁.warmed, X', hpost, hstep₁ _ fun acts => by rw [doInvoke_state]; exact hsteps⟩
theorem vx_callSX (X : Stand p l e R s m args below meth c T locs cells slots) (hexec : p.tables.exec = Jvm.exec) {own : String} {index : Nat} {y : MethodName} {bytes : ByteArray} {maxL : Nat} {ret : Option FieldType} {hh : List (Nat × Nat × Nat × Nat)}
    (hown : s.vm.findClass own = some m.cls) (hlink : (Cond.methodLink own index y).before args s = true) (hstat : (Cond.static y).before args s = true) (hinit : (Cond.initialized y.cls).before args s = true)
    (hcode : (Cond.codeWith y bytes maxL ret hh).before args s = true) (hy : y.cls ≠ "java/lang/invoke/MethodHandle" ∧ y.cls ≠ "java/lang/invoke/VarHandle")
    {W9 : Nat} {Pre : Pt → Array Value → Prop} {Post : Pt → Array Value → Option Value → Pt → Prop} {PostX : Pt → Array Value → Addr → Pt → Prop} (hK : vx_Back l R p e below s args y 3 W9 Pre Post PostX)
    {g : JFrame} (hg : g.method = m) (hsize : g.locals.size = c.maxLocals) {argsL rest : List Value} (hlen : ∀ sig, parseMethodDescriptor y.desc = some sig → argsL.length = sig.parameters.length)
    (hstack : g.stack = argsL.reverse ++ rest) (hW : 2 * g.monitorRoom + (rest.map fun v => v.category).sum ≤ W9) (hdg : decode c.code g.pc = .ok (.invokestatic index, 3))
    (hpre : ∀ vm₁, s.WarmedH vm₁ → Pre ⟨T.setVm vm₁, locs, cells, slots⟩ argsL.toArray) :
    (∃ (v : Option Value) (vm₁ : Vm) (B : Pt), s.WarmedH vm₁ ∧ Stand p l e R s m args below meth c B.U B.locs B.cells B.slots ∧ Post ⟨T.setVm vm₁, locs, cells, slots⟩ argsL.toArray v B ∧
      ∀ target, Steps p.tables e below (B.U.setTop { g with pc := g.pc + 3, stack := v.toList ++ rest }) target → Steps p.tables e below (T.setTop g) target) ∨
    (∃ (q : Addr) (vm₁ : Vm) (B : Pt), s.WarmedH vm₁ ∧ Stand p l e R s m args below meth c B.U B.locs B.cells B.slots ∧ PostX ⟨T.setVm vm₁, locs, cells, slots⟩ argsL.toArray q B ∧
      Steps p.tables e below (T.setTop g) ((B.U.setTop { g with stack := rest }).pushFrame (.throwing q))) := by
  obtain ⟨mk, methM, cM, hnamed, hmethM, -, -, -, -, -, -, hsigM⟩ := Cond.codeWith_spec hcode
  have hstatic : methM.isStatic = true := Cond.static_spec hnamed hmethM hstat
  obtain ⟨kP, hkP, -⟩ := className_of_methodNamed hnamed
  have hinitP : kP.init = .initialized := Cond.initialized_spec (findClass_of_methodNamed hnamed) hkP hinit
  obtain ⟨vm₁, X₁, hstep₁⟩ := X.invokestatic hexec hown hlink hnamed hmethM hstatic hkP hinitP hy (g := g) hg (argsL := argsL) (rest := rest) (hlen _ hsigM) hstack hdg
  rcases hK m meth c ⟨T.setVm vm₁, locs, cells, slots⟩ { g with stack := rest } (.invokestatic index) mk argsL.toArray X₁ hg hsize hdg hW (X₁.named hnamed) (hpre vm₁ X₁.warmed) with ⟨v, B, X', hpost, hsteps⟩ | ⟨q, B, X', hpost, hsteps⟩
  · exact Or.inl ⟨v, vm₁, B, X₁.warmed, X', hpost, fun target h => hstep₁ _ fun acts => by rw [doInvoke_state]; exact hsteps.trans h⟩
  · exact Or.inr ⟨q, vm₁, B, X₁.warmed, X', hpost, hstep₁ _ fun acts => by rw [doInvoke_state]; exact hsteps⟩
theorem vx_callVW (X : Stand p l e R s m args below meth c T locs cells slots) (hexec : p.tables.exec = Jvm.exec) {own C : String} {index : Nat} {y : MethodName} {bytes : ByteArray} {maxL : Nat} {ret : Option FieldType} {hh : List (Nat × Nat × Nat × Nat)}
    (hown : s.vm.findClass own = some m.cls) (hlink : (Cond.methodLink own index y).before args s = true) (hinst : (Cond.instanceMethod y).before args s = true) (hsel : (Cond.selects C y y).before args s = true)
    (hcode : (Cond.codeWith y bytes maxL ret hh).before args s = true) (hy : y.cls ≠ "java/lang/invoke/MethodHandle" ∧ y.cls ≠ "java/lang/invoke/VarHandle")
    {W9 : Nat} {Pre : Pt → Array Value → Prop} {Post : Pt → Array Value → Option Value → Pt → Prop} (hK : Back l R p e below s args y 3 W9 Pre Post)
    {b : Addr} {cellB : Cell} (hcell : T.heap[b]? = some cellB) (hobj : cellB.vm.isStatics = false) (hcls : s.vm.findClass C = some cellB.cls)
    {g : JFrame} (hg : g.method = m) (hsize : g.locals.size = c.maxLocals) {argsL rest : List Value} (hlen : ∀ sig, parseMethodDescriptor y.desc = some sig → argsL.length = sig.parameters.length)
    (hstack : g.stack = argsL.reverse ++ .ref b :: rest) (hW : 2 * g.monitorRoom + (rest.map fun v => v.category).sum ≤ W9) (hdg : decode c.code g.pc = .ok (.invokevirtual index, 3))
    (hpre : ∀ vm₁, s.WarmedH vm₁ → Pre ⟨T.setVm vm₁, locs, cells, slots⟩ (Value.ref b :: argsL).toArray) :
    ∃ (v : Option Value) (vm₁ : Vm) (B : Pt), s.WarmedH vm₁ ∧ Stand p l e R s m args below meth c B.U B.locs B.cells B.slots ∧ Post ⟨T.setVm vm₁, locs, cells, slots⟩ (Value.ref b :: argsL).toArray v B ∧
      ∀ target, Steps p.tables e below (B.U.setTop { g with pc := g.pc + 3, stack := v.toList ++ rest }) target → Steps p.tables e below (T.setTop g) target := by
  obtain ⟨mk, methM, hnamed, hmethM, hstM, habM⟩ := Cond.instanceMethod_spec hinst
  obtain ⟨m8, methM', cM, hn8, hmethM', -, -, -, -, -, -, hsigM⟩ := Cond.codeWith_spec hcode
  cases Option.some.inj (hn8.symm.trans hnamed)
  cases hmethM.symm.trans hmethM'
  obtain ⟨c2, r2, m2, q1, q2, q3, q4, kP, hkP, hkPi⟩ := Cond.selects_spec hsel
  cases hcls.symm.trans q1
  cases (State.methodFound?_of_named hnamed hy).symm.trans q2
  cases hnamed.symm.trans q3
  have hselP : selectMethod e.platform s.vm cellB.cls mk = .method mk := by rw [Launch.admits_selectMethod X.admits]; exact q4
  obtain ⟨vm₁, X₁, hstep₁⟩ := X.invokevirtual hexec hown hlink hnamed hmethM hstM hkP hkPi hy (a := b) (cell := cellB) hcell
    (fun z h => by rw [h] at hobj; cases hobj) hselP hmethM habM hkP hkPi (g := g) hg (argsL := argsL) (rest := rest) (hlen _ hsigM) hstack hdg
  obtain ⟨v, B, X', hpost, hsteps⟩ := hK m meth c ⟨T.setVm vm₁, locs, cells, slots⟩ { g with stack := rest } (.invokevirtual index) mk (Value.ref b :: argsL).toArray X₁ hg hsize hdg hW (X₁.named hnamed) (hpre vm₁ X₁.warmed)
  exact ⟨v, vm₁, B, X₁.warmed, X', hpost, fun target h => hstep₁ _ fun acts => by rw [doInvoke_state]; exact hsteps.trans h⟩
abbrev vx_CVW (R : Room) (s : State) (args : Array Value) (own C : String) (index : Nat) (y : MethodName) (bytes : ByteArray) (maxL : Nat) (ret : Option FieldType) (hh : List (Nat × Nat × Nat × Nat)) (ws : List Cond) (rm : Room) (mc ms n : Nat) : Prop :=
  (rm.cells = mc ∧ rm.slots = ms ∧ rm.frames + 1 ≤ R.frames ∧ 8 + (maxL + 11) + rm.locals ≤ R.locals ∧ (∀ w ∈ ws, ∀ (a' : Array Value) (U : State), s.WarmedH U.vm → w.before a' U = true) ∧ Cond.codeWith y bytes maxL ret hh ∈ ws) ∧
  (Cond.codeWith y bytes maxL ret hh).before args s = true ∧ (Cond.initialized y.cls).before args s = true ∧ (y.cls ≠ "java/lang/invoke/MethodHandle" ∧ y.cls ≠ "java/lang/invoke/VarHandle") ∧
  (∀ sig, parseMethodDescriptor y.desc = some sig → n = sig.parameters.length) ∧ (Cond.methodLink own index y).before args s = true ∧ (Cond.instanceMethod y).before args s = true ∧ (Cond.selects C y y).before args s = true
theorem vx_cwVW {own C : String} {index maxL mc ms : Nat} {y : MethodName} {bytes : ByteArray} {ret : Option FieldType} {hh : List (Nat × Nat × Nat × Nat)} {Ts ws ws' : List Cond} {rm : Room} (n : Nat) (ht : ∀ w ∈ Ts, w.before args s = true) (hT : GoodIn Ts (wsV own index C y ws)) (hw : ws = Cond.codeWith y bytes maxL ret hh :: ws') (hrc : rm.cells = mc) (hrs : rm.slots = ms)
    (hd : y.cls = C ∧ y.cls ≠ "java/lang/invoke/MethodHandle" ∧ y.cls ≠ "java/lang/invoke/VarHandle" ∧ (parseMethodDescriptor y.desc).map (fun d => d.parameters.length) = some n) (hR : rm.frames + 1 ≤ R.frames ∧ 8 + (maxL + 11) + rm.locals ≤ R.locals) :
    vx_CVW R s args own C index y bytes maxL ret hh ws rm mc ms n := by
  obtain ⟨hC, hd⟩ := hd
  subst hC
  have ok : ∀ w ∈ wsV own index y.cls y ws, w.before args s = true := fun w h => ht w (hT w h).1
  have hG : GoodIn Ts ws := fun w h => hT w (by unfold wsV; exact List.mem_append_right _ h)
  have hc : Cond.codeWith y bytes maxL ret hh ∈ ws := by rw [hw]; exact List.mem_cons_self
  refine ⟨⟨hrc, hrs, hR.1, hR.2, pay_in ht hG, hc⟩, ht _ (hG _ hc).1, ok _ (by simp [wsV]), ⟨hd.1, hd.2.1⟩, fun sig h => ?_, ok _ (by simp [wsV]), ok _ (by simp [wsV]), ok _ (by simp [wsV])⟩
  have h2 := hd.2.2
  rw [h] at h2
  exact (Option.some.inj h2).symm
theorem vx_runVW {y : MethodName} {bytes cc : ByteArray} {maxL nL mc ms n index : Nat} {ret : Option FieldType} {hh : List (Nat × Nat × Nat × Nat)} {ws : List Cond} {rm : Room} {Pc : Array Value → State → Prop} {Qc : Array Value → State → Outcome → State → Prop} {free : Addr → Prop} {Ts : List Cond} {own C : String} {b : Addr} {As rest : List Value} {g : JFrame}
    (S : CallFix p m c cc nL s args Ts own) (hM : Met l y ws rm Pc Qc mc ms free) (cw : vx_CVW R s args own C index y bytes maxL ret hh ws rm mc ms n) (hp : PreV s H C b Pc As)
    (hg : g.method = m) (hn : As.length = n) (hsize : g.locals.size = nL) (hstack : g.stack = As.reverse ++ .ref b :: rest) (hW : 2 * g.monitorRoom + (rest.map fun v => v.category).sum ≤ 8) (hdg : decode cc g.pc = .ok (.invokevirtual index, 3)) (hf : cells + mc ≤ R.cells ∧ slots + ms ≤ R.slots) :
    va_Run p l e R s m args below meth c H locs cells slots mc ms g rest (Qc (Value.ref b :: As).toArray) free := by
  obtain ⟨⟨hrc, hrs, hfr, hlo, hws, hcw⟩, hcode, hini, hy, hlen, hl, hin, hse⟩ := cw
  have hK : Back l R p e below s args y 3 8 (PreOf R mc ms Pc) (PostOf Qc mc ms free) := va_backW (hh := hh) (bytes := bytes) (maxL := maxL) (ret := ret) hM hp.1 hrc hrs hfr hlo hws hcw (fun a' U hW => word_at hW (Or.inl (by first | rfl | simp [Cond.onTables, Cond.keeps, Cond.steady])) hini)
  obtain ⟨hx, hb, hml, ho, -⟩ := S
  obtain ⟨-, ⟨cellB, hcB, hoB, hclB⟩, hPc⟩ := hp
  intro T hT X
  obtain ⟨v, vm₁, ⟨U', l2, c2, s2⟩, hW₁, X', ⟨g', mk, t, L, e1, e2, hq, h1, hL, h2, h3⟩, st⟩ := vx_callVW X hx (C := C) (hh := hh) (bytes := bytes) (maxL := maxL) (ret := ret) ho hl hin hse hcode hy hK (by rw [hT]; exact hcB) hoB hclB hg (hsize.trans hml.symm) (argsL := As) (rest := rest) (fun sig h => hn.trans (hlen sig h)) hstack hW (by rw [hb]; exact hdg)
    (fun vm₁ hW₁ => ⟨hf.1, hf.2, hPc (T.setVm vm₁) hT hW₁⟩)
  dsimp only [Pt.U, Pt.locs, Pt.cells, Pt.slots] at X' e1 e2 h1 h2 h3 st
  subst h1; subst h2; subst h3
  exact ⟨v, (T.setVm vm₁).calling g' mk (Value.ref b :: As).toArray, t, U', L, hT, X', hL, e1, e2, hq, st⟩
section
variable {y : MethodName} {bytes cc : ByteArray} {maxL nL mc ms n index : Nat} {ret : Option FieldType} {ws : List Cond} {rm : Room} {Pc : Array Value → State → Prop} {Qc : Array Value → State → Outcome → State → Prop} {XC : String → State → State → Prop} {free : Addr → Prop} {Ts : List Cond} {own C : String} {b : Addr} {As rest : List Value} {g : JFrame}
theorem vx_runVX {hh : List (Nat × Nat × Nat × Nat)} (S : CallFix p m c cc nL s args Ts own) (hM : vx_Met l y ws rm Pc Qc XC mc ms free) (cw : vx_CVW R s args own C index y bytes maxL ret hh ws rm mc ms n) (hp : PreV s H C b Pc As)
    (hg : g.method = m) (hn : As.length = n) (hsize : g.locals.size = nL) (hstack : g.stack = As.reverse ++ .ref b :: rest) (hW : 2 * g.monitorRoom + (rest.map fun v => v.category).sum ≤ 8) (hdg : decode cc g.pc = .ok (.invokevirtual index, 3)) (hf : cells + mc ≤ R.cells ∧ slots + ms ≤ R.slots) :
    vx_Run p l e R s m args below meth c H locs cells slots mc ms g rest (Qc (Value.ref b :: As).toArray) XC free := by
  obtain ⟨⟨hrc, hrs, hfr, hlo, hws, hcw⟩, hcode, hini, hy, hlen, hl, hin, hse⟩ := cw
  have hK : vx_Back l R p e below s args y 3 8 (PreOf R mc ms Pc) (PostOf Qc mc ms free) (vx_Post XC mc ms free) := vx_backW (hh := hh) (bytes := bytes) (maxL := maxL) (ret := ret) hM hp.1 hrc hrs hfr hlo hws hcw (fun a' U hW => word_at hW (Or.inl (by first | rfl | simp [Cond.onTables, Cond.keeps, Cond.steady])) hini)
  obtain ⟨hx, hb, hml, ho, -⟩ := S
  obtain ⟨-, ⟨cellB, hcB, hoB, hclB⟩, hPc⟩ := hp
  intro T hT X
  rcases vx_callVX X hx (C := C) (hh := hh) (bytes := bytes) (maxL := maxL) (ret := ret) ho hl hin hse hcode hy hK (by rw [hT]; exact hcB) hoB hclB hg (hsize.trans hml.symm) (argsL := As) (rest := rest) (fun sig h => hn.trans (hlen sig h)) hstack hW (by rw [hb]; exact hdg)
    (fun vm₁ hW₁ => ⟨hf.1, hf.2, hPc (T.setVm vm₁) hT hW₁⟩) with ⟨v, vm₁, ⟨U', l2, c2, s2⟩, hW₁, X', ⟨g', mk, t, L, e1, e2, hq, h1, hL, h2, h3⟩, st⟩ | ⟨q, vm₁, ⟨U', l2, c2, s2⟩, hW₁, X', ⟨g', mk, t, L, E, ce, e1, e2, hq, hce, hcv, hcl, h1, hL, h2, h3⟩, st⟩
  · dsimp only [Pt.U, Pt.locs, Pt.cells, Pt.slots] at X' e1 e2 h1 h2 h3 st
    subst h1; subst h2; subst h3
    exact Or.inl ⟨v, (T.setVm vm₁).calling g' mk (Value.ref b :: As).toArray, t, U', L, hT, X', hL, e1, e2, hq, st⟩
  · dsimp only [Pt.U, Pt.locs, Pt.cells, Pt.slots] at X' e1 e2 h1 h2 h3 st hcl
    subst h1; subst h2; subst h3
    exact Or.inr ⟨q, (T.setVm vm₁).calling g' mk (Value.ref b :: As).toArray, t, U', L, E, ce, hT, X', hL, e1, e2, hq, hce, hcv, vx_cls hW₁ hcl, st⟩
theorem vx_runSX {hh : List (Nat × Nat × Nat × Nat)} (S : CallFix p m c cc nL s args Ts own) (hM : vx_Met l y ws rm Pc Qc XC mc ms free) (cw : vx_CSW R s args own index y bytes maxL ret hh ws rm mc ms n) (hp : PreS s H Pc As)
    (hg : g.method = m) (hn : As.length = n) (hsize : g.locals.size = nL) (hstack : g.stack = As.reverse ++ rest) (hW : 2 * g.monitorRoom + (rest.map fun v => v.category).sum ≤ 8) (hdg : decode cc g.pc = .ok (.invokestatic index, 3)) (hf : cells + mc ≤ R.cells ∧ slots + ms ≤ R.slots) :
    vx_Run p l e R s m args below meth c H locs cells slots mc ms g rest (Qc As.toArray) XC free := by
  obtain ⟨⟨hrc, hrs, hfr, hlo, hws, hcw⟩, hcode, hini, hy, hlen, hl, hstt⟩ := cw
  have hK : vx_Back l R p e below s args y 3 8 (PreOf R mc ms Pc) (PostOf Qc mc ms free) (vx_Post XC mc ms free) := vx_backW (hh := hh) (bytes := bytes) (maxL := maxL) (ret := ret) hM hp.1 hrc hrs hfr hlo hws hcw (fun a' U hW => word_at hW (Or.inl (by first | rfl | simp [Cond.onTables, Cond.keeps, Cond.steady])) hini)
  obtain ⟨hx, hb, hml, ho, -⟩ := S
  intro T hT X
  rcases vx_callSX X hx (hh := hh) (bytes := bytes) (maxL := maxL) (ret := ret) ho hl hstt hini hcode hy hK hg (hsize.trans hml.symm) (argsL := As) (rest := rest) (fun sig h => hn.trans (hlen sig h)) hstack hW (by rw [hb]; exact hdg)
    (fun vm₁ hW₁ => ⟨hf.1, hf.2, hp.2 (T.setVm vm₁) hT hW₁⟩) with ⟨v, vm₁, ⟨U', l2, c2, s2⟩, hW₁, X', ⟨g', mk, t, L, e1, e2, hq, h1, hL, h2, h3⟩, st⟩ | ⟨q, vm₁, ⟨U', l2, c2, s2⟩, hW₁, X', ⟨g', mk, t, L, E, ce, e1, e2, hq, hce, hcv, hcl, h1, hL, h2, h3⟩, st⟩
  · dsimp only [Pt.U, Pt.locs, Pt.cells, Pt.slots] at X' e1 e2 h1 h2 h3 st
    subst h1; subst h2; subst h3
    exact Or.inl ⟨v, (T.setVm vm₁).calling g' mk As.toArray, t, U', L, hT, X', hL, e1, e2, hq, st⟩
  · dsimp only [Pt.U, Pt.locs, Pt.cells, Pt.slots] at X' e1 e2 h1 h2 h3 st hcl
    subst h1; subst h2; subst h3
    exact Or.inr ⟨q, (T.setVm vm₁).calling g' mk As.toArray, t, U', L, E, ce, hT, X', hL, e1, e2, hq, hce, hcv, vx_cls hW₁ hcl, st⟩
end
end VXH
theorem vx_ofWH {l : Launch} {y : MethodName} {ws ws' : List Cond} {rm : Room} {Pc : Array Value → State → Prop} {Qc : Array Value → State → Outcome → State → Prop} {XC : String → State → State → Prop} {mc ms : Nat} {free : Addr → Prop} {cc : ByteArray} {maxL : Nat} {ret : Option FieldType} {hh : List (Nat × Nat × Nat × Nat)}
    (hy : plainName y.cls = true) (hw : ws = Cond.codeWith y cc maxL ret hh :: ws')
    (body : ∀ p e s m args below meth c s₁, BodyLoose p l y (headSpec ws rm) cc maxL ret e s m args below meth c s₁ → c.maxLocals = maxL → Pc args s →
      W p l e (headSpec ws rm).room s m args below meth c s.heap [] 0 0 (vx_MQ below Qc XC args s mc ms free) (entryFrame m args maxL)) : vx_Met l y ws rm Pc Qc XC mc ms free := by
  refine MetFree.of_bodyS (code := cc) (maxLocals := maxL) (ret := ret) hy ?_ ?_
  · intro args s m h hn
    obtain ⟨m9, meth, c, hn9, h1, h2, h3, h4, -, h5, h6, -⟩ := Cond.codeWith_spec (atoms_spec (ws := ws) h _ (by rw [hw]; exact List.mem_cons_self))
    cases hn.symm.trans hn9
    exact ⟨meth, c, h1, h2, h3, h4, h5, h6⟩
  · intro p e s m args below meth c s₁ B hml hP _
    have hh0 : s₁.heap = s.heap := by rw [B.state]; rfl
    obtain ⟨t, a1, o, b1, b2, b3⟩ := body p e s m args below meth c s₁ B hml hP s₁ hh0 (Stand.of_body B)
    exact ⟨t, o, a1, b1, b2, b3⟩
def RX0 : String := "TripleStore$Blocks"
def TX0 : u_T := fun k => match k with
  | 0 => ("TripleStore$Blocks", "terms", "LTripleStore$Terms;", true)
  | 1 => ("TripleStore$Blocks", "triples", "LTripleStore$Triples;", true)
  | 2 => ("TripleStore$Blocks", "rows", "LTripleStore$Rows;", true)
  | 3 => ("TripleStore$Blocks", "plan", "[LTripleStore$Node;", true)
  | 4 => ("TripleStore$Blocks", "mine", "[LTripleStore$Node;", true)
  | 5 => ("TripleStore$Blocks", "found", "[J", true)
  | 6 => ("TripleStore$Blocks", "differing", "[I", true)
  | 7 => ("TripleStore$Blocks", "trial", "[I", true)
  | 8 => ("TripleStore$Blocks", "best", "[I", true)
  | 9 => ("TripleStore$Blocks", "stamps", "[I", true)
  | 10 => ("TripleStore$Blocks", "times", "[[I", true)
  | 11 => ("TripleStore$Blocks", "points", "[[I", true)
  | 12 => ("TripleStore$Blocks", "pointCounts", "[I", true)
  | 13 => ("TripleStore$Blocks", "stamp", "I", false)
  | 14 => ("TripleStore$Blocks", "many", "I", false)
  | 15 => ("TripleStore$Blocks", "least", "J", false)
  | _ => ("TripleStore$Blocks", "planned", "I", false)
def tyX0 : Nat → FieldType := fun k => match k with
  | 0 => .object "TripleStore$Terms"
  | 1 => .object "TripleStore$Triples"
  | 2 => .object "TripleStore$Rows"
  | 3 => .array (.object "TripleStore$Node")
  | 4 => .array (.object "TripleStore$Node")
  | 5 => .array .long
  | 6 => .array .int
  | 7 => .array .int
  | 8 => .array .int
  | 9 => .array .int
  | 10 => .array (.array .int)
  | 11 => .array (.array .int)
  | 12 => .array .int
  | 13 => .int
  | 14 => .int
  | 15 => .long
  | _ => .int
abbrev wsX00 : List Cond := u_ws RX0 TX0 17
theorem nmX0 : ∀ a, a < 17 → ∀ b, b < 17 → a ≠ b → (TX0 a).2.1 ≠ (TX0 b).2.1 := by decide +kernel
theorem tyX0_ok : ∀ k, k < 17 → parseFieldDescriptor (TX0 k).2.2.1 = some (tyX0 k) := by decide +kernel
abbrev cX0_init : ByteArray := prog_2_method_1_code
def yX0_init : MethodName := ⟨RX0, "<init>", "(LTripleStore$Terms;LTripleStore$Triples;LTripleStore$Rows;)V"⟩
abbrev cX0_plannedPattern : ByteArray := prog_2_method_2_code
def yX0_plannedPattern : MethodName := ⟨RX0, "plannedPattern", "(I)I"⟩
abbrev cX0_planAll : ByteArray := prog_2_method_3_code
def yX0_planAll : MethodName := ⟨RX0, "planAll", "(LTripleStore$Node;)V"⟩
abbrev cX0_planBlock : ByteArray := prog_2_method_4_code
def yX0_planBlock : MethodName := ⟨RX0, "planBlock", "(LTripleStore$Node;)V"⟩
abbrev cX0_measure : ByteArray := prog_2_method_5_code
def yX0_measure : MethodName := ⟨RX0, "measure", "(ILTripleStore$Node;)V"⟩
abbrev cX0_estimate : ByteArray := prog_2_method_6_code
def yX0_estimate : MethodName := ⟨RX0, "estimate", "(II)J"⟩
abbrev cX0_isKnown : ByteArray := prog_2_method_7_code
def yX0_isKnown : MethodName := ⟨RX0, "isKnown", "(II)Z"⟩
abbrev cX0_knownBy : ByteArray := prog_2_method_8_code
def yX0_knownBy : MethodName := ⟨RX0, "knownBy", "(I)I"⟩
abbrev cX0_arrange : ByteArray := prog_2_method_9_code
def yX0_arrange : MethodName := ⟨RX0, "arrange", "(IIIJJ)V"⟩
abbrev cX0_plannedAt : ByteArray := prog_2_method_10_code
def yX0_plannedAt : MethodName := ⟨RX0, "plannedAt", "(LTripleStore$Node;I)LTripleStore$Node;"⟩
abbrev cX0_line : ByteArray := prog_2_method_11_code
def yX0_line : MethodName := ⟨RX0, "line", "(LTripleStore$Node;I)V"⟩
abbrev cX0_pattern : ByteArray := prog_2_method_12_code
def yX0_pattern : MethodName := ⟨RX0, "pattern", "(LTripleStore$Node;I)V"⟩
abbrev cX0_isOneVariable : ByteArray := prog_2_method_13_code
def yX0_isOneVariable : MethodName := ⟨RX0, "isOneVariable", "(II)Z"⟩
abbrev cX0_give : ByteArray := prog_2_method_14_code
def yX0_give : MethodName := ⟨RX0, "give", "(III)V"⟩
abbrev cX0_pathLine : ByteArray := prog_2_method_15_code
def yX0_pathLine : MethodName := ⟨RX0, "pathLine", "(LTripleStore$Node;I)V"⟩
abbrev cX0_pointOf : ByteArray := prog_2_method_16_code
def yX0_pointOf : MethodName := ⟨RX0, "pointOf", "(I)I"⟩
abbrev cX0_giveReached : ByteArray := prog_2_method_17_code
def yX0_giveReached : MethodName := ⟨RX0, "giveReached", "(LTripleStore$Node;IIZI)V"⟩
abbrev cX0_clear : ByteArray := prog_2_method_18_code
def yX0_clear : MethodName := ⟨RX0, "clear", "(I)V"⟩
abbrev cX0_add : ByteArray := prog_2_method_19_code
def yX0_add : MethodName := ⟨RX0, "add", "(IIIZ)V"⟩
abbrev cX0_walk : ByteArray := prog_2_method_20_code
def yX0_walk : MethodName := ⟨RX0, "walk", "(LTripleStore$Node;IIII)V"⟩
abbrev cX0_walkName : ByteArray := prog_2_method_21_code
def yX0_walkName : MethodName := ⟨RX0, "walkName", "(LTripleStore$Node;III)V"⟩
abbrev cX0_walkOther : ByteArray := prog_2_method_22_code
def yX0_walkOther : MethodName := ⟨RX0, "walkOther", "(LTripleStore$Node;IIIZ)V"⟩
abbrev cX0_isAmong : ByteArray := prog_2_method_23_code
def yX0_isAmong : MethodName := ⟨RX0, "isAmong", "(LTripleStore$Node;IZ)Z"⟩
abbrev cX0_walkRow : ByteArray := prog_2_method_24_code
def yX0_walkRow : MethodName := ⟨RX0, "walkRow", "(LTripleStore$Node;IIII)V"⟩
abbrev cX0_pieceAt : ByteArray := prog_2_method_25_code
def yX0_pieceAt : MethodName := ⟨RX0, "pieceAt", "(LTripleStore$Node;I)LTripleStore$Node;"⟩
abbrev cX0_walkRepeated : ByteArray := prog_2_method_26_code
def yX0_walkRepeated : MethodName := ⟨RX0, "walkRepeated", "(LTripleStore$Node;IIII)V"⟩
abbrev cX0_repeat : ByteArray := prog_2_method_27_code
def yX0_repeat : MethodName := ⟨RX0, "repeat", "(LTripleStore$Node;III)V"⟩
def RX1 : String := "TripleStore$Expressions"
def TX1 : u_T := fun k => match k with
  | 0 => ("TripleStore$Expressions", "terms", "LTripleStore$Terms;", true)
  | 1 => ("TripleStore$Expressions", "rows", "LTripleStore$Rows;", true)
  | 2 => ("TripleStore$Expressions", "nothing", "LTripleStore$Value;", true)
  | 3 => ("TripleStore$Expressions", "spare", "LTripleStore$Value;", true)
  | 4 => ("TripleStore$Expressions", "piece", "LTripleStore$Value;", true)
  | 5 => ("TripleStore$Expressions", "limbs", "[J", true)
  | 6 => ("TripleStore$Expressions", "groups", "LTripleStore$Groups;", false)
  | 7 => ("TripleStore$Expressions", "setFrom", "I", false)
  | _ => ("TripleStore$Expressions", "setTo", "I", false)
def tyX1 : Nat → FieldType := fun k => match k with
  | 0 => .object "TripleStore$Terms"
  | 1 => .object "TripleStore$Rows"
  | 2 => .object "TripleStore$Value"
  | 3 => .object "TripleStore$Value"
  | 4 => .object "TripleStore$Value"
  | 5 => .array .long
  | 6 => .object "TripleStore$Groups"
  | 7 => .int
  | _ => .int
abbrev wsX10 : List Cond := u_ws RX1 TX1 9
theorem nmX1 : ∀ a, a < 9 → ∀ b, b < 9 → a ≠ b → (TX1 a).2.1 ≠ (TX1 b).2.1 := by decide +kernel
theorem tyX1_ok : ∀ k, k < 9 → parseFieldDescriptor (TX1 k).2.2.1 = some (tyX1 k) := by decide +kernel
abbrev cX1_init : ByteArray := prog_3_method_1_code
def yX1_init : MethodName := ⟨RX1, "<init>", "(LTripleStore$Terms;LTripleStore$Rows;)V"⟩
abbrev cX1_worth : ByteArray := prog_3_method_2_code
def yX1_worth : MethodName := ⟨RX1, "worth", "(LTripleStore$Node;I)LTripleStore$Value;"⟩
abbrev cX1_holds : ByteArray := prog_3_method_3_code
def yX1_holds : MethodName := ⟨RX1, "holds", "(LTripleStore$Node;I)Z"⟩
abbrev cX1_work : ByteArray := prog_3_method_4_code
def yX1_work : MethodName := ⟨RX1, "work", "(LTripleStore$Node;LTripleStore$Value;I)V"⟩
abbrev cX1_exists : ByteArray := prog_3_method_5_code
def yX1_exists : MethodName := ⟨RX1, "exists", "(LTripleStore$Node;I)Z"⟩
abbrev cX1_logic : ByteArray := prog_3_method_6_code
def yX1_logic : MethodName := ⟨RX1, "logic", "(LTripleStore$Node;)I"⟩
abbrev cX1_among : ByteArray := prog_3_method_7_code
def yX1_among : MethodName := ⟨RX1, "among", "(LTripleStore$Node;)I"⟩
abbrev cX1_equal : ByteArray := prog_3_method_8_code
def yX1_equal : MethodName := ⟨RX1, "equal", "(LTripleStore$Value;LTripleStore$Value;)I"⟩
abbrev cX1_less : ByteArray := prog_3_method_9_code
def yX1_less : MethodName := ⟨RX1, "less", "(LTripleStore$Value;LTripleStore$Value;)I"⟩
abbrev cX1_opposite : ByteArray := prog_3_method_10_code
def yX1_opposite : MethodName := ⟨RX1, "opposite", "(I)I"⟩
abbrev cX1_simple : ByteArray := prog_3_method_11_code
def yX1_simple : MethodName := ⟨RX1, "simple", "(LTripleStore$Node;LTripleStore$Value;)V"⟩
abbrev cX1_comparison : ByteArray := prog_3_method_12_code
def yX1_comparison : MethodName := ⟨RX1, "comparison", "(ILTripleStore$Value;LTripleStore$Value;)I"⟩
abbrev cX1_coalesce : ByteArray := prog_3_method_13_code
def yX1_coalesce : MethodName := ⟨RX1, "coalesce", "(LTripleStore$Node;LTripleStore$Value;)V"⟩
abbrev cX1_concat : ByteArray := prog_3_method_14_code
def yX1_concat : MethodName := ⟨RX1, "concat", "(LTripleStore$Node;LTripleStore$Value;)V"⟩
abbrev cX1_substr : ByteArray := prog_3_method_15_code
def yX1_substr : MethodName := ⟨RX1, "substr", "(LTripleStore$Value;LTripleStore$Value;LTripleStore$Value;LTripleStore$Value;)V"⟩
abbrev cX1_ofTwo : ByteArray := prog_3_method_16_code
def yX1_ofTwo : MethodName := ⟨RX1, "ofTwo", "(ILTripleStore$Value;LTripleStore$Value;LTripleStore$Value;)V"⟩
abbrev cX1_ofTerm : ByteArray := prog_3_method_17_code
def yX1_ofTerm : MethodName := ⟨RX1, "ofTerm", "(ILTripleStore$Value;LTripleStore$Value;)V"⟩
abbrev cX1_ofPlain : ByteArray := prog_3_method_18_code
def yX1_ofPlain : MethodName := ⟨RX1, "ofPlain", "(ILTripleStore$Value;LTripleStore$Value;)V"⟩
abbrev cX1_describe : ByteArray := prog_3_method_19_code
def yX1_describe : MethodName := ⟨RX1, "describe", "(ILTripleStore$Value;LTripleStore$Value;)V"⟩
abbrev cX1_typeOf : ByteArray := prog_3_method_20_code
def yX1_typeOf : MethodName := ⟨RX1, "typeOf", "(I)Ljava/lang/String;"⟩
abbrev cX1_toName : ByteArray := prog_3_method_21_code
def yX1_toName : MethodName := ⟨RX1, "toName", "(LTripleStore$Value;LTripleStore$Value;)V"⟩
abbrev cX1_ofNumber : ByteArray := prog_3_method_22_code
def yX1_ofNumber : MethodName := ⟨RX1, "ofNumber", "(ILTripleStore$Value;LTripleStore$Value;)V"⟩
abbrev cX1_arithmetic : ByteArray := prog_3_method_23_code
def yX1_arithmetic : MethodName := ⟨RX1, "arithmetic", "(ILTripleStore$Value;LTripleStore$Value;LTripleStore$Value;)V"⟩
abbrev cX1_settleSum : ByteArray := prog_3_method_24_code
def yX1_settleSum : MethodName := ⟨RX1, "settleSum", "(JJZLTripleStore$Value;)V"⟩
abbrev cX1_setLimbs : ByteArray := prog_3_method_25_code
def yX1_setLimbs : MethodName := ⟨RX1, "setLimbs", "(JJJJJ)V"⟩
abbrev cX1_settle : ByteArray := prog_3_method_26_code
def yX1_settle : MethodName := ⟨RX1, "settle", "(ZZLTripleStore$Value;)V"⟩
abbrev cX1_multiply : ByteArray := prog_3_method_27_code
def yX1_multiply : MethodName := ⟨RX1, "multiply", "(LTripleStore$Value;LTripleStore$Value;)V"⟩
abbrev cX1_growLimbs : ByteArray := prog_3_method_28_code
def yX1_growLimbs : MethodName := ⟨RX1, "growLimbs", "(JJ)V"⟩
abbrev cX1_divideLimbs : ByteArray := prog_3_method_29_code
def yX1_divideLimbs : MethodName := ⟨RX1, "divideLimbs", "(J)V"⟩
abbrev cX1_divide : ByteArray := prog_3_method_30_code
def yX1_divide : MethodName := ⟨RX1, "divide", "(LTripleStore$Value;LTripleStore$Value;LTripleStore$Value;)V"⟩
abbrev cX1_aggregate : ByteArray := prog_3_method_31_code
def yX1_aggregate : MethodName := ⟨RX1, "aggregate", "(LTripleStore$Node;LTripleStore$Value;)V"⟩
abbrev cX1_countDifferent : ByteArray := prog_3_method_32_code
def yX1_countDifferent : MethodName := ⟨RX1, "countDifferent", "()I"⟩
abbrev cX1_keepOneEach : ByteArray := prog_3_method_33_code
def yX1_keepOneEach : MethodName := ⟨RX1, "keepOneEach", "(I)V"⟩
abbrev cX1_countErrors : ByteArray := prog_3_method_34_code
def yX1_countErrors : MethodName := ⟨RX1, "countErrors", "(I)I"⟩
abbrev cX1_total : ByteArray := prog_3_method_35_code
def yX1_total : MethodName := ⟨RX1, "total", "(IZLTripleStore$Value;)V"⟩
abbrev cX1_extreme : ByteArray := prog_3_method_36_code
def yX1_extreme : MethodName := ⟨RX1, "extreme", "(IZLTripleStore$Value;)V"⟩
abbrev cX1_chain : ByteArray := prog_3_method_37_code
def yX1_chain : MethodName := ⟨RX1, "chain", "(IILTripleStore$Value;)V"⟩
def RX2 : String := "TripleStore$Groups"
def TX2 : u_T := fun k => match k with
  | 0 => ("TripleStore$Groups", "terms", "LTripleStore$Terms;", true)
  | 1 => ("TripleStore$Groups", "rows", "LTripleStore$Rows;", true)
  | 2 => ("TripleStore$Groups", "blocks", "LTripleStore$Blocks;", true)
  | 3 => ("TripleStore$Groups", "expressions", "LTripleStore$Expressions;", true)
  | 4 => ("TripleStore$Groups", "termsMade", "I", false)
  | _ => ("TripleStore$Groups", "bytesMade", "I", false)
def tyX2 : Nat → FieldType := fun k => match k with
  | 0 => .object "TripleStore$Terms"
  | 1 => .object "TripleStore$Rows"
  | 2 => .object "TripleStore$Blocks"
  | 3 => .object "TripleStore$Expressions"
  | 4 => .int
  | _ => .int
abbrev wsX20 : List Cond := u_ws RX2 TX2 6
theorem nmX2 : ∀ a, a < 6 → ∀ b, b < 6 → a ≠ b → (TX2 a).2.1 ≠ (TX2 b).2.1 := by decide +kernel
theorem tyX2_ok : ∀ k, k < 6 → parseFieldDescriptor (TX2 k).2.2.1 = some (tyX2 k) := by decide +kernel
abbrev cX2_init : ByteArray := prog_4_method_1_code
def yX2_init : MethodName := ⟨RX2, "<init>", "(LTripleStore$Terms;LTripleStore$Rows;LTripleStore$Blocks;LTripleStore$Expressions;)V"⟩
abbrev cX2_begin : ByteArray := prog_4_method_2_code
def yX2_begin : MethodName := ⟨RX2, "begin", "()V"⟩
abbrev cX2_group : ByteArray := prog_4_method_3_code
def yX2_group : MethodName := ⟨RX2, "group", "(LTripleStore$Node;IZ)V"⟩
abbrev cX2_part : ByteArray := prog_4_method_4_code
def yX2_part : MethodName := ⟨RX2, "part", "(LTripleStore$Node;I)V"⟩
abbrev cX2_bag : ByteArray := prog_4_method_5_code
def yX2_bag : MethodName := ⟨RX2, "bag", "(LTripleStore$Node;Z)V"⟩
abbrev cX2_filter : ByteArray := prog_4_method_6_code
def yX2_filter : MethodName := ⟨RX2, "filter", "(LTripleStore$Node;I)V"⟩
abbrev cX2_passes : ByteArray := prog_4_method_7_code
def yX2_passes : MethodName := ⟨RX2, "passes", "(LTripleStore$Node;I)Z"⟩
abbrev cX2_optional : ByteArray := prog_4_method_8_code
def yX2_optional : MethodName := ⟨RX2, "optional", "(LTripleStore$Node;I)V"⟩
abbrev cX2_minus : ByteArray := prog_4_method_9_code
def yX2_minus : MethodName := ⟨RX2, "minus", "(LTripleStore$Node;I)V"⟩
abbrev cX2_table : ByteArray := prog_4_method_10_code
def yX2_table : MethodName := ⟨RX2, "table", "(LTripleStore$Node;I)V"⟩
abbrev cX2_keep : ByteArray := prog_4_method_11_code
def yX2_keep : MethodName := ⟨RX2, "keep", "(LTripleStore$Value;)I"⟩
abbrev cX2_select : ByteArray := prog_4_method_12_code
def yX2_select : MethodName := ⟨RX2, "select", "(LTripleStore$Node;I)V"⟩
abbrev cX2_compareColumns : ByteArray := prog_4_method_13_code
def yX2_compareColumns : MethodName := ⟨RX2, "compareColumns", "(LTripleStore$Node;)V"⟩
abbrev cX2_finish : ByteArray := prog_4_method_14_code
def yX2_finish : MethodName := ⟨RX2, "finish", "(LTripleStore$Node;I)V"⟩
abbrev cX2_sets : ByteArray := prog_4_method_15_code
def yX2_sets : MethodName := ⟨RX2, "sets", "(LTripleStore$Node;I)V"⟩
abbrev cX2_compareSets : ByteArray := prog_4_method_16_code
def yX2_compareSets : MethodName := ⟨RX2, "compareSets", "(LTripleStore$Node;)V"⟩
abbrev cX2_set : ByteArray := prog_4_method_17_code
def yX2_set : MethodName := ⟨RX2, "set", "(LTripleStore$Node;II)V"⟩
abbrev cX2_project : ByteArray := prog_4_method_18_code
def yX2_project : MethodName := ⟨RX2, "project", "(LTripleStore$Node;I)V"⟩
abbrev cX2_slice : ByteArray := prog_4_method_19_code
def yX2_slice : MethodName := ⟨RX2, "slice", "(LTripleStore$Node;I)V"⟩
def RX3 : String := "TripleStore$Node"
def TX3 : u_T := fun k => match k with
  | 0 => ("TripleStore$Node", "kind", "I", true)
  | 1 => ("TripleStore$Node", "at", "I", false)
  | 2 => ("TripleStore$Node", "variable", "I", false)
  | 3 => ("TripleStore$Node", "subject", "I", false)
  | 4 => ("TripleStore$Node", "verb", "I", false)
  | 5 => ("TripleStore$Node", "object", "I", false)
  | 6 => ("TripleStore$Node", "count", "I", false)
  | 7 => ("TripleStore$Node", "distinct", "Z", false)
  | 8 => ("TripleStore$Node", "star", "Z", false)
  | 9 => ("TripleStore$Node", "negated", "Z", false)
  | 10 => ("TripleStore$Node", "grouped", "Z", false)
  | 11 => ("TripleStore$Node", "list", "[I", false)
  | 12 => ("TripleStore$Node", "size", "I", false)
  | 13 => ("TripleStore$Node", "first", "LTripleStore$Node;", false)
  | 14 => ("TripleStore$Node", "last", "LTripleStore$Node;", false)
  | 15 => ("TripleStore$Node", "next", "LTripleStore$Node;", false)
  | 16 => ("TripleStore$Node", "inner", "LTripleStore$Node;", false)
  | 17 => ("TripleStore$Node", "start", "LTripleStore$Node;", false)
  | 18 => ("TripleStore$Node", "tail", "LTripleStore$Node;", false)
  | 19 => ("TripleStore$Node", "follow", "LTripleStore$Node;", false)
  | 20 => ("TripleStore$Node", "outer", "LTripleStore$Node;", false)
  | _ => ("TripleStore$Node", "value", "LTripleStore$Value;", false)
def tyX3 : Nat → FieldType := fun k => match k with
  | 0 => .int
  | 1 => .int
  | 2 => .int
  | 3 => .int
  | 4 => .int
  | 5 => .int
  | 6 => .int
  | 7 => .boolean
  | 8 => .boolean
  | 9 => .boolean
  | 10 => .boolean
  | 11 => .array .int
  | 12 => .int
  | 13 => .object "TripleStore$Node"
  | 14 => .object "TripleStore$Node"
  | 15 => .object "TripleStore$Node"
  | 16 => .object "TripleStore$Node"
  | 17 => .object "TripleStore$Node"
  | 18 => .object "TripleStore$Node"
  | 19 => .object "TripleStore$Node"
  | 20 => .object "TripleStore$Node"
  | _ => .object "TripleStore$Value"
abbrev wsX30 : List Cond := u_ws RX3 TX3 22
theorem nmX3 : ∀ a, a < 22 → ∀ b, b < 22 → a ≠ b → (TX3 a).2.1 ≠ (TX3 b).2.1 := by decide +kernel
theorem tyX3_ok : ∀ k, k < 22 → parseFieldDescriptor (TX3 k).2.2.1 = some (tyX3 k) := by decide +kernel
abbrev cX3_init : ByteArray := prog_5_method_1_code
def yX3_init : MethodName := ⟨RX3, "<init>", "(II)V"⟩
abbrev cX3_add : ByteArray := prog_5_method_2_code
def yX3_add : MethodName := ⟨RX3, "add", "(LTripleStore$Node;)LTripleStore$Node;"⟩
abbrev cX3_append : ByteArray := prog_5_method_3_code
def yX3_append : MethodName := ⟨RX3, "append", "(LTripleStore$Node;)V"⟩
abbrev cX3_list : ByteArray := prog_5_method_4_code
def yX3_list : MethodName := ⟨RX3, "list", "(I)V"⟩
abbrev cX3_listed : ByteArray := prog_5_method_5_code
def yX3_listed : MethodName := ⟨RX3, "listed", "(I)I"⟩
abbrev cX3_lists : ByteArray := prog_5_method_6_code
def yX3_lists : MethodName := ⟨RX3, "lists", "(I)Z"⟩
abbrev cX3_bring : ByteArray := prog_5_method_7_code
def yX3_bring : MethodName := ⟨RX3, "bring", "(I)V"⟩
abbrev cX3_worth : ByteArray := prog_5_method_8_code
def yX3_worth : MethodName := ⟨RX3, "worth", "(I)LTripleStore$Value;"⟩
def RX4 : String := "TripleStore$Parser"
def TX4 : u_T := fun k => match k with
  | 0 => ("TripleStore$Parser", "terms", "LTripleStore$Terms;", true)
  | 1 => ("TripleStore$Parser", "values", "[LTripleStore$Value;", true)
  | 2 => ("TripleStore$Parser", "valuesUsed", "I", false)
  | 3 => ("TripleStore$Parser", "nodes", "I", false)
  | 4 => ("TripleStore$Parser", "groups", "I", false)
  | 5 => ("TripleStore$Parser", "lines", "I", false)
  | 6 => ("TripleStore$Parser", "patterns", "I", false)
  | 7 => ("TripleStore$Parser", "given", "I", false)
  | 8 => ("TripleStore$Parser", "steps", "I", false)
  | 9 => ("TripleStore$Parser", "lastBlock", "LTripleStore$Node;", false)
  | 10 => ("TripleStore$Parser", "base", "LTripleStore$Node;", false)
  | 11 => ("TripleStore$Parser", "holder", "LTripleStore$Node;", false)
  | 12 => ("TripleStore$Parser", "open", "LTripleStore$Node;", false)
  | 13 => ("TripleStore$Parser", "operand", "LTripleStore$Node;", false)
  | 14 => ("TripleStore$Parser", "select", "LTripleStore$Node;", false)
  | 15 => ("TripleStore$Parser", "depth", "I", false)
  | 16 => ("TripleStore$Parser", "brackets", "I", false)
  | 17 => ("TripleStore$Parser", "signs", "I", false)
  | 18 => ("TripleStore$Parser", "tested", "Z", false)
  | 19 => ("TripleStore$Parser", "tokens", "LTripleStore$Tokens;", true)
  | 20 => ("TripleStore$Parser", "firstBlock", "LTripleStore$Node;", false)
  | _ => ("TripleStore$Parser", "keyed", "Z", false)
def tyX4 : Nat → FieldType := fun k => match k with
  | 0 => .object "TripleStore$Terms"
  | 1 => .array (.object "TripleStore$Value")
  | 2 => .int
  | 3 => .int
  | 4 => .int
  | 5 => .int
  | 6 => .int
  | 7 => .int
  | 8 => .int
  | 9 => .object "TripleStore$Node"
  | 10 => .object "TripleStore$Node"
  | 11 => .object "TripleStore$Node"
  | 12 => .object "TripleStore$Node"
  | 13 => .object "TripleStore$Node"
  | 14 => .object "TripleStore$Node"
  | 15 => .int
  | 16 => .int
  | 17 => .int
  | 18 => .boolean
  | 19 => .object "TripleStore$Tokens"
  | 20 => .object "TripleStore$Node"
  | _ => .boolean
abbrev wsX40 : List Cond := u_ws RX4 TX4 22
theorem nmX4 : ∀ a, a < 22 → ∀ b, b < 22 → a ≠ b → (TX4 a).2.1 ≠ (TX4 b).2.1 := by decide +kernel
theorem tyX4_ok : ∀ k, k < 22 → parseFieldDescriptor (TX4 k).2.2.1 = some (tyX4 k) := by decide +kernel
abbrev cX4_init : ByteArray := prog_6_method_1_code
def yX4_init : MethodName := ⟨RX4, "<init>", "(LTripleStore$Tokens;LTripleStore$Terms;)V"⟩
abbrev cX4_statement : ByteArray := prog_6_method_2_code
def yX4_statement : MethodName := ⟨RX4, "statement", "()LTripleStore$Node;"⟩
abbrev cX4_parts : ByteArray := prog_6_method_3_code
def yX4_parts : MethodName := ⟨RX4, "parts", "(LTripleStore$Node;)Z"⟩
abbrev cX4_whole : ByteArray := prog_6_method_4_code
def yX4_whole : MethodName := ⟨RX4, "whole", "()I"⟩
abbrev cX4_facts : ByteArray := prog_6_method_5_code
def yX4_facts : MethodName := ⟨RX4, "facts", "(LTripleStore$Node;II)V"⟩
abbrev cX4_fact : ByteArray := prog_6_method_6_code
def yX4_fact : MethodName := ⟨RX4, "fact", "(LTripleStore$Node;I)V"⟩
abbrev cX4_refuseVariable : ByteArray := prog_6_method_7_code
def yX4_refuseVariable : MethodName := ⟨RX4, "refuseVariable", "(I)V"⟩
abbrev cX4_takeIf : ByteArray := prog_6_method_8_code
def yX4_takeIf : MethodName := ⟨RX4, "takeIf", "(I)Z"⟩
abbrev cX4_node : ByteArray := prog_6_method_9_code
def yX4_node : MethodName := ⟨RX4, "node", "(Z)I"⟩
abbrev cX4_name : ByteArray := prog_6_method_10_code
def yX4_name : MethodName := ⟨RX4, "name", "()I"⟩
abbrev cX4_select : ByteArray := prog_6_method_11_code
def yX4_select : MethodName := ⟨RX4, "select", "(LTripleStore$Node;I)V"⟩
abbrev cX4_items : ByteArray := prog_6_method_12_code
def yX4_items : MethodName := ⟨RX4, "items", "(LTripleStore$Node;II)V"⟩
abbrev cX4_item : ByteArray := prog_6_method_13_code
def yX4_item : MethodName := ⟨RX4, "item", "(LTripleStore$Node;LTripleStore$Node;I)V"⟩
abbrev cX4_target : ByteArray := prog_6_method_14_code
def yX4_target : MethodName := ⟨RX4, "target", "(LTripleStore$Node;)V"⟩
abbrev cX4_ends : ByteArray := prog_6_method_15_code
def yX4_ends : MethodName := ⟨RX4, "ends", "(LTripleStore$Node;I)V"⟩
abbrev cX4_amount : ByteArray := prog_6_method_16_code
def yX4_amount : MethodName := ⟨RX4, "amount", "(LTripleStore$Node;I)V"⟩
abbrev cX4_bracketed : ByteArray := prog_6_method_17_code
def yX4_bracketed : MethodName := ⟨RX4, "bracketed", "(LTripleStore$Node;LTripleStore$Node;I)V"⟩
abbrev cX4_isKey : ByteArray := prog_6_method_18_code
def yX4_isKey : MethodName := ⟨RX4, "isKey", "()Z"⟩
abbrev cX4_keys : ByteArray := prog_6_method_19_code
def yX4_keys : MethodName := ⟨RX4, "keys", "(LTripleStore$Node;I)V"⟩
abbrev cX4_check : ByteArray := prog_6_method_20_code
def yX4_check : MethodName := ⟨RX4, "check", "(LTripleStore$Node;)V"⟩
abbrev cX4_refuse : ByteArray := prog_6_method_21_code
def yX4_refuse : MethodName := ⟨RX4, "refuse", "(ZI)V"⟩
abbrev cX4_checkGrouped : ByteArray := prog_6_method_22_code
def yX4_checkGrouped : MethodName := ⟨RX4, "checkGrouped", "(LTripleStore$Node;LTripleStore$Node;)V"⟩
abbrev cX4_group : ByteArray := prog_6_method_23_code
def yX4_group : MethodName := ⟨RX4, "group", "(I)LTripleStore$Node;"⟩
abbrev cX4_bringAll : ByteArray := prog_6_method_24_code
def yX4_bringAll : MethodName := ⟨RX4, "bringAll", "(LTripleStore$Node;LTripleStore$Node;)V"⟩
abbrev cX4_part : ByteArray := prog_6_method_25_code
def yX4_part : MethodName := ⟨RX4, "part", "(LTripleStore$Node;I)Z"⟩
abbrev cX4_unions : ByteArray := prog_6_method_26_code
def yX4_unions : MethodName := ⟨RX4, "unions", "(LTripleStore$Node;I)V"⟩
abbrev cX4_filter : ByteArray := prog_6_method_27_code
def yX4_filter : MethodName := ⟨RX4, "filter", "(LTripleStore$Node;I)V"⟩
abbrev cX4_binding : ByteArray := prog_6_method_28_code
def yX4_binding : MethodName := ⟨RX4, "binding", "(LTripleStore$Node;LTripleStore$Node;I)V"⟩
abbrev cX4_table : ByteArray := prog_6_method_29_code
def yX4_table : MethodName := ⟨RX4, "table", "(LTripleStore$Node;LTripleStore$Node;)V"⟩
abbrev cX4_tableColumns : ByteArray := prog_6_method_30_code
def yX4_tableColumns : MethodName := ⟨RX4, "tableColumns", "(LTripleStore$Node;LTripleStore$Node;Z)V"⟩
abbrev cX4_isGiven : ByteArray := prog_6_method_31_code
def yX4_isGiven : MethodName := ⟨RX4, "isGiven", "()Z"⟩
abbrev cX4_row : ByteArray := prog_6_method_32_code
def yX4_row : MethodName := ⟨RX4, "row", "(LTripleStore$Node;Z)V"⟩
abbrev cX4_block : ByteArray := prog_6_method_33_code
def yX4_block : MethodName := ⟨RX4, "block", "(LTripleStore$Node;)V"⟩
abbrev cX4_bring : ByteArray := prog_6_method_34_code
def yX4_bring : MethodName := ⟨RX4, "bring", "(LTripleStore$Node;I)V"⟩
abbrev cX4_objects : ByteArray := prog_6_method_35_code
def yX4_objects : MethodName := ⟨RX4, "objects", "(LTripleStore$Node;LTripleStore$Node;LTripleStore$Node;)V"⟩
abbrev cX4_path : ByteArray := prog_6_method_36_code
def yX4_path : MethodName := ⟨RX4, "path", "(I)LTripleStore$Node;"⟩
abbrev cX4_step : ByteArray := prog_6_method_37_code
def yX4_step : MethodName := ⟨RX4, "step", "()V"⟩
abbrev cX4_stepRow : ByteArray := prog_6_method_38_code
def yX4_stepRow : MethodName := ⟨RX4, "stepRow", "(I)LTripleStore$Node;"⟩
abbrev cX4_oneStep : ByteArray := prog_6_method_39_code
def yX4_oneStep : MethodName := ⟨RX4, "oneStep", "(I)LTripleStore$Node;"⟩
abbrev cX4_stepItself : ByteArray := prog_6_method_40_code
def yX4_stepItself : MethodName := ⟨RX4, "stepItself", "(I)LTripleStore$Node;"⟩
abbrev cX4_openPath : ByteArray := prog_6_method_41_code
def yX4_openPath : MethodName := ⟨RX4, "openPath", "(I)Z"⟩
abbrev cX4_stepName : ByteArray := prog_6_method_42_code
def yX4_stepName : MethodName := ⟨RX4, "stepName", "()LTripleStore$Node;"⟩
abbrev cX4_expression : ByteArray := prog_6_method_43_code
def yX4_expression : MethodName := ⟨RX4, "expression", "(LTripleStore$Node;LTripleStore$Node;I)V"⟩
abbrev cX4_beginOperand : ByteArray := prog_6_method_44_code
def yX4_beginOperand : MethodName := ⟨RX4, "beginOperand", "()V"⟩
abbrev cX4_goOn : ByteArray := prog_6_method_45_code
def yX4_goOn : MethodName := ⟨RX4, "goOn", "()Z"⟩
abbrev cX4_operator : ByteArray := prog_6_method_46_code
def yX4_operator : MethodName := ⟨RX4, "operator", "(I)I"⟩
abbrev cX4_level : ByteArray := prog_6_method_47_code
def yX4_level : MethodName := ⟨RX4, "level", "(I)I"⟩
abbrev cX4_openLevel : ByteArray := prog_6_method_48_code
def yX4_openLevel : MethodName := ⟨RX4, "openLevel", "()I"⟩
abbrev cX4_reduce : ByteArray := prog_6_method_49_code
def yX4_reduce : MethodName := ⟨RX4, "reduce", "(I)V"⟩
abbrev cX4_operator_ : ByteArray := prog_6_method_50_code
def yX4_operator_ : MethodName := ⟨RX4, "operator", "(II)V"⟩
abbrev cX4_push : ByteArray := prog_6_method_51_code
def yX4_push : MethodName := ⟨RX4, "push", "(LTripleStore$Node;)V"⟩
abbrev cX4_pushSign : ByteArray := prog_6_method_52_code
def yX4_pushSign : MethodName := ⟨RX4, "pushSign", "(I)V"⟩
abbrev cX4_worthNode : ByteArray := prog_6_method_53_code
def yX4_worthNode : MethodName := ⟨RX4, "worthNode", "(I)LTripleStore$Node;"⟩
abbrev cX4_leaf : ByteArray := prog_6_method_54_code
def yX4_leaf : MethodName := ⟨RX4, "leaf", "(I)LTripleStore$Node;"⟩
abbrev cX4_fillLeaf : ByteArray := prog_6_method_55_code
def yX4_fillLeaf : MethodName := ⟨RX4, "fillLeaf", "(LTripleStore$Node;)V"⟩
abbrev cX4_countNode : ByteArray := prog_6_method_56_code
def yX4_countNode : MethodName := ⟨RX4, "countNode", "()V"⟩
abbrev cX4_openBracket : ByteArray := prog_6_method_57_code
def yX4_openBracket : MethodName := ⟨RX4, "openBracket", "(LTripleStore$Node;)V"⟩
abbrev cX4_closeBracket : ByteArray := prog_6_method_58_code
def yX4_closeBracket : MethodName := ⟨RX4, "closeBracket", "()V"⟩
abbrev cX4_nextArgument : ByteArray := prog_6_method_59_code
def yX4_nextArgument : MethodName := ⟨RX4, "nextArgument", "()V"⟩
abbrev cX4_function : ByteArray := prog_6_method_60_code
def yX4_function : MethodName := ⟨RX4, "function", "(I)V"⟩
abbrev cX4_among : ByteArray := prog_6_method_61_code
def yX4_among : MethodName := ⟨RX4, "among", "()V"⟩
abbrev cX4_bound : ByteArray := prog_6_method_62_code
def yX4_bound : MethodName := ⟨RX4, "bound", "()V"⟩
abbrev cX4_aggregate : ByteArray := prog_6_method_63_code
def yX4_aggregate : MethodName := ⟨RX4, "aggregate", "(I)V"⟩
abbrev cX4_separator : ByteArray := prog_6_method_64_code
def yX4_separator : MethodName := ⟨RX4, "separator", "()V"⟩
abbrev cX4_exists : ByteArray := prog_6_method_65_code
def yX4_exists : MethodName := ⟨RX4, "exists", "()LTripleStore$Node;"⟩
def RX5 : String := "TripleStore$Rows"
def TX5 : u_T := fun k => match k with
  | 0 => ("TripleStore$Rows", "terms", "LTripleStore$Terms;", true)
  | 1 => ("TripleStore$Rows", "columns", "[I", true)
  | 2 => ("TripleStore$Rows", "downward", "[Z", true)
  | 3 => ("TripleStore$Rows", "held", "[I", true)
  | 4 => ("TripleStore$Rows", "compared", "I", false)
  | 5 => ("TripleStore$Rows", "cells", "[I", false)
  | 6 => ("TripleStore$Rows", "order", "[I", false)
  | 7 => ("TripleStore$Rows", "spare", "[I", false)
  | 8 => ("TripleStore$Rows", "slots", "[I", false)
  | 9 => ("TripleStore$Rows", "slotMask", "I", false)
  | 10 => ("TripleStore$Rows", "width", "I", false)
  | 11 => ("TripleStore$Rows", "limit", "I", false)
  | 12 => ("TripleStore$Rows", "variables", "I", false)
  | 13 => ("TripleStore$Rows", "top", "I", false)
  | 14 => ("TripleStore$Rows", "made", "I", false)
  | _ => ("TripleStore$Rows", "over", "Z", false)
def tyX5 : Nat → FieldType := fun k => match k with
  | 0 => .object "TripleStore$Terms"
  | 1 => .array .int
  | 2 => .array .boolean
  | 3 => .array .int
  | 4 => .int
  | 5 => .array .int
  | 6 => .array .int
  | 7 => .array .int
  | 8 => .array .int
  | 9 => .int
  | 10 => .int
  | 11 => .int
  | 12 => .int
  | 13 => .int
  | 14 => .int
  | _ => .boolean
abbrev wsX50 : List Cond := u_ws RX5 TX5 16
theorem nmX5 : ∀ a, a < 16 → ∀ b, b < 16 → a ≠ b → (TX5 a).2.1 ≠ (TX5 b).2.1 := by decide +kernel
theorem tyX5_ok : ∀ k, k < 16 → parseFieldDescriptor (TX5 k).2.2.1 = some (tyX5 k) := by decide +kernel
abbrev cX5_init : ByteArray := prog_7_method_1_code
def yX5_init : MethodName := ⟨RX5, "<init>", "(LTripleStore$Terms;)V"⟩
abbrev cX5_begin : ByteArray := prog_7_method_2_code
def yX5_begin : MethodName := ⟨RX5, "begin", "(III)V"⟩
abbrev cX5_spend : ByteArray := prog_7_method_3_code
def yX5_spend : MethodName := ⟨RX5, "spend", "(I)V"⟩
abbrev cX5_hasRoomFor : ByteArray := prog_7_method_4_code
def yX5_hasRoomFor : MethodName := ⟨RX5, "hasRoomFor", "(I)Z"⟩
abbrev cX5_get : ByteArray := prog_7_method_5_code
def yX5_get : MethodName := ⟨RX5, "get", "(II)I"⟩
abbrev cX5_set : ByteArray := prog_7_method_6_code
def yX5_set : MethodName := ⟨RX5, "set", "(III)V"⟩
abbrev cX5_push : ByteArray := prog_7_method_7_code
def yX5_push : MethodName := ⟨RX5, "push", "()I"⟩
abbrev cX5_pushCopy : ByteArray := prog_7_method_8_code
def yX5_pushCopy : MethodName := ⟨RX5, "pushCopy", "(I)I"⟩
abbrev cX5_fit : ByteArray := prog_7_method_9_code
def yX5_fit : MethodName := ⟨RX5, "fit", "(II)Z"⟩
abbrev cX5_share : ByteArray := prog_7_method_10_code
def yX5_share : MethodName := ⟨RX5, "share", "(II)Z"⟩
abbrev cX5_pushJoined : ByteArray := prog_7_method_11_code
def yX5_pushJoined : MethodName := ⟨RX5, "pushJoined", "(II)I"⟩
abbrev cX5_join : ByteArray := prog_7_method_12_code
def yX5_join : MethodName := ⟨RX5, "join", "(II)V"⟩
abbrev cX5_close : ByteArray := prog_7_method_13_code
def yX5_close : MethodName := ⟨RX5, "close", "(II)V"⟩
abbrev cX5_move : ByteArray := prog_7_method_14_code
def yX5_move : MethodName := ⟨RX5, "move", "(II)V"⟩
abbrev cX5_resolve : ByteArray := prog_7_method_15_code
def yX5_resolve : MethodName := ⟨RX5, "resolve", "(II)I"⟩
abbrev cX5_compareNone : ByteArray := prog_7_method_16_code
def yX5_compareNone : MethodName := ⟨RX5, "compareNone", "()V"⟩
abbrev cX5_compareBy : ByteArray := prog_7_method_17_code
def yX5_compareBy : MethodName := ⟨RX5, "compareBy", "(IZ)V"⟩
abbrev cX5_compareVariables : ByteArray := prog_7_method_18_code
def yX5_compareVariables : MethodName := ⟨RX5, "compareVariables", "()V"⟩
abbrev cX5_compareTriples : ByteArray := prog_7_method_19_code
def yX5_compareTriples : MethodName := ⟨RX5, "compareTriples", "()V"⟩
abbrev cX5_compareFirst : ByteArray := prog_7_method_20_code
def yX5_compareFirst : MethodName := ⟨RX5, "compareFirst", "(I)V"⟩
abbrev cX5_compare : ByteArray := prog_7_method_21_code
def yX5_compare : MethodName := ⟨RX5, "compare", "(II)I"⟩
abbrev cX5_areAlike : ByteArray := prog_7_method_22_code
def yX5_areAlike : MethodName := ⟨RX5, "areAlike", "(II)Z"⟩
abbrev cX5_sort : ByteArray := prog_7_method_23_code
def yX5_sort : MethodName := ⟨RX5, "sort", "(II)V"⟩
abbrev cX5_merge : ByteArray := prog_7_method_24_code
def yX5_merge : MethodName := ⟨RX5, "merge", "(III)V"⟩
abbrev cX5_rearrange : ByteArray := prog_7_method_25_code
def yX5_rearrange : MethodName := ⟨RX5, "rearrange", "(II)V"⟩
abbrev cX5_beginSeen : ByteArray := prog_7_method_26_code
def yX5_beginSeen : MethodName := ⟨RX5, "beginSeen", "(I)V"⟩
abbrev cX5_isNew : ByteArray := prog_7_method_27_code
def yX5_isNew : MethodName := ⟨RX5, "isNew", "(I)Z"⟩
def RX6 : String := "TripleStore$Rules"
def TX6 : u_T := fun k => match k with
  | 0 => ("TripleStore$Rules", "terms", "LTripleStore$Terms;", true)
  | 1 => ("TripleStore$Rules", "triples", "LTripleStore$Triples;", true)
  | 2 => ("TripleStore$Rules", "parts", "[I", true)
  | 3 => ("TripleStore$Rules", "bodies", "[I", true)
  | 4 => ("TripleStore$Rules", "heads", "[I", true)
  | 5 => ("TripleStore$Rules", "chosen", "[I", true)
  | 6 => ("TripleStore$Rules", "newest", "I", false)
  | 7 => ("TripleStore$Rules", "first", "I", false)
  | 8 => ("TripleStore$Rules", "failed", "Z", false)
  | 9 => ("TripleStore$Rules", "size", "I", false)
  | _ => ("TripleStore$Rules", "choices", "I", false)
def tyX6 : Nat → FieldType := fun k => match k with
  | 0 => .object "TripleStore$Terms"
  | 1 => .object "TripleStore$Triples"
  | 2 => .array .int
  | 3 => .array .int
  | 4 => .array .int
  | 5 => .array .int
  | 6 => .int
  | 7 => .int
  | 8 => .boolean
  | 9 => .int
  | _ => .int
abbrev wsX60 : List Cond := u_ws RX6 TX6 11
theorem nmX6 : ∀ a, a < 11 → ∀ b, b < 11 → a ≠ b → (TX6 a).2.1 ≠ (TX6 b).2.1 := by decide +kernel
theorem tyX6_ok : ∀ k, k < 11 → parseFieldDescriptor (TX6 k).2.2.1 = some (tyX6 k) := by decide +kernel
abbrev cX6_init : ByteArray := prog_8_method_1_code
def yX6_init : MethodName := ⟨RX6, "<init>", "(LTripleStore$Terms;LTripleStore$Triples;)V"⟩
abbrev cX6_append : ByteArray := prog_8_method_2_code
def yX6_append : MethodName := ⟨RX6, "append", "(LTripleStore$Rows;I)V"⟩
abbrev cX6_drop : ByteArray := prog_8_method_3_code
def yX6_drop : MethodName := ⟨RX6, "drop", "(I)V"⟩
abbrev cX6_follow : ByteArray := prog_8_method_4_code
def yX6_follow : MethodName := ⟨RX6, "follow", "()Z"⟩
abbrev cX6_termAt : ByteArray := prog_8_method_5_code
def yX6_termAt : MethodName := ⟨RX6, "termAt", "(III)I"⟩
abbrev cX6_variableAt : ByteArray := prog_8_method_6_code
def yX6_variableAt : MethodName := ⟨RX6, "variableAt", "(III)I"⟩
abbrev cX6_bind : ByteArray := prog_8_method_7_code
def yX6_bind : MethodName := ⟨RX6, "bind", "(III)I"⟩
abbrev cX6_release : ByteArray := prog_8_method_8_code
def yX6_release : MethodName := ⟨RX6, "release", "(I)V"⟩
abbrev cX6_extend : ByteArray := prog_8_method_9_code
def yX6_extend : MethodName := ⟨RX6, "extend", "(II)V"⟩
abbrev cX6_easiest : ByteArray := prog_8_method_10_code
def yX6_easiest : MethodName := ⟨RX6, "easiest", "(II)I"⟩
abbrev cX6_narrowest : ByteArray := prog_8_method_11_code
def yX6_narrowest : MethodName := ⟨RX6, "narrowest", "(II)I"⟩
abbrev cX6_conclude : ByteArray := prog_8_method_12_code
def yX6_conclude : MethodName := ⟨RX6, "conclude", "(I)V"⟩
def RX7 : String := "TripleStore$Terms"
def TX7 : u_T := fun k => match k with
  | 0 => ("TripleStore$Terms", "kinds", "[B", true)
  | 1 => ("TripleStore$Terms", "scales", "[B", true)
  | 2 => ("TripleStore$Terms", "lengths", "[B", true)
  | 3 => ("TripleStore$Terms", "extras", "[B", true)
  | 4 => ("TripleStore$Terms", "numbers", "[J", true)
  | 5 => ("TripleStore$Terms", "starts", "[I", true)
  | 6 => ("TripleStore$Terms", "hashes", "[I", true)
  | 7 => ("TripleStore$Terms", "nexts", "[I", true)
  | 8 => ("TripleStore$Terms", "marks", "[I", true)
  | 9 => ("TripleStore$Terms", "heads", "[I", true)
  | 10 => ("TripleStore$Terms", "scratch", "LTripleStore$Value;", true)
  | 11 => ("TripleStore$Terms", "kept", "[B", false)
  | 12 => ("TripleStore$Terms", "loose", "[B", false)
  | 13 => ("TripleStore$Terms", "keptBytes", "I", false)
  | 14 => ("TripleStore$Terms", "looseBytes", "I", false)
  | 15 => ("TripleStore$Terms", "free", "I", false)
  | _ => ("TripleStore$Terms", "numbered", "I", false)
def tyX7 : Nat → FieldType := fun k => match k with
  | 0 => .array .byte
  | 1 => .array .byte
  | 2 => .array .byte
  | 3 => .array .byte
  | 4 => .array .long
  | 5 => .array .int
  | 6 => .array .int
  | 7 => .array .int
  | 8 => .array .int
  | 9 => .array .int
  | 10 => .object "TripleStore$Value"
  | 11 => .array .byte
  | 12 => .array .byte
  | 13 => .int
  | 14 => .int
  | 15 => .int
  | _ => .int
abbrev wsX70 : List Cond := u_ws RX7 TX7 17
theorem nmX7 : ∀ a, a < 17 → ∀ b, b < 17 → a ≠ b → (TX7 a).2.1 ≠ (TX7 b).2.1 := by decide +kernel
theorem tyX7_ok : ∀ k, k < 17 → parseFieldDescriptor (TX7 k).2.2.1 = some (tyX7 k) := by decide +kernel
abbrev cX7_init : ByteArray := prog_9_method_1_code
def yX7_init : MethodName := ⟨RX7, "<init>", "()V"⟩
abbrev cX7_isNumber : ByteArray := prog_9_method_2_code
def yX7_isNumber : MethodName := ⟨RX7, "isNumber", "(I)Z"⟩
abbrev cX7_isKnown : ByteArray := prog_9_method_3_code
def yX7_isKnown : MethodName := ⟨RX7, "isKnown", "(I)Z"⟩
abbrev cX7_kindOf : ByteArray := prog_9_method_4_code
def yX7_kindOf : MethodName := ⟨RX7, "kindOf", "(I)I"⟩
abbrev cX7_mayStand : ByteArray := prog_9_method_5_code
def yX7_mayStand : MethodName := ⟨RX7, "mayStand", "(II)Z"⟩
abbrev cX7_numberIn : ByteArray := prog_9_method_6_code
def yX7_numberIn : MethodName := ⟨RX7, "numberIn", "(I)J"⟩
abbrev cX7_bytesOf : ByteArray := prog_9_method_7_code
def yX7_bytesOf : MethodName := ⟨RX7, "bytesOf", "(I)[B"⟩
abbrev cX7_intern : ByteArray := prog_9_method_8_code
def yX7_intern : MethodName := ⟨RX7, "intern", "(LTripleStore$Value;)I"⟩
abbrev cX7_nextOf : ByteArray := prog_9_method_9_code
def yX7_nextOf : MethodName := ⟨RX7, "nextOf", "(I)I"⟩
abbrev cX7_ensure : ByteArray := prog_9_method_10_code
def yX7_ensure : MethodName := ⟨RX7, "ensure", "([BI)[B"⟩
abbrev cX7_store : ByteArray := prog_9_method_11_code
def yX7_store : MethodName := ⟨RX7, "store", "(ILTripleStore$Value;[BI)V"⟩
abbrev cX7_link : ByteArray := prog_9_method_12_code
def yX7_link : MethodName := ⟨RX7, "link", "(II)V"⟩
abbrev cX7_hash : ByteArray := prog_9_method_13_code
def yX7_hash : MethodName := ⟨RX7, "hash", "(LTripleStore$Value;)I"⟩
abbrev cX7_isContent : ByteArray := prog_9_method_14_code
def yX7_isContent : MethodName := ⟨RX7, "isContent", "(ILTripleStore$Value;)Z"⟩
abbrev cX7_load : ByteArray := prog_9_method_15_code
def yX7_load : MethodName := ⟨RX7, "load", "(ILTripleStore$Value;)V"⟩
abbrev cX7_dropLoose : ByteArray := prog_9_method_16_code
def yX7_dropLoose : MethodName := ⟨RX7, "dropLoose", "()V"⟩
abbrev cX7_number : ByteArray := prog_9_method_17_code
def yX7_number : MethodName := ⟨RX7, "number", "(I)V"⟩
abbrev cX7_forget : ByteArray := prog_9_method_18_code
def yX7_forget : MethodName := ⟨RX7, "forget", "(I)V"⟩
abbrev cX7_unmark : ByteArray := prog_9_method_19_code
def yX7_unmark : MethodName := ⟨RX7, "unmark", "()V"⟩
abbrev cX7_mark : ByteArray := prog_9_method_20_code
def yX7_mark : MethodName := ⟨RX7, "mark", "(I)Z"⟩
abbrev cX7_numberOf : ByteArray := prog_9_method_21_code
def yX7_numberOf : MethodName := ⟨RX7, "numberOf", "(I)I"⟩
abbrev cX7_compare : ByteArray := prog_9_method_22_code
def yX7_compare : MethodName := ⟨RX7, "compare", "(II)I"⟩
abbrev cX7_compareNumbers : ByteArray := prog_9_method_23_code
def yX7_compareNumbers : MethodName := ⟨RX7, "compareNumbers", "(II)I"⟩
abbrev cX7_write : ByteArray := prog_9_method_24_code
def yX7_write : MethodName := ⟨RX7, "write", "(I[B)I"⟩
abbrev cX7_put : ByteArray := prog_9_method_25_code
def yX7_put : MethodName := ⟨RX7, "put", "([BI[BI)I"⟩
abbrev cX7_writeName : ByteArray := prog_9_method_26_code
def yX7_writeName : MethodName := ⟨RX7, "writeName", "([BI[BI)I"⟩
abbrev cX7_writeText : ByteArray := prog_9_method_27_code
def yX7_writeText : MethodName := ⟨RX7, "writeText", "(LTripleStore$Value;[B)I"⟩
def RX8 : String := "TripleStore$Tokens"
def TX8 : u_T := fun k => match k with
  | 0 => ("TripleStore$Tokens", "text", "[B", true)
  | 1 => ("TripleStore$Tokens", "terms", "LTripleStore$Terms;", true)
  | 2 => ("TripleStore$Tokens", "kinds", "[B", true)
  | 3 => ("TripleStore$Tokens", "codes", "[I", true)
  | 4 => ("TripleStore$Tokens", "places", "[I", true)
  | 5 => ("TripleStore$Tokens", "names", "[B", true)
  | 6 => ("TripleStore$Tokens", "nameLengths", "[I", true)
  | 7 => ("TripleStore$Tokens", "value", "LTripleStore$Value;", true)
  | 8 => ("TripleStore$Tokens", "typed", "LTripleStore$Value;", true)
  | 9 => ("TripleStore$Tokens", "size", "I", false)
  | 10 => ("TripleStore$Tokens", "length", "I", false)
  | 11 => ("TripleStore$Tokens", "at", "I", false)
  | 12 => ("TripleStore$Tokens", "named", "I", false)
  | 13 => ("TripleStore$Tokens", "typeName", "I", false)
  | 14 => ("TripleStore$Tokens", "hand", "I", false)
  | 15 => ("TripleStore$Tokens", "kind", "I", false)
  | 16 => ("TripleStore$Tokens", "code", "I", false)
  | 17 => ("TripleStore$Tokens", "here", "I", false)
  | 18 => ("TripleStore$Tokens", "variables", "I", false)
  | 19 => ("TripleStore$Tokens", "fault", "I", false)
  | _ => ("TripleStore$Tokens", "faultPlace", "I", false)
def tyX8 : Nat → FieldType := fun k => match k with
  | 0 => .array .byte
  | 1 => .object "TripleStore$Terms"
  | 2 => .array .byte
  | 3 => .array .int
  | 4 => .array .int
  | 5 => .array .byte
  | 6 => .array .int
  | 7 => .object "TripleStore$Value"
  | 8 => .object "TripleStore$Value"
  | 9 => .int
  | 10 => .int
  | 11 => .int
  | 12 => .int
  | 13 => .int
  | 14 => .int
  | 15 => .int
  | 16 => .int
  | 17 => .int
  | 18 => .int
  | 19 => .int
  | _ => .int
abbrev wsX80 : List Cond := u_ws RX8 TX8 21
theorem nmX8 : ∀ a, a < 21 → ∀ b, b < 21 → a ≠ b → (TX8 a).2.1 ≠ (TX8 b).2.1 := by decide +kernel
theorem tyX8_ok : ∀ k, k < 21 → parseFieldDescriptor (TX8 k).2.2.1 = some (tyX8 k) := by decide +kernel
abbrev cX8_init : ByteArray := prog_10_method_1_code
def yX8_init : MethodName := ⟨RX8, "<init>", "([BLTripleStore$Terms;)V"⟩
abbrev cX8_read : ByteArray := prog_10_method_2_code
def yX8_read : MethodName := ⟨RX8, "read", "(I)V"⟩
abbrev cX8_byteAt : ByteArray := prog_10_method_3_code
def yX8_byteAt : MethodName := ⟨RX8, "byteAt", "(I)I"⟩
abbrev cX8_skipBlanks : ByteArray := prog_10_method_4_code
def yX8_skipBlanks : MethodName := ⟨RX8, "skipBlanks", "()V"⟩
abbrev cX8_readOne : ByteArray := prog_10_method_5_code
def yX8_readOne : MethodName := ⟨RX8, "readOne", "()Z"⟩
abbrev cX8_readSign : ByteArray := prog_10_method_6_code
def yX8_readSign : MethodName := ⟨RX8, "readSign", "(II)Z"⟩
abbrev cX8_readVariable : ByteArray := prog_10_method_7_code
def yX8_readVariable : MethodName := ⟨RX8, "readVariable", "(I)Z"⟩
abbrev cX8_note : ByteArray := prog_10_method_8_code
def yX8_note : MethodName := ⟨RX8, "note", "(IIII)V"⟩
abbrev cX8_noteTerm : ByteArray := prog_10_method_9_code
def yX8_noteTerm : MethodName := ⟨RX8, "noteTerm", "(II)V"⟩
abbrev cX8_readWord : ByteArray := prog_10_method_10_code
def yX8_readWord : MethodName := ⟨RX8, "readWord", "(I)V"⟩
abbrev cX8_wordIn : ByteArray := prog_10_method_11_code
def yX8_wordIn : MethodName := ⟨RX8, "wordIn", "(Ljava/lang/String;III)I"⟩
abbrev cX8_wordEnd : ByteArray := prog_10_method_12_code
def yX8_wordEnd : MethodName := ⟨RX8, "wordEnd", "(II)I"⟩
abbrev cX8_isBehindValue : ByteArray := prog_10_method_13_code
def yX8_isBehindValue : MethodName := ⟨RX8, "isBehindValue", "()Z"⟩
abbrev cX8_readShort : ByteArray := prog_10_method_14_code
def yX8_readShort : MethodName := ⟨RX8, "readShort", "(III)I"⟩
abbrev cX8_nameEnd : ByteArray := prog_10_method_15_code
def yX8_nameEnd : MethodName := ⟨RX8, "nameEnd", "(I)I"⟩
abbrev cX8_readName : ByteArray := prog_10_method_16_code
def yX8_readName : MethodName := ⟨RX8, "readName", "(I)I"⟩
abbrev cX8_readText : ByteArray := prog_10_method_17_code
def yX8_readText : MethodName := ⟨RX8, "readText", "(I)I"⟩
abbrev cX8_escaped : ByteArray := prog_10_method_18_code
def yX8_escaped : MethodName := ⟨RX8, "escaped", "(I)I"⟩
abbrev cX8_readTag : ByteArray := prog_10_method_19_code
def yX8_readTag : MethodName := ⟨RX8, "readTag", "(I)I"⟩
abbrev cX8_readType : ByteArray := prog_10_method_20_code
def yX8_readType : MethodName := ⟨RX8, "readType", "(I)I"⟩
abbrev cX8_takeTyped : ByteArray := prog_10_method_21_code
def yX8_takeTyped : MethodName := ⟨RX8, "takeTyped", "(I)I"⟩
abbrev cX8_isBetween : ByteArray := prog_10_method_22_code
def yX8_isBetween : MethodName := ⟨RX8, "isBetween", "(IILjava/lang/String;)Z"⟩
abbrev cX8_truthIn : ByteArray := prog_10_method_23_code
def yX8_truthIn : MethodName := ⟨RX8, "truthIn", "([BIILTripleStore$Value;)Z"⟩
abbrev cX8_digitIn : ByteArray := prog_10_method_24_code
def yX8_digitIn : MethodName := ⟨RX8, "digitIn", "([BII)I"⟩
abbrev cX8_isIn : ByteArray := prog_10_method_25_code
def yX8_isIn : MethodName := ⟨RX8, "isIn", "([BIII)Z"⟩
abbrev cX8_numberIn : ByteArray := prog_10_method_26_code
def yX8_numberIn : MethodName := ⟨RX8, "numberIn", "([BIILTripleStore$Value;)I"⟩
abbrev cX8_fractionIn : ByteArray := prog_10_method_27_code
def yX8_fractionIn : MethodName := ⟨RX8, "fractionIn", "([BIILTripleStore$Value;)I"⟩
abbrev cX8_signOf : ByteArray := prog_10_method_28_code
def yX8_signOf : MethodName := ⟨RX8, "signOf", "(II)I"⟩
abbrev cX8_isEnd : ByteArray := prog_10_method_29_code
def yX8_isEnd : MethodName := ⟨RX8, "isEnd", "()Z"⟩
abbrev cX8_isTerm : ByteArray := prog_10_method_30_code
def yX8_isTerm : MethodName := ⟨RX8, "isTerm", "()Z"⟩
abbrev cX8_isVariable : ByteArray := prog_10_method_31_code
def yX8_isVariable : MethodName := ⟨RX8, "isVariable", "()Z"⟩
abbrev cX8_isNode : ByteArray := prog_10_method_32_code
def yX8_isNode : MethodName := ⟨RX8, "isNode", "()Z"⟩
abbrev cX8_isSign : ByteArray := prog_10_method_33_code
def yX8_isSign : MethodName := ⟨RX8, "isSign", "(I)Z"⟩
abbrev cX8_sign : ByteArray := prog_10_method_34_code
def yX8_sign : MethodName := ⟨RX8, "sign", "()I"⟩
abbrev cX8_isWord : ByteArray := prog_10_method_35_code
def yX8_isWord : MethodName := ⟨RX8, "isWord", "(I)Z"⟩
abbrev cX8_word : ByteArray := prog_10_method_36_code
def yX8_word : MethodName := ⟨RX8, "word", "()I"⟩
abbrev cX8_id : ByteArray := prog_10_method_37_code
def yX8_id : MethodName := ⟨RX8, "id", "()I"⟩
abbrev cX8_termKind : ByteArray := prog_10_method_38_code
def yX8_termKind : MethodName := ⟨RX8, "termKind", "()I"⟩
abbrev cX8_nameId : ByteArray := prog_10_method_39_code
def yX8_nameId : MethodName := ⟨RX8, "nameId", "()I"⟩
abbrev cX8_take : ByteArray := prog_10_method_40_code
def yX8_take : MethodName := ⟨RX8, "take", "()V"⟩
abbrev cX8_expectSign : ByteArray := prog_10_method_41_code
def yX8_expectSign : MethodName := ⟨RX8, "expectSign", "(I)V"⟩
abbrev cX8_expectWord : ByteArray := prog_10_method_42_code
def yX8_expectWord : MethodName := ⟨RX8, "expectWord", "(I)V"⟩
abbrev cX8_fail : ByteArray := prog_10_method_43_code
def yX8_fail : MethodName := ⟨RX8, "fail", "(I)V"⟩
abbrev cX8_failAt : ByteArray := prog_10_method_44_code
def yX8_failAt : MethodName := ⟨RX8, "failAt", "(II)V"⟩
abbrev cX8_isNewVariable : ByteArray := prog_10_method_45_code
def yX8_isNewVariable : MethodName := ⟨RX8, "isNewVariable", "()Z"⟩
abbrev cX8_variable : ByteArray := prog_10_method_46_code
def yX8_variable : MethodName := ⟨RX8, "variable", "()I"⟩
abbrev cX8_writeVariable : ByteArray := prog_10_method_47_code
def yX8_writeVariable : MethodName := ⟨RX8, "writeVariable", "(I[B)I"⟩
def RX9 : String := "TripleStore$Triples"
def TX9 : u_T := fun k => match k with
  | 0 => ("TripleStore$Triples", "keys", "[I", true)
  | 1 => ("TripleStore$Triples", "marks", "[B", true)
  | 2 => ("TripleStore$Triples", "slots", "[I", true)
  | 3 => ("TripleStore$Triples", "heads", "[I", true)
  | 4 => ("TripleStore$Triples", "lengths", "[I", true)
  | 5 => ("TripleStore$Triples", "nexts", "[I", true)
  | 6 => ("TripleStore$Triples", "sorted", "[[I", true)
  | 7 => ("TripleStore$Triples", "starts", "[[I", true)
  | 8 => ("TripleStore$Triples", "spare", "[I", true)
  | 9 => ("TripleStore$Triples", "counters", "[I", true)
  | 10 => ("TripleStore$Triples", "saved", "[I", true)
  | 11 => ("TripleStore$Triples", "savedSize", "I", false)
  | 12 => ("TripleStore$Triples", "arranged", "Z", false)
  | 13 => ("TripleStore$Triples", "size", "I", false)
  | 14 => ("TripleStore$Triples", "sayings", "I", false)
  | 15 => ("TripleStore$Triples", "active", "I", false)
  | 16 => ("TripleStore$Triples", "from", "I", false)
  | 17 => ("TripleStore$Triples", "to", "I", false)
  | _ => ("TripleStore$Triples", "order", "I", false)
def tyX9 : Nat → FieldType := fun k => match k with
  | 0 => .array .int
  | 1 => .array .byte
  | 2 => .array .int
  | 3 => .array .int
  | 4 => .array .int
  | 5 => .array .int
  | 6 => .array (.array .int)
  | 7 => .array (.array .int)
  | 8 => .array .int
  | 9 => .array .int
  | 10 => .array .int
  | 11 => .int
  | 12 => .boolean
  | 13 => .int
  | 14 => .int
  | 15 => .int
  | 16 => .int
  | 17 => .int
  | _ => .int
abbrev wsX90 : List Cond := u_ws RX9 TX9 19
theorem nmX9 : ∀ a, a < 19 → ∀ b, b < 19 → a ≠ b → (TX9 a).2.1 ≠ (TX9 b).2.1 := by decide +kernel
theorem tyX9_ok : ∀ k, k < 19 → parseFieldDescriptor (TX9 k).2.2.1 = some (tyX9 k) := by decide +kernel
abbrev cX9_init : ByteArray := prog_11_method_1_code
def yX9_init : MethodName := ⟨RX9, "<init>", "()V"⟩
abbrev cX9_fits : ByteArray := prog_11_method_2_code
def yX9_fits : MethodName := ⟨RX9, "fits", "(III)Z"⟩
abbrev cX9_pack : ByteArray := prog_11_method_3_code
def yX9_pack : MethodName := ⟨RX9, "pack", "(III)I"⟩
abbrev cX9_slotOf : ByteArray := prog_11_method_4_code
def yX9_slotOf : MethodName := ⟨RX9, "slotOf", "(I)I"⟩
abbrev cX9_seek : ByteArray := prog_11_method_5_code
def yX9_seek : MethodName := ⟨RX9, "seek", "(III)I"⟩
abbrev cX9_isSaid : ByteArray := prog_11_method_6_code
def yX9_isSaid : MethodName := ⟨RX9, "isSaid", "(I)Z"⟩
abbrev cX9_hold : ByteArray := prog_11_method_7_code
def yX9_hold : MethodName := ⟨RX9, "hold", "(IZ)Z"⟩
abbrev cX9_say : ByteArray := prog_11_method_8_code
def yX9_say : MethodName := ⟨RX9, "say", "(III)I"⟩
abbrev cX9_unsay : ByteArray := prog_11_method_9_code
def yX9_unsay : MethodName := ⟨RX9, "unsay", "(III)I"⟩
abbrev cX9_clear : ByteArray := prog_11_method_10_code
def yX9_clear : MethodName := ⟨RX9, "clear", "()V"⟩
abbrev cX9_keepSaid : ByteArray := prog_11_method_11_code
def yX9_keepSaid : MethodName := ⟨RX9, "keepSaid", "()V"⟩
abbrev cX9_backUp : ByteArray := prog_11_method_12_code
def yX9_backUp : MethodName := ⟨RX9, "backUp", "()V"⟩
abbrev cX9_restore : ByteArray := prog_11_method_13_code
def yX9_restore : MethodName := ⟨RX9, "restore", "()V"⟩
abbrev cX9_keyPart : ByteArray := prog_11_method_14_code
def yX9_keyPart : MethodName := ⟨RX9, "keyPart", "(II)I"⟩
abbrev cX9_activate : ByteArray := prog_11_method_15_code
def yX9_activate : MethodName := ⟨RX9, "activate", "()I"⟩
abbrev cX9_activeWith : ByteArray := prog_11_method_16_code
def yX9_activeWith : MethodName := ⟨RX9, "activeWith", "(II)I"⟩
abbrev cX9_latest : ByteArray := prog_11_method_17_code
def yX9_latest : MethodName := ⟨RX9, "latest", "(II)I"⟩
abbrev cX9_earlier : ByteArray := prog_11_method_18_code
def yX9_earlier : MethodName := ⟨RX9, "earlier", "(III)I"⟩
abbrev cX9_arrange : ByteArray := prog_11_method_19_code
def yX9_arrange : MethodName := ⟨RX9, "arrange", "()V"⟩
abbrev cX9_sortBy : ByteArray := prog_11_method_20_code
def yX9_sortBy : MethodName := ⟨RX9, "sortBy", "([I[II)V"⟩
abbrev cX9_part : ByteArray := prog_11_method_21_code
def yX9_part : MethodName := ⟨RX9, "part", "(III)I"⟩
abbrev cX9_startOf : ByteArray := prog_11_method_22_code
def yX9_startOf : MethodName := ⟨RX9, "startOf", "(II)I"⟩
abbrev cX9_isPoint : ByteArray := prog_11_method_23_code
def yX9_isPoint : MethodName := ⟨RX9, "isPoint", "(I)Z"⟩
abbrev cX9_lowest : ByteArray := prog_11_method_24_code
def yX9_lowest : MethodName := ⟨RX9, "lowest", "([IIII)I"⟩
abbrev cX9_locate : ByteArray := prog_11_method_25_code
def yX9_locate : MethodName := ⟨RX9, "locate", "(IIIII)V"⟩
abbrev cX9_locateWith : ByteArray := prog_11_method_26_code
def yX9_locateWith : MethodName := ⟨RX9, "locateWith", "(III)V"⟩
def RX10 : String := "TripleStore$Value"
def TX10 : u_T := fun k => match k with
  | 0 => ("TripleStore$Value", "kind", "I", false)
  | 1 => ("TripleStore$Value", "id", "I", false)
  | 2 => ("TripleStore$Value", "number", "J", false)
  | 3 => ("TripleStore$Value", "scale", "I", false)
  | 4 => ("TripleStore$Value", "text", "[B", true)
  | 5 => ("TripleStore$Value", "length", "I", false)
  | 6 => ("TripleStore$Value", "extra", "[B", true)
  | _ => ("TripleStore$Value", "extraLength", "I", false)
def tyX10 : Nat → FieldType := fun k => match k with
  | 0 => .int
  | 1 => .int
  | 2 => .long
  | 3 => .int
  | 4 => .array .byte
  | 5 => .int
  | 6 => .array .byte
  | _ => .int
abbrev wsX100 : List Cond := u_ws RX10 TX10 8
theorem nmX10 : ∀ a, a < 8 → ∀ b, b < 8 → a ≠ b → (TX10 a).2.1 ≠ (TX10 b).2.1 := by decide +kernel
theorem tyX10_ok : ∀ k, k < 8 → parseFieldDescriptor (TX10 k).2.2.1 = some (tyX10 k) := by decide +kernel
abbrev cX10_init : ByteArray := prog_12_method_1_code
def yX10_init : MethodName := ⟨RX10, "<init>", "()V"⟩
abbrev cX10_become : ByteArray := prog_12_method_2_code
def yX10_become : MethodName := ⟨RX10, "become", "(I)V"⟩
abbrev cX10_numeric : ByteArray := prog_12_method_3_code
def yX10_numeric : MethodName := ⟨RX10, "numeric", "(IJI)V"⟩
abbrev cX10_truth : ByteArray := prog_12_method_4_code
def yX10_truth : MethodName := ⟨RX10, "truth", "(I)V"⟩
abbrev cX10_append : ByteArray := prog_12_method_5_code
def yX10_append : MethodName := ⟨RX10, "append", "(I)V"⟩
abbrev cX10_appendExtra : ByteArray := prog_12_method_6_code
def yX10_appendExtra : MethodName := ⟨RX10, "appendExtra", "(I)V"⟩
abbrev cX10_appendAll : ByteArray := prog_12_method_7_code
def yX10_appendAll : MethodName := ⟨RX10, "appendAll", "(LTripleStore$Value;)V"⟩
abbrev cX10_spell : ByteArray := prog_12_method_8_code
def yX10_spell : MethodName := ⟨RX10, "spell", "(ILjava/lang/String;)V"⟩
abbrev cX10_copy : ByteArray := prog_12_method_9_code
def yX10_copy : MethodName := ⟨RX10, "copy", "(LTripleStore$Value;)V"⟩
abbrev cX10_takeExtra : ByteArray := prog_12_method_10_code
def yX10_takeExtra : MethodName := ⟨RX10, "takeExtra", "(LTripleStore$Value;)V"⟩
abbrev cX10_cut : ByteArray := prog_12_method_11_code
def yX10_cut : MethodName := ⟨RX10, "cut", "(LTripleStore$Value;JJ)V"⟩
abbrev cX10_isNumber : ByteArray := prog_12_method_12_code
def yX10_isNumber : MethodName := ⟨RX10, "isNumber", "()Z"⟩
abbrev cX10_isPlain : ByteArray := prog_12_method_13_code
def yX10_isPlain : MethodName := ⟨RX10, "isPlain", "()Z"⟩
abbrev cX10_asTruth : ByteArray := prog_12_method_14_code
def yX10_asTruth : MethodName := ⟨RX10, "asTruth", "()I"⟩
abbrev cX10_sameExtra : ByteArray := prog_12_method_15_code
def yX10_sameExtra : MethodName := ⟨RX10, "sameExtra", "(LTripleStore$Value;)Z"⟩
abbrev cX10_isSame : ByteArray := prog_12_method_16_code
def yX10_isSame : MethodName := ⟨RX10, "isSame", "(LTripleStore$Value;)Z"⟩
abbrev cX10_hasAt : ByteArray := prog_12_method_17_code
def yX10_hasAt : MethodName := ⟨RX10, "hasAt", "(ILTripleStore$Value;)Z"⟩
abbrev cX10_search : ByteArray := prog_12_method_18_code
def yX10_search : MethodName := ⟨RX10, "search", "(LTripleStore$Value;)I"⟩
abbrev cX10_whole : ByteArray := prog_12_method_19_code
def yX10_whole : MethodName := ⟨RX10, "whole", "()J"⟩
abbrev cX10_billionths : ByteArray := prog_12_method_20_code
def yX10_billionths : MethodName := ⟨RX10, "billionths", "()J"⟩
abbrev cX10_compareNumber : ByteArray := prog_12_method_21_code
def yX10_compareNumber : MethodName := ⟨RX10, "compareNumber", "(LTripleStore$Value;)I"⟩
abbrev cX10_string : ByteArray := prog_12_method_22_code
def yX10_string : MethodName := ⟨RX10, "string", "(LTripleStore$Value;)V"⟩
def RX11 : String := "TripleStore"
def TX11 : u_T := fun k => match k with
  | 0 => ("TripleStore", "text", "[B", true)
  | 1 => ("TripleStore", "length", "I", false)
  | 2 => ("TripleStore", "terms", "LTripleStore$Terms;", true)
  | 3 => ("TripleStore", "triples", "LTripleStore$Triples;", true)
  | 4 => ("TripleStore", "rules", "LTripleStore$Rules;", true)
  | 5 => ("TripleStore", "tokens", "LTripleStore$Tokens;", true)
  | 6 => ("TripleStore", "parser", "LTripleStore$Parser;", true)
  | 7 => ("TripleStore", "rows", "LTripleStore$Rows;", true)
  | 8 => ("TripleStore", "blocks", "LTripleStore$Blocks;", true)
  | 9 => ("TripleStore", "groups", "LTripleStore$Groups;", true)
  | 10 => ("TripleStore", "buffer", "[B", true)
  | 11 => ("TripleStore", "buffered", "I", false)
  | 12 => ("TripleStore", "foundAt", "I", false)
  | 13 => ("TripleStore", "fault", "I", false)
  | 14 => ("TripleStore", "madeLately", "I", false)
  | 15 => ("TripleStore", "spent", "I", false)
  | 16 => ("TripleStore", "shown", "LTripleStore$Node;", false)
  | _ => ("TripleStore", "shownRows", "I", false)
def tyX11 : Nat → FieldType := fun k => match k with
  | 0 => .array .byte
  | 1 => .int
  | 2 => .object "TripleStore$Terms"
  | 3 => .object "TripleStore$Triples"
  | 4 => .object "TripleStore$Rules"
  | 5 => .object "TripleStore$Tokens"
  | 6 => .object "TripleStore$Parser"
  | 7 => .object "TripleStore$Rows"
  | 8 => .object "TripleStore$Blocks"
  | 9 => .object "TripleStore$Groups"
  | 10 => .array .byte
  | 11 => .int
  | 12 => .int
  | 13 => .int
  | 14 => .int
  | 15 => .int
  | 16 => .object "TripleStore$Node"
  | _ => .int
abbrev wsX110 : List Cond := u_ws RX11 TX11 18
theorem nmX11 : ∀ a, a < 18 → ∀ b, b < 18 → a ≠ b → (TX11 a).2.1 ≠ (TX11 b).2.1 := by decide +kernel
theorem tyX11_ok : ∀ k, k < 18 → parseFieldDescriptor (TX11 k).2.2.1 = some (tyX11 k) := by decide +kernel
abbrev cX11_init : ByteArray := prog_1_method_1_code
def yX11_init : MethodName := ⟨RX11, "<init>", "()V"⟩
abbrev cX11_type : ByteArray := prog_1_method_2_code
def yX11_type : MethodName := ⟨RX11, "type", "(JI)I"⟩
abbrev cX11_wipe : ByteArray := prog_1_method_3_code
def yX11_wipe : MethodName := ⟨RX11, "wipe", "()I"⟩
abbrev cX11_run : ByteArray := prog_1_method_4_code
def yX11_run : MethodName := ⟨RX11, "run", "()I"⟩
abbrev cX11_place : ByteArray := prog_1_method_5_code
def yX11_place : MethodName := ⟨RX11, "place", "()I"⟩
abbrev cX11_rows : ByteArray := prog_1_method_6_code
def yX11_rows : MethodName := ⟨RX11, "rows", "()I"⟩
abbrev cX11_columns : ByteArray := prog_1_method_7_code
def yX11_columns : MethodName := ⟨RX11, "columns", "()I"⟩
abbrev cX11_cell : ByteArray := prog_1_method_8_code
def yX11_cell : MethodName := ⟨RX11, "cell", "(II)I"⟩
abbrev cX11_column : ByteArray := prog_1_method_9_code
def yX11_column : MethodName := ⟨RX11, "column", "(I)I"⟩
abbrev cX11_written : ByteArray := prog_1_method_10_code
def yX11_written : MethodName := ⟨RX11, "written", "(I)I"⟩
abbrev cX11_made : ByteArray := prog_1_method_11_code
def yX11_made : MethodName := ⟨RX11, "made", "()I"⟩
abbrev cX11_plan : ByteArray := prog_1_method_12_code
def yX11_plan : MethodName := ⟨RX11, "plan", "(I)I"⟩
abbrev cX11_triples : ByteArray := prog_1_method_13_code
def yX11_triples : MethodName := ⟨RX11, "triples", "()I"⟩
abbrev cX11_said : ByteArray := prog_1_method_14_code
def yX11_said : MethodName := ⟨RX11, "said", "()I"⟩
abbrev cX11_terms : ByteArray := prog_1_method_15_code
def yX11_terms : MethodName := ⟨RX11, "terms", "()I"⟩
abbrev cX11_rules : ByteArray := prog_1_method_16_code
def yX11_rules : MethodName := ⟨RX11, "rules", "()I"⟩
abbrev cX11_term : ByteArray := prog_1_method_17_code
def yX11_term : MethodName := ⟨RX11, "term", "(I)I"⟩
abbrev cX11_find : ByteArray := prog_1_method_18_code
def yX11_find : MethodName := ⟨RX11, "find", "(III)I"⟩
abbrev cX11_count : ByteArray := prog_1_method_19_code
def yX11_count : MethodName := ⟨RX11, "count", "(IIIII)I"⟩
abbrev cX11_account : ByteArray := prog_1_method_20_code
def yX11_account : MethodName := ⟨RX11, "account", "(I)V"⟩
abbrev cX11_fill : ByteArray := prog_1_method_21_code
def yX11_fill : MethodName := ⟨RX11, "fill", "(LTripleStore$Node;)V"⟩
abbrev cX11_show : ByteArray := prog_1_method_22_code
def yX11_show : MethodName := ⟨RX11, "show", "(LTripleStore$Node;)I"⟩
abbrev cX11_construct : ByteArray := prog_1_method_23_code
def yX11_construct : MethodName := ⟨RX11, "construct", "(LTripleStore$Node;)I"⟩
abbrev cX11_give : ByteArray := prog_1_method_24_code
def yX11_give : MethodName := ⟨RX11, "give", "(LTripleStore$Node;IZ)V"⟩
abbrev cX11_giveOne : ByteArray := prog_1_method_25_code
def yX11_giveOne : MethodName := ⟨RX11, "giveOne", "(LTripleStore$Node;IZ)V"⟩
abbrev cX11_change : ByteArray := prog_1_method_26_code
def yX11_change : MethodName := ⟨RX11, "change", "(LTripleStore$Node;)I"⟩
abbrev cX11_unsay : ByteArray := prog_1_method_27_code
def yX11_unsay : MethodName := ⟨RX11, "unsay", "(II)I"⟩
abbrev cX11_say : ByteArray := prog_1_method_28_code
def yX11_say : MethodName := ⟨RX11, "say", "(II)I"⟩
abbrev cX11_numberTerms : ByteArray := prog_1_method_29_code
def yX11_numberTerms : MethodName := ⟨RX11, "numberTerms", "(II)Z"⟩
abbrev cX11_addRule : ByteArray := prog_1_method_30_code
def yX11_addRule : MethodName := ⟨RX11, "addRule", "(LTripleStore$Node;)I"⟩
abbrev cX11_dropRule : ByteArray := prog_1_method_31_code
def yX11_dropRule : MethodName := ⟨RX11, "dropRule", "(I)I"⟩
abbrev cX11_compareBytes : ByteArray := prog_1_method_32_code
def yX11_compareBytes : MethodName := ⟨RX11, "compareBytes", "([BII[BII)I"⟩
abbrev cX11_writeNumber : ByteArray := prog_1_method_33_code
def yX11_writeNumber : MethodName := ⟨RX11, "writeNumber", "(JIZ[B)I"⟩
abbrev cX11_putByte : ByteArray := prog_1_method_34_code
def yX11_putByte : MethodName := ⟨RX11, "putByte", "([BII)V"⟩
abbrev cX11_isDigit : ByteArray := prog_1_method_35_code
def yX11_isDigit : MethodName := ⟨RX11, "isDigit", "(I)Z"⟩
abbrev cX11_isSmall : ByteArray := prog_1_method_36_code
def yX11_isSmall : MethodName := ⟨RX11, "isSmall", "(I)Z"⟩
abbrev cX11_isCapital : ByteArray := prog_1_method_37_code
def yX11_isCapital : MethodName := ⟨RX11, "isCapital", "(I)Z"⟩
abbrev cX11_isLetter : ByteArray := prog_1_method_38_code
def yX11_isLetter : MethodName := ⟨RX11, "isLetter", "(I)Z"⟩
abbrev cX11_isWordByte : ByteArray := prog_1_method_39_code
def yX11_isWordByte : MethodName := ⟨RX11, "isWordByte", "(I)Z"⟩
abbrev cX11_isNameByte : ByteArray := prog_1_method_40_code
def yX11_isNameByte : MethodName := ⟨RX11, "isNameByte", "(I)Z"⟩
def RX12 : String := "TripleStoreModel$Digits"
def TX12 : u_T := fun k => match k with
  | 0 => ("TripleStoreModel$Digits", "one", "[I", true)
  | 1 => ("TripleStoreModel$Digits", "two", "[I", true)
  | 2 => ("TripleStoreModel$Digits", "row", "[I", true)
  | 3 => ("TripleStoreModel$Digits", "below", "Z", false)
  | 4 => ("TripleStoreModel$Digits", "wholes", "Z", false)
  | 5 => ("TripleStoreModel$Digits", "value", "J", false)
  | 6 => ("TripleStoreModel$Digits", "scale", "I", false)
  | 7 => ("TripleStoreModel$Digits", "above", "[I", true)
  | _ => ("TripleStoreModel$Digits", "under", "[I", true)
def tyX12 : Nat → FieldType := fun k => match k with
  | 0 => .array .int
  | 1 => .array .int
  | 2 => .array .int
  | 3 => .boolean
  | 4 => .boolean
  | 5 => .long
  | 6 => .int
  | 7 => .array .int
  | _ => .array .int
abbrev wsX120 : List Cond := u_ws RX12 TX12 9
theorem nmX12 : ∀ a, a < 9 → ∀ b, b < 9 → a ≠ b → (TX12 a).2.1 ≠ (TX12 b).2.1 := by decide +kernel
theorem tyX12_ok : ∀ k, k < 9 → parseFieldDescriptor (TX12 k).2.2.1 = some (tyX12 k) := by decide +kernel
abbrev cX12_init : ByteArray := prog_15_method_1_code
def yX12_init : MethodName := ⟨RX12, "<init>", "()V"⟩
abbrev cX12_spread : ByteArray := prog_15_method_2_code
def yX12_spread : MethodName := ⟨RX12, "spread", "([IJI)V"⟩
abbrev cX12_isLess : ByteArray := prog_15_method_3_code
def yX12_isLess : MethodName := ⟨RX12, "isLess", "([I[I)Z"⟩
abbrev cX12_settle : ByteArray := prog_15_method_4_code
def yX12_settle : MethodName := ⟨RX12, "settle", "(I)Z"⟩
abbrev cX12_round : ByteArray := prog_15_method_5_code
def yX12_round : MethodName := ⟨RX12, "round", "(I)V"⟩
abbrev cX12_increase : ByteArray := prog_15_method_6_code
def yX12_increase : MethodName := ⟨RX12, "increase", "()V"⟩
abbrev cX12_sum : ByteArray := prog_15_method_7_code
def yX12_sum : MethodName := ⟨RX12, "sum", "(JIJI)Z"⟩
abbrev cX12_product : ByteArray := prog_15_method_8_code
def yX12_product : MethodName := ⟨RX12, "product", "(JIJI)Z"⟩
abbrev cX12_quotient : ByteArray := prog_15_method_9_code
def yX12_quotient : MethodName := ⟨RX12, "quotient", "(JIJI)Z"⟩
abbrev cX12_beginSum : ByteArray := prog_15_method_10_code
def yX12_beginSum : MethodName := ⟨RX12, "beginSum", "()V"⟩
abbrev cX12_addUp : ByteArray := prog_15_method_11_code
def yX12_addUp : MethodName := ⟨RX12, "addUp", "(JI)V"⟩
abbrev cX12_endSum : ByteArray := prog_15_method_12_code
def yX12_endSum : MethodName := ⟨RX12, "endSum", "()Z"⟩
abbrev cX12_whole : ByteArray := prog_15_method_13_code
def yX12_whole : MethodName := ⟨RX12, "whole", "(JII)V"⟩
def RX13 : String := "TripleStoreModel$Doer"
def TX13 : u_T := fun k => match k with
  | 0 => ("TripleStoreModel$Doer", "terms", "LTripleStoreModel$Terms;", true)
  | 1 => ("TripleStoreModel$Doer", "digits", "LTripleStoreModel$Digits;", true)
  | 2 => ("TripleStoreModel$Doer", "store", "LTripleStoreModel$Store;", true)
  | 3 => ("TripleStoreModel$Doer", "paths", "LTripleStoreModel$Paths;", true)
  | 4 => ("TripleStoreModel$Doer", "tree", "LTripleStoreModel$Tree;", true)
  | 5 => ("TripleStoreModel$Doer", "rows", "[I", true)
  | 6 => ("TripleStoreModel$Doer", "made", "I", false)
  | 7 => ("TripleStoreModel$Doer", "left", "I", false)
  | 8 => ("TripleStoreModel$Doer", "tooMuch", "Ljava/lang/IllegalStateException;", true)
  | 9 => ("TripleStoreModel$Doer", "kept", "[I", true)
  | 10 => ("TripleStoreModel$Doer", "keptTop", "I", false)
  | 11 => ("TripleStoreModel$Doer", "setBase", "I", false)
  | 12 => ("TripleStoreModel$Doer", "setTop", "I", false)
  | 13 => ("TripleStoreModel$Doer", "setMarks", "I", false)
  | 14 => ("TripleStoreModel$Doer", "setNumber", "I", false)
  | 15 => ("TripleStoreModel$Doer", "orders", "[I", true)
  | 16 => ("TripleStoreModel$Doer", "free", "I", false)
  | 17 => ("TripleStoreModel$Doer", "seen", "[I", true)
  | 18 => ("TripleStoreModel$Doer", "seenRound", "I", false)
  | 19 => ("TripleStoreModel$Doer", "patterns", "[I", true)
  | 20 => ("TripleStoreModel$Doer", "trial", "[I", true)
  | 21 => ("TripleStoreModel$Doer", "estimates", "[J", true)
  | _ => ("TripleStoreModel$Doer", "many", "I", false)
def tyX13 : Nat → FieldType := fun k => match k with
  | 0 => .object "TripleStoreModel$Terms"
  | 1 => .object "TripleStoreModel$Digits"
  | 2 => .object "TripleStoreModel$Store"
  | 3 => .object "TripleStoreModel$Paths"
  | 4 => .object "TripleStoreModel$Tree"
  | 5 => .array .int
  | 6 => .int
  | 7 => .int
  | 8 => .object "java/lang/IllegalStateException"
  | 9 => .array .int
  | 10 => .int
  | 11 => .int
  | 12 => .int
  | 13 => .int
  | 14 => .int
  | 15 => .array .int
  | 16 => .int
  | 17 => .array .int
  | 18 => .int
  | 19 => .array .int
  | 20 => .array .int
  | 21 => .array .long
  | _ => .int
abbrev wsX130 : List Cond := u_ws RX13 TX13 23
theorem nmX13 : ∀ a, a < 23 → ∀ b, b < 23 → a ≠ b → (TX13 a).2.1 ≠ (TX13 b).2.1 := by decide +kernel
theorem tyX13_ok : ∀ k, k < 23 → parseFieldDescriptor (TX13 k).2.2.1 = some (tyX13 k) := by decide +kernel
abbrev cX13_init : ByteArray := prog_16_method_1_code
def yX13_init : MethodName := ⟨RX13, "<init>", "(LTripleStoreModel$Terms;LTripleStoreModel$Digits;LTripleStoreModel$Store;LTripleStoreModel$Paths;LTripleStoreModel$Tree;)V"⟩
abbrev cX13_begin : ByteArray := prog_16_method_2_code
def yX13_begin : MethodName := ⟨RX13, "begin", "()V"⟩
abbrev cX13_count : ByteArray := prog_16_method_3_code
def yX13_count : MethodName := ⟨RX13, "count", "()V"⟩
abbrev cX13_end : ByteArray := prog_16_method_4_code
def yX13_end : MethodName := ⟨RX13, "end", "(Z)V"⟩
abbrev cX13_copy : ByteArray := prog_16_method_5_code
def yX13_copy : MethodName := ⟨RX13, "copy", "(II)V"⟩
abbrev cX13_empty : ByteArray := prog_16_method_6_code
def yX13_empty : MethodName := ⟨RX13, "empty", "(I)V"⟩
abbrev cX13_get : ByteArray := prog_16_method_7_code
def yX13_get : MethodName := ⟨RX13, "get", "(II)I"⟩
abbrev cX13_set : ByteArray := prog_16_method_8_code
def yX13_set : MethodName := ⟨RX13, "set", "(III)V"⟩
abbrev cX13_down : ByteArray := prog_16_method_9_code
def yX13_down : MethodName := ⟨RX13, "down", "(III)I"⟩
abbrev cX13_fit : ByteArray := prog_16_method_10_code
def yX13_fit : MethodName := ⟨RX13, "fit", "(II)Z"⟩
abbrev cX13_join : ByteArray := prog_16_method_11_code
def yX13_join : MethodName := ⟨RX13, "join", "(III)V"⟩
abbrev cX13_countAll : ByteArray := prog_16_method_12_code
def yX13_countAll : MethodName := ⟨RX13, "countAll", "(I)V"⟩
abbrev cX13_cost : ByteArray := prog_16_method_13_code
def yX13_cost : MethodName := ⟨RX13, "cost", "(I)I"⟩
abbrev cX13_partCost : ByteArray := prog_16_method_14_code
def yX13_partCost : MethodName := ⟨RX13, "partCost", "(II)I"⟩
abbrev cX13_whole : ByteArray := prog_16_method_15_code
def yX13_whole : MethodName := ⟨RX13, "whole", "(I)I"⟩
abbrev cX13_group : ByteArray := prog_16_method_16_code
def yX13_group : MethodName := ⟨RX13, "group", "(LTripleStoreModel$Doer;IIIZ)I"⟩
abbrev cX13_alone : ByteArray := prog_16_method_17_code
def yX13_alone : MethodName := ⟨RX13, "alone", "(IIZ)I"⟩
abbrev cX13_joinSelect : ByteArray := prog_16_method_18_code
def yX13_joinSelect : MethodName := ⟨RX13, "joinSelect", "(III)I"⟩
abbrev cX13_joinAll : ByteArray := prog_16_method_19_code
def yX13_joinAll : MethodName := ⟨RX13, "joinAll", "(IIII)I"⟩
abbrev cX13_isTrue : ByteArray := prog_16_method_20_code
def yX13_isTrue : MethodName := ⟨RX13, "isTrue", "(II)Z"⟩
abbrev cX13_passes : ByteArray := prog_16_method_21_code
def yX13_passes : MethodName := ⟨RX13, "passes", "(II)Z"⟩
abbrev cX13_filter : ByteArray := prog_16_method_22_code
def yX13_filter : MethodName := ⟨RX13, "filter", "(III)I"⟩
abbrev cX13_part : ByteArray := prog_16_method_23_code
def yX13_part : MethodName := ⟨RX13, "part", "(III)I"⟩
abbrev cX13_optional : ByteArray := prog_16_method_24_code
def yX13_optional : MethodName := ⟨RX13, "optional", "(III)I"⟩
abbrev cX13_shares : ByteArray := prog_16_method_25_code
def yX13_shares : MethodName := ⟨RX13, "shares", "(II)Z"⟩
abbrev cX13_minus : ByteArray := prog_16_method_26_code
def yX13_minus : MethodName := ⟨RX13, "minus", "(III)I"⟩
abbrev cX13_union : ByteArray := prog_16_method_27_code
def yX13_union : MethodName := ⟨RX13, "union", "(III)I"⟩
abbrev cX13_bind : ByteArray := prog_16_method_28_code
def yX13_bind : MethodName := ⟨RX13, "bind", "(IIII)I"⟩
abbrev cX13_gives : ByteArray := prog_16_method_29_code
def yX13_gives : MethodName := ⟨RX13, "gives", "(II)I"⟩
abbrev cX13_table : ByteArray := prog_16_method_30_code
def yX13_table : MethodName := ⟨RX13, "table", "(III)I"⟩
abbrev cX13_hasTerms : ByteArray := prog_16_method_31_code
def yX13_hasTerms : MethodName := ⟨RX13, "hasTerms", "(II)Z"⟩
abbrev cX13_isKnown : ByteArray := prog_16_method_32_code
def yX13_isKnown : MethodName := ⟨RX13, "isKnown", "(JI)Z"⟩
abbrev cX13_different : ByteArray := prog_16_method_33_code
def yX13_different : MethodName := ⟨RX13, "different", "(II)I"⟩
abbrev cX13_estimate : ByteArray := prog_16_method_34_code
def yX13_estimate : MethodName := ⟨RX13, "estimate", "(IJ)J"⟩
abbrev cX13_variables : ByteArray := prog_16_method_35_code
def yX13_variables : MethodName := ⟨RX13, "variables", "(I)J"⟩
abbrev cX13_estimated : ByteArray := prog_16_method_36_code
def yX13_estimated : MethodName := ⟨RX13, "estimated", "(IJ)J"⟩
abbrev cX13_costOf : ByteArray := prog_16_method_37_code
def yX13_costOf : MethodName := ⟨RX13, "costOf", "()J"⟩
abbrev cX13_turn : ByteArray := prog_16_method_38_code
def yX13_turn : MethodName := ⟨RX13, "turn", "()Z"⟩
abbrev cX13_swap : ByteArray := prog_16_method_39_code
def yX13_swap : MethodName := ⟨RX13, "swap", "(II)V"⟩
abbrev cX13_plan : ByteArray := prog_16_method_40_code
def yX13_plan : MethodName := ⟨RX13, "plan", "(I)V"⟩
abbrev cX13_patternsOf : ByteArray := prog_16_method_41_code
def yX13_patternsOf : MethodName := ⟨RX13, "patternsOf", "(I)I"⟩
abbrev cX13_block : ByteArray := prog_16_method_42_code
def yX13_block : MethodName := ⟨RX13, "block", "(III)I"⟩
abbrev cX13_lay : ByteArray := prog_16_method_43_code
def yX13_lay : MethodName := ⟨RX13, "lay", "(IIII)Z"⟩
abbrev cX13_pattern : ByteArray := prog_16_method_44_code
def yX13_pattern : MethodName := ⟨RX13, "pattern", "(III)I"⟩
abbrev cX13_end_ : ByteArray := prog_16_method_45_code
def yX13_end_ : MethodName := ⟨RX13, "end", "(II)I"⟩
abbrev cX13_point : ByteArray := prog_16_method_46_code
def yX13_point : MethodName := ⟨RX13, "point", "(I)I"⟩
abbrev cX13_path : ByteArray := prog_16_method_47_code
def yX13_path : MethodName := ⟨RX13, "path", "(III)I"⟩
abbrev cX13_ends : ByteArray := prog_16_method_48_code
def yX13_ends : MethodName := ⟨RX13, "ends", "(IIIIZI)I"⟩
abbrev cX13_as : ByteArray := prog_16_method_49_code
def yX13_as : MethodName := ⟨RX13, "as", "(IIIIIJI)I"⟩
abbrev cX13_truth : ByteArray := prog_16_method_50_code
def yX13_truth : MethodName := ⟨RX13, "truth", "(I)I"⟩
abbrev cX13_truthOf : ByteArray := prog_16_method_51_code
def yX13_truthOf : MethodName := ⟨RX13, "truthOf", "(I)I"⟩
abbrev cX13_said : ByteArray := prog_16_method_52_code
def yX13_said : MethodName := ⟨RX13, "said", "(I)I"⟩
abbrev cX13_opposite : ByteArray := prog_16_method_53_code
def yX13_opposite : MethodName := ⟨RX13, "opposite", "(I)I"⟩
abbrev cX13_equal : ByteArray := prog_16_method_54_code
def yX13_equal : MethodName := ⟨RX13, "equal", "(II)I"⟩
abbrev cX13_less : ByteArray := prog_16_method_55_code
def yX13_less : MethodName := ⟨RX13, "less", "(II)I"⟩
abbrev cX13_number : ByteArray := prog_16_method_56_code
def yX13_number : MethodName := ⟨RX13, "number", "(ZZJI)I"⟩
abbrev cX13_reckon : ByteArray := prog_16_method_57_code
def yX13_reckon : MethodName := ⟨RX13, "reckon", "(III)I"⟩
abbrev cX13_compared : ByteArray := prog_16_method_58_code
def yX13_compared : MethodName := ⟨RX13, "compared", "(III)I"⟩
abbrev cX13_value : ByteArray := prog_16_method_59_code
def yX13_value : MethodName := ⟨RX13, "value", "(LTripleStoreModel$Doer;II)I"⟩
abbrev cX13_both : ByteArray := prog_16_method_60_code
def yX13_both : MethodName := ⟨RX13, "both", "(III)I"⟩
abbrev cX13_in : ByteArray := prog_16_method_61_code
def yX13_in : MethodName := ⟨RX13, "in", "(IIZ)I"⟩
abbrev cX13_exists : ByteArray := prog_16_method_62_code
def yX13_exists : MethodName := ⟨RX13, "exists", "(II)Z"⟩
abbrev cX13_function : ByteArray := prog_16_method_63_code
def yX13_function : MethodName := ⟨RX13, "function", "(III)I"⟩
abbrev cX13_isPlain : ByteArray := prog_16_method_64_code
def yX13_isPlain : MethodName := ⟨RX13, "isPlain", "(I)Z"⟩
abbrev cX13_sameTag : ByteArray := prog_16_method_65_code
def yX13_sameTag : MethodName := ⟨RX13, "sameTag", "(II)Z"⟩
abbrev cX13_start : ByteArray := prog_16_method_66_code
def yX13_start : MethodName := ⟨RX13, "start", "()V"⟩
abbrev cX13_finish : ByteArray := prog_16_method_67_code
def yX13_finish : MethodName := ⟨RX13, "finish", "(I)I"⟩
abbrev cX13_addPart : ByteArray := prog_16_method_68_code
def yX13_addPart : MethodName := ⟨RX13, "addPart", "(III)V"⟩
abbrev cX13_concat : ByteArray := prog_16_method_69_code
def yX13_concat : MethodName := ⟨RX13, "concat", "(II)I"⟩
abbrev cX13_piece : ByteArray := prog_16_method_70_code
def yX13_piece : MethodName := ⟨RX13, "piece", "(III)I"⟩
abbrev cX13_isAt : ByteArray := prog_16_method_71_code
def yX13_isAt : MethodName := ⟨RX13, "isAt", "(III)Z"⟩
abbrev cX13_two : ByteArray := prog_16_method_72_code
def yX13_two : MethodName := ⟨RX13, "two", "(III)I"⟩
abbrev cX13_word : ByteArray := prog_16_method_73_code
def yX13_word : MethodName := ⟨RX13, "word", "(ILjava/lang/String;)I"⟩
abbrev cX13_one : ByteArray := prog_16_method_74_code
def yX13_one : MethodName := ⟨RX13, "one", "(II)I"⟩
abbrev cX13_string : ByteArray := prog_16_method_75_code
def yX13_string : MethodName := ⟨RX13, "string", "()I"⟩
abbrev cX13_cased : ByteArray := prog_16_method_76_code
def yX13_cased : MethodName := ⟨RX13, "cased", "(IZ)I"⟩
abbrev cX13_typeOf : ByteArray := prog_16_method_77_code
def yX13_typeOf : MethodName := ⟨RX13, "typeOf", "(I)I"⟩
abbrev cX13_toName : ByteArray := prog_16_method_78_code
def yX13_toName : MethodName := ⟨RX13, "toName", "(I)I"⟩
abbrev cX13_gather : ByteArray := prog_16_method_79_code
def yX13_gather : MethodName := ⟨RX13, "gather", "(I)I"⟩
abbrev cX13_aggregate : ByteArray := prog_16_method_80_code
def yX13_aggregate : MethodName := ⟨RX13, "aggregate", "(I)I"⟩
abbrev cX13_rowsOfSet : ByteArray := prog_16_method_81_code
def yX13_rowsOfSet : MethodName := ⟨RX13, "rowsOfSet", "(Z)I"⟩
abbrev cX13_isSameRow : ByteArray := prog_16_method_82_code
def yX13_isSameRow : MethodName := ⟨RX13, "isSameRow", "(II)Z"⟩
abbrev cX13_together : ByteArray := prog_16_method_83_code
def yX13_together : MethodName := ⟨RX13, "together", "(IIII)Z"⟩
abbrev cX13_sum : ByteArray := prog_16_method_84_code
def yX13_sum : MethodName := ⟨RX13, "sum", "(III)Z"⟩
abbrev cX13_row : ByteArray := prog_16_method_85_code
def yX13_row : MethodName := ⟨RX13, "row", "(III)Z"⟩
abbrev cX13_select : ByteArray := prog_16_method_86_code
def yX13_select : MethodName := ⟨RX13, "select", "(LTripleStoreModel$Doer;II)I"⟩
abbrev cX13_keysOf : ByteArray := prog_16_method_87_code
def yX13_keysOf : MethodName := ⟨RX13, "keysOf", "(II)V"⟩
abbrev cX13_itemsOf : ByteArray := prog_16_method_88_code
def yX13_itemsOf : MethodName := ⟨RX13, "itemsOf", "(II)V"⟩
abbrev cX13_plain : ByteArray := prog_16_method_89_code
def yX13_plain : MethodName := ⟨RX13, "plain", "(III)I"⟩
abbrev cX13_sets : ByteArray := prog_16_method_90_code
def yX13_sets : MethodName := ⟨RX13, "sets", "(III)I"⟩
abbrev cX13_alike : ByteArray := prog_16_method_91_code
def yX13_alike : MethodName := ⟨RX13, "alike", "(III)Z"⟩
abbrev cX13_set_ : ByteArray := prog_16_method_92_code
def yX13_set_ : MethodName := ⟨RX13, "set", "(IIIIII)Z"⟩
abbrev cX13_columnsOf : ByteArray := prog_16_method_93_code
def yX13_columnsOf : MethodName := ⟨RX13, "columnsOf", "(I)I"⟩
abbrev cX13_columnOf : ByteArray := prog_16_method_94_code
def yX13_columnOf : MethodName := ⟨RX13, "columnOf", "(II)I"⟩
abbrev cX13_compareTerms : ByteArray := prog_16_method_95_code
def yX13_compareTerms : MethodName := ⟨RX13, "compareTerms", "(II)I"⟩
abbrev cX13_compareRows : ByteArray := prog_16_method_96_code
def yX13_compareRows : MethodName := ⟨RX13, "compareRows", "(IIIII)I"⟩
abbrev cX13_compareGiven : ByteArray := prog_16_method_97_code
def yX13_compareGiven : MethodName := ⟨RX13, "compareGiven", "(III)I"⟩
abbrev cX13_markAgain : ByteArray := prog_16_method_98_code
def yX13_markAgain : MethodName := ⟨RX13, "markAgain", "(IIIII)V"⟩
abbrev cX13_settle : ByteArray := prog_16_method_99_code
def yX13_settle : MethodName := ⟨RX13, "settle", "(IIII)I"⟩
abbrev cX13_merge : ByteArray := prog_16_method_100_code
def yX13_merge : MethodName := ⟨RX13, "merge", "(IIIIIIII)V"⟩
abbrev cX13_project : ByteArray := prog_16_method_101_code
def yX13_project : MethodName := ⟨RX13, "project", "(III)V"⟩
def RX14 : String := "TripleStoreModel$Lexer"
def TX14 : u_T := fun k => match k with
  | 0 => ("TripleStoreModel$Lexer", "terms", "LTripleStoreModel$Terms;", true)
  | 1 => ("TripleStoreModel$Lexer", "text", "[B", true)
  | 2 => ("TripleStoreModel$Lexer", "size", "I", false)
  | 3 => ("TripleStoreModel$Lexer", "at", "I", false)
  | 4 => ("TripleStoreModel$Lexer", "loaded", "Z", false)
  | 5 => ("TripleStoreModel$Lexer", "kind", "I", false)
  | 6 => ("TripleStoreModel$Lexer", "place", "I", false)
  | 7 => ("TripleStoreModel$Lexer", "end", "I", false)
  | 8 => ("TripleStoreModel$Lexer", "term", "I", false)
  | 9 => ("TripleStoreModel$Lexer", "sign", "I", false)
  | 10 => ("TripleStoreModel$Lexer", "behindValue", "Z", false)
  | 11 => ("TripleStoreModel$Lexer", "found", "J", false)
  | 12 => ("TripleStoreModel$Lexer", "foundScale", "I", false)
  | _ => ("TripleStoreModel$Lexer", "foundDot", "Z", false)
def tyX14 : Nat → FieldType := fun k => match k with
  | 0 => .object "TripleStoreModel$Terms"
  | 1 => .array .byte
  | 2 => .int
  | 3 => .int
  | 4 => .boolean
  | 5 => .int
  | 6 => .int
  | 7 => .int
  | 8 => .int
  | 9 => .int
  | 10 => .boolean
  | 11 => .long
  | 12 => .int
  | _ => .boolean
abbrev wsX140 : List Cond := u_ws RX14 TX14 14
theorem nmX14 : ∀ a, a < 14 → ∀ b, b < 14 → a ≠ b → (TX14 a).2.1 ≠ (TX14 b).2.1 := by decide +kernel
theorem tyX14_ok : ∀ k, k < 14 → parseFieldDescriptor (TX14 k).2.2.1 = some (tyX14 k) := by decide +kernel
abbrev cX14_init : ByteArray := prog_17_method_1_code
def yX14_init : MethodName := ⟨RX14, "<init>", "(LTripleStoreModel$Terms;)V"⟩
abbrev cX14_begin : ByteArray := prog_17_method_2_code
def yX14_begin : MethodName := ⟨RX14, "begin", "()V"⟩
abbrev cX14_byteAt : ByteArray := prog_17_method_3_code
def yX14_byteAt : MethodName := ⟨RX14, "byteAt", "(I)I"⟩
abbrev cX14_isLetter : ByteArray := prog_17_method_4_code
def yX14_isLetter : MethodName := ⟨RX14, "isLetter", "(I)Z"⟩
abbrev cX14_isDigit : ByteArray := prog_17_method_5_code
def yX14_isDigit : MethodName := ⟨RX14, "isDigit", "(I)Z"⟩
abbrev cX14_isWord : ByteArray := prog_17_method_6_code
def yX14_isWord : MethodName := ⟨RX14, "isWord", "(I)Z"⟩
abbrev cX14_isNameByte : ByteArray := prog_17_method_7_code
def yX14_isNameByte : MethodName := ⟨RX14, "isNameByte", "(I)Z"⟩
abbrev cX14_skip : ByteArray := prog_17_method_8_code
def yX14_skip : MethodName := ⟨RX14, "skip", "()V"⟩
abbrev cX14_look : ByteArray := prog_17_method_9_code
def yX14_look : MethodName := ⟨RX14, "look", "()I"⟩
abbrev cX14_take : ByteArray := prog_17_method_10_code
def yX14_take : MethodName := ⟨RX14, "take", "()V"⟩
abbrev cX14_isSign : ByteArray := prog_17_method_11_code
def yX14_isSign : MethodName := ⟨RX14, "isSign", "(I)Z"⟩
abbrev cX14_isWordHere : ByteArray := prog_17_method_12_code
def yX14_isWordHere : MethodName := ⟨RX14, "isWordHere", "(Ljava/lang/String;)Z"⟩
abbrev cX14_run : ByteArray := prog_17_method_13_code
def yX14_run : MethodName := ⟨RX14, "run", "(II)I"⟩
abbrev cX14_label : ByteArray := prog_17_method_14_code
def yX14_label : MethodName := ⟨RX14, "label", "(III)V"⟩
abbrev cX14_give : ByteArray := prog_17_method_15_code
def yX14_give : MethodName := ⟨RX14, "give", "()V"⟩
abbrev cX14_nameEnd : ByteArray := prog_17_method_16_code
def yX14_nameEnd : MethodName := ⟨RX14, "nameEnd", "(I)I"⟩
abbrev cX14_name : ByteArray := prog_17_method_17_code
def yX14_name : MethodName := ⟨RX14, "name", "()V"⟩
abbrev cX14_word : ByteArray := prog_17_method_18_code
def yX14_word : MethodName := ⟨RX14, "word", "()V"⟩
abbrev cX14_signs : ByteArray := prog_17_method_19_code
def yX14_signs : MethodName := ⟨RX14, "signs", "(I)V"⟩
abbrev cX14_isNumberHere : ByteArray := prog_17_method_20_code
def yX14_isNumberHere : MethodName := ⟨RX14, "isNumberHere", "(I)Z"⟩
abbrev cX14_numberEnd : ByteArray := prog_17_method_21_code
def yX14_numberEnd : MethodName := ⟨RX14, "numberEnd", "(II)I"⟩
abbrev cX14_number : ByteArray := prog_17_method_22_code
def yX14_number : MethodName := ⟨RX14, "number", "()V"⟩
abbrev cX14_textEnd : ByteArray := prog_17_method_23_code
def yX14_textEnd : MethodName := ⟨RX14, "textEnd", "()I"⟩
abbrev cX14_string : ByteArray := prog_17_method_24_code
def yX14_string : MethodName := ⟨RX14, "string", "()V"⟩
abbrev cX14_tag : ByteArray := prog_17_method_25_code
def yX14_tag : MethodName := ⟨RX14, "tag", "()V"⟩
abbrev cX14_isType : ByteArray := prog_17_method_26_code
def yX14_isType : MethodName := ⟨RX14, "isType", "(Ljava/lang/String;II)Z"⟩
abbrev cX14_typed : ByteArray := prog_17_method_27_code
def yX14_typed : MethodName := ⟨RX14, "typed", "()V"⟩
abbrev cX14_isNumberText : ByteArray := prog_17_method_28_code
def yX14_isNumberText : MethodName := ⟨RX14, "isNumberText", "(Z)Z"⟩
def RX15 : String := "TripleStoreModel$Paths"
def TX15 : u_T := fun k => match k with
  | 0 => ("TripleStoreModel$Paths", "store", "LTripleStoreModel$Store;", true)
  | 1 => ("TripleStoreModel$Paths", "sorts", "[I", true)
  | 2 => ("TripleStoreModel$Paths", "firsts", "[I", true)
  | 3 => ("TripleStoreModel$Paths", "seconds", "[I", true)
  | 4 => ("TripleStoreModel$Paths", "nodes", "I", false)
  | 5 => ("TripleStoreModel$Paths", "names", "[I", true)
  | 6 => ("TripleStoreModel$Paths", "nameCount", "I", false)
  | 7 => ("TripleStoreModel$Paths", "rows", "[J", true)
  | 8 => ("TripleStoreModel$Paths", "deep", "I", false)
  | _ => ("TripleStoreModel$Paths", "around", "I", false)
def tyX15 : Nat → FieldType := fun k => match k with
  | 0 => .object "TripleStoreModel$Store"
  | 1 => .array .int
  | 2 => .array .int
  | 3 => .array .int
  | 4 => .int
  | 5 => .array .int
  | 6 => .int
  | 7 => .array .long
  | 8 => .int
  | _ => .int
abbrev wsX150 : List Cond := u_ws RX15 TX15 10
theorem nmX15 : ∀ a, a < 10 → ∀ b, b < 10 → a ≠ b → (TX15 a).2.1 ≠ (TX15 b).2.1 := by decide +kernel
theorem tyX15_ok : ∀ k, k < 10 → parseFieldDescriptor (TX15 k).2.2.1 = some (tyX15 k) := by decide +kernel
abbrev cX15_init : ByteArray := prog_18_method_1_code
def yX15_init : MethodName := ⟨RX15, "<init>", "(LTripleStoreModel$Store;)V"⟩
abbrev cX15_clear : ByteArray := prog_18_method_2_code
def yX15_clear : MethodName := ⟨RX15, "clear", "()V"⟩
abbrev cX15_make : ByteArray := prog_18_method_3_code
def yX15_make : MethodName := ⟨RX15, "make", "(III)I"⟩
abbrev cX15_name : ByteArray := prog_18_method_4_code
def yX15_name : MethodName := ⟨RX15, "name", "(I)V"⟩
abbrev cX15_most : ByteArray := prog_18_method_5_code
def yX15_most : MethodName := ⟨RX15, "most", "(J)J"⟩
abbrev cX15_isNamed : ByteArray := prog_18_method_6_code
def yX15_isNamed : MethodName := ⟨RX15, "isNamed", "(IIZ)Z"⟩
abbrev cX15_hasNames : ByteArray := prog_18_method_7_code
def yX15_hasNames : MethodName := ⟨RX15, "hasNames", "(IZ)Z"⟩
abbrev cX15_go : ByteArray := prog_18_method_8_code
def yX15_go : MethodName := ⟨RX15, "go", "(LTripleStoreModel$Paths;IZII)V"⟩
abbrev cX15_open : ByteArray := prog_18_method_9_code
def yX15_open : MethodName := ⟨RX15, "open", "()I"⟩
abbrev cX15_add : ByteArray := prog_18_method_10_code
def yX15_add : MethodName := ⟨RX15, "add", "(II)V"⟩
abbrev cX15_edge : ByteArray := prog_18_method_11_code
def yX15_edge : MethodName := ⟨RX15, "edge", "(IZII)V"⟩
abbrev cX15_edges : ByteArray := prog_18_method_12_code
def yX15_edges : MethodName := ⟨RX15, "edges", "(IZII)V"⟩
abbrev cX15_others : ByteArray := prog_18_method_13_code
def yX15_others : MethodName := ⟨RX15, "others", "(IZII)V"⟩
abbrev cX15_isMark : ByteArray := prog_18_method_14_code
def yX15_isMark : MethodName := ⟨RX15, "isMark", "(I)Z"⟩
abbrev cX15_marks : ByteArray := prog_18_method_15_code
def yX15_marks : MethodName := ⟨RX15, "marks", "(IZII)V"⟩
abbrev cX15_spread : ByteArray := prog_18_method_16_code
def yX15_spread : MethodName := ⟨RX15, "spread", "(IZIIZ)V"⟩
abbrev cX15_from : ByteArray := prog_18_method_17_code
def yX15_from : MethodName := ⟨RX15, "from", "(IIZ)V"⟩
abbrev cX15_times : ByteArray := prog_18_method_18_code
def yX15_times : MethodName := ⟨RX15, "times", "(I)J"⟩
def RX16 : String := "TripleStoreModel$Reader"
def TX16 : u_T := fun k => match k with
  | 0 => ("TripleStoreModel$Reader", "lexer", "LTripleStoreModel$Lexer;", true)
  | 1 => ("TripleStoreModel$Reader", "terms", "LTripleStoreModel$Terms;", true)
  | 2 => ("TripleStoreModel$Reader", "tree", "LTripleStoreModel$Tree;", true)
  | 3 => ("TripleStoreModel$Reader", "paths", "LTripleStoreModel$Paths;", true)
  | 4 => ("TripleStoreModel$Reader", "wrong", "Ljava/lang/IllegalStateException;", true)
  | 5 => ("TripleStoreModel$Reader", "why", "I", false)
  | 6 => ("TripleStoreModel$Reader", "where", "I", false)
  | 7 => ("TripleStoreModel$Reader", "verb", "I", false)
  | 8 => ("TripleStoreModel$Reader", "body", "I", false)
  | 9 => ("TripleStoreModel$Reader", "number", "J", false)
  | 10 => ("TripleStoreModel$Reader", "facts", "[I", true)
  | 11 => ("TripleStoreModel$Reader", "firstFacts", "I", false)
  | 12 => ("TripleStoreModel$Reader", "allFacts", "I", false)
  | 13 => ("TripleStoreModel$Reader", "deep", "I", false)
  | 14 => ("TripleStoreModel$Reader", "brackets", "I", false)
  | 15 => ("TripleStoreModel$Reader", "objects", "I", false)
  | 16 => ("TripleStoreModel$Reader", "mayAggregate", "Z", false)
  | 17 => ("TripleStoreModel$Reader", "inAggregate", "Z", false)
  | 18 => ("TripleStoreModel$Reader", "scope", "I", false)
  | 19 => ("TripleStoreModel$Reader", "stage", "I", false)
  | 20 => ("TripleStoreModel$Reader", "aggregates", "Z", false)
  | 21 => ("TripleStoreModel$Reader", "steps", "I", false)
  | 22 => ("TripleStoreModel$Reader", "pathBrackets", "I", false)
  | 23 => ("TripleStoreModel$Reader", "bracketed", "Z", false)
  | 24 => ("TripleStoreModel$Reader", "headVariables", "J", false)
  | 25 => ("TripleStoreModel$Reader", "inHead", "Z", false)
  | 26 => ("TripleStoreModel$Reader", "uses", "[I", true)
  | 27 => ("TripleStoreModel$Reader", "useCount", "I", false)
  | 28 => ("TripleStoreModel$Reader", "seen", "[I", true)
  | 29 => ("TripleStoreModel$Reader", "silent", "I", false)
  | 30 => ("TripleStoreModel$Reader", "reserved", "I", false)
  | 31 => ("TripleStoreModel$Reader", "keptSeen", "[I", true)
  | _ => ("TripleStoreModel$Reader", "keptCount", "I", false)
def tyX16 : Nat → FieldType := fun k => match k with
  | 0 => .object "TripleStoreModel$Lexer"
  | 1 => .object "TripleStoreModel$Terms"
  | 2 => .object "TripleStoreModel$Tree"
  | 3 => .object "TripleStoreModel$Paths"
  | 4 => .object "java/lang/IllegalStateException"
  | 5 => .int
  | 6 => .int
  | 7 => .int
  | 8 => .int
  | 9 => .long
  | 10 => .array .int
  | 11 => .int
  | 12 => .int
  | 13 => .int
  | 14 => .int
  | 15 => .int
  | 16 => .boolean
  | 17 => .boolean
  | 18 => .int
  | 19 => .int
  | 20 => .boolean
  | 21 => .int
  | 22 => .int
  | 23 => .boolean
  | 24 => .long
  | 25 => .boolean
  | 26 => .array .int
  | 27 => .int
  | 28 => .array .int
  | 29 => .int
  | 30 => .int
  | 31 => .array .int
  | _ => .int
abbrev wsX160 : List Cond := u_ws RX16 TX16 33
theorem nmX16 : ∀ a, a < 33 → ∀ b, b < 33 → a ≠ b → (TX16 a).2.1 ≠ (TX16 b).2.1 := by decide +kernel
theorem tyX16_ok : ∀ k, k < 33 → parseFieldDescriptor (TX16 k).2.2.1 = some (tyX16 k) := by decide +kernel
abbrev cX16_init : ByteArray := prog_19_method_1_code
def yX16_init : MethodName := ⟨RX16, "<init>", "(LTripleStoreModel$Lexer;LTripleStoreModel$Terms;LTripleStoreModel$Tree;LTripleStoreModel$Paths;)V"⟩
abbrev cX16_fail : ByteArray := prog_19_method_2_code
def yX16_fail : MethodName := ⟨RX16, "fail", "(II)V"⟩
abbrev cX16_need : ByteArray := prog_19_method_3_code
def yX16_need : MethodName := ⟨RX16, "need", "(ZI)V"⟩
abbrev cX16_check : ByteArray := prog_19_method_4_code
def yX16_check : MethodName := ⟨RX16, "check", "()V"⟩
abbrev cX16_take : ByteArray := prog_19_method_5_code
def yX16_take : MethodName := ⟨RX16, "take", "()V"⟩
abbrev cX16_isSign : ByteArray := prog_19_method_6_code
def yX16_isSign : MethodName := ⟨RX16, "isSign", "(I)Z"⟩
abbrev cX16_isWord : ByteArray := prog_19_method_7_code
def yX16_isWord : MethodName := ⟨RX16, "isWord", "(Ljava/lang/String;)Z"⟩
abbrev cX16_takesSign : ByteArray := prog_19_method_8_code
def yX16_takesSign : MethodName := ⟨RX16, "takesSign", "(I)Z"⟩
abbrev cX16_takesWord : ByteArray := prog_19_method_9_code
def yX16_takesWord : MethodName := ⟨RX16, "takesWord", "(Ljava/lang/String;)Z"⟩
abbrev cX16_wantSign : ByteArray := prog_19_method_10_code
def yX16_wantSign : MethodName := ⟨RX16, "wantSign", "(I)V"⟩
abbrev cX16_wantWord : ByteArray := prog_19_method_11_code
def yX16_wantWord : MethodName := ⟨RX16, "wantWord", "(Ljava/lang/String;)V"⟩
abbrev cX16_isVariable : ByteArray := prog_19_method_12_code
def yX16_isVariable : MethodName := ⟨RX16, "isVariable", "()Z"⟩
abbrev cX16_isTerm : ByteArray := prog_19_method_13_code
def yX16_isTerm : MethodName := ⟨RX16, "isTerm", "()Z"⟩
abbrev cX16_isKind : ByteArray := prog_19_method_14_code
def yX16_isKind : MethodName := ⟨RX16, "isKind", "(I)Z"⟩
abbrev cX16_variableHere : ByteArray := prog_19_method_15_code
def yX16_variableHere : MethodName := ⟨RX16, "variableHere", "()I"⟩
abbrev cX16_isName : ByteArray := prog_19_method_16_code
def yX16_isName : MethodName := ⟨RX16, "isName", "(I)Z"⟩
abbrev cX16_variable : ByteArray := prog_19_method_17_code
def yX16_variable : MethodName := ⟨RX16, "variable", "()I"⟩
abbrev cX16_termHere : ByteArray := prog_19_method_18_code
def yX16_termHere : MethodName := ⟨RX16, "termHere", "()I"⟩
abbrev cX16_typeName : ByteArray := prog_19_method_19_code
def yX16_typeName : MethodName := ⟨RX16, "typeName", "()I"⟩
abbrev cX16_name : ByteArray := prog_19_method_20_code
def yX16_name : MethodName := ⟨RX16, "name", "()I"⟩
abbrev cX16_isNode : ByteArray := prog_19_method_21_code
def yX16_isNode : MethodName := ⟨RX16, "isNode", "()Z"⟩
abbrev cX16_node : ByteArray := prog_19_method_22_code
def yX16_node : MethodName := ⟨RX16, "node", "(Z)I"⟩
abbrev cX16_item : ByteArray := prog_19_method_23_code
def yX16_item : MethodName := ⟨RX16, "item", "(ZZ)I"⟩
abbrev cX16_facts : ByteArray := prog_19_method_24_code
def yX16_facts : MethodName := ⟨RX16, "facts", "(Z)V"⟩
abbrev cX16_seenAt : ByteArray := prog_19_method_25_code
def yX16_seenAt : MethodName := ⟨RX16, "seenAt", "()I"⟩
abbrev cX16_isSeen : ByteArray := prog_19_method_26_code
def yX16_isSeen : MethodName := ⟨RX16, "isSeen", "(II)Z"⟩
abbrev cX16_see : ByteArray := prog_19_method_27_code
def yX16_see : MethodName := ⟨RX16, "see", "(I)V"⟩
abbrev cX16_seeInner : ByteArray := prog_19_method_28_code
def yX16_seeInner : MethodName := ⟨RX16, "seeInner", "()V"⟩
abbrev cX16_seenItem : ByteArray := prog_19_method_29_code
def yX16_seenItem : MethodName := ⟨RX16, "seenItem", "(I)I"⟩
abbrev cX16_block : ByteArray := prog_19_method_30_code
def yX16_block : MethodName := ⟨RX16, "block", "()I"⟩
abbrev cX16_verb : ByteArray := prog_19_method_31_code
def yX16_verb : MethodName := ⟨RX16, "verb", "(II)I"⟩
abbrev cX16_step : ByteArray := prog_19_method_32_code
def yX16_step : MethodName := ⟨RX16, "step", "()V"⟩
abbrev cX16_path : ByteArray := prog_19_method_33_code
def yX16_path : MethodName := ⟨RX16, "path", "(LTripleStoreModel$Reader;)I"⟩
abbrev cX16_sequence : ByteArray := prog_19_method_34_code
def yX16_sequence : MethodName := ⟨RX16, "sequence", "()I"⟩
abbrev cX16_stepHere : ByteArray := prog_19_method_35_code
def yX16_stepHere : MethodName := ⟨RX16, "stepHere", "()I"⟩
abbrev cX16_one : ByteArray := prog_19_method_36_code
def yX16_one : MethodName := ⟨RX16, "one", "()I"⟩
abbrev cX16_none : ByteArray := prog_19_method_37_code
def yX16_none : MethodName := ⟨RX16, "none", "()V"⟩
abbrev cX16_group : ByteArray := prog_19_method_38_code
def yX16_group : MethodName := ⟨RX16, "group", "(LTripleStoreModel$Reader;)I"⟩
abbrev cX16_showColumns : ByteArray := prog_19_method_39_code
def yX16_showColumns : MethodName := ⟨RX16, "showColumns", "(I)V"⟩
abbrev cX16_parts : ByteArray := prog_19_method_40_code
def yX16_parts : MethodName := ⟨RX16, "parts", "(I)V"⟩
abbrev cX16_part : ByteArray := prog_19_method_41_code
def yX16_part : MethodName := ⟨RX16, "part", "()I"⟩
abbrev cX16_union : ByteArray := prog_19_method_42_code
def yX16_union : MethodName := ⟨RX16, "union", "()I"⟩
abbrev cX16_bind : ByteArray := prog_19_method_43_code
def yX16_bind : MethodName := ⟨RX16, "bind", "()I"⟩
abbrev cX16_values : ByteArray := prog_19_method_44_code
def yX16_values : MethodName := ⟨RX16, "values", "()I"⟩
abbrev cX16_given : ByteArray := prog_19_method_45_code
def yX16_given : MethodName := ⟨RX16, "given", "(IZ)V"⟩
abbrev cX16_open : ByteArray := prog_19_method_46_code
def yX16_open : MethodName := ⟨RX16, "open", "()V"⟩
abbrev cX16_close : ByteArray := prog_19_method_47_code
def yX16_close : MethodName := ⟨RX16, "close", "()V"⟩
abbrev cX16_bracket : ByteArray := prog_19_method_48_code
def yX16_bracket : MethodName := ⟨RX16, "bracket", "()I"⟩
abbrev cX16_count : ByteArray := prog_19_method_49_code
def yX16_count : MethodName := ⟨RX16, "count", "()V"⟩
abbrev cX16_two : ByteArray := prog_19_method_50_code
def yX16_two : MethodName := ⟨RX16, "two", "(IIII)I"⟩
abbrev cX16_expression : ByteArray := prog_19_method_51_code
def yX16_expression : MethodName := ⟨RX16, "expression", "(LTripleStoreModel$Reader;)I"⟩
abbrev cX16_reserve : ByteArray := prog_19_method_52_code
def yX16_reserve : MethodName := ⟨RX16, "reserve", "()V"⟩
abbrev cX16_join : ByteArray := prog_19_method_53_code
def yX16_join : MethodName := ⟨RX16, "join", "(III)I"⟩
abbrev cX16_joinRow : ByteArray := prog_19_method_54_code
def yX16_joinRow : MethodName := ⟨RX16, "joinRow", "(IIIZ)I"⟩
abbrev cX16_conjunction : ByteArray := prog_19_method_55_code
def yX16_conjunction : MethodName := ⟨RX16, "conjunction", "()I"⟩
abbrev cX16_comparison : ByteArray := prog_19_method_56_code
def yX16_comparison : MethodName := ⟨RX16, "comparison", "()I"⟩
abbrev cX16_test : ByteArray := prog_19_method_57_code
def yX16_test : MethodName := ⟨RX16, "test", "()I"⟩
abbrev cX16_sum : ByteArray := prog_19_method_58_code
def yX16_sum : MethodName := ⟨RX16, "sum", "()I"⟩
abbrev cX16_product : ByteArray := prog_19_method_59_code
def yX16_product : MethodName := ⟨RX16, "product", "()I"⟩
abbrev cX16_signed : ByteArray := prog_19_method_60_code
def yX16_signed : MethodName := ⟨RX16, "signed", "()I"⟩
abbrev cX16_value : ByteArray := prog_19_method_61_code
def yX16_value : MethodName := ⟨RX16, "value", "()I"⟩
abbrev cX16_used : ByteArray := prog_19_method_62_code
def yX16_used : MethodName := ⟨RX16, "used", "(Z)I"⟩
abbrev cX16_bound : ByteArray := prog_19_method_63_code
def yX16_bound : MethodName := ⟨RX16, "bound", "()I"⟩
abbrev cX16_among : ByteArray := prog_19_method_64_code
def yX16_among : MethodName := ⟨RX16, "among", "(Ljava/lang/String;)I"⟩
abbrev cX16_functionHere : ByteArray := prog_19_method_65_code
def yX16_functionHere : MethodName := ⟨RX16, "functionHere", "()I"⟩
abbrev cX16_fold : ByteArray := prog_19_method_66_code
def yX16_fold : MethodName := ⟨RX16, "fold", "()I"⟩
abbrev cX16_least : ByteArray := prog_19_method_67_code
def yX16_least : MethodName := ⟨RX16, "least", "(I)I"⟩
abbrev cX16_most : ByteArray := prog_19_method_68_code
def yX16_most : MethodName := ⟨RX16, "most", "(I)I"⟩
abbrev cX16_call : ByteArray := prog_19_method_69_code
def yX16_call : MethodName := ⟨RX16, "call", "(I)I"⟩
abbrev cX16_exists : ByteArray := prog_19_method_70_code
def yX16_exists : MethodName := ⟨RX16, "exists", "()I"⟩
abbrev cX16_aggregate : ByteArray := prog_19_method_71_code
def yX16_aggregate : MethodName := ⟨RX16, "aggregate", "(I)I"⟩
abbrev cX16_select : ByteArray := prog_19_method_72_code
def yX16_select : MethodName := ⟨RX16, "select", "()I"⟩
abbrev cX16_keepSeen : ByteArray := prog_19_method_73_code
def yX16_keepSeen : MethodName := ⟨RX16, "keepSeen", "()I"⟩
abbrev cX16_isShown : ByteArray := prog_19_method_74_code
def yX16_isShown : MethodName := ⟨RX16, "isShown", "(II)Z"⟩
abbrev cX16_items : ByteArray := prog_19_method_75_code
def yX16_items : MethodName := ⟨RX16, "items", "(I)I"⟩
abbrev cX16_item_ : ByteArray := prog_19_method_76_code
def yX16_item_ : MethodName := ⟨RX16, "item", "(I)V"⟩
abbrev cX16_ends : ByteArray := prog_19_method_77_code
def yX16_ends : MethodName := ⟨RX16, "ends", "(I)V"⟩
abbrev cX16_keys : ByteArray := prog_19_method_78_code
def yX16_keys : MethodName := ⟨RX16, "keys", "(I)V"⟩
abbrev cX16_whole : ByteArray := prog_19_method_79_code
def yX16_whole : MethodName := ⟨RX16, "whole", "()I"⟩
abbrev cX16_isSet : ByteArray := prog_19_method_80_code
def yX16_isSet : MethodName := ⟨RX16, "isSet", "(II)Z"⟩
abbrev cX16_check_ : ByteArray := prog_19_method_81_code
def yX16_check_ : MethodName := ⟨RX16, "check", "(III)V"⟩
abbrev cX16_checkGrouped : ByteArray := prog_19_method_82_code
def yX16_checkGrouped : MethodName := ⟨RX16, "checkGrouped", "(II)V"⟩
abbrev cX16_bothFacts : ByteArray := prog_19_method_83_code
def yX16_bothFacts : MethodName := ⟨RX16, "bothFacts", "(Z)V"⟩
abbrev cX16_where : ByteArray := prog_19_method_84_code
def yX16_where : MethodName := ⟨RX16, "where", "()V"⟩
abbrev cX16_statement : ByteArray := prog_19_method_85_code
def yX16_statement : MethodName := ⟨RX16, "statement", "()V"⟩
abbrev cX16_rule : ByteArray := prog_19_method_86_code
def yX16_rule : MethodName := ⟨RX16, "rule", "()V"⟩
abbrev cX16_read : ByteArray := prog_19_method_87_code
def yX16_read : MethodName := ⟨RX16, "read", "()I"⟩
def RX17 : String := "TripleStoreModel$Store"
def TX17 : u_T := fun k => match k with
  | 0 => ("TripleStoreModel$Store", "terms", "LTripleStoreModel$Terms;", true)
  | 1 => ("TripleStoreModel$Store", "said", "[I", true)
  | 2 => ("TripleStoreModel$Store", "saidCount", "I", false)
  | 3 => ("TripleStoreModel$Store", "row", "[I", true)
  | 4 => ("TripleStoreModel$Store", "count", "I", false)
  | 5 => ("TripleStoreModel$Store", "heads", "[I", true)
  | 6 => ("TripleStoreModel$Store", "nexts", "[I", true)
  | 7 => ("TripleStoreModel$Store", "items", "[I", true)
  | 8 => ("TripleStoreModel$Store", "bodies", "[I", true)
  | 9 => ("TripleStoreModel$Store", "alls", "[I", true)
  | 10 => ("TripleStoreModel$Store", "rules", "I", false)
  | 11 => ("TripleStoreModel$Store", "choices", "I", false)
  | 12 => ("TripleStoreModel$Store", "values", "[I", true)
  | 13 => ("TripleStoreModel$Store", "bound", "[I", true)
  | 14 => ("TripleStoreModel$Store", "places", "[I", true)
  | 15 => ("TripleStoreModel$Store", "sorted", "[I", true)
  | 16 => ("TripleStoreModel$Store", "spare", "[I", true)
  | _ => ("TripleStoreModel$Store", "isSorted", "Z", false)
def tyX17 : Nat → FieldType := fun k => match k with
  | 0 => .object "TripleStoreModel$Terms"
  | 1 => .array .int
  | 2 => .int
  | 3 => .array .int
  | 4 => .int
  | 5 => .array .int
  | 6 => .array .int
  | 7 => .array .int
  | 8 => .array .int
  | 9 => .array .int
  | 10 => .int
  | 11 => .int
  | 12 => .array .int
  | 13 => .array .int
  | 14 => .array .int
  | 15 => .array .int
  | 16 => .array .int
  | _ => .boolean
abbrev wsX170 : List Cond := u_ws RX17 TX17 18
theorem nmX17 : ∀ a, a < 18 → ∀ b, b < 18 → a ≠ b → (TX17 a).2.1 ≠ (TX17 b).2.1 := by decide +kernel
theorem tyX17_ok : ∀ k, k < 18 → parseFieldDescriptor (TX17 k).2.2.1 = some (tyX17 k) := by decide +kernel
abbrev cX17_init : ByteArray := prog_20_method_1_code
def yX17_init : MethodName := ⟨RX17, "<init>", "(LTripleStoreModel$Terms;)V"⟩
abbrev cX17_slot : ByteArray := prog_20_method_2_code
def yX17_slot : MethodName := ⟨RX17, "slot", "(III)I"⟩
abbrev cX17_find : ByteArray := prog_20_method_3_code
def yX17_find : MethodName := ⟨RX17, "find", "(III)I"⟩
abbrev cX17_come : ByteArray := prog_20_method_4_code
def yX17_come : MethodName := ⟨RX17, "come", "(III)Z"⟩
abbrev cX17_findSaid : ByteArray := prog_20_method_5_code
def yX17_findSaid : MethodName := ⟨RX17, "findSaid", "(III)I"⟩
abbrev cX17_say : ByteArray := prog_20_method_6_code
def yX17_say : MethodName := ⟨RX17, "say", "(III)I"⟩
abbrev cX17_unsay : ByteArray := prog_20_method_7_code
def yX17_unsay : MethodName := ⟨RX17, "unsay", "(III)Z"⟩
abbrev cX17_isTriple : ByteArray := prog_20_method_8_code
def yX17_isTriple : MethodName := ⟨RX17, "isTriple", "(III)Z"⟩
abbrev cX17_at : ByteArray := prog_20_method_9_code
def yX17_at : MethodName := ⟨RX17, "at", "(II)I"⟩
abbrev cX17_loosen : ByteArray := prog_20_method_10_code
def yX17_loosen : MethodName := ⟨RX17, "loosen", "(II)V"⟩
abbrev cX17_bind : ByteArray := prog_20_method_11_code
def yX17_bind : MethodName := ⟨RX17, "bind", "(II)Z"⟩
abbrev cX17_value : ByteArray := prog_20_method_12_code
def yX17_value : MethodName := ⟨RX17, "value", "(I)I"⟩
abbrev cX17_go : ByteArray := prog_20_method_13_code
def yX17_go : MethodName := ⟨RX17, "go", "(IZ)Z"⟩
abbrev cX17_give : ByteArray := prog_20_method_14_code
def yX17_give : MethodName := ⟨RX17, "give", "(I)Z"⟩
abbrev cX17_reckon : ByteArray := prog_20_method_15_code
def yX17_reckon : MethodName := ⟨RX17, "reckon", "()Z"⟩
abbrev cX17_dropRule : ByteArray := prog_20_method_16_code
def yX17_dropRule : MethodName := ⟨RX17, "dropRule", "(I)V"⟩
abbrev cX17_key : ByteArray := prog_20_method_17_code
def yX17_key : MethodName := ⟨RX17, "key", "(III)I"⟩
abbrev cX17_sort : ByteArray := prog_20_method_18_code
def yX17_sort : MethodName := ⟨RX17, "sort", "()V"⟩
abbrev cX17_sortBy : ByteArray := prog_20_method_19_code
def yX17_sortBy : MethodName := ⟨RX17, "sortBy", "(II)V"⟩
abbrev cX17_place : ByteArray := prog_20_method_20_code
def yX17_place : MethodName := ⟨RX17, "place", "(II)I"⟩
abbrev cX17_beginning : ByteArray := prog_20_method_21_code
def yX17_beginning : MethodName := ⟨RX17, "beginning", "(IIIII)I"⟩
def RX18 : String := "TripleStoreModel$Terms"
def TX18 : u_T := fun k => match k with
  | 0 => ("TripleStoreModel$Terms", "kinds", "[B", true)
  | 1 => ("TripleStoreModel$Terms", "values", "[J", true)
  | 2 => ("TripleStoreModel$Terms", "scales", "[B", true)
  | 3 => ("TripleStoreModel$Terms", "froms", "[I", true)
  | 4 => ("TripleStoreModel$Terms", "sizes", "[I", true)
  | 5 => ("TripleStoreModel$Terms", "borders", "[I", true)
  | 6 => ("TripleStoreModel$Terms", "counted", "[Z", true)
  | 7 => ("TripleStoreModel$Terms", "pool", "[B", true)
  | 8 => ("TripleStoreModel$Terms", "numbered", "I", false)
  | 9 => ("TripleStoreModel$Terms", "used", "I", false)
  | 10 => ("TripleStoreModel$Terms", "brought", "I", false)
  | 11 => ("TripleStoreModel$Terms", "broughtBytes", "I", false)
  | 12 => ("TripleStoreModel$Terms", "made", "I", false)
  | 13 => ("TripleStoreModel$Terms", "madeBytes", "I", false)
  | 14 => ("TripleStoreModel$Terms", "ways", "I", false)
  | 15 => ("TripleStoreModel$Terms", "kind", "I", false)
  | 16 => ("TripleStoreModel$Terms", "value", "J", false)
  | 17 => ("TripleStoreModel$Terms", "scale", "I", false)
  | 18 => ("TripleStoreModel$Terms", "bytes", "[B", true)
  | 19 => ("TripleStoreModel$Terms", "size", "I", false)
  | 20 => ("TripleStoreModel$Terms", "border", "I", false)
  | 21 => ("TripleStoreModel$Terms", "out", "[B", true)
  | _ => ("TripleStoreModel$Terms", "outSize", "I", false)
def tyX18 : Nat → FieldType := fun k => match k with
  | 0 => .array .byte
  | 1 => .array .long
  | 2 => .array .byte
  | 3 => .array .int
  | 4 => .array .int
  | 5 => .array .int
  | 6 => .array .boolean
  | 7 => .array .byte
  | 8 => .int
  | 9 => .int
  | 10 => .int
  | 11 => .int
  | 12 => .int
  | 13 => .int
  | 14 => .int
  | 15 => .int
  | 16 => .long
  | 17 => .int
  | 18 => .array .byte
  | 19 => .int
  | 20 => .int
  | 21 => .array .byte
  | _ => .int
abbrev wsX180 : List Cond := u_ws RX18 TX18 23
theorem nmX18 : ∀ a, a < 23 → ∀ b, b < 23 → a ≠ b → (TX18 a).2.1 ≠ (TX18 b).2.1 := by decide +kernel
theorem tyX18_ok : ∀ k, k < 23 → parseFieldDescriptor (TX18 k).2.2.1 = some (tyX18 k) := by decide +kernel
abbrev cX18_init : ByteArray := prog_21_method_1_code
def yX18_init : MethodName := ⟨RX18, "<init>", "()V"⟩
abbrev cX18_begin : ByteArray := prog_21_method_2_code
def yX18_begin : MethodName := ⟨RX18, "begin", "(I)V"⟩
abbrev cX18_add : ByteArray := prog_21_method_3_code
def yX18_add : MethodName := ⟨RX18, "add", "(I)V"⟩
abbrev cX18_number : ByteArray := prog_21_method_4_code
def yX18_number : MethodName := ⟨RX18, "number", "(IJI)V"⟩
abbrev cX18_isOne : ByteArray := prog_21_method_5_code
def yX18_isOne : MethodName := ⟨RX18, "isOne", "(I)Z"⟩
abbrev cX18_find : ByteArray := prog_21_method_6_code
def yX18_find : MethodName := ⟨RX18, "find", "()I"⟩
abbrev cX18_make : ByteArray := prog_21_method_7_code
def yX18_make : MethodName := ⟨RX18, "make", "()I"⟩
abbrev cX18_give : ByteArray := prog_21_method_8_code
def yX18_give : MethodName := ⟨RX18, "give", "()I"⟩
abbrev cX18_pass : ByteArray := prog_21_method_9_code
def yX18_pass : MethodName := ⟨RX18, "pass", "()I"⟩
abbrev cX18_take : ByteArray := prog_21_method_10_code
def yX18_take : MethodName := ⟨RX18, "take", "(I)V"⟩
abbrev cX18_lay : ByteArray := prog_21_method_11_code
def yX18_lay : MethodName := ⟨RX18, "lay", "(II)V"⟩
abbrev cX18_clear : ByteArray := prog_21_method_12_code
def yX18_clear : MethodName := ⟨RX18, "clear", "()V"⟩
abbrev cX18_keep : ByteArray := prog_21_method_13_code
def yX18_keep : MethodName := ⟨RX18, "keep", "(I)I"⟩
abbrev cX18_forget : ByteArray := prog_21_method_14_code
def yX18_forget : MethodName := ⟨RX18, "forget", "(I)V"⟩
abbrev cX18_isNumber : ByteArray := prog_21_method_15_code
def yX18_isNumber : MethodName := ⟨RX18, "isNumber", "(I)Z"⟩
abbrev cX18_isText : ByteArray := prog_21_method_16_code
def yX18_isText : MethodName := ⟨RX18, "isText", "(I)Z"⟩
abbrev cX18_byteOf : ByteArray := prog_21_method_17_code
def yX18_byteOf : MethodName := ⟨RX18, "byteOf", "(II)I"⟩
abbrev cX18_length : ByteArray := prog_21_method_18_code
def yX18_length : MethodName := ⟨RX18, "length", "(I)I"⟩
abbrev cX18_sign : ByteArray := prog_21_method_19_code
def yX18_sign : MethodName := ⟨RX18, "sign", "(JJ)I"⟩
abbrev cX18_compareBytes : ByteArray := prog_21_method_20_code
def yX18_compareBytes : MethodName := ⟨RX18, "compareBytes", "(IIIIII)I"⟩
abbrev cX18_tens : ByteArray := prog_21_method_21_code
def yX18_tens : MethodName := ⟨RX18, "tens", "(I)J"⟩
abbrev cX18_compareNumbers : ByteArray := prog_21_method_22_code
def yX18_compareNumbers : MethodName := ⟨RX18, "compareNumbers", "(II)I"⟩
abbrev cX18_rank : ByteArray := prog_21_method_23_code
def yX18_rank : MethodName := ⟨RX18, "rank", "(I)I"⟩
abbrev cX18_compare : ByteArray := prog_21_method_24_code
def yX18_compare : MethodName := ⟨RX18, "compare", "(II)I"⟩
abbrev cX18_put : ByteArray := prog_21_method_25_code
def yX18_put : MethodName := ⟨RX18, "put", "(I)V"⟩
abbrev cX18_putRow : ByteArray := prog_21_method_26_code
def yX18_putRow : MethodName := ⟨RX18, "putRow", "(III)V"⟩
abbrev cX18_putWord : ByteArray := prog_21_method_27_code
def yX18_putWord : MethodName := ⟨RX18, "putWord", "(Ljava/lang/String;)V"⟩
abbrev cX18_putNumber : ByteArray := prog_21_method_28_code
def yX18_putNumber : MethodName := ⟨RX18, "putNumber", "(JI)V"⟩
abbrev cX18_putText : ByteArray := prog_21_method_29_code
def yX18_putText : MethodName := ⟨RX18, "putText", "(II)V"⟩
abbrev cX18_putName : ByteArray := prog_21_method_30_code
def yX18_putName : MethodName := ⟨RX18, "putName", "(II)V"⟩
abbrev cX18_write : ByteArray := prog_21_method_31_code
def yX18_write : MethodName := ⟨RX18, "write", "(I)V"⟩
abbrev cX18_putPlain : ByteArray := prog_21_method_32_code
def yX18_putPlain : MethodName := ⟨RX18, "putPlain", "(I)V"⟩
abbrev cX18_string : ByteArray := prog_21_method_33_code
def yX18_string : MethodName := ⟨RX18, "string", "(I)Z"⟩
def RX19 : String := "TripleStoreModel$Tree"
def TX19 : u_T := fun k => match k with
  | 0 => ("TripleStoreModel$Tree", "nameFroms", "[I", true)
  | 1 => ("TripleStoreModel$Tree", "nameTos", "[I", true)
  | 2 => ("TripleStoreModel$Tree", "variables", "I", false)
  | 3 => ("TripleStoreModel$Tree", "operations", "[I", true)
  | 4 => ("TripleStoreModel$Tree", "numbers", "[I", true)
  | 5 => ("TripleStoreModel$Tree", "kids", "[I", true)
  | 6 => ("TripleStoreModel$Tree", "nexts", "[I", true)
  | 7 => ("TripleStoreModel$Tree", "places", "[I", true)
  | 8 => ("TripleStoreModel$Tree", "nodes", "I", false)
  | 9 => ("TripleStoreModel$Tree", "firstParts", "[I", true)
  | 10 => ("TripleStoreModel$Tree", "selectOf", "[I", true)
  | 11 => ("TripleStoreModel$Tree", "unions", "[I", true)
  | 12 => ("TripleStoreModel$Tree", "groups", "I", false)
  | 13 => ("TripleStoreModel$Tree", "partKinds", "[I", true)
  | 14 => ("TripleStoreModel$Tree", "partNexts", "[I", true)
  | 15 => ("TripleStoreModel$Tree", "partOnes", "[I", true)
  | 16 => ("TripleStoreModel$Tree", "partTwos", "[I", true)
  | 17 => ("TripleStoreModel$Tree", "parts", "I", false)
  | 18 => ("TripleStoreModel$Tree", "blockFroms", "[I", true)
  | 19 => ("TripleStoreModel$Tree", "blockTos", "[I", true)
  | 20 => ("TripleStoreModel$Tree", "blocks", "I", false)
  | 21 => ("TripleStoreModel$Tree", "lines", "[I", true)
  | 22 => ("TripleStoreModel$Tree", "linePaths", "[I", true)
  | 23 => ("TripleStoreModel$Tree", "lineCount", "I", false)
  | 24 => ("TripleStoreModel$Tree", "valueVars", "[I", true)
  | 25 => ("TripleStoreModel$Tree", "valueFroms", "[I", true)
  | 26 => ("TripleStoreModel$Tree", "valueWidths", "[I", true)
  | 27 => ("TripleStoreModel$Tree", "givenFroms", "[I", true)
  | 28 => ("TripleStoreModel$Tree", "givenRows", "[I", true)
  | 29 => ("TripleStoreModel$Tree", "given", "[I", true)
  | 30 => ("TripleStoreModel$Tree", "valueSets", "I", false)
  | 31 => ("TripleStoreModel$Tree", "valueVarCount", "I", false)
  | 32 => ("TripleStoreModel$Tree", "givenCount", "I", false)
  | 33 => ("TripleStoreModel$Tree", "distinct", "[Z", true)
  | 34 => ("TripleStoreModel$Tree", "star", "[Z", true)
  | 35 => ("TripleStoreModel$Tree", "grouped", "[Z", true)
  | 36 => ("TripleStoreModel$Tree", "itemFroms", "[I", true)
  | 37 => ("TripleStoreModel$Tree", "itemCounts", "[I", true)
  | 38 => ("TripleStoreModel$Tree", "setFroms", "[I", true)
  | 39 => ("TripleStoreModel$Tree", "setCounts", "[I", true)
  | 40 => ("TripleStoreModel$Tree", "havings", "[I", true)
  | 41 => ("TripleStoreModel$Tree", "keyFroms", "[I", true)
  | 42 => ("TripleStoreModel$Tree", "keyCounts", "[I", true)
  | 43 => ("TripleStoreModel$Tree", "limits", "[I", true)
  | 44 => ("TripleStoreModel$Tree", "offsets", "[I", true)
  | 45 => ("TripleStoreModel$Tree", "bodies", "[I", true)
  | 46 => ("TripleStoreModel$Tree", "columnFroms", "[I", true)
  | 47 => ("TripleStoreModel$Tree", "columnCounts", "[I", true)
  | 48 => ("TripleStoreModel$Tree", "columns", "[I", true)
  | 49 => ("TripleStoreModel$Tree", "columnCount", "I", false)
  | 50 => ("TripleStoreModel$Tree", "selects", "I", false)
  | 51 => ("TripleStoreModel$Tree", "itemVars", "[I", true)
  | 52 => ("TripleStoreModel$Tree", "itemExpressions", "[I", true)
  | 53 => ("TripleStoreModel$Tree", "itemPlaces", "[I", true)
  | 54 => ("TripleStoreModel$Tree", "keys", "[I", true)
  | _ => ("TripleStoreModel$Tree", "turned", "[Z", true)
def tyX19 : Nat → FieldType := fun k => match k with
  | 0 => .array .int
  | 1 => .array .int
  | 2 => .int
  | 3 => .array .int
  | 4 => .array .int
  | 5 => .array .int
  | 6 => .array .int
  | 7 => .array .int
  | 8 => .int
  | 9 => .array .int
  | 10 => .array .int
  | 11 => .array .int
  | 12 => .int
  | 13 => .array .int
  | 14 => .array .int
  | 15 => .array .int
  | 16 => .array .int
  | 17 => .int
  | 18 => .array .int
  | 19 => .array .int
  | 20 => .int
  | 21 => .array .int
  | 22 => .array .int
  | 23 => .int
  | 24 => .array .int
  | 25 => .array .int
  | 26 => .array .int
  | 27 => .array .int
  | 28 => .array .int
  | 29 => .array .int
  | 30 => .int
  | 31 => .int
  | 32 => .int
  | 33 => .array .boolean
  | 34 => .array .boolean
  | 35 => .array .boolean
  | 36 => .array .int
  | 37 => .array .int
  | 38 => .array .int
  | 39 => .array .int
  | 40 => .array .int
  | 41 => .array .int
  | 42 => .array .int
  | 43 => .array .int
  | 44 => .array .int
  | 45 => .array .int
  | 46 => .array .int
  | 47 => .array .int
  | 48 => .array .int
  | 49 => .int
  | 50 => .int
  | 51 => .array .int
  | 52 => .array .int
  | 53 => .array .int
  | 54 => .array .int
  | _ => .array .boolean
abbrev wsX190 : List Cond := u_ws RX19 TX19 56
theorem nmX19 : ∀ a, a < 56 → ∀ b, b < 56 → a ≠ b → (TX19 a).2.1 ≠ (TX19 b).2.1 := by decide +kernel
theorem tyX19_ok : ∀ k, k < 56 → parseFieldDescriptor (TX19 k).2.2.1 = some (tyX19 k) := by decide +kernel
abbrev cX19_init : ByteArray := prog_22_method_1_code
def yX19_init : MethodName := ⟨RX19, "<init>", "()V"⟩
abbrev cX19_clear : ByteArray := prog_22_method_2_code
def yX19_clear : MethodName := ⟨RX19, "clear", "()V"⟩
abbrev cX19_node : ByteArray := prog_22_method_3_code
def yX19_node : MethodName := ⟨RX19, "node", "(IIII)I"⟩
abbrev cX19_group : ByteArray := prog_22_method_4_code
def yX19_group : MethodName := ⟨RX19, "group", "()I"⟩
abbrev cX19_part : ByteArray := prog_22_method_5_code
def yX19_part : MethodName := ⟨RX19, "part", "(III)I"⟩
def RX20 : String := "TripleStoreModel"
def TX20 : u_T := fun k => match k with
  | 0 => ("TripleStoreModel", "terms", "LTripleStoreModel$Terms;", true)
  | 1 => ("TripleStoreModel", "digits", "LTripleStoreModel$Digits;", true)
  | 2 => ("TripleStoreModel", "lexer", "LTripleStoreModel$Lexer;", true)
  | 3 => ("TripleStoreModel", "tree", "LTripleStoreModel$Tree;", true)
  | 4 => ("TripleStoreModel", "store", "LTripleStoreModel$Store;", true)
  | 5 => ("TripleStoreModel", "paths", "LTripleStoreModel$Paths;", true)
  | 6 => ("TripleStoreModel", "reader", "LTripleStoreModel$Reader;", true)
  | 7 => ("TripleStoreModel", "doer", "LTripleStoreModel$Doer;", true)
  | 8 => ("TripleStoreModel", "place", "I", false)
  | 9 => ("TripleStoreModel", "cells", "[I", true)
  | 10 => ("TripleStoreModel", "rows", "I", false)
  | 11 => ("TripleStoreModel", "columns", "I", false)
  | 12 => ("TripleStoreModel", "names", "[B", true)
  | 13 => ("TripleStoreModel", "nameFroms", "[I", true)
  | 14 => ("TripleStoreModel", "shownMade", "I", false)
  | 15 => ("TripleStoreModel", "plan", "[I", true)
  | 16 => ("TripleStoreModel", "planned", "I", false)
  | 17 => ("TripleStoreModel", "given", "[I", true)
  | 18 => ("TripleStoreModel", "givenHeads", "[I", true)
  | 19 => ("TripleStoreModel", "givenNexts", "[I", true)
  | 20 => ("TripleStoreModel", "givenCount", "I", false)
  | 21 => ("TripleStoreModel", "sorted", "[I", true)
  | 22 => ("TripleStoreModel", "before", "[I", true)
  | 23 => ("TripleStoreModel", "beforeCount", "I", false)
  | 24 => ("TripleStoreModel", "beforeTerms", "I", false)
  | 25 => ("TripleStoreModel", "fresh", "[I", true)
  | 26 => ("TripleStoreModel", "freshCount", "I", false)
  | 27 => ("TripleStoreModel", "goes", "[I", true)
  | 28 => ("TripleStoreModel", "shown", "[B", true)
  | _ => ("TripleStoreModel", "shownSize", "I", false)
def tyX20 : Nat → FieldType := fun k => match k with
  | 0 => .object "TripleStoreModel$Terms"
  | 1 => .object "TripleStoreModel$Digits"
  | 2 => .object "TripleStoreModel$Lexer"
  | 3 => .object "TripleStoreModel$Tree"
  | 4 => .object "TripleStoreModel$Store"
  | 5 => .object "TripleStoreModel$Paths"
  | 6 => .object "TripleStoreModel$Reader"
  | 7 => .object "TripleStoreModel$Doer"
  | 8 => .int
  | 9 => .array .int
  | 10 => .int
  | 11 => .int
  | 12 => .array .byte
  | 13 => .array .int
  | 14 => .int
  | 15 => .array .int
  | 16 => .int
  | 17 => .array .int
  | 18 => .array .int
  | 19 => .array .int
  | 20 => .int
  | 21 => .array .int
  | 22 => .array .int
  | 23 => .int
  | 24 => .int
  | 25 => .array .int
  | 26 => .int
  | 27 => .array .int
  | 28 => .array .byte
  | _ => .int
abbrev wsX200 : List Cond := u_ws RX20 TX20 30
theorem nmX20 : ∀ a, a < 30 → ∀ b, b < 30 → a ≠ b → (TX20 a).2.1 ≠ (TX20 b).2.1 := by decide +kernel
theorem tyX20_ok : ∀ k, k < 30 → parseFieldDescriptor (TX20 k).2.2.1 = some (tyX20 k) := by decide +kernel
abbrev cX20_init : ByteArray := prog_14_method_1_code
def yX20_init : MethodName := ⟨RX20, "<init>", "()V"⟩
abbrev cX20_type : ByteArray := prog_14_method_2_code
def yX20_type : MethodName := ⟨RX20, "type", "(JI)I"⟩
abbrev cX20_wipe : ByteArray := prog_14_method_3_code
def yX20_wipe : MethodName := ⟨RX20, "wipe", "()I"⟩
abbrev cX20_place : ByteArray := prog_14_method_4_code
def yX20_place : MethodName := ⟨RX20, "place", "()I"⟩
abbrev cX20_run : ByteArray := prog_14_method_5_code
def yX20_run : MethodName := ⟨RX20, "run", "()I"⟩
abbrev cX20_plans : ByteArray := prog_14_method_6_code
def yX20_plans : MethodName := ⟨RX20, "plans", "()V"⟩
abbrev cX20_numberOf : ByteArray := prog_14_method_7_code
def yX20_numberOf : MethodName := ⟨RX20, "numberOf", "(I)I"⟩
abbrev cX20_act : ByteArray := prog_14_method_8_code
def yX20_act : MethodName := ⟨RX20, "act", "()I"⟩
abbrev cX20_done : ByteArray := prog_14_method_9_code
def yX20_done : MethodName := ⟨RX20, "done", "()I"⟩
abbrev cX20_tell : ByteArray := prog_14_method_10_code
def yX20_tell : MethodName := ⟨RX20, "tell", "(II)I"⟩
abbrev cX20_value : ByteArray := prog_14_method_11_code
def yX20_value : MethodName := ⟨RX20, "value", "(II)I"⟩
abbrev cX20_slot : ByteArray := prog_14_method_12_code
def yX20_slot : MethodName := ⟨RX20, "slot", "(III)I"⟩
abbrev cX20_isGiven : ByteArray := prog_14_method_13_code
def yX20_isGiven : MethodName := ⟨RX20, "isGiven", "(III)Z"⟩
abbrev cX20_addGiven : ByteArray := prog_14_method_14_code
def yX20_addGiven : MethodName := ⟨RX20, "addGiven", "(III)V"⟩
abbrev cX20_item : ByteArray := prog_14_method_15_code
def yX20_item : MethodName := ⟨RX20, "item", "(III)I"⟩
abbrev cX20_isWhole : ByteArray := prog_14_method_16_code
def yX20_isWhole : MethodName := ⟨RX20, "isWhole", "(II)Z"⟩
abbrev cX20_give : ByteArray := prog_14_method_17_code
def yX20_give : MethodName := ⟨RX20, "give", "(III)V"⟩
abbrev cX20_compareGiven : ByteArray := prog_14_method_18_code
def yX20_compareGiven : MethodName := ⟨RX20, "compareGiven", "(II)I"⟩
abbrev cX20_construct : ByteArray := prog_14_method_19_code
def yX20_construct : MethodName := ⟨RX20, "construct", "(I)I"⟩
abbrev cX20_keepBefore : ByteArray := prog_14_method_20_code
def yX20_keepBefore : MethodName := ⟨RX20, "keepBefore", "()V"⟩
abbrev cX20_takeBack : ByteArray := prog_14_method_21_code
def yX20_takeBack : MethodName := ⟨RX20, "takeBack", "()I"⟩
abbrev cX20_addFresh : ByteArray := prog_14_method_22_code
def yX20_addFresh : MethodName := ⟨RX20, "addFresh", "(I)V"⟩
abbrev cX20_numberAll : ByteArray := prog_14_method_23_code
def yX20_numberAll : MethodName := ⟨RX20, "numberAll", "()Z"⟩
abbrev cX20_numberedOf : ByteArray := prog_14_method_24_code
def yX20_numberedOf : MethodName := ⟨RX20, "numberedOf", "(I)I"⟩
abbrev cX20_change : ByteArray := prog_14_method_25_code
def yX20_change : MethodName := ⟨RX20, "change", "(I)I"⟩
abbrev cX20_rule : ByteArray := prog_14_method_26_code
def yX20_rule : MethodName := ⟨RX20, "rule", "()I"⟩
abbrev cX20_show : ByteArray := prog_14_method_27_code
def yX20_show : MethodName := ⟨RX20, "show", "()I"⟩
abbrev cX20_rows : ByteArray := prog_14_method_28_code
def yX20_rows : MethodName := ⟨RX20, "rows", "()I"⟩
abbrev cX20_columns : ByteArray := prog_14_method_29_code
def yX20_columns : MethodName := ⟨RX20, "columns", "()I"⟩
abbrev cX20_cell : ByteArray := prog_14_method_30_code
def yX20_cell : MethodName := ⟨RX20, "cell", "(II)I"⟩
abbrev cX20_column : ByteArray := prog_14_method_31_code
def yX20_column : MethodName := ⟨RX20, "column", "(I)I"⟩
abbrev cX20_written : ByteArray := prog_14_method_32_code
def yX20_written : MethodName := ⟨RX20, "written", "(I)I"⟩
abbrev cX20_made : ByteArray := prog_14_method_33_code
def yX20_made : MethodName := ⟨RX20, "made", "()I"⟩
abbrev cX20_plan : ByteArray := prog_14_method_34_code
def yX20_plan : MethodName := ⟨RX20, "plan", "(I)I"⟩
abbrev cX20_triples : ByteArray := prog_14_method_35_code
def yX20_triples : MethodName := ⟨RX20, "triples", "()I"⟩
abbrev cX20_said : ByteArray := prog_14_method_36_code
def yX20_said : MethodName := ⟨RX20, "said", "()I"⟩
abbrev cX20_terms : ByteArray := prog_14_method_37_code
def yX20_terms : MethodName := ⟨RX20, "terms", "()I"⟩
abbrev cX20_rules : ByteArray := prog_14_method_38_code
def yX20_rules : MethodName := ⟨RX20, "rules", "()I"⟩
abbrev cX20_term : ByteArray := prog_14_method_39_code
def yX20_term : MethodName := ⟨RX20, "term", "(I)I"⟩
abbrev cX20_find : ByteArray := prog_14_method_40_code
def yX20_find : MethodName := ⟨RX20, "find", "(III)I"⟩
abbrev cX20_count : ByteArray := prog_14_method_41_code
def yX20_count : MethodName := ⟨RX20, "count", "(IIIII)I"⟩
def RJx145de : String := "java/io/Serializable"
def TJx145de : u_T := fun k => match k with
  | _ => ("", "", "", false)
def tyJx145de : Nat → FieldType := fun k => match k with
  | _ => .int
abbrev wsJx145de0 : List Cond := u_ws RJx145de TJx145de 0
theorem nmJx145de : ∀ a, a < 0 → ∀ b, b < 0 → a ≠ b → (TJx145de a).2.1 ≠ (TJx145de b).2.1 := by decide +kernel
theorem tyJx145de_ok : ∀ k, k < 0 → parseFieldDescriptor (TJx145de k).2.2.1 = some (tyJx145de k) := by decide +kernel
def RJx9f9b0 : String := "java/lang/CharSequence"
def TJx9f9b0 : u_T := fun k => match k with
  | _ => ("", "", "", false)
def tyJx9f9b0 : Nat → FieldType := fun k => match k with
  | _ => .int
abbrev wsJx9f9b00 : List Cond := u_ws RJx9f9b0 TJx9f9b0 0
theorem nmJx9f9b0 : ∀ a, a < 0 → ∀ b, b < 0 → a ≠ b → (TJx9f9b0 a).2.1 ≠ (TJx9f9b0 b).2.1 := by decide +kernel
theorem tyJx9f9b0_ok : ∀ k, k < 0 → parseFieldDescriptor (TJx9f9b0 k).2.2.1 = some (tyJx9f9b0 k) := by decide +kernel
def RJx8e188 : String := "java/lang/Cloneable"
def TJx8e188 : u_T := fun k => match k with
  | _ => ("", "", "", false)
def tyJx8e188 : Nat → FieldType := fun k => match k with
  | _ => .int
abbrev wsJx8e1880 : List Cond := u_ws RJx8e188 TJx8e188 0
theorem nmJx8e188 : ∀ a, a < 0 → ∀ b, b < 0 → a ≠ b → (TJx8e188 a).2.1 ≠ (TJx8e188 b).2.1 := by decide +kernel
theorem tyJx8e188_ok : ∀ k, k < 0 → parseFieldDescriptor (TJx8e188 k).2.2.1 = some (tyJx8e188 k) := by decide +kernel
def RJxb160c : String := "java/lang/Comparable"
def TJxb160c : u_T := fun k => match k with
  | _ => ("", "", "", false)
def tyJxb160c : Nat → FieldType := fun k => match k with
  | _ => .int
abbrev wsJxb160c0 : List Cond := u_ws RJxb160c TJxb160c 0
theorem nmJxb160c : ∀ a, a < 0 → ∀ b, b < 0 → a ≠ b → (TJxb160c a).2.1 ≠ (TJxb160c b).2.1 := by decide +kernel
theorem tyJxb160c_ok : ∀ k, k < 0 → parseFieldDescriptor (TJxb160c k).2.2.1 = some (tyJxb160c k) := by decide +kernel
def RJxb5711 : String := "java/lang/IllegalStateException"
def TJxb5711 : u_T := fun k => match k with
  | _ => ("", "", "", false)
def tyJxb5711 : Nat → FieldType := fun k => match k with
  | _ => .int
abbrev wsJxb57110 : List Cond := u_ws RJxb5711 TJxb5711 0
theorem nmJxb5711 : ∀ a, a < 0 → ∀ b, b < 0 → a ≠ b → (TJxb5711 a).2.1 ≠ (TJxb5711 b).2.1 := by decide +kernel
theorem tyJxb5711_ok : ∀ k, k < 0 → parseFieldDescriptor (TJxb5711 k).2.2.1 = some (tyJxb5711 k) := by decide +kernel
abbrev cJxb5711_init_a7421 : ByteArray := prog_25_method_2_code
def yJxb5711_init_a7421 : MethodName := ⟨RJxb5711, "<init>", "(Ljava/lang/String;)V"⟩
def RJ6 : String := "java/lang/Integer"
def TJ6 : u_T := fun k => match k with
  | _ => ("", "", "", false)
def tyJ6 : Nat → FieldType := fun k => match k with
  | _ => .int
abbrev wsJ60 : List Cond := u_ws RJ6 TJ6 0
theorem nmJ6 : ∀ a, a < 0 → ∀ b, b < 0 → a ≠ b → (TJ6 a).2.1 ≠ (TJ6 b).2.1 := by decide +kernel
theorem tyJ6_ok : ∀ k, k < 0 → parseFieldDescriptor (TJ6 k).2.2.1 = some (tyJ6 k) := by decide +kernel
abbrev cJ6_compare_7cf53 : ByteArray := prog_26_method_40_code
def yJ6_compare_7cf53 : MethodName := ⟨RJ6, "compare", "(II)I"⟩
abbrev cJ6_bitCount_0f7a4 : ByteArray := prog_26_method_49_code
def yJ6_bitCount_0f7a4 : MethodName := ⟨RJ6, "bitCount", "(I)I"⟩
def RJ13 : String := "java/lang/Long"
def TJ13 : u_T := fun k => match k with
  | _ => ("", "", "", false)
def tyJ13 : Nat → FieldType := fun k => match k with
  | _ => .int
abbrev wsJ130 : List Cond := u_ws RJ13 TJ13 0
theorem nmJ13 : ∀ a, a < 0 → ∀ b, b < 0 → a ≠ b → (TJ13 a).2.1 ≠ (TJ13 b).2.1 := by decide +kernel
theorem tyJ13_ok : ∀ k, k < 0 → parseFieldDescriptor (TJ13 k).2.2.1 = some (tyJ13 k) := by decide +kernel
abbrev cJ13_compare_74951 : ByteArray := prog_27_method_42_code
def yJ13_compare_74951 : MethodName := ⟨RJ13, "compare", "(JJ)I"⟩
def RJ9 : String := "java/lang/Math"
def TJ9 : u_T := fun k => match k with
  | _ => ("", "", "", false)
def tyJ9 : Nat → FieldType := fun k => match k with
  | _ => .int
abbrev wsJ90 : List Cond := u_ws RJ9 TJ9 0
theorem nmJ9 : ∀ a, a < 0 → ∀ b, b < 0 → a ≠ b → (TJ9 a).2.1 ≠ (TJ9 b).2.1 := by decide +kernel
theorem tyJ9_ok : ∀ k, k < 0 → parseFieldDescriptor (TJ9 k).2.2.1 = some (tyJ9 k) := by decide +kernel
abbrev cJ9_floorDiv_f86c9 : ByteArray := prog_28_method_49_code
def yJ9_floorDiv_f86c9 : MethodName := ⟨RJ9, "floorDiv", "(JJ)J"⟩
abbrev cJ9_floorMod_f86c9 : ByteArray := prog_28_method_52_code
def yJ9_floorMod_f86c9 : MethodName := ⟨RJ9, "floorMod", "(JJ)J"⟩
abbrev cJ9_abs_067f4 : ByteArray := prog_28_method_61_code
def yJ9_abs_067f4 : MethodName := ⟨RJ9, "abs", "(J)J"⟩
abbrev cJ9_max_7cf53 : ByteArray := prog_28_method_65_code
def yJ9_max_7cf53 : MethodName := ⟨RJ9, "max", "(II)I"⟩
abbrev cJ9_min_7cf53 : ByteArray := prog_28_method_69_code
def yJ9_min_7cf53 : MethodName := ⟨RJ9, "min", "(II)I"⟩
abbrev cJ9_min_f86c9 : ByteArray := prog_28_method_70_code
def yJ9_min_f86c9 : MethodName := ⟨RJ9, "min", "(JJ)J"⟩
def RJ0 : String := "java/lang/String"
def TJ0 : u_T := fun k => match k with
  | _ => ("", "", "", false)
def tyJ0 : Nat → FieldType := fun k => match k with
  | _ => .int
abbrev wsJ00 : List Cond := u_ws RJ0 TJ0 0
theorem nmJ0 : ∀ a, a < 0 → ∀ b, b < 0 → a ≠ b → (TJ0 a).2.1 ≠ (TJ0 b).2.1 := by decide +kernel
theorem tyJ0_ok : ∀ k, k < 0 → parseFieldDescriptor (TJ0 k).2.2.1 = some (tyJ0 k) := by decide +kernel
abbrev cJ0_length_8abf5 : ByteArray := prog_30_method_54_code
def yJ0_length_8abf5 : MethodName := ⟨RJ0, "length", "()I"⟩
abbrev cJ0_charAt_5068e : ByteArray := prog_30_method_56_code
def yJ0_charAt_5068e : MethodName := ⟨RJ0, "charAt", "(I)C"⟩
abbrev cJ0_coder_7d493 : ByteArray := prog_30_method_152_code
def yJ0_coder_7d493 : MethodName := ⟨RJ0, "coder", "()B"⟩
abbrev cJ0_isLatin1_aae02 : ByteArray := prog_30_method_154_code
def yJ0_isLatin1_aae02 : MethodName := ⟨RJ0, "isLatin1", "()Z"⟩
abbrev cJ0_checkIndex_df160 : ByteArray := prog_30_method_155_code
def yJ0_checkIndex_df160 : MethodName := ⟨RJ0, "checkIndex", "(II)V"⟩
def RJ1 : String := "java/lang/StringLatin1"
def TJ1 : u_T := fun k => match k with
  | _ => ("", "", "", false)
def tyJ1 : Nat → FieldType := fun k => match k with
  | _ => .int
abbrev wsJ10 : List Cond := u_ws RJ1 TJ1 0
theorem nmJ1 : ∀ a, a < 0 → ∀ b, b < 0 → a ≠ b → (TJ1 a).2.1 ≠ (TJ1 b).2.1 := by decide +kernel
theorem tyJ1_ok : ∀ k, k < 0 → parseFieldDescriptor (TJ1 k).2.2.1 = some (tyJ1 k) := by decide +kernel
abbrev cJ1_charAt_3b067 : ByteArray := prog_31_method_2_code
def yJ1_charAt_3b067 : MethodName := ⟨RJ1, "charAt", "([BI)C"⟩
def RJ2 : String := "java/lang/StringUTF16"
def TJ2 : u_T := fun k => match k with
  | _ => ("", "", "", false)
def tyJ2 : Nat → FieldType := fun k => match k with
  | _ => .int
abbrev wsJ20 : List Cond := u_ws RJ2 TJ2 0
theorem nmJ2 : ∀ a, a < 0 → ∀ b, b < 0 → a ≠ b → (TJ2 a).2.1 ≠ (TJ2 b).2.1 := by decide +kernel
theorem tyJ2_ok : ∀ k, k < 0 → parseFieldDescriptor (TJ2 k).2.2.1 = some (tyJ2 k) := by decide +kernel
abbrev cJ2_getChar_3b067 : ByteArray := prog_32_method_5_code
def yJ2_getChar_3b067 : MethodName := ⟨RJ2, "getChar", "([BI)C"⟩
abbrev cJ2_length_9d52b : ByteArray := prog_32_method_6_code
def yJ2_length_9d52b : MethodName := ⟨RJ2, "length", "([B)I"⟩
abbrev cJ2_charAt_3b067 : ByteArray := prog_32_method_83_code
def yJ2_charAt_3b067 : MethodName := ⟨RJ2, "charAt", "([BI)C"⟩
abbrev cJ2_checkIndex_2214a : ByteArray := prog_32_method_91_code
def yJ2_checkIndex_2214a : MethodName := ⟨RJ2, "checkIndex", "(I[B)V"⟩
def RJ10 : String := "java/lang/System"
def TJ10 : u_T := fun k => match k with
  | _ => ("", "", "", false)
def tyJ10 : Nat → FieldType := fun k => match k with
  | _ => .int
abbrev wsJ100 : List Cond := u_ws RJ10 TJ10 0
theorem nmJ10 : ∀ a, a < 0 → ∀ b, b < 0 → a ≠ b → (TJ10 a).2.1 ≠ (TJ10 b).2.1 := by decide +kernel
theorem tyJ10_ok : ∀ k, k < 0 → parseFieldDescriptor (TJ10 k).2.2.1 = some (tyJ10 k) := by decide +kernel
def RJxfd54e : String := "java/lang/constant/Constable"
def TJxfd54e : u_T := fun k => match k with
  | _ => ("", "", "", false)
def tyJxfd54e : Nat → FieldType := fun k => match k with
  | _ => .int
abbrev wsJxfd54e0 : List Cond := u_ws RJxfd54e TJxfd54e 0
theorem nmJxfd54e : ∀ a, a < 0 → ∀ b, b < 0 → a ≠ b → (TJxfd54e a).2.1 ≠ (TJxfd54e b).2.1 := by decide +kernel
theorem tyJxfd54e_ok : ∀ k, k < 0 → parseFieldDescriptor (TJxfd54e k).2.2.1 = some (tyJxfd54e k) := by decide +kernel
def RJx3cf43 : String := "java/lang/constant/ConstantDesc"
def TJx3cf43 : u_T := fun k => match k with
  | _ => ("", "", "", false)
def tyJx3cf43 : Nat → FieldType := fun k => match k with
  | _ => .int
abbrev wsJx3cf430 : List Cond := u_ws RJx3cf43 TJx3cf43 0
theorem nmJx3cf43 : ∀ a, a < 0 → ∀ b, b < 0 → a ≠ b → (TJx3cf43 a).2.1 ≠ (TJx3cf43 b).2.1 := by decide +kernel
theorem tyJx3cf43_ok : ∀ k, k < 0 → parseFieldDescriptor (TJx3cf43 k).2.2.1 = some (tyJx3cf43 k) := by decide +kernel
def RJ7 : String := "java/util/Arrays"
def TJ7 : u_T := fun k => match k with
  | _ => ("", "", "", false)
def tyJ7 : Nat → FieldType := fun k => match k with
  | _ => .int
abbrev wsJ70 : List Cond := u_ws RJ7 TJ7 0
theorem nmJ7 : ∀ a, a < 0 → ∀ b, b < 0 → a ≠ b → (TJ7 a).2.1 ≠ (TJ7 b).2.1 := by decide +kernel
theorem tyJ7_ok : ∀ k, k < 0 → parseFieldDescriptor (TJ7 k).2.2.1 = some (tyJ7 k) := by decide +kernel
abbrev cJ7_rangeCheck_23922 : ByteArray := prog_35_method_30_code
def yJ7_rangeCheck_23922 : MethodName := ⟨RJ7, "rangeCheck", "(III)V"⟩
abbrev cJ7_fill_53178 : ByteArray := prog_35_method_103_code
def yJ7_fill_53178 : MethodName := ⟨RJ7, "fill", "([II)V"⟩
abbrev cJ7_fill_fda19 : ByteArray := prog_35_method_104_code
def yJ7_fill_fda19 : MethodName := ⟨RJ7, "fill", "([IIII)V"⟩
abbrev cJ7_copyOf_9075b : ByteArray := prog_35_method_121_code
def yJ7_copyOf_9075b : MethodName := ⟨RJ7, "copyOf", "([BI)[B"⟩
abbrev cJ7_copyOf_59c91 : ByteArray := prog_35_method_123_code
def yJ7_copyOf_59c91 : MethodName := ⟨RJ7, "copyOf", "([II)[I"⟩
def RJ3 : String := "jdk/internal/util/Preconditions"
def TJ3 : u_T := fun k => match k with
  | _ => ("", "", "", false)
def tyJ3 : Nat → FieldType := fun k => match k with
  | _ => .int
abbrev wsJ30 : List Cond := u_ws RJ3 TJ3 0
theorem nmJ3 : ∀ a, a < 0 → ∀ b, b < 0 → a ≠ b → (TJ3 a).2.1 ≠ (TJ3 b).2.1 := by decide +kernel
theorem tyJ3_ok : ∀ k, k < 0 → parseFieldDescriptor (TJ3 k).2.2.1 = some (tyJ3 k) := by decide +kernel
abbrev cJ3_checkIndex_8e157 : ByteArray := prog_36_method_11_code
def yJ3_checkIndex_8e157 : MethodName := ⟨RJ3, "checkIndex", "(IILjava/util/function/BiFunction;)I"⟩
def RL : String := "TripleStoreLaw"
abbrev cL_law : ByteArray := code
def yL_law : MethodName := ⟨RL, "law", "([I)Z"⟩
