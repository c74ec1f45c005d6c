/-! PART 18: what else stands in the world: constant Strings, arrays of statics, static numbers; the steps that read them -/
noncomputable section
def e_XB (ad : Nat → Nat) (own : Nat → String) (b0 : Nat) (xa : Nat → Option (FieldType × Nat × (Nat → Value))) (xs : Nat → Option (String × String × String)) (xo : Nat → Option Nat) (xi : Nat → Option (String × String × String × Int32)) (sr : Nat → Nat → Option Nat) (U : State) (H : Heap) : Prop :=
  (∀ q x, xa q = some x → va_T x.1 (ad q) x.2.1 x.2.2 (e_A b0) U H) ∧
  (∀ q x, xs q = some x → va_Z x.1 x.2.1 x.2.2 (.ref (ad q)) (e_A b0) U H) ∧
  (∀ q v, xo q = some v → va_O "java/lang/String" (ad q) (e_A b0) U H ∧ va_OF "java/lang/String" "coder" "B" (.int 0) (ad q) (e_A b0) U H ∧ va_OF "java/lang/String" "value" "[B" (.ref (ad v)) (ad q) (e_A b0) U H) ∧
  (∀ k x, xi k = some x → va_Z x.1 x.2.1 x.2.2.1 (.int x.2.2.2) (e_A b0) U H) ∧
  (∀ o idx q, sr o idx = some q → ∃ tx, vk_R (own o) idx tx (ad q) U)
section E_XX
variable {ad : Nat → Nat} {own : Nat → String} {b0 : Nat} {xa : Nat → Option (FieldType × Nat × (Nat → Value))} {xs : Nat → Option (String × String × String)} {xo : Nat → Option Nat} {xi : Nat → Option (String × String × String × Int32)} {sr : Nat → Nat → Option Nat}
theorem e_XB_ok : e_XC b0 (e_XB ad own b0 xa xs xo xi sr) := by
  have mv : ∀ (u U : State) (H : Heap), u.vm.Alike U.vm → (∀ o idx q, sr o idx = some q → ∃ tx, vk_R (own o) idx tx (ad q) U) → e_XB ad own b0 xa xs xo xi sr u H → e_XB ad own b0 xa xs xo xi sr U H := by
    intro u U H hv h5 h9
    obtain ⟨h1, h2, h3, h4, -⟩ := h9
    exact ⟨fun q x h => va_T.moved hv (h1 q x h), fun q x h => va_Z.moved hv (h2 q x h), fun q v h => ⟨va_O.moved hv (h3 q v h).1, va_OF.moved hv (h3 q v h).2.1, va_OF.moved hv (h3 q v h).2.2⟩, fun k x h => va_Z.moved hv (h4 k x h), h5⟩
  refine ⟨fun u U H hv h => mv u U H (by rw [hv]; exact Vm.Alike.refl _) (fun o idx q hq => ?_) h, fun u U H hW h => mv u U H hW.alike (fun o idx q hq => ?_) h, fun U H H1 h hk => ?_⟩
  · obtain ⟨tx, h1⟩ := h.2.2.2.2 o idx q hq
    exact ⟨tx, vk_R.same hv h1⟩
  · obtain ⟨tx, h1⟩ := h.2.2.2.2 o idx q hq
    exact ⟨tx, vk_R.warm hW h1⟩
  · obtain ⟨h1, h2, h3, h4, h5⟩ := h
    exact ⟨fun q x h => (h1 q x h).kept hk, fun q x h => (h2 q x h).kept hk, fun q v h => ⟨(h3 q v h).1.kept hk, (h3 q v h).2.1.kept hk, (h3 q v h).2.2.kept hk⟩, fun k x h => (h4 k x h).kept hk, h5⟩
/-- one after the other -/
def e_or (a b : e_EX) : e_EX := fun M ins len pc lv stk st => match a M ins len pc lv stk st with
  | some x => some x
  | none => b M ins len pc lv stk st
theorem e_or_g {a b : e_EX} (ha : e_xgrow a) (hb : e_xgrow b) : e_xgrow (e_or a b) := by
  intro M ins len pc lv stk st f st' h
  unfold e_or at h
  split at h
  · rename_i x hx
    cases h
    exact ha _ _ _ _ _ _ _ _ _ hx
  · exact hb _ _ _ _ _ _ _ _ _ h
end E_XX
section E_XO
variable {l : Launch} {ad : Nat → Nat} {D : va_G} {cl : List vw_C} {tys : List (ClassId × FieldType)} {fty : Nat → Nat → FieldType} {W0 Z0 : List Cond} {XB : State → Heap → Prop} {own : Nat → String} {b0 d : Nat}
theorem e_or_ok {a b : e_EX} (ha : e_EXS l ad D cl tys fty W0 Z0 XB own b0 d a) (hb : e_EXS l ad D cl tys fty W0 Z0 XB own b0 d b) : e_EXS l ad D cl tys fty W0 Z0 XB own b0 d (e_or a b) := by
  intro p e R s m args below meth c Q H locs ls cells slots M ins len pc lv stk st f st' h
  unfold e_or at h
  split at h
  · rename_i x hx
    cases h
    exact ha p e R s m args below meth c Q H locs ls cells slots M ins len pc lv stk st f st' hx
  · exact hb p e R s m args below meth c Q H locs ls cells slots M ins len pc lv stk st f st' h
/-- steps that leave the heap as it is -/
def e_EX0 : Type := e_M → Instr → Nat → Nat → e_LV → List Value → e_ST → Option (Nat × List Value)
def e_x0 (a : e_EX0) : e_EX := fun M ins len pc lv stk st => (a M ins len pc lv stk st).map fun x => ((x.1, lv, x.2), st)
theorem e_x0_g (a : e_EX0) : e_xgrow (e_x0 a) := by
  intro M ins len pc lv stk st f st' h
  obtain ⟨x, -, h2⟩ := Option.map_eq_some_iff.mp h
  cases h2
  exact e_le.rf
def e_EX0S (l : Launch) (ad : Nat → Nat) (D : va_G) (cl : List vw_C) (tys : List (ClassId × FieldType)) (fty : Nat → Nat → FieldType) (W0 Z0 : List Cond) (XB : State → Heap → Prop) (own : Nat → String) (b0 d : Nat) (a : e_EX0) : Prop :=
  ∀ (p : Program) (e : Env) (R : Room) (s : State) (m : MethodId) (args : Array Value) (below : List Frame) (meth : Method) (c : Code) (Q : State → Prop) (H : Heap) (locs : List Loc) (ls : Array Slot) (cells slots : Nat) (M : e_M) (ins : Instr) (len pc : Nat) (lv : e_LV) (stk : List Value) (st : e_ST) (pc' : Nat) (stk' : List Value),
    a M ins len pc lv stk st = some (pc', stk') → e_OKM W0 Z0 own M → p.tables.exec = Jvm.exec → c.code = e_mc M → c.maxLocals = ls.size → (∀ w ∈ W0, goodWord w = true) → (∀ w ∈ W0, w.before args s = true) → (∀ z ∈ Z0, e_z z = true) → (∀ z ∈ Z0, va_Nw z s) → XB s s.heap → s.vm.findClass (own (e_mo M)) = some m.cls → va_K D cl tys s → e_AD ad b0 → b0 ≤ s.heap.size → e_RR ad b0 D cl tys fty st H → va_S (e_A b0) s.heap H locs → decode (e_mc M) pc = .ok (ins, len) → R.frames = d + 1 → R.locals = 40 * (d + 1) → cells ≤ R.cells → slots ≤ R.slots →
    W p l e R s m args below meth c H locs cells slots Q (F0 m pc' ls (e_mv ad stk')) → W p l e R s m args below meth c H locs cells slots Q (F0 m pc ls (e_mv ad stk))
theorem e_x0_ok {a : e_EX0} (ha : e_EX0S l ad D cl tys fty W0 Z0 XB own b0 d a) : e_EXS l ad D cl tys fty W0 Z0 XB own b0 d (e_x0 a) := by
  intro p e R s m args below meth c Q H locs ls cells slots M ins len pc lv stk st f st' h hM hx hb hml hg hW0 hz hZ0 hXB hown hK had hb0 hR hS hl hdec hRf hRl hc hs kk
  obtain ⟨x, h1, h2⟩ := Option.map_eq_some_iff.mp h
  obtain ⟨pc', stk'⟩ := x
  cases h2
  have z0 : ∀ n : Nat, n + (e_T st - e_T st) = n := fun n => by omega
  have z1 : ∀ n : Nat, n + (e_Z st - e_Z st) = n := fun n => by omega
  rw [z0] at hc
  rw [z1] at hs
  have k1 := kk H locs ls hR hS hl
  rw [z0, z1] at k1
  exact ha p e R s m args below meth c Q H locs ls cells slots M ins len pc lv stk st pc' stk' h1 hM hx hb (hml.trans hl.1.symm) hg hW0 hz hZ0 hXB hown hK had hb0 hR hS hdec hRf hRl hc hs k1
end E_XO
end
