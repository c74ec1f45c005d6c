/-! PART 7: calls: what a method's contract over the abstract heap is, and how a caller goes on behind it -/
/-- a method: its name, bytes, locals, answer, handlers, its class's number, how many parameters -/
abbrev e_M : Type := MethodName × ByteArray × Nat × Option FieldType × List (Nat × Nat × Nat × Nat) × Nat × Nat
def e_my (M : e_M) : MethodName := M.1
def e_mc (M : e_M) : ByteArray := M.2.1
def e_mL (M : e_M) : Nat := M.2.2.1
def e_mr (M : e_M) : Option FieldType := M.2.2.2.1
def e_mh (M : e_M) : List (Nat × Nat × Nat × Nat) := M.2.2.2.2.1
def e_mo (M : e_M) : Nat := M.2.2.2.2.2.1
def e_mn (M : e_M) : Nat := M.2.2.2.2.2.2
/-- an answer (of void: none), or none: the exception has left; and the heap behind it -/
abbrev e_RS : Type := Option (Option Value) × e_ST
def e_eX : String := "java/lang/IllegalStateException"
def e_cw (M : e_M) : Cond := if e_mh M = [] then .code (e_my M) (e_mc M) (e_mL M) (e_mr M) else .codeWith (e_my M) (e_mc M) (e_mL M) (e_mr M) (e_mh M)
def e_ws (W0 : List Cond) (M : e_M) : List Cond := e_cw M :: W0
def e_rm (d c z : Nat) : Room := { frames := d, cells := c, slots := z, locals := 40 * d }
def e_A (b0 : Nat) : Nat → Prop := fun q => b0 ≤ q
def e_QR (ad : Nat → Nat) (D : va_G) (cl : List vw_C) (tys : List (ClassId × FieldType)) (fty : Nat → Nat → FieldType) (b0 : Nat) (r : e_RS) : Array Value → State → Outcome → State → Prop := fun _ s0 oc t => (∃ v, r.1 = some v ∧ oc = .returned (v.map (e_vm ad))) ∧ e_RR ad b0 D cl tys fty r.2 t.heap ∧ va_F (e_A b0) s0 t
def e_XR (ad : Nat → Nat) (D : va_G) (cl : List vw_C) (tys : List (ClassId × FieldType)) (fty : Nat → Nat → FieldType) (b0 : Nat) (r : e_RS) : String → State → State → Prop := fun E s0 t => r.1 = none ∧ E = e_eX ∧ e_RR ad b0 D cl tys fty r.2 t.heap ∧ va_F (e_A b0) s0 t
def e_z : Cond → Bool
  | .fieldLinkNest _ _ _ _ _ _ => true
  | .methodLinkNest _ _ _ _ => true
  | .castable _ _ => true
  | _ => false
theorem e_z_on {w : Cond} (h : e_z w = true) : w.onTables = true := by
  cases w <;> first | rfl | (exact absurd h (by intro q; cases q))
theorem e_z_warm {w : Cond} {s U : State} (h : e_z w = true) (hW : s.WarmedH U.vm) (hZ : va_Nw w s) : va_Nw w U := by
  cases w <;> first
    | exact va_Nw.warmF hW hZ
    | exact va_Nw.warmM hW hZ
    | exact va_Nw.warmC hW hZ
    | (exact absurd h (by intro q; cases q))
/-- what else stands in the world and stays (constants, statics): closed under what calls and stores do -/
def e_XC (b0 : Nat) (XB : State → Heap → Prop) : Prop := (∀ (u U : State) (H : Heap), U.vm = u.vm → XB u H → XB U H) ∧ (∀ (u U : State) (H : Heap), u.WarmedH U.vm → XB u H → XB U H) ∧ ∀ (U : State) (H H1 : Heap), XB U H → (∀ a : Nat, a < H.size → ¬ e_A b0 a → H1[a]? = H[a]?) → XB U H1
/-- the world that a method of ours starts on -/
def e_BB (ad : Nat → Nat) (D : va_G) (cl : List vw_C) (tys : List (ClassId × FieldType)) (fty : Nat → Nat → FieldType) (Z0 : List Cond) (kS : Nat → Nat → Option Nat) (XB : State → Heap → Prop) (own : Nat → String) (b0 : Nat) (st : e_ST) (U : State) : Prop :=
  e_RR ad b0 D cl tys fty st U.heap ∧ va_K D cl tys U ∧ (∀ z ∈ Z0, va_Nw z U) ∧ (∀ o idx q, kS o idx = some q → ∃ tx, vk_R (own o) idx tx (ad q) U) ∧ b0 ≤ U.heap.size ∧ XB U U.heap
def e_LK (W0 Z0 : List Cond) (own : String) (idx : Nat) (y : MethodName) (plain : Prop) : Prop := Cond.methodLink own idx y ∈ W0 ∨ (plain ∧ ∃ host, Cond.methodLinkNest own idx y host ∈ Z0)
/-- what the words say of a method -/
def e_OKM (W0 Z0 : List Cond) (own : Nat → String) (M : e_M) : Prop := e_cw M ∈ W0 ∧ plainName (e_my M).cls = true ∧ ((e_my M).cls ≠ "java/lang/invoke/MethodHandle" ∧ (e_my M).cls ≠ "java/lang/invoke/VarHandle") ∧ (parseMethodDescriptor (e_my M).desc).map (fun d => d.parameters.length) = some (e_mn M) ∧ own (e_mo M) = (e_my M).cls ∧ Cond.initialized (e_my M).cls ∈ W0 ∧ e_mL M ≤ 21 ∧ ∀ x ∈ e_mh M, x.2.2.2 ≠ 0 ∧ ∃ nm, Cond.classLink (e_my M).cls x.2.2.2 nm ∈ W0 ∧ Cond.castable e_eX nm ∈ Z0
/-- .. and of a link to one: 0 by an object, 1 static, 2 a constructor -/
def e_OKL (W0 Z0 : List Cond) (own : String) (idx how : Nat) (M : e_M) : Prop := match how with
  | 0 => Cond.instanceMethod (e_my M) ∈ W0 ∧ Cond.selects (e_my M).cls (e_my M) (e_my M) ∈ W0 ∧ e_LK W0 Z0 own idx (e_my M) (e_mh M = [])
  | 1 => Cond.static (e_my M) ∈ W0 ∧ e_mh M = [] ∧ e_LK W0 Z0 own idx (e_my M) True
  | 2 => (e_my M).name = "<init>" ∧ e_mr M = none ∧ e_mh M = [] ∧ Cond.instanceMethod (e_my M) ∈ W0 ∧ e_LK W0 Z0 own idx (e_my M) True
  | _ => False
section E_C
variable {p : Program} {l : Launch} {e : Env} {R : Room} {s : State} {m : MethodId} {args : Array Value} {below : List Frame} {meth : Method} {c : Code} {H : Heap} {locs : List Loc} {cells slots : Nat} {Q : State → Prop}
variable {cc : ByteArray} {pc : Nat} {ls : Array Slot} {D : va_G} {cl : List vw_C} {tys : List (ClassId × FieldType)} {ats : List FieldType} {fty : Nat → Nat → FieldType} {st st' : e_ST} {H0 : Heap} {W0 Z0 : List Cond}
variable {kS : Nat → Nat → Option Nat} {XB : State → Heap → Prop} {own : Nat → String} {ad : Nat → Nat} {b0 o : Nat}
theorem e_BB_blind (hZ : ∀ z ∈ Z0, e_z z = true) (hXC : e_XC b0 XB) {As : List Value} : FrameBlind (va_Pc As (e_BB ad D cl tys fty Z0 kS XB own b0 st)) := by
  intro a U g mk q
  obtain ⟨q0, qR, qK, qZ, qS, qb, qX⟩ := q
  exact ⟨q0, qR, va_K.moved (u := U) (U := U.calling g mk a) (Vm.Alike.refl U.vm) qK, fun z hz => va_Nw.same (u := U) (e_z_on (hZ z hz)) rfl (qZ z hz), fun o idx q h => by obtain ⟨tx, h1⟩ := qS o idx q h; exact ⟨tx, vk_R.same rfl h1⟩, qb, hXC.1 U (U.calling g mk a) U.heap rfl qX⟩
theorem e_BB_at (hZ : ∀ z ∈ Z0, e_z z = true) (hK : va_K D cl tys s) (hZ0 : ∀ z ∈ Z0, va_Nw z s) (hS0 : ∀ o idx q, kS o idx = some q → ∃ tx, vk_R (own o) idx tx (ad q) s) (hR : e_RR ad b0 D cl tys fty st H) (hb0 : b0 ≤ H.size) (hXC : e_XC b0 XB) (hXB : XB s H) {As : List Value} {U : State} (hU : U.heap = H) (hW : s.WarmedH U.vm) : va_Pc As (e_BB ad D cl tys fty Z0 kS XB own b0 st) As.toArray U :=
  ⟨rfl, by rw [hU]; exact hR, va_K.moved hW.alike hK, fun z hz => e_z_warm (hZ z hz) hW (hZ0 z hz), fun o idx q h => by obtain ⟨tx, h1⟩ := hS0 o idx q h; exact ⟨tx, vk_R.warm hW h1⟩, by rw [hU]; exact hb0, by rw [hU]; exact hXC.2.1 s U H hW hXB⟩
/-- behind a call -/
theorem e_after {r : e_RS} {rest : List Value} {stk : List Value} {mc ms : Nat} {a : Array Value} (hr : vx_Run p l e R s m args below meth c H locs cells slots mc ms (F0 m pc ls stk) rest (e_QR ad D cl tys fty b0 r a) (e_XR ad D cl tys fty b0 r) (e_A b0)) (hS : va_S (e_A b0) H0 H locs)
    (kx : r.1 = none → ∀ (q9 : Addr) (ce : Cell) (H1 : Heap) (locs1 : List Loc), e_RR ad b0 D cl tys fty r.2 H1 → va_S (e_A b0) H0 H1 locs1 → H1[q9]? = some ce → ce.vm = .none → s.vm.findClass e_eX = some ce.cls → vx_W p l e R s m args below meth c H1 locs1 (cells + mc) (slots + ms) Q (F0 m pc ls rest) q9)
    (kk : ∀ v, r.1 = some v → ∀ (H1 : Heap) (locs1 : List Loc), e_RR ad b0 D cl tys fty r.2 H1 → va_S (e_A b0) H0 H1 locs1 → W p l e R s m args below meth c H1 locs1 (cells + mc) (slots + ms) Q (F0 m (pc + 3) ls ((v.map (e_vm ad)).toList ++ rest))) : W p l e R s m args below meth c H locs cells slots Q (F0 m pc ls stk) := by
  intro T hT X
  rcases hr T hT X with ⟨v, st₀, t, T', L, h0, X', hL, e1, e2, ⟨⟨v9, hv, ho⟩, hp, hF⟩, st⟩ | ⟨q, st₀, t, T', L, E, ce, h0, X', hL, e1, e2, ⟨hv, hE, hp, hF⟩, hce, hcv, hcl, st⟩
  · cases ho
    obtain ⟨k1, k2, k3⟩ := vx_keep h0 e1 hS (fun q _ h => h) (fun q h => h) hL hF
    obtain ⟨t2, a1, b1⟩ := kk v9 hv T'.heap (locs ++ L) (by rw [e1]; exact hp) k3 T' rfl X'
    exact ⟨t2, st t2 a1, b1⟩
  · obtain ⟨k1, k2, k3⟩ := vx_keep h0 e1 hS (fun q _ h => h) (fun q h => h) hL hF
    subst hE
    obtain ⟨t2, a1, b1⟩ := kx hv q ce T'.heap (locs ++ L) (by rw [e1]; exact hp) k3 (by rw [e1]; exact hce) hcv hcl T' rfl X'
    exact ⟨t2, st.trans a1, b1⟩
/-- the contract of a method at a depth, on a heap, with what it comes to -/
def e_CT (l : Launch) (ad : Nat → Nat) (D : va_G) (cl : List vw_C) (tys : List (ClassId × FieldType)) (fty : Nat → Nat → FieldType) (W0 Z0 : List Cond) (kS : Nat → Nat → Option Nat) (XB : State → Heap → Prop) (own : Nat → String) (b0 d : Nat) (M : e_M) (As : List Value) (st : e_ST) (r : e_RS) : Prop :=
  vx_Met l (e_my M) (e_ws W0 M) (e_rm d (e_T r.2 - e_T st) (e_Z r.2 - e_Z st)) (va_Pc (e_mv ad As) (e_BB ad D cl tys fty Z0 kS XB own b0 st)) (e_QR ad D cl tys fty b0 r) (e_XR ad D cl tys fty b0 r) (e_T r.2 - e_T st) (e_Z r.2 - e_Z st) (e_A b0)
theorem e_good (hW : ∀ w ∈ W0, goodWord w = true) {M : e_M} (hM : e_cw M ∈ W0) : GoodIn W0 (e_ws W0 M) := fun w h => by
  rcases List.mem_cons.mp h with h | h
  · rw [h]; exact ⟨hM, good_of_word (hW _ hM)⟩
  · exact ⟨h, good_of_word (hW _ h)⟩
theorem e_call {d mc ms how idx : Nat} {nL : Nat} {M : e_M} {r : e_RS} {As stk rest : List Value} {b : Nat} (hx : p.tables.exec = Jvm.exec) (hb : c.code = cc) (hml : c.maxLocals = nL) (hW : ∀ w ∈ W0, goodWord w = true) (hW0 : ∀ w ∈ W0, w.before args s = true) (hZ : ∀ z ∈ Z0, e_z z = true) (hZ0 : ∀ z ∈ Z0, va_Nw z s) (hS0 : ∀ o idx q, kS o idx = some q → ∃ tx, vk_R (own o) idx tx (ad q) s)
    (hown : s.vm.findClass (own o) = some m.cls) (hK : va_K D cl tys s) (hR : e_RR ad b0 D cl tys fty st H) (hb0 : b0 ≤ H.size) (hXC : e_XC b0 XB) (hXB : XB s H) (hl : ls.size = nL) (hM : e_OKM W0 Z0 own M) (hL : e_OKL W0 Z0 (own o) idx how M) (hRf : R.frames = d + 1) (hRl : R.locals = 40 * (d + 1)) (hmc : mc = e_T r.2 - e_T st) (hms : ms = e_Z r.2 - e_Z st) (hn : As.length = e_mn M) (hcat : (rest.map fun v => v.category).sum ≤ 8)
    (hf : cells + mc ≤ R.cells ∧ slots + ms ≤ R.slots)
    (hcase : (how = 0 ∧ decode cc pc = .ok (.invokevirtual idx, 3) ∧ stk = As.reverse ++ .ref b :: rest ∧ (∃ cell : Cell, H[ad b]? = some cell ∧ cell.vm.isStatics = false ∧ s.vm.findClass (e_my M).cls = some cell.cls) ∧ e_CT l ad D cl tys fty W0 Z0 kS XB own b0 d M (.ref b :: As) st r) ∨ (how = 1 ∧ decode cc pc = .ok (.invokestatic idx, 3) ∧ stk = As.reverse ++ rest ∧ e_CT l ad D cl tys fty W0 Z0 kS XB own b0 d M As st r) ∨ (how = 2 ∧ decode cc pc = .ok (.invokespecial idx, 3) ∧ stk = As.reverse ++ .ref b :: rest ∧ e_CT l ad D cl tys fty W0 Z0 kS XB own b0 d M (.ref b :: As) st r)) :
    ∃ a, vx_Run p l e R s m args below meth c H locs cells slots mc ms (F0 m pc ls (e_mv ad stk)) (e_mv ad rest) (e_QR ad D cl tys fty b0 r a) (e_XR ad D cl tys fty b0 r) (e_A b0) := by
  subst hmc; subst hms
  have hn' : (e_mv ad As).length = e_mn M := by rw [e_mv, List.length_map]; exact hn
  have sV : ∀ {stk : List Value}, stk = As.reverse ++ .ref b :: rest → e_mv ad stk = (e_mv ad As).reverse ++ .ref (ad b) :: e_mv ad rest := fun h => by rw [h]; simp [e_mv, e_vm]
  have sS : ∀ {stk : List Value}, stk = As.reverse ++ rest → e_mv ad stk = (e_mv ad As).reverse ++ e_mv ad rest := fun h => by rw [h]; simp [e_mv]
  obtain ⟨hcw, hpn, hy, hna, ho, hini, hmx, hhh⟩ := hM
  have hG := e_good hW hcw
  have hws : ∀ w ∈ e_ws W0 M, ∀ (a' : Array Value) (U : State), s.WarmedH U.vm → w.before a' U = true := pay_in hW0 hG
  have hlen : ∀ sig, parseMethodDescriptor (e_my M).desc = some sig → e_mn M = sig.parameters.length := fun sig h => by
    rw [h] at hna
    exact (Option.some.inj hna).symm
  have hfr : (e_rm d (e_T r.2 - e_T st) (e_Z r.2 - e_Z st)).frames + 1 ≤ R.frames := by rw [hRf]; exact Nat.le_refl _
  have hlo : 8 + (e_mL M + 11) + (e_rm d (e_T r.2 - e_T st) (e_Z r.2 - e_Z st)).locals ≤ R.locals := by
    rw [hRl]
    show 8 + (e_mL M + 11) + 40 * d ≤ 40 * (d + 1)
    omega
  have hroom : 2 * (F0 m pc ls (e_mv ad stk)).monitorRoom + ((e_mv ad rest).map fun v => v.category).sum ≤ 8 := lv_room (by rw [e_mv_cat]; exact hcat)
  rcases hcase with ⟨rfl, hd, hs0, hrecv, hCT⟩ | ⟨rfl, hd, hs0, hCT⟩ | ⟨rfl, hd, hs0, hCT⟩
  · have hs := sV hs0
    obtain ⟨hin, hse, hlk⟩ := hL
    have hp : PreV s H (e_my M).cls (ad b) (va_Pc (.ref (ad b) :: e_mv ad As) (e_BB ad D cl tys fty Z0 kS XB own b0 st)) (e_mv ad As) := ⟨e_BB_blind hZ hXC, hrecv, fun U hU hWu => e_BB_at hZ hK hZ0 hS0 hR hb0 hXC hXB hU hWu⟩
    by_cases hh : e_mh M = []
    · have hcd : e_cw M = .code (e_my M) (e_mc M) (e_mL M) (e_mr M) := by simp [e_cw, hh]
      rcases hlk with hlk | ⟨-, host, hlk⟩
      · exact ⟨_, vx_runV (y := e_my M) (bytes := e_mc M) (maxL := e_mL M) (ret := e_mr M) (Ts := W0) ⟨hx, hb, hml, hown, hW0⟩ hCT ⟨⟨rfl, rfl, hfr, hlo, hws, by rw [← hcd]; exact List.mem_cons_self, by rw [← hcd]; exact hW0 _ hcw, hW0 _ hini, hy, hlen, hW0 _ hlk⟩, hW0 _ hin, hW0 _ hse⟩ hp rfl hn' hl hs hroom hd hf⟩
      · exact ⟨_, vx_runVN (y := e_my M) (bytes := e_mc M) (maxL := e_mL M) (ret := e_mr M) (Ts := W0) ⟨hx, hb, hml, hown, hW0⟩ hCT ⟨⟨⟨rfl, rfl, hfr, hlo, hws, by rw [← hcd]; exact List.mem_cons_self⟩, by rw [← hcd]; exact hW0 _ hcw, hW0 _ hini, hy, hlen, va_Nw.use rfl (hZ0 _ hlk)⟩, hW0 _ hin, hW0 _ hse⟩ hp rfl hn' hl hs hroom hd hf⟩
    · have hcd : e_cw M = .codeWith (e_my M) (e_mc M) (e_mL M) (e_mr M) (e_mh M) := by simp [e_cw, hh]
      rcases hlk with hlk | ⟨h9, -⟩
      · exact ⟨_, vx_runVX (y := e_my M) (bytes := e_mc M) (maxL := e_mL M) (ret := e_mr M) (Ts := W0) (hh := e_mh M) ⟨hx, hb, hml, hown, hW0⟩ hCT ⟨⟨rfl, rfl, hfr, hlo, hws, by rw [← hcd]; exact List.mem_cons_self⟩, by rw [← hcd]; exact hW0 _ hcw, hW0 _ hini, hy, hlen, hW0 _ hlk, hW0 _ hin, hW0 _ hse⟩ hp rfl hn' hl hs hroom hd hf⟩
      · exact absurd h9 hh
  · have hs := sS hs0
    obtain ⟨hstt, hh, hlk⟩ := hL
    have hcd : e_cw M = .code (e_my M) (e_mc M) (e_mL M) (e_mr M) := by simp [e_cw, hh]
    have hp : PreS s H (va_Pc (e_mv ad As) (e_BB ad D cl tys fty Z0 kS XB own b0 st)) (e_mv ad As) := ⟨e_BB_blind hZ hXC, fun U hU hWu => e_BB_at hZ hK hZ0 hS0 hR hb0 hXC hXB hU hWu⟩
    rcases hlk with hlk | ⟨-, host, hlk⟩
    · exact ⟨_, vx_runS (y := e_my M) (bytes := e_mc M) (maxL := e_mL M) (ret := e_mr M) (Ts := W0) ⟨hx, hb, hml, hown, hW0⟩ hCT ⟨⟨rfl, rfl, hfr, hlo, hws, by rw [← hcd]; exact List.mem_cons_self, by rw [← hcd]; exact hW0 _ hcw, hW0 _ hini, hy, hlen, hW0 _ hlk⟩, hW0 _ hstt⟩ hp rfl hn' hl hs hroom hd hf⟩
    · exact ⟨_, vx_runSN (y := e_my M) (bytes := e_mc M) (maxL := e_mL M) (ret := e_mr M) (Ts := W0) ⟨hx, hb, hml, hown, hW0⟩ hCT ⟨⟨⟨rfl, rfl, hfr, hlo, hws, by rw [← hcd]; exact List.mem_cons_self⟩, by rw [← hcd]; exact hW0 _ hcw, hW0 _ hini, hy, hlen, va_Nw.use rfl (hZ0 _ hlk)⟩, hW0 _ hstt, trivial⟩ hp rfl hn' hl hs hroom hd hf⟩
  · have hs := sV hs0
    obtain ⟨hname, hret, hh, hin, hlk⟩ := hL
    have hcd : e_cw M = .code (e_my M) (e_mc M) (e_mL M) none := by simp [e_cw, hh, hret]
    have hp : PreS s H (va_Pc (.ref (ad b) :: e_mv ad As) (e_BB ad D cl tys fty Z0 kS XB own b0 st)) (.ref (ad b) :: e_mv ad As) := ⟨e_BB_blind hZ hXC, fun U hU hWu => e_BB_at hZ hK hZ0 hS0 hR hb0 hXC hXB hU hWu⟩
    rcases hlk with hlk | ⟨-, host, hlk⟩
    · exact ⟨_, vx_runI (y := e_my M) (bytes := e_mc M) (maxL := e_mL M) (Ts := W0) ⟨hx, hb, hml, hown, hW0⟩ hCT ⟨⟨rfl, rfl, hfr, hlo, hws, by rw [← hcd]; exact List.mem_cons_self, by rw [← hcd]; exact hW0 _ hcw, hW0 _ hini, hy, hlen, hW0 _ hlk⟩, hname, hW0 _ hin⟩ hp rfl hn' hl hs hroom hd hf⟩
    · exact ⟨_, vx_runIN (y := e_my M) (bytes := e_mc M) (maxL := e_mL M) (Ts := W0) ⟨hx, hb, hml, hown, hW0⟩ hCT ⟨⟨⟨rfl, rfl, hfr, hlo, hws, by rw [← hcd]; exact List.mem_cons_self⟩, by rw [← hcd]; exact hW0 _ hcw, hW0 _ hini, hy, hlen, va_Nw.use rfl (hZ0 _ hlk)⟩, hname, hW0 _ hin⟩ hp rfl hn' hl hs hroom hd hf⟩
end E_C
