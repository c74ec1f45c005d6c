def ty_byte (y : Int64) (j : Nat) : Int32 := (y.toUInt64 >>> ((8 * nI j).toInt64.toUInt64 &&& Int64.toUInt64 63)).toInt64.toInt32.toInt8.toInt32
def ty_text (y : Int64) : Nat → (Nat → Int32) → Nat → (Nat → Int32)
  | 0, f, _ => f
  | j + 1, f, L => ty_text y j (upd f L (ty_byte y j)) (L + 1)
def ty_iv : Nat → Int32
  | 0 => -1
  | j + 1 => nI j
theorem ty_iv_down : ∀ j : Nat, ty_iv (j + 1) + -1 = ty_iv j
  | 0 => by decide
  | j + 1 => by
    show nI (j + 1) + -1 = nI j
    rw [← nI_1, Int32.add_assoc, show (1 : Int32) + -1 = 0 by decide, Int32.add_zero]
theorem ty_first (k : Nat) : nI k - 1 = ty_iv k := by
  rw [Int32.sub_eq_add_neg]
  show nI k + -1 = ty_iv k
  cases k with
  | zero => decide
  | succ j => exact ty_iv_down (j + 1)
def ty_ans (x : Int32) (L : Nat) : Int32 := if x < 1 then -1 else if x ≤ 8 then (if nI L + x ≤ 4000 then nI L + x else -2) else -1
def ty_len (x : Int32) (L : Nat) : Nat := if x < 1 then L else if x ≤ 8 then (if nI L + x ≤ 4000 then L + x.toNatClampNeg else L) else L
def ty_txt (y : Int64) (x : Int32) (L : Nat) (f : Nat → Int32) : Nat → Int32 := if x < 1 then f else if x ≤ 8 then (if nI L + x ≤ 4000 then ty_text y x.toNatClampNeg f L else f) else f
theorem ty_k {x : Int32} (h1 : ¬ x < 1) (h2 : x ≤ 8) : ∃ k : Nat, k ≤ 8 ∧ x = nI k :=
  nI_of2 (by decide) (fun h => h1 (Int32.lt_of_lt_of_le h (by decide))) h2
theorem ty_room {L k : Nat} (hL : L ≤ 4000) (hk : k ≤ 8) (h : nI L + nI k ≤ 4000) : L + k ≤ 4000 := by
  rw [nI_add] at h
  exact (nI_leI (a := L + k) (b := 4000) (by omega) (by decide)).mp h
theorem ty_key (b : BitVec 64) (k : Nat) (hk : k ≤ 56) : BitVec.signExtend 8 (BitVec.signExtend 32 (b.sshiftRight k)) = BitVec.signExtend 8 (BitVec.signExtend 32 (b >>> k)) := by
  apply BitVec.eq_of_getElem_eq
  intro i hi
  have h1 : i < 32 := by omega
  have h3 : i < 64 := by omega
  have h5 : k + i < 64 := by omega
  simp [BitVec.getElem_signExtend, BitVec.getElem_sshiftRight, h1, h3, h5]
theorem ty_key2 (y : Int64) (a : Int64) (b : UInt64) (k : Nat) (hk : k ≤ 56) (ha : a.toBitVec.smod 64 = BitVec.ofNat 64 k) (hb : b.toBitVec % 64 = BitVec.ofNat 64 k) : (y >>> a).toInt32.toInt8.toInt32 = (y.toUInt64 >>> b).toInt64.toInt32.toInt8.toInt32 := by
  refine congrArg Int8.toInt32 (Int8.toBitVec_inj.mp ?_)
  show BitVec.signExtend 8 (BitVec.signExtend 32 (y >>> a).toBitVec) = BitVec.signExtend 8 (BitVec.signExtend 32 (y.toUInt64 >>> b).toBitVec)
  rw [Int64.toBitVec_shiftRight, UInt64.toBitVec_shiftRight, ha, hb]
  have hk2 : (BitVec.ofNat 64 k).toNat = k := by rw [BitVec.toNat_ofNat]; exact Nat.mod_eq_of_lt (by omega)
  show BitVec.signExtend 8 (BitVec.signExtend 32 (y.toBitVec.sshiftRight (BitVec.ofNat 64 k).toNat)) = BitVec.signExtend 8 (BitVec.signExtend 32 (y.toBitVec >>> (BitVec.ofNat 64 k).toNat))
  rw [hk2]
  exact ty_key _ k hk
theorem ty_shift (y : Int64) (j : Nat) (h : j < 8) : (y >>> ((8 * nI j).toInt64 &&& 63)).toInt32.toInt8.toInt32 = ty_byte y j :=
  match j, h with
  | 0, _ => ty_key2 y _ _ 0 (by decide) (by decide +kernel) (by decide +kernel)
  | 1, _ => ty_key2 y _ _ 8 (by decide) (by decide +kernel) (by decide +kernel)
  | 2, _ => ty_key2 y _ _ 16 (by decide) (by decide +kernel) (by decide +kernel)
  | 3, _ => ty_key2 y _ _ 24 (by decide) (by decide +kernel) (by decide +kernel)
  | 4, _ => ty_key2 y _ _ 32 (by decide) (by decide +kernel) (by decide +kernel)
  | 5, _ => ty_key2 y _ _ 40 (by decide) (by decide +kernel) (by decide +kernel)
  | 6, _ => ty_key2 y _ _ 48 (by decide) (by decide +kernel) (by decide +kernel)
  | 7, _ => ty_key2 y _ _ 56 (by decide) (by decide +kernel) (by decide +kernel)
  | k + 8, h => absurd h (by omega)
theorem nI_neg {j : Nat} (h : j < 2 ^ 31) : ¬ ty_iv (j + 1) < 0 := fun c => absurd ((nI_ltI (a := j) (b := 0) h (by decide)).mp c) (Nat.not_lt_zero j)
def fw_e_X11_type : List Cond := .code yX11_type cX11_type 5 (some .int) :: ([.fieldLink RX11 9 "TripleStore" "text" "[B", .fieldLink RX11 90 "TripleStore" "length" "I"] ++ wsX110)
theorem in_e_X11_type_RX11 : ∀ w ∈ u_ws RX11 TX11 18, w ∈ fw_e_X11_type := fun _ h => List.mem_cons_of_mem _ (List.mem_append_right _ h)
theorem gd_e_X11_type : (fw_e_X11_type).all goodWord = true := by decide +kernel
set_option maxHeartbeats 4000000 in
set_option maxRecDepth 100000 in
theorem e_X11_type_loop {p : Program} {l : Launch} {e : Env} {R : Room} {s : State} {m : MethodId} {args : Array Value} {below : List Frame} {meth : Method} {c : Code} {Q : State → Prop} {k9 n9 : Nat} {dC : Nat → ClassId} {dI : Nat → Nat → Nat} {A : Nat → Prop} {y : Int64} {x0 : Int32} {h0 : Nat} {q8 : Nat} {q23 : Nat} {q34 : Nat} {q45 : Nat} {q64 : Nat} {q83 : Nat} {q102 : Nat} {q117 : Nat} {q156 : Nat} {q17 : Nat} {cA8 : ClassId} {z2 : Int32} {z3 : Int32} {z4 : Int32} {z5 : Int32} {z6 : Int32} {o7 : Value} {z8 : Int32} {T : Nat} {G : Nat → Int32} (hT : T ≤ 4000) (hx : p.tables.exec = Jvm.exec) (hb : c.code = cX11_type) (hts : ∀ w ∈ fw_e_X11_type, w.before args s = true) (hown : s.vm.findClass RX11 = some m.cls) (hK : va_K (dC, dI) vwCl [(cA8, .byte)] s)
    (kk : ∀ (H : Heap) (locs : List Loc), va_P (dC, dI) vwCl [(h0, .inr (12, [.ref q8, .int (nI T), .ref q23, .ref q34, .ref q45, .ref q64, .ref q83, .ref q102, .ref q117, .ref q156, .ref q17, .int z2, .int z3, .int z4, .int z5, .int z6, o7, .int z8])), (q8, .inl (cA8, 4000, .inl G))] H → va_D A [(h0, .inr (12, [.ref q8, .int (nI T), .ref q23, .ref q34, .ref q45, .ref q64, .ref q83, .ref q102, .ref q117, .ref q156, .ref q17, .int z2, .int z3, .int z4, .int z5, .int z6, o7, .int z8])), (q8, .inl (cA8, 4000, .inl G))] → va_S A s.heap H locs → ∀ (ls : Array Slot), lv_has ls 5 [(0, .ref h0), (1, .long y), (3, .int x0), (4, .int (-1))] → W p l e R s m args below meth c H locs k9 n9 Q (F0 m 72 ls [])) :
    ∀ (j L : Nat), L + j = T → j ≤ 8 → ∀ (f : Nat → Int32), ty_text y j f L = G → ∀ (H : Heap) (locs : List Loc), va_P (dC, dI) vwCl [(h0, .inr (12, [.ref q8, .int (nI L), .ref q23, .ref q34, .ref q45, .ref q64, .ref q83, .ref q102, .ref q117, .ref q156, .ref q17, .int z2, .int z3, .int z4, .int z5, .int z6, o7, .int z8])), (q8, .inl (cA8, 4000, .inl f))] H → va_D A [(h0, .inr (12, [.ref q8, .int (nI L), .ref q23, .ref q34, .ref q45, .ref q64, .ref q83, .ref q102, .ref q117, .ref q156, .ref q17, .int z2, .int z3, .int z4, .int z5, .int z6, o7, .int z8])), (q8, .inl (cA8, 4000, .inl f))] → va_S A s.heap H locs → ∀ (ls : Array Slot), lv_has ls 5 [(0, .ref h0), (1, .long y), (3, .int x0), (4, .int (ty_iv j))] → W p l e R s m args below meth c H locs k9 n9 Q (F0 m 33 ls []) := by
  intro j
  induction j with
  | zero =>
    intro L hL hj8 f hG H locs hP hD hS ls hl
    cases hL
    cases hG
    refine lv_iload hx hb dX11_type_33 (lv_at hl 3 rfl) ?_
    refine lv_if_lt (tgt := 72) hx hb dX11_type_35 (by decide) (fun _ => ?_) (fun c9 => absurd (by decide) c9)
    exact kk H locs hP hD hS ls hl
  | succ j ih =>
    intro L hL hj8 f hG H locs hP hD hS ls hl
    replace hG : ty_text y j (upd f L (ty_byte y j)) (L + 1) = G := hG
    have hl : lv_has ls 5 [(4, .int (ty_iv (j + 1))), (3, .int x0), (1, .long y), (0, .ref h0)] := lv_sub hl [3, 2, 1, 0] rfl
    refine lv_iload hx hb dX11_type_33 (lv_at hl 0 rfl) ?_
    refine lv_if_lt (tgt := 72) hx hb dX11_type_35 (by decide) (fun c9 => absurd c9 (nI_neg (by omega))) (fun _ => ?_)
    refine lv_aload_n hx hb dX11_type_38 rfl (lv_at hl 3 rfl) ?_
    refine va_get (D := (dC, dI)) (ci := 12) (v := .ref q8) (C := RX11) (T := TX11) (N := 18) hx hb hts in_e_X11_type_RX11 hown hK hP 0 rfl rfl 0 (by decide) (hts (.fieldLink RX11 9 "TripleStore" "text" "[B") (List.mem_of_getElem? (i := 1) rfl)) (fun _ h9 => h9) rfl dX11_type_39 ?_
    refine lv_aload_n hx hb dX11_type_42 rfl (lv_at hl 3 rfl) ?_
    refine va_get (D := (dC, dI)) (ci := 12) (v := .int (nI L)) (C := RX11) (T := TX11) (N := 18) hx hb hts in_e_X11_type_RX11 hown hK hP 0 rfl rfl 1 (by decide) (hts (.fieldLink RX11 90 "TripleStore" "length" "I") (List.mem_of_getElem? (i := 2) rfl)) (fun _ h9 => h9) rfl dX11_type_43 ?_
    refine lv_lload_n hx hb dX11_type_46 rfl (lv_at hl 2 rfl) ?_
    refine lv_bipush (v := 8) hx hb dX11_type_47 (by decide) ?_
    refine lv_iload hx hb dX11_type_49 (lv_at hl 0 rfl) ?_
    refine lv_imul hx hb dX11_type_51 ?_
    refine lv_lushr hx hb dX11_type_52 rfl ?_
    refine lv_topl (fun yy eyy => ?_)
    refine lv_l2i hx hb dX11_type_53 rfl ?_
    refine lv_topi (fun xx exx => ?_)
    refine lv_i2b hx hb dX11_type_54 rfl ?_
    refine lv_topi (fun xb exb => ?_)
    refine va_bast (i := nI L) (x := xb) hx hb hK hP hD hS 1 0 rfl rfl (vp_in_nI (by omega) (by decide)) dX11_type_55 (fun H locs hP hD hS => ?_)
    have eb : vp_nar .byte xb = ty_byte y j := by rw [vp_nar_byte, exb, exx, eyy, Int8.toInt8_toInt32]; exact rfl
    rw [nI_clamp (n := L) (by omega), eb] at hP hD
    have hP : va_P (dC, dI) vwCl [(h0, .inr (12, [.ref q8, .int (nI L), .ref q23, .ref q34, .ref q45, .ref q64, .ref q83, .ref q102, .ref q117, .ref q156, .ref q17, .int z2, .int z3, .int z4, .int z5, .int z6, o7, .int z8])), (q8, .inl (cA8, 4000, .inl (upd f L (ty_byte y j))))] H := hP
    have hD : va_D A [(h0, .inr (12, [.ref q8, .int (nI L), .ref q23, .ref q34, .ref q45, .ref q64, .ref q83, .ref q102, .ref q117, .ref q156, .ref q17, .int z2, .int z3, .int z4, .int z5, .int z6, o7, .int z8])), (q8, .inl (cA8, 4000, .inl (upd f L (ty_byte y j))))] := hD
    refine lv_aload_n hx hb dX11_type_56 rfl (lv_at hl 3 rfl) ?_
    refine lv_dup hx hb dX11_type_57 rfl ?_
    refine va_get (D := (dC, dI)) (ci := 12) (v := .int (nI L)) (C := RX11) (T := TX11) (N := 18) hx hb hts in_e_X11_type_RX11 hown hK hP 0 rfl rfl 1 (by decide) (hts (.fieldLink RX11 90 "TripleStore" "length" "I") (List.mem_of_getElem? (i := 2) rfl)) (fun _ h9 => h9) rfl dX11_type_58 ?_
    refine lv_iconst (v := 1) hx hb dX11_type_61 (by decide) ?_
    refine lv_iadd hx hb dX11_type_62 ?_
    refine va_put (D := (dC, dI)) (ci := 12) (v := .int ((nI L) + 1)) (ty := .int) (C := RX11) (T := TX11) (N := 18) hx hb hts in_e_X11_type_RX11 tyX11 tyX11_ok nmX11 hown hK hP hD hS 0 rfl rfl 1 (by decide) (hts (.fieldLink RX11 90 "TripleStore" "length" "I") (List.mem_of_getElem? (i := 2) rfl)) (fun _ h9 => h9) rfl (by decide +kernel) rfl rfl (Nat.le_of_ble_eq_true rfl) dX11_type_63 (fun H locs hP hD hS => ?_)
    have hP : va_P (dC, dI) vwCl [(h0, .inr (12, [.ref q8, .int ((nI L) + 1), .ref q23, .ref q34, .ref q45, .ref q64, .ref q83, .ref q102, .ref q117, .ref q156, .ref q17, .int z2, .int z3, .int z4, .int z5, .int z6, o7, .int z8])), (q8, .inl (cA8, 4000, .inl (upd f L (ty_byte y j))))] H := hP
    have hD : va_D A [(h0, .inr (12, [.ref q8, .int ((nI L) + 1), .ref q23, .ref q34, .ref q45, .ref q64, .ref q83, .ref q102, .ref q117, .ref q156, .ref q17, .int z2, .int z3, .int z4, .int z5, .int z6, o7, .int z8])), (q8, .inl (cA8, 4000, .inl (upd f L (ty_byte y j))))] := hD
    refine lv_iinc (v := ((ty_iv (j + 1)) + -1)) (lv' := [(4, .int ((ty_iv (j + 1)) + -1)), (3, .int x0), (1, .long y), (0, .ref h0)]) hx hb dX11_type_66 hl (k := 0) rfl (congrArg (fun z => (ty_iv (j + 1)) + z) (by decide : Int32.ofInt (-1) = -1)) (by decide) rfl (fun ls hl => ?_)
    refine lv_goto (tgt := 33) hx hb dX11_type_69 (by decide) ?_
    rw [nI_1] at hP hD
    exact ih (L + 1) (by omega) (by omega) _ hG H locs hP hD hS ls (by rw [← ty_iv_down]; exact (lv_sub hl [3, 2, 1, 0] rfl))
set_option maxHeartbeats 4000000 in
set_option maxRecDepth 100000 in
/-- type() in any state -/
theorem e_X11_type (l : Launch) (dC : Nat → ClassId) (dI : Nat → Nat → Nat) (h0 : Nat) (q8 : Nat) (q23 : Nat) (q34 : Nat) (q45 : Nat) (q64 : Nat) (q83 : Nat) (q102 : Nat) (q117 : Nat) (q156 : Nat) (q17 : Nat) (cA8 : ClassId) (z2 : Int32) (z3 : Int32) (z4 : Int32) (z5 : Int32) (z6 : Int32) (o7 : Value) (z8 : Int32) (y : Int64) (x0 : Int32) (L : Nat) (hL : L ≤ 4000) (f : Nat → Int32) (sz : Nat) : Met l yX11_type fw_e_X11_type ({ frames := 1, cells := 0, slots := 0, locals := 20 }) (va_Pc [.ref h0, .long y, .int x0] (fun U => U.heap.size = sz ∧ va_P (dC, dI) vwCl [(h0, .inr (12, [.ref q8, .int (nI L), .ref q23, .ref q34, .ref q45, .ref q64, .ref q83, .ref q102, .ref q117, .ref q156, .ref q17, .int z2, .int z3, .int z4, .int z5, .int z6, o7, .int z8])), (q8, .inl (cA8, 4000, .inl f))] U.heap ∧ va_K (dC, dI) vwCl [(cA8, .byte)] U ∧ va_D (fun _ => True) [(h0, .inr (12, [.ref q8, .int (nI L), .ref q23, .ref q34, .ref q45, .ref q64, .ref q83, .ref q102, .ref q117, .ref q156, .ref q17, .int z2, .int z3, .int z4, .int z5, .int z6, o7, .int z8])), (q8, .inl (cA8, 4000, .inl f))])) (va_Qi (fun (r : Int32) (_ : Unit) => r = ty_ans x0 L) (fun _ t => va_P (dC, dI) vwCl [(h0, .inr (12, [.ref q8, .int (nI (ty_len x0 L)), .ref q23, .ref q34, .ref q45, .ref q64, .ref q83, .ref q102, .ref q117, .ref q156, .ref q17, .int z2, .int z3, .int z4, .int z5, .int z6, o7, .int z8])), (q8, .inl (cA8, 4000, .inl (ty_txt y x0 L f)))] t.heap ∧ va_K (dC, dI) vwCl [(cA8, .byte)] t ∧ va_D (va_A [(h0, .inr (12, [.ref q8, .int (nI L), .ref q23, .ref q34, .ref q45, .ref q64, .ref q83, .ref q102, .ref q117, .ref q156, .ref q17, .int z2, .int z3, .int z4, .int z5, .int z6, o7, .int z8])), (q8, .inl (cA8, 4000, .inl f))] sz) [(h0, .inr (12, [.ref q8, .int (nI (ty_len x0 L)), .ref q23, .ref q34, .ref q45, .ref q64, .ref q83, .ref q102, .ref q117, .ref q156, .ref q17, .int z2, .int z3, .int z4, .int z5, .int z6, o7, .int z8])), (q8, .inl (cA8, 4000, .inl (ty_txt y x0 L f)))]) (va_A [(h0, .inr (12, [.ref q8, .int (nI L), .ref q23, .ref q34, .ref q45, .ref q64, .ref q83, .ref q102, .ref q117, .ref q156, .ref q17, .int z2, .int z3, .int z4, .int z5, .int z6, o7, .int z8])), (q8, .inl (cA8, 4000, .inl f))] sz)) 0 0 (va_A [(h0, .inr (12, [.ref q8, .int (nI L), .ref q23, .ref q34, .ref q45, .ref q64, .ref q83, .ref q102, .ref q117, .ref q156, .ref q17, .int z2, .int z3, .int z4, .int z5, .int z6, o7, .int z8])), (q8, .inl (cA8, 4000, .inl f))] sz) := by
  refine Met.ofW (cc := cX11_type) (maxL := 5) (ret := (some .int)) (by decide) rfl ?_
  intro p e s m args below meth c s₁ B hml hv
  obtain ⟨rfl, hsz, hP, hK, hD0⟩ := hv
  have hx := B.exec
  have hb := B.bytes
  have hr := B.returns
  have hts := atoms_spec (ws := fw_e_X11_type) B.pre
  have hown : s.vm.findClass RX11 = some m.cls := findClass_of_methodNamed B.named
  have hlocks := B.notSynchronized
  subst hsz
  have hD := hD0.self (sz := s.heap.size)
  generalize hAe : va_A [(h0, .inr (12, [.ref q8, .int (nI L), .ref q23, .ref q34, .ref q45, .ref q64, .ref q83, .ref q102, .ref q117, .ref q156, .ref q17, .int z2, .int z3, .int z4, .int z5, .int z6, o7, .int z8])), (q8, .inl (cA8, 4000, .inl f))] s.heap.size = A at hD ⊢
  have hA : ∀ q : Nat, s.heap.size ≤ q → A q := fun q h => by rw [← hAe]; exact Or.inr h
  obtain ⟨H, hH⟩ : ∃ z, z = s.heap := ⟨_, rfl⟩
  rw [← hH] at hP
  have hS : va_S A s.heap H [] := by rw [hH]; exact va_S.rf
  have hP : va_P (dC, dI) vwCl [(h0, .inr (12, [.ref q8, .int (nI L), .ref q23, .ref q34, .ref q45, .ref q64, .ref q83, .ref q102, .ref q117, .ref q156, .ref q17, .int z2, .int z3, .int z4, .int z5, .int z6, o7, .int z8])), (q8, .inl (cA8, 4000, .inl f))] H := hP
  have hl := lv_entry ([.ref h0, .long y, .int x0]) (n := 5) (Nat.le_of_ble_eq_true rfl)
  rw [lg_entry_eq]
  generalize (lg_sl ([.ref h0, .long y, .int x0]) ++ List.replicate (5 - (lg_sl ([.ref h0, .long y, .int x0])).length) Slot.unset).toArray = ls at hl ⊢
  have hl : lv_has ls 5 [(0, .ref h0), (1, .long y), (3, .int x0)] := hl
  rw [← hH]
  refine lv_iload_n hx hb dX11_type_0 rfl (lv_at hl 2 rfl) ?_
  refine lv_iconst (v := 1) hx hb dX11_type_1 (by decide) ?_
  refine lv_icmp_lt (tgt := 11) hx hb dX11_type_2 (by decide) (fun c_2 => ?_) (fun c_2 => ?_)
  · refine lv_iconst (v := (-1)) hx hb dX11_type_11 (by decide) ?_
    exact W.iret (v := (-1)) hx hb hr (fun t ht hW => ⟨⟨(-1), (), rfl, by unfold ty_ans; rw [if_pos c_2], by show va_P _ _ _ _ ∧ va_K _ _ _ _ ∧ va_D _ _; unfold ty_len ty_txt; rw [if_pos c_2, if_pos c_2]; rw [ht]; exact ⟨hP, va_K.moved hW.alike hK, hD⟩⟩, hS.F ht⟩) hS.2.2 dX11_type_12
  · refine lv_iload_n hx hb dX11_type_5 rfl (lv_at hl 2 rfl) ?_
    refine lv_bipush (v := 8) hx hb dX11_type_6 (by decide) ?_
    refine lv_icmp_le (tgt := 13) hx hb dX11_type_8 (by decide) (fun c_8 => ?_) (fun c_8 => ?_)
    · refine lv_aload_n hx hb dX11_type_13 rfl (lv_at hl 0 rfl) ?_
      refine va_get (D := (dC, dI)) (ci := 12) (v := .int (nI L)) (C := RX11) (T := TX11) (N := 18) hx hb hts in_e_X11_type_RX11 hown hK hP 0 rfl rfl 1 (by decide) (hts (.fieldLink RX11 90 "TripleStore" "length" "I") (List.mem_of_getElem? (i := 2) rfl)) (fun _ h9 => h9) rfl dX11_type_14 ?_
      refine lv_iload_n hx hb dX11_type_17 rfl (lv_at hl 2 rfl) ?_
      refine lv_iadd hx hb dX11_type_18 ?_
      refine lv_sipush (v := 4000) hx hb dX11_type_19 (by decide) ?_
      refine lv_icmp_le (tgt := 28) hx hb dX11_type_22 (by decide) (fun c_22 => ?_) (fun c_22 => ?_)
      · refine lv_iload_n hx hb dX11_type_28 rfl (lv_at hl 2 rfl) ?_
        refine lv_iconst (v := 1) hx hb dX11_type_29 (by decide) ?_
        refine lv_isub hx hb dX11_type_30 ?_
        refine lv_istore (lv' := [(4, .int (x0 - 1)), (0, .ref h0), (1, .long y), (3, .int x0)]) hx hb dX11_type_31 hl (by decide) rfl (fun ls hl => ?_)
        obtain ⟨k, hk8, rfl⟩ := ty_k c_2 c_8
        have hrm := ty_room hL hk8 c_22
        refine e_X11_type_loop (T := L + k) (G := ty_text y k f L) hrm hx hb hts hown hK (fun H locs hP hD hS ls hl => ?_) k L rfl hk8 f rfl H _ hP hD hS ls (by rw [← ty_first]; exact (lv_sub hl [1, 2, 3, 0] rfl))
        refine lv_aload_n hx hb dX11_type_72 rfl (lv_at hl 0 rfl) ?_
        refine va_get (D := (dC, dI)) (ci := 12) (v := .int (nI (L + k))) (C := RX11) (T := TX11) (N := 18) hx hb hts in_e_X11_type_RX11 hown hK hP 0 rfl rfl 1 (by decide) (hts (.fieldLink RX11 90 "TripleStore" "length" "I") (List.mem_of_getElem? (i := 2) rfl)) (fun _ h9 => h9) rfl dX11_type_73 ?_
        exact W.iret (v := nI (L + k)) hx hb hr (fun t ht hW => ⟨⟨nI (L + k), (), rfl, by unfold ty_ans; rw [if_neg c_2, if_pos c_8, if_pos c_22, nI_add], by show va_P _ _ _ _ ∧ va_K _ _ _ _ ∧ va_D _ _; unfold ty_len ty_txt; rw [if_neg c_2, if_neg c_2, if_pos c_8, if_pos c_8, if_pos c_22, if_pos c_22]; rw [nI_clamp (n := k) (by omega), ht]; exact ⟨hP, va_K.moved hW.alike hK, hD⟩⟩, hS.F ht⟩) hS.2.2 dX11_type_76
      · refine lv_bipush (v := (-2)) hx hb dX11_type_25 (by decide) ?_
        exact W.iret (v := (-2)) hx hb hr (fun t ht hW => ⟨⟨(-2), (), rfl, by unfold ty_ans; rw [if_neg c_2, if_pos c_8, if_neg c_22], by show va_P _ _ _ _ ∧ va_K _ _ _ _ ∧ va_D _ _; unfold ty_len ty_txt; rw [if_neg c_2, if_neg c_2, if_pos c_8, if_pos c_8, if_neg c_22, if_neg c_22]; rw [ht]; exact ⟨hP, va_K.moved hW.alike hK, hD⟩⟩, hS.F ht⟩) hS.2.2 dX11_type_27
    · refine lv_iconst (v := (-1)) hx hb dX11_type_11 (by decide) ?_
      exact W.iret (v := (-1)) hx hb hr (fun t ht hW => ⟨⟨(-1), (), rfl, by unfold ty_ans; rw [if_neg c_2, if_neg c_8], by show va_P _ _ _ _ ∧ va_K _ _ _ _ ∧ va_D _ _; unfold ty_len ty_txt; rw [if_neg c_2, if_neg c_2, if_neg c_8, if_neg c_8]; rw [ht]; exact ⟨hP, va_K.moved hW.alike hK, hD⟩⟩, hS.F ht⟩) hS.2.2 dX11_type_12
def fw_e_X20_type : List Cond := .code yX20_type cX20_type 5 (some .int) :: ([.fieldLink RX20 28 "TripleStoreModel" "lexer" "LTripleStoreModel$Lexer;"] ++ wsX200 ++ wsX140)
theorem in_e_X20_type_RX20 : ∀ w ∈ u_ws RX20 TX20 30, w ∈ fw_e_X20_type := fun _ h => List.mem_cons_of_mem _ (List.mem_append_left _ (List.mem_append_right _ h))
theorem in_e_X20_type_RX14 : ∀ w ∈ u_ws RX14 TX14 14, w ∈ fw_e_X20_type := fun _ h => List.mem_cons_of_mem _ (List.mem_append_right _ h)
theorem gd_e_X20_type : (fw_e_X20_type).all goodWord = true := by decide +kernel
set_option maxHeartbeats 4000000 in
set_option maxRecDepth 100000 in
theorem e_X20_type_loop {p : Program} {l : Launch} {e : Env} {R : Room} {s : State} {m : MethodId} {args : Array Value} {below : List Frame} {meth : Method} {c : Code} {Q : State → Prop} {k9 n9 : Nat} {dC : Nat → ClassId} {dI : Nat → Nat → Nat} {A : Nat → Prop} {y : Int64} {x0 : Int32} {h0 : Nat} {q5 : Nat} {q16 : Nat} {q27 : Nat} {q42 : Nat} {q53 : Nat} {q68 : Nat} {q83 : Nat} {q110 : Nat} {q143 : Nat} {q152 : Nat} {q160 : Nat} {q168 : Nat} {q177 : Nat} {q186 : Nat} {q195 : Nat} {q204 : Nat} {q213 : Nat} {q222 : Nat} {q231 : Nat} {q240 : Nat} {u35_q8 : Nat} {u35_cA8 : ClassId} {z69 : Int32} {z70 : Int32} {z71 : Int32} {z72 : Int32} {z73 : Int32} {z74 : Int32} {z75 : Int32} {z76 : Int32} {z77 : Int32} {z78 : Int32} {z93 : Int32} {z94 : Int32} {z95 : Int32} {z96 : Int32} {z97 : Int32} {z98 : Int32} {z99 : Int32} {z100 : Int32} {w101 : Int64} {z102 : Int32} {z103 : Int32} {T : Nat} {G : Nat → Int32} (hT : T ≤ 4000) (hx : p.tables.exec = Jvm.exec) (hb : c.code = cX20_type) (hts : ∀ w ∈ fw_e_X20_type, w.before args s = true) (hown : s.vm.findClass RX20 = some m.cls) (hK : va_K (dC, dI) vwCl [(u35_cA8, .byte)] s) (hZ0 : va_Nw (.fieldLinkNest RX20 116 "TripleStoreModel$Lexer" "text" "[B" "TripleStoreModel") s) (hZ1 : va_Nw (.fieldLinkNest RX20 112 "TripleStoreModel$Lexer" "size" "I" "TripleStoreModel") s)
    (kk : ∀ (H : Heap) (locs : List Loc), va_P (dC, dI) vwCl [(h0, .inr (21, [.ref q5, .ref q16, .ref q27, .ref q42, .ref q53, .ref q68, .ref q83, .ref q110, .int z69, .ref q143, .int z70, .int z71, .ref q152, .ref q160, .int z72, .ref q168, .int z73, .ref q177, .ref q186, .ref q195, .int z74, .ref q204, .ref q213, .int z75, .int z76, .ref q222, .int z77, .ref q231, .ref q240, .int z78])), (q27, .inr (15, [.ref q5, .ref u35_q8, .int (nI T), .int z93, .int z94, .int z95, .int z96, .int z97, .int z98, .int z99, .int z100, .long w101, .int z102, .int z103])), (u35_q8, .inl (u35_cA8, 4000, .inl G))] H → va_D A [(h0, .inr (21, [.ref q5, .ref q16, .ref q27, .ref q42, .ref q53, .ref q68, .ref q83, .ref q110, .int z69, .ref q143, .int z70, .int z71, .ref q152, .ref q160, .int z72, .ref q168, .int z73, .ref q177, .ref q186, .ref q195, .int z74, .ref q204, .ref q213, .int z75, .int z76, .ref q222, .int z77, .ref q231, .ref q240, .int z78])), (q27, .inr (15, [.ref q5, .ref u35_q8, .int (nI T), .int z93, .int z94, .int z95, .int z96, .int z97, .int z98, .int z99, .int z100, .long w101, .int z102, .int z103])), (u35_q8, .inl (u35_cA8, 4000, .inl G))] → va_S A s.heap H locs → ∀ (ls : Array Slot), lv_has ls 5 [(0, .ref h0), (1, .long y), (3, .int x0), (4, .int (-1))] → W p l e R s m args below meth c H locs k9 n9 Q (F0 m 84 ls [])) :
    ∀ (j L : Nat), L + j = T → j ≤ 8 → ∀ (f : Nat → Int32), ty_text y j f L = G → ∀ (H : Heap) (locs : List Loc), va_P (dC, dI) vwCl [(h0, .inr (21, [.ref q5, .ref q16, .ref q27, .ref q42, .ref q53, .ref q68, .ref q83, .ref q110, .int z69, .ref q143, .int z70, .int z71, .ref q152, .ref q160, .int z72, .ref q168, .int z73, .ref q177, .ref q186, .ref q195, .int z74, .ref q204, .ref q213, .int z75, .int z76, .ref q222, .int z77, .ref q231, .ref q240, .int z78])), (q27, .inr (15, [.ref q5, .ref u35_q8, .int (nI L), .int z93, .int z94, .int z95, .int z96, .int z97, .int z98, .int z99, .int z100, .long w101, .int z102, .int z103])), (u35_q8, .inl (u35_cA8, 4000, .inl f))] H → va_D A [(h0, .inr (21, [.ref q5, .ref q16, .ref q27, .ref q42, .ref q53, .ref q68, .ref q83, .ref q110, .int z69, .ref q143, .int z70, .int z71, .ref q152, .ref q160, .int z72, .ref q168, .int z73, .ref q177, .ref q186, .ref q195, .int z74, .ref q204, .ref q213, .int z75, .int z76, .ref q222, .int z77, .ref q231, .ref q240, .int z78])), (q27, .inr (15, [.ref q5, .ref u35_q8, .int (nI L), .int z93, .int z94, .int z95, .int z96, .int z97, .int z98, .int z99, .int z100, .long w101, .int z102, .int z103])), (u35_q8, .inl (u35_cA8, 4000, .inl f))] → va_S A s.heap H locs → ∀ (ls : Array Slot), lv_has ls 5 [(0, .ref h0), (1, .long y), (3, .int x0), (4, .int (ty_iv j))] → W p l e R s m args below meth c H locs k9 n9 Q (F0 m 36 ls []) := by
  intro j
  induction j with
  | zero =>
    intro L hL hj8 f hG H locs hP hD hS ls hl
    cases hL
    cases hG
    refine lv_iload hx hb dX20_type_36 (lv_at hl 3 rfl) ?_
    refine lv_if_lt (tgt := 84) hx hb dX20_type_38 (by decide) (fun _ => ?_) (fun c9 => absurd (by decide) c9)
    exact kk H locs hP hD hS ls hl
  | succ j ih =>
    intro L hL hj8 f hG H locs hP hD hS ls hl
    replace hG : ty_text y j (upd f L (ty_byte y j)) (L + 1) = G := hG
    have hl : lv_has ls 5 [(4, .int (ty_iv (j + 1))), (3, .int x0), (1, .long y), (0, .ref h0)] := lv_sub hl [3, 2, 1, 0] rfl
    refine lv_iload hx hb dX20_type_36 (lv_at hl 0 rfl) ?_
    refine lv_if_lt (tgt := 84) hx hb dX20_type_38 (by decide) (fun c9 => absurd c9 (nI_neg (by omega))) (fun _ => ?_)
    refine lv_aload_n hx hb dX20_type_41 rfl (lv_at hl 3 rfl) ?_
    refine va_get (D := (dC, dI)) (ci := 21) (v := .ref q27) (C := RX20) (T := TX20) (N := 30) hx hb hts in_e_X20_type_RX20 hown hK hP 0 rfl rfl 2 (by decide) (hts (.fieldLink RX20 28 "TripleStoreModel" "lexer" "LTripleStoreModel$Lexer;") (List.mem_of_getElem? (i := 1) rfl)) (fun _ h9 => h9) rfl dX20_type_42 ?_
    refine va_getN (D := (dC, dI)) (ci := 15) (v := .ref u35_q8) (C := RX14) (T := TX14) (N := 14) hx hb hts in_e_X20_type_RX14 hown hK hP 1 rfl rfl 1 (by decide) (va_Nw.use rfl hZ0) (fun _ h9 => h9) rfl dX20_type_45 ?_
    refine lv_aload_n hx hb dX20_type_48 rfl (lv_at hl 3 rfl) ?_
    refine va_get (D := (dC, dI)) (ci := 21) (v := .ref q27) (C := RX20) (T := TX20) (N := 30) hx hb hts in_e_X20_type_RX20 hown hK hP 0 rfl rfl 2 (by decide) (hts (.fieldLink RX20 28 "TripleStoreModel" "lexer" "LTripleStoreModel$Lexer;") (List.mem_of_getElem? (i := 1) rfl)) (fun _ h9 => h9) rfl dX20_type_49 ?_
    refine va_getN (D := (dC, dI)) (ci := 15) (v := .int (nI L)) (C := RX14) (T := TX14) (N := 14) hx hb hts in_e_X20_type_RX14 hown hK hP 1 rfl rfl 2 (by decide) (va_Nw.use rfl hZ1) (fun _ h9 => h9) rfl dX20_type_52 ?_
    refine lv_lload_n hx hb dX20_type_55 rfl (lv_at hl 2 rfl) ?_
    refine lv_bipush (v := 8) hx hb dX20_type_56 (by decide) ?_
    refine lv_iload hx hb dX20_type_58 (lv_at hl 0 rfl) ?_
    refine lv_imul hx hb dX20_type_60 ?_
    refine lv_lshr hx hb dX20_type_61 rfl ?_
    refine lv_topl (fun yy eyy => ?_)
    refine lv_l2i hx hb dX20_type_62 rfl ?_
    refine lv_topi (fun xx exx => ?_)
    refine lv_i2b hx hb dX20_type_63 rfl ?_
    refine lv_topi (fun xb exb => ?_)
    refine va_bast (i := nI L) (x := xb) hx hb hK hP hD hS 2 0 rfl rfl (vp_in_nI (by omega) (by decide)) dX20_type_64 (fun H locs hP hD hS => ?_)
    have eb : vp_nar .byte xb = ty_byte y j := by rw [vp_nar_byte, exb, exx, eyy, Int8.toInt8_toInt32]; exact ty_shift y j (by omega)
    rw [nI_clamp (n := L) (by omega), eb] at hP hD
    have hP : va_P (dC, dI) vwCl [(h0, .inr (21, [.ref q5, .ref q16, .ref q27, .ref q42, .ref q53, .ref q68, .ref q83, .ref q110, .int z69, .ref q143, .int z70, .int z71, .ref q152, .ref q160, .int z72, .ref q168, .int z73, .ref q177, .ref q186, .ref q195, .int z74, .ref q204, .ref q213, .int z75, .int z76, .ref q222, .int z77, .ref q231, .ref q240, .int z78])), (q27, .inr (15, [.ref q5, .ref u35_q8, .int (nI L), .int z93, .int z94, .int z95, .int z96, .int z97, .int z98, .int z99, .int z100, .long w101, .int z102, .int z103])), (u35_q8, .inl (u35_cA8, 4000, .inl (upd f L (ty_byte y j))))] H := hP
    have hD : va_D A [(h0, .inr (21, [.ref q5, .ref q16, .ref q27, .ref q42, .ref q53, .ref q68, .ref q83, .ref q110, .int z69, .ref q143, .int z70, .int z71, .ref q152, .ref q160, .int z72, .ref q168, .int z73, .ref q177, .ref q186, .ref q195, .int z74, .ref q204, .ref q213, .int z75, .int z76, .ref q222, .int z77, .ref q231, .ref q240, .int z78])), (q27, .inr (15, [.ref q5, .ref u35_q8, .int (nI L), .int z93, .int z94, .int z95, .int z96, .int z97, .int z98, .int z99, .int z100, .long w101, .int z102, .int z103])), (u35_q8, .inl (u35_cA8, 4000, .inl (upd f L (ty_byte y j))))] := hD
    refine lv_aload_n hx hb dX20_type_65 rfl (lv_at hl 3 rfl) ?_
    refine va_get (D := (dC, dI)) (ci := 21) (v := .ref q27) (C := RX20) (T := TX20) (N := 30) hx hb hts in_e_X20_type_RX20 hown hK hP 0 rfl rfl 2 (by decide) (hts (.fieldLink RX20 28 "TripleStoreModel" "lexer" "LTripleStoreModel$Lexer;") (List.mem_of_getElem? (i := 1) rfl)) (fun _ h9 => h9) rfl dX20_type_66 ?_
    refine lv_dup hx hb dX20_type_69 rfl ?_
    refine va_getN (D := (dC, dI)) (ci := 15) (v := .int (nI L)) (C := RX14) (T := TX14) (N := 14) hx hb hts in_e_X20_type_RX14 hown hK hP 1 rfl rfl 2 (by decide) (va_Nw.use rfl hZ1) (fun _ h9 => h9) rfl dX20_type_70 ?_
    refine lv_iconst (v := 1) hx hb dX20_type_73 (by decide) ?_
    refine lv_iadd hx hb dX20_type_74 ?_
    refine va_putN (D := (dC, dI)) (ci := 15) (v := .int ((nI L) + 1)) (ty := .int) (C := RX14) (T := TX14) (N := 14) hx hb hts in_e_X20_type_RX14 tyX14 tyX14_ok nmX14 hown hK hP hD hS 1 rfl rfl 2 (by decide) (va_Nw.use rfl hZ1) (fun _ h9 => h9) rfl (by decide +kernel) rfl rfl (Nat.le_of_ble_eq_true rfl) dX20_type_75 (fun H locs hP hD hS => ?_)
    have hP : va_P (dC, dI) vwCl [(h0, .inr (21, [.ref q5, .ref q16, .ref q27, .ref q42, .ref q53, .ref q68, .ref q83, .ref q110, .int z69, .ref q143, .int z70, .int z71, .ref q152, .ref q160, .int z72, .ref q168, .int z73, .ref q177, .ref q186, .ref q195, .int z74, .ref q204, .ref q213, .int z75, .int z76, .ref q222, .int z77, .ref q231, .ref q240, .int z78])), (q27, .inr (15, [.ref q5, .ref u35_q8, .int ((nI L) + 1), .int z93, .int z94, .int z95, .int z96, .int z97, .int z98, .int z99, .int z100, .long w101, .int z102, .int z103])), (u35_q8, .inl (u35_cA8, 4000, .inl (upd f L (ty_byte y j))))] H := hP
    have hD : va_D A [(h0, .inr (21, [.ref q5, .ref q16, .ref q27, .ref q42, .ref q53, .ref q68, .ref q83, .ref q110, .int z69, .ref q143, .int z70, .int z71, .ref q152, .ref q160, .int z72, .ref q168, .int z73, .ref q177, .ref q186, .ref q195, .int z74, .ref q204, .ref q213, .int z75, .int z76, .ref q222, .int z77, .ref q231, .ref q240, .int z78])), (q27, .inr (15, [.ref q5, .ref u35_q8, .int ((nI L) + 1), .int z93, .int z94, .int z95, .int z96, .int z97, .int z98, .int z99, .int z100, .long w101, .int z102, .int z103])), (u35_q8, .inl (u35_cA8, 4000, .inl (upd f L (ty_byte y j))))] := hD
    refine lv_iinc (v := ((ty_iv (j + 1)) + -1)) (lv' := [(4, .int ((ty_iv (j + 1)) + -1)), (3, .int x0), (1, .long y), (0, .ref h0)]) hx hb dX20_type_78 hl (k := 0) rfl (congrArg (fun z => (ty_iv (j + 1)) + z) (by decide : Int32.ofInt (-1) = -1)) (by decide) rfl (fun ls hl => ?_)
    refine lv_goto (tgt := 36) hx hb dX20_type_81 (by decide) ?_
    rw [nI_1] at hP hD
    exact ih (L + 1) (by omega) (by omega) _ hG H locs hP hD hS ls (by rw [← ty_iv_down]; exact (lv_sub hl [3, 2, 1, 0] rfl))
set_option maxHeartbeats 4000000 in
set_option maxRecDepth 100000 in
/-- type() in any state -/
theorem e_X20_type (l : Launch) (dC : Nat → ClassId) (dI : Nat → Nat → Nat) (h0 : Nat) (q5 : Nat) (q16 : Nat) (q27 : Nat) (q42 : Nat) (q53 : Nat) (q68 : Nat) (q83 : Nat) (q110 : Nat) (q143 : Nat) (q152 : Nat) (q160 : Nat) (q168 : Nat) (q177 : Nat) (q186 : Nat) (q195 : Nat) (q204 : Nat) (q213 : Nat) (q222 : Nat) (q231 : Nat) (q240 : Nat) (u35_q8 : Nat) (u35_cA8 : ClassId) (z69 : Int32) (z70 : Int32) (z71 : Int32) (z72 : Int32) (z73 : Int32) (z74 : Int32) (z75 : Int32) (z76 : Int32) (z77 : Int32) (z78 : Int32) (z93 : Int32) (z94 : Int32) (z95 : Int32) (z96 : Int32) (z97 : Int32) (z98 : Int32) (z99 : Int32) (z100 : Int32) (w101 : Int64) (z102 : Int32) (z103 : Int32) (y : Int64) (x0 : Int32) (L : Nat) (hL : L ≤ 4000) (f : Nat → Int32) (sz : Nat) : Met l yX20_type fw_e_X20_type ({ frames := 1, cells := 0, slots := 0, locals := 20 }) (va_Pc [.ref h0, .long y, .int x0] (fun U => U.heap.size = sz ∧ va_P (dC, dI) vwCl [(h0, .inr (21, [.ref q5, .ref q16, .ref q27, .ref q42, .ref q53, .ref q68, .ref q83, .ref q110, .int z69, .ref q143, .int z70, .int z71, .ref q152, .ref q160, .int z72, .ref q168, .int z73, .ref q177, .ref q186, .ref q195, .int z74, .ref q204, .ref q213, .int z75, .int z76, .ref q222, .int z77, .ref q231, .ref q240, .int z78])), (q27, .inr (15, [.ref q5, .ref u35_q8, .int (nI L), .int z93, .int z94, .int z95, .int z96, .int z97, .int z98, .int z99, .int z100, .long w101, .int z102, .int z103])), (u35_q8, .inl (u35_cA8, 4000, .inl f))] U.heap ∧ va_K (dC, dI) vwCl [(u35_cA8, .byte)] U ∧ va_D (fun _ => True) [(h0, .inr (21, [.ref q5, .ref q16, .ref q27, .ref q42, .ref q53, .ref q68, .ref q83, .ref q110, .int z69, .ref q143, .int z70, .int z71, .ref q152, .ref q160, .int z72, .ref q168, .int z73, .ref q177, .ref q186, .ref q195, .int z74, .ref q204, .ref q213, .int z75, .int z76, .ref q222, .int z77, .ref q231, .ref q240, .int z78])), (q27, .inr (15, [.ref q5, .ref u35_q8, .int (nI L), .int z93, .int z94, .int z95, .int z96, .int z97, .int z98, .int z99, .int z100, .long w101, .int z102, .int z103])), (u35_q8, .inl (u35_cA8, 4000, .inl f))] ∧ va_Nw (.fieldLinkNest RX20 116 "TripleStoreModel$Lexer" "text" "[B" "TripleStoreModel") U ∧ va_Nw (.fieldLinkNest RX20 112 "TripleStoreModel$Lexer" "size" "I" "TripleStoreModel") U)) (va_Qi (fun (r : Int32) (_ : Unit) => r = ty_ans x0 L) (fun _ t => va_P (dC, dI) vwCl [(h0, .inr (21, [.ref q5, .ref q16, .ref q27, .ref q42, .ref q53, .ref q68, .ref q83, .ref q110, .int z69, .ref q143, .int z70, .int z71, .ref q152, .ref q160, .int z72, .ref q168, .int z73, .ref q177, .ref q186, .ref q195, .int z74, .ref q204, .ref q213, .int z75, .int z76, .ref q222, .int z77, .ref q231, .ref q240, .int z78])), (q27, .inr (15, [.ref q5, .ref u35_q8, .int (nI (ty_len x0 L)), .int z93, .int z94, .int z95, .int z96, .int z97, .int z98, .int z99, .int z100, .long w101, .int z102, .int z103])), (u35_q8, .inl (u35_cA8, 4000, .inl (ty_txt y x0 L f)))] t.heap ∧ va_K (dC, dI) vwCl [(u35_cA8, .byte)] t ∧ va_D (va_A [(h0, .inr (21, [.ref q5, .ref q16, .ref q27, .ref q42, .ref q53, .ref q68, .ref q83, .ref q110, .int z69, .ref q143, .int z70, .int z71, .ref q152, .ref q160, .int z72, .ref q168, .int z73, .ref q177, .ref q186, .ref q195, .int z74, .ref q204, .ref q213, .int z75, .int z76, .ref q222, .int z77, .ref q231, .ref q240, .int z78])), (q27, .inr (15, [.ref q5, .ref u35_q8, .int (nI L), .int z93, .int z94, .int z95, .int z96, .int z97, .int z98, .int z99, .int z100, .long w101, .int z102, .int z103])), (u35_q8, .inl (u35_cA8, 4000, .inl f))] sz) [(h0, .inr (21, [.ref q5, .ref q16, .ref q27, .ref q42, .ref q53, .ref q68, .ref q83, .ref q110, .int z69, .ref q143, .int z70, .int z71, .ref q152, .ref q160, .int z72, .ref q168, .int z73, .ref q177, .ref q186, .ref q195, .int z74, .ref q204, .ref q213, .int z75, .int z76, .ref q222, .int z77, .ref q231, .ref q240, .int z78])), (q27, .inr (15, [.ref q5, .ref u35_q8, .int (nI (ty_len x0 L)), .int z93, .int z94, .int z95, .int z96, .int z97, .int z98, .int z99, .int z100, .long w101, .int z102, .int z103])), (u35_q8, .inl (u35_cA8, 4000, .inl (ty_txt y x0 L f)))]) (va_A [(h0, .inr (21, [.ref q5, .ref q16, .ref q27, .ref q42, .ref q53, .ref q68, .ref q83, .ref q110, .int z69, .ref q143, .int z70, .int z71, .ref q152, .ref q160, .int z72, .ref q168, .int z73, .ref q177, .ref q186, .ref q195, .int z74, .ref q204, .ref q213, .int z75, .int z76, .ref q222, .int z77, .ref q231, .ref q240, .int z78])), (q27, .inr (15, [.ref q5, .ref u35_q8, .int (nI L), .int z93, .int z94, .int z95, .int z96, .int z97, .int z98, .int z99, .int z100, .long w101, .int z102, .int z103])), (u35_q8, .inl (u35_cA8, 4000, .inl f))] sz)) 0 0 (va_A [(h0, .inr (21, [.ref q5, .ref q16, .ref q27, .ref q42, .ref q53, .ref q68, .ref q83, .ref q110, .int z69, .ref q143, .int z70, .int z71, .ref q152, .ref q160, .int z72, .ref q168, .int z73, .ref q177, .ref q186, .ref q195, .int z74, .ref q204, .ref q213, .int z75, .int z76, .ref q222, .int z77, .ref q231, .ref q240, .int z78])), (q27, .inr (15, [.ref q5, .ref u35_q8, .int (nI L), .int z93, .int z94, .int z95, .int z96, .int z97, .int z98, .int z99, .int z100, .long w101, .int z102, .int z103])), (u35_q8, .inl (u35_cA8, 4000, .inl f))] sz) := by
  refine Met.ofW (cc := cX20_type) (maxL := 5) (ret := (some .int)) (by decide) rfl ?_
  intro p e s m args below meth c s₁ B hml hv
  obtain ⟨rfl, hsz, hP, hK, hD0, hZ0, hZ1⟩ := hv
  have hx := B.exec
  have hb := B.bytes
  have hr := B.returns
  have hts := atoms_spec (ws := fw_e_X20_type) B.pre
  have hown : s.vm.findClass RX20 = some m.cls := findClass_of_methodNamed B.named
  have hlocks := B.notSynchronized
  subst hsz
  have hD := hD0.self (sz := s.heap.size)
  generalize hAe : va_A [(h0, .inr (21, [.ref q5, .ref q16, .ref q27, .ref q42, .ref q53, .ref q68, .ref q83, .ref q110, .int z69, .ref q143, .int z70, .int z71, .ref q152, .ref q160, .int z72, .ref q168, .int z73, .ref q177, .ref q186, .ref q195, .int z74, .ref q204, .ref q213, .int z75, .int z76, .ref q222, .int z77, .ref q231, .ref q240, .int z78])), (q27, .inr (15, [.ref q5, .ref u35_q8, .int (nI L), .int z93, .int z94, .int z95, .int z96, .int z97, .int z98, .int z99, .int z100, .long w101, .int z102, .int z103])), (u35_q8, .inl (u35_cA8, 4000, .inl f))] s.heap.size = A at hD ⊢
  have hA : ∀ q : Nat, s.heap.size ≤ q → A q := fun q h => by rw [← hAe]; exact Or.inr h
  obtain ⟨H, hH⟩ : ∃ z, z = s.heap := ⟨_, rfl⟩
  rw [← hH] at hP
  have hS : va_S A s.heap H [] := by rw [hH]; exact va_S.rf
  have hP : va_P (dC, dI) vwCl [(h0, .inr (21, [.ref q5, .ref q16, .ref q27, .ref q42, .ref q53, .ref q68, .ref q83, .ref q110, .int z69, .ref q143, .int z70, .int z71, .ref q152, .ref q160, .int z72, .ref q168, .int z73, .ref q177, .ref q186, .ref q195, .int z74, .ref q204, .ref q213, .int z75, .int z76, .ref q222, .int z77, .ref q231, .ref q240, .int z78])), (q27, .inr (15, [.ref q5, .ref u35_q8, .int (nI L), .int z93, .int z94, .int z95, .int z96, .int z97, .int z98, .int z99, .int z100, .long w101, .int z102, .int z103])), (u35_q8, .inl (u35_cA8, 4000, .inl f))] H := hP
  have hl := lv_entry ([.ref h0, .long y, .int x0]) (n := 5) (Nat.le_of_ble_eq_true rfl)
  rw [lg_entry_eq]
  generalize (lg_sl ([.ref h0, .long y, .int x0]) ++ List.replicate (5 - (lg_sl ([.ref h0, .long y, .int x0])).length) Slot.unset).toArray = ls at hl ⊢
  have hl : lv_has ls 5 [(0, .ref h0), (1, .long y), (3, .int x0)] := hl
  rw [← hH]
  refine lv_iload_n hx hb dX20_type_0 rfl (lv_at hl 2 rfl) ?_
  refine lv_iconst (v := 1) hx hb dX20_type_1 (by decide) ?_
  refine lv_icmp_lt (tgt := 11) hx hb dX20_type_2 (by decide) (fun c_2 => ?_) (fun c_2 => ?_)
  · refine lv_iconst (v := (-1)) hx hb dX20_type_11 (by decide) ?_
    exact W.iret (v := (-1)) hx hb hr (fun t ht hW => ⟨⟨(-1), (), rfl, by unfold ty_ans; rw [if_pos c_2], by show va_P _ _ _ _ ∧ va_K _ _ _ _ ∧ va_D _ _; unfold ty_len ty_txt; rw [if_pos c_2, if_pos c_2]; rw [ht]; exact ⟨hP, va_K.moved hW.alike hK, hD⟩⟩, hS.F ht⟩) hS.2.2 dX20_type_12
  · refine lv_iload_n hx hb dX20_type_5 rfl (lv_at hl 2 rfl) ?_
    refine lv_bipush (v := 8) hx hb dX20_type_6 (by decide) ?_
    refine lv_icmp_le (tgt := 13) hx hb dX20_type_8 (by decide) (fun c_8 => ?_) (fun c_8 => ?_)
    · refine lv_aload_n hx hb dX20_type_13 rfl (lv_at hl 0 rfl) ?_
      refine va_get (D := (dC, dI)) (ci := 21) (v := .ref q27) (C := RX20) (T := TX20) (N := 30) hx hb hts in_e_X20_type_RX20 hown hK hP 0 rfl rfl 2 (by decide) (hts (.fieldLink RX20 28 "TripleStoreModel" "lexer" "LTripleStoreModel$Lexer;") (List.mem_of_getElem? (i := 1) rfl)) (fun _ h9 => h9) rfl dX20_type_14 ?_
      refine va_getN (D := (dC, dI)) (ci := 15) (v := .int (nI L)) (C := RX14) (T := TX14) (N := 14) hx hb hts in_e_X20_type_RX14 hown hK hP 1 rfl rfl 2 (by decide) (va_Nw.use rfl hZ1) (fun _ h9 => h9) rfl dX20_type_17 ?_
      refine lv_iload_n hx hb dX20_type_20 rfl (lv_at hl 2 rfl) ?_
      refine lv_iadd hx hb dX20_type_21 ?_
      refine lv_sipush (v := 4000) hx hb dX20_type_22 (by decide) ?_
      refine lv_icmp_le (tgt := 31) hx hb dX20_type_25 (by decide) (fun c_25 => ?_) (fun c_25 => ?_)
      · refine lv_iload_n hx hb dX20_type_31 rfl (lv_at hl 2 rfl) ?_
        refine lv_iconst (v := 1) hx hb dX20_type_32 (by decide) ?_
        refine lv_isub hx hb dX20_type_33 ?_
        refine lv_istore (lv' := [(4, .int (x0 - 1)), (0, .ref h0), (1, .long y), (3, .int x0)]) hx hb dX20_type_34 hl (by decide) rfl (fun ls hl => ?_)
        obtain ⟨k, hk8, rfl⟩ := ty_k c_2 c_8
        have hrm := ty_room hL hk8 c_25
        refine e_X20_type_loop (T := L + k) (G := ty_text y k f L) hrm hx hb hts hown hK hZ0 hZ1 (fun H locs hP hD hS ls hl => ?_) k L rfl hk8 f rfl H _ hP hD hS ls (by rw [← ty_first]; exact (lv_sub hl [1, 2, 3, 0] rfl))
        refine lv_aload_n hx hb dX20_type_84 rfl (lv_at hl 0 rfl) ?_
        refine va_get (D := (dC, dI)) (ci := 21) (v := .ref q27) (C := RX20) (T := TX20) (N := 30) hx hb hts in_e_X20_type_RX20 hown hK hP 0 rfl rfl 2 (by decide) (hts (.fieldLink RX20 28 "TripleStoreModel" "lexer" "LTripleStoreModel$Lexer;") (List.mem_of_getElem? (i := 1) rfl)) (fun _ h9 => h9) rfl dX20_type_85 ?_
        refine va_getN (D := (dC, dI)) (ci := 15) (v := .int (nI (L + k))) (C := RX14) (T := TX14) (N := 14) hx hb hts in_e_X20_type_RX14 hown hK hP 1 rfl rfl 2 (by decide) (va_Nw.use rfl hZ1) (fun _ h9 => h9) rfl dX20_type_88 ?_
        exact W.iret (v := nI (L + k)) hx hb hr (fun t ht hW => ⟨⟨nI (L + k), (), rfl, by unfold ty_ans; rw [if_neg c_2, if_pos c_8, if_pos c_25, nI_add], by show va_P _ _ _ _ ∧ va_K _ _ _ _ ∧ va_D _ _; unfold ty_len ty_txt; rw [if_neg c_2, if_neg c_2, if_pos c_8, if_pos c_8, if_pos c_25, if_pos c_25]; rw [nI_clamp (n := k) (by omega), ht]; exact ⟨hP, va_K.moved hW.alike hK, hD⟩⟩, hS.F ht⟩) hS.2.2 dX20_type_91
      · refine lv_bipush (v := (-2)) hx hb dX20_type_28 (by decide) ?_
        exact W.iret (v := (-2)) hx hb hr (fun t ht hW => ⟨⟨(-2), (), rfl, by unfold ty_ans; rw [if_neg c_2, if_pos c_8, if_neg c_25], by show va_P _ _ _ _ ∧ va_K _ _ _ _ ∧ va_D _ _; unfold ty_len ty_txt; rw [if_neg c_2, if_neg c_2, if_pos c_8, if_pos c_8, if_neg c_25, if_neg c_25]; rw [ht]; exact ⟨hP, va_K.moved hW.alike hK, hD⟩⟩, hS.F ht⟩) hS.2.2 dX20_type_30
    · refine lv_iconst (v := (-1)) hx hb dX20_type_11 (by decide) ?_
      exact W.iret (v := (-1)) hx hb hr (fun t ht hW => ⟨⟨(-1), (), rfl, by unfold ty_ans; rw [if_neg c_2, if_neg c_8], by show va_P _ _ _ _ ∧ va_K _ _ _ _ ∧ va_D _ _; unfold ty_len ty_txt; rw [if_neg c_2, if_neg c_2, if_neg c_8, if_neg c_8]; rw [ht]; exact ⟨hP, va_K.moved hW.alike hK, hD⟩⟩, hS.F ht⟩) hS.2.2 dX20_type_12
