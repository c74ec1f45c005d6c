def fw_f_X18_clear : List Cond := .code yX18_clear cX18_clear 1 none :: ([.fieldLink RX18 76 "TripleStoreModel$Terms" "brought" "I", .fieldLink RX18 84 "TripleStoreModel$Terms" "broughtBytes" "I", .fieldLink RX18 91 "TripleStoreModel$Terms" "made" "I", .fieldLink RX18 94 "TripleStoreModel$Terms" "madeBytes" "I", .fieldLink RX18 100 "TripleStoreModel$Terms" "ways" "I"] ++ wsX180)
theorem in_f_X18_clear_RX18 : ∀ w ∈ u_ws RX18 TX18 23, w ∈ fw_f_X18_clear := fun _ h => List.mem_cons_of_mem _ (List.mem_append_right _ h)
theorem gd_f_X18_clear : (fw_f_X18_clear).all goodWord = true := by decide +kernel
set_option maxHeartbeats 4000000 in
set_option maxRecDepth 100000 in
theorem f_X18_clear (l : Launch) (dC : Nat → ClassId) (dI : Nat → Nat → Nat) (a0 : Nat) (a1 : Nat) (a2 : Nat) (a3 : Nat) (a4 : Nat) (a5 : Nat) (a6 : Nat) (a7 : Nat) (a8 : Nat) (a9 : Nat) (a10 : Nat) (sz : Nat) : Met l yX18_clear fw_f_X18_clear ({ frames := 1, cells := 0, slots := 0, locals := 20 }) (va_Pc [.ref a0] (fun U => U.heap.size = sz ∧ va_P (dC, dI) vwCl [(a0, .inr (19, [.ref a1, .ref a2, .ref a3, .ref a4, .ref a5, .ref a6, .ref a7, .ref a8, .int 0, .int 0, .int 0, .int 0, .int 0, .int 0, .int 0, .int 0, .long 0, .int 0, .ref a9, .int 0, .int 0, .ref a10, .int 0]))] U.heap ∧ va_K (dC, dI) vwCl [] U ∧ va_D (fun _ => True) [(a0, .inr (19, [.ref a1, .ref a2, .ref a3, .ref a4, .ref a5, .ref a6, .ref a7, .ref a8, .int 0, .int 0, .int 0, .int 0, .int 0, .int 0, .int 0, .int 0, .long 0, .int 0, .ref a9, .int 0, .int 0, .ref a10, .int 0]))])) (va_Qv (fun _ : Unit => True) (fun _ t => va_P (dC, dI) vwCl [(a0, .inr (19, [.ref a1, .ref a2, .ref a3, .ref a4, .ref a5, .ref a6, .ref a7, .ref a8, .int 0, .int 0, .int 0, .int 0, .int 0, .int 0, .int 0, .int 0, .long 0, .int 0, .ref a9, .int 0, .int 0, .ref a10, .int 0]))] t.heap ∧ va_K (dC, dI) vwCl [] t ∧ va_D (va_A [(a0, .inr (19, [.ref a1, .ref a2, .ref a3, .ref a4, .ref a5, .ref a6, .ref a7, .ref a8, .int 0, .int 0, .int 0, .int 0, .int 0, .int 0, .int 0, .int 0, .long 0, .int 0, .ref a9, .int 0, .int 0, .ref a10, .int 0]))] sz) [(a0, .inr (19, [.ref a1, .ref a2, .ref a3, .ref a4, .ref a5, .ref a6, .ref a7, .ref a8, .int 0, .int 0, .int 0, .int 0, .int 0, .int 0, .int 0, .int 0, .long 0, .int 0, .ref a9, .int 0, .int 0, .ref a10, .int 0]))]) (va_A [(a0, .inr (19, [.ref a1, .ref a2, .ref a3, .ref a4, .ref a5, .ref a6, .ref a7, .ref a8, .int 0, .int 0, .int 0, .int 0, .int 0, .int 0, .int 0, .int 0, .long 0, .int 0, .ref a9, .int 0, .int 0, .ref a10, .int 0]))] sz)) 0 0 (va_A [(a0, .inr (19, [.ref a1, .ref a2, .ref a3, .ref a4, .ref a5, .ref a6, .ref a7, .ref a8, .int 0, .int 0, .int 0, .int 0, .int 0, .int 0, .int 0, .int 0, .long 0, .int 0, .ref a9, .int 0, .int 0, .ref a10, .int 0]))] sz) := by
  refine Met.ofW (cc := cX18_clear) (maxL := 1) (ret := none) (by decide) rfl ?_
  intro p e s m args below meth c s₁ B hml hv
  obtain ⟨rfl, hsz, hP, hK, hD0⟩ := hv
  have hx := B.exec
  have hb := B.bytes
  have hr := B.returns
  have hts := atoms_spec (ws := fw_f_X18_clear) B.pre
  have hown : s.vm.findClass RX18 = some m.cls := findClass_of_methodNamed B.named
  have hlocks := B.notSynchronized
  subst hsz
  have hD := hD0.self (sz := s.heap.size)
  generalize hAe : va_A [(a0, .inr (19, [.ref a1, .ref a2, .ref a3, .ref a4, .ref a5, .ref a6, .ref a7, .ref a8, .int 0, .int 0, .int 0, .int 0, .int 0, .int 0, .int 0, .int 0, .long 0, .int 0, .ref a9, .int 0, .int 0, .ref a10, .int 0]))] s.heap.size = A at hD ⊢
  have hA : ∀ q : Nat, s.heap.size ≤ q → A q := fun q h => by rw [← hAe]; exact Or.inr h
  obtain ⟨H, hH⟩ : ∃ z, z = s.heap := ⟨_, rfl⟩
  rw [← hH] at hP
  have hS : va_S A s.heap H [] := by rw [hH]; exact va_S.rf
  have hP : va_P (dC, dI) vwCl [(a0, .inr (19, [.ref a1, .ref a2, .ref a3, .ref a4, .ref a5, .ref a6, .ref a7, .ref a8, .int 0, .int 0, .int 0, .int 0, .int 0, .int 0, .int 0, .int 0, .long 0, .int 0, .ref a9, .int 0, .int 0, .ref a10, .int 0]))] H := hP
  have hl := lv_entry ([.ref a0]) (n := 1) (Nat.le_of_ble_eq_true rfl)
  rw [lg_entry_eq]
  generalize (lg_sl ([.ref a0]) ++ List.replicate (1 - (lg_sl ([.ref a0])).length) Slot.unset).toArray = ls at hl ⊢
  have hl : lv_has ls 1 [(0, .ref a0)] := hl
  rw [← hH]
  refine lv_aload_n hx hb dX18_clear_0 rfl (lv_at hl 0 rfl) ?_
  refine lv_iconst (v := 0) hx hb dX18_clear_1 (by decide) ?_
  refine va_put (D := (dC, dI)) (ci := 19) (v := .int 0) (ty := .int) (C := RX18) (T := TX18) (N := 23) hx hb hts in_f_X18_clear_RX18 tyX18 tyX18_ok nmX18 hown hK hP hD hS 0 rfl rfl 10 (by decide) (hts (.fieldLink RX18 76 "TripleStoreModel$Terms" "brought" "I") (List.mem_of_getElem? (i := 1) rfl)) (fun _ h9 => h9) rfl (by decide +kernel) rfl rfl (Nat.le_of_ble_eq_true rfl) dX18_clear_2 (fun H locs hP hD hS => ?_)
  have hP : va_P (dC, dI) vwCl [(a0, .inr (19, [.ref a1, .ref a2, .ref a3, .ref a4, .ref a5, .ref a6, .ref a7, .ref a8, .int 0, .int 0, .int 0, .int 0, .int 0, .int 0, .int 0, .int 0, .long 0, .int 0, .ref a9, .int 0, .int 0, .ref a10, .int 0]))] H := hP
  have hD : va_D A [(a0, .inr (19, [.ref a1, .ref a2, .ref a3, .ref a4, .ref a5, .ref a6, .ref a7, .ref a8, .int 0, .int 0, .int 0, .int 0, .int 0, .int 0, .int 0, .int 0, .long 0, .int 0, .ref a9, .int 0, .int 0, .ref a10, .int 0]))] := hD
  refine lv_aload_n hx hb dX18_clear_5 rfl (lv_at hl 0 rfl) ?_
  refine lv_iconst (v := 0) hx hb dX18_clear_6 (by decide) ?_
  refine va_put (D := (dC, dI)) (ci := 19) (v := .int 0) (ty := .int) (C := RX18) (T := TX18) (N := 23) hx hb hts in_f_X18_clear_RX18 tyX18 tyX18_ok nmX18 hown hK hP hD hS 0 rfl rfl 11 (by decide) (hts (.fieldLink RX18 84 "TripleStoreModel$Terms" "broughtBytes" "I") (List.mem_of_getElem? (i := 2) rfl)) (fun _ h9 => h9) rfl (by decide +kernel) rfl rfl (Nat.le_of_ble_eq_true rfl) dX18_clear_7 (fun H locs hP hD hS => ?_)
  have hP : va_P (dC, dI) vwCl [(a0, .inr (19, [.ref a1, .ref a2, .ref a3, .ref a4, .ref a5, .ref a6, .ref a7, .ref a8, .int 0, .int 0, .int 0, .int 0, .int 0, .int 0, .int 0, .int 0, .long 0, .int 0, .ref a9, .int 0, .int 0, .ref a10, .int 0]))] H := hP
  have hD : va_D A [(a0, .inr (19, [.ref a1, .ref a2, .ref a3, .ref a4, .ref a5, .ref a6, .ref a7, .ref a8, .int 0, .int 0, .int 0, .int 0, .int 0, .int 0, .int 0, .int 0, .long 0, .int 0, .ref a9, .int 0, .int 0, .ref a10, .int 0]))] := hD
  refine lv_aload_n hx hb dX18_clear_10 rfl (lv_at hl 0 rfl) ?_
  refine lv_iconst (v := 0) hx hb dX18_clear_11 (by decide) ?_
  refine va_put (D := (dC, dI)) (ci := 19) (v := .int 0) (ty := .int) (C := RX18) (T := TX18) (N := 23) hx hb hts in_f_X18_clear_RX18 tyX18 tyX18_ok nmX18 hown hK hP hD hS 0 rfl rfl 12 (by decide) (hts (.fieldLink RX18 91 "TripleStoreModel$Terms" "made" "I") (List.mem_of_getElem? (i := 3) rfl)) (fun _ h9 => h9) rfl (by decide +kernel) rfl rfl (Nat.le_of_ble_eq_true rfl) dX18_clear_12 (fun H locs hP hD hS => ?_)
  have hP : va_P (dC, dI) vwCl [(a0, .inr (19, [.ref a1, .ref a2, .ref a3, .ref a4, .ref a5, .ref a6, .ref a7, .ref a8, .int 0, .int 0, .int 0, .int 0, .int 0, .int 0, .int 0, .int 0, .long 0, .int 0, .ref a9, .int 0, .int 0, .ref a10, .int 0]))] H := hP
  have hD : va_D A [(a0, .inr (19, [.ref a1, .ref a2, .ref a3, .ref a4, .ref a5, .ref a6, .ref a7, .ref a8, .int 0, .int 0, .int 0, .int 0, .int 0, .int 0, .int 0, .int 0, .long 0, .int 0, .ref a9, .int 0, .int 0, .ref a10, .int 0]))] := hD
  refine lv_aload_n hx hb dX18_clear_15 rfl (lv_at hl 0 rfl) ?_
  refine lv_iconst (v := 0) hx hb dX18_clear_16 (by decide) ?_
  refine va_put (D := (dC, dI)) (ci := 19) (v := .int 0) (ty := .int) (C := RX18) (T := TX18) (N := 23) hx hb hts in_f_X18_clear_RX18 tyX18 tyX18_ok nmX18 hown hK hP hD hS 0 rfl rfl 13 (by decide) (hts (.fieldLink RX18 94 "TripleStoreModel$Terms" "madeBytes" "I") (List.mem_of_getElem? (i := 4) rfl)) (fun _ h9 => h9) rfl (by decide +kernel) rfl rfl (Nat.le_of_ble_eq_true rfl) dX18_clear_17 (fun H locs hP hD hS => ?_)
  have hP : va_P (dC, dI) vwCl [(a0, .inr (19, [.ref a1, .ref a2, .ref a3, .ref a4, .ref a5, .ref a6, .ref a7, .ref a8, .int 0, .int 0, .int 0, .int 0, .int 0, .int 0, .int 0, .int 0, .long 0, .int 0, .ref a9, .int 0, .int 0, .ref a10, .int 0]))] H := hP
  have hD : va_D A [(a0, .inr (19, [.ref a1, .ref a2, .ref a3, .ref a4, .ref a5, .ref a6, .ref a7, .ref a8, .int 0, .int 0, .int 0, .int 0, .int 0, .int 0, .int 0, .int 0, .long 0, .int 0, .ref a9, .int 0, .int 0, .ref a10, .int 0]))] := hD
  refine lv_aload_n hx hb dX18_clear_20 rfl (lv_at hl 0 rfl) ?_
  refine lv_iconst (v := 0) hx hb dX18_clear_21 (by decide) ?_
  refine va_put (D := (dC, dI)) (ci := 19) (v := .int 0) (ty := .int) (C := RX18) (T := TX18) (N := 23) hx hb hts in_f_X18_clear_RX18 tyX18 tyX18_ok nmX18 hown hK hP hD hS 0 rfl rfl 14 (by decide) (hts (.fieldLink RX18 100 "TripleStoreModel$Terms" "ways" "I") (List.mem_of_getElem? (i := 5) rfl)) (fun _ h9 => h9) rfl (by decide +kernel) rfl rfl (Nat.le_of_ble_eq_true rfl) dX18_clear_22 (fun H locs hP hD hS => ?_)
  have hP : va_P (dC, dI) vwCl [(a0, .inr (19, [.ref a1, .ref a2, .ref a3, .ref a4, .ref a5, .ref a6, .ref a7, .ref a8, .int 0, .int 0, .int 0, .int 0, .int 0, .int 0, .int 0, .int 0, .long 0, .int 0, .ref a9, .int 0, .int 0, .ref a10, .int 0]))] H := hP
  have hD : va_D A [(a0, .inr (19, [.ref a1, .ref a2, .ref a3, .ref a4, .ref a5, .ref a6, .ref a7, .ref a8, .int 0, .int 0, .int 0, .int 0, .int 0, .int 0, .int 0, .int 0, .long 0, .int 0, .ref a9, .int 0, .int 0, .ref a10, .int 0]))] := hD
  exact W.vret hx hb hr (fun t ht hW => ⟨⟨(), rfl, trivial, by rw [ht]; exact hP, va_K.moved hW.alike hK, hD⟩, hS.F ht⟩) hS.2.2 dX18_clear_25
def fw_f_X19_clear : List Cond := .code yX19_clear cX19_clear 1 none :: ([.fieldLink RX19 146 "TripleStoreModel$Tree" "variables" "I", .fieldLink RX19 150 "TripleStoreModel$Tree" "nodes" "I", .fieldLink RX19 153 "TripleStoreModel$Tree" "groups" "I", .fieldLink RX19 156 "TripleStoreModel$Tree" "parts" "I", .fieldLink RX19 159 "TripleStoreModel$Tree" "blocks" "I", .fieldLink RX19 162 "TripleStoreModel$Tree" "lineCount" "I", .fieldLink RX19 165 "TripleStoreModel$Tree" "valueSets" "I", .fieldLink RX19 168 "TripleStoreModel$Tree" "valueVarCount" "I", .fieldLink RX19 171 "TripleStoreModel$Tree" "givenCount" "I", .fieldLink RX19 174 "TripleStoreModel$Tree" "columnCount" "I", .fieldLink RX19 177 "TripleStoreModel$Tree" "selects" "I"] ++ wsX190)
theorem in_f_X19_clear_RX19 : ∀ w ∈ u_ws RX19 TX19 56, w ∈ fw_f_X19_clear := fun _ h => List.mem_cons_of_mem _ (List.mem_append_right _ h)
theorem gd_f_X19_clear : (fw_f_X19_clear).all goodWord = true := by decide +kernel
set_option maxHeartbeats 4000000 in
set_option maxRecDepth 100000 in
theorem f_X19_clear (l : Launch) (dC : Nat → ClassId) (dI : Nat → Nat → Nat) (a0 : Nat) (a1 : Nat) (a2 : Nat) (a3 : Nat) (a4 : Nat) (a5 : Nat) (a6 : Nat) (a7 : Nat) (a8 : Nat) (a9 : Nat) (a10 : Nat) (a11 : Nat) (a12 : Nat) (a13 : Nat) (a14 : Nat) (a15 : Nat) (a16 : Nat) (a17 : Nat) (a18 : Nat) (a19 : Nat) (a20 : Nat) (a21 : Nat) (a22 : Nat) (a23 : Nat) (a24 : Nat) (a25 : Nat) (a26 : Nat) (a27 : Nat) (a28 : Nat) (a29 : Nat) (a30 : Nat) (a31 : Nat) (a32 : Nat) (a33 : Nat) (a34 : Nat) (a35 : Nat) (a36 : Nat) (a37 : Nat) (a38 : Nat) (a39 : Nat) (a40 : Nat) (a41 : Nat) (a42 : Nat) (a43 : Nat) (a44 : Nat) (a45 : Nat) (sz : Nat) : Met l yX19_clear fw_f_X19_clear ({ frames := 1, cells := 0, slots := 0, locals := 20 }) (va_Pc [.ref a0] (fun U => U.heap.size = sz ∧ va_P (dC, dI) vwCl [(a0, .inr (20, [.ref a1, .ref a2, .int 0, .ref a3, .ref a4, .ref a5, .ref a6, .ref a7, .int 0, .ref a8, .ref a9, .ref a10, .int 0, .ref a11, .ref a12, .ref a13, .ref a14, .int 0, .ref a15, .ref a16, .int 0, .ref a17, .ref a18, .int 0, .ref a19, .ref a20, .ref a21, .ref a22, .ref a23, .ref a24, .int 0, .int 0, .int 0, .ref a25, .ref a26, .ref a27, .ref a28, .ref a29, .ref a30, .ref a31, .ref a32, .ref a33, .ref a34, .ref a35, .ref a36, .ref a37, .ref a38, .ref a39, .ref a40, .int 0, .int 0, .ref a41, .ref a42, .ref a43, .ref a44, .ref a45]))] U.heap ∧ va_K (dC, dI) vwCl [] U ∧ va_D (fun _ => True) [(a0, .inr (20, [.ref a1, .ref a2, .int 0, .ref a3, .ref a4, .ref a5, .ref a6, .ref a7, .int 0, .ref a8, .ref a9, .ref a10, .int 0, .ref a11, .ref a12, .ref a13, .ref a14, .int 0, .ref a15, .ref a16, .int 0, .ref a17, .ref a18, .int 0, .ref a19, .ref a20, .ref a21, .ref a22, .ref a23, .ref a24, .int 0, .int 0, .int 0, .ref a25, .ref a26, .ref a27, .ref a28, .ref a29, .ref a30, .ref a31, .ref a32, .ref a33, .ref a34, .ref a35, .ref a36, .ref a37, .ref a38, .ref a39, .ref a40, .int 0, .int 0, .ref a41, .ref a42, .ref a43, .ref a44, .ref a45]))])) (va_Qv (fun _ : Unit => True) (fun _ t => va_P (dC, dI) vwCl [(a0, .inr (20, [.ref a1, .ref a2, .int 0, .ref a3, .ref a4, .ref a5, .ref a6, .ref a7, .int 0, .ref a8, .ref a9, .ref a10, .int 0, .ref a11, .ref a12, .ref a13, .ref a14, .int 0, .ref a15, .ref a16, .int 0, .ref a17, .ref a18, .int 0, .ref a19, .ref a20, .ref a21, .ref a22, .ref a23, .ref a24, .int 0, .int 0, .int 0, .ref a25, .ref a26, .ref a27, .ref a28, .ref a29, .ref a30, .ref a31, .ref a32, .ref a33, .ref a34, .ref a35, .ref a36, .ref a37, .ref a38, .ref a39, .ref a40, .int 0, .int 0, .ref a41, .ref a42, .ref a43, .ref a44, .ref a45]))] t.heap ∧ va_K (dC, dI) vwCl [] t ∧ va_D (va_A [(a0, .inr (20, [.ref a1, .ref a2, .int 0, .ref a3, .ref a4, .ref a5, .ref a6, .ref a7, .int 0, .ref a8, .ref a9, .ref a10, .int 0, .ref a11, .ref a12, .ref a13, .ref a14, .int 0, .ref a15, .ref a16, .int 0, .ref a17, .ref a18, .int 0, .ref a19, .ref a20, .ref a21, .ref a22, .ref a23, .ref a24, .int 0, .int 0, .int 0, .ref a25, .ref a26, .ref a27, .ref a28, .ref a29, .ref a30, .ref a31, .ref a32, .ref a33, .ref a34, .ref a35, .ref a36, .ref a37, .ref a38, .ref a39, .ref a40, .int 0, .int 0, .ref a41, .ref a42, .ref a43, .ref a44, .ref a45]))] sz) [(a0, .inr (20, [.ref a1, .ref a2, .int 0, .ref a3, .ref a4, .ref a5, .ref a6, .ref a7, .int 0, .ref a8, .ref a9, .ref a10, .int 0, .ref a11, .ref a12, .ref a13, .ref a14, .int 0, .ref a15, .ref a16, .int 0, .ref a17, .ref a18, .int 0, .ref a19, .ref a20, .ref a21, .ref a22, .ref a23, .ref a24, .int 0, .int 0, .int 0, .ref a25, .ref a26, .ref a27, .ref a28, .ref a29, .ref a30, .ref a31, .ref a32, .ref a33, .ref a34, .ref a35, .ref a36, .ref a37, .ref a38, .ref a39, .ref a40, .int 0, .int 0, .ref a41, .ref a42, .ref a43, .ref a44, .ref a45]))]) (va_A [(a0, .inr (20, [.ref a1, .ref a2, .int 0, .ref a3, .ref a4, .ref a5, .ref a6, .ref a7, .int 0, .ref a8, .ref a9, .ref a10, .int 0, .ref a11, .ref a12, .ref a13, .ref a14, .int 0, .ref a15, .ref a16, .int 0, .ref a17, .ref a18, .int 0, .ref a19, .ref a20, .ref a21, .ref a22, .ref a23, .ref a24, .int 0, .int 0, .int 0, .ref a25, .ref a26, .ref a27, .ref a28, .ref a29, .ref a30, .ref a31, .ref a32, .ref a33, .ref a34, .ref a35, .ref a36, .ref a37, .ref a38, .ref a39, .ref a40, .int 0, .int 0, .ref a41, .ref a42, .ref a43, .ref a44, .ref a45]))] sz)) 0 0 (va_A [(a0, .inr (20, [.ref a1, .ref a2, .int 0, .ref a3, .ref a4, .ref a5, .ref a6, .ref a7, .int 0, .ref a8, .ref a9, .ref a10, .int 0, .ref a11, .ref a12, .ref a13, .ref a14, .int 0, .ref a15, .ref a16, .int 0, .ref a17, .ref a18, .int 0, .ref a19, .ref a20, .ref a21, .ref a22, .ref a23, .ref a24, .int 0, .int 0, .int 0, .ref a25, .ref a26, .ref a27, .ref a28, .ref a29, .ref a30, .ref a31, .ref a32, .ref a33, .ref a34, .ref a35, .ref a36, .ref a37, .ref a38, .ref a39, .ref a40, .int 0, .int 0, .ref a41, .ref a42, .ref a43, .ref a44, .ref a45]))] sz) := by
  refine Met.ofW (cc := cX19_clear) (maxL := 1) (ret := none) (by decide) rfl ?_
  intro p e s m args below meth c s₁ B hml hv
  obtain ⟨rfl, hsz, hP, hK, hD0⟩ := hv
  have hx := B.exec
  have hb := B.bytes
  have hr := B.returns
  have hts := atoms_spec (ws := fw_f_X19_clear) B.pre
  have hown : s.vm.findClass RX19 = some m.cls := findClass_of_methodNamed B.named
  have hlocks := B.notSynchronized
  subst hsz
  have hD := hD0.self (sz := s.heap.size)
  generalize hAe : va_A [(a0, .inr (20, [.ref a1, .ref a2, .int 0, .ref a3, .ref a4, .ref a5, .ref a6, .ref a7, .int 0, .ref a8, .ref a9, .ref a10, .int 0, .ref a11, .ref a12, .ref a13, .ref a14, .int 0, .ref a15, .ref a16, .int 0, .ref a17, .ref a18, .int 0, .ref a19, .ref a20, .ref a21, .ref a22, .ref a23, .ref a24, .int 0, .int 0, .int 0, .ref a25, .ref a26, .ref a27, .ref a28, .ref a29, .ref a30, .ref a31, .ref a32, .ref a33, .ref a34, .ref a35, .ref a36, .ref a37, .ref a38, .ref a39, .ref a40, .int 0, .int 0, .ref a41, .ref a42, .ref a43, .ref a44, .ref a45]))] s.heap.size = A at hD ⊢
  have hA : ∀ q : Nat, s.heap.size ≤ q → A q := fun q h => by rw [← hAe]; exact Or.inr h
  obtain ⟨H, hH⟩ : ∃ z, z = s.heap := ⟨_, rfl⟩
  rw [← hH] at hP
  have hS : va_S A s.heap H [] := by rw [hH]; exact va_S.rf
  have hP : va_P (dC, dI) vwCl [(a0, .inr (20, [.ref a1, .ref a2, .int 0, .ref a3, .ref a4, .ref a5, .ref a6, .ref a7, .int 0, .ref a8, .ref a9, .ref a10, .int 0, .ref a11, .ref a12, .ref a13, .ref a14, .int 0, .ref a15, .ref a16, .int 0, .ref a17, .ref a18, .int 0, .ref a19, .ref a20, .ref a21, .ref a22, .ref a23, .ref a24, .int 0, .int 0, .int 0, .ref a25, .ref a26, .ref a27, .ref a28, .ref a29, .ref a30, .ref a31, .ref a32, .ref a33, .ref a34, .ref a35, .ref a36, .ref a37, .ref a38, .ref a39, .ref a40, .int 0, .int 0, .ref a41, .ref a42, .ref a43, .ref a44, .ref a45]))] H := hP
  have hl := lv_entry ([.ref a0]) (n := 1) (Nat.le_of_ble_eq_true rfl)
  rw [lg_entry_eq]
  generalize (lg_sl ([.ref a0]) ++ List.replicate (1 - (lg_sl ([.ref a0])).length) Slot.unset).toArray = ls at hl ⊢
  have hl : lv_has ls 1 [(0, .ref a0)] := hl
  rw [← hH]
  refine lv_aload_n hx hb dX19_clear_0 rfl (lv_at hl 0 rfl) ?_
  refine lv_iconst (v := 0) hx hb dX19_clear_1 (by decide) ?_
  refine va_put (D := (dC, dI)) (ci := 20) (v := .int 0) (ty := .int) (C := RX19) (T := TX19) (N := 56) hx hb hts in_f_X19_clear_RX19 tyX19 tyX19_ok nmX19 hown hK hP hD hS 0 rfl rfl 2 (by decide) (hts (.fieldLink RX19 146 "TripleStoreModel$Tree" "variables" "I") (List.mem_of_getElem? (i := 1) rfl)) (fun _ h9 => h9) rfl (by decide +kernel) rfl rfl (Nat.le_of_ble_eq_true rfl) dX19_clear_2 (fun H locs hP hD hS => ?_)
  have hP : va_P (dC, dI) vwCl [(a0, .inr (20, [.ref a1, .ref a2, .int 0, .ref a3, .ref a4, .ref a5, .ref a6, .ref a7, .int 0, .ref a8, .ref a9, .ref a10, .int 0, .ref a11, .ref a12, .ref a13, .ref a14, .int 0, .ref a15, .ref a16, .int 0, .ref a17, .ref a18, .int 0, .ref a19, .ref a20, .ref a21, .ref a22, .ref a23, .ref a24, .int 0, .int 0, .int 0, .ref a25, .ref a26, .ref a27, .ref a28, .ref a29, .ref a30, .ref a31, .ref a32, .ref a33, .ref a34, .ref a35, .ref a36, .ref a37, .ref a38, .ref a39, .ref a40, .int 0, .int 0, .ref a41, .ref a42, .ref a43, .ref a44, .ref a45]))] H := hP
  have hD : va_D A [(a0, .inr (20, [.ref a1, .ref a2, .int 0, .ref a3, .ref a4, .ref a5, .ref a6, .ref a7, .int 0, .ref a8, .ref a9, .ref a10, .int 0, .ref a11, .ref a12, .ref a13, .ref a14, .int 0, .ref a15, .ref a16, .int 0, .ref a17, .ref a18, .int 0, .ref a19, .ref a20, .ref a21, .ref a22, .ref a23, .ref a24, .int 0, .int 0, .int 0, .ref a25, .ref a26, .ref a27, .ref a28, .ref a29, .ref a30, .ref a31, .ref a32, .ref a33, .ref a34, .ref a35, .ref a36, .ref a37, .ref a38, .ref a39, .ref a40, .int 0, .int 0, .ref a41, .ref a42, .ref a43, .ref a44, .ref a45]))] := hD
  refine lv_aload_n hx hb dX19_clear_5 rfl (lv_at hl 0 rfl) ?_
  refine lv_iconst (v := 0) hx hb dX19_clear_6 (by decide) ?_
  refine va_put (D := (dC, dI)) (ci := 20) (v := .int 0) (ty := .int) (C := RX19) (T := TX19) (N := 56) hx hb hts in_f_X19_clear_RX19 tyX19 tyX19_ok nmX19 hown hK hP hD hS 0 rfl rfl 8 (by decide) (hts (.fieldLink RX19 150 "TripleStoreModel$Tree" "nodes" "I") (List.mem_of_getElem? (i := 2) rfl)) (fun _ h9 => h9) rfl (by decide +kernel) rfl rfl (Nat.le_of_ble_eq_true rfl) dX19_clear_7 (fun H locs hP hD hS => ?_)
  have hP : va_P (dC, dI) vwCl [(a0, .inr (20, [.ref a1, .ref a2, .int 0, .ref a3, .ref a4, .ref a5, .ref a6, .ref a7, .int 0, .ref a8, .ref a9, .ref a10, .int 0, .ref a11, .ref a12, .ref a13, .ref a14, .int 0, .ref a15, .ref a16, .int 0, .ref a17, .ref a18, .int 0, .ref a19, .ref a20, .ref a21, .ref a22, .ref a23, .ref a24, .int 0, .int 0, .int 0, .ref a25, .ref a26, .ref a27, .ref a28, .ref a29, .ref a30, .ref a31, .ref a32, .ref a33, .ref a34, .ref a35, .ref a36, .ref a37, .ref a38, .ref a39, .ref a40, .int 0, .int 0, .ref a41, .ref a42, .ref a43, .ref a44, .ref a45]))] H := hP
  have hD : va_D A [(a0, .inr (20, [.ref a1, .ref a2, .int 0, .ref a3, .ref a4, .ref a5, .ref a6, .ref a7, .int 0, .ref a8, .ref a9, .ref a10, .int 0, .ref a11, .ref a12, .ref a13, .ref a14, .int 0, .ref a15, .ref a16, .int 0, .ref a17, .ref a18, .int 0, .ref a19, .ref a20, .ref a21, .ref a22, .ref a23, .ref a24, .int 0, .int 0, .int 0, .ref a25, .ref a26, .ref a27, .ref a28, .ref a29, .ref a30, .ref a31, .ref a32, .ref a33, .ref a34, .ref a35, .ref a36, .ref a37, .ref a38, .ref a39, .ref a40, .int 0, .int 0, .ref a41, .ref a42, .ref a43, .ref a44, .ref a45]))] := hD
  refine lv_aload_n hx hb dX19_clear_10 rfl (lv_at hl 0 rfl) ?_
  refine lv_iconst (v := 0) hx hb dX19_clear_11 (by decide) ?_
  refine va_put (D := (dC, dI)) (ci := 20) (v := .int 0) (ty := .int) (C := RX19) (T := TX19) (N := 56) hx hb hts in_f_X19_clear_RX19 tyX19 tyX19_ok nmX19 hown hK hP hD hS 0 rfl rfl 12 (by decide) (hts (.fieldLink RX19 153 "TripleStoreModel$Tree" "groups" "I") (List.mem_of_getElem? (i := 3) rfl)) (fun _ h9 => h9) rfl (by decide +kernel) rfl rfl (Nat.le_of_ble_eq_true rfl) dX19_clear_12 (fun H locs hP hD hS => ?_)
  have hP : va_P (dC, dI) vwCl [(a0, .inr (20, [.ref a1, .ref a2, .int 0, .ref a3, .ref a4, .ref a5, .ref a6, .ref a7, .int 0, .ref a8, .ref a9, .ref a10, .int 0, .ref a11, .ref a12, .ref a13, .ref a14, .int 0, .ref a15, .ref a16, .int 0, .ref a17, .ref a18, .int 0, .ref a19, .ref a20, .ref a21, .ref a22, .ref a23, .ref a24, .int 0, .int 0, .int 0, .ref a25, .ref a26, .ref a27, .ref a28, .ref a29, .ref a30, .ref a31, .ref a32, .ref a33, .ref a34, .ref a35, .ref a36, .ref a37, .ref a38, .ref a39, .ref a40, .int 0, .int 0, .ref a41, .ref a42, .ref a43, .ref a44, .ref a45]))] H := hP
  have hD : va_D A [(a0, .inr (20, [.ref a1, .ref a2, .int 0, .ref a3, .ref a4, .ref a5, .ref a6, .ref a7, .int 0, .ref a8, .ref a9, .ref a10, .int 0, .ref a11, .ref a12, .ref a13, .ref a14, .int 0, .ref a15, .ref a16, .int 0, .ref a17, .ref a18, .int 0, .ref a19, .ref a20, .ref a21, .ref a22, .ref a23, .ref a24, .int 0, .int 0, .int 0, .ref a25, .ref a26, .ref a27, .ref a28, .ref a29, .ref a30, .ref a31, .ref a32, .ref a33, .ref a34, .ref a35, .ref a36, .ref a37, .ref a38, .ref a39, .ref a40, .int 0, .int 0, .ref a41, .ref a42, .ref a43, .ref a44, .ref a45]))] := hD
  refine lv_aload_n hx hb dX19_clear_15 rfl (lv_at hl 0 rfl) ?_
  refine lv_iconst (v := 0) hx hb dX19_clear_16 (by decide) ?_
  refine va_put (D := (dC, dI)) (ci := 20) (v := .int 0) (ty := .int) (C := RX19) (T := TX19) (N := 56) hx hb hts in_f_X19_clear_RX19 tyX19 tyX19_ok nmX19 hown hK hP hD hS 0 rfl rfl 17 (by decide) (hts (.fieldLink RX19 156 "TripleStoreModel$Tree" "parts" "I") (List.mem_of_getElem? (i := 4) rfl)) (fun _ h9 => h9) rfl (by decide +kernel) rfl rfl (Nat.le_of_ble_eq_true rfl) dX19_clear_17 (fun H locs hP hD hS => ?_)
  have hP : va_P (dC, dI) vwCl [(a0, .inr (20, [.ref a1, .ref a2, .int 0, .ref a3, .ref a4, .ref a5, .ref a6, .ref a7, .int 0, .ref a8, .ref a9, .ref a10, .int 0, .ref a11, .ref a12, .ref a13, .ref a14, .int 0, .ref a15, .ref a16, .int 0, .ref a17, .ref a18, .int 0, .ref a19, .ref a20, .ref a21, .ref a22, .ref a23, .ref a24, .int 0, .int 0, .int 0, .ref a25, .ref a26, .ref a27, .ref a28, .ref a29, .ref a30, .ref a31, .ref a32, .ref a33, .ref a34, .ref a35, .ref a36, .ref a37, .ref a38, .ref a39, .ref a40, .int 0, .int 0, .ref a41, .ref a42, .ref a43, .ref a44, .ref a45]))] H := hP
  have hD : va_D A [(a0, .inr (20, [.ref a1, .ref a2, .int 0, .ref a3, .ref a4, .ref a5, .ref a6, .ref a7, .int 0, .ref a8, .ref a9, .ref a10, .int 0, .ref a11, .ref a12, .ref a13, .ref a14, .int 0, .ref a15, .ref a16, .int 0, .ref a17, .ref a18, .int 0, .ref a19, .ref a20, .ref a21, .ref a22, .ref a23, .ref a24, .int 0, .int 0, .int 0, .ref a25, .ref a26, .ref a27, .ref a28, .ref a29, .ref a30, .ref a31, .ref a32, .ref a33, .ref a34, .ref a35, .ref a36, .ref a37, .ref a38, .ref a39, .ref a40, .int 0, .int 0, .ref a41, .ref a42, .ref a43, .ref a44, .ref a45]))] := hD
  refine lv_aload_n hx hb dX19_clear_20 rfl (lv_at hl 0 rfl) ?_
  refine lv_iconst (v := 0) hx hb dX19_clear_21 (by decide) ?_
  refine va_put (D := (dC, dI)) (ci := 20) (v := .int 0) (ty := .int) (C := RX19) (T := TX19) (N := 56) hx hb hts in_f_X19_clear_RX19 tyX19 tyX19_ok nmX19 hown hK hP hD hS 0 rfl rfl 20 (by decide) (hts (.fieldLink RX19 159 "TripleStoreModel$Tree" "blocks" "I") (List.mem_of_getElem? (i := 5) rfl)) (fun _ h9 => h9) rfl (by decide +kernel) rfl rfl (Nat.le_of_ble_eq_true rfl) dX19_clear_22 (fun H locs hP hD hS => ?_)
  have hP : va_P (dC, dI) vwCl [(a0, .inr (20, [.ref a1, .ref a2, .int 0, .ref a3, .ref a4, .ref a5, .ref a6, .ref a7, .int 0, .ref a8, .ref a9, .ref a10, .int 0, .ref a11, .ref a12, .ref a13, .ref a14, .int 0, .ref a15, .ref a16, .int 0, .ref a17, .ref a18, .int 0, .ref a19, .ref a20, .ref a21, .ref a22, .ref a23, .ref a24, .int 0, .int 0, .int 0, .ref a25, .ref a26, .ref a27, .ref a28, .ref a29, .ref a30, .ref a31, .ref a32, .ref a33, .ref a34, .ref a35, .ref a36, .ref a37, .ref a38, .ref a39, .ref a40, .int 0, .int 0, .ref a41, .ref a42, .ref a43, .ref a44, .ref a45]))] H := hP
  have hD : va_D A [(a0, .inr (20, [.ref a1, .ref a2, .int 0, .ref a3, .ref a4, .ref a5, .ref a6, .ref a7, .int 0, .ref a8, .ref a9, .ref a10, .int 0, .ref a11, .ref a12, .ref a13, .ref a14, .int 0, .ref a15, .ref a16, .int 0, .ref a17, .ref a18, .int 0, .ref a19, .ref a20, .ref a21, .ref a22, .ref a23, .ref a24, .int 0, .int 0, .int 0, .ref a25, .ref a26, .ref a27, .ref a28, .ref a29, .ref a30, .ref a31, .ref a32, .ref a33, .ref a34, .ref a35, .ref a36, .ref a37, .ref a38, .ref a39, .ref a40, .int 0, .int 0, .ref a41, .ref a42, .ref a43, .ref a44, .ref a45]))] := hD
  refine lv_aload_n hx hb dX19_clear_25 rfl (lv_at hl 0 rfl) ?_
  refine lv_iconst (v := 0) hx hb dX19_clear_26 (by decide) ?_
  refine va_put (D := (dC, dI)) (ci := 20) (v := .int 0) (ty := .int) (C := RX19) (T := TX19) (N := 56) hx hb hts in_f_X19_clear_RX19 tyX19 tyX19_ok nmX19 hown hK hP hD hS 0 rfl rfl 23 (by decide) (hts (.fieldLink RX19 162 "TripleStoreModel$Tree" "lineCount" "I") (List.mem_of_getElem? (i := 6) rfl)) (fun _ h9 => h9) rfl (by decide +kernel) rfl rfl (Nat.le_of_ble_eq_true rfl) dX19_clear_27 (fun H locs hP hD hS => ?_)
  have hP : va_P (dC, dI) vwCl [(a0, .inr (20, [.ref a1, .ref a2, .int 0, .ref a3, .ref a4, .ref a5, .ref a6, .ref a7, .int 0, .ref a8, .ref a9, .ref a10, .int 0, .ref a11, .ref a12, .ref a13, .ref a14, .int 0, .ref a15, .ref a16, .int 0, .ref a17, .ref a18, .int 0, .ref a19, .ref a20, .ref a21, .ref a22, .ref a23, .ref a24, .int 0, .int 0, .int 0, .ref a25, .ref a26, .ref a27, .ref a28, .ref a29, .ref a30, .ref a31, .ref a32, .ref a33, .ref a34, .ref a35, .ref a36, .ref a37, .ref a38, .ref a39, .ref a40, .int 0, .int 0, .ref a41, .ref a42, .ref a43, .ref a44, .ref a45]))] H := hP
  have hD : va_D A [(a0, .inr (20, [.ref a1, .ref a2, .int 0, .ref a3, .ref a4, .ref a5, .ref a6, .ref a7, .int 0, .ref a8, .ref a9, .ref a10, .int 0, .ref a11, .ref a12, .ref a13, .ref a14, .int 0, .ref a15, .ref a16, .int 0, .ref a17, .ref a18, .int 0, .ref a19, .ref a20, .ref a21, .ref a22, .ref a23, .ref a24, .int 0, .int 0, .int 0, .ref a25, .ref a26, .ref a27, .ref a28, .ref a29, .ref a30, .ref a31, .ref a32, .ref a33, .ref a34, .ref a35, .ref a36, .ref a37, .ref a38, .ref a39, .ref a40, .int 0, .int 0, .ref a41, .ref a42, .ref a43, .ref a44, .ref a45]))] := hD
  refine lv_aload_n hx hb dX19_clear_30 rfl (lv_at hl 0 rfl) ?_
  refine lv_iconst (v := 0) hx hb dX19_clear_31 (by decide) ?_
  refine va_put (D := (dC, dI)) (ci := 20) (v := .int 0) (ty := .int) (C := RX19) (T := TX19) (N := 56) hx hb hts in_f_X19_clear_RX19 tyX19 tyX19_ok nmX19 hown hK hP hD hS 0 rfl rfl 30 (by decide) (hts (.fieldLink RX19 165 "TripleStoreModel$Tree" "valueSets" "I") (List.mem_of_getElem? (i := 7) rfl)) (fun _ h9 => h9) rfl (by decide +kernel) rfl rfl (Nat.le_of_ble_eq_true rfl) dX19_clear_32 (fun H locs hP hD hS => ?_)
  have hP : va_P (dC, dI) vwCl [(a0, .inr (20, [.ref a1, .ref a2, .int 0, .ref a3, .ref a4, .ref a5, .ref a6, .ref a7, .int 0, .ref a8, .ref a9, .ref a10, .int 0, .ref a11, .ref a12, .ref a13, .ref a14, .int 0, .ref a15, .ref a16, .int 0, .ref a17, .ref a18, .int 0, .ref a19, .ref a20, .ref a21, .ref a22, .ref a23, .ref a24, .int 0, .int 0, .int 0, .ref a25, .ref a26, .ref a27, .ref a28, .ref a29, .ref a30, .ref a31, .ref a32, .ref a33, .ref a34, .ref a35, .ref a36, .ref a37, .ref a38, .ref a39, .ref a40, .int 0, .int 0, .ref a41, .ref a42, .ref a43, .ref a44, .ref a45]))] H := hP
  have hD : va_D A [(a0, .inr (20, [.ref a1, .ref a2, .int 0, .ref a3, .ref a4, .ref a5, .ref a6, .ref a7, .int 0, .ref a8, .ref a9, .ref a10, .int 0, .ref a11, .ref a12, .ref a13, .ref a14, .int 0, .ref a15, .ref a16, .int 0, .ref a17, .ref a18, .int 0, .ref a19, .ref a20, .ref a21, .ref a22, .ref a23, .ref a24, .int 0, .int 0, .int 0, .ref a25, .ref a26, .ref a27, .ref a28, .ref a29, .ref a30, .ref a31, .ref a32, .ref a33, .ref a34, .ref a35, .ref a36, .ref a37, .ref a38, .ref a39, .ref a40, .int 0, .int 0, .ref a41, .ref a42, .ref a43, .ref a44, .ref a45]))] := hD
  refine lv_aload_n hx hb dX19_clear_35 rfl (lv_at hl 0 rfl) ?_
  refine lv_iconst (v := 0) hx hb dX19_clear_36 (by decide) ?_
  refine va_put (D := (dC, dI)) (ci := 20) (v := .int 0) (ty := .int) (C := RX19) (T := TX19) (N := 56) hx hb hts in_f_X19_clear_RX19 tyX19 tyX19_ok nmX19 hown hK hP hD hS 0 rfl rfl 31 (by decide) (hts (.fieldLink RX19 168 "TripleStoreModel$Tree" "valueVarCount" "I") (List.mem_of_getElem? (i := 8) rfl)) (fun _ h9 => h9) rfl (by decide +kernel) rfl rfl (Nat.le_of_ble_eq_true rfl) dX19_clear_37 (fun H locs hP hD hS => ?_)
  have hP : va_P (dC, dI) vwCl [(a0, .inr (20, [.ref a1, .ref a2, .int 0, .ref a3, .ref a4, .ref a5, .ref a6, .ref a7, .int 0, .ref a8, .ref a9, .ref a10, .int 0, .ref a11, .ref a12, .ref a13, .ref a14, .int 0, .ref a15, .ref a16, .int 0, .ref a17, .ref a18, .int 0, .ref a19, .ref a20, .ref a21, .ref a22, .ref a23, .ref a24, .int 0, .int 0, .int 0, .ref a25, .ref a26, .ref a27, .ref a28, .ref a29, .ref a30, .ref a31, .ref a32, .ref a33, .ref a34, .ref a35, .ref a36, .ref a37, .ref a38, .ref a39, .ref a40, .int 0, .int 0, .ref a41, .ref a42, .ref a43, .ref a44, .ref a45]))] H := hP
  have hD : va_D A [(a0, .inr (20, [.ref a1, .ref a2, .int 0, .ref a3, .ref a4, .ref a5, .ref a6, .ref a7, .int 0, .ref a8, .ref a9, .ref a10, .int 0, .ref a11, .ref a12, .ref a13, .ref a14, .int 0, .ref a15, .ref a16, .int 0, .ref a17, .ref a18, .int 0, .ref a19, .ref a20, .ref a21, .ref a22, .ref a23, .ref a24, .int 0, .int 0, .int 0, .ref a25, .ref a26, .ref a27, .ref a28, .ref a29, .ref a30, .ref a31, .ref a32, .ref a33, .ref a34, .ref a35, .ref a36, .ref a37, .ref a38, .ref a39, .ref a40, .int 0, .int 0, .ref a41, .ref a42, .ref a43, .ref a44, .ref a45]))] := hD
  refine lv_aload_n hx hb dX19_clear_40 rfl (lv_at hl 0 rfl) ?_
  refine lv_iconst (v := 0) hx hb dX19_clear_41 (by decide) ?_
  refine va_put (D := (dC, dI)) (ci := 20) (v := .int 0) (ty := .int) (C := RX19) (T := TX19) (N := 56) hx hb hts in_f_X19_clear_RX19 tyX19 tyX19_ok nmX19 hown hK hP hD hS 0 rfl rfl 32 (by decide) (hts (.fieldLink RX19 171 "TripleStoreModel$Tree" "givenCount" "I") (List.mem_of_getElem? (i := 9) rfl)) (fun _ h9 => h9) rfl (by decide +kernel) rfl rfl (Nat.le_of_ble_eq_true rfl) dX19_clear_42 (fun H locs hP hD hS => ?_)
  have hP : va_P (dC, dI) vwCl [(a0, .inr (20, [.ref a1, .ref a2, .int 0, .ref a3, .ref a4, .ref a5, .ref a6, .ref a7, .int 0, .ref a8, .ref a9, .ref a10, .int 0, .ref a11, .ref a12, .ref a13, .ref a14, .int 0, .ref a15, .ref a16, .int 0, .ref a17, .ref a18, .int 0, .ref a19, .ref a20, .ref a21, .ref a22, .ref a23, .ref a24, .int 0, .int 0, .int 0, .ref a25, .ref a26, .ref a27, .ref a28, .ref a29, .ref a30, .ref a31, .ref a32, .ref a33, .ref a34, .ref a35, .ref a36, .ref a37, .ref a38, .ref a39, .ref a40, .int 0, .int 0, .ref a41, .ref a42, .ref a43, .ref a44, .ref a45]))] H := hP
  have hD : va_D A [(a0, .inr (20, [.ref a1, .ref a2, .int 0, .ref a3, .ref a4, .ref a5, .ref a6, .ref a7, .int 0, .ref a8, .ref a9, .ref a10, .int 0, .ref a11, .ref a12, .ref a13, .ref a14, .int 0, .ref a15, .ref a16, .int 0, .ref a17, .ref a18, .int 0, .ref a19, .ref a20, .ref a21, .ref a22, .ref a23, .ref a24, .int 0, .int 0, .int 0, .ref a25, .ref a26, .ref a27, .ref a28, .ref a29, .ref a30, .ref a31, .ref a32, .ref a33, .ref a34, .ref a35, .ref a36, .ref a37, .ref a38, .ref a39, .ref a40, .int 0, .int 0, .ref a41, .ref a42, .ref a43, .ref a44, .ref a45]))] := hD
  refine lv_aload_n hx hb dX19_clear_45 rfl (lv_at hl 0 rfl) ?_
  refine lv_iconst (v := 0) hx hb dX19_clear_46 (by decide) ?_
  refine va_put (D := (dC, dI)) (ci := 20) (v := .int 0) (ty := .int) (C := RX19) (T := TX19) (N := 56) hx hb hts in_f_X19_clear_RX19 tyX19 tyX19_ok nmX19 hown hK hP hD hS 0 rfl rfl 49 (by decide) (hts (.fieldLink RX19 174 "TripleStoreModel$Tree" "columnCount" "I") (List.mem_of_getElem? (i := 10) rfl)) (fun _ h9 => h9) rfl (by decide +kernel) rfl rfl (Nat.le_of_ble_eq_true rfl) dX19_clear_47 (fun H locs hP hD hS => ?_)
  have hP : va_P (dC, dI) vwCl [(a0, .inr (20, [.ref a1, .ref a2, .int 0, .ref a3, .ref a4, .ref a5, .ref a6, .ref a7, .int 0, .ref a8, .ref a9, .ref a10, .int 0, .ref a11, .ref a12, .ref a13, .ref a14, .int 0, .ref a15, .ref a16, .int 0, .ref a17, .ref a18, .int 0, .ref a19, .ref a20, .ref a21, .ref a22, .ref a23, .ref a24, .int 0, .int 0, .int 0, .ref a25, .ref a26, .ref a27, .ref a28, .ref a29, .ref a30, .ref a31, .ref a32, .ref a33, .ref a34, .ref a35, .ref a36, .ref a37, .ref a38, .ref a39, .ref a40, .int 0, .int 0, .ref a41, .ref a42, .ref a43, .ref a44, .ref a45]))] H := hP
  have hD : va_D A [(a0, .inr (20, [.ref a1, .ref a2, .int 0, .ref a3, .ref a4, .ref a5, .ref a6, .ref a7, .int 0, .ref a8, .ref a9, .ref a10, .int 0, .ref a11, .ref a12, .ref a13, .ref a14, .int 0, .ref a15, .ref a16, .int 0, .ref a17, .ref a18, .int 0, .ref a19, .ref a20, .ref a21, .ref a22, .ref a23, .ref a24, .int 0, .int 0, .int 0, .ref a25, .ref a26, .ref a27, .ref a28, .ref a29, .ref a30, .ref a31, .ref a32, .ref a33, .ref a34, .ref a35, .ref a36, .ref a37, .ref a38, .ref a39, .ref a40, .int 0, .int 0, .ref a41, .ref a42, .ref a43, .ref a44, .ref a45]))] := hD
  refine lv_aload_n hx hb dX19_clear_50 rfl (lv_at hl 0 rfl) ?_
  refine lv_iconst (v := 0) hx hb dX19_clear_51 (by decide) ?_
  refine va_put (D := (dC, dI)) (ci := 20) (v := .int 0) (ty := .int) (C := RX19) (T := TX19) (N := 56) hx hb hts in_f_X19_clear_RX19 tyX19 tyX19_ok nmX19 hown hK hP hD hS 0 rfl rfl 50 (by decide) (hts (.fieldLink RX19 177 "TripleStoreModel$Tree" "selects" "I") (List.mem_of_getElem? (i := 11) rfl)) (fun _ h9 => h9) rfl (by decide +kernel) rfl rfl (Nat.le_of_ble_eq_true rfl) dX19_clear_52 (fun H locs hP hD hS => ?_)
  have hP : va_P (dC, dI) vwCl [(a0, .inr (20, [.ref a1, .ref a2, .int 0, .ref a3, .ref a4, .ref a5, .ref a6, .ref a7, .int 0, .ref a8, .ref a9, .ref a10, .int 0, .ref a11, .ref a12, .ref a13, .ref a14, .int 0, .ref a15, .ref a16, .int 0, .ref a17, .ref a18, .int 0, .ref a19, .ref a20, .ref a21, .ref a22, .ref a23, .ref a24, .int 0, .int 0, .int 0, .ref a25, .ref a26, .ref a27, .ref a28, .ref a29, .ref a30, .ref a31, .ref a32, .ref a33, .ref a34, .ref a35, .ref a36, .ref a37, .ref a38, .ref a39, .ref a40, .int 0, .int 0, .ref a41, .ref a42, .ref a43, .ref a44, .ref a45]))] H := hP
  have hD : va_D A [(a0, .inr (20, [.ref a1, .ref a2, .int 0, .ref a3, .ref a4, .ref a5, .ref a6, .ref a7, .int 0, .ref a8, .ref a9, .ref a10, .int 0, .ref a11, .ref a12, .ref a13, .ref a14, .int 0, .ref a15, .ref a16, .int 0, .ref a17, .ref a18, .int 0, .ref a19, .ref a20, .ref a21, .ref a22, .ref a23, .ref a24, .int 0, .int 0, .int 0, .ref a25, .ref a26, .ref a27, .ref a28, .ref a29, .ref a30, .ref a31, .ref a32, .ref a33, .ref a34, .ref a35, .ref a36, .ref a37, .ref a38, .ref a39, .ref a40, .int 0, .int 0, .ref a41, .ref a42, .ref a43, .ref a44, .ref a45]))] := hD
  exact W.vret hx hb hr (fun t ht hW => ⟨⟨(), rfl, trivial, by rw [ht]; exact hP, va_K.moved hW.alike hK, hD⟩, hS.F ht⟩) hS.2.2 dX19_clear_55
def fw_f_X15_clear : List Cond := .code yX15_clear cX15_clear 1 none :: ([.fieldLink RX15 31 "TripleStoreModel$Paths" "nodes" "I", .fieldLink RX15 35 "TripleStoreModel$Paths" "nameCount" "I"] ++ wsX150)
theorem in_f_X15_clear_RX15 : ∀ w ∈ u_ws RX15 TX15 10, w ∈ fw_f_X15_clear := fun _ h => List.mem_cons_of_mem _ (List.mem_append_right _ h)
theorem gd_f_X15_clear : (fw_f_X15_clear).all goodWord = true := by decide +kernel
set_option maxHeartbeats 4000000 in
set_option maxRecDepth 100000 in
theorem f_X15_clear (l : Launch) (dC : Nat → ClassId) (dI : Nat → Nat → Nat) (a0 : Nat) (a1 : Nat) (a2 : Nat) (a3 : Nat) (a4 : Nat) (a5 : Nat) (a6 : Nat) (sz : Nat) : Met l yX15_clear fw_f_X15_clear ({ frames := 1, cells := 0, slots := 0, locals := 20 }) (va_Pc [.ref a0] (fun U => U.heap.size = sz ∧ va_P (dC, dI) vwCl [(a0, .inr (16, [.ref a1, .ref a2, .ref a3, .ref a4, .int 0, .ref a5, .int 0, .ref a6, .int 0, .int 0]))] U.heap ∧ va_K (dC, dI) vwCl [] U ∧ va_D (fun _ => True) [(a0, .inr (16, [.ref a1, .ref a2, .ref a3, .ref a4, .int 0, .ref a5, .int 0, .ref a6, .int 0, .int 0]))])) (va_Qv (fun _ : Unit => True) (fun _ t => va_P (dC, dI) vwCl [(a0, .inr (16, [.ref a1, .ref a2, .ref a3, .ref a4, .int 0, .ref a5, .int 0, .ref a6, .int 0, .int 0]))] t.heap ∧ va_K (dC, dI) vwCl [] t ∧ va_D (va_A [(a0, .inr (16, [.ref a1, .ref a2, .ref a3, .ref a4, .int 0, .ref a5, .int 0, .ref a6, .int 0, .int 0]))] sz) [(a0, .inr (16, [.ref a1, .ref a2, .ref a3, .ref a4, .int 0, .ref a5, .int 0, .ref a6, .int 0, .int 0]))]) (va_A [(a0, .inr (16, [.ref a1, .ref a2, .ref a3, .ref a4, .int 0, .ref a5, .int 0, .ref a6, .int 0, .int 0]))] sz)) 0 0 (va_A [(a0, .inr (16, [.ref a1, .ref a2, .ref a3, .ref a4, .int 0, .ref a5, .int 0, .ref a6, .int 0, .int 0]))] sz) := by
  refine Met.ofW (cc := cX15_clear) (maxL := 1) (ret := none) (by decide) rfl ?_
  intro p e s m args below meth c s₁ B hml hv
  obtain ⟨rfl, hsz, hP, hK, hD0⟩ := hv
  have hx := B.exec
  have hb := B.bytes
  have hr := B.returns
  have hts := atoms_spec (ws := fw_f_X15_clear) B.pre
  have hown : s.vm.findClass RX15 = some m.cls := findClass_of_methodNamed B.named
  have hlocks := B.notSynchronized
  subst hsz
  have hD := hD0.self (sz := s.heap.size)
  generalize hAe : va_A [(a0, .inr (16, [.ref a1, .ref a2, .ref a3, .ref a4, .int 0, .ref a5, .int 0, .ref a6, .int 0, .int 0]))] s.heap.size = A at hD ⊢
  have hA : ∀ q : Nat, s.heap.size ≤ q → A q := fun q h => by rw [← hAe]; exact Or.inr h
  obtain ⟨H, hH⟩ : ∃ z, z = s.heap := ⟨_, rfl⟩
  rw [← hH] at hP
  have hS : va_S A s.heap H [] := by rw [hH]; exact va_S.rf
  have hP : va_P (dC, dI) vwCl [(a0, .inr (16, [.ref a1, .ref a2, .ref a3, .ref a4, .int 0, .ref a5, .int 0, .ref a6, .int 0, .int 0]))] H := hP
  have hl := lv_entry ([.ref a0]) (n := 1) (Nat.le_of_ble_eq_true rfl)
  rw [lg_entry_eq]
  generalize (lg_sl ([.ref a0]) ++ List.replicate (1 - (lg_sl ([.ref a0])).length) Slot.unset).toArray = ls at hl ⊢
  have hl : lv_has ls 1 [(0, .ref a0)] := hl
  rw [← hH]
  refine lv_aload_n hx hb dX15_clear_0 rfl (lv_at hl 0 rfl) ?_
  refine lv_iconst (v := 0) hx hb dX15_clear_1 (by decide) ?_
  refine va_put (D := (dC, dI)) (ci := 16) (v := .int 0) (ty := .int) (C := RX15) (T := TX15) (N := 10) hx hb hts in_f_X15_clear_RX15 tyX15 tyX15_ok nmX15 hown hK hP hD hS 0 rfl rfl 4 (by decide) (hts (.fieldLink RX15 31 "TripleStoreModel$Paths" "nodes" "I") (List.mem_of_getElem? (i := 1) rfl)) (fun _ h9 => h9) rfl (by decide +kernel) rfl rfl (Nat.le_of_ble_eq_true rfl) dX15_clear_2 (fun H locs hP hD hS => ?_)
  have hP : va_P (dC, dI) vwCl [(a0, .inr (16, [.ref a1, .ref a2, .ref a3, .ref a4, .int 0, .ref a5, .int 0, .ref a6, .int 0, .int 0]))] H := hP
  have hD : va_D A [(a0, .inr (16, [.ref a1, .ref a2, .ref a3, .ref a4, .int 0, .ref a5, .int 0, .ref a6, .int 0, .int 0]))] := hD
  refine lv_aload_n hx hb dX15_clear_5 rfl (lv_at hl 0 rfl) ?_
  refine lv_iconst (v := 0) hx hb dX15_clear_6 (by decide) ?_
  refine va_put (D := (dC, dI)) (ci := 16) (v := .int 0) (ty := .int) (C := RX15) (T := TX15) (N := 10) hx hb hts in_f_X15_clear_RX15 tyX15 tyX15_ok nmX15 hown hK hP hD hS 0 rfl rfl 6 (by decide) (hts (.fieldLink RX15 35 "TripleStoreModel$Paths" "nameCount" "I") (List.mem_of_getElem? (i := 2) rfl)) (fun _ h9 => h9) rfl (by decide +kernel) rfl rfl (Nat.le_of_ble_eq_true rfl) dX15_clear_7 (fun H locs hP hD hS => ?_)
  have hP : va_P (dC, dI) vwCl [(a0, .inr (16, [.ref a1, .ref a2, .ref a3, .ref a4, .int 0, .ref a5, .int 0, .ref a6, .int 0, .int 0]))] H := hP
  have hD : va_D A [(a0, .inr (16, [.ref a1, .ref a2, .ref a3, .ref a4, .int 0, .ref a5, .int 0, .ref a6, .int 0, .int 0]))] := hD
  exact W.vret hx hb hr (fun t ht hW => ⟨⟨(), rfl, trivial, by rw [ht]; exact hP, va_K.moved hW.alike hK, hD⟩, hS.F ht⟩) hS.2.2 dX15_clear_10
def fw_f_X14_begin : List Cond := .code yX14_begin cX14_begin 1 none :: ([.fieldLink RX14 19 "TripleStoreModel$Lexer" "at" "I", .fieldLink RX14 23 "TripleStoreModel$Lexer" "loaded" "Z", .fieldLink RX14 27 "TripleStoreModel$Lexer" "behindValue" "Z"] ++ wsX140)
theorem in_f_X14_begin_RX14 : ∀ w ∈ u_ws RX14 TX14 14, w ∈ fw_f_X14_begin := fun _ h => List.mem_cons_of_mem _ (List.mem_append_right _ h)
theorem gd_f_X14_begin : (fw_f_X14_begin).all goodWord = true := by decide +kernel
set_option maxHeartbeats 4000000 in
set_option maxRecDepth 100000 in
theorem f_X14_begin (l : Launch) (dC : Nat → ClassId) (dI : Nat → Nat → Nat) (a0 : Nat) (a1 : Nat) (a2 : Nat) (sz : Nat) : Met l yX14_begin fw_f_X14_begin ({ frames := 1, cells := 0, slots := 0, locals := 20 }) (va_Pc [.ref a0] (fun U => U.heap.size = sz ∧ va_P (dC, dI) vwCl [(a0, .inr (15, [.ref a1, .ref a2, .int 0, .int 0, .int 0, .int 0, .int 0, .int 0, .int 0, .int 0, .int 0, .long 0, .int 0, .int 0]))] U.heap ∧ va_K (dC, dI) vwCl [] U ∧ va_D (fun _ => True) [(a0, .inr (15, [.ref a1, .ref a2, .int 0, .int 0, .int 0, .int 0, .int 0, .int 0, .int 0, .int 0, .int 0, .long 0, .int 0, .int 0]))])) (va_Qv (fun _ : Unit => True) (fun _ t => va_P (dC, dI) vwCl [(a0, .inr (15, [.ref a1, .ref a2, .int 0, .int 0, .int 0, .int 0, .int 0, .int 0, .int 0, .int 0, .int 0, .long 0, .int 0, .int 0]))] t.heap ∧ va_K (dC, dI) vwCl [] t ∧ va_D (va_A [(a0, .inr (15, [.ref a1, .ref a2, .int 0, .int 0, .int 0, .int 0, .int 0, .int 0, .int 0, .int 0, .int 0, .long 0, .int 0, .int 0]))] sz) [(a0, .inr (15, [.ref a1, .ref a2, .int 0, .int 0, .int 0, .int 0, .int 0, .int 0, .int 0, .int 0, .int 0, .long 0, .int 0, .int 0]))]) (va_A [(a0, .inr (15, [.ref a1, .ref a2, .int 0, .int 0, .int 0, .int 0, .int 0, .int 0, .int 0, .int 0, .int 0, .long 0, .int 0, .int 0]))] sz)) 0 0 (va_A [(a0, .inr (15, [.ref a1, .ref a2, .int 0, .int 0, .int 0, .int 0, .int 0, .int 0, .int 0, .int 0, .int 0, .long 0, .int 0, .int 0]))] sz) := by
  refine Met.ofW (cc := cX14_begin) (maxL := 1) (ret := none) (by decide) rfl ?_
  intro p e s m args below meth c s₁ B hml hv
  obtain ⟨rfl, hsz, hP, hK, hD0⟩ := hv
  have hx := B.exec
  have hb := B.bytes
  have hr := B.returns
  have hts := atoms_spec (ws := fw_f_X14_begin) B.pre
  have hown : s.vm.findClass RX14 = some m.cls := findClass_of_methodNamed B.named
  have hlocks := B.notSynchronized
  subst hsz
  have hD := hD0.self (sz := s.heap.size)
  generalize hAe : va_A [(a0, .inr (15, [.ref a1, .ref a2, .int 0, .int 0, .int 0, .int 0, .int 0, .int 0, .int 0, .int 0, .int 0, .long 0, .int 0, .int 0]))] s.heap.size = A at hD ⊢
  have hA : ∀ q : Nat, s.heap.size ≤ q → A q := fun q h => by rw [← hAe]; exact Or.inr h
  obtain ⟨H, hH⟩ : ∃ z, z = s.heap := ⟨_, rfl⟩
  rw [← hH] at hP
  have hS : va_S A s.heap H [] := by rw [hH]; exact va_S.rf
  have hP : va_P (dC, dI) vwCl [(a0, .inr (15, [.ref a1, .ref a2, .int 0, .int 0, .int 0, .int 0, .int 0, .int 0, .int 0, .int 0, .int 0, .long 0, .int 0, .int 0]))] H := hP
  have hl := lv_entry ([.ref a0]) (n := 1) (Nat.le_of_ble_eq_true rfl)
  rw [lg_entry_eq]
  generalize (lg_sl ([.ref a0]) ++ List.replicate (1 - (lg_sl ([.ref a0])).length) Slot.unset).toArray = ls at hl ⊢
  have hl : lv_has ls 1 [(0, .ref a0)] := hl
  rw [← hH]
  refine lv_aload_n hx hb dX14_begin_0 rfl (lv_at hl 0 rfl) ?_
  refine lv_iconst (v := 0) hx hb dX14_begin_1 (by decide) ?_
  refine va_put (D := (dC, dI)) (ci := 15) (v := .int 0) (ty := .int) (C := RX14) (T := TX14) (N := 14) hx hb hts in_f_X14_begin_RX14 tyX14 tyX14_ok nmX14 hown hK hP hD hS 0 rfl rfl 3 (by decide) (hts (.fieldLink RX14 19 "TripleStoreModel$Lexer" "at" "I") (List.mem_of_getElem? (i := 1) rfl)) (fun _ h9 => h9) rfl (by decide +kernel) rfl rfl (Nat.le_of_ble_eq_true rfl) dX14_begin_2 (fun H locs hP hD hS => ?_)
  have hP : va_P (dC, dI) vwCl [(a0, .inr (15, [.ref a1, .ref a2, .int 0, .int 0, .int 0, .int 0, .int 0, .int 0, .int 0, .int 0, .int 0, .long 0, .int 0, .int 0]))] H := hP
  have hD : va_D A [(a0, .inr (15, [.ref a1, .ref a2, .int 0, .int 0, .int 0, .int 0, .int 0, .int 0, .int 0, .int 0, .int 0, .long 0, .int 0, .int 0]))] := hD
  refine lv_aload_n hx hb dX14_begin_5 rfl (lv_at hl 0 rfl) ?_
  refine lv_iconst (v := 0) hx hb dX14_begin_6 (by decide) ?_
  refine va_put (D := (dC, dI)) (ci := 15) (v := .int 0) (ty := .boolean) (C := RX14) (T := TX14) (N := 14) hx hb hts in_f_X14_begin_RX14 tyX14 tyX14_ok nmX14 hown hK hP hD hS 0 rfl rfl 4 (by decide) (hts (.fieldLink RX14 23 "TripleStoreModel$Lexer" "loaded" "Z") (List.mem_of_getElem? (i := 2) rfl)) (fun _ h9 => h9) rfl (by decide +kernel) rfl rfl (Nat.le_of_ble_eq_true rfl) dX14_begin_7 (fun H locs hP hD hS => ?_)
  have hP : va_P (dC, dI) vwCl [(a0, .inr (15, [.ref a1, .ref a2, .int 0, .int 0, .int 0, .int 0, .int 0, .int 0, .int 0, .int 0, .int 0, .long 0, .int 0, .int 0]))] H := hP
  have hD : va_D A [(a0, .inr (15, [.ref a1, .ref a2, .int 0, .int 0, .int 0, .int 0, .int 0, .int 0, .int 0, .int 0, .int 0, .long 0, .int 0, .int 0]))] := hD
  refine lv_aload_n hx hb dX14_begin_10 rfl (lv_at hl 0 rfl) ?_
  refine lv_iconst (v := 0) hx hb dX14_begin_11 (by decide) ?_
  refine va_put (D := (dC, dI)) (ci := 15) (v := .int 0) (ty := .boolean) (C := RX14) (T := TX14) (N := 14) hx hb hts in_f_X14_begin_RX14 tyX14 tyX14_ok nmX14 hown hK hP hD hS 0 rfl rfl 10 (by decide) (hts (.fieldLink RX14 27 "TripleStoreModel$Lexer" "behindValue" "Z") (List.mem_of_getElem? (i := 3) rfl)) (fun _ h9 => h9) rfl (by decide +kernel) rfl rfl (Nat.le_of_ble_eq_true rfl) dX14_begin_12 (fun H locs hP hD hS => ?_)
  have hP : va_P (dC, dI) vwCl [(a0, .inr (15, [.ref a1, .ref a2, .int 0, .int 0, .int 0, .int 0, .int 0, .int 0, .int 0, .int 0, .int 0, .long 0, .int 0, .int 0]))] H := hP
  have hD : va_D A [(a0, .inr (15, [.ref a1, .ref a2, .int 0, .int 0, .int 0, .int 0, .int 0, .int 0, .int 0, .int 0, .int 0, .long 0, .int 0, .int 0]))] := hD
  exact W.vret hx hb hr (fun t ht hW => ⟨⟨(), rfl, trivial, by rw [ht]; exact hP, va_K.moved hW.alike hK, hD⟩, hS.F ht⟩) hS.2.2 dX14_begin_15
def fw_f_X14_byteAt : List Cond := .code yX14_byteAt cX14_byteAt 2 (some .int) :: ([.fieldLink RX14 30 "TripleStoreModel$Lexer" "size" "I"] ++ wsX140)
theorem in_f_X14_byteAt_RX14 : ∀ w ∈ u_ws RX14 TX14 14, w ∈ fw_f_X14_byteAt := fun _ h => List.mem_cons_of_mem _ (List.mem_append_right _ h)
theorem gd_f_X14_byteAt : (fw_f_X14_byteAt).all goodWord = true := by decide +kernel
set_option maxHeartbeats 4000000 in
set_option maxRecDepth 100000 in
theorem f_X14_byteAt (l : Launch) (dC : Nat → ClassId) (dI : Nat → Nat → Nat) (a0 : Nat) (a1 : Nat) (a2 : Nat) (sz : Nat) : Met l yX14_byteAt fw_f_X14_byteAt ({ frames := 1, cells := 0, slots := 0, locals := 20 }) (va_Pc [.ref a0, .int 0] (fun U => U.heap.size = sz ∧ va_P (dC, dI) vwCl [(a0, .inr (15, [.ref a1, .ref a2, .int 0, .int 0, .int 0, .int 0, .int 0, .int 0, .int 0, .int 0, .int 0, .long 0, .int 0, .int 0]))] U.heap ∧ va_K (dC, dI) vwCl [] U ∧ va_D (fun _ => True) [(a0, .inr (15, [.ref a1, .ref a2, .int 0, .int 0, .int 0, .int 0, .int 0, .int 0, .int 0, .int 0, .int 0, .long 0, .int 0, .int 0]))])) (va_Qi (fun (r : Int32) (_ : Unit) => r = (-1)) (fun _ t => va_P (dC, dI) vwCl [(a0, .inr (15, [.ref a1, .ref a2, .int 0, .int 0, .int 0, .int 0, .int 0, .int 0, .int 0, .int 0, .int 0, .long 0, .int 0, .int 0]))] t.heap ∧ va_K (dC, dI) vwCl [] t ∧ va_D (va_A [(a0, .inr (15, [.ref a1, .ref a2, .int 0, .int 0, .int 0, .int 0, .int 0, .int 0, .int 0, .int 0, .int 0, .long 0, .int 0, .int 0]))] sz) [(a0, .inr (15, [.ref a1, .ref a2, .int 0, .int 0, .int 0, .int 0, .int 0, .int 0, .int 0, .int 0, .int 0, .long 0, .int 0, .int 0]))]) (va_A [(a0, .inr (15, [.ref a1, .ref a2, .int 0, .int 0, .int 0, .int 0, .int 0, .int 0, .int 0, .int 0, .int 0, .long 0, .int 0, .int 0]))] sz)) 0 0 (va_A [(a0, .inr (15, [.ref a1, .ref a2, .int 0, .int 0, .int 0, .int 0, .int 0, .int 0, .int 0, .int 0, .int 0, .long 0, .int 0, .int 0]))] sz) := by
  refine Met.ofW (cc := cX14_byteAt) (maxL := 2) (ret := (some .int)) (by decide) rfl ?_
  intro p e s m args below meth c s₁ B hml hv
  obtain ⟨rfl, hsz, hP, hK, hD0⟩ := hv
  have hx := B.exec
  have hb := B.bytes
  have hr := B.returns
  have hts := atoms_spec (ws := fw_f_X14_byteAt) B.pre
  have hown : s.vm.findClass RX14 = some m.cls := findClass_of_methodNamed B.named
  have hlocks := B.notSynchronized
  subst hsz
  have hD := hD0.self (sz := s.heap.size)
  generalize hAe : va_A [(a0, .inr (15, [.ref a1, .ref a2, .int 0, .int 0, .int 0, .int 0, .int 0, .int 0, .int 0, .int 0, .int 0, .long 0, .int 0, .int 0]))] s.heap.size = A at hD ⊢
  have hA : ∀ q : Nat, s.heap.size ≤ q → A q := fun q h => by rw [← hAe]; exact Or.inr h
  obtain ⟨H, hH⟩ : ∃ z, z = s.heap := ⟨_, rfl⟩
  rw [← hH] at hP
  have hS : va_S A s.heap H [] := by rw [hH]; exact va_S.rf
  have hP : va_P (dC, dI) vwCl [(a0, .inr (15, [.ref a1, .ref a2, .int 0, .int 0, .int 0, .int 0, .int 0, .int 0, .int 0, .int 0, .int 0, .long 0, .int 0, .int 0]))] H := hP
  have hl := lv_entry ([.ref a0, .int 0]) (n := 2) (Nat.le_of_ble_eq_true rfl)
  rw [lg_entry_eq]
  generalize (lg_sl ([.ref a0, .int 0]) ++ List.replicate (2 - (lg_sl ([.ref a0, .int 0])).length) Slot.unset).toArray = ls at hl ⊢
  have hl : lv_has ls 2 [(0, .ref a0), (1, .int 0)] := hl
  rw [← hH]
  refine lv_iload_n hx hb dX14_byteAt_0 rfl (lv_at hl 1 rfl) ?_
  refine lv_aload_n hx hb dX14_byteAt_1 rfl (lv_at hl 0 rfl) ?_
  refine va_get (D := (dC, dI)) (ci := 15) (v := .int 0) (C := RX14) (T := TX14) (N := 14) hx hb hts in_f_X14_byteAt_RX14 hown hK hP 0 rfl rfl 2 (by decide) (hts (.fieldLink RX14 30 "TripleStoreModel$Lexer" "size" "I") (List.mem_of_getElem? (i := 1) rfl)) (fun _ h9 => h9) rfl dX14_byteAt_2 ?_
  refine lv_icmp_ge (tgt := 21) hx hb dX14_byteAt_5 (by decide) (fun _ => ?_) (fun c9 => absurd (by decide +kernel) c9)
  refine lv_iconst (v := (-1)) hx hb dX14_byteAt_21 (by decide) ?_
  exact W.iret (v := (-1)) hx hb hr (fun t ht hW => ⟨⟨(-1), (), rfl, rfl, by rw [ht]; exact hP, va_K.moved hW.alike hK, hD⟩, hS.F ht⟩) hS.2.2 dX14_byteAt_22
def fw_f_X14_skip : List Cond := .code yX14_skip cX14_skip 3 none :: ([.fieldLink RX14 19 "TripleStoreModel$Lexer" "at" "I", .methodLink RX14 40 yX14_byteAt, .instanceMethod yX14_byteAt, .selects RX14 yX14_byteAt yX14_byteAt, .initialized RX14] ++ wsX140 ++ fw_f_X14_byteAt)
theorem in_f_X14_skip_RX14 : ∀ w ∈ u_ws RX14 TX14 14, w ∈ fw_f_X14_skip := fun _ h => List.mem_cons_of_mem _ (List.mem_append_left _ (List.mem_append_right _ h))
theorem gd_f_X14_skip : (fw_f_X14_skip).all goodWord = true := by decide +kernel
theorem gf_f_X14_skip_f_X14_byteAt : GoodIn fw_f_X14_skip fw_f_X14_byteAt := goodIn_sub (fun _ h => List.mem_cons_of_mem _ (List.mem_append_right _ h)) gd_f_X14_byteAt
theorem gh_f_X14_skip_f_X14_byteAt_40 : GoodIn fw_f_X14_skip (wsV RX14 40 RX14 yX14_byteAt fw_f_X14_byteAt) := goodIn_app (goodIn_r _ [2, 3, 4, 5] (by decide +kernel) (by decide +kernel)) gf_f_X14_skip_f_X14_byteAt
set_option maxHeartbeats 4000000 in
set_option maxRecDepth 100000 in
theorem f_X14_skip (l : Launch) (dC : Nat → ClassId) (dI : Nat → Nat → Nat) (a0 : Nat) (a1 : Nat) (a2 : Nat) (sz : Nat) : Met l yX14_skip fw_f_X14_skip ({ frames := 2, cells := 0, slots := 0, locals := 41 }) (va_Pc [.ref a0] (fun U => U.heap.size = sz ∧ va_P (dC, dI) vwCl [(a0, .inr (15, [.ref a1, .ref a2, .int 0, .int 0, .int 0, .int 0, .int 0, .int 0, .int 0, .int 0, .int 0, .long 0, .int 0, .int 0]))] U.heap ∧ va_K (dC, dI) vwCl [] U ∧ va_D (fun _ => True) [(a0, .inr (15, [.ref a1, .ref a2, .int 0, .int 0, .int 0, .int 0, .int 0, .int 0, .int 0, .int 0, .int 0, .long 0, .int 0, .int 0]))])) (va_Qv (fun _ : Unit => True) (fun _ t => va_P (dC, dI) vwCl [(a0, .inr (15, [.ref a1, .ref a2, .int 0, .int 0, .int 0, .int 0, .int 0, .int 0, .int 0, .int 0, .int 0, .long 0, .int 0, .int 0]))] t.heap ∧ va_K (dC, dI) vwCl [] t ∧ va_D (va_A [(a0, .inr (15, [.ref a1, .ref a2, .int 0, .int 0, .int 0, .int 0, .int 0, .int 0, .int 0, .int 0, .int 0, .long 0, .int 0, .int 0]))] sz) [(a0, .inr (15, [.ref a1, .ref a2, .int 0, .int 0, .int 0, .int 0, .int 0, .int 0, .int 0, .int 0, .int 0, .long 0, .int 0, .int 0]))]) (va_A [(a0, .inr (15, [.ref a1, .ref a2, .int 0, .int 0, .int 0, .int 0, .int 0, .int 0, .int 0, .int 0, .int 0, .long 0, .int 0, .int 0]))] sz)) 0 0 (va_A [(a0, .inr (15, [.ref a1, .ref a2, .int 0, .int 0, .int 0, .int 0, .int 0, .int 0, .int 0, .int 0, .int 0, .long 0, .int 0, .int 0]))] sz) := by
  refine Met.ofW (cc := cX14_skip) (maxL := 3) (ret := none) (by decide) rfl ?_
  intro p e s m args below meth c s₁ B hml hv
  obtain ⟨rfl, hsz, hP, hK, hD0⟩ := hv
  have hx := B.exec
  have hb := B.bytes
  have hr := B.returns
  have hts := atoms_spec (ws := fw_f_X14_skip) B.pre
  have hown : s.vm.findClass RX14 = some m.cls := findClass_of_methodNamed B.named
  have hlocks := B.notSynchronized
  subst hsz
  have hD := hD0.self (sz := s.heap.size)
  generalize hAe : va_A [(a0, .inr (15, [.ref a1, .ref a2, .int 0, .int 0, .int 0, .int 0, .int 0, .int 0, .int 0, .int 0, .int 0, .long 0, .int 0, .int 0]))] s.heap.size = A at hD ⊢
  have hA : ∀ q : Nat, s.heap.size ≤ q → A q := fun q h => by rw [← hAe]; exact Or.inr h
  obtain ⟨H, hH⟩ : ∃ z, z = s.heap := ⟨_, rfl⟩
  rw [← hH] at hP
  have hS : va_S A s.heap H [] := by rw [hH]; exact va_S.rf
  have hP : va_P (dC, dI) vwCl [(a0, .inr (15, [.ref a1, .ref a2, .int 0, .int 0, .int 0, .int 0, .int 0, .int 0, .int 0, .int 0, .int 0, .long 0, .int 0, .int 0]))] H := hP
  have hl := lv_entry ([.ref a0]) (n := 3) (Nat.le_of_ble_eq_true rfl)
  rw [lg_entry_eq]
  generalize (lg_sl ([.ref a0]) ++ List.replicate (3 - (lg_sl ([.ref a0])).length) Slot.unset).toArray = ls at hl ⊢
  have hl : lv_has ls 3 [(0, .ref a0)] := hl
  rw [← hH]
  refine lv_iconst (v := 1) hx hb dX14_skip_0 (by decide) ?_
  refine lv_istore_n (lv' := [(1, .int 1), (0, .ref a0)]) hx hb dX14_skip_1 rfl hl (by decide) rfl (fun ls hl => ?_)
  refine lv_iload_n hx hb dX14_skip_2 rfl (lv_at hl 0 rfl) ?_
  refine lv_if_eq (tgt := 111) hx hb dX14_skip_3 (by decide) (fun c9 => absurd c9 (by decide +kernel)) (fun _ => ?_)
  refine lv_aload_n hx hb dX14_skip_6 rfl (lv_at hl 1 rfl) ?_
  refine lv_aload_n hx hb dX14_skip_7 rfl (lv_at hl 1 rfl) ?_
  refine va_get (D := (dC, dI)) (ci := 15) (v := .int 0) (C := RX14) (T := TX14) (N := 14) hx hb hts in_f_X14_skip_RX14 hown hK hP 0 rfl rfl 3 (by decide) (hts (.fieldLink RX14 19 "TripleStoreModel$Lexer" "at" "I") (List.mem_of_getElem? (i := 1) rfl)) (fun _ h9 => h9) rfl dX14_skip_8 ?_
  have hPc := hP.sub (ws' := [(a0, .inr (15, [.ref a1, .ref a2, .int 0, .int 0, .int 0, .int 0, .int 0, .int 0, .int 0, .int 0, .int 0, .long 0, .int 0, .int 0]))]) [0] rfl
  have hDc := hD.sub (ws' := [(a0, .inr (15, [.ref a1, .ref a2, .int 0, .int 0, .int 0, .int 0, .int 0, .int 0, .int 0, .int 0, .int 0, .long 0, .int 0, .int 0]))]) [0] (by decide) rfl
  have hKc := hK.sub (tys' := []) [] rfl
  have hFc := va_free (wc := [(a0, .inr (15, [.ref a1, .ref a2, .int 0, .int 0, .int 0, .int 0, .int 0, .int 0, .int 0, .int 0, .int 0, .long 0, .int 0, .int 0]))]) hD hS hA [0] rfl
  refine va_calli (va_runV (As := [.int 0]) (rest := []) ⟨hx, hb, hml, hown, hts⟩ (f_X14_byteAt l dC dI a0 a1 a2 H.size) (cwV 1 hts gh_f_X14_skip_f_X14_byteAt_40 rfl rfl rfl (by decide +kernel) ⟨Nat.le_of_ble_eq_true rfl, Nat.le_of_ble_eq_true rfl⟩) ⟨fun a U g mk q => by obtain ⟨q0, q1, qP, qK, qD⟩ := q; exact ⟨q0, q1, qP, va_K.moved (u := U) (U := U.calling g mk a) (Vm.Alike.refl U.vm) qK, qD⟩, va_recv hKc hPc (ci := 15) (q0 := 0) rfl rfl, fun U hU hW => ⟨rfl, by rw [hU], by rw [hU]; exact hPc, va_K.moved hW.alike hKc, hDc.weaken (fun _ _ _ _ => trivial)⟩⟩ rfl rfl hl.1 rfl (lv_room (Nat.le_of_ble_eq_true rfl)) dX14_skip_11 ⟨Nat.le_of_ble_eq_true rfl, Nat.le_of_ble_eq_true rfl⟩) hS (fun q _ h => hFc q h) hFc (fun r u t H1 locs ht hvm hw hB hz1 hk1 hS => ?_)
  obtain ⟨hP1, hK1, hD1⟩ := hB
  have hw : r = (-1) := hw
  subst hw
  rw [ht] at hP1
  have hK1 := va_K.moved hvm.symm hK1
  obtain ⟨hP, hD⟩ := va_join (wr := []) (w1 := [(a0, .inr (15, [.ref a1, .ref a2, .int 0, .int 0, .int 0, .int 0, .int 0, .int 0, .int 0, .int 0, .int 0, .long 0, .int 0, .int 0]))]) hP hD [0] [] rfl rfl (by decide) (by decide) hk1 hFc hP1 hD1
  have hK := (hK.sub (tys' := []) [] rfl).app hK1
  generalize H1 = H at hP hS ⊢
  have hP : va_P (dC, dI) vwCl [(a0, .inr (15, [.ref a1, .ref a2, .int 0, .int 0, .int 0, .int 0, .int 0, .int 0, .int 0, .int 0, .int 0, .long 0, .int 0, .int 0]))] H := hP
  have hD : va_D A [(a0, .inr (15, [.ref a1, .ref a2, .int 0, .int 0, .int 0, .int 0, .int 0, .int 0, .int 0, .int 0, .int 0, .long 0, .int 0, .int 0]))] := hD
  have hK : va_K (dC, dI) vwCl [] s := hK
  refine lv_istore_n (lv' := [(2, .int (-1)), (1, .int 1), (0, .ref a0)]) hx hb dX14_skip_14 rfl hl (by decide) rfl (fun ls hl => ?_)
  refine lv_iload_n hx hb dX14_skip_15 rfl (lv_at hl 0 rfl) ?_
  refine lv_bipush (v := 32) hx hb dX14_skip_16 (by decide) ?_
  refine lv_icmp_eq (tgt := 45) hx hb dX14_skip_18 (by decide) (fun c9 => absurd c9 (by decide +kernel)) (fun _ => ?_)
  refine lv_iload_n hx hb dX14_skip_21 rfl (lv_at hl 0 rfl) ?_
  refine lv_bipush (v := 9) hx hb dX14_skip_22 (by decide) ?_
  refine lv_icmp_eq (tgt := 45) hx hb dX14_skip_24 (by decide) (fun c9 => absurd c9 (by decide +kernel)) (fun _ => ?_)
  refine lv_iload_n hx hb dX14_skip_27 rfl (lv_at hl 0 rfl) ?_
  refine lv_bipush (v := 10) hx hb dX14_skip_28 (by decide) ?_
  refine lv_icmp_eq (tgt := 45) hx hb dX14_skip_30 (by decide) (fun c9 => absurd c9 (by decide +kernel)) (fun _ => ?_)
  refine lv_iload_n hx hb dX14_skip_33 rfl (lv_at hl 0 rfl) ?_
  refine lv_bipush (v := 13) hx hb dX14_skip_34 (by decide) ?_
  refine lv_icmp_eq (tgt := 45) hx hb dX14_skip_36 (by decide) (fun c9 => absurd c9 (by decide +kernel)) (fun _ => ?_)
  refine lv_iload_n hx hb dX14_skip_39 rfl (lv_at hl 0 rfl) ?_
  refine lv_bipush (v := 35) hx hb dX14_skip_40 (by decide) ?_
  refine lv_icmp_ne (tgt := 49) hx hb dX14_skip_42 (by decide) (fun _ => ?_) (fun c9 => absurd c9 (by decide +kernel))
  refine lv_iconst (v := 0) hx hb dX14_skip_49 (by decide) ?_
  refine lv_istore_n (lv' := [(1, .int 0), (2, .int (-1)), (0, .ref a0)]) hx hb dX14_skip_50 rfl hl (by decide) rfl (fun ls hl => ?_)
  refine lv_iload_n hx hb dX14_skip_51 rfl (lv_at hl 1 rfl) ?_
  refine lv_bipush (v := 35) hx hb dX14_skip_52 (by decide) ?_
  refine lv_icmp_ne (tgt := 94) hx hb dX14_skip_54 (by decide) (fun _ => ?_) (fun c9 => absurd c9 (by decide +kernel))
  refine lv_iload_n hx hb dX14_skip_94 rfl (lv_at hl 0 rfl) ?_
  refine lv_if_eq (tgt := 108) hx hb dX14_skip_95 (by decide) (fun _ => ?_) (fun c9 => absurd (by decide +kernel) c9)
  refine lv_goto (tgt := 2) hx hb dX14_skip_108 (by decide) ?_
  refine lv_iload_n hx hb dX14_skip_2 rfl (lv_at hl 0 rfl) ?_
  refine lv_if_eq (tgt := 111) hx hb dX14_skip_3 (by decide) (fun _ => ?_) (fun c9 => absurd (by decide +kernel) c9)
  exact W.vret hx hb hr (fun t ht hW => ⟨⟨(), rfl, trivial, by rw [ht]; exact hP, va_K.moved hW.alike hK, hD⟩, hS.F ht⟩) hS.2.2 dX14_skip_111
def fw_f_X14_byteAt_2 : List Cond := .code yX14_byteAt cX14_byteAt 2 (some .int) :: ([.fieldLink RX14 30 "TripleStoreModel$Lexer" "size" "I"] ++ wsX140)
theorem in_f_X14_byteAt_2_RX14 : ∀ w ∈ u_ws RX14 TX14 14, w ∈ fw_f_X14_byteAt_2 := fun _ h => List.mem_cons_of_mem _ (List.mem_append_right _ h)
theorem gd_f_X14_byteAt_2 : (fw_f_X14_byteAt_2).all goodWord = true := by decide +kernel
set_option maxHeartbeats 4000000 in
set_option maxRecDepth 100000 in
theorem f_X14_byteAt_2 (l : Launch) (dC : Nat → ClassId) (dI : Nat → Nat → Nat) (a0 : Nat) (a1 : Nat) (a2 : Nat) (sz : Nat) : Met l yX14_byteAt fw_f_X14_byteAt_2 ({ frames := 1, cells := 0, slots := 0, locals := 20 }) (va_Pc [.ref a0, .int 0] (fun U => U.heap.size = sz ∧ va_P (dC, dI) vwCl [(a0, .inr (15, [.ref a1, .ref a2, .int 0, .int 0, .int 1, .int 0, .int 0, .int 0, .int 0, .int 0, .int 0, .long 0, .int 0, .int 0]))] U.heap ∧ va_K (dC, dI) vwCl [] U ∧ va_D (fun _ => True) [(a0, .inr (15, [.ref a1, .ref a2, .int 0, .int 0, .int 1, .int 0, .int 0, .int 0, .int 0, .int 0, .int 0, .long 0, .int 0, .int 0]))])) (va_Qi (fun (r : Int32) (_ : Unit) => r = (-1)) (fun _ t => va_P (dC, dI) vwCl [(a0, .inr (15, [.ref a1, .ref a2, .int 0, .int 0, .int 1, .int 0, .int 0, .int 0, .int 0, .int 0, .int 0, .long 0, .int 0, .int 0]))] t.heap ∧ va_K (dC, dI) vwCl [] t ∧ va_D (va_A [(a0, .inr (15, [.ref a1, .ref a2, .int 0, .int 0, .int 1, .int 0, .int 0, .int 0, .int 0, .int 0, .int 0, .long 0, .int 0, .int 0]))] sz) [(a0, .inr (15, [.ref a1, .ref a2, .int 0, .int 0, .int 1, .int 0, .int 0, .int 0, .int 0, .int 0, .int 0, .long 0, .int 0, .int 0]))]) (va_A [(a0, .inr (15, [.ref a1, .ref a2, .int 0, .int 0, .int 1, .int 0, .int 0, .int 0, .int 0, .int 0, .int 0, .long 0, .int 0, .int 0]))] sz)) 0 0 (va_A [(a0, .inr (15, [.ref a1, .ref a2, .int 0, .int 0, .int 1, .int 0, .int 0, .int 0, .int 0, .int 0, .int 0, .long 0, .int 0, .int 0]))] sz) := by
  refine Met.ofW (cc := cX14_byteAt) (maxL := 2) (ret := (some .int)) (by decide) rfl ?_
  intro p e s m args below meth c s₁ B hml hv
  obtain ⟨rfl, hsz, hP, hK, hD0⟩ := hv
  have hx := B.exec
  have hb := B.bytes
  have hr := B.returns
  have hts := atoms_spec (ws := fw_f_X14_byteAt_2) B.pre
  have hown : s.vm.findClass RX14 = some m.cls := findClass_of_methodNamed B.named
  have hlocks := B.notSynchronized
  subst hsz
  have hD := hD0.self (sz := s.heap.size)
  generalize hAe : va_A [(a0, .inr (15, [.ref a1, .ref a2, .int 0, .int 0, .int 1, .int 0, .int 0, .int 0, .int 0, .int 0, .int 0, .long 0, .int 0, .int 0]))] s.heap.size = A at hD ⊢
  have hA : ∀ q : Nat, s.heap.size ≤ q → A q := fun q h => by rw [← hAe]; exact Or.inr h
  obtain ⟨H, hH⟩ : ∃ z, z = s.heap := ⟨_, rfl⟩
  rw [← hH] at hP
  have hS : va_S A s.heap H [] := by rw [hH]; exact va_S.rf
  have hP : va_P (dC, dI) vwCl [(a0, .inr (15, [.ref a1, .ref a2, .int 0, .int 0, .int 1, .int 0, .int 0, .int 0, .int 0, .int 0, .int 0, .long 0, .int 0, .int 0]))] H := hP
  have hl := lv_entry ([.ref a0, .int 0]) (n := 2) (Nat.le_of_ble_eq_true rfl)
  rw [lg_entry_eq]
  generalize (lg_sl ([.ref a0, .int 0]) ++ List.replicate (2 - (lg_sl ([.ref a0, .int 0])).length) Slot.unset).toArray = ls at hl ⊢
  have hl : lv_has ls 2 [(0, .ref a0), (1, .int 0)] := hl
  rw [← hH]
  refine lv_iload_n hx hb dX14_byteAt_0 rfl (lv_at hl 1 rfl) ?_
  refine lv_aload_n hx hb dX14_byteAt_1 rfl (lv_at hl 0 rfl) ?_
  refine va_get (D := (dC, dI)) (ci := 15) (v := .int 0) (C := RX14) (T := TX14) (N := 14) hx hb hts in_f_X14_byteAt_2_RX14 hown hK hP 0 rfl rfl 2 (by decide) (hts (.fieldLink RX14 30 "TripleStoreModel$Lexer" "size" "I") (List.mem_of_getElem? (i := 1) rfl)) (fun _ h9 => h9) rfl dX14_byteAt_2 ?_
  refine lv_icmp_ge (tgt := 21) hx hb dX14_byteAt_5 (by decide) (fun _ => ?_) (fun c9 => absurd (by decide +kernel) c9)
  refine lv_iconst (v := (-1)) hx hb dX14_byteAt_21 (by decide) ?_
  exact W.iret (v := (-1)) hx hb hr (fun t ht hW => ⟨⟨(-1), (), rfl, rfl, by rw [ht]; exact hP, va_K.moved hW.alike hK, hD⟩, hS.F ht⟩) hS.2.2 dX14_byteAt_22
def fw_f_X14_look : List Cond := .code yX14_look cX14_look 2 (some .int) :: ([.fieldLink RX14 23 "TripleStoreModel$Lexer" "loaded" "Z", .methodLink RX14 47 yX14_skip, .instanceMethod yX14_skip, .selects RX14 yX14_skip yX14_skip, .initialized RX14, .fieldLink RX14 19 "TripleStoreModel$Lexer" "at" "I", .fieldLink RX14 50 "TripleStoreModel$Lexer" "place" "I", .fieldLink RX14 53 "TripleStoreModel$Lexer" "term" "I", .fieldLink RX14 56 "TripleStoreModel$Lexer" "sign" "I", .methodLink RX14 40 yX14_byteAt, .instanceMethod yX14_byteAt, .selects RX14 yX14_byteAt yX14_byteAt, .fieldLink RX14 44 "TripleStoreModel$Lexer" "kind" "I", .fieldLink RX14 59 "TripleStoreModel$Lexer" "end" "I"] ++ wsX140 ++ fw_f_X14_skip ++ fw_f_X14_byteAt_2)
theorem in_f_X14_look_RX14 : ∀ w ∈ u_ws RX14 TX14 14, w ∈ fw_f_X14_look := fun _ h => List.mem_cons_of_mem _ (List.mem_append_left _ (List.mem_append_left _ (List.mem_append_right _ h)))
theorem gd_f_X14_look : (fw_f_X14_look).all goodWord = true := by decide +kernel
theorem gf_f_X14_look_f_X14_skip : GoodIn fw_f_X14_look fw_f_X14_skip := goodIn_sub (fun _ h => List.mem_cons_of_mem _ (List.mem_append_left _ (List.mem_append_right _ h))) gd_f_X14_skip
theorem gf_f_X14_look_f_X14_byteAt_2 : GoodIn fw_f_X14_look fw_f_X14_byteAt_2 := goodIn_sub (fun _ h => List.mem_cons_of_mem _ (List.mem_append_right _ h)) gd_f_X14_byteAt_2
theorem gh_f_X14_look_f_X14_skip_47 : GoodIn fw_f_X14_look (wsV RX14 47 RX14 yX14_skip fw_f_X14_skip) := goodIn_app (goodIn_r _ [2, 3, 4, 5] (by decide +kernel) (by decide +kernel)) gf_f_X14_look_f_X14_skip
theorem gh_f_X14_look_f_X14_byteAt_2_40 : GoodIn fw_f_X14_look (wsV RX14 40 RX14 yX14_byteAt fw_f_X14_byteAt_2) := goodIn_app (goodIn_r _ [10, 11, 12, 5] (by decide +kernel) (by decide +kernel)) gf_f_X14_look_f_X14_byteAt_2
set_option maxHeartbeats 4000000 in
set_option maxRecDepth 100000 in
theorem f_X14_look (l : Launch) (dC : Nat → ClassId) (dI : Nat → Nat → Nat) (a0 : Nat) (a1 : Nat) (a2 : Nat) (sz : Nat) : Met l yX14_look fw_f_X14_look ({ frames := 3, cells := 0, slots := 0, locals := 63 }) (va_Pc [.ref a0] (fun U => U.heap.size = sz ∧ va_P (dC, dI) vwCl [(a0, .inr (15, [.ref a1, .ref a2, .int 0, .int 0, .int 0, .int 0, .int 0, .int 0, .int 0, .int 0, .int 0, .long 0, .int 0, .int 0]))] U.heap ∧ va_K (dC, dI) vwCl [] U ∧ va_D (fun _ => True) [(a0, .inr (15, [.ref a1, .ref a2, .int 0, .int 0, .int 0, .int 0, .int 0, .int 0, .int 0, .int 0, .int 0, .long 0, .int 0, .int 0]))])) (va_Qi (fun (r : Int32) (_ : Unit) => r = 0) (fun _ t => va_P (dC, dI) vwCl [(a0, .inr (15, [.ref a1, .ref a2, .int 0, .int 0, .int 1, .int 0, .int 0, .int 0, .int 0, .int 0, .int 0, .long 0, .int 0, .int 0]))] t.heap ∧ va_K (dC, dI) vwCl [] t ∧ va_D (va_A [(a0, .inr (15, [.ref a1, .ref a2, .int 0, .int 0, .int 0, .int 0, .int 0, .int 0, .int 0, .int 0, .int 0, .long 0, .int 0, .int 0]))] sz) [(a0, .inr (15, [.ref a1, .ref a2, .int 0, .int 0, .int 1, .int 0, .int 0, .int 0, .int 0, .int 0, .int 0, .long 0, .int 0, .int 0]))]) (va_A [(a0, .inr (15, [.ref a1, .ref a2, .int 0, .int 0, .int 0, .int 0, .int 0, .int 0, .int 0, .int 0, .int 0, .long 0, .int 0, .int 0]))] sz)) 0 0 (va_A [(a0, .inr (15, [.ref a1, .ref a2, .int 0, .int 0, .int 0, .int 0, .int 0, .int 0, .int 0, .int 0, .int 0, .long 0, .int 0, .int 0]))] sz) := by
  refine Met.ofW (cc := cX14_look) (maxL := 2) (ret := (some .int)) (by decide) rfl ?_
  intro p e s m args below meth c s₁ B hml hv
  obtain ⟨rfl, hsz, hP, hK, hD0⟩ := hv
  have hx := B.exec
  have hb := B.bytes
  have hr := B.returns
  have hts := atoms_spec (ws := fw_f_X14_look) B.pre
  have hown : s.vm.findClass RX14 = some m.cls := findClass_of_methodNamed B.named
  have hlocks := B.notSynchronized
  subst hsz
  have hD := hD0.self (sz := s.heap.size)
  generalize hAe : va_A [(a0, .inr (15, [.ref a1, .ref a2, .int 0, .int 0, .int 0, .int 0, .int 0, .int 0, .int 0, .int 0, .int 0, .long 0, .int 0, .int 0]))] s.heap.size = A at hD ⊢
  have hA : ∀ q : Nat, s.heap.size ≤ q → A q := fun q h => by rw [← hAe]; exact Or.inr h
  obtain ⟨H, hH⟩ : ∃ z, z = s.heap := ⟨_, rfl⟩
  rw [← hH] at hP
  have hS : va_S A s.heap H [] := by rw [hH]; exact va_S.rf
  have hP : va_P (dC, dI) vwCl [(a0, .inr (15, [.ref a1, .ref a2, .int 0, .int 0, .int 0, .int 0, .int 0, .int 0, .int 0, .int 0, .int 0, .long 0, .int 0, .int 0]))] H := hP
  have hl := lv_entry ([.ref a0]) (n := 2) (Nat.le_of_ble_eq_true rfl)
  rw [lg_entry_eq]
  generalize (lg_sl ([.ref a0]) ++ List.replicate (2 - (lg_sl ([.ref a0])).length) Slot.unset).toArray = ls at hl ⊢
  have hl : lv_has ls 2 [(0, .ref a0)] := hl
  rw [← hH]
  refine lv_aload_n hx hb dX14_look_0 rfl (lv_at hl 0 rfl) ?_
  refine va_get (D := (dC, dI)) (ci := 15) (v := .int 0) (C := RX14) (T := TX14) (N := 14) hx hb hts in_f_X14_look_RX14 hown hK hP 0 rfl rfl 4 (by decide) (hts (.fieldLink RX14 23 "TripleStoreModel$Lexer" "loaded" "Z") (List.mem_of_getElem? (i := 1) rfl)) (fun _ h9 => h9) rfl dX14_look_1 ?_
  refine lv_if_eq (tgt := 12) hx hb dX14_look_4 (by decide) (fun _ => ?_) (fun c9 => absurd (by decide +kernel) c9)
  refine lv_aload_n hx hb dX14_look_12 rfl (lv_at hl 0 rfl) ?_
  have hPc := hP.sub (ws' := [(a0, .inr (15, [.ref a1, .ref a2, .int 0, .int 0, .int 0, .int 0, .int 0, .int 0, .int 0, .int 0, .int 0, .long 0, .int 0, .int 0]))]) [0] rfl
  have hDc := hD.sub (ws' := [(a0, .inr (15, [.ref a1, .ref a2, .int 0, .int 0, .int 0, .int 0, .int 0, .int 0, .int 0, .int 0, .int 0, .long 0, .int 0, .int 0]))]) [0] (by decide) rfl
  have hKc := hK.sub (tys' := []) [] rfl
  have hFc := va_free (wc := [(a0, .inr (15, [.ref a1, .ref a2, .int 0, .int 0, .int 0, .int 0, .int 0, .int 0, .int 0, .int 0, .int 0, .long 0, .int 0, .int 0]))]) hD hS hA [0] rfl
  refine va_callv (va_runV (As := []) (rest := []) ⟨hx, hb, hml, hown, hts⟩ (f_X14_skip l dC dI a0 a1 a2 H.size) (cwV 0 hts gh_f_X14_look_f_X14_skip_47 rfl rfl rfl (by decide +kernel) ⟨Nat.le_of_ble_eq_true rfl, Nat.le_of_ble_eq_true rfl⟩) ⟨fun a U g mk q => by obtain ⟨q0, q1, qP, qK, qD⟩ := q; exact ⟨q0, q1, qP, va_K.moved (u := U) (U := U.calling g mk a) (Vm.Alike.refl U.vm) qK, qD⟩, va_recv hKc hPc (ci := 15) (q0 := 0) rfl rfl, fun U hU hW => ⟨rfl, by rw [hU], by rw [hU]; exact hPc, va_K.moved hW.alike hKc, hDc.weaken (fun _ _ _ _ => trivial)⟩⟩ rfl rfl hl.1 rfl (lv_room (Nat.le_of_ble_eq_true rfl)) dX14_look_13 ⟨Nat.le_of_ble_eq_true rfl, Nat.le_of_ble_eq_true rfl⟩) hS (fun q _ h => hFc q h) hFc (fun u t H1 locs ht hvm hw hB hz1 hk1 hS => ?_)
  obtain ⟨hP1, hK1, hD1⟩ := hB
  rw [ht] at hP1
  have hK1 := va_K.moved hvm.symm hK1
  obtain ⟨hP, hD⟩ := va_join (wr := []) (w1 := [(a0, .inr (15, [.ref a1, .ref a2, .int 0, .int 0, .int 0, .int 0, .int 0, .int 0, .int 0, .int 0, .int 0, .long 0, .int 0, .int 0]))]) hP hD [0] [] rfl rfl (by decide) (by decide) hk1 hFc hP1 hD1
  have hK := (hK.sub (tys' := []) [] rfl).app hK1
  generalize H1 = H at hP hS ⊢
  have hP : va_P (dC, dI) vwCl [(a0, .inr (15, [.ref a1, .ref a2, .int 0, .int 0, .int 0, .int 0, .int 0, .int 0, .int 0, .int 0, .int 0, .long 0, .int 0, .int 0]))] H := hP
  have hD : va_D A [(a0, .inr (15, [.ref a1, .ref a2, .int 0, .int 0, .int 0, .int 0, .int 0, .int 0, .int 0, .int 0, .int 0, .long 0, .int 0, .int 0]))] := hD
  have hK : va_K (dC, dI) vwCl [] s := hK
  refine lv_aload_n hx hb dX14_look_16 rfl (lv_at hl 0 rfl) ?_
  refine lv_iconst (v := 1) hx hb dX14_look_17 (by decide) ?_
  refine va_put (D := (dC, dI)) (ci := 15) (v := .int 1) (ty := .boolean) (C := RX14) (T := TX14) (N := 14) hx hb hts in_f_X14_look_RX14 tyX14 tyX14_ok nmX14 hown hK hP hD hS 0 rfl rfl 4 (by decide) (hts (.fieldLink RX14 23 "TripleStoreModel$Lexer" "loaded" "Z") (List.mem_of_getElem? (i := 1) rfl)) (fun _ h9 => h9) rfl (by decide +kernel) rfl rfl (Nat.le_of_ble_eq_true rfl) dX14_look_18 (fun H locs hP hD hS => ?_)
  have hP : va_P (dC, dI) vwCl [(a0, .inr (15, [.ref a1, .ref a2, .int 0, .int 0, .int 1, .int 0, .int 0, .int 0, .int 0, .int 0, .int 0, .long 0, .int 0, .int 0]))] H := hP
  have hD : va_D A [(a0, .inr (15, [.ref a1, .ref a2, .int 0, .int 0, .int 1, .int 0, .int 0, .int 0, .int 0, .int 0, .int 0, .long 0, .int 0, .int 0]))] := hD
  refine lv_aload_n hx hb dX14_look_21 rfl (lv_at hl 0 rfl) ?_
  refine lv_aload_n hx hb dX14_look_22 rfl (lv_at hl 0 rfl) ?_
  refine va_get (D := (dC, dI)) (ci := 15) (v := .int 0) (C := RX14) (T := TX14) (N := 14) hx hb hts in_f_X14_look_RX14 hown hK hP 0 rfl rfl 3 (by decide) (hts (.fieldLink RX14 19 "TripleStoreModel$Lexer" "at" "I") (List.mem_of_getElem? (i := 6) rfl)) (fun _ h9 => h9) rfl dX14_look_23 ?_
  refine va_put (D := (dC, dI)) (ci := 15) (v := .int 0) (ty := .int) (C := RX14) (T := TX14) (N := 14) hx hb hts in_f_X14_look_RX14 tyX14 tyX14_ok nmX14 hown hK hP hD hS 0 rfl rfl 6 (by decide) (hts (.fieldLink RX14 50 "TripleStoreModel$Lexer" "place" "I") (List.mem_of_getElem? (i := 7) rfl)) (fun _ h9 => h9) rfl (by decide +kernel) rfl rfl (Nat.le_of_ble_eq_true rfl) dX14_look_26 (fun H locs hP hD hS => ?_)
  have hP : va_P (dC, dI) vwCl [(a0, .inr (15, [.ref a1, .ref a2, .int 0, .int 0, .int 1, .int 0, .int 0, .int 0, .int 0, .int 0, .int 0, .long 0, .int 0, .int 0]))] H := hP
  have hD : va_D A [(a0, .inr (15, [.ref a1, .ref a2, .int 0, .int 0, .int 1, .int 0, .int 0, .int 0, .int 0, .int 0, .int 0, .long 0, .int 0, .int 0]))] := hD
  refine lv_aload_n hx hb dX14_look_29 rfl (lv_at hl 0 rfl) ?_
  refine lv_iconst (v := 0) hx hb dX14_look_30 (by decide) ?_
  refine va_put (D := (dC, dI)) (ci := 15) (v := .int 0) (ty := .int) (C := RX14) (T := TX14) (N := 14) hx hb hts in_f_X14_look_RX14 tyX14 tyX14_ok nmX14 hown hK hP hD hS 0 rfl rfl 8 (by decide) (hts (.fieldLink RX14 53 "TripleStoreModel$Lexer" "term" "I") (List.mem_of_getElem? (i := 8) rfl)) (fun _ h9 => h9) rfl (by decide +kernel) rfl rfl (Nat.le_of_ble_eq_true rfl) dX14_look_31 (fun H locs hP hD hS => ?_)
  have hP : va_P (dC, dI) vwCl [(a0, .inr (15, [.ref a1, .ref a2, .int 0, .int 0, .int 1, .int 0, .int 0, .int 0, .int 0, .int 0, .int 0, .long 0, .int 0, .int 0]))] H := hP
  have hD : va_D A [(a0, .inr (15, [.ref a1, .ref a2, .int 0, .int 0, .int 1, .int 0, .int 0, .int 0, .int 0, .int 0, .int 0, .long 0, .int 0, .int 0]))] := hD
  refine lv_aload_n hx hb dX14_look_34 rfl (lv_at hl 0 rfl) ?_
  refine lv_iconst (v := 0) hx hb dX14_look_35 (by decide) ?_
  refine va_put (D := (dC, dI)) (ci := 15) (v := .int 0) (ty := .int) (C := RX14) (T := TX14) (N := 14) hx hb hts in_f_X14_look_RX14 tyX14 tyX14_ok nmX14 hown hK hP hD hS 0 rfl rfl 9 (by decide) (hts (.fieldLink RX14 56 "TripleStoreModel$Lexer" "sign" "I") (List.mem_of_getElem? (i := 9) rfl)) (fun _ h9 => h9) rfl (by decide +kernel) rfl rfl (Nat.le_of_ble_eq_true rfl) dX14_look_36 (fun H locs hP hD hS => ?_)
  have hP : va_P (dC, dI) vwCl [(a0, .inr (15, [.ref a1, .ref a2, .int 0, .int 0, .int 1, .int 0, .int 0, .int 0, .int 0, .int 0, .int 0, .long 0, .int 0, .int 0]))] H := hP
  have hD : va_D A [(a0, .inr (15, [.ref a1, .ref a2, .int 0, .int 0, .int 1, .int 0, .int 0, .int 0, .int 0, .int 0, .int 0, .long 0, .int 0, .int 0]))] := hD
  refine lv_aload_n hx hb dX14_look_39 rfl (lv_at hl 0 rfl) ?_
  refine lv_aload_n hx hb dX14_look_40 rfl (lv_at hl 0 rfl) ?_
  refine va_get (D := (dC, dI)) (ci := 15) (v := .int 0) (C := RX14) (T := TX14) (N := 14) hx hb hts in_f_X14_look_RX14 hown hK hP 0 rfl rfl 3 (by decide) (hts (.fieldLink RX14 19 "TripleStoreModel$Lexer" "at" "I") (List.mem_of_getElem? (i := 6) rfl)) (fun _ h9 => h9) rfl dX14_look_41 ?_
  have hPc := hP.sub (ws' := [(a0, .inr (15, [.ref a1, .ref a2, .int 0, .int 0, .int 1, .int 0, .int 0, .int 0, .int 0, .int 0, .int 0, .long 0, .int 0, .int 0]))]) [0] rfl
  have hDc := hD.sub (ws' := [(a0, .inr (15, [.ref a1, .ref a2, .int 0, .int 0, .int 1, .int 0, .int 0, .int 0, .int 0, .int 0, .int 0, .long 0, .int 0, .int 0]))]) [0] (by decide) rfl
  have hKc := hK.sub (tys' := []) [] rfl
  have hFc := va_free (wc := [(a0, .inr (15, [.ref a1, .ref a2, .int 0, .int 0, .int 1, .int 0, .int 0, .int 0, .int 0, .int 0, .int 0, .long 0, .int 0, .int 0]))]) hD hS hA [0] rfl
  refine va_calli (va_runV (As := [.int 0]) (rest := []) ⟨hx, hb, hml, hown, hts⟩ (f_X14_byteAt_2 l dC dI a0 a1 a2 H.size) (cwV 1 hts gh_f_X14_look_f_X14_byteAt_2_40 rfl rfl rfl (by decide +kernel) ⟨Nat.le_of_ble_eq_true rfl, Nat.le_of_ble_eq_true rfl⟩) ⟨fun a U g mk q => by obtain ⟨q0, q1, qP, qK, qD⟩ := q; exact ⟨q0, q1, qP, va_K.moved (u := U) (U := U.calling g mk a) (Vm.Alike.refl U.vm) qK, qD⟩, va_recv hKc hPc (ci := 15) (q0 := 0) rfl rfl, fun U hU hW => ⟨rfl, by rw [hU], by rw [hU]; exact hPc, va_K.moved hW.alike hKc, hDc.weaken (fun _ _ _ _ => trivial)⟩⟩ rfl rfl hl.1 rfl (lv_room (Nat.le_of_ble_eq_true rfl)) dX14_look_44 ⟨Nat.le_of_ble_eq_true rfl, Nat.le_of_ble_eq_true rfl⟩) hS (fun q _ h => hFc q h) hFc (fun r u t H1 locs ht hvm hw hB hz1 hk1 hS => ?_)
  obtain ⟨hP1, hK1, hD1⟩ := hB
  have hw : r = (-1) := hw
  subst hw
  rw [ht] at hP1
  have hK1 := va_K.moved hvm.symm hK1
  obtain ⟨hP, hD⟩ := va_join (wr := []) (w1 := [(a0, .inr (15, [.ref a1, .ref a2, .int 0, .int 0, .int 1, .int 0, .int 0, .int 0, .int 0, .int 0, .int 0, .long 0, .int 0, .int 0]))]) hP hD [0] [] rfl rfl (by decide) (by decide) hk1 hFc hP1 hD1
  have hK := (hK.sub (tys' := []) [] rfl).app hK1
  generalize H1 = H at hP hS ⊢
  have hP : va_P (dC, dI) vwCl [(a0, .inr (15, [.ref a1, .ref a2, .int 0, .int 0, .int 1, .int 0, .int 0, .int 0, .int 0, .int 0, .int 0, .long 0, .int 0, .int 0]))] H := hP
  have hD : va_D A [(a0, .inr (15, [.ref a1, .ref a2, .int 0, .int 0, .int 1, .int 0, .int 0, .int 0, .int 0, .int 0, .int 0, .long 0, .int 0, .int 0]))] := hD
  have hK : va_K (dC, dI) vwCl [] s := hK
  refine lv_istore_n (lv' := [(1, .int (-1)), (0, .ref a0)]) hx hb dX14_look_47 rfl hl (by decide) rfl (fun ls hl => ?_)
  refine lv_iload_n hx hb dX14_look_48 rfl (lv_at hl 0 rfl) ?_
  refine lv_if_ge (tgt := 68) hx hb dX14_look_49 (by decide) (fun c9 => absurd c9 (by decide +kernel)) (fun _ => ?_)
  refine lv_aload_n hx hb dX14_look_52 rfl (lv_at hl 1 rfl) ?_
  refine lv_iconst (v := 0) hx hb dX14_look_53 (by decide) ?_
  refine va_put (D := (dC, dI)) (ci := 15) (v := .int 0) (ty := .int) (C := RX14) (T := TX14) (N := 14) hx hb hts in_f_X14_look_RX14 tyX14 tyX14_ok nmX14 hown hK hP hD hS 0 rfl rfl 5 (by decide) (hts (.fieldLink RX14 44 "TripleStoreModel$Lexer" "kind" "I") (List.mem_of_getElem? (i := 13) rfl)) (fun _ h9 => h9) rfl (by decide +kernel) rfl rfl (Nat.le_of_ble_eq_true rfl) dX14_look_54 (fun H locs hP hD hS => ?_)
  have hP : va_P (dC, dI) vwCl [(a0, .inr (15, [.ref a1, .ref a2, .int 0, .int 0, .int 1, .int 0, .int 0, .int 0, .int 0, .int 0, .int 0, .long 0, .int 0, .int 0]))] H := hP
  have hD : va_D A [(a0, .inr (15, [.ref a1, .ref a2, .int 0, .int 0, .int 1, .int 0, .int 0, .int 0, .int 0, .int 0, .int 0, .long 0, .int 0, .int 0]))] := hD
  refine lv_aload_n hx hb dX14_look_57 rfl (lv_at hl 1 rfl) ?_
  refine lv_aload_n hx hb dX14_look_58 rfl (lv_at hl 1 rfl) ?_
  refine va_get (D := (dC, dI)) (ci := 15) (v := .int 0) (C := RX14) (T := TX14) (N := 14) hx hb hts in_f_X14_look_RX14 hown hK hP 0 rfl rfl 3 (by decide) (hts (.fieldLink RX14 19 "TripleStoreModel$Lexer" "at" "I") (List.mem_of_getElem? (i := 6) rfl)) (fun _ h9 => h9) rfl dX14_look_59 ?_
  refine va_put (D := (dC, dI)) (ci := 15) (v := .int 0) (ty := .int) (C := RX14) (T := TX14) (N := 14) hx hb hts in_f_X14_look_RX14 tyX14 tyX14_ok nmX14 hown hK hP hD hS 0 rfl rfl 7 (by decide) (hts (.fieldLink RX14 59 "TripleStoreModel$Lexer" "end" "I") (List.mem_of_getElem? (i := 14) rfl)) (fun _ h9 => h9) rfl (by decide +kernel) rfl rfl (Nat.le_of_ble_eq_true rfl) dX14_look_62 (fun H locs hP hD hS => ?_)
  have hP : va_P (dC, dI) vwCl [(a0, .inr (15, [.ref a1, .ref a2, .int 0, .int 0, .int 1, .int 0, .int 0, .int 0, .int 0, .int 0, .int 0, .long 0, .int 0, .int 0]))] H := hP
  have hD : va_D A [(a0, .inr (15, [.ref a1, .ref a2, .int 0, .int 0, .int 1, .int 0, .int 0, .int 0, .int 0, .int 0, .int 0, .long 0, .int 0, .int 0]))] := hD
  refine lv_goto (tgt := 266) hx hb dX14_look_65 (by decide) ?_
  refine lv_aload_n hx hb dX14_look_266 rfl (lv_at hl 1 rfl) ?_
  refine va_get (D := (dC, dI)) (ci := 15) (v := .int 0) (C := RX14) (T := TX14) (N := 14) hx hb hts in_f_X14_look_RX14 hown hK hP 0 rfl rfl 5 (by decide) (hts (.fieldLink RX14 44 "TripleStoreModel$Lexer" "kind" "I") (List.mem_of_getElem? (i := 13) rfl)) (fun _ h9 => h9) rfl dX14_look_267 ?_
  exact W.iret (v := 0) hx hb hr (fun t ht hW => ⟨⟨0, (), rfl, rfl, by rw [ht]; exact hP, va_K.moved hW.alike hK, hD⟩, hS.F ht⟩) hS.2.2 dX14_look_270
def fw_f_X16_check : List Cond := .code yX16_check cX16_check 1 none :: ([.fieldLink RX16 34 "TripleStoreModel$Reader" "lexer" "LTripleStoreModel$Lexer;", .methodLink RX16 66 yX14_look, .instanceMethod yX14_look, .selects RX14 yX14_look yX14_look, .initialized RX14] ++ wsX160 ++ fw_f_X14_look)
theorem in_f_X16_check_RX16 : ∀ w ∈ u_ws RX16 TX16 33, w ∈ fw_f_X16_check := fun _ h => List.mem_cons_of_mem _ (List.mem_append_left _ (List.mem_append_right _ h))
theorem gd_f_X16_check : (fw_f_X16_check).all goodWord = true := by decide +kernel
theorem gf_f_X16_check_f_X14_look : GoodIn fw_f_X16_check fw_f_X14_look := goodIn_sub (fun _ h => List.mem_cons_of_mem _ (List.mem_append_right _ h)) gd_f_X14_look
theorem gh_f_X16_check_f_X14_look_66 : GoodIn fw_f_X16_check (wsV RX16 66 RX14 yX14_look fw_f_X14_look) := goodIn_app (goodIn_r _ [2, 3, 4, 5] (by decide +kernel) (by decide +kernel)) gf_f_X16_check_f_X14_look
set_option maxHeartbeats 4000000 in
set_option maxRecDepth 100000 in
theorem f_X16_check (l : Launch) (dC : Nat → ClassId) (dI : Nat → Nat → Nat) (a0 : Nat) (a1 : Nat) (a2 : Nat) (a3 : Nat) (a4 : Nat) (a5 : Nat) (a6 : Nat) (a7 : Nat) (a8 : Nat) (a9 : Nat) (a61 : Nat) (sz : Nat) : Met l yX16_check fw_f_X16_check ({ frames := 4, cells := 0, slots := 0, locals := 84 }) (va_Pc [.ref a0] (fun U => U.heap.size = sz ∧ va_P (dC, dI) vwCl [(a0, .inr (17, [.ref a1, .ref a2, .ref a3, .ref a4, .ref a5, .int 0, .int 0, .int 0, .int (-1), .long 0, .ref a6, .int 0, .int 0, .int 0, .int 0, .int 0, .int 0, .int 0, .int (-1), .int 0, .int 0, .int 0, .int 0, .int 0, .long 0, .int 0, .ref a7, .int 0, .ref a8, .int 0, .int 0, .ref a9, .int 0])), (a1, .inr (15, [.ref a2, .ref a61, .int 0, .int 0, .int 0, .int 0, .int 0, .int 0, .int 0, .int 0, .int 0, .long 0, .int 0, .int 0]))] U.heap ∧ va_K (dC, dI) vwCl [] U ∧ va_D (fun _ => True) [(a0, .inr (17, [.ref a1, .ref a2, .ref a3, .ref a4, .ref a5, .int 0, .int 0, .int 0, .int (-1), .long 0, .ref a6, .int 0, .int 0, .int 0, .int 0, .int 0, .int 0, .int 0, .int (-1), .int 0, .int 0, .int 0, .int 0, .int 0, .long 0, .int 0, .ref a7, .int 0, .ref a8, .int 0, .int 0, .ref a9, .int 0])), (a1, .inr (15, [.ref a2, .ref a61, .int 0, .int 0, .int 0, .int 0, .int 0, .int 0, .int 0, .int 0, .int 0, .long 0, .int 0, .int 0]))])) (va_Qv (fun _ : Unit => True) (fun _ t => va_P (dC, dI) vwCl [(a0, .inr (17, [.ref a1, .ref a2, .ref a3, .ref a4, .ref a5, .int 0, .int 0, .int 0, .int (-1), .long 0, .ref a6, .int 0, .int 0, .int 0, .int 0, .int 0, .int 0, .int 0, .int (-1), .int 0, .int 0, .int 0, .int 0, .int 0, .long 0, .int 0, .ref a7, .int 0, .ref a8, .int 0, .int 0, .ref a9, .int 0])), (a1, .inr (15, [.ref a2, .ref a61, .int 0, .int 0, .int 1, .int 0, .int 0, .int 0, .int 0, .int 0, .int 0, .long 0, .int 0, .int 0]))] t.heap ∧ va_K (dC, dI) vwCl [] t ∧ va_D (va_A [(a0, .inr (17, [.ref a1, .ref a2, .ref a3, .ref a4, .ref a5, .int 0, .int 0, .int 0, .int (-1), .long 0, .ref a6, .int 0, .int 0, .int 0, .int 0, .int 0, .int 0, .int 0, .int (-1), .int 0, .int 0, .int 0, .int 0, .int 0, .long 0, .int 0, .ref a7, .int 0, .ref a8, .int 0, .int 0, .ref a9, .int 0])), (a1, .inr (15, [.ref a2, .ref a61, .int 0, .int 0, .int 0, .int 0, .int 0, .int 0, .int 0, .int 0, .int 0, .long 0, .int 0, .int 0]))] sz) [(a0, .inr (17, [.ref a1, .ref a2, .ref a3, .ref a4, .ref a5, .int 0, .int 0, .int 0, .int (-1), .long 0, .ref a6, .int 0, .int 0, .int 0, .int 0, .int 0, .int 0, .int 0, .int (-1), .int 0, .int 0, .int 0, .int 0, .int 0, .long 0, .int 0, .ref a7, .int 0, .ref a8, .int 0, .int 0, .ref a9, .int 0])), (a1, .inr (15, [.ref a2, .ref a61, .int 0, .int 0, .int 1, .int 0, .int 0, .int 0, .int 0, .int 0, .int 0, .long 0, .int 0, .int 0]))]) (va_A [(a0, .inr (17, [.ref a1, .ref a2, .ref a3, .ref a4, .ref a5, .int 0, .int 0, .int 0, .int (-1), .long 0, .ref a6, .int 0, .int 0, .int 0, .int 0, .int 0, .int 0, .int 0, .int (-1), .int 0, .int 0, .int 0, .int 0, .int 0, .long 0, .int 0, .ref a7, .int 0, .ref a8, .int 0, .int 0, .ref a9, .int 0])), (a1, .inr (15, [.ref a2, .ref a61, .int 0, .int 0, .int 0, .int 0, .int 0, .int 0, .int 0, .int 0, .int 0, .long 0, .int 0, .int 0]))] sz)) 0 0 (va_A [(a0, .inr (17, [.ref a1, .ref a2, .ref a3, .ref a4, .ref a5, .int 0, .int 0, .int 0, .int (-1), .long 0, .ref a6, .int 0, .int 0, .int 0, .int 0, .int 0, .int 0, .int 0, .int (-1), .int 0, .int 0, .int 0, .int 0, .int 0, .long 0, .int 0, .ref a7, .int 0, .ref a8, .int 0, .int 0, .ref a9, .int 0])), (a1, .inr (15, [.ref a2, .ref a61, .int 0, .int 0, .int 0, .int 0, .int 0, .int 0, .int 0, .int 0, .int 0, .long 0, .int 0, .int 0]))] sz) := by
  refine Met.ofW (cc := cX16_check) (maxL := 1) (ret := none) (by decide) rfl ?_
  intro p e s m args below meth c s₁ B hml hv
  obtain ⟨rfl, hsz, hP, hK, hD0⟩ := hv
  have hx := B.exec
  have hb := B.bytes
  have hr := B.returns
  have hts := atoms_spec (ws := fw_f_X16_check) B.pre
  have hown : s.vm.findClass RX16 = some m.cls := findClass_of_methodNamed B.named
  have hlocks := B.notSynchronized
  subst hsz
  have hD := hD0.self (sz := s.heap.size)
  generalize hAe : va_A [(a0, .inr (17, [.ref a1, .ref a2, .ref a3, .ref a4, .ref a5, .int 0, .int 0, .int 0, .int (-1), .long 0, .ref a6, .int 0, .int 0, .int 0, .int 0, .int 0, .int 0, .int 0, .int (-1), .int 0, .int 0, .int 0, .int 0, .int 0, .long 0, .int 0, .ref a7, .int 0, .ref a8, .int 0, .int 0, .ref a9, .int 0])), (a1, .inr (15, [.ref a2, .ref a61, .int 0, .int 0, .int 0, .int 0, .int 0, .int 0, .int 0, .int 0, .int 0, .long 0, .int 0, .int 0]))] s.heap.size = A at hD ⊢
  have hA : ∀ q : Nat, s.heap.size ≤ q → A q := fun q h => by rw [← hAe]; exact Or.inr h
  obtain ⟨H, hH⟩ : ∃ z, z = s.heap := ⟨_, rfl⟩
  rw [← hH] at hP
  have hS : va_S A s.heap H [] := by rw [hH]; exact va_S.rf
  have hP : va_P (dC, dI) vwCl [(a0, .inr (17, [.ref a1, .ref a2, .ref a3, .ref a4, .ref a5, .int 0, .int 0, .int 0, .int (-1), .long 0, .ref a6, .int 0, .int 0, .int 0, .int 0, .int 0, .int 0, .int 0, .int (-1), .int 0, .int 0, .int 0, .int 0, .int 0, .long 0, .int 0, .ref a7, .int 0, .ref a8, .int 0, .int 0, .ref a9, .int 0])), (a1, .inr (15, [.ref a2, .ref a61, .int 0, .int 0, .int 0, .int 0, .int 0, .int 0, .int 0, .int 0, .int 0, .long 0, .int 0, .int 0]))] H := hP
  have hl := lv_entry ([.ref a0]) (n := 1) (Nat.le_of_ble_eq_true rfl)
  rw [lg_entry_eq]
  generalize (lg_sl ([.ref a0]) ++ List.replicate (1 - (lg_sl ([.ref a0])).length) Slot.unset).toArray = ls at hl ⊢
  have hl : lv_has ls 1 [(0, .ref a0)] := hl
  rw [← hH]
  refine lv_aload_n hx hb dX16_check_0 rfl (lv_at hl 0 rfl) ?_
  refine va_get (D := (dC, dI)) (ci := 17) (v := .ref a1) (C := RX16) (T := TX16) (N := 33) hx hb hts in_f_X16_check_RX16 hown hK hP 0 rfl rfl 0 (by decide) (hts (.fieldLink RX16 34 "TripleStoreModel$Reader" "lexer" "LTripleStoreModel$Lexer;") (List.mem_of_getElem? (i := 1) rfl)) (fun _ h9 => h9) rfl dX16_check_1 ?_
  have hPc := hP.sub (ws' := [(a1, .inr (15, [.ref a2, .ref a61, .int 0, .int 0, .int 0, .int 0, .int 0, .int 0, .int 0, .int 0, .int 0, .long 0, .int 0, .int 0]))]) [1] rfl
  have hDc := hD.sub (ws' := [(a1, .inr (15, [.ref a2, .ref a61, .int 0, .int 0, .int 0, .int 0, .int 0, .int 0, .int 0, .int 0, .int 0, .long 0, .int 0, .int 0]))]) [1] (by decide) rfl
  have hKc := hK.sub (tys' := []) [] rfl
  have hFc := va_free (wc := [(a1, .inr (15, [.ref a2, .ref a61, .int 0, .int 0, .int 0, .int 0, .int 0, .int 0, .int 0, .int 0, .int 0, .long 0, .int 0, .int 0]))]) hD hS hA [1] rfl
  refine va_calli (va_runV (As := []) (rest := []) ⟨hx, hb, hml, hown, hts⟩ (f_X14_look l dC dI a1 a2 a61 H.size) (cwV 0 hts gh_f_X16_check_f_X14_look_66 rfl rfl rfl (by decide +kernel) ⟨Nat.le_of_ble_eq_true rfl, Nat.le_of_ble_eq_true rfl⟩) ⟨fun a U g mk q => by obtain ⟨q0, q1, qP, qK, qD⟩ := q; exact ⟨q0, q1, qP, va_K.moved (u := U) (U := U.calling g mk a) (Vm.Alike.refl U.vm) qK, qD⟩, va_recv hKc hPc (ci := 15) (q0 := 0) rfl rfl, fun U hU hW => ⟨rfl, by rw [hU], by rw [hU]; exact hPc, va_K.moved hW.alike hKc, hDc.weaken (fun _ _ _ _ => trivial)⟩⟩ rfl rfl hl.1 rfl (lv_room (Nat.le_of_ble_eq_true rfl)) dX16_check_4 ⟨Nat.le_of_ble_eq_true rfl, Nat.le_of_ble_eq_true rfl⟩) hS (fun q _ h => hFc q h) hFc (fun r u t H1 locs ht hvm hw hB hz1 hk1 hS => ?_)
  obtain ⟨hP1, hK1, hD1⟩ := hB
  have hw : r = 0 := hw
  subst hw
  rw [ht] at hP1
  have hK1 := va_K.moved hvm.symm hK1
  obtain ⟨hP, hD⟩ := va_join (wr := [(a0, .inr (17, [.ref a1, .ref a2, .ref a3, .ref a4, .ref a5, .int 0, .int 0, .int 0, .int (-1), .long 0, .ref a6, .int 0, .int 0, .int 0, .int 0, .int 0, .int 0, .int 0, .int (-1), .int 0, .int 0, .int 0, .int 0, .int 0, .long 0, .int 0, .ref a7, .int 0, .ref a8, .int 0, .int 0, .ref a9, .int 0]))]) (w1 := [(a1, .inr (15, [.ref a2, .ref a61, .int 0, .int 0, .int 1, .int 0, .int 0, .int 0, .int 0, .int 0, .int 0, .long 0, .int 0, .int 0]))]) hP hD [1] [0] rfl rfl (by decide) (by decide) hk1 hFc hP1 hD1
  have hK := (hK.sub (tys' := []) [] rfl).app hK1
  generalize H1 = H at hP hS ⊢
  have hP : va_P (dC, dI) vwCl [(a0, .inr (17, [.ref a1, .ref a2, .ref a3, .ref a4, .ref a5, .int 0, .int 0, .int 0, .int (-1), .long 0, .ref a6, .int 0, .int 0, .int 0, .int 0, .int 0, .int 0, .int 0, .int (-1), .int 0, .int 0, .int 0, .int 0, .int 0, .long 0, .int 0, .ref a7, .int 0, .ref a8, .int 0, .int 0, .ref a9, .int 0])), (a1, .inr (15, [.ref a2, .ref a61, .int 0, .int 0, .int 1, .int 0, .int 0, .int 0, .int 0, .int 0, .int 0, .long 0, .int 0, .int 0]))] H := hP
  have hD : va_D A [(a0, .inr (17, [.ref a1, .ref a2, .ref a3, .ref a4, .ref a5, .int 0, .int 0, .int 0, .int (-1), .long 0, .ref a6, .int 0, .int 0, .int 0, .int 0, .int 0, .int 0, .int 0, .int (-1), .int 0, .int 0, .int 0, .int 0, .int 0, .long 0, .int 0, .ref a7, .int 0, .ref a8, .int 0, .int 0, .ref a9, .int 0])), (a1, .inr (15, [.ref a2, .ref a61, .int 0, .int 0, .int 1, .int 0, .int 0, .int 0, .int 0, .int 0, .int 0, .long 0, .int 0, .int 0]))] := hD
  have hK : va_K (dC, dI) vwCl [] s := hK
  refine lv_iconst (v := 5) hx hb dX16_check_7 (by decide) ?_
  refine lv_icmp_ne (tgt := 23) hx hb dX16_check_8 (by decide) (fun _ => ?_) (fun c9 => absurd c9 (by decide +kernel))
  exact W.vret hx hb hr (fun t ht hW => ⟨⟨(), rfl, trivial, by rw [ht]; exact hP, va_K.moved hW.alike hK, hD⟩, hS.F ht⟩) hS.2.2 dX16_check_23
def fw_f_X14_look_2 : List Cond := .code yX14_look cX14_look 2 (some .int) :: ([.fieldLink RX14 23 "TripleStoreModel$Lexer" "loaded" "Z", .fieldLink RX14 44 "TripleStoreModel$Lexer" "kind" "I"] ++ wsX140)
theorem in_f_X14_look_2_RX14 : ∀ w ∈ u_ws RX14 TX14 14, w ∈ fw_f_X14_look_2 := fun _ h => List.mem_cons_of_mem _ (List.mem_append_right _ h)
theorem gd_f_X14_look_2 : (fw_f_X14_look_2).all goodWord = true := by decide +kernel
set_option maxHeartbeats 4000000 in
set_option maxRecDepth 100000 in
theorem f_X14_look_2 (l : Launch) (dC : Nat → ClassId) (dI : Nat → Nat → Nat) (a0 : Nat) (a1 : Nat) (a2 : Nat) (sz : Nat) : Met l yX14_look fw_f_X14_look_2 ({ frames := 1, cells := 0, slots := 0, locals := 20 }) (va_Pc [.ref a0] (fun U => U.heap.size = sz ∧ va_P (dC, dI) vwCl [(a0, .inr (15, [.ref a1, .ref a2, .int 0, .int 0, .int 1, .int 0, .int 0, .int 0, .int 0, .int 0, .int 0, .long 0, .int 0, .int 0]))] U.heap ∧ va_K (dC, dI) vwCl [] U ∧ va_D (fun _ => True) [(a0, .inr (15, [.ref a1, .ref a2, .int 0, .int 0, .int 1, .int 0, .int 0, .int 0, .int 0, .int 0, .int 0, .long 0, .int 0, .int 0]))])) (va_Qi (fun (r : Int32) (_ : Unit) => r = 0) (fun _ t => va_P (dC, dI) vwCl [(a0, .inr (15, [.ref a1, .ref a2, .int 0, .int 0, .int 1, .int 0, .int 0, .int 0, .int 0, .int 0, .int 0, .long 0, .int 0, .int 0]))] t.heap ∧ va_K (dC, dI) vwCl [] t ∧ va_D (va_A [(a0, .inr (15, [.ref a1, .ref a2, .int 0, .int 0, .int 1, .int 0, .int 0, .int 0, .int 0, .int 0, .int 0, .long 0, .int 0, .int 0]))] sz) [(a0, .inr (15, [.ref a1, .ref a2, .int 0, .int 0, .int 1, .int 0, .int 0, .int 0, .int 0, .int 0, .int 0, .long 0, .int 0, .int 0]))]) (va_A [(a0, .inr (15, [.ref a1, .ref a2, .int 0, .int 0, .int 1, .int 0, .int 0, .int 0, .int 0, .int 0, .int 0, .long 0, .int 0, .int 0]))] sz)) 0 0 (va_A [(a0, .inr (15, [.ref a1, .ref a2, .int 0, .int 0, .int 1, .int 0, .int 0, .int 0, .int 0, .int 0, .int 0, .long 0, .int 0, .int 0]))] sz) := by
  refine Met.ofW (cc := cX14_look) (maxL := 2) (ret := (some .int)) (by decide) rfl ?_
  intro p e s m args below meth c s₁ B hml hv
  obtain ⟨rfl, hsz, hP, hK, hD0⟩ := hv
  have hx := B.exec
  have hb := B.bytes
  have hr := B.returns
  have hts := atoms_spec (ws := fw_f_X14_look_2) B.pre
  have hown : s.vm.findClass RX14 = some m.cls := findClass_of_methodNamed B.named
  have hlocks := B.notSynchronized
  subst hsz
  have hD := hD0.self (sz := s.heap.size)
  generalize hAe : va_A [(a0, .inr (15, [.ref a1, .ref a2, .int 0, .int 0, .int 1, .int 0, .int 0, .int 0, .int 0, .int 0, .int 0, .long 0, .int 0, .int 0]))] s.heap.size = A at hD ⊢
  have hA : ∀ q : Nat, s.heap.size ≤ q → A q := fun q h => by rw [← hAe]; exact Or.inr h
  obtain ⟨H, hH⟩ : ∃ z, z = s.heap := ⟨_, rfl⟩
  rw [← hH] at hP
  have hS : va_S A s.heap H [] := by rw [hH]; exact va_S.rf
  have hP : va_P (dC, dI) vwCl [(a0, .inr (15, [.ref a1, .ref a2, .int 0, .int 0, .int 1, .int 0, .int 0, .int 0, .int 0, .int 0, .int 0, .long 0, .int 0, .int 0]))] H := hP
  have hl := lv_entry ([.ref a0]) (n := 2) (Nat.le_of_ble_eq_true rfl)
  rw [lg_entry_eq]
  generalize (lg_sl ([.ref a0]) ++ List.replicate (2 - (lg_sl ([.ref a0])).length) Slot.unset).toArray = ls at hl ⊢
  have hl : lv_has ls 2 [(0, .ref a0)] := hl
  rw [← hH]
  refine lv_aload_n hx hb dX14_look_0 rfl (lv_at hl 0 rfl) ?_
  refine va_get (D := (dC, dI)) (ci := 15) (v := .int 1) (C := RX14) (T := TX14) (N := 14) hx hb hts in_f_X14_look_2_RX14 hown hK hP 0 rfl rfl 4 (by decide) (hts (.fieldLink RX14 23 "TripleStoreModel$Lexer" "loaded" "Z") (List.mem_of_getElem? (i := 1) rfl)) (fun _ h9 => h9) rfl dX14_look_1 ?_
  refine lv_if_eq (tgt := 12) hx hb dX14_look_4 (by decide) (fun c9 => absurd c9 (by decide +kernel)) (fun _ => ?_)
  refine lv_aload_n hx hb dX14_look_7 rfl (lv_at hl 0 rfl) ?_
  refine va_get (D := (dC, dI)) (ci := 15) (v := .int 0) (C := RX14) (T := TX14) (N := 14) hx hb hts in_f_X14_look_2_RX14 hown hK hP 0 rfl rfl 5 (by decide) (hts (.fieldLink RX14 44 "TripleStoreModel$Lexer" "kind" "I") (List.mem_of_getElem? (i := 2) rfl)) (fun _ h9 => h9) rfl dX14_look_8 ?_
  exact W.iret (v := 0) hx hb hr (fun t ht hW => ⟨⟨0, (), rfl, rfl, by rw [ht]; exact hP, va_K.moved hW.alike hK, hD⟩, hS.F ht⟩) hS.2.2 dX14_look_11
def fw_f_X14_isWordHere : List Cond := .code yX14_isWordHere cX14_isWordHere 3 (some .boolean) :: ([.methodLink RX14 95 yX14_look, .instanceMethod yX14_look, .selects RX14 yX14_look yX14_look, .initialized RX14] ++ fw_f_X14_look_2)
theorem gd_f_X14_isWordHere : (fw_f_X14_isWordHere).all goodWord = true := by decide +kernel
theorem gf_f_X14_isWordHere_f_X14_look_2 : GoodIn fw_f_X14_isWordHere fw_f_X14_look_2 := goodIn_sub (fun _ h => List.mem_cons_of_mem _ (List.mem_append_right _ h)) gd_f_X14_look_2
theorem gh_f_X14_isWordHere_f_X14_look_2_95 : GoodIn fw_f_X14_isWordHere (wsV RX14 95 RX14 yX14_look fw_f_X14_look_2) := goodIn_app (goodIn_r _ [1, 2, 3, 4] (by decide +kernel) (by decide +kernel)) gf_f_X14_isWordHere_f_X14_look_2
set_option maxHeartbeats 4000000 in
set_option maxRecDepth 100000 in
theorem f_X14_isWordHere (l : Launch) (dC : Nat → ClassId) (dI : Nat → Nat → Nat) (a0 : Nat) (a1 : Nat) (a2 : Nat) (a3 : Nat) (sz : Nat) : Met l yX14_isWordHere fw_f_X14_isWordHere ({ frames := 2, cells := 0, slots := 0, locals := 41 }) (va_Pc [.ref a0, .ref a1] (fun U => U.heap.size = sz ∧ va_P (dC, dI) vwCl [(a0, .inr (15, [.ref a2, .ref a3, .int 0, .int 0, .int 1, .int 0, .int 0, .int 0, .int 0, .int 0, .int 0, .long 0, .int 0, .int 0]))] U.heap ∧ va_K (dC, dI) vwCl [] U ∧ va_D (fun _ => True) [(a0, .inr (15, [.ref a2, .ref a3, .int 0, .int 0, .int 1, .int 0, .int 0, .int 0, .int 0, .int 0, .int 0, .long 0, .int 0, .int 0]))])) (va_Qi (fun (r : Int32) (_ : Unit) => r = 0) (fun _ t => va_P (dC, dI) vwCl [(a0, .inr (15, [.ref a2, .ref a3, .int 0, .int 0, .int 1, .int 0, .int 0, .int 0, .int 0, .int 0, .int 0, .long 0, .int 0, .int 0]))] t.heap ∧ va_K (dC, dI) vwCl [] t ∧ va_D (va_A [(a0, .inr (15, [.ref a2, .ref a3, .int 0, .int 0, .int 1, .int 0, .int 0, .int 0, .int 0, .int 0, .int 0, .long 0, .int 0, .int 0]))] sz) [(a0, .inr (15, [.ref a2, .ref a3, .int 0, .int 0, .int 1, .int 0, .int 0, .int 0, .int 0, .int 0, .int 0, .long 0, .int 0, .int 0]))]) (va_A [(a0, .inr (15, [.ref a2, .ref a3, .int 0, .int 0, .int 1, .int 0, .int 0, .int 0, .int 0, .int 0, .int 0, .long 0, .int 0, .int 0]))] sz)) 0 0 (va_A [(a0, .inr (15, [.ref a2, .ref a3, .int 0, .int 0, .int 1, .int 0, .int 0, .int 0, .int 0, .int 0, .int 0, .long 0, .int 0, .int 0]))] sz) := by
  refine Met.ofW (cc := cX14_isWordHere) (maxL := 3) (ret := (some .boolean)) (by decide) rfl ?_
  intro p e s m args below meth c s₁ B hml hv
  obtain ⟨rfl, hsz, hP, hK, hD0⟩ := hv
  have hx := B.exec
  have hb := B.bytes
  have hr := B.returns
  have hts := atoms_spec (ws := fw_f_X14_isWordHere) B.pre
  have hown : s.vm.findClass RX14 = some m.cls := findClass_of_methodNamed B.named
  have hlocks := B.notSynchronized
  subst hsz
  have hD := hD0.self (sz := s.heap.size)
  generalize hAe : va_A [(a0, .inr (15, [.ref a2, .ref a3, .int 0, .int 0, .int 1, .int 0, .int 0, .int 0, .int 0, .int 0, .int 0, .long 0, .int 0, .int 0]))] s.heap.size = A at hD ⊢
  have hA : ∀ q : Nat, s.heap.size ≤ q → A q := fun q h => by rw [← hAe]; exact Or.inr h
  obtain ⟨H, hH⟩ : ∃ z, z = s.heap := ⟨_, rfl⟩
  rw [← hH] at hP
  have hS : va_S A s.heap H [] := by rw [hH]; exact va_S.rf
  have hP : va_P (dC, dI) vwCl [(a0, .inr (15, [.ref a2, .ref a3, .int 0, .int 0, .int 1, .int 0, .int 0, .int 0, .int 0, .int 0, .int 0, .long 0, .int 0, .int 0]))] H := hP
  have hl := lv_entry ([.ref a0, .ref a1]) (n := 3) (Nat.le_of_ble_eq_true rfl)
  rw [lg_entry_eq]
  generalize (lg_sl ([.ref a0, .ref a1]) ++ List.replicate (3 - (lg_sl ([.ref a0, .ref a1])).length) Slot.unset).toArray = ls at hl ⊢
  have hl : lv_has ls 3 [(0, .ref a0), (1, .ref a1)] := hl
  rw [← hH]
  refine lv_aload_n hx hb dX14_isWordHere_0 rfl (lv_at hl 0 rfl) ?_
  have hPc := hP.sub (ws' := [(a0, .inr (15, [.ref a2, .ref a3, .int 0, .int 0, .int 1, .int 0, .int 0, .int 0, .int 0, .int 0, .int 0, .long 0, .int 0, .int 0]))]) [0] rfl
  have hDc := hD.sub (ws' := [(a0, .inr (15, [.ref a2, .ref a3, .int 0, .int 0, .int 1, .int 0, .int 0, .int 0, .int 0, .int 0, .int 0, .long 0, .int 0, .int 0]))]) [0] (by decide) rfl
  have hKc := hK.sub (tys' := []) [] rfl
  have hFc := va_free (wc := [(a0, .inr (15, [.ref a2, .ref a3, .int 0, .int 0, .int 1, .int 0, .int 0, .int 0, .int 0, .int 0, .int 0, .long 0, .int 0, .int 0]))]) hD hS hA [0] rfl
  refine va_calli (va_runV (As := []) (rest := []) ⟨hx, hb, hml, hown, hts⟩ (f_X14_look_2 l dC dI a0 a2 a3 H.size) (cwV 0 hts gh_f_X14_isWordHere_f_X14_look_2_95 rfl rfl rfl (by decide +kernel) ⟨Nat.le_of_ble_eq_true rfl, Nat.le_of_ble_eq_true rfl⟩) ⟨fun a U g mk q => by obtain ⟨q0, q1, qP, qK, qD⟩ := q; exact ⟨q0, q1, qP, va_K.moved (u := U) (U := U.calling g mk a) (Vm.Alike.refl U.vm) qK, qD⟩, va_recv hKc hPc (ci := 15) (q0 := 0) rfl rfl, fun U hU hW => ⟨rfl, by rw [hU], by rw [hU]; exact hPc, va_K.moved hW.alike hKc, hDc.weaken (fun _ _ _ _ => trivial)⟩⟩ rfl rfl hl.1 rfl (lv_room (Nat.le_of_ble_eq_true rfl)) dX14_isWordHere_1 ⟨Nat.le_of_ble_eq_true rfl, Nat.le_of_ble_eq_true rfl⟩) hS (fun q _ h => hFc q h) hFc (fun r u t H1 locs ht hvm hw hB hz1 hk1 hS => ?_)
  obtain ⟨hP1, hK1, hD1⟩ := hB
  have hw : r = 0 := hw
  subst hw
  rw [ht] at hP1
  have hK1 := va_K.moved hvm.symm hK1
  obtain ⟨hP, hD⟩ := va_join (wr := []) (w1 := [(a0, .inr (15, [.ref a2, .ref a3, .int 0, .int 0, .int 1, .int 0, .int 0, .int 0, .int 0, .int 0, .int 0, .long 0, .int 0, .int 0]))]) hP hD [0] [] rfl rfl (by decide) (by decide) hk1 hFc hP1 hD1
  have hK := (hK.sub (tys' := []) [] rfl).app hK1
  generalize H1 = H at hP hS ⊢
  have hP : va_P (dC, dI) vwCl [(a0, .inr (15, [.ref a2, .ref a3, .int 0, .int 0, .int 1, .int 0, .int 0, .int 0, .int 0, .int 0, .int 0, .long 0, .int 0, .int 0]))] H := hP
  have hD : va_D A [(a0, .inr (15, [.ref a2, .ref a3, .int 0, .int 0, .int 1, .int 0, .int 0, .int 0, .int 0, .int 0, .int 0, .long 0, .int 0, .int 0]))] := hD
  have hK : va_K (dC, dI) vwCl [] s := hK
  refine lv_iconst (v := 3) hx hb dX14_isWordHere_4 (by decide) ?_
  refine lv_icmp_ne (tgt := 24) hx hb dX14_isWordHere_5 (by decide) (fun _ => ?_) (fun c9 => absurd c9 (by decide +kernel))
  refine lv_iconst (v := 0) hx hb dX14_isWordHere_24 (by decide) ?_
  exact W.zret (v := 0) hx hb hr rfl (fun t ht hW => ⟨⟨0, (), rfl, rfl, by rw [ht]; exact hP, va_K.moved hW.alike hK, hD⟩, hS.F ht⟩) hS.2.2 dX14_isWordHere_25
def fw_f_X16_isWord : List Cond := .code yX16_isWord cX16_isWord 2 (some .boolean) :: ([.fieldLink RX16 34 "TripleStoreModel$Reader" "lexer" "LTripleStoreModel$Lexer;", .methodLink RX16 80 yX14_isWordHere, .instanceMethod yX14_isWordHere, .selects RX14 yX14_isWordHere yX14_isWordHere, .initialized RX14] ++ wsX160 ++ fw_f_X14_isWordHere)
theorem in_f_X16_isWord_RX16 : ∀ w ∈ u_ws RX16 TX16 33, w ∈ fw_f_X16_isWord := fun _ h => List.mem_cons_of_mem _ (List.mem_append_left _ (List.mem_append_right _ h))
theorem gd_f_X16_isWord : (fw_f_X16_isWord).all goodWord = true := by decide +kernel
theorem gf_f_X16_isWord_f_X14_isWordHere : GoodIn fw_f_X16_isWord fw_f_X14_isWordHere := goodIn_sub (fun _ h => List.mem_cons_of_mem _ (List.mem_append_right _ h)) gd_f_X14_isWordHere
theorem gh_f_X16_isWord_f_X14_isWordHere_80 : GoodIn fw_f_X16_isWord (wsV RX16 80 RX14 yX14_isWordHere fw_f_X14_isWordHere) := goodIn_app (goodIn_r _ [2, 3, 4, 5] (by decide +kernel) (by decide +kernel)) gf_f_X16_isWord_f_X14_isWordHere
set_option maxHeartbeats 4000000 in
set_option maxRecDepth 100000 in
theorem f_X16_isWord (l : Launch) (dC : Nat → ClassId) (dI : Nat → Nat → Nat) (a0 : Nat) (a1 : Nat) (a3 : Nat) (a4 : Nat) (a5 : Nat) (a6 : Nat) (a2 : Nat) (a7 : Nat) (a8 : Nat) (a9 : Nat) (a10 : Nat) (a11 : Nat) (sz : Nat) : Met l yX16_isWord fw_f_X16_isWord ({ frames := 3, cells := 0, slots := 0, locals := 63 }) (va_Pc [.ref a0, .ref a1] (fun U => U.heap.size = sz ∧ va_P (dC, dI) vwCl [(a0, .inr (17, [.ref a3, .ref a4, .ref a5, .ref a6, .ref a2, .int 0, .int 0, .int 0, .int (-1), .long 0, .ref a7, .int 0, .int 0, .int 0, .int 0, .int 0, .int 0, .int 0, .int (-1), .int 0, .int 0, .int 0, .int 0, .int 0, .long 0, .int 0, .ref a8, .int 0, .ref a9, .int 0, .int 0, .ref a10, .int 0])), (a3, .inr (15, [.ref a4, .ref a11, .int 0, .int 0, .int 1, .int 0, .int 0, .int 0, .int 0, .int 0, .int 0, .long 0, .int 0, .int 0]))] U.heap ∧ va_K (dC, dI) vwCl [] U ∧ va_D (fun _ => True) [(a0, .inr (17, [.ref a3, .ref a4, .ref a5, .ref a6, .ref a2, .int 0, .int 0, .int 0, .int (-1), .long 0, .ref a7, .int 0, .int 0, .int 0, .int 0, .int 0, .int 0, .int 0, .int (-1), .int 0, .int 0, .int 0, .int 0, .int 0, .long 0, .int 0, .ref a8, .int 0, .ref a9, .int 0, .int 0, .ref a10, .int 0])), (a3, .inr (15, [.ref a4, .ref a11, .int 0, .int 0, .int 1, .int 0, .int 0, .int 0, .int 0, .int 0, .int 0, .long 0, .int 0, .int 0]))])) (va_Qi (fun (r : Int32) (_ : Unit) => r = 0) (fun _ t => va_P (dC, dI) vwCl [(a0, .inr (17, [.ref a3, .ref a4, .ref a5, .ref a6, .ref a2, .int 0, .int 0, .int 0, .int (-1), .long 0, .ref a7, .int 0, .int 0, .int 0, .int 0, .int 0, .int 0, .int 0, .int (-1), .int 0, .int 0, .int 0, .int 0, .int 0, .long 0, .int 0, .ref a8, .int 0, .ref a9, .int 0, .int 0, .ref a10, .int 0])), (a3, .inr (15, [.ref a4, .ref a11, .int 0, .int 0, .int 1, .int 0, .int 0, .int 0, .int 0, .int 0, .int 0, .long 0, .int 0, .int 0]))] t.heap ∧ va_K (dC, dI) vwCl [] t ∧ va_D (va_A [(a0, .inr (17, [.ref a3, .ref a4, .ref a5, .ref a6, .ref a2, .int 0, .int 0, .int 0, .int (-1), .long 0, .ref a7, .int 0, .int 0, .int 0, .int 0, .int 0, .int 0, .int 0, .int (-1), .int 0, .int 0, .int 0, .int 0, .int 0, .long 0, .int 0, .ref a8, .int 0, .ref a9, .int 0, .int 0, .ref a10, .int 0])), (a3, .inr (15, [.ref a4, .ref a11, .int 0, .int 0, .int 1, .int 0, .int 0, .int 0, .int 0, .int 0, .int 0, .long 0, .int 0, .int 0]))] sz) [(a0, .inr (17, [.ref a3, .ref a4, .ref a5, .ref a6, .ref a2, .int 0, .int 0, .int 0, .int (-1), .long 0, .ref a7, .int 0, .int 0, .int 0, .int 0, .int 0, .int 0, .int 0, .int (-1), .int 0, .int 0, .int 0, .int 0, .int 0, .long 0, .int 0, .ref a8, .int 0, .ref a9, .int 0, .int 0, .ref a10, .int 0])), (a3, .inr (15, [.ref a4, .ref a11, .int 0, .int 0, .int 1, .int 0, .int 0, .int 0, .int 0, .int 0, .int 0, .long 0, .int 0, .int 0]))]) (va_A [(a0, .inr (17, [.ref a3, .ref a4, .ref a5, .ref a6, .ref a2, .int 0, .int 0, .int 0, .int (-1), .long 0, .ref a7, .int 0, .int 0, .int 0, .int 0, .int 0, .int 0, .int 0, .int (-1), .int 0, .int 0, .int 0, .int 0, .int 0, .long 0, .int 0, .ref a8, .int 0, .ref a9, .int 0, .int 0, .ref a10, .int 0])), (a3, .inr (15, [.ref a4, .ref a11, .int 0, .int 0, .int 1, .int 0, .int 0, .int 0, .int 0, .int 0, .int 0, .long 0, .int 0, .int 0]))] sz)) 0 0 (va_A [(a0, .inr (17, [.ref a3, .ref a4, .ref a5, .ref a6, .ref a2, .int 0, .int 0, .int 0, .int (-1), .long 0, .ref a7, .int 0, .int 0, .int 0, .int 0, .int 0, .int 0, .int 0, .int (-1), .int 0, .int 0, .int 0, .int 0, .int 0, .long 0, .int 0, .ref a8, .int 0, .ref a9, .int 0, .int 0, .ref a10, .int 0])), (a3, .inr (15, [.ref a4, .ref a11, .int 0, .int 0, .int 1, .int 0, .int 0, .int 0, .int 0, .int 0, .int 0, .long 0, .int 0, .int 0]))] sz) := by
  refine Met.ofW (cc := cX16_isWord) (maxL := 2) (ret := (some .boolean)) (by decide) rfl ?_
  intro p e s m args below meth c s₁ B hml hv
  obtain ⟨rfl, hsz, hP, hK, hD0⟩ := hv
  have hx := B.exec
  have hb := B.bytes
  have hr := B.returns
  have hts := atoms_spec (ws := fw_f_X16_isWord) B.pre
  have hown : s.vm.findClass RX16 = some m.cls := findClass_of_methodNamed B.named
  have hlocks := B.notSynchronized
  subst hsz
  have hD := hD0.self (sz := s.heap.size)
  generalize hAe : va_A [(a0, .inr (17, [.ref a3, .ref a4, .ref a5, .ref a6, .ref a2, .int 0, .int 0, .int 0, .int (-1), .long 0, .ref a7, .int 0, .int 0, .int 0, .int 0, .int 0, .int 0, .int 0, .int (-1), .int 0, .int 0, .int 0, .int 0, .int 0, .long 0, .int 0, .ref a8, .int 0, .ref a9, .int 0, .int 0, .ref a10, .int 0])), (a3, .inr (15, [.ref a4, .ref a11, .int 0, .int 0, .int 1, .int 0, .int 0, .int 0, .int 0, .int 0, .int 0, .long 0, .int 0, .int 0]))] s.heap.size = A at hD ⊢
  have hA : ∀ q : Nat, s.heap.size ≤ q → A q := fun q h => by rw [← hAe]; exact Or.inr h
  obtain ⟨H, hH⟩ : ∃ z, z = s.heap := ⟨_, rfl⟩
  rw [← hH] at hP
  have hS : va_S A s.heap H [] := by rw [hH]; exact va_S.rf
  have hP : va_P (dC, dI) vwCl [(a0, .inr (17, [.ref a3, .ref a4, .ref a5, .ref a6, .ref a2, .int 0, .int 0, .int 0, .int (-1), .long 0, .ref a7, .int 0, .int 0, .int 0, .int 0, .int 0, .int 0, .int 0, .int (-1), .int 0, .int 0, .int 0, .int 0, .int 0, .long 0, .int 0, .ref a8, .int 0, .ref a9, .int 0, .int 0, .ref a10, .int 0])), (a3, .inr (15, [.ref a4, .ref a11, .int 0, .int 0, .int 1, .int 0, .int 0, .int 0, .int 0, .int 0, .int 0, .long 0, .int 0, .int 0]))] H := hP
  have hl := lv_entry ([.ref a0, .ref a1]) (n := 2) (Nat.le_of_ble_eq_true rfl)
  rw [lg_entry_eq]
  generalize (lg_sl ([.ref a0, .ref a1]) ++ List.replicate (2 - (lg_sl ([.ref a0, .ref a1])).length) Slot.unset).toArray = ls at hl ⊢
  have hl : lv_has ls 2 [(0, .ref a0), (1, .ref a1)] := hl
  rw [← hH]
  refine lv_aload_n hx hb dX16_isWord_0 rfl (lv_at hl 0 rfl) ?_
  refine va_get (D := (dC, dI)) (ci := 17) (v := .ref a3) (C := RX16) (T := TX16) (N := 33) hx hb hts in_f_X16_isWord_RX16 hown hK hP 0 rfl rfl 0 (by decide) (hts (.fieldLink RX16 34 "TripleStoreModel$Reader" "lexer" "LTripleStoreModel$Lexer;") (List.mem_of_getElem? (i := 1) rfl)) (fun _ h9 => h9) rfl dX16_isWord_1 ?_
  refine lv_aload_n hx hb dX16_isWord_4 rfl (lv_at hl 1 rfl) ?_
  have hPc := hP.sub (ws' := [(a3, .inr (15, [.ref a4, .ref a11, .int 0, .int 0, .int 1, .int 0, .int 0, .int 0, .int 0, .int 0, .int 0, .long 0, .int 0, .int 0]))]) [1] rfl
  have hDc := hD.sub (ws' := [(a3, .inr (15, [.ref a4, .ref a11, .int 0, .int 0, .int 1, .int 0, .int 0, .int 0, .int 0, .int 0, .int 0, .long 0, .int 0, .int 0]))]) [1] (by decide) rfl
  have hKc := hK.sub (tys' := []) [] rfl
  have hFc := va_free (wc := [(a3, .inr (15, [.ref a4, .ref a11, .int 0, .int 0, .int 1, .int 0, .int 0, .int 0, .int 0, .int 0, .int 0, .long 0, .int 0, .int 0]))]) hD hS hA [1] rfl
  refine va_calli (va_runV (As := [.ref a1]) (rest := []) ⟨hx, hb, hml, hown, hts⟩ (f_X14_isWordHere l dC dI a3 a1 a4 a11 H.size) (cwV 1 hts gh_f_X16_isWord_f_X14_isWordHere_80 rfl rfl rfl (by decide +kernel) ⟨Nat.le_of_ble_eq_true rfl, Nat.le_of_ble_eq_true rfl⟩) ⟨fun a U g mk q => by obtain ⟨q0, q1, qP, qK, qD⟩ := q; exact ⟨q0, q1, qP, va_K.moved (u := U) (U := U.calling g mk a) (Vm.Alike.refl U.vm) qK, qD⟩, va_recv hKc hPc (ci := 15) (q0 := 0) rfl rfl, fun U hU hW => ⟨rfl, by rw [hU], by rw [hU]; exact hPc, va_K.moved hW.alike hKc, hDc.weaken (fun _ _ _ _ => trivial)⟩⟩ rfl rfl hl.1 rfl (lv_room (Nat.le_of_ble_eq_true rfl)) dX16_isWord_5 ⟨Nat.le_of_ble_eq_true rfl, Nat.le_of_ble_eq_true rfl⟩) hS (fun q _ h => hFc q h) hFc (fun r u t H1 locs ht hvm hw hB hz1 hk1 hS => ?_)
  obtain ⟨hP1, hK1, hD1⟩ := hB
  have hw : r = 0 := hw
  subst hw
  rw [ht] at hP1
  have hK1 := va_K.moved hvm.symm hK1
  obtain ⟨hP, hD⟩ := va_join (wr := [(a0, .inr (17, [.ref a3, .ref a4, .ref a5, .ref a6, .ref a2, .int 0, .int 0, .int 0, .int (-1), .long 0, .ref a7, .int 0, .int 0, .int 0, .int 0, .int 0, .int 0, .int 0, .int (-1), .int 0, .int 0, .int 0, .int 0, .int 0, .long 0, .int 0, .ref a8, .int 0, .ref a9, .int 0, .int 0, .ref a10, .int 0]))]) (w1 := [(a3, .inr (15, [.ref a4, .ref a11, .int 0, .int 0, .int 1, .int 0, .int 0, .int 0, .int 0, .int 0, .int 0, .long 0, .int 0, .int 0]))]) hP hD [1] [0] rfl rfl (by decide) (by decide) hk1 hFc hP1 hD1
  have hK := (hK.sub (tys' := []) [] rfl).app hK1
  generalize H1 = H at hP hS ⊢
  have hP : va_P (dC, dI) vwCl [(a0, .inr (17, [.ref a3, .ref a4, .ref a5, .ref a6, .ref a2, .int 0, .int 0, .int 0, .int (-1), .long 0, .ref a7, .int 0, .int 0, .int 0, .int 0, .int 0, .int 0, .int 0, .int (-1), .int 0, .int 0, .int 0, .int 0, .int 0, .long 0, .int 0, .ref a8, .int 0, .ref a9, .int 0, .int 0, .ref a10, .int 0])), (a3, .inr (15, [.ref a4, .ref a11, .int 0, .int 0, .int 1, .int 0, .int 0, .int 0, .int 0, .int 0, .int 0, .long 0, .int 0, .int 0]))] H := hP
  have hD : va_D A [(a0, .inr (17, [.ref a3, .ref a4, .ref a5, .ref a6, .ref a2, .int 0, .int 0, .int 0, .int (-1), .long 0, .ref a7, .int 0, .int 0, .int 0, .int 0, .int 0, .int 0, .int 0, .int (-1), .int 0, .int 0, .int 0, .int 0, .int 0, .long 0, .int 0, .ref a8, .int 0, .ref a9, .int 0, .int 0, .ref a10, .int 0])), (a3, .inr (15, [.ref a4, .ref a11, .int 0, .int 0, .int 1, .int 0, .int 0, .int 0, .int 0, .int 0, .int 0, .long 0, .int 0, .int 0]))] := hD
  have hK : va_K (dC, dI) vwCl [] s := hK
  exact W.zret (v := 0) hx hb hr rfl (fun t ht hW => ⟨⟨0, (), rfl, rfl, by rw [ht]; exact hP, va_K.moved hW.alike hK, hD⟩, hS.F ht⟩) hS.2.2 dX16_isWord_8
def fw_f_X16_isWord_2 : List Cond := .code yX16_isWord cX16_isWord 2 (some .boolean) :: ([.fieldLink RX16 34 "TripleStoreModel$Reader" "lexer" "LTripleStoreModel$Lexer;", .methodLink RX16 80 yX14_isWordHere, .instanceMethod yX14_isWordHere, .selects RX14 yX14_isWordHere yX14_isWordHere, .initialized RX14] ++ wsX160 ++ fw_f_X14_isWordHere)
theorem in_f_X16_isWord_2_RX16 : ∀ w ∈ u_ws RX16 TX16 33, w ∈ fw_f_X16_isWord_2 := fun _ h => List.mem_cons_of_mem _ (List.mem_append_left _ (List.mem_append_right _ h))
theorem gd_f_X16_isWord_2 : (fw_f_X16_isWord_2).all goodWord = true := by decide +kernel
theorem gf_f_X16_isWord_2_f_X14_isWordHere : GoodIn fw_f_X16_isWord_2 fw_f_X14_isWordHere := goodIn_sub (fun _ h => List.mem_cons_of_mem _ (List.mem_append_right _ h)) gd_f_X14_isWordHere
theorem gh_f_X16_isWord_2_f_X14_isWordHere_80 : GoodIn fw_f_X16_isWord_2 (wsV RX16 80 RX14 yX14_isWordHere fw_f_X14_isWordHere) := goodIn_app (goodIn_r _ [2, 3, 4, 5] (by decide +kernel) (by decide +kernel)) gf_f_X16_isWord_2_f_X14_isWordHere
set_option maxHeartbeats 4000000 in
set_option maxRecDepth 100000 in
theorem f_X16_isWord_2 (l : Launch) (dC : Nat → ClassId) (dI : Nat → Nat → Nat) (a0 : Nat) (a1 : Nat) (a2 : Nat) (a3 : Nat) (a4 : Nat) (a5 : Nat) (a6 : Nat) (a7 : Nat) (a8 : Nat) (a9 : Nat) (a10 : Nat) (a11 : Nat) (sz : Nat) : Met l yX16_isWord fw_f_X16_isWord_2 ({ frames := 3, cells := 0, slots := 0, locals := 63 }) (va_Pc [.ref a0, .ref a1] (fun U => U.heap.size = sz ∧ va_P (dC, dI) vwCl [(a0, .inr (17, [.ref a2, .ref a3, .ref a4, .ref a5, .ref a6, .int 0, .int 0, .int 0, .int (-1), .long 0, .ref a7, .int 0, .int 0, .int 0, .int 0, .int 0, .int 0, .int 0, .int (-1), .int 0, .int 0, .int 0, .int 0, .int 0, .long 0, .int 0, .ref a8, .int 0, .ref a9, .int 0, .int 0, .ref a10, .int 0])), (a2, .inr (15, [.ref a3, .ref a11, .int 0, .int 0, .int 1, .int 0, .int 0, .int 0, .int 0, .int 0, .int 0, .long 0, .int 0, .int 0]))] U.heap ∧ va_K (dC, dI) vwCl [] U ∧ va_D (fun _ => True) [(a0, .inr (17, [.ref a2, .ref a3, .ref a4, .ref a5, .ref a6, .int 0, .int 0, .int 0, .int (-1), .long 0, .ref a7, .int 0, .int 0, .int 0, .int 0, .int 0, .int 0, .int 0, .int (-1), .int 0, .int 0, .int 0, .int 0, .int 0, .long 0, .int 0, .ref a8, .int 0, .ref a9, .int 0, .int 0, .ref a10, .int 0])), (a2, .inr (15, [.ref a3, .ref a11, .int 0, .int 0, .int 1, .int 0, .int 0, .int 0, .int 0, .int 0, .int 0, .long 0, .int 0, .int 0]))])) (va_Qi (fun (r : Int32) (_ : Unit) => r = 0) (fun _ t => va_P (dC, dI) vwCl [(a0, .inr (17, [.ref a2, .ref a3, .ref a4, .ref a5, .ref a6, .int 0, .int 0, .int 0, .int (-1), .long 0, .ref a7, .int 0, .int 0, .int 0, .int 0, .int 0, .int 0, .int 0, .int (-1), .int 0, .int 0, .int 0, .int 0, .int 0, .long 0, .int 0, .ref a8, .int 0, .ref a9, .int 0, .int 0, .ref a10, .int 0])), (a2, .inr (15, [.ref a3, .ref a11, .int 0, .int 0, .int 1, .int 0, .int 0, .int 0, .int 0, .int 0, .int 0, .long 0, .int 0, .int 0]))] t.heap ∧ va_K (dC, dI) vwCl [] t ∧ va_D (va_A [(a0, .inr (17, [.ref a2, .ref a3, .ref a4, .ref a5, .ref a6, .int 0, .int 0, .int 0, .int (-1), .long 0, .ref a7, .int 0, .int 0, .int 0, .int 0, .int 0, .int 0, .int 0, .int (-1), .int 0, .int 0, .int 0, .int 0, .int 0, .long 0, .int 0, .ref a8, .int 0, .ref a9, .int 0, .int 0, .ref a10, .int 0])), (a2, .inr (15, [.ref a3, .ref a11, .int 0, .int 0, .int 1, .int 0, .int 0, .int 0, .int 0, .int 0, .int 0, .long 0, .int 0, .int 0]))] sz) [(a0, .inr (17, [.ref a2, .ref a3, .ref a4, .ref a5, .ref a6, .int 0, .int 0, .int 0, .int (-1), .long 0, .ref a7, .int 0, .int 0, .int 0, .int 0, .int 0, .int 0, .int 0, .int (-1), .int 0, .int 0, .int 0, .int 0, .int 0, .long 0, .int 0, .ref a8, .int 0, .ref a9, .int 0, .int 0, .ref a10, .int 0])), (a2, .inr (15, [.ref a3, .ref a11, .int 0, .int 0, .int 1, .int 0, .int 0, .int 0, .int 0, .int 0, .int 0, .long 0, .int 0, .int 0]))]) (va_A [(a0, .inr (17, [.ref a2, .ref a3, .ref a4, .ref a5, .ref a6, .int 0, .int 0, .int 0, .int (-1), .long 0, .ref a7, .int 0, .int 0, .int 0, .int 0, .int 0, .int 0, .int 0, .int (-1), .int 0, .int 0, .int 0, .int 0, .int 0, .long 0, .int 0, .ref a8, .int 0, .ref a9, .int 0, .int 0, .ref a10, .int 0])), (a2, .inr (15, [.ref a3, .ref a11, .int 0, .int 0, .int 1, .int 0, .int 0, .int 0, .int 0, .int 0, .int 0, .long 0, .int 0, .int 0]))] sz)) 0 0 (va_A [(a0, .inr (17, [.ref a2, .ref a3, .ref a4, .ref a5, .ref a6, .int 0, .int 0, .int 0, .int (-1), .long 0, .ref a7, .int 0, .int 0, .int 0, .int 0, .int 0, .int 0, .int 0, .int (-1), .int 0, .int 0, .int 0, .int 0, .int 0, .long 0, .int 0, .ref a8, .int 0, .ref a9, .int 0, .int 0, .ref a10, .int 0])), (a2, .inr (15, [.ref a3, .ref a11, .int 0, .int 0, .int 1, .int 0, .int 0, .int 0, .int 0, .int 0, .int 0, .long 0, .int 0, .int 0]))] sz) := by
  refine Met.ofW (cc := cX16_isWord) (maxL := 2) (ret := (some .boolean)) (by decide) rfl ?_
  intro p e s m args below meth c s₁ B hml hv
  obtain ⟨rfl, hsz, hP, hK, hD0⟩ := hv
  have hx := B.exec
  have hb := B.bytes
  have hr := B.returns
  have hts := atoms_spec (ws := fw_f_X16_isWord_2) B.pre
  have hown : s.vm.findClass RX16 = some m.cls := findClass_of_methodNamed B.named
  have hlocks := B.notSynchronized
  subst hsz
  have hD := hD0.self (sz := s.heap.size)
  generalize hAe : va_A [(a0, .inr (17, [.ref a2, .ref a3, .ref a4, .ref a5, .ref a6, .int 0, .int 0, .int 0, .int (-1), .long 0, .ref a7, .int 0, .int 0, .int 0, .int 0, .int 0, .int 0, .int 0, .int (-1), .int 0, .int 0, .int 0, .int 0, .int 0, .long 0, .int 0, .ref a8, .int 0, .ref a9, .int 0, .int 0, .ref a10, .int 0])), (a2, .inr (15, [.ref a3, .ref a11, .int 0, .int 0, .int 1, .int 0, .int 0, .int 0, .int 0, .int 0, .int 0, .long 0, .int 0, .int 0]))] s.heap.size = A at hD ⊢
  have hA : ∀ q : Nat, s.heap.size ≤ q → A q := fun q h => by rw [← hAe]; exact Or.inr h
  obtain ⟨H, hH⟩ : ∃ z, z = s.heap := ⟨_, rfl⟩
  rw [← hH] at hP
  have hS : va_S A s.heap H [] := by rw [hH]; exact va_S.rf
  have hP : va_P (dC, dI) vwCl [(a0, .inr (17, [.ref a2, .ref a3, .ref a4, .ref a5, .ref a6, .int 0, .int 0, .int 0, .int (-1), .long 0, .ref a7, .int 0, .int 0, .int 0, .int 0, .int 0, .int 0, .int 0, .int (-1), .int 0, .int 0, .int 0, .int 0, .int 0, .long 0, .int 0, .ref a8, .int 0, .ref a9, .int 0, .int 0, .ref a10, .int 0])), (a2, .inr (15, [.ref a3, .ref a11, .int 0, .int 0, .int 1, .int 0, .int 0, .int 0, .int 0, .int 0, .int 0, .long 0, .int 0, .int 0]))] H := hP
  have hl := lv_entry ([.ref a0, .ref a1]) (n := 2) (Nat.le_of_ble_eq_true rfl)
  rw [lg_entry_eq]
  generalize (lg_sl ([.ref a0, .ref a1]) ++ List.replicate (2 - (lg_sl ([.ref a0, .ref a1])).length) Slot.unset).toArray = ls at hl ⊢
  have hl : lv_has ls 2 [(0, .ref a0), (1, .ref a1)] := hl
  rw [← hH]
  refine lv_aload_n hx hb dX16_isWord_0 rfl (lv_at hl 0 rfl) ?_
  refine va_get (D := (dC, dI)) (ci := 17) (v := .ref a2) (C := RX16) (T := TX16) (N := 33) hx hb hts in_f_X16_isWord_2_RX16 hown hK hP 0 rfl rfl 0 (by decide) (hts (.fieldLink RX16 34 "TripleStoreModel$Reader" "lexer" "LTripleStoreModel$Lexer;") (List.mem_of_getElem? (i := 1) rfl)) (fun _ h9 => h9) rfl dX16_isWord_1 ?_
  refine lv_aload_n hx hb dX16_isWord_4 rfl (lv_at hl 1 rfl) ?_
  have hPc := hP.sub (ws' := [(a2, .inr (15, [.ref a3, .ref a11, .int 0, .int 0, .int 1, .int 0, .int 0, .int 0, .int 0, .int 0, .int 0, .long 0, .int 0, .int 0]))]) [1] rfl
  have hDc := hD.sub (ws' := [(a2, .inr (15, [.ref a3, .ref a11, .int 0, .int 0, .int 1, .int 0, .int 0, .int 0, .int 0, .int 0, .int 0, .long 0, .int 0, .int 0]))]) [1] (by decide) rfl
  have hKc := hK.sub (tys' := []) [] rfl
  have hFc := va_free (wc := [(a2, .inr (15, [.ref a3, .ref a11, .int 0, .int 0, .int 1, .int 0, .int 0, .int 0, .int 0, .int 0, .int 0, .long 0, .int 0, .int 0]))]) hD hS hA [1] rfl
  refine va_calli (va_runV (As := [.ref a1]) (rest := []) ⟨hx, hb, hml, hown, hts⟩ (f_X14_isWordHere l dC dI a2 a1 a3 a11 H.size) (cwV 1 hts gh_f_X16_isWord_2_f_X14_isWordHere_80 rfl rfl rfl (by decide +kernel) ⟨Nat.le_of_ble_eq_true rfl, Nat.le_of_ble_eq_true rfl⟩) ⟨fun a U g mk q => by obtain ⟨q0, q1, qP, qK, qD⟩ := q; exact ⟨q0, q1, qP, va_K.moved (u := U) (U := U.calling g mk a) (Vm.Alike.refl U.vm) qK, qD⟩, va_recv hKc hPc (ci := 15) (q0 := 0) rfl rfl, fun U hU hW => ⟨rfl, by rw [hU], by rw [hU]; exact hPc, va_K.moved hW.alike hKc, hDc.weaken (fun _ _ _ _ => trivial)⟩⟩ rfl rfl hl.1 rfl (lv_room (Nat.le_of_ble_eq_true rfl)) dX16_isWord_5 ⟨Nat.le_of_ble_eq_true rfl, Nat.le_of_ble_eq_true rfl⟩) hS (fun q _ h => hFc q h) hFc (fun r u t H1 locs ht hvm hw hB hz1 hk1 hS => ?_)
  obtain ⟨hP1, hK1, hD1⟩ := hB
  have hw : r = 0 := hw
  subst hw
  rw [ht] at hP1
  have hK1 := va_K.moved hvm.symm hK1
  obtain ⟨hP, hD⟩ := va_join (wr := [(a0, .inr (17, [.ref a2, .ref a3, .ref a4, .ref a5, .ref a6, .int 0, .int 0, .int 0, .int (-1), .long 0, .ref a7, .int 0, .int 0, .int 0, .int 0, .int 0, .int 0, .int 0, .int (-1), .int 0, .int 0, .int 0, .int 0, .int 0, .long 0, .int 0, .ref a8, .int 0, .ref a9, .int 0, .int 0, .ref a10, .int 0]))]) (w1 := [(a2, .inr (15, [.ref a3, .ref a11, .int 0, .int 0, .int 1, .int 0, .int 0, .int 0, .int 0, .int 0, .int 0, .long 0, .int 0, .int 0]))]) hP hD [1] [0] rfl rfl (by decide) (by decide) hk1 hFc hP1 hD1
  have hK := (hK.sub (tys' := []) [] rfl).app hK1
  generalize H1 = H at hP hS ⊢
  have hP : va_P (dC, dI) vwCl [(a0, .inr (17, [.ref a2, .ref a3, .ref a4, .ref a5, .ref a6, .int 0, .int 0, .int 0, .int (-1), .long 0, .ref a7, .int 0, .int 0, .int 0, .int 0, .int 0, .int 0, .int 0, .int (-1), .int 0, .int 0, .int 0, .int 0, .int 0, .long 0, .int 0, .ref a8, .int 0, .ref a9, .int 0, .int 0, .ref a10, .int 0])), (a2, .inr (15, [.ref a3, .ref a11, .int 0, .int 0, .int 1, .int 0, .int 0, .int 0, .int 0, .int 0, .int 0, .long 0, .int 0, .int 0]))] H := hP
  have hD : va_D A [(a0, .inr (17, [.ref a2, .ref a3, .ref a4, .ref a5, .ref a6, .int 0, .int 0, .int 0, .int (-1), .long 0, .ref a7, .int 0, .int 0, .int 0, .int 0, .int 0, .int 0, .int 0, .int (-1), .int 0, .int 0, .int 0, .int 0, .int 0, .long 0, .int 0, .ref a8, .int 0, .ref a9, .int 0, .int 0, .ref a10, .int 0])), (a2, .inr (15, [.ref a3, .ref a11, .int 0, .int 0, .int 1, .int 0, .int 0, .int 0, .int 0, .int 0, .int 0, .long 0, .int 0, .int 0]))] := hD
  have hK : va_K (dC, dI) vwCl [] s := hK
  exact W.zret (v := 0) hx hb hr rfl (fun t ht hW => ⟨⟨0, (), rfl, rfl, by rw [ht]; exact hP, va_K.moved hW.alike hK, hD⟩, hS.F ht⟩) hS.2.2 dX16_isWord_8
def fw_f_X16_takesWord : List Cond := .code yX16_takesWord cX16_takesWord 3 (some .boolean) :: ([.methodLink RX16 86 yX16_isWord, .instanceMethod yX16_isWord, .selects RX16 yX16_isWord yX16_isWord, .initialized RX16] ++ fw_f_X16_isWord_2)
theorem gd_f_X16_takesWord : (fw_f_X16_takesWord).all goodWord = true := by decide +kernel
theorem gf_f_X16_takesWord_f_X16_isWord_2 : GoodIn fw_f_X16_takesWord fw_f_X16_isWord_2 := goodIn_sub (fun _ h => List.mem_cons_of_mem _ (List.mem_append_right _ h)) gd_f_X16_isWord_2
theorem gh_f_X16_takesWord_f_X16_isWord_2_86 : GoodIn fw_f_X16_takesWord (wsV RX16 86 RX16 yX16_isWord fw_f_X16_isWord_2) := goodIn_app (goodIn_r _ [1, 2, 3, 4] (by decide +kernel) (by decide +kernel)) gf_f_X16_takesWord_f_X16_isWord_2
set_option maxHeartbeats 4000000 in
set_option maxRecDepth 100000 in
theorem f_X16_takesWord (l : Launch) (dC : Nat → ClassId) (dI : Nat → Nat → Nat) (a0 : Nat) (a1 : Nat) (a3 : Nat) (a4 : Nat) (a5 : Nat) (a6 : Nat) (a2 : Nat) (a7 : Nat) (a8 : Nat) (a9 : Nat) (a10 : Nat) (a11 : Nat) (sz : Nat) : Met l yX16_takesWord fw_f_X16_takesWord ({ frames := 4, cells := 0, slots := 0, locals := 84 }) (va_Pc [.ref a0, .ref a1] (fun U => U.heap.size = sz ∧ va_P (dC, dI) vwCl [(a0, .inr (17, [.ref a3, .ref a4, .ref a5, .ref a6, .ref a2, .int 0, .int 0, .int 0, .int (-1), .long 0, .ref a7, .int 0, .int 0, .int 0, .int 0, .int 0, .int 0, .int 0, .int (-1), .int 0, .int 0, .int 0, .int 0, .int 0, .long 0, .int 0, .ref a8, .int 0, .ref a9, .int 0, .int 0, .ref a10, .int 0])), (a3, .inr (15, [.ref a4, .ref a11, .int 0, .int 0, .int 1, .int 0, .int 0, .int 0, .int 0, .int 0, .int 0, .long 0, .int 0, .int 0]))] U.heap ∧ va_K (dC, dI) vwCl [] U ∧ va_D (fun _ => True) [(a0, .inr (17, [.ref a3, .ref a4, .ref a5, .ref a6, .ref a2, .int 0, .int 0, .int 0, .int (-1), .long 0, .ref a7, .int 0, .int 0, .int 0, .int 0, .int 0, .int 0, .int 0, .int (-1), .int 0, .int 0, .int 0, .int 0, .int 0, .long 0, .int 0, .ref a8, .int 0, .ref a9, .int 0, .int 0, .ref a10, .int 0])), (a3, .inr (15, [.ref a4, .ref a11, .int 0, .int 0, .int 1, .int 0, .int 0, .int 0, .int 0, .int 0, .int 0, .long 0, .int 0, .int 0]))])) (va_Qi (fun (r : Int32) (_ : Unit) => r = 0) (fun _ t => va_P (dC, dI) vwCl [(a0, .inr (17, [.ref a3, .ref a4, .ref a5, .ref a6, .ref a2, .int 0, .int 0, .int 0, .int (-1), .long 0, .ref a7, .int 0, .int 0, .int 0, .int 0, .int 0, .int 0, .int 0, .int (-1), .int 0, .int 0, .int 0, .int 0, .int 0, .long 0, .int 0, .ref a8, .int 0, .ref a9, .int 0, .int 0, .ref a10, .int 0])), (a3, .inr (15, [.ref a4, .ref a11, .int 0, .int 0, .int 1, .int 0, .int 0, .int 0, .int 0, .int 0, .int 0, .long 0, .int 0, .int 0]))] t.heap ∧ va_K (dC, dI) vwCl [] t ∧ va_D (va_A [(a0, .inr (17, [.ref a3, .ref a4, .ref a5, .ref a6, .ref a2, .int 0, .int 0, .int 0, .int (-1), .long 0, .ref a7, .int 0, .int 0, .int 0, .int 0, .int 0, .int 0, .int 0, .int (-1), .int 0, .int 0, .int 0, .int 0, .int 0, .long 0, .int 0, .ref a8, .int 0, .ref a9, .int 0, .int 0, .ref a10, .int 0])), (a3, .inr (15, [.ref a4, .ref a11, .int 0, .int 0, .int 1, .int 0, .int 0, .int 0, .int 0, .int 0, .int 0, .long 0, .int 0, .int 0]))] sz) [(a0, .inr (17, [.ref a3, .ref a4, .ref a5, .ref a6, .ref a2, .int 0, .int 0, .int 0, .int (-1), .long 0, .ref a7, .int 0, .int 0, .int 0, .int 0, .int 0, .int 0, .int 0, .int (-1), .int 0, .int 0, .int 0, .int 0, .int 0, .long 0, .int 0, .ref a8, .int 0, .ref a9, .int 0, .int 0, .ref a10, .int 0])), (a3, .inr (15, [.ref a4, .ref a11, .int 0, .int 0, .int 1, .int 0, .int 0, .int 0, .int 0, .int 0, .int 0, .long 0, .int 0, .int 0]))]) (va_A [(a0, .inr (17, [.ref a3, .ref a4, .ref a5, .ref a6, .ref a2, .int 0, .int 0, .int 0, .int (-1), .long 0, .ref a7, .int 0, .int 0, .int 0, .int 0, .int 0, .int 0, .int 0, .int (-1), .int 0, .int 0, .int 0, .int 0, .int 0, .long 0, .int 0, .ref a8, .int 0, .ref a9, .int 0, .int 0, .ref a10, .int 0])), (a3, .inr (15, [.ref a4, .ref a11, .int 0, .int 0, .int 1, .int 0, .int 0, .int 0, .int 0, .int 0, .int 0, .long 0, .int 0, .int 0]))] sz)) 0 0 (va_A [(a0, .inr (17, [.ref a3, .ref a4, .ref a5, .ref a6, .ref a2, .int 0, .int 0, .int 0, .int (-1), .long 0, .ref a7, .int 0, .int 0, .int 0, .int 0, .int 0, .int 0, .int 0, .int (-1), .int 0, .int 0, .int 0, .int 0, .int 0, .long 0, .int 0, .ref a8, .int 0, .ref a9, .int 0, .int 0, .ref a10, .int 0])), (a3, .inr (15, [.ref a4, .ref a11, .int 0, .int 0, .int 1, .int 0, .int 0, .int 0, .int 0, .int 0, .int 0, .long 0, .int 0, .int 0]))] sz) := by
  refine Met.ofW (cc := cX16_takesWord) (maxL := 3) (ret := (some .boolean)) (by decide) rfl ?_
  intro p e s m args below meth c s₁ B hml hv
  obtain ⟨rfl, hsz, hP, hK, hD0⟩ := hv
  have hx := B.exec
  have hb := B.bytes
  have hr := B.returns
  have hts := atoms_spec (ws := fw_f_X16_takesWord) B.pre
  have hown : s.vm.findClass RX16 = some m.cls := findClass_of_methodNamed B.named
  have hlocks := B.notSynchronized
  subst hsz
  have hD := hD0.self (sz := s.heap.size)
  generalize hAe : va_A [(a0, .inr (17, [.ref a3, .ref a4, .ref a5, .ref a6, .ref a2, .int 0, .int 0, .int 0, .int (-1), .long 0, .ref a7, .int 0, .int 0, .int 0, .int 0, .int 0, .int 0, .int 0, .int (-1), .int 0, .int 0, .int 0, .int 0, .int 0, .long 0, .int 0, .ref a8, .int 0, .ref a9, .int 0, .int 0, .ref a10, .int 0])), (a3, .inr (15, [.ref a4, .ref a11, .int 0, .int 0, .int 1, .int 0, .int 0, .int 0, .int 0, .int 0, .int 0, .long 0, .int 0, .int 0]))] s.heap.size = A at hD ⊢
  have hA : ∀ q : Nat, s.heap.size ≤ q → A q := fun q h => by rw [← hAe]; exact Or.inr h
  obtain ⟨H, hH⟩ : ∃ z, z = s.heap := ⟨_, rfl⟩
  rw [← hH] at hP
  have hS : va_S A s.heap H [] := by rw [hH]; exact va_S.rf
  have hP : va_P (dC, dI) vwCl [(a0, .inr (17, [.ref a3, .ref a4, .ref a5, .ref a6, .ref a2, .int 0, .int 0, .int 0, .int (-1), .long 0, .ref a7, .int 0, .int 0, .int 0, .int 0, .int 0, .int 0, .int 0, .int (-1), .int 0, .int 0, .int 0, .int 0, .int 0, .long 0, .int 0, .ref a8, .int 0, .ref a9, .int 0, .int 0, .ref a10, .int 0])), (a3, .inr (15, [.ref a4, .ref a11, .int 0, .int 0, .int 1, .int 0, .int 0, .int 0, .int 0, .int 0, .int 0, .long 0, .int 0, .int 0]))] H := hP
  have hl := lv_entry ([.ref a0, .ref a1]) (n := 3) (Nat.le_of_ble_eq_true rfl)
  rw [lg_entry_eq]
  generalize (lg_sl ([.ref a0, .ref a1]) ++ List.replicate (3 - (lg_sl ([.ref a0, .ref a1])).length) Slot.unset).toArray = ls at hl ⊢
  have hl : lv_has ls 3 [(0, .ref a0), (1, .ref a1)] := hl
  rw [← hH]
  refine lv_aload_n hx hb dX16_takesWord_0 rfl (lv_at hl 0 rfl) ?_
  refine lv_aload_n hx hb dX16_takesWord_1 rfl (lv_at hl 1 rfl) ?_
  have hPc := hP.sub (ws' := [(a0, .inr (17, [.ref a3, .ref a4, .ref a5, .ref a6, .ref a2, .int 0, .int 0, .int 0, .int (-1), .long 0, .ref a7, .int 0, .int 0, .int 0, .int 0, .int 0, .int 0, .int 0, .int (-1), .int 0, .int 0, .int 0, .int 0, .int 0, .long 0, .int 0, .ref a8, .int 0, .ref a9, .int 0, .int 0, .ref a10, .int 0])), (a3, .inr (15, [.ref a4, .ref a11, .int 0, .int 0, .int 1, .int 0, .int 0, .int 0, .int 0, .int 0, .int 0, .long 0, .int 0, .int 0]))]) [0, 1] rfl
  have hDc := hD.sub (ws' := [(a0, .inr (17, [.ref a3, .ref a4, .ref a5, .ref a6, .ref a2, .int 0, .int 0, .int 0, .int (-1), .long 0, .ref a7, .int 0, .int 0, .int 0, .int 0, .int 0, .int 0, .int 0, .int (-1), .int 0, .int 0, .int 0, .int 0, .int 0, .long 0, .int 0, .ref a8, .int 0, .ref a9, .int 0, .int 0, .ref a10, .int 0])), (a3, .inr (15, [.ref a4, .ref a11, .int 0, .int 0, .int 1, .int 0, .int 0, .int 0, .int 0, .int 0, .int 0, .long 0, .int 0, .int 0]))]) [0, 1] (by decide) rfl
  have hKc := hK.sub (tys' := []) [] rfl
  have hFc := va_free (wc := [(a0, .inr (17, [.ref a3, .ref a4, .ref a5, .ref a6, .ref a2, .int 0, .int 0, .int 0, .int (-1), .long 0, .ref a7, .int 0, .int 0, .int 0, .int 0, .int 0, .int 0, .int 0, .int (-1), .int 0, .int 0, .int 0, .int 0, .int 0, .long 0, .int 0, .ref a8, .int 0, .ref a9, .int 0, .int 0, .ref a10, .int 0])), (a3, .inr (15, [.ref a4, .ref a11, .int 0, .int 0, .int 1, .int 0, .int 0, .int 0, .int 0, .int 0, .int 0, .long 0, .int 0, .int 0]))]) hD hS hA [0, 1] rfl
  refine va_calli (va_runV (As := [.ref a1]) (rest := []) ⟨hx, hb, hml, hown, hts⟩ (f_X16_isWord_2 l dC dI a0 a1 a3 a4 a5 a6 a2 a7 a8 a9 a10 a11 H.size) (cwV 1 hts gh_f_X16_takesWord_f_X16_isWord_2_86 rfl rfl rfl (by decide +kernel) ⟨Nat.le_of_ble_eq_true rfl, Nat.le_of_ble_eq_true rfl⟩) ⟨fun a U g mk q => by obtain ⟨q0, q1, qP, qK, qD⟩ := q; exact ⟨q0, q1, qP, va_K.moved (u := U) (U := U.calling g mk a) (Vm.Alike.refl U.vm) qK, qD⟩, va_recv hKc hPc (ci := 17) (q0 := 0) rfl rfl, fun U hU hW => ⟨rfl, by rw [hU], by rw [hU]; exact hPc, va_K.moved hW.alike hKc, hDc.weaken (fun _ _ _ _ => trivial)⟩⟩ rfl rfl hl.1 rfl (lv_room (Nat.le_of_ble_eq_true rfl)) dX16_takesWord_2 ⟨Nat.le_of_ble_eq_true rfl, Nat.le_of_ble_eq_true rfl⟩) hS (fun q _ h => hFc q h) hFc (fun r u t H1 locs ht hvm hw hB hz1 hk1 hS => ?_)
  obtain ⟨hP1, hK1, hD1⟩ := hB
  have hw : r = 0 := hw
  subst hw
  rw [ht] at hP1
  have hK1 := va_K.moved hvm.symm hK1
  obtain ⟨hP, hD⟩ := va_join (wr := []) (w1 := [(a0, .inr (17, [.ref a3, .ref a4, .ref a5, .ref a6, .ref a2, .int 0, .int 0, .int 0, .int (-1), .long 0, .ref a7, .int 0, .int 0, .int 0, .int 0, .int 0, .int 0, .int 0, .int (-1), .int 0, .int 0, .int 0, .int 0, .int 0, .long 0, .int 0, .ref a8, .int 0, .ref a9, .int 0, .int 0, .ref a10, .int 0])), (a3, .inr (15, [.ref a4, .ref a11, .int 0, .int 0, .int 1, .int 0, .int 0, .int 0, .int 0, .int 0, .int 0, .long 0, .int 0, .int 0]))]) hP hD [0, 1] [] rfl rfl (by decide) (by decide) hk1 hFc hP1 hD1
  have hK := (hK.sub (tys' := []) [] rfl).app hK1
  generalize H1 = H at hP hS ⊢
  have hP : va_P (dC, dI) vwCl [(a0, .inr (17, [.ref a3, .ref a4, .ref a5, .ref a6, .ref a2, .int 0, .int 0, .int 0, .int (-1), .long 0, .ref a7, .int 0, .int 0, .int 0, .int 0, .int 0, .int 0, .int 0, .int (-1), .int 0, .int 0, .int 0, .int 0, .int 0, .long 0, .int 0, .ref a8, .int 0, .ref a9, .int 0, .int 0, .ref a10, .int 0])), (a3, .inr (15, [.ref a4, .ref a11, .int 0, .int 0, .int 1, .int 0, .int 0, .int 0, .int 0, .int 0, .int 0, .long 0, .int 0, .int 0]))] H := hP
  have hD : va_D A [(a0, .inr (17, [.ref a3, .ref a4, .ref a5, .ref a6, .ref a2, .int 0, .int 0, .int 0, .int (-1), .long 0, .ref a7, .int 0, .int 0, .int 0, .int 0, .int 0, .int 0, .int 0, .int (-1), .int 0, .int 0, .int 0, .int 0, .int 0, .long 0, .int 0, .ref a8, .int 0, .ref a9, .int 0, .int 0, .ref a10, .int 0])), (a3, .inr (15, [.ref a4, .ref a11, .int 0, .int 0, .int 1, .int 0, .int 0, .int 0, .int 0, .int 0, .int 0, .long 0, .int 0, .int 0]))] := hD
  have hK : va_K (dC, dI) vwCl [] s := hK
  refine lv_istore_n (lv' := [(2, .int 0), (0, .ref a0), (1, .ref a1)]) hx hb dX16_takesWord_5 rfl hl (by decide) rfl (fun ls hl => ?_)
  refine lv_iload_n hx hb dX16_takesWord_6 rfl (lv_at hl 0 rfl) ?_
  refine lv_if_eq (tgt := 14) hx hb dX16_takesWord_7 (by decide) (fun _ => ?_) (fun c9 => absurd (by decide +kernel) c9)
  refine lv_iload_n hx hb dX16_takesWord_14 rfl (lv_at hl 0 rfl) ?_
  exact W.zret (v := 0) hx hb hr rfl (fun t ht hW => ⟨⟨0, (), rfl, rfl, by rw [ht]; exact hP, va_K.moved hW.alike hK, hD⟩, hS.F ht⟩) hS.2.2 dX16_takesWord_15
def fw_f_X16_fail : List Cond := .code yX16_fail cX16_fail 3 none :: ([.fieldLink RX16 50 "TripleStoreModel$Reader" "why" "I", .fieldLink RX16 54 "TripleStoreModel$Reader" "where" "I", .fieldLink RX16 16 "TripleStoreModel$Reader" "wrong" "Ljava/lang/IllegalStateException;"] ++ wsX160)
theorem in_f_X16_fail_RX16 : ∀ w ∈ u_ws RX16 TX16 33, w ∈ fw_f_X16_fail := fun _ h => List.mem_cons_of_mem _ (List.mem_append_right _ h)
theorem gd_f_X16_fail : (fw_f_X16_fail).all goodWord = true := by decide +kernel
set_option maxHeartbeats 4000000 in
set_option maxRecDepth 100000 in
theorem f_X16_fail (l : Launch) (dC : Nat → ClassId) (dI : Nat → Nat → Nat) (a0 : Nat) (a2 : Nat) (a3 : Nat) (a4 : Nat) (a5 : Nat) (a1 : Nat) (a6 : Nat) (a7 : Nat) (a8 : Nat) (a9 : Nat) (sz : Nat) : vx_Met l yX16_fail fw_f_X16_fail ({ frames := 1, cells := 0, slots := 0, locals := 20 }) (va_Pc [.ref a0, .int 2, .int 0] (fun U => U.heap.size = sz ∧ va_P (dC, dI) vwCl [(a1, .inr (0, [])), (a0, .inr (17, [.ref a2, .ref a3, .ref a4, .ref a5, .ref a1, .int 0, .int 0, .int 0, .int (-1), .long 0, .ref a6, .int 0, .int 0, .int 0, .int 0, .int 0, .int 0, .int 0, .int (-1), .int 0, .int 0, .int 0, .int 0, .int 0, .long 0, .int 0, .ref a7, .int 0, .ref a8, .int 0, .int 0, .ref a9, .int 0]))] U.heap ∧ va_K (dC, dI) vwCl [] U ∧ va_D (fun _ => True) [(a1, .inr (0, [])), (a0, .inr (17, [.ref a2, .ref a3, .ref a4, .ref a5, .ref a1, .int 0, .int 0, .int 0, .int (-1), .long 0, .ref a6, .int 0, .int 0, .int 0, .int 0, .int 0, .int 0, .int 0, .int (-1), .int 0, .int 0, .int 0, .int 0, .int 0, .long 0, .int 0, .ref a7, .int 0, .ref a8, .int 0, .int 0, .ref a9, .int 0]))])) (va_Qv (fun _ : Unit => False) (fun _ _ => True) (va_A [(a1, .inr (0, [])), (a0, .inr (17, [.ref a2, .ref a3, .ref a4, .ref a5, .ref a1, .int 0, .int 0, .int 0, .int (-1), .long 0, .ref a6, .int 0, .int 0, .int 0, .int 0, .int 0, .int 0, .int 0, .int (-1), .int 0, .int 0, .int 0, .int 0, .int 0, .long 0, .int 0, .ref a7, .int 0, .ref a8, .int 0, .int 0, .ref a9, .int 0]))] sz)) (vx_X (fun _ : Unit => True) (fun E _ t => E = "java/lang/IllegalStateException" ∧ va_P (dC, dI) vwCl [(a1, .inr (0, [])), (a0, .inr (17, [.ref a2, .ref a3, .ref a4, .ref a5, .ref a1, .int 2, .int 0, .int 0, .int (-1), .long 0, .ref a6, .int 0, .int 0, .int 0, .int 0, .int 0, .int 0, .int 0, .int (-1), .int 0, .int 0, .int 0, .int 0, .int 0, .long 0, .int 0, .ref a7, .int 0, .ref a8, .int 0, .int 0, .ref a9, .int 0]))] t.heap ∧ va_K (dC, dI) vwCl [] t ∧ va_D (va_A [(a1, .inr (0, [])), (a0, .inr (17, [.ref a2, .ref a3, .ref a4, .ref a5, .ref a1, .int 0, .int 0, .int 0, .int (-1), .long 0, .ref a6, .int 0, .int 0, .int 0, .int 0, .int 0, .int 0, .int 0, .int (-1), .int 0, .int 0, .int 0, .int 0, .int 0, .long 0, .int 0, .ref a7, .int 0, .ref a8, .int 0, .int 0, .ref a9, .int 0]))] sz) [(a1, .inr (0, [])), (a0, .inr (17, [.ref a2, .ref a3, .ref a4, .ref a5, .ref a1, .int 2, .int 0, .int 0, .int (-1), .long 0, .ref a6, .int 0, .int 0, .int 0, .int 0, .int 0, .int 0, .int 0, .int (-1), .int 0, .int 0, .int 0, .int 0, .int 0, .long 0, .int 0, .ref a7, .int 0, .ref a8, .int 0, .int 0, .ref a9, .int 0]))]) (va_A [(a1, .inr (0, [])), (a0, .inr (17, [.ref a2, .ref a3, .ref a4, .ref a5, .ref a1, .int 0, .int 0, .int 0, .int (-1), .long 0, .ref a6, .int 0, .int 0, .int 0, .int 0, .int 0, .int 0, .int 0, .int (-1), .int 0, .int 0, .int 0, .int 0, .int 0, .long 0, .int 0, .ref a7, .int 0, .ref a8, .int 0, .int 0, .ref a9, .int 0]))] sz)) 0 0 (va_A [(a1, .inr (0, [])), (a0, .inr (17, [.ref a2, .ref a3, .ref a4, .ref a5, .ref a1, .int 0, .int 0, .int 0, .int (-1), .long 0, .ref a6, .int 0, .int 0, .int 0, .int 0, .int 0, .int 0, .int 0, .int (-1), .int 0, .int 0, .int 0, .int 0, .int 0, .long 0, .int 0, .ref a7, .int 0, .ref a8, .int 0, .int 0, .ref a9, .int 0]))] sz) := by
  refine vx_ofW (cc := cX16_fail) (maxL := 3) (ret := none) (by decide) rfl ?_
  intro p e s m args below meth c s₁ B hml hno hv
  obtain ⟨rfl, hsz, hP, hK, hD0⟩ := hv
  have hx := B.exec
  have hb := B.bytes
  have hr := B.returns
  have hts := atoms_spec (ws := fw_f_X16_fail) B.pre
  have hown : s.vm.findClass RX16 = some m.cls := findClass_of_methodNamed B.named
  have hlocks := B.notSynchronized
  subst hsz
  have hD := hD0.self (sz := s.heap.size)
  generalize hAe : va_A [(a1, .inr (0, [])), (a0, .inr (17, [.ref a2, .ref a3, .ref a4, .ref a5, .ref a1, .int 0, .int 0, .int 0, .int (-1), .long 0, .ref a6, .int 0, .int 0, .int 0, .int 0, .int 0, .int 0, .int 0, .int (-1), .int 0, .int 0, .int 0, .int 0, .int 0, .long 0, .int 0, .ref a7, .int 0, .ref a8, .int 0, .int 0, .ref a9, .int 0]))] s.heap.size = A at hD ⊢
  have hA : ∀ q : Nat, s.heap.size ≤ q → A q := fun q h => by rw [← hAe]; exact Or.inr h
  obtain ⟨H, hH⟩ : ∃ z, z = s.heap := ⟨_, rfl⟩
  rw [← hH] at hP
  have hS : va_S A s.heap H [] := by rw [hH]; exact va_S.rf
  have hP : va_P (dC, dI) vwCl [(a1, .inr (0, [])), (a0, .inr (17, [.ref a2, .ref a3, .ref a4, .ref a5, .ref a1, .int 0, .int 0, .int 0, .int (-1), .long 0, .ref a6, .int 0, .int 0, .int 0, .int 0, .int 0, .int 0, .int 0, .int (-1), .int 0, .int 0, .int 0, .int 0, .int 0, .long 0, .int 0, .ref a7, .int 0, .ref a8, .int 0, .int 0, .ref a9, .int 0]))] H := hP
  have hl := lv_entry ([.ref a0, .int 2, .int 0]) (n := 3) (Nat.le_of_ble_eq_true rfl)
  rw [lg_entry_eq]
  generalize (lg_sl ([.ref a0, .int 2, .int 0]) ++ List.replicate (3 - (lg_sl ([.ref a0, .int 2, .int 0])).length) Slot.unset).toArray = ls at hl ⊢
  have hl : lv_has ls 3 [(0, .ref a0), (1, .int 2), (2, .int 0)] := hl
  rw [← hH]
  refine lv_aload_n hx hb dX16_fail_0 rfl (lv_at hl 0 rfl) ?_
  refine lv_iload_n hx hb dX16_fail_1 rfl (lv_at hl 1 rfl) ?_
  refine va_put (D := (dC, dI)) (ci := 17) (v := .int 2) (ty := .int) (C := RX16) (T := TX16) (N := 33) hx hb hts in_f_X16_fail_RX16 tyX16 tyX16_ok nmX16 hown hK hP hD hS 1 rfl rfl 5 (by decide) (hts (.fieldLink RX16 50 "TripleStoreModel$Reader" "why" "I") (List.mem_of_getElem? (i := 1) rfl)) (fun _ h9 => h9) rfl (by decide +kernel) rfl rfl (Nat.le_of_ble_eq_true rfl) dX16_fail_2 (fun H locs hP hD hS => ?_)
  have hP : va_P (dC, dI) vwCl [(a1, .inr (0, [])), (a0, .inr (17, [.ref a2, .ref a3, .ref a4, .ref a5, .ref a1, .int 2, .int 0, .int 0, .int (-1), .long 0, .ref a6, .int 0, .int 0, .int 0, .int 0, .int 0, .int 0, .int 0, .int (-1), .int 0, .int 0, .int 0, .int 0, .int 0, .long 0, .int 0, .ref a7, .int 0, .ref a8, .int 0, .int 0, .ref a9, .int 0]))] H := hP
  have hD : va_D A [(a1, .inr (0, [])), (a0, .inr (17, [.ref a2, .ref a3, .ref a4, .ref a5, .ref a1, .int 2, .int 0, .int 0, .int (-1), .long 0, .ref a6, .int 0, .int 0, .int 0, .int 0, .int 0, .int 0, .int 0, .int (-1), .int 0, .int 0, .int 0, .int 0, .int 0, .long 0, .int 0, .ref a7, .int 0, .ref a8, .int 0, .int 0, .ref a9, .int 0]))] := hD
  refine lv_aload_n hx hb dX16_fail_5 rfl (lv_at hl 0 rfl) ?_
  refine lv_iload_n hx hb dX16_fail_6 rfl (lv_at hl 2 rfl) ?_
  refine va_put (D := (dC, dI)) (ci := 17) (v := .int 0) (ty := .int) (C := RX16) (T := TX16) (N := 33) hx hb hts in_f_X16_fail_RX16 tyX16 tyX16_ok nmX16 hown hK hP hD hS 1 rfl rfl 6 (by decide) (hts (.fieldLink RX16 54 "TripleStoreModel$Reader" "where" "I") (List.mem_of_getElem? (i := 2) rfl)) (fun _ h9 => h9) rfl (by decide +kernel) rfl rfl (Nat.le_of_ble_eq_true rfl) dX16_fail_7 (fun H locs hP hD hS => ?_)
  have hP : va_P (dC, dI) vwCl [(a1, .inr (0, [])), (a0, .inr (17, [.ref a2, .ref a3, .ref a4, .ref a5, .ref a1, .int 2, .int 0, .int 0, .int (-1), .long 0, .ref a6, .int 0, .int 0, .int 0, .int 0, .int 0, .int 0, .int 0, .int (-1), .int 0, .int 0, .int 0, .int 0, .int 0, .long 0, .int 0, .ref a7, .int 0, .ref a8, .int 0, .int 0, .ref a9, .int 0]))] H := hP
  have hD : va_D A [(a1, .inr (0, [])), (a0, .inr (17, [.ref a2, .ref a3, .ref a4, .ref a5, .ref a1, .int 2, .int 0, .int 0, .int (-1), .long 0, .ref a6, .int 0, .int 0, .int 0, .int 0, .int 0, .int 0, .int 0, .int (-1), .int 0, .int 0, .int 0, .int 0, .int 0, .long 0, .int 0, .ref a7, .int 0, .ref a8, .int 0, .int 0, .ref a9, .int 0]))] := hD
  refine lv_aload_n hx hb dX16_fail_10 rfl (lv_at hl 0 rfl) ?_
  refine va_get (D := (dC, dI)) (ci := 17) (v := .ref a1) (C := RX16) (T := TX16) (N := 33) hx hb hts in_f_X16_fail_RX16 hown hK hP 1 rfl rfl 4 (by decide) (hts (.fieldLink RX16 16 "TripleStoreModel$Reader" "wrong" "Ljava/lang/IllegalStateException;") (List.mem_of_getElem? (i := 3) rfl)) (fun _ h9 => h9) rfl dX16_fail_11 ?_
  refine k_athrow hx hb dX16_fail_14 ?_
  obtain ⟨ce, hce, hcv, hcl⟩ := k_exc (k := 0) hK hP rfl
  exact vx_out (fun x9 hx9 => (hno x9 hx9).elim) hlocks hce hcv hcl (fun t ht hW => ⟨(), trivial, ⟨rfl, by rw [ht]; exact hP, va_K.moved hW hK, hD⟩, hS.F ht⟩) hS.2.2 (Nat.le_refl _) (Nat.le_refl _)
def fw_f_X16_need : List Cond := .code yX16_need cX16_need 3 none :: ([.fieldLink RX16 34 "TripleStoreModel$Reader" "lexer" "LTripleStoreModel$Lexer;", .methodLink RX16 62 yX16_fail, .instanceMethod yX16_fail, .selects RX16 yX16_fail yX16_fail, .initialized RX16] ++ wsX160 ++ wsX140 ++ fw_f_X16_fail)
theorem in_f_X16_need_RX16 : ∀ w ∈ u_ws RX16 TX16 33, w ∈ fw_f_X16_need := fun _ h => List.mem_cons_of_mem _ (List.mem_append_left _ (List.mem_append_left _ (List.mem_append_right _ h)))
theorem in_f_X16_need_RX14 : ∀ w ∈ u_ws RX14 TX14 14, w ∈ fw_f_X16_need := fun _ h => List.mem_cons_of_mem _ (List.mem_append_left _ (List.mem_append_right _ h))
theorem gd_f_X16_need : (fw_f_X16_need).all goodWord = true := by decide +kernel
theorem gf_f_X16_need_f_X16_fail : GoodIn fw_f_X16_need fw_f_X16_fail := goodIn_sub (fun _ h => List.mem_cons_of_mem _ (List.mem_append_right _ h)) gd_f_X16_fail
theorem gh_f_X16_need_f_X16_fail_62 : GoodIn fw_f_X16_need (wsV RX16 62 RX16 yX16_fail fw_f_X16_fail) := goodIn_app (goodIn_r _ [2, 3, 4, 5] (by decide +kernel) (by decide +kernel)) gf_f_X16_need_f_X16_fail
set_option maxHeartbeats 4000000 in
set_option maxRecDepth 100000 in
theorem f_X16_need (l : Launch) (dC : Nat → ClassId) (dI : Nat → Nat → Nat) (a0 : Nat) (a2 : Nat) (a3 : Nat) (a4 : Nat) (a5 : Nat) (a1 : Nat) (a6 : Nat) (a7 : Nat) (a8 : Nat) (a9 : Nat) (a10 : Nat) (sz : Nat) : vx_Met l yX16_need fw_f_X16_need ({ frames := 2, cells := 0, slots := 0, locals := 42 }) (va_Pc [.ref a0, .int 0, .int 2] (fun U => U.heap.size = sz ∧ va_P (dC, dI) vwCl [(a1, .inr (0, [])), (a0, .inr (17, [.ref a2, .ref a3, .ref a4, .ref a5, .ref a1, .int 0, .int 0, .int 0, .int (-1), .long 0, .ref a6, .int 0, .int 0, .int 0, .int 0, .int 0, .int 0, .int 0, .int (-1), .int 0, .int 0, .int 0, .int 0, .int 0, .long 0, .int 0, .ref a7, .int 0, .ref a8, .int 0, .int 0, .ref a9, .int 0])), (a2, .inr (15, [.ref a3, .ref a10, .int 0, .int 0, .int 1, .int 0, .int 0, .int 0, .int 0, .int 0, .int 0, .long 0, .int 0, .int 0]))] U.heap ∧ va_K (dC, dI) vwCl [] U ∧ va_D (fun _ => True) [(a1, .inr (0, [])), (a0, .inr (17, [.ref a2, .ref a3, .ref a4, .ref a5, .ref a1, .int 0, .int 0, .int 0, .int (-1), .long 0, .ref a6, .int 0, .int 0, .int 0, .int 0, .int 0, .int 0, .int 0, .int (-1), .int 0, .int 0, .int 0, .int 0, .int 0, .long 0, .int 0, .ref a7, .int 0, .ref a8, .int 0, .int 0, .ref a9, .int 0])), (a2, .inr (15, [.ref a3, .ref a10, .int 0, .int 0, .int 1, .int 0, .int 0, .int 0, .int 0, .int 0, .int 0, .long 0, .int 0, .int 0]))] ∧ va_Nw (.fieldLinkNest RX16 57 "TripleStoreModel$Lexer" "place" "I" "TripleStoreModel") U)) (va_Qv (fun _ : Unit => False) (fun _ _ => True) (va_A [(a1, .inr (0, [])), (a0, .inr (17, [.ref a2, .ref a3, .ref a4, .ref a5, .ref a1, .int 0, .int 0, .int 0, .int (-1), .long 0, .ref a6, .int 0, .int 0, .int 0, .int 0, .int 0, .int 0, .int 0, .int (-1), .int 0, .int 0, .int 0, .int 0, .int 0, .long 0, .int 0, .ref a7, .int 0, .ref a8, .int 0, .int 0, .ref a9, .int 0])), (a2, .inr (15, [.ref a3, .ref a10, .int 0, .int 0, .int 1, .int 0, .int 0, .int 0, .int 0, .int 0, .int 0, .long 0, .int 0, .int 0]))] sz)) (vx_X (fun _ : Unit => True) (fun E _ t => E = "java/lang/IllegalStateException" ∧ va_P (dC, dI) vwCl [(a2, .inr (15, [.ref a3, .ref a10, .int 0, .int 0, .int 1, .int 0, .int 0, .int 0, .int 0, .int 0, .int 0, .long 0, .int 0, .int 0])), (a1, .inr (0, [])), (a0, .inr (17, [.ref a2, .ref a3, .ref a4, .ref a5, .ref a1, .int 2, .int 0, .int 0, .int (-1), .long 0, .ref a6, .int 0, .int 0, .int 0, .int 0, .int 0, .int 0, .int 0, .int (-1), .int 0, .int 0, .int 0, .int 0, .int 0, .long 0, .int 0, .ref a7, .int 0, .ref a8, .int 0, .int 0, .ref a9, .int 0]))] t.heap ∧ va_K (dC, dI) vwCl [] t ∧ va_D (va_A [(a1, .inr (0, [])), (a0, .inr (17, [.ref a2, .ref a3, .ref a4, .ref a5, .ref a1, .int 0, .int 0, .int 0, .int (-1), .long 0, .ref a6, .int 0, .int 0, .int 0, .int 0, .int 0, .int 0, .int 0, .int (-1), .int 0, .int 0, .int 0, .int 0, .int 0, .long 0, .int 0, .ref a7, .int 0, .ref a8, .int 0, .int 0, .ref a9, .int 0])), (a2, .inr (15, [.ref a3, .ref a10, .int 0, .int 0, .int 1, .int 0, .int 0, .int 0, .int 0, .int 0, .int 0, .long 0, .int 0, .int 0]))] sz) [(a2, .inr (15, [.ref a3, .ref a10, .int 0, .int 0, .int 1, .int 0, .int 0, .int 0, .int 0, .int 0, .int 0, .long 0, .int 0, .int 0])), (a1, .inr (0, [])), (a0, .inr (17, [.ref a2, .ref a3, .ref a4, .ref a5, .ref a1, .int 2, .int 0, .int 0, .int (-1), .long 0, .ref a6, .int 0, .int 0, .int 0, .int 0, .int 0, .int 0, .int 0, .int (-1), .int 0, .int 0, .int 0, .int 0, .int 0, .long 0, .int 0, .ref a7, .int 0, .ref a8, .int 0, .int 0, .ref a9, .int 0]))]) (va_A [(a1, .inr (0, [])), (a0, .inr (17, [.ref a2, .ref a3, .ref a4, .ref a5, .ref a1, .int 0, .int 0, .int 0, .int (-1), .long 0, .ref a6, .int 0, .int 0, .int 0, .int 0, .int 0, .int 0, .int 0, .int (-1), .int 0, .int 0, .int 0, .int 0, .int 0, .long 0, .int 0, .ref a7, .int 0, .ref a8, .int 0, .int 0, .ref a9, .int 0])), (a2, .inr (15, [.ref a3, .ref a10, .int 0, .int 0, .int 1, .int 0, .int 0, .int 0, .int 0, .int 0, .int 0, .long 0, .int 0, .int 0]))] sz)) 0 0 (va_A [(a1, .inr (0, [])), (a0, .inr (17, [.ref a2, .ref a3, .ref a4, .ref a5, .ref a1, .int 0, .int 0, .int 0, .int (-1), .long 0, .ref a6, .int 0, .int 0, .int 0, .int 0, .int 0, .int 0, .int 0, .int (-1), .int 0, .int 0, .int 0, .int 0, .int 0, .long 0, .int 0, .ref a7, .int 0, .ref a8, .int 0, .int 0, .ref a9, .int 0])), (a2, .inr (15, [.ref a3, .ref a10, .int 0, .int 0, .int 1, .int 0, .int 0, .int 0, .int 0, .int 0, .int 0, .long 0, .int 0, .int 0]))] sz) := by
  refine vx_ofW (cc := cX16_need) (maxL := 3) (ret := none) (by decide) rfl ?_
  intro p e s m args below meth c s₁ B hml hno hv
  obtain ⟨rfl, hsz, hP, hK, hD0, hZ0⟩ := hv
  have hx := B.exec
  have hb := B.bytes
  have hr := B.returns
  have hts := atoms_spec (ws := fw_f_X16_need) B.pre
  have hown : s.vm.findClass RX16 = some m.cls := findClass_of_methodNamed B.named
  have hlocks := B.notSynchronized
  subst hsz
  have hD := hD0.self (sz := s.heap.size)
  generalize hAe : va_A [(a1, .inr (0, [])), (a0, .inr (17, [.ref a2, .ref a3, .ref a4, .ref a5, .ref a1, .int 0, .int 0, .int 0, .int (-1), .long 0, .ref a6, .int 0, .int 0, .int 0, .int 0, .int 0, .int 0, .int 0, .int (-1), .int 0, .int 0, .int 0, .int 0, .int 0, .long 0, .int 0, .ref a7, .int 0, .ref a8, .int 0, .int 0, .ref a9, .int 0])), (a2, .inr (15, [.ref a3, .ref a10, .int 0, .int 0, .int 1, .int 0, .int 0, .int 0, .int 0, .int 0, .int 0, .long 0, .int 0, .int 0]))] s.heap.size = A at hD ⊢
  have hA : ∀ q : Nat, s.heap.size ≤ q → A q := fun q h => by rw [← hAe]; exact Or.inr h
  obtain ⟨H, hH⟩ : ∃ z, z = s.heap := ⟨_, rfl⟩
  rw [← hH] at hP
  have hS : va_S A s.heap H [] := by rw [hH]; exact va_S.rf
  have hP : va_P (dC, dI) vwCl [(a1, .inr (0, [])), (a0, .inr (17, [.ref a2, .ref a3, .ref a4, .ref a5, .ref a1, .int 0, .int 0, .int 0, .int (-1), .long 0, .ref a6, .int 0, .int 0, .int 0, .int 0, .int 0, .int 0, .int 0, .int (-1), .int 0, .int 0, .int 0, .int 0, .int 0, .long 0, .int 0, .ref a7, .int 0, .ref a8, .int 0, .int 0, .ref a9, .int 0])), (a2, .inr (15, [.ref a3, .ref a10, .int 0, .int 0, .int 1, .int 0, .int 0, .int 0, .int 0, .int 0, .int 0, .long 0, .int 0, .int 0]))] H := hP
  have hl := lv_entry ([.ref a0, .int 0, .int 2]) (n := 3) (Nat.le_of_ble_eq_true rfl)
  rw [lg_entry_eq]
  generalize (lg_sl ([.ref a0, .int 0, .int 2]) ++ List.replicate (3 - (lg_sl ([.ref a0, .int 0, .int 2])).length) Slot.unset).toArray = ls at hl ⊢
  have hl : lv_has ls 3 [(0, .ref a0), (1, .int 0), (2, .int 2)] := hl
  rw [← hH]
  refine lv_iload_n hx hb dX16_need_0 rfl (lv_at hl 1 rfl) ?_
  refine lv_if_ne (tgt := 16) hx hb dX16_need_1 (by decide) (fun c9 => absurd (by decide +kernel) c9) (fun _ => ?_)
  refine lv_aload_n hx hb dX16_need_4 rfl (lv_at hl 0 rfl) ?_
  refine lv_iload_n hx hb dX16_need_5 rfl (lv_at hl 2 rfl) ?_
  refine lv_aload_n hx hb dX16_need_6 rfl (lv_at hl 0 rfl) ?_
  refine va_get (D := (dC, dI)) (ci := 17) (v := .ref a2) (C := RX16) (T := TX16) (N := 33) hx hb hts in_f_X16_need_RX16 hown hK hP 1 rfl rfl 0 (by decide) (hts (.fieldLink RX16 34 "TripleStoreModel$Reader" "lexer" "LTripleStoreModel$Lexer;") (List.mem_of_getElem? (i := 1) rfl)) (fun _ h9 => h9) rfl dX16_need_7 ?_
  refine va_getN (D := (dC, dI)) (ci := 15) (v := .int 0) (C := RX14) (T := TX14) (N := 14) hx hb hts in_f_X16_need_RX14 hown hK hP 2 rfl rfl 6 (by decide) (va_Nw.use rfl hZ0) (fun _ h9 => h9) rfl dX16_need_10 ?_
  have hPc := hP.sub (ws' := [(a1, .inr (0, [])), (a0, .inr (17, [.ref a2, .ref a3, .ref a4, .ref a5, .ref a1, .int 0, .int 0, .int 0, .int (-1), .long 0, .ref a6, .int 0, .int 0, .int 0, .int 0, .int 0, .int 0, .int 0, .int (-1), .int 0, .int 0, .int 0, .int 0, .int 0, .long 0, .int 0, .ref a7, .int 0, .ref a8, .int 0, .int 0, .ref a9, .int 0]))]) [0, 1] rfl
  have hDc := hD.sub (ws' := [(a1, .inr (0, [])), (a0, .inr (17, [.ref a2, .ref a3, .ref a4, .ref a5, .ref a1, .int 0, .int 0, .int 0, .int (-1), .long 0, .ref a6, .int 0, .int 0, .int 0, .int 0, .int 0, .int 0, .int 0, .int (-1), .int 0, .int 0, .int 0, .int 0, .int 0, .long 0, .int 0, .ref a7, .int 0, .ref a8, .int 0, .int 0, .ref a9, .int 0]))]) [0, 1] (by decide) rfl
  have hKc := hK.sub (tys' := []) [] rfl
  have hFc := va_free (wc := [(a1, .inr (0, [])), (a0, .inr (17, [.ref a2, .ref a3, .ref a4, .ref a5, .ref a1, .int 0, .int 0, .int 0, .int (-1), .long 0, .ref a6, .int 0, .int 0, .int 0, .int 0, .int 0, .int 0, .int 0, .int (-1), .int 0, .int 0, .int 0, .int 0, .int 0, .long 0, .int 0, .ref a7, .int 0, .ref a8, .int 0, .int 0, .ref a9, .int 0]))]) hD hS hA [0, 1] rfl
  refine vx_callv (vx_runV (As := [.int 2, .int 0]) (rest := []) ⟨hx, hb, hml, hown, hts⟩ (f_X16_fail l dC dI a0 a2 a3 a4 a5 a1 a6 a7 a8 a9 H.size) (cwV 2 hts gh_f_X16_need_f_X16_fail_62 rfl rfl rfl (by decide +kernel) ⟨Nat.le_of_ble_eq_true rfl, Nat.le_of_ble_eq_true rfl⟩) ⟨fun a U g mk q => by obtain ⟨q0, q1, qP, qK, qD⟩ := q; exact ⟨q0, q1, qP, va_K.moved (u := U) (U := U.calling g mk a) (Vm.Alike.refl U.vm) qK, qD⟩, va_recv hKc hPc (ci := 17) (q0 := 1) rfl rfl, fun U hU hW => ⟨rfl, by rw [hU], by rw [hU]; exact hPc, va_K.moved hW.alike hKc, hDc.weaken (fun _ _ _ _ => trivial)⟩⟩ rfl rfl hl.1 rfl (lv_room (Nat.le_of_ble_eq_true rfl)) dX16_need_13 ⟨Nat.le_of_ble_eq_true rfl, Nat.le_of_ble_eq_true rfl⟩) hS (fun q _ h => hFc q h) hFc (fun q _ h => hFc q h) (fun E ce q9 u t H1 locs ht hvm hw hB hz1 hk1 hS hce hcv hcl => ?_) (fun u t H1 locs1 ht hvm hw _ _ _ _ => (hw : False).elim)
  obtain ⟨rfl, hP1, hK1, hD1⟩ := hB
  rw [ht] at hP1
  have hK1 := va_K.moved hvm.symm hK1
  obtain ⟨hP, hD⟩ := va_join (wr := [(a2, .inr (15, [.ref a3, .ref a10, .int 0, .int 0, .int 1, .int 0, .int 0, .int 0, .int 0, .int 0, .int 0, .long 0, .int 0, .int 0]))]) (w1 := [(a1, .inr (0, [])), (a0, .inr (17, [.ref a2, .ref a3, .ref a4, .ref a5, .ref a1, .int 2, .int 0, .int 0, .int (-1), .long 0, .ref a6, .int 0, .int 0, .int 0, .int 0, .int 0, .int 0, .int 0, .int (-1), .int 0, .int 0, .int 0, .int 0, .int 0, .long 0, .int 0, .ref a7, .int 0, .ref a8, .int 0, .int 0, .ref a9, .int 0]))]) hP hD [0, 1] [2] rfl rfl (by decide) (by decide) hk1 hFc hP1 hD1
  have hK := (hK.sub (tys' := []) [] rfl).app hK1
  generalize H1 = H at hP hS hce ⊢
  have hP : va_P (dC, dI) vwCl [(a2, .inr (15, [.ref a3, .ref a10, .int 0, .int 0, .int 1, .int 0, .int 0, .int 0, .int 0, .int 0, .int 0, .long 0, .int 0, .int 0])), (a1, .inr (0, [])), (a0, .inr (17, [.ref a2, .ref a3, .ref a4, .ref a5, .ref a1, .int 2, .int 0, .int 0, .int (-1), .long 0, .ref a6, .int 0, .int 0, .int 0, .int 0, .int 0, .int 0, .int 0, .int (-1), .int 0, .int 0, .int 0, .int 0, .int 0, .long 0, .int 0, .ref a7, .int 0, .ref a8, .int 0, .int 0, .ref a9, .int 0]))] H := hP
  have hD : va_D A [(a2, .inr (15, [.ref a3, .ref a10, .int 0, .int 0, .int 1, .int 0, .int 0, .int 0, .int 0, .int 0, .int 0, .long 0, .int 0, .int 0])), (a1, .inr (0, [])), (a0, .inr (17, [.ref a2, .ref a3, .ref a4, .ref a5, .ref a1, .int 2, .int 0, .int 0, .int (-1), .long 0, .ref a6, .int 0, .int 0, .int 0, .int 0, .int 0, .int 0, .int 0, .int (-1), .int 0, .int 0, .int 0, .int 0, .int 0, .long 0, .int 0, .ref a7, .int 0, .ref a8, .int 0, .int 0, .ref a9, .int 0]))] := hD
  have hK : va_K (dC, dI) vwCl [] s := hK
  exact vx_out (fun x9 hx9 => (hno x9 hx9).elim) hlocks hce hcv hcl (fun t ht hW => ⟨(), trivial, ⟨rfl, by rw [ht]; exact hP, va_K.moved hW hK, hD⟩, hS.F ht⟩) hS.2.2 (Nat.le_refl _) (Nat.le_refl _)
def fw_f_X16_statement : List Cond := .code yX16_statement cX16_statement 2 none :: ([.methodLink RX16 86 yX16_isWord, .instanceMethod yX16_isWord, .selects RX16 yX16_isWord yX16_isWord, .initialized RX16, .methodLink RX16 354 yX16_takesWord, .instanceMethod yX16_takesWord, .selects RX16 yX16_takesWord yX16_takesWord, .methodLink RX16 89 yX16_need, .instanceMethod yX16_need, .selects RX16 yX16_need yX16_need] ++ fw_f_X16_isWord ++ fw_f_X16_takesWord ++ fw_f_X16_need)
theorem gd_f_X16_statement : (fw_f_X16_statement).all goodWord = true := by decide +kernel
theorem gf_f_X16_statement_f_X16_isWord : GoodIn fw_f_X16_statement fw_f_X16_isWord := goodIn_sub (fun _ h => List.mem_cons_of_mem _ (List.mem_append_left _ (List.mem_append_left _ (List.mem_append_right _ h)))) gd_f_X16_isWord
theorem gf_f_X16_statement_f_X16_takesWord : GoodIn fw_f_X16_statement fw_f_X16_takesWord := goodIn_sub (fun _ h => List.mem_cons_of_mem _ (List.mem_append_left _ (List.mem_append_right _ h))) gd_f_X16_takesWord
theorem gf_f_X16_statement_f_X16_need : GoodIn fw_f_X16_statement fw_f_X16_need := goodIn_sub (fun _ h => List.mem_cons_of_mem _ (List.mem_append_right _ h)) gd_f_X16_need
theorem gh_f_X16_statement_f_X16_isWord_86 : GoodIn fw_f_X16_statement (wsV RX16 86 RX16 yX16_isWord fw_f_X16_isWord) := goodIn_app (goodIn_r _ [1, 2, 3, 4] (by decide +kernel) (by decide +kernel)) gf_f_X16_statement_f_X16_isWord
theorem gh_f_X16_statement_f_X16_takesWord_354 : GoodIn fw_f_X16_statement (wsV RX16 354 RX16 yX16_takesWord fw_f_X16_takesWord) := goodIn_app (goodIn_r _ [5, 6, 7, 4] (by decide +kernel) (by decide +kernel)) gf_f_X16_statement_f_X16_takesWord
theorem gh_f_X16_statement_f_X16_need_89 : GoodIn fw_f_X16_statement (wsV RX16 89 RX16 yX16_need fw_f_X16_need) := goodIn_app (goodIn_r _ [8, 9, 10, 4] (by decide +kernel) (by decide +kernel)) gf_f_X16_statement_f_X16_need
set_option maxHeartbeats 4000000 in
set_option maxRecDepth 100000 in
theorem f_X16_statement (l : Launch) (dC : Nat → ClassId) (dI : Nat → Nat → Nat) (a0 : Nat) (a56 : Nat) (a57 : Nat) (a3 : Nat) (a49 : Nat) (a1 : Nat) (a58 : Nat) (a59 : Nat) (a2 : Nat) (a60 : Nat) (a61 : Nat) (s_RX16_302 : Nat) (s_RX16_655 : Nat) (s_RX16_657 : Nat) (s_RX16_664 : Nat) (s_RX16_668 : Nat) (s_RX16_673 : Nat) (s_RX16_678 : Nat) (s_RX16_680 : Nat) (sz : Nat) : vx_Met l yX16_statement fw_f_X16_statement ({ frames := 5, cells := 0, slots := 0, locals := 106 }) (va_Pc [.ref a0] (fun U => U.heap.size = sz ∧ va_P (dC, dI) vwCl [(a1, .inr (0, [])), (a0, .inr (17, [.ref a56, .ref a57, .ref a3, .ref a49, .ref a1, .int 0, .int 0, .int 0, .int (-1), .long 0, .ref a58, .int 0, .int 0, .int 0, .int 0, .int 0, .int 0, .int 0, .int (-1), .int 0, .int 0, .int 0, .int 0, .int 0, .long 0, .int 0, .ref a59, .int 0, .ref a2, .int 0, .int 0, .ref a60, .int 0])), (a56, .inr (15, [.ref a57, .ref a61, .int 0, .int 0, .int 1, .int 0, .int 0, .int 0, .int 0, .int 0, .int 0, .long 0, .int 0, .int 0]))] U.heap ∧ va_K (dC, dI) vwCl [] U ∧ va_D (fun _ => True) [(a1, .inr (0, [])), (a0, .inr (17, [.ref a56, .ref a57, .ref a3, .ref a49, .ref a1, .int 0, .int 0, .int 0, .int (-1), .long 0, .ref a58, .int 0, .int 0, .int 0, .int 0, .int 0, .int 0, .int 0, .int (-1), .int 0, .int 0, .int 0, .int 0, .int 0, .long 0, .int 0, .ref a59, .int 0, .ref a2, .int 0, .int 0, .ref a60, .int 0])), (a56, .inr (15, [.ref a57, .ref a61, .int 0, .int 0, .int 1, .int 0, .int 0, .int 0, .int 0, .int 0, .int 0, .long 0, .int 0, .int 0]))] ∧ vk_R RX16 302 "SELECT" s_RX16_302 U ∧ vk_R RX16 655 "ASK" s_RX16_655 U ∧ vk_R RX16 657 "CONSTRUCT" s_RX16_657 U ∧ vk_R RX16 664 "INSERT" s_RX16_664 U ∧ vk_R RX16 668 "DELETE" s_RX16_668 U ∧ vk_R RX16 673 "RULE" s_RX16_673 U ∧ vk_R RX16 678 "UNRULE" s_RX16_678 U ∧ vk_R RX16 680 "CLEAR" s_RX16_680 U ∧ va_Nw (.fieldLinkNest RX16 57 "TripleStoreModel$Lexer" "place" "I" "TripleStoreModel") U)) (va_Qv (fun _ : Unit => False) (fun _ _ => True) (va_A [(a1, .inr (0, [])), (a0, .inr (17, [.ref a56, .ref a57, .ref a3, .ref a49, .ref a1, .int 0, .int 0, .int 0, .int (-1), .long 0, .ref a58, .int 0, .int 0, .int 0, .int 0, .int 0, .int 0, .int 0, .int (-1), .int 0, .int 0, .int 0, .int 0, .int 0, .long 0, .int 0, .ref a59, .int 0, .ref a2, .int 0, .int 0, .ref a60, .int 0])), (a56, .inr (15, [.ref a57, .ref a61, .int 0, .int 0, .int 1, .int 0, .int 0, .int 0, .int 0, .int 0, .int 0, .long 0, .int 0, .int 0]))] sz)) (vx_X (fun _ : Unit => True) (fun E _ t => E = "java/lang/IllegalStateException" ∧ va_P (dC, dI) vwCl [(a56, .inr (15, [.ref a57, .ref a61, .int 0, .int 0, .int 1, .int 0, .int 0, .int 0, .int 0, .int 0, .int 0, .long 0, .int 0, .int 0])), (a1, .inr (0, [])), (a0, .inr (17, [.ref a56, .ref a57, .ref a3, .ref a49, .ref a1, .int 2, .int 0, .int 0, .int (-1), .long 0, .ref a58, .int 0, .int 0, .int 0, .int 0, .int 0, .int 0, .int 0, .int (-1), .int 0, .int 0, .int 0, .int 0, .int 0, .long 0, .int 0, .ref a59, .int 0, .ref a2, .int 0, .int 0, .ref a60, .int 0]))] t.heap ∧ va_K (dC, dI) vwCl [] t ∧ va_D (va_A [(a1, .inr (0, [])), (a0, .inr (17, [.ref a56, .ref a57, .ref a3, .ref a49, .ref a1, .int 0, .int 0, .int 0, .int (-1), .long 0, .ref a58, .int 0, .int 0, .int 0, .int 0, .int 0, .int 0, .int 0, .int (-1), .int 0, .int 0, .int 0, .int 0, .int 0, .long 0, .int 0, .ref a59, .int 0, .ref a2, .int 0, .int 0, .ref a60, .int 0])), (a56, .inr (15, [.ref a57, .ref a61, .int 0, .int 0, .int 1, .int 0, .int 0, .int 0, .int 0, .int 0, .int 0, .long 0, .int 0, .int 0]))] sz) [(a56, .inr (15, [.ref a57, .ref a61, .int 0, .int 0, .int 1, .int 0, .int 0, .int 0, .int 0, .int 0, .int 0, .long 0, .int 0, .int 0])), (a1, .inr (0, [])), (a0, .inr (17, [.ref a56, .ref a57, .ref a3, .ref a49, .ref a1, .int 2, .int 0, .int 0, .int (-1), .long 0, .ref a58, .int 0, .int 0, .int 0, .int 0, .int 0, .int 0, .int 0, .int (-1), .int 0, .int 0, .int 0, .int 0, .int 0, .long 0, .int 0, .ref a59, .int 0, .ref a2, .int 0, .int 0, .ref a60, .int 0]))]) (va_A [(a1, .inr (0, [])), (a0, .inr (17, [.ref a56, .ref a57, .ref a3, .ref a49, .ref a1, .int 0, .int 0, .int 0, .int (-1), .long 0, .ref a58, .int 0, .int 0, .int 0, .int 0, .int 0, .int 0, .int 0, .int (-1), .int 0, .int 0, .int 0, .int 0, .int 0, .long 0, .int 0, .ref a59, .int 0, .ref a2, .int 0, .int 0, .ref a60, .int 0])), (a56, .inr (15, [.ref a57, .ref a61, .int 0, .int 0, .int 1, .int 0, .int 0, .int 0, .int 0, .int 0, .int 0, .long 0, .int 0, .int 0]))] sz)) 0 0 (va_A [(a1, .inr (0, [])), (a0, .inr (17, [.ref a56, .ref a57, .ref a3, .ref a49, .ref a1, .int 0, .int 0, .int 0, .int (-1), .long 0, .ref a58, .int 0, .int 0, .int 0, .int 0, .int 0, .int 0, .int 0, .int (-1), .int 0, .int 0, .int 0, .int 0, .int 0, .long 0, .int 0, .ref a59, .int 0, .ref a2, .int 0, .int 0, .ref a60, .int 0])), (a56, .inr (15, [.ref a57, .ref a61, .int 0, .int 0, .int 1, .int 0, .int 0, .int 0, .int 0, .int 0, .int 0, .long 0, .int 0, .int 0]))] sz) := by
  refine vx_ofW (cc := cX16_statement) (maxL := 2) (ret := none) (by decide) rfl ?_
  intro p e s m args below meth c s₁ B hml hno hv
  obtain ⟨rfl, hsz, hP, hK, hD0, hZ0, hZ1, hZ2, hZ3, hZ4, hZ5, hZ6, hZ7, hZ8⟩ := hv
  have hx := B.exec
  have hb := B.bytes
  have hr := B.returns
  have hts := atoms_spec (ws := fw_f_X16_statement) B.pre
  have hown : s.vm.findClass RX16 = some m.cls := findClass_of_methodNamed B.named
  have hlocks := B.notSynchronized
  subst hsz
  have hD := hD0.self (sz := s.heap.size)
  generalize hAe : va_A [(a1, .inr (0, [])), (a0, .inr (17, [.ref a56, .ref a57, .ref a3, .ref a49, .ref a1, .int 0, .int 0, .int 0, .int (-1), .long 0, .ref a58, .int 0, .int 0, .int 0, .int 0, .int 0, .int 0, .int 0, .int (-1), .int 0, .int 0, .int 0, .int 0, .int 0, .long 0, .int 0, .ref a59, .int 0, .ref a2, .int 0, .int 0, .ref a60, .int 0])), (a56, .inr (15, [.ref a57, .ref a61, .int 0, .int 0, .int 1, .int 0, .int 0, .int 0, .int 0, .int 0, .int 0, .long 0, .int 0, .int 0]))] s.heap.size = A at hD ⊢
  have hA : ∀ q : Nat, s.heap.size ≤ q → A q := fun q h => by rw [← hAe]; exact Or.inr h
  obtain ⟨H, hH⟩ : ∃ z, z = s.heap := ⟨_, rfl⟩
  rw [← hH] at hP
  have hS : va_S A s.heap H [] := by rw [hH]; exact va_S.rf
  have hP : va_P (dC, dI) vwCl [(a1, .inr (0, [])), (a0, .inr (17, [.ref a56, .ref a57, .ref a3, .ref a49, .ref a1, .int 0, .int 0, .int 0, .int (-1), .long 0, .ref a58, .int 0, .int 0, .int 0, .int 0, .int 0, .int 0, .int 0, .int (-1), .int 0, .int 0, .int 0, .int 0, .int 0, .long 0, .int 0, .ref a59, .int 0, .ref a2, .int 0, .int 0, .ref a60, .int 0])), (a56, .inr (15, [.ref a57, .ref a61, .int 0, .int 0, .int 1, .int 0, .int 0, .int 0, .int 0, .int 0, .int 0, .long 0, .int 0, .int 0]))] H := hP
  have hl := lv_entry ([.ref a0]) (n := 2) (Nat.le_of_ble_eq_true rfl)
  rw [lg_entry_eq]
  generalize (lg_sl ([.ref a0]) ++ List.replicate (2 - (lg_sl ([.ref a0])).length) Slot.unset).toArray = ls at hl ⊢
  have hl : lv_has ls 2 [(0, .ref a0)] := hl
  rw [← hH]
  refine lv_aload_n hx hb dX16_statement_0 rfl (lv_at hl 0 rfl) ?_
  refine k_ldcSW hx hb hown hZ0 dX16_statement_1 ?_
  have hPc := hP.sub (ws' := [(a0, .inr (17, [.ref a56, .ref a57, .ref a3, .ref a49, .ref a1, .int 0, .int 0, .int 0, .int (-1), .long 0, .ref a58, .int 0, .int 0, .int 0, .int 0, .int 0, .int 0, .int 0, .int (-1), .int 0, .int 0, .int 0, .int 0, .int 0, .long 0, .int 0, .ref a59, .int 0, .ref a2, .int 0, .int 0, .ref a60, .int 0])), (a56, .inr (15, [.ref a57, .ref a61, .int 0, .int 0, .int 1, .int 0, .int 0, .int 0, .int 0, .int 0, .int 0, .long 0, .int 0, .int 0]))]) [1, 2] rfl
  have hDc := hD.sub (ws' := [(a0, .inr (17, [.ref a56, .ref a57, .ref a3, .ref a49, .ref a1, .int 0, .int 0, .int 0, .int (-1), .long 0, .ref a58, .int 0, .int 0, .int 0, .int 0, .int 0, .int 0, .int 0, .int (-1), .int 0, .int 0, .int 0, .int 0, .int 0, .long 0, .int 0, .ref a59, .int 0, .ref a2, .int 0, .int 0, .ref a60, .int 0])), (a56, .inr (15, [.ref a57, .ref a61, .int 0, .int 0, .int 1, .int 0, .int 0, .int 0, .int 0, .int 0, .int 0, .long 0, .int 0, .int 0]))]) [1, 2] (by decide) rfl
  have hKc := hK.sub (tys' := []) [] rfl
  have hFc := va_free (wc := [(a0, .inr (17, [.ref a56, .ref a57, .ref a3, .ref a49, .ref a1, .int 0, .int 0, .int 0, .int (-1), .long 0, .ref a58, .int 0, .int 0, .int 0, .int 0, .int 0, .int 0, .int 0, .int (-1), .int 0, .int 0, .int 0, .int 0, .int 0, .long 0, .int 0, .ref a59, .int 0, .ref a2, .int 0, .int 0, .ref a60, .int 0])), (a56, .inr (15, [.ref a57, .ref a61, .int 0, .int 0, .int 1, .int 0, .int 0, .int 0, .int 0, .int 0, .int 0, .long 0, .int 0, .int 0]))]) hD hS hA [1, 2] rfl
  refine va_calli (va_runV (As := [.ref s_RX16_302]) (rest := []) ⟨hx, hb, hml, hown, hts⟩ (f_X16_isWord l dC dI a0 s_RX16_302 a56 a57 a3 a49 a1 a58 a59 a2 a60 a61 H.size) (cwV 1 hts gh_f_X16_statement_f_X16_isWord_86 rfl rfl rfl (by decide +kernel) ⟨Nat.le_of_ble_eq_true rfl, Nat.le_of_ble_eq_true rfl⟩) ⟨fun a U g mk q => by obtain ⟨q0, q1, qP, qK, qD⟩ := q; exact ⟨q0, q1, qP, va_K.moved (u := U) (U := U.calling g mk a) (Vm.Alike.refl U.vm) qK, qD⟩, va_recv hKc hPc (ci := 17) (q0 := 0) rfl rfl, fun U hU hW => ⟨rfl, by rw [hU], by rw [hU]; exact hPc, va_K.moved hW.alike hKc, hDc.weaken (fun _ _ _ _ => trivial)⟩⟩ rfl rfl hl.1 rfl (lv_room (Nat.le_of_ble_eq_true rfl)) dX16_statement_4 ⟨Nat.le_of_ble_eq_true rfl, Nat.le_of_ble_eq_true rfl⟩) hS (fun q _ h => hFc q h) hFc (fun r u t H1 locs ht hvm hw hB hz1 hk1 hS => ?_)
  obtain ⟨hP1, hK1, hD1⟩ := hB
  have hw : r = 0 := hw
  subst hw
  rw [ht] at hP1
  have hK1 := va_K.moved hvm.symm hK1
  obtain ⟨hP, hD⟩ := va_join (wr := [(a1, .inr (0, []))]) (w1 := [(a0, .inr (17, [.ref a56, .ref a57, .ref a3, .ref a49, .ref a1, .int 0, .int 0, .int 0, .int (-1), .long 0, .ref a58, .int 0, .int 0, .int 0, .int 0, .int 0, .int 0, .int 0, .int (-1), .int 0, .int 0, .int 0, .int 0, .int 0, .long 0, .int 0, .ref a59, .int 0, .ref a2, .int 0, .int 0, .ref a60, .int 0])), (a56, .inr (15, [.ref a57, .ref a61, .int 0, .int 0, .int 1, .int 0, .int 0, .int 0, .int 0, .int 0, .int 0, .long 0, .int 0, .int 0]))]) hP hD [1, 2] [0] rfl rfl (by decide) (by decide) hk1 hFc hP1 hD1
  have hK := (hK.sub (tys' := []) [] rfl).app hK1
  generalize H1 = H at hP hS ⊢
  have hP : va_P (dC, dI) vwCl [(a1, .inr (0, [])), (a0, .inr (17, [.ref a56, .ref a57, .ref a3, .ref a49, .ref a1, .int 0, .int 0, .int 0, .int (-1), .long 0, .ref a58, .int 0, .int 0, .int 0, .int 0, .int 0, .int 0, .int 0, .int (-1), .int 0, .int 0, .int 0, .int 0, .int 0, .long 0, .int 0, .ref a59, .int 0, .ref a2, .int 0, .int 0, .ref a60, .int 0])), (a56, .inr (15, [.ref a57, .ref a61, .int 0, .int 0, .int 1, .int 0, .int 0, .int 0, .int 0, .int 0, .int 0, .long 0, .int 0, .int 0]))] H := hP
  have hD : va_D A [(a1, .inr (0, [])), (a0, .inr (17, [.ref a56, .ref a57, .ref a3, .ref a49, .ref a1, .int 0, .int 0, .int 0, .int (-1), .long 0, .ref a58, .int 0, .int 0, .int 0, .int 0, .int 0, .int 0, .int 0, .int (-1), .int 0, .int 0, .int 0, .int 0, .int 0, .long 0, .int 0, .ref a59, .int 0, .ref a2, .int 0, .int 0, .ref a60, .int 0])), (a56, .inr (15, [.ref a57, .ref a61, .int 0, .int 0, .int 1, .int 0, .int 0, .int 0, .int 0, .int 0, .int 0, .long 0, .int 0, .int 0]))] := hD
  have hK : va_K (dC, dI) vwCl [] s := hK
  refine lv_if_eq (tgt := 26) hx hb dX16_statement_7 (by decide) (fun _ => ?_) (fun c9 => absurd (by decide +kernel) c9)
  refine lv_aload_n hx hb dX16_statement_26 rfl (lv_at hl 0 rfl) ?_
  refine k_ldcSW hx hb hown hZ1 dX16_statement_27 ?_
  have hPc := hP.sub (ws' := [(a0, .inr (17, [.ref a56, .ref a57, .ref a3, .ref a49, .ref a1, .int 0, .int 0, .int 0, .int (-1), .long 0, .ref a58, .int 0, .int 0, .int 0, .int 0, .int 0, .int 0, .int 0, .int (-1), .int 0, .int 0, .int 0, .int 0, .int 0, .long 0, .int 0, .ref a59, .int 0, .ref a2, .int 0, .int 0, .ref a60, .int 0])), (a56, .inr (15, [.ref a57, .ref a61, .int 0, .int 0, .int 1, .int 0, .int 0, .int 0, .int 0, .int 0, .int 0, .long 0, .int 0, .int 0]))]) [1, 2] rfl
  have hDc := hD.sub (ws' := [(a0, .inr (17, [.ref a56, .ref a57, .ref a3, .ref a49, .ref a1, .int 0, .int 0, .int 0, .int (-1), .long 0, .ref a58, .int 0, .int 0, .int 0, .int 0, .int 0, .int 0, .int 0, .int (-1), .int 0, .int 0, .int 0, .int 0, .int 0, .long 0, .int 0, .ref a59, .int 0, .ref a2, .int 0, .int 0, .ref a60, .int 0])), (a56, .inr (15, [.ref a57, .ref a61, .int 0, .int 0, .int 1, .int 0, .int 0, .int 0, .int 0, .int 0, .int 0, .long 0, .int 0, .int 0]))]) [1, 2] (by decide) rfl
  have hKc := hK.sub (tys' := []) [] rfl
  have hFc := va_free (wc := [(a0, .inr (17, [.ref a56, .ref a57, .ref a3, .ref a49, .ref a1, .int 0, .int 0, .int 0, .int (-1), .long 0, .ref a58, .int 0, .int 0, .int 0, .int 0, .int 0, .int 0, .int 0, .int (-1), .int 0, .int 0, .int 0, .int 0, .int 0, .long 0, .int 0, .ref a59, .int 0, .ref a2, .int 0, .int 0, .ref a60, .int 0])), (a56, .inr (15, [.ref a57, .ref a61, .int 0, .int 0, .int 1, .int 0, .int 0, .int 0, .int 0, .int 0, .int 0, .long 0, .int 0, .int 0]))]) hD hS hA [1, 2] rfl
  refine va_calli (va_runV (As := [.ref s_RX16_655]) (rest := []) ⟨hx, hb, hml, hown, hts⟩ (f_X16_takesWord l dC dI a0 s_RX16_655 a56 a57 a3 a49 a1 a58 a59 a2 a60 a61 H.size) (cwV 1 hts gh_f_X16_statement_f_X16_takesWord_354 rfl rfl rfl (by decide +kernel) ⟨Nat.le_of_ble_eq_true rfl, Nat.le_of_ble_eq_true rfl⟩) ⟨fun a U g mk q => by obtain ⟨q0, q1, qP, qK, qD⟩ := q; exact ⟨q0, q1, qP, va_K.moved (u := U) (U := U.calling g mk a) (Vm.Alike.refl U.vm) qK, qD⟩, va_recv hKc hPc (ci := 17) (q0 := 0) rfl rfl, fun U hU hW => ⟨rfl, by rw [hU], by rw [hU]; exact hPc, va_K.moved hW.alike hKc, hDc.weaken (fun _ _ _ _ => trivial)⟩⟩ rfl rfl hl.1 rfl (lv_room (Nat.le_of_ble_eq_true rfl)) dX16_statement_30 ⟨Nat.le_of_ble_eq_true rfl, Nat.le_of_ble_eq_true rfl⟩) hS (fun q _ h => hFc q h) hFc (fun r u t H1 locs ht hvm hw hB hz1 hk1 hS => ?_)
  obtain ⟨hP1, hK1, hD1⟩ := hB
  have hw : r = 0 := hw
  subst hw
  rw [ht] at hP1
  have hK1 := va_K.moved hvm.symm hK1
  obtain ⟨hP, hD⟩ := va_join (wr := [(a1, .inr (0, []))]) (w1 := [(a0, .inr (17, [.ref a56, .ref a57, .ref a3, .ref a49, .ref a1, .int 0, .int 0, .int 0, .int (-1), .long 0, .ref a58, .int 0, .int 0, .int 0, .int 0, .int 0, .int 0, .int 0, .int (-1), .int 0, .int 0, .int 0, .int 0, .int 0, .long 0, .int 0, .ref a59, .int 0, .ref a2, .int 0, .int 0, .ref a60, .int 0])), (a56, .inr (15, [.ref a57, .ref a61, .int 0, .int 0, .int 1, .int 0, .int 0, .int 0, .int 0, .int 0, .int 0, .long 0, .int 0, .int 0]))]) hP hD [1, 2] [0] rfl rfl (by decide) (by decide) hk1 hFc hP1 hD1
  have hK := (hK.sub (tys' := []) [] rfl).app hK1
  generalize H1 = H at hP hS ⊢
  have hP : va_P (dC, dI) vwCl [(a1, .inr (0, [])), (a0, .inr (17, [.ref a56, .ref a57, .ref a3, .ref a49, .ref a1, .int 0, .int 0, .int 0, .int (-1), .long 0, .ref a58, .int 0, .int 0, .int 0, .int 0, .int 0, .int 0, .int 0, .int (-1), .int 0, .int 0, .int 0, .int 0, .int 0, .long 0, .int 0, .ref a59, .int 0, .ref a2, .int 0, .int 0, .ref a60, .int 0])), (a56, .inr (15, [.ref a57, .ref a61, .int 0, .int 0, .int 1, .int 0, .int 0, .int 0, .int 0, .int 0, .int 0, .long 0, .int 0, .int 0]))] H := hP
  have hD : va_D A [(a1, .inr (0, [])), (a0, .inr (17, [.ref a56, .ref a57, .ref a3, .ref a49, .ref a1, .int 0, .int 0, .int 0, .int (-1), .long 0, .ref a58, .int 0, .int 0, .int 0, .int 0, .int 0, .int 0, .int 0, .int (-1), .int 0, .int 0, .int 0, .int 0, .int 0, .long 0, .int 0, .ref a59, .int 0, .ref a2, .int 0, .int 0, .ref a60, .int 0])), (a56, .inr (15, [.ref a57, .ref a61, .int 0, .int 0, .int 1, .int 0, .int 0, .int 0, .int 0, .int 0, .int 0, .long 0, .int 0, .int 0]))] := hD
  have hK : va_K (dC, dI) vwCl [] s := hK
  refine lv_if_eq (tgt := 52) hx hb dX16_statement_33 (by decide) (fun _ => ?_) (fun c9 => absurd (by decide +kernel) c9)
  refine lv_aload_n hx hb dX16_statement_52 rfl (lv_at hl 0 rfl) ?_
  refine k_ldcSW hx hb hown hZ2 dX16_statement_53 ?_
  have hPc := hP.sub (ws' := [(a0, .inr (17, [.ref a56, .ref a57, .ref a3, .ref a49, .ref a1, .int 0, .int 0, .int 0, .int (-1), .long 0, .ref a58, .int 0, .int 0, .int 0, .int 0, .int 0, .int 0, .int 0, .int (-1), .int 0, .int 0, .int 0, .int 0, .int 0, .long 0, .int 0, .ref a59, .int 0, .ref a2, .int 0, .int 0, .ref a60, .int 0])), (a56, .inr (15, [.ref a57, .ref a61, .int 0, .int 0, .int 1, .int 0, .int 0, .int 0, .int 0, .int 0, .int 0, .long 0, .int 0, .int 0]))]) [1, 2] rfl
  have hDc := hD.sub (ws' := [(a0, .inr (17, [.ref a56, .ref a57, .ref a3, .ref a49, .ref a1, .int 0, .int 0, .int 0, .int (-1), .long 0, .ref a58, .int 0, .int 0, .int 0, .int 0, .int 0, .int 0, .int 0, .int (-1), .int 0, .int 0, .int 0, .int 0, .int 0, .long 0, .int 0, .ref a59, .int 0, .ref a2, .int 0, .int 0, .ref a60, .int 0])), (a56, .inr (15, [.ref a57, .ref a61, .int 0, .int 0, .int 1, .int 0, .int 0, .int 0, .int 0, .int 0, .int 0, .long 0, .int 0, .int 0]))]) [1, 2] (by decide) rfl
  have hKc := hK.sub (tys' := []) [] rfl
  have hFc := va_free (wc := [(a0, .inr (17, [.ref a56, .ref a57, .ref a3, .ref a49, .ref a1, .int 0, .int 0, .int 0, .int (-1), .long 0, .ref a58, .int 0, .int 0, .int 0, .int 0, .int 0, .int 0, .int 0, .int (-1), .int 0, .int 0, .int 0, .int 0, .int 0, .long 0, .int 0, .ref a59, .int 0, .ref a2, .int 0, .int 0, .ref a60, .int 0])), (a56, .inr (15, [.ref a57, .ref a61, .int 0, .int 0, .int 1, .int 0, .int 0, .int 0, .int 0, .int 0, .int 0, .long 0, .int 0, .int 0]))]) hD hS hA [1, 2] rfl
  refine va_calli (va_runV (As := [.ref s_RX16_657]) (rest := []) ⟨hx, hb, hml, hown, hts⟩ (f_X16_takesWord l dC dI a0 s_RX16_657 a56 a57 a3 a49 a1 a58 a59 a2 a60 a61 H.size) (cwV 1 hts gh_f_X16_statement_f_X16_takesWord_354 rfl rfl rfl (by decide +kernel) ⟨Nat.le_of_ble_eq_true rfl, Nat.le_of_ble_eq_true rfl⟩) ⟨fun a U g mk q => by obtain ⟨q0, q1, qP, qK, qD⟩ := q; exact ⟨q0, q1, qP, va_K.moved (u := U) (U := U.calling g mk a) (Vm.Alike.refl U.vm) qK, qD⟩, va_recv hKc hPc (ci := 17) (q0 := 0) rfl rfl, fun U hU hW => ⟨rfl, by rw [hU], by rw [hU]; exact hPc, va_K.moved hW.alike hKc, hDc.weaken (fun _ _ _ _ => trivial)⟩⟩ rfl rfl hl.1 rfl (lv_room (Nat.le_of_ble_eq_true rfl)) dX16_statement_56 ⟨Nat.le_of_ble_eq_true rfl, Nat.le_of_ble_eq_true rfl⟩) hS (fun q _ h => hFc q h) hFc (fun r u t H1 locs ht hvm hw hB hz1 hk1 hS => ?_)
  obtain ⟨hP1, hK1, hD1⟩ := hB
  have hw : r = 0 := hw
  subst hw
  rw [ht] at hP1
  have hK1 := va_K.moved hvm.symm hK1
  obtain ⟨hP, hD⟩ := va_join (wr := [(a1, .inr (0, []))]) (w1 := [(a0, .inr (17, [.ref a56, .ref a57, .ref a3, .ref a49, .ref a1, .int 0, .int 0, .int 0, .int (-1), .long 0, .ref a58, .int 0, .int 0, .int 0, .int 0, .int 0, .int 0, .int 0, .int (-1), .int 0, .int 0, .int 0, .int 0, .int 0, .long 0, .int 0, .ref a59, .int 0, .ref a2, .int 0, .int 0, .ref a60, .int 0])), (a56, .inr (15, [.ref a57, .ref a61, .int 0, .int 0, .int 1, .int 0, .int 0, .int 0, .int 0, .int 0, .int 0, .long 0, .int 0, .int 0]))]) hP hD [1, 2] [0] rfl rfl (by decide) (by decide) hk1 hFc hP1 hD1
  have hK := (hK.sub (tys' := []) [] rfl).app hK1
  generalize H1 = H at hP hS ⊢
  have hP : va_P (dC, dI) vwCl [(a1, .inr (0, [])), (a0, .inr (17, [.ref a56, .ref a57, .ref a3, .ref a49, .ref a1, .int 0, .int 0, .int 0, .int (-1), .long 0, .ref a58, .int 0, .int 0, .int 0, .int 0, .int 0, .int 0, .int 0, .int (-1), .int 0, .int 0, .int 0, .int 0, .int 0, .long 0, .int 0, .ref a59, .int 0, .ref a2, .int 0, .int 0, .ref a60, .int 0])), (a56, .inr (15, [.ref a57, .ref a61, .int 0, .int 0, .int 1, .int 0, .int 0, .int 0, .int 0, .int 0, .int 0, .long 0, .int 0, .int 0]))] H := hP
  have hD : va_D A [(a1, .inr (0, [])), (a0, .inr (17, [.ref a56, .ref a57, .ref a3, .ref a49, .ref a1, .int 0, .int 0, .int 0, .int (-1), .long 0, .ref a58, .int 0, .int 0, .int 0, .int 0, .int 0, .int 0, .int 0, .int (-1), .int 0, .int 0, .int 0, .int 0, .int 0, .long 0, .int 0, .ref a59, .int 0, .ref a2, .int 0, .int 0, .ref a60, .int 0])), (a56, .inr (15, [.ref a57, .ref a61, .int 0, .int 0, .int 1, .int 0, .int 0, .int 0, .int 0, .int 0, .int 0, .long 0, .int 0, .int 0]))] := hD
  have hK : va_K (dC, dI) vwCl [] s := hK
  refine lv_if_eq (tgt := 79) hx hb dX16_statement_59 (by decide) (fun _ => ?_) (fun c9 => absurd (by decide +kernel) c9)
  refine lv_aload_n hx hb dX16_statement_79 rfl (lv_at hl 0 rfl) ?_
  refine k_ldcSW hx hb hown hZ3 dX16_statement_80 ?_
  have hPc := hP.sub (ws' := [(a0, .inr (17, [.ref a56, .ref a57, .ref a3, .ref a49, .ref a1, .int 0, .int 0, .int 0, .int (-1), .long 0, .ref a58, .int 0, .int 0, .int 0, .int 0, .int 0, .int 0, .int 0, .int (-1), .int 0, .int 0, .int 0, .int 0, .int 0, .long 0, .int 0, .ref a59, .int 0, .ref a2, .int 0, .int 0, .ref a60, .int 0])), (a56, .inr (15, [.ref a57, .ref a61, .int 0, .int 0, .int 1, .int 0, .int 0, .int 0, .int 0, .int 0, .int 0, .long 0, .int 0, .int 0]))]) [1, 2] rfl
  have hDc := hD.sub (ws' := [(a0, .inr (17, [.ref a56, .ref a57, .ref a3, .ref a49, .ref a1, .int 0, .int 0, .int 0, .int (-1), .long 0, .ref a58, .int 0, .int 0, .int 0, .int 0, .int 0, .int 0, .int 0, .int (-1), .int 0, .int 0, .int 0, .int 0, .int 0, .long 0, .int 0, .ref a59, .int 0, .ref a2, .int 0, .int 0, .ref a60, .int 0])), (a56, .inr (15, [.ref a57, .ref a61, .int 0, .int 0, .int 1, .int 0, .int 0, .int 0, .int 0, .int 0, .int 0, .long 0, .int 0, .int 0]))]) [1, 2] (by decide) rfl
  have hKc := hK.sub (tys' := []) [] rfl
  have hFc := va_free (wc := [(a0, .inr (17, [.ref a56, .ref a57, .ref a3, .ref a49, .ref a1, .int 0, .int 0, .int 0, .int (-1), .long 0, .ref a58, .int 0, .int 0, .int 0, .int 0, .int 0, .int 0, .int 0, .int (-1), .int 0, .int 0, .int 0, .int 0, .int 0, .long 0, .int 0, .ref a59, .int 0, .ref a2, .int 0, .int 0, .ref a60, .int 0])), (a56, .inr (15, [.ref a57, .ref a61, .int 0, .int 0, .int 1, .int 0, .int 0, .int 0, .int 0, .int 0, .int 0, .long 0, .int 0, .int 0]))]) hD hS hA [1, 2] rfl
  refine va_calli (va_runV (As := [.ref s_RX16_664]) (rest := []) ⟨hx, hb, hml, hown, hts⟩ (f_X16_takesWord l dC dI a0 s_RX16_664 a56 a57 a3 a49 a1 a58 a59 a2 a60 a61 H.size) (cwV 1 hts gh_f_X16_statement_f_X16_takesWord_354 rfl rfl rfl (by decide +kernel) ⟨Nat.le_of_ble_eq_true rfl, Nat.le_of_ble_eq_true rfl⟩) ⟨fun a U g mk q => by obtain ⟨q0, q1, qP, qK, qD⟩ := q; exact ⟨q0, q1, qP, va_K.moved (u := U) (U := U.calling g mk a) (Vm.Alike.refl U.vm) qK, qD⟩, va_recv hKc hPc (ci := 17) (q0 := 0) rfl rfl, fun U hU hW => ⟨rfl, by rw [hU], by rw [hU]; exact hPc, va_K.moved hW.alike hKc, hDc.weaken (fun _ _ _ _ => trivial)⟩⟩ rfl rfl hl.1 rfl (lv_room (Nat.le_of_ble_eq_true rfl)) dX16_statement_83 ⟨Nat.le_of_ble_eq_true rfl, Nat.le_of_ble_eq_true rfl⟩) hS (fun q _ h => hFc q h) hFc (fun r u t H1 locs ht hvm hw hB hz1 hk1 hS => ?_)
  obtain ⟨hP1, hK1, hD1⟩ := hB
  have hw : r = 0 := hw
  subst hw
  rw [ht] at hP1
  have hK1 := va_K.moved hvm.symm hK1
  obtain ⟨hP, hD⟩ := va_join (wr := [(a1, .inr (0, []))]) (w1 := [(a0, .inr (17, [.ref a56, .ref a57, .ref a3, .ref a49, .ref a1, .int 0, .int 0, .int 0, .int (-1), .long 0, .ref a58, .int 0, .int 0, .int 0, .int 0, .int 0, .int 0, .int 0, .int (-1), .int 0, .int 0, .int 0, .int 0, .int 0, .long 0, .int 0, .ref a59, .int 0, .ref a2, .int 0, .int 0, .ref a60, .int 0])), (a56, .inr (15, [.ref a57, .ref a61, .int 0, .int 0, .int 1, .int 0, .int 0, .int 0, .int 0, .int 0, .int 0, .long 0, .int 0, .int 0]))]) hP hD [1, 2] [0] rfl rfl (by decide) (by decide) hk1 hFc hP1 hD1
  have hK := (hK.sub (tys' := []) [] rfl).app hK1
  generalize H1 = H at hP hS ⊢
  have hP : va_P (dC, dI) vwCl [(a1, .inr (0, [])), (a0, .inr (17, [.ref a56, .ref a57, .ref a3, .ref a49, .ref a1, .int 0, .int 0, .int 0, .int (-1), .long 0, .ref a58, .int 0, .int 0, .int 0, .int 0, .int 0, .int 0, .int 0, .int (-1), .int 0, .int 0, .int 0, .int 0, .int 0, .long 0, .int 0, .ref a59, .int 0, .ref a2, .int 0, .int 0, .ref a60, .int 0])), (a56, .inr (15, [.ref a57, .ref a61, .int 0, .int 0, .int 1, .int 0, .int 0, .int 0, .int 0, .int 0, .int 0, .long 0, .int 0, .int 0]))] H := hP
  have hD : va_D A [(a1, .inr (0, [])), (a0, .inr (17, [.ref a56, .ref a57, .ref a3, .ref a49, .ref a1, .int 0, .int 0, .int 0, .int (-1), .long 0, .ref a58, .int 0, .int 0, .int 0, .int 0, .int 0, .int 0, .int 0, .int (-1), .int 0, .int 0, .int 0, .int 0, .int 0, .long 0, .int 0, .ref a59, .int 0, .ref a2, .int 0, .int 0, .ref a60, .int 0])), (a56, .inr (15, [.ref a57, .ref a61, .int 0, .int 0, .int 1, .int 0, .int 0, .int 0, .int 0, .int 0, .int 0, .long 0, .int 0, .int 0]))] := hD
  have hK : va_K (dC, dI) vwCl [] s := hK
  refine lv_if_eq (tgt := 118) hx hb dX16_statement_86 (by decide) (fun _ => ?_) (fun c9 => absurd (by decide +kernel) c9)
  refine lv_aload_n hx hb dX16_statement_118 rfl (lv_at hl 0 rfl) ?_
  refine k_ldcSW hx hb hown hZ4 dX16_statement_119 ?_
  have hPc := hP.sub (ws' := [(a0, .inr (17, [.ref a56, .ref a57, .ref a3, .ref a49, .ref a1, .int 0, .int 0, .int 0, .int (-1), .long 0, .ref a58, .int 0, .int 0, .int 0, .int 0, .int 0, .int 0, .int 0, .int (-1), .int 0, .int 0, .int 0, .int 0, .int 0, .long 0, .int 0, .ref a59, .int 0, .ref a2, .int 0, .int 0, .ref a60, .int 0])), (a56, .inr (15, [.ref a57, .ref a61, .int 0, .int 0, .int 1, .int 0, .int 0, .int 0, .int 0, .int 0, .int 0, .long 0, .int 0, .int 0]))]) [1, 2] rfl
  have hDc := hD.sub (ws' := [(a0, .inr (17, [.ref a56, .ref a57, .ref a3, .ref a49, .ref a1, .int 0, .int 0, .int 0, .int (-1), .long 0, .ref a58, .int 0, .int 0, .int 0, .int 0, .int 0, .int 0, .int 0, .int (-1), .int 0, .int 0, .int 0, .int 0, .int 0, .long 0, .int 0, .ref a59, .int 0, .ref a2, .int 0, .int 0, .ref a60, .int 0])), (a56, .inr (15, [.ref a57, .ref a61, .int 0, .int 0, .int 1, .int 0, .int 0, .int 0, .int 0, .int 0, .int 0, .long 0, .int 0, .int 0]))]) [1, 2] (by decide) rfl
  have hKc := hK.sub (tys' := []) [] rfl
  have hFc := va_free (wc := [(a0, .inr (17, [.ref a56, .ref a57, .ref a3, .ref a49, .ref a1, .int 0, .int 0, .int 0, .int (-1), .long 0, .ref a58, .int 0, .int 0, .int 0, .int 0, .int 0, .int 0, .int 0, .int (-1), .int 0, .int 0, .int 0, .int 0, .int 0, .long 0, .int 0, .ref a59, .int 0, .ref a2, .int 0, .int 0, .ref a60, .int 0])), (a56, .inr (15, [.ref a57, .ref a61, .int 0, .int 0, .int 1, .int 0, .int 0, .int 0, .int 0, .int 0, .int 0, .long 0, .int 0, .int 0]))]) hD hS hA [1, 2] rfl
  refine va_calli (va_runV (As := [.ref s_RX16_668]) (rest := []) ⟨hx, hb, hml, hown, hts⟩ (f_X16_takesWord l dC dI a0 s_RX16_668 a56 a57 a3 a49 a1 a58 a59 a2 a60 a61 H.size) (cwV 1 hts gh_f_X16_statement_f_X16_takesWord_354 rfl rfl rfl (by decide +kernel) ⟨Nat.le_of_ble_eq_true rfl, Nat.le_of_ble_eq_true rfl⟩) ⟨fun a U g mk q => by obtain ⟨q0, q1, qP, qK, qD⟩ := q; exact ⟨q0, q1, qP, va_K.moved (u := U) (U := U.calling g mk a) (Vm.Alike.refl U.vm) qK, qD⟩, va_recv hKc hPc (ci := 17) (q0 := 0) rfl rfl, fun U hU hW => ⟨rfl, by rw [hU], by rw [hU]; exact hPc, va_K.moved hW.alike hKc, hDc.weaken (fun _ _ _ _ => trivial)⟩⟩ rfl rfl hl.1 rfl (lv_room (Nat.le_of_ble_eq_true rfl)) dX16_statement_122 ⟨Nat.le_of_ble_eq_true rfl, Nat.le_of_ble_eq_true rfl⟩) hS (fun q _ h => hFc q h) hFc (fun r u t H1 locs ht hvm hw hB hz1 hk1 hS => ?_)
  obtain ⟨hP1, hK1, hD1⟩ := hB
  have hw : r = 0 := hw
  subst hw
  rw [ht] at hP1
  have hK1 := va_K.moved hvm.symm hK1
  obtain ⟨hP, hD⟩ := va_join (wr := [(a1, .inr (0, []))]) (w1 := [(a0, .inr (17, [.ref a56, .ref a57, .ref a3, .ref a49, .ref a1, .int 0, .int 0, .int 0, .int (-1), .long 0, .ref a58, .int 0, .int 0, .int 0, .int 0, .int 0, .int 0, .int 0, .int (-1), .int 0, .int 0, .int 0, .int 0, .int 0, .long 0, .int 0, .ref a59, .int 0, .ref a2, .int 0, .int 0, .ref a60, .int 0])), (a56, .inr (15, [.ref a57, .ref a61, .int 0, .int 0, .int 1, .int 0, .int 0, .int 0, .int 0, .int 0, .int 0, .long 0, .int 0, .int 0]))]) hP hD [1, 2] [0] rfl rfl (by decide) (by decide) hk1 hFc hP1 hD1
  have hK := (hK.sub (tys' := []) [] rfl).app hK1
  generalize H1 = H at hP hS ⊢
  have hP : va_P (dC, dI) vwCl [(a1, .inr (0, [])), (a0, .inr (17, [.ref a56, .ref a57, .ref a3, .ref a49, .ref a1, .int 0, .int 0, .int 0, .int (-1), .long 0, .ref a58, .int 0, .int 0, .int 0, .int 0, .int 0, .int 0, .int 0, .int (-1), .int 0, .int 0, .int 0, .int 0, .int 0, .long 0, .int 0, .ref a59, .int 0, .ref a2, .int 0, .int 0, .ref a60, .int 0])), (a56, .inr (15, [.ref a57, .ref a61, .int 0, .int 0, .int 1, .int 0, .int 0, .int 0, .int 0, .int 0, .int 0, .long 0, .int 0, .int 0]))] H := hP
  have hD : va_D A [(a1, .inr (0, [])), (a0, .inr (17, [.ref a56, .ref a57, .ref a3, .ref a49, .ref a1, .int 0, .int 0, .int 0, .int (-1), .long 0, .ref a58, .int 0, .int 0, .int 0, .int 0, .int 0, .int 0, .int 0, .int (-1), .int 0, .int 0, .int 0, .int 0, .int 0, .long 0, .int 0, .ref a59, .int 0, .ref a2, .int 0, .int 0, .ref a60, .int 0])), (a56, .inr (15, [.ref a57, .ref a61, .int 0, .int 0, .int 1, .int 0, .int 0, .int 0, .int 0, .int 0, .int 0, .long 0, .int 0, .int 0]))] := hD
  have hK : va_K (dC, dI) vwCl [] s := hK
  refine lv_if_eq (tgt := 184) hx hb dX16_statement_125 (by decide) (fun _ => ?_) (fun c9 => absurd (by decide +kernel) c9)
  refine lv_aload_n hx hb dX16_statement_184 rfl (lv_at hl 0 rfl) ?_
  refine k_ldcSW hx hb hown hZ5 dX16_statement_185 ?_
  have hPc := hP.sub (ws' := [(a0, .inr (17, [.ref a56, .ref a57, .ref a3, .ref a49, .ref a1, .int 0, .int 0, .int 0, .int (-1), .long 0, .ref a58, .int 0, .int 0, .int 0, .int 0, .int 0, .int 0, .int 0, .int (-1), .int 0, .int 0, .int 0, .int 0, .int 0, .long 0, .int 0, .ref a59, .int 0, .ref a2, .int 0, .int 0, .ref a60, .int 0])), (a56, .inr (15, [.ref a57, .ref a61, .int 0, .int 0, .int 1, .int 0, .int 0, .int 0, .int 0, .int 0, .int 0, .long 0, .int 0, .int 0]))]) [1, 2] rfl
  have hDc := hD.sub (ws' := [(a0, .inr (17, [.ref a56, .ref a57, .ref a3, .ref a49, .ref a1, .int 0, .int 0, .int 0, .int (-1), .long 0, .ref a58, .int 0, .int 0, .int 0, .int 0, .int 0, .int 0, .int 0, .int (-1), .int 0, .int 0, .int 0, .int 0, .int 0, .long 0, .int 0, .ref a59, .int 0, .ref a2, .int 0, .int 0, .ref a60, .int 0])), (a56, .inr (15, [.ref a57, .ref a61, .int 0, .int 0, .int 1, .int 0, .int 0, .int 0, .int 0, .int 0, .int 0, .long 0, .int 0, .int 0]))]) [1, 2] (by decide) rfl
  have hKc := hK.sub (tys' := []) [] rfl
  have hFc := va_free (wc := [(a0, .inr (17, [.ref a56, .ref a57, .ref a3, .ref a49, .ref a1, .int 0, .int 0, .int 0, .int (-1), .long 0, .ref a58, .int 0, .int 0, .int 0, .int 0, .int 0, .int 0, .int 0, .int (-1), .int 0, .int 0, .int 0, .int 0, .int 0, .long 0, .int 0, .ref a59, .int 0, .ref a2, .int 0, .int 0, .ref a60, .int 0])), (a56, .inr (15, [.ref a57, .ref a61, .int 0, .int 0, .int 1, .int 0, .int 0, .int 0, .int 0, .int 0, .int 0, .long 0, .int 0, .int 0]))]) hD hS hA [1, 2] rfl
  refine va_calli (va_runV (As := [.ref s_RX16_673]) (rest := []) ⟨hx, hb, hml, hown, hts⟩ (f_X16_takesWord l dC dI a0 s_RX16_673 a56 a57 a3 a49 a1 a58 a59 a2 a60 a61 H.size) (cwV 1 hts gh_f_X16_statement_f_X16_takesWord_354 rfl rfl rfl (by decide +kernel) ⟨Nat.le_of_ble_eq_true rfl, Nat.le_of_ble_eq_true rfl⟩) ⟨fun a U g mk q => by obtain ⟨q0, q1, qP, qK, qD⟩ := q; exact ⟨q0, q1, qP, va_K.moved (u := U) (U := U.calling g mk a) (Vm.Alike.refl U.vm) qK, qD⟩, va_recv hKc hPc (ci := 17) (q0 := 0) rfl rfl, fun U hU hW => ⟨rfl, by rw [hU], by rw [hU]; exact hPc, va_K.moved hW.alike hKc, hDc.weaken (fun _ _ _ _ => trivial)⟩⟩ rfl rfl hl.1 rfl (lv_room (Nat.le_of_ble_eq_true rfl)) dX16_statement_188 ⟨Nat.le_of_ble_eq_true rfl, Nat.le_of_ble_eq_true rfl⟩) hS (fun q _ h => hFc q h) hFc (fun r u t H1 locs ht hvm hw hB hz1 hk1 hS => ?_)
  obtain ⟨hP1, hK1, hD1⟩ := hB
  have hw : r = 0 := hw
  subst hw
  rw [ht] at hP1
  have hK1 := va_K.moved hvm.symm hK1
  obtain ⟨hP, hD⟩ := va_join (wr := [(a1, .inr (0, []))]) (w1 := [(a0, .inr (17, [.ref a56, .ref a57, .ref a3, .ref a49, .ref a1, .int 0, .int 0, .int 0, .int (-1), .long 0, .ref a58, .int 0, .int 0, .int 0, .int 0, .int 0, .int 0, .int 0, .int (-1), .int 0, .int 0, .int 0, .int 0, .int 0, .long 0, .int 0, .ref a59, .int 0, .ref a2, .int 0, .int 0, .ref a60, .int 0])), (a56, .inr (15, [.ref a57, .ref a61, .int 0, .int 0, .int 1, .int 0, .int 0, .int 0, .int 0, .int 0, .int 0, .long 0, .int 0, .int 0]))]) hP hD [1, 2] [0] rfl rfl (by decide) (by decide) hk1 hFc hP1 hD1
  have hK := (hK.sub (tys' := []) [] rfl).app hK1
  generalize H1 = H at hP hS ⊢
  have hP : va_P (dC, dI) vwCl [(a1, .inr (0, [])), (a0, .inr (17, [.ref a56, .ref a57, .ref a3, .ref a49, .ref a1, .int 0, .int 0, .int 0, .int (-1), .long 0, .ref a58, .int 0, .int 0, .int 0, .int 0, .int 0, .int 0, .int 0, .int (-1), .int 0, .int 0, .int 0, .int 0, .int 0, .long 0, .int 0, .ref a59, .int 0, .ref a2, .int 0, .int 0, .ref a60, .int 0])), (a56, .inr (15, [.ref a57, .ref a61, .int 0, .int 0, .int 1, .int 0, .int 0, .int 0, .int 0, .int 0, .int 0, .long 0, .int 0, .int 0]))] H := hP
  have hD : va_D A [(a1, .inr (0, [])), (a0, .inr (17, [.ref a56, .ref a57, .ref a3, .ref a49, .ref a1, .int 0, .int 0, .int 0, .int (-1), .long 0, .ref a58, .int 0, .int 0, .int 0, .int 0, .int 0, .int 0, .int 0, .int (-1), .int 0, .int 0, .int 0, .int 0, .int 0, .long 0, .int 0, .ref a59, .int 0, .ref a2, .int 0, .int 0, .ref a60, .int 0])), (a56, .inr (15, [.ref a57, .ref a61, .int 0, .int 0, .int 1, .int 0, .int 0, .int 0, .int 0, .int 0, .int 0, .long 0, .int 0, .int 0]))] := hD
  have hK : va_K (dC, dI) vwCl [] s := hK
  refine lv_if_eq (tgt := 206) hx hb dX16_statement_191 (by decide) (fun _ => ?_) (fun c9 => absurd (by decide +kernel) c9)
  refine lv_aload_n hx hb dX16_statement_206 rfl (lv_at hl 0 rfl) ?_
  refine k_ldcSW hx hb hown hZ6 dX16_statement_207 ?_
  have hPc := hP.sub (ws' := [(a0, .inr (17, [.ref a56, .ref a57, .ref a3, .ref a49, .ref a1, .int 0, .int 0, .int 0, .int (-1), .long 0, .ref a58, .int 0, .int 0, .int 0, .int 0, .int 0, .int 0, .int 0, .int (-1), .int 0, .int 0, .int 0, .int 0, .int 0, .long 0, .int 0, .ref a59, .int 0, .ref a2, .int 0, .int 0, .ref a60, .int 0])), (a56, .inr (15, [.ref a57, .ref a61, .int 0, .int 0, .int 1, .int 0, .int 0, .int 0, .int 0, .int 0, .int 0, .long 0, .int 0, .int 0]))]) [1, 2] rfl
  have hDc := hD.sub (ws' := [(a0, .inr (17, [.ref a56, .ref a57, .ref a3, .ref a49, .ref a1, .int 0, .int 0, .int 0, .int (-1), .long 0, .ref a58, .int 0, .int 0, .int 0, .int 0, .int 0, .int 0, .int 0, .int (-1), .int 0, .int 0, .int 0, .int 0, .int 0, .long 0, .int 0, .ref a59, .int 0, .ref a2, .int 0, .int 0, .ref a60, .int 0])), (a56, .inr (15, [.ref a57, .ref a61, .int 0, .int 0, .int 1, .int 0, .int 0, .int 0, .int 0, .int 0, .int 0, .long 0, .int 0, .int 0]))]) [1, 2] (by decide) rfl
  have hKc := hK.sub (tys' := []) [] rfl
  have hFc := va_free (wc := [(a0, .inr (17, [.ref a56, .ref a57, .ref a3, .ref a49, .ref a1, .int 0, .int 0, .int 0, .int (-1), .long 0, .ref a58, .int 0, .int 0, .int 0, .int 0, .int 0, .int 0, .int 0, .int (-1), .int 0, .int 0, .int 0, .int 0, .int 0, .long 0, .int 0, .ref a59, .int 0, .ref a2, .int 0, .int 0, .ref a60, .int 0])), (a56, .inr (15, [.ref a57, .ref a61, .int 0, .int 0, .int 1, .int 0, .int 0, .int 0, .int 0, .int 0, .int 0, .long 0, .int 0, .int 0]))]) hD hS hA [1, 2] rfl
  refine va_calli (va_runV (As := [.ref s_RX16_678]) (rest := []) ⟨hx, hb, hml, hown, hts⟩ (f_X16_takesWord l dC dI a0 s_RX16_678 a56 a57 a3 a49 a1 a58 a59 a2 a60 a61 H.size) (cwV 1 hts gh_f_X16_statement_f_X16_takesWord_354 rfl rfl rfl (by decide +kernel) ⟨Nat.le_of_ble_eq_true rfl, Nat.le_of_ble_eq_true rfl⟩) ⟨fun a U g mk q => by obtain ⟨q0, q1, qP, qK, qD⟩ := q; exact ⟨q0, q1, qP, va_K.moved (u := U) (U := U.calling g mk a) (Vm.Alike.refl U.vm) qK, qD⟩, va_recv hKc hPc (ci := 17) (q0 := 0) rfl rfl, fun U hU hW => ⟨rfl, by rw [hU], by rw [hU]; exact hPc, va_K.moved hW.alike hKc, hDc.weaken (fun _ _ _ _ => trivial)⟩⟩ rfl rfl hl.1 rfl (lv_room (Nat.le_of_ble_eq_true rfl)) dX16_statement_210 ⟨Nat.le_of_ble_eq_true rfl, Nat.le_of_ble_eq_true rfl⟩) hS (fun q _ h => hFc q h) hFc (fun r u t H1 locs ht hvm hw hB hz1 hk1 hS => ?_)
  obtain ⟨hP1, hK1, hD1⟩ := hB
  have hw : r = 0 := hw
  subst hw
  rw [ht] at hP1
  have hK1 := va_K.moved hvm.symm hK1
  obtain ⟨hP, hD⟩ := va_join (wr := [(a1, .inr (0, []))]) (w1 := [(a0, .inr (17, [.ref a56, .ref a57, .ref a3, .ref a49, .ref a1, .int 0, .int 0, .int 0, .int (-1), .long 0, .ref a58, .int 0, .int 0, .int 0, .int 0, .int 0, .int 0, .int 0, .int (-1), .int 0, .int 0, .int 0, .int 0, .int 0, .long 0, .int 0, .ref a59, .int 0, .ref a2, .int 0, .int 0, .ref a60, .int 0])), (a56, .inr (15, [.ref a57, .ref a61, .int 0, .int 0, .int 1, .int 0, .int 0, .int 0, .int 0, .int 0, .int 0, .long 0, .int 0, .int 0]))]) hP hD [1, 2] [0] rfl rfl (by decide) (by decide) hk1 hFc hP1 hD1
  have hK := (hK.sub (tys' := []) [] rfl).app hK1
  generalize H1 = H at hP hS ⊢
  have hP : va_P (dC, dI) vwCl [(a1, .inr (0, [])), (a0, .inr (17, [.ref a56, .ref a57, .ref a3, .ref a49, .ref a1, .int 0, .int 0, .int 0, .int (-1), .long 0, .ref a58, .int 0, .int 0, .int 0, .int 0, .int 0, .int 0, .int 0, .int (-1), .int 0, .int 0, .int 0, .int 0, .int 0, .long 0, .int 0, .ref a59, .int 0, .ref a2, .int 0, .int 0, .ref a60, .int 0])), (a56, .inr (15, [.ref a57, .ref a61, .int 0, .int 0, .int 1, .int 0, .int 0, .int 0, .int 0, .int 0, .int 0, .long 0, .int 0, .int 0]))] H := hP
  have hD : va_D A [(a1, .inr (0, [])), (a0, .inr (17, [.ref a56, .ref a57, .ref a3, .ref a49, .ref a1, .int 0, .int 0, .int 0, .int (-1), .long 0, .ref a58, .int 0, .int 0, .int 0, .int 0, .int 0, .int 0, .int 0, .int (-1), .int 0, .int 0, .int 0, .int 0, .int 0, .long 0, .int 0, .ref a59, .int 0, .ref a2, .int 0, .int 0, .ref a60, .int 0])), (a56, .inr (15, [.ref a57, .ref a61, .int 0, .int 0, .int 1, .int 0, .int 0, .int 0, .int 0, .int 0, .int 0, .long 0, .int 0, .int 0]))] := hD
  have hK : va_K (dC, dI) vwCl [] s := hK
  refine lv_if_eq (tgt := 230) hx hb dX16_statement_213 (by decide) (fun _ => ?_) (fun c9 => absurd (by decide +kernel) c9)
  refine lv_aload_n hx hb dX16_statement_230 rfl (lv_at hl 0 rfl) ?_
  refine lv_aload_n hx hb dX16_statement_231 rfl (lv_at hl 0 rfl) ?_
  refine k_ldcSW hx hb hown hZ7 dX16_statement_232 ?_
  have hPc := hP.sub (ws' := [(a0, .inr (17, [.ref a56, .ref a57, .ref a3, .ref a49, .ref a1, .int 0, .int 0, .int 0, .int (-1), .long 0, .ref a58, .int 0, .int 0, .int 0, .int 0, .int 0, .int 0, .int 0, .int (-1), .int 0, .int 0, .int 0, .int 0, .int 0, .long 0, .int 0, .ref a59, .int 0, .ref a2, .int 0, .int 0, .ref a60, .int 0])), (a56, .inr (15, [.ref a57, .ref a61, .int 0, .int 0, .int 1, .int 0, .int 0, .int 0, .int 0, .int 0, .int 0, .long 0, .int 0, .int 0]))]) [1, 2] rfl
  have hDc := hD.sub (ws' := [(a0, .inr (17, [.ref a56, .ref a57, .ref a3, .ref a49, .ref a1, .int 0, .int 0, .int 0, .int (-1), .long 0, .ref a58, .int 0, .int 0, .int 0, .int 0, .int 0, .int 0, .int 0, .int (-1), .int 0, .int 0, .int 0, .int 0, .int 0, .long 0, .int 0, .ref a59, .int 0, .ref a2, .int 0, .int 0, .ref a60, .int 0])), (a56, .inr (15, [.ref a57, .ref a61, .int 0, .int 0, .int 1, .int 0, .int 0, .int 0, .int 0, .int 0, .int 0, .long 0, .int 0, .int 0]))]) [1, 2] (by decide) rfl
  have hKc := hK.sub (tys' := []) [] rfl
  have hFc := va_free (wc := [(a0, .inr (17, [.ref a56, .ref a57, .ref a3, .ref a49, .ref a1, .int 0, .int 0, .int 0, .int (-1), .long 0, .ref a58, .int 0, .int 0, .int 0, .int 0, .int 0, .int 0, .int 0, .int (-1), .int 0, .int 0, .int 0, .int 0, .int 0, .long 0, .int 0, .ref a59, .int 0, .ref a2, .int 0, .int 0, .ref a60, .int 0])), (a56, .inr (15, [.ref a57, .ref a61, .int 0, .int 0, .int 1, .int 0, .int 0, .int 0, .int 0, .int 0, .int 0, .long 0, .int 0, .int 0]))]) hD hS hA [1, 2] rfl
  refine va_calli (va_runV (As := [.ref s_RX16_680]) (rest := [.ref a0]) ⟨hx, hb, hml, hown, hts⟩ (f_X16_isWord l dC dI a0 s_RX16_680 a56 a57 a3 a49 a1 a58 a59 a2 a60 a61 H.size) (cwV 1 hts gh_f_X16_statement_f_X16_isWord_86 rfl rfl rfl (by decide +kernel) ⟨Nat.le_of_ble_eq_true rfl, Nat.le_of_ble_eq_true rfl⟩) ⟨fun a U g mk q => by obtain ⟨q0, q1, qP, qK, qD⟩ := q; exact ⟨q0, q1, qP, va_K.moved (u := U) (U := U.calling g mk a) (Vm.Alike.refl U.vm) qK, qD⟩, va_recv hKc hPc (ci := 17) (q0 := 0) rfl rfl, fun U hU hW => ⟨rfl, by rw [hU], by rw [hU]; exact hPc, va_K.moved hW.alike hKc, hDc.weaken (fun _ _ _ _ => trivial)⟩⟩ rfl rfl hl.1 rfl (lv_room (Nat.le_of_ble_eq_true rfl)) dX16_statement_235 ⟨Nat.le_of_ble_eq_true rfl, Nat.le_of_ble_eq_true rfl⟩) hS (fun q _ h => hFc q h) hFc (fun r u t H1 locs ht hvm hw hB hz1 hk1 hS => ?_)
  obtain ⟨hP1, hK1, hD1⟩ := hB
  have hw : r = 0 := hw
  subst hw
  rw [ht] at hP1
  have hK1 := va_K.moved hvm.symm hK1
  obtain ⟨hP, hD⟩ := va_join (wr := [(a1, .inr (0, []))]) (w1 := [(a0, .inr (17, [.ref a56, .ref a57, .ref a3, .ref a49, .ref a1, .int 0, .int 0, .int 0, .int (-1), .long 0, .ref a58, .int 0, .int 0, .int 0, .int 0, .int 0, .int 0, .int 0, .int (-1), .int 0, .int 0, .int 0, .int 0, .int 0, .long 0, .int 0, .ref a59, .int 0, .ref a2, .int 0, .int 0, .ref a60, .int 0])), (a56, .inr (15, [.ref a57, .ref a61, .int 0, .int 0, .int 1, .int 0, .int 0, .int 0, .int 0, .int 0, .int 0, .long 0, .int 0, .int 0]))]) hP hD [1, 2] [0] rfl rfl (by decide) (by decide) hk1 hFc hP1 hD1
  have hK := (hK.sub (tys' := []) [] rfl).app hK1
  generalize H1 = H at hP hS ⊢
  have hP : va_P (dC, dI) vwCl [(a1, .inr (0, [])), (a0, .inr (17, [.ref a56, .ref a57, .ref a3, .ref a49, .ref a1, .int 0, .int 0, .int 0, .int (-1), .long 0, .ref a58, .int 0, .int 0, .int 0, .int 0, .int 0, .int 0, .int 0, .int (-1), .int 0, .int 0, .int 0, .int 0, .int 0, .long 0, .int 0, .ref a59, .int 0, .ref a2, .int 0, .int 0, .ref a60, .int 0])), (a56, .inr (15, [.ref a57, .ref a61, .int 0, .int 0, .int 1, .int 0, .int 0, .int 0, .int 0, .int 0, .int 0, .long 0, .int 0, .int 0]))] H := hP
  have hD : va_D A [(a1, .inr (0, [])), (a0, .inr (17, [.ref a56, .ref a57, .ref a3, .ref a49, .ref a1, .int 0, .int 0, .int 0, .int (-1), .long 0, .ref a58, .int 0, .int 0, .int 0, .int 0, .int 0, .int 0, .int 0, .int (-1), .int 0, .int 0, .int 0, .int 0, .int 0, .long 0, .int 0, .ref a59, .int 0, .ref a2, .int 0, .int 0, .ref a60, .int 0])), (a56, .inr (15, [.ref a57, .ref a61, .int 0, .int 0, .int 1, .int 0, .int 0, .int 0, .int 0, .int 0, .int 0, .long 0, .int 0, .int 0]))] := hD
  have hK : va_K (dC, dI) vwCl [] s := hK
  refine lv_iconst (v := 2) hx hb dX16_statement_238 (by decide) ?_
  have hPc := hP.sub (ws' := [(a1, .inr (0, [])), (a0, .inr (17, [.ref a56, .ref a57, .ref a3, .ref a49, .ref a1, .int 0, .int 0, .int 0, .int (-1), .long 0, .ref a58, .int 0, .int 0, .int 0, .int 0, .int 0, .int 0, .int 0, .int (-1), .int 0, .int 0, .int 0, .int 0, .int 0, .long 0, .int 0, .ref a59, .int 0, .ref a2, .int 0, .int 0, .ref a60, .int 0])), (a56, .inr (15, [.ref a57, .ref a61, .int 0, .int 0, .int 1, .int 0, .int 0, .int 0, .int 0, .int 0, .int 0, .long 0, .int 0, .int 0]))]) [0, 1, 2] rfl
  have hDc := hD.sub (ws' := [(a1, .inr (0, [])), (a0, .inr (17, [.ref a56, .ref a57, .ref a3, .ref a49, .ref a1, .int 0, .int 0, .int 0, .int (-1), .long 0, .ref a58, .int 0, .int 0, .int 0, .int 0, .int 0, .int 0, .int 0, .int (-1), .int 0, .int 0, .int 0, .int 0, .int 0, .long 0, .int 0, .ref a59, .int 0, .ref a2, .int 0, .int 0, .ref a60, .int 0])), (a56, .inr (15, [.ref a57, .ref a61, .int 0, .int 0, .int 1, .int 0, .int 0, .int 0, .int 0, .int 0, .int 0, .long 0, .int 0, .int 0]))]) [0, 1, 2] (by decide) rfl
  have hKc := hK.sub (tys' := []) [] rfl
  have hFc := va_free (wc := [(a1, .inr (0, [])), (a0, .inr (17, [.ref a56, .ref a57, .ref a3, .ref a49, .ref a1, .int 0, .int 0, .int 0, .int (-1), .long 0, .ref a58, .int 0, .int 0, .int 0, .int 0, .int 0, .int 0, .int 0, .int (-1), .int 0, .int 0, .int 0, .int 0, .int 0, .long 0, .int 0, .ref a59, .int 0, .ref a2, .int 0, .int 0, .ref a60, .int 0])), (a56, .inr (15, [.ref a57, .ref a61, .int 0, .int 0, .int 1, .int 0, .int 0, .int 0, .int 0, .int 0, .int 0, .long 0, .int 0, .int 0]))]) hD hS hA [0, 1, 2] rfl
  refine vx_callv (vx_runV (As := [.int 0, .int 2]) (rest := []) ⟨hx, hb, hml, hown, hts⟩ (f_X16_need l dC dI a0 a56 a57 a3 a49 a1 a58 a59 a2 a60 a61 H.size) (cwV 2 hts gh_f_X16_statement_f_X16_need_89 rfl rfl rfl (by decide +kernel) ⟨Nat.le_of_ble_eq_true rfl, Nat.le_of_ble_eq_true rfl⟩) ⟨fun a U g mk q => by obtain ⟨q0, q1, qP, qK, qD, qZ0⟩ := q; exact ⟨q0, q1, qP, va_K.moved (u := U) (U := U.calling g mk a) (Vm.Alike.refl U.vm) qK, qD, va_Nw.same rfl rfl qZ0⟩, va_recv hKc hPc (ci := 17) (q0 := 1) rfl rfl, fun U hU hW => ⟨rfl, by rw [hU], by rw [hU]; exact hPc, va_K.moved hW.alike hKc, hDc.weaken (fun _ _ _ _ => trivial), va_Nw.warmF hW hZ8⟩⟩ rfl rfl hl.1 rfl (lv_room (Nat.le_of_ble_eq_true rfl)) dX16_statement_239 ⟨Nat.le_of_ble_eq_true rfl, Nat.le_of_ble_eq_true rfl⟩) hS (fun q _ h => hFc q h) hFc (fun q _ h => hFc q h) (fun E ce q9 u t H1 locs ht hvm hw hB hz1 hk1 hS hce hcv hcl => ?_) (fun u t H1 locs1 ht hvm hw _ _ _ _ => (hw : False).elim)
  obtain ⟨rfl, hP1, hK1, hD1⟩ := hB
  rw [ht] at hP1
  have hK1 := va_K.moved hvm.symm hK1
  obtain ⟨hP, hD⟩ := va_join (wr := []) (w1 := [(a56, .inr (15, [.ref a57, .ref a61, .int 0, .int 0, .int 1, .int 0, .int 0, .int 0, .int 0, .int 0, .int 0, .long 0, .int 0, .int 0])), (a1, .inr (0, [])), (a0, .inr (17, [.ref a56, .ref a57, .ref a3, .ref a49, .ref a1, .int 2, .int 0, .int 0, .int (-1), .long 0, .ref a58, .int 0, .int 0, .int 0, .int 0, .int 0, .int 0, .int 0, .int (-1), .int 0, .int 0, .int 0, .int 0, .int 0, .long 0, .int 0, .ref a59, .int 0, .ref a2, .int 0, .int 0, .ref a60, .int 0]))]) hP hD [0, 1, 2] [] rfl rfl (by decide) (by decide) hk1 hFc hP1 hD1
  have hK := (hK.sub (tys' := []) [] rfl).app hK1
  generalize H1 = H at hP hS hce ⊢
  have hP : va_P (dC, dI) vwCl [(a56, .inr (15, [.ref a57, .ref a61, .int 0, .int 0, .int 1, .int 0, .int 0, .int 0, .int 0, .int 0, .int 0, .long 0, .int 0, .int 0])), (a1, .inr (0, [])), (a0, .inr (17, [.ref a56, .ref a57, .ref a3, .ref a49, .ref a1, .int 2, .int 0, .int 0, .int (-1), .long 0, .ref a58, .int 0, .int 0, .int 0, .int 0, .int 0, .int 0, .int 0, .int (-1), .int 0, .int 0, .int 0, .int 0, .int 0, .long 0, .int 0, .ref a59, .int 0, .ref a2, .int 0, .int 0, .ref a60, .int 0]))] H := hP
  have hD : va_D A [(a56, .inr (15, [.ref a57, .ref a61, .int 0, .int 0, .int 1, .int 0, .int 0, .int 0, .int 0, .int 0, .int 0, .long 0, .int 0, .int 0])), (a1, .inr (0, [])), (a0, .inr (17, [.ref a56, .ref a57, .ref a3, .ref a49, .ref a1, .int 2, .int 0, .int 0, .int (-1), .long 0, .ref a58, .int 0, .int 0, .int 0, .int 0, .int 0, .int 0, .int 0, .int (-1), .int 0, .int 0, .int 0, .int 0, .int 0, .long 0, .int 0, .ref a59, .int 0, .ref a2, .int 0, .int 0, .ref a60, .int 0]))] := hD
  have hK : va_K (dC, dI) vwCl [] s := hK
  exact vx_out (fun x9 hx9 => (hno x9 hx9).elim) hlocks hce hcv hcl (fun t ht hW => ⟨(), trivial, ⟨rfl, by rw [ht]; exact hP, va_K.moved hW hK, hD⟩, hS.F ht⟩) hS.2.2 (Nat.le_refl _) (Nat.le_refl _)
