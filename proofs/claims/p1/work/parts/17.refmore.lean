def fw_f_X20_wipe : List Cond := .code yX20_wipe cX20_wipe 2 (some .int) :: ([.fieldLink RX20 28 "TripleStoreModel" "lexer" "LTripleStoreModel$Lexer;"] ++ wsX200 ++ wsX140)
theorem in_f_X20_wipe_RX20 : ∀ w ∈ u_ws RX20 TX20 30, w ∈ fw_f_X20_wipe := fun _ h => List.mem_cons_of_mem _ (List.mem_append_left _ (List.mem_append_right _ h))
theorem in_f_X20_wipe_RX14 : ∀ w ∈ u_ws RX14 TX14 14, w ∈ fw_f_X20_wipe := fun _ h => List.mem_cons_of_mem _ (List.mem_append_right _ h)
theorem gd_f_X20_wipe : (fw_f_X20_wipe).all goodWord = true := by decide +kernel
set_option maxHeartbeats 4000000 in
set_option maxRecDepth 100000 in
theorem f_X20_wipe (l : Launch) (dC : Nat → ClassId) (dI : Nat → Nat → Nat) (a0 : Nat) (a1 : Nat) (a2 : Nat) (a3 : Nat) (a4 : Nat) (a5 : Nat) (a6 : Nat) (a7 : Nat) (a8 : Nat) (a9 : Nat) (a10 : Nat) (a11 : Nat) (a12 : Nat) (a13 : Nat) (a14 : Nat) (a15 : Nat) (a16 : Nat) (a17 : Nat) (a18 : Nat) (a19 : Nat) (a20 : Nat) (a31 : Nat) (sz : Nat) : Met l yX20_wipe fw_f_X20_wipe ({ frames := 1, cells := 0, slots := 0, locals := 20 }) (va_Pc [.ref a0] (fun U => U.heap.size = sz ∧ va_P (dC, dI) vwCl [(a0, .inr (21, [.ref a1, .ref a2, .ref a3, .ref a4, .ref a5, .ref a6, .ref a7, .ref a8, .int 0, .ref a9, .int 0, .int 0, .ref a10, .ref a11, .int 0, .ref a12, .int 0, .ref a13, .ref a14, .ref a15, .int 0, .ref a16, .ref a17, .int 0, .int 0, .ref a18, .int 0, .ref a19, .ref a20, .int 0])), (a3, .inr (15, [.ref a1, .ref a31, .int 0, .int 0, .int 0, .int 0, .int 0, .int 0, .int 0, .int 0, .int 0, .long 0, .int 0, .int 0]))] U.heap ∧ va_K (dC, dI) vwCl [] U ∧ va_D (fun _ => True) [(a0, .inr (21, [.ref a1, .ref a2, .ref a3, .ref a4, .ref a5, .ref a6, .ref a7, .ref a8, .int 0, .ref a9, .int 0, .int 0, .ref a10, .ref a11, .int 0, .ref a12, .int 0, .ref a13, .ref a14, .ref a15, .int 0, .ref a16, .ref a17, .int 0, .int 0, .ref a18, .int 0, .ref a19, .ref a20, .int 0])), (a3, .inr (15, [.ref a1, .ref a31, .int 0, .int 0, .int 0, .int 0, .int 0, .int 0, .int 0, .int 0, .int 0, .long 0, .int 0, .int 0]))] ∧ va_Nw (.fieldLinkNest RX20 112 "TripleStoreModel$Lexer" "size" "I" "TripleStoreModel") U)) (va_Qi (fun (r : Int32) (_ : Unit) => r = 0) (fun _ t => va_P (dC, dI) vwCl [(a0, .inr (21, [.ref a1, .ref a2, .ref a3, .ref a4, .ref a5, .ref a6, .ref a7, .ref a8, .int 0, .ref a9, .int 0, .int 0, .ref a10, .ref a11, .int 0, .ref a12, .int 0, .ref a13, .ref a14, .ref a15, .int 0, .ref a16, .ref a17, .int 0, .int 0, .ref a18, .int 0, .ref a19, .ref a20, .int 0])), (a3, .inr (15, [.ref a1, .ref a31, .int 0, .int 0, .int 0, .int 0, .int 0, .int 0, .int 0, .int 0, .int 0, .long 0, .int 0, .int 0]))] t.heap ∧ va_K (dC, dI) vwCl [] t ∧ va_D (va_A [(a0, .inr (21, [.ref a1, .ref a2, .ref a3, .ref a4, .ref a5, .ref a6, .ref a7, .ref a8, .int 0, .ref a9, .int 0, .int 0, .ref a10, .ref a11, .int 0, .ref a12, .int 0, .ref a13, .ref a14, .ref a15, .int 0, .ref a16, .ref a17, .int 0, .int 0, .ref a18, .int 0, .ref a19, .ref a20, .int 0])), (a3, .inr (15, [.ref a1, .ref a31, .int 0, .int 0, .int 0, .int 0, .int 0, .int 0, .int 0, .int 0, .int 0, .long 0, .int 0, .int 0]))] sz) [(a0, .inr (21, [.ref a1, .ref a2, .ref a3, .ref a4, .ref a5, .ref a6, .ref a7, .ref a8, .int 0, .ref a9, .int 0, .int 0, .ref a10, .ref a11, .int 0, .ref a12, .int 0, .ref a13, .ref a14, .ref a15, .int 0, .ref a16, .ref a17, .int 0, .int 0, .ref a18, .int 0, .ref a19, .ref a20, .int 0])), (a3, .inr (15, [.ref a1, .ref a31, .int 0, .int 0, .int 0, .int 0, .int 0, .int 0, .int 0, .int 0, .int 0, .long 0, .int 0, .int 0]))]) (va_A [(a0, .inr (21, [.ref a1, .ref a2, .ref a3, .ref a4, .ref a5, .ref a6, .ref a7, .ref a8, .int 0, .ref a9, .int 0, .int 0, .ref a10, .ref a11, .int 0, .ref a12, .int 0, .ref a13, .ref a14, .ref a15, .int 0, .ref a16, .ref a17, .int 0, .int 0, .ref a18, .int 0, .ref a19, .ref a20, .int 0])), (a3, .inr (15, [.ref a1, .ref a31, .int 0, .int 0, .int 0, .int 0, .int 0, .int 0, .int 0, .int 0, .int 0, .long 0, .int 0, .int 0]))] sz)) 0 0 (va_A [(a0, .inr (21, [.ref a1, .ref a2, .ref a3, .ref a4, .ref a5, .ref a6, .ref a7, .ref a8, .int 0, .ref a9, .int 0, .int 0, .ref a10, .ref a11, .int 0, .ref a12, .int 0, .ref a13, .ref a14, .ref a15, .int 0, .ref a16, .ref a17, .int 0, .int 0, .ref a18, .int 0, .ref a19, .ref a20, .int 0])), (a3, .inr (15, [.ref a1, .ref a31, .int 0, .int 0, .int 0, .int 0, .int 0, .int 0, .int 0, .int 0, .int 0, .long 0, .int 0, .int 0]))] sz) := by
  refine Met.ofW (cc := cX20_wipe) (maxL := 2) (ret := (some .int)) (by decide) rfl ?_
  intro p e s m args below meth c s₁ B hml hv
  obtain ⟨rfl, hsz, hP, hK, hD0, hZ0⟩ := hv
  have hx := B.exec
  have hb := B.bytes
  have hr := B.returns
  have hts := atoms_spec (ws := fw_f_X20_wipe) B.pre
  have hown : s.vm.findClass RX20 = some m.cls := findClass_of_methodNamed B.named
  have hlocks := B.notSynchronized
  subst hsz
  have hD := hD0.self (sz := s.heap.size)
  generalize hAe : va_A [(a0, .inr (21, [.ref a1, .ref a2, .ref a3, .ref a4, .ref a5, .ref a6, .ref a7, .ref a8, .int 0, .ref a9, .int 0, .int 0, .ref a10, .ref a11, .int 0, .ref a12, .int 0, .ref a13, .ref a14, .ref a15, .int 0, .ref a16, .ref a17, .int 0, .int 0, .ref a18, .int 0, .ref a19, .ref a20, .int 0])), (a3, .inr (15, [.ref a1, .ref a31, .int 0, .int 0, .int 0, .int 0, .int 0, .int 0, .int 0, .int 0, .int 0, .long 0, .int 0, .int 0]))] s.heap.size = A at hD ⊢
  have hA : ∀ q : Nat, s.heap.size ≤ q → A q := fun q h => by rw [← hAe]; exact Or.inr h
  obtain ⟨H, hH⟩ : ∃ z, z = s.heap := ⟨_, rfl⟩
  rw [← hH] at hP
  have hS : va_S A s.heap H [] := by rw [hH]; exact va_S.rf
  have hP : va_P (dC, dI) vwCl [(a0, .inr (21, [.ref a1, .ref a2, .ref a3, .ref a4, .ref a5, .ref a6, .ref a7, .ref a8, .int 0, .ref a9, .int 0, .int 0, .ref a10, .ref a11, .int 0, .ref a12, .int 0, .ref a13, .ref a14, .ref a15, .int 0, .ref a16, .ref a17, .int 0, .int 0, .ref a18, .int 0, .ref a19, .ref a20, .int 0])), (a3, .inr (15, [.ref a1, .ref a31, .int 0, .int 0, .int 0, .int 0, .int 0, .int 0, .int 0, .int 0, .int 0, .long 0, .int 0, .int 0]))] H := hP
  have hl := lv_entry ([.ref a0]) (n := 2) (Nat.le_of_ble_eq_true rfl)
  rw [lg_entry_eq]
  generalize (lg_sl ([.ref a0]) ++ List.replicate (2 - (lg_sl ([.ref a0])).length) Slot.unset).toArray = ls at hl ⊢
  have hl : lv_has ls 2 [(0, .ref a0)] := hl
  rw [← hH]
  refine lv_aload_n hx hb dX20_wipe_0 rfl (lv_at hl 0 rfl) ?_
  refine va_get (D := (dC, dI)) (ci := 21) (v := .ref a3) (C := RX20) (T := TX20) (N := 30) hx hb hts in_f_X20_wipe_RX20 hown hK hP 0 rfl rfl 2 (by decide) (hts (.fieldLink RX20 28 "TripleStoreModel" "lexer" "LTripleStoreModel$Lexer;") (List.mem_of_getElem? (i := 1) rfl)) (fun _ h9 => h9) rfl dX20_wipe_1 ?_
  refine va_getN (D := (dC, dI)) (ci := 15) (v := .int 0) (C := RX14) (T := TX14) (N := 14) hx hb hts in_f_X20_wipe_RX14 hown hK hP 1 rfl rfl 2 (by decide) (va_Nw.use rfl hZ0) (fun _ h9 => h9) rfl dX20_wipe_4 ?_
  refine lv_istore_n (lv' := [(1, .int 0), (0, .ref a0)]) hx hb dX20_wipe_7 rfl hl (by decide) rfl (fun ls hl => ?_)
  refine lv_aload_n hx hb dX20_wipe_8 rfl (lv_at hl 1 rfl) ?_
  refine va_get (D := (dC, dI)) (ci := 21) (v := .ref a3) (C := RX20) (T := TX20) (N := 30) hx hb hts in_f_X20_wipe_RX20 hown hK hP 0 rfl rfl 2 (by decide) (hts (.fieldLink RX20 28 "TripleStoreModel" "lexer" "LTripleStoreModel$Lexer;") (List.mem_of_getElem? (i := 1) rfl)) (fun _ h9 => h9) rfl dX20_wipe_9 ?_
  refine lv_iconst (v := 0) hx hb dX20_wipe_12 (by decide) ?_
  refine va_putN (D := (dC, dI)) (ci := 15) (v := .int 0) (ty := .int) (C := RX14) (T := TX14) (N := 14) hx hb hts in_f_X20_wipe_RX14 tyX14 tyX14_ok nmX14 hown hK hP hD hS 1 rfl rfl 2 (by decide) (va_Nw.use rfl hZ0) (fun _ h9 => h9) rfl (by decide +kernel) rfl rfl (Nat.le_of_ble_eq_true rfl) dX20_wipe_13 (fun H locs hP hD hS => ?_)
  have hP : va_P (dC, dI) vwCl [(a0, .inr (21, [.ref a1, .ref a2, .ref a3, .ref a4, .ref a5, .ref a6, .ref a7, .ref a8, .int 0, .ref a9, .int 0, .int 0, .ref a10, .ref a11, .int 0, .ref a12, .int 0, .ref a13, .ref a14, .ref a15, .int 0, .ref a16, .ref a17, .int 0, .int 0, .ref a18, .int 0, .ref a19, .ref a20, .int 0])), (a3, .inr (15, [.ref a1, .ref a31, .int 0, .int 0, .int 0, .int 0, .int 0, .int 0, .int 0, .int 0, .int 0, .long 0, .int 0, .int 0]))] H := hP
  have hD : va_D A [(a0, .inr (21, [.ref a1, .ref a2, .ref a3, .ref a4, .ref a5, .ref a6, .ref a7, .ref a8, .int 0, .ref a9, .int 0, .int 0, .ref a10, .ref a11, .int 0, .ref a12, .int 0, .ref a13, .ref a14, .ref a15, .int 0, .ref a16, .ref a17, .int 0, .int 0, .ref a18, .int 0, .ref a19, .ref a20, .int 0])), (a3, .inr (15, [.ref a1, .ref a31, .int 0, .int 0, .int 0, .int 0, .int 0, .int 0, .int 0, .int 0, .int 0, .long 0, .int 0, .int 0]))] := hD
  refine lv_iload_n hx hb dX20_wipe_16 rfl (lv_at hl 0 rfl) ?_
  exact W.iret (v := 0) hx hb hr (fun t ht hW => ⟨⟨0, (), rfl, rfl, by rw [ht]; exact hP, va_K.moved hW.alike hK, hD⟩, hS.F ht⟩) hS.2.2 dX20_wipe_17
def fw_f_X20_place : List Cond := .code yX20_place cX20_place 1 (some .int) :: ([.fieldLink RX20 119 "TripleStoreModel" "place" "I"] ++ wsX200)
theorem in_f_X20_place_RX20 : ∀ w ∈ u_ws RX20 TX20 30, w ∈ fw_f_X20_place := fun _ h => List.mem_cons_of_mem _ (List.mem_append_right _ h)
theorem gd_f_X20_place : (fw_f_X20_place).all goodWord = true := by decide +kernel
set_option maxHeartbeats 4000000 in
set_option maxRecDepth 100000 in
theorem f_X20_place (l : Launch) (dC : Nat → ClassId) (dI : Nat → Nat → Nat) (a0 : Nat) (a1 : Nat) (a2 : Nat) (a3 : Nat) (a4 : Nat) (a5 : Nat) (a6 : Nat) (a7 : Nat) (a8 : Nat) (a9 : Nat) (a10 : Nat) (a11 : Nat) (a12 : Nat) (a13 : Nat) (a14 : Nat) (a15 : Nat) (a16 : Nat) (a17 : Nat) (a18 : Nat) (a19 : Nat) (a20 : Nat) (sz : Nat) : Met l yX20_place fw_f_X20_place ({ frames := 1, cells := 0, slots := 0, locals := 20 }) (va_Pc [.ref a0] (fun U => U.heap.size = sz ∧ va_P (dC, dI) vwCl [(a0, .inr (21, [.ref a1, .ref a2, .ref a3, .ref a4, .ref a5, .ref a6, .ref a7, .ref a8, .int 0, .ref a9, .int 0, .int 0, .ref a10, .ref a11, .int 0, .ref a12, .int 0, .ref a13, .ref a14, .ref a15, .int 0, .ref a16, .ref a17, .int 0, .int 0, .ref a18, .int 0, .ref a19, .ref a20, .int 0]))] U.heap ∧ va_K (dC, dI) vwCl [] U ∧ va_D (fun _ => True) [(a0, .inr (21, [.ref a1, .ref a2, .ref a3, .ref a4, .ref a5, .ref a6, .ref a7, .ref a8, .int 0, .ref a9, .int 0, .int 0, .ref a10, .ref a11, .int 0, .ref a12, .int 0, .ref a13, .ref a14, .ref a15, .int 0, .ref a16, .ref a17, .int 0, .int 0, .ref a18, .int 0, .ref a19, .ref a20, .int 0]))])) (va_Qi (fun (r : Int32) (_ : Unit) => r = 0) (fun _ t => va_P (dC, dI) vwCl [(a0, .inr (21, [.ref a1, .ref a2, .ref a3, .ref a4, .ref a5, .ref a6, .ref a7, .ref a8, .int 0, .ref a9, .int 0, .int 0, .ref a10, .ref a11, .int 0, .ref a12, .int 0, .ref a13, .ref a14, .ref a15, .int 0, .ref a16, .ref a17, .int 0, .int 0, .ref a18, .int 0, .ref a19, .ref a20, .int 0]))] t.heap ∧ va_K (dC, dI) vwCl [] t ∧ va_D (va_A [(a0, .inr (21, [.ref a1, .ref a2, .ref a3, .ref a4, .ref a5, .ref a6, .ref a7, .ref a8, .int 0, .ref a9, .int 0, .int 0, .ref a10, .ref a11, .int 0, .ref a12, .int 0, .ref a13, .ref a14, .ref a15, .int 0, .ref a16, .ref a17, .int 0, .int 0, .ref a18, .int 0, .ref a19, .ref a20, .int 0]))] sz) [(a0, .inr (21, [.ref a1, .ref a2, .ref a3, .ref a4, .ref a5, .ref a6, .ref a7, .ref a8, .int 0, .ref a9, .int 0, .int 0, .ref a10, .ref a11, .int 0, .ref a12, .int 0, .ref a13, .ref a14, .ref a15, .int 0, .ref a16, .ref a17, .int 0, .int 0, .ref a18, .int 0, .ref a19, .ref a20, .int 0]))]) (va_A [(a0, .inr (21, [.ref a1, .ref a2, .ref a3, .ref a4, .ref a5, .ref a6, .ref a7, .ref a8, .int 0, .ref a9, .int 0, .int 0, .ref a10, .ref a11, .int 0, .ref a12, .int 0, .ref a13, .ref a14, .ref a15, .int 0, .ref a16, .ref a17, .int 0, .int 0, .ref a18, .int 0, .ref a19, .ref a20, .int 0]))] sz)) 0 0 (va_A [(a0, .inr (21, [.ref a1, .ref a2, .ref a3, .ref a4, .ref a5, .ref a6, .ref a7, .ref a8, .int 0, .ref a9, .int 0, .int 0, .ref a10, .ref a11, .int 0, .ref a12, .int 0, .ref a13, .ref a14, .ref a15, .int 0, .ref a16, .ref a17, .int 0, .int 0, .ref a18, .int 0, .ref a19, .ref a20, .int 0]))] sz) := by
  refine Met.ofW (cc := cX20_place) (maxL := 1) (ret := (some .int)) (by decide) rfl ?_
  intro p e s m args below meth c s₁ B hml hv
  obtain ⟨rfl, hsz, hP, hK, hD0⟩ := hv
  have hx := B.exec
  have hb := B.bytes
  have hr := B.returns
  have hts := atoms_spec (ws := fw_f_X20_place) B.pre
  have hown : s.vm.findClass RX20 = some m.cls := findClass_of_methodNamed B.named
  have hlocks := B.notSynchronized
  subst hsz
  have hD := hD0.self (sz := s.heap.size)
  generalize hAe : va_A [(a0, .inr (21, [.ref a1, .ref a2, .ref a3, .ref a4, .ref a5, .ref a6, .ref a7, .ref a8, .int 0, .ref a9, .int 0, .int 0, .ref a10, .ref a11, .int 0, .ref a12, .int 0, .ref a13, .ref a14, .ref a15, .int 0, .ref a16, .ref a17, .int 0, .int 0, .ref a18, .int 0, .ref a19, .ref a20, .int 0]))] s.heap.size = A at hD ⊢
  have hA : ∀ q : Nat, s.heap.size ≤ q → A q := fun q h => by rw [← hAe]; exact Or.inr h
  obtain ⟨H, hH⟩ : ∃ z, z = s.heap := ⟨_, rfl⟩
  rw [← hH] at hP
  have hS : va_S A s.heap H [] := by rw [hH]; exact va_S.rf
  have hP : va_P (dC, dI) vwCl [(a0, .inr (21, [.ref a1, .ref a2, .ref a3, .ref a4, .ref a5, .ref a6, .ref a7, .ref a8, .int 0, .ref a9, .int 0, .int 0, .ref a10, .ref a11, .int 0, .ref a12, .int 0, .ref a13, .ref a14, .ref a15, .int 0, .ref a16, .ref a17, .int 0, .int 0, .ref a18, .int 0, .ref a19, .ref a20, .int 0]))] H := hP
  have hl := lv_entry ([.ref a0]) (n := 1) (Nat.le_of_ble_eq_true rfl)
  rw [lg_entry_eq]
  generalize (lg_sl ([.ref a0]) ++ List.replicate (1 - (lg_sl ([.ref a0])).length) Slot.unset).toArray = ls at hl ⊢
  have hl : lv_has ls 1 [(0, .ref a0)] := hl
  rw [← hH]
  refine lv_aload_n hx hb dX20_place_0 rfl (lv_at hl 0 rfl) ?_
  refine va_get (D := (dC, dI)) (ci := 21) (v := .int 0) (C := RX20) (T := TX20) (N := 30) hx hb hts in_f_X20_place_RX20 hown hK hP 0 rfl rfl 8 (by decide) (hts (.fieldLink RX20 119 "TripleStoreModel" "place" "I") (List.mem_of_getElem? (i := 1) rfl)) (fun _ h9 => h9) rfl dX20_place_1 ?_
  exact W.iret (v := 0) hx hb hr (fun t ht hW => ⟨⟨0, (), rfl, rfl, by rw [ht]; exact hP, va_K.moved hW.alike hK, hD⟩, hS.F ht⟩) hS.2.2 dX20_place_4
def fw_f_X20_rows : List Cond := .code yX20_rows cX20_rows 1 (some .int) :: ([.fieldLink RX20 122 "TripleStoreModel" "rows" "I"] ++ wsX200)
theorem in_f_X20_rows_RX20 : ∀ w ∈ u_ws RX20 TX20 30, w ∈ fw_f_X20_rows := fun _ h => List.mem_cons_of_mem _ (List.mem_append_right _ h)
theorem gd_f_X20_rows : (fw_f_X20_rows).all goodWord = true := by decide +kernel
set_option maxHeartbeats 4000000 in
set_option maxRecDepth 100000 in
theorem f_X20_rows (l : Launch) (dC : Nat → ClassId) (dI : Nat → Nat → Nat) (a0 : Nat) (a1 : Nat) (a2 : Nat) (a3 : Nat) (a4 : Nat) (a5 : Nat) (a6 : Nat) (a7 : Nat) (a8 : Nat) (a9 : Nat) (a10 : Nat) (a11 : Nat) (a12 : Nat) (a13 : Nat) (a14 : Nat) (a15 : Nat) (a16 : Nat) (a17 : Nat) (a18 : Nat) (a19 : Nat) (a20 : Nat) (sz : Nat) : Met l yX20_rows fw_f_X20_rows ({ frames := 1, cells := 0, slots := 0, locals := 20 }) (va_Pc [.ref a0] (fun U => U.heap.size = sz ∧ va_P (dC, dI) vwCl [(a0, .inr (21, [.ref a1, .ref a2, .ref a3, .ref a4, .ref a5, .ref a6, .ref a7, .ref a8, .int 0, .ref a9, .int 0, .int 0, .ref a10, .ref a11, .int 0, .ref a12, .int 0, .ref a13, .ref a14, .ref a15, .int 0, .ref a16, .ref a17, .int 0, .int 0, .ref a18, .int 0, .ref a19, .ref a20, .int 0]))] U.heap ∧ va_K (dC, dI) vwCl [] U ∧ va_D (fun _ => True) [(a0, .inr (21, [.ref a1, .ref a2, .ref a3, .ref a4, .ref a5, .ref a6, .ref a7, .ref a8, .int 0, .ref a9, .int 0, .int 0, .ref a10, .ref a11, .int 0, .ref a12, .int 0, .ref a13, .ref a14, .ref a15, .int 0, .ref a16, .ref a17, .int 0, .int 0, .ref a18, .int 0, .ref a19, .ref a20, .int 0]))])) (va_Qi (fun (r : Int32) (_ : Unit) => r = 0) (fun _ t => va_P (dC, dI) vwCl [(a0, .inr (21, [.ref a1, .ref a2, .ref a3, .ref a4, .ref a5, .ref a6, .ref a7, .ref a8, .int 0, .ref a9, .int 0, .int 0, .ref a10, .ref a11, .int 0, .ref a12, .int 0, .ref a13, .ref a14, .ref a15, .int 0, .ref a16, .ref a17, .int 0, .int 0, .ref a18, .int 0, .ref a19, .ref a20, .int 0]))] t.heap ∧ va_K (dC, dI) vwCl [] t ∧ va_D (va_A [(a0, .inr (21, [.ref a1, .ref a2, .ref a3, .ref a4, .ref a5, .ref a6, .ref a7, .ref a8, .int 0, .ref a9, .int 0, .int 0, .ref a10, .ref a11, .int 0, .ref a12, .int 0, .ref a13, .ref a14, .ref a15, .int 0, .ref a16, .ref a17, .int 0, .int 0, .ref a18, .int 0, .ref a19, .ref a20, .int 0]))] sz) [(a0, .inr (21, [.ref a1, .ref a2, .ref a3, .ref a4, .ref a5, .ref a6, .ref a7, .ref a8, .int 0, .ref a9, .int 0, .int 0, .ref a10, .ref a11, .int 0, .ref a12, .int 0, .ref a13, .ref a14, .ref a15, .int 0, .ref a16, .ref a17, .int 0, .int 0, .ref a18, .int 0, .ref a19, .ref a20, .int 0]))]) (va_A [(a0, .inr (21, [.ref a1, .ref a2, .ref a3, .ref a4, .ref a5, .ref a6, .ref a7, .ref a8, .int 0, .ref a9, .int 0, .int 0, .ref a10, .ref a11, .int 0, .ref a12, .int 0, .ref a13, .ref a14, .ref a15, .int 0, .ref a16, .ref a17, .int 0, .int 0, .ref a18, .int 0, .ref a19, .ref a20, .int 0]))] sz)) 0 0 (va_A [(a0, .inr (21, [.ref a1, .ref a2, .ref a3, .ref a4, .ref a5, .ref a6, .ref a7, .ref a8, .int 0, .ref a9, .int 0, .int 0, .ref a10, .ref a11, .int 0, .ref a12, .int 0, .ref a13, .ref a14, .ref a15, .int 0, .ref a16, .ref a17, .int 0, .int 0, .ref a18, .int 0, .ref a19, .ref a20, .int 0]))] sz) := by
  refine Met.ofW (cc := cX20_rows) (maxL := 1) (ret := (some .int)) (by decide) rfl ?_
  intro p e s m args below meth c s₁ B hml hv
  obtain ⟨rfl, hsz, hP, hK, hD0⟩ := hv
  have hx := B.exec
  have hb := B.bytes
  have hr := B.returns
  have hts := atoms_spec (ws := fw_f_X20_rows) B.pre
  have hown : s.vm.findClass RX20 = some m.cls := findClass_of_methodNamed B.named
  have hlocks := B.notSynchronized
  subst hsz
  have hD := hD0.self (sz := s.heap.size)
  generalize hAe : va_A [(a0, .inr (21, [.ref a1, .ref a2, .ref a3, .ref a4, .ref a5, .ref a6, .ref a7, .ref a8, .int 0, .ref a9, .int 0, .int 0, .ref a10, .ref a11, .int 0, .ref a12, .int 0, .ref a13, .ref a14, .ref a15, .int 0, .ref a16, .ref a17, .int 0, .int 0, .ref a18, .int 0, .ref a19, .ref a20, .int 0]))] s.heap.size = A at hD ⊢
  have hA : ∀ q : Nat, s.heap.size ≤ q → A q := fun q h => by rw [← hAe]; exact Or.inr h
  obtain ⟨H, hH⟩ : ∃ z, z = s.heap := ⟨_, rfl⟩
  rw [← hH] at hP
  have hS : va_S A s.heap H [] := by rw [hH]; exact va_S.rf
  have hP : va_P (dC, dI) vwCl [(a0, .inr (21, [.ref a1, .ref a2, .ref a3, .ref a4, .ref a5, .ref a6, .ref a7, .ref a8, .int 0, .ref a9, .int 0, .int 0, .ref a10, .ref a11, .int 0, .ref a12, .int 0, .ref a13, .ref a14, .ref a15, .int 0, .ref a16, .ref a17, .int 0, .int 0, .ref a18, .int 0, .ref a19, .ref a20, .int 0]))] H := hP
  have hl := lv_entry ([.ref a0]) (n := 1) (Nat.le_of_ble_eq_true rfl)
  rw [lg_entry_eq]
  generalize (lg_sl ([.ref a0]) ++ List.replicate (1 - (lg_sl ([.ref a0])).length) Slot.unset).toArray = ls at hl ⊢
  have hl : lv_has ls 1 [(0, .ref a0)] := hl
  rw [← hH]
  refine lv_aload_n hx hb dX20_rows_0 rfl (lv_at hl 0 rfl) ?_
  refine va_get (D := (dC, dI)) (ci := 21) (v := .int 0) (C := RX20) (T := TX20) (N := 30) hx hb hts in_f_X20_rows_RX20 hown hK hP 0 rfl rfl 10 (by decide) (hts (.fieldLink RX20 122 "TripleStoreModel" "rows" "I") (List.mem_of_getElem? (i := 1) rfl)) (fun _ h9 => h9) rfl dX20_rows_1 ?_
  exact W.iret (v := 0) hx hb hr (fun t ht hW => ⟨⟨0, (), rfl, rfl, by rw [ht]; exact hP, va_K.moved hW.alike hK, hD⟩, hS.F ht⟩) hS.2.2 dX20_rows_4
def fw_f_X20_columns : List Cond := .code yX20_columns cX20_columns 1 (some .int) :: ([.fieldLink RX20 125 "TripleStoreModel" "columns" "I"] ++ wsX200)
theorem in_f_X20_columns_RX20 : ∀ w ∈ u_ws RX20 TX20 30, w ∈ fw_f_X20_columns := fun _ h => List.mem_cons_of_mem _ (List.mem_append_right _ h)
theorem gd_f_X20_columns : (fw_f_X20_columns).all goodWord = true := by decide +kernel
set_option maxHeartbeats 4000000 in
set_option maxRecDepth 100000 in
theorem f_X20_columns (l : Launch) (dC : Nat → ClassId) (dI : Nat → Nat → Nat) (a0 : Nat) (a1 : Nat) (a2 : Nat) (a3 : Nat) (a4 : Nat) (a5 : Nat) (a6 : Nat) (a7 : Nat) (a8 : Nat) (a9 : Nat) (a10 : Nat) (a11 : Nat) (a12 : Nat) (a13 : Nat) (a14 : Nat) (a15 : Nat) (a16 : Nat) (a17 : Nat) (a18 : Nat) (a19 : Nat) (a20 : Nat) (sz : Nat) : Met l yX20_columns fw_f_X20_columns ({ frames := 1, cells := 0, slots := 0, locals := 20 }) (va_Pc [.ref a0] (fun U => U.heap.size = sz ∧ va_P (dC, dI) vwCl [(a0, .inr (21, [.ref a1, .ref a2, .ref a3, .ref a4, .ref a5, .ref a6, .ref a7, .ref a8, .int 0, .ref a9, .int 0, .int 0, .ref a10, .ref a11, .int 0, .ref a12, .int 0, .ref a13, .ref a14, .ref a15, .int 0, .ref a16, .ref a17, .int 0, .int 0, .ref a18, .int 0, .ref a19, .ref a20, .int 0]))] U.heap ∧ va_K (dC, dI) vwCl [] U ∧ va_D (fun _ => True) [(a0, .inr (21, [.ref a1, .ref a2, .ref a3, .ref a4, .ref a5, .ref a6, .ref a7, .ref a8, .int 0, .ref a9, .int 0, .int 0, .ref a10, .ref a11, .int 0, .ref a12, .int 0, .ref a13, .ref a14, .ref a15, .int 0, .ref a16, .ref a17, .int 0, .int 0, .ref a18, .int 0, .ref a19, .ref a20, .int 0]))])) (va_Qi (fun (r : Int32) (_ : Unit) => r = 0) (fun _ t => va_P (dC, dI) vwCl [(a0, .inr (21, [.ref a1, .ref a2, .ref a3, .ref a4, .ref a5, .ref a6, .ref a7, .ref a8, .int 0, .ref a9, .int 0, .int 0, .ref a10, .ref a11, .int 0, .ref a12, .int 0, .ref a13, .ref a14, .ref a15, .int 0, .ref a16, .ref a17, .int 0, .int 0, .ref a18, .int 0, .ref a19, .ref a20, .int 0]))] t.heap ∧ va_K (dC, dI) vwCl [] t ∧ va_D (va_A [(a0, .inr (21, [.ref a1, .ref a2, .ref a3, .ref a4, .ref a5, .ref a6, .ref a7, .ref a8, .int 0, .ref a9, .int 0, .int 0, .ref a10, .ref a11, .int 0, .ref a12, .int 0, .ref a13, .ref a14, .ref a15, .int 0, .ref a16, .ref a17, .int 0, .int 0, .ref a18, .int 0, .ref a19, .ref a20, .int 0]))] sz) [(a0, .inr (21, [.ref a1, .ref a2, .ref a3, .ref a4, .ref a5, .ref a6, .ref a7, .ref a8, .int 0, .ref a9, .int 0, .int 0, .ref a10, .ref a11, .int 0, .ref a12, .int 0, .ref a13, .ref a14, .ref a15, .int 0, .ref a16, .ref a17, .int 0, .int 0, .ref a18, .int 0, .ref a19, .ref a20, .int 0]))]) (va_A [(a0, .inr (21, [.ref a1, .ref a2, .ref a3, .ref a4, .ref a5, .ref a6, .ref a7, .ref a8, .int 0, .ref a9, .int 0, .int 0, .ref a10, .ref a11, .int 0, .ref a12, .int 0, .ref a13, .ref a14, .ref a15, .int 0, .ref a16, .ref a17, .int 0, .int 0, .ref a18, .int 0, .ref a19, .ref a20, .int 0]))] sz)) 0 0 (va_A [(a0, .inr (21, [.ref a1, .ref a2, .ref a3, .ref a4, .ref a5, .ref a6, .ref a7, .ref a8, .int 0, .ref a9, .int 0, .int 0, .ref a10, .ref a11, .int 0, .ref a12, .int 0, .ref a13, .ref a14, .ref a15, .int 0, .ref a16, .ref a17, .int 0, .int 0, .ref a18, .int 0, .ref a19, .ref a20, .int 0]))] sz) := by
  refine Met.ofW (cc := cX20_columns) (maxL := 1) (ret := (some .int)) (by decide) rfl ?_
  intro p e s m args below meth c s₁ B hml hv
  obtain ⟨rfl, hsz, hP, hK, hD0⟩ := hv
  have hx := B.exec
  have hb := B.bytes
  have hr := B.returns
  have hts := atoms_spec (ws := fw_f_X20_columns) B.pre
  have hown : s.vm.findClass RX20 = some m.cls := findClass_of_methodNamed B.named
  have hlocks := B.notSynchronized
  subst hsz
  have hD := hD0.self (sz := s.heap.size)
  generalize hAe : va_A [(a0, .inr (21, [.ref a1, .ref a2, .ref a3, .ref a4, .ref a5, .ref a6, .ref a7, .ref a8, .int 0, .ref a9, .int 0, .int 0, .ref a10, .ref a11, .int 0, .ref a12, .int 0, .ref a13, .ref a14, .ref a15, .int 0, .ref a16, .ref a17, .int 0, .int 0, .ref a18, .int 0, .ref a19, .ref a20, .int 0]))] s.heap.size = A at hD ⊢
  have hA : ∀ q : Nat, s.heap.size ≤ q → A q := fun q h => by rw [← hAe]; exact Or.inr h
  obtain ⟨H, hH⟩ : ∃ z, z = s.heap := ⟨_, rfl⟩
  rw [← hH] at hP
  have hS : va_S A s.heap H [] := by rw [hH]; exact va_S.rf
  have hP : va_P (dC, dI) vwCl [(a0, .inr (21, [.ref a1, .ref a2, .ref a3, .ref a4, .ref a5, .ref a6, .ref a7, .ref a8, .int 0, .ref a9, .int 0, .int 0, .ref a10, .ref a11, .int 0, .ref a12, .int 0, .ref a13, .ref a14, .ref a15, .int 0, .ref a16, .ref a17, .int 0, .int 0, .ref a18, .int 0, .ref a19, .ref a20, .int 0]))] H := hP
  have hl := lv_entry ([.ref a0]) (n := 1) (Nat.le_of_ble_eq_true rfl)
  rw [lg_entry_eq]
  generalize (lg_sl ([.ref a0]) ++ List.replicate (1 - (lg_sl ([.ref a0])).length) Slot.unset).toArray = ls at hl ⊢
  have hl : lv_has ls 1 [(0, .ref a0)] := hl
  rw [← hH]
  refine lv_aload_n hx hb dX20_columns_0 rfl (lv_at hl 0 rfl) ?_
  refine va_get (D := (dC, dI)) (ci := 21) (v := .int 0) (C := RX20) (T := TX20) (N := 30) hx hb hts in_f_X20_columns_RX20 hown hK hP 0 rfl rfl 11 (by decide) (hts (.fieldLink RX20 125 "TripleStoreModel" "columns" "I") (List.mem_of_getElem? (i := 1) rfl)) (fun _ h9 => h9) rfl dX20_columns_1 ?_
  exact W.iret (v := 0) hx hb hr (fun t ht hW => ⟨⟨0, (), rfl, rfl, by rw [ht]; exact hP, va_K.moved hW.alike hK, hD⟩, hS.F ht⟩) hS.2.2 dX20_columns_4
def fw_f_X20_cell : List Cond := .code yX20_cell cX20_cell 4 (some .int) :: ([.fieldLink RX20 122 "TripleStoreModel" "rows" "I"] ++ wsX200)
theorem in_f_X20_cell_RX20 : ∀ w ∈ u_ws RX20 TX20 30, w ∈ fw_f_X20_cell := fun _ h => List.mem_cons_of_mem _ (List.mem_append_right _ h)
theorem gd_f_X20_cell : (fw_f_X20_cell).all goodWord = true := by decide +kernel
set_option maxHeartbeats 4000000 in
set_option maxRecDepth 100000 in
theorem f_X20_cell (l : Launch) (dC : Nat → ClassId) (dI : Nat → Nat → Nat) (a0 : Nat) (a1 : Nat) (a2 : Nat) (a3 : Nat) (a4 : Nat) (a5 : Nat) (a6 : Nat) (a7 : Nat) (a8 : Nat) (a9 : Nat) (a10 : Nat) (a11 : Nat) (a12 : Nat) (a13 : Nat) (a14 : Nat) (a15 : Nat) (a16 : Nat) (a17 : Nat) (a18 : Nat) (a19 : Nat) (a20 : Nat) (x0 : Int32) (x1 : Int32) (sz : Nat) : Met l yX20_cell fw_f_X20_cell ({ frames := 1, cells := 0, slots := 0, locals := 20 }) (va_Pc [.ref a0, .int x0, .int x1] (fun U => U.heap.size = sz ∧ va_P (dC, dI) vwCl [(a0, .inr (21, [.ref a1, .ref a2, .ref a3, .ref a4, .ref a5, .ref a6, .ref a7, .ref a8, .int 0, .ref a9, .int 0, .int 0, .ref a10, .ref a11, .int 0, .ref a12, .int 0, .ref a13, .ref a14, .ref a15, .int 0, .ref a16, .ref a17, .int 0, .int 0, .ref a18, .int 0, .ref a19, .ref a20, .int 0]))] U.heap ∧ va_K (dC, dI) vwCl [] U ∧ va_D (fun _ => True) [(a0, .inr (21, [.ref a1, .ref a2, .ref a3, .ref a4, .ref a5, .ref a6, .ref a7, .ref a8, .int 0, .ref a9, .int 0, .int 0, .ref a10, .ref a11, .int 0, .ref a12, .int 0, .ref a13, .ref a14, .ref a15, .int 0, .ref a16, .ref a17, .int 0, .int 0, .ref a18, .int 0, .ref a19, .ref a20, .int 0]))])) (va_Qi (fun (r : Int32) (_ : Unit) => r = -1) (fun _ _ => True) (va_A [(a0, .inr (21, [.ref a1, .ref a2, .ref a3, .ref a4, .ref a5, .ref a6, .ref a7, .ref a8, .int 0, .ref a9, .int 0, .int 0, .ref a10, .ref a11, .int 0, .ref a12, .int 0, .ref a13, .ref a14, .ref a15, .int 0, .ref a16, .ref a17, .int 0, .int 0, .ref a18, .int 0, .ref a19, .ref a20, .int 0]))] sz)) 0 0 (va_A [(a0, .inr (21, [.ref a1, .ref a2, .ref a3, .ref a4, .ref a5, .ref a6, .ref a7, .ref a8, .int 0, .ref a9, .int 0, .int 0, .ref a10, .ref a11, .int 0, .ref a12, .int 0, .ref a13, .ref a14, .ref a15, .int 0, .ref a16, .ref a17, .int 0, .int 0, .ref a18, .int 0, .ref a19, .ref a20, .int 0]))] sz) := by
  refine Met.ofW (cc := cX20_cell) (maxL := 4) (ret := (some .int)) (by decide) rfl ?_
  intro p e s m args below meth c s₁ B hml hv
  obtain ⟨rfl, hsz, hP, hK, hD0⟩ := hv
  have hx := B.exec
  have hb := B.bytes
  have hr := B.returns
  have hts := atoms_spec (ws := fw_f_X20_cell) B.pre
  have hown : s.vm.findClass RX20 = some m.cls := findClass_of_methodNamed B.named
  have hlocks := B.notSynchronized
  subst hsz
  have hD := hD0.self (sz := s.heap.size)
  generalize hAe : va_A [(a0, .inr (21, [.ref a1, .ref a2, .ref a3, .ref a4, .ref a5, .ref a6, .ref a7, .ref a8, .int 0, .ref a9, .int 0, .int 0, .ref a10, .ref a11, .int 0, .ref a12, .int 0, .ref a13, .ref a14, .ref a15, .int 0, .ref a16, .ref a17, .int 0, .int 0, .ref a18, .int 0, .ref a19, .ref a20, .int 0]))] s.heap.size = A at hD ⊢
  have hA : ∀ q : Nat, s.heap.size ≤ q → A q := fun q h => by rw [← hAe]; exact Or.inr h
  obtain ⟨H, hH⟩ : ∃ z, z = s.heap := ⟨_, rfl⟩
  rw [← hH] at hP
  have hS : va_S A s.heap H [] := by rw [hH]; exact va_S.rf
  have hP : va_P (dC, dI) vwCl [(a0, .inr (21, [.ref a1, .ref a2, .ref a3, .ref a4, .ref a5, .ref a6, .ref a7, .ref a8, .int 0, .ref a9, .int 0, .int 0, .ref a10, .ref a11, .int 0, .ref a12, .int 0, .ref a13, .ref a14, .ref a15, .int 0, .ref a16, .ref a17, .int 0, .int 0, .ref a18, .int 0, .ref a19, .ref a20, .int 0]))] H := hP
  have hl := lv_entry ([.ref a0, .int x0, .int x1]) (n := 4) (Nat.le_of_ble_eq_true rfl)
  rw [lg_entry_eq]
  generalize (lg_sl ([.ref a0, .int x0, .int x1]) ++ List.replicate (4 - (lg_sl ([.ref a0, .int x0, .int x1])).length) Slot.unset).toArray = ls at hl ⊢
  have hl : lv_has ls 4 [(0, .ref a0), (1, .int x0), (2, .int x1)] := hl
  rw [← hH]
  refine lv_iload_n hx hb dX20_cell_0 rfl (lv_at hl 1 rfl) ?_
  refine lv_if_lt (tgt := 24) hx hb dX20_cell_1 (by decide) (fun c_1 => ?_) (fun c_1 => ?_)
  · refine lv_iconst (v := (-1)) hx hb dX20_cell_24 (by decide) ?_
    refine W.widen (k := 0) (n := 0) (Nat.le_of_ble_eq_true rfl) (Nat.le_of_ble_eq_true rfl) ?_
    exact W.iret (v := (-1)) hx hb hr (fun t ht hW => ⟨⟨(-1), (), rfl, rfl, trivial⟩, hS.F ht⟩) hS.2.2 dX20_cell_25
  · refine lv_iload_n hx hb dX20_cell_4 rfl (lv_at hl 1 rfl) ?_
    refine lv_aload_n hx hb dX20_cell_5 rfl (lv_at hl 0 rfl) ?_
    refine va_get (D := (dC, dI)) (ci := 21) (v := .int 0) (C := RX20) (T := TX20) (N := 30) hx hb hts in_f_X20_cell_RX20 hown hK hP 0 rfl rfl 10 (by decide) (hts (.fieldLink RX20 122 "TripleStoreModel" "rows" "I") (List.mem_of_getElem? (i := 1) rfl)) (fun _ h9 => h9) rfl dX20_cell_6 ?_
    refine lv_icmp_ge (tgt := 24) hx hb dX20_cell_9 (by decide) (fun c_9 => ?_) (fun c_9 => ?_)
    · refine lv_iconst (v := (-1)) hx hb dX20_cell_24 (by decide) ?_
      refine W.widen (k := 0) (n := 0) (Nat.le_of_ble_eq_true rfl) (Nat.le_of_ble_eq_true rfl) ?_
      exact W.iret (v := (-1)) hx hb hr (fun t ht hW => ⟨⟨(-1), (), rfl, rfl, trivial⟩, hS.F ht⟩) hS.2.2 dX20_cell_25
    · exact absurd (Int32.not_lt.mp c_1) c_9
def fw_f_X20_column : List Cond := .code yX20_column cX20_column 3 (some .int) :: ([.fieldLink RX20 125 "TripleStoreModel" "columns" "I"] ++ wsX200)
theorem in_f_X20_column_RX20 : ∀ w ∈ u_ws RX20 TX20 30, w ∈ fw_f_X20_column := fun _ h => List.mem_cons_of_mem _ (List.mem_append_right _ h)
theorem gd_f_X20_column : (fw_f_X20_column).all goodWord = true := by decide +kernel
set_option maxHeartbeats 4000000 in
set_option maxRecDepth 100000 in
theorem f_X20_column (l : Launch) (dC : Nat → ClassId) (dI : Nat → Nat → Nat) (a0 : Nat) (a1 : Nat) (a2 : Nat) (a3 : Nat) (a4 : Nat) (a5 : Nat) (a6 : Nat) (a7 : Nat) (a8 : Nat) (a9 : Nat) (a10 : Nat) (a11 : Nat) (a12 : Nat) (a13 : Nat) (a14 : Nat) (a15 : Nat) (a16 : Nat) (a17 : Nat) (a18 : Nat) (a19 : Nat) (a20 : Nat) (x0 : Int32) (sz : Nat) : Met l yX20_column fw_f_X20_column ({ frames := 1, cells := 0, slots := 0, locals := 20 }) (va_Pc [.ref a0, .int x0] (fun U => U.heap.size = sz ∧ va_P (dC, dI) vwCl [(a0, .inr (21, [.ref a1, .ref a2, .ref a3, .ref a4, .ref a5, .ref a6, .ref a7, .ref a8, .int 0, .ref a9, .int 0, .int 0, .ref a10, .ref a11, .int 0, .ref a12, .int 0, .ref a13, .ref a14, .ref a15, .int 0, .ref a16, .ref a17, .int 0, .int 0, .ref a18, .int 0, .ref a19, .ref a20, .int 0]))] U.heap ∧ va_K (dC, dI) vwCl [] U ∧ va_D (fun _ => True) [(a0, .inr (21, [.ref a1, .ref a2, .ref a3, .ref a4, .ref a5, .ref a6, .ref a7, .ref a8, .int 0, .ref a9, .int 0, .int 0, .ref a10, .ref a11, .int 0, .ref a12, .int 0, .ref a13, .ref a14, .ref a15, .int 0, .ref a16, .ref a17, .int 0, .int 0, .ref a18, .int 0, .ref a19, .ref a20, .int 0]))])) (va_Qi (fun (r : Int32) (_ : Unit) => r = -1) (fun _ _ => True) (va_A [(a0, .inr (21, [.ref a1, .ref a2, .ref a3, .ref a4, .ref a5, .ref a6, .ref a7, .ref a8, .int 0, .ref a9, .int 0, .int 0, .ref a10, .ref a11, .int 0, .ref a12, .int 0, .ref a13, .ref a14, .ref a15, .int 0, .ref a16, .ref a17, .int 0, .int 0, .ref a18, .int 0, .ref a19, .ref a20, .int 0]))] sz)) 0 0 (va_A [(a0, .inr (21, [.ref a1, .ref a2, .ref a3, .ref a4, .ref a5, .ref a6, .ref a7, .ref a8, .int 0, .ref a9, .int 0, .int 0, .ref a10, .ref a11, .int 0, .ref a12, .int 0, .ref a13, .ref a14, .ref a15, .int 0, .ref a16, .ref a17, .int 0, .int 0, .ref a18, .int 0, .ref a19, .ref a20, .int 0]))] sz) := by
  refine Met.ofW (cc := cX20_column) (maxL := 3) (ret := (some .int)) (by decide) rfl ?_
  intro p e s m args below meth c s₁ B hml hv
  obtain ⟨rfl, hsz, hP, hK, hD0⟩ := hv
  have hx := B.exec
  have hb := B.bytes
  have hr := B.returns
  have hts := atoms_spec (ws := fw_f_X20_column) B.pre
  have hown : s.vm.findClass RX20 = some m.cls := findClass_of_methodNamed B.named
  have hlocks := B.notSynchronized
  subst hsz
  have hD := hD0.self (sz := s.heap.size)
  generalize hAe : va_A [(a0, .inr (21, [.ref a1, .ref a2, .ref a3, .ref a4, .ref a5, .ref a6, .ref a7, .ref a8, .int 0, .ref a9, .int 0, .int 0, .ref a10, .ref a11, .int 0, .ref a12, .int 0, .ref a13, .ref a14, .ref a15, .int 0, .ref a16, .ref a17, .int 0, .int 0, .ref a18, .int 0, .ref a19, .ref a20, .int 0]))] s.heap.size = A at hD ⊢
  have hA : ∀ q : Nat, s.heap.size ≤ q → A q := fun q h => by rw [← hAe]; exact Or.inr h
  obtain ⟨H, hH⟩ : ∃ z, z = s.heap := ⟨_, rfl⟩
  rw [← hH] at hP
  have hS : va_S A s.heap H [] := by rw [hH]; exact va_S.rf
  have hP : va_P (dC, dI) vwCl [(a0, .inr (21, [.ref a1, .ref a2, .ref a3, .ref a4, .ref a5, .ref a6, .ref a7, .ref a8, .int 0, .ref a9, .int 0, .int 0, .ref a10, .ref a11, .int 0, .ref a12, .int 0, .ref a13, .ref a14, .ref a15, .int 0, .ref a16, .ref a17, .int 0, .int 0, .ref a18, .int 0, .ref a19, .ref a20, .int 0]))] H := hP
  have hl := lv_entry ([.ref a0, .int x0]) (n := 3) (Nat.le_of_ble_eq_true rfl)
  rw [lg_entry_eq]
  generalize (lg_sl ([.ref a0, .int x0]) ++ List.replicate (3 - (lg_sl ([.ref a0, .int x0])).length) Slot.unset).toArray = ls at hl ⊢
  have hl : lv_has ls 3 [(0, .ref a0), (1, .int x0)] := hl
  rw [← hH]
  refine lv_iload_n hx hb dX20_column_0 rfl (lv_at hl 1 rfl) ?_
  refine lv_if_lt (tgt := 12) hx hb dX20_column_1 (by decide) (fun c_1 => ?_) (fun c_1 => ?_)
  · refine lv_iconst (v := (-1)) hx hb dX20_column_12 (by decide) ?_
    refine W.widen (k := 0) (n := 0) (Nat.le_of_ble_eq_true rfl) (Nat.le_of_ble_eq_true rfl) ?_
    exact W.iret (v := (-1)) hx hb hr (fun t ht hW => ⟨⟨(-1), (), rfl, rfl, trivial⟩, hS.F ht⟩) hS.2.2 dX20_column_13
  · refine lv_iload_n hx hb dX20_column_4 rfl (lv_at hl 1 rfl) ?_
    refine lv_aload_n hx hb dX20_column_5 rfl (lv_at hl 0 rfl) ?_
    refine va_get (D := (dC, dI)) (ci := 21) (v := .int 0) (C := RX20) (T := TX20) (N := 30) hx hb hts in_f_X20_column_RX20 hown hK hP 0 rfl rfl 11 (by decide) (hts (.fieldLink RX20 125 "TripleStoreModel" "columns" "I") (List.mem_of_getElem? (i := 1) rfl)) (fun _ h9 => h9) rfl dX20_column_6 ?_
    refine lv_icmp_lt (tgt := 14) hx hb dX20_column_9 (by decide) (fun c_9 => ?_) (fun c_9 => ?_)
    · exact absurd c_9 c_1
    · refine lv_iconst (v := (-1)) hx hb dX20_column_12 (by decide) ?_
      refine W.widen (k := 0) (n := 0) (Nat.le_of_ble_eq_true rfl) (Nat.le_of_ble_eq_true rfl) ?_
      exact W.iret (v := (-1)) hx hb hr (fun t ht hW => ⟨⟨(-1), (), rfl, rfl, trivial⟩, hS.F ht⟩) hS.2.2 dX20_column_13
def fw_f_X20_written : List Cond := .code yX20_written cX20_written 2 (some .int) :: ([.fieldLink RX20 352 "TripleStoreModel" "shownSize" "I"] ++ wsX200)
theorem in_f_X20_written_RX20 : ∀ w ∈ u_ws RX20 TX20 30, w ∈ fw_f_X20_written := fun _ h => List.mem_cons_of_mem _ (List.mem_append_right _ h)
theorem gd_f_X20_written : (fw_f_X20_written).all goodWord = true := by decide +kernel
set_option maxHeartbeats 4000000 in
set_option maxRecDepth 100000 in
theorem f_X20_written (l : Launch) (dC : Nat → ClassId) (dI : Nat → Nat → Nat) (a0 : Nat) (a1 : Nat) (a2 : Nat) (a3 : Nat) (a4 : Nat) (a5 : Nat) (a6 : Nat) (a7 : Nat) (a8 : Nat) (a9 : Nat) (a10 : Nat) (a11 : Nat) (a12 : Nat) (a13 : Nat) (a14 : Nat) (a15 : Nat) (a16 : Nat) (a17 : Nat) (a18 : Nat) (a19 : Nat) (a20 : Nat) (x0 : Int32) (sz : Nat) : Met l yX20_written fw_f_X20_written ({ frames := 1, cells := 0, slots := 0, locals := 20 }) (va_Pc [.ref a0, .int x0] (fun U => U.heap.size = sz ∧ va_P (dC, dI) vwCl [(a0, .inr (21, [.ref a1, .ref a2, .ref a3, .ref a4, .ref a5, .ref a6, .ref a7, .ref a8, .int 0, .ref a9, .int 0, .int 0, .ref a10, .ref a11, .int 0, .ref a12, .int 0, .ref a13, .ref a14, .ref a15, .int 0, .ref a16, .ref a17, .int 0, .int 0, .ref a18, .int 0, .ref a19, .ref a20, .int 0]))] U.heap ∧ va_K (dC, dI) vwCl [] U ∧ va_D (fun _ => True) [(a0, .inr (21, [.ref a1, .ref a2, .ref a3, .ref a4, .ref a5, .ref a6, .ref a7, .ref a8, .int 0, .ref a9, .int 0, .int 0, .ref a10, .ref a11, .int 0, .ref a12, .int 0, .ref a13, .ref a14, .ref a15, .int 0, .ref a16, .ref a17, .int 0, .int 0, .ref a18, .int 0, .ref a19, .ref a20, .int 0]))])) (va_Qi (fun (r : Int32) (_ : Unit) => r = -1) (fun _ _ => True) (va_A [(a0, .inr (21, [.ref a1, .ref a2, .ref a3, .ref a4, .ref a5, .ref a6, .ref a7, .ref a8, .int 0, .ref a9, .int 0, .int 0, .ref a10, .ref a11, .int 0, .ref a12, .int 0, .ref a13, .ref a14, .ref a15, .int 0, .ref a16, .ref a17, .int 0, .int 0, .ref a18, .int 0, .ref a19, .ref a20, .int 0]))] sz)) 0 0 (va_A [(a0, .inr (21, [.ref a1, .ref a2, .ref a3, .ref a4, .ref a5, .ref a6, .ref a7, .ref a8, .int 0, .ref a9, .int 0, .int 0, .ref a10, .ref a11, .int 0, .ref a12, .int 0, .ref a13, .ref a14, .ref a15, .int 0, .ref a16, .ref a17, .int 0, .int 0, .ref a18, .int 0, .ref a19, .ref a20, .int 0]))] sz) := by
  refine Met.ofW (cc := cX20_written) (maxL := 2) (ret := (some .int)) (by decide) rfl ?_
  intro p e s m args below meth c s₁ B hml hv
  obtain ⟨rfl, hsz, hP, hK, hD0⟩ := hv
  have hx := B.exec
  have hb := B.bytes
  have hr := B.returns
  have hts := atoms_spec (ws := fw_f_X20_written) B.pre
  have hown : s.vm.findClass RX20 = some m.cls := findClass_of_methodNamed B.named
  have hlocks := B.notSynchronized
  subst hsz
  have hD := hD0.self (sz := s.heap.size)
  generalize hAe : va_A [(a0, .inr (21, [.ref a1, .ref a2, .ref a3, .ref a4, .ref a5, .ref a6, .ref a7, .ref a8, .int 0, .ref a9, .int 0, .int 0, .ref a10, .ref a11, .int 0, .ref a12, .int 0, .ref a13, .ref a14, .ref a15, .int 0, .ref a16, .ref a17, .int 0, .int 0, .ref a18, .int 0, .ref a19, .ref a20, .int 0]))] s.heap.size = A at hD ⊢
  have hA : ∀ q : Nat, s.heap.size ≤ q → A q := fun q h => by rw [← hAe]; exact Or.inr h
  obtain ⟨H, hH⟩ : ∃ z, z = s.heap := ⟨_, rfl⟩
  rw [← hH] at hP
  have hS : va_S A s.heap H [] := by rw [hH]; exact va_S.rf
  have hP : va_P (dC, dI) vwCl [(a0, .inr (21, [.ref a1, .ref a2, .ref a3, .ref a4, .ref a5, .ref a6, .ref a7, .ref a8, .int 0, .ref a9, .int 0, .int 0, .ref a10, .ref a11, .int 0, .ref a12, .int 0, .ref a13, .ref a14, .ref a15, .int 0, .ref a16, .ref a17, .int 0, .int 0, .ref a18, .int 0, .ref a19, .ref a20, .int 0]))] H := hP
  have hl := lv_entry ([.ref a0, .int x0]) (n := 2) (Nat.le_of_ble_eq_true rfl)
  rw [lg_entry_eq]
  generalize (lg_sl ([.ref a0, .int x0]) ++ List.replicate (2 - (lg_sl ([.ref a0, .int x0])).length) Slot.unset).toArray = ls at hl ⊢
  have hl : lv_has ls 2 [(0, .ref a0), (1, .int x0)] := hl
  rw [← hH]
  refine lv_iload_n hx hb dX20_written_0 rfl (lv_at hl 1 rfl) ?_
  refine lv_if_lt (tgt := 25) hx hb dX20_written_1 (by decide) (fun c_1 => ?_) (fun c_1 => ?_)
  · refine lv_iconst (v := (-1)) hx hb dX20_written_25 (by decide) ?_
    refine W.widen (k := 0) (n := 0) (Nat.le_of_ble_eq_true rfl) (Nat.le_of_ble_eq_true rfl) ?_
    exact W.iret (v := (-1)) hx hb hr (fun t ht hW => ⟨⟨(-1), (), rfl, rfl, trivial⟩, hS.F ht⟩) hS.2.2 dX20_written_26
  · refine lv_iload_n hx hb dX20_written_4 rfl (lv_at hl 1 rfl) ?_
    refine lv_aload_n hx hb dX20_written_5 rfl (lv_at hl 0 rfl) ?_
    refine va_get (D := (dC, dI)) (ci := 21) (v := .int 0) (C := RX20) (T := TX20) (N := 30) hx hb hts in_f_X20_written_RX20 hown hK hP 0 rfl rfl 29 (by decide) (hts (.fieldLink RX20 352 "TripleStoreModel" "shownSize" "I") (List.mem_of_getElem? (i := 1) rfl)) (fun _ h9 => h9) rfl dX20_written_6 ?_
    refine lv_icmp_ge (tgt := 25) hx hb dX20_written_9 (by decide) (fun c_9 => ?_) (fun c_9 => ?_)
    · refine lv_iconst (v := (-1)) hx hb dX20_written_25 (by decide) ?_
      refine W.widen (k := 0) (n := 0) (Nat.le_of_ble_eq_true rfl) (Nat.le_of_ble_eq_true rfl) ?_
      exact W.iret (v := (-1)) hx hb hr (fun t ht hW => ⟨⟨(-1), (), rfl, rfl, trivial⟩, hS.F ht⟩) hS.2.2 dX20_written_26
    · exact absurd (Int32.not_lt.mp c_1) c_9
def fw_f_X20_made : List Cond := .code yX20_made cX20_made 1 (some .int) :: ([.fieldLink RX20 128 "TripleStoreModel" "shownMade" "I"] ++ wsX200)
theorem in_f_X20_made_RX20 : ∀ w ∈ u_ws RX20 TX20 30, w ∈ fw_f_X20_made := fun _ h => List.mem_cons_of_mem _ (List.mem_append_right _ h)
theorem gd_f_X20_made : (fw_f_X20_made).all goodWord = true := by decide +kernel
set_option maxHeartbeats 4000000 in
set_option maxRecDepth 100000 in
theorem f_X20_made (l : Launch) (dC : Nat → ClassId) (dI : Nat → Nat → Nat) (a0 : Nat) (a1 : Nat) (a2 : Nat) (a3 : Nat) (a4 : Nat) (a5 : Nat) (a6 : Nat) (a7 : Nat) (a8 : Nat) (a9 : Nat) (a10 : Nat) (a11 : Nat) (a12 : Nat) (a13 : Nat) (a14 : Nat) (a15 : Nat) (a16 : Nat) (a17 : Nat) (a18 : Nat) (a19 : Nat) (a20 : Nat) (sz : Nat) : Met l yX20_made fw_f_X20_made ({ frames := 1, cells := 0, slots := 0, locals := 20 }) (va_Pc [.ref a0] (fun U => U.heap.size = sz ∧ va_P (dC, dI) vwCl [(a0, .inr (21, [.ref a1, .ref a2, .ref a3, .ref a4, .ref a5, .ref a6, .ref a7, .ref a8, .int 0, .ref a9, .int 0, .int 0, .ref a10, .ref a11, .int 0, .ref a12, .int 0, .ref a13, .ref a14, .ref a15, .int 0, .ref a16, .ref a17, .int 0, .int 0, .ref a18, .int 0, .ref a19, .ref a20, .int 0]))] U.heap ∧ va_K (dC, dI) vwCl [] U ∧ va_D (fun _ => True) [(a0, .inr (21, [.ref a1, .ref a2, .ref a3, .ref a4, .ref a5, .ref a6, .ref a7, .ref a8, .int 0, .ref a9, .int 0, .int 0, .ref a10, .ref a11, .int 0, .ref a12, .int 0, .ref a13, .ref a14, .ref a15, .int 0, .ref a16, .ref a17, .int 0, .int 0, .ref a18, .int 0, .ref a19, .ref a20, .int 0]))])) (va_Qi (fun (r : Int32) (_ : Unit) => r = 0) (fun _ t => va_P (dC, dI) vwCl [(a0, .inr (21, [.ref a1, .ref a2, .ref a3, .ref a4, .ref a5, .ref a6, .ref a7, .ref a8, .int 0, .ref a9, .int 0, .int 0, .ref a10, .ref a11, .int 0, .ref a12, .int 0, .ref a13, .ref a14, .ref a15, .int 0, .ref a16, .ref a17, .int 0, .int 0, .ref a18, .int 0, .ref a19, .ref a20, .int 0]))] t.heap ∧ va_K (dC, dI) vwCl [] t ∧ va_D (va_A [(a0, .inr (21, [.ref a1, .ref a2, .ref a3, .ref a4, .ref a5, .ref a6, .ref a7, .ref a8, .int 0, .ref a9, .int 0, .int 0, .ref a10, .ref a11, .int 0, .ref a12, .int 0, .ref a13, .ref a14, .ref a15, .int 0, .ref a16, .ref a17, .int 0, .int 0, .ref a18, .int 0, .ref a19, .ref a20, .int 0]))] sz) [(a0, .inr (21, [.ref a1, .ref a2, .ref a3, .ref a4, .ref a5, .ref a6, .ref a7, .ref a8, .int 0, .ref a9, .int 0, .int 0, .ref a10, .ref a11, .int 0, .ref a12, .int 0, .ref a13, .ref a14, .ref a15, .int 0, .ref a16, .ref a17, .int 0, .int 0, .ref a18, .int 0, .ref a19, .ref a20, .int 0]))]) (va_A [(a0, .inr (21, [.ref a1, .ref a2, .ref a3, .ref a4, .ref a5, .ref a6, .ref a7, .ref a8, .int 0, .ref a9, .int 0, .int 0, .ref a10, .ref a11, .int 0, .ref a12, .int 0, .ref a13, .ref a14, .ref a15, .int 0, .ref a16, .ref a17, .int 0, .int 0, .ref a18, .int 0, .ref a19, .ref a20, .int 0]))] sz)) 0 0 (va_A [(a0, .inr (21, [.ref a1, .ref a2, .ref a3, .ref a4, .ref a5, .ref a6, .ref a7, .ref a8, .int 0, .ref a9, .int 0, .int 0, .ref a10, .ref a11, .int 0, .ref a12, .int 0, .ref a13, .ref a14, .ref a15, .int 0, .ref a16, .ref a17, .int 0, .int 0, .ref a18, .int 0, .ref a19, .ref a20, .int 0]))] sz) := by
  refine Met.ofW (cc := cX20_made) (maxL := 1) (ret := (some .int)) (by decide) rfl ?_
  intro p e s m args below meth c s₁ B hml hv
  obtain ⟨rfl, hsz, hP, hK, hD0⟩ := hv
  have hx := B.exec
  have hb := B.bytes
  have hr := B.returns
  have hts := atoms_spec (ws := fw_f_X20_made) B.pre
  have hown : s.vm.findClass RX20 = some m.cls := findClass_of_methodNamed B.named
  have hlocks := B.notSynchronized
  subst hsz
  have hD := hD0.self (sz := s.heap.size)
  generalize hAe : va_A [(a0, .inr (21, [.ref a1, .ref a2, .ref a3, .ref a4, .ref a5, .ref a6, .ref a7, .ref a8, .int 0, .ref a9, .int 0, .int 0, .ref a10, .ref a11, .int 0, .ref a12, .int 0, .ref a13, .ref a14, .ref a15, .int 0, .ref a16, .ref a17, .int 0, .int 0, .ref a18, .int 0, .ref a19, .ref a20, .int 0]))] s.heap.size = A at hD ⊢
  have hA : ∀ q : Nat, s.heap.size ≤ q → A q := fun q h => by rw [← hAe]; exact Or.inr h
  obtain ⟨H, hH⟩ : ∃ z, z = s.heap := ⟨_, rfl⟩
  rw [← hH] at hP
  have hS : va_S A s.heap H [] := by rw [hH]; exact va_S.rf
  have hP : va_P (dC, dI) vwCl [(a0, .inr (21, [.ref a1, .ref a2, .ref a3, .ref a4, .ref a5, .ref a6, .ref a7, .ref a8, .int 0, .ref a9, .int 0, .int 0, .ref a10, .ref a11, .int 0, .ref a12, .int 0, .ref a13, .ref a14, .ref a15, .int 0, .ref a16, .ref a17, .int 0, .int 0, .ref a18, .int 0, .ref a19, .ref a20, .int 0]))] H := hP
  have hl := lv_entry ([.ref a0]) (n := 1) (Nat.le_of_ble_eq_true rfl)
  rw [lg_entry_eq]
  generalize (lg_sl ([.ref a0]) ++ List.replicate (1 - (lg_sl ([.ref a0])).length) Slot.unset).toArray = ls at hl ⊢
  have hl : lv_has ls 1 [(0, .ref a0)] := hl
  rw [← hH]
  refine lv_aload_n hx hb dX20_made_0 rfl (lv_at hl 0 rfl) ?_
  refine va_get (D := (dC, dI)) (ci := 21) (v := .int 0) (C := RX20) (T := TX20) (N := 30) hx hb hts in_f_X20_made_RX20 hown hK hP 0 rfl rfl 14 (by decide) (hts (.fieldLink RX20 128 "TripleStoreModel" "shownMade" "I") (List.mem_of_getElem? (i := 1) rfl)) (fun _ h9 => h9) rfl dX20_made_1 ?_
  exact W.iret (v := 0) hx hb hr (fun t ht hW => ⟨⟨0, (), rfl, rfl, by rw [ht]; exact hP, va_K.moved hW.alike hK, hD⟩, hS.F ht⟩) hS.2.2 dX20_made_4
def fw_f_X20_plan : List Cond := .code yX20_plan cX20_plan 2 (some .int) :: ([.fieldLink RX20 131 "TripleStoreModel" "planned" "I"] ++ wsX200)
theorem in_f_X20_plan_RX20 : ∀ w ∈ u_ws RX20 TX20 30, w ∈ fw_f_X20_plan := fun _ h => List.mem_cons_of_mem _ (List.mem_append_right _ h)
theorem gd_f_X20_plan : (fw_f_X20_plan).all goodWord = true := by decide +kernel
set_option maxHeartbeats 4000000 in
set_option maxRecDepth 100000 in
theorem f_X20_plan (l : Launch) (dC : Nat → ClassId) (dI : Nat → Nat → Nat) (a0 : Nat) (a1 : Nat) (a2 : Nat) (a3 : Nat) (a4 : Nat) (a5 : Nat) (a6 : Nat) (a7 : Nat) (a8 : Nat) (a9 : Nat) (a10 : Nat) (a11 : Nat) (a12 : Nat) (a13 : Nat) (a14 : Nat) (a15 : Nat) (a16 : Nat) (a17 : Nat) (a18 : Nat) (a19 : Nat) (a20 : Nat) (x0 : Int32) (sz : Nat) : Met l yX20_plan fw_f_X20_plan ({ frames := 1, cells := 0, slots := 0, locals := 20 }) (va_Pc [.ref a0, .int x0] (fun U => U.heap.size = sz ∧ va_P (dC, dI) vwCl [(a0, .inr (21, [.ref a1, .ref a2, .ref a3, .ref a4, .ref a5, .ref a6, .ref a7, .ref a8, .int 0, .ref a9, .int 0, .int 0, .ref a10, .ref a11, .int 0, .ref a12, .int 0, .ref a13, .ref a14, .ref a15, .int 0, .ref a16, .ref a17, .int 0, .int 0, .ref a18, .int 0, .ref a19, .ref a20, .int 0]))] U.heap ∧ va_K (dC, dI) vwCl [] U ∧ va_D (fun _ => True) [(a0, .inr (21, [.ref a1, .ref a2, .ref a3, .ref a4, .ref a5, .ref a6, .ref a7, .ref a8, .int 0, .ref a9, .int 0, .int 0, .ref a10, .ref a11, .int 0, .ref a12, .int 0, .ref a13, .ref a14, .ref a15, .int 0, .ref a16, .ref a17, .int 0, .int 0, .ref a18, .int 0, .ref a19, .ref a20, .int 0]))])) (va_Qi (fun (r : Int32) (_ : Unit) => r = -1) (fun _ _ => True) (va_A [(a0, .inr (21, [.ref a1, .ref a2, .ref a3, .ref a4, .ref a5, .ref a6, .ref a7, .ref a8, .int 0, .ref a9, .int 0, .int 0, .ref a10, .ref a11, .int 0, .ref a12, .int 0, .ref a13, .ref a14, .ref a15, .int 0, .ref a16, .ref a17, .int 0, .int 0, .ref a18, .int 0, .ref a19, .ref a20, .int 0]))] sz)) 0 0 (va_A [(a0, .inr (21, [.ref a1, .ref a2, .ref a3, .ref a4, .ref a5, .ref a6, .ref a7, .ref a8, .int 0, .ref a9, .int 0, .int 0, .ref a10, .ref a11, .int 0, .ref a12, .int 0, .ref a13, .ref a14, .ref a15, .int 0, .ref a16, .ref a17, .int 0, .int 0, .ref a18, .int 0, .ref a19, .ref a20, .int 0]))] sz) := by
  refine Met.ofW (cc := cX20_plan) (maxL := 2) (ret := (some .int)) (by decide) rfl ?_
  intro p e s m args below meth c s₁ B hml hv
  obtain ⟨rfl, hsz, hP, hK, hD0⟩ := hv
  have hx := B.exec
  have hb := B.bytes
  have hr := B.returns
  have hts := atoms_spec (ws := fw_f_X20_plan) B.pre
  have hown : s.vm.findClass RX20 = some m.cls := findClass_of_methodNamed B.named
  have hlocks := B.notSynchronized
  subst hsz
  have hD := hD0.self (sz := s.heap.size)
  generalize hAe : va_A [(a0, .inr (21, [.ref a1, .ref a2, .ref a3, .ref a4, .ref a5, .ref a6, .ref a7, .ref a8, .int 0, .ref a9, .int 0, .int 0, .ref a10, .ref a11, .int 0, .ref a12, .int 0, .ref a13, .ref a14, .ref a15, .int 0, .ref a16, .ref a17, .int 0, .int 0, .ref a18, .int 0, .ref a19, .ref a20, .int 0]))] s.heap.size = A at hD ⊢
  have hA : ∀ q : Nat, s.heap.size ≤ q → A q := fun q h => by rw [← hAe]; exact Or.inr h
  obtain ⟨H, hH⟩ : ∃ z, z = s.heap := ⟨_, rfl⟩
  rw [← hH] at hP
  have hS : va_S A s.heap H [] := by rw [hH]; exact va_S.rf
  have hP : va_P (dC, dI) vwCl [(a0, .inr (21, [.ref a1, .ref a2, .ref a3, .ref a4, .ref a5, .ref a6, .ref a7, .ref a8, .int 0, .ref a9, .int 0, .int 0, .ref a10, .ref a11, .int 0, .ref a12, .int 0, .ref a13, .ref a14, .ref a15, .int 0, .ref a16, .ref a17, .int 0, .int 0, .ref a18, .int 0, .ref a19, .ref a20, .int 0]))] H := hP
  have hl := lv_entry ([.ref a0, .int x0]) (n := 2) (Nat.le_of_ble_eq_true rfl)
  rw [lg_entry_eq]
  generalize (lg_sl ([.ref a0, .int x0]) ++ List.replicate (2 - (lg_sl ([.ref a0, .int x0])).length) Slot.unset).toArray = ls at hl ⊢
  have hl : lv_has ls 2 [(0, .ref a0), (1, .int x0)] := hl
  rw [← hH]
  refine lv_iload_n hx hb dX20_plan_0 rfl (lv_at hl 1 rfl) ?_
  refine lv_if_lt (tgt := 21) hx hb dX20_plan_1 (by decide) (fun c_1 => ?_) (fun c_1 => ?_)
  · refine lv_iconst (v := (-1)) hx hb dX20_plan_21 (by decide) ?_
    refine W.widen (k := 0) (n := 0) (Nat.le_of_ble_eq_true rfl) (Nat.le_of_ble_eq_true rfl) ?_
    exact W.iret (v := (-1)) hx hb hr (fun t ht hW => ⟨⟨(-1), (), rfl, rfl, trivial⟩, hS.F ht⟩) hS.2.2 dX20_plan_22
  · refine lv_iload_n hx hb dX20_plan_4 rfl (lv_at hl 1 rfl) ?_
    refine lv_aload_n hx hb dX20_plan_5 rfl (lv_at hl 0 rfl) ?_
    refine va_get (D := (dC, dI)) (ci := 21) (v := .int 0) (C := RX20) (T := TX20) (N := 30) hx hb hts in_f_X20_plan_RX20 hown hK hP 0 rfl rfl 16 (by decide) (hts (.fieldLink RX20 131 "TripleStoreModel" "planned" "I") (List.mem_of_getElem? (i := 1) rfl)) (fun _ h9 => h9) rfl dX20_plan_6 ?_
    refine lv_icmp_ge (tgt := 21) hx hb dX20_plan_9 (by decide) (fun c_9 => ?_) (fun c_9 => ?_)
    · refine lv_iconst (v := (-1)) hx hb dX20_plan_21 (by decide) ?_
      refine W.widen (k := 0) (n := 0) (Nat.le_of_ble_eq_true rfl) (Nat.le_of_ble_eq_true rfl) ?_
      exact W.iret (v := (-1)) hx hb hr (fun t ht hW => ⟨⟨(-1), (), rfl, rfl, trivial⟩, hS.F ht⟩) hS.2.2 dX20_plan_22
    · exact absurd (Int32.not_lt.mp c_1) c_9
def fw_f_X20_triples : List Cond := .code yX20_triples cX20_triples 1 (some .int) :: ([.fieldLink RX20 42 "TripleStoreModel" "store" "LTripleStoreModel$Store;"] ++ wsX200 ++ wsX170)
theorem in_f_X20_triples_RX20 : ∀ w ∈ u_ws RX20 TX20 30, w ∈ fw_f_X20_triples := fun _ h => List.mem_cons_of_mem _ (List.mem_append_left _ (List.mem_append_right _ h))
theorem in_f_X20_triples_RX17 : ∀ w ∈ u_ws RX17 TX17 18, w ∈ fw_f_X20_triples := fun _ h => List.mem_cons_of_mem _ (List.mem_append_right _ h)
theorem gd_f_X20_triples : (fw_f_X20_triples).all goodWord = true := by decide +kernel
set_option maxHeartbeats 4000000 in
set_option maxRecDepth 100000 in
theorem f_X20_triples (l : Launch) (dC : Nat → ClassId) (dI : Nat → Nat → Nat) (a0 : Nat) (a1 : Nat) (a2 : Nat) (a3 : Nat) (a4 : Nat) (a5 : Nat) (a6 : Nat) (a7 : Nat) (a8 : Nat) (a9 : Nat) (a10 : Nat) (a11 : Nat) (a12 : Nat) (a13 : Nat) (a14 : Nat) (a15 : Nat) (a16 : Nat) (a17 : Nat) (a18 : Nat) (a19 : Nat) (a20 : Nat) (a77 : Nat) (a78 : Nat) (a79 : Nat) (a80 : Nat) (a81 : Nat) (a82 : Nat) (a83 : Nat) (a84 : Nat) (a85 : Nat) (a86 : Nat) (a87 : Nat) (a88 : Nat) (sz : Nat) : Met l yX20_triples fw_f_X20_triples ({ frames := 1, cells := 0, slots := 0, locals := 20 }) (va_Pc [.ref a0] (fun U => U.heap.size = sz ∧ va_P (dC, dI) vwCl [(a0, .inr (21, [.ref a1, .ref a2, .ref a3, .ref a4, .ref a5, .ref a6, .ref a7, .ref a8, .int 0, .ref a9, .int 0, .int 0, .ref a10, .ref a11, .int 0, .ref a12, .int 0, .ref a13, .ref a14, .ref a15, .int 0, .ref a16, .ref a17, .int 0, .int 0, .ref a18, .int 0, .ref a19, .ref a20, .int 0])), (a5, .inr (18, [.ref a1, .ref a77, .int 0, .ref a78, .int 0, .ref a79, .ref a80, .ref a81, .ref a82, .ref a83, .int 0, .int 0, .ref a84, .ref a85, .ref a86, .ref a87, .ref a88, .int 0]))] U.heap ∧ va_K (dC, dI) vwCl [] U ∧ va_D (fun _ => True) [(a0, .inr (21, [.ref a1, .ref a2, .ref a3, .ref a4, .ref a5, .ref a6, .ref a7, .ref a8, .int 0, .ref a9, .int 0, .int 0, .ref a10, .ref a11, .int 0, .ref a12, .int 0, .ref a13, .ref a14, .ref a15, .int 0, .ref a16, .ref a17, .int 0, .int 0, .ref a18, .int 0, .ref a19, .ref a20, .int 0])), (a5, .inr (18, [.ref a1, .ref a77, .int 0, .ref a78, .int 0, .ref a79, .ref a80, .ref a81, .ref a82, .ref a83, .int 0, .int 0, .ref a84, .ref a85, .ref a86, .ref a87, .ref a88, .int 0]))] ∧ va_Nw (.fieldLinkNest RX20 367 "TripleStoreModel$Store" "count" "I" "TripleStoreModel") U)) (va_Qi (fun (r : Int32) (_ : Unit) => r = 0) (fun _ t => va_P (dC, dI) vwCl [(a0, .inr (21, [.ref a1, .ref a2, .ref a3, .ref a4, .ref a5, .ref a6, .ref a7, .ref a8, .int 0, .ref a9, .int 0, .int 0, .ref a10, .ref a11, .int 0, .ref a12, .int 0, .ref a13, .ref a14, .ref a15, .int 0, .ref a16, .ref a17, .int 0, .int 0, .ref a18, .int 0, .ref a19, .ref a20, .int 0])), (a5, .inr (18, [.ref a1, .ref a77, .int 0, .ref a78, .int 0, .ref a79, .ref a80, .ref a81, .ref a82, .ref a83, .int 0, .int 0, .ref a84, .ref a85, .ref a86, .ref a87, .ref a88, .int 0]))] t.heap ∧ va_K (dC, dI) vwCl [] t ∧ va_D (va_A [(a0, .inr (21, [.ref a1, .ref a2, .ref a3, .ref a4, .ref a5, .ref a6, .ref a7, .ref a8, .int 0, .ref a9, .int 0, .int 0, .ref a10, .ref a11, .int 0, .ref a12, .int 0, .ref a13, .ref a14, .ref a15, .int 0, .ref a16, .ref a17, .int 0, .int 0, .ref a18, .int 0, .ref a19, .ref a20, .int 0])), (a5, .inr (18, [.ref a1, .ref a77, .int 0, .ref a78, .int 0, .ref a79, .ref a80, .ref a81, .ref a82, .ref a83, .int 0, .int 0, .ref a84, .ref a85, .ref a86, .ref a87, .ref a88, .int 0]))] sz) [(a0, .inr (21, [.ref a1, .ref a2, .ref a3, .ref a4, .ref a5, .ref a6, .ref a7, .ref a8, .int 0, .ref a9, .int 0, .int 0, .ref a10, .ref a11, .int 0, .ref a12, .int 0, .ref a13, .ref a14, .ref a15, .int 0, .ref a16, .ref a17, .int 0, .int 0, .ref a18, .int 0, .ref a19, .ref a20, .int 0])), (a5, .inr (18, [.ref a1, .ref a77, .int 0, .ref a78, .int 0, .ref a79, .ref a80, .ref a81, .ref a82, .ref a83, .int 0, .int 0, .ref a84, .ref a85, .ref a86, .ref a87, .ref a88, .int 0]))]) (va_A [(a0, .inr (21, [.ref a1, .ref a2, .ref a3, .ref a4, .ref a5, .ref a6, .ref a7, .ref a8, .int 0, .ref a9, .int 0, .int 0, .ref a10, .ref a11, .int 0, .ref a12, .int 0, .ref a13, .ref a14, .ref a15, .int 0, .ref a16, .ref a17, .int 0, .int 0, .ref a18, .int 0, .ref a19, .ref a20, .int 0])), (a5, .inr (18, [.ref a1, .ref a77, .int 0, .ref a78, .int 0, .ref a79, .ref a80, .ref a81, .ref a82, .ref a83, .int 0, .int 0, .ref a84, .ref a85, .ref a86, .ref a87, .ref a88, .int 0]))] sz)) 0 0 (va_A [(a0, .inr (21, [.ref a1, .ref a2, .ref a3, .ref a4, .ref a5, .ref a6, .ref a7, .ref a8, .int 0, .ref a9, .int 0, .int 0, .ref a10, .ref a11, .int 0, .ref a12, .int 0, .ref a13, .ref a14, .ref a15, .int 0, .ref a16, .ref a17, .int 0, .int 0, .ref a18, .int 0, .ref a19, .ref a20, .int 0])), (a5, .inr (18, [.ref a1, .ref a77, .int 0, .ref a78, .int 0, .ref a79, .ref a80, .ref a81, .ref a82, .ref a83, .int 0, .int 0, .ref a84, .ref a85, .ref a86, .ref a87, .ref a88, .int 0]))] sz) := by
  refine Met.ofW (cc := cX20_triples) (maxL := 1) (ret := (some .int)) (by decide) rfl ?_
  intro p e s m args below meth c s₁ B hml hv
  obtain ⟨rfl, hsz, hP, hK, hD0, hZ0⟩ := hv
  have hx := B.exec
  have hb := B.bytes
  have hr := B.returns
  have hts := atoms_spec (ws := fw_f_X20_triples) B.pre
  have hown : s.vm.findClass RX20 = some m.cls := findClass_of_methodNamed B.named
  have hlocks := B.notSynchronized
  subst hsz
  have hD := hD0.self (sz := s.heap.size)
  generalize hAe : va_A [(a0, .inr (21, [.ref a1, .ref a2, .ref a3, .ref a4, .ref a5, .ref a6, .ref a7, .ref a8, .int 0, .ref a9, .int 0, .int 0, .ref a10, .ref a11, .int 0, .ref a12, .int 0, .ref a13, .ref a14, .ref a15, .int 0, .ref a16, .ref a17, .int 0, .int 0, .ref a18, .int 0, .ref a19, .ref a20, .int 0])), (a5, .inr (18, [.ref a1, .ref a77, .int 0, .ref a78, .int 0, .ref a79, .ref a80, .ref a81, .ref a82, .ref a83, .int 0, .int 0, .ref a84, .ref a85, .ref a86, .ref a87, .ref a88, .int 0]))] s.heap.size = A at hD ⊢
  have hA : ∀ q : Nat, s.heap.size ≤ q → A q := fun q h => by rw [← hAe]; exact Or.inr h
  obtain ⟨H, hH⟩ : ∃ z, z = s.heap := ⟨_, rfl⟩
  rw [← hH] at hP
  have hS : va_S A s.heap H [] := by rw [hH]; exact va_S.rf
  have hP : va_P (dC, dI) vwCl [(a0, .inr (21, [.ref a1, .ref a2, .ref a3, .ref a4, .ref a5, .ref a6, .ref a7, .ref a8, .int 0, .ref a9, .int 0, .int 0, .ref a10, .ref a11, .int 0, .ref a12, .int 0, .ref a13, .ref a14, .ref a15, .int 0, .ref a16, .ref a17, .int 0, .int 0, .ref a18, .int 0, .ref a19, .ref a20, .int 0])), (a5, .inr (18, [.ref a1, .ref a77, .int 0, .ref a78, .int 0, .ref a79, .ref a80, .ref a81, .ref a82, .ref a83, .int 0, .int 0, .ref a84, .ref a85, .ref a86, .ref a87, .ref a88, .int 0]))] H := hP
  have hl := lv_entry ([.ref a0]) (n := 1) (Nat.le_of_ble_eq_true rfl)
  rw [lg_entry_eq]
  generalize (lg_sl ([.ref a0]) ++ List.replicate (1 - (lg_sl ([.ref a0])).length) Slot.unset).toArray = ls at hl ⊢
  have hl : lv_has ls 1 [(0, .ref a0)] := hl
  rw [← hH]
  refine lv_aload_n hx hb dX20_triples_0 rfl (lv_at hl 0 rfl) ?_
  refine va_get (D := (dC, dI)) (ci := 21) (v := .ref a5) (C := RX20) (T := TX20) (N := 30) hx hb hts in_f_X20_triples_RX20 hown hK hP 0 rfl rfl 4 (by decide) (hts (.fieldLink RX20 42 "TripleStoreModel" "store" "LTripleStoreModel$Store;") (List.mem_of_getElem? (i := 1) rfl)) (fun _ h9 => h9) rfl dX20_triples_1 ?_
  refine va_getN (D := (dC, dI)) (ci := 18) (v := .int 0) (C := RX17) (T := TX17) (N := 18) hx hb hts in_f_X20_triples_RX17 hown hK hP 1 rfl rfl 4 (by decide) (va_Nw.use rfl hZ0) (fun _ h9 => h9) rfl dX20_triples_4 ?_
  exact W.iret (v := 0) hx hb hr (fun t ht hW => ⟨⟨0, (), rfl, rfl, by rw [ht]; exact hP, va_K.moved hW.alike hK, hD⟩, hS.F ht⟩) hS.2.2 dX20_triples_7
def fw_f_X20_said : List Cond := .code yX20_said cX20_said 1 (some .int) :: ([.fieldLink RX20 42 "TripleStoreModel" "store" "LTripleStoreModel$Store;"] ++ wsX200 ++ wsX170)
theorem in_f_X20_said_RX20 : ∀ w ∈ u_ws RX20 TX20 30, w ∈ fw_f_X20_said := fun _ h => List.mem_cons_of_mem _ (List.mem_append_left _ (List.mem_append_right _ h))
theorem in_f_X20_said_RX17 : ∀ w ∈ u_ws RX17 TX17 18, w ∈ fw_f_X20_said := fun _ h => List.mem_cons_of_mem _ (List.mem_append_right _ h)
theorem gd_f_X20_said : (fw_f_X20_said).all goodWord = true := by decide +kernel
set_option maxHeartbeats 4000000 in
set_option maxRecDepth 100000 in
theorem f_X20_said (l : Launch) (dC : Nat → ClassId) (dI : Nat → Nat → Nat) (a0 : Nat) (a1 : Nat) (a2 : Nat) (a3 : Nat) (a4 : Nat) (a5 : Nat) (a6 : Nat) (a7 : Nat) (a8 : Nat) (a9 : Nat) (a10 : Nat) (a11 : Nat) (a12 : Nat) (a13 : Nat) (a14 : Nat) (a15 : Nat) (a16 : Nat) (a17 : Nat) (a18 : Nat) (a19 : Nat) (a20 : Nat) (a77 : Nat) (a78 : Nat) (a79 : Nat) (a80 : Nat) (a81 : Nat) (a82 : Nat) (a83 : Nat) (a84 : Nat) (a85 : Nat) (a86 : Nat) (a87 : Nat) (a88 : Nat) (sz : Nat) : Met l yX20_said fw_f_X20_said ({ frames := 1, cells := 0, slots := 0, locals := 20 }) (va_Pc [.ref a0] (fun U => U.heap.size = sz ∧ va_P (dC, dI) vwCl [(a0, .inr (21, [.ref a1, .ref a2, .ref a3, .ref a4, .ref a5, .ref a6, .ref a7, .ref a8, .int 0, .ref a9, .int 0, .int 0, .ref a10, .ref a11, .int 0, .ref a12, .int 0, .ref a13, .ref a14, .ref a15, .int 0, .ref a16, .ref a17, .int 0, .int 0, .ref a18, .int 0, .ref a19, .ref a20, .int 0])), (a5, .inr (18, [.ref a1, .ref a77, .int 0, .ref a78, .int 0, .ref a79, .ref a80, .ref a81, .ref a82, .ref a83, .int 0, .int 0, .ref a84, .ref a85, .ref a86, .ref a87, .ref a88, .int 0]))] U.heap ∧ va_K (dC, dI) vwCl [] U ∧ va_D (fun _ => True) [(a0, .inr (21, [.ref a1, .ref a2, .ref a3, .ref a4, .ref a5, .ref a6, .ref a7, .ref a8, .int 0, .ref a9, .int 0, .int 0, .ref a10, .ref a11, .int 0, .ref a12, .int 0, .ref a13, .ref a14, .ref a15, .int 0, .ref a16, .ref a17, .int 0, .int 0, .ref a18, .int 0, .ref a19, .ref a20, .int 0])), (a5, .inr (18, [.ref a1, .ref a77, .int 0, .ref a78, .int 0, .ref a79, .ref a80, .ref a81, .ref a82, .ref a83, .int 0, .int 0, .ref a84, .ref a85, .ref a86, .ref a87, .ref a88, .int 0]))] ∧ va_Nw (.fieldLinkNest RX20 230 "TripleStoreModel$Store" "saidCount" "I" "TripleStoreModel") U)) (va_Qi (fun (r : Int32) (_ : Unit) => r = 0) (fun _ t => va_P (dC, dI) vwCl [(a0, .inr (21, [.ref a1, .ref a2, .ref a3, .ref a4, .ref a5, .ref a6, .ref a7, .ref a8, .int 0, .ref a9, .int 0, .int 0, .ref a10, .ref a11, .int 0, .ref a12, .int 0, .ref a13, .ref a14, .ref a15, .int 0, .ref a16, .ref a17, .int 0, .int 0, .ref a18, .int 0, .ref a19, .ref a20, .int 0])), (a5, .inr (18, [.ref a1, .ref a77, .int 0, .ref a78, .int 0, .ref a79, .ref a80, .ref a81, .ref a82, .ref a83, .int 0, .int 0, .ref a84, .ref a85, .ref a86, .ref a87, .ref a88, .int 0]))] t.heap ∧ va_K (dC, dI) vwCl [] t ∧ va_D (va_A [(a0, .inr (21, [.ref a1, .ref a2, .ref a3, .ref a4, .ref a5, .ref a6, .ref a7, .ref a8, .int 0, .ref a9, .int 0, .int 0, .ref a10, .ref a11, .int 0, .ref a12, .int 0, .ref a13, .ref a14, .ref a15, .int 0, .ref a16, .ref a17, .int 0, .int 0, .ref a18, .int 0, .ref a19, .ref a20, .int 0])), (a5, .inr (18, [.ref a1, .ref a77, .int 0, .ref a78, .int 0, .ref a79, .ref a80, .ref a81, .ref a82, .ref a83, .int 0, .int 0, .ref a84, .ref a85, .ref a86, .ref a87, .ref a88, .int 0]))] sz) [(a0, .inr (21, [.ref a1, .ref a2, .ref a3, .ref a4, .ref a5, .ref a6, .ref a7, .ref a8, .int 0, .ref a9, .int 0, .int 0, .ref a10, .ref a11, .int 0, .ref a12, .int 0, .ref a13, .ref a14, .ref a15, .int 0, .ref a16, .ref a17, .int 0, .int 0, .ref a18, .int 0, .ref a19, .ref a20, .int 0])), (a5, .inr (18, [.ref a1, .ref a77, .int 0, .ref a78, .int 0, .ref a79, .ref a80, .ref a81, .ref a82, .ref a83, .int 0, .int 0, .ref a84, .ref a85, .ref a86, .ref a87, .ref a88, .int 0]))]) (va_A [(a0, .inr (21, [.ref a1, .ref a2, .ref a3, .ref a4, .ref a5, .ref a6, .ref a7, .ref a8, .int 0, .ref a9, .int 0, .int 0, .ref a10, .ref a11, .int 0, .ref a12, .int 0, .ref a13, .ref a14, .ref a15, .int 0, .ref a16, .ref a17, .int 0, .int 0, .ref a18, .int 0, .ref a19, .ref a20, .int 0])), (a5, .inr (18, [.ref a1, .ref a77, .int 0, .ref a78, .int 0, .ref a79, .ref a80, .ref a81, .ref a82, .ref a83, .int 0, .int 0, .ref a84, .ref a85, .ref a86, .ref a87, .ref a88, .int 0]))] sz)) 0 0 (va_A [(a0, .inr (21, [.ref a1, .ref a2, .ref a3, .ref a4, .ref a5, .ref a6, .ref a7, .ref a8, .int 0, .ref a9, .int 0, .int 0, .ref a10, .ref a11, .int 0, .ref a12, .int 0, .ref a13, .ref a14, .ref a15, .int 0, .ref a16, .ref a17, .int 0, .int 0, .ref a18, .int 0, .ref a19, .ref a20, .int 0])), (a5, .inr (18, [.ref a1, .ref a77, .int 0, .ref a78, .int 0, .ref a79, .ref a80, .ref a81, .ref a82, .ref a83, .int 0, .int 0, .ref a84, .ref a85, .ref a86, .ref a87, .ref a88, .int 0]))] sz) := by
  refine Met.ofW (cc := cX20_said) (maxL := 1) (ret := (some .int)) (by decide) rfl ?_
  intro p e s m args below meth c s₁ B hml hv
  obtain ⟨rfl, hsz, hP, hK, hD0, hZ0⟩ := hv
  have hx := B.exec
  have hb := B.bytes
  have hr := B.returns
  have hts := atoms_spec (ws := fw_f_X20_said) B.pre
  have hown : s.vm.findClass RX20 = some m.cls := findClass_of_methodNamed B.named
  have hlocks := B.notSynchronized
  subst hsz
  have hD := hD0.self (sz := s.heap.size)
  generalize hAe : va_A [(a0, .inr (21, [.ref a1, .ref a2, .ref a3, .ref a4, .ref a5, .ref a6, .ref a7, .ref a8, .int 0, .ref a9, .int 0, .int 0, .ref a10, .ref a11, .int 0, .ref a12, .int 0, .ref a13, .ref a14, .ref a15, .int 0, .ref a16, .ref a17, .int 0, .int 0, .ref a18, .int 0, .ref a19, .ref a20, .int 0])), (a5, .inr (18, [.ref a1, .ref a77, .int 0, .ref a78, .int 0, .ref a79, .ref a80, .ref a81, .ref a82, .ref a83, .int 0, .int 0, .ref a84, .ref a85, .ref a86, .ref a87, .ref a88, .int 0]))] s.heap.size = A at hD ⊢
  have hA : ∀ q : Nat, s.heap.size ≤ q → A q := fun q h => by rw [← hAe]; exact Or.inr h
  obtain ⟨H, hH⟩ : ∃ z, z = s.heap := ⟨_, rfl⟩
  rw [← hH] at hP
  have hS : va_S A s.heap H [] := by rw [hH]; exact va_S.rf
  have hP : va_P (dC, dI) vwCl [(a0, .inr (21, [.ref a1, .ref a2, .ref a3, .ref a4, .ref a5, .ref a6, .ref a7, .ref a8, .int 0, .ref a9, .int 0, .int 0, .ref a10, .ref a11, .int 0, .ref a12, .int 0, .ref a13, .ref a14, .ref a15, .int 0, .ref a16, .ref a17, .int 0, .int 0, .ref a18, .int 0, .ref a19, .ref a20, .int 0])), (a5, .inr (18, [.ref a1, .ref a77, .int 0, .ref a78, .int 0, .ref a79, .ref a80, .ref a81, .ref a82, .ref a83, .int 0, .int 0, .ref a84, .ref a85, .ref a86, .ref a87, .ref a88, .int 0]))] H := hP
  have hl := lv_entry ([.ref a0]) (n := 1) (Nat.le_of_ble_eq_true rfl)
  rw [lg_entry_eq]
  generalize (lg_sl ([.ref a0]) ++ List.replicate (1 - (lg_sl ([.ref a0])).length) Slot.unset).toArray = ls at hl ⊢
  have hl : lv_has ls 1 [(0, .ref a0)] := hl
  rw [← hH]
  refine lv_aload_n hx hb dX20_said_0 rfl (lv_at hl 0 rfl) ?_
  refine va_get (D := (dC, dI)) (ci := 21) (v := .ref a5) (C := RX20) (T := TX20) (N := 30) hx hb hts in_f_X20_said_RX20 hown hK hP 0 rfl rfl 4 (by decide) (hts (.fieldLink RX20 42 "TripleStoreModel" "store" "LTripleStoreModel$Store;") (List.mem_of_getElem? (i := 1) rfl)) (fun _ h9 => h9) rfl dX20_said_1 ?_
  refine va_getN (D := (dC, dI)) (ci := 18) (v := .int 0) (C := RX17) (T := TX17) (N := 18) hx hb hts in_f_X20_said_RX17 hown hK hP 1 rfl rfl 2 (by decide) (va_Nw.use rfl hZ0) (fun _ h9 => h9) rfl dX20_said_4 ?_
  exact W.iret (v := 0) hx hb hr (fun t ht hW => ⟨⟨0, (), rfl, rfl, by rw [ht]; exact hP, va_K.moved hW.alike hK, hD⟩, hS.F ht⟩) hS.2.2 dX20_said_7
def fw_f_X20_terms : List Cond := .code yX20_terms cX20_terms 1 (some .int) :: ([.fieldLink RX20 10 "TripleStoreModel" "terms" "LTripleStoreModel$Terms;"] ++ wsX200 ++ wsX180)
theorem in_f_X20_terms_RX20 : ∀ w ∈ u_ws RX20 TX20 30, w ∈ fw_f_X20_terms := fun _ h => List.mem_cons_of_mem _ (List.mem_append_left _ (List.mem_append_right _ h))
theorem in_f_X20_terms_RX18 : ∀ w ∈ u_ws RX18 TX18 23, w ∈ fw_f_X20_terms := fun _ h => List.mem_cons_of_mem _ (List.mem_append_right _ h)
theorem gd_f_X20_terms : (fw_f_X20_terms).all goodWord = true := by decide +kernel
set_option maxHeartbeats 4000000 in
set_option maxRecDepth 100000 in
theorem f_X20_terms (l : Launch) (dC : Nat → ClassId) (dI : Nat → Nat → Nat) (a0 : Nat) (a1 : Nat) (a2 : Nat) (a3 : Nat) (a4 : Nat) (a5 : Nat) (a6 : Nat) (a7 : Nat) (a8 : Nat) (a9 : Nat) (a10 : Nat) (a11 : Nat) (a12 : Nat) (a13 : Nat) (a14 : Nat) (a15 : Nat) (a16 : Nat) (a17 : Nat) (a18 : Nat) (a19 : Nat) (a20 : Nat) (a21 : Nat) (a22 : Nat) (a23 : Nat) (a24 : Nat) (a25 : Nat) (a26 : Nat) (a27 : Nat) (a28 : Nat) (a29 : Nat) (a30 : Nat) (sz : Nat) : Met l yX20_terms fw_f_X20_terms ({ frames := 1, cells := 0, slots := 0, locals := 20 }) (va_Pc [.ref a0] (fun U => U.heap.size = sz ∧ va_P (dC, dI) vwCl [(a0, .inr (21, [.ref a1, .ref a2, .ref a3, .ref a4, .ref a5, .ref a6, .ref a7, .ref a8, .int 0, .ref a9, .int 0, .int 0, .ref a10, .ref a11, .int 0, .ref a12, .int 0, .ref a13, .ref a14, .ref a15, .int 0, .ref a16, .ref a17, .int 0, .int 0, .ref a18, .int 0, .ref a19, .ref a20, .int 0])), (a1, .inr (19, [.ref a21, .ref a22, .ref a23, .ref a24, .ref a25, .ref a26, .ref a27, .ref a28, .int 0, .int 0, .int 0, .int 0, .int 0, .int 0, .int 0, .int 0, .long 0, .int 0, .ref a29, .int 0, .int 0, .ref a30, .int 0]))] U.heap ∧ va_K (dC, dI) vwCl [] U ∧ va_D (fun _ => True) [(a0, .inr (21, [.ref a1, .ref a2, .ref a3, .ref a4, .ref a5, .ref a6, .ref a7, .ref a8, .int 0, .ref a9, .int 0, .int 0, .ref a10, .ref a11, .int 0, .ref a12, .int 0, .ref a13, .ref a14, .ref a15, .int 0, .ref a16, .ref a17, .int 0, .int 0, .ref a18, .int 0, .ref a19, .ref a20, .int 0])), (a1, .inr (19, [.ref a21, .ref a22, .ref a23, .ref a24, .ref a25, .ref a26, .ref a27, .ref a28, .int 0, .int 0, .int 0, .int 0, .int 0, .int 0, .int 0, .int 0, .long 0, .int 0, .ref a29, .int 0, .int 0, .ref a30, .int 0]))] ∧ va_Nw (.fieldLinkNest RX20 295 "TripleStoreModel$Terms" "numbered" "I" "TripleStoreModel") U)) (va_Qi (fun (r : Int32) (_ : Unit) => r = 0) (fun _ t => va_P (dC, dI) vwCl [(a0, .inr (21, [.ref a1, .ref a2, .ref a3, .ref a4, .ref a5, .ref a6, .ref a7, .ref a8, .int 0, .ref a9, .int 0, .int 0, .ref a10, .ref a11, .int 0, .ref a12, .int 0, .ref a13, .ref a14, .ref a15, .int 0, .ref a16, .ref a17, .int 0, .int 0, .ref a18, .int 0, .ref a19, .ref a20, .int 0])), (a1, .inr (19, [.ref a21, .ref a22, .ref a23, .ref a24, .ref a25, .ref a26, .ref a27, .ref a28, .int 0, .int 0, .int 0, .int 0, .int 0, .int 0, .int 0, .int 0, .long 0, .int 0, .ref a29, .int 0, .int 0, .ref a30, .int 0]))] t.heap ∧ va_K (dC, dI) vwCl [] t ∧ va_D (va_A [(a0, .inr (21, [.ref a1, .ref a2, .ref a3, .ref a4, .ref a5, .ref a6, .ref a7, .ref a8, .int 0, .ref a9, .int 0, .int 0, .ref a10, .ref a11, .int 0, .ref a12, .int 0, .ref a13, .ref a14, .ref a15, .int 0, .ref a16, .ref a17, .int 0, .int 0, .ref a18, .int 0, .ref a19, .ref a20, .int 0])), (a1, .inr (19, [.ref a21, .ref a22, .ref a23, .ref a24, .ref a25, .ref a26, .ref a27, .ref a28, .int 0, .int 0, .int 0, .int 0, .int 0, .int 0, .int 0, .int 0, .long 0, .int 0, .ref a29, .int 0, .int 0, .ref a30, .int 0]))] sz) [(a0, .inr (21, [.ref a1, .ref a2, .ref a3, .ref a4, .ref a5, .ref a6, .ref a7, .ref a8, .int 0, .ref a9, .int 0, .int 0, .ref a10, .ref a11, .int 0, .ref a12, .int 0, .ref a13, .ref a14, .ref a15, .int 0, .ref a16, .ref a17, .int 0, .int 0, .ref a18, .int 0, .ref a19, .ref a20, .int 0])), (a1, .inr (19, [.ref a21, .ref a22, .ref a23, .ref a24, .ref a25, .ref a26, .ref a27, .ref a28, .int 0, .int 0, .int 0, .int 0, .int 0, .int 0, .int 0, .int 0, .long 0, .int 0, .ref a29, .int 0, .int 0, .ref a30, .int 0]))]) (va_A [(a0, .inr (21, [.ref a1, .ref a2, .ref a3, .ref a4, .ref a5, .ref a6, .ref a7, .ref a8, .int 0, .ref a9, .int 0, .int 0, .ref a10, .ref a11, .int 0, .ref a12, .int 0, .ref a13, .ref a14, .ref a15, .int 0, .ref a16, .ref a17, .int 0, .int 0, .ref a18, .int 0, .ref a19, .ref a20, .int 0])), (a1, .inr (19, [.ref a21, .ref a22, .ref a23, .ref a24, .ref a25, .ref a26, .ref a27, .ref a28, .int 0, .int 0, .int 0, .int 0, .int 0, .int 0, .int 0, .int 0, .long 0, .int 0, .ref a29, .int 0, .int 0, .ref a30, .int 0]))] sz)) 0 0 (va_A [(a0, .inr (21, [.ref a1, .ref a2, .ref a3, .ref a4, .ref a5, .ref a6, .ref a7, .ref a8, .int 0, .ref a9, .int 0, .int 0, .ref a10, .ref a11, .int 0, .ref a12, .int 0, .ref a13, .ref a14, .ref a15, .int 0, .ref a16, .ref a17, .int 0, .int 0, .ref a18, .int 0, .ref a19, .ref a20, .int 0])), (a1, .inr (19, [.ref a21, .ref a22, .ref a23, .ref a24, .ref a25, .ref a26, .ref a27, .ref a28, .int 0, .int 0, .int 0, .int 0, .int 0, .int 0, .int 0, .int 0, .long 0, .int 0, .ref a29, .int 0, .int 0, .ref a30, .int 0]))] sz) := by
  refine Met.ofW (cc := cX20_terms) (maxL := 1) (ret := (some .int)) (by decide) rfl ?_
  intro p e s m args below meth c s₁ B hml hv
  obtain ⟨rfl, hsz, hP, hK, hD0, hZ0⟩ := hv
  have hx := B.exec
  have hb := B.bytes
  have hr := B.returns
  have hts := atoms_spec (ws := fw_f_X20_terms) B.pre
  have hown : s.vm.findClass RX20 = some m.cls := findClass_of_methodNamed B.named
  have hlocks := B.notSynchronized
  subst hsz
  have hD := hD0.self (sz := s.heap.size)
  generalize hAe : va_A [(a0, .inr (21, [.ref a1, .ref a2, .ref a3, .ref a4, .ref a5, .ref a6, .ref a7, .ref a8, .int 0, .ref a9, .int 0, .int 0, .ref a10, .ref a11, .int 0, .ref a12, .int 0, .ref a13, .ref a14, .ref a15, .int 0, .ref a16, .ref a17, .int 0, .int 0, .ref a18, .int 0, .ref a19, .ref a20, .int 0])), (a1, .inr (19, [.ref a21, .ref a22, .ref a23, .ref a24, .ref a25, .ref a26, .ref a27, .ref a28, .int 0, .int 0, .int 0, .int 0, .int 0, .int 0, .int 0, .int 0, .long 0, .int 0, .ref a29, .int 0, .int 0, .ref a30, .int 0]))] s.heap.size = A at hD ⊢
  have hA : ∀ q : Nat, s.heap.size ≤ q → A q := fun q h => by rw [← hAe]; exact Or.inr h
  obtain ⟨H, hH⟩ : ∃ z, z = s.heap := ⟨_, rfl⟩
  rw [← hH] at hP
  have hS : va_S A s.heap H [] := by rw [hH]; exact va_S.rf
  have hP : va_P (dC, dI) vwCl [(a0, .inr (21, [.ref a1, .ref a2, .ref a3, .ref a4, .ref a5, .ref a6, .ref a7, .ref a8, .int 0, .ref a9, .int 0, .int 0, .ref a10, .ref a11, .int 0, .ref a12, .int 0, .ref a13, .ref a14, .ref a15, .int 0, .ref a16, .ref a17, .int 0, .int 0, .ref a18, .int 0, .ref a19, .ref a20, .int 0])), (a1, .inr (19, [.ref a21, .ref a22, .ref a23, .ref a24, .ref a25, .ref a26, .ref a27, .ref a28, .int 0, .int 0, .int 0, .int 0, .int 0, .int 0, .int 0, .int 0, .long 0, .int 0, .ref a29, .int 0, .int 0, .ref a30, .int 0]))] H := hP
  have hl := lv_entry ([.ref a0]) (n := 1) (Nat.le_of_ble_eq_true rfl)
  rw [lg_entry_eq]
  generalize (lg_sl ([.ref a0]) ++ List.replicate (1 - (lg_sl ([.ref a0])).length) Slot.unset).toArray = ls at hl ⊢
  have hl : lv_has ls 1 [(0, .ref a0)] := hl
  rw [← hH]
  refine lv_aload_n hx hb dX20_terms_0 rfl (lv_at hl 0 rfl) ?_
  refine va_get (D := (dC, dI)) (ci := 21) (v := .ref a1) (C := RX20) (T := TX20) (N := 30) hx hb hts in_f_X20_terms_RX20 hown hK hP 0 rfl rfl 0 (by decide) (hts (.fieldLink RX20 10 "TripleStoreModel" "terms" "LTripleStoreModel$Terms;") (List.mem_of_getElem? (i := 1) rfl)) (fun _ h9 => h9) rfl dX20_terms_1 ?_
  refine va_getN (D := (dC, dI)) (ci := 19) (v := .int 0) (C := RX18) (T := TX18) (N := 23) hx hb hts in_f_X20_terms_RX18 hown hK hP 1 rfl rfl 8 (by decide) (va_Nw.use rfl hZ0) (fun _ h9 => h9) rfl dX20_terms_4 ?_
  exact W.iret (v := 0) hx hb hr (fun t ht hW => ⟨⟨0, (), rfl, rfl, by rw [ht]; exact hP, va_K.moved hW.alike hK, hD⟩, hS.F ht⟩) hS.2.2 dX20_terms_7
def fw_f_X20_rules : List Cond := .code yX20_rules cX20_rules 1 (some .int) :: ([.fieldLink RX20 42 "TripleStoreModel" "store" "LTripleStoreModel$Store;"] ++ wsX200 ++ wsX170)
theorem in_f_X20_rules_RX20 : ∀ w ∈ u_ws RX20 TX20 30, w ∈ fw_f_X20_rules := fun _ h => List.mem_cons_of_mem _ (List.mem_append_left _ (List.mem_append_right _ h))
theorem in_f_X20_rules_RX17 : ∀ w ∈ u_ws RX17 TX17 18, w ∈ fw_f_X20_rules := fun _ h => List.mem_cons_of_mem _ (List.mem_append_right _ h)
theorem gd_f_X20_rules : (fw_f_X20_rules).all goodWord = true := by decide +kernel
set_option maxHeartbeats 4000000 in
set_option maxRecDepth 100000 in
theorem f_X20_rules (l : Launch) (dC : Nat → ClassId) (dI : Nat → Nat → Nat) (a0 : Nat) (a1 : Nat) (a2 : Nat) (a3 : Nat) (a4 : Nat) (a5 : Nat) (a6 : Nat) (a7 : Nat) (a8 : Nat) (a9 : Nat) (a10 : Nat) (a11 : Nat) (a12 : Nat) (a13 : Nat) (a14 : Nat) (a15 : Nat) (a16 : Nat) (a17 : Nat) (a18 : Nat) (a19 : Nat) (a20 : Nat) (a77 : Nat) (a78 : Nat) (a79 : Nat) (a80 : Nat) (a81 : Nat) (a82 : Nat) (a83 : Nat) (a84 : Nat) (a85 : Nat) (a86 : Nat) (a87 : Nat) (a88 : Nat) (sz : Nat) : Met l yX20_rules fw_f_X20_rules ({ frames := 1, cells := 0, slots := 0, locals := 20 }) (va_Pc [.ref a0] (fun U => U.heap.size = sz ∧ va_P (dC, dI) vwCl [(a0, .inr (21, [.ref a1, .ref a2, .ref a3, .ref a4, .ref a5, .ref a6, .ref a7, .ref a8, .int 0, .ref a9, .int 0, .int 0, .ref a10, .ref a11, .int 0, .ref a12, .int 0, .ref a13, .ref a14, .ref a15, .int 0, .ref a16, .ref a17, .int 0, .int 0, .ref a18, .int 0, .ref a19, .ref a20, .int 0])), (a5, .inr (18, [.ref a1, .ref a77, .int 0, .ref a78, .int 0, .ref a79, .ref a80, .ref a81, .ref a82, .ref a83, .int 0, .int 0, .ref a84, .ref a85, .ref a86, .ref a87, .ref a88, .int 0]))] U.heap ∧ va_K (dC, dI) vwCl [] U ∧ va_D (fun _ => True) [(a0, .inr (21, [.ref a1, .ref a2, .ref a3, .ref a4, .ref a5, .ref a6, .ref a7, .ref a8, .int 0, .ref a9, .int 0, .int 0, .ref a10, .ref a11, .int 0, .ref a12, .int 0, .ref a13, .ref a14, .ref a15, .int 0, .ref a16, .ref a17, .int 0, .int 0, .ref a18, .int 0, .ref a19, .ref a20, .int 0])), (a5, .inr (18, [.ref a1, .ref a77, .int 0, .ref a78, .int 0, .ref a79, .ref a80, .ref a81, .ref a82, .ref a83, .int 0, .int 0, .ref a84, .ref a85, .ref a86, .ref a87, .ref a88, .int 0]))] ∧ va_Nw (.fieldLinkNest RX20 220 "TripleStoreModel$Store" "rules" "I" "TripleStoreModel") U)) (va_Qi (fun (r : Int32) (_ : Unit) => r = 0) (fun _ t => va_P (dC, dI) vwCl [(a0, .inr (21, [.ref a1, .ref a2, .ref a3, .ref a4, .ref a5, .ref a6, .ref a7, .ref a8, .int 0, .ref a9, .int 0, .int 0, .ref a10, .ref a11, .int 0, .ref a12, .int 0, .ref a13, .ref a14, .ref a15, .int 0, .ref a16, .ref a17, .int 0, .int 0, .ref a18, .int 0, .ref a19, .ref a20, .int 0])), (a5, .inr (18, [.ref a1, .ref a77, .int 0, .ref a78, .int 0, .ref a79, .ref a80, .ref a81, .ref a82, .ref a83, .int 0, .int 0, .ref a84, .ref a85, .ref a86, .ref a87, .ref a88, .int 0]))] t.heap ∧ va_K (dC, dI) vwCl [] t ∧ va_D (va_A [(a0, .inr (21, [.ref a1, .ref a2, .ref a3, .ref a4, .ref a5, .ref a6, .ref a7, .ref a8, .int 0, .ref a9, .int 0, .int 0, .ref a10, .ref a11, .int 0, .ref a12, .int 0, .ref a13, .ref a14, .ref a15, .int 0, .ref a16, .ref a17, .int 0, .int 0, .ref a18, .int 0, .ref a19, .ref a20, .int 0])), (a5, .inr (18, [.ref a1, .ref a77, .int 0, .ref a78, .int 0, .ref a79, .ref a80, .ref a81, .ref a82, .ref a83, .int 0, .int 0, .ref a84, .ref a85, .ref a86, .ref a87, .ref a88, .int 0]))] sz) [(a0, .inr (21, [.ref a1, .ref a2, .ref a3, .ref a4, .ref a5, .ref a6, .ref a7, .ref a8, .int 0, .ref a9, .int 0, .int 0, .ref a10, .ref a11, .int 0, .ref a12, .int 0, .ref a13, .ref a14, .ref a15, .int 0, .ref a16, .ref a17, .int 0, .int 0, .ref a18, .int 0, .ref a19, .ref a20, .int 0])), (a5, .inr (18, [.ref a1, .ref a77, .int 0, .ref a78, .int 0, .ref a79, .ref a80, .ref a81, .ref a82, .ref a83, .int 0, .int 0, .ref a84, .ref a85, .ref a86, .ref a87, .ref a88, .int 0]))]) (va_A [(a0, .inr (21, [.ref a1, .ref a2, .ref a3, .ref a4, .ref a5, .ref a6, .ref a7, .ref a8, .int 0, .ref a9, .int 0, .int 0, .ref a10, .ref a11, .int 0, .ref a12, .int 0, .ref a13, .ref a14, .ref a15, .int 0, .ref a16, .ref a17, .int 0, .int 0, .ref a18, .int 0, .ref a19, .ref a20, .int 0])), (a5, .inr (18, [.ref a1, .ref a77, .int 0, .ref a78, .int 0, .ref a79, .ref a80, .ref a81, .ref a82, .ref a83, .int 0, .int 0, .ref a84, .ref a85, .ref a86, .ref a87, .ref a88, .int 0]))] sz)) 0 0 (va_A [(a0, .inr (21, [.ref a1, .ref a2, .ref a3, .ref a4, .ref a5, .ref a6, .ref a7, .ref a8, .int 0, .ref a9, .int 0, .int 0, .ref a10, .ref a11, .int 0, .ref a12, .int 0, .ref a13, .ref a14, .ref a15, .int 0, .ref a16, .ref a17, .int 0, .int 0, .ref a18, .int 0, .ref a19, .ref a20, .int 0])), (a5, .inr (18, [.ref a1, .ref a77, .int 0, .ref a78, .int 0, .ref a79, .ref a80, .ref a81, .ref a82, .ref a83, .int 0, .int 0, .ref a84, .ref a85, .ref a86, .ref a87, .ref a88, .int 0]))] sz) := by
  refine Met.ofW (cc := cX20_rules) (maxL := 1) (ret := (some .int)) (by decide) rfl ?_
  intro p e s m args below meth c s₁ B hml hv
  obtain ⟨rfl, hsz, hP, hK, hD0, hZ0⟩ := hv
  have hx := B.exec
  have hb := B.bytes
  have hr := B.returns
  have hts := atoms_spec (ws := fw_f_X20_rules) B.pre
  have hown : s.vm.findClass RX20 = some m.cls := findClass_of_methodNamed B.named
  have hlocks := B.notSynchronized
  subst hsz
  have hD := hD0.self (sz := s.heap.size)
  generalize hAe : va_A [(a0, .inr (21, [.ref a1, .ref a2, .ref a3, .ref a4, .ref a5, .ref a6, .ref a7, .ref a8, .int 0, .ref a9, .int 0, .int 0, .ref a10, .ref a11, .int 0, .ref a12, .int 0, .ref a13, .ref a14, .ref a15, .int 0, .ref a16, .ref a17, .int 0, .int 0, .ref a18, .int 0, .ref a19, .ref a20, .int 0])), (a5, .inr (18, [.ref a1, .ref a77, .int 0, .ref a78, .int 0, .ref a79, .ref a80, .ref a81, .ref a82, .ref a83, .int 0, .int 0, .ref a84, .ref a85, .ref a86, .ref a87, .ref a88, .int 0]))] s.heap.size = A at hD ⊢
  have hA : ∀ q : Nat, s.heap.size ≤ q → A q := fun q h => by rw [← hAe]; exact Or.inr h
  obtain ⟨H, hH⟩ : ∃ z, z = s.heap := ⟨_, rfl⟩
  rw [← hH] at hP
  have hS : va_S A s.heap H [] := by rw [hH]; exact va_S.rf
  have hP : va_P (dC, dI) vwCl [(a0, .inr (21, [.ref a1, .ref a2, .ref a3, .ref a4, .ref a5, .ref a6, .ref a7, .ref a8, .int 0, .ref a9, .int 0, .int 0, .ref a10, .ref a11, .int 0, .ref a12, .int 0, .ref a13, .ref a14, .ref a15, .int 0, .ref a16, .ref a17, .int 0, .int 0, .ref a18, .int 0, .ref a19, .ref a20, .int 0])), (a5, .inr (18, [.ref a1, .ref a77, .int 0, .ref a78, .int 0, .ref a79, .ref a80, .ref a81, .ref a82, .ref a83, .int 0, .int 0, .ref a84, .ref a85, .ref a86, .ref a87, .ref a88, .int 0]))] H := hP
  have hl := lv_entry ([.ref a0]) (n := 1) (Nat.le_of_ble_eq_true rfl)
  rw [lg_entry_eq]
  generalize (lg_sl ([.ref a0]) ++ List.replicate (1 - (lg_sl ([.ref a0])).length) Slot.unset).toArray = ls at hl ⊢
  have hl : lv_has ls 1 [(0, .ref a0)] := hl
  rw [← hH]
  refine lv_aload_n hx hb dX20_rules_0 rfl (lv_at hl 0 rfl) ?_
  refine va_get (D := (dC, dI)) (ci := 21) (v := .ref a5) (C := RX20) (T := TX20) (N := 30) hx hb hts in_f_X20_rules_RX20 hown hK hP 0 rfl rfl 4 (by decide) (hts (.fieldLink RX20 42 "TripleStoreModel" "store" "LTripleStoreModel$Store;") (List.mem_of_getElem? (i := 1) rfl)) (fun _ h9 => h9) rfl dX20_rules_1 ?_
  refine va_getN (D := (dC, dI)) (ci := 18) (v := .int 0) (C := RX17) (T := TX17) (N := 18) hx hb hts in_f_X20_rules_RX17 hown hK hP 1 rfl rfl 10 (by decide) (va_Nw.use rfl hZ0) (fun _ h9 => h9) rfl dX20_rules_4 ?_
  exact W.iret (v := 0) hx hb hr (fun t ht hW => ⟨⟨0, (), rfl, rfl, by rw [ht]; exact hP, va_K.moved hW.alike hK, hD⟩, hS.F ht⟩) hS.2.2 dX20_rules_7
def fw_f_X20_term : List Cond := .code yX20_term cX20_term 2 (some .int) :: ([.fieldLink RX20 10 "TripleStoreModel" "terms" "LTripleStoreModel$Terms;"] ++ wsX200 ++ wsX180)
theorem in_f_X20_term_RX20 : ∀ w ∈ u_ws RX20 TX20 30, w ∈ fw_f_X20_term := fun _ h => List.mem_cons_of_mem _ (List.mem_append_left _ (List.mem_append_right _ h))
theorem in_f_X20_term_RX18 : ∀ w ∈ u_ws RX18 TX18 23, w ∈ fw_f_X20_term := fun _ h => List.mem_cons_of_mem _ (List.mem_append_right _ h)
theorem gd_f_X20_term : (fw_f_X20_term).all goodWord = true := by decide +kernel
set_option maxHeartbeats 4000000 in
set_option maxRecDepth 100000 in
theorem f_X20_term (l : Launch) (dC : Nat → ClassId) (dI : Nat → Nat → Nat) (a0 : Nat) (a1 : Nat) (a2 : Nat) (a3 : Nat) (a4 : Nat) (a5 : Nat) (a6 : Nat) (a7 : Nat) (a8 : Nat) (a9 : Nat) (a10 : Nat) (a11 : Nat) (a12 : Nat) (a13 : Nat) (a14 : Nat) (a15 : Nat) (a16 : Nat) (a17 : Nat) (a18 : Nat) (a19 : Nat) (a20 : Nat) (a21 : Nat) (a22 : Nat) (a23 : Nat) (a24 : Nat) (a25 : Nat) (a26 : Nat) (a27 : Nat) (a28 : Nat) (a29 : Nat) (a30 : Nat) (x0 : Int32) (sz : Nat) : Met l yX20_term fw_f_X20_term ({ frames := 1, cells := 0, slots := 0, locals := 20 }) (va_Pc [.ref a0, .int x0] (fun U => U.heap.size = sz ∧ va_P (dC, dI) vwCl [(a0, .inr (21, [.ref a1, .ref a2, .ref a3, .ref a4, .ref a5, .ref a6, .ref a7, .ref a8, .int 0, .ref a9, .int 0, .int 0, .ref a10, .ref a11, .int 0, .ref a12, .int 0, .ref a13, .ref a14, .ref a15, .int 0, .ref a16, .ref a17, .int 0, .int 0, .ref a18, .int 0, .ref a19, .ref a20, .int 0])), (a1, .inr (19, [.ref a21, .ref a22, .ref a23, .ref a24, .ref a25, .ref a26, .ref a27, .ref a28, .int 0, .int 0, .int 0, .int 0, .int 0, .int 0, .int 0, .int 0, .long 0, .int 0, .ref a29, .int 0, .int 0, .ref a30, .int 0]))] U.heap ∧ va_K (dC, dI) vwCl [] U ∧ va_D (fun _ => True) [(a0, .inr (21, [.ref a1, .ref a2, .ref a3, .ref a4, .ref a5, .ref a6, .ref a7, .ref a8, .int 0, .ref a9, .int 0, .int 0, .ref a10, .ref a11, .int 0, .ref a12, .int 0, .ref a13, .ref a14, .ref a15, .int 0, .ref a16, .ref a17, .int 0, .int 0, .ref a18, .int 0, .ref a19, .ref a20, .int 0])), (a1, .inr (19, [.ref a21, .ref a22, .ref a23, .ref a24, .ref a25, .ref a26, .ref a27, .ref a28, .int 0, .int 0, .int 0, .int 0, .int 0, .int 0, .int 0, .int 0, .long 0, .int 0, .ref a29, .int 0, .int 0, .ref a30, .int 0]))] ∧ va_Nw (.fieldLinkNest RX20 295 "TripleStoreModel$Terms" "numbered" "I" "TripleStoreModel") U)) (va_Qi (fun (r : Int32) (_ : Unit) => r = -1) (fun _ _ => True) (va_A [(a0, .inr (21, [.ref a1, .ref a2, .ref a3, .ref a4, .ref a5, .ref a6, .ref a7, .ref a8, .int 0, .ref a9, .int 0, .int 0, .ref a10, .ref a11, .int 0, .ref a12, .int 0, .ref a13, .ref a14, .ref a15, .int 0, .ref a16, .ref a17, .int 0, .int 0, .ref a18, .int 0, .ref a19, .ref a20, .int 0])), (a1, .inr (19, [.ref a21, .ref a22, .ref a23, .ref a24, .ref a25, .ref a26, .ref a27, .ref a28, .int 0, .int 0, .int 0, .int 0, .int 0, .int 0, .int 0, .int 0, .long 0, .int 0, .ref a29, .int 0, .int 0, .ref a30, .int 0]))] sz)) 0 0 (va_A [(a0, .inr (21, [.ref a1, .ref a2, .ref a3, .ref a4, .ref a5, .ref a6, .ref a7, .ref a8, .int 0, .ref a9, .int 0, .int 0, .ref a10, .ref a11, .int 0, .ref a12, .int 0, .ref a13, .ref a14, .ref a15, .int 0, .ref a16, .ref a17, .int 0, .int 0, .ref a18, .int 0, .ref a19, .ref a20, .int 0])), (a1, .inr (19, [.ref a21, .ref a22, .ref a23, .ref a24, .ref a25, .ref a26, .ref a27, .ref a28, .int 0, .int 0, .int 0, .int 0, .int 0, .int 0, .int 0, .int 0, .long 0, .int 0, .ref a29, .int 0, .int 0, .ref a30, .int 0]))] sz) := by
  refine Met.ofW (cc := cX20_term) (maxL := 2) (ret := (some .int)) (by decide) rfl ?_
  intro p e s m args below meth c s₁ B hml hv
  obtain ⟨rfl, hsz, hP, hK, hD0, hZ0⟩ := hv
  have hx := B.exec
  have hb := B.bytes
  have hr := B.returns
  have hts := atoms_spec (ws := fw_f_X20_term) B.pre
  have hown : s.vm.findClass RX20 = some m.cls := findClass_of_methodNamed B.named
  have hlocks := B.notSynchronized
  subst hsz
  have hD := hD0.self (sz := s.heap.size)
  generalize hAe : va_A [(a0, .inr (21, [.ref a1, .ref a2, .ref a3, .ref a4, .ref a5, .ref a6, .ref a7, .ref a8, .int 0, .ref a9, .int 0, .int 0, .ref a10, .ref a11, .int 0, .ref a12, .int 0, .ref a13, .ref a14, .ref a15, .int 0, .ref a16, .ref a17, .int 0, .int 0, .ref a18, .int 0, .ref a19, .ref a20, .int 0])), (a1, .inr (19, [.ref a21, .ref a22, .ref a23, .ref a24, .ref a25, .ref a26, .ref a27, .ref a28, .int 0, .int 0, .int 0, .int 0, .int 0, .int 0, .int 0, .int 0, .long 0, .int 0, .ref a29, .int 0, .int 0, .ref a30, .int 0]))] s.heap.size = A at hD ⊢
  have hA : ∀ q : Nat, s.heap.size ≤ q → A q := fun q h => by rw [← hAe]; exact Or.inr h
  obtain ⟨H, hH⟩ : ∃ z, z = s.heap := ⟨_, rfl⟩
  rw [← hH] at hP
  have hS : va_S A s.heap H [] := by rw [hH]; exact va_S.rf
  have hP : va_P (dC, dI) vwCl [(a0, .inr (21, [.ref a1, .ref a2, .ref a3, .ref a4, .ref a5, .ref a6, .ref a7, .ref a8, .int 0, .ref a9, .int 0, .int 0, .ref a10, .ref a11, .int 0, .ref a12, .int 0, .ref a13, .ref a14, .ref a15, .int 0, .ref a16, .ref a17, .int 0, .int 0, .ref a18, .int 0, .ref a19, .ref a20, .int 0])), (a1, .inr (19, [.ref a21, .ref a22, .ref a23, .ref a24, .ref a25, .ref a26, .ref a27, .ref a28, .int 0, .int 0, .int 0, .int 0, .int 0, .int 0, .int 0, .int 0, .long 0, .int 0, .ref a29, .int 0, .int 0, .ref a30, .int 0]))] H := hP
  have hl := lv_entry ([.ref a0, .int x0]) (n := 2) (Nat.le_of_ble_eq_true rfl)
  rw [lg_entry_eq]
  generalize (lg_sl ([.ref a0, .int x0]) ++ List.replicate (2 - (lg_sl ([.ref a0, .int x0])).length) Slot.unset).toArray = ls at hl ⊢
  have hl : lv_has ls 2 [(0, .ref a0), (1, .int x0)] := hl
  rw [← hH]
  refine lv_iload_n hx hb dX20_term_0 rfl (lv_at hl 1 rfl) ?_
  refine lv_iconst (v := 1) hx hb dX20_term_1 (by decide) ?_
  refine lv_icmp_lt (tgt := 16) hx hb dX20_term_2 (by decide) (fun c_2 => ?_) (fun c_2 => ?_)
  · refine lv_iconst (v := (-1)) hx hb dX20_term_16 (by decide) ?_
    refine W.widen (k := 0) (n := 0) (Nat.le_of_ble_eq_true rfl) (Nat.le_of_ble_eq_true rfl) ?_
    exact W.iret (v := (-1)) hx hb hr (fun t ht hW => ⟨⟨(-1), (), rfl, rfl, trivial⟩, hS.F ht⟩) hS.2.2 dX20_term_17
  · refine lv_iload_n hx hb dX20_term_5 rfl (lv_at hl 1 rfl) ?_
    refine lv_aload_n hx hb dX20_term_6 rfl (lv_at hl 0 rfl) ?_
    refine va_get (D := (dC, dI)) (ci := 21) (v := .ref a1) (C := RX20) (T := TX20) (N := 30) hx hb hts in_f_X20_term_RX20 hown hK hP 0 rfl rfl 0 (by decide) (hts (.fieldLink RX20 10 "TripleStoreModel" "terms" "LTripleStoreModel$Terms;") (List.mem_of_getElem? (i := 1) rfl)) (fun _ h9 => h9) rfl dX20_term_7 ?_
    refine va_getN (D := (dC, dI)) (ci := 19) (v := .int 0) (C := RX18) (T := TX18) (N := 23) hx hb hts in_f_X20_term_RX18 hown hK hP 1 rfl rfl 8 (by decide) (va_Nw.use rfl hZ0) (fun _ h9 => h9) rfl dX20_term_10 ?_
    refine lv_icmp_le (tgt := 18) hx hb dX20_term_13 (by decide) (fun c_13 => ?_) (fun c_13 => ?_)
    · exact absurd c_13 (k_pos c_2)
    · refine lv_iconst (v := (-1)) hx hb dX20_term_16 (by decide) ?_
      refine W.widen (k := 0) (n := 0) (Nat.le_of_ble_eq_true rfl) (Nat.le_of_ble_eq_true rfl) ?_
      exact W.iret (v := (-1)) hx hb hr (fun t ht hW => ⟨⟨(-1), (), rfl, rfl, trivial⟩, hS.F ht⟩) hS.2.2 dX20_term_17
def fw_f_X20_find : List Cond := .code yX20_find cX20_find 5 (some .int) :: ([.fieldLink RX20 42 "TripleStoreModel" "store" "LTripleStoreModel$Store;"] ++ wsX200 ++ wsX170)
theorem in_f_X20_find_RX20 : ∀ w ∈ u_ws RX20 TX20 30, w ∈ fw_f_X20_find := fun _ h => List.mem_cons_of_mem _ (List.mem_append_left _ (List.mem_append_right _ h))
theorem in_f_X20_find_RX17 : ∀ w ∈ u_ws RX17 TX17 18, w ∈ fw_f_X20_find := fun _ h => List.mem_cons_of_mem _ (List.mem_append_right _ h)
theorem gd_f_X20_find : (fw_f_X20_find).all goodWord = true := by decide +kernel
set_option maxHeartbeats 4000000 in
set_option maxRecDepth 100000 in
theorem f_X20_find (l : Launch) (dC : Nat → ClassId) (dI : Nat → Nat → Nat) (a0 : Nat) (a1 : Nat) (a2 : Nat) (a3 : Nat) (a4 : Nat) (a5 : Nat) (a6 : Nat) (a7 : Nat) (a8 : Nat) (a9 : Nat) (a10 : Nat) (a11 : Nat) (a12 : Nat) (a13 : Nat) (a14 : Nat) (a15 : Nat) (a16 : Nat) (a17 : Nat) (a18 : Nat) (a19 : Nat) (a20 : Nat) (a77 : Nat) (a78 : Nat) (a79 : Nat) (a80 : Nat) (a81 : Nat) (a82 : Nat) (a83 : Nat) (a84 : Nat) (a85 : Nat) (a86 : Nat) (a87 : Nat) (a88 : Nat) (x0 : Int32) (x1 : Int32) (x2 : Int32) (sz : Nat) : Met l yX20_find fw_f_X20_find ({ frames := 1, cells := 0, slots := 0, locals := 20 }) (va_Pc [.ref a0, .int x0, .int x1, .int x2] (fun U => U.heap.size = sz ∧ va_P (dC, dI) vwCl [(a0, .inr (21, [.ref a1, .ref a2, .ref a3, .ref a4, .ref a5, .ref a6, .ref a7, .ref a8, .int 0, .ref a9, .int 0, .int 0, .ref a10, .ref a11, .int 0, .ref a12, .int 0, .ref a13, .ref a14, .ref a15, .int 0, .ref a16, .ref a17, .int 0, .int 0, .ref a18, .int 0, .ref a19, .ref a20, .int 0])), (a5, .inr (18, [.ref a1, .ref a77, .int 0, .ref a78, .int 0, .ref a79, .ref a80, .ref a81, .ref a82, .ref a83, .int 0, .int 0, .ref a84, .ref a85, .ref a86, .ref a87, .ref a88, .int 0]))] U.heap ∧ va_K (dC, dI) vwCl [] U ∧ va_D (fun _ => True) [(a0, .inr (21, [.ref a1, .ref a2, .ref a3, .ref a4, .ref a5, .ref a6, .ref a7, .ref a8, .int 0, .ref a9, .int 0, .int 0, .ref a10, .ref a11, .int 0, .ref a12, .int 0, .ref a13, .ref a14, .ref a15, .int 0, .ref a16, .ref a17, .int 0, .int 0, .ref a18, .int 0, .ref a19, .ref a20, .int 0])), (a5, .inr (18, [.ref a1, .ref a77, .int 0, .ref a78, .int 0, .ref a79, .ref a80, .ref a81, .ref a82, .ref a83, .int 0, .int 0, .ref a84, .ref a85, .ref a86, .ref a87, .ref a88, .int 0]))] ∧ va_Nw (.fieldLinkNest RX20 367 "TripleStoreModel$Store" "count" "I" "TripleStoreModel") U)) (va_Qi (fun (r : Int32) (_ : Unit) => r = -1) (fun _ _ => True) (va_A [(a0, .inr (21, [.ref a1, .ref a2, .ref a3, .ref a4, .ref a5, .ref a6, .ref a7, .ref a8, .int 0, .ref a9, .int 0, .int 0, .ref a10, .ref a11, .int 0, .ref a12, .int 0, .ref a13, .ref a14, .ref a15, .int 0, .ref a16, .ref a17, .int 0, .int 0, .ref a18, .int 0, .ref a19, .ref a20, .int 0])), (a5, .inr (18, [.ref a1, .ref a77, .int 0, .ref a78, .int 0, .ref a79, .ref a80, .ref a81, .ref a82, .ref a83, .int 0, .int 0, .ref a84, .ref a85, .ref a86, .ref a87, .ref a88, .int 0]))] sz)) 0 0 (va_A [(a0, .inr (21, [.ref a1, .ref a2, .ref a3, .ref a4, .ref a5, .ref a6, .ref a7, .ref a8, .int 0, .ref a9, .int 0, .int 0, .ref a10, .ref a11, .int 0, .ref a12, .int 0, .ref a13, .ref a14, .ref a15, .int 0, .ref a16, .ref a17, .int 0, .int 0, .ref a18, .int 0, .ref a19, .ref a20, .int 0])), (a5, .inr (18, [.ref a1, .ref a77, .int 0, .ref a78, .int 0, .ref a79, .ref a80, .ref a81, .ref a82, .ref a83, .int 0, .int 0, .ref a84, .ref a85, .ref a86, .ref a87, .ref a88, .int 0]))] sz) := by
  refine Met.ofW (cc := cX20_find) (maxL := 5) (ret := (some .int)) (by decide) rfl ?_
  intro p e s m args below meth c s₁ B hml hv
  obtain ⟨rfl, hsz, hP, hK, hD0, hZ0⟩ := hv
  have hx := B.exec
  have hb := B.bytes
  have hr := B.returns
  have hts := atoms_spec (ws := fw_f_X20_find) B.pre
  have hown : s.vm.findClass RX20 = some m.cls := findClass_of_methodNamed B.named
  have hlocks := B.notSynchronized
  subst hsz
  have hD := hD0.self (sz := s.heap.size)
  generalize hAe : va_A [(a0, .inr (21, [.ref a1, .ref a2, .ref a3, .ref a4, .ref a5, .ref a6, .ref a7, .ref a8, .int 0, .ref a9, .int 0, .int 0, .ref a10, .ref a11, .int 0, .ref a12, .int 0, .ref a13, .ref a14, .ref a15, .int 0, .ref a16, .ref a17, .int 0, .int 0, .ref a18, .int 0, .ref a19, .ref a20, .int 0])), (a5, .inr (18, [.ref a1, .ref a77, .int 0, .ref a78, .int 0, .ref a79, .ref a80, .ref a81, .ref a82, .ref a83, .int 0, .int 0, .ref a84, .ref a85, .ref a86, .ref a87, .ref a88, .int 0]))] s.heap.size = A at hD ⊢
  have hA : ∀ q : Nat, s.heap.size ≤ q → A q := fun q h => by rw [← hAe]; exact Or.inr h
  obtain ⟨H, hH⟩ : ∃ z, z = s.heap := ⟨_, rfl⟩
  rw [← hH] at hP
  have hS : va_S A s.heap H [] := by rw [hH]; exact va_S.rf
  have hP : va_P (dC, dI) vwCl [(a0, .inr (21, [.ref a1, .ref a2, .ref a3, .ref a4, .ref a5, .ref a6, .ref a7, .ref a8, .int 0, .ref a9, .int 0, .int 0, .ref a10, .ref a11, .int 0, .ref a12, .int 0, .ref a13, .ref a14, .ref a15, .int 0, .ref a16, .ref a17, .int 0, .int 0, .ref a18, .int 0, .ref a19, .ref a20, .int 0])), (a5, .inr (18, [.ref a1, .ref a77, .int 0, .ref a78, .int 0, .ref a79, .ref a80, .ref a81, .ref a82, .ref a83, .int 0, .int 0, .ref a84, .ref a85, .ref a86, .ref a87, .ref a88, .int 0]))] H := hP
  have hl := lv_entry ([.ref a0, .int x0, .int x1, .int x2]) (n := 5) (Nat.le_of_ble_eq_true rfl)
  rw [lg_entry_eq]
  generalize (lg_sl ([.ref a0, .int x0, .int x1, .int x2]) ++ List.replicate (5 - (lg_sl ([.ref a0, .int x0, .int x1, .int x2])).length) Slot.unset).toArray = ls at hl ⊢
  have hl : lv_has ls 5 [(0, .ref a0), (1, .int x0), (2, .int x1), (3, .int x2)] := hl
  rw [← hH]
  refine lv_iload_n hx hb dX20_find_0 rfl (lv_at hl 1 rfl) ?_
  refine lv_if_lt (tgt := 33) hx hb dX20_find_1 (by decide) (fun c_1 => ?_) (fun c_1 => ?_)
  · refine lv_iconst (v := (-1)) hx hb dX20_find_33 (by decide) ?_
    refine W.widen (k := 0) (n := 0) (Nat.le_of_ble_eq_true rfl) (Nat.le_of_ble_eq_true rfl) ?_
    exact W.iret (v := (-1)) hx hb hr (fun t ht hW => ⟨⟨(-1), (), rfl, rfl, trivial⟩, hS.F ht⟩) hS.2.2 dX20_find_34
  · refine lv_iload_n hx hb dX20_find_4 rfl (lv_at hl 1 rfl) ?_
    refine lv_iconst (v := 5) hx hb dX20_find_5 (by decide) ?_
    refine lv_icmp_gt (tgt := 33) hx hb dX20_find_6 (by decide) (fun c_6 => ?_) (fun c_6 => ?_)
    · refine lv_iconst (v := (-1)) hx hb dX20_find_33 (by decide) ?_
      refine W.widen (k := 0) (n := 0) (Nat.le_of_ble_eq_true rfl) (Nat.le_of_ble_eq_true rfl) ?_
      exact W.iret (v := (-1)) hx hb hr (fun t ht hW => ⟨⟨(-1), (), rfl, rfl, trivial⟩, hS.F ht⟩) hS.2.2 dX20_find_34
    · refine lv_iload_n hx hb dX20_find_9 rfl (lv_at hl 2 rfl) ?_
      refine lv_if_lt (tgt := 33) hx hb dX20_find_10 (by decide) (fun c_10 => ?_) (fun c_10 => ?_)
      · refine lv_iconst (v := (-1)) hx hb dX20_find_33 (by decide) ?_
        refine W.widen (k := 0) (n := 0) (Nat.le_of_ble_eq_true rfl) (Nat.le_of_ble_eq_true rfl) ?_
        exact W.iret (v := (-1)) hx hb hr (fun t ht hW => ⟨⟨(-1), (), rfl, rfl, trivial⟩, hS.F ht⟩) hS.2.2 dX20_find_34
      · refine lv_iload_n hx hb dX20_find_13 rfl (lv_at hl 2 rfl) ?_
        refine lv_aload_n hx hb dX20_find_14 rfl (lv_at hl 0 rfl) ?_
        refine va_get (D := (dC, dI)) (ci := 21) (v := .ref a5) (C := RX20) (T := TX20) (N := 30) hx hb hts in_f_X20_find_RX20 hown hK hP 0 rfl rfl 4 (by decide) (hts (.fieldLink RX20 42 "TripleStoreModel" "store" "LTripleStoreModel$Store;") (List.mem_of_getElem? (i := 1) rfl)) (fun _ h9 => h9) rfl dX20_find_15 ?_
        refine va_getN (D := (dC, dI)) (ci := 18) (v := .int 0) (C := RX17) (T := TX17) (N := 18) hx hb hts in_f_X20_find_RX17 hown hK hP 1 rfl rfl 4 (by decide) (va_Nw.use rfl hZ0) (fun _ h9 => h9) rfl dX20_find_18 ?_
        refine lv_icmp_ge (tgt := 33) hx hb dX20_find_21 (by decide) (fun c_21 => ?_) (fun c_21 => ?_)
        · refine lv_iconst (v := (-1)) hx hb dX20_find_33 (by decide) ?_
          refine W.widen (k := 0) (n := 0) (Nat.le_of_ble_eq_true rfl) (Nat.le_of_ble_eq_true rfl) ?_
          exact W.iret (v := (-1)) hx hb hr (fun t ht hW => ⟨⟨(-1), (), rfl, rfl, trivial⟩, hS.F ht⟩) hS.2.2 dX20_find_34
        · exact absurd (Int32.not_lt.mp c_10) c_21
def fw_f_X17_beginning : List Cond := .code yX17_beginning cX17_beginning 9 (some .int) :: ([.fieldLink RX17 59 "TripleStoreModel$Store" "count" "I"] ++ wsX170)
theorem in_f_X17_beginning_RX17 : ∀ w ∈ u_ws RX17 TX17 18, w ∈ fw_f_X17_beginning := fun _ h => List.mem_cons_of_mem _ (List.mem_append_right _ h)
theorem gd_f_X17_beginning : (fw_f_X17_beginning).all goodWord = true := by decide +kernel
set_option maxHeartbeats 4000000 in
set_option maxRecDepth 100000 in
theorem f_X17_beginning (l : Launch) (dC : Nat → ClassId) (dI : Nat → Nat → Nat) (a0 : Nat) (a1 : Nat) (a2 : Nat) (a3 : Nat) (a4 : Nat) (a5 : Nat) (a6 : Nat) (a7 : Nat) (a8 : Nat) (a9 : Nat) (a10 : Nat) (a11 : Nat) (a12 : Nat) (a13 : Nat) (x0 : Int32) (x1 : Int32) (x2 : Int32) (x3 : Int32) (x4 : Int32) (sz : Nat) : Met l yX17_beginning fw_f_X17_beginning ({ frames := 1, cells := 0, slots := 0, locals := 20 }) (va_Pc [.ref a0, .int x0, .int x1, .int x2, .int x3, .int x4] (fun U => U.heap.size = sz ∧ va_P (dC, dI) vwCl [(a0, .inr (18, [.ref a1, .ref a2, .int 0, .ref a3, .int 0, .ref a4, .ref a5, .ref a6, .ref a7, .ref a8, .int 0, .int 0, .ref a9, .ref a10, .ref a11, .ref a12, .ref a13, .int 0]))] U.heap ∧ va_K (dC, dI) vwCl [] U ∧ va_D (fun _ => True) [(a0, .inr (18, [.ref a1, .ref a2, .int 0, .ref a3, .int 0, .ref a4, .ref a5, .ref a6, .ref a7, .ref a8, .int 0, .int 0, .ref a9, .ref a10, .ref a11, .ref a12, .ref a13, .int 0]))])) (va_Qi (fun (r : Int32) (_ : Unit) => r = 0) (fun _ t => va_P (dC, dI) vwCl [(a0, .inr (18, [.ref a1, .ref a2, .int 0, .ref a3, .int 0, .ref a4, .ref a5, .ref a6, .ref a7, .ref a8, .int 0, .int 0, .ref a9, .ref a10, .ref a11, .ref a12, .ref a13, .int 0]))] t.heap ∧ va_K (dC, dI) vwCl [] t ∧ va_D (va_A [(a0, .inr (18, [.ref a1, .ref a2, .int 0, .ref a3, .int 0, .ref a4, .ref a5, .ref a6, .ref a7, .ref a8, .int 0, .int 0, .ref a9, .ref a10, .ref a11, .ref a12, .ref a13, .int 0]))] sz) [(a0, .inr (18, [.ref a1, .ref a2, .int 0, .ref a3, .int 0, .ref a4, .ref a5, .ref a6, .ref a7, .ref a8, .int 0, .int 0, .ref a9, .ref a10, .ref a11, .ref a12, .ref a13, .int 0]))]) (va_A [(a0, .inr (18, [.ref a1, .ref a2, .int 0, .ref a3, .int 0, .ref a4, .ref a5, .ref a6, .ref a7, .ref a8, .int 0, .int 0, .ref a9, .ref a10, .ref a11, .ref a12, .ref a13, .int 0]))] sz)) 0 0 (va_A [(a0, .inr (18, [.ref a1, .ref a2, .int 0, .ref a3, .int 0, .ref a4, .ref a5, .ref a6, .ref a7, .ref a8, .int 0, .int 0, .ref a9, .ref a10, .ref a11, .ref a12, .ref a13, .int 0]))] sz) := by
  refine Met.ofW (cc := cX17_beginning) (maxL := 9) (ret := (some .int)) (by decide) rfl ?_
  intro p e s m args below meth c s₁ B hml hv
  obtain ⟨rfl, hsz, hP, hK, hD0⟩ := hv
  have hx := B.exec
  have hb := B.bytes
  have hr := B.returns
  have hts := atoms_spec (ws := fw_f_X17_beginning) B.pre
  have hown : s.vm.findClass RX17 = some m.cls := findClass_of_methodNamed B.named
  have hlocks := B.notSynchronized
  subst hsz
  have hD := hD0.self (sz := s.heap.size)
  generalize hAe : va_A [(a0, .inr (18, [.ref a1, .ref a2, .int 0, .ref a3, .int 0, .ref a4, .ref a5, .ref a6, .ref a7, .ref a8, .int 0, .int 0, .ref a9, .ref a10, .ref a11, .ref a12, .ref a13, .int 0]))] s.heap.size = A at hD ⊢
  have hA : ∀ q : Nat, s.heap.size ≤ q → A q := fun q h => by rw [← hAe]; exact Or.inr h
  obtain ⟨H, hH⟩ : ∃ z, z = s.heap := ⟨_, rfl⟩
  rw [← hH] at hP
  have hS : va_S A s.heap H [] := by rw [hH]; exact va_S.rf
  have hP : va_P (dC, dI) vwCl [(a0, .inr (18, [.ref a1, .ref a2, .int 0, .ref a3, .int 0, .ref a4, .ref a5, .ref a6, .ref a7, .ref a8, .int 0, .int 0, .ref a9, .ref a10, .ref a11, .ref a12, .ref a13, .int 0]))] H := hP
  have hl := lv_entry ([.ref a0, .int x0, .int x1, .int x2, .int x3, .int x4]) (n := 9) (Nat.le_of_ble_eq_true rfl)
  rw [lg_entry_eq]
  generalize (lg_sl ([.ref a0, .int x0, .int x1, .int x2, .int x3, .int x4]) ++ List.replicate (9 - (lg_sl ([.ref a0, .int x0, .int x1, .int x2, .int x3, .int x4])).length) Slot.unset).toArray = ls at hl ⊢
  have hl : lv_has ls 9 [(0, .ref a0), (1, .int x0), (2, .int x1), (3, .int x2), (4, .int x3), (5, .int x4)] := hl
  rw [← hH]
  refine lv_iconst (v := 0) hx hb dX17_beginning_0 (by decide) ?_
  refine lv_istore (lv' := [(6, .int 0), (0, .ref a0), (1, .int x0), (2, .int x1), (3, .int x2), (4, .int x3), (5, .int x4)]) hx hb dX17_beginning_1 hl (by decide) rfl (fun ls hl => ?_)
  refine lv_iconst (v := 0) hx hb dX17_beginning_3 (by decide) ?_
  refine lv_istore (lv' := [(7, .int 0), (6, .int 0), (0, .ref a0), (1, .int x0), (2, .int x1), (3, .int x2), (4, .int x3), (5, .int x4)]) hx hb dX17_beginning_4 hl (by decide) rfl (fun ls hl => ?_)
  refine lv_iload hx hb dX17_beginning_6 (lv_at hl 0 rfl) ?_
  refine lv_aload_n hx hb dX17_beginning_8 rfl (lv_at hl 2 rfl) ?_
  refine va_get (D := (dC, dI)) (ci := 18) (v := .int 0) (C := RX17) (T := TX17) (N := 18) hx hb hts in_f_X17_beginning_RX17 hown hK hP 0 rfl rfl 4 (by decide) (hts (.fieldLink RX17 59 "TripleStoreModel$Store" "count" "I") (List.mem_of_getElem? (i := 1) rfl)) (fun _ h9 => h9) rfl dX17_beginning_9 ?_
  refine lv_icmp_ge (tgt := 96) hx hb dX17_beginning_12 (by decide) (fun _ => ?_) (fun c9 => absurd (by decide +kernel) c9)
  refine lv_iload hx hb dX17_beginning_96 (lv_at hl 1 rfl) ?_
  exact W.iret (v := 0) hx hb hr (fun t ht hW => ⟨⟨0, (), rfl, rfl, by rw [ht]; exact hP, va_K.moved hW.alike hK, hD⟩, hS.F ht⟩) hS.2.2 dX17_beginning_98
def fw_f_X20_count : List Cond := .code yX20_count cX20_count 6 (some .int) :: ([.fieldLink RX20 42 "TripleStoreModel" "store" "LTripleStoreModel$Store;", .methodLink RX20 374 yX17_beginning, .instanceMethod yX17_beginning, .selects RX17 yX17_beginning yX17_beginning, .initialized RX17] ++ wsX200 ++ fw_f_X17_beginning)
theorem in_f_X20_count_RX20 : ∀ w ∈ u_ws RX20 TX20 30, w ∈ fw_f_X20_count := fun _ h => List.mem_cons_of_mem _ (List.mem_append_left _ (List.mem_append_right _ h))
theorem gd_f_X20_count : (fw_f_X20_count).all goodWord = true := by decide +kernel
theorem gf_f_X20_count_f_X17_beginning : GoodIn fw_f_X20_count fw_f_X17_beginning := goodIn_sub (fun _ h => List.mem_cons_of_mem _ (List.mem_append_right _ h)) gd_f_X17_beginning
theorem gh_f_X20_count_f_X17_beginning_374 : GoodIn fw_f_X20_count (wsV RX20 374 RX17 yX17_beginning fw_f_X17_beginning) := goodIn_app (goodIn_r _ [2, 3, 4, 5] (by decide +kernel) (by decide +kernel)) gf_f_X20_count_f_X17_beginning
set_option maxHeartbeats 4000000 in
set_option maxRecDepth 100000 in
theorem f_X20_count (l : Launch) (dC : Nat → ClassId) (dI : Nat → Nat → Nat) (a0 : Nat) (a1 : Nat) (a2 : Nat) (a3 : Nat) (a4 : Nat) (a5 : Nat) (a6 : Nat) (a7 : Nat) (a8 : Nat) (a9 : Nat) (a10 : Nat) (a11 : Nat) (a12 : Nat) (a13 : Nat) (a14 : Nat) (a15 : Nat) (a16 : Nat) (a17 : Nat) (a18 : Nat) (a19 : Nat) (a20 : Nat) (a77 : Nat) (a78 : Nat) (a79 : Nat) (a80 : Nat) (a81 : Nat) (a82 : Nat) (a83 : Nat) (a84 : Nat) (a85 : Nat) (a86 : Nat) (a87 : Nat) (a88 : Nat) (x0 : Int32) (x1 : Int32) (x2 : Int32) (x3 : Int32) (x4 : Int32) (sz : Nat) : Met l yX20_count fw_f_X20_count ({ frames := 2, cells := 0, slots := 0, locals := 48 }) (va_Pc [.ref a0, .int x0, .int x1, .int x2, .int x3, .int x4] (fun U => U.heap.size = sz ∧ va_P (dC, dI) vwCl [(a0, .inr (21, [.ref a1, .ref a2, .ref a3, .ref a4, .ref a5, .ref a6, .ref a7, .ref a8, .int 0, .ref a9, .int 0, .int 0, .ref a10, .ref a11, .int 0, .ref a12, .int 0, .ref a13, .ref a14, .ref a15, .int 0, .ref a16, .ref a17, .int 0, .int 0, .ref a18, .int 0, .ref a19, .ref a20, .int 0])), (a5, .inr (18, [.ref a1, .ref a77, .int 0, .ref a78, .int 0, .ref a79, .ref a80, .ref a81, .ref a82, .ref a83, .int 0, .int 0, .ref a84, .ref a85, .ref a86, .ref a87, .ref a88, .int 0]))] U.heap ∧ va_K (dC, dI) vwCl [] U ∧ va_D (fun _ => True) [(a0, .inr (21, [.ref a1, .ref a2, .ref a3, .ref a4, .ref a5, .ref a6, .ref a7, .ref a8, .int 0, .ref a9, .int 0, .int 0, .ref a10, .ref a11, .int 0, .ref a12, .int 0, .ref a13, .ref a14, .ref a15, .int 0, .ref a16, .ref a17, .int 0, .int 0, .ref a18, .int 0, .ref a19, .ref a20, .int 0])), (a5, .inr (18, [.ref a1, .ref a77, .int 0, .ref a78, .int 0, .ref a79, .ref a80, .ref a81, .ref a82, .ref a83, .int 0, .int 0, .ref a84, .ref a85, .ref a86, .ref a87, .ref a88, .int 0]))])) (va_Qi (fun (r : Int32) (_ : Unit) => r = (if x0 < 0 then -1 else if 5 < x0 then -1 else if x1 < 0 then -1 else if x1 ≤ 3 then 0 else -1)) (fun _ _ => True) (va_A [(a0, .inr (21, [.ref a1, .ref a2, .ref a3, .ref a4, .ref a5, .ref a6, .ref a7, .ref a8, .int 0, .ref a9, .int 0, .int 0, .ref a10, .ref a11, .int 0, .ref a12, .int 0, .ref a13, .ref a14, .ref a15, .int 0, .ref a16, .ref a17, .int 0, .int 0, .ref a18, .int 0, .ref a19, .ref a20, .int 0])), (a5, .inr (18, [.ref a1, .ref a77, .int 0, .ref a78, .int 0, .ref a79, .ref a80, .ref a81, .ref a82, .ref a83, .int 0, .int 0, .ref a84, .ref a85, .ref a86, .ref a87, .ref a88, .int 0]))] sz)) 0 0 (va_A [(a0, .inr (21, [.ref a1, .ref a2, .ref a3, .ref a4, .ref a5, .ref a6, .ref a7, .ref a8, .int 0, .ref a9, .int 0, .int 0, .ref a10, .ref a11, .int 0, .ref a12, .int 0, .ref a13, .ref a14, .ref a15, .int 0, .ref a16, .ref a17, .int 0, .int 0, .ref a18, .int 0, .ref a19, .ref a20, .int 0])), (a5, .inr (18, [.ref a1, .ref a77, .int 0, .ref a78, .int 0, .ref a79, .ref a80, .ref a81, .ref a82, .ref a83, .int 0, .int 0, .ref a84, .ref a85, .ref a86, .ref a87, .ref a88, .int 0]))] sz) := by
  refine Met.ofW (cc := cX20_count) (maxL := 6) (ret := (some .int)) (by decide) rfl ?_
  intro p e s m args below meth c s₁ B hml hv
  obtain ⟨rfl, hsz, hP, hK, hD0⟩ := hv
  have hx := B.exec
  have hb := B.bytes
  have hr := B.returns
  have hts := atoms_spec (ws := fw_f_X20_count) B.pre
  have hown : s.vm.findClass RX20 = some m.cls := findClass_of_methodNamed B.named
  have hlocks := B.notSynchronized
  subst hsz
  have hD := hD0.self (sz := s.heap.size)
  generalize hAe : va_A [(a0, .inr (21, [.ref a1, .ref a2, .ref a3, .ref a4, .ref a5, .ref a6, .ref a7, .ref a8, .int 0, .ref a9, .int 0, .int 0, .ref a10, .ref a11, .int 0, .ref a12, .int 0, .ref a13, .ref a14, .ref a15, .int 0, .ref a16, .ref a17, .int 0, .int 0, .ref a18, .int 0, .ref a19, .ref a20, .int 0])), (a5, .inr (18, [.ref a1, .ref a77, .int 0, .ref a78, .int 0, .ref a79, .ref a80, .ref a81, .ref a82, .ref a83, .int 0, .int 0, .ref a84, .ref a85, .ref a86, .ref a87, .ref a88, .int 0]))] s.heap.size = A at hD ⊢
  have hA : ∀ q : Nat, s.heap.size ≤ q → A q := fun q h => by rw [← hAe]; exact Or.inr h
  obtain ⟨H, hH⟩ : ∃ z, z = s.heap := ⟨_, rfl⟩
  rw [← hH] at hP
  have hS : va_S A s.heap H [] := by rw [hH]; exact va_S.rf
  have hP : va_P (dC, dI) vwCl [(a0, .inr (21, [.ref a1, .ref a2, .ref a3, .ref a4, .ref a5, .ref a6, .ref a7, .ref a8, .int 0, .ref a9, .int 0, .int 0, .ref a10, .ref a11, .int 0, .ref a12, .int 0, .ref a13, .ref a14, .ref a15, .int 0, .ref a16, .ref a17, .int 0, .int 0, .ref a18, .int 0, .ref a19, .ref a20, .int 0])), (a5, .inr (18, [.ref a1, .ref a77, .int 0, .ref a78, .int 0, .ref a79, .ref a80, .ref a81, .ref a82, .ref a83, .int 0, .int 0, .ref a84, .ref a85, .ref a86, .ref a87, .ref a88, .int 0]))] H := hP
  have hl := lv_entry ([.ref a0, .int x0, .int x1, .int x2, .int x3, .int x4]) (n := 6) (Nat.le_of_ble_eq_true rfl)
  rw [lg_entry_eq]
  generalize (lg_sl ([.ref a0, .int x0, .int x1, .int x2, .int x3, .int x4]) ++ List.replicate (6 - (lg_sl ([.ref a0, .int x0, .int x1, .int x2, .int x3, .int x4])).length) Slot.unset).toArray = ls at hl ⊢
  have hl : lv_has ls 6 [(0, .ref a0), (1, .int x0), (2, .int x1), (3, .int x2), (4, .int x3), (5, .int x4)] := hl
  rw [← hH]
  refine lv_iload_n hx hb dX20_count_0 rfl (lv_at hl 1 rfl) ?_
  refine lv_if_lt (tgt := 18) hx hb dX20_count_1 (by decide) (fun c_1 => ?_) (fun c_1 => ?_)
  · refine lv_iconst (v := (-1)) hx hb dX20_count_18 (by decide) ?_
    refine W.widen (k := 0) (n := 0) (Nat.le_of_ble_eq_true rfl) (Nat.le_of_ble_eq_true rfl) ?_
    exact W.iret (v := (-1)) hx hb hr (fun t ht hW => ⟨⟨(-1), (), rfl, by rw [if_pos c_1], trivial⟩, hS.F ht⟩) hS.2.2 dX20_count_19
  · refine lv_iload_n hx hb dX20_count_4 rfl (lv_at hl 1 rfl) ?_
    refine lv_iconst (v := 5) hx hb dX20_count_5 (by decide) ?_
    refine lv_icmp_gt (tgt := 18) hx hb dX20_count_6 (by decide) (fun c_6 => ?_) (fun c_6 => ?_)
    · refine lv_iconst (v := (-1)) hx hb dX20_count_18 (by decide) ?_
      refine W.widen (k := 0) (n := 0) (Nat.le_of_ble_eq_true rfl) (Nat.le_of_ble_eq_true rfl) ?_
      exact W.iret (v := (-1)) hx hb hr (fun t ht hW => ⟨⟨(-1), (), rfl, by rw [if_neg c_1, if_pos c_6], trivial⟩, hS.F ht⟩) hS.2.2 dX20_count_19
    · refine lv_iload_n hx hb dX20_count_9 rfl (lv_at hl 2 rfl) ?_
      refine lv_if_lt (tgt := 18) hx hb dX20_count_10 (by decide) (fun c_10 => ?_) (fun c_10 => ?_)
      · refine lv_iconst (v := (-1)) hx hb dX20_count_18 (by decide) ?_
        refine W.widen (k := 0) (n := 0) (Nat.le_of_ble_eq_true rfl) (Nat.le_of_ble_eq_true rfl) ?_
        exact W.iret (v := (-1)) hx hb hr (fun t ht hW => ⟨⟨(-1), (), rfl, by rw [if_neg c_1, if_neg c_6, if_pos c_10], trivial⟩, hS.F ht⟩) hS.2.2 dX20_count_19
      · refine lv_iload_n hx hb dX20_count_13 rfl (lv_at hl 2 rfl) ?_
        refine lv_iconst (v := 3) hx hb dX20_count_14 (by decide) ?_
        refine lv_icmp_le (tgt := 20) hx hb dX20_count_15 (by decide) (fun c_15 => ?_) (fun c_15 => ?_)
        · refine lv_aload_n hx hb dX20_count_20 rfl (lv_at hl 0 rfl) ?_
          refine va_get (D := (dC, dI)) (ci := 21) (v := .ref a5) (C := RX20) (T := TX20) (N := 30) hx hb hts in_f_X20_count_RX20 hown hK hP 0 rfl rfl 4 (by decide) (hts (.fieldLink RX20 42 "TripleStoreModel" "store" "LTripleStoreModel$Store;") (List.mem_of_getElem? (i := 1) rfl)) (fun _ h9 => h9) rfl dX20_count_21 ?_
          refine lv_iload_n hx hb dX20_count_24 rfl (lv_at hl 1 rfl) ?_
          refine lv_iload_n hx hb dX20_count_25 rfl (lv_at hl 2 rfl) ?_
          refine lv_iload_n hx hb dX20_count_26 rfl (lv_at hl 3 rfl) ?_
          refine lv_iload hx hb dX20_count_27 (lv_at hl 4 rfl) ?_
          refine lv_iload hx hb dX20_count_29 (lv_at hl 5 rfl) ?_
          have hPc := hP.sub (ws' := [(a5, .inr (18, [.ref a1, .ref a77, .int 0, .ref a78, .int 0, .ref a79, .ref a80, .ref a81, .ref a82, .ref a83, .int 0, .int 0, .ref a84, .ref a85, .ref a86, .ref a87, .ref a88, .int 0]))]) [1] rfl
          have hDc := hD.sub (ws' := [(a5, .inr (18, [.ref a1, .ref a77, .int 0, .ref a78, .int 0, .ref a79, .ref a80, .ref a81, .ref a82, .ref a83, .int 0, .int 0, .ref a84, .ref a85, .ref a86, .ref a87, .ref a88, .int 0]))]) [1] (by decide) rfl
          have hKc := hK.sub (tys' := []) [] rfl
          have hFc := va_free (wc := [(a5, .inr (18, [.ref a1, .ref a77, .int 0, .ref a78, .int 0, .ref a79, .ref a80, .ref a81, .ref a82, .ref a83, .int 0, .int 0, .ref a84, .ref a85, .ref a86, .ref a87, .ref a88, .int 0]))]) hD hS hA [1] rfl
          refine va_calli (va_runV (As := [.int x0, .int x1, .int x2, .int x3, .int x4]) (rest := []) ⟨hx, hb, hml, hown, hts⟩ (f_X17_beginning l dC dI a5 a1 a77 a78 a79 a80 a81 a82 a83 a84 a85 a86 a87 a88 x0 x1 x2 x3 x4 H.size) (cwV 5 hts gh_f_X20_count_f_X17_beginning_374 rfl rfl rfl (by decide +kernel) ⟨Nat.le_of_ble_eq_true rfl, Nat.le_of_ble_eq_true rfl⟩) ⟨fun a U g mk q => by obtain ⟨q0, q1, qP, qK, qD⟩ := q; exact ⟨q0, q1, qP, va_K.moved (u := U) (U := U.calling g mk a) (Vm.Alike.refl U.vm) qK, qD⟩, va_recv hKc hPc (ci := 18) (q0 := 0) rfl rfl, fun U hU hW => ⟨rfl, by rw [hU], by rw [hU]; exact hPc, va_K.moved hW.alike hKc, hDc.weaken (fun _ _ _ _ => trivial)⟩⟩ rfl rfl hl.1 rfl (lv_room (Nat.le_of_ble_eq_true rfl)) dX20_count_31 ⟨Nat.le_of_ble_eq_true rfl, Nat.le_of_ble_eq_true rfl⟩) hS (fun q _ h => hFc q h) hFc (fun r u t H1 locs ht hvm hw hB hz1 hk1 hS => ?_)
          obtain ⟨hP1, hK1, hD1⟩ := hB
          have hw : r = 0 := hw
          subst hw
          rw [ht] at hP1
          have hK1 := va_K.moved hvm.symm hK1
          obtain ⟨hP, hD⟩ := va_join (wr := [(a0, .inr (21, [.ref a1, .ref a2, .ref a3, .ref a4, .ref a5, .ref a6, .ref a7, .ref a8, .int 0, .ref a9, .int 0, .int 0, .ref a10, .ref a11, .int 0, .ref a12, .int 0, .ref a13, .ref a14, .ref a15, .int 0, .ref a16, .ref a17, .int 0, .int 0, .ref a18, .int 0, .ref a19, .ref a20, .int 0]))]) (w1 := [(a5, .inr (18, [.ref a1, .ref a77, .int 0, .ref a78, .int 0, .ref a79, .ref a80, .ref a81, .ref a82, .ref a83, .int 0, .int 0, .ref a84, .ref a85, .ref a86, .ref a87, .ref a88, .int 0]))]) hP hD [1] [0] rfl rfl (by decide) (by decide) hk1 hFc hP1 hD1
          have hK := (hK.sub (tys' := []) [] rfl).app hK1
          generalize H1 = H at hP hS ⊢
          have hP : va_P (dC, dI) vwCl [(a0, .inr (21, [.ref a1, .ref a2, .ref a3, .ref a4, .ref a5, .ref a6, .ref a7, .ref a8, .int 0, .ref a9, .int 0, .int 0, .ref a10, .ref a11, .int 0, .ref a12, .int 0, .ref a13, .ref a14, .ref a15, .int 0, .ref a16, .ref a17, .int 0, .int 0, .ref a18, .int 0, .ref a19, .ref a20, .int 0])), (a5, .inr (18, [.ref a1, .ref a77, .int 0, .ref a78, .int 0, .ref a79, .ref a80, .ref a81, .ref a82, .ref a83, .int 0, .int 0, .ref a84, .ref a85, .ref a86, .ref a87, .ref a88, .int 0]))] H := hP
          have hD : va_D A [(a0, .inr (21, [.ref a1, .ref a2, .ref a3, .ref a4, .ref a5, .ref a6, .ref a7, .ref a8, .int 0, .ref a9, .int 0, .int 0, .ref a10, .ref a11, .int 0, .ref a12, .int 0, .ref a13, .ref a14, .ref a15, .int 0, .ref a16, .ref a17, .int 0, .int 0, .ref a18, .int 0, .ref a19, .ref a20, .int 0])), (a5, .inr (18, [.ref a1, .ref a77, .int 0, .ref a78, .int 0, .ref a79, .ref a80, .ref a81, .ref a82, .ref a83, .int 0, .int 0, .ref a84, .ref a85, .ref a86, .ref a87, .ref a88, .int 0]))] := hD
          have hK : va_K (dC, dI) vwCl [] s := hK
          refine W.widen (k := 0) (n := 0) (Nat.le_of_ble_eq_true rfl) (Nat.le_of_ble_eq_true rfl) ?_
          exact W.iret (v := 0) hx hb hr (fun t ht hW => ⟨⟨0, (), rfl, by rw [if_neg c_1, if_neg c_6, if_neg c_10, if_pos c_15], trivial⟩, hS.F ht⟩) hS.2.2 dX20_count_34
        · refine lv_iconst (v := (-1)) hx hb dX20_count_18 (by decide) ?_
          refine W.widen (k := 0) (n := 0) (Nat.le_of_ble_eq_true rfl) (Nat.le_of_ble_eq_true rfl) ?_
          exact W.iret (v := (-1)) hx hb hr (fun t ht hW => ⟨⟨(-1), (), rfl, by rw [if_neg c_1, if_neg c_6, if_neg c_10, if_neg c_15], trivial⟩, hS.F ht⟩) hS.2.2 dX20_count_19
def fw_f_X20_type : List Cond := .code yX20_type cX20_type 5 (some .int) :: ([.fieldLink RX20 28 "TripleStoreModel" "lexer" "LTripleStoreModel$Lexer;"] ++ wsX200 ++ wsX140)
theorem in_f_X20_type_RX20 : ∀ w ∈ u_ws RX20 TX20 30, w ∈ fw_f_X20_type := fun _ h => List.mem_cons_of_mem _ (List.mem_append_left _ (List.mem_append_right _ h))
theorem in_f_X20_type_RX14 : ∀ w ∈ u_ws RX14 TX14 14, w ∈ fw_f_X20_type := fun _ h => List.mem_cons_of_mem _ (List.mem_append_right _ h)
theorem gd_f_X20_type : (fw_f_X20_type).all goodWord = true := by decide +kernel
set_option maxHeartbeats 4000000 in
set_option maxRecDepth 100000 in
theorem f_X20_type (l : Launch) (dC : Nat → ClassId) (dI : Nat → Nat → Nat) (a0 : Nat) (a1 : Nat) (a2 : Nat) (a3 : Nat) (a4 : Nat) (a5 : Nat) (a6 : Nat) (a7 : Nat) (a8 : Nat) (a9 : Nat) (a10 : Nat) (a11 : Nat) (a12 : Nat) (a13 : Nat) (a14 : Nat) (a15 : Nat) (a16 : Nat) (a17 : Nat) (a18 : Nat) (a19 : Nat) (a20 : Nat) (a31 : Nat) (k0 : ClassId) (y0 : Int64) (x0 : Int32) (sz : Nat) : Met l yX20_type fw_f_X20_type ({ frames := 1, cells := 0, slots := 0, locals := 20 }) (va_Pc [.ref a0, .long y0, .int x0] (fun U => U.heap.size = sz ∧ va_P (dC, dI) vwCl [(a0, .inr (21, [.ref a1, .ref a2, .ref a3, .ref a4, .ref a5, .ref a6, .ref a7, .ref a8, .int 0, .ref a9, .int 0, .int 0, .ref a10, .ref a11, .int 0, .ref a12, .int 0, .ref a13, .ref a14, .ref a15, .int 0, .ref a16, .ref a17, .int 0, .int 0, .ref a18, .int 0, .ref a19, .ref a20, .int 0])), (a3, .inr (15, [.ref a1, .ref a31, .int 0, .int 0, .int 0, .int 0, .int 0, .int 0, .int 0, .int 0, .int 0, .long 0, .int 0, .int 0])), (a31, .inl (k0, 4000, .inl (fun _ => 0)))] U.heap ∧ va_K (dC, dI) vwCl [(k0, .byte)] U ∧ va_D (fun _ => True) [(a0, .inr (21, [.ref a1, .ref a2, .ref a3, .ref a4, .ref a5, .ref a6, .ref a7, .ref a8, .int 0, .ref a9, .int 0, .int 0, .ref a10, .ref a11, .int 0, .ref a12, .int 0, .ref a13, .ref a14, .ref a15, .int 0, .ref a16, .ref a17, .int 0, .int 0, .ref a18, .int 0, .ref a19, .ref a20, .int 0])), (a3, .inr (15, [.ref a1, .ref a31, .int 0, .int 0, .int 0, .int 0, .int 0, .int 0, .int 0, .int 0, .int 0, .long 0, .int 0, .int 0])), (a31, .inl (k0, 4000, .inl (fun _ => 0)))] ∧ va_Nw (.fieldLinkNest RX20 112 "TripleStoreModel$Lexer" "size" "I" "TripleStoreModel") U ∧ va_Nw (.fieldLinkNest RX20 116 "TripleStoreModel$Lexer" "text" "[B" "TripleStoreModel") U)) (va_Qi (fun (r : Int32) (_ : Unit) => r = (if x0 < 1 then -1 else if x0 ≤ 8 then x0 else -1)) (fun _ _ => True) (va_A [(a0, .inr (21, [.ref a1, .ref a2, .ref a3, .ref a4, .ref a5, .ref a6, .ref a7, .ref a8, .int 0, .ref a9, .int 0, .int 0, .ref a10, .ref a11, .int 0, .ref a12, .int 0, .ref a13, .ref a14, .ref a15, .int 0, .ref a16, .ref a17, .int 0, .int 0, .ref a18, .int 0, .ref a19, .ref a20, .int 0])), (a3, .inr (15, [.ref a1, .ref a31, .int 0, .int 0, .int 0, .int 0, .int 0, .int 0, .int 0, .int 0, .int 0, .long 0, .int 0, .int 0])), (a31, .inl (k0, 4000, .inl (fun _ => 0)))] sz)) 0 0 (va_A [(a0, .inr (21, [.ref a1, .ref a2, .ref a3, .ref a4, .ref a5, .ref a6, .ref a7, .ref a8, .int 0, .ref a9, .int 0, .int 0, .ref a10, .ref a11, .int 0, .ref a12, .int 0, .ref a13, .ref a14, .ref a15, .int 0, .ref a16, .ref a17, .int 0, .int 0, .ref a18, .int 0, .ref a19, .ref a20, .int 0])), (a3, .inr (15, [.ref a1, .ref a31, .int 0, .int 0, .int 0, .int 0, .int 0, .int 0, .int 0, .int 0, .int 0, .long 0, .int 0, .int 0])), (a31, .inl (k0, 4000, .inl (fun _ => 0)))] sz) := by
  refine Met.ofW (cc := cX20_type) (maxL := 5) (ret := (some .int)) (by decide) rfl ?_
  intro p e s m args below meth c s₁ B hml hv
  obtain ⟨rfl, hsz, hP, hK, hD0, hZ0, hZ1⟩ := hv
  have hx := B.exec
  have hb := B.bytes
  have hr := B.returns
  have hts := atoms_spec (ws := fw_f_X20_type) B.pre
  have hown : s.vm.findClass RX20 = some m.cls := findClass_of_methodNamed B.named
  have hlocks := B.notSynchronized
  subst hsz
  have hD := hD0.self (sz := s.heap.size)
  generalize hAe : va_A [(a0, .inr (21, [.ref a1, .ref a2, .ref a3, .ref a4, .ref a5, .ref a6, .ref a7, .ref a8, .int 0, .ref a9, .int 0, .int 0, .ref a10, .ref a11, .int 0, .ref a12, .int 0, .ref a13, .ref a14, .ref a15, .int 0, .ref a16, .ref a17, .int 0, .int 0, .ref a18, .int 0, .ref a19, .ref a20, .int 0])), (a3, .inr (15, [.ref a1, .ref a31, .int 0, .int 0, .int 0, .int 0, .int 0, .int 0, .int 0, .int 0, .int 0, .long 0, .int 0, .int 0])), (a31, .inl (k0, 4000, .inl (fun _ => 0)))] s.heap.size = A at hD ⊢
  have hA : ∀ q : Nat, s.heap.size ≤ q → A q := fun q h => by rw [← hAe]; exact Or.inr h
  obtain ⟨H, hH⟩ : ∃ z, z = s.heap := ⟨_, rfl⟩
  rw [← hH] at hP
  have hS : va_S A s.heap H [] := by rw [hH]; exact va_S.rf
  have hP : va_P (dC, dI) vwCl [(a0, .inr (21, [.ref a1, .ref a2, .ref a3, .ref a4, .ref a5, .ref a6, .ref a7, .ref a8, .int 0, .ref a9, .int 0, .int 0, .ref a10, .ref a11, .int 0, .ref a12, .int 0, .ref a13, .ref a14, .ref a15, .int 0, .ref a16, .ref a17, .int 0, .int 0, .ref a18, .int 0, .ref a19, .ref a20, .int 0])), (a3, .inr (15, [.ref a1, .ref a31, .int 0, .int 0, .int 0, .int 0, .int 0, .int 0, .int 0, .int 0, .int 0, .long 0, .int 0, .int 0])), (a31, .inl (k0, 4000, .inl (fun _ => 0)))] H := hP
  have hl := lv_entry ([.ref a0, .long y0, .int x0]) (n := 5) (Nat.le_of_ble_eq_true rfl)
  rw [lg_entry_eq]
  generalize (lg_sl ([.ref a0, .long y0, .int x0]) ++ List.replicate (5 - (lg_sl ([.ref a0, .long y0, .int x0])).length) Slot.unset).toArray = ls at hl ⊢
  have hl : lv_has ls 5 [(0, .ref a0), (1, .long y0), (3, .int x0)] := hl
  rw [← hH]
  refine lv_iload_n hx hb dX20_type_0 rfl (lv_at hl 2 rfl) ?_
  refine lv_iconst (v := 1) hx hb dX20_type_1 (by decide) ?_
  refine lv_icmp_lt (tgt := 11) hx hb dX20_type_2 (by decide) (fun c_2 => ?_) (fun c_2 => ?_)
  · refine lv_iconst (v := (-1)) hx hb dX20_type_11 (by decide) ?_
    refine W.widen (k := 0) (n := 0) (Nat.le_of_ble_eq_true rfl) (Nat.le_of_ble_eq_true rfl) ?_
    exact W.iret (v := (-1)) hx hb hr (fun t ht hW => ⟨⟨(-1), (), rfl, by rw [if_pos c_2], trivial⟩, hS.F ht⟩) hS.2.2 dX20_type_12
  · refine lv_iload_n hx hb dX20_type_5 rfl (lv_at hl 2 rfl) ?_
    refine lv_bipush (v := 8) hx hb dX20_type_6 (by decide) ?_
    refine lv_icmp_le (tgt := 13) hx hb dX20_type_8 (by decide) (fun c_8 => ?_) (fun c_8 => ?_)
    · rcases k_one_to_8 c_2 c_8 with rfl | rfl | rfl | rfl | rfl | rfl | rfl | rfl
      · refine lv_aload_n hx hb dX20_type_13 rfl (lv_at hl 0 rfl) ?_
        refine va_get (D := (dC, dI)) (ci := 21) (v := .ref a3) (C := RX20) (T := TX20) (N := 30) hx hb hts in_f_X20_type_RX20 hown hK hP 0 rfl rfl 2 (by decide) (hts (.fieldLink RX20 28 "TripleStoreModel" "lexer" "LTripleStoreModel$Lexer;") (List.mem_of_getElem? (i := 1) rfl)) (fun _ h9 => h9) rfl dX20_type_14 ?_
        refine va_getN (D := (dC, dI)) (ci := 15) (v := .int 0) (C := RX14) (T := TX14) (N := 14) hx hb hts in_f_X20_type_RX14 hown hK hP 1 rfl rfl 2 (by decide) (va_Nw.use rfl hZ0) (fun _ h9 => h9) rfl dX20_type_17 ?_
        refine lv_iload_n hx hb dX20_type_20 rfl (lv_at hl 2 rfl) ?_
        refine lv_iadd hx hb dX20_type_21 ?_
        refine W.eq (congrArg (fun z : Int32 => F0 m 22 ls (.int z :: [])) (by decide +kernel : ((0 : Int32) + 1 : Int32) = 1)) ?_
        refine lv_sipush (v := 4000) hx hb dX20_type_22 (by decide) ?_
        refine lv_icmp_le (tgt := 31) hx hb dX20_type_25 (by decide) (fun _ => ?_) (fun c9 => absurd (by decide +kernel) c9)
        refine lv_iload_n hx hb dX20_type_31 rfl (lv_at hl 2 rfl) ?_
        refine lv_iconst (v := 1) hx hb dX20_type_32 (by decide) ?_
        refine lv_isub hx hb dX20_type_33 ?_
        refine W.eq (congrArg (fun z : Int32 => F0 m 34 ls (.int z :: [])) (by decide +kernel : ((1 : Int32) - 1 : Int32) = 0)) ?_
        refine lv_istore (lv' := [(4, .int 0), (0, .ref a0), (1, .long y0), (3, .int 1)]) hx hb dX20_type_34 hl (by decide) rfl (fun ls hl => ?_)
        refine lv_iload hx hb dX20_type_36 (lv_at hl 0 rfl) ?_
        refine lv_if_lt (tgt := 84) hx hb dX20_type_38 (by decide) (fun c9 => absurd c9 (by decide +kernel)) (fun _ => ?_)
        refine lv_aload_n hx hb dX20_type_41 rfl (lv_at hl 1 rfl) ?_
        refine va_get (D := (dC, dI)) (ci := 21) (v := .ref a3) (C := RX20) (T := TX20) (N := 30) hx hb hts in_f_X20_type_RX20 hown hK hP 0 rfl rfl 2 (by decide) (hts (.fieldLink RX20 28 "TripleStoreModel" "lexer" "LTripleStoreModel$Lexer;") (List.mem_of_getElem? (i := 1) rfl)) (fun _ h9 => h9) rfl dX20_type_42 ?_
        refine va_getN (D := (dC, dI)) (ci := 15) (v := .ref a31) (C := RX14) (T := TX14) (N := 14) hx hb hts in_f_X20_type_RX14 hown hK hP 1 rfl rfl 1 (by decide) (va_Nw.use rfl hZ1) (fun _ h9 => h9) rfl dX20_type_45 ?_
        refine lv_aload_n hx hb dX20_type_48 rfl (lv_at hl 1 rfl) ?_
        refine va_get (D := (dC, dI)) (ci := 21) (v := .ref a3) (C := RX20) (T := TX20) (N := 30) hx hb hts in_f_X20_type_RX20 hown hK hP 0 rfl rfl 2 (by decide) (hts (.fieldLink RX20 28 "TripleStoreModel" "lexer" "LTripleStoreModel$Lexer;") (List.mem_of_getElem? (i := 1) rfl)) (fun _ h9 => h9) rfl dX20_type_49 ?_
        refine va_getN (D := (dC, dI)) (ci := 15) (v := .int 0) (C := RX14) (T := TX14) (N := 14) hx hb hts in_f_X20_type_RX14 hown hK hP 1 rfl rfl 2 (by decide) (va_Nw.use rfl hZ0) (fun _ h9 => h9) rfl dX20_type_52 ?_
        refine lv_lload_n hx hb dX20_type_55 rfl (lv_at hl 2 rfl) ?_
        refine lv_bipush (v := 8) hx hb dX20_type_56 (by decide) ?_
        refine lv_iload hx hb dX20_type_58 (lv_at hl 0 rfl) ?_
        refine lv_imul hx hb dX20_type_60 ?_
        refine W.eq (congrArg (fun z : Int32 => F0 m 61 ls (.int z :: [.long y0, .int 0, .ref a31])) (by decide +kernel : ((8 : Int32) * 0 : Int32) = 0)) ?_
        refine lv_lshr hx hb dX20_type_61 rfl ?_
        refine lv_topl (fun yy1 _ => ?_)
        refine lv_l2i hx hb dX20_type_62 rfl ?_
        refine lv_topi (fun xx2 _ => ?_)
        refine lv_i2b hx hb dX20_type_63 rfl ?_
        refine lv_topi (fun xx3 _ => ?_)
        refine va_bast (i := 0) (x := xx3) hx hb hK hP hD hS 2 0 rfl rfl (by unfold vp_in; decide +kernel) dX20_type_64 (fun H locs hP hD hS => ?_)
        have hP : va_P (dC, dI) vwCl [(a0, .inr (21, [.ref a1, .ref a2, .ref a3, .ref a4, .ref a5, .ref a6, .ref a7, .ref a8, .int 0, .ref a9, .int 0, .int 0, .ref a10, .ref a11, .int 0, .ref a12, .int 0, .ref a13, .ref a14, .ref a15, .int 0, .ref a16, .ref a17, .int 0, .int 0, .ref a18, .int 0, .ref a19, .ref a20, .int 0])), (a3, .inr (15, [.ref a1, .ref a31, .int 0, .int 0, .int 0, .int 0, .int 0, .int 0, .int 0, .int 0, .int 0, .long 0, .int 0, .int 0])), (a31, .inl (k0, 4000, .inl (upd (fun _ => 0) (Int32.toNatClampNeg 0) (vp_nar .byte xx3))))] H := hP
        have hD : va_D A [(a0, .inr (21, [.ref a1, .ref a2, .ref a3, .ref a4, .ref a5, .ref a6, .ref a7, .ref a8, .int 0, .ref a9, .int 0, .int 0, .ref a10, .ref a11, .int 0, .ref a12, .int 0, .ref a13, .ref a14, .ref a15, .int 0, .ref a16, .ref a17, .int 0, .int 0, .ref a18, .int 0, .ref a19, .ref a20, .int 0])), (a3, .inr (15, [.ref a1, .ref a31, .int 0, .int 0, .int 0, .int 0, .int 0, .int 0, .int 0, .int 0, .int 0, .long 0, .int 0, .int 0])), (a31, .inl (k0, 4000, .inl (upd (fun _ => 0) (Int32.toNatClampNeg 0) (vp_nar .byte xx3))))] := hD
        refine lv_aload_n hx hb dX20_type_65 rfl (lv_at hl 1 rfl) ?_
        refine va_get (D := (dC, dI)) (ci := 21) (v := .ref a3) (C := RX20) (T := TX20) (N := 30) hx hb hts in_f_X20_type_RX20 hown hK hP 0 rfl rfl 2 (by decide) (hts (.fieldLink RX20 28 "TripleStoreModel" "lexer" "LTripleStoreModel$Lexer;") (List.mem_of_getElem? (i := 1) rfl)) (fun _ h9 => h9) rfl dX20_type_66 ?_
        refine lv_dup hx hb dX20_type_69 rfl ?_
        refine va_getN (D := (dC, dI)) (ci := 15) (v := .int 0) (C := RX14) (T := TX14) (N := 14) hx hb hts in_f_X20_type_RX14 hown hK hP 1 rfl rfl 2 (by decide) (va_Nw.use rfl hZ0) (fun _ h9 => h9) rfl dX20_type_70 ?_
        refine lv_iconst (v := 1) hx hb dX20_type_73 (by decide) ?_
        refine lv_iadd hx hb dX20_type_74 ?_
        refine W.eq (congrArg (fun z : Int32 => F0 m 75 ls (.int z :: [.ref a3])) (by decide +kernel : ((0 : Int32) + 1 : Int32) = 1)) ?_
        refine va_putN (D := (dC, dI)) (ci := 15) (v := .int 1) (ty := .int) (C := RX14) (T := TX14) (N := 14) hx hb hts in_f_X20_type_RX14 tyX14 tyX14_ok nmX14 hown hK hP hD hS 1 rfl rfl 2 (by decide) (va_Nw.use rfl hZ0) (fun _ h9 => h9) rfl (by decide +kernel) rfl rfl (Nat.le_of_ble_eq_true rfl) dX20_type_75 (fun H locs hP hD hS => ?_)
        have hP : va_P (dC, dI) vwCl [(a0, .inr (21, [.ref a1, .ref a2, .ref a3, .ref a4, .ref a5, .ref a6, .ref a7, .ref a8, .int 0, .ref a9, .int 0, .int 0, .ref a10, .ref a11, .int 0, .ref a12, .int 0, .ref a13, .ref a14, .ref a15, .int 0, .ref a16, .ref a17, .int 0, .int 0, .ref a18, .int 0, .ref a19, .ref a20, .int 0])), (a3, .inr (15, [.ref a1, .ref a31, .int 1, .int 0, .int 0, .int 0, .int 0, .int 0, .int 0, .int 0, .int 0, .long 0, .int 0, .int 0])), (a31, .inl (k0, 4000, .inl (upd (fun _ => 0) (Int32.toNatClampNeg 0) (vp_nar .byte xx3))))] H := hP
        have hD : va_D A [(a0, .inr (21, [.ref a1, .ref a2, .ref a3, .ref a4, .ref a5, .ref a6, .ref a7, .ref a8, .int 0, .ref a9, .int 0, .int 0, .ref a10, .ref a11, .int 0, .ref a12, .int 0, .ref a13, .ref a14, .ref a15, .int 0, .ref a16, .ref a17, .int 0, .int 0, .ref a18, .int 0, .ref a19, .ref a20, .int 0])), (a3, .inr (15, [.ref a1, .ref a31, .int 1, .int 0, .int 0, .int 0, .int 0, .int 0, .int 0, .int 0, .int 0, .long 0, .int 0, .int 0])), (a31, .inl (k0, 4000, .inl (upd (fun _ => 0) (Int32.toNatClampNeg 0) (vp_nar .byte xx3))))] := hD
        refine lv_iinc (v := (-1)) (lv' := [(4, .int (-1)), (0, .ref a0), (1, .long y0), (3, .int 1)]) hx hb dX20_type_78 hl (k := 0) rfl (by decide +kernel) (by decide) rfl (fun ls hl => ?_)
        refine lv_goto (tgt := 36) hx hb dX20_type_81 (by decide) ?_
        refine lv_iload hx hb dX20_type_36 (lv_at hl 0 rfl) ?_
        refine lv_if_lt (tgt := 84) hx hb dX20_type_38 (by decide) (fun _ => ?_) (fun c9 => absurd (by decide +kernel) c9)
        refine lv_aload_n hx hb dX20_type_84 rfl (lv_at hl 1 rfl) ?_
        refine va_get (D := (dC, dI)) (ci := 21) (v := .ref a3) (C := RX20) (T := TX20) (N := 30) hx hb hts in_f_X20_type_RX20 hown hK hP 0 rfl rfl 2 (by decide) (hts (.fieldLink RX20 28 "TripleStoreModel" "lexer" "LTripleStoreModel$Lexer;") (List.mem_of_getElem? (i := 1) rfl)) (fun _ h9 => h9) rfl dX20_type_85 ?_
        refine va_getN (D := (dC, dI)) (ci := 15) (v := .int 1) (C := RX14) (T := TX14) (N := 14) hx hb hts in_f_X20_type_RX14 hown hK hP 1 rfl rfl 2 (by decide) (va_Nw.use rfl hZ0) (fun _ h9 => h9) rfl dX20_type_88 ?_
        refine W.widen (k := 0) (n := 0) (Nat.le_of_ble_eq_true rfl) (Nat.le_of_ble_eq_true rfl) ?_
        exact W.iret (v := 1) hx hb hr (fun t ht hW => ⟨⟨1, (), rfl, by rw [if_neg (by decide +kernel), if_pos (by decide +kernel)], trivial⟩, hS.F ht⟩) hS.2.2 dX20_type_91
      · refine lv_aload_n hx hb dX20_type_13 rfl (lv_at hl 0 rfl) ?_
        refine va_get (D := (dC, dI)) (ci := 21) (v := .ref a3) (C := RX20) (T := TX20) (N := 30) hx hb hts in_f_X20_type_RX20 hown hK hP 0 rfl rfl 2 (by decide) (hts (.fieldLink RX20 28 "TripleStoreModel" "lexer" "LTripleStoreModel$Lexer;") (List.mem_of_getElem? (i := 1) rfl)) (fun _ h9 => h9) rfl dX20_type_14 ?_
        refine va_getN (D := (dC, dI)) (ci := 15) (v := .int 0) (C := RX14) (T := TX14) (N := 14) hx hb hts in_f_X20_type_RX14 hown hK hP 1 rfl rfl 2 (by decide) (va_Nw.use rfl hZ0) (fun _ h9 => h9) rfl dX20_type_17 ?_
        refine lv_iload_n hx hb dX20_type_20 rfl (lv_at hl 2 rfl) ?_
        refine lv_iadd hx hb dX20_type_21 ?_
        refine W.eq (congrArg (fun z : Int32 => F0 m 22 ls (.int z :: [])) (by decide +kernel : ((0 : Int32) + 2 : Int32) = 2)) ?_
        refine lv_sipush (v := 4000) hx hb dX20_type_22 (by decide) ?_
        refine lv_icmp_le (tgt := 31) hx hb dX20_type_25 (by decide) (fun _ => ?_) (fun c9 => absurd (by decide +kernel) c9)
        refine lv_iload_n hx hb dX20_type_31 rfl (lv_at hl 2 rfl) ?_
        refine lv_iconst (v := 1) hx hb dX20_type_32 (by decide) ?_
        refine lv_isub hx hb dX20_type_33 ?_
        refine W.eq (congrArg (fun z : Int32 => F0 m 34 ls (.int z :: [])) (by decide +kernel : ((2 : Int32) - 1 : Int32) = 1)) ?_
        refine lv_istore (lv' := [(4, .int 1), (0, .ref a0), (1, .long y0), (3, .int 2)]) hx hb dX20_type_34 hl (by decide) rfl (fun ls hl => ?_)
        refine lv_iload hx hb dX20_type_36 (lv_at hl 0 rfl) ?_
        refine lv_if_lt (tgt := 84) hx hb dX20_type_38 (by decide) (fun c9 => absurd c9 (by decide +kernel)) (fun _ => ?_)
        refine lv_aload_n hx hb dX20_type_41 rfl (lv_at hl 1 rfl) ?_
        refine va_get (D := (dC, dI)) (ci := 21) (v := .ref a3) (C := RX20) (T := TX20) (N := 30) hx hb hts in_f_X20_type_RX20 hown hK hP 0 rfl rfl 2 (by decide) (hts (.fieldLink RX20 28 "TripleStoreModel" "lexer" "LTripleStoreModel$Lexer;") (List.mem_of_getElem? (i := 1) rfl)) (fun _ h9 => h9) rfl dX20_type_42 ?_
        refine va_getN (D := (dC, dI)) (ci := 15) (v := .ref a31) (C := RX14) (T := TX14) (N := 14) hx hb hts in_f_X20_type_RX14 hown hK hP 1 rfl rfl 1 (by decide) (va_Nw.use rfl hZ1) (fun _ h9 => h9) rfl dX20_type_45 ?_
        refine lv_aload_n hx hb dX20_type_48 rfl (lv_at hl 1 rfl) ?_
        refine va_get (D := (dC, dI)) (ci := 21) (v := .ref a3) (C := RX20) (T := TX20) (N := 30) hx hb hts in_f_X20_type_RX20 hown hK hP 0 rfl rfl 2 (by decide) (hts (.fieldLink RX20 28 "TripleStoreModel" "lexer" "LTripleStoreModel$Lexer;") (List.mem_of_getElem? (i := 1) rfl)) (fun _ h9 => h9) rfl dX20_type_49 ?_
        refine va_getN (D := (dC, dI)) (ci := 15) (v := .int 0) (C := RX14) (T := TX14) (N := 14) hx hb hts in_f_X20_type_RX14 hown hK hP 1 rfl rfl 2 (by decide) (va_Nw.use rfl hZ0) (fun _ h9 => h9) rfl dX20_type_52 ?_
        refine lv_lload_n hx hb dX20_type_55 rfl (lv_at hl 2 rfl) ?_
        refine lv_bipush (v := 8) hx hb dX20_type_56 (by decide) ?_
        refine lv_iload hx hb dX20_type_58 (lv_at hl 0 rfl) ?_
        refine lv_imul hx hb dX20_type_60 ?_
        refine W.eq (congrArg (fun z : Int32 => F0 m 61 ls (.int z :: [.long y0, .int 0, .ref a31])) (by decide +kernel : ((8 : Int32) * 1 : Int32) = 8)) ?_
        refine lv_lshr hx hb dX20_type_61 rfl ?_
        refine lv_topl (fun yy4 _ => ?_)
        refine lv_l2i hx hb dX20_type_62 rfl ?_
        refine lv_topi (fun xx5 _ => ?_)
        refine lv_i2b hx hb dX20_type_63 rfl ?_
        refine lv_topi (fun xx6 _ => ?_)
        refine va_bast (i := 0) (x := xx6) hx hb hK hP hD hS 2 0 rfl rfl (by unfold vp_in; decide +kernel) dX20_type_64 (fun H locs hP hD hS => ?_)
        have hP : va_P (dC, dI) vwCl [(a0, .inr (21, [.ref a1, .ref a2, .ref a3, .ref a4, .ref a5, .ref a6, .ref a7, .ref a8, .int 0, .ref a9, .int 0, .int 0, .ref a10, .ref a11, .int 0, .ref a12, .int 0, .ref a13, .ref a14, .ref a15, .int 0, .ref a16, .ref a17, .int 0, .int 0, .ref a18, .int 0, .ref a19, .ref a20, .int 0])), (a3, .inr (15, [.ref a1, .ref a31, .int 0, .int 0, .int 0, .int 0, .int 0, .int 0, .int 0, .int 0, .int 0, .long 0, .int 0, .int 0])), (a31, .inl (k0, 4000, .inl (upd (fun _ => 0) (Int32.toNatClampNeg 0) (vp_nar .byte xx6))))] H := hP
        have hD : va_D A [(a0, .inr (21, [.ref a1, .ref a2, .ref a3, .ref a4, .ref a5, .ref a6, .ref a7, .ref a8, .int 0, .ref a9, .int 0, .int 0, .ref a10, .ref a11, .int 0, .ref a12, .int 0, .ref a13, .ref a14, .ref a15, .int 0, .ref a16, .ref a17, .int 0, .int 0, .ref a18, .int 0, .ref a19, .ref a20, .int 0])), (a3, .inr (15, [.ref a1, .ref a31, .int 0, .int 0, .int 0, .int 0, .int 0, .int 0, .int 0, .int 0, .int 0, .long 0, .int 0, .int 0])), (a31, .inl (k0, 4000, .inl (upd (fun _ => 0) (Int32.toNatClampNeg 0) (vp_nar .byte xx6))))] := hD
        refine lv_aload_n hx hb dX20_type_65 rfl (lv_at hl 1 rfl) ?_
        refine va_get (D := (dC, dI)) (ci := 21) (v := .ref a3) (C := RX20) (T := TX20) (N := 30) hx hb hts in_f_X20_type_RX20 hown hK hP 0 rfl rfl 2 (by decide) (hts (.fieldLink RX20 28 "TripleStoreModel" "lexer" "LTripleStoreModel$Lexer;") (List.mem_of_getElem? (i := 1) rfl)) (fun _ h9 => h9) rfl dX20_type_66 ?_
        refine lv_dup hx hb dX20_type_69 rfl ?_
        refine va_getN (D := (dC, dI)) (ci := 15) (v := .int 0) (C := RX14) (T := TX14) (N := 14) hx hb hts in_f_X20_type_RX14 hown hK hP 1 rfl rfl 2 (by decide) (va_Nw.use rfl hZ0) (fun _ h9 => h9) rfl dX20_type_70 ?_
        refine lv_iconst (v := 1) hx hb dX20_type_73 (by decide) ?_
        refine lv_iadd hx hb dX20_type_74 ?_
        refine W.eq (congrArg (fun z : Int32 => F0 m 75 ls (.int z :: [.ref a3])) (by decide +kernel : ((0 : Int32) + 1 : Int32) = 1)) ?_
        refine va_putN (D := (dC, dI)) (ci := 15) (v := .int 1) (ty := .int) (C := RX14) (T := TX14) (N := 14) hx hb hts in_f_X20_type_RX14 tyX14 tyX14_ok nmX14 hown hK hP hD hS 1 rfl rfl 2 (by decide) (va_Nw.use rfl hZ0) (fun _ h9 => h9) rfl (by decide +kernel) rfl rfl (Nat.le_of_ble_eq_true rfl) dX20_type_75 (fun H locs hP hD hS => ?_)
        have hP : va_P (dC, dI) vwCl [(a0, .inr (21, [.ref a1, .ref a2, .ref a3, .ref a4, .ref a5, .ref a6, .ref a7, .ref a8, .int 0, .ref a9, .int 0, .int 0, .ref a10, .ref a11, .int 0, .ref a12, .int 0, .ref a13, .ref a14, .ref a15, .int 0, .ref a16, .ref a17, .int 0, .int 0, .ref a18, .int 0, .ref a19, .ref a20, .int 0])), (a3, .inr (15, [.ref a1, .ref a31, .int 1, .int 0, .int 0, .int 0, .int 0, .int 0, .int 0, .int 0, .int 0, .long 0, .int 0, .int 0])), (a31, .inl (k0, 4000, .inl (upd (fun _ => 0) (Int32.toNatClampNeg 0) (vp_nar .byte xx6))))] H := hP
        have hD : va_D A [(a0, .inr (21, [.ref a1, .ref a2, .ref a3, .ref a4, .ref a5, .ref a6, .ref a7, .ref a8, .int 0, .ref a9, .int 0, .int 0, .ref a10, .ref a11, .int 0, .ref a12, .int 0, .ref a13, .ref a14, .ref a15, .int 0, .ref a16, .ref a17, .int 0, .int 0, .ref a18, .int 0, .ref a19, .ref a20, .int 0])), (a3, .inr (15, [.ref a1, .ref a31, .int 1, .int 0, .int 0, .int 0, .int 0, .int 0, .int 0, .int 0, .int 0, .long 0, .int 0, .int 0])), (a31, .inl (k0, 4000, .inl (upd (fun _ => 0) (Int32.toNatClampNeg 0) (vp_nar .byte xx6))))] := hD
        refine lv_iinc (v := 0) (lv' := [(4, .int 0), (0, .ref a0), (1, .long y0), (3, .int 2)]) hx hb dX20_type_78 hl (k := 0) rfl (by decide +kernel) (by decide) rfl (fun ls hl => ?_)
        refine lv_goto (tgt := 36) hx hb dX20_type_81 (by decide) ?_
        refine lv_iload hx hb dX20_type_36 (lv_at hl 0 rfl) ?_
        refine lv_if_lt (tgt := 84) hx hb dX20_type_38 (by decide) (fun c9 => absurd c9 (by decide +kernel)) (fun _ => ?_)
        refine lv_aload_n hx hb dX20_type_41 rfl (lv_at hl 1 rfl) ?_
        refine va_get (D := (dC, dI)) (ci := 21) (v := .ref a3) (C := RX20) (T := TX20) (N := 30) hx hb hts in_f_X20_type_RX20 hown hK hP 0 rfl rfl 2 (by decide) (hts (.fieldLink RX20 28 "TripleStoreModel" "lexer" "LTripleStoreModel$Lexer;") (List.mem_of_getElem? (i := 1) rfl)) (fun _ h9 => h9) rfl dX20_type_42 ?_
        refine va_getN (D := (dC, dI)) (ci := 15) (v := .ref a31) (C := RX14) (T := TX14) (N := 14) hx hb hts in_f_X20_type_RX14 hown hK hP 1 rfl rfl 1 (by decide) (va_Nw.use rfl hZ1) (fun _ h9 => h9) rfl dX20_type_45 ?_
        refine lv_aload_n hx hb dX20_type_48 rfl (lv_at hl 1 rfl) ?_
        refine va_get (D := (dC, dI)) (ci := 21) (v := .ref a3) (C := RX20) (T := TX20) (N := 30) hx hb hts in_f_X20_type_RX20 hown hK hP 0 rfl rfl 2 (by decide) (hts (.fieldLink RX20 28 "TripleStoreModel" "lexer" "LTripleStoreModel$Lexer;") (List.mem_of_getElem? (i := 1) rfl)) (fun _ h9 => h9) rfl dX20_type_49 ?_
        refine va_getN (D := (dC, dI)) (ci := 15) (v := .int 1) (C := RX14) (T := TX14) (N := 14) hx hb hts in_f_X20_type_RX14 hown hK hP 1 rfl rfl 2 (by decide) (va_Nw.use rfl hZ0) (fun _ h9 => h9) rfl dX20_type_52 ?_
        refine lv_lload_n hx hb dX20_type_55 rfl (lv_at hl 2 rfl) ?_
        refine lv_bipush (v := 8) hx hb dX20_type_56 (by decide) ?_
        refine lv_iload hx hb dX20_type_58 (lv_at hl 0 rfl) ?_
        refine lv_imul hx hb dX20_type_60 ?_
        refine W.eq (congrArg (fun z : Int32 => F0 m 61 ls (.int z :: [.long y0, .int 1, .ref a31])) (by decide +kernel : ((8 : Int32) * 0 : Int32) = 0)) ?_
        refine lv_lshr hx hb dX20_type_61 rfl ?_
        refine lv_topl (fun yy7 _ => ?_)
        refine lv_l2i hx hb dX20_type_62 rfl ?_
        refine lv_topi (fun xx8 _ => ?_)
        refine lv_i2b hx hb dX20_type_63 rfl ?_
        refine lv_topi (fun xx9 _ => ?_)
        refine va_bast (i := 1) (x := xx9) hx hb hK hP hD hS 2 0 rfl rfl (by unfold vp_in; decide +kernel) dX20_type_64 (fun H locs hP hD hS => ?_)
        have hP : va_P (dC, dI) vwCl [(a0, .inr (21, [.ref a1, .ref a2, .ref a3, .ref a4, .ref a5, .ref a6, .ref a7, .ref a8, .int 0, .ref a9, .int 0, .int 0, .ref a10, .ref a11, .int 0, .ref a12, .int 0, .ref a13, .ref a14, .ref a15, .int 0, .ref a16, .ref a17, .int 0, .int 0, .ref a18, .int 0, .ref a19, .ref a20, .int 0])), (a3, .inr (15, [.ref a1, .ref a31, .int 1, .int 0, .int 0, .int 0, .int 0, .int 0, .int 0, .int 0, .int 0, .long 0, .int 0, .int 0])), (a31, .inl (k0, 4000, .inl (upd (upd (fun _ => 0) (Int32.toNatClampNeg 0) (vp_nar .byte xx6)) (Int32.toNatClampNeg 1) (vp_nar .byte xx9))))] H := hP
        have hD : va_D A [(a0, .inr (21, [.ref a1, .ref a2, .ref a3, .ref a4, .ref a5, .ref a6, .ref a7, .ref a8, .int 0, .ref a9, .int 0, .int 0, .ref a10, .ref a11, .int 0, .ref a12, .int 0, .ref a13, .ref a14, .ref a15, .int 0, .ref a16, .ref a17, .int 0, .int 0, .ref a18, .int 0, .ref a19, .ref a20, .int 0])), (a3, .inr (15, [.ref a1, .ref a31, .int 1, .int 0, .int 0, .int 0, .int 0, .int 0, .int 0, .int 0, .int 0, .long 0, .int 0, .int 0])), (a31, .inl (k0, 4000, .inl (upd (upd (fun _ => 0) (Int32.toNatClampNeg 0) (vp_nar .byte xx6)) (Int32.toNatClampNeg 1) (vp_nar .byte xx9))))] := hD
        refine lv_aload_n hx hb dX20_type_65 rfl (lv_at hl 1 rfl) ?_
        refine va_get (D := (dC, dI)) (ci := 21) (v := .ref a3) (C := RX20) (T := TX20) (N := 30) hx hb hts in_f_X20_type_RX20 hown hK hP 0 rfl rfl 2 (by decide) (hts (.fieldLink RX20 28 "TripleStoreModel" "lexer" "LTripleStoreModel$Lexer;") (List.mem_of_getElem? (i := 1) rfl)) (fun _ h9 => h9) rfl dX20_type_66 ?_
        refine lv_dup hx hb dX20_type_69 rfl ?_
        refine va_getN (D := (dC, dI)) (ci := 15) (v := .int 1) (C := RX14) (T := TX14) (N := 14) hx hb hts in_f_X20_type_RX14 hown hK hP 1 rfl rfl 2 (by decide) (va_Nw.use rfl hZ0) (fun _ h9 => h9) rfl dX20_type_70 ?_
        refine lv_iconst (v := 1) hx hb dX20_type_73 (by decide) ?_
        refine lv_iadd hx hb dX20_type_74 ?_
        refine W.eq (congrArg (fun z : Int32 => F0 m 75 ls (.int z :: [.ref a3])) (by decide +kernel : ((1 : Int32) + 1 : Int32) = 2)) ?_
        refine va_putN (D := (dC, dI)) (ci := 15) (v := .int 2) (ty := .int) (C := RX14) (T := TX14) (N := 14) hx hb hts in_f_X20_type_RX14 tyX14 tyX14_ok nmX14 hown hK hP hD hS 1 rfl rfl 2 (by decide) (va_Nw.use rfl hZ0) (fun _ h9 => h9) rfl (by decide +kernel) rfl rfl (Nat.le_of_ble_eq_true rfl) dX20_type_75 (fun H locs hP hD hS => ?_)
        have hP : va_P (dC, dI) vwCl [(a0, .inr (21, [.ref a1, .ref a2, .ref a3, .ref a4, .ref a5, .ref a6, .ref a7, .ref a8, .int 0, .ref a9, .int 0, .int 0, .ref a10, .ref a11, .int 0, .ref a12, .int 0, .ref a13, .ref a14, .ref a15, .int 0, .ref a16, .ref a17, .int 0, .int 0, .ref a18, .int 0, .ref a19, .ref a20, .int 0])), (a3, .inr (15, [.ref a1, .ref a31, .int 2, .int 0, .int 0, .int 0, .int 0, .int 0, .int 0, .int 0, .int 0, .long 0, .int 0, .int 0])), (a31, .inl (k0, 4000, .inl (upd (upd (fun _ => 0) (Int32.toNatClampNeg 0) (vp_nar .byte xx6)) (Int32.toNatClampNeg 1) (vp_nar .byte xx9))))] H := hP
        have hD : va_D A [(a0, .inr (21, [.ref a1, .ref a2, .ref a3, .ref a4, .ref a5, .ref a6, .ref a7, .ref a8, .int 0, .ref a9, .int 0, .int 0, .ref a10, .ref a11, .int 0, .ref a12, .int 0, .ref a13, .ref a14, .ref a15, .int 0, .ref a16, .ref a17, .int 0, .int 0, .ref a18, .int 0, .ref a19, .ref a20, .int 0])), (a3, .inr (15, [.ref a1, .ref a31, .int 2, .int 0, .int 0, .int 0, .int 0, .int 0, .int 0, .int 0, .int 0, .long 0, .int 0, .int 0])), (a31, .inl (k0, 4000, .inl (upd (upd (fun _ => 0) (Int32.toNatClampNeg 0) (vp_nar .byte xx6)) (Int32.toNatClampNeg 1) (vp_nar .byte xx9))))] := hD
        refine lv_iinc (v := (-1)) (lv' := [(4, .int (-1)), (0, .ref a0), (1, .long y0), (3, .int 2)]) hx hb dX20_type_78 hl (k := 0) rfl (by decide +kernel) (by decide) rfl (fun ls hl => ?_)
        refine lv_goto (tgt := 36) hx hb dX20_type_81 (by decide) ?_
        refine lv_iload hx hb dX20_type_36 (lv_at hl 0 rfl) ?_
        refine lv_if_lt (tgt := 84) hx hb dX20_type_38 (by decide) (fun _ => ?_) (fun c9 => absurd (by decide +kernel) c9)
        refine lv_aload_n hx hb dX20_type_84 rfl (lv_at hl 1 rfl) ?_
        refine va_get (D := (dC, dI)) (ci := 21) (v := .ref a3) (C := RX20) (T := TX20) (N := 30) hx hb hts in_f_X20_type_RX20 hown hK hP 0 rfl rfl 2 (by decide) (hts (.fieldLink RX20 28 "TripleStoreModel" "lexer" "LTripleStoreModel$Lexer;") (List.mem_of_getElem? (i := 1) rfl)) (fun _ h9 => h9) rfl dX20_type_85 ?_
        refine va_getN (D := (dC, dI)) (ci := 15) (v := .int 2) (C := RX14) (T := TX14) (N := 14) hx hb hts in_f_X20_type_RX14 hown hK hP 1 rfl rfl 2 (by decide) (va_Nw.use rfl hZ0) (fun _ h9 => h9) rfl dX20_type_88 ?_
        refine W.widen (k := 0) (n := 0) (Nat.le_of_ble_eq_true rfl) (Nat.le_of_ble_eq_true rfl) ?_
        exact W.iret (v := 2) hx hb hr (fun t ht hW => ⟨⟨2, (), rfl, by rw [if_neg (by decide +kernel), if_pos (by decide +kernel)], trivial⟩, hS.F ht⟩) hS.2.2 dX20_type_91
      · refine lv_aload_n hx hb dX20_type_13 rfl (lv_at hl 0 rfl) ?_
        refine va_get (D := (dC, dI)) (ci := 21) (v := .ref a3) (C := RX20) (T := TX20) (N := 30) hx hb hts in_f_X20_type_RX20 hown hK hP 0 rfl rfl 2 (by decide) (hts (.fieldLink RX20 28 "TripleStoreModel" "lexer" "LTripleStoreModel$Lexer;") (List.mem_of_getElem? (i := 1) rfl)) (fun _ h9 => h9) rfl dX20_type_14 ?_
        refine va_getN (D := (dC, dI)) (ci := 15) (v := .int 0) (C := RX14) (T := TX14) (N := 14) hx hb hts in_f_X20_type_RX14 hown hK hP 1 rfl rfl 2 (by decide) (va_Nw.use rfl hZ0) (fun _ h9 => h9) rfl dX20_type_17 ?_
        refine lv_iload_n hx hb dX20_type_20 rfl (lv_at hl 2 rfl) ?_
        refine lv_iadd hx hb dX20_type_21 ?_
        refine W.eq (congrArg (fun z : Int32 => F0 m 22 ls (.int z :: [])) (by decide +kernel : ((0 : Int32) + 3 : Int32) = 3)) ?_
        refine lv_sipush (v := 4000) hx hb dX20_type_22 (by decide) ?_
        refine lv_icmp_le (tgt := 31) hx hb dX20_type_25 (by decide) (fun _ => ?_) (fun c9 => absurd (by decide +kernel) c9)
        refine lv_iload_n hx hb dX20_type_31 rfl (lv_at hl 2 rfl) ?_
        refine lv_iconst (v := 1) hx hb dX20_type_32 (by decide) ?_
        refine lv_isub hx hb dX20_type_33 ?_
        refine W.eq (congrArg (fun z : Int32 => F0 m 34 ls (.int z :: [])) (by decide +kernel : ((3 : Int32) - 1 : Int32) = 2)) ?_
        refine lv_istore (lv' := [(4, .int 2), (0, .ref a0), (1, .long y0), (3, .int 3)]) hx hb dX20_type_34 hl (by decide) rfl (fun ls hl => ?_)
        refine lv_iload hx hb dX20_type_36 (lv_at hl 0 rfl) ?_
        refine lv_if_lt (tgt := 84) hx hb dX20_type_38 (by decide) (fun c9 => absurd c9 (by decide +kernel)) (fun _ => ?_)
        refine lv_aload_n hx hb dX20_type_41 rfl (lv_at hl 1 rfl) ?_
        refine va_get (D := (dC, dI)) (ci := 21) (v := .ref a3) (C := RX20) (T := TX20) (N := 30) hx hb hts in_f_X20_type_RX20 hown hK hP 0 rfl rfl 2 (by decide) (hts (.fieldLink RX20 28 "TripleStoreModel" "lexer" "LTripleStoreModel$Lexer;") (List.mem_of_getElem? (i := 1) rfl)) (fun _ h9 => h9) rfl dX20_type_42 ?_
        refine va_getN (D := (dC, dI)) (ci := 15) (v := .ref a31) (C := RX14) (T := TX14) (N := 14) hx hb hts in_f_X20_type_RX14 hown hK hP 1 rfl rfl 1 (by decide) (va_Nw.use rfl hZ1) (fun _ h9 => h9) rfl dX20_type_45 ?_
        refine lv_aload_n hx hb dX20_type_48 rfl (lv_at hl 1 rfl) ?_
        refine va_get (D := (dC, dI)) (ci := 21) (v := .ref a3) (C := RX20) (T := TX20) (N := 30) hx hb hts in_f_X20_type_RX20 hown hK hP 0 rfl rfl 2 (by decide) (hts (.fieldLink RX20 28 "TripleStoreModel" "lexer" "LTripleStoreModel$Lexer;") (List.mem_of_getElem? (i := 1) rfl)) (fun _ h9 => h9) rfl dX20_type_49 ?_
        refine va_getN (D := (dC, dI)) (ci := 15) (v := .int 0) (C := RX14) (T := TX14) (N := 14) hx hb hts in_f_X20_type_RX14 hown hK hP 1 rfl rfl 2 (by decide) (va_Nw.use rfl hZ0) (fun _ h9 => h9) rfl dX20_type_52 ?_
        refine lv_lload_n hx hb dX20_type_55 rfl (lv_at hl 2 rfl) ?_
        refine lv_bipush (v := 8) hx hb dX20_type_56 (by decide) ?_
        refine lv_iload hx hb dX20_type_58 (lv_at hl 0 rfl) ?_
        refine lv_imul hx hb dX20_type_60 ?_
        refine W.eq (congrArg (fun z : Int32 => F0 m 61 ls (.int z :: [.long y0, .int 0, .ref a31])) (by decide +kernel : ((8 : Int32) * 2 : Int32) = 16)) ?_
        refine lv_lshr hx hb dX20_type_61 rfl ?_
        refine lv_topl (fun yy10 _ => ?_)
        refine lv_l2i hx hb dX20_type_62 rfl ?_
        refine lv_topi (fun xx11 _ => ?_)
        refine lv_i2b hx hb dX20_type_63 rfl ?_
        refine lv_topi (fun xx12 _ => ?_)
        refine va_bast (i := 0) (x := xx12) hx hb hK hP hD hS 2 0 rfl rfl (by unfold vp_in; decide +kernel) dX20_type_64 (fun H locs hP hD hS => ?_)
        have hP : va_P (dC, dI) vwCl [(a0, .inr (21, [.ref a1, .ref a2, .ref a3, .ref a4, .ref a5, .ref a6, .ref a7, .ref a8, .int 0, .ref a9, .int 0, .int 0, .ref a10, .ref a11, .int 0, .ref a12, .int 0, .ref a13, .ref a14, .ref a15, .int 0, .ref a16, .ref a17, .int 0, .int 0, .ref a18, .int 0, .ref a19, .ref a20, .int 0])), (a3, .inr (15, [.ref a1, .ref a31, .int 0, .int 0, .int 0, .int 0, .int 0, .int 0, .int 0, .int 0, .int 0, .long 0, .int 0, .int 0])), (a31, .inl (k0, 4000, .inl (upd (fun _ => 0) (Int32.toNatClampNeg 0) (vp_nar .byte xx12))))] H := hP
        have hD : va_D A [(a0, .inr (21, [.ref a1, .ref a2, .ref a3, .ref a4, .ref a5, .ref a6, .ref a7, .ref a8, .int 0, .ref a9, .int 0, .int 0, .ref a10, .ref a11, .int 0, .ref a12, .int 0, .ref a13, .ref a14, .ref a15, .int 0, .ref a16, .ref a17, .int 0, .int 0, .ref a18, .int 0, .ref a19, .ref a20, .int 0])), (a3, .inr (15, [.ref a1, .ref a31, .int 0, .int 0, .int 0, .int 0, .int 0, .int 0, .int 0, .int 0, .int 0, .long 0, .int 0, .int 0])), (a31, .inl (k0, 4000, .inl (upd (fun _ => 0) (Int32.toNatClampNeg 0) (vp_nar .byte xx12))))] := hD
        refine lv_aload_n hx hb dX20_type_65 rfl (lv_at hl 1 rfl) ?_
        refine va_get (D := (dC, dI)) (ci := 21) (v := .ref a3) (C := RX20) (T := TX20) (N := 30) hx hb hts in_f_X20_type_RX20 hown hK hP 0 rfl rfl 2 (by decide) (hts (.fieldLink RX20 28 "TripleStoreModel" "lexer" "LTripleStoreModel$Lexer;") (List.mem_of_getElem? (i := 1) rfl)) (fun _ h9 => h9) rfl dX20_type_66 ?_
        refine lv_dup hx hb dX20_type_69 rfl ?_
        refine va_getN (D := (dC, dI)) (ci := 15) (v := .int 0) (C := RX14) (T := TX14) (N := 14) hx hb hts in_f_X20_type_RX14 hown hK hP 1 rfl rfl 2 (by decide) (va_Nw.use rfl hZ0) (fun _ h9 => h9) rfl dX20_type_70 ?_
        refine lv_iconst (v := 1) hx hb dX20_type_73 (by decide) ?_
        refine lv_iadd hx hb dX20_type_74 ?_
        refine W.eq (congrArg (fun z : Int32 => F0 m 75 ls (.int z :: [.ref a3])) (by decide +kernel : ((0 : Int32) + 1 : Int32) = 1)) ?_
        refine va_putN (D := (dC, dI)) (ci := 15) (v := .int 1) (ty := .int) (C := RX14) (T := TX14) (N := 14) hx hb hts in_f_X20_type_RX14 tyX14 tyX14_ok nmX14 hown hK hP hD hS 1 rfl rfl 2 (by decide) (va_Nw.use rfl hZ0) (fun _ h9 => h9) rfl (by decide +kernel) rfl rfl (Nat.le_of_ble_eq_true rfl) dX20_type_75 (fun H locs hP hD hS => ?_)
        have hP : va_P (dC, dI) vwCl [(a0, .inr (21, [.ref a1, .ref a2, .ref a3, .ref a4, .ref a5, .ref a6, .ref a7, .ref a8, .int 0, .ref a9, .int 0, .int 0, .ref a10, .ref a11, .int 0, .ref a12, .int 0, .ref a13, .ref a14, .ref a15, .int 0, .ref a16, .ref a17, .int 0, .int 0, .ref a18, .int 0, .ref a19, .ref a20, .int 0])), (a3, .inr (15, [.ref a1, .ref a31, .int 1, .int 0, .int 0, .int 0, .int 0, .int 0, .int 0, .int 0, .int 0, .long 0, .int 0, .int 0])), (a31, .inl (k0, 4000, .inl (upd (fun _ => 0) (Int32.toNatClampNeg 0) (vp_nar .byte xx12))))] H := hP
        have hD : va_D A [(a0, .inr (21, [.ref a1, .ref a2, .ref a3, .ref a4, .ref a5, .ref a6, .ref a7, .ref a8, .int 0, .ref a9, .int 0, .int 0, .ref a10, .ref a11, .int 0, .ref a12, .int 0, .ref a13, .ref a14, .ref a15, .int 0, .ref a16, .ref a17, .int 0, .int 0, .ref a18, .int 0, .ref a19, .ref a20, .int 0])), (a3, .inr (15, [.ref a1, .ref a31, .int 1, .int 0, .int 0, .int 0, .int 0, .int 0, .int 0, .int 0, .int 0, .long 0, .int 0, .int 0])), (a31, .inl (k0, 4000, .inl (upd (fun _ => 0) (Int32.toNatClampNeg 0) (vp_nar .byte xx12))))] := hD
        refine lv_iinc (v := 1) (lv' := [(4, .int 1), (0, .ref a0), (1, .long y0), (3, .int 3)]) hx hb dX20_type_78 hl (k := 0) rfl (by decide +kernel) (by decide) rfl (fun ls hl => ?_)
        refine lv_goto (tgt := 36) hx hb dX20_type_81 (by decide) ?_
        refine lv_iload hx hb dX20_type_36 (lv_at hl 0 rfl) ?_
        refine lv_if_lt (tgt := 84) hx hb dX20_type_38 (by decide) (fun c9 => absurd c9 (by decide +kernel)) (fun _ => ?_)
        refine lv_aload_n hx hb dX20_type_41 rfl (lv_at hl 1 rfl) ?_
        refine va_get (D := (dC, dI)) (ci := 21) (v := .ref a3) (C := RX20) (T := TX20) (N := 30) hx hb hts in_f_X20_type_RX20 hown hK hP 0 rfl rfl 2 (by decide) (hts (.fieldLink RX20 28 "TripleStoreModel" "lexer" "LTripleStoreModel$Lexer;") (List.mem_of_getElem? (i := 1) rfl)) (fun _ h9 => h9) rfl dX20_type_42 ?_
        refine va_getN (D := (dC, dI)) (ci := 15) (v := .ref a31) (C := RX14) (T := TX14) (N := 14) hx hb hts in_f_X20_type_RX14 hown hK hP 1 rfl rfl 1 (by decide) (va_Nw.use rfl hZ1) (fun _ h9 => h9) rfl dX20_type_45 ?_
        refine lv_aload_n hx hb dX20_type_48 rfl (lv_at hl 1 rfl) ?_
        refine va_get (D := (dC, dI)) (ci := 21) (v := .ref a3) (C := RX20) (T := TX20) (N := 30) hx hb hts in_f_X20_type_RX20 hown hK hP 0 rfl rfl 2 (by decide) (hts (.fieldLink RX20 28 "TripleStoreModel" "lexer" "LTripleStoreModel$Lexer;") (List.mem_of_getElem? (i := 1) rfl)) (fun _ h9 => h9) rfl dX20_type_49 ?_
        refine va_getN (D := (dC, dI)) (ci := 15) (v := .int 1) (C := RX14) (T := TX14) (N := 14) hx hb hts in_f_X20_type_RX14 hown hK hP 1 rfl rfl 2 (by decide) (va_Nw.use rfl hZ0) (fun _ h9 => h9) rfl dX20_type_52 ?_
        refine lv_lload_n hx hb dX20_type_55 rfl (lv_at hl 2 rfl) ?_
        refine lv_bipush (v := 8) hx hb dX20_type_56 (by decide) ?_
        refine lv_iload hx hb dX20_type_58 (lv_at hl 0 rfl) ?_
        refine lv_imul hx hb dX20_type_60 ?_
        refine W.eq (congrArg (fun z : Int32 => F0 m 61 ls (.int z :: [.long y0, .int 1, .ref a31])) (by decide +kernel : ((8 : Int32) * 1 : Int32) = 8)) ?_
        refine lv_lshr hx hb dX20_type_61 rfl ?_
        refine lv_topl (fun yy13 _ => ?_)
        refine lv_l2i hx hb dX20_type_62 rfl ?_
        refine lv_topi (fun xx14 _ => ?_)
        refine lv_i2b hx hb dX20_type_63 rfl ?_
        refine lv_topi (fun xx15 _ => ?_)
        refine va_bast (i := 1) (x := xx15) hx hb hK hP hD hS 2 0 rfl rfl (by unfold vp_in; decide +kernel) dX20_type_64 (fun H locs hP hD hS => ?_)
        have hP : va_P (dC, dI) vwCl [(a0, .inr (21, [.ref a1, .ref a2, .ref a3, .ref a4, .ref a5, .ref a6, .ref a7, .ref a8, .int 0, .ref a9, .int 0, .int 0, .ref a10, .ref a11, .int 0, .ref a12, .int 0, .ref a13, .ref a14, .ref a15, .int 0, .ref a16, .ref a17, .int 0, .int 0, .ref a18, .int 0, .ref a19, .ref a20, .int 0])), (a3, .inr (15, [.ref a1, .ref a31, .int 1, .int 0, .int 0, .int 0, .int 0, .int 0, .int 0, .int 0, .int 0, .long 0, .int 0, .int 0])), (a31, .inl (k0, 4000, .inl (upd (upd (fun _ => 0) (Int32.toNatClampNeg 0) (vp_nar .byte xx12)) (Int32.toNatClampNeg 1) (vp_nar .byte xx15))))] H := hP
        have hD : va_D A [(a0, .inr (21, [.ref a1, .ref a2, .ref a3, .ref a4, .ref a5, .ref a6, .ref a7, .ref a8, .int 0, .ref a9, .int 0, .int 0, .ref a10, .ref a11, .int 0, .ref a12, .int 0, .ref a13, .ref a14, .ref a15, .int 0, .ref a16, .ref a17, .int 0, .int 0, .ref a18, .int 0, .ref a19, .ref a20, .int 0])), (a3, .inr (15, [.ref a1, .ref a31, .int 1, .int 0, .int 0, .int 0, .int 0, .int 0, .int 0, .int 0, .int 0, .long 0, .int 0, .int 0])), (a31, .inl (k0, 4000, .inl (upd (upd (fun _ => 0) (Int32.toNatClampNeg 0) (vp_nar .byte xx12)) (Int32.toNatClampNeg 1) (vp_nar .byte xx15))))] := hD
        refine lv_aload_n hx hb dX20_type_65 rfl (lv_at hl 1 rfl) ?_
        refine va_get (D := (dC, dI)) (ci := 21) (v := .ref a3) (C := RX20) (T := TX20) (N := 30) hx hb hts in_f_X20_type_RX20 hown hK hP 0 rfl rfl 2 (by decide) (hts (.fieldLink RX20 28 "TripleStoreModel" "lexer" "LTripleStoreModel$Lexer;") (List.mem_of_getElem? (i := 1) rfl)) (fun _ h9 => h9) rfl dX20_type_66 ?_
        refine lv_dup hx hb dX20_type_69 rfl ?_
        refine va_getN (D := (dC, dI)) (ci := 15) (v := .int 1) (C := RX14) (T := TX14) (N := 14) hx hb hts in_f_X20_type_RX14 hown hK hP 1 rfl rfl 2 (by decide) (va_Nw.use rfl hZ0) (fun _ h9 => h9) rfl dX20_type_70 ?_
        refine lv_iconst (v := 1) hx hb dX20_type_73 (by decide) ?_
        refine lv_iadd hx hb dX20_type_74 ?_
        refine W.eq (congrArg (fun z : Int32 => F0 m 75 ls (.int z :: [.ref a3])) (by decide +kernel : ((1 : Int32) + 1 : Int32) = 2)) ?_
        refine va_putN (D := (dC, dI)) (ci := 15) (v := .int 2) (ty := .int) (C := RX14) (T := TX14) (N := 14) hx hb hts in_f_X20_type_RX14 tyX14 tyX14_ok nmX14 hown hK hP hD hS 1 rfl rfl 2 (by decide) (va_Nw.use rfl hZ0) (fun _ h9 => h9) rfl (by decide +kernel) rfl rfl (Nat.le_of_ble_eq_true rfl) dX20_type_75 (fun H locs hP hD hS => ?_)
        have hP : va_P (dC, dI) vwCl [(a0, .inr (21, [.ref a1, .ref a2, .ref a3, .ref a4, .ref a5, .ref a6, .ref a7, .ref a8, .int 0, .ref a9, .int 0, .int 0, .ref a10, .ref a11, .int 0, .ref a12, .int 0, .ref a13, .ref a14, .ref a15, .int 0, .ref a16, .ref a17, .int 0, .int 0, .ref a18, .int 0, .ref a19, .ref a20, .int 0])), (a3, .inr (15, [.ref a1, .ref a31, .int 2, .int 0, .int 0, .int 0, .int 0, .int 0, .int 0, .int 0, .int 0, .long 0, .int 0, .int 0])), (a31, .inl (k0, 4000, .inl (upd (upd (fun _ => 0) (Int32.toNatClampNeg 0) (vp_nar .byte xx12)) (Int32.toNatClampNeg 1) (vp_nar .byte xx15))))] H := hP
        have hD : va_D A [(a0, .inr (21, [.ref a1, .ref a2, .ref a3, .ref a4, .ref a5, .ref a6, .ref a7, .ref a8, .int 0, .ref a9, .int 0, .int 0, .ref a10, .ref a11, .int 0, .ref a12, .int 0, .ref a13, .ref a14, .ref a15, .int 0, .ref a16, .ref a17, .int 0, .int 0, .ref a18, .int 0, .ref a19, .ref a20, .int 0])), (a3, .inr (15, [.ref a1, .ref a31, .int 2, .int 0, .int 0, .int 0, .int 0, .int 0, .int 0, .int 0, .int 0, .long 0, .int 0, .int 0])), (a31, .inl (k0, 4000, .inl (upd (upd (fun _ => 0) (Int32.toNatClampNeg 0) (vp_nar .byte xx12)) (Int32.toNatClampNeg 1) (vp_nar .byte xx15))))] := hD
        refine lv_iinc (v := 0) (lv' := [(4, .int 0), (0, .ref a0), (1, .long y0), (3, .int 3)]) hx hb dX20_type_78 hl (k := 0) rfl (by decide +kernel) (by decide) rfl (fun ls hl => ?_)
        refine lv_goto (tgt := 36) hx hb dX20_type_81 (by decide) ?_
        refine lv_iload hx hb dX20_type_36 (lv_at hl 0 rfl) ?_
        refine lv_if_lt (tgt := 84) hx hb dX20_type_38 (by decide) (fun c9 => absurd c9 (by decide +kernel)) (fun _ => ?_)
        refine lv_aload_n hx hb dX20_type_41 rfl (lv_at hl 1 rfl) ?_
        refine va_get (D := (dC, dI)) (ci := 21) (v := .ref a3) (C := RX20) (T := TX20) (N := 30) hx hb hts in_f_X20_type_RX20 hown hK hP 0 rfl rfl 2 (by decide) (hts (.fieldLink RX20 28 "TripleStoreModel" "lexer" "LTripleStoreModel$Lexer;") (List.mem_of_getElem? (i := 1) rfl)) (fun _ h9 => h9) rfl dX20_type_42 ?_
        refine va_getN (D := (dC, dI)) (ci := 15) (v := .ref a31) (C := RX14) (T := TX14) (N := 14) hx hb hts in_f_X20_type_RX14 hown hK hP 1 rfl rfl 1 (by decide) (va_Nw.use rfl hZ1) (fun _ h9 => h9) rfl dX20_type_45 ?_
        refine lv_aload_n hx hb dX20_type_48 rfl (lv_at hl 1 rfl) ?_
        refine va_get (D := (dC, dI)) (ci := 21) (v := .ref a3) (C := RX20) (T := TX20) (N := 30) hx hb hts in_f_X20_type_RX20 hown hK hP 0 rfl rfl 2 (by decide) (hts (.fieldLink RX20 28 "TripleStoreModel" "lexer" "LTripleStoreModel$Lexer;") (List.mem_of_getElem? (i := 1) rfl)) (fun _ h9 => h9) rfl dX20_type_49 ?_
        refine va_getN (D := (dC, dI)) (ci := 15) (v := .int 2) (C := RX14) (T := TX14) (N := 14) hx hb hts in_f_X20_type_RX14 hown hK hP 1 rfl rfl 2 (by decide) (va_Nw.use rfl hZ0) (fun _ h9 => h9) rfl dX20_type_52 ?_
        refine lv_lload_n hx hb dX20_type_55 rfl (lv_at hl 2 rfl) ?_
        refine lv_bipush (v := 8) hx hb dX20_type_56 (by decide) ?_
        refine lv_iload hx hb dX20_type_58 (lv_at hl 0 rfl) ?_
        refine lv_imul hx hb dX20_type_60 ?_
        refine W.eq (congrArg (fun z : Int32 => F0 m 61 ls (.int z :: [.long y0, .int 2, .ref a31])) (by decide +kernel : ((8 : Int32) * 0 : Int32) = 0)) ?_
        refine lv_lshr hx hb dX20_type_61 rfl ?_
        refine lv_topl (fun yy16 _ => ?_)
        refine lv_l2i hx hb dX20_type_62 rfl ?_
        refine lv_topi (fun xx17 _ => ?_)
        refine lv_i2b hx hb dX20_type_63 rfl ?_
        refine lv_topi (fun xx18 _ => ?_)
        refine va_bast (i := 2) (x := xx18) hx hb hK hP hD hS 2 0 rfl rfl (by unfold vp_in; decide +kernel) dX20_type_64 (fun H locs hP hD hS => ?_)
        have hP : va_P (dC, dI) vwCl [(a0, .inr (21, [.ref a1, .ref a2, .ref a3, .ref a4, .ref a5, .ref a6, .ref a7, .ref a8, .int 0, .ref a9, .int 0, .int 0, .ref a10, .ref a11, .int 0, .ref a12, .int 0, .ref a13, .ref a14, .ref a15, .int 0, .ref a16, .ref a17, .int 0, .int 0, .ref a18, .int 0, .ref a19, .ref a20, .int 0])), (a3, .inr (15, [.ref a1, .ref a31, .int 2, .int 0, .int 0, .int 0, .int 0, .int 0, .int 0, .int 0, .int 0, .long 0, .int 0, .int 0])), (a31, .inl (k0, 4000, .inl (upd (upd (upd (fun _ => 0) (Int32.toNatClampNeg 0) (vp_nar .byte xx12)) (Int32.toNatClampNeg 1) (vp_nar .byte xx15)) (Int32.toNatClampNeg 2) (vp_nar .byte xx18))))] H := hP
        have hD : va_D A [(a0, .inr (21, [.ref a1, .ref a2, .ref a3, .ref a4, .ref a5, .ref a6, .ref a7, .ref a8, .int 0, .ref a9, .int 0, .int 0, .ref a10, .ref a11, .int 0, .ref a12, .int 0, .ref a13, .ref a14, .ref a15, .int 0, .ref a16, .ref a17, .int 0, .int 0, .ref a18, .int 0, .ref a19, .ref a20, .int 0])), (a3, .inr (15, [.ref a1, .ref a31, .int 2, .int 0, .int 0, .int 0, .int 0, .int 0, .int 0, .int 0, .int 0, .long 0, .int 0, .int 0])), (a31, .inl (k0, 4000, .inl (upd (upd (upd (fun _ => 0) (Int32.toNatClampNeg 0) (vp_nar .byte xx12)) (Int32.toNatClampNeg 1) (vp_nar .byte xx15)) (Int32.toNatClampNeg 2) (vp_nar .byte xx18))))] := hD
        refine lv_aload_n hx hb dX20_type_65 rfl (lv_at hl 1 rfl) ?_
        refine va_get (D := (dC, dI)) (ci := 21) (v := .ref a3) (C := RX20) (T := TX20) (N := 30) hx hb hts in_f_X20_type_RX20 hown hK hP 0 rfl rfl 2 (by decide) (hts (.fieldLink RX20 28 "TripleStoreModel" "lexer" "LTripleStoreModel$Lexer;") (List.mem_of_getElem? (i := 1) rfl)) (fun _ h9 => h9) rfl dX20_type_66 ?_
        refine lv_dup hx hb dX20_type_69 rfl ?_
        refine va_getN (D := (dC, dI)) (ci := 15) (v := .int 2) (C := RX14) (T := TX14) (N := 14) hx hb hts in_f_X20_type_RX14 hown hK hP 1 rfl rfl 2 (by decide) (va_Nw.use rfl hZ0) (fun _ h9 => h9) rfl dX20_type_70 ?_
        refine lv_iconst (v := 1) hx hb dX20_type_73 (by decide) ?_
        refine lv_iadd hx hb dX20_type_74 ?_
        refine W.eq (congrArg (fun z : Int32 => F0 m 75 ls (.int z :: [.ref a3])) (by decide +kernel : ((2 : Int32) + 1 : Int32) = 3)) ?_
        refine va_putN (D := (dC, dI)) (ci := 15) (v := .int 3) (ty := .int) (C := RX14) (T := TX14) (N := 14) hx hb hts in_f_X20_type_RX14 tyX14 tyX14_ok nmX14 hown hK hP hD hS 1 rfl rfl 2 (by decide) (va_Nw.use rfl hZ0) (fun _ h9 => h9) rfl (by decide +kernel) rfl rfl (Nat.le_of_ble_eq_true rfl) dX20_type_75 (fun H locs hP hD hS => ?_)
        have hP : va_P (dC, dI) vwCl [(a0, .inr (21, [.ref a1, .ref a2, .ref a3, .ref a4, .ref a5, .ref a6, .ref a7, .ref a8, .int 0, .ref a9, .int 0, .int 0, .ref a10, .ref a11, .int 0, .ref a12, .int 0, .ref a13, .ref a14, .ref a15, .int 0, .ref a16, .ref a17, .int 0, .int 0, .ref a18, .int 0, .ref a19, .ref a20, .int 0])), (a3, .inr (15, [.ref a1, .ref a31, .int 3, .int 0, .int 0, .int 0, .int 0, .int 0, .int 0, .int 0, .int 0, .long 0, .int 0, .int 0])), (a31, .inl (k0, 4000, .inl (upd (upd (upd (fun _ => 0) (Int32.toNatClampNeg 0) (vp_nar .byte xx12)) (Int32.toNatClampNeg 1) (vp_nar .byte xx15)) (Int32.toNatClampNeg 2) (vp_nar .byte xx18))))] H := hP
        have hD : va_D A [(a0, .inr (21, [.ref a1, .ref a2, .ref a3, .ref a4, .ref a5, .ref a6, .ref a7, .ref a8, .int 0, .ref a9, .int 0, .int 0, .ref a10, .ref a11, .int 0, .ref a12, .int 0, .ref a13, .ref a14, .ref a15, .int 0, .ref a16, .ref a17, .int 0, .int 0, .ref a18, .int 0, .ref a19, .ref a20, .int 0])), (a3, .inr (15, [.ref a1, .ref a31, .int 3, .int 0, .int 0, .int 0, .int 0, .int 0, .int 0, .int 0, .int 0, .long 0, .int 0, .int 0])), (a31, .inl (k0, 4000, .inl (upd (upd (upd (fun _ => 0) (Int32.toNatClampNeg 0) (vp_nar .byte xx12)) (Int32.toNatClampNeg 1) (vp_nar .byte xx15)) (Int32.toNatClampNeg 2) (vp_nar .byte xx18))))] := hD
        refine lv_iinc (v := (-1)) (lv' := [(4, .int (-1)), (0, .ref a0), (1, .long y0), (3, .int 3)]) hx hb dX20_type_78 hl (k := 0) rfl (by decide +kernel) (by decide) rfl (fun ls hl => ?_)
        refine lv_goto (tgt := 36) hx hb dX20_type_81 (by decide) ?_
        refine lv_iload hx hb dX20_type_36 (lv_at hl 0 rfl) ?_
        refine lv_if_lt (tgt := 84) hx hb dX20_type_38 (by decide) (fun _ => ?_) (fun c9 => absurd (by decide +kernel) c9)
        refine lv_aload_n hx hb dX20_type_84 rfl (lv_at hl 1 rfl) ?_
        refine va_get (D := (dC, dI)) (ci := 21) (v := .ref a3) (C := RX20) (T := TX20) (N := 30) hx hb hts in_f_X20_type_RX20 hown hK hP 0 rfl rfl 2 (by decide) (hts (.fieldLink RX20 28 "TripleStoreModel" "lexer" "LTripleStoreModel$Lexer;") (List.mem_of_getElem? (i := 1) rfl)) (fun _ h9 => h9) rfl dX20_type_85 ?_
        refine va_getN (D := (dC, dI)) (ci := 15) (v := .int 3) (C := RX14) (T := TX14) (N := 14) hx hb hts in_f_X20_type_RX14 hown hK hP 1 rfl rfl 2 (by decide) (va_Nw.use rfl hZ0) (fun _ h9 => h9) rfl dX20_type_88 ?_
        refine W.widen (k := 0) (n := 0) (Nat.le_of_ble_eq_true rfl) (Nat.le_of_ble_eq_true rfl) ?_
        exact W.iret (v := 3) hx hb hr (fun t ht hW => ⟨⟨3, (), rfl, by rw [if_neg (by decide +kernel), if_pos (by decide +kernel)], trivial⟩, hS.F ht⟩) hS.2.2 dX20_type_91
      · refine lv_aload_n hx hb dX20_type_13 rfl (lv_at hl 0 rfl) ?_
        refine va_get (D := (dC, dI)) (ci := 21) (v := .ref a3) (C := RX20) (T := TX20) (N := 30) hx hb hts in_f_X20_type_RX20 hown hK hP 0 rfl rfl 2 (by decide) (hts (.fieldLink RX20 28 "TripleStoreModel" "lexer" "LTripleStoreModel$Lexer;") (List.mem_of_getElem? (i := 1) rfl)) (fun _ h9 => h9) rfl dX20_type_14 ?_
        refine va_getN (D := (dC, dI)) (ci := 15) (v := .int 0) (C := RX14) (T := TX14) (N := 14) hx hb hts in_f_X20_type_RX14 hown hK hP 1 rfl rfl 2 (by decide) (va_Nw.use rfl hZ0) (fun _ h9 => h9) rfl dX20_type_17 ?_
        refine lv_iload_n hx hb dX20_type_20 rfl (lv_at hl 2 rfl) ?_
        refine lv_iadd hx hb dX20_type_21 ?_
        refine W.eq (congrArg (fun z : Int32 => F0 m 22 ls (.int z :: [])) (by decide +kernel : ((0 : Int32) + 4 : Int32) = 4)) ?_
        refine lv_sipush (v := 4000) hx hb dX20_type_22 (by decide) ?_
        refine lv_icmp_le (tgt := 31) hx hb dX20_type_25 (by decide) (fun _ => ?_) (fun c9 => absurd (by decide +kernel) c9)
        refine lv_iload_n hx hb dX20_type_31 rfl (lv_at hl 2 rfl) ?_
        refine lv_iconst (v := 1) hx hb dX20_type_32 (by decide) ?_
        refine lv_isub hx hb dX20_type_33 ?_
        refine W.eq (congrArg (fun z : Int32 => F0 m 34 ls (.int z :: [])) (by decide +kernel : ((4 : Int32) - 1 : Int32) = 3)) ?_
        refine lv_istore (lv' := [(4, .int 3), (0, .ref a0), (1, .long y0), (3, .int 4)]) hx hb dX20_type_34 hl (by decide) rfl (fun ls hl => ?_)
        refine lv_iload hx hb dX20_type_36 (lv_at hl 0 rfl) ?_
        refine lv_if_lt (tgt := 84) hx hb dX20_type_38 (by decide) (fun c9 => absurd c9 (by decide +kernel)) (fun _ => ?_)
        refine lv_aload_n hx hb dX20_type_41 rfl (lv_at hl 1 rfl) ?_
        refine va_get (D := (dC, dI)) (ci := 21) (v := .ref a3) (C := RX20) (T := TX20) (N := 30) hx hb hts in_f_X20_type_RX20 hown hK hP 0 rfl rfl 2 (by decide) (hts (.fieldLink RX20 28 "TripleStoreModel" "lexer" "LTripleStoreModel$Lexer;") (List.mem_of_getElem? (i := 1) rfl)) (fun _ h9 => h9) rfl dX20_type_42 ?_
        refine va_getN (D := (dC, dI)) (ci := 15) (v := .ref a31) (C := RX14) (T := TX14) (N := 14) hx hb hts in_f_X20_type_RX14 hown hK hP 1 rfl rfl 1 (by decide) (va_Nw.use rfl hZ1) (fun _ h9 => h9) rfl dX20_type_45 ?_
        refine lv_aload_n hx hb dX20_type_48 rfl (lv_at hl 1 rfl) ?_
        refine va_get (D := (dC, dI)) (ci := 21) (v := .ref a3) (C := RX20) (T := TX20) (N := 30) hx hb hts in_f_X20_type_RX20 hown hK hP 0 rfl rfl 2 (by decide) (hts (.fieldLink RX20 28 "TripleStoreModel" "lexer" "LTripleStoreModel$Lexer;") (List.mem_of_getElem? (i := 1) rfl)) (fun _ h9 => h9) rfl dX20_type_49 ?_
        refine va_getN (D := (dC, dI)) (ci := 15) (v := .int 0) (C := RX14) (T := TX14) (N := 14) hx hb hts in_f_X20_type_RX14 hown hK hP 1 rfl rfl 2 (by decide) (va_Nw.use rfl hZ0) (fun _ h9 => h9) rfl dX20_type_52 ?_
        refine lv_lload_n hx hb dX20_type_55 rfl (lv_at hl 2 rfl) ?_
        refine lv_bipush (v := 8) hx hb dX20_type_56 (by decide) ?_
        refine lv_iload hx hb dX20_type_58 (lv_at hl 0 rfl) ?_
        refine lv_imul hx hb dX20_type_60 ?_
        refine W.eq (congrArg (fun z : Int32 => F0 m 61 ls (.int z :: [.long y0, .int 0, .ref a31])) (by decide +kernel : ((8 : Int32) * 3 : Int32) = 24)) ?_
        refine lv_lshr hx hb dX20_type_61 rfl ?_
        refine lv_topl (fun yy19 _ => ?_)
        refine lv_l2i hx hb dX20_type_62 rfl ?_
        refine lv_topi (fun xx20 _ => ?_)
        refine lv_i2b hx hb dX20_type_63 rfl ?_
        refine lv_topi (fun xx21 _ => ?_)
        refine va_bast (i := 0) (x := xx21) hx hb hK hP hD hS 2 0 rfl rfl (by unfold vp_in; decide +kernel) dX20_type_64 (fun H locs hP hD hS => ?_)
        have hP : va_P (dC, dI) vwCl [(a0, .inr (21, [.ref a1, .ref a2, .ref a3, .ref a4, .ref a5, .ref a6, .ref a7, .ref a8, .int 0, .ref a9, .int 0, .int 0, .ref a10, .ref a11, .int 0, .ref a12, .int 0, .ref a13, .ref a14, .ref a15, .int 0, .ref a16, .ref a17, .int 0, .int 0, .ref a18, .int 0, .ref a19, .ref a20, .int 0])), (a3, .inr (15, [.ref a1, .ref a31, .int 0, .int 0, .int 0, .int 0, .int 0, .int 0, .int 0, .int 0, .int 0, .long 0, .int 0, .int 0])), (a31, .inl (k0, 4000, .inl (upd (fun _ => 0) (Int32.toNatClampNeg 0) (vp_nar .byte xx21))))] H := hP
        have hD : va_D A [(a0, .inr (21, [.ref a1, .ref a2, .ref a3, .ref a4, .ref a5, .ref a6, .ref a7, .ref a8, .int 0, .ref a9, .int 0, .int 0, .ref a10, .ref a11, .int 0, .ref a12, .int 0, .ref a13, .ref a14, .ref a15, .int 0, .ref a16, .ref a17, .int 0, .int 0, .ref a18, .int 0, .ref a19, .ref a20, .int 0])), (a3, .inr (15, [.ref a1, .ref a31, .int 0, .int 0, .int 0, .int 0, .int 0, .int 0, .int 0, .int 0, .int 0, .long 0, .int 0, .int 0])), (a31, .inl (k0, 4000, .inl (upd (fun _ => 0) (Int32.toNatClampNeg 0) (vp_nar .byte xx21))))] := hD
        refine lv_aload_n hx hb dX20_type_65 rfl (lv_at hl 1 rfl) ?_
        refine va_get (D := (dC, dI)) (ci := 21) (v := .ref a3) (C := RX20) (T := TX20) (N := 30) hx hb hts in_f_X20_type_RX20 hown hK hP 0 rfl rfl 2 (by decide) (hts (.fieldLink RX20 28 "TripleStoreModel" "lexer" "LTripleStoreModel$Lexer;") (List.mem_of_getElem? (i := 1) rfl)) (fun _ h9 => h9) rfl dX20_type_66 ?_
        refine lv_dup hx hb dX20_type_69 rfl ?_
        refine va_getN (D := (dC, dI)) (ci := 15) (v := .int 0) (C := RX14) (T := TX14) (N := 14) hx hb hts in_f_X20_type_RX14 hown hK hP 1 rfl rfl 2 (by decide) (va_Nw.use rfl hZ0) (fun _ h9 => h9) rfl dX20_type_70 ?_
        refine lv_iconst (v := 1) hx hb dX20_type_73 (by decide) ?_
        refine lv_iadd hx hb dX20_type_74 ?_
        refine W.eq (congrArg (fun z : Int32 => F0 m 75 ls (.int z :: [.ref a3])) (by decide +kernel : ((0 : Int32) + 1 : Int32) = 1)) ?_
        refine va_putN (D := (dC, dI)) (ci := 15) (v := .int 1) (ty := .int) (C := RX14) (T := TX14) (N := 14) hx hb hts in_f_X20_type_RX14 tyX14 tyX14_ok nmX14 hown hK hP hD hS 1 rfl rfl 2 (by decide) (va_Nw.use rfl hZ0) (fun _ h9 => h9) rfl (by decide +kernel) rfl rfl (Nat.le_of_ble_eq_true rfl) dX20_type_75 (fun H locs hP hD hS => ?_)
        have hP : va_P (dC, dI) vwCl [(a0, .inr (21, [.ref a1, .ref a2, .ref a3, .ref a4, .ref a5, .ref a6, .ref a7, .ref a8, .int 0, .ref a9, .int 0, .int 0, .ref a10, .ref a11, .int 0, .ref a12, .int 0, .ref a13, .ref a14, .ref a15, .int 0, .ref a16, .ref a17, .int 0, .int 0, .ref a18, .int 0, .ref a19, .ref a20, .int 0])), (a3, .inr (15, [.ref a1, .ref a31, .int 1, .int 0, .int 0, .int 0, .int 0, .int 0, .int 0, .int 0, .int 0, .long 0, .int 0, .int 0])), (a31, .inl (k0, 4000, .inl (upd (fun _ => 0) (Int32.toNatClampNeg 0) (vp_nar .byte xx21))))] H := hP
        have hD : va_D A [(a0, .inr (21, [.ref a1, .ref a2, .ref a3, .ref a4, .ref a5, .ref a6, .ref a7, .ref a8, .int 0, .ref a9, .int 0, .int 0, .ref a10, .ref a11, .int 0, .ref a12, .int 0, .ref a13, .ref a14, .ref a15, .int 0, .ref a16, .ref a17, .int 0, .int 0, .ref a18, .int 0, .ref a19, .ref a20, .int 0])), (a3, .inr (15, [.ref a1, .ref a31, .int 1, .int 0, .int 0, .int 0, .int 0, .int 0, .int 0, .int 0, .int 0, .long 0, .int 0, .int 0])), (a31, .inl (k0, 4000, .inl (upd (fun _ => 0) (Int32.toNatClampNeg 0) (vp_nar .byte xx21))))] := hD
        refine lv_iinc (v := 2) (lv' := [(4, .int 2), (0, .ref a0), (1, .long y0), (3, .int 4)]) hx hb dX20_type_78 hl (k := 0) rfl (by decide +kernel) (by decide) rfl (fun ls hl => ?_)
        refine lv_goto (tgt := 36) hx hb dX20_type_81 (by decide) ?_
        refine lv_iload hx hb dX20_type_36 (lv_at hl 0 rfl) ?_
        refine lv_if_lt (tgt := 84) hx hb dX20_type_38 (by decide) (fun c9 => absurd c9 (by decide +kernel)) (fun _ => ?_)
        refine lv_aload_n hx hb dX20_type_41 rfl (lv_at hl 1 rfl) ?_
        refine va_get (D := (dC, dI)) (ci := 21) (v := .ref a3) (C := RX20) (T := TX20) (N := 30) hx hb hts in_f_X20_type_RX20 hown hK hP 0 rfl rfl 2 (by decide) (hts (.fieldLink RX20 28 "TripleStoreModel" "lexer" "LTripleStoreModel$Lexer;") (List.mem_of_getElem? (i := 1) rfl)) (fun _ h9 => h9) rfl dX20_type_42 ?_
        refine va_getN (D := (dC, dI)) (ci := 15) (v := .ref a31) (C := RX14) (T := TX14) (N := 14) hx hb hts in_f_X20_type_RX14 hown hK hP 1 rfl rfl 1 (by decide) (va_Nw.use rfl hZ1) (fun _ h9 => h9) rfl dX20_type_45 ?_
        refine lv_aload_n hx hb dX20_type_48 rfl (lv_at hl 1 rfl) ?_
        refine va_get (D := (dC, dI)) (ci := 21) (v := .ref a3) (C := RX20) (T := TX20) (N := 30) hx hb hts in_f_X20_type_RX20 hown hK hP 0 rfl rfl 2 (by decide) (hts (.fieldLink RX20 28 "TripleStoreModel" "lexer" "LTripleStoreModel$Lexer;") (List.mem_of_getElem? (i := 1) rfl)) (fun _ h9 => h9) rfl dX20_type_49 ?_
        refine va_getN (D := (dC, dI)) (ci := 15) (v := .int 1) (C := RX14) (T := TX14) (N := 14) hx hb hts in_f_X20_type_RX14 hown hK hP 1 rfl rfl 2 (by decide) (va_Nw.use rfl hZ0) (fun _ h9 => h9) rfl dX20_type_52 ?_
        refine lv_lload_n hx hb dX20_type_55 rfl (lv_at hl 2 rfl) ?_
        refine lv_bipush (v := 8) hx hb dX20_type_56 (by decide) ?_
        refine lv_iload hx hb dX20_type_58 (lv_at hl 0 rfl) ?_
        refine lv_imul hx hb dX20_type_60 ?_
        refine W.eq (congrArg (fun z : Int32 => F0 m 61 ls (.int z :: [.long y0, .int 1, .ref a31])) (by decide +kernel : ((8 : Int32) * 2 : Int32) = 16)) ?_
        refine lv_lshr hx hb dX20_type_61 rfl ?_
        refine lv_topl (fun yy22 _ => ?_)
        refine lv_l2i hx hb dX20_type_62 rfl ?_
        refine lv_topi (fun xx23 _ => ?_)
        refine lv_i2b hx hb dX20_type_63 rfl ?_
        refine lv_topi (fun xx24 _ => ?_)
        refine va_bast (i := 1) (x := xx24) hx hb hK hP hD hS 2 0 rfl rfl (by unfold vp_in; decide +kernel) dX20_type_64 (fun H locs hP hD hS => ?_)
        have hP : va_P (dC, dI) vwCl [(a0, .inr (21, [.ref a1, .ref a2, .ref a3, .ref a4, .ref a5, .ref a6, .ref a7, .ref a8, .int 0, .ref a9, .int 0, .int 0, .ref a10, .ref a11, .int 0, .ref a12, .int 0, .ref a13, .ref a14, .ref a15, .int 0, .ref a16, .ref a17, .int 0, .int 0, .ref a18, .int 0, .ref a19, .ref a20, .int 0])), (a3, .inr (15, [.ref a1, .ref a31, .int 1, .int 0, .int 0, .int 0, .int 0, .int 0, .int 0, .int 0, .int 0, .long 0, .int 0, .int 0])), (a31, .inl (k0, 4000, .inl (upd (upd (fun _ => 0) (Int32.toNatClampNeg 0) (vp_nar .byte xx21)) (Int32.toNatClampNeg 1) (vp_nar .byte xx24))))] H := hP
        have hD : va_D A [(a0, .inr (21, [.ref a1, .ref a2, .ref a3, .ref a4, .ref a5, .ref a6, .ref a7, .ref a8, .int 0, .ref a9, .int 0, .int 0, .ref a10, .ref a11, .int 0, .ref a12, .int 0, .ref a13, .ref a14, .ref a15, .int 0, .ref a16, .ref a17, .int 0, .int 0, .ref a18, .int 0, .ref a19, .ref a20, .int 0])), (a3, .inr (15, [.ref a1, .ref a31, .int 1, .int 0, .int 0, .int 0, .int 0, .int 0, .int 0, .int 0, .int 0, .long 0, .int 0, .int 0])), (a31, .inl (k0, 4000, .inl (upd (upd (fun _ => 0) (Int32.toNatClampNeg 0) (vp_nar .byte xx21)) (Int32.toNatClampNeg 1) (vp_nar .byte xx24))))] := hD
        refine lv_aload_n hx hb dX20_type_65 rfl (lv_at hl 1 rfl) ?_
        refine va_get (D := (dC, dI)) (ci := 21) (v := .ref a3) (C := RX20) (T := TX20) (N := 30) hx hb hts in_f_X20_type_RX20 hown hK hP 0 rfl rfl 2 (by decide) (hts (.fieldLink RX20 28 "TripleStoreModel" "lexer" "LTripleStoreModel$Lexer;") (List.mem_of_getElem? (i := 1) rfl)) (fun _ h9 => h9) rfl dX20_type_66 ?_
        refine lv_dup hx hb dX20_type_69 rfl ?_
        refine va_getN (D := (dC, dI)) (ci := 15) (v := .int 1) (C := RX14) (T := TX14) (N := 14) hx hb hts in_f_X20_type_RX14 hown hK hP 1 rfl rfl 2 (by decide) (va_Nw.use rfl hZ0) (fun _ h9 => h9) rfl dX20_type_70 ?_
        refine lv_iconst (v := 1) hx hb dX20_type_73 (by decide) ?_
        refine lv_iadd hx hb dX20_type_74 ?_
        refine W.eq (congrArg (fun z : Int32 => F0 m 75 ls (.int z :: [.ref a3])) (by decide +kernel : ((1 : Int32) + 1 : Int32) = 2)) ?_
        refine va_putN (D := (dC, dI)) (ci := 15) (v := .int 2) (ty := .int) (C := RX14) (T := TX14) (N := 14) hx hb hts in_f_X20_type_RX14 tyX14 tyX14_ok nmX14 hown hK hP hD hS 1 rfl rfl 2 (by decide) (va_Nw.use rfl hZ0) (fun _ h9 => h9) rfl (by decide +kernel) rfl rfl (Nat.le_of_ble_eq_true rfl) dX20_type_75 (fun H locs hP hD hS => ?_)
        have hP : va_P (dC, dI) vwCl [(a0, .inr (21, [.ref a1, .ref a2, .ref a3, .ref a4, .ref a5, .ref a6, .ref a7, .ref a8, .int 0, .ref a9, .int 0, .int 0, .ref a10, .ref a11, .int 0, .ref a12, .int 0, .ref a13, .ref a14, .ref a15, .int 0, .ref a16, .ref a17, .int 0, .int 0, .ref a18, .int 0, .ref a19, .ref a20, .int 0])), (a3, .inr (15, [.ref a1, .ref a31, .int 2, .int 0, .int 0, .int 0, .int 0, .int 0, .int 0, .int 0, .int 0, .long 0, .int 0, .int 0])), (a31, .inl (k0, 4000, .inl (upd (upd (fun _ => 0) (Int32.toNatClampNeg 0) (vp_nar .byte xx21)) (Int32.toNatClampNeg 1) (vp_nar .byte xx24))))] H := hP
        have hD : va_D A [(a0, .inr (21, [.ref a1, .ref a2, .ref a3, .ref a4, .ref a5, .ref a6, .ref a7, .ref a8, .int 0, .ref a9, .int 0, .int 0, .ref a10, .ref a11, .int 0, .ref a12, .int 0, .ref a13, .ref a14, .ref a15, .int 0, .ref a16, .ref a17, .int 0, .int 0, .ref a18, .int 0, .ref a19, .ref a20, .int 0])), (a3, .inr (15, [.ref a1, .ref a31, .int 2, .int 0, .int 0, .int 0, .int 0, .int 0, .int 0, .int 0, .int 0, .long 0, .int 0, .int 0])), (a31, .inl (k0, 4000, .inl (upd (upd (fun _ => 0) (Int32.toNatClampNeg 0) (vp_nar .byte xx21)) (Int32.toNatClampNeg 1) (vp_nar .byte xx24))))] := hD
        refine lv_iinc (v := 1) (lv' := [(4, .int 1), (0, .ref a0), (1, .long y0), (3, .int 4)]) hx hb dX20_type_78 hl (k := 0) rfl (by decide +kernel) (by decide) rfl (fun ls hl => ?_)
        refine lv_goto (tgt := 36) hx hb dX20_type_81 (by decide) ?_
        refine lv_iload hx hb dX20_type_36 (lv_at hl 0 rfl) ?_
        refine lv_if_lt (tgt := 84) hx hb dX20_type_38 (by decide) (fun c9 => absurd c9 (by decide +kernel)) (fun _ => ?_)
        refine lv_aload_n hx hb dX20_type_41 rfl (lv_at hl 1 rfl) ?_
        refine va_get (D := (dC, dI)) (ci := 21) (v := .ref a3) (C := RX20) (T := TX20) (N := 30) hx hb hts in_f_X20_type_RX20 hown hK hP 0 rfl rfl 2 (by decide) (hts (.fieldLink RX20 28 "TripleStoreModel" "lexer" "LTripleStoreModel$Lexer;") (List.mem_of_getElem? (i := 1) rfl)) (fun _ h9 => h9) rfl dX20_type_42 ?_
        refine va_getN (D := (dC, dI)) (ci := 15) (v := .ref a31) (C := RX14) (T := TX14) (N := 14) hx hb hts in_f_X20_type_RX14 hown hK hP 1 rfl rfl 1 (by decide) (va_Nw.use rfl hZ1) (fun _ h9 => h9) rfl dX20_type_45 ?_
        refine lv_aload_n hx hb dX20_type_48 rfl (lv_at hl 1 rfl) ?_
        refine va_get (D := (dC, dI)) (ci := 21) (v := .ref a3) (C := RX20) (T := TX20) (N := 30) hx hb hts in_f_X20_type_RX20 hown hK hP 0 rfl rfl 2 (by decide) (hts (.fieldLink RX20 28 "TripleStoreModel" "lexer" "LTripleStoreModel$Lexer;") (List.mem_of_getElem? (i := 1) rfl)) (fun _ h9 => h9) rfl dX20_type_49 ?_
        refine va_getN (D := (dC, dI)) (ci := 15) (v := .int 2) (C := RX14) (T := TX14) (N := 14) hx hb hts in_f_X20_type_RX14 hown hK hP 1 rfl rfl 2 (by decide) (va_Nw.use rfl hZ0) (fun _ h9 => h9) rfl dX20_type_52 ?_
        refine lv_lload_n hx hb dX20_type_55 rfl (lv_at hl 2 rfl) ?_
        refine lv_bipush (v := 8) hx hb dX20_type_56 (by decide) ?_
        refine lv_iload hx hb dX20_type_58 (lv_at hl 0 rfl) ?_
        refine lv_imul hx hb dX20_type_60 ?_
        refine W.eq (congrArg (fun z : Int32 => F0 m 61 ls (.int z :: [.long y0, .int 2, .ref a31])) (by decide +kernel : ((8 : Int32) * 1 : Int32) = 8)) ?_
        refine lv_lshr hx hb dX20_type_61 rfl ?_
        refine lv_topl (fun yy25 _ => ?_)
        refine lv_l2i hx hb dX20_type_62 rfl ?_
        refine lv_topi (fun xx26 _ => ?_)
        refine lv_i2b hx hb dX20_type_63 rfl ?_
        refine lv_topi (fun xx27 _ => ?_)
        refine va_bast (i := 2) (x := xx27) hx hb hK hP hD hS 2 0 rfl rfl (by unfold vp_in; decide +kernel) dX20_type_64 (fun H locs hP hD hS => ?_)
        have hP : va_P (dC, dI) vwCl [(a0, .inr (21, [.ref a1, .ref a2, .ref a3, .ref a4, .ref a5, .ref a6, .ref a7, .ref a8, .int 0, .ref a9, .int 0, .int 0, .ref a10, .ref a11, .int 0, .ref a12, .int 0, .ref a13, .ref a14, .ref a15, .int 0, .ref a16, .ref a17, .int 0, .int 0, .ref a18, .int 0, .ref a19, .ref a20, .int 0])), (a3, .inr (15, [.ref a1, .ref a31, .int 2, .int 0, .int 0, .int 0, .int 0, .int 0, .int 0, .int 0, .int 0, .long 0, .int 0, .int 0])), (a31, .inl (k0, 4000, .inl (upd (upd (upd (fun _ => 0) (Int32.toNatClampNeg 0) (vp_nar .byte xx21)) (Int32.toNatClampNeg 1) (vp_nar .byte xx24)) (Int32.toNatClampNeg 2) (vp_nar .byte xx27))))] H := hP
        have hD : va_D A [(a0, .inr (21, [.ref a1, .ref a2, .ref a3, .ref a4, .ref a5, .ref a6, .ref a7, .ref a8, .int 0, .ref a9, .int 0, .int 0, .ref a10, .ref a11, .int 0, .ref a12, .int 0, .ref a13, .ref a14, .ref a15, .int 0, .ref a16, .ref a17, .int 0, .int 0, .ref a18, .int 0, .ref a19, .ref a20, .int 0])), (a3, .inr (15, [.ref a1, .ref a31, .int 2, .int 0, .int 0, .int 0, .int 0, .int 0, .int 0, .int 0, .int 0, .long 0, .int 0, .int 0])), (a31, .inl (k0, 4000, .inl (upd (upd (upd (fun _ => 0) (Int32.toNatClampNeg 0) (vp_nar .byte xx21)) (Int32.toNatClampNeg 1) (vp_nar .byte xx24)) (Int32.toNatClampNeg 2) (vp_nar .byte xx27))))] := hD
        refine lv_aload_n hx hb dX20_type_65 rfl (lv_at hl 1 rfl) ?_
        refine va_get (D := (dC, dI)) (ci := 21) (v := .ref a3) (C := RX20) (T := TX20) (N := 30) hx hb hts in_f_X20_type_RX20 hown hK hP 0 rfl rfl 2 (by decide) (hts (.fieldLink RX20 28 "TripleStoreModel" "lexer" "LTripleStoreModel$Lexer;") (List.mem_of_getElem? (i := 1) rfl)) (fun _ h9 => h9) rfl dX20_type_66 ?_
        refine lv_dup hx hb dX20_type_69 rfl ?_
        refine va_getN (D := (dC, dI)) (ci := 15) (v := .int 2) (C := RX14) (T := TX14) (N := 14) hx hb hts in_f_X20_type_RX14 hown hK hP 1 rfl rfl 2 (by decide) (va_Nw.use rfl hZ0) (fun _ h9 => h9) rfl dX20_type_70 ?_
        refine lv_iconst (v := 1) hx hb dX20_type_73 (by decide) ?_
        refine lv_iadd hx hb dX20_type_74 ?_
        refine W.eq (congrArg (fun z : Int32 => F0 m 75 ls (.int z :: [.ref a3])) (by decide +kernel : ((2 : Int32) + 1 : Int32) = 3)) ?_
        refine va_putN (D := (dC, dI)) (ci := 15) (v := .int 3) (ty := .int) (C := RX14) (T := TX14) (N := 14) hx hb hts in_f_X20_type_RX14 tyX14 tyX14_ok nmX14 hown hK hP hD hS 1 rfl rfl 2 (by decide) (va_Nw.use rfl hZ0) (fun _ h9 => h9) rfl (by decide +kernel) rfl rfl (Nat.le_of_ble_eq_true rfl) dX20_type_75 (fun H locs hP hD hS => ?_)
        have hP : va_P (dC, dI) vwCl [(a0, .inr (21, [.ref a1, .ref a2, .ref a3, .ref a4, .ref a5, .ref a6, .ref a7, .ref a8, .int 0, .ref a9, .int 0, .int 0, .ref a10, .ref a11, .int 0, .ref a12, .int 0, .ref a13, .ref a14, .ref a15, .int 0, .ref a16, .ref a17, .int 0, .int 0, .ref a18, .int 0, .ref a19, .ref a20, .int 0])), (a3, .inr (15, [.ref a1, .ref a31, .int 3, .int 0, .int 0, .int 0, .int 0, .int 0, .int 0, .int 0, .int 0, .long 0, .int 0, .int 0])), (a31, .inl (k0, 4000, .inl (upd (upd (upd (fun _ => 0) (Int32.toNatClampNeg 0) (vp_nar .byte xx21)) (Int32.toNatClampNeg 1) (vp_nar .byte xx24)) (Int32.toNatClampNeg 2) (vp_nar .byte xx27))))] H := hP
        have hD : va_D A [(a0, .inr (21, [.ref a1, .ref a2, .ref a3, .ref a4, .ref a5, .ref a6, .ref a7, .ref a8, .int 0, .ref a9, .int 0, .int 0, .ref a10, .ref a11, .int 0, .ref a12, .int 0, .ref a13, .ref a14, .ref a15, .int 0, .ref a16, .ref a17, .int 0, .int 0, .ref a18, .int 0, .ref a19, .ref a20, .int 0])), (a3, .inr (15, [.ref a1, .ref a31, .int 3, .int 0, .int 0, .int 0, .int 0, .int 0, .int 0, .int 0, .int 0, .long 0, .int 0, .int 0])), (a31, .inl (k0, 4000, .inl (upd (upd (upd (fun _ => 0) (Int32.toNatClampNeg 0) (vp_nar .byte xx21)) (Int32.toNatClampNeg 1) (vp_nar .byte xx24)) (Int32.toNatClampNeg 2) (vp_nar .byte xx27))))] := hD
        refine lv_iinc (v := 0) (lv' := [(4, .int 0), (0, .ref a0), (1, .long y0), (3, .int 4)]) hx hb dX20_type_78 hl (k := 0) rfl (by decide +kernel) (by decide) rfl (fun ls hl => ?_)
        refine lv_goto (tgt := 36) hx hb dX20_type_81 (by decide) ?_
        refine lv_iload hx hb dX20_type_36 (lv_at hl 0 rfl) ?_
        refine lv_if_lt (tgt := 84) hx hb dX20_type_38 (by decide) (fun c9 => absurd c9 (by decide +kernel)) (fun _ => ?_)
        refine lv_aload_n hx hb dX20_type_41 rfl (lv_at hl 1 rfl) ?_
        refine va_get (D := (dC, dI)) (ci := 21) (v := .ref a3) (C := RX20) (T := TX20) (N := 30) hx hb hts in_f_X20_type_RX20 hown hK hP 0 rfl rfl 2 (by decide) (hts (.fieldLink RX20 28 "TripleStoreModel" "lexer" "LTripleStoreModel$Lexer;") (List.mem_of_getElem? (i := 1) rfl)) (fun _ h9 => h9) rfl dX20_type_42 ?_
        refine va_getN (D := (dC, dI)) (ci := 15) (v := .ref a31) (C := RX14) (T := TX14) (N := 14) hx hb hts in_f_X20_type_RX14 hown hK hP 1 rfl rfl 1 (by decide) (va_Nw.use rfl hZ1) (fun _ h9 => h9) rfl dX20_type_45 ?_
        refine lv_aload_n hx hb dX20_type_48 rfl (lv_at hl 1 rfl) ?_
        refine va_get (D := (dC, dI)) (ci := 21) (v := .ref a3) (C := RX20) (T := TX20) (N := 30) hx hb hts in_f_X20_type_RX20 hown hK hP 0 rfl rfl 2 (by decide) (hts (.fieldLink RX20 28 "TripleStoreModel" "lexer" "LTripleStoreModel$Lexer;") (List.mem_of_getElem? (i := 1) rfl)) (fun _ h9 => h9) rfl dX20_type_49 ?_
        refine va_getN (D := (dC, dI)) (ci := 15) (v := .int 3) (C := RX14) (T := TX14) (N := 14) hx hb hts in_f_X20_type_RX14 hown hK hP 1 rfl rfl 2 (by decide) (va_Nw.use rfl hZ0) (fun _ h9 => h9) rfl dX20_type_52 ?_
        refine lv_lload_n hx hb dX20_type_55 rfl (lv_at hl 2 rfl) ?_
        refine lv_bipush (v := 8) hx hb dX20_type_56 (by decide) ?_
        refine lv_iload hx hb dX20_type_58 (lv_at hl 0 rfl) ?_
        refine lv_imul hx hb dX20_type_60 ?_
        refine W.eq (congrArg (fun z : Int32 => F0 m 61 ls (.int z :: [.long y0, .int 3, .ref a31])) (by decide +kernel : ((8 : Int32) * 0 : Int32) = 0)) ?_
        refine lv_lshr hx hb dX20_type_61 rfl ?_
        refine lv_topl (fun yy28 _ => ?_)
        refine lv_l2i hx hb dX20_type_62 rfl ?_
        refine lv_topi (fun xx29 _ => ?_)
        refine lv_i2b hx hb dX20_type_63 rfl ?_
        refine lv_topi (fun xx30 _ => ?_)
        refine va_bast (i := 3) (x := xx30) hx hb hK hP hD hS 2 0 rfl rfl (by unfold vp_in; decide +kernel) dX20_type_64 (fun H locs hP hD hS => ?_)
        have hP : va_P (dC, dI) vwCl [(a0, .inr (21, [.ref a1, .ref a2, .ref a3, .ref a4, .ref a5, .ref a6, .ref a7, .ref a8, .int 0, .ref a9, .int 0, .int 0, .ref a10, .ref a11, .int 0, .ref a12, .int 0, .ref a13, .ref a14, .ref a15, .int 0, .ref a16, .ref a17, .int 0, .int 0, .ref a18, .int 0, .ref a19, .ref a20, .int 0])), (a3, .inr (15, [.ref a1, .ref a31, .int 3, .int 0, .int 0, .int 0, .int 0, .int 0, .int 0, .int 0, .int 0, .long 0, .int 0, .int 0])), (a31, .inl (k0, 4000, .inl (upd (upd (upd (upd (fun _ => 0) (Int32.toNatClampNeg 0) (vp_nar .byte xx21)) (Int32.toNatClampNeg 1) (vp_nar .byte xx24)) (Int32.toNatClampNeg 2) (vp_nar .byte xx27)) (Int32.toNatClampNeg 3) (vp_nar .byte xx30))))] H := hP
        have hD : va_D A [(a0, .inr (21, [.ref a1, .ref a2, .ref a3, .ref a4, .ref a5, .ref a6, .ref a7, .ref a8, .int 0, .ref a9, .int 0, .int 0, .ref a10, .ref a11, .int 0, .ref a12, .int 0, .ref a13, .ref a14, .ref a15, .int 0, .ref a16, .ref a17, .int 0, .int 0, .ref a18, .int 0, .ref a19, .ref a20, .int 0])), (a3, .inr (15, [.ref a1, .ref a31, .int 3, .int 0, .int 0, .int 0, .int 0, .int 0, .int 0, .int 0, .int 0, .long 0, .int 0, .int 0])), (a31, .inl (k0, 4000, .inl (upd (upd (upd (upd (fun _ => 0) (Int32.toNatClampNeg 0) (vp_nar .byte xx21)) (Int32.toNatClampNeg 1) (vp_nar .byte xx24)) (Int32.toNatClampNeg 2) (vp_nar .byte xx27)) (Int32.toNatClampNeg 3) (vp_nar .byte xx30))))] := hD
        refine lv_aload_n hx hb dX20_type_65 rfl (lv_at hl 1 rfl) ?_
        refine va_get (D := (dC, dI)) (ci := 21) (v := .ref a3) (C := RX20) (T := TX20) (N := 30) hx hb hts in_f_X20_type_RX20 hown hK hP 0 rfl rfl 2 (by decide) (hts (.fieldLink RX20 28 "TripleStoreModel" "lexer" "LTripleStoreModel$Lexer;") (List.mem_of_getElem? (i := 1) rfl)) (fun _ h9 => h9) rfl dX20_type_66 ?_
        refine lv_dup hx hb dX20_type_69 rfl ?_
        refine va_getN (D := (dC, dI)) (ci := 15) (v := .int 3) (C := RX14) (T := TX14) (N := 14) hx hb hts in_f_X20_type_RX14 hown hK hP 1 rfl rfl 2 (by decide) (va_Nw.use rfl hZ0) (fun _ h9 => h9) rfl dX20_type_70 ?_
        refine lv_iconst (v := 1) hx hb dX20_type_73 (by decide) ?_
        refine lv_iadd hx hb dX20_type_74 ?_
        refine W.eq (congrArg (fun z : Int32 => F0 m 75 ls (.int z :: [.ref a3])) (by decide +kernel : ((3 : Int32) + 1 : Int32) = 4)) ?_
        refine va_putN (D := (dC, dI)) (ci := 15) (v := .int 4) (ty := .int) (C := RX14) (T := TX14) (N := 14) hx hb hts in_f_X20_type_RX14 tyX14 tyX14_ok nmX14 hown hK hP hD hS 1 rfl rfl 2 (by decide) (va_Nw.use rfl hZ0) (fun _ h9 => h9) rfl (by decide +kernel) rfl rfl (Nat.le_of_ble_eq_true rfl) dX20_type_75 (fun H locs hP hD hS => ?_)
        have hP : va_P (dC, dI) vwCl [(a0, .inr (21, [.ref a1, .ref a2, .ref a3, .ref a4, .ref a5, .ref a6, .ref a7, .ref a8, .int 0, .ref a9, .int 0, .int 0, .ref a10, .ref a11, .int 0, .ref a12, .int 0, .ref a13, .ref a14, .ref a15, .int 0, .ref a16, .ref a17, .int 0, .int 0, .ref a18, .int 0, .ref a19, .ref a20, .int 0])), (a3, .inr (15, [.ref a1, .ref a31, .int 4, .int 0, .int 0, .int 0, .int 0, .int 0, .int 0, .int 0, .int 0, .long 0, .int 0, .int 0])), (a31, .inl (k0, 4000, .inl (upd (upd (upd (upd (fun _ => 0) (Int32.toNatClampNeg 0) (vp_nar .byte xx21)) (Int32.toNatClampNeg 1) (vp_nar .byte xx24)) (Int32.toNatClampNeg 2) (vp_nar .byte xx27)) (Int32.toNatClampNeg 3) (vp_nar .byte xx30))))] H := hP
        have hD : va_D A [(a0, .inr (21, [.ref a1, .ref a2, .ref a3, .ref a4, .ref a5, .ref a6, .ref a7, .ref a8, .int 0, .ref a9, .int 0, .int 0, .ref a10, .ref a11, .int 0, .ref a12, .int 0, .ref a13, .ref a14, .ref a15, .int 0, .ref a16, .ref a17, .int 0, .int 0, .ref a18, .int 0, .ref a19, .ref a20, .int 0])), (a3, .inr (15, [.ref a1, .ref a31, .int 4, .int 0, .int 0, .int 0, .int 0, .int 0, .int 0, .int 0, .int 0, .long 0, .int 0, .int 0])), (a31, .inl (k0, 4000, .inl (upd (upd (upd (upd (fun _ => 0) (Int32.toNatClampNeg 0) (vp_nar .byte xx21)) (Int32.toNatClampNeg 1) (vp_nar .byte xx24)) (Int32.toNatClampNeg 2) (vp_nar .byte xx27)) (Int32.toNatClampNeg 3) (vp_nar .byte xx30))))] := hD
        refine lv_iinc (v := (-1)) (lv' := [(4, .int (-1)), (0, .ref a0), (1, .long y0), (3, .int 4)]) hx hb dX20_type_78 hl (k := 0) rfl (by decide +kernel) (by decide) rfl (fun ls hl => ?_)
        refine lv_goto (tgt := 36) hx hb dX20_type_81 (by decide) ?_
        refine lv_iload hx hb dX20_type_36 (lv_at hl 0 rfl) ?_
        refine lv_if_lt (tgt := 84) hx hb dX20_type_38 (by decide) (fun _ => ?_) (fun c9 => absurd (by decide +kernel) c9)
        refine lv_aload_n hx hb dX20_type_84 rfl (lv_at hl 1 rfl) ?_
        refine va_get (D := (dC, dI)) (ci := 21) (v := .ref a3) (C := RX20) (T := TX20) (N := 30) hx hb hts in_f_X20_type_RX20 hown hK hP 0 rfl rfl 2 (by decide) (hts (.fieldLink RX20 28 "TripleStoreModel" "lexer" "LTripleStoreModel$Lexer;") (List.mem_of_getElem? (i := 1) rfl)) (fun _ h9 => h9) rfl dX20_type_85 ?_
        refine va_getN (D := (dC, dI)) (ci := 15) (v := .int 4) (C := RX14) (T := TX14) (N := 14) hx hb hts in_f_X20_type_RX14 hown hK hP 1 rfl rfl 2 (by decide) (va_Nw.use rfl hZ0) (fun _ h9 => h9) rfl dX20_type_88 ?_
        refine W.widen (k := 0) (n := 0) (Nat.le_of_ble_eq_true rfl) (Nat.le_of_ble_eq_true rfl) ?_
        exact W.iret (v := 4) hx hb hr (fun t ht hW => ⟨⟨4, (), rfl, by rw [if_neg (by decide +kernel), if_pos (by decide +kernel)], trivial⟩, hS.F ht⟩) hS.2.2 dX20_type_91
      · refine lv_aload_n hx hb dX20_type_13 rfl (lv_at hl 0 rfl) ?_
        refine va_get (D := (dC, dI)) (ci := 21) (v := .ref a3) (C := RX20) (T := TX20) (N := 30) hx hb hts in_f_X20_type_RX20 hown hK hP 0 rfl rfl 2 (by decide) (hts (.fieldLink RX20 28 "TripleStoreModel" "lexer" "LTripleStoreModel$Lexer;") (List.mem_of_getElem? (i := 1) rfl)) (fun _ h9 => h9) rfl dX20_type_14 ?_
        refine va_getN (D := (dC, dI)) (ci := 15) (v := .int 0) (C := RX14) (T := TX14) (N := 14) hx hb hts in_f_X20_type_RX14 hown hK hP 1 rfl rfl 2 (by decide) (va_Nw.use rfl hZ0) (fun _ h9 => h9) rfl dX20_type_17 ?_
        refine lv_iload_n hx hb dX20_type_20 rfl (lv_at hl 2 rfl) ?_
        refine lv_iadd hx hb dX20_type_21 ?_
        refine W.eq (congrArg (fun z : Int32 => F0 m 22 ls (.int z :: [])) (by decide +kernel : ((0 : Int32) + 5 : Int32) = 5)) ?_
        refine lv_sipush (v := 4000) hx hb dX20_type_22 (by decide) ?_
        refine lv_icmp_le (tgt := 31) hx hb dX20_type_25 (by decide) (fun _ => ?_) (fun c9 => absurd (by decide +kernel) c9)
        refine lv_iload_n hx hb dX20_type_31 rfl (lv_at hl 2 rfl) ?_
        refine lv_iconst (v := 1) hx hb dX20_type_32 (by decide) ?_
        refine lv_isub hx hb dX20_type_33 ?_
        refine W.eq (congrArg (fun z : Int32 => F0 m 34 ls (.int z :: [])) (by decide +kernel : ((5 : Int32) - 1 : Int32) = 4)) ?_
        refine lv_istore (lv' := [(4, .int 4), (0, .ref a0), (1, .long y0), (3, .int 5)]) hx hb dX20_type_34 hl (by decide) rfl (fun ls hl => ?_)
        refine lv_iload hx hb dX20_type_36 (lv_at hl 0 rfl) ?_
        refine lv_if_lt (tgt := 84) hx hb dX20_type_38 (by decide) (fun c9 => absurd c9 (by decide +kernel)) (fun _ => ?_)
        refine lv_aload_n hx hb dX20_type_41 rfl (lv_at hl 1 rfl) ?_
        refine va_get (D := (dC, dI)) (ci := 21) (v := .ref a3) (C := RX20) (T := TX20) (N := 30) hx hb hts in_f_X20_type_RX20 hown hK hP 0 rfl rfl 2 (by decide) (hts (.fieldLink RX20 28 "TripleStoreModel" "lexer" "LTripleStoreModel$Lexer;") (List.mem_of_getElem? (i := 1) rfl)) (fun _ h9 => h9) rfl dX20_type_42 ?_
        refine va_getN (D := (dC, dI)) (ci := 15) (v := .ref a31) (C := RX14) (T := TX14) (N := 14) hx hb hts in_f_X20_type_RX14 hown hK hP 1 rfl rfl 1 (by decide) (va_Nw.use rfl hZ1) (fun _ h9 => h9) rfl dX20_type_45 ?_
        refine lv_aload_n hx hb dX20_type_48 rfl (lv_at hl 1 rfl) ?_
        refine va_get (D := (dC, dI)) (ci := 21) (v := .ref a3) (C := RX20) (T := TX20) (N := 30) hx hb hts in_f_X20_type_RX20 hown hK hP 0 rfl rfl 2 (by decide) (hts (.fieldLink RX20 28 "TripleStoreModel" "lexer" "LTripleStoreModel$Lexer;") (List.mem_of_getElem? (i := 1) rfl)) (fun _ h9 => h9) rfl dX20_type_49 ?_
        refine va_getN (D := (dC, dI)) (ci := 15) (v := .int 0) (C := RX14) (T := TX14) (N := 14) hx hb hts in_f_X20_type_RX14 hown hK hP 1 rfl rfl 2 (by decide) (va_Nw.use rfl hZ0) (fun _ h9 => h9) rfl dX20_type_52 ?_
        refine lv_lload_n hx hb dX20_type_55 rfl (lv_at hl 2 rfl) ?_
        refine lv_bipush (v := 8) hx hb dX20_type_56 (by decide) ?_
        refine lv_iload hx hb dX20_type_58 (lv_at hl 0 rfl) ?_
        refine lv_imul hx hb dX20_type_60 ?_
        refine W.eq (congrArg (fun z : Int32 => F0 m 61 ls (.int z :: [.long y0, .int 0, .ref a31])) (by decide +kernel : ((8 : Int32) * 4 : Int32) = 32)) ?_
        refine lv_lshr hx hb dX20_type_61 rfl ?_
        refine lv_topl (fun yy31 _ => ?_)
        refine lv_l2i hx hb dX20_type_62 rfl ?_
        refine lv_topi (fun xx32 _ => ?_)
        refine lv_i2b hx hb dX20_type_63 rfl ?_
        refine lv_topi (fun xx33 _ => ?_)
        refine va_bast (i := 0) (x := xx33) hx hb hK hP hD hS 2 0 rfl rfl (by unfold vp_in; decide +kernel) dX20_type_64 (fun H locs hP hD hS => ?_)
        have hP : va_P (dC, dI) vwCl [(a0, .inr (21, [.ref a1, .ref a2, .ref a3, .ref a4, .ref a5, .ref a6, .ref a7, .ref a8, .int 0, .ref a9, .int 0, .int 0, .ref a10, .ref a11, .int 0, .ref a12, .int 0, .ref a13, .ref a14, .ref a15, .int 0, .ref a16, .ref a17, .int 0, .int 0, .ref a18, .int 0, .ref a19, .ref a20, .int 0])), (a3, .inr (15, [.ref a1, .ref a31, .int 0, .int 0, .int 0, .int 0, .int 0, .int 0, .int 0, .int 0, .int 0, .long 0, .int 0, .int 0])), (a31, .inl (k0, 4000, .inl (upd (fun _ => 0) (Int32.toNatClampNeg 0) (vp_nar .byte xx33))))] H := hP
        have hD : va_D A [(a0, .inr (21, [.ref a1, .ref a2, .ref a3, .ref a4, .ref a5, .ref a6, .ref a7, .ref a8, .int 0, .ref a9, .int 0, .int 0, .ref a10, .ref a11, .int 0, .ref a12, .int 0, .ref a13, .ref a14, .ref a15, .int 0, .ref a16, .ref a17, .int 0, .int 0, .ref a18, .int 0, .ref a19, .ref a20, .int 0])), (a3, .inr (15, [.ref a1, .ref a31, .int 0, .int 0, .int 0, .int 0, .int 0, .int 0, .int 0, .int 0, .int 0, .long 0, .int 0, .int 0])), (a31, .inl (k0, 4000, .inl (upd (fun _ => 0) (Int32.toNatClampNeg 0) (vp_nar .byte xx33))))] := hD
        refine lv_aload_n hx hb dX20_type_65 rfl (lv_at hl 1 rfl) ?_
        refine va_get (D := (dC, dI)) (ci := 21) (v := .ref a3) (C := RX20) (T := TX20) (N := 30) hx hb hts in_f_X20_type_RX20 hown hK hP 0 rfl rfl 2 (by decide) (hts (.fieldLink RX20 28 "TripleStoreModel" "lexer" "LTripleStoreModel$Lexer;") (List.mem_of_getElem? (i := 1) rfl)) (fun _ h9 => h9) rfl dX20_type_66 ?_
        refine lv_dup hx hb dX20_type_69 rfl ?_
        refine va_getN (D := (dC, dI)) (ci := 15) (v := .int 0) (C := RX14) (T := TX14) (N := 14) hx hb hts in_f_X20_type_RX14 hown hK hP 1 rfl rfl 2 (by decide) (va_Nw.use rfl hZ0) (fun _ h9 => h9) rfl dX20_type_70 ?_
        refine lv_iconst (v := 1) hx hb dX20_type_73 (by decide) ?_
        refine lv_iadd hx hb dX20_type_74 ?_
        refine W.eq (congrArg (fun z : Int32 => F0 m 75 ls (.int z :: [.ref a3])) (by decide +kernel : ((0 : Int32) + 1 : Int32) = 1)) ?_
        refine va_putN (D := (dC, dI)) (ci := 15) (v := .int 1) (ty := .int) (C := RX14) (T := TX14) (N := 14) hx hb hts in_f_X20_type_RX14 tyX14 tyX14_ok nmX14 hown hK hP hD hS 1 rfl rfl 2 (by decide) (va_Nw.use rfl hZ0) (fun _ h9 => h9) rfl (by decide +kernel) rfl rfl (Nat.le_of_ble_eq_true rfl) dX20_type_75 (fun H locs hP hD hS => ?_)
        have hP : va_P (dC, dI) vwCl [(a0, .inr (21, [.ref a1, .ref a2, .ref a3, .ref a4, .ref a5, .ref a6, .ref a7, .ref a8, .int 0, .ref a9, .int 0, .int 0, .ref a10, .ref a11, .int 0, .ref a12, .int 0, .ref a13, .ref a14, .ref a15, .int 0, .ref a16, .ref a17, .int 0, .int 0, .ref a18, .int 0, .ref a19, .ref a20, .int 0])), (a3, .inr (15, [.ref a1, .ref a31, .int 1, .int 0, .int 0, .int 0, .int 0, .int 0, .int 0, .int 0, .int 0, .long 0, .int 0, .int 0])), (a31, .inl (k0, 4000, .inl (upd (fun _ => 0) (Int32.toNatClampNeg 0) (vp_nar .byte xx33))))] H := hP
        have hD : va_D A [(a0, .inr (21, [.ref a1, .ref a2, .ref a3, .ref a4, .ref a5, .ref a6, .ref a7, .ref a8, .int 0, .ref a9, .int 0, .int 0, .ref a10, .ref a11, .int 0, .ref a12, .int 0, .ref a13, .ref a14, .ref a15, .int 0, .ref a16, .ref a17, .int 0, .int 0, .ref a18, .int 0, .ref a19, .ref a20, .int 0])), (a3, .inr (15, [.ref a1, .ref a31, .int 1, .int 0, .int 0, .int 0, .int 0, .int 0, .int 0, .int 0, .int 0, .long 0, .int 0, .int 0])), (a31, .inl (k0, 4000, .inl (upd (fun _ => 0) (Int32.toNatClampNeg 0) (vp_nar .byte xx33))))] := hD
        refine lv_iinc (v := 3) (lv' := [(4, .int 3), (0, .ref a0), (1, .long y0), (3, .int 5)]) hx hb dX20_type_78 hl (k := 0) rfl (by decide +kernel) (by decide) rfl (fun ls hl => ?_)
        refine lv_goto (tgt := 36) hx hb dX20_type_81 (by decide) ?_
        refine lv_iload hx hb dX20_type_36 (lv_at hl 0 rfl) ?_
        refine lv_if_lt (tgt := 84) hx hb dX20_type_38 (by decide) (fun c9 => absurd c9 (by decide +kernel)) (fun _ => ?_)
        refine lv_aload_n hx hb dX20_type_41 rfl (lv_at hl 1 rfl) ?_
        refine va_get (D := (dC, dI)) (ci := 21) (v := .ref a3) (C := RX20) (T := TX20) (N := 30) hx hb hts in_f_X20_type_RX20 hown hK hP 0 rfl rfl 2 (by decide) (hts (.fieldLink RX20 28 "TripleStoreModel" "lexer" "LTripleStoreModel$Lexer;") (List.mem_of_getElem? (i := 1) rfl)) (fun _ h9 => h9) rfl dX20_type_42 ?_
        refine va_getN (D := (dC, dI)) (ci := 15) (v := .ref a31) (C := RX14) (T := TX14) (N := 14) hx hb hts in_f_X20_type_RX14 hown hK hP 1 rfl rfl 1 (by decide) (va_Nw.use rfl hZ1) (fun _ h9 => h9) rfl dX20_type_45 ?_
        refine lv_aload_n hx hb dX20_type_48 rfl (lv_at hl 1 rfl) ?_
        refine va_get (D := (dC, dI)) (ci := 21) (v := .ref a3) (C := RX20) (T := TX20) (N := 30) hx hb hts in_f_X20_type_RX20 hown hK hP 0 rfl rfl 2 (by decide) (hts (.fieldLink RX20 28 "TripleStoreModel" "lexer" "LTripleStoreModel$Lexer;") (List.mem_of_getElem? (i := 1) rfl)) (fun _ h9 => h9) rfl dX20_type_49 ?_
        refine va_getN (D := (dC, dI)) (ci := 15) (v := .int 1) (C := RX14) (T := TX14) (N := 14) hx hb hts in_f_X20_type_RX14 hown hK hP 1 rfl rfl 2 (by decide) (va_Nw.use rfl hZ0) (fun _ h9 => h9) rfl dX20_type_52 ?_
        refine lv_lload_n hx hb dX20_type_55 rfl (lv_at hl 2 rfl) ?_
        refine lv_bipush (v := 8) hx hb dX20_type_56 (by decide) ?_
        refine lv_iload hx hb dX20_type_58 (lv_at hl 0 rfl) ?_
        refine lv_imul hx hb dX20_type_60 ?_
        refine W.eq (congrArg (fun z : Int32 => F0 m 61 ls (.int z :: [.long y0, .int 1, .ref a31])) (by decide +kernel : ((8 : Int32) * 3 : Int32) = 24)) ?_
        refine lv_lshr hx hb dX20_type_61 rfl ?_
        refine lv_topl (fun yy34 _ => ?_)
        refine lv_l2i hx hb dX20_type_62 rfl ?_
        refine lv_topi (fun xx35 _ => ?_)
        refine lv_i2b hx hb dX20_type_63 rfl ?_
        refine lv_topi (fun xx36 _ => ?_)
        refine va_bast (i := 1) (x := xx36) hx hb hK hP hD hS 2 0 rfl rfl (by unfold vp_in; decide +kernel) dX20_type_64 (fun H locs hP hD hS => ?_)
        have hP : va_P (dC, dI) vwCl [(a0, .inr (21, [.ref a1, .ref a2, .ref a3, .ref a4, .ref a5, .ref a6, .ref a7, .ref a8, .int 0, .ref a9, .int 0, .int 0, .ref a10, .ref a11, .int 0, .ref a12, .int 0, .ref a13, .ref a14, .ref a15, .int 0, .ref a16, .ref a17, .int 0, .int 0, .ref a18, .int 0, .ref a19, .ref a20, .int 0])), (a3, .inr (15, [.ref a1, .ref a31, .int 1, .int 0, .int 0, .int 0, .int 0, .int 0, .int 0, .int 0, .int 0, .long 0, .int 0, .int 0])), (a31, .inl (k0, 4000, .inl (upd (upd (fun _ => 0) (Int32.toNatClampNeg 0) (vp_nar .byte xx33)) (Int32.toNatClampNeg 1) (vp_nar .byte xx36))))] H := hP
        have hD : va_D A [(a0, .inr (21, [.ref a1, .ref a2, .ref a3, .ref a4, .ref a5, .ref a6, .ref a7, .ref a8, .int 0, .ref a9, .int 0, .int 0, .ref a10, .ref a11, .int 0, .ref a12, .int 0, .ref a13, .ref a14, .ref a15, .int 0, .ref a16, .ref a17, .int 0, .int 0, .ref a18, .int 0, .ref a19, .ref a20, .int 0])), (a3, .inr (15, [.ref a1, .ref a31, .int 1, .int 0, .int 0, .int 0, .int 0, .int 0, .int 0, .int 0, .int 0, .long 0, .int 0, .int 0])), (a31, .inl (k0, 4000, .inl (upd (upd (fun _ => 0) (Int32.toNatClampNeg 0) (vp_nar .byte xx33)) (Int32.toNatClampNeg 1) (vp_nar .byte xx36))))] := hD
        refine lv_aload_n hx hb dX20_type_65 rfl (lv_at hl 1 rfl) ?_
        refine va_get (D := (dC, dI)) (ci := 21) (v := .ref a3) (C := RX20) (T := TX20) (N := 30) hx hb hts in_f_X20_type_RX20 hown hK hP 0 rfl rfl 2 (by decide) (hts (.fieldLink RX20 28 "TripleStoreModel" "lexer" "LTripleStoreModel$Lexer;") (List.mem_of_getElem? (i := 1) rfl)) (fun _ h9 => h9) rfl dX20_type_66 ?_
        refine lv_dup hx hb dX20_type_69 rfl ?_
        refine va_getN (D := (dC, dI)) (ci := 15) (v := .int 1) (C := RX14) (T := TX14) (N := 14) hx hb hts in_f_X20_type_RX14 hown hK hP 1 rfl rfl 2 (by decide) (va_Nw.use rfl hZ0) (fun _ h9 => h9) rfl dX20_type_70 ?_
        refine lv_iconst (v := 1) hx hb dX20_type_73 (by decide) ?_
        refine lv_iadd hx hb dX20_type_74 ?_
        refine W.eq (congrArg (fun z : Int32 => F0 m 75 ls (.int z :: [.ref a3])) (by decide +kernel : ((1 : Int32) + 1 : Int32) = 2)) ?_
        refine va_putN (D := (dC, dI)) (ci := 15) (v := .int 2) (ty := .int) (C := RX14) (T := TX14) (N := 14) hx hb hts in_f_X20_type_RX14 tyX14 tyX14_ok nmX14 hown hK hP hD hS 1 rfl rfl 2 (by decide) (va_Nw.use rfl hZ0) (fun _ h9 => h9) rfl (by decide +kernel) rfl rfl (Nat.le_of_ble_eq_true rfl) dX20_type_75 (fun H locs hP hD hS => ?_)
        have hP : va_P (dC, dI) vwCl [(a0, .inr (21, [.ref a1, .ref a2, .ref a3, .ref a4, .ref a5, .ref a6, .ref a7, .ref a8, .int 0, .ref a9, .int 0, .int 0, .ref a10, .ref a11, .int 0, .ref a12, .int 0, .ref a13, .ref a14, .ref a15, .int 0, .ref a16, .ref a17, .int 0, .int 0, .ref a18, .int 0, .ref a19, .ref a20, .int 0])), (a3, .inr (15, [.ref a1, .ref a31, .int 2, .int 0, .int 0, .int 0, .int 0, .int 0, .int 0, .int 0, .int 0, .long 0, .int 0, .int 0])), (a31, .inl (k0, 4000, .inl (upd (upd (fun _ => 0) (Int32.toNatClampNeg 0) (vp_nar .byte xx33)) (Int32.toNatClampNeg 1) (vp_nar .byte xx36))))] H := hP
        have hD : va_D A [(a0, .inr (21, [.ref a1, .ref a2, .ref a3, .ref a4, .ref a5, .ref a6, .ref a7, .ref a8, .int 0, .ref a9, .int 0, .int 0, .ref a10, .ref a11, .int 0, .ref a12, .int 0, .ref a13, .ref a14, .ref a15, .int 0, .ref a16, .ref a17, .int 0, .int 0, .ref a18, .int 0, .ref a19, .ref a20, .int 0])), (a3, .inr (15, [.ref a1, .ref a31, .int 2, .int 0, .int 0, .int 0, .int 0, .int 0, .int 0, .int 0, .int 0, .long 0, .int 0, .int 0])), (a31, .inl (k0, 4000, .inl (upd (upd (fun _ => 0) (Int32.toNatClampNeg 0) (vp_nar .byte xx33)) (Int32.toNatClampNeg 1) (vp_nar .byte xx36))))] := hD
        refine lv_iinc (v := 2) (lv' := [(4, .int 2), (0, .ref a0), (1, .long y0), (3, .int 5)]) hx hb dX20_type_78 hl (k := 0) rfl (by decide +kernel) (by decide) rfl (fun ls hl => ?_)
        refine lv_goto (tgt := 36) hx hb dX20_type_81 (by decide) ?_
        refine lv_iload hx hb dX20_type_36 (lv_at hl 0 rfl) ?_
        refine lv_if_lt (tgt := 84) hx hb dX20_type_38 (by decide) (fun c9 => absurd c9 (by decide +kernel)) (fun _ => ?_)
        refine lv_aload_n hx hb dX20_type_41 rfl (lv_at hl 1 rfl) ?_
        refine va_get (D := (dC, dI)) (ci := 21) (v := .ref a3) (C := RX20) (T := TX20) (N := 30) hx hb hts in_f_X20_type_RX20 hown hK hP 0 rfl rfl 2 (by decide) (hts (.fieldLink RX20 28 "TripleStoreModel" "lexer" "LTripleStoreModel$Lexer;") (List.mem_of_getElem? (i := 1) rfl)) (fun _ h9 => h9) rfl dX20_type_42 ?_
        refine va_getN (D := (dC, dI)) (ci := 15) (v := .ref a31) (C := RX14) (T := TX14) (N := 14) hx hb hts in_f_X20_type_RX14 hown hK hP 1 rfl rfl 1 (by decide) (va_Nw.use rfl hZ1) (fun _ h9 => h9) rfl dX20_type_45 ?_
        refine lv_aload_n hx hb dX20_type_48 rfl (lv_at hl 1 rfl) ?_
        refine va_get (D := (dC, dI)) (ci := 21) (v := .ref a3) (C := RX20) (T := TX20) (N := 30) hx hb hts in_f_X20_type_RX20 hown hK hP 0 rfl rfl 2 (by decide) (hts (.fieldLink RX20 28 "TripleStoreModel" "lexer" "LTripleStoreModel$Lexer;") (List.mem_of_getElem? (i := 1) rfl)) (fun _ h9 => h9) rfl dX20_type_49 ?_
        refine va_getN (D := (dC, dI)) (ci := 15) (v := .int 2) (C := RX14) (T := TX14) (N := 14) hx hb hts in_f_X20_type_RX14 hown hK hP 1 rfl rfl 2 (by decide) (va_Nw.use rfl hZ0) (fun _ h9 => h9) rfl dX20_type_52 ?_
        refine lv_lload_n hx hb dX20_type_55 rfl (lv_at hl 2 rfl) ?_
        refine lv_bipush (v := 8) hx hb dX20_type_56 (by decide) ?_
        refine lv_iload hx hb dX20_type_58 (lv_at hl 0 rfl) ?_
        refine lv_imul hx hb dX20_type_60 ?_
        refine W.eq (congrArg (fun z : Int32 => F0 m 61 ls (.int z :: [.long y0, .int 2, .ref a31])) (by decide +kernel : ((8 : Int32) * 2 : Int32) = 16)) ?_
        refine lv_lshr hx hb dX20_type_61 rfl ?_
        refine lv_topl (fun yy37 _ => ?_)
        refine lv_l2i hx hb dX20_type_62 rfl ?_
        refine lv_topi (fun xx38 _ => ?_)
        refine lv_i2b hx hb dX20_type_63 rfl ?_
        refine lv_topi (fun xx39 _ => ?_)
        refine va_bast (i := 2) (x := xx39) hx hb hK hP hD hS 2 0 rfl rfl (by unfold vp_in; decide +kernel) dX20_type_64 (fun H locs hP hD hS => ?_)
        have hP : va_P (dC, dI) vwCl [(a0, .inr (21, [.ref a1, .ref a2, .ref a3, .ref a4, .ref a5, .ref a6, .ref a7, .ref a8, .int 0, .ref a9, .int 0, .int 0, .ref a10, .ref a11, .int 0, .ref a12, .int 0, .ref a13, .ref a14, .ref a15, .int 0, .ref a16, .ref a17, .int 0, .int 0, .ref a18, .int 0, .ref a19, .ref a20, .int 0])), (a3, .inr (15, [.ref a1, .ref a31, .int 2, .int 0, .int 0, .int 0, .int 0, .int 0, .int 0, .int 0, .int 0, .long 0, .int 0, .int 0])), (a31, .inl (k0, 4000, .inl (upd (upd (upd (fun _ => 0) (Int32.toNatClampNeg 0) (vp_nar .byte xx33)) (Int32.toNatClampNeg 1) (vp_nar .byte xx36)) (Int32.toNatClampNeg 2) (vp_nar .byte xx39))))] H := hP
        have hD : va_D A [(a0, .inr (21, [.ref a1, .ref a2, .ref a3, .ref a4, .ref a5, .ref a6, .ref a7, .ref a8, .int 0, .ref a9, .int 0, .int 0, .ref a10, .ref a11, .int 0, .ref a12, .int 0, .ref a13, .ref a14, .ref a15, .int 0, .ref a16, .ref a17, .int 0, .int 0, .ref a18, .int 0, .ref a19, .ref a20, .int 0])), (a3, .inr (15, [.ref a1, .ref a31, .int 2, .int 0, .int 0, .int 0, .int 0, .int 0, .int 0, .int 0, .int 0, .long 0, .int 0, .int 0])), (a31, .inl (k0, 4000, .inl (upd (upd (upd (fun _ => 0) (Int32.toNatClampNeg 0) (vp_nar .byte xx33)) (Int32.toNatClampNeg 1) (vp_nar .byte xx36)) (Int32.toNatClampNeg 2) (vp_nar .byte xx39))))] := hD
        refine lv_aload_n hx hb dX20_type_65 rfl (lv_at hl 1 rfl) ?_
        refine va_get (D := (dC, dI)) (ci := 21) (v := .ref a3) (C := RX20) (T := TX20) (N := 30) hx hb hts in_f_X20_type_RX20 hown hK hP 0 rfl rfl 2 (by decide) (hts (.fieldLink RX20 28 "TripleStoreModel" "lexer" "LTripleStoreModel$Lexer;") (List.mem_of_getElem? (i := 1) rfl)) (fun _ h9 => h9) rfl dX20_type_66 ?_
        refine lv_dup hx hb dX20_type_69 rfl ?_
        refine va_getN (D := (dC, dI)) (ci := 15) (v := .int 2) (C := RX14) (T := TX14) (N := 14) hx hb hts in_f_X20_type_RX14 hown hK hP 1 rfl rfl 2 (by decide) (va_Nw.use rfl hZ0) (fun _ h9 => h9) rfl dX20_type_70 ?_
        refine lv_iconst (v := 1) hx hb dX20_type_73 (by decide) ?_
        refine lv_iadd hx hb dX20_type_74 ?_
        refine W.eq (congrArg (fun z : Int32 => F0 m 75 ls (.int z :: [.ref a3])) (by decide +kernel : ((2 : Int32) + 1 : Int32) = 3)) ?_
        refine va_putN (D := (dC, dI)) (ci := 15) (v := .int 3) (ty := .int) (C := RX14) (T := TX14) (N := 14) hx hb hts in_f_X20_type_RX14 tyX14 tyX14_ok nmX14 hown hK hP hD hS 1 rfl rfl 2 (by decide) (va_Nw.use rfl hZ0) (fun _ h9 => h9) rfl (by decide +kernel) rfl rfl (Nat.le_of_ble_eq_true rfl) dX20_type_75 (fun H locs hP hD hS => ?_)
        have hP : va_P (dC, dI) vwCl [(a0, .inr (21, [.ref a1, .ref a2, .ref a3, .ref a4, .ref a5, .ref a6, .ref a7, .ref a8, .int 0, .ref a9, .int 0, .int 0, .ref a10, .ref a11, .int 0, .ref a12, .int 0, .ref a13, .ref a14, .ref a15, .int 0, .ref a16, .ref a17, .int 0, .int 0, .ref a18, .int 0, .ref a19, .ref a20, .int 0])), (a3, .inr (15, [.ref a1, .ref a31, .int 3, .int 0, .int 0, .int 0, .int 0, .int 0, .int 0, .int 0, .int 0, .long 0, .int 0, .int 0])), (a31, .inl (k0, 4000, .inl (upd (upd (upd (fun _ => 0) (Int32.toNatClampNeg 0) (vp_nar .byte xx33)) (Int32.toNatClampNeg 1) (vp_nar .byte xx36)) (Int32.toNatClampNeg 2) (vp_nar .byte xx39))))] H := hP
        have hD : va_D A [(a0, .inr (21, [.ref a1, .ref a2, .ref a3, .ref a4, .ref a5, .ref a6, .ref a7, .ref a8, .int 0, .ref a9, .int 0, .int 0, .ref a10, .ref a11, .int 0, .ref a12, .int 0, .ref a13, .ref a14, .ref a15, .int 0, .ref a16, .ref a17, .int 0, .int 0, .ref a18, .int 0, .ref a19, .ref a20, .int 0])), (a3, .inr (15, [.ref a1, .ref a31, .int 3, .int 0, .int 0, .int 0, .int 0, .int 0, .int 0, .int 0, .int 0, .long 0, .int 0, .int 0])), (a31, .inl (k0, 4000, .inl (upd (upd (upd (fun _ => 0) (Int32.toNatClampNeg 0) (vp_nar .byte xx33)) (Int32.toNatClampNeg 1) (vp_nar .byte xx36)) (Int32.toNatClampNeg 2) (vp_nar .byte xx39))))] := hD
        refine lv_iinc (v := 1) (lv' := [(4, .int 1), (0, .ref a0), (1, .long y0), (3, .int 5)]) hx hb dX20_type_78 hl (k := 0) rfl (by decide +kernel) (by decide) rfl (fun ls hl => ?_)
        refine lv_goto (tgt := 36) hx hb dX20_type_81 (by decide) ?_
        refine lv_iload hx hb dX20_type_36 (lv_at hl 0 rfl) ?_
        refine lv_if_lt (tgt := 84) hx hb dX20_type_38 (by decide) (fun c9 => absurd c9 (by decide +kernel)) (fun _ => ?_)
        refine lv_aload_n hx hb dX20_type_41 rfl (lv_at hl 1 rfl) ?_
        refine va_get (D := (dC, dI)) (ci := 21) (v := .ref a3) (C := RX20) (T := TX20) (N := 30) hx hb hts in_f_X20_type_RX20 hown hK hP 0 rfl rfl 2 (by decide) (hts (.fieldLink RX20 28 "TripleStoreModel" "lexer" "LTripleStoreModel$Lexer;") (List.mem_of_getElem? (i := 1) rfl)) (fun _ h9 => h9) rfl dX20_type_42 ?_
        refine va_getN (D := (dC, dI)) (ci := 15) (v := .ref a31) (C := RX14) (T := TX14) (N := 14) hx hb hts in_f_X20_type_RX14 hown hK hP 1 rfl rfl 1 (by decide) (va_Nw.use rfl hZ1) (fun _ h9 => h9) rfl dX20_type_45 ?_
        refine lv_aload_n hx hb dX20_type_48 rfl (lv_at hl 1 rfl) ?_
        refine va_get (D := (dC, dI)) (ci := 21) (v := .ref a3) (C := RX20) (T := TX20) (N := 30) hx hb hts in_f_X20_type_RX20 hown hK hP 0 rfl rfl 2 (by decide) (hts (.fieldLink RX20 28 "TripleStoreModel" "lexer" "LTripleStoreModel$Lexer;") (List.mem_of_getElem? (i := 1) rfl)) (fun _ h9 => h9) rfl dX20_type_49 ?_
        refine va_getN (D := (dC, dI)) (ci := 15) (v := .int 3) (C := RX14) (T := TX14) (N := 14) hx hb hts in_f_X20_type_RX14 hown hK hP 1 rfl rfl 2 (by decide) (va_Nw.use rfl hZ0) (fun _ h9 => h9) rfl dX20_type_52 ?_
        refine lv_lload_n hx hb dX20_type_55 rfl (lv_at hl 2 rfl) ?_
        refine lv_bipush (v := 8) hx hb dX20_type_56 (by decide) ?_
        refine lv_iload hx hb dX20_type_58 (lv_at hl 0 rfl) ?_
        refine lv_imul hx hb dX20_type_60 ?_
        refine W.eq (congrArg (fun z : Int32 => F0 m 61 ls (.int z :: [.long y0, .int 3, .ref a31])) (by decide +kernel : ((8 : Int32) * 1 : Int32) = 8)) ?_
        refine lv_lshr hx hb dX20_type_61 rfl ?_
        refine lv_topl (fun yy40 _ => ?_)
        refine lv_l2i hx hb dX20_type_62 rfl ?_
        refine lv_topi (fun xx41 _ => ?_)
        refine lv_i2b hx hb dX20_type_63 rfl ?_
        refine lv_topi (fun xx42 _ => ?_)
        refine va_bast (i := 3) (x := xx42) hx hb hK hP hD hS 2 0 rfl rfl (by unfold vp_in; decide +kernel) dX20_type_64 (fun H locs hP hD hS => ?_)
        have hP : va_P (dC, dI) vwCl [(a0, .inr (21, [.ref a1, .ref a2, .ref a3, .ref a4, .ref a5, .ref a6, .ref a7, .ref a8, .int 0, .ref a9, .int 0, .int 0, .ref a10, .ref a11, .int 0, .ref a12, .int 0, .ref a13, .ref a14, .ref a15, .int 0, .ref a16, .ref a17, .int 0, .int 0, .ref a18, .int 0, .ref a19, .ref a20, .int 0])), (a3, .inr (15, [.ref a1, .ref a31, .int 3, .int 0, .int 0, .int 0, .int 0, .int 0, .int 0, .int 0, .int 0, .long 0, .int 0, .int 0])), (a31, .inl (k0, 4000, .inl (upd (upd (upd (upd (fun _ => 0) (Int32.toNatClampNeg 0) (vp_nar .byte xx33)) (Int32.toNatClampNeg 1) (vp_nar .byte xx36)) (Int32.toNatClampNeg 2) (vp_nar .byte xx39)) (Int32.toNatClampNeg 3) (vp_nar .byte xx42))))] H := hP
        have hD : va_D A [(a0, .inr (21, [.ref a1, .ref a2, .ref a3, .ref a4, .ref a5, .ref a6, .ref a7, .ref a8, .int 0, .ref a9, .int 0, .int 0, .ref a10, .ref a11, .int 0, .ref a12, .int 0, .ref a13, .ref a14, .ref a15, .int 0, .ref a16, .ref a17, .int 0, .int 0, .ref a18, .int 0, .ref a19, .ref a20, .int 0])), (a3, .inr (15, [.ref a1, .ref a31, .int 3, .int 0, .int 0, .int 0, .int 0, .int 0, .int 0, .int 0, .int 0, .long 0, .int 0, .int 0])), (a31, .inl (k0, 4000, .inl (upd (upd (upd (upd (fun _ => 0) (Int32.toNatClampNeg 0) (vp_nar .byte xx33)) (Int32.toNatClampNeg 1) (vp_nar .byte xx36)) (Int32.toNatClampNeg 2) (vp_nar .byte xx39)) (Int32.toNatClampNeg 3) (vp_nar .byte xx42))))] := hD
        refine lv_aload_n hx hb dX20_type_65 rfl (lv_at hl 1 rfl) ?_
        refine va_get (D := (dC, dI)) (ci := 21) (v := .ref a3) (C := RX20) (T := TX20) (N := 30) hx hb hts in_f_X20_type_RX20 hown hK hP 0 rfl rfl 2 (by decide) (hts (.fieldLink RX20 28 "TripleStoreModel" "lexer" "LTripleStoreModel$Lexer;") (List.mem_of_getElem? (i := 1) rfl)) (fun _ h9 => h9) rfl dX20_type_66 ?_
        refine lv_dup hx hb dX20_type_69 rfl ?_
        refine va_getN (D := (dC, dI)) (ci := 15) (v := .int 3) (C := RX14) (T := TX14) (N := 14) hx hb hts in_f_X20_type_RX14 hown hK hP 1 rfl rfl 2 (by decide) (va_Nw.use rfl hZ0) (fun _ h9 => h9) rfl dX20_type_70 ?_
        refine lv_iconst (v := 1) hx hb dX20_type_73 (by decide) ?_
        refine lv_iadd hx hb dX20_type_74 ?_
        refine W.eq (congrArg (fun z : Int32 => F0 m 75 ls (.int z :: [.ref a3])) (by decide +kernel : ((3 : Int32) + 1 : Int32) = 4)) ?_
        refine va_putN (D := (dC, dI)) (ci := 15) (v := .int 4) (ty := .int) (C := RX14) (T := TX14) (N := 14) hx hb hts in_f_X20_type_RX14 tyX14 tyX14_ok nmX14 hown hK hP hD hS 1 rfl rfl 2 (by decide) (va_Nw.use rfl hZ0) (fun _ h9 => h9) rfl (by decide +kernel) rfl rfl (Nat.le_of_ble_eq_true rfl) dX20_type_75 (fun H locs hP hD hS => ?_)
        have hP : va_P (dC, dI) vwCl [(a0, .inr (21, [.ref a1, .ref a2, .ref a3, .ref a4, .ref a5, .ref a6, .ref a7, .ref a8, .int 0, .ref a9, .int 0, .int 0, .ref a10, .ref a11, .int 0, .ref a12, .int 0, .ref a13, .ref a14, .ref a15, .int 0, .ref a16, .ref a17, .int 0, .int 0, .ref a18, .int 0, .ref a19, .ref a20, .int 0])), (a3, .inr (15, [.ref a1, .ref a31, .int 4, .int 0, .int 0, .int 0, .int 0, .int 0, .int 0, .int 0, .int 0, .long 0, .int 0, .int 0])), (a31, .inl (k0, 4000, .inl (upd (upd (upd (upd (fun _ => 0) (Int32.toNatClampNeg 0) (vp_nar .byte xx33)) (Int32.toNatClampNeg 1) (vp_nar .byte xx36)) (Int32.toNatClampNeg 2) (vp_nar .byte xx39)) (Int32.toNatClampNeg 3) (vp_nar .byte xx42))))] H := hP
        have hD : va_D A [(a0, .inr (21, [.ref a1, .ref a2, .ref a3, .ref a4, .ref a5, .ref a6, .ref a7, .ref a8, .int 0, .ref a9, .int 0, .int 0, .ref a10, .ref a11, .int 0, .ref a12, .int 0, .ref a13, .ref a14, .ref a15, .int 0, .ref a16, .ref a17, .int 0, .int 0, .ref a18, .int 0, .ref a19, .ref a20, .int 0])), (a3, .inr (15, [.ref a1, .ref a31, .int 4, .int 0, .int 0, .int 0, .int 0, .int 0, .int 0, .int 0, .int 0, .long 0, .int 0, .int 0])), (a31, .inl (k0, 4000, .inl (upd (upd (upd (upd (fun _ => 0) (Int32.toNatClampNeg 0) (vp_nar .byte xx33)) (Int32.toNatClampNeg 1) (vp_nar .byte xx36)) (Int32.toNatClampNeg 2) (vp_nar .byte xx39)) (Int32.toNatClampNeg 3) (vp_nar .byte xx42))))] := hD
        refine lv_iinc (v := 0) (lv' := [(4, .int 0), (0, .ref a0), (1, .long y0), (3, .int 5)]) hx hb dX20_type_78 hl (k := 0) rfl (by decide +kernel) (by decide) rfl (fun ls hl => ?_)
        refine lv_goto (tgt := 36) hx hb dX20_type_81 (by decide) ?_
        refine lv_iload hx hb dX20_type_36 (lv_at hl 0 rfl) ?_
        refine lv_if_lt (tgt := 84) hx hb dX20_type_38 (by decide) (fun c9 => absurd c9 (by decide +kernel)) (fun _ => ?_)
        refine lv_aload_n hx hb dX20_type_41 rfl (lv_at hl 1 rfl) ?_
        refine va_get (D := (dC, dI)) (ci := 21) (v := .ref a3) (C := RX20) (T := TX20) (N := 30) hx hb hts in_f_X20_type_RX20 hown hK hP 0 rfl rfl 2 (by decide) (hts (.fieldLink RX20 28 "TripleStoreModel" "lexer" "LTripleStoreModel$Lexer;") (List.mem_of_getElem? (i := 1) rfl)) (fun _ h9 => h9) rfl dX20_type_42 ?_
        refine va_getN (D := (dC, dI)) (ci := 15) (v := .ref a31) (C := RX14) (T := TX14) (N := 14) hx hb hts in_f_X20_type_RX14 hown hK hP 1 rfl rfl 1 (by decide) (va_Nw.use rfl hZ1) (fun _ h9 => h9) rfl dX20_type_45 ?_
        refine lv_aload_n hx hb dX20_type_48 rfl (lv_at hl 1 rfl) ?_
        refine va_get (D := (dC, dI)) (ci := 21) (v := .ref a3) (C := RX20) (T := TX20) (N := 30) hx hb hts in_f_X20_type_RX20 hown hK hP 0 rfl rfl 2 (by decide) (hts (.fieldLink RX20 28 "TripleStoreModel" "lexer" "LTripleStoreModel$Lexer;") (List.mem_of_getElem? (i := 1) rfl)) (fun _ h9 => h9) rfl dX20_type_49 ?_
        refine va_getN (D := (dC, dI)) (ci := 15) (v := .int 4) (C := RX14) (T := TX14) (N := 14) hx hb hts in_f_X20_type_RX14 hown hK hP 1 rfl rfl 2 (by decide) (va_Nw.use rfl hZ0) (fun _ h9 => h9) rfl dX20_type_52 ?_
        refine lv_lload_n hx hb dX20_type_55 rfl (lv_at hl 2 rfl) ?_
        refine lv_bipush (v := 8) hx hb dX20_type_56 (by decide) ?_
        refine lv_iload hx hb dX20_type_58 (lv_at hl 0 rfl) ?_
        refine lv_imul hx hb dX20_type_60 ?_
        refine W.eq (congrArg (fun z : Int32 => F0 m 61 ls (.int z :: [.long y0, .int 4, .ref a31])) (by decide +kernel : ((8 : Int32) * 0 : Int32) = 0)) ?_
        refine lv_lshr hx hb dX20_type_61 rfl ?_
        refine lv_topl (fun yy43 _ => ?_)
        refine lv_l2i hx hb dX20_type_62 rfl ?_
        refine lv_topi (fun xx44 _ => ?_)
        refine lv_i2b hx hb dX20_type_63 rfl ?_
        refine lv_topi (fun xx45 _ => ?_)
        refine va_bast (i := 4) (x := xx45) hx hb hK hP hD hS 2 0 rfl rfl (by unfold vp_in; decide +kernel) dX20_type_64 (fun H locs hP hD hS => ?_)
        have hP : va_P (dC, dI) vwCl [(a0, .inr (21, [.ref a1, .ref a2, .ref a3, .ref a4, .ref a5, .ref a6, .ref a7, .ref a8, .int 0, .ref a9, .int 0, .int 0, .ref a10, .ref a11, .int 0, .ref a12, .int 0, .ref a13, .ref a14, .ref a15, .int 0, .ref a16, .ref a17, .int 0, .int 0, .ref a18, .int 0, .ref a19, .ref a20, .int 0])), (a3, .inr (15, [.ref a1, .ref a31, .int 4, .int 0, .int 0, .int 0, .int 0, .int 0, .int 0, .int 0, .int 0, .long 0, .int 0, .int 0])), (a31, .inl (k0, 4000, .inl (upd (upd (upd (upd (upd (fun _ => 0) (Int32.toNatClampNeg 0) (vp_nar .byte xx33)) (Int32.toNatClampNeg 1) (vp_nar .byte xx36)) (Int32.toNatClampNeg 2) (vp_nar .byte xx39)) (Int32.toNatClampNeg 3) (vp_nar .byte xx42)) (Int32.toNatClampNeg 4) (vp_nar .byte xx45))))] H := hP
        have hD : va_D A [(a0, .inr (21, [.ref a1, .ref a2, .ref a3, .ref a4, .ref a5, .ref a6, .ref a7, .ref a8, .int 0, .ref a9, .int 0, .int 0, .ref a10, .ref a11, .int 0, .ref a12, .int 0, .ref a13, .ref a14, .ref a15, .int 0, .ref a16, .ref a17, .int 0, .int 0, .ref a18, .int 0, .ref a19, .ref a20, .int 0])), (a3, .inr (15, [.ref a1, .ref a31, .int 4, .int 0, .int 0, .int 0, .int 0, .int 0, .int 0, .int 0, .int 0, .long 0, .int 0, .int 0])), (a31, .inl (k0, 4000, .inl (upd (upd (upd (upd (upd (fun _ => 0) (Int32.toNatClampNeg 0) (vp_nar .byte xx33)) (Int32.toNatClampNeg 1) (vp_nar .byte xx36)) (Int32.toNatClampNeg 2) (vp_nar .byte xx39)) (Int32.toNatClampNeg 3) (vp_nar .byte xx42)) (Int32.toNatClampNeg 4) (vp_nar .byte xx45))))] := hD
        refine lv_aload_n hx hb dX20_type_65 rfl (lv_at hl 1 rfl) ?_
        refine va_get (D := (dC, dI)) (ci := 21) (v := .ref a3) (C := RX20) (T := TX20) (N := 30) hx hb hts in_f_X20_type_RX20 hown hK hP 0 rfl rfl 2 (by decide) (hts (.fieldLink RX20 28 "TripleStoreModel" "lexer" "LTripleStoreModel$Lexer;") (List.mem_of_getElem? (i := 1) rfl)) (fun _ h9 => h9) rfl dX20_type_66 ?_
        refine lv_dup hx hb dX20_type_69 rfl ?_
        refine va_getN (D := (dC, dI)) (ci := 15) (v := .int 4) (C := RX14) (T := TX14) (N := 14) hx hb hts in_f_X20_type_RX14 hown hK hP 1 rfl rfl 2 (by decide) (va_Nw.use rfl hZ0) (fun _ h9 => h9) rfl dX20_type_70 ?_
        refine lv_iconst (v := 1) hx hb dX20_type_73 (by decide) ?_
        refine lv_iadd hx hb dX20_type_74 ?_
        refine W.eq (congrArg (fun z : Int32 => F0 m 75 ls (.int z :: [.ref a3])) (by decide +kernel : ((4 : Int32) + 1 : Int32) = 5)) ?_
        refine va_putN (D := (dC, dI)) (ci := 15) (v := .int 5) (ty := .int) (C := RX14) (T := TX14) (N := 14) hx hb hts in_f_X20_type_RX14 tyX14 tyX14_ok nmX14 hown hK hP hD hS 1 rfl rfl 2 (by decide) (va_Nw.use rfl hZ0) (fun _ h9 => h9) rfl (by decide +kernel) rfl rfl (Nat.le_of_ble_eq_true rfl) dX20_type_75 (fun H locs hP hD hS => ?_)
        have hP : va_P (dC, dI) vwCl [(a0, .inr (21, [.ref a1, .ref a2, .ref a3, .ref a4, .ref a5, .ref a6, .ref a7, .ref a8, .int 0, .ref a9, .int 0, .int 0, .ref a10, .ref a11, .int 0, .ref a12, .int 0, .ref a13, .ref a14, .ref a15, .int 0, .ref a16, .ref a17, .int 0, .int 0, .ref a18, .int 0, .ref a19, .ref a20, .int 0])), (a3, .inr (15, [.ref a1, .ref a31, .int 5, .int 0, .int 0, .int 0, .int 0, .int 0, .int 0, .int 0, .int 0, .long 0, .int 0, .int 0])), (a31, .inl (k0, 4000, .inl (upd (upd (upd (upd (upd (fun _ => 0) (Int32.toNatClampNeg 0) (vp_nar .byte xx33)) (Int32.toNatClampNeg 1) (vp_nar .byte xx36)) (Int32.toNatClampNeg 2) (vp_nar .byte xx39)) (Int32.toNatClampNeg 3) (vp_nar .byte xx42)) (Int32.toNatClampNeg 4) (vp_nar .byte xx45))))] H := hP
        have hD : va_D A [(a0, .inr (21, [.ref a1, .ref a2, .ref a3, .ref a4, .ref a5, .ref a6, .ref a7, .ref a8, .int 0, .ref a9, .int 0, .int 0, .ref a10, .ref a11, .int 0, .ref a12, .int 0, .ref a13, .ref a14, .ref a15, .int 0, .ref a16, .ref a17, .int 0, .int 0, .ref a18, .int 0, .ref a19, .ref a20, .int 0])), (a3, .inr (15, [.ref a1, .ref a31, .int 5, .int 0, .int 0, .int 0, .int 0, .int 0, .int 0, .int 0, .int 0, .long 0, .int 0, .int 0])), (a31, .inl (k0, 4000, .inl (upd (upd (upd (upd (upd (fun _ => 0) (Int32.toNatClampNeg 0) (vp_nar .byte xx33)) (Int32.toNatClampNeg 1) (vp_nar .byte xx36)) (Int32.toNatClampNeg 2) (vp_nar .byte xx39)) (Int32.toNatClampNeg 3) (vp_nar .byte xx42)) (Int32.toNatClampNeg 4) (vp_nar .byte xx45))))] := hD
        refine lv_iinc (v := (-1)) (lv' := [(4, .int (-1)), (0, .ref a0), (1, .long y0), (3, .int 5)]) hx hb dX20_type_78 hl (k := 0) rfl (by decide +kernel) (by decide) rfl (fun ls hl => ?_)
        refine lv_goto (tgt := 36) hx hb dX20_type_81 (by decide) ?_
        refine lv_iload hx hb dX20_type_36 (lv_at hl 0 rfl) ?_
        refine lv_if_lt (tgt := 84) hx hb dX20_type_38 (by decide) (fun _ => ?_) (fun c9 => absurd (by decide +kernel) c9)
        refine lv_aload_n hx hb dX20_type_84 rfl (lv_at hl 1 rfl) ?_
        refine va_get (D := (dC, dI)) (ci := 21) (v := .ref a3) (C := RX20) (T := TX20) (N := 30) hx hb hts in_f_X20_type_RX20 hown hK hP 0 rfl rfl 2 (by decide) (hts (.fieldLink RX20 28 "TripleStoreModel" "lexer" "LTripleStoreModel$Lexer;") (List.mem_of_getElem? (i := 1) rfl)) (fun _ h9 => h9) rfl dX20_type_85 ?_
        refine va_getN (D := (dC, dI)) (ci := 15) (v := .int 5) (C := RX14) (T := TX14) (N := 14) hx hb hts in_f_X20_type_RX14 hown hK hP 1 rfl rfl 2 (by decide) (va_Nw.use rfl hZ0) (fun _ h9 => h9) rfl dX20_type_88 ?_
        refine W.widen (k := 0) (n := 0) (Nat.le_of_ble_eq_true rfl) (Nat.le_of_ble_eq_true rfl) ?_
        exact W.iret (v := 5) hx hb hr (fun t ht hW => ⟨⟨5, (), rfl, by rw [if_neg (by decide +kernel), if_pos (by decide +kernel)], trivial⟩, hS.F ht⟩) hS.2.2 dX20_type_91
      · refine lv_aload_n hx hb dX20_type_13 rfl (lv_at hl 0 rfl) ?_
        refine va_get (D := (dC, dI)) (ci := 21) (v := .ref a3) (C := RX20) (T := TX20) (N := 30) hx hb hts in_f_X20_type_RX20 hown hK hP 0 rfl rfl 2 (by decide) (hts (.fieldLink RX20 28 "TripleStoreModel" "lexer" "LTripleStoreModel$Lexer;") (List.mem_of_getElem? (i := 1) rfl)) (fun _ h9 => h9) rfl dX20_type_14 ?_
        refine va_getN (D := (dC, dI)) (ci := 15) (v := .int 0) (C := RX14) (T := TX14) (N := 14) hx hb hts in_f_X20_type_RX14 hown hK hP 1 rfl rfl 2 (by decide) (va_Nw.use rfl hZ0) (fun _ h9 => h9) rfl dX20_type_17 ?_
        refine lv_iload_n hx hb dX20_type_20 rfl (lv_at hl 2 rfl) ?_
        refine lv_iadd hx hb dX20_type_21 ?_
        refine W.eq (congrArg (fun z : Int32 => F0 m 22 ls (.int z :: [])) (by decide +kernel : ((0 : Int32) + 6 : Int32) = 6)) ?_
        refine lv_sipush (v := 4000) hx hb dX20_type_22 (by decide) ?_
        refine lv_icmp_le (tgt := 31) hx hb dX20_type_25 (by decide) (fun _ => ?_) (fun c9 => absurd (by decide +kernel) c9)
        refine lv_iload_n hx hb dX20_type_31 rfl (lv_at hl 2 rfl) ?_
        refine lv_iconst (v := 1) hx hb dX20_type_32 (by decide) ?_
        refine lv_isub hx hb dX20_type_33 ?_
        refine W.eq (congrArg (fun z : Int32 => F0 m 34 ls (.int z :: [])) (by decide +kernel : ((6 : Int32) - 1 : Int32) = 5)) ?_
        refine lv_istore (lv' := [(4, .int 5), (0, .ref a0), (1, .long y0), (3, .int 6)]) hx hb dX20_type_34 hl (by decide) rfl (fun ls hl => ?_)
        refine lv_iload hx hb dX20_type_36 (lv_at hl 0 rfl) ?_
        refine lv_if_lt (tgt := 84) hx hb dX20_type_38 (by decide) (fun c9 => absurd c9 (by decide +kernel)) (fun _ => ?_)
        refine lv_aload_n hx hb dX20_type_41 rfl (lv_at hl 1 rfl) ?_
        refine va_get (D := (dC, dI)) (ci := 21) (v := .ref a3) (C := RX20) (T := TX20) (N := 30) hx hb hts in_f_X20_type_RX20 hown hK hP 0 rfl rfl 2 (by decide) (hts (.fieldLink RX20 28 "TripleStoreModel" "lexer" "LTripleStoreModel$Lexer;") (List.mem_of_getElem? (i := 1) rfl)) (fun _ h9 => h9) rfl dX20_type_42 ?_
        refine va_getN (D := (dC, dI)) (ci := 15) (v := .ref a31) (C := RX14) (T := TX14) (N := 14) hx hb hts in_f_X20_type_RX14 hown hK hP 1 rfl rfl 1 (by decide) (va_Nw.use rfl hZ1) (fun _ h9 => h9) rfl dX20_type_45 ?_
        refine lv_aload_n hx hb dX20_type_48 rfl (lv_at hl 1 rfl) ?_
        refine va_get (D := (dC, dI)) (ci := 21) (v := .ref a3) (C := RX20) (T := TX20) (N := 30) hx hb hts in_f_X20_type_RX20 hown hK hP 0 rfl rfl 2 (by decide) (hts (.fieldLink RX20 28 "TripleStoreModel" "lexer" "LTripleStoreModel$Lexer;") (List.mem_of_getElem? (i := 1) rfl)) (fun _ h9 => h9) rfl dX20_type_49 ?_
        refine va_getN (D := (dC, dI)) (ci := 15) (v := .int 0) (C := RX14) (T := TX14) (N := 14) hx hb hts in_f_X20_type_RX14 hown hK hP 1 rfl rfl 2 (by decide) (va_Nw.use rfl hZ0) (fun _ h9 => h9) rfl dX20_type_52 ?_
        refine lv_lload_n hx hb dX20_type_55 rfl (lv_at hl 2 rfl) ?_
        refine lv_bipush (v := 8) hx hb dX20_type_56 (by decide) ?_
        refine lv_iload hx hb dX20_type_58 (lv_at hl 0 rfl) ?_
        refine lv_imul hx hb dX20_type_60 ?_
        refine W.eq (congrArg (fun z : Int32 => F0 m 61 ls (.int z :: [.long y0, .int 0, .ref a31])) (by decide +kernel : ((8 : Int32) * 5 : Int32) = 40)) ?_
        refine lv_lshr hx hb dX20_type_61 rfl ?_
        refine lv_topl (fun yy46 _ => ?_)
        refine lv_l2i hx hb dX20_type_62 rfl ?_
        refine lv_topi (fun xx47 _ => ?_)
        refine lv_i2b hx hb dX20_type_63 rfl ?_
        refine lv_topi (fun xx48 _ => ?_)
        refine va_bast (i := 0) (x := xx48) hx hb hK hP hD hS 2 0 rfl rfl (by unfold vp_in; decide +kernel) dX20_type_64 (fun H locs hP hD hS => ?_)
        have hP : va_P (dC, dI) vwCl [(a0, .inr (21, [.ref a1, .ref a2, .ref a3, .ref a4, .ref a5, .ref a6, .ref a7, .ref a8, .int 0, .ref a9, .int 0, .int 0, .ref a10, .ref a11, .int 0, .ref a12, .int 0, .ref a13, .ref a14, .ref a15, .int 0, .ref a16, .ref a17, .int 0, .int 0, .ref a18, .int 0, .ref a19, .ref a20, .int 0])), (a3, .inr (15, [.ref a1, .ref a31, .int 0, .int 0, .int 0, .int 0, .int 0, .int 0, .int 0, .int 0, .int 0, .long 0, .int 0, .int 0])), (a31, .inl (k0, 4000, .inl (upd (fun _ => 0) (Int32.toNatClampNeg 0) (vp_nar .byte xx48))))] H := hP
        have hD : va_D A [(a0, .inr (21, [.ref a1, .ref a2, .ref a3, .ref a4, .ref a5, .ref a6, .ref a7, .ref a8, .int 0, .ref a9, .int 0, .int 0, .ref a10, .ref a11, .int 0, .ref a12, .int 0, .ref a13, .ref a14, .ref a15, .int 0, .ref a16, .ref a17, .int 0, .int 0, .ref a18, .int 0, .ref a19, .ref a20, .int 0])), (a3, .inr (15, [.ref a1, .ref a31, .int 0, .int 0, .int 0, .int 0, .int 0, .int 0, .int 0, .int 0, .int 0, .long 0, .int 0, .int 0])), (a31, .inl (k0, 4000, .inl (upd (fun _ => 0) (Int32.toNatClampNeg 0) (vp_nar .byte xx48))))] := hD
        refine lv_aload_n hx hb dX20_type_65 rfl (lv_at hl 1 rfl) ?_
        refine va_get (D := (dC, dI)) (ci := 21) (v := .ref a3) (C := RX20) (T := TX20) (N := 30) hx hb hts in_f_X20_type_RX20 hown hK hP 0 rfl rfl 2 (by decide) (hts (.fieldLink RX20 28 "TripleStoreModel" "lexer" "LTripleStoreModel$Lexer;") (List.mem_of_getElem? (i := 1) rfl)) (fun _ h9 => h9) rfl dX20_type_66 ?_
        refine lv_dup hx hb dX20_type_69 rfl ?_
        refine va_getN (D := (dC, dI)) (ci := 15) (v := .int 0) (C := RX14) (T := TX14) (N := 14) hx hb hts in_f_X20_type_RX14 hown hK hP 1 rfl rfl 2 (by decide) (va_Nw.use rfl hZ0) (fun _ h9 => h9) rfl dX20_type_70 ?_
        refine lv_iconst (v := 1) hx hb dX20_type_73 (by decide) ?_
        refine lv_iadd hx hb dX20_type_74 ?_
        refine W.eq (congrArg (fun z : Int32 => F0 m 75 ls (.int z :: [.ref a3])) (by decide +kernel : ((0 : Int32) + 1 : Int32) = 1)) ?_
        refine va_putN (D := (dC, dI)) (ci := 15) (v := .int 1) (ty := .int) (C := RX14) (T := TX14) (N := 14) hx hb hts in_f_X20_type_RX14 tyX14 tyX14_ok nmX14 hown hK hP hD hS 1 rfl rfl 2 (by decide) (va_Nw.use rfl hZ0) (fun _ h9 => h9) rfl (by decide +kernel) rfl rfl (Nat.le_of_ble_eq_true rfl) dX20_type_75 (fun H locs hP hD hS => ?_)
        have hP : va_P (dC, dI) vwCl [(a0, .inr (21, [.ref a1, .ref a2, .ref a3, .ref a4, .ref a5, .ref a6, .ref a7, .ref a8, .int 0, .ref a9, .int 0, .int 0, .ref a10, .ref a11, .int 0, .ref a12, .int 0, .ref a13, .ref a14, .ref a15, .int 0, .ref a16, .ref a17, .int 0, .int 0, .ref a18, .int 0, .ref a19, .ref a20, .int 0])), (a3, .inr (15, [.ref a1, .ref a31, .int 1, .int 0, .int 0, .int 0, .int 0, .int 0, .int 0, .int 0, .int 0, .long 0, .int 0, .int 0])), (a31, .inl (k0, 4000, .inl (upd (fun _ => 0) (Int32.toNatClampNeg 0) (vp_nar .byte xx48))))] H := hP
        have hD : va_D A [(a0, .inr (21, [.ref a1, .ref a2, .ref a3, .ref a4, .ref a5, .ref a6, .ref a7, .ref a8, .int 0, .ref a9, .int 0, .int 0, .ref a10, .ref a11, .int 0, .ref a12, .int 0, .ref a13, .ref a14, .ref a15, .int 0, .ref a16, .ref a17, .int 0, .int 0, .ref a18, .int 0, .ref a19, .ref a20, .int 0])), (a3, .inr (15, [.ref a1, .ref a31, .int 1, .int 0, .int 0, .int 0, .int 0, .int 0, .int 0, .int 0, .int 0, .long 0, .int 0, .int 0])), (a31, .inl (k0, 4000, .inl (upd (fun _ => 0) (Int32.toNatClampNeg 0) (vp_nar .byte xx48))))] := hD
        refine lv_iinc (v := 4) (lv' := [(4, .int 4), (0, .ref a0), (1, .long y0), (3, .int 6)]) hx hb dX20_type_78 hl (k := 0) rfl (by decide +kernel) (by decide) rfl (fun ls hl => ?_)
        refine lv_goto (tgt := 36) hx hb dX20_type_81 (by decide) ?_
        refine lv_iload hx hb dX20_type_36 (lv_at hl 0 rfl) ?_
        refine lv_if_lt (tgt := 84) hx hb dX20_type_38 (by decide) (fun c9 => absurd c9 (by decide +kernel)) (fun _ => ?_)
        refine lv_aload_n hx hb dX20_type_41 rfl (lv_at hl 1 rfl) ?_
        refine va_get (D := (dC, dI)) (ci := 21) (v := .ref a3) (C := RX20) (T := TX20) (N := 30) hx hb hts in_f_X20_type_RX20 hown hK hP 0 rfl rfl 2 (by decide) (hts (.fieldLink RX20 28 "TripleStoreModel" "lexer" "LTripleStoreModel$Lexer;") (List.mem_of_getElem? (i := 1) rfl)) (fun _ h9 => h9) rfl dX20_type_42 ?_
        refine va_getN (D := (dC, dI)) (ci := 15) (v := .ref a31) (C := RX14) (T := TX14) (N := 14) hx hb hts in_f_X20_type_RX14 hown hK hP 1 rfl rfl 1 (by decide) (va_Nw.use rfl hZ1) (fun _ h9 => h9) rfl dX20_type_45 ?_
        refine lv_aload_n hx hb dX20_type_48 rfl (lv_at hl 1 rfl) ?_
        refine va_get (D := (dC, dI)) (ci := 21) (v := .ref a3) (C := RX20) (T := TX20) (N := 30) hx hb hts in_f_X20_type_RX20 hown hK hP 0 rfl rfl 2 (by decide) (hts (.fieldLink RX20 28 "TripleStoreModel" "lexer" "LTripleStoreModel$Lexer;") (List.mem_of_getElem? (i := 1) rfl)) (fun _ h9 => h9) rfl dX20_type_49 ?_
        refine va_getN (D := (dC, dI)) (ci := 15) (v := .int 1) (C := RX14) (T := TX14) (N := 14) hx hb hts in_f_X20_type_RX14 hown hK hP 1 rfl rfl 2 (by decide) (va_Nw.use rfl hZ0) (fun _ h9 => h9) rfl dX20_type_52 ?_
        refine lv_lload_n hx hb dX20_type_55 rfl (lv_at hl 2 rfl) ?_
        refine lv_bipush (v := 8) hx hb dX20_type_56 (by decide) ?_
        refine lv_iload hx hb dX20_type_58 (lv_at hl 0 rfl) ?_
        refine lv_imul hx hb dX20_type_60 ?_
        refine W.eq (congrArg (fun z : Int32 => F0 m 61 ls (.int z :: [.long y0, .int 1, .ref a31])) (by decide +kernel : ((8 : Int32) * 4 : Int32) = 32)) ?_
        refine lv_lshr hx hb dX20_type_61 rfl ?_
        refine lv_topl (fun yy49 _ => ?_)
        refine lv_l2i hx hb dX20_type_62 rfl ?_
        refine lv_topi (fun xx50 _ => ?_)
        refine lv_i2b hx hb dX20_type_63 rfl ?_
        refine lv_topi (fun xx51 _ => ?_)
        refine va_bast (i := 1) (x := xx51) hx hb hK hP hD hS 2 0 rfl rfl (by unfold vp_in; decide +kernel) dX20_type_64 (fun H locs hP hD hS => ?_)
        have hP : va_P (dC, dI) vwCl [(a0, .inr (21, [.ref a1, .ref a2, .ref a3, .ref a4, .ref a5, .ref a6, .ref a7, .ref a8, .int 0, .ref a9, .int 0, .int 0, .ref a10, .ref a11, .int 0, .ref a12, .int 0, .ref a13, .ref a14, .ref a15, .int 0, .ref a16, .ref a17, .int 0, .int 0, .ref a18, .int 0, .ref a19, .ref a20, .int 0])), (a3, .inr (15, [.ref a1, .ref a31, .int 1, .int 0, .int 0, .int 0, .int 0, .int 0, .int 0, .int 0, .int 0, .long 0, .int 0, .int 0])), (a31, .inl (k0, 4000, .inl (upd (upd (fun _ => 0) (Int32.toNatClampNeg 0) (vp_nar .byte xx48)) (Int32.toNatClampNeg 1) (vp_nar .byte xx51))))] H := hP
        have hD : va_D A [(a0, .inr (21, [.ref a1, .ref a2, .ref a3, .ref a4, .ref a5, .ref a6, .ref a7, .ref a8, .int 0, .ref a9, .int 0, .int 0, .ref a10, .ref a11, .int 0, .ref a12, .int 0, .ref a13, .ref a14, .ref a15, .int 0, .ref a16, .ref a17, .int 0, .int 0, .ref a18, .int 0, .ref a19, .ref a20, .int 0])), (a3, .inr (15, [.ref a1, .ref a31, .int 1, .int 0, .int 0, .int 0, .int 0, .int 0, .int 0, .int 0, .int 0, .long 0, .int 0, .int 0])), (a31, .inl (k0, 4000, .inl (upd (upd (fun _ => 0) (Int32.toNatClampNeg 0) (vp_nar .byte xx48)) (Int32.toNatClampNeg 1) (vp_nar .byte xx51))))] := hD
        refine lv_aload_n hx hb dX20_type_65 rfl (lv_at hl 1 rfl) ?_
        refine va_get (D := (dC, dI)) (ci := 21) (v := .ref a3) (C := RX20) (T := TX20) (N := 30) hx hb hts in_f_X20_type_RX20 hown hK hP 0 rfl rfl 2 (by decide) (hts (.fieldLink RX20 28 "TripleStoreModel" "lexer" "LTripleStoreModel$Lexer;") (List.mem_of_getElem? (i := 1) rfl)) (fun _ h9 => h9) rfl dX20_type_66 ?_
        refine lv_dup hx hb dX20_type_69 rfl ?_
        refine va_getN (D := (dC, dI)) (ci := 15) (v := .int 1) (C := RX14) (T := TX14) (N := 14) hx hb hts in_f_X20_type_RX14 hown hK hP 1 rfl rfl 2 (by decide) (va_Nw.use rfl hZ0) (fun _ h9 => h9) rfl dX20_type_70 ?_
        refine lv_iconst (v := 1) hx hb dX20_type_73 (by decide) ?_
        refine lv_iadd hx hb dX20_type_74 ?_
        refine W.eq (congrArg (fun z : Int32 => F0 m 75 ls (.int z :: [.ref a3])) (by decide +kernel : ((1 : Int32) + 1 : Int32) = 2)) ?_
        refine va_putN (D := (dC, dI)) (ci := 15) (v := .int 2) (ty := .int) (C := RX14) (T := TX14) (N := 14) hx hb hts in_f_X20_type_RX14 tyX14 tyX14_ok nmX14 hown hK hP hD hS 1 rfl rfl 2 (by decide) (va_Nw.use rfl hZ0) (fun _ h9 => h9) rfl (by decide +kernel) rfl rfl (Nat.le_of_ble_eq_true rfl) dX20_type_75 (fun H locs hP hD hS => ?_)
        have hP : va_P (dC, dI) vwCl [(a0, .inr (21, [.ref a1, .ref a2, .ref a3, .ref a4, .ref a5, .ref a6, .ref a7, .ref a8, .int 0, .ref a9, .int 0, .int 0, .ref a10, .ref a11, .int 0, .ref a12, .int 0, .ref a13, .ref a14, .ref a15, .int 0, .ref a16, .ref a17, .int 0, .int 0, .ref a18, .int 0, .ref a19, .ref a20, .int 0])), (a3, .inr (15, [.ref a1, .ref a31, .int 2, .int 0, .int 0, .int 0, .int 0, .int 0, .int 0, .int 0, .int 0, .long 0, .int 0, .int 0])), (a31, .inl (k0, 4000, .inl (upd (upd (fun _ => 0) (Int32.toNatClampNeg 0) (vp_nar .byte xx48)) (Int32.toNatClampNeg 1) (vp_nar .byte xx51))))] H := hP
        have hD : va_D A [(a0, .inr (21, [.ref a1, .ref a2, .ref a3, .ref a4, .ref a5, .ref a6, .ref a7, .ref a8, .int 0, .ref a9, .int 0, .int 0, .ref a10, .ref a11, .int 0, .ref a12, .int 0, .ref a13, .ref a14, .ref a15, .int 0, .ref a16, .ref a17, .int 0, .int 0, .ref a18, .int 0, .ref a19, .ref a20, .int 0])), (a3, .inr (15, [.ref a1, .ref a31, .int 2, .int 0, .int 0, .int 0, .int 0, .int 0, .int 0, .int 0, .int 0, .long 0, .int 0, .int 0])), (a31, .inl (k0, 4000, .inl (upd (upd (fun _ => 0) (Int32.toNatClampNeg 0) (vp_nar .byte xx48)) (Int32.toNatClampNeg 1) (vp_nar .byte xx51))))] := hD
        refine lv_iinc (v := 3) (lv' := [(4, .int 3), (0, .ref a0), (1, .long y0), (3, .int 6)]) hx hb dX20_type_78 hl (k := 0) rfl (by decide +kernel) (by decide) rfl (fun ls hl => ?_)
        refine lv_goto (tgt := 36) hx hb dX20_type_81 (by decide) ?_
        refine lv_iload hx hb dX20_type_36 (lv_at hl 0 rfl) ?_
        refine lv_if_lt (tgt := 84) hx hb dX20_type_38 (by decide) (fun c9 => absurd c9 (by decide +kernel)) (fun _ => ?_)
        refine lv_aload_n hx hb dX20_type_41 rfl (lv_at hl 1 rfl) ?_
        refine va_get (D := (dC, dI)) (ci := 21) (v := .ref a3) (C := RX20) (T := TX20) (N := 30) hx hb hts in_f_X20_type_RX20 hown hK hP 0 rfl rfl 2 (by decide) (hts (.fieldLink RX20 28 "TripleStoreModel" "lexer" "LTripleStoreModel$Lexer;") (List.mem_of_getElem? (i := 1) rfl)) (fun _ h9 => h9) rfl dX20_type_42 ?_
        refine va_getN (D := (dC, dI)) (ci := 15) (v := .ref a31) (C := RX14) (T := TX14) (N := 14) hx hb hts in_f_X20_type_RX14 hown hK hP 1 rfl rfl 1 (by decide) (va_Nw.use rfl hZ1) (fun _ h9 => h9) rfl dX20_type_45 ?_
        refine lv_aload_n hx hb dX20_type_48 rfl (lv_at hl 1 rfl) ?_
        refine va_get (D := (dC, dI)) (ci := 21) (v := .ref a3) (C := RX20) (T := TX20) (N := 30) hx hb hts in_f_X20_type_RX20 hown hK hP 0 rfl rfl 2 (by decide) (hts (.fieldLink RX20 28 "TripleStoreModel" "lexer" "LTripleStoreModel$Lexer;") (List.mem_of_getElem? (i := 1) rfl)) (fun _ h9 => h9) rfl dX20_type_49 ?_
        refine va_getN (D := (dC, dI)) (ci := 15) (v := .int 2) (C := RX14) (T := TX14) (N := 14) hx hb hts in_f_X20_type_RX14 hown hK hP 1 rfl rfl 2 (by decide) (va_Nw.use rfl hZ0) (fun _ h9 => h9) rfl dX20_type_52 ?_
        refine lv_lload_n hx hb dX20_type_55 rfl (lv_at hl 2 rfl) ?_
        refine lv_bipush (v := 8) hx hb dX20_type_56 (by decide) ?_
        refine lv_iload hx hb dX20_type_58 (lv_at hl 0 rfl) ?_
        refine lv_imul hx hb dX20_type_60 ?_
        refine W.eq (congrArg (fun z : Int32 => F0 m 61 ls (.int z :: [.long y0, .int 2, .ref a31])) (by decide +kernel : ((8 : Int32) * 3 : Int32) = 24)) ?_
        refine lv_lshr hx hb dX20_type_61 rfl ?_
        refine lv_topl (fun yy52 _ => ?_)
        refine lv_l2i hx hb dX20_type_62 rfl ?_
        refine lv_topi (fun xx53 _ => ?_)
        refine lv_i2b hx hb dX20_type_63 rfl ?_
        refine lv_topi (fun xx54 _ => ?_)
        refine va_bast (i := 2) (x := xx54) hx hb hK hP hD hS 2 0 rfl rfl (by unfold vp_in; decide +kernel) dX20_type_64 (fun H locs hP hD hS => ?_)
        have hP : va_P (dC, dI) vwCl [(a0, .inr (21, [.ref a1, .ref a2, .ref a3, .ref a4, .ref a5, .ref a6, .ref a7, .ref a8, .int 0, .ref a9, .int 0, .int 0, .ref a10, .ref a11, .int 0, .ref a12, .int 0, .ref a13, .ref a14, .ref a15, .int 0, .ref a16, .ref a17, .int 0, .int 0, .ref a18, .int 0, .ref a19, .ref a20, .int 0])), (a3, .inr (15, [.ref a1, .ref a31, .int 2, .int 0, .int 0, .int 0, .int 0, .int 0, .int 0, .int 0, .int 0, .long 0, .int 0, .int 0])), (a31, .inl (k0, 4000, .inl (upd (upd (upd (fun _ => 0) (Int32.toNatClampNeg 0) (vp_nar .byte xx48)) (Int32.toNatClampNeg 1) (vp_nar .byte xx51)) (Int32.toNatClampNeg 2) (vp_nar .byte xx54))))] H := hP
        have hD : va_D A [(a0, .inr (21, [.ref a1, .ref a2, .ref a3, .ref a4, .ref a5, .ref a6, .ref a7, .ref a8, .int 0, .ref a9, .int 0, .int 0, .ref a10, .ref a11, .int 0, .ref a12, .int 0, .ref a13, .ref a14, .ref a15, .int 0, .ref a16, .ref a17, .int 0, .int 0, .ref a18, .int 0, .ref a19, .ref a20, .int 0])), (a3, .inr (15, [.ref a1, .ref a31, .int 2, .int 0, .int 0, .int 0, .int 0, .int 0, .int 0, .int 0, .int 0, .long 0, .int 0, .int 0])), (a31, .inl (k0, 4000, .inl (upd (upd (upd (fun _ => 0) (Int32.toNatClampNeg 0) (vp_nar .byte xx48)) (Int32.toNatClampNeg 1) (vp_nar .byte xx51)) (Int32.toNatClampNeg 2) (vp_nar .byte xx54))))] := hD
        refine lv_aload_n hx hb dX20_type_65 rfl (lv_at hl 1 rfl) ?_
        refine va_get (D := (dC, dI)) (ci := 21) (v := .ref a3) (C := RX20) (T := TX20) (N := 30) hx hb hts in_f_X20_type_RX20 hown hK hP 0 rfl rfl 2 (by decide) (hts (.fieldLink RX20 28 "TripleStoreModel" "lexer" "LTripleStoreModel$Lexer;") (List.mem_of_getElem? (i := 1) rfl)) (fun _ h9 => h9) rfl dX20_type_66 ?_
        refine lv_dup hx hb dX20_type_69 rfl ?_
        refine va_getN (D := (dC, dI)) (ci := 15) (v := .int 2) (C := RX14) (T := TX14) (N := 14) hx hb hts in_f_X20_type_RX14 hown hK hP 1 rfl rfl 2 (by decide) (va_Nw.use rfl hZ0) (fun _ h9 => h9) rfl dX20_type_70 ?_
        refine lv_iconst (v := 1) hx hb dX20_type_73 (by decide) ?_
        refine lv_iadd hx hb dX20_type_74 ?_
        refine W.eq (congrArg (fun z : Int32 => F0 m 75 ls (.int z :: [.ref a3])) (by decide +kernel : ((2 : Int32) + 1 : Int32) = 3)) ?_
        refine va_putN (D := (dC, dI)) (ci := 15) (v := .int 3) (ty := .int) (C := RX14) (T := TX14) (N := 14) hx hb hts in_f_X20_type_RX14 tyX14 tyX14_ok nmX14 hown hK hP hD hS 1 rfl rfl 2 (by decide) (va_Nw.use rfl hZ0) (fun _ h9 => h9) rfl (by decide +kernel) rfl rfl (Nat.le_of_ble_eq_true rfl) dX20_type_75 (fun H locs hP hD hS => ?_)
        have hP : va_P (dC, dI) vwCl [(a0, .inr (21, [.ref a1, .ref a2, .ref a3, .ref a4, .ref a5, .ref a6, .ref a7, .ref a8, .int 0, .ref a9, .int 0, .int 0, .ref a10, .ref a11, .int 0, .ref a12, .int 0, .ref a13, .ref a14, .ref a15, .int 0, .ref a16, .ref a17, .int 0, .int 0, .ref a18, .int 0, .ref a19, .ref a20, .int 0])), (a3, .inr (15, [.ref a1, .ref a31, .int 3, .int 0, .int 0, .int 0, .int 0, .int 0, .int 0, .int 0, .int 0, .long 0, .int 0, .int 0])), (a31, .inl (k0, 4000, .inl (upd (upd (upd (fun _ => 0) (Int32.toNatClampNeg 0) (vp_nar .byte xx48)) (Int32.toNatClampNeg 1) (vp_nar .byte xx51)) (Int32.toNatClampNeg 2) (vp_nar .byte xx54))))] H := hP
        have hD : va_D A [(a0, .inr (21, [.ref a1, .ref a2, .ref a3, .ref a4, .ref a5, .ref a6, .ref a7, .ref a8, .int 0, .ref a9, .int 0, .int 0, .ref a10, .ref a11, .int 0, .ref a12, .int 0, .ref a13, .ref a14, .ref a15, .int 0, .ref a16, .ref a17, .int 0, .int 0, .ref a18, .int 0, .ref a19, .ref a20, .int 0])), (a3, .inr (15, [.ref a1, .ref a31, .int 3, .int 0, .int 0, .int 0, .int 0, .int 0, .int 0, .int 0, .int 0, .long 0, .int 0, .int 0])), (a31, .inl (k0, 4000, .inl (upd (upd (upd (fun _ => 0) (Int32.toNatClampNeg 0) (vp_nar .byte xx48)) (Int32.toNatClampNeg 1) (vp_nar .byte xx51)) (Int32.toNatClampNeg 2) (vp_nar .byte xx54))))] := hD
        refine lv_iinc (v := 2) (lv' := [(4, .int 2), (0, .ref a0), (1, .long y0), (3, .int 6)]) hx hb dX20_type_78 hl (k := 0) rfl (by decide +kernel) (by decide) rfl (fun ls hl => ?_)
        refine lv_goto (tgt := 36) hx hb dX20_type_81 (by decide) ?_
        refine lv_iload hx hb dX20_type_36 (lv_at hl 0 rfl) ?_
        refine lv_if_lt (tgt := 84) hx hb dX20_type_38 (by decide) (fun c9 => absurd c9 (by decide +kernel)) (fun _ => ?_)
        refine lv_aload_n hx hb dX20_type_41 rfl (lv_at hl 1 rfl) ?_
        refine va_get (D := (dC, dI)) (ci := 21) (v := .ref a3) (C := RX20) (T := TX20) (N := 30) hx hb hts in_f_X20_type_RX20 hown hK hP 0 rfl rfl 2 (by decide) (hts (.fieldLink RX20 28 "TripleStoreModel" "lexer" "LTripleStoreModel$Lexer;") (List.mem_of_getElem? (i := 1) rfl)) (fun _ h9 => h9) rfl dX20_type_42 ?_
        refine va_getN (D := (dC, dI)) (ci := 15) (v := .ref a31) (C := RX14) (T := TX14) (N := 14) hx hb hts in_f_X20_type_RX14 hown hK hP 1 rfl rfl 1 (by decide) (va_Nw.use rfl hZ1) (fun _ h9 => h9) rfl dX20_type_45 ?_
        refine lv_aload_n hx hb dX20_type_48 rfl (lv_at hl 1 rfl) ?_
        refine va_get (D := (dC, dI)) (ci := 21) (v := .ref a3) (C := RX20) (T := TX20) (N := 30) hx hb hts in_f_X20_type_RX20 hown hK hP 0 rfl rfl 2 (by decide) (hts (.fieldLink RX20 28 "TripleStoreModel" "lexer" "LTripleStoreModel$Lexer;") (List.mem_of_getElem? (i := 1) rfl)) (fun _ h9 => h9) rfl dX20_type_49 ?_
        refine va_getN (D := (dC, dI)) (ci := 15) (v := .int 3) (C := RX14) (T := TX14) (N := 14) hx hb hts in_f_X20_type_RX14 hown hK hP 1 rfl rfl 2 (by decide) (va_Nw.use rfl hZ0) (fun _ h9 => h9) rfl dX20_type_52 ?_
        refine lv_lload_n hx hb dX20_type_55 rfl (lv_at hl 2 rfl) ?_
        refine lv_bipush (v := 8) hx hb dX20_type_56 (by decide) ?_
        refine lv_iload hx hb dX20_type_58 (lv_at hl 0 rfl) ?_
        refine lv_imul hx hb dX20_type_60 ?_
        refine W.eq (congrArg (fun z : Int32 => F0 m 61 ls (.int z :: [.long y0, .int 3, .ref a31])) (by decide +kernel : ((8 : Int32) * 2 : Int32) = 16)) ?_
        refine lv_lshr hx hb dX20_type_61 rfl ?_
        refine lv_topl (fun yy55 _ => ?_)
        refine lv_l2i hx hb dX20_type_62 rfl ?_
        refine lv_topi (fun xx56 _ => ?_)
        refine lv_i2b hx hb dX20_type_63 rfl ?_
        refine lv_topi (fun xx57 _ => ?_)
        refine va_bast (i := 3) (x := xx57) hx hb hK hP hD hS 2 0 rfl rfl (by unfold vp_in; decide +kernel) dX20_type_64 (fun H locs hP hD hS => ?_)
        have hP : va_P (dC, dI) vwCl [(a0, .inr (21, [.ref a1, .ref a2, .ref a3, .ref a4, .ref a5, .ref a6, .ref a7, .ref a8, .int 0, .ref a9, .int 0, .int 0, .ref a10, .ref a11, .int 0, .ref a12, .int 0, .ref a13, .ref a14, .ref a15, .int 0, .ref a16, .ref a17, .int 0, .int 0, .ref a18, .int 0, .ref a19, .ref a20, .int 0])), (a3, .inr (15, [.ref a1, .ref a31, .int 3, .int 0, .int 0, .int 0, .int 0, .int 0, .int 0, .int 0, .int 0, .long 0, .int 0, .int 0])), (a31, .inl (k0, 4000, .inl (upd (upd (upd (upd (fun _ => 0) (Int32.toNatClampNeg 0) (vp_nar .byte xx48)) (Int32.toNatClampNeg 1) (vp_nar .byte xx51)) (Int32.toNatClampNeg 2) (vp_nar .byte xx54)) (Int32.toNatClampNeg 3) (vp_nar .byte xx57))))] H := hP
        have hD : va_D A [(a0, .inr (21, [.ref a1, .ref a2, .ref a3, .ref a4, .ref a5, .ref a6, .ref a7, .ref a8, .int 0, .ref a9, .int 0, .int 0, .ref a10, .ref a11, .int 0, .ref a12, .int 0, .ref a13, .ref a14, .ref a15, .int 0, .ref a16, .ref a17, .int 0, .int 0, .ref a18, .int 0, .ref a19, .ref a20, .int 0])), (a3, .inr (15, [.ref a1, .ref a31, .int 3, .int 0, .int 0, .int 0, .int 0, .int 0, .int 0, .int 0, .int 0, .long 0, .int 0, .int 0])), (a31, .inl (k0, 4000, .inl (upd (upd (upd (upd (fun _ => 0) (Int32.toNatClampNeg 0) (vp_nar .byte xx48)) (Int32.toNatClampNeg 1) (vp_nar .byte xx51)) (Int32.toNatClampNeg 2) (vp_nar .byte xx54)) (Int32.toNatClampNeg 3) (vp_nar .byte xx57))))] := hD
        refine lv_aload_n hx hb dX20_type_65 rfl (lv_at hl 1 rfl) ?_
        refine va_get (D := (dC, dI)) (ci := 21) (v := .ref a3) (C := RX20) (T := TX20) (N := 30) hx hb hts in_f_X20_type_RX20 hown hK hP 0 rfl rfl 2 (by decide) (hts (.fieldLink RX20 28 "TripleStoreModel" "lexer" "LTripleStoreModel$Lexer;") (List.mem_of_getElem? (i := 1) rfl)) (fun _ h9 => h9) rfl dX20_type_66 ?_
        refine lv_dup hx hb dX20_type_69 rfl ?_
        refine va_getN (D := (dC, dI)) (ci := 15) (v := .int 3) (C := RX14) (T := TX14) (N := 14) hx hb hts in_f_X20_type_RX14 hown hK hP 1 rfl rfl 2 (by decide) (va_Nw.use rfl hZ0) (fun _ h9 => h9) rfl dX20_type_70 ?_
        refine lv_iconst (v := 1) hx hb dX20_type_73 (by decide) ?_
        refine lv_iadd hx hb dX20_type_74 ?_
        refine W.eq (congrArg (fun z : Int32 => F0 m 75 ls (.int z :: [.ref a3])) (by decide +kernel : ((3 : Int32) + 1 : Int32) = 4)) ?_
        refine va_putN (D := (dC, dI)) (ci := 15) (v := .int 4) (ty := .int) (C := RX14) (T := TX14) (N := 14) hx hb hts in_f_X20_type_RX14 tyX14 tyX14_ok nmX14 hown hK hP hD hS 1 rfl rfl 2 (by decide) (va_Nw.use rfl hZ0) (fun _ h9 => h9) rfl (by decide +kernel) rfl rfl (Nat.le_of_ble_eq_true rfl) dX20_type_75 (fun H locs hP hD hS => ?_)
        have hP : va_P (dC, dI) vwCl [(a0, .inr (21, [.ref a1, .ref a2, .ref a3, .ref a4, .ref a5, .ref a6, .ref a7, .ref a8, .int 0, .ref a9, .int 0, .int 0, .ref a10, .ref a11, .int 0, .ref a12, .int 0, .ref a13, .ref a14, .ref a15, .int 0, .ref a16, .ref a17, .int 0, .int 0, .ref a18, .int 0, .ref a19, .ref a20, .int 0])), (a3, .inr (15, [.ref a1, .ref a31, .int 4, .int 0, .int 0, .int 0, .int 0, .int 0, .int 0, .int 0, .int 0, .long 0, .int 0, .int 0])), (a31, .inl (k0, 4000, .inl (upd (upd (upd (upd (fun _ => 0) (Int32.toNatClampNeg 0) (vp_nar .byte xx48)) (Int32.toNatClampNeg 1) (vp_nar .byte xx51)) (Int32.toNatClampNeg 2) (vp_nar .byte xx54)) (Int32.toNatClampNeg 3) (vp_nar .byte xx57))))] H := hP
        have hD : va_D A [(a0, .inr (21, [.ref a1, .ref a2, .ref a3, .ref a4, .ref a5, .ref a6, .ref a7, .ref a8, .int 0, .ref a9, .int 0, .int 0, .ref a10, .ref a11, .int 0, .ref a12, .int 0, .ref a13, .ref a14, .ref a15, .int 0, .ref a16, .ref a17, .int 0, .int 0, .ref a18, .int 0, .ref a19, .ref a20, .int 0])), (a3, .inr (15, [.ref a1, .ref a31, .int 4, .int 0, .int 0, .int 0, .int 0, .int 0, .int 0, .int 0, .int 0, .long 0, .int 0, .int 0])), (a31, .inl (k0, 4000, .inl (upd (upd (upd (upd (fun _ => 0) (Int32.toNatClampNeg 0) (vp_nar .byte xx48)) (Int32.toNatClampNeg 1) (vp_nar .byte xx51)) (Int32.toNatClampNeg 2) (vp_nar .byte xx54)) (Int32.toNatClampNeg 3) (vp_nar .byte xx57))))] := hD
        refine lv_iinc (v := 1) (lv' := [(4, .int 1), (0, .ref a0), (1, .long y0), (3, .int 6)]) hx hb dX20_type_78 hl (k := 0) rfl (by decide +kernel) (by decide) rfl (fun ls hl => ?_)
        refine lv_goto (tgt := 36) hx hb dX20_type_81 (by decide) ?_
        refine lv_iload hx hb dX20_type_36 (lv_at hl 0 rfl) ?_
        refine lv_if_lt (tgt := 84) hx hb dX20_type_38 (by decide) (fun c9 => absurd c9 (by decide +kernel)) (fun _ => ?_)
        refine lv_aload_n hx hb dX20_type_41 rfl (lv_at hl 1 rfl) ?_
        refine va_get (D := (dC, dI)) (ci := 21) (v := .ref a3) (C := RX20) (T := TX20) (N := 30) hx hb hts in_f_X20_type_RX20 hown hK hP 0 rfl rfl 2 (by decide) (hts (.fieldLink RX20 28 "TripleStoreModel" "lexer" "LTripleStoreModel$Lexer;") (List.mem_of_getElem? (i := 1) rfl)) (fun _ h9 => h9) rfl dX20_type_42 ?_
        refine va_getN (D := (dC, dI)) (ci := 15) (v := .ref a31) (C := RX14) (T := TX14) (N := 14) hx hb hts in_f_X20_type_RX14 hown hK hP 1 rfl rfl 1 (by decide) (va_Nw.use rfl hZ1) (fun _ h9 => h9) rfl dX20_type_45 ?_
        refine lv_aload_n hx hb dX20_type_48 rfl (lv_at hl 1 rfl) ?_
        refine va_get (D := (dC, dI)) (ci := 21) (v := .ref a3) (C := RX20) (T := TX20) (N := 30) hx hb hts in_f_X20_type_RX20 hown hK hP 0 rfl rfl 2 (by decide) (hts (.fieldLink RX20 28 "TripleStoreModel" "lexer" "LTripleStoreModel$Lexer;") (List.mem_of_getElem? (i := 1) rfl)) (fun _ h9 => h9) rfl dX20_type_49 ?_
        refine va_getN (D := (dC, dI)) (ci := 15) (v := .int 4) (C := RX14) (T := TX14) (N := 14) hx hb hts in_f_X20_type_RX14 hown hK hP 1 rfl rfl 2 (by decide) (va_Nw.use rfl hZ0) (fun _ h9 => h9) rfl dX20_type_52 ?_
        refine lv_lload_n hx hb dX20_type_55 rfl (lv_at hl 2 rfl) ?_
        refine lv_bipush (v := 8) hx hb dX20_type_56 (by decide) ?_
        refine lv_iload hx hb dX20_type_58 (lv_at hl 0 rfl) ?_
        refine lv_imul hx hb dX20_type_60 ?_
        refine W.eq (congrArg (fun z : Int32 => F0 m 61 ls (.int z :: [.long y0, .int 4, .ref a31])) (by decide +kernel : ((8 : Int32) * 1 : Int32) = 8)) ?_
        refine lv_lshr hx hb dX20_type_61 rfl ?_
        refine lv_topl (fun yy58 _ => ?_)
        refine lv_l2i hx hb dX20_type_62 rfl ?_
        refine lv_topi (fun xx59 _ => ?_)
        refine lv_i2b hx hb dX20_type_63 rfl ?_
        refine lv_topi (fun xx60 _ => ?_)
        refine va_bast (i := 4) (x := xx60) hx hb hK hP hD hS 2 0 rfl rfl (by unfold vp_in; decide +kernel) dX20_type_64 (fun H locs hP hD hS => ?_)
        have hP : va_P (dC, dI) vwCl [(a0, .inr (21, [.ref a1, .ref a2, .ref a3, .ref a4, .ref a5, .ref a6, .ref a7, .ref a8, .int 0, .ref a9, .int 0, .int 0, .ref a10, .ref a11, .int 0, .ref a12, .int 0, .ref a13, .ref a14, .ref a15, .int 0, .ref a16, .ref a17, .int 0, .int 0, .ref a18, .int 0, .ref a19, .ref a20, .int 0])), (a3, .inr (15, [.ref a1, .ref a31, .int 4, .int 0, .int 0, .int 0, .int 0, .int 0, .int 0, .int 0, .int 0, .long 0, .int 0, .int 0])), (a31, .inl (k0, 4000, .inl (upd (upd (upd (upd (upd (fun _ => 0) (Int32.toNatClampNeg 0) (vp_nar .byte xx48)) (Int32.toNatClampNeg 1) (vp_nar .byte xx51)) (Int32.toNatClampNeg 2) (vp_nar .byte xx54)) (Int32.toNatClampNeg 3) (vp_nar .byte xx57)) (Int32.toNatClampNeg 4) (vp_nar .byte xx60))))] H := hP
        have hD : va_D A [(a0, .inr (21, [.ref a1, .ref a2, .ref a3, .ref a4, .ref a5, .ref a6, .ref a7, .ref a8, .int 0, .ref a9, .int 0, .int 0, .ref a10, .ref a11, .int 0, .ref a12, .int 0, .ref a13, .ref a14, .ref a15, .int 0, .ref a16, .ref a17, .int 0, .int 0, .ref a18, .int 0, .ref a19, .ref a20, .int 0])), (a3, .inr (15, [.ref a1, .ref a31, .int 4, .int 0, .int 0, .int 0, .int 0, .int 0, .int 0, .int 0, .int 0, .long 0, .int 0, .int 0])), (a31, .inl (k0, 4000, .inl (upd (upd (upd (upd (upd (fun _ => 0) (Int32.toNatClampNeg 0) (vp_nar .byte xx48)) (Int32.toNatClampNeg 1) (vp_nar .byte xx51)) (Int32.toNatClampNeg 2) (vp_nar .byte xx54)) (Int32.toNatClampNeg 3) (vp_nar .byte xx57)) (Int32.toNatClampNeg 4) (vp_nar .byte xx60))))] := hD
        refine lv_aload_n hx hb dX20_type_65 rfl (lv_at hl 1 rfl) ?_
        refine va_get (D := (dC, dI)) (ci := 21) (v := .ref a3) (C := RX20) (T := TX20) (N := 30) hx hb hts in_f_X20_type_RX20 hown hK hP 0 rfl rfl 2 (by decide) (hts (.fieldLink RX20 28 "TripleStoreModel" "lexer" "LTripleStoreModel$Lexer;") (List.mem_of_getElem? (i := 1) rfl)) (fun _ h9 => h9) rfl dX20_type_66 ?_
        refine lv_dup hx hb dX20_type_69 rfl ?_
        refine va_getN (D := (dC, dI)) (ci := 15) (v := .int 4) (C := RX14) (T := TX14) (N := 14) hx hb hts in_f_X20_type_RX14 hown hK hP 1 rfl rfl 2 (by decide) (va_Nw.use rfl hZ0) (fun _ h9 => h9) rfl dX20_type_70 ?_
        refine lv_iconst (v := 1) hx hb dX20_type_73 (by decide) ?_
        refine lv_iadd hx hb dX20_type_74 ?_
        refine W.eq (congrArg (fun z : Int32 => F0 m 75 ls (.int z :: [.ref a3])) (by decide +kernel : ((4 : Int32) + 1 : Int32) = 5)) ?_
        refine va_putN (D := (dC, dI)) (ci := 15) (v := .int 5) (ty := .int) (C := RX14) (T := TX14) (N := 14) hx hb hts in_f_X20_type_RX14 tyX14 tyX14_ok nmX14 hown hK hP hD hS 1 rfl rfl 2 (by decide) (va_Nw.use rfl hZ0) (fun _ h9 => h9) rfl (by decide +kernel) rfl rfl (Nat.le_of_ble_eq_true rfl) dX20_type_75 (fun H locs hP hD hS => ?_)
        have hP : va_P (dC, dI) vwCl [(a0, .inr (21, [.ref a1, .ref a2, .ref a3, .ref a4, .ref a5, .ref a6, .ref a7, .ref a8, .int 0, .ref a9, .int 0, .int 0, .ref a10, .ref a11, .int 0, .ref a12, .int 0, .ref a13, .ref a14, .ref a15, .int 0, .ref a16, .ref a17, .int 0, .int 0, .ref a18, .int 0, .ref a19, .ref a20, .int 0])), (a3, .inr (15, [.ref a1, .ref a31, .int 5, .int 0, .int 0, .int 0, .int 0, .int 0, .int 0, .int 0, .int 0, .long 0, .int 0, .int 0])), (a31, .inl (k0, 4000, .inl (upd (upd (upd (upd (upd (fun _ => 0) (Int32.toNatClampNeg 0) (vp_nar .byte xx48)) (Int32.toNatClampNeg 1) (vp_nar .byte xx51)) (Int32.toNatClampNeg 2) (vp_nar .byte xx54)) (Int32.toNatClampNeg 3) (vp_nar .byte xx57)) (Int32.toNatClampNeg 4) (vp_nar .byte xx60))))] H := hP
        have hD : va_D A [(a0, .inr (21, [.ref a1, .ref a2, .ref a3, .ref a4, .ref a5, .ref a6, .ref a7, .ref a8, .int 0, .ref a9, .int 0, .int 0, .ref a10, .ref a11, .int 0, .ref a12, .int 0, .ref a13, .ref a14, .ref a15, .int 0, .ref a16, .ref a17, .int 0, .int 0, .ref a18, .int 0, .ref a19, .ref a20, .int 0])), (a3, .inr (15, [.ref a1, .ref a31, .int 5, .int 0, .int 0, .int 0, .int 0, .int 0, .int 0, .int 0, .int 0, .long 0, .int 0, .int 0])), (a31, .inl (k0, 4000, .inl (upd (upd (upd (upd (upd (fun _ => 0) (Int32.toNatClampNeg 0) (vp_nar .byte xx48)) (Int32.toNatClampNeg 1) (vp_nar .byte xx51)) (Int32.toNatClampNeg 2) (vp_nar .byte xx54)) (Int32.toNatClampNeg 3) (vp_nar .byte xx57)) (Int32.toNatClampNeg 4) (vp_nar .byte xx60))))] := hD
        refine lv_iinc (v := 0) (lv' := [(4, .int 0), (0, .ref a0), (1, .long y0), (3, .int 6)]) hx hb dX20_type_78 hl (k := 0) rfl (by decide +kernel) (by decide) rfl (fun ls hl => ?_)
        refine lv_goto (tgt := 36) hx hb dX20_type_81 (by decide) ?_
        refine lv_iload hx hb dX20_type_36 (lv_at hl 0 rfl) ?_
        refine lv_if_lt (tgt := 84) hx hb dX20_type_38 (by decide) (fun c9 => absurd c9 (by decide +kernel)) (fun _ => ?_)
        refine lv_aload_n hx hb dX20_type_41 rfl (lv_at hl 1 rfl) ?_
        refine va_get (D := (dC, dI)) (ci := 21) (v := .ref a3) (C := RX20) (T := TX20) (N := 30) hx hb hts in_f_X20_type_RX20 hown hK hP 0 rfl rfl 2 (by decide) (hts (.fieldLink RX20 28 "TripleStoreModel" "lexer" "LTripleStoreModel$Lexer;") (List.mem_of_getElem? (i := 1) rfl)) (fun _ h9 => h9) rfl dX20_type_42 ?_
        refine va_getN (D := (dC, dI)) (ci := 15) (v := .ref a31) (C := RX14) (T := TX14) (N := 14) hx hb hts in_f_X20_type_RX14 hown hK hP 1 rfl rfl 1 (by decide) (va_Nw.use rfl hZ1) (fun _ h9 => h9) rfl dX20_type_45 ?_
        refine lv_aload_n hx hb dX20_type_48 rfl (lv_at hl 1 rfl) ?_
        refine va_get (D := (dC, dI)) (ci := 21) (v := .ref a3) (C := RX20) (T := TX20) (N := 30) hx hb hts in_f_X20_type_RX20 hown hK hP 0 rfl rfl 2 (by decide) (hts (.fieldLink RX20 28 "TripleStoreModel" "lexer" "LTripleStoreModel$Lexer;") (List.mem_of_getElem? (i := 1) rfl)) (fun _ h9 => h9) rfl dX20_type_49 ?_
        refine va_getN (D := (dC, dI)) (ci := 15) (v := .int 5) (C := RX14) (T := TX14) (N := 14) hx hb hts in_f_X20_type_RX14 hown hK hP 1 rfl rfl 2 (by decide) (va_Nw.use rfl hZ0) (fun _ h9 => h9) rfl dX20_type_52 ?_
        refine lv_lload_n hx hb dX20_type_55 rfl (lv_at hl 2 rfl) ?_
        refine lv_bipush (v := 8) hx hb dX20_type_56 (by decide) ?_
        refine lv_iload hx hb dX20_type_58 (lv_at hl 0 rfl) ?_
        refine lv_imul hx hb dX20_type_60 ?_
        refine W.eq (congrArg (fun z : Int32 => F0 m 61 ls (.int z :: [.long y0, .int 5, .ref a31])) (by decide +kernel : ((8 : Int32) * 0 : Int32) = 0)) ?_
        refine lv_lshr hx hb dX20_type_61 rfl ?_
        refine lv_topl (fun yy61 _ => ?_)
        refine lv_l2i hx hb dX20_type_62 rfl ?_
        refine lv_topi (fun xx62 _ => ?_)
        refine lv_i2b hx hb dX20_type_63 rfl ?_
        refine lv_topi (fun xx63 _ => ?_)
        refine va_bast (i := 5) (x := xx63) hx hb hK hP hD hS 2 0 rfl rfl (by unfold vp_in; decide +kernel) dX20_type_64 (fun H locs hP hD hS => ?_)
        have hP : va_P (dC, dI) vwCl [(a0, .inr (21, [.ref a1, .ref a2, .ref a3, .ref a4, .ref a5, .ref a6, .ref a7, .ref a8, .int 0, .ref a9, .int 0, .int 0, .ref a10, .ref a11, .int 0, .ref a12, .int 0, .ref a13, .ref a14, .ref a15, .int 0, .ref a16, .ref a17, .int 0, .int 0, .ref a18, .int 0, .ref a19, .ref a20, .int 0])), (a3, .inr (15, [.ref a1, .ref a31, .int 5, .int 0, .int 0, .int 0, .int 0, .int 0, .int 0, .int 0, .int 0, .long 0, .int 0, .int 0])), (a31, .inl (k0, 4000, .inl (upd (upd (upd (upd (upd (upd (fun _ => 0) (Int32.toNatClampNeg 0) (vp_nar .byte xx48)) (Int32.toNatClampNeg 1) (vp_nar .byte xx51)) (Int32.toNatClampNeg 2) (vp_nar .byte xx54)) (Int32.toNatClampNeg 3) (vp_nar .byte xx57)) (Int32.toNatClampNeg 4) (vp_nar .byte xx60)) (Int32.toNatClampNeg 5) (vp_nar .byte xx63))))] H := hP
        have hD : va_D A [(a0, .inr (21, [.ref a1, .ref a2, .ref a3, .ref a4, .ref a5, .ref a6, .ref a7, .ref a8, .int 0, .ref a9, .int 0, .int 0, .ref a10, .ref a11, .int 0, .ref a12, .int 0, .ref a13, .ref a14, .ref a15, .int 0, .ref a16, .ref a17, .int 0, .int 0, .ref a18, .int 0, .ref a19, .ref a20, .int 0])), (a3, .inr (15, [.ref a1, .ref a31, .int 5, .int 0, .int 0, .int 0, .int 0, .int 0, .int 0, .int 0, .int 0, .long 0, .int 0, .int 0])), (a31, .inl (k0, 4000, .inl (upd (upd (upd (upd (upd (upd (fun _ => 0) (Int32.toNatClampNeg 0) (vp_nar .byte xx48)) (Int32.toNatClampNeg 1) (vp_nar .byte xx51)) (Int32.toNatClampNeg 2) (vp_nar .byte xx54)) (Int32.toNatClampNeg 3) (vp_nar .byte xx57)) (Int32.toNatClampNeg 4) (vp_nar .byte xx60)) (Int32.toNatClampNeg 5) (vp_nar .byte xx63))))] := hD
        refine lv_aload_n hx hb dX20_type_65 rfl (lv_at hl 1 rfl) ?_
        refine va_get (D := (dC, dI)) (ci := 21) (v := .ref a3) (C := RX20) (T := TX20) (N := 30) hx hb hts in_f_X20_type_RX20 hown hK hP 0 rfl rfl 2 (by decide) (hts (.fieldLink RX20 28 "TripleStoreModel" "lexer" "LTripleStoreModel$Lexer;") (List.mem_of_getElem? (i := 1) rfl)) (fun _ h9 => h9) rfl dX20_type_66 ?_
        refine lv_dup hx hb dX20_type_69 rfl ?_
        refine va_getN (D := (dC, dI)) (ci := 15) (v := .int 5) (C := RX14) (T := TX14) (N := 14) hx hb hts in_f_X20_type_RX14 hown hK hP 1 rfl rfl 2 (by decide) (va_Nw.use rfl hZ0) (fun _ h9 => h9) rfl dX20_type_70 ?_
        refine lv_iconst (v := 1) hx hb dX20_type_73 (by decide) ?_
        refine lv_iadd hx hb dX20_type_74 ?_
        refine W.eq (congrArg (fun z : Int32 => F0 m 75 ls (.int z :: [.ref a3])) (by decide +kernel : ((5 : Int32) + 1 : Int32) = 6)) ?_
        refine va_putN (D := (dC, dI)) (ci := 15) (v := .int 6) (ty := .int) (C := RX14) (T := TX14) (N := 14) hx hb hts in_f_X20_type_RX14 tyX14 tyX14_ok nmX14 hown hK hP hD hS 1 rfl rfl 2 (by decide) (va_Nw.use rfl hZ0) (fun _ h9 => h9) rfl (by decide +kernel) rfl rfl (Nat.le_of_ble_eq_true rfl) dX20_type_75 (fun H locs hP hD hS => ?_)
        have hP : va_P (dC, dI) vwCl [(a0, .inr (21, [.ref a1, .ref a2, .ref a3, .ref a4, .ref a5, .ref a6, .ref a7, .ref a8, .int 0, .ref a9, .int 0, .int 0, .ref a10, .ref a11, .int 0, .ref a12, .int 0, .ref a13, .ref a14, .ref a15, .int 0, .ref a16, .ref a17, .int 0, .int 0, .ref a18, .int 0, .ref a19, .ref a20, .int 0])), (a3, .inr (15, [.ref a1, .ref a31, .int 6, .int 0, .int 0, .int 0, .int 0, .int 0, .int 0, .int 0, .int 0, .long 0, .int 0, .int 0])), (a31, .inl (k0, 4000, .inl (upd (upd (upd (upd (upd (upd (fun _ => 0) (Int32.toNatClampNeg 0) (vp_nar .byte xx48)) (Int32.toNatClampNeg 1) (vp_nar .byte xx51)) (Int32.toNatClampNeg 2) (vp_nar .byte xx54)) (Int32.toNatClampNeg 3) (vp_nar .byte xx57)) (Int32.toNatClampNeg 4) (vp_nar .byte xx60)) (Int32.toNatClampNeg 5) (vp_nar .byte xx63))))] H := hP
        have hD : va_D A [(a0, .inr (21, [.ref a1, .ref a2, .ref a3, .ref a4, .ref a5, .ref a6, .ref a7, .ref a8, .int 0, .ref a9, .int 0, .int 0, .ref a10, .ref a11, .int 0, .ref a12, .int 0, .ref a13, .ref a14, .ref a15, .int 0, .ref a16, .ref a17, .int 0, .int 0, .ref a18, .int 0, .ref a19, .ref a20, .int 0])), (a3, .inr (15, [.ref a1, .ref a31, .int 6, .int 0, .int 0, .int 0, .int 0, .int 0, .int 0, .int 0, .int 0, .long 0, .int 0, .int 0])), (a31, .inl (k0, 4000, .inl (upd (upd (upd (upd (upd (upd (fun _ => 0) (Int32.toNatClampNeg 0) (vp_nar .byte xx48)) (Int32.toNatClampNeg 1) (vp_nar .byte xx51)) (Int32.toNatClampNeg 2) (vp_nar .byte xx54)) (Int32.toNatClampNeg 3) (vp_nar .byte xx57)) (Int32.toNatClampNeg 4) (vp_nar .byte xx60)) (Int32.toNatClampNeg 5) (vp_nar .byte xx63))))] := hD
        refine lv_iinc (v := (-1)) (lv' := [(4, .int (-1)), (0, .ref a0), (1, .long y0), (3, .int 6)]) hx hb dX20_type_78 hl (k := 0) rfl (by decide +kernel) (by decide) rfl (fun ls hl => ?_)
        refine lv_goto (tgt := 36) hx hb dX20_type_81 (by decide) ?_
        refine lv_iload hx hb dX20_type_36 (lv_at hl 0 rfl) ?_
        refine lv_if_lt (tgt := 84) hx hb dX20_type_38 (by decide) (fun _ => ?_) (fun c9 => absurd (by decide +kernel) c9)
        refine lv_aload_n hx hb dX20_type_84 rfl (lv_at hl 1 rfl) ?_
        refine va_get (D := (dC, dI)) (ci := 21) (v := .ref a3) (C := RX20) (T := TX20) (N := 30) hx hb hts in_f_X20_type_RX20 hown hK hP 0 rfl rfl 2 (by decide) (hts (.fieldLink RX20 28 "TripleStoreModel" "lexer" "LTripleStoreModel$Lexer;") (List.mem_of_getElem? (i := 1) rfl)) (fun _ h9 => h9) rfl dX20_type_85 ?_
        refine va_getN (D := (dC, dI)) (ci := 15) (v := .int 6) (C := RX14) (T := TX14) (N := 14) hx hb hts in_f_X20_type_RX14 hown hK hP 1 rfl rfl 2 (by decide) (va_Nw.use rfl hZ0) (fun _ h9 => h9) rfl dX20_type_88 ?_
        refine W.widen (k := 0) (n := 0) (Nat.le_of_ble_eq_true rfl) (Nat.le_of_ble_eq_true rfl) ?_
        exact W.iret (v := 6) hx hb hr (fun t ht hW => ⟨⟨6, (), rfl, by rw [if_neg (by decide +kernel), if_pos (by decide +kernel)], trivial⟩, hS.F ht⟩) hS.2.2 dX20_type_91
      · refine lv_aload_n hx hb dX20_type_13 rfl (lv_at hl 0 rfl) ?_
        refine va_get (D := (dC, dI)) (ci := 21) (v := .ref a3) (C := RX20) (T := TX20) (N := 30) hx hb hts in_f_X20_type_RX20 hown hK hP 0 rfl rfl 2 (by decide) (hts (.fieldLink RX20 28 "TripleStoreModel" "lexer" "LTripleStoreModel$Lexer;") (List.mem_of_getElem? (i := 1) rfl)) (fun _ h9 => h9) rfl dX20_type_14 ?_
        refine va_getN (D := (dC, dI)) (ci := 15) (v := .int 0) (C := RX14) (T := TX14) (N := 14) hx hb hts in_f_X20_type_RX14 hown hK hP 1 rfl rfl 2 (by decide) (va_Nw.use rfl hZ0) (fun _ h9 => h9) rfl dX20_type_17 ?_
        refine lv_iload_n hx hb dX20_type_20 rfl (lv_at hl 2 rfl) ?_
        refine lv_iadd hx hb dX20_type_21 ?_
        refine W.eq (congrArg (fun z : Int32 => F0 m 22 ls (.int z :: [])) (by decide +kernel : ((0 : Int32) + 7 : Int32) = 7)) ?_
        refine lv_sipush (v := 4000) hx hb dX20_type_22 (by decide) ?_
        refine lv_icmp_le (tgt := 31) hx hb dX20_type_25 (by decide) (fun _ => ?_) (fun c9 => absurd (by decide +kernel) c9)
        refine lv_iload_n hx hb dX20_type_31 rfl (lv_at hl 2 rfl) ?_
        refine lv_iconst (v := 1) hx hb dX20_type_32 (by decide) ?_
        refine lv_isub hx hb dX20_type_33 ?_
        refine W.eq (congrArg (fun z : Int32 => F0 m 34 ls (.int z :: [])) (by decide +kernel : ((7 : Int32) - 1 : Int32) = 6)) ?_
        refine lv_istore (lv' := [(4, .int 6), (0, .ref a0), (1, .long y0), (3, .int 7)]) hx hb dX20_type_34 hl (by decide) rfl (fun ls hl => ?_)
        refine lv_iload hx hb dX20_type_36 (lv_at hl 0 rfl) ?_
        refine lv_if_lt (tgt := 84) hx hb dX20_type_38 (by decide) (fun c9 => absurd c9 (by decide +kernel)) (fun _ => ?_)
        refine lv_aload_n hx hb dX20_type_41 rfl (lv_at hl 1 rfl) ?_
        refine va_get (D := (dC, dI)) (ci := 21) (v := .ref a3) (C := RX20) (T := TX20) (N := 30) hx hb hts in_f_X20_type_RX20 hown hK hP 0 rfl rfl 2 (by decide) (hts (.fieldLink RX20 28 "TripleStoreModel" "lexer" "LTripleStoreModel$Lexer;") (List.mem_of_getElem? (i := 1) rfl)) (fun _ h9 => h9) rfl dX20_type_42 ?_
        refine va_getN (D := (dC, dI)) (ci := 15) (v := .ref a31) (C := RX14) (T := TX14) (N := 14) hx hb hts in_f_X20_type_RX14 hown hK hP 1 rfl rfl 1 (by decide) (va_Nw.use rfl hZ1) (fun _ h9 => h9) rfl dX20_type_45 ?_
        refine lv_aload_n hx hb dX20_type_48 rfl (lv_at hl 1 rfl) ?_
        refine va_get (D := (dC, dI)) (ci := 21) (v := .ref a3) (C := RX20) (T := TX20) (N := 30) hx hb hts in_f_X20_type_RX20 hown hK hP 0 rfl rfl 2 (by decide) (hts (.fieldLink RX20 28 "TripleStoreModel" "lexer" "LTripleStoreModel$Lexer;") (List.mem_of_getElem? (i := 1) rfl)) (fun _ h9 => h9) rfl dX20_type_49 ?_
        refine va_getN (D := (dC, dI)) (ci := 15) (v := .int 0) (C := RX14) (T := TX14) (N := 14) hx hb hts in_f_X20_type_RX14 hown hK hP 1 rfl rfl 2 (by decide) (va_Nw.use rfl hZ0) (fun _ h9 => h9) rfl dX20_type_52 ?_
        refine lv_lload_n hx hb dX20_type_55 rfl (lv_at hl 2 rfl) ?_
        refine lv_bipush (v := 8) hx hb dX20_type_56 (by decide) ?_
        refine lv_iload hx hb dX20_type_58 (lv_at hl 0 rfl) ?_
        refine lv_imul hx hb dX20_type_60 ?_
        refine W.eq (congrArg (fun z : Int32 => F0 m 61 ls (.int z :: [.long y0, .int 0, .ref a31])) (by decide +kernel : ((8 : Int32) * 6 : Int32) = 48)) ?_
        refine lv_lshr hx hb dX20_type_61 rfl ?_
        refine lv_topl (fun yy64 _ => ?_)
        refine lv_l2i hx hb dX20_type_62 rfl ?_
        refine lv_topi (fun xx65 _ => ?_)
        refine lv_i2b hx hb dX20_type_63 rfl ?_
        refine lv_topi (fun xx66 _ => ?_)
        refine va_bast (i := 0) (x := xx66) hx hb hK hP hD hS 2 0 rfl rfl (by unfold vp_in; decide +kernel) dX20_type_64 (fun H locs hP hD hS => ?_)
        have hP : va_P (dC, dI) vwCl [(a0, .inr (21, [.ref a1, .ref a2, .ref a3, .ref a4, .ref a5, .ref a6, .ref a7, .ref a8, .int 0, .ref a9, .int 0, .int 0, .ref a10, .ref a11, .int 0, .ref a12, .int 0, .ref a13, .ref a14, .ref a15, .int 0, .ref a16, .ref a17, .int 0, .int 0, .ref a18, .int 0, .ref a19, .ref a20, .int 0])), (a3, .inr (15, [.ref a1, .ref a31, .int 0, .int 0, .int 0, .int 0, .int 0, .int 0, .int 0, .int 0, .int 0, .long 0, .int 0, .int 0])), (a31, .inl (k0, 4000, .inl (upd (fun _ => 0) (Int32.toNatClampNeg 0) (vp_nar .byte xx66))))] H := hP
        have hD : va_D A [(a0, .inr (21, [.ref a1, .ref a2, .ref a3, .ref a4, .ref a5, .ref a6, .ref a7, .ref a8, .int 0, .ref a9, .int 0, .int 0, .ref a10, .ref a11, .int 0, .ref a12, .int 0, .ref a13, .ref a14, .ref a15, .int 0, .ref a16, .ref a17, .int 0, .int 0, .ref a18, .int 0, .ref a19, .ref a20, .int 0])), (a3, .inr (15, [.ref a1, .ref a31, .int 0, .int 0, .int 0, .int 0, .int 0, .int 0, .int 0, .int 0, .int 0, .long 0, .int 0, .int 0])), (a31, .inl (k0, 4000, .inl (upd (fun _ => 0) (Int32.toNatClampNeg 0) (vp_nar .byte xx66))))] := hD
        refine lv_aload_n hx hb dX20_type_65 rfl (lv_at hl 1 rfl) ?_
        refine va_get (D := (dC, dI)) (ci := 21) (v := .ref a3) (C := RX20) (T := TX20) (N := 30) hx hb hts in_f_X20_type_RX20 hown hK hP 0 rfl rfl 2 (by decide) (hts (.fieldLink RX20 28 "TripleStoreModel" "lexer" "LTripleStoreModel$Lexer;") (List.mem_of_getElem? (i := 1) rfl)) (fun _ h9 => h9) rfl dX20_type_66 ?_
        refine lv_dup hx hb dX20_type_69 rfl ?_
        refine va_getN (D := (dC, dI)) (ci := 15) (v := .int 0) (C := RX14) (T := TX14) (N := 14) hx hb hts in_f_X20_type_RX14 hown hK hP 1 rfl rfl 2 (by decide) (va_Nw.use rfl hZ0) (fun _ h9 => h9) rfl dX20_type_70 ?_
        refine lv_iconst (v := 1) hx hb dX20_type_73 (by decide) ?_
        refine lv_iadd hx hb dX20_type_74 ?_
        refine W.eq (congrArg (fun z : Int32 => F0 m 75 ls (.int z :: [.ref a3])) (by decide +kernel : ((0 : Int32) + 1 : Int32) = 1)) ?_
        refine va_putN (D := (dC, dI)) (ci := 15) (v := .int 1) (ty := .int) (C := RX14) (T := TX14) (N := 14) hx hb hts in_f_X20_type_RX14 tyX14 tyX14_ok nmX14 hown hK hP hD hS 1 rfl rfl 2 (by decide) (va_Nw.use rfl hZ0) (fun _ h9 => h9) rfl (by decide +kernel) rfl rfl (Nat.le_of_ble_eq_true rfl) dX20_type_75 (fun H locs hP hD hS => ?_)
        have hP : va_P (dC, dI) vwCl [(a0, .inr (21, [.ref a1, .ref a2, .ref a3, .ref a4, .ref a5, .ref a6, .ref a7, .ref a8, .int 0, .ref a9, .int 0, .int 0, .ref a10, .ref a11, .int 0, .ref a12, .int 0, .ref a13, .ref a14, .ref a15, .int 0, .ref a16, .ref a17, .int 0, .int 0, .ref a18, .int 0, .ref a19, .ref a20, .int 0])), (a3, .inr (15, [.ref a1, .ref a31, .int 1, .int 0, .int 0, .int 0, .int 0, .int 0, .int 0, .int 0, .int 0, .long 0, .int 0, .int 0])), (a31, .inl (k0, 4000, .inl (upd (fun _ => 0) (Int32.toNatClampNeg 0) (vp_nar .byte xx66))))] H := hP
        have hD : va_D A [(a0, .inr (21, [.ref a1, .ref a2, .ref a3, .ref a4, .ref a5, .ref a6, .ref a7, .ref a8, .int 0, .ref a9, .int 0, .int 0, .ref a10, .ref a11, .int 0, .ref a12, .int 0, .ref a13, .ref a14, .ref a15, .int 0, .ref a16, .ref a17, .int 0, .int 0, .ref a18, .int 0, .ref a19, .ref a20, .int 0])), (a3, .inr (15, [.ref a1, .ref a31, .int 1, .int 0, .int 0, .int 0, .int 0, .int 0, .int 0, .int 0, .int 0, .long 0, .int 0, .int 0])), (a31, .inl (k0, 4000, .inl (upd (fun _ => 0) (Int32.toNatClampNeg 0) (vp_nar .byte xx66))))] := hD
        refine lv_iinc (v := 5) (lv' := [(4, .int 5), (0, .ref a0), (1, .long y0), (3, .int 7)]) hx hb dX20_type_78 hl (k := 0) rfl (by decide +kernel) (by decide) rfl (fun ls hl => ?_)
        refine lv_goto (tgt := 36) hx hb dX20_type_81 (by decide) ?_
        refine lv_iload hx hb dX20_type_36 (lv_at hl 0 rfl) ?_
        refine lv_if_lt (tgt := 84) hx hb dX20_type_38 (by decide) (fun c9 => absurd c9 (by decide +kernel)) (fun _ => ?_)
        refine lv_aload_n hx hb dX20_type_41 rfl (lv_at hl 1 rfl) ?_
        refine va_get (D := (dC, dI)) (ci := 21) (v := .ref a3) (C := RX20) (T := TX20) (N := 30) hx hb hts in_f_X20_type_RX20 hown hK hP 0 rfl rfl 2 (by decide) (hts (.fieldLink RX20 28 "TripleStoreModel" "lexer" "LTripleStoreModel$Lexer;") (List.mem_of_getElem? (i := 1) rfl)) (fun _ h9 => h9) rfl dX20_type_42 ?_
        refine va_getN (D := (dC, dI)) (ci := 15) (v := .ref a31) (C := RX14) (T := TX14) (N := 14) hx hb hts in_f_X20_type_RX14 hown hK hP 1 rfl rfl 1 (by decide) (va_Nw.use rfl hZ1) (fun _ h9 => h9) rfl dX20_type_45 ?_
        refine lv_aload_n hx hb dX20_type_48 rfl (lv_at hl 1 rfl) ?_
        refine va_get (D := (dC, dI)) (ci := 21) (v := .ref a3) (C := RX20) (T := TX20) (N := 30) hx hb hts in_f_X20_type_RX20 hown hK hP 0 rfl rfl 2 (by decide) (hts (.fieldLink RX20 28 "TripleStoreModel" "lexer" "LTripleStoreModel$Lexer;") (List.mem_of_getElem? (i := 1) rfl)) (fun _ h9 => h9) rfl dX20_type_49 ?_
        refine va_getN (D := (dC, dI)) (ci := 15) (v := .int 1) (C := RX14) (T := TX14) (N := 14) hx hb hts in_f_X20_type_RX14 hown hK hP 1 rfl rfl 2 (by decide) (va_Nw.use rfl hZ0) (fun _ h9 => h9) rfl dX20_type_52 ?_
        refine lv_lload_n hx hb dX20_type_55 rfl (lv_at hl 2 rfl) ?_
        refine lv_bipush (v := 8) hx hb dX20_type_56 (by decide) ?_
        refine lv_iload hx hb dX20_type_58 (lv_at hl 0 rfl) ?_
        refine lv_imul hx hb dX20_type_60 ?_
        refine W.eq (congrArg (fun z : Int32 => F0 m 61 ls (.int z :: [.long y0, .int 1, .ref a31])) (by decide +kernel : ((8 : Int32) * 5 : Int32) = 40)) ?_
        refine lv_lshr hx hb dX20_type_61 rfl ?_
        refine lv_topl (fun yy67 _ => ?_)
        refine lv_l2i hx hb dX20_type_62 rfl ?_
        refine lv_topi (fun xx68 _ => ?_)
        refine lv_i2b hx hb dX20_type_63 rfl ?_
        refine lv_topi (fun xx69 _ => ?_)
        refine va_bast (i := 1) (x := xx69) hx hb hK hP hD hS 2 0 rfl rfl (by unfold vp_in; decide +kernel) dX20_type_64 (fun H locs hP hD hS => ?_)
        have hP : va_P (dC, dI) vwCl [(a0, .inr (21, [.ref a1, .ref a2, .ref a3, .ref a4, .ref a5, .ref a6, .ref a7, .ref a8, .int 0, .ref a9, .int 0, .int 0, .ref a10, .ref a11, .int 0, .ref a12, .int 0, .ref a13, .ref a14, .ref a15, .int 0, .ref a16, .ref a17, .int 0, .int 0, .ref a18, .int 0, .ref a19, .ref a20, .int 0])), (a3, .inr (15, [.ref a1, .ref a31, .int 1, .int 0, .int 0, .int 0, .int 0, .int 0, .int 0, .int 0, .int 0, .long 0, .int 0, .int 0])), (a31, .inl (k0, 4000, .inl (upd (upd (fun _ => 0) (Int32.toNatClampNeg 0) (vp_nar .byte xx66)) (Int32.toNatClampNeg 1) (vp_nar .byte xx69))))] H := hP
        have hD : va_D A [(a0, .inr (21, [.ref a1, .ref a2, .ref a3, .ref a4, .ref a5, .ref a6, .ref a7, .ref a8, .int 0, .ref a9, .int 0, .int 0, .ref a10, .ref a11, .int 0, .ref a12, .int 0, .ref a13, .ref a14, .ref a15, .int 0, .ref a16, .ref a17, .int 0, .int 0, .ref a18, .int 0, .ref a19, .ref a20, .int 0])), (a3, .inr (15, [.ref a1, .ref a31, .int 1, .int 0, .int 0, .int 0, .int 0, .int 0, .int 0, .int 0, .int 0, .long 0, .int 0, .int 0])), (a31, .inl (k0, 4000, .inl (upd (upd (fun _ => 0) (Int32.toNatClampNeg 0) (vp_nar .byte xx66)) (Int32.toNatClampNeg 1) (vp_nar .byte xx69))))] := hD
        refine lv_aload_n hx hb dX20_type_65 rfl (lv_at hl 1 rfl) ?_
        refine va_get (D := (dC, dI)) (ci := 21) (v := .ref a3) (C := RX20) (T := TX20) (N := 30) hx hb hts in_f_X20_type_RX20 hown hK hP 0 rfl rfl 2 (by decide) (hts (.fieldLink RX20 28 "TripleStoreModel" "lexer" "LTripleStoreModel$Lexer;") (List.mem_of_getElem? (i := 1) rfl)) (fun _ h9 => h9) rfl dX20_type_66 ?_
        refine lv_dup hx hb dX20_type_69 rfl ?_
        refine va_getN (D := (dC, dI)) (ci := 15) (v := .int 1) (C := RX14) (T := TX14) (N := 14) hx hb hts in_f_X20_type_RX14 hown hK hP 1 rfl rfl 2 (by decide) (va_Nw.use rfl hZ0) (fun _ h9 => h9) rfl dX20_type_70 ?_
        refine lv_iconst (v := 1) hx hb dX20_type_73 (by decide) ?_
        refine lv_iadd hx hb dX20_type_74 ?_
        refine W.eq (congrArg (fun z : Int32 => F0 m 75 ls (.int z :: [.ref a3])) (by decide +kernel : ((1 : Int32) + 1 : Int32) = 2)) ?_
        refine va_putN (D := (dC, dI)) (ci := 15) (v := .int 2) (ty := .int) (C := RX14) (T := TX14) (N := 14) hx hb hts in_f_X20_type_RX14 tyX14 tyX14_ok nmX14 hown hK hP hD hS 1 rfl rfl 2 (by decide) (va_Nw.use rfl hZ0) (fun _ h9 => h9) rfl (by decide +kernel) rfl rfl (Nat.le_of_ble_eq_true rfl) dX20_type_75 (fun H locs hP hD hS => ?_)
        have hP : va_P (dC, dI) vwCl [(a0, .inr (21, [.ref a1, .ref a2, .ref a3, .ref a4, .ref a5, .ref a6, .ref a7, .ref a8, .int 0, .ref a9, .int 0, .int 0, .ref a10, .ref a11, .int 0, .ref a12, .int 0, .ref a13, .ref a14, .ref a15, .int 0, .ref a16, .ref a17, .int 0, .int 0, .ref a18, .int 0, .ref a19, .ref a20, .int 0])), (a3, .inr (15, [.ref a1, .ref a31, .int 2, .int 0, .int 0, .int 0, .int 0, .int 0, .int 0, .int 0, .int 0, .long 0, .int 0, .int 0])), (a31, .inl (k0, 4000, .inl (upd (upd (fun _ => 0) (Int32.toNatClampNeg 0) (vp_nar .byte xx66)) (Int32.toNatClampNeg 1) (vp_nar .byte xx69))))] H := hP
        have hD : va_D A [(a0, .inr (21, [.ref a1, .ref a2, .ref a3, .ref a4, .ref a5, .ref a6, .ref a7, .ref a8, .int 0, .ref a9, .int 0, .int 0, .ref a10, .ref a11, .int 0, .ref a12, .int 0, .ref a13, .ref a14, .ref a15, .int 0, .ref a16, .ref a17, .int 0, .int 0, .ref a18, .int 0, .ref a19, .ref a20, .int 0])), (a3, .inr (15, [.ref a1, .ref a31, .int 2, .int 0, .int 0, .int 0, .int 0, .int 0, .int 0, .int 0, .int 0, .long 0, .int 0, .int 0])), (a31, .inl (k0, 4000, .inl (upd (upd (fun _ => 0) (Int32.toNatClampNeg 0) (vp_nar .byte xx66)) (Int32.toNatClampNeg 1) (vp_nar .byte xx69))))] := hD
        refine lv_iinc (v := 4) (lv' := [(4, .int 4), (0, .ref a0), (1, .long y0), (3, .int 7)]) hx hb dX20_type_78 hl (k := 0) rfl (by decide +kernel) (by decide) rfl (fun ls hl => ?_)
        refine lv_goto (tgt := 36) hx hb dX20_type_81 (by decide) ?_
        refine lv_iload hx hb dX20_type_36 (lv_at hl 0 rfl) ?_
        refine lv_if_lt (tgt := 84) hx hb dX20_type_38 (by decide) (fun c9 => absurd c9 (by decide +kernel)) (fun _ => ?_)
        refine lv_aload_n hx hb dX20_type_41 rfl (lv_at hl 1 rfl) ?_
        refine va_get (D := (dC, dI)) (ci := 21) (v := .ref a3) (C := RX20) (T := TX20) (N := 30) hx hb hts in_f_X20_type_RX20 hown hK hP 0 rfl rfl 2 (by decide) (hts (.fieldLink RX20 28 "TripleStoreModel" "lexer" "LTripleStoreModel$Lexer;") (List.mem_of_getElem? (i := 1) rfl)) (fun _ h9 => h9) rfl dX20_type_42 ?_
        refine va_getN (D := (dC, dI)) (ci := 15) (v := .ref a31) (C := RX14) (T := TX14) (N := 14) hx hb hts in_f_X20_type_RX14 hown hK hP 1 rfl rfl 1 (by decide) (va_Nw.use rfl hZ1) (fun _ h9 => h9) rfl dX20_type_45 ?_
        refine lv_aload_n hx hb dX20_type_48 rfl (lv_at hl 1 rfl) ?_
        refine va_get (D := (dC, dI)) (ci := 21) (v := .ref a3) (C := RX20) (T := TX20) (N := 30) hx hb hts in_f_X20_type_RX20 hown hK hP 0 rfl rfl 2 (by decide) (hts (.fieldLink RX20 28 "TripleStoreModel" "lexer" "LTripleStoreModel$Lexer;") (List.mem_of_getElem? (i := 1) rfl)) (fun _ h9 => h9) rfl dX20_type_49 ?_
        refine va_getN (D := (dC, dI)) (ci := 15) (v := .int 2) (C := RX14) (T := TX14) (N := 14) hx hb hts in_f_X20_type_RX14 hown hK hP 1 rfl rfl 2 (by decide) (va_Nw.use rfl hZ0) (fun _ h9 => h9) rfl dX20_type_52 ?_
        refine lv_lload_n hx hb dX20_type_55 rfl (lv_at hl 2 rfl) ?_
        refine lv_bipush (v := 8) hx hb dX20_type_56 (by decide) ?_
        refine lv_iload hx hb dX20_type_58 (lv_at hl 0 rfl) ?_
        refine lv_imul hx hb dX20_type_60 ?_
        refine W.eq (congrArg (fun z : Int32 => F0 m 61 ls (.int z :: [.long y0, .int 2, .ref a31])) (by decide +kernel : ((8 : Int32) * 4 : Int32) = 32)) ?_
        refine lv_lshr hx hb dX20_type_61 rfl ?_
        refine lv_topl (fun yy70 _ => ?_)
        refine lv_l2i hx hb dX20_type_62 rfl ?_
        refine lv_topi (fun xx71 _ => ?_)
        refine lv_i2b hx hb dX20_type_63 rfl ?_
        refine lv_topi (fun xx72 _ => ?_)
        refine va_bast (i := 2) (x := xx72) hx hb hK hP hD hS 2 0 rfl rfl (by unfold vp_in; decide +kernel) dX20_type_64 (fun H locs hP hD hS => ?_)
        have hP : va_P (dC, dI) vwCl [(a0, .inr (21, [.ref a1, .ref a2, .ref a3, .ref a4, .ref a5, .ref a6, .ref a7, .ref a8, .int 0, .ref a9, .int 0, .int 0, .ref a10, .ref a11, .int 0, .ref a12, .int 0, .ref a13, .ref a14, .ref a15, .int 0, .ref a16, .ref a17, .int 0, .int 0, .ref a18, .int 0, .ref a19, .ref a20, .int 0])), (a3, .inr (15, [.ref a1, .ref a31, .int 2, .int 0, .int 0, .int 0, .int 0, .int 0, .int 0, .int 0, .int 0, .long 0, .int 0, .int 0])), (a31, .inl (k0, 4000, .inl (upd (upd (upd (fun _ => 0) (Int32.toNatClampNeg 0) (vp_nar .byte xx66)) (Int32.toNatClampNeg 1) (vp_nar .byte xx69)) (Int32.toNatClampNeg 2) (vp_nar .byte xx72))))] H := hP
        have hD : va_D A [(a0, .inr (21, [.ref a1, .ref a2, .ref a3, .ref a4, .ref a5, .ref a6, .ref a7, .ref a8, .int 0, .ref a9, .int 0, .int 0, .ref a10, .ref a11, .int 0, .ref a12, .int 0, .ref a13, .ref a14, .ref a15, .int 0, .ref a16, .ref a17, .int 0, .int 0, .ref a18, .int 0, .ref a19, .ref a20, .int 0])), (a3, .inr (15, [.ref a1, .ref a31, .int 2, .int 0, .int 0, .int 0, .int 0, .int 0, .int 0, .int 0, .int 0, .long 0, .int 0, .int 0])), (a31, .inl (k0, 4000, .inl (upd (upd (upd (fun _ => 0) (Int32.toNatClampNeg 0) (vp_nar .byte xx66)) (Int32.toNatClampNeg 1) (vp_nar .byte xx69)) (Int32.toNatClampNeg 2) (vp_nar .byte xx72))))] := hD
        refine lv_aload_n hx hb dX20_type_65 rfl (lv_at hl 1 rfl) ?_
        refine va_get (D := (dC, dI)) (ci := 21) (v := .ref a3) (C := RX20) (T := TX20) (N := 30) hx hb hts in_f_X20_type_RX20 hown hK hP 0 rfl rfl 2 (by decide) (hts (.fieldLink RX20 28 "TripleStoreModel" "lexer" "LTripleStoreModel$Lexer;") (List.mem_of_getElem? (i := 1) rfl)) (fun _ h9 => h9) rfl dX20_type_66 ?_
        refine lv_dup hx hb dX20_type_69 rfl ?_
        refine va_getN (D := (dC, dI)) (ci := 15) (v := .int 2) (C := RX14) (T := TX14) (N := 14) hx hb hts in_f_X20_type_RX14 hown hK hP 1 rfl rfl 2 (by decide) (va_Nw.use rfl hZ0) (fun _ h9 => h9) rfl dX20_type_70 ?_
        refine lv_iconst (v := 1) hx hb dX20_type_73 (by decide) ?_
        refine lv_iadd hx hb dX20_type_74 ?_
        refine W.eq (congrArg (fun z : Int32 => F0 m 75 ls (.int z :: [.ref a3])) (by decide +kernel : ((2 : Int32) + 1 : Int32) = 3)) ?_
        refine va_putN (D := (dC, dI)) (ci := 15) (v := .int 3) (ty := .int) (C := RX14) (T := TX14) (N := 14) hx hb hts in_f_X20_type_RX14 tyX14 tyX14_ok nmX14 hown hK hP hD hS 1 rfl rfl 2 (by decide) (va_Nw.use rfl hZ0) (fun _ h9 => h9) rfl (by decide +kernel) rfl rfl (Nat.le_of_ble_eq_true rfl) dX20_type_75 (fun H locs hP hD hS => ?_)
        have hP : va_P (dC, dI) vwCl [(a0, .inr (21, [.ref a1, .ref a2, .ref a3, .ref a4, .ref a5, .ref a6, .ref a7, .ref a8, .int 0, .ref a9, .int 0, .int 0, .ref a10, .ref a11, .int 0, .ref a12, .int 0, .ref a13, .ref a14, .ref a15, .int 0, .ref a16, .ref a17, .int 0, .int 0, .ref a18, .int 0, .ref a19, .ref a20, .int 0])), (a3, .inr (15, [.ref a1, .ref a31, .int 3, .int 0, .int 0, .int 0, .int 0, .int 0, .int 0, .int 0, .int 0, .long 0, .int 0, .int 0])), (a31, .inl (k0, 4000, .inl (upd (upd (upd (fun _ => 0) (Int32.toNatClampNeg 0) (vp_nar .byte xx66)) (Int32.toNatClampNeg 1) (vp_nar .byte xx69)) (Int32.toNatClampNeg 2) (vp_nar .byte xx72))))] H := hP
        have hD : va_D A [(a0, .inr (21, [.ref a1, .ref a2, .ref a3, .ref a4, .ref a5, .ref a6, .ref a7, .ref a8, .int 0, .ref a9, .int 0, .int 0, .ref a10, .ref a11, .int 0, .ref a12, .int 0, .ref a13, .ref a14, .ref a15, .int 0, .ref a16, .ref a17, .int 0, .int 0, .ref a18, .int 0, .ref a19, .ref a20, .int 0])), (a3, .inr (15, [.ref a1, .ref a31, .int 3, .int 0, .int 0, .int 0, .int 0, .int 0, .int 0, .int 0, .int 0, .long 0, .int 0, .int 0])), (a31, .inl (k0, 4000, .inl (upd (upd (upd (fun _ => 0) (Int32.toNatClampNeg 0) (vp_nar .byte xx66)) (Int32.toNatClampNeg 1) (vp_nar .byte xx69)) (Int32.toNatClampNeg 2) (vp_nar .byte xx72))))] := hD
        refine lv_iinc (v := 3) (lv' := [(4, .int 3), (0, .ref a0), (1, .long y0), (3, .int 7)]) hx hb dX20_type_78 hl (k := 0) rfl (by decide +kernel) (by decide) rfl (fun ls hl => ?_)
        refine lv_goto (tgt := 36) hx hb dX20_type_81 (by decide) ?_
        refine lv_iload hx hb dX20_type_36 (lv_at hl 0 rfl) ?_
        refine lv_if_lt (tgt := 84) hx hb dX20_type_38 (by decide) (fun c9 => absurd c9 (by decide +kernel)) (fun _ => ?_)
        refine lv_aload_n hx hb dX20_type_41 rfl (lv_at hl 1 rfl) ?_
        refine va_get (D := (dC, dI)) (ci := 21) (v := .ref a3) (C := RX20) (T := TX20) (N := 30) hx hb hts in_f_X20_type_RX20 hown hK hP 0 rfl rfl 2 (by decide) (hts (.fieldLink RX20 28 "TripleStoreModel" "lexer" "LTripleStoreModel$Lexer;") (List.mem_of_getElem? (i := 1) rfl)) (fun _ h9 => h9) rfl dX20_type_42 ?_
        refine va_getN (D := (dC, dI)) (ci := 15) (v := .ref a31) (C := RX14) (T := TX14) (N := 14) hx hb hts in_f_X20_type_RX14 hown hK hP 1 rfl rfl 1 (by decide) (va_Nw.use rfl hZ1) (fun _ h9 => h9) rfl dX20_type_45 ?_
        refine lv_aload_n hx hb dX20_type_48 rfl (lv_at hl 1 rfl) ?_
        refine va_get (D := (dC, dI)) (ci := 21) (v := .ref a3) (C := RX20) (T := TX20) (N := 30) hx hb hts in_f_X20_type_RX20 hown hK hP 0 rfl rfl 2 (by decide) (hts (.fieldLink RX20 28 "TripleStoreModel" "lexer" "LTripleStoreModel$Lexer;") (List.mem_of_getElem? (i := 1) rfl)) (fun _ h9 => h9) rfl dX20_type_49 ?_
        refine va_getN (D := (dC, dI)) (ci := 15) (v := .int 3) (C := RX14) (T := TX14) (N := 14) hx hb hts in_f_X20_type_RX14 hown hK hP 1 rfl rfl 2 (by decide) (va_Nw.use rfl hZ0) (fun _ h9 => h9) rfl dX20_type_52 ?_
        refine lv_lload_n hx hb dX20_type_55 rfl (lv_at hl 2 rfl) ?_
        refine lv_bipush (v := 8) hx hb dX20_type_56 (by decide) ?_
        refine lv_iload hx hb dX20_type_58 (lv_at hl 0 rfl) ?_
        refine lv_imul hx hb dX20_type_60 ?_
        refine W.eq (congrArg (fun z : Int32 => F0 m 61 ls (.int z :: [.long y0, .int 3, .ref a31])) (by decide +kernel : ((8 : Int32) * 3 : Int32) = 24)) ?_
        refine lv_lshr hx hb dX20_type_61 rfl ?_
        refine lv_topl (fun yy73 _ => ?_)
        refine lv_l2i hx hb dX20_type_62 rfl ?_
        refine lv_topi (fun xx74 _ => ?_)
        refine lv_i2b hx hb dX20_type_63 rfl ?_
        refine lv_topi (fun xx75 _ => ?_)
        refine va_bast (i := 3) (x := xx75) hx hb hK hP hD hS 2 0 rfl rfl (by unfold vp_in; decide +kernel) dX20_type_64 (fun H locs hP hD hS => ?_)
        have hP : va_P (dC, dI) vwCl [(a0, .inr (21, [.ref a1, .ref a2, .ref a3, .ref a4, .ref a5, .ref a6, .ref a7, .ref a8, .int 0, .ref a9, .int 0, .int 0, .ref a10, .ref a11, .int 0, .ref a12, .int 0, .ref a13, .ref a14, .ref a15, .int 0, .ref a16, .ref a17, .int 0, .int 0, .ref a18, .int 0, .ref a19, .ref a20, .int 0])), (a3, .inr (15, [.ref a1, .ref a31, .int 3, .int 0, .int 0, .int 0, .int 0, .int 0, .int 0, .int 0, .int 0, .long 0, .int 0, .int 0])), (a31, .inl (k0, 4000, .inl (upd (upd (upd (upd (fun _ => 0) (Int32.toNatClampNeg 0) (vp_nar .byte xx66)) (Int32.toNatClampNeg 1) (vp_nar .byte xx69)) (Int32.toNatClampNeg 2) (vp_nar .byte xx72)) (Int32.toNatClampNeg 3) (vp_nar .byte xx75))))] H := hP
        have hD : va_D A [(a0, .inr (21, [.ref a1, .ref a2, .ref a3, .ref a4, .ref a5, .ref a6, .ref a7, .ref a8, .int 0, .ref a9, .int 0, .int 0, .ref a10, .ref a11, .int 0, .ref a12, .int 0, .ref a13, .ref a14, .ref a15, .int 0, .ref a16, .ref a17, .int 0, .int 0, .ref a18, .int 0, .ref a19, .ref a20, .int 0])), (a3, .inr (15, [.ref a1, .ref a31, .int 3, .int 0, .int 0, .int 0, .int 0, .int 0, .int 0, .int 0, .int 0, .long 0, .int 0, .int 0])), (a31, .inl (k0, 4000, .inl (upd (upd (upd (upd (fun _ => 0) (Int32.toNatClampNeg 0) (vp_nar .byte xx66)) (Int32.toNatClampNeg 1) (vp_nar .byte xx69)) (Int32.toNatClampNeg 2) (vp_nar .byte xx72)) (Int32.toNatClampNeg 3) (vp_nar .byte xx75))))] := hD
        refine lv_aload_n hx hb dX20_type_65 rfl (lv_at hl 1 rfl) ?_
        refine va_get (D := (dC, dI)) (ci := 21) (v := .ref a3) (C := RX20) (T := TX20) (N := 30) hx hb hts in_f_X20_type_RX20 hown hK hP 0 rfl rfl 2 (by decide) (hts (.fieldLink RX20 28 "TripleStoreModel" "lexer" "LTripleStoreModel$Lexer;") (List.mem_of_getElem? (i := 1) rfl)) (fun _ h9 => h9) rfl dX20_type_66 ?_
        refine lv_dup hx hb dX20_type_69 rfl ?_
        refine va_getN (D := (dC, dI)) (ci := 15) (v := .int 3) (C := RX14) (T := TX14) (N := 14) hx hb hts in_f_X20_type_RX14 hown hK hP 1 rfl rfl 2 (by decide) (va_Nw.use rfl hZ0) (fun _ h9 => h9) rfl dX20_type_70 ?_
        refine lv_iconst (v := 1) hx hb dX20_type_73 (by decide) ?_
        refine lv_iadd hx hb dX20_type_74 ?_
        refine W.eq (congrArg (fun z : Int32 => F0 m 75 ls (.int z :: [.ref a3])) (by decide +kernel : ((3 : Int32) + 1 : Int32) = 4)) ?_
        refine va_putN (D := (dC, dI)) (ci := 15) (v := .int 4) (ty := .int) (C := RX14) (T := TX14) (N := 14) hx hb hts in_f_X20_type_RX14 tyX14 tyX14_ok nmX14 hown hK hP hD hS 1 rfl rfl 2 (by decide) (va_Nw.use rfl hZ0) (fun _ h9 => h9) rfl (by decide +kernel) rfl rfl (Nat.le_of_ble_eq_true rfl) dX20_type_75 (fun H locs hP hD hS => ?_)
        have hP : va_P (dC, dI) vwCl [(a0, .inr (21, [.ref a1, .ref a2, .ref a3, .ref a4, .ref a5, .ref a6, .ref a7, .ref a8, .int 0, .ref a9, .int 0, .int 0, .ref a10, .ref a11, .int 0, .ref a12, .int 0, .ref a13, .ref a14, .ref a15, .int 0, .ref a16, .ref a17, .int 0, .int 0, .ref a18, .int 0, .ref a19, .ref a20, .int 0])), (a3, .inr (15, [.ref a1, .ref a31, .int 4, .int 0, .int 0, .int 0, .int 0, .int 0, .int 0, .int 0, .int 0, .long 0, .int 0, .int 0])), (a31, .inl (k0, 4000, .inl (upd (upd (upd (upd (fun _ => 0) (Int32.toNatClampNeg 0) (vp_nar .byte xx66)) (Int32.toNatClampNeg 1) (vp_nar .byte xx69)) (Int32.toNatClampNeg 2) (vp_nar .byte xx72)) (Int32.toNatClampNeg 3) (vp_nar .byte xx75))))] H := hP
        have hD : va_D A [(a0, .inr (21, [.ref a1, .ref a2, .ref a3, .ref a4, .ref a5, .ref a6, .ref a7, .ref a8, .int 0, .ref a9, .int 0, .int 0, .ref a10, .ref a11, .int 0, .ref a12, .int 0, .ref a13, .ref a14, .ref a15, .int 0, .ref a16, .ref a17, .int 0, .int 0, .ref a18, .int 0, .ref a19, .ref a20, .int 0])), (a3, .inr (15, [.ref a1, .ref a31, .int 4, .int 0, .int 0, .int 0, .int 0, .int 0, .int 0, .int 0, .int 0, .long 0, .int 0, .int 0])), (a31, .inl (k0, 4000, .inl (upd (upd (upd (upd (fun _ => 0) (Int32.toNatClampNeg 0) (vp_nar .byte xx66)) (Int32.toNatClampNeg 1) (vp_nar .byte xx69)) (Int32.toNatClampNeg 2) (vp_nar .byte xx72)) (Int32.toNatClampNeg 3) (vp_nar .byte xx75))))] := hD
        refine lv_iinc (v := 2) (lv' := [(4, .int 2), (0, .ref a0), (1, .long y0), (3, .int 7)]) hx hb dX20_type_78 hl (k := 0) rfl (by decide +kernel) (by decide) rfl (fun ls hl => ?_)
        refine lv_goto (tgt := 36) hx hb dX20_type_81 (by decide) ?_
        refine lv_iload hx hb dX20_type_36 (lv_at hl 0 rfl) ?_
        refine lv_if_lt (tgt := 84) hx hb dX20_type_38 (by decide) (fun c9 => absurd c9 (by decide +kernel)) (fun _ => ?_)
        refine lv_aload_n hx hb dX20_type_41 rfl (lv_at hl 1 rfl) ?_
        refine va_get (D := (dC, dI)) (ci := 21) (v := .ref a3) (C := RX20) (T := TX20) (N := 30) hx hb hts in_f_X20_type_RX20 hown hK hP 0 rfl rfl 2 (by decide) (hts (.fieldLink RX20 28 "TripleStoreModel" "lexer" "LTripleStoreModel$Lexer;") (List.mem_of_getElem? (i := 1) rfl)) (fun _ h9 => h9) rfl dX20_type_42 ?_
        refine va_getN (D := (dC, dI)) (ci := 15) (v := .ref a31) (C := RX14) (T := TX14) (N := 14) hx hb hts in_f_X20_type_RX14 hown hK hP 1 rfl rfl 1 (by decide) (va_Nw.use rfl hZ1) (fun _ h9 => h9) rfl dX20_type_45 ?_
        refine lv_aload_n hx hb dX20_type_48 rfl (lv_at hl 1 rfl) ?_
        refine va_get (D := (dC, dI)) (ci := 21) (v := .ref a3) (C := RX20) (T := TX20) (N := 30) hx hb hts in_f_X20_type_RX20 hown hK hP 0 rfl rfl 2 (by decide) (hts (.fieldLink RX20 28 "TripleStoreModel" "lexer" "LTripleStoreModel$Lexer;") (List.mem_of_getElem? (i := 1) rfl)) (fun _ h9 => h9) rfl dX20_type_49 ?_
        refine va_getN (D := (dC, dI)) (ci := 15) (v := .int 4) (C := RX14) (T := TX14) (N := 14) hx hb hts in_f_X20_type_RX14 hown hK hP 1 rfl rfl 2 (by decide) (va_Nw.use rfl hZ0) (fun _ h9 => h9) rfl dX20_type_52 ?_
        refine lv_lload_n hx hb dX20_type_55 rfl (lv_at hl 2 rfl) ?_
        refine lv_bipush (v := 8) hx hb dX20_type_56 (by decide) ?_
        refine lv_iload hx hb dX20_type_58 (lv_at hl 0 rfl) ?_
        refine lv_imul hx hb dX20_type_60 ?_
        refine W.eq (congrArg (fun z : Int32 => F0 m 61 ls (.int z :: [.long y0, .int 4, .ref a31])) (by decide +kernel : ((8 : Int32) * 2 : Int32) = 16)) ?_
        refine lv_lshr hx hb dX20_type_61 rfl ?_
        refine lv_topl (fun yy76 _ => ?_)
        refine lv_l2i hx hb dX20_type_62 rfl ?_
        refine lv_topi (fun xx77 _ => ?_)
        refine lv_i2b hx hb dX20_type_63 rfl ?_
        refine lv_topi (fun xx78 _ => ?_)
        refine va_bast (i := 4) (x := xx78) hx hb hK hP hD hS 2 0 rfl rfl (by unfold vp_in; decide +kernel) dX20_type_64 (fun H locs hP hD hS => ?_)
        have hP : va_P (dC, dI) vwCl [(a0, .inr (21, [.ref a1, .ref a2, .ref a3, .ref a4, .ref a5, .ref a6, .ref a7, .ref a8, .int 0, .ref a9, .int 0, .int 0, .ref a10, .ref a11, .int 0, .ref a12, .int 0, .ref a13, .ref a14, .ref a15, .int 0, .ref a16, .ref a17, .int 0, .int 0, .ref a18, .int 0, .ref a19, .ref a20, .int 0])), (a3, .inr (15, [.ref a1, .ref a31, .int 4, .int 0, .int 0, .int 0, .int 0, .int 0, .int 0, .int 0, .int 0, .long 0, .int 0, .int 0])), (a31, .inl (k0, 4000, .inl (upd (upd (upd (upd (upd (fun _ => 0) (Int32.toNatClampNeg 0) (vp_nar .byte xx66)) (Int32.toNatClampNeg 1) (vp_nar .byte xx69)) (Int32.toNatClampNeg 2) (vp_nar .byte xx72)) (Int32.toNatClampNeg 3) (vp_nar .byte xx75)) (Int32.toNatClampNeg 4) (vp_nar .byte xx78))))] H := hP
        have hD : va_D A [(a0, .inr (21, [.ref a1, .ref a2, .ref a3, .ref a4, .ref a5, .ref a6, .ref a7, .ref a8, .int 0, .ref a9, .int 0, .int 0, .ref a10, .ref a11, .int 0, .ref a12, .int 0, .ref a13, .ref a14, .ref a15, .int 0, .ref a16, .ref a17, .int 0, .int 0, .ref a18, .int 0, .ref a19, .ref a20, .int 0])), (a3, .inr (15, [.ref a1, .ref a31, .int 4, .int 0, .int 0, .int 0, .int 0, .int 0, .int 0, .int 0, .int 0, .long 0, .int 0, .int 0])), (a31, .inl (k0, 4000, .inl (upd (upd (upd (upd (upd (fun _ => 0) (Int32.toNatClampNeg 0) (vp_nar .byte xx66)) (Int32.toNatClampNeg 1) (vp_nar .byte xx69)) (Int32.toNatClampNeg 2) (vp_nar .byte xx72)) (Int32.toNatClampNeg 3) (vp_nar .byte xx75)) (Int32.toNatClampNeg 4) (vp_nar .byte xx78))))] := hD
        refine lv_aload_n hx hb dX20_type_65 rfl (lv_at hl 1 rfl) ?_
        refine va_get (D := (dC, dI)) (ci := 21) (v := .ref a3) (C := RX20) (T := TX20) (N := 30) hx hb hts in_f_X20_type_RX20 hown hK hP 0 rfl rfl 2 (by decide) (hts (.fieldLink RX20 28 "TripleStoreModel" "lexer" "LTripleStoreModel$Lexer;") (List.mem_of_getElem? (i := 1) rfl)) (fun _ h9 => h9) rfl dX20_type_66 ?_
        refine lv_dup hx hb dX20_type_69 rfl ?_
        refine va_getN (D := (dC, dI)) (ci := 15) (v := .int 4) (C := RX14) (T := TX14) (N := 14) hx hb hts in_f_X20_type_RX14 hown hK hP 1 rfl rfl 2 (by decide) (va_Nw.use rfl hZ0) (fun _ h9 => h9) rfl dX20_type_70 ?_
        refine lv_iconst (v := 1) hx hb dX20_type_73 (by decide) ?_
        refine lv_iadd hx hb dX20_type_74 ?_
        refine W.eq (congrArg (fun z : Int32 => F0 m 75 ls (.int z :: [.ref a3])) (by decide +kernel : ((4 : Int32) + 1 : Int32) = 5)) ?_
        refine va_putN (D := (dC, dI)) (ci := 15) (v := .int 5) (ty := .int) (C := RX14) (T := TX14) (N := 14) hx hb hts in_f_X20_type_RX14 tyX14 tyX14_ok nmX14 hown hK hP hD hS 1 rfl rfl 2 (by decide) (va_Nw.use rfl hZ0) (fun _ h9 => h9) rfl (by decide +kernel) rfl rfl (Nat.le_of_ble_eq_true rfl) dX20_type_75 (fun H locs hP hD hS => ?_)
        have hP : va_P (dC, dI) vwCl [(a0, .inr (21, [.ref a1, .ref a2, .ref a3, .ref a4, .ref a5, .ref a6, .ref a7, .ref a8, .int 0, .ref a9, .int 0, .int 0, .ref a10, .ref a11, .int 0, .ref a12, .int 0, .ref a13, .ref a14, .ref a15, .int 0, .ref a16, .ref a17, .int 0, .int 0, .ref a18, .int 0, .ref a19, .ref a20, .int 0])), (a3, .inr (15, [.ref a1, .ref a31, .int 5, .int 0, .int 0, .int 0, .int 0, .int 0, .int 0, .int 0, .int 0, .long 0, .int 0, .int 0])), (a31, .inl (k0, 4000, .inl (upd (upd (upd (upd (upd (fun _ => 0) (Int32.toNatClampNeg 0) (vp_nar .byte xx66)) (Int32.toNatClampNeg 1) (vp_nar .byte xx69)) (Int32.toNatClampNeg 2) (vp_nar .byte xx72)) (Int32.toNatClampNeg 3) (vp_nar .byte xx75)) (Int32.toNatClampNeg 4) (vp_nar .byte xx78))))] H := hP
        have hD : va_D A [(a0, .inr (21, [.ref a1, .ref a2, .ref a3, .ref a4, .ref a5, .ref a6, .ref a7, .ref a8, .int 0, .ref a9, .int 0, .int 0, .ref a10, .ref a11, .int 0, .ref a12, .int 0, .ref a13, .ref a14, .ref a15, .int 0, .ref a16, .ref a17, .int 0, .int 0, .ref a18, .int 0, .ref a19, .ref a20, .int 0])), (a3, .inr (15, [.ref a1, .ref a31, .int 5, .int 0, .int 0, .int 0, .int 0, .int 0, .int 0, .int 0, .int 0, .long 0, .int 0, .int 0])), (a31, .inl (k0, 4000, .inl (upd (upd (upd (upd (upd (fun _ => 0) (Int32.toNatClampNeg 0) (vp_nar .byte xx66)) (Int32.toNatClampNeg 1) (vp_nar .byte xx69)) (Int32.toNatClampNeg 2) (vp_nar .byte xx72)) (Int32.toNatClampNeg 3) (vp_nar .byte xx75)) (Int32.toNatClampNeg 4) (vp_nar .byte xx78))))] := hD
        refine lv_iinc (v := 1) (lv' := [(4, .int 1), (0, .ref a0), (1, .long y0), (3, .int 7)]) hx hb dX20_type_78 hl (k := 0) rfl (by decide +kernel) (by decide) rfl (fun ls hl => ?_)
        refine lv_goto (tgt := 36) hx hb dX20_type_81 (by decide) ?_
        refine lv_iload hx hb dX20_type_36 (lv_at hl 0 rfl) ?_
        refine lv_if_lt (tgt := 84) hx hb dX20_type_38 (by decide) (fun c9 => absurd c9 (by decide +kernel)) (fun _ => ?_)
        refine lv_aload_n hx hb dX20_type_41 rfl (lv_at hl 1 rfl) ?_
        refine va_get (D := (dC, dI)) (ci := 21) (v := .ref a3) (C := RX20) (T := TX20) (N := 30) hx hb hts in_f_X20_type_RX20 hown hK hP 0 rfl rfl 2 (by decide) (hts (.fieldLink RX20 28 "TripleStoreModel" "lexer" "LTripleStoreModel$Lexer;") (List.mem_of_getElem? (i := 1) rfl)) (fun _ h9 => h9) rfl dX20_type_42 ?_
        refine va_getN (D := (dC, dI)) (ci := 15) (v := .ref a31) (C := RX14) (T := TX14) (N := 14) hx hb hts in_f_X20_type_RX14 hown hK hP 1 rfl rfl 1 (by decide) (va_Nw.use rfl hZ1) (fun _ h9 => h9) rfl dX20_type_45 ?_
        refine lv_aload_n hx hb dX20_type_48 rfl (lv_at hl 1 rfl) ?_
        refine va_get (D := (dC, dI)) (ci := 21) (v := .ref a3) (C := RX20) (T := TX20) (N := 30) hx hb hts in_f_X20_type_RX20 hown hK hP 0 rfl rfl 2 (by decide) (hts (.fieldLink RX20 28 "TripleStoreModel" "lexer" "LTripleStoreModel$Lexer;") (List.mem_of_getElem? (i := 1) rfl)) (fun _ h9 => h9) rfl dX20_type_49 ?_
        refine va_getN (D := (dC, dI)) (ci := 15) (v := .int 5) (C := RX14) (T := TX14) (N := 14) hx hb hts in_f_X20_type_RX14 hown hK hP 1 rfl rfl 2 (by decide) (va_Nw.use rfl hZ0) (fun _ h9 => h9) rfl dX20_type_52 ?_
        refine lv_lload_n hx hb dX20_type_55 rfl (lv_at hl 2 rfl) ?_
        refine lv_bipush (v := 8) hx hb dX20_type_56 (by decide) ?_
        refine lv_iload hx hb dX20_type_58 (lv_at hl 0 rfl) ?_
        refine lv_imul hx hb dX20_type_60 ?_
        refine W.eq (congrArg (fun z : Int32 => F0 m 61 ls (.int z :: [.long y0, .int 5, .ref a31])) (by decide +kernel : ((8 : Int32) * 1 : Int32) = 8)) ?_
        refine lv_lshr hx hb dX20_type_61 rfl ?_
        refine lv_topl (fun yy79 _ => ?_)
        refine lv_l2i hx hb dX20_type_62 rfl ?_
        refine lv_topi (fun xx80 _ => ?_)
        refine lv_i2b hx hb dX20_type_63 rfl ?_
        refine lv_topi (fun xx81 _ => ?_)
        refine va_bast (i := 5) (x := xx81) hx hb hK hP hD hS 2 0 rfl rfl (by unfold vp_in; decide +kernel) dX20_type_64 (fun H locs hP hD hS => ?_)
        have hP : va_P (dC, dI) vwCl [(a0, .inr (21, [.ref a1, .ref a2, .ref a3, .ref a4, .ref a5, .ref a6, .ref a7, .ref a8, .int 0, .ref a9, .int 0, .int 0, .ref a10, .ref a11, .int 0, .ref a12, .int 0, .ref a13, .ref a14, .ref a15, .int 0, .ref a16, .ref a17, .int 0, .int 0, .ref a18, .int 0, .ref a19, .ref a20, .int 0])), (a3, .inr (15, [.ref a1, .ref a31, .int 5, .int 0, .int 0, .int 0, .int 0, .int 0, .int 0, .int 0, .int 0, .long 0, .int 0, .int 0])), (a31, .inl (k0, 4000, .inl (upd (upd (upd (upd (upd (upd (fun _ => 0) (Int32.toNatClampNeg 0) (vp_nar .byte xx66)) (Int32.toNatClampNeg 1) (vp_nar .byte xx69)) (Int32.toNatClampNeg 2) (vp_nar .byte xx72)) (Int32.toNatClampNeg 3) (vp_nar .byte xx75)) (Int32.toNatClampNeg 4) (vp_nar .byte xx78)) (Int32.toNatClampNeg 5) (vp_nar .byte xx81))))] H := hP
        have hD : va_D A [(a0, .inr (21, [.ref a1, .ref a2, .ref a3, .ref a4, .ref a5, .ref a6, .ref a7, .ref a8, .int 0, .ref a9, .int 0, .int 0, .ref a10, .ref a11, .int 0, .ref a12, .int 0, .ref a13, .ref a14, .ref a15, .int 0, .ref a16, .ref a17, .int 0, .int 0, .ref a18, .int 0, .ref a19, .ref a20, .int 0])), (a3, .inr (15, [.ref a1, .ref a31, .int 5, .int 0, .int 0, .int 0, .int 0, .int 0, .int 0, .int 0, .int 0, .long 0, .int 0, .int 0])), (a31, .inl (k0, 4000, .inl (upd (upd (upd (upd (upd (upd (fun _ => 0) (Int32.toNatClampNeg 0) (vp_nar .byte xx66)) (Int32.toNatClampNeg 1) (vp_nar .byte xx69)) (Int32.toNatClampNeg 2) (vp_nar .byte xx72)) (Int32.toNatClampNeg 3) (vp_nar .byte xx75)) (Int32.toNatClampNeg 4) (vp_nar .byte xx78)) (Int32.toNatClampNeg 5) (vp_nar .byte xx81))))] := hD
        refine lv_aload_n hx hb dX20_type_65 rfl (lv_at hl 1 rfl) ?_
        refine va_get (D := (dC, dI)) (ci := 21) (v := .ref a3) (C := RX20) (T := TX20) (N := 30) hx hb hts in_f_X20_type_RX20 hown hK hP 0 rfl rfl 2 (by decide) (hts (.fieldLink RX20 28 "TripleStoreModel" "lexer" "LTripleStoreModel$Lexer;") (List.mem_of_getElem? (i := 1) rfl)) (fun _ h9 => h9) rfl dX20_type_66 ?_
        refine lv_dup hx hb dX20_type_69 rfl ?_
        refine va_getN (D := (dC, dI)) (ci := 15) (v := .int 5) (C := RX14) (T := TX14) (N := 14) hx hb hts in_f_X20_type_RX14 hown hK hP 1 rfl rfl 2 (by decide) (va_Nw.use rfl hZ0) (fun _ h9 => h9) rfl dX20_type_70 ?_
        refine lv_iconst (v := 1) hx hb dX20_type_73 (by decide) ?_
        refine lv_iadd hx hb dX20_type_74 ?_
        refine W.eq (congrArg (fun z : Int32 => F0 m 75 ls (.int z :: [.ref a3])) (by decide +kernel : ((5 : Int32) + 1 : Int32) = 6)) ?_
        refine va_putN (D := (dC, dI)) (ci := 15) (v := .int 6) (ty := .int) (C := RX14) (T := TX14) (N := 14) hx hb hts in_f_X20_type_RX14 tyX14 tyX14_ok nmX14 hown hK hP hD hS 1 rfl rfl 2 (by decide) (va_Nw.use rfl hZ0) (fun _ h9 => h9) rfl (by decide +kernel) rfl rfl (Nat.le_of_ble_eq_true rfl) dX20_type_75 (fun H locs hP hD hS => ?_)
        have hP : va_P (dC, dI) vwCl [(a0, .inr (21, [.ref a1, .ref a2, .ref a3, .ref a4, .ref a5, .ref a6, .ref a7, .ref a8, .int 0, .ref a9, .int 0, .int 0, .ref a10, .ref a11, .int 0, .ref a12, .int 0, .ref a13, .ref a14, .ref a15, .int 0, .ref a16, .ref a17, .int 0, .int 0, .ref a18, .int 0, .ref a19, .ref a20, .int 0])), (a3, .inr (15, [.ref a1, .ref a31, .int 6, .int 0, .int 0, .int 0, .int 0, .int 0, .int 0, .int 0, .int 0, .long 0, .int 0, .int 0])), (a31, .inl (k0, 4000, .inl (upd (upd (upd (upd (upd (upd (fun _ => 0) (Int32.toNatClampNeg 0) (vp_nar .byte xx66)) (Int32.toNatClampNeg 1) (vp_nar .byte xx69)) (Int32.toNatClampNeg 2) (vp_nar .byte xx72)) (Int32.toNatClampNeg 3) (vp_nar .byte xx75)) (Int32.toNatClampNeg 4) (vp_nar .byte xx78)) (Int32.toNatClampNeg 5) (vp_nar .byte xx81))))] H := hP
        have hD : va_D A [(a0, .inr (21, [.ref a1, .ref a2, .ref a3, .ref a4, .ref a5, .ref a6, .ref a7, .ref a8, .int 0, .ref a9, .int 0, .int 0, .ref a10, .ref a11, .int 0, .ref a12, .int 0, .ref a13, .ref a14, .ref a15, .int 0, .ref a16, .ref a17, .int 0, .int 0, .ref a18, .int 0, .ref a19, .ref a20, .int 0])), (a3, .inr (15, [.ref a1, .ref a31, .int 6, .int 0, .int 0, .int 0, .int 0, .int 0, .int 0, .int 0, .int 0, .long 0, .int 0, .int 0])), (a31, .inl (k0, 4000, .inl (upd (upd (upd (upd (upd (upd (fun _ => 0) (Int32.toNatClampNeg 0) (vp_nar .byte xx66)) (Int32.toNatClampNeg 1) (vp_nar .byte xx69)) (Int32.toNatClampNeg 2) (vp_nar .byte xx72)) (Int32.toNatClampNeg 3) (vp_nar .byte xx75)) (Int32.toNatClampNeg 4) (vp_nar .byte xx78)) (Int32.toNatClampNeg 5) (vp_nar .byte xx81))))] := hD
        refine lv_iinc (v := 0) (lv' := [(4, .int 0), (0, .ref a0), (1, .long y0), (3, .int 7)]) hx hb dX20_type_78 hl (k := 0) rfl (by decide +kernel) (by decide) rfl (fun ls hl => ?_)
        refine lv_goto (tgt := 36) hx hb dX20_type_81 (by decide) ?_
        refine lv_iload hx hb dX20_type_36 (lv_at hl 0 rfl) ?_
        refine lv_if_lt (tgt := 84) hx hb dX20_type_38 (by decide) (fun c9 => absurd c9 (by decide +kernel)) (fun _ => ?_)
        refine lv_aload_n hx hb dX20_type_41 rfl (lv_at hl 1 rfl) ?_
        refine va_get (D := (dC, dI)) (ci := 21) (v := .ref a3) (C := RX20) (T := TX20) (N := 30) hx hb hts in_f_X20_type_RX20 hown hK hP 0 rfl rfl 2 (by decide) (hts (.fieldLink RX20 28 "TripleStoreModel" "lexer" "LTripleStoreModel$Lexer;") (List.mem_of_getElem? (i := 1) rfl)) (fun _ h9 => h9) rfl dX20_type_42 ?_
        refine va_getN (D := (dC, dI)) (ci := 15) (v := .ref a31) (C := RX14) (T := TX14) (N := 14) hx hb hts in_f_X20_type_RX14 hown hK hP 1 rfl rfl 1 (by decide) (va_Nw.use rfl hZ1) (fun _ h9 => h9) rfl dX20_type_45 ?_
        refine lv_aload_n hx hb dX20_type_48 rfl (lv_at hl 1 rfl) ?_
        refine va_get (D := (dC, dI)) (ci := 21) (v := .ref a3) (C := RX20) (T := TX20) (N := 30) hx hb hts in_f_X20_type_RX20 hown hK hP 0 rfl rfl 2 (by decide) (hts (.fieldLink RX20 28 "TripleStoreModel" "lexer" "LTripleStoreModel$Lexer;") (List.mem_of_getElem? (i := 1) rfl)) (fun _ h9 => h9) rfl dX20_type_49 ?_
        refine va_getN (D := (dC, dI)) (ci := 15) (v := .int 6) (C := RX14) (T := TX14) (N := 14) hx hb hts in_f_X20_type_RX14 hown hK hP 1 rfl rfl 2 (by decide) (va_Nw.use rfl hZ0) (fun _ h9 => h9) rfl dX20_type_52 ?_
        refine lv_lload_n hx hb dX20_type_55 rfl (lv_at hl 2 rfl) ?_
        refine lv_bipush (v := 8) hx hb dX20_type_56 (by decide) ?_
        refine lv_iload hx hb dX20_type_58 (lv_at hl 0 rfl) ?_
        refine lv_imul hx hb dX20_type_60 ?_
        refine W.eq (congrArg (fun z : Int32 => F0 m 61 ls (.int z :: [.long y0, .int 6, .ref a31])) (by decide +kernel : ((8 : Int32) * 0 : Int32) = 0)) ?_
        refine lv_lshr hx hb dX20_type_61 rfl ?_
        refine lv_topl (fun yy82 _ => ?_)
        refine lv_l2i hx hb dX20_type_62 rfl ?_
        refine lv_topi (fun xx83 _ => ?_)
        refine lv_i2b hx hb dX20_type_63 rfl ?_
        refine lv_topi (fun xx84 _ => ?_)
        refine va_bast (i := 6) (x := xx84) hx hb hK hP hD hS 2 0 rfl rfl (by unfold vp_in; decide +kernel) dX20_type_64 (fun H locs hP hD hS => ?_)
        have hP : va_P (dC, dI) vwCl [(a0, .inr (21, [.ref a1, .ref a2, .ref a3, .ref a4, .ref a5, .ref a6, .ref a7, .ref a8, .int 0, .ref a9, .int 0, .int 0, .ref a10, .ref a11, .int 0, .ref a12, .int 0, .ref a13, .ref a14, .ref a15, .int 0, .ref a16, .ref a17, .int 0, .int 0, .ref a18, .int 0, .ref a19, .ref a20, .int 0])), (a3, .inr (15, [.ref a1, .ref a31, .int 6, .int 0, .int 0, .int 0, .int 0, .int 0, .int 0, .int 0, .int 0, .long 0, .int 0, .int 0])), (a31, .inl (k0, 4000, .inl (upd (upd (upd (upd (upd (upd (upd (fun _ => 0) (Int32.toNatClampNeg 0) (vp_nar .byte xx66)) (Int32.toNatClampNeg 1) (vp_nar .byte xx69)) (Int32.toNatClampNeg 2) (vp_nar .byte xx72)) (Int32.toNatClampNeg 3) (vp_nar .byte xx75)) (Int32.toNatClampNeg 4) (vp_nar .byte xx78)) (Int32.toNatClampNeg 5) (vp_nar .byte xx81)) (Int32.toNatClampNeg 6) (vp_nar .byte xx84))))] H := hP
        have hD : va_D A [(a0, .inr (21, [.ref a1, .ref a2, .ref a3, .ref a4, .ref a5, .ref a6, .ref a7, .ref a8, .int 0, .ref a9, .int 0, .int 0, .ref a10, .ref a11, .int 0, .ref a12, .int 0, .ref a13, .ref a14, .ref a15, .int 0, .ref a16, .ref a17, .int 0, .int 0, .ref a18, .int 0, .ref a19, .ref a20, .int 0])), (a3, .inr (15, [.ref a1, .ref a31, .int 6, .int 0, .int 0, .int 0, .int 0, .int 0, .int 0, .int 0, .int 0, .long 0, .int 0, .int 0])), (a31, .inl (k0, 4000, .inl (upd (upd (upd (upd (upd (upd (upd (fun _ => 0) (Int32.toNatClampNeg 0) (vp_nar .byte xx66)) (Int32.toNatClampNeg 1) (vp_nar .byte xx69)) (Int32.toNatClampNeg 2) (vp_nar .byte xx72)) (Int32.toNatClampNeg 3) (vp_nar .byte xx75)) (Int32.toNatClampNeg 4) (vp_nar .byte xx78)) (Int32.toNatClampNeg 5) (vp_nar .byte xx81)) (Int32.toNatClampNeg 6) (vp_nar .byte xx84))))] := hD
        refine lv_aload_n hx hb dX20_type_65 rfl (lv_at hl 1 rfl) ?_
        refine va_get (D := (dC, dI)) (ci := 21) (v := .ref a3) (C := RX20) (T := TX20) (N := 30) hx hb hts in_f_X20_type_RX20 hown hK hP 0 rfl rfl 2 (by decide) (hts (.fieldLink RX20 28 "TripleStoreModel" "lexer" "LTripleStoreModel$Lexer;") (List.mem_of_getElem? (i := 1) rfl)) (fun _ h9 => h9) rfl dX20_type_66 ?_
        refine lv_dup hx hb dX20_type_69 rfl ?_
        refine va_getN (D := (dC, dI)) (ci := 15) (v := .int 6) (C := RX14) (T := TX14) (N := 14) hx hb hts in_f_X20_type_RX14 hown hK hP 1 rfl rfl 2 (by decide) (va_Nw.use rfl hZ0) (fun _ h9 => h9) rfl dX20_type_70 ?_
        refine lv_iconst (v := 1) hx hb dX20_type_73 (by decide) ?_
        refine lv_iadd hx hb dX20_type_74 ?_
        refine W.eq (congrArg (fun z : Int32 => F0 m 75 ls (.int z :: [.ref a3])) (by decide +kernel : ((6 : Int32) + 1 : Int32) = 7)) ?_
        refine va_putN (D := (dC, dI)) (ci := 15) (v := .int 7) (ty := .int) (C := RX14) (T := TX14) (N := 14) hx hb hts in_f_X20_type_RX14 tyX14 tyX14_ok nmX14 hown hK hP hD hS 1 rfl rfl 2 (by decide) (va_Nw.use rfl hZ0) (fun _ h9 => h9) rfl (by decide +kernel) rfl rfl (Nat.le_of_ble_eq_true rfl) dX20_type_75 (fun H locs hP hD hS => ?_)
        have hP : va_P (dC, dI) vwCl [(a0, .inr (21, [.ref a1, .ref a2, .ref a3, .ref a4, .ref a5, .ref a6, .ref a7, .ref a8, .int 0, .ref a9, .int 0, .int 0, .ref a10, .ref a11, .int 0, .ref a12, .int 0, .ref a13, .ref a14, .ref a15, .int 0, .ref a16, .ref a17, .int 0, .int 0, .ref a18, .int 0, .ref a19, .ref a20, .int 0])), (a3, .inr (15, [.ref a1, .ref a31, .int 7, .int 0, .int 0, .int 0, .int 0, .int 0, .int 0, .int 0, .int 0, .long 0, .int 0, .int 0])), (a31, .inl (k0, 4000, .inl (upd (upd (upd (upd (upd (upd (upd (fun _ => 0) (Int32.toNatClampNeg 0) (vp_nar .byte xx66)) (Int32.toNatClampNeg 1) (vp_nar .byte xx69)) (Int32.toNatClampNeg 2) (vp_nar .byte xx72)) (Int32.toNatClampNeg 3) (vp_nar .byte xx75)) (Int32.toNatClampNeg 4) (vp_nar .byte xx78)) (Int32.toNatClampNeg 5) (vp_nar .byte xx81)) (Int32.toNatClampNeg 6) (vp_nar .byte xx84))))] H := hP
        have hD : va_D A [(a0, .inr (21, [.ref a1, .ref a2, .ref a3, .ref a4, .ref a5, .ref a6, .ref a7, .ref a8, .int 0, .ref a9, .int 0, .int 0, .ref a10, .ref a11, .int 0, .ref a12, .int 0, .ref a13, .ref a14, .ref a15, .int 0, .ref a16, .ref a17, .int 0, .int 0, .ref a18, .int 0, .ref a19, .ref a20, .int 0])), (a3, .inr (15, [.ref a1, .ref a31, .int 7, .int 0, .int 0, .int 0, .int 0, .int 0, .int 0, .int 0, .int 0, .long 0, .int 0, .int 0])), (a31, .inl (k0, 4000, .inl (upd (upd (upd (upd (upd (upd (upd (fun _ => 0) (Int32.toNatClampNeg 0) (vp_nar .byte xx66)) (Int32.toNatClampNeg 1) (vp_nar .byte xx69)) (Int32.toNatClampNeg 2) (vp_nar .byte xx72)) (Int32.toNatClampNeg 3) (vp_nar .byte xx75)) (Int32.toNatClampNeg 4) (vp_nar .byte xx78)) (Int32.toNatClampNeg 5) (vp_nar .byte xx81)) (Int32.toNatClampNeg 6) (vp_nar .byte xx84))))] := hD
        refine lv_iinc (v := (-1)) (lv' := [(4, .int (-1)), (0, .ref a0), (1, .long y0), (3, .int 7)]) hx hb dX20_type_78 hl (k := 0) rfl (by decide +kernel) (by decide) rfl (fun ls hl => ?_)
        refine lv_goto (tgt := 36) hx hb dX20_type_81 (by decide) ?_
        refine lv_iload hx hb dX20_type_36 (lv_at hl 0 rfl) ?_
        refine lv_if_lt (tgt := 84) hx hb dX20_type_38 (by decide) (fun _ => ?_) (fun c9 => absurd (by decide +kernel) c9)
        refine lv_aload_n hx hb dX20_type_84 rfl (lv_at hl 1 rfl) ?_
        refine va_get (D := (dC, dI)) (ci := 21) (v := .ref a3) (C := RX20) (T := TX20) (N := 30) hx hb hts in_f_X20_type_RX20 hown hK hP 0 rfl rfl 2 (by decide) (hts (.fieldLink RX20 28 "TripleStoreModel" "lexer" "LTripleStoreModel$Lexer;") (List.mem_of_getElem? (i := 1) rfl)) (fun _ h9 => h9) rfl dX20_type_85 ?_
        refine va_getN (D := (dC, dI)) (ci := 15) (v := .int 7) (C := RX14) (T := TX14) (N := 14) hx hb hts in_f_X20_type_RX14 hown hK hP 1 rfl rfl 2 (by decide) (va_Nw.use rfl hZ0) (fun _ h9 => h9) rfl dX20_type_88 ?_
        refine W.widen (k := 0) (n := 0) (Nat.le_of_ble_eq_true rfl) (Nat.le_of_ble_eq_true rfl) ?_
        exact W.iret (v := 7) hx hb hr (fun t ht hW => ⟨⟨7, (), rfl, by rw [if_neg (by decide +kernel), if_pos (by decide +kernel)], trivial⟩, hS.F ht⟩) hS.2.2 dX20_type_91
      · refine lv_aload_n hx hb dX20_type_13 rfl (lv_at hl 0 rfl) ?_
        refine va_get (D := (dC, dI)) (ci := 21) (v := .ref a3) (C := RX20) (T := TX20) (N := 30) hx hb hts in_f_X20_type_RX20 hown hK hP 0 rfl rfl 2 (by decide) (hts (.fieldLink RX20 28 "TripleStoreModel" "lexer" "LTripleStoreModel$Lexer;") (List.mem_of_getElem? (i := 1) rfl)) (fun _ h9 => h9) rfl dX20_type_14 ?_
        refine va_getN (D := (dC, dI)) (ci := 15) (v := .int 0) (C := RX14) (T := TX14) (N := 14) hx hb hts in_f_X20_type_RX14 hown hK hP 1 rfl rfl 2 (by decide) (va_Nw.use rfl hZ0) (fun _ h9 => h9) rfl dX20_type_17 ?_
        refine lv_iload_n hx hb dX20_type_20 rfl (lv_at hl 2 rfl) ?_
        refine lv_iadd hx hb dX20_type_21 ?_
        refine W.eq (congrArg (fun z : Int32 => F0 m 22 ls (.int z :: [])) (by decide +kernel : ((0 : Int32) + 8 : Int32) = 8)) ?_
        refine lv_sipush (v := 4000) hx hb dX20_type_22 (by decide) ?_
        refine lv_icmp_le (tgt := 31) hx hb dX20_type_25 (by decide) (fun _ => ?_) (fun c9 => absurd (by decide +kernel) c9)
        refine lv_iload_n hx hb dX20_type_31 rfl (lv_at hl 2 rfl) ?_
        refine lv_iconst (v := 1) hx hb dX20_type_32 (by decide) ?_
        refine lv_isub hx hb dX20_type_33 ?_
        refine W.eq (congrArg (fun z : Int32 => F0 m 34 ls (.int z :: [])) (by decide +kernel : ((8 : Int32) - 1 : Int32) = 7)) ?_
        refine lv_istore (lv' := [(4, .int 7), (0, .ref a0), (1, .long y0), (3, .int 8)]) hx hb dX20_type_34 hl (by decide) rfl (fun ls hl => ?_)
        refine lv_iload hx hb dX20_type_36 (lv_at hl 0 rfl) ?_
        refine lv_if_lt (tgt := 84) hx hb dX20_type_38 (by decide) (fun c9 => absurd c9 (by decide +kernel)) (fun _ => ?_)
        refine lv_aload_n hx hb dX20_type_41 rfl (lv_at hl 1 rfl) ?_
        refine va_get (D := (dC, dI)) (ci := 21) (v := .ref a3) (C := RX20) (T := TX20) (N := 30) hx hb hts in_f_X20_type_RX20 hown hK hP 0 rfl rfl 2 (by decide) (hts (.fieldLink RX20 28 "TripleStoreModel" "lexer" "LTripleStoreModel$Lexer;") (List.mem_of_getElem? (i := 1) rfl)) (fun _ h9 => h9) rfl dX20_type_42 ?_
        refine va_getN (D := (dC, dI)) (ci := 15) (v := .ref a31) (C := RX14) (T := TX14) (N := 14) hx hb hts in_f_X20_type_RX14 hown hK hP 1 rfl rfl 1 (by decide) (va_Nw.use rfl hZ1) (fun _ h9 => h9) rfl dX20_type_45 ?_
        refine lv_aload_n hx hb dX20_type_48 rfl (lv_at hl 1 rfl) ?_
        refine va_get (D := (dC, dI)) (ci := 21) (v := .ref a3) (C := RX20) (T := TX20) (N := 30) hx hb hts in_f_X20_type_RX20 hown hK hP 0 rfl rfl 2 (by decide) (hts (.fieldLink RX20 28 "TripleStoreModel" "lexer" "LTripleStoreModel$Lexer;") (List.mem_of_getElem? (i := 1) rfl)) (fun _ h9 => h9) rfl dX20_type_49 ?_
        refine va_getN (D := (dC, dI)) (ci := 15) (v := .int 0) (C := RX14) (T := TX14) (N := 14) hx hb hts in_f_X20_type_RX14 hown hK hP 1 rfl rfl 2 (by decide) (va_Nw.use rfl hZ0) (fun _ h9 => h9) rfl dX20_type_52 ?_
        refine lv_lload_n hx hb dX20_type_55 rfl (lv_at hl 2 rfl) ?_
        refine lv_bipush (v := 8) hx hb dX20_type_56 (by decide) ?_
        refine lv_iload hx hb dX20_type_58 (lv_at hl 0 rfl) ?_
        refine lv_imul hx hb dX20_type_60 ?_
        refine W.eq (congrArg (fun z : Int32 => F0 m 61 ls (.int z :: [.long y0, .int 0, .ref a31])) (by decide +kernel : ((8 : Int32) * 7 : Int32) = 56)) ?_
        refine lv_lshr hx hb dX20_type_61 rfl ?_
        refine lv_topl (fun yy85 _ => ?_)
        refine lv_l2i hx hb dX20_type_62 rfl ?_
        refine lv_topi (fun xx86 _ => ?_)
        refine lv_i2b hx hb dX20_type_63 rfl ?_
        refine lv_topi (fun xx87 _ => ?_)
        refine va_bast (i := 0) (x := xx87) hx hb hK hP hD hS 2 0 rfl rfl (by unfold vp_in; decide +kernel) dX20_type_64 (fun H locs hP hD hS => ?_)
        have hP : va_P (dC, dI) vwCl [(a0, .inr (21, [.ref a1, .ref a2, .ref a3, .ref a4, .ref a5, .ref a6, .ref a7, .ref a8, .int 0, .ref a9, .int 0, .int 0, .ref a10, .ref a11, .int 0, .ref a12, .int 0, .ref a13, .ref a14, .ref a15, .int 0, .ref a16, .ref a17, .int 0, .int 0, .ref a18, .int 0, .ref a19, .ref a20, .int 0])), (a3, .inr (15, [.ref a1, .ref a31, .int 0, .int 0, .int 0, .int 0, .int 0, .int 0, .int 0, .int 0, .int 0, .long 0, .int 0, .int 0])), (a31, .inl (k0, 4000, .inl (upd (fun _ => 0) (Int32.toNatClampNeg 0) (vp_nar .byte xx87))))] H := hP
        have hD : va_D A [(a0, .inr (21, [.ref a1, .ref a2, .ref a3, .ref a4, .ref a5, .ref a6, .ref a7, .ref a8, .int 0, .ref a9, .int 0, .int 0, .ref a10, .ref a11, .int 0, .ref a12, .int 0, .ref a13, .ref a14, .ref a15, .int 0, .ref a16, .ref a17, .int 0, .int 0, .ref a18, .int 0, .ref a19, .ref a20, .int 0])), (a3, .inr (15, [.ref a1, .ref a31, .int 0, .int 0, .int 0, .int 0, .int 0, .int 0, .int 0, .int 0, .int 0, .long 0, .int 0, .int 0])), (a31, .inl (k0, 4000, .inl (upd (fun _ => 0) (Int32.toNatClampNeg 0) (vp_nar .byte xx87))))] := hD
        refine lv_aload_n hx hb dX20_type_65 rfl (lv_at hl 1 rfl) ?_
        refine va_get (D := (dC, dI)) (ci := 21) (v := .ref a3) (C := RX20) (T := TX20) (N := 30) hx hb hts in_f_X20_type_RX20 hown hK hP 0 rfl rfl 2 (by decide) (hts (.fieldLink RX20 28 "TripleStoreModel" "lexer" "LTripleStoreModel$Lexer;") (List.mem_of_getElem? (i := 1) rfl)) (fun _ h9 => h9) rfl dX20_type_66 ?_
        refine lv_dup hx hb dX20_type_69 rfl ?_
        refine va_getN (D := (dC, dI)) (ci := 15) (v := .int 0) (C := RX14) (T := TX14) (N := 14) hx hb hts in_f_X20_type_RX14 hown hK hP 1 rfl rfl 2 (by decide) (va_Nw.use rfl hZ0) (fun _ h9 => h9) rfl dX20_type_70 ?_
        refine lv_iconst (v := 1) hx hb dX20_type_73 (by decide) ?_
        refine lv_iadd hx hb dX20_type_74 ?_
        refine W.eq (congrArg (fun z : Int32 => F0 m 75 ls (.int z :: [.ref a3])) (by decide +kernel : ((0 : Int32) + 1 : Int32) = 1)) ?_
        refine va_putN (D := (dC, dI)) (ci := 15) (v := .int 1) (ty := .int) (C := RX14) (T := TX14) (N := 14) hx hb hts in_f_X20_type_RX14 tyX14 tyX14_ok nmX14 hown hK hP hD hS 1 rfl rfl 2 (by decide) (va_Nw.use rfl hZ0) (fun _ h9 => h9) rfl (by decide +kernel) rfl rfl (Nat.le_of_ble_eq_true rfl) dX20_type_75 (fun H locs hP hD hS => ?_)
        have hP : va_P (dC, dI) vwCl [(a0, .inr (21, [.ref a1, .ref a2, .ref a3, .ref a4, .ref a5, .ref a6, .ref a7, .ref a8, .int 0, .ref a9, .int 0, .int 0, .ref a10, .ref a11, .int 0, .ref a12, .int 0, .ref a13, .ref a14, .ref a15, .int 0, .ref a16, .ref a17, .int 0, .int 0, .ref a18, .int 0, .ref a19, .ref a20, .int 0])), (a3, .inr (15, [.ref a1, .ref a31, .int 1, .int 0, .int 0, .int 0, .int 0, .int 0, .int 0, .int 0, .int 0, .long 0, .int 0, .int 0])), (a31, .inl (k0, 4000, .inl (upd (fun _ => 0) (Int32.toNatClampNeg 0) (vp_nar .byte xx87))))] H := hP
        have hD : va_D A [(a0, .inr (21, [.ref a1, .ref a2, .ref a3, .ref a4, .ref a5, .ref a6, .ref a7, .ref a8, .int 0, .ref a9, .int 0, .int 0, .ref a10, .ref a11, .int 0, .ref a12, .int 0, .ref a13, .ref a14, .ref a15, .int 0, .ref a16, .ref a17, .int 0, .int 0, .ref a18, .int 0, .ref a19, .ref a20, .int 0])), (a3, .inr (15, [.ref a1, .ref a31, .int 1, .int 0, .int 0, .int 0, .int 0, .int 0, .int 0, .int 0, .int 0, .long 0, .int 0, .int 0])), (a31, .inl (k0, 4000, .inl (upd (fun _ => 0) (Int32.toNatClampNeg 0) (vp_nar .byte xx87))))] := hD
        refine lv_iinc (v := 6) (lv' := [(4, .int 6), (0, .ref a0), (1, .long y0), (3, .int 8)]) hx hb dX20_type_78 hl (k := 0) rfl (by decide +kernel) (by decide) rfl (fun ls hl => ?_)
        refine lv_goto (tgt := 36) hx hb dX20_type_81 (by decide) ?_
        refine lv_iload hx hb dX20_type_36 (lv_at hl 0 rfl) ?_
        refine lv_if_lt (tgt := 84) hx hb dX20_type_38 (by decide) (fun c9 => absurd c9 (by decide +kernel)) (fun _ => ?_)
        refine lv_aload_n hx hb dX20_type_41 rfl (lv_at hl 1 rfl) ?_
        refine va_get (D := (dC, dI)) (ci := 21) (v := .ref a3) (C := RX20) (T := TX20) (N := 30) hx hb hts in_f_X20_type_RX20 hown hK hP 0 rfl rfl 2 (by decide) (hts (.fieldLink RX20 28 "TripleStoreModel" "lexer" "LTripleStoreModel$Lexer;") (List.mem_of_getElem? (i := 1) rfl)) (fun _ h9 => h9) rfl dX20_type_42 ?_
        refine va_getN (D := (dC, dI)) (ci := 15) (v := .ref a31) (C := RX14) (T := TX14) (N := 14) hx hb hts in_f_X20_type_RX14 hown hK hP 1 rfl rfl 1 (by decide) (va_Nw.use rfl hZ1) (fun _ h9 => h9) rfl dX20_type_45 ?_
        refine lv_aload_n hx hb dX20_type_48 rfl (lv_at hl 1 rfl) ?_
        refine va_get (D := (dC, dI)) (ci := 21) (v := .ref a3) (C := RX20) (T := TX20) (N := 30) hx hb hts in_f_X20_type_RX20 hown hK hP 0 rfl rfl 2 (by decide) (hts (.fieldLink RX20 28 "TripleStoreModel" "lexer" "LTripleStoreModel$Lexer;") (List.mem_of_getElem? (i := 1) rfl)) (fun _ h9 => h9) rfl dX20_type_49 ?_
        refine va_getN (D := (dC, dI)) (ci := 15) (v := .int 1) (C := RX14) (T := TX14) (N := 14) hx hb hts in_f_X20_type_RX14 hown hK hP 1 rfl rfl 2 (by decide) (va_Nw.use rfl hZ0) (fun _ h9 => h9) rfl dX20_type_52 ?_
        refine lv_lload_n hx hb dX20_type_55 rfl (lv_at hl 2 rfl) ?_
        refine lv_bipush (v := 8) hx hb dX20_type_56 (by decide) ?_
        refine lv_iload hx hb dX20_type_58 (lv_at hl 0 rfl) ?_
        refine lv_imul hx hb dX20_type_60 ?_
        refine W.eq (congrArg (fun z : Int32 => F0 m 61 ls (.int z :: [.long y0, .int 1, .ref a31])) (by decide +kernel : ((8 : Int32) * 6 : Int32) = 48)) ?_
        refine lv_lshr hx hb dX20_type_61 rfl ?_
        refine lv_topl (fun yy88 _ => ?_)
        refine lv_l2i hx hb dX20_type_62 rfl ?_
        refine lv_topi (fun xx89 _ => ?_)
        refine lv_i2b hx hb dX20_type_63 rfl ?_
        refine lv_topi (fun xx90 _ => ?_)
        refine va_bast (i := 1) (x := xx90) hx hb hK hP hD hS 2 0 rfl rfl (by unfold vp_in; decide +kernel) dX20_type_64 (fun H locs hP hD hS => ?_)
        have hP : va_P (dC, dI) vwCl [(a0, .inr (21, [.ref a1, .ref a2, .ref a3, .ref a4, .ref a5, .ref a6, .ref a7, .ref a8, .int 0, .ref a9, .int 0, .int 0, .ref a10, .ref a11, .int 0, .ref a12, .int 0, .ref a13, .ref a14, .ref a15, .int 0, .ref a16, .ref a17, .int 0, .int 0, .ref a18, .int 0, .ref a19, .ref a20, .int 0])), (a3, .inr (15, [.ref a1, .ref a31, .int 1, .int 0, .int 0, .int 0, .int 0, .int 0, .int 0, .int 0, .int 0, .long 0, .int 0, .int 0])), (a31, .inl (k0, 4000, .inl (upd (upd (fun _ => 0) (Int32.toNatClampNeg 0) (vp_nar .byte xx87)) (Int32.toNatClampNeg 1) (vp_nar .byte xx90))))] H := hP
        have hD : va_D A [(a0, .inr (21, [.ref a1, .ref a2, .ref a3, .ref a4, .ref a5, .ref a6, .ref a7, .ref a8, .int 0, .ref a9, .int 0, .int 0, .ref a10, .ref a11, .int 0, .ref a12, .int 0, .ref a13, .ref a14, .ref a15, .int 0, .ref a16, .ref a17, .int 0, .int 0, .ref a18, .int 0, .ref a19, .ref a20, .int 0])), (a3, .inr (15, [.ref a1, .ref a31, .int 1, .int 0, .int 0, .int 0, .int 0, .int 0, .int 0, .int 0, .int 0, .long 0, .int 0, .int 0])), (a31, .inl (k0, 4000, .inl (upd (upd (fun _ => 0) (Int32.toNatClampNeg 0) (vp_nar .byte xx87)) (Int32.toNatClampNeg 1) (vp_nar .byte xx90))))] := hD
        refine lv_aload_n hx hb dX20_type_65 rfl (lv_at hl 1 rfl) ?_
        refine va_get (D := (dC, dI)) (ci := 21) (v := .ref a3) (C := RX20) (T := TX20) (N := 30) hx hb hts in_f_X20_type_RX20 hown hK hP 0 rfl rfl 2 (by decide) (hts (.fieldLink RX20 28 "TripleStoreModel" "lexer" "LTripleStoreModel$Lexer;") (List.mem_of_getElem? (i := 1) rfl)) (fun _ h9 => h9) rfl dX20_type_66 ?_
        refine lv_dup hx hb dX20_type_69 rfl ?_
        refine va_getN (D := (dC, dI)) (ci := 15) (v := .int 1) (C := RX14) (T := TX14) (N := 14) hx hb hts in_f_X20_type_RX14 hown hK hP 1 rfl rfl 2 (by decide) (va_Nw.use rfl hZ0) (fun _ h9 => h9) rfl dX20_type_70 ?_
        refine lv_iconst (v := 1) hx hb dX20_type_73 (by decide) ?_
        refine lv_iadd hx hb dX20_type_74 ?_
        refine W.eq (congrArg (fun z : Int32 => F0 m 75 ls (.int z :: [.ref a3])) (by decide +kernel : ((1 : Int32) + 1 : Int32) = 2)) ?_
        refine va_putN (D := (dC, dI)) (ci := 15) (v := .int 2) (ty := .int) (C := RX14) (T := TX14) (N := 14) hx hb hts in_f_X20_type_RX14 tyX14 tyX14_ok nmX14 hown hK hP hD hS 1 rfl rfl 2 (by decide) (va_Nw.use rfl hZ0) (fun _ h9 => h9) rfl (by decide +kernel) rfl rfl (Nat.le_of_ble_eq_true rfl) dX20_type_75 (fun H locs hP hD hS => ?_)
        have hP : va_P (dC, dI) vwCl [(a0, .inr (21, [.ref a1, .ref a2, .ref a3, .ref a4, .ref a5, .ref a6, .ref a7, .ref a8, .int 0, .ref a9, .int 0, .int 0, .ref a10, .ref a11, .int 0, .ref a12, .int 0, .ref a13, .ref a14, .ref a15, .int 0, .ref a16, .ref a17, .int 0, .int 0, .ref a18, .int 0, .ref a19, .ref a20, .int 0])), (a3, .inr (15, [.ref a1, .ref a31, .int 2, .int 0, .int 0, .int 0, .int 0, .int 0, .int 0, .int 0, .int 0, .long 0, .int 0, .int 0])), (a31, .inl (k0, 4000, .inl (upd (upd (fun _ => 0) (Int32.toNatClampNeg 0) (vp_nar .byte xx87)) (Int32.toNatClampNeg 1) (vp_nar .byte xx90))))] H := hP
        have hD : va_D A [(a0, .inr (21, [.ref a1, .ref a2, .ref a3, .ref a4, .ref a5, .ref a6, .ref a7, .ref a8, .int 0, .ref a9, .int 0, .int 0, .ref a10, .ref a11, .int 0, .ref a12, .int 0, .ref a13, .ref a14, .ref a15, .int 0, .ref a16, .ref a17, .int 0, .int 0, .ref a18, .int 0, .ref a19, .ref a20, .int 0])), (a3, .inr (15, [.ref a1, .ref a31, .int 2, .int 0, .int 0, .int 0, .int 0, .int 0, .int 0, .int 0, .int 0, .long 0, .int 0, .int 0])), (a31, .inl (k0, 4000, .inl (upd (upd (fun _ => 0) (Int32.toNatClampNeg 0) (vp_nar .byte xx87)) (Int32.toNatClampNeg 1) (vp_nar .byte xx90))))] := hD
        refine lv_iinc (v := 5) (lv' := [(4, .int 5), (0, .ref a0), (1, .long y0), (3, .int 8)]) hx hb dX20_type_78 hl (k := 0) rfl (by decide +kernel) (by decide) rfl (fun ls hl => ?_)
        refine lv_goto (tgt := 36) hx hb dX20_type_81 (by decide) ?_
        refine lv_iload hx hb dX20_type_36 (lv_at hl 0 rfl) ?_
        refine lv_if_lt (tgt := 84) hx hb dX20_type_38 (by decide) (fun c9 => absurd c9 (by decide +kernel)) (fun _ => ?_)
        refine lv_aload_n hx hb dX20_type_41 rfl (lv_at hl 1 rfl) ?_
        refine va_get (D := (dC, dI)) (ci := 21) (v := .ref a3) (C := RX20) (T := TX20) (N := 30) hx hb hts in_f_X20_type_RX20 hown hK hP 0 rfl rfl 2 (by decide) (hts (.fieldLink RX20 28 "TripleStoreModel" "lexer" "LTripleStoreModel$Lexer;") (List.mem_of_getElem? (i := 1) rfl)) (fun _ h9 => h9) rfl dX20_type_42 ?_
        refine va_getN (D := (dC, dI)) (ci := 15) (v := .ref a31) (C := RX14) (T := TX14) (N := 14) hx hb hts in_f_X20_type_RX14 hown hK hP 1 rfl rfl 1 (by decide) (va_Nw.use rfl hZ1) (fun _ h9 => h9) rfl dX20_type_45 ?_
        refine lv_aload_n hx hb dX20_type_48 rfl (lv_at hl 1 rfl) ?_
        refine va_get (D := (dC, dI)) (ci := 21) (v := .ref a3) (C := RX20) (T := TX20) (N := 30) hx hb hts in_f_X20_type_RX20 hown hK hP 0 rfl rfl 2 (by decide) (hts (.fieldLink RX20 28 "TripleStoreModel" "lexer" "LTripleStoreModel$Lexer;") (List.mem_of_getElem? (i := 1) rfl)) (fun _ h9 => h9) rfl dX20_type_49 ?_
        refine va_getN (D := (dC, dI)) (ci := 15) (v := .int 2) (C := RX14) (T := TX14) (N := 14) hx hb hts in_f_X20_type_RX14 hown hK hP 1 rfl rfl 2 (by decide) (va_Nw.use rfl hZ0) (fun _ h9 => h9) rfl dX20_type_52 ?_
        refine lv_lload_n hx hb dX20_type_55 rfl (lv_at hl 2 rfl) ?_
        refine lv_bipush (v := 8) hx hb dX20_type_56 (by decide) ?_
        refine lv_iload hx hb dX20_type_58 (lv_at hl 0 rfl) ?_
        refine lv_imul hx hb dX20_type_60 ?_
        refine W.eq (congrArg (fun z : Int32 => F0 m 61 ls (.int z :: [.long y0, .int 2, .ref a31])) (by decide +kernel : ((8 : Int32) * 5 : Int32) = 40)) ?_
        refine lv_lshr hx hb dX20_type_61 rfl ?_
        refine lv_topl (fun yy91 _ => ?_)
        refine lv_l2i hx hb dX20_type_62 rfl ?_
        refine lv_topi (fun xx92 _ => ?_)
        refine lv_i2b hx hb dX20_type_63 rfl ?_
        refine lv_topi (fun xx93 _ => ?_)
        refine va_bast (i := 2) (x := xx93) hx hb hK hP hD hS 2 0 rfl rfl (by unfold vp_in; decide +kernel) dX20_type_64 (fun H locs hP hD hS => ?_)
        have hP : va_P (dC, dI) vwCl [(a0, .inr (21, [.ref a1, .ref a2, .ref a3, .ref a4, .ref a5, .ref a6, .ref a7, .ref a8, .int 0, .ref a9, .int 0, .int 0, .ref a10, .ref a11, .int 0, .ref a12, .int 0, .ref a13, .ref a14, .ref a15, .int 0, .ref a16, .ref a17, .int 0, .int 0, .ref a18, .int 0, .ref a19, .ref a20, .int 0])), (a3, .inr (15, [.ref a1, .ref a31, .int 2, .int 0, .int 0, .int 0, .int 0, .int 0, .int 0, .int 0, .int 0, .long 0, .int 0, .int 0])), (a31, .inl (k0, 4000, .inl (upd (upd (upd (fun _ => 0) (Int32.toNatClampNeg 0) (vp_nar .byte xx87)) (Int32.toNatClampNeg 1) (vp_nar .byte xx90)) (Int32.toNatClampNeg 2) (vp_nar .byte xx93))))] H := hP
        have hD : va_D A [(a0, .inr (21, [.ref a1, .ref a2, .ref a3, .ref a4, .ref a5, .ref a6, .ref a7, .ref a8, .int 0, .ref a9, .int 0, .int 0, .ref a10, .ref a11, .int 0, .ref a12, .int 0, .ref a13, .ref a14, .ref a15, .int 0, .ref a16, .ref a17, .int 0, .int 0, .ref a18, .int 0, .ref a19, .ref a20, .int 0])), (a3, .inr (15, [.ref a1, .ref a31, .int 2, .int 0, .int 0, .int 0, .int 0, .int 0, .int 0, .int 0, .int 0, .long 0, .int 0, .int 0])), (a31, .inl (k0, 4000, .inl (upd (upd (upd (fun _ => 0) (Int32.toNatClampNeg 0) (vp_nar .byte xx87)) (Int32.toNatClampNeg 1) (vp_nar .byte xx90)) (Int32.toNatClampNeg 2) (vp_nar .byte xx93))))] := hD
        refine lv_aload_n hx hb dX20_type_65 rfl (lv_at hl 1 rfl) ?_
        refine va_get (D := (dC, dI)) (ci := 21) (v := .ref a3) (C := RX20) (T := TX20) (N := 30) hx hb hts in_f_X20_type_RX20 hown hK hP 0 rfl rfl 2 (by decide) (hts (.fieldLink RX20 28 "TripleStoreModel" "lexer" "LTripleStoreModel$Lexer;") (List.mem_of_getElem? (i := 1) rfl)) (fun _ h9 => h9) rfl dX20_type_66 ?_
        refine lv_dup hx hb dX20_type_69 rfl ?_
        refine va_getN (D := (dC, dI)) (ci := 15) (v := .int 2) (C := RX14) (T := TX14) (N := 14) hx hb hts in_f_X20_type_RX14 hown hK hP 1 rfl rfl 2 (by decide) (va_Nw.use rfl hZ0) (fun _ h9 => h9) rfl dX20_type_70 ?_
        refine lv_iconst (v := 1) hx hb dX20_type_73 (by decide) ?_
        refine lv_iadd hx hb dX20_type_74 ?_
        refine W.eq (congrArg (fun z : Int32 => F0 m 75 ls (.int z :: [.ref a3])) (by decide +kernel : ((2 : Int32) + 1 : Int32) = 3)) ?_
        refine va_putN (D := (dC, dI)) (ci := 15) (v := .int 3) (ty := .int) (C := RX14) (T := TX14) (N := 14) hx hb hts in_f_X20_type_RX14 tyX14 tyX14_ok nmX14 hown hK hP hD hS 1 rfl rfl 2 (by decide) (va_Nw.use rfl hZ0) (fun _ h9 => h9) rfl (by decide +kernel) rfl rfl (Nat.le_of_ble_eq_true rfl) dX20_type_75 (fun H locs hP hD hS => ?_)
        have hP : va_P (dC, dI) vwCl [(a0, .inr (21, [.ref a1, .ref a2, .ref a3, .ref a4, .ref a5, .ref a6, .ref a7, .ref a8, .int 0, .ref a9, .int 0, .int 0, .ref a10, .ref a11, .int 0, .ref a12, .int 0, .ref a13, .ref a14, .ref a15, .int 0, .ref a16, .ref a17, .int 0, .int 0, .ref a18, .int 0, .ref a19, .ref a20, .int 0])), (a3, .inr (15, [.ref a1, .ref a31, .int 3, .int 0, .int 0, .int 0, .int 0, .int 0, .int 0, .int 0, .int 0, .long 0, .int 0, .int 0])), (a31, .inl (k0, 4000, .inl (upd (upd (upd (fun _ => 0) (Int32.toNatClampNeg 0) (vp_nar .byte xx87)) (Int32.toNatClampNeg 1) (vp_nar .byte xx90)) (Int32.toNatClampNeg 2) (vp_nar .byte xx93))))] H := hP
        have hD : va_D A [(a0, .inr (21, [.ref a1, .ref a2, .ref a3, .ref a4, .ref a5, .ref a6, .ref a7, .ref a8, .int 0, .ref a9, .int 0, .int 0, .ref a10, .ref a11, .int 0, .ref a12, .int 0, .ref a13, .ref a14, .ref a15, .int 0, .ref a16, .ref a17, .int 0, .int 0, .ref a18, .int 0, .ref a19, .ref a20, .int 0])), (a3, .inr (15, [.ref a1, .ref a31, .int 3, .int 0, .int 0, .int 0, .int 0, .int 0, .int 0, .int 0, .int 0, .long 0, .int 0, .int 0])), (a31, .inl (k0, 4000, .inl (upd (upd (upd (fun _ => 0) (Int32.toNatClampNeg 0) (vp_nar .byte xx87)) (Int32.toNatClampNeg 1) (vp_nar .byte xx90)) (Int32.toNatClampNeg 2) (vp_nar .byte xx93))))] := hD
        refine lv_iinc (v := 4) (lv' := [(4, .int 4), (0, .ref a0), (1, .long y0), (3, .int 8)]) hx hb dX20_type_78 hl (k := 0) rfl (by decide +kernel) (by decide) rfl (fun ls hl => ?_)
        refine lv_goto (tgt := 36) hx hb dX20_type_81 (by decide) ?_
        refine lv_iload hx hb dX20_type_36 (lv_at hl 0 rfl) ?_
        refine lv_if_lt (tgt := 84) hx hb dX20_type_38 (by decide) (fun c9 => absurd c9 (by decide +kernel)) (fun _ => ?_)
        refine lv_aload_n hx hb dX20_type_41 rfl (lv_at hl 1 rfl) ?_
        refine va_get (D := (dC, dI)) (ci := 21) (v := .ref a3) (C := RX20) (T := TX20) (N := 30) hx hb hts in_f_X20_type_RX20 hown hK hP 0 rfl rfl 2 (by decide) (hts (.fieldLink RX20 28 "TripleStoreModel" "lexer" "LTripleStoreModel$Lexer;") (List.mem_of_getElem? (i := 1) rfl)) (fun _ h9 => h9) rfl dX20_type_42 ?_
        refine va_getN (D := (dC, dI)) (ci := 15) (v := .ref a31) (C := RX14) (T := TX14) (N := 14) hx hb hts in_f_X20_type_RX14 hown hK hP 1 rfl rfl 1 (by decide) (va_Nw.use rfl hZ1) (fun _ h9 => h9) rfl dX20_type_45 ?_
        refine lv_aload_n hx hb dX20_type_48 rfl (lv_at hl 1 rfl) ?_
        refine va_get (D := (dC, dI)) (ci := 21) (v := .ref a3) (C := RX20) (T := TX20) (N := 30) hx hb hts in_f_X20_type_RX20 hown hK hP 0 rfl rfl 2 (by decide) (hts (.fieldLink RX20 28 "TripleStoreModel" "lexer" "LTripleStoreModel$Lexer;") (List.mem_of_getElem? (i := 1) rfl)) (fun _ h9 => h9) rfl dX20_type_49 ?_
        refine va_getN (D := (dC, dI)) (ci := 15) (v := .int 3) (C := RX14) (T := TX14) (N := 14) hx hb hts in_f_X20_type_RX14 hown hK hP 1 rfl rfl 2 (by decide) (va_Nw.use rfl hZ0) (fun _ h9 => h9) rfl dX20_type_52 ?_
        refine lv_lload_n hx hb dX20_type_55 rfl (lv_at hl 2 rfl) ?_
        refine lv_bipush (v := 8) hx hb dX20_type_56 (by decide) ?_
        refine lv_iload hx hb dX20_type_58 (lv_at hl 0 rfl) ?_
        refine lv_imul hx hb dX20_type_60 ?_
        refine W.eq (congrArg (fun z : Int32 => F0 m 61 ls (.int z :: [.long y0, .int 3, .ref a31])) (by decide +kernel : ((8 : Int32) * 4 : Int32) = 32)) ?_
        refine lv_lshr hx hb dX20_type_61 rfl ?_
        refine lv_topl (fun yy94 _ => ?_)
        refine lv_l2i hx hb dX20_type_62 rfl ?_
        refine lv_topi (fun xx95 _ => ?_)
        refine lv_i2b hx hb dX20_type_63 rfl ?_
        refine lv_topi (fun xx96 _ => ?_)
        refine va_bast (i := 3) (x := xx96) hx hb hK hP hD hS 2 0 rfl rfl (by unfold vp_in; decide +kernel) dX20_type_64 (fun H locs hP hD hS => ?_)
        have hP : va_P (dC, dI) vwCl [(a0, .inr (21, [.ref a1, .ref a2, .ref a3, .ref a4, .ref a5, .ref a6, .ref a7, .ref a8, .int 0, .ref a9, .int 0, .int 0, .ref a10, .ref a11, .int 0, .ref a12, .int 0, .ref a13, .ref a14, .ref a15, .int 0, .ref a16, .ref a17, .int 0, .int 0, .ref a18, .int 0, .ref a19, .ref a20, .int 0])), (a3, .inr (15, [.ref a1, .ref a31, .int 3, .int 0, .int 0, .int 0, .int 0, .int 0, .int 0, .int 0, .int 0, .long 0, .int 0, .int 0])), (a31, .inl (k0, 4000, .inl (upd (upd (upd (upd (fun _ => 0) (Int32.toNatClampNeg 0) (vp_nar .byte xx87)) (Int32.toNatClampNeg 1) (vp_nar .byte xx90)) (Int32.toNatClampNeg 2) (vp_nar .byte xx93)) (Int32.toNatClampNeg 3) (vp_nar .byte xx96))))] H := hP
        have hD : va_D A [(a0, .inr (21, [.ref a1, .ref a2, .ref a3, .ref a4, .ref a5, .ref a6, .ref a7, .ref a8, .int 0, .ref a9, .int 0, .int 0, .ref a10, .ref a11, .int 0, .ref a12, .int 0, .ref a13, .ref a14, .ref a15, .int 0, .ref a16, .ref a17, .int 0, .int 0, .ref a18, .int 0, .ref a19, .ref a20, .int 0])), (a3, .inr (15, [.ref a1, .ref a31, .int 3, .int 0, .int 0, .int 0, .int 0, .int 0, .int 0, .int 0, .int 0, .long 0, .int 0, .int 0])), (a31, .inl (k0, 4000, .inl (upd (upd (upd (upd (fun _ => 0) (Int32.toNatClampNeg 0) (vp_nar .byte xx87)) (Int32.toNatClampNeg 1) (vp_nar .byte xx90)) (Int32.toNatClampNeg 2) (vp_nar .byte xx93)) (Int32.toNatClampNeg 3) (vp_nar .byte xx96))))] := hD
        refine lv_aload_n hx hb dX20_type_65 rfl (lv_at hl 1 rfl) ?_
        refine va_get (D := (dC, dI)) (ci := 21) (v := .ref a3) (C := RX20) (T := TX20) (N := 30) hx hb hts in_f_X20_type_RX20 hown hK hP 0 rfl rfl 2 (by decide) (hts (.fieldLink RX20 28 "TripleStoreModel" "lexer" "LTripleStoreModel$Lexer;") (List.mem_of_getElem? (i := 1) rfl)) (fun _ h9 => h9) rfl dX20_type_66 ?_
        refine lv_dup hx hb dX20_type_69 rfl ?_
        refine va_getN (D := (dC, dI)) (ci := 15) (v := .int 3) (C := RX14) (T := TX14) (N := 14) hx hb hts in_f_X20_type_RX14 hown hK hP 1 rfl rfl 2 (by decide) (va_Nw.use rfl hZ0) (fun _ h9 => h9) rfl dX20_type_70 ?_
        refine lv_iconst (v := 1) hx hb dX20_type_73 (by decide) ?_
        refine lv_iadd hx hb dX20_type_74 ?_
        refine W.eq (congrArg (fun z : Int32 => F0 m 75 ls (.int z :: [.ref a3])) (by decide +kernel : ((3 : Int32) + 1 : Int32) = 4)) ?_
        refine va_putN (D := (dC, dI)) (ci := 15) (v := .int 4) (ty := .int) (C := RX14) (T := TX14) (N := 14) hx hb hts in_f_X20_type_RX14 tyX14 tyX14_ok nmX14 hown hK hP hD hS 1 rfl rfl 2 (by decide) (va_Nw.use rfl hZ0) (fun _ h9 => h9) rfl (by decide +kernel) rfl rfl (Nat.le_of_ble_eq_true rfl) dX20_type_75 (fun H locs hP hD hS => ?_)
        have hP : va_P (dC, dI) vwCl [(a0, .inr (21, [.ref a1, .ref a2, .ref a3, .ref a4, .ref a5, .ref a6, .ref a7, .ref a8, .int 0, .ref a9, .int 0, .int 0, .ref a10, .ref a11, .int 0, .ref a12, .int 0, .ref a13, .ref a14, .ref a15, .int 0, .ref a16, .ref a17, .int 0, .int 0, .ref a18, .int 0, .ref a19, .ref a20, .int 0])), (a3, .inr (15, [.ref a1, .ref a31, .int 4, .int 0, .int 0, .int 0, .int 0, .int 0, .int 0, .int 0, .int 0, .long 0, .int 0, .int 0])), (a31, .inl (k0, 4000, .inl (upd (upd (upd (upd (fun _ => 0) (Int32.toNatClampNeg 0) (vp_nar .byte xx87)) (Int32.toNatClampNeg 1) (vp_nar .byte xx90)) (Int32.toNatClampNeg 2) (vp_nar .byte xx93)) (Int32.toNatClampNeg 3) (vp_nar .byte xx96))))] H := hP
        have hD : va_D A [(a0, .inr (21, [.ref a1, .ref a2, .ref a3, .ref a4, .ref a5, .ref a6, .ref a7, .ref a8, .int 0, .ref a9, .int 0, .int 0, .ref a10, .ref a11, .int 0, .ref a12, .int 0, .ref a13, .ref a14, .ref a15, .int 0, .ref a16, .ref a17, .int 0, .int 0, .ref a18, .int 0, .ref a19, .ref a20, .int 0])), (a3, .inr (15, [.ref a1, .ref a31, .int 4, .int 0, .int 0, .int 0, .int 0, .int 0, .int 0, .int 0, .int 0, .long 0, .int 0, .int 0])), (a31, .inl (k0, 4000, .inl (upd (upd (upd (upd (fun _ => 0) (Int32.toNatClampNeg 0) (vp_nar .byte xx87)) (Int32.toNatClampNeg 1) (vp_nar .byte xx90)) (Int32.toNatClampNeg 2) (vp_nar .byte xx93)) (Int32.toNatClampNeg 3) (vp_nar .byte xx96))))] := hD
        refine lv_iinc (v := 3) (lv' := [(4, .int 3), (0, .ref a0), (1, .long y0), (3, .int 8)]) hx hb dX20_type_78 hl (k := 0) rfl (by decide +kernel) (by decide) rfl (fun ls hl => ?_)
        refine lv_goto (tgt := 36) hx hb dX20_type_81 (by decide) ?_
        refine lv_iload hx hb dX20_type_36 (lv_at hl 0 rfl) ?_
        refine lv_if_lt (tgt := 84) hx hb dX20_type_38 (by decide) (fun c9 => absurd c9 (by decide +kernel)) (fun _ => ?_)
        refine lv_aload_n hx hb dX20_type_41 rfl (lv_at hl 1 rfl) ?_
        refine va_get (D := (dC, dI)) (ci := 21) (v := .ref a3) (C := RX20) (T := TX20) (N := 30) hx hb hts in_f_X20_type_RX20 hown hK hP 0 rfl rfl 2 (by decide) (hts (.fieldLink RX20 28 "TripleStoreModel" "lexer" "LTripleStoreModel$Lexer;") (List.mem_of_getElem? (i := 1) rfl)) (fun _ h9 => h9) rfl dX20_type_42 ?_
        refine va_getN (D := (dC, dI)) (ci := 15) (v := .ref a31) (C := RX14) (T := TX14) (N := 14) hx hb hts in_f_X20_type_RX14 hown hK hP 1 rfl rfl 1 (by decide) (va_Nw.use rfl hZ1) (fun _ h9 => h9) rfl dX20_type_45 ?_
        refine lv_aload_n hx hb dX20_type_48 rfl (lv_at hl 1 rfl) ?_
        refine va_get (D := (dC, dI)) (ci := 21) (v := .ref a3) (C := RX20) (T := TX20) (N := 30) hx hb hts in_f_X20_type_RX20 hown hK hP 0 rfl rfl 2 (by decide) (hts (.fieldLink RX20 28 "TripleStoreModel" "lexer" "LTripleStoreModel$Lexer;") (List.mem_of_getElem? (i := 1) rfl)) (fun _ h9 => h9) rfl dX20_type_49 ?_
        refine va_getN (D := (dC, dI)) (ci := 15) (v := .int 4) (C := RX14) (T := TX14) (N := 14) hx hb hts in_f_X20_type_RX14 hown hK hP 1 rfl rfl 2 (by decide) (va_Nw.use rfl hZ0) (fun _ h9 => h9) rfl dX20_type_52 ?_
        refine lv_lload_n hx hb dX20_type_55 rfl (lv_at hl 2 rfl) ?_
        refine lv_bipush (v := 8) hx hb dX20_type_56 (by decide) ?_
        refine lv_iload hx hb dX20_type_58 (lv_at hl 0 rfl) ?_
        refine lv_imul hx hb dX20_type_60 ?_
        refine W.eq (congrArg (fun z : Int32 => F0 m 61 ls (.int z :: [.long y0, .int 4, .ref a31])) (by decide +kernel : ((8 : Int32) * 3 : Int32) = 24)) ?_
        refine lv_lshr hx hb dX20_type_61 rfl ?_
        refine lv_topl (fun yy97 _ => ?_)
        refine lv_l2i hx hb dX20_type_62 rfl ?_
        refine lv_topi (fun xx98 _ => ?_)
        refine lv_i2b hx hb dX20_type_63 rfl ?_
        refine lv_topi (fun xx99 _ => ?_)
        refine va_bast (i := 4) (x := xx99) hx hb hK hP hD hS 2 0 rfl rfl (by unfold vp_in; decide +kernel) dX20_type_64 (fun H locs hP hD hS => ?_)
        have hP : va_P (dC, dI) vwCl [(a0, .inr (21, [.ref a1, .ref a2, .ref a3, .ref a4, .ref a5, .ref a6, .ref a7, .ref a8, .int 0, .ref a9, .int 0, .int 0, .ref a10, .ref a11, .int 0, .ref a12, .int 0, .ref a13, .ref a14, .ref a15, .int 0, .ref a16, .ref a17, .int 0, .int 0, .ref a18, .int 0, .ref a19, .ref a20, .int 0])), (a3, .inr (15, [.ref a1, .ref a31, .int 4, .int 0, .int 0, .int 0, .int 0, .int 0, .int 0, .int 0, .int 0, .long 0, .int 0, .int 0])), (a31, .inl (k0, 4000, .inl (upd (upd (upd (upd (upd (fun _ => 0) (Int32.toNatClampNeg 0) (vp_nar .byte xx87)) (Int32.toNatClampNeg 1) (vp_nar .byte xx90)) (Int32.toNatClampNeg 2) (vp_nar .byte xx93)) (Int32.toNatClampNeg 3) (vp_nar .byte xx96)) (Int32.toNatClampNeg 4) (vp_nar .byte xx99))))] H := hP
        have hD : va_D A [(a0, .inr (21, [.ref a1, .ref a2, .ref a3, .ref a4, .ref a5, .ref a6, .ref a7, .ref a8, .int 0, .ref a9, .int 0, .int 0, .ref a10, .ref a11, .int 0, .ref a12, .int 0, .ref a13, .ref a14, .ref a15, .int 0, .ref a16, .ref a17, .int 0, .int 0, .ref a18, .int 0, .ref a19, .ref a20, .int 0])), (a3, .inr (15, [.ref a1, .ref a31, .int 4, .int 0, .int 0, .int 0, .int 0, .int 0, .int 0, .int 0, .int 0, .long 0, .int 0, .int 0])), (a31, .inl (k0, 4000, .inl (upd (upd (upd (upd (upd (fun _ => 0) (Int32.toNatClampNeg 0) (vp_nar .byte xx87)) (Int32.toNatClampNeg 1) (vp_nar .byte xx90)) (Int32.toNatClampNeg 2) (vp_nar .byte xx93)) (Int32.toNatClampNeg 3) (vp_nar .byte xx96)) (Int32.toNatClampNeg 4) (vp_nar .byte xx99))))] := hD
        refine lv_aload_n hx hb dX20_type_65 rfl (lv_at hl 1 rfl) ?_
        refine va_get (D := (dC, dI)) (ci := 21) (v := .ref a3) (C := RX20) (T := TX20) (N := 30) hx hb hts in_f_X20_type_RX20 hown hK hP 0 rfl rfl 2 (by decide) (hts (.fieldLink RX20 28 "TripleStoreModel" "lexer" "LTripleStoreModel$Lexer;") (List.mem_of_getElem? (i := 1) rfl)) (fun _ h9 => h9) rfl dX20_type_66 ?_
        refine lv_dup hx hb dX20_type_69 rfl ?_
        refine va_getN (D := (dC, dI)) (ci := 15) (v := .int 4) (C := RX14) (T := TX14) (N := 14) hx hb hts in_f_X20_type_RX14 hown hK hP 1 rfl rfl 2 (by decide) (va_Nw.use rfl hZ0) (fun _ h9 => h9) rfl dX20_type_70 ?_
        refine lv_iconst (v := 1) hx hb dX20_type_73 (by decide) ?_
        refine lv_iadd hx hb dX20_type_74 ?_
        refine W.eq (congrArg (fun z : Int32 => F0 m 75 ls (.int z :: [.ref a3])) (by decide +kernel : ((4 : Int32) + 1 : Int32) = 5)) ?_
        refine va_putN (D := (dC, dI)) (ci := 15) (v := .int 5) (ty := .int) (C := RX14) (T := TX14) (N := 14) hx hb hts in_f_X20_type_RX14 tyX14 tyX14_ok nmX14 hown hK hP hD hS 1 rfl rfl 2 (by decide) (va_Nw.use rfl hZ0) (fun _ h9 => h9) rfl (by decide +kernel) rfl rfl (Nat.le_of_ble_eq_true rfl) dX20_type_75 (fun H locs hP hD hS => ?_)
        have hP : va_P (dC, dI) vwCl [(a0, .inr (21, [.ref a1, .ref a2, .ref a3, .ref a4, .ref a5, .ref a6, .ref a7, .ref a8, .int 0, .ref a9, .int 0, .int 0, .ref a10, .ref a11, .int 0, .ref a12, .int 0, .ref a13, .ref a14, .ref a15, .int 0, .ref a16, .ref a17, .int 0, .int 0, .ref a18, .int 0, .ref a19, .ref a20, .int 0])), (a3, .inr (15, [.ref a1, .ref a31, .int 5, .int 0, .int 0, .int 0, .int 0, .int 0, .int 0, .int 0, .int 0, .long 0, .int 0, .int 0])), (a31, .inl (k0, 4000, .inl (upd (upd (upd (upd (upd (fun _ => 0) (Int32.toNatClampNeg 0) (vp_nar .byte xx87)) (Int32.toNatClampNeg 1) (vp_nar .byte xx90)) (Int32.toNatClampNeg 2) (vp_nar .byte xx93)) (Int32.toNatClampNeg 3) (vp_nar .byte xx96)) (Int32.toNatClampNeg 4) (vp_nar .byte xx99))))] H := hP
        have hD : va_D A [(a0, .inr (21, [.ref a1, .ref a2, .ref a3, .ref a4, .ref a5, .ref a6, .ref a7, .ref a8, .int 0, .ref a9, .int 0, .int 0, .ref a10, .ref a11, .int 0, .ref a12, .int 0, .ref a13, .ref a14, .ref a15, .int 0, .ref a16, .ref a17, .int 0, .int 0, .ref a18, .int 0, .ref a19, .ref a20, .int 0])), (a3, .inr (15, [.ref a1, .ref a31, .int 5, .int 0, .int 0, .int 0, .int 0, .int 0, .int 0, .int 0, .int 0, .long 0, .int 0, .int 0])), (a31, .inl (k0, 4000, .inl (upd (upd (upd (upd (upd (fun _ => 0) (Int32.toNatClampNeg 0) (vp_nar .byte xx87)) (Int32.toNatClampNeg 1) (vp_nar .byte xx90)) (Int32.toNatClampNeg 2) (vp_nar .byte xx93)) (Int32.toNatClampNeg 3) (vp_nar .byte xx96)) (Int32.toNatClampNeg 4) (vp_nar .byte xx99))))] := hD
        refine lv_iinc (v := 2) (lv' := [(4, .int 2), (0, .ref a0), (1, .long y0), (3, .int 8)]) hx hb dX20_type_78 hl (k := 0) rfl (by decide +kernel) (by decide) rfl (fun ls hl => ?_)
        refine lv_goto (tgt := 36) hx hb dX20_type_81 (by decide) ?_
        refine lv_iload hx hb dX20_type_36 (lv_at hl 0 rfl) ?_
        refine lv_if_lt (tgt := 84) hx hb dX20_type_38 (by decide) (fun c9 => absurd c9 (by decide +kernel)) (fun _ => ?_)
        refine lv_aload_n hx hb dX20_type_41 rfl (lv_at hl 1 rfl) ?_
        refine va_get (D := (dC, dI)) (ci := 21) (v := .ref a3) (C := RX20) (T := TX20) (N := 30) hx hb hts in_f_X20_type_RX20 hown hK hP 0 rfl rfl 2 (by decide) (hts (.fieldLink RX20 28 "TripleStoreModel" "lexer" "LTripleStoreModel$Lexer;") (List.mem_of_getElem? (i := 1) rfl)) (fun _ h9 => h9) rfl dX20_type_42 ?_
        refine va_getN (D := (dC, dI)) (ci := 15) (v := .ref a31) (C := RX14) (T := TX14) (N := 14) hx hb hts in_f_X20_type_RX14 hown hK hP 1 rfl rfl 1 (by decide) (va_Nw.use rfl hZ1) (fun _ h9 => h9) rfl dX20_type_45 ?_
        refine lv_aload_n hx hb dX20_type_48 rfl (lv_at hl 1 rfl) ?_
        refine va_get (D := (dC, dI)) (ci := 21) (v := .ref a3) (C := RX20) (T := TX20) (N := 30) hx hb hts in_f_X20_type_RX20 hown hK hP 0 rfl rfl 2 (by decide) (hts (.fieldLink RX20 28 "TripleStoreModel" "lexer" "LTripleStoreModel$Lexer;") (List.mem_of_getElem? (i := 1) rfl)) (fun _ h9 => h9) rfl dX20_type_49 ?_
        refine va_getN (D := (dC, dI)) (ci := 15) (v := .int 5) (C := RX14) (T := TX14) (N := 14) hx hb hts in_f_X20_type_RX14 hown hK hP 1 rfl rfl 2 (by decide) (va_Nw.use rfl hZ0) (fun _ h9 => h9) rfl dX20_type_52 ?_
        refine lv_lload_n hx hb dX20_type_55 rfl (lv_at hl 2 rfl) ?_
        refine lv_bipush (v := 8) hx hb dX20_type_56 (by decide) ?_
        refine lv_iload hx hb dX20_type_58 (lv_at hl 0 rfl) ?_
        refine lv_imul hx hb dX20_type_60 ?_
        refine W.eq (congrArg (fun z : Int32 => F0 m 61 ls (.int z :: [.long y0, .int 5, .ref a31])) (by decide +kernel : ((8 : Int32) * 2 : Int32) = 16)) ?_
        refine lv_lshr hx hb dX20_type_61 rfl ?_
        refine lv_topl (fun yy100 _ => ?_)
        refine lv_l2i hx hb dX20_type_62 rfl ?_
        refine lv_topi (fun xx101 _ => ?_)
        refine lv_i2b hx hb dX20_type_63 rfl ?_
        refine lv_topi (fun xx102 _ => ?_)
        refine va_bast (i := 5) (x := xx102) hx hb hK hP hD hS 2 0 rfl rfl (by unfold vp_in; decide +kernel) dX20_type_64 (fun H locs hP hD hS => ?_)
        have hP : va_P (dC, dI) vwCl [(a0, .inr (21, [.ref a1, .ref a2, .ref a3, .ref a4, .ref a5, .ref a6, .ref a7, .ref a8, .int 0, .ref a9, .int 0, .int 0, .ref a10, .ref a11, .int 0, .ref a12, .int 0, .ref a13, .ref a14, .ref a15, .int 0, .ref a16, .ref a17, .int 0, .int 0, .ref a18, .int 0, .ref a19, .ref a20, .int 0])), (a3, .inr (15, [.ref a1, .ref a31, .int 5, .int 0, .int 0, .int 0, .int 0, .int 0, .int 0, .int 0, .int 0, .long 0, .int 0, .int 0])), (a31, .inl (k0, 4000, .inl (upd (upd (upd (upd (upd (upd (fun _ => 0) (Int32.toNatClampNeg 0) (vp_nar .byte xx87)) (Int32.toNatClampNeg 1) (vp_nar .byte xx90)) (Int32.toNatClampNeg 2) (vp_nar .byte xx93)) (Int32.toNatClampNeg 3) (vp_nar .byte xx96)) (Int32.toNatClampNeg 4) (vp_nar .byte xx99)) (Int32.toNatClampNeg 5) (vp_nar .byte xx102))))] H := hP
        have hD : va_D A [(a0, .inr (21, [.ref a1, .ref a2, .ref a3, .ref a4, .ref a5, .ref a6, .ref a7, .ref a8, .int 0, .ref a9, .int 0, .int 0, .ref a10, .ref a11, .int 0, .ref a12, .int 0, .ref a13, .ref a14, .ref a15, .int 0, .ref a16, .ref a17, .int 0, .int 0, .ref a18, .int 0, .ref a19, .ref a20, .int 0])), (a3, .inr (15, [.ref a1, .ref a31, .int 5, .int 0, .int 0, .int 0, .int 0, .int 0, .int 0, .int 0, .int 0, .long 0, .int 0, .int 0])), (a31, .inl (k0, 4000, .inl (upd (upd (upd (upd (upd (upd (fun _ => 0) (Int32.toNatClampNeg 0) (vp_nar .byte xx87)) (Int32.toNatClampNeg 1) (vp_nar .byte xx90)) (Int32.toNatClampNeg 2) (vp_nar .byte xx93)) (Int32.toNatClampNeg 3) (vp_nar .byte xx96)) (Int32.toNatClampNeg 4) (vp_nar .byte xx99)) (Int32.toNatClampNeg 5) (vp_nar .byte xx102))))] := hD
        refine lv_aload_n hx hb dX20_type_65 rfl (lv_at hl 1 rfl) ?_
        refine va_get (D := (dC, dI)) (ci := 21) (v := .ref a3) (C := RX20) (T := TX20) (N := 30) hx hb hts in_f_X20_type_RX20 hown hK hP 0 rfl rfl 2 (by decide) (hts (.fieldLink RX20 28 "TripleStoreModel" "lexer" "LTripleStoreModel$Lexer;") (List.mem_of_getElem? (i := 1) rfl)) (fun _ h9 => h9) rfl dX20_type_66 ?_
        refine lv_dup hx hb dX20_type_69 rfl ?_
        refine va_getN (D := (dC, dI)) (ci := 15) (v := .int 5) (C := RX14) (T := TX14) (N := 14) hx hb hts in_f_X20_type_RX14 hown hK hP 1 rfl rfl 2 (by decide) (va_Nw.use rfl hZ0) (fun _ h9 => h9) rfl dX20_type_70 ?_
        refine lv_iconst (v := 1) hx hb dX20_type_73 (by decide) ?_
        refine lv_iadd hx hb dX20_type_74 ?_
        refine W.eq (congrArg (fun z : Int32 => F0 m 75 ls (.int z :: [.ref a3])) (by decide +kernel : ((5 : Int32) + 1 : Int32) = 6)) ?_
        refine va_putN (D := (dC, dI)) (ci := 15) (v := .int 6) (ty := .int) (C := RX14) (T := TX14) (N := 14) hx hb hts in_f_X20_type_RX14 tyX14 tyX14_ok nmX14 hown hK hP hD hS 1 rfl rfl 2 (by decide) (va_Nw.use rfl hZ0) (fun _ h9 => h9) rfl (by decide +kernel) rfl rfl (Nat.le_of_ble_eq_true rfl) dX20_type_75 (fun H locs hP hD hS => ?_)
        have hP : va_P (dC, dI) vwCl [(a0, .inr (21, [.ref a1, .ref a2, .ref a3, .ref a4, .ref a5, .ref a6, .ref a7, .ref a8, .int 0, .ref a9, .int 0, .int 0, .ref a10, .ref a11, .int 0, .ref a12, .int 0, .ref a13, .ref a14, .ref a15, .int 0, .ref a16, .ref a17, .int 0, .int 0, .ref a18, .int 0, .ref a19, .ref a20, .int 0])), (a3, .inr (15, [.ref a1, .ref a31, .int 6, .int 0, .int 0, .int 0, .int 0, .int 0, .int 0, .int 0, .int 0, .long 0, .int 0, .int 0])), (a31, .inl (k0, 4000, .inl (upd (upd (upd (upd (upd (upd (fun _ => 0) (Int32.toNatClampNeg 0) (vp_nar .byte xx87)) (Int32.toNatClampNeg 1) (vp_nar .byte xx90)) (Int32.toNatClampNeg 2) (vp_nar .byte xx93)) (Int32.toNatClampNeg 3) (vp_nar .byte xx96)) (Int32.toNatClampNeg 4) (vp_nar .byte xx99)) (Int32.toNatClampNeg 5) (vp_nar .byte xx102))))] H := hP
        have hD : va_D A [(a0, .inr (21, [.ref a1, .ref a2, .ref a3, .ref a4, .ref a5, .ref a6, .ref a7, .ref a8, .int 0, .ref a9, .int 0, .int 0, .ref a10, .ref a11, .int 0, .ref a12, .int 0, .ref a13, .ref a14, .ref a15, .int 0, .ref a16, .ref a17, .int 0, .int 0, .ref a18, .int 0, .ref a19, .ref a20, .int 0])), (a3, .inr (15, [.ref a1, .ref a31, .int 6, .int 0, .int 0, .int 0, .int 0, .int 0, .int 0, .int 0, .int 0, .long 0, .int 0, .int 0])), (a31, .inl (k0, 4000, .inl (upd (upd (upd (upd (upd (upd (fun _ => 0) (Int32.toNatClampNeg 0) (vp_nar .byte xx87)) (Int32.toNatClampNeg 1) (vp_nar .byte xx90)) (Int32.toNatClampNeg 2) (vp_nar .byte xx93)) (Int32.toNatClampNeg 3) (vp_nar .byte xx96)) (Int32.toNatClampNeg 4) (vp_nar .byte xx99)) (Int32.toNatClampNeg 5) (vp_nar .byte xx102))))] := hD
        refine lv_iinc (v := 1) (lv' := [(4, .int 1), (0, .ref a0), (1, .long y0), (3, .int 8)]) hx hb dX20_type_78 hl (k := 0) rfl (by decide +kernel) (by decide) rfl (fun ls hl => ?_)
        refine lv_goto (tgt := 36) hx hb dX20_type_81 (by decide) ?_
        refine lv_iload hx hb dX20_type_36 (lv_at hl 0 rfl) ?_
        refine lv_if_lt (tgt := 84) hx hb dX20_type_38 (by decide) (fun c9 => absurd c9 (by decide +kernel)) (fun _ => ?_)
        refine lv_aload_n hx hb dX20_type_41 rfl (lv_at hl 1 rfl) ?_
        refine va_get (D := (dC, dI)) (ci := 21) (v := .ref a3) (C := RX20) (T := TX20) (N := 30) hx hb hts in_f_X20_type_RX20 hown hK hP 0 rfl rfl 2 (by decide) (hts (.fieldLink RX20 28 "TripleStoreModel" "lexer" "LTripleStoreModel$Lexer;") (List.mem_of_getElem? (i := 1) rfl)) (fun _ h9 => h9) rfl dX20_type_42 ?_
        refine va_getN (D := (dC, dI)) (ci := 15) (v := .ref a31) (C := RX14) (T := TX14) (N := 14) hx hb hts in_f_X20_type_RX14 hown hK hP 1 rfl rfl 1 (by decide) (va_Nw.use rfl hZ1) (fun _ h9 => h9) rfl dX20_type_45 ?_
        refine lv_aload_n hx hb dX20_type_48 rfl (lv_at hl 1 rfl) ?_
        refine va_get (D := (dC, dI)) (ci := 21) (v := .ref a3) (C := RX20) (T := TX20) (N := 30) hx hb hts in_f_X20_type_RX20 hown hK hP 0 rfl rfl 2 (by decide) (hts (.fieldLink RX20 28 "TripleStoreModel" "lexer" "LTripleStoreModel$Lexer;") (List.mem_of_getElem? (i := 1) rfl)) (fun _ h9 => h9) rfl dX20_type_49 ?_
        refine va_getN (D := (dC, dI)) (ci := 15) (v := .int 6) (C := RX14) (T := TX14) (N := 14) hx hb hts in_f_X20_type_RX14 hown hK hP 1 rfl rfl 2 (by decide) (va_Nw.use rfl hZ0) (fun _ h9 => h9) rfl dX20_type_52 ?_
        refine lv_lload_n hx hb dX20_type_55 rfl (lv_at hl 2 rfl) ?_
        refine lv_bipush (v := 8) hx hb dX20_type_56 (by decide) ?_
        refine lv_iload hx hb dX20_type_58 (lv_at hl 0 rfl) ?_
        refine lv_imul hx hb dX20_type_60 ?_
        refine W.eq (congrArg (fun z : Int32 => F0 m 61 ls (.int z :: [.long y0, .int 6, .ref a31])) (by decide +kernel : ((8 : Int32) * 1 : Int32) = 8)) ?_
        refine lv_lshr hx hb dX20_type_61 rfl ?_
        refine lv_topl (fun yy103 _ => ?_)
        refine lv_l2i hx hb dX20_type_62 rfl ?_
        refine lv_topi (fun xx104 _ => ?_)
        refine lv_i2b hx hb dX20_type_63 rfl ?_
        refine lv_topi (fun xx105 _ => ?_)
        refine va_bast (i := 6) (x := xx105) hx hb hK hP hD hS 2 0 rfl rfl (by unfold vp_in; decide +kernel) dX20_type_64 (fun H locs hP hD hS => ?_)
        have hP : va_P (dC, dI) vwCl [(a0, .inr (21, [.ref a1, .ref a2, .ref a3, .ref a4, .ref a5, .ref a6, .ref a7, .ref a8, .int 0, .ref a9, .int 0, .int 0, .ref a10, .ref a11, .int 0, .ref a12, .int 0, .ref a13, .ref a14, .ref a15, .int 0, .ref a16, .ref a17, .int 0, .int 0, .ref a18, .int 0, .ref a19, .ref a20, .int 0])), (a3, .inr (15, [.ref a1, .ref a31, .int 6, .int 0, .int 0, .int 0, .int 0, .int 0, .int 0, .int 0, .int 0, .long 0, .int 0, .int 0])), (a31, .inl (k0, 4000, .inl (upd (upd (upd (upd (upd (upd (upd (fun _ => 0) (Int32.toNatClampNeg 0) (vp_nar .byte xx87)) (Int32.toNatClampNeg 1) (vp_nar .byte xx90)) (Int32.toNatClampNeg 2) (vp_nar .byte xx93)) (Int32.toNatClampNeg 3) (vp_nar .byte xx96)) (Int32.toNatClampNeg 4) (vp_nar .byte xx99)) (Int32.toNatClampNeg 5) (vp_nar .byte xx102)) (Int32.toNatClampNeg 6) (vp_nar .byte xx105))))] H := hP
        have hD : va_D A [(a0, .inr (21, [.ref a1, .ref a2, .ref a3, .ref a4, .ref a5, .ref a6, .ref a7, .ref a8, .int 0, .ref a9, .int 0, .int 0, .ref a10, .ref a11, .int 0, .ref a12, .int 0, .ref a13, .ref a14, .ref a15, .int 0, .ref a16, .ref a17, .int 0, .int 0, .ref a18, .int 0, .ref a19, .ref a20, .int 0])), (a3, .inr (15, [.ref a1, .ref a31, .int 6, .int 0, .int 0, .int 0, .int 0, .int 0, .int 0, .int 0, .int 0, .long 0, .int 0, .int 0])), (a31, .inl (k0, 4000, .inl (upd (upd (upd (upd (upd (upd (upd (fun _ => 0) (Int32.toNatClampNeg 0) (vp_nar .byte xx87)) (Int32.toNatClampNeg 1) (vp_nar .byte xx90)) (Int32.toNatClampNeg 2) (vp_nar .byte xx93)) (Int32.toNatClampNeg 3) (vp_nar .byte xx96)) (Int32.toNatClampNeg 4) (vp_nar .byte xx99)) (Int32.toNatClampNeg 5) (vp_nar .byte xx102)) (Int32.toNatClampNeg 6) (vp_nar .byte xx105))))] := hD
        refine lv_aload_n hx hb dX20_type_65 rfl (lv_at hl 1 rfl) ?_
        refine va_get (D := (dC, dI)) (ci := 21) (v := .ref a3) (C := RX20) (T := TX20) (N := 30) hx hb hts in_f_X20_type_RX20 hown hK hP 0 rfl rfl 2 (by decide) (hts (.fieldLink RX20 28 "TripleStoreModel" "lexer" "LTripleStoreModel$Lexer;") (List.mem_of_getElem? (i := 1) rfl)) (fun _ h9 => h9) rfl dX20_type_66 ?_
        refine lv_dup hx hb dX20_type_69 rfl ?_
        refine va_getN (D := (dC, dI)) (ci := 15) (v := .int 6) (C := RX14) (T := TX14) (N := 14) hx hb hts in_f_X20_type_RX14 hown hK hP 1 rfl rfl 2 (by decide) (va_Nw.use rfl hZ0) (fun _ h9 => h9) rfl dX20_type_70 ?_
        refine lv_iconst (v := 1) hx hb dX20_type_73 (by decide) ?_
        refine lv_iadd hx hb dX20_type_74 ?_
        refine W.eq (congrArg (fun z : Int32 => F0 m 75 ls (.int z :: [.ref a3])) (by decide +kernel : ((6 : Int32) + 1 : Int32) = 7)) ?_
        refine va_putN (D := (dC, dI)) (ci := 15) (v := .int 7) (ty := .int) (C := RX14) (T := TX14) (N := 14) hx hb hts in_f_X20_type_RX14 tyX14 tyX14_ok nmX14 hown hK hP hD hS 1 rfl rfl 2 (by decide) (va_Nw.use rfl hZ0) (fun _ h9 => h9) rfl (by decide +kernel) rfl rfl (Nat.le_of_ble_eq_true rfl) dX20_type_75 (fun H locs hP hD hS => ?_)
        have hP : va_P (dC, dI) vwCl [(a0, .inr (21, [.ref a1, .ref a2, .ref a3, .ref a4, .ref a5, .ref a6, .ref a7, .ref a8, .int 0, .ref a9, .int 0, .int 0, .ref a10, .ref a11, .int 0, .ref a12, .int 0, .ref a13, .ref a14, .ref a15, .int 0, .ref a16, .ref a17, .int 0, .int 0, .ref a18, .int 0, .ref a19, .ref a20, .int 0])), (a3, .inr (15, [.ref a1, .ref a31, .int 7, .int 0, .int 0, .int 0, .int 0, .int 0, .int 0, .int 0, .int 0, .long 0, .int 0, .int 0])), (a31, .inl (k0, 4000, .inl (upd (upd (upd (upd (upd (upd (upd (fun _ => 0) (Int32.toNatClampNeg 0) (vp_nar .byte xx87)) (Int32.toNatClampNeg 1) (vp_nar .byte xx90)) (Int32.toNatClampNeg 2) (vp_nar .byte xx93)) (Int32.toNatClampNeg 3) (vp_nar .byte xx96)) (Int32.toNatClampNeg 4) (vp_nar .byte xx99)) (Int32.toNatClampNeg 5) (vp_nar .byte xx102)) (Int32.toNatClampNeg 6) (vp_nar .byte xx105))))] H := hP
        have hD : va_D A [(a0, .inr (21, [.ref a1, .ref a2, .ref a3, .ref a4, .ref a5, .ref a6, .ref a7, .ref a8, .int 0, .ref a9, .int 0, .int 0, .ref a10, .ref a11, .int 0, .ref a12, .int 0, .ref a13, .ref a14, .ref a15, .int 0, .ref a16, .ref a17, .int 0, .int 0, .ref a18, .int 0, .ref a19, .ref a20, .int 0])), (a3, .inr (15, [.ref a1, .ref a31, .int 7, .int 0, .int 0, .int 0, .int 0, .int 0, .int 0, .int 0, .int 0, .long 0, .int 0, .int 0])), (a31, .inl (k0, 4000, .inl (upd (upd (upd (upd (upd (upd (upd (fun _ => 0) (Int32.toNatClampNeg 0) (vp_nar .byte xx87)) (Int32.toNatClampNeg 1) (vp_nar .byte xx90)) (Int32.toNatClampNeg 2) (vp_nar .byte xx93)) (Int32.toNatClampNeg 3) (vp_nar .byte xx96)) (Int32.toNatClampNeg 4) (vp_nar .byte xx99)) (Int32.toNatClampNeg 5) (vp_nar .byte xx102)) (Int32.toNatClampNeg 6) (vp_nar .byte xx105))))] := hD
        refine lv_iinc (v := 0) (lv' := [(4, .int 0), (0, .ref a0), (1, .long y0), (3, .int 8)]) hx hb dX20_type_78 hl (k := 0) rfl (by decide +kernel) (by decide) rfl (fun ls hl => ?_)
        refine lv_goto (tgt := 36) hx hb dX20_type_81 (by decide) ?_
        refine lv_iload hx hb dX20_type_36 (lv_at hl 0 rfl) ?_
        refine lv_if_lt (tgt := 84) hx hb dX20_type_38 (by decide) (fun c9 => absurd c9 (by decide +kernel)) (fun _ => ?_)
        refine lv_aload_n hx hb dX20_type_41 rfl (lv_at hl 1 rfl) ?_
        refine va_get (D := (dC, dI)) (ci := 21) (v := .ref a3) (C := RX20) (T := TX20) (N := 30) hx hb hts in_f_X20_type_RX20 hown hK hP 0 rfl rfl 2 (by decide) (hts (.fieldLink RX20 28 "TripleStoreModel" "lexer" "LTripleStoreModel$Lexer;") (List.mem_of_getElem? (i := 1) rfl)) (fun _ h9 => h9) rfl dX20_type_42 ?_
        refine va_getN (D := (dC, dI)) (ci := 15) (v := .ref a31) (C := RX14) (T := TX14) (N := 14) hx hb hts in_f_X20_type_RX14 hown hK hP 1 rfl rfl 1 (by decide) (va_Nw.use rfl hZ1) (fun _ h9 => h9) rfl dX20_type_45 ?_
        refine lv_aload_n hx hb dX20_type_48 rfl (lv_at hl 1 rfl) ?_
        refine va_get (D := (dC, dI)) (ci := 21) (v := .ref a3) (C := RX20) (T := TX20) (N := 30) hx hb hts in_f_X20_type_RX20 hown hK hP 0 rfl rfl 2 (by decide) (hts (.fieldLink RX20 28 "TripleStoreModel" "lexer" "LTripleStoreModel$Lexer;") (List.mem_of_getElem? (i := 1) rfl)) (fun _ h9 => h9) rfl dX20_type_49 ?_
        refine va_getN (D := (dC, dI)) (ci := 15) (v := .int 7) (C := RX14) (T := TX14) (N := 14) hx hb hts in_f_X20_type_RX14 hown hK hP 1 rfl rfl 2 (by decide) (va_Nw.use rfl hZ0) (fun _ h9 => h9) rfl dX20_type_52 ?_
        refine lv_lload_n hx hb dX20_type_55 rfl (lv_at hl 2 rfl) ?_
        refine lv_bipush (v := 8) hx hb dX20_type_56 (by decide) ?_
        refine lv_iload hx hb dX20_type_58 (lv_at hl 0 rfl) ?_
        refine lv_imul hx hb dX20_type_60 ?_
        refine W.eq (congrArg (fun z : Int32 => F0 m 61 ls (.int z :: [.long y0, .int 7, .ref a31])) (by decide +kernel : ((8 : Int32) * 0 : Int32) = 0)) ?_
        refine lv_lshr hx hb dX20_type_61 rfl ?_
        refine lv_topl (fun yy106 _ => ?_)
        refine lv_l2i hx hb dX20_type_62 rfl ?_
        refine lv_topi (fun xx107 _ => ?_)
        refine lv_i2b hx hb dX20_type_63 rfl ?_
        refine lv_topi (fun xx108 _ => ?_)
        refine va_bast (i := 7) (x := xx108) hx hb hK hP hD hS 2 0 rfl rfl (by unfold vp_in; decide +kernel) dX20_type_64 (fun H locs hP hD hS => ?_)
        have hP : va_P (dC, dI) vwCl [(a0, .inr (21, [.ref a1, .ref a2, .ref a3, .ref a4, .ref a5, .ref a6, .ref a7, .ref a8, .int 0, .ref a9, .int 0, .int 0, .ref a10, .ref a11, .int 0, .ref a12, .int 0, .ref a13, .ref a14, .ref a15, .int 0, .ref a16, .ref a17, .int 0, .int 0, .ref a18, .int 0, .ref a19, .ref a20, .int 0])), (a3, .inr (15, [.ref a1, .ref a31, .int 7, .int 0, .int 0, .int 0, .int 0, .int 0, .int 0, .int 0, .int 0, .long 0, .int 0, .int 0])), (a31, .inl (k0, 4000, .inl (upd (upd (upd (upd (upd (upd (upd (upd (fun _ => 0) (Int32.toNatClampNeg 0) (vp_nar .byte xx87)) (Int32.toNatClampNeg 1) (vp_nar .byte xx90)) (Int32.toNatClampNeg 2) (vp_nar .byte xx93)) (Int32.toNatClampNeg 3) (vp_nar .byte xx96)) (Int32.toNatClampNeg 4) (vp_nar .byte xx99)) (Int32.toNatClampNeg 5) (vp_nar .byte xx102)) (Int32.toNatClampNeg 6) (vp_nar .byte xx105)) (Int32.toNatClampNeg 7) (vp_nar .byte xx108))))] H := hP
        have hD : va_D A [(a0, .inr (21, [.ref a1, .ref a2, .ref a3, .ref a4, .ref a5, .ref a6, .ref a7, .ref a8, .int 0, .ref a9, .int 0, .int 0, .ref a10, .ref a11, .int 0, .ref a12, .int 0, .ref a13, .ref a14, .ref a15, .int 0, .ref a16, .ref a17, .int 0, .int 0, .ref a18, .int 0, .ref a19, .ref a20, .int 0])), (a3, .inr (15, [.ref a1, .ref a31, .int 7, .int 0, .int 0, .int 0, .int 0, .int 0, .int 0, .int 0, .int 0, .long 0, .int 0, .int 0])), (a31, .inl (k0, 4000, .inl (upd (upd (upd (upd (upd (upd (upd (upd (fun _ => 0) (Int32.toNatClampNeg 0) (vp_nar .byte xx87)) (Int32.toNatClampNeg 1) (vp_nar .byte xx90)) (Int32.toNatClampNeg 2) (vp_nar .byte xx93)) (Int32.toNatClampNeg 3) (vp_nar .byte xx96)) (Int32.toNatClampNeg 4) (vp_nar .byte xx99)) (Int32.toNatClampNeg 5) (vp_nar .byte xx102)) (Int32.toNatClampNeg 6) (vp_nar .byte xx105)) (Int32.toNatClampNeg 7) (vp_nar .byte xx108))))] := hD
        refine lv_aload_n hx hb dX20_type_65 rfl (lv_at hl 1 rfl) ?_
        refine va_get (D := (dC, dI)) (ci := 21) (v := .ref a3) (C := RX20) (T := TX20) (N := 30) hx hb hts in_f_X20_type_RX20 hown hK hP 0 rfl rfl 2 (by decide) (hts (.fieldLink RX20 28 "TripleStoreModel" "lexer" "LTripleStoreModel$Lexer;") (List.mem_of_getElem? (i := 1) rfl)) (fun _ h9 => h9) rfl dX20_type_66 ?_
        refine lv_dup hx hb dX20_type_69 rfl ?_
        refine va_getN (D := (dC, dI)) (ci := 15) (v := .int 7) (C := RX14) (T := TX14) (N := 14) hx hb hts in_f_X20_type_RX14 hown hK hP 1 rfl rfl 2 (by decide) (va_Nw.use rfl hZ0) (fun _ h9 => h9) rfl dX20_type_70 ?_
        refine lv_iconst (v := 1) hx hb dX20_type_73 (by decide) ?_
        refine lv_iadd hx hb dX20_type_74 ?_
        refine W.eq (congrArg (fun z : Int32 => F0 m 75 ls (.int z :: [.ref a3])) (by decide +kernel : ((7 : Int32) + 1 : Int32) = 8)) ?_
        refine va_putN (D := (dC, dI)) (ci := 15) (v := .int 8) (ty := .int) (C := RX14) (T := TX14) (N := 14) hx hb hts in_f_X20_type_RX14 tyX14 tyX14_ok nmX14 hown hK hP hD hS 1 rfl rfl 2 (by decide) (va_Nw.use rfl hZ0) (fun _ h9 => h9) rfl (by decide +kernel) rfl rfl (Nat.le_of_ble_eq_true rfl) dX20_type_75 (fun H locs hP hD hS => ?_)
        have hP : va_P (dC, dI) vwCl [(a0, .inr (21, [.ref a1, .ref a2, .ref a3, .ref a4, .ref a5, .ref a6, .ref a7, .ref a8, .int 0, .ref a9, .int 0, .int 0, .ref a10, .ref a11, .int 0, .ref a12, .int 0, .ref a13, .ref a14, .ref a15, .int 0, .ref a16, .ref a17, .int 0, .int 0, .ref a18, .int 0, .ref a19, .ref a20, .int 0])), (a3, .inr (15, [.ref a1, .ref a31, .int 8, .int 0, .int 0, .int 0, .int 0, .int 0, .int 0, .int 0, .int 0, .long 0, .int 0, .int 0])), (a31, .inl (k0, 4000, .inl (upd (upd (upd (upd (upd (upd (upd (upd (fun _ => 0) (Int32.toNatClampNeg 0) (vp_nar .byte xx87)) (Int32.toNatClampNeg 1) (vp_nar .byte xx90)) (Int32.toNatClampNeg 2) (vp_nar .byte xx93)) (Int32.toNatClampNeg 3) (vp_nar .byte xx96)) (Int32.toNatClampNeg 4) (vp_nar .byte xx99)) (Int32.toNatClampNeg 5) (vp_nar .byte xx102)) (Int32.toNatClampNeg 6) (vp_nar .byte xx105)) (Int32.toNatClampNeg 7) (vp_nar .byte xx108))))] H := hP
        have hD : va_D A [(a0, .inr (21, [.ref a1, .ref a2, .ref a3, .ref a4, .ref a5, .ref a6, .ref a7, .ref a8, .int 0, .ref a9, .int 0, .int 0, .ref a10, .ref a11, .int 0, .ref a12, .int 0, .ref a13, .ref a14, .ref a15, .int 0, .ref a16, .ref a17, .int 0, .int 0, .ref a18, .int 0, .ref a19, .ref a20, .int 0])), (a3, .inr (15, [.ref a1, .ref a31, .int 8, .int 0, .int 0, .int 0, .int 0, .int 0, .int 0, .int 0, .int 0, .long 0, .int 0, .int 0])), (a31, .inl (k0, 4000, .inl (upd (upd (upd (upd (upd (upd (upd (upd (fun _ => 0) (Int32.toNatClampNeg 0) (vp_nar .byte xx87)) (Int32.toNatClampNeg 1) (vp_nar .byte xx90)) (Int32.toNatClampNeg 2) (vp_nar .byte xx93)) (Int32.toNatClampNeg 3) (vp_nar .byte xx96)) (Int32.toNatClampNeg 4) (vp_nar .byte xx99)) (Int32.toNatClampNeg 5) (vp_nar .byte xx102)) (Int32.toNatClampNeg 6) (vp_nar .byte xx105)) (Int32.toNatClampNeg 7) (vp_nar .byte xx108))))] := hD
        refine lv_iinc (v := (-1)) (lv' := [(4, .int (-1)), (0, .ref a0), (1, .long y0), (3, .int 8)]) hx hb dX20_type_78 hl (k := 0) rfl (by decide +kernel) (by decide) rfl (fun ls hl => ?_)
        refine lv_goto (tgt := 36) hx hb dX20_type_81 (by decide) ?_
        refine lv_iload hx hb dX20_type_36 (lv_at hl 0 rfl) ?_
        refine lv_if_lt (tgt := 84) hx hb dX20_type_38 (by decide) (fun _ => ?_) (fun c9 => absurd (by decide +kernel) c9)
        refine lv_aload_n hx hb dX20_type_84 rfl (lv_at hl 1 rfl) ?_
        refine va_get (D := (dC, dI)) (ci := 21) (v := .ref a3) (C := RX20) (T := TX20) (N := 30) hx hb hts in_f_X20_type_RX20 hown hK hP 0 rfl rfl 2 (by decide) (hts (.fieldLink RX20 28 "TripleStoreModel" "lexer" "LTripleStoreModel$Lexer;") (List.mem_of_getElem? (i := 1) rfl)) (fun _ h9 => h9) rfl dX20_type_85 ?_
        refine va_getN (D := (dC, dI)) (ci := 15) (v := .int 8) (C := RX14) (T := TX14) (N := 14) hx hb hts in_f_X20_type_RX14 hown hK hP 1 rfl rfl 2 (by decide) (va_Nw.use rfl hZ0) (fun _ h9 => h9) rfl dX20_type_88 ?_
        refine W.widen (k := 0) (n := 0) (Nat.le_of_ble_eq_true rfl) (Nat.le_of_ble_eq_true rfl) ?_
        exact W.iret (v := 8) hx hb hr (fun t ht hW => ⟨⟨8, (), rfl, by rw [if_neg (by decide +kernel), if_pos (by decide +kernel)], trivial⟩, hS.F ht⟩) hS.2.2 dX20_type_91
    · refine lv_iconst (v := (-1)) hx hb dX20_type_11 (by decide) ?_
      refine W.widen (k := 0) (n := 0) (Nat.le_of_ble_eq_true rfl) (Nat.le_of_ble_eq_true rfl) ?_
      exact W.iret (v := (-1)) hx hb hr (fun t ht hW => ⟨⟨(-1), (), rfl, by rw [if_neg c_2, if_neg c_8], trivial⟩, hS.F ht⟩) hS.2.2 dX20_type_12
