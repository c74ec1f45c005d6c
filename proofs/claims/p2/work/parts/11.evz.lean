/-! PART 11: every method at every depth keeps its contract -/
section E_ZZ
variable {l : Launch} {D : va_G} {cl : List vw_C} {tys : List (ClassId × FieldType)} {ats : List FieldType} {fty : Nat → Nat → FieldType} {W0 Z0 : List Cond}
variable {fl : Nat → Nat → Option (Nat × Nat)} {kI : Nat → Nat → Option Int32} {kL : Nat → Nat → Option Int64} {nl : Nat → Nat → Option Nat} {kS : Nat → Nat → Option Nat} {XB : State → Heap → Prop} {ad : Nat → Nat} {b0 : Nat} {ml : Nat → Nat → Option (Nat × Nat)} {mt : Nat → Option e_M} {cn : Nat → Nat} {eci : Nat} {xo : Nat → Option Nat} {own : Nat → String}
theorem e_args_m {ad : Nat → Nat} : ∀ {As : List Value} {i : Nat}, lv_args i (e_mv ad As) = e_mp ad (lv_args i As)
  | [], _ => rfl
  | v :: vs, i => by
    show (i, e_vm ad v) :: lv_args (if (e_vm ad v).category = 2 then i + 2 else i + 1) (e_mv ad vs) = _
    rw [e_vm_cat, e_args_m]
    rfl
theorem e_lg_len {ad : Nat → Nat} : ∀ {As : List Value}, (lg_sl (e_mv ad As)).length = (lg_sl As).length
  | [] => rfl
  | v :: vs => by
    have h := e_lg_len (ad := ad) (As := vs)
    unfold lg_sl e_mv at h ⊢
    rw [List.map_cons, List.flatMap_cons, List.flatMap_cons, List.length_append, List.length_append, h, e_vm_cat]
    by_cases hc : v.category = 2 <;> simp [hc]
theorem e_one_ok (had : e_AD ad b0) (hP : e_OKP cl ats fty W0 Z0 fl kI kL nl ml mt cn eci own) (hta : ∀ (t : Nat) (ty : FieldType), ats[t]? = some ty → ∃ cA, tys[t]? = some (cA, ty)) (hXC : e_XC b0 XB) (hXO : ∀ (U : State) (H : Heap) (q o : Nat), XB U H → xo q = some o → ∃ cell : Cell, H[ad q]? = some cell ∧ cell.vm.isStatics = false ∧ U.vm.findClass (own o) = some cell.cls) {M : e_M} (hMj : e_OKM W0 Z0 own M) {d : Nat} {ex : e_EX} (hex : e_xgrow ex) (hEX : e_EXS l ad D cl tys fty W0 Z0 XB own b0 d ex) {call : Nat → List Value → e_ST → Option e_RS} (hgrow : e_grow call) (hcall : ∀ j M' As st r, mt j = some M' → call j As st = some r → e_CT l ad D cl tys fty W0 Z0 kS XB own b0 d M' As st r)
    {fu : Nat} {As : List Value} {st : e_ST} {r : e_RS} (hlen : (lg_sl As).length ≤ e_mL M) (h : e_body cl ats fty fl kI kL nl kS ml mt cn eci xo ex call M fu 0 (lv_args 0 As) [] st = some r) : e_CT l ad D cl tys fty W0 Z0 kS XB own b0 (d + 1) M As st r := by
  have hle := e_body_le hex hgrow h
  obtain ⟨le1, le2⟩ := hle
  obtain ⟨hcw, hpn, hy, hna, ho, hini, hmx, hhh⟩ := id hMj
  have BODY : ∀ (p : Program) (e : Env) (s : State) (m : MethodId) (args : Array Value) (below : List Frame) (meth : Method) (c : Code) (s₁ : State), BodyLoose p l (e_my M) (headSpec (e_ws W0 M) (e_rm (d + 1) (e_T r.2 - e_T st) (e_Z r.2 - e_Z st))) (e_mc M) (e_mL M) (e_mr M) e s m args below meth c s₁ → c.maxLocals = e_mL M → c.exceptionTable.toList = tableOf (e_mh M) → va_Pc (e_mv ad As) (e_BB ad D cl tys fty Z0 kS XB own b0 st) args s →
      W p l e (headSpec (e_ws W0 M) (e_rm (d + 1) (e_T r.2 - e_T st) (e_Z r.2 - e_Z st))).room s m args below meth c s.heap [] 0 0 (vx_MQ below (e_QR ad D cl tys fty b0 r) (e_XR ad D cl tys fty b0 r) args s (e_T r.2 - e_T st) (e_Z r.2 - e_Z st) (e_A b0)) (entryFrame m args (e_mL M)) := by
    intro p e s m args below meth c s₁ B hml hTab hv
    obtain ⟨rfl, hR, hK, hZ0, hS0, hb0, hXB⟩ := hv
    have hts := atoms_spec (ws := e_ws W0 M) B.pre
    have hl := lv_entry (e_mv ad As) (n := e_mL M) (by rw [e_lg_len]; exact hlen)
    rw [e_args_m] at hl
    rw [lg_entry_eq]
    exact e_body_ok (T0 := e_T st) (S0 := e_Z st) hP hMj B.exec B.bytes hml B.returns B.notSynchronized (fun hn => ((name_of_methodNamed B.named B.method).1).trans hn) hTab (fun w hw => hts w (List.mem_cons_of_mem _ hw)) hZ0 hS0 (by rw [ho]; exact findClass_of_methodNamed B.named) hK hta had hb0 hXC hXO hXB hex hgrow hcall hEX (by omega) (by omega) fu 0 (lv_args 0 As) [] st h s.heap [] _ 0 0 hR va_S.rf hl (by omega) (by omega)
  by_cases hh : e_mh M = []
  · refine vx_ofW (cc := e_mc M) (maxL := e_mL M) (ret := e_mr M) hpn (ws' := W0) (by unfold e_ws e_cw; rw [if_pos hh]) ?_
    intro p e s m args below meth c s₁ B hml hno hv
    refine BODY p e s m args below meth c s₁ B hml ?_ hv
    rw [hh]
    cases hx : c.exceptionTable.toList with
    | nil => rfl
    | cons a b => exact absurd (hno a (by rw [hx]; exact List.mem_cons_self)) id
  · have hcd : e_cw M = .codeWith (e_my M) (e_mc M) (e_mL M) (e_mr M) (e_mh M) := by unfold e_cw; rw [if_neg hh]
    refine vx_ofWH (cc := e_mc M) (maxL := e_mL M) (ret := e_mr M) (hh := e_mh M) hpn (ws' := W0) (by unfold e_ws; rw [hcd]) ?_
    intro p e s m args below meth c s₁ B hml hv
    refine BODY p e s m args below meth c s₁ B hml ?_ hv
    have hts := atoms_spec (ws := e_ws W0 M) B.pre
    exact vx_table (x := e_my M) B (hts (.codeWith (e_my M) (e_mc M) (e_mL M) (e_mr M) (e_mh M)) (by unfold e_ws; rw [hcd]; exact List.mem_cons_self))
/-- THE EVALUATOR IS SOUND: what it says of a call is a contract of the machine -/
theorem e_sound (had : e_AD ad b0) (hP : e_OKP cl ats fty W0 Z0 fl kI kL nl ml mt cn eci own) (hta : ∀ (t : Nat) (ty : FieldType), ats[t]? = some ty → ∃ cA, tys[t]? = some (cA, ty)) (hXC : e_XC b0 XB) (hXO : ∀ (U : State) (H : Heap) (q o : Nat), XB U H → xo q = some o → ∃ cell : Cell, H[ad q]? = some cell ∧ cell.vm.isStatics = false ∧ U.vm.findClass (own o) = some cell.cls) {ex : Nat → e_EX} (hex : ∀ d, e_xgrow (ex d)) (hEX : ∀ d, e_EXS l ad D cl tys fty W0 Z0 XB own b0 d (ex d)) (fu : Nat) : ∀ (d j : Nat) (M : e_M) (As : List Value) (st : e_ST) (r : e_RS), mt j = some M → e_m cl ats fty fl kI kL nl kS ml mt cn eci xo ex fu d j As st = some r → e_CT l ad D cl tys fty W0 Z0 kS XB own b0 d M As st r
  | 0, _, _, _, _, _, _, h => by cases h
  | d + 1, j, M, As, st, r, hM, h => by
    unfold e_m at h
    rw [hM] at h
    dsimp only at h
    split at h
    · rename_i hlen
      exact e_one_ok had hP hta hXC hXO (hP.2.2.2.2.1 j M hM) (hex d) (hEX d) (e_m_grow hex d) (fun j' M' As' st' r' hM' h' => e_sound had hP hta hXC hXO hex hEX fu d j' M' As' st' r' hM' h') hlen h
    · cases h
end E_ZZ
