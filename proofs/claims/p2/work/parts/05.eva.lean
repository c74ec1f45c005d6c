/-! PART 5: arrays -/
section E_A
variable {p : Program} {l : Launch} {e : Env} {R : Room} {s : State} {m : MethodId} {args : Array Value} {below : List Frame} {meth : Method} {c : Code} {H : Heap} {locs : List Loc} {cells slots : Nat} {Q : State → Prop}
variable {cc : ByteArray} {pc : Nat} {ls : Array Slot} {D : va_G} {cl : List vw_C} {tys : List (ClassId × FieldType)} {fty : Nat → Nat → FieldType} {st st' : e_ST} {ad : Nat → Nat} {b0 : Nat} {H0 : Heap} {a t : Nat} {q : ClassId × FieldType} {rest : List Value} {i : Int32}
theorem e_cell (had : e_AD ad b0) (hR : e_RR ad b0 D cl tys fty st H) (hk : e_K st a = some (.inr t)) (ht : tys[t]? = some q) : H[ad a]? = some (vp_cell q.1 (e_N st a, e_sh ad st a q.2)) := hR.2.2.2 a _ (e_en_arr hk ht)
theorem e_base {kd : Nat ⊕ Nat} (had : e_AD ad b0) (hR : e_RR ad b0 D cl tys fty st H) (hk : e_K st a = some kd) : b0 ≤ ad a := by
  rw [(hR.lt had (by rw [hk]; intro q; cases q)).1]
  omega
theorem e_iald (hx : p.tables.exec = Jvm.exec) (hb : c.code = cc) (hK : va_K D cl tys s) (had : e_AD ad b0) (hR : e_RR ad b0 D cl tys fty st H) (hk : e_K st a = some (.inr t)) (ht : tys[t]? = some (q.1, .int)) (hin : vp_in i (e_N st a)) (hd : decode cc pc = .ok (.iaload, 1)) (kk : W p l e R s m args below meth c H locs cells slots Q (F0 m (pc + 1) ls (.int (e_I st a i.toNatClampNeg) :: rest))) : W p l e R s m args below meth c H locs cells slots Q (F0 m pc ls (.int i :: .ref (ad a) :: rest)) :=
  va_iald hx hb hK (e_one (hR.2.2.2 a _ (e_en_arr hk ht))) 0 t rfl ht hin hd kk
theorem e_bald (hx : p.tables.exec = Jvm.exec) (hb : c.code = cc) (hK : va_K D cl tys s) (had : e_AD ad b0) (hR : e_RR ad b0 D cl tys fty st H) (hk : e_K st a = some (.inr t)) (ht : tys[t]? = some (q.1, .byte)) (hin : vp_in i (e_N st a)) (hd : decode cc pc = .ok (.baload, 1)) (kk : W p l e R s m args below meth c H locs cells slots Q (F0 m (pc + 1) ls (.int (e_I st a i.toNatClampNeg) :: rest))) : W p l e R s m args below meth c H locs cells slots Q (F0 m pc ls (.int i :: .ref (ad a) :: rest)) :=
  va_bald hx hb hK (e_one (hR.2.2.2 a _ (e_en_arr hk ht))) 0 t rfl ht hin hd kk
theorem e_zald (hx : p.tables.exec = Jvm.exec) (hb : c.code = cc) (hK : va_K D cl tys s) (had : e_AD ad b0) (hR : e_RR ad b0 D cl tys fty st H) (hk : e_K st a = some (.inr t)) (ht : tys[t]? = some (q.1, .boolean)) (hin : vp_in i (e_N st a)) (hd : decode cc pc = .ok (.baload, 1)) (kk : W p l e R s m args below meth c H locs cells slots Q (F0 m (pc + 1) ls (.int (e_I st a i.toNatClampNeg) :: rest))) : W p l e R s m args below meth c H locs cells slots Q (F0 m pc ls (.int i :: .ref (ad a) :: rest)) :=
  va_zald hx hb hK (e_one (hR.2.2.2 a _ (e_en_arr hk ht))) 0 t rfl ht hin hd kk
theorem e_lald (hx : p.tables.exec = Jvm.exec) (hb : c.code = cc) (hK : va_K D cl tys s) (had : e_AD ad b0) (hR : e_RR ad b0 D cl tys fty st H) (hk : e_K st a = some (.inr t)) (ht : tys[t]? = some (q.1, .long)) (hin : vp_in i (e_N st a)) (hd : decode cc pc = .ok (.laload, 1)) (kk : W p l e R s m args below meth c H locs cells slots Q (F0 m (pc + 1) ls (.long (e_L st a i.toNatClampNeg) :: rest))) : W p l e R s m args below meth c H locs cells slots Q (F0 m pc ls (.int i :: .ref (ad a) :: rest)) :=
  va_lald hx hb hK (e_one (hR.2.2.2 a _ (e_en_arr hk ht))) 0 t rfl ht hin hd kk
theorem e_aald {C : String} (hx : p.tables.exec = Jvm.exec) (hb : c.code = cc) (hK : va_K D cl tys s) (had : e_AD ad b0) (hR : e_RR ad b0 D cl tys fty st H) (hk : e_K st a = some (.inr t)) (ht : tys[t]? = some (q.1, .object C)) (hin : vp_in i (e_N st a)) (hd : decode cc pc = .ok (.aaload, 1)) (kk : W p l e R s m args below meth c H locs cells slots Q (F0 m (pc + 1) ls (e_vm ad (va_rf (e_P st a i.toNatClampNeg)) :: rest))) : W p l e R s m args below meth c H locs cells slots Q (F0 m pc ls (.int i :: .ref (ad a) :: rest)) := by
  rw [e_vm_rf] at kk
  exact va_aldq hx hb hK (e_one (hR.2.2.2 a _ (e_en_arr hk ht))) 0 t rfl ht hin hd kk
/-- an array of arrays -/
theorem e_aalda {y : FieldType} (hx : p.tables.exec = Jvm.exec) (hb : c.code = cc) (hK : va_K D cl tys s) (had : e_AD ad b0) (hR : e_RR ad b0 D cl tys fty st H) (hk : e_K st a = some (.inr t)) (ht : tys[t]? = some (q.1, .array y)) (hin : vp_in i (e_N st a)) (hd : decode cc pc = .ok (.aaload, 1)) (kk : W p l e R s m args below meth c H locs cells slots Q (F0 m (pc + 1) ls (e_vm ad (va_rf (e_P st a i.toNatClampNeg)) :: rest))) : W p l e R s m args below meth c H locs cells slots Q (F0 m pc ls (.int i :: .ref (ad a) :: rest)) := by
  have hlt : i.toNatClampNeg < e_N st a := Nat.not_le.mp fun q => hin (Or.inr q)
  rw [e_vm_rf] at kk
  exact W.aald (v := va_rf ((e_P st a i.toNatClampNeg).map ad)) (ty := .array y) hx hb (e_cell had hR hk ht) ((hK.2 t _ ht).1 (e_N st a) (fun j => va_rf ((e_P st a j).map ad))) rfl (fun q => by cases q) (by show ¬ (i < 0 ∨ (arrV _ _ _).slots.size ≤ _); rw [arrV_size]; exact hin) (by show (arrV _ _ _).slots[_]? = _; rw [arrV_read _ _ hlt]) rfl rfl hd kk
theorem e_alen {v : Int32} (hx : p.tables.exec = Jvm.exec) (hb : c.code = cc) (hK : va_K D cl tys s) (had : e_AD ad b0) (hR : e_RR ad b0 D cl tys fty st H) (hk : e_K st a = some (.inr t)) (ht : tys[t]? = some q) (hv : Int32.ofNat (e_N st a) = v) (hd : decode cc pc = .ok (.arraylength, 1)) (kk : W p l e R s m args below meth c H locs cells slots Q (F0 m (pc + 1) ls (.int v :: rest))) : W p l e R s m args below meth c H locs cells slots Q (F0 m pc ls (.ref (ad a) :: rest)) :=
  va_alen hx hb hK (e_one (hR.2.2.2 a _ (e_en_arr hk ht))) 0 t rfl ht hv hd kk
theorem e_upd_nar {f : Nat → Int32} {n k : Nat} {y : Int32} {v : Value} {cA : ClassId} (hv : v = .int y) : (arrV cA n (fun j => .int (f j))).setSlot k v = arrV cA n (fun j => .int (upd f k y j)) := by
  subst hv
  rw [arrV_store]
  congr 1
  funext j
  by_cases h : j = k
  · subst h
    simp [updV, upd]
  · simp [updV, upd, h]
theorem e_narb (x : Int32) : narrow .byte (.int x) = .int (vp_nar .byte x) := rfl
theorem e_narz (x : Int32) : narrow .boolean (.int x) = .int (vp_nar .boolean x) := rfl
theorem e_sI_self {k : Nat} {x : Int32} {ty : FieldType} (hty : ty = .int ∨ ty = .byte ∨ ty = .boolean) (hk : e_K st a = some (.inr t)) (ht : tys[t]? = some (q.1, ty)) : e_en ad cl tys fty (e_sI st a k x) a = some (.inl (q.1, e_N st a, .inl (upd (e_I st a) k x))) := by
  rw [e_en_arr (st := e_sI st a k x) (q := (q.1, ty)) (by rw [e_sI_K]; exact hk) ht]
  have h1 : e_I (e_sI st a k x) a = upd (e_I st a) k x := by simp [e_sI, e_I]
  rcases hty with rfl | rfl | rfl <;> simp [e_sh, h1] <;> rfl
theorem e_iast {x : Int32} (hx : p.tables.exec = Jvm.exec) (hb : c.code = cc) (hK : va_K D cl tys s) (had : e_AD ad b0) (hR : e_RR ad b0 D cl tys fty st H) (hS : va_S (fun q => b0 ≤ q) H0 H locs) (hk : e_K st a = some (.inr t)) (ht : tys[t]? = some (q.1, .int)) (hin : vp_in i (e_N st a)) (hd : decode cc pc = .ok (.iastore, 1))
    (kk : ∀ (H1 : Heap) (locs1 : List Loc), e_RR ad b0 D cl tys fty (e_sI st a i.toNatClampNeg x) H1 → va_S (fun q => b0 ≤ q) H0 H1 locs1 → W p l e R s m args below meth c H1 locs1 cells slots Q (F0 m (pc + 1) ls rest)) : W p l e R s m args below meth c H locs cells slots Q (F0 m pc ls (.int x :: .int i :: .ref (ad a) :: rest)) := by
  refine W.iast hx hb (e_cell had hR hk ht) ((hK.2 t _ ht).1 (e_N st a) (fun j => .int (e_I st a j))) (fun q => by cases q) (by show ¬ (i < 0 ∨ (arrV _ _ _).slots.size ≤ _); rw [arrV_size]; exact hin) rfl rfl hd fun H1 e1 z oq => ?_
  refine kk H1 _ (e_RR.set hR had (by rw [hk]; intro q; cases q) z oq rfl rfl (fun b hb => e_sI_ne hb) (e_sI_self (Or.inl rfl) hk ht) ?_) (hS.put z oq (e_base had hR hk))
  show H1[ad a]? = some (vp_cell _ _)
  rw [e1]
  exact congrArg some (e_upd_nar rfl)
theorem e_bast {x : Int32} (hx : p.tables.exec = Jvm.exec) (hb : c.code = cc) (hK : va_K D cl tys s) (had : e_AD ad b0) (hR : e_RR ad b0 D cl tys fty st H) (hS : va_S (fun q => b0 ≤ q) H0 H locs) (hk : e_K st a = some (.inr t)) (ht : tys[t]? = some (q.1, .byte)) (hin : vp_in i (e_N st a)) (hd : decode cc pc = .ok (.bastore, 1))
    (kk : ∀ (H1 : Heap) (locs1 : List Loc), e_RR ad b0 D cl tys fty (e_sI st a i.toNatClampNeg (vp_nar .byte x)) H1 → va_S (fun q => b0 ≤ q) H0 H1 locs1 → W p l e R s m args below meth c H1 locs1 cells slots Q (F0 m (pc + 1) ls rest)) : W p l e R s m args below meth c H locs cells slots Q (F0 m pc ls (.int x :: .int i :: .ref (ad a) :: rest)) := by
  refine W.bast hx hb (e_cell had hR hk ht) ((hK.2 t _ ht).1 (e_N st a) (fun j => .int (e_I st a j))) (fun q => by cases q) (by show ¬ (i < 0 ∨ (arrV _ _ _).slots.size ≤ _); rw [arrV_size]; exact hin) rfl rfl hd fun H1 e1 z oq => ?_
  refine kk H1 _ (e_RR.set hR had (by rw [hk]; intro q; cases q) z oq rfl rfl (fun b hb => e_sI_ne hb) (e_sI_self (Or.inr (Or.inl rfl)) hk ht) ?_) (hS.put z oq (e_base had hR hk))
  show H1[ad a]? = some (vp_cell _ _)
  rw [e1]
  exact congrArg some (e_upd_nar (e_narb x))
theorem e_zast {x : Int32} (hx : p.tables.exec = Jvm.exec) (hb : c.code = cc) (hK : va_K D cl tys s) (had : e_AD ad b0) (hR : e_RR ad b0 D cl tys fty st H) (hS : va_S (fun q => b0 ≤ q) H0 H locs) (hk : e_K st a = some (.inr t)) (ht : tys[t]? = some (q.1, .boolean)) (hin : vp_in i (e_N st a)) (hd : decode cc pc = .ok (.bastore, 1))
    (kk : ∀ (H1 : Heap) (locs1 : List Loc), e_RR ad b0 D cl tys fty (e_sI st a i.toNatClampNeg (vp_nar .boolean x)) H1 → va_S (fun q => b0 ≤ q) H0 H1 locs1 → W p l e R s m args below meth c H1 locs1 cells slots Q (F0 m (pc + 1) ls rest)) : W p l e R s m args below meth c H locs cells slots Q (F0 m pc ls (.int x :: .int i :: .ref (ad a) :: rest)) := by
  refine W.zast hx hb (e_cell had hR hk ht) ((hK.2 t _ ht).1 (e_N st a) (fun j => .int (e_I st a j))) (fun q => by cases q) (by show ¬ (i < 0 ∨ (arrV _ _ _).slots.size ≤ _); rw [arrV_size]; exact hin) rfl rfl hd fun H1 e1 z oq => ?_
  refine kk H1 _ (e_RR.set hR had (by rw [hk]; intro q; cases q) z oq rfl rfl (fun b hb => e_sI_ne hb) (e_sI_self (Or.inr (Or.inr rfl)) hk ht) ?_) (hS.put z oq (e_base had hR hk))
  show H1[ad a]? = some (vp_cell _ _)
  rw [e1]
  exact congrArg some (e_upd_nar (e_narz x))
theorem e_last {x : Int64} (hx : p.tables.exec = Jvm.exec) (hb : c.code = cc) (hK : va_K D cl tys s) (had : e_AD ad b0) (hR : e_RR ad b0 D cl tys fty st H) (hS : va_S (fun q => b0 ≤ q) H0 H locs) (hk : e_K st a = some (.inr t)) (ht : tys[t]? = some (q.1, .long)) (hin : vp_in i (e_N st a)) (hd : decode cc pc = .ok (.lastore, 1))
    (kk : ∀ (H1 : Heap) (locs1 : List Loc), e_RR ad b0 D cl tys fty (e_sL st a i.toNatClampNeg x) H1 → va_S (fun q => b0 ≤ q) H0 H1 locs1 → W p l e R s m args below meth c H1 locs1 cells slots Q (F0 m (pc + 1) ls rest)) : W p l e R s m args below meth c H locs cells slots Q (F0 m pc ls (.long x :: .int i :: .ref (ad a) :: rest)) := by
  refine W.last hx hb (e_cell had hR hk ht) ((hK.2 t _ ht).1 (e_N st a) (fun j => .long (e_L st a j))) (fun q => by cases q) (by show ¬ (i < 0 ∨ (arrV _ _ _).slots.size ≤ _); rw [arrV_size]; exact hin) rfl rfl hd fun H1 e1 z oq => ?_
  have he : e_en ad cl tys fty (e_sL st a i.toNatClampNeg x) a = some (.inl (q.1, e_N st a, .inr (.inl (vp_updL (e_L st a) i.toNatClampNeg x)))) := by
    rw [e_en_arr (st := e_sL st a i.toNatClampNeg x) (q := (q.1, .long)) (by rw [e_sL_K]; exact hk) ht]
    have h1 : e_L (e_sL st a i.toNatClampNeg x) a = vp_updL (e_L st a) i.toNatClampNeg x := by simp [e_sL, e_L]
    simp [e_sh, h1]
    rfl
  refine kk H1 _ (e_RR.set hR had (by rw [hk]; intro q; cases q) z oq rfl rfl (fun b hb => e_sL_ne hb) he ?_) (hS.put z oq (e_base had hR hk))
  show H1[ad a]? = some (vp_cell _ _)
  rw [e1]
  refine congrArg some ?_
  rw [vp_cell_l, show e_sh ad st a FieldType.long = .inr (.inl (e_L st a)) from rfl, vp_cell_l, arrV_store]
  congr 1
  funext j
  by_cases h : j = i.toNatClampNeg
  · subst h
    simp [updV, vp_updL]
  · simp [updV, vp_updL, h]
theorem e_sP_self {k : Nat} {x : Option Nat} {C : String} (hk : e_K st a = some (.inr t)) (ht : tys[t]? = some (q.1, .object C)) : e_en ad cl tys fty (e_sP st a k x) a = some (.inl (q.1, e_N st a, .inr (.inr (.inr (.inr (fun j => (va_up (e_P st a) k x j).map ad)))))) := by
  rw [e_en_arr (st := e_sP st a k x) (q := (q.1, .object C)) (by rw [e_sP_K]; exact hk) ht]
  have h1 : e_P (e_sP st a k x) a = va_up (e_P st a) k x := by simp [e_sP, e_P]
  simp [e_sh, h1]
  rfl
theorem e_upd_q {f : Nat → Option Nat} {n k : Nat} {x : Option Nat} {cA : ClassId} : (arrV cA n (fun j => va_rf ((f j).map ad))).setSlot k (va_rf (x.map ad)) = arrV cA n (fun j => va_rf ((va_up f k x j).map ad)) := by
  rw [arrV_store]
  congr 1
  funext j
  by_cases h : j = k
  · subst h
    simp [updV, va_up]
  · simp [updV, va_up, h]
theorem e_aastN {C : String} (hx : p.tables.exec = Jvm.exec) (hb : c.code = cc) (hK : va_K D cl tys s) (had : e_AD ad b0) (hR : e_RR ad b0 D cl tys fty st H) (hS : va_S (fun q => b0 ≤ q) H0 H locs) (hk : e_K st a = some (.inr t)) (ht : tys[t]? = some (q.1, .object C)) (hin : vp_in i (e_N st a)) (hd : decode cc pc = .ok (.aastore, 1))
    (kk : ∀ (H1 : Heap) (locs1 : List Loc), e_RR ad b0 D cl tys fty (e_sP st a i.toNatClampNeg none) H1 → va_S (fun q => b0 ≤ q) H0 H1 locs1 → W p l e R s m args below meth c H1 locs1 cells slots Q (F0 m (pc + 1) ls rest)) : W p l e R s m args below meth c H locs cells slots Q (F0 m pc ls (.null :: .int i :: .ref (ad a) :: rest)) := by
  refine va_WaastN (C := C) hx hb (e_cell had hR hk ht) ((hK.2 t _ ht).1 (e_N st a) (fun j => va_rf ((e_P st a j).map ad))) (fun h => by cases h) (by show ¬ (i < 0 ∨ (arrV _ _ _).slots.size ≤ _); rw [arrV_size]; exact hin) rfl rfl hd fun H1 e1 z oq => ?_
  refine kk H1 _ (e_RR.set hR had (by rw [hk]; intro q; cases q) z oq rfl rfl (fun b hb => e_sP_ne hb) (e_sP_self hk ht) ?_) (hS.put z oq (e_base had hR hk))
  show H1[ad a]? = some (vp_cell _ _)
  rw [e1]
  exact congrArg some (e_upd_q (x := none))
theorem e_aast {r : vw_C} {v ci : Nat} (hx : p.tables.exec = Jvm.exec) (hb : c.code = cc) (hK : va_K D cl tys s) (had : e_AD ad b0) (hR : e_RR ad b0 D cl tys fty st H) (hS : va_S (fun q => b0 ≤ q) H0 H locs) (hk : e_K st a = some (.inr t)) (ht : tys[t]? = some (q.1, .object r.1)) (hv : e_K st v = some (.inl ci)) (hc : cl[ci]? = some r) (hin : vp_in i (e_N st a)) (hd : decode cc pc = .ok (.aastore, 1))
    (kk : ∀ (H1 : Heap) (locs1 : List Loc), e_RR ad b0 D cl tys fty (e_sP st a i.toNatClampNeg (some v)) H1 → va_S (fun q => b0 ≤ q) H0 H1 locs1 → W p l e R s m args below meth c H1 locs1 cells slots Q (F0 m (pc + 1) ls rest)) : W p l e R s m args below meth c H locs cells slots Q (F0 m pc ls (.ref (ad v) :: .int i :: .ref (ad a) :: rest)) := by
  have hlt : i.toNatClampNeg < e_N st a := Nat.not_le.mp fun q => hin (Or.inr q)
  have h0 : ¬ i < 0 := fun q => hin (Or.inl q)
  obtain ⟨r', hr', cellV, g1, g2, g3, -⟩ := hR.2.2.2 v _ (e_en_obj hv hc)
  have hcls := (hK.1 ci r hc).2
  obtain ⟨kA, comp, k1, k2, k3, -⟩ := (hK.2 t _ ht).2
  have hcomp : comp = D.1 ci := Option.some.inj (k3.symm.trans hcls.1)
  subst hcomp
  obtain ⟨kC, hkC, -⟩ := hcls.2
  refine W.aast hx hb (e_cell had hR hk ht) (fun q h => by cases h) (fun h => by cases h) k1 k2 rfl hkC ⟨h0, by show _ < (arrV _ _ _).slots.size; rw [arrV_size]; exact hlt⟩ g1 (fun q h => by rw [g3] at h; cases h) (by rw [g2]; exact hkC) (by rw [g2]; exact va_assign hcls) rfl rfl hd fun H1 e1 z oq => ?_
  refine kk H1 _ (e_RR.set hR had (by rw [hk]; intro q; cases q) z oq rfl rfl (fun b hb => e_sP_ne hb) (e_sP_self hk ht) ?_) (hS.put z oq (e_base had hR hk))
  show H1[ad a]? = some (vp_cell _ _)
  rw [e1]
  exact congrArg some (e_upd_q (x := some v))
-- what is made
theorem e_new_ne {kd : Nat ⊕ Nat} {n b : Nat} (hb : b ≠ e_T st) : e_en ad cl tys fty (e_new st kd n) b = e_en ad cl tys fty st b := by
  have h1 : ∀ (j : Nat) (ty : FieldType), e_vf (e_new st kd n) b j ty = e_vf st b j ty := by
    intro j ty
    cases ty <;> simp [e_vf, e_new, e_I, e_L, e_P, hb]
  have h2 : ∀ ty : FieldType, e_sh ad (e_new st kd n) b ty = e_sh ad st b ty := by
    intro ty
    cases ty <;> simp [e_sh, e_new, e_I, e_L, e_P, hb]
  have h3 : e_K (e_new st kd n) b = e_K st b := by simp [e_new, e_K, hb]
  have h4 : e_N (e_new st kd n) b = e_N st b := by simp [e_new, e_N, hb]
  simp only [e_en, e_fs, h1, h2, h3, h4]
theorem e_RR.mk (had : e_AD ad b0) (hlim : e_T st < e_lim) {kd : Nat ⊕ Nat} {n : Nat} {x : va_E} {H1 : Heap} (h : e_RR ad b0 D cl tys fty st H) (hz : H1.size = H.size + 1) (oq : ∀ q : Nat, q < H.size → H1[q]? = H[q]?) (he : e_en ad cl tys fty (e_new st kd n) (e_T st) = some x) (hx : va_at D cl (b0 + e_T st, x) H1) : e_RR ad b0 D cl tys fty (e_new st kd n) H1 := by
  refine ⟨by rw [hz, h.1]; rfl, hlim, fun b hb => ?_, fun b y hy => ?_⟩
  · by_cases hbt : b = e_T st
    · rw [hbt]; exact Nat.lt_succ_self _
    · have h3 : e_K (e_new st kd n) b = e_K st b := by simp [e_new, e_K, hbt]
      rw [h3] at hb
      exact Nat.lt_succ_of_lt (h.2.2.1 b hb)
  · by_cases hb : b = e_T st
    · subst hb
      rw [he] at hy
      cases hy
      rw [had _ hlim]
      exact hx
    · rw [e_new_ne hb] at hy
      have h9 := h.2.2.2 b y hy
      exact h9.kept (oq _ h9.lt)
theorem e_new_vf {kd : Nat ⊕ Nat} {n k : Nat} {ty : FieldType} (hty : ty ≠ .float ∧ ty ≠ .double) : e_vf (e_new st kd n) (e_T st) k ty = defaultValue ty := by
  cases ty <;> simp [e_vf, e_new, e_I, e_L, e_P, va_rf, defaultValue] at hty ⊢
theorem e_newc {own C : String} {T : u_T} {N ci idx : Nat} {W0 : List Cond} (hx : p.tables.exec = Jvm.exec) (hb : c.code = cc) (hW0 : ∀ w ∈ W0, w.before args s = true) (hCL : e_CL cl fty W0) (hnf : ∀ k, fty ci k ≠ .float ∧ fty ci k ≠ .double) (hown : s.vm.findClass own = some m.cls) (hcl : Cond.classLink own idx C ∈ W0) (hinst : Cond.instantiable C N ∈ W0) (hini : Cond.initialized C ∈ W0)
    (hK : va_K D cl tys s) (had : e_AD ad b0) (hR : e_RR ad b0 D cl tys fty st H) (hS : va_S (fun q => b0 ≤ q) H0 H locs) (hc : cl[ci]? = some (C, T, N)) (hlim : e_T st < e_lim) (hcells : cells + 1 ≤ R.cells) (hslots : slots + N ≤ R.slots) (hd : decode cc pc = .ok (.new idx, 3))
    (kk : ∀ (H1 : Heap), e_RR ad b0 D cl tys fty (e_new st (.inl ci) N) H1 → va_S (fun q => b0 ≤ q) H0 H1 locs → W p l e R s m args below meth c H1 locs (cells + 1) (slots + N) Q (F0 m (pc + 3) ls (.ref (ad (e_T st)) :: rest))) : W p l e R s m args below meth c H locs cells slots Q (F0 m pc ls rest) := by
  have hKn := hK.1 ci _ hc
  obtain ⟨h1, h2, h3⟩ := hCL ci _ hc
  refine W.newcK hx hb hown (hW0 _ hcl) (hW0 _ hinst) (hW0 _ hini) rfl hd hcells hslots hKn.2.1 hR.1 fun H1 kC hkC e1 z1 o1 => ?_
  have o2 : ∀ q : Nat, q < H.size → H1[q]? = H[q]? := fun q hq => o1 q (by rw [← hR.1]; exact hq)
  have ek : e_K (e_new st (.inl ci) N) (e_T st) = some (.inl ci) := by simp [e_new, e_K]
  rw [had _ hlim] at kk
  refine kk H1 (e_RR.mk had hlim hR (by rw [z1, hR.1]) o2 (e_en_obj ek hc) ⟨_, hc, (u_born (fty ci) hW0 h1 hKn hkC e1 h2).to fun j hj => ?_⟩) ⟨Nat.le_trans hS.1 (by rw [z1, ← hR.1]; omega), fun x g1 g2 => (o2 x (Nat.lt_of_lt_of_le g1 hS.1)).trans (hS.2.1 x g1 g2), hS.2.2⟩
  show _ = vp_V (e_fs _ _ _ _ _) j
  rw [e_fs_V hj, e_new_vf (hnf j)]
  cases fty ci j <;> rfl
theorem e_newa {atype : ArrayType} {n : Int32} (hx : p.tables.exec = Jvm.exec) (hb : c.code = cc) (harr : (Cond.arrayClass (newarray.typeOf atype)).before args s = true) (hK : va_K D cl tys s) (had : e_AD ad b0) (hR : e_RR ad b0 D cl tys fty st H) (hS : va_S (fun q => b0 ≤ q) H0 H locs) (ht : tys[t]? = some (q.1, newarray.typeOf atype)) (hnf : newarray.typeOf atype ≠ .float ∧ newarray.typeOf atype ≠ .double)
    (hlim : e_T st < e_lim) (hn : ¬ n < 0) (hbytes : n.toNatClampNeg * componentBytes (newarray.typeOf atype) ≤ 536870912) (hcells : cells + 1 ≤ R.cells) (hslots : slots + n.toNatClampNeg ≤ R.slots) (hd : decode cc pc = .ok (.newarray atype, 2))
    (kk : ∀ (H1 : Heap), e_RR ad b0 D cl tys fty (e_new st (.inr t) n.toNatClampNeg) H1 → va_S (fun q => b0 ≤ q) H0 H1 locs → W p l e R s m args below meth c H1 locs (cells + 1) (slots + n.toNatClampNeg) Q (F0 m (pc + 2) ls (.ref (ad (e_T st)) :: rest))) : W p l e R s m args below meth c H locs cells slots Q (F0 m pc ls (.int n :: rest)) := by
  refine va_newaK hx hb harr rfl hd rfl hn rfl hbytes hcells hslots hR.1 fun H1 cA e1 z1 o1 hAr hNm => ?_
  have o2 : ∀ q : Nat, q < H.size → H1[q]? = H[q]? := fun q hq => o1 q (by rw [← hR.1]; exact hq)
  have hcA : cA = q.1 := by
    have g := (hK.2 t _ ht).2
    have g2 : s.vm.findClass ("[" ++ (newarray.typeOf atype).toString) = some q.1 := by cases atype <;> exact g
    exact Option.some.inj (hNm.symm.trans g2)
  subst hcA
  have ek : e_K (e_new st (.inr t) n.toNatClampNeg) (e_T st) = some (.inr t) := by simp [e_new, e_K]
  rw [had _ hlim] at kk
  refine kk H1 (e_RR.mk had hlim hR (by rw [z1, hR.1]) o2 (e_en_arr ek ht) ?_) ⟨Nat.le_trans hS.1 (by rw [z1, ← hR.1]; omega), fun x g1 g2 => (o2 x (Nat.lt_of_lt_of_le g1 hS.1)).trans (hS.2.1 x g1 g2), hS.2.2⟩
  show H1[b0 + e_T st]? = some (vp_cell _ _)
  rw [e1]
  refine congrArg some ?_
  have en : e_N (e_new st (.inr t) n.toNatClampNeg) (e_T st) = n.toNatClampNeg := by simp [e_new, e_N]
  have ei : e_I (e_new st (.inr t) n.toNatClampNeg) (e_T st) = fun _ => 0 := by simp [e_new, e_I]
  have el : e_L (e_new st (.inr t) n.toNatClampNeg) (e_T st) = fun _ => 0 := by simp [e_new, e_L]
  rw [en]
  cases atype <;> simp [newarray.typeOf, e_sh, ei, el, vp_cell, defaultValue] at hnf ⊢
end E_A
