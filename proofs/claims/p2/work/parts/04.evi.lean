/-! PART 4: the instructions that touch a cell, over the abstract heap -/
section E_I
variable {p : Program} {l : Launch} {e : Env} {R : Room} {s : State} {m : MethodId} {args : Array Value} {below : List Frame} {meth : Method} {c : Code} {H : Heap} {locs : List Loc} {cells slots : Nat} {Q : State → Prop}
variable {cc : ByteArray} {pc : Nat} {ls : Array Slot} {D : va_G} {cl : List vw_C} {tys : List (ClassId × FieldType)} {fty : Nat → Nat → FieldType} {st st' : e_ST} {ad : Nat → Nat} {b0 : Nat} {H0 : Heap} {W0 Z0 : List Cond} {a : Nat} {rest : List Value}
/-- what the words say of the classes of cl -/
def e_CL (cl : List vw_C) (fty : Nat → Nat → FieldType) (W0 : List Cond) : Prop := ∀ (ci : Nat) (r : vw_C), cl[ci]? = some r → (∀ w ∈ u_ws r.1 r.2.1 r.2.2, w ∈ W0) ∧ (∀ k, k < r.2.2 → parseFieldDescriptor (r.2.1 k).2.2.1 = some (fty ci k)) ∧ (∀ a, a < r.2.2 → ∀ b, b < r.2.2 → a ≠ b → (r.2.1 a).2.1 ≠ (r.2.1 b).2.1)
/-- field k of class ci is linked at an entry of a class's pool -/
def e_FL (W0 Z0 : List Cond) (r : vw_C) (own : String) (idx k : Nat) : Prop := Cond.fieldLink own idx (r.2.1 k).1 (r.2.1 k).2.1 (r.2.1 k).2.2.1 ∈ W0 ∨ ∃ host, Cond.fieldLinkNest own idx (r.2.1 k).1 (r.2.1 k).2.1 (r.2.1 k).2.2.1 host ∈ Z0
theorem e_getfield (hx : p.tables.exec = Jvm.exec) (hb : c.code = cc) {own : String} {idx ci k : Nat} {r : vw_C} (hW0 : ∀ w ∈ W0, w.before args s = true) (hZ0 : ∀ z ∈ Z0, va_Nw z s) (hCL : e_CL cl fty W0) (hown : s.vm.findClass own = some m.cls) (hK : va_K D cl tys s) (had : e_AD ad b0) (hR : e_RR ad b0 D cl tys fty st H)
    (hk : e_K st a = some (.inl ci)) (hc : cl[ci]? = some r) (hkn : k < r.2.2) (hl : e_FL W0 Z0 r own idx k) (hd : decode cc pc = .ok (.getfield idx, 3)) (kk : W p l e R s m args below meth c H locs cells slots Q (F0 m (pc + 3) ls (e_vm ad (e_vf st a k (fty ci k)) :: rest))) : W p l e R s m args below meth c H locs cells slots Q (F0 m pc ls (.ref (ad a) :: rest)) := by
  obtain ⟨h1, h2, h3⟩ := hCL ci r hc
  have hP := e_one (hR.2.2.2 a _ (e_en_obj hk hc))
  rcases hl with hl | ⟨host, hl⟩
  · exact va_get (C := r.1) (T := r.2.1) (N := r.2.2) hx hb hW0 h1 hown hK hP 0 rfl hc k hkn (hW0 _ hl) (fun _ h9 => h9) (e_fs_at hkn) hd kk
  · exact va_getN (C := r.1) (T := r.2.1) (N := r.2.2) hx hb hW0 h1 hown hK hP 0 rfl hc k hkn (va_Nw.use rfl (hZ0 _ hl)) (fun _ h9 => h9) (e_fs_at hkn) hd kk
theorem e_putfield (hx : p.tables.exec = Jvm.exec) (hb : c.code = cc) {own : String} {idx ci k : Nat} {r : vw_C} {v : Value} (hW0 : ∀ w ∈ W0, w.before args s = true) (hZ0 : ∀ z ∈ Z0, va_Nw z s) (hCL : e_CL cl fty W0) (hown : s.vm.findClass own = some m.cls) (hK : va_K D cl tys s) (had : e_AD ad b0) (hR : e_RR ad b0 D cl tys fty st H) (hS : va_S (fun q => b0 ≤ q) H0 H locs)
    (hk : e_K st a = some (.inl ci)) (hc : cl[ci]? = some r) (hkn : k < r.2.2) (hl : e_FL W0 Z0 r own idx k) (hfin : (r.2.1 k).2.2.2 = false) (hset : e_set st a k (fty ci k) v = some st') (hd : decode cc pc = .ok (.putfield idx, 3)) (kk : ∀ (H1 : Heap) (locs1 : List Loc), e_RR ad b0 D cl tys fty st' H1 → va_S (fun q => b0 ≤ q) H0 H1 locs1 → W p l e R s m args below meth c H1 locs1 cells slots Q (F0 m (pc + 3) ls rest)) : W p l e R s m args below meth c H locs cells slots Q (F0 m pc ls (e_vm ad v :: .ref (ad a) :: rest)) := by
  obtain ⟨h1, h2, h3⟩ := hCL ci r hc
  obtain ⟨C, T, N⟩ := r
  obtain ⟨hn0, hfit0, eK, eT, eZ, eN, hne, hself, hoth⟩ := e_set_ok hset
  have hn := e_nar_vm (ad := ad) hn0
  have hfit := e_fit_vm (ad := ad) hfit0
  have hka : e_K st a ≠ none := by rw [hk]; intro q; cases q
  have hA : b0 ≤ ad a := by rw [(hR.lt had hka).1]; omega
  have hap := va_apart (own := own) hW0 h1 (fty ci) h2 h3 hK hc
  have hat := hR.2.2.2 a _ (e_en_obj hk hc)
  obtain ⟨r', g1, cell, q1, q2, q3, q4⟩ := hat
  have hr : r' = (C, T, N) := Option.some.inj (g1.symm.trans hc)
  subst hr
  obtain ⟨hSl, hfc, kC, hkC, hkind⟩ := hK.1 ci _ hc
  obtain ⟨cf, kf, fi, f, hi, hsl⟩ := hSl k hkn
  have hlay := hW0 _ (h1 _ (u_in_lay hkn))
  unfold u_lay at hlay
  rw [if_neg (by rw [hfin]; decide)] at hlay
  have hst := (u_facts hfc hkC (u_lays hW0 h1 hkn) hi).1
  have h6 := u_store hfc hkC hkind hlay hi (h2 k hkn) hn hfit
  have fin : ∀ H' : Heap, H'[ad a]? = some (cell.setSlot f.slot (e_vm ad v)) → H'.size = H.size → (∀ q, q ≠ ad a → H'[q]? = H[q]?) → e_RR ad b0 D cl tys fty st' H' := by
    intro H' e1 e2 e3
    rw [hsl] at e1
    refine e_RR.set hR had hka e2 e3 eT eK hne (e_en_obj (by rw [eK]; exact hk) hc) ⟨_, hc, t_OB.to (V := updV (vp_V (e_fs ad st a (fty ci) N)) k (e_vm ad v)) ⟨_, e1, q2, q3, t_set q4 hap hkn (e_vm ad v)⟩ (fun j hj => ?_)⟩
    show _ = vp_V (e_fs ad st' a (fty ci) N) j
    rw [e_fs_V hj]
    by_cases hjk : j = k
    · subst hjk
      simp [updV, hself]
    · simp only [updV, if_neg hjk]
      rw [e_fs_V hj, hoth j _ hjk]
  rcases hl with hl | ⟨host, hl⟩
  · exact W.putK hx hb (f := f) ⟨hown, hW0 _ hl, ⟨_, _, _, hi⟩, hst⟩ (by rw [q2]; exact h6) q1 q3 (by rw [hsl]; exact k2_hasslot (q4 k hkn)) rfl rfl hd fun H' e1 e2 e3 => kk H' _ (fin H' e1 e2 e3) (hS.put e2 e3 hA)
  · exact va_WputK hx hb (f := f) hown (va_Nw.use rfl (hZ0 _ hl)) hi hst (by rw [q2]; exact h6) q1 q3 (by rw [hsl]; exact k2_hasslot (q4 k hkn)) rfl rfl hd fun H' e1 e2 e3 => kk H' _ (fin H' e1 e2 e3) (hS.put e2 e3 hA)
/-- the same of a field in a constructor of its own class, final or not -/
theorem e_putfinal (hx : p.tables.exec = Jvm.exec) (hb : c.code = cc) {own : String} {idx ci k : Nat} {r : vw_C} {v : Value} (hW0 : ∀ w ∈ W0, w.before args s = true) (hCL : e_CL cl fty W0) (hown : s.vm.findClass own = some m.cls) (hK : va_K D cl tys s) (had : e_AD ad b0) (hR : e_RR ad b0 D cl tys fty st H) (hS : va_S (fun q => b0 ≤ q) H0 H locs)
    (hk : e_K st a = some (.inl ci)) (hc : cl[ci]? = some r) (hkn : k < r.2.2) (hl : Cond.fieldLink own idx (r.2.1 k).1 (r.2.1 k).2.1 (r.2.1 k).2.2.1 ∈ W0) (hfin : (r.2.1 k).2.2.2 = true) (hin2 : meth.name = "<init>") (hdecl : (r.2.1 k).1 = own) (hset : e_set st a k (fty ci k) v = some st') (hd : decode cc pc = .ok (.putfield idx, 3)) (kk : ∀ (H1 : Heap) (locs1 : List Loc), e_RR ad b0 D cl tys fty st' H1 → va_S (fun q => b0 ≤ q) H0 H1 locs1 → W p l e R s m args below meth c H1 locs1 cells slots Q (F0 m (pc + 3) ls rest)) : W p l e R s m args below meth c H locs cells slots Q (F0 m pc ls (e_vm ad v :: .ref (ad a) :: rest)) := by
  obtain ⟨h1, h2, h3⟩ := hCL ci r hc
  obtain ⟨C, T, N⟩ := r
  obtain ⟨hn0, hfit0, eK, eT, eZ, eN, hne, hself, hoth⟩ := e_set_ok hset
  have hn := e_nar_vm (ad := ad) hn0
  have hfit := e_fit_vm (ad := ad) hfit0
  have hka : e_K st a ≠ none := by rw [hk]; intro q; cases q
  have hA : b0 ≤ ad a := by rw [(hR.lt had hka).1]; omega
  have hap := va_apart (own := own) hW0 h1 (fty ci) h2 h3 hK hc
  have hat := hR.2.2.2 a _ (e_en_obj hk hc)
  obtain ⟨r', g1, cell, q1, q2, q3, q4⟩ := hat
  have hr : r' = (C, T, N) := Option.some.inj (g1.symm.trans hc)
  subst hr
  obtain ⟨hSl, hfc, kC, hkC, hkind⟩ := hK.1 ci _ hc
  obtain ⟨cf, kf, fi, f, hi, hsl⟩ := hSl k hkn
  have hlay := hW0 _ (h1 _ (u_in_lay hkn))
  unfold u_lay at hlay
  rw [if_pos hfin] at hlay
  have hst := (u_facts hfc hkC (u_lays hW0 h1 hkn) hi).1
  have hcf : m.cls = cf := by
    obtain ⟨_, _, c', _, _, _, -, -, hf', -, -, -, hown2, -⟩ := Cond.laysFinal_spec hlay
    have e1 : c' = cf := by have := hi.symm.trans hf'; simp at this; exact this.1.symm
    have hd2 : (T k).1 = own := hdecl
    rw [hd2] at hown2
    rw [← e1]; exact Option.some.inj (hown.symm.trans hown2)
  have h6 := u_fits hfc hkC hkind (Or.inr hlay) hi (h2 k hkn) hn hfit
  refine W.putFinK hx hb hown (hW0 _ hl) hi hst hcf hin2 (by rw [q2]; exact h6) q1 q3 (by rw [hsl]; exact k2_hasslot (q4 k hkn)) rfl rfl hd fun H' e1 e2 e3 => kk H' _ ?_ (hS.put e2 e3 hA)
  rw [hsl] at e1
  refine e_RR.set hR had hka e2 e3 eT eK hne (e_en_obj (by rw [eK]; exact hk) hc) ⟨_, hc, t_OB.to (V := updV (vp_V (e_fs ad st a (fty ci) N)) k (e_vm ad v)) ⟨_, e1, q2, q3, t_set q4 hap hkn (e_vm ad v)⟩ (fun j hj => ?_)⟩
  show _ = vp_V (e_fs ad st' a (fty ci) N) j
  rw [e_fs_V hj]
  by_cases hjk : j = k
  · subst hjk
    simp [updV, hself]
  · simp only [updV, if_neg hjk]
    rw [e_fs_V hj, hoth j _ hjk]
end E_I
