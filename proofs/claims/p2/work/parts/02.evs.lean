section E_S
variable {p : Program} {l : Launch} {e : Env} {R : Room} {s : State} {m : MethodId} {args : Array Value} {below : List Frame} {meth : Method} {c : Code} {H : Heap} {locs : List Loc} {cells slots : Nat} {Q : State → Prop}
variable {cc : ByteArray} {pc : Nat} {ls : Array Slot}
variable {ad : Nat → Nat}
theorem e_has {nL : Nat} {lv : e_LV} {i : Nat} {v : Value} (hl : lv_has ls nL (e_mp ad lv)) (h : e_lk lv i = some v) : ls[i]? = some (.val (e_vm ad v)) := hl.2.2 (i, e_vm ad v) (List.mem_map.mpr ⟨(i, v), e_lk_mem h, rfl⟩)
theorem e_c1_s {v : Value} (h : e_c1 v = true) : (e_vm ad v).category = 1 := by rw [e_vm_cat]; simpa [e_c1] using h
set_option maxHeartbeats 1000000 in
/-- the machine does a simple instruction as e_s says -/
theorem e_s_ok (hx : p.tables.exec = Jvm.exec) (hb : c.code = cc) {ins : Instr} {len nL pc' : Nat} {lv lv' : e_LV} {stk stk' : List Value} (hd : decode cc pc = .ok (ins, e_lf ins len))
    (h : e_s nL ins pc lv stk = some (pc', lv', stk')) (hl : lv_has ls nL (e_mp ad lv)) (k : ∀ ls', lv_has ls' nL (e_mp ad lv') → W p l e R s m args below meth c H locs cells slots Q (F0 m pc' ls' (e_mv ad stk'))) : W p l e R s m args below meth c H locs cells slots Q (F0 m pc ls (e_mv ad stk)) := by
  cases ins with
  | iconst n =>
    cases h
    exact lv_iconst hx hb hd rfl (k ls hl)
  | bipush n =>
    cases h
    exact lv_bipush hx hb hd rfl (k ls hl)
  | sipush n =>
    cases h
    exact lv_sipush hx hb hd rfl (k ls hl)
  | lconst n =>
    cases h
    exact lv_lconst hx hb hd rfl (k ls hl)
  | aconst_null =>
    cases h
    exact lv_null hx hb hd (k ls hl)
  | iload_n q =>
    obtain ⟨v, h1, h2, rfl, rfl, rfl⟩ := e_ld_s h
    obtain ⟨x, rfl⟩ := e_isI_s h2
    exact lv_iload_n hx hb hd rfl (e_has hl h1) (k ls hl)
  | iload q =>
    obtain ⟨v, h1, h2, rfl, rfl, rfl⟩ := e_ld_s h
    obtain ⟨x, rfl⟩ := e_isI_s h2
    exact lv_iload hx hb hd (e_has hl h1) (k ls hl)
  | istore_n q =>
    obtain ⟨v, rfl, h2, h3, rfl, rfl⟩ := e_sv_s h
    obtain ⟨x, rfl⟩ := e_isI_s h2
    exact lv_istore_n hx hb hd rfl hl h3 (e_ms1 ad _ (.int x) _) k
  | istore q =>
    obtain ⟨v, rfl, h2, h3, rfl, rfl⟩ := e_sv_s h
    obtain ⟨x, rfl⟩ := e_isI_s h2
    exact lv_istore hx hb hd hl h3 (e_ms1 ad _ (.int x) _) k
  | lload_n q =>
    obtain ⟨v, h1, h2, rfl, rfl, rfl⟩ := e_ld_s h
    obtain ⟨x, rfl⟩ := e_isL_s h2
    exact lv_lload_n hx hb hd rfl (e_has hl h1) (k ls hl)
  | lload q =>
    obtain ⟨v, h1, h2, rfl, rfl, rfl⟩ := e_ld_s h
    obtain ⟨x, rfl⟩ := e_isL_s h2
    exact lv_lload hx hb hd (e_has hl h1) (k ls hl)
  | lstore_n q =>
    obtain ⟨v, rfl, h2, h3, rfl, rfl⟩ := e_sv_s h
    obtain ⟨x, rfl⟩ := e_isL_s h2
    exact lv_lstore_n hx hb hd rfl hl h3 (e_ms2 ad _ (.long x) _) k
  | lstore q =>
    obtain ⟨v, rfl, h2, h3, rfl, rfl⟩ := e_sv_s h
    obtain ⟨x, rfl⟩ := e_isL_s h2
    exact lv_lstore hx hb hd hl h3 (e_ms2 ad _ (.long x) _) k
  | aload_n q =>
    obtain ⟨v, h1, h2, rfl, rfl, rfl⟩ := e_ld_s h
    rcases e_isA_s h2 with rfl | ⟨a, rfl⟩
    · exact lv_aload_nN hx hb hd rfl (e_has hl h1) (k ls hl)
    · exact lv_aload_n hx hb hd rfl (e_has hl h1) (k ls hl)
  | aload q =>
    obtain ⟨v, h1, h2, rfl, rfl, rfl⟩ := e_ld_s h
    rcases e_isA_s h2 with rfl | ⟨a, rfl⟩
    · exact lv_aloadN hx hb hd (e_has hl h1) (k ls hl)
    · exact lv_aload hx hb hd (e_has hl h1) (k ls hl)
  | astore_n q =>
    obtain ⟨v, rfl, h2, h3, rfl, rfl⟩ := e_sv_s h
    rcases e_isA_s h2 with rfl | ⟨a, rfl⟩
    · exact lv_astore_nN hx hb hd rfl hl h3 (e_ms1 ad _ .null _) k
    · exact lv_astore_n hx hb hd rfl hl h3 (e_ms1 ad _ (.ref a) _) k
  | astore q =>
    obtain ⟨v, rfl, h2, h3, rfl, rfl⟩ := e_sv_s h
    rcases e_isA_s h2 with rfl | ⟨a, rfl⟩
    · exact lv_astoreN hx hb hd hl h3 (e_ms1 ad _ .null _) k
    · exact lv_astore hx hb hd hl h3 (e_ms1 ad _ (.ref a) _) k
  | iinc i n =>
    unfold e_s at h
    dsimp only at h
    split at h
    · rename_i x hx1
      by_cases hi : i < nL
      · rw [if_pos hi] at h
        cases h
        obtain ⟨j, hj⟩ := List.getElem?_of_mem (List.mem_map.mpr ⟨(i, Value.int x), e_lk_mem hx1, rfl⟩ : (i, e_vm ad (.int x)) ∈ e_mp ad lv)
        exact lv_iinc hx hb hd hl hj rfl hi (e_ms1 ad i (.int (x + Int32.ofInt n)) lv) k
      · rw [if_neg hi] at h
        cases h
    · cases h
  | iadd =>
    obtain ⟨rfl, rfl, h9⟩ := e_n_s h
    obtain ⟨x, y, r, v, rfl, h1, rfl⟩ := e_ii_s h9
    cases h1
    exact lv_iadd hx hb hd (k ls hl)
  | isub =>
    obtain ⟨rfl, rfl, h9⟩ := e_n_s h
    obtain ⟨x, y, r, v, rfl, h1, rfl⟩ := e_ii_s h9
    cases h1
    exact lv_isub hx hb hd (k ls hl)
  | imul =>
    obtain ⟨rfl, rfl, h9⟩ := e_n_s h
    obtain ⟨x, y, r, v, rfl, h1, rfl⟩ := e_ii_s h9
    cases h1
    exact lv_imul hx hb hd (k ls hl)
  | iand =>
    obtain ⟨rfl, rfl, h9⟩ := e_n_s h
    obtain ⟨x, y, r, v, rfl, h1, rfl⟩ := e_ii_s h9
    cases h1
    exact lv_iand hx hb hd (k ls hl)
  | ior =>
    obtain ⟨rfl, rfl, h9⟩ := e_n_s h
    obtain ⟨x, y, r, v, rfl, h1, rfl⟩ := e_ii_s h9
    cases h1
    exact lv_ior hx hb hd (k ls hl)
  | ixor =>
    obtain ⟨rfl, rfl, h9⟩ := e_n_s h
    obtain ⟨x, y, r, v, rfl, h1, rfl⟩ := e_ii_s h9
    cases h1
    exact lv_ixor hx hb hd (k ls hl)
  | ishl =>
    obtain ⟨rfl, rfl, h9⟩ := e_n_s h
    obtain ⟨x, y, r, v, rfl, h1, rfl⟩ := e_ii_s h9
    cases h1
    exact lv_ishl hx hb hd (k ls hl)
  | ishr =>
    obtain ⟨rfl, rfl, h9⟩ := e_n_s h
    obtain ⟨x, y, r, v, rfl, h1, rfl⟩ := e_ii_s h9
    cases h1
    exact lv_ishr hx hb hd (k ls hl)
  | iushr =>
    obtain ⟨rfl, rfl, h9⟩ := e_n_s h
    obtain ⟨x, y, r, v, rfl, h1, rfl⟩ := e_ii_s h9
    cases h1
    exact lv_iushr hx hb hd rfl (k ls hl)
  | idiv =>
    obtain ⟨rfl, rfl, h9⟩ := e_n_s h
    obtain ⟨x, y, r, v, rfl, h1, rfl⟩ := e_ii_s h9
    by_cases hy : y = 0
    · rw [if_pos hy] at h1
      cases h1
    · rw [if_neg hy] at h1
      cases h1
      exact lv_idiv hx hb hd hy (k ls hl)
  | irem =>
    obtain ⟨rfl, rfl, h9⟩ := e_n_s h
    obtain ⟨x, y, r, v, rfl, h1, rfl⟩ := e_ii_s h9
    by_cases hy : y = 0
    · rw [if_pos hy] at h1
      cases h1
    · rw [if_neg hy] at h1
      cases h1
      exact lv_irem hx hb hd hy (k ls hl)
  | ineg =>
    obtain ⟨rfl, rfl, h9⟩ := e_n_s h
    obtain ⟨x, r, v, rfl, h1, rfl⟩ := e_i_s h9
    cases h1
    exact lv_ineg hx hb hd (k ls hl)
  | i2l =>
    obtain ⟨rfl, rfl, h9⟩ := e_n_s h
    obtain ⟨x, r, v, rfl, h1, rfl⟩ := e_i_s h9
    cases h1
    exact lv_i2l hx hb hd rfl (k ls hl)
  | i2b =>
    obtain ⟨rfl, rfl, h9⟩ := e_n_s h
    obtain ⟨x, r, v, rfl, h1, rfl⟩ := e_i_s h9
    cases h1
    exact lv_i2b hx hb hd rfl (k ls hl)
  | l2i =>
    obtain ⟨rfl, rfl, h9⟩ := e_n_s h
    obtain ⟨x, r, v, rfl, h1, rfl⟩ := e_l_s h9
    cases h1
    exact lv_l2i hx hb hd rfl (k ls hl)
  | lneg =>
    obtain ⟨rfl, rfl, h9⟩ := e_n_s h
    obtain ⟨x, r, v, rfl, h1, rfl⟩ := e_l_s h9
    cases h1
    exact lv_lneg hx hb hd (k ls hl)
  | ladd =>
    obtain ⟨rfl, rfl, h9⟩ := e_n_s h
    obtain ⟨x, y, r, v, rfl, h1, rfl⟩ := e_ll_s h9
    cases h1
    exact lv_ladd hx hb hd (k ls hl)
  | lsub =>
    obtain ⟨rfl, rfl, h9⟩ := e_n_s h
    obtain ⟨x, y, r, v, rfl, h1, rfl⟩ := e_ll_s h9
    cases h1
    exact lv_lsub hx hb hd (k ls hl)
  | lmul =>
    obtain ⟨rfl, rfl, h9⟩ := e_n_s h
    obtain ⟨x, y, r, v, rfl, h1, rfl⟩ := e_ll_s h9
    cases h1
    exact lv_lmul hx hb hd (k ls hl)
  | land =>
    obtain ⟨rfl, rfl, h9⟩ := e_n_s h
    obtain ⟨x, y, r, v, rfl, h1, rfl⟩ := e_ll_s h9
    cases h1
    exact lv_land hx hb hd (k ls hl)
  | lor =>
    obtain ⟨rfl, rfl, h9⟩ := e_n_s h
    obtain ⟨x, y, r, v, rfl, h1, rfl⟩ := e_ll_s h9
    cases h1
    exact lv_lor hx hb hd (k ls hl)
  | lxor =>
    obtain ⟨rfl, rfl, h9⟩ := e_n_s h
    obtain ⟨x, y, r, v, rfl, h1, rfl⟩ := e_ll_s h9
    cases h1
    exact lv_lxor hx hb hd (k ls hl)
  | lcmp =>
    obtain ⟨rfl, rfl, h9⟩ := e_n_s h
    obtain ⟨x, y, r, v, rfl, h1, rfl⟩ := e_ll_s h9
    cases h1
    exact W.lcmp hx hb hd (k ls hl)
  | ldiv =>
    obtain ⟨rfl, rfl, h9⟩ := e_n_s h
    obtain ⟨x, y, r, v, rfl, h1, rfl⟩ := e_ll_s h9
    by_cases hy : y = 0
    · rw [if_pos hy] at h1
      cases h1
    · rw [if_neg hy] at h1
      cases h1
      exact lv_ldiv hx hb hd hy (k ls hl)
  | lrem =>
    obtain ⟨rfl, rfl, h9⟩ := e_n_s h
    obtain ⟨x, y, r, v, rfl, h1, rfl⟩ := e_ll_s h9
    by_cases hy : y = 0
    · rw [if_pos hy] at h1
      cases h1
    · rw [if_neg hy] at h1
      cases h1
      exact lv_lrem hx hb hd hy (k ls hl)
  | lshl =>
    obtain ⟨rfl, rfl, h9⟩ := e_n_s h
    obtain ⟨x, y, r, v, rfl, h1, rfl⟩ := e_li_s h9
    cases h1
    exact lv_lshl hx hb hd rfl (k ls hl)
  | lshr =>
    obtain ⟨rfl, rfl, h9⟩ := e_n_s h
    obtain ⟨x, y, r, v, rfl, h1, rfl⟩ := e_li_s h9
    cases h1
    exact lv_lshr hx hb hd rfl (k ls hl)
  | lushr =>
    obtain ⟨rfl, rfl, h9⟩ := e_n_s h
    obtain ⟨x, y, r, v, rfl, h1, rfl⟩ := e_li_s h9
    cases h1
    exact lv_lushr hx hb hd rfl (k ls hl)
  | dup =>
    unfold e_s at h
    dsimp only at h
    split at h
    · rename_i v r
      by_cases hv : e_c1 v = true
      · rw [if_pos hv] at h
        cases h
        exact lv_dup hx hb hd (e_c1_s hv) (k ls hl)
      · rw [if_neg hv] at h
        cases h
    · cases h
  | pop =>
    unfold e_s at h
    dsimp only at h
    split at h
    · rename_i v r
      by_cases hv : e_c1 v = true
      · rw [if_pos hv] at h
        cases h
        exact lv_pop hx hb hd (e_c1_s hv) (k ls hl)
      · rw [if_neg hv] at h
        cases h
    · cases h
  | dup_x1 =>
    unfold e_s at h
    dsimp only at h
    split at h
    · rename_i v w r
      by_cases hv : e_c1 v = true ∧ e_c1 w = true
      · rw [if_pos hv] at h
        cases h
        exact lv_dup_x1 hx hb hd (e_c1_s hv.1) (e_c1_s hv.2) (k ls hl)
      · rw [if_neg hv] at h
        cases h
    · cases h
  | dup2 =>
    unfold e_s at h
    dsimp only at h
    split at h
    · cases h
      exact lv_dup2_2 hx hb hd rfl (k ls hl)
    · rename_i v w r _
      by_cases hv : e_c1 v = true ∧ e_c1 w = true
      · rw [if_pos hv] at h
        cases h
        exact lv_dup2_11 hx hb hd (e_c1_s hv.1) (e_c1_s hv.2) (k ls hl)
      · rw [if_neg hv] at h
        cases h
    · cases h
  | goto off =>
    obtain ⟨g, h1, rfl, rfl, rfl⟩ := e_jp_s h
    exact lv_goto hx hb hd h1 (k ls hl)
  | ifCond q off =>
    unfold e_s at h
    dsimp only at h
    split at h
    · obtain ⟨g, h1, rfl, rfl, rfl⟩ := e_jp_s h
      cases q with
      | eq => exact lv_if_eq hx hb hd h1 (fun c9 => by have c8 := k ls hl; rw [if_pos (by simp [e_cmp, c9])] at c8; exact c8) (fun c9 => by have c8 := k ls hl; rw [if_neg (by simp [e_cmp, c9])] at c8; exact c8)
      | ne => exact lv_if_ne hx hb hd h1 (fun c9 => by have c8 := k ls hl; rw [if_pos (by simp [e_cmp, c9])] at c8; exact c8) (fun c9 => by have c8 := k ls hl; rw [if_neg (by simp [e_cmp, c9])] at c8; exact c8)
      | lt => exact lv_if_lt hx hb hd h1 (fun c9 => by have c8 := k ls hl; rw [if_pos (by simp [e_cmp, c9])] at c8; exact c8) (fun c9 => by have c8 := k ls hl; rw [if_neg (by simp [e_cmp, c9])] at c8; exact c8)
      | ge => exact lv_if_ge hx hb hd h1 (fun c9 => by have c8 := k ls hl; rw [if_pos (by simp [e_cmp, c9])] at c8; exact c8) (fun c9 => by have c8 := k ls hl; rw [if_neg (by simp [e_cmp, c9])] at c8; exact c8)
      | gt => exact lv_if_gt hx hb hd h1 (fun c9 => by have c8 := k ls hl; rw [if_pos (by simp [e_cmp, c9])] at c8; exact c8) (fun c9 => by have c8 := k ls hl; rw [if_neg (by simp [e_cmp, c9])] at c8; exact c8)
      | le => exact lv_if_le hx hb hd h1 (fun c9 => by have c8 := k ls hl; rw [if_pos (by simp [e_cmp, c9])] at c8; exact c8) (fun c9 => by have c8 := k ls hl; rw [if_neg (by simp [e_cmp, c9])] at c8; exact c8)
    · cases h
  | if_icmp q off =>
    unfold e_s at h
    dsimp only at h
    split at h
    · obtain ⟨g, h1, rfl, rfl, rfl⟩ := e_jp_s h
      cases q with
      | eq => exact lv_icmp_eq hx hb hd h1 (fun c9 => by have c8 := k ls hl; rw [if_pos (by simp [e_cmp, c9])] at c8; exact c8) (fun c9 => by have c8 := k ls hl; rw [if_neg (by simp [e_cmp, c9])] at c8; exact c8)
      | ne => exact lv_icmp_ne hx hb hd h1 (fun c9 => by have c8 := k ls hl; rw [if_pos (by simp [e_cmp, c9])] at c8; exact c8) (fun c9 => by have c8 := k ls hl; rw [if_neg (by simp [e_cmp, c9])] at c8; exact c8)
      | lt => exact lv_icmp_lt hx hb hd h1 (fun c9 => by have c8 := k ls hl; rw [if_pos (by simp [e_cmp, c9])] at c8; exact c8) (fun c9 => by have c8 := k ls hl; rw [if_neg (by simp [e_cmp, c9])] at c8; exact c8)
      | ge => exact lv_icmp_ge hx hb hd h1 (fun c9 => by have c8 := k ls hl; rw [if_pos (by simp [e_cmp, c9])] at c8; exact c8) (fun c9 => by have c8 := k ls hl; rw [if_neg (by simp [e_cmp, c9])] at c8; exact c8)
      | gt => exact lv_icmp_gt hx hb hd h1 (fun c9 => by have c8 := k ls hl; rw [if_pos (by simp [e_cmp, c9])] at c8; exact c8) (fun c9 => by have c8 := k ls hl; rw [if_neg (by simp [e_cmp, c9])] at c8; exact c8)
      | le => exact lv_icmp_le hx hb hd h1 (fun c9 => by have c8 := k ls hl; rw [if_pos (by simp [e_cmp, c9])] at c8; exact c8) (fun c9 => by have c8 := k ls hl; rw [if_neg (by simp [e_cmp, c9])] at c8; exact c8)
    · cases h
  | ifnull off =>
    unfold e_s at h
    dsimp only at h
    split at h
    · obtain ⟨g, h1, rfl, rfl, rfl⟩ := e_jp_s h
      exact lv_ifnullN hx hb hd h1 (k ls hl)
    · obtain ⟨g, h1, rfl, rfl, rfl⟩ := e_jp_s h
      exact lv_ifnull hx hb hd (k ls hl)
    · cases h
  | ifnonnull off =>
    unfold e_s at h
    dsimp only at h
    split at h
    · obtain ⟨g, h1, rfl, rfl, rfl⟩ := e_jp_s h
      exact lv_ifnonnullN hx hb hd (k ls hl)
    · obtain ⟨g, h1, rfl, rfl, rfl⟩ := e_jp_s h
      exact lv_ifnonnull hx hb hd h1 (k ls hl)
    · cases h
  | tableswitch d lo hi offs =>
    unfold e_s at h
    dsimp only at h
    split at h
    · rename_i x r
      by_cases hc : x.toInt < lo ∨ hi < x.toInt
      · rw [if_pos hc] at h
        obtain ⟨g, h1, h2⟩ := Option.map_eq_some_iff.mp h
        cases h2
        exact lv_tableOut hx hb hd hc (e_tg_ok h1) (k ls hl)
      · rw [if_neg hc] at h
        split at h
        · rename_i off hoff
          obtain ⟨g, h1, h2⟩ := Option.map_eq_some_iff.mp h
          cases h2
          exact lv_tableIn hx hb hd (fun q => hc (Or.inl q)) (fun q => hc (Or.inr q)) hoff (e_tg_ok h1) (k ls hl)
        · cases h
    · cases h
  | lookupswitch d ps =>
    unfold e_s at h
    dsimp only at h
    split at h
    · rename_i x r
      by_cases hc : (ps.toList.zip (ps.toList.drop 1)).all (fun (a, next) => a.1 < next.1) = true
      · rw [if_pos hc] at h
        obtain ⟨g, h1, h2⟩ := Option.map_eq_some_iff.mp h
        cases h2
        exact lv_lookup hx hb hd hc rfl (e_tg_ok h1) (k ls hl)
      · rw [if_neg hc] at h
        cases h
    · cases h
  | _ =>
    have h0 : (none : Option e_FR) = some (pc', lv', stk') := h
    cases h0
end E_S
