/-! PART 14: the tables of part 13 say what the words say -/
def e_W0 : List Cond := lw_tbl.filter goodWord
def e_Z0 : List Cond := lw_tbl.filter e_z
theorem e_inW {w : Cond} (h : w ∈ lw_tbl) (hg : goodWord w = true) : w ∈ e_W0 := List.mem_filter.mpr ⟨h, hg⟩
theorem e_inZ {w : Cond} (h : w ∈ lw_tbl) (hg : e_z w = true) : w ∈ e_Z0 := List.mem_filter.mpr ⟨h, hg⟩
def e_Md : e_M := (objectInit, ⟨#[]⟩, 0, none, [], 0, 0)
def e_jm (j : Nat) : e_M := e_mtL.getD j e_Md
theorem e_jm_ok {j : Nat} {M : e_M} (h : e_mt j = some M) : e_jm j = M := by
  unfold e_jm e_mt at *
  rw [List.getD_eq_getElem?_getD, h]
  rfl
theorem e_mt_in {j : Nat} {M : e_M} (h : e_mt j = some M) : M ∈ e_mtL := List.mem_of_getElem? h
def e_bL : List UInt8 → List UInt8 → Bool
  | [], [] => true
  | x :: xs, y :: ys => x.toNat == y.toNat && e_bL xs ys
  | _, _ => false
theorem e_bL_ok : ∀ {a b : List UInt8}, e_bL a b = true → a = b
  | [], [], _ => rfl
  | [], _ :: _, h => by cases h
  | _ :: _, [], h => by cases h
  | x :: xs, y :: ys, h => by
    unfold e_bL at h
    rw [Bool.and_eq_true] at h
    have h1 : x.toNat = y.toNat := by simpa using h.1
    rw [e_bL_ok h.2, UInt8.toNat_inj.mp h1]
theorem e_bA {a b : ByteArray} (h : e_bL a.data.toList b.data.toList = true) : a = b := by
  have h1 := e_bL_ok h
  cases a
  cases b
  rw [ByteArray.mk.injEq]
  exact Array.toList_inj.mp h1
/-- two words of code alike, their bytes held against each other once, in a row -/
def e_bq : Cond → Cond → Bool
  | .code y c L r, .code y' c' L' r' => decide (y = y') && (decide (L = L') && (decide (r = r') && e_bL c.data.toList c'.data.toList))
  | .codeWith y c L r h, .codeWith y' c' L' r' h' => decide (y = y') && (decide (L = L') && (decide (r = r') && (decide (h = h') && e_bL c.data.toList c'.data.toList)))
  | _, _ => false
theorem e_bq_ok {w x : Cond} (h : e_bq w x = true) : w = x := by
  unfold e_bq at h
  split at h
  · simp only [Bool.and_eq_true, decide_eq_true_eq] at h
    obtain ⟨rfl, rfl, rfl, h⟩ := h
    rw [e_bA h]
  · simp only [Bool.and_eq_true, decide_eq_true_eq] at h
    obtain ⟨rfl, rfl, rfl, rfl, h⟩ := h
    rw [e_bA h]
  · cases h
def e_csub : List Cond → List Cond → Bool
  | [], _ => true
  | _ :: _, [] => false
  | w :: ws, x :: xs => if e_bq w x = true then e_csub ws xs else e_csub (w :: ws) xs
theorem e_csub_ok : ∀ {xs ws : List Cond}, e_csub ws xs = true → ∀ w ∈ ws, w ∈ xs
  | [], [], _, _, hw => by cases hw
  | [], _ :: _, h, _, _ => by simp [e_csub] at h
  | _ :: _, [], _, _, hw => by cases hw
  | x :: xs, w :: ws, h, z, hz => by
    unfold e_csub at h
    by_cases hwx : e_bq w x = true
    · rw [if_pos hwx] at h
      rcases List.mem_cons.mp hz with hz | hz
      · rw [hz, e_bq_ok hwx]; exact List.mem_cons_self
      · exact List.mem_cons_of_mem _ (e_csub_ok h z hz)
    · rw [if_neg hwx] at h
      exact List.mem_cons_of_mem _ (e_csub_ok h z hz)
/-! the sublists -/
set_option maxRecDepth 100000
def e_mL0 : List e_M := e_mV ++ e_mP
def e_mL1 : List e_M := e_mS ++ e_mI
theorem e_len0 : e_mL0.length = 641 := by decide +kernel
theorem e_lenS : e_mS.length = 61 := by decide +kernel
theorem e_s_code0 : e_csub (e_mV.map e_cw) tables_1 = true := by decide +kernel
theorem e_s_inst0 : e_isub (e_mV.map fun M => Cond.instanceMethod (e_my M)) tables_1 = true := by decide +kernel
theorem e_s_code1 : e_csub (e_mP.map e_cw) tables_1 = true := by decide +kernel
theorem e_s_inst1 : e_isub (e_mP.map fun M => Cond.instanceMethod (e_my M)) tables_1 = true := by decide +kernel
theorem e_s_code2 : e_csub (e_mS.map e_cw) tables_1 = true := by decide +kernel
theorem e_s_code3 : e_csub (e_mI.map e_cw) tables_1 = true := by decide +kernel
theorem e_s_inst3 : e_isub (e_mI.map fun M => Cond.instanceMethod (e_my M)) tables_1 = true := by decide +kernel
theorem e_s_selV : e_isub (e_mV.map fun M => Cond.selects (e_my M).cls (e_my M) (e_my M)) tables_1 = true := by decide +kernel
theorem e_s_selP : e_isub (e_mP.map fun M => Cond.selects (e_my M).cls (e_my M) (e_my M)) (k2_sels lw_privs) = true := by decide +kernel
theorem e_s_stat : e_isub (e_mS.map fun M => Cond.static (e_my M)) tables_1 = true := by decide +kernel
theorem e_s_mlW : e_isub (e_mlW.map fun x => Cond.methodLink (e_own x.1) x.2.1 (e_my (e_jm x.2.2.2))) tables_1 = true := by decide +kernel
theorem e_s_mlN : e_isub (e_mlN.map fun x => Cond.methodLinkNest (e_own x.1) x.2.1 (e_my (e_jm x.2.2.2.1)) x.2.2.2.2) tables_1 = true := by decide +kernel
theorem e_s_mlO : e_isub (e_mlO.map fun x => Cond.methodLink (e_own x.1) x.2 objectInit) tables_1 = true := by decide +kernel
theorem e_s_obj : e_csub [Cond.code objectInit ⟨#[0xb1]⟩ 1 none] tables_1 = true := by decide +kernel
theorem e_s_obi : e_isub [Cond.instanceMethod objectInit] tables_1 = true := by decide +kernel
def e_fT (ci k : Nat) : String × String × String × Bool := (e_cl.getD ci ("", e_T0, 0)).2.1 k
theorem e_s_flW : e_isub (e_flW.map fun x => Cond.fieldLink (e_own x.1) x.2.1 (e_fT x.2.2.1 x.2.2.2).1 (e_fT x.2.2.1 x.2.2.2).2.1 (e_fT x.2.2.1 x.2.2.2).2.2.1) tables_1 = true := by decide +kernel
theorem e_s_flN : e_isub (e_flN.map fun x => Cond.fieldLinkNest (e_own x.1) x.2.1 (e_fT x.2.2.1 x.2.2.2.1).1 (e_fT x.2.2.1 x.2.2.2.1).2.1 (e_fT x.2.2.1 x.2.2.2.1).2.2.1 x.2.2.2.2) tables_1 = true := by decide +kernel
theorem e_s_kI : e_isub (e_kIL.map fun x => Cond.constant (e_own x.1) x.2.1 x.2.2) tables_1 = true := by decide +kernel
theorem e_s_kL : e_isub (e_kLL.map fun x => Cond.constantLong (e_own x.1) x.2.1 x.2.2) tables_1 = true := by decide +kernel
def e_cC (ci : Nat) : String := (e_cl.getD ci ("", e_T0, 0)).1
theorem e_s_nl : e_isub (e_nlL.map fun x => Cond.classLink (e_own x.1) x.2.1 (e_cC x.2.2)) tables_1 = true := by decide +kernel
def e_inits : List String := ["TripleStore", "TripleStore$Terms", "TripleStore$Value", "TripleStore$Triples", "TripleStore$Rules", "TripleStore$Tokens", "TripleStore$Parser", "TripleStore$Rows", "TripleStore$Blocks", "TripleStore$Expressions", "TripleStore$Groups", "TripleStoreModel", "TripleStoreModel$Terms", "TripleStoreModel$Digits", "TripleStoreModel$Lexer", "TripleStoreModel$Tree", "TripleStoreModel$Store", "TripleStoreModel$Paths", "TripleStoreModel$Reader", "java/lang/Throwable", "java/lang/Exception", "java/lang/RuntimeException", "java/lang/IllegalStateException", "TripleStoreModel$Doer", "java/lang/Math", "java/lang/String", "java/lang/StringLatin1", "jdk/internal/util/Preconditions", "java/lang/StringUTF16", "java/lang/Integer", "java/util/Arrays", "TripleStore$Node", "java/lang/Long"]
theorem e_s_ini : e_isub (e_inits.map fun c => Cond.initialized c) tables_1 = true := by decide +kernel
theorem e_s_ats : e_isub ((e_ats.take 4).map fun t => Cond.arrayClass t) tables_1 = true := by decide +kernel
def e_hs : List (String × Nat × String) := [("TripleStoreModel$Reader", 9, "java/lang/IllegalStateException"), ("TripleStoreModel", 178, "java/lang/IllegalStateException")]
theorem e_s_hs : e_isub (e_hs.map fun h => Cond.classLink h.1 h.2.1 h.2.2) tables_1 = true := by decide +kernel
def e_hn : List String := ["java/lang/IllegalStateException"]
theorem e_s_hn : e_isub (e_hn.map fun n => Cond.castable e_eX n) tables_1 = true := by decide +kernel
theorem e_s_u1 : e_isub (u_ws "TripleStore" e_T1 18) tables_1 = true := by decide +kernel
theorem e_s_u2 : e_isub (u_ws "TripleStore$Terms" e_T2 17) tables_1 = true := by decide +kernel
theorem e_s_u3 : e_isub (u_ws "TripleStore$Value" e_T3 8) tables_1 = true := by decide +kernel
theorem e_s_u4 : e_isub (u_ws "TripleStore$Triples" e_T4 19) tables_1 = true := by decide +kernel
theorem e_s_u5 : e_isub (u_ws "TripleStore$Rules" e_T5 11) tables_1 = true := by decide +kernel
theorem e_s_u6 : e_isub (u_ws "TripleStore$Tokens" e_T6 21) tables_1 = true := by decide +kernel
theorem e_s_u7 : e_isub (u_ws "TripleStore$Parser" e_T7 22) tables_1 = true := by decide +kernel
theorem e_s_u8 : e_isub (u_ws "TripleStore$Rows" e_T8 16) tables_1 = true := by decide +kernel
theorem e_s_u9 : e_isub (u_ws "TripleStore$Blocks" e_T9 17) tables_1 = true := by decide +kernel
theorem e_s_u10 : e_isub (u_ws "TripleStore$Expressions" e_T10 9) tables_1 = true := by decide +kernel
theorem e_s_u11 : e_isub (u_ws "TripleStore$Groups" e_T11 6) tables_1 = true := by decide +kernel
theorem e_s_u12 : e_isub (u_ws "TripleStore$Node" e_T12 22) tables_1 = true := by decide +kernel
theorem e_s_u13 : e_isub (u_ws "TripleStoreModel" e_T13 30) tables_1 = true := by decide +kernel
theorem e_s_u14 : e_isub (u_ws "TripleStoreModel$Terms" e_T14 23) tables_1 = true := by decide +kernel
theorem e_s_u15 : e_isub (u_ws "TripleStoreModel$Digits" e_T15 9) tables_1 = true := by decide +kernel
theorem e_s_u16 : e_isub (u_ws "TripleStoreModel$Lexer" e_T16 14) tables_1 = true := by decide +kernel
theorem e_s_u17 : e_isub (u_ws "TripleStoreModel$Tree" e_T17 56) tables_1 = true := by decide +kernel
theorem e_s_u18 : e_isub (u_ws "TripleStoreModel$Store" e_T18 18) tables_1 = true := by decide +kernel
theorem e_s_u19 : e_isub (u_ws "TripleStoreModel$Paths" e_T19 10) tables_1 = true := by decide +kernel
theorem e_s_u20 : e_isub (u_ws "TripleStoreModel$Reader" e_T20 33) tables_1 = true := by decide +kernel
theorem e_s_u21 : e_isub (u_ws "TripleStoreModel$Doer" e_T21 23) tables_1 = true := by decide +kernel
