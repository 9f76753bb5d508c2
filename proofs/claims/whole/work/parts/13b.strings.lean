/-! STRINGS: length() and charAt() of the constants; new int[a][b] -/
theorem ax_w_idn {x : Int} (h : 0 ≤ x ∧ x < 1000) : ax_w x = x := by
  unfold ax_w
  exact Int.bmod_eq_of_le (by omega) (by omega)
theorem ax_G.at {cy : Nat → ClassId} {sa sv : Nat → Nat} {A B : Nat → Prop} {s U : State} {H : Heap} (h : ax_G cy sa sv A s s.heap) (hW : s.WarmedH U.vm) (hU : U.heap = H) (hH : ∀ q : Nat, q < s.heap.size → ¬ A q → H[q]? = s.heap[q]?) (hAB : ∀ q, B q → A q) : ax_G cy sa sv B U U.heap := by
  obtain ⟨h1, h2, h3, h4, h5, h6, h7⟩ := h
  rw [hU]
  exact ⟨((h1.moved hW.alike).kept hH).narrow hAB, fun k x hx => (h2 k x hx).warm hW, ((h3.moved hW.alike).kept hH).narrow hAB, fun a i b n d g hm => (h4 a i b n d g hm).warmF hW, fun a i x g hm => (h5 a i x g hm).warmM hW, h6.moved hW.alike, ((h7.moved hW.alike).kept hH).narrow hAB⟩
theorem ax_G.same {cy : Nat → ClassId} {sa sv : Nat → Nat} {A : Nat → Prop} {u U : State} (h : ax_G cy sa sv A u u.heap) (hv : U.vm = u.vm) (hh : U.heap = u.heap) : ax_G cy sa sv A U U.heap := by
  obtain ⟨h1, h2, h3, h4, h5, h6, h7⟩ := h
  have hal : u.vm.Alike U.vm := by rw [hv]; exact Vm.Alike.refl u.vm
  rw [hh]
  exact ⟨h1.moved hal, fun k x hx => (h2 k x hx).same hv, h3.moved hal, fun a i b n d g hm => (h4 a i b n d g hm).same rfl hv.symm, fun a i x g hm => (h5 a i x g hm).same rfl hv.symm, h6.moved hal, h7.moved hal⟩
/-- as Met.ofW, for a method whose class isn't plainly named but which no native takes -/
theorem ax_ofW {l : Launch} {y : MethodName} {ws ws' : List Cond} {rm : Room} {Pc : Array Value → State → Prop} {Qc : Array Value → State → Outcome → State → Prop} {mc ms : Nat} {free : Addr → Prop} {cc : ByteArray} {maxL : Nat} {ret : Option FieldType}
    (hy : plainFor y = true) (hw : ws = Cond.code y cc maxL ret :: ws')
    (body : ∀ p e s m args below meth c s₁, BodyLoose p l y (headSpec ws rm) cc maxL ret e s m args below meth c s₁ → c.maxLocals = maxL → Pc args s →
      W p l e (headSpec ws rm).room s m args below meth c s.heap [] 0 0 (MQ below Qc args s mc ms free) (entryFrame m args maxL)) : Met l y ws rm Pc Qc mc ms free := by
  refine MetFree.of_bodySF (code := cc) (maxLocals := maxL) (ret := ret) hy ?_ ?_
  · intro args s m h hn
    obtain ⟨meth, c, h1, h2, h3, h4, h5, h6, -, -⟩ := Cond.code_spec hn (atoms_spec (ws := ws) h _ (by rw [hw]; exact List.mem_cons_self))
    exact ⟨meth, c, h1, h2, h3, h4, h5, h6⟩
  · intro p e s m args below meth c s₁ B hml hP _
    have hh0 : s₁.heap = s.heap := by rw [B.state]; rfl
    obtain ⟨t, a1, o, b1, b2, b3⟩ := body p e s m args below meth c s₁ B hml hP s₁ hh0 (Stand.of_body B)
    exact ⟨t, o, a1, b1, b2, ⟨b3.1, b3.2⟩⟩
theorem ax_ok9 : ax_all (fun _ (r : Nat × Nat × Bool) => Nat.blt r.2.1 9000 || !r.2.2) ax_mrT = true := by decide +kernel
theorem ax_own9 {own k m : Nat} {nest : Bool} (h : ax_mr own k = some (m, nest)) (hm : 9000 ≤ m) : nest = false := by
  have h1 := ax_all_at ax_ok9 (ax_lk h)
  simp only [Bool.or_eq_true, Nat.blt_eq, Bool.not_eq_true'] at h1
  rcases h1 with q | q
  · omega
  · exact q
theorem ax_tm {w : Cond} (h : w ∈ tables_1) (hg : goodWord w = true) : w ∈ ax_tb := List.mem_filter.mpr ⟨List.mem_append_right _ h, hg⟩
theorem ax_gi {w : Cond} (h : w ∈ ax_tb) : GoodIn ax_tb (w :: ax_tb) := by
  intro v hv
  have h : v ∈ ax_tb := by
    rcases List.mem_cons.mp hv with rfl | h
    · assumption
    · exact h
  exact ⟨h, good_of_word (List.mem_filter.mp h).2⟩
def ax_q_len : MethodName := ax_strl
def ax_qc_len : Cond := .code ax_q_len prog_17_method_54_code 1 (some .int)
set_option maxRecDepth 100000 in
theorem ax_qm_len : ax_qc_len ∈ ax_tb := ax_tm (List.mem_append_right _ (List.mem_append_right _ (List.mem_append_left _ (List.mem_of_getElem? (i := 0) rfl)))) rfl
set_option maxRecDepth 100000 in
theorem ax_qi_len : Cond.instanceMethod ax_q_len ∈ ax_tb := ax_tm (List.mem_append_right _ (List.mem_append_left _ (List.mem_of_getElem? (i := 238) rfl))) rfl
set_option maxRecDepth 100000 in
theorem ax_qs_len : Cond.selects "java/lang/String" ax_q_len ax_q_len ∈ ax_tb := ax_tm (List.mem_append_right _ (List.mem_append_left _ (List.mem_of_getElem? (i := 239) rfl))) rfl
def ax_q_cod : MethodName := ⟨"java/lang/String", "coder", "()B"⟩
def ax_qc_cod : Cond := .code ax_q_cod prog_17_method_152_code 1 (some .byte)
set_option maxRecDepth 100000 in
theorem ax_qm_cod : ax_qc_cod ∈ ax_tb := ax_tm (List.mem_append_right _ (List.mem_append_right _ (List.mem_append_left _ (List.mem_of_getElem? (i := 4) rfl)))) rfl
set_option maxRecDepth 100000 in
theorem ax_qi_cod : Cond.instanceMethod ax_q_cod ∈ ax_tb := ax_tm (List.mem_append_right _ (List.mem_append_right _ (List.mem_append_left _ (List.mem_of_getElem? (i := 2) rfl)))) rfl
set_option maxRecDepth 100000 in
theorem ax_qs_cod : Cond.selects "java/lang/String" ax_q_cod ax_q_cod ∈ ax_tb := ax_tm (List.mem_append_right _ (List.mem_append_right _ (List.mem_append_left _ (List.mem_of_getElem? (i := 3) rfl)))) rfl
def ax_q_chr : MethodName := ax_strc
def ax_qc_chr : Cond := .code ax_q_chr prog_17_method_56_code 2 (some .char)
set_option maxRecDepth 100000 in
theorem ax_qm_chr : ax_qc_chr ∈ ax_tb := ax_tm (List.mem_append_right _ (List.mem_append_right _ (List.mem_append_left _ (List.mem_of_getElem? (i := 14) rfl)))) rfl
set_option maxRecDepth 100000 in
theorem ax_qi_chr : Cond.instanceMethod ax_q_chr ∈ ax_tb := ax_tm (List.mem_append_right _ (List.mem_append_right _ (List.mem_append_left _ (List.mem_of_getElem? (i := 12) rfl)))) rfl
set_option maxRecDepth 100000 in
theorem ax_qs_chr : Cond.selects "java/lang/String" ax_q_chr ax_q_chr ∈ ax_tb := ax_tm (List.mem_append_right _ (List.mem_append_right _ (List.mem_append_left _ (List.mem_of_getElem? (i := 13) rfl)))) rfl
def ax_q_lat : MethodName := ⟨"java/lang/String", "isLatin1", "()Z"⟩
def ax_qc_lat : Cond := .code ax_q_lat prog_17_method_154_code 1 (some .boolean)
set_option maxRecDepth 100000 in
theorem ax_qm_lat : ax_qc_lat ∈ ax_tb := ax_tm (List.mem_append_right _ (List.mem_append_right _ (List.mem_append_left _ (List.mem_of_getElem? (i := 18) rfl)))) rfl
set_option maxRecDepth 100000 in
theorem ax_qi_lat : Cond.instanceMethod ax_q_lat ∈ ax_tb := ax_tm (List.mem_append_right _ (List.mem_append_right _ (List.mem_append_left _ (List.mem_of_getElem? (i := 16) rfl)))) rfl
set_option maxRecDepth 100000 in
theorem ax_qs_lat : Cond.selects "java/lang/String" ax_q_lat ax_q_lat ∈ ax_tb := ax_tm (List.mem_append_right _ (List.mem_append_right _ (List.mem_append_left _ (List.mem_of_getElem? (i := 17) rfl)))) rfl
def ax_q_scr : MethodName := ⟨"java/lang/StringLatin1", "charAt", "([BI)C"⟩
def ax_qc_scr : Cond := .code ax_q_scr prog_18_method_2_code 2 (some .char)
set_option maxRecDepth 100000 in
theorem ax_qm_scr : ax_qc_scr ∈ ax_tb := ax_tm (List.mem_append_right _ (List.mem_append_right _ (List.mem_append_left _ (List.mem_of_getElem? (i := 21) rfl)))) rfl
set_option maxRecDepth 100000 in
theorem ax_qt_scr : Cond.static ax_q_scr ∈ ax_tb := ax_tm (List.mem_append_right _ (List.mem_append_right _ (List.mem_append_left _ (List.mem_of_getElem? (i := 20) rfl)))) rfl
def ax_q_chk : MethodName := ⟨"java/lang/String", "checkIndex", "(II)V"⟩
def ax_qc_chk : Cond := .code ax_q_chk prog_17_method_155_code 2 (none)
set_option maxRecDepth 100000 in
theorem ax_qm_chk : ax_qc_chk ∈ ax_tb := ax_tm (List.mem_append_right _ (List.mem_append_right _ (List.mem_append_left _ (List.mem_of_getElem? (i := 24) rfl)))) rfl
set_option maxRecDepth 100000 in
theorem ax_qt_chk : Cond.static ax_q_chk ∈ ax_tb := ax_tm (List.mem_append_right _ (List.mem_append_right _ (List.mem_append_left _ (List.mem_of_getElem? (i := 23) rfl)))) rfl
def ax_q_pre : MethodName := ⟨"jdk/internal/util/Preconditions", "checkIndex", "(IILjava/util/function/BiFunction;)I"⟩
def ax_qc_pre : Cond := .code ax_q_pre prog_22_method_11_code 3 (some .int)
set_option maxRecDepth 100000 in
theorem ax_qm_pre : ax_qc_pre ∈ ax_tb := ax_tm (List.mem_append_right _ (List.mem_append_right _ (List.mem_append_left _ (List.mem_of_getElem? (i := 29) rfl)))) rfl
set_option maxRecDepth 100000 in
theorem ax_qt_pre : Cond.static ax_q_pre ∈ ax_tb := ax_tm (List.mem_append_right _ (List.mem_append_right _ (List.mem_append_left _ (List.mem_of_getElem? (i := 28) rfl)))) rfl
set_option maxRecDepth 100000 in
theorem ax_ql_cod : Cond.methodLink "java/lang/String" 335 ax_q_cod ∈ ax_tb := ax_tm (List.mem_append_right _ (List.mem_append_right _ (List.mem_append_left _ (List.mem_of_getElem? (i := 1) rfl)))) rfl
set_option maxRecDepth 100000 in
theorem ax_ql_lat : Cond.methodLink "java/lang/String" 492 ax_q_lat ∈ ax_tb := ax_tm (List.mem_append_right _ (List.mem_append_right _ (List.mem_append_left _ (List.mem_of_getElem? (i := 15) rfl)))) rfl
set_option maxRecDepth 100000 in
theorem ax_ql_scr : Cond.methodLink "java/lang/String" 495 ax_q_scr ∈ ax_tb := ax_tm (List.mem_append_right _ (List.mem_append_right _ (List.mem_append_left _ (List.mem_of_getElem? (i := 19) rfl)))) rfl
set_option maxRecDepth 100000 in
theorem ax_ql_chk : Cond.methodLink "java/lang/StringLatin1" 9 ax_q_chk ∈ ax_tb := ax_tm (List.mem_append_right _ (List.mem_append_right _ (List.mem_append_left _ (List.mem_of_getElem? (i := 22) rfl)))) rfl
set_option maxRecDepth 100000 in
theorem ax_ql_pre : Cond.methodLink "java/lang/String" 1059 ax_q_pre ∈ ax_tb := ax_tm (List.mem_append_right _ (List.mem_append_right _ (List.mem_append_left _ (List.mem_of_getElem? (i := 27) rfl)))) rfl
set_option maxRecDepth 100000 in
theorem ax_qf_com : Cond.fieldLink "java/lang/String" 38 "java/lang/String" "COMPACT_STRINGS" "Z" ∈ ax_tb := ax_tm (List.mem_append_right _ (List.mem_append_right _ (List.mem_append_left _ (List.mem_of_getElem? (i := 5) rfl)))) rfl
set_option maxRecDepth 100000 in
theorem ax_qf_for : Cond.fieldLink "java/lang/String" 1053 "jdk/internal/util/Preconditions" "SIOOBE_FORMATTER" "Ljava/util/function/BiFunction;" ∈ ax_tb := ax_tm (List.mem_append_right _ (List.mem_append_right _ (List.mem_append_left _ (List.mem_of_getElem? (i := 25) rfl)))) rfl
set_option maxRecDepth 100000 in
theorem ax_qf_val : Cond.fieldLink "java/lang/String" 9 "java/lang/String" "value" "[B" ∈ ax_tb := ax_tm (List.mem_append_right _ (List.mem_append_right _ (List.mem_append_right _ (List.mem_append_right _ (List.mem_append_right _ (List.mem_append_right _ (List.mem_append_right _ (List.mem_append_right _ (List.mem_append_right _ (List.mem_of_getElem? (i := 10) rfl)))))))))) rfl
set_option maxRecDepth 100000 in
theorem ax_qf_cod : Cond.fieldLink "java/lang/String" 15 "java/lang/String" "coder" "B" ∈ ax_tb := ax_tm (List.mem_append_right _ (List.mem_append_right _ (List.mem_append_right _ (List.mem_append_right _ (List.mem_append_right _ (List.mem_append_right _ (List.mem_append_right _ (List.mem_append_right _ (List.mem_append_right _ (List.mem_of_getElem? (i := 11) rfl)))))))))) rfl
set_option maxRecDepth 100000 in
theorem ax_qw_wal : Cond.classLink "TurnedBoards$Wall" 20 "[[I" ∈ ax_tb := ax_tm (List.mem_append_left _ (List.mem_of_getElem? (i := 174) rfl)) rfl
set_option maxRecDepth 100000 in
theorem ax_qn_str : Cond.initialized "java/lang/String" ∈ ax_tb := ax_tm (List.mem_append_left _ (List.mem_of_getElem? (i := 15) rfl)) rfl
set_option maxRecDepth 100000 in
theorem ax_qn_lat : Cond.initialized "java/lang/StringLatin1" ∈ ax_tb := ax_tm (List.mem_append_left _ (List.mem_of_getElem? (i := 16) rfl)) rfl
set_option maxRecDepth 100000 in
theorem ax_qn_pre : Cond.initialized "jdk/internal/util/Preconditions" ∈ ax_tb := ax_tm (List.mem_append_left _ (List.mem_of_getElem? (i := 17) rfl)) rfl
theorem ax_qd_len_0 : decode prog_17_method_54_code 0 = .ok (.aload_n 0, 1) := by decide +kernel
theorem ax_qd_len_1 : decode prog_17_method_54_code 1 = .ok (.getfield 9, 3) := by decide +kernel
theorem ax_qd_len_4 : decode prog_17_method_54_code 4 = .ok (.arraylength, 1) := by decide +kernel
theorem ax_qd_len_5 : decode prog_17_method_54_code 5 = .ok (.aload_n 0, 1) := by decide +kernel
theorem ax_qd_len_6 : decode prog_17_method_54_code 6 = .ok (.invokevirtual 335, 3) := by decide +kernel
theorem ax_qd_len_9 : decode prog_17_method_54_code 9 = .ok (.ishr, 1) := by decide +kernel
theorem ax_qd_len_10 : decode prog_17_method_54_code 10 = .ok (.ireturn, 1) := by decide +kernel
theorem ax_qd_cod_0 : decode prog_17_method_152_code 0 = .ok (.getstatic 38, 3) := by decide +kernel
theorem ax_qd_cod_3 : decode prog_17_method_152_code 3 = .ok (.ifCond .eq 10, 3) := by decide +kernel
theorem ax_qd_cod_6 : decode prog_17_method_152_code 6 = .ok (.aload_n 0, 1) := by decide +kernel
theorem ax_qd_cod_7 : decode prog_17_method_152_code 7 = .ok (.getfield 15, 3) := by decide +kernel
theorem ax_qd_cod_10 : decode prog_17_method_152_code 10 = .ok (.goto 4, 3) := by decide +kernel
theorem ax_qd_cod_14 : decode prog_17_method_152_code 14 = .ok (.ireturn, 1) := by decide +kernel
theorem ax_qd_chr_0 : decode prog_17_method_56_code 0 = .ok (.aload_n 0, 1) := by decide +kernel
theorem ax_qd_chr_1 : decode prog_17_method_56_code 1 = .ok (.invokevirtual 492, 3) := by decide +kernel
theorem ax_qd_chr_4 : decode prog_17_method_56_code 4 = .ok (.ifCond .eq 12, 3) := by decide +kernel
theorem ax_qd_chr_7 : decode prog_17_method_56_code 7 = .ok (.aload_n 0, 1) := by decide +kernel
theorem ax_qd_chr_8 : decode prog_17_method_56_code 8 = .ok (.getfield 9, 3) := by decide +kernel
theorem ax_qd_chr_11 : decode prog_17_method_56_code 11 = .ok (.iload_n 1, 1) := by decide +kernel
theorem ax_qd_chr_12 : decode prog_17_method_56_code 12 = .ok (.invokestatic 495, 3) := by decide +kernel
theorem ax_qd_chr_15 : decode prog_17_method_56_code 15 = .ok (.ireturn, 1) := by decide +kernel
theorem ax_qd_lat_0 : decode prog_17_method_154_code 0 = .ok (.getstatic 38, 3) := by decide +kernel
theorem ax_qd_lat_3 : decode prog_17_method_154_code 3 = .ok (.ifCond .eq 14, 3) := by decide +kernel
theorem ax_qd_lat_6 : decode prog_17_method_154_code 6 = .ok (.aload_n 0, 1) := by decide +kernel
theorem ax_qd_lat_7 : decode prog_17_method_154_code 7 = .ok (.getfield 15, 3) := by decide +kernel
theorem ax_qd_lat_10 : decode prog_17_method_154_code 10 = .ok (.ifCond .ne 7, 3) := by decide +kernel
theorem ax_qd_lat_13 : decode prog_17_method_154_code 13 = .ok (.iconst 1, 1) := by decide +kernel
theorem ax_qd_lat_14 : decode prog_17_method_154_code 14 = .ok (.goto 4, 3) := by decide +kernel
theorem ax_qd_lat_18 : decode prog_17_method_154_code 18 = .ok (.ireturn, 1) := by decide +kernel
theorem ax_qd_scr_0 : decode prog_18_method_2_code 0 = .ok (.iload_n 1, 1) := by decide +kernel
theorem ax_qd_scr_1 : decode prog_18_method_2_code 1 = .ok (.aload_n 0, 1) := by decide +kernel
theorem ax_qd_scr_2 : decode prog_18_method_2_code 2 = .ok (.arraylength, 1) := by decide +kernel
theorem ax_qd_scr_3 : decode prog_18_method_2_code 3 = .ok (.invokestatic 9, 3) := by decide +kernel
theorem ax_qd_scr_6 : decode prog_18_method_2_code 6 = .ok (.aload_n 0, 1) := by decide +kernel
theorem ax_qd_scr_7 : decode prog_18_method_2_code 7 = .ok (.iload_n 1, 1) := by decide +kernel
theorem ax_qd_scr_8 : decode prog_18_method_2_code 8 = .ok (.baload, 1) := by decide +kernel
theorem ax_qd_scr_9 : decode prog_18_method_2_code 9 = .ok (.sipush 255, 3) := by decide +kernel
theorem ax_qd_scr_12 : decode prog_18_method_2_code 12 = .ok (.iand, 1) := by decide +kernel
theorem ax_qd_scr_13 : decode prog_18_method_2_code 13 = .ok (.i2c, 1) := by decide +kernel
theorem ax_qd_scr_14 : decode prog_18_method_2_code 14 = .ok (.ireturn, 1) := by decide +kernel
theorem ax_qd_chk_0 : decode prog_17_method_155_code 0 = .ok (.iload_n 0, 1) := by decide +kernel
theorem ax_qd_chk_1 : decode prog_17_method_155_code 1 = .ok (.iload_n 1, 1) := by decide +kernel
theorem ax_qd_chk_2 : decode prog_17_method_155_code 2 = .ok (.getstatic 1053, 3) := by decide +kernel
theorem ax_qd_chk_5 : decode prog_17_method_155_code 5 = .ok (.invokestatic 1059, 3) := by decide +kernel
theorem ax_qd_chk_8 : decode prog_17_method_155_code 8 = .ok (.pop, 1) := by decide +kernel
theorem ax_qd_chk_9 : decode prog_17_method_155_code 9 = .ok (.return_, 1) := by decide +kernel
theorem ax_qd_pre_0 : decode prog_22_method_11_code 0 = .ok (.iload_n 0, 1) := by decide +kernel
theorem ax_qd_pre_1 : decode prog_22_method_11_code 1 = .ok (.ifCond .lt 8, 3) := by decide +kernel
theorem ax_qd_pre_4 : decode prog_22_method_11_code 4 = .ok (.iload_n 0, 1) := by decide +kernel
theorem ax_qd_pre_5 : decode prog_22_method_11_code 5 = .ok (.iload_n 1, 1) := by decide +kernel
theorem ax_qd_pre_6 : decode prog_22_method_11_code 6 = .ok (.if_icmp .lt 10, 3) := by decide +kernel
theorem ax_qd_pre_16 : decode prog_22_method_11_code 16 = .ok (.iload_n 0, 1) := by decide +kernel
theorem ax_qd_pre_17 : decode prog_22_method_11_code 17 = .ok (.ireturn, 1) := by decide +kernel
def ax_rs (d : Nat) : Room := { frames := d, cells := 0, slots := 0, locals := 64 * d }
def ax_PS (cy : Nat → ClassId) (sa sv : Nat → Nat) (av : List Value) (sz : Nat) : Array Value → State → Prop := va_Pc av (fun U => U.heap.size = sz ∧ ax_G cy sa sv (fun q => sz ≤ q) U U.heap)
def ax_QS (x : Int32) (sz : Nat) : Array Value → State → Outcome → State → Prop := va_Qi (fun r (_ : Unit) => r = x) (fun _ _ => True) (fun q => sz ≤ q)
theorem ax_blS (cy : Nat → ClassId) (sa sv : Nat → Nat) (av : List Value) (sz : Nat) : FrameBlind (ax_PS cy sa sv av sz) := by
  intro a U g mk q
  obtain ⟨q0, q1, qG⟩ := q
  exact ⟨q0, q1, qG.same rfl rfl⟩
def ax_ln (i : Nat) : Nat := (ax_sb.map List.length).getD i 0
def ax_by (i j : Nat) : Int32 := ((ax_sb.map (fun l => l.map (fun n => Int32.ofNat n))).getD i []).getD j 0
theorem ax_ln_ok : ∀ i, i < 35 → (Int32.ofNat (ax_ln i) >>> ((0 : Int32) &&& 31) = Int32.ofInt (ax_sl i : Nat) ∧ ax_ln i = ax_sl i ∧ ax_ln i < 1000) := by decide +kernel
theorem ax_by_ok : ∀ i, i < 35 → ∀ j, j < ax_sl i → (((ax_by i j &&& 255).toUInt32 % 65536).toInt32 = Int32.ofInt (ax_sc i j) ∧ narrow .char (.int (Int32.ofInt (ax_sc i j))) = .int (Int32.ofInt (ax_sc i j))) := by decide +kernel
set_option maxHeartbeats 4000000 in
theorem ax_m_pre0 {l : Launch} {cy : Nat → ClassId} {sa sv : Nat → Nat} {sz t : Nat} {x y : Int32} (h0 : ¬ x < 0) (h1 : x < y) : Met l ax_q_pre (ax_qc_pre :: ax_tb) (ax_rs 1) (ax_PS cy sa sv [.int x, .int y, .null] sz) (ax_QS x sz) 0 0 (fun q => sz ≤ q) := by
  refine ax_ofW (cc := prog_22_method_11_code) (maxL := 3) (ret := some .int) (by decide) rfl ?_
  intro p e s0 mm args below meth c s₁ B hml hv
  obtain ⟨rfl, hsz, hG⟩ := hv
  subst hsz
  have hts0 := atoms_spec (ws := ax_qc_pre :: ax_tb) B.pre
  have hts : ∀ w ∈ ax_tb, w.before ([.int x, .int y, .null] : List Value).toArray s0 = true := fun w hw => hts0 w (List.mem_cons_of_mem _ hw)
  have hx := B.exec
  have hb := B.bytes
  have hr := B.returns
  have hlk := B.notSynchronized
  have hown : s0.vm.findClass "jdk/internal/util/Preconditions" = some mm.cls := findClass_of_methodNamed B.named
  have hS : va_S (fun q => s0.heap.size ≤ q) s0.heap s0.heap [] := va_S.rf
  have hl := lv_entry ([.int x, .int y, .null]) (n := 3) (Nat.le_of_ble_eq_true rfl)
  rw [lg_entry_eq]
  generalize (lg_sl ([.int x, .int y, .null]) ++ List.replicate (3 - (lg_sl ([.int x, .int y, .null])).length) Slot.unset).toArray = ls at hl ⊢
  have hl : lv_has ls 3 [(0, .int x), (1, .int y), (2, .null)] := hl
  refine lv_iload_n hx hb ax_qd_pre_0 rfl (lv_at hl 0 rfl) ?_
  refine lv_if_lt hx hb ax_qd_pre_1 (tgt := 9) (by decide) (fun q => absurd q h0) (fun _ => ?_)
  refine lv_iload_n hx hb ax_qd_pre_4 rfl (lv_at hl 0 rfl) ?_
  refine lv_iload_n hx hb ax_qd_pre_5 rfl (lv_at hl 1 rfl) ?_
  refine lv_icmp_lt hx hb ax_qd_pre_6 (tgt := 16) (by decide) (fun _ => ?_) (fun q => absurd h1 q)
  refine lv_iload_n hx hb ax_qd_pre_16 rfl (lv_at hl 0 rfl) ?_
  exact W.iret hx hb hr (fun t ht hW => ⟨⟨_, (), rfl, rfl, trivial⟩, hS.F ht⟩) hS.2.2 ax_qd_pre_17
set_option maxHeartbeats 4000000 in
theorem ax_m_pre1 {l : Launch} {cy : Nat → ClassId} {sa sv : Nat → Nat} {sz t : Nat} {x y : Int32} (h0 : ¬ x < 0) (h1 : x < y) : Met l ax_q_pre (ax_qc_pre :: ax_tb) (ax_rs 1) (ax_PS cy sa sv [.int x, .int y, .ref t] sz) (ax_QS x sz) 0 0 (fun q => sz ≤ q) := by
  refine ax_ofW (cc := prog_22_method_11_code) (maxL := 3) (ret := some .int) (by decide) rfl ?_
  intro p e s0 mm args below meth c s₁ B hml hv
  obtain ⟨rfl, hsz, hG⟩ := hv
  subst hsz
  have hts0 := atoms_spec (ws := ax_qc_pre :: ax_tb) B.pre
  have hts : ∀ w ∈ ax_tb, w.before ([.int x, .int y, .ref t] : List Value).toArray s0 = true := fun w hw => hts0 w (List.mem_cons_of_mem _ hw)
  have hx := B.exec
  have hb := B.bytes
  have hr := B.returns
  have hlk := B.notSynchronized
  have hown : s0.vm.findClass "jdk/internal/util/Preconditions" = some mm.cls := findClass_of_methodNamed B.named
  have hS : va_S (fun q => s0.heap.size ≤ q) s0.heap s0.heap [] := va_S.rf
  have hl := lv_entry ([.int x, .int y, .ref t]) (n := 3) (Nat.le_of_ble_eq_true rfl)
  rw [lg_entry_eq]
  generalize (lg_sl ([.int x, .int y, .ref t]) ++ List.replicate (3 - (lg_sl ([.int x, .int y, .ref t])).length) Slot.unset).toArray = ls at hl ⊢
  have hl : lv_has ls 3 [(0, .int x), (1, .int y), (2, .ref t)] := hl
  refine lv_iload_n hx hb ax_qd_pre_0 rfl (lv_at hl 0 rfl) ?_
  refine lv_if_lt hx hb ax_qd_pre_1 (tgt := 9) (by decide) (fun q => absurd q h0) (fun _ => ?_)
  refine lv_iload_n hx hb ax_qd_pre_4 rfl (lv_at hl 0 rfl) ?_
  refine lv_iload_n hx hb ax_qd_pre_5 rfl (lv_at hl 1 rfl) ?_
  refine lv_icmp_lt hx hb ax_qd_pre_6 (tgt := 16) (by decide) (fun _ => ?_) (fun q => absurd h1 q)
  refine lv_iload_n hx hb ax_qd_pre_16 rfl (lv_at hl 0 rfl) ?_
  exact W.iret hx hb hr (fun t ht hW => ⟨⟨_, (), rfl, rfl, trivial⟩, hS.F ht⟩) hS.2.2 ax_qd_pre_17
theorem ax_m_pre {l : Launch} {cy : Nat → ClassId} {sa sv : Nat → Nat} {sz : Nat} {x y : Int32} {z : Value} (h0 : ¬ x < 0) (h1 : x < y) (hz : ∃ o, z = va_rf o) : Met l ax_q_pre (ax_qc_pre :: ax_tb) (ax_rs 1) (ax_PS cy sa sv [.int x, .int y, z] sz) (ax_QS x sz) 0 0 (fun q => sz ≤ q) := by
  obtain ⟨o, rfl⟩ := hz
  cases o with
  | none => exact ax_m_pre0 (t := 0) h0 h1
  | some t => exact ax_m_pre1 h0 h1
set_option maxHeartbeats 4000000 in
theorem ax_m_cod {l : Launch} {cy : Nat → ClassId} {sa sv : Nat → Nat} {sz i : Nat} (hi : i < 35) : Met l ax_q_cod (ax_qc_cod :: ax_tb) (ax_rs 1) (ax_PS cy sa sv [.ref (sa i)] sz) (ax_QS 0 sz) 0 0 (fun q => sz ≤ q) := by
  refine ax_ofW (cc := prog_17_method_152_code) (maxL := 1) (ret := some .byte) (by decide) rfl ?_
  intro p e s0 mm args below meth c s₁ B hml hv
  obtain ⟨rfl, hsz, hG⟩ := hv
  subst hsz
  have hts0 := atoms_spec (ws := ax_qc_cod :: ax_tb) B.pre
  have hts : ∀ w ∈ ax_tb, w.before ([.ref (sa i)] : List Value).toArray s0 = true := fun w hw => hts0 w (List.mem_cons_of_mem _ hw)
  have hx := B.exec
  have hb := B.bytes
  have hr := B.returns
  have hlk := B.notSynchronized
  have hown : s0.vm.findClass "java/lang/String" = some mm.cls := findClass_of_methodNamed B.named
  have hS : va_S (fun q => s0.heap.size ≤ q) s0.heap s0.heap [] := va_S.rf
  have hl := lv_entry ([.ref (sa i)]) (n := 1) (Nat.le_of_ble_eq_true rfl)
  rw [lg_entry_eq]
  generalize (lg_sl ([.ref (sa i)]) ++ List.replicate (1 - (lg_sl ([.ref (sa i)])).length) Slot.unset).toArray = ls at hl ⊢
  have hl : lv_has ls 1 [(0, .ref (sa i))] := hl
  refine va_gets hx hb hG.2.2.1 hS hown (hts _ ax_qf_com) (fun _ h => h) ax_qd_cod_0 ?_
  refine lv_if_eq hx hb ax_qd_cod_3 (tgt := 13) (by decide) (fun q => absurd q (by decide)) (fun _ => ?_)
  refine lv_aload_n hx hb ax_qd_cod_6 rfl (lv_at hl 0 rfl) ?_
  refine vk_getf hx hb (hG.1.1 i hi).2.1 hS hown (hts _ ax_qf_cod) (fun _ h => h) ax_qd_cod_7 ?_
  refine lv_goto hx hb ax_qd_cod_10 (tgt := 14) (by decide) ?_
  exact W.zret hx hb hr (by decide +kernel) (fun t ht hW => ⟨⟨_, (), rfl, rfl, trivial⟩, hS.F ht⟩) hS.2.2 ax_qd_cod_14
set_option maxHeartbeats 4000000 in
theorem ax_m_lat {l : Launch} {cy : Nat → ClassId} {sa sv : Nat → Nat} {sz i : Nat} (hi : i < 35) : Met l ax_q_lat (ax_qc_lat :: ax_tb) (ax_rs 1) (ax_PS cy sa sv [.ref (sa i)] sz) (ax_QS 1 sz) 0 0 (fun q => sz ≤ q) := by
  refine ax_ofW (cc := prog_17_method_154_code) (maxL := 1) (ret := some .boolean) (by decide) rfl ?_
  intro p e s0 mm args below meth c s₁ B hml hv
  obtain ⟨rfl, hsz, hG⟩ := hv
  subst hsz
  have hts0 := atoms_spec (ws := ax_qc_lat :: ax_tb) B.pre
  have hts : ∀ w ∈ ax_tb, w.before ([.ref (sa i)] : List Value).toArray s0 = true := fun w hw => hts0 w (List.mem_cons_of_mem _ hw)
  have hx := B.exec
  have hb := B.bytes
  have hr := B.returns
  have hlk := B.notSynchronized
  have hown : s0.vm.findClass "java/lang/String" = some mm.cls := findClass_of_methodNamed B.named
  have hS : va_S (fun q => s0.heap.size ≤ q) s0.heap s0.heap [] := va_S.rf
  have hl := lv_entry ([.ref (sa i)]) (n := 1) (Nat.le_of_ble_eq_true rfl)
  rw [lg_entry_eq]
  generalize (lg_sl ([.ref (sa i)]) ++ List.replicate (1 - (lg_sl ([.ref (sa i)])).length) Slot.unset).toArray = ls at hl ⊢
  have hl : lv_has ls 1 [(0, .ref (sa i))] := hl
  refine va_gets hx hb hG.2.2.1 hS hown (hts _ ax_qf_com) (fun _ h => h) ax_qd_lat_0 ?_
  refine lv_if_eq hx hb ax_qd_lat_3 (tgt := 17) (by decide) (fun q => absurd q (by decide)) (fun _ => ?_)
  refine lv_aload_n hx hb ax_qd_lat_6 rfl (lv_at hl 0 rfl) ?_
  refine vk_getf hx hb (hG.1.1 i hi).2.1 hS hown (hts _ ax_qf_cod) (fun _ h => h) ax_qd_lat_7 ?_
  refine lv_if_ne hx hb ax_qd_lat_10 (tgt := 17) (by decide) (fun q => absurd rfl q) (fun _ => ?_)
  refine lv_iconst hx hb ax_qd_lat_13 (v := 1) rfl ?_
  refine lv_goto hx hb ax_qd_lat_14 (tgt := 18) (by decide) ?_
  exact W.zret hx hb hr (by decide +kernel) (fun t ht hW => ⟨⟨_, (), rfl, rfl, trivial⟩, hS.F ht⟩) hS.2.2 ax_qd_lat_18
set_option maxHeartbeats 4000000 in
theorem ax_m_len {l : Launch} {cy : Nat → ClassId} {sa sv : Nat → Nat} {sz i : Nat} (hi : i < 35) : Met l ax_q_len (ax_qc_len :: ax_tb) (ax_rs 2) (ax_PS cy sa sv [.ref (sa i)] sz) (ax_QS (Int32.ofInt (ax_sl i : Nat)) sz) 0 0 (fun q => sz ≤ q) := by
  refine ax_ofW (cc := prog_17_method_54_code) (maxL := 1) (ret := some .int) (by decide) rfl ?_
  intro p e s0 mm args below meth c s₁ B hml hv
  obtain ⟨rfl, hsz, hG⟩ := hv
  subst hsz
  have hts0 := atoms_spec (ws := ax_qc_len :: ax_tb) B.pre
  have hts : ∀ w ∈ ax_tb, w.before ([.ref (sa i)] : List Value).toArray s0 = true := fun w hw => hts0 w (List.mem_cons_of_mem _ hw)
  have hx := B.exec
  have hb := B.bytes
  have hr := B.returns
  have hlk := B.notSynchronized
  have hown : s0.vm.findClass "java/lang/String" = some mm.cls := findClass_of_methodNamed B.named
  have hS : va_S (fun q => s0.heap.size ≤ q) s0.heap s0.heap [] := va_S.rf
  have hl := lv_entry ([.ref (sa i)]) (n := 1) (Nat.le_of_ble_eq_true rfl)
  rw [lg_entry_eq]
  generalize (lg_sl ([.ref (sa i)]) ++ List.replicate (1 - (lg_sl ([.ref (sa i)])).length) Slot.unset).toArray = ls at hl ⊢
  have hl : lv_has ls 1 [(0, .ref (sa i))] := hl
  refine lv_aload_n hx hb ax_qd_len_0 rfl (lv_at hl 0 rfl) ?_
  refine vk_getf hx hb (hG.1.1 i hi).2.2.1 hS hown (hts _ ax_qf_val) (fun _ h => h) ax_qd_len_1 ?_
  refine va_tlen hx hb (hG.1.1 i hi).2.2.2 hS rfl ax_qd_len_4 ?_
  refine lv_aload_n hx hb ax_qd_len_5 rfl (lv_at hl 0 rfl) ?_
  have hrun := va_runV (rest := [.int (Int32.ofNat (ax_ln i))]) (As := []) (b := sa i) (C := "java/lang/String") (locs := []) (g := F0 mm 6 ls [.ref (sa i), .int (Int32.ofNat (ax_ln i))]) (cells := 0) (slots := 0) (below := below) (p := p) (e := e) (meth := meth) (R := (headSpec (ax_qc_len :: ax_tb) (ax_rs 2)).room) ⟨hx, hb, rfl, hown, hts⟩ (ax_m_cod (l := l) (cy := cy) (sa := sa) (sv := sv) (sz := s0.heap.size) hi) ⟨callB_of 0 hts (ax_gi ax_qm_cod) rfl rfl rfl (hts _ ax_qn_str) (hts _ ax_ql_cod) ⟨by decide, by decide, by decide⟩ ⟨Nat.le_refl 2, Nat.le_of_ble_eq_true rfl⟩, hts _ ax_qi_cod, hts _ ax_qs_cod⟩ ⟨ax_blS cy sa sv _ _, vk_recv hG.1 hi hS, fun U hU hW => ⟨rfl, by rw [hU], hG.at hW hU hS.2.1 (fun q h => Nat.le_trans hS.1 h)⟩⟩ rfl rfl (by rw [hml]; exact hl.1) rfl (lv_room (Nat.le_of_ble_eq_true rfl)) ax_qd_len_6 ⟨Nat.zero_le _, Nat.zero_le _⟩
  refine va_calli hrun hS (fun q _ h => h) (fun q h => h) (fun r u t H1 locs1 ht _ hr1 _ _ _ hS1 => ?_)
  cases hr1
  refine lv_ishr hx hb ax_qd_len_9 ?_
  rw [(ax_ln_ok i hi).1]
  exact W.iret hx hb hr (fun t ht hW => ⟨⟨_, (), rfl, rfl, trivial⟩, hS1.F ht⟩) hS1.2.2 ax_qd_len_10
set_option maxHeartbeats 4000000 in
theorem ax_m_chk {l : Launch} {cy : Nat → ClassId} {sa sv : Nat → Nat} {sz : Nat} {x y : Int32} (h0 : ¬ x < 0) (h1 : x < y) : Met l ax_q_chk (ax_qc_chk :: ax_tb) (ax_rs 2) (ax_PS cy sa sv [.int x, .int y] sz) (va_Qv (fun _ : Unit => True) (fun _ _ => True) (fun q => sz ≤ q)) 0 0 (fun q => sz ≤ q) := by
  refine ax_ofW (cc := prog_17_method_155_code) (maxL := 2) (ret := none) (by decide) rfl ?_
  intro p e s0 mm args below meth c s₁ B hml hv
  obtain ⟨rfl, hsz, hG⟩ := hv
  subst hsz
  have hts0 := atoms_spec (ws := ax_qc_chk :: ax_tb) B.pre
  have hts : ∀ w ∈ ax_tb, w.before ([.int x, .int y] : List Value).toArray s0 = true := fun w hw => hts0 w (List.mem_cons_of_mem _ hw)
  have hx := B.exec
  have hb := B.bytes
  have hr := B.returns
  have hlk := B.notSynchronized
  have hown : s0.vm.findClass "java/lang/String" = some mm.cls := findClass_of_methodNamed B.named
  have hS : va_S (fun q => s0.heap.size ≤ q) s0.heap s0.heap [] := va_S.rf
  have hl := lv_entry ([.int x, .int y]) (n := 2) (Nat.le_of_ble_eq_true rfl)
  rw [lg_entry_eq]
  generalize (lg_sl ([.int x, .int y]) ++ List.replicate (2 - (lg_sl ([.int x, .int y])).length) Slot.unset).toArray = ls at hl ⊢
  have hl : lv_has ls 2 [(0, .int x), (1, .int y)] := hl
  refine lv_iload_n hx hb ax_qd_chk_0 rfl (lv_at hl 0 rfl) ?_
  refine lv_iload_n hx hb ax_qd_chk_1 rfl (lv_at hl 1 rfl) ?_
  have go : ∀ z : Value, (∃ o, z = va_rf o) → W p l e (headSpec (ax_qc_chk :: ax_tb) (ax_rs 2)).room s0 mm ([.int x, .int y] : List Value).toArray below meth c s0.heap [] 0 0 (MQ below (va_Qv (fun _ : Unit => True) (fun _ _ => True) (fun q => s0.heap.size ≤ q)) ([.int x, .int y] : List Value).toArray s0 0 0 (fun q => s0.heap.size ≤ q)) (F0 mm 5 ls [z, .int y, .int x]) := by
    intro z hz
    have hrun := va_runS (rest := []) (As := [.int x, .int y, z]) (locs := []) (g := F0 mm 5 ls [z, .int y, .int x]) (cells := 0) (slots := 0) (below := below) (p := p) (e := e) (meth := meth) (R := (headSpec (ax_qc_chk :: ax_tb) (ax_rs 2)).room) ⟨hx, hb, rfl, hown, hts⟩ (ax_m_pre (l := l) (cy := cy) (sa := sa) (sv := sv) (sz := s0.heap.size) h0 h1 hz) ⟨callB_of 3 hts (ax_gi ax_qm_pre) rfl rfl rfl (hts _ ax_qn_pre) (hts _ ax_ql_pre) ⟨by decide, by decide, by decide⟩ ⟨Nat.le_refl 2, Nat.le_of_ble_eq_true rfl⟩, hts _ ax_qt_pre⟩ ⟨ax_blS cy sa sv _ _, fun U hU hW => ⟨rfl, by rw [hU], hG.at hW hU hS.2.1 (fun q h => Nat.le_trans hS.1 h)⟩⟩ rfl rfl (by rw [hml]; exact hl.1) rfl (lv_room (Nat.le_of_ble_eq_true rfl)) ax_qd_chk_5 ⟨Nat.zero_le _, Nat.zero_le _⟩
    refine va_calli hrun hS (fun q _ h => h) (fun q h => h) (fun r u t H1 locs1 ht _ hr1 _ _ _ hS1 => ?_)
    refine lv_pop hx hb ax_qd_chk_8 rfl ?_
    exact W.vret hx hb hr (fun t ht hW => ⟨⟨(), rfl, trivial, trivial⟩, hS1.F ht⟩) hS1.2.2 ax_qd_chk_9
  rcases hG.2.2.2.2.2.2 with hZ | ⟨o, hZ⟩
  · exact va_gets hx hb hZ hS hown (hts _ ax_qf_for) (fun _ h => h) ax_qd_chk_2 (go _ ⟨none, rfl⟩)
  · exact va_gets hx hb hZ hS hown (hts _ ax_qf_for) (fun _ h => h) ax_qd_chk_2 (go _ ⟨some o, rfl⟩)
set_option maxHeartbeats 4000000 in
theorem ax_m_scr {l : Launch} {cy : Nat → ClassId} {sa sv : Nat → Nat} {sz i : Nat} {x : Int} (hi : i < 35) (hg : 0 ≤ ax_w x ∧ ax_w x < (ax_sl i : Nat)) : Met l ax_q_scr (ax_qc_scr :: ax_tb) (ax_rs 3) (ax_PS cy sa sv [.ref (sv i), .int (Int32.ofInt x)] sz) (ax_QS (Int32.ofInt (ax_sc i (ax_w x).toNat)) sz) 0 0 (fun q => sz ≤ q) := by
  refine ax_ofW (cc := prog_18_method_2_code) (maxL := 2) (ret := some .char) (by decide) rfl ?_
  intro p e s0 mm args below meth c s₁ B hml hv
  obtain ⟨rfl, hsz, hG⟩ := hv
  subst hsz
  have hts0 := atoms_spec (ws := ax_qc_scr :: ax_tb) B.pre
  have hts : ∀ w ∈ ax_tb, w.before ([.ref (sv i), .int (Int32.ofInt x)] : List Value).toArray s0 = true := fun w hw => hts0 w (List.mem_cons_of_mem _ hw)
  have hx := B.exec
  have hb := B.bytes
  have hr := B.returns
  have hlk := B.notSynchronized
  have hown : s0.vm.findClass "java/lang/StringLatin1" = some mm.cls := findClass_of_methodNamed B.named
  have hS : va_S (fun q => s0.heap.size ≤ q) s0.heap s0.heap [] := va_S.rf
  have hl := lv_entry ([.ref (sv i), .int (Int32.ofInt x)]) (n := 2) (Nat.le_of_ble_eq_true rfl)
  rw [lg_entry_eq]
  generalize (lg_sl ([.ref (sv i), .int (Int32.ofInt x)]) ++ List.replicate (2 - (lg_sl ([.ref (sv i), .int (Int32.ofInt x)])).length) Slot.unset).toArray = ls at hl ⊢
  have hl : lv_has ls 2 [(0, .ref (sv i)), (1, .int (Int32.ofInt x))] := hl
  have hT := (hG.1.1 i hi).2.2.2
  have e1 := (ax_ln_ok i hi).2
  have hy : Int32.ofInt x < Int32.ofNat (ax_ln i) := by
    have e2 : Int32.ofNat (ax_ln i) = Int32.ofInt ((ax_ln i : Nat) : Int) := rfl
    have e3 : ax_w ((ax_ln i : Nat) : Int) = ((ax_ln i : Nat) : Int) := ax_w_idn (by omega)
    rw [e2, ax_i_lt, e3, e1.1]
    exact hg.2
  refine lv_iload_n hx hb ax_qd_scr_0 rfl (lv_at hl 1 rfl) ?_
  refine lv_aload_n hx hb ax_qd_scr_1 rfl (lv_at hl 0 rfl) ?_
  refine va_tlen hx hb hT hS rfl ax_qd_scr_2 ?_
  have hrun := va_runS (rest := []) (As := [.int (Int32.ofInt x), .int (Int32.ofNat (ax_ln i))]) (locs := []) (g := F0 mm 3 ls [.int (Int32.ofNat (ax_ln i)), .int (Int32.ofInt x)]) (cells := 0) (slots := 0) (below := below) (p := p) (e := e) (meth := meth) (R := (headSpec (ax_qc_scr :: ax_tb) (ax_rs 3)).room) ⟨hx, hb, rfl, hown, hts⟩ (ax_m_chk (l := l) (cy := cy) (sa := sa) (sv := sv) (sz := s0.heap.size) (ax_i_neg.mpr hg.1) hy) ⟨callB_of 2 hts (ax_gi ax_qm_chk) rfl rfl rfl (hts _ ax_qn_str) (hts _ ax_ql_chk) ⟨by decide, by decide, by decide⟩ ⟨Nat.le_refl 3, Nat.le_of_ble_eq_true rfl⟩, hts _ ax_qt_chk⟩ ⟨ax_blS cy sa sv _ _, fun U hU hW => ⟨rfl, by rw [hU], hG.at hW hU hS.2.1 (fun q h => Nat.le_trans hS.1 h)⟩⟩ rfl rfl (by rw [hml]; exact hl.1) rfl (lv_room (Nat.le_of_ble_eq_true rfl)) ax_qd_scr_3 ⟨Nat.zero_le _, Nat.zero_le _⟩
  refine va_callv hrun hS (fun q _ h => h) (fun q h => h) (fun u t H1 locs1 ht _ hr1 _ _ _ hS1 => ?_)
  refine lv_aload_n hx hb ax_qd_scr_6 rfl (lv_at hl 0 rfl) ?_
  refine lv_iload_n hx hb ax_qd_scr_7 rfl (lv_at hl 1 rfl) ?_
  refine va_tb hx hb hT hS1 (v := .int (ax_by i (ax_w x).toNat)) (ax_i_in (by rw [show (ax_sb.map List.length).getD i 0 = ax_sl i from e1.1]; exact hg)) (by rw [ax_i_cl]; rfl) ax_qd_scr_8 ?_
  refine lv_sipush hx hb ax_qd_scr_9 (v := 255) rfl ?_
  refine lv_iand hx hb ax_qd_scr_12 ?_
  have e4 := ax_by_ok i hi (ax_w x).toNat (by omega)
  refine lv_i2c hx hb ax_qd_scr_13 e4.1 ?_
  exact W.zret hx hb hr e4.2 (fun t ht hW => ⟨⟨_, (), rfl, rfl, trivial⟩, hS1.F ht⟩) hS1.2.2 ax_qd_scr_14
set_option maxHeartbeats 4000000 in
theorem ax_m_chr {l : Launch} {cy : Nat → ClassId} {sa sv : Nat → Nat} {sz i : Nat} {x : Int} (hi : i < 35) (hg : 0 ≤ ax_w x ∧ ax_w x < (ax_sl i : Nat)) : Met l ax_q_chr (ax_qc_chr :: ax_tb) (ax_rs 4) (ax_PS cy sa sv [.ref (sa i), .int (Int32.ofInt x)] sz) (ax_QS (Int32.ofInt (ax_sc i (ax_w x).toNat)) sz) 0 0 (fun q => sz ≤ q) := by
  refine ax_ofW (cc := prog_17_method_56_code) (maxL := 2) (ret := some .char) (by decide) rfl ?_
  intro p e s0 mm args below meth c s₁ B hml hv
  obtain ⟨rfl, hsz, hG⟩ := hv
  subst hsz
  have hts0 := atoms_spec (ws := ax_qc_chr :: ax_tb) B.pre
  have hts : ∀ w ∈ ax_tb, w.before ([.ref (sa i), .int (Int32.ofInt x)] : List Value).toArray s0 = true := fun w hw => hts0 w (List.mem_cons_of_mem _ hw)
  have hx := B.exec
  have hb := B.bytes
  have hr := B.returns
  have hlk := B.notSynchronized
  have hown : s0.vm.findClass "java/lang/String" = some mm.cls := findClass_of_methodNamed B.named
  have hS : va_S (fun q => s0.heap.size ≤ q) s0.heap s0.heap [] := va_S.rf
  have hl := lv_entry ([.ref (sa i), .int (Int32.ofInt x)]) (n := 2) (Nat.le_of_ble_eq_true rfl)
  rw [lg_entry_eq]
  generalize (lg_sl ([.ref (sa i), .int (Int32.ofInt x)]) ++ List.replicate (2 - (lg_sl ([.ref (sa i), .int (Int32.ofInt x)])).length) Slot.unset).toArray = ls at hl ⊢
  have hl : lv_has ls 2 [(0, .ref (sa i)), (1, .int (Int32.ofInt x))] := hl
  refine lv_aload_n hx hb ax_qd_chr_0 rfl (lv_at hl 0 rfl) ?_
  have hrun := va_runV (rest := []) (As := []) (b := sa i) (C := "java/lang/String") (locs := []) (g := F0 mm 1 ls [.ref (sa i)]) (cells := 0) (slots := 0) (below := below) (p := p) (e := e) (meth := meth) (R := (headSpec (ax_qc_chr :: ax_tb) (ax_rs 4)).room) ⟨hx, hb, rfl, hown, hts⟩ (ax_m_lat (l := l) (cy := cy) (sa := sa) (sv := sv) (sz := s0.heap.size) hi) ⟨callB_of 0 hts (ax_gi ax_qm_lat) rfl rfl rfl (hts _ ax_qn_str) (hts _ ax_ql_lat) ⟨by decide, by decide, by decide⟩ ⟨Nat.le_of_ble_eq_true rfl, Nat.le_of_ble_eq_true rfl⟩, hts _ ax_qi_lat, hts _ ax_qs_lat⟩ ⟨ax_blS cy sa sv _ _, vk_recv hG.1 hi hS, fun U hU hW => ⟨rfl, by rw [hU], hG.at hW hU hS.2.1 (fun q h => Nat.le_trans hS.1 h)⟩⟩ rfl rfl (by rw [hml]; exact hl.1) rfl (lv_room (Nat.le_of_ble_eq_true rfl)) ax_qd_chr_1 ⟨Nat.zero_le _, Nat.zero_le _⟩
  refine va_calli hrun hS (fun q _ h => h) (fun q h => h) (fun r u t H1 locs1 ht _ hr1 _ _ _ hS1 => ?_)
  cases hr1
  refine lv_if_eq hx hb ax_qd_chr_4 (tgt := 16) (by decide) (fun q => absurd q (by decide)) (fun _ => ?_)
  refine lv_aload_n hx hb ax_qd_chr_7 rfl (lv_at hl 0 rfl) ?_
  refine vk_getf hx hb (hG.1.1 i hi).2.2.1 hS1 hown (hts _ ax_qf_val) (fun _ h => h) ax_qd_chr_8 ?_
  refine lv_iload_n hx hb ax_qd_chr_11 rfl (lv_at hl 1 rfl) ?_
  have hrun := va_runS (rest := []) (As := [.ref (sv i), .int (Int32.ofInt x)]) (locs := locs1) (g := F0 mm 12 ls [.int (Int32.ofInt x), .ref (sv i)]) (H := H1) (cells := 0) (slots := 0) (below := below) (p := p) (e := e) (meth := meth) (R := (headSpec (ax_qc_chr :: ax_tb) (ax_rs 4)).room) ⟨hx, hb, rfl, hown, hts⟩ (ax_m_scr (l := l) (cy := cy) (sa := sa) (sv := sv) (sz := H1.size) hi hg) ⟨callB_of 2 hts (ax_gi ax_qm_scr) rfl rfl rfl (hts _ ax_qn_lat) (hts _ ax_ql_scr) ⟨by decide, by decide, by decide⟩ ⟨Nat.le_refl 4, Nat.le_of_ble_eq_true rfl⟩, hts _ ax_qt_scr⟩ ⟨ax_blS cy sa sv _ _, fun U hU hW => ⟨rfl, by rw [hU], hG.at hW hU hS1.2.1 (fun q h => Nat.le_trans hS1.1 h)⟩⟩ rfl rfl (by rw [hml]; exact hl.1) rfl (lv_room (Nat.le_of_ble_eq_true rfl)) ax_qd_chr_12 ⟨Nat.zero_le _, Nat.zero_le _⟩
  refine va_calli hrun hS1 (fun q _ h => Nat.le_trans hS1.1 h) (fun q h => Nat.le_trans hS1.1 h) (fun r u t H2 locs2 ht _ hr2 _ _ _ hS2 => ?_)
  cases hr2
  exact W.zret hx hb hr (ax_by_ok i hi (ax_w x).toNat (by omega)).2 (fun t ht hW => ⟨⟨_, (), rfl, rfl, trivial⟩, hS2.F ht⟩) hS2.2.2 ax_qd_chr_15
section AXT
variable {p : Program} {l : Launch} {e : Env} {R : Room} {s0 : State} {mm : MethodId} {args : Array Value} {below : List Frame} {meth : Method} {c : Code} {Q : State → Prop} {D : va_G} {cy : Nat → ClassId} {A : Nat → Prop} {sa sv : Nat → Nat} {nE sE mi : Nat} {M : ax_M} {ad : Nat → Nat}
/-- String.length() of a constant -/
theorem ax_s_sln {pc : Nat} {ls : ax_L} {r : List ax_v} {s : ax_S} (X : ax_cx p R s0 mm args meth c D cy A sa sv mi M) (hsa : ∀ j, ad (1000000 + j) = sa j) {i o : Nat} {nest : Bool} (hm : ax_mr M.1 i = some (9002, nest)) (ho : 1000000 ≤ o ∧ o < 1000035) (hc : ax_cats r ≤ 8) (hRc : s.1 - nE ≤ R.cells) (hRs : s.2.1 - sE ≤ R.slots) (hd : decode (ax_yb mi) pc = .ok (.invokevirtual i, 3)) (k : ax_W p l e R s0 mm args below meth c Q D cy A nE sE ad (pc + 3, ls, .inl (ax_sl (o - 1000000) : Nat) :: r, s)) : ax_W p l e R s0 mm args below meth c Q D cy A nE sE ad (pc, ls, .inr (.inr (some o)) :: r, s) := by
  obtain ⟨hx, hb, hml, hown, hts, hK, hA, hM, hin, hG, hR1, hR2⟩ := X
  intro H locs arr hl hP hD hS
  have hlk := (ax_mr_ok hm).1 (ax_own9 hm (by decide))
  have hlk : Cond.methodLink (ax_oc M.1) i ax_q_len ∈ ax_tb := hlk
  have hi : o - 1000000 < 35 := by omega
  have ea : ad o = sa (o - 1000000) := by rw [← hsa, show 1000000 + (o - 1000000) = o by omega]
  show W p l e R s0 mm args below meth c H locs (s.1 - nE) (s.2.1 - sE) Q (F0 mm pc arr (.ref (ad o) :: r.map (ax_z ad)))
  rw [ea]
  have hcw : (((r.map (ax_z ad)).map fun v => v.category)).sum ≤ 8 := by rw [ax_zcats]; exact hc
  have hF : ∀ q, H.size ≤ q → A q := fun q h => hA q (Nat.le_trans hS.1 h)
  have hrun := va_runV (rest := r.map (ax_z ad)) (As := []) (b := sa (o - 1000000)) (C := "java/lang/String") (locs := locs) (g := F0 mm pc arr (.ref (sa (o - 1000000)) :: r.map (ax_z ad))) (H := H) (cells := s.1 - nE) (slots := s.2.1 - sE) (below := below) (R := R) (p := p) (e := e) (meth := meth) ⟨hx, hb, rfl, hown, hts⟩ (ax_m_len (l := l) (cy := cy) (sa := sa) (sv := sv) (sz := H.size) hi) ⟨callB_of 0 hts (ax_gi ax_qm_len) rfl rfl rfl (hts _ ax_qn_str) (hts _ hlk) ⟨by decide, by decide, by decide⟩ ⟨Nat.le_trans (by decide) hR1, Nat.le_trans (by decide) hR2⟩, hts _ ax_qi_len, hts _ ax_qs_len⟩ ⟨ax_blS cy sa sv _ _, vk_recv hG.1 hi hS, fun U hU hW => ⟨rfl, by rw [hU], hG.at hW hU hS.2.1 hF⟩⟩ rfl rfl hl.1.1 rfl (lv_room hcw) hd ⟨by rw [Nat.add_zero]; exact hRc, by rw [Nat.add_zero]; exact hRs⟩
  refine va_calli hrun hS (fun q _ h => hF q h) hF (fun a u t H1 locs1 ht _ hr1 _ h5 h6 hS1 => ?_)
  have e9 : a = Int32.ofInt ((ax_sl (o - 1000000) : Nat) : Int) := hr1
  rw [e9]
  refine k H1 locs1 arr hl (fun j q hq => (hP j q hq).kept (h6 _ (hP j q hq).lt (Nat.not_le.mpr (hP j q hq).lt))) hD hS1
/-- String.charAt(i) of a constant -/
theorem ax_s_sch {pc : Nat} {ls : ax_L} {r : List ax_v} {s : ax_S} (X : ax_cx p R s0 mm args meth c D cy A sa sv mi M) (hsa : ∀ j, ad (1000000 + j) = sa j) {i o : Nat} {x : Int} {nest : Bool} (hm : ax_mr M.1 i = some (9003, nest)) (ho : 1000000 ≤ o ∧ o < 1000035) (hc : ax_cats r ≤ 8) (hg : 0 ≤ ax_w x ∧ ax_w x < (ax_sl (o - 1000000) : Nat)) (hRc : s.1 - nE ≤ R.cells) (hRs : s.2.1 - sE ≤ R.slots) (hd : decode (ax_yb mi) pc = .ok (.invokevirtual i, 3)) (k : ax_W p l e R s0 mm args below meth c Q D cy A nE sE ad (pc + 3, ls, .inl (ax_sc (o - 1000000) (ax_w x).toNat) :: r, s)) : ax_W p l e R s0 mm args below meth c Q D cy A nE sE ad (pc, ls, .inl x :: .inr (.inr (some o)) :: r, s) := by
  obtain ⟨hx, hb, hml, hown, hts, hK, hA, hM, hin, hG, hR1, hR2⟩ := X
  intro H locs arr hl hP hD hS
  have hlk := (ax_mr_ok hm).1 (ax_own9 hm (by decide))
  have hlk : Cond.methodLink (ax_oc M.1) i ax_q_chr ∈ ax_tb := hlk
  have hi : o - 1000000 < 35 := by omega
  have ea : ad o = sa (o - 1000000) := by rw [← hsa, show 1000000 + (o - 1000000) = o by omega]
  show W p l e R s0 mm args below meth c H locs (s.1 - nE) (s.2.1 - sE) Q (F0 mm pc arr (.int (Int32.ofInt x) :: .ref (ad o) :: r.map (ax_z ad)))
  rw [ea]
  have hcw : (((r.map (ax_z ad)).map fun v => v.category)).sum ≤ 8 := by rw [ax_zcats]; exact hc
  have hF : ∀ q, H.size ≤ q → A q := fun q h => hA q (Nat.le_trans hS.1 h)
  have hrun := va_runV (rest := r.map (ax_z ad)) (As := [.int (Int32.ofInt x)]) (b := sa (o - 1000000)) (C := "java/lang/String") (locs := locs) (g := F0 mm pc arr (.int (Int32.ofInt x) :: .ref (sa (o - 1000000)) :: r.map (ax_z ad))) (H := H) (cells := s.1 - nE) (slots := s.2.1 - sE) (below := below) (R := R) (p := p) (e := e) (meth := meth) ⟨hx, hb, rfl, hown, hts⟩ (ax_m_chr (l := l) (cy := cy) (sa := sa) (sv := sv) (sz := H.size) hi hg) ⟨callB_of 1 hts (ax_gi ax_qm_chr) rfl rfl rfl (hts _ ax_qn_str) (hts _ hlk) ⟨by decide, by decide, by decide⟩ ⟨Nat.le_trans (by decide) hR1, Nat.le_trans (by decide) hR2⟩, hts _ ax_qi_chr, hts _ ax_qs_chr⟩ ⟨ax_blS cy sa sv _ _, vk_recv hG.1 hi hS, fun U hU hW => ⟨rfl, by rw [hU], hG.at hW hU hS.2.1 hF⟩⟩ rfl rfl hl.1.1 rfl (lv_room hcw) hd ⟨by rw [Nat.add_zero]; exact hRc, by rw [Nat.add_zero]; exact hRs⟩
  refine va_calli hrun hS (fun q _ h => hF q h) hF (fun a u t H1 locs1 ht _ hr1 _ h5 h6 hS1 => ?_)
  have e9 : a = Int32.ofInt (ax_sc (o - 1000000) (ax_w x).toNat) := hr1
  rw [e9]
  refine k H1 locs1 arr hl (fun j q hq => (hP j q hq).kept (h6 _ (hP j q hq).lt (Nat.not_le.mpr (hP j q hq).lt))) hD hS1
set_option maxHeartbeats 4000000 in
/-- new int[a][b] -/
theorem ax_s_nwm {pc : Nat} {ls : ax_L} {r : List ax_v} {s : ax_S} (X : ax_cx p R s0 mm args meth c D cy A sa sv mi M) {i : Nat} {a b : Int} (ho : M.1 = 10) (hi : i = 20) (h6 : s.1 < 900000) (hvl : ax_vl s.1 ls = true) (hvs : ax_vs s.1 r = true) (hw : ax_wf s) (hE : nE ≤ s.1) (hE2 : sE ≤ s.2.1) (hg : 0 ≤ ax_w a ∧ ax_w a ≤ 65536 ∧ 0 ≤ ax_w b ∧ ax_w b ≤ 65536)
    (hRc : (ax_mna s (ax_w a).toNat (ax_w b).toNat).1 - nE ≤ R.cells) (hRs : (ax_mna s (ax_w a).toNat (ax_w b).toNat).2.1 - sE ≤ R.slots) (hd : decode (ax_yb mi) pc = .ok (.multianewarray i 2, 4))
    (k : ∀ ad', (∀ j, j < s.1 ∨ 1000000 ≤ j → ad' j = ad j) → ax_W p l e R s0 mm args below meth c Q D cy A nE sE ad' (pc + 4, ls, .inr (.inr (some s.1)) :: r, ax_mna s (ax_w a).toNat (ax_w b).toNat)) : ax_W p l e R s0 mm args below meth c Q D cy A nE sE ad (pc, ls, .inl b :: .inl a :: r, s) := by
  obtain ⟨hx, hb, hml, hown, hts, hK, hA, hM, hin, hG, hR1, hR2⟩ := X
  intro H locs arr hl hP hD hS
  subst hi
  have hown : s0.vm.findClass "TurnedBoards$Wall" = some mm.cls := by rw [ho] at hown; exact hown
  obtain ⟨kA, hkA, hkindA⟩ := hG.2.2.2.2.2.1
  obtain ⟨-, kI, hkI, c9, hkindI⟩ := (hK.2 0 (cy 20, .int) rfl).1 0 (fun _ => .null)
  have hfA : s0.vm.findClass "[[I" = some (cy 24) := (hK.2 4 (cy 24, .array .int) rfl).2
  obtain ⟨N, eN⟩ : ∃ N, (ax_w a).toNat = N := ⟨_, rfl⟩
  obtain ⟨K, eK⟩ : ∃ K, (ax_w b).toNat = K := ⟨_, rfl⟩
  rw [eN, eK] at hRc hRs k
  have hN6 : N ≤ 65536 := by omega
  have hK6 : K ≤ 65536 := by omega
  have hRc : s.1 + (1 + N) - nE ≤ R.cells := hRc
  have hRs : s.2.1 + (N + N * K) - sE ≤ R.slots := hRs
  have ha : ∀ j, j < s.1 ∨ 1000000 ≤ j → (fun i => if s.1 ≤ i ∧ i < s.1 + (1 + N) then H.size + (i - s.1) else ad i) j = ad j := by
    intro j hj
    exact if_neg (by omega)
  have hnew : ∀ j, s.1 ≤ j → j < s.1 + (1 + N) → (fun i => if s.1 ≤ i ∧ i < s.1 + (1 + N) then H.size + (i - s.1) else ad i) j = H.size + (j - s.1) := fun j q1 q2 => if_pos ⟨q1, q2⟩
  have hc1 : s.1 - nE + (1 + N) ≤ R.cells := by omega
  have hc2 : s.2.1 - sE + (N + N * K) ≤ R.slots := by omega
  refine ax_mnaW (own := "TurnedBoards$Wall") (cA := cy 24) (cI := cy 20) (N := N) (K := K) (rest := r.map (ax_z ad)) hx hb hown (hts _ ax_qw_wal) hfA hkA hkindA hkI hkindI (ax_i_neg.mpr hg.1) (ax_i_neg.mpr hg.2.2.1) ((ax_i_cl a).trans eN) ((ax_i_cl b).trans eK) hN6 hK6 hc1 hc2 hd (fun H1 L hm hL => ?_)
  obtain ⟨m1, m2, m3, m4⟩ := hm
  generalize had : (fun i => if s.1 ≤ i ∧ i < s.1 + (1 + N) then H.size + (i - s.1) else ad i) = ad' at ha hnew
  have hold : ∀ j, j < s.1 → ax_e cy (ax_mna s N K) ad' j = ax_e cy s ad j := by
    intro j hj
    rw [ax_e_congr (s := s) (s' := ax_mna s N K) (if_pos hj) (funext fun x => if_pos hj) (funext fun x => if_pos hj) (funext fun x => if_pos hj)]
    exact ax_e_ad hw hj (fun i hi => ha i (Or.inl hi))
  have hlt : ∀ j, j < s.1 → ad j < H.size := fun j hj => (hP j _ (ax_wd_get hj)).lt
  have hP1 : va_P D ax_cl (ax_wd cy (ax_mna s N K) ad') H1 := by
    intro j q hq
    have hj : j < s.1 + (1 + N) := by
      have := (List.getElem?_eq_some_iff.mp hq).1
      rw [ax_wd_len] at this
      exact this
    rw [ax_wd_get (s := ax_mna s N K) hj] at hq
    cases hq
    by_cases h1 : j < s.1
    · rw [hold j h1, ha j (Or.inl h1)]
      exact (hP j _ (ax_wd_get h1)).kept (m4 _ (hlt j h1))
    by_cases h2 : j = s.1
    · subst h2
      rw [hnew _ (Nat.le_refl _) hj, Nat.sub_self, Nat.add_zero, ax_e_ref (s := ax_mna s N K) (by show (if s.1 < s.1 then _ else if s.1 = s.1 then (24, N) else _ : Nat × Nat).1 = 24; rw [if_neg (Nat.lt_irrefl _), if_pos rfl])]
      show H1[H.size]? = some (vp_cell (cy 24) _)
      rw [m2]
      have eK2 : (ax_K (ax_mna s N K) s.1).2 = N := by
        show (if s.1 < s.1 then _ else if s.1 = s.1 then (24, N) else _ : Nat × Nat).2 = N
        rw [if_neg (Nat.lt_irrefl _), if_pos rfl]
      rw [eK2]
      have eR : (fun x => (ax_R (ax_mna s N K) s.1 x).map ad') = (fun x => if x < N then some (H.size + 1 + x) else none) := by
        funext x
        have e1 : ax_R (ax_mna s N K) s.1 x = if x < N then some (s.1 + 1 + x) else none := by
          show (if s.1 < s.1 then _ else if s.1 = s.1 then (if x < N then some (s.1 + 1 + x) else none) else _) = _
          rw [if_neg (Nat.lt_irrefl _), if_pos rfl]
        rw [e1]
        by_cases q : x < N
        · rw [if_pos q, if_pos q, Option.map_some, hnew _ (by omega) (by omega)]
          congr 1
          omega
        · rw [if_neg q, if_neg q, Option.map_none]
      rw [eR]
      have e2 : (fun x => if x < N then Value.ref (H.size + 1 + x) else Value.null) = (fun x => va_rf (if x < N then some (H.size + 1 + x) else none)) := by
        funext x
        by_cases q : x < N
        · rw [if_pos q, if_pos q]; rfl
        · rw [if_neg q, if_neg q]; rfl
      rw [e2]
      rfl
    · have h3 : s.1 ≤ j := by omega
      have h4 : ¬ j < s.1 := h1
      have eK1 : ax_K (ax_mna s N K) j = (20, K) := by
        show (if j < s.1 then _ else if j = s.1 then (24, N) else if j < s.1 + (1 + N) then (20, K) else _ : Nat × Nat) = _
        rw [if_neg h4, if_neg h2, if_pos hj]
      have eI : ∀ x, ax_I (ax_mna s N K) j x = 0 := by
        intro x
        show (if j < s.1 then _ else if j < s.1 + (1 + N) then (0 : Int) else _) = 0
        rw [if_neg h4, if_pos hj]
      rw [hnew j h3 hj, ax_e_int (s := ax_mna s N K) (kd := 20) (by rw [eK1]) (Or.inl rfl), eK1]
      show H1[H.size + (j - s.1)]? = some (vp_cell (cy 20) _)
      rw [show H.size + (j - s.1) = H.size + 1 + (j - s.1 - 1) by omega, m3 _ (by omega)]
      have e3 : (fun x => Int32.ofInt (ax_I (ax_mna s N K) j x)) = (fun _ => 0) := funext fun x => by rw [eI]; rfl
      rw [e3]
      rfl
  have hD1 : va_D A (ax_wd cy (ax_mna s N K) ad') := by
    have key : ∀ j q, (ax_wd cy (ax_mna s N K) ad')[j]? = some q → j < s.1 + (1 + N) ∧ q.1 = ad' j := by
      intro j q hq
      have hj : j < s.1 + (1 + N) := by
        have := (List.getElem?_eq_some_iff.mp hq).1
        rw [ax_wd_len] at this
        exact this
      rw [ax_wd_get (s := ax_mna s N K) hj] at hq
      cases hq
      exact ⟨hj, rfl⟩
    refine ⟨fun i j x y hx1 hy1 hxy => ?_, fun j q hq => ?_⟩
    · obtain ⟨i1, i2⟩ := key i x hx1
      obtain ⟨j1, j2⟩ := key j y hy1
      rw [i2, j2] at hxy
      by_cases h1 : i < s.1
      · rw [ha i (Or.inl h1)] at hxy
        by_cases h2 : j < s.1
        · rw [ha j (Or.inl h2)] at hxy
          exact hD.1 i j _ _ (ax_wd_get h1) (ax_wd_get h2) hxy
        · rw [hnew j (by omega) j1] at hxy
          have := hlt i h1
          omega
      · rw [hnew i (by omega) i1] at hxy
        by_cases h2 : j < s.1
        · rw [ha j (Or.inl h2)] at hxy
          have := hlt j h2
          omega
        · rw [hnew j (by omega) j1] at hxy
          omega
    · obtain ⟨j1, j2⟩ := key j q hq
      rw [j2]
      by_cases h1 : j < s.1
      · rw [ha j (Or.inl h1)]
        exact hD.2 j _ (ax_wd_get h1)
      · rw [hnew j (by omega) j1]
        exact hA _ (Nat.le_trans hS.1 (Nat.le_add_right _ _))
  have hS1 : va_S A s0.heap H1 (locs ++ L) := by
    refine ⟨by rw [m1]; exact Nat.le_trans hS.1 (by omega), fun x q1 q2 => (m4 x (Nat.lt_of_lt_of_le q1 hS.1)).trans (hS.2.1 x q1 q2), fun q hq => ?_⟩
    rcases List.mem_append.mp hq with h | h
    · exact hS.2.2 q h
    · rw [hL q h]; exact hA _ hS.1
  have h := k ad' ha H1 (locs ++ L) arr (hl.ad (ax_vl_z ha hvl)) hP1 hD1 hS1
  have e1 : s.1 - nE + (1 + N) = s.1 + (1 + N) - nE := by omega
  have e2 : s.2.1 - sE + (N + N * K) = s.2.1 + (N + N * K) - sE := by omega
  rw [e1, e2, ← ax_vs_z ha hvs]
  have hz : ax_z ad' (.inr (.inr (some s.1))) = .ref H.size := by
    show va_rf (some (ad' s.1)) = _
    rw [hnew _ (Nat.le_refl _) (by omega), Nat.sub_self]
    rfl
  rw [← hz]
  exact h
end AXT
