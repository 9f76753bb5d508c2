/-! THE CLAIM OUT OF ONE WALK OF THE LAW'S BODY. Your part is whole_start (and what it stands on); all else here is the same for every law, but numbers. -/
def R_law : String := "TurnedBoardsLaw"
def lw_P (b : Addr) (xs : List Int32) (args : Array Value) (s : State) : Prop := args = #[.ref b] ∧ s.IntsAt b xs ∧ xs.length ≤ 384 ∧ (Jvm.Cond.and given_1 narrow_1).before args s = true
def lw_Q (_ : Array Value) (s : State) (o : Outcome) (t : State) : Prop := o = .returned (some (.int 1)) ∧ Framed s o t [] 600000 7302250
def lw_Z (below : List Frame) (a : Array Value) (s : State) : State → Prop := fun t => ∃ o, t.status = .running ∧ Ended t below o ∧ lw_Q a s o t
/-- the law's own end, with 1 on the stack, nothing written that was there before, its room as the claim has it -/
theorem lw_ret {p : Program} {l : Launch} {e : Env} {s : State} {m : MethodId} {below : List Frame} {meth : Method} {c : Code} {b : Nat} (hx : p.tables.exec = Jvm.exec) (hb : c.code = code) (hr : meth.sig.returnType = ret) (hlocks : meth.locks = false) {pc : Nat} {H : Heap} {ls : Array Slot} (hdg : decode code pc = .ok (.ireturn, 1)) : W p l e room_1 s m #[Value.ref b] below meth c H [] 600000 7302250 (lw_Z below #[Value.ref b] s) (F0 m pc ls [.int 1]) := by
  intro T hT X
  obtain ⟨fs, hret, hrun, hended, hW, hframe⟩ := X.leave (v := some (.int 1)) (hlocks := hlocks) (fun h => by rw [hr] at h; cases h)
  have hmeth' : T.vm.method? m = some meth := X.method'
  refine ⟨T.setFrames fs, ?_, .returned (some (.int 1)), hrun, hended, rfl, ⟨_, rfl⟩, hW, hframe⟩
  jvm_step X.here [X.here.top, hx, hb, hdg, hmeth', hr, ret, narrow_b1]
  (try refine ⟨rfl, ?_⟩); (try refine ⟨rfl, ?_⟩)
  first | (intro acts; rw [hret _ acts rfl rfl rfl]) | rw [hret _ _ rfl rfl rfl]
  exact Steps.refl _
/-- what holds at the law's entry: the machine, the code, the tables' words (any of lw_tbl by 'hts w (by decide +kernel)'), the script of L ints xs at the cell b, what the Statement gives of the start (any of its parts by flat_of_before) -/
def lw_At (p : Program) (s : State) (m : MethodId) (meth : Method) (c : Code) (b L : Nat) (xs : Nat → Int32) : Prop :=
  p.tables.exec = Jvm.exec ∧ c.code = code ∧ meth.sig.returnType = ret ∧ c.maxLocals = 4 ∧ s.vm.findClass R_law = some m.cls ∧ (∀ w ∈ lw_tbl, w.before #[Value.ref b] s = true) ∧ va_X b L xs s s.heap ∧ b < s.heap.size ∧ meth.locks = false ∧ (Jvm.Cond.and given_1 narrow_1).before #[Value.ref b] s = true
set_option maxRecDepth 100000 in
theorem lw_ac_int : Cond.arrayClass .int ∈ lw_tbl := List.mem_append_right _ (List.mem_append_left _ (List.mem_of_getElem? (i := 98) rfl))
set_option maxRecDepth 100000 in
theorem lw_ac_char : Cond.arrayClass .char ∈ lw_tbl := List.mem_append_right _ (List.mem_append_right _ (List.mem_append_right _ (List.mem_append_right _ (List.mem_append_right _ (List.mem_append_right _ (List.mem_append_right _ (List.mem_append_left _ (List.mem_of_getElem? (i := 165) rfl))))))))
set_option maxRecDepth 100000 in
theorem lw_ac_byte : Cond.arrayClass .byte ∈ lw_tbl := List.mem_append_right _ (List.mem_append_left _ (List.mem_of_getElem? (i := 45) rfl))
set_option maxRecDepth 100000 in
theorem lw_ac_long : Cond.arrayClass .long ∈ lw_tbl := List.mem_append_right _ (List.mem_append_right _ (List.mem_append_right _ (List.mem_append_right _ (List.mem_append_right _ (List.mem_append_right _ (List.mem_append_right _ (List.mem_append_left _ (List.mem_of_getElem? (i := 166) rfl))))))))
set_option maxRecDepth 100000 in
theorem lw_ao : Cond.arrayOver (.array .int) ∈ lw_tbl := List.mem_append_right _ (List.mem_append_left _ (List.mem_of_getElem? (i := 175) rfl))
set_option maxRecDepth 100000 in
theorem lw_ls : Cond.laysStatic "java/lang/String" "COMPACT_STRINGS" "Z" ∈ lw_tbl := List.mem_append_right _ (List.mem_append_right _ (List.mem_append_right _ (List.mem_append_left _ (List.mem_of_getElem? (i := 6) rfl))))
set_option maxRecDepth 100000 in
theorem lw_lp : Cond.laysStatic "jdk/internal/util/Preconditions" "SIOOBE_FORMATTER" "Ljava/util/function/BiFunction;" ∈ lw_tbl := List.mem_append_right _ (List.mem_append_right _ (List.mem_append_right _ (List.mem_append_left _ (List.mem_of_getElem? (i := 26) rfl))))
set_option maxRecDepth 100000 in
theorem lw_is : Cond.initialized "java/lang/String" ∈ lw_tbl := List.mem_append_right _ (List.mem_append_left _ (List.mem_of_getElem? (i := 15) rfl))
set_option maxRecDepth 100000 in
theorem lw_ip : Cond.initialized "jdk/internal/util/Preconditions" ∈ lw_tbl := List.mem_append_right _ (List.mem_append_left _ (List.mem_of_getElem? (i := 17) rfl))
def lw_sx (i : Nat) : String × Nat × String := ax_sx.getD i ("", 0, "")
def lw_po : List Nat := [0, 1, 2, 3, 4, 5, 6, 7, 8, 9, 10, 11, 12, 13, 14, 15, 16, 17, 18, 19, 20, 21, 22, 23, 24, 25, 26, 27, 28, 29, 30, 31, 32, 33, 34]
set_option maxRecDepth 100000 in
theorem lw_po_ok : ax_sub (lw_po.map fun i => .stringRef (lw_sx i).1 (lw_sx i).2.1 (lw_sx i).2.2) tables_1 = true := by decide +kernel
theorem lw_po_in : ∀ i, i < 35 → i ∈ lw_po := by decide +kernel
def lw_tm (i : Nat) : Term := .string (lw_sx i).1 (lw_sx i).2.1
def lw_no : List Nat := [0, 1, 2, 3, 4, 5, 6, 7, 8, 9, 10, 11, 12, 13, 14, 15, 16, 17, 18, 19, 20, 21, 22, 23, 24, 25, 26, 27, 28, 29, 30, 31, 32, 33, 34]
def lw_nw (i : Nat) : List Cond := Cond.exactly (lw_tm i) "java/lang/String" :: Cond.eq (.field (lw_tm i) "java/lang/String" "coder" "B") (.int 0) :: Cond.arrayOf (.field (lw_tm i) "java/lang/String" "value" "[B") .byte :: Cond.eq (.length (.field (lw_tm i) "java/lang/String" "value" "[B")) (.int (Int32.ofNat (ax_ln i))) :: (List.range (ax_ln i)).map (fun j => Cond.eq (.elem (.field (lw_tm i) "java/lang/String" "value" "[B") (.int (Int32.ofNat j))) (.int (ax_by i j)))
def lw_nl : List Cond := Cond.eq (.static "java/lang/String" "COMPACT_STRINGS" "Z") (.int 1) :: Cond.isRef (.static "jdk/internal/util/Preconditions" "SIOOBE_FORMATTER" "Ljava/util/function/BiFunction;") :: lw_no.flatMap lw_nw
set_option maxRecDepth 100000 in
theorem lw_nl_ok : ax_sub lw_nl (flatC (Jvm.Cond.and given_1 narrow_1)) = true := by decide +kernel
theorem lw_no_in : ∀ i, i < 35 → i ∈ lw_no := by decide +kernel
theorem lw_apart : ∀ i, i < 35 → ∀ j, j < 35 → i ≠ j → (ax_ln i ≠ ax_ln j ∨ ∃ k, k < ax_ln i ∧ ax_by i k ≠ ax_by j k) := by decide +kernel
theorem lw_over {s : State} {args : Array Value} (h : (Cond.arrayOver (.array .int)).before args s = true) : ∃ cI cA kA, s.vm.findClass "[I" = some cI ∧ s.vm.classes[cA]? = some kA ∧ kA.kind = .array cI (.array .int) ∧ s.vm.findClass "[[I" = some cA := by
  simp only [Cond.before, Cond.holds, Cond.value, beq_iff_eq, Option.bind_eq_some_iff, Option.map_eq_some_iff] at h
  obtain ⟨cI, h1, cA, h2, kA, h3, h4⟩ := h
  obtain ⟨q1, q2, -⟩ := Array.findIdx?_eq_some_iff_getElem.mp h2
  have q3 : s.vm.classes[cA] = kA := (Array.getElem?_eq_some_iff.mp h3).2
  rw [q3] at q2
  refine ⟨cI, cA, kA, h1, h3, ?_, ?_⟩
  · revert h4 q2
    cases hk : kA.kind with
    | array a b =>
      intro h4 q2
      simp only [Bool.and_eq_true, decide_eq_true_eq, beq_iff_eq] at q2 h4
      rw [q2, h4.1]
    | _ => intro q2 h4; cases q2
  · revert h4 q2
    cases hk : kA.kind with
    | array a b =>
      intro h4 q2
      simp only [Bool.and_eq_true, decide_eq_true_eq, beq_iff_eq] at q2 h4
      exact h4.2
    | _ => intro q2 h4; cases q2
theorem lw_arr {s : State} {args : Array Value} {ty : FieldType} (h : (Cond.arrayClass ty).before args s = true) (hr : ∀ cA, s.vm.findClass ("[" ++ ty.toString) = some cA → va_RA s cA ty) : ∃ cA, s.vm.findClass ("[" ++ ty.toString) = some cA ∧ ArrOfT s cA ty ∧ va_RA s cA ty := by
  obtain ⟨cA, kA, comp, h1, h2, h3⟩ := Cond.arrayClass_spec h
  exact ⟨cA, h1, fun n z => ⟨fun k h => (by cases h), kA, h2, comp, h3⟩, hr cA h1⟩
theorem lw_eqf {args : Array Value} {s : State} {t t' : Term} (h : t.eval args s none [] s = t'.eval args s none [] s) (a b c : String) : (Term.field t a b c).eval args s none [] s = (Term.field t' a b c).eval args s none [] s := by
  simp only [Term.eval, h]
theorem lw_eql {args : Array Value} {s : State} {t t' : Term} (h : t.eval args s none [] s = t'.eval args s none [] s) : (Term.length t).eval args s none [] s = (Term.length t').eval args s none [] s := by
  simp only [Term.eval, h]
theorem lw_eqe {args : Array Value} {s : State} {t t' : Term} (h : t.eval args s none [] s = t'.eval args s none [] s) (i : Term) : (Term.elem t i).eval args s none [] s = (Term.elem t' i).eval args s none [] s := by
  simp only [Term.eval, h]
theorem lw_ofNat {a b : Nat} (ha : a < 1000) (hb : b < 1000) (h : Int32.ofNat a = Int32.ofNat b) : a = b := by
  have h2 := congrArg Int32.toInt h
  have e1 : (Int32.ofNat a).toInt = a := Int32.toInt_ofNat_of_lt (by omega)
  have e2 : (Int32.ofNat b).toInt = b := Int32.toInt_ofNat_of_lt (by omega)
  rw [e1, e2] at h2
  omega
theorem lw_neq {args : Array Value} {s : State} {t t' : Term} (h1 : (Cond.exactly t "java/lang/String").before args s = true) (h2 : (Cond.exactly t' "java/lang/String").before args s = true) (h : t.eval args s none [] s ≠ t'.eval args s none [] s) : (Cond.not (Cond.eq t t')).before args s = true := by
  cases e1 : t.eval args s none [] s with
  | none => simp [Cond.before, Cond.holds, Cond.value, e1] at h1
  | some v =>
    cases e2 : t'.eval args s none [] s with
    | none => simp [Cond.before, Cond.holds, Cond.value, e2] at h2
    | some v' =>
      rw [e1, e2] at h
      cases v <;> cases v' <;> simp_all [Cond.before, Cond.holds, Cond.value]
set_option maxHeartbeats 4000000 in
/-- the strings at the law's entry -/
theorem lw_strs {s : State} {b : Nat} (hq : ∀ w ∈ lw_nl, w.before #[Value.ref b] s = true) : ∃ sa sv : Nat → Nat, vk_S 35 (ax_sb.map List.length) (ax_sb.map (fun l => l.map (fun n => Int32.ofNat n))) sa sv (fun q => s.heap.size ≤ q) s s.heap ∧ ∀ i : Nat, i < 35 → (lw_tm i).eval #[Value.ref b] s none [] s = some (.ref (sa i)) := by
  have hw : ∀ i, i < 35 → ∀ w ∈ lw_nw i, w.before #[Value.ref b] s = true := fun i hi w hw => hq w (List.mem_cons_of_mem _ (List.mem_cons_of_mem _ (List.mem_flatMap.mpr ⟨i, lw_no_in i hi, hw⟩)))
  have hle : ∀ i, i < 35 → (Cond.eq (.length (.field (lw_tm i) "java/lang/String" "value" "[B")) (.int (Int32.ofNat (ax_ln i)))).before #[Value.ref b] s = true := fun i hi => hw i hi _ (List.mem_of_getElem? (i := 3) rfl)
  have hel : ∀ i, i < 35 → ∀ j, j < ax_ln i → (Cond.eq (.elem (.field (lw_tm i) "java/lang/String" "value" "[B") (.int (Int32.ofNat j))) (.int (ax_by i j))).before #[Value.ref b] s = true := fun i hi j hj => hw i hi _ (List.mem_cons_of_mem _ (List.mem_cons_of_mem _ (List.mem_cons_of_mem _ (List.mem_cons_of_mem _ (List.mem_map.mpr ⟨j, List.mem_range.mpr hj, rfl⟩)))))
  have hne : ∀ i j, i < 35 → j < 35 → i ≠ j → (lw_tm i).eval #[Value.ref b] s none [] s ≠ (lw_tm j).eval #[Value.ref b] s none [] s := by
    intro i j hi hj hij e
    have e1 := lw_eqf e "java/lang/String" "value" "[B"
    have e2 := lw_eql e1
    rw [va_eqt (hle i hi), va_eqt (hle j hj)] at e2
    have e3 : Int32.ofNat (ax_ln i) = Int32.ofNat (ax_ln j) := by injection e2 with e2; injection e2
    have e4 := lw_ofNat (ax_ln_ok i hi).2.2 (ax_ln_ok j hj).2.2 e3
    rcases lw_apart i hi j hj hij with q | ⟨k, hk, q⟩
    · exact q e4
    · have e5 := lw_eqe e1 (.int (Int32.ofNat k))
      rw [va_eqt (hel i hi k hk), va_eqt (hel j hj k (by omega))] at e5
      injection e5 with e5
      injection e5 with e5
      exact q e5
  have hex : ∀ i, i < 35 → (Cond.exactly (lw_tm i) "java/lang/String").before #[Value.ref b] s = true := fun i hi => hw i hi _ (List.mem_of_getElem? (i := 0) rfl)
  refine vk_Sof (tm := lw_tm) (fun i hi => ?_) hex (fun i hi => hw i hi _ (List.mem_of_getElem? (i := 1) rfl)) (fun i hi => hw i hi _ (List.mem_of_getElem? (i := 2) rfl)) hle hel (fun i j hi hj hij => Or.inl ?_) (fun a ha => Nat.not_le.mpr ha)
  · have := (ax_ln_ok i hi).2.2
    show ax_ln i < 2 ^ 31
    omega
  · exact lw_neq (hex i hi) (hex j hj) (hne i j hi hj hij)

set_option maxHeartbeats 4000000 in
/-- what holds at the law's entry, as the abstract machine's contracts ask for it -/
theorem lw_facts {p : Program} {s : State} {m : MethodId} {meth : Method} {c : Code} {b L : Nat} {xs : Nat → Int32} (C0 : lw_At p s m meth c b L xs) : ∃ (D : va_G) (cy : Nat → ClassId) (sa sv : Nat → Nat), va_K D ax_cl (ax_tys cy) s ∧ ax_G cy sa sv (fun q => s.heap.size ≤ q) s s.heap := by
  obtain ⟨hx, hb, hr, hml, hown, hts, hX, hbl, hlk, hgv⟩ := C0
  have hq0 := flat_of_before _ hgv
  have hq : ∀ w ∈ lw_nl, w.before #[Value.ref b] s = true := fun w hw => hq0 w (ax_sub_mem lw_nl_ok w hw)
  have htb : ∀ w ∈ ax_tb, w.before #[Value.ref b] s = true := fun w hw => hts w (List.mem_filter.mp hw).1
  have hA : ∀ a : Nat, a < s.heap.size → ¬ (fun q => s.heap.size ≤ q) a := fun a ha => Nat.not_le.mpr ha
  obtain ⟨sa, sv, hS, hsa⟩ := lw_strs hq
  have hk : ∀ c : Nat, ∃ q : ClassId × (Nat → Nat), c < 13 → u_Kn s (ax_oc c) (ax_tx c) (ax_fn c) q.1 q.2 := by
    intro c
    by_cases hc : c < 13
    · obtain ⟨cC, iS, h⟩ := u_known (C := ax_oc c) (T := ax_tx c) (N := ax_fn c) htb (ax_lays hc) (htb _ (ax_inst hc).1)
      exact ⟨(cC, iS), fun _ => h⟩
    · exact ⟨(0, fun _ => 0), fun h => absurd h hc⟩
  obtain ⟨f, hf⟩ := Classical.skolem.mp hk
  obtain ⟨cI, cA, kA, o1, o2, o3, o4⟩ := lw_over (hts _ lw_ao)
  obtain ⟨c0, a1, a2, a3⟩ := lw_arr (hts _ lw_ac_int) (fun cA h => h)
  obtain ⟨c1, b1, b2, b3⟩ := lw_arr (hts _ lw_ac_char) (fun cA h => h)
  obtain ⟨c2, d1, d2, d3⟩ := lw_arr (hts _ lw_ac_byte) (fun cA h => h)
  obtain ⟨c3, e1, e2, e3⟩ := lw_arr (hts _ lw_ac_long) (fun cA h => h)
  have ec : c0 = cI := by
    have q : s.vm.findClass "[I" = some c0 := a1
    rw [o1] at q
    injection q with q
    exact q.symm
  subst ec
  have hz : ArrOfT s cA (.array .int) := fun n z => ⟨fun k h => (by cases h), kA, o2, c0, o3⟩
  refine ⟨(fun c => (f c).1, fun c => (f c).2), fun k => if k = 20 then c0 else if k = 21 then c1 else if k = 22 then c2 else if k = 23 then c3 else cA, sa, sv, ⟨fun k q hq => ?_, fun k q hq => ?_⟩, hS, ?_, ?_, ?_, ?_, ?_, ?_⟩
  · have hk : k < 13 := (List.getElem?_eq_some_iff.mp hq).1
    rw [ax_cls hk] at hq
    cases hq
    exact hf k hk
  · have hk : k < 5 := (List.getElem?_eq_some_iff.mp hq).1
    rcases (show k = 0 ∨ k = 1 ∨ k = 2 ∨ k = 3 ∨ k = 4 by omega) with rfl | rfl | rfl | rfl | rfl
    · cases hq; exact ⟨a2, a3⟩
    · cases hq; exact ⟨b2, b3⟩
    · cases hq; exact ⟨d2, d3⟩
    · cases hq; exact ⟨e2, e3⟩
    · cases hq; exact ⟨hz, o4⟩
  · intro k x hx
    have hk : k < 35 := (List.getElem?_eq_some_iff.mp hx).1
    have ex : lw_sx k = x := by unfold lw_sx; rw [List.getD_eq_getElem?_getD, hx]; rfl
    have h1 := ax_sub_mem lw_po_ok _ (List.mem_map.mpr ⟨k, lw_po_in k hk, rfl⟩)
    have h2 := hts _ (List.mem_append_right _ h1)
    have h3 := hsa k hk
    unfold lw_tm at h3
    rw [ex] at h2 h3
    exact vk_R.of h2 h3
  · exact va_Zof (hts _ lw_ls) (hts _ lw_is) (va_eqt (hq _ (List.mem_of_getElem? (i := 0) rfl))) hA
  · exact fun a i b n d h hm => va_Nw.of rfl (hts _ hm)
  · exact fun a i x h hm => va_Nw.of rfl (hts _ hm)
  · exact ⟨kA, o2, o3⟩
  · exact va_Zqof (hts _ lw_lp) (hts _ lw_ip) (hq _ (List.mem_of_getElem? (i := 1) rfl)) hA
