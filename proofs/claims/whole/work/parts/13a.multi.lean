/-! new int[N][K]: the machine's own making, row by row -/
/-- the heap behind the first i rows -/
def ax_mi (H0 : Heap) (cA cI : ClassId) (N K i : Nat) (H : Heap) : Prop :=
  H.size = H0.size + 1 + i ∧ H[H0.size]? = some (arrV cA N (fun j => if j < i then .ref (H0.size + 1 + j) else .null)) ∧ (∀ j, j < i → H[H0.size + 1 + j]? = some (arrV cI K (fun _ => .int 0))) ∧ ∀ a, a < H0.size → H[a]? = H0[a]?
/-- the state behind the first i rows -/
def ax_fl (U : State) (cA cI : ClassId) (N K : Nat) (i : Nat) : State := match i with
  | 0 => U.pushCell (arrV cA N (fun j => if j < 0 then .ref (U.heap.size + 1 + j) else .null))
  | i + 1 => ((ax_fl U cA cI N K i).pushCell (arrV cI K (fun _ => .int 0))).setCell U.heap.size (arrV cA N (fun j => if j < i + 1 then .ref (U.heap.size + 1 + j) else .null))
theorem ax_fl_h (U : State) (cA cI : ClassId) (N K i : Nat) : ax_mi U.heap cA cI N K i (ax_fl U cA cI N K i).heap := by
  induction i with
  | zero => exact ⟨by simp [ax_fl], by simp [ax_fl], fun j h => absurd h (Nat.not_lt_zero j), fun a h => State.heap_pushCell_of_lt _ _ h⟩
  | succ i ih =>
    obtain ⟨h1, h2, h3, h4⟩ := ih
    have hlt : ∀ a, a < U.heap.size + 1 + i → ((ax_fl U cA cI N K i).pushCell (arrV cI K (fun _ => .int 0))).heap[a]? = (ax_fl U cA cI N K i).heap[a]? := fun a ha => State.heap_pushCell_of_lt _ _ (by rw [h1]; exact ha)
    refine ⟨?_, ?_, fun j hj => ?_, fun a ha => ?_⟩
    · simp [ax_fl, State.setCell, h1]; omega
    · exact State.heap_setCell_self ((hlt _ (by omega)).trans h2)
    · show (((ax_fl U cA cI N K i).pushCell (arrV cI K (fun _ => .int 0))).setCell U.heap.size _).heap[U.heap.size + 1 + j]? = _
      rw [State.heap_setCell_other (show U.heap.size ≠ U.heap.size + 1 + j by omega)]
      by_cases e : j < i
      · rw [hlt _ (by omega)]; exact h3 j e
      · rw [show U.heap.size + 1 + j = (ax_fl U cA cI N K i).heap.size by rw [h1]; omega]
        exact State.heap_pushCell_size _ _
    · show (((ax_fl U cA cI N K i).pushCell (arrV cI K (fun _ => .int 0))).setCell U.heap.size _).heap[a]? = _
      rw [State.heap_setCell_other (show U.heap.size ≠ a by omega), hlt _ (by omega)]
      exact h4 a ha
theorem ax_fl_vm (U : State) (cA cI : ClassId) (N K i : Nat) : (ax_fl U cA cI N K i).vm = U.vm ∧ (ax_fl U cA cI N K i).slotsUsed = U.slotsUsed + (N + i * K) := by
  induction i with
  | zero => exact ⟨rfl, by simp [ax_fl, arrV_size]⟩
  | succ i ih => exact ⟨by simp [ax_fl, ih.1], by simp [ax_fl, ih.2, arrV_size, Nat.succ_mul]; omega⟩
theorem ax_fl_top (U : State) (f : JFrame) (cA cI : ClassId) (N K i : Nat) : ax_fl (U.setTop f) cA cI N K i = (ax_fl U cA cI N K i).setTop f := by
  induction i with
  | zero => rfl
  | succ i ih => simp only [ax_fl, ih, State.heap_setTop, State.pushCell_setTop, State.setCell_setTop]
theorem ax_fl_st {p : Program} {l : Launch} {e : Env} {R : Room} {s : State} {m : MethodId} {args : Array Value} {below : List Frame} {meth : Method} {c : Code} {U : State} {locs : List Loc} {cells slots : Nat} (X : Stand p l e R s m args below meth c U locs cells slots) (cA cI : ClassId) (N K i : Nat) :
    Stand p l e R s m args below meth c (ax_fl U cA cI N K i) (locs ++ (List.range i).map (fun j => (⟨U.heap.size, j⟩ : Loc))) (cells + (1 + i)) (slots + (N + i * K)) := by
  induction i with
  | zero =>
    have h := X.pushed (arrV cA N (fun j => if j < 0 then .ref (U.heap.size + 1 + j) else .null))
    rw [arrV_size] at h
    simpa [ax_fl] using h
  | succ i ih =>
    obtain ⟨h1, h2, h3, h4⟩ := ax_fl_h U cA cI N K i
    have q0 : U.heap.size < (ax_fl U cA cI N K i).heap.size := by rw [h1]; omega
    have hc : ((ax_fl U cA cI N K i).pushCell (arrV cI K (fun _ => .int 0))).heap[U.heap.size]? = some (arrV cA N (fun j => if j < i then .ref (U.heap.size + 1 + j) else .null)) := (State.heap_pushCell_of_lt _ _ q0).trans h2
    have h := (ih.pushed (arrV cI K (fun _ => .int 0))).stored hc i (.ref (U.heap.size + 1 + i))
    rw [arrV_size, arrV_store] at h
    have e1 : updV (fun j => if j < i then Value.ref (U.heap.size + 1 + j) else .null) i (.ref (U.heap.size + 1 + i)) = (fun j => if j < i + 1 then Value.ref (U.heap.size + 1 + j) else .null) := by
      funext j
      dsimp only [updV]
      by_cases q : j = i
      · subst q; rw [if_pos rfl, if_pos (by omega)]
      · rw [if_neg q]
        by_cases q2 : j < i
        · rw [if_pos q2, if_pos (by omega)]
        · rw [if_neg q2, if_neg (by omega)]
    rw [e1] at h
    have e2 : slots + (N + i * K) + K = slots + (N + (i + 1) * K) := by rw [Nat.succ_mul]; omega
    have e3 : cells + (1 + i) + 1 = cells + (1 + (i + 1)) := by omega
    rw [e2, e3, List.append_assoc] at h
    rw [List.range_succ, List.map_append]
    exact h
section AXM
variable {E : CtlPost} {e : Env} {d : Bool} {acts : List Action} {s : State}
theorem ax_mk1r {cI cc : ClassId} {kI : Class} {k : Int32} (hk : s.vm.classes[cI]? = some kI) (hkind : kI.kind = .array cc .int) (h0 : ¬ k < 0) (h1 : ¬ k.toNatClampNeg > e.platform.arrayLengthLimit) (h2 : ¬ k.toNatClampNeg * componentBytes .int > e.platform.maxHeapBytes) (h3 : s.heap.size < e.platform.maxCells) (h4 : s.slotsUsed + k.toNatClampNeg ≤ e.platform.maxSlots)
    {Q : Addr → Pre} (hq : ∀ acts', Q s.heap.size d acts' (s.pushCell (arrV cI k.toNatClampNeg (fun _ => .int 0)))) : wp (multianewarray.make cI [k]) Q E e d acts s := by
  rw [multianewarray.make]
  simp only [wp_bind', W.ite, h0, if_false, wp_pure', W.theClass, hk, hkind, Option.some.injEq, exists_eq_left']
  refine W.newArray_of hk hkind h1 h2 h3 h4 rfl (fun acts' => ?_)
  have h := hq acts'
  rw [← arrV_new] at h
  exact h
theorem ax_mk2r {cA cI cc : ClassId} {kA kI : Class} {n k : Int32} (hkA : s.vm.classes[cA]? = some kA) (hA : kA.kind = .array cI (.array .int)) (hkI : s.vm.classes[cI]? = some kI) (hI : kI.kind = .array cc .int) (hn : ¬ n < 0) (h0 : ¬ k < 0)
    (l1 : ¬ n.toNatClampNeg > e.platform.arrayLengthLimit) (l2 : ¬ n.toNatClampNeg * componentBytes (.array .int) > e.platform.maxHeapBytes) (h1 : ¬ k.toNatClampNeg > e.platform.arrayLengthLimit) (h2 : ¬ k.toNatClampNeg * componentBytes .int > e.platform.maxHeapBytes)
    (h3 : s.heap.size + (1 + n.toNatClampNeg) ≤ e.platform.maxCells) (h4 : s.slotsUsed + (n.toNatClampNeg + n.toNatClampNeg * k.toNatClampNeg) ≤ e.platform.maxSlots)
    {Q : Addr → Pre} (hq : ∀ d' acts', Q s.heap.size d' acts' (ax_fl s cA cI n.toNatClampNeg k.toNatClampNeg n.toNatClampNeg)) : wp (multianewarray.make cA [n, k]) Q E e d acts s := by
  generalize hN : n.toNatClampNeg = N at l1 l2 h3 h4 hq
  rw [multianewarray.make]
  simp only [wp_bind', W.ite, hn, if_false, wp_pure', W.theClass, hkA, hA, Option.some.injEq, exists_eq_left', hN]
  refine W.newArray_of hkA hA l1 l2 (by omega) (by have := Nat.zero_le (N * k.toNatClampNeg); omega) rfl (fun acts' => ?_)
  have hf : ([k].find? (· < 0)) = none := by simp [h0]
  simp only [hf]
  rw [ite_self, wp_bind', Std.Legacy.Range.forIn_eq_forIn_range', show ([:N] : Std.Legacy.Range).size = N by simp [Std.Legacy.Range.size]]
  have e0 : s.pushCell { cls := cA, slots := Array.replicate N .null } = ax_fl s cA cI N k.toNatClampNeg 0 := by
    show s.pushCell ({ cls := cA, slots := Array.replicate N .null, vm := .none } : Cell) = s.pushCell _
    rw [arrV_new]
    rfl
  rw [e0]
  refine wp_forIn_inv (fun rest s' => ∃ i, rest = List.range' i (N - i) ∧ i ≤ N ∧ s' = ax_fl s cA cI N k.toNatClampNeg i) _ _ ⟨0, by rw [Nat.sub_zero], Nat.zero_le N, rfl⟩ ?_ ?_
  · rintro x rest s' d' acts2 Q' ⟨i, hr, hi, rfl⟩ hnext
    have hlt : i < N := by
      rcases Nat.lt_or_ge i N with q | q
      · exact q
      · rw [show N - i = 0 by omega] at hr; cases hr
    rw [show N - i = (N - (i + 1)) + 1 by omega, List.range'_succ] at hr
    obtain ⟨rfl, rfl⟩ := List.cons.inj hr
    obtain ⟨f1, f2, f3, f4⟩ := ax_fl_h s cA cI N k.toNatClampNeg x
    obtain ⟨v1, v2⟩ := ax_fl_vm s cA cI N k.toNatClampNeg x
    have hmul : x * k.toNatClampNeg + k.toNatClampNeg ≤ N * k.toNatClampNeg := by
      have := Nat.mul_le_mul_right k.toNatClampNeg (show x + 1 ≤ N from hlt)
      rw [Nat.succ_mul] at this
      exact this
    simp only [wp_bind']
    refine ax_mk1r (by rw [v1]; exact hkI) hI h0 h1 h2 (by rw [f1]; omega) (by rw [v2]; omega) (fun acts3 => ?_)
    simp only [wp_bind', W.writeLoc, wp_pure']
    have q0 : s.heap.size < (ax_fl s cA cI N k.toNatClampNeg x).heap.size := by rw [f1]; omega
    refine ⟨_, (State.heap_pushCell_of_lt _ _ q0).trans f2, by simp [arrV], by rw [arrV_size]; exact hlt, ?_, hnext _ _ _ ⟨x + 1, rfl, hlt, ?_⟩⟩
    · simp [State.fitsSlot, State.slotType?, v1, hkA, hA, arrV, fits]
    · rw [f1, arrV_store]
      show _ = ((ax_fl s cA cI N k.toNatClampNeg x).pushCell (arrV cI k.toNatClampNeg (fun _ => .int 0))).setCell s.heap.size (arrV cA N (fun j => if j < x + 1 then .ref (s.heap.size + 1 + j) else .null))
      congr 2
      funext j
      dsimp only [updV]
      by_cases q : j = x
      · subst q; rw [if_pos rfl, if_pos (by omega)]
      · rw [if_neg q]
        by_cases q2 : j < x
        · rw [if_pos q2, if_pos (by omega)]
        · rw [if_neg q2, if_neg (by omega)]
  · rintro s' d' acts2 ⟨i, hr, hi, rfl⟩
    have e1 : i = N := by
      rcases Nat.lt_or_ge i N with q | q
      · rw [show N - i = (N - (i + 1)) + 1 by omega, List.range'_succ] at hr; cases hr
      · omega
    subst e1
    simp only [wp_pure']
    exact hq _ _
end AXM
set_option maxHeartbeats 4000000 in
theorem ax_mnaW {p : Program} {l : Launch} {e : Env} {R : Room} {s : State} {m : MethodId} {args : Array Value} {below : List Frame} {meth : Method} {c : Code} {Q : State → Prop} {H : Heap} {locs : List Loc} {cells slots : Nat} {cc : ByteArray} {own : String} {index pc : Nat} {ls : Array Slot} {rest : List Value} {cA cI c9 : ClassId} {kA kI : Class} {n k : Int32} {N K : Nat}
    (hexec : p.tables.exec = Jvm.exec) (hb : c.code = cc) (hown : s.vm.findClass own = some m.cls) (hlink : (Cond.classLink own index "[[I").before args s = true) (hfA : s.vm.findClass "[[I" = some cA) (hkA : s.vm.classes[cA]? = some kA) (hA : kA.kind = .array cI (.array .int)) (hkI : s.vm.classes[cI]? = some kI) (hI : kI.kind = .array c9 .int)
    (hn : ¬ n < 0) (h0 : ¬ k < 0) (hN : n.toNatClampNeg = N) (hK : k.toNatClampNeg = K) (hN6 : N ≤ 65536) (hK6 : K ≤ 65536) (hcells : cells + (1 + N) ≤ R.cells) (hslots : slots + (N + N * K) ≤ R.slots) (hdg : decode cc pc = .ok (.multianewarray index 2, 4))
    (kk : ∀ (H1 : Heap) (L : List Loc), ax_mi H cA cI N K N H1 → (∀ q ∈ L, q.base = H.size) → W p l e R s m args below meth c H1 (locs ++ L) (cells + (1 + N)) (slots + (N + N * K)) Q (F0 m (pc + 4) ls (.ref H.size :: rest))) :
    W p l e R s m args below meth c H locs cells slots Q (F0 m pc ls (.int k :: .int n :: rest)) := by
  intro T hT X
  subst hT; subst hb; subst hN; subst hK
  have hpl : e.platform.magicAccessors = ({} : Platform).magicAccessors := by rw [X.admits.platform]
  obtain ⟨c0, hfc0, hcl⟩ := Cond.classLink_spec hown hlink e.platform hpl
  cases hfA.symm.trans hfc0
  obtain ⟨hg1, hw1, -⟩ := State.classEntry (e := e) X.warmed hcl
  generalize T.vm.noted m.cls index (.cls cA) = vm1 at hg1 hw1
  obtain ⟨kA1, hkA1, eA⟩ := hw1.alike.2.2 _ _ hkA
  obtain ⟨kI1, hkI1, eI⟩ := hw1.alike.2.2 _ _ hkI
  have hA1 : kA1.kind = .array cI (.array .int) := by rw [eA]; exact hA
  have hI1 : kI1.kind = .array c9 .int := by rw [eI]; exact hI
  have X1 := X.noted hw1
  have XF := ax_fl_st X1 cA cI n.toNatClampNeg k.toNatClampNeg n.toNatClampNeg
  obtain ⟨t, a1, b1⟩ := kk _ _ (ax_fl_h (T.setVm vm1) cA cI n.toNatClampNeg k.toNatClampNeg n.toNatClampNeg) (fun q hq => by
    obtain ⟨j, -, rfl⟩ := List.mem_map.mp hq
    rfl) _ rfl XF
  refine ⟨t, ?_, b1⟩
  obtain ⟨hr1, hr2⟩ := X.roomAbove hcells hslots
  have l1 : ¬ n.toNatClampNeg > e.platform.arrayLengthLimit := by rw [Launch.admits_arrayLengthLimit X.admits]; omega
  have l2 : ¬ n.toNatClampNeg * componentBytes (.array .int) > e.platform.maxHeapBytes := by
    rw [Launch.admits_maxHeapBytes X.admits]; show ¬ n.toNatClampNeg * 4 > 536870912; omega
  have l3 : ¬ k.toNatClampNeg > e.platform.arrayLengthLimit := by rw [Launch.admits_arrayLengthLimit X.admits]; omega
  have l4 : ¬ k.toNatClampNeg * componentBytes .int > e.platform.maxHeapBytes := by
    rw [Launch.admits_maxHeapBytes X.admits]; show ¬ k.toNatClampNeg * 4 > 536870912; omega
  have hm : (F0 m pc ls (.int k :: .int n :: rest)).method = m := rfl
  jvm_step X.here [hexec, hdg]
  simp only [multianewarray.sem, wp_bind', W.resolveClassAt_links (State.method?_setTop (F0 m pc ls (.int k :: .int n :: rest)) X.here.top) hg1]
  rw [W.popN, if_neg (by decide)]
  refine ⟨F0 m pc ls (.int k :: .int n :: rest), State.topJava?_setTop' (s := T.setVm vm1) _ X.here.top, [.int n, .int k], rest, rfl, rfl, ?_⟩
  simp only [List.mapM_cons, List.mapM_nil, wp_bind', wp_pure']
  refine ax_mk2r (kA := kA1) (kI := kI1) hkA1 hA1 hkI1 hI1 hn h0 l1 l2 l3 l4 (by show T.heap.size + _ ≤ _; exact hr1) (by show T.slotsUsed + _ ≤ _; exact hr2) (fun d' acts' => ?_)
  have eS : ((T.setTop (F0 m pc ls (.int k :: .int n :: rest))).setVm vm1).setTop { F0 m pc ls (.int k :: .int n :: rest) with stack := rest } = (T.setVm vm1).setTop { F0 m pc ls (.int k :: .int n :: rest) with stack := rest } := by
    show ((T.setVm vm1).setTop (F0 m pc ls (.int k :: .int n :: rest))).setTop _ = _
    rw [State.setTop_setTop]
  rw [eS, ax_fl_top]
  simp only [wp_bind', W.mark, W.pushRef, State.topJava?_setTop' _ XF.here.top, Option.some.injEq, exists_eq_left', State.setTop_setTop, State.heap_setTop]
  intro acts
  simp [jvm, XF.here.top]
  exact a1
