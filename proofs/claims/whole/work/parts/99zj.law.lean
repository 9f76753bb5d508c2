/-! THE LAW: two worlds, a call over one of them; the state of the law's loop -/
section LWC
variable {p : Program} {l : Launch} {e : Env} {s : State} {m : MethodId} {below : List Frame} {meth : Method} {c : Code} {b : Nat} {Q : State → Prop} {D : va_G} {cy : Nat → ClassId} {sa sv : Nat → Nat} {X : va_W} {sc sc' : ax_S} {ad : Nat → Nat}
theorem lw_rm0 {x : Nat} (h : x ≤ 40) : (ax_rm 50 0 0).frames + 1 ≤ room_1.frames ∧ 8 + (x + 11) + (ax_rm 50 0 0).locals ≤ room_1.locals := by
  have h1 : (ax_rm 50 0 0).locals = 3712 := rfl
  have h2 : (ax_rm 50 0 0).frames = 58 := rfl
  have h3 : room_1.locals = 84000 := rfl
  have h4 : room_1.frames = 2048 := rfl
  rw [h1, h2, h3, h4]
  omega
set_option maxHeartbeats 4000000 in
theorem lw_call0 {H : Heap} {locs : List Loc} {cells slots pc mm idx : Nat} {ls : Array Slot} {st rest : List Value} {as : List ax_v} {v : Option ax_v} {Mc : ax_M} (hx : p.tables.exec = Jvm.exec) (hb : c.code = code) (hown : s.vm.findClass (ax_oc 13) = some m.cls) (hts : ∀ w ∈ ax_tb, w.before #[Value.ref b] s = true) (hK : va_K D ax_cl (ax_tys cy) s) (hG : ax_G cy sa sv (fun q => s.heap.size ≤ q) s s.heap)
    (hw : ax_wf sc) (hsa : ∀ j, ad (1000000 + j) = sa j) (hC : ax_C 50 mm (.inr (.inr (some 0)) :: as) sc v sc') (hm : ax_mr 13 idx = some (mm, false)) (hMc : ax_T[mm]? = some Mc) (hna : as.length + 1 = Mc.2.1) (hst : Mc.2.2.2.2.2.1 = false) (ho1 : 0 < sc.1) (ho2 : (ax_K sc 0).1 = Mc.1)
    (hP : va_P D ax_cl (ax_wd cy sc ad ++ X) H) (hD : va_D (fun q => s.heap.size ≤ q) (ax_wd cy sc ad ++ X)) (hS : va_S (fun q => s.heap.size ≤ q) s.heap H locs)
    (hd : (decode code pc = .ok (.invokevirtual idx, 3) ∧ Mc.2.2.2.2.1 = false) ∨ (decode code pc = .ok (.invokespecial idx, 3) ∧ Mc.2.2.2.2.1 = true)) (hstk : st = (as.map (ax_z ad)).reverse ++ .ref (ad 0) :: rest) (hcw : ((rest.map fun v => v.category)).sum ≤ 8) (hsz : ls.size = c.maxLocals) (hf1 : cells + (sc'.1 - sc.1) ≤ room_1.cells) (hf2 : slots + (sc'.2.1 - sc.2.1) ≤ room_1.slots)
    (k : ∀ (ad' : Nat → Nat) (H1 : Heap) (locs1 : List Loc), (∀ i, i < sc.1 ∨ 1000000 ≤ i → ad' i = ad i) → va_P D ax_cl (ax_wd cy sc' ad' ++ X) H1 → va_D (fun q => s.heap.size ≤ q) (ax_wd cy sc' ad' ++ X) → va_S (fun q => s.heap.size ≤ q) s.heap H1 locs1 → W p l e room_1 s m #[Value.ref b] below meth c H1 locs1 (cells + (sc'.1 - sc.1)) (slots + (sc'.2.1 - sc.2.1)) Q (F0 m (pc + 3) ls (v.toList.map (ax_z ad) ++ rest))) :
    W p l e room_1 s m #[Value.ref b] below meth c H locs cells slots Q (F0 m pc ls st) := by
  have hlt := ax_lt hMc
  obtain ⟨a1, a2, a3, a4, a5, a6, a7, a8, a9, a10, a11⟩ := ax_fact hMc
  have hyx : ax_yx mm = ax_yn mm := by
    unfold ax_yx
    rw [if_neg (by omega), if_neg (by omega), if_neg (by omega), if_neg (by omega)]
  have hlk := ax_mr_ok hm
  rw [hyx] at hlk
  have hmet := ax_sound 50 mm _ sc v sc' hC l D cy sa sv ad H.size hw hsa
  have hP1 : va_P D ax_cl (ax_wd cy sc ad) H := fun j q hq => hP j q (by rw [List.getElem?_append_left (List.getElem?_eq_some_iff.mp hq).1]; exact hq)
  have atX : ∀ j q, X[j]? = some q → (ax_wd cy sc ad ++ X)[(ax_wd cy sc ad).length + j]? = some q := fun j q hq => by rw [List.getElem?_append_right (Nat.le_add_right _ _), Nat.add_sub_cancel_left]; exact hq
  have hPX : va_P D ax_cl X H := fun j q hq => hP _ q (atX j q hq)
  have at1 : ∀ j q, (ax_wd cy sc ad)[j]? = some q → (ax_wd cy sc ad ++ X)[j]? = some q := fun j q hq => by rw [List.getElem?_append_left (List.getElem?_eq_some_iff.mp hq).1]; exact hq
  have hD1 : va_D (fun q => s.heap.size ≤ q) (ax_wd cy sc ad) := ⟨fun i j x y h1 h2 h3 => hD.1 i j x y (at1 i x h1) (at1 j y h2) h3, fun i x h1 => hD.2 i x (at1 i x h1)⟩
  have hDX : va_D (fun q => s.heap.size ≤ q) X := ⟨fun i j x y h1 h2 h3 => by
    have := hD.1 _ _ x y (atX i x h1) (atX j y h2) h3
    omega, fun i x h1 => hD.2 _ x (atX i x h1)⟩
  have apart : ∀ (j : Nat) (q : Nat × va_E), X[j]? = some q → q.1 < H.size ∧ ¬ va_A (ax_wd cy sc ad) H.size q.1 := by
    intro j q hq
    have h1 := (hPX j q hq).lt
    refine ⟨h1, fun h => ?_⟩
    rcases h with ⟨i, x, hi⟩ | h
    · have h2 := hD.1 _ _ _ _ (at1 i _ hi) (atX j q hq) rfl
      have h3 := (List.getElem?_eq_some_iff.mp hi).1
      omega
    · omega
  have hF : ∀ q, va_A (ax_wd cy sc ad) H.size q → s.heap.size ≤ q := by
    intro q hq
    rcases hq with ⟨i, x, hi⟩ | hq
    · exact hD1.2 i _ hi
    · exact Nat.le_trans hS.1 hq
  have hmL : ax_ml mm = Mc.2.2.1 := by unfold ax_ml; rw [hMc]
  have hpre : ∀ U : State, U.heap = H → s.WarmedH U.vm → ax_Pc D cy sa sv ad (.inr (.inr (some 0)) :: as) sc H.size (((.inr (.inr (some 0)) :: as).map (ax_z ad)).toArray) U := by
    intro U hU hW
    exact ⟨rfl, by rw [hU], by rw [hU]; exact hP1, va_K.moved hW.alike hK, ⟨hD1.1, fun _ _ _ => trivial⟩, hG.at hW hU hS.2.1 hF⟩
  have hroom : (ax_rm 50 (sc'.1 - sc.1) (sc'.2.1 - sc.2.1)).frames + 1 ≤ room_1.frames ∧ 8 + (ax_ml mm + 11) + (ax_rm 50 (sc'.1 - sc.1) (sc'.2.1 - sc.2.1)).locals ≤ room_1.locals := by
    rw [hmL]
    exact lw_rm0 a6
  obtain ⟨b1, b2, b3, b4⟩ := a9 hst
  rw [if_neg (by rw [hst]; decide)] at a4
  have hlen : (as.map (ax_z ad)).length = Mc.2.1 - 1 := by
    rw [List.length_map, ← hna]
    rfl
  have hrecv : ∃ cellB : Cell, H[ad 0]? = some cellB ∧ cellB.vm.isStatics = false ∧ s.vm.findClass (ax_yn mm).cls = some cellB.cls := by
    have h := va_recv hK hP1 (ci := Mc.1) (q0 := 0) (a := ad 0) (ax_cls b2) (by rw [ax_wd_get ho1, ax_e_obj ho2 b2])
    rw [← a2]
    exact h
  have hrun : ∃ aa, va_Run p l e room_1 s m #[Value.ref b] below meth c H locs cells slots (sc'.1 - sc.1) (sc'.2.1 - sc.2.1) (F0 m pc ls st) rest (ax_Qc D cy ad sc sc' H.size v aa) (va_A (ax_wd cy sc ad) H.size) := by
    rcases hd with ⟨hd, hini⟩ | ⟨hd, hini⟩
    · exact ⟨_, va_runV (As := as.map (ax_z ad)) (b := ad 0) (C := (ax_yn mm).cls) ⟨hx, hb, rfl, hown, hts⟩ hmet ⟨callB_of (Mc.2.1 - 1) hts (ax_goodIn mm hlt) rfl rfl rfl (hts _ a10) (hts _ (hlk.1 rfl)) ⟨a3.1, a3.2, a4⟩ hroom, hts _ b3, hts _ (b4 hini)⟩ ⟨ax_blind D cy sa sv ad _ sc H.size, hrecv, hpre⟩ rfl hlen hsz hstk (lv_room hcw) hd ⟨hf1, hf2⟩⟩
    · have hret : ax_yr mm = none := ax_init_ret hMc hini
      have hcd : ax_cdw mm = Cond.code (ax_yn mm) (ax_yb mm) (ax_ml mm) none := by unfold ax_cdw; rw [hret]
      exact ⟨_, va_runI (As := as.map (ax_z ad)) (b := ad 0) ⟨hx, hb, rfl, hown, hts⟩ hmet ⟨callB_of (Mc.2.1 - 1) hts (ax_goodIn mm hlt) (by rw [hcd]) rfl rfl (hts _ a10) (hts _ (hlk.1 rfl)) ⟨a3.1, a3.2, a4⟩ hroom, a7.mpr hini, hts _ b3⟩ ⟨ax_blind D cy sa sv ad _ sc H.size, hpre⟩ rfl hlen hsz hstk (lv_room hcw) hd ⟨hf1, hf2⟩⟩
  obtain ⟨aa, hrun⟩ := hrun
  have hle := ax_C_le 50 mm _ sc v sc' hC
  have hvi := ax_C_v hC (ad := ad)
  have go : ∀ (ad' : Nat → Nat) (t : State) (H1 : Heap) (locs1 : List Loc), t.heap = H1 → ax_B D cy ad sc sc' H.size ad' t → (∀ q : Nat, q < H.size → ¬ va_A (ax_wd cy sc ad) H.size q → H1[q]? = H[q]?) → va_S (fun q => s.heap.size ≤ q) s.heap H1 locs1 →
      W p l e room_1 s m #[Value.ref b] below meth c H1 locs1 (cells + (sc'.1 - sc.1)) (slots + (sc'.2.1 - sc.2.1)) Q (F0 m (pc + 3) ls (v.toList.map (ax_z ad) ++ rest)) := by
    intro ad' t H1 locs1 ht hB hk hS1
    obtain ⟨q1, q2, q3, q4⟩ := hB
    rw [ht] at q2
    refine k ad' H1 locs1 q1 (va_P.app q2 (fun j q hq => (hPX j q hq).kept (hk q.1 (apart j q hq).1 (apart j q hq).2))) (va_D.app ⟨q4.1, fun j q hq => hF _ (q4.2 j q hq)⟩ hDX (fun i j x y h1 h2 h3 => (apart j y h2).2 (by rw [← h3]; exact q4.2 i x h1))) hS1
  clear k hmet hpre hvi
  match v, hrun, go with
  | none, hrun, go => exact va_callv (a := aa) hrun hS (fun q _ h => hF q h) hF (fun u t H1 locs1 ht _ _ hB _ hk hS1 => go u t H1 locs1 ht hB hk hS1)
  | some (.inl x), hrun, go =>
    refine va_calli (a := aa) hrun hS (fun q _ h => hF q h) hF (fun a u t H1 locs1 ht _ hw hB _ hk hS1 => ?_)
    rw [hw]
    exact go u t H1 locs1 ht hB hk hS1
  | some (.inr (.inl x)), hrun, go =>
    refine va_calll (a := aa) hrun hS (fun q _ h => hF q h) hF (fun a u t H1 locs1 ht _ hw hB _ hk hS1 => ?_)
    rw [hw]
    exact go u t H1 locs1 ht hB hk hS1
  | some (.inr (.inr x)), hrun, go =>
    intro T hT X
    obtain ⟨v, st₀, t, T', L, h0, X', hL, e1, e2, hQ, st⟩ := hrun T hT X
    exact hQ.elim
theorem lw_swP {w1 w2 : va_W} {H : Heap} (h : va_P D ax_cl (w1 ++ w2) H) : va_P D ax_cl (w2 ++ w1) H := by
  intro k q hk
  rcases List.mem_append.mp (List.mem_of_getElem? hk) with g | g
  · obtain ⟨j, hj⟩ := List.getElem?_of_mem (List.mem_append_right w1 g)
    exact h j q hj
  · obtain ⟨j, hj⟩ := List.getElem?_of_mem (List.mem_append_left w2 g)
    exact h j q hj
theorem lw_swD {A : Nat → Prop} {w1 w2 : va_W} (h : va_D A (w1 ++ w2)) : va_D A (w2 ++ w1) := by
  have at1 : ∀ j q, w1[j]? = some q → (w1 ++ w2)[j]? = some q := fun j q hq => by rw [List.getElem?_append_left (List.getElem?_eq_some_iff.mp hq).1]; exact hq
  have at2 : ∀ j q, w2[j]? = some q → (w1 ++ w2)[w1.length + j]? = some q := fun j q hq => by rw [List.getElem?_append_right (Nat.le_add_right _ _), Nat.add_sub_cancel_left]; exact hq
  refine va_D.app ⟨fun i j x y h1 h2 h3 => ?_, fun i x h1 => h.2 _ x (at2 i x h1)⟩ ⟨fun i j x y h1 h2 h3 => h.1 i j x y (at1 i x h1) (at1 j y h2) h3, fun i x h1 => h.2 _ x (at1 i x h1)⟩ (fun i j x y h1 h2 h3 => ?_)
  · have := h.1 _ _ x y (at2 i x h1) (at2 j y h2) h3
    omega
  · have h4 := h.1 _ _ x y (at2 i x h1) (at1 j y h2) h3
    have h5 := (List.getElem?_eq_some_iff.mp h2).1
    omega
end LWC
/-- what stays, all through the law -/
def lw_C (p : Program) (s : State) (m : MethodId) (meth : Method) (c : Code) (b L : Nat) (xs : Nat → Int32) (D : va_G) (cy : Nat → ClassId) (sa sv adc adr : Nat → Nat) : Prop :=
  p.tables.exec = Jvm.exec ∧ c.code = code ∧ meth.sig.returnType = ret ∧ c.maxLocals = 4 ∧ s.vm.findClass (ax_oc 13) = some m.cls ∧ (∀ w ∈ ax_tb, w.before #[Value.ref b] s = true) ∧ va_X b L xs s s.heap ∧ b < s.heap.size ∧ meth.locks = false ∧ va_K D ax_cl (ax_tys cy) s ∧ ax_G cy sa sv (fun q => s.heap.size ≤ q) s s.heap ∧ (∀ j, adc (1000000 + j) = sa j) ∧ (∀ j, adr (1000000 + j) = sa j) ∧ L ≤ 384
def lw_lv (b : Nat) (adc adr : Nat → Nat) (i : Nat) : List (Nat × Value) := [(3, .int (Int32.ofNat i)), (2, .ref (adr 0)), (1, .ref (adc 0)), (0, .ref b)]
/-- from the law's place pc, with the two stores, the law comes to its end -/
def lw_W (p : Program) (l : Launch) (e : Env) (s : State) (m : MethodId) (below : List Frame) (meth : Method) (c : Code) (b : Nat) (D : va_G) (cy : Nat → ClassId) (adc adr : Nat → Nat) (i pc : Nat) (st : List Value) (sc sr : ax_S) : Prop :=
  ∀ (H : Heap) (locs : List Loc) (ls : Array Slot), lv_has ls 4 (lw_lv b adc adr i) → va_P D ax_cl (ax_wd cy sc adc ++ ax_wd cy sr adr) H → va_D (fun q => s.heap.size ≤ q) (ax_wd cy sc adc ++ ax_wd cy sr adr) → va_S (fun q => s.heap.size ≤ q) s.heap H locs →
    W p l e room_1 s m #[Value.ref b] below meth c H locs 176 26704 (lw_Z below #[Value.ref b] s) (F0 m pc ls st)
section LWS
variable {p : Program} {l : Launch} {e : Env} {s : State} {m : MethodId} {below : List Frame} {meth : Method} {c : Code} {b L : Nat} {xs : Nat → Int32} {D : va_G} {cy : Nat → ClassId} {sa sv adc adr : Nat → Nat} {i pc : Nat} {st : List Value} {sc sr : ax_S}
theorem lw_1 (C : lw_C p s m meth c b L xs D cy sa sv adc adr) (d : decode code pc = .ok (.aload_n 1, 1)) (k : lw_W p l e s m below meth c b D cy adc adr i (pc + 1) (.ref (adc 0) :: st) sc sr) : lw_W p l e s m below meth c b D cy adc adr i pc st sc sr := fun H locs ls hl hP hD hS => lv_aload_n C.1 C.2.1 d rfl (lv_at hl 2 rfl) (k H locs ls hl hP hD hS)
theorem lw_2 (C : lw_C p s m meth c b L xs D cy sa sv adc adr) (d : decode code pc = .ok (.aload_n 2, 1)) (k : lw_W p l e s m below meth c b D cy adc adr i (pc + 1) (.ref (adr 0) :: st) sc sr) : lw_W p l e s m below meth c b D cy adc adr i pc st sc sr := fun H locs ls hl hP hD hS => lv_aload_n C.1 C.2.1 d rfl (lv_at hl 1 rfl) (k H locs ls hl hP hD hS)
/-- the five instructions that push script[i + j] -/
def lw_g (pc j : Nat) : Bool := decide (decode code pc = .ok (.aload_n 0, 1)) && decide (decode code (pc + 1) = .ok (.iload_n 3, 1)) && decide (decode code (pc + 2) = .ok (.iconst (j : Int), 1)) && decide (decode code (pc + 3) = .ok (.iadd, 1)) && decide (decode code (pc + 4) = .ok (.iaload, 1))
theorem lw_ix {i j : Nat} (h : i + j < 1000) : Int32.ofNat i + Int32.ofInt (j : Int) = Int32.ofInt ((i + j : Nat) : Int) := by
  rw [show Int32.ofNat i = Int32.ofInt (i : Int) from rfl, ← Int32.ofInt_add]
  rfl
theorem lw_arg (C : lw_C p s m meth c b L xs D cy sa sv adc adr) {j : Nat} (hij : i + j < L) (d : lw_g pc j = true) (k : lw_W p l e s m below meth c b D cy adc adr i (pc + 5) (.int (xs (i + j)) :: st) sc sr) : lw_W p l e s m below meth c b D cy adc adr i pc st sc sr := by
  intro H locs ls hl hP hD hS
  obtain ⟨hx, hb, hr, hml, hown, hts, hX, hbl, hlk, hK, hG, e1, e2, hL⟩ := C
  unfold lw_g at d
  simp only [Bool.and_eq_true, decide_eq_true_eq] at d
  obtain ⟨⟨⟨⟨d0, d1⟩, d2⟩, d3⟩, d4⟩ := d
  have hbA : ¬ (fun q : Nat => s.heap.size ≤ q) b := Nat.not_le.mpr hbl
  have e3 : ax_w ((i + j : Nat) : Int) = ((i + j : Nat) : Int) := ax_w_idn (by omega)
  refine lv_aload_n hx hb d0 rfl (lv_at hl 3 rfl) ?_
  refine lv_iload_n hx hb d1 rfl (lv_at hl 0 rfl) ?_
  refine lv_iconst hx hb d2 rfl ?_
  refine lv_iadd hx hb d3 ?_
  rw [lw_ix (by omega)]
  refine va_sld hx hb hX hbl hbA hS (ax_i_in (by rw [e3]; omega)) d4 ?_
  rw [ax_i_cl, e3, Int.toNat_natCast]
  exact k H locs ls hl hP hD hS
def lw_ga (pc n : Nat) : Bool := (List.range n).all (fun j => lw_g (pc + 5 * j) (1 + j))
theorem lw_args (C : lw_C p s m meth c b L xs D cy sa sv adc adr) : ∀ (n : Nat), i + n < L → lw_ga pc n = true → lw_W p l e s m below meth c b D cy adc adr i (pc + 5 * n) (((List.range n).map (fun j => Value.int (xs (i + (1 + j))))).reverse ++ st) sc sr → lw_W p l e s m below meth c b D cy adc adr i pc st sc sr := by
  intro n
  induction n with
  | zero => intro _ _ k; exact k
  | succ n ih =>
    intro hL h k
    unfold lw_ga at h
    rw [List.range_succ, List.all_append, Bool.and_eq_true] at h
    refine ih (by omega) h.1 (lw_arg C (j := 1 + n) (by omega) (by simpa using h.2) ?_)
    rw [List.range_succ, List.map_append, List.reverse_append] at k
    exact k
theorem lw_callC (C : lw_C p s m meth c b L xs D cy sa sv adc adr) {sc' : ax_S} {mm idx : Nat} {as : List ax_v} {x : ax_v} {Mc : ax_M} {rest : List Value} (hC : ax_C 50 mm (.inr (.inr (some 0)) :: as) sc (some x) sc') (hw : ax_wf sc) (hn : sc'.1 = sc.1) (hn2 : sc'.2.1 = sc.2.1) (hm : ax_mr 13 idx = some (mm, false)) (hMc : ax_T[mm]? = some Mc) (hna : as.length + 1 = Mc.2.1) (hst : Mc.2.2.2.2.2.1 = false) (hini : Mc.2.2.2.2.1 = false) (ho1 : 0 < sc.1) (ho2 : (ax_K sc 0).1 = Mc.1)
    (hd : decode code pc = .ok (.invokevirtual idx, 3)) (hstk : st = (as.map (ax_z adc)).reverse ++ .ref (adc 0) :: rest) (hcw : ((rest.map fun v => v.category)).sum ≤ 8) (k : lw_W p l e s m below meth c b D cy adc adr i (pc + 3) (ax_z adc x :: rest) sc' sr) : lw_W p l e s m below meth c b D cy adc adr i pc st sc sr := by
  intro H locs ls hl hP hD hS
  obtain ⟨hx, hb, hr, hml, hown, hts, hX, hbl, hlk, hK, hG, e1, e2, hL⟩ := C
  have z1 : sc'.1 - sc.1 = 0 := by omega
  have z2 : sc'.2.1 - sc.2.1 = 0 := by omega
  refine lw_call0 hx hb hown hts hK hG hw e1 hC hm hMc hna hst ho1 ho2 hP hD hS (Or.inl ⟨hd, hini⟩) hstk hcw (by rw [hml]; exact hl.1) (by rw [z1]; exact Nat.le_of_ble_eq_true rfl) (by rw [z2]; exact Nat.le_of_ble_eq_true rfl) (fun ad' H1 locs1 ha hP1 hD1 hS1 => ?_)
  have ew : ax_wd cy sc' ad' = ax_wd cy sc' adc := ax_wd_ad ((ax_C_le 50 mm _ sc _ sc' hC).2.2 hw) (fun j hj => ha j (Or.inl (by omega)))
  rw [ew] at hP1 hD1
  rw [z1, z2]
  exact k H1 locs1 ls hl hP1 hD1 hS1
theorem lw_callR (C : lw_C p s m meth c b L xs D cy sa sv adc adr) {sr' : ax_S} {mm idx : Nat} {as : List ax_v} {x : ax_v} {Mc : ax_M} {rest : List Value} (hC : ax_C 50 mm (.inr (.inr (some 0)) :: as) sr (some x) sr') (hw : ax_wf sr) (hn : sr'.1 = sr.1) (hn2 : sr'.2.1 = sr.2.1) (hm : ax_mr 13 idx = some (mm, false)) (hMc : ax_T[mm]? = some Mc) (hna : as.length + 1 = Mc.2.1) (hst : Mc.2.2.2.2.2.1 = false) (hini : Mc.2.2.2.2.1 = false) (ho1 : 0 < sr.1) (ho2 : (ax_K sr 0).1 = Mc.1)
    (hd : decode code pc = .ok (.invokevirtual idx, 3)) (hstk : st = (as.map (ax_z adr)).reverse ++ .ref (adr 0) :: rest) (hcw : ((rest.map fun v => v.category)).sum ≤ 8) (k : lw_W p l e s m below meth c b D cy adc adr i (pc + 3) (ax_z adr x :: rest) sc sr') : lw_W p l e s m below meth c b D cy adc adr i pc st sc sr := by
  intro H locs ls hl hP hD hS
  obtain ⟨hx, hb, hr, hml, hown, hts, hX, hbl, hlk, hK, hG, e1, e2, hL⟩ := C
  have z1 : sr'.1 - sr.1 = 0 := by omega
  have z2 : sr'.2.1 - sr.2.1 = 0 := by omega
  refine lw_call0 hx hb hown hts hK hG hw e2 hC hm hMc hna hst ho1 ho2 (lw_swP hP) (lw_swD hD) hS (Or.inl ⟨hd, hini⟩) hstk hcw (by rw [hml]; exact hl.1) (by rw [z1]; exact Nat.le_of_ble_eq_true rfl) (by rw [z2]; exact Nat.le_of_ble_eq_true rfl) (fun ad' H1 locs1 ha hP1 hD1 hS1 => ?_)
  have ew : ax_wd cy sr' ad' = ax_wd cy sr' adr := ax_wd_ad ((ax_C_le 50 mm _ sr _ sr' hC).2.2 hw) (fun j hj => ha j (Or.inl (by omega)))
  rw [ew] at hP1 hD1
  rw [z1, z2]
  exact k H1 locs1 ls hl (lw_swP hP1) (lw_swD hD1) hS1
end LWS
