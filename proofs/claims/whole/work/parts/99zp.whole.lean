/-! THE LAW: its start, and the claim (behind whole_start: the skeleton's own rows) -/
def y0_S (c : Nat) : ax_S := (1, ax_fn c, fun _ => (c, 0), fun _ _ => 0, fun _ _ => 0, fun _ _ => none)
theorem y0_nw (c : Nat) : ax_nw (0, 0, fun _ => (c, 0), fun _ _ => 0, fun _ _ => 0, fun _ _ => none) c 0 (ax_fn c) = y0_S c := by
  unfold ax_nw y0_S
  simp
def y0_ad (sa : Nat → Nat) (q : Nat) : Nat → Nat := fun i => if i < 1000000 then q else sa (i - 1000000)
theorem y0_ads (sa : Nat → Nat) (q j : Nat) : y0_ad sa q (1000000 + j) = sa j := by
  unfold y0_ad
  rw [if_neg (by omega), Nat.add_sub_cancel_left]
set_option maxHeartbeats 1000000 in
theorem lw_new0 {p : Program} {l : Launch} {e : Env} {s : State} {m : MethodId} {below : List Frame} {meth : Method} {c : Code} {b : Nat} {Q : State → Prop} {D : va_G} {cy : Nat → ClassId} {sa : Nat → Nat} {X : va_W} {H : Heap} {locs : List Loc} {cells slots pc idx ci : Nat} {ls : Array Slot} {st : List Value} (hx : p.tables.exec = Jvm.exec) (hb : c.code = code) (hown : s.vm.findClass (ax_oc 13) = some m.cls) (hts : ∀ w ∈ ax_tb, w.before #[Value.ref b] s = true) (hK : va_K D ax_cl (ax_tys cy) s)
    (hn : ax_nr 13 idx = some ci) (hc : ci < 13) (hP : va_P D ax_cl X H) (hD : va_D (fun q => s.heap.size ≤ q) X) (hS : va_S (fun q => s.heap.size ≤ q) s.heap H locs) (hd : decode code pc = .ok (.new idx, 3)) (hf1 : cells + 1 ≤ room_1.cells) (hf2 : slots + ax_fn ci ≤ room_1.slots)
    (k : ∀ (q : Nat) (H1 : Heap), va_P D ax_cl (ax_wd cy (y0_S ci) (y0_ad sa q) ++ X) H1 → va_D (fun q => s.heap.size ≤ q) (ax_wd cy (y0_S ci) (y0_ad sa q) ++ X) → va_S (fun q => s.heap.size ≤ q) s.heap H1 locs → W p l e room_1 s m #[Value.ref b] below meth c H1 locs (cells + 1) (slots + ax_fn ci) Q (F0 m (pc + 3) ls (.ref q :: st))) :
    W p l e room_1 s m #[Value.ref b] below meth c H locs cells slots Q (F0 m pc ls st) := by
  refine va_new (ci := ci) (fs := (List.range (ax_fn ci)).map (fun k => ax_z sa (ax_f (y0_S ci) 0 k (ax_tk ci k)))) hx hb hts (ax_lays hc) (ax_ty ci) (ax_types hc) hown (hts _ (ax_nr_ok hn)) (hts _ (ax_inst hc).1) (hts _ (ax_inst hc).2) hK hP hD hS (fun _ h => h) (ax_cls hc) ?_ hf1 hf2 hd (fun q H1 hP1 hD1 hS1 => ?_)
  · intro j hj
    rw [ax_nw_d (0, 0, fun _ => (ci, 0), fun _ _ => 0, fun _ _ => 0, fun _ _ => none) sa ci 0 (ax_fn ci) j (ax_tk ci j) (ax_ty ci j) (ax_kinds hc j hj), y0_nw]
    unfold vp_V
    simp [hj]
  · have hwd : [((q : Nat), (.inr (ci, (List.range (ax_fn ci)).map (fun k => ax_z sa (ax_f (y0_S ci) 0 k (ax_tk ci k)))) : va_E))] = ax_wd cy (y0_S ci) (y0_ad sa q) := by
      show _ = [(y0_ad sa q 0, ax_e cy (y0_S ci) (y0_ad sa q) 0)]
      rw [ax_e_obj (c := ci) rfl hc]
      have e1 : y0_ad sa q 0 = q := rfl
      rw [e1]
      refine congrArg (fun z => [(q, Sum.inr (ci, z))]) (List.map_congr_left (fun k _ => ?_))
      unfold ax_f
      split <;> rfl
    have hP2 := lw_swP hP1
    have hD2 := lw_swD hD1
    rw [hwd] at hP2 hD2
    exact k q H1 hP2 hD2 hS1
set_option maxHeartbeats 4000000 in
/-- from the entry, for every script of at most 384 ints, the law comes to its end with true -/
theorem whole_start {p : Program} {e : Env} {s : State} {m : MethodId} {below : List Frame} {meth : Method} {c : Code} (l : Launch) {b L : Nat} {xs : Nat → Int32} (hL : L ≤ 384) (C0 : lw_At p s m meth c b L xs) : W p l e room_1 s m #[Value.ref b] below meth c s.heap [] 0 0 (lw_Z below #[Value.ref b] s) (entryFrame m ([Value.ref b] : List Value).toArray 4) := by
  obtain ⟨D, cy, sa, sv, hK, hG⟩ := lw_facts C0
  obtain ⟨hx, hb, hr, hml, hown, hts, hX, hbl, hlk, hgv⟩ := C0
  have htb : ∀ w ∈ ax_tb, w.before #[Value.ref b] s = true := fun w hw => hts w (List.mem_filter.mp hw).1
  have hown : s.vm.findClass (ax_oc 13) = some m.cls := hown
  have hS : va_S (fun q => s.heap.size ≤ q) s.heap s.heap [] := va_S.rf
  have hP : va_P D ax_cl [] s.heap := fun k q h => by cases h
  have hD : va_D (fun q => s.heap.size ≤ q) [] := ⟨fun i j x y h => (by cases h), fun k q h => by cases h⟩
  have hl := lv_entry ([.ref b]) (n := 4) (Nat.le_of_ble_eq_true rfl)
  rw [lg_entry_eq]
  generalize (lg_sl ([.ref b]) ++ List.replicate (4 - (lg_sl ([.ref b])).length) Slot.unset).toArray = ls at hl ⊢
  have hl : lv_has ls 4 [(0, .ref b)] := hl
  refine lw_new0 (sa := sa) (ci := 11) hx hb hown htb hK rfl (by decide) hP hD hS lw_d0 (Nat.le_of_ble_eq_true rfl) (Nat.le_of_ble_eq_true rfl) (fun q1 H1 hP1 hD1 hS1 => ?_)
  refine lv_dup hx hb lw_d3 rfl ?_
  obtain ⟨v1, s1, hC1, ev1, es1⟩ := yc_m0 (d := 45)
  subst ev1; subst es1
  refine lw_call0 (sc := y0_S 11) (rest := [.ref q1]) hx hb hown htb hK hG y0_wf0 (y0_ads sa q1) hC1 (idx := 9) (Mc := ax_m126) rfl rfl rfl rfl (by decide) rfl hP1 hD1 hS1 (Or.inr ⟨lw_d4, rfl⟩) rfl (Nat.le_of_ble_eq_true rfl) (by rw [hml]; exact hl.1) (by decide +kernel) (by decide +kernel) (fun adc H2 locs2 ha hP2 hD2 hS2 => ?_)
  have c1 : 0 + 1 + (yc_s113.1 - (y0_S 11).1) ≤ 97 := by decide +kernel
  have c2 : 0 + ax_fn 11 + (yc_s113.2.1 - (y0_S 11).2.1) ≤ 12644 := by decide +kernel
  refine W.widen (k := 97) (n := 12644) c1 c2 ?_
  have a0 : adc 0 = q1 := (ha 0 (Or.inl (by decide))).trans rfl
  have a1 : ∀ j, adc (1000000 + j) = sa j := fun j => (ha _ (Or.inr (Nat.le_add_right _ _))).trans (y0_ads sa q1 j)
  rw [List.append_nil, yc_wd] at hP2 hD2
  refine lv_astore_n (lv' := [(1, .ref q1), (0, .ref b)]) hx hb lw_d7 rfl hl (by decide) rfl (fun ls hl => ?_)
  refine lw_new0 (sa := sa) (ci := 12) hx hb hown htb hK rfl (by decide) hP2 hD2 hS2 lw_d8 (Nat.le_of_ble_eq_true rfl) (Nat.le_of_ble_eq_true rfl) (fun q2 H3 hP3 hD3 hS3 => ?_)
  refine lv_dup hx hb lw_d11 rfl ?_
  obtain ⟨v2, s2, hC2, ev2, es2⟩ := yr_m0 (d := 49)
  subst ev2; subst es2
  refine lw_call0 (sc := y0_S 12) (rest := [.ref q2]) hx hb hown htb hK hG y0_wf0 (y0_ads sa q2) hC2 (idx := 12) (Mc := ax_m175) rfl rfl rfl rfl (by decide) rfl hP3 hD3 hS3 (Or.inr ⟨lw_d12, rfl⟩) rfl (Nat.le_of_ble_eq_true rfl) (by rw [hml]; exact hl.1) (by decide +kernel) (by decide +kernel) (fun adr H4 locs4 hb2 hP4 hD4 hS4 => ?_)
  have c3 : 97 + 1 + (yr_s49.1 - (y0_S 12).1) ≤ 176 := by decide +kernel
  have c4 : 12644 + ax_fn 12 + (yr_s49.2.1 - (y0_S 12).2.1) ≤ 26704 := by decide +kernel
  refine W.widen (k := 176) (n := 26704) c3 c4 ?_
  have b0 : adr 0 = q2 := (hb2 0 (Or.inl (by decide))).trans rfl
  have b1 : ∀ j, adr (1000000 + j) = sa j := fun j => (hb2 _ (Or.inr (Nat.le_add_right _ _))).trans (y0_ads sa q2 j)
  rw [yr_wd] at hP4 hD4
  refine lv_astore_n (lv' := [(2, .ref q2), (1, .ref q1), (0, .ref b)]) hx hb lw_d15 rfl hl (by decide) rfl (fun ls hl => ?_)
  refine lv_iconst (v := 0) hx hb lw_d16 rfl ?_
  refine lv_istore_n (lv' := [(3, .int 0), (2, .ref q2), (1, .ref q1), (0, .ref b)]) hx hb lw_d17 rfl hl (by decide) rfl (fun ls hl => ?_)
  have hl : lv_has ls 4 (lw_lv b adc adr 0) := by
    unfold lw_lv
    rw [a0, b0]
    exact hl
  exact lw_loop (sa := sa) (sv := sv) ⟨hx, hb, hr, hml, hown, htb, hX, hbl, hlk, hK, hG, a1, b1, hL⟩ 64 0 (by omega) (by decide) _ _ _ _ _ _ _ _ _ _ _ _ _ _ _ _ _ _ y0_CC y0_RR yc_wf yr_wf H4 locs4 ls hl (lw_swP hP4) (lw_swD hD4) hS4
set_option maxHeartbeats 4000000 in
theorem lw_walk (l : Launch) (b : Addr) (xs : List Int32) : MetFree l x (headSpec (Jvm.Cond.code x code maxLocals ret :: tables_1) room_1) (lw_P b xs) (fun _ _ _ _ _ => True) lw_Q := by
  refine MetFree.of_bodyS (code := code) (maxLocals := maxLocals) (ret := ret) (by decide) ?_ ?_
  · intro args s m h hn
    obtain ⟨meth, c, h1, h2, h3, h4, h5, h6, -, -⟩ := Cond.code_spec hn (atoms_spec (ws := Jvm.Cond.code x code maxLocals ret :: tables_1) h _ List.mem_cons_self)
    exact ⟨meth, c, h1, h2, h3, h4, h5, h6⟩
  · intro p e s m args below meth c s₁ B hml0 hP _
    obtain ⟨rfl, hx, hbd, hgv⟩ := hP
    obtain ⟨scr, harrAt, hlist, hof, hsmall⟩ := hx
    obtain ⟨hcb, hkn, -, -⟩ := State.arrayAt?_spec harrAt
    have hown : s.vm.findClass R_law = some m.cls := findClass_of_methodNamed B.named
    have hts0 : ∀ c ∈ (Jvm.Cond.code x code maxLocals ret :: tables_1), c.before #[Value.ref b] s = true := atoms_spec (ws := Jvm.Cond.code x code maxLocals ret :: tables_1) B.pre
    have hts : ∀ w ∈ lw_tbl, w.before #[Value.ref b] s = true := k2_hts_sels lw_privs (fun w hw => hts0 w (List.mem_cons_of_mem _ hw)) lw_privs_ok
    have hml : c.maxLocals = 4 := B.maxLocals_eq (hts0 _ List.mem_cons_self)
    have X₀ : Stand p l e room_1 s m #[Value.ref b] below meth c s₁ [] 0 0 := Stand.of_body B
    have hh0 : s₁.heap = s.heap := by rw [B.state]; rfl
    have hsz : scr.slots.size = xs.length := by rw [← Array.length_toList, hlist, List.length_map]
    have hval : ∀ j : Nat, j < xs.length → scr.slots[j]? = some (.int (xs.getD j 0)) := fun j hj => by
      rw [← Array.getElem?_toList, hlist]
      simp [hj]
    have hbl : b < s.heap.size := (Array.getElem?_eq_some_iff.mp hcb).1
    have hX : va_X b xs.length (fun j => xs.getD j 0) s s.heap := ⟨scr, hcb, hof, hkn, hsz, hval⟩
    have K : W p l e room_1 s m #[Value.ref b] below meth c s₁.heap [] 0 0 (lw_Z below #[Value.ref b] s) (entryFrame m ([Value.ref b] : List Value).toArray 4) := by
      rw [hh0]
      exact whole_start l hbd ⟨B.exec, B.bytes, B.returns, hml, hown, hts, hX, hbl, B.notSynchronized, hgv⟩
    obtain ⟨t, a1, o, b1, b2, b3⟩ := K s₁ rfl X₀
    exact ⟨t, o, a1, b1, b2, b3⟩
theorem lw_pre_spec {args : Array Value} {s : State} (h : (Jvm.Cond.and given_1 narrow_1).before args s = true) (hr : rest_1_c.before args s = true) : ∃ (b : Addr) (xs : List Int32), lw_P b xs args s := by
  have hs := flat_of_before _ h
  have hq := flat_of_before _ hr
  have hc : (Cond.count 1).before args s = true := hs _ (by decide +kernel)
  have harr : (Cond.arrayOf (.arg 0) .int).before args s = true := hs _ (by decide +kernel)
  have hle : (Cond.le (.length (.arg 0)) (.int 384)).before args s = true := hs _ (by decide +kernel)
  have hlen : (Cond.isInt (.length (.arg 0))).before args s = true := hq _ (by decide +kernel)
  have hall : (Cond.all (.arg 0) (.isInt (.elem (.arg 0) (.index 0)))).before args s = true := hq _ (by decide +kernel)
  obtain ⟨b, xs, hb, hx⟩ := State.ints_of_pre rfl harr hlen hall
  have hsm : xs.length < 2 ^ 31 := hx.choose_spec.2.2.2
  have hev : (Term.length (.arg 0)).eval args s none [] s = some (.int xs.length.toInt32) := hx.length_eval hb
  have hv := Cond.le_ints hev (show (Term.int 384).eval args s none [] s = some (.int 384) from rfl)
  have hd : xs.length.toInt32 ≤ 384 := by
    simpa [Cond.before, Cond.holds, hv] using hle
  have hN : xs.length ≤ 384 := (Int32.ofNat_le_ofNat hsm (by decide)).mp (show Int32.ofNat xs.length ≤ Int32.ofNat 384 from hd)
  exact ⟨b, xs, Cond.one_arg hc (show args[0]? = some (.ref b) from hb), hx, hN, h⟩
theorem lw_comes (l : Launch) : Comes l x (Jvm.Cond.code x code maxLocals ret :: tables_1) room_1 (fun tb e args s => Calls_1 tb e args s ∧ rest_1 tb e args s ∧ Pre_1 tb e args s)
    (fun _ _ args s o t => lw_Q args s o t) := by
  intro p e ha hc hk s m args below hf hfit hheap happ hpre
  obtain ⟨b, xs, hP⟩ := lw_pre_spec hpre.2.2 hpre.2.1
  obtain ⟨k, o, h1, h2, h3, hQ⟩ := lw_walk l b xs p e ha hc hk s m args below hf ((Spec.applies_iff_loose hf).mp happ).1 hP trivial
  exact ⟨k, o, h1, h2, h3, hQ⟩
theorem lw_frame {s t : State} {o : Outcome} {args : Array Value} (h : Framed s o t [] 600000 7302250) :
    Framed s o t (fieldLocs frame_1_writes args s ++ arrayLocs frame_1_arrays args s ++ staticLocs frame_1_statics s) 600000 7302250 := h
theorem lw_limb (L : Cond) (hL : ∀ (args : Array Value) (s t : State), L.after args s (.returned (some (.int 1))) t = true) :
    ArmFor flags0 classFile x code maxLocals ret World_1 tables_1 room_1 Calls_1 rest_1 Pre_1
      (fun tb e a s o t => postC L tb e a s o t ∧ Framed s o t (fieldLocs frame_1_writes a s ++ arrayLocs frame_1_arrays a s ++ staticLocs frame_1_statics s) 600000 7302250) := by
  intro l _ _ _ p e ha hc hk s m args below hf hfit hheap happ hpre
  obtain ⟨k, o, h1, h2, h3, rfl, hF⟩ := lw_comes l p e ha hc hk s m args below hf hfit hheap happ hpre
  exact ⟨k, _, h1, h2, h3, hL args s _, lw_frame hF⟩
theorem i_vc : Claimed_1_1 ∧ Claimed_1_2 := ⟨lw_limb limb_1_1 (fun args s t => by simp [limb_1_1, Cond.after, Cond.holds, Cond.value]), lw_limb limb_1_2 (fun args s t => Cond.after_iff.mpr (by
  first | (rw [show limb_1_2 = Cond.eq .result (.int 1) from rfl, Cond.eq_ints (x := 1) (y := 1) rfl rfl]; simp; done) | (simp [limb_1_2, Cond.value, Term.eval]; done)))⟩
