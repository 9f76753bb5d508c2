/-! A CALL, AN ANSWER, THE RUN -/
theorem ax_ok10 : ax_T.all (fun M => !M.2.2.2.2.1 || Nat.beq M.2.2.2.1 0) = true := by decide +kernel
theorem ax_init_ret {m : Nat} {M : ax_M} (h : ax_T[m]? = some M) (hi : M.2.2.2.2.1 = true) : ax_yr m = none := by
  have h1 := List.all_eq_true.mp ax_ok10 M (List.mem_of_getElem? h)
  rw [hi] at h1
  have h2 : M.2.2.2.1 = 0 := by simpa using h1
  have h3 := (ax_fact h).2.2.2.2.1
  rw [h2] at h3
  unfold ax_rk at h3
  split at h3 <;> first | rfl | assumption | (rename_i q _; cases q) | cases h3
theorem ax_rmx0 {x y q r : Nat} (h1 : x ≤ 40) (h2 : y + 64 + q ≤ r) : 8 + (x + 11) + (y + q) ≤ r := by omega
theorem ax_rmx {x d r : Nat} (h1 : x ≤ 40) (h2 : 64 * (d + 1) + 512 ≤ r) : 8 + (x + 11) + (64 * d + 512) ≤ r := by
  rw [Nat.mul_succ] at h2
  exact ax_rmx0 h1 h2
section AXR
variable {p : Program} {l : Launch} {e : Env} {R : Room} {s0 : State} {mm : MethodId} {args : Array Value} {below : List Frame} {meth : Method} {c : Code} {Q : State → Prop} {D : va_G} {cy : Nat → ClassId} {A : Nat → Prop} {sa sv : Nat → Nat} {nE sE mi : Nat} {M : ax_M} {ad : Nat → Nat}
variable {pc : Nat} {ls : ax_L} {r : List ax_v} {s : ax_S}
/-- behind a call that ran -/
theorem ax_after {st : List ax_v} {H : Heap} {locs : List Loc} {arr : Array Slot} {v : Option ax_v} {s1 : ax_S} {aa : Array Value} (hA : ∀ q, s0.heap.size ≤ q → A q) (hl : ax_lh arr c.maxLocals ad ls) (hD : va_D A (ax_wd cy s ad)) (hS : va_S A s0.heap H locs) (hv : (ax_vl s.1 ls = true ∧ ax_vs s.1 r = true) ∨ s1.1 = s.1) (hw : ax_wf s) (hE : nE ≤ s.1) (hE2 : sE ≤ s.2.1) (hle : ax_le s s1) (hvi : ∀ ad', v.toList.map (ax_z ad') = v.toList.map (ax_z ad))
    (hr : va_Run p l e R s0 mm args below meth c H locs (s.1 - nE) (s.2.1 - sE) (s1.1 - s.1) (s1.2.1 - s.2.1) (F0 mm pc arr (st.map (ax_z ad))) (r.map (ax_z ad)) (ax_Qc D cy ad s s1 H.size v aa) (va_A (ax_wd cy s ad) H.size))
    (k : ∀ ad', (∀ j, j < s.1 ∨ 1000000 ≤ j → ad' j = ad j) → ax_W p l e R s0 mm args below meth c Q D cy A nE sE ad' (pc + 3, ls, v.toList ++ r, s1)) :
    W p l e R s0 mm args below meth c H locs (s.1 - nE) (s.2.1 - sE) Q (F0 mm pc arr (st.map (ax_z ad))) := by
  have hF : ∀ q, va_A (ax_wd cy s ad) H.size q → A q := by
    intro q hq
    rcases hq with ⟨i, x, hi⟩ | hq
    · exact hD.2 i _ hi
    · exact hA q (Nat.le_trans hS.1 hq)
  have e1 : s.1 - nE + (s1.1 - s.1) = s1.1 - nE := by have := hle.1; omega
  have e2 : s.2.1 - sE + (s1.2.1 - s.2.1) = s1.2.1 - sE := by have := hle.2.1; omega
  have go : ∀ (ad' : Nat → Nat) (t : State) (H1 : Heap) (locs1 : List Loc), t.heap = H1 → ax_B D cy ad s s1 H.size ad' t → va_S A s0.heap H1 locs1 →
      W p l e R s0 mm args below meth c H1 locs1 (s.1 - nE + (s1.1 - s.1)) (s.2.1 - sE + (s1.2.1 - s.2.1)) Q (F0 mm (pc + 3) arr ((v.toList.map (ax_z ad')) ++ r.map (ax_z ad))) := by
    intro ad' t H1 locs1 ht hB hS1
    obtain ⟨b1, b2, b3, b4⟩ := hB
    rw [ht] at b2
    rw [e1, e2]
    rcases hv with ⟨hvl, hvs⟩ | hn
    · have h := k ad' b1 H1 locs1 arr (hl.ad (ax_vl_z b1 hvl)) b2 ⟨b4.1, fun i q hq => hF _ (b4.2 i q hq)⟩ hS1
      dsimp only at h
      rw [List.map_append, ax_vs_z b1 hvs] at h
      exact h
    · have ew : ax_wd cy s1 ad' = ax_wd cy s1 ad := ax_wd_ad (hle.2.2 hw) (fun j hj => b1 j (Or.inl (by omega)))
      rw [ew] at b2 b4
      have h := k ad (fun _ _ => rfl) H1 locs1 arr hl b2 ⟨b4.1, fun i q hq => hF _ (b4.2 i q hq)⟩ hS1
      dsimp only at h
      rw [List.map_append] at h
      have ev : v.toList.map (ax_z ad') = v.toList.map (ax_z ad) := hvi ad'
      rw [ev]
      exact h
  clear hvi
  match v, hr, go with
  | none, hr, go =>
    exact va_callv (a := aa) hr hS (fun q _ h => hF q h) hF (fun u t H1 locs1 ht _ _ hB _ _ hS1 => go u t H1 locs1 ht hB hS1)
  | some (.inl x), hr, go =>
    refine va_calli (a := aa) hr hS (fun q _ h => hF q h) hF (fun a u t H1 locs1 ht _ hw hB _ _ hS1 => ?_)
    rw [hw]
    exact go u t H1 locs1 ht hB hS1
  | some (.inr (.inl x)), hr, go =>
    refine va_calll (a := aa) hr hS (fun q _ h => hF q h) hF (fun a u t H1 locs1 ht _ hw hB _ _ hS1 => ?_)
    rw [hw]
    exact go u t H1 locs1 ht hB hS1
  | some (.inr (.inr x)), hr, go =>
    intro T hT X
    obtain ⟨v, st₀, t, T', L, h0, X', hL, e1, e2, hQ, st⟩ := hr T hT X
    exact hQ.elim
/-- a call -/
theorem ax_s_call {d i m : Nat} {Mc : ax_M} {nest : Bool} {st as : List ax_v} {v : Option ax_v} {s1 : ax_S} (X : ax_cx p R s0 mm args meth c D cy A sa sv mi M) (hsa : ∀ j, ad (1000000 + j) = sa j) (IH : ax_SC d) (hRf : d + 9 ≤ R.frames) (hRl : 64 * (d + 1) + 512 ≤ R.locals) (hm : ax_mr M.1 i = some (m, nest)) (hMc : ax_T[m]? = some Mc)
    (hst : st = as.reverse ++ r) (hna : as.length = Mc.2.1) (hcat : ax_cats r ≤ 8) (hv : (ax_vl s.1 ls = true ∧ ax_vs s.1 r = true) ∨ s1.1 = s.1) (hvi : ∀ ad', v.toList.map (ax_z ad') = v.toList.map (ax_z ad)) (hw : ax_wf s) (hE : nE ≤ s.1) (hE2 : sE ≤ s.2.1) (hC : ax_C d m as s v s1) (hRc : s1.1 - nE ≤ R.cells) (hRs : s1.2.1 - sE ≤ R.slots)
    (hkd : (decode (ax_yb mi) pc = .ok (.invokestatic i, 3) ∧ Mc.2.2.2.2.2.1 = true) ∨ (∃ o as', as = .inr (.inr (some o)) :: as' ∧ Mc.2.2.2.2.2.1 = false ∧ o < s.1 ∧ (ax_K s o).1 = Mc.1 ∧ ((decode (ax_yb mi) pc = .ok (.invokevirtual i, 3) ∧ Mc.2.2.2.2.1 = false) ∨ (decode (ax_yb mi) pc = .ok (.invokespecial i, 3) ∧ Mc.2.2.2.2.1 = true))))
    (k : ∀ ad', (∀ j, j < s.1 ∨ 1000000 ≤ j → ad' j = ad j) → ax_W p l e R s0 mm args below meth c Q D cy A nE sE ad' (pc + 3, ls, v.toList ++ r, s1)) : ax_W p l e R s0 mm args below meth c Q D cy A nE sE ad (pc, ls, st, s) := by
  obtain ⟨hx, hb, hml, hown, hts, hK, hA, hM, hin, hG, hR1, hR2⟩ := X
  intro H locs arr hl hP hD hS
  have hlt := ax_lt hMc
  obtain ⟨a1, a2, a3, a4, a5, a6, a7, a8, a9, a10, a11⟩ := ax_fact hMc
  have hle := ax_C_le d m as s v s1 hC
  have hyx : ax_yx m = ax_yn m := by
    unfold ax_yx
    rw [if_neg (by omega), if_neg (by omega), if_neg (by omega), if_neg (by omega)]
  have hlk := ax_mr_ok hm
  rw [hyx] at hlk
  have hmet := IH m as s v s1 hC l D cy sa sv ad H.size hw hsa
  have hF : ∀ q, va_A (ax_wd cy s ad) H.size q → A q := by
    intro q hq
    rcases hq with ⟨i, x, hi⟩ | hq
    · exact hD.2 i _ hi
    · exact hA q (Nat.le_trans hS.1 hq)
  have hmL : ax_ml m = Mc.2.2.1 := by unfold ax_ml; rw [hMc]
  have hpre : ∀ U : State, U.heap = H → s0.WarmedH U.vm → ax_Pc D cy sa sv ad as s H.size ((as.map (ax_z ad)).toArray) U := by
    intro U hU hW
    exact ⟨rfl, by rw [hU], by rw [hU]; exact hP, va_K.moved hW.alike hK, ⟨hD.1, fun _ _ _ => trivial⟩, hG.at hW hU hS.2.1 hF⟩
  have hroom : (ax_rm d (s1.1 - s.1) (s1.2.1 - s.2.1)).frames + 1 ≤ R.frames ∧ 8 + (ax_ml m + 11) + (ax_rm d (s1.1 - s.1) (s1.2.1 - s.2.1)).locals ≤ R.locals := by
    refine ⟨hRf, ?_⟩
    show 8 + (ax_ml m + 11) + (64 * d + 512) ≤ R.locals
    rw [hmL]
    exact ax_rmx a6 hRl
  have hf : s.1 - nE + (s1.1 - s.1) ≤ R.cells ∧ s.2.1 - sE + (s1.2.1 - s.2.1) ≤ R.slots := by
    have h1 := hle.1
    have h2 := hle.2.1
    omega
  have hcw : (((r.map (ax_z ad)).map fun v => v.category)).sum ≤ 8 := by rw [ax_zcats]; exact hcat
  have hsz : arr.size = c.maxLocals := hl.1.1
  have hrun : ∃ aa, va_Run p l e R s0 mm args below meth c H locs (s.1 - nE) (s.2.1 - sE) (s1.1 - s.1) (s1.2.1 - s.2.1) (F0 mm pc arr (st.map (ax_z ad))) (r.map (ax_z ad)) (ax_Qc D cy ad s s1 H.size v aa) (va_A (ax_wd cy s ad) H.size) := by
    rcases hkd with ⟨hd, hsta⟩ | ⟨o, as', ho, hsta, ho1, ho2, hd⟩
    · have hstk : (F0 mm pc arr (st.map (ax_z ad))).stack = (as.map (ax_z ad)).reverse ++ r.map (ax_z ad) := by
        show st.map (ax_z ad) = _
        rw [hst, List.map_append, List.map_reverse]
      rw [if_pos hsta] at a4
      cases nest with
      | false =>
        exact ⟨_, va_runS (As := as.map (ax_z ad)) ⟨hx, hb, rfl, hown, hts⟩ hmet ⟨callB_of Mc.2.1 hts (ax_goodIn m hlt) rfl rfl rfl (hts _ a10) (hts _ (hlk.1 rfl)) ⟨a3.1, a3.2, a4⟩ hroom, hts _ (a8 hsta)⟩ ⟨ax_blind D cy sa sv ad as s H.size, hpre⟩ rfl (by rw [List.length_map, hna]) hsz hstk (lv_room hcw) hd hf⟩
      | true =>
        exact ⟨_, va_runSN (As := as.map (ax_z ad)) ⟨hx, hb, rfl, hown, hts⟩ hmet ⟨va_cnB Mc.2.1 hts (ax_goodIn m hlt) rfl rfl rfl (hG.2.2.2.2.1 _ _ _ _ (hlk.2 rfl)) (hts _ a10) ⟨a3.1, a3.2, a4⟩ hroom, hts _ (a8 hsta), trivial⟩ ⟨ax_blind D cy sa sv ad as s H.size, hpre⟩ rfl (by rw [List.length_map, hna]) hsz hstk (lv_room hcw) hd hf⟩
    · subst ho
      obtain ⟨b1, b2, b3, b4⟩ := a9 hsta
      rw [if_neg (by rw [hsta]; decide)] at a4
      have hstk : (F0 mm pc arr (st.map (ax_z ad))).stack = (as'.map (ax_z ad)).reverse ++ .ref (ad o) :: r.map (ax_z ad) := by
        show st.map (ax_z ad) = _
        rw [hst, List.map_append, List.map_reverse, List.map_cons, List.reverse_cons, List.append_assoc]
        rfl
      have hlen : (as'.map (ax_z ad)).length = Mc.2.1 - 1 := by
        rw [List.length_map, ← hna]
        rfl
      have hrecv : ∃ cellB : Cell, H[ad o]? = some cellB ∧ cellB.vm.isStatics = false ∧ s0.vm.findClass (ax_yn m).cls = some cellB.cls := by
        have h := va_recv hK hP (ci := Mc.1) (q0 := o) (a := ad o) (ax_cls b2) (by rw [ax_wd_get ho1, ax_e_obj ho2 b2])
        rw [← a2]
        exact h
      rcases hd with ⟨hd, hini⟩ | ⟨hd, hini⟩
      · cases nest with
        | false =>
          exact ⟨_, va_runV (As := as'.map (ax_z ad)) (b := ad o) (C := (ax_yn m).cls) ⟨hx, hb, rfl, hown, hts⟩ hmet ⟨callB_of (Mc.2.1 - 1) hts (ax_goodIn m hlt) rfl rfl rfl (hts _ a10) (hts _ (hlk.1 rfl)) ⟨a3.1, a3.2, a4⟩ hroom, hts _ b3, hts _ (b4 hini)⟩ ⟨ax_blind D cy sa sv ad _ s H.size, hrecv, hpre⟩ rfl hlen hsz hstk (lv_room hcw) hd hf⟩
        | true =>
          exact ⟨_, va_runVN (As := as'.map (ax_z ad)) (b := ad o) (C := (ax_yn m).cls) ⟨hx, hb, rfl, hown, hts⟩ hmet ⟨va_cnB (Mc.2.1 - 1) hts (ax_goodIn m hlt) rfl rfl rfl (hG.2.2.2.2.1 _ _ _ _ (hlk.2 rfl)) (hts _ a10) ⟨a3.1, a3.2, a4⟩ hroom, hts _ b3, hts _ (b4 hini)⟩ ⟨ax_blind D cy sa sv ad _ s H.size, hrecv, hpre⟩ rfl hlen hsz hstk (lv_room hcw) hd hf⟩
      · have hret : ax_yr m = none := ax_init_ret hMc hini
        have hcd : ax_cdw m = Cond.code (ax_yn m) (ax_yb m) (ax_ml m) none := by unfold ax_cdw; rw [hret]
        cases nest with
        | false =>
          exact ⟨_, va_runI (As := as'.map (ax_z ad)) (b := ad o) ⟨hx, hb, rfl, hown, hts⟩ hmet ⟨callB_of (Mc.2.1 - 1) hts (ax_goodIn m hlt) (by rw [hcd]) rfl rfl (hts _ a10) (hts _ (hlk.1 rfl)) ⟨a3.1, a3.2, a4⟩ hroom, a7.mpr hini, hts _ b3⟩ ⟨ax_blind D cy sa sv ad _ s H.size, hpre⟩ rfl hlen hsz hstk (lv_room hcw) hd hf⟩
        | true =>
          exact ⟨_, va_runIN (As := as'.map (ax_z ad)) (b := ad o) ⟨hx, hb, rfl, hown, hts⟩ hmet ⟨va_cnB (Mc.2.1 - 1) hts (ax_goodIn m hlt) (by rw [hcd]) rfl rfl (hG.2.2.2.2.1 _ _ _ _ (hlk.2 rfl)) (hts _ a10) ⟨a3.1, a3.2, a4⟩ hroom, a7.mpr hini, hts _ b3⟩ ⟨ax_blind D cy sa sv ad _ s H.size, hpre⟩ rfl hlen hsz hstk (lv_room hcw) hd hf⟩
  obtain ⟨aa, hrun⟩ := hrun
  exact ax_after hA hl hD hS hv hw hE hE2 hle hvi hrun k
end AXR
