/-! ONE STEP, of new cells -/
theorem ax_arw : Cond.arrayClass .int ∈ ax_tb ∧ Cond.arrayClass .char ∈ ax_tb ∧ Cond.arrayClass .byte ∈ ax_tb ∧ Cond.arrayClass .long ∈ ax_tb := by
  have h1 : ax_gs [.arrayClass .int] = true := by decide +kernel
  have h2 : ax_gs [.arrayClass .char] = true := by decide +kernel
  have h3 : ax_gs [.arrayClass .byte] = true := by decide +kernel
  have h4 : ax_gs [.arrayClass .long] = true := by decide +kernel
  exact ⟨ax_gs_mem h1 List.mem_cons_self, ax_gs_mem h2 List.mem_cons_self, ax_gs_mem h3 List.mem_cons_self, ax_gs_mem h4 List.mem_cons_self⟩
theorem ax_nw_e {cy : Nat → ClassId} {s : ax_S} {ad ad' : Nat → Nat} {kd ln sl j : Nat} (hw : ax_wf s) (hj : j < s.1) (ha : ∀ i, i < s.1 → ad' i = ad i) : ax_e cy (ax_nw s kd ln sl) ad' j = ax_e cy s ad j := by
  have hne : ¬ j = s.1 := by omega
  rw [← ax_e_ad hw hj ha]
  refine ax_e_congr ?_ ?_ ?_ ?_
  · show (if j = s.1 then _ else _) = _
    rw [if_neg hne]; rfl
  · funext b
    show (if j = s.1 then _ else _) = _
    rw [if_neg hne]; rfl
  · funext b
    show (if j = s.1 then _ else _) = _
    rw [if_neg hne]; rfl
  · funext b
    show (if j = s.1 then _ else _) = _
    rw [if_neg hne]; rfl
theorem ax_nw_K (s : ax_S) (kd ln sl : Nat) : ax_K (ax_nw s kd ln sl) s.1 = (kd, ln) := by
  show (if s.1 = s.1 then _ else _) = _
  rw [if_pos rfl]
theorem ax_nw_I (s : ax_S) (kd ln sl j : Nat) : ax_I (ax_nw s kd ln sl) s.1 j = 0 := by
  show (if s.1 = s.1 then _ else _) = _
  rw [if_pos rfl]
theorem ax_nw_J (s : ax_S) (kd ln sl j : Nat) : ax_J (ax_nw s kd ln sl) s.1 j = 0 := by
  show (if s.1 = s.1 then _ else _) = _
  rw [if_pos rfl]
theorem ax_nw_R (s : ax_S) (kd ln sl j : Nat) : ax_R (ax_nw s kd ln sl) s.1 j = none := by
  show (if s.1 = s.1 then _ else _) = _
  rw [if_pos rfl]
theorem ax_nw_f (s : ax_S) (ad ad' : Nat → Nat) (kd ln sl k t : Nat) : ax_z ad' (ax_f (ax_nw s kd ln sl) s.1 k t) = ax_z ad (ax_f (ax_nw s kd ln sl) s.1 k t) := by
  unfold ax_f
  split
  · rfl
  · rw [ax_nw_R]; rfl
  · rfl
theorem ax_nw_d (s : ax_S) (ad : Nat → Nat) (kd ln sl k t : Nat) (ty : FieldType) (h : ax_kty t ty = true) : defaultValue ty = ax_z ad (ax_f (ax_nw s kd ln sl) s.1 k t) := by
  unfold ax_kty at h
  split at h
  · show _ = Value.int (Int32.ofInt _); rw [ax_nw_I]; rfl
  · show _ = Value.long (Int64.ofInt _); rw [ax_nw_J]; rfl
  · show _ = va_rf (Option.map ad _); rw [ax_nw_R]; rfl
  · show _ = va_rf (Option.map ad _); rw [ax_nw_R]; rfl
  · show _ = Value.int (Int32.ofInt _); rw [ax_nw_I]; rfl
  · cases h
section AXN
variable {p : Program} {l : Launch} {e : Env} {R : Room} {s0 : State} {mm : MethodId} {args : Array Value} {below : List Frame} {meth : Method} {c : Code} {Q : State → Prop} {D : va_G} {cy : Nat → ClassId} {A : Nat → Prop} {sa sv : Nat → Nat} {nE sE mi : Nat} {M : ax_M} {ad : Nat → Nat}
variable {pc : Nat} {ls : ax_L} {st r : List ax_v} {s : ax_S}
theorem ax_s_new (X : ax_cx p R s0 mm args meth c D cy A sa sv mi M) {i ci : Nat} (hn : ax_nr M.1 i = some ci) (hc : ci < 13) (h6 : s.1 < 1000000) (hvl : ax_vl s.1 ls = true) (hvs : ax_vs s.1 st = true) (hw : ax_wf s) (hE : nE ≤ s.1) (hE2 : sE ≤ s.2.1) (hRc : s.1 + 1 - nE ≤ R.cells) (hRs : s.2.1 + ax_fn ci - sE ≤ R.slots) (hd : decode (ax_yb mi) pc = .ok (.new i, 3))
    (k : ∀ ad', (∀ j, j < s.1 ∨ 1000000 ≤ j → ad' j = ad j) → ax_W p l e R s0 mm args below meth c Q D cy A nE sE ad' (pc + 3, ls, .inr (.inr (some s.1)) :: st, ax_nw s ci 0 (ax_fn ci))) : ax_W p l e R s0 mm args below meth c Q D cy A nE sE ad (pc, ls, st, s) := by
  obtain ⟨hx, hb, hml, hown, hts, hK, hA, hM, hin, hG, hR1, hR2⟩ := X
  intro H locs arr hl hP hD hS
  refine va_new (ci := ci) (fs := (List.range (ax_fn ci)).map (fun k => ax_z ad (ax_f (ax_nw s ci 0 (ax_fn ci)) s.1 k (ax_tk ci k)))) hx hb hts (ax_lays hc) (ax_ty ci) (ax_types hc) hown (hts _ (ax_nr_ok hn)) (hts _ (ax_inst hc).1) (hts _ (ax_inst hc).2) hK hP hD hS hA (ax_cls hc) ?_ ?_ ?_ hd (fun q H1 hP1 hD1 hS1 => ?_)
  · intro j hj
    rw [ax_nw_d s ad ci 0 (ax_fn ci) j (ax_tk ci j) (ax_ty ci j) (ax_kinds hc j hj)]
    unfold vp_V
    simp [hj]
  · show s.1 - nE + 1 ≤ R.cells
    omega
  · show s.2.1 - sE + ax_fn ci ≤ R.slots
    omega
  · have ha : ∀ j, j < s.1 ∨ 1000000 ≤ j → (fun i => if i = s.1 then q else ad i) j = ad j := by
      intro j hj
      exact if_neg (by omega)
    have hwd : ax_wd cy s ad ++ [(q, .inr (ci, (List.range (ax_fn ci)).map (fun k => ax_z ad (ax_f (ax_nw s ci 0 (ax_fn ci)) s.1 k (ax_tk ci k)))))] = ax_wd cy (ax_nw s ci 0 (ax_fn ci)) (fun i => if i = s.1 then q else ad i) := by
      refine ax_wd_push rfl (if_pos rfl) ?_ (fun j hj => ⟨ha j (Or.inl hj), ax_nw_e hw hj (fun i hi => ha i (Or.inl hi))⟩)
      rw [ax_e_obj (c := ci) (by rw [ax_nw_K]) hc]
      refine congrArg (fun z => Sum.inr (ci, z)) (List.map_congr_left (fun k _ => ?_))
      rw [ax_nw_f s ad]
    have hP1 : va_P D ax_cl (ax_wd cy s ad ++ [(q, .inr (ci, (List.range (ax_fn ci)).map (fun k => ax_z ad (ax_f (ax_nw s ci 0 (ax_fn ci)) s.1 k (ax_tk ci k)))))]) H1 := hP1
    have hD1 : va_D A (ax_wd cy s ad ++ [(q, .inr (ci, (List.range (ax_fn ci)).map (fun k => ax_z ad (ax_f (ax_nw s ci 0 (ax_fn ci)) s.1 k (ax_tk ci k)))))]) := hD1
    rw [hwd] at hP1 hD1
    have h := k _ ha H1 locs arr (hl.ad (ax_vl_z ha hvl)) hP1 hD1 hS1
    have e1 : s.1 - nE + 1 = s.1 + 1 - nE := by omega
    have e2 : s.2.1 - sE + ax_fn ci = s.2.1 + ax_fn ci - sE := by omega
    show W p l e R s0 mm args below meth c H1 locs (s.1 - nE + 1) (s.2.1 - sE + ax_fn ci) Q (F0 mm (pc + 3) arr (.ref q :: st.map (ax_z ad)))
    rw [e1, e2, ← ax_vs_z ha hvs]
    have hz : ax_z (fun i => if i = s.1 then q else ad i) (.inr (.inr (some s.1))) = .ref q := by simp [ax_z, va_rf]
    rw [← hz]
    exact h
theorem ax_s_nwa (X : ax_cx p R s0 mm args meth c D cy A sa sv mi M) {t : ArrayType} {n : Int} (ht : ax_ak t ≤ 23) (h6 : s.1 < 1000000) (hvl : ax_vl s.1 ls = true) (hvs : ax_vs s.1 r = true) (hw : ax_wf s) (hE : nE ≤ s.1) (hE2 : sE ≤ s.2.1) (hg : 0 ≤ ax_w n ∧ ax_w n ≤ 65536) (hRc : s.1 + 1 - nE ≤ R.cells) (hRs : s.2.1 + (ax_w n).toNat - sE ≤ R.slots) (hd : decode (ax_yb mi) pc = .ok (.newarray t, 2))
    (k : ∀ ad', (∀ j, j < s.1 ∨ 1000000 ≤ j → ad' j = ad j) → ax_W p l e R s0 mm args below meth c Q D cy A nE sE ad' (pc + 2, ls, .inr (.inr (some s.1)) :: r, ax_nw s (ax_ak t) (ax_w n).toNat (ax_w n).toNat)) : ax_W p l e R s0 mm args below meth c Q D cy A nE sE ad (pc, ls, .inl n :: r, s) := by
  obtain ⟨hx, hb, hml, hown, hts, hK, hA, hM, hin, hG, hR1, hR2⟩ := X
  intro H locs arr hl hP hD hS
  have hnn : ¬ Int32.ofInt n < 0 := ax_i_neg.mpr hg.1
  have hcl : (Int32.ofInt n).toNatClampNeg = (ax_w n).toNat := ax_i_cl n
  have key : ∀ (q : Nat) (a0 : vp_A) (H1 : Heap), ax_e cy (ax_nw s (ax_ak t) (ax_w n).toNat (ax_w n).toNat) (fun i => if i = s.1 then q else ad i) s.1 = .inl (cy (ax_ak t), a0) → va_P D ax_cl (ax_wd cy s ad ++ [(q, .inl (cy (ax_ak t), a0))]) H1 → va_D A (ax_wd cy s ad ++ [(q, .inl (cy (ax_ak t), a0))]) → va_S A s0.heap H1 locs →
      W p l e R s0 mm args below meth c H1 locs (s.1 - nE + 1) (s.2.1 - sE + (ax_w n).toNat) Q (F0 mm (pc + 2) arr (.ref q :: r.map (ax_z ad))) := by
    intro q a0 H1 he hP1 hD1 hS1
    have ha : ∀ j, j < s.1 ∨ 1000000 ≤ j → (fun i => if i = s.1 then q else ad i) j = ad j := by
      intro j hj
      exact if_neg (by omega)
    have hwd : ax_wd cy s ad ++ [(q, .inl (cy (ax_ak t), a0))] = ax_wd cy (ax_nw s (ax_ak t) (ax_w n).toNat (ax_w n).toNat) (fun i => if i = s.1 then q else ad i) :=
      ax_wd_push rfl (if_pos rfl) he (fun j hj => ⟨ha j (Or.inl hj), ax_nw_e hw hj (fun i hi => ha i (Or.inl hi))⟩)
    rw [hwd] at hP1 hD1
    have h := k _ ha H1 locs arr (hl.ad (ax_vl_z ha hvl)) hP1 hD1 hS1
    have e1 : s.1 - nE + 1 = s.1 + 1 - nE := by omega
    have e2 : s.2.1 - sE + (ax_w n).toNat = s.2.1 + (ax_w n).toNat - sE := by omega
    rw [e1, e2, ← ax_vs_z ha hvs]
    have hz : ax_z (fun i => if i = s.1 then q else ad i) (.inr (.inr (some s.1))) = .ref q := by simp [ax_z, va_rf]
    rw [← hz]
    exact h
  have hc1 : s.1 - nE + 1 ≤ R.cells := by omega
  have hc2 : s.2.1 - sE + (ax_w n).toNat ≤ R.slots := by omega
  cases t with
  | int =>
    refine va_newa (atype := .int) (ty := .int) (N' := (ax_w n).toNat) (a0 := ((ax_w n).toNat, .inl (fun _ => 0))) hx hb (hts _ ax_arw.1) rfl hK hP hD hS hA (fun _ => rfl) hnn hcl (by show _ * 4 ≤ _; omega) hc1 hc2 hd (fun q cA H1 hK1 hP1 hD1 hS1 => ?_)
    have ec : cA = cy 20 := Option.some.inj ((hK1.2 5 (cA, .int) rfl).2.symm.trans (hK.2 0 (cy 20, .int) rfl).2)
    subst ec
    refine key q _ H1 ?_ hP1 hD1 hS1
    rw [ax_e_int (kd := 20) (by rw [ax_nw_K]; rfl) (by decide), ax_nw_K]
    simp only [ax_nw_I]
    rfl
  | char =>
    refine va_newa (atype := .char) (ty := .char) (N' := (ax_w n).toNat) (a0 := ((ax_w n).toNat, .inl (fun _ => 0))) hx hb (hts _ ax_arw.2.1) rfl hK hP hD hS hA (fun _ => rfl) hnn hcl (by show _ * 2 ≤ _; omega) hc1 hc2 hd (fun q cA H1 hK1 hP1 hD1 hS1 => ?_)
    have ec : cA = cy 21 := Option.some.inj ((hK1.2 5 (cA, .char) rfl).2.symm.trans (hK.2 1 (cy 21, .char) rfl).2)
    subst ec
    refine key q _ H1 ?_ hP1 hD1 hS1
    rw [ax_e_int (kd := 21) (by rw [ax_nw_K]; rfl) (by decide), ax_nw_K]
    simp only [ax_nw_I]
    rfl
  | byte =>
    refine va_newa (atype := .byte) (ty := .byte) (N' := (ax_w n).toNat) (a0 := ((ax_w n).toNat, .inl (fun _ => 0))) hx hb (hts _ ax_arw.2.2.1) rfl hK hP hD hS hA (fun _ => rfl) hnn hcl (by show _ * 1 ≤ _; omega) hc1 hc2 hd (fun q cA H1 hK1 hP1 hD1 hS1 => ?_)
    have ec : cA = cy 22 := Option.some.inj ((hK1.2 5 (cA, .byte) rfl).2.symm.trans (hK.2 2 (cy 22, .byte) rfl).2)
    subst ec
    refine key q _ H1 ?_ hP1 hD1 hS1
    rw [ax_e_int (kd := 22) (by rw [ax_nw_K]; rfl) (by decide), ax_nw_K]
    simp only [ax_nw_I]
    rfl
  | long =>
    refine va_newa (atype := .long) (ty := .long) (N' := (ax_w n).toNat) (a0 := ((ax_w n).toNat, .inr (.inl (fun _ => 0)))) hx hb (hts _ ax_arw.2.2.2) rfl hK hP hD hS hA (fun _ => rfl) hnn hcl (by show _ * 8 ≤ _; omega) hc1 hc2 hd (fun q cA H1 hK1 hP1 hD1 hS1 => ?_)
    have ec : cA = cy 23 := Option.some.inj ((hK1.2 5 (cA, .long) rfl).2.symm.trans (hK.2 3 (cy 23, .long) rfl).2)
    subst ec
    refine key q _ H1 ?_ hP1 hD1 hS1
    rw [ax_e_long (by rw [ax_nw_K]; rfl), ax_nw_K]
    simp only [ax_nw_J]
    rfl
  | _ => exact absurd ht (by decide)
end AXN
