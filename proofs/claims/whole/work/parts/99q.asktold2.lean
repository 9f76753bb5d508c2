/-! THE REFERENCE: qTold, qTakes -/
section ZAU
variable {d : Nat} {I J : zF} {D : zD} {pg : zG} {W : zD} {P : Int → zF → zF → Prop} {P0 : zF → zF → Prop}
theorem lnR.E {i : Int} {I J I' J' : zF} (h : rE I J I' J') (hl : lnR D pg i I) : lnR D pg i I' := fun a h0 h1 => by
  rw [h.1 47 _ (by omega)]; exact hl a h0 h1
theorem sr_qTold_l {I0 J0 : zF} (hB : rB D pg W I0) {i : Int} (hi : 0 ≤ i ∧ i < D 3 0 0) (hl : lnR D pg i I0) {all : List Int} (hn : I0 0 106 = (all.length : Int)) (hall : all.length ≤ 1600) (hcs : ∀ k, k < all.length → I0 75 k = all.getD k 0) {Q : Option ax_v → ax_S → Prop} {b : Bool} : ∀ (cs pre : List Int) (ts : List Bool) (st : List Int) (I J : zF), all = pre ++ cs → rE I0 J0 I J → I 0 56 = 2 → I 0 112 = ((st.length : Nat) : Int) → rk J st → pf_ts ts st → ts.length ≤ 40 → pf_tr 2 cs ts = some [b] → (∀ I' J', rE I0 J0 I' J' → I' 0 56 = 2 → Q (some (.inr (.inl ((pf_run (qv D (W 0 0 0) i) (qq D pg i) cs st).headD 0)))) (zr_S I' J')) → zb_W (d + 5) ax_m302 (7, [some (.inr (.inr (some 0))), some (.inl i), some (.inl (((pre.length : Nat) : Int))), none], [], zr_S I J) Q := by
  intro cs
  induction cs with
  | nil =>
    intro pre ts st I J ea hE h56 h112 hk hts htl ht hQ
    refine zq_qTold_7 I J i _ ?_
    have e1 : all.length = pre.length := by rw [ea, List.append_nil]
    rw [hE.1 0 106 (by omega), hn, e1]
    refine ⟨fun c => absurd c (Int.lt_irrefl _), fun _ => ?_⟩
    cases ht
    match st, hts, hk with
    | [x], hts, hk =>
      have := hQ I J hE h56
      have h0' : J 77 0 = x := hk.1
      rw [show (ax_w 0).toNat = 0 from rfl, h0']
      exact this
  | cons c cs ih =>
    intro pre ts st I J ea hE h56 h112 hk hts htl ht hQ
    have hlen := pf_ts_len hts
    have e1 : all.length = pre.length + (cs.length + 1) := by rw [ea, List.length_append, List.length_cons]
    unfold pf_tr at ht
    split at ht
    case h_2 => cases ht
    rename_i ts1 ht1
    split at ht
    case isFalse => cases ht
    rename_i hl1
    have hB' := hE.rB hB
    have hts1 := pf_step_ok (v := qv D (W 0 0 0) i) (q := qq D pg i) (fun p _ => qv_b hB.S.ok hB.W hi p) (fun c a => qq_b hB.S.ok c a) ht1 hts
    have hc : I 75 pre.length = c := by
      rw [hE.1 75 _ (by omega), hcs _ (by omega), ea]
      simp
    refine zq_qTold_7 I J i _ ?_
    have hcr := pf_t1_cases ht1
    have hr : 1 ≤ c ∧ c ≤ 10999 := by
      rcases hcr with h | ⟨h, _⟩ | ⟨h, h', _⟩ | ⟨h, _⟩ | ⟨h, _⟩ | ⟨h, h', _⟩ <;> omega
    rw [hE.1 0 106 (by omega), hn, e1, zb_w (x := ((pre.length : Nat) : Int)) (by omega) (by omega), Int.toNat_natCast, hc]
    simp (disch := omega) only [zb_w]
    have nxt : ∀ (st' : List Int) (I' J' : zF), pf_step (qv D (W 0 0 0) i) (qq D pg i) c st = st' → rE I0 J0 I' J' → I' 0 56 = 2 → I' 0 112 = ((st'.length : Nat) : Int) → rk J' st' → zb_W (d + 5) ax_m302 (162, [some (.inr (.inr (some 0))), some (.inl i), some (.inl (((pre.length : Nat) : Int))), none], [], zr_S I' J') Q := by
      intro st' I' J' hs hE' g56 g112 gk
      refine zq_qTold_162 I' J' i _ ?_
      have := ih (pre ++ [c]) ts1 st' I' J' (by rw [ea]; simp) hE' g56 g112 gk (by rw [← hs]; exact hts1) hl1 ht (fun I2 J2 h2 g2 => by
        have := hQ I2 J2 h2 g2
        unfold pf_run at this
        rw [hs] at this
        exact this)
      rw [show (((pre ++ [c]).length : Nat) : Int) = ((pre.length : Nat) : Int) + 1 by simp] at this
      exact this
    have push : ∀ x, pf_step (qv D (W 0 0 0) i) (qq D pg i) c st = x :: st → zr_v (d + 5) 298 [.inr (.inr (some 0)), .inr (.inl x)] I J (fun I' J' => zb_W (d + 5) ax_m302 (162, [some (.inr (.inr (some 0))), some (.inl i), some (.inl (((pre.length : Nat) : Int))), none], [], zr_S I' J') Q) := by
      intro x hx
      exact sr_qPuts h112 (by omega) (nxt (x :: st) _ _ hx (hE.uI (by omega)).uJ (by rw [zu_ne (by omega)]; exact h56) (by rw [zu_eq]; simp) (rk_put rfl hk))
    refine ⟨fun _ => ⟨by omega, ?_⟩, fun q => by omega⟩
    rcases hcr with ⟨h, h', e⟩ | ⟨h, _, r, e, e'⟩ | ⟨h, h', hal, e⟩ | ⟨h, e⟩ | ⟨h, r, e, e'⟩ | ⟨h, h', b1, b2, b3, r, e, e', h01⟩
    · refine ⟨fun q => by omega, fun _ => push (c - 1000) ?_⟩
      unfold pf_step
      rw [if_pos (by omega)]
    · refine ⟨fun _ => ⟨fun q => by omega, fun _ => ?_⟩, fun q => by omega⟩
      subst e
      match st, hts, hk with
      | x :: st', hts, hk =>
        simp only [List.length_cons] at h112 hlen htl
        rw [h112, show (((st'.length + 1 : Nat) : Int) - 1) = ((st'.length : Nat) : Int) by omega, Int.toNat_natCast, hk.1]
        refine ⟨by omega, sr_qOf hB'.S (by omega) hts.1 hi (hl.E hE) (sr_qClip (qq_b hB.S.ok _ _).n64 ⟨by omega, nxt _ _ _ ?_ hE.uJ h56 ?_ (rk_put (st := st') rfl hk.2)⟩)⟩
        · rw [clip_id (qq_b hB.S.ok _ _)]
          unfold pf_step
          rw [if_neg (by omega), if_pos (by omega)]
        · rw [h112]; simp
    · refine ⟨fun _ => ⟨fun _ => ⟨fun q => by omega, fun _ => ?_⟩, fun q => by omega⟩, fun q => by omega⟩
      refine sr_qPart2 hB' hi (by rw [show c - 40 + 40 = c by omega]; exact hal) (by omega) h56 (sr_qClip (qv_b hB.S.ok hB.W hi _).n64 (push _ ?_))
      rw [clip_id (qv_b hB.S.ok hB.W hi _)]
      unfold pf_step
      rw [if_neg (by omega), if_neg (by omega), if_pos (by omega)]
    · refine ⟨fun _ => ⟨fun _ => ⟨fun _ => ⟨fun _ => push 1 ?_, fun q => by omega⟩, fun q => by omega⟩, fun q => by omega⟩, fun q => by omega⟩
      unfold pf_step
      rw [if_neg (by omega), if_neg (by omega), if_neg (by omega), if_pos h]
    · refine ⟨fun _ => ⟨fun _ => ⟨fun _ => ⟨fun q => by omega, fun _ => ⟨fun _ => ?_, fun q => by omega⟩⟩, fun q => by omega⟩, fun q => by omega⟩, fun q => by omega⟩
      subst e
      match st, hts, hk with
      | x :: st', hts, hk =>
        simp only [List.length_cons] at h112 hlen htl
        rw [h112, show (((st'.length + 1 : Nat) : Int) - 1) = ((st'.length : Nat) : Int) by omega, Int.toNat_natCast, hk.1]
        refine ⟨by omega, by omega, nxt ((1 - x) :: st') _ _ ?_ hE.uJ h56 ?_ (rk_put (st := st') rfl hk.2)⟩
        · unfold pf_step
          rw [if_neg (by omega), if_neg (by omega), if_neg (by omega), if_neg (by omega), if_pos h]
        · rw [h112]; simp
    · refine ⟨fun _ => ⟨fun _ => ⟨fun _ => ⟨fun q => by omega, fun _ => ⟨fun q => by omega, fun _ => ?_⟩⟩, fun q => by omega⟩, fun q => by omega⟩, fun q => by omega⟩
      subst e
      match st, hts, hk with
      | x :: y :: st', hts, hk =>
        simp only [List.length_cons] at h112 hlen htl
        refine sr_qJoins (n := st'.length) h112 (by omega) hk.2.1 hk.1 hts.2.2.1 hts.1 ⟨h, h'⟩ (nxt (pf_two c y x :: st') _ _ ?_ ((hE.uI (by omega)).uI (by omega)).uJ (by rw [zu_ne (by omega), zu_ne (by omega)]; exact h56) (by rw [zu_eq]; simp) (rk_put rfl hk.2.2))
        unfold pf_step
        rw [if_neg (by omega), if_neg (by omega), if_neg (by omega), if_neg (by omega), if_neg (by omega)]
theorem sr_qTold (hB : rB D pg W I) {i : Int} (hi : 0 ≤ i ∧ i < D 3 0 0) (hl : lnR D pg i I) {cs : List Int} (hn : I 0 106 = (cs.length : Int)) (hall : cs.length ≤ 1600) (hcs : ∀ k, k < cs.length → I 75 k = cs.getD k 0) (h56 : I 0 56 = 2) {b : Bool} (ht : pf_tr 2 cs [] = some [b]) (hP : ∀ I' J', rE I J I' J' → I' 0 56 = 2 → P (pf_res (qv D (W 0 0 0) i) (qq D pg i) cs) I' J') : zr_l (d + 6) 302 [.inr (.inr (some 0)), .inl i] I J P := by
  refine zr_inl (M := ax_m302) rfl (Nat.le_of_ble_eq_true rfl) (zq_qTold_0 I J i ?_)
  exact sr_qTold_l (I0 := I) (J0 := J) (b := b) hB hi hl hn hall hcs cs [] [] [] _ _ rfl ((rE.refl I J).uI (by omega)) (by rw [zu_ne (by omega)]; exact h56) (by rw [zu_eq]; rfl) trivial trivial (by decide) ht (fun I' J' h' g' => zr_Ql.of (hP I' J' h' g'))
end ZAU
