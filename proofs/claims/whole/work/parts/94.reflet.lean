/-! THE REFERENCE: the shop that is read; letters -/
def dR (D : zD) (I : zF) : Prop :=
  (∀ h : Int, 0 ≤ h → h < 2 → I 32 h.toNat = D 0 h 0) ∧
  (∀ h k : Int, 0 ≤ h → h < 2 → 0 ≤ k → k < D 0 h 0 → I 33 (24 * h + 2 * k).toNat = D 1 h k ∧ I 33 (24 * h + 2 * k + 1).toNat = D 2 h k) ∧
  I 0 44 = D 3 0 0 ∧ (∀ w : Int, 0 ≤ w → w < D 3 0 0 → I 34 (7 * w).toNat = D 4 w 0) ∧
  (∀ w k : Int, 0 ≤ w → w < D 3 0 0 → 0 ≤ k → k < D 4 w 0 → I 34 (7 * w + 1 + k).toNat = D 5 w k) ∧
  I 0 47 = D 6 0 0 ∧ (∀ b : Int, 0 ≤ b → b < D 6 0 0 → I 35 (2 * b).toNat = D 7 b 0 ∧ I 35 (2 * b + 1).toNat = D 7 b 1) ∧
  (∀ k : Int, 0 ≤ k → k < 3 → I 36 k.toNat = D 8 k 0)
theorem dR.cong {D : zD} {I I' : zF} (h : dR D I) (g : ∀ i j, (i = 32 ∨ i = 33 ∨ i = 34 ∨ i = 35 ∨ i = 36 ∨ (i = 0 ∧ (j = 44 ∨ j = 47))) → I' i j = I i j) : dR D I' := by
  obtain ⟨a, b, c, e, f, k, l, m⟩ := h
  exact ⟨fun h r1 r2 => by rw [g _ _ (by omega)]; exact a h r1 r2, fun h k r1 r2 r3 r4 => by rw [g _ _ (by omega), g _ _ (by omega)]; exact b h k r1 r2 r3 r4, by rw [g _ _ (by omega)]; exact c, fun w r1 r2 => by rw [g _ _ (by omega)]; exact e w r1 r2, fun w k r1 r2 r3 r4 => by rw [g _ _ (by omega)]; exact f w k r1 r2 r3 r4, by rw [g _ _ (by omega)]; exact k, fun b r1 r2 => by rw [g _ _ (by omega), g _ _ (by omega)]; exact l b r1 r2, fun k r1 r2 => by rw [g _ _ (by omega)]; exact m k r1 r2⟩
/-- nothing has changed but what a statement without a formula writes -/
def rLf (I I' : zF) : Prop := ∀ i j, ¬ (i = 31 ∨ (i = 32 ∧ j < 2) ∨ (i = 33 ∧ j < 48) ∨ (i = 34 ∧ j < 56) ∨ i = 35 ∨ (i = 36 ∧ j < 3)) → ¬ (i = 0 ∧ (j = 2 ∨ j = 4 ∨ j = 5 ∨ j = 6 ∨ j = 10 ∨ j = 39 ∨ j = 40 ∨ j = 44 ∨ j = 47)) → I' i j = I i j
theorem rLf.refl (I : zF) : rLf I I := fun _ _ _ _ => rfl
theorem rLf.trans {I I' I2 : zF} (h : rLf I I') (h2 : rLf I' I2) : rLf I I2 := fun i j a b => (h2 i j a b).trans (h i j a b)
theorem rY.L {I I' : zF} (h : rY I I') : rLf I I' := fun i j _ b => h i j (by omega)
theorem rYn.L {I I' : zF} (h : rYn I I') : rLf I I' := fun i j a b => h i j (by omega) (by omega)
theorem rY.R {D : zD} {I I' : zF} (h : rY I I') (hR : dR D I) : dR D I' := hR.cong (fun i j q => h i j (by omega))
theorem rYn.R {D : zD} {I I' : zF} (h : rYn I I') (hR : dR D I) : dR D I' := hR.cong (fun i j q => h i j (by omega) (by omega))
/-- only what a shop that is read has -/
theorem rTx.dr {T : Nat → Int} {n : Int} {s : zs} {I I' : zF} (h : rTx T n s I) (hF : ∀ i j, ¬ (31 ≤ i ∧ i ≤ 39) → ¬ (i = 0 ∧ (39 ≤ j ∧ j ≤ 56)) → I' i j = I i j) : rTx T n s I' := by
  refine ⟨h.ok, by rw [hF 0 3 (by omega) (by omega)]; exact h.n, fun j hj => by rw [hF 1 j (by omega) (by omega)]; exact h.2.2.1 j hj, by rw [hF 0 2 (by omega) (by omega)]; exact h.p, by rw [hF 0 4 (by omega) (by omega)]; exact h.g, by rw [hF 0 5 (by omega) (by omega)]; exact h.e, rW_cong h.W (fun i j a b c e => hF i j (fun z => ?_) (by omega)), by rw [hF 0 6 (by omega) (by omega)]; exact h.e6⟩
  have hk : ∀ i, 31 ≤ i → i ≤ 39 → zr_K i ≠ (21, (zr_K i).2) := by
    intro i i1 i2
    rcases (show i = 31 ∨ i = 32 ∨ i = 33 ∨ i = 34 ∨ i = 35 ∨ i = 36 ∨ i = 37 ∨ i = 38 ∨ i = 39 by omega) with q | q | q | q | q | q | q | q | q <;> rw [q] <;> decide
  exact hk i z.1 z.2 e
section ZRL
variable {d : Nat} {I J : zF} {T : Nat → Int} {n : Int} {s : zs} {D : zD} {pg : zG} {P : Int → zF → zF → Prop} {P0 : zF → zF → Prop} {Q : Option ax_v → ax_S → Prop}
theorem sr_toldAt_2 (hR : dR D I) (ok : zD_ok D pg) {h x : Int} (hh : 0 ≤ h ∧ h < 2) (hx : n32 x) : ∀ (m : Nat) (k : Int), 0 ≤ k → k + m = D 0 h 0 → Q (some (.inl (pf_find (D 1 h) x m k))) (zr_S I J) → zb_W d ax_m192 (2, [some (.inr (.inr (some 0))), some (.inl h), some (.inl x), some (.inl k)], [], zr_S I J) Q := by
  have a0 := ok.a0 h 0
  have ec := hR.1 h hh.1 hh.2
  intro m
  induction m with
  | zero =>
    intro k h0 hm hQ
    refine zq_toldAt_2 I J h x k ?_
    rw [zb_w (x := h) (by omega) (by omega), zb_w (x := k) (by omega) (by omega), ec, zb_w (x := D 0 h 0) (by omega) (by omega)]
    exact ⟨by omega, fun q => by omega, fun _ => hQ⟩
  | succ m ih =>
    intro k h0 hm hQ
    have a1 := ok.a1 h k
    have en := (hR.2.1 h k hh.1 hh.2 h0 (by omega)).1
    refine zq_toldAt_2 I J h x k ?_
    rw [zb_w (x := h) (by omega) (by omega), zb_w (x := k) (by omega) (by omega), ec, zb_w (x := D 0 h 0) (by omega) (by omega), zb_w (x := 24 * h + 2 * k) (by omega) (by omega), en]
    refine ⟨by omega, fun _ => ⟨by omega, w_if ⟨by omega, by omega⟩ hx (fun c => ?_) (fun c => ih (k + 1) (by omega) (by omega) ?_)⟩, fun q => absurd (show k < D 0 h 0 by omega) q⟩
    · unfold pf_find at hQ
      rwa [if_pos c] at hQ
    · unfold pf_find at hQ
      rwa [if_neg c] at hQ
theorem sr_toldAt (hR : dR D I) (ok : zD_ok D pg) {h x : Int} (hh : 0 ≤ h ∧ h < 2) (hx : n32 x) (hP : P (pf_at D h x) I J) : zr_i (d + 1) 192 [.inr (.inr (some 0)), .inl h, .inl x] I J P := by
  have a0 := ok.a0 h 0
  exact zr_ini (M := ax_m192) rfl (Nat.le_of_ble_eq_true rfl) (zq_toldAt_0 I J h x (sr_toldAt_2 hR ok hh hx (D 0 h 0).toNat 0 (by decide) (by omega) (zr_Qi.of hP)))
theorem sr_rowTold_b {k q : Int} (hB : rBad k q I) (hP : ∀ v, P v I J) : zr_i (d + 2) 193 [.inr (.inr (some 0))] I J P := zr_ini (M := ax_m193) rfl (Nat.le_of_ble_eq_true rfl) (zq_rowTold_0 I J (sr_number_b hB (zr_Qi.of (hP _))))
theorem sr_rowTold (hL : rTx T n s I) (hP0 : ∀ k q, pNum T n s 7 = .inl (k, q) → ∀ v I', rY I I' → rBad k q I' → P v I' J) (hP1 : ∀ s' v, pNum T n s 7 = .inr (s', v) → ∀ I', rY I I' → rTx T n s' I' → P (pRw v) I' J) : zr_i (d + 4) 193 [.inr (.inr (some 0))] I J P := zr_ini (M := ax_m193) rfl (Nat.le_of_ble_eq_true rfl) (zq_rowTold_0 I J (sr_number hL ⟨by decide, by decide⟩ (fun k q e r I' hr y b => zr_Qi.of (hP0 k q e _ I' y b)) (fun s' v e I' hv y t _ => zr_Qi.of (hP1 s' v e I' y t))))
theorem lt_93b {k q a1 a2 : Int} (hB : rBad k q I) (hP : Q none (zr_S I J)) : ∀ (m : Nat) (a3 a4 : Int), a4 + m = 5 → 0 ≤ a4 → zb_W (d + 2) ax_m194 (93, [some (.inr (.inr (some 0))), some (.inl a1), some (.inl a2), some (.inl a3), some (.inl a4)], [], zr_S I J) Q := by
  intro m
  induction m with
  | zero =>
    intro a3 a4 h0 h1
    refine zq_letterTold_93 I J a1 a2 a3 a4 ⟨fun z => ?_, fun _ => e_no hB hP⟩
    rw [zb_w (x := a4) (by omega) (by omega)] at z
    have z' : a4 < 5 := z
    omega
  | succ m ih =>
    intro a3 a4 h0 h1
    refine zq_letterTold_93 I J a1 a2 a3 a4 ⟨fun _ => sr_rowTold_b hB (fun v => ih _ (a4 + 1) (by omega) (by omega)), fun z => absurd ?_ z⟩
    rw [zb_w (x := a4) (by omega) (by omega)]
    show a4 < 5
    omega
theorem lt_80b {k q a1 a2 : Int} (hB : rBad k q I) (hP : Q none (zr_S I J)) : zb_W (d + 2) ax_m194 (80, [some (.inr (.inr (some 0))), some (.inl a1), some (.inl a2), none, none], [], zr_S I J) Q := zq_letterTold_80 I J a1 a2 (sr_asks_b (w := 5) (ks := 3) (by decide) hB (lt_93b hB hP 5 0 0 (by decide) (by decide)))
theorem lt_54b {k q a1 a2 : Int} (hB : rBad k q I) (hP : Q none (zr_S I J)) : zb_W (d + 2) ax_m194 (54, [some (.inr (.inr (some 0))), some (.inl a1), some (.inl a2), none, none], [], zr_S I J) Q := zq_letterTold_54 I J a1 a2 (e_no hB (lt_80b hB hP))
theorem dR_let {h x g : Int} (hR : dR D I) (ok : zD_ok D pg) (hh : 0 ≤ h ∧ h < 2) (hl : D 0 h 0 < 12) : dR (dLet D h x g) (ax_u (ax_u (ax_u I 33 (24 * h + 2 * D 0 h 0).toNat x) 33 (24 * h + 2 * D 0 h 0 + 1).toNat g) 32 h.toNat (D 0 h 0 + 1)) := by
  have c0 := ok.a0 h 0
  obtain ⟨a, b, c, e, f, k, l, m⟩ := hR
  refine ⟨fun h2 r1 r2 => ?_, fun h2 k2 r1 r2 r3 r4 => ?_, ?_, fun w r1 r2 => ?_, fun w k r1 r2 r3 r4 => ?_, ?_, fun b r1 r2 => ?_, fun k r1 r2 => ?_⟩
  · by_cases q : h2 = h
    · rw [q, zu_eq]; unfold dLet; rw [if_pos ⟨rfl, rfl⟩]
    · rw [zu_ne (by omega), zu_ne (by omega), zu_ne (by omega), a h2 r1 r2]
      unfold dLet; rw [if_neg (by omega), if_neg (by omega), if_neg (by omega)]
  · have c2 := ok.a0 h2 0
    by_cases q : h2 = h ∧ k2 = D 0 h 0
    · rw [q.1, q.2, zu_ne (by omega), zu_ne (by omega), zu_eq, zu_ne (by omega), zu_eq]
      unfold dLet
      rw [if_neg (by omega), if_pos ⟨rfl, rfl, rfl⟩, if_neg (by omega), if_neg (by omega), if_pos ⟨rfl, rfl, rfl⟩]
      exact ⟨rfl, rfl⟩
    · have r4' : k2 < D 0 h2 0 := by
        unfold dLet at r4
        by_cases q2 : h2 = h
        · rw [if_pos ⟨rfl, q2⟩] at r4; rw [q2]; omega
        · rw [if_neg (by omega), if_neg (by omega), if_neg (by omega)] at r4; exact r4
      rw [zu_ne (by omega), zu_ne (by omega), zu_ne (by omega), zu_ne (by omega), zu_ne (by omega), zu_ne (by omega)]
      unfold dLet
      rw [if_neg (by omega), if_neg (by omega), if_neg (by omega), if_neg (by omega), if_neg (by omega), if_neg (by omega)]
      exact b h2 k2 r1 r2 r3 r4'
  · rw [zu_ne (by omega), zu_ne (by omega), zu_ne (by omega), dLet_5 (by decide)]; exact c
  · rw [dLet_5 (by decide)] at r2 ⊢; rw [zu_ne (by omega), zu_ne (by omega), zu_ne (by omega)]; exact e w r1 r2
  · rw [dLet_5 (by decide)] at r2 r4 ⊢; rw [zu_ne (by omega), zu_ne (by omega), zu_ne (by omega)]; exact f w k r1 r2 r3 r4
  · rw [zu_ne (by omega), zu_ne (by omega), zu_ne (by omega), dLet_5 (by decide)]; exact k
  · rw [dLet_5 (by decide)] at r2; rw [dLet_5 (by decide), dLet_5 (by decide), zu_ne (by omega), zu_ne (by omega), zu_ne (by omega), zu_ne (by omega), zu_ne (by omega), zu_ne (by omega)]; exact l b r1 r2
  · rw [zu_ne (by omega), zu_ne (by omega), zu_ne (by omega), dLet_5 (by decide)]; exact m k r1 r2
theorem lt_93 {x h : Int} {I0 : zF} (ok : zD_ok D pg) (hh : 0 ≤ h ∧ h < 2) (hl : D 0 h 0 < 12) : ∀ (m : Nat) (r g : Int) (s : zs) (I : zF), r + m = 5 → 0 ≤ r → rTx T n s I → dR D I → rY I0 I → (∀ k q, pRows T n m r g s = .inl (k, q) → ∀ I', rLf I0 I' → rBad k q I' → Q none (zr_S I' J)) → (∀ s' g', pRows T n m r g s = .inr (s', g') → ∀ I', rLf I0 I' → rTx T n s' I' → dR (dLet D h x g') I' → Q none (zr_S I' J)) → zb_W (d + 4) ax_m194 (93, [some (.inr (.inr (some 0))), some (.inl x), some (.inl h), some (.inl g), some (.inl r)], [], zr_S I J) Q := by
  intro m
  induction m with
  | zero =>
    intro r g s I hm h0 hL hR hY hP0 hP1
    have c0 := ok.a0 h 0
    have r5 : r = 5 := by omega
    refine zq_letterTold_93 I J x h g r ⟨fun z => ?_, fun _ => e_ok hL.e ?_⟩
    · rw [r5] at z; exact absurd z (by decide)
    · have ec := hR.1 h hh.1 hh.2
      rw [zb_w (x := h) (by omega) (by omega), ec, zb_w (x := 24 * h + 2 * D 0 h 0) (by omega) (by omega), zb_w (x := 24 * h + 2 * D 0 h 0 + 1) (by omega) (by omega)]
      have e32 : (ax_u (ax_u I 33 (24 * h + 2 * D 0 h 0).toNat x) 33 (24 * h + 2 * D 0 h 0 + 1).toNat g) 32 h.toNat = D 0 h 0 := by rw [zu_ne (by omega), zu_ne (by omega)]; exact ec
      rw [e32]
      refine ⟨by omega, by omega, by omega, by omega, by omega, hP1 s g rfl _ (hY.L.trans (fun i j a b => by rw [zu_ne (by omega), zu_ne (by omega), zu_ne (by omega)])) (hL.dr (fun i j a b => by rw [zu_ne (by omega), zu_ne (by omega), zu_ne (by omega)])) (dR_let hR ok hh hl)⟩
  | succ m ih =>
    intro r g s I hm h0 hL hR hY hP0 hP1
    unfold pRows at hP0 hP1
    refine zq_letterTold_93 I J x h g r ⟨fun _ => sr_rowTold hL (fun k q e v I1 y1 b1 => lt_93b b1 (hP0 k q ?_ I1 (hY.trans y1).L b1) m _ _ (by omega) (by omega)) (fun s1 v e I1 y1 t1 => ih (r + 1) _ s1 I1 (by omega) (by omega) t1 (y1.R hR) (hY.trans y1) ?_ ?_), fun z => absurd ?_ z⟩
    · rw [e]
    · rw [e] at hP0; exact hP0
    · rw [e] at hP1; exact hP1
    · rw [zb_w (x := r) (by omega) (by omega)]
      show r < 5
      omega
theorem sr_letterTold (hL : rTx T n s I) (hR : dR D I) (ok : zD_ok D pg) (hP0 : ∀ k q, pLet T n D s = .inl (k, q) → ∀ I', rLf I I' → rBad k q I' → P0 I' J) (hP1 : ∀ s' D', pLet T n D s = .inr (s', D') → ∀ I', rLf I I' → rTx T n s' I' → dR D' I' → P0 I' J) : zr_v (d + 5) 194 [.inr (.inr (some 0))] I J P0 := by
  unfold pLet at hP0 hP1
  refine zr_inv (M := ax_m194) rfl (Nat.le_of_ble_eq_true rfl) (zq_letterTold_0 I J (sr_name hL ⟨by decide, by decide⟩ (fun k q e I1 y1 b1 => ?_) (fun s1 e I1 y1 t1 n1 n2 n3 => ?_)))
  · rw [e] at hP0
    exact sr_asks_b (w := 4) (ks := 2) (by decide) b1 (sr_number_b b1 (e_no b1 (lt_54b b1 (zr_Qv.of (hP0 k q rfl I1 y1.L b1)))))
  · rw [e] at hP0 hP1
    have nm := pName_i hL.ok e
    have ex : I1 31 0 = nmL T s 0 := by
      have := n3 0 (by decide) (by have := nm.2.2.2.1.1; unfold nmN at this; omega)
      exact this
    refine sr_asks (w := 4) (ks := 2) (by decide) t1 (fun c I2 y2 t2 => ?_) (fun c I2 y2 b2 => sr_number_b b2 (e_no b2 (lt_54b b2 (zr_Qv.of ?_))))
    · have c' : wd T n s1 = 2 := c
      have hP0' : ∀ k q, (if wd T n s1 = 2 then (match pNum T n (aWd T n s1) 1 with | .inl e => .inl e | .inr (s3, h) => if D 0 h 0 = 12 then .inl (5, (aWd T n s1).1) else if pf_at D h (nmL T s 0) = -1 then (if wd T n s3 = 3 then (match pRows T n 5 0 0 (aWd T n s3) with | .inl e => .inl e | .inr (s4, g) => .inr (s4, dLet D h (nmL T s 0) g)) else .inl (1, s3.1)) else .inl (2, (aWd T n s1).1)) else .inl (1, s1.1)) = (Sum.inl (k, q) : Sum (Int × Int) (zs × zD)) → ∀ I', rLf I I' → rBad k q I' → P0 I' J := hP0
      have hP1' : ∀ s' D', (if wd T n s1 = 2 then (match pNum T n (aWd T n s1) 1 with | .inl e => .inl e | .inr (s3, h) => if D 0 h 0 = 12 then .inl (5, (aWd T n s1).1) else if pf_at D h (nmL T s 0) = -1 then (if wd T n s3 = 3 then (match pRows T n 5 0 0 (aWd T n s3) with | .inl e => .inl e | .inr (s4, g) => .inr (s4, dLet D h (nmL T s 0) g)) else .inl (1, s3.1)) else .inl (2, (aWd T n s1).1)) else .inl (1, s1.1)) = (Sum.inr (s', D') : Sum (Int × Int) (zs × zD)) → ∀ I', rLf I I' → rTx T n s' I' → dR D' I' → P0 I' J := hP1
      rw [if_pos c'] at hP0' hP1'
      have f2 : rLf I I2 := y1.L.trans y2.L
      refine sr_number t2 ⟨by decide, by decide⟩ (fun k q e2 r I3 hr y3 b3 => e_no b3 (lt_54b b3 (zr_Qv.of ?_))) (fun s3 h e2 I3 hv y3 t3 e10 => e_ok t3.e ?_)
      · rw [e2] at hP0'
        exact hP0' k q rfl I3 (f2.trans y3.L) b3
      · rw [e2] at hP0' hP1'
        have hP0a : ∀ k q, (if D 0 h 0 = 12 then .inl (5, (aWd T n s1).1) else if pf_at D h (nmL T s 0) = -1 then (if wd T n s3 = 3 then (match pRows T n 5 0 0 (aWd T n s3) with | .inl e => .inl e | .inr (s4, g) => .inr (s4, dLet D h (nmL T s 0) g)) else .inl (1, s3.1)) else .inl (2, (aWd T n s1).1)) = (Sum.inl (k, q) : Sum (Int × Int) (zs × zD)) → ∀ I', rLf I I' → rBad k q I' → P0 I' J := hP0'
        have hP1a : ∀ s' D', (if D 0 h 0 = 12 then .inl (5, (aWd T n s1).1) else if pf_at D h (nmL T s 0) = -1 then (if wd T n s3 = 3 then (match pRows T n 5 0 0 (aWd T n s3) with | .inl e => .inl e | .inr (s4, g) => .inr (s4, dLet D h (nmL T s 0) g)) else .inl (1, s3.1)) else .inl (2, (aWd T n s1).1)) = (Sum.inr (s', D') : Sum (Int × Int) (zs × zD)) → ∀ I', rLf I I' → rTx T n s' I' → dR D' I' → P0 I' J := hP1'
        obtain ⟨_, _, _, v1⟩ := pNum_i t2.ok e2
        have hh : 0 ≤ h ∧ h < 2 := by omega
        have R3 : dR D I3 := y3.R (y2.R (y1.R hR))
        have f3 : rLf I I3 := f2.trans y3.L
        have ec := R3.1 h hh.1 hh.2
        have c0 := ok.a0 h 0
        have nx := nm.2.2.2.2 0 (by decide) (by have := nm.2.2.2.1.1; omega)
        have ex1 : I1 31 ((ax_w 0).toNat) = nmL T s 0 := ex
        rw [zb_w (x := h) (by omega) (by omega), ec, ex1]
        refine ⟨by omega, w_if ⟨by omega, by omega⟩ ⟨by decide, by decide⟩ (fun c12 => sr_fail t3.e ⟨by decide, by decide⟩ (fun I4 y4 _ b4 => lt_54b b4 (zr_Qv.of ?_))) (fun c12 => zq_letterTold_54 I3 J _ h (e_ok t3.e (sr_toldAt R3 ok hh ⟨by omega, by omega⟩ ?_)))⟩
        · rw [if_pos c12] at hP0a
          rw [e10] at b4
          exact hP0a 5 _ rfl I4 (f3.trans y4.L) b4
        · rw [if_neg c12] at hP0a hP1a
          have pa : n32 (pf_at D h (nmL T s 0)) := by rcases pf_at_in ok h (nmL T s 0) with z | ⟨z1, z2, _⟩ <;> exact ⟨by omega, by omega⟩
          refine w_if pa ⟨by decide, by decide⟩ (fun ca => zq_letterTold_80 I3 J _ h (sr_asks (w := 5) (ks := 3) (by decide) t3 (fun c3 I4 y4 t4 => ?_) (fun c3 I4 y4 b4 => lt_93b b4 (zr_Qv.of ?_) 5 0 0 (by decide) (by decide)))) (fun ca => sr_fail t3.e ⟨by decide, by decide⟩ (fun I4 y4 _ b4 => lt_80b b4 (zr_Qv.of ?_)))
          · have c3' : wd T n s3 = 3 := c3
            rw [if_pos ca, if_pos c3'] at hP0a hP1a
            refine lt_93 (I0 := I4) ok hh (by omega) 5 0 0 (aWd T n s3) I4 (by decide) (by decide) t4 (y4.R R3) (rY.refl I4) (fun k q e5 I5 f5 b5 => zr_Qv.of ?_) (fun s5 g e5 I5 f5 t5 R5 => zr_Qv.of ?_)
            · rw [e5] at hP0a
              exact hP0a k q rfl I5 (f3.trans (y4.L.trans f5)) b5
            · rw [e5] at hP1a
              exact hP1a s5 _ rfl I5 (f3.trans (y4.L.trans f5)) t5 R5
          · have c3' : ¬ wd T n s3 = 3 := c3
            rw [if_pos ca, if_neg c3'] at hP0a
            exact hP0a 1 _ rfl I4 (f3.trans y4.L) b4
          · rw [if_neg ca] at hP0a
            rw [e10] at b4
            exact hP0a 2 _ rfl I4 (f3.trans y4.L) b4
    · have c' : ¬ wd T n s1 = 2 := c
      have hP0' : ∀ k q, (if wd T n s1 = 2 then _ else (Sum.inl (1, s1.1) : Sum (Int × Int) (zs × zD))) = (Sum.inl (k, q) : Sum (Int × Int) (zs × zD)) → ∀ I', rLf I I' → rBad k q I' → P0 I' J := hP0
      rw [if_neg c'] at hP0'
      exact hP0' 1 _ rfl I2 (y1.L.trans y2.L) b2
end ZRL
