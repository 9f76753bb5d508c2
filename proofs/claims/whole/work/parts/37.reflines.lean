/-! LINES: what the table is like -/
theorem lx_in {D : zD} {pg : zG} (ok : zD_ok D pg) (o h i : Int) : lx D o h i = -1 ∨ (0 ≤ lx D o h i ∧ lx D o h i < D 0 h 0) := by
  unfold lx
  split
  · rcases pf_at_in ok h (D 5 o i) with q | q
    · exact Or.inl q
    · exact Or.inr ⟨q.1, q.2.1⟩
  · exact Or.inl rfl
theorem ly_in {D : zD} {pg : zG} (ok : zD_ok D pg) (t h j : Int) : ly D t h j = -1 ∨ (0 ≤ ly D t h j ∧ ly D t h j < D 0 h 0) := by
  unfold ly
  split
  · rcases pf_at_in ok h (D 5 t (D 4 t 0 - 1 - j)) with q | q
    · exact Or.inl q
    · exact Or.inr ⟨q.1, q.2.1⟩
  · exact Or.inl rfl
theorem lx_ne {D : zD} {pg : zG} (ok : zD_ok D pg) {o h i : Int} (hc : pf_canPaint D o h = 1) (hi : 0 ≤ i ∧ i < D 4 o 0) : lx D o h i ≠ -1 := by
  unfold lx
  rw [if_pos hi.2]
  exact pf_canPaint_all ok hc hi
theorem ly_ne {D : zD} {pg : zG} (ok : zD_ok D pg) {t h j : Int} (hc : pf_canPaint D t h = 1) (hj : 0 ≤ j ∧ j < D 4 t 0) : ly D t h j ≠ -1 := by
  unfold ly
  rw [if_pos hj.2]
  exact pf_canPaint_all ok hc (by omega)
/-- what a cell's choice is like -/
def zTc (x y a t : Int) (c : zT) : Prop := c.2.2.1 = -1 ∨ ((0 ≤ c.2.2.1 ∧ c.2.2.1 ≤ 5) ∧ (c.2.2.1 ≠ 5 → x ≠ -1) ∧ (c.2.2.1 ≠ 4 → y ≠ -1) ∧ c.2.2.2 = pf_gby c.2.2.1 a t)
theorem pf_st_c {D : zD} {pg : zG} {h x y a t b : Int} {N1 N2 N3 c : zT} (hb : 0 ≤ b ∧ b ≤ 5) (hc : zTc x y a t c) : zTc x y a t (pf_st D pg h x y a t N1 N2 N3 b c) ∧ (c.2.2.1 ≠ -1 → (pf_st D pg h x y a t N1 N2 N3 b c).2.2.1 ≠ -1) ∧ (¬ ((b ≠ 5 ∧ x = -1) ∨ (b ≠ 4 ∧ y = -1) ∨ pf_nn D pg h x y a t b = -1) → (pf_st D pg h x y a t N1 N2 N3 b c).2.2.1 ≠ -1) := by
  unfold pf_st
  by_cases q : (b ≠ 5 ∧ x = -1) ∨ (b ≠ 4 ∧ y = -1) ∨ pf_nn D pg h x y a t b = -1
  · rw [if_pos q]
    exact ⟨hc, fun r => r, fun r => absurd q r⟩
  · rw [if_neg q]
    unfold pf_of
    by_cases q2 : c.2.2.1 = -1 ∨ pf_nn D pg h x y a t b + (pf_tt b N1 N2 N3).1 < c.1 ∨ (pf_nn D pg h x y a t b + (pf_tt b N1 N2 N3).1 = c.1 ∧ pf_bits (pf_gby b a t) + (pf_tt b N1 N2 N3).2.1 < c.2.1)
    · rw [if_pos q2]
      have hne : b ≠ -1 := by omega
      exact ⟨Or.inr ⟨hb, fun (r : b ≠ 5) => by omega, fun (r : b ≠ 4) => by omega, rfl⟩, fun _ => hne, fun _ => hne⟩
    · rw [if_neg q2]
      exact ⟨hc, fun r => r, fun _ r => q2 (Or.inl r)⟩
theorem pf_cs_c {D : zD} {pg : zG} (ok : zD_ok D pg) {h x y a t : Int} {N1 N2 N3 : zT} : ∀ (n : Nat) (b : Int) (c : zT), 0 ≤ b → b + n = 6 → zTc x y a t c → zTc x y a t (pf_cs D pg h x y a t N1 N2 N3 n b c) ∧ ((c.2.2.1 ≠ -1 ∨ (b ≤ 4 ∧ x ≠ -1) ∨ (b ≤ 5 ∧ y ≠ -1)) → (pf_cs D pg h x y a t N1 N2 N3 n b c).2.2.1 ≠ -1) := by
  intro n
  induction n with
  | zero =>
    intro b c h0 he hc
    exact ⟨hc, fun q => by rcases q with q | q | q; exact q; omega; omega⟩
  | succ n ih =>
    intro b c h0 he hc
    have h8 := ok.a8 1 0
    unfold pf_cs
    obtain ⟨s1, s2, s3⟩ := pf_st_c (D := D) (pg := pg) (h := h) (x := x) (y := y) (a := a) (t := t) (b := b) (N1 := N1) (N2 := N2) (N3 := N3) (c := c) (by omega) hc
    obtain ⟨r1, r2⟩ := ih (b + 1) _ (by omega) (by omega) s1
    refine ⟨r1, fun q => r2 ?_⟩
    by_cases e4 : b = 4 ∧ x ≠ -1
    · refine Or.inl (s3 (fun w => ?_))
      have e : pf_nn D pg h x y a t b = D 8 1 0 := by unfold pf_nn; rw [if_neg (by omega)]
      rw [e] at w
      omega
    · by_cases e5 : b = 5 ∧ y ≠ -1
      · refine Or.inl (s3 (fun w => ?_))
        have e : pf_nn D pg h x y a t b = D 8 1 0 := by unfold pf_nn; rw [if_neg (by omega)]
        rw [e] at w
        omega
      · rcases q with q | q | q
        · exact Or.inl (s2 q)
        · exact Or.inr (Or.inl (by omega))
        · exact Or.inr (Or.inr (by omega))
theorem pf_L_c {D : zD} {pg : zG} (ok : zD_ok D pg) {o t h i j : Int} (ho : pf_canPaint D o h = 1) (ht : pf_canPaint D t h = 1) (hi : 0 ≤ i ∧ i ≤ D 4 o 0) (hj : 0 ≤ j ∧ j ≤ D 4 t 0) (hne : i < D 4 o 0 ∨ j < D 4 t 0) : (0 ≤ (pf_L D pg o t h i j).2.2.1 ∧ (pf_L D pg o t h i j).2.2.1 ≤ 5) ∧ ((pf_L D pg o t h i j).2.2.1 ≠ 5 → i < D 4 o 0) ∧ ((pf_L D pg o t h i j).2.2.1 ≠ 4 → j < D 4 t 0) ∧ (pf_L D pg o t h i j).2.2.2 = pf_gby (pf_L D pg o t h i j).2.2.1 (gx D o h i) (gy D t h j) := by
  rw [pf_L_eq hi.2 hj.2 hne]
  unfold pf_ce
  obtain ⟨r1, r2⟩ := pf_cs_c ok (h := h) (x := lx D o h i) (y := ly D t h j) (a := gx D o h i) (t := gy D t h j) (N1 := pf_L D pg o t h (i + 1) (j + 1)) (N2 := pf_L D pg o t h (i + 1) j) (N3 := pf_L D pg o t h i (j + 1)) 6 0 z0 (by decide) (by decide) (Or.inl rfl)
  have hb : (pf_cs D pg h (lx D o h i) (ly D t h j) (gx D o h i) (gy D t h j) (pf_L D pg o t h (i + 1) (j + 1)) (pf_L D pg o t h (i + 1) j) (pf_L D pg o t h i (j + 1)) 6 0 z0).2.2.1 ≠ -1 := by
    refine r2 ?_
    rcases hne with q | q
    · exact Or.inr (Or.inl ⟨by decide, lx_ne ok ho ⟨hi.1, q⟩⟩)
    · exact Or.inr (Or.inr ⟨by decide, ly_ne ok ht ⟨hj.1, q⟩⟩)
  rcases r1 with q | ⟨q1, q2, q3, q4⟩
  · exact absurd q hb
  · refine ⟨q1, fun r => ?_, fun r => ?_, q4⟩
    · have := q2 r
      by_cases e : i < D 4 o 0
      · exact e
      · exact absurd (lx_m (by omega)) this
    · have := q3 r
      by_cases e : j < D 4 t 0
      · exact e
      · exact absurd (ly_m (by omega)) this
/-! THE REFERENCE: lines -/
def tOk (I : zF) (k : Int) (T : zT) : Prop := I 44 k.toNat = T.1 ∧ I 45 k.toNat = T.2.1 ∧ I 46 k.toNat = T.2.2.1
def cRel (I : zF) (k : Int) (T : zT) : Prop := I 46 k.toNat = T.2.2.1 ∧ (T.2.2.1 ≠ -1 → I 44 k.toNat = T.1 ∧ I 45 k.toNat = T.2.1)
/-- nothing has changed but the table's cell k and what a reckoning writes -/
def rT (k : Int) (I J I' J' : zF) : Prop := (∀ i j, ¬ (i = 0 ∧ (j = 56 ∨ (59 ≤ j ∧ j ≤ 65) ∨ j = 112)) → ¬ ((44 ≤ i ∧ i ≤ 46) ∧ j = k.toNat) → I' i j = I i j) ∧ J' 0 80 = J 0 80
theorem rT.refl (k : Int) (I J : zF) : rT k I J I J := ⟨fun _ _ _ _ => rfl, rfl⟩
theorem rT.trans {k : Int} {I J I' J' I2 J2 : zF} (h : rT k I J I' J') (h2 : rT k I' J' I2 J2) : rT k I J I2 J2 := ⟨fun i j a b => (h2.1 i j a b).trans (h.1 i j a b), h2.2.trans h.2⟩
theorem rE.rT {I J I' J' : zF} (k : Int) (h : rE I J I' J') : rT k I J I' J' := ⟨fun i j a _ => h.1 i j (by omega), h.2 0 80 (by decide)⟩
theorem rT.rX {k : Int} {I J I' J' : zF} (h : rT k I J I' J') : rX I J I' J' := ⟨fun i j _ a b => h.1 i j (by omega) (by omega), h.2⟩
theorem rE.tk {I J I' J' : zF} (h : rE I J I' J') {k : Int} {T : zT} (ht : tOk I k T) : tOk I' k T := by
  unfold tOk at *
  rw [h.1 44 _ (by omega), h.1 45 _ (by omega), h.1 46 _ (by omega)]
  exact ht
theorem rE.cr {I J I' J' : zF} (h : rE I J I' J') {k : Int} {T : zT} (ht : cRel I k T) : cRel I' k T := by
  unfold cRel at *
  rw [h.1 44 _ (by omega), h.1 45 _ (by omega), h.1 46 _ (by omega)]
  exact ht
theorem rT.tk {I J I' J' : zF} {k : Int} (h : rT k I J I' J') {k2 : Int} {T : zT} (hk : k2.toNat ≠ k.toNat) (ht : tOk I k2 T) : tOk I' k2 T := by
  unfold tOk at *
  rw [h.1 44 _ (by omega) (by omega), h.1 45 _ (by omega) (by omega), h.1 46 _ (by omega) (by omega)]
  exact ht
section ZRB
variable {d : Nat} {I J : zF} {D : zD} {pg : zG} {W : zD} {P : Int → zF → zF → Prop} {P0 : zF → zF → Prop}
theorem sr_glyphBy {b a t : Int} (hb : 0 ≤ b ∧ b ≤ 5) (hP : P (pf_gby b a t) I J) : zr_i (d + 1) 250 [.inl b, .inl a, .inl t] I J P := by
  unfold pf_gby at hP
  refine zr_ini (M := ax_m250) rfl (Nat.le_of_ble_eq_true rfl) (zq_glyphBy_0 I J b a t ?_)
  rw [zb_w (x := b) (by omega) (by omega)]
  refine ⟨fun e => zr_Qi.of ?_, fun e => ⟨fun e1 => zr_Qi.of ?_, fun e1 => ⟨fun e2 => zr_Qi.of ?_, fun e2 => ⟨fun e3 => zr_Qi.of ?_, fun e3 => ⟨fun e4 => zr_Qi.of ?_, fun e4 => ⟨fun e5 => zr_Qi.of ?_, fun e5 => by omega⟩⟩⟩⟩⟩⟩
  · rwa [if_pos (by omega)] at hP
  · rwa [if_neg (by omega), if_pos (by omega)] at hP
  · rwa [if_neg (by omega), if_neg (by omega), if_pos (by omega)] at hP
  · rwa [if_neg (by omega), if_neg (by omega), if_neg (by omega)] at hP
  · rwa [if_pos (by omega)] at hP
  · rwa [if_neg (by omega), if_pos (by omega)] at hP
theorem sr_bothDoubt (hS : rS D pg I) {h x y g : Int} (hh : 0 ≤ h ∧ h < 2) (hx : 0 ≤ x ∧ x < D 0 h 0) (hy : 0 ≤ y ∧ y < D 0 h 0) (hg : g15 g) (hP : ∀ I' J', rE I J I' J' → P (pf_bd D pg h x y g) I' J') : zr_i (d + 5) 251 [.inr (.inr (some 0)), .inl h, .inl x, .inl y, .inl g] I J P := by
  have h1 := pf_doubt_in hS.ok h x g
  have h2 := pf_doubt_in hS.ok h y (pf_seen g 1)
  have h8 := hS.ok.a8 0 0
  refine zr_ini (M := ax_m251) rfl (Nat.le_of_ble_eq_true rfl) (zq_bothDoubt_0 I J h x y g (sr_doubtOf hS hh hx hg (fun I1 J1 hE1 => sr_seenBy hg ⟨by decide, by decide⟩ (sr_doubtOf (hE1.rS hS) hh hy (pf_seen_15 _ _) (fun I2 J2 hE2 => ?_)))))
  have hE := hE1.trans hE2
  rw [show (ax_w 3).toNat = 3 from rfl, ((hE.rS hS).rl (ndE hh (by omega))).1]
  simp (disch := omega) only [zb_w]
  have hq := hP I2 J2 hE
  unfold pf_bd at hq
  refine ⟨fun c => zr_Qi.of ?_, fun c => ⟨fun c2 => zr_Qi.of ?_, fun c2 => zr_Qi.of ?_⟩⟩
  · rwa [if_pos (Or.inl c)] at hq
  · rwa [if_pos (Or.inr c2)] at hq
  · rwa [if_neg (by omega)] at hq
theorem sr_oneAt (hS : rS D pg I) {o h i : Int} (ho : 0 ≤ o ∧ o < D 3 0 0) (hh : 0 ≤ h ∧ h < 2) (hi : 0 ≤ i ∧ i ≤ 7) (hP : P (lx D o h i) I J) : zr_i (d + 3) 252 [.inr (.inr (some 0)), .inl o, .inl h, .inl i] I J P := by
  have h4 := hS.ok.a4 o 0
  have h5 := hS.ok.a5 o i
  unfold lx at hP
  refine zr_ini (M := ax_m252) rfl (Nat.le_of_ble_eq_true rfl) (zq_oneAt_0 I J o h i (sr_longOf hS ho ?_))
  simp (disch := omega) only [zb_w]
  refine ⟨fun c => sr_letterOf hS ho ⟨hi.1, c⟩ (sr_letterAt hS hh ⟨by omega, by omega⟩ (zr_Qi.of ?_)), fun c => zr_Qi.of ?_⟩
  · rwa [if_pos c] at hP
  · rwa [if_neg c] at hP
theorem sr_otherAt (hS : rS D pg I) {t h j : Int} (ho : 0 ≤ t ∧ t < D 3 0 0) (hh : 0 ≤ h ∧ h < 2) (hi : 0 ≤ j ∧ j ≤ 7) (hP : P (ly D t h j) I J) : zr_i (d + 3) 253 [.inr (.inr (some 0)), .inl t, .inl h, .inl j] I J P := by
  have h4 := hS.ok.a4 t 0
  have h5 := hS.ok.a5 t (D 4 t 0 - 1 - j)
  unfold ly at hP
  refine zr_ini (M := ax_m253) rfl (Nat.le_of_ble_eq_true rfl) (zq_otherAt_0 I J t h j (sr_longOf hS ho ?_))
  simp (disch := omega) only [zb_w]
  refine ⟨fun c => sr_longOf hS ho (sr_letterOf hS ho (by omega) (sr_letterAt hS hh ⟨by omega, by omega⟩ (zr_Qi.of ?_))), fun c => zr_Qi.of ?_⟩
  · rwa [if_pos c] at hP
  · rwa [if_neg c] at hP
theorem sr_linePuts_83 {I0 J0 : zF} (hS0 : rS D pg I0) {h k x y a t : Int} {N1 N2 N3 : zT} (hh : 0 ≤ h ∧ h < 2) (hx : x = -1 ∨ (0 ≤ x ∧ x < D 0 h 0)) (hy : y = -1 ∨ (0 ≤ y ∧ y < D 0 h 0)) (ha : g15 a) (ht : g15 t) (hk : 0 ≤ k ∧ k ≤ 48) (h1 : x ≠ -1 → y ≠ -1 → k + 8 ≤ 48 ∧ tOk I0 (k + 8) N1) (h2 : x ≠ -1 → k + 7 ≤ 48 ∧ tOk I0 (k + 7) N2) (h3 : y ≠ -1 → k + 1 ≤ 48 ∧ tOk I0 (k + 1) N3) (b1 : zTb 12 N1) (b2 : zTb 12 N2) (b3 : zTb 12 N3) {Q : Option ax_v → ax_S → Prop} : ∀ (n : Nat) (b : Int) (c : zT) (I J : zF), rT k I0 J0 I J → cRel I k c → 0 ≤ b → b + n = 6 → zTb 13 c → (∀ I' J', rT k I0 J0 I' J' → cRel I' k (pf_cs D pg h x y a t N1 N2 N3 n b c) → Q none (zr_S I' J')) → zb_W (d + 6) ax_m254 (83, [some (.inr (.inr (some 0))), none, none, some (.inl h), none, none, some (.inl k), some (.inl x), some (.inl y), some (.inl a), some (.inl t), some (.inl b), none, none, none, none, none], [], zr_S I J) Q := by
  have h8 := hS0.ok.a8 1 0
  have h0d := hS0.ok.a0 h 0
  intro n
  induction n with
  | zero =>
    intro b c I J hT hc h0 he hcb hQ
    refine zq_linePuts_83 I J h k x y a t b ?_
    rw [zb_w (x := b) (by omega) (by omega)]
    exact ⟨fun q => absurd (show b < 6 from q) (by omega), fun _ => hQ I J hT hc⟩
  | succ n ih =>
    intro b c I J hT hc h0 he hcb hQ
    have hS := hT.rX.rS hS0
    have hg := pf_gby_15 (b := b) ha ht
    have hbits := pf_bits_15 hg
    have hnn := pf_nn_in hS0.ok h x y a t b
    unfold pf_cs at hQ
    have hcb' := pf_st_b (D := D) (pg := pg) hS0.ok (h := h) (x := x) (y := y) (b := b) (B := 12) ha ht (by omega) b1 b2 b3 hcb
    -- it goes on with the same cell
    have skip : ∀ I1 J1, rT k I0 J0 I1 J1 → cRel I1 k c → pf_st D pg h x y a t N1 N2 N3 b c = c → zb_W (d + 6) ax_m254 (303, [some (.inr (.inr (some 0))), none, none, some (.inl h), none, none, some (.inl k), some (.inl x), some (.inl y), some (.inl a), some (.inl t), some (.inl b), none, none, none, none, none], [], zr_S I1 J1) Q := by
      intro I1 J1 hT1 hc1 e
      rw [e] at hQ
      exact zq_linePuts_303 I1 J1 h k x y a t b (ih (b + 1) c I1 J1 hT1 hc1 (by omega) (by omega) hcb hQ)
    have put : ∀ I1 J1 dv iv, rT k I0 J0 I1 J1 → pf_st D pg h x y a t N1 N2 N3 b c = (dv, iv, b, pf_gby b a t) → zb_W (d + 6) ax_m254 (276, [some (.inr (.inr (some 0))), none, none, some (.inl h), none, none, some (.inl k), some (.inl x), some (.inl y), some (.inl a), some (.inl t), some (.inl b), none, none, none, some (.inl dv), some (.inl iv)], [], zr_S I1 J1) Q := by
      intro I1 J1 dv iv hT1 e
      rw [e] at hQ hcb'
      refine zq_linePuts_276 I1 J1 h k x y a t b dv iv ?_
      rw [zb_w (x := k) (by omega) (by omega)]
      refine ⟨by omega, by omega, by omega, zq_linePuts_303 _ _ h k x y a t b (ih (b + 1) _ _ J1 ?_ ?_ (by omega) (by omega) hcb' hQ)⟩
      · refine hT1.trans ⟨fun i j q1 q2 => ?_, rfl⟩
        rw [zu_ne (by omega), zu_ne (by omega), zu_ne (by omega)]
      · refine ⟨?_, fun _ => ⟨?_, ?_⟩⟩
        · rw [zu_ne (by omega), zu_ne (by omega), zu_eq]
        · rw [zu_ne (by omega), zu_eq]
        · rw [zu_eq]
    have tail : ∀ (nv to : Int) (N : zT) (I1 J1 : zF), rT k I0 J0 I1 J1 → cRel I1 k c → ¬ ((b ≠ 5 ∧ x = -1) ∨ (b ≠ 4 ∧ y = -1)) → pf_nn D pg h x y a t b = nv → nv ≠ -1 → pf_tt b N1 N2 N3 = N → 0 ≤ to ∧ to ≤ 48 → to ≠ k → tOk I0 to N → zTb 12 N → ((0 : Int) ≤ ax_w to ∧ ax_w to < ((49 : Nat) : Int)) ∧ zr_i (d + 6) 220 [.inl (pf_gby b a t)] I1 J1 (fun r15 I12 J13 => ((0 : Int) ≤ ax_w to ∧ ax_w to < ((49 : Nat) : Int)) ∧ ((0 : Int) ≤ ax_w k ∧ ax_w k < ((49 : Nat) : Int)) ∧ ((ax_w (I12 46 (ax_w k).toNat) = ax_w (-1) → zb_W (d + 6) ax_m254 (276, [some (.inr (.inr (some 0))), none, none, some (.inl h), none, none, some (.inl k), some (.inl x), some (.inl y), some (.inl a), some (.inl t), some (.inl b), none, none, none, some (.inl (nv + (I1 44 (ax_w to).toNat))), some (.inl (r15 + (I12 45 (ax_w to).toNat)))], [], zr_S I12 J13) Q) ∧ (¬ ax_w (I12 46 (ax_w k).toNat) = ax_w (-1) → ((0 : Int) ≤ ax_w k ∧ ax_w k < ((49 : Nat) : Int)) ∧ ((ax_w (I12 44 (ax_w k).toNat) < ax_w (nv + (I1 44 (ax_w to).toNat)) → zb_W (d + 6) ax_m254 (303, [some (.inr (.inr (some 0))), none, none, some (.inl h), none, none, some (.inl k), some (.inl x), some (.inl y), some (.inl a), some (.inl t), some (.inl b), none, none, none, none, none], [], zr_S I12 J13) Q) ∧ (¬ ax_w (I12 44 (ax_w k).toNat) < ax_w (nv + (I1 44 (ax_w to).toNat)) → ((0 : Int) ≤ ax_w k ∧ ax_w k < ((49 : Nat) : Int)) ∧ ((ax_w (nv + (I1 44 (ax_w to).toNat)) = ax_w (I12 44 (ax_w k).toNat) → ((0 : Int) ≤ ax_w k ∧ ax_w k < ((49 : Nat) : Int)) ∧ ((ax_w (r15 + (I12 45 (ax_w to).toNat)) < ax_w (I12 45 (ax_w k).toNat) → zb_W (d + 6) ax_m254 (276, [some (.inr (.inr (some 0))), none, none, some (.inl h), none, none, some (.inl k), some (.inl x), some (.inl y), some (.inl a), some (.inl t), some (.inl b), none, none, none, some (.inl (nv + (I1 44 (ax_w to).toNat))), some (.inl (r15 + (I12 45 (ax_w to).toNat)))], [], zr_S I12 J13) Q) ∧ (¬ ax_w (r15 + (I12 45 (ax_w to).toNat)) < ax_w (I12 45 (ax_w k).toNat) → zb_W (d + 6) ax_m254 (303, [some (.inr (.inr (some 0))), none, none, some (.inl h), none, none, some (.inl k), some (.inl x), some (.inl y), some (.inl a), some (.inl t), some (.inl b), none, none, none, none, none], [], zr_S I12 J13) Q))) ∧ (¬ ax_w (nv + (I1 44 (ax_w to).toNat)) = ax_w (I12 44 (ax_w k).toNat) → zb_W (d + 6) ax_m254 (276, [some (.inr (.inr (some 0))), none, none, some (.inl h), none, none, some (.inl k), some (.inl x), some (.inl y), some (.inl a), some (.inl t), some (.inl b), none, none, none, some (.inl (nv + (I1 44 (ax_w to).toNat))), some (.inl (r15 + (I12 45 (ax_w to).toNat)))], [], zr_S I12 J13) Q))))))) := by
      intro nv to N I1 J1 hT1 hc1 hs hn hne htt hto htk htN hN
      have htN1 := hT1.tk (k2 := to) (by omega) htN
      obtain ⟨n1, n2, n3⟩ := htN1
      obtain ⟨c1, c2⟩ := hc1
      have u1 := hN.1
      have u2 := hN.2.1
      have v1 := hcb.1
      have v2 := hcb.2.1
      have v3 := hcb.2.2.1
      rw [zb_w (x := to) (by omega) (by omega), zb_w (x := k) (by omega) (by omega)]
      refine ⟨by omega, sr_bits hg ⟨by omega, by omega, ?_⟩⟩
      rw [n1, n2, c1]
      have est : pf_st D pg h x y a t N1 N2 N3 b c = pf_of c (nv + N.1) (pf_bits (pf_gby b a t) + N.2.1) b (pf_gby b a t) := by
        unfold pf_st
        rw [if_neg (by rw [hn]; omega), hn, htt]
      simp (disch := omega) only [zb_w]
      refine ⟨fun e => put I1 J1 _ _ hT1 ?_, fun e => ⟨by omega, ?_⟩⟩
      · rw [est]; unfold pf_of; rw [if_pos (Or.inl e)]
      · obtain ⟨d1, d2⟩ := c2 e
        rw [d1, d2]
        simp (disch := omega) only [zb_w]
        refine ⟨fun e2 => skip I1 J1 hT1 ⟨c1, c2⟩ ?_, fun e2 => ⟨by omega, fun e3 => ⟨by omega, fun e4 => put I1 J1 _ _ hT1 ?_, fun e4 => skip I1 J1 hT1 ⟨c1, c2⟩ ?_⟩, fun e3 => put I1 J1 _ _ hT1 ?_⟩⟩
        · rw [est]; unfold pf_of; rw [if_neg (by omega)]
        · rw [est]; unfold pf_of; rw [if_pos (Or.inr (Or.inr ⟨e3, e4⟩))]
        · rw [est]; unfold pf_of; rw [if_neg (by omega)]
        · rw [est]; unfold pf_of; rw [if_pos (Or.inr (Or.inl (by omega)))]
    have go : ¬ ((b ≠ 5 ∧ x = -1) ∨ (b ≠ 4 ∧ y = -1)) → zb_W (d + 6) ax_m254 (117, [some (.inr (.inr (some 0))), none, none, some (.inl h), none, none, some (.inl k), some (.inl x), some (.inl y), some (.inl a), some (.inl t), some (.inl b), none, none, none, none, none], [], zr_S I J) Q := by
      intro hs
      refine zq_linePuts_117 I J h k x y a t b (sr_glyphBy (by omega) ?_)
      rw [zb_w (x := b) (by omega) (by omega)]
      by_cases e : b < 4
      · have hxy : x ≠ -1 ∧ y ≠ -1 := by omega
        have en : pf_nn D pg h x y a t b = pf_bd D pg h x y (pf_gby b a t) := by unfold pf_nn; rw [if_pos e]
        have et : pf_tt b N1 N2 N3 = N1 := by unfold pf_tt; rw [if_pos e]
        refine ⟨fun _ => sr_bothDoubt hS hh (by omega) (by omega) hg (fun I2 J2 hE2 => ?_), fun q => absurd (show b < 4 from e) q⟩
        rw [en] at hnn
        have hT2 := hT.trans (hE2.rT k)
        rw [zb_w (x := pf_bd D pg h x y (pf_gby b a t)) (by omega) (by omega)]
        refine ⟨fun q => skip I2 J2 hT2 (hE2.cr hc) ?_, fun q => ⟨fun _ => ?_, fun r => absurd (show b < 4 from e) r⟩⟩
        · have q' : pf_bd D pg h x y (pf_gby b a t) = -1 := q
          unfold pf_st
          rw [if_pos (by rw [en]; exact Or.inr (Or.inr q'))]
        · exact tail _ (k + 8) N1 I2 J2 hT2 (hE2.cr hc) hs en q et (by have := (h1 hxy.1 hxy.2).1; omega) (by omega) (h1 hxy.1 hxy.2).2 b1
      · have en : pf_nn D pg h x y a t b = D 8 1 0 := by unfold pf_nn; rw [if_neg e]
        refine ⟨fun q => absurd (show b < 4 from q) e, fun _ => ?_⟩
        have hp0 : ¬ dE D := ndE hh (by omega)
        rw [show (ax_w 4).toNat = 4 from rfl, (hS.rl hp0).2, zb_w (x := D 8 1 0) (by omega) (by omega)]
        refine ⟨fun q => absurd (show D 8 1 0 = -1 from q) (by omega), fun _ => ⟨fun q => absurd (show b < 4 from q) e, fun _ => ⟨fun q => ?_, fun q => ?_⟩⟩⟩
        · have q' : b = 4 := q
          have et : pf_tt b N1 N2 N3 = N2 := by unfold pf_tt; rw [if_neg e, if_pos q']
          have hx1 : x ≠ -1 := by omega
          have := tail _ (k + 7) N2 I J hT hc hs en (by omega) et (by have := (h2 hx1).1; omega) (by omega) (h2 hx1).2 b2
          rw [← (hS.rl hp0).2] at this ⊢
          exact this
        · have q' : b = 5 := by have : b ≠ 4 := q; omega
          have et : pf_tt b N1 N2 N3 = N3 := by unfold pf_tt; rw [if_neg e, if_neg (by omega)]
          have hy1 : y ≠ -1 := by omega
          have := tail _ (k + 1) N3 I J hT hc hs en (by omega) et (by have := (h3 hy1).1; omega) (by omega) (h3 hy1).2 b3
          rw [← (hS.rl hp0).2] at this ⊢
          exact this
    have mid : ¬ (b ≠ 5 ∧ x = -1) → zb_W (d + 6) ax_m254 (102, [some (.inr (.inr (some 0))), none, none, some (.inl h), none, none, some (.inl k), some (.inl x), some (.inl y), some (.inl a), some (.inl t), some (.inl b), none, none, none, none, none], [], zr_S I J) Q := by
      intro hs
      refine zq_linePuts_102 I J h k x y a t b ?_
      rw [zb_w (x := b) (by omega) (by omega), zb_w (x := y) (by omega) (by omega)]
      refine ⟨fun q => go (by have q' : b = 4 := q; omega), fun q => ⟨fun q2 => skip I J hT hc ?_, fun q2 => go ?_⟩⟩
      · have q' : b ≠ 4 := q
        have q2' : y = -1 := q2
        unfold pf_st
        rw [if_pos (Or.inr (Or.inl ⟨q', q2'⟩))]
      · have q2' : y ≠ -1 := q2
        omega
    refine zq_linePuts_83 I J h k x y a t b ?_
    rw [zb_w (x := b) (by omega) (by omega), zb_w (x := x) (by omega) (by omega)]
    refine ⟨fun _ => ⟨fun q => mid (by have q' : b = 5 := q; omega), fun q => ⟨fun q2 => skip I J hT hc ?_, fun q2 => mid ?_⟩⟩, fun q => absurd (show b < 6 by omega) q⟩
    · have q' : b ≠ 5 := q
      have q2' : x = -1 := q2
      unfold pf_st
      rw [if_pos (Or.inl ⟨q', q2'⟩)]
    · have q2' : x ≠ -1 := q2
      omega
end ZRB
