/-! THE REFERENCE: lasting, mending, having been; acts -/
def pf_ds (D : zD) (pg : zG) (W : zD) (b : Int) : Nat → Int → Int
  | 0, _ => 1
  | n + 1, k => if pf_said D pg W b k = D 5 (W 1 b 0) k then pf_ds D pg W b n (k + 1) else 0
theorem pf_ds01 (D : zD) (pg : zG) (W : zD) (b : Int) : ∀ (n : Nat) (k : Int), pf_ds D pg W b n k = 0 ∨ pf_ds D pg W b n k = 1 := by
  intro n
  induction n with
  | zero => intro k; exact Or.inr rfl
  | succ n ih => intro k; unfold pf_ds; split; exact ih _; exact Or.inl rfl
def pf_says (D : zD) (pg : zG) (W : zD) (b : Int) : Int := pf_ds D pg W b (D 4 (W 1 b 0) 0).toNat 0
def pf_la (D : zD) (pg : zG) (b : Int) : Nat → Int → zD → Int
  | 0, n, _ => n
  | m + 1, n, W => if W 0 0 0 < 999 then (if pf_says D pg (pf_yearT D pg W) b = 1 then pf_la D pg b m (n + 1) (pf_yearT D pg W) else n) else n
def an_lasts (D : zD) (pg : zG) (W : zD) (b : Int) : Int := if 0 ≤ b ∧ b < D 6 0 0 then (if pf_says D pg W b = 1 then pf_la D pg b 60 0 W else -1) else -1
def pf_md (D : zD) (pg : zG) (h k : Int) : Nat → Int → Int → Int → Int
  | 0, _, _, _ => -1
  | m + 1, i, g, n => if ax_and (ax_shr g i) 1 = 1 ∨ ax_and (ax_shr (D 2 h k) i) 1 = 0 then pf_md D pg h k m (i + 1) g n else (if pf_read D pg h (ax_or g (ax_shl 1 i)) = D 1 h k then n + 1 else pf_md D pg h k m (i + 1) (ax_or g (ax_shl 1 i)) (n + 1))
def an_mend (D : zD) (pg : zG) (W : zD) (b p k : Int) : Int :=
  if (0 ≤ b ∧ b < D 6 0 0) ∧ (0 ≤ p ∧ p < D 4 (W 1 b 0) 0) then (if (0 ≤ W 2 b 0 ∧ W 2 b 0 < 2) ∧ (0 ≤ k ∧ k < D 0 (W 2 b 0) 0) then (if pf_read D pg (W 2 b 0) (W 3 b p) = D 1 (W 2 b 0) k then 0 else pf_md D pg (W 2 b 0) k 15 0 (W 3 b p) 0) else -1) else -1
def pf_hb (D : zD) (W : zD) (b w : Int) : Nat → Int → Int
  | 0, _ => 1
  | n + 1, k => if ax_and (W 3 b k) (ax_xor (pf_pg D w (W 2 b 0) k) (-1)) = 0 then pf_hb D W b w n (k + 1) else 0
def pf_chb (D W : zD) (b w : Int) : Int := if D 4 w 0 = D 4 (W 1 b 0) 0 ∧ pf_canPaint D w (W 2 b 0) = 1 then pf_hb D W b w (D 4 w 0).toNat 0 else 0
theorem pf_hb01 (D W : zD) (b w : Int) : ∀ (n : Nat) (k : Int), pf_hb D W b w n k = 0 ∨ pf_hb D W b w n k = 1 := by
  intro n
  induction n with
  | zero => intro k; exact Or.inr rfl
  | succ n ih => intro k; unfold pf_hb; split; exact ih _; exact Or.inl rfl
theorem pf_chb01 (D W : zD) (b w : Int) : pf_chb D W b w = 0 ∨ pf_chb D W b w = 1 := by
  unfold pf_chb
  split
  · exact pf_hb01 D W b w _ _
  · exact Or.inl rfl
def pf_bn (D W : zD) (b : Int) : Nat → Int → Int → Int
  | 0, _, s => s
  | n + 1, w, s => pf_bn D W b n (w + 1) (if pf_chb D W b w = 1 then ax_or s (ax_shl 1 w) else s)
def an_been (D W : zD) (b : Int) : Int := if 0 ≤ b ∧ b < D 6 0 0 then pf_bn D W b (D 3 0 0).toNat 0 0 else -1
section ZR9
variable {d : Nat} {I J : zF} {D : zD} {pg : zG} {W : zD} {P : Int → zF → zF → Prop} {P0 : zF → zF → Prop}
theorem sr_doesSay_l {I0 J0 : zF} (hB0 : rB D pg W I0) {b : Int} (hb : 0 ≤ b ∧ b < D 6 0 0) {Q : Option ax_v → ax_S → Prop} : ∀ (n : Nat) (k : Int) (I J : zF), rE I0 J0 I J → 0 ≤ k → k + n = D 4 (W 1 b 0) 0 → (∀ I' J', rE I0 J0 I' J' → Q (some (.inl (pf_ds D pg W b n k))) (zr_S I' J')) → zb_W (d + 5) ax_m263 (2, [some (.inr (.inr (some 0))), some (.inl b), some (.inl k)], [], zr_S I J) Q := by
  have h4 := hB0.S.ok.a4 (W 1 b 0) 0
  have hw := hB0.W.w hb
  intro n
  induction n with
  | zero =>
    intro k I J hE h0 he hQ
    have hB := hE.rB hB0
    refine zq_doesSay_2 I J b k (sr_wordOf hB hb (sr_longOf hB.S hw ?_))
    simp (disch := omega) only [zb_w]
    exact ⟨fun c => by omega, fun _ => hQ I J hE⟩
  | succ n ih =>
    intro k I J hE h0 he hQ
    have hB := hE.rB hB0
    have h5 := hB0.S.ok.a5 (W 1 b 0) k
    have hr := pf_read_in hB0.S.ok (W 2 b 0) (W 3 b k)
    have e1 : pf_said D pg W b k = pf_read D pg (W 2 b 0) (W 3 b k) := rfl
    unfold pf_ds at hQ
    rw [e1] at hQ
    refine zq_doesSay_2 I J b k (sr_wordOf hB hb (sr_longOf hB.S hw ?_))
    simp (disch := omega) only [zb_w]
    refine ⟨fun c => sr_handOf hB hb (sr_glyphAt hB hb (by omega) (sr_readAs hB.S (hB.W.h hb) (hB.W.g b k) (fun I2 J2 hE2 => ?_))), fun c => by omega⟩
    have hB2 := hE2.rB hB
    refine sr_wordOf hB2 hb (sr_letterOf hB2.S hw ⟨h0, c⟩ ?_)
    simp (disch := omega) only [zb_w]
    refine ⟨fun e => ?_, fun e => ?_⟩
    · rw [if_pos e] at hQ; exact ih (k + 1) I2 J2 (hE.trans hE2) (by omega) (by omega) hQ
    · rw [if_neg e] at hQ; exact hQ I2 J2 (hE.trans hE2)
theorem sr_doesSay (hB : rB D pg W I) {b : Int} (hb : 0 ≤ b ∧ b < D 6 0 0) (hP : ∀ I' J', rE I J I' J' → P (pf_says D pg W b) I' J') : zr_i (d + 6) 263 [.inr (.inr (some 0)), .inl b] I J P := by
  have h4 := hB.S.ok.a4 (W 1 b 0) 0
  exact zr_ini (M := ax_m263) rfl (Nat.le_of_ble_eq_true rfl) (zq_doesSay_0 I J b (sr_doesSay_l hB hb (D 4 (W 1 b 0) 0).toNat 0 I J (rE.refl I J) (by decide) (by omega) (fun I' J' a => zr_Qi.of (hP I' J' a))))
theorem sr_lasts_l {I0 J0 : zF} {W0 : zD} {f : Nat → Int} (hW0 : wOk D W0) (hf : rowR W0 f) (h41 : ∀ j, j < 33 → I0 41 j = f j) (h66 : I0 0 66 = 1) {b : Int} (hb : 0 ≤ b ∧ b < D 6 0 0) {Q : Option ax_v → ax_S → Prop} : ∀ (m : Nat) (n : Int) (W : zD) (I J : zF), rR I0 J0 I J → rB D pg W I → W 4 0 0 = W0 4 0 0 → (∀ k c, W 5 k c = W0 5 k c) → 0 ≤ n → n + m = 60 → (∀ I' J', I' 0 66 = 0 → (∀ i j, i ≠ 40 → ¬ (41 ≤ i ∧ i ≤ 49) → ¬ (i = 0 ∧ (j = 56 ∨ (59 ≤ j ∧ j ≤ 67) ∨ j = 74 ∨ j = 112 ∨ j = 114)) → I' i j = I0 i j) → J' 0 80 = J0 0 80 → rB D pg W0 I' → Q (some (.inl (pf_la D pg b m n W))) (zr_S I' J')) → zb_W (d + 7) ax_m264 (24, [some (.inr (.inr (some 0))), some (.inl b), some (.inl n)], [], zr_S I J) Q := by
  intro m
  induction m with
  | zero =>
    intro n W I J hF hB h4 h5 h0 he hQ
    refine zq_lasts_24 I J b n ?_
    simp (disch := omega) only [zb_w]
    refine ⟨fun c => by omega, fun _ => sr_takesBack hW0 hf (fun j q => by rw [hF.1 41 j (by omega) (by omega)]; exact h41 j q) hB h4 h5 (fun I2 e66 hf2 hB2 => hQ I2 J e66 (fun i j q1 q2 q3 => ?_) hF.2 hB2)⟩
    rw [hf2 i j q1 (by omega), hF.1 i j q1 (by omega)]
  | succ m ih =>
    intro n W I J hF hB h4 h5 h0 he hQ
    have hy := hB.W.y
    have tb : ∀ I1 J1, rR I0 J0 I1 J1 → ∀ W1, rB D pg W1 I1 → W1 4 0 0 = W0 4 0 0 → (∀ k c, W1 5 k c = W0 5 k c) → pf_la D pg b (m + 1) n W = n → zr_v (d + 7) 234 [.inr (.inr (some 0))] I1 J1 (fun I14 J15 => Q (some (.inl n)) (zr_S I14 J15)) := by
      intro I1 J1 hF1 W1 hB1 h41' h51' e
      refine sr_takesBack hW0 hf (fun j q => by rw [hF1.1 41 j (by omega) (by omega)]; exact h41 j q) hB1 h41' h51' (fun I2 e66 hf2 hB2 => ?_)
      rw [← e]
      refine hQ I2 J1 e66 (fun i j q1 q2 q3 => ?_) hF1.2 hB2
      rw [hf2 i j q1 (by omega), hF1.1 i j q1 (by omega)]
    have h661 : I 0 66 = 1 := by rw [hF.1 0 66 (by omega) (by omega)]; exact h66
    refine zq_lasts_24 I J b n ?_
    rw [show (ax_w 0).toNat = 0 from rfl, hB.y]
    simp (disch := omega) only [zb_w]
    refine ⟨fun c => ⟨fun c2 => sr_yearGoesT hB h661 c2 (fun I2 J2 hF2 hB2 => sr_doesSay hB2 hb (fun I3 J3 hE3 => b01 (pf_ds01 _ _ _ _ _ _) (fun e => ?_) (fun e => ?_))), fun c2 => tb I J hF W hB h4 h5 ?_⟩, fun c => by omega⟩
    · refine ih (n + 1) _ I3 J3 ((hF.trans hF2).trans hE3.rR) (hE3.rB hB2) (by rw [pf_yearT_o (by decide) (by decide)]; exact h4) (fun k c => by rw [pf_yearT_o (by decide) (by decide)]; exact h5 k c) (by omega) (by omega) (fun I' J' a b c e' => ?_)
      have := hQ I' J' a b c e'
      unfold pf_la at this
      rw [if_pos c2, if_pos e] at this
      exact this
    · refine tb I3 J3 ((hF.trans hF2).trans hE3.rR) _ (hE3.rB hB2) (by rw [pf_yearT_o (by decide) (by decide)]; exact h4) (fun k c => by rw [pf_yearT_o (by decide) (by decide)]; exact h5 k c) ?_
      have e2 : pf_says D pg (pf_yearT D pg W) b = 0 := e
      unfold pf_la
      rw [if_pos c2, if_neg (by omega)]
    · unfold pf_la
      rw [if_neg c2]
theorem sr_lasts (hB : rB D pg W I) (h66 : I 0 66 = 0) {b : Int} (hb : n32 b) (hP : ∀ I' J', rX I J I' J' → rB D pg W I' → P (an_lasts D pg W b) I' J') : zr_i (d + 8) 264 [.inr (.inr (some 0)), .inl b] I J P := by
  unfold an_lasts at hP
  have hP0 := hP I J (rX.refl I J) hB
  refine zr_ini (M := ax_m264) rfl (Nat.le_of_ble_eq_true rfl) (zq_lasts_0 I J b (sr_isBoard hB.S hb (bc (fun q => ?_) (fun q => zr_Qi.of (by rwa [if_neg q] at hP0)))))
  rw [if_pos q] at hP
  refine sr_doesSay hB q (fun I1 J1 hE1 => b01 (pf_ds01 _ _ _ _ _ _) (fun e => ?_) (fun e => ?_))
  · have e2 : pf_says D pg W b = 1 := e
    rw [if_pos e2] at hP
    have hB1 := hE1.rB hB
    refine sr_putsAside (fun I2 e66 hf2 h41 => ?_)
    have hB2 : rB D pg W I2 := ⟨rS_cong hB1.S (fun i j _ _ _ => hf2 i j (by omega) (by omega)) (hf2 0 45 (by omega) (by omega)) (hf2 0 48 (by omega) (by omega)), hB.W, by rw [show I2 40 = I1 40 from funext (fun j => hf2 40 j (by omega) (by omega))]; exact hB1.2.2⟩
    refine sr_lasts_l hB.W hB1.2.2 h41 e66 q 60 0 W I2 J1 (rR.refl I2 J1) hB2 rfl (fun _ _ => rfl) (by decide) (by decide) (fun I' J' a b' c d' => zr_Qi.of (hP I' J' ⟨fun i j q1 q2 q3 => ?_, by rw [c, hE1.2 0 80 (by decide)]⟩ d'))
    by_cases e3 : i = 0 ∧ j = 66
    · obtain ⟨rfl, rfl⟩ := e3
      rw [a, h66]
    · rw [b' i j q1 q2 (by omega), hf2 i j (by omega) e3, hE1.1 i j (by omega)]
  · have e2 : pf_says D pg W b = 0 := e
    rw [if_neg (by omega)] at hP
    exact zr_Qi.of (hP I1 J1 hE1.rX (hE1.rB hB))
theorem sr_mend_65 {I0 J0 : zF} (hS0 : rS D pg I0) {h k : Int} (hh : 0 ≤ h ∧ h < 2) (hk : 0 ≤ k ∧ k < D 0 h 0) {Q : Option ax_v → ax_S → Prop} : ∀ (m : Nat) (i g n : Int) (I J : zF), rE I0 J0 I J → 0 ≤ i → i + m = 15 → g15 g → 0 ≤ n → (∀ I' J', rE I0 J0 I' J' → Q (some (.inl (pf_md D pg h k m i g n))) (zr_S I' J')) → zb_W (d + 5) ax_m265 (65, [some (.inr (.inr (some 0))), none, none, some (.inl k), some (.inl h), some (.inl g), some (.inl n), some (.inl i)], [], zr_S I J) Q := by
  intro m
  induction m with
  | zero =>
    intro i g n I J hE h0 he hg hn hQ
    refine zq_mend_65 I J k h g n i ?_
    simp (disch := omega) only [zb_w]
    exact ⟨fun c => by omega, fun _ => hQ I J hE⟩
  | succ m ih =>
    intro i g n I J hE h0 he hg hn hQ
    have hS := hE.rS hS0
    have b1' := bit01' g i
    have b2' := bit01' (D 2 h k) i
    have a1 := hS0.ok.a1 h k
    unfold pf_md at hQ
    refine zq_mend_65 I J k h g n i ?_
    simp (disch := omega) only [zb_w]
    refine ⟨fun c => ⟨fun e => ?_, fun e => sr_glyphOf hS hh hk ?_⟩, fun c => by omega⟩
    · rw [if_pos (Or.inl e)] at hQ
      exact zq_mend_134 I J k h g n i (ih (i + 1) g n I J hE (by omega) (by omega) hg hn hQ)
    · simp (disch := omega) only [zb_w]
      refine ⟨fun e2 => ?_, fun e2 => ?_⟩
      · rw [if_pos (Or.inr e2)] at hQ
        exact zq_mend_134 I J k h g n i (ih (i + 1) g n I J hE (by omega) (by omega) hg hn hQ)
      · rw [if_neg (by omega)] at hQ
        have hg2 := g15_or hg (g15_shl (j := i) ⟨h0, by omega⟩)
        have hr := pf_read_in hS0.ok h (ax_or g (ax_shl 1 i))
        refine sr_readAs hS hh hg2 (fun I2 J2 hE2 => sr_nameOf (hE2.rS hS) hh hk ?_)
        simp (disch := omega) only [zb_w]
        refine ⟨fun e3 => ?_, fun e3 => ?_⟩
        · rw [if_pos e3] at hQ; exact hQ I2 J2 (hE.trans hE2)
        · rw [if_neg e3] at hQ
          exact zq_mend_134 I2 J2 k h _ _ i (ih (i + 1) _ _ I2 J2 (hE.trans hE2) (by omega) (by omega) hg2 (by omega) hQ)
theorem sr_mend (hB : rB D pg W I) {b p k : Int} (hb : n32 b) (hp : n32 p) (hk : n32 k) (hP : ∀ I' J', rE I J I' J' → P (an_mend D pg W b p k) I' J') : zr_i (d + 6) 265 [.inr (.inr (some 0)), .inl b, .inl p, .inl k] I J P := by
  unfold an_mend at hP
  have hP0 := hP I J (rE.refl I J)
  refine zr_ini (M := ax_m265) rfl (Nat.le_of_ble_eq_true rfl) (zq_mend_0 I J b p k (sr_isPlace hB hb hp (bc (fun q => ?_) (fun q => zr_Qi.of (by rwa [if_neg q] at hP0)))))
  rw [if_pos q] at hP hP0
  have hh := hB.W.h q.1
  have h4 := hB.S.ok.a4 (W 1 b 0) 0
  refine sr_handOf hB q.1 (sr_isLetterOf hB.S (lt32 (by omega)) hk (bc (fun q2 => ?_) (fun q2 => zr_Qi.of (by rwa [if_neg q2] at hP0))))
  rw [if_pos q2] at hP
  have hr := pf_read_in hB.S.ok (W 2 b 0) (W 3 b p)
  have a1 := hB.S.ok.a1 (W 2 b 0) k
  refine sr_handOf hB q.1 (sr_glyphAt hB q.1 (by omega) (sr_readAs hB.S hh (hB.W.g b p) (fun I2 J2 hE2 => sr_nameOf (hE2.rS hB.S) hh q2.2 ?_)))
  simp (disch := omega) only [zb_w]
  refine ⟨fun e => zr_Qi.of ?_, fun e => ?_⟩
  · have := hP I2 J2 hE2
    rwa [if_pos e] at this
  · rw [if_neg e] at hP
    exact sr_mend_65 hB.S hh q2.2 15 0 _ 0 I2 J2 hE2 (by decide) (by decide) (hB.W.g b p) (by decide) (fun I' J' a => zr_Qi.of (hP I' J' a))
theorem sr_canHaveBeen_l (hB : rB D pg W I) {b w h : Int} (hb : 0 ≤ b ∧ b < D 6 0 0) (hw : 0 ≤ w ∧ w < D 3 0 0) (hh : h = W 2 b 0) (hc : pf_canPaint D w (W 2 b 0) = 1) {Q : Option ax_v → ax_S → Prop} : ∀ (n : Nat) (k : Int), 0 ≤ k → k + n = D 4 w 0 → Q (some (.inl (pf_hb D W b w n k))) (zr_S I J) → zb_W (d + 2) ax_m261 (37, [some (.inr (.inr (some 0))), some (.inl b), some (.inl w), some (.inl h), some (.inl k)], [], zr_S I J) Q := by
  subst hh
  have h4 := hB.S.ok.a4 w 0
  have hh2 := hB.W.h hb
  intro n
  induction n with
  | zero =>
    intro k h0 he hQ
    refine zq_canHaveBeen_37 I J b w _ k (sr_longOf hB.S hw ?_)
    simp (disch := omega) only [zb_w]
    exact ⟨fun c => by omega, fun _ => hQ⟩
  | succ n ih =>
    intro k h0 he hQ
    have h5 := hB.S.ok.a5 w k
    have ha := pf_at_in hB.S.ok (W 2 b 0) (D 5 w k)
    have hne := pf_canPaint_all hB.S.ok hc (k := k) ⟨h0, by omega⟩
    have hg := g15_andn (hB.W.g b k) (hB.S.ok.a2 (W 2 b 0) (pf_at D (W 2 b 0) (D 5 w k))).g31
    unfold pf_hb pf_pg at hQ
    rw [if_neg hne] at hQ
    refine zq_canHaveBeen_37 I J b w _ k (sr_longOf hB.S hw ?_)
    simp (disch := omega) only [zb_w]
    refine ⟨fun c => sr_glyphAt hB hb (by omega) (sr_letterOf hB.S hw ⟨h0, c⟩ (sr_letterAt hB.S hh2 ⟨by omega, by omega⟩ (sr_glyphOf hB.S hh2 (by omega) ?_))), fun c => by omega⟩
    rw [hg.w]
    refine ⟨fun e => ?_, fun e => ?_⟩
    · have e' : _ = (0 : Int) := e
      rw [if_pos e'] at hQ; exact ih (k + 1) (by omega) (by omega) hQ
    · rw [if_neg e] at hQ; exact hQ
theorem sr_canHaveBeen (hB : rB D pg W I) {b w : Int} (hb : 0 ≤ b ∧ b < D 6 0 0) (hw : 0 ≤ w ∧ w < D 3 0 0) (hP : P (pf_chb D W b w) I J) : zr_i (d + 4) 261 [.inr (.inr (some 0)), .inl b, .inl w] I J P := by
  have h4 := hB.S.ok.a4 w 0
  have h4' := hB.S.ok.a4 (W 1 b 0) 0
  unfold pf_chb at hP
  refine zr_ini (M := ax_m261) rfl (Nat.le_of_ble_eq_true rfl) (zq_canHaveBeen_0 I J b w (sr_handOf hB hb (sr_longOf hB.S hw (sr_wordOf hB hb (sr_longOf hB.S (hB.W.w hb) ?_)))))
  simp (disch := omega) only [zb_w]
  refine ⟨fun e => sr_canPaint hB.S hw (hB.W.h hb) (b01 (pf_can01 D w _ _ _) (fun e2 => ?_) (fun e2 => zr_Qi.of ?_)), fun e => zr_Qi.of ?_⟩
  · have e2' : pf_canPaint D w (W 2 b 0) = 1 := e2
    rw [if_pos ⟨e, e2'⟩] at hP
    exact sr_canHaveBeen_l hB hb hw rfl e2' (D 4 w 0).toNat 0 (by decide) (by omega) (zr_Qi.of hP)
  · have e2' : pf_canPaint D w (W 2 b 0) = 0 := e2
    rwa [if_neg (by omega)] at hP
  · rwa [if_neg (fun q => e q.1)] at hP
theorem sr_been_14 (hB : rB D pg W I) {b : Int} (hb : 0 ≤ b ∧ b < D 6 0 0) {Q : Option ax_v → ax_S → Prop} : ∀ (n : Nat) (w s : Int), 0 ≤ w → w + n = D 3 0 0 → Q (some (.inl (pf_bn D W b n w s))) (zr_S I J) → zb_W (d + 4) ax_m262 (14, [some (.inr (.inr (some 0))), some (.inl b), some (.inl s), some (.inl w)], [], zr_S I J) Q := by
  have h3 := hB.S.ok.a3 0 0
  intro n
  induction n with
  | zero =>
    intro w s h0 he hQ
    refine zq_been_14 I J b s w (sr_wordMany hB.S ?_)
    simp (disch := omega) only [zb_w]
    exact ⟨fun c => by omega, fun _ => hQ⟩
  | succ n ih =>
    intro w s h0 he hQ
    unfold pf_bn at hQ
    refine zq_been_14 I J b s w (sr_wordMany hB.S ?_)
    rw [zb_w (x := w) (by omega) (by omega), zb_w (x := D 3 0 0) (by omega) (by omega)]
    refine ⟨fun c => sr_canHaveBeen hB hb ⟨h0, c⟩ (b01 (pf_chb01 D W b w) (fun e => ?_) (fun e => ?_)), fun c => by omega⟩
    · rw [if_pos e] at hQ; exact zq_been_37 I J b _ w (ih (w + 1) _ (by omega) (by omega) hQ)
    · rw [if_neg (by omega)] at hQ; exact zq_been_37 I J b _ w (ih (w + 1) _ (by omega) (by omega) hQ)
theorem sr_been (hB : rB D pg W I) {b : Int} (hb : n32 b) (hP : P (an_been D W b) I J) : zr_i (d + 5) 262 [.inr (.inr (some 0)), .inl b] I J P := by
  have h3 := hB.S.ok.a3 0 0
  unfold an_been at hP
  refine zr_ini (M := ax_m262) rfl (Nat.le_of_ble_eq_true rfl) (zq_been_0 I J b (sr_isBoard hB.S hb (bc (fun q => ?_) (fun q => zr_Qi.of (by rwa [if_neg q] at hP)))))
  rw [if_pos q] at hP
  exact sr_been_14 hB q (D 3 0 0).toNat 0 0 (by decide) (by omega) (zr_Qi.of hP)
end ZR9
