/-! THE REFERENCE: a year -/
def rL (I J I' J' : zF) : Prop := (∀ i j, i ≠ 42 → ¬ (i = 0 ∧ (j = 56 ∨ (59 ≤ j ∧ j ≤ 65) ∨ j = 112)) → I' i j = I i j) ∧ J' 0 80 = J 0 80
theorem rL.refl (I J : zF) : rL I J I J := ⟨fun _ _ _ _ => rfl, rfl⟩
theorem rL.trans {I J I' J' I2 J2 : zF} (h : rL I J I' J') (h2 : rL I' J' I2 J2) : rL I J I2 J2 := ⟨fun i j a b => (h2.1 i j a b).trans (h.1 i j a b), h2.2.trans h.2⟩
theorem rE.rL {I J I' J' : zF} (h : rE I J I' J') : rL I J I' J' := ⟨fun i j _ b => h.1 i j (by omega), h.2 0 80 (by decide)⟩
theorem rL.rX {I J I' J' : zF} (h : rL I J I' J') : rX I J I' J' := ⟨fun i j _ a b => h.1 i j (by omega) (by omega), h.2⟩
theorem rL.rB {D : zD} {pg : zG} {W : zD} {I J I' J' : zF} (h : rL I J I' J') (hB : rB D pg W I) : rB D pg W I' := ⟨h.rX.rS hB.1, hB.2.1, by rw [show I' 40 = I 40 from funext (fun j => h.1 40 j (by omega) (by omega))]; exact hB.2.2⟩
/-- what was said is laid down for the boards ahead of B, and for the places ahead of K of B -/
def sA (D : zD) (pg : zG) (W : zD) (f : Nat → Int) (B K : Int) : Prop := ∀ b k : Int, 0 ≤ b → b < D 6 0 0 → 0 ≤ k → k < D 4 (W 1 b 0) 0 → (b < B ∨ (b = B ∧ k < K)) → f (6 * b + k).toNat = pf_said D pg W b k
/-- a shift by three -/
def sh3 (f : Nat → Int) (k : Int) : Nat → Int := fun j => if 34 ≤ j ∧ (j : Int) < k then f (j + 3) else f j
theorem sh3_0 {f : Nat → Int} : sh3 f 34 = f := by
  funext j
  unfold sh3
  rw [if_neg (by omega)]
theorem sh3_step {f : Nat → Int} {k : Int} (hk : 34 ≤ k) : sr (sh3 f k) k.toNat (sh3 f k (k + 3).toNat) = sh3 f (k + 1) := by
  funext j
  by_cases e : j = k.toNat
  · subst e
    rw [sr_eq]
    unfold sh3
    rw [if_neg (by omega), if_pos (by omega), show (k + 3).toNat = k.toNat + 3 by omega]
  · rw [sr_ne e]
    unfold sh3
    by_cases q : 34 ≤ j ∧ (j : Int) < k
    · rw [if_pos q, if_pos (by omega)]
    · rw [if_neg q, if_neg (by omega)]
theorem rowR_set0 {W : zD} {f : Nat → Int} (h : rowR W f) {v : Int} : rowR (wu W 0 0 0 v) (sr f 0 v) := by
  obtain ⟨h1, h2, h3, h4, h5⟩ := h
  refine ⟨?_, fun x y z => ⟨?_, ?_⟩, fun x y a1 a2 a3 a4 => ?_, ?_, fun x y a1 a2 a3 a4 => ?_⟩
  · rw [sr_eq, wu_eq]
  · rw [sr_ne (by omega), wu_ne (by omega)]; exact (h2 x y z).1
  · rw [sr_ne (by omega), wu_ne (by omega)]; exact (h2 x y z).2
  · rw [sr_ne (by omega), wu_ne (by omega)]; exact h3 x y a1 a2 a3 a4
  · rw [sr_ne (by omega), wu_ne (by omega)]; exact h4
  · rw [wu_ne (by omega)] at a2
    rw [sr_ne (by omega), wu_ne (by omega)]; exact h5 x y a1 a2 a3 a4
theorem pf_keep5 {W : zD} {b s x c : Int} : pf_keep W b s 5 x c = (if W 4 0 0 = 40 then (if x = 39 then pf_ent W b s c else W 5 (x + 1) c) else (if x = W 4 0 0 then pf_ent W b s c else W 5 x c)) := rfl
theorem pf_keep4 {W : zD} {b s x c : Int} : pf_keep W b s 4 x c = (if W 4 0 0 = 40 then 40 else W 4 0 0 + 1) := rfl
theorem pf_ent_c {W : zD} {b s c : Int} (hc : 0 ≤ c ∧ c < 3) : (c = 0 ∧ pf_ent W b s c = W 0 0 0) ∨ (c = 1 ∧ pf_ent W b s c = b) ∨ (c = 2 ∧ pf_ent W b s c = s) := by
  have : c = 0 ∨ c = 1 ∨ c = 2 := by omega
  rcases this with rfl | rfl | rfl
  · exact Or.inl ⟨rfl, rfl⟩
  · exact Or.inr (Or.inl ⟨rfl, rfl⟩)
  · exact Or.inr (Or.inr ⟨rfl, rfl⟩)
theorem rowR_keep {W : zD} {f f' : Nat → Int} (h : rowR W f) {b s : Int} {t : Nat} (hn : 0 ≤ W 4 0 0 ∧ W 4 0 0 ≤ 40) (ht : (W 4 0 0 = 40 ∧ t = 151 ∧ f' 33 = 40 ∧ (∀ j, j < 33 → f' j = f j) ∧ (∀ j, 34 ≤ j → j < 151 → f' j = f (j + 3))) ∨ (W 4 0 0 ≠ 40 ∧ t = (34 + 3 * W 4 0 0).toNat ∧ f' 33 = W 4 0 0 + 1 ∧ (∀ j, j ≠ 33 → f' j = f j))) : rowR (pf_keep W b s) (sr (sr (sr f' t (W 0 0 0)) (t + 1) b) (t + 2) s) := by
  obtain ⟨h1, h2, h3, h4, h5⟩ := h
  have o : ∀ j, j ≠ t → j ≠ t + 1 → j ≠ t + 2 → (sr (sr (sr f' t (W 0 0 0)) (t + 1) b) (t + 2) s) j = f' j := fun j a b c => by rw [sr_ne c, sr_ne b, sr_ne a]
  have lo : ∀ j, j < 33 → f' j = f j := by
    intro j hj
    rcases ht with q | q
    · exact q.2.2.2.1 j hj
    · exact q.2.2.2 j (by omega)
  have ent : ∀ c : Int, 0 ≤ c → c < 3 → (sr (sr (sr f' t (W 0 0 0)) (t + 1) b) (t + 2) s) (t + c.toNat) = pf_ent W b s c := by
    intro c c0 c1
    rcases pf_ent_c (W := W) (b := b) (s := s) ⟨c0, c1⟩ with ⟨rfl, e⟩ | ⟨rfl, e⟩ | ⟨rfl, e⟩
    · rw [e, sr_ne (by omega), sr_ne (by omega)]; exact sr_eq
    · rw [e, sr_ne (by omega)]; exact sr_eq
    · rw [e]; exact sr_eq
  refine ⟨?_, fun x y z => ⟨?_, ?_⟩, fun x y a1 a2 a3 a4 => ?_, ?_, fun x c a1 a2 a3 a4 => ?_⟩
  · rw [o 0 (by omega) (by omega) (by omega), lo 0 (by omega), pf_keep_o (by decide) (by decide)]; exact h1
  · rw [o _ (by omega) (by omega) (by omega), lo _ (by omega), pf_keep_o (by decide) (by decide)]; exact (h2 x y z).1
  · rw [o _ (by omega) (by omega) (by omega), lo _ (by omega), pf_keep_o (by decide) (by decide)]; exact (h2 x y z).2
  · rw [o _ (by omega) (by omega) (by omega), lo _ (by omega), pf_keep_o (by decide) (by decide)]; exact h3 x y a1 a2 a3 a4
  · rw [o 33 (by omega) (by omega) (by omega), pf_keep4]
    rcases ht with q | q
    · rw [if_pos q.1]; exact q.2.2.1
    · rw [if_neg q.1]; exact q.2.2.1
  · rw [pf_keep4] at a2
    rw [pf_keep5]
    rcases ht with q | q
    · rw [if_pos q.1] at a2 ⊢
      by_cases e : x = 39
      · rw [if_pos e, ← ent c a3 a4]
        have : (34 + 3 * x + c).toNat = t + c.toNat := by omega
        rw [this]
      · rw [if_neg e, o _ (by omega) (by omega) (by omega), q.2.2.2.2 _ (by omega) (by omega), ← h5 (x + 1) c (by omega) (by omega) a3 a4]
        exact congrArg f (by omega)
    · rw [if_neg q.1] at a2 ⊢
      by_cases e : x = W 4 0 0
      · rw [if_pos e, ← ent c a3 a4]
        have : (34 + 3 * x + c).toNat = t + c.toNat := by omega
        rw [this]
      · rw [if_neg e, o _ (by omega) (by omega) (by omega), q.2.2.2 _ (by omega)]
        exact h5 x c a1 (by omega) a3 a4
section ZR6
variable {d : Nat} {I J : zF} {D : zD} {pg : zG} {W : zD} {P : Int → zF → zF → Prop} {P0 : zF → zF → Prop}
theorem sr_laysSaid_12 {I0 J0 : zF} (hB0 : rB D pg W I0) {b : Int} (hb : 0 ≤ b ∧ b < D 6 0 0) {Q : Option ax_v → ax_S → Prop} : ∀ (n : Nat) (k : Int) (I J : zF), rL I0 J0 I J → sA D pg W (I 42) b k → 0 ≤ k → k + n = D 4 (W 1 b 0) 0 → (∀ I' J', rL I0 J0 I' J' → sA D pg W (I' 42) (b + 1) 0 → zb_W (d + 5) ax_m229 (2, [some (.inr (.inr (some 0))), some (.inl (b + 1)), none], [], zr_S I' J') Q) → zb_W (d + 5) ax_m229 (12, [some (.inr (.inr (some 0))), some (.inl b), some (.inl k)], [], zr_S I J) Q := by
  have h6 := hB0.S.ok.a6 0 0
  have h4 := hB0.S.ok.a4 (W 1 b 0) 0
  have hw := hB0.W.w hb
  intro n
  induction n with
  | zero =>
    intro k I J hF hA h0 he hQ
    have hB := hF.rB hB0
    refine zq_laysSaid_12 I J b k (sr_wordOf hB hb (sr_longOf hB.S hw ?_))
    simp (disch := omega) only [zb_w]
    refine ⟨fun c => by omega, fun _ => hQ I J hF (fun x y q1 q2 q3 q4 q5 => hA x y q1 q2 q3 q4 ?_)⟩
    by_cases e : x = b
    · subst e; omega
    · omega
  | succ n ih =>
    intro k I J hF hA h0 he hQ
    have hB := hF.rB hB0
    refine zq_laysSaid_12 I J b k (sr_wordOf hB hb (sr_longOf hB.S hw ?_))
    simp (disch := omega) only [zb_w]
    refine ⟨fun c => sr_handOf hB hb (sr_glyphAt hB hb (by omega) (sr_readAs hB.S (hB.W.h hb) (hB.W.g b k) (fun I2 J2 hE => ?_))), fun c => by omega⟩
    refine ⟨by omega, ih (k + 1) _ J2 ?_ ?_ (by omega) (by omega) hQ⟩
    · refine hF.trans ⟨fun i j q1 q2 => ?_, hE.2 0 80 (by decide)⟩
      rw [zu_ne (by omega)]
      exact hE.1 i j (by omega)
    · intro x y q1 q2 q3 q4 q5
      have h4x := hB0.S.ok.a4 (W 1 x 0) 0
      by_cases e : x = b ∧ y = k
      · obtain ⟨rfl, rfl⟩ := e
        rw [zu_eq]
        rfl
      · rw [zu_ne (by omega), hE.1 42 _ (by omega)]
        exact hA x y q1 q2 q3 q4 (by omega)
theorem sr_laysSaid_2 {I0 J0 : zF} (hB0 : rB D pg W I0) {Q : Option ax_v → ax_S → Prop} : ∀ (n : Nat) (b : Int) (I J : zF), rL I0 J0 I J → sA D pg W (I 42) b 0 → 0 ≤ b → b + n = D 6 0 0 → (∀ I' J', rL I0 J0 I' J' → sA D pg W (I' 42) (D 6 0 0) 0 → Q none (zr_S I' J')) → zb_W (d + 5) ax_m229 (2, [some (.inr (.inr (some 0))), some (.inl b), none], [], zr_S I J) Q := by
  have h6 := hB0.S.ok.a6 0 0
  intro n
  induction n with
  | zero =>
    intro b I J hF hA h0 he hQ
    refine zq_laysSaid_2 I J b (sr_boardMany (hF.rX.rS hB0.S) ?_)
    simp (disch := omega) only [zb_w]
    refine ⟨fun c => by omega, fun _ => hQ I J hF ?_⟩
    have e : b = D 6 0 0 := by omega
    rw [e] at hA
    exact hA
  | succ n ih =>
    intro b I J hF hA h0 he hQ
    have h4 := hB0.S.ok.a4 (W 1 b 0) 0
    refine zq_laysSaid_2 I J b (sr_boardMany (hF.rX.rS hB0.S) ?_)
    simp (disch := omega) only [zb_w]
    exact ⟨fun c => sr_laysSaid_12 hB0 ⟨h0, c⟩ (D 4 (W 1 b 0) 0).toNat 0 I J hF hA (by omega) (by omega) (fun I' J' hF' hA' => ih (b + 1) I' J' hF' hA' (by omega) (by omega) hQ), fun c => by omega⟩
theorem sr_laysSaid (hB : rB D pg W I) (hP : ∀ I' J', rL I J I' J' → sA D pg W (I' 42) (D 6 0 0) 0 → P0 I' J') : zr_v (d + 6) 229 [.inr (.inr (some 0))] I J P0 := by
  have h6 := hB.S.ok.a6 0 0
  exact zr_inv (M := ax_m229) rfl (Nat.le_of_ble_eq_true rfl) (zq_laysSaid_0 I J (sr_laysSaid_2 hB (D 6 0 0).toNat 0 I J (rL.refl I J) (fun x y _ _ _ _ q => by omega) (by omega) (by omega) (fun I' J' a b => zr_Qv.of (hP I' J' a b))))
theorem sr_isKept_101 {f : Nat → Int} {b s : Int} {Q : Option ax_v → ax_S → Prop} : ∀ (n : Nat) (k : Int) (I : zF), I 40 = sh3 f k → 34 ≤ k → k + n = 151 → (∀ I' : zF, (∀ i, i ≠ 40 → I' i = I i) → I' 40 = sh3 f 151 → zb_W d ax_m230 (145, [some (.inr (.inr (some 0))), some (.inl b), none, some (.inl s), none, none], [], zr_S I' J) Q) → zb_W d ax_m230 (101, [some (.inr (.inr (some 0))), some (.inl b), none, some (.inl s), some (.inl k), none], [], zr_S I J) Q := by
  intro n
  induction n with
  | zero =>
    intro k I hf h0 he hQ
    refine zq_isKept_101 I J b s k ?_
    simp (disch := omega) only [zb_w]
    refine ⟨fun c => by omega, fun _ => hQ I (fun _ _ => rfl) ?_⟩
    have e : k = 151 := by omega
    rw [e] at hf
    exact hf
  | succ n ih =>
    intro k I hf h0 he hQ
    refine zq_isKept_101 I J b s k ?_
    simp (disch := omega) only [zb_w]
    refine ⟨fun _ => ⟨by omega, by omega, ih (k + 1) _ ?_ (by omega) (by omega) (fun I' hI hI4 => hQ I' (fun i q => ?_) hI4)⟩, fun c => by omega⟩
    · rw [zu_row, hf, sh3_step h0]
    · rw [hI i q, zu_oth q]
theorem sr_isKept_7 {I0 J0 : zF} {W0 : zD} (hB0 : rB D pg W I0) {b : Int} (hb : 0 ≤ b ∧ b < D 6 0 0) (hA : ∀ k, 0 ≤ k → k < D 4 (W 1 b 0) 0 → I0 42 (6 * b + k).toNat = pf_said D pg W0 b k) {Q : Option ax_v → ax_S → Prop} : ∀ (n : Nat) (k is s : Int) (I J : zF), rE I0 J0 I J → (is = 0 ∨ is = 1) → 0 ≤ k → k + n = D 4 (W 1 b 0) 0 → 0 ≤ s ∧ s ≤ k → (∀ I' J', rE I0 J0 I' J' → zb_W (d + 5) ax_m230 (7, [some (.inr (.inr (some 0))), some (.inl b), some (.inl (pf_any (pf_said D pg W b) (pf_said D pg W0 b) n k is)), some (.inl (pf_zer (pf_said D pg W b) n k s)), some (.inl (D 4 (W 1 b 0) 0)), none], [], zr_S I' J') Q) → zb_W (d + 5) ax_m230 (7, [some (.inr (.inr (some 0))), some (.inl b), some (.inl is), some (.inl s), some (.inl k), none], [], zr_S I J) Q := by
  have h6 := hB0.S.ok.a6 0 0
  have h4 := hB0.S.ok.a4 (W 1 b 0) 0
  have hw := hB0.W.w hb
  intro n
  induction n with
  | zero =>
    intro k is s I J hE h01 h0 he hs hQ
    have e : k = D 4 (W 1 b 0) 0 := by omega
    have := hQ I J hE
    rw [← e] at this
    exact this
  | succ n ih =>
    intro k is s I J hE h01 h0 he hs hQ
    have hB := hE.rB hB0
    refine zq_isKept_7 I J b is s k (sr_wordOf hB hb (sr_longOf hB.S hw ?_))
    simp (disch := omega) only [zb_w]
    refine ⟨fun c => sr_handOf hB hb (sr_glyphAt hB hb (by omega) (sr_readAs hB.S (hB.W.h hb) (hB.W.g b k) (fun I2 J2 hE2 => ?_))), fun c => by omega⟩
    have hE3 := hE.trans hE2
    have h42 : I2 42 (6 * b + k).toNat = pf_said D pg W0 b k := by rw [hE3.1 42 _ (by omega)]; exact hA k h0 c
    have r1 := pf_read_in hB0.S.ok (W 2 b 0) (W 3 b k)
    have r2 := pf_read_in hB0.S.ok (W0 2 b 0) (W0 3 b k)
    have r2' : 0 ≤ pf_said D pg W0 b k ∧ pf_said D pg W0 b k ≤ 26 := r2
    have e1 : pf_said D pg W b k = pf_read D pg (W 2 b 0) (W 3 b k) := rfl
    unfold pf_any pf_zer at hQ
    rw [e1] at hQ
    rw [h42]
    simp (disch := omega) only [zb_w]
    have st : ∀ is', is' = (if is = 0 ∧ pf_read D pg (W 2 b 0) (W 3 b k) = pf_said D pg W0 b k then (0 : Int) else 1) → ∀ s', s' = (if pf_read D pg (W 2 b 0) (W 3 b k) = 0 then s + 1 else s) → zb_W (d + 5) ax_m230 (74, [some (.inr (.inr (some 0))), some (.inl b), some (.inl is'), some (.inl s'), some (.inl k), none], [], zr_S I2 J2) Q := by
      intro is' e1 s' e2
      subst e1
      subst e2
      refine zq_isKept_74 I2 J2 b _ _ k (ih (k + 1) _ _ I2 J2 hE3 (by split; exact Or.inl rfl; exact Or.inr rfl) (by omega) (by omega) (by split <;> omega) hQ)
    refine ⟨fun q => ⟨by omega, fun q2 => ⟨fun q3 => st _ (by rw [if_pos ⟨q, q2⟩]) _ (by rw [if_pos q3]), fun q3 => st _ (by rw [if_pos ⟨q, q2⟩]) _ (by rw [if_neg q3])⟩, fun q2 => ?_⟩, fun q => ?_⟩
    · refine zq_isKept_60 I2 J2 b s k _ ?_
      simp (disch := omega) only [zb_w]
      exact ⟨fun q3 => st _ (by rw [if_neg (fun r => q2 r.2)]) _ (by rw [if_pos q3]), fun q3 => st _ (by rw [if_neg (fun r => q2 r.2)]) _ (by rw [if_neg q3])⟩
    · refine zq_isKept_60 I2 J2 b s k _ ?_
      simp (disch := omega) only [zb_w]
      exact ⟨fun q3 => st _ (by rw [if_neg (fun r => q r.1)]) _ (by rw [if_pos q3]), fun q3 => st _ (by rw [if_neg (fun r => q r.1)]) _ (by rw [if_neg q3])⟩
theorem sr_isKept {W0 : zD} (hB : rB D pg W I) {b : Int} (hb : 0 ≤ b ∧ b < D 6 0 0) (hA : ∀ k, 0 ≤ k → k < D 4 (W 1 b 0) 0 → I 42 (6 * b + k).toNat = pf_said D pg W0 b k) (hP : ∀ I' J', rR I J I' J' → I' 0 67 = I 0 67 → rB D pg (pf_kb D pg W0 W b) I' → P0 I' J') : zr_v (d + 6) 230 [.inr (.inr (some 0)), .inl b] I J P0 := by
  have h6 := hB.S.ok.a6 0 0
  have h4 := hB.S.ok.a4 (W 1 b 0) 0
  have hw := hB.W.w hb
  have hn := hB.W.n
  refine zr_inv (M := ax_m230) rfl (Nat.le_of_ble_eq_true rfl) (zq_isKept_0 I J b (sr_isKept_7 hB hb hA (D 4 (W 1 b 0) 0).toNat 0 0 0 I J (rE.refl I J) (Or.inl rfl) (by omega) (by omega) (by omega) (fun I2 J2 hE => ?_)))
  have hB2 := hE.rB hB
  have h01 := pf_any01 (f := pf_said D pg W b) (g := pf_said D pg W0 b) (D 4 (W 1 b 0) 0).toNat 0 0 (Or.inl rfl)
  have hz := pf_zer_in (f := pf_said D pg W b) (D 4 (W 1 b 0) 0).toNat 0 0
  have hok := wOk_kb (W0 := W0) hB.S.ok hB.W (b := b) (by omega)
  unfold pf_kb at hP hok
  revert h01 hz hP hok
  generalize pf_any (pf_said D pg W b) (pf_said D pg W0 b) (D 4 (W 1 b 0) 0).toNat 0 0 = is
  generalize pf_zer (pf_said D pg W b) (D 4 (W 1 b 0) 0).toNat 0 0 = s
  intro hP h01 hz hok
  refine zq_isKept_7 I2 J2 b is s _ (sr_wordOf hB2 hb (sr_longOf hB2.S hw ?_))
  simp (disch := omega) only [zb_w]
  rw [show (33 : Int).toNat = 33 from rfl, hB2.n]
  simp (disch := omega) only [zb_w]
  have fin : ∀ I3 : zF, (∀ i, i ≠ 40 → I3 i = I2 i) → is ≠ 0 → ∀ t : Int, t = 34 + 3 * I3 40 33 - 3 → (W 4 0 0 = 40 ∧ t.toNat = 151 ∧ I3 40 33 = 40 ∧ (∀ j, j < 33 → I3 40 j = I2 40 j) ∧ (∀ j, 34 ≤ j → j < 151 → I3 40 j = I2 40 (j + 3))) ∨ (W 4 0 0 ≠ 40 ∧ t.toNat = (34 + 3 * W 4 0 0).toNat ∧ I3 40 33 = W 4 0 0 + 1 ∧ (∀ j, j ≠ 33 → I3 40 j = I2 40 j)) → zb_W (d + 5) ax_m230 (145, [some (.inr (.inr (some 0))), some (.inl b), none, some (.inl s), none, none], [], zr_S I3 J2) (zr_Qv P0) := by
    intro I3 hI3 his t ht hc
    rw [if_neg his] at hP hok
    have htb : 34 ≤ t ∧ t ≤ 151 := by
      rcases hc with q | q
      · have := q.2.2.1; omega
      · have := q.2.2.1; omega
    have h30 : I3 40 0 = W 0 0 0 := by
      rw [← hB2.y]
      rcases hc with q | q
      · exact q.2.2.2.1 0 (by omega)
      · exact q.2.2.2 0 (by omega)
    refine zq_isKept_145 I3 J2 b s ?_
    rw [show (ax_w 33).toNat = 33 from rfl, ← ht, show (ax_w 0).toNat = 0 from rfl, h30]
    simp (disch := omega) only [zb_w]
    refine ⟨by omega, by omega, by omega, zr_Qv.of (hP _ _ ?_ ?_ ⟨?_, hok, ?_⟩)⟩
    · refine ⟨fun i j q1 q2 => ?_, hE.2 0 80 (by decide)⟩
      rw [zu_ne (by omega), zu_ne (by omega), zu_ne (by omega), hI3 i q1]
      exact hE.1 i j (by omega)
    · rw [zu_ne (by omega), zu_ne (by omega), zu_ne (by omega), hI3 0 (by decide)]
      exact hE.1 0 67 (by omega)
    · refine rS_cong hB2.S (fun i j q1 q2 _ => ?_) ?_ ?_
      · rw [zu_ne (by omega), zu_ne (by omega), zu_ne (by omega), hI3 i (by omega)]
      · rw [zu_ne (by omega), zu_ne (by omega), zu_ne (by omega), hI3 0 (by omega)]
      · rw [zu_ne (by omega), zu_ne (by omega), zu_ne (by omega), hI3 0 (by omega)]
    · rw [zu_row, zu_row, zu_row, show (t + 1).toNat = t.toNat + 1 by omega, show (t + 2).toNat = t.toNat + 2 by omega]
      exact rowR_keep hB2.2.2 hn hc
  refine ⟨fun c => by omega, fun _ => ⟨fun c => ?_, fun c => ⟨fun c2 => ?_, fun c2 => ?_⟩⟩⟩
  · rw [if_pos c] at hP
    exact zr_Qv.of (hP I2 J2 hE.rR (hE.1 0 67 (by omega)) hB2)
  · refine sr_isKept_101 (f := I2 40) 117 34 I2 sh3_0.symm (by decide) (by decide) (fun I3 hI3 h40 => fin I3 hI3 c _ rfl (Or.inl ?_))
    have h33 : I3 40 33 = 40 := by rw [h40]; unfold sh3; rw [if_neg (by omega), hB2.n]; exact c2
    refine ⟨c2, by rw [h33]; rfl, h33, fun j q => ?_, fun j q1 q2 => ?_⟩
    · rw [h40]; unfold sh3; rw [if_neg (by omega)]
    · rw [h40]; unfold sh3; rw [if_pos (by omega)]
  · refine fin _ (fun i q => zu_oth q) c _ rfl (Or.inr ?_)
    have h33 : (ax_u I2 40 33 (W 4 0 0 + 1)) 40 33 = W 4 0 0 + 1 := zu_eq
    rw [h33]
    refine ⟨c2, by omega, rfl, fun j q => zu_ne (by omega)⟩
theorem sr_yearGoesT (hB : rB D pg W I) (h66 : I 0 66 = 1) (hy : W 0 0 0 < 999) (hP : ∀ I' J', rR I J I' J' → rB D pg (pf_yearT D pg W) I' → P0 I' J') : zr_v (d + 7) 231 [.inr (.inr (some 0))] I J P0 := by
  have h6 := hB.S.ok.a6 0 0
  refine zr_inv (M := ax_m231) rfl (Nat.le_of_ble_eq_true rfl) (zq_yearGoes_0 I J (sr_rains hB (fun I1 J1 hF hB1 _ => zq_yearGoes_6 I1 J1 0 (sr_boardMany hB1.S ?_))))
  have h661 : I1 0 66 = 1 := by rw [hF.1 0 66 (by omega) (by omega)]; exact h66
  rw [h661]
  have fin : zr_Qv P0 none (zr_S (ax_u I1 40 (ax_w 0).toNat (I1 40 (ax_w 0).toNat + 1)) J1) := by
    refine zr_Qv.of (hP _ _ ⟨fun i j q1 q2 => ?_, hF.2⟩ ⟨?_, wOk_yearT hB.W hy, ?_⟩)
    · rw [zu_ne (by omega)]; exact hF.1 i j q1 q2
    · exact rS_cong hB1.S (fun i j q1 q2 _ => zu_ne (by omega)) (zu_ne (by omega)) (zu_ne (by omega))
    · rw [zu_row, show (ax_w 0).toNat = 0 from rfl, hB1.y, pf_rain_o (by decide)]
      exact rowR_set0 hB1.2.2
  exact ⟨fun _ => ⟨fun e => absurd e (by decide), fun _ => fin⟩, fun _ => fin⟩
theorem sr_yearGoes_6 {I0 J0 : zF} {W0 : zD} (hb1 : ∀ b, W 1 b 0 = W0 1 b 0) (hA : sA D pg W0 (I0 42) (D 6 0 0) 0) (h66 : I0 0 66 = 0) {Q : Option ax_v → ax_S → Prop} : ∀ (n : Nat) (b : Int) (W1 : zD) (I J : zF), (∀ b, W1 1 b 0 = W 1 b 0) → rR I0 J0 I J → rB D pg W1 I → 0 ≤ b → b + n = D 6 0 0 → (∀ I' J', rR I0 J0 I' J' → I' 0 67 = I 0 67 → rB D pg (pf_kall D pg W0 n b W1) I' → Q none (zr_S (ax_u I' 40 0 (I' 40 0 + 1)) J')) → zb_W (d + 6) ax_m231 (6, [some (.inr (.inr (some 0))), some (.inl b)], [], zr_S I J) Q := by
  intro n
  induction n with
  | zero =>
    intro b W1 I J hw hF hB h0 he hQ
    have h6 := hB.S.ok.a6 0 0
    refine zq_yearGoes_6 I J b (sr_boardMany hB.S ?_)
    rw [zb_w (x := b) (by omega) (by omega), zb_w (x := D 6 0 0) (by omega) (by omega)]
    exact ⟨fun c => by omega, fun _ => hQ I J hF rfl hB⟩
  | succ n ih =>
    intro b W1 I J hw hF hB h0 he hQ
    have h6 := hB.S.ok.a6 0 0
    have h661 : I 0 66 = 0 := by rw [hF.1 0 66 (by omega) (by omega)]; exact h66
    refine zq_yearGoes_6 I J b (sr_boardMany hB.S ?_)
    rw [h661, zb_w (x := b) (by omega) (by omega), zb_w (x := D 6 0 0) (by omega) (by omega)]
    refine ⟨fun c => ⟨fun _ => sr_isKept (W0 := W0) hB ⟨h0, c⟩ (fun k k0 k1 => ?_) (fun I2 J2 hF2 h67 hB2 => ?_), fun e => absurd rfl e⟩, fun c => by omega⟩
    · rw [hF.1 42 _ (by omega) (by omega)]
      rw [hw, hb1] at k1
      exact hA b k h0 c k0 k1 (Or.inl c)
    · refine ih (b + 1) _ I2 J2 (fun x => ?_) (hF.trans hF2) hB2 (by omega) (by omega) (fun I' J' a b c => hQ I' J' a (b.trans h67) c)
      rw [pf_kb_o (by decide) (by decide)]
      exact hw x
theorem sr_yearGoes {W0 : zD} (hB : rB D pg W I) (hb1 : ∀ b, W 1 b 0 = W0 1 b 0) (hA : sA D pg W0 (I 42) (D 6 0 0) 0) (h66 : I 0 66 = 0) (hy : W 0 0 0 < 999) (hP : ∀ I' J', rR I J I' J' → I' 0 67 = pf_lostB D pg W (D 6 0 0).toNat 0 (I 0 67) → rB D pg (pf_year D pg W0 W) I' → P0 I' J') : zr_v (d + 7) 231 [.inr (.inr (some 0))] I J P0 := by
  have h6 := hB.S.ok.a6 0 0
  refine zr_inv (M := ax_m231) rfl (Nat.le_of_ble_eq_true rfl) (zq_yearGoes_0 I J (sr_rains hB (fun I1 J1 hF hB1 h67 => ?_)))
  refine sr_yearGoes_6 (W := W) (W0 := W0) hb1 (I0 := I) (J0 := J) hA h66 (D 6 0 0).toNat 0 _ I1 J1 (fun b => pf_rain_o (by decide) _ _) hF hB1 (by omega) (by omega) (fun I2 J2 hF2 h672 hB2 => ?_)
  refine zr_Qv.of (hP _ _ ⟨fun i j q1 q2 => ?_, hF2.2⟩ ?_ ⟨?_, wOk_year hB.S.ok hB.W hy, ?_⟩)
  · rw [zu_ne (by omega)]; exact hF2.1 i j q1 q2
  · rw [zu_ne (by omega), h672, h67]
  · exact rS_cong hB2.S (fun i j q1 q2 _ => zu_ne (by omega)) (zu_ne (by omega)) (zu_ne (by omega))
  · rw [zu_row, hB2.y, pf_kall_o (by decide) (by decide), pf_rain_o (by decide)]
    exact rowR_set0 hB2.2.2
end ZR6
