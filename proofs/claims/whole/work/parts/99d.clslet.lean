/-! THE CLASS: the shop that is read; letters -/
def cKd (D : zD) (hs : Nat) (I : zF) : Prop := cL D hs I ∧ ∀ b : Int, 0 ≤ b → b < D 6 0 0 → I (64 + 29 * hs) b.toNat = D 7 b 0 ∧ I (65 + 29 * hs) b.toNat = D 7 b 1
theorem cKd.cong {D : zD} {hs : Nat} {I I' : zF} (h : cKd D hs I) (g : ∀ i j, 39 ≤ i → I' i j = I i j) : cKd D hs I' := ⟨cL_cong h.1 (fun i j q => by unfold cLk at q; exact g i j (by omega)), fun b b0 b1 => by rw [g _ _ (by omega), g _ _ (by omega)]; exact h.2 b b0 b1⟩
theorem cY.K {D : zD} {hs : Nat} {I I' : zF} (h : cY I I') (hK : cKd D hs I) : cKd D hs I' := hK.cong (fun i j q => h i j (by omega))
/-- nothing has changed but what a statement without a formula writes -/
def cLf (hs : Nat) (I I' : zF) : Prop := ∀ i j, ¬ (i = 3 ∧ 1 ≤ j ∧ j ≤ 7) → i ≠ 9 → ¬ (i = 39 + 29 * hs ∧ j ≠ 12) → i ≠ 40 + 29 * hs → i ≠ 41 + 29 * hs → i ≠ 42 + 29 * hs → i ≠ 43 + 29 * hs → ¬ (62 + 29 * hs ≤ i ∧ i ≤ 65 + 29 * hs) → I' i j = I i j
theorem cLf.refl (hs : Nat) (I : zF) : cLf hs I I := fun _ _ _ _ _ _ _ _ _ _ => rfl
theorem cLf.trans {hs : Nat} {I I' I2 : zF} (h : cLf hs I I') (h2 : cLf hs I' I2) : cLf hs I I2 := fun i j a b c e f g k l => (h2 i j a b c e f g k l).trans (h i j a b c e f g k l)
theorem cY.Lf {hs : Nat} {I I' : zF} (h : cY I I') : cLf hs I I' := fun i j a _ _ _ _ _ _ _ => h i j a
section ZCSa
variable {T : Nat → Int} {n : Int} {d hf pf hs : Nat} {I J : zF} {s : zs} {D : zD} {pg : zG} {P : Int → zF → zF → Prop} {P0 : zF → zF → Prop}
theorem cKd_let {h x g : Int} (hK : cKd D hs I) (ok : zD_ok D pg) (hh : 0 ≤ h ∧ h < 2) (hl : D 0 h 0 < 12) : cKd (dLet D h x g) hs (ax_u (ax_u (ax_u I (42 + 29 * hs) (h * 12 + D 0 h 0).toNat x) (43 + 29 * hs) (h * 12 + D 0 h 0).toNat g) (41 + 29 * hs) h.toNat (D 0 h 0 + 1)) := by
  have c0 := ok.a0 h 0
  obtain ⟨⟨a, b, c, e, f, k, m⟩, l⟩ := hK
  refine ⟨⟨fun h2 r1 r2 => ?_, fun h2 k2 r1 r2 r3 r4 => ?_, ?_, fun w r1 r2 => ?_, fun w k r1 r2 r3 r4 => ?_, ?_, ?_⟩, fun b r1 r2 => ?_⟩
  · by_cases q : h2 = h
    · rw [q, zu_eq]; unfold dLet; rw [if_pos ⟨rfl, rfl⟩]
    · rw [zu_ne (by omega), zu_ne (by omega), zu_ne (by omega), a h2 r1 r2]
      unfold dLet; rw [if_neg (by omega), if_neg (by omega), if_neg (by omega)]
  · have c2 := ok.a0 h2 0
    by_cases q : h2 = h ∧ k2 = D 0 h 0
    · rw [q.1, q.2, zu_ne (by omega), zu_ne (by omega), zu_eq, zu_ne (by omega), zu_eq]
      unfold dLet
      rw [if_neg (by omega), if_pos ⟨rfl, rfl, rfl⟩, if_neg (by omega), if_neg (by omega), if_pos ⟨rfl, rfl, rfl⟩]
      exact ⟨rfl, rfl⟩
    · have r4' : k2 < D 0 h2 0 := by
        unfold dLet at r4
        by_cases q2 : h2 = h
        · rw [if_pos ⟨rfl, q2⟩] at r4; rw [q2]; omega
        · rw [if_neg (by omega), if_neg (by omega), if_neg (by omega)] at r4; exact r4
      rw [zu_ne (by omega), zu_ne (by omega), zu_ne (by omega), zu_ne (by omega), zu_ne (by omega), zu_ne (by omega)]
      unfold dLet
      rw [if_neg (by omega), if_neg (by omega), if_neg (by omega), if_neg (by omega), if_neg (by omega), if_neg (by omega)]
      exact b h2 k2 r1 r2 r3 r4'
  · rw [zu_ne (by omega), zu_ne (by omega), zu_ne (by omega), dLet_5 (by decide)]; exact c
  · rw [dLet_5 (by decide)] at r2 ⊢; rw [zu_ne (by omega), zu_ne (by omega), zu_ne (by omega)]; exact e w r1 r2
  · rw [dLet_5 (by decide)] at r2 ⊢; rw [zu_ne (by omega), zu_ne (by omega), zu_ne (by omega)]; exact f w k r1 r2 r3 r4
  · rw [zu_ne (by omega), zu_ne (by omega), zu_ne (by omega), dLet_5 (by decide)]; exact k
  · rw [zu_ne (by omega), zu_ne (by omega), zu_ne (by omega), zu_ne (by omega), zu_ne (by omega), zu_ne (by omega), zu_ne (by omega), zu_ne (by omega), zu_ne (by omega), dLet_5 (by decide), dLet_5 (by decide), dLet_5 (by decide)]; exact m
  · rw [dLet_5 (by decide)] at r2; rw [dLet_5 (by decide), dLet_5 (by decide), zu_ne (by omega), zu_ne (by omega), zu_ne (by omega), zu_ne (by omega), zu_ne (by omega), zu_ne (by omega)]; exact l b r1 r2
theorem sc_tell (eh : hs = 0 ∨ hs = 1) {h x g : Int} (hK : cKd D hs I) (ok : zD_ok D pg) (hh : 0 ≤ h ∧ h < 2) (hl : D 0 h 0 < 12) (hP : ∀ I', cLf hs I I' → (∀ i j, i < 39 → I' i j = I i j) → cKd (dLet D h x g) hs I' → P0 I' J) : zc_v (d + 2) 2 [.inr (.inr (some (40 + 29 * hs))), .inl h, .inl x, .inl g] hf pf I J P0 := by
  have c0 := ok.a0 h 0
  have ec := hK.1.1 h hh.1 hh.2
  refine zc_inv (M := ax_m2) rfl (Nat.le_of_ble_eq_true rfl) (zk_Alphabet_tell_0 hf pf I J h x g hs eh (sc_isHand ⟨by omega, by omega⟩ ?_))
  rw [if_pos (by omega), zb_w (x := h) (by omega) (by omega), ec]
  have e41 : (ax_u I (42 + 29 * hs) (ax_w (h * 12 + D 0 h 0)).toNat x) (41 + 29 * hs) h.toNat = D 0 h 0 := by rw [zu_ne (by omega)]; exact ec
  rw [e41, zb_w (x := h * 12 + D 0 h 0) (by omega) (by omega), zb_w (x := D 0 h 0) (by omega) (by omega)]
  have e42 : (ax_u (ax_u I (42 + 29 * hs) (h * 12 + D 0 h 0).toNat x) (43 + 29 * hs) (h * 12 + D 0 h 0).toNat g) (41 + 29 * hs) h.toNat = D 0 h 0 := by rw [zu_ne (by omega), zu_ne (by omega)]; exact ec
  rw [e42]
  refine b1 ⟨by omega, fun _ => ⟨by omega, by omega, by omega, by omega, by omega, by omega, zc_Qv.of (hP _ (fun i j a b c e f k l m => by rw [zu_ne (by omega), zu_ne (by omega), zu_ne (by omega)]) (fun i j q => by rw [zu_ne (by omega), zu_ne (by omega), zu_ne (by omega)]) (cKd_let hK ok hh hl))⟩, fun q => absurd (show D 0 h 0 < 12 from hl) q⟩
theorem ls_140 (eh : hs = 0 ∨ hs = 1) {h x : Int} {I0 : zF} (ok : zD_ok D pg) (hh : 0 ≤ h ∧ h < 2) (hl : D 0 h 0 < 12) (hx : I0 9 0 = x) : ∀ (m : Nat) (r g : Int) (s : zs) (I : zF), r + m = 5 → 0 ≤ r → cTx T n s I → cKd D hs I → cY I0 I → (∀ k q, pRows T n m r g s = .inl (k, q) → ∀ I', cLf hs I0 I' → cBad k q I' → P 0 I' J) → (∀ s' g', pRows T n m r g s = .inr (s', g') → ∀ I', cLf hs I0 I' → cTx T n s' I' → cKd (dLet D h x g') hs I' → P 1 I' J) → zb_W (d + 4) ax_m80 (140, [some (.inr (.inr (some 8))), some (.inr (.inr (some ((39 + 29 * hs))))), some (.inl h), some (.inl g), some (.inl r)], [], zc_S hf pf I J) (zc_Qi hf pf P) := by
  intro m
  induction m with
  | zero =>
    intro r g s I hm h0 hX hK hY hP0 hP1
    have r5 : r = 5 := by omega
    have e9 : I 9 (ax_w 0).toNat = x := by rw [hY 9 _ (by omega)]; exact hx
    refine zk_ShopReader_letterStatement_140 hf pf I J h g r hs eh ⟨fun z => ?_, fun _ => ?_⟩
    · rw [r5] at z; exact absurd z (by decide)
    · rw [e9]
      exact sc_tell eh hK ok hh hl (fun I1 f1 g1 k1 => zc_Qi.of (hP1 s g rfl I1 (hY.Lf.trans f1) (hX.fr (fun i j q => g1 i j (by omega))) k1))
  | succ m ih =>
    intro r g s I hm h0 hX hK hY hP0 hP1
    unfold pRows at hP0 hP1
    refine zk_ShopReader_letterStatement_140 hf pf I J h g r hs eh ⟨fun _ => sc_takeNumber hX ⟨by decide, by decide⟩ (fun s1 v e I1 y1 X1 e4 _ hv => b1 ?_) (fun k q e I1 y1 b1 => b0 (zc_Qi.of (hP0 k q ?_ I1 (hY.trans y1).Lf b1))), fun z => absurd ?_ z⟩
    · obtain ⟨_, _, _, v4⟩ := pNum_i hX.ok e
      refine zc_ini (M := ax_m81) rfl (Nat.le_of_ble_eq_true rfl) (zk_ShopReader_rowStrokes_0 hf pf I1 J _ (zc_Qi.of ?_))
      rw [e4, (pRw_in ⟨hv.1, v4⟩).2]
      rw [e] at hP0 hP1
      exact ih (r + 1) _ s1 I1 (by omega) (by omega) X1 (y1.K hK) (hY.trans y1) hP0 hP1
    · rw [e]
    · rw [zb_w (x := r) (by omega) (by omega)]
      show r < 5
      omega
theorem sc_letterStatement (eh : hs = 0 ∨ hs = 1) (hX : cTx T n s I) (hw : 0 ≤ wd T n s) (hK : cKd D hs I) (ok : zD_ok D pg) (hP0 : ∀ k q, pLet T n D (aWd T n s) = .inl (k, q) → ∀ I', cLf hs I I' → cBad k q I' → P 0 I' J) (hP1 : ∀ s' D', pLet T n D (aWd T n s) = .inr (s', D') → ∀ I', cLf hs I I' → cTx T n s' I' → cKd D' hs I' → P 1 I' J) : zc_i (d + 5) 80 [.inr (.inr (some 8)), .inr (.inr (some ((39 + 29 * hs))))] hf pf I J P := by
  have hwp := wd_pos hw
  unfold pLet at hP0 hP1
  refine zc_ini (M := ax_m80) rfl (Nat.le_of_ble_eq_true rfl) (zk_ShopReader_letterStatement_0 hf pf I J hs eh (sc_adv_W hX hwp.1 (fun I1 y1 X1 _ _ => sc_isName X1 ⟨by decide, by decide⟩ (fun hl en h6 => b1 ?_) (fun k q e I2 y2 b2 => b0 (zc_Qi.of ?_)))))
  · have nm := pName_i X1.ok en
    rw [en] at hP0 hP1
    refine sc_copyName X1 hl.1 (by omega) (fun I2 f2 n2 => ?_)
    have ex : I2 9 0 = nmL T (aWd T n s) 0 := n2 0 (by decide) (by have := nm.2.2.2.1.1; unfold nmN at this; omega)
    have X2 : cTx T n (aWd T n s) I2 := X1.fr (fun i j q => f2 i j (by omega))
    have l2 : cLf hs I I2 := y1.Lf.trans (fun i j a b c e f k l m => f2 i j b)
    have K2 : cKd D hs I2 := (y1.K hK).cong (fun i j q => f2 i j (by omega))
    refine sc_adv_W X2 hl (fun I3 y3 X3 _ _ => sc_takeWord X3 (ks := 2) (by decide) (by decide) (fun c I4 y4 X4 _ _ => b1 ?_) (fun c I4 y4 b4 => b0 (zc_Qi.of ?_)))
    · have c' : wd T n (aWd T n (aWd T n s)) = 2 := c
      have hP0' : ∀ k q, (if wd T n (aWd T n (aWd T n s)) = 2 then (match pNum T n (aWd T n (aWd T n (aWd T n s))) 1 with | .inl e => .inl e | .inr (s3, h) => if D 0 h 0 = 12 then .inl (5, (aWd T n (aWd T n (aWd T n s))).1) else if pf_at D h (nmL T (aWd T n s) 0) = -1 then (if wd T n s3 = 3 then (match pRows T n 5 0 0 (aWd T n s3) with | .inl e => .inl e | .inr (s4, g) => .inr (s4, dLet D h (nmL T (aWd T n s) 0) g)) else .inl (1, s3.1)) else .inl (2, (aWd T n (aWd T n (aWd T n s))).1)) else .inl (1, (aWd T n (aWd T n s)).1)) = (Sum.inl (k, q) : Sum (Int × Int) (zs × zD)) → ∀ I', cLf hs I I' → cBad k q I' → P 0 I' J := hP0
      have hP1' : ∀ s' D', (if wd T n (aWd T n (aWd T n s)) = 2 then (match pNum T n (aWd T n (aWd T n (aWd T n s))) 1 with | .inl e => .inl e | .inr (s3, h) => if D 0 h 0 = 12 then .inl (5, (aWd T n (aWd T n (aWd T n s))).1) else if pf_at D h (nmL T (aWd T n s) 0) = -1 then (if wd T n s3 = 3 then (match pRows T n 5 0 0 (aWd T n s3) with | .inl e => .inl e | .inr (s4, g) => .inr (s4, dLet D h (nmL T (aWd T n s) 0) g)) else .inl (1, s3.1)) else .inl (2, (aWd T n (aWd T n (aWd T n s))).1)) else .inl (1, (aWd T n (aWd T n s)).1)) = (Sum.inr (s', D') : Sum (Int × Int) (zs × zD)) → ∀ I', cLf hs I I' → cTx T n s' I' → cKd D' hs I' → P 1 I' J := hP1
      rw [if_pos c'] at hP0' hP1'
      have l4 : cLf hs I I4 := l2.trans (y3.Lf.trans y4.Lf)
      refine sc_takeNumber X4 ⟨by decide, by decide⟩ (fun s3 h e I5 y5 X5 e4 e5 hv => b1 ?_) (fun k q e I5 y5 b5 => b0 (zc_Qi.of ?_))
      · rw [e] at hP0' hP1'
        have hP0a : ∀ k q, (if D 0 h 0 = 12 then .inl (5, (aWd T n (aWd T n (aWd T n s))).1) else if pf_at D h (nmL T (aWd T n s) 0) = -1 then (if wd T n s3 = 3 then (match pRows T n 5 0 0 (aWd T n s3) with | .inl e => .inl e | .inr (s4, g) => .inr (s4, dLet D h (nmL T (aWd T n s) 0) g)) else .inl (1, s3.1)) else .inl (2, (aWd T n (aWd T n (aWd T n s))).1)) = (Sum.inl (k, q) : Sum (Int × Int) (zs × zD)) → ∀ I', cLf hs I I' → cBad k q I' → P 0 I' J := hP0'
        have hP1a : ∀ s' D', (if D 0 h 0 = 12 then .inl (5, (aWd T n (aWd T n (aWd T n s))).1) else if pf_at D h (nmL T (aWd T n s) 0) = -1 then (if wd T n s3 = 3 then (match pRows T n 5 0 0 (aWd T n s3) with | .inl e => .inl e | .inr (s4, g) => .inr (s4, dLet D h (nmL T (aWd T n s) 0) g)) else .inl (1, s3.1)) else .inl (2, (aWd T n (aWd T n (aWd T n s))).1)) = (Sum.inr (s', D') : Sum (Int × Int) (zs × zD)) → ∀ I', cLf hs I I' → cTx T n s' I' → cKd D' hs I' → P 1 I' J := hP1'
        obtain ⟨_, _, _, v1⟩ := pNum_i X4.ok e
        have hh : 0 ≤ h ∧ h < 2 := by omega
        have K5 : cKd D hs I5 := y5.K (y4.K (y3.K K2))
        have l5 : cLf hs I I5 := l4.trans y5.Lf
        have c0 := ok.a0 h 0
        have x5 : I5 9 (ax_w 0).toNat = nmL T (aWd T n s) 0 := by rw [y5 9 _ (by omega), y4 9 _ (by omega), y3 9 _ (by omega)]; exact ex
        have nx := nm.2.2.2.2 0 (by decide) (by have := nm.2.2.2.1.1; omega)
        rw [e4]
        refine sc_count eh K5.1 hh ?_
        rw [zb_w (x := D 0 h 0) (by omega) (by omega)]
        refine ⟨fun q12 => ?_, fun q12 => sc_failAtNumber e5 (fun I6 y6 b6 => ⟨Or.inl rfl, zc_Qi.of ?_⟩)⟩
        · have q12' : D 0 h 0 < 12 := q12
          rw [if_neg (by omega)] at hP0a hP1a
          rw [x5]
          refine sc_indexOf eh ok K5.1 hh ⟨by omega, by omega⟩ ?_
          have pa : n32 (pf_at D h (nmL T (aWd T n s) 0)) := by rcases pf_at_in ok h (nmL T (aWd T n s) 0) with z | ⟨z1, z2, _⟩ <;> exact ⟨by omega, by omega⟩
          refine w_if pa ⟨by decide, by decide⟩ (fun ca => sc_takeWord X5 (ks := 3) (by decide) (by decide) (fun c3 I6 y6 X6 _ _ => b1 ?_) (fun c3 I6 y6 b6 => b0 (zc_Qi.of ?_))) (fun ca => sc_failAtNumber e5 (fun I6 y6 b6 => ⟨Or.inl rfl, zc_Qi.of ?_⟩))
          · have c3' : wd T n s3 = 3 := c3
            rw [if_pos ca, if_pos c3'] at hP0a hP1a
            refine ls_140 (I0 := I6) (x := nmL T (aWd T n s) 0) eh ok hh q12' (by rw [y6 9 _ (by omega)]; exact x5) 5 0 0 (aWd T n s3) I6 (by decide) (by decide) X6 (y6.K K5) (cY.refl I6) (fun k q e7 I7 f7 b7 => ?_) (fun s7 g e7 I7 f7 t7 K7 => ?_)
            · rw [e7] at hP0a
              exact hP0a k q rfl I7 (l5.trans (y6.Lf.trans f7)) b7
            · rw [e7] at hP1a
              exact hP1a s7 _ rfl I7 (l5.trans (y6.Lf.trans f7)) t7 K7
          · have c3' : ¬ wd T n s3 = 3 := c3
            rw [if_pos ca, if_neg c3'] at hP0a
            exact hP0a 1 _ rfl I6 (l5.trans y6.Lf) b6
          · rw [if_neg ca] at hP0a
            exact hP0a 2 _ rfl I6 (l5.trans y6.Lf) b6
        · have q12' : ¬ D 0 h 0 < 12 := q12
          rw [if_pos (by omega)] at hP0a
          exact hP0a 5 _ rfl I6 (l5.trans y6.Lf) b6
      · rw [e] at hP0'
        exact hP0' k q rfl I5 (l4.trans y5.Lf) b5
    · have c' : ¬ wd T n (aWd T n (aWd T n s)) = 2 := c
      have hP0' : ∀ k q, (if wd T n (aWd T n (aWd T n s)) = 2 then _ else (Sum.inl (1, (aWd T n (aWd T n s)).1) : Sum (Int × Int) (zs × zD))) = (Sum.inl (k, q) : Sum (Int × Int) (zs × zD)) → ∀ I', cLf hs I I' → cBad k q I' → P 0 I' J := hP0
      rw [if_neg c'] at hP0'
      exact hP0' 1 _ rfl I4 (l2.trans (y3.Lf.trans y4.Lf)) b4
  · rw [e] at hP0
    exact hP0 k q rfl I2 (y1.Lf.trans y2.Lf) b2
end ZCSa
