/-! THE CLASS: lines asked -/
/-- the lines kept are such as they are -/
def cM (D : zD) (pg : zG) (hs : Nat) (I : zF) : Prop := cM0 D pg hs I ∧ ∀ o t, 0 ≤ o → o < D 3 0 0 → 0 ≤ t → t < D 3 0 0 → I (67 + 29 * hs) (o * 8 + t).toNat = -1 ∨ I (67 + 29 * hs) (o * 8 + t).toNat = (pf_L D pg o t 0 0 0).1
/-- nothing has changed but what lines write -/
def cG (hs : Nat) (I I' : zF) : Prop := ∀ i j, i ≠ 44 + 29 * hs → i ≠ 47 + 29 * hs → i ≠ 60 + 29 * hs → i ≠ 61 + 29 * hs → i ≠ 67 + 29 * hs → ¬ (48 + 29 * hs ≤ i ∧ i ≤ 57 + 29 * hs) → I' i j = I i j
theorem cG.refl (hs : Nat) (I : zF) : cG hs I I := fun _ _ _ _ _ _ _ _ => rfl
theorem cG.trans {hs : Nat} {I I' I2 : zF} (h : cG hs I I') (h2 : cG hs I' I2) : cG hs I I2 := fun i j a b c e f g => (h2 i j a b c e f g).trans (h i j a b c e f g)
theorem cF.G {hs : Nat} {I I' : zF} (h : cF hs I I') : cG hs I I' := fun i j a b c e _ g => h i j a b c e g
theorem cE.G {hs : Nat} {I I' : zF} (h : cE hs I I') : cG hs I I' := fun i j a b c e _ _ => h i j a b c e
theorem cG.S {D : zD} {pg : zG} {hs : Nat} {I I' : zF} (h : cG hs I I') (hS : cS D pg hs I) : cS D pg hs I' := cS_cong hS (fun i j q => by unfold cLk at q; exact h i j (by omega) (by omega) (by omega) (by omega) (by omega) (by omega)) (h _ _ (by omega) (by omega) (by omega) (by omega) (by omega) (by omega)) (fun j => h _ _ (by omega) (by omega) (by omega) (by omega) (by omega) (by omega)) (h _ _ (by omega) (by omega) (by omega) (by omega) (by omega) (by omega)) (fun j => h _ _ (by omega) (by omega) (by omega) (by omega) (by omega) (by omega))
theorem cF.M {D : zD} {pg : zG} {hs : Nat} {I I' : zF} (h : cF hs I I') (hM : cM D pg hs I) (h0 : cM0 D pg hs I') : cM D pg hs I' := ⟨h0, fun o t a b c e => by rw [h _ _ (by omega) (by omega) (by omega) (by omega) (by omega)]; exact hM.2 o t a b c e⟩
theorem cFd_cong {D : zD} {pg : zG} {o t h : Int} {hs : Nat} {I I' : zF} (g : ∀ i j, (48 + 29 * hs ≤ i ∧ i ≤ 57 + 29 * hs) → I' i j = I i j) (hF : cFd D pg o t h hs I) : cFd D pg o t h hs I' := by
  unfold cFd at *
  rw [g _ _ (by omega), g _ _ (by omega)]
  refine ⟨hF.1, hF.2.1, fun q hq => ?_⟩
  rw [g _ _ (by omega), g _ _ (by omega)]
  exact hF.2.2 q hq
theorem cM0_cong {D : zD} {pg : zG} {hs : Nat} {I I' : zF} (g : ∀ i j, (48 + 29 * hs ≤ i ∧ i ≤ 57 + 29 * hs) → I' i j = I i j) (hM : cM0 D pg hs I) : cM0 D pg hs I' := by
  unfold cM0 at *
  rw [g _ _ (by omega), g _ _ (by omega), g _ _ (by omega)]
  rcases hM with e | ⟨o, t, h, a, b, c, e, f⟩
  · exact Or.inl e
  · exact Or.inr ⟨o, t, h, a, b, c, e, cFd_cong g f⟩
theorem cM_cong {D : zD} {pg : zG} {hs : Nat} {I I' : zF} (g : ∀ i j, (48 + 29 * hs ≤ i ∧ i ≤ 57 + 29 * hs) ∨ i = 67 + 29 * hs → I' i j = I i j) (hM : cM D pg hs I) : cM D pg hs I' := ⟨cM0_cong (fun i j q => g i j (Or.inl q)) hM.1, fun o t a b c e => by rw [g _ _ (Or.inr rfl)]; exact hM.2 o t a b c e⟩
theorem cE.M {D : zD} {pg : zG} {hs : Nat} {I I' : zF} (h : cE hs I I') (hM : cM D pg hs I) : cM D pg hs I' := cM_cong (fun i j q => h i j (by omega) (by omega) (by omega) (by omega)) hM
theorem Ldiv {a b : Int} (ha : 0 ≤ a ∧ a ≤ 200 * 12) (hb : 0 ≤ b ∧ b ≤ 15 * 12) : Int.tdiv (a * 256 + b) 256 = a ∧ Int.tmod (a * 256 + b) 256 = b := by
  rw [Int.tdiv_eq_ediv_of_nonneg (by omega), Int.tmod_eq_emod_of_nonneg (by omega)]
  omega
/-- the least of them, as the class looks for it -/
def pf_bsc (D : zD) (pg : zG) (w : Int) : Nat → Int → Int → Int
  | 0, _, b => b
  | n + 1, v, b => if (pf_L D pg w v 0 0 0).1 < (pf_L D pg w b 0 0 0).1 then pf_bsc D pg w n (v + 1) v else pf_bsc D pg w n (v + 1) b
theorem pf_bst_bsc {D : zD} {pg : zG} {w : Int} : ∀ (n : Nat) (v b : Int), 0 ≤ b → 0 ≤ v → pf_bst D pg w n v b (pf_L D pg w b 0 0 0).1 = pf_bsc D pg w n v b := by
  intro n
  induction n with
  | zero => intro v b _ _; rfl
  | succ n ih =>
    intro v b hb hv
    show (if _ then _ else _) = (if _ then _ else _)
    by_cases c : (pf_L D pg w v 0 0 0).1 < (pf_L D pg w b 0 0 0).1
    · rw [if_pos (Or.inr c), if_pos c, ih _ _ hv (by omega)]
    · rw [if_neg (by omega), if_neg c, ih _ _ hb (by omega)]
section ZCD
variable {d hf pf hs : Nat} {I J : zF} {D : zD} {pg : zG} {W : zD} {P : Int → zF → zF → Prop} {P0 : zF → zF → Prop}
theorem sc_doubtInAll (eh : hs = 0 ∨ hs = 1) (ok : zD_ok D pg) {o t h : Int} (hF : cFd D pg o t h hs I) (hP : P (pf_L D pg o t h 0 0).1 I J) : zc_i (d + 1) 44 [.inr (.inr (some (48 + 29 * hs)))] hf pf I J P := by
  have hb := pf_L_b ok o t h 0 0 (by decide) (by decide)
  have b1 := hb.1
  have b2 := hb.2.1
  refine zc_ini (M := ax_m44) rfl (Nat.le_of_ble_eq_true rfl) (zk_LineFinder_doubtInAll_0 hf pf I J hs eh ?_)
  rw [show (ax_w 0).toNat = 0 from rfl, show ax_w 256 = 256 from rfl, hF.1, zb_w (by omega) (by omega), (Ldiv b1 b2).1]
  exact zc_Qi.of hP
theorem sc_strokesInAllL (eh : hs = 0 ∨ hs = 1) (ok : zD_ok D pg) {o t h : Int} (hF : cFd D pg o t h hs I) (hP : P (pf_L D pg o t h 0 0).2.1 I J) : zc_i (d + 1) 45 [.inr (.inr (some (48 + 29 * hs)))] hf pf I J P := by
  have hb := pf_L_b ok o t h 0 0 (by decide) (by decide)
  have b1 := hb.1
  have b2 := hb.2.1
  refine zc_ini (M := ax_m45) rfl (Nat.le_of_ble_eq_true rfl) (zk_LineFinder_strokesInAll_0 hf pf I J hs eh ?_)
  rw [show (ax_w 0).toNat = 0 from rfl, show ax_w 256 = 256 from rfl, hF.1, zb_w (by omega) (by omega), (Ldiv b1 b2).2]
  exact zc_Qi.of hP
theorem sc_hasLine (eh : hf = 0 ∨ hf = 1) (ok : zD_ok D pg) (hL : cL D hf I) {o t h : Int} (ho : n32 o) (ht : n32 t) (hh : n32 h) (hP : P (if ((0 ≤ o ∧ o < D 3 0 0) ∧ (0 ≤ t ∧ t < D 3 0 0)) ∧ (0 ≤ h ∧ h ≤ 1) ∧ pf_canPaint D o h = 1 ∧ pf_canPaint D t h = 1 then 1 else 0) I J) : zc_i (d + 5) 169 [.inr (.inr (some 0)), .inl o, .inl t, .inl h] hf pf I J P := by
  refine zc_ini (M := ax_m169) rfl (Nat.le_of_ble_eq_true rfl) (zk_Top_hasLine_0 hf pf I J o t h eh (sc_holdsWord eh ok hL ho (bc (fun c => sc_holdsWord eh ok hL ht (bc (fun c2 => sc_isHand hh (bc (fun c3 => sc_canPaint eh ok hL c (by omega) (b01 (pf_can01 D o h _ _) (fun c4 => sc_canPaint eh ok hL c2 (by omega) (b01 (pf_can01 D t h _ _) (fun c5 => zc_Qi.of ?_) (fun c5 => zc_Qi.of ?_))) (fun c4 => zc_Qi.of ?_))) (fun c3 => zc_Qi.of ?_))) (fun c2 => zc_Qi.of ?_))) (fun c => zc_Qi.of ?_))))
  · rwa [if_pos ⟨⟨c, c2⟩, c3, c4, c5⟩] at hP
  · rwa [if_neg (by omega)] at hP
  · rwa [if_neg (by omega)] at hP
  · rwa [if_neg (by omega)] at hP
  · rwa [if_neg (by omega)] at hP
  · rwa [if_neg (by omega)] at hP
theorem sc_line (eh : hf = 0 ∨ hf = 1) (hB : cB D pg W hf I) (hM : cM D pg hf I) {o t h c : Int} (ho : n32 o) (ht : n32 t) (hh : n32 h) (hc : n32 c) (hP : ∀ I', cG hf I I' → cM D pg hf I' → P (an_line D pg o t h c) I' J) : zc_i (d + 7) 142 [.inr (.inr (some 0)), .inl o, .inl t, .inl h, .inl c] hf pf I J P := by
  unfold an_line at hP
  refine zc_ini (M := ax_m142) rfl (Nat.le_of_ble_eq_true rfl) (zk_Top_line_0 hf pf I J o t h c eh (sc_hasLine eh hB.S.ok hB.S.L ho ht hh (bc (fun q => sc_find eh hB.S hM.1 (by omega) q.1.1 q.1.2 q.2.2.1 q.2.2.2 (fun I1 hF1 hM1 hFd => ?_)) (fun q => zc_Qi.of ?_))))
  · have hP1 := hP I1 hF1.G (hF1.M hM hM1)
    rw [if_pos q.1, if_pos q.2.1] at hP1
    rw [hc.w]
    refine ⟨fun e => sc_doubtInAll eh hB.S.ok hFd (zc_Qi.of ?_), fun e => ⟨fun e1 => sc_strokesInAllL eh hB.S.ok hFd (zc_Qi.of ?_), fun e1 => ⟨fun e2 => zc_ini (M := ax_m46) rfl (Nat.le_of_ble_eq_true rfl) (zk_LineFinder_pieceCount_0 hf pf I1 J hf eh (zc_Qi.of (zc_Qi.of ?_))), fun e2 => zc_Qi.of ?_⟩⟩⟩
    · rwa [if_pos (by omega), if_pos q.2.2, if_pos e] at hP1
    · rwa [if_pos (by omega), if_pos q.2.2, if_neg e, if_pos e1] at hP1
    · rw [if_pos (by omega), if_pos q.2.2, if_neg e, if_neg e1] at hP1
      rw [hFd.2.1]
      exact hP1
    · rwa [if_neg (by omega)] at hP1
  · have hP1 := hP I (cG.refl _ _) hM
    have : an_line D pg o t h c = -1 := by
      unfold an_line
      split
      · split
        · split
          · rw [if_neg (fun r => q ⟨by omega, by omega, r⟩)]
          · rfl
        · rfl
      · rfl
    unfold an_line at this
    rwa [this] at hP1
theorem sc_piecePart (eh : hs = 0 ∨ hs = 1) {o t h k c : Int} (hF : cFd D pg o t h hs I) (hk : n32 k) (hc : n32 c) (hP : P (if 0 ≤ c ∧ c ≤ 1 then (if 0 ≤ k ∧ k < ((pf_ps D pg o t h).length : Int) then (if c = 0 then ((pf_ps D pg o t h).getD k.toNat (0, 0)).1 else ((pf_ps D pg o t h).getD k.toNat (0, 0)).2) else -1) else -1) I J) : zc_i (d + 1) 47 [.inr (.inr (some (48 + 29 * hs))), .inl k, .inl c] hf pf I J P := by
  have hl := pf_pc1_len (D := D) (pg := pg) (o := o) (t := t) (h := h) 12 0 0
  have hl' : (pf_ps D pg o t h).length ≤ 12 := hl
  refine zc_ini (M := ax_m47) rfl (Nat.le_of_ble_eq_true rfl) (zk_LineFinder_piecePart_0 hf pf I J k c hs eh ?_)
  rw [hk.w, hc.w, hF.2.1, zb_w (x := ((pf_ps D pg o t h).length : Int)) (by omega) (by omega), show ax_w 0 = 0 from rfl]
  refine ⟨fun e => zc_Qi.of ?_, fun e => ⟨fun e1 => ⟨fun e2 => ⟨by omega, zc_Qi.of ?_⟩, fun e2 => ⟨fun e3 => ⟨by omega, zc_Qi.of ?_⟩, fun e3 => zc_Qi.of ?_⟩⟩, fun e1 => zc_Qi.of ?_⟩⟩
  · rw [if_neg (show ¬ (0 ≤ k ∧ k < ((pf_ps D pg o t h).length : Int)) by omega)] at hP
    split at hP <;> exact hP
  · rw [if_pos (by omega), if_pos (by omega), if_pos e2] at hP
    rw [(hF.2.2 k.toNat (by omega)).1]
    exact hP
  · rw [if_pos (by omega), if_pos (by omega), if_neg e2] at hP
    rw [(hF.2.2 k.toNat (by omega)).2]
    exact hP
  · rwa [if_neg (by omega)] at hP
  · rw [if_neg (show ¬ (0 ≤ k ∧ k < ((pf_ps D pg o t h).length : Int)) by omega)] at hP
    split at hP <;> exact hP
theorem sc_piece (eh : hf = 0 ∨ hf = 1) (hB : cB D pg W hf I) (hM : cM D pg hf I) {o t h k c : Int} (ho : n32 o) (ht : n32 t) (hh : n32 h) (hk : n32 k) (hc : n32 c) (hP : ∀ I', cG hf I I' → cM D pg hf I' → P (an_piece D pg o t h k c) I' J) : zc_i (d + 7) 143 [.inr (.inr (some 0)), .inl o, .inl t, .inl h, .inl k, .inl c] hf pf I J P := by
  refine zc_ini (M := ax_m143) rfl (Nat.le_of_ble_eq_true rfl) (zk_Top_piece_0 hf pf I J o t h k c eh (sc_hasLine eh hB.S.ok hB.S.L ho ht hh (bc (fun q => sc_find eh hB.S hM.1 (by omega) q.1.1 q.1.2 q.2.2.1 q.2.2.2 (fun I1 hF1 hM1 hFd => sc_piecePart eh hFd hk hc (zc_Qi.of ?_))) (fun q => zc_Qi.of ?_))))
  · have hP1 := hP I1 hF1.G (hF1.M hM hM1)
    unfold an_piece at hP1
    rw [if_pos q.1, if_pos q.2.1] at hP1
    by_cases ck : 0 ≤ k ∧ k < ((pf_ps D pg o t h).length : Int)
    · rw [if_pos ck]
      rwa [if_pos (show (pf_canPaint D o h = 1 ∧ pf_canPaint D t h = 1) ∧ 0 ≤ k ∧ k < ((pf_ps D pg o t h).length : Int) from ⟨q.2.2, ck⟩)] at hP1
    · rw [if_neg ck]
      rwa [if_neg (show ¬ ((pf_canPaint D o h = 1 ∧ pf_canPaint D t h = 1) ∧ 0 ≤ k ∧ k < ((pf_ps D pg o t h).length : Int)) from fun r => ck r.2)] at hP1
  · have hP1 := hP I (cG.refl _ _) hM
    have : an_piece D pg o t h k c = -1 := by
      unfold an_piece
      split
      · split
        · split
          · rw [if_neg (fun r => q ⟨by omega, by omega, r.1⟩)]
          · rfl
        · rfl
      · rfl
    rwa [this] at hP1
theorem sc_leastDoubt (eh : hs = 0 ∨ hs = 1) (hS : cS D pg hs I) (hM : cM D pg hs I) {o t : Int} (ho : 0 ≤ o ∧ o < D 3 0 0) (ht : 0 ≤ t ∧ t < D 3 0 0) (hP : ∀ I', cG hs I I' → cM D pg hs I' → P (pf_L D pg o t 0 0 0).1 I' J) : zc_i (d + 7) 73 [.inr (.inr (some (39 + 29 * hs))), .inl o, .inl t] hf pf I J P := by
  have h3 := hS.ok.a3 0 0
  have hb := (pf_L_b hS.ok o t 0 0 0 (by decide) (by decide)).1
  refine zc_ini (M := ax_m73) rfl (Nat.le_of_ble_eq_true rfl) (zk_Shop_leastDoubt_0 hf pf I J o t hs eh (sc_holdsWord eh hS.ok hS.L ⟨by omega, by omega⟩ (bc (fun _ => sc_holdsWord eh hS.ok hS.L ⟨by omega, by omega⟩ (bc (fun _ => ?_) (fun q => absurd ht q))) (fun q => absurd ho q))))
  rw [zb_w (x := o * 8 + t) (by omega) (by omega)]
  refine ⟨by omega, fun e => sc_find eh hS hM.1 (by decide) ho ht (can0 hS.ok ho) (can0 hS.ok ht) (fun I1 hF1 hM1 hFd => sc_doubtInAll eh hS.ok hFd ⟨by omega, by omega, zc_Qi.of ?_⟩), fun e => ⟨by omega, zc_Qi.of ?_⟩⟩
  · rw [zu_eq]
    have hM2 := hF1.M hM hM1
    refine hP _ (fun i j q1 q2 q3 q4 q5 q6 => ?_) ⟨cM0_cong (fun i j q => zu_ne (by omega)) hM1, fun a c a0 a1 c0 c1 => ?_⟩
    · rw [zu_ne (by omega)]; exact hF1 i j q1 q2 q3 q4 q6
    · by_cases r : a = o ∧ c = t
      · rw [r.1, r.2, zu_eq]; exact Or.inr rfl
      · rw [zu_ne (by omega)]; exact hM2.2 a c a0 a1 c0 c1
  · rcases hM.2 o t ho.1 ho.2 ht.1 ht.2 with r | r
    · rw [r] at e
      exact absurd rfl e
    · rw [r]
      exact hP I (cG.refl _ _) hM
theorem sc_best_17 {I0 : zF} (eh : hf = 0 ∨ hf = 1) (hS0 : cS D pg hf I0) {w : Int} (hw : 0 ≤ w ∧ w < D 3 0 0) {Q : Option ax_v → ax_S → Prop} : ∀ (n : Nat) (v b : Int) (I : zF), cG hf I0 I → cM D pg hf I → 0 ≤ b ∧ b < D 3 0 0 → 0 ≤ v → v + n = D 3 0 0 → (∀ I', cG hf I0 I' → cM D pg hf I' → Q (some (.inl (pf_bsc D pg w n v b))) (zc_S hf pf I' J)) → zb_W (d + 7) ax_m144 (17, [some (.inr (.inr (some 0))), some (.inl w), some (.inl b), some (.inl v)], [], zc_S hf pf I J) Q := by
  have h3 := hS0.ok.a3 0 0
  intro n
  induction n with
  | zero =>
    intro v b I hG hM hb h0 he hQ
    refine zk_Top_best_17 hf pf I J w b v eh ?_
    rw [(hG.S hS0).L.wn, zb_w (x := v) (by omega) (by omega), zb_w (x := D 3 0 0) (by omega) (by omega)]
    exact ⟨fun q => by omega, fun _ => hQ I hG hM⟩
  | succ n ih =>
    intro v b I hG hM hb h0 he hQ
    have hb1 := (pf_L_b hS0.ok w v 0 0 0 (by decide) (by decide)).1
    have hb2 := (pf_L_b hS0.ok w b 0 0 0 (by decide) (by decide)).1
    refine zk_Top_best_17 hf pf I J w b v eh ?_
    rw [(hG.S hS0).L.wn, zb_w (x := v) (by omega) (by omega), zb_w (x := D 3 0 0) (by omega) (by omega)]
    refine ⟨fun _ => sc_leastDoubt eh (hG.S hS0) hM hw (by omega) (fun I1 hG1 hM1 => sc_leastDoubt eh ((hG.trans hG1).S hS0) hM1 hw hb (fun I2 hG2 hM2 => ?_)), fun q => absurd (show v < D 3 0 0 by omega) q⟩
    have hG3 := (hG.trans hG1).trans hG2
    rw [zb_w (x := (pf_L D pg w v 0 0 0).1) (by omega) (by omega), zb_w (x := (pf_L D pg w b 0 0 0).1) (by omega) (by omega)]
    unfold pf_bsc at hQ
    refine ⟨fun q => zk_Top_best_51 hf pf I2 J w v v (ih (v + 1) v I2 hG3 hM2 (by omega) (by omega) (by omega) ?_), fun q => zk_Top_best_51 hf pf I2 J w b v (ih (v + 1) b I2 hG3 hM2 hb (by omega) (by omega) ?_)⟩
    · rwa [if_pos q] at hQ
    · rwa [if_neg q] at hQ
theorem sc_best (eh : hf = 0 ∨ hf = 1) (hB : cB D pg W hf I) (hM : cM D pg hf I) {w : Int} (hw : n32 w) (hP : ∀ I', cG hf I I' → cM D pg hf I' → P (an_best D pg w) I' J) : zc_i (d + 8) 144 [.inr (.inr (some 0)), .inl w] hf pf I J P := by
  unfold an_best at hP
  refine zc_ini (M := ax_m144) rfl (Nat.le_of_ble_eq_true rfl) (zk_Top_best_0 hf pf I J w eh (sc_holdsWord eh hB.S.ok hB.S.L hw (bc (fun q => ?_) (fun q => zc_Qi.of ?_))))
  · rw [if_pos q] at hP
    refine sc_best_17 eh hB.S q (D 3 0 0 - 1).toNat 1 0 I (cG.refl _ _) hM (by omega) (by decide) (by omega) (fun I' g m => zc_Qi.of ?_)
    have := hP I' g m
    rw [show (D 3 0 0).toNat = (D 3 0 0 - 1).toNat + 1 by omega] at this
    unfold pf_bst at this
    rw [if_pos (Or.inl rfl), show (0 : Int) + 1 = 1 from rfl, pf_bst_bsc _ _ _ (by decide) (by decide)] at this
    exact this
  · have := hP I (cG.refl _ _) hM
    rwa [if_neg q] at this
theorem sc_hand (eh : hf = 0 ∨ hf = 1) (hB : cB D pg W hf I) (hM : cM D pg hf I) {o t : Int} (ho : n32 o) (ht : n32 t) (hP : ∀ I', cG hf I I' → cM D pg hf I' → P (an_hand D pg o t) I' J) : zc_i (d + 8) 145 [.inr (.inr (some 0)), .inl o, .inl t] hf pf I J P := by
  unfold an_hand at hP
  refine zc_ini (M := ax_m145) rfl (Nat.le_of_ble_eq_true rfl) (zk_Top_hand_0 hf pf I J o t eh (sc_holdsWord eh hB.S.ok hB.S.L ho (bc (fun q => sc_holdsWord eh hB.S.ok hB.S.L ht (bc (fun q2 => ?_) (fun q2 => zc_Qi.of ?_))) (fun q => zc_Qi.of ?_))))
  · rw [if_pos ⟨q, q2⟩] at hP
    refine sc_hasLine eh hB.S.ok hB.S.L ho ht ⟨by decide, by decide⟩ (bc (fun r => sc_find eh hB.S hM.1 (by decide) q q2 r.2.2.1 r.2.2.2 (fun I1 hF1 hM1 hFd => sc_doubtInAll eh hB.S.ok hFd ?_)) (fun r => zc_Qi.of ?_))
    · have hb1 := (pf_L_b hB.S.ok o t 1 0 0 (by decide) (by decide)).1
      have hb2 := (pf_L_b hB.S.ok o t 0 0 0 (by decide) (by decide)).1
      refine sc_leastDoubt eh (hF1.S hB.S) (hF1.M hM hM1) q q2 (fun I2 hG2 hM2 => ?_)
      rw [zb_w (x := (pf_L D pg o t 1 0 0).1) (by omega) (by omega), zb_w (x := (pf_L D pg o t 0 0 0).1) (by omega) (by omega)]
      have := hP I2 (hF1.G.trans hG2) hM2
      refine ⟨fun e => zc_Qi.of ?_, fun e => zc_Qi.of ?_⟩
      · rwa [if_pos ⟨r.2.2, e⟩] at this
      · rwa [if_neg (fun z => e z.2)] at this
    · have := hP I (cG.refl _ _) hM
      rwa [if_neg (fun z => r ⟨⟨q, q2⟩, by decide, z.1⟩)] at this
  · have := hP I (cG.refl _ _) hM
    rwa [if_neg (fun z => q2 z.2)] at this
  · have := hP I (cG.refl _ _) hM
    rwa [if_neg (fun z => q z.1)] at this
end ZCD
