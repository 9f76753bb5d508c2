/-! THE CLASS: boards and settings -/
section ZCSc
variable {T : Nat → Int} {n : Int} {d hf pf hs : Nat} {I J : zF} {s : zs} {D : zD} {pg : zG} {P : Int → zF → zF → Prop} {P0 : zF → zF → Prop}
theorem cKd_brd {w h : Int} (hK : cKd D hs I) (ok : zD_ok D pg) (hl : D 6 0 0 < 4) : cKd (dBrd D w h) hs (ax_u (ax_u (ax_u I (64 + 29 * hs) (D 6 0 0).toNat w) (65 + 29 * hs) (D 6 0 0).toNat h) (39 + 29 * hs) 11 (D 6 0 0 + 1)) := by
  have a6 := ok.a6 0 0
  obtain ⟨⟨a, b, c, e, f, k, m⟩, l⟩ := hK
  have e6 : dBrd D w h 6 0 0 = D 6 0 0 + 1 := if_pos rfl
  refine ⟨⟨fun h2 r1 r2 => ?_, fun h2 k2 r1 r2 r3 r4 => ?_, ?_, fun w r1 r2 => ?_, fun w k r1 r2 r3 r4 => ?_, ?_, ?_⟩, fun b2 r1 r2 => ?_⟩
  · rw [zu_ne (by omega), zu_ne (by omega), zu_ne (by omega), dBrd_lo (by decide) (by decide)]; exact a h2 r1 r2
  · rw [dBrd_lo (by decide) (by decide)] at r4
    rw [zu_ne (by omega), zu_ne (by omega), zu_ne (by omega), zu_ne (by omega), zu_ne (by omega), zu_ne (by omega), dBrd_lo (by decide) (by decide), dBrd_lo (by decide) (by decide)]; exact b h2 k2 r1 r2 r3 r4
  · rw [zu_ne (by omega), zu_ne (by omega), zu_ne (by omega), dBrd_lo (by decide) (by decide)]; exact c
  · rw [dBrd_lo (by decide) (by decide)] at r2 ⊢; rw [zu_ne (by omega), zu_ne (by omega), zu_ne (by omega)]; exact e w r1 r2
  · rw [dBrd_lo (by decide) (by decide)] at r2 ⊢; rw [zu_ne (by omega), zu_ne (by omega), zu_ne (by omega)]; exact f w k r1 r2 r3 r4
  · rw [zu_eq, e6]
  · rw [zu_ne (by omega), zu_ne (by omega), zu_ne (by omega), zu_ne (by omega), zu_ne (by omega), zu_ne (by omega), zu_ne (by omega), zu_ne (by omega), zu_ne (by omega), dBrd_lo (by decide) (by decide), dBrd_lo (by decide) (by decide), dBrd_lo (by decide) (by decide)]; exact m
  · rw [e6] at r2
    have e7 : ∀ c, dBrd D w h 7 b2 c = if b2 = D 6 0 0 then (if c = 0 then w else h) else D 7 b2 c := fun c => by
      unfold dBrd
      rw [if_neg (by decide)]
      by_cases q : b2 = D 6 0 0
      · rw [if_pos ⟨rfl, q⟩, if_pos q]
      · rw [if_neg (by omega), if_neg q]
    rw [e7, e7]
    by_cases q : b2 = D 6 0 0
    · rw [if_pos q, if_pos q, if_pos rfl, if_neg (by decide), q, zu_ne (by omega), zu_ne (by omega), zu_eq, zu_ne (by omega), zu_eq]
      exact ⟨rfl, rfl⟩
    · rw [if_neg q, if_neg q, zu_ne (by omega), zu_ne (by omega), zu_ne (by omega), zu_ne (by omega), zu_ne (by omega), zu_ne (by omega)]
      exact l b2 r1 (by omega)
theorem sc_tellBoard (eh : hs = 0 ∨ hs = 1) {w h : Int} (hK : cKd D hs I) (ok : zD_ok D pg) (hl : D 6 0 0 < 4) (hP : ∀ I', cLf hs I I' → (∀ i j, i < 39 → I' i j = I i j) → cKd (dBrd D w h) hs I' → P0 I' J) : zc_v (d + 1) 65 [.inr (.inr (some (39 + 29 * hs))), .inl w, .inl h] hf pf I J P0 := by
  have a6 := ok.a6 0 0
  have e11 : I (39 + 29 * hs) 11 = D 6 0 0 := hK.1.2.2.2.2.2.1
  refine zc_inv (M := ax_m65) rfl (Nat.le_of_ble_eq_true rfl) (zk_Shop_tellBoard_0 hf pf I J w h hs eh ?_)
  rw [e11, zb_w (x := D 6 0 0) (by omega) (by omega)]
  have e1 : (ax_u I (64 + 29 * hs) (D 6 0 0).toNat w) (39 + 29 * hs) 11 = D 6 0 0 := by rw [zu_ne (by omega)]; exact e11
  rw [e1, zb_w (x := D 6 0 0) (by omega) (by omega)]
  have e2 : (ax_u (ax_u I (64 + 29 * hs) (D 6 0 0).toNat w) (65 + 29 * hs) (D 6 0 0).toNat h) (39 + 29 * hs) 11 = D 6 0 0 := by rw [zu_ne (by omega)]; exact e1
  rw [e2]
  exact ⟨fun _ => ⟨by omega, by omega, zc_Qv.of (hP _ (fun i j a b c e f k l m => by rw [zu_ne (by omega), zu_ne (by omega), zu_ne (by omega)]) (fun i j q => by rw [zu_ne (by omega), zu_ne (by omega), zu_ne (by omega)]) (cKd_brd hK ok hl))⟩, fun q => absurd (show D 6 0 0 < 4 from hl) q⟩
theorem sc_boardStatement (eh : hs = 0 ∨ hs = 1) (hX : cTx T n s I) (hw : 0 ≤ wd T n s) (hK : cKd D hs I) (ok : zD_ok D pg) (hP0 : ∀ k q, pBrd T n D (aWd T n s) s.1 = .inl (k, q) → ∀ I', cLf hs I I' → cBad k q I' → P 0 I' J) (hP1 : ∀ s' D', pBrd T n D (aWd T n s) s.1 = .inr (s', D') → ∀ I', cLf hs I I' → cTx T n s' I' → cKd D' hs I' → P 1 I' J) : zc_i (d + 5) 83 [.inr (.inr (some 8)), .inr (.inr (some ((39 + 29 * hs))))] hf pf I J P := by
  have hwp := wd_pos hw
  have a6 := ok.a6 0 0
  have a3 := ok.a3 0 0
  have e11 : I (39 + 29 * hs) 11 = D 6 0 0 := hK.1.2.2.2.2.2.1
  unfold pBrd at hP0 hP1
  refine zc_ini (M := ax_m83) rfl (Nat.le_of_ble_eq_true rfl) (zk_ShopReader_boardStatement_0 hf pf I J hs eh ?_)
  rw [e11, zb_w (x := D 6 0 0) (by omega) (by omega)]
  refine ⟨fun q8 => sc_adv_W hX hwp.1 (fun I1 y1 X1 _ _ => sc_isName X1 ⟨by decide, by decide⟩ (fun hl en h6 => b1 (sc_copyName X1 hl.1 (by omega) (fun I2 f2 n2 => ?_))) (fun k q e I2 y2 b2 => b0 (zc_Qi.of ?_))), fun q8 => sc_failHere (s := s) hX.2.2.2.1 (fun I1 y1 b1 => ⟨Or.inl rfl, zc_Qi.of ?_⟩)⟩
  · have q8' : D 6 0 0 < 4 := q8
    rw [if_neg (by omega), en] at hP0 hP1
    obtain ⟨_, _, _, nm1, nm2⟩ := pName_i X1.ok en
    have hP0' : ∀ k q, (if pFw T n D (aWd T n s) = -1 then .inl (3, (aWd T n s).1) else if wd T n (aWd T n (aWd T n s)) = 2 then (match pNum T n (aWd T n (aWd T n (aWd T n s))) 1 with | .inl e => .inl e | .inr (s3, h) => if pf_canPaint D (pFw T n D (aWd T n s)) h = 1 then .inr (s3, dBrd D (pFw T n D (aWd T n s)) h) else .inl (2, (aWd T n (aWd T n (aWd T n s))).1)) else .inl (1, (aWd T n (aWd T n s)).1)) = (Sum.inl (k, q) : Sum (Int × Int) (zs × zD)) → ∀ I', cLf hs I I' → cBad k q I' → P 0 I' J := hP0
    have hP1' : ∀ s' D', (if pFw T n D (aWd T n s) = -1 then .inl (3, (aWd T n s).1) else if wd T n (aWd T n (aWd T n s)) = 2 then (match pNum T n (aWd T n (aWd T n (aWd T n s))) 1 with | .inl e => .inl e | .inr (s3, h) => if pf_canPaint D (pFw T n D (aWd T n s)) h = 1 then .inr (s3, dBrd D (pFw T n D (aWd T n s)) h) else .inl (2, (aWd T n (aWd T n (aWd T n s))).1)) else .inl (1, (aWd T n (aWd T n s)).1)) = (Sum.inr (s', D') : Sum (Int × Int) (zs × zD)) → ∀ I', cLf hs I I' → cTx T n s' I' → cKd D' hs I' → P 1 I' J := hP1
    have X2 : cTx T n (aWd T n s) I2 := X1.fr (fun i j q => f2 i j (by omega))
    have l2 : cLf hs I I2 := y1.Lf.trans (fun i j a b c e f k l m => f2 i j b)
    have K2 : cKd D hs I2 := (y1.K hK).cong (fun i j q => f2 i j (by omega))
    have pw := pFw_in (T := T) (n := n) (s := aWd T n s) ok
    refine sc_findWord eh ok K2.1 (w := 9) (L := 6) (sd := nmL T (aWd T n s)) (m := nmN T n (aWd T n s)) (by decide) (by decide) ⟨by omega, by omega, by omega, by omega⟩ (fun k k0 k1 => by have := nm2 k k0 k1; exact ⟨n2 k k0 k1, by omega, by omega⟩) ?_
    rw [show pf_fw D (nmL T (aWd T n s)) (nmN T n (aWd T n s)) (D 3 0 0).toNat 0 = pFw T n D (aWd T n s) from rfl]
    refine w_if (x := pFw T n D (aWd T n s)) ⟨by omega, by omega⟩ ⟨by decide, by decide⟩ (fun c => sc_failHere (s := aWd T n s) X2.2.2.2.1 (fun I3 y3 b3 => ⟨Or.inl rfl, zc_Qi.of ?_⟩)) (fun c => sc_adv_W X2 hl (fun I3 y3 X3 _ _ => sc_takeWord X3 (ks := 2) (by decide) (by decide) (fun ch I4 y4 X4 _ _ => b1 ?_) (fun ch I4 y4 b4 => b0 (zc_Qi.of ?_))))
    · rw [if_pos c] at hP0'
      exact hP0' 3 _ rfl I3 (l2.trans y3.Lf) b3
    · have ch' : wd T n (aWd T n (aWd T n s)) = 2 := ch
      rw [if_neg c, if_pos ch'] at hP0' hP1'
      have l4 : cLf hs I I4 := l2.trans (y3.Lf.trans y4.Lf)
      refine sc_takeNumber X4 ⟨by decide, by decide⟩ (fun s3 h e I5 y5 X5 e4 e5 hv => b1 ?_) (fun k q e I5 y5 b5 => b0 (zc_Qi.of ?_))
      · rw [e] at hP0' hP1'
        have hP0a : ∀ k q, (if pf_canPaint D (pFw T n D (aWd T n s)) h = 1 then .inr (s3, dBrd D (pFw T n D (aWd T n s)) h) else .inl (2, (aWd T n (aWd T n (aWd T n s))).1)) = (Sum.inl (k, q) : Sum (Int × Int) (zs × zD)) → ∀ I', cLf hs I I' → cBad k q I' → P 0 I' J := hP0'
        have hP1a : ∀ s' D', (if pf_canPaint D (pFw T n D (aWd T n s)) h = 1 then .inr (s3, dBrd D (pFw T n D (aWd T n s)) h) else .inl (2, (aWd T n (aWd T n (aWd T n s))).1)) = (Sum.inr (s', D') : Sum (Int × Int) (zs × zD)) → ∀ I', cLf hs I I' → cTx T n s' I' → cKd D' hs I' → P 1 I' J := hP1'
        obtain ⟨_, _, _, v1⟩ := pNum_i X4.ok e
        have hh : 0 ≤ h ∧ h < 2 := by omega
        have K5 : cKd D hs I5 := y5.K (y4.K (y3.K K2))
        have l5 : cLf hs I I5 := l4.trans y5.Lf
        rw [e4]
        refine sc_canPaint eh ok K5.1 (by omega) hh ?_
        rcases can01 D (pFw T n D (aWd T n s)) h with z | z
        · rw [z]
          rw [if_neg (by omega)] at hP0a
          exact b0 (sc_failAtNumber e5 (fun I6 y6 b6 => ⟨Or.inl rfl, zc_Qi.of (hP0a 2 _ rfl I6 (l5.trans y6.Lf) b6)⟩))
        · rw [z]
          rw [if_pos z] at hP1a
          refine b1 ?_
          rw [e4]
          exact (sc_tellBoard eh K5 ok q8' (fun I6 f6 g6 K6 => zc_Qi.of (hP1a s3 _ rfl I6 (l5.trans f6) (X5.fr (fun i j q => g6 i j (by omega))) K6)))
      · rw [e] at hP0'
        exact hP0' k q rfl I5 (l4.trans y5.Lf) b5
    · have ch' : ¬ wd T n (aWd T n (aWd T n s)) = 2 := ch
      rw [if_neg c, if_neg ch'] at hP0'
      exact hP0' 1 _ rfl I4 (l2.trans (y3.Lf.trans y4.Lf)) b4
  · have q8' : D 6 0 0 < 4 := q8
    rw [if_neg (by omega), e] at hP0
    exact hP0 k q rfl I2 (y1.Lf.trans y2.Lf) b2
  · have q8' : ¬ D 6 0 0 < 4 := q8
    rw [if_pos (by omega)] at hP0
    exact hP0 5 s.1 rfl I1 y1.Lf b1
theorem cKd_rul {k v : Int} {I' : zF} (hK : cKd D hs I) (hF : ∀ i j, ¬ (i = 40 + 29 * hs ∧ j = 5) → ¬ (i = 39 + 29 * hs ∧ (j = 13 ∨ j = 14)) → I' i j = I i j) (h0 : I' (40 + 29 * hs) 5 = if k = 0 then v else I (40 + 29 * hs) 5) (h1 : I' (39 + 29 * hs) 13 = if k = 1 then v else I (39 + 29 * hs) 13) (h2 : I' (39 + 29 * hs) 14 = if k = 2 then v else I (39 + 29 * hs) 14) : cKd (dRul D k v) hs I' := by
  obtain ⟨⟨a, b, c, e, f, g, m0, m1, m2⟩, l⟩ := hK
  have e8 : ∀ q : Int, dRul D k v 8 q 0 = if k = q then v else D 8 q 0 := fun q => by
    unfold dRul
    by_cases z : k = q
    · rw [if_pos ⟨rfl, z.symm⟩, if_pos z]
    · rw [if_neg (fun y => z y.2.symm), if_neg z]
  refine ⟨⟨fun h2 r1 r2 => ?_, fun h2 k2 r1 r2 r3 r4 => ?_, ?_, fun w r1 r2 => ?_, fun w k r1 r2 r3 r4 => ?_, ?_, ?_, ?_, ?_⟩, fun b2 r1 r2 => ?_⟩
  · rw [hF _ _ (by omega) (by omega), dRul_lo (by decide)]; exact a h2 r1 r2
  · rw [dRul_lo (by decide)] at r4
    rw [hF _ _ (by omega) (by omega), hF _ _ (by omega) (by omega), dRul_lo (by decide), dRul_lo (by decide)]; exact b h2 k2 r1 r2 r3 r4
  · rw [hF _ _ (by omega) (by omega), dRul_lo (by decide)]; exact c
  · rw [dRul_lo (by decide)] at r2 ⊢; rw [hF _ _ (by omega) (by omega)]; exact e w r1 r2
  · rw [dRul_lo (by decide)] at r2 ⊢; rw [hF _ _ (by omega) (by omega)]; exact f w k r1 r2 r3 r4
  · rw [hF _ _ (by omega) (by omega), dRul_lo (by decide)]; exact g
  · rw [h0, e8, m0]
  · rw [h1, e8, m1]
  · rw [h2, e8, m2]
  · rw [dRul_lo (by decide)] at r2; rw [dRul_lo (by decide), dRul_lo (by decide), hF _ _ (by omega) (by omega), hF _ _ (by omega) (by omega)]; exact l b2 r1 r2
theorem ss_49 (eh : hs = 0 ∨ hs = 1) {a2 a3 k most : Int} (hX : cTx T n s I) (hw : 0 ≤ wd T n s) (hK : cKd D hs I) (hk : (k = 0 ∧ a2 = 1 ∧ a3 = 0 ∧ most = 99) ∨ (k = 1 ∧ a2 = 0 ∧ a3 = 0 ∧ most = 99) ∨ (k = 2 ∧ a2 = 0 ∧ a3 = 1 ∧ most = 100)) (hP0 : ∀ a q, pSet T n D (aWd T n s) k most = .inl (a, q) → ∀ I', cLf hs I I' → cBad a q I' → P 0 I' J) (hP1 : ∀ s' D', pSet T n D (aWd T n s) k most = .inr (s', D') → ∀ I', cLf hs I I' → cTx T n s' I' → cKd D' hs I' → P 1 I' J) : zb_W (d + 4) ax_m79 (49, [some (.inr (.inr (some 8))), some (.inr (.inr (some ((39 + 29 * hs))))), some (.inl a2), some (.inl a3)], [], zc_S hf pf I J) (zc_Qi hf pf P) := by
  have hwp := wd_pos hw
  unfold pSet at hP0 hP1
  refine zk_ShopReader_settingStatement_49 hf pf I J a2 a3 hs eh (sc_adv_W hX hwp.1 (fun I1 y1 X1 _ _ => ?_))
  have K1 := y1.K hK
  have bad : ∀ a q I2, pNum T n (aWd T n s) most = .inl (a, q) → cY I1 I2 → cBad a q I2 → P 0 I2 J := fun a q I2 e y2 b2 => by
    rw [e] at hP0
    exact hP0 a q rfl I2 (y1.Lf.trans y2.Lf) b2
  have good : ∀ s' v I2 cl fd, pNum T n (aWd T n s) most = .inr (s', v) → cY I1 I2 → cTx T n s' I2 → (k = 0 ∧ cl = 40 + 29 * hs ∧ fd = 5) ∨ (k = 1 ∧ cl = 39 + 29 * hs ∧ fd = 13) ∨ (k = 2 ∧ cl = 39 + 29 * hs ∧ fd = 14) → P 1 (ax_u I2 cl fd v) J := fun s' v I2 cl fd e y2 X2 hcl => by
    rw [e] at hP1
    refine hP1 s' (dRul D k v) rfl _ (y1.Lf.trans (y2.Lf.trans (fun i j a b c e f g l m => zu_ne (by omega)))) (X2.fr (fun i j q => zu_ne (by omega))) (cKd_rul (y2.K K1) (fun i j a b => zu_ne (by omega)) ?_ ?_ ?_)
    · rcases hcl with ⟨z1, z2, z3⟩ | ⟨z1, z2, z3⟩ | ⟨z1, z2, z3⟩
      · rw [z2, z3, zu_eq, if_pos z1]
      · rw [zu_ne (by omega), if_neg (by omega)]
      · rw [zu_ne (by omega), if_neg (by omega)]
    · rcases hcl with ⟨z1, z2, z3⟩ | ⟨z1, z2, z3⟩ | ⟨z1, z2, z3⟩
      · rw [zu_ne (by omega), if_neg (by omega)]
      · rw [z2, z3, zu_eq, if_pos z1]
      · rw [zu_ne (by omega), if_neg (by omega)]
    · rcases hcl with ⟨z1, z2, z3⟩ | ⟨z1, z2, z3⟩ | ⟨z1, z2, z3⟩
      · rw [zu_ne (by omega), if_neg (by omega)]
      · rw [zu_ne (by omega), if_neg (by omega)]
      · rw [z2, z3, zu_eq, if_pos z1]
  rcases hk with ⟨k1, k2, k3, k4⟩ | ⟨k1, k2, k3, k4⟩ | ⟨k1, k2, k3, k4⟩
  · subst k2 k3 k4
    exact b0 (sc_takeNumber X1 ⟨by decide, by decide⟩ (fun s' v e I2 y2 X2 e4 _ hv => b1 (b1 (zc_Qi.of (by rw [e4]; exact good s' v I2 _ _ e y2 X2 (Or.inl ⟨k1, rfl, rfl⟩))))) (fun a q e I2 y2 b2 => b0 (zc_Qi.of (bad a q I2 e y2 b2))))
  · subst k2 k3 k4
    exact b0 (sc_takeNumber X1 ⟨by decide, by decide⟩ (fun s' v e I2 y2 X2 e4 _ hv => b1 (b0 (b0 (zc_Qi.of (by rw [e4]; exact good s' v I2 _ _ e y2 X2 (Or.inr (Or.inl ⟨k1, rfl, rfl⟩))))))) (fun a q e I2 y2 b2 => b0 (zc_Qi.of (bad a q I2 e y2 b2))))
  · subst k2 k3 k4
    exact b1 (sc_takeNumber X1 ⟨by decide, by decide⟩ (fun s' v e I2 y2 X2 e4 _ hv => b1 (b0 (b1 (zc_Qi.of (by rw [e4]; exact good s' v I2 _ _ e y2 X2 (Or.inr (Or.inr ⟨k1, rfl, rfl⟩))))))) (fun a q e I2 y2 b2 => b0 (zc_Qi.of (bad a q I2 e y2 b2))))
end ZCSc
