/-! THE REFERENCE: boards and texts of a shop -/
section ZRBo
variable {d : Nat} {I J : zF} {T : Nat → Int} {n : Int} {s : zs} {D : zD} {pg : zG} {P : Int → zF → zF → Prop} {P0 : zF → zF → Prop} {Q : Option ax_v → ax_S → Prop}
theorem bt_139b {k q w h : Int} (hB : rBad k q I) (hP : Q none (zr_S I J)) : zb_W d ax_m197 (139, [some (.inr (.inr (some 0))), none, some (.inl w), some (.inl h), none], [], zr_S I J) Q := zq_boardTold_139 I J w h (e_no hB hP)
theorem bt_80b {k q w h i : Int} (hB : rBad k q I) (hP : Q none (zr_S I J)) : zb_W d ax_m197 (80, [some (.inr (.inr (some 0))), none, some (.inl w), some (.inl h), some (.inl i)], [], zr_S I J) Q := zq_boardTold_80 I J w h i (e_no hB (bt_139b hB hP))
theorem bt_80 {w h p : Int} (hL : rTx T n s I) (hR : dR D I) (ok : zD_ok D pg) (hw : 0 ≤ w ∧ w < D 3 0 0) (hh : 0 ≤ h ∧ h < 2) (h10 : I 0 10 = p) (hb : pf_canPaint D w h ≠ 1 → ∀ I', rY I I' → rBad 2 p I' → Q none (zr_S I' J)) (hg : pf_canPaint D w h = 1 → zb_W (d + 1) ax_m197 (139, [some (.inr (.inr (some 0))), none, some (.inl w), some (.inl h), none], [], zr_S I J) Q) : ∀ (m : Nat) (k : Int), 0 ≤ k → k + m = D 4 w 0 → (pf_can D w h m k = 1 → pf_canPaint D w h = 1) → (pf_can D w h m k ≠ 1 → pf_canPaint D w h ≠ 1) → zb_W (d + 1) ax_m197 (80, [some (.inr (.inr (some 0))), none, some (.inl w), some (.inl h), some (.inl k)], [], zr_S I J) Q := by
  have a3 := ok.a3 0 0
  have a4 := ok.a4 w 0
  have e4 := hR.2.2.2.1 w hw.1 hw.2
  intro m
  induction m with
  | zero =>
    intro k h0 hm h1 h2
    refine zq_boardTold_80 I J w h k (e_ok hL.e ?_)
    rw [zb_w (x := 7 * w) (by omega) (by omega), e4, zb_w (x := k) (by omega) (by omega), zb_w (x := D 4 w 0) (by omega) (by omega)]
    exact ⟨by omega, fun q => by omega, fun _ => hg (h1 rfl)⟩
  | succ m ih =>
    intro k h0 hm h1 h2
    have e5 := hR.2.2.2.2.1 w k hw.1 hw.2 h0 (by omega)
    have a5 := ok.a5 w k
    have a0 := ok.a0 h 0
    refine zq_boardTold_80 I J w h k (e_ok hL.e ?_)
    rw [zb_w (x := 7 * w) (by omega) (by omega), e4, zb_w (x := k) (by omega) (by omega), zb_w (x := D 4 w 0) (by omega) (by omega), zb_w (x := 7 * w + 1 + k) (by omega) (by omega), e5]
    have pa : n32 (pf_at D h (D 5 w k)) := by rcases pf_at_in ok h (D 5 w k) with z | ⟨z1, z2, _⟩ <;> exact ⟨by omega, by omega⟩
    unfold pf_can at h1 h2
    refine ⟨by omega, fun _ => ⟨by omega, sr_toldAt hR ok hh ⟨by omega, by omega⟩ (w_if pa ⟨by decide, by decide⟩ (fun c => sr_fail hL.e ⟨by decide, by decide⟩ (fun I1 y1 _ b1 => zq_boardTold_133 I1 J w h k (bt_80b b1 (hb (h2 ?_) I1 y1 ?_)))) (fun c => zq_boardTold_133 I J w h k (ih (k + 1) (by omega) (by omega) ?_ ?_)))⟩, fun q => absurd (show k < D 4 w 0 by omega) q⟩
    · rw [if_pos c]; decide
    · rw [h10] at b1; exact b1
    · rw [if_neg c] at h1; exact h1
    · rw [if_neg c] at h2; exact h2
theorem dR_brd {w h : Int} (hR : dR D I) (ok : zD_ok D pg) (hl : D 6 0 0 < 4) : dR (dBrd D w h) (ax_u (ax_u (ax_u I 35 (2 * D 6 0 0).toNat w) 35 (2 * D 6 0 0 + 1).toNat h) 0 47 (D 6 0 0 + 1)) := by
  have a6 := ok.a6 0 0
  obtain ⟨a, b, c, e, f, k, l, m⟩ := hR
  have e6 : dBrd D w h 6 0 0 = D 6 0 0 + 1 := if_pos rfl
  refine ⟨fun h2 r1 r2 => ?_, fun h2 k2 r1 r2 r3 r4 => ?_, ?_, fun w r1 r2 => ?_, fun w k r1 r2 r3 r4 => ?_, ?_, fun b2 r1 r2 => ?_, fun k r1 r2 => ?_⟩
  · rw [zu_ne (by omega), zu_ne (by omega), zu_ne (by omega), dBrd_lo (by decide) (by decide)]; exact a h2 r1 r2
  · rw [dBrd_lo (by decide) (by decide)] at r4
    rw [zu_ne (by omega), zu_ne (by omega), zu_ne (by omega), zu_ne (by omega), zu_ne (by omega), zu_ne (by omega), dBrd_lo (by decide) (by decide), dBrd_lo (by decide) (by decide)]; exact b h2 k2 r1 r2 r3 r4
  · rw [zu_ne (by omega), zu_ne (by omega), zu_ne (by omega), dBrd_lo (by decide) (by decide)]; exact c
  · rw [dBrd_lo (by decide) (by decide)] at r2 ⊢; rw [zu_ne (by omega), zu_ne (by omega), zu_ne (by omega)]; exact e w r1 r2
  · rw [dBrd_lo (by decide) (by decide)] at r2 r4 ⊢; rw [zu_ne (by omega), zu_ne (by omega), zu_ne (by omega)]; exact f w k r1 r2 r3 r4
  · rw [zu_eq, e6]
  · rw [e6] at r2
    by_cases q : b2 = D 6 0 0
    · rw [q, zu_ne (by omega), zu_ne (by omega), zu_eq, zu_ne (by omega), zu_eq]
      unfold dBrd
      rw [if_neg (by decide), if_pos ⟨rfl, rfl⟩, if_pos rfl, if_neg (by decide), if_pos ⟨rfl, rfl⟩, if_neg (by decide)]
      exact ⟨rfl, rfl⟩
    · rw [zu_ne (by omega), zu_ne (by omega), zu_ne (by omega), zu_ne (by omega), zu_ne (by omega), zu_ne (by omega)]
      unfold dBrd
      rw [if_neg (by decide), if_neg (by omega), if_neg (by decide), if_neg (by omega)]
      exact l b2 r1 (by omega)
  · rw [zu_ne (by omega), zu_ne (by omega), zu_ne (by omega), dBrd_lo (by decide) (by decide)]; exact m k r1 r2
theorem sr_boardTold {b : Int} (hL : rTx T n s I) (hR : dR D I) (ok : zD_ok D pg) (hP0 : ∀ k q, pBrd T n D s b = .inl (k, q) → ∀ I', rLf I I' → rBad k q I' → P0 I' J) (hP1 : ∀ s' D', pBrd T n D s b = .inr (s', D') → ∀ I', rLf I I' → rTx T n s' I' → dR D' I' → P0 I' J) : zr_v (d + 5) 197 [.inr (.inr (some 0)), .inl b] I J P0 := by
  have a6 := ok.a6 0 0
  have a3 := ok.a3 0 0
  have e47 : I 0 47 = D 6 0 0 := hR.2.2.2.2.2.1
  unfold pBrd at hP0 hP1
  refine zr_inv (M := ax_m197) rfl (Nat.le_of_ble_eq_true rfl) (zq_boardTold_0 I J b (e_ok hL.e ?_))
  rw [e47]
  refine w_if ⟨by omega, by omega⟩ ⟨by decide, by decide⟩ (fun c4 => sr_fail hL.e ⟨by decide, by decide⟩ (fun I1 y1 _ b1 => zq_boardTold_21 I1 J (e_no b1 (zr_Qv.of ?_)))) (fun c4 => zq_boardTold_21 I J (e_ok hL.e (sr_name hL ⟨by decide, by decide⟩ (fun k q e I1 y1 b1 => e_no b1 (zr_Qv.of ?_)) (fun s1 e I1 y1 t1 n1 n2 n3 => e_ok t1.e ?_))))
  · rw [if_pos c4] at hP0
    exact hP0 5 b rfl I1 y1.L b1
  · rw [if_neg c4, e] at hP0
    exact hP0 k q rfl I1 y1.L b1
  · rw [if_neg c4, e] at hP0 hP1
    have hP0' : ∀ k q, (if pFw T n D s = -1 then .inl (3, s.1) else if wd T n s1 = 2 then (match pNum T n (aWd T n s1) 1 with | .inl e => .inl e | .inr (s3, h) => if pf_canPaint D (pFw T n D s) h = 1 then .inr (s3, dBrd D (pFw T n D s) h) else .inl (2, (aWd T n s1).1)) else .inl (1, s1.1)) = (Sum.inl (k, q) : Sum (Int × Int) (zs × zD)) → ∀ I', rLf I I' → rBad k q I' → P0 I' J := hP0
    have hP1' : ∀ s' D', (if pFw T n D s = -1 then .inl (3, s.1) else if wd T n s1 = 2 then (match pNum T n (aWd T n s1) 1 with | .inl e => .inl e | .inr (s3, h) => if pf_canPaint D (pFw T n D s) h = 1 then .inr (s3, dBrd D (pFw T n D s) h) else .inl (2, (aWd T n s1).1)) else .inl (1, s1.1)) = (Sum.inr (s', D') : Sum (Int × Int) (zs × zD)) → ∀ I', rLf I I' → rTx T n s' I' → dR D' I' → P0 I' J := hP1
    obtain ⟨_, _, _, nm1, nm2⟩ := pName_i hL.ok e
    have R1 : dR D I1 := y1.R hR
    have hn : I1 0 40 = nmN T n s := n2
    have hs : ∀ k, 0 ≤ k → k < nmN T n s → I1 31 k.toNat = nmL T s k ∧ 1 ≤ nmL T s k ∧ nmL T s k ≤ 26 := fun k k0 k1 => ⟨n3 k k0 k1, nm2 k k0 k1⟩
    have pw := pFw_in (T := T) (n := n) (s := s) ok
    have b62 : ∀ {I2 : zF} {k q w : Int}, rBad k q I2 → P0 I2 J → zb_W (d + 4) ax_m197 (62, [some (.inr (.inr (some 0))), none, some (.inl w), none, none], [], zr_S I2 J) (zr_Qv P0) := fun {I2 k q w} hb hp => zq_boardTold_62 I2 J w (sr_asks_b (w := 4) (ks := 2) (by decide) hb (sr_number_b hb (bt_80b hb (zr_Qv.of hp))))
    refine sr_wordNamed R1 ok hn nm1 hs (w_if (x := pFw T n D s) ⟨by omega, by omega⟩ ⟨by decide, by decide⟩ (fun c => sr_fail t1.e ⟨by decide, by decide⟩ (fun I2 y2 _ b2 => b62 b2 ?_)) (fun c => ?_))
    · rw [if_pos c] at hP0'
      rw [n1] at b2
      exact hP0' 3 s.1 rfl I2 (y1.L.trans y2.L) b2
    · rw [if_neg c] at hP0' hP1'
      refine zq_boardTold_62 I1 J (pFw T n D s) (sr_asks (w := 4) (ks := 2) (by decide) t1 (fun ch I2 y2 t2 => ?_) (fun ch I2 y2 b2 => sr_number_b b2 (bt_80b b2 (zr_Qv.of ?_))))
      · have ch' : wd T n s1 = 2 := ch
        rw [if_pos ch'] at hP0' hP1'
        refine sr_number t2 ⟨by decide, by decide⟩ (fun k q e2 r I3 hr y3 b3 => bt_80b b3 (zr_Qv.of ?_)) (fun s3 h e2 I3 hv y3 t3 e10 => ?_)
        · rw [e2] at hP0'
          exact hP0' k q rfl I3 (y1.L.trans (y2.L.trans y3.L)) b3
        · rw [e2] at hP0' hP1'
          have hP0a : ∀ k q, (if pf_canPaint D (pFw T n D s) h = 1 then .inr (s3, dBrd D (pFw T n D s) h) else .inl (2, (aWd T n s1).1)) = (Sum.inl (k, q) : Sum (Int × Int) (zs × zD)) → ∀ I', rLf I I' → rBad k q I' → P0 I' J := hP0'
          have hP1a : ∀ s' D', (if pf_canPaint D (pFw T n D s) h = 1 then .inr (s3, dBrd D (pFw T n D s) h) else .inl (2, (aWd T n s1).1)) = (Sum.inr (s', D') : Sum (Int × Int) (zs × zD)) → ∀ I', rLf I I' → rTx T n s' I' → dR D' I' → P0 I' J := hP1'
          obtain ⟨_, _, _, v1⟩ := pNum_i t2.ok e2
          have hh : 0 ≤ h ∧ h < 2 := by omega
          have R3 : dR D I3 := y3.R (y2.R R1)
          have f3 : rLf I I3 := y1.L.trans (y2.L.trans y3.L)
          have a4 := ok.a4 (pFw T n D s) 0
          refine bt_80 (p := (aWd T n s1).1) t3 R3 ok (by omega) hh e10 (fun hc I4 y4 b4 => zr_Qv.of ?_) (fun hc => zq_boardTold_139 I3 J _ h (e_ok t3.e ?_)) (D 4 (pFw T n D s) 0).toNat 0 (by decide) (by omega) (fun z => z) (fun z => z)
          · rw [if_neg hc] at hP0a
            exact hP0a 2 _ rfl I4 (f3.trans y4.L) b4
          · rw [if_pos hc] at hP1a
            have e3 : I3 0 47 = D 6 0 0 := R3.2.2.2.2.2.1
            have e3a : (ax_u I3 35 (2 * D 6 0 0).toNat (pFw T n D s)) 0 47 = D 6 0 0 := by rw [zu_ne (by omega)]; exact e3
            have e3b : (ax_u (ax_u I3 35 (2 * D 6 0 0).toNat (pFw T n D s)) 35 (2 * D 6 0 0 + 1).toNat h) 0 47 = D 6 0 0 := by rw [zu_ne (by omega)]; exact e3a
            rw [e3, zb_w (x := 2 * D 6 0 0) (by omega) (by omega), e3a, zb_w (x := 2 * D 6 0 0 + 1) (by omega) (by omega), e3b]
            exact ⟨by omega, by omega, zr_Qv.of (hP1a s3 _ rfl _ (f3.trans (fun i j a b => by rw [zu_ne (by omega), zu_ne (by omega), zu_ne (by omega)])) (t3.dr (fun i j a b => by rw [zu_ne (by omega), zu_ne (by omega), zu_ne (by omega)])) (dR_brd R3 ok (by omega)))⟩
      · have ch' : ¬ wd T n s1 = 2 := ch
        rw [if_neg ch'] at hP0'
        exact hP0' 1 _ rfl I2 (y1.L.trans y2.L) b2
/-- what the texts of formulas write -/
def rCf (I I' : zF) : Prop := ∀ i j, ¬ (i = 0 ∧ (j = 2 ∨ j = 4 ∨ j = 5 ∨ j = 6 ∨ j = 10 ∨ j = 54 ∨ j = 56 ∨ j = 106 ∨ j = 108 ∨ j = 109 ∨ j = 110)) → i ≠ 75 → i ≠ 76 → ¬ (i = 37 ∧ j < 2) → ¬ (i = 38 ∧ j < 2) → ¬ (i = 39 ∧ j < 1600) → I' i j = I i j
theorem rCf.trans {I I' I2 : zF} (h : rCf I I') (h2 : rCf I' I2) : rCf I I2 := fun i j a b c e f g => (h2 i j a b c e f g).trans (h i j a b c e f g)
theorem rZ.C {I I' : zF} (h : rZ I I') : rCf I I' := fun i j a b c _ _ _ => h i j (by omega) b c
theorem ct_92 {w : Nat} (hw : w < 2) {I0 : zF} {out : List Int} {c0 : Int} (hc0 : 0 ≤ c0 ∧ c0 + out.length ≤ 1600) : ∀ (m k : Nat) (I : zF), k + m = out.length → (∀ i j, ¬ (i = 0 ∧ j = 54) → ¬ (i = 39 ∧ c0 ≤ (j : Nat) ∧ j < 1600) → I i j = I0 i j) → I0 0 106 = (out.length : Int) → (∀ j, j < out.length → I0 75 j = out.getD j 0) → I 0 54 = c0 + k → (∀ j, j < k → I 39 (c0.toNat + j) = out.getD j 0) → (∀ I', (∀ i j, ¬ (i = 0 ∧ j = 54) → ¬ (i = 38 ∧ j = w) → ¬ (i = 39 ∧ c0 ≤ (j : Nat) ∧ j < 1600) → I' i j = I0 i j) → I' 38 w = c0 + out.length → I' 0 54 = c0 + out.length → (∀ j, j < out.length → I' 39 (c0.toNat + j) = out.getD j 0) → Q none (zr_S I' J)) → zb_W d ax_m198 (92, [some (.inr (.inr (some 0))), some (.inl ((w : Int))), none, some (.inl ((k : Int)))], [], zr_S I J) Q := by
  intro m
  induction m with
  | zero =>
    intro k I hm hF h106 h75 h54 hd hQ
    have e106 : I 0 106 = (out.length : Int) := by rw [hF 0 106 (by omega) (by omega)]; exact h106
    refine zq_codesTold_92 I J (w : Int) (k : Int) ?_
    rw [e106, h54, zb_w (x := (k : Int)) (by omega) (by omega), zb_w (x := (out.length : Int)) (by omega) (by omega), zb_w (x := (w : Int)) (by omega) (by omega), show ((w : Int)).toNat = w by omega]
    refine ⟨fun q => by omega, fun _ => ⟨by omega, hQ _ (fun i j a b c => by rw [zu_ne (by omega)]; exact hF i j a c) (by rw [zu_eq]; omega) (by rw [zu_ne (by omega), h54]; omega) (fun j j1 => by rw [zu_ne (by omega)]; exact hd j (by omega))⟩⟩
  | succ m ih =>
    intro k I hm hF h106 h75 h54 hd hQ
    have e106 : I 0 106 = (out.length : Int) := by rw [hF 0 106 (by omega) (by omega)]; exact h106
    have e75 : I 75 k = out.getD k 0 := by rw [hF 75 k (by omega) (by omega)]; exact h75 k (by omega)
    refine zq_codesTold_92 I J (w : Int) (k : Int) ?_
    have e54 : (ax_u I 39 (ax_w (I 0 54)).toNat (I 75 (ax_w (k : Int)).toNat)) 0 54 = c0 + k := by rw [zu_ne (by omega)]; exact h54
    rw [e106, e54, h54, zb_w (x := (k : Int)) (by omega) (by omega), zb_w (x := (out.length : Int)) (by omega) (by omega), zb_w (x := c0 + (k : Int)) (by omega) (by omega), show ((k : Int)).toNat = k by omega, e75]
    refine ⟨fun _ => ⟨by omega, by omega, ?_⟩, fun q => absurd (show (k : Int) < out.length by omega) q⟩
    have := ih (k + 1) (ax_u (ax_u I 39 (c0 + (k : Int)).toNat (out.getD k 0)) 0 54 (c0 + (k : Int) + 1)) (by omega) (fun i j a b => by rw [zu_ne (by omega), zu_ne (by omega)]; exact hF i j a b) h106 h75 (by rw [zu_eq]; omega) (fun j j1 => ?_) hQ
    · rw [show ((k + 1 : Nat) : Int) = (k : Int) + 1 by omega] at this
      exact this
    · by_cases c : j = k
      · rw [c, zu_ne (by omega), show c0.toNat + k = (c0 + (k : Int)).toNat by omega, zu_eq]
      · rw [zu_ne (by omega), zu_ne (by omega)]; exact hd j (by omega)
theorem ct_72 {w : Nat} (hw : w < 2) {out : List Int} {c0 dep base kk : Int} {F : List Int} (hc0 : 0 ≤ c0 ∧ c0 + out.length ≤ 1600) (h5 : I 0 5 = 0) (h54 : I 0 54 = c0) (hQ : rQ out F dep base kk I) (hP : ∀ I', (∀ i j, ¬ (i = 0 ∧ j = 54) → ¬ (i = 37 ∧ j = w) → ¬ (i = 38 ∧ j = w) → ¬ (i = 39 ∧ c0 ≤ (j : Nat) ∧ j < 1600) → I' i j = I i j) → I' 37 w = c0 → I' 38 w = c0 + out.length → I' 0 54 = c0 + out.length → (∀ j, j < out.length → I' 39 (c0.toNat + j) = out.getD j 0) → Q none (zr_S I' J)) : zb_W d ax_m198 (72, [some (.inr (.inr (some 0))), some (.inl ((w : Int))), none, none], [], zr_S I J) Q := by
  refine zq_codesTold_72 I J (w : Int) (e_ok h5 ?_)
  rw [h54, zb_w (x := (w : Int)) (by omega) (by omega), show ((w : Int)).toNat = w by omega]
  refine ⟨by omega, ct_92 hw (I0 := ax_u I 37 w c0) hc0 out.length 0 _ (by omega) (fun _ _ _ _ => rfl) (by rw [zu_ne (by omega)]; exact hQ.1) (fun j j1 => by rw [zu_ne (by omega)]; exact hQ.2.1 j j1) (by rw [zu_ne (by omega), h54]; omega) (fun j j1 => by omega) (fun I' f1 f2 f3 f4 => hP I' (fun i j a b c e => by rw [f1 i j a c e, zu_ne (by omega)]) (by rw [f1 37 w (by omega) (by omega) (by omega), zu_eq]) f2 f3 f4)⟩
end ZRBo
