/-! A line is laid: more of what stays (printed by gen99r.py) -/
def rX2 (I J I' J' : zF) : Prop := (∀ i j, i ≠ 40 → ¬ (44 ≤ i ∧ i ≤ 49 ∧ i ≠ 47) → ¬ (i = 0 ∧ (j = 56 ∨ (59 ≤ j ∧ j ≤ 65) ∨ j = 74 ∨ j = 112)) → I' i j = I i j) ∧ J' 0 = J 0
theorem rX2.refl (I J : zF) : rX2 I J I J := ⟨fun _ _ _ _ _ => rfl, rfl⟩
theorem rX2.trans {I J I' J' I2 J2 : zF} (h : rX2 I J I' J') (h2 : rX2 I' J' I2 J2) : rX2 I J I2 J2 := ⟨fun i j a b c => (h2.1 i j a b c).trans (h.1 i j a b c), h2.2.trans h.2⟩
theorem rX2.X {I J I' J' : zF} (h : rX2 I J I' J') : rX I J I' J' := ⟨fun i j a b c => h.1 i j a (by omega) (by omega), congrFun h.2 80⟩
theorem rX2.rS {D : zD} {pg : zG} {I J I' J' : zF} (h : rX2 I J I' J') (hS : rS D pg I) : rS D pg I' := h.X.rS hS
def rT2 (k : Int) (I J I' J' : zF) : Prop := (∀ i j, ¬ (i = 0 ∧ (j = 56 ∨ (59 ≤ j ∧ j ≤ 65) ∨ j = 112)) → ¬ ((44 ≤ i ∧ i ≤ 46) ∧ j = k.toNat) → I' i j = I i j) ∧ J' 0 = J 0
theorem rT2.refl (k : Int) (I J : zF) : rT2 k I J I J := ⟨fun _ _ _ _ => rfl, rfl⟩
theorem rT2.trans {k : Int} {I J I' J' I2 J2 : zF} (h : rT2 k I J I' J') (h2 : rT2 k I' J' I2 J2) : rT2 k I J I2 J2 := ⟨fun i j a b => (h2.1 i j a b).trans (h.1 i j a b), h2.2.trans h.2⟩
theorem rE.rT2 {I J I' J' : zF} (k : Int) (h : rE I J I' J') : rT2 k I J I' J' := ⟨fun i j a _ => h.1 i j (by omega), funext (fun j => h.2 0 j (by decide))⟩
theorem rT2.rX2 {k : Int} {I J I' J' : zF} (h : rT2 k I J I' J') : rX2 I J I' J' := ⟨fun i j _ a b => h.1 i j (by omega) (by omega), h.2⟩
theorem rV.rX2 {I I' J : zF} (h : rV I I') : rX2 I J I' J := ⟨fun i j _ a b => h i j (by omega) (by omega) (by omega), rfl⟩
theorem rT2.tk {I J I' J' : zF} {k : Int} (h : rT2 k I J I' J') {k2 : Int} {T : zT} (hk : k2.toNat ≠ k.toNat) (ht : tOk I k2 T) : tOk I' k2 T := by
  unfold tOk at *
  rw [h.1 44 _ (by omega) (by omega), h.1 45 _ (by omega) (by omega), h.1 46 _ (by omega) (by omega)]
  exact ht
section ZRBs
variable {d : Nat} {I J : zF} {D : zD} {pg : zG} {W : zD} {P : Int → zF → zF → Prop} {P0 : zF → zF → Prop}
theorem sr_linePuts_83_s {I0 J0 : zF} (hS0 : rS D pg I0) {h k x y a t : Int} {N1 N2 N3 : zT} (hh : 0 ≤ h ∧ h < 2) (hx : x = -1 ∨ (0 ≤ x ∧ x < D 0 h 0)) (hy : y = -1 ∨ (0 ≤ y ∧ y < D 0 h 0)) (ha : g15 a) (ht : g15 t) (hk : 0 ≤ k ∧ k ≤ 48) (h1 : x ≠ -1 → y ≠ -1 → k + 8 ≤ 48 ∧ tOk I0 (k + 8) N1) (h2 : x ≠ -1 → k + 7 ≤ 48 ∧ tOk I0 (k + 7) N2) (h3 : y ≠ -1 → k + 1 ≤ 48 ∧ tOk I0 (k + 1) N3) (b1 : zTb 12 N1) (b2 : zTb 12 N2) (b3 : zTb 12 N3) {Q : Option ax_v → ax_S → Prop} : ∀ (n : Nat) (b : Int) (c : zT) (I J : zF), rT2 k I0 J0 I J → cRel I k c → 0 ≤ b → b + n = 6 → zTb 13 c → (∀ I' J', rT2 k I0 J0 I' J' → cRel I' k (pf_cs D pg h x y a t N1 N2 N3 n b c) → Q none (zr_S I' J')) → zb_W (d + 6) ax_m254 (83, [some (.inr (.inr (some 0))), none, none, some (.inl h), none, none, some (.inl k), some (.inl x), some (.inl y), some (.inl a), some (.inl t), some (.inl b), none, none, none, none, none], [], zr_S I J) Q := by
  have h8 := hS0.ok.a8 1 0
  have h0d := hS0.ok.a0 h 0
  intro n
  induction n with
  | zero =>
    intro b c I J hT hc h0 he hcb hQ
    refine zq_linePuts_83 I J h k x y a t b ?_
    rw [zb_w (x := b) (by omega) (by omega)]
    exact ⟨fun q => absurd (show b < 6 from q) (by omega), fun _ => hQ I J hT hc⟩
  | succ n ih =>
    intro b c I J hT hc h0 he hcb hQ
    have hS := hT.rX2.rS hS0
    have hg := pf_gby_15 (b := b) ha ht
    have hbits := pf_bits_15 hg
    have hnn := pf_nn_in hS0.ok h x y a t b
    unfold pf_cs at hQ
    have hcb' := pf_st_b (D := D) (pg := pg) hS0.ok (h := h) (x := x) (y := y) (b := b) (B := 12) ha ht (by omega) b1 b2 b3 hcb
    -- it goes on with the same cell
    have skip : ∀ I1 J1, rT2 k I0 J0 I1 J1 → cRel I1 k c → pf_st D pg h x y a t N1 N2 N3 b c = c → zb_W (d + 6) ax_m254 (303, [some (.inr (.inr (some 0))), none, none, some (.inl h), none, none, some (.inl k), some (.inl x), some (.inl y), some (.inl a), some (.inl t), some (.inl b), none, none, none, none, none], [], zr_S I1 J1) Q := by
      intro I1 J1 hT1 hc1 e
      rw [e] at hQ
      exact zq_linePuts_303 I1 J1 h k x y a t b (ih (b + 1) c I1 J1 hT1 hc1 (by omega) (by omega) hcb hQ)
    have put : ∀ I1 J1 dv iv, rT2 k I0 J0 I1 J1 → pf_st D pg h x y a t N1 N2 N3 b c = (dv, iv, b, pf_gby b a t) → zb_W (d + 6) ax_m254 (276, [some (.inr (.inr (some 0))), none, none, some (.inl h), none, none, some (.inl k), some (.inl x), some (.inl y), some (.inl a), some (.inl t), some (.inl b), none, none, none, some (.inl dv), some (.inl iv)], [], zr_S I1 J1) Q := by
      intro I1 J1 dv iv hT1 e
      rw [e] at hQ hcb'
      refine zq_linePuts_276 I1 J1 h k x y a t b dv iv ?_
      rw [zb_w (x := k) (by omega) (by omega)]
      refine ⟨by omega, by omega, by omega, zq_linePuts_303 _ _ h k x y a t b (ih (b + 1) _ _ J1 ?_ ?_ (by omega) (by omega) hcb' hQ)⟩
      · refine hT1.trans ⟨fun i j q1 q2 => ?_, rfl⟩
        rw [zu_ne (by omega), zu_ne (by omega), zu_ne (by omega)]
      · refine ⟨?_, fun _ => ⟨?_, ?_⟩⟩
        · rw [zu_ne (by omega), zu_ne (by omega), zu_eq]
        · rw [zu_ne (by omega), zu_eq]
        · rw [zu_eq]
    have tail : ∀ (nv to : Int) (N : zT) (I1 J1 : zF), rT2 k I0 J0 I1 J1 → cRel I1 k c → ¬ ((b ≠ 5 ∧ x = -1) ∨ (b ≠ 4 ∧ y = -1)) → pf_nn D pg h x y a t b = nv → nv ≠ -1 → pf_tt b N1 N2 N3 = N → 0 ≤ to ∧ to ≤ 48 → to ≠ k → tOk I0 to N → zTb 12 N → ((0 : Int) ≤ ax_w to ∧ ax_w to < ((49 : Nat) : Int)) ∧ zr_i (d + 6) 220 [.inl (pf_gby b a t)] I1 J1 (fun r15 I12 J13 => ((0 : Int) ≤ ax_w to ∧ ax_w to < ((49 : Nat) : Int)) ∧ ((0 : Int) ≤ ax_w k ∧ ax_w k < ((49 : Nat) : Int)) ∧ ((ax_w (I12 46 (ax_w k).toNat) = ax_w (-1) → zb_W (d + 6) ax_m254 (276, [some (.inr (.inr (some 0))), none, none, some (.inl h), none, none, some (.inl k), some (.inl x), some (.inl y), some (.inl a), some (.inl t), some (.inl b), none, none, none, some (.inl (nv + (I1 44 (ax_w to).toNat))), some (.inl (r15 + (I12 45 (ax_w to).toNat)))], [], zr_S I12 J13) Q) ∧ (¬ ax_w (I12 46 (ax_w k).toNat) = ax_w (-1) → ((0 : Int) ≤ ax_w k ∧ ax_w k < ((49 : Nat) : Int)) ∧ ((ax_w (I12 44 (ax_w k).toNat) < ax_w (nv + (I1 44 (ax_w to).toNat)) → zb_W (d + 6) ax_m254 (303, [some (.inr (.inr (some 0))), none, none, some (.inl h), none, none, some (.inl k), some (.inl x), some (.inl y), some (.inl a), some (.inl t), some (.inl b), none, none, none, none, none], [], zr_S I12 J13) Q) ∧ (¬ ax_w (I12 44 (ax_w k).toNat) < ax_w (nv + (I1 44 (ax_w to).toNat)) → ((0 : Int) ≤ ax_w k ∧ ax_w k < ((49 : Nat) : Int)) ∧ ((ax_w (nv + (I1 44 (ax_w to).toNat)) = ax_w (I12 44 (ax_w k).toNat) → ((0 : Int) ≤ ax_w k ∧ ax_w k < ((49 : Nat) : Int)) ∧ ((ax_w (r15 + (I12 45 (ax_w to).toNat)) < ax_w (I12 45 (ax_w k).toNat) → zb_W (d + 6) ax_m254 (276, [some (.inr (.inr (some 0))), none, none, some (.inl h), none, none, some (.inl k), some (.inl x), some (.inl y), some (.inl a), some (.inl t), some (.inl b), none, none, none, some (.inl (nv + (I1 44 (ax_w to).toNat))), some (.inl (r15 + (I12 45 (ax_w to).toNat)))], [], zr_S I12 J13) Q) ∧ (¬ ax_w (r15 + (I12 45 (ax_w to).toNat)) < ax_w (I12 45 (ax_w k).toNat) → zb_W (d + 6) ax_m254 (303, [some (.inr (.inr (some 0))), none, none, some (.inl h), none, none, some (.inl k), some (.inl x), some (.inl y), some (.inl a), some (.inl t), some (.inl b), none, none, none, none, none], [], zr_S I12 J13) Q))) ∧ (¬ ax_w (nv + (I1 44 (ax_w to).toNat)) = ax_w (I12 44 (ax_w k).toNat) → zb_W (d + 6) ax_m254 (276, [some (.inr (.inr (some 0))), none, none, some (.inl h), none, none, some (.inl k), some (.inl x), some (.inl y), some (.inl a), some (.inl t), some (.inl b), none, none, none, some (.inl (nv + (I1 44 (ax_w to).toNat))), some (.inl (r15 + (I12 45 (ax_w to).toNat)))], [], zr_S I12 J13) Q))))))) := by
      intro nv to N I1 J1 hT1 hc1 hs hn hne htt hto htk htN hN
      have htN1 := hT1.tk (k2 := to) (by omega) htN
      obtain ⟨n1, n2, n3⟩ := htN1
      obtain ⟨c1, c2⟩ := hc1
      have u1 := hN.1
      have u2 := hN.2.1
      have v1 := hcb.1
      have v2 := hcb.2.1
      have v3 := hcb.2.2.1
      rw [zb_w (x := to) (by omega) (by omega), zb_w (x := k) (by omega) (by omega)]
      refine ⟨by omega, sr_bits hg ⟨by omega, by omega, ?_⟩⟩
      rw [n1, n2, c1]
      have est : pf_st D pg h x y a t N1 N2 N3 b c = pf_of c (nv + N.1) (pf_bits (pf_gby b a t) + N.2.1) b (pf_gby b a t) := by
        unfold pf_st
        rw [if_neg (by rw [hn]; omega), hn, htt]
      simp (disch := omega) only [zb_w]
      refine ⟨fun e => put I1 J1 _ _ hT1 ?_, fun e => ⟨by omega, ?_⟩⟩
      · rw [est]; unfold pf_of; rw [if_pos (Or.inl e)]
      · obtain ⟨d1, d2⟩ := c2 e
        rw [d1, d2]
        simp (disch := omega) only [zb_w]
        refine ⟨fun e2 => skip I1 J1 hT1 ⟨c1, c2⟩ ?_, fun e2 => ⟨by omega, fun e3 => ⟨by omega, fun e4 => put I1 J1 _ _ hT1 ?_, fun e4 => skip I1 J1 hT1 ⟨c1, c2⟩ ?_⟩, fun e3 => put I1 J1 _ _ hT1 ?_⟩⟩
        · rw [est]; unfold pf_of; rw [if_neg (by omega)]
        · rw [est]; unfold pf_of; rw [if_pos (Or.inr (Or.inr ⟨e3, e4⟩))]
        · rw [est]; unfold pf_of; rw [if_neg (by omega)]
        · rw [est]; unfold pf_of; rw [if_pos (Or.inr (Or.inl (by omega)))]
    have go : ¬ ((b ≠ 5 ∧ x = -1) ∨ (b ≠ 4 ∧ y = -1)) → zb_W (d + 6) ax_m254 (117, [some (.inr (.inr (some 0))), none, none, some (.inl h), none, none, some (.inl k), some (.inl x), some (.inl y), some (.inl a), some (.inl t), some (.inl b), none, none, none, none, none], [], zr_S I J) Q := by
      intro hs
      refine zq_linePuts_117 I J h k x y a t b (sr_glyphBy (by omega) ?_)
      rw [zb_w (x := b) (by omega) (by omega)]
      by_cases e : b < 4
      · have hxy : x ≠ -1 ∧ y ≠ -1 := by omega
        have en : pf_nn D pg h x y a t b = pf_bd D pg h x y (pf_gby b a t) := by unfold pf_nn; rw [if_pos e]
        have et : pf_tt b N1 N2 N3 = N1 := by unfold pf_tt; rw [if_pos e]
        refine ⟨fun _ => sr_bothDoubt hS hh (by omega) (by omega) hg (fun I2 J2 hE2 => ?_), fun q => absurd (show b < 4 from e) q⟩
        rw [en] at hnn
        have hT2 := hT.trans (hE2.rT2 k)
        rw [zb_w (x := pf_bd D pg h x y (pf_gby b a t)) (by omega) (by omega)]
        refine ⟨fun q => skip I2 J2 hT2 (hE2.cr hc) ?_, fun q => ⟨fun _ => ?_, fun r => absurd (show b < 4 from e) r⟩⟩
        · have q' : pf_bd D pg h x y (pf_gby b a t) = -1 := q
          unfold pf_st
          rw [if_pos (by rw [en]; exact Or.inr (Or.inr q'))]
        · exact tail _ (k + 8) N1 I2 J2 hT2 (hE2.cr hc) hs en q et (by have := (h1 hxy.1 hxy.2).1; omega) (by omega) (h1 hxy.1 hxy.2).2 b1
      · have en : pf_nn D pg h x y a t b = D 8 1 0 := by unfold pf_nn; rw [if_neg e]
        refine ⟨fun q => absurd (show b < 4 from q) e, fun _ => ?_⟩
        have hp0 : ¬ dE D := ndE hh (by omega)
        rw [show (ax_w 4).toNat = 4 from rfl, (hS.rl hp0).2, zb_w (x := D 8 1 0) (by omega) (by omega)]
        refine ⟨fun q => absurd (show D 8 1 0 = -1 from q) (by omega), fun _ => ⟨fun q => absurd (show b < 4 from q) e, fun _ => ⟨fun q => ?_, fun q => ?_⟩⟩⟩
        · have q' : b = 4 := q
          have et : pf_tt b N1 N2 N3 = N2 := by unfold pf_tt; rw [if_neg e, if_pos q']
          have hx1 : x ≠ -1 := by omega
          have := tail _ (k + 7) N2 I J hT hc hs en (by omega) et (by have := (h2 hx1).1; omega) (by omega) (h2 hx1).2 b2
          rw [← (hS.rl hp0).2] at this ⊢
          exact this
        · have q' : b = 5 := by have : b ≠ 4 := q; omega
          have et : pf_tt b N1 N2 N3 = N3 := by unfold pf_tt; rw [if_neg e, if_neg (by omega)]
          have hy1 : y ≠ -1 := by omega
          have := tail _ (k + 1) N3 I J hT hc hs en (by omega) et (by have := (h3 hy1).1; omega) (by omega) (h3 hy1).2 b3
          rw [← (hS.rl hp0).2] at this ⊢
          exact this
    have mid : ¬ (b ≠ 5 ∧ x = -1) → zb_W (d + 6) ax_m254 (102, [some (.inr (.inr (some 0))), none, none, some (.inl h), none, none, some (.inl k), some (.inl x), some (.inl y), some (.inl a), some (.inl t), some (.inl b), none, none, none, none, none], [], zr_S I J) Q := by
      intro hs
      refine zq_linePuts_102 I J h k x y a t b ?_
      rw [zb_w (x := b) (by omega) (by omega), zb_w (x := y) (by omega) (by omega)]
      refine ⟨fun q => go (by have q' : b = 4 := q; omega), fun q => ⟨fun q2 => skip I J hT hc ?_, fun q2 => go ?_⟩⟩
      · have q' : b ≠ 4 := q
        have q2' : y = -1 := q2
        unfold pf_st
        rw [if_pos (Or.inr (Or.inl ⟨q', q2'⟩))]
      · have q2' : y ≠ -1 := q2
        omega
    refine zq_linePuts_83 I J h k x y a t b ?_
    rw [zb_w (x := b) (by omega) (by omega), zb_w (x := x) (by omega) (by omega)]
    refine ⟨fun _ => ⟨fun q => mid (by have q' : b = 5 := q; omega), fun q => ⟨fun q2 => skip I J hT hc ?_, fun q2 => mid ?_⟩⟩, fun q => absurd (show b < 6 by omega) q⟩
    · have q' : b ≠ 5 := q
      have q2' : x = -1 := q2
      unfold pf_st
      rw [if_pos (Or.inl ⟨q', q2'⟩)]
    · have q2' : x ≠ -1 := q2
      omega
theorem sr_linePuts_s (hS : rS D pg I) {o t h i j : Int} (hh : 0 ≤ h ∧ h < 2) (ho : 0 ≤ o ∧ o < D 3 0 0) (ht : 0 ≤ t ∧ t < D 3 0 0) (co : pf_canPaint D o h = 1) (ct : pf_canPaint D t h = 1) (hi : 0 ≤ i ∧ i ≤ D 4 o 0) (hj : 0 ≤ j ∧ j ≤ D 4 t 0) (hne : i < D 4 o 0 ∨ j < D 4 t 0) (hA : tAll D pg o t h I i j) (hP : ∀ I' J', rT2 (7 * i + j) I J I' J' → tOk I' (7 * i + j) (pf_L D pg o t h i j) → P0 I' J') : zr_v (d + 7) 254 [.inr (.inr (some 0)), .inl o, .inl t, .inl h, .inl i, .inl j] I J P0 := by
  have m4 := hS.ok.a4 o 0
  have n4 := hS.ok.a4 t 0
  have h0d := hS.ok.a0 h 0
  have hx := lx_in hS.ok o h i
  have hy := ly_in hS.ok t h j
  have hgx := gx_15 hS.ok o h i
  have hgy := gy_15 (D := D) t h j
  have key : zb_W (d + 6) ax_m254 (83, [some (.inr (.inr (some 0))), none, none, some (.inl h), none, none, some (.inl (7 * i + j)), some (.inl (lx D o h i)), some (.inl (ly D t h j)), some (.inl (gx D o h i)), some (.inl (gy D t h j)), some (.inl 0), none, none, none, none, none], [], zr_S (ax_u I 46 (7 * i + j).toNat (-1)) J) (zr_Qv P0) := by
    have e0 : ∀ k2 : Int, k2.toNat ≠ (7 * i + j).toNat → ∀ T, tOk I k2 T → tOk (ax_u I 46 (7 * i + j).toNat (-1)) k2 T := by
      intro k2 q T hT
      unfold tOk at *
      rw [zu_ne (by omega), zu_ne (by omega), zu_ne (by omega)]
      exact hT
    have hX : rX2 I J (ax_u I 46 (7 * i + j).toNat (-1)) J := ⟨fun a b _ _ _ => zu_ne (by omega), rfl⟩
    refine sr_linePuts_83_s (I0 := ax_u I 46 (7 * i + j).toNat (-1)) (J0 := J) (hX.rS hS) (N1 := pf_L D pg o t h (i + 1) (j + 1)) (N2 := pf_L D pg o t h (i + 1) j) (N3 := pf_L D pg o t h i (j + 1)) hh hx hy hgx hgy (by omega) (fun q1 q2 => ?_) (fun q1 => ?_) (fun q2 => ?_) (pf_L_b hS.ok _ _ _ _ _ (by omega) (by omega)) (pf_L_b hS.ok _ _ _ _ _ (by omega) (by omega)) (pf_L_b hS.ok _ _ _ _ _ (by omega) (by omega)) 6 0 z0 _ J (rT2.refl _ _ _) ⟨zu_eq, fun q => absurd rfl q⟩ (by decide) (by decide) (z0_b (by decide)) (fun I' J' hT hc => zr_Qv.of (hP I' J' (rT2.trans ⟨fun a b _ _ => zu_ne (by omega), rfl⟩ hT) ?_))
    · have l1 : i < D 4 o 0 := by
        by_cases e : i < D 4 o 0
        · exact e
        · exact absurd (lx_m (by omega)) q1
      have l2 : j < D 4 t 0 := by
        by_cases e : j < D 4 t 0
        · exact e
        · exact absurd (ly_m (by omega)) q2
      refine ⟨by omega, ?_⟩
      rw [show 7 * i + j + 8 = 7 * (i + 1) + (j + 1) by omega]
      exact e0 _ (by omega) _ (hA _ _ (by omega) (by omega) (by omega) (by omega) (by omega))
    · have l1 : i < D 4 o 0 := by
        by_cases e : i < D 4 o 0
        · exact e
        · exact absurd (lx_m (by omega)) q1
      refine ⟨by omega, ?_⟩
      rw [show 7 * i + j + 7 = 7 * (i + 1) + j by omega]
      exact e0 _ (by omega) _ (hA _ _ (by omega) (by omega) (by omega) (by omega) (by omega))
    · have l2 : j < D 4 t 0 := by
        by_cases e : j < D 4 t 0
        · exact e
        · exact absurd (ly_m (by omega)) q2
      refine ⟨by omega, ?_⟩
      rw [show 7 * i + j + 1 = 7 * i + (j + 1) by omega]
      exact e0 _ (by omega) _ (hA _ _ (by omega) (by omega) (by omega) (by omega) (by omega))
    · have eL := pf_L_eq (D := D) (pg := pg) (o := o) (t := t) (h := h) hi.2 hj.2 hne
      have hcc := pf_L_c hS.ok co ct hi hj hne
      rw [eL] at hcc ⊢
      unfold pf_ce at hcc ⊢
      obtain ⟨c1, c2⟩ := hc
      obtain ⟨c3, c4⟩ := c2 (by omega)
      exact ⟨c3, c4, c1⟩
  refine zr_inv (M := ax_m254) rfl (Nat.le_of_ble_eq_true rfl) (zq_linePuts_0 I J o t h i j (sr_oneAt hS ho hh (by omega) (sr_otherAt hS ht hh (by omega) ?_)))
  rw [zb_w (x := lx D o h i) (by omega) (by omega), zb_w (x := ly D t h j) (by omega) (by omega), zb_w (x := 7 * i + j) (by omega) (by omega)]
  have ge : ∀ q : lx D o h i = -1, gx D o h i = 0 := fun q => by unfold gx; rw [if_pos q]
  have gn : ∀ q : ¬ lx D o h i = -1, gx D o h i = D 2 h (lx D o h i) := fun q => by unfold gx; rw [if_neg q]
  have he : ∀ q : ly D t h j = -1, gy D t h j = 0 := fun q => by unfold gy; rw [if_pos q]
  have hn : ∀ q : ¬ ly D t h j = -1, gy D t h j = pf_seen (D 2 h (ly D t h j)) 1 := fun q => by unfold gy; rw [if_neg q]
  refine ⟨fun q1 => ⟨fun q2 => ⟨by omega, ?_⟩, fun q2 => sr_glyphOf hS hh (by have : ¬ ly D t h j = -1 := q2; omega) (sr_seenBy (hS.ok.a2 _ _) ⟨by decide, by decide⟩ ⟨by omega, ?_⟩)⟩, fun q1 => sr_glyphOf hS hh (by have : ¬ lx D o h i = -1 := q1; omega) ⟨fun q2 => ⟨by omega, ?_⟩, fun q2 => sr_glyphOf hS hh (by have : ¬ ly D t h j = -1 := q2; omega) (sr_seenBy (hS.ok.a2 _ _) ⟨by decide, by decide⟩ ⟨by omega, ?_⟩)⟩⟩
  · rw [ge q1, he q2] at key; exact key
  · rw [ge q1, hn q2] at key; exact key
  · rw [gn q1, he q2] at key; exact key
  · rw [gn q1, hn q2] at key; exact key
theorem sr_lay_58_s {I0 J0 : zF} (hS0 : rS D pg I0) {o t h i : Int} (hh : 0 ≤ h ∧ h < 2) (ho : 0 ≤ o ∧ o < D 3 0 0) (ht : 0 ≤ t ∧ t < D 3 0 0) (co : pf_canPaint D o h = 1) (ct : pf_canPaint D t h = 1) (hi : 0 ≤ i ∧ i ≤ D 4 o 0) {Q : Option ax_v → ax_S → Prop} : ∀ (n : Nat) (j : Int) (I J : zF), rX2 I0 J0 I J → I 40 = I0 40 → I 0 74 = I0 0 74 → tAll D pg o t h I i j → -1 ≤ j → j + 1 = n → j ≤ D 4 t 0 → (∀ I' J', rX2 I0 J0 I' J' → I' 40 = I0 40 → I' 0 74 = I0 0 74 → tAll D pg o t h I' (i - 1) (D 4 t 0) → zb_W (d + 7) ax_m255 (49, [some (.inr (.inr (some 0))), some (.inl o), some (.inl t), some (.inl h), some (.inl (D 4 o 0)), some (.inl (D 4 t 0)), some (.inl (i + (-1))), none, none, none, none], [], zr_S I' J') Q) → zb_W (d + 7) ax_m255 (58, [some (.inr (.inr (some 0))), some (.inl o), some (.inl t), some (.inl h), some (.inl (D 4 o 0)), some (.inl (D 4 t 0)), some (.inl i), some (.inl j), none, none, none], [], zr_S I J) Q := by
  have m4 := hS0.ok.a4 o 0
  have n4 := hS0.ok.a4 t 0
  intro n
  induction n with
  | zero =>
    intro j I J hF h40 h74 hA h0 he hj hQ
    refine zq_laysLine_58 I J o t h _ _ i j ?_
    simp (disch := omega) only [zb_w]
    refine ⟨fun _ => hQ I J hF h40 h74 (fun a c q1 q2 q3 q4 q5 => hA a c q1 q2 q3 q4 (by omega)), fun q => by omega⟩
  | succ n ih =>
    intro j I J hF h40 h74 hA h0 he hj hQ
    have hS := hF.rS hS0
    have nxt : ∀ I1 J1, rX2 I J I1 J1 → I1 40 = I 40 → I1 0 74 = I 0 74 → (∀ k2 : Int, k2.toNat ≠ (7 * i + j).toNat → ∀ T, tOk I k2 T → tOk I1 k2 T) → tOk I1 (7 * i + j) (pf_L D pg o t h i j) → zb_W (d + 7) ax_m255 (133, [some (.inr (.inr (some 0))), some (.inl o), some (.inl t), some (.inl h), some (.inl (D 4 o 0)), some (.inl (D 4 t 0)), some (.inl i), some (.inl j), none, none, none], [], zr_S I1 J1) Q := by
      intro I1 J1 hF1 h401 h741 hk hT
      refine zq_laysLine_133 I1 J1 o t h _ _ i j (ih (j + (-1)) I1 J1 (hF.trans hF1) (h401.trans h40) (h741.trans h74) (fun a c q1 q2 q3 q4 q5 => ?_) (by omega) (by omega) (by omega) hQ)
      by_cases e : a = i ∧ c = j
      · obtain ⟨rfl, rfl⟩ := e
        exact hT
      · exact hk _ (by omega) _ (hA a c q1 q2 q3 q4 (by omega))
    have put : (i < D 4 o 0 ∨ j < D 4 t 0) → zb_W (d + 7) ax_m255 (77, [some (.inr (.inr (some 0))), some (.inl o), some (.inl t), some (.inl h), some (.inl (D 4 o 0)), some (.inl (D 4 t 0)), some (.inl i), some (.inl j), none, none, none], [], zr_S I J) Q := by
      intro hne
      refine zq_laysLine_77 I J o t h _ _ i j (sr_linePuts_s hS hh ho ht co ct hi ⟨by omega, hj⟩ hne hA (fun I1 J1 hT hk => nxt I1 J1 hT.rX2 ?_ ?_ (fun k2 q T hk2 => hT.tk q hk2) hk))
      · exact funext (fun a => hT.1 40 a (by omega) (by omega))
      · exact hT.1 0 74 (by omega) (by omega)
    refine zq_laysLine_58 I J o t h _ _ i j ?_
    simp (disch := omega) only [zb_w]
    refine ⟨fun q => by omega, fun _ => ⟨fun q => put (Or.inl q), fun q => ⟨fun q2 => put (Or.inr q2), fun q2 => ⟨by omega, by omega, by omega, nxt _ J ⟨fun a b r1 r2 r3 => ?_, rfl⟩ ?_ ?_ (fun k2 r T hk2 => ?_) ?_⟩⟩⟩⟩
    · rw [zu_ne (by omega), zu_ne (by omega), zu_ne (by omega)]
    · rw [zu_oth (by decide), zu_oth (by decide), zu_oth (by decide)]
    · rw [zu_ne (by omega), zu_ne (by omega), zu_ne (by omega)]
    · unfold tOk at *
      have : (7 * D 4 o 0 + D 4 t 0).toNat = (7 * i + j).toNat := by omega
      rw [zu_ne (by omega), zu_ne (by omega), zu_ne (by omega), zu_ne (by omega), zu_ne (by omega), zu_ne (by omega), zu_ne (by omega), zu_ne (by omega), zu_ne (by omega)]
      exact hk2
    · have e1 : i = D 4 o 0 := by omega
      have e2 : j = D 4 t 0 := by omega
      rw [e1, e2, pf_L_mn]
      refine ⟨?_, ?_, ?_⟩
      · rw [zu_ne (by omega), zu_ne (by omega), zu_eq]; rfl
      · rw [zu_ne (by omega), zu_eq]; rfl
      · rw [zu_eq]; rfl
theorem sr_lay_49_s {I0 J0 : zF} (hS0 : rS D pg I0) {o t h : Int} (hh : 0 ≤ h ∧ h < 2) (ho : 0 ≤ o ∧ o < D 3 0 0) (ht : 0 ≤ t ∧ t < D 3 0 0) (co : pf_canPaint D o h = 1) (ct : pf_canPaint D t h = 1) {Q : Option ax_v → ax_S → Prop} : ∀ (n : Nat) (i : Int) (I J : zF), rX2 I0 J0 I J → I 40 = I0 40 → I 0 74 = I0 0 74 → tAll D pg o t h I i (D 4 t 0) → -1 ≤ i → i + 1 = n → i ≤ D 4 o 0 → (∀ I' J', rX2 I0 J0 I' J' → I' 40 = I0 40 → I' 0 74 = I0 0 74 → tAll D pg o t h I' (-1) (D 4 t 0) → zb_W (d + 7) ax_m255 (151, [some (.inr (.inr (some 0))), some (.inl o), some (.inl t), some (.inl h), none, none, some (.inl 0), some (.inl 0), none, none, none], [], zr_S I' J') Q) → zb_W (d + 7) ax_m255 (49, [some (.inr (.inr (some 0))), some (.inl o), some (.inl t), some (.inl h), some (.inl (D 4 o 0)), some (.inl (D 4 t 0)), some (.inl i), none, none, none, none], [], zr_S I J) Q := by
  have m4 := hS0.ok.a4 o 0
  have n4 := hS0.ok.a4 t 0
  intro n
  induction n with
  | zero =>
    intro i I J hF h40 h74 hA h0 he hj hQ
    have e : i = -1 := by omega
    subst e
    exact zq_laysLine_49 I J o t h _ _ (-1) ⟨fun _ => hQ I J hF h40 h74 hA, fun q => absurd (by decide) q⟩
  | succ n ih =>
    intro i I J hF h40 h74 hA h0 he hj hQ
    refine zq_laysLine_49 I J o t h _ _ i ?_
    simp (disch := omega) only [zb_w]
    refine ⟨fun q => by omega, fun _ => sr_lay_58_s hS0 hh ho ht co ct (by omega) (D 4 t 0 + 1).toNat (D 4 t 0) I J hF h40 h74 hA (by omega) (by omega) (by omega) (fun I' J' a b c e => ih (i + (-1)) I' J' a b c ?_ (by omega) (by omega) (by omega) hQ)⟩
    rw [show i + -1 = i - 1 by omega]
    exact e
theorem sr_laysLine_s (hB : rB D pg W I) {o t h : Int} (hh : 0 ≤ h ∧ h < 2) (ho : 0 ≤ o ∧ o < D 3 0 0) (ht : 0 ≤ t ∧ t < D 3 0 0) (hP : ∀ I' J', rX2 I J I' J' → rB D pg W I' → lLaid D pg o t h I' → P0 I' J') : zr_v (d + 8) 255 [.inr (.inr (some 0)), .inl o, .inl t, .inl h] I J P0 := by
  have hS := hB.S
  have m4 := hS.ok.a4 o 0
  have n4 := hS.ok.a4 t 0
  have hX0 : ∀ v, rX2 I J (ax_u I 0 74 v) J := fun v => ⟨fun i j _ _ _ => zu_ne (by omega), rfl⟩
  have hS1 := (hX0 0).rS hS
  have no : ¬ (pf_canPaint D o h = 1 ∧ pf_canPaint D t h = 1) → zr_Qv P0 none (zr_S (ax_u (ax_u I 0 74 0) 44 (ax_w 0).toNat (-1)) J) := by
    intro q
    have hX : rX2 I J (ax_u (ax_u I 0 74 0) 44 (ax_w 0).toNat (-1)) J := ⟨fun i j _ _ _ => by rw [zu_ne (by omega), zu_ne (by omega)], rfl⟩
    refine zr_Qv.of (hP _ _ hX ⟨hX.rS hS, hB.W, ?_⟩ ⟨fun _ => ⟨?_, ?_⟩, fun r => absurd r q⟩)
    · rw [zu_oth (by decide), zu_oth (by decide)]; exact hB.2.2
    · exact zu_eq
    · rw [zu_ne (by omega), zu_eq]
  refine zr_inv (M := ax_m255) rfl (Nat.le_of_ble_eq_true rfl) (zq_laysLine_0 I J o t h (sr_longOf hS ho (sr_longOf hS ht (sr_canPaint hS1 ho hh (b01 (pf_can01 D o h _ _) (fun e => sr_canPaint hS1 ht hh (b01 (pf_can01 D t h _ _) (fun e2 => ?_) (fun e2 => no ?_))) (fun e => no ?_))))))
  · have co : pf_canPaint D o h = 1 := e
    have ct : pf_canPaint D t h = 1 := e2
    refine sr_lay_49_s hS1 hh ho ht co ct (D 4 o 0 + 1).toNat (D 4 o 0) _ J (rX2.refl _ _) rfl rfl (fun a c q1 q2 q3 q4 q5 => by omega) (by omega) (by omega) (by omega) (fun I1 J1 hF1 h40 h74 hA1 => ?_)
    have hS2 := hF1.rS hS1
    have h74' : I1 0 74 = 0 := by rw [h74, zu_eq]
    refine sr_lay_151 hS2 hh ho ht co ct hA1 12 0 0 0 I1 (fun _ _ _ _ _ => rfl) h74' (by decide) (by decide) (by omega) (by omega) (by omega) (fun I' k1 k2 k3 k4 => zr_Qv.of (hP I' J1 (((hX0 0).trans hF1).trans k1.rX2) ⟨(k1.rX2 (J := J1)).rS hS2, hB.W, ?_⟩ ⟨fun q => absurd ⟨co, ct⟩ q, fun _ => ?_⟩))
    · rw [show I' 40 = I1 40 from funext (fun a => k1 40 a (by omega) (by omega) (by omega)), h40, zu_oth (by decide)]; exact hB.2.2
    · obtain ⟨t1, t2, t3⟩ := hA1 0 0 (by omega) (by omega) (by omega) (by omega) (by omega)
      refine ⟨?_, ?_, ?_, fun q hq => ?_⟩
      · rw [k1 44 0 (by omega) (by omega) (by omega)]; exact t1
      · rw [k1 45 0 (by omega) (by omega) (by omega)]; exact t2
      · rw [k2, Int.zero_add]; rfl
      · have := k4 q hq
        rw [show (0 : Int).toNat + q = q by omega] at this
        exact this
  · have e2' : pf_canPaint D t h = 0 := e2
    omega
  · have e' : pf_canPaint D o h = 0 := e
    omega
end ZRBs
