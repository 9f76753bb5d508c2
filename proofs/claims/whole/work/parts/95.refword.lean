/-! THE REFERENCE: words and boards -/
section ZRW
variable {d : Nat} {I J : zF} {T : Nat → Int} {n : Int} {s : zs} {D : zD} {pg : zG} {P : Int → zF → zF → Prop} {P0 : zF → zF → Prop} {Q : Option ax_v → ax_S → Prop} {L : Int} {sd : Int → Int}
theorem wn_34z {w k : Int} (hk : n32 k) (hL : I 0 40 = L) (h6 : 1 ≤ L ∧ L ≤ 6) (h : zb_W d ax_m195 (80, [some (.inr (.inr (some 0))), some (.inl w), some (.inl 0), none], [], zr_S I J) Q) : zb_W d ax_m195 (34, [some (.inr (.inr (some 0))), some (.inl w), some (.inl 0), some (.inl k)], [], zr_S I J) Q := zq_wordNamed_34 I J w 0 k ⟨fun _ => b0 h, fun _ => h⟩
theorem wn_34 {w : Int} (hR : dR D I) (ok : zD_ok D pg) (hw : 0 ≤ w ∧ w < D 3 0 0) (hL : I 0 40 = L) (h6 : 1 ≤ L ∧ L ≤ 6) (hs : ∀ k, 0 ≤ k → k < L → I 31 k.toNat = sd k ∧ 1 ≤ sd k ∧ sd k ≤ 26) (h4 : D 4 w 0 = L) : ∀ (m : Nat) (k : Int), 0 ≤ k → k + m = L → zb_W d ax_m195 (80, [some (.inr (.inr (some 0))), some (.inl w), some (.inl (pf_sm D sd w m k)), none], [], zr_S I J) Q → zb_W d ax_m195 (34, [some (.inr (.inr (some 0))), some (.inl w), some (.inl 1), some (.inl k)], [], zr_S I J) Q := by
  have a3 := ok.a3 0 0
  intro m
  induction m with
  | zero =>
    intro k h0 hm h
    refine zq_wordNamed_34 I J w 1 k ?_
    rw [hL, zb_w (x := k) (by omega) (by omega), zb_w (x := L) (by omega) (by omega)]
    exact ⟨fun q => by omega, fun _ => h⟩
  | succ m ih =>
    intro k h0 hm h
    have a5 := ok.a5 w k
    have e5 := hR.2.2.2.2.1 w k hw.1 hw.2 h0 (by omega)
    obtain ⟨s1, s2, s3⟩ := hs k h0 (by omega)
    refine zq_wordNamed_34 I J w 1 k ?_
    rw [hL, zb_w (x := k) (by omega) (by omega), zb_w (x := L) (by omega) (by omega), zb_w (x := 7 * w + 1 + k) (by omega) (by omega), e5, s1]
    refine ⟨fun _ => b1 ⟨by omega, by omega, w_if ⟨by omega, by omega⟩ ⟨by omega, by omega⟩ (fun c => ih (k + 1) (by omega) (by omega) ?_) (fun c => wn_34z ⟨by omega, by omega⟩ hL h6 ?_)⟩, fun q => absurd (show k < L by omega) q⟩
    · unfold pf_sm at h; rwa [if_pos c] at h
    · unfold pf_sm at h; rwa [if_neg c] at h
theorem wn_2 (hR : dR D I) (ok : zD_ok D pg) (hL : I 0 40 = L) (h6 : 1 ≤ L ∧ L ≤ 6) (hs : ∀ k, 0 ≤ k → k < L → I 31 k.toNat = sd k ∧ 1 ≤ sd k ∧ sd k ≤ 26) : ∀ (m : Nat) (w : Int), 0 ≤ w → w + m = D 3 0 0 → Q (some (.inl (pf_fw D sd L m w))) (zr_S I J) → zb_W d ax_m195 (2, [some (.inr (.inr (some 0))), some (.inl w), none, none], [], zr_S I J) Q := by
  have a3 := ok.a3 0 0
  have e44 : I 0 44 = D 3 0 0 := hR.2.2.1
  intro m
  induction m with
  | zero =>
    intro w h0 hm h
    refine zq_wordNamed_2 I J w ?_
    rw [e44, zb_w (x := w) (by omega) (by omega), zb_w (x := D 3 0 0) (by omega) (by omega)]
    exact ⟨fun q => by omega, fun _ => h⟩
  | succ m ih =>
    intro w h0 hm h
    have a4 := ok.a4 w 0
    have e4 := hR.2.2.2.1 w h0 (by omega)
    have skip : ¬ (D 4 w 0 = L ∧ pf_sm D sd w L.toNat 0 = 1) → zb_W d ax_m195 (80, [some (.inr (.inr (some 0))), some (.inl w), some (.inl 0), none], [], zr_S I J) Q := fun hno => by
      refine zq_wordNamed_80 I J w 0 (b0 (ih (w + 1) (by omega) (by omega) ?_))
      unfold pf_fw at h
      rwa [if_neg hno] at h
    refine zq_wordNamed_2 I J w ?_
    rw [e44, hL, zb_w (x := w) (by omega) (by omega), zb_w (x := D 3 0 0) (by omega) (by omega), zb_w (x := 7 * w) (by omega) (by omega), e4]
    refine ⟨fun _ => ⟨by omega, w_if ⟨by omega, by omega⟩ ⟨by omega, by omega⟩ (fun c => wn_34 hR ok ⟨h0, by omega⟩ hL h6 hs c L.toNat 0 (by decide) (by omega) ?_) (fun c => wn_34z ⟨by decide, by decide⟩ hL h6 (skip (fun z => c z.1)))⟩, fun q => absurd (show w < D 3 0 0 by omega) q⟩
    rcases pf_sm01 D sd w L.toNat 0 with z | z
    · rw [z]; exact skip (fun q => by omega)
    · rw [z]
      unfold pf_fw at h
      rw [if_pos ⟨c, z⟩] at h
      exact zq_wordNamed_80 I J w 1 (b1 h)
theorem sr_wordNamed (hR : dR D I) (ok : zD_ok D pg) (hL : I 0 40 = L) (h6 : 1 ≤ L ∧ L ≤ 6) (hs : ∀ k, 0 ≤ k → k < L → I 31 k.toNat = sd k ∧ 1 ≤ sd k ∧ sd k ≤ 26) (hP : P (pf_fw D sd L (D 3 0 0).toNat 0) I J) : zr_i (d + 1) 195 [.inr (.inr (some 0))] I J P := by
  have a3 := ok.a3 0 0
  exact zr_ini (M := ax_m195) rfl (Nat.le_of_ble_eq_true rfl) (zq_wordNamed_0 I J (wn_2 hR ok hL h6 hs (D 3 0 0).toNat 0 (by decide) (by omega) (zr_Qi.of hP)))
theorem wt_60z {k : Int} (h : zb_W d ax_m196 (99, [some (.inr (.inr (some 0))), none, some (.inl 0), none], [], zr_S I J) Q) : zb_W d ax_m196 (60, [some (.inr (.inr (some 0))), none, some (.inl 0), some (.inl k)], [], zr_S I J) Q := zq_wordTold_60 I J 0 k ⟨fun _ => b0 h, fun _ => h⟩
theorem wt_60 (hR : dR D I) (ok : zD_ok D pg) (hL : I 0 40 = L) (h6 : 1 ≤ L ∧ L ≤ 6) (hs : ∀ k, 0 ≤ k → k < L → I 31 k.toNat = sd k ∧ 1 ≤ sd k ∧ sd k ≤ 26) : ∀ (m : Nat) (k : Int), 0 ≤ k → k + m = L → zb_W (d + 1) ax_m196 (99, [some (.inr (.inr (some 0))), none, some (.inl (pAllT D sd m k)), none], [], zr_S I J) Q → zb_W (d + 1) ax_m196 (60, [some (.inr (.inr (some 0))), none, some (.inl 1), some (.inl k)], [], zr_S I J) Q := by
  intro m
  induction m with
  | zero =>
    intro k h0 hm h
    refine zq_wordTold_60 I J 1 k ?_
    rw [hL, zb_w (x := k) (by omega) (by omega), zb_w (x := L) (by omega) (by omega)]
    exact ⟨fun q => by omega, fun _ => h⟩
  | succ m ih =>
    intro k h0 hm h
    obtain ⟨s1, s2, s3⟩ := hs k h0 (by omega)
    refine zq_wordTold_60 I J 1 k ?_
    rw [hL, zb_w (x := k) (by omega) (by omega), zb_w (x := L) (by omega) (by omega), s1]
    have pa : n32 (pf_at D 0 (sd k)) := by
      have := ok.a0 0 0
      rcases pf_at_in ok 0 (sd k) with z | ⟨z1, z2, _⟩ <;> exact ⟨by omega, by omega⟩
    refine ⟨fun _ => b1 ⟨by omega, sr_toldAt hR ok ⟨by decide, by decide⟩ ⟨by omega, by omega⟩ (w_if pa ⟨by decide, by decide⟩ (fun c => wt_60z ?_) (fun c => ih (k + 1) (by omega) (by omega) ?_))⟩, fun q => absurd (show k < L by omega) q⟩
    · unfold pAllT at h; rwa [if_pos c] at h
    · unfold pAllT at h; rwa [if_neg c] at h
theorem dR_wrd {I' : zF} (hR : dR D I) (ok : zD_ok D pg) (h6 : 1 ≤ L ∧ L ≤ 6) (hl : D 3 0 0 < 8) (h44 : I' 0 44 = D 3 0 0 + 1) (hW : I' 34 (7 * D 3 0 0).toNat = L) (hk : ∀ k, 0 ≤ k → k < L → I' 34 (7 * D 3 0 0 + 1 + k).toNat = sd k) (hF : ∀ (i j : Nat), ¬ (i = 0 ∧ j = 44) → ¬ (i = 34 ∧ 7 * D 3 0 0 ≤ (j : Int)) → I' i j = I i j) : dR (dWrd D sd L) I' := by
  have a3 := ok.a3 0 0
  have e3 : dWrd D sd L 3 0 0 = D 3 0 0 + 1 := if_pos rfl
  have e4 : dWrd D sd L 4 (D 3 0 0) 0 = L := by unfold dWrd; rw [if_neg (by decide), if_pos ⟨rfl, rfl⟩]
  obtain ⟨a, b, c, e, f, k, l, m⟩ := hR
  refine ⟨fun h2 r1 r2 => ?_, fun h2 k2 r1 r2 r3 r4 => ?_, ?_, fun w r1 r2 => ?_, fun w k r1 r2 r3 r4 => ?_, ?_, fun b r1 r2 => ?_, fun k r1 r2 => ?_⟩
  · rw [hF _ _ (by omega) (by omega), dWrd_lo (by decide) (by omega) (by omega)]; exact a h2 r1 r2
  · rw [dWrd_lo (by decide) (by omega) (by omega)] at r4
    rw [hF _ _ (by omega) (by omega), hF _ _ (by omega) (by omega), dWrd_lo (by decide) (by omega) (by omega), dWrd_lo (by decide) (by omega) (by omega)]; exact b h2 k2 r1 r2 r3 r4
  · rw [h44, e3]
  · rw [e3] at r2
    by_cases q : w = D 3 0 0
    · rw [q, e4]; exact hW
    · rw [hF _ _ (by omega) (by omega), dWrd_lo (by decide) (by omega) (by omega)]; exact e w r1 (by omega)
  · rw [e3] at r2
    by_cases q : w = D 3 0 0
    · rw [q, e4] at r4
      rw [q, hk k r3 r4]; unfold dWrd; rw [if_neg (by decide), if_neg (by omega), if_pos ⟨rfl, rfl⟩, if_pos ⟨r3, r4⟩]
    · rw [dWrd_lo (by decide) (by omega) (by omega)] at r4
      have a4 := ok.a4 w 0
      rw [hF _ _ (by omega) (by omega), dWrd_lo (by decide) (by omega) (by omega)]; exact f w k r1 (by omega) r3 r4
  · rw [hF _ _ (by omega) (by omega), dWrd_lo (by decide) (by omega) (by omega)]; exact k
  · rw [dWrd_lo (by decide) (by omega) (by omega)] at r2
    rw [hF _ _ (by omega) (by omega), hF _ _ (by omega) (by omega), dWrd_lo (by decide) (by omega) (by omega), dWrd_lo (by decide) (by omega) (by omega)]; exact l b r1 r2
  · rw [hF _ _ (by omega) (by omega), dWrd_lo (by decide) (by omega) (by omega)]; exact m k r1 r2
theorem wt_131 {I0 : zF} {W : Int} (hW : 0 ≤ W ∧ W < 8) (h44 : I0 0 44 = W) (hL : I0 0 40 = L) (h6 : 1 ≤ L ∧ L ≤ 6) (hs : ∀ k, 0 ≤ k → k < L → I0 31 k.toNat = sd k ∧ 1 ≤ sd k ∧ sd k ≤ 26) : ∀ (m : Nat) (k : Int) (I : zF), 0 ≤ k → k + m = L → (∀ (i j : Nat), ¬ (i = 34 ∧ 7 * W ≤ (j : Int) ∧ (j : Int) < 7 * W + 7) → I i j = I0 i j) → I 34 (7 * W).toNat = L → (∀ j, 0 ≤ j → j < k → I 34 (7 * W + 1 + j).toNat = sd j) → (∀ I', (∀ (i j : Nat), ¬ (i = 34 ∧ 7 * W ≤ (j : Int) ∧ (j : Int) < 7 * W + 7) → ¬ (i = 0 ∧ j = 44) → I' i j = I0 i j) → I' 0 44 = W + 1 → I' 34 (7 * W).toNat = L → (∀ j, 0 ≤ j → j < L → I' 34 (7 * W + 1 + j).toNat = sd j) → Q none (zr_S I' J)) → zb_W d ax_m196 (131, [some (.inr (.inr (some 0))), none, none, some (.inl k)], [], zr_S I J) Q := by
  intro m
  induction m with
  | zero =>
    intro k I h0 hm hF h34 hd hQ
    have eL : I 0 40 = L := by rw [hF 0 40 (by omega)]; exact hL
    have e44 : I 0 44 = W := by rw [hF 0 44 (by omega)]; exact h44
    refine zq_wordTold_131 I J k ?_
    rw [eL, e44, zb_w (x := k) (by omega) (by omega), zb_w (x := L) (by omega) (by omega)]
    refine ⟨fun q => by omega, fun _ => hQ _ (fun i j a b => by rw [zu_ne (by omega)]; exact hF i j a) zu_eq (by rw [zu_ne (by omega)]; exact h34) (fun j j0 j1 => by rw [zu_ne (by omega)]; exact hd j j0 (by omega))⟩
  | succ m ih =>
    intro k I h0 hm hF h34 hd hQ
    have eL : I 0 40 = L := by rw [hF 0 40 (by omega)]; exact hL
    have e44 : I 0 44 = W := by rw [hF 0 44 (by omega)]; exact h44
    obtain ⟨s1, s2, s3⟩ := hs k h0 (by omega)
    have e31 : I 31 k.toNat = sd k := by rw [hF 31 _ (by omega)]; exact s1
    refine zq_wordTold_131 I J k ?_
    rw [eL, e44, zb_w (x := k) (by omega) (by omega), zb_w (x := L) (by omega) (by omega), zb_w (x := 7 * W + 1 + k) (by omega) (by omega), e31]
    refine ⟨fun _ => ⟨by omega, by omega, ih (k + 1) _ (by omega) (by omega) (fun i j a => by rw [zu_ne (by omega)]; exact hF i j a) (by rw [zu_ne (by omega)]; exact h34) (fun j j0 j1 => ?_) hQ⟩, fun q => absurd (show k < L by omega) q⟩
    by_cases c : j = k
    · rw [c, zu_eq]
    · rw [zu_ne (by omega)]; exact hd j j0 (by omega)
theorem sr_wordTold {b : Int} (hL : rTx T n s I) (hR : dR D I) (ok : zD_ok D pg) (hP0 : ∀ k q, pWrd T n D s b = .inl (k, q) → ∀ I', rLf I I' → rBad k q I' → P0 I' J) (hP1 : ∀ s' D', pWrd T n D s b = .inr (s', D') → ∀ I', rLf I I' → rTx T n s' I' → dR D' I' → P0 I' J) : zr_v (d + 5) 196 [.inr (.inr (some 0)), .inl b] I J P0 := by
  have a3 := ok.a3 0 0
  have e44 : I 0 44 = D 3 0 0 := hR.2.2.1
  unfold pWrd at hP0 hP1
  refine zr_inv (M := ax_m196) rfl (Nat.le_of_ble_eq_true rfl) (zq_wordTold_0 I J b (e_ok hL.e ?_))
  rw [e44]
  refine w_if ⟨by omega, by omega⟩ ⟨by decide, by decide⟩ (fun c8 => sr_fail hL.e ⟨by decide, by decide⟩ (fun I1 y1 _ b1 => zq_wordTold_22 I1 J (e_no b1 (zr_Qv.of ?_)))) (fun c8 => zq_wordTold_22 I J (e_ok hL.e (sr_name hL ⟨by decide, by decide⟩ (fun k q e I1 y1 b1 => e_no b1 (zr_Qv.of ?_)) (fun s1 e I1 y1 t1 n1 n2 n3 => e_ok t1.e ?_))))
  · rw [if_pos c8] at hP0
    exact hP0 5 b rfl I1 y1.L b1
  · rw [if_neg c8, e] at hP0
    exact hP0 k q rfl I1 y1.L b1
  · rw [if_neg c8, e] at hP0 hP1
    have hP0' : ∀ k q, (if pFw T n D s = -1 ∧ pAllT D (nmL T s) (nmN T n s).toNat 0 = 1 then .inr (s1, dWrd D (nmL T s) (nmN T n s)) else .inl (3, s.1)) = (Sum.inl (k, q) : Sum (Int × Int) (zs × zD)) → ∀ I', rLf I I' → rBad k q I' → P0 I' J := hP0
    have hP1' : ∀ s' D', (if pFw T n D s = -1 ∧ pAllT D (nmL T s) (nmN T n s).toNat 0 = 1 then .inr (s1, dWrd D (nmL T s) (nmN T n s)) else .inl (3, s.1)) = (Sum.inr (s', D') : Sum (Int × Int) (zs × zD)) → ∀ I', rLf I I' → rTx T n s' I' → dR D' I' → P0 I' J := hP1
    obtain ⟨_, _, _, nm1, nm2⟩ := pName_i hL.ok e
    have R1 : dR D I1 := y1.R hR
    have hn : I1 0 40 = nmN T n s := n2
    have hs : ∀ k, 0 ≤ k → k < nmN T n s → I1 31 k.toNat = nmL T s k ∧ 1 ≤ nmL T s k ∧ nmL T s k ≤ 26 := fun k k0 k1 => ⟨n3 k k0 k1, nm2 k k0 k1⟩
    have pw := pFw_in (T := T) (n := n) (s := s) ok
    have bad : ¬ (pFw T n D s = -1 ∧ pAllT D (nmL T s) (nmN T n s).toNat 0 = 1) → zb_W (d + 4) ax_m196 (99, [some (.inr (.inr (some 0))), none, some (.inl 0), none], [], zr_S I1 J) (zr_Qv P0) := fun hno => by
      rw [if_neg hno] at hP0'
      refine zq_wordTold_99 I1 J 0 (b0 (sr_fail t1.e ⟨by decide, by decide⟩ (fun I2 y2 _ b2 => zr_Qv.of ?_)))
      rw [n1] at b2
      exact hP0' 3 s.1 rfl I2 (y1.L.trans y2.L) b2
    refine sr_wordNamed R1 ok hn nm1 hs (w_if (x := pFw T n D s) ⟨by omega, by omega⟩ ⟨by decide, by decide⟩ (fun c => wt_60 R1 ok hn nm1 hs (nmN T n s).toNat 0 (by decide) (by omega) ?_) (fun c => wt_60z (bad (fun z => c z.1))))
    by_cases ca : pAllT D (nmL T s) (nmN T n s).toNat 0 = 1
    · rw [ca]
      rw [if_pos ⟨c, ca⟩] at hP1'
      have e1 : I1 0 44 = D 3 0 0 := R1.2.2.1
      refine zq_wordTold_99 I1 J 1 (b1 ?_)
      rw [e1, hn, zb_w (x := 7 * D 3 0 0) (by omega) (by omega)]
      refine ⟨by omega, wt_131 (I0 := ax_u I1 34 (7 * D 3 0 0).toNat (nmN T n s)) (W := D 3 0 0) (by omega) (by rw [zu_ne (by omega)]; exact e1) (by rw [zu_ne (by omega)]; exact hn) nm1 (fun k k0 k1 => by rw [zu_ne (by omega)]; exact hs k k0 k1) (nmN T n s).toNat 0 _ (by decide) (by omega) (fun _ _ _ => rfl) zu_eq (fun j j0 j1 => by omega) (fun I2 f2 g44 gW gk => zr_Qv.of ?_)⟩
      have f2' : ∀ (i j : Nat), ¬ (i = 34 ∧ 7 * D 3 0 0 ≤ (j : Int) ∧ (j : Int) < 7 * D 3 0 0 + 7) → ¬ (i = 0 ∧ j = 44) → I2 i j = I1 i j := fun i j a b => by rw [f2 i j a b, zu_ne (by omega)]
      exact hP1' s1 _ rfl I2 (y1.L.trans (fun i j a b => f2' i j (by omega) (by omega))) (t1.dr (fun i j a b => f2' i j (by omega) (by omega))) (dR_wrd R1 ok nm1 (by omega) g44 gW gk (fun i j a b => f2' i j (by omega) a))
    · have c0 : pAllT D (nmL T s) (nmN T n s).toNat 0 = 0 := by
        have : ∀ (m : Nat) (k : Int), pAllT D (nmL T s) m k = 0 ∨ pAllT D (nmL T s) m k = 1 := by
          intro m
          induction m with
          | zero => intro k; exact Or.inr rfl
          | succ m ih => intro k; unfold pAllT; split; exact Or.inl rfl; exact ih _
        rcases this (nmN T n s).toNat 0 with z | z
        · exact z
        · exact absurd z ca
      rw [c0]
      exact bad (fun z => ca z.2)
end ZRW
