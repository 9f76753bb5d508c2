/-! THE CLASS: words, boards, settings -/
section ZCSb
variable {T : Nat → Int} {n : Int} {d hf pf hs : Nat} {I J : zF} {s : zs} {D : zD} {pg : zG} {P : Int → zF → zF → Prop} {P0 : zF → zF → Prop} {L : Int} {sd : Int → Int} {Q : Option ax_v → ax_S → Prop}
theorem can01 (D : zD) (w h : Int) : pf_canPaint D w h = 0 ∨ pf_canPaint D w h = 1 := by
  have : ∀ (m : Nat) (k : Int), pf_can D w h m k = 0 ∨ pf_can D w h m k = 1 := by
    intro m
    induction m with
    | zero => intro k; exact Or.inr rfl
    | succ m ih => intro k; unfold pf_can; split; exact Or.inl rfl; exact ih _
  exact this _ _
theorem cKd_wrd {I' : zF} (hK : cKd D hs I) (ok : zD_ok D pg) (h6 : 1 ≤ L ∧ L ≤ 6) (hl : D 3 0 0 < 8) (h10 : I' (39 + 29 * hs) 10 = D 3 0 0 + 1) (hW : I' (62 + 29 * hs) (D 3 0 0).toNat = L) (hk : ∀ k, 0 ≤ k → k < 6 → I' (63 + 29 * hs) (D 3 0 0 * 6 + k).toNat = if k < L then sd k else 0) (hF : ∀ (i j : Nat), ¬ (i = 39 + 29 * hs ∧ j = 10) → ¬ (i = 62 + 29 * hs ∧ D 3 0 0 ≤ (j : Int)) → ¬ (i = 63 + 29 * hs ∧ D 3 0 0 * 6 ≤ (j : Int)) → I' i j = I i j) : cKd (dWrd D sd L) hs I' := by
  have a3 := ok.a3 0 0
  have e3 : dWrd D sd L 3 0 0 = D 3 0 0 + 1 := if_pos rfl
  have e4 : dWrd D sd L 4 (D 3 0 0) 0 = L := by unfold dWrd; rw [if_neg (by decide), if_pos ⟨rfl, rfl⟩]
  obtain ⟨⟨a, b, c, e, f, k, m⟩, l⟩ := hK
  refine ⟨⟨fun h2 r1 r2 => ?_, fun h2 k2 r1 r2 r3 r4 => ?_, ?_, fun w r1 r2 => ?_, fun w k r1 r2 r3 r4 => ?_, ?_, ?_⟩, fun b r1 r2 => ?_⟩
  · rw [hF _ _ (by omega) (by omega) (by omega), dWrd_lo (by decide) (by omega) (by omega)]; exact a h2 r1 r2
  · rw [dWrd_lo (by decide) (by omega) (by omega)] at r4
    rw [hF _ _ (by omega) (by omega) (by omega), hF _ _ (by omega) (by omega) (by omega), dWrd_lo (by decide) (by omega) (by omega), dWrd_lo (by decide) (by omega) (by omega)]; exact b h2 k2 r1 r2 r3 r4
  · rw [h10, e3]
  · rw [e3] at r2
    by_cases q : w = D 3 0 0
    · rw [q, e4]; exact hW
    · rw [hF _ _ (by omega) (by omega) (by omega), dWrd_lo (by decide) (by omega) (by omega)]; exact e w r1 (by omega)
  · rw [e3] at r2
    by_cases q : w = D 3 0 0
    · have e5 : dWrd D sd L 5 (D 3 0 0) k = if 0 ≤ k ∧ k < L then sd k else 0 := by unfold dWrd; rw [if_neg (by decide), if_neg (by omega), if_pos ⟨rfl, rfl⟩]
      rw [q, hk k r3 r4, e5]
      by_cases z : k < L
      · rw [if_pos z, if_pos ⟨r3, z⟩]
      · rw [if_neg z, if_neg (by omega)]
    · rw [hF _ _ (by omega) (by omega) (by omega), dWrd_lo (by decide) (by omega) (by omega)]; exact f w k r1 (by omega) r3 r4
  · rw [hF _ _ (by omega) (by omega) (by omega), dWrd_lo (by decide) (by omega) (by omega)]; exact k
  · rw [hF _ _ (by omega) (by omega) (by omega), hF _ _ (by omega) (by omega) (by omega), hF _ _ (by omega) (by omega) (by omega), dWrd_lo (by decide) (by omega) (by omega), dWrd_lo (by decide) (by omega) (by omega), dWrd_lo (by decide) (by omega) (by omega)]; exact m
  · rw [dWrd_lo (by decide) (by omega) (by omega)] at r2
    rw [hF _ _ (by omega) (by omega) (by omega), hF _ _ (by omega) (by omega) (by omega), dWrd_lo (by decide) (by omega) (by omega), dWrd_lo (by decide) (by omega) (by omega)]; exact l b r1 r2
theorem tw_11 (eh : hs = 0 ∨ hs = 1) {I0 : zF} {W : Int} (hW : 0 ≤ W ∧ W < 8) (h10 : I0 (39 + 29 * hs) 10 = W) (h6 : 1 ≤ L ∧ L ≤ 6) (hsd : ∀ k, 0 ≤ k → k < L → I0 9 k.toNat = sd k) : ∀ (m : Nat) (k : Int) (I : zF), 0 ≤ k → k + m = 6 → (∀ (i j : Nat), ¬ (i = 63 + 29 * hs ∧ W * 6 ≤ (j : Int) ∧ (j : Int) < W * 6 + 6) → I i j = I0 i j) → (∀ j, 0 ≤ j → j < k → I (63 + 29 * hs) (W * 6 + j).toNat = if j < L then sd j else 0) → (∀ I', (∀ (i j : Nat), ¬ (i = 63 + 29 * hs ∧ W * 6 ≤ (j : Int) ∧ (j : Int) < W * 6 + 6) → I' i j = I0 i j) → (∀ j, 0 ≤ j → j < 6 → I' (63 + 29 * hs) (W * 6 + j).toNat = if j < L then sd j else 0) → zb_W (d + 1) ax_m64 (55, [some (.inr (.inr (some (39 + 29 * hs)))), none, some (.inl L), none], [], zc_S hf pf I' J) Q) → zb_W (d + 1) ax_m64 (11, [some (.inr (.inr (some (39 + 29 * hs)))), some (.inr (.inr (some 9))), some (.inl L), some (.inl k)], [], zc_S hf pf I J) Q := by
  intro m
  induction m with
  | zero =>
    intro k I h0 hm hF hd hQ
    have k6 : k = 6 := by omega
    refine zk_Shop_tellWord_11 hf pf I J L k hs eh ⟨fun q => ?_, fun _ => hQ I hF (fun j j0 j1 => hd j j0 (by omega))⟩
    rw [k6] at q
    exact absurd q (Int.lt_irrefl _)
  | succ m ih =>
    intro k I h0 hm hF hd hQ
    have e10 : I (39 + 29 * hs) 10 = W := by rw [hF _ _ (by omega)]; exact h10
    refine zk_Shop_tellWord_11 hf pf I J L k hs eh ?_
    rw [e10, zb_w (x := k) (by omega) (by omega), zb_w (x := L) (by omega) (by omega), zb_w (x := W * 6 + k) (by omega) (by omega)]
    have nx : ∀ v, v = (if k < L then sd k else 0) → zb_W (d + 1) ax_m64 (11, [some (.inr (.inr (some (39 + 29 * hs)))), some (.inr (.inr (some 9))), some (.inl L), some (.inl (k + 1))], [], zc_S hf pf (ax_u I (63 + 29 * hs) (W * 6 + k).toNat v) J) Q := fun v hv => by
      refine ih (k + 1) _ (by omega) (by omega) (fun i j a => by rw [zu_ne (by omega)]; exact hF i j a) (fun j j0 j1 => ?_) hQ
      by_cases c : j = k
      · rw [c, zu_eq, hv]
      · rw [zu_ne (by omega)]; exact hd j j0 (by omega)
    refine ⟨fun _ => ⟨fun _ => ⟨fun q => ⟨by omega, by omega, nx _ ?_⟩, fun q => ⟨by omega, nx _ ?_⟩⟩, fun q => absurd (show k < 6 by omega) q⟩, fun q => absurd (show k < 6 by omega) q⟩
    · rw [if_pos q, hF 9 _ (by omega)]; exact hsd k h0 q
    · rw [if_neg q]
theorem sc_tellWord (eh : hs = 0 ∨ hs = 1) (hK : cKd D hs I) (ok : zD_ok D pg) (h6 : 1 ≤ L ∧ L ≤ 6) (hl : D 3 0 0 < 8) (hsd : ∀ k, 0 ≤ k → k < L → I 9 k.toNat = sd k) (hP : ∀ I', cLf hs I I' → (∀ i j, i < 39 → I' i j = I i j) → cKd (dWrd D sd L) hs I' → P0 I' J) : zc_v (d + 2) 64 [.inr (.inr (some (39 + 29 * hs))), .inr (.inr (some 9)), .inl L] hf pf I J P0 := by
  have a3 := ok.a3 0 0
  have e10 : I (39 + 29 * hs) 10 = D 3 0 0 := hK.1.2.2.1
  refine zc_inv (M := ax_m64) rfl (Nat.le_of_ble_eq_true rfl) (zk_Shop_tellWord_0 hf pf I J L hs eh ?_)
  rw [e10, zb_w (x := D 3 0 0) (by omega) (by omega)]
  refine ⟨fun _ => tw_11 (I0 := I) eh ⟨a3.1, hl⟩ e10 h6 hsd 6 0 I (by decide) (by decide) (fun _ _ _ => rfl) (fun j j0 j1 => by omega) (fun I1 f1 d1 => zk_Shop_tellWord_55 hf pf I1 J L hs eh (sc_min ⟨by omega, by omega⟩ ⟨by decide, by decide⟩ ?_)), fun q => absurd (show D 3 0 0 < 8 from hl) q⟩
  have e1 : I1 (39 + 29 * hs) 10 = D 3 0 0 := by rw [f1 _ _ (by omega)]; exact e10
  have e2 : (ax_u I1 (62 + 29 * hs) (D 3 0 0).toNat L) (39 + 29 * hs) 10 = D 3 0 0 := by rw [zu_ne (by omega)]; exact e1
  rw [if_neg (show ¬ (6 : Int) < L by omega), e1, zb_w (x := D 3 0 0) (by omega) (by omega), e2]
  refine ⟨by omega, zc_Qv.of (hP _ (fun i j a b c e f k l m => by rw [zu_ne (by omega), zu_ne (by omega)]; exact f1 i j (by omega)) (fun i j q => by rw [zu_ne (by omega), zu_ne (by omega)]; exact f1 i j (by omega)) (cKd_wrd hK ok h6 hl zu_eq (by rw [zu_ne (by omega), zu_eq]) (fun k k0 k1 => by rw [zu_ne (by omega), zu_ne (by omega)]; exact d1 k k0 k1) (fun i j a b c => by rw [zu_ne (by omega), zu_ne (by omega)]; exact f1 i j (by omega))))⟩
theorem ws_73z (eh : hs = 0 ∨ hs = 1) {k : Int} (h : zb_W d ax_m82 (114, [some (.inr (.inr (some 8))), some (.inr (.inr (some ((39 + 29 * hs))))), some (.inl L), some (.inl 0), none], [], zc_S hf pf I J) Q) : zb_W d ax_m82 (73, [some (.inr (.inr (some 8))), some (.inr (.inr (some ((39 + 29 * hs))))), some (.inl L), some (.inl 0), some (.inl k)], [], zc_S hf pf I J) Q := zk_ShopReader_wordStatement_73 hf pf I J L 0 k hs eh ⟨fun _ => b0 h, fun _ => h⟩
theorem ws_73 (eh : hs = 0 ∨ hs = 1) (hK : cKd D hs I) (ok : zD_ok D pg) (h6 : 1 ≤ L ∧ L ≤ 6) (hsd : ∀ k, 0 ≤ k → k < L → I 9 k.toNat = sd k ∧ 1 ≤ sd k ∧ sd k ≤ 26) : ∀ (m : Nat) (k : Int), 0 ≤ k → k + m = L → zb_W (d + 3) ax_m82 (114, [some (.inr (.inr (some 8))), some (.inr (.inr (some ((39 + 29 * hs))))), some (.inl L), some (.inl (pAllT D sd m k)), none], [], zc_S hf pf I J) Q → zb_W (d + 3) ax_m82 (73, [some (.inr (.inr (some 8))), some (.inr (.inr (some ((39 + 29 * hs))))), some (.inl L), some (.inl 1), some (.inl k)], [], zc_S hf pf I J) Q := by
  intro m
  induction m with
  | zero =>
    intro k h0 hm h
    refine zk_ShopReader_wordStatement_73 hf pf I J L 1 k hs eh ?_
    rw [zb_w (x := k) (by omega) (by omega), zb_w (x := L) (by omega) (by omega)]
    exact ⟨fun q => by omega, fun _ => h⟩
  | succ m ih =>
    intro k h0 hm h
    obtain ⟨s1, s2, s3⟩ := hsd k h0 (by omega)
    refine zk_ShopReader_wordStatement_73 hf pf I J L 1 k hs eh ?_
    rw [zb_w (x := k) (by omega) (by omega), zb_w (x := L) (by omega) (by omega), s1]
    have pa : n32 (pf_at D 0 (sd k)) := by
      have := ok.a0 0 0
      rcases pf_at_in ok 0 (sd k) with z | ⟨z1, z2, _⟩ <;> exact ⟨by omega, by omega⟩
    refine ⟨fun _ => b1 ⟨by omega, sc_indexOf eh ok hK.1 ⟨by decide, by decide⟩ ⟨by omega, by omega⟩ (w_if pa ⟨by decide, by decide⟩ (fun c => ws_73z eh ?_) (fun c => ih (k + 1) (by omega) (by omega) ?_))⟩, fun q => absurd (show k < L by omega) q⟩
    · unfold pAllT at h; rwa [if_pos c] at h
    · unfold pAllT at h; rwa [if_neg c] at h
theorem sc_wordStatement (eh : hs = 0 ∨ hs = 1) (hX : cTx T n s I) (hw : 0 ≤ wd T n s) (hK : cKd D hs I) (ok : zD_ok D pg) (hP0 : ∀ k q, pWrd T n D (aWd T n s) s.1 = .inl (k, q) → ∀ I', cLf hs I I' → cBad k q I' → P 0 I' J) (hP1 : ∀ s' D', pWrd T n D (aWd T n s) s.1 = .inr (s', D') → ∀ I', cLf hs I I' → cTx T n s' I' → cKd D' hs I' → P 1 I' J) : zc_i (d + 5) 82 [.inr (.inr (some 8)), .inr (.inr (some ((39 + 29 * hs))))] hf pf I J P := by
  have hwp := wd_pos hw
  have a3 := ok.a3 0 0
  have e10 : I (39 + 29 * hs) 10 = D 3 0 0 := hK.1.2.2.1
  unfold pWrd at hP0 hP1
  refine zc_ini (M := ax_m82) rfl (Nat.le_of_ble_eq_true rfl) (zk_ShopReader_wordStatement_0 hf pf I J hs eh ?_)
  rw [e10, zb_w (x := D 3 0 0) (by omega) (by omega)]
  refine ⟨fun q8 => sc_adv_W hX hwp.1 (fun I1 y1 X1 _ _ => sc_isName X1 ⟨by decide, by decide⟩ (fun hl en h6 => b1 (sc_copyName X1 hl.1 (by omega) (fun I2 f2 n2 => ?_))) (fun k q e I2 y2 b2 => b0 (zc_Qi.of ?_))), fun q8 => sc_failHere (s := s) hX.2.2.2.1 (fun I1 y1 b1 => ⟨Or.inl rfl, zc_Qi.of ?_⟩)⟩
  · have q8' : D 3 0 0 < 8 := q8
    rw [if_neg (by omega), en] at hP0 hP1
    obtain ⟨_, _, _, nm1, nm2⟩ := pName_i X1.ok en
    have hP0' : ∀ k q, (if pFw T n D (aWd T n s) = -1 ∧ pAllT D (nmL T (aWd T n s)) (nmN T n (aWd T n s)).toNat 0 = 1 then .inr (aWd T n (aWd T n s), dWrd D (nmL T (aWd T n s)) (nmN T n (aWd T n s))) else .inl (3, (aWd T n s).1)) = (Sum.inl (k, q) : Sum (Int × Int) (zs × zD)) → ∀ I', cLf hs I I' → cBad k q I' → P 0 I' J := hP0
    have hP1' : ∀ s' D', (if pFw T n D (aWd T n s) = -1 ∧ pAllT D (nmL T (aWd T n s)) (nmN T n (aWd T n s)).toNat 0 = 1 then .inr (aWd T n (aWd T n s), dWrd D (nmL T (aWd T n s)) (nmN T n (aWd T n s))) else .inl (3, (aWd T n s).1)) = (Sum.inr (s', D') : Sum (Int × Int) (zs × zD)) → ∀ I', cLf hs I I' → cTx T n s' I' → cKd D' hs I' → P 1 I' J := hP1
    have X2 : cTx T n (aWd T n s) I2 := X1.fr (fun i j q => f2 i j (by omega))
    have l2 : cLf hs I I2 := y1.Lf.trans (fun i j a b c e f k l m => f2 i j b)
    have K2 : cKd D hs I2 := (y1.K hK).cong (fun i j q => f2 i j (by omega))
    have hs9 : ∀ k, 0 ≤ k → k < nmN T n (aWd T n s) → I2 9 k.toNat = nmL T (aWd T n s) k ∧ 1 ≤ nmL T (aWd T n s) k ∧ nmL T (aWd T n s) k ≤ 26 := fun k k0 k1 => ⟨n2 k k0 k1, nm2 k k0 k1⟩
    have pw := pFw_in (T := T) (n := n) (s := aWd T n s) ok
    have bad : ¬ (pFw T n D (aWd T n s) = -1 ∧ pAllT D (nmL T (aWd T n s)) (nmN T n (aWd T n s)).toNat 0 = 1) → zb_W (d + 4) ax_m82 (114, [some (.inr (.inr (some 8))), some (.inr (.inr (some ((39 + 29 * hs))))), some (.inl (nmN T n (aWd T n s))), some (.inl 0), none], [], zc_S hf pf I2 J) (zc_Qi hf pf P) := fun hno => by
      rw [if_neg hno] at hP0'
      exact zk_ShopReader_wordStatement_114 hf pf I2 J _ 0 hs eh (b0 (sc_failHere (s := aWd T n s) X2.2.2.2.1 (fun I3 y3 b3 => ⟨Or.inl rfl, zc_Qi.of (hP0' 3 _ rfl I3 (l2.trans y3.Lf) b3)⟩)))
    refine sc_findWord eh ok K2.1 (w := 9) (L := 6) (sd := nmL T (aWd T n s)) (m := nmN T n (aWd T n s)) (by decide) (by decide) ⟨by omega, by omega, by omega, by omega⟩ (fun k k0 k1 => by have := hs9 k k0 k1; exact ⟨this.1, by omega, by omega⟩) ?_
    refine w_if (x := pFw T n D (aWd T n s)) ⟨by omega, by omega⟩ ⟨by decide, by decide⟩ (fun c => ws_73 eh K2 ok nm1 hs9 (nmN T n (aWd T n s)).toNat 0 (by decide) (by omega) ?_) (fun c => ws_73z eh (bad (fun z => c z.1)))
    by_cases ca : pAllT D (nmL T (aWd T n s)) (nmN T n (aWd T n s)).toNat 0 = 1
    · rw [ca]
      rw [if_pos ⟨c, ca⟩] at hP1'
      refine zk_ShopReader_wordStatement_114 hf pf I2 J _ 1 hs eh (b1 (sc_tellWord eh K2 ok nm1 q8' (fun k k0 k1 => (hs9 k k0 k1).1) (fun I3 f3 g3 K3 => sc_adv_W (X2.fr (fun i j q => g3 i j (by omega))) hl (fun I4 y4 X4 _ _ => zc_Qi.of (hP1' _ _ rfl I4 (l2.trans (f3.trans y4.Lf)) X4 (y4.K K3))))))
    · have c0 : pAllT D (nmL T (aWd T n s)) (nmN T n (aWd T n s)).toNat 0 = 0 := by
        have : ∀ (m : Nat) (k : Int), pAllT D (nmL T (aWd T n s)) m k = 0 ∨ pAllT D (nmL T (aWd T n s)) m k = 1 := by
          intro m
          induction m with
          | zero => intro k; exact Or.inr rfl
          | succ m ih => intro k; unfold pAllT; split; exact Or.inl rfl; exact ih _
        rcases this (nmN T n (aWd T n s)).toNat 0 with z | z
        · exact z
        · exact absurd z ca
      rw [c0]
      exact bad (fun z => ca z.2)
  · have q8' : D 3 0 0 < 8 := q8
    rw [if_neg (by omega), e] at hP0
    exact hP0 k q rfl I2 (y1.Lf.trans y2.Lf) b2
  · have q8' : ¬ D 3 0 0 < 8 := q8
    rw [if_pos (by omega)] at hP0
    exact hP0 5 s.1 rfl I1 y1.Lf b1
end ZCSb
