/-! THE CLASS: ask -/
section ZCY
variable {d hf pf hs : Nat} {I J : zF} {D : zD} {pg : zG} {W : zD} {P0 : zF → zF → Prop} {Q : Option ax_v → ax_S → Prop} {k i r : Int} {nw : Bool} {cs : List Int} {b : Bool}
theorem sc_weigh_88 (eh : hs = 0 ∨ hs = 1) (hi : 0 ≤ i ∧ i < D 3 0 0) (ok : zD_ok D pg) (hW : wOk D W) (hk : 0 ≤ k ∧ k ≤ 5) (ht : pf_tr 2 cs [] = some [b]) (hb3 : b = decide (k < 3)) (hr : n64 r) (hJ : J 10 7 = r) {I0 : zF} (hS0 : cS D pg hs I0) (h4 : I0 10 4 = k) (h5 : I0 10 5 = us cs) (h6 : I0 10 6 = if nw = true then 0 else 1) (hc : cP I0 4 cs) (hP : ∀ I' J', cGq hs I0 I' → cM D pg hs I' → b11 I' → I' 10 6 = 1 → fk J J' → J' 10 7 = pTk k (pf_res (qv D (W 0 0 0) i) (qq D pg i) cs) i nw r → P0 I' J') : ∀ (m : Nat) (t : Int) (I : zF), 0 ≤ t → t + m = 8 → cGq hs I0 I → I 10 6 = I0 10 6 → cM D pg hs I → b11 I → wV D (W 0 0 0) i 6 I → (us cs ≠ 0 → ∀ a, 0 ≤ a → a < t → I 11 (16 + a).toNat = (if a < D 3 0 0 then (pf_L D pg i a 0 0 0).1 else -1)) → (us cs = 0 → t = 0) → zb_W (d + 7) ax_m59 (88, [some (.inr (.inr (some 10))), some (.inr (.inr (some ((39 + 29 * hs))))), some (.inl i), none, some (.inl t), none], [], zc_S hf pf I J) (zc_Qv hf pf P0) := by
  have a3 := ok.a3 0 0
  have hu01 : us cs = 0 ∨ us cs = 1 := i01
  have run : ∀ I, cGq hs I0 I → I 10 6 = I0 10 6 → cM D pg hs I → b11 I → wV D (W 0 0 0) i 6 I → (us cs ≠ 0 → ∀ a, 0 ≤ a → a < 8 → I 11 (16 + a).toNat = (if a < D 3 0 0 then (pf_L D pg i a 0 0 0).1 else -1)) → zc_i (d + 7) 52 [.inr (.inr (some 4)), .inr (.inr (some 11))] hf pf I J (fun r6 I3 J4 => zc_v (d + 7) 60 [.inr (.inr (some 10)), .inl i, .inl r6] hf pf I3 J4 (fun I7 J8 => zc_Qv hf pf P0 none (zc_S hf pf I7 J8))) := fun I g1 e6 g2 g3 g4 g5 =>
    sc_weigh_run hi ok hW hk (by rw [g1 10 4 (by omega) (by omega) (by omega) (by omega) (by omega) (by omega) (by omega) (by omega) (by omega)]; exact h4) (g1.P hc) ht hb3 g3 g4 g5 hr hJ (nw := nw) (by rw [e6]; exact h6) (fun I' J' f1 f2 f3 f4 => zc_Qv.of (hP I' J' (g1.trans (fun a c q1 q2 q3 _ _ _ _ _ _ => f1 a c q2 q3)) (cM_cong (fun a c q => f1 a c (by omega) (by omega)) g2) (fun j q1 q2 => by rw [f1 11 j (by omega) (by omega)]; exact g3 j q1 q2) f2 f3 f4))
  intro m
  induction m with
  | zero =>
    intro t I h0 hm g1 e6 g2 g3 g4 g5 g6
    refine zk_Question_weigh_88 hf pf I J i t hs eh ?_
    rw [zb_w (x := t) (by omega) (by omega)]
    exact ⟨fun q => absurd q (show ¬ t < 8 by omega), fun _ => run I g1 e6 g2 g3 g4 (fun hu a q1 q2 => g5 hu a q1 (by omega))⟩
  | succ m ih =>
    intro t I h0 hm g1 e6 g2 g3 g4 g5 g6
    refine zk_Question_weigh_88 hf pf I J i t hs eh ?_
    have e5 : I 10 5 = us cs := by rw [g1 10 5 (by omega) (by omega) (by omega) (by omega) (by omega) (by omega) (by omega) (by omega) (by omega)]; exact h5
    have en : I (39 + 29 * hs) 10 = D 3 0 0 := (g1.S eh hS0).L.wn
    rw [e5, en, zb_w (x := t) (by omega) (by omega), zb_w (x := us cs) (by omega) (by omega), zb_w (x := D 3 0 0) (by omega) (by omega), zb_w (x := 16 + t) (by omega) (by omega)]
    have nxt : ∀ I1 x, cGq hs I I1 → I1 10 6 = I 10 6 → cM D pg hs I1 → (∀ j, I1 11 j = I 11 j) → us cs ≠ 0 → x = (if t < D 3 0 0 then (pf_L D pg i t 0 0 0).1 else -1) → zb_W (d + 7) ax_m59 (88, [some (.inr (.inr (some 10))), some (.inr (.inr (some ((39 + 29 * hs))))), some (.inl i), none, some (.inl (t + 1)), none], [], zc_S hf pf (ax_u I1 11 (16 + t).toNat x) J) (zc_Qv hf pf P0) := fun I1 x k1 k6 k2 k3 hu hx => by
      refine ih (t + 1) _ (by omega) (by omega) (g1.trans k1).u (by rw [zu_ne (by omega), k6]; exact e6) (cM_cong (fun a c q => zu_ne (by omega)) k2) (fun j q1 q2 => ?_) (wV_cong (by decide) g4 (fun j hj => by rw [zu_ne (by omega)]; exact k3 j)) (fun _ a q1 q2 => ?_) (fun z => absurd z hu)
      · by_cases e : j = (16 + t).toNat
        · have hb := qq_b (pg := pg) ok (i := i) 0 t
          rw [e, zu_eq, hx]
          split
          · have e2 : qq D pg i 0 t = (pf_L D pg i t 0 0 0).1 := by
              show (if 0 ≤ t ∧ t < D 3 0 0 then (pf_L D pg i t 0 0 0).1 else (-1 : Int)) = _
              exact if_pos (by omega)
            rw [e2] at hb
            exact hb
          · exact ⟨by decide, by decide⟩
        · rw [zu_ne (by omega), k3]; exact g3 j q1 q2
      · by_cases e : a = t
        · rw [e, zu_eq]; exact hx
        · rw [zu_ne (by omega), k3]; exact g5 hu a q1 (by omega)
    refine ⟨fun _ => ⟨fun hu => ?_, fun hu => ?_⟩, fun q => absurd (show t < 8 by omega) q⟩
    · exact run I g1 e6 g2 g3 g4 (fun z => absurd hu z)
    · have hu' : us cs ≠ 0 := hu
      refine ⟨fun q => sc_leastDoubt eh (g1.S eh hS0) g2 hi ⟨h0, q⟩ (fun I1 k1 k2 => ⟨by omega, nxt I1 _ k1.q (k1 10 6 (by omega) (by omega) (by omega) (by omega) (by omega) (by omega)) k2 (fun j => k1 11 j (by omega) (by omega) (by omega) (by omega) (by omega) (by omega)) hu' (if_pos q).symm⟩), fun q => ⟨by omega, nxt I _ (cGq.refl hs I) rfl g2 (fun _ => rfl) hu' (if_neg q).symm⟩⟩
theorem sc_weigh_42 (eh : hs = 0 ∨ hs = 1) (hi : 0 ≤ i ∧ i < D 3 0 0) (ok : zD_ok D pg) {y : Int} {I0 : zF} (hL0 : cL D hs I0) (hQ : ∀ I', (∀ a c, a ≠ 11 → I' a c = I0 a c) → (∀ j, 16 ≤ j → I' 11 j = I0 11 j) → wV D y i 6 I' → zb_W (d + 2) ax_m59 (88, [some (.inr (.inr (some 10))), some (.inr (.inr (some ((39 + 29 * hs))))), some (.inl i), none, some (.inl 0), none], [], zc_S hf pf I' J) Q) : ∀ (m : Nat) (p : Int) (I : zF), 0 ≤ p → p + m = 6 → (∀ a c, a ≠ 11 → I a c = I0 a c) → (∀ j, 16 ≤ j → I 11 j = I0 11 j) → wV D y i p I → zb_W (d + 2) ax_m59 (42, [some (.inr (.inr (some 10))), some (.inr (.inr (some ((39 + 29 * hs))))), some (.inl i), none, some (.inl p), none], [], zc_S hf pf I J) Q := by
  intro m
  induction m with
  | zero =>
    intro p I h0 hm g1 g2 g3
    refine zk_Question_weigh_42 hf pf I J i p hs eh ?_
    rw [zb_w (x := p) (by omega) (by omega)]
    refine ⟨fun q => absurd q (show ¬ p < 6 by omega), fun _ => hQ I g1 g2 ?_⟩
    rw [show (6 : Int) = p by omega]; exact g3
  | succ m ih =>
    intro p I h0 hm g1 g2 g3
    have a4 := ok.a4 i 0
    have a5 := ok.a5 i p
    refine zk_Question_weigh_42 hf pf I J i p hs eh ?_
    rw [zb_w (x := p) (by omega) (by omega), zb_w (x := 10 + p) (by omega) (by omega)]
    have hL : cL D hs I := cL_cong hL0 (fun a c q => by unfold cLk at q; exact g1 a c (by omega))
    have nxt : ∀ x, x = (if p < D 4 i 0 then D 5 i p else -1) → zb_W (d + 2) ax_m59 (42, [some (.inr (.inr (some 10))), some (.inr (.inr (some ((39 + 29 * hs))))), some (.inl i), none, some (.inl (p + 1)), none], [], zc_S hf pf (ax_u I 11 (10 + p).toNat x) J) Q := fun x hx => by
      obtain ⟨v1, v2, v3, v4, v5⟩ := g3
      refine ih (p + 1) _ (by omega) (by omega) (fun a c q => by rw [zu_ne (by omega)]; exact g1 a c q) (fun j q => by rw [zu_ne (by omega)]; exact g2 j q) ⟨?_, ?_, ?_, ?_, fun a q1 q2 => ?_⟩
      · rw [zu_ne (by omega)]; exact v1
      · rw [zu_ne (by omega)]; exact v2
      · rw [zu_ne (by omega)]; exact v3
      · rw [zu_ne (by omega)]; exact v4
      · by_cases e : a = p
        · rw [e, zu_eq]; exact hx
        · rw [zu_ne (by omega)]; exact v5 a q1 (by omega)
    refine ⟨fun _ => sc_letterAt eh ok hL hi ⟨h0, by omega⟩ ?_, fun q => absurd (show p < 6 by omega) q⟩
    rw [zb_w (x := D 5 i p) (by omega) (by omega)]
    by_cases hp : p < D 4 i 0
    · have := ok.2.1.2.2.1 i p hi.1 hi.2 h0 hp
      exact ⟨fun q => absurd q (show ¬ D 5 i p = 0 by omega), fun _ => ⟨by omega, nxt _ (if_pos hp).symm⟩⟩
    · have := ok.2.1.2.2.2.1 i p hi.1 hi.2 (by omega)
      exact ⟨fun _ => ⟨by omega, nxt _ (if_neg hp).symm⟩, fun q => absurd this q⟩
theorem sc_weigh (eh : hs = 0 ∨ hs = 1) (hB : cB D pg W hs I) (hM : cM D pg hs I) (hi : 0 ≤ i ∧ i < D 3 0 0) (hk : 0 ≤ k ∧ k ≤ 5) (ht : pf_tr 2 cs [] = some [b]) (hb3 : b = decide (k < 3)) (hr : n64 r) (hJ : J 10 7 = r) (h4 : I 10 4 = k) (h5 : I 10 5 = us cs) (h6 : I 10 6 = if nw = true then 0 else 1) (hc : cP I 4 cs) (h11 : b11 I) (hP : ∀ I' J', cGq hs I I' → cM D pg hs I' → b11 I' → I' 10 6 = 1 → fk J J' → J' 10 7 = pTk k (pf_res (qv D (W 0 0 0) i) (qq D pg i) cs) i nw r → P0 I' J') : zc_v (d + 8) 59 [.inr (.inr (some 10)), .inr (.inr (some ((39 + 29 * hs)))), .inl i, .inl (W 0 0 0)] hf pf I J P0 := by
  have ok := hB.S.ok
  have L1 : cL D hs (ax_u I 11 (ax_w 8).toNat i) := cL_cong hB.S.L (fun a c q => by unfold cLk at q; exact zu_ne (by omega))
  have L2 : cL D hs (ax_u (ax_u I 11 (ax_w 8).toNat i) 11 (ax_w 9).toNat (D 4 i 0)) := cL_cong L1 (fun a c q => by unfold cLk at q; exact zu_ne (by omega))
  refine zc_inv (M := ax_m59) rfl (Nat.le_of_ble_eq_true rfl) (zk_Question_weigh_0 hf pf I J i (W 0 0 0) hs eh (sc_sizeOf eh ok L1 hi (sc_inkOf eh ok L2 hi ?_)))
  rw [show (ax_w 8).toNat = 8 from rfl, show (ax_w 9).toNat = 9 from rfl, show (ax_w 2).toNat = 2 from rfl, show (ax_w 7).toNat = 7 from rfl]
  refine sc_weigh_42 (I0 := I) eh hi ok hB.S.L (y := W 0 0 0) (fun I1 f1 f2 v1 => ?_) 6 0 _ (by decide) (by decide) (fun a c q => ?_) (fun j q => ?_) ⟨?_, ?_, ?_, ?_, fun a q1 q2 => by omega⟩
  · have g1 : cGq hs I I1 := fun a c q _ _ _ _ _ _ _ _ => f1 a c q
    exact sc_weigh_88 (I0 := I) eh hi ok hB.W hk ht hb3 hr hJ hB.S h4 h5 h6 hc hP 8 0 I1 (by decide) (by decide) g1 (f1 10 6 (by decide)) (cM_cong (fun a c q => f1 a c (by omega)) hM) (fun j q1 q2 => by rw [f2 j q1]; exact h11 j q1 q2) v1 (fun _ a q1 q2 => by omega) (fun _ => rfl)
  · repeat rw [zu_ne (by omega)]
  · repeat rw [zu_ne (by omega)]
  · repeat (first | rw [zu_eq] | rw [zu_ne (by omega)])
  · repeat (first | rw [zu_eq] | rw [zu_ne (by omega)])
  · repeat (first | rw [zu_eq] | rw [zu_ne (by omega)])
  · repeat (first | rw [zu_eq] | rw [zu_ne (by omega)])
end ZCY
