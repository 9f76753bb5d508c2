/-! THE CLASS: ask, whole -/
def zc_lp (d m : Nat) (as : List ax_v) (hq pq : Nat) (I J : zF) (P : Nat → Int → zF → zF → Prop) : Prop := zb_C d m as (zc_S hq pq I J) (fun v s' => ∃ p x I' J', v = some (.inr (.inl x)) ∧ s' = zc_S hq p I' J' ∧ P p x I' J')
def cAk (hs : Nat) (I I' : zF) : Prop := ∀ i j, i ≠ 11 → i ≠ 6 → i ≠ 5 → ¬ (i = 10 ∧ (j = 4 ∨ j = 5 ∨ j = 6)) → ¬ (i = 3 ∧ 1 ≤ j ∧ j ≤ 7) → ¬ (i = 4 ∧ j = 2) → ¬ (i = 7 ∧ j = 2) → ¬ (i = 1 ∧ j = 1) → i ≠ 44 + 29 * hs → i ≠ 47 + 29 * hs → i ≠ 60 + 29 * hs → i ≠ 61 + 29 * hs → i ≠ 67 + 29 * hs → ¬ (48 + 29 * hs ≤ i ∧ i ≤ 57 + 29 * hs) → I' i j = I i j
theorem cAk.q {hs : Nat} {I I' I2 : zF} (h : cAk hs I I') (h2 : cGq hs I' I2) : cAk hs I I2 := fun i j a1 a2 a3 a4 a5 a6 a7 a8 a9 b1 b2 b3 b4 b5 => (h2 i j a1 a2 (by omega) a9 b1 b2 b3 b4 b5).trans (h i j a1 a2 a3 a4 a5 a6 a7 a8 a9 b1 b2 b3 b4 b5)
theorem cAk.B {D : zD} {pg : zG} {W : zD} {hs : Nat} {I I' : zF} (h : cAk hs I I') (hB : cB D pg W hs I) : cB D pg W hs I' := by
  have g : ∀ i j, 12 ≤ i → i ≠ 44 + 29 * hs → i ≠ 47 + 29 * hs → i ≠ 60 + 29 * hs → i ≠ 61 + 29 * hs → i ≠ 67 + 29 * hs → ¬ (48 + 29 * hs ≤ i ∧ i ≤ 57 + 29 * hs) → I' i j = I i j := fun i j q a b c e f k => h i j (by omega) (by omega) (by omega) (by omega) (by omega) (by omega) (by omega) (by omega) a b c e f k
  refine ⟨cS_cong hB.S (fun i j q => by unfold cLk at q; exact g i j (by omega) (by omega) (by omega) (by omega) (by omega) (by omega) (by omega)) (g _ _ (by omega) (by omega) (by omega) (by omega) (by omega) (by omega) (by omega)) (fun j => g _ _ (by omega) (by omega) (by omega) (by omega) (by omega) (by omega) (by omega)) (g _ _ (by omega) (by omega) (by omega) (by omega) (by omega) (by omega) (by omega)) (fun j => g _ _ (by omega) (by omega) (by omega) (by omega) (by omega) (by omega) (by omega)), hB.W, ?_⟩
  rw [show I' 13 = I 13 from funext (fun j => g 13 j (by omega) (by omega) (by omega) (by omega) (by omega) (by omega) (by omega))]
  exact hB.2.2
section ZCZ
variable {T : Nat → Int} {n : Int} {d hf pf : Nat} {I J : zF} {D : zD} {pg : zG} {W : zD} {P : Nat → Int → zF → zF → Prop} {Q : Option ax_v → ax_S → Prop} {k : Int} {cs : List Int} {b : Bool}
theorem sc_ask_33 (eh : hf = 0 ∨ hf = 1) (hk : 0 ≤ k ∧ k ≤ 5) (ht : pf_tr 2 cs [] = some [b]) (hb3 : b = decide (k < 3)) {fin : Int} {I0 J0 : zF} (hB0 : cB D pg W hf I0) (hc : cP I0 4 cs) (h4 : I0 10 4 = k) (h5 : I0 10 5 = us cs) (hQ : ∀ I' J', cGq hf I0 I' → cM D pg hf I' → b11 I' → fk J0 J' → Q (some (.inr (.inl fin))) (zc_S hf pf I' J')) : ∀ (m : Nat) (i r : Int) (nw : Bool) (I J : zF), 0 ≤ i → i + m = D 3 0 0 → cGq hf I0 I → cM D pg hf I → b11 I → fk J0 J → I 10 6 = (if nw = true then 0 else 1) → J 10 7 = r → (-(1000000 * (i + 1)) ≤ r ∧ r ≤ 1000000 * (i + 1)) → pAn D pg (W 0 0 0) k cs m i nw r = fin → zb_W (d + 8) ax_m155 (33, [some (.inr (.inr (some 0))), none, some (.inl i)], [], zc_S hf pf I J) Q := by
  intro m
  induction m with
  | zero =>
    intro i r nw I J h0 hm g1 g2 g3 g4 g6 g7 hr hfin
    have a3 := hB0.S.ok.a3 0 0
    refine zkp_Top_ask_33 hf pf I J i eh ?_
    rw [(g1.S eh hB0.S).L.wn, zb_w (x := i) (by omega) (by omega), zb_w (x := D 3 0 0) (by omega) (by omega)]
    refine ⟨fun q => by omega, fun _ => zc_inl (M := ax_m61) rfl (Nat.le_of_ble_eq_true rfl) (zk_Question_answer_0 hf pf I J (zc_Ql.of ?_))⟩
    rw [g7, show r = fin from hfin]
    exact hQ I J g1 g2 g3 g4
  | succ m ih =>
    intro i r nw I J h0 hm g1 g2 g3 g4 g6 g7 hr hfin
    have a3 := hB0.S.ok.a3 0 0
    have hi : 0 ≤ i ∧ i < D 3 0 0 := by omega
    have ok := hB0.S.ok
    have e13 : I 13 = I0 13 := funext (fun j => g1 13 j (by omega) (by omega) (by omega) (by omega) (by omega) (by omega) (by omega) (by omega) (by omega))
    have hB : cB D pg W hf I := ⟨g1.S eh hB0.S, hB0.W, by rw [e13]; exact hB0.2.2⟩
    have g10 : ∀ j, j ≠ 6 → I 10 j = I0 10 j := fun j hj => g1 10 j (by omega) (by omega) (by omega) (by omega) (by omega) (by omega) (by omega) (by omega) (by omega)
    refine zkp_Top_ask_33 hf pf I J i eh ?_
    rw [hB.S.L.wn, zb_w (x := i) (by omega) (by omega), zb_w (x := D 3 0 0) (by omega) (by omega)]
    have hv := (pf_res_ok (kd := 2) (fun p _ => qv_b ok hB0.W hi p) (fun c a => qq_b (i := i) ok c a) ht).1
    have hb := pTk_b (k := k) (nw := nw) hv ⟨hi.1, by omega⟩ hr
    refine ⟨fun _ => sc_yearNow hB.y (sc_weigh eh hB g2 hi hk ht hb3 ⟨by omega, by omega⟩ g7 (by rw [g10 4 (by decide)]; exact h4) (by rw [g10 5 (by decide)]; exact h5) g6 (g1.P hc) g3 (fun I1 J1 k1 k2 k3 k4 k5 k6 => ?_)), fun q => by omega⟩
    exact ih (i + 1) _ false I1 J1 (by omega) (by omega) (g1.trans k1) k2 k3 (fun a c q => (k5 a c q).trans (g4 a c q)) k4 k6 (by rw [show i + 1 + 1 = i + 2 by omega]; exact hb) hfin
theorem sc_ask (eh : hf = 0 ∨ hf = 1) (hB : cB D pg W hf I) (hM : cM D pg hf I) (hT : tC T n I) (h11 : b11 I) (hb : ∀ p k q, pAsk T n = .inl (k, q) → ∀ I', cAk hf I I' → cM D pg hf I' → b11 I' → I' 1 1 = 0 → I' 3 6 = k → I' 3 7 = q → P p (-1000000000000000) I' J) (hg : ∀ k cs, pAsk T n = .inr (k, cs) → ∀ I' J', cAk hf I I' → cM D pg hf I' → b11 I' → I' 1 1 = 0 → I' 3 6 = 0 → I' 3 7 = -1 → fk J J' → P 4 (an_ask D pg W k cs) I' J') : zc_lp (d + 37) 155 [.inr (.inr (some 0))] hf pf I J P := by
  have hs := s0_ok hT
  have a3 := hB.S.ok.a3 0 0
  have fr : ∀ {I1 : zF}, cQf I I1 → cAk hf I (ax_u I1 1 1 0) := fun f i j _ _ a5 a10 a3 a4 a7 a1 _ _ _ _ _ _ => by rw [zu_ne (by omega)]; exact f i j a3 (by omega) a5 a4 a7
  have fM : ∀ {I1 : zF}, cQf I I1 → cM D pg hf (ax_u I1 1 1 0) := fun f => cM_cong (fun i j q => by rw [zu_ne (by omega)]; exact f i j (by omega) (by omega) (by omega) (by omega) (by omega)) hM
  have f11 : ∀ {I1 : zF}, cQf I I1 → b11 (ax_u I1 1 1 0) := fun f j q1 q2 => by rw [zu_ne (by omega), f 11 j (by omega) (by omega) (by omega) (by omega) (by omega)]; exact h11 j q1 q2
  refine zb_in (M := ax_m155) rfl (Nat.le_of_ble_eq_true rfl) (zkp_Top_ask_0 hf pf I J (sc_qread hT (fun p k q e I1 f1 b1 => sc_cut (by rw [f1 1 1 (by omega) (by omega) (by omega) (by omega) (by omega), hT.1]; have := hT.2.1; omega) (b0 ⟨p, _, _, J, rfl, rfl, hb p k q e _ (fr f1) (fM f1) (f11 f1) zu_eq (by rw [zu_ne (by omega)]; exact b1.1) (by rw [zu_ne (by omega)]; exact b1.2)⟩)) (fun k cs e I1 f1 z6 z7 z4 z5 c1 => sc_cut (by rw [f1 1 1 (by omega) (by omega) (by omega) (by omega) (by omega), hT.1]; have := hT.2.1; omega) (b1 ?_))))
  obtain ⟨hk, ht, hcl⟩ := pAsk_ok hs e
  have go : ∀ r : Int, r = (if k < 2 then -1 else 0) → zb_W (d + 36) ax_m155 (33, [some (.inr (.inr (some 0))), none, some (.inl 0)], [], zc_S hf 4 (ax_u (ax_u I1 1 1 0) 10 6 0) (ax_u J 10 7 r)) (fun v s' => ∃ p x I' J', v = some (.inr (.inl x)) ∧ s' = zc_S hf p I' J' ∧ P p x I' J') := by
    intro r hr
    have A0 : cAk hf I (ax_u (ax_u I1 1 1 0) 10 6 0) := fun i j a1 a2 a3 a4 a5 a6 a7 a8 a9 b1 b2 b3 b4 b5 => by rw [zu_ne (by omega)]; exact fr f1 i j a1 a2 a3 a4 a5 a6 a7 a8 a9 b1 b2 b3 b4 b5
    refine sc_ask_33 (I0 := ax_u (ax_u I1 1 1 0) 10 6 0) (J0 := ax_u J 10 7 r) eh hk ht rfl (fin := an_ask D pg W k cs) (A0.B hB) (cP_cong (by rw [zu_ne (by omega), zu_ne (by omega)]) (fun j => by rw [zu_ne (by omega), zu_ne (by omega)]) c1) (by rw [zu_ne (by omega), zu_ne (by omega)]; exact z4) (by rw [zu_ne (by omega), zu_ne (by omega)]; exact z5) (fun I2 J2 q1 q2 q3 q4 => ⟨4, _, I2, J2, rfl, rfl, hg k cs e I2 J2 (A0.q q1) q2 q3 ?_ ?_ ?_ (fun a c q => by rw [q4 a c q]; exact zu_ne (by omega))⟩) (D 3 0 0).toNat 0 r true _ _ (by decide) (by omega) (cGq.refl _ _) (cM_cong (fun a c q => zu_ne (by omega)) (fM f1)) (fun j q1 q2 => by rw [zu_ne (by omega)]; exact f11 f1 j q1 q2) (fun _ _ _ => rfl) zu_eq zu_eq (by rw [hr]; split <;> omega) (by rw [hr]; rfl)
    · rw [q1 1 1 (by omega) (by omega) (by omega) (by omega) (by omega) (by omega) (by omega) (by omega) (by omega), zu_ne (by omega), zu_eq]
    · rw [q1 3 6 (by omega) (by omega) (by omega) (by omega) (by omega) (by omega) (by omega) (by omega) (by omega), zu_ne (by omega), zu_ne (by omega)]; exact z6
    · rw [q1 3 7 (by omega) (by omega) (by omega) (by omega) (by omega) (by omega) (by omega) (by omega) (by omega), zu_ne (by omega), zu_ne (by omega)]; exact z7
  refine zc_inv (M := ax_m58) rfl (Nat.le_of_ble_eq_true rfl) (zk_Question_beginAnswer_0 hf 4 (ax_u I1 1 1 0) J ?_)
  have e4 : (ax_u (ax_u I1 1 1 0) 10 6 0) 10 4 = k := by rw [zu_ne (by omega), zu_ne (by omega)]; exact z4
  rw [e4, zb_w (x := k) (by omega) (by omega)]
  refine ⟨fun q => zc_Qv.of (go (-1) ?_), fun q => ⟨fun q2 => zc_Qv.of (go (-1) ?_), fun q2 => zc_Qv.of (go 0 ?_)⟩⟩
  · exact (if_pos (show k < 2 by have : k = 0 := q; omega)).symm
  · exact (if_pos (show k < 2 by have : k = 1 := q2; omega)).symm
  · exact (if_neg (show ¬ k < 2 by have : ¬ k = 0 := q; have : ¬ k = 1 := q2; omega)).symm
end ZCZ
