/-! THE REFERENCE: texts -/
def rwt : List (Nat × Nat) := [(3, 0), (4, 2), (5, 3), (6, 4), (7, 5), (8, 6), (9, 21), (10, 28), (11, 27), (12, 11), (13, 12), (14, 13), (15, 14), (16, 15), (17, 16), (18, 17), (19, 18), (20, 19), (21, 20), (22, 9), (23, 10), (24, 25), (25, 24), (26, 23), (27, 22), (28, 7), (29, 8), (30, 26), (51, 29), (52, 30), (53, 31), (54, 32), (55, 33), (56, 34), (57, 23), (58, 24), (59, 25), (60, 22), (61, 7), (62, 8), (63, 11), (64, 12), (65, 13), (66, 14), (67, 15), (68, 16), (69, 17), (70, 18), (71, 19), (72, 20), (73, 9), (74, 10)]
def rW (I : zF) : Prop := ∀ w ks, (w, ks) ∈ rwt → ∀ j, j < ax_sl ks → I w j = ax_sc ks j
theorem rwt_ok : rwt.all (fun x => decide (x.1 < 79) && decide (zr_K x.1 = (21, ax_sl x.2)) && decide (x.2 ∈ wAll) && decide (ax_sl x.2 ≤ 10) && decide (3 ≤ x.1 ∧ x.1 ≠ 31) && (List.range (ax_sl x.2)).all (fun j => decide (0 ≤ ax_sc x.2 j ∧ ax_sc x.2 j ≤ 255))) = true := by decide +kernel
theorem rwt_in {w ks : Nat} (h : (w, ks) ∈ rwt) : w < 79 ∧ zr_K w = (21, ax_sl ks) ∧ ks ∈ wAll ∧ ax_sl ks ≤ 10 ∧ (3 ≤ w ∧ w ≠ 31) ∧ ∀ j, j < ax_sl ks → 0 ≤ ax_sc ks j ∧ ax_sc ks j ≤ 255 := by
  have := List.all_eq_true.mp rwt_ok (w, ks) h
  simp only [Bool.and_eq_true, decide_eq_true_eq] at this
  obtain ⟨⟨⟨⟨⟨a, b⟩, c⟩, d⟩, e⟩, f⟩ := this
  refine ⟨a, b, c, d, e, fun j hj => ?_⟩
  have := List.all_eq_true.mp f j (List.mem_range.mpr hj)
  exact of_decide_eq_true this
/-- the reference reads at s, and nothing is wrong so far -/
def rTx (T : Nat → Int) (n : Int) (s : zs) (I : zF) : Prop := sOk T n s ∧ I 0 3 = n ∧ (∀ j : Nat, (j : Int) < n → I 1 j = T j) ∧ (0 ≤ I 0 2 ∧ I 0 2 ≤ s.1 ∧ rn T n fB (I 0 2) = s.1) ∧ I 0 4 = s.2 ∧ I 0 5 = 0 ∧ rW I ∧ I 0 6 = -1
/-- something is wrong -/
def rBad (k q : Int) (I : zF) : Prop := I 0 5 = k ∧ I 0 6 = q ∧ (1 ≤ k ∧ k ≤ 5)
def rY (I I' : zF) : Prop := ∀ i j, ¬ (i = 0 ∧ (j = 2 ∨ j = 4 ∨ j = 5 ∨ j = 6 ∨ j = 10)) → I' i j = I i j
theorem rY.refl (I : zF) : rY I I := fun _ _ _ => rfl
theorem rY.trans {I I' I2 : zF} (h : rY I I') (h2 : rY I' I2) : rY I I2 := fun i j a => (h2 i j a).trans (h i j a)
theorem rY.u {I I' : zF} (h : rY I I') {j : Nat} {v : Int} (hj : j = 2 ∨ j = 4 ∨ j = 5 ∨ j = 6 ∨ j = 10) : rY I (ax_u I' 0 j v) := fun a b q => by rw [zu_ne (by omega)]; exact h a b q
theorem rW_cong {I I' : zF} (h : rW I) (g : ∀ i j, 3 ≤ i → i ≠ 31 → i < 79 → zr_K i = (21, (zr_K i).2) → I' i j = I i j) : rW I' := fun w ks m j hj => by
  obtain ⟨a, b, _, _, c, _⟩ := rwt_in m
  rw [g w j c.1 c.2 a (by rw [b])]
  exact h w ks m j hj
theorem rY.W {I I' : zF} (h : rY I I') (hW : rW I) : rW I' := rW_cong hW (fun i j a _ _ _ => h i j (by omega))
theorem rTx.ok {T : Nat → Int} {n : Int} {s : zs} {I : zF} (h : rTx T n s I) : sOk T n s := h.1
theorem rTx.n {T : Nat → Int} {n : Int} {s : zs} {I : zF} (h : rTx T n s I) : I 0 3 = n := h.2.1
theorem rTx.t {T : Nat → Int} {n : Int} {s : zs} {I : zF} (h : rTx T n s I) {q : Int} (h0 : 0 ≤ q) (h1 : q < n) : I 1 q.toNat = T q.toNat := h.2.2.1 q.toNat (by omega)
theorem rTx.p {T : Nat → Int} {n : Int} {s : zs} {I : zF} (h : rTx T n s I) : 0 ≤ I 0 2 ∧ I 0 2 ≤ s.1 ∧ rn T n fB (I 0 2) = s.1 := h.2.2.2.1
theorem rTx.g {T : Nat → Int} {n : Int} {s : zs} {I : zF} (h : rTx T n s I) : I 0 4 = s.2 := h.2.2.2.2.1
theorem rTx.e {T : Nat → Int} {n : Int} {s : zs} {I : zF} (h : rTx T n s I) : I 0 5 = 0 := h.2.2.2.2.2.1
theorem rTx.W {T : Nat → Int} {n : Int} {s : zs} {I : zF} (h : rTx T n s I) : rW I := h.2.2.2.2.2.2.1
theorem rTx.e6 {T : Nat → Int} {n : Int} {s : zs} {I : zF} (h : rTx T n s I) : I 0 6 = -1 := h.2.2.2.2.2.2.2
theorem rTx.to {T : Nat → Int} {n : Int} {s s' : zs} {I I' : zF} (h : rTx T n s I) (hY : rY I I') (hs : sOk T n s') (hp : 0 ≤ I' 0 2 ∧ I' 0 2 ≤ s'.1 ∧ rn T n fB (I' 0 2) = s'.1) (hg : I' 0 4 = s'.2) (he : I' 0 5 = 0) (h6 : I' 0 6 = -1) : rTx T n s' I' := ⟨hs, by rw [hY 0 3 (by omega)]; exact h.n, fun j hj => by rw [hY 1 j (by omega)]; exact h.2.2.1 j hj, hp, hg, he, hY.W h.W, h6⟩
theorem sOk.b {T : Nat → Int} {n : Int} {s : zs} (h : sOk T n s) {q : Int} (h0 : 0 ≤ q) (h1 : q < n) : 0 ≤ T q.toNat ∧ T q.toNat ≤ 255 := h.2.2.2.2 q.toNat (by omega)
theorem sOk.n {T : Nat → Int} {n : Int} {s : zs} (h : sOk T n s) : 0 ≤ n ∧ n ≤ 1600 := h.2.2.2.1
theorem lc_in {T : Nat → Int} {n : Int} {s : zs} (h : sOk T n s) {q : Int} (h0 : 0 ≤ q) : -1 ≤ lc T n q ∧ lc T n q ≤ 255 := by
  unfold lc
  split
  · have := h.b h0 (by assumption); omega
  · omega
section ZRA
variable {d : Nat} {I J : zF} {T : Nat → Int} {n : Int} {s : zs} {P : Int → zF → zF → Prop} {P0 : zF → zF → Prop}
theorem sr_fail {k q : Int} (he : I 0 5 = 0) (hk : 1 ≤ k ∧ k ≤ 5) (hP : ∀ I', rY I I' → (∀ j, j ≠ 5 → j ≠ 6 → I' 0 j = I 0 j) → rBad k q I' → P0 I' J) : zr_v (d + 1) 179 [.inr (.inr (some 0)), .inl k, .inl q] I J P0 := by
  refine zr_inv (M := ax_m179) rfl (Nat.le_of_ble_eq_true rfl) (zq_fail_0 I J k q ⟨fun _ => zr_Qv.of (hP _ (((rY.refl I).u (by omega)).u (by omega)) (fun j a b => by rw [zu_ne (by omega), zu_ne (by omega)]) ⟨by rw [zu_ne (by omega), zu_eq], zu_eq, hk⟩), fun q' => absurd (by rw [he]) q'⟩)
theorem sr_fail_b {k q : Int} (he : I 0 5 ≠ 0) (h5 : n32 (I 0 5)) (hP : P0 I J) : zr_v (d + 1) 179 [.inr (.inr (some 0)), .inl k, .inl q] I J P0 := by
  refine zr_inv (M := ax_m179) rfl (Nat.le_of_ble_eq_true rfl) (zq_fail_0 I J k q ?_)
  rw [h5.w]
  exact ⟨fun q' => absurd q' he, fun _ => zr_Qv.of hP⟩
theorem sr_isLetter {c : Int} (hc : n32 c) (hP : P (if fL c = true then 1 else 0) I J) : zr_i (d + 1) 180 [.inl c] I J P := by
  refine zr_ini (M := ax_m180) rfl (Nat.le_of_ble_eq_true rfl) (zq_isLetter_0 I J c ?_)
  unfold fL at hP
  simp only [decide_eq_true_eq] at hP
  rw [hc.w]
  refine ⟨fun q => zr_Qi.of ?_, fun q => ⟨fun q2 => zr_Qi.of ?_, fun q2 => zr_Qi.of ?_⟩⟩
  · have q' : c < 97 := q
    rwa [if_neg (by omega)] at hP
  · have q' : 122 < c := q2
    rwa [if_neg (by omega)] at hP
  · have q' : ¬ c < 97 := q
    have q2' : ¬ 122 < c := q2
    rwa [if_pos (by omega)] at hP
theorem sr_isDigit {c : Int} (hc : n32 c) (hP : P (if fN c = true then 1 else 0) I J) : zr_i (d + 1) 181 [.inl c] I J P := by
  refine zr_ini (M := ax_m181) rfl (Nat.le_of_ble_eq_true rfl) (zq_isDigit_0 I J c ?_)
  unfold fN at hP
  simp only [decide_eq_true_eq] at hP
  rw [hc.w]
  refine ⟨fun q => zr_Qi.of ?_, fun q => ⟨fun q2 => zr_Qi.of ?_, fun q2 => zr_Qi.of ?_⟩⟩
  · have q' : c < 48 := q
    rwa [if_neg (by omega)] at hP
  · have q' : 57 < c := q2
    rwa [if_neg (by omega)] at hP
  · have q' : ¬ c < 48 := q
    have q2' : ¬ 57 < c := q2
    rwa [if_pos (by omega)] at hP
theorem sr_look_l {I0 : zF} (h0 : rTx T n s I0) {Q : Option ax_v → ax_S → Prop} (hQ : ∀ I', rY I0 I' → rTx T n s I' → I' 0 2 = s.1 → Q (some (.inl (lc T n s.1))) (zr_S I' J)) : ∀ (m : Nat) (I : zF), rY I0 I → rTx T n s I → (n - I 0 2).toNat = m → zb_W d ax_m182 (0, [some (.inr (.inr (some 0)))], [], zr_S I J) Q := by
  have hn := h0.ok.n
  have hsp := h0.ok.1
  intro m
  induction m with
  | zero =>
    intro I hY hL hm
    have hp := hL.p
    have e : I 0 2 = s.1 := by omega
    refine zq_look_0 I J ?_
    rw [hL.n, zb_w (x := I 0 2) (by omega) (by omega), zb_w (x := n) (by omega) (by omega)]
    refine ⟨fun q => by omega, fun _ => zq_look_52 I J ?_⟩
    rw [hL.n, zb_w (x := I 0 2) (by omega) (by omega), zb_w (x := n) (by omega) (by omega)]
    refine ⟨fun q => by omega, fun _ => ?_⟩
    have := hQ I hY hL e
    unfold lc at this
    rwa [if_neg (by omega)] at this
  | succ m ih =>
    intro I hY hL hm
    have hp := hL.p
    have ht := hL.t hp.1 (by omega)
    have hb := h0.ok.b hp.1 (show I 0 2 < n by omega)
    have stay : ¬ (fB (T (I 0 2).toNat) = true) → zb_W d ax_m182 (52, [some (.inr (.inr (some 0)))], [], zr_S I J) Q := by
      intro c
      have e : I 0 2 = s.1 := by rw [← hp.2.2]; exact (rn_out (fun q => c q.2)).symm
      refine zq_look_52 I J ?_
      rw [hL.n, zb_w (x := I 0 2) (by omega) (by omega), zb_w (x := n) (by omega) (by omega), ht]
      refine ⟨fun _ => ⟨by omega, ?_⟩, fun q => absurd (show I 0 2 < n by omega) q⟩
      have := hQ I hY hL e
      unfold lc at this
      rw [← e, if_pos (by omega)] at this
      exact this
    have go : fB (T (I 0 2).toNat) = true → zb_W d ax_m182 (39, [some (.inr (.inr (some 0)))], [], zr_S I J) Q := by
      intro c
      have e := rn_in (show I 0 2 < n by omega) c
      have l := rn_le T n fB (I 0 2 + 1)
      refine zq_look_39 I J (ih _ (hY.u (by omega)) (hL.to ((rY.refl I).u (by omega)) h0.ok ?_ ?_ ?_ ?_) ?_)
      · rw [zu_eq, ← e]; exact ⟨by omega, by omega, hp.2.2⟩
      · rw [zu_ne (by omega)]; exact hL.g
      · rw [zu_ne (by omega)]; exact hL.e
      · rw [zu_ne (by omega)]; exact hL.e6
      · rw [zu_eq]; omega
    have fb : fB (T (I 0 2).toNat) = true ↔ (T (I 0 2).toNat = 10 ∨ T (I 0 2).toNat = 32) := by unfold fB; rw [decide_eq_true_eq]
    refine zq_look_0 I J ?_
    rw [hL.n, zb_w (x := I 0 2) (by omega) (by omega), zb_w (x := n) (by omega) (by omega), ht, zb_w (x := T (I 0 2).toNat) (by omega) (by omega)]
    refine ⟨fun _ => ⟨by omega, fun q => go (fb.mpr (Or.inl q)), fun q => ⟨by omega, fun q2 => go (fb.mpr (Or.inr q2)), fun q2 => stay (fun c => ?_)⟩⟩, fun q => absurd (show I 0 2 < n by omega) q⟩
    rcases fb.mp c with r | r
    · exact q r
    · exact q2 r
theorem sr_look (hL : rTx T n s I) (hP : ∀ I', rY I I' → rTx T n s I' → I' 0 2 = s.1 → P (lc T n s.1) I' J) : zr_i (d + 1) 182 [.inr (.inr (some 0))] I J P := zr_ini (M := ax_m182) rfl (Nat.le_of_ble_eq_true rfl) (sr_look_l hL (fun I' a b c => zr_Qi.of (hP I' a b c)) _ I (rY.refl I) hL rfl)
theorem sr_isHere_76 {w ks : Nat} (hw : (w, ks) ∈ rwt) (hL : rTx T n s I) (h2 : I 0 2 = s.1) (hlen : s.1 + (ax_sl ks : Nat) ≤ n) {Q : Option ax_v → ax_S → Prop} : ∀ (m j : Nat), j + m = ax_sl ks → Q (some (.inl (if lwm T ks s.1 m j = true then 1 else 0))) (zr_S I J) → zb_W d ax_m183 (76, [some (.inr (.inr (some 0))), some (.inr (.inr (some w))), none, some (.inl ((j : Int)))], [], zr_S I J) Q := by
  obtain ⟨w1, w2, _, w4, _, w6⟩ := rwt_in hw
  have hn := hL.ok.n
  have hsp := hL.ok.1
  intro m
  induction m with
  | zero =>
    intro j hj hQ
    refine zq_isHere_76 I J _ w _ w1 w2 ?_
    rw [zb_w (x := (j : Int)) (by omega) (by omega), zb_w (x := ((ax_sl ks : Nat) : Int)) (by omega) (by omega)]
    exact ⟨fun q => by omega, fun _ => hQ⟩
  | succ m ih =>
    intro j hj hQ
    have hb := hL.ok.b (q := s.1 + j) (by omega) (by omega)
    have hc := w6 j (by omega)
    refine zq_isHere_76 I J _ w _ w1 w2 ?_
    rw [h2, zb_w (x := (j : Int)) (by omega) (by omega), zb_w (x := ((ax_sl ks : Nat) : Int)) (by omega) (by omega), zb_w (x := s.1 + (j : Int)) (by omega) (by omega), hL.t (by omega) (by omega), show (j : Int).toNat = j by omega, hL.W w ks hw j (by omega), zb_w (x := T (s.1 + (j : Int)).toNat) (by omega) (by omega), zb_w (x := ax_sc ks j) (by omega) (by omega)]
    unfold lwm at hQ
    refine ⟨fun _ => ⟨by omega, by omega, fun q => ?_, fun q => ?_⟩, fun q => absurd (show (j : Int) < (ax_sl ks : Nat) by omega) q⟩
    · rw [if_pos q] at hQ
      have := ih (j + 1) (by omega) hQ
      rw [show ((j + 1 : Nat) : Int) = (j : Int) + 1 by omega] at this
      exact this
    · rw [if_neg q] at hQ
      exact hQ
theorem sr_isHere_35 {w ks : Nat} (hw : (w, ks) ∈ rwt) (hL : rTx T n s I) (h2 : I 0 2 = s.1) {Q : Option ax_v → ax_S → Prop} : ∀ (m : Nat) (q : Int), (n - q).toNat = m → s.1 ≤ q → q ≤ n → zb_W (d + 1) ax_m183 (61, [some (.inr (.inr (some 0))), some (.inr (.inr (some w))), some (.inl (rn T n fL q)), none], [], zr_S I J) Q → zb_W (d + 1) ax_m183 (35, [some (.inr (.inr (some 0))), some (.inr (.inr (some w))), some (.inl q), none], [], zr_S I J) Q := by
  obtain ⟨w1, w2, _⟩ := rwt_in hw
  have hn := hL.ok.n
  have hsp := hL.ok.1
  intro m
  induction m with
  | zero =>
    intro q hm h0 hqn hQ
    rw [rn_out (by omega)] at hQ
    refine zq_isHere_35 I J q w _ w1 w2 ?_
    rw [hL.n, zb_w (x := q) (by omega) (by omega), zb_w (x := n) (by omega) (by omega)]
    exact ⟨fun c => by omega, fun _ => hQ⟩
  | succ m ih =>
    intro q hm h0 hqn hQ
    have hb := hL.ok.b (q := q) (by omega) (by omega)
    refine zq_isHere_35 I J q w _ w1 w2 ?_
    rw [hL.n, zb_w (x := q) (by omega) (by omega), zb_w (x := n) (by omega) (by omega), hL.t (by omega) (by omega)]
    refine ⟨fun _ => ⟨by omega, sr_isLetter ⟨by omega, by omega⟩ (bc (fun c => ?_) (fun c => ?_))⟩, fun c => absurd (show q < n by omega) c⟩
    · rw [rn_in (by omega) c] at hQ
      exact ih (q + 1) (by omega) (by omega) (by omega) hQ
    · rw [rn_out (fun r => c r.2)] at hQ
      exact hQ
theorem sr_isHere {w ks : Nat} (hw : (w, ks) ∈ rwt) (hL : rTx T n s I) (hP : ∀ I', rY I I' → rTx T n s I' → I' 0 2 = s.1 → P (if wd T n s = (ks : Int) then 1 else 0) I' J) : zr_i (d + 2) 183 [.inr (.inr (some 0)), .inr (.inr (some w))] I J P := by
  obtain ⟨w1, w2, w3, w4, w5, w6⟩ := rwt_in hw
  have hn := hL.ok.n
  have hsp := hL.ok.1
  have hs2 := hL.ok.2.1
  have hP' : ∀ I', rY I I' → rTx T n s I' → I' 0 2 = s.1 → P (if isW T n s ks = true then 1 else 0) I' J := by
    intro I' a b c
    have := hP I' a b c
    rw [isW_wd w3]
    simp only [decide_eq_true_eq]
    exact this
  unfold isW at hP'
  simp only [Bool.and_eq_true, decide_eq_true_eq] at hP'
  refine zr_ini (M := ax_m183) rfl (Nat.le_of_ble_eq_true rfl) (zq_isHere_0 I J w _ w1 w2 ⟨fun _ => sr_look hL (fun I1 hY1 hL1 e1 => ?_), fun q => absurd (by rw [hL.e]) q⟩)
  have hc := lc_in hL.ok hsp.1
  have hP1 := hP' I1 hY1 hL1 e1
  refine sr_isLetter ⟨by omega, by omega⟩ (bc (fun c => ?_) (fun c => zr_Qi.of ?_))
  · have lt : s.1 < n ∧ fL (T s.1.toNat) = true := by
      by_cases q : s.1 < n
      · refine ⟨q, ?_⟩
        unfold lc at c
        rwa [if_pos q] at c
      · unfold lc at c
        rw [if_neg q] at c
        exact absurd c (by decide)
    rw [e1, hL1.g, zb_w (x := s.1) (by omega) (by omega), zb_w (x := s.2) (by omega) (by omega)]
    refine ⟨fun q => zr_Qi.of ?_, fun q => sr_isHere_35 hw hL1 e1 _ s.1 rfl (Int.le_refl _) hsp.2 ?_⟩
    · rwa [if_neg (fun r => r.1.2.1 q)] at hP1
    · have r1 := rn_le T n fL s.1
      have r2 := rn_n (T := T) (f := fL) hsp.2
      refine zq_isHere_61 I1 J _ w _ w1 w2 ?_
      rw [e1, zb_w (x := rn T n fL s.1 - s.1) (by omega) (by omega), zb_w (x := ((ax_sl ks : Nat) : Int)) (by omega) (by omega)]
      refine ⟨fun r => ?_, fun r => zr_Qi.of ?_⟩
      · refine sr_isHere_76 hw hL1 e1 (by omega) (ax_sl ks) 0 (by omega) (zr_Qi.of ?_)
        have ec : (((s.1 < n ∧ fL (T s.1.toNat) = true) ∧ s.1 ≠ s.2 ∧ rn T n fL s.1 = s.1 + (ax_sl ks : Nat)) ∧ lwm T ks s.1 (ax_sl ks) 0 = true) ↔ lwm T ks s.1 (ax_sl ks) 0 = true := ⟨fun z => z.2, fun z => ⟨⟨lt, q, by omega⟩, z⟩⟩
        by_cases z : lwm T ks s.1 (ax_sl ks) 0 = true
        · rw [if_pos z]; rwa [if_pos (ec.mpr z)] at hP1
        · rw [if_neg z]; rwa [if_neg (fun y => z (ec.mp y))] at hP1
      · rwa [if_neg (fun z => r (by omega))] at hP1
  · rw [if_neg (fun z => c ?_)] at hP1
    · exact hP1
    · unfold lc; rw [if_pos z.1.1.1]; exact z.1.1.2
theorem wd_len {ks : Nat} (m : ks ∈ wAll) (h : wd T n s = (ks : Int)) : s.1 < n ∧ rn T n fL s.1 = s.1 + (ax_sl ks : Nat) ∧ fL (T s.1.toNat) = true ∧ s.1 ≠ s.2 := by
  have := isW_wd (T := T) (n := n) (s := s) m
  rw [decide_eq_true h] at this
  unfold isW at this
  rw [Bool.and_eq_true, decide_eq_true_eq] at this
  exact ⟨this.1.1.1, this.1.2.2, this.1.1.2, this.1.2.1⟩
/-- behind the word that is here -/
def aWd (T : Nat → Int) (n : Int) (s : zs) : zs := aW T n (rn T n fL s.1)
theorem aWd_ok (h : sOk T n s) : sOk T n (aWd T n s) := aW_ok h ⟨rn_le _ _ _ _, rn_n h.1.2⟩
theorem sr_takes {w ks : Nat} (hw : (w, ks) ∈ rwt) (hL : rTx T n s I) (hP1 : wd T n s = (ks : Int) → ∀ I', rY I I' → rTx T n (aWd T n s) I' → P 1 I' J) (hP0 : wd T n s ≠ (ks : Int) → ∀ I', rY I I' → rTx T n s I' → I' 0 2 = s.1 → P 0 I' J) : zr_i (d + 3) 184 [.inr (.inr (some 0)), .inr (.inr (some w))] I J P := by
  obtain ⟨w1, w2, w3, w4, w5, w6⟩ := rwt_in hw
  have hsp := hL.ok.1
  refine zr_ini (M := ax_m184) rfl (Nat.le_of_ble_eq_true rfl) (zq_takes_0 I J w _ w1 w2 (sr_isHere hw hL (fun I1 hY1 hL1 e1 => bc (fun c => zr_Qi.of ?_) (fun c => zr_Qi.of (hP0 c I1 hY1 hL1 e1)))))
  obtain ⟨l1, l2, _⟩ := wd_len w3 c
  refine hP1 c _ ((hY1.u (by omega)).u (by omega)) (hL1.to (((rY.refl I1).u (by omega)).u (by omega)) (aWd_ok hL.ok) ?_ ?_ ?_ ?_)
  · rw [zu_ne (by omega), zu_eq, e1, ← l2]
    have := rn_le T n fL s.1
    have := rn_le T n fB (rn T n fL s.1)
    exact ⟨by omega, by show _ ≤ rn T n fB (rn T n fL s.1); omega, rfl⟩
  · rw [zu_eq, zu_eq, e1, ← l2]; rfl
  · rw [zu_ne (by omega), zu_ne (by omega)]; exact hL1.e
  · rw [zu_ne (by omega), zu_ne (by omega)]; exact hL1.e6
theorem sr_asks {w ks : Nat} (hw : (w, ks) ∈ rwt) (hL : rTx T n s I) (hP1 : wd T n s = (ks : Int) → ∀ I', rY I I' → rTx T n (aWd T n s) I' → P0 I' J) (hP0 : wd T n s ≠ (ks : Int) → ∀ I', rY I I' → rBad 1 s.1 I' → P0 I' J) : zr_v (d + 4) 185 [.inr (.inr (some 0)), .inr (.inr (some w))] I J P0 := by
  obtain ⟨w1, w2, _⟩ := rwt_in hw
  refine zr_inv (M := ax_m185) rfl (Nat.le_of_ble_eq_true rfl) (zq_asks_0 I J w _ w1 w2 ⟨fun _ => sr_takes hw hL (fun c I1 hY1 hL1 => b1 (zr_Qv.of (hP1 c I1 hY1 hL1))) (fun c I1 hY1 hL1 e1 => b0 ?_), fun q => absurd (by rw [hL.e]) q⟩)
  rw [e1]
  exact sr_fail hL1.e (by decide) (fun I2 hY2 _ hb => zr_Qv.of (hP0 c I2 (hY1.trans hY2) hb))
theorem rBad.ne0 {k q : Int} (h : rBad k q I) : ¬ ax_w (I 0 5) = 0 := by
  obtain ⟨a, _, c⟩ := h
  rw [a, zb_w (by omega) (by omega)]
  omega
theorem rBad.ne1 {k q : Int} (h : rBad k q I) : ¬ ax_w (I 0 5) = ax_w 0 := h.ne0
theorem sr_asks_b {w ks : Nat} (hw : (w, ks) ∈ rwt) {k q : Int} (hB : rBad k q I) (hP : P0 I J) : zr_v (d + 1) 185 [.inr (.inr (some 0)), .inr (.inr (some w))] I J P0 := by
  obtain ⟨w1, w2, _⟩ := rwt_in hw
  exact zr_inv (M := ax_m185) rfl (Nat.le_of_ble_eq_true rfl) (zq_asks_0 I J w _ w1 w2 ⟨fun e => absurd e hB.ne1, fun _ => zr_Qv.of hP⟩)
theorem sr_takesSign {c : Int} (hc : 0 ≤ c ∧ c ≤ 255) (hL : rTx T n s I) (hP1 : lc T n s.1 = c → ∀ I', rY I I' → rTx T n (aS T n s) I' → I' 0 2 = s.1 + 1 → P 1 I' J) (hP0 : lc T n s.1 ≠ c → ∀ I', rY I I' → rTx T n s I' → I' 0 2 = s.1 → P 0 I' J) : zr_i (d + 2) 186 [.inr (.inr (some 0)), .inl c] I J P := by
  have hsp := hL.ok.1
  have hl := lc_in hL.ok hsp.1
  refine zr_ini (M := ax_m186) rfl (Nat.le_of_ble_eq_true rfl) (zq_takesSign_0 I J c ⟨fun _ => sr_look hL (fun I1 hY1 hL1 e1 => be ⟨by omega, by omega⟩ ⟨by omega, by omega⟩ (fun e => zr_Qi.of ?_) (fun e => zr_Qi.of (hP0 e I1 hY1 hL1 e1))), fun q => absurd (by rw [hL.e]) q⟩)
  have lt := (lc_lt e (by omega)).1
  have := rn_le T n fB (s.1 + 1)
  refine hP1 e _ (hY1.u (by omega)) (hL1.to ((rY.refl I1).u (by omega)) (aS_ok hL.ok lt) ?_ ?_ ?_ ?_) ?_
  · rw [zu_eq, e1]; exact ⟨by omega, this, rfl⟩
  · rw [zu_ne (by omega)]; exact hL1.g
  · rw [zu_ne (by omega)]; exact hL1.e
  · rw [zu_ne (by omega)]; exact hL1.e6
  · rw [zu_eq, e1]
theorem sr_takesSign_b {c : Int} {k q : Int} (hB : rBad k q I) (hP : P 0 I J) : zr_i (d + 1) 186 [.inr (.inr (some 0)), .inl c] I J P := zr_ini (M := ax_m186) rfl (Nat.le_of_ble_eq_true rfl) (zq_takesSign_0 I J c ⟨fun e => absurd e hB.ne1, fun _ => zr_Qi.of hP⟩)
theorem sr_asksSign {c : Int} (hc : 0 ≤ c ∧ c ≤ 255) (hL : rTx T n s I) (hP1 : lc T n s.1 = c → ∀ I', rY I I' → rTx T n (aS T n s) I' → P0 I' J) (hP0 : lc T n s.1 ≠ c → ∀ I', rY I I' → rBad 1 s.1 I' → P0 I' J) : zr_v (d + 3) 187 [.inr (.inr (some 0)), .inl c] I J P0 := by
  refine zr_inv (M := ax_m187) rfl (Nat.le_of_ble_eq_true rfl) (zq_asksSign_0 I J c ⟨fun _ => sr_takesSign hc hL (fun e I1 hY1 hL1 _ => b1 (zr_Qv.of (hP1 e I1 hY1 hL1))) (fun e I1 hY1 hL1 e1 => b0 ?_), fun q => absurd (by rw [hL.e]) q⟩)
  rw [e1]
  exact sr_fail hL1.e (by decide) (fun I2 hY2 _ hb => zr_Qv.of (hP0 e I2 (hY1.trans hY2) hb))
theorem sr_asksSign_b {c : Int} {k q : Int} (hB : rBad k q I) (hP : P0 I J) : zr_v (d + 1) 187 [.inr (.inr (some 0)), .inl c] I J P0 := zr_inv (M := ax_m187) rfl (Nat.le_of_ble_eq_true rfl) (zq_asksSign_0 I J c ⟨fun e => absurd e hB.ne1, fun _ => zr_Qv.of hP⟩)
end ZRA
