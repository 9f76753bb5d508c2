/-! THE REFERENCE: the words of formulas -/
section ZRD
variable {d : Nat} {I J : zF} {T : Nat → Int} {n : Int} {s : zs} {P : Int → zF → zF → Prop} {P0 : zF → zF → Prop}
theorem sr_qWordHere (hL : rTx T n s I) (hP : ∀ I', rY I I' → rTx T n s I' → I' 0 2 = s.1 → P (vOf (wd T n s)) I' J) : zr_i (d + 3) 284 [.inr (.inr (some 0))] I J P := by
  have fin : ∀ I1 (y : rY I I1) (h : rTx T n s I1) (e : I1 0 2 = s.1) (v : Int), vOf (wd T n s) = v → P v I1 J := by
    intro I1 y h e v hv
    rw [← hv]
    exact hP I1 y h e
  have none : ∀ I1 (y : rY I I1) (h : rTx T n s I1) (e : I1 0 2 = s.1) (c63 : ¬ wd T n s = ((11 : Nat) : Int)) (c64 : ¬ wd T n s = ((12 : Nat) : Int)) (c65 : ¬ wd T n s = ((13 : Nat) : Int)) (c66 : ¬ wd T n s = ((14 : Nat) : Int)) (c67 : ¬ wd T n s = ((15 : Nat) : Int)) (c68 : ¬ wd T n s = ((16 : Nat) : Int)) (c69 : ¬ wd T n s = ((17 : Nat) : Int)) (c70 : ¬ wd T n s = ((18 : Nat) : Int)) (c71 : ¬ wd T n s = ((19 : Nat) : Int)) (c72 : ¬ wd T n s = ((20 : Nat) : Int)) (c73 : ¬ wd T n s = ((9 : Nat) : Int)) (c74 : ¬ wd T n s = ((10 : Nat) : Int)), P (-1) I1 J := by
    intro I1 y h e c63 c64 c65 c66 c67 c68 c69 c70 c71 c72 c73 c74
    have r1 := wd_in T n s
    refine fin I1 y h e (-1) ?_
    unfold vOf
    rw [if_neg (by omega), if_neg (by omega), if_neg (by omega)]
  exact zr_ini (M := ax_m284) rfl (Nat.le_of_ble_eq_true rfl) (zq_qWordHere_0 I J (sr_isHere (w := 63) (ks := 11) (by decide) hL (fun I63 u63 h63 e63 => have y63 := u63; bc (fun c63 => zr_Qi.of (fin I63 y63 h63 e63 0 (by unfold vOf; omega))) (fun c63 => sr_isHere (w := 64) (ks := 12) (by decide) h63 (fun I64 u64 h64 e64 => have y64 := (y63.trans u64); bc (fun c64 => zr_Qi.of (fin I64 y64 h64 e64 1 (by unfold vOf; omega))) (fun c64 => sr_isHere (w := 65) (ks := 13) (by decide) h64 (fun I65 u65 h65 e65 => have y65 := (y64.trans u65); bc (fun c65 => zr_Qi.of (fin I65 y65 h65 e65 2 (by unfold vOf; omega))) (fun c65 => sr_isHere (w := 66) (ks := 14) (by decide) h65 (fun I66 u66 h66 e66 => have y66 := (y65.trans u66); bc (fun c66 => zr_Qi.of (fin I66 y66 h66 e66 3 (by unfold vOf; omega))) (fun c66 => sr_isHere (w := 67) (ks := 15) (by decide) h66 (fun I67 u67 h67 e67 => have y67 := (y66.trans u67); bc (fun c67 => zr_Qi.of (fin I67 y67 h67 e67 4 (by unfold vOf; omega))) (fun c67 => sr_isHere (w := 68) (ks := 16) (by decide) h67 (fun I68 u68 h68 e68 => have y68 := (y67.trans u68); bc (fun c68 => zr_Qi.of (fin I68 y68 h68 e68 5 (by unfold vOf; omega))) (fun c68 => sr_isHere (w := 69) (ks := 17) (by decide) h68 (fun I69 u69 h69 e69 => have y69 := (y68.trans u69); bc (fun c69 => zr_Qi.of (fin I69 y69 h69 e69 6 (by unfold vOf; omega))) (fun c69 => sr_isHere (w := 70) (ks := 18) (by decide) h69 (fun I70 u70 h70 e70 => have y70 := (y69.trans u70); bc (fun c70 => zr_Qi.of (fin I70 y70 h70 e70 7 (by unfold vOf; omega))) (fun c70 => sr_isHere (w := 71) (ks := 19) (by decide) h70 (fun I71 u71 h71 e71 => have y71 := (y70.trans u71); bc (fun c71 => zr_Qi.of (fin I71 y71 h71 e71 8 (by unfold vOf; omega))) (fun c71 => sr_isHere (w := 72) (ks := 20) (by decide) h71 (fun I72 u72 h72 e72 => have y72 := (y71.trans u72); bc (fun c72 => zr_Qi.of (fin I72 y72 h72 e72 9 (by unfold vOf; omega))) (fun c72 => sr_isHere (w := 73) (ks := 9) (by decide) h72 (fun I73 u73 h73 e73 => have y73 := (y72.trans u73); bc (fun c73 => zr_Qi.of (fin I73 y73 h73 e73 10 (by unfold vOf; omega))) (fun c73 => sr_isHere (w := 74) (ks := 10) (by decide) h73 (fun I74 u74 h74 e74 => have y74 := (y73.trans u74); bc (fun c74 => zr_Qi.of (fin I74 y74 h74 e74 11 (by unfold vOf; omega))) (fun c74 => zr_Qi.of (none I74 y74 h74 e74 c63 c64 c65 c66 c67 c68 c69 c70 c71 c72 c73 c74)))))))))))))))))))))))))))
theorem sr_isAllowed {kd : Nat} (hk : I 0 56 = (kd : Int)) (hk2 : kd ≤ 2) {v : Int} (hv : n32 v) (hP : P (if alw kd v = true then 1 else 0) I J) : zr_i (d + 1) 191 [.inr (.inr (some 0)), .inl v] I J P := by
  refine zr_ini (M := ax_m191) rfl (Nat.le_of_ble_eq_true rfl) (zq_isAllowed_0 I J v ?_)
  rw [hk, hv.w, zb_w (x := (kd : Int)) (by omega) (by omega)]
  simp only [show ax_w 0 = 0 from rfl, show ax_w 1 = 1 from rfl, show ax_w 2 = 2 from rfl, show ax_w 3 = 3 from rfl, show ax_w 6 = 6 from rfl, show ax_w 8 = 8 from rfl]
  match kd, hk2, hP with
  | 0, _, hP =>
    have hP' : P (if decide (v < 3) = true then 1 else 0) I J := hP
    simp only [decide_eq_true_eq] at hP'
    refine ⟨fun _ => ⟨fun q => zr_Qi.of ?_, fun q => zr_Qi.of ?_⟩, fun q => absurd rfl q⟩
    · rwa [if_pos q] at hP'
    · rwa [if_neg q] at hP'
  | 1, _, hP =>
    have hP' : P (if decide (2 < v ∧ v < 8) = true then 1 else 0) I J := hP
    simp only [decide_eq_true_eq] at hP'
    refine ⟨fun q => absurd q (by decide), fun _ => ⟨fun _ => ⟨fun q => ⟨fun q2 => zr_Qi.of ?_, fun q2 => zr_Qi.of ?_⟩, fun q => zr_Qi.of ?_⟩, fun q => absurd rfl q⟩⟩
    · rwa [if_pos ⟨q, q2⟩] at hP'
    · rwa [if_neg (fun r => q2 r.2)] at hP'
    · rwa [if_neg (fun r => q r.1)] at hP'
  | 2, _, hP =>
    have hP' : P (if decide (v = 2 ∨ 6 < v) = true then 1 else 0) I J := hP
    simp only [decide_eq_true_eq] at hP'
    refine ⟨fun q => absurd q (by decide), fun _ => ⟨fun q => absurd q (by decide), fun _ => ⟨fun q => zr_Qi.of ?_, fun q => ⟨fun q2 => zr_Qi.of ?_, fun q2 => zr_Qi.of ?_⟩⟩⟩⟩
    · rwa [if_pos (Or.inl q)] at hP'
    · rwa [if_pos (Or.inr q2)] at hP'
    · rwa [if_neg (fun r => r.elim q q2)] at hP'
theorem vOf_in (k : Int) : -1 ≤ vOf k ∧ vOf k ≤ 11 := by
  unfold vOf
  split
  · omega
  · split
    · omega
    · split <;> omega
theorem sr_qWordOf {kd : Nat} (hk : I 0 56 = (kd : Int)) (hk2 : kd ≤ 2) (hL : rTx T n s I) {lo hi : Int} (hlo : 0 ≤ lo ∧ lo ≤ 20) (hhi : 0 ≤ hi ∧ hi ≤ 20) (hP : ∀ I', rY I I' → rTx T n s I' → I' 0 2 = s.1 → P (if (lo ≤ vOf (wd T n s) ∧ vOf (wd T n s) < hi) ∧ alw kd (vOf (wd T n s)) = true then vOf (wd T n s) else -1) I' J) : zr_i (d + 4) 285 [.inr (.inr (some 0)), .inl lo, .inl hi] I J P := by
  have hv := vOf_in (wd T n s)
  refine zr_ini (M := ax_m285) rfl (Nat.le_of_ble_eq_true rfl) (zq_qWordOf_0 I J lo hi (sr_qWordHere hL (fun I1 y1 h1 e1 => ?_)))
  have hP1 := hP I1 y1 h1 e1
  rw [zb_w (x := vOf (wd T n s)) (by omega) (by omega), zb_w (x := lo) (by omega) (by omega), zb_w (x := hi) (by omega) (by omega)]
  refine ⟨fun q => zr_Qi.of ?_, fun q => ⟨fun q2 => sr_isAllowed (kd := kd) (by rw [y1 0 56 (by omega)]; exact hk) hk2 ⟨by omega, by omega⟩ (bc (fun c => zr_Qi.of ?_) (fun c => zr_Qi.of ?_)), fun q2 => zr_Qi.of ?_⟩⟩
  · rwa [if_neg (fun r => by omega)] at hP1
  · rwa [if_pos ⟨⟨by omega, q2⟩, c⟩] at hP1
  · rwa [if_neg (fun r => c r.2)] at hP1
  · rwa [if_neg (fun r => q2 r.1.2)] at hP1
theorem sr_qAsksWord {v : Int} (hL : rTx T n s I) (hv : vOf (wd T n s) = v) (hv0 : 0 ≤ v) (hP : ∀ I', rY I I' → rTx T n (aWd T n s) I' → P0 I' J) : zr_v (d + 5) 286 [.inr (.inr (some 0)), .inl v] I J P0 := by
  have hvi := vOf_in (wd T n s)
  have wv : ∀ (k : Nat) (u : Int), (vOf k = u) → v = u → wd T n s = (k : Int) := by
    intro k u hk hu
    unfold vOf at hv hk
    split at hv
    · split at hk
      · omega
      · split at hk
        · omega
        · split at hk <;> omega
    · split at hv
      · split at hk
        · omega
        · split at hk
          · omega
          · split at hk <;> omega
      · split at hv
        · split at hk
          · omega
          · split at hk
            · omega
            · split at hk <;> omega
        · omega
  refine zr_inv (M := ax_m286) rfl (Nat.le_of_ble_eq_true rfl) (zq_qAsksWord_0 I J v ?_)
  rw [zb_w (x := v) (by omega) (by omega)]
  exact ⟨fun (q : v = 0) => sr_asks (w := 63) (ks := 11) (by decide) hL (fun _ I1 y1 h1 => zr_Qv.of (hP I1 y1 h1)) (fun c => absurd (wv 11 0 (by decide) (by omega)) c), fun (q0 : ¬ v = 0) => ⟨fun (q : v = 1) => sr_asks (w := 64) (ks := 12) (by decide) hL (fun _ I1 y1 h1 => zr_Qv.of (hP I1 y1 h1)) (fun c => absurd (wv 12 1 (by decide) (by omega)) c), fun (q1 : ¬ v = 1) => ⟨fun (q : v = 2) => sr_asks (w := 65) (ks := 13) (by decide) hL (fun _ I1 y1 h1 => zr_Qv.of (hP I1 y1 h1)) (fun c => absurd (wv 13 2 (by decide) (by omega)) c), fun (q2 : ¬ v = 2) => ⟨fun (q : v = 3) => sr_asks (w := 66) (ks := 14) (by decide) hL (fun _ I1 y1 h1 => zr_Qv.of (hP I1 y1 h1)) (fun c => absurd (wv 14 3 (by decide) (by omega)) c), fun (q3 : ¬ v = 3) => ⟨fun (q : v = 4) => sr_asks (w := 67) (ks := 15) (by decide) hL (fun _ I1 y1 h1 => zr_Qv.of (hP I1 y1 h1)) (fun c => absurd (wv 15 4 (by decide) (by omega)) c), fun (q4 : ¬ v = 4) => ⟨fun (q : v = 5) => sr_asks (w := 68) (ks := 16) (by decide) hL (fun _ I1 y1 h1 => zr_Qv.of (hP I1 y1 h1)) (fun c => absurd (wv 16 5 (by decide) (by omega)) c), fun (q5 : ¬ v = 5) => ⟨fun (q : v = 6) => sr_asks (w := 69) (ks := 17) (by decide) hL (fun _ I1 y1 h1 => zr_Qv.of (hP I1 y1 h1)) (fun c => absurd (wv 17 6 (by decide) (by omega)) c), fun (q6 : ¬ v = 6) => ⟨fun (q : v = 7) => sr_asks (w := 70) (ks := 18) (by decide) hL (fun _ I1 y1 h1 => zr_Qv.of (hP I1 y1 h1)) (fun c => absurd (wv 18 7 (by decide) (by omega)) c), fun (q7 : ¬ v = 7) => ⟨fun (q : v = 8) => sr_asks (w := 71) (ks := 19) (by decide) hL (fun _ I1 y1 h1 => zr_Qv.of (hP I1 y1 h1)) (fun c => absurd (wv 19 8 (by decide) (by omega)) c), fun (q8 : ¬ v = 8) => ⟨fun (q : v = 9) => sr_asks (w := 72) (ks := 20) (by decide) hL (fun _ I1 y1 h1 => zr_Qv.of (hP I1 y1 h1)) (fun c => absurd (wv 20 9 (by decide) (by omega)) c), fun (q9 : ¬ v = 9) => ⟨fun (q : v = 10) => sr_asks (w := 73) (ks := 9) (by decide) hL (fun _ I1 y1 h1 => zr_Qv.of (hP I1 y1 h1)) (fun c => absurd (wv 9 10 (by decide) (by omega)) c), fun (q10 : ¬ v = 10) => sr_asks (w := 74) (ks := 10) (by decide) hL (fun _ I1 y1 h1 => zr_Qv.of (hP I1 y1 h1)) (fun c => absurd (wv 10 11 (by decide) (by omega)) c)⟩⟩⟩⟩⟩⟩⟩⟩⟩⟩⟩
theorem sr_qAsksWord_b {v k q : Int} (hB : rBad k q I) (hP : P0 I J) : zr_v (d + 5) 286 [.inr (.inr (some 0)), .inl v] I J P0 := by
  refine zr_inv (M := ax_m286) rfl (Nat.le_of_ble_eq_true rfl) (zq_qAsksWord_0 I J v ?_)
  exact ⟨fun _ => sr_asks_b (w := 63) (ks := 11) (by decide) hB (zr_Qv.of hP), fun _ => ⟨fun _ => sr_asks_b (w := 64) (ks := 12) (by decide) hB (zr_Qv.of hP), fun _ => ⟨fun _ => sr_asks_b (w := 65) (ks := 13) (by decide) hB (zr_Qv.of hP), fun _ => ⟨fun _ => sr_asks_b (w := 66) (ks := 14) (by decide) hB (zr_Qv.of hP), fun _ => ⟨fun _ => sr_asks_b (w := 67) (ks := 15) (by decide) hB (zr_Qv.of hP), fun _ => ⟨fun _ => sr_asks_b (w := 68) (ks := 16) (by decide) hB (zr_Qv.of hP), fun _ => ⟨fun _ => sr_asks_b (w := 69) (ks := 17) (by decide) hB (zr_Qv.of hP), fun _ => ⟨fun _ => sr_asks_b (w := 70) (ks := 18) (by decide) hB (zr_Qv.of hP), fun _ => ⟨fun _ => sr_asks_b (w := 71) (ks := 19) (by decide) hB (zr_Qv.of hP), fun _ => ⟨fun _ => sr_asks_b (w := 72) (ks := 20) (by decide) hB (zr_Qv.of hP), fun _ => ⟨fun _ => sr_asks_b (w := 73) (ks := 9) (by decide) hB (zr_Qv.of hP), fun _ => sr_asks_b (w := 74) (ks := 10) (by decide) hB (zr_Qv.of hP)⟩⟩⟩⟩⟩⟩⟩⟩⟩⟩⟩
end ZRD
