/-! THE CLASS: a question is read, whole -/
def cQf (I I' : zF) : Prop := ∀ i j, ¬ (i = 3 ∧ 1 ≤ j ∧ j ≤ 7) → ¬ (i = 10 ∧ (j = 4 ∨ j = 5)) → i ≠ 5 → ¬ (i = 4 ∧ j = 2) → ¬ (i = 7 ∧ j = 2) → I' i j = I i j
theorem cQf.trans {I I' I2 : zF} (h : cQf I I') (h2 : cQf I' I2) : cQf I I2 := fun i j a b c e f => (h2 i j a b c e f).trans (h i j a b c e f)
theorem cY.Qf {I I' : zF} (h : cY I I') : cQf I I' := fun i j a _ _ _ _ => h i j a
theorem cX.Qf {I I' : zF} (h : cX 4 I I') : cQf I I' := fun i j a _ c e _ => h i j a c e
section ZCB
variable {T : Nat → Int} {n : Int} {d hf pf hs : Nat} {I J : zF} {s : zs} {P : Nat → Int → zF → zF → Prop} {Q : Option ax_v → ax_S → Prop}
theorem sc_qread_86 (hX : cTx T n s I) {cs : List Int} (hc : cP I 4 cs) {r : List Bool} (ht : pf_tr 2 cs [] = some r) (hb : s.1 ≠ n → ∀ I', cQf I I' → cBad 1 s.1 I' → Q (some (.inl 0)) (zc_S hf pf I' J)) (hg : s.1 = n → ∀ I', cQf I I' → I' 3 6 = 0 → I' 3 7 = -1 → I' 10 4 = I 10 4 → I' 10 5 = us cs → cP I' 4 cs → Q (some (.inl 1)) (zc_S hf pf I' J)) : zb_W (d + 2) ax_m56 (86, [some (.inr (.inr (some 10)))], [], zc_S hf pf I J) Q := by
  have hu : us cs = 0 ∨ us cs = 1 := i01.symm.elim (fun h => Or.inr h) (fun h => Or.inl h)
  have X2 : cTx T n s (ax_u I 10 5 (us cs)) := hX.fr (fun i j q => zu_ne (by omega))
  have c2 : cP (ax_u I 10 5 (us cs)) 4 cs := cP_cong (zu_ne (by omega)) (fun j => zu_ne (by omega)) hc
  have f2 : cQf I (ax_u I 10 5 (us cs)) := fun i j _ b _ _ _ => zu_ne (by omega)
  refine zkp_Question_read_86 hf pf I J (sc_uses hc ht ⟨hu, sc_atEnd X2 ?_⟩)
  by_cases e : s.1 = n
  · rw [if_pos e]
    exact b1 (hg e _ f2 X2.2.2.2.2.2.1 X2.2.2.2.2.2.2 (zu_ne (by omega)) zu_eq c2)
  · rw [if_neg e]
    exact b0 (sc_failHere (s := s) X2.2.2.2.1 (fun I' y b => b0 (hb e I' (f2.trans y.Qf) b)))
theorem sc_qread (hT : tC T n I) (hb : ∀ p k q, pAsk T n = .inl (k, q) → ∀ I', cQf I I' → cBad k q I' → P p 0 I' J) (hg : ∀ k cs, pAsk T n = .inr (k, cs) → ∀ I', cQf I I' → I' 3 6 = 0 → I' 3 7 = -1 → I' 10 4 = k → I' 10 5 = us cs → cP I' 4 cs → P 4 1 I' J) : zc_ip (d + 36) 56 [.inr (.inr (some 10))] hf pf I J P := by
  refine zb_in (M := ax_m56) rfl (Nat.le_of_ble_eq_true rfl) (zkp_Question_read_0 hf pf I J (sc_beginT hT (fun I1 y1 X1 => sc_kindHere X1 ?_)))
  by_cases hw : 29 ≤ wd T n (s0 T n) ∧ wd T n (s0 T n) ≤ 34
  · rw [if_pos hw]
    generalize hk : wd T n (s0 T n) - 29 = k
    have k1 : 0 ≤ k ∧ k ≤ 5 := by omega
    have X2 : cTx T n (s0 T n) (ax_u I1 10 4 k) := X1.fr (fun i j q => zu_ne (by omega))
    have f2 : cQf I (ax_u I1 10 4 k) := y1.Qf.trans (fun i j _ b _ _ _ => zu_ne (by omega))
    have eq : pAsk T n = (match pQf T n k (aWd T n (s0 T n)) with | .inl e => .inl e | .inr (s, cs) => if s.1 = n then .inr (k, cs) else .inl (1, s.1)) := by
      unfold pAsk
      rw [if_pos hw, hk]
      rfl
    have e4 : (ax_u I1 10 4 k) 10 4 = k := zu_eq
    rw [e4, zb_w (x := k) (by omega) (by omega)]
    refine ⟨fun q => absurd q (show ¬ k = -1 by omega), fun _ => sc_adv_W X2 (wd_pos (by omega)).1 (fun I3 y3 X3 _ _ => sc_aim (Or.inl rfl) (fun I4 f4 c4 k4 => ?_))⟩
    have X4 : cTx T n (aWd T n (s0 T n)) I4 := X3.fr (fun i j q => f4 i j (by omega) (by omega))
    have g4 : cQf I I4 := (f2.trans y3.Qf).trans (fun i j _ _ _ e g => f4 i j e g)
    have z4 : I4 10 4 = k := by rw [f4 10 4 (by omega) (by omega), y3 10 4 (by omega)]; exact e4
    have h0 := X4.ok.1
    have hs0 := X1.ok.1
    have bad : ∀ a q, pQf T n k (aWd T n (s0 T n)) = .inl (a, q) → ∀ I5, cX 4 I4 I5 → cBad a q I5 → P 4 0 I5 J := fun a q e I5 x5 b5 => by
      rw [e] at eq
      exact hb 4 a q eq I5 (g4.trans x5.Qf) b5
    have good : ∀ s' out (r : List Bool), pf_tr 2 out [] = some r → pQf T n k (aWd T n (s0 T n)) = .inr (s', out) → ∀ I5, cX 4 I4 I5 → cTx T n s' I5 → cP I5 4 ([] ++ out) → zb_W (d + 35) ax_m56 (86, [some (.inr (.inr (some 10)))], [], zc_S hf 4 I5 J) (fun v s' => ∃ p x I' J', v = some (.inl x) ∧ s' = zc_S hf p I' J' ∧ P p x I' J') := fun s' out r ht e I5 x5 X5 c5 => by
      rw [e] at eq
      have eq' : pAsk T n = if s'.1 = n then .inr (k, out) else .inl (1, s'.1) := eq
      refine sc_qread_86 X5 c5 ht (fun hs I6 q6 b6' => ⟨4, 0, I6, J, rfl, rfl, hb 4 1 s'.1 (by rw [eq', if_neg hs]) I6 ((g4.trans x5.Qf).trans q6) b6'⟩) (fun hs I6 q6 a1 a2 a3 a4 a5 => ⟨4, 1, I6, J, rfl, rfl, hg k out (by rw [eq', if_pos hs]) I6 ((g4.trans x5.Qf).trans q6) a1 a2 (by rw [a3, x5 10 4 (by omega) (by omega) (by omega)]; exact z4) a4 a5⟩)
    rw [z4, zb_w (x := k) (by omega) (by omega)]
    refine ⟨fun h3 => ?_, fun h3 => ?_⟩
    · have h3' : ¬ k < 3 := by have : (2 : Int) < k := h3; omega
      have eq2 : pQf T n k (aWd T n (s0 T n)) = pSum T n (pPart T n 2 6) (aWd T n (s0 T n)) := if_neg h3'
      refine cR_sum0 (T := T) (n := n) (p := 4) (k := 2) (Or.inl rfl) (by decide) _ _ [] I4 _ (by omega) X4 c4 k4 (by simp only [List.length_nil]; omega) (fun a q e I5 x5 b5 => b0 ⟨4, 0, I5, J, rfl, rfl, bad a q (by rw [eq2]; exact e) I5 x5 b5⟩) (fun s' out e I5 x5 X5 c5 => b1 ?_)
      exact good s' out _ ((tyR_sum (tyR_part (T := T) (n := n) (kd := 2) 6) _ s' out X4.ok e).1 [] (by decide)) (by rw [eq2]; exact e) I5 x5 X5 c5
    · have h3' : k < 3 := by have : ¬ (2 : Int) < k := h3; omega
      have eq2 : pQf T n k (aWd T n (s0 T n)) = pTst T n (pFact T n 2 6) (aWd T n (s0 T n)) := if_pos h3'
      refine cR_tests (T := T) (n := n) (pf := 4) (k := 2) (Or.inl rfl) (by decide) _ _ [] I4 _ (by omega) X4 c4 k4 (by simp only [List.length_nil]; omega) (fun a q e I5 x5 b5 => b0 ⟨4, 0, I5, J, rfl, rfl, bad a q (by rw [eq2]; exact e) I5 x5 b5⟩) (fun s' out e I5 x5 X5 c5 => b1 ?_)
      exact good s' out _ ((tyR_tst (tyR_fact (T := T) (n := n) (kd := 2) 6) _ s' out X4.ok e).1 [] (by decide)) (by rw [eq2]; exact e) I5 x5 X5 c5
  · rw [if_neg hw]
    have e4 : (ax_u I1 10 4 (-1)) 10 4 = -1 := zu_eq
    rw [e4]
    refine ⟨fun _ => sc_failHere (s := s0 T n) (by rw [zu_ne (by omega)]; exact X1.2.2.2.1) (fun I' y b => ⟨Or.inl rfl, pf, 0, I', J, rfl, rfl, hb pf 1 _ (if_neg hw) I' ((y1.Qf.trans (fun i j _ b _ _ _ => zu_ne (by omega))).trans y.Qf) b⟩), fun q => absurd rfl q⟩
end ZCB
