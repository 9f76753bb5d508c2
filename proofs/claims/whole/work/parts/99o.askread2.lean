/-! THE REFERENCE: a question is read -/
section ZAS
variable {d : Nat} {I J : zF} {T : Nat → Int} {n : Int} {Q : Option ax_v → ax_S → Prop}
theorem ak_0 (hT : tR T n I) (hW : rW I) (hb : ∀ k q, pAsk T n = .inl (k, q) → ∀ I' a1, rAf I I' → I' 0 1 = 0 → rBad k q I' → zb_W (d + 9) ax_m305 (117, [some (.inr (.inr (some 0))), some (.inl a1), none, none], [], zr_S I' J) Q) (hg : ∀ k cs, pAsk T n = .inr (k, cs) → ∀ I' dep, rAf I I' → I' 0 1 = 0 → I' 0 5 = 0 → I' 0 6 = -1 → rQ cs [] dep 0 2 I' → zb_W (d + 9) ax_m305 (117, [some (.inr (.inr (some 0))), some (.inl k), none, none], [], zr_S I' J) Q) : zb_W (d + 9) ax_m305 (0, [some (.inr (.inr (some 0))), none, none, none], [], zr_S I J) Q := by
  have key : ∀ Z : zF, rAf I Z → Z 0 1 = 0 → rTx T n (s0 T n) Z → rQ [] [] 0 0 2 Z → zr_i (d + 9) 303 [.inr (.inr (some 0))] Z J (fun r4 I1 J2 => (ax_w (I1 0 5) = ax_w 0 → (ax_w r4 < ax_w 3 → zr_v (d + 9) 294 [.inr (.inr (some 0))] I1 J2 (fun I7 J8 => zb_W (d + 9) ax_m305 (93, [some (.inr (.inr (some 0))), some (.inl r4), none, none], [], zr_S I7 J8) Q)) ∧ (¬ ax_w r4 < ax_w 3 → zb_W (d + 9) ax_m305 (82, [some (.inr (.inr (some 0))), some (.inl r4), none, none], [], zr_S I1 J2) Q)) ∧ (¬ ax_w (I1 0 5) = ax_w 0 → zb_W (d + 9) ax_m305 (82, [some (.inr (.inr (some 0))), some (.inl r4), none, none], [], zr_S I1 J2) Q)) := by
    intro Z zA z1 zL zQ
    have h01 : ∀ {I' : zF}, rZ Z I' → I' 0 1 = 0 := fun h => by rw [h 0 1 (by omega) (by omega) (by omega)]; exact z1
    refine sr_qKind zL (fun k hk hw I1 y1 t1 => e_ok t1.e ?_) (fun hno I1 y1 b1 => e_no b1 (ak_82b b1 (hb 1 _ (if_neg hno) I1 5 (zA.trans y1.Z.Af) (h01 y1.Z) b1)))
    have hin : 29 ≤ wd T n (s0 T n) ∧ wd T n (s0 T n) ≤ 34 := by omega
    have eq : pAsk T n = (match pQf T n k (aWd T n (s0 T n)) with | .inl e => .inl e | .inr (s, cs) => if s.1 = n then .inr (k, cs) else .inl (1, s.1)) := by
      unfold pAsk
      rw [if_pos hin, show wd T n (s0 T n) - 29 = k by omega]
      rfl
    have hn := t1.ok.n
    have h1 := t1.ok.1
    have q1 := y1.Q zQ
    have fin : ∀ s' cs I2 dep, pQf T n k (aWd T n (s0 T n)) = .inr (s', cs) → rZ Z I2 → rTx T n s' I2 → rQ cs [] dep 0 2 I2 → zb_W (d + 9) ax_m305 (93, [some (.inr (.inr (some 0))), some (.inl k), none, none], [], zr_S I2 J) Q := fun s' cs I2 dep e z2 t2 q2 => by
      rw [e] at eq
      refine ak_93 t2 (fun hs I3 y3 g5 g6 => hg k cs ?_ I3 dep (zA.trans (z2.trans y3.Z).Af) (h01 (z2.trans y3.Z)) g5 g6 (y3.Q q2)) (fun hs I3 y3 b3 => hb 1 s'.1 ?_ I3 k (zA.trans (z2.trans y3.Z).Af) (h01 (z2.trans y3.Z)) b3)
      · rw [eq]; exact if_pos hs
      · rw [eq]; exact if_neg hs
    have bad : ∀ a q I2, pQf T n k (aWd T n (s0 T n)) = .inl (a, q) → rZ Z I2 → rBad a q I2 → zb_W (d + 9) ax_m305 (93, [some (.inr (.inr (some 0))), some (.inl k), none, none], [], zr_S I2 J) Q := fun a q I2 e z2 b2 => by
      rw [e] at eq
      exact ak_93b b2 (hb a q eq I2 k (zA.trans z2.Af) (h01 z2) b2)
    rw [zb_w (x := k) (by omega) (by omega)]
    refine ⟨fun h3 => ?_, fun h3 => zq_ask_82 I1 J k (e_ok t1.e ?_)⟩
    · have h3' : k < 3 := h3
      have eq2 : pQf T n k (aWd T n (s0 T n)) = pTst T n (pFact T n 2 6) (aWd T n (s0 T n)) := if_pos h3'
      exact sr_qTest (kd := 2) (by decide) t1 q1 (fun a q e I2 z2 b2 => bad a q I2 (by rw [eq2]; exact e) (y1.Z.trans z2) b2) (fun s' out e I2 dep z2 t2 q2 => fin s' out I2 dep (by rw [eq2]; exact e) (y1.Z.trans z2) t2 q2)
    · have h3' : ¬ k < 3 := h3
      have eq2 : pQf T n k (aWd T n (s0 T n)) = pSum T n (pPart T n 2 6) (aWd T n (s0 T n)) := if_neg h3'
      exact sr_qSums (kd := 2) (dd := 6) (B := []) (by decide) (fun x hx => absurd hx (by simp)) t1 q1 (by simp; omega) (by decide) (by decide) (fun a q e I2 z2 b2 => bad a q I2 (by rw [eq2]; exact e) (y1.Z.trans z2) b2.1) (fun s' out e I2 z2 t2 q2 => fin s' out I2 0 (by rw [eq2]; exact e) (y1.Z.trans z2) t2 q2)
  obtain ⟨t1, t2, t3⟩ := id hT
  have hs := s0_okR hT
  refine zq_ask_0 I J (key _ (fun i j g1 g2 g3 => ?_) ?_ ⟨hs, ?_, fun j hj => ?_, ?_, ?_, ?_, rW_cong hW (fun i j a b c e => ?_), ?_⟩ ⟨?_, fun i hi => absurd hi (by simp), ?_, trivial, ?_, ?_, ?_, fun x hx => absurd hx (by simp)⟩)
  · repeat rw [zu_ne (by omega)]
  · repeat (first | rw [zu_eq] | rw [zu_ne (by omega)])
  · rw [show (I 0 1) = n from t1]
    repeat (first | rw [zu_eq] | rw [zu_ne (by omega)])
  · have := (t3 j hj).1
    repeat rw [zu_ne (by omega)]
    exact this
  · have e2 : ∀ v : Int, v = 0 → 0 ≤ v ∧ v ≤ (s0 T n).1 ∧ rn T n fB v = (s0 T n).1 := fun v hv => by
      rw [hv]; exact ⟨by decide, rn_le T n fB 0, rfl⟩
    refine e2 _ ?_
    repeat (first | rw [zu_eq] | rw [zu_ne (by omega)])
  · show _ = (-1 : Int)
    repeat (first | rw [zu_eq] | rw [zu_ne (by omega)])
  · repeat (first | rw [zu_eq] | rw [zu_ne (by omega)])
  · repeat rw [zu_ne (by omega)]
  · repeat (first | rw [zu_eq] | rw [zu_ne (by omega)])
  · show _ = (0 : Int)
    repeat (first | rw [zu_eq] | rw [zu_ne (by omega)])
  · show _ = (0 : Int)
    repeat (first | rw [zu_eq] | rw [zu_ne (by omega)])
  · repeat (first | rw [zu_eq] | rw [zu_ne (by omega)])
  · repeat (first | rw [zu_eq] | rw [zu_ne (by omega)])
  · repeat (first | rw [zu_eq] | rw [zu_ne (by omega)])
end ZAS
