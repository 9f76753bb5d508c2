/-! QUESTIONS: how they are read; the reference reads them -/
def pQf (T : Nat → Int) (n : Int) (k : Int) (s : zs) : zR := if k < 3 then pTst T n (pFact T n 2 6) s else pSum T n (pPart T n 2 6) s
def pAsk (T : Nat → Int) (n : Int) : Sum (Int × Int) (Int × List Int) :=
  if 29 ≤ wd T n (s0 T n) ∧ wd T n (s0 T n) ≤ 34 then (match pQf T n (wd T n (s0 T n) - 29) (aWd T n (s0 T n)) with
    | .inl e => .inl e
    | .inr (s, cs) => if s.1 = n then .inr (wd T n (s0 T n) - 29, cs) else .inl (1, s.1)) else .inl (1, (s0 T n).1)
/-- what a question's reading writes -/
def rAf (I I' : zF) : Prop := ∀ i j, ¬ (i = 0 ∧ (j = 1 ∨ j = 2 ∨ j = 3 ∨ j = 4 ∨ j = 5 ∨ j = 6 ∨ j = 10 ∨ j = 56 ∨ j = 106 ∨ j = 108 ∨ j = 109 ∨ j = 110)) → i ≠ 75 → i ≠ 76 → I' i j = I i j
theorem rAf.trans {I I' I2 : zF} (h : rAf I I') (h2 : rAf I' I2) : rAf I I2 := fun i j a b c => (h2 i j a b c).trans (h i j a b c)
theorem rZ.Af {I I' : zF} (h : rZ I I') : rAf I I' := fun i j a b c => h i j (by omega) b c
section ZAR
variable {d : Nat} {I J : zF} {T : Nat → Int} {n : Int} {s : zs} {P : Int → zF → zF → Prop} {Q : Option ax_v → ax_S → Prop}
theorem sr_qKind (hL : rTx T n s I) (hP1 : ∀ k, 0 ≤ k ∧ k ≤ 5 → wd T n s = 29 + k → ∀ I', rY I I' → rTx T n (aWd T n s) I' → P k I' J) (hP0 : ¬ (29 ≤ wd T n s ∧ wd T n s ≤ 34) → ∀ I', rY I I' → rBad 1 s.1 I' → P 5 I' J) : zr_i (d + 5) 303 [.inr (.inr (some 0))] I J P := by
  refine zr_ini (M := ax_m303) rfl (Nat.le_of_ble_eq_true rfl) (zq_qKind_0 I J (sr_takes (w := 51) (ks := 29) (by decide) hL (fun c I1 y1 t1 => b1 ⟨fun z => absurd z (by decide), fun _ => zr_Qi.of (hP1 0 (by decide) c I1 y1 t1)⟩) (fun c0 I1 y1 t1 _ => b0 (sr_takes (w := 52) (ks := 30) (by decide) t1 (fun c I2 y2 t2 => b1 ⟨fun z => absurd z (by decide), fun _ => zr_Qi.of (hP1 1 (by decide) c I2 (y1.trans y2) t2)⟩) (fun c1 I2 y2 t2 _ => b0 (sr_takes (w := 53) (ks := 31) (by decide) t2 (fun c I3 y3 t3 => b1 ⟨fun z => absurd z (by decide), fun _ => zr_Qi.of (hP1 2 (by decide) c I3 (y1.trans (y2.trans y3)) t3)⟩) (fun c2 I3 y3 t3 _ => b0 (sr_takes (w := 54) (ks := 32) (by decide) t3 (fun c I4 y4 t4 => b1 ⟨fun z => absurd z (by decide), fun _ => zr_Qi.of (hP1 3 (by decide) c I4 (y1.trans (y2.trans (y3.trans y4))) t4)⟩) (fun c3 I4 y4 t4 _ => b0 (sr_takes (w := 55) (ks := 33) (by decide) t4 (fun c I5 y5 t5 => b1 ⟨fun z => absurd z (by decide), fun _ => zr_Qi.of (hP1 4 (by decide) c I5 (y1.trans (y2.trans (y3.trans (y4.trans y5)))) t5)⟩) (fun c4 I5 y5 t5 _ => b0 ⟨fun _ => sr_asks (w := 56) (ks := 34) (by decide) t5 (fun c I6 y6 t6 => zr_Qi.of (hP1 5 (by decide) c I6 (y1.trans (y2.trans (y3.trans (y4.trans (y5.trans y6))))) t6)) (fun c5 I6 y6 b6 => zr_Qi.of (hP0 ?_ I6 (y1.trans (y2.trans (y3.trans (y4.trans (y5.trans y6))))) b6)), fun z => absurd rfl z⟩)))))))))))
  have q0 : wd T n s ≠ 29 := c0
  have q1 : wd T n s ≠ 30 := c1
  have q2 : wd T n s ≠ 31 := c2
  have q3 : wd T n s ≠ 32 := c3
  have q4 : wd T n s ≠ 33 := c4
  have q5 : wd T n s ≠ 34 := c5
  omega
theorem ak_93b {k q a1 : Int} (hB : rBad k q I) (h : zb_W d ax_m305 (117, [some (.inr (.inr (some 0))), some (.inl a1), none, none], [], zr_S I J) Q) : zb_W d ax_m305 (93, [some (.inr (.inr (some 0))), some (.inl a1), none, none], [], zr_S I J) Q := zq_ask_93 I J a1 (e_no hB h)
theorem ak_93 {a1 : Int} (hL : rTx T n s I) (h1 : s.1 = n → ∀ I', rY I I' → I' 0 5 = 0 → I' 0 6 = -1 → zb_W (d + 1) ax_m305 (117, [some (.inr (.inr (some 0))), some (.inl a1), none, none], [], zr_S I' J) Q) (h0 : s.1 ≠ n → ∀ I', rY I I' → rBad 1 s.1 I' → zb_W (d + 1) ax_m305 (117, [some (.inr (.inr (some 0))), some (.inl a1), none, none], [], zr_S I' J) Q) : zb_W (d + 1) ax_m305 (93, [some (.inr (.inr (some 0))), some (.inl a1), none, none], [], zr_S I J) Q := by
  have hs := hL.ok.1
  have hn := hL.ok.n
  have hlc := lc_in hL.ok hs.1
  refine zq_ask_93 I J a1 (e_ok hL.e (sr_look hL (fun I1 y1 t1 e1 => w_if ⟨by omega, by omega⟩ ⟨by decide, by decide⟩ (fun z => h1 ((lc_end hL.ok).mp z) I1 y1 t1.e t1.e6) (fun z => sr_fail t1.e ⟨by decide, by decide⟩ (fun I2 y2 _ b2 => ?_)))))
  rw [e1] at b2
  exact h0 (fun q => z ((lc_end hL.ok).mpr q)) I2 (y1.trans y2) b2
theorem ak_82b {k q a1 : Int} (hB : rBad k q I) (h : zb_W d ax_m305 (117, [some (.inr (.inr (some 0))), some (.inl a1), none, none], [], zr_S I J) Q) : zb_W d ax_m305 (82, [some (.inr (.inr (some 0))), some (.inl a1), none, none], [], zr_S I J) Q := zq_ask_82 I J a1 (e_no hB (ak_93b hB h))
end ZAR
