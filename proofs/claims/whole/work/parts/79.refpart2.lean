/-! THE REFERENCE: parts, what stands ahead of them -/
section ZPT2
variable {d : Nat} {I0 J : zF} {T : Nat → Int} {n : Int} {kd : Nat} {B : List Int} {D0 : Int} {r : zR} {Q : Option ax_v → ax_S → Prop}
theorem rQ.at2 {cs F : List Int} {dep base k v : Int} {I : zF} (h : rQ cs F dep base k I) : rQ cs F dep base k (ax_u I 0 2 v) := ((rY.refl I).u (Or.inl rfl)).Q h
theorem rTx.Qfr {s : zs} {I I' : zF} (h : rTx T n s I) (hF : ∀ i j, i ≠ 76 → ¬ (i = 0 ∧ (j = 108 ∨ j = 109)) → I' i j = I i j) : rTx T n s I' := h.fr (fun i j _ b c => hF i j b (by omega))
theorem rZ.opn {I I' : zF} (hF : ∀ i j, i ≠ 76 → ¬ (i = 0 ∧ (j = 108 ∨ j = 109)) → I' i j = I i j) : rZ I I' := fun i j a _ c => hF i j c (by omega)
/-- min and max -/
theorem pt_101 {s1 : zs} {st : List Int} {dep : Int} {cs : List Int} {a4 x : Int} {I : zF} (hx : x = if a4 = 0 then 22 else 21) (ha : a4 = 0 ∨ a4 = 1) (hL : rTx T n s1 I) (hQ : rQ cs (st ++ B) dep (B.length : Int) (kd : Int) I) (hw : (cs.length : Int) + st.length + B.length ≤ s1.1 ∧ -1600 ≤ D0) (hD : dep = D0 + cO st ∧ dep ≤ 6) (hb : ∀ k q I', (lc T n s1.1 = 40 → dep = 6 ∧ k = 4) → (lc T n s1.1 ≠ 40 → k = 1) → q = s1.1 → rZ I I' → rBq 1601 k q I' → Q none (zr_S I' J)) (hg : lc T n s1.1 = 40 → dep ≠ 6 → ∀ I', rZ I I' → rTx T n (aS T n s1) I' → rQ cs ((x :: st) ++ B) (dep + 1) (B.length : Int) (kd : Int) I' → zb_W (d + 5) ax_m288 (2, [some (.inr (.inr (some 0))), some (.inl 1), none, none, none, none], [], zr_S I' J) Q) : zb_W (d + 5) ax_m288 (101, [some (.inr (.inr (some 0))), some (.inl 1), none, none, some (.inl a4), none], [], zr_S I J) Q := by
  have hn := hL.ok.n
  have h1 := hL.ok.1
  have hco := cO_ge st
  have hlen : (st ++ B).length = st.length + B.length := List.length_append
  have hlc := lc_in hL.ok h1.1
  have hd : -1700 ≤ dep ∧ dep ≤ 6 := by omega
  have hx0 : 0 ≤ x ∧ x ≤ 100 := by rcases ha with q | q <;> rw [q] at hx <;> simp at hx <;> omega
  refine zq_qPartTold_101 I J 1 a4 (sr_look hL (fun I1 y1 t1 e1 => w_if (x := lc T n s1.1) ⟨by omega, by omega⟩ ⟨by decide, by decide⟩ (fun c => w_if (x := I1 0 2) (by rw [e1]; exact ⟨by omega, by omega⟩) ⟨by decide, by decide⟩ (fun z => by omega) (fun _ => ?_)) (fun c => ⟨fun _ => ?_, fun z => absurd rfl z⟩)))
  · have hq1 := y1.Q hQ
    have key : ∀ y : Int, y = x → zr_v (d + 5) 278 [.inr (.inr (some 0)), .inl y, .inl (I1 0 2)] I1 J (fun I8 J9 => zb_W (d + 5) ax_m288 (144, [some (.inr (.inr (some 0))), some (.inl 1), none, none, none, none], [], zr_S I8 J9) Q) := by
      intro y hy
      rw [hy]
      refine sr_qOpens (p := I1 0 2) hq1 t1.e hd hx0 (by omega) (fun hd6 I2 h2 q2 => ?_) (fun hd6 I2 y2 b2 => ?_)
      · refine zq_qPartTold_144 I2 J 1 (sr_asksSign ⟨by decide, by decide⟩ (t1.Qfr h2) (fun _ I3 y3 t3 => zq_qPartTold_183 I3 J 1 (hg c hd6 I3 (y1.Z.trans ((rZ.opn h2).trans y3.Z)) t3 (y3.Q q2))) (fun z => absurd c z))
      · have hq2 := y2.Q hq1
        have hl2 : I2 0 106 = (cs.length : Int) := hq2.1
        rw [e1] at b2
        exact zq_qPartTold_144 I2 J 1 (sr_asksSign_b b2 (zq_qPartTold_183 I2 J 1 (pt_b b2 (hb 4 s1.1 I2 (fun _ => ⟨hd6, rfl⟩) (fun z => absurd c z) rfl (y1.Z.trans y2.Z) ⟨b2, by omega, by omega⟩))))
    rcases ha with q | q
    · rw [q] at hx
      exact ⟨fun _ => key 22 hx.symm, fun z => absurd (by rw [q]) z⟩
    · rw [q] at hx
      exact ⟨fun z => absurd z (by rw [q]; decide), fun _ => key 21 hx.symm⟩
  · refine zq_qPartTold_144 I1 J 1 (sr_asksSign ⟨by decide, by decide⟩ t1 (fun z => absurd z c) (fun _ I2 y2 b2 => ?_))
    have hq2 := y2.Q (y1.Q hQ)
    have hl2 : I2 0 106 = (cs.length : Int) := hq2.1
    exact zq_qPartTold_183 I2 J 1 (pt_b b2 (hb 1 s1.1 I2 (fun z => absurd z c) (fun _ => rfl) rfl (y1.Z.trans y2.Z) ⟨b2, by omega, by omega⟩))
theorem pt_2 (hk2 : kd ≤ 2) (f0 : Nat) (hP0 : ∀ k q I', r = .inl (k, q) → rZ I0 I' → rBq 1601 k q I' → Q none (zr_S I' J)) (hP1 : ∀ f' s' st' dep' cs' I', f' < f0 → mach T n kd f' 2 s' st' dep' cs' = some r → rZ I0 I' → mS T n kd B D0 s' st' dep' cs' I' → tp60 st' → Q none (zr_S I' J)) : ∀ (f : Nat) (s : zs) (st : List Int) (dep : Int) (cs : List Int) (I : zF), f ≤ f0 → mach T n kd f 0 s st dep cs = some r → mS T n kd B D0 s st dep cs I → rZ I0 I → zb_W (d + 5) ax_m288 (2, [some (.inr (.inr (some 0))), some (.inl 1), none, none, none, none], [], zr_S I J) Q := by
  intro f
  induction f with
  | zero => intro s st dep cs I _ hm; exact (mach_00 hm).elim
  | succ f ih =>
    intro s st dep cs I hf hm hS hZ
    rw [mach_0] at hm
    obtain ⟨hL, hQ, hw, hst, hD⟩ := id hS
    have hn := hL.ok.n
    have h1 := hL.ok.1
    have hco := cO_ge st
    have hlen : (st ++ B).length = st.length + B.length := List.length_append
    have hlc := lc_in hL.ok h1.1
    have hd : -1700 ≤ dep ∧ dep ≤ 6 := by omega
    have hp := pw_inn T n kd s
    have hwd := wd_in T n s
    refine zq_qPartTold_2 I J 1 (b1 (e_ok hL.e (sr_look hL (fun I1 y1 t1 e1 => sr_qWordOf (kd := kd) (y1.Q hQ).2.2.2.2.2.2.1 hk2 t1 ⟨by decide, by decide⟩ ⟨by decide, by decide⟩ (fun I2 y2 t2 e2 => ?_)))))
    rw [pw_if]
    have q2 := y2.Q (y1.Q hQ)
    have l2 : I2 0 106 = (cs.length : Int) := q2.1
    have z2 : rZ I0 I2 := hZ.trans (y1.Z.trans y2.Z)
    refine w_if (x := lc T n s.1) ⟨by omega, by omega⟩ ⟨by decide, by decide⟩ (fun c => ?_) (fun c => ?_)
    · rw [if_pos c] at hm
      have hlt : s.1 < n := (lc_lt c (by decide)).1
      refine sr_qOpens (p := I2 0 2) q2 t2.e hd ⟨by decide, by decide⟩ (by omega) (fun hd6 I3 h3 q3 => ?_) (fun hd6 I3 y3 b3 => ?_)
      · rw [if_neg hd6] at hm
        have e3 : I3 0 2 = s.1 := by rw [h3 0 2 (by omega) (by omega)]; exact e2
        obtain ⟨w1, w2⟩ := wk_push (x := 20) (by omega) hst
        have := aS_lt T n s
        refine zq_qPartTold_183 _ J 1 (ih (aS T n s) (20 :: st) (dep + 1) cs _ (by omega) hm ⟨(t2.Qfr h3).adv e3 hlt, q3.at2, ⟨by rw [List.length_cons]; omega, hw.2⟩, w1, by omega, by omega⟩ (z2.trans ((rZ.opn h3).trans ((rY.refl I3).u (Or.inl rfl)).Z)))
      · rw [if_pos hd6] at hm
        rw [e2] at b3
        have b4 : rBad 4 s.1 (ax_u I3 0 2 (I3 0 2 + 1)) := b3.to (zu_ne (by omega)) (zu_ne (by omega))
        have l3 : I3 0 106 = (cs.length : Int) := (y3.Q q2).1
        refine zq_qPartTold_183 _ J 1 (pt_b b4 (hP0 4 s.1 _ (Option.some.inj hm).symm (z2.trans (y3.Z.trans ((rY.refl I3).u (Or.inl rfl)).Z)) ⟨b4, ?_, ?_⟩))
        · rw [zu_ne (by omega)]; omega
        · rw [zu_ne (by omega)]; omega
    · rw [if_neg c] at hm
      have min78 : ∀ I3, rZ I0 I3 → rTx T n s I3 → rQ cs (st ++ B) dep (B.length : Int) (kd : Int) I3 → (wd T n s = 7 ∨ wd T n s = 8) → zb_W (d + 5) ax_m288 (78, [some (.inr (.inr (some 0))), some (.inl 1), none, none, none, none], [], zr_S I3 J) Q := by
        intro I3 z3 t3 q3 hc
        rw [if_pos hc] at hm
        have hlt := wd_w (T := T) (n := n) (s := s) (by omega)
        have cont : ∀ (a4 : Int) I4, (a4 = 0 ∨ a4 = 1) → (a4 = 0 → wd T n s = 8) → (a4 = 1 → wd T n s = 7) → rZ I0 I4 → rTx T n (aWd T n s) I4 → rQ cs (st ++ B) dep (B.length : Int) (kd : Int) I4 → zb_W (d + 5) ax_m288 (101, [some (.inr (.inr (some 0))), some (.inl 1), none, none, some (.inl a4), none], [], zr_S I4 J) Q := by
          intro a4 I4 ha ha0 ha1 z4 t4 q4
          have hx : (if wd T n s = 7 then (21 : Int) else 22) = if a4 = 0 then 22 else 21 := by
            rcases ha with q | q
            · have h8 := ha0 q
              rw [if_neg (show ¬ wd T n s = 7 by omega), if_pos q]
            · rw [if_pos (ha1 q), if_neg (show ¬ a4 = 0 by omega)]
          refine pt_101 (x := if wd T n s = 7 then (21 : Int) else 22) (st := st) (cs := cs) hx ha t4 q4 ⟨by omega, hw.2⟩ hD (fun k q I5 g1 g2 g3 z5 b5 => ?_) (fun g1 g2 I5 z5 t5 q5 => ?_)
          · refine hP0 k q I5 ?_ (z4.trans z5) b5
            by_cases g : lc T n (aWd T n s).1 = 40
            · rw [if_pos g, if_pos (g1 g).1] at hm
              rw [(g1 g).2, g3]
              exact (Option.some.inj hm).symm
            · rw [if_neg g] at hm
              rw [g2 g, g3]
              exact (Option.some.inj hm).symm
          · rw [if_pos g1, if_neg g2] at hm
            obtain ⟨w1, w2⟩ := wk_push (x := if wd T n s = 7 then (21 : Int) else 22) (by by_cases c7 : wd T n s = 7; rw [if_pos c7]; omega; rw [if_neg c7]; omega) hst
            have := aS_lt T n (aWd T n s)
            exact ih (aS T n (aWd T n s)) _ (dep + 1) cs I5 (by omega) hm ⟨t5, q5, ⟨by rw [List.length_cons]; omega, hw.2⟩, w1, by omega, by omega⟩ (z4.trans z5)
        refine zq_qPartTold_78 I3 J 1 (sr_takes (w := 61) (ks := 7) (by decide) t3 (fun h7 I4 y4 t4 => b1 (cont 1 I4 (Or.inr rfl) (fun z => absurd z (by decide)) (fun _ => h7) (z3.trans y4.Z) t4 (y4.Q q3))) (fun h7 I4 y4 t4 _ => b0 ?_))
        have h7' : wd T n s ≠ 7 := h7
        have h8 : wd T n s = 8 := by omega
        exact sr_asks (w := 62) (ks := 8) (by decide) t4 (fun _ I5 y5 t5 => cont 0 I5 (Or.inl rfl) (fun _ => h8) (fun z => absurd z (by decide)) (z3.trans (y4.Z.trans y5.Z)) t5 (y5.Q (y4.Q q3))) (fun z => absurd h8 z)
      refine sr_isHere (w := 61) (ks := 7) (by decide) t2 (fun I3 y3 t3 e3 => bc (fun c7 => min78 I3 (z2.trans y3.Z) t3 (y3.Q q2) (Or.inl c7)) (fun c7 => sr_isHere (w := 62) (ks := 8) (by decide) t3 (fun I4 y4 t4 e4 => bc (fun c8 => min78 I4 (z2.trans (y3.Z.trans y4.Z)) t4 (y4.Q (y3.Q q2)) (Or.inr c8)) (fun c8 => ?_))))
      have c7' : wd T n s ≠ 7 := c7
      have c8' : wd T n s ≠ 8 := c8
      have q4 := y4.Q (y3.Q q2)
      have z4 := z2.trans (y3.Z.trans y4.Z)
      rw [if_neg (by omega)] at hm
      refine w_if (x := pw T n kd s) ⟨by omega, by omega⟩ ⟨by decide, by decide⟩ (fun cp => ?_) (fun cp => ?_)
      · rw [if_pos cp] at hm
        exact zq_qPartTold_183 I4 J 0 (zq_qPartTold_2 I4 J 0 (b0 (pt_186 hm ⟨t4, q4, hw, hst, hD⟩ hk2 z4 hP0 (fun f' s' st' dep' cs' I' hf' => hP1 f' s' st' dep' cs' I' (by omega)))))
      · rw [if_neg cp] at hm
        have hv := hp.2 cp
        have hlt := wd_w (T := T) (n := n) (s := s) (vOf_nn (by omega))
        rw [show 60 + pw T n kd s - 10 = pw T n kd s + 50 by omega]
        refine sr_qOpens (p := I4 0 2) q4 t4.e hd (by omega) (by omega) (fun hd6 I5 h5 q5 => ?_) (fun hd6 I5 y5 b5 => ?_)
        · rw [if_neg hd6] at hm
          obtain ⟨w1, w2⟩ := wk_push (x := pw T n kd s + 50) (by omega) hst
          refine sr_qAsksWord (t4.Qfr h5) hv (by omega) (fun I6 y6 t6 => zq_qPartTold_183 I6 J 1 (ih (aWd T n s) _ (dep + 1) cs I6 (by omega) hm ⟨t6, y6.Q q5, ⟨by rw [List.length_cons]; omega, hw.2⟩, w1, by omega, by omega⟩ (z4.trans ((rZ.opn h5).trans y6.Z))))
        · rw [if_pos hd6] at hm
          rw [e4] at b5
          have l5 : I5 0 106 = (cs.length : Int) := (y5.Q q4).1
          exact sr_qAsksWord_b b5 (zq_qPartTold_183 I5 J 1 (pt_b b5 (hP0 4 s.1 I5 (Option.some.inj hm).symm (z4.trans y5.Z) ⟨b5, by omega, by omega⟩)))
theorem sr_qPartTold {s : zs} {st : List Int} {dep : Int} {cs : List Int} {I : zF} {f : Nat} {P0 : zF → zF → Prop} (hk2 : kd ≤ 2) (hm : mach T n kd f 0 s st dep cs = some r) (hS : mS T n kd B D0 s st dep cs I) (hP0 : ∀ k q I', r = .inl (k, q) → rZ I I' → rBq 1601 k q I' → P0 I' J) (hP1 : ∀ f' s' st' dep' cs' I', f' < f → mach T n kd f' 2 s' st' dep' cs' = some r → rZ I I' → mS T n kd B D0 s' st' dep' cs' I' → tp60 st' → P0 I' J) : zr_v (d + 6) 288 [.inr (.inr (some 0))] I J P0 := zr_inv (M := ax_m288) rfl (Nat.le_of_ble_eq_true rfl) (zq_qPartTold_0 I J (pt_2 hk2 f (fun k q I' a b c => zr_Qv.of (hP0 k q I' a b c)) (fun f' s' st' dep' cs' I' a b c e g => zr_Qv.of (hP1 f' s' st' dep' cs' I' a b c e g)) f s st dep cs I (Nat.le_refl f) hm hS (rZ.refl I)))
end ZPT2
