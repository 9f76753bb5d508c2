/-! THE REFERENCE: sums -/
section ZSU
variable {d : Nat} {I I0 J : zF} {T : Nat → Int} {n : Int} {kd : Nat} {B : List Int} {D0 : Int} {r : zR} {Q : Option ax_v → ax_S → Prop}
theorem go_140 {s : zs} {st cs : List Int} {dep base k : Int} (hB : ∀ x, x ∈ B → 5 ≤ x) (hc : lc T n s.1 = 42 ∨ lc T n s.1 = 47) (hs : sOk T n s) (hL : rTx T n (aS T n s) I) (e2 : I 0 2 = s.1 + 1) (hQ : rQ cs (st ++ B) dep base k I) (hl : cs.length + (st ++ B).length < 1700) (hP : ∀ I', rKs I I' → rQ (cs ++ pU fM st) (((if lc T n s.1 = 42 then 3 else 4) :: pD fM st) ++ B) dep base k I' → Q (some (.inl 1)) (zr_S I' J)) : zb_W (d + 2) ax_m289 (140, [some (.inr (.inr (some 0))), none], [], zr_S I J) Q := by
  have hlt : s.1 < n := by rcases hc with q | q <;> exact (lc_lt q (by decide)).1
  have hs1 := hs.1
  have hn := hs.n
  have e1 : I 1 s.1.toNat = lc T n s.1 := by
    unfold lc
    rw [if_pos hlt]
    exact hL.t hs1.1 hlt
  refine zq_qGoesOn_140 I J ?_
  rw [show I 0 2 - 1 = s.1 by omega, zb_w (x := s.1) (by omega) (by omega), e1]
  refine ⟨by omega, w_if ⟨by omega, by omega⟩ ⟨by decide, by decide⟩ (fun c => ?_) (fun c => ?_)⟩
  · rw [if_pos c] at hP
    exact go_162 ⟨by decide, by decide⟩ hB st cs I hQ hl (rKs.refl I) hP
  · rw [if_neg c] at hP
    exact go_162 ⟨by decide, by decide⟩ hB st cs I hQ hl (rKs.refl I) hP
theorem go_225 {s : zs} {st cs : List Int} {dep base k : Int} (hB : ∀ x, x ∈ B → 5 ≤ x) (hc : lc T n s.1 = 43 ∨ lc T n s.1 = 45) (hs : sOk T n s) (hL : rTx T n (aS T n s) I) (e2 : I 0 2 = s.1 + 1) (hQ : rQ cs (st ++ B) dep base k I) (hl : cs.length + (st ++ B).length < 1700) (hP : ∀ I', rKs I I' → rQ (cs ++ pU fA st) (((if lc T n s.1 = 43 then 1 else 2) :: pD fA st) ++ B) dep base k I' → Q (some (.inl 1)) (zr_S I' J)) : zb_W (d + 2) ax_m289 (225, [some (.inr (.inr (some 0))), none], [], zr_S I J) Q := by
  have hlt : s.1 < n := by rcases hc with q | q <;> exact (lc_lt q (by decide)).1
  have hs1 := hs.1
  have hn := hs.n
  have e1 : I 1 s.1.toNat = lc T n s.1 := by
    unfold lc
    rw [if_pos hlt]
    exact hL.t hs1.1 hlt
  refine zq_qGoesOn_225 I J ?_
  rw [show I 0 2 - 1 = s.1 by omega, zb_w (x := s.1) (by omega) (by omega), e1]
  refine ⟨by omega, w_if ⟨by omega, by omega⟩ ⟨by decide, by decide⟩ (fun c => ?_) (fun c => ?_)⟩
  · rw [if_pos c] at hP
    exact go_247 ⟨by decide, by decide⟩ hB st cs I hQ hl (rKs.refl I) hP
  · rw [if_neg c] at hP
    exact go_247 ⟨by decide, by decide⟩ hB st cs I hQ hl (rKs.refl I) hP
theorem go_43 {s : zs} {st cs : List Int} {dep : Int} (hx : bX st = 20 ∨ bX st = 23 ∨ bX st = 24) (hlt : s.1 < n) (hL : rTx T n s I) (e2 : I 0 2 = s.1) (hQ : rQ cs (st ++ B) dep (B.length : Int) (kd : Int) I) (hl : cs.length + (st ++ B).length < 1700) (hP : ∀ I', rZ I I' → rTx T n (aS T n s) I' → rQ (cs ++ bU st ++ (if bX st = 20 then [] else if bX st = 23 then [5] else [6])) (bD st ++ B) (dep - 1) (B.length : Int) (kd : Int) I' → zb_W (d + 3) ax_m289 (115, [some (.inr (.inr (some 0))), none], [], zr_S I' J) Q) : zb_W (d + 3) ax_m289 (43, [some (.inr (.inr (some 0))), none], [], zr_S I J) Q := by
  have hx1 : bX st ≠ -1 := by omega
  have hlen : (st ++ B).length = st.length + B.length := List.length_append
  have hbl := bUD_len st hx1
  have hlen2 : (bD st ++ B).length = (bD st).length + B.length := List.length_append
  have hlen3 : (cs ++ bU st).length = cs.length + (bU st).length := List.length_append
  refine zq_qGoesOn_43 I J (sr_qDropsToBracket hQ.at2 (by omega) (fun I1 h1 q1 => ?_))
  rw [bR_eq st hx1] at q1
  have q1' : rQ (cs ++ bU st) (bX st :: (bD st ++ B)) dep (B.length : Int) (kd : Int) I1 := q1
  have z1 : rZ I I1 := ((rY.refl I).u (j := 2) (v := I 0 2 + 1) (Or.inl rfl)).Z.trans (fun i j a b c => h1 i j b (by omega))
  have t1 : rTx T n (aS T n s) I1 := (hL.adv e2 hlt).fr (fun i j a b c => h1 i j a (by omega))
  have e109 : (ax_u I1 0 108 (I1 0 108 - 1)) 0 109 - 1 = dep - 1 := by rw [zu_ne (by omega), q1'.2.2.2.2.1]
  rw [e109]
  obtain ⟨p1, p2⟩ := q1'.pop (v := dep - 1)
  have z2 : rZ I1 (ax_u (ax_u I1 0 108 (I1 0 108 - 1)) 0 109 (dep - 1)) := fun i j a b c => by rw [zu_ne (by omega), zu_ne (by omega)]
  have t2 : rTx T n (aS T n s) (ax_u (ax_u I1 0 108 (I1 0 108 - 1)) 0 109 (dep - 1)) := t1.fr (fun i j a b c => by rw [zu_ne (by omega), zu_ne (by omega)])
  generalize ax_u (ax_u I1 0 108 (I1 0 108 - 1)) 0 109 (dep - 1) = W at *
  have eW : W 0 108 = ((bD st ++ B).length : Int) := p1.2.2.1
  rw [eW, zb_w (x := ((bD st ++ B).length : Int)) (by omega) (by omega), show ((bD st ++ B).length : Int).toNat = (bD st ++ B).length by omega, p2]
  refine ⟨by omega, w_if ⟨by omega, by omega⟩ ⟨by decide, by decide⟩ (fun c => ?_) (fun c => ⟨by omega, w_if ⟨by omega, by omega⟩ ⟨by decide, by decide⟩ (fun c2 => ?_) (fun c2 => ?_)⟩)⟩
  · rw [if_pos c, List.append_nil] at hP
    exact hP W (z1.trans z2) t2 p1
  · rw [if_neg c, if_pos c2] at hP
    exact sr_qCode p1 (by omega) (fun I3 h3 q3 => hP I3 (z1.trans (z2.trans (fun i j a b e => h3 i j b (by omega)))) (t2.fr (fun i j a b e => h3 i j a (by omega))) q3)
  · rw [if_neg c, if_neg c2] at hP
    exact sr_qCode p1 (by omega) (fun I3 h3 q3 => hP I3 (z1.trans (z2.trans (fun i j a b e => h3 i j b (by omega)))) (t2.fr (fun i j a b e => h3 i j a (by omega))) q3)
theorem go_326 {s : zs} {st cs : List Int} {dep : Int} (hx : bX st = 21 ∨ bX st = 22) (hL : rTx T n s I) (hQ : rQ cs (st ++ B) dep (B.length : Int) (kd : Int) I) (hl : cs.length + (st ++ B).length < 1700) (hP0 : lc T n s.1 ≠ 44 → ∀ I', rY I I' → rBad 1 s.1 I' → Q (some (.inl 0)) (zr_S I' J)) (hP1 : lc T n s.1 = 44 → ∀ I', rZ I I' → rTx T n (aS T n s) I' → rQ (cs ++ bU st) (((bX st + 2) :: bD st) ++ B) dep (B.length : Int) (kd : Int) I' → Q (some (.inl 1)) (zr_S I' J)) : zb_W (d + 3) ax_m289 (326, [some (.inr (.inr (some 0))), none], [], zr_S I J) Q := by
  have hx1 : bX st ≠ -1 := by omega
  have hlen : (st ++ B).length = st.length + B.length := List.length_append
  have hbl := bUD_len st hx1
  have hlen2 : (bD st ++ B).length = (bD st).length + B.length := List.length_append
  refine zq_qGoesOn_326 I J (sr_asksSign ⟨by decide, by decide⟩ hL (fun c I1 y1 t1 => e_ok t1.e (sr_qDropsToBracket (y1.Q hQ) (by omega) (fun I2 h2 q2 => ?_))) (fun c I1 y1 b1 => e_no b1 (hP0 c I1 y1 b1)))
  rw [bR_eq st hx1] at q2
  have q2' : rQ (cs ++ bU st) (bX st :: (bD st ++ B)) dep (B.length : Int) (kd : Int) I2 := q2
  have e : I2 0 108 = ((bX st :: (bD st ++ B)).length : Int) := q2'.2.2.1
  rw [List.length_cons] at e
  rw [show I2 0 108 - 1 = ((bD st ++ B).length : Int) by omega, zb_w (x := ((bD st ++ B).length : Int)) (by omega) (by omega), show ((bD st ++ B).length : Int).toNat = (bD st ++ B).length by omega, show I2 76 (bD st ++ B).length = bX st from q2'.2.2.2.1.1]
  refine ⟨by omega, by omega, hP1 c _ (y1.Z.trans (fun i j a b e => by rw [zu_ne (by omega)]; exact h2 i j b (by omega))) (t1.fr (fun i j a b e => by rw [zu_ne (by omega)]; exact h2 i j a (by omega))) (q2'.chg (by omega))⟩
/-- it goes on (1), is wrong, or is at its end (0) -/
theorem go_0 (hB : ∀ x, x ∈ B → 5 ≤ x) (f0 : Nat) (hP0 : ∀ k q I', r = .inl (k, q) → rZ I0 I' → rBq 1601 k q I' → Q (some (.inl 0)) (zr_S I' J)) (hPe : ∀ s' st' dep' cs' I', r = .inr (s', cs' ++ st') → rZ I0 I' → mS T n kd B D0 s' st' dep' cs' I' → dep' = D0 → Q (some (.inl 0)) (zr_S I' J)) (hP1 : ∀ f' s' st' dep' cs' I', f' < f0 → mach T n kd f' 0 s' st' dep' cs' = some r → rZ I0 I' → mS T n kd B D0 s' st' dep' cs' I' → Q (some (.inl 1)) (zr_S I' J)) : ∀ (f : Nat) (s : zs) (st : List Int) (dep : Int) (cs : List Int) (I : zF), f ≤ f0 → mach T n kd f 2 s st dep cs = some r → mS T n kd B D0 s st dep cs I → tp60 st → rZ I0 I → zb_W (d + 3) ax_m289 (0, [some (.inr (.inr (some 0))), none], [], zr_S I J) Q := by
  intro f
  induction f using Nat.strongRecOn with
  | ind f ih =>
    intro s st dep cs I hf hm hS ht hZ
    cases f with
    | zero => exact (mach_00 hm).elim
    | succ f =>
      rw [mach_2] at hm
      obtain ⟨hL, hQ, hw, hst, hD⟩ := id hS
      have hn := hL.ok.n
      have h1 := hL.ok.1
      have hco := cO_ge st
      have hlen : (st ++ B).length = st.length + B.length := List.length_append
      have hlc := lc_in hL.ok h1.1
      obtain ⟨hbr1, hbr0⟩ := wk_br st hst ht
      have hbX : bX st = -1 ∨ (20 ≤ bX st ∧ bX st ≤ 24) := by
        by_cases c : bX st = -1
        · exact Or.inl c
        · exact Or.inr (hbr1 c).2.2
      have hb32 : n32 (bX st) := ⟨by omega, by omega⟩
      have key : ∀ I1, rZ I0 I1 → rTx T n s I1 → rQ cs (st ++ B) dep (B.length : Int) (kd : Int) I1 → ¬ (lc T n s.1 = 41 ∧ (bX st = 20 ∨ bX st = 23 ∨ bX st = 24)) → zb_W (d + 3) ax_m289 (122, [some (.inr (.inr (some 0))), none], [], zr_S I1 J) Q := by
        intro I1 z1 t1 q1 hno
        rw [if_neg hno] at hm
        have mul : ∀ I2, rZ I0 I2 → rTx T n (aS T n s) I2 → I2 0 2 = s.1 + 1 → rQ cs (st ++ B) dep (B.length : Int) (kd : Int) I2 → (lc T n s.1 = 42 ∨ lc T n s.1 = 47) → zb_W (d + 3) ax_m289 (140, [some (.inr (.inr (some 0))), none], [], zr_S I2 J) Q := by
          intro I2 z2 t2 e2 q2 hc
          rw [if_pos hc] at hm
          obtain ⟨w1, w2, w3⟩ := wk_M hst ht
          obtain ⟨w4, w5⟩ := wk_put (x := if lc T n s.1 = 42 then 3 else 4) (by by_cases c : lc T n s.1 = 42; rw [if_pos c]; omega; rw [if_neg c]; omega) w1 w2
          have hl2 := pUD_len fM st
          have hc2 : (cs ++ pU fM st).length = cs.length + (pU fM st).length := List.length_append
          have := aS_lt T n s
          exact go_140 hB hc hL.ok t2 e2 q2 (by omega) (fun I3 k3 q3 => hP1 f _ _ _ _ I3 (by omega) hm (z2.trans k3.Z) ⟨k3.fr t2, q3, ⟨by rw [List.length_cons]; omega, hw.2⟩, w4, by omega, hD.2⟩)
        have add : ∀ I2, rZ I0 I2 → rTx T n (aS T n s) I2 → I2 0 2 = s.1 + 1 → rQ cs (st ++ B) dep (B.length : Int) (kd : Int) I2 → (lc T n s.1 = 43 ∨ lc T n s.1 = 45) → zb_W (d + 3) ax_m289 (225, [some (.inr (.inr (some 0))), none], [], zr_S I2 J) Q := by
          intro I2 z2 t2 e2 q2 hc
          rw [if_neg (by omega), if_pos hc] at hm
          obtain ⟨w1, w2, w3⟩ := wk_A hst ht
          obtain ⟨w4, w5⟩ := wk_put (x := if lc T n s.1 = 43 then 1 else 2) (by by_cases c : lc T n s.1 = 43; rw [if_pos c]; omega; rw [if_neg c]; omega) w1 w2
          have hl2 := pUD_len fA st
          have hc2 : (cs ++ pU fA st).length = cs.length + (pU fA st).length := List.length_append
          have := aS_lt T n s
          exact go_225 hB hc hL.ok t2 e2 q2 (by omega) (fun I3 k3 q3 => hP1 f _ _ _ _ I3 (by omega) hm (z2.trans k3.Z) ⟨k3.fr t2, q3, ⟨by rw [List.length_cons]; omega, hw.2⟩, w4, by omega, hD.2⟩)
        refine zq_qGoesOn_122 I1 J (sr_takesSign (c := 42) ⟨by decide, by decide⟩ t1 (fun c I2 y2 t2 e2 => b1 (mul I2 (z1.trans y2.Z) t2 e2 (y2.Q q1) (Or.inl c))) (fun c42 I2 y2 t2 _ => b0 (sr_takesSign (c := 47) ⟨by decide, by decide⟩ t2 (fun c I3 y3 t3 e3 => b1 (mul I3 (z1.trans (y2.Z.trans y3.Z)) t3 e3 (y3.Q (y2.Q q1)) (Or.inr c))) (fun c47 I3 y3 t3 _ => b0 (sr_takesSign (c := 43) ⟨by decide, by decide⟩ t3 (fun c I4 y4 t4 e4 => b1 (add I4 (z1.trans (y2.Z.trans (y3.Z.trans y4.Z))) t4 e4 (y4.Q (y3.Q (y2.Q q1))) (Or.inl c))) (fun c43 I4 y4 t4 _ => b0 (sr_takesSign (c := 45) ⟨by decide, by decide⟩ t4 (fun c I5 y5 t5 e5 => b1 (add I5 (z1.trans (y2.Z.trans (y3.Z.trans (y4.Z.trans y5.Z)))) t5 e5 (y5.Q (y4.Q (y3.Q (y2.Q q1)))) (Or.inr c))) (fun c45 I5 y5 t5 e5 => b0 ?_))))))))
        have z5 := z1.trans (y2.Z.trans (y3.Z.trans (y4.Z.trans y5.Z)))
        have q5 := y5.Q (y4.Q (y3.Q (y2.Q q1)))
        rw [if_neg (by omega), if_neg (by omega)] at hm
        have comma : (bX st = 21 ∨ bX st = 22) → zb_W (d + 3) ax_m289 (326, [some (.inr (.inr (some 0))), none], [], zr_S I5 J) Q := by
          intro hc
          rw [if_pos hc] at hm
          refine go_326 hc t5 q5 (by omega) (fun c I6 y6 b6 => ?_) (fun c I6 z6 t6 q6 => ?_)
          · rw [if_neg c] at hm
            have l6 : I6 0 106 = (cs.length : Int) := (y6.Q q5).1
            exact hP0 1 s.1 I6 (Option.some.inj hm).symm (z5.trans y6.Z) ⟨b6, by omega, by omega⟩
          · rw [if_pos c] at hm
            have hx1 : bX st ≠ -1 := by omega
            obtain ⟨w1, w2, w3⟩ := hbr1 hx1
            obtain ⟨w4, w5⟩ := wk_push (x := bX st + 2) (by omega) w1
            have hl2 := bUD_len st hx1
            have hc2 : (cs ++ bU st).length = cs.length + (bU st).length := List.length_append
            have := aS_lt T n s
            exact hP1 f _ _ _ _ I6 (by omega) hm (z5.trans z6) ⟨t6, q6, ⟨by rw [List.length_cons]; omega, hw.2⟩, w4, by omega, hD.2⟩
        refine sr_qBracket q5 (by omega) (w_if hb32 ⟨by decide, by decide⟩ (fun c => comma (Or.inl c)) (fun c21 => sr_qBracket q5 (by omega) (w_if hb32 ⟨by decide, by decide⟩ (fun c => comma (Or.inr c)) (fun c22 => sr_qBracket q5 (by omega) (w_if hb32 ⟨by decide, by decide⟩ (fun c => ?_) (fun c => e_ok t5.e (sr_fail t5.e ⟨by decide, by decide⟩ (fun I6 y6 _ b6 => ?_))))))))
        · rw [if_neg (by omega), if_pos c] at hm
          have := hbr0 c
          exact hPe s st dep cs I5 (Option.some.inj hm).symm z5 ⟨t5, q5, hw, hst, hD⟩ (by omega)
        · rw [if_neg (by omega), if_neg c] at hm
          rw [e5] at b6
          have l6 : I6 0 106 = (cs.length : Int) := (y6.Q q5).1
          exact hP0 1 s.1 I6 (Option.some.inj hm).symm (z5.trans y6.Z) ⟨b6, by omega, by omega⟩
      have close : ∀ I1, rZ I0 I1 → rTx T n s I1 → I1 0 2 = s.1 → rQ cs (st ++ B) dep (B.length : Int) (kd : Int) I1 → lc T n s.1 = 41 → (bX st = 20 ∨ bX st = 23 ∨ bX st = 24) → zb_W (d + 3) ax_m289 (43, [some (.inr (.inr (some 0))), none], [], zr_S I1 J) Q := by
        intro I1 z1 t1 e1 q1 hc hx
        rw [if_pos ⟨hc, hx⟩] at hm
        have hx1 : bX st ≠ -1 := by omega
        obtain ⟨w1, w2, w3⟩ := hbr1 hx1
        have hl2 := bUD_len st hx1
        have hlt : s.1 < n := (lc_lt hc (by decide)).1
        have hlt2 := aS_lt T n s
        refine go_43 hx hlt t1 e1 q1 (by omega) (fun I2 z2 t2 q2 => ?_)
        have hc2 : (cs ++ bU st ++ (if bX st = 20 then [] else if bX st = 23 then [5] else [6]) : List Int).length ≤ cs.length + (bU st).length + 1 := by
          rw [List.length_append, List.length_append]
          by_cases c20 : bX st = 20
          · rw [if_pos c20, List.length_nil]; omega
          · rw [if_neg c20]
            by_cases c23 : bX st = 23
            · rw [if_pos c23]; simp
            · rw [if_neg c23]; simp
        have hlen2 : (bD st ++ B).length = (bD st).length + B.length := List.length_append
        obtain ⟨f', hf', hm2⟩ := mach_1 (bD st) f (aS T n s) (dep - 1) _ hm
        generalize (cs ++ bU st ++ (if bX st = 20 then [] else if bX st = 23 then [5] else [6]) : List Int) = C at *
        have h2n := t2.ok.1
        refine zq_qGoesOn_115 I2 J (sr_qEndsPart q2 t2.e (by omega) (fun I3 h3 q3 => ?_))
        obtain ⟨v1, v2, v3⟩ := wk_60 (bD st) w1
        have hl3 := pUD_len f60 (bD st)
        have hc3 : (C ++ pU f60 (bD st)).length = C.length + (pU f60 (bD st)).length := List.length_append
        exact ih f' (by omega) _ _ _ _ I3 (by omega) hm2 ⟨t2.fr (fun i j a b c => h3 i j a (by omega)), q3, ⟨by omega, hw.2⟩, v1, by omega, by omega⟩ v2 (z1.trans (z2.trans (fun i j a b c => h3 i j b (by omega))))
      refine zq_qGoesOn_0 I J (e_ok hL.e (sr_look hL (fun I1 y1 t1 e1 => w_if (x := lc T n s.1) ⟨by omega, by omega⟩ ⟨by decide, by decide⟩ (fun c => ?_) (fun c => key I1 (hZ.trans y1.Z) t1 (y1.Q hQ) (fun z => c z.1)))))
      have z1 := hZ.trans y1.Z
      have q1 := y1.Q hQ
      exact sr_qBracket q1 (by omega) (w_if hb32 ⟨by decide, by decide⟩ (fun x => close I1 z1 t1 e1 q1 c (Or.inl x)) (fun x20 => sr_qBracket q1 (by omega) (w_if hb32 ⟨by decide, by decide⟩ (fun x => close I1 z1 t1 e1 q1 c (Or.inr (Or.inl x))) (fun x23 => sr_qBracket q1 (by omega) (w_if hb32 ⟨by decide, by decide⟩ (fun x => close I1 z1 t1 e1 q1 c (Or.inr (Or.inr x))) (fun x24 => key I1 z1 t1 q1 (by omega)))))))
end ZSU
