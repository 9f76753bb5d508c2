/-! THE REFERENCE: a test is told -/
section ZTS
variable {d : Nat} {I I0 J : zF} {T : Nat → Int} {n : Int} {kd : Nat} {r : zR} {Q : Option ax_v → ax_S → Prop} {P0 : zF → zF → Prop}
theorem ts_b {k q : Int} (hB : rBad k q I) (hP : Q none (zr_S I J)) : zb_W d ax_m294 (2, [some (.inr (.inr (some 0))), some (.inl 1), none], [], zr_S I J) Q := zq_qTest_2 I J 1 (b1 (e_no hB (zq_qTest_110 I J (e_no hB hP))))
theorem ts_b0 {k q : Int} (hB : rBad k q I) (hP : Q none (zr_S I J)) : zb_W d ax_m294 (105, [some (.inr (.inr (some 0))), none, none], [], zr_S I J) Q := zq_qTest_105 I J (zq_qTest_2 I J 0 (b0 (zq_qTest_110 I J (e_no hB hP))))
theorem ts_110 {dep base k : Int} : ∀ (st cs : List Int) (I : zF), rQ cs st dep base k I → I 0 5 = 0 → cs.length + st.length < 1700 → rKs I0 I → (∀ I', rKs I0 I' → rQ (cs ++ st) [] dep base k I' → Q none (zr_S I' J)) → zb_W (d + 2) ax_m294 (110, [some (.inr (.inr (some 0))), none, none], [], zr_S I J) Q := by
  intro st
  induction st with
  | nil =>
    intro cs I hQ he hl hK hP
    have e : I 0 108 = 0 := hQ.2.2.1
    refine zq_qTest_110 I J (e_ok he ?_)
    rw [e]
    refine ⟨fun q => absurd q (by decide), fun _ => hP I hK ?_⟩
    rw [List.append_nil]
    exact hQ
  | cons x r ih =>
    intro cs I hQ he hl hK hP
    rw [List.length_cons] at hl
    have e : I 0 108 = ((x :: r).length : Int) := hQ.2.2.1
    rw [List.length_cons] at e
    refine zq_qTest_110 I J (e_ok he ?_)
    rw [zb_w (x := I 0 108) (by omega) (by omega)]
    refine ⟨fun _ => sr_qDrops hQ (by rw [List.length_cons]; omega) (fun I1 h1 q1 => ih (cs ++ [x]) I1 q1 ?_ ?_ (hK.trans (fun i j a b c => h1 i j a c)) (fun I' h2 q2 => hP I' h2 ?_)), fun q => absurd (show (0 : Int) < I 0 108 by omega) q⟩
    · rw [h1 0 5 (by omega) (by omega)]; exact he
    · simp only [List.length_append, List.length_cons, List.length_nil] at *; omega
    · rw [List.append_assoc] at q2
      exact q2
theorem ts_2 (hk2 : kd ≤ 2) (hP0 : ∀ k q I', r = .inl (k, q) → rZ I0 I' → rBad k q I' → Q none (zr_S I' J)) (hP1 : ∀ s' C dep' I', r = .inr (s', C) → rZ I0 I' → rTx T n s' I' → rQ C [] dep' 0 (kd : Int) I' → Q none (zr_S I' J)) : ∀ (f : Nat) (s : zs) (st : List Int) (dep : Int) (cs : List Int) (I : zF), macht T n kd f 0 s st dep cs = some r → mT T n kd s st dep cs I → rZ I0 I → zb_W (d + 8) ax_m294 (2, [some (.inr (.inr (some 0))), some (.inl 1), none], [], zr_S I J) Q := by
  intro f
  induction f using Nat.strongRecOn with
  | ind f ih =>
    intro s st dep cs I hm hS hZ
    cases f with
    | zero => exact (macht_00 hm).elim
    | succ f =>
      rw [macht_0] at hm
      obtain ⟨hL, hQ, hw, hD, hM⟩ := id hS
      have hn := hL.ok.n
      have h1 := hL.ok.1
      have hlc := lc_in hL.ok h1.1
      refine zq_qTest_2 I J 1 (b1 (e_ok hL.e (sr_look hL (fun I1 y1 t1 e1 => w_if (x := lc T n s.1) ⟨by omega, by omega⟩ ⟨by decide, by decide⟩ (fun c => ?_) (fun c => ?_)))))
      · rw [if_pos c] at hm
        have hlt : s.1 < n := (lc_lt c (by decide)).1
        have q1 := y1.Q hQ
        refine sr_qOpens (p := I1 0 2) q1 t1.e (by omega) ⟨by decide, by decide⟩ (by omega) (fun hd6 I3 h3 q3 => ?_) (fun hd6 I3 y3 b3 => ?_)
        · rw [if_neg hd6] at hm
          have e3 : I3 0 2 = s.1 := by rw [h3 0 2 (by omega) (by omega)]; exact e1
          have := aS_lt T n s
          refine ih f (by omega) (aS T n s) (25 :: st) (dep + 1) cs _ hm ⟨(t1.Qfr h3).adv e3 hlt, q3.at2, by rw [List.length_cons]; omega, ⟨by rw [List.length_cons]; omega, by omega⟩, fun x hx => ?_⟩ (hZ.trans (y1.Z.trans ((rZ.opn h3).trans ((rY.refl I3).u (Or.inl rfl)).Z)))
          rcases List.mem_cons.mp hx with rfl | h
          · decide
          · exact hM x h
        · rw [if_pos hd6] at hm
          rw [e1] at b3
          have b4 : rBad 4 s.1 (ax_u I3 0 2 (I3 0 2 + 1)) := b3.to (zu_ne (by omega)) (zu_ne (by omega))
          exact ts_b b4 (hP0 4 s.1 _ (Option.some.inj hm).symm (hZ.trans (y1.Z.trans (y3.Z.trans ((rY.refl I3).u (Or.inl rfl)).Z))) b4)
      · rw [if_neg c] at hm
        refine sr_isHere (w := 57) (ks := 23) (by decide) t1 (fun I2 y2 t2 e2 => bc (fun c23 => ?_) (fun c23 => ?_))
        · have c' : wd T n s = 23 := c23
          rw [if_pos c'] at hm
          have q2 := y2.Q (y1.Q hQ)
          have hlt := wd_w (T := T) (n := n) (s := s) (by omega)
          refine sr_qOpens (p := I2 0 2) q2 t2.e (by omega) ⟨by decide, by decide⟩ (by omega) (fun hd6 I3 h3 q3 => ?_) (fun hd6 I3 y3 b3 => ?_)
          · rw [if_neg hd6] at hm
            refine sr_asks (w := 57) (ks := 23) (by decide) (t2.Qfr h3) (fun _ I4 y4 t4 => ih f (by omega) (aWd T n s) (12 :: st) (dep + 1) cs I4 hm ⟨t4, y4.Q q3, by rw [List.length_cons]; omega, ⟨by rw [List.length_cons]; omega, by omega⟩, fun x hx => ?_⟩ (hZ.trans (y1.Z.trans (y2.Z.trans ((rZ.opn h3).trans y4.Z))))) (fun z => absurd c' z)
            rcases List.mem_cons.mp hx with rfl | h
            · decide
            · exact hM x h
          · rw [if_pos hd6] at hm
            rw [e2] at b3
            exact sr_asks_b (w := 57) (ks := 23) (by decide) b3 (ts_b b3 (hP0 4 s.1 _ (Option.some.inj hm).symm (hZ.trans (y1.Z.trans (y2.Z.trans y3.Z))) b3))
        · have c' : ¬ wd T n s = 23 := c23
          rw [if_neg c'] at hm
          have q2 := y2.Q (y1.Q hQ)
          have z2 := hZ.trans (y1.Z.trans y2.Z)
          refine sr_qFact (dd := (6 - dep).toNat) hk2 (fun x hx => by have := hM x hx; omega) t2 q2 hw (by omega) (by omega) (fun k q e I3 z3 b3 => ?_) (fun s' out e I3 z3 t3 q3 => ?_)
          · rw [e] at hm
            have hm' : some (Sum.inl (k, q)) = some r := hm
            exact sr_qDropsNots_b b3.1 (e_no b3.1 (ts_b0 b3.1 (hP0 k q I3 (Option.some.inj hm').symm (z2.trans z3) b3.1)))
          · rw [e] at hm
            have hm' : macht T n kd f 1 s' st dep (cs ++ out) = some r := hm
            have ht := tyR_all (T := T) (n := n) (kd := kd) (6 - dep).toNat s s' out hL.ok e
            have h2 := t3.ok.1
            have hlc1 : (cs ++ out).length = cs.length + out.length := List.length_append
            obtain ⟨f', hf', hm2⟩ := macht_1 st f s' dep _ hm'
            refine sr_qDropsNots q3 t3.e (by omega) (fun I4 h4 q4 => ?_)
            have hl3 := pUD_len f12 st
            have hc3 : (cs ++ out ++ pU f12 st).length = (cs ++ out).length + (pU f12 st).length := List.length_append
            have t4 := t3.fr (fun i j a b c => h4 i j a (by omega))
            have z4 := z2.trans (z3.trans (fun i j a b c => h4 i j b (by omega)))
            refine e_ok t4.e (sr_qGoesOnTest hm2 ⟨t4, q4, by omega, ⟨by omega, by omega⟩, fun x hx => hM x (pD_mem f12 _ x hx)⟩ (fun k q I5 hr z5 b5 => b0 (ts_b0 b5 (hP0 k q I5 hr (z4.trans z5) b5))) (fun s5 st5 dep5 cs5 I5 hr z5 hS5 => b0 (zq_qTest_105 I5 J (zq_qTest_2 I5 J 0 (b0 ?_)))) (fun f5 s5 st5 dep5 cs5 I5 hf5 hm5 z5 hS5 => b1 (ih f5 (by omega) s5 st5 dep5 cs5 I5 hm5 hS5 (z4.trans z5))))
            obtain ⟨t5, q5, w5, _, _⟩ := hS5
            have hn5 := t5.ok.1
            exact ts_110 st5 cs5 I5 q5 t5.e (by omega) (rKs.refl I5) (fun I6 k6 q6 => hP1 s5 _ dep5 I6 hr (z4.trans (z5.trans k6.Z)) (k6.fr t5) q6)
theorem sr_qTest {s : zs} (hk2 : kd ≤ 2) (hL : rTx T n s I) (hQ : rQ [] [] 0 0 (kd : Int) I) (hP0 : ∀ k q, pTst T n (pFact T n kd 6) s = .inl (k, q) → ∀ I', rZ I I' → rBad k q I' → P0 I' J) (hP1 : ∀ s' out, pTst T n (pFact T n kd 6) s = .inr (s', out) → ∀ I' dep', rZ I I' → rTx T n s' I' → rQ out [] dep' 0 (kd : Int) I' → P0 I' J) : zr_v (d + 9) 294 [.inr (.inr (some 0))] I J P0 := by
  have hn := hL.ok.n
  have h1 := hL.ok.1
  obtain ⟨f, hm⟩ := test_eq (T := T) (n := n) (kd := kd) (s := s) hn.2 (d := 6) (by decide) hL.ok []
  have hm0 : macht T n kd f 0 s [] 0 [] = some (pAdd (pTst T n (pFact T n kd 6) s) []) := hm
  refine zr_inv (M := ax_m294) rfl (Nat.le_of_ble_eq_true rfl) (zq_qTest_0 I J (ts_2 (I0 := I) hk2 (fun k q I' hr z b' => zr_Qv.of ?_) (fun s' C dep' I' hr z t' q' => zr_Qv.of ?_) f s [] 0 [] I hm0 ⟨hL, hQ, by simp; omega, ⟨by simp; omega, by decide⟩, fun x hx => absurd hx (by simp)⟩ (rZ.refl I)))
  · cases hp : pTst T n (pFact T n kd 6) s with
    | inl x =>
      rw [hp] at hr
      have hr' : (Sum.inl x : zR) = .inl (k, q) := hr
      exact hP0 k q (by rw [hp, hr']) I' z b'
    | inr x =>
      rw [hp] at hr
      have hr' : (Sum.inr (x.1, [] ++ x.2) : zR) = .inl (k, q) := hr
      cases hr'
  · cases hp : pTst T n (pFact T n kd 6) s with
    | inl x =>
      rw [hp] at hr
      have hr' : (Sum.inl x : zR) = .inr (s', C) := hr
      cases hr'
    | inr x =>
      rw [hp] at hr
      have hr' : (Sum.inr (x.1, x.2) : zR) = .inr (s', C) := hr
      exact hP1 s' C (by rw [hp, ← hr']) I' dep' z t' q'
end ZTS
