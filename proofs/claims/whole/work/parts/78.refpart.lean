/-! THE REFERENCE: a part is told -/
theorem w_if {x c : Int} (hx : n32 x) (hc : n32 c) {A B : Prop} (h1 : x = c → A) (h0 : x ≠ c → B) : (ax_w x = ax_w c → A) ∧ (¬ ax_w x = ax_w c → B) := ⟨fun q => h1 (by rwa [hx.w, hc.w] at q), fun q => h0 (fun e => q (by rw [e]))⟩
theorem e_ok {I : zF} {A B : Prop} (he : I 0 5 = 0) (h : A) : (ax_w (I 0 5) = ax_w 0 → A) ∧ (¬ ax_w (I 0 5) = ax_w 0 → B) := ⟨fun _ => h, fun q => absurd (by rw [he]) q⟩
theorem e_no {I : zF} {A B : Prop} {k q : Int} (hB : rBad k q I) (h : B) : (ax_w (I 0 5) = ax_w 0 → A) ∧ (¬ ax_w (I 0 5) = ax_w 0 → B) := ⟨fun e => absurd e hB.ne1, fun _ => h⟩
theorem rBad.to {I I' : zF} {k q : Int} (h : rBad k q I) (h5 : I' 0 5 = I 0 5) (h6 : I' 0 6 = I 0 6) : rBad k q I' := ⟨by rw [h5]; exact h.1, by rw [h6]; exact h.2.1, h.2.2⟩
def rBq (m k q : Int) (I : zF) : Prop := rBad k q I ∧ 0 ≤ I 0 106 ∧ I 0 106 ≤ m
theorem rTx.fr {T : Nat → Int} {n : Int} {s : zs} {I I' : zF} (h : rTx T n s I) (hF : ∀ i j, i ≠ 75 → i ≠ 76 → ¬ (i = 0 ∧ (j = 106 ∨ j = 108 ∨ j = 109 ∨ j = 110)) → I' i j = I i j) : rTx T n s I' := by
  refine ⟨h.ok, by rw [hF 0 3 (by omega) (by omega) (by omega)]; exact h.n, fun j hj => by rw [hF 1 j (by omega) (by omega) (by omega)]; exact h.2.2.1 j hj, by rw [hF 0 2 (by omega) (by omega) (by omega)]; exact h.p, by rw [hF 0 4 (by omega) (by omega) (by omega)]; exact h.g, by rw [hF 0 5 (by omega) (by omega) (by omega)]; exact h.e, rW_cong h.W (fun i j a b c e => hF i j (fun z => ?_) (fun z => ?_) (by omega)), by rw [hF 0 6 (by omega) (by omega) (by omega)]; exact h.e6⟩
  · rw [z] at e
    exact absurd e (by decide)
  · rw [z] at e
    exact absurd e (by decide)
theorem rTx.adv {T : Nat → Int} {n : Int} {s : zs} {I : zF} (h : rTx T n s I) (h2 : I 0 2 = s.1) (hq : s.1 < n) : rTx T n (aS T n s) (ax_u I 0 2 (I 0 2 + 1)) := by
  have h0 := h.ok.1
  refine h.to ((rY.refl I).u (Or.inl rfl)) (aS_ok h.ok hq) ?_ ?_ ?_ ?_
  · rw [zu_eq, h2]
    exact ⟨by omega, rn_le T n fB (s.1 + 1), rfl⟩
  · rw [zu_ne (by omega)]; exact h.g
  · rw [zu_ne (by omega)]; exact h.e
  · rw [zu_ne (by omega)]; exact h.e6
theorem vw_in (T : Nat → Int) (n : Int) (kd : Nat) (s : zs) : (-1 ≤ vw T n kd s ∧ vw T n kd s < 10) ∧ (vw T n kd s ≠ -1 → vOf (wd T n s) = vw T n kd s ∧ 0 ≤ vw T n kd s) := by
  unfold vw
  by_cases c : (0 ≤ vOf (wd T n s) ∧ vOf (wd T n s) < 10) ∧ alw kd (vOf (wd T n s)) = true
  · rw [if_pos c]; exact ⟨by omega, fun _ => ⟨rfl, c.1.1⟩⟩
  · rw [if_neg c]; exact ⟨by omega, fun q => absurd rfl q⟩
theorem pw_inn (T : Nat → Int) (n : Int) (kd : Nat) (s : zs) : (pw T n kd s = -1 ∨ (10 ≤ pw T n kd s ∧ pw T n kd s ≤ 11)) ∧ (pw T n kd s ≠ -1 → vOf (wd T n s) = pw T n kd s) := by
  have h := vOf_in (wd T n s)
  unfold pw
  by_cases c : 10 ≤ vOf (wd T n s) ∧ alw kd (vOf (wd T n s)) = true
  · rw [if_pos c]; exact ⟨by omega, fun _ => rfl⟩
  · rw [if_neg c]; exact ⟨Or.inl rfl, fun q => absurd rfl q⟩
theorem pw_if (T : Nat → Int) (n : Int) (kd : Nat) (s : zs) : (if (10 ≤ vOf (wd T n s) ∧ vOf (wd T n s) < 12) ∧ alw kd (vOf (wd T n s)) = true then vOf (wd T n s) else -1) = pw T n kd s := by
  have h := vOf_in (wd T n s)
  unfold pw
  by_cases c : 10 ≤ vOf (wd T n s) ∧ alw kd (vOf (wd T n s)) = true
  · rw [if_pos c, if_pos ⟨⟨c.1, by omega⟩, c.2⟩]
  · rw [if_neg c, if_neg (fun q => c ⟨q.1.1, q.2⟩)]
theorem wd_w {T : Nat → Int} {n : Int} {s : zs} (h : 0 ≤ wd T n s) : s.1 < (aWd T n s).1 := by
  have h1 := (wd_pos h).1.1
  have h2 : rn T n fL s.1 = rn T n fL (s.1 + 1) := rn_in h1.1 h1.2
  have h3 := rn_le T n fL (s.1 + 1)
  have h4 := rn_le T n fB (rn T n fL s.1)
  show s.1 < rn T n fB (rn T n fL s.1)
  omega
theorem vOf_nn {k : Int} (h : 0 ≤ vOf k) : 0 ≤ k := by
  unfold vOf at h
  by_cases c : 11 ≤ k ∧ k ≤ 20
  · omega
  · rw [if_neg c] at h
    by_cases c2 : k = 9
    · omega
    · rw [if_neg c2] at h
      by_cases c3 : k = 10
      · omega
      · rw [if_neg c3] at h; omega
/-- where the stack stands -/
def mS (T : Nat → Int) (n : Int) (kd : Nat) (B : List Int) (D0 : Int) (s : zs) (st : List Int) (dep : Int) (cs : List Int) (I : zF) : Prop := rTx T n s I ∧ rQ cs (st ++ B) dep (B.length : Int) (kd : Int) I ∧ ((cs.length : Int) + st.length + B.length ≤ s.1 ∧ -1600 ≤ D0) ∧ wk st ∧ (dep = D0 + cO st ∧ dep ≤ 6)
section ZPT
variable {d : Nat} {I I0 J : zF} {T : Nat → Int} {n : Int} {kd : Nat} {B : List Int} {D0 : Int} {r : zR} {s : zs} {st : List Int} {dep : Int} {cs : List Int} {f : Nat} {Q : Option ax_v → ax_S → Prop}
theorem pt_b {k q : Int} (hB : rBad k q I) (hP : Q none (zr_S I J)) : zb_W d ax_m288 (2, [some (.inr (.inr (some 0))), some (.inl 1), none, none, none, none], [], zr_S I J) Q := zq_qPartTold_2 I J 1 (b1 (e_no hB (zq_qPartTold_186 I J (e_no hB hP))))
theorem pt_end {s' : zs} {c : Int} (hm : mach T n kd f 1 s' st dep (cs ++ [c]) = some r) (hL : rTx T n s' I) (hQ : rQ cs (st ++ B) dep (B.length : Int) (kd : Int) I) (hw : (cs.length : Int) + st.length + B.length + 1 ≤ s'.1 ∧ -1600 ≤ D0) (hst : wk st) (hD : dep = D0 + cO st ∧ dep ≤ 6) (hZ : rZ I0 I) (hP1 : ∀ f' s' st' dep' cs' I', f' < f → mach T n kd f' 2 s' st' dep' cs' = some r → rZ I0 I' → mS T n kd B D0 s' st' dep' cs' I' → tp60 st' → Q none (zr_S I' J)) : zr_v (d + 5) 277 [.inr (.inr (some 0)), .inl c] I J (fun I6 J7 => zr_v (d + 5) 287 [.inr (.inr (some 0))] I6 J7 (fun I9 J10 => Q none (zr_S I9 J10))) := by
  have hn := hL.ok.n
  have h1 := hL.ok.1
  have hlen : (st ++ B).length = st.length + B.length := List.length_append
  have hc1 : (cs ++ [c]).length = cs.length + 1 := by simp
  refine sr_qCode hQ (by omega) (fun I3 h3 q3 => sr_qEndsPart q3 (by rw [h3 0 5 (by omega) (by omega)]; exact hL.e) (by omega) (fun I4 h4 q4 => ?_))
  obtain ⟨f', hf, hm2⟩ := mach_1 st f s' dep _ hm
  obtain ⟨w1, w2, w3⟩ := wk_60 st hst
  have hl2 := pUD_len f60 st
  have hc2 : (cs ++ [c] ++ pU f60 st).length = cs.length + 1 + (pU f60 st).length := by simp; omega
  refine hP1 f' s' _ _ _ I4 hf hm2 (hZ.trans (fun i j a b e => by rw [h4 i j b (by omega), h3 i j b (by omega)])) ⟨hL.fr (fun i j a b e => by rw [h4 i j a (by omega), h3 i j a (by omega)]), q4, ⟨by omega, hw.2⟩, w1, by omega, by omega⟩ w2
theorem pt_186 (hm : (match pAtom T n kd s with | .inl e => some (.inl e) | .inr (s1, c) => mach T n kd f 1 s1 st dep (cs ++ c)) = some r) (hS : mS T n kd B D0 s st dep cs I) (hk2 : kd ≤ 2) (hZ : rZ I0 I) (hP0 : ∀ k q I', r = .inl (k, q) → rZ I0 I' → rBq 1601 k q I' → Q none (zr_S I' J)) (hP1 : ∀ f' s' st' dep' cs' I', f' < f → mach T n kd f' 2 s' st' dep' cs' = some r → rZ I0 I' → mS T n kd B D0 s' st' dep' cs' I' → tp60 st' → Q none (zr_S I' J)) : zb_W (d + 5) ax_m288 (186, [some (.inr (.inr (some 0))), none, none, none, none, none], [], zr_S I J) Q := by
  obtain ⟨hL, hQ, hw, hst, hD⟩ := hS
  have hn := hL.ok.n
  have h1 := hL.ok.1
  have hlen : (st ++ B).length = st.length + B.length := List.length_append
  have hv := vw_in T n kd s
  have hv32 : n32 (vw T n kd s) := ⟨by omega, by omega⟩
  refine zq_qPartTold_186 I J (e_ok hL.e (sr_qWordOf (kd := kd) hQ.2.2.2.2.2.2.1 hk2 hL ⟨by decide, by decide⟩ ⟨by decide, by decide⟩ (fun I1 y1 t1 e1 => ?_)))
  refine w_if (x := vw T n kd s) hv32 ⟨by decide, by decide⟩ (fun c => ?_) (fun c => ?_)
  · have ha : pAtom T n kd s = (match pNum T n s 9999 with | .inl e => .inl e | .inr (s', v) => .inr (s', [1000 + v])) := if_pos c
    refine zq_qPartTold_212 I1 J (vw T n kd s) (w_if hv32 ⟨by decide, by decide⟩ (fun _ => sr_number t1 ⟨by decide, by decide⟩ (fun k q e v I2 hr y2 b2 => ?_) (fun s' v e I2 hr y2 t2 _ => ?_)) (fun c' => absurd c c'))
    · rw [e] at ha
      rw [ha] at hm
      have hm' : some (Sum.inl (k, q)) = some r := hm
      refine sr_qCode (y2.Q (y1.Q hQ)) (by omega) (fun I3 h3 q3 => ?_)
      have b3 : rBad k q I3 := b2.to (h3 0 5 (by omega) (by omega)) (h3 0 6 (by omega) (by omega))
      have hl3 : I3 0 106 = ((cs ++ [1000 + v]).length : Int) := q3.1
      have hc1 : (cs ++ [1000 + v]).length = cs.length + 1 := by simp
      exact sr_qEndsPart_b b3 (hP0 k q I3 (Option.some.inj hm').symm (hZ.trans (y1.Z.trans (y2.Z.trans (fun i j a b e => h3 i j b (by omega))))) ⟨b3, by omega, by omega⟩)
    · rw [e] at ha
      rw [ha] at hm
      have hm' : mach T n kd f 1 s' st dep (cs ++ [1000 + v]) = some r := hm
      have ht := tyR_atom (T := T) (n := n) (kd := kd) s s' _ hL.ok ha
      exact pt_end hm' t2 (y2.Q (y1.Q hQ)) (by omega) hst hD (hZ.trans (y1.Z.trans y2.Z)) hP1
  · have ha : pAtom T n kd s = .inr (aWd T n s, [40 + vw T n kd s]) := if_neg c
    have hv2 := hv.2 c
    refine sr_qAsksWord t1 hv2.1 hv2.2 (fun I2 y2 t2 => zq_qPartTold_212 I2 J (vw T n kd s) (w_if hv32 ⟨by decide, by decide⟩ (fun c' => absurd c' c) (fun _ => ?_)))
    rw [ha] at hm
    have hm' : mach T n kd f 1 (aWd T n s) st dep (cs ++ [40 + vw T n kd s]) = some r := hm
    have := wd_w (T := T) (n := n) (s := s) (vOf_nn (by omega))
    exact pt_end hm' t2 (y2.Q (y1.Q hQ)) (by omega) hst hD (hZ.trans (y1.Z.trans y2.Z)) hP1
end ZPT
