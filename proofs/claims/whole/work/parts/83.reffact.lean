/-! THE REFERENCE: facts -/
section ZFA
variable {d : Nat} {I I0 J : zF} {T : Nat → Int} {n : Int} {kd : Nat} {B : List Int} {Q : Option ax_v → ax_S → Prop} {P : Int → zF → zF → Prop} {P0 : zF → zF → Prop}
theorem sr_qCode_b {c m k q : Int} (hb : rBq m k q I) (hm : m < 1700) (hP : ∀ I', rZ I I' → rBq (m + 1) k q I' → P0 I' J) : zr_v (d + 1) 277 [.inr (.inr (some 0)), .inl c] I J P0 := by
  obtain ⟨b, h0, h1⟩ := hb
  refine zr_inv (M := ax_m277) rfl (Nat.le_of_ble_eq_true rfl) (zq_qCode_0 I J c ?_)
  have e1 : (ax_u I 75 (ax_w (I 0 106)).toNat c) 0 106 = I 0 106 := zu_ne (by omega)
  rw [e1, zb_w (x := I 0 106) (by omega) (by omega)]
  refine ⟨by omega, zr_Qv.of (hP _ (fun i j q1 q2 q3 => by rw [zu_ne (by omega), zu_ne (by omega)]) ⟨b.to ?_ ?_, ?_, ?_⟩)⟩
  · rw [zu_ne (by omega), zu_ne (by omega)]
  · rw [zu_ne (by omega), zu_ne (by omega)]
  · rw [zu_eq]; omega
  · rw [zu_eq]; omega
theorem rBq.mono {m m2 k q : Int} (h : rBq m k q I) (hm : m ≤ m2) : rBq m2 k q I := ⟨h.1, h.2.1, by have := h.2.2; omega⟩
theorem fa_63 {dd : Nat} {s1 : zs} {dep base a1 : Int} {cs : List Int} (hk2 : kd ≤ 2) (hB : ∀ x, x ∈ B → 5 ≤ x) (hL : rTx T n s1 I) (e2 : I 0 2 = s1.1) (hQ : rQ cs B dep base (kd : Int) I) (hw : (cs.length : Int) + B.length ≤ s1.1) (hd : dep = 6 - (dd : Int)) (hd2 : -1600 ≤ dep) (ha : a1 = lc T n s1.1) (hc : lc T n s1.1 = 60 ∨ lc T n s1.1 = 62 ∨ lc T n s1.1 = 61) (hP0 : ∀ k q, pSum T n (pPart T n kd dd) (aS T n s1) = .inl (k, q) → ∀ I', rZ I I' → rBq 1602 k q I' → P0 I' J) (hP1 : ∀ s' out, pSum T n (pPart T n kd dd) (aS T n s1) = .inr (s', out) → ∀ I', rZ I I' → rTx T n s' I' → rQ (cs ++ out ++ [if lc T n s1.1 = 60 then 7 else if lc T n s1.1 = 62 then 8 else 9]) B dep base (kd : Int) I' → P0 I' J) : zb_W (d + 7) ax_m291 (63, [some (.inr (.inr (some 0))), some (.inl a1)], [], zr_S I J) (zr_Qv P0) := by
  have hlt : s1.1 < n := by rcases hc with q | q | q <;> exact (lc_lt q (by decide)).1
  have hn := hL.ok.n
  have h1 := hL.ok.1
  have hlt2 := aS_lt T n s1
  have z0 : rZ I (ax_u I 0 2 (I 0 2 + 1)) := ((rY.refl I).u (Or.inl rfl)).Z
  rw [← ha] at hc hP1
  refine zq_qFact_63 I J a1 (sr_qSums hk2 hB (hL.adv e2 hlt) hQ.at2 (by omega) hd hd2 (fun k q e I1 z1 b1 => ?_) (fun s' out e I1 z1 t1 q1 => ?_))
  · have fin : ∀ c, zr_v (d + 7) 277 [.inr (.inr (some 0)), .inl c] I1 J (fun I5 J6 => zr_Qv P0 none (zr_S I5 J6)) := fun c => sr_qCode_b b1 (by decide) (fun I2 z2 b2 => zr_Qv.of (hP0 k q e I2 (z0.trans (z1.trans z2)) b2))
    exact ⟨fun _ => fin 7, fun _ => ⟨fun _ => fin 8, fun _ => fin 9⟩⟩
  · have ht := tyR_sum (tyR_part (T := T) (n := n) (kd := kd) dd) (aS T n s1) s' out (hL.adv e2 hlt).ok e
    have h2 := t1.ok.1
    have hlc : (cs ++ out).length = cs.length + out.length := List.length_append
    have fin : ∀ c, c = (if a1 = 60 then 7 else if a1 = 62 then 8 else 9) → zr_v (d + 7) 277 [.inr (.inr (some 0)), .inl c] I1 J (fun I5 J6 => zr_Qv P0 none (zr_S I5 J6)) := fun c hc => sr_qCode q1 (by omega) (fun I2 z2 q2 => zr_Qv.of (hP1 s' out e I2 (z0.trans (z1.trans (fun i j a b e => z2 i j b (by omega)))) (t1.fr (fun i j a b e => z2 i j a (by omega))) (by rw [← hc]; exact q2)))
    exact w_if ⟨by omega, by omega⟩ ⟨by decide, by decide⟩ (fun c => fin 7 (by rw [if_pos c])) (fun c => w_if ⟨by omega, by omega⟩ ⟨by decide, by decide⟩ (fun c2 => fin 8 (by rw [if_neg c, if_pos c2])) (fun c2 => fin 9 (by rw [if_neg c, if_neg c2])))
theorem sr_qFact {dd : Nat} {s : zs} {dep base : Int} {cs : List Int} (hk2 : kd ≤ 2) (hB : ∀ x, x ∈ B → 5 ≤ x) (hL : rTx T n s I) (hQ : rQ cs B dep base (kd : Int) I) (hw : (cs.length : Int) + B.length ≤ s.1) (hd : dep = 6 - (dd : Int)) (hd2 : -1600 ≤ dep) (hP0 : ∀ k q, pAll T n kd dd s = .inl (k, q) → ∀ I', rZ I I' → rBq 1602 k q I' → P0 I' J) (hP1 : ∀ s' out, pAll T n kd dd s = .inr (s', out) → ∀ I', rZ I I' → rTx T n s' I' → rQ (cs ++ out) B dep base (kd : Int) I' → P0 I' J) : zr_v (d + 8) 291 [.inr (.inr (some 0))] I J P0 := by
  have hn := hL.ok.n
  have h1 := hL.ok.1
  refine zr_inv (M := ax_m291) rfl (Nat.le_of_ble_eq_true rfl) (zq_qFact_0 I J (sr_takes (w := 60) (ks := 22) (by decide) hL (fun c I1 y1 t1 => b1 ?_) (fun c I1 y1 t1 _ => b0 ?_)))
  · have c' : wd T n s = 22 := c
    have ha : pAll T n kd dd s = .inr (aWd T n s, [13]) := if_pos c'
    exact sr_qCode (y1.Q hQ) (by omega) (fun I2 h2 q2 => zr_Qv.of (hP1 _ _ ha I2 (y1.Z.trans (fun i j a b e => h2 i j b (by omega))) (t1.fr (fun i j a b e => h2 i j a (by omega))) q2))
  · have c' : ¬ wd T n s = 22 := c
    have ha : pAll T n kd dd s = pCmp T n kd dd s := if_neg c'
    rw [ha] at hP0 hP1
    unfold pCmp at hP0 hP1
    refine sr_qSums hk2 hB t1 (y1.Q hQ) hw hd hd2 (fun k q e I2 z2 b2 => e_no b2.1 (zr_Qv.of ?_)) (fun s1 c1 e I2 z2 t2 q2 => e_ok t2.e (sr_look t2 (fun I3 y3 t3 e3 => ?_)))
    · rw [e] at hP0
      exact hP0 k q rfl I2 (y1.Z.trans z2) (b2.mono (by decide))
    · rw [e] at hP0 hP1
      have hP0' : ∀ k q, (if lc T n s1.1 = 60 ∨ lc T n s1.1 = 62 ∨ lc T n s1.1 = 61 then pPut (pAdd (pSum T n (pPart T n kd dd) (aS T n s1)) c1) [if lc T n s1.1 = 60 then 7 else if lc T n s1.1 = 62 then 8 else 9] else .inl (1, s1.1)) = .inl (k, q) → ∀ I', rZ I I' → rBq 1602 k q I' → P0 I' J := hP0
      have hP1' : ∀ s' out, (if lc T n s1.1 = 60 ∨ lc T n s1.1 = 62 ∨ lc T n s1.1 = 61 then pPut (pAdd (pSum T n (pPart T n kd dd) (aS T n s1)) c1) [if lc T n s1.1 = 60 then 7 else if lc T n s1.1 = 62 then 8 else 9] else .inl (1, s1.1)) = .inr (s', out) → ∀ I', rZ I I' → rTx T n s' I' → rQ (cs ++ out) B dep base (kd : Int) I' → P0 I' J := hP1
      have ht := tyR_sum (tyR_part (T := T) (n := n) (kd := kd) dd) s s1 c1 hL.ok e
      have h2 := t3.ok.1
      have hlc := lc_in t3.ok h2.1
      have hl1 : (cs ++ c1).length = cs.length + c1.length := List.length_append
      have z3 : rZ I I3 := y1.Z.trans (z2.trans y3.Z)
      have n3 : n32 (lc T n s1.1) := ⟨by omega, by omega⟩
      have go : (lc T n s1.1 = 60 ∨ lc T n s1.1 = 62 ∨ lc T n s1.1 = 61) → zb_W (d + 7) ax_m291 (63, [some (.inr (.inr (some 0))), some (.inl (lc T n s1.1))], [], zr_S I3 J) (zr_Qv P0) := by
        intro hc
        rw [if_pos hc] at hP0' hP1'
        refine fa_63 hk2 hB t3 e3 (y3.Q q2) (by omega) hd hd2 rfl hc (fun k q e I4 z4 b4 => ?_) (fun s' out e I4 z4 t4 q4 => ?_)
        · rw [e] at hP0'
          exact hP0' k q rfl I4 (z3.trans z4) b4
        · rw [e] at hP1'
          refine hP1' s' _ rfl I4 (z3.trans z4) t4 ?_
          rw [List.append_assoc, List.append_assoc] at q4
          rw [List.append_assoc]
          exact q4
      refine w_if n3 ⟨by decide, by decide⟩ (fun c => go (Or.inl c)) (fun c60 => w_if n3 ⟨by decide, by decide⟩ (fun c => go (Or.inr (Or.inl c))) (fun c62 => w_if n3 ⟨by decide, by decide⟩ (fun c => go (Or.inr (Or.inr c))) (fun c61 => sr_fail t3.e ⟨by decide, by decide⟩ (fun I4 y4 _ b4 => zr_Qv.of ?_))))
      rw [if_neg (by omega)] at hP0'
      rw [e3] at b4
      have l4 : I4 0 106 = ((cs ++ c1).length : Int) := (y4.Q (y3.Q q2)).1
      exact hP0' 1 s1.1 rfl I4 (z3.trans y4.Z) ⟨b4, by omega, by omega⟩
end ZFA
