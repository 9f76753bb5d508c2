/-! THE CLASS: products, sums, both, tests (printed by wip/gen/gen87.py) -/
section ZCL
variable {T : Nat → Int} {n : Int} {hf pf : Nat} {J : zF} {k : Nat} {P : Int → zF → zF → Prop}
theorem cR_product_l {pp : zs → zR} {o : Int} {h hh e : Nat} (hpf : isP pf) (hp : cRd T n hf pf J k 20 h o pp) (ht : tyR T n k false hh pp) (he : h ≤ e) (h6 : 6 ≤ e) {I0 : zF} (hk0 : I0 7 2 = (k : Int)) {cs0 : List Int} : ∀ (m : Nat) (i : Int) (s : zs) (cs : List Int) (I : zF), i + m = 1600 → 0 ≤ i → cTx T n s I → cP I pf (cs0 ++ cs) → cX pf I0 I → ((cs0 ++ cs).length : Int) ≤ s.1 → (∀ a q, pL pp (oM T n) m s cs = .inl (a, q) → ∀ I', cX pf I0 I' → cBad a q I' → P 0 I' J) → (∀ s' out, pL pp (oM T n) m s cs = .inr (s', out) → ∀ I', cX pf I0 I' → cTx T n s' I' → cP I' pf (cs0 ++ out) → P 1 I' J) → zb_W e ax_m19 (12, [some (.inr (.inr (some 7))), some (.inl o), some (.inl i), none], [], zc_S hf pf I J) (zc_Qi hf pf P) := by
  obtain ⟨d, rfl⟩ : ∃ d, e = d + 6 := ⟨e - 6, by omega⟩
  have hne := hpf.ne
  intro m
  induction m with
  | zero =>
    intro i s cs I hi hi0 hX hc hF hw hP0 hP1
    have i1 : i = 1600 := by omega
    refine zk_FormulaReader_product_12 hf pf I J o i ⟨fun q => absurd q ?_, fun _ => zc_Qi.of (hP1 s cs rfl I hF hX hc)⟩
    rw [i1]
    exact Int.lt_irrefl _
  | succ m ih =>
    intro i s cs I hi hi0 hX hc hF hw hP0 hP1
    have hn := hX.ok.n
    have h1 := hX.ok.1
    have step : ∀ (sg st c : Int), ((0 ≤ sg ∧ sg ≤ 255) ∧ ¬ fL sg = true ∧ ¬ fN sg = true) → lc T n s.1 = sg → oM T n s = some (aS T n s, c) → ax_or (ax_shl 0 4) st = cm c → zc_v (d + 6) 91 [.inr (.inr (some 3))] hf pf I J (fun I6 J7 => zc_i (d + 6) 20 [.inr (.inr (some 7)), .inl o] hf pf I6 J7 (fun r12 I9 J10 => (ax_w r12 = ax_w 0 → zc_Qi hf pf P (some (.inl 0)) (zc_S hf pf I9 J10)) ∧ (¬ ax_w r12 = ax_w 0 → zc_v (d + 6) 50 [.inr (.inr (some pf)), .inl st, .inl 0] hf pf I9 J10 (fun I14 J15 => zb_W (d + 6) ax_m19 (12, [some (.inr (.inr (some 7))), some (.inl o), some (.inl (i + 1)), none], [], zc_S hf pf I14 J15) (zc_Qi hf pf P))))) := by
      intro sg st c hsg hlc hop hcm
      have hlt := (aS_lt T n s)
      have hsn : s.1 < n := (lc_lt hlc (by omega)).1
      refine sc_adv_S hX hsg hlc (fun I1 y1 X1 _ _ => hp (d + 6) (aS T n s) (cs0 ++ cs) I1 _ he X1 (y1.P hpf hc) ((hF.trans y1.X).k hpf hk0) (by omega) (fun a q e I2 x2 b2 => b0 (zc_Qi.of (hP0 a q ?_ I2 (hF.trans (y1.X.trans x2)) b2))) (fun s2 out e I2 x2 X2 c2 => b1 ?_))
      · show (match oM T n s with | none => _ | some (s1, c) => _) = _
        rw [hop]
        show (match pp (aS T n s) with | .inl e => _ | .inr (s2, cs2) => _) = _
        rw [e]
      · have eq : pL pp (oM T n) (m + 1) s cs = pL pp (oM T n) m s2 (cs ++ out ++ [c]) := by
          show (match oM T n s with | none => _ | some (s1, c) => _) = _
          rw [hop]
          show (match pp (aS T n s) with | .inl e => _ | .inr (s2, cs2) => _) = _
          rw [e]
        rw [eq] at hP0 hP1
        obtain ⟨_, t2, _, t4⟩ := ht (aS T n s) s2 out X1.ok e
        have h2 := X2.ok.1
        have hl : (cs0 ++ cs ++ out).length = (cs0 ++ cs).length + out.length := List.length_append
        refine sc_addP hpf c2 (by omega) hcm (fun I3 f3 c3 => ih (i + 1) s2 (cs ++ out ++ [c]) I3 (by omega) (by omega) (X2.fr (fun i j hij => f3 i j (by omega) (by omega))) ?_ (hF.trans (y1.X.trans (x2.trans (fun i j _ b c => f3 i j b c)))) ?_ hP0 hP1)
        · rw [show cs0 ++ (cs ++ out ++ [c]) = cs0 ++ cs ++ out ++ [c] by simp only [List.append_assoc]]
          exact c3
        · rw [show cs0 ++ (cs ++ out ++ [c]) = cs0 ++ cs ++ out ++ [c] by simp only [List.append_assoc], List.length_append]
          simp only [List.length_cons, List.length_nil]
          omega
    have hcS1 : (0 ≤ (42 : Int) ∧ (42 : Int) ≤ 255) ∧ ¬ fL 42 = true ∧ ¬ fN 42 = true := ⟨⟨by decide, by decide⟩, by decide, by decide⟩
    have hcS2 : (0 ≤ (47 : Int) ∧ (47 : Int) ≤ 255) ∧ ¬ fL 47 = true ∧ ¬ fN 47 = true := ⟨⟨by decide, by decide⟩, by decide, by decide⟩
    have go : (lc T n s.1 = 42 ∨ lc T n s.1 = 47) → zb_W (d + 6) ax_m19 (43, [some (.inr (.inr (some 7))), some (.inl o), some (.inl i), none], [], zc_S hf pf I J) (zc_Qi hf pf P) := by
      intro hc12
      refine zk_FormulaReader_product_43 hf pf I J o i hpf (sc_isSign hX hcS1 (bc (fun c => step 42 7 3 hcS1 c (by unfold oM; rw [if_pos c]) (by decide +kernel)) (fun c => step 47 8 4 hcS2 (by omega) (by unfold oM; rw [if_neg c, if_pos (by omega)]) (by decide +kernel))))
    refine zk_FormulaReader_product_12 hf pf I J o i ⟨fun _ => sc_isSign hX hcS1 (bc (fun c => go (Or.inl c)) (fun c => sc_isSign hX hcS2 (bc (fun c2 => go (Or.inr c2)) (fun c2 => zc_Qi.of (hP1 s cs ?_ I hF hX hc))))), fun q => absurd ?_ q⟩
    · show (match oM T n s with | none => _ | some (s1, c) => _) = _
      rw [show oM T n s = none by unfold oM; rw [if_neg c, if_neg c2]]
    · rw [zb_w (x := i) (by omega) (by omega), zb_w (x := 1600) (by decide) (by decide)]
      omega
theorem cR_product {pp : zs → zR} {o : Int} {h hh : Nat} (hpf : isP pf) (hp : cRd T n hf pf J k 20 h o pp) (ht : tyR T n k false hh pp) (h6 : 6 ≤ h) : cRd T n hf pf J k 19 (h + 1) o (pC pp (oM T n)) := by
  intro e s cs I P he hX hc hk hw hP0 hP1
  obtain ⟨d, rfl⟩ : ∃ d, e = d + 1 := ⟨e - 1, by omega⟩
  have h1 := hX.ok.1
  refine zc_ini (M := ax_m19) rfl (Nat.le_of_ble_eq_true rfl) (zk_FormulaReader_product_0 hf pf I J o (hp d s cs I _ (by omega) hX hc hk hw (fun a q e I1 x1 b1 => b0 (zc_Qi.of (hP0 a q ?_ I1 x1 b1))) (fun s1 out e I1 x1 X1 c1 => b1 ?_)))
  · show (match pp s with | .inl e => _ | .inr (s1, cs) => _) = _
    rw [e]
  · have eq : pC pp (oM T n) s = pL pp (oM T n) 1600 s1 out := by
      show (match pp s with | .inl e => _ | .inr (s1, cs) => _) = _
      rw [e]
    rw [eq] at hP0 hP1
    obtain ⟨_, t2, _, t4⟩ := ht s s1 out hX.ok e
    have hl : (cs ++ out).length = cs.length + out.length := List.length_append
    exact cR_product_l hpf hp ht (by omega) (by omega) hk 1600 0 s1 out I1 (by decide) (by decide) X1 c1 x1 (by omega) hP0 hP1
theorem cR_sum_l {pp : zs → zR} {o : Int} {h hh e : Nat} (hpf : isP pf) (hp : cRd T n hf pf J k 19 h o pp) (ht : tyR T n k false hh pp) (he : h ≤ e) (h6 : 6 ≤ e) {I0 : zF} (hk0 : I0 7 2 = (k : Int)) {cs0 : List Int} : ∀ (m : Nat) (i : Int) (s : zs) (cs : List Int) (I : zF), i + m = 1600 → 0 ≤ i → cTx T n s I → cP I pf (cs0 ++ cs) → cX pf I0 I → ((cs0 ++ cs).length : Int) ≤ s.1 → (∀ a q, pL pp (oA T n) m s cs = .inl (a, q) → ∀ I', cX pf I0 I' → cBad a q I' → P 0 I' J) → (∀ s' out, pL pp (oA T n) m s cs = .inr (s', out) → ∀ I', cX pf I0 I' → cTx T n s' I' → cP I' pf (cs0 ++ out) → P 1 I' J) → zb_W e ax_m18 (12, [some (.inr (.inr (some 7))), some (.inl o), some (.inl i), none], [], zc_S hf pf I J) (zc_Qi hf pf P) := by
  obtain ⟨d, rfl⟩ : ∃ d, e = d + 6 := ⟨e - 6, by omega⟩
  have hne := hpf.ne
  intro m
  induction m with
  | zero =>
    intro i s cs I hi hi0 hX hc hF hw hP0 hP1
    have i1 : i = 1600 := by omega
    refine zk_FormulaReader_sum_12 hf pf I J o i ⟨fun q => absurd q ?_, fun _ => zc_Qi.of (hP1 s cs rfl I hF hX hc)⟩
    rw [i1]
    exact Int.lt_irrefl _
  | succ m ih =>
    intro i s cs I hi hi0 hX hc hF hw hP0 hP1
    have hn := hX.ok.n
    have h1 := hX.ok.1
    have step : ∀ (sg st c : Int), ((0 ≤ sg ∧ sg ≤ 255) ∧ ¬ fL sg = true ∧ ¬ fN sg = true) → lc T n s.1 = sg → oA T n s = some (aS T n s, c) → ax_or (ax_shl 0 4) st = cm c → zc_v (d + 6) 91 [.inr (.inr (some 3))] hf pf I J (fun I6 J7 => zc_i (d + 6) 19 [.inr (.inr (some 7)), .inl o] hf pf I6 J7 (fun r12 I9 J10 => (ax_w r12 = ax_w 0 → zc_Qi hf pf P (some (.inl 0)) (zc_S hf pf I9 J10)) ∧ (¬ ax_w r12 = ax_w 0 → zc_v (d + 6) 50 [.inr (.inr (some pf)), .inl st, .inl 0] hf pf I9 J10 (fun I14 J15 => zb_W (d + 6) ax_m18 (12, [some (.inr (.inr (some 7))), some (.inl o), some (.inl (i + 1)), none], [], zc_S hf pf I14 J15) (zc_Qi hf pf P))))) := by
      intro sg st c hsg hlc hop hcm
      have hlt := (aS_lt T n s)
      have hsn : s.1 < n := (lc_lt hlc (by omega)).1
      refine sc_adv_S hX hsg hlc (fun I1 y1 X1 _ _ => hp (d + 6) (aS T n s) (cs0 ++ cs) I1 _ he X1 (y1.P hpf hc) ((hF.trans y1.X).k hpf hk0) (by omega) (fun a q e I2 x2 b2 => b0 (zc_Qi.of (hP0 a q ?_ I2 (hF.trans (y1.X.trans x2)) b2))) (fun s2 out e I2 x2 X2 c2 => b1 ?_))
      · show (match oA T n s with | none => _ | some (s1, c) => _) = _
        rw [hop]
        show (match pp (aS T n s) with | .inl e => _ | .inr (s2, cs2) => _) = _
        rw [e]
      · have eq : pL pp (oA T n) (m + 1) s cs = pL pp (oA T n) m s2 (cs ++ out ++ [c]) := by
          show (match oA T n s with | none => _ | some (s1, c) => _) = _
          rw [hop]
          show (match pp (aS T n s) with | .inl e => _ | .inr (s2, cs2) => _) = _
          rw [e]
        rw [eq] at hP0 hP1
        obtain ⟨_, t2, _, t4⟩ := ht (aS T n s) s2 out X1.ok e
        have h2 := X2.ok.1
        have hl : (cs0 ++ cs ++ out).length = (cs0 ++ cs).length + out.length := List.length_append
        refine sc_addP hpf c2 (by omega) hcm (fun I3 f3 c3 => ih (i + 1) s2 (cs ++ out ++ [c]) I3 (by omega) (by omega) (X2.fr (fun i j hij => f3 i j (by omega) (by omega))) ?_ (hF.trans (y1.X.trans (x2.trans (fun i j _ b c => f3 i j b c)))) ?_ hP0 hP1)
        · rw [show cs0 ++ (cs ++ out ++ [c]) = cs0 ++ cs ++ out ++ [c] by simp only [List.append_assoc]]
          exact c3
        · rw [show cs0 ++ (cs ++ out ++ [c]) = cs0 ++ cs ++ out ++ [c] by simp only [List.append_assoc], List.length_append]
          simp only [List.length_cons, List.length_nil]
          omega
    have hcS1 : (0 ≤ (43 : Int) ∧ (43 : Int) ≤ 255) ∧ ¬ fL 43 = true ∧ ¬ fN 43 = true := ⟨⟨by decide, by decide⟩, by decide, by decide⟩
    have hcS2 : (0 ≤ (45 : Int) ∧ (45 : Int) ≤ 255) ∧ ¬ fL 45 = true ∧ ¬ fN 45 = true := ⟨⟨by decide, by decide⟩, by decide, by decide⟩
    have go : (lc T n s.1 = 43 ∨ lc T n s.1 = 45) → zb_W (d + 6) ax_m18 (43, [some (.inr (.inr (some 7))), some (.inl o), some (.inl i), none], [], zc_S hf pf I J) (zc_Qi hf pf P) := by
      intro hc12
      refine zk_FormulaReader_sum_43 hf pf I J o i hpf (sc_isSign hX hcS1 (bc (fun c => step 43 5 1 hcS1 c (by unfold oA; rw [if_pos c]) (by decide +kernel)) (fun c => step 45 6 2 hcS2 (by omega) (by unfold oA; rw [if_neg c, if_pos (by omega)]) (by decide +kernel))))
    refine zk_FormulaReader_sum_12 hf pf I J o i ⟨fun _ => sc_isSign hX hcS1 (bc (fun c => go (Or.inl c)) (fun c => sc_isSign hX hcS2 (bc (fun c2 => go (Or.inr c2)) (fun c2 => zc_Qi.of (hP1 s cs ?_ I hF hX hc))))), fun q => absurd ?_ q⟩
    · show (match oA T n s with | none => _ | some (s1, c) => _) = _
      rw [show oA T n s = none by unfold oA; rw [if_neg c, if_neg c2]]
    · rw [zb_w (x := i) (by omega) (by omega), zb_w (x := 1600) (by decide) (by decide)]
      omega
theorem cR_sum {pp : zs → zR} {o : Int} {h hh : Nat} (hpf : isP pf) (hp : cRd T n hf pf J k 19 h o pp) (ht : tyR T n k false hh pp) (h6 : 6 ≤ h) : cRd T n hf pf J k 18 (h + 1) o (pC pp (oA T n)) := by
  intro e s cs I P he hX hc hk hw hP0 hP1
  obtain ⟨d, rfl⟩ : ∃ d, e = d + 1 := ⟨e - 1, by omega⟩
  have h1 := hX.ok.1
  refine zc_ini (M := ax_m18) rfl (Nat.le_of_ble_eq_true rfl) (zk_FormulaReader_sum_0 hf pf I J o (hp d s cs I _ (by omega) hX hc hk hw (fun a q e I1 x1 b1 => b0 (zc_Qi.of (hP0 a q ?_ I1 x1 b1))) (fun s1 out e I1 x1 X1 c1 => b1 ?_)))
  · show (match pp s with | .inl e => _ | .inr (s1, cs) => _) = _
    rw [e]
  · have eq : pC pp (oA T n) s = pL pp (oA T n) 1600 s1 out := by
      show (match pp s with | .inl e => _ | .inr (s1, cs) => _) = _
      rw [e]
    rw [eq] at hP0 hP1
    obtain ⟨_, t2, _, t4⟩ := ht s s1 out hX.ok e
    have hl : (cs ++ out).length = cs.length + out.length := List.length_append
    exact cR_sum_l hpf hp ht (by omega) (by omega) hk 1600 0 s1 out I1 (by decide) (by decide) X1 c1 x1 (by omega) hP0 hP1
theorem cR_both_l {pp : zs → zR} {o : Int} {h hh e : Nat} (hpf : isP pf) (hp : cRd T n hf pf J k 17 h o pp) (ht : tyR T n k true hh pp) (he : h ≤ e) (h6 : 6 ≤ e) {I0 : zF} (hk0 : I0 7 2 = (k : Int)) {cs0 : List Int} : ∀ (m : Nat) (i : Int) (s : zs) (cs : List Int) (I : zF), i + m = 1600 → 0 ≤ i → cTx T n s I → cP I pf (cs0 ++ cs) → cX pf I0 I → ((cs0 ++ cs).length : Int) ≤ s.1 → (∀ a q, pL pp (oMt T n) m s cs = .inl (a, q) → ∀ I', cX pf I0 I' → cBad a q I' → P 0 I' J) → (∀ s' out, pL pp (oMt T n) m s cs = .inr (s', out) → ∀ I', cX pf I0 I' → cTx T n s' I' → cP I' pf (cs0 ++ out) → P 1 I' J) → zb_W e ax_m16 (12, [some (.inr (.inr (some 7))), some (.inl o), some (.inl i)], [], zc_S hf pf I J) (zc_Qi hf pf P) := by
  obtain ⟨d, rfl⟩ : ∃ d, e = d + 6 := ⟨e - 6, by omega⟩
  have hne := hpf.ne
  intro m
  induction m with
  | zero =>
    intro i s cs I hi hi0 hX hc hF hw hP0 hP1
    have i1 : i = 1600 := by omega
    refine zk_FormulaReader_both_12 hf pf I J o i hpf ⟨fun q => absurd q ?_, fun _ => zc_Qi.of (hP1 s cs rfl I hF hX hc)⟩
    rw [i1]
    exact Int.lt_irrefl _
  | succ m ih =>
    intro i s cs I hi hi0 hX hc hF hw hP0 hP1
    have hn := hX.ok.n
    have h1 := hX.ok.1
    refine zk_FormulaReader_both_12 hf pf I J o i hpf ⟨fun _ => sc_is hX (ks := 24) (by decide) (by decide) (bc (fun c => ?_) (fun c => zc_Qi.of (hP1 s cs ?_ I hF hX hc))), fun q => absurd ?_ q⟩
    · have c' : wd T n s = 24 := c
      have hop : oMt T n s = some (aWd T n s, 10) := by unfold oMt; rw [if_pos c']
      have hwp := wd_pos (T := T) (n := n) (s := s) (by omega)
      have hlt := wd_w (T := T) (n := n) (s := s) (by omega)
      refine sc_adv_W hX hwp.1 (fun I1 y1 X1 _ _ => hp (d + 6) (aWd T n s) (cs0 ++ cs) I1 _ he X1 (y1.P hpf hc) ((hF.trans y1.X).k hpf hk0) (by omega) (fun a q e I2 x2 b2 => b0 (zc_Qi.of (hP0 a q ?_ I2 (hF.trans (y1.X.trans x2)) b2))) (fun s2 out e I2 x2 X2 c2 => b1 ?_))
      · show (match oMt T n s with | none => _ | some (s1, c) => _) = _
        rw [hop]
        show (match pp (aWd T n s) with | .inl e => _ | .inr (s2, cs2) => _) = _
        rw [e]
      · have eq : pL pp (oMt T n) (m + 1) s cs = pL pp (oMt T n) m s2 (cs ++ out ++ [10]) := by
          show (match oMt T n s with | none => _ | some (s1, c) => _) = _
          rw [hop]
          show (match pp (aWd T n s) with | .inl e => _ | .inr (s2, cs2) => _) = _
          rw [e]
        rw [eq] at hP0 hP1
        obtain ⟨_, t2, _, t4⟩ := ht (aWd T n s) s2 out X1.ok e
        have h2 := X2.ok.1
        have hl : (cs0 ++ cs ++ out).length = (cs0 ++ cs).length + out.length := List.length_append
        refine sc_addP hpf c2 (by omega) (show ax_or (ax_shl 0 4) 12 = cm 10 by decide +kernel) (fun I3 f3 c3 => ih (i + 1) s2 (cs ++ out ++ [10]) I3 (by omega) (by omega) (X2.fr (fun i j hij => f3 i j (by omega) (by omega))) ?_ (hF.trans (y1.X.trans (x2.trans (fun i j _ b c => f3 i j b c)))) ?_ hP0 hP1)
        · rw [show cs0 ++ (cs ++ out ++ [10]) = cs0 ++ cs ++ out ++ [10] by simp only [List.append_assoc]]
          exact c3
        · rw [show cs0 ++ (cs ++ out ++ [10]) = cs0 ++ cs ++ out ++ [10] by simp only [List.append_assoc], List.length_append]
          simp only [List.length_cons, List.length_nil]
          omega
    · have c' : ¬ wd T n s = 24 := c
      show (match oMt T n s with | none => _ | some (s1, c) => _) = _
      rw [show oMt T n s = none by unfold oMt; rw [if_neg c']]
    · rw [zb_w (x := i) (by omega) (by omega), zb_w (x := 1600) (by decide) (by decide)]
      omega
theorem cR_both {pp : zs → zR} {o : Int} {h hh : Nat} (hpf : isP pf) (hp : cRd T n hf pf J k 17 h o pp) (ht : tyR T n k true hh pp) (h6 : 6 ≤ h) : cRd T n hf pf J k 16 (h + 1) o (pC pp (oMt T n)) := by
  intro e s cs I P he hX hc hk hw hP0 hP1
  obtain ⟨d, rfl⟩ : ∃ d, e = d + 1 := ⟨e - 1, by omega⟩
  have h1 := hX.ok.1
  refine zc_ini (M := ax_m16) rfl (Nat.le_of_ble_eq_true rfl) (zk_FormulaReader_both_0 hf pf I J o (hp d s cs I _ (by omega) hX hc hk hw (fun a q e I1 x1 b1 => b0 (zc_Qi.of (hP0 a q ?_ I1 x1 b1))) (fun s1 out e I1 x1 X1 c1 => b1 ?_)))
  · show (match pp s with | .inl e => _ | .inr (s1, cs) => _) = _
    rw [e]
  · have eq : pC pp (oMt T n) s = pL pp (oMt T n) 1600 s1 out := by
      show (match pp s with | .inl e => _ | .inr (s1, cs) => _) = _
      rw [e]
    rw [eq] at hP0 hP1
    obtain ⟨_, t2, _, t4⟩ := ht s s1 out hX.ok e
    have hl : (cs ++ out).length = cs.length + out.length := List.length_append
    exact cR_both_l hpf hp ht (by omega) (by omega) hk 1600 0 s1 out I1 (by decide) (by decide) X1 c1 x1 (by omega) hP0 hP1
theorem cR_test_l {pp : zs → zR} {o : Int} {h hh e : Nat} (hpf : isP pf) (hp : cRd T n hf pf J k 16 h o pp) (ht : tyR T n k true hh pp) (he : h ≤ e) (h6 : 6 ≤ e) {I0 : zF} (hk0 : I0 7 2 = (k : Int)) {cs0 : List Int} : ∀ (m : Nat) (i : Int) (s : zs) (cs : List Int) (I : zF), i + m = 1600 → 0 ≤ i → cTx T n s I → cP I pf (cs0 ++ cs) → cX pf I0 I → ((cs0 ++ cs).length : Int) ≤ s.1 → (∀ a q, pL pp (oAt T n) m s cs = .inl (a, q) → ∀ I', cX pf I0 I' → cBad a q I' → P 0 I' J) → (∀ s' out, pL pp (oAt T n) m s cs = .inr (s', out) → ∀ I', cX pf I0 I' → cTx T n s' I' → cP I' pf (cs0 ++ out) → P 1 I' J) → zb_W e ax_m15 (12, [some (.inr (.inr (some 7))), some (.inl o), some (.inl i)], [], zc_S hf pf I J) (zc_Qi hf pf P) := by
  obtain ⟨d, rfl⟩ : ∃ d, e = d + 6 := ⟨e - 6, by omega⟩
  have hne := hpf.ne
  intro m
  induction m with
  | zero =>
    intro i s cs I hi hi0 hX hc hF hw hP0 hP1
    have i1 : i = 1600 := by omega
    refine zk_FormulaReader_test_12 hf pf I J o i hpf ⟨fun q => absurd q ?_, fun _ => zc_Qi.of (hP1 s cs rfl I hF hX hc)⟩
    rw [i1]
    exact Int.lt_irrefl _
  | succ m ih =>
    intro i s cs I hi hi0 hX hc hF hw hP0 hP1
    have hn := hX.ok.n
    have h1 := hX.ok.1
    refine zk_FormulaReader_test_12 hf pf I J o i hpf ⟨fun _ => sc_is hX (ks := 25) (by decide) (by decide) (bc (fun c => ?_) (fun c => zc_Qi.of (hP1 s cs ?_ I hF hX hc))), fun q => absurd ?_ q⟩
    · have c' : wd T n s = 25 := c
      have hop : oAt T n s = some (aWd T n s, 11) := by unfold oAt; rw [if_pos c']
      have hwp := wd_pos (T := T) (n := n) (s := s) (by omega)
      have hlt := wd_w (T := T) (n := n) (s := s) (by omega)
      refine sc_adv_W hX hwp.1 (fun I1 y1 X1 _ _ => hp (d + 6) (aWd T n s) (cs0 ++ cs) I1 _ he X1 (y1.P hpf hc) ((hF.trans y1.X).k hpf hk0) (by omega) (fun a q e I2 x2 b2 => b0 (zc_Qi.of (hP0 a q ?_ I2 (hF.trans (y1.X.trans x2)) b2))) (fun s2 out e I2 x2 X2 c2 => b1 ?_))
      · show (match oAt T n s with | none => _ | some (s1, c) => _) = _
        rw [hop]
        show (match pp (aWd T n s) with | .inl e => _ | .inr (s2, cs2) => _) = _
        rw [e]
      · have eq : pL pp (oAt T n) (m + 1) s cs = pL pp (oAt T n) m s2 (cs ++ out ++ [11]) := by
          show (match oAt T n s with | none => _ | some (s1, c) => _) = _
          rw [hop]
          show (match pp (aWd T n s) with | .inl e => _ | .inr (s2, cs2) => _) = _
          rw [e]
        rw [eq] at hP0 hP1
        obtain ⟨_, t2, _, t4⟩ := ht (aWd T n s) s2 out X1.ok e
        have h2 := X2.ok.1
        have hl : (cs0 ++ cs ++ out).length = (cs0 ++ cs).length + out.length := List.length_append
        refine sc_addP hpf c2 (by omega) (show ax_or (ax_shl 0 4) 13 = cm 11 by decide +kernel) (fun I3 f3 c3 => ih (i + 1) s2 (cs ++ out ++ [11]) I3 (by omega) (by omega) (X2.fr (fun i j hij => f3 i j (by omega) (by omega))) ?_ (hF.trans (y1.X.trans (x2.trans (fun i j _ b c => f3 i j b c)))) ?_ hP0 hP1)
        · rw [show cs0 ++ (cs ++ out ++ [11]) = cs0 ++ cs ++ out ++ [11] by simp only [List.append_assoc]]
          exact c3
        · rw [show cs0 ++ (cs ++ out ++ [11]) = cs0 ++ cs ++ out ++ [11] by simp only [List.append_assoc], List.length_append]
          simp only [List.length_cons, List.length_nil]
          omega
    · have c' : ¬ wd T n s = 25 := c
      show (match oAt T n s with | none => _ | some (s1, c) => _) = _
      rw [show oAt T n s = none by unfold oAt; rw [if_neg c']]
    · rw [zb_w (x := i) (by omega) (by omega), zb_w (x := 1600) (by decide) (by decide)]
      omega
theorem cR_test {pp : zs → zR} {o : Int} {h hh : Nat} (hpf : isP pf) (hp : cRd T n hf pf J k 16 h o pp) (ht : tyR T n k true hh pp) (h6 : 6 ≤ h) : cRd T n hf pf J k 15 (h + 1) o (pC pp (oAt T n)) := by
  intro e s cs I P he hX hc hk hw hP0 hP1
  obtain ⟨d, rfl⟩ : ∃ d, e = d + 1 := ⟨e - 1, by omega⟩
  have h1 := hX.ok.1
  refine zc_ini (M := ax_m15) rfl (Nat.le_of_ble_eq_true rfl) (zk_FormulaReader_test_0 hf pf I J o (hp d s cs I _ (by omega) hX hc hk hw (fun a q e I1 x1 b1 => b0 (zc_Qi.of (hP0 a q ?_ I1 x1 b1))) (fun s1 out e I1 x1 X1 c1 => b1 ?_)))
  · show (match pp s with | .inl e => _ | .inr (s1, cs) => _) = _
    rw [e]
  · have eq : pC pp (oAt T n) s = pL pp (oAt T n) 1600 s1 out := by
      show (match pp s with | .inl e => _ | .inr (s1, cs) => _) = _
      rw [e]
    rw [eq] at hP0 hP1
    obtain ⟨_, t2, _, t4⟩ := ht s s1 out hX.ok e
    have hl : (cs ++ out).length = cs.length + out.length := List.length_append
    exact cR_test_l hpf hp ht (by omega) (by omega) hk 1600 0 s1 out I1 (by decide) (by decide) X1 c1 x1 (by omega) hP0 hP1
end ZCL
