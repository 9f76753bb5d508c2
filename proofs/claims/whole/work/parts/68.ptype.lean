/-! FORMULAS, pure: their types and lengths -/
theorem tr_app (kd : Nat) : ∀ (a b : List Int) (ts : List Bool), pf_tr kd (a ++ b) ts = (pf_tr kd a ts).bind (pf_tr kd b) := by
  intro a
  induction a with
  | nil => intro b ts; rfl
  | cons c a ih =>
    intro b ts
    show (match pf_t1 kd c ts with | some ts' => if ts'.length ≤ 40 then pf_tr kd (a ++ b) ts' else none | none => none) = (match pf_t1 kd c ts with | some ts' => if ts'.length ≤ 40 then pf_tr kd a ts' else none | none => none).bind (pf_tr kd b)
    cases pf_t1 kd c ts with
    | none => rfl
    | some ts' =>
      by_cases h : ts'.length ≤ 40
      · simp only [if_pos h]; exact ih b ts'
      · simp only [if_neg h]; rfl
/-- on top of any stack with h free it leaves one b -/
def ty (kd : Nat) (b : Bool) (h : Nat) (cs : List Int) : Prop := ∀ ts : List Bool, ts.length + h ≤ 40 → pf_tr kd cs ts = some (b :: ts)
theorem ty_mono {kd : Nat} {b : Bool} {h h2 : Nat} {cs : List Int} (hh : h ≤ h2) (t : ty kd b h cs) : ty kd b h2 cs := fun ts l => t ts (by omega)
theorem ty_1 {kd : Nat} {b : Bool} {c : Int} (hc : ∀ ts, pf_t1 kd c ts = some (b :: ts)) : ty kd b 1 [c] := fun ts l => by
  show (match pf_t1 kd c ts with | some ts' => if ts'.length ≤ 40 then pf_tr kd [] ts' else none | none => none) = _
  rw [hc ts]
  show (if (b :: ts).length ≤ 40 then pf_tr kd [] (b :: ts) else none) = _
  rw [if_pos (by rw [List.length_cons]; omega)]
  rfl
theorem ty_u {kd : Nat} {b b2 : Bool} {c : Int} {h : Nat} {cs : List Int} (h1 : 1 ≤ h) (hc : ∀ ts, pf_t1 kd c (b :: ts) = some (b2 :: ts)) (t : ty kd b h cs) : ty kd b2 h (cs ++ [c]) := fun ts l => by
  rw [tr_app, t ts l]
  show (match pf_t1 kd c (b :: ts) with | some ts' => if ts'.length ≤ 40 then pf_tr kd [] ts' else none | none => none) = _
  rw [hc ts]
  show (if (b2 :: ts).length ≤ 40 then pf_tr kd [] (b2 :: ts) else none) = _
  rw [if_pos (by rw [List.length_cons]; omega)]
  rfl
theorem ty_2 {kd : Nat} {b b2 : Bool} {c : Int} {h h2 : Nat} {cs cs2 : List Int} (h1 : 1 ≤ h2) (hh : h + 1 ≤ h2) (hc : ∀ ts, pf_t1 kd c (b :: b :: ts) = some (b2 :: ts)) (t : ty kd b h2 cs) (t2 : ty kd b h cs2) : ty kd b2 h2 (cs ++ cs2 ++ [c]) := fun ts l => by
  rw [tr_app, tr_app, t ts l]
  show ((pf_tr kd cs2 (b :: ts)).bind (pf_tr kd [c])) = _
  rw [t2 (b :: ts) (by rw [List.length_cons]; omega)]
  show (match pf_t1 kd c (b :: b :: ts) with | some ts' => if ts'.length ≤ 40 then pf_tr kd [] ts' else none | none => none) = _
  rw [hc ts]
  show (if (b2 :: ts).length ≤ 40 then pf_tr kd [] (b2 :: ts) else none) = _
  rw [if_pos (by rw [List.length_cons]; omega)]
  rfl
/-- what a reader gives is typed and not longer than what it read -/
def tyR (T : Nat → Int) (n : Int) (kd : Nat) (b : Bool) (h : Nat) (pp : zs → zR) : Prop := ∀ s s' out, sOk T n s → pp s = .inr (s', out) → ty kd b h out ∧ (out.length : Int) ≤ s'.1 - s.1 ∧ sOk T n s' ∧ s.1 < s'.1
def opR (T : Nat → Int) (n : Int) (kd : Nat) (b : Bool) (o : zs → Option (zs × Int)) : Prop := ∀ s s1 c, sOk T n s → o s = some (s1, c) → sOk T n s1 ∧ s.1 < s1.1 ∧ ∀ ts, pf_t1 kd c (b :: b :: ts) = some (b :: ts)
section ZPH
variable {T : Nat → Int} {n : Int} {kd : Nat} {b : Bool} {h : Nat} {pp : zs → zR} {o : zs → Option (zs × Int)}
theorem tyR_l (hp : tyR T n kd b h pp) (ho : opR T n kd b o) {p0 : Int} : ∀ (m : Nat) (s : zs) (cs : List Int) (s' : zs) (out : List Int), sOk T n s → ty kd b (h + 1) cs → (cs.length : Int) ≤ s.1 - p0 → pL pp o m s cs = .inr (s', out) → ty kd b (h + 1) out ∧ (out.length : Int) ≤ s'.1 - p0 ∧ sOk T n s' ∧ s.1 ≤ s'.1 := by
  intro m
  induction m with
  | zero =>
    intro s cs s' out hs ht hl e
    have h' : (s, cs) = (s', out) := Sum.inr.inj e
    cases h'
    exact ⟨ht, hl, hs, Int.le_refl _⟩
  | succ m ih =>
    intro s cs s' out hs ht hl e
    cases hq : o s with
    | none =>
      have eL : pL pp o (m + 1) s cs = .inr (s, cs) := by unfold pL; rw [hq]
      rw [eL] at e
      have h' : (s, cs) = (s', out) := Sum.inr.inj e
      cases h'
      exact ⟨ht, hl, hs, Int.le_refl _⟩
    | some x =>
      obtain ⟨s1, c⟩ := x
      obtain ⟨a1, a2, a3⟩ := ho s s1 c hs hq
      cases hv : pp s1 with
      | inl e0 =>
        have eL : pL pp o (m + 1) s cs = .inl e0 := by unfold pL; rw [hq]; simp only [hv]
        rw [eL] at e
        exact absurd e (by simp)
      | inr y =>
        obtain ⟨s2, cs2⟩ := y
        have eL : pL pp o (m + 1) s cs = pL pp o m s2 (cs ++ cs2 ++ [c]) := by
          rw [show pL pp o (m + 1) s cs = (match o s with | none => .inr (s, cs) | some (s1, c) => match pp s1 with | .inl e => .inl e | .inr (s2, cs2) => pL pp o m s2 (cs ++ cs2 ++ [c])) from rfl, hq]
          simp only [hv]
        rw [eL] at e
        obtain ⟨b1, b2, b3, b4⟩ := hp s1 s2 cs2 a1 hv
        obtain ⟨r1, r2, r3, r4⟩ := ih s2 (cs ++ cs2 ++ [c]) s' out b3 (ty_2 (by omega) (by omega) a3 ht b1) (by simp only [List.length_append, List.length_cons, List.length_nil]; omega) e
        exact ⟨r1, r2, r3, by omega⟩
theorem tyR_c (hp : tyR T n kd b h pp) (ho : opR T n kd b o) : tyR T n kd b (h + 1) (pC pp o) := by
  intro s s' out hs e
  cases hq : pp s with
  | inl e0 =>
    have eC : pC pp o s = .inl e0 := by unfold pC; rw [hq]
    rw [eC] at e
    exact absurd e (by simp)
  | inr y =>
    obtain ⟨s1, c1⟩ := y
    have eC : pC pp o s = pL pp o 1600 s1 c1 := by unfold pC; rw [hq]
    rw [eC] at e
    obtain ⟨a1, a2, a3, a4⟩ := hp s s1 c1 hs hq
    obtain ⟨r1, r2, r3, r4⟩ := tyR_l hp ho (p0 := s.1) 1600 s1 c1 s' out a3 (ty_mono (by omega) a1) (by omega) e
    exact ⟨r1, r2, r3, by omega⟩
theorem t1_ar {c : Int} (hc : 1 ≤ c ∧ c ≤ 6) (ts : List Bool) : pf_t1 kd c (false :: false :: ts) = some (false :: ts) := by
  unfold pf_t1
  rw [if_neg (by omega), if_neg (by omega), if_neg (by omega), if_neg (by omega), if_pos hc]
theorem t1_cm {c : Int} (hc : 7 ≤ c ∧ c ≤ 9) (ts : List Bool) : pf_t1 kd c (false :: false :: ts) = some (true :: ts) := by
  unfold pf_t1
  rw [if_neg (by omega), if_neg (by omega), if_neg (by omega), if_neg (by omega), if_neg (by omega), if_pos hc]
theorem t1_lo {c : Int} (hc : 10 ≤ c ∧ c ≤ 11) (ts : List Bool) : pf_t1 kd c (true :: true :: ts) = some (true :: ts) := by
  unfold pf_t1
  rw [if_neg (by omega), if_neg (by omega), if_neg (by omega), if_neg (by omega), if_neg (by omega), if_neg (by omega), if_pos hc]
theorem opR_M : opR T n kd false (oM T n) := fun s s1 c hs e => by
  obtain ⟨a1, a2, a3, _⟩ := oM_some e
  subst a2
  exact ⟨aS_ok hs a1, aS_lt T n s, fun ts => t1_ar (by omega) ts⟩
theorem opR_A : opR T n kd false (oA T n) := fun s s1 c hs e => by
  obtain ⟨a1, a2, a3, _⟩ := oA_some e
  subst a2
  exact ⟨aS_ok hs a1, aS_lt T n s, fun ts => t1_ar (by omega) ts⟩
theorem opR_Mt : opR T n kd true (oMt T n) := fun s s1 c hs e => by
  obtain ⟨a1, a2, a3, a4⟩ := oM_somet e
  subst a2
  exact ⟨aWd_ok hs, aWd_lt (by omega), fun ts => t1_lo (by omega) ts⟩
theorem opR_At : opR T n kd true (oAt T n) := fun s s1 c hs e => by
  obtain ⟨a1, a2, a3, a4⟩ := oA_somet e
  subst a2
  exact ⟨aWd_ok hs, aWd_lt (by omega), fun ts => t1_lo (by omega) ts⟩
theorem tyR_sum (hp : tyR T n kd false h pp) : tyR T n kd false (h + 2) (pSum T n pp) := tyR_c (tyR_c hp opR_M) opR_A
theorem tyR_tst (hp : tyR T n kd true h pp) : tyR T n kd true (h + 2) (pTst T n pp) := tyR_c (tyR_c hp opR_Mt) opR_At
theorem pNum_v {s s' : zs} {most v : Int} (hs : sOk T n s) (e : pNum T n s most = .inr (s', v)) : 0 ≤ v ∧ v ≤ 9999 := by
  have r1 := rn_le T n fN s.1
  unfold pNum at e
  split at e
  · split at e
    · exact absurd e (by simp)
    · rename_i c4
      split at e
      · exact absurd e (by simp)
      · have ev : lnv T (rn T n fN s.1 - s.1).toNat s.1 0 = v := congrArg Prod.snd (Sum.inr.inj e)
        rw [← ev]
        exact lnv_b (T := T) (rn T n fN s.1 - s.1).toNat s.1 (by omega) (fun j a b => of_decide_eq_true (rn_all (T := T) (n := n) (f := fN) a (by omega)).2)
  · exact absurd e (by simp)
theorem al_v {v : Int} (hv : 0 ≤ v ∧ v < 10) (h : alw kd v = true) : pf_al kd (40 + v) = true := by
  unfold alw at h
  unfold pf_al
  match kd, h with
  | 0, h => have h := of_decide_eq_true h; exact decide_eq_true (by omega)
  | 1, h => have h := of_decide_eq_true h; exact decide_eq_true (by omega)
  | k + 2, h => have h := of_decide_eq_true h; exact decide_eq_true (by omega)
theorem al_p {v : Int} (hv : v = 10 ∨ v = 11) (h : alw kd v = true) : pf_al kd (v + 50) = true := by
  unfold alw at h
  unfold pf_al
  match kd, h with
  | 0, h => have h := of_decide_eq_true h; omega
  | 1, h => have h := of_decide_eq_true h; omega
  | k + 2, h => exact decide_eq_true (by omega)
theorem tyR_atom : tyR T n kd false 1 (pAtom T n kd) := by
  intro s s' out hs e
  have hok := pAtom_ok hs e
  unfold pAtom at e
  by_cases c : vw T n kd s = -1
  · rw [if_pos c] at e
    cases hq : pNum T n s 9999 with
    | inl e0 => rw [hq] at e; exact absurd e (by simp)
    | inr y =>
      obtain ⟨s3, v⟩ := y
      rw [hq] at e
      have hv := pNum_v hs hq
      have eo : [1000 + v] = out := congrArg Prod.snd (Sum.inr.inj e)
      subst eo
      refine ⟨ty_1 (fun ts => ?_), by simp only [List.length_cons, List.length_nil]; omega, hok⟩
      unfold pf_t1
      rw [if_pos (by omega), if_pos (by omega)]
  · rw [if_neg c] at e
    have eo : [40 + vw T n kd s] = out := congrArg Prod.snd (Sum.inr.inj e)
    subst eo
    refine ⟨ty_1 (fun ts => ?_), by simp only [List.length_cons, List.length_nil]; omega, hok⟩
    have hv : (0 ≤ vw T n kd s ∧ vw T n kd s < 10) ∧ alw kd (vw T n kd s) = true := by
      unfold vw at *
      split at c
      · rename_i q
        rw [if_pos q]
        exact q
      · exact absurd rfl c
    unfold pf_t1
    rw [if_neg (by omega), if_pos (by omega), al_v hv.1 hv.2, if_pos rfl, if_neg (by omega)]
end ZPH
