/-! THE REFERENCE: qTakes -/
def fj (J J' : zF) : Prop := ∀ i j, ¬ (i = 0 ∧ j = 113) → J' i j = J i j
theorem fj.u {J : zF} {x : Int} : fj J (ax_u J 0 113 x) := fun i j h => zu_ne (by omega)
theorem fj.refl (J : zF) : fj J J := fun _ _ _ => rfl
section ZAV
variable {d : Nat} {I J : zF} {k v i r : Int} {nw : Bool} {P0 : zF → zF → Prop} {Q : Option ax_v → ax_S → Prop}
theorem tk_90 (hk : 0 ≤ k ∧ k ≤ 5) (h : k ≤ 3) (hQ : Q none (zr_S (ax_u I 0 114 0) J)) : zb_W d ax_m304 (90, [some (.inr (.inr (some 0))), some (.inl k), some (.inr (.inl v)), none, none, none], [], zr_S I J) Q := by
  refine zq_qTakes_90 I J k v ?_
  rw [zb_w (x := k) (by omega) (by omega)]
  exact ⟨fun q => absurd q (show ¬ (3 : Int) < k by omega), fun _ => hQ⟩
theorem tk_75 (hk : 0 ≤ k ∧ k ≤ 5) (h : k ≠ 3) (hQ : zb_W d ax_m304 (90, [some (.inr (.inr (some 0))), some (.inl k), some (.inr (.inl v)), none, none, none], [], zr_S I J) Q) : zb_W d ax_m304 (75, [some (.inr (.inr (some 0))), some (.inl k), some (.inr (.inl v)), none, none, none], [], zr_S I J) Q := by
  refine zq_qTakes_75 I J k v ?_
  rw [zb_w (x := k) (by omega) (by omega)]
  exact ⟨fun q => absurd q h, fun _ => hQ⟩
theorem tk_55 {a5 : Int} (hk : 0 ≤ k ∧ k ≤ 5) (h : k ≠ 2 ∨ a5 = 0) (hQ : zb_W d ax_m304 (75, [some (.inr (.inr (some 0))), some (.inl k), some (.inr (.inl v)), none, none, none], [], zr_S I J) Q) : zb_W d ax_m304 (55, [some (.inr (.inr (some 0))), some (.inl k), some (.inr (.inl v)), none, none, some (.inl a5)], [], zr_S I J) Q := by
  refine zq_qTakes_55 I J k v a5 ?_
  rw [zb_w (x := k) (by omega) (by omega)]
  refine ⟨fun q => ⟨fun _ => hQ, fun z => ?_⟩, fun _ => hQ⟩
  rcases h with h | h
  · exact absurd q h
  · rw [h] at z; exact absurd rfl z
theorem tk_38 {a5 : Int} (hk : 0 ≤ k ∧ k ≤ 5) (h : k ≠ 1 ∨ a5 = 0) (hQ : zb_W d ax_m304 (55, [some (.inr (.inr (some 0))), some (.inl k), some (.inr (.inl v)), none, none, some (.inl a5)], [], zr_S I J) Q) : zb_W d ax_m304 (38, [some (.inr (.inr (some 0))), some (.inl k), some (.inr (.inl v)), none, some (.inl i), some (.inl a5)], [], zr_S I J) Q := by
  refine zq_qTakes_38 I J k v i a5 ?_
  rw [zb_w (x := k) (by omega) (by omega)]
  refine ⟨fun q => ⟨fun _ => hQ, fun z => ?_⟩, fun _ => hQ⟩
  rcases h with h | h
  · exact absurd q h
  · rw [h] at z; exact absurd rfl z
theorem tk_15 (hk : 0 ≤ k ∧ k ≤ 5) (hQ : zb_W d ax_m304 (55, [some (.inr (.inr (some 0))), some (.inl k), some (.inr (.inl v)), none, none, some (.inl 0)], [], zr_S I J) Q) : zb_W d ax_m304 (15, [some (.inr (.inr (some 0))), some (.inl k), some (.inr (.inl v)), none, some (.inl i), none], [], zr_S I J) Q := by
  have h38 := tk_38 (i := i) hk (Or.inr rfl) hQ
  exact zq_qTakes_15 I J k v i ⟨fun _ => ⟨fun _ => h38, fun z => absurd rfl z⟩, fun _ => h38⟩
theorem tk_48 {a5 : Int} (hk : k = 0 ∨ k = 1) (hi : n32 i) (hQ : Q none (zr_S (ax_u I 0 114 0) (ax_u J 0 113 i))) : zb_W d ax_m304 (48, [some (.inr (.inr (some 0))), some (.inl k), some (.inr (.inl v)), none, some (.inl i), some (.inl a5)], [], zr_S I J) Q := by
  refine zq_qTakes_48 I J k v i a5 ?_
  rw [hi.w]
  exact tk_55 (by omega) (by omega) (tk_75 (by omega) (by omega) (tk_90 (by omega) (by omega) hQ))
theorem sr_qTakes (hk : 0 ≤ k ∧ k ≤ 5) (hv : b6 v) (hi : n32 i) (hr : n64 r) (hJ : J 0 113 = r) (hn : I 0 114 = if nw = true then 1 else 0) (hP : ∀ J', fj J J' → J' 0 113 = pTk k v i nw r → P0 (ax_u I 0 114 0) J') : zr_v (d + 1) 304 [.inr (.inr (some 0)), .inl k, .inr (.inl v), .inl i] I J P0 := by
  have lc1 := zb_lc_eq hv.n64 (show n64 1 from ⟨by decide, by decide⟩)
  have lc2 := zb_lc_eq hr (show n64 (-1) from ⟨by decide, by decide⟩)
  refine zr_inv (M := ax_m304) rfl (Nat.le_of_ble_eq_true rfl) (zq_qTakes_0 I J k v i ?_)
  rw [hJ]
  have hc : k = 0 ∨ k = 1 ∨ k = 2 ∨ k = 3 ∨ k = 4 ∨ k = 5 := by omega
  rcases hc with rfl | rfl | rfl | rfl | rfl | rfl
  · have e : pTk 0 v i nw r = if v = 1 ∧ r = -1 then i else r := rfl
    rw [e] at hP
    have fin : ¬ (v = 1 ∧ r = -1) → ∀ a5 : Int, zb_W d ax_m304 (55, [some (.inr (.inr (some 0))), some (.inl 0), some (.inr (.inl v)), none, none, some (.inl a5)], [], zr_S I J) (zr_Qv P0) := fun h a5 => tk_55 (by decide) (Or.inl (by decide)) (tk_75 (by decide) (by decide) (tk_90 (by decide) (by decide) (zr_Qv.of (hP J (fj.refl J) (by rw [if_neg h]; exact hJ)))))
    exact ⟨fun _ => ⟨fun h1 => ⟨fun _ => ⟨fun z => absurd z (by decide), fun _ => ⟨fun h2 => tk_48 (Or.inl rfl) hi (zr_Qv.of (hP _ fj.u (by rw [if_pos ⟨lc1.mp h1, lc2.mp h2⟩]; exact zu_eq))), fun h2 => tk_38 (by decide) (Or.inl (by decide)) (fin (fun q => h2 (lc2.mpr q.2)) _)⟩⟩, fun z => absurd rfl z⟩, fun h1 => tk_15 (by decide) (fin (fun q => h1 (lc1.mpr q.1)) _)⟩, fun z => absurd (show ax_w 0 < ax_w 3 by decide) z⟩
  · have e : pTk 1 v i nw r = if v = 1 then i else r := rfl
    rw [e] at hP
    exact ⟨fun _ => ⟨fun h1 => ⟨fun z => absurd z (by decide), fun _ => zq_qTakes_38 I J 1 v i 1 ⟨fun _ => ⟨fun z => absurd z (by decide), fun _ => tk_48 (Or.inr rfl) hi (zr_Qv.of (hP _ fj.u (by rw [if_pos (lc1.mp h1)]; exact zu_eq)))⟩, fun z => absurd rfl z⟩⟩, fun h1 => tk_15 (by decide) (tk_55 (by decide) (Or.inr rfl) (tk_75 (by decide) (by decide) (tk_90 (by decide) (by decide) (zr_Qv.of (hP J (fj.refl J) (by rw [if_neg (fun q => h1 (lc1.mpr q))]; exact hJ))))))⟩, fun z => absurd (show ax_w 1 < ax_w 3 by decide) z⟩
  · have e : pTk 2 v i nw r = if v = 1 then r + 1 else r := rfl
    rw [e] at hP
    exact ⟨fun _ => ⟨fun h1 => ⟨fun z => absurd z (by decide), fun _ => tk_38 (by decide) (Or.inl (by decide)) (zq_qTakes_55 I J 2 v 1 ⟨fun _ => ⟨fun z => absurd z (by decide), fun _ => tk_75 (by decide) (by decide) (tk_90 (by decide) (by decide) (zr_Qv.of (hP _ fj.u (by rw [if_pos (lc1.mp h1), hJ]; exact zu_eq))))⟩, fun z => absurd rfl z⟩)⟩, fun h1 => tk_15 (by decide) (tk_55 (by decide) (Or.inr rfl) (tk_75 (by decide) (by decide) (tk_90 (by decide) (by decide) (zr_Qv.of (hP J (fj.refl J) (by rw [if_neg (fun q => h1 (lc1.mpr q))]; exact hJ))))))⟩, fun z => absurd (show ax_w 2 < ax_w 3 by decide) z⟩
  · have e : pTk 3 v i nw r = r + v := rfl
    rw [e] at hP
    exact ⟨fun z => absurd z (by decide), fun _ => tk_15 (by decide) (tk_55 (by decide) (Or.inr rfl) (zq_qTakes_75 I J 3 v ⟨fun _ => tk_90 (by decide) (by decide) (zr_Qv.of (hP _ fj.u (by rw [hJ]; exact zu_eq))), fun z => absurd rfl z⟩))⟩
  · have e : pTk 4 v i nw r = if nw = true ∨ r < v then v else r := rfl
    rw [e] at hP
    refine ⟨fun z => absurd z (by decide), fun _ => tk_15 (by decide) (tk_55 (by decide) (Or.inr rfl) (tk_75 (by decide) (by decide) (zq_qTakes_90 I J 4 v ?_)))⟩
    rw [hJ, hn]
    refine ⟨fun _ => ⟨fun z => ?_, fun z => ?_⟩, fun z => absurd (show ax_w 3 < ax_w 4 by decide) z⟩
    · have hn0 : ¬ nw = true := fun q => by rw [if_pos q] at z; exact absurd z (by decide)
      refine ⟨fun _ => ⟨fun h1 => ?_, fun h1 => ?_⟩, fun z => absurd rfl z⟩
      · rw [zb_lc_gt hv.n64 hr] at h1
        exact zr_Qv.of (hP _ fj.u (by rw [if_pos (Or.inr h1)]; exact zu_eq))
      · rw [zb_lc_gt hv.n64 hr] at h1
        exact zr_Qv.of (hP J (fj.refl J) (by rw [if_neg (by intro q; rcases q with q | q; exact hn0 q; exact h1 q)]; exact hJ))
    · have hn1 : nw = true := by
        by_cases q : nw = true
        · exact q
        · rw [if_neg q] at z; exact absurd rfl z
      exact zr_Qv.of (hP _ fj.u (by rw [if_pos (Or.inl hn1)]; exact zu_eq))
  · have e : pTk 5 v i nw r = if nw = true ∨ v < r then v else r := rfl
    rw [e] at hP
    refine ⟨fun z => absurd z (by decide), fun _ => tk_15 (by decide) (tk_55 (by decide) (Or.inr rfl) (tk_75 (by decide) (by decide) (zq_qTakes_90 I J 5 v ?_)))⟩
    rw [hJ, hn]
    refine ⟨fun _ => ⟨fun z => ?_, fun z => ?_⟩, fun z => absurd (show ax_w 3 < ax_w 5 by decide) z⟩
    · have hn0 : ¬ nw = true := fun q => by rw [if_pos q] at z; exact absurd z (by decide)
      refine ⟨fun z => absurd z (by decide), fun _ => ⟨fun h1 => ?_, fun h1 => ?_⟩⟩
      · rw [zb_lc_lt hv.n64 hr] at h1
        exact zr_Qv.of (hP _ fj.u (by rw [if_pos (Or.inr h1)]; exact zu_eq))
      · rw [zb_lc_lt hv.n64 hr] at h1
        exact zr_Qv.of (hP J (fj.refl J) (by rw [if_neg (by intro q; rcases q with q | q; exact hn0 q; exact h1 q)]; exact hJ))
    · have hn1 : nw = true := by
        by_cases q : nw = true
        · exact q
        · rw [if_neg q] at z; exact absurd rfl z
      exact zr_Qv.of (hP _ fj.u (by rw [if_pos (Or.inl hn1)]; exact zu_eq))
end ZAV
