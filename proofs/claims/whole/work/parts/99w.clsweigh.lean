/-! THE CLASS: a word is weighed -/
def fk (J J' : zF) : Prop := ∀ i j, ¬ (i = 10 ∧ j = 7) → J' i j = J i j
theorem fk.u {J : zF} {x : Int} : fk J (ax_u J 10 7 x) := fun i j h => zu_ne (by omega)
theorem run_us {v : Int → Int} {q q' : Int → Int → Int} (h1 : ∀ a, q 1 a = q' 1 a) : ∀ (cs : List Int) (ts r : List Bool) (st : List Int), pf_tr 2 cs ts = some r → us cs = 0 → pf_run v q cs st = pf_run v q' cs st := by
  intro cs
  induction cs with
  | nil => intro ts r st _ _; rfl
  | cons c cs ih =>
    intro ts r st ht hu
    unfold pf_tr at ht
    split at ht
    case h_2 => cases ht
    rename_i ts1 ht1
    split at ht
    case isFalse => cases ht
    have hn : ¬ (60 : Int) ∈ c :: cs := fun m => by unfold us at hu; rw [if_pos m] at hu; cases hu
    have hc : c ≠ 60 := fun e => hn (by rw [e]; exact List.mem_cons_self)
    have hu2 : us cs = 0 := if_neg (fun m => hn (List.mem_cons_of_mem _ m))
    have hv : (1000 ≤ c ∧ c ≤ 10999) ∨ c = 61 ∨ c < 60 := by
      rcases pf_t1_cases ht1 with h | ⟨h, _⟩ | ⟨h, h', _⟩ | ⟨h, _⟩ | ⟨h, _⟩ | ⟨h, h', _⟩ <;> omega
    have e : pf_step v q c st = pf_step v q' c st := by
      unfold pf_step
      rcases hv with h | h | h
      · rw [if_pos h.1, if_pos h.1]
      · subst h
        rw [if_neg (by decide), if_pos (by decide), if_neg (by decide), if_pos (by decide)]
        match st with
        | [] => rfl
        | a :: r => show q (61 - 60) a :: r = q' (61 - 60) a :: r; rw [show (61 : Int) - 60 = 1 by decide, h1]
      · have a1 : ¬ 1000 ≤ c := by omega
        have a2 : ¬ 60 ≤ c := by omega
        rw [if_neg a1, if_neg a2, if_neg a1, if_neg a2]
    unfold pf_run
    rw [e]
    exact ih ts1 r _ ht hu2
section ZCW
variable {d hf pf hs : Nat} {I J : zF} {D : zD} {pg : zG} {W : zD} {P0 : zF → zF → Prop} {Q : Option ax_v → ax_S → Prop} {k v i r : Int} {nw : Bool}
theorem sc_take (hk : 0 ≤ k ∧ k ≤ 5) (h4 : I 10 4 = k) (hv : b6 v) (h01 : k < 3 → v = 0 ∨ v = 1) (hi : n32 i) (hr : n64 r) (hJ : J 10 7 = r) (h6 : I 10 6 = if nw = true then 0 else 1) (hP : ∀ J', fk J J' → J' 10 7 = pTk k v i nw r → P0 (ax_u I 10 6 1) J') : zc_v (d + 2) 60 [.inr (.inr (some 10)), .inl i, .inl v] hf pf I J P0 := by
  have lc2 := zb_lc_eq hr (show n64 (-1) from ⟨by decide, by decide⟩)
  have fin : ∀ x, x = pTk k v i nw r → zc_Qv hf pf P0 none (zc_S hf pf (ax_u I 10 6 1) (ax_u J 10 7 x)) := fun x e => zc_Qv.of (hP _ fk.u (by rw [zu_eq]; exact e))
  have z0 : ax_w v = ax_w 0 ↔ v = 0 := by rw [hv.n32.w]; exact Iff.rfl
  refine zc_inv (M := ax_m60) rfl (Nat.le_of_ble_eq_true rfl) (zk_Question_take_0 hf pf I J i v ?_)
  rw [h4, hJ, h6, hi.w]
  have hc : k = 0 ∨ k = 1 ∨ k = 2 ∨ k = 3 ∨ k = 4 ∨ k = 5 := by omega
  rcases hc with rfl | rfl | rfl | rfl | rfl | rfl
  · have e : pTk 0 v i nw r = if v = 1 ∧ r = -1 then i else r := rfl
    have h01' := h01 (by decide)
    refine ⟨fun _ => ⟨fun c => ⟨fun c2 => fin r ?_, fun c2 => fin i ?_⟩, fun c => fin r ?_⟩, fun z => absurd rfl z⟩
    · rw [e, if_neg (fun q => by have := z0.mp c2; omega)]
    · rw [e, if_pos ⟨h01'.resolve_left (fun q => c2 (z0.mpr q)), lc2.mp c⟩]
    · rw [e, if_neg (fun q => c (lc2.mpr q.2))]
  · have e : pTk 1 v i nw r = if v = 1 then i else r := rfl
    have h01' := h01 (by decide)
    refine ⟨fun z => absurd z (by decide), fun _ => ⟨fun _ => ⟨fun c2 => fin r ?_, fun c2 => fin i ?_⟩, fun z => absurd rfl z⟩⟩
    · rw [e, if_neg (fun q => by have := z0.mp c2; omega)]
    · rw [e, if_pos (h01'.resolve_left (fun q => c2 (z0.mpr q)))]
  · have e : pTk 2 v i nw r = if v = 1 then r + 1 else r := rfl
    have h01' := h01 (by decide)
    refine ⟨fun z => absurd z (by decide), fun _ => ⟨fun z => absurd z (by decide), fun _ => ⟨fun _ => fin _ ?_, fun z => absurd rfl z⟩⟩⟩
    rw [e, hv.n32.w]
    rcases h01' with q | q <;> subst q
    · rw [if_neg (by decide), Int.add_zero]
    · rw [if_pos rfl]
  · refine ⟨fun z => absurd z (by decide), fun _ => ⟨fun z => absurd z (by decide), fun _ => ⟨fun z => absurd z (by decide), fun _ => ⟨fun _ => fin _ ?_, fun z => absurd rfl z⟩⟩⟩⟩
    rw [hv.n32.w]
    rfl
  · have e : pTk 4 v i nw r = if nw = true ∨ r < v then v else r := rfl
    refine ⟨fun z => absurd z (by decide), fun _ => ⟨fun z => absurd z (by decide), fun _ => ⟨fun z => absurd z (by decide), fun _ => ⟨fun z => absurd z (by decide), fun _ => ⟨fun _ => ⟨fun c => fin _ ?_, fun c => ?_⟩, fun z => absurd rfl z⟩⟩⟩⟩⟩
    · have hn1 : nw = true := by
        by_cases q : nw = true
        · exact q
        · rw [if_neg q] at c; exact absurd c (by decide)
      rw [e, hv.n32.w, if_pos (Or.inl hn1)]
    · have hn0 : ¬ nw = true := fun q => by rw [if_pos q] at c; exact absurd rfl c
      rw [hv.n32.w]
      refine sc_maxl hr hv.n64 (fin _ ?_)
      rw [e]
      exact ic ⟨fun q => Or.inr q, fun q => q.resolve_left hn0⟩
  · have e : pTk 5 v i nw r = if nw = true ∨ v < r then v else r := rfl
    refine ⟨fun z => absurd z (by decide), fun _ => ⟨fun z => absurd z (by decide), fun _ => ⟨fun z => absurd z (by decide), fun _ => ⟨fun z => absurd z (by decide), fun _ => ⟨fun z => absurd z (by decide), fun _ => ⟨fun c => fin _ ?_, fun c => ?_⟩⟩⟩⟩⟩⟩
    · have hn1 : nw = true := by
        by_cases q : nw = true
        · exact q
        · rw [if_neg q] at c; exact absurd c (by decide)
      rw [e, hv.n32.w, if_pos (Or.inl hn1)]
    · have hn0 : ¬ nw = true := fun q => by rw [if_pos q] at c; exact absurd rfl c
      rw [hv.n32.w]
      refine sc_minl hr hv.n64 (fin _ ?_)
      rw [e]
      exact ic ⟨fun q => Or.inr q, fun q => q.resolve_left hn0⟩
end ZCW
