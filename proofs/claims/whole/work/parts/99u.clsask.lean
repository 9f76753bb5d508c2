/-! THE CLASS: a question is read -/
def us (cs : List Int) : Int := if (60 : Int) ∈ cs then 1 else 0
theorem cm_nib {c : Int} (h : (1000 ≤ c ∧ c ≤ 10999) ∨ c = 60 ∨ c = 61 ∨ (40 ≤ c ∧ c ≤ 49) ∨ c = 13 ∨ c = 12 ∨ (1 ≤ c ∧ c ≤ 11)) : ∃ a b, cm c = a * 16 + b ∧ (0 ≤ a ∧ a ≤ 100000) ∧ (0 ≤ b ∧ b < 16) ∧ (b = 3 ↔ c = 60) := by
  unfold cm
  split
  · exact ⟨c - 1000, 0, by omega, by omega, by omega, by omega⟩
  · split
    · exact ⟨0, c - 57, by omega, by omega, by omega, by omega⟩
    · split
      · exact ⟨c - 40, 1, by omega, by omega, by omega, by omega⟩
      · split
        · exact ⟨1, 0, by omega, by omega, by omega, by omega⟩
        · split
          · exact ⟨0, 2, by omega, by omega, by omega, by omega⟩
          · split
            · exact ⟨0, c + 4, by omega, by omega, by omega, by omega⟩
            · split
              · exact ⟨0, c + 9, by omega, by omega, by omega, by omega⟩
              · exact ⟨0, c + 2, by omega, by omega, by omega, by omega⟩
theorem cm_and {c : Int} (h : (1000 ≤ c ∧ c ≤ 10999) ∨ c = 60 ∨ c = 61 ∨ (40 ≤ c ∧ c ≤ 49) ∨ c = 13 ∨ c = 12 ∨ (1 ≤ c ∧ c ≤ 11)) : ax_w (ax_and (cm c) 15) = ax_w 3 ↔ c = 60 := by
  obtain ⟨a, b, e, ha, hb, hi⟩ := cm_nib h
  rw [e, (nib ha hb).1, zb_w (x := b) (by omega) (by omega)]
  exact hi
section ZCA
variable {T : Nat → Int} {n : Int} {d hf pf hs : Nat} {I J : zF} {s : zs} {P : Int → zF → zF → Prop} {Q : Option ax_v → ax_S → Prop}
theorem sc_uses_l {en : Int} (hen : I 4 2 = en) (h16 : en ≤ 1600) : ∀ (cs : List Int) (k : Int) (ts r : List Bool), pf_tr 2 cs ts = some r → 0 ≤ k → k + cs.length = en → cc I 5 k cs → Q (some (.inl (us cs))) (zc_S hf pf I J) → zb_W d ax_m51 (2, [some (.inr (.inr (some 4))), some (.inl 3), some (.inl k)], [], zc_S hf pf I J) Q := by
  intro cs
  induction cs with
  | nil =>
    intro k ts r _ h0 he _ hQ
    simp only [List.length_nil] at he
    refine zk_Program_uses_2 hf pf I J 3 k 4 (Or.inl rfl) ?_
    rw [hen, zb_w (x := k) (by omega) (by omega), zb_w (x := en) (by omega) (by omega)]
    exact ⟨fun q => by omega, fun _ => hQ⟩
  | cons c cs ih =>
    intro k ts r ht h0 he hc hQ
    simp only [List.length_cons] at he
    unfold pf_tr at ht
    split at ht
    case h_2 => cases ht
    rename_i ts1 ht1
    split at ht
    case isFalse => cases ht
    have hv : (1000 ≤ c ∧ c ≤ 10999) ∨ c = 60 ∨ c = 61 ∨ (40 ≤ c ∧ c ≤ 49) ∨ c = 13 ∨ c = 12 ∨ (1 ≤ c ∧ c ≤ 11) := by
      rcases pf_t1_cases ht1 with h | ⟨h, _⟩ | ⟨h, h', _⟩ | ⟨h, _⟩ | ⟨h, _⟩ | ⟨h, h', _⟩ <;> omega
    refine zk_Program_uses_2 hf pf I J 3 k 4 (Or.inl rfl) ?_
    have h1 : I (4 + 1) k.toNat = cm c := hc.1
    rw [hen, zb_w (x := k) (by omega) (by omega), zb_w (x := en) (by omega) (by omega), h1, cm_and hv]
    refine ⟨fun _ => ⟨by omega, fun q => ?_, fun q => ih (k + 1) ts1 r ht (by omega) (by omega) hc.2 ?_⟩, fun q => by omega⟩
    · have e : us (c :: cs) = 1 := if_pos (by rw [q]; exact List.mem_cons_self)
      rw [e] at hQ
      exact hQ
    · have e : us (c :: cs) = us cs := by
        unfold us
        by_cases m : (60 : Int) ∈ cs
        · rw [if_pos m, if_pos (List.mem_cons_of_mem _ m)]
        · rw [if_neg m, if_neg (fun z => (List.mem_cons.mp z).elim (fun z => q z.symm) m)]
      rw [e] at hQ
      exact hQ
theorem sc_uses {cs : List Int} (hc : cP I 4 cs) {r : List Bool} (ht : pf_tr 2 cs [] = some r) (hP : P (us cs) I J) : zc_i (d + 1) 51 [.inr (.inr (some 4)), .inl 3] hf pf I J P :=
  zc_ini (M := ax_m51) rfl (Nat.le_of_ble_eq_true rfl) (zk_Program_uses_0 hf pf I J 3 4 (sc_uses_l rfl (by have := hc.2.1; have := hc.1; omega) cs 0 [] r ht (by decide) (by have := hc.1; omega) hc.2.2 (zc_Qi.of hP)))
theorem sc_kindHere (hX : cTx T n s I) (hP : P (if 29 ≤ wd T n s ∧ wd T n s ≤ 34 then wd T n s - 29 else -1) I J) : zc_i (d + 3) 57 [.inr (.inr (some 10))] hf pf I J P := by
  have pos : ∀ k : Int, 0 ≤ k → k ≤ 5 → wd T n s = 29 + k → P k I J := fun k h0 h1 e => by
    rw [if_pos (by omega), show wd T n s - 29 = k by omega] at hP
    exact hP
  refine zc_ini (M := ax_m57) rfl (Nat.le_of_ble_eq_true rfl) (zk_Question_kindHere_0 hf pf I J (sc_is (ks := 29) hX (by decide) (by decide) ?_))
  by_cases h0 : wd T n s = ((29 : Nat) : Int)
  · rw [if_pos h0]; exact b1 (zc_Qi.of (pos 0 (by decide) (by decide) h0))
  rw [if_neg h0]
  refine b0 (sc_is (ks := 30) hX (by decide) (by decide) ?_)
  by_cases h1 : wd T n s = ((30 : Nat) : Int)
  · rw [if_pos h1]; exact b1 (zc_Qi.of (pos 1 (by decide) (by decide) h1))
  rw [if_neg h1]
  refine b0 (sc_is (ks := 31) hX (by decide) (by decide) ?_)
  by_cases h2 : wd T n s = ((31 : Nat) : Int)
  · rw [if_pos h2]; exact b1 (zc_Qi.of (pos 2 (by decide) (by decide) h2))
  rw [if_neg h2]
  refine b0 (sc_is (ks := 32) hX (by decide) (by decide) ?_)
  by_cases h3 : wd T n s = ((32 : Nat) : Int)
  · rw [if_pos h3]; exact b1 (zc_Qi.of (pos 3 (by decide) (by decide) h3))
  rw [if_neg h3]
  refine b0 (sc_is (ks := 33) hX (by decide) (by decide) ?_)
  by_cases h4 : wd T n s = ((33 : Nat) : Int)
  · rw [if_pos h4]; exact b1 (zc_Qi.of (pos 4 (by decide) (by decide) h4))
  rw [if_neg h4]
  refine b0 (sc_is (ks := 34) hX (by decide) (by decide) ?_)
  by_cases h5 : wd T n s = ((34 : Nat) : Int)
  · rw [if_pos h5]; exact b1 (zc_Qi.of (pos 5 (by decide) (by decide) h5))
  rw [if_neg h5]
  rw [if_neg (by omega)] at hP
  exact b0 (zc_Qi.of hP)
end ZCA
