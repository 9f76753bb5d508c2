/-! what the abstract values, cells and locals stand for in the machine -/
def ax_z (ad : Nat → Nat) (v : ax_v) : Value := match v with
  | .inl x => .int (Int32.ofInt x)
  | .inr (.inl y) => .long (Int64.ofInt y)
  | .inr (.inr r) => va_rf (r.map ad)
def ax_tk (c k : Nat) : Nat := (ax_tc.getD c []).getD k 0
def ax_e (cy : Nat → ClassId) (s : ax_S) (ad : Nat → Nat) (i : Nat) : va_E := match (ax_K s i).1 with
  | 20 => .inl (cy 20, (ax_K s i).2, .inl (fun j => Int32.ofInt (ax_I s i j)))
  | 21 => .inl (cy 21, (ax_K s i).2, .inl (fun j => Int32.ofInt (ax_I s i j)))
  | 22 => .inl (cy 22, (ax_K s i).2, .inl (fun j => Int32.ofInt (ax_I s i j)))
  | 23 => .inl (cy 23, (ax_K s i).2, .inr (.inl (fun j => Int64.ofInt (ax_J s i j))))
  | 24 => .inl (cy 24, (ax_K s i).2, .inr (.inr (.inr (.inr (fun j => (ax_R s i j).map ad)))))
  | c => .inr (c, (List.range (ax_fd.getD c []).length).map (fun k => ax_z ad (ax_f s i k (ax_tk c k))))
def ax_wd (cy : Nat → ClassId) (s : ax_S) (ad : Nat → Nat) : va_W := (List.range s.1).map (fun i => (ad i, ax_e cy s ad i))
def ax_tys (cy : Nat → ClassId) : List (ClassId × FieldType) := [(cy 20, .int), (cy 21, .char), (cy 22, .byte), (cy 23, .long), (cy 24, .array .int)]
theorem ax_wd_get {cy : Nat → ClassId} {s : ax_S} {ad : Nat → Nat} {i : Nat} (h : i < s.1) : (ax_wd cy s ad)[i]? = some (ad i, ax_e cy s ad i) := by
  simp [ax_wd, h]
theorem ax_wd_len {cy : Nat → ClassId} {s : ax_S} {ad : Nat → Nat} : (ax_wd cy s ad).length = s.1 := by simp [ax_wd]
theorem ax_wd_set {cy : Nat → ClassId} {s s' : ax_S} {ad : Nat → Nat} {i : Nat} {e : va_E} (hi : i < s.1) (hn : s'.1 = s.1) (he : ax_e cy s' ad i = e) (ho : ∀ j, j < s.1 → j ≠ i → ax_e cy s' ad j = ax_e cy s ad j) :
    (ax_wd cy s ad).set i (ad i, e) = ax_wd cy s' ad := by
  apply List.ext_getElem?
  intro j
  rw [List.getElem?_set]
  by_cases h : i = j
  · subst h
    rw [if_pos rfl, ax_wd_len, if_pos hi, ax_wd_get (by omega), he]
  · rw [if_neg h]
    by_cases hj : j < s.1
    · rw [ax_wd_get hj, ax_wd_get (by omega), ho j hj (fun q => h q.symm)]
    · rw [List.getElem?_eq_none (by rw [ax_wd_len]; omega), List.getElem?_eq_none (by rw [ax_wd_len]; omega)]
theorem ax_wd_push {cy : Nat → ClassId} {s s' : ax_S} {ad ad' : Nat → Nat} {q : Nat} {e : va_E} (hn : s'.1 = s.1 + 1) (ha : ad' s.1 = q) (he : ax_e cy s' ad' s.1 = e) (ho : ∀ j, j < s.1 → ad' j = ad j ∧ ax_e cy s' ad' j = ax_e cy s ad j) :
    ax_wd cy s ad ++ [(q, e)] = ax_wd cy s' ad' := by
  unfold ax_wd
  rw [hn, List.range_succ, List.map_append]
  congr 1
  · apply List.map_congr_left
    intro j hj
    have h := ho j (List.mem_range.mp hj)
    rw [h.1, h.2]
  · simp [ha, he]
/-- no cell holds a reference to a cell that is not there -/
def ax_wf (s : ax_S) : Prop := ∀ i j k, i < s.1 → ax_R s i j = some k → k < s.1
theorem ax_e_ad {cy : Nat → ClassId} {s : ax_S} {ad ad' : Nat → Nat} {i : Nat} (hw : ax_wf s) (hi : i < s.1) (ha : ∀ j, j < s.1 → ad' j = ad j) : ax_e cy s ad' i = ax_e cy s ad i := by
  have hR : ∀ j, (ax_R s i j).map ad' = (ax_R s i j).map ad := by
    intro j
    cases hr : ax_R s i j with
    | none => rfl
    | some k => simp [ha k (hw i j k hi hr)]
  have hz : ∀ k t, ax_z ad' (ax_f s i k t) = ax_z ad (ax_f s i k t) := by
    intro k t
    unfold ax_f
    split
    · rfl
    · simp only [ax_z, hR]
    · rfl
  unfold ax_e
  split <;> simp only [hR, hz]
theorem ax_wd_ad {cy : Nat → ClassId} {s : ax_S} {ad ad' : Nat → Nat} (hw : ax_wf s) (ha : ∀ j, j < s.1 → ad' j = ad j) : ax_wd cy s ad' = ax_wd cy s ad := by
  unfold ax_wd
  apply List.map_congr_left
  intro j hj
  have h := List.mem_range.mp hj
  rw [ha j h, ax_e_ad hw h ha]
theorem ax_zcat (ad : Nat → Nat) (v : ax_v) : (ax_z ad v).category = ax_cat v := by
  rcases v with x | y | r
  · rfl
  · rfl
  · cases r <;> rfl
theorem ax_zcats (ad : Nat → Nat) (st : List ax_v) : ((st.map (ax_z ad)).map fun v => v.category).sum = ax_cats st := by
  induction st with
  | nil => rfl
  | cons v r ih => simp only [List.map_cons, List.sum_cons, ax_zcat, ih, ax_cats]
theorem ax_vk_z {n : Nat} {ad ad' : Nat → Nat} (ha : ∀ i, i < n ∨ 1000000 ≤ i → ad' i = ad i) {v : ax_v} (h : ax_vk n v = true) : ax_z ad' v = ax_z ad v := by
  rcases v with x | y | r
  · rfl
  · rfl
  · cases r with
    | none => rfl
    | some o =>
      simp only [ax_vk, Bool.or_eq_true, Nat.blt_eq, Nat.ble_eq] at h
      simp [ax_z, ha o h]
theorem ax_vs_z {n : Nat} {ad ad' : Nat → Nat} (ha : ∀ i, i < n ∨ 1000000 ≤ i → ad' i = ad i) {st : List ax_v} (h : ax_vs n st = true) : st.map (ax_z ad') = st.map (ax_z ad) := by
  induction st with
  | nil => rfl
  | cons v r ih =>
    simp only [ax_vs, Bool.and_eq_true] at h
    simp only [List.map_cons, ax_vk_z ha h.1, ih h.2]
theorem ax_vl_z {n : Nat} {ad ad' : Nat → Nat} (ha : ∀ i, i < n ∨ 1000000 ≤ i → ad' i = ad i) : ∀ {ls : ax_L}, ax_vl n ls = true → ∀ (i : Nat) (v : ax_v), ls[i]? = some (some v) → ax_z ad' v = ax_z ad v := by
  intro ls
  induction ls with
  | nil => intro _ i v h; simp at h
  | cons o r ih =>
    intro h i v hv
    cases o with
    | none =>
      cases i with
      | zero => simp at hv
      | succ i => exact ih h i v (by simpa using hv)
    | some w =>
      simp only [ax_vl, Bool.and_eq_true] at h
      cases i with
      | zero =>
        simp at hv
        subst hv
        exact ax_vk_z ha h.1
      | succ i => exact ih h.2 i v (by simpa using hv)
/-! locals -/
def ax_lz (ad : Nat → Nat) (ls : ax_L) : List (Nat × Value) := (List.range ls.length).filterMap (fun i => match ls[i]? with
  | some (some v) => some (i, ax_z ad v)
  | _ => none)
theorem ax_lz_mem {ad : Nat → Nat} {ls : ax_L} {i : Nat} {v : ax_v} (h : ls[i]? = some (some v)) : (i, ax_z ad v) ∈ ax_lz ad ls := by
  refine List.mem_filterMap.mpr ⟨i, List.mem_range.mpr (List.getElem?_eq_some_iff.mp h).1, ?_⟩
  rw [h]
theorem ax_lz_of {ad : Nat → Nat} {ls : ax_L} {q : Nat × Value} (h : q ∈ ax_lz ad ls) : ∃ v, ls[q.1]? = some (some v) ∧ q.2 = ax_z ad v := by
  obtain ⟨i, -, h⟩ := List.mem_filterMap.mp h
  split at h
  · rename_i v hv
    cases h
    exact ⟨v, hv, rfl⟩
  · cases h
def ax_lh (arr : Array Slot) (nL : Nat) (ad : Nat → Nat) (ls : ax_L) : Prop := lv_has arr nL (ax_lz ad ls) ∧ ls.length = nL
theorem ax_lh.at {arr : Array Slot} {nL : Nat} {ad : Nat → Nat} {ls : ax_L} (h : ax_lh arr nL ad ls) {i : Nat} {v : ax_v} (hv : ls[i]? = some (some v)) : arr[i]? = some (.val (ax_z ad v)) := h.1.2.2 (i, ax_z ad v) (ax_lz_mem hv)
theorem ax_lh.ad {arr : Array Slot} {nL : Nat} {ad ad' : Nat → Nat} {ls : ax_L} (h : ax_lh arr nL ad ls) (ha : ∀ (i : Nat) (v : ax_v), ls[i]? = some (some v) → ax_z ad' v = ax_z ad v) : ax_lh arr nL ad' ls := by
  refine ⟨⟨h.1.1, h.1.2.1, fun q hq => ?_⟩, h.2⟩
  obtain ⟨v, hv, e⟩ := ax_lz_of hq
  rw [e, ha _ v hv]
  exact h.at hv
theorem ax_clr_get {ls : ax_L} {k j : Nat} {w : ax_v} (h : (ax_clr ls k)[j]? = some (some w)) : ls[j]? = some (some w) ∧ ¬ (j + 1 = k ∧ ax_cat w = 2) := by
  cases k with
  | zero => exact ⟨h, fun q => by omega⟩
  | succ k =>
    unfold ax_clr at h
    cases hk : ls[k]? with
    | none =>
      simp only [hk] at h
      refine ⟨h, fun q => ?_⟩
      have e : j = k := by omega
      rw [e, hk] at h
      cases h
    | some o =>
      cases o with
      | none =>
        simp only [hk] at h
        refine ⟨h, fun q => ?_⟩
        have e : j = k := by omega
        rw [e, hk] at h
        cases h
      | some v =>
        rcases v with x | y | r
        · simp only [hk] at h
          refine ⟨h, fun q => ?_⟩
          have e : j = k := by omega
          rw [e, hk] at h
          cases h
          exact absurd q.2 (by simp [ax_cat])
        · simp only [hk] at h
          rw [List.getElem?_set] at h
          by_cases e : k = j
          · rw [if_pos e] at h
            split at h <;> cases h
          · rw [if_neg e] at h
            exact ⟨h, fun q => by omega⟩
        · simp only [hk] at h
          refine ⟨h, fun q => ?_⟩
          have e : j = k := by omega
          rw [e, hk] at h
          cases h
          exact absurd q.2 (by simp [ax_cat])
theorem ax_clr_len (ls : ax_L) (k : Nat) : (ax_clr ls k).length = ls.length := by
  cases k with
  | zero => rfl
  | succ k =>
    unfold ax_clr
    dsimp only
    split
    · exact List.length_set
    · rfl
theorem ax_lh.st1 {arr : Array Slot} {nL : Nat} {ad : Nat → Nat} {ls ls' : ax_L} {k : Nat} {v : ax_v} (hs : ax_st1 ls k v = some ls') (hl : ls.length = nL) (h : lv_has arr nL ((k, ax_z ad v) :: (ax_lz ad ls).filter (fun q => !(q.1 == k) && !(q.1 + 1 == k && q.2.category == 2)))) : ax_lh arr nL ad ls' := by
  unfold ax_st1 at hs
  cases hb : Nat.blt k ls.length with
  | false => rw [hb] at hs; cases hs
  | true =>
    rw [hb] at hs
    cases hs
    refine ⟨⟨h.1, h.2.1, fun q hq => ?_⟩, by simp [ax_clr_len, hl]⟩
    obtain ⟨w, hw, e⟩ := ax_lz_of hq
    rw [e]
    rw [List.getElem?_set] at hw
    by_cases e1 : k = q.1
    · rw [if_pos e1] at hw
      split at hw
      · cases hw
        rw [← e1]
        exact h.2.2 (k, ax_z ad v) List.mem_cons_self
      · cases hw
    · rw [if_neg e1] at hw
      obtain ⟨h1, h2⟩ := ax_clr_get hw
      refine h.2.2 (q.1, ax_z ad w) (List.mem_cons_of_mem _ (List.mem_filter.mpr ⟨ax_lz_mem h1, ?_⟩))
      have e2 : ¬ q.1 = k := fun x => e1 x.symm
      simp only [ax_zcat, Bool.and_eq_true, Bool.not_eq_true', beq_eq_false_iff_ne, Bool.and_eq_false_iff]
      refine ⟨e2, ?_⟩
      by_cases e3 : q.1 + 1 = k
      · right; exact fun x => h2 ⟨e3, x⟩
      · left; exact e3
theorem ax_lh.st2 {arr : Array Slot} {nL : Nat} {ad : Nat → Nat} {ls ls' : ax_L} {k : Nat} {v : ax_v} (hs : ax_st2 ls k v = some ls') (hl : ls.length = nL) (h : lv_has arr nL ((k, ax_z ad v) :: (ax_lz ad ls).filter (fun q => !(q.1 == k) && (!(q.1 == k + 1) && !(q.1 + 1 == k && q.2.category == 2))))) : ax_lh arr nL ad ls' := by
  unfold ax_st2 at hs
  cases hb : Nat.blt (k + 1) ls.length with
  | false => rw [hb] at hs; cases hs
  | true =>
    rw [hb] at hs
    cases hs
    refine ⟨⟨h.1, h.2.1, fun q hq => ?_⟩, by simp [ax_clr_len, hl]⟩
    obtain ⟨w, hw, e⟩ := ax_lz_of hq
    rw [e]
    rw [List.getElem?_set] at hw
    by_cases e0 : k + 1 = q.1
    · rw [if_pos e0] at hw
      split at hw <;> cases hw
    · rw [if_neg e0, List.getElem?_set] at hw
      by_cases e1 : k = q.1
      · rw [if_pos e1] at hw
        split at hw
        · cases hw
          rw [← e1]
          exact h.2.2 (k, ax_z ad v) List.mem_cons_self
        · cases hw
      · rw [if_neg e1] at hw
        obtain ⟨h1, h2⟩ := ax_clr_get hw
        refine h.2.2 (q.1, ax_z ad w) (List.mem_cons_of_mem _ (List.mem_filter.mpr ⟨ax_lz_mem h1, ?_⟩))
        have e2 : ¬ q.1 = k := fun x => e1 x.symm
        have e4 : ¬ q.1 = k + 1 := fun x => e0 x.symm
        simp only [ax_zcat, Bool.and_eq_true, Bool.not_eq_true', beq_eq_false_iff_ne, Bool.and_eq_false_iff]
        refine ⟨e2, e4, ?_⟩
        by_cases e3 : q.1 + 1 = k
        · right; exact fun x => h2 ⟨e3, x⟩
        · left; exact e3
theorem ax_st1_lt {ls ls' : ax_L} {k : Nat} {v : ax_v} (hs : ax_st1 ls k v = some ls') : k < ls.length := by
  unfold ax_st1 at hs
  cases hb : Nat.blt k ls.length with
  | false => rw [hb] at hs; cases hs
  | true => exact Nat.blt_eq.mp hb
theorem ax_st2_lt {ls ls' : ax_L} {k : Nat} {v : ax_v} (hs : ax_st2 ls k v = some ls') : k + 1 < ls.length := by
  unfold ax_st2 at hs
  cases hb : Nat.blt (k + 1) ls.length with
  | false => rw [hb] at hs; cases hs
  | true => exact Nat.blt_eq.mp hb
/-! the entry -/
theorem ax_ent_mem {ad : Nat → Nat} : ∀ (as : List ax_v) (off i : Nat) (v : ax_v), (ax_ent as)[i]? = some (some v) → (off + i, ax_z ad v) ∈ lv_args off (as.map (ax_z ad)) := by
  intro as
  induction as with
  | nil => intro off i v h; simp [ax_ent] at h
  | cons a r ih =>
    intro off i v h
    rcases a with x | y | o
    · simp only [ax_ent] at h
      simp only [List.map_cons, lv_args]
      cases i with
      | zero => simp at h; subst h; exact List.mem_cons_self
      | succ i =>
        refine List.mem_cons_of_mem _ ?_
        rw [if_neg (by rw [ax_zcat]; simp [ax_cat])]
        have := ih (off + 1) i v (by simpa using h)
        rw [show off + (i + 1) = off + 1 + i by omega]
        exact this
    · simp only [ax_ent] at h
      simp only [List.map_cons, lv_args]
      match i, h with
      | 0, h => simp at h; subst h; exact List.mem_cons_self
      | 1, h => simp at h
      | i + 2, h =>
        refine List.mem_cons_of_mem _ ?_
        rw [if_pos (by rw [ax_zcat]; rfl)]
        have := ih (off + 2) i v (by simpa using h)
        rw [show off + (i + 2) = off + 2 + i by omega]
        exact this
    · simp only [ax_ent] at h
      simp only [List.map_cons, lv_args]
      cases i with
      | zero => simp at h; subst h; exact List.mem_cons_self
      | succ i =>
        refine List.mem_cons_of_mem _ ?_
        rw [if_neg (by rw [ax_zcat]; simp [ax_cat])]
        have := ih (off + 1) i v (by simpa using h)
        rw [show off + (i + 1) = off + 1 + i by omega]
        exact this
theorem ax_ent_len {ad : Nat → Nat} (as : List ax_v) : (lg_sl (as.map (ax_z ad))).length = (ax_ent as).length := by
  induction as with
  | nil => rfl
  | cons a r ih =>
    rcases a with x | y | o
    · simp only [lg_sl, ax_ent, List.map_cons, List.flatMap_cons, List.length_append, List.length_cons] at ih ⊢
      rw [ih]; simp [ax_z, Value.category]; omega
    · simp only [lg_sl, ax_ent, List.map_cons, List.flatMap_cons, List.length_append, List.length_cons] at ih ⊢
      rw [ih]; simp [ax_z, Value.category]; omega
    · cases o <;> (simp only [lg_sl, ax_ent, List.map_cons, List.flatMap_cons, List.length_append, List.length_cons] at ih ⊢; rw [ih]; simp [ax_z, va_rf, Value.category]; omega)
theorem ax_entry {ad : Nat → Nat} {as : List ax_v} {n : Nat} (h : (ax_ent as).length ≤ n) : ax_lh ((lg_sl (as.map (ax_z ad)) ++ List.replicate (n - (lg_sl (as.map (ax_z ad))).length) Slot.unset).toArray) n ad (ax_pad (ax_ent as) n) := by
  have h0 := lv_entry (as.map (ax_z ad)) (n := n) (by rw [ax_ent_len]; exact h)
  refine ⟨⟨h0.1, h0.2.1, fun q hq => ?_⟩, by simp [ax_pad]; omega⟩
  obtain ⟨v, hv, e⟩ := ax_lz_of hq
  unfold ax_pad at hv
  by_cases hl : q.1 < (ax_ent as).length
  · rw [List.getElem?_append_left hl] at hv
    have := ax_ent_mem (ad := ad) as 0 q.1 v hv
    rw [Nat.zero_add, ← e] at this
    exact h0.2.2 q this
  · rw [List.getElem?_append_right (by omega), List.getElem?_replicate] at hv
    split at hv <;> cases hv
