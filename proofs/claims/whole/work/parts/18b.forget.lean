/-! locals that are not read any more may be forgotten -/
def zb_rl (ls : ax_L) (r : ax_r) : ax_r := match r with
  | .inl (pc, _, st, s) => .inl (pc, ls, st, s)
  | .inr (.inl a) => .inr (.inl a)
  | .inr (.inr (m, as, pc, _, st, s)) => .inr (.inr (m, as, pc, ls, st, s))
def zb_mp (ls : ax_L) (q : Option (Prop × ax_r)) : Option (Prop × ax_r) := match q with
  | some (g, r) => some (g, zb_rl ls r)
  | none => none
/-- the instruction does not look at the locals -/
def zb_nl (i : Instr) : Bool := match i with
  | .iload _ => false
  | .iload_n _ => false
  | .lload _ => false
  | .lload_n _ => false
  | .aload _ => false
  | .aload_n _ => false
  | .istore _ => false
  | .istore_n _ => false
  | .lstore _ => false
  | .lstore_n _ => false
  | .astore _ => false
  | .astore_n _ => false
  | .iinc _ _ => false
  | i => ax_mk1 i
theorem zb_cnd (ls : ax_L) (b : Bool) (x y : Option (Prop × ax_r)) : zb_mp ls (cond b x y) = cond b (zb_mp ls x) (zb_mp ls y) := by cases b <;> rfl
set_option maxHeartbeats 4000000 in
theorem zb_inv_rl {own kd k pc : Nat} {ls ls' : ax_L} {st : List ax_v} {s : ax_S} (hk : kd ≠ 1) : ax_inv own kd k pc ls' st s = zb_mp ls' (ax_inv own kd k pc ls st s) := by
  have hiv : ∀ n l t, ax_iv kd n l t = true := by
    intro n l t
    unfold ax_iv
    split
    · exact absurd rfl hk
    · rfl
  unfold ax_inv
  split
  · rfl
  · split
    · split
      · rw [zb_cnd]; rfl
      · rfl
    · rw [zb_cnd]
      refine congrArg (fun z => cond _ z none) ?_
      unfold ax_acp
      split
      · rw [zb_cnd]; rfl
      · rfl
    · rw [zb_cnd]
      refine congrArg (fun z => cond _ z none) ?_
      unfold ax_sln
      split
      · rw [zb_cnd]; rfl
      · rfl
    · rw [zb_cnd]
      refine congrArg (fun z => cond _ z none) ?_
      unfold ax_sch
      split
      · rw [zb_cnd]; rfl
      · rfl
    · split
      · rfl
      · rw [hiv, hiv, zb_cnd]
        refine congrArg (fun z => cond _ z none) ?_
        split
        · rw [zb_cnd]; rfl
        · rw [zb_cnd]
          refine congrArg (fun z => cond _ none z) ?_
          split
          · rw [zb_cnd]; rfl
          · rfl
set_option maxHeartbeats 4000000 in
theorem zb_i_rl {own rt : Nat} {ini : Bool} {pc : Nat} {i : Instr} {ls ls' : ax_L} {st : List ax_v} {s : ax_S} (hi : zb_nl i = true) : ax_i own rt ini pc i ls' st s = zb_mp ls' (ax_i own rt ini pc i ls st s) := by
  cases i
  all_goals first
    | (cases hi; done)
    | rfl
    | exact zb_inv_rl (by decide)
    | (simp only [ax_i, ax_2, ax_2l, ax_d2, ax_d2l, ax_1, ax_al, ax_as, ax_asl, ax_len, ax_gf]; split <;> first | rfl | (rw [zb_cnd]; rfl) | (split <;> first | rfl | (rw [zb_cnd]; rfl)))
    | (simp only [ax_i, ax_ptf]
       split
       · split
         · rw [zb_cnd]
           refine congrArg (fun z => cond _ z none) ?_
           split <;> rfl
         · rfl
       · rfl)
    | skip
def zb_le (a b : ax_L) : Prop := a.length = b.length ∧ ∀ (i : Nat) (v : ax_v), a[i]? = some (some v) → b[i]? = some (some v)
theorem zb_clr_keep {ls : ax_L} {k j : Nat} {w : ax_v} (h : ls[j]? = some (some w)) (hn : ¬ (j + 1 = k ∧ ax_cat w = 2)) : (ax_clr ls k)[j]? = some (some w) := by
  cases k with
  | zero => exact h
  | succ k =>
    unfold ax_clr
    dsimp only
    split
    · rename_i y hy
      rw [List.getElem?_set]
      by_cases e : k = j
      · subst e
        rw [h] at hy
        cases hy
        exact absurd ⟨rfl, rfl⟩ hn
      · rw [if_neg e]; exact h
    · exact h
theorem zb_le_st1 {a b a' : ax_L} {k : Nat} {v : ax_v} (hle : zb_le a b) (h : ax_st1 a k v = some a') : ∃ b', ax_st1 b k v = some b' ∧ zb_le a' b' := by
  have hk := ax_st1_lt h
  unfold ax_st1 at h ⊢
  rw [Nat.blt_eq.mpr hk] at h
  rw [Nat.blt_eq.mpr (by rw [← hle.1]; exact hk)]
  cases h
  refine ⟨_, rfl, by simp [ax_clr_len, hle.1], fun i w hw => ?_⟩
  rw [List.getElem?_set] at hw ⊢
  by_cases e : k = i
  · rw [if_pos e] at hw ⊢
    rw [ax_clr_len] at hw ⊢
    rw [if_pos (by rw [← hle.1]; exact hk)]
    rw [if_pos hk] at hw
    exact hw
  · rw [if_neg e] at hw ⊢
    obtain ⟨h1, h2⟩ := ax_clr_get hw
    exact zb_clr_keep (hle.2 i w h1) h2
theorem zb_le_st2 {a b a' : ax_L} {k : Nat} {v : ax_v} (hle : zb_le a b) (h : ax_st2 a k v = some a') : ∃ b', ax_st2 b k v = some b' ∧ zb_le a' b' := by
  have hk := ax_st2_lt h
  unfold ax_st2 at h ⊢
  rw [Nat.blt_eq.mpr hk] at h
  rw [Nat.blt_eq.mpr (by rw [← hle.1]; exact hk)]
  cases h
  refine ⟨_, rfl, by simp [ax_clr_len, hle.1], fun i w hw => ?_⟩
  rw [List.getElem?_set] at hw ⊢
  by_cases e0 : k + 1 = i
  · rw [if_pos e0] at hw
    split at hw <;> cases hw
  · rw [if_neg e0, List.getElem?_set] at hw ⊢
    by_cases e : k = i
    · rw [if_pos e] at hw ⊢
      rw [ax_clr_len] at hw ⊢
      rw [if_pos (by rw [← hle.1]; omega)]
      rw [if_pos (by omega)] at hw
      exact hw
    · rw [if_neg e] at hw ⊢
      obtain ⟨h1, h2⟩ := ax_clr_get hw
      exact zb_clr_keep (hle.2 i w h1) h2
theorem zb_mono {own rt : Nat} {ini : Bool} {pc : Nat} {i : Instr} {ls ls' : ax_L} {st : List ax_v} {s : ax_S} {g : Prop} {r : ax_r} (hk : ax_mk1 i = true) (hle : zb_le ls ls') (h : ax_i own rt ini pc i ls st s = some (g, r)) : ∃ l l', zb_le l l' ∧ r = zb_rl l r ∧ ax_i own rt ini pc i ls' st s = some (g, zb_rl l' r) := by
  by_cases hn : zb_nl i = true
  · have e0 := zb_i_rl (own := own) (rt := rt) (ini := ini) (pc := pc) (ls := ls) (ls' := ls) (st := st) (s := s) hn
    have e1 := zb_i_rl (own := own) (rt := rt) (ini := ini) (pc := pc) (ls := ls) (ls' := ls') (st := st) (s := s) hn
    rw [h] at e0 e1
    have e2 : some (g, r) = some (g, zb_rl ls r) := e0
    exact ⟨ls, ls', hle, (Prod.mk.inj (Option.some.inj e2)).2, e1⟩
  · cases i
    all_goals first
      | (cases hk; done)
      | (exact absurd hk (by decide))
      | (exact absurd rfl hn)
      | (simp only [ax_i, ax_ldi] at h ⊢
         split at h
         · rename_i hq; cases h; rw [hle.2 _ _ hq]; exact ⟨ls, ls', hle, rfl, rfl⟩
         · cases h)
      | (simp only [ax_i, ax_ldl] at h ⊢
         split at h
         · rename_i hq; cases h; rw [hle.2 _ _ hq]; exact ⟨ls, ls', hle, rfl, rfl⟩
         · cases h)
      | (simp only [ax_i, ax_lda] at h ⊢
         split at h
         · rename_i hq; cases h; rw [hle.2 _ _ hq]; exact ⟨ls, ls', hle, rfl, rfl⟩
         · cases h)
      | (simp only [ax_i, ax_sti] at h ⊢
         split at h
         · split at h
           · rename_i hq; obtain ⟨b', hb, hl⟩ := zb_le_st1 hle hq; cases h; rw [hb]; exact ⟨_, b', hl, rfl, rfl⟩
           · cases h
         · cases h)
      | (simp only [ax_i, ax_stl] at h ⊢
         split at h
         · split at h
           · rename_i hq; obtain ⟨b', hb, hl⟩ := zb_le_st2 hle hq; cases h; rw [hb]; exact ⟨_, b', hl, rfl, rfl⟩
           · cases h
         · cases h)
      | (simp only [ax_i, ax_sta] at h ⊢
         split at h
         · split at h
           · rename_i hq; obtain ⟨b', hb, hl⟩ := zb_le_st1 hle hq; cases h; rw [hb]; exact ⟨_, b', hl, rfl, rfl⟩
           · cases h
         · cases h)
      | (simp only [ax_i, ax_inc] at h ⊢
         split at h
         · rename_i hq0
           split at h
           · rename_i hq; obtain ⟨b', hb, hl⟩ := zb_le_st1 hle hq; cases h; rw [hle.2 _ _ hq0]; dsimp only; rw [hb]; exact ⟨_, b', hl, rfl, rfl⟩
           · cases h
         · cases h)
theorem zb_ok_mono {C : Nat → List ax_v → ax_S → Option ax_v → ax_S → Prop} {M : ax_M} (hall : M.2.2.2.2.2.2.all (fun q => ax_mk1 q.2) = true) : ∀ (n pc : Nat) (ls ls' : ax_L) (st : List ax_v) (s : ax_S) (v : Option ax_v) (s' : ax_S), zb_le ls ls' → ax_ok C M n (pc, ls, st, s) v s' → ax_ok C M n (pc, ls', st, s) v s' := by
  intro n
  induction n with
  | zero => intro pc ls ls' st s v s' _ h; cases h
  | succ n ih =>
    intro pc ls ls' st s v s' hle h
    unfold ax_ok at h ⊢
    unfold ax_p at h ⊢
    dsimp only at h ⊢
    cases hl : M.2.2.2.2.2.2.lookup pc with
    | none => rw [hl] at h; cases h
    | some i =>
      rw [hl] at h
      dsimp only at h ⊢
      have hk : ax_mk1 i = true := List.all_eq_true.mp hall _ (ax_lk hl)
      cases hr : ax_i M.1 M.2.2.2.1 M.2.2.2.2.1 pc i ls st s with
      | none => rw [hr] at h; cases h
      | some gr =>
        obtain ⟨g, r⟩ := gr
        rw [hr] at h
        obtain ⟨l, l', hll, e1, e2⟩ := zb_mono hk hle hr
        rw [e2]
        rcases r with ⟨p1, l1, t1, s1⟩ | a | ⟨m, as, p1, l1, t1, s1⟩
        · have e3 : l1 = l := by simp only [zb_rl, Sum.inl.injEq, Prod.mk.injEq] at e1; exact e1.2.1
          subst e3
          exact ⟨h.1, ih _ _ _ _ _ _ _ hll h.2⟩
        · exact h
        · have e3 : l1 = l := by simp only [zb_rl, Sum.inr.injEq, Prod.mk.injEq] at e1; exact e1.2.2.2.1
          subst e3
          obtain ⟨hg, v1, s2, hC, hok⟩ := h
          exact ⟨hg, v1, s2, hC, ih _ _ _ _ _ _ _ hll hok⟩
/-- where the mask says false a local is forgotten -/
def zb_msk (mk : List Bool) (ls : ax_L) : ax_L := match mk, ls with
  | true :: mk, x :: ls => x :: zb_msk mk ls
  | false :: mk, _ :: ls => none :: zb_msk mk ls
  | _, ls => ls
theorem zb_msk_le : ∀ (mk : List Bool) (ls : ax_L), zb_le (zb_msk mk ls) ls := by
  intro mk
  induction mk with
  | nil => intro ls; exact ⟨rfl, fun _ _ h => h⟩
  | cons b mk ih =>
    intro ls
    cases ls with
    | nil => cases b <;> exact ⟨rfl, fun _ _ h => h⟩
    | cons x ls =>
      have h0 := ih ls
      cases b
      · refine ⟨by simp [zb_msk, h0.1], fun i v h => ?_⟩
        cases i with
        | zero => simp [zb_msk] at h
        | succ i => simpa using h0.2 i v (by simpa [zb_msk] using h)
      · refine ⟨by simp [zb_msk, h0.1], fun i v h => ?_⟩
        cases i with
        | zero => simpa [zb_msk] using h
        | succ i => simpa using h0.2 i v (by simpa [zb_msk] using h)
theorem zb_fg {d : Nat} {M : ax_M} {pc : Nat} {ls : ax_L} {st : List ax_v} {s : ax_S} {Q : Option ax_v → ax_S → Prop} (hall : M.2.2.2.2.2.2.all (fun q => ax_mk1 q.2) = true) (mk : List Bool) (h : zb_W d M (pc, zb_msk mk ls, st, s) Q) : zb_W d M (pc, ls, st, s) Q := by
  obtain ⟨v, s', ⟨n, hn⟩, hQ⟩ := h
  exact ⟨v, s', ⟨n, zb_ok_mono hall n pc _ ls st s v s' (zb_msk_le mk ls) hn⟩, hQ⟩
