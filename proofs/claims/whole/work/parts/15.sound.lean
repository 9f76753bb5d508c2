/-! CALLS AND THE WHOLE RUN -/
def ax_rm (d mc ms : Nat) : Room := { frames := d + 8, cells := mc, slots := ms, locals := 64 * d + 512 }
def ax_Pc (D : va_G) (cy : Nat → ClassId) (sa sv ad : Nat → Nat) (as : List ax_v) (s : ax_S) (sz : Nat) : Array Value → State → Prop :=
  va_Pc (as.map (ax_z ad)) (fun U => U.heap.size = sz ∧ va_P D ax_cl (ax_wd cy s ad) U.heap ∧ va_K D ax_cl (ax_tys cy) U ∧ va_D (fun _ => True) (ax_wd cy s ad) ∧ ax_G cy sa sv (va_A (ax_wd cy s ad) sz) U U.heap)
def ax_B (D : va_G) (cy : Nat → ClassId) (ad : Nat → Nat) (s s' : ax_S) (sz : Nat) (ad' : Nat → Nat) (t : State) : Prop :=
  (∀ i, i < s.1 ∨ 1000000 ≤ i → ad' i = ad i) ∧ va_P D ax_cl (ax_wd cy s' ad') t.heap ∧ va_K D ax_cl (ax_tys cy) t ∧ va_D (va_A (ax_wd cy s ad) sz) (ax_wd cy s' ad')
def ax_Qc (D : va_G) (cy : Nat → ClassId) (ad : Nat → Nat) (s s' : ax_S) (sz : Nat) (v : Option ax_v) : Array Value → State → Outcome → State → Prop := match v with
  | none => va_Qv (fun _ : Nat → Nat => True) (ax_B D cy ad s s' sz) (va_A (ax_wd cy s ad) sz)
  | some (.inl x) => va_Qi (fun (r : Int32) (_ : Nat → Nat) => r = Int32.ofInt x) (ax_B D cy ad s s' sz) (va_A (ax_wd cy s ad) sz)
  | some (.inr (.inl x)) => va_Ql (fun (r : Int64) (_ : Nat → Nat) => r = Int64.ofInt x) (ax_B D cy ad s s' sz) (va_A (ax_wd cy s ad) sz)
  | _ => fun _ _ _ _ => False
/-- a call of depth d is what the machine does -/
def ax_SC (d : Nat) : Prop := ∀ (m : Nat) (as : List ax_v) (s : ax_S) (v : Option ax_v) (s' : ax_S), ax_C d m as s v s' → ∀ (l : Launch) (D : va_G) (cy : Nat → ClassId) (sa sv ad : Nat → Nat) (sz : Nat), ax_wf s → (∀ j, ad (1000000 + j) = sa j) →
  Met l (ax_yn m) (ax_cdw m :: ax_tb) (ax_rm d (s'.1 - s.1) (s'.2.1 - s.2.1)) (ax_Pc D cy sa sv ad as s sz) (ax_Qc D cy ad s s' sz v) (s'.1 - s.1) (s'.2.1 - s.2.1) (va_A (ax_wd cy s ad) sz)
set_option maxHeartbeats 4000000 in
theorem ax_i_ret {own rt : Nat} {ini : Bool} {pc : Nat} {i : Instr} {ls : ax_L} {st : List ax_v} {s : ax_S} {g : Prop} {v : Option ax_v} {s1 : ax_S} (h : ax_i own rt ini pc i ls st s = some (g, .inr (.inl (v, s1)))) : s1 = s := by
  cases i <;> simp only [ax_i, ax_go, ax_gg, ax_ldi, ax_ldl, ax_lda, ax_sti, ax_stl, ax_sta, ax_inc, ax_2, ax_2l, ax_d2, ax_d2l, ax_1, ax_al, ax_as, ax_asl, ax_len, ax_gf, ax_ptf, ax_acp, ax_sln, ax_sch, ax_inv, ax_new, ax_nwa, ax_nwm, cond] at h
  all_goals first
    | (cases h; done)
    | (repeat' split at h
       all_goals first
         | (cases h; done)
         | (cases h; rfl)
         | skip)
    | skip
set_option maxHeartbeats 4000000 in
theorem ax_i_call {own rt : Nat} {ini : Bool} {pc : Nat} {i : Instr} {ls : ax_L} {st : List ax_v} {s : ax_S} {g : Prop} {m : Nat} {as : List ax_v} {z : ax_Z} (h : ax_i own rt ini pc i ls st s = some (g, .inr (.inr (m, as, z)))) : z.2.2.2 = s := by
  cases i <;> simp only [ax_i, ax_go, ax_gg, ax_ldi, ax_ldl, ax_lda, ax_sti, ax_stl, ax_sta, ax_inc, ax_2, ax_2l, ax_d2, ax_d2l, ax_1, ax_al, ax_as, ax_asl, ax_len, ax_gf, ax_ptf, ax_acp, ax_sln, ax_sch, ax_inv, ax_new, ax_nwa, ax_nwm, cond] at h
  all_goals first
    | (cases h; done)
    | (repeat' split at h
       all_goals first
         | (cases h; done)
         | (cases h; rfl)
         | skip)
    | skip
theorem ax_ok_le {C : Nat → List ax_v → ax_S → Option ax_v → ax_S → Prop} (hC : ∀ m as s v s', C m as s v s' → ax_le s s') {M : ax_M} : ∀ (n : Nat) (z : ax_Z) (v : Option ax_v) (s' : ax_S), ax_ok C M n z v s' → ax_le z.2.2.2 s' := by
  intro n
  induction n with
  | zero => intro z v s' h; cases h
  | succ n ih =>
    intro z v s' h
    unfold ax_ok at h
    split at h
    · cases h
    · rename_i g z' hp
      unfold ax_p at hp
      split at hp
      · cases hp
      · exact (ax_i_le2 hp).tr (ih _ _ _ h.2)
    · rename_i g v1 s1 hp
      obtain ⟨-, -, rfl⟩ := h
      unfold ax_p at hp
      split at hp
      · cases hp
      · have e := ax_i_ret hp
        rw [← e]
        exact ax_le.rf _
    · rename_i g m as pc ls st s hp
      obtain ⟨-, v1, s1, h1, h2⟩ := h
      unfold ax_p at hp
      split at hp
      · cases hp
      · have e := ax_i_call hp
        rw [← e]
        exact (hC _ _ _ _ _ h1).tr (ih _ _ _ h2)
theorem ax_C_le : ∀ (d m : Nat) (as : List ax_v) (s : ax_S) (v : Option ax_v) (s' : ax_S), ax_C d m as s v s' → ax_le s s' := by
  intro d
  induction d with
  | zero => intro m as s v s' h; cases h
  | succ d ih =>
    intro m as s v s' h
    obtain ⟨M, -, -, n, h⟩ := h
    exact ax_ok_le ih n _ v s' h
theorem ax_blind (D : va_G) (cy : Nat → ClassId) (sa sv ad : Nat → Nat) (as : List ax_v) (s : ax_S) (sz : Nat) : FrameBlind (ax_Pc D cy sa sv ad as s sz) := by
  intro a U g mk q
  obtain ⟨q0, q1, qP, qK, qD, qG⟩ := q
  exact ⟨q0, q1, qP, va_K.moved (u := U) (U := U.calling g mk a) (Vm.Alike.refl U.vm) qK, qD, qG.same rfl rfl⟩
theorem ax_goodIn (m : Nat) (hm : m < 326) : GoodIn ax_tb (ax_cdw m :: ax_tb) := by
  intro w hw
  have h : w ∈ ax_tb := by
    rcases List.mem_cons.mp hw with rfl | h
    · exact ax_cdm hm
    · exact h
  exact ⟨h, good_of_word (List.mem_filter.mp h).2⟩
