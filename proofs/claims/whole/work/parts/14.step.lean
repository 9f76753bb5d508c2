/-! ONE STEP, all instructions together -/
section AXT
variable {p : Program} {l : Launch} {e : Env} {R : Room} {s0 : State} {mm : MethodId} {args : Array Value} {below : List Frame} {meth : Method} {c : Code} {Q : State → Prop} {D : va_G} {cy : Nat → ClassId} {A : Nat → Prop} {sa sv : Nat → Nat} {nE sE mi : Nat} {M : ax_M} {ad : Nat → Nat}
theorem ax_cnd {b : Bool} {α : Type} {x : Option α} {y : α} (h : cond b x none = some y) : b = true ∧ x = some y := by
  cases b with
  | false => cases h
  | true => exact ⟨rfl, h⟩
set_option maxHeartbeats 8000000 in
theorem ax_step {z z' : ax_Z} {g : Prop} (X : ax_cx p R s0 mm args meth c D cy A sa sv mi M) (hsa : ∀ j, ad (1000000 + j) = sa j) (hp : ax_p M z = some (g, .inl z')) (hg : g) (hw : ax_wf z.2.2.2) (hE : nE ≤ z.2.2.2.1) (hE2 : sE ≤ z.2.2.2.2.1) (hRc : z'.2.2.2.1 - nE ≤ R.cells) (hRs : z'.2.2.2.2.1 - sE ≤ R.slots)
    (k : ∀ ad', (∀ j, j < z.2.2.2.1 ∨ 1000000 ≤ j → ad' j = ad j) → ax_W p l e R s0 mm args below meth c Q D cy A nE sE ad' z') : ax_W p l e R s0 mm args below meth c Q D cy A nE sE ad z := by
  obtain ⟨pc, ls, st, s⟩ := z
  unfold ax_p at hp
  dsimp only at hp hw hE hE2 k
  have hM : ax_T[mi]? = some M := X.2.2.2.2.2.2.2.1
  cases hi : M.2.2.2.2.2.2.lookup pc with
  | none => rw [hi] at hp; cases hp
  | some i =>
    rw [hi] at hp
    dsimp only at hp
    obtain ⟨n, hd, hn, ho⟩ := ax_code_at hM hi
    have k0 := k ad (fun _ _ => rfl)
    cases i with
    | iconst x => cases hn rfl; cases hp; exact ax_s_iconst X hd k0
    | bipush x => cases hn rfl; cases hp; exact ax_s_bipush X (of_decide_eq_true ho) hd k0
    | sipush x => cases hn rfl; cases hp; exact ax_s_sipush X (of_decide_eq_true ho) hd k0
    | lconst x => cases hn rfl; cases hp; exact ax_s_lconst X hd k0
    | ldc x =>
      cases hn rfl
      simp only [ax_i] at hp
      split at hp
      · rename_i h; cases hp; exact ax_s_ldc X h hd k0
      · rename_i h; cases hp; exact ax_s_ldcs X h hsa hd k0
      · cases hp
    | ldc_w x =>
      cases hn rfl
      simp only [ax_i] at hp
      split at hp
      · rename_i h; cases hp; exact ax_s_ldcw X h hd k0
      · cases hp
    | ldc2_w x =>
      cases hn rfl
      simp only [ax_i] at hp
      split at hp
      · rename_i h; cases hp; exact ax_s_ldc2 X h hd k0
      · cases hp
    | iload x => cases hn rfl; simp only [ax_i, ax_ldi] at hp; split at hp; (· rename_i h; cases hp; exact ax_s_iload X h hd k0); (· cases hp)
    | iload_n x => cases hn rfl; simp only [ax_i, ax_ldi] at hp; split at hp; (· rename_i h; cases hp; exact ax_s_iload_n X h hd k0); (· cases hp)
    | lload x => cases hn rfl; simp only [ax_i, ax_ldl] at hp; split at hp; (· rename_i h; cases hp; exact ax_s_lload X h hd k0); (· cases hp)
    | lload_n x => cases hn rfl; simp only [ax_i, ax_ldl] at hp; split at hp; (· rename_i h; cases hp; exact ax_s_lload_n X h hd k0); (· cases hp)
    | aload x => cases hn rfl; simp only [ax_i, ax_lda] at hp; split at hp; (· rename_i h; cases hp; exact ax_s_aload X h hd k0); (· cases hp)
    | aload_n x => cases hn rfl; simp only [ax_i, ax_lda] at hp; split at hp; (· rename_i h; cases hp; exact ax_s_aload_n X h hd k0); (· cases hp)
    | istore x => cases hn rfl; simp only [ax_i, ax_sti] at hp; split at hp; (· split at hp; (· rename_i h; cases hp; exact ax_s_istore X h hd k0); (· cases hp)); (· cases hp)
    | istore_n x => cases hn rfl; simp only [ax_i, ax_sti] at hp; split at hp; (· split at hp; (· rename_i h; cases hp; exact ax_s_istore_n X h hd k0); (· cases hp)); (· cases hp)
    | lstore x => cases hn rfl; simp only [ax_i, ax_stl] at hp; split at hp; (· split at hp; (· rename_i h; cases hp; exact ax_s_lstore X h hd k0); (· cases hp)); (· cases hp)
    | lstore_n x => cases hn rfl; simp only [ax_i, ax_stl] at hp; split at hp; (· split at hp; (· rename_i h; cases hp; exact ax_s_lstore_n X h hd k0); (· cases hp)); (· cases hp)
    | astore x => cases hn rfl; simp only [ax_i, ax_sta] at hp; split at hp; (· split at hp; (· rename_i h; cases hp; exact ax_s_astore X h hd k0); (· cases hp)); (· cases hp)
    | astore_n x => cases hn rfl; simp only [ax_i, ax_sta] at hp; split at hp; (· split at hp; (· rename_i h; cases hp; exact ax_s_astore_n X h hd k0); (· cases hp)); (· cases hp)
    | iinc x y =>
      cases hn rfl
      simp only [ax_i, ax_inc] at hp
      split at hp
      · rename_i h0
        split at hp
        · rename_i h; cases hp; exact ax_s_iinc X h0 h hd k0
        · cases hp
      · cases hp
    | iadd => cases hn rfl; simp only [ax_i, ax_2] at hp; split at hp; (· cases hp; exact ax_s_iadd X hd k0); (· cases hp)
    | isub => cases hn rfl; simp only [ax_i, ax_2] at hp; split at hp; (· cases hp; exact ax_s_isub X hd k0); (· cases hp)
    | imul => cases hn rfl; simp only [ax_i, ax_2] at hp; split at hp; (· cases hp; exact ax_s_imul X hd k0); (· cases hp)
    | iand => cases hn rfl; simp only [ax_i, ax_2] at hp; split at hp; (· cases hp; exact ax_s_iand X hd k0); (· cases hp)
    | ior => cases hn rfl; simp only [ax_i, ax_2] at hp; split at hp; (· cases hp; exact ax_s_ior X hd k0); (· cases hp)
    | ixor => cases hn rfl; simp only [ax_i, ax_2] at hp; split at hp; (· cases hp; exact ax_s_ixor X hd k0); (· cases hp)
    | ishl => cases hn rfl; simp only [ax_i, ax_2] at hp; split at hp; (· cases hp; exact ax_s_ishl X hd k0); (· cases hp)
    | ishr => cases hn rfl; simp only [ax_i, ax_2] at hp; split at hp; (· cases hp; exact ax_s_ishr X hd k0); (· cases hp)
    | iushr => cases hn rfl; simp only [ax_i, ax_2] at hp; split at hp; (· cases hp; exact ax_s_iushr X hd k0); (· cases hp)
    | idiv => cases hn rfl; simp only [ax_i, ax_d2] at hp; split at hp; (· cases hp; exact ax_s_idiv X hg hd k0); (· cases hp)
    | irem => cases hn rfl; simp only [ax_i, ax_d2] at hp; split at hp; (· cases hp; exact ax_s_irem X hg hd k0); (· cases hp)
    | ladd => cases hn rfl; simp only [ax_i, ax_2l] at hp; split at hp; (· cases hp; exact ax_s_ladd X hd k0); (· cases hp)
    | lsub => cases hn rfl; simp only [ax_i, ax_2l] at hp; split at hp; (· cases hp; exact ax_s_lsub X hd k0); (· cases hp)
    | lmul => cases hn rfl; simp only [ax_i, ax_2l] at hp; split at hp; (· cases hp; exact ax_s_lmul X hd k0); (· cases hp)
    | land => cases hn rfl; simp only [ax_i, ax_2l] at hp; split at hp; (· cases hp; exact ax_s_land X hd k0); (· cases hp)
    | ldiv => cases hn rfl; simp only [ax_i, ax_d2l] at hp; split at hp; (· cases hp; exact ax_s_ldiv X hg hd k0); (· cases hp)
    | lrem => cases hn rfl; simp only [ax_i, ax_d2l] at hp; split at hp; (· cases hp; exact ax_s_lrem X hg hd k0); (· cases hp)
    | lcmp => cases hn rfl; simp only [ax_i] at hp; split at hp; (· cases hp; exact ax_s_lcmp X hd k0); (· cases hp)
    | i2l => cases hn rfl; simp only [ax_i] at hp; split at hp; (· cases hp; exact ax_s_i2l X hd k0); (· cases hp)
    | l2i => cases hn rfl; simp only [ax_i] at hp; split at hp; (· cases hp; exact ax_s_l2i X hd k0); (· cases hp)
    | i2b => cases hn rfl; simp only [ax_i, ax_1] at hp; split at hp; (· cases hp; exact ax_s_i2b X hd k0); (· cases hp)
    | i2c => cases hn rfl; simp only [ax_i, ax_1] at hp; split at hp; (· cases hp; exact ax_s_i2c X hd k0); (· cases hp)
    | dup => cases hn rfl; simp only [ax_i] at hp; split at hp; (· obtain ⟨h, hp⟩ := ax_cnd hp; cases hp; exact ax_s_dup X (Nat.beq_eq.mp h) hd k0); (· cases hp)
    | pop => cases hn rfl; simp only [ax_i] at hp; split at hp; (· obtain ⟨h, hp⟩ := ax_cnd hp; cases hp; exact ax_s_pop X (Nat.beq_eq.mp h) hd k0); (· cases hp)
    | dup2 => cases hn rfl; simp only [ax_i] at hp; split at hp; (· obtain ⟨h, hp⟩ := ax_cnd hp; cases hp; rw [Bool.and_eq_true] at h; exact ax_s_dup2 X (Nat.beq_eq.mp h.1) (Nat.beq_eq.mp h.2) hd k0); (· cases hp)
    | goto x => cases hn rfl; cases hp; exact ax_s_goto X (of_decide_eq_true ho) hd k0
    | ifCond q x =>
      cases hn rfl
      simp only [ax_i] at hp
      split at hp
      · cases hp
        have ht := of_decide_eq_true ho
        cases q with
        | eq => exact ax_s_if_eq X ht hd k0
        | ne => exact ax_s_if_ne X ht hd k0
        | lt => exact ax_s_if_lt X ht hd k0
        | ge => exact ax_s_if_ge X ht hd k0
        | gt => exact ax_s_if_gt X ht hd k0
        | le => exact ax_s_if_le X ht hd k0
      · cases hp
    | if_icmp q x =>
      cases hn rfl
      simp only [ax_i] at hp
      split at hp
      · cases hp
        have ht := of_decide_eq_true ho
        cases q with
        | eq => exact ax_s_icmp_eq X ht hd k0
        | ne => exact ax_s_icmp_ne X ht hd k0
        | lt => exact ax_s_icmp_lt X ht hd k0
        | ge => exact ax_s_icmp_ge X ht hd k0
        | gt => exact ax_s_icmp_gt X ht hd k0
        | le => exact ax_s_icmp_le X ht hd k0
      · cases hp
    | tableswitch a b f h => simp only [ax_i] at hp; split at hp; (· cases hp; exact ax_s_tsw X hd ho k0); (· cases hp)
    | lookupswitch a b => simp only [ax_i] at hp; split at hp; (· cases hp; exact ax_s_lsw X hd ho k0); (· cases hp)
    | iaload => cases hn rfl; simp only [ax_i, ax_al] at hp; split at hp; (· obtain ⟨h, hp⟩ := ax_cnd hp; cases hp; rw [Bool.and_eq_true] at h; exact ax_s_iaload X (Nat.blt_eq.mp h.1) (Nat.beq_eq.mp h.2) hg hd k0); (· cases hp)
    | caload => cases hn rfl; simp only [ax_i, ax_al] at hp; split at hp; (· obtain ⟨h, hp⟩ := ax_cnd hp; cases hp; rw [Bool.and_eq_true] at h; exact ax_s_caload X (Nat.blt_eq.mp h.1) (Nat.beq_eq.mp h.2) hg hd k0); (· cases hp)
    | baload => cases hn rfl; simp only [ax_i, ax_al] at hp; split at hp; (· obtain ⟨h, hp⟩ := ax_cnd hp; cases hp; rw [Bool.and_eq_true] at h; exact ax_s_baload X (Nat.blt_eq.mp h.1) (Nat.beq_eq.mp h.2) hg hd k0); (· cases hp)
    | laload => cases hn rfl; simp only [ax_i, ax_al] at hp; split at hp; (· obtain ⟨h, hp⟩ := ax_cnd hp; cases hp; rw [Bool.and_eq_true] at h; exact ax_s_laload X (Nat.blt_eq.mp h.1) (Nat.beq_eq.mp h.2) hg hd k0); (· cases hp)
    | aaload => cases hn rfl; simp only [ax_i, ax_al] at hp; split at hp; (· obtain ⟨h, hp⟩ := ax_cnd hp; cases hp; rw [Bool.and_eq_true] at h; exact ax_s_aaload X (Nat.blt_eq.mp h.1) (Nat.beq_eq.mp h.2) hg hd k0); (· cases hp)
    | iastore => cases hn rfl; simp only [ax_i, ax_as] at hp; split at hp; (· obtain ⟨h, hp⟩ := ax_cnd hp; cases hp; rw [Bool.and_eq_true] at h; exact ax_s_iastore X (Nat.blt_eq.mp h.1) (Nat.beq_eq.mp h.2) hg hd k0); (· cases hp)
    | castore => cases hn rfl; simp only [ax_i, ax_as] at hp; split at hp; (· obtain ⟨h, hp⟩ := ax_cnd hp; cases hp; rw [Bool.and_eq_true] at h; exact ax_s_castore X (Nat.blt_eq.mp h.1) (Nat.beq_eq.mp h.2) hg hd k0); (· cases hp)
    | bastore => cases hn rfl; simp only [ax_i, ax_as] at hp; split at hp; (· obtain ⟨h, hp⟩ := ax_cnd hp; cases hp; rw [Bool.and_eq_true] at h; exact ax_s_bastore X (Nat.blt_eq.mp h.1) (Nat.beq_eq.mp h.2) hg hd k0); (· cases hp)
    | lastore => cases hn rfl; simp only [ax_i, ax_asl] at hp; split at hp; (· obtain ⟨h, hp⟩ := ax_cnd hp; cases hp; rw [Bool.and_eq_true] at h; exact ax_s_lastore X (Nat.blt_eq.mp h.1) (Nat.beq_eq.mp h.2) hg hd k0); (· cases hp)
    | arraylength => cases hn rfl; simp only [ax_i, ax_len] at hp; split at hp; (· obtain ⟨h, hp⟩ := ax_cnd hp; cases hp; rw [Bool.and_eq_true, Bool.and_eq_true] at h; exact ax_s_alen X (Nat.blt_eq.mp h.1.1) ⟨Nat.ble_eq.mp h.1.2, Nat.ble_eq.mp h.2⟩ hd k0); (· cases hp)
    | getfield x =>
      cases hn rfl
      simp only [ax_i, ax_gf] at hp
      split at hp
      · split at hp
        · rename_i hf
          obtain ⟨h, hp⟩ := ax_cnd hp
          cases hp
          rw [Bool.and_eq_true] at h
          exact ax_s_gf X hf (Nat.blt_eq.mp h.1) (Nat.beq_eq.mp h.2) hd k0
        · cases hp
      · cases hp
    | putfield x =>
      cases hn rfl
      simp only [ax_i, ax_ptf] at hp
      split at hp
      · split at hp
        · rename_i ci f t fin nest hf
          obtain ⟨h, hp⟩ := ax_cnd hp
          split at hp
          · rename_i hpf
            cases hp
            simp only [Bool.and_eq_true, Bool.or_eq_true, Bool.not_eq_true', Nat.blt_eq, Nat.beq_eq] at h
            refine ax_s_pf X hf h.1.1 h.1.2 (fun hfin => ?_) hpf hg hd k0
            rcases h.2 with q | q
            · rw [hfin] at q; cases q
            · exact ⟨q.1, q.2.1, q.2.2⟩
          · cases hp
        · cases hp
      · cases hp
    | invokevirtual x =>
      cases hn rfl
      simp only [ax_i, ax_inv] at hp
      split at hp
      · cases hp
      · rename_i m nest hm
        split at hp
        · split at hp
          · obtain ⟨h, hp⟩ := ax_cnd hp
            rw [Bool.and_eq_true] at h
            cases h.1
          · cases hp
        · obtain ⟨h, hp⟩ := ax_cnd hp
          cases h
        · obtain ⟨h, hp⟩ := ax_cnd hp
          simp only [ax_sln] at hp
          split at hp
          · obtain ⟨h, hp⟩ := ax_cnd hp
            cases hp
            simp only [Bool.and_eq_true, Nat.blt_eq, Nat.ble_eq] at h
            exact ax_s_sln X hsa hm h.1 h.2 hRc hRs hd k0
          · cases hp
        · obtain ⟨h, hp⟩ := ax_cnd hp
          simp only [ax_sch] at hp
          split at hp
          · obtain ⟨h, hp⟩ := ax_cnd hp
            cases hp
            simp only [Bool.and_eq_true, Nat.blt_eq, Nat.ble_eq] at h
            exact ax_s_sch X hsa hm h.1 h.2 hg hRc hRs hd k0
          · cases hp
        · split at hp
          · cases hp
          · rename_i Mc hMc
            obtain ⟨h, hp⟩ := ax_cnd hp
            cases hst : Mc.2.2.2.2.2.1 with
            | true => rw [hst] at hp; cases hp
            | false =>
              rw [hst] at hp
              dsimp only [cond] at hp
              split at hp
              · split at hp <;> cases hp
              · cases hp
    | invokespecial x =>
      cases hn rfl
      simp only [ax_i, ax_inv] at hp
      split at hp
      · cases hp
      · rename_i m nest hm
        split at hp
        · split at hp
          · obtain ⟨h, hp⟩ := ax_cnd hp
            cases hp
            rw [Bool.and_eq_true] at h
            exact ax_s_obj X hm (ax_own9 hm (by decide)) (Nat.ble_eq.mp h.2) hd k0
          · cases hp
        · obtain ⟨h, hp⟩ := ax_cnd hp
          cases h
        · obtain ⟨h, hp⟩ := ax_cnd hp
          cases h
        · obtain ⟨h, hp⟩ := ax_cnd hp
          cases h
        · split at hp
          · cases hp
          · rename_i Mc hMc
            obtain ⟨h, hp⟩ := ax_cnd hp
            cases hst : Mc.2.2.2.2.2.1 with
            | true => rw [hst] at hp; cases hp
            | false =>
              rw [hst] at hp
              dsimp only [cond] at hp
              split at hp
              · split at hp <;> cases hp
              · cases hp
    | invokestatic x =>
      cases hn rfl
      simp only [ax_i, ax_inv] at hp
      split at hp
      · cases hp
      · rename_i m nest hm
        split at hp
        · split at hp
          · obtain ⟨h, hp⟩ := ax_cnd hp
            rw [Bool.and_eq_true] at h
            cases h.1
          · cases hp
        · obtain ⟨h, hp⟩ := ax_cnd hp
          simp only [ax_acp] at hp
          split at hp
          · obtain ⟨h, hp⟩ := ax_cnd hp
            cases hp
            simp only [Bool.and_eq_true, Nat.blt_eq, Nat.ble_eq, Nat.beq_eq] at h
            exact ax_s_cpy X hm (ax_own9 hm (by decide)) h.1.1.1.1 h.1.1.1.2 h.1.1.2 h.1.2 h.2 hg hd k0
          · cases hp
        · obtain ⟨h, hp⟩ := ax_cnd hp
          cases h
        · obtain ⟨h, hp⟩ := ax_cnd hp
          cases h
        · split at hp
          · cases hp
          · rename_i Mc hMc
            obtain ⟨h, hp⟩ := ax_cnd hp
            cases hst : Mc.2.2.2.2.2.1 with
            | true => rw [hst] at hp; cases hp
            | false => rw [hst] at hp; cases hp
    | new x =>
      cases hn rfl
      simp only [ax_i, ax_new] at hp
      split at hp
      · rename_i ci hr
        obtain ⟨h, hp⟩ := ax_cnd hp
        cases hp
        simp only [Bool.and_eq_true, Nat.blt_eq] at h
        exact ax_s_new X hr h.1.1.1 h.1.1.2 h.1.2 h.2 hw hE hE2 hRc hRs hd k
      · cases hp
    | newarray x =>
      cases hn rfl
      simp only [ax_i, ax_nwa] at hp
      split at hp
      · obtain ⟨h, hp⟩ := ax_cnd hp
        cases hp
        simp only [Bool.and_eq_true, Nat.blt_eq, Nat.ble_eq] at h
        exact ax_s_nwa X h.1.1.1 h.1.1.2 h.1.2 h.2 hw hE hE2 hg hRc hRs hd k
      · cases hp
    | multianewarray x y =>
      cases hn rfl
      simp only [ax_i] at hp
      obtain ⟨h2, hq⟩ := ax_cnd hp
      clear hp
      have h3 := Nat.beq_eq.mp h2
      clear h2
      subst h3
      unfold ax_nwm at hq
      split at hq
      · obtain ⟨h, hu⟩ := ax_cnd hq
        clear hq
        cases hu
        simp only [Bool.and_eq_true, Nat.blt_eq, Nat.beq_eq] at h
        exact ax_s_nwm X h.1.1.1.1 h.1.1.1.2 h.1.1.2 h.1.2 h.2 hw hE hE2 hg hRc hRs hd k
      · cases hq
    | ireturn =>
      simp only [ax_i] at hp
      split at hp
      · split at hp <;> cases hp
      · cases hp
    | lreturn =>
      simp only [ax_i] at hp
      split at hp
      · obtain ⟨-, hp⟩ := ax_cnd hp
        cases hp
      · cases hp
    | return_ =>
      simp only [ax_i] at hp
      split at hp
      · obtain ⟨-, hp⟩ := ax_cnd hp
        cases hp
      · cases hp
    | _ => simp only [ax_i] at hp; cases hp
end AXT
