/-! THE REFERENCE: tests -/
section ZTP
variable {T : Nat → Int} {n : Int} {kd : Nat} {r : zR}
theorem macht_00 {c : Nat} {s : zs} {st : List Int} {dep : Int} {cs : List Int} (h : macht T n kd 0 c s st dep cs = some r) : False := by
  have h' : (none : Option zR) = some r := h
  cases h'
theorem macht_1 : ∀ (st : List Int) (f : Nat) (s : zs) (dep : Int) (cs : List Int), macht T n kd f 1 s st dep cs = some r → ∃ f', f' < f ∧ macht T n kd f' 2 s (pD f12 st) (dep - ((pU f12 st).length : Int)) (cs ++ pU f12 st) = some r := by
  intro st
  induction st with
  | nil =>
    intro f s dep cs h
    cases f with
    | zero => exact (macht_00 h).elim
    | succ f =>
      refine ⟨f, by omega, ?_⟩
      rw [show pU f12 [] = [] from rfl, List.append_nil, show dep - (([] : List Int).length : Int) = dep by simp]
      exact h
  | cons x q ih =>
    intro f s dep cs h
    cases f with
    | zero => exact (macht_00 h).elim
    | succ f =>
      have h' : (if x = 12 then macht T n kd f 1 s q (dep - 1) (cs ++ [x]) else macht T n kd f 2 s (x :: q) dep cs) = some r := h
      by_cases c : x = 12
      · rw [if_pos c] at h'
        obtain ⟨f', h1, h2⟩ := ih f s (dep - 1) (cs ++ [x]) h'
        have c' : f12 x = true := decide_eq_true c
        refine ⟨f', by omega, ?_⟩
        rw [show pU f12 (x :: q) = x :: pU f12 q from if_pos c', show pD f12 (x :: q) = pD f12 q from if_pos c', List.length_cons, show dep - (((pU f12 q).length + 1 : Nat) : Int) = dep - 1 - ((pU f12 q).length : Int) by omega]
        rw [List.append_assoc] at h2
        exact h2
      · rw [if_neg c] at h'
        have c' : ¬ f12 x = true := fun z => c (of_decide_eq_true z)
        refine ⟨f, by omega, ?_⟩
        rw [show pU f12 (x :: q) = [] from if_neg c', show pD f12 (x :: q) = x :: q from if_neg c', List.append_nil, show dep - (([] : List Int).length : Int) = dep by simp]
        exact h'
theorem macht_0 {f : Nat} {s : zs} {st : List Int} {dep : Int} {cs : List Int} : macht T n kd (f + 1) 0 s st dep cs = (if lc T n s.1 = 91 then (if dep = 6 then some (.inl (4, s.1)) else macht T n kd f 0 (aS T n s) (25 :: st) (dep + 1) cs)
    else if wd T n s = 23 then (if dep = 6 then some (.inl (4, s.1)) else macht T n kd f 0 (aWd T n s) (12 :: st) (dep + 1) cs)
    else (match pAll T n kd (6 - dep).toNat s with | .inl e => some (.inl e) | .inr (s1, c) => macht T n kd f 1 s1 st dep (cs ++ c))) := rfl
theorem macht_2 {f : Nat} {s : zs} {st : List Int} {dep : Int} {cs : List Int} : macht T n kd (f + 1) 2 s st dep cs = (if lc T n s.1 = 93 ∧ hB st = true then macht T n kd f 1 (aS T n s) (sD st) (dep - 1) (cs ++ sU st)
    else if wd T n s = 24 then macht T n kd f 0 (aWd T n s) (10 :: pD fMt st) dep (cs ++ pU fMt st)
    else if wd T n s = 25 then macht T n kd f 0 (aWd T n s) (11 :: pD fAt st) dep (cs ++ pU fAt st)
    else if hB st = true then some (.inl (1, s.1))
    else some (.inr (s, cs ++ st))) := rfl
theorem sUD_len : ∀ st : List Int, hB st = true → (sU st).length + 1 + (sD st).length = st.length := by
  intro st
  induction st with
  | nil => intro h; exact absurd h (by decide)
  | cons x r ih =>
    intro h
    by_cases c : x = 25
    · rw [show sU (x :: r) = [] from if_pos c, show sD (x :: r) = r from if_pos c, List.length_cons]; simp; omega
    · rw [show hB (x :: r) = hB r from if_neg c] at h
      have := ih h
      rw [show sU (x :: r) = x :: sU r from if_neg c, show sD (x :: r) = sD r from if_neg c, List.length_cons, List.length_cons]; omega
theorem sD_mem : ∀ (st : List Int) (x : Int), x ∈ sD st → x ∈ st := by
  intro st
  induction st with
  | nil => intro x h; exact h
  | cons y r ih =>
    intro x h
    by_cases c : y = 25
    · rw [show sD (y :: r) = r from if_pos c] at h; exact List.mem_cons_of_mem _ h
    · rw [show sD (y :: r) = sD r from if_neg c] at h; exact List.mem_cons_of_mem _ (ih x h)
theorem pD_mem (f : Int → Bool) : ∀ (st : List Int) (x : Int), x ∈ pD f st → x ∈ st := by
  intro st
  induction st with
  | nil => intro x h; exact h
  | cons y r ih =>
    intro x h
    by_cases c : f y = true
    · rw [show pD f (y :: r) = pD f r from if_pos c] at h; exact List.mem_cons_of_mem _ (ih x h)
    · rw [show pD f (y :: r) = y :: r from if_neg c] at h; exact h
end ZTP
/-- where the stack of a test stands -/
def mT (T : Nat → Int) (n : Int) (kd : Nat) (s : zs) (st : List Int) (dep : Int) (cs : List Int) (I : zF) : Prop := rTx T n s I ∧ rQ cs st dep 0 (kd : Int) I ∧ (cs.length : Int) + st.length ≤ s.1 ∧ ((st.length : Int) - s.1 ≤ dep ∧ dep ≤ 6) ∧ (∀ x, x ∈ st → 10 ≤ x)
section ZTR
variable {d : Nat} {I J : zF} {T : Nat → Int} {n : Int} {kd : Nat} {s : zs} {dep base k : Int} {cs F : List Int} {r : zR} {Q : Option ax_v → ax_S → Prop} {P : Int → zF → zF → Prop} {P0 : zF → zF → Prop}
theorem gt_87 {I0 : zF} : ∀ (st cs : List Int) (I : zF), rQ cs st dep base k I → cs.length + st.length < 1700 → rKs I0 I → (∀ I', rKs I0 I' → rQ (cs ++ pU fMt st) (10 :: pD fMt st) dep base k I' → Q (some (.inl 1)) (zr_S I' J)) → zb_W (d + 2) ax_m295 (87, [some (.inr (.inr (some 0)))], [], zr_S I J) Q := by
  have stop : ∀ (st cs : List Int) (I : zF), rQ cs st dep base k I → st.length < 1700 → (∀ x q, st = x :: q → x ≠ 10) → (∀ I', rKs I I' → rQ cs (10 :: st) dep base k I' → Q (some (.inl 1)) (zr_S I' J)) → zb_W (d + 2) ax_m295 (87, [some (.inr (.inr (some 0)))], [], zr_S I J) Q := by
    intro st cs I hQ hl hx hP
    refine zq_qGoesOnTest_87 I J (sr_on0 hQ (by omega) ⟨by decide, by decide⟩ hx (b0 ?_))
    have e : I 0 108 = (st.length : Int) := hQ.2.2.1
    rw [zu_ne (by omega), e, zb_w (x := (st.length : Int)) (by omega) (by omega), show (st.length : Int).toNat = st.length by omega]
    exact ⟨by omega, hP _ (rKs.psh I) (hQ.push ⟨by decide, by decide⟩)⟩
  intro st
  induction st with
  | nil =>
    intro cs I hQ hl hK hP
    refine stop [] cs I hQ (by simp) (fun x q e => absurd e (by simp)) (fun I' h1 h2 => hP I' (hK.trans h1) ?_)
    rw [show pU fMt [] = [] from rfl, List.append_nil]; exact h2
  | cons x r ih =>
    intro cs I hQ hl hK hP
    rw [List.length_cons] at hl
    by_cases c : x = 10
    · have c' : fMt x = true := decide_eq_true c
      have hQ' := hQ
      rw [c] at hQ'
      refine zq_qGoesOnTest_87 I J (sr_on1 hQ' (by rw [List.length_cons]; omega) ⟨by decide, by decide⟩ (b1 (sr_qDrops hQ (by rw [List.length_cons]; omega) (fun I1 h1 q1 => ih (cs ++ [x]) I1 q1 ?_ (hK.trans (fun i j a b c => h1 i j a c)) (fun I' h2 q2 => hP I' h2 ?_)))))
      · simp only [List.length_append, List.length_cons, List.length_nil] at *; omega
      · rw [show pU fMt (x :: r) = x :: pU fMt r from if_pos c', show pD fMt (x :: r) = pD fMt r from if_pos c']
        rw [List.append_assoc] at q2
        exact q2
    · have c' : ¬ fMt x = true := fun z => c (of_decide_eq_true z)
      refine stop (x :: r) cs I hQ (by rw [List.length_cons]; omega) (fun y q e => ?_) (fun I' h1 h2 => hP I' (hK.trans h1) ?_)
      · have e' : x = y := by injection e
        omega
      · rw [show pU fMt (x :: r) = [] from if_neg c', show pD fMt (x :: r) = x :: r from if_neg c', List.append_nil]; exact h2
theorem gt_137 {I0 : zF} : ∀ (st cs : List Int) (I : zF), rQ cs st dep base k I → cs.length + st.length < 1700 → rKs I0 I → (∀ I', rKs I0 I' → rQ (cs ++ pU fAt st) (11 :: pD fAt st) dep base k I' → Q (some (.inl 1)) (zr_S I' J)) → zb_W (d + 2) ax_m295 (137, [some (.inr (.inr (some 0)))], [], zr_S I J) Q := by
  have stop : ∀ (st cs : List Int) (I : zF), rQ cs st dep base k I → st.length < 1700 → (∀ x q, st = x :: q → x ≠ 10 ∧ x ≠ 11) → (∀ I', rKs I I' → rQ cs (11 :: st) dep base k I' → Q (some (.inl 1)) (zr_S I' J)) → zb_W (d + 2) ax_m295 (137, [some (.inr (.inr (some 0)))], [], zr_S I J) Q := by
    intro st cs I hQ hl hx hP
    refine zq_qGoesOnTest_137 I J (sr_on0 hQ (by omega) ⟨by decide, by decide⟩ (fun x q e => (hx x q e).1) (b0 (sr_on0 hQ (by omega) ⟨by decide, by decide⟩ (fun x q e => (hx x q e).2) (b0 ?_))))
    have e : I 0 108 = (st.length : Int) := hQ.2.2.1
    rw [zu_ne (by omega), e, zb_w (x := (st.length : Int)) (by omega) (by omega), show (st.length : Int).toNat = st.length by omega]
    exact ⟨by omega, hP _ (rKs.psh I) (hQ.push ⟨by decide, by decide⟩)⟩
  intro st
  induction st with
  | nil =>
    intro cs I hQ hl hK hP
    refine stop [] cs I hQ (by simp) (fun x q e => absurd e (by simp)) (fun I' h1 h2 => hP I' (hK.trans h1) ?_)
    rw [show pU fAt [] = [] from rfl, List.append_nil]; exact h2
  | cons x r ih =>
    intro cs I hQ hl hK hP
    rw [List.length_cons] at hl
    by_cases c : x = 10 ∨ x = 11
    · have c' : fAt x = true := decide_eq_true c
      have go : zb_W (d + 2) ax_m295 (155, [some (.inr (.inr (some 0)))], [], zr_S I J) Q := by
        refine zq_qGoesOnTest_155 I J (sr_qDrops hQ (by rw [List.length_cons]; omega) (fun I1 h1 q1 => ih (cs ++ [x]) I1 q1 ?_ (hK.trans (fun i j a b c => h1 i j a c)) (fun I' h2 q2 => hP I' h2 ?_)))
        · simp only [List.length_append, List.length_cons, List.length_nil] at *; omega
        · rw [show pU fAt (x :: r) = x :: pU fAt r from if_pos c', show pD fAt (x :: r) = pD fAt r from if_pos c']
          rw [List.append_assoc] at q2
          exact q2
      have hQ' := hQ
      rcases c with c3 | c3
      · rw [c3] at hQ'
        exact zq_qGoesOnTest_137 I J (sr_on1 hQ' (by rw [List.length_cons]; omega) ⟨by decide, by decide⟩ (b1 go))
      · rw [c3] at hQ'
        exact zq_qGoesOnTest_137 I J (sr_on0 hQ (by rw [List.length_cons]; omega) ⟨by decide, by decide⟩ (fun y q e => by
          have e' : x = y := by injection e
          omega) (b0 (sr_on1 hQ' (by rw [List.length_cons]; omega) ⟨by decide, by decide⟩ (b1 go))))
    · have c' : ¬ fAt x = true := fun z => c (of_decide_eq_true z)
      refine stop (x :: r) cs I hQ (by rw [List.length_cons]; omega) (fun y q e => ?_) (fun I' h1 h2 => hP I' (hK.trans h1) ?_)
      · have e' : x = y := by injection e
        omega
      · rw [show pU fAt (x :: r) = [] from if_neg c', show pD fAt (x :: r) = x :: r from if_neg c', List.append_nil]; exact h2
theorem gt_33 {I0 : zF} : ∀ (st cs : List Int) (I : zF), hB st = true → rQ cs st dep base k I → cs.length + st.length < 1700 → rKs I0 I → (∀ I' I2, rKs I0 I' → I2 = ax_u (ax_u I' 0 108 (I' 0 108 - 1)) 0 109 (dep - 1) → rQ (cs ++ sU st) (sD st) (dep - 1) base k I2 → zr_v (d + 2) 293 [.inr (.inr (some 0))] I2 J (fun I9 J10 => zb_W (d + 2) ax_m295 (0, [some (.inr (.inr (some 0)))], [], zr_S I9 J10) Q)) → zb_W (d + 2) ax_m295 (33, [some (.inr (.inr (some 0)))], [], zr_S I J) Q := by
  intro st
  induction st with
  | nil => intro cs I h; exact absurd h (by decide)
  | cons x r ih =>
    intro cs I h hQ hl hK hP
    rw [List.length_cons] at hl
    by_cases c : x = 25
    · have hQ' := hQ
      rw [c] at hQ'
      refine zq_qGoesOnTest_33 I J (sr_on1 hQ' (by rw [List.length_cons]; omega) ⟨by decide, by decide⟩ (b1 ?_))
      have e109 : (ax_u I 0 108 (I 0 108 - 1)) 0 109 - 1 = dep - 1 := by rw [zu_ne (by omega), hQ.2.2.2.2.1]
      rw [e109]
      refine hP I _ hK rfl ?_
      rw [show sU (x :: r) = [] from if_pos c, show sD (x :: r) = r from if_pos c, List.append_nil]
      exact (hQ.pop (v := dep - 1)).1
    · rw [show hB (x :: r) = hB r from if_neg c] at h
      refine zq_qGoesOnTest_33 I J (sr_on0 hQ (by rw [List.length_cons]; omega) ⟨by decide, by decide⟩ (fun y q e => by
          have e' : x = y := by injection e
          omega) (b0 (sr_qDrops hQ (by rw [List.length_cons]; omega) (fun I1 h1 q1 => ih (cs ++ [x]) I1 h q1 ?_ (hK.trans (fun i j a b c => h1 i j a c)) (fun I' I2 h2 h3 q2 => hP I' I2 h2 h3 ?_)))))
      · simp only [List.length_append, List.length_cons, List.length_nil] at *; omega
      · rw [show sU (x :: r) = x :: sU r from if_neg c, show sD (x :: r) = sD r from if_neg c]
        rw [List.append_assoc] at q2
        exact q2
/-- it goes on (1), is wrong, or is at its end (0) -/
theorem gt_0 {I0 : zF} (f0 : Nat) (hP0 : ∀ k q I', r = .inl (k, q) → rZ I0 I' → rBad k q I' → Q (some (.inl 0)) (zr_S I' J)) (hPe : ∀ s' st' dep' cs' I', r = .inr (s', cs' ++ st') → rZ I0 I' → mT T n kd s' st' dep' cs' I' → Q (some (.inl 0)) (zr_S I' J)) (hP1 : ∀ f' s' st' dep' cs' I', f' < f0 → macht T n kd f' 0 s' st' dep' cs' = some r → rZ I0 I' → mT T n kd s' st' dep' cs' I' → Q (some (.inl 1)) (zr_S I' J)) : ∀ (f : Nat) (s : zs) (st : List Int) (dep : Int) (cs : List Int) (I : zF), f ≤ f0 → macht T n kd f 2 s st dep cs = some r → mT T n kd s st dep cs I → rZ I0 I → zb_W (d + 3) ax_m295 (0, [some (.inr (.inr (some 0)))], [], zr_S I J) Q := by
  intro f
  induction f using Nat.strongRecOn with
  | ind f ih =>
    intro s st dep cs I hf hm hS hZ
    cases f with
    | zero => exact (macht_00 hm).elim
    | succ f =>
      rw [macht_2] at hm
      obtain ⟨hL, hQ, hw, hD, hM⟩ := id hS
      have hn := hL.ok.n
      have h1 := hL.ok.1
      have hlc := lc_in hL.ok h1.1
      have key : ∀ I1, rZ I0 I1 → rTx T n s I1 → rQ cs st dep 0 (kd : Int) I1 → ¬ (lc T n s.1 = 93 ∧ hB st = true) → zb_W (d + 3) ax_m295 (76, [some (.inr (.inr (some 0)))], [], zr_S I1 J) Q := by
        intro I1 z1 t1 q1 hno
        rw [if_neg hno] at hm
        refine zq_qGoesOnTest_76 I1 J (sr_takes (w := 58) (ks := 24) (by decide) t1 (fun c I2 y2 t2 => b1 ?_) (fun c24 I2 y2 t2 e2 => b0 (sr_takes (w := 59) (ks := 25) (by decide) t2 (fun c I3 y3 t3 => b1 ?_) (fun c25 I3 y3 t3 e3 => b0 (e_ok t3.e (sr_qHasSquare (y3.Q (y2.Q q1)) (by omega) (bc (fun c => sr_fail t3.e ⟨by decide, by decide⟩ (fun I4 y4 _ b4 => ?_)) (fun c => ?_))))))))
        · have c' : wd T n s = 24 := c
          rw [if_pos c'] at hm
          have hl2 := pUD_len fMt st
          have hc2 : (cs ++ pU fMt st).length = cs.length + (pU fMt st).length := List.length_append
          have := wd_w (T := T) (n := n) (s := s) (by omega)
          refine gt_87 st cs I2 (y2.Q q1) (by omega) (rKs.refl I2) (fun I3 k3 q3 => hP1 f _ _ _ _ I3 (by omega) hm (z1.trans (y2.Z.trans k3.Z)) ⟨k3.fr t2, q3, by rw [List.length_cons]; omega, ⟨by rw [List.length_cons]; omega, hD.2⟩, fun x hx => ?_⟩)
          rcases List.mem_cons.mp hx with rfl | h
          · decide
          · exact hM x (pD_mem fMt st x h)
        · have c' : wd T n s = 25 := c
          rw [if_neg (by omega), if_pos c'] at hm
          have hl2 := pUD_len fAt st
          have hc2 : (cs ++ pU fAt st).length = cs.length + (pU fAt st).length := List.length_append
          have := wd_w (T := T) (n := n) (s := s) (by omega)
          refine gt_137 st cs I3 (y3.Q (y2.Q q1)) (by omega) (rKs.refl I3) (fun I4 k4 q4 => hP1 f _ _ _ _ I4 (by omega) hm (z1.trans (y2.Z.trans (y3.Z.trans k4.Z))) ⟨k4.fr t3, q4, by rw [List.length_cons]; omega, ⟨by rw [List.length_cons]; omega, hD.2⟩, fun x hx => ?_⟩)
          rcases List.mem_cons.mp hx with rfl | h
          · decide
          · exact hM x (pD_mem fAt st x h)
        · have c1 : wd T n s ≠ 24 := c24
          have c2 : wd T n s ≠ 25 := c25
          rw [if_neg c1, if_neg c2, if_pos c] at hm
          rw [e3] at b4
          exact hP0 1 s.1 I4 (Option.some.inj hm).symm (z1.trans (y2.Z.trans (y3.Z.trans y4.Z))) b4
        · have c1 : wd T n s ≠ 24 := c24
          have c2 : wd T n s ≠ 25 := c25
          rw [if_neg c1, if_neg c2, if_neg c] at hm
          exact hPe s st dep cs I3 (Option.some.inj hm).symm (z1.trans (y2.Z.trans y3.Z)) ⟨t3, y3.Q (y2.Q q1), hw, hD, hM⟩
      refine zq_qGoesOnTest_0 I J (e_ok hL.e (sr_look hL (fun I1 y1 t1 e1 => w_if (x := lc T n s.1) ⟨by omega, by omega⟩ ⟨by decide, by decide⟩ (fun c => sr_qHasSquare (y1.Q hQ) (by omega) (bc (fun cb => ?_) (fun cb => key I1 (hZ.trans y1.Z) t1 (y1.Q hQ) (fun z => cb z.2)))) (fun c => key I1 (hZ.trans y1.Z) t1 (y1.Q hQ) (fun z => c z.1)))))
      rw [if_pos ⟨c, cb⟩] at hm
      have hlt : s.1 < n := (lc_lt c (by decide)).1
      have hlt2 := aS_lt T n s
      have hl2 := sUD_len st cb
      have hc2 : (cs ++ sU st).length = cs.length + (sU st).length := List.length_append
      have t2 := t1.adv e1 hlt
      have z2 : rZ I0 (ax_u I1 0 2 (I1 0 2 + 1)) := hZ.trans (y1.Z.trans ((rY.refl I1).u (Or.inl rfl)).Z)
      have h2n := t2.ok.1
      refine gt_33 st cs _ cb (y1.Q hQ).at2 (by omega) (rKs.refl _) (fun I3 I4 k3 e4 q4 => ?_)
      have k4 : ∀ i j, i ≠ 75 → i ≠ 76 → ¬ (i = 0 ∧ (j = 106 ∨ j = 108 ∨ j = 109 ∨ j = 110)) → I4 i j = ax_u I1 0 2 (I1 0 2 + 1) i j := fun i j a b c => by rw [e4, zu_ne (by omega), zu_ne (by omega)]; exact k3 i j a b (by omega)
      have t4 : rTx T n (aS T n s) I4 := t2.fr k4
      obtain ⟨f', hf', hm2⟩ := macht_1 (sD st) f (aS T n s) (dep - 1) _ hm
      refine sr_qDropsNots q4 t4.e (by omega) (fun I5 h5 q5 => ?_)
      have hl3 := pUD_len f12 (sD st)
      have hc3 : (cs ++ sU st ++ pU f12 (sD st)).length = (cs ++ sU st).length + (pU f12 (sD st)).length := List.length_append
      exact ih f' (by omega) _ _ _ _ I5 (by omega) hm2 ⟨t4.fr (fun i j a b c => h5 i j a (by omega)), q5, by omega, ⟨by omega, by omega⟩, fun x hx => hM x (sD_mem st x (pD_mem f12 _ x hx))⟩ (z2.trans (fun i j a b c => by rw [h5 i j b (by omega)]; exact k4 i j b c (by omega)))
theorem sr_qGoesOnTest {st : List Int} {f : Nat} (hm : macht T n kd f 2 s st dep cs = some r) (hS : mT T n kd s st dep cs I) (hP0 : ∀ k q I', r = .inl (k, q) → rZ I I' → rBad k q I' → P 0 I' J) (hPe : ∀ s' st' dep' cs' I', r = .inr (s', cs' ++ st') → rZ I I' → mT T n kd s' st' dep' cs' I' → P 0 I' J) (hP1 : ∀ f' s' st' dep' cs' I', f' < f → macht T n kd f' 0 s' st' dep' cs' = some r → rZ I I' → mT T n kd s' st' dep' cs' I' → P 1 I' J) : zr_i (d + 4) 295 [.inr (.inr (some 0))] I J P := zr_ini (M := ax_m295) rfl (Nat.le_of_ble_eq_true rfl) (gt_0 f (fun k q I' a b c => zr_Qi.of (hP0 k q I' a b c)) (fun s' st' dep' cs' I' a b c => zr_Qi.of (hPe s' st' dep' cs' I' a b c)) (fun f' s' st' dep' cs' I' a b c e => zr_Qi.of (hP1 f' s' st' dep' cs' I' a b c e)) f s st dep cs I (Nat.le_refl f) hm hS (rZ.refl I))
end ZTR
