/-! THE REFERENCE: a sum is told -/
section ZSV
variable {d : Nat} {I I0 J : zF} {T : Nat → Int} {n : Int} {kd : Nat} {B : List Int} {D0 : Int} {r : zR} {Q : Option ax_v → ax_S → Prop} {P : Int → zF → zF → Prop} {P0 : zF → zF → Prop}
theorem sr_qGoesOn {s : zs} {st : List Int} {dep : Int} {cs : List Int} {f : Nat} (hB : ∀ x, x ∈ B → 5 ≤ x) (hm : mach T n kd f 2 s st dep cs = some r) (hS : mS T n kd B D0 s st dep cs I) (ht : tp60 st) (hP0 : ∀ k q I', r = .inl (k, q) → rZ I I' → rBq 1601 k q I' → P 0 I' J) (hPe : ∀ s' st' dep' cs' I', r = .inr (s', cs' ++ st') → rZ I I' → mS T n kd B D0 s' st' dep' cs' I' → dep' = D0 → P 0 I' J) (hP1 : ∀ f' s' st' dep' cs' I', f' < f → mach T n kd f' 0 s' st' dep' cs' = some r → rZ I I' → mS T n kd B D0 s' st' dep' cs' I' → P 1 I' J) : zr_i (d + 4) 289 [.inr (.inr (some 0))] I J P := zr_ini (M := ax_m289) rfl (Nat.le_of_ble_eq_true rfl) (go_0 hB f (fun k q I' a b c => zr_Qi.of (hP0 k q I' a b c)) (fun s' st' dep' cs' I' a b c e => zr_Qi.of (hPe s' st' dep' cs' I' a b c e)) (fun f' s' st' dep' cs' I' a b c e => zr_Qi.of (hP1 f' s' st' dep' cs' I' a b c e)) f s st dep cs I (Nat.le_refl f) hm hS ht (rZ.refl I))
theorem su_53b {a1 k q : Int} (hB : rBad k q I) (hP : Q none (zr_S (ax_u I 0 110 a1) J)) : zb_W d ax_m290 (53, [some (.inr (.inr (some 0))), some (.inl a1), none], [], zr_S I J) Q := zq_qSums_53 I J a1 (e_no hB hP)
theorem su_53 {a1 dep : Int} : ∀ (st cs : List Int) (I : zF), rQ cs (st ++ B) dep (B.length : Int) (kd : Int) I → I 0 5 = 0 → cs.length + (st ++ B).length < 1700 → rKs I0 I → (∀ I', rKs I0 I' → rQ (cs ++ st) B dep (B.length : Int) (kd : Int) I' → Q none (zr_S (ax_u I' 0 110 a1) J)) → zb_W (d + 2) ax_m290 (53, [some (.inr (.inr (some 0))), some (.inl a1), none], [], zr_S I J) Q := by
  intro st
  induction st with
  | nil =>
    intro cs I hQ he hl hK hP
    have e : I 0 108 = (B.length : Int) := hQ.2.2.1
    have k : I 0 110 = (B.length : Int) := hQ.2.2.2.2.2.1
    refine zq_qSums_53 I J a1 (e_ok he ?_)
    rw [e, k]
    refine ⟨fun q => absurd q (Int.lt_irrefl _), fun _ => hP I hK ?_⟩
    rw [List.append_nil]
    exact hQ
  | cons x r ih =>
    intro cs I hQ he hl hK hP
    have hlen : ((x :: r) ++ B).length = (r ++ B).length + 1 := rfl
    have hlen2 : (r ++ B).length = r.length + B.length := List.length_append
    have e : I 0 108 = (((x :: r) ++ B).length : Int) := hQ.2.2.1
    have k : I 0 110 = (B.length : Int) := hQ.2.2.2.2.2.1
    refine zq_qSums_53 I J a1 (e_ok he ?_)
    rw [e, k, zb_w (x := (B.length : Int)) (by omega) (by omega), zb_w (x := (((x :: r) ++ B).length : Int)) (by omega) (by omega)]
    refine ⟨fun _ => sr_qDrops (x := x) (r := r ++ B) hQ (by rw [List.length_cons]; omega) (fun I1 h1 q1 => ih (cs ++ [x]) I1 q1 ?_ ?_ (hK.trans (fun i j a b c => h1 i j a c)) (fun I' h2 q2 => hP I' h2 ?_)), fun q => absurd (show (B.length : Int) < (((x :: r) ++ B).length : Int) by omega) q⟩
    · rw [h1 0 5 (by omega) (by omega)]; exact he
    · simp only [List.length_append, List.length_cons, List.length_nil] at *; omega
    · rw [List.append_assoc] at q2
      exact q2
theorem su_15 {a1 : Int} (hk2 : kd ≤ 2) (hB : ∀ x, x ∈ B → 5 ≤ x) (hP0 : ∀ k q I', r = .inl (k, q) → rZ I0 I' → rBq 1601 k q I' → Q none (zr_S (ax_u I' 0 110 a1) J)) (hP1 : ∀ s' C I', r = .inr (s', C) → rZ I0 I' → rTx T n s' I' → rQ C B D0 (B.length : Int) (kd : Int) I' → Q none (zr_S (ax_u I' 0 110 a1) J)) : ∀ (f : Nat) (s : zs) (st : List Int) (dep : Int) (cs : List Int) (I : zF), mach T n kd f 0 s st dep cs = some r → mS T n kd B D0 s st dep cs I → rZ I0 I → zb_W (d + 6) ax_m290 (15, [some (.inr (.inr (some 0))), some (.inl a1), some (.inl 1)], [], zr_S I J) Q := by
  intro f
  induction f using Nat.strongRecOn with
  | ind f ih =>
    intro s st dep cs I hm hS hZ
    refine zq_qSums_15 I J a1 1 (b1 (e_ok hS.1.e (sr_qPartTold hk2 hm hS (fun k q I1 hr z1 b1 => e_no b1.1 (zq_qSums_48 I1 J a1 (zq_qSums_15 I1 J a1 0 (b0 (su_53b b1.1 (hP0 k q I1 hr (hZ.trans z1) b1)))))) (fun f1 s1 st1 dep1 cs1 I1 hf1 hm1 z1 hS1 ht1 => e_ok hS1.1.e (sr_qGoesOn hB hm1 hS1 ht1 (fun k q I2 hr z2 b2 => b0 (zq_qSums_48 I2 J a1 (zq_qSums_15 I2 J a1 0 (b0 (su_53b b2.1 (hP0 k q I2 hr (hZ.trans (z1.trans z2)) b2)))))) (fun s2 st2 dep2 cs2 I2 hr z2 hS2 hd2 => b0 (zq_qSums_48 I2 J a1 (zq_qSums_15 I2 J a1 0 (b0 ?_)))) (fun f2 s2 st2 dep2 cs2 I2 hf2 hm2 z2 hS2 => b1 (ih f2 (by omega) s2 st2 dep2 cs2 I2 hm2 hS2 (hZ.trans (z1.trans z2)))))))))
    obtain ⟨t2, q2, w2, _, _⟩ := hS2
    have hn := t2.ok.n
    have h1 := t2.ok.1
    have hlen : (st2 ++ B).length = st2.length + B.length := List.length_append
    rw [hd2] at q2
    exact su_53 st2 cs2 I2 q2 t2.e (by omega) (rKs.refl I2) (fun I3 k3 q3 => hP1 s2 _ I3 hr (hZ.trans (z1.trans (z2.trans k3.Z))) (k3.fr t2) q3)
theorem sr_qSums {dd : Nat} {s : zs} {dep base : Int} {cs : List Int} (hk2 : kd ≤ 2) (hB : ∀ x, x ∈ B → 5 ≤ x) (hL : rTx T n s I) (hQ : rQ cs B dep base (kd : Int) I) (hw : (cs.length : Int) + B.length ≤ s.1) (hd : dep = 6 - (dd : Int)) (hd2 : -1600 ≤ dep) (hP0 : ∀ k q, pSum T n (pPart T n kd dd) s = .inl (k, q) → ∀ I', rZ I I' → rBq 1601 k q I' → P0 I' J) (hP1 : ∀ s' out, pSum T n (pPart T n kd dd) s = .inr (s', out) → ∀ I', rZ I I' → rTx T n s' I' → rQ (cs ++ out) B dep base (kd : Int) I' → P0 I' J) : zr_v (d + 7) 290 [.inr (.inr (some 0))] I J P0 := by
  have hn := hL.ok.n
  obtain ⟨f, hm⟩ := sum_eq (T := T) (n := n) (kd := kd) (s := s) hn.2 dd hL.ok cs
  rw [← hd] at hm
  obtain ⟨a, b, e, g, k, l, m, o⟩ := id hQ
  have q0 : rQ cs ([] ++ B) dep (B.length : Int) (kd : Int) (ax_u I 0 110 (I 0 108)) := ⟨by rw [zu_ne (by omega)]; exact a, fun i hi => by rw [zu_ne (by omega)]; exact b i hi, by rw [zu_ne (by omega)]; exact e, ck_cong (fun j => zu_ne (by omega)) _ g, by rw [zu_ne (by omega)]; exact k, by rw [zu_eq]; exact e, by rw [zu_ne (by omega)]; exact m, o⟩
  have z0 : rZ I (ax_u I 0 110 (I 0 108)) := fun i j a b c => zu_ne (by omega)
  have zl : ∀ I' v, rZ I' (ax_u I' 0 110 v) := fun I' v i j a b c => zu_ne (by omega)
  refine zr_inv (M := ax_m290) rfl (Nat.le_of_ble_eq_true rfl) (zq_qSums_0 I J ?_)
  rw [l]
  refine su_15 (D0 := dep) (I0 := I) hk2 hB (fun kk q I' hr z b' => zr_Qv.of ?_) (fun s' C I' hr z t' q' => zr_Qv.of ?_) f s [] dep cs _ hm ⟨hL.fr (fun i j a b c => zu_ne (by omega)), q0, ⟨by simp; omega, hd2⟩, trivial, by show dep = dep + 0; omega, by omega⟩ z0
  · cases hp : pSum T n (pPart T n kd dd) s with
    | inl x =>
      rw [hp] at hr
      have hr' : (Sum.inl x : zR) = .inl (kk, q) := hr
      have hx : x = (kk, q) := Sum.inl.inj hr'
      refine hP0 kk q (by rw [hp, hx]) _ (z.trans (zl _ _)) ⟨b'.1.to (zu_ne (by omega)) (zu_ne (by omega)), ?_, ?_⟩
      · rw [zu_ne (by omega)]; exact b'.2.1
      · rw [zu_ne (by omega)]; exact b'.2.2
    | inr x =>
      rw [hp] at hr
      have hr' : (Sum.inr (x.1, cs ++ x.2) : zR) = .inl (kk, q) := hr
      cases hr'
  · cases hp : pSum T n (pPart T n kd dd) s with
    | inl x =>
      rw [hp] at hr
      have hr' : (Sum.inl x : zR) = .inr (s', C) := hr
      cases hr'
    | inr x =>
      rw [hp] at hr
      have hr' : (Sum.inr (x.1, cs ++ x.2) : zR) = .inr (s', C) := hr
      have hx := Sum.inr.inj hr'
      have hx1 : x.1 = s' := congrArg Prod.fst hx
      have hx2 : cs ++ x.2 = C := congrArg Prod.snd hx
      obtain ⟨a', b', e', g', k', l', m', o'⟩ := q'
      refine hP1 x.1 x.2 (by rw [hp]) _ (z.trans (zl _ _)) (by rw [hx1]; exact t'.fr (fun i j a b c => zu_ne (by omega))) ?_
      rw [hx2]
      exact ⟨by rw [zu_ne (by omega)]; exact a', fun i hi => by rw [zu_ne (by omega)]; exact b' i hi, by rw [zu_ne (by omega)]; exact e', ck_cong (fun j => zu_ne (by omega)) _ g', by rw [zu_ne (by omega)]; exact k', by rw [zu_eq], by rw [zu_ne (by omega)]; exact m', o'⟩
end ZSV
