/-! THE CLASS: words seen, mending, rain; the wall -/
def cB (D : zD) (pg : zG) (W : zD) (hs : Nat) (I : zF) : Prop := cS D pg hs I ∧ wOk D W ∧ rowC W (I 13)
theorem cB.S {D : zD} {pg : zG} {W : zD} {hs : Nat} {I : zF} (h : cB D pg W hs I) : cS D pg hs I := h.1
theorem cB.W {D : zD} {pg : zG} {W : zD} {hs : Nat} {I : zF} (h : cB D pg W hs I) : wOk D W := h.2.1
theorem cB.y {D : zD} {pg : zG} {W : zD} {hs : Nat} {I : zF} (h : cB D pg W hs I) : I 13 0 = W 0 0 0 := h.2.2.1
theorem cE.n13 {hs : Nat} (eh : hs = 0 ∨ hs = 1) {I I' : zF} (h : cE hs I I') : I' 13 = I 13 := funext (fun j => h 13 j (by omega) (by omega) (by omega) (by omega))
theorem cE.B {D : zD} {pg : zG} {W : zD} {hs : Nat} (eh : hs = 0 ∨ hs = 1) {I I' : zF} (h : cE hs I I') (hB : cB D pg W hs I) : cB D pg W hs I' := ⟨h.S hB.1, hB.2.1, by rw [h.n13 eh]; exact hB.2.2⟩
section ZC4
variable {d hf pf hs : Nat} {I J : zF} {D : zD} {pg : zG} {W : zD} {P : Int → zF → zF → Prop} {P0 : zF → zF → Prop}
theorem sc_findWord_36 (eh : hs = 0 ∨ hs = 1) (ok : zD_ok D pg) (hL : cL D hs I) {w L : Nat} (hw : w < 97) (hk : zc_K w = (20, L)) {sd : Int → Int} {m v : Int} (hm : 0 ≤ m ∧ m ≤ 6 ∧ m ≤ L ∧ (L : Int) ≤ 1000) (hsd : ∀ k, 0 ≤ k → k < m → I w k.toNat = sd k ∧ 0 ≤ sd k ∧ sd k ≤ 1000) (hv : 0 ≤ v ∧ v < D 3 0 0) {Q : Option ax_v → ax_S → Prop} : ∀ (n : Nat) (k : Int), 0 ≤ k → k + n = m → zb_W d ax_m69 (79, [some (.inr (.inr (some (39 + 29 * hs)))), some (.inr (.inr (some w))), some (.inl m), some (.inl v), some (.inl (pf_sm D sd v n k)), none], [], zc_S hf pf I J) Q → zb_W d ax_m69 (36, [some (.inr (.inr (some (39 + 29 * hs)))), some (.inr (.inr (some w))), some (.inl m), some (.inl v), some (.inl 1), some (.inl k)], [], zc_S hf pf I J) Q := by
  have h3 := ok.a3 0 0
  intro n
  induction n with
  | zero =>
    intro k h0 he hQ
    refine zk_Shop_findWord_36 hf pf I J m v 1 k w L hw hk hs eh ?_
    rw [zb_w (x := k) (by omega) (by omega), zb_w (x := m) (by omega) (by omega)]
    exact ⟨fun c => by omega, fun _ => hQ⟩
  | succ n ih =>
    intro k h0 he hQ
    have h5 := ok.a5 v k
    obtain ⟨s1, s2⟩ := hsd k h0 (by omega)
    unfold pf_sm at hQ
    refine zk_Shop_findWord_36 hf pf I J m v 1 k w L hw hk hs eh ?_
    rw [zb_w (x := k) (by omega) (by omega), zb_w (x := m) (by omega) (by omega), zb_w (x := v * 6 + k) (by omega) (by omega), hL.wk hv (by omega), s1, zb_w (x := D 5 v k) (by omega) (by omega), zb_w (x := sd k) (by omega) (by omega)]
    refine ⟨fun _ => b1 ⟨by omega, by omega, fun e => ?_, fun e => ?_⟩, fun c => by omega⟩
    · rw [if_pos e] at hQ; exact ih (k + 1) (by omega) (by omega) hQ
    · rw [if_neg e] at hQ
      refine zk_Shop_findWord_36 hf pf I J m v 0 (k + 1) w L hw hk hs eh ?_
      exact ⟨fun _ => b0 hQ, fun _ => hQ⟩
theorem sc_findWord_2 (eh : hs = 0 ∨ hs = 1) (ok : zD_ok D pg) (hL : cL D hs I) {w L : Nat} (hw : w < 97) (hk : zc_K w = (20, L)) {sd : Int → Int} {m : Int} (hm : 0 ≤ m ∧ m ≤ 6 ∧ m ≤ L ∧ (L : Int) ≤ 1000) (hsd : ∀ k, 0 ≤ k → k < m → I w k.toNat = sd k ∧ 0 ≤ sd k ∧ sd k ≤ 1000) {Q : Option ax_v → ax_S → Prop} : ∀ (n : Nat) (v : Int), 0 ≤ v → v + n = D 3 0 0 → Q (some (.inl (pf_fw D sd m n v))) (zc_S hf pf I J) → zb_W d ax_m69 (2, [some (.inr (.inr (some (39 + 29 * hs)))), some (.inr (.inr (some w))), some (.inl m), some (.inl v), none, none], [], zc_S hf pf I J) Q := by
  have h3 := ok.a3 0 0
  intro n
  induction n with
  | zero =>
    intro v h0 he hQ
    refine zk_Shop_findWord_2 hf pf I J m v w L hw hk hs eh ?_
    rw [hL.wn, zb_w (x := v) (by omega) (by omega), zb_w (x := D 3 0 0) (by omega) (by omega)]
    exact ⟨fun c => by omega, fun _ => hQ⟩
  | succ n ih =>
    intro v h0 he hQ
    have h4 := ok.a4 v 0
    have hv : 0 ≤ v ∧ v < D 3 0 0 := by omega
    unfold pf_fw at hQ
    refine zk_Shop_findWord_2 hf pf I J m v w L hw hk hs eh ?_
    rw [hL.wn, zb_w (x := v) (by omega) (by omega), zb_w (x := D 3 0 0) (by omega) (by omega), hL.wl hv, zb_w (x := D 4 v 0) (by omega) (by omega), zb_w (x := m) (by omega) (by omega), zb_w (x := (L : Int)) (by omega) (by omega)]
    refine ⟨fun _ => ⟨by omega, fun e => ⟨fun c => by omega, fun _ => sc_findWord_36 eh ok hL hw hk hm hsd hv m.toNat 0 (by decide) (by omega) ?_⟩, fun e => zk_Shop_findWord_30 hf pf I J m v w L hw hk hs ?_⟩, fun c => by omega⟩
    · refine zk_Shop_findWord_79 hf pf I J m v _ w L hw hk hs (b01 (pf_sm01 D sd v _ _) (fun e2 => ?_) (fun e2 => ?_))
      · rw [if_pos ⟨e, e2⟩] at hQ; exact hQ
      · rw [if_neg (by omega)] at hQ; exact ih (v + 1) (by omega) (by omega) hQ
    · rw [if_neg (fun q => e q.1)] at hQ
      refine zk_Shop_findWord_36 hf pf I J m v 0 0 w L hw hk hs eh ?_
      have go : zb_W d ax_m69 (79, [some (.inr (.inr (some (39 + 29 * hs)))), some (.inr (.inr (some w))), some (.inl m), some (.inl v), some (.inl 0), none], [], zc_S hf pf I J) Q := zk_Shop_findWord_79 hf pf I J m v 0 w L hw hk hs (b0 (ih (v + 1) (by omega) (by omega) hQ))
      exact ⟨fun _ => b0 go, fun _ => go⟩
theorem sc_findWord (eh : hs = 0 ∨ hs = 1) (ok : zD_ok D pg) (hL : cL D hs I) {w L : Nat} (hw : w < 97) (hk : zc_K w = (20, L)) {sd : Int → Int} {m : Int} (hm : 0 ≤ m ∧ m ≤ 6 ∧ m ≤ L ∧ (L : Int) ≤ 1000) (hsd : ∀ k, 0 ≤ k → k < m → I w k.toNat = sd k ∧ 0 ≤ sd k ∧ sd k ≤ 1000) (hP : P (pf_fw D sd m (D 3 0 0).toNat 0) I J) : zc_i (d + 1) 69 [.inr (.inr (some (39 + 29 * hs))), .inr (.inr (some w)), .inl m] hf pf I J P := by
  have h3 := ok.a3 0 0
  exact zc_ini (M := ax_m69) rfl (Nat.le_of_ble_eq_true rfl) (zk_Shop_findWord_0 hf pf I J m w L hw hk hs (sc_findWord_2 eh ok hL hw hk hm hsd (D 3 0 0).toNat 0 (by decide) (by omega) (zc_Qi.of hP)))
theorem sc_readsBackwards {x : Int} (hx : n32 x) (hP : P (if x = 1 ∨ x = 3 then 1 else 0) I J) : zc_i (d + 1) 164 [.inl x] hf pf I J P := by
  refine zc_ini (M := ax_m164) rfl (Nat.le_of_ble_eq_true rfl) (zk_Top_readsBackwards_0 hf pf I J x ?_)
  rw [hx.w, show ax_w 1 = 1 from rfl, show ax_w 3 = 3 from rfl]
  refine ⟨fun e => zc_Qi.of ?_, fun e => ⟨fun e2 => zc_Qi.of ?_, fun e2 => zc_Qi.of ?_⟩⟩
  · rwa [if_pos (Or.inl e)] at hP
  · rwa [if_pos (Or.inr e2)] at hP
  · rwa [if_neg (by omega)] at hP
def cU (hs : Nat) (I I' : zF) : Prop := ∀ i j, i ≠ 44 + 29 * hs → i ≠ 47 + 29 * hs → i ≠ 60 + 29 * hs → i ≠ 61 + 29 * hs → i ≠ 66 + 29 * hs → I' i j = I i j
theorem cE.U {hs : Nat} {I I' : zF} (h : cE hs I I') : cU hs I I' := fun i j a b c e _ => h i j a b c e
theorem cU.trans {hs : Nat} {I I' I2 : zF} (h : cU hs I I') (h2 : cU hs I' I2) : cU hs I I2 := fun i j a b c e f => (h2 i j a b c e f).trans (h i j a b c e f)
theorem cU.S {D : zD} {pg : zG} {hs : Nat} {I I' : zF} (h : cU hs I I') (hS : cS D pg hs I) : cS D pg hs I' := cS_cong hS (fun i j q => by unfold cLk at q; exact h i j (by omega) (by omega) (by omega) (by omega) (by omega)) (h _ _ (by omega) (by omega) (by omega) (by omega) (by omega)) (fun j => h _ _ (by omega) (by omega) (by omega) (by omega) (by omega)) (h _ _ (by omega) (by omega) (by omega) (by omega) (by omega)) (fun j => h _ _ (by omega) (by omega) (by omega) (by omega) (by omega))
theorem cU.B {D : zD} {pg : zG} {W : zD} {hs : Nat} (eh : hs = 0 ∨ hs = 1) {I I' : zF} (h : cU hs I I') (hB : cB D pg W hs I) : cB D pg W hs I' := ⟨h.S hB.1, hB.2.1, by rw [show I' 13 = I 13 from funext (fun j => h 13 j (by omega) (by omega) (by omega) (by omega) (by omega))]; exact hB.2.2⟩
theorem sc_wordSeen_10 {I0 : zF} (eh : hs = 0 ∨ hs = 1) (hS0 : cS D pg hs I0) {w h how m : Int} (hw : 0 ≤ w ∧ w < D 3 0 0) (hh : 0 ≤ h ∧ h < 2) (hn : n32 how) (hm : m = D 4 w 0) {Q : Option ax_v → ax_S → Prop} : ∀ (n : Nat) (k : Int) (I : zF), cU hs I0 I → (∀ j, 0 ≤ j → j < k → I (66 + 29 * hs) j.toNat = pf_sdw D pg w h how j) → 0 ≤ k → k + n = m → (∀ I', cU hs I0 I' → Q (some (.inl (pf_fw D (pf_sdw D pg w h how) m (D 3 0 0).toNat 0))) (zc_S hf pf I' J)) → zb_W (d + 5) ax_m72 (10, [some (.inr (.inr (some (39 + 29 * hs)))), some (.inl w), some (.inl h), some (.inl how), some (.inl m), some (.inl k), none, none], [], zc_S hf pf I J) Q := by
  have h4 := hS0.ok.a4 w 0
  have h3 := hS0.ok.a3 0 0
  have hK : zc_K (66 + 29 * hs) = (20, 6) := by rcases eh with rfl | rfl <;> rfl
  intro n
  induction n with
  | zero =>
    intro k I hE hi h0 he hQ
    refine zk_Shop_wordSeen_10 hf pf I J w h how m k hs eh ?_
    rw [zb_w (x := k) (by omega) (by omega), zb_w (x := m) (by omega) (by omega)]
    exact ⟨fun c => by omega, fun _ => sc_findWord eh hS0.ok (hE.S hS0).L (by omega) hK (by omega) (fun j j0 j1 => ⟨hi j j0 (by omega), by have := pf_sdw_in hS0.ok w h how j; omega⟩) (hQ I hE)⟩
  | succ n ih =>
    intro k I hE hi h0 he hQ
    have hS := hE.S hS0
    have go : ∀ p, 0 ≤ p ∧ p < 6 → p = (if how = 1 ∨ how = 3 then D 4 w 0 - 1 - k else k) → zc_i (d + 5) 71 [.inr (.inr (some (39 + 29 * hs))), .inl w, .inl h, .inl p] hf pf I J (fun r10 I7 J8 => zc_i (d + 5) 11 [.inl r10, .inl how] hf pf I7 J8 (fun r14 I11 J12 => zc_i (d + 5) 9 [.inr (.inr (some (40 + 29 * hs))), .inl h, .inl r14] hf pf I11 J12 (fun r18 I15 J16 => ((0 : Int) ≤ k ∧ k < ((6 : Nat) : Int)) ∧ zb_W (d + 5) ax_m72 (10, [some (.inr (.inr (some (39 + 29 * hs)))), some (.inl w), some (.inl h), some (.inl how), some (.inl m), some (.inl (k + 1)), none, none], [], zc_S hf pf (ax_u I15 (66 + 29 * hs) k.toNat r18) J16) Q))) := by
      intro p hp e
      refine sc_paintedGlyph eh hS.ok hS.L hw hh hp (sc_turned (pf_pg_15 hS.ok _ _ _) hn (sc_readingOf eh hS hh (pf_seen_15 _ _) (fun I2 hE2 => ⟨by omega, ?_⟩)))
      refine ih (k + 1) _ (hE.trans (fun i j q1 q2 q3 q4 q5 => by rw [zu_ne (by omega)]; exact hE2 i j q1 q2 q3 q4)) (fun j j0 j1 => ?_) (by omega) (by omega) hQ
      by_cases e2 : j = k
      · subst e2
        rw [zu_eq]
        unfold pf_sdw
        rw [← e]
      · rw [zu_ne (by omega)]
        have : I2 (66 + 29 * hs) j.toNat = I (66 + 29 * hs) j.toNat := hE2 _ _ (by omega) (by omega) (by omega) (by omega)
        rw [this]; exact hi j j0 (by omega)
    refine zk_Shop_wordSeen_10 hf pf I J w h how m k hs eh ?_
    rw [zb_w (x := k) (by omega) (by omega), zb_w (x := m) (by omega) (by omega)]
    refine ⟨fun _ => ⟨fun _ => sc_readsBackwards hn (bc (fun e => ?_) (fun e => ?_)), fun c => absurd (show k < 6 by omega) c⟩, fun c => by omega⟩
    · exact go (m - 1 - k) (by omega) (by rw [if_pos e, hm])
    · exact go k (by omega) (by rw [if_neg e])
theorem sc_wordSeen (eh : hs = 0 ∨ hs = 1) (hS : cS D pg hs I) {w h how : Int} (hw : 0 ≤ w ∧ w < D 3 0 0) (hh : 0 ≤ h ∧ h < 2) (hn : n32 how) (hP : ∀ I', cU hs I I' → P (pf_fw D (pf_sdw D pg w h how) (D 4 w 0) (D 3 0 0).toNat 0) I' J) : zc_i (d + 6) 72 [.inr (.inr (some (39 + 29 * hs))), .inl w, .inl h, .inl how] hf pf I J P := by
  have h3 := hS.ok.a3 0 0
  have h4 := hS.ok.a4 w 0
  exact zc_ini (M := ax_m72) rfl (Nat.le_of_ble_eq_true rfl) (zk_Shop_wordSeen_0 hf pf I J w h how hs eh (sc_sizeOf eh hS.ok hS.L hw (sc_wordSeen_10 eh hS hw hh hn rfl (D 4 w 0).toNat 0 I (fun _ _ _ _ _ _ _ => rfl) (fun j _ _ => by omega) (by decide) (by omega) (fun I' a => zc_Qi.of (hP I' a)))))
theorem sc_mend_31 {I0 : zF} (eh : hs = 0 ∨ hs = 1) (hS0 : cS D pg hs I0) {h k : Int} (hh : 0 ≤ h ∧ h < 2) (hk : 0 ≤ k ∧ k < D 0 h 0) {Q : Option ax_v → ax_S → Prop} : ∀ (m : Nat) (i g n : Int) (I : zF), cE hs I0 I → 0 ≤ i → i + m = 15 → g15 g → (∀ I', cE hs I0 I' → Q (some (.inl (pf_md D pg h k m i g n))) (zc_S hf pf I' J)) → zb_W (d + 5) ax_m10 (31, [some (.inr (.inr (some (40 + 29 * hs)))), some (.inl h), some (.inl k), none, some (.inl (D 1 h k)), some (.inl g), some (.inl n), some (.inl i), none], [], zc_S hf pf I J) Q := by
  intro m
  induction m with
  | zero =>
    intro i g n I hE h0 he hg hQ
    refine zk_Alphabet_strokesToMend_31 hf pf I J h k _ g n i hs eh ?_
    rw [zb_w (x := i) (by omega) (by omega)]
    exact ⟨fun c => absurd (show i < 15 from c) (by omega), fun _ => hQ I hE⟩
  | succ m ih =>
    intro i g n I hE h0 he hg hQ
    have hS := hE.S hS0
    have a1 := hS0.ok.a1 h k
    have a2 := hS0.ok.a2 h k
    have hi : 0 ≤ i ∧ i < 15 := by omega
    have hb1 := gb_bit hg.g31 (i := i) (by omega)
    have hb2 := gb_bit a2.g31 (i := i) (by omega)
    unfold pf_md at hQ
    rw [hb1, hb2] at hQ
    refine zk_Alphabet_strokesToMend_31 hf pf I J h k _ g n i hs eh ?_
    rw [zb_w (x := i) (by omega) (by omega)]
    refine ⟨fun _ => sc_glyphOf eh hS.ok hS.L hh hk ?_, fun c => absurd (show i < 15 by omega) c⟩
    rw [bit_miss a2 hg hi]
    cases hq2 : gb (D 2 h k) i <;> cases hq1 : gb g i <;> rw [hq1, hq2] at hQ
    · rw [if_neg (by decide)]
      rw [if_pos (Or.inr (if_neg (by decide)))] at hQ
      exact b0 (zk_Alphabet_strokesToMend_86 hf pf I J h k _ g n i hs (ih (i + 1) g n I hE (by omega) (by omega) hg hQ))
    · rw [if_neg (by decide)]
      rw [if_pos (Or.inr (if_neg (by decide)))] at hQ
      exact b0 (zk_Alphabet_strokesToMend_86 hf pf I J h k _ g n i hs (ih (i + 1) g n I hE (by omega) (by omega) hg hQ))
    · rw [if_pos (by decide)]
      rw [if_neg (by decide)] at hQ
      have hsh := g15_shl hi
      have hg2 := g15_or hg hsh
      have hr := pf_read_in hS0.ok h (ax_or g (ax_shl 1 i))
      rw [hsh.w, show ax_w 0 = 0 from rfl]
      refine ⟨fun e => absurd e (shl_ne0 hi), fun _ => sc_readingOf eh hS hh hg2 (fun I2 hE2 => ?_)⟩
      rw [zb_w (x := pf_read D pg h (ax_or g (ax_shl 1 i))) (by omega) (by omega), zb_w (x := D 1 h k) (by omega) (by omega)]
      refine ⟨fun e => ?_, fun e => ?_⟩
      · rw [if_pos e] at hQ; exact hQ I2 (hE.trans hE2)
      · rw [if_neg e] at hQ
        exact zk_Alphabet_strokesToMend_86 hf pf I2 J h k _ _ _ i hs (ih (i + 1) _ _ I2 (hE.trans hE2) (by omega) (by omega) hg2 hQ)
    · rw [if_neg (by decide)]
      rw [if_pos (Or.inl (if_pos rfl))] at hQ
      exact b0 (zk_Alphabet_strokesToMend_86 hf pf I J h k _ g n i hs (ih (i + 1) g n I hE (by omega) (by omega) hg hQ))
theorem sc_strokesToMend (eh : hs = 0 ∨ hs = 1) (hS : cS D pg hs I) {h k g : Int} (hh : 0 ≤ h ∧ h < 2) (hk : 0 ≤ k ∧ k < D 0 h 0) (hg : g15 g) (hP : ∀ I', cE hs I I' → P (if pf_read D pg h g = D 1 h k then 0 else pf_md D pg h k 15 0 g 0) I' J) : zc_i (d + 6) 10 [.inr (.inr (some (40 + 29 * hs))), .inl h, .inl k, .inl g] hf pf I J P := by
  have a1 := hS.ok.a1 h k
  have hr := pf_read_in hS.ok h g
  refine zc_ini (M := ax_m10) rfl (Nat.le_of_ble_eq_true rfl) (zk_Alphabet_strokesToMend_0 hf pf I J h k g hs eh (sc_nameOf eh hS.ok hS.L hh hk (sc_readingOf eh hS hh hg (fun I1 hE => ?_))))
  rw [zb_w (x := pf_read D pg h g) (by omega) (by omega), zb_w (x := D 1 h k) (by omega) (by omega)]
  refine ⟨fun e => zc_Qi.of ?_, fun e => ?_⟩
  · have := hP I1 hE
    rwa [if_pos e] at this
  · rw [if_neg e] at hP
    exact sc_mend_31 eh hS hh hk 15 0 g 0 I1 hE (by decide) (by decide) hg (fun I' a => zc_Qi.of (hP I' a))
theorem sc_washed_21 {I0 : zF} (eh : hs = 0 ∨ hs = 1) (hS0 : cS D pg hs I0) {g place year : Int} (hg : g15 g) (hp : 0 ≤ place ∧ place < 6) (hy : 0 ≤ year ∧ year ≤ 2000) {Q : Option ax_v → ax_S → Prop} : ∀ (m : Nat) (i l : Int) (I : zF), cE hs I0 I → I (61 + 29 * hs) 5 = place → I (61 + 29 * hs) 7 = year → 0 ≤ i → i + m = 15 → g15 l → (∀ j, i ≤ j → j < 15 → gb l j = gb g j) → (∀ I', cE hs I0 I' → Q (some (.inl (pf_washL pg g place year m i l))) (zc_S hf pf I' J)) → zb_W (d + 3) ax_m75 (21, [some (.inr (.inr (some (39 + 29 * hs)))), some (.inl g), none, none, some (.inl l), some (.inl i)], [], zc_S hf pf I J) Q := by
  intro m
  induction m with
  | zero =>
    intro i l I hE h5 h7 h0 he hl hbits hQ
    refine zk_Shop_washed_21 hf pf I J g l i hs eh ?_
    rw [zb_w (x := i) (by omega) (by omega)]
    exact ⟨fun c => absurd (show i < 15 from c) (by omega), fun _ => hQ I hE⟩
  | succ m ih =>
    intro i l I hE h5 h7 h0 he hl hbits hQ
    have hi : 0 ≤ i ∧ i < 15 := by omega
    have hb := bit01' g i
    have hgb := gb_bit hg.g31 (i := i) (by omega)
    have et : Int.tdiv i 3 = i / 3 := Int.tdiv_eq_ediv_of_nonneg h0
    have em : Int.tmod i 3 = i % 3 := Int.tmod_eq_emod_of_nonneg h0
    unfold pf_washL at hQ
    refine zk_Shop_washed_21 hf pf I J g l i hs eh ?_
    rw [zb_w (x := i) (by omega) (by omega), show ax_w 3 = 3 from rfl, et, em, zb_w (x := ax_and (ax_shr g i) 1) (by omega) (by omega), show ax_w 0 = 0 from rfl, show (3 : Int).toNat = 3 from rfl, show (ax_w 4).toNat = 4 from rfl, show (ax_w 6).toNat = 6 from rfl]
    refine ⟨fun _ => ⟨fun e => ?_, fun e => sc_nearOf hi ?_⟩, fun c => absurd (show i < 15 by omega) c⟩
    · rw [if_neg (by omega)] at hQ
      exact zk_Shop_washed_93 hf pf I J g l i hs (ih (i + 1) l I hE h5 h7 (by omega) (by omega) hl (fun j j0 j1 => hbits j (by omega) j1) hQ)
    · have e1 : ax_and (ax_shr g i) 1 = 1 := by omega
      have hE1 : cE hs I (ax_u (ax_u (ax_u I (61 + 29 * hs) 3 (i % 3)) (61 + 29 * hs) 4 (i / 3)) (61 + 29 * hs) 6 (pf_near g i)) := (((cE.refl hs I).u (by omega)).u (by omega)).u (by omega)
      have f3 : (ax_u (ax_u (ax_u I (61 + 29 * hs) 3 (i % 3)) (61 + 29 * hs) 4 (i / 3)) (61 + 29 * hs) 6 (pf_near g i)) (61 + 29 * hs) 3 = i % 3 := by rw [zu_ne (by omega), zu_ne (by omega), zu_eq]
      have f4 : (ax_u (ax_u (ax_u I (61 + 29 * hs) 3 (i % 3)) (61 + 29 * hs) 4 (i / 3)) (61 + 29 * hs) 6 (pf_near g i)) (61 + 29 * hs) 4 = i / 3 := by rw [zu_ne (by omega), zu_eq]
      have f6 : (ax_u (ax_u (ax_u I (61 + 29 * hs) 3 (i % 3)) (61 + 29 * hs) 4 (i / 3)) (61 + 29 * hs) 6 (pf_near g i)) (61 + 29 * hs) 6 = pf_near g i := zu_eq
      have f5 : (ax_u (ax_u (ax_u I (61 + 29 * hs) 3 (i % 3)) (61 + 29 * hs) 4 (i / 3)) (61 + 29 * hs) 6 (pf_near g i)) (61 + 29 * hs) 5 = place := by rw [zu_ne (by omega), zu_ne (by omega), zu_ne (by omega)]; exact h5
      have f7 : (ax_u (ax_u (ax_u I (61 + 29 * hs) 3 (i % 3)) (61 + 29 * hs) 4 (i / 3)) (61 + 29 * hs) 6 (pf_near g i)) (61 + 29 * hs) 7 = year := by rw [zu_ne (by omega), zu_ne (by omega), zu_ne (by omega)]; exact h7
      revert hE1 f3 f4 f6 f5 f7
      generalize ax_u (ax_u (ax_u I (61 + 29 * hs) 3 (i % 3)) (61 + 29 * hs) 4 (i / 3)) (61 + 29 * hs) 6 (pf_near g i) = I1
      intro hE1 f3 f4 f6 f5 f7
      have hS1 := (hE.trans hE1).S hS0
      have hn := pf_near_in g i
      have hvb : ∀ p, b6 (pf_vr (i % 3) (i / 3) place (pf_near g i) year p) := by
        intro p
        unfold pf_vr b6
        split
        · omega
        · split
          · omega
          · split
            · omega
            · split <;> omega
      have h01 : pf_lost pg g i place year = 0 ∨ pf_lost pg g i place year = 1 := by
        unfold pf_lost
        rcases hS0.ok.2.2.2.1 with q | q
        · rw [q]; exact Or.inl rfl
        · exact (pf_res_ok (kd := 1) (fun p _ => hvb p) q0_b q).2 rfl
      refine sc_run (kd := 1) (v := pf_vr (i % 3) (i / 3) place (pf_near g i) year) (q := pf_q0) (b := true) (by unfold isP; omega) (by omega) (cK24 eh).2 (by omega) ⟨fun p hp hp9 => ?_, fun q => absurd q (by decide), q0_b, fun p _ => hvb p⟩ hS1.2.2.2 hS0.ok.2.2.2.1 (fun I2 hF => ?_)
      · have hp' := of_decide_eq_true hp
        refine ⟨?_, hvb p⟩
        have : p = 3 ∨ p = 4 ∨ p = 5 ∨ p = 6 ∨ p = 7 := by omega
        unfold pf_vr
        rcases this with rfl | rfl | rfl | rfl | rfl
        · exact f3
        · exact f4
        · exact f5
        · exact f6
        · exact f7
      · have hE2 : cE hs I0 I2 := (hE.trans hE1).trans (fun i j q1 q2 q3 q4 => hF i j (by omega))
        have g5 : I2 (61 + 29 * hs) 5 = place := by rw [hF _ _ (by omega)]; exact f5
        have g7 : I2 (61 + 29 * hs) 7 = year := by rw [hF _ _ (by omega)]; exact f7
        have el : pf_res (pf_vr (i % 3) (i / 3) place (pf_near g i) year) pf_q0 (pg 1) = pf_lost pg g i place year := rfl
        rw [el]
        refine b01 h01 (fun e2 => ?_) (fun e2 => ?_)
        · rw [if_pos ⟨e1, e2⟩] at hQ
          have hgi : gb l i = true := by
            rw [hbits i (Int.le_refl _) hi.2]
            cases hq : gb g i
            · rw [hq, if_neg (by decide)] at hgb; omega
            · rfl
          rw [bit_off hl hi hgi] at hQ
          refine zk_Shop_washed_93 hf pf I2 J g _ i hs (ih (i + 1) _ I2 hE2 g5 g7 (by omega) (by omega) (g15_xor hl (g15_shl hi)) (fun j j0 j1 => ?_) hQ)
          rw [← bit_off hl hi hgi, bit_off_o hl hi ⟨by omega, by omega⟩ (by omega)]
          exact hbits j (by omega) j1
        · rw [if_neg (by omega)] at hQ
          exact zk_Shop_washed_93 hf pf I2 J g l i hs (ih (i + 1) l I2 hE2 g5 g7 (by omega) (by omega) hl (fun j j0 j1 => hbits j (by omega) j1) hQ)
theorem sc_washed (eh : hs = 0 ∨ hs = 1) (hS : cS D pg hs I) {g place year : Int} (hg : g15 g) (hp : 0 ≤ place ∧ place < 6) (hy : 0 ≤ year ∧ year ≤ 2000) (hP : ∀ I', cE hs I I' → P (pf_wash pg g place year) I' J) : zc_i (d + 4) 75 [.inr (.inr (some (39 + 29 * hs))), .inl g, .inl place, .inl year] hf pf I J P := by
  refine zc_ini (M := ax_m75) rfl (Nat.le_of_ble_eq_true rfl) (zk_Shop_washed_0 hf pf I J g place year hs eh ?_)
  rw [show (ax_w 5).toNat = 5 from rfl, show (ax_w 7).toNat = 7 from rfl]
  refine sc_washed_21 eh hS hg hp hy 15 0 g _ (((cE.refl hs I).u (by omega)).u (by omega)) ?_ ?_ (by decide) (by decide) hg (fun _ _ _ => rfl) (fun I' a => zc_Qi.of (hP I' a))
  · rw [zu_ne (by omega), zu_eq]
  · rw [zu_eq]
end ZC4
