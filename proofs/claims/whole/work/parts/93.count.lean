/-! the class's counts -/
def cc_up (Nu Nu' : Nat → Int32) (row : Nat) (g : Nat → Int32) : Prop := (∀ i, i < row → Nu' i = Nu i) ∧ ∀ q, q < 256 → Nu' (row + q) = Nu (row + q) + g q
theorem cc_tr {A B C : Nat → Int32} {row : Nat} {g h : Nat → Int32} (a : cc_up A B row g) (b : cc_up B C row h) : cc_up A C row (fun q => g q + h q) :=
  ⟨fun i hi => by rw [b.1 i hi, a.1 i hi], fun q hq => by rw [b.2 q hq, a.2 q hq, Int32.add_assoc]⟩
theorem cc_eq {A B : Nat → Int32} {row : Nat} {g h : Nat → Int32} (a : cc_up A B row g) (e : ∀ q, q < 256 → g q = h q) : cc_up A B row h :=
  ⟨a.1, fun q hq => by rw [a.2 q hq, e q hq]⟩
theorem cc_rf {A : Nat → Int32} {row : Nat} {g : Nat → Int32} (h : ∀ q, q < 256 → g q = 0) : cc_up A A row g := ⟨fun _ _ => rfl, fun q hq => by rw [h q hq, Int32.add_zero]⟩
theorem cc_one {A : Nat → Int32} {row a : Nat} {v : Int32} : cc_up A (upd A (row + a) (A (row + a) + v)) row (fun q => pm_dl a q v) := by
  refine ⟨fun i hi => pk_un (by omega), fun q hq => ?_⟩
  show _ = A (row + q) + (if a = q then v else 0)
  by_cases e : a = q
  · subst e
    rw [pk_us, if_pos rfl]
  · rw [pk_un (by omega), if_neg e, Int32.add_zero]
theorem ps_addTerms {Cd MfGo MsGo v : Int32} {Nu MfRe MsRe : Nat → Int32} {t0 t1 : Nat → Nat} {f e l r row : Nat} (h0 : ∀ j, t0 j < 16) (h1 : ∀ j, t1 j < 16) (b0 : iv_re MfRe t0) (b1 : iv_re MsRe t1) (hfe : f ≤ e) (he : e ≤ 8) (hl : l < 256) (hr : r < 256) (hv : ∀ s, f ≤ s → s < e → (s < 3 → l = 17) ∧ (s < 5 → r = 17)) (hrow : row + 256 ≤ 3328)
    {Q : (Nat → Int32) → Prop} (hQ : ∀ Nu', cc_up Nu Nu' row (fun q => pm_s (fun s => pm_dl (pm_pf t0 t1 (f + s) l r) q v) (e - f)) → Q Nu') :
    wp_X0_addTerms Cd MfGo MfRe MsGo MsRe Nu (nI f) (nI e) (nI l) (nI r) (nI row) v Q := by
  have main : ∀ (d s : Nat) (N : Nat → Int32), s + d = e → f ≤ s → cc_up Nu N row (fun q => pm_s (fun s => pm_dl (pm_pf t0 t1 (f + s) l r) q v) (s - f)) → lp_X0_addTerms_3 Cd MfGo MfRe MsGo MsRe Q (d + 1) N (nI e) (nI l) (nI r) (nI row) v (nI s) := by
    intro d
    induction d with
    | zero =>
      intro s N es hs hN
      refine ⟨fun _ => hQ N ?_, fun w => absurd (nI_le (by omega) (by omega)) w⟩
      rw [show e = s by omega]
      exact hN
    | succ d ih =>
      intro s N es hs hN
      have hp := pm_pf_lt h0 h1 s l r
      obtain ⟨v1, v2⟩ := hv s hs (by omega)
      refine ⟨fun w => absurd w (nI_ge (by omega) (by omega)), fun _ => ps_profileOf h0 h1 b0 b1 (by omega) hl hr v1 v2 ?_⟩
      rw [nI_add]
      refine ⟨vp_in_nI (by omega) (by decide), vp_in_nI (by omega) (by decide), fun N' eN y ey => ?_⟩
      rw [pn_clamp (by omega)] at eN
      rw [ey, nI_1]
      refine ih (s + 1) N' (by omega) (by omega) (cc_eq (cc_tr hN (by rw [eN]; exact cc_one)) (fun q hq => ?_))
      rw [show s + 1 - f = (s - f) + 1 by omega]
      show _ = pm_s (fun s => pm_dl (pm_pf t0 t1 (f + s) l r) q v) (s - f) + pm_dl (pm_pf t0 t1 (f + (s - f)) l r) q v
      rw [show f + (s - f) = s by omega]
  unfold wp_X0_addTerms wp_X0_addTerms_in
  refine ⟨_, main (e - f) f Nu (by omega) (Nat.le_refl f) (cc_rf (fun q _ => ?_))⟩
  rw [Nat.sub_self]
  rfl
theorem ps_couples {Cd LCo LKn : Int32} {LSi Nu : Nat → Int32} {T : Nat → Nat → Int32} {l r a b n : Nat} (hl : l < 256) (hr : r < 256) (ea : LSi l = nI a) (eb : LSi r = nI b) (ha : 1 ≤ a) (hb : 1 ≤ b) (hab : a + b ≤ n) (hn : n ≤ 11)
    (hT : ∀ k p, 1 ≤ k → k < n → p < 256 → Nu (k * 256 + p) = T k p) (zl : ∀ k, 1 ≤ k → k < a → T k l = 0) (zr : ∀ k, 1 ≤ k → k < b → T k r = 0) {Q : Int32 → Prop} (hQ : Q (pm_cp T l r n)) :
    wp_X0_couples Cd LCo LKn LSi Nu (nI l) (nI r) (nI n) Q := by
  have main : ∀ (d k : Nat), k + d = n - b + 1 → a ≤ k → lp_X0_couples_25 Cd LCo LKn LSi Nu Q (d + 1) (nI l) (nI r) (nI n) (pm_s (fun j => T (1 + j) l * T (n - 1 - j) r) (k - 1)) (nI (n - b)) (nI k) := by
    intro d
    induction d with
    | zero =>
      intro k ek hk
      refine ⟨fun _ => ?_, fun w => absurd (nI_lt (by omega) (by omega)) w⟩
      have e : pm_s (fun j => T (1 + j) l * T (n - 1 - j) r) (k - 1) = pm_cp T l r n := by
        unfold pm_cp
        rw [pm_s_tail (a := k - 1) (n - 1) (by omega) (fun j h1 h2 => ?_)]
        show T (1 + j) l * T (n - 1 - j) r = 0
        rw [zr (n - 1 - j) (by omega) (by omega), Int32.mul_zero]
      rw [e]
      exact hQ
    | succ d ih =>
      intro k ek hk
      refine ⟨fun w => absurd w (nI_nlt (by omega) (by omega)), fun _ => ?_⟩
      have m1 : nI k * 256 = nI (k * 256) := pk_mul k 256
      have m2 : nI (n - k) * 256 = nI ((n - k) * 256) := pk_mul (n - k) 256
      rw [pk_sub (a := n) (b := k) (by omega), m1, m2, nI_add, nI_add]
      refine ⟨vp_in_nI (by omega) (by decide), vp_in_nI (by omega) (by decide), fun y ey z ez => ?_⟩
      rw [pn_clamp (by omega), pn_clamp (by omega), hT k l (by omega) (by omega) hl, hT (n - k) r (by omega) (by omega) hr] at ey
      rw [ez, nI_1]
      have e : y = pm_s (fun j => T (1 + j) l * T (n - 1 - j) r) (k + 1 - 1) := by
        rw [ey, show k + 1 - 1 = (k - 1) + 1 by omega]
        show _ = pm_s (fun j => T (1 + j) l * T (n - 1 - j) r) (k - 1) + T (1 + (k - 1)) l * T (n - 1 - (k - 1)) r
        rw [show 1 + (k - 1) = k by omega, show n - 1 - (k - 1) = n - k by omega]
      rw [e]
      exact ih (k + 1) (by omega) (by omega)
  unfold wp_X0_couples wp_X0_couples_in
  refine ⟨vp_in_nI hr (by decide), fun x5 e5 => ⟨vp_in_nI hl (by decide), ?_⟩⟩
  rw [pn_clamp (by omega), eb, pk_sub (a := n) (b := b) (by omega)] at e5
  rw [pn_clamp (by omega), ea, e5]
  have z : (0 : Int32) = pm_s (fun j => T (1 + j) l * T (n - 1 - j) r) (a - 1) := by
    refine (pm_s_0 (a - 1) (fun j hj => ?_)).symm
    rw [zl (1 + j) (by omega) (by omega), Int32.zero_mul]
  rw [z]
  exact ⟨_, main (n - b + 1 - a) a (by omega) (Nat.le_refl a)⟩
theorem lt_O_inj {c : Nat} {fo ln : Nat → Nat} {W : Nat → List Nat} (hO : lt_O c fo ln W) {i j : Nat} (hi : i < c) (hj : j < c) (e : fo i = fo j) (h : ln (fo i) ≤ 32) : i = j := by
  rcases Nat.lt_trichotomy i j with q | q | q
  · have := (hO i j q hj).2 (by rw [e]) h
    rw [e] at this
    exact absurd this (pm_lx_irr _)
  · exact q
  · have := (hO j i q hi).2 (by rw [e]) (by rw [← e]; exact h)
    rw [e] at this
    exact absurd this (pm_lx_irr _)
theorem pm_cp_ne {pf : Nat → Nat → Nat → Nat} {T : Nat → Nat → Int32} {ln : Nat → Nat} {W : Nat → List Nat} {n l r : Nat} (hg : pm_gd pf T n) (hs : pm_snd pf ln W) (hf : pm_fix pf ln W) (hn : n ≤ 11) (hl : l < 256) (hr : r < 256) (h : pm_cp T l r n ≠ 0) : ln l ≠ 0 ∧ ln r ≠ 0 ∧ ln l + ln r ≤ n := by
  unfold pm_cp at h
  obtain ⟨j, hj, q⟩ := pm_s_ne _ h
  obtain ⟨q1, q2⟩ := pm_mul_ne q
  have a := pm_gd_ln hg hs hf (k := 1 + j) (by omega) (by omega) (by omega) hl q1
  have b := pm_gd_ln hg hs hf (k := n - 1 - j) (by omega) (by omega) (by omega) hr q2
  exact ⟨a.1, b.1, by omega⟩
theorem pn_neg {a b x : Nat} (ha : a < 2 ^ 30) (hb : b < 2 ^ 30) (hx : x < 2 ^ 30) : nI x ≤ nI a - nI b ↔ x + b ≤ a := by
  rw [Int32.le_iff_toInt_le, pk_sub_toInt ha hb, nI_toInt (by omega)]
  omega
/-- what a left child adds with every right one -/
def pm_n2 (pf : Nat → Nat → Nat → Nat) (T : Nat → Nat → Int32) (m l q r : Nat) : Int32 := pm_s (fun s => pm_dl (pf (5 + s) l r) q (pm_cp T l r (m - 1))) 3
theorem ps_withLeft {Cd LCo LKn MfGo MsGo : Int32} {LFo LLe LRi LSi LSy Nu MfRe MsRe : Nat → Int32} {T : Nat → Nat → Int32} {t0 t1 fo ln sy le ri : Nat → Nat} {W : Nat → List Nat} {c l m : Nat} (h0 : ∀ j, t0 j < 16) (h1 : ∀ j, t1 j < 16) (b0 : iv_re MfRe t0) (b1 : iv_re MsRe t1)
    (hI : iv_L LCo LFo LLe LRi LSi LSy c fo ln sy le ri) (hB : lt_B (pm_pf t0 t1) c fo ln sy le ri W) (hO : lt_O c fo ln W) (hf : pm_fix (pm_pf t0 t1) ln W) (hm : 2 ≤ m) (hm2 : m ≤ 12) (hl : l < 256) (hl0 : ln l ≠ 0) (hg : pm_gd (pm_pf t0 t1) T (m - 1)) (hT : ∀ k p, 1 ≤ k → k < m → p < 256 → Nu (k * 256 + p) = T k p)
    {Q : (Nat → Int32) → Prop} (hQ : ∀ Nu', cc_up Nu Nu' (m * 256) (fun q => pm_s (pm_n2 (pm_pf t0 t1) T m l q) 256) → Q Nu') :
    wp_X0_countWithLeft Cd LCo LKn LFo LSi MfGo MfRe MsGo MsRe Nu (nI l) (nI m) (nI c) Q := by
  obtain ⟨z1, z2, z3, z4, z5, z6⟩ := id hB
  obtain ⟨-, c256, i3, i4⟩ := hI
  have ell := (i4 l hl).1
  have ln33 := fun p hp => (i4 p hp).2.1
  have n2ne : ∀ q r, r < 256 → pm_n2 (pm_pf t0 t1) T m l q r ≠ 0 → pm_cp T l r (m - 1) ≠ 0 := by
    intro q r hr h
    obtain ⟨s, _, h'⟩ := pm_s_ne _ h
    exact (pm_dl_ne h').2
  have cpne : ∀ r, r < 256 → pm_cp T l r (m - 1) ≠ 0 → ln r ≠ 0 ∧ ln l + ln r ≤ m - 1 := fun r hr h => (pm_cp_ne hg z2 hf (by omega) hl hr h).2
  have n20 : ∀ q r, r < 256 → (ln r = 0 ∨ m - 1 < ln l + ln r) → pm_n2 (pm_pf t0 t1) T m l q r = 0 := by
    intro q r hr h
    by_cases e : pm_n2 (pm_pf t0 t1) T m l q r = 0
    · exact e
    · have := cpne r hr (n2ne q r hr e)
      omega
  -- the end: what is left adds nothing
  have fin : ∀ (i : Nat) (N : Nat → Int32), i ≤ c → (∀ j, i ≤ j → j < c → m - 1 < ln l + ln (fo j)) → cc_up Nu N (m * 256) (fun q => pm_s (fun i => pm_n2 (pm_pf t0 t1) T m l q (fo i)) i) → Q N := by
    intro i N hi hrest hN
    refine hQ N (cc_eq hN (fun q hq => ?_))
    rw [← pm_s_tail (a := i) c hi (fun j h1 h2 => n20 q (fo j) (z4 j h2).1 (Or.inr (hrest j h1 h2)))]
    refine pm_s_fo (g := pm_n2 (pm_pf t0 t1) T m l q) (fun j hj => (z4 j hj).1) (fun j j' hj hj' e hne => ?_) (fun p hp hno => ?_)
    · have := cpne _ (z4 j hj).1 (n2ne q _ (z4 j hj).1 hne)
      exact lt_O_inj hO hj hj' e (by omega)
    · refine n20 q p hp (Or.inl ?_)
      by_cases e : ln p = 0
      · exact e
      · obtain ⟨j, hj, ej⟩ := z5 p e
        exact absurd ej (hno j hj)
  have main : ∀ (d i : Nat) (N : Nat → Int32), i + d = c → cc_up Nu N (m * 256) (fun q => pm_s (fun i => pm_n2 (pm_pf t0 t1) T m l q (fo i)) i) → lp_X0_countWithLeft_17 Cd LCo LKn LFo LSi MfGo MfRe MsGo MsRe Q (d + 1) N (nI l) (nI m) (nI c) (nI (m - 1) - nI (ln l)) (nI i) := by
    intro d
    induction d with
    | zero =>
      intro i N ei hN
      exact ⟨fun _ => fin i N (by omega) (fun j h1 h2 => by omega) hN, fun w => absurd (nI_le (by omega) (by omega)) w⟩
    | succ d ih =>
      intro i N ei hN
      have f4 := z4 i (by omega)
      have r33 := ln33 _ f4.1
      have l33 := ln33 _ hl
      refine ⟨fun w => absurd w (nI_ge (by omega) (by omega)), fun _ => ⟨vp_in_nI (by omega) (by decide), ?_⟩⟩
      rw [pn_clamp (by omega), i3 i (by omega)]
      refine ⟨vp_in_nI f4.1 (by decide), ?_⟩
      rw [pn_clamp (by omega), (i4 _ f4.1).1]
      refine ⟨fun w => ?_, fun w => ?_⟩
      · have hle := (pn_neg (by omega) (by omega) (by omega)).mp w
        have em : nI m - 1 = nI (m - 1) := pk_sub (a := m) (b := 1) (by omega)
        rw [em]
        refine ps_couples (T := T) (a := ln l) (b := ln (fo i)) hl f4.1 ell (i4 _ f4.1).1 (by omega) (by omega) (by omega) (by omega) (fun k p q1 q2 q3 => ?_) (fun k q1 q2 => ?_) (fun k q1 q2 => ?_) ⟨fun w0 y ey => ?_, fun w0 => ?_⟩
        · rw [hN.1 _ (by omega)]
          exact hT k p q1 (by omega) q3
        · by_cases e : T k l = 0
          · exact e
          · have := pm_gd_ln hg z2 hf q1 (by omega) (by omega) hl e
            omega
        · by_cases e : T k (fo i) = 0
          · exact e
          · have := pm_gd_ln hg z2 hf q1 (by omega) (by omega) f4.1 e
            omega
        · rw [ey, nI_1]
          refine ih (i + 1) N (by omega) (cc_eq hN (fun q hq => ?_))
          show _ = pm_s (fun i => pm_n2 (pm_pf t0 t1) T m l q (fo i)) i + pm_n2 (pm_pf t0 t1) T m l q (fo i)
          have : pm_n2 (pm_pf t0 t1) T m l q (fo i) = 0 := by
            by_cases e : pm_n2 (pm_pf t0 t1) T m l q (fo i) = 0
            · exact e
            · exact absurd w0 (n2ne q _ f4.1 e)
          rw [this, Int32.add_zero]
        · have mm : nI m * 256 = nI (m * 256) := pk_mul m 256
          rw [mm]
          refine ps_addTerms (f := 5) (e := 8) h0 h1 b0 b1 (by decide) (by decide) hl f4.1 (fun s q1 q2 => ⟨fun q => by omega, fun q => by omega⟩) (by omega) (fun N' hN' y ey => ?_)
          rw [ey, nI_1]
          refine ih (i + 1) N' (by omega) (cc_tr hN hN')
      · refine fin i N (by omega) (fun j q1 q2 => ?_) hN
        have hgt : ¬ (ln (fo i) + ln l ≤ m - 1) := fun q => w ((pn_neg (by omega) (by omega) (by omega)).mpr q)
        have : ln (fo i) ≤ ln (fo j) := by
          by_cases e : i = j
          · rw [e]; exact Nat.le_refl _
          · exact (hO i j (by omega) q2).1
        omega
  unfold wp_X0_countWithLeft wp_X0_countWithLeft_in
  refine ⟨vp_in_nI hl (by decide), fun x4 e4 => ?_⟩
  have em : nI m - 1 = nI (m - 1) := pk_sub (a := m) (b := 1) (by omega)
  rw [pn_clamp (by omega), ell, em] at e4
  rw [e4]
  exact ⟨_, main c 0 Nu (by omega) (cc_rf (fun q _ => rfl))⟩
