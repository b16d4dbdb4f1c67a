/-! learn: the least terms, size by size -/
def lt_I (pf : Nat → Nat → Nat → Nat) (k g : Nat) (Co : Int32) (Bw Fo Le Ra Ri Si St Sy : Nat → Int32) : Prop :=
  ∃ (c : Nat) (fo ln sy le ri bw : Nat → Nat) (W : Nat → List Nat), iv_L Co Fo Le Ri Si Sy c fo ln sy le ri ∧ lt_B pf c fo ln sy le ri W ∧ lt_O c fo ln W ∧
    (∀ p, ln p ≠ 0 → ln p < k ∧ ln p ≤ g) ∧ (∀ m, 1 ≤ m → m < k → ∃ e, e ≤ c ∧ St m = nI e ∧ ∀ i, i < c → (i < e ↔ ln (fo i) < m)) ∧
    (∀ i, i < c → Bw i = nI (bw i) ∧ bw i < 256 ∧ ln (bw i) ≠ 0) ∧ (∀ i j, i < j → j < c → pm_lx (W (bw i)) (W (bw j))) ∧ (∀ p, ln p ≠ 0 → ∃ i, i < c ∧ bw i = p) ∧ (∀ i, i < c → Ra (bw i) = nI i) ∧
    (∀ s l r, s < 8 → pm_vl ln s l r → 1 + pm_ll s ln l + pm_rl s ln r < k → pm_be (ln (pf s l r)) (W (pf s l r)) (1 + pm_ll s ln l + pm_rl s ln r) (pm_cw s W l r))
theorem pn_2g {g : Nat} (hg : g ≤ 100) : (2 : Int32) * nI g + 1 = nI (2 * g + 1) := by
  have e : (2 : Int32) * nI g = nI (2 * g) := pk_mul (a := 2) (b := g)
  rw [e]; exact nI_1 _
theorem ps_canHave {k g : Nat} (hk : k ≤ 100) (hg : g ≤ 100) {Q : Int32 → Prop} (h0 : 2 * g + 1 < k → Q 0) (h1 : k ≤ 2 * g + 1 → Q 1) : wp_X2_canHaveSize (nI k) (nI g) Q := by
  unfold wp_X2_canHaveSize wp_X2_canHaveSize_in
  rw [pn_2g hg]
  refine ⟨fun w => h0 ((nI_ltI (by omega) (by omega)).mp w), fun w => h1 ?_⟩
  rcases Nat.lt_or_ge (2 * g + 1) k with q | q
  · exact absurd ((nI_ltI (by omega) (by omega)).mpr q) w
  · exact q
theorem ps_learn_end {MfGo MsGo Co Kn : Int32} {Bw Fo Le Ra Ri Si St Sy MfRe MsRe : Nat → Int32} {t0 t1 : Nat → Nat} {k g : Nat} (h0 : ∀ j, t0 j < 16) (h1 : ∀ j, t1 j < 16) (b0 : iv_re MfRe t0) (b1 : iv_re MsRe t1)
    (hk : k ≤ 33) (hg : g ≤ 32) (he : k = 33 ∨ 2 * g + 1 < k) (hI : lt_I (pm_pf t0 t1) k g Co Bw Fo Le Ra Ri Si St Sy)
    {Q : Int32 → Int32 → (Nat → Int32) → (Nat → Int32) → (Nat → Int32) → (Nat → Int32) → (Nat → Int32) → (Nat → Int32) → (Nat → Int32) → (Nat → Int32) → Prop}
    (hQ : ∀ Co' Bw' Fo' Le' Ra' Ri' Si' St' Sy', lt_T (pm_pf t0 t1) Co' Fo' Le' Ri' Si' Sy' → Q Co' 1 Bw' Fo' Le' Ra' Ri' Si' St' Sy') :
    wp_X2_learn_97 MfGo MfRe MsGo MsRe Q Co Kn Bw Fo Le Ra Ri Si St Sy (nI g) := by
  obtain ⟨c, fo, ln, sy, le, ri, bw, W, a1, a2, a3, a4, a5, a6, a7, a8, a9, a10⟩ := hI
  obtain ⟨z1, z2, z3, z4, z5, z6⟩ := id a2
  have tot : ∀ s l r, pm_vl ln s l r → 1 + pm_ll s ln l + pm_rl s ln r ≤ 2 * g + 1 := by
    intro s l r hv
    have u1 : pm_ll s ln l ≤ g := by
      unfold pm_ll
      by_cases w : 3 ≤ s
      · rw [if_pos w]; exact (a4 l (hv.2.2.1 w)).2
      · rw [if_neg w]; exact Nat.zero_le _
    have u2 : pm_rl s ln r ≤ g := by
      unfold pm_rl
      by_cases w : 5 ≤ s
      · rw [if_pos w]; exact (a4 r (hv.2.2.2 w)).2
      · rw [if_neg w]; exact Nat.zero_le _
    omega
  have cov : ∀ s l r, s < 8 → pm_vl ln s l r → 1 + pm_ll s ln l + pm_rl s ln r ≤ 32 → pm_be (ln (pm_pf t0 t1 s l r)) (W (pm_pf t0 t1 s l r)) (1 + pm_ll s ln l + pm_rl s ln r) (pm_cw s W l r) := by
    intro s l r hs hv ht
    have := tot s l r hv
    exact a10 s l r hs hv (by omega)
  unfold wp_X2_learn_97
  refine ps_canHave (k := 33) (by omega) (by omega) (fun w => ps_b0 (hQ _ _ _ _ _ _ _ _ _ ⟨c, fo, ln, sy, le, ri, W, a1, a2, a3, pm_fix_tot z2 cov (fun s l r hs hv ht => ?_)⟩)) (fun w => ps_b1 ?_)
  · have := tot s l r hv
    omega
  · exact ps_findLarger h0 h1 b0 b1 a1 a2 a3 (fun p hp => by have := a4 p hp; omega) cov (fun Co' Fo' Le' Ri' Si' Sy' hT => hQ _ _ _ _ _ _ _ _ _ hT)
theorem ps_learn_loop {MfGo MsGo Kn : Int32} {MfRe MsRe : Nat → Int32} {t0 t1 : Nat → Nat} (h0 : ∀ j, t0 j < 16) (h1 : ∀ j, t1 j < 16) (b0 : iv_re MfRe t0) (b1 : iv_re MsRe t1)
    {Q : Int32 → Int32 → (Nat → Int32) → (Nat → Int32) → (Nat → Int32) → (Nat → Int32) → (Nat → Int32) → (Nat → Int32) → (Nat → Int32) → (Nat → Int32) → Prop}
    (hQ : ∀ Co' Bw' Fo' Le' Ra' Ri' Si' St' Sy', lt_T (pm_pf t0 t1) Co' Fo' Le' Ri' Si' Sy' → Q Co' 1 Bw' Fo' Le' Ra' Ri' Si' St' Sy') :
    ∀ (d k g : Nat) (Co : Int32) (Bw Fo Le Ra Ri Si St Sy : Nat → Int32), k + d = 33 → 1 ≤ k → g ≤ 32 → lt_I (pm_pf t0 t1) k g Co Bw Fo Le Ra Ri Si St Sy → lp_X2_learn_25 MfGo MfRe MsGo MsRe Q (d + 1) Co Kn Bw Fo Le Ra Ri Si St Sy (nI g) (nI k) := by
  intro d
  induction d with
  | zero =>
    intro k g Co Bw Fo Le Ra Ri Si St Sy e hk1 hg hI
    exact ⟨fun _ => ps_learn_end h0 h1 b0 b1 (by omega) hg (Or.inl (by omega)) hI hQ, fun w => absurd ((nI_ltI (a := 32) (b := k) (by decide) (by omega)).mpr (by omega)) w⟩
  | succ d ih =>
    intro k g Co Bw Fo Le Ra Ri Si St Sy e hk1 hg hI
    refine ⟨fun w => absurd ((nI_ltI (a := 32) (b := k) (by decide) (by omega)).mp w) (by omega), fun _ => ps_canHave (by omega) (by omega) (fun w => ps_b0 (ps_learn_end h0 h1 b0 b1 (by omega) hg (Or.inr w) hI hQ)) (fun w => ps_b1 ⟨vp_in_nI (by omega) (by decide), fun St1 eS1 => ?_⟩)⟩
    rw [pn_clamp (by omega)] at eS1
    obtain ⟨c, fo, ln, sy, le, ri, bw, W, a1, a2, a3, a4, a5, a6, a7, a8, a9, a10⟩ := hI
    obtain ⟨z1, z2, z3, z4, z5, z6⟩ := id a2
    obtain ⟨rfl, c256, -⟩ := id a1
    have hS : lt_S k c fo ln W St1 Bw bw := by
      refine ⟨fun m hm hmk => ?_, a6, a7, a8⟩
      by_cases q : m = k
      · subst q
        refine ⟨c, Nat.le_refl _, by rw [eS1, pk_us], fun i hi => ⟨fun _ => (a4 _ (z4 i hi).2).1, fun _ => hi⟩⟩
      · obtain ⟨e1, f1, f2, f3⟩ := a5 m hm (by omega)
        exact ⟨e1, f1, by rw [eS1, pk_un q]; exact f2, f3⟩
    refine ps_findOfSize h0 h1 b0 b1 ⟨hk1, by omega⟩ (fun p hp => (a4 p hp).1) a2 a3 hS ⟨c, fo, ln, sy, le, ri, W, a1, a2, a3, Nat.le_refl _, fun _ _ => rfl, fun i u v => by omega, fun i u v => by omega, fun p _ => ⟨rfl, rfl, rfl, rfl, rfl⟩, fun p hp _ => hp, fun s l r _ hd => absurd hd (Nat.not_lt_zero _)⟩ (fun Co' Fo' Le' Ri' Si' Sy' hP => ?_)
    obtain ⟨c', fo', ln', sy', le', ri', W', p1, p2, p3, p4, p5, p6, p7, p8, p9, p10⟩ := hP
    obtain ⟨y1, y2, y3, y4, y5, y6⟩ := id p2
    obtain ⟨rfl, c256', -⟩ := id p1
    rw [nI_1]
    refine ⟨vp_in_nI (by omega) (by decide), fun St2 eS2 => ⟨vp_in_nI (by omega) (by decide), ?_⟩⟩
    rw [pn_clamp (by omega)] at eS2
    have eSk : St2 k = nI c := by rw [eS2, pk_un (by omega), eS1, pk_us]
    rw [pn_clamp (by omega), eSk]
    -- what holds either way
    have up : ∀ p, ln' p ≠ 0 → ln' p < k + 1 := by
      intro p hp
      by_cases q : ln' p = k
      · omega
      · have n0 := p9 p hp q
        have := (a4 p n0).1
        rw [(p8 p n0).1]; omega
    have starts : ∀ m, 1 ≤ m → m < k + 1 → ∃ e, e ≤ c' ∧ St2 m = nI e ∧ ∀ i, i < c' → (i < e ↔ ln' (fo' i) < m) := by
      intro m hm hmk
      obtain ⟨e1, f1, f2, f3⟩ := hS.1 m hm (by omega)
      refine ⟨e1, by omega, by rw [eS2, pk_un (by omega)]; exact f2, fun i hi => ?_⟩
      by_cases q : i < c
      · rw [p5 i q, (p8 _ (z4 i q).2).1]
        exact f3 i q
      · have := p6 i (by omega) hi
        constructor
        · intro u; omega
        · intro u; omega
    have cov : ∀ s l r, s < 8 → pm_vl ln' s l r → 1 + pm_ll s ln' l + pm_rl s ln' r < k + 1 → pm_be (ln' (pm_pf t0 t1 s l r)) (W' (pm_pf t0 t1 s l r)) (1 + pm_ll s ln' l + pm_rl s ln' r) (pm_cw s W' l r) := by
      intro s l r hs hv ht
      have ol : 3 ≤ s → ln l ≠ 0 := fun u => by
        have : pm_ll s ln' l = ln' l := by unfold pm_ll; rw [if_pos u]
        exact p9 l (hv.2.2.1 u) (by omega)
      have or' : 5 ≤ s → ln r ≠ 0 := fun u => by
        have : pm_rl s ln' r = ln' r := by unfold pm_rl; rw [if_pos u]
        exact p9 r (hv.2.2.2 u) (by omega)
      have e2 := pm_lr_eq (ln := ln') (ln' := ln) (s := s) (l := l) (r := r) (fun u => (p8 l (ol u)).1) (fun u => (p8 r (or' u)).1)
      have ew : pm_cw s W' l r = pm_cw s W l r := pm_cw_eq (fun u => (p8 l (ol u)).2.1) (fun u => (p8 r (or' u)).2.1)
      have hv0 : pm_vl ln s l r := ⟨hv.1, hv.2.1, ol, or'⟩
      rw [e2.1, e2.2] at ht
      rw [e2.1, e2.2, ew]
      by_cases q : 1 + pm_ll s ln l + pm_rl s ln r = k
      · rw [q]
        exact p10 s l r hs trivial hv0 q
      · have := a10 s l r hs hv0 (by omega)
        rw [(p8 _ this.1).1, (p8 _ this.1).2.1]
        exact this
    have m2 : ∀ i, i < c → Bw i = nI (bw i) ∧ bw i < 256 ∧ ln' (bw i) ≠ 0 ∧ ln' (bw i) < k := fun i hi => by
      obtain ⟨u1, u2, u3⟩ := a6 i hi
      have := a4 _ u3
      rw [(p8 _ u3).1]
      exact ⟨u1, u2, u3, this.1⟩
    have m3 : ∀ i j, i < j → j < c → pm_lx (W' (bw i)) (W' (bw j)) := fun i j hij hj => by
      rw [(p8 _ (a6 i (by omega)).2.2).2.1, (p8 _ (a6 j hj).2.2).2.1]
      exact a7 i j hij hj
    refine ⟨fun w2 x2 ex2 => ?_, fun w2 => ⟨vp_in_nI (by omega) (by decide), ?_⟩⟩
    · have hle := (nI_leI (by omega) (by omega)).mp w2
      have ec : c' = c := by omega
      subst ec
      have old : ∀ p, ln' p ≠ 0 → ln p ≠ 0 := fun p hp => by
        obtain ⟨i, hi, ei⟩ := y5 p hp
        rw [p5 i hi] at ei
        rw [← ei]; exact (z4 i hi).2
      rw [ex2]
      refine ih (k + 1) g _ Bw Fo' Le' Ra Ri' Si' St2 Sy' (by omega) (by omega) hg ⟨c', fo', ln', sy', le', ri', bw, W', p1, p2, p3, fun p hp => ⟨up p hp, ?_⟩, starts, fun i hi => ⟨(m2 i hi).1, (m2 i hi).2.1, (m2 i hi).2.2.1⟩, m3, fun p hp => a8 p (old p hp), a9, cov⟩
      rw [(p8 p (old p hp)).1]
      exact (a4 p (old p hp)).2
    · refine ps_sortIn p1 p2 p3 ⟨hk1, by omega⟩ p4 (fun i hi => ?_) p6 m2 m3 (fun p hp hpk => a8 p (p9 p hp (by omega))) a9 (fun Bw' Ra' mb q1 q2 q3 q4 x2 ex2 => ?_)
      · rw [p5 i hi, (p8 _ (z4 i hi).2).1]
        exact (a4 _ (z4 i hi).2).1
      · rw [ex2]
        exact ih (k + 1) k _ Bw' Fo' Le' Ra' Ri' Si' St2 Sy' (by omega) (by omega) (by omega) ⟨c', fo', ln', sy', le', ri', mb, W', p1, p2, p3, fun p hp => ⟨up p hp, by have := up p hp; omega⟩, starts, q1, q2, q3, q4, cov⟩
/-- what is known of the least terms -/
def iv_K (pf : Nat → Nat → Nat → Nat) (Co Kn : Int32) (Fo Le Ri Si Sy : Nat → Int32) : Prop := Kn = 0 ∨ (Kn = 1 ∧ lt_T pf Co Fo Le Ri Si Sy)
theorem ps_learn {MfGo MsGo Co Kn : Int32} {Bw Fo Le Ra Ri Si St Sy MfRe MsRe : Nat → Int32} {t0 t1 : Nat → Nat} (h0 : ∀ j, t0 j < 16) (h1 : ∀ j, t1 j < 16) (b0 : iv_re MfRe t0) (b1 : iv_re MsRe t1)
    (hK : iv_K (pm_pf t0 t1) Co Kn Fo Le Ri Si Sy)
    {Q : Int32 → Int32 → (Nat → Int32) → (Nat → Int32) → (Nat → Int32) → (Nat → Int32) → (Nat → Int32) → (Nat → Int32) → (Nat → Int32) → (Nat → Int32) → Prop}
    (hQ : ∀ Co' Bw' Fo' Le' Ra' Ri' Si' St' Sy', lt_T (pm_pf t0 t1) Co' Fo' Le' Ri' Si' Sy' → Q Co' 1 Bw' Fo' Le' Ra' Ri' Si' St' Sy') :
    wp_X2_learn Co Kn Bw Fo Le MfGo MfRe MsGo MsRe Ra Ri Si St Sy Q := by
  unfold wp_X2_learn wp_X2_learn_in
  refine ⟨fun w => ps_fill (by decide) (fun f hf => ⟨_, ps_learn_loop h0 h1 b0 b1 hQ 32 1 0 0 Bw Fo Le Ra Ri f St Sy (by omega) (by omega) (by omega) ?_⟩), fun w => ?_⟩
  · refine ⟨0, fun _ => 0, fun _ => 0, fun _ => 0, fun _ => 0, fun _ => 0, fun _ => 0, fun _ => [], ⟨rfl, by omega, fun i hi => by omega, fun p hp => ⟨hf p hp, Nat.zero_le _, fun u => absurd rfl u⟩⟩, ⟨fun _ _ => rfl, fun p hp => absurd rfl hp, ?_, fun i hi => by omega, fun p hp => absurd rfl hp, fun p hp => absurd rfl hp⟩, fun i j _ hj => by omega, fun p hp => absurd rfl hp, fun m hm hmk => by omega, fun i hi => by omega, fun i j _ hj => by omega, fun p hp => absurd rfl hp, fun i hi => by omega, fun s l r _ _ ht => by omega⟩
    have : ∀ n, pm_ct (fun _ => 0) n = 0 := by
      intro n
      induction n with
      | zero => rfl
      | succ n ih =>
        show pm_ct (fun _ => 0) n + (if (0 : Nat) = 0 then 0 else 1) = 0
        rw [ih, if_pos rfl]
    exact (this 256).symm
  · rcases hK with q | ⟨q, hT⟩
    · exact absurd q w
    · rw [q]
      exact hQ _ _ _ _ _ _ _ _ _ hT
theorem ps_isOfSort {g0 g1 p σ : Nat} (hp : p < 256) (hσ : σ < 16) {Q : Int32 → Prop} (h1 : pm_st g0 g1 σ p → Q 1) (h0 : ¬ pm_st g0 g1 σ p → Q 0) : wp_X4_isOfSort (nI g0) (nI g1) (nI p) (nI σ) Q := by
  unfold wp_X4_isOfSort wp_X4_isOfSort_in
  refine ps_placeOf hp ?_
  have h4 : pm_pl g0 g1 p < 4 := pm_pl_lt
  exact ⟨fun w => h1 ((pb_is (by omega) (by omega)).mp w), fun w => h0 (fun q => w ((pb_is (by omega) (by omega)).mpr q))⟩
/-- the first of a sort that was found is its least -/
theorem pm_first {c g0 g1 σ i : Nat} {fo ln sy le ri : Nat → Nat} {pf : Nat → Nat → Nat → Nat} {W : Nat → List Nat} (hB : lt_B pf c fo ln sy le ri W) (hO : lt_O c fo ln W) (hi : i < c) (hs : pm_st g0 g1 σ (fo i)) (hn : ∀ j, j < i → ¬ pm_st g0 g1 σ (fo j)) : pm_bst ln W (pm_st g0 g1 σ) (fo i) := by
  obtain ⟨z1, z2, z3, z4, z5, z6⟩ := id hB
  refine ⟨(z4 i hi).1, (z4 i hi).2, hs, fun p hp hp0 hps => ?_⟩
  obtain ⟨j, hj, ej⟩ := z5 p hp0
  subst ej
  rcases Nat.lt_trichotomy i j with q | q | q
  · obtain ⟨u1, u2⟩ := hO i j q hj
    refine ⟨(z4 i hi).2, ?_⟩
    rcases Nat.lt_or_ge (ln (fo i)) (ln (fo j)) with v | v
    · exact Or.inl v
    · have e : ln (fo i) = ln (fo j) := by omega
      refine Or.inr ⟨e, ?_⟩
      rcases Nat.lt_or_ge 32 (ln (fo i)) with v' | v'
      · have := (z2 _ (z4 i hi).2).1
        left; omega
      · right
        exact pm_lx_as (u2 e v')
  · subst q
    exact pm_be_rf hp0
  · exact absurd hps (hn j q)
theorem ps_firstOf {Co Kn : Int32} {Bw Fo Le Ra Ri Si St Sy MfRe MsRe : Nat → Int32} {t0 t1 : Nat → Nat} {g0 g1 σ : Nat} (h0 : ∀ j, t0 j < 16) (h1 : ∀ j, t1 j < 16) (b0 : iv_re MfRe t0) (b1 : iv_re MsRe t1) (hσ : σ < 16)
    (hK : iv_K (pm_pf t0 t1) Co Kn Fo Le Ri Si Sy)
    {Q : Int32 → Int32 → Int32 → (Nat → Int32) → (Nat → Int32) → (Nat → Int32) → (Nat → Int32) → (Nat → Int32) → (Nat → Int32) → (Nat → Int32) → (Nat → Int32) → Prop}
    (hQ : ∀ Co' Bw' Fo' Le' Ra' Ri' Si' St' Sy' c fo ln sy le ri W, iv_L Co' Fo' Le' Ri' Si' Sy' c fo ln sy le ri → lt_B (pm_pf t0 t1) c fo ln sy le ri W → lt_O c fo ln W → pm_fix (pm_pf t0 t1) ln W →
      (∀ p, pm_bst ln W (pm_st g0 g1 σ) p → Q (nI p) Co' 1 Bw' Fo' Le' Ra' Ri' Si' St' Sy') ∧ ((∀ p, p < 256 → ln p ≠ 0 → ¬ pm_st g0 g1 σ p) → Q (-1) Co' 1 Bw' Fo' Le' Ra' Ri' Si' St' Sy')) :
    wp_X2_firstOf Co Kn Bw Fo Le (nI g0) MfRe (nI g1) MsRe Ra Ri Si St Sy (nI σ) Q := by
  unfold wp_X2_firstOf wp_X2_firstOf_in
  refine ps_learn h0 h1 b0 b1 hK (fun Co' Bw' Fo' Le' Ra' Ri' Si' St' Sy' hT => ?_)
  obtain ⟨c, fo, ln, sy, le, ri, W, a1, a2, a3, a4⟩ := hT
  obtain ⟨q1, q2⟩ := hQ Co' Bw' Fo' Le' Ra' Ri' Si' St' Sy' c fo ln sy le ri W a1 a2 a3 a4
  obtain ⟨rfl, c256, i3, i4⟩ := id a1
  obtain ⟨z1, z2, z3, z4, z5, z6⟩ := id a2
  have main : ∀ (d i : Nat), i + d = c → (∀ j, j < i → ¬ pm_st g0 g1 σ (fo j)) → lp_X2_firstOf_6 (nI g0) MfRe (nI g1) MsRe Q (d + 1) (nI c) 1 Bw' Fo' Le' Ra' Ri' Si' St' Sy' (nI σ) (nI i) := by
    intro d
    induction d with
    | zero =>
      intro i e hn
      refine ⟨fun _ => q2 (fun p hp hp0 => ?_), fun w => absurd (nI_le (by omega) (by omega)) w⟩
      obtain ⟨j, hj, ej⟩ := z5 p hp0
      rw [← ej]; exact hn j (by omega)
    | succ d ih =>
      intro i e hn
      refine ⟨fun w => absurd w (nI_ge (by omega) (by omega)), fun _ => ⟨vp_in_nI (by omega) (by decide), ?_⟩⟩
      rw [pn_clamp (by omega), i3 i (by omega)]
      refine ps_isOfSort (z4 i (by omega)).1 hσ (fun w => ps_b1 ⟨vp_in_nI (by omega) (by decide), q1 _ (pm_first a2 a3 (by omega) w hn)⟩) (fun w => ps_b0 (fun y ey => ?_))
      rw [ey, nI_1]
      refine ih (i + 1) (by omega) (fun j hj => ?_)
      by_cases e2 : j = i
      · rw [e2]; exact w
      · exact hn j (by omega)
  exact ⟨_, main c 0 (by omega) (fun j hj => by omega)⟩
