/-! the loops of all() -/
def pm_bf (s l r : Nat) : Nat → Nat → Nat → Prop := fun s' l' r' => s' < s ∨ (s' = s ∧ (l' < l ∨ (l' = l ∧ r' < r)))
theorem pm_vl_lt {ln0 : Nat → Nat} (hz : pm_z ln0) {s l r : Nat} (h : pm_vl ln0 s l r) : l < 256 ∧ r < 256 := by
  obtain ⟨v1, v2, v3, v4⟩ := h
  constructor
  · by_cases w : s < 3
    · rw [v1 w]; decide
    · rcases Nat.lt_or_ge l 256 with q | q
      · exact q
      · exact absurd (hz l q) (v3 (by omega))
  · by_cases w : s < 5
    · rw [v2 w]; decide
    · rcases Nat.lt_or_ge r 256 with q | q
      · exact q
      · exact absurd (hz r q) (v4 (by omega))
theorem pm_all_r {Co : Int32} {To : Nat → Int32} {t0 t1 ln0 : Nat → Nat} {W0 : Nat → List Nat} {k s l c : Nat} (h0 : ∀ j, t0 j < 16) (h1 : ∀ j, t1 j < 16) (hT : iv_to To t0 t1) (hz : pm_z ln0) (hl0 : pm_len ln0 W0) (hpk : 32 ≤ k → pm_PK (pm_pf t0 t1) ln0 W0 32) (hs : s < 8) (hl : l < 256) (hc : c = if s < 3 then 0 else if s < 5 then 1 else 2) (v1 : s < 3 → l = 17)
    {K26 : (Nat → Int32) → (Nat → Int32) → (Nat → Int32) → Int32 → Int32 → Prop} {K40 : (Nat → Int32) → (Nat → Int32) → (Nat → Int32) → Int32 → Int32 → Int32 → Prop} {K55 : (Nat → Int32) → (Nat → Int32) → (Nat → Int32) → Int32 → Int32 → Int32 → Int32 → Int32 → Prop} {Q : (Nat → Int32) → (Nat → Int32) → (Nat → Int32) → Prop}
    (hK : ∀ Ln Tr Wr x, pm_J (pm_pf t0 t1) k ln0 W0 (pm_bf s (l + 1) 0) x Ln Wr → K55 Ln Tr Wr x (nI k) (nI s) (nI c) (nI (l + 1))) :
    ∀ (d r : Nat) (Ln Tr Wr : Nat → Int32) (x : Int32), r + d = 256 → (3 ≤ s → ¬ Ln l = 0) → pm_J (pm_pf t0 t1) k ln0 W0 (pm_bf s l r) x Ln Wr → lp_X6_all_94 Co To K26 K40 K55 Q (d + 1) Ln Tr Wr x (nI k) (nI s) (nI c) (nI l) (nI r) := by
  have hc2 : (s < 5 → c < 2) ∧ (5 ≤ s → c = 2) := by
    rw [hc]
    constructor
    · intro w
      by_cases q : s < 3
      · rw [if_pos q]; decide
      · rw [if_neg q, if_pos w]; decide
    · intro w; rw [if_neg (by omega), if_neg (by omega)]
  have hc3 : c ≤ 2 := by by_cases w : s < 5; · have := hc2.1 w; omega
                         · have := hc2.2 (by omega); omega
  intro d
  induction d with
  | zero =>
    intro r Ln Tr Wr x e v3 hJ
    refine ⟨fun _ y ey => ?_, fun w => absurd ((nI_leI (a := 256) (b := r) (by decide) (by omega)).mpr (by omega)) w⟩
    rw [ey, nI_1]
    refine hK _ _ _ _ (pm_J_sub hJ (fun ln _ _ s' l' r' _ hd hv => ?_))
    have := (pm_vl_lt hz hv).2
    rcases hd with hd | ⟨rfl, hd | hd⟩
    · exact Or.inl hd
    · by_cases q : l' = l
      · exact Or.inr ⟨rfl, Or.inr ⟨q, by omega⟩⟩
      · exact Or.inr ⟨rfl, Or.inl (by omega)⟩
    · omega
  | succ d ih =>
    intro r Ln Tr Wr x e v3 hJ
    have skip : (∀ ln : Nat → Nat, (∀ p, ln0 p ≠ 0 → ln p ≠ 0) → (∀ p, p < 256 → Ln p = nI (ln p) ∧ ln p ≤ 33) → ¬ pm_vl ln0 s l r) → ∀ y : Int32, y = nI r + 1 → lp_X6_all_94 Co To K26 K40 K55 Q (d + 1) Ln Tr Wr x (nI k) (nI s) (nI c) (nI l) y := by
      intro hn y ey
      rw [ey, nI_1]
      refine ih (r + 1) Ln Tr Wr x (by omega) v3 (pm_J_sub hJ (fun ln u1 u2 s' l' r' _ hd hv => ?_))
      rcases hd with hd | ⟨rfl, hd | ⟨rfl, hd⟩⟩
      · exact Or.inl hd
      · exact Or.inr ⟨rfl, Or.inl hd⟩
      · by_cases q : r' = r
        · subst q
          exact absurd hv (hn ln u1 u2)
        · exact Or.inr ⟨rfl, Or.inr ⟨rfl, by omega⟩⟩
    have off : (s < 5 → r = 17) → (5 ≤ s → ¬ Ln r = 0) → wp_X6_all_131 Co To K26 K40 K55 (lp_X6_all_94 Co To K26 K40 K55 Q (d + 1)) Q Ln Tr Wr x (nI k) (nI s) (nI c) (nI l) (nI r) := by
      intro v2 v4
      unfold wp_X6_all_131
      refine pm_J_offer h0 h1 hT hl0 hpk hJ hs hl (by omega) v1 v2 v3 v4 (fun y Ln' Tr' Wr' u0 u1 u2 => ⟨fun ey x6 ex => ?_, fun ey x6 ex => ?_⟩)
      · rw [ex, nI_1]
        refine ih (r + 1) Ln' Tr' Wr' x (by omega) (fun q => u0 l hl (v3 q)) (pm_J_sub (u1 ey) (fun ln _ _ s' l' r' _ hd hv => ?_))
        rcases hd with hd | ⟨rfl, hd | ⟨rfl, hd⟩⟩
        · exact Or.inl (Or.inl hd)
        · exact Or.inl (Or.inr ⟨rfl, Or.inl hd⟩)
        · by_cases q : r' = r
          · exact Or.inr ⟨rfl, rfl, q⟩
          · exact Or.inl (Or.inr ⟨rfl, Or.inr ⟨rfl, by omega⟩⟩)
      · rw [ex, nI_1]
        refine ih (r + 1) Ln' Tr' Wr' 1 (by omega) (fun q => u0 l hl (v3 q)) (pm_J_sub (u2 ey) (fun ln _ _ s' l' r' _ hd hv => ?_))
        rcases hd with hd | ⟨rfl, hd | ⟨rfl, hd⟩⟩
        · exact Or.inl (Or.inl hd)
        · exact Or.inl (Or.inr ⟨rfl, Or.inl hd⟩)
        · by_cases q : r' = r
          · exact Or.inr ⟨rfl, rfl, q⟩
          · exact Or.inl (Or.inr ⟨rfl, Or.inr ⟨rfl, by omega⟩⟩)
    refine ⟨fun w => absurd ((nI_leI (a := 256) (b := r) (by decide) (by omega)).mp w) (by omega), fun _ => ⟨fun w => ⟨vp_in_nI (by omega) (by decide), ?_⟩, fun w => ⟨fun w2 => off ?_ ?_, fun w2 => skip (fun ln u1 u2 hv => ?_)⟩⟩⟩
    · have w' := (nI_leI (a := 2) (b := c) (by decide) (by omega)).mp w
      have w5 : 5 ≤ s := by
        rcases Nat.lt_or_ge s 5 with q | q
        · have := hc2.1 q; omega
        · exact q
      rw [pn_clamp (by omega)]
      refine ⟨fun q => skip (fun ln u1 u2 hv => ?_), fun q => off (fun q' => by omega) (fun _ => q)⟩
      have := (u2 r (by omega)).1
      rw [q] at this
      have e0 : ln r = 0 := (nI_eq (a := ln r) (b := 0) (by have := (u2 r (by omega)).2; omega) (by decide)).mp this.symm
      exact u1 r (hv.2.2.2 w5) e0
    · intro _
      exact (nI_eq (a := r) (b := 17) (by omega) (by decide)).mp w2
    · intro q
      exact absurd ((nI_leI (a := 2) (b := c) (by decide) (by omega)).mpr (by have := hc2.2 q; omega)) w
    · have w5 : s < 5 := by
        rcases Nat.lt_or_ge s 5 with q | q
        · exact q
        · exact absurd ((nI_leI (a := 2) (b := c) (by decide) (by omega)).mpr (by have := hc2.2 q; omega)) w
      exact w2 (by rw [hv.2.1 w5]; rfl)
theorem pm_all_l {Co : Int32} {To : Nat → Int32} {t0 t1 ln0 : Nat → Nat} {W0 : Nat → List Nat} {k s c : Nat} (h0 : ∀ j, t0 j < 16) (h1 : ∀ j, t1 j < 16) (hT : iv_to To t0 t1) (hz : pm_z ln0) (hl0 : pm_len ln0 W0) (hpk : 32 ≤ k → pm_PK (pm_pf t0 t1) ln0 W0 32) (hs : s < 8) (hc : c = if s < 3 then 0 else if s < 5 then 1 else 2)
    {K26 : (Nat → Int32) → (Nat → Int32) → (Nat → Int32) → Int32 → Int32 → Prop} {K40 : (Nat → Int32) → (Nat → Int32) → (Nat → Int32) → Int32 → Int32 → Int32 → Prop} {Q : (Nat → Int32) → (Nat → Int32) → (Nat → Int32) → Prop}
    (hK : ∀ Ln Tr Wr x, pm_J (pm_pf t0 t1) k ln0 W0 (pm_bf (s + 1) 0 0) x Ln Wr → K40 Ln Tr Wr x (nI k) (nI (s + 1))) :
    ∀ (d l : Nat) (Ln Tr Wr : Nat → Int32) (x : Int32), l + d = 256 → pm_J (pm_pf t0 t1) k ln0 W0 (pm_bf s l 0) x Ln Wr → lp_X6_all_55 Co To K26 K40 Q (d + 1) Ln Tr Wr x (nI k) (nI s) (nI c) (nI l) := by
  have hc2 : (s < 3 → c = 0) ∧ (3 ≤ s → c ≠ 0) := by
    rw [hc]
    constructor
    · intro w; rw [if_pos w]
    · intro w; rw [if_neg (by omega)]; split <;> decide
  have hc3 : c ≤ 2 := by rw [hc]; split; · decide
                         · split <;> decide
  intro d
  induction d with
  | zero =>
    intro l Ln Tr Wr x e hJ
    refine ⟨fun _ y ey => ?_, fun w => absurd ((nI_leI (a := 256) (b := l) (by decide) (by omega)).mpr (by omega)) w⟩
    rw [ey, nI_1]
    refine hK _ _ _ _ (pm_J_sub hJ (fun ln _ _ s' l' r' _ hd hv => ?_))
    have := (pm_vl_lt hz hv).1
    rcases hd with hd | ⟨_, hd | hd⟩
    · by_cases q : s' = s
      · exact Or.inr ⟨q, Or.inl (by omega)⟩
      · exact Or.inl (by omega)
    · omega
    · omega
  | succ d ih =>
    intro l Ln Tr Wr x e hJ
    have skip : (∀ ln : Nat → Nat, (∀ p, ln0 p ≠ 0 → ln p ≠ 0) → (∀ p, p < 256 → Ln p = nI (ln p) ∧ ln p ≤ 33) → ∀ r, ¬ pm_vl ln0 s l r) → ∀ y : Int32, y = nI l + 1 → lp_X6_all_55 Co To K26 K40 Q (d + 1) Ln Tr Wr x (nI k) (nI s) (nI c) y := by
      intro hn y ey
      rw [ey, nI_1]
      refine ih (l + 1) Ln Tr Wr x (by omega) (pm_J_sub hJ (fun ln u1 u2 s' l' r' _ hd hv => ?_))
      rcases hd with hd | ⟨rfl, hd | ⟨rfl, hd⟩⟩
      · exact Or.inl hd
      · by_cases q : l' = l
        · subst q
          exact absurd hv (hn ln u1 u2 r')
        · exact Or.inr ⟨rfl, Or.inl (by omega)⟩
      · omega
    have go : (s < 3 → l = 17) → (3 ≤ s → ¬ Ln l = 0) → ∃ n : Nat, lp_X6_all_94 Co To K26 K40 (lp_X6_all_55 Co To K26 K40 Q (d + 1)) Q n Ln Tr Wr x (nI k) (nI s) (nI c) (nI l) 0 := fun v1 v3 =>
      ⟨_, pm_all_r h0 h1 hT hz hl0 hpk hs (by omega) hc v1 (fun Ln' Tr' Wr' x' hJ' => ih (l + 1) Ln' Tr' Wr' x' (by omega) hJ') 256 0 Ln Tr Wr x (by omega) v3 hJ⟩
    refine ⟨fun w => absurd ((nI_leI (a := 256) (b := l) (by decide) (by omega)).mp w) (by omega), fun _ => ⟨fun w => ⟨fun w2 => go (fun _ => ?_) (fun q => ?_), fun w2 => skip (fun ln u1 u2 r hv => ?_)⟩, fun w => ⟨vp_in_nI (by omega) (by decide), ?_⟩⟩⟩
    · exact (nI_eq (a := l) (b := 17) (by omega) (by decide)).mp w2
    · exact absurd ((nI_eq (a := c) (b := 0) (by omega) (by decide)).mp w) (hc2.2 q)
    · have c0 := (nI_eq (a := c) (b := 0) (by omega) (by decide)).mp w
      have w3 : s < 3 := by
        rcases Nat.lt_or_ge s 3 with q | q
        · exact q
        · exact absurd c0 (hc2.2 q)
      exact w2 (by rw [hv.1 w3]; rfl)
    · have w3 : 3 ≤ s := by
        rcases Nat.lt_or_ge s 3 with q | q
        · exact absurd (by rw [hc2.1 q]; rfl) w
        · exact q
      rw [pn_clamp (by omega)]
      refine ⟨fun q => skip (fun ln u1 u2 r hv => ?_), fun q => go (fun q' => by omega) (fun _ => q)⟩
      have := (u2 l (by omega)).1
      rw [q] at this
      have e0 : ln l = 0 := (nI_eq (a := ln l) (b := 0) (by have := (u2 l (by omega)).2; omega) (by decide)).mp this.symm
      exact u1 l (hv.2.2.1 w3) e0
theorem pm_all_s {Co : Int32} {To : Nat → Int32} {t0 t1 ln0 : Nat → Nat} {W0 : Nat → List Nat} {k : Nat} (h0 : ∀ j, t0 j < 16) (h1 : ∀ j, t1 j < 16) (hT : iv_to To t0 t1) (hz : pm_z ln0) (hl0 : pm_len ln0 W0) (hpk : 32 ≤ k → pm_PK (pm_pf t0 t1) ln0 W0 32)
    {K26 : (Nat → Int32) → (Nat → Int32) → (Nat → Int32) → Int32 → Int32 → Prop} {Q : (Nat → Int32) → (Nat → Int32) → (Nat → Int32) → Prop}
    (hK : ∀ Ln Tr Wr x, pm_J (pm_pf t0 t1) k ln0 W0 (fun _ _ _ => True) x Ln Wr → K26 Ln Tr Wr x (nI (k + 1))) :
    ∀ (d s : Nat) (Ln Tr Wr : Nat → Int32) (x : Int32), s + d = 8 → pm_J (pm_pf t0 t1) k ln0 W0 (pm_bf s 0 0) x Ln Wr → lp_X6_all_40 Co To K26 Q (d + 1) Ln Tr Wr x (nI k) (nI s) := by
  intro d
  induction d with
  | zero =>
    intro s Ln Tr Wr x e hJ
    refine ⟨fun _ y ey => ?_, fun w => absurd ((nI_leI (a := 8) (b := s) (by decide) (by omega)).mpr (by omega)) w⟩
    rw [ey, nI_1]
    exact hK _ _ _ _ (pm_J_sub hJ (fun ln _ _ s' l' r' hs' _ _ => Or.inl (by omega)))
  | succ d ih =>
    intro s Ln Tr Wr x e hJ
    refine ⟨fun w => absurd ((nI_leI (a := 8) (b := s) (by decide) (by omega)).mp w) (by omega), fun _ => ?_⟩
    have go : ∀ c : Nat, c = (if s < 3 then 0 else if s < 5 then 1 else 2) → ∃ n : Nat, lp_X6_all_55 Co To K26 (lp_X6_all_40 Co To K26 Q (d + 1)) Q n Ln Tr Wr x (nI k) (nI s) (nI c) 0 := fun c hc =>
      ⟨_, pm_all_l h0 h1 hT hz hl0 hpk (by omega) hc (fun Ln' Tr' Wr' x' hJ' => ih (s + 1) Ln' Tr' Wr' x' (by omega) hJ') 256 0 Ln Tr Wr x (by omega) hJ⟩
    exact ps_children (s := s) (by omega) (fun w => go 0 (by rw [if_pos w])) (fun w w' => go 1 (by rw [if_neg (by omega), if_pos w'])) (fun w => go 2 (by rw [if_neg (by omega), if_neg (by omega)]))
/-- a round's gain -/
theorem pm_PK_step {pf : Nat → Nat → Nat → Nat} {ln0 ln : Nat → Nat} {W0 W : Nat → List Nat} {K : Nat} (hs0 : pm_snd pf ln0 W0) (hk : pm_PK pf ln0 W0 K) (hc : pm_cv pf (fun _ _ _ => True) ln0 W0 ln W) : pm_PK pf ln W (K + 1) := by
  have cap2 : ∀ a b, pm_cap (1 + pm_cap a + pm_cap b) = pm_cap (1 + a + b) := by
    intro a b
    unfold pm_cap
    split <;> split <;> (try split) <;> (try split) <;> omega
  have cap1 : ∀ a, pm_cap (1 + pm_cap a) = pm_cap (1 + a) := by
    intro a
    unfold pm_cap
    split <;> (try split) <;> (try split) <;> omega
  have capl : ∀ v : List Nat, pm_cap v.length ≤ 32 → v.length = pm_cap v.length := by
    intro v
    unfold pm_cap
    split <;> omega
  intro p w hw hl
  rcases pm_T_inv hw with ⟨s, hs, rfl, rfl⟩ | ⟨s, l, v, h3, h5, hv, rfl, rfl⟩ | ⟨s, l, v, r, u, h5, h8, hv, hu, rfl, rfl⟩
  · have := hc s 17 17 (by omega) trivial ⟨fun _ => rfl, fun _ => rfl, fun q => by omega, fun q => by omega⟩
    unfold pm_cn pm_cw pm_ll pm_rl pm_lw pm_rw at this
    simp only [if_neg (show ¬ 3 ≤ s by omega), if_neg (show ¬ 5 ≤ s by omega)] at this
    exact this
  · simp only [List.length_cons] at hl
    have i := hk l v hv (by omega)
    have := hc s l 17 (by omega) trivial ⟨fun q => by omega, fun _ => rfl, fun _ => i.1, fun q => by omega⟩
    unfold pm_cn pm_cw pm_ll pm_rl pm_lw pm_rw at this
    simp only [if_pos h3, if_neg (show ¬ 5 ≤ s by omega), List.append_nil, Nat.add_zero] at this
    have := pm_be_one i this
    rw [cap1, Nat.add_comm 1] at this
    exact this
  · simp only [List.length_cons, List.length_append] at hl
    have i := hk l v hv (by omega)
    have j := hk r u hu (by omega)
    have := hc s l r h8 trivial ⟨fun q => by omega, fun q => by omega, fun _ => i.1, fun _ => j.1⟩
    unfold pm_cn pm_cw pm_ll pm_rl pm_lw pm_rw at this
    simp only [if_pos (show 3 ≤ s by omega), if_pos h5] at this
    have := pm_be_two (fun q => ((hs0 l i.1).2.2 q).2) (capl v) i j this
    rw [cap2] at this
    have el : (s :: (v ++ u)).length = 1 + v.length + u.length := by
      simp only [List.length_cons, List.length_append]
      omega
    rw [el]
    exact this
theorem pm_fix_of {pf : Nat → Nat → Nat → Nat} {ln : Nat → Nat} {W : Nat → List Nat} (hc : pm_cv pf (fun _ _ _ => True) ln W ln W) : pm_fix pf ln W := by
  refine ⟨fun s hs => ?_, fun s l h3 h5 hl => ?_, fun s l r h5 h8 hl hr => ?_⟩
  · have := hc s 17 17 (by omega) trivial ⟨fun _ => rfl, fun _ => rfl, fun q => by omega, fun q => by omega⟩
    unfold pm_cn pm_cw pm_ll pm_rl pm_lw pm_rw at this
    simp only [if_neg (show ¬ 3 ≤ s by omega), if_neg (show ¬ 5 ≤ s by omega)] at this
    exact this
  · have := hc s l 17 (by omega) trivial ⟨fun q => by omega, fun _ => rfl, fun _ => hl, fun q => by omega⟩
    unfold pm_cn pm_cw pm_ll pm_rl pm_lw pm_rw at this
    simp only [if_pos h3, if_neg (show ¬ 5 ≤ s by omega), List.append_nil, Nat.add_zero] at this
    exact this
  · have := hc s l r h8 trivial ⟨fun q => by omega, fun q => by omega, fun _ => hl, fun _ => hr⟩
    unfold pm_cn pm_cw pm_ll pm_rl pm_lw pm_rw at this
    simp only [if_pos (show 3 ≤ s by omega), if_pos h5] at this
    exact this
/-- what all() leaves -/
def pm_tabR (t0 t1 : Nat → Nat) (Ln Wr : Nat → Int32) (ln : Nat → Nat) (W : Nat → List Nat) : Prop := iv_tb Ln Wr ln W ∧ pm_z ln ∧ pm_snd (pm_pf t0 t1) ln W ∧ pm_fix (pm_pf t0 t1) ln W
theorem ps_all {Co : Int32} {To Ln Tr Wr : Nat → Int32} {t0 t1 : Nat → Nat} (h0 : ∀ j, t0 j < 16) (h1 : ∀ j, t1 j < 16) (hT : iv_to To t0 t1) {Q : (Nat → Int32) → (Nat → Int32) → (Nat → Int32) → Prop}
    (hQ : ∀ Ln' Tr' Wr' ln W, pm_tabR t0 t1 Ln' Wr' ln W → Q Ln' Tr' Wr') : wp_X6_all Co Ln To Tr Wr Q := by
  have rounds : ∀ (d k : Nat) (Ln Tr Wr : Nat → Int32) (ln : Nat → Nat) (W : Nat → List Nat), k + d = 290 → iv_tb Ln Wr ln W → pm_z ln → pm_snd (pm_pf t0 t1) ln W → pm_PK (pm_pf t0 t1) ln W (min k 32) → k ≤ 32 + pm_ct ln 256 → lp_X6_all_26 Co To Q (d + 1) Ln Tr Wr 1 (nI k) := by
    intro d
    induction d with
    | zero =>
      intro k Ln Tr Wr ln W e a1 a2 a3 a4 a5
      have := pm_ct_le ln 256
      omega
    | succ d ih =>
      intro k Ln Tr Wr ln W e a1 a2 a3 a4 a5
      have hct := pm_ct_le ln 256
      refine ⟨fun q => absurd q (by decide), fun _ => ⟨fun w => absurd ((nI_leI (a := 100000) (b := k) (by decide) (by omega)).mp w) (by omega), fun _ => ?_⟩⟩
      refine ⟨_, pm_all_s (ln0 := ln) (W0 := W) h0 h1 hT a2 (pm_snd_len a3) (fun hk => by rw [show min k 32 = 32 by omega] at a4; exact a4) (fun Ln' Tr' Wr' x hJ => ?_) 8 0 Ln Tr Wr 0 (by omega) ⟨ln, W, a1, a2, a3, fun p hp => pm_be_rf hp, fun s l r _ hd _ => ?_, Or.inl ⟨rfl, rfl, rfl⟩⟩⟩
      · obtain ⟨ln', W', b1, b2, b3, b4, b5, b6⟩ := hJ
        rcases b6 with ⟨rfl, rfl, rfl⟩ | ⟨rfl, b6⟩
        · obtain ⟨d', rfl⟩ : ∃ d', d = d' + 1 := ⟨d - 1, by omega⟩
          exact ⟨fun _ => hQ _ _ _ _ _ ⟨b1, b2, b3, pm_fix_of b5⟩, fun q => absurd rfl q⟩
        · refine ih (k + 1) Ln' Tr' Wr' ln' W' (by omega) b1 b2 b3 ?_ ?_
          · by_cases w : k < 32
            · have := pm_PK_step a3 a4 b5
              rw [show min k 32 + 1 = min (k + 1) 32 by omega] at this
              exact this
            · intro p v hv hl
              rw [show min (k + 1) 32 = 32 by omega] at hl
              have := a4 p v hv (by omega)
              exact pm_be_tr (b4 p this.1) this
          · by_cases w : k < 32
            · omega
            · have := b6 (by omega)
              omega
      · rcases hd with hd | ⟨_, hd | ⟨_, hd⟩⟩ <;> omega
  have zero : ∀ (d p : Nat) (f : Nat → Int32), p + d = 256 → (∀ q, q < p → f q = 0) → lp_X6_all_2 Co To Q (d + 1) f Tr Wr (nI p) := by
    intro d
    induction d with
    | zero =>
      intro p f e hf
      refine ⟨fun _ => ⟨291, ?_⟩, fun w => absurd ((nI_leI (a := 256) (b := p) (by decide) (by omega)).mpr (by omega)) w⟩
      refine rounds 290 0 f Tr Wr (fun _ => 0) (fun _ => []) (by omega) (fun q hq => ⟨hf q (by omega), Nat.zero_le _, fun w => absurd w (Nat.not_succ_le_zero 0)⟩) (fun _ _ => rfl) (fun q hq => absurd rfl hq) (fun q w hw hl => ?_) (by omega)
      have := pm_T_pos hw
      omega
    | succ d ih =>
      intro p f e hf
      refine ⟨fun w => absurd ((nI_leI (a := 256) (b := p) (by decide) (by omega)).mp w) (by omega), fun _ => ⟨vp_in_nI (by omega) (by decide), fun f' ef y ey => ?_⟩⟩
      rw [pn_clamp (by omega)] at ef
      rw [ey, nI_1]
      refine ih (p + 1) f' (by omega) (fun q hq => ?_)
      by_cases e2 : q = p
      · rw [ef, e2, pk_us]
      · rw [ef, pk_un e2]; exact hf q (by omega)
  exact ⟨257, zero 256 0 Ln (by omega) (fun q hq => by omega)⟩
