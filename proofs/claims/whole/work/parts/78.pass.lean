/-! one pass: all candidates of a size, in the order of their writings -/
theorem lt_P_fo {pf : Nat → Nat → Nat → Nat} {k c0 : Nat} {fo0 ln0 sy0 le0 ri0 : Nat → Nat} {W0 : Nat → List Nat} {U : List Nat → Prop} {D : Nat → Nat → Nat → Prop} {Co : Int32} {Fo Le Ri Si Sy : Nat → Int32} (h : lt_P pf k c0 fo0 ln0 sy0 le0 ri0 W0 U D Co Fo Le Ri Si Sy) :
    c0 ≤ 256 ∧ (∀ i, i < c0 → Fo i = nI (fo0 i)) ∧ (∀ p, p < 256 → ln0 p ≠ 0 → Si p = nI (ln0 p)) := by
  obtain ⟨c, fo, ln, sy, le, ri, W, ⟨a1, a2, a3, a4⟩, -, -, b4, b5, -, -, b8, -⟩ := h
  refine ⟨by omega, fun i hi => by rw [a3 i (by omega), b5 i hi], fun p hp hn => ?_⟩
  rw [(a4 p hp).1, (b8 p hn).1]
/-- the tables of before a pass of size k -/
def lt_S (k c0 : Nat) (fo0 ln0 : Nat → Nat) (W0 : Nat → List Nat) (St Bw : Nat → Int32) (bw : Nat → Nat) : Prop :=
  (∀ m, 1 ≤ m → m ≤ k → ∃ e, e ≤ c0 ∧ St m = nI e ∧ ∀ i, i < c0 → (i < e ↔ ln0 (fo0 i) < m)) ∧
  (∀ i, i < c0 → Bw i = nI (bw i) ∧ bw i < 256 ∧ ln0 (bw i) ≠ 0) ∧ (∀ i j, i < j → j < c0 → pm_lx (W0 (bw i)) (W0 (bw j))) ∧ (∀ p, ln0 p ≠ 0 → ∃ i, i < c0 ∧ bw i = p)
def lt_Us (s : Nat) : List Nat → Prop := fun V => ∃ s' x, s ≤ s' ∧ V = s' :: x
def lt_Ds (s : Nat) : Nat → Nat → Nat → Prop := fun s' _ _ => s' < s
theorem pm_lx_h {s s' : Nat} {x y : List Nat} (h : s < s') : pm_lx (s :: x) (s' :: y) := Or.inl h
theorem pm_lx_t {s : Nat} {x y : List Nat} (h : pm_lx x y) : pm_lx (s :: x) (s :: y) := Or.inr ⟨rfl, h⟩
theorem ps_findOne {Kn MfGo MsGo Co : Int32} {Fo Le Ri Si Sy St Bw MfRe MsRe : Nat → Int32} {t0 t1 fo0 ln0 sy0 le0 ri0 bw : Nat → Nat} {W0 : Nat → List Nat} {k c0 s : Nat} (h0 : ∀ j, t0 j < 16) (h1 : ∀ j, t1 j < 16) (b0 : iv_re MfRe t0) (b1 : iv_re MsRe t1)
    (hk : 1 ≤ k ∧ k ≤ 32) (hb : ∀ p, ln0 p ≠ 0 → ln0 p < k) (hB : lt_B (pm_pf t0 t1) c0 fo0 ln0 sy0 le0 ri0 W0) (hO : lt_O c0 fo0 ln0 W0) (hS : lt_S k c0 fo0 ln0 W0 St Bw bw) (h3 : 3 ≤ s) (h5 : s < 5)
    (hP : lt_P (pm_pf t0 t1) k c0 fo0 ln0 sy0 le0 ri0 W0 (lt_Us s) (lt_Ds s) Co Fo Le Ri Si Sy)
    {Q : Int32 → (Nat → Int32) → (Nat → Int32) → (Nat → Int32) → (Nat → Int32) → (Nat → Int32) → Prop}
    (hQ : ∀ Co' Fo' Le' Ri' Si' Sy', lt_P (pm_pf t0 t1) k c0 fo0 ln0 sy0 le0 ri0 W0 (lt_Us (s + 1)) (lt_Ds (s + 1)) Co' Fo' Le' Ri' Si' Sy' → Q Co' Fo' Le' Ri' Si' Sy') :
    wp_X2_findWithOne Co Kn Fo Le MfGo MfRe MsGo MsRe Ri Si St Sy (nI s) (nI k) Q := by
  obtain ⟨z1, z2, z3, z4, z5, z6⟩ := id hB
  have c256 := (lt_P_fo hP).1
  have tot : ∀ l r, pm_vl ln0 s l r → 1 + pm_ll s ln0 l + pm_rl s ln0 r = 1 + ln0 l := by
    intro l r _
    unfold pm_ll pm_rl
    rw [if_pos h3, if_neg (by omega)]
    omega
  refine ⟨fun w => ?_, fun w => hQ _ _ _ _ _ _ (lt_P_sub hP (fun V hV => ?_) (fun s' l r hs' hd hv ht => ?_))⟩
  · have hk2 : 2 ≤ k := (nI_leI (a := 2) (b := k) (by decide) (by omega)).mp w
    obtain ⟨e1, f1, f2, f3⟩ := hS.1 k (by omega) (Nat.le_refl k)
    obtain ⟨e2, g1, g2, g3⟩ := hS.1 (k - 1) (by omega) (by omega)
    have ee : e1 = c0 := by
      rcases Nat.lt_or_ge e1 c0 with q | q
      · have := (f3 e1 q).mpr (hb _ (z4 e1 q).2)
        omega
      · omega
    refine ⟨vp_in_nI (by omega) (by decide), fun x3 ex3 => ?_⟩
    rw [pn_clamp (by omega), f2, ee] at ex3
    have em : nI k - 1 = nI (k - 1) := pk_sub (a := k) (b := 1) (by omega)
    rw [em]
    refine ⟨vp_in_nI (by omega) (by decide), fun x4 ex4 => ?_⟩
    rw [pn_clamp (by omega), g2] at ex4
    rw [ex3, ex4]
    have main : ∀ (d i : Nat) (Co : Int32) (Fo Le Ri Si Sy : Nat → Int32), i + d = c0 → e2 ≤ i → lt_P (pm_pf t0 t1) k c0 fo0 ln0 sy0 le0 ri0 W0 (fun V => (∃ s' x, s < s' ∧ V = s' :: x) ∨ (∃ i', i ≤ i' ∧ i' < c0 ∧ V = s :: (W0 (fo0 i') ++ []))) (fun s' l r => s' < s ∨ (s' = s ∧ ∃ i', i' < i ∧ l = fo0 i')) Co Fo Le Ri Si Sy → lp_X2_findWithOne_23 Kn MfGo MfRe MsGo MsRe St Q (d + 1) Co Fo Le Ri Si Sy (nI s) (nI k) (nI c0) (nI i) := by
      intro d
      induction d with
      | zero =>
        intro i Co Fo Le Ri Si Sy e _ hP
        refine ⟨fun _ => hQ _ _ _ _ _ _ (lt_P_sub hP (fun V hV => ?_) (fun s' l r hs' hd hv ht => ?_)), fun w => absurd (nI_le (by omega) (by omega)) w⟩
        · obtain ⟨s', x, q1, q2⟩ := hV
          exact Or.inl ⟨s', x, by omega, q2⟩
        · have hd' : s' < s + 1 := hd
          by_cases q : s' = s
          · subst q
            obtain ⟨i', q1, q2⟩ := z5 l (hv.2.2.1 h3)
            exact Or.inr ⟨rfl, i', by omega, q2.symm⟩
          · exact Or.inl (by omega)
      | succ d ih =>
        intro i Co Fo Le Ri Si Sy e hge hP
        have hfo := (lt_P_fo hP).2.1 i (by omega)
        have hi4 := z4 i (by omega)
        have hln : ln0 (fo0 i) = k - 1 := by
          have := hb _ hi4.2
          have : ¬ ln0 (fo0 i) < k - 1 := fun q => by have := (g3 i (by omega)).mpr q; omega
          omega
        have hv : pm_vl ln0 s (fo0 i) 17 := ⟨fun q => by omega, fun _ => rfl, fun _ => hi4.2, fun q => by omega⟩
        have ecw : pm_cw s W0 (fo0 i) 17 = s :: (W0 (fo0 i) ++ []) := by
          unfold pm_cw pm_lw pm_rw
          rw [if_pos h3, if_neg (by omega)]
        refine ⟨fun w => absurd w (nI_ge (by omega) (by omega)), fun _ => ⟨vp_in_nI (by omega) (by decide), ?_⟩⟩
        rw [pn_clamp (by omega), hfo]
        refine lt_P_meet (r := 17) h0 h1 b0 b1 hP hk hb z1 (fun i' hi' => (z4 i' hi').2) (by omega) hv (by rw [tot _ _ hv, hln]; omega) (Or.inr ⟨i, Nat.le_refl _, by omega, ecw⟩) (U' := fun V => (∃ s' x, s < s' ∧ V = s' :: x) ∨ (∃ i', i + 1 ≤ i' ∧ i' < c0 ∧ V = s :: (W0 (fo0 i') ++ []))) (fun V hV => ?_) (fun Co' Fo' Le' Ri' Si' Sy' hP' y ey => ?_)
        · rcases hV with ⟨s', x, q1, q2⟩ | ⟨i', q1, q2, q3⟩
          · refine ⟨Or.inl ⟨s', x, q1, q2⟩, ?_⟩
            rw [ecw, q2]; exact pm_lx_h q1
          · refine ⟨Or.inr ⟨i', by omega, q2, q3⟩, ?_⟩
            have hi4' := z4 i' q2
            have hln' : ln0 (fo0 i') = k - 1 := by
              have := hb _ hi4'.2
              have : ¬ ln0 (fo0 i') < k - 1 := fun q => by have := (g3 i' (by omega)).mpr q; omega
              omega
            have := (hO i i' (by omega) q2).2 (by omega) (by omega)
            rw [ecw, q3, List.append_nil, List.append_nil]
            exact pm_lx_t this
        · rw [ey, nI_1]
          refine ih (i + 1) Co' Fo' Le' Ri' Si' Sy' (by omega) (by omega) (lt_P_sub hP' (fun V hV => hV) (fun s' l r _ hd hv' _ => ?_))
          rcases hd with hd | ⟨rfl, i', q1, q2⟩
          · exact Or.inl (Or.inl hd)
          · by_cases q : i' = i
            · subst q
              exact Or.inr ⟨rfl, q2, hv'.2.1 h5⟩
            · exact Or.inl (Or.inr ⟨rfl, i', by omega, q2⟩)
    refine ⟨_, main (c0 - e2) e2 Co Fo Le Ri Si Sy (by omega) (Nat.le_refl _) (lt_P_sub hP (fun V hV => ?_) (fun s' l r _ hd hv ht => ?_))⟩
    · rcases hV with ⟨s', x, q1, q2⟩ | ⟨i', q1, q2, q3⟩
      · exact ⟨s', x, by omega, q2⟩
      · exact ⟨s, _, Nat.le_refl _, q3⟩
    · rcases hd with hd | ⟨rfl, i', q1, q2⟩
      · exact hd
      · exfalso
        rw [tot _ _ hv, q2] at ht
        have := (g3 i' (by omega)).mp q1
        omega
  · have hk1 : ¬ 2 ≤ k := fun q => w ((nI_leI (a := 2) (b := k) (by decide) (by omega)).mpr q)
    obtain ⟨s', x, q1, q2⟩ := hV
    exact ⟨s', x, by omega, q2⟩
  · have hk1 : ¬ 2 ≤ k := fun q => w ((nI_leI (a := 2) (b := k) (by decide) (by omega)).mpr q)
    have hd' : s' < s + 1 := hd
    by_cases q : s' = s
    · subst q
      exfalso
      rw [tot _ _ hv] at ht
      have := hv.2.2.1 h3
      omega
    · show s' < s
      omega
theorem ps_findTwo {Kn MfGo MsGo Co : Int32} {Fo Le Ri Si Sy St Bw MfRe MsRe : Nat → Int32} {t0 t1 fo0 ln0 sy0 le0 ri0 bw : Nat → Nat} {W0 : Nat → List Nat} {k c0 s : Nat} (h0 : ∀ j, t0 j < 16) (h1 : ∀ j, t1 j < 16) (b0 : iv_re MfRe t0) (b1 : iv_re MsRe t1)
    (hk : 1 ≤ k ∧ k ≤ 32) (hb : ∀ p, ln0 p ≠ 0 → ln0 p < k) (hB : lt_B (pm_pf t0 t1) c0 fo0 ln0 sy0 le0 ri0 W0) (hO : lt_O c0 fo0 ln0 W0) (hS : lt_S k c0 fo0 ln0 W0 St Bw bw) (h5 : 5 ≤ s) (h8 : s < 8)
    (hP : lt_P (pm_pf t0 t1) k c0 fo0 ln0 sy0 le0 ri0 W0 (lt_Us s) (lt_Ds s) Co Fo Le Ri Si Sy)
    {Q : Int32 → (Nat → Int32) → (Nat → Int32) → (Nat → Int32) → (Nat → Int32) → (Nat → Int32) → Prop}
    (hQ : ∀ Co' Fo' Le' Ri' Si' Sy', lt_P (pm_pf t0 t1) k c0 fo0 ln0 sy0 le0 ri0 W0 (lt_Us (s + 1)) (lt_Ds (s + 1)) Co' Fo' Le' Ri' Si' Sy' → Q Co' Fo' Le' Ri' Si' Sy') :
    wp_X2_findWithTwo Co Kn Bw Fo Le MfGo MfRe MsGo MsRe Ri Si St Sy (nI s) (nI k) Q := by
  obtain ⟨z1, z2, z3, z4, z5, z6⟩ := id hB
  obtain ⟨S1, S2, S3, S4⟩ := id hS
  have c256 := (lt_P_fo hP).1
  have tot : ∀ l r, 1 + pm_ll s ln0 l + pm_rl s ln0 r = 1 + ln0 l + ln0 r := by
    intro l r
    unfold pm_ll pm_rl
    rw [if_pos (by omega), if_pos h5]
  have ecw : ∀ l r, pm_cw s W0 l r = s :: (W0 l ++ W0 r) := by
    intro l r
    unfold pm_cw pm_lw pm_rw
    rw [if_pos (by omega), if_pos h5]
  have TT : ∀ p, ln0 p ≠ 0 → pm_T (pm_pf t0 t1) p (W0 p) := fun p hp => ((z2 p hp).2.2 (by have := hb p hp; omega)).1
  obtain ⟨e1, f1, f2, f3⟩ := S1 k (by omega) (Nat.le_refl k)
  have ee : e1 = c0 := by
    rcases Nat.lt_or_ge e1 c0 with q | q
    · have := (f3 e1 q).mpr (hb _ (z4 e1 q).2)
      omega
    · omega
  refine ⟨vp_in_nI (by omega) (by decide), fun x3 ex3 => ?_⟩
  rw [pn_clamp (by omega), f2, ee] at ex3
  rw [ex3]
  have main : ∀ (d i : Nat) (Co : Int32) (Fo Le Ri Si Sy : Nat → Int32), i + d = c0 → lt_P (pm_pf t0 t1) k c0 fo0 ln0 sy0 le0 ri0 W0 (fun V => (∃ s' x, s < s' ∧ V = s' :: x) ∨ (∃ i' y, i ≤ i' ∧ i' < c0 ∧ V = s :: (W0 (bw i') ++ y))) (fun s' l r => s' < s ∨ (s' = s ∧ ∃ i', i' < i ∧ l = bw i')) Co Fo Le Ri Si Sy → lp_X2_findWithTwo_10 Kn Bw MfGo MfRe MsGo MsRe St Q (d + 1) Co Fo Le Ri Si Sy (nI s) (nI k) (nI c0) (nI i) := by
    intro d
    induction d with
    | zero =>
      intro i Co Fo Le Ri Si Sy e hP
      refine ⟨fun _ => hQ _ _ _ _ _ _ (lt_P_sub hP (fun V hV => ?_) (fun s' l r hs' hd hv ht => ?_)), fun w => absurd (nI_le (by omega) (by omega)) w⟩
      · obtain ⟨s', x, q1, q2⟩ := hV
        exact Or.inl ⟨s', x, by omega, q2⟩
      · have hd' : s' < s + 1 := hd
        by_cases q : s' = s
        · subst q
          obtain ⟨i', q1, q2⟩ := S4 l (hv.2.2.1 (by omega))
          exact Or.inr ⟨rfl, i', by omega, q2.symm⟩
        · exact Or.inl (by omega)
    | succ d ih =>
      intro i Co Fo Le Ri Si Sy e hP
      obtain ⟨m1, m2, m3⟩ := S2 i (by omega)
      have hSi := (lt_P_fo hP).2.2 _ m2 m3
      have hlk := hb _ m3
      refine ⟨fun w => absurd w (nI_ge (by omega) (by omega)), fun _ => ⟨vp_in_nI (by omega) (by decide), fun x5 ex5 => ?_⟩⟩
      rw [pn_clamp (by omega), m1] at ex5
      rw [ex5]
      refine ⟨vp_in_nI m2 (by decide), fun x6 ex6 => ?_⟩
      rw [pn_clamp (by omega), hSi] at ex6
      have em : nI k - 1 = nI (k - 1) := pk_sub (a := k) (b := 1) (by omega)
      rw [em, pk_sub (by omega)] at ex6
      rw [ex6]
      refine ⟨fun w => ?_, fun w y ey => ?_⟩
      · have w' := (nI_leI (a := 1) (b := k - 1 - ln0 (bw i)) (by decide) (by omega)).mp w
        obtain ⟨e2, g1, g2, g3⟩ := S1 (k - 1 - ln0 (bw i)) (by omega) (by omega)
        obtain ⟨e3, j1, j2, j3⟩ := S1 (k - 1 - ln0 (bw i) + 1) (by omega) (by omega)
        rw [nI_1]
        refine ⟨vp_in_nI (by omega) (by decide), fun x7 ex7 => ⟨vp_in_nI (by omega) (by decide), fun x8 ex8 => ?_⟩⟩
        rw [pn_clamp (by omega), j2] at ex7
        rw [pn_clamp (by omega), g2] at ex8
        rw [ex7, ex8]
        have he23 : e2 ≤ e3 := by
          rcases Nat.lt_or_ge e3 e2 with q | q
          · have a := (g3 e3 (by omega)).mp q
            have b := (j3 e3 (by omega)).mpr (by omega)
            omega
          · exact q
        have inner : ∀ (m j : Nat) (Co : Int32) (Fo Le Ri Si Sy : Nat → Int32), j + m = e3 → e2 ≤ j → lt_P (pm_pf t0 t1) k c0 fo0 ln0 sy0 le0 ri0 W0 (fun V => (∃ s' x, s < s' ∧ V = s' :: x) ∨ (∃ i' y, i < i' ∧ i' < c0 ∧ V = s :: (W0 (bw i') ++ y)) ∨ (∃ j', j ≤ j' ∧ j' < e3 ∧ V = s :: (W0 (bw i) ++ W0 (fo0 j')))) (fun s' l r => s' < s ∨ (s' = s ∧ ((∃ i', i' < i ∧ l = bw i') ∨ (l = bw i ∧ ∃ j', j' < j ∧ r = fo0 j')))) Co Fo Le Ri Si Sy → lp_X2_findWithTwo_67 Kn Bw MfGo MfRe MsGo MsRe St (lp_X2_findWithTwo_10 Kn Bw MfGo MfRe MsGo MsRe St Q (d + 1)) Q (m + 1) Co Fo Le Ri Si Sy (nI s) (nI k) (nI c0) (nI i) (nI (bw i)) (nI e3) (nI j) := by
          intro m
          induction m with
          | zero =>
            intro j Co Fo Le Ri Si Sy ej _ hP
            refine ⟨fun _ y ey => ?_, fun w => absurd (nI_le (by omega) (by omega)) w⟩
            rw [ey, nI_1]
            refine ih (i + 1) Co Fo Le Ri Si Sy (by omega) (lt_P_sub hP (fun V hV => ?_) (fun s' l r _ hd hv ht => ?_))
            · rcases hV with ⟨s', x, q1, q2⟩ | ⟨i', y, q1, q2, q3⟩
              · exact Or.inl ⟨s', x, q1, q2⟩
              · exact Or.inr (Or.inl ⟨i', y, by omega, q2, q3⟩)
            · rcases hd with hd | ⟨rfl, i', q1, q2⟩
              · exact Or.inl hd
              · by_cases q : i' = i
                · subst q
                  refine Or.inr ⟨rfl, Or.inr ⟨q2, ?_⟩⟩
                  obtain ⟨j', r1, r2⟩ := z5 r (hv.2.2.2 h5)
                  rw [tot, q2] at ht
                  have := (j3 j' r1).mpr (by rw [r2]; omega)
                  exact ⟨j', by omega, r2.symm⟩
                · exact Or.inr ⟨rfl, Or.inl ⟨i', by omega, q2⟩⟩
          | succ m ihm =>
            intro j Co Fo Le Ri Si Sy ej hge hP
            have hfo := (lt_P_fo hP).2.1 j (by omega)
            have hj4 := z4 j (by omega)
            have hln : ln0 (fo0 j) = k - 1 - ln0 (bw i) := by
              have a := (j3 j (by omega)).mp (by omega)
              have b : ¬ ln0 (fo0 j) < k - 1 - ln0 (bw i) := fun q => by have := (g3 j (by omega)).mpr q; omega
              omega
            have hv : pm_vl ln0 s (bw i) (fo0 j) := ⟨fun q => by omega, fun q => by omega, fun _ => m3, fun _ => hj4.2⟩
            refine ⟨fun w => absurd w (nI_ge (by omega) (by omega)), fun _ => ⟨vp_in_nI (by omega) (by decide), ?_⟩⟩
            rw [pn_clamp (by omega), hfo]
            refine lt_P_meet h0 h1 b0 b1 hP hk hb z1 (fun i' hi' => (z4 i' hi').2) h8 hv (by rw [tot, hln]; omega) (Or.inr (Or.inr ⟨j, Nat.le_refl _, by omega, ecw _ _⟩)) (U' := fun V => (∃ s' x, s < s' ∧ V = s' :: x) ∨ (∃ i' y, i < i' ∧ i' < c0 ∧ V = s :: (W0 (bw i') ++ y)) ∨ (∃ j', j + 1 ≤ j' ∧ j' < e3 ∧ V = s :: (W0 (bw i) ++ W0 (fo0 j')))) (fun V hV => ?_) (fun Co' Fo' Le' Ri' Si' Sy' hP' y ey => ?_)
            · rw [ecw]
              rcases hV with ⟨s', x, q1, q2⟩ | ⟨i', y, q1, q2, q3⟩ | ⟨j', q1, q2, q3⟩
              · refine ⟨Or.inl ⟨s', x, q1, q2⟩, ?_⟩
                rw [q2]; exact pm_lx_h q1
              · refine ⟨Or.inr (Or.inl ⟨i', y, q1, q2, q3⟩), ?_⟩
                rw [q3]
                exact pm_lx_t (pm_lx_T (TT _ m3) (TT _ (S2 i' q2).2.2) (S3 i i' q1 q2) _ _)
              · refine ⟨Or.inr (Or.inr ⟨j', by omega, q2, q3⟩), ?_⟩
                have hj4' := z4 j' (by omega)
                have hln' : ln0 (fo0 j') = k - 1 - ln0 (bw i) := by
                  have a := (j3 j' (by omega)).mp (by omega)
                  have b : ¬ ln0 (fo0 j') < k - 1 - ln0 (bw i) := fun q => by have := (g3 j' (by omega)).mpr q; omega
                  omega
                rw [q3]
                exact pm_lx_t ((pm_lx_pre _).mpr ((hO j j' (by omega) (by omega)).2 (by omega) (by omega)))
            · rw [ey, nI_1]
              refine ihm (j + 1) Co' Fo' Le' Ri' Si' Sy' (by omega) (by omega) (lt_P_sub hP' (fun V hV => hV) (fun s' l r _ hd hv' _ => ?_))
              rcases hd with hd | ⟨rfl, ⟨i', q1, q2⟩ | ⟨q1, j', q2, q3⟩⟩
              · exact Or.inl (Or.inl hd)
              · exact Or.inl (Or.inr ⟨rfl, Or.inl ⟨i', q1, q2⟩⟩)
              · by_cases q : j' = j
                · subst q
                  exact Or.inr ⟨rfl, q1, q3⟩
                · exact Or.inl (Or.inr ⟨rfl, Or.inr ⟨q1, j', by omega, q3⟩⟩)
        refine ⟨_, inner (e3 - e2) e2 Co Fo Le Ri Si Sy (by omega) (Nat.le_refl _) (lt_P_sub hP (fun V hV => ?_) (fun s' l r _ hd hv ht => ?_))⟩
        · rcases hV with ⟨s', x, q1, q2⟩ | ⟨i', y, q1, q2, q3⟩ | ⟨j', q1, q2, q3⟩
          · exact Or.inl ⟨s', x, q1, q2⟩
          · exact Or.inr ⟨i', y, by omega, q2, q3⟩
          · exact Or.inr ⟨i, _, Nat.le_refl _, by omega, q3⟩
        · rcases hd with hd | ⟨rfl, ⟨i', q1, q2⟩ | ⟨q1, j', q2, q3⟩⟩
          · exact Or.inl hd
          · exact Or.inr ⟨rfl, i', q1, q2⟩
          · exfalso
            rw [tot, q1, q3] at ht
            have := (g3 j' (by omega)).mp q2
            omega
      · have w' : ¬ 1 ≤ k - 1 - ln0 (bw i) := fun q => w ((nI_leI (a := 1) (b := k - 1 - ln0 (bw i)) (by decide) (by omega)).mpr q)
        rw [ey, nI_1]
        refine ih (i + 1) Co Fo Le Ri Si Sy (by omega) (lt_P_sub hP (fun V hV => ?_) (fun s' l r _ hd hv ht => ?_))
        · rcases hV with ⟨s', x, q1, q2⟩ | ⟨i', y, q1, q2, q3⟩
          · exact Or.inl ⟨s', x, q1, q2⟩
          · exact Or.inr ⟨i', y, by omega, q2, q3⟩
        · rcases hd with hd | ⟨rfl, i', q1, q2⟩
          · exact Or.inl hd
          · by_cases q : i' = i
            · exfalso
              subst q
              rw [tot, q2] at ht
              have := hv.2.2.2 h5
              omega
            · exact Or.inr ⟨rfl, i', by omega, q2⟩
  refine ⟨_, main c0 0 Co Fo Le Ri Si Sy (by omega) (lt_P_sub hP (fun V hV => ?_) (fun s' l r _ hd hv ht => ?_))⟩
  · rcases hV with ⟨s', x, q1, q2⟩ | ⟨i', y, q1, q2, q3⟩
    · exact ⟨s', x, by omega, q2⟩
    · exact ⟨s, _, Nat.le_refl _, q3⟩
  · rcases hd with hd | ⟨rfl, i', q1, q2⟩
    · exact hd
    · omega
theorem ps_findOfSize {Kn MfGo MsGo Co : Int32} {Fo Le Ri Si Sy St Bw MfRe MsRe : Nat → Int32} {t0 t1 fo0 ln0 sy0 le0 ri0 bw : Nat → Nat} {W0 : Nat → List Nat} {k c0 : Nat} (h0 : ∀ j, t0 j < 16) (h1 : ∀ j, t1 j < 16) (b0 : iv_re MfRe t0) (b1 : iv_re MsRe t1)
    (hk : 1 ≤ k ∧ k ≤ 32) (hb : ∀ p, ln0 p ≠ 0 → ln0 p < k) (hB : lt_B (pm_pf t0 t1) c0 fo0 ln0 sy0 le0 ri0 W0) (hO : lt_O c0 fo0 ln0 W0) (hS : lt_S k c0 fo0 ln0 W0 St Bw bw)
    (hP : lt_P (pm_pf t0 t1) k c0 fo0 ln0 sy0 le0 ri0 W0 (lt_Us 0) (lt_Ds 0) Co Fo Le Ri Si Sy)
    {Q : Int32 → (Nat → Int32) → (Nat → Int32) → (Nat → Int32) → (Nat → Int32) → (Nat → Int32) → Prop}
    (hQ : ∀ Co' Fo' Le' Ri' Si' Sy', lt_P (pm_pf t0 t1) k c0 fo0 ln0 sy0 le0 ri0 W0 (fun _ => False) (fun _ _ _ => True) Co' Fo' Le' Ri' Si' Sy' → Q Co' Fo' Le' Ri' Si' Sy') :
    wp_X2_findOfSize Co Kn Bw Fo Le MfGo MfRe MsGo MsRe Ri Si St Sy (nI k) Q := by
  obtain ⟨z1, z2, z3, z4, z5, z6⟩ := id hB
  have main : ∀ (d s : Nat) (Co : Int32) (Fo Le Ri Si Sy : Nat → Int32), s + d = 8 → lt_P (pm_pf t0 t1) k c0 fo0 ln0 sy0 le0 ri0 W0 (lt_Us s) (lt_Ds s) Co Fo Le Ri Si Sy → lp_X2_findOfSize_2 Kn Bw MfGo MfRe MsGo MsRe St Q (d + 1) Co Fo Le Ri Si Sy (nI k) (nI s) := by
    intro d
    induction d with
    | zero =>
      intro s Co Fo Le Ri Si Sy e hP
      refine ⟨fun _ => hQ _ _ _ _ _ _ (lt_P_sub hP (fun V hV => hV.elim) (fun s' l r hs' _ _ _ => ?_)), fun w => absurd ((nI_leI (a := 8) (b := s) (by decide) (by omega)).mpr (by omega)) w⟩
      show s' < s
      omega
    | succ d ih =>
      intro s Co Fo Le Ri Si Sy e hP
      refine ⟨fun w => absurd ((nI_leI (a := 8) (b := s) (by decide) (by omega)).mp w) (by omega), fun _ => ?_⟩
      refine ps_hasRight (s := s) (by omega) (fun w5 => ps_b0 ?_) (fun w5 => ps_b1 ?_)
      · refine ps_hasLeft (s := s) (by omega) (fun w3 => ps_b0 ⟨fun wk => ?_, fun wk y ey => ?_⟩) (fun w3 => ps_b1 ?_)
        · have k1 : k = 1 := (nI_eq (a := k) (b := 1) (by omega) (by decide)).mp wk
          have hv : pm_vl ln0 s 17 17 := ⟨fun _ => rfl, fun _ => rfl, fun q => by omega, fun q => by omega⟩
          have ecw : pm_cw s W0 17 17 = s :: ([] ++ []) := by
            unfold pm_cw pm_lw pm_rw
            rw [if_neg (by omega), if_neg (by omega)]
          have tt : 1 + pm_ll s ln0 17 + pm_rl s ln0 17 = k := by
            unfold pm_ll pm_rl
            rw [if_neg (by omega), if_neg (by omega)]
            omega
          have := lt_P_meet (Kn := Kn) (MfGo := MfGo) (MsGo := MsGo) (l := 17) (r := 17) (U' := lt_Us (s + 1)) (Q := fun u8 u9 u10 u11 u12 u13 => ∀ x2_14 : Int32, x2_14 = nI s + 1 → lp_X2_findOfSize_2 Kn Bw MfGo MfRe MsGo MsRe St Q (d + 1) u8 u9 u10 u11 u12 u13 (nI k) x2_14) h0 h1 b0 b1 hP hk hb z1 (fun i' hi' => (z4 i' hi').2) (by omega) hv tt ⟨s, _, Nat.le_refl _, ecw⟩ (fun V hV => by
            obtain ⟨s', x, q1, q2⟩ := hV
            refine ⟨⟨s', x, by omega, q2⟩, ?_⟩
            rw [ecw, q2]; exact pm_lx_h (by omega)) (fun Co' Fo' Le' Ri' Si' Sy' hP' y ey => by
            rw [ey, nI_1]
            refine ih (s + 1) Co' Fo' Le' Ri' Si' Sy' (by omega) (lt_P_sub hP' (fun V hV => hV) (fun s' l r _ hd hv' _ => ?_))
            have hd' : s' < s + 1 := hd
            by_cases q : s' = s
            · subst q
              exact Or.inr ⟨rfl, hv'.1 w3, hv'.2.1 w5⟩
            · exact Or.inl (show s' < s by omega))
          rw [k1] at this ⊢
          exact this
        · rw [ey, nI_1]
          have k1 : k ≠ 1 := fun q => wk (by rw [q]; rfl)
          refine ih (s + 1) Co Fo Le Ri Si Sy (by omega) (lt_P_sub hP (fun V hV => ?_) (fun s' l r _ hd hv ht => ?_))
          · obtain ⟨s', x, q1, q2⟩ := hV
            exact ⟨s', x, by omega, q2⟩
          · have hd' : s' < s + 1 := hd
            by_cases q : s' = s
            · subst q
              exfalso
              unfold pm_ll pm_rl at ht
              rw [if_neg (by omega), if_neg (by omega)] at ht
              omega
            · show s' < s
              omega
        · exact ps_findOne h0 h1 b0 b1 hk hb hB hO hS w3 w5 hP (fun Co' Fo' Le' Ri' Si' Sy' hP' y ey => by
            rw [ey, nI_1]
            exact ih (s + 1) Co' Fo' Le' Ri' Si' Sy' (by omega) hP')
      · exact ps_findTwo h0 h1 b0 b1 hk hb hB hO hS w5 (by omega) hP (fun Co' Fo' Le' Ri' Si' Sy' hP' y ey => by
          rw [ey, nI_1]
          exact ih (s + 1) Co' Fo' Le' Ri' Si' Sy' (by omega) hP')
  exact ⟨9, main 8 0 Co Fo Le Ri Si Sy (by omega) hP⟩
