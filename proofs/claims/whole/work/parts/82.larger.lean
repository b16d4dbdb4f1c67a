/-! findLarger: what profiles there are beyond the sizes that are told -/
def fl_P (pf : Nat → Nat → Nat → Nat) (ln1 : Nat → Nat) (W1 : Nat → List Nat) (cs : Nat) (g : Nat → Nat) (F : (Nat → Nat) → Prop) (Co : Int32) (Fo Le Ri Si Sy : Nat → Int32) : Prop :=
  ∃ (c : Nat) (fo ln sy le ri : Nat → Nat) (W : Nat → List Nat), iv_L Co Fo Le Ri Si Sy c fo ln sy le ri ∧ lt_B pf c fo ln sy le ri W ∧ lt_O c fo ln W ∧ cs ≤ c ∧ (∀ a, a < cs → fo a = g a) ∧ (∀ p, ln1 p ≠ 0 → ln p = ln1 p ∧ W p = W1 p) ∧ (∀ p, ln p ≠ 0 → ln1 p ≠ 0 ∨ ln p = 33) ∧ F ln
def fl_mono (F : (Nat → Nat) → Prop) : Prop := ∀ ln ln' : Nat → Nat, (∀ p, ln p ≠ 0 → ln' p ≠ 0) → F ln → F ln'
theorem fl_meet {Kn MfGo MsGo Co : Int32} {Fo Le Ri Si Sy MfRe MsRe : Nat → Int32} {t0 t1 ln1 g : Nat → Nat} {W1 : Nat → List Nat} {cs s l r : Nat} {F : (Nat → Nat) → Prop} (h0 : ∀ j, t0 j < 16) (h1 : ∀ j, t1 j < 16) (b0 : iv_re MfRe t0) (b1 : iv_re MsRe t1) (hF : fl_mono F)
    (hcov : ∀ s l r, s < 8 → pm_vl ln1 s l r → 1 + pm_ll s ln1 l + pm_rl s ln1 r ≤ 32 → ln1 (pm_pf t0 t1 s l r) ≠ 0)
    (hP : fl_P (pm_pf t0 t1) ln1 W1 cs g F Co Fo Le Ri Si Sy) (h3 : 3 ≤ s) (hs : s < 8) (vl : ∃ a, a < cs ∧ l = g a) (vr : if 5 ≤ s then ∃ a, a < cs ∧ r = g a else r = 17)
    {Q : Int32 → (Nat → Int32) → (Nat → Int32) → (Nat → Int32) → (Nat → Int32) → (Nat → Int32) → Prop}
    (hQ : ∀ Co' Fo' Le' Ri' Si' Sy', fl_P (pm_pf t0 t1) ln1 W1 cs g (fun ln => F ln ∧ ln (pm_pf t0 t1 s l r) ≠ 0) Co' Fo' Le' Ri' Si' Sy' → Q Co' Fo' Le' Ri' Si' Sy') :
    wp_X2_meet Co Kn Fo Le MfGo MfRe MsGo MsRe Ri Si Sy (nI s) (nI l) (nI r) 33 Q := by
  obtain ⟨c, fo, ln, sy, le, ri, W, a1, a2, a3, a4, a5, a6, a7, a8⟩ := hP
  obtain ⟨z1, z2, z3, z4, z5, z6⟩ := id a2
  obtain ⟨rfl, -⟩ := id a1
  have ll : ln l ≠ 0 := by
    obtain ⟨a, ha, e⟩ := vl
    rw [e, ← a5 a ha]
    exact (z4 a (by omega)).2
  have rr : 5 ≤ s → ln r ≠ 0 := by
    intro w
    rw [if_pos w] at vr
    obtain ⟨a, ha, e⟩ := vr
    rw [e, ← a5 a ha]
    exact (z4 a (by omega)).2
  have hv : pm_vl ln s l r := ⟨fun q => by omega, fun q => by rw [if_neg (by omega)] at vr; exact vr, fun _ => ll, rr⟩
  have hlr := pm_vl_lt z1 hv
  have hp := pm_pf_lt h0 h1 s l r
  obtain ⟨ct1, -⟩ := pm_cand_T z2 hs hv
  refine ps_meet (z := 33) h0 h1 b0 b1 a1 hs hlr.1 hlr.2 hv.1 hv.2.1 (by omega) (fun e => by rw [z3]; exact pm_ct_lt' e hp) (fun hne => hQ _ _ _ _ _ _ ?_) (fun he Fo' Le' Ri' Si' Sy' hI => hQ _ _ _ _ _ _ ?_)
  · exact ⟨c, fo, ln, sy, le, ri, W, a1, a2, a3, a4, a5, a6, a7, a8, hne⟩
  · have np : ∀ q, ln q ≠ 0 → q ≠ pm_pf t0 t1 s l r := fun q hq e => hq (by rw [e]; exact he)
    have upl : ∀ q, ln q ≠ 0 → pm_up ln (pm_pf t0 t1 s l r) 33 q = ln q := fun q hq => pm_up_n (np q hq)
    have back : ∀ q, pm_up ln (pm_pf t0 t1 s l r) 33 q ≠ 0 → q ≠ pm_pf t0 t1 s l r → ln q ≠ 0 := fun q hq e => by rw [pm_up_n e] at hq; exact hq
    have foi : ∀ i, i < c → pm_up fo c (pm_pf t0 t1 s l r) i = fo i := fun i hi => pm_up_n (by omega)
    have mono : ∀ q, ln q ≠ 0 → pm_up ln (pm_pf t0 t1 s l r) 33 q ≠ 0 := fun q hq => by rw [upl q hq]; exact hq
    refine ⟨c + 1, pm_up fo c (pm_pf t0 t1 s l r), pm_up ln (pm_pf t0 t1 s l r) 33, pm_up sy (pm_pf t0 t1 s l r) s, pm_up le (pm_pf t0 t1 s l r) l, pm_up ri (pm_pf t0 t1 s l r) r, W, hI, ⟨?_, ?_, ?_, ?_, ?_, ?_⟩, ?_, by omega, ?_, ?_, ?_, hF _ _ mono a8, ?_⟩
    · intro q hq
      rw [pm_up_n (by omega)]; exact z1 q hq
    · intro q hq
      by_cases e : q = pm_pf t0 t1 s l r
      · subst e
        rw [pm_up_s]
        exact ⟨by omega, ct1, fun w => by omega⟩
      · have hq' := back q hq e
        rw [upl q hq']
        exact z2 q hq'
    · rw [pm_ct_up he (by omega) 256 hp, ← z3]
    · intro i hi
      by_cases e : i = c
      · subst e
        rw [pm_up_s, pm_up_s]
        exact ⟨hp, by omega⟩
      · rw [foi i (by omega), upl _ (z4 i (by omega)).2]
        exact z4 i (by omega)
    · intro q hq
      by_cases e : q = pm_pf t0 t1 s l r
      · exact ⟨c, by omega, by rw [pm_up_s, e]⟩
      · obtain ⟨i, hi, ei⟩ := z5 q (back q hq e)
        exact ⟨i, by omega, by rw [foi i hi]; exact ei⟩
    · intro q hq hq32
      by_cases e : q = pm_pf t0 t1 s l r
      · subst e
        rw [pm_up_s] at hq32
        omega
      · have hq' := back q hq e
        rw [upl q hq'] at hq32
        obtain ⟨f1, f2, f3, f4, f5⟩ := z6 q hq' hq32
        unfold lt_E
        rw [pm_up_n e, pm_up_n e, pm_up_n e, upl q hq']
        have e2 := pm_lr_eq (ln := pm_up ln (pm_pf t0 t1 s l r) 33) (ln' := ln) (s := sy q) (l := le q) (r := ri q) (fun w => upl _ (f2.2.2.1 w)) (fun w => upl _ (f2.2.2.2 w))
        exact ⟨f1, ⟨f2.1, f2.2.1, fun w => by rw [upl _ (f2.2.2.1 w)]; exact f2.2.2.1 w, fun w => by rw [upl _ (f2.2.2.2 w)]; exact f2.2.2.2 w⟩, f3, f4, by rw [e2.1, e2.2]; exact f5⟩
    · intro i j hij hj
      have hin := (z4 i (by omega)).2
      by_cases e : j = c
      · subst e
        rw [foi i hij, upl _ hin, pm_up_s, pm_up_s]
        have := (z2 _ hin).1
        exact ⟨by omega, fun w w' => by omega⟩
      · have hjn := (z4 j (by omega)).2
        rw [foi i (by omega), foi j (by omega), upl _ hin, upl _ hjn]
        exact a3 i j hij (by omega)
    · intro a ha
      rw [foi a (by omega)]; exact a5 a ha
    · intro q hq
      have hq' : ln q ≠ 0 := by rw [(a6 q hq).1]; exact hq
      rw [upl q hq']
      exact a6 q hq
    · intro q hq
      by_cases e : q = pm_pf t0 t1 s l r
      · right; rw [e, pm_up_s]
      · have hq' := back q hq e
        rw [upl q hq']
        exact a7 q hq'
    · rw [pm_up_s]; omega
theorem fl_sub {pf : Nat → Nat → Nat → Nat} {ln1 : Nat → Nat} {W1 : Nat → List Nat} {cs : Nat} {g : Nat → Nat} {F F' : (Nat → Nat) → Prop} {Co : Int32} {Fo Le Ri Si Sy : Nat → Int32} (h : fl_P pf ln1 W1 cs g F Co Fo Le Ri Si Sy) (hF : ∀ ln, F ln → F' ln) : fl_P pf ln1 W1 cs g F' Co Fo Le Ri Si Sy := by
  obtain ⟨c, fo, ln, sy, le, ri, W, a1, a2, a3, a4, a5, a6, a7, a8⟩ := h
  exact ⟨c, fo, ln, sy, le, ri, W, a1, a2, a3, a4, a5, a6, a7, hF ln a8⟩
theorem fl_fo {pf : Nat → Nat → Nat → Nat} {ln1 : Nat → Nat} {W1 : Nat → List Nat} {cs : Nat} {g : Nat → Nat} {F : (Nat → Nat) → Prop} {Co : Int32} {Fo Le Ri Si Sy : Nat → Int32} (h : fl_P pf ln1 W1 cs g F Co Fo Le Ri Si Sy) : cs ≤ 256 ∧ ∀ a, a < cs → Fo a = nI (g a) := by
  obtain ⟨c, fo, ln, sy, le, ri, W, ⟨b1, b2, b3, b4⟩, a2, a3, a4, a5, -⟩ := h
  exact ⟨by omega, fun a ha => by rw [b3 a (by omega), a5 a ha]⟩
def fl_F (pf : Nat → Nat → Nat → Nat) (g : Nat → Nat) (i : Nat) (ln : Nat → Nat) : Prop :=
  (∀ a, a < i → ∀ s, 3 ≤ s → s < 5 → ln (pf s (g a) 17) ≠ 0) ∧ (∀ a b, a < i → b < i → ∀ s, 5 ≤ s → s < 8 → ln (pf s (g a) (g b)) ≠ 0)
theorem fl_F_mono {pf : Nat → Nat → Nat → Nat} {g : Nat → Nat} {i : Nat} : fl_mono (fl_F pf g i) := fun ln ln' h q => ⟨fun a ha s h3 h5 => h _ (q.1 a ha s h3 h5), fun a b ha hb s h5 h8 => h _ (q.2 a b ha hb s h5 h8)⟩
/-- what the search leaves: every profile that some term has, with its least term -/
def lt_T (pf : Nat → Nat → Nat → Nat) (Co : Int32) (Fo Le Ri Si Sy : Nat → Int32) : Prop :=
  ∃ (c : Nat) (fo ln sy le ri : Nat → Nat) (W : Nat → List Nat), iv_L Co Fo Le Ri Si Sy c fo ln sy le ri ∧ lt_B pf c fo ln sy le ri W ∧ lt_O c fo ln W ∧ pm_fix pf ln W
theorem pm_fix_tot {pf : Nat → Nat → Nat → Nat} {ln : Nat → Nat} {W : Nat → List Nat} (hs : pm_snd pf ln W) (h : ∀ s l r, s < 8 → pm_vl ln s l r → 1 + pm_ll s ln l + pm_rl s ln r ≤ 32 → pm_be (ln (pf s l r)) (W (pf s l r)) (1 + pm_ll s ln l + pm_rl s ln r) (pm_cw s W l r)) (h2 : ∀ s l r, s < 8 → pm_vl ln s l r → 32 < 1 + pm_ll s ln l + pm_rl s ln r → ln (pf s l r) ≠ 0) : pm_fix pf ln W := by
  refine pm_fix_of (fun s l r hs8 _ hv => ?_)
  unfold pm_cn
  by_cases w : 1 + pm_ll s ln l + pm_rl s ln r ≤ 32
  · have e : pm_cap (1 + pm_ll s ln l + pm_rl s ln r) = 1 + pm_ll s ln l + pm_rl s ln r := by unfold pm_cap; rw [if_neg (by omega)]
    rw [e]
    exact h s l r hs8 hv w
  · have e : pm_cap (1 + pm_ll s ln l + pm_rl s ln r) = 33 := by unfold pm_cap; rw [if_pos (by omega)]
    rw [e]
    have n0 := h2 s l r hs8 hv (by omega)
    have := (hs _ n0).1
    by_cases q : ln (pf s l r) = 33
    · exact ⟨n0, Or.inr ⟨q, Or.inl q⟩⟩
    · exact ⟨n0, Or.inl (by omega)⟩
theorem ps_findLarger {Kn MfGo MsGo Co : Int32} {Fo Le Ri Si Sy MfRe MsRe : Nat → Int32} {t0 t1 : Nat → Nat} {c1 : Nat} {fo1 ln1 sy1 le1 ri1 : Nat → Nat} {W1 : Nat → List Nat} (h0 : ∀ j, t0 j < 16) (h1 : ∀ j, t1 j < 16) (b0 : iv_re MfRe t0) (b1 : iv_re MsRe t1)
    (hI : iv_L Co Fo Le Ri Si Sy c1 fo1 ln1 sy1 le1 ri1) (hB : lt_B (pm_pf t0 t1) c1 fo1 ln1 sy1 le1 ri1 W1) (hO : lt_O c1 fo1 ln1 W1) (h32 : ∀ p, ln1 p ≠ 0 → ln1 p ≤ 32)
    (hcov : ∀ s l r, s < 8 → pm_vl ln1 s l r → 1 + pm_ll s ln1 l + pm_rl s ln1 r ≤ 32 → pm_be (ln1 (pm_pf t0 t1 s l r)) (W1 (pm_pf t0 t1 s l r)) (1 + pm_ll s ln1 l + pm_rl s ln1 r) (pm_cw s W1 l r))
    {Q : Int32 → (Nat → Int32) → (Nat → Int32) → (Nat → Int32) → (Nat → Int32) → (Nat → Int32) → Prop}
    (hQ : ∀ Co' Fo' Le' Ri' Si' Sy', lt_T (pm_pf t0 t1) Co' Fo' Le' Ri' Si' Sy' → Q Co' Fo' Le' Ri' Si' Sy') :
    wp_X2_findLarger Co Kn Fo Le MfGo MfRe MsGo MsRe Ri Si Sy Q := by
  have cov0 : ∀ s l r, s < 8 → pm_vl ln1 s l r → 1 + pm_ll s ln1 l + pm_rl s ln1 r ≤ 32 → ln1 (pm_pf t0 t1 s l r) ≠ 0 := fun s l r a b c => (hcov s l r a b c).1
  have main : ∀ (d i : Nat) (Co : Int32) (Fo Le Ri Si Sy : Nat → Int32), i + d = 256 → (∃ (c : Nat) (fo : Nat → Nat), Co = nI c ∧ i ≤ c ∧ c ≤ 256 ∧ fl_P (pm_pf t0 t1) ln1 W1 c fo (fl_F (pm_pf t0 t1) fo i) Co Fo Le Ri Si Sy) → lp_X2_findLarger_2 Kn MfGo MfRe MsGo MsRe Q (d + 1) Co Fo Le Ri Si Sy (nI i) := by
    -- the end
    have fin : ∀ (i c : Nat) (fo : Nat → Nat) (Fo Le Ri Si Sy : Nat → Int32), c ≤ i → c ≤ 256 → fl_P (pm_pf t0 t1) ln1 W1 c fo (fl_F (pm_pf t0 t1) fo i) (nI c) Fo Le Ri Si Sy → Q (nI c) Fo Le Ri Si Sy := by
      intro i c fo Fo Le Ri Si Sy hci hc hP
      obtain ⟨c', fo', ln, sy, le, ri, W, a1, a2, a3, a4, a5, a6, a7, a8⟩ := hP
      obtain ⟨e, c256, -⟩ := id a1
      have ec : c' = c := ((nI_eq (by omega) (by omega)).mp e).symm
      subst ec
      obtain ⟨z1, z2, z3, z4, z5, z6⟩ := id a2
      refine hQ _ _ _ _ _ _ ⟨c', fo', ln, sy, le, ri, W, a1, a2, a3, pm_fix_tot z2 (fun s l r hs hv ht => ?_) (fun s l r hs hv ht => ?_)⟩
      · -- children of a small total are small
        have old : ∀ p, ln p ≠ 0 → ln p ≤ 32 → ln1 p ≠ 0 := fun p hp hp32 => by
          rcases a7 p hp with q | q
          · exact q
          · omega
        have ol : 3 ≤ s → ln1 l ≠ 0 := fun w => by
          have : pm_ll s ln l = ln l := by unfold pm_ll; rw [if_pos w]
          exact old l (hv.2.2.1 w) (by omega)
        have or' : 5 ≤ s → ln1 r ≠ 0 := fun w => by
          have : pm_rl s ln r = ln r := by unfold pm_rl; rw [if_pos w]
          exact old r (hv.2.2.2 w) (by omega)
        have e2 := pm_lr_eq (ln := ln) (ln' := ln1) (s := s) (l := l) (r := r) (fun w => (a6 l (ol w)).1) (fun w => (a6 r (or' w)).1)
        have ew : pm_cw s W l r = pm_cw s W1 l r := pm_cw_eq (fun w => (a6 l (ol w)).2) (fun w => (a6 r (or' w)).2)
        have := hcov s l r hs ⟨hv.1, hv.2.1, ol, or'⟩ (by rw [← e2.1, ← e2.2]; exact ht)
        rw [e2.1, e2.2, ew, (a6 _ this.1).1, (a6 _ this.1).2]
        exact this
      · by_cases w3 : s < 3
        · unfold pm_ll pm_rl at ht
          rw [if_neg (by omega), if_neg (by omega)] at ht
          omega
        · obtain ⟨a, ha, ea⟩ := z5 l (hv.2.2.1 (by omega))
          rw [a5 a ha] at ea
          by_cases w5 : s < 5
          · have := a8.1 a (by omega) s (by omega) w5
            rw [ea] at this
            rw [hv.2.1 w5]
            exact this
          · obtain ⟨b, hb, eb⟩ := z5 r (hv.2.2.2 (by omega))
            rw [a5 b hb] at eb
            have := a8.2 a b (by omega) (by omega) s (by omega) hs
            rw [ea, eb] at this
            exact this
    intro d
    induction d with
    | zero =>
      intro i Co Fo Le Ri Si Sy e hi
      obtain ⟨c, fo, rfl, hic, hc, hP⟩ := hi
      exact ⟨fun _ => fin i c fo _ _ _ _ _ (by omega) hc hP, fun w => absurd (nI_le (by omega) (by omega)) w⟩
    | succ d ih =>
      intro i Co Fo Le Ri Si Sy e hi
      obtain ⟨c, g, rfl, hic, hc, hP⟩ := hi
      refine ⟨fun w => ?_, fun w => ⟨fun w2 => absurd ((nI_leI (a := 256) (b := i) (by decide) (by omega)).mp w2) (by omega), fun _ => ?_⟩⟩
      · have := (nI_leI (by omega) (by omega)).mp w
        exact fin i c g _ _ _ _ _ this hc hP
      · have hlt := (pn_ge (by omega) (by omega)).mp w
        -- symbols with two children
        have two : ∀ (m j : Nat) (Co : Int32) (Fo Le Ri Si Sy : Nat → Int32), j + m = i + 1 → fl_P (pm_pf t0 t1) ln1 W1 c g (fun ln => fl_F (pm_pf t0 t1) g i ln ∧ (∀ s, 3 ≤ s → s < 5 → ln (pm_pf t0 t1 s (g i) 17) ≠ 0) ∧ ∀ b, b < j → ∀ s, 5 ≤ s → s < 8 → ln (pm_pf t0 t1 s (g i) (g b)) ≠ 0 ∧ ln (pm_pf t0 t1 s (g b) (g i)) ≠ 0) Co Fo Le Ri Si Sy → lp_X2_findLarger_47 Kn MfGo MfRe MsGo MsRe (lp_X2_findLarger_2 Kn MfGo MfRe MsGo MsRe Q (d + 1)) Q (m + 1) Co Fo Le Ri Si Sy (nI i) (nI j) := by
          intro m
          induction m with
          | zero =>
            intro j Co Fo Le Ri Si Sy ej hP
            refine ⟨fun _ y ey => ?_, fun w => absurd (nI_lt (by omega) (by omega)) w⟩
            rw [ey, nI_1]
            obtain ⟨c', fo', ln, sy, le, ri, W, a1, a2, a3, a4, a5, a6, a7, f1, f2, f3⟩ := hP
            refine ih (i + 1) Co Fo Le Ri Si Sy (by omega) ⟨c', fo', a1.1, by omega, a1.2.1, ⟨c', fo', ln, sy, le, ri, W, a1, a2, a3, Nat.le_refl _, fun _ _ => rfl, a6, a7, fun a ha s h3 h5 => ?_, fun a b ha hb s h5 h8 => ?_⟩⟩
            · rw [a5 a (by omega)]
              by_cases q : a = i
              · rw [q]; exact f2 s h3 h5
              · exact f1.1 a (by omega) s h3 h5
            · rw [a5 a (by omega), a5 b (by omega)]
              by_cases q : a = i
              · rw [q]; exact (f3 b (by omega) s h5 h8).1
              · by_cases q' : b = i
                · rw [q']; exact (f3 a (by omega) s h5 h8).2
                · exact f1.2 a b (by omega) (by omega) s h5 h8
          | succ m ihm =>
            intro j Co Fo Le Ri Si Sy ej hP
            refine ⟨fun w => absurd w (nI_nlt (by omega) (by omega)), fun _ => ?_⟩
            have sym : ∀ (n s : Nat) (Co : Int32) (Fo Le Ri Si Sy : Nat → Int32), s + n = 8 → 5 ≤ s → fl_P (pm_pf t0 t1) ln1 W1 c g (fun ln => (fl_F (pm_pf t0 t1) g i ln ∧ (∀ s, 3 ≤ s → s < 5 → ln (pm_pf t0 t1 s (g i) 17) ≠ 0) ∧ ∀ b, b < j → ∀ s, 5 ≤ s → s < 8 → ln (pm_pf t0 t1 s (g i) (g b)) ≠ 0 ∧ ln (pm_pf t0 t1 s (g b) (g i)) ≠ 0) ∧ ∀ s', 5 ≤ s' → s' < s → ln (pm_pf t0 t1 s' (g i) (g j)) ≠ 0 ∧ ln (pm_pf t0 t1 s' (g j) (g i)) ≠ 0) Co Fo Le Ri Si Sy → lp_X2_findLarger_54 Kn MfGo MfRe MsGo MsRe (lp_X2_findLarger_2 Kn MfGo MfRe MsGo MsRe Q (d + 1)) (lp_X2_findLarger_47 Kn MfGo MfRe MsGo MsRe (lp_X2_findLarger_2 Kn MfGo MfRe MsGo MsRe Q (d + 1)) Q (m + 1)) Q (n + 1) Co Fo Le Ri Si Sy (nI i) (nI j) (nI s) := by
              intro n
              induction n with
              | zero =>
                intro s Co Fo Le Ri Si Sy es hs5 hP
                refine ⟨fun _ y ey => ?_, fun w => absurd ((nI_leI (a := 8) (b := s) (by decide) (by omega)).mpr (by omega)) w⟩
                rw [ey, nI_1]
                refine ihm (j + 1) Co Fo Le Ri Si Sy (by omega) (fl_sub hP (fun ln q => ⟨q.1.1, q.1.2.1, fun b hb s' h5 h8 => ?_⟩))
                by_cases e2 : b = j
                · rw [e2]; exact q.2 s' h5 (by omega)
                · exact q.1.2.2 b (by omega) s' h5 h8
              | succ n ihn =>
                intro s Co Fo Le Ri Si Sy es hs5 hP
                have mF : fl_mono (fun ln => (fl_F (pm_pf t0 t1) g i ln ∧ (∀ s, 3 ≤ s → s < 5 → ln (pm_pf t0 t1 s (g i) 17) ≠ 0) ∧ ∀ b, b < j → ∀ s, 5 ≤ s → s < 8 → ln (pm_pf t0 t1 s (g i) (g b)) ≠ 0 ∧ ln (pm_pf t0 t1 s (g b) (g i)) ≠ 0) ∧ ∀ s', 5 ≤ s' → s' < s → ln (pm_pf t0 t1 s' (g i) (g j)) ≠ 0 ∧ ln (pm_pf t0 t1 s' (g j) (g i)) ≠ 0) := by
                  intro la lb hm q
                  exact ⟨⟨fl_F_mono la lb hm q.1.1, fun s h3 h5 => hm _ (q.1.2.1 s h3 h5), fun b hb s h5 h8 => ⟨hm _ (q.1.2.2 b hb s h5 h8).1, hm _ (q.1.2.2 b hb s h5 h8).2⟩⟩, fun s' h5 hs' => ⟨hm _ (q.2 s' h5 hs').1, hm _ (q.2 s' h5 hs').2⟩⟩
                have fo1 := fl_fo hP
                refine ⟨fun w => absurd ((nI_leI (a := 8) (b := s) (by decide) (by omega)).mp w) (by omega), fun _ => ⟨vp_in_nI (by omega) (by decide), vp_in_nI (by omega) (by decide), ?_⟩⟩
                rw [pn_clamp (by omega), pn_clamp (by omega), fo1.2 i (by omega), fo1.2 j (by omega)]
                refine fl_meet h0 h1 b0 b1 mF cov0 hP (by omega) (by omega) ⟨i, by omega, rfl⟩ (by rw [if_pos hs5]; exact ⟨j, by omega, rfl⟩) (fun Co' Fo' Le' Ri' Si' Sy' hP' => ⟨vp_in_nI (by omega) (by decide), vp_in_nI (by omega) (by decide), ?_⟩)
                have fo2 := fl_fo hP'
                rw [fo2.2 i (by omega), fo2.2 j (by omega)]
                refine fl_meet h0 h1 b0 b1 (fun la lb hm q => ⟨mF la lb hm q.1, hm _ q.2⟩) cov0 hP' (by omega) (by omega) ⟨j, by omega, rfl⟩ (by rw [if_pos hs5]; exact ⟨i, by omega, rfl⟩) (fun Co'' Fo'' Le'' Ri'' Si'' Sy'' hP'' y ey => ?_)
                rw [ey, nI_1]
                refine ihn (s + 1) Co'' Fo'' Le'' Ri'' Si'' Sy'' (by omega) (by omega) (fl_sub hP'' (fun ln q => ⟨q.1.1.1, fun s' h5 hs' => ?_⟩))
                by_cases e2 : s' = s
                · rw [e2]; exact ⟨q.1.2, q.2⟩
                · exact q.1.1.2 s' h5 (by omega)
            exact ⟨_, sym 3 5 Co Fo Le Ri Si Sy (by omega) (by omega) (fl_sub hP (fun ln q => ⟨q, fun s' h5 hs' => by omega⟩))⟩
        -- symbols with one child
        have one : ∀ (n s : Nat) (Co : Int32) (Fo Le Ri Si Sy : Nat → Int32), s + n = 5 → 3 ≤ s → fl_P (pm_pf t0 t1) ln1 W1 c g (fun ln => fl_F (pm_pf t0 t1) g i ln ∧ ∀ s', 3 ≤ s' → s' < s → ln (pm_pf t0 t1 s' (g i) 17) ≠ 0) Co Fo Le Ri Si Sy → lp_X2_findLarger_19 Kn MfGo MfRe MsGo MsRe (lp_X2_findLarger_2 Kn MfGo MfRe MsGo MsRe Q (d + 1)) Q (n + 1) Co Fo Le Ri Si Sy (nI i) (nI s) := by
          intro n
          induction n with
          | zero =>
            intro s Co Fo Le Ri Si Sy es hs3 hP
            refine ⟨fun _ => ⟨_, two (i + 1) 0 Co Fo Le Ri Si Sy (by omega) (fl_sub hP (fun ln q => ⟨q.1, fun s' h3 h5 => q.2 s' h3 (by omega), fun b hb => by omega⟩))⟩, fun w => absurd ((nI_leI (a := 5) (b := s) (by decide) (by omega)).mpr (by omega)) w⟩
          | succ n ihn =>
            intro s Co Fo Le Ri Si Sy es hs3 hP
            have fo1 := fl_fo hP
            refine ⟨fun w => absurd ((nI_leI (a := 5) (b := s) (by decide) (by omega)).mp w) (by omega), fun _ => ⟨vp_in_nI (by omega) (by decide), ?_⟩⟩
            rw [pn_clamp (by omega), fo1.2 i (by omega)]
            refine fl_meet (r := 17) h0 h1 b0 b1 (fun la lb hm q => ⟨fl_F_mono la lb hm q.1, fun s' h3 hs' => hm _ (q.2 s' h3 hs')⟩) cov0 hP hs3 (by omega) ⟨i, by omega, rfl⟩ (by rw [if_neg (by omega)]) (fun Co' Fo' Le' Ri' Si' Sy' hP' y ey => ?_)
            rw [ey, nI_1]
            refine ihn (s + 1) Co' Fo' Le' Ri' Si' Sy' (by omega) (by omega) (fl_sub hP' (fun ln q => ⟨q.1.1, fun s' h3 hs' => ?_⟩))
            by_cases e2 : s' = s
            · rw [e2]; exact q.2
            · exact q.1.2 s' h3 (by omega)
        exact ⟨_, one 2 3 _ Fo Le Ri Si Sy (by omega) (by omega) (fl_sub hP (fun ln q => ⟨q, fun s' h3 hs' => by omega⟩))⟩
  obtain ⟨e, c256, -⟩ := id hI
  refine ⟨257, main 256 0 Co Fo Le Ri Si Sy (by omega) ⟨c1, fo1, e, by omega, c256, ⟨c1, fo1, ln1, sy1, le1, ri1, W1, hI, hB, hO, Nat.le_refl _, fun _ _ => rfl, fun p hp => ⟨rfl, rfl⟩, fun p hp => Or.inl hp, fun a ha => by omega, fun a b ha => by omega⟩⟩⟩
