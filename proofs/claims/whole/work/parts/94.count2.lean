/-! one size more is counted; the numbers of a sort -/
theorem ps_emptyRow {Cd : Int32} {Nu : Nat → Int32} {row : Nat} (hrow : row + 256 ≤ 3328) {Q : (Nat → Int32) → Prop} (hQ : ∀ Nu', (∀ i, i < row → Nu' i = Nu i) → (∀ q, q < 256 → Nu' (row + q) = 0) → Q Nu') : wp_X0_emptyRow Cd Nu (nI row) Q := by
  have main : ∀ (d q : Nat) (N : Nat → Int32), q + d = 256 → (∀ i, i < row → N i = Nu i) → (∀ q', q' < q → N (row + q') = 0) → lp_X0_emptyRow_2 Cd Q (d + 1) N (nI row) (nI q) := by
    intro d
    induction d with
    | zero =>
      intro q N e h1 h2
      exact ⟨fun _ => hQ N h1 (fun q' hq' => h2 q' (by omega)), fun w => absurd ((nI_leI (a := 256) (b := q) (by decide) (by omega)).mpr (by omega)) w⟩
    | succ d ih =>
      intro q N e h1 h2
      refine ⟨fun w => absurd ((nI_leI (a := 256) (b := q) (by decide) (by omega)).mp w) (by omega), fun _ => ?_⟩
      rw [nI_add]
      refine ⟨vp_in_nI (by omega) (by decide), fun N' eN y ey => ?_⟩
      rw [pn_clamp (by omega)] at eN
      rw [ey, nI_1]
      refine ih (q + 1) N' (by omega) (fun i hi => ?_) (fun q' hq' => ?_)
      · rw [eN, pk_un (by omega)]
        exact h1 i hi
      · by_cases e2 : q' = q
        · rw [eN, e2, pk_us]
        · rw [eN, pk_un (by omega)]
          exact h2 q' (by omega)
  unfold wp_X0_emptyRow wp_X0_emptyRow_in
  exact ⟨_, main 256 0 Nu (by omega) (fun _ _ => rfl) (fun q' hq' => by omega)⟩
theorem pm_nl_eq {pf : Nat → Nat → Nat → Nat} {T : Nat → Nat → Int32} {m q l : Nat} : pm_nl pf T m q l = pm_s (fun s => pm_dl (pf (3 + s) l 17) q (T (m - 1) l)) 2 + pm_s (pm_n2 pf T m l q) 256 := rfl
theorem ps_count {Cd LCo LKn MfGo MsGo : Int32} {LFo LLe LRi LSi LSy Nu MfRe MsRe : Nat → Int32} {T : Nat → Nat → Int32} {t0 t1 fo ln sy le ri : Nat → Nat} {W : Nat → List Nat} {c m : Nat} (h0 : ∀ j, t0 j < 16) (h1 : ∀ j, t1 j < 16) (b0 : iv_re MfRe t0) (b1 : iv_re MsRe t1)
    (hI : iv_L LCo LFo LLe LRi LSi LSy c fo ln sy le ri) (hB : lt_B (pm_pf t0 t1) c fo ln sy le ri W) (hO : lt_O c fo ln W) (hf : pm_fix (pm_pf t0 t1) ln W) (hm : 1 ≤ m) (hm2 : m ≤ 12) (hg : pm_gd (pm_pf t0 t1) T (m - 1)) (hT : ∀ k p, 1 ≤ k → k < m → p < 256 → Nu (k * 256 + p) = T k p)
    {Q : (Nat → Int32) → Prop} (hQ : ∀ Nu', (∀ i, i < m * 256 → Nu' i = Nu i) → (∀ q, q < 256 → Nu' (m * 256 + q) = pm_nu (pm_pf t0 t1) T m q) → Q Nu') :
    wp_X0_count Cd LCo LKn LFo LSi MfGo MfRe MsGo MsRe Nu (nI m) (nI c) Q := by
  obtain ⟨z1, z2, z3, z4, z5, z6⟩ := id hB
  obtain ⟨-, c256, i3, i4⟩ := id hI
  have mm : nI m * 256 = nI (m * 256) := pk_mul m 256
  unfold wp_X0_count wp_X0_count_in
  rw [mm]
  refine ps_emptyRow (by omega) (fun Nu1 e1 e2 => ⟨fun w => ?_, fun w => ?_⟩)
  · have m1 : m = 1 := (nI_eq (a := m) (b := 1) (by omega) (by decide)).mp w
    subst m1
    refine ps_addTerms (f := 0) (e := 3) (l := 17) (r := 17) (row := 256) h0 h1 b0 b1 (by decide) (by decide) (by decide) (by decide) (fun s _ _ => ⟨fun _ => rfl, fun _ => rfl⟩) (by decide) (fun N hN => hQ N (fun i hi => ?_) (fun q hq => ?_))
    · rw [hN.1 i (by omega)]
      exact e1 i hi
    · have a := hN.2 q hq
      have b := e2 q hq
      rw [Nat.one_mul] at b ⊢
      rw [a, b, Int32.zero_add]
      unfold pm_nu
      rw [if_pos rfl]
      exact pm_s_congr 3 (fun s _ => by rw [Nat.zero_add])
  · have hm' : 2 ≤ m := by
      have : m ≠ 1 := fun q => w (by rw [q]; rfl)
      omega
    have nlne : ∀ q p, p < 256 → pm_nl (pm_pf t0 t1) T m q p ≠ 0 → ln p ≠ 0 ∧ ln p ≤ 32 := by
      intro q p hp h
      rw [pm_nl_eq] at h
      rcases pm_add_ne h with h | h
      · obtain ⟨s, _, h⟩ := pm_s_ne _ h
        have := pm_gd_ln hg z2 hf (k := m - 1) (by omega) (by omega) (by omega) hp (pm_dl_ne h).2
        exact ⟨this.1, by omega⟩
      · obtain ⟨r, hr, h⟩ := pm_s_ne _ h
        obtain ⟨s, _, h⟩ := pm_s_ne _ h
        have := pm_cp_ne hg z2 hf (by omega) hp hr (pm_dl_ne h).2
        exact ⟨this.1, by omega⟩
    have em : nI m - 1 = nI (m - 1) := pk_sub (a := m) (b := 1) (by omega)
    have main : ∀ (d i : Nat) (N : Nat → Int32), i + d = c → cc_up Nu1 N (m * 256) (fun q => pm_s (fun i => pm_nl (pm_pf t0 t1) T m q (fo i)) i) → lp_X0_count_31 Cd LCo LKn LFo LSi MfGo MfRe MsGo MsRe Q (d + 1) N (nI m) (nI c) (nI i) := by
      intro d
      induction d with
      | zero =>
        intro i N ei hN
        refine ⟨fun _ => hQ N (fun j hj => ?_) (fun q hq => ?_), fun w => absurd (nI_le (by omega) (by omega)) w⟩
        · rw [hN.1 j hj]
          exact e1 j hj
        · rw [hN.2 q hq, e2 q hq, Int32.zero_add]
          unfold pm_nu
          rw [if_neg (by omega), show i = c by omega]
          refine pm_s_fo (g := pm_nl (pm_pf t0 t1) T m q) (fun j hj => (z4 j hj).1) (fun j j' hj hj' e hne => ?_) (fun p hp hno => ?_)
          · exact lt_O_inj hO hj hj' e (nlne q _ (z4 j hj).1 hne).2
          · by_cases e : pm_nl (pm_pf t0 t1) T m q p = 0
            · exact e
            · obtain ⟨j, hj, ej⟩ := z5 p (nlne q p hp e).1
              exact absurd ej (hno j hj)
      | succ d ih =>
        intro i N ei hN
        have f4 := z4 i (by omega)
        refine ⟨fun w => absurd w (nI_ge (by omega) (by omega)), fun _ => ⟨vp_in_nI (by omega) (by decide), ?_⟩⟩
        have m1 : nI (m - 1) * 256 = nI ((m - 1) * 256) := pk_mul (m - 1) 256
        rw [pn_clamp (by omega), i3 i (by omega)]
        show vp_in ((nI m - 1) * 256 + nI (fo i)) 3328 ∧ _
        rw [em, m1, nI_add]
        refine ⟨vp_in_nI (by omega) (by decide), fun x5 e5 => ?_⟩
        have low : ∀ k p, 1 ≤ k → k < m → p < 256 → N (k * 256 + p) = T k p := fun k p q1 q2 q3 => by
          have hlt : k * 256 + p < m * 256 := by omega
          rw [hN.1 _ hlt, e1 _ hlt]
          exact hT k p q1 q2 q3
        rw [pn_clamp (by omega), low (m - 1) (fo i) (by omega) (by omega) f4.1] at e5
        rw [e5]
        -- with two children
        have two : ∀ N', cc_up N N' (m * 256) (fun q => pm_s (fun s => pm_dl (pm_pf t0 t1 (3 + s) (fo i) 17) q (T (m - 1) (fo i))) 2) → wp_X0_count_85 Cd LCo LKn LFo LSi MfGo MfRe MsGo MsRe (lp_X0_count_31 Cd LCo LKn LFo LSi MfGo MfRe MsGo MsRe Q (d + 1)) Q N' (nI m) (nI c) (nI i) (nI (fo i)) := by
          intro N' hN'
          unfold wp_X0_count_85
          refine ps_withLeft (T := T) h0 h1 b0 b1 hI hB hO hf hm' hm2 f4.1 f4.2 hg (fun k p q1 q2 q3 => ?_) (fun N'' hN'' y ey => ?_)
          · rw [hN'.1 _ (by omega)]
            exact low k p q1 q2 q3
          · rw [ey, nI_1]
            exact ih (i + 1) N'' (by omega) (cc_tr hN (cc_tr hN' hN''))
        refine ⟨fun w0 => two N (cc_rf (fun q _ => ?_)), fun _ => ?_⟩
        · exact pm_s_0 2 (fun s _ => by rw [w0]; exact pm_dl0)
        · rw [mm]
          exact ps_addTerms (f := 3) (e := 5) (r := 17) h0 h1 b0 b1 (by decide) (by decide) f4.1 (by decide) (fun s q1 q2 => ⟨fun q => by omega, fun q => rfl⟩) (by omega) (fun N' hN' => two N' hN')
    exact ⟨_, main c 0 Nu1 (by omega) (cc_rf (fun q _ => rfl))⟩
/-- the class's counts: good for the rules as they are, up to the size that is counted so far -/
def iv_N (pf : Nat → Nat → Nat → Nat) (Cd : Int32) (Nu : Nat → Int32) : Prop := ∃ k, k ≤ 12 ∧ Cd = nI k ∧ pm_gd pf (fun k p => Nu (k * 256 + p)) k
theorem ps_ofSort {Cd LCo LKn : Int32} {LBw LFo LLe LRa LRi LSi LSt LSy Nu MfRe MsRe : Nat → Int32} {t0 t1 : Nat → Nat} {g0 g1 σ n : Nat} (h0 : ∀ j, t0 j < 16) (h1 : ∀ j, t1 j < 16) (b0 : iv_re MfRe t0) (b1 : iv_re MsRe t1) (hσ : σ < 16) (hn : 1 ≤ n) (hn2 : n ≤ 12)
    (hK : iv_K (pm_pf t0 t1) LCo LKn LFo LLe LRi LSi LSy) (hN : iv_N (pm_pf t0 t1) Cd Nu)
    {Q : Int32 → Int32 → Int32 → Int32 → (Nat → Int32) → (Nat → Int32) → (Nat → Int32) → (Nat → Int32) → (Nat → Int32) → (Nat → Int32) → (Nat → Int32) → (Nat → Int32) → (Nat → Int32) → Prop}
    (hQ : ∀ Cd' LCo' LBw' LFo' LLe' LRa' LRi' LSi' LSt' LSy' Nu' T, iv_K (pm_pf t0 t1) LCo' 1 LFo' LLe' LRi' LSi' LSy' → iv_N (pm_pf t0 t1) Cd' Nu' → pm_gd (pm_pf t0 t1) T n → Q (pm_s (fun p => if σ.testBit (pm_pl g0 g1 p) = true then T n p else 0) 256) Cd' LCo' 1 LBw' LFo' LLe' LRa' LRi' LSi' LSt' LSy' Nu') :
    wp_X0_ofSort Cd LCo LKn LBw LFo LLe LRa LRi LSi LSt LSy (nI g0) MfRe (nI g1) MsRe Nu (nI σ) (nI n) Q := by
  unfold wp_X0_ofSort wp_X0_ofSort_in
  refine ps_learn h0 h1 b0 b1 hK (fun Co' Bw' Fo' Le' Ra' Ri' Si' St' Sy' hT x4 e4 => ?_)
  obtain ⟨c, fo, ln, sy, le, ri, W, a1, a2, a3, a4⟩ := hT
  obtain ⟨rfl, c256, i3, i4⟩ := id a1
  obtain ⟨z1, z2, z3, z4, z5, z6⟩ := id a2
  have hK' : iv_K (pm_pf t0 t1) (nI c) 1 Fo' Le' Ri' Si' Sy' := Or.inr ⟨rfl, c, fo, ln, sy, le, ri, W, a1, a2, a3, a4⟩
  -- the sum
  have sum : ∀ (k : Nat) (N : Nat → Int32), n ≤ k → k ≤ 12 → pm_gd (pm_pf t0 t1) (fun k p => N (k * 256 + p)) k → ∃ M : Nat, lp_X0_ofSort_54 (nI g0) MfRe (nI g1) MsRe Q M (nI k) (nI c) 1 Bw' Fo' Le' Ra' Ri' Si' St' Sy' N (nI σ) (nI n) (nI c) 0 0 := by
    intro k N hnk hk hg
    have hgn : pm_gd (pm_pf t0 t1) (fun k p => N (k * 256 + p)) n := fun m q1 q2 => hg m q1 (by omega)
    have main : ∀ (d i : Nat), i + d = c → lp_X0_ofSort_54 (nI g0) MfRe (nI g1) MsRe Q (d + 1) (nI k) (nI c) 1 Bw' Fo' Le' Ra' Ri' Si' St' Sy' N (nI σ) (nI n) (nI c) (pm_s (fun i => (fun p => if σ.testBit (pm_pl g0 g1 p) = true then N (n * 256 + p) else 0) (fo i)) i) (nI i) := by
      intro d
      induction d with
      | zero =>
        intro i ei
        refine ⟨fun _ => ?_, fun w => absurd (nI_le (by omega) (by omega)) w⟩
        rw [show i = c by omega]
        have nz : ∀ p, p < 256 → (if σ.testBit (pm_pl g0 g1 p) = true then N (n * 256 + p) else 0) ≠ 0 → ln p ≠ 0 ∧ ln p ≤ 32 := by
          intro p hp h
          have h' : N (n * 256 + p) ≠ 0 := by
            by_cases e : σ.testBit (pm_pl g0 g1 p) = true
            · rw [if_pos e] at h
              exact h
            · rw [if_neg e] at h
              exact absurd rfl h
          have := pm_gd_ln hgn z2 a4 (k := n) hn (Nat.le_refl n) (by omega) hp h'
          exact ⟨this.1, by omega⟩
        have e : pm_s (fun i => (fun p => if σ.testBit (pm_pl g0 g1 p) = true then N (n * 256 + p) else 0) (fo i)) c = pm_s (fun p => if σ.testBit (pm_pl g0 g1 p) = true then N (n * 256 + p) else 0) 256 := by
          refine pm_s_fo (g := fun p => if σ.testBit (pm_pl g0 g1 p) = true then N (n * 256 + p) else 0) (fun j hj => (z4 j hj).1) (fun j j' hj hj' e hne => ?_) (fun p hp hno => ?_)
          · exact lt_O_inj a3 hj hj' e (nz _ (z4 j hj).1 hne).2
          · by_cases e : (if σ.testBit (pm_pl g0 g1 p) = true then N (n * 256 + p) else 0) = 0
            · exact e
            · obtain ⟨j, hj, ej⟩ := z5 p (nz p hp e).1
              exact absurd ej (hno j hj)
        rw [e]
        exact hQ _ _ _ _ _ _ _ _ _ _ _ (fun k p => N (k * 256 + p)) hK' ⟨k, hk, rfl, hg⟩ hgn
      | succ d ih =>
        intro i ei
        have f4 := z4 i (by omega)
        refine ⟨fun w => absurd w (nI_ge (by omega) (by omega)), fun _ => ⟨vp_in_nI (by omega) (by decide), ?_⟩⟩
        rw [pn_clamp (by omega), i3 i (by omega)]
        refine ps_isOfSort f4.1 hσ (fun w => ps_b1 ?_) (fun w => ps_b0 (fun y ey => ?_))
        · have mm : nI n * 256 = nI (n * 256) := pk_mul n 256
          rw [mm, nI_add]
          refine ⟨vp_in_nI (by omega) (by decide), fun y ey z ez => ?_⟩
          rw [pn_clamp (by omega)] at ey
          rw [ez, nI_1]
          have e : y = pm_s (fun i => (fun p => if σ.testBit (pm_pl g0 g1 p) = true then N (n * 256 + p) else 0) (fo i)) (i + 1) := by
            show y = pm_s (fun i => (fun p => if σ.testBit (pm_pl g0 g1 p) = true then N (n * 256 + p) else 0) (fo i)) i + (if σ.testBit (pm_pl g0 g1 (fo i)) = true then N (n * 256 + fo i) else 0)
            rw [ey, if_pos (show σ.testBit (pm_pl g0 g1 (fo i)) = true from w)]
          rw [e]
          exact ih (i + 1) (by omega)
        · rw [ey, nI_1]
          have e : pm_s (fun i => (fun p => if σ.testBit (pm_pl g0 g1 p) = true then N (n * 256 + p) else 0) (fo i)) i = pm_s (fun i => (fun p => if σ.testBit (pm_pl g0 g1 p) = true then N (n * 256 + p) else 0) (fo i)) (i + 1) := by
            show _ = pm_s (fun i => (fun p => if σ.testBit (pm_pl g0 g1 p) = true then N (n * 256 + p) else 0) (fo i)) i + (if σ.testBit (pm_pl g0 g1 (fo i)) = true then N (n * 256 + fo i) else 0)
            rw [if_neg (show ¬ σ.testBit (pm_pl g0 g1 (fo i)) = true from w), Int32.add_zero]
          rw [e]
          exact ih (i + 1) (by omega)
    exact ⟨_, main c 0 (by omega)⟩
  -- the sizes
  have main : ∀ (d k : Nat) (N : Nat → Int32), n ≤ k + d → k ≤ 12 → pm_gd (pm_pf t0 t1) (fun k p => N (k * 256 + p)) k → lp_X0_ofSort_23 (nI g0) MfRe (nI g1) MsRe Q (d + 1) (nI k) (nI c) 1 Bw' Fo' Le' Ra' Ri' Si' St' Sy' N (nI σ) (nI n) (nI c) (nI (k + 1)) := by
    intro d
    induction d with
    | zero =>
      intro k N e hk hg
      exact ⟨fun _ => sum k N (by omega) hk hg, fun w => absurd (nI_lt (by omega) (by omega)) w⟩
    | succ d ih =>
      intro k N e hk hg
      refine ⟨fun w => sum k N ?_ hk hg, fun w => ?_⟩
      · have := (nI_ltI (by omega) (by omega)).mp w
        omega
      · have hlt : ¬ n < k + 1 := fun q => w ((nI_ltI (by omega) (by omega)).mpr q)
        refine ps_count (m := k + 1) (T := fun k p => N (k * 256 + p)) h0 h1 b0 b1 a1 a2 a3 a4 (by omega) (by omega) hg (fun k' p _ _ _ => rfl) (fun N' q1 q2 y ey => ?_)
        rw [ey, nI_1]
        have same : ∀ k', k' ≤ k → ∀ p, p < 256 → N (k' * 256 + p) = N' (k' * 256 + p) := fun k' hk' p hp => (q1 _ (by omega)).symm
        refine ih (k + 1) N' (by omega) (by omega) (fun m p1 p2 q hq => ?_)
        by_cases em : m = k + 1
        · subst em
          show N' ((k + 1) * 256 + q) = _
          rw [q2 q hq]
          exact pm_nu_congr p1 (fun k' x1 x2 p hp => same k' (by omega) p hp)
        · show N' (m * 256 + q) = _
          rw [← same m (by omega) q hq]
          have := hg m p1 (by omega) q hq
          refine Eq.trans this ?_
          exact pm_nu_congr p1 (fun k' x1 x2 p hp => same k' (by omega) p hp)
  obtain ⟨k, hk, ek, hg⟩ := hN
  rw [e4, ek, nI_1]
  exact ⟨_, main n k Nu (by omega) hk hg⟩
