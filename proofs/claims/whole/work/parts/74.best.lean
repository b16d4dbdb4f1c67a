/-! the reference's best, included, least -/
def pm_st (g0 g1 σ p : Nat) : Prop := σ.testBit (pm_pl g0 g1 p) = true
theorem pb_is0 {a k : Nat} (ha : a < 2 ^ 31) (hk : k < 32) : ((nI a >>> (nI k &&& 31)) &&& 1) = 0 ↔ ¬ a.testBit k = true := by
  rw [pb_bit ha hk]
  have h2 : a / 2 ^ k % 2 < 2 := Nat.mod_lt _ (by decide)
  rw [pb_tb, decide_eq_true_iff]
  constructor
  · intro h
    have := (nI_eq (a := a / 2 ^ k % 2) (b := 0) (by omega) (by decide)).mp h
    omega
  · intro h
    rw [show a / 2 ^ k % 2 = 0 by omega]
    rfl
/-- the best of a sort in a table -/
def pm_bst (ln : Nat → Nat) (W : Nat → List Nat) (S : Nat → Prop) (b : Nat) : Prop := b < 256 ∧ ln b ≠ 0 ∧ S b ∧ ∀ p, p < 256 → ln p ≠ 0 → S p → pm_be (ln b) (W b) (ln p) (W p)
theorem ps_best {Co : Int32} {Go To Ln Tr Wr : Nat → Int32} {t0 t1 : Nat → Nat} {g0 g1 σ : Nat} (h0 : ∀ j, t0 j < 16) (h1 : ∀ j, t1 j < 16) (hT : iv_to To t0 t1) (e0 : Go 0 = nI g0) (e1 : Go 1 = nI g1) (hσ : σ < 16) {Q : Int32 → (Nat → Int32) → (Nat → Int32) → (Nat → Int32) → Prop}
    (hN : ∀ Ln' Tr' Wr' ln W, pm_tabR t0 t1 Ln' Wr' ln W → (∀ p, p < 256 → ln p ≠ 0 → ¬ pm_st g0 g1 σ p) → Q (-1) Ln' Tr' Wr')
    (hB : ∀ Ln' Tr' Wr' ln W b, pm_tabR t0 t1 Ln' Wr' ln W → pm_bst ln W (pm_st g0 g1 σ) b → Q (nI b) Ln' Tr' Wr') : wp_X6_best Co Go Ln To Tr Wr (nI σ) Q := by
  unfold wp_X6_best wp_X6_best_in
  refine ps_all h0 h1 hT (fun Ln Tr Wr ln W ht => ?_)
  obtain ⟨a1, a2, a3, a4⟩ := id ht
  have main : ∀ (d p : Nat) (x : Int32), p + d = 256 → ((x = -1 ∧ ∀ q, q < p → ln q ≠ 0 → ¬ pm_st g0 g1 σ q) ∨ (∃ b, b < p ∧ x = nI b ∧ ln b ≠ 0 ∧ pm_st g0 g1 σ b ∧ ∀ q, q < p → ln q ≠ 0 → pm_st g0 g1 σ q → pm_be (ln b) (W b) (ln q) (W q))) → lp_X6_best_8 Co Go To Q (d + 1) Ln Tr Wr (nI σ) x (nI p) := by
    intro d
    induction d with
    | zero =>
      intro p x e hi
      refine ⟨fun _ => ?_, fun w => absurd ((nI_leI (a := 256) (b := p) (by decide) (by omega)).mpr (by omega)) w⟩
      rcases hi with ⟨rfl, hi⟩ | ⟨b, hb, rfl, hi1, hi2, hi3⟩
      · exact hN _ _ _ _ _ ht (fun q hq => hi q (by omega))
      · exact hB _ _ _ _ _ b ht ⟨by omega, hi1, hi2, fun q hq => hi3 q (by omega)⟩
    | succ d ih =>
      intro p x e hi
      obtain ⟨u1, u2, u3⟩ := a1 p (by omega)
      -- going on with the same
      have same : ∀ y : Int32, y = nI p + 1 → (ln p ≠ 0 → pm_st g0 g1 σ p → ∃ b, b < p ∧ x = nI b ∧ pm_be (ln b) (W b) (ln p) (W p)) → lp_X6_best_8 Co Go To Q (d + 1) Ln Tr Wr (nI σ) x y := by
        intro y ey hp
        rw [ey, nI_1]
        refine ih (p + 1) x (by omega) ?_
        rcases hi with ⟨hx, hi⟩ | ⟨b, hb, hx, hi1, hi2, hi3⟩
        · refine Or.inl ⟨hx, fun q hq z s => ?_⟩
          by_cases e2 : q = p
          · subst e2
            obtain ⟨b, hb, hx2, -⟩ := hp z s
            have := nI_pos (n := b) (by omega)
            rw [← hx2, hx] at this
            exact this (by decide)
          · exact hi q (by omega) z s
        · refine Or.inr ⟨b, by omega, hx, hi1, hi2, fun q hq z s => ?_⟩
          by_cases e2 : q = p
          · subst e2
            obtain ⟨b', hb', hx2, r⟩ := hp z s
            have : b = b' := (nI_eq (by omega) (by omega)).mp (hx.symm.trans hx2)
            subst this
            exact r
          · exact hi3 q (by omega) z s
      -- going on with p
      have take : ∀ y : Int32, y = nI p + 1 → ln p ≠ 0 → pm_st g0 g1 σ p → (∀ b, b < p → x = nI b → pm_be (ln p) (W p) (ln b) (W b)) → lp_X6_best_8 Co Go To Q (d + 1) Ln Tr Wr (nI σ) (nI p) y := by
        intro y ey hz hs hp
        rw [ey, nI_1]
        refine ih (p + 1) (nI p) (by omega) (Or.inr ⟨p, by omega, rfl, hz, hs, fun q hq z s => ?_⟩)
        by_cases e2 : q = p
        · subst e2
          exact pm_be_rf z
        · rcases hi with ⟨hx, hi⟩ | ⟨b, hb, hx, hi1, hi2, hi3⟩
          · exact absurd s (hi q (by omega) z)
          · exact pm_be_tr (hp b hb hx) (hi3 q (by omega) z s)
      refine ⟨fun w => absurd ((nI_leI (a := 256) (b := p) (by decide) (by omega)).mp w) (by omega), fun _ => ⟨vp_in_nI (by omega) (by decide), ?_⟩⟩
      rw [pn_clamp (by omega), u1]
      refine ⟨fun w y ey => same y ey (fun q => absurd ((nI_eq (a := ln p) (b := 0) (by omega) (by decide)).mp w) q), fun w => ?_⟩
      have hz : ln p ≠ 0 := fun q => w (by rw [q]; rfl)
      have hpl := pm_pl_lt (g0 := g0) (g1 := g1) (p := p)
      refine ps_placeOfR e0 e1 (by omega) ⟨fun v y ey => same y ey (fun _ s => absurd s ((pb_is0 (by omega) (by omega)).mp v)), fun v => ?_⟩
      have hs : pm_st g0 g1 σ p := by
        cases tb : σ.testBit (pm_pl g0 g1 p)
        · exact absurd ((pb_is0 (a := σ) (k := pm_pl g0 g1 p) (by omega) (by omega)).mpr (by rw [tb]; decide)) v
        · exact tb
      refine ⟨fun x0 y ey => take y ey hz hs (fun b hb hx => ?_), fun x0 => ?_⟩
      · have := nI_pos (n := b) (by omega)
        rw [← hx] at this
        exact absurd x0 this
      · obtain ⟨b, hb, hx⟩ : ∃ b, b < p ∧ x = nI b := by
          rcases hi with ⟨hx, -⟩ | ⟨b, hb, hx, -⟩
          · exact absurd (by rw [hx]; decide) x0
          · exact ⟨b, hb, hx⟩
        have bz : ln b ≠ 0 := by
          rcases hi with ⟨hx', -⟩ | ⟨b', hb', hx', hi1, -⟩
          · rw [hx'] at x0; exact absurd (by decide) x0
          · have : b = b' := (nI_eq (by omega) (by omega)).mp (hx.symm.trans hx')
            subst this
            exact hi1
        obtain ⟨w1, w2, w3⟩ := a1 b (by omega)
        have ub : ∀ b', b' < p → x = nI b' → b' = b := fun b' hb' hx' => (nI_eq (by omega) (by omega)).mp (hx'.symm.trans hx)
        rw [hx]
        refine ⟨vp_in_nI (by omega) (by decide), vp_in_nI (by omega) (by decide), ?_⟩
        rw [pn_clamp (by omega), w1]
        refine ⟨fun le => ?_, fun le y ey => take y ey hz hs (fun b' hb' hx' => ?_)⟩
        · have le' := (nI_leI (by omega) (by omega)).mp le
          refine ⟨vp_in_nI (by omega) (by decide), vp_in_nI (by omega) (by decide), fun eq => ⟨vp_in_nI (by omega) (by decide), fun g33 y ey => ?_, fun g33 => ?_⟩, fun ne y ey => ?_⟩
          · have eq' := (nI_eq (by omega) (by omega)).mp eq
            have g' := (nI_leI (a := 33) (b := ln p) (by decide) (by omega)).mp g33
            rw [← hx]
            exact same y ey (fun _ _ => ⟨b, hb, hx, bz, Or.inr ⟨by omega, Or.inl (by omega)⟩⟩)
          · have eq' := (nI_eq (by omega) (by omega)).mp eq
            have g' : ¬ 33 ≤ ln p := fun q => g33 ((nI_leI (a := 33) (b := ln p) (by decide) (by omega)).mpr q)
            obtain ⟨p1, p2⟩ := u3 (by omega) (by omega)
            obtain ⟨b1, b2⟩ := w3 (by omega) (by omega)
            have ei : ∀ a k : Nat, ((32 : Int32) * nI a) + nI k = nI (32 * a + k) := by
              intro a k
              rw [show (32 : Int32) = nI 32 from rfl, pk_mul, nI_add]
            have k136 : ∀ j, j ≤ ln p → (∀ i, i < j → (W p).getD i 0 = (W b).getD i 0) → (j < ln p → (W p).getD j 0 ≠ (W b).getD j 0) → wp_X6_best_136 Co Go To (lp_X6_best_8 Co Go To Q (d + 1)) Q Ln Tr Wr (nI σ) (nI b) (nI p) (nI j) := by
              intro j hj he hne
              refine ⟨vp_in_nI (by omega) (by decide), ?_⟩
              rw [pn_clamp (by omega), u1]
              refine ⟨fun q y ey => ?_, fun q => ?_⟩
              · have q' := (nI_leI (by omega) (by omega)).mp q
                have ew : W p = W b := pm_eq_ix _ _ (by omega) (fun i hi' => he i (by omega))
                rw [← hx]
                exact same y ey (fun _ _ => ⟨b, hb, hx, bz, Or.inr ⟨by omega, Or.inr (by rw [ew]; exact pm_lx_irr _)⟩⟩)
              · have q' := (pn_ge (by omega) (by omega)).mp q
                rw [ei, ei]
                refine ⟨vp_in_nI (by omega) (by decide), vp_in_nI (by omega) (by decide), ?_⟩
                rw [pn_clamp (by omega), pn_clamp (by omega), (p2 j q').2, (b2 j (by omega)).2]
                have c1 := (p2 j q').1
                have c2 := (b2 j (by omega)).1
                refine ⟨fun r y ey => ?_, fun r y ey => take y ey hz hs (fun b' hb' hx' => ?_)⟩
                · have r' := (nI_leI (by omega) (by omega)).mp r
                  have lt : (W b).getD j 0 < (W p).getD j 0 := by have := hne q'; omega
                  rw [← hx]
                  exact same y ey (fun _ _ => ⟨b, hb, hx, bz, Or.inr ⟨by omega, Or.inr (pm_lx_as (pm_lx_ix _ _ j (by omega) (by omega) (fun i hi' => (he i hi').symm) lt))⟩⟩)
                · have := ub b' hb' hx'
                  subst this
                  have r' := (pn_ge (by omega) (by omega)).mp r
                  exact ⟨hz, Or.inr ⟨by omega, Or.inr (pm_lx_as (pm_lx_ix _ _ j (by omega) (by omega) he r'))⟩⟩
            have cmp : ∀ (m j : Nat), j + m = ln p → (∀ i, i < j → (W p).getD i 0 = (W b).getD i 0) → lp_X6_best_92 Co Go To (lp_X6_best_8 Co Go To Q (d + 1)) Q (m + 1) Ln Tr Wr (nI σ) (nI b) (nI p) (nI j) := by
              intro m
              induction m with
              | zero =>
                intro j ej he
                refine ⟨vp_in_nI (by omega) (by decide), ?_⟩
                rw [pn_clamp (by omega), u1]
                exact ⟨fun _ => k136 j (by omega) he (fun q => by omega), fun q => absurd (nI_le (by omega) (by omega)) q⟩
              | succ m ihm =>
                intro j ej he
                refine ⟨vp_in_nI (by omega) (by decide), ?_⟩
                rw [pn_clamp (by omega), u1]
                refine ⟨fun q => absurd q (nI_ge (by omega) (by omega)), fun _ => ?_⟩
                rw [ei, ei]
                refine ⟨vp_in_nI (by omega) (by decide), vp_in_nI (by omega) (by decide), ?_⟩
                rw [pn_clamp (by omega), pn_clamp (by omega), (p2 j (by omega)).2, (b2 j (by omega)).2]
                have c1 := (p2 j (by omega)).1
                have c2 := (b2 j (by omega)).1
                refine ⟨fun r y ey => ?_, fun r => k136 j (by omega) he (fun _ q => r (by rw [q]))⟩
                rw [ey, nI_1]
                refine ihm (j + 1) (by omega) (fun i hi' => ?_)
                by_cases e3 : i = j
                · rw [e3]; exact (nI_eq (by omega) (by omega)).mp r
                · exact he i (by omega)
            exact ⟨_, cmp (ln p) 0 (by omega) (fun i hi' => by omega)⟩
          · have ne' : ln p ≠ ln b := fun q => ne (by rw [q])
            rw [← hx]
            exact same y ey (fun _ _ => ⟨b, hb, hx, bz, Or.inl (by omega)⟩)
        · have := ub b' hb' hx'
          subst this
          have le' := (pn_ge (by omega) (by omega)).mp le
          exact ⟨hz, Or.inl le'⟩
  exact ⟨257, main 256 0 (-1) (by omega) (Or.inl ⟨rfl, fun q hq => by omega⟩)⟩
/-- two tables of the same rules: their best entries are alike -/
theorem pm_same {pf : Nat → Nat → Nat → Nat} {ln ln' : Nat → Nat} {W W' : Nat → List Nat} {S : Nat → Prop} (hpf : ∀ s l r, pf s l r < 256) (s1 : pm_snd pf ln W) (f1 : pm_fix pf ln W) (s2 : pm_snd pf ln' W') (f2 : pm_fix pf ln' W') {b b' : Nat} (hb : pm_bst ln W S b) (hb' : pm_bst ln' W' S b') : ln b = ln' b' ∧ (ln b ≤ 32 → W b = W' b') := by
  have half : ∀ (ln ln' : Nat → Nat) (W W' : Nat → List Nat), pm_snd pf ln W → pm_fix pf ln W → pm_snd pf ln' W' → ∀ b b', pm_bst ln W S b → pm_bst ln' W' S b' → ln b ≤ ln' b' ∧ (ln b = ln' b' → ln b ≤ 32 → ¬ pm_lx (W' b') (W b)) := by
    intro ln ln' W W' s1 f1 s2 b b' hb hb'
    obtain ⟨c1, c2, c3, c4⟩ := hb
    obtain ⟨d1, d2, d3, d4⟩ := hb'
    obtain ⟨e1, ⟨w, e2⟩, e3⟩ := s2 b' d2
    by_cases q : ln' b' ≤ 32
    · obtain ⟨g1, g2⟩ := e3 q
      have h1 := pm_full s1 f1 g1
      have h2 := pm_be_tr (c4 b' d1 h1.1 d3) h1
      have ec : pm_cap (W' b').length = ln' b' := by rw [g2]; unfold pm_cap; rw [if_neg (by omega)]
      rw [ec] at h2
      obtain ⟨-, h3⟩ := h2
      rcases h3 with h3 | ⟨h3, h4⟩
      · exact ⟨by omega, fun r => by omega⟩
      · refine ⟨by omega, fun _ r => ?_⟩
        rcases h4 with h4 | h4
        · omega
        · exact h4
    · have := (s1 b c2).1
      exact ⟨by omega, fun r r' => by omega⟩
  obtain ⟨x1, x2⟩ := half ln ln' W W' s1 f1 s2 b b' hb hb'
  obtain ⟨y1, y2⟩ := half ln' ln W' W s2 f2 s1 b' b hb' hb
  have e : ln b = ln' b' := by omega
  refine ⟨e, fun q => ?_⟩
  rcases pm_lx_tot (W b) (W' b') with h | h | h
  · exact absurd h (y2 e.symm (by omega))
  · exact h
  · exact absurd h (x2 e q)
theorem pm_none {pf : Nat → Nat → Nat → Nat} {ln ln' : Nat → Nat} {W W' : Nat → List Nat} {S : Nat → Prop} (f1 : pm_fix pf ln W) (s1 : pm_snd pf ln W) (s2 : pm_snd pf ln' W') (hz : pm_z ln) (h : ∀ p, p < 256 → ln p ≠ 0 → ¬ S p) {b : Nat} (hb : pm_bst ln' W' S b) : False := by
  obtain ⟨d1, d2, d3, d4⟩ := hb
  obtain ⟨e1, ⟨w, e2⟩, e3⟩ := s2 b d2
  exact h b d1 (pm_full s1 f1 e2).1 d3
