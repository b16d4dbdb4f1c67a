/-! the reference's all(): rounds of offers until nothing is new -/
theorem pm_be_tr {a b c : Nat} {A B C : List Nat} (h : pm_be a A b B) (h' : pm_be b B c C) : pm_be a A c C := by
  obtain ⟨h0, h1⟩ := h
  obtain ⟨-, h2⟩ := h'
  refine ⟨h0, ?_⟩
  rcases h1 with h1 | ⟨h1, h3⟩ <;> rcases h2 with h2 | ⟨h2, h4⟩
  · left; omega
  · left; omega
  · left; omega
  · right
    refine ⟨by omega, ?_⟩
    rcases h3 with h3 | h3
    · exact Or.inl h3
    · rcases h4 with h4 | h4
      · left; omega
      · exact Or.inr (pm_nlx h3 h4)
theorem pm_be_rf {a : Nat} {A : List Nat} (h : a ≠ 0) : pm_be a A a A := ⟨h, Or.inr ⟨rfl, Or.inr (pm_lx_irr A)⟩⟩
theorem pm_be_not {a b : Nat} {A B : List Nat} (h : ¬ pm_be a A b B) (ha : a ≠ 0) (hb : b ≠ 0) : pm_be b B a A := by
  refine ⟨hb, ?_⟩
  by_cases e1 : a < b
  · exact absurd ⟨ha, Or.inl e1⟩ h
  · by_cases e2 : a = b
    · right
      refine ⟨e2.symm, Or.inr (fun q => ?_)⟩
      exact h ⟨ha, Or.inr ⟨e2, Or.inr (pm_lx_as q)⟩⟩
    · left; omega
theorem pm_cap_le (n : Nat) : pm_cap n ≤ 33 := by unfold pm_cap; split <;> omega
theorem pm_be_one {a n n' s : Nat} {A X v : List Nat} (i : pm_be n X n' v) (c : pm_be a A (pm_cap (1 + n)) (s :: X)) : pm_be a A (pm_cap (1 + n')) (s :: v) := by
  obtain ⟨i0, i1⟩ := i
  obtain ⟨c0, c1⟩ := c
  refine ⟨c0, ?_⟩
  have hnn : n ≤ n' := by rcases i1 with i1 | ⟨i1, -⟩ <;> omega
  have hcap : pm_cap (1 + n) ≤ pm_cap (1 + n') := by unfold pm_cap; split <;> split <;> omega
  rcases c1 with c1 | ⟨c1, c2⟩
  · left; omega
  · by_cases e : pm_cap (1 + n) < pm_cap (1 + n')
    · left; omega
    · right
      refine ⟨by omega, ?_⟩
      rcases c2 with c2 | c2
      · exact Or.inl c2
      · by_cases e33 : a = 33
        · exact Or.inl e33
        · right
          have hle := pm_cap_le (1 + n')
          have e2 : pm_cap (1 + n) = 1 + n ∧ pm_cap (1 + n') = 1 + n' := by
            have : ¬ pm_cap (1 + n) = 33 := by omega
            have : ¬ pm_cap (1 + n') = 33 := by omega
            unfold pm_cap at *
            constructor
            · split
              · rename_i w; rw [if_pos w] at *; omega
              · rfl
            · split
              · rename_i w; rw [if_pos w] at *; omega
              · rfl
          have hle2 := pm_cap_le (1 + n)
          have e3 : n = n' := by omega
          have i3 : ¬ pm_lx v X := by
            rcases i1 with i1 | ⟨-, i1 | i1⟩
            · omega
            · omega
            · exact i1
          exact pm_nlx c2 (pm_nlx_app (a := [s]) (b := [s]) rfl (pm_lx_irr _) i3)
theorem pm_be_two {a n m n' m' s : Nat} {A X Y v u : List Nat} (hX : n ≤ 32 → X.length = n) (hv : n' ≤ 32 → v.length = n') (i : pm_be n X n' v) (j : pm_be m Y m' u) (c : pm_be a A (pm_cap (1 + n + m)) (s :: (X ++ Y))) : pm_be a A (pm_cap (1 + n' + m')) (s :: (v ++ u)) := by
  obtain ⟨i0, i1⟩ := i
  obtain ⟨j0, j1⟩ := j
  obtain ⟨c0, c1⟩ := c
  refine ⟨c0, ?_⟩
  have hnn : n ≤ n' := by rcases i1 with i1 | ⟨i1, -⟩ <;> omega
  have hmm : m ≤ m' := by rcases j1 with j1 | ⟨j1, -⟩ <;> omega
  have hcap : pm_cap (1 + n + m) ≤ pm_cap (1 + n' + m') := by unfold pm_cap; split <;> split <;> omega
  rcases c1 with c1 | ⟨c1, c2⟩
  · left; omega
  · by_cases e : pm_cap (1 + n + m) < pm_cap (1 + n' + m')
    · left; omega
    · right
      refine ⟨by omega, ?_⟩
      rcases c2 with c2 | c2
      · exact Or.inl c2
      · by_cases e33 : a = 33
        · exact Or.inl e33
        · right
          have hle := pm_cap_le (1 + n' + m')
          have e2 : pm_cap (1 + n + m) = 1 + n + m ∧ pm_cap (1 + n' + m') = 1 + n' + m' := by
            have : ¬ pm_cap (1 + n + m) = 33 := by omega
            have : ¬ pm_cap (1 + n' + m') = 33 := by omega
            unfold pm_cap at *
            constructor
            · split
              · rename_i w; rw [if_pos w] at *; omega
              · rfl
            · split
              · rename_i w; rw [if_pos w] at *; omega
              · rfl
          have hle2 := pm_cap_le (1 + n + m)
          have e3 : n = n' := by omega
          have e4 : m = m' := by omega
          have i3 : ¬ pm_lx v X := by
            rcases i1 with i1 | ⟨-, i1 | i1⟩
            · omega
            · omega
            · exact i1
          have j3 : ¬ pm_lx u Y := by
            rcases j1 with j1 | ⟨-, j1 | j1⟩
            · omega
            · omega
            · exact j1
          have hl : X.length = v.length := by rw [hX (by omega), hv (by omega)]; exact e3
          exact pm_nlx c2 (pm_nlx_app (a := [s]) (b := [s]) rfl (pm_lx_irr _) (pm_nlx_app hl i3 j3))
/-- a triple that may be offered -/
def pm_vl (ln : Nat → Nat) (s l r : Nat) : Prop := (s < 3 → l = 17) ∧ (s < 5 → r = 17) ∧ (3 ≤ s → ln l ≠ 0) ∧ (5 ≤ s → ln r ≠ 0)
def pm_im (ln0 : Nat → Nat) (W0 : Nat → List Nat) (ln : Nat → Nat) (W : Nat → List Nat) : Prop := ∀ p, ln0 p ≠ 0 → pm_be (ln p) (W p) (ln0 p) (W0 p)
def pm_len (ln : Nat → Nat) (W : Nat → List Nat) : Prop := ∀ p, ln p ≠ 0 → ln p ≤ 32 → (W p).length = ln p
/-- better children, a better candidate -/
theorem pm_cand {ln0 ln : Nat → Nat} {W0 W : Nat → List Nat} (h0 : pm_len ln0 W0) (h1 : pm_len ln W) (hi : pm_im ln0 W0 ln W) {s l r a : Nat} {A : List Nat} (hv : pm_vl ln0 s l r) (hc : pm_be a A (pm_cn s ln l r) (pm_cw s W l r)) : pm_be a A (pm_cn s ln0 l r) (pm_cw s W0 l r) := by
  unfold pm_cn pm_cw pm_ll pm_rl pm_lw pm_rw at *
  by_cases w3 : 3 ≤ s
  · by_cases w5 : 5 ≤ s
    · simp only [if_pos w3, if_pos w5] at hc ⊢
      have u1 := hv.2.2.1 w3
      have u2 := hv.2.2.2 w5
      exact pm_be_two (fun q => h1 l (hi l u1).1 q) (fun q => h0 l u1 q) (hi l u1) (hi r u2) hc
    · simp only [if_pos w3, if_neg w5, List.append_nil, Nat.add_zero] at hc ⊢
      exact pm_be_one (hi l (hv.2.2.1 w3)) hc
  · have w5 : ¬ 5 ≤ s := by omega
    simp only [if_neg w3, if_neg w5] at hc ⊢
    exact hc
/-- how many entries there are -/
def pm_ct (ln : Nat → Nat) : Nat → Nat
  | 0 => 0
  | n + 1 => pm_ct ln n + (if ln n = 0 then 0 else 1)
theorem pm_ct_le (ln : Nat → Nat) : ∀ n, pm_ct ln n ≤ n
  | 0 => Nat.le_refl 0
  | n + 1 => by
    have := pm_ct_le ln n
    show pm_ct ln n + (if ln n = 0 then 0 else 1) ≤ n + 1
    split <;> omega
theorem pm_ct_mono {ln ln' : Nat → Nat} (h : ∀ p, ln p ≠ 0 → ln' p ≠ 0) : ∀ n, pm_ct ln n ≤ pm_ct ln' n
  | 0 => Nat.le_refl 0
  | n + 1 => by
    have := pm_ct_mono h n
    show pm_ct ln n + (if ln n = 0 then 0 else 1) ≤ pm_ct ln' n + (if ln' n = 0 then 0 else 1)
    by_cases e : ln n = 0
    · rw [if_pos e]
      split <;> omega
    · rw [if_neg e, if_neg (h n e)]
      omega
theorem pm_ct_lt {ln ln' : Nat → Nat} (h : ∀ p, ln p ≠ 0 → ln' p ≠ 0) {p : Nat} (e0 : ln p = 0) (e1 : ln' p ≠ 0) : ∀ n, p < n → pm_ct ln n < pm_ct ln' n
  | 0, q => by omega
  | n + 1, q => by
    show pm_ct ln n + (if ln n = 0 then 0 else 1) < pm_ct ln' n + (if ln' n = 0 then 0 else 1)
    by_cases e : p = n
    · subst e
      have := pm_ct_mono h p
      rw [if_pos e0, if_neg e1]
      omega
    · have := pm_ct_lt h e0 e1 n (by omega)
      by_cases e2 : ln n = 0
      · rw [if_pos e2]
        split <;> omega
      · rw [if_neg e2, if_neg (h n e2)]
        omega
def pm_z (ln : Nat → Nat) : Prop := ∀ p, 256 ≤ p → ln p = 0
theorem pm_snd_len {pf : Nat → Nat → Nat → Nat} {ln : Nat → Nat} {W : Nat → List Nat} (h : pm_snd pf ln W) : pm_len ln W := fun p a b => ((h p a).2.2 b).2
/-- a candidate of sound children is a term -/
theorem pm_cand_T {pf : Nat → Nat → Nat → Nat} {ln : Nat → Nat} {W : Nat → List Nat} (h : pm_snd pf ln W) {s l r : Nat} (hs : s < 8) (hv : pm_vl ln s l r) : (∃ w, pm_T pf (pf s l r) w) ∧ (pm_cn s ln l r ≤ 32 → pm_T pf (pf s l r) (pm_cw s W l r) ∧ (pm_cw s W l r).length = pm_cn s ln l r) := by
  obtain ⟨v1, v2, v3, v4⟩ := hv
  unfold pm_cn pm_cw pm_ll pm_rl pm_lw pm_rw
  by_cases w3 : 3 ≤ s
  · obtain ⟨a1, ⟨wl, a2⟩, a3⟩ := h l (v3 w3)
    by_cases w5 : 5 ≤ s
    · obtain ⟨b1, ⟨wr, b2⟩, b3⟩ := h r (v4 w5)
      simp only [if_pos w3, if_pos w5]
      refine ⟨⟨_, (pm_T_closed pf).2.2 s l wl r wr w5 hs a2 b2⟩, fun q => ?_⟩
      have e : pm_cap (1 + ln l + ln r) = 1 + ln l + ln r := by
        unfold pm_cap at q ⊢
        split at q
        · omega
        · rename_i w; rw [if_neg w]
      rw [e] at q ⊢
      refine ⟨(pm_T_closed pf).2.2 s l _ r _ w5 hs (a3 (by omega)).1 (b3 (by omega)).1, ?_⟩
      rw [List.length_cons, List.length_append, (a3 (by omega)).2, (b3 (by omega)).2]
      omega
    · simp only [if_pos w3, if_neg w5, List.append_nil, Nat.add_zero]
      have e17 := v2 (by omega)
      subst e17
      refine ⟨⟨_, (pm_T_closed pf).2.1 s l wl w3 (by omega) a2⟩, fun q => ?_⟩
      have e : pm_cap (1 + ln l) = 1 + ln l := by
        unfold pm_cap at q ⊢
        split at q
        · omega
        · rename_i w; rw [if_neg w]
      rw [e] at q ⊢
      refine ⟨(pm_T_closed pf).2.1 s l _ w3 (by omega) (a3 (by omega)).1, ?_⟩
      rw [List.length_cons, (a3 (by omega)).2]
      omega
  · have w5 : ¬ 5 ≤ s := by omega
    simp only [if_neg w3, if_neg w5]
    have e1 := v1 (by omega)
    have e2 := v2 (by omega)
    subst e1; subst e2
    exact ⟨⟨_, (pm_T_closed pf).1 s (by omega)⟩, fun _ => ⟨(pm_T_closed pf).1 s (by omega), rfl⟩⟩
/-- all terms of a size up to K are answered as well as they can be -/
def pm_PK (pf : Nat → Nat → Nat → Nat) (ln : Nat → Nat) (W : Nat → List Nat) (K : Nat) : Prop := ∀ p w, pm_T pf p w → w.length ≤ K → pm_be (ln p) (W p) (pm_cap w.length) w
def pm_cv (pf : Nat → Nat → Nat → Nat) (D : Nat → Nat → Nat → Prop) (ln0 : Nat → Nat) (W0 : Nat → List Nat) (ln : Nat → Nat) (W : Nat → List Nat) : Prop :=
  ∀ s l r, s < 8 → D s l r → pm_vl ln0 s l r → pm_be (ln (pf s l r)) (W (pf s l r)) (pm_cn s ln0 l r) (pm_cw s W0 l r)
/-- within a round that began with ln0, W0 -/
def pm_J (pf : Nat → Nat → Nat → Nat) (k : Nat) (ln0 : Nat → Nat) (W0 : Nat → List Nat) (D : Nat → Nat → Nat → Prop) (x : Int32) (Ln Wr : Nat → Int32) : Prop :=
  ∃ (ln : Nat → Nat) (W : Nat → List Nat), iv_tb Ln Wr ln W ∧ pm_z ln ∧ pm_snd pf ln W ∧ pm_im ln0 W0 ln W ∧ pm_cv pf D ln0 W0 ln W ∧ ((x = 0 ∧ ln = ln0 ∧ W = W0) ∨ (x = 1 ∧ (32 ≤ k → pm_ct ln0 256 < pm_ct ln 256)))
theorem pm_J_sub {pf : Nat → Nat → Nat → Nat} {k : Nat} {ln0 : Nat → Nat} {W0 : Nat → List Nat} {D D' : Nat → Nat → Nat → Prop} {x : Int32} {Ln Wr : Nat → Int32} (h : pm_J pf k ln0 W0 D x Ln Wr) (hD : ∀ ln : Nat → Nat, (∀ p, ln0 p ≠ 0 → ln p ≠ 0) → (∀ p, p < 256 → Ln p = nI (ln p) ∧ ln p ≤ 33) → ∀ s l r, s < 8 → D' s l r → pm_vl ln0 s l r → D s l r) : pm_J pf k ln0 W0 D' x Ln Wr := by
  obtain ⟨ln, W, a1, a2, a3, a4, a5, a6⟩ := h
  exact ⟨ln, W, a1, a2, a3, a4, fun s l r hs hd hv => a5 s l r hs (hD ln (fun p q => (a4 p q).1) (fun p q => ⟨(a1 p q).1, (a1 p q).2.1⟩) s l r hs hd hv) hv, a6⟩
/-- one offer -/
theorem pm_J_offer {Co : Int32} {To Ln Tr Wr : Nat → Int32} {t0 t1 ln0 : Nat → Nat} {W0 : Nat → List Nat} {k s l r : Nat} {D : Nat → Nat → Nat → Prop} {x : Int32} (h0 : ∀ j, t0 j < 16) (h1 : ∀ j, t1 j < 16) (hT : iv_to To t0 t1) (hl0 : pm_len ln0 W0) (hpk : 32 ≤ k → pm_PK (pm_pf t0 t1) ln0 W0 32)
    (hJ : pm_J (pm_pf t0 t1) k ln0 W0 D x Ln Wr) (hs : s < 8) (hl : l < 256) (hr : r < 256) (v1 : s < 3 → l = 17) (v2 : s < 5 → r = 17) (v3 : 3 ≤ s → ¬ Ln l = 0) (v4 : 5 ≤ s → ¬ Ln r = 0)
    {Q : Int32 → (Nat → Int32) → (Nat → Int32) → (Nat → Int32) → Prop}
    (hQ : ∀ y Ln' Tr' Wr', (∀ p, p < 256 → ¬ Ln p = 0 → ¬ Ln' p = 0) → (y = 0 → pm_J (pm_pf t0 t1) k ln0 W0 (fun s' l' r' => D s' l' r' ∨ (s' = s ∧ l' = l ∧ r' = r)) x Ln' Wr') → (¬ y = 0 → pm_J (pm_pf t0 t1) k ln0 W0 (fun s' l' r' => D s' l' r' ∨ (s' = s ∧ l' = l ∧ r' = r)) 1 Ln' Wr') → Q y Ln' Tr' Wr') :
    wp_X6_offer Co Ln To Tr Wr (nI s) (nI l) (nI r) Q := by
  obtain ⟨ln, W, a1, a2, a3, a4, a5, a6⟩ := hJ
  have z : ∀ p, p < 256 → ¬ Ln p = 0 → ln p ≠ 0 := fun p hp q e => q (by rw [(a1 p hp).1, e]; rfl)
  have hv : pm_vl ln s l r := ⟨v1, v2, fun q => z l hl (v3 q), fun q => z r hr (v4 q)⟩
  have hlen := pm_snd_len a3
  have hp := pm_pf_lt h0 h1 s l r
  have bn : 1 ≤ pm_cn s ln l r ∧ pm_cn s ln l r ≤ 33 := by unfold pm_cn pm_cap; split <;> omega
  refine ps_offer h0 h1 hT a1 hs hl hr (fun q => z l hl (v3 q)) (fun q => z r hr (v4 q)) (fun hb Tr' => hQ 0 _ _ _ (fun _ _ q => q) (fun _ => ?_) (fun q => absurd rfl q)) (fun hb Ln' Tr' Wr' ht => hQ 1 _ _ _ ?_ (fun q => absurd q (by decide)) (fun _ => ?_))
  · refine ⟨ln, W, a1, a2, a3, a4, fun s' l' r' hs' hd hv' => ?_, a6⟩
    rcases hd with hd | ⟨rfl, rfl, rfl⟩
    · exact a5 s' l' r' hs' hd hv'
    · exact pm_cand hl0 hlen a4 hv' hb
  · intro p hp' q e
    have u := (ht p hp').1
    have b := (ht p hp').2.1
    rw [e] at u
    have e2 : pm_up ln (pm_pf t0 t1 s l r) (pm_cn s ln l r) p = 0 := (nI_eq (a := pm_up ln (pm_pf t0 t1 s l r) (pm_cn s ln l r) p) (b := 0) (by omega) (by decide)).mp u.symm
    by_cases w : p = pm_pf t0 t1 s l r
    · rw [w, pm_up_s] at e2; omega
    · rw [pm_up_n w] at e2; exact z p hp' q e2
  · obtain ⟨c1, c2⟩ := pm_cand_T a3 hs hv
    -- the new entry is better than the old one
    have nb : ∀ q, ln q ≠ 0 → pm_be (pm_up ln (pm_pf t0 t1 s l r) (pm_cn s ln l r) q) (pm_upW W (pm_pf t0 t1 s l r) (pm_cw s W l r) q) (ln q) (W q) := by
      intro q hq
      by_cases e : q = pm_pf t0 t1 s l r
      · subst e
        rw [pm_up_s]
        unfold pm_upW
        rw [if_pos rfl]
        exact pm_be_not hb hq (by omega)
      · rw [pm_up_n e]
        unfold pm_upW
        rw [if_neg e]
        exact pm_be_rf hq
    have snd' : pm_snd (pm_pf t0 t1) (pm_up ln (pm_pf t0 t1 s l r) (pm_cn s ln l r)) (pm_upW W (pm_pf t0 t1 s l r) (pm_cw s W l r)) := by
      intro q hq
      by_cases e : q = pm_pf t0 t1 s l r
      · subst e
        rw [pm_up_s]
        unfold pm_upW
        rw [if_pos rfl]
        exact ⟨bn.2, c1, fun w => c2 w⟩
      · rw [pm_up_n e] at hq ⊢
        unfold pm_upW
        rw [if_neg e]
        exact a3 q hq
    have im' : pm_im ln0 W0 (pm_up ln (pm_pf t0 t1 s l r) (pm_cn s ln l r)) (pm_upW W (pm_pf t0 t1 s l r) (pm_cw s W l r)) := fun q hq => pm_be_tr (nb q (a4 q hq).1) (a4 q hq)
    refine ⟨_, _, ht, fun q hq => ?_, snd', im', fun s' l' r' hs' hd hv' => ?_, Or.inr ⟨rfl, fun hk => ?_⟩⟩
    · rw [pm_up_n (by omega)]; exact a2 q hq
    · rcases hd with hd | ⟨rfl, rfl, rfl⟩
      · have := a5 s' l' r' hs' hd hv'
        exact pm_be_tr (nb _ this.1) this
      · refine pm_cand hl0 hlen a4 hv' ?_
        rw [pm_up_s]
        unfold pm_upW
        rw [if_pos rfl]
        exact pm_be_rf (by omega)
    · have e0 : ln (pm_pf t0 t1 s l r) = 0 := by
        rcases Nat.eq_zero_or_pos (ln (pm_pf t0 t1 s l r)) with q | q
        · exact q
        · exfalso
          apply hb
          by_cases w : pm_cn s ln l r ≤ 32
          · obtain ⟨d1, d2⟩ := c2 w
            have d3 := hpk hk _ _ d1 (by omega)
            have d4 : pm_cap (pm_cw s W l r).length = pm_cn s ln l r := by rw [d2]; unfold pm_cap; rw [if_neg (by omega)]
            rw [d4] at d3
            exact pm_be_tr (a4 _ d3.1) d3
          · have := (a1 _ hp).2.1
            by_cases e : ln (pm_pf t0 t1 s l r) = 33
            · exact ⟨by omega, Or.inr ⟨by omega, Or.inl e⟩⟩
            · exact ⟨by omega, Or.inl (by omega)⟩
      refine pm_ct_lt (fun q hq => (im' q hq).1) (p := pm_pf t0 t1 s l r) ?_ ?_ 256 hp
      · rcases Nat.eq_zero_or_pos (ln0 (pm_pf t0 t1 s l r)) with q | q
        · exact q
        · exact absurd e0 (a4 _ (by omega)).1
      · rw [pm_up_s]; omega
