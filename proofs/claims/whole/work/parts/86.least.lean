/-! included and least -/
theorem pn_m1ne {p : Nat} (h : p < 2 ^ 31) : nI p ≠ (-1 : Int32) := by
  intro e
  have h0 : (0 : Int32) ≤ nI p := nI_le (a := 0) (by omega) (by omega)
  rw [e] at h0
  exact absurd h0 (by decide)
theorem po_included {LCo LKn Co MfGo MsGo : Int32} {LBw LFo LLe LRa LRi LSi LSt LSy MfRe MfTa MsRe MsTa To Go Ln Tr Wr : Nat → Int32} {t0 t1 : Nat → Nat} {g0 g1 : Nat} (hR : iv_R MfRe MfTa MsRe MsTa To t0 t1) (hG : iv_G MfGo MsGo Go g0 g1) (hK : iv_K (pm_pf t0 t1) LCo LKn LFo LLe LRi LSi LSy)
    {K : Int32 → Int32 → Int32 → Int32 → (Nat → Int32) → (Nat → Int32) → (Nat → Int32) → (Nat → Int32) → (Nat → Int32) → (Nat → Int32) → (Nat → Int32) → (Nat → Int32) → (Nat → Int32) → (Nat → Int32) → (Nat → Int32) → Prop}
    (hQ : ∀ r LCo' LKn' LBw' LFo' LLe' LRa' LRi' LSi' LSt' LSy' Ln' Tr' Wr', iv_K (pm_pf t0 t1) LCo' LKn' LFo' LLe' LRi' LSi' LSy' → K r r LCo' LKn' LBw' LFo' LLe' LRa' LRi' LSi' LSt' LSy' Ln' Tr' Wr') :
    wp_X5_included LCo LKn LBw LFo LLe LRa LRi LSi LSt LSy MfGo MfRe MsGo MsRe (fun r a1 a2 a3 a4 a5 a6 a7 a8 a9 a10 => wp_X6_included Co Go Ln To Tr Wr (fun r' b1 b2 b3 => K r r' a1 a2 a3 a4 a5 a6 a7 a8 a9 a10 b1 b2 b3)) := by
  obtain ⟨h0, h1, a0, b0, a1, b1, hT⟩ := id hR
  obtain ⟨rfl, rfl, e0, e1, l0, l1⟩ := id hG
  unfold wp_X5_included wp_X5_included_in
  refine ps_firstOf (σ := 4) h0 h1 b0 b1 (by decide) hK (fun Co' Bw' Fo' Le' Ra' Ri' Si' St' Sy' c fo ln sy le ri W i1 i2 i3 i4 => ⟨fun p hp => ⟨fun w => absurd w (pn_m1ne (by have := hp.1; omega)), fun _ => ?_⟩, fun hn => ⟨fun _ => ?_, fun w => absurd rfl w⟩⟩)
  · unfold wp_X6_included wp_X6_included_in
    refine ps_best (σ := 4) h0 h1 hT e0 e1 (by decide) (fun Ln' Tr' Wr' ln' W' ht hn => (pm_none ht.2.2.2 ht.2.2.1 i2.2.1 ht.2.1 hn hp).elim) (fun Ln' Tr' Wr' ln' W' b ht hb => ⟨fun _ => ?_, fun w => absurd (nI_le (a := 0) (by omega) (by have := hb.1; omega)) w⟩)
    exact hQ _ _ _ _ _ _ _ _ _ _ _ _ _ _ (Or.inr ⟨rfl, c, fo, ln, sy, le, ri, W, i1, i2, i3, i4⟩)
  · unfold wp_X6_included wp_X6_included_in
    refine ps_best (σ := 4) h0 h1 hT e0 e1 (by decide) (fun Ln' Tr' Wr' ln' W' ht _ => ⟨fun w => absurd w (by decide), fun _ => ?_⟩) (fun Ln' Tr' Wr' ln' W' b ht hb => (pm_none i4 i2.2.1 ht.2.2.1 i2.1 hn hb).elim)
    exact hQ _ _ _ _ _ _ _ _ _ _ _ _ _ _ (Or.inr ⟨rfl, c, fo, ln, sy, le, ri, W, i1, i2, i3, i4⟩)
theorem po_least {LCo LKn Co MfGo MsGo : Int32} {LBw LFo LLe LRa LRi LSi LSt LSy MfRe MfTa MsRe MsTa To Go Ln Tr Wr : Nat → Int32} {t0 t1 : Nat → Nat} {g0 g1 : Nat} (hR : iv_R MfRe MfTa MsRe MsTa To t0 t1) (hG : iv_G MfGo MsGo Go g0 g1) (hK : iv_K (pm_pf t0 t1) LCo LKn LFo LLe LRi LSi LSy) (x1 : Int32)
    {K : Int32 → Int32 → Int32 → Int32 → (Nat → Int32) → (Nat → Int32) → (Nat → Int32) → (Nat → Int32) → (Nat → Int32) → (Nat → Int32) → (Nat → Int32) → (Nat → Int32) → (Nat → Int32) → (Nat → Int32) → (Nat → Int32) → Prop}
    (hQ : ∀ r LCo' LKn' LBw' LFo' LLe' LRa' LRi' LSi' LSt' LSy' Ln' Tr' Wr', iv_K (pm_pf t0 t1) LCo' LKn' LFo' LLe' LRi' LSi' LSy' → K r r LCo' LKn' LBw' LFo' LLe' LRa' LRi' LSi' LSt' LSy' Ln' Tr' Wr') :
    wp_X5_least LCo LKn LBw LFo LLe LRa LRi LSi LSt LSy MfGo MfRe MsGo MsRe x1 (fun r a1 a2 a3 a4 a5 a6 a7 a8 a9 a10 => wp_X6_least Co Go Ln To Tr Wr x1 (fun r' b1 b2 b3 => K r r' a1 a2 a3 a4 a5 a6 a7 a8 a9 a10 b1 b2 b3)) := by
  obtain ⟨h0, h1, a0, b0, a1, b1, hT⟩ := id hR
  obtain ⟨rfl, rfl, e0, e1, l0, l1⟩ := id hG
  unfold wp_X5_least wp_X5_least_in
  refine ps_isSort x1 (fun hn => ps_b0 ?_) (fun σ hσ ex => ps_b1 ?_)
  · unfold wp_X6_least wp_X6_least_in
    exact ps_within 16 15 x1 (by decide) (fun _ => ps_b0 (hQ _ _ _ _ _ _ _ _ _ _ _ _ _ _ hK)) (fun j hj e => absurd e (hn j hj))
  · subst ex
    refine ps_firstOf h0 h1 b0 b1 hσ hK (fun Co' Bw' Fo' Le' Ra' Ri' Si' St' Sy' c fo ln sy le ri W i1 i2 i3 i4 => ⟨fun p hp => ⟨fun w => absurd w (pn_m1ne (by have := hp.1; omega)), fun _ => ?_⟩, fun hn => ⟨fun _ => ?_, fun w => absurd rfl w⟩⟩)
    · refine ⟨vp_in_nI hp.1 (by decide), ?_⟩
      rw [pn_clamp (by have := hp.1; omega), (i1.2.2.2 p hp.1).1]
      unfold wp_X6_least wp_X6_least_in
      refine ps_within 16 15 (nI σ) (by decide) (fun q => absurd rfl (q σ hσ)) (fun j hj e => ps_b1 ?_)
      refine ps_best h0 h1 hT e0 e1 hσ (fun Ln' Tr' Wr' ln' W' ht hn => (pm_none ht.2.2.2 ht.2.2.1 i2.2.1 ht.2.1 hn hp).elim) (fun Ln' Tr' Wr' ln' W' b ht hb => ⟨fun _ => ⟨vp_in_nI hb.1 (by decide), ?_⟩, fun w => absurd (nI_le (a := 0) (by omega) (by have := hb.1; omega)) w⟩)
      rw [pn_clamp (by have := hb.1; omega), (ht.1 b hb.1).1]
      have := (pm_same (pm_pf_lt h0 h1) i2.2.1 i4 ht.2.2.1 ht.2.2.2 hp hb).1
      rw [this]
      exact hQ _ _ _ _ _ _ _ _ _ _ _ _ _ _ (Or.inr ⟨rfl, c, fo, ln, sy, le, ri, W, i1, i2, i3, i4⟩)
    · unfold wp_X6_least wp_X6_least_in
      refine ps_within 16 15 (nI σ) (by decide) (fun q => absurd rfl (q σ hσ)) (fun j hj e => ps_b1 ?_)
      refine ps_best h0 h1 hT e0 e1 hσ (fun Ln' Tr' Wr' ln' W' ht _ => ⟨fun w => absurd w (by decide), fun _ => ?_⟩) (fun Ln' Tr' Wr' ln' W' b ht hb => (pm_none i4 i2.2.1 ht.2.2.1 i2.1 hn hb).elim)
      exact hQ _ _ _ _ _ _ _ _ _ _ _ _ _ _ (Or.inr ⟨rfl, c, fo, ln, sy, le, ri, W, i1, i2, i3, i4⟩)
