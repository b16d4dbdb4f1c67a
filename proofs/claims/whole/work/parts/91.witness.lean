/-! witness -/
theorem pm_T_gd {pf : Nat → Nat → Nat → Nat} {p : Nat} {w : List Nat} (h : pm_T pf p w) : ∀ k, k < w.length → w.getD k 0 < 8 := by
  have hs := pm_T_sym h
  intro k hk
  have : w.getD k 0 ∈ w := by
    rw [List.getD_eq_getElem?_getD, List.getElem?_eq_getElem hk]
    exact List.getElem_mem hk
  exact hs _ this
theorem po_witness {FMa LCo LKn Co MfGo MsGo : Int32} {FLe FRi FSi FSy FUn LBw LFo LLe LPe LRa LRi LSi LSt LSy LWr MfRe MfTa MsRe MsTa To Go Le2 Ri2 Sy2 Ln Sk Tr Wr : Nat → Int32} {t0 t1 : Nat → Nat} {g0 g1 c : Nat} {sy le ri zs : Nat → Nat}
    (hF : iv_FC FMa FLe FRi FSi FSy c sy le ri zs) (hF2 : iv_FR Co Le2 Ri2 Sy2 c sy le ri) (hR : iv_R MfRe MfTa MsRe MsTa To t0 t1) (hG : iv_G MfGo MsGo Go g0 g1) (hK : iv_K (pm_pf t0 t1) LCo LKn LFo LLe LRi LSi LSy) (x1 : Int32)
    {K : Int32 → Int32 → Int32 → (Nat → Int32) → (Nat → Int32) → (Nat → Int32) → (Nat → Int32) → (Nat → Int32) → Int32 → Int32 → (Nat → Int32) → (Nat → Int32) → (Nat → Int32) → (Nat → Int32) → (Nat → Int32) → (Nat → Int32) → (Nat → Int32) → (Nat → Int32) → (Nat → Int32) → (Nat → Int32) → Int32 → (Nat → Int32) → (Nat → Int32) → (Nat → Int32) → (Nat → Int32) → (Nat → Int32) → (Nat → Int32) → (Nat → Int32) → Prop}
    (hQ : ∀ r FMa' FLe' FRi' FSi' FSy' FUn' LCo' LKn' LBw' LFo' LLe' LPe' LRa' LRi' LSi' LSt' LSy' LWr' Co' Le2' Ln' Ri2' Sk' Sy2' Tr' Wr' c' sy' le' ri' zs', iv_FC FMa' FLe' FRi' FSi' FSy' c' sy' le' ri' zs' → iv_FR Co' Le2' Ri2' Sy2' c' sy' le' ri' → iv_K (pm_pf t0 t1) LCo' LKn' LFo' LLe' LRi' LSi' LSy' →
      K r r FMa' FLe' FRi' FSi' FSy' FUn' LCo' LKn' LBw' LFo' LLe' LPe' LRa' LRi' LSi' LSt' LSy' LWr' Co' Le2' Ln' Ri2' Sk' Sy2' Tr' Wr') :
    wp_X5_witness FMa FLe FRi FSi FSy FUn LCo LKn LBw LFo LLe LPe LRa LRi LSi LSt LSy LWr MfGo MfRe MsGo MsRe x1 (fun r a1 a2 a3 a4 a5 a6 a7 a8 a9 a10 a11 a12 a13 a14 a15 a16 a17 a18 => wp_X6_witness Co Go Le2 Ln Ri2 Sk Sy2 To Tr Wr x1 (fun r' b1 b2 b3 b4 b5 b6 b7 b8 => K r r' a1 a2 a3 a4 a5 a6 a7 a8 a9 a10 a11 a12 a13 a14 a15 a16 a17 a18 b1 b2 b3 b4 b5 b6 b7 b8)) := by
  obtain ⟨h0, h1, a0, b0, a1, b1, hT⟩ := id hR
  obtain ⟨rfl, rfl, e0, e1, l0, l1⟩ := id hG
  obtain ⟨rfl, c200, -⟩ := id hF
  obtain ⟨rfl, -⟩ := id hF2
  unfold wp_X5_witness wp_X5_witness_in
  refine ps_isSort x1 (fun hn => ps_b0 ?_) (fun σ hσ ex => ps_b1 ?_)
  · unfold wp_X6_witness wp_X6_witness_in
    exact ps_within 16 15 x1 (by decide) (fun _ => ps_b0 (hQ _ _ _ _ _ _ _ _ _ _ _ _ _ _ _ _ _ _ _ _ _ _ _ _ _ _ _ _ _ _ _ _ hF hF2 hK)) (fun j hj e => absurd e (hn j hj))
  · subst ex
    refine ps_firstOf h0 h1 b0 b1 hσ hK (fun Co' Bw' Fo' Le' Ra' Ri' Si' St' Sy' c' fo ln sy' le' ri' W i1 i2 i3 i4 => ⟨fun p hp => ⟨fun w => absurd w (pn_m1ne (by have := hp.1; omega)), fun _ => ?_⟩, fun hn => ⟨fun _ => ?_, fun w => absurd rfl w⟩⟩)
    · have hK' : iv_K (pm_pf t0 t1) Co' 1 Fo' Le' Ri' Si' Sy' := Or.inr ⟨rfl, c', fo, ln, sy', le', ri', W, i1, i2, i3, i4⟩
      have hp33 := (i2.2.1 p hp.2.1).1
      -- what the reference finds
      have ref : ∀ {P : Int32 → (Nat → Int32) → (Nat → Int32) → (Nat → Int32) → Prop}, (∀ Ln' Tr' Wr' ln' W' b, pm_tabR t0 t1 Ln' Wr' ln' W' → pm_bst ln' W' (pm_st g0 g1 σ) b → ln p = ln' b → (ln p ≤ 32 → W p = W' b) → P (nI b) Ln' Tr' Wr') → wp_X6_best (nI c) Go Ln To Tr Wr (nI σ) P := by
        intro P hP
        refine ps_best h0 h1 hT e0 e1 hσ (fun Ln' Tr' Wr' ln' W' ht hn => (pm_none ht.2.2.2 ht.2.2.1 i2.2.1 ht.2.1 hn hp).elim) (fun Ln' Tr' Wr' ln' W' b ht hb => ?_)
        have := pm_same (pm_pf_lt h0 h1) i2.2.1 i4 ht.2.2.1 ht.2.2.2 hp hb
        exact hP Ln' Tr' Wr' ln' W' b ht hb this.1 this.2
      refine ⟨vp_in_nI hp.1 (by decide), ?_⟩
      rw [pn_clamp (by have := hp.1; omega), (i1.2.2.2 p hp.1).1]
      have er : (200 : Int32) - nI c = nI (200 - c) := pk_sub (a := 200) (b := c) c200
      refine ⟨fun w32 => ?_, fun w32 => ?_⟩
      · have h32 := (nI_leI (a := ln p) (b := 32) (by omega) (by decide)).mp w32
        obtain ⟨hTp, hlen⟩ := (i2.2.1 p hp.2.1).2.2 h32
        show (nI (ln p) ≤ (200 : Int32) - nI c → _) ∧ (¬ nI (ln p) ≤ (200 : Int32) - nI c → _)
        rw [er]
        refine ⟨fun wr => ?_, fun wr => ?_⟩
        · have hroom := (nI_leI (by omega) (by omega)).mp wr
          have hd : pw_d (W p) 1 := by
            have := pw_d_T hTp [] 0 rfl
            rw [List.append_nil] at this
            exact this
          have hpos := pm_T_pos hTp
          refine ps_writingOf i1 i2 hp.2.1 h32 (fun Pe' Wr' hWr => ?_)
          rw [← hlen]
          refine ps_plant hd (pm_T_gd hTp) hpos (by omega) (by omega) (fun k hk => hWr k (by omega)) hF (fun Le3 Ri3 Si3 Sy3 Un3 zs3 hF3 => ?_)
          unfold wp_X6_witness wp_X6_witness_in
          refine ps_within 16 15 (nI σ) (by decide) (fun q => absurd rfl (q σ hσ)) (fun j hj e => ps_b1 (ref (fun Ln' Tr' Wr2 ln' W' b ht hb eL eW => ⟨fun _ => ⟨vp_in_nI hb.1 (by decide), ?_⟩, fun w => absurd (nI_le (a := 0) (by omega) (by have := hb.1; omega)) w⟩)))
          have eW' := eW h32
          obtain ⟨q1, q2, q3⟩ := ht.1 b hb.1
          rw [pn_clamp (by have := hb.1; omega), q1, ← eL]
          refine ⟨fun w => absurd ((nI_eq (a := ln p) (b := 33) (by omega) (by decide)).mp w) (by omega), fun _ => ⟨vp_in_nI hb.1 (by decide), ?_⟩⟩
          rw [nI_add]
          refine ⟨fun _ => ⟨vp_in_nI hb.1 (by decide), fun x5 e5 => ?_⟩, fun w => absurd ((nI_leI (a := c + ln p) (b := 200) (by omega) (by decide)).mpr (by omega)) w⟩
          rw [e5, ← hlen]
          have q3' := q3 (by omega) (by omega)
          refine ps_witR hb.1 hd (pm_T_gd hTp) hpos (by omega) (by omega) (fun k hk => ?_) hF2 (fun Le4 Ri4 Sy4 Sk4 hF4 => ?_)
          · rw [eW']
            exact (q3'.2 k (by omega)).2
          · exact hQ _ _ _ _ _ _ _ _ _ _ _ _ _ _ _ _ _ _ _ _ _ _ _ _ _ _ _ _ _ _ _ _ hF3 hF4 hK'
        · have hroom : ¬ ln p ≤ 200 - c := fun q => wr ((nI_leI (by omega) (by omega)).mpr q)
          unfold wp_X6_witness wp_X6_witness_in
          refine ps_within 16 15 (nI σ) (by decide) (fun q => absurd rfl (q σ hσ)) (fun j hj e => ps_b1 (ref (fun Ln' Tr' Wr2 ln' W' b ht hb eL eW => ⟨fun _ => ⟨vp_in_nI hb.1 (by decide), ?_⟩, fun w => absurd (nI_le (a := 0) (by omega) (by have := hb.1; omega)) w⟩)))
          rw [pn_clamp (by have := hb.1; omega), (ht.1 b hb.1).1, ← eL]
          refine ⟨fun w => absurd ((nI_eq (a := ln p) (b := 33) (by omega) (by decide)).mp w) (by omega), fun _ => ⟨vp_in_nI hb.1 (by decide), ?_⟩⟩
          rw [nI_add]
          refine ⟨fun w => absurd ((nI_leI (a := c + ln p) (b := 200) (by omega) (by decide)).mp w) (by omega), fun _ => ?_⟩
          exact hQ _ _ _ _ _ _ _ _ _ _ _ _ _ _ _ _ _ _ _ _ _ _ _ _ _ _ _ _ _ _ _ _ hF hF2 hK'
      · have h32 : ¬ ln p ≤ 32 := fun q => w32 ((nI_leI (a := ln p) (b := 32) (by omega) (by decide)).mpr q)
        unfold wp_X6_witness wp_X6_witness_in
        refine ps_within 16 15 (nI σ) (by decide) (fun q => absurd rfl (q σ hσ)) (fun j hj e => ps_b1 (ref (fun Ln' Tr' Wr2 ln' W' b ht hb eL eW => ⟨fun _ => ⟨vp_in_nI hb.1 (by decide), ?_⟩, fun w => absurd (nI_le (a := 0) (by omega) (by have := hb.1; omega)) w⟩)))
        rw [pn_clamp (by have := hb.1; omega), (ht.1 b hb.1).1, ← eL]
        refine ⟨fun _ => ?_, fun w => absurd (by rw [show ln p = 33 by omega]; rfl) w⟩
        exact hQ _ _ _ _ _ _ _ _ _ _ _ _ _ _ _ _ _ _ _ _ _ _ _ _ _ _ _ _ _ _ _ _ hF hF2 hK'
    · unfold wp_X6_witness wp_X6_witness_in
      refine ps_within 16 15 (nI σ) (by decide) (fun q => absurd rfl (q σ hσ)) (fun j hj e => ps_b1 ?_)
      refine ps_best h0 h1 hT e0 e1 hσ (fun Ln' Tr' Wr' ln' W' ht _ => ⟨fun w => absurd w (by decide), fun _ => ?_⟩) (fun Ln' Tr' Wr' ln' W' b ht hb => (pm_none i4 i2.2.1 ht.2.2.1 i2.1 hn hb).elim)
      exact hQ _ _ _ _ _ _ _ _ _ _ _ _ _ _ _ _ _ _ _ _ _ _ _ _ _ _ _ _ _ _ _ _ hF hF2 (Or.inr ⟨rfl, c', fo, ln, sy', le', ri', W, i1, i2, i3, i4⟩)
