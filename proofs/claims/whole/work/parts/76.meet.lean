/-! the class's least terms: one candidate -/
/-- what the arrays hold -/
def iv_L (Co : Int32) (Fo Le Ri Si Sy : Nat → Int32) (c : Nat) (fo ln sy le ri : Nat → Nat) : Prop :=
  Co = nI c ∧ c ≤ 256 ∧ (∀ i, i < c → Fo i = nI (fo i)) ∧ ∀ p, p < 256 → Si p = nI (ln p) ∧ ln p ≤ 33 ∧ (ln p ≠ 0 → Sy p = nI (sy p) ∧ Le p = nI (le p) ∧ Ri p = nI (ri p))
theorem ps_meet {Kn MfGo MsGo : Int32} {Fo Le Ri Si Sy MfRe MsRe : Nat → Int32} {t0 t1 fo ln sy le ri : Nat → Nat} {c s l r z : Nat} (h0 : ∀ j, t0 j < 16) (h1 : ∀ j, t1 j < 16) (b0 : iv_re MfRe t0) (b1 : iv_re MsRe t1) (hI : iv_L (nI c) Fo Le Ri Si Sy c fo ln sy le ri)
    (hs : s < 8) (hl : l < 256) (hr : r < 256) (v1 : s < 3 → l = 17) (v2 : s < 5 → r = 17) (hz : 1 ≤ z ∧ z ≤ 33) (hc : ln (pm_pf t0 t1 s l r) = 0 → c < 256)
    {Q : Int32 → (Nat → Int32) → (Nat → Int32) → (Nat → Int32) → (Nat → Int32) → (Nat → Int32) → Prop}
    (q0 : ln (pm_pf t0 t1 s l r) ≠ 0 → Q (nI c) Fo Le Ri Si Sy)
    (q1 : ln (pm_pf t0 t1 s l r) = 0 → ∀ Fo' Le' Ri' Si' Sy', iv_L (nI (c + 1)) Fo' Le' Ri' Si' Sy' (c + 1) (pm_up fo c (pm_pf t0 t1 s l r)) (pm_up ln (pm_pf t0 t1 s l r) z) (pm_up sy (pm_pf t0 t1 s l r) s) (pm_up le (pm_pf t0 t1 s l r) l) (pm_up ri (pm_pf t0 t1 s l r) r) → Q (nI (c + 1)) Fo' Le' Ri' Si' Sy') :
    wp_X2_meet (nI c) Kn Fo Le MfGo MfRe MsGo MsRe Ri Si Sy (nI s) (nI l) (nI r) (nI z) Q := by
  have hp := pm_pf_lt h0 h1 s l r
  obtain ⟨-, hc256, i1, i2⟩ := hI
  unfold wp_X2_meet wp_X2_meet_in
  refine ps_profileOf h0 h1 b0 b1 hs hl hr v1 v2 ⟨vp_in_nI hp (by decide), ?_⟩
  obtain ⟨j1, j2, j3⟩ := i2 _ hp
  rw [pn_clamp (by omega), j1]
  refine ⟨fun w => ⟨fun wc => ⟨vp_in_nI hp (by decide), fun f6 e6 => ⟨vp_in_nI hp (by decide), fun f8 e8 => ⟨vp_in_nI hp (by decide), fun f10 e10 => ⟨vp_in_nI hp (by decide), fun f12 e12 => ?_⟩⟩⟩⟩, fun wc => ?_⟩, fun w => q0 (fun q => w (by rw [q]; rfl))⟩
  · have e0 : ln (pm_pf t0 t1 s l r) = 0 := (nI_eq (a := ln (pm_pf t0 t1 s l r)) (b := 0) (by omega) (by decide)).mp w
    have hlt := hc e0
    refine ⟨vp_in_nI hlt (by decide), fun f14 e14 g eg => ?_⟩
    rw [pn_clamp (by omega)] at e14
    rw [eg, nI_1]
    refine q1 e0 f14 f10 f12 f6 f8 ⟨rfl, by omega, fun i hi => ?_, fun p hp' => ?_⟩
    · by_cases e : i = c
      · rw [e14, e, pk_us, pm_up_s]
      · rw [e14, pk_un e, pm_up_n e]; exact i1 i (by omega)
    · obtain ⟨k1, k2, k3⟩ := i2 p hp'
      by_cases e : p = pm_pf t0 t1 s l r
      · rw [e6, e8, e10, e12, e, pk_us, pk_us, pk_us, pk_us, pm_up_s, pm_up_s, pm_up_s, pm_up_s]
        exact ⟨rfl, hz.2, fun _ => ⟨rfl, rfl, rfl⟩⟩
      · rw [e6, e8, e10, e12, pk_un e, pk_un e, pk_un e, pk_un e, pm_up_n e, pm_up_n e, pm_up_n e, pm_up_n e]
        exact ⟨k1, k2, k3⟩
  · have e0 : ln (pm_pf t0 t1 s l r) = 0 := (nI_eq (a := ln (pm_pf t0 t1 s l r)) (b := 0) (by omega) (by decide)).mp w
    exact absurd ((nI_ltI (a := c) (b := 256) (by have := hc e0; omega) (by decide)).mpr (hc e0)) wc
theorem pm_ct_up {ln : Nat → Nat} {p v : Nat} (e0 : ln p = 0) (hv : v ≠ 0) : ∀ n, p < n → pm_ct (pm_up ln p v) n = pm_ct ln n + 1
  | 0, q => by omega
  | n + 1, q => by
    show pm_ct (pm_up ln p v) n + (if pm_up ln p v n = 0 then 0 else 1) = pm_ct ln n + (if ln n = 0 then 0 else 1) + 1
    by_cases e : p = n
    · subst e
      have same : ∀ m, m ≤ p → pm_ct (pm_up ln p v) m = pm_ct ln m := by
        intro m
        induction m with
        | zero => intro _; rfl
        | succ m ih =>
          intro hm
          show pm_ct (pm_up ln p v) m + (if pm_up ln p v m = 0 then 0 else 1) = pm_ct ln m + (if ln m = 0 then 0 else 1)
          rw [ih (by omega), pm_up_n (by omega)]
      rw [same p (Nat.le_refl p), pm_up_s, if_neg hv, if_pos e0]
    · rw [pm_ct_up e0 hv n (by omega), pm_up_n (by omega)]
      omega
theorem pm_ct_lt' {ln : Nat → Nat} {p : Nat} (e0 : ln p = 0) (hp : p < 256) : pm_ct ln 256 < 256 := by
  have h1 := pm_ct_up (v := 1) e0 (by decide) 256 hp
  have h2 := pm_ct_le (pm_up ln p 1) 256
  omega
/-- an entry that was found by its symbol and children -/
def lt_E (pf : Nat → Nat → Nat → Nat) (ln sy le ri : Nat → Nat) (W : Nat → List Nat) (p : Nat) : Prop :=
  sy p < 8 ∧ pm_vl ln (sy p) (le p) (ri p) ∧ p = pf (sy p) (le p) (ri p) ∧ W p = pm_cw (sy p) W (le p) (ri p) ∧ ln p = 1 + pm_ll (sy p) ln (le p) + pm_rl (sy p) ln (ri p)
def lt_B (pf : Nat → Nat → Nat → Nat) (c : Nat) (fo ln sy le ri : Nat → Nat) (W : Nat → List Nat) : Prop :=
  pm_z ln ∧ pm_snd pf ln W ∧ c = pm_ct ln 256 ∧ (∀ i, i < c → fo i < 256 ∧ ln (fo i) ≠ 0) ∧ (∀ p, ln p ≠ 0 → ∃ i, i < c ∧ fo i = p) ∧ (∀ p, ln p ≠ 0 → ln p ≤ 32 → lt_E pf ln sy le ri W p)
/-- by size, and within a size by the writing -/
def lt_O (c : Nat) (fo ln : Nat → Nat) (W : Nat → List Nat) : Prop := ∀ i j, i < j → j < c → ln (fo i) ≤ ln (fo j) ∧ (ln (fo i) = ln (fo j) → ln (fo i) ≤ 32 → pm_lx (W (fo i)) (W (fo j)))
/-- within the pass of size k over the entries of before (c0, fo0, ln0, W0) -/
def lt_P (pf : Nat → Nat → Nat → Nat) (k c0 : Nat) (fo0 ln0 sy0 le0 ri0 : Nat → Nat) (W0 : Nat → List Nat) (U : List Nat → Prop) (D : Nat → Nat → Nat → Prop) (Co : Int32) (Fo Le Ri Si Sy : Nat → Int32) : Prop :=
  ∃ (c : Nat) (fo ln sy le ri : Nat → Nat) (W : Nat → List Nat), iv_L Co Fo Le Ri Si Sy c fo ln sy le ri ∧ lt_B pf c fo ln sy le ri W ∧ lt_O c fo ln W ∧ c0 ≤ c ∧
    (∀ i, i < c0 → fo i = fo0 i) ∧ (∀ i, c0 ≤ i → i < c → ln (fo i) = k) ∧ (∀ i, c0 ≤ i → i < c → ∀ V, U V → pm_lx (W (fo i)) V) ∧
    (∀ p, ln0 p ≠ 0 → ln p = ln0 p ∧ W p = W0 p ∧ sy p = sy0 p ∧ le p = le0 p ∧ ri p = ri0 p) ∧ (∀ p, ln p ≠ 0 → ln p ≠ k → ln0 p ≠ 0) ∧
    (∀ s l r, s < 8 → D s l r → pm_vl ln0 s l r → 1 + pm_ll s ln0 l + pm_rl s ln0 r = k → pm_be (ln (pf s l r)) (W (pf s l r)) k (pm_cw s W0 l r))
theorem lt_P_sub {pf : Nat → Nat → Nat → Nat} {k c0 : Nat} {fo0 ln0 sy0 le0 ri0 : Nat → Nat} {W0 : Nat → List Nat} {U U' : List Nat → Prop} {D D' : Nat → Nat → Nat → Prop} {Co : Int32} {Fo Le Ri Si Sy : Nat → Int32}
    (h : lt_P pf k c0 fo0 ln0 sy0 le0 ri0 W0 U D Co Fo Le Ri Si Sy) (hU : ∀ V, U' V → U V) (hD : ∀ s l r, s < 8 → D' s l r → pm_vl ln0 s l r → 1 + pm_ll s ln0 l + pm_rl s ln0 r = k → D s l r) : lt_P pf k c0 fo0 ln0 sy0 le0 ri0 W0 U' D' Co Fo Le Ri Si Sy := by
  obtain ⟨c, fo, ln, sy, le, ri, W, a1, a2, a3, a4, a5, a6, a7, a8, a9, a10⟩ := h
  exact ⟨c, fo, ln, sy, le, ri, W, a1, a2, a3, a4, a5, a6, fun i hi hi' V hV => a7 i hi hi' V (hU V hV), a8, a9, fun s l r hs hd hv ht => a10 s l r hs (hD s l r hs hd hv ht) hv ht⟩
theorem pm_cw_up {W : Nat → List Nat} {s l r p : Nat} {V : List Nat} (hl : 3 ≤ s → l ≠ p) (hr : 5 ≤ s → r ≠ p) : pm_cw s (pm_upW W p V) l r = pm_cw s W l r := by
  unfold pm_cw pm_lw pm_rw pm_upW
  by_cases w3 : 3 ≤ s
  · by_cases w5 : 5 ≤ s
    · simp only [if_pos w3, if_pos w5, if_neg (hl w3), if_neg (hr w5)]
    · simp only [if_pos w3, if_neg w5, if_neg (hl w3)]
  · simp only [if_neg w3, if_neg (show ¬ 5 ≤ s by omega)]
theorem pm_cw_eq {W W' : Nat → List Nat} {s l r : Nat} (hl : 3 ≤ s → W l = W' l) (hr : 5 ≤ s → W r = W' r) : pm_cw s W l r = pm_cw s W' l r := by
  unfold pm_cw pm_lw pm_rw
  by_cases w3 : 3 ≤ s
  · by_cases w5 : 5 ≤ s
    · simp only [if_pos w3, if_pos w5, hl w3, hr w5]
    · simp only [if_pos w3, if_neg w5, hl w3]
  · simp only [if_neg w3, if_neg (show ¬ 5 ≤ s by omega)]
theorem pm_lr_eq {ln ln' : Nat → Nat} {s l r : Nat} (hl : 3 ≤ s → ln l = ln' l) (hr : 5 ≤ s → ln r = ln' r) : pm_ll s ln l = pm_ll s ln' l ∧ pm_rl s ln r = pm_rl s ln' r := by
  unfold pm_ll pm_rl
  constructor
  · by_cases w3 : 3 ≤ s
    · rw [if_pos w3, if_pos w3, hl w3]
    · rw [if_neg w3, if_neg w3]
  · by_cases w5 : 5 ≤ s
    · rw [if_pos w5, if_pos w5, hr w5]
    · rw [if_neg w5, if_neg w5]
/-- one candidate of size k is met -/
theorem lt_P_meet {Kn MfGo MsGo Co : Int32} {Fo Le Ri Si Sy MfRe MsRe : Nat → Int32} {t0 t1 fo0 ln0 sy0 le0 ri0 : Nat → Nat} {W0 : Nat → List Nat} {k c0 s l r : Nat} {U U' : List Nat → Prop} {D : Nat → Nat → Nat → Prop} (h0 : ∀ j, t0 j < 16) (h1 : ∀ j, t1 j < 16) (b0 : iv_re MfRe t0) (b1 : iv_re MsRe t1)
    (hP : lt_P (pm_pf t0 t1) k c0 fo0 ln0 sy0 le0 ri0 W0 U D Co Fo Le Ri Si Sy) (hk : 1 ≤ k ∧ k ≤ 32) (hb : ∀ p, ln0 p ≠ 0 → ln0 p < k) (hz0 : pm_z ln0) (hf0 : ∀ i, i < c0 → ln0 (fo0 i) ≠ 0)
    (hs : s < 8) (hv : pm_vl ln0 s l r) (ht : 1 + pm_ll s ln0 l + pm_rl s ln0 r = k) (hU : U (pm_cw s W0 l r)) (hU' : ∀ V, U' V → U V ∧ pm_lx (pm_cw s W0 l r) V)
    {Q : Int32 → (Nat → Int32) → (Nat → Int32) → (Nat → Int32) → (Nat → Int32) → (Nat → Int32) → Prop}
    (hQ : ∀ Co' Fo' Le' Ri' Si' Sy', lt_P (pm_pf t0 t1) k c0 fo0 ln0 sy0 le0 ri0 W0 U' (fun s' l' r' => D s' l' r' ∨ (s' = s ∧ l' = l ∧ r' = r)) Co' Fo' Le' Ri' Si' Sy' → Q Co' Fo' Le' Ri' Si' Sy') :
    wp_X2_meet Co Kn Fo Le MfGo MfRe MsGo MsRe Ri Si Sy (nI s) (nI l) (nI r) (nI k) Q := by
  obtain ⟨c, fo, ln, sy, le, ri, W, a1, a2, a3, a4, a5, a6, a7, a8, a9, a10⟩ := hP
  obtain ⟨z1, z2, z3, z4, z5, z6⟩ := id a2
  obtain ⟨rfl, -⟩ := id a1
  have hlr := pm_vl_lt hz0 hv
  have hp := pm_pf_lt h0 h1 s l r
  -- the children are of before
  have vl' : pm_vl ln s l r := ⟨hv.1, hv.2.1, fun q => by rw [(a8 l (hv.2.2.1 q)).1]; exact hv.2.2.1 q, fun q => by rw [(a8 r (hv.2.2.2 q)).1]; exact hv.2.2.2 q⟩
  have ew : pm_cw s W l r = pm_cw s W0 l r := pm_cw_eq (fun q => (a8 l (hv.2.2.1 q)).2.1) (fun q => (a8 r (hv.2.2.2 q)).2.1)
  have el := pm_lr_eq (ln := ln) (ln' := ln0) (s := s) (l := l) (r := r) (fun q => (a8 l (hv.2.2.1 q)).1) (fun q => (a8 r (hv.2.2.2 q)).1)
  have ecn : pm_cn s ln l r = k := by
    unfold pm_cn pm_cap
    rw [el.1, el.2, ht, if_neg (by omega)]
  obtain ⟨ct1, ct2⟩ := pm_cand_T z2 hs vl'
  rw [ecn, ew] at ct2
  obtain ⟨ct3, ct4⟩ := ct2 hk.2
  refine ps_meet h0 h1 b0 b1 a1 hs hlr.1 hlr.2 hv.1 hv.2.1 ⟨hk.1, by omega⟩ (fun e => by rw [z3]; exact pm_ct_lt' e hp) (fun hne => hQ _ _ _ _ _ _ ?_) (fun he Fo' Le' Ri' Si' Sy' hI => hQ _ _ _ _ _ _ ?_)
  · -- it was there
    refine ⟨c, fo, ln, sy, le, ri, W, a1, a2, a3, a4, a5, a6, fun i hi hi' V hV => a7 i hi hi' V (hU' V hV).1, a8, a9, fun s' l' r' hs' hd hv' ht' => ?_⟩
    rcases hd with hd | ⟨rfl, rfl, rfl⟩
    · exact a10 s' l' r' hs' hd hv' ht'
    · refine ⟨hne, ?_⟩
      by_cases e : ln (pm_pf t0 t1 s' l' r') = k
      · right
        refine ⟨e, Or.inr ?_⟩
        obtain ⟨i, hi, ei⟩ := z5 _ hne
        have hi0 : c0 ≤ i := by
          rcases Nat.lt_or_ge i c0 with q | q
          · have n0 := hf0 i q
            rw [← a5 i q, ei] at n0
            have := hb _ n0
            have := (a8 _ n0).1
            omega
          · exact q
        have := a7 i hi0 hi _ hU
        rw [ei] at this
        exact pm_lx_as this
      · left
        have := a9 _ hne e
        have b := hb _ this
        rw [(a8 _ this).1]
        exact b
  · have np : ∀ q, ln q ≠ 0 → q ≠ pm_pf t0 t1 s l r := fun q hq e => hq (by rw [e]; exact he)
    have lne : 3 ≤ s → l ≠ pm_pf t0 t1 s l r := fun q => np l (vl'.2.2.1 q)
    have rne : 5 ≤ s → r ≠ pm_pf t0 t1 s l r := fun q => np r (vl'.2.2.2 q)
    have upl : ∀ q, ln q ≠ 0 → pm_up ln (pm_pf t0 t1 s l r) k q = ln q := fun q hq => pm_up_n (np q hq)
    have upw : ∀ q, ln q ≠ 0 → pm_upW W (pm_pf t0 t1 s l r) (pm_cw s W0 l r) q = W q := fun q hq => if_neg (np q hq)
    have upws : pm_upW W (pm_pf t0 t1 s l r) (pm_cw s W0 l r) (pm_pf t0 t1 s l r) = pm_cw s W0 l r := if_pos rfl
    have back : ∀ q, pm_up ln (pm_pf t0 t1 s l r) k q ≠ 0 → q ≠ pm_pf t0 t1 s l r → ln q ≠ 0 := fun q hq e => by rw [pm_up_n e] at hq; exact hq
    have foi : ∀ i, i < c → pm_up fo c (pm_pf t0 t1 s l r) i = fo i := fun i hi => pm_up_n (by omega)
    refine ⟨c + 1, pm_up fo c (pm_pf t0 t1 s l r), pm_up ln (pm_pf t0 t1 s l r) k, pm_up sy (pm_pf t0 t1 s l r) s, pm_up le (pm_pf t0 t1 s l r) l, pm_up ri (pm_pf t0 t1 s l r) r, pm_upW W (pm_pf t0 t1 s l r) (pm_cw s W0 l r), hI, ⟨?_, ?_, ?_, ?_, ?_, ?_⟩, ?_, by omega, ?_, ?_, ?_, ?_, ?_, ?_⟩
    · intro q hq
      rw [pm_up_n (by omega)]; exact z1 q hq
    · intro q hq
      by_cases e : q = pm_pf t0 t1 s l r
      · subst e
        rw [pm_up_s, upws]
        exact ⟨by omega, ct1, fun _ => ⟨ct3, ct4⟩⟩
      · have hq' := back q hq e
        rw [upl q hq', upw q hq']
        exact z2 q hq'
    · rw [pm_ct_up he (by omega) 256 hp, ← z3]
    · intro i hi
      by_cases e : i = c
      · subst e
        rw [pm_up_s, pm_up_s]
        exact ⟨hp, by omega⟩
      · rw [foi i (by omega), upl _ (z4 i (by omega)).2]
        exact z4 i (by omega)
    · intro q hq
      by_cases e : q = pm_pf t0 t1 s l r
      · exact ⟨c, by omega, by rw [pm_up_s, e]⟩
      · obtain ⟨i, hi, ei⟩ := z5 q (back q hq e)
        exact ⟨i, by omega, by rw [foi i hi]; exact ei⟩
    · intro q hq hq32
      by_cases e : q = pm_pf t0 t1 s l r
      · subst e
        unfold lt_E
        rw [pm_up_s, pm_up_s, pm_up_s, pm_up_s, upws]
        have e2 := pm_lr_eq (ln := pm_up ln (pm_pf t0 t1 s l r) k) (ln' := ln) (s := s) (l := l) (r := r) (fun w => upl l (vl'.2.2.1 w)) (fun w => upl r (vl'.2.2.2 w))
        refine ⟨hs, ⟨hv.1, hv.2.1, fun w => by rw [upl l (vl'.2.2.1 w)]; exact vl'.2.2.1 w, fun w => by rw [upl r (vl'.2.2.2 w)]; exact vl'.2.2.2 w⟩, rfl, ?_, ?_⟩
        · rw [pm_cw_up lne rne, ew]
        · rw [e2.1, e2.2, el.1, el.2, ht]
      · have hq' := back q hq e
        rw [upl q hq'] at hq32
        obtain ⟨f1, f2, f3, f4, f5⟩ := z6 q hq' hq32
        unfold lt_E
        rw [pm_up_n e, pm_up_n e, pm_up_n e, upl q hq', upw q hq']
        have e2 := pm_lr_eq (ln := pm_up ln (pm_pf t0 t1 s l r) k) (ln' := ln) (s := sy q) (l := le q) (r := ri q) (fun w => upl _ (f2.2.2.1 w)) (fun w => upl _ (f2.2.2.2 w))
        refine ⟨f1, ⟨f2.1, f2.2.1, fun w => by rw [upl _ (f2.2.2.1 w)]; exact f2.2.2.1 w, fun w => by rw [upl _ (f2.2.2.2 w)]; exact f2.2.2.2 w⟩, f3, ?_, ?_⟩
        · rw [pm_cw_up (fun w => np _ (f2.2.2.1 w)) (fun w => np _ (f2.2.2.2 w))]
          exact f4
        · rw [e2.1, e2.2]
          exact f5
    · intro i j hij hj
      have hin := (z4 i (by omega)).2
      by_cases e : j = c
      · subst e
        rw [foi i hij, upl _ hin, upw _ hin, pm_up_s, pm_up_s, upws]
        by_cases e2 : i < c0
        · have n0 := hf0 i e2
          rw [← a5 i e2] at n0
          have := hb _ n0
          have := (a8 _ n0).1
          exact ⟨by omega, fun w => by omega⟩
        · have := a6 i (by omega) hij
          exact ⟨by omega, fun _ _ => a7 i (by omega) hij _ hU⟩
      · have hjn := (z4 j (by omega)).2
        rw [foi i (by omega), foi j (by omega), upl _ hin, upl _ hjn, upw _ hin, upw _ hjn]
        exact a3 i j hij (by omega)
    · intro i hi
      rw [foi i (by omega)]; exact a5 i hi
    · intro i hi hi'
      by_cases e : i = c
      · subst e
        rw [pm_up_s, pm_up_s]
      · rw [foi i (by omega), upl _ (z4 i (by omega)).2]
        exact a6 i hi (by omega)
    · intro i hi hi' V hV
      by_cases e : i = c
      · subst e
        rw [pm_up_s, upws]
        exact (hU' V hV).2
      · rw [foi i (by omega), upw _ (z4 i (by omega)).2]
        exact a7 i hi (by omega) V (hU' V hV).1
    · intro q hq
      have hq' : ln q ≠ 0 := by rw [(a8 q hq).1]; exact hq
      rw [upl q hq', upw q hq', pm_up_n (np q hq'), pm_up_n (np q hq'), pm_up_n (np q hq')]
      exact a8 q hq
    · intro q hq hqk
      by_cases e : q = pm_pf t0 t1 s l r
      · rw [e, pm_up_s] at hqk
        exact absurd rfl hqk
      · have hq' := back q hq e
        rw [upl q hq'] at hqk
        exact a9 q hq' hqk
    · intro s' l' r' hs' hd hv' ht'
      by_cases e : pm_pf t0 t1 s' l' r' = pm_pf t0 t1 s l r
      · rcases hd with hd | ⟨e1, e2, e3⟩
        · have := a10 s' l' r' hs' hd hv' ht'
          exact absurd e (np _ this.1)
        · subst e1; subst e2; subst e3
          rw [pm_up_s, upws]
          exact pm_be_rf (by omega)
      · rcases hd with hd | ⟨e1, e2, e3⟩
        · have := a10 s' l' r' hs' hd hv' ht'
          rw [upl _ this.1, upw _ this.1]
          exact this
        · subst e1; subst e2; subst e3
          exact absurd rfl e
