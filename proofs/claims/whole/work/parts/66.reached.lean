/-! reached, place -/
theorem ps_childProfile {Ma : Int32} {Pr : Nat → Int32} {Q : Int32 → Prop} {b : Prop} [Decidable b] {j : Nat} (hj : b → j < 200) (h : Q (if b then Pr j else 17)) : wp_X1_childProfile Ma Pr (if b then nI j else -1) Q := by
  by_cases e : b
  · rw [if_pos e] at h ⊢
    refine ⟨fun c => ?_, fun _ => ⟨vp_in_nI (hj e) (by decide), ?_⟩⟩
    · have := nI_pos (n := j) (by have := hj e; omega)
      rw [c] at this
      exact absurd (by decide) this
    · rw [pn_clamp (by have := hj e; omega)]
      exact h
  · rw [if_neg e] at h ⊢
    exact ⟨fun _ => h, fun c => absurd rfl c⟩
theorem pm_P_lt {t0 t1 : Nat → Nat} (h0 : ∀ k, t0 k < 16) (h1 : ∀ k, t1 k < 16) {sy le ri P : Nat → Nat} {i : Nat} (h : P i = pm_P (pm_pf t0 t1) sy le ri P i) : P i < 256 := by
  rw [h]
  exact pm_pf_lt h0 h1 _ _ _
theorem ps_profC {Ma fGo sGo : Int32} {Le Ri Si Sy Pr fRe sRe : Nat → Int32} {c : Nat} {sy le ri zs P t0 t1 : Nat → Nat} (h : iv_FC Ma Le Ri Si Sy c sy le ri zs) (h0 : ∀ k, t0 k < 16) (h1 : ∀ k, t1 k < 16) (b0 : iv_re fRe t0) (b1 : iv_re sRe t1) (hP : ∀ i, i < c → P i = pm_P (pm_pf t0 t1) sy le ri P i) {n : Nat} (hn : n < c)
    {Q : Int32 → (Nat → Int32) → Prop} (hQ : ∀ Pr', Q (nI (P n)) Pr') : wp_X1_profileOf Ma Le Pr Ri Sy fGo fRe sGo sRe (nI n) Q := by
  obtain ⟨-, h200, h3⟩ := id h
  have main : ∀ (d k : Nat) (f : Nat → Int32), k + d = n + 1 → (∀ j, j < k → f j = nI (P j)) → lp_X1_profileOf_2 Ma Le Ri Sy fGo fRe sGo sRe Q (d + 1) f (nI n) (nI k) := by
    intro d
    induction d with
    | zero =>
      intro k f e hf
      refine ⟨fun _ => ⟨vp_in_nI (by omega) (by decide), ?_⟩, fun w => absurd (nI_lt (a := n) (b := k) (by omega) (by omega)) w⟩
      rw [pn_clamp (by omega), hf n (by omega)]
      exact hQ f
    | succ d ih =>
      intro k f e hf
      obtain ⟨⟨n1, n2, n3⟩, ⟨s1, s2, s3⟩, -, -⟩ := h3 k (by omega)
      refine ⟨fun w => absurd w (nI_nlt (by omega) (by omega)), fun _ => ⟨vp_in_nI (by omega) (by decide), vp_in_nI (by omega) (by decide), ?_⟩⟩
      rw [pn_clamp (by omega), s2]
      refine ps_childProfile (fun w => by have := n2 w; omega) ⟨vp_in_nI (by omega) (by decide), ?_⟩
      rw [s3]
      refine ps_childProfile (fun w => by have := n3 w; omega) ?_
      have a1 : (if 3 ≤ sy k then f (le k) else 17) = nI (if 3 ≤ sy k then P (le k) else 17) := by
        by_cases w : 3 ≤ sy k
        · have := n2 w
          rw [if_pos w, if_pos w]; exact hf _ (by omega)
        · rw [if_neg w, if_neg w]; rfl
      have a2 : (if 5 ≤ sy k then f (ri k) else 17) = nI (if 5 ≤ sy k then P (ri k) else 17) := by
        by_cases w : 5 ≤ sy k
        · have := n3 w
          rw [if_pos w, if_pos w]; exact hf _ (by omega)
        · rw [if_neg w, if_neg w]; rfl
      have l1 : (if 3 ≤ sy k then P (le k) else 17) < 256 := by
        by_cases w : 3 ≤ sy k
        · have := n2 w
          rw [if_pos w]; exact pm_P_lt h0 h1 (hP _ (by omega))
        · rw [if_neg w]; decide
      have l2 : (if 5 ≤ sy k then P (ri k) else 17) < 256 := by
        by_cases w : 5 ≤ sy k
        · have := n3 w
          rw [if_pos w]; exact pm_P_lt h0 h1 (hP _ (by omega))
        · rw [if_neg w]; decide
      rw [a1, a2, s1]
      refine ps_profileOf h0 h1 b0 b1 n1 l1 l2 (fun w => by rw [if_neg (by omega)]) (fun w => by rw [if_neg (by omega)]) ⟨vp_in_nI (by omega) (by decide), fun f' ef y ey => ?_⟩
      rw [ey, nI_1]
      refine ih (k + 1) f' (by omega) (fun j hj => ?_)
      by_cases e2 : j = k
      · rw [ef, e2, pk_us, hP k (by omega)]
        rfl
      · rw [ef, pk_un e2]; exact hf j (by omega)
  exact ⟨n + 2, main (n + 1) 0 Pr (by omega) (fun j hj => by omega)⟩
/-- a machine's half of a profile -/
def pm_h (M p : Nat) : Nat := if M = 0 then p % 16 else p / 16
theorem pm_h_pf {t0 t1 : Nat → Nat} (h0 : ∀ k, t0 k < 16) {M S L R : Nat} (hM : M < 2) : pm_h M (pm_pf t0 t1 S L R) = pm_ov (fun k => (if M = 0 then t0 else t1) (16 * S + k)) (pm_h M L) (pm_h M R) := by
  have u1 := pm_ov_lt (t := fun k => t0 (16 * S + k)) (fun k => h0 _) (L % 16) (R % 16)
  rcases (show M = 0 ∨ M = 1 by omega) with rfl | rfl
  · show pm_pf t0 t1 S L R % 16 = pm_ov (fun k => t0 (16 * S + k)) (L % 16) (R % 16)
    unfold pm_pf
    omega
  · show pm_pf t0 t1 S L R / 16 = pm_ov (fun k => t1 (16 * S + k)) (L / 16) (R / 16)
    unfold pm_pf
    omega
theorem pm_h_lt {M p : Nat} (hp : p < 256) : pm_h M p < 16 := by
  unfold pm_h
  split <;> omega
theorem ps_reach {Co : Int32} {Le Ri Sy Mn To : Nat → Int32} {c : Nat} {sy le ri P t0 t1 : Nat → Nat} (h2 : iv_FR Co Le Ri Sy c sy le ri) (hnd : ∀ i, i < c → iv_nd sy le ri i) (h200 : c ≤ 200) (h0 : ∀ k, t0 k < 16) (h1 : ∀ k, t1 k < 16) (hT : iv_to To t0 t1) (hP : ∀ i, i < c → P i = pm_P (pm_pf t0 t1) sy le ri P i) {M n : Nat} (hM : M < 2) (hn : n < c)
    {Q : Int32 → (Nat → Int32) → Prop} (hQ : ∀ Mn', Q (nI (pm_h M (P n))) Mn') : wp_X6_reach Co Le Mn Ri Sy To (nI M) (nI n) Q := by
  obtain ⟨rfl, h4⟩ := id h2
  have main : ∀ (d k : Nat) (f : Nat → Int32), k + d = n + 1 → (∀ j, j < k → f j = nI (pm_h M (P j))) → lp_X6_reach_2 (nI c) Le Ri Sy To Q (d + 1) f (nI M) (nI n) (nI k) := by
    intro d
    induction d with
    | zero =>
      intro k f e hf
      refine ⟨fun _ => ⟨vp_in_nI (by omega) (by decide), ?_⟩, fun w => absurd (nI_lt (a := n) (b := k) (by omega) (by omega)) w⟩
      rw [pn_clamp (by omega), hf n (by omega)]
      exact hQ f
    | succ d ih =>
      intro k f e hf
      obtain ⟨n1, n2, n3⟩ := hnd k (by omega)
      obtain ⟨s1, s2, s3⟩ := h4 k (by omega)
      have l1 : (if 3 ≤ sy k then P (le k) else 17) < 256 := by
        by_cases w : 3 ≤ sy k
        · have := n2 w
          rw [if_pos w]; exact pm_P_lt h0 h1 (hP _ (by omega))
        · rw [if_neg w]; decide
      have l2 : (if 5 ≤ sy k then P (ri k) else 17) < 256 := by
        by_cases w : 5 ≤ sy k
        · have := n3 w
          rw [if_pos w]; exact pm_P_lt h0 h1 (hP _ (by omega))
        · rw [if_neg w]; decide
      have h17 : pm_h M 17 = 1 := by
        rcases (show M = 0 ∨ M = 1 by omega) with rfl | rfl <;> rfl
      refine ⟨fun w => absurd w (nI_nlt (by omega) (by omega)), fun _ => ⟨vp_in_nI (by omega) (by decide), ?_⟩⟩
      have fin : wp_X6_reach_57 (nI c) Le Ri Sy To (lp_X6_reach_2 (nI c) Le Ri Sy To Q (d + 1)) Q f (nI (pm_h M (if 5 ≤ sy k then P (ri k) else 17))) (nI M) (nI n) (nI k) (nI (pm_h M (if 3 ≤ sy k then P (le k) else 17))) := by
        refine ⟨vp_in_nI (by omega) (by decide), ?_⟩
        rw [pn_clamp (by omega), s1]
        refine ps_over hT hM n1 (pm_h_lt l1) (pm_h_lt l2) ⟨vp_in_nI (by omega) (by decide), fun f' ef y ey => ?_⟩
        rw [ey, nI_1]
        refine ih (k + 1) f' (by omega) (fun j hj => ?_)
        by_cases e2 : j = k
        · rw [ef, e2, pk_us, ← pm_h_pf h0 hM, hP k (by omega)]
          rfl
        · rw [ef, pk_un e2]; exact hf j (by omega)
      have mid : wp_X6_reach_31 (nI c) Le Ri Sy To (lp_X6_reach_2 (nI c) Le Ri Sy To Q (d + 1)) Q f (nI (pm_h M (if 3 ≤ sy k then P (le k) else 17))) (nI M) (nI n) (nI k) := by
        refine ⟨vp_in_nI (by omega) (by decide), ?_⟩
        rw [pn_clamp (by omega), s3]
        refine ps_child (fun w => by have := n3 w; omega) (fun w => ⟨vp_in_nI (by omega) (by decide), ?_⟩) (fun w => ?_)
        · have := n3 w
          rw [if_pos w] at fin
          rw [if_pos w]
          refine ⟨vp_in_nI (by omega) (by decide), ?_⟩
          rw [pn_clamp (by omega), hf _ (by omega)]
          exact fin
        · rw [if_neg w, h17] at fin
          exact fin
      rw [pn_clamp (by omega), s2]
      refine ps_child (fun w => by have := n2 w; omega) (fun w => ⟨vp_in_nI (by omega) (by decide), ?_⟩) (fun w => ?_)
      · have := n2 w
        rw [if_pos w] at mid
        rw [if_pos w]
        refine ⟨vp_in_nI (by omega) (by decide), ?_⟩
        rw [pn_clamp (by omega), hf _ (by omega)]
        exact mid
      · rw [if_neg w, h17] at mid
        exact mid
  exact ⟨n + 2, main (n + 1) 0 Mn (by omega) (fun j hj => by omega)⟩
theorem po_reached {Ma Co MfGo MsGo : Int32} {Le Ri Si Sy Pr Le2 Ri2 Sy2 Mn MfRe MfTa MsRe MsTa To : Nat → Int32} {c : Nat} {sy le ri zs t0 t1 : Nat → Nat} (h : iv_FC Ma Le Ri Si Sy c sy le ri zs) (h2 : iv_FR Co Le2 Ri2 Sy2 c sy le ri) (hR : iv_R MfRe MfTa MsRe MsTa To t0 t1) (x1 x2 : Int32)
    {K : Int32 → Int32 → (Nat → Int32) → (Nat → Int32) → Prop} (hK : ∀ r Pr' Mn', K r r Pr' Mn') :
    wp_X5_reached Ma Le Pr Ri Sy MfGo MfRe MsGo MsRe x1 x2 (fun r Pr' => wp_X6_reached Co Le2 Mn Ri2 Sy2 To x1 x2 (fun r' Mn' => K r r' Pr' Mn')) := by
  obtain ⟨rfl, h200, h3⟩ := id h
  obtain ⟨rfl, h4⟩ := id h2
  obtain ⟨h0, h1, a0, b0, a1, b1, hT⟩ := id hR
  obtain ⟨P, hP⟩ := pm_P_ex (pm_pf t0 t1) (fun i hi => (h3 i hi).1) c (Nat.le_refl c)
  have no : ∀ r Pr', r = -1 → ((∀ M n, M < 2 → n < c → x1 = nI M → x2 ≠ nI n)) → wp_X6_reached (nI c) Le2 Mn Ri2 Sy2 To x1 x2 (fun r' Mn' => K r r' Pr' Mn') := by
    intro r Pr' er hn
    rw [er]
    unfold wp_X6_reached wp_X6_reached_in
    refine ps_within 2 1 x1 (by decide) (fun _ => ps_b0 (hK _ _ _)) (fun M hM eM => ps_b1 ?_)
    exact ps_within c (nI c - 1) x2 (ps_co h200) (fun _ => ps_b0 (hK _ _ _)) (fun n hn' en => absurd en (hn M n hM hn' eM))
  have yes : ∀ (M n : Nat) (r : Int32) Pr', M < 2 → n < c → x1 = nI M → x2 = nI n → r = nI (pm_h M (P n)) → wp_X6_reached (nI c) Le2 Mn Ri2 Sy2 To x1 x2 (fun r' Mn' => K r r' Pr' Mn') := by
    intro M n r Pr' hM hn eM en er
    rw [eM, en, er]
    unfold wp_X6_reached wp_X6_reached_in
    refine ps_within 2 1 (nI M) (by decide) (fun q => absurd rfl (q M hM)) (fun _ _ _ => ps_b1 ?_)
    refine ps_within c (nI c - 1) (nI n) (ps_co h200) (fun q => absurd rfl (q n hn)) (fun _ _ _ => ps_b1 ?_)
    exact ps_reach h2 (fun i hi => (h3 i hi).1) h200 h0 h1 hT hP hM hn (fun Mn' => hK _ _ _)
  unfold wp_X5_reached wp_X5_reached_in
  refine ps_numbered x1 (fun e => ?_) (fun e => ?_) (fun e e' => no _ _ rfl (fun M n hM _ eM => ?_))
  · refine ps_holds (by omega) x2 (fun hn => ps_b0 (no _ _ rfl (fun M n _ hn' _ => hn n hn'))) (fun n hn en => ps_b1 ?_)
    have hp := pm_P_lt h0 h1 (hP n hn)
    rw [en]
    refine ps_profC h h0 h1 b0 b1 hP hn (fun Pr' => ⟨fun _ => ?_, fun q => absurd e q⟩)
    show wp_X6_reached (nI c) Le2 Mn Ri2 Sy2 To x1 (nI n) (fun r' Mn' => K (nI (P n) &&& 15) r' Pr' Mn')
    rw [← en]
    exact yes 0 n _ _ (by decide) hn e en (pn_lo (by omega))
  · refine ps_holds (by omega) x2 (fun hn => ps_b0 (no _ _ rfl (fun M n _ hn' _ => hn n hn'))) (fun n hn en => ps_b1 ?_)
    have hp := pm_P_lt h0 h1 (hP n hn)
    rw [en]
    refine ps_profC h h0 h1 b0 b1 hP hn (fun Pr' => ⟨fun q => absurd (e.symm.trans q) (by decide), fun _ => ?_⟩)
    show wp_X6_reached (nI c) Le2 Mn Ri2 Sy2 To x1 (nI n) (fun r' Mn' => K ((nI (P n) >>> ((4 : Int32) &&& 31)) &&& 15) r' Pr' Mn')
    rw [← en]
    refine yes 1 n _ _ (by decide) hn e en ?_
    rw [pn_hi (by omega), pn_lo (by omega)]
    show nI (P n / 16 % 16) = nI (P n / 16)
    rw [show P n / 16 % 16 = P n / 16 by omega]
  · rcases (show M = 0 ∨ M = 1 by omega) with rfl | rfl
    · exact absurd eM e
    · exact absurd eM e'
theorem po_place {Ma Co MfGo MsGo : Int32} {Le Ri Si Sy Pr Le2 Ri2 Sy2 Mn MfRe MfTa MsRe MsTa To Go : Nat → Int32} {c g0 g1 : Nat} {sy le ri zs t0 t1 : Nat → Nat} (h : iv_FC Ma Le Ri Si Sy c sy le ri zs) (h2 : iv_FR Co Le2 Ri2 Sy2 c sy le ri) (hR : iv_R MfRe MfTa MsRe MsTa To t0 t1) (hG : iv_G MfGo MsGo Go g0 g1) (x1 : Int32)
    {K : Int32 → Int32 → (Nat → Int32) → (Nat → Int32) → Prop} (hK : ∀ r Pr' Mn', K r r Pr' Mn') :
    wp_X5_place Ma Le Pr Ri Sy MfGo MfRe MsGo MsRe x1 (fun r Pr' => wp_X6_place Co Go Le2 Mn Ri2 Sy2 To x1 (fun r' Mn' => K r r' Pr' Mn')) := by
  obtain ⟨rfl, h200, h3⟩ := id h
  obtain ⟨rfl, h4⟩ := id h2
  obtain ⟨h0, h1, a0, b0, a1, b1, hT⟩ := id hR
  obtain ⟨rfl, rfl, e0, e1, -, -⟩ := id hG
  obtain ⟨P, hP⟩ := pm_P_ex (pm_pf t0 t1) (fun i hi => (h3 i hi).1) c (Nat.le_refl c)
  unfold wp_X5_place wp_X5_place_in
  refine ps_holds (by omega) x1 (fun hn => ps_b0 ?_) (fun n hn en => ps_b1 ?_)
  · unfold wp_X6_place wp_X6_place_in
    exact ps_within c (nI c - 1) x1 (ps_co h200) (fun _ => ps_b0 (hK _ _ _)) (fun j hj ej => absurd ej (hn j hj))
  · subst en
    have hp := pm_P_lt h0 h1 (hP n hn)
    refine ps_profC h h0 h1 b0 b1 hP hn (fun Pr' => ps_placeOf hp ?_)
    unfold wp_X6_place wp_X6_place_in
    refine ps_within c (nI c - 1) (nI n) (ps_co h200) (fun q => absurd rfl (q n hn)) (fun _ _ _ => ps_b1 ?_)
    refine ps_reach h2 (fun i hi => (h3 i hi).1) h200 h0 h1 hT hP (M := 0) (by decide) hn (fun Mn' => ps_reach h2 (fun i hi => (h3 i hi).1) h200 h0 h1 hT hP (M := 1) (by decide) hn (fun Mn'' x ex => ?_))
    have e : x = nI (P n) := by
      rw [ex, show (16 : Int32) = nI 16 from rfl, pk_mul, nI_add]
      show nI (P n % 16 + 16 * (P n / 16)) = nI (P n)
      rw [show P n % 16 + 16 * (P n / 16) = P n by omega]
    rw [e]
    exact ps_placeOfR e0 e1 hp (hK _ _ _)
