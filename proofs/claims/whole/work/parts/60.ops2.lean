theorem iv_R_turn {MfRe MfTa MsRe MsTa To fRe fTa sRe sTa To' : Nat → Int32} {t0 t1 : Nat → Nat} {M k q : Nat} (hR : iv_R MfRe MfTa MsRe MsTa To t0 t1) (hq : q < 4)
    (i1 : iv_ru fTa (if M = 0 then pm_turn t0 k q else t0)) (i2 : iv_re fRe (if M = 0 then pm_turn t0 k q else t0)) (i3 : iv_ru sTa (if M = 0 then t1 else pm_turn t1 k q)) (i4 : iv_re sRe (if M = 0 then t1 else pm_turn t1 k q)) (i5 : iv_to To' (if M = 0 then pm_turn t0 k q else t0) (if M = 0 then t1 else pm_turn t1 k q)) :
    iv_R fRe fTa sRe sTa To' (if M = 0 then pm_turn t0 k q else t0) (if M = 0 then t1 else pm_turn t1 k q) := by
  refine ⟨?_, ?_, i1, i2, i3, i4, i5⟩
  · intro j
    by_cases e : M = 0
    · rw [if_pos e]; exact pm_turn_lt hR.1 hq j
    · rw [if_neg e]; exact hR.1 j
  · intro j
    by_cases e : M = 0
    · rw [if_pos e]; exact hR.2.1 j
    · rw [if_neg e]; exact pm_turn_lt hR.2.1 hq j
theorem po_rule {CCd LCo LKn MfGo MsGo Co : Int32} {MfRe MfTa MsRe MsTa To : Nat → Int32} {t0 t1 : Nat → Nat} (hR : iv_R MfRe MfTa MsRe MsTa To t0 t1) (x1 x2 x3 x4 x5 : Int32)
    {K : Int32 → Int32 → Int32 → Int32 → (Nat → Int32) → (Nat → Int32) → (Nat → Int32) → (Nat → Int32) → (Nat → Int32) → Prop}
    (hK : ∀ r c k fRe fTa sRe sTa To' t0' t1', iv_R fRe fTa sRe sTa To' t0' t1' → ((c = CCd ∧ k = LKn ∧ t0' = t0 ∧ t1' = t1) ∨ (c = 0 ∧ k = 0)) → K r r c k fRe fTa sRe sTa To') :
    wp_X5_rule CCd LCo LKn MfGo MfRe MfTa MsGo MsRe MsTa x1 x2 x3 x4 x5 (fun r c k fRe fTa sRe sTa => wp_X6_rule Co To x1 x2 x3 x4 x5 (fun r' To' => K r r' c k fRe fTa sRe sTa To')) := by
  unfold wp_X5_rule wp_X5_rule_in
  by_cases hv : pr_v x1 x2 x3 x4 x5
  · obtain ⟨M, S, Lf, Rt, q, hM, rfl, hr, hq, rfl⟩ := hv
    obtain ⟨h0, h1, a0, b0, a1, b1, hT⟩ := id hR
    refine ps_change hM hr hq h0 h1 a0 b0 a1 b1 (Or.inr rfl) (fun w => ?_) (fun w fRe fTa sRe sTa i1 i2 i3 i4 => ?_)
    · exact ps_ruleR hM hr hq h0 h1 hT (fun _ => hK 0 _ _ _ _ _ _ _ t0 t1 hR (Or.inl ⟨rfl, rfl, rfl, rfl⟩)) (fun tb => absurd ((w.mpr rfl).symm.trans tb) (by decide))
    · exact ps_ruleR hM hr hq h0 h1 hT (fun tb => absurd ⟨fun _ => rfl, fun _ => tb⟩ w) (fun tb To' i5 => hK 1 _ _ _ _ _ _ _ _ _ (iv_R_turn hR hq i1 i2 i3 i4 i5) (Or.inr ⟨rfl, rfl⟩))
  · exact ps_change_no hv (ps_ruleR_no hv (hK 0 _ _ _ _ _ _ _ t0 t1 hR (Or.inl ⟨rfl, rfl, rfl, rfl⟩)))
theorem po_drop {CCd LCo LKn MfGo MsGo Co : Int32} {MfRe MfTa MsRe MsTa To : Nat → Int32} {t0 t1 : Nat → Nat} (hR : iv_R MfRe MfTa MsRe MsTa To t0 t1) (x1 x2 x3 x4 x5 : Int32)
    {K : Int32 → Int32 → Int32 → Int32 → (Nat → Int32) → (Nat → Int32) → (Nat → Int32) → (Nat → Int32) → (Nat → Int32) → Prop}
    (hK : ∀ r c k fRe fTa sRe sTa To' t0' t1', iv_R fRe fTa sRe sTa To' t0' t1' → ((c = CCd ∧ k = LKn ∧ t0' = t0 ∧ t1' = t1) ∨ (c = 0 ∧ k = 0)) → K r r c k fRe fTa sRe sTa To') :
    wp_X5_drop CCd LCo LKn MfGo MfRe MfTa MsGo MsRe MsTa x1 x2 x3 x4 x5 (fun r c k fRe fTa sRe sTa => wp_X6_drop Co To x1 x2 x3 x4 x5 (fun r' To' => K r r' c k fRe fTa sRe sTa To')) := by
  unfold wp_X5_drop wp_X5_drop_in
  by_cases hv : pr_v x1 x2 x3 x4 x5
  · obtain ⟨M, S, Lf, Rt, q, hM, rfl, hr, hq, rfl⟩ := hv
    obtain ⟨h0, h1, a0, b0, a1, b1, hT⟩ := id hR
    refine ps_change hM hr hq h0 h1 a0 b0 a1 b1 (Or.inl rfl) (fun w => ?_) (fun w fRe fTa sRe sTa i1 i2 i3 i4 => ?_)
    · exact ps_dropR hM hr hq h0 h1 hT (fun _ => hK 0 _ _ _ _ _ _ _ t0 t1 hR (Or.inl ⟨rfl, rfl, rfl, rfl⟩)) (fun tb => absurd (w.mp tb) (by decide))
    · refine ps_dropR hM hr hq h0 h1 hT (fun tb => absurd ⟨fun c => absurd (c.symm.trans tb) (by decide), fun c => absurd c (by decide)⟩ w) (fun tb To' i5 => hK 1 _ _ _ _ _ _ _ _ _ (iv_R_turn hR hq i1 i2 i3 i4 i5) (Or.inr ⟨rfl, rfl⟩))
  · exact ps_change_no hv (ps_dropR_no hv (hK 0 _ _ _ _ _ _ _ t0 t1 hR (Or.inl ⟨rfl, rfl, rfl, rfl⟩)))
theorem po_isRule {MfGo MsGo Co : Int32} {MfRe MfTa MsRe MsTa To : Nat → Int32} {t0 t1 : Nat → Nat} (hR : iv_R MfRe MfTa MsRe MsTa To t0 t1) (x1 x2 x3 x4 x5 : Int32) {K : Int32 → Int32 → Prop} (hK : ∀ r, K r r) :
    wp_X5_isRule MfGo MfTa MsGo MsTa x1 x2 x3 x4 x5 (fun r => wp_X6_isRule Co To x1 x2 x3 x4 x5 (fun r' => K r r')) := by
  obtain ⟨h0, h1, a0, b0, a1, b1, hT⟩ := id hR
  have m1 : ∀ n, n < 2 ^ 31 → nI n ≠ (-1) := by
    intro n h e
    have := nI_pos h
    rw [e] at this
    exact this (by decide)
  -- the reference's answer
  have rn : ¬ pr_v x1 x2 x3 x4 x5 → wp_X6_isRule Co To x1 x2 x3 x4 x5 (fun r' => K 0 r') := by
    intro hv
    unfold wp_X6_isRule wp_X6_isRule_in
    refine ps_at x1 x2 x3 x4 (fun M S Lf Rt hM eM hr => ⟨fun _ => hK 0, fun _ => ?_⟩) (fun _ => ⟨fun _ => hK 0, fun c => absurd (by decide) c⟩)
    exact ps_within 4 3 x5 (by decide) (fun _ => ps_b0 (hK 0)) (fun q hq eq => absurd ⟨M, S, Lf, Rt, q, hM, eM, hr, hq, eq⟩ hv)
  have ry : ∀ M S Lf Rt q r, M < 2 → x1 = nI M → pr_ok x2 x3 x4 S Lf Rt → q < 4 → x5 = nI q → (((if M = 0 then t0 else t1) (16 * S + 4 * Lf + Rt)).testBit q = true → r = 1) → (((if M = 0 then t0 else t1) (16 * S + 4 * Lf + Rt)).testBit q = false → r = 0) → wp_X6_isRule Co To x1 x2 x3 x4 x5 (fun r' => K r r') := by
    intro M S Lf Rt q r hM eM hr hq eq w1 w0
    have hb : ∀ k, (if M = 0 then t0 else t1) k < 16 := fun k => by split; exact h0 k; exact h1 k
    unfold wp_X6_isRule wp_X6_isRule_in
    refine ps_at x1 x2 x3 x4 (fun M' S' Lf' Rt' hM' eM' hr' => ?_) (fun hn => absurd hr (hn M S Lf Rt hM eM))
    have e1 : M = M' := (nI_eq (by omega) (by omega)).mp (eM.symm.trans eM')
    subst e1
    obtain ⟨rfl, rfl, rfl⟩ := pr_ok_inj hr hr'
    obtain ⟨p1, p2, p3, p4, -, -⟩ := id hr
    have ei : 128 * M + 16 * S + 4 * Lf + Rt = 128 * M + (16 * S + 4 * Lf + Rt) := by omega
    have hlt := hb (16 * S + 4 * Lf + Rt)
    rw [ei, pn_clamp (by omega), iv_to_at hM (by omega) hT, eq]
    refine ⟨fun c => absurd c (nI_pos (by omega)), fun _ => ?_⟩
    refine ps_within 4 3 (nI q) (by decide) (fun hn => absurd rfl (hn q hq)) (fun j hj ej => ps_b1 ⟨vp_in_nI (by omega) (by decide), fun c => ?_, fun c => ?_⟩)
    · rw [w1 ((pb_is (by omega) (by omega)).mp c)]
      exact hK 1
    · rw [w0 (by
        cases e : ((if M = 0 then t0 else t1) (16 * S + 4 * Lf + Rt)).testBit q
        · rfl
        · exact absurd ((pb_is (by omega) (by omega)).mpr e) c)]
      exact hK 0
  unfold wp_X5_isRule wp_X5_isRule_in
  refine ps_numbered x1 (fun e => ?_) (fun e => ?_) (fun e e' => ?_)
  · refine ps_rowOf x2 x3 x4 (fun S Lf Rt hr => ?_) (fun hn => ⟨fun _ => rn (fun ⟨M, S, Lf, Rt, q, _, _, hr, _⟩ => hn S Lf Rt hr), fun c => absurd rfl c⟩)
    obtain ⟨p1, p2, p3, p4, -, -⟩ := id hr
    refine ⟨fun c => absurd c (m1 _ (by omega)), fun _ => ?_⟩
    refine ps_isState x5 (fun hn => ps_b0 (rn (fun ⟨M, S, Lf, Rt, q, _, _, _, hq, eq⟩ => hn q hq eq))) (fun q hq eq => ps_b1 ?_)
    rw [eq]
    refine ps_leads (t := t0) (by omega) hq (h0 _) a0 (fun tb => ps_b1 ?_) (fun tb => ps_b0 ?_)
    · rw [← eq]
      exact ry 0 S Lf Rt q 1 (by decide) e hr hq eq (fun _ => rfl) (fun w => absurd (tb.symm.trans w) (by decide))
    · rw [← eq]
      exact ry 0 S Lf Rt q 0 (by decide) e hr hq eq (fun w => absurd (w.symm.trans tb) (by decide)) (fun _ => rfl)
  · refine ps_rowOf x2 x3 x4 (fun S Lf Rt hr => ?_) (fun hn => ⟨fun _ => rn (fun ⟨M, S, Lf, Rt, q, _, _, hr, _⟩ => hn S Lf Rt hr), fun c => absurd rfl c⟩)
    obtain ⟨p1, p2, p3, p4, -, -⟩ := id hr
    refine ⟨fun c => absurd c (m1 _ (by omega)), fun _ => ?_⟩
    refine ps_isState x5 (fun hn => ps_b0 (rn (fun ⟨M, S, Lf, Rt, q, _, _, _, hq, eq⟩ => hn q hq eq))) (fun q hq eq => ps_b1 ?_)
    rw [eq]
    refine ps_leads (t := t1) (by omega) hq (h1 _) a1 (fun tb => ps_b1 ?_) (fun tb => ps_b0 ?_)
    · rw [← eq]
      exact ry 1 S Lf Rt q 1 (by decide) e hr hq eq (fun _ => rfl) (fun w => absurd (tb.symm.trans w) (by decide))
    · rw [← eq]
      exact ry 1 S Lf Rt q 0 (by decide) e hr hq eq (fun w => absurd (w.symm.trans tb) (by decide)) (fun _ => rfl)
  · have nv : ¬ pr_v x1 x2 x3 x4 x5 := by
      rintro ⟨M, S, Lf, Rt, q, hM, eM, -⟩
      rcases (show M = 0 ∨ M = 1 by omega) with rfl | rfl
      · exact e eM
      · exact e' eM
    exact ps_rowOf x2 x3 x4 (fun S Lf Rt hr => rn nv) (fun hn => rn nv)
/-- goals -/
def iv_G (MfGo MsGo : Int32) (Go : Nat → Int32) (g0 g1 : Nat) : Prop := MfGo = nI g0 ∧ MsGo = nI g1 ∧ Go 0 = nI g0 ∧ Go 1 = nI g1 ∧ g0 < 16 ∧ g1 < 16
theorem po_goal {MfGo MsGo Co : Int32} {Go : Nat → Int32} {g0 g1 : Nat} (hG : iv_G MfGo MsGo Go g0 g1) (x1 x2 x3 : Int32) {K : Int32 → Int32 → Int32 → Int32 → (Nat → Int32) → Prop}
    (hK : ∀ r f s Go' g0' g1', iv_G f s Go' g0' g1' → K r r f s Go') :
    wp_X5_goal MfGo MsGo x1 x2 x3 (fun r f s => wp_X6_goal Co Go x1 x2 x3 (fun r' Go' => K r r' f s Go')) := by
  obtain ⟨rfl, rfl, e0, e1, l0, l1⟩ := id hG
  have no : (∀ M q, M < 2 → x1 = nI M → q < 4 → x2 ≠ nI q) → wp_X6_goal Co Go x1 x2 x3 (fun r' Go' => K 0 r' (nI g0) (nI g1) Go') := by
    intro hn
    unfold wp_X6_goal wp_X6_goal_in
    refine ps_within 2 1 x1 (by decide) (fun _ => ps_b0 (hK 0 _ _ _ _ _ hG)) (fun M hM eM => ps_b1 ?_)
    exact ps_within 4 3 x2 (by decide) (fun _ => ps_b0 (hK 0 _ _ _ _ _ hG)) (fun q hq eq => absurd eq (hn M q hM eM hq))
  have rs : ∀ (M q g : Nat) (r f s : Int32), M < 2 → x1 = nI M → q < 4 → x2 = nI q → g < 16 → Go M = nI g → (∀ z : Int32, (g.testBit q = true → z = 1) → (g.testBit q = false → z = 0) → (z = x3 → K r 0 f s Go) ∧ (¬ z = x3 → K r 1 f s (upd Go M (nI (g ^^^ 2 ^ q))))) → wp_X6_goal Co Go x1 x2 x3 (fun r' Go' => K r r' f s Go') := by
    intro M q g r f s hM eM hq eq hg eg hz
    subst eM; subst eq
    unfold wp_X6_goal wp_X6_goal_in
    refine ps_within 2 1 (nI M) (by decide) (fun hn => absurd rfl (hn M hM)) (fun M' hM' eM' => ps_b1 ?_)
    refine ps_within 4 3 (nI q) (by decide) (fun hn => absurd rfl (hn q hq)) (fun q' hq' eq' => ps_b1 ⟨vp_in_nI hM (by decide), ?_⟩)
    have fin : ∀ z : Int32, (g.testBit q = true → z = 1) → (g.testBit q = false → z = 0) → wp_X6_goal_37 Co (fun r' Go' => K r r' f s Go') Go z (nI M) (nI q) x3 := by
      intro z z1 z0
      refine ⟨fun c => (hz z z1 z0).1 c, fun c => ⟨vp_in_nI hM (by decide), vp_in_nI hM (by decide), fun f' ef => ?_⟩⟩
      rw [pn_clamp (by omega), eg, pb_one (by omega), pb_xor] at ef
      rw [ef]
      exact (hz z z1 z0).2 c
    rw [pn_clamp (by omega), eg]
    refine ⟨fun c => fin 1 (fun _ => rfl) (fun w => absurd (((pb_is (by omega) (by omega)).mp c).symm.trans w) (by decide)), fun c => fin 0 (fun w => absurd ((pb_is (by omega) (by omega)).mpr w) c) (fun _ => rfl)⟩
  unfold wp_X5_goal wp_X5_goal_in
  refine ps_numbered x1 (fun e => ?_) (fun e => ?_) (fun e e' => ?_)
  · refine ps_isState x2 (fun hn => ps_b0 (no (fun M q _ _ hq => hn q hq))) (fun q hq eq => ps_b1 ?_)
    have core : ∀ z : Int32, (g0.testBit q = true → z = 1) → (g0.testBit q = false → z = 0) → ((z = x3 → wp_X6_goal Co Go x1 x2 x3 (fun r' Go' => K 0 r' (nI g0) (nI g1) Go')) ∧ (¬ z = x3 → wp_X3_turnGoal (nI g0) x2 (fun u => wp_X6_goal Co Go x1 x2 x3 (fun r' Go' => K 1 r' u (nI g1) Go')))) := by
      intro z z1 z0
      refine ⟨fun c => ?_, fun c => ?_⟩
      · refine rs 0 q g0 0 _ _ (by decide) e hq eq l0 e0 (fun z' w1 w0 => ?_)
        have ez : z' = z := by
          cases tb : g0.testBit q
          · rw [w0 tb, z0 tb]
          · rw [w1 tb, z1 tb]
        rw [ez]
        exact ⟨fun _ => hK 0 _ _ _ _ _ hG, fun n => absurd c n⟩
      · intro g eg
        rw [eq, pb_one (by omega), pb_xor] at eg
        rw [eg]
        refine rs 0 q g0 1 _ _ (by decide) e hq eq l0 e0 (fun z' w1 w0 => ?_)
        have ez : z' = z := by
          cases tb : g0.testBit q
          · rw [w0 tb, z0 tb]
          · rw [w1 tb, z1 tb]
        rw [ez]
        refine ⟨fun n => absurd n c, fun _ => hK 1 _ _ _ (g0 ^^^ 2 ^ q) g1 ⟨rfl, rfl, pk_us, ?_, pm_xorb _ l0 q hq, l1⟩⟩
        rw [pk_un (by decide)]; exact e1
    unfold wp_X3_isGoal wp_X3_isGoal_in
    rw [eq]
    refine ⟨fun c => ?_, fun c => ?_⟩
    · have := core 1 (fun _ => rfl) (fun w => absurd (((pb_is (by omega) (by omega)).mp c).symm.trans w) (by decide))
      rw [eq] at this
      exact this
    · have := core 0 (fun w => absurd ((pb_is (by omega) (by omega)).mpr w) c) (fun _ => rfl)
      rw [eq] at this
      exact this
  · refine ps_isState x2 (fun hn => ps_b0 (no (fun M q _ _ hq => hn q hq))) (fun q hq eq => ps_b1 ?_)
    have core : ∀ z : Int32, (g1.testBit q = true → z = 1) → (g1.testBit q = false → z = 0) → ((z = x3 → wp_X6_goal Co Go x1 x2 x3 (fun r' Go' => K 0 r' (nI g0) (nI g1) Go')) ∧ (¬ z = x3 → wp_X3_turnGoal (nI g1) x2 (fun u => wp_X6_goal Co Go x1 x2 x3 (fun r' Go' => K 1 r' (nI g0) u Go')))) := by
      intro z z1 z0
      refine ⟨fun c => ?_, fun c => ?_⟩
      · refine rs 1 q g1 0 _ _ (by decide) e hq eq l1 e1 (fun z' w1 w0 => ?_)
        have ez : z' = z := by
          cases tb : g1.testBit q
          · rw [w0 tb, z0 tb]
          · rw [w1 tb, z1 tb]
        rw [ez]
        exact ⟨fun _ => hK 0 _ _ _ _ _ hG, fun n => absurd c n⟩
      · intro g eg
        rw [eq, pb_one (by omega), pb_xor] at eg
        rw [eg]
        refine rs 1 q g1 1 _ _ (by decide) e hq eq l1 e1 (fun z' w1 w0 => ?_)
        have ez : z' = z := by
          cases tb : g1.testBit q
          · rw [w0 tb, z0 tb]
          · rw [w1 tb, z1 tb]
        rw [ez]
        refine ⟨fun n => absurd n c, fun _ => hK 1 _ _ _ g0 (g1 ^^^ 2 ^ q) ⟨rfl, rfl, ?_, pk_us, l0, pm_xorb _ l1 q hq⟩⟩
        rw [pk_un (by decide)]; exact e0
    unfold wp_X3_isGoal wp_X3_isGoal_in
    rw [eq]
    refine ⟨fun c => ?_, fun c => ?_⟩
    · have := core 1 (fun _ => rfl) (fun w => absurd (((pb_is (by omega) (by omega)).mp c).symm.trans w) (by decide))
      rw [eq] at this
      exact this
    · have := core 0 (fun w => absurd ((pb_is (by omega) (by omega)).mpr w) c) (fun _ => rfl)
      rw [eq] at this
      exact this
  · refine no (fun M q hM eM _ => ?_)
    rcases (show M = 0 ∨ M = 1 by omega) with rfl | rfl
    · exact absurd eM e
    · exact absurd eM e'
/-- Arrays.fill -/
theorem ps_fill {n0 : Nat} (hn : n0 < 2 ^ 30) {v : Nat → Int32} {x : Int32} {Q : (Nat → Int32) → Prop} (h : ∀ f, (∀ i, i < n0 → f i = x) → Q f) : wp_J7_fill_53178 n0 v x Q := by
  have main : ∀ (d i : Nat) (f : Nat → Int32), i + d = n0 → (∀ j, j < i → f j = x) → lp_J7_fill_53178_5 n0 Q (d + 1) f x (nI i) (nI n0) := by
    intro d
    induction d with
    | zero =>
      intro i f e hf
      have e' : i = n0 := by omega
      subst e'
      exact ⟨fun _ => h f hf, fun c => absurd (nI_le (Nat.le_refl _) (by omega)) c⟩
    | succ d ih =>
      intro i f e hf
      refine ⟨fun c => absurd c (nI_ge (by omega) (by omega)), fun _ => ⟨vp_in_nI (by omega) (by omega), fun f' ef y ey => ?_⟩⟩
      rw [ey, nI_1]
      refine ih (i + 1) f' (by omega) (fun j hj => ?_)
      rw [ef, pn_clamp (by omega)]
      by_cases e2 : j = i
      · rw [e2, pk_us]
      · rw [pk_un e2]; exact hf j (by omega)
  intro y ey
  rw [ey]
  exact ⟨n0 + 1, main n0 0 v (by omega) (fun j hj => by omega)⟩
theorem pm_ov_z {L R : Nat} : pm_ov (fun _ => 0) L R = 0 := by
  apply Nat.eq_of_testBit_eq
  intro q
  rw [Bool.eq_iff_iff, pm_ov_tb]
  constructor
  · rintro ⟨l, r, _, _, _, _, x⟩
    simp at x
  · intro h
    simp at h
theorem ps_clearR {Co : Int32} {Go To : Nat → Int32} {M : Nat} (hM : M < 2) {Q : Int32 → (Nat → Int32) → (Nat → Int32) → Prop} (h : ∀ Go' To', Go' = upd Go M 0 → (∀ i, i / 128 ≠ M → To' i = To i) → (∀ k, k < 128 → To' (128 * M + k) = 0) → Q 1 Go' To') : wp_X6_clear Co Go To (nI M) Q := by
  have main : ∀ (d k : Nat) (f : Nat → Int32), k + d = 128 → (∀ i, i / 128 ≠ M → f i = To i) → (∀ j, j < k → f (128 * M + j) = 0) → lp_X6_clear_13 Co Q (d + 1) Go f (nI M) (nI k) := by
    intro d
    induction d with
    | zero =>
      intro k f e h1 h2
      refine ⟨fun _ => ⟨vp_in_nI hM (by decide), fun g eg => ?_⟩, fun c => absurd ((nI_leI (a := 128) (b := k) (by decide) (by omega)).mpr (by omega)) c⟩
      rw [pn_clamp (by omega)] at eg
      exact h g f eg h1 (fun j hj => h2 j (by omega))
    | succ d ih =>
      intro k f e h1 h2
      have ei : ((128 : Int32) * nI M) + nI k = nI (128 * M + k) := by
        rw [show (128 : Int32) = nI 128 from rfl, pk_mul, nI_add]
      refine ⟨fun c => absurd ((nI_leI (a := 128) (b := k) (by decide) (by omega)).mp c) (by omega), fun _ => ?_⟩
      rw [ei]
      refine ⟨vp_in_nI (by omega) (by decide), fun f' ef y ey => ?_⟩
      rw [pn_clamp (by omega)] at ef
      rw [ey, nI_1]
      refine ih (k + 1) f' (by omega) (fun i hi => ?_) (fun j hj => ?_)
      · rw [ef, pk_un (by omega)]; exact h1 i hi
      · by_cases e2 : j = k
        · rw [ef, e2, pk_us]
        · rw [ef, pk_un (by omega)]; exact h2 j (by omega)
  unfold wp_X6_clear wp_X6_clear_in
  refine ps_within 2 1 (nI M) (by decide) (fun hn => absurd rfl (hn M hM)) (fun M' hM' eM' => ps_b1 ?_)
  exact ⟨129, main 128 0 To (by omega) (fun _ _ => rfl) (fun j hj => by omega)⟩
theorem ps_empty {Go : Int32} {Re Ta : Nat → Int32} {Q : Int32 → (Nat → Int32) → (Nat → Int32) → Prop} (h : ∀ Re' Ta', iv_ru Ta' (fun _ => 0) → iv_re Re' (fun _ => 0) → Q 0 Re' Ta') : wp_X3_empty Go Re Ta Q := by
  unfold wp_X3_empty wp_X3_empty_in
  refine ps_fill (by decide) (fun Ta' hT => ps_fill (by decide) (fun Re' hR => h Re' Ta' (fun k hk => hT k hk) (fun s hs L R hL hR' _ _ => ?_)))
  rw [pm_ov_z]
  exact hR _ (by omega)
theorem po_clear {CCd LCo LKn MfGo MsGo Co : Int32} {MfRe MfTa MsRe MsTa To Go : Nat → Int32} {t0 t1 : Nat → Nat} {g0 g1 : Nat} (hR : iv_R MfRe MfTa MsRe MsTa To t0 t1) (hG : iv_G MfGo MsGo Go g0 g1) (x1 : Int32)
    {K : Int32 → Int32 → Int32 → Int32 → Int32 → (Nat → Int32) → (Nat → Int32) → Int32 → (Nat → Int32) → (Nat → Int32) → (Nat → Int32) → (Nat → Int32) → Prop}
    (hK : ∀ r c k fGo fRe fTa sGo sRe sTa Go' To' t0' t1' g0' g1', iv_R fRe fTa sRe sTa To' t0' t1' → iv_G fGo sGo Go' g0' g1' → ((c = CCd ∧ k = LKn ∧ t0' = t0 ∧ t1' = t1) ∨ (c = 0 ∧ k = 0)) → K r r c k fGo fRe fTa sGo sRe sTa Go' To') :
    wp_X5_clear CCd LCo LKn MfGo MfRe MfTa MsGo MsRe MsTa x1 (fun r c k fGo fRe fTa sGo sRe sTa => wp_X6_clear Co Go To x1 (fun r' Go' To' => K r r' c k fGo fRe fTa sGo sRe sTa Go' To')) := by
  obtain ⟨h0, h1, a0, b0, a1, b1, hT⟩ := id hR
  obtain ⟨q1, q2, e0, e1, l0, l1⟩ := id hG
  unfold wp_X5_clear wp_X5_clear_in
  refine ps_numbered x1 (fun e => ?_) (fun e => ?_) (fun e e' => ?_)
  · refine ps_empty (fun Re' Ta' i1 i2 => ps_forget ?_)
    rw [show x1 = nI 0 from e]
    refine ps_clearR (by decide) (fun Go' To' eg n1 n2 => hK 1 0 0 _ _ _ _ _ _ _ _ (fun _ => 0) t1 0 g1 ⟨fun _ => Nat.zero_lt_succ 15, h1, i1, i2, a1, b1, fun k hk => ⟨?_, ?_⟩⟩ ⟨rfl, q2, ?_, ?_, by decide, l1⟩ (Or.inr ⟨rfl, rfl⟩))
    · have := n2 k hk
      rw [show 128 * 0 + k = k by omega] at this
      exact this
    · rw [n1 _ (by omega)]; exact (hT k hk).2
    · rw [eg, pk_us]; rfl
    · rw [eg, pk_un (by decide)]; exact e1
  · refine ps_empty (fun Re' Ta' i1 i2 => ps_forget ?_)
    rw [show x1 = nI 1 from e]
    refine ps_clearR (by decide) (fun Go' To' eg n1 n2 => hK 1 0 0 _ _ _ _ _ _ _ _ t0 (fun _ => 0) g0 0 ⟨h0, fun _ => Nat.zero_lt_succ 15, a0, b0, i1, i2, fun k hk => ⟨?_, ?_⟩⟩ ⟨q1, rfl, ?_, ?_, l0, by decide⟩ (Or.inr ⟨rfl, rfl⟩))
    · rw [n1 _ (by omega)]; exact (hT k hk).1
    · have := n2 k hk
      rw [show 128 * 1 + k = 128 + k by omega] at this
      exact this
    · rw [eg, pk_un (by decide)]; exact e0
    · rw [eg, pk_us]; rfl
  · unfold wp_X6_clear wp_X6_clear_in
    refine ps_within 2 1 x1 (by decide) (fun _ => ps_b0 (hK 0 _ _ _ _ _ _ _ _ _ _ t0 t1 g0 g1 hR hG (Or.inl ⟨rfl, rfl, rfl, rfl⟩))) (fun M hM eM => ?_)
    exfalso
    rcases (show M = 0 ∨ M = 1 by omega) with rfl | rfl
    · exact e eM
    · exact e' eM
