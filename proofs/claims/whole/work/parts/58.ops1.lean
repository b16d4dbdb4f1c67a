/-! rule, drop, isRule, goal, clear: class and reference, beside each other -/
def iv_to (To : Nat → Int32) (t0 t1 : Nat → Nat) : Prop := ∀ k, k < 128 → To k = nI (t0 k) ∧ To (128 + k) = nI (t1 k)
def iv_R (fRe fTa sRe sTa To : Nat → Int32) (t0 t1 : Nat → Nat) : Prop := (∀ k, t0 k < 16) ∧ (∀ k, t1 k < 16) ∧ iv_ru fTa t0 ∧ iv_re fRe t0 ∧ iv_ru sTa t1 ∧ iv_re sRe t1 ∧ iv_to To t0 t1
theorem ps_numbered {A B C : Prop} (x : Int32) (h0 : x = 0 → A) (h1 : x = 1 → B) (h2 : x ≠ 0 → x ≠ 1 → C) : wp_X4_numbered x (fun k => (k = 0 → A) ∧ (k = 1 → B) ∧ (k = 2 → C)) :=
  ⟨fun e => ⟨fun _ => h0 e, fun q => absurd q (by decide), fun q => absurd q (by decide)⟩, fun n => ⟨fun e => ⟨fun q => absurd q (by decide), fun _ => h1 e, fun q => absurd q (by decide)⟩, fun n2 => ⟨fun q => absurd q (by decide), fun q => absurd q (by decide), fun _ => h2 n n2⟩⟩⟩
theorem ps_leads {Q : Int32 → Prop} {Go : Int32} {Ta : Nat → Int32} {t : Nat → Nat} {k q : Nat} (hk : k < 128) (hq : q < 4) (ht : t k < 16) (hT : iv_ru Ta t) (h1 : (t k).testBit q = true → Q 1) (h0 : (t k).testBit q = false → Q 0) : wp_X3_leads Go Ta (nI k) (nI q) Q := by
  unfold wp_X3_leads wp_X3_leads_in
  rw [pn_clamp (by omega), hT k hk]
  refine ⟨vp_in_nI hk (by decide), fun c => h1 ((pb_is (by omega) (by omega)).mp c), fun c => h0 ?_⟩
  cases e : (t k).testBit q
  · rfl
  · exact absurd ((pb_is (by omega) (by omega)).mpr e) c
/-- a rule's five numbers are in range -/
def pr_v (x1 x2 x3 x4 x5 : Int32) : Prop := ∃ M S Lf Rt q, M < 2 ∧ x1 = nI M ∧ pr_ok x2 x3 x4 S Lf Rt ∧ q < 4 ∧ x5 = nI q
theorem ps_change_no {CCd LCo LKn MfGo MsGo : Int32} {MfRe MfTa MsRe MsTa : Nat → Int32} {x1 x2 x3 x4 x5 on : Int32} {Q : Int32 → Int32 → Int32 → (Nat → Int32) → (Nat → Int32) → (Nat → Int32) → (Nat → Int32) → Prop}
    (hv : ¬ pr_v x1 x2 x3 x4 x5) (hQ : Q 0 CCd LKn MfRe MfTa MsRe MsTa) : wp_X5_rowOf x2 x3 x4 (fun r => wp_X5_changeRule CCd LCo LKn MfGo MfRe MfTa MsGo MsRe MsTa x1 r x5 on Q) := by
  have m1 : ∀ S Lf Rt, 16 * S + 4 * Lf + Rt < 2 ^ 31 → nI (16 * S + 4 * Lf + Rt) ≠ (-1) := by
    intro S Lf Rt h e
    have := nI_pos h
    rw [e] at this
    exact this (by decide)
  refine ps_rowOf x2 x3 x4 (fun S Lf Rt hr => ?_) (fun _ => ?_)
  · unfold wp_X5_changeRule wp_X5_changeRule_in
    have hb := hr.1
    have hb2 := hr.2.2.1
    have hb3 := hr.2.2.2.1
    refine ps_numbered x1 (fun e => ⟨fun _ => hQ, fun _ => ?_⟩) (fun e => ⟨fun _ => hQ, fun _ => ?_⟩) (fun _ _ => hQ)
    · exact ps_isState x5 (fun _ => ps_b0 hQ) (fun q hq eq => absurd ⟨0, S, Lf, Rt, q, by decide, e, hr, hq, eq⟩ hv)
    · exact ps_isState x5 (fun _ => ps_b0 hQ) (fun q hq eq => absurd ⟨1, S, Lf, Rt, q, by decide, e, hr, hq, eq⟩ hv)
  · unfold wp_X5_changeRule wp_X5_changeRule_in
    exact ps_numbered x1 (fun e => ⟨fun _ => hQ, fun c => absurd rfl c⟩) (fun e => ⟨fun _ => hQ, fun c => absurd rfl c⟩) (fun _ _ => hQ)
theorem ps_forget {CCd LCo LKn : Int32} {Q : Int32 → Int32 → Prop} (h : Q 0 0) : wp_X5_forgetProfiles CCd LCo LKn Q := h
theorem ps_change {CCd LCo LKn MfGo MsGo : Int32} {MfRe MfTa MsRe MsTa : Nat → Int32} {x2 x3 x4 on : Int32} {M S Lf Rt q : Nat} {t0 t1 : Nat → Nat} {Q : Int32 → Int32 → Int32 → (Nat → Int32) → (Nat → Int32) → (Nat → Int32) → (Nat → Int32) → Prop}
    (hM : M < 2) (hr : pr_ok x2 x3 x4 S Lf Rt) (hq : q < 4) (h0 : ∀ k, t0 k < 16) (h1 : ∀ k, t1 k < 16) (a0 : iv_ru MfTa t0) (b0 : iv_re MfRe t0) (a1 : iv_ru MsTa t1) (b1 : iv_re MsRe t1)
    (hon : on = 0 ∨ on = 1)
    (hs : (((if M = 0 then t0 else t1) (16 * S + 4 * Lf + Rt)).testBit q = true ↔ on = 1) → Q 0 CCd LKn MfRe MfTa MsRe MsTa)
    (hc : ¬ (((if M = 0 then t0 else t1) (16 * S + 4 * Lf + Rt)).testBit q = true ↔ on = 1) → ∀ fRe fTa sRe sTa, iv_ru fTa (if M = 0 then pm_turn t0 (16 * S + 4 * Lf + Rt) q else t0) → iv_re fRe (if M = 0 then pm_turn t0 (16 * S + 4 * Lf + Rt) q else t0) → iv_ru sTa (if M = 0 then t1 else pm_turn t1 (16 * S + 4 * Lf + Rt) q) → iv_re sRe (if M = 0 then t1 else pm_turn t1 (16 * S + 4 * Lf + Rt) q) → Q 1 0 0 fRe fTa sRe sTa) :
    wp_X5_rowOf x2 x3 x4 (fun r => wp_X5_changeRule CCd LCo LKn MfGo MfRe MfTa MsGo MsRe MsTa (nI M) r (nI q) on Q) := by
  obtain ⟨p1, p2, p3, p4, -, -⟩ := id hr
  have ek : 16 * S + 4 * Lf + Rt = 16 * S + (4 * Lf + Rt) := by omega
  refine ps_rowOf x2 x3 x4 (fun S' Lf' Rt' hr' => ?_) (fun hn => absurd hr (hn S Lf Rt))
  obtain ⟨rfl, rfl, rfl⟩ := pr_ok_inj hr hr'
  have nm : nI (16 * S + 4 * Lf + Rt) ≠ (-1) := by
    intro e
    have := nI_pos (n := 16 * S + 4 * Lf + Rt) (by omega)
    rw [e] at this
    exact this (by decide)
  unfold wp_X5_changeRule wp_X5_changeRule_in
  refine ps_numbered (nI M) (fun e => ⟨fun c => absurd c nm, fun _ => ?_⟩) (fun e => ⟨fun c => absurd c nm, fun _ => ?_⟩) (fun e e' => ?_)
  · have eM : M = 0 := (nI_eq (a := M) (b := 0) (by omega) (by decide)).mp e
    subst eM
    simp only [if_true] at hs hc
    refine ps_isState (nI q) (fun hn => absurd rfl (hn q hq)) (fun j hj ej => ps_b1 ?_)
    refine ps_leads (t := t0) (by omega) hq (h0 _) a0 (fun tb => ?_) (fun tb => ?_)
    · refine ⟨fun c => hs ⟨fun _ => c.symm, fun _ => tb⟩, fun c => ?_⟩
      rw [ek]
      refine ps_turnRule p1 (by omega) hq h0 a0 b0 (fun Re' Ta' i1 i2 => ps_forget ?_)
      rw [← ek] at i1 i2
      exact hc (fun w => c (w.mp tb).symm) Re' Ta' MsRe MsTa i1 i2 a1 b1
    · refine ⟨fun c => hs ⟨fun w => absurd (w.symm.trans tb) (by decide), fun w => absurd (c.trans w) (by decide)⟩, fun c => ?_⟩
      rw [ek]
      refine ps_turnRule p1 (by omega) hq h0 a0 b0 (fun Re' Ta' i1 i2 => ps_forget ?_)
      rw [← ek] at i1 i2
      refine hc (fun w => ?_) Re' Ta' MsRe MsTa i1 i2 a1 b1
      rcases hon with rfl | rfl
      · exact c rfl
      · exact absurd ((w.mpr rfl).symm.trans tb) (by decide)
  · have eM : M = 1 := (nI_eq (a := M) (b := 1) (by omega) (by decide)).mp e
    subst eM
    simp only [show ¬ ((1 : Nat) = 0) by decide, if_false] at hs hc
    refine ps_isState (nI q) (fun hn => absurd rfl (hn q hq)) (fun j hj ej => ps_b1 ?_)
    refine ps_leads (t := t1) (by omega) hq (h1 _) a1 (fun tb => ?_) (fun tb => ?_)
    · refine ⟨fun c => hs ⟨fun _ => c.symm, fun _ => tb⟩, fun c => ?_⟩
      rw [ek]
      refine ps_turnRule p1 (by omega) hq h1 a1 b1 (fun Re' Ta' i1 i2 => ps_forget ?_)
      rw [← ek] at i1 i2
      exact hc (fun w => c (w.mp tb).symm) MfRe MfTa Re' Ta' a0 b0 i1 i2
    · refine ⟨fun c => hs ⟨fun w => absurd (w.symm.trans tb) (by decide), fun w => absurd (c.trans w) (by decide)⟩, fun c => ?_⟩
      rw [ek]
      refine ps_turnRule p1 (by omega) hq h1 a1 b1 (fun Re' Ta' i1 i2 => ps_forget ?_)
      rw [← ek] at i1 i2
      refine hc (fun w => ?_) MfRe MfTa Re' Ta' a0 b0 i1 i2
      rcases hon with rfl | rfl
      · exact c rfl
      · exact absurd ((w.mpr rfl).symm.trans tb) (by decide)
  · exfalso
    rcases (show M = 0 ∨ M = 1 by omega) with rfl | rfl
    · exact e rfl
    · exact e' rfl
theorem pm_orx : ∀ a, a < 16 → ∀ q, q < 4 → a.testBit q = false → a ||| 2 ^ q = a ^^^ 2 ^ q := by decide +kernel
/-- the reference's table, one bit turned -/
theorem iv_to_turn {To : Nat → Int32} {t0 t1 : Nat → Nat} {M k q : Nat} (hM : M < 2) (hk : k < 128) (h : iv_to To t0 t1) : iv_to (upd To (128 * M + k) (nI ((if M = 0 then t0 else t1) k ^^^ 2 ^ q))) (if M = 0 then pm_turn t0 k q else t0) (if M = 0 then t1 else pm_turn t1 k q) := by
  intro j hj
  rcases (show M = 0 ∨ M = 1 by omega) with rfl | rfl
  · simp only [if_true]
    unfold pm_turn
    refine ⟨?_, ?_⟩
    · by_cases e : j = k
      · subst e
        rw [show 128 * 0 + j = j by omega, pk_us, if_pos rfl]
      · rw [pk_un (by omega), if_neg e]
        exact (h j hj).1
    · rw [pk_un (by omega)]
      exact (h j hj).2
  · simp only [show ¬ ((1 : Nat) = 0) by decide, if_false]
    unfold pm_turn
    refine ⟨?_, ?_⟩
    · rw [pk_un (by omega)]
      exact (h j hj).1
    · by_cases e : j = k
      · subst e
        rw [show 128 * 1 + j = 128 + j by omega, pk_us, if_pos rfl]
      · rw [pk_un (by omega), if_neg e]
        exact (h j hj).2
theorem iv_to_at {To : Nat → Int32} {t0 t1 : Nat → Nat} {M k : Nat} (hM : M < 2) (hk : k < 128) (h : iv_to To t0 t1) : To (128 * M + k) = nI ((if M = 0 then t0 else t1) k) := by
  rcases (show M = 0 ∨ M = 1 by omega) with rfl | rfl
  · simp only [if_true, Nat.mul_zero, Nat.zero_add]
    exact (h k hk).1
  · simp only [show ¬ ((1 : Nat) = 0) by decide, if_false, Nat.mul_one]
    exact (h k hk).2
theorem ps_ruleR_no {Co : Int32} {To : Nat → Int32} {x1 x2 x3 x4 x5 : Int32} {Q : Int32 → (Nat → Int32) → Prop} (hv : ¬ pr_v x1 x2 x3 x4 x5) (hQ : Q 0 To) : wp_X6_rule Co To x1 x2 x3 x4 x5 Q := by
  unfold wp_X6_rule wp_X6_rule_in
  refine ps_at x1 x2 x3 x4 (fun M S Lf Rt hM eM hr => ⟨fun _ => hQ, fun _ => ?_⟩) (fun _ => ⟨fun _ => hQ, fun c => absurd (by decide) c⟩)
  exact ps_within 4 3 x5 (by decide) (fun _ => ps_b0 hQ) (fun q hq eq => absurd ⟨M, S, Lf, Rt, q, hM, eM, hr, hq, eq⟩ hv)
theorem ps_dropR_no {Co : Int32} {To : Nat → Int32} {x1 x2 x3 x4 x5 : Int32} {Q : Int32 → (Nat → Int32) → Prop} (hv : ¬ pr_v x1 x2 x3 x4 x5) (hQ : Q 0 To) : wp_X6_drop Co To x1 x2 x3 x4 x5 Q := by
  unfold wp_X6_drop wp_X6_drop_in
  refine ps_at x1 x2 x3 x4 (fun M S Lf Rt hM eM hr => ⟨fun _ => hQ, fun _ => ?_⟩) (fun _ => ⟨fun _ => hQ, fun c => absurd (by decide) c⟩)
  exact ps_within 4 3 x5 (by decide) (fun _ => ps_b0 hQ) (fun q hq eq => absurd ⟨M, S, Lf, Rt, q, hM, eM, hr, hq, eq⟩ hv)
theorem ps_ruleR {Co : Int32} {To : Nat → Int32} {x2 x3 x4 : Int32} {M S Lf Rt q : Nat} {t0 t1 : Nat → Nat} {Q : Int32 → (Nat → Int32) → Prop} (hM : M < 2) (hr : pr_ok x2 x3 x4 S Lf Rt) (hq : q < 4) (h0 : ∀ k, t0 k < 16) (h1 : ∀ k, t1 k < 16) (hT : iv_to To t0 t1)
    (hs : ((if M = 0 then t0 else t1) (16 * S + 4 * Lf + Rt)).testBit q = true → Q 0 To)
    (hc : ((if M = 0 then t0 else t1) (16 * S + 4 * Lf + Rt)).testBit q = false → ∀ To', iv_to To' (if M = 0 then pm_turn t0 (16 * S + 4 * Lf + Rt) q else t0) (if M = 0 then t1 else pm_turn t1 (16 * S + 4 * Lf + Rt) q) → Q 1 To') : wp_X6_rule Co To (nI M) x2 x3 x4 (nI q) Q := by
  obtain ⟨p1, p2, p3, p4, -, -⟩ := id hr
  have hb : ∀ k, (if M = 0 then t0 else t1) k < 16 := fun k => by split; exact h0 k; exact h1 k
  unfold wp_X6_rule wp_X6_rule_in
  refine ps_at (nI M) x2 x3 x4 (fun M' S' Lf' Rt' hM' eM hr' => ?_) (fun hn => absurd hr (hn M S Lf Rt hM rfl))
  have e1 : M = M' := (nI_eq (by omega) (by omega)).mp eM
  subst e1
  obtain ⟨rfl, rfl, rfl⟩ := pr_ok_inj hr hr'
  have ei : 128 * M + 16 * S + 4 * Lf + Rt = 128 * M + (16 * S + 4 * Lf + Rt) := by omega
  rw [ei, pn_clamp (by omega), iv_to_at hM (by omega) hT]
  refine ⟨fun c => absurd c (nI_pos (by omega)), fun _ => ?_⟩
  refine ps_within 4 3 (nI q) (by decide) (fun hn => absurd rfl (hn q hq)) (fun j hj ej => ps_b1 ⟨vp_in_nI (by omega) (by decide), ?_⟩)
  have hlt := hb (16 * S + 4 * Lf + Rt)
  refine ⟨fun c => hs ((pb_is (by omega) (by omega)).mp c), fun c => ⟨vp_in_nI (by omega) (by decide), vp_in_nI (by omega) (by decide), fun f ef => ?_⟩⟩
  have tb : ((if M = 0 then t0 else t1) (16 * S + 4 * Lf + Rt)).testBit q = false := by
    cases e : ((if M = 0 then t0 else t1) (16 * S + 4 * Lf + Rt)).testBit q
    · rfl
    · exact absurd ((pb_is (by omega) (by omega)).mpr e) c
  rw [pb_one (by omega), pb_or, pm_orx _ hlt q hq tb] at ef
  rw [ef]
  exact hc tb _ (iv_to_turn hM (by omega) hT)
theorem ps_dropR {Co : Int32} {To : Nat → Int32} {x2 x3 x4 : Int32} {M S Lf Rt q : Nat} {t0 t1 : Nat → Nat} {Q : Int32 → (Nat → Int32) → Prop} (hM : M < 2) (hr : pr_ok x2 x3 x4 S Lf Rt) (hq : q < 4) (h0 : ∀ k, t0 k < 16) (h1 : ∀ k, t1 k < 16) (hT : iv_to To t0 t1)
    (hs : ((if M = 0 then t0 else t1) (16 * S + 4 * Lf + Rt)).testBit q = false → Q 0 To)
    (hc : ((if M = 0 then t0 else t1) (16 * S + 4 * Lf + Rt)).testBit q = true → ∀ To', iv_to To' (if M = 0 then pm_turn t0 (16 * S + 4 * Lf + Rt) q else t0) (if M = 0 then t1 else pm_turn t1 (16 * S + 4 * Lf + Rt) q) → Q 1 To') : wp_X6_drop Co To (nI M) x2 x3 x4 (nI q) Q := by
  obtain ⟨p1, p2, p3, p4, -, -⟩ := id hr
  have hb : ∀ k, (if M = 0 then t0 else t1) k < 16 := fun k => by split; exact h0 k; exact h1 k
  unfold wp_X6_drop wp_X6_drop_in
  refine ps_at (nI M) x2 x3 x4 (fun M' S' Lf' Rt' hM' eM hr' => ?_) (fun hn => absurd hr (hn M S Lf Rt hM rfl))
  have e1 : M = M' := (nI_eq (by omega) (by omega)).mp eM
  subst e1
  obtain ⟨rfl, rfl, rfl⟩ := pr_ok_inj hr hr'
  have ei : 128 * M + 16 * S + 4 * Lf + Rt = 128 * M + (16 * S + 4 * Lf + Rt) := by omega
  rw [ei, pn_clamp (by omega), iv_to_at hM (by omega) hT]
  refine ⟨fun c => absurd c (nI_pos (by omega)), fun _ => ?_⟩
  refine ps_within 4 3 (nI q) (by decide) (fun hn => absurd rfl (hn q hq)) (fun j hj ej => ps_b1 ⟨vp_in_nI (by omega) (by decide), ?_⟩)
  have hlt := hb (16 * S + 4 * Lf + Rt)
  have z01 : ((nI ((if M = 0 then t0 else t1) (16 * S + 4 * Lf + Rt)) >>> (nI q &&& 31)) &&& 1) = 0 ↔ ¬ ((nI ((if M = 0 then t0 else t1) (16 * S + 4 * Lf + Rt)) >>> (nI q &&& 31)) &&& 1) = 1 := by
    rw [pb_bit (by omega) (by omega)]
    have h2 : (if M = 0 then t0 else t1) (16 * S + 4 * Lf + Rt) / 2 ^ q % 2 < 2 := Nat.mod_lt _ (by decide)
    rcases (show (if M = 0 then t0 else t1) (16 * S + 4 * Lf + Rt) / 2 ^ q % 2 = 0 ∨ (if M = 0 then t0 else t1) (16 * S + 4 * Lf + Rt) / 2 ^ q % 2 = 1 by omega) with e | e
    · rw [e]; decide
    · rw [e]; decide
  refine ⟨fun c => hs ?_, fun c => ⟨vp_in_nI (by omega) (by decide), vp_in_nI (by omega) (by decide), fun f ef => ?_⟩⟩
  · cases e : ((if M = 0 then t0 else t1) (16 * S + 4 * Lf + Rt)).testBit q
    · rfl
    · exact absurd ((pb_is (by omega) (by omega)).mpr e) (z01.mp c)
  · have tb : ((if M = 0 then t0 else t1) (16 * S + 4 * Lf + Rt)).testBit q = true := by
      cases e : ((if M = 0 then t0 else t1) (16 * S + 4 * Lf + Rt)).testBit q
      · exact absurd (z01.mpr (fun w => absurd (((pb_is (by omega) (by omega)).mp w).symm.trans e) (by decide))) c
      · rfl
    rw [pb_one (by omega), pb_xor] at ef
    rw [ef]
    exact hc tb _ (iv_to_turn hM (by omega) hT)
