/-! a machine's rules: the table of sets -/
def iv_ru (Ta : Nat → Int32) (t : Nat → Nat) : Prop := ∀ k, k < 128 → Ta k = nI (t k)
def iv_re (Re : Nat → Int32) (t : Nat → Nat) : Prop := ∀ s, s < 8 → ∀ L R, L < 16 → R < 16 → (s < 3 → L ≤ 1) → (s < 5 → R ≤ 1) → Re ((s * 16 + L) * 16 + R) = nI (pm_ov (fun k => t (16 * s + k)) L R)
theorem pn_clamp {n : Nat} (h : n < 2 ^ 31) : (nI n).toNatClampNeg = n := nI_clamp h
def rb_J (s a b left right : Nat) (t : Nat → Nat) (Re0 Re : Nat → Int32) : Prop :=
  (∀ i, i / 256 ≠ s → Re i = Re0 i) ∧ ∀ L R, L ≤ a → R ≤ b → (L = 0 ∨ R = 0 ∨ L < left ∨ (L = left ∧ R < right)) → Re ((s * 16 + L) * 16 + R) = nI (pm_ov (fun k => t (16 * s + k)) L R)
theorem rb_cell {Q : Int32 → Prop} {s L R : Nat} (h : Q (nI ((s * 16 + L) * 16 + R))) : wp_X3_cell (nI s) (nI L) (nI R) Q := by
  have e : (((nI s * 16) + nI L) * 16) + nI R = nI ((s * 16 + L) * 16 + R) := by
    rw [show (16 : Int32) = nI 16 from rfl, pk_mul, nI_add, pk_mul, nI_add]
  show Q ((((nI s * 16) + nI L) * 16) + nI R)
  rw [e]
  exact h
theorem rb_pred {L : Nat} (h : 1 ≤ L) : nI L &&& (nI L - 1) = nI (L &&& (L - 1)) := by
  have e : nI L - 1 = nI (L - 1) := pk_sub (a := L) (b := 1) h
  rw [e, pb_and]
theorem rb_in {Go : Int32} {Ta : Nat → Int32} {t : Nat → Nat} {s a b left : Nat} {Q : (Nat → Int32) → Prop} {K31 : (Nat → Int32) → Int32 → Int32 → Int32 → Int32 → Prop} {Re0 : Nat → Int32}
    (hs : s < 8) (ha : a ≤ 15) (hb : b ≤ 15) (hT : iv_ru Ta t) (hl1 : 1 ≤ left) (hl2 : left ≤ a) (hK : ∀ Re, rb_J s a b (left + 1) 1 t Re0 Re → K31 Re (nI s) (nI a) (nI b) (nI (left + 1))) :
    ∀ (d right : Nat) (Re : Nat → Int32), right + d = b + 1 → 1 ≤ right → rb_J s a b left right t Re0 Re → lp_X3_rebuild_40 Go Ta K31 Q (d + 1) Re (nI s) (nI a) (nI b) (nI left) (nI right) := by
  intro d
  induction d with
  | zero =>
    intro right Re h1 h2 hJ
    refine ⟨fun _ => fun x e => ?_, fun c => absurd (nI_lt (a := b) (b := right) (by omega) (by omega)) c⟩
    rw [e, nI_1]
    refine hK Re ⟨hJ.1, fun L R hL hR q => hJ.2 L R hL hR ?_⟩
    rcases q with q | q | q | q
    · exact Or.inl q
    · exact Or.inr (Or.inl q)
    · by_cases e2 : L = left
      · exact Or.inr (Or.inr (Or.inr ⟨e2, by omega⟩))
      · exact Or.inr (Or.inr (Or.inl (by omega)))
    · by_cases e2 : R = 0
      · exact Or.inr (Or.inl e2)
      · omega
  | succ d ih =>
    intro right Re h1 h2 hJ
    refine ⟨fun c => absurd c (nI_nlt (by omega) (by omega)), fun _ => ?_⟩
    obtain ⟨m1, m2, m3, -⟩ := pm_low_ok left (by omega) (by omega)
    obtain ⟨n1, n2, n3, -⟩ := pm_low_ok right (by omega) (by omega)
    refine ⟨vp_in_nI (by omega) (by decide), vp_in_nI (by omega) (by decide), fun x6 e6 => ?_⟩
    rw [pn_clamp (by omega), pn_clamp (by omega), tm_low_ok left (by omega), tm_low_ok right (by omega)] at e6
    have e6' : x6 = nI (16 * s + (4 * pm_low left + pm_low right)) := by
      rw [e6, show (4 : Int32) = nI 4 from rfl, pk_mul, nI_add, pk_mul, nI_add]
      congr 1
      omega
    subst e6'
    refine rb_cell ⟨vp_in_nI (by omega) (by decide), ?_⟩
    rw [rb_pred (by omega), rb_pred (by omega)]
    refine rb_cell ⟨vp_in_nI (by omega) (by decide), rb_cell ⟨vp_in_nI (by omega) (by decide), vp_in_nI (by omega) (by decide), fun f ef x5 e5 => ?_⟩⟩
    rw [pn_clamp (by omega), pn_clamp (by omega), pn_clamp (by omega), pn_clamp (by omega)] at ef
    rw [hT _ (by omega), hJ.2 (left &&& (left - 1)) right (by omega) (by omega) (Or.inr (Or.inr (Or.inl m3))), hJ.2 left (right &&& (right - 1)) hl2 (by omega) (Or.inr (Or.inr (Or.inr ⟨rfl, n3⟩))), pb_or, pb_or] at ef
    have er := pm_ov_rec (t := fun k => t (16 * s + k)) (L := left) (R := right) (by omega) (by omega) (by omega) (by omega)
    rw [← er] at ef
    rw [e5, nI_1]
    refine ih (right + 1) f (by omega) (by omega) ⟨fun i hi => ?_, fun L R hL hR q => ?_⟩
    · rw [ef, pk_un (by omega)]
      exact hJ.1 i hi
    · by_cases e2 : L = left ∧ R = right
      · obtain ⟨rfl, rfl⟩ := e2
        rw [ef, pk_us]
      · rw [ef, pk_un (by omega)]
        refine hJ.2 L R hL hR ?_
        rcases q with q | q | q | q
        · exact Or.inl q
        · exact Or.inr (Or.inl q)
        · exact Or.inr (Or.inr (Or.inl q))
        · exact Or.inr (Or.inr (Or.inr ⟨q.1, by omega⟩))
theorem rb_out {Go : Int32} {Ta : Nat → Int32} {t : Nat → Nat} {s a b : Nat} {Q : (Nat → Int32) → Prop} {Re0 : Nat → Int32}
    (hs : s < 8) (ha : a ≤ 15) (hb : b ≤ 15) (hT : iv_ru Ta t) (hQ : ∀ Re, rb_J s a b (a + 1) 1 t Re0 Re → Q Re) :
    ∀ (d left : Nat) (Re : Nat → Int32), left + d = a + 1 → 1 ≤ left → rb_J s a b left 1 t Re0 Re → lp_X3_rebuild_31 Go Ta Q (d + 1) Re (nI s) (nI a) (nI b) (nI left) := by
  intro d
  induction d with
  | zero =>
    intro left Re h1 h2 hJ
    have e : left = a + 1 := by omega
    subst e
    exact ⟨fun _ => hQ Re hJ, fun c => absurd (nI_lt (a := a) (b := a + 1) (by omega) (by omega)) c⟩
  | succ d ih =>
    intro left Re h1 h2 hJ
    refine ⟨fun c => absurd c (nI_nlt (by omega) (by omega)), fun _ => ?_⟩
    exact ⟨b + 1, rb_in hs ha hb hT h2 (by omega) (fun Re' hJ' => ih (left + 1) Re' (by omega) (by omega) hJ') b 1 Re (by omega) (by omega) hJ⟩
theorem ps_rebuild {Go : Int32} {Ta Re : Nat → Int32} {t : Nat → Nat} {s : Nat} {Q : (Nat → Int32) → Prop} (hs : s < 8) (hT : iv_ru Ta t)
    (h0 : ∀ L R, L < 16 → R < 16 → (L = 0 ∨ R = 0) → (s < 3 → L ≤ 1) → (s < 5 → R ≤ 1) → Re ((s * 16 + L) * 16 + R) = 0)
    (hQ : ∀ Re', (∀ i, i / 256 ≠ s → Re' i = Re i) → (∀ L R, L < 16 → R < 16 → (s < 3 → L ≤ 1) → (s < 5 → R ≤ 1) → Re' ((s * 16 + L) * 16 + R) = nI (pm_ov (fun k => t (16 * s + k)) L R)) → Q Re') : wp_X3_rebuild Go Re Ta (nI s) Q := by
  have main : ∀ a b : Nat, (s < 3 → a = 1) → (3 ≤ s → a = 15) → (s < 5 → b = 1) → (5 ≤ s → b = 15) → ∃ n : Nat, lp_X3_rebuild_31 Go Ta Q n Re (nI s) (nI a) (nI b) 1 := by
    intro a b a1 a2 b1 b2
    have ha : 1 ≤ a ∧ a ≤ 15 := by by_cases c : s < 3 <;> omega
    have hb : 1 ≤ b ∧ b ≤ 15 := by by_cases c : s < 5 <;> omega
    refine ⟨a + 1, rb_out (Re0 := Re) hs ha.2 hb.2 hT (fun Re' hJ => hQ Re' hJ.1 (fun L R hL hR c1 c2 => ?_)) a 1 Re (by omega) (by omega) ⟨fun i _ => rfl, fun L R hL hR q => ?_⟩⟩
    · have : L ≤ a := by by_cases c : s < 3 <;> omega
      have : R ≤ b := by by_cases c : s < 5 <;> omega
      exact hJ.2 L R (by omega) (by omega) (Or.inr (Or.inr (Or.inl (by omega))))
    · have c1 : s < 3 → L ≤ 1 := fun c => by have := a1 c; omega
      have c2 : s < 5 → R ≤ 1 := fun c => by have := b1 c; omega
      rcases q with rfl | rfl | q | q
      · rw [h0 0 R (by omega) (by omega) (Or.inl rfl) c1 c2, pm_ov_0l]; rfl
      · rw [h0 L 0 (by omega) (by omega) (Or.inr rfl) c1 c2, pm_ov_0r]; rfl
      · have : L = 0 := by omega
        subst this
        rw [h0 0 R (by omega) (by omega) (Or.inl rfl) c1 c2, pm_ov_0l]; rfl
      · have : R = 0 := by omega
        subst this
        rw [h0 L 0 (by omega) (by omega) (Or.inr rfl) c1 c2, pm_ov_0r]; rfl
  have rt : ∀ a : Nat, (s < 3 → a = 1) → (3 ≤ s → a = 15) → wp_X3_rebuild_13 Go Ta Q Re (nI a) (nI s) := fun a a1 a2 => by
    unfold wp_X3_rebuild_13
    exact ps_hasRight (s := s) (by omega) (fun c => ps_b0 (main a 1 a1 a2 (fun _ => rfl) (fun q => by omega))) (fun c => ps_b1 (main a 15 a1 a2 (fun q => by omega) (fun _ => rfl)))
  unfold wp_X3_rebuild wp_X3_rebuild_in
  exact ps_hasLeft (s := s) (by omega) (fun c => ps_b0 (rt 1 (fun _ => rfl) (fun q => by omega))) (fun c => ps_b1 (rt 15 (fun q => by omega) (fun _ => rfl)))
/-- one bit of a row is turned -/
def pm_turn (t : Nat → Nat) (k q : Nat) : Nat → Nat := fun j => if j = k then t k ^^^ 2 ^ q else t j
theorem pm_turn_lt {t : Nat → Nat} (ht : ∀ k, t k < 16) {k q : Nat} (hq : q < 4) : ∀ j, pm_turn t k q j < 16 := by
  intro j
  unfold pm_turn
  split
  · exact pm_xorb _ (ht k) q hq
  · exact ht j
theorem ps_turnRule {Go : Int32} {Ta Re : Nat → Int32} {t : Nat → Nat} {S k q : Nat} {Q : (Nat → Int32) → (Nat → Int32) → Prop} (hS : S < 8) (hk : k < 16) (hq : q < 4) (ht : ∀ k, t k < 16) (hT : iv_ru Ta t) (hR : iv_re Re t)
    (hQ : ∀ Re' Ta', iv_ru Ta' (pm_turn t (16 * S + k) q) → iv_re Re' (pm_turn t (16 * S + k) q) → Q Re' Ta') : wp_X3_turnRule Go Re Ta (nI (16 * S + k)) (nI q) Q := by
  refine ⟨vp_in_nI (by omega) (by decide), vp_in_nI (by omega) (by decide), fun f ef => ?_⟩
  rw [pn_clamp (by omega), hT _ (by omega), pb_one (by omega), pb_xor] at ef
  have hf : iv_ru f (pm_turn t (16 * S + k) q) := by
    intro j hj
    rw [ef]
    unfold pm_turn
    by_cases e : j = 16 * S + k
    · rw [e, pk_us, if_pos rfl]
    · rw [pk_un e, if_neg e]
      exact hT j hj
  have e1 : nI (16 * S + k) / 16 = nI S := by
    have h := pk_div (a := 16 * S + k) (d := 16) (by omega) (by decide) (by decide)
    have h2 : (16 * S + k) / 16 = S := by omega
    rw [h2] at h
    exact h
  rw [e1]
  refine ps_rebuild (t := pm_turn t (16 * S + k) q) hS hf (fun L R hL hR' c c1 c2 => ?_) (fun Re' h1 h2 => hQ Re' f hf ?_)
  · rw [hR S hS L R hL hR' c1 c2]
    rcases c with rfl | rfl
    · rw [pm_ov_0l]; rfl
    · rw [pm_ov_0r]; rfl
  · intro s' hs' L R hL hR' c1 c2
    by_cases e : s' = S
    · subst e
      exact h2 L R hL hR' c1 c2
    · rw [h1 _ (by omega), hR s' hs' L R hL hR' c1 c2]
      have e2 : (fun j => pm_turn t (16 * S + k) q (16 * s' + j)) = (fun j => pm_turn t (16 * S + k) q (16 * s' + j)) := rfl
      congr 1
      apply Nat.eq_of_testBit_eq
      intro i
      rw [Bool.eq_iff_iff, pm_ov_tb, pm_ov_tb]
      constructor
      · rintro ⟨l, r, hl, hr, x, y, z⟩
        refine ⟨l, r, hl, hr, x, y, ?_⟩
        unfold pm_turn
        rw [if_neg (by omega)]
        exact z
      · rintro ⟨l, r, hl, hr, x, y, z⟩
        refine ⟨l, r, hl, hr, x, y, ?_⟩
        unfold pm_turn at z
        rw [if_neg (by omega)] at z
        exact z
