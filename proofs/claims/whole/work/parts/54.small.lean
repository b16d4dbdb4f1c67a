/-! the small methods: what they answer -/
theorem ps_b0 {A B : Prop} (a : A) : ((0 : Int32) = 0 → A) ∧ (¬ ((0 : Int32) = 0) → B) := ⟨fun _ => a, fun q => absurd rfl q⟩
theorem ps_b1 {A B : Prop} (b : B) : ((1 : Int32) = 0 → A) ∧ (¬ ((1 : Int32) = 0) → B) := ⟨fun q => absurd q (by decide), fun _ => b⟩
theorem ps_if {c A B : Prop} (a : c → A) (b : ¬ c → B) : (c → A) ∧ (¬ c → B) := ⟨a, b⟩
theorem ps_rng {A B : Prop} (n : Nat) (hn : n < 2 ^ 31) (x : Int32) (h : (∀ j, j < n → x ≠ nI j) → A) (h' : ∀ j, j < n → x = nI j → B) : ((x < 0 → A) ∧ (¬ (x < 0) → ((nI n ≤ x → A) ∧ (¬ (nI n ≤ x) → B)))) := by
  have key : ∀ j, j < n → x = nI j → ¬ x < 0 ∧ ¬ nI n ≤ x := by
    intro j hj e
    subst e
    exact ⟨nI_pos (by omega), nI_ge hj hn⟩
  refine ⟨fun c => h (fun j hj e => (key j hj e).1 c), fun c => ⟨fun d => h (fun j hj e => (key j hj e).2 d), fun d => ?_⟩⟩
  rcases pk_ix x hn with q | q | ⟨j, hj, e⟩
  · exact absurd q c
  · exact absurd q d
  · exact h' j hj e
theorem ps_isSymbol {Q : Int32 → Prop} (x : Int32) (h : (∀ j, j < 8 → x ≠ nI j) → Q 0) (h' : ∀ j, j < 8 → x = nI j → Q 1) : wp_X5_isSymbol x Q := ps_rng 8 (by decide) x h h'
theorem ps_isState {Q : Int32 → Prop} (x : Int32) (h : (∀ j, j < 4 → x ≠ nI j) → Q 0) (h' : ∀ j, j < 4 → x = nI j → Q 1) : wp_X5_isState x Q := ps_rng 4 (by decide) x h h'
theorem ps_isSort {Q : Int32 → Prop} (x : Int32) (h : (∀ j, j < 16 → x ≠ nI j) → Q 0) (h' : ∀ j, j < 16 → x = nI j → Q 1) : wp_X5_isSort x Q := ps_rng 16 (by decide) x h h'
theorem ps_holds {Q : Int32 → Prop} {c : Nat} (hc : c < 2 ^ 31) (x : Int32) (h : (∀ j, j < c → x ≠ nI j) → Q 0) (h' : ∀ j, j < c → x = nI j → Q 1) : wp_X1_holds (nI c) x Q := ps_rng c hc x h h'
theorem ps_hasLeft {Q : Int32 → Prop} {s : Nat} (hs : s < 2 ^ 31) (h : s < 3 → Q 0) (h' : 3 ≤ s → Q 1) : wp_X5_hasLeft (nI s) Q :=
  ⟨fun c => h ((nI_ltI (a := s) (b := 3) hs (by decide)).mp c), fun c => h' (Nat.not_lt.mp (fun q => c ((nI_ltI (a := s) (b := 3) hs (by decide)).mpr q)))⟩
theorem ps_hasRight {Q : Int32 → Prop} {s : Nat} (hs : s < 2 ^ 31) (h : s < 5 → Q 0) (h' : 5 ≤ s → Q 1) : wp_X5_hasRight (nI s) Q :=
  ⟨fun c => h ((nI_ltI (a := s) (b := 5) hs (by decide)).mp c), fun c => h' (Nat.not_lt.mp (fun q => c ((nI_ltI (a := s) (b := 5) hs (by decide)).mpr q)))⟩
theorem ps_children {Q : Int32 → Prop} {s : Nat} (hs : s < 2 ^ 31) (h0 : s < 3 → Q 0) (h1 : 3 ≤ s → s < 5 → Q 1) (h2 : 5 ≤ s → Q 2) : wp_X6_children (nI s) Q :=
  ⟨fun c => ⟨fun d => h2 ((nI_leI (a := 5) (b := s) (by decide) hs).mp d), fun d => h1 ((nI_leI (a := 3) (b := s) (by decide) hs).mp c) (Nat.not_le.mp (fun q => d ((nI_leI (a := 5) (b := s) (by decide) hs).mpr q)))⟩,
   fun c => h0 (Nat.not_le.mp (fun q => c ((nI_leI (a := 3) (b := s) (by decide) hs).mpr q)))⟩
/-- within, with a greatest value that is n - 1 -/
theorem ps_within {Q : Int32 → Prop} (n : Nat) (m x : Int32) (hm : m.toInt = (n : Int) - 1) (h : (∀ j, j < n → x ≠ nI j) → Q 0) (h' : ∀ j, j < n → x = nI j → Q 1) : wp_X6_within x 0 m Q := by
  have hn : (n : Int) - 1 < 2 ^ 31 := by
    have := m.toInt_lt
    omega
  have key : ∀ j, j < n → x = nI j → ¬ x < 0 ∧ ¬ m < x := by
    intro j hj e
    subst e
    refine ⟨nI_pos (by omega), fun q => ?_⟩
    rw [Int32.lt_iff_toInt_lt, hm, nI_toInt (by omega)] at q
    omega
  refine ⟨fun c => h (fun j hj e => (key j hj e).1 c), fun c => ⟨fun d => h (fun j hj e => (key j hj e).2 d), fun d => ?_⟩⟩
  obtain ⟨j, hj, e⟩ := nI_of c
  subst e
  refine h' j ?_ rfl
  rw [Int32.lt_iff_toInt_lt, hm, nI_toInt hj] at d
  omega
theorem ps_co {c : Nat} (hc : c ≤ 200) : (nI c - 1 : Int32).toInt = (c : Int) - 1 := by
  have h := pk_sub_toInt (a := c) (b := 1) (by omega) (by decide)
  exact h
/-- a symbol with the states that it takes: numbers of a rule's row -/
def pr_ok (s l r : Int32) (S Lf Rt : Nat) : Prop := S < 8 ∧ s = nI S ∧ Lf < 4 ∧ Rt < 4 ∧ (if 3 ≤ S then l = nI Lf else Lf = 0) ∧ (if 5 ≤ S then r = nI Rt else Rt = 0)
theorem pr_ok_inj {s l r : Int32} {S Lf Rt S' Lf' Rt' : Nat} (h : pr_ok s l r S Lf Rt) (h' : pr_ok s l r S' Lf' Rt') : S = S' ∧ Lf = Lf' ∧ Rt = Rt' := by
  obtain ⟨a1, a2, a3, a4, a5, a6⟩ := h
  obtain ⟨b1, b2, b3, b4, b5, b6⟩ := h'
  have e : S = S' := (nI_eq (by omega) (by omega)).mp (a2.symm.trans b2)
  subst e
  refine ⟨rfl, ?_, ?_⟩
  · by_cases c : 3 ≤ S
    · rw [if_pos c] at a5 b5
      exact (nI_eq (by omega) (by omega)).mp (a5.symm.trans b5)
    · rw [if_neg c] at a5 b5
      omega
  · by_cases c : 5 ≤ S
    · rw [if_pos c] at a6 b6
      exact (nI_eq (by omega) (by omega)).mp (a6.symm.trans b6)
    · rw [if_neg c] at a6 b6
      omega
theorem ps_rowOf {Q : Int32 → Prop} (s l r : Int32) (h : ∀ S Lf Rt, pr_ok s l r S Lf Rt → Q (nI (16 * S + 4 * Lf + Rt))) (h' : (∀ S Lf Rt, ¬ pr_ok s l r S Lf Rt) → Q (-1)) : wp_X5_rowOf s l r Q := by
  have fin : ∀ S Lf Rt : Nat, (((nI S * 4) + nI Lf) * 4) + nI Rt = nI (16 * S + 4 * Lf + Rt) := by
    intro S Lf Rt
    rw [show (4 : Int32) = nI 4 from rfl, pk_mul, nI_add, pk_mul, nI_add]
    congr 1
    omega
  unfold wp_X5_rowOf wp_X5_rowOf_in
  refine ps_isSymbol s (fun hn => ps_b0 (h' (fun S Lf Rt q => hn S q.1 q.2.1))) (fun S hS e => ps_b1 ?_)
  subst e
  have right : ∀ z : Int32, (3 ≤ S → z = l) → (S < 3 → z = 0) → wp_X5_rowOf_21 Q z (nI S) r := by
    intro z hz1 hz2
    have last : ∀ y : Int32, (5 ≤ S → y = r) → (S < 5 → y = 0) → wp_X5_rowOf_34 Q y (nI S) z := by
      intro y hy1 hy2
      unfold wp_X5_rowOf_34
      refine ps_isState z (fun hn => ps_b0 (h' (fun S' Lf Rt q => ?_))) (fun Lf hLf eL => ps_b1 ?_)
      · have e : S = S' := (nI_eq (by omega) (by have := q.1; omega)).mp q.2.1
        subst e
        have q5 := q.2.2.2.2.1
        by_cases c : 3 ≤ S
        · rw [if_pos c] at q5
          exact hn Lf q.2.2.1 ((hz1 c).trans q5)
        · exact hn 0 (by decide) (hz2 (by omega))
      · refine ps_isState y (fun hn => ps_b0 (h' (fun S' Lf' Rt q => ?_))) (fun Rt hRt eR => ps_b1 ?_)
        · have e : S = S' := (nI_eq (by omega) (by have := q.1; omega)).mp q.2.1
          subst e
          have q6 := q.2.2.2.2.2
          by_cases c : 5 ≤ S
          · rw [if_pos c] at q6
            exact hn Rt q.2.2.2.1 ((hy1 c).trans q6)
          · exact hn 0 (by decide) (hy2 (by omega))
        · rw [eL, eR, fin]
          refine h S Lf Rt ⟨hS, rfl, hLf, hRt, ?_, ?_⟩
          · by_cases c : 3 ≤ S
            · rw [if_pos c, ← hz1 c]
              exact eL
            · rw [if_neg c]
              have := eL.symm.trans (hz2 (by omega))
              exact (nI_eq (a := Lf) (b := 0) (by omega) (by decide)).mp this
          · by_cases c : 5 ≤ S
            · rw [if_pos c, ← hy1 c]
              exact eR
            · rw [if_neg c]
              have := eR.symm.trans (hy2 (by omega))
              exact (nI_eq (a := Rt) (b := 0) (by omega) (by decide)).mp this
    unfold wp_X5_rowOf_21
    refine ps_hasRight (by omega) (fun c => ps_b0 (last 0 (fun q => by omega) (fun _ => rfl))) (fun c => ps_b1 (last r (fun _ => rfl) (fun q => by omega)))
  refine ps_hasLeft (by omega) (fun c => ps_b0 (right 0 (fun q => by omega) (fun _ => rfl))) (fun c => ps_b1 (right l (fun _ => rfl) (fun q => by omega)))
theorem ps_at {Q : Int32 → Prop} (x s l r : Int32) (h : ∀ M S Lf Rt, M < 2 → x = nI M → pr_ok s l r S Lf Rt → Q (nI (128 * M + 16 * S + 4 * Lf + Rt))) (h' : (∀ M S Lf Rt, M < 2 → x = nI M → ¬ pr_ok s l r S Lf Rt) → Q (-1)) : wp_X6_at x s l r Q := by
  have fin : ∀ M S Lf Rt : Nat, ((((128 : Int32) * nI M) + ((16 : Int32) * nI S)) + ((4 : Int32) * nI Lf)) + nI Rt = nI (128 * M + 16 * S + 4 * Lf + Rt) := by
    intro M S Lf Rt
    rw [show (4 : Int32) = nI 4 from rfl, show (16 : Int32) = nI 16 from rfl, show (128 : Int32) = nI 128 from rfl, pk_mul, pk_mul, pk_mul, nI_add, nI_add, nI_add]
  unfold wp_X6_at wp_X6_at_in
  refine ps_within 2 1 x (by decide) (fun hn => ps_b0 (h' (fun M S Lf Rt a b q => hn M a b))) (fun M hM eM => ps_b1 ?_)
  refine ps_within 8 7 s (by decide) (fun hn => ps_b0 (h' (fun M S Lf Rt a b q => hn S q.1 q.2.1))) (fun S hS e => ps_b1 ?_)
  subst e
  have right : ∀ z : Int32, (3 ≤ S → z = l) → (S < 3 → z = 0) → wp_X6_at_33 Q z x (nI S) r := by
    intro z hz1 hz2
    have last : ∀ y : Int32, (5 ≤ S → y = r) → (S < 5 → y = 0) → wp_X6_at_48 Q y x (nI S) z := by
      intro y hy1 hy2
      unfold wp_X6_at_48
      refine ps_within 4 3 z (by decide) (fun hn => ps_b0 (h' (fun M' S' Lf Rt _ _ q => ?_))) (fun Lf hLf eL => ps_b1 ?_)
      · have e : S = S' := (nI_eq (by omega) (by have := q.1; omega)).mp q.2.1
        subst e
        have q5 := q.2.2.2.2.1
        by_cases c : 3 ≤ S
        · rw [if_pos c] at q5
          exact hn Lf q.2.2.1 ((hz1 c).trans q5)
        · exact hn 0 (by decide) (hz2 (by omega))
      · refine ps_within 4 3 y (by decide) (fun hn => ps_b0 (h' (fun M' S' Lf' Rt _ _ q => ?_))) (fun Rt hRt eR => ps_b1 ?_)
        · have e : S = S' := (nI_eq (by omega) (by have := q.1; omega)).mp q.2.1
          subst e
          have q6 := q.2.2.2.2.2
          by_cases c : 5 ≤ S
          · rw [if_pos c] at q6
            exact hn Rt q.2.2.2.1 ((hy1 c).trans q6)
          · exact hn 0 (by decide) (hy2 (by omega))
        · rw [eL, eR, eM, fin]
          refine h M S Lf Rt hM eM ⟨hS, rfl, hLf, hRt, ?_, ?_⟩
          · by_cases c : 3 ≤ S
            · rw [if_pos c, ← hz1 c]
              exact eL
            · rw [if_neg c]
              have := eL.symm.trans (hz2 (by omega))
              exact (nI_eq (a := Lf) (b := 0) (by omega) (by decide)).mp this
          · by_cases c : 5 ≤ S
            · rw [if_pos c, ← hy1 c]
              exact eR
            · rw [if_neg c]
              have := eR.symm.trans (hy2 (by omega))
              exact (nI_eq (a := Rt) (b := 0) (by omega) (by decide)).mp this
    unfold wp_X6_at_33
    refine ps_children (by omega) (fun c => ?_) (fun c d => ?_) (fun c => ?_)
    · exact ⟨fun _ => last 0 (fun q => by omega) (fun _ => rfl), fun q => absurd (by decide) q⟩
    · exact ⟨fun _ => last 0 (fun q => by omega) (fun _ => rfl), fun q => absurd (by decide) q⟩
    · exact ⟨fun q => absurd q (by decide), fun _ => last r (fun _ => rfl) (fun q => by omega)⟩
  refine ps_children (by omega) (fun c => ?_) (fun c d => ?_) (fun c => ?_)
  · exact ⟨fun _ => right 0 (fun q => by omega) (fun _ => rfl), fun q => absurd (by decide) q⟩
  · exact ⟨fun q => absurd q (by decide), fun _ => right l (fun _ => rfl) (fun q => by omega)⟩
  · exact ⟨fun q => absurd q (by decide), fun _ => right l (fun _ => rfl) (fun q => by omega)⟩
