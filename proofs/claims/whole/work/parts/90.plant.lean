/-! planting a writing: the class and the reference make the same nodes -/
def pw_ar (s : Nat) : Nat := if 3 ≤ s then (if 5 ≤ s then 2 else 1) else 0
theorem pw_ar0 {s : Nat} (h : s < 3) : pw_ar s = 0 := if_neg (by omega)
theorem pw_ar1 {s : Nat} (h : 3 ≤ s) (h' : s < 5) : pw_ar s = 1 := by unfold pw_ar; rw [if_pos h, if_neg (by omega)]
theorem pw_ar2 {s : Nat} (h : 5 ≤ s) : pw_ar s = 2 := by unfold pw_ar; rw [if_pos (by omega), if_pos h]
/-- how many terms an end of a writing spells -/
def pw_d : List Nat → Nat → Prop
  | [], n => n = 0
  | s :: y, n => ∃ m, pw_d y m ∧ pw_ar s ≤ m ∧ n = m - pw_ar s + 1
theorem pw_d_T {pf : Nat → Nat → Nat → Nat} {p : Nat} {w : List Nat} (h : pm_T pf p w) : ∀ (y : List Nat) (m : Nat), pw_d y m → pw_d (w ++ y) (m + 1) := by
  refine pm_T_ind (P := fun _ w => ∀ (y : List Nat) (m : Nat), pw_d y m → pw_d (w ++ y) (m + 1)) ?_ ?_ ?_ h
  · intro s hs y m hy
    exact ⟨m, hy, by rw [pw_ar0 hs]; omega, by rw [pw_ar0 hs]; omega⟩
  · intro s l w h3 h5 _ ih y m hy
    exact ⟨m + 1, ih y m hy, by rw [pw_ar1 h3 h5]; omega, by rw [pw_ar1 h3 h5]; omega⟩
  · intro s l w r v h5 h8 _ ih _ ih' y m hy
    refine ⟨m + 2, ?_, by rw [pw_ar2 h5]; omega, by rw [pw_ar2 h5]; omega⟩
    show pw_d ((w ++ v) ++ y) (m + 2)
    rw [List.append_assoc]
    exact ih _ _ (ih' y m hy)
theorem pw_d_drop : ∀ (w : List Nat) (n : Nat), pw_d w n → ∀ k, ∃ m, pw_d (w.drop k) m
  | [], n, h, k => ⟨0, by rw [List.drop_nil]; rfl⟩
  | s :: w, n, h, 0 => ⟨n, h⟩
  | s :: w, n, h, k + 1 => by
    obtain ⟨m, hm, -⟩ := h
    exact pw_d_drop w m hm k
theorem pw_d_fun : ∀ (w : List Nat) (n m : Nat), pw_d w n → pw_d w m → n = m
  | [], n, m, h, h' => by
    have a : n = 0 := h
    have b : m = 0 := h'
    omega
  | s :: w, n, m, ⟨a, ha, _, ea⟩, ⟨b, hb, _, eb⟩ => by
    have := pw_d_fun w a b ha hb
    omega
theorem pw_d_le : ∀ (w : List Nat) (n : Nat), pw_d w n → n ≤ w.length
  | [], n, h => by have a : n = 0 := h; omega
  | s :: w, n, ⟨a, ha, h1, ea⟩ => by
    have := pw_d_le w a ha
    rw [List.length_cons]
    omega
/-- the stack of nodes, and what the nodes are, when an end of a writing is planted above the first c nodes -/
def pw_k (c : Nat) : List Nat → List Nat
  | [] => []
  | s :: y => (c + y.length) :: (pw_k c y).drop (pw_ar s)
def pw_f (g : Nat → List Nat → Nat) (c : Nat) (f0 : Nat → Nat) : List Nat → (Nat → Nat)
  | [] => f0
  | s :: y => pm_up (pw_f g c f0 y) (c + y.length) (g s (pw_k c y))
def pw_s (s : Nat) (_ : List Nat) : Nat := s
def pw_l (s : Nat) (st : List Nat) : Nat := if 3 ≤ s then st.getD 0 0 else 0
def pw_r (s : Nat) (st : List Nat) : Nat := if 5 ≤ s then st.getD 1 0 else 0
theorem pw_k_ok (c : Nat) : ∀ (y : List Nat) (m : Nat), pw_d y m → (pw_k c y).length = m ∧ ∀ j, j < m → (pw_k c y).getD j 0 < c + y.length
  | [], m, h => by
    have a : m = 0 := h
    subst a
    exact ⟨rfl, fun j hj => by omega⟩
  | s :: y, m, ⟨a, ha, h1, ea⟩ => by
    obtain ⟨i1, i2⟩ := pw_k_ok c y a ha
    refine ⟨?_, fun j hj => ?_⟩
    · show ((c + y.length) :: (pw_k c y).drop (pw_ar s)).length = m
      rw [List.length_cons, List.length_drop, i1]
      omega
    · show ((c + y.length) :: (pw_k c y).drop (pw_ar s)).getD j 0 < c + (y.length + 1)
      cases j with
      | zero =>
        show c + y.length < c + (y.length + 1)
        omega
      | succ j =>
        rw [pm_gd_c, pw_gd_drop]
        have := i2 (pw_ar s + j) (by omega)
        omega
theorem pw_dr {w : List Nat} {k : Nat} (h : k < w.length) : w.drop k = w.getD k 0 :: w.drop (k + 1) := by
  induction w generalizing k with
  | nil => simp at h
  | cons a w ih =>
    cases k with
    | zero => rfl
    | succ k =>
      rw [pm_gd_c]
      exact ih (by simpa using h)
/-- the children that a symbol takes from the stack -/
theorem pw_nd {c m s : Nat} {st : List Nat} {x2 x3 : Int32} (hm : pw_ar s ≤ m) (hlt : ∀ j, j < m → st.getD j 0 < c) (e2 : 3 ≤ s → x2 = nI (st.getD 0 0)) (e3 : 5 ≤ s → x3 = nI (st.getD 1 0)) : nd_ok c x2 x3 s (pw_l s st) (pw_r s st) := by
  constructor
  · unfold pw_l
    by_cases w : 3 ≤ s
    · rw [if_pos w, if_pos w]
      refine ⟨hlt 0 ?_, e2 w⟩
      by_cases w5 : 5 ≤ s
      · rw [pw_ar2 w5] at hm; omega
      · rw [pw_ar1 w (by omega)] at hm; omega
    · rw [if_neg w, if_neg w]
  · unfold pw_r
    by_cases w : 5 ≤ s
    · rw [if_pos w, if_pos w]
      refine ⟨hlt 1 ?_, e3 w⟩
      rw [pw_ar2 w] at hm; omega
    · rw [if_neg w, if_neg w]
theorem ps_plant {Le Ri Si Sy Un Wr : Nat → Int32} {c n : Nat} {sy le ri zs : Nat → Nat} {w : List Nat} (hd : pw_d w n) (h8 : ∀ k, k < w.length → w.getD k 0 < 8) (h1 : 1 ≤ w.length) (h32 : w.length ≤ 32) (hroom : c + w.length ≤ 200) (hW : ∀ k, k < w.length → Wr k = nI (w.getD k 0)) (hF : iv_FC (nI c) Le Ri Si Sy c sy le ri zs)
    {Q : Int32 → Int32 → (Nat → Int32) → (Nat → Int32) → (Nat → Int32) → (Nat → Int32) → (Nat → Int32) → Prop}
    (hQ : ∀ Le' Ri' Si' Sy' Un' zs', iv_FC (nI (c + w.length)) Le' Ri' Si' Sy' (c + w.length) (pw_f pw_s c sy w) (pw_f pw_l c le w) (pw_f pw_r c ri w) zs' → Q (nI (c + w.length - 1)) (nI (c + w.length)) Le' Ri' Si' Sy' Un') :
    wp_X1_plant (nI c) Le Ri Si Sy Un Wr (nI w.length) Q := by
  have main : ∀ (k m : Nat) (x4 : Int32) (Le Ri Si Sy Un : Nat → Int32) (zs : Nat → Nat), k ≤ w.length → pw_d (w.drop k) m → (k < w.length → x4 = nI (c + (w.length - k) - 1)) → iv_FC (nI (c + (w.length - k))) Le Ri Si Sy (c + (w.length - k)) (pw_f pw_s c sy (w.drop k)) (pw_f pw_l c le (w.drop k)) (pw_f pw_r c ri (w.drop k)) zs → pw_sk Un m (pw_k c (w.drop k)) → lp_X1_plant_10 Wr Q (k + 1) (nI (c + (w.length - k))) Le Ri Si Sy Un (nI m) x4 (nI k - 1) := by
    intro k
    induction k with
    | zero =>
      intro m x4 Le Ri Si Sy Un zs hk hm e4 hF hsk
      refine ⟨fun _ => ?_, fun w => absurd (by decide) w⟩
      rw [e4 (by omega)]
      exact hQ _ _ _ _ _ zs hF
    | succ k ih =>
      intro m x4 Le Ri Si Sy Un zs hk hm e4 hF hsk
      have hkl : k < w.length := by omega
      have s8 := h8 k hkl
      have edr := pw_dr hkl
      obtain ⟨n', hn'⟩ := pw_d_drop w n hd k
      rw [edr] at hn'
      obtain ⟨m', hm', har, en'⟩ := hn'
      have emm := pw_d_fun _ _ _ hm hm'
      subst emm
      have ek : nI (k + 1) - 1 = nI k := nI_pred k
      have hmle := pw_d_le _ _ hm
      rw [List.length_drop] at hmle
      obtain ⟨ko1, ko2⟩ := pw_k_ok c _ _ hm
      rw [List.length_drop] at ko2
      rw [ek]
      -- the node is made and pushed
      have put : ∀ (x6 x7 : Int32), (3 ≤ w.getD k 0 → x6 = nI ((pw_k c (w.drop (k + 1))).getD 0 0)) → (5 ≤ w.getD k 0 → x7 = nI ((pw_k c (w.drop (k + 1))).getD 1 0)) → wp_X1_plant_71 Wr (lp_X1_plant_10 Wr Q (k + 1)) Q (nI (c + (w.length - (k + 1)))) Le Ri Si Sy Un (nI (m - pw_ar (w.getD k 0))) (nI k) x6 x7 := by
        intro x6 x7 e6 e7
        refine ⟨vp_in_nI (by omega) (by decide), ?_⟩
        rw [pn_clamp (by omega), hW k hkl]
        have hnd := pw_nd har ko2 e6 e7
        refine ps_add hF (by omega) s8 hnd (fun Le' Ri' Si' Sy' q1 q2 q3 q4 => ⟨vp_in_nI (by omega) (by decide), fun f17 e17 y3 ey3 y5 ey5 => ?_⟩)
        rw [pn_clamp (by omega)] at e17
        rw [ey3, nI_1, ey5, pn_m1, ← en']
        have hF' := iv_FC_add hF (by omega) s8 hnd
        rw [← q1, ← q2, ← q3, ← q4] at hF'
        have ec : c + (w.length - (k + 1)) + 1 = c + (w.length - k) := by omega
        have hl : (w.drop (k + 1)).length = w.length - (k + 1) := List.length_drop
        rw [ec] at hF' ⊢
        refine ih n' _ Le' Ri' Si' Sy' f17 (pm_up zs (c + (w.length - (k + 1))) (min 1000 ((1 + if 3 ≤ w.getD k 0 then zs (pw_l (w.getD k 0) (pw_k c (w.drop (k + 1)))) else 0) + if 5 ≤ w.getD k 0 then zs (pw_r (w.getD k 0) (pw_k c (w.drop (k + 1)))) else 0))) (by omega) ?_ (fun _ => ?_) ?_ ?_
        · rw [edr]
          exact ⟨m, hm, har, en'⟩
        · congr 1
          omega
        · rw [edr]
          show iv_FC _ _ _ _ _ _ (pm_up (pw_f pw_s c sy (w.drop (k + 1))) (c + (w.drop (k + 1)).length) (pw_s (w.getD k 0) (pw_k c (w.drop (k + 1))))) (pm_up (pw_f pw_l c le (w.drop (k + 1))) (c + (w.drop (k + 1)).length) (pw_l (w.getD k 0) (pw_k c (w.drop (k + 1))))) (pm_up (pw_f pw_r c ri (w.drop (k + 1))) (c + (w.drop (k + 1)).length) (pw_r (w.getD k 0) (pw_k c (w.drop (k + 1))))) _
          rw [hl]
          exact hF'
        · rw [edr, e17, en']
          show pw_sk _ _ ((c + (w.drop (k + 1)).length) :: (pw_k c (w.drop (k + 1))).drop (pw_ar (w.getD k 0)))
          rw [hl]
          exact pw_sk_push hsk har
      refine ⟨fun v => absurd v (nI_pos (by omega)), fun _ => ⟨vp_in_nI (by omega) (by decide), ?_⟩⟩
      rw [pn_clamp (by omega), hW k hkl]
      have top : ∀ j, j < m → Un (m - 1 - j) = nI ((pw_k c (w.drop (k + 1))).getD j 0) := hsk.2
      refine ps_hasLeft (s := w.getD k 0) (by omega) (fun v3 => ps_b0 ⟨vp_in_nI (by omega) (by decide), ?_⟩) (fun v3 => ps_b1 ⟨fun v => ?_, fun v y ey => ?_⟩)
      · rw [pn_clamp (by omega), hW k hkl]
        refine ps_hasRight (s := w.getD k 0) (by omega) (fun v5 => ps_b0 ?_) (fun v5 => by omega)
        have := put (-1) (-1) (fun q => by omega) (fun q => by omega)
        rw [pw_ar0 v3, Nat.sub_zero] at this
        exact this
      · exfalso
        have := (nI_leI (a := m) (b := 0) (by omega) (by decide)).mp v
        by_cases v5 : 5 ≤ w.getD k 0
        · rw [pw_ar2 v5] at har; omega
        · rw [pw_ar1 v3 (by omega)] at har; omega
      · have m1 : 1 ≤ m := by
          by_cases v5 : 5 ≤ w.getD k 0
          · rw [pw_ar2 v5] at har; omega
          · rw [pw_ar1 v3 (by omega)] at har; omega
        have ey' : y = nI (m - 1) := by rw [ey, pn_m1]; exact pk_sub (a := m) (b := 1) m1
        rw [ey']
        refine ⟨vp_in_nI (by omega) (by decide), fun x6 ex6 => ⟨vp_in_nI (by omega) (by decide), ?_⟩⟩
        rw [pn_clamp (by omega)] at ex6
        have t0 := top 0 (by omega)
        rw [Nat.sub_zero] at t0
        rw [t0] at ex6
        rw [pn_clamp (by omega), hW k hkl]
        refine ps_hasRight (s := w.getD k 0) (by omega) (fun v5 => ps_b0 ?_) (fun v5 => ps_b1 ⟨fun v' => ?_, fun v' y2 ey2 => ?_⟩)
        · have := put x6 (-1) (fun _ => ex6) (fun q => by omega)
          rw [pw_ar1 v3 v5] at this
          exact this
        · exfalso
          have := (nI_leI (a := m - 1) (b := 0) (by omega) (by decide)).mp v'
          rw [pw_ar2 v5] at har; omega
        · have m2 : 2 ≤ m := by rw [pw_ar2 v5] at har; exact har
          have ey2' : y2 = nI (m - 2) := by
            rw [ey2, pn_m1]
            exact pk_sub (a := m - 1) (b := 1) (by omega)
          rw [ey2']
          refine ⟨vp_in_nI (by omega) (by decide), fun x7 ex7 => ?_⟩
          rw [pn_clamp (by omega)] at ex7
          have t1 := top 1 (by omega)
          rw [show m - 1 - 1 = m - 2 by omega] at t1
          rw [t1] at ex7
          have := put x6 x7 (fun _ => ex6) (fun _ => ex7)
          rw [pw_ar2 v5] at this
          exact this
  have e0 : w.drop w.length = [] := List.drop_length
  intro x5 e5
  rw [e5]
  have := main w.length 0 (-1) Le Ri Si Sy Un zs (Nat.le_refl _) (by rw [e0]; rfl) (fun q => by omega) (by rw [e0, Nat.sub_self]; exact hF) (by rw [e0]; exact ⟨rfl, fun j hj => by omega⟩)
  rw [Nat.sub_self] at this
  exact ⟨_, this⟩
theorem ps_witR {Go To Le Ri Sy Sk Ln Tr Wr : Nat → Int32} {c n p : Nat} {sy le ri : Nat → Nat} {w : List Nat} (hp : p < 256) (hd : pw_d w n) (h8 : ∀ k, k < w.length → w.getD k 0 < 8) (h1 : 1 ≤ w.length) (h32 : w.length ≤ 32) (hroom : c + w.length ≤ 200) (hW : ∀ k, k < w.length → Wr (32 * p + k) = nI (w.getD k 0)) (hF : iv_FR (nI c) Le Ri Sy c sy le ri)
    {Q : Int32 → Int32 → (Nat → Int32) → (Nat → Int32) → (Nat → Int32) → (Nat → Int32) → (Nat → Int32) → (Nat → Int32) → (Nat → Int32) → Prop}
    (hQ : ∀ Le' Ri' Sy' Sk', iv_FR (nI (c + w.length)) Le' Ri' Sy' (c + w.length) (pw_f pw_s c sy w) (pw_f pw_l c le w) (pw_f pw_r c ri w) → Q (nI (c + w.length - 1)) (nI (c + w.length)) Le' Ln Ri' Sk' Sy' Tr Wr) :
    ∃ N : Nat, lp_X6_witness_74 Go To Q N (nI c) Le Ln Ri Sk Sy Tr Wr (nI p) 0 0 (nI w.length - 1) := by
  have main : ∀ (k m : Nat) (x4 : Int32) (Le Ri Sy Sk : Nat → Int32), k ≤ w.length → pw_d (w.drop k) m → (k < w.length → x4 = nI (c + (w.length - k) - 1)) → iv_FR (nI (c + (w.length - k))) Le Ri Sy (c + (w.length - k)) (pw_f pw_s c sy (w.drop k)) (pw_f pw_l c le (w.drop k)) (pw_f pw_r c ri (w.drop k)) → pw_sk Sk m (pw_k c (w.drop k)) → lp_X6_witness_74 Go To Q (k + 1) (nI (c + (w.length - k))) Le Ln Ri Sk Sy Tr Wr (nI p) (nI m) x4 (nI k - 1) := by
    intro k
    induction k with
    | zero =>
      intro m x4 Le Ri Sy Sk hk hm e4 hF hsk
      refine ⟨fun _ => ?_, fun w => absurd (by decide) w⟩
      rw [e4 (by omega)]
      exact hQ _ _ _ _ hF
    | succ k ih =>
      intro m x4 Le Ri Sy Sk hk hm e4 hF hsk
      have hkl : k < w.length := by omega
      have s8 := h8 k hkl
      have edr := pw_dr hkl
      obtain ⟨n', hn'⟩ := pw_d_drop w n hd k
      rw [edr] at hn'
      obtain ⟨m', hm', har, en'⟩ := hn'
      have emm := pw_d_fun _ _ _ hm hm'
      subst emm
      have ek : nI (k + 1) - 1 = nI k := nI_pred k
      have hmle := pw_d_le _ _ hm
      rw [List.length_drop] at hmle
      obtain ⟨ko1, ko2⟩ := pw_k_ok c _ _ hm
      rw [List.length_drop] at ko2
      have hx : (32 : Int32) * nI p + nI k = nI (32 * p + k) := by
        have : (32 : Int32) * nI p = nI (32 * p) := pk_mul (a := 32) (b := p)
        rw [this, nI_add]
      rw [ek]
      refine ⟨fun v => absurd v (nI_pos (by omega)), fun _ => ?_⟩
      rw [hx]
      refine ⟨vp_in_nI (by omega) (by decide), fun x6 ex6 => ?_⟩
      rw [pn_clamp (by omega), hW k hkl] at ex6
      rw [ex6]
      have put : ∀ (x8 z0 x7 : Int32), (3 ≤ w.getD k 0 → x8 = nI ((pw_k c (w.drop (k + 1))).getD 0 0)) → (5 ≤ w.getD k 0 → z0 = nI ((pw_k c (w.drop (k + 1))).getD 1 0)) → nI m - x7 = nI (m - pw_ar (w.getD k 0)) → wp_X6_witness_137 Go To (lp_X6_witness_74 Go To Q (k + 1)) Q (nI (c + (w.length - (k + 1)))) Le Ln Ri Sk Sy Tr Wr z0 (nI p) (nI m) (nI k) (nI (w.getD k 0)) x7 x8 := by
        intro x8 z0 x7 e8 ez e7 y3 ey3
        rw [e7] at ey3
        rw [ey3]
        have hnd := pw_nd har ko2 e8 ez
        refine ps_nodeR (by omega) (nI (w.getD k 0)) x8 z0 (fun q => absurd rfl (q _ s8)) (fun S hS eS q => ?_) (fun S l r hS eS q e200 => by omega) (fun S l r hS eS q _ Le' Ri' Sy' q1 q2 q3 => ⟨vp_in_nI (by omega) (by decide), fun f27 e27 y28 ey28 y29 ey29 => ?_⟩)
        · have eS' := (nI_eq (by omega) (by omega)).mp eS
          subst eS'
          exact absurd hnd (q _ _)
        · have eS' := (nI_eq (by omega) (by omega)).mp eS
          subst eS'
          obtain ⟨el, er⟩ := nd_ok_inj (by omega) q hnd
          subst el; subst er
          rw [pn_clamp (by omega)] at e27
          rw [ey28, nI_1, ey29, pn_m1, ← en']
          have hF' := iv_FR_add (S := w.getD k 0) (l := pw_l (w.getD k 0) (pw_k c (w.drop (k + 1)))) (r := pw_r (w.getD k 0) (pw_k c (w.drop (k + 1)))) hF
          rw [← q1, ← q2, ← q3] at hF'
          have ec : c + (w.length - (k + 1)) + 1 = c + (w.length - k) := by omega
          have hl : (w.drop (k + 1)).length = w.length - (k + 1) := List.length_drop
          rw [ec] at hF' ⊢
          refine ih n' _ Le' Ri' Sy' f27 (by omega) ?_ (fun _ => ?_) ?_ ?_
          · rw [edr]
            exact ⟨m, hm, har, en'⟩
          · congr 1
            omega
          · rw [edr]
            show iv_FR _ _ _ _ _ (pm_up (pw_f pw_s c sy (w.drop (k + 1))) (c + (w.drop (k + 1)).length) (pw_s (w.getD k 0) (pw_k c (w.drop (k + 1))))) (pm_up (pw_f pw_l c le (w.drop (k + 1))) (c + (w.drop (k + 1)).length) (pw_l (w.getD k 0) (pw_k c (w.drop (k + 1))))) (pm_up (pw_f pw_r c ri (w.drop (k + 1))) (c + (w.drop (k + 1)).length) (pw_r (w.getD k 0) (pw_k c (w.drop (k + 1)))))
            rw [hl]
            exact hF'
          · rw [edr, e27, en']
            show pw_sk _ _ ((c + (w.drop (k + 1)).length) :: (pw_k c (w.drop (k + 1))).drop (pw_ar (w.getD k 0)))
            rw [hl]
            exact pw_sk_push hsk har
      have top : ∀ j, j < m → Sk (m - 1 - j) = nI ((pw_k c (w.drop (k + 1))).getD j 0) := hsk.2
      refine ps_children (s := w.getD k 0) (by omega) (fun v3 => ⟨fun _ => ⟨fun _ => ?_, fun v => absurd (by decide) v⟩, fun v => absurd (by decide) v⟩) (fun v3 v5 => ⟨fun v => absurd v (by decide), fun _ => ?_⟩) (fun v5 => ⟨fun v => absurd v (by decide), fun _ => ?_⟩)
      · refine put 0 0 0 (fun q => by omega) (fun q => by omega) ?_
        rw [pw_ar0 v3]
        exact pk_sub (a := m) (b := 0) (by omega)
      · have m1 : 1 ≤ m := by rw [pw_ar1 v3 v5] at har; exact har
        have em : nI m - 1 = nI (m - 1) := pk_sub (a := m) (b := 1) m1
        rw [em]
        refine ⟨vp_in_nI (by omega) (by decide), fun _ => ?_, fun v => absurd (by decide) v⟩
        rw [pn_clamp (by omega)]
        have t0 := top 0 (by omega)
        rw [Nat.sub_zero] at t0
        rw [t0]
        refine put _ 0 1 (fun _ => rfl) (fun q => by omega) ?_
        rw [pw_ar1 v3 v5]; exact em
      · have m2 : 2 ≤ m := by rw [pw_ar2 v5] at har; exact har
        have em : nI m - 1 = nI (m - 1) := pk_sub (a := m) (b := 1) (by omega)
        have em2 : nI m - 2 = nI (m - 2) := pk_sub (a := m) (b := 2) m2
        rw [em]
        refine ⟨vp_in_nI (by omega) (by decide), fun v => absurd v (by decide), fun _ => ?_⟩
        rw [em2]
        refine ⟨vp_in_nI (by omega) (by decide), ?_⟩
        rw [pn_clamp (by omega), pn_clamp (by omega)]
        have t0 := top 0 (by omega)
        rw [Nat.sub_zero] at t0
        have t1 := top 1 (by omega)
        rw [show m - 1 - 1 = m - 2 by omega] at t1
        rw [t0, t1]
        refine put _ _ 2 (fun _ => rfl) (fun _ => rfl) ?_
        rw [pw_ar2 v5]; exact em2
  have e0 : w.drop w.length = [] := List.drop_length
  have := main w.length 0 0 Le Ri Sy Sk (Nat.le_refl _) (by rw [e0]; rfl) (fun q => by omega) (by rw [e0, Nat.sub_self]; exact hF) (by rw [e0]; exact ⟨rfl, fun j hj => by omega⟩)
  rw [Nat.sub_self] at this
  exact ⟨_, this⟩
