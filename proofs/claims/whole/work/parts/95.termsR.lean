/-! the reference's numbers of terms -/
def rc_up (M M' : Nat → Int32) (m : Nat) (g : Nat → Int32) : Prop := (∀ p k, p < 256 → k < 13 → k ≠ m → M' (13 * p + k) = M (13 * p + k)) ∧ ∀ q, q < 256 → M' (13 * q + m) = M (13 * q + m) + g q
theorem rc_tr {A B C : Nat → Int32} {m : Nat} {g h : Nat → Int32} (a : rc_up A B m g) (b : rc_up B C m h) : rc_up A C m (fun q => g q + h q) :=
  ⟨fun p k hp hk hne => by rw [b.1 p k hp hk hne, a.1 p k hp hk hne], fun q hq => by rw [b.2 q hq, a.2 q hq, Int32.add_assoc]⟩
theorem rc_eq {A B : Nat → Int32} {m : Nat} {g h : Nat → Int32} (a : rc_up A B m g) (e : ∀ q, q < 256 → g q = h q) : rc_up A B m h :=
  ⟨a.1, fun q hq => by rw [a.2 q hq, e q hq]⟩
theorem rc_rf {A : Nat → Int32} {m : Nat} {g : Nat → Int32} (h : ∀ q, q < 256 → g q = 0) : rc_up A A m g := ⟨fun _ _ _ _ _ => rfl, fun q hq => by rw [h q hq, Int32.add_zero]⟩
theorem rc_one {A : Nat → Int32} {m a : Nat} {v : Int32} (hm : m < 13) : rc_up A (upd A (13 * a + m) (A (13 * a + m) + v)) m (fun q => pm_dl a q v) := by
  refine ⟨fun p k hp hk hne => pk_un (by omega), fun q hq => ?_⟩
  show _ = A (13 * q + m) + (if a = q then v else 0)
  by_cases e : a = q
  · subst e
    rw [pk_us, if_pos rfl]
  · rw [pk_un (by omega), if_neg e, Int32.add_zero]
def rf_j (pf : Nat → Nat → Nat → Nat) (T : Nat → Nat → Int32) (m s l q j : Nat) : Int32 := pm_s (fun r => pm_dl (pf s l r) q (T (1 + j) l * T (m - 1 - 1 - j) r)) 256
def rf_l (pf : Nat → Nat → Nat → Nat) (T : Nat → Nat → Int32) (m s q l : Nat) : Int32 := if s < 5 then pm_dl (pf s l 17) q (T (m - 1) l) else pm_s (rf_j pf T m s l q) (m - 1 - 1)
def rf_s (pf : Nat → Nat → Nat → Nat) (T : Nat → Nat → Int32) (m q s : Nat) : Int32 := if s < 3 then (if m = 1 then pm_dl (pf s 17 17) q 1 else 0) else pm_s (rf_l pf T m s q) 256
theorem pm_s_split (f : Nat → Int32) (a : Nat) : ∀ b, pm_s f (a + b) = pm_s f a + pm_s (fun i => f (a + i)) b
  | 0 => (Int32.add_zero _).symm
  | b + 1 => by
    show pm_s f (a + b) + f (a + b) = pm_s f a + (pm_s (fun i => f (a + i)) b + f (a + b))
    rw [pm_s_split f a b, Int32.add_assoc]
theorem rf_sum {pf : Nat → Nat → Nat → Nat} {T : Nat → Nat → Int32} {m q : Nat} (hm : 1 ≤ m) (h0 : ∀ p, p < 256 → T 0 p = 0) : pm_s (rf_s pf T m q) 8 = pm_nu pf T m q := by
  have e1 : pm_s (rf_s pf T m q) 8 = pm_s (rf_s pf T m q) 5 + pm_s (fun i => rf_s pf T m q (5 + i)) 3 := pm_s_split (rf_s pf T m q) 5 3
  have e2 : pm_s (rf_s pf T m q) 5 = pm_s (rf_s pf T m q) 3 + pm_s (fun i => rf_s pf T m q (3 + i)) 2 := pm_s_split (rf_s pf T m q) 3 2
  have u1 : ∀ s, s < 2 → rf_s pf T m q (3 + s) = pm_s (fun l => pm_dl (pf (3 + s) l 17) q (T (m - 1) l)) 256 := by
    intro s hs
    unfold rf_s
    rw [if_neg (by omega)]
    refine pm_s_congr 256 (fun l _ => ?_)
    unfold rf_l
    rw [if_pos (by omega)]
  have u2 : ∀ s, s < 3 → rf_s pf T m q (5 + s) = pm_s (fun l => pm_s (fun r => pm_dl (pf (5 + s) l r) q (pm_cp T l r (m - 1))) 256) 256 := by
    intro s hs
    unfold rf_s
    rw [if_neg (by omega)]
    refine pm_s_congr 256 (fun l _ => ?_)
    unfold rf_l
    rw [if_neg (by omega)]
    show pm_s (fun j => pm_s (fun r => pm_dl (pf (5 + s) l r) q (T (1 + j) l * T (m - 1 - 1 - j) r)) 256) (m - 1 - 1) = _
    rw [pm_s_swap (fun j r => pm_dl (pf (5 + s) l r) q (T (1 + j) l * T (m - 1 - 1 - j) r)) 256 (m - 1 - 1)]
    refine pm_s_congr 256 (fun r _ => ?_)
    exact pm_s_dl (fun j => T (1 + j) l * T (m - 1 - 1 - j) r) (m - 1 - 1)
  rw [e1, e2, pm_s_congr 2 u1, pm_s_congr 3 u2]
  unfold pm_nu
  by_cases e : m = 1
  · rw [if_pos e]
    subst e
    have v1 : pm_s (fun s => pm_s (fun l => pm_dl (pf (3 + s) l 17) q (T (1 - 1) l)) 256) 2 = 0 := pm_s_0 2 (fun s _ => pm_s_0 256 (fun l hl => by
      rw [show (1 - 1 : Nat) = 0 from rfl, h0 l hl]; exact pm_dl0))
    have v2 : pm_s (fun s => pm_s (fun l => pm_s (fun r => pm_dl (pf (5 + s) l r) q (pm_cp T l r (1 - 1))) 256) 256) 3 = 0 := pm_s_0 3 (fun s _ => pm_s_0 256 (fun l hl => pm_s_0 256 (fun r _ => by
      have : pm_cp T l r (1 - 1) = 0 := rfl
      rw [this]; exact pm_dl0)))
    have v0 : pm_s (rf_s pf T 1 q) 3 = pm_s (fun s => pm_dl (pf s 17 17) q 1) 3 := pm_s_congr 3 (fun s hs => by
      unfold rf_s
      rw [if_pos hs, if_pos rfl])
    rw [v0, v1, v2, Int32.add_zero, Int32.add_zero]
  · rw [if_neg e]
    have v0 : pm_s (rf_s pf T m q) 3 = 0 := pm_s_0 3 (fun s hs => by
      unfold rf_s
      rw [if_pos hs, if_neg e])
    rw [v0, Int32.zero_add, pm_s_swap (fun s l => pm_dl (pf (3 + s) l 17) q (T (m - 1) l)) 256 2, pm_s_swap (fun s l => pm_s (fun r => pm_dl (pf (5 + s) l r) q (pm_cp T l r (m - 1))) 256) 256 3, ← pm_s_add]
    refine pm_s_congr 256 (fun l _ => ?_)
    unfold pm_nl
    rw [pm_s_swap (fun s r => pm_dl (pf (5 + s) l r) q (pm_cp T l r (m - 1))) 256 3]
theorem ps_pairs {Co : Int32} {To M : Nat → Int32} {T : Nat → Nat → Int32} {t0 t1 : Nat → Nat} {s l i m : Nat} (h0 : ∀ k, t0 k < 16) (h1 : ∀ k, t1 k < 16) (hTo : iv_to To t0 t1) (hs : s < 8) (hl : l < 256) (hi : 1 ≤ i) (him : i + 1 < m) (hm : m ≤ 12) (hT : ∀ k p, k < 13 → k ≠ m → p < 256 → M (13 * p + k) = T k p)
    {Q : (Nat → Int32) → Prop} (hQ : ∀ M', rc_up M M' m (fun q => pm_s (fun r => pm_dl (pm_pf t0 t1 s l r) q (T i l * T (m - 1 - i) r)) 256) → Q M') :
    wp_X6_pairs Co M To (nI s) (nI l) (nI i) (nI m) Q := by
  have main : ∀ (d r : Nat) (N : Nat → Int32), r + d = 256 → rc_up M N m (fun q => pm_s (fun r => pm_dl (pm_pf t0 t1 s l r) q (T i l * T (m - 1 - i) r)) r) → lp_X6_pairs_3 Co To Q (d + 1) N (nI s) (nI l) (nI i) (nI m) (nI r) := by
    intro d
    induction d with
    | zero =>
      intro r N e hN
      refine ⟨fun _ => hQ N ?_, fun w => absurd ((nI_leI (a := 256) (b := r) (by decide) (by omega)).mpr (by omega)) w⟩
      rw [show 256 = r by omega]
      exact hN
    | succ d ih =>
      intro r N e hN
      refine ⟨fun w => absurd ((nI_leI (a := 256) (b := r) (by decide) (by omega)).mp w) (by omega), fun _ => ?_⟩
      have hp := pm_pf_lt h0 h1 s l r
      have x1 : (13 : Int32) * nI r = nI (13 * r) := pk_mul 13 r
      have x2 : nI (13 * r + m) - 1 = nI (13 * r + m - 1) := pk_sub (a := 13 * r + m) (b := 1) (by omega)
      rw [x1, nI_add, x2, pk_sub (by omega), show 13 * r + m - 1 - i = 13 * r + (m - 1 - i) by omega]
      refine ⟨vp_in_nI (by omega) (by decide), fun c ec => ?_⟩
      rw [pn_clamp (by omega), hN.1 r (m - 1 - i) (by omega) (by omega) (by omega), hT _ _ (by omega) (by omega) (by omega)] at ec
      rw [ec]
      refine ⟨fun w y ey => ?_, fun w => ps_profile hTo hs hl (by omega) ?_⟩
      · rw [ey, nI_1]
        refine ih (r + 1) N (by omega) (rc_eq hN (fun q _ => ?_))
        show _ = pm_s (fun r => pm_dl (pm_pf t0 t1 s l r) q (T i l * T (m - 1 - i) r)) r + pm_dl (pm_pf t0 t1 s l r) q (T i l * T (m - 1 - i) r)
        rw [w, Int32.mul_zero, pm_dl0, Int32.add_zero]
      · have y1 : (13 : Int32) * nI (pm_pf t0 t1 s l r) = nI (13 * pm_pf t0 t1 s l r) := pk_mul 13 _
        have y2 : (13 : Int32) * nI l = nI (13 * l) := pk_mul 13 _
        rw [y1, y2, nI_add, nI_add]
        refine ⟨vp_in_nI (by omega) (by decide), vp_in_nI (by omega) (by decide), vp_in_nI (by omega) (by decide), fun N' eN y ey => ?_⟩
        rw [pn_clamp (by omega), pn_clamp (by omega), hN.1 l i hl (by omega) (by omega), hT i l (by omega) (by omega) hl] at eN
        rw [ey, nI_1]
        exact ih (r + 1) N' (by omega) (rc_tr hN (by rw [eN]; exact rc_one (by omega)))
  unfold wp_X6_pairs wp_X6_pairs_in
  exact ⟨_, main 256 0 M (by omega) (rc_rf (fun q _ => rfl))⟩
theorem ps_t164 {Co x1 x2 : Int32} {Go To M0 : Nat → Int32} {T : Nat → Nat → Int32} {t0 t1 : Nat → Nat} {s l m : Nat} (h0 : ∀ k, t0 k < 16) (h1 : ∀ k, t1 k < 16) (hTo : iv_to To t0 t1) (h5 : 5 ≤ s) (hs : s < 8) (hl : l < 256) (hm1 : 1 ≤ m) (hm : m ≤ 12) (hT : ∀ k p, k < 13 → k ≠ m → p < 256 → M0 (13 * p + k) = T k p)
    {K46 : (Nat → Int32) → Int32 → Int32 → Int32 → Prop} {K54 : (Nat → Int32) → Int32 → Int32 → Int32 → Int32 → Prop} {K105 : (Nat → Int32) → Int32 → Int32 → Int32 → Int32 → Int32 → Int32 → Prop} {Q : Int32 → (Nat → Int32) → Prop}
    (hK : ∀ M', rc_up M0 M' m (fun q => rf_l (pm_pf t0 t1) T m s q l) → K105 M' x1 x2 (nI m) (nI s) 2 (nI (l + 1))) :
    ∀ (d i : Nat) (M : Nat → Int32), m - 1 ≤ i + d → i - 1 ≤ m - 1 - 1 → 1 ≤ i → i ≤ 20 → rc_up M0 M m (fun q => pm_s (rf_j (pm_pf t0 t1) T m s l q) (i - 1)) → lp_X6_terms_164 Co Go To K46 K54 K105 Q (d + 1) M x1 x2 (nI m) (nI s) 2 (nI l) (nI i) := by
  have em : nI m - 1 = nI (m - 1) := pk_sub (a := m) (b := 1) hm1
  have fin : ∀ (i : Nat) (M : Nat → Int32), m - 1 ≤ i → i - 1 ≤ m - 1 - 1 → 1 ≤ i → rc_up M0 M m (fun q => pm_s (rf_j (pm_pf t0 t1) T m s l q) (i - 1)) → ∀ x, x = nI l + 1 → K105 M x1 x2 (nI m) (nI s) 2 x := by
    intro i M q1 q2 q3 hM x ex
    rw [ex, nI_1]
    refine hK M (rc_eq hM (fun q _ => ?_))
    unfold rf_l
    rw [if_neg (by omega), show i - 1 = m - 1 - 1 by omega]
  intro d
  induction d with
  | zero =>
    intro i M q1 q2 q3 q4 hM
    refine ⟨fun _ => fin i M (by omega) q2 q3 hM, fun w => ?_⟩
    rw [em] at w
    exact absurd (nI_le (by omega) (by omega)) w
  | succ d ih =>
    intro i M q1 q2 q3 q4 hM
    refine ⟨fun w => ?_, fun w => ⟨fun _ => ?_, fun w2 => absurd rfl w2⟩⟩
    · rw [em] at w
      exact fin i M ((nI_leI (by omega) (by omega)).mp w) q2 q3 hM
    · rw [em] at w
      have hlt := (pn_ge (by omega) (by omega)).mp w
      have y2 : (13 : Int32) * nI l = nI (13 * l) := pk_mul 13 _
      rw [y2, nI_add]
      refine ⟨vp_in_nI (by omega) (by decide), ?_⟩
      rw [pn_clamp (by omega), hM.1 l i hl (by omega) (by omega), hT i l (by omega) (by omega) hl]
      have ej : ∀ q, rf_j (pm_pf t0 t1) T m s l q (i - 1) = pm_s (fun r => pm_dl (pm_pf t0 t1 s l r) q (T i l * T (m - 1 - i) r)) 256 := by
        intro q
        unfold rf_j
        rw [show 1 + (i - 1) = i by omega, show m - 1 - 1 - (i - 1) = m - 1 - i by omega]
      have es : ∀ q, pm_s (rf_j (pm_pf t0 t1) T m s l q) (i + 1 - 1) = pm_s (rf_j (pm_pf t0 t1) T m s l q) (i - 1) + pm_s (fun r => pm_dl (pm_pf t0 t1 s l r) q (T i l * T (m - 1 - i) r)) 256 := by
        intro q
        rw [show i + 1 - 1 = (i - 1) + 1 by omega, ← ej q]
        rfl
      refine ⟨fun w0 y ey => ?_, fun w0 => ps_pairs (T := T) h0 h1 hTo hs hl q3 (by omega) hm (fun k p a b c => ?_) (fun M' hM' y ey => ?_)⟩
      · rw [ey, nI_1]
        refine ih (i + 1) M (by omega) (by omega) (by omega) (by omega) (rc_eq hM (fun q _ => ?_))
        rw [es q, pm_s_0 256 (fun r _ => by rw [w0, Int32.zero_mul]; exact pm_dl0), Int32.add_zero]
      · rw [hM.1 p k c a b]
        exact hT k p a b c
      · rw [ey, nI_1]
        refine ih (i + 1) M' (by omega) (by omega) (by omega) (by omega) (rc_eq (rc_tr hM hM') (fun q _ => ?_))
        rw [es q]
theorem ps_t105 {Co x1 x2 : Int32} {Go To M0 : Nat → Int32} {T : Nat → Nat → Int32} {t0 t1 : Nat → Nat} {s m : Nat} (h0 : ∀ k, t0 k < 16) (h1 : ∀ k, t1 k < 16) (hTo : iv_to To t0 t1) (h3 : 3 ≤ s) (hs : s < 8) (hm1 : 1 ≤ m) (hm : m ≤ 12) (hT : ∀ k p, k < 13 → k ≠ m → p < 256 → M0 (13 * p + k) = T k p)
    {K46 : (Nat → Int32) → Int32 → Int32 → Int32 → Prop} {K54 : (Nat → Int32) → Int32 → Int32 → Int32 → Int32 → Prop} {Q : Int32 → (Nat → Int32) → Prop}
    (hK : ∀ M', rc_up M0 M' m (fun q => rf_s (pm_pf t0 t1) T m q s) → K54 M' x1 x2 (nI m) (nI (s + 1))) :
    ∀ (d l : Nat) (M : Nat → Int32), l + d = 256 → rc_up M0 M m (fun q => pm_s (rf_l (pm_pf t0 t1) T m s q) l) → (s < 5 → lp_X6_terms_105 Co Go To K46 K54 Q (d + 1) M x1 x2 (nI m) (nI s) 1 (nI l)) ∧ (5 ≤ s → lp_X6_terms_105 Co Go To K46 K54 Q (d + 1) M x1 x2 (nI m) (nI s) 2 (nI l)) := by
  intro d
  induction d with
  | zero =>
    intro l M e hM
    have fin : ∀ x, x = nI s + 1 → K54 M x1 x2 (nI m) x := by
      intro x ex
      rw [ex, nI_1]
      refine hK M (rc_eq hM (fun q _ => ?_))
      unfold rf_s
      rw [if_neg (by omega), show l = 256 by omega]
    exact ⟨fun _ => ⟨fun _ => fin, fun w => absurd ((nI_leI (a := 256) (b := l) (by decide) (by omega)).mpr (by omega)) w⟩, fun _ => ⟨fun _ => fin, fun w => absurd ((nI_leI (a := 256) (b := l) (by decide) (by omega)).mpr (by omega)) w⟩⟩
  | succ d ih =>
    intro l M e hM
    have hl : l < 256 := by omega
    have nx : ∀ M', rc_up M M' m (fun q => rf_l (pm_pf t0 t1) T m s q l) → (s < 5 → lp_X6_terms_105 Co Go To K46 K54 Q (d + 1) M' x1 x2 (nI m) (nI s) 1 (nI (l + 1))) ∧ (5 ≤ s → lp_X6_terms_105 Co Go To K46 K54 Q (d + 1) M' x1 x2 (nI m) (nI s) 2 (nI (l + 1))) := by
      intro M' hM'
      exact ih (l + 1) M' (by omega) (rc_tr hM hM')
    have hT' : ∀ k p, k < 13 → k ≠ m → p < 256 → M (13 * p + k) = T k p := fun k p a b c => by rw [hM.1 p k c a b]; exact hT k p a b c
    refine ⟨fun v5 => ⟨fun w => absurd ((nI_leI (a := 256) (b := l) (by decide) (by omega)).mp w) (by omega), fun _ => ⟨fun w => absurd w (by decide), fun _ => ⟨fun _ => ps_profile hTo hs hl (by decide) ?_, fun w => absurd rfl w⟩⟩⟩, fun v5 => ⟨fun w => absurd ((nI_leI (a := 256) (b := l) (by decide) (by omega)).mp w) (by omega), fun _ => ⟨fun w => absurd w (by decide), fun _ => ⟨fun w => absurd w (by decide), fun _ => ?_⟩⟩⟩⟩
    · have hp := pm_pf_lt h0 h1 s l 17
      have y1 : (13 : Int32) * nI (pm_pf t0 t1 s l 17) = nI (13 * pm_pf t0 t1 s l 17) := pk_mul 13 _
      have y2 : (13 : Int32) * nI l = nI (13 * l) := pk_mul 13 _
      have y3 : nI (13 * l + m) - 1 = nI (13 * l + m - 1) := pk_sub (a := 13 * l + m) (b := 1) (by omega)
      rw [y1, y2, nI_add, nI_add, y3, show 13 * l + m - 1 = 13 * l + (m - 1) by omega]
      refine ⟨vp_in_nI (by omega) (by decide), vp_in_nI (by omega) (by decide), vp_in_nI (by omega) (by decide), fun M' eM => ?_⟩
      rw [pn_clamp (by omega), pn_clamp (by omega), hT' (m - 1) l (by omega) (by omega) hl] at eM
      have hM' : rc_up M M' m (fun q => rf_l (pm_pf t0 t1) T m s q l) := by
        refine rc_eq (g := fun q => pm_dl (pm_pf t0 t1 s l 17) q (T (m - 1) l)) (by rw [eM]; exact rc_one (by omega)) (fun q _ => ?_)
        unfold rf_l
        rw [if_pos v5]
      have go := (nx M' hM').1 v5
      refine ⟨1, fun _ y ey => ?_, fun _ => ⟨fun w => absurd w (by decide), fun _ y ey => ?_⟩⟩
      · rw [ey, nI_1]; exact go
      · rw [ey, nI_1]; exact go
    · exact ⟨_, ps_t164 (T := T) h0 h1 hTo v5 hs hl hm1 hm hT' (fun M' hM' => (nx M' hM').2 v5) m 1 M (by omega) (by omega) (by omega) (by omega) (rc_rf (fun q _ => rfl))⟩
theorem ps_t54 {Co x1 x2 : Int32} {Go To M0 : Nat → Int32} {T : Nat → Nat → Int32} {t0 t1 : Nat → Nat} {m : Nat} (h0 : ∀ k, t0 k < 16) (h1 : ∀ k, t1 k < 16) (hTo : iv_to To t0 t1) (hm1 : 1 ≤ m) (hm : m ≤ 12) (hT : ∀ k p, k < 13 → k ≠ m → p < 256 → M0 (13 * p + k) = T k p)
    {K46 : (Nat → Int32) → Int32 → Int32 → Int32 → Prop} {Q : Int32 → (Nat → Int32) → Prop}
    (hK : ∀ M', rc_up M0 M' m (fun q => pm_s (rf_s (pm_pf t0 t1) T m q) 8) → K46 M' x1 x2 (nI (m + 1))) :
    ∀ (d s : Nat) (M : Nat → Int32), s + d = 8 → rc_up M0 M m (fun q => pm_s (rf_s (pm_pf t0 t1) T m q) s) → lp_X6_terms_54 Co Go To K46 Q (d + 1) M x1 x2 (nI m) (nI s) := by
  intro d
  induction d with
  | zero =>
    intro s M e hM
    refine ⟨fun _ y ey => ?_, fun w => absurd ((nI_leI (a := 8) (b := s) (by decide) (by omega)).mpr (by omega)) w⟩
    rw [ey, nI_1]
    refine hK M ?_
    rw [show 8 = s by omega]
    exact hM
  | succ d ih =>
    intro s M e hM
    have nx : ∀ M', rc_up M M' m (fun q => rf_s (pm_pf t0 t1) T m q s) → lp_X6_terms_54 Co Go To K46 Q (d + 1) M' x1 x2 (nI m) (nI (s + 1)) := fun M' hM' => ih (s + 1) M' (by omega) (rc_tr hM hM')
    have hT' : ∀ k p, k < 13 → k ≠ m → p < 256 → M (13 * p + k) = T k p := fun k p a b c => by rw [hM.1 p k c a b]; exact hT k p a b c
    have zero : ∀ M', rc_up M M' m (fun q => rf_s (pm_pf t0 t1) T m q s) → lp_X6_terms_105 Co Go To K46 (lp_X6_terms_54 Co Go To K46 Q (d + 1)) Q 1 M' x1 x2 (nI m) (nI s) 0 0 := by
      intro M' hM'
      refine ⟨fun w => absurd w (by decide), fun _ => ⟨fun _ y ey => ?_, fun w => absurd (by decide) w⟩⟩
      rw [ey, nI_1]
      exact nx M' hM'
    refine ⟨fun w => absurd ((nI_leI (a := 8) (b := s) (by decide) (by omega)).mp w) (by omega), fun _ => ps_children (s := s) (by omega) (fun v3 => ps_b0 ⟨fun w => ps_profile hTo (by omega) (by decide) (by decide) ?_, fun w => ⟨1, zero M (rc_rf (fun q _ => ?_))⟩⟩) (fun v3 v5 => ⟨fun w => absurd w (by decide), fun _ => ⟨_, (ps_t105 (T := T) h0 h1 hTo v3 (by omega) hm1 hm hT' nx 256 0 M (by omega) (rc_rf (fun q _ => rfl))).1 v5⟩⟩) (fun v5 => ⟨fun w => absurd w (by decide), fun _ => ⟨_, (ps_t105 (T := T) h0 h1 hTo (by omega) (by omega) hm1 hm hT' nx 256 0 M (by omega) (rc_rf (fun q _ => rfl))).2 v5⟩⟩)⟩
    · have m1 : m = 1 := (nI_eq (a := m) (b := 1) (by omega) (by decide)).mp w
      have hp := pm_pf_lt h0 h1 s 17 17
      have y1 : (13 : Int32) * nI (pm_pf t0 t1 s 17 17) = nI (13 * pm_pf t0 t1 s 17 17) := pk_mul 13 _
      rw [y1, nI_1]
      refine ⟨vp_in_nI (by omega) (by decide), vp_in_nI (by omega) (by decide), fun M' eM => ⟨1, zero M' ?_⟩⟩
      rw [pn_clamp (by omega)] at eM
      refine rc_eq (g := fun q => pm_dl (pm_pf t0 t1 s 17 17) q 1) (by rw [eM, m1]; exact rc_one (by omega)) (fun q _ => ?_)
      unfold rf_s
      rw [if_pos v3, if_pos m1]
    · have m1 : m ≠ 1 := fun q => w (by rw [q]; rfl)
      unfold rf_s
      rw [if_pos v3, if_neg m1]
theorem ps_termsR {Co : Int32} {Go To Mn : Nat → Int32} {t0 t1 : Nat → Nat} {g0 g1 σ n : Nat} (h0 : ∀ k, t0 k < 16) (h1 : ∀ k, t1 k < 16) (hTo : iv_to To t0 t1) (e0 : Go 0 = nI g0) (e1 : Go 1 = nI g1) (hσ : σ < 16) (hn1 : 1 ≤ n) (hn : n ≤ 12) {Q : Int32 → (Nat → Int32) → Prop}
    (hQ : ∀ Mn' T, pm_gd (pm_pf t0 t1) T n → Q (pm_s (fun p => if σ.testBit (pm_pl g0 g1 p) = true then T n p else 0) 256) Mn') :
    ∃ N : Nat, lp_X6_terms_24 Co Go To Q N Mn (nI σ) (nI n) 0 := by
  -- the sum
  have sum : ∀ (M : Nat → Int32), pm_gd (pm_pf t0 t1) (fun k p => M (13 * p + k)) n → ∃ N : Nat, lp_X6_terms_234 Co Go To Q N M (nI σ) (nI n) 0 0 := by
    intro M hg
    have main : ∀ (d p : Nat), p + d = 256 → lp_X6_terms_234 Co Go To Q (d + 1) M (nI σ) (nI n) (pm_s (fun p => if σ.testBit (pm_pl g0 g1 p) = true then M (13 * p + n) else 0) p) (nI p) := by
      intro d
      induction d with
      | zero =>
        intro p e
        refine ⟨fun _ => ?_, fun w => absurd ((nI_leI (a := 256) (b := p) (by decide) (by omega)).mpr (by omega)) w⟩
        rw [show p = 256 by omega]
        exact hQ M (fun k p => M (13 * p + k)) hg
      | succ d ih =>
        intro p e
        have hp4 : pm_pl g0 g1 p < 4 := pm_pl_lt
        refine ⟨fun w => absurd ((nI_leI (a := 256) (b := p) (by decide) (by omega)).mp w) (by omega), fun _ => ps_placeOfR e0 e1 (by omega) ⟨fun w => ?_, fun w y ey => ?_⟩⟩
        · have w' := (pb_is (by omega) (by omega)).mp w
          have y2 : (13 : Int32) * nI p = nI (13 * p) := pk_mul 13 _
          rw [y2, nI_add]
          refine ⟨vp_in_nI (by omega) (by decide), fun y ey z ez => ?_⟩
          rw [pn_clamp (by omega)] at ey
          rw [ez, nI_1]
          have e' : y = pm_s (fun p => if σ.testBit (pm_pl g0 g1 p) = true then M (13 * p + n) else 0) (p + 1) := by
            show y = pm_s (fun p => if σ.testBit (pm_pl g0 g1 p) = true then M (13 * p + n) else 0) p + (if σ.testBit (pm_pl g0 g1 p) = true then M (13 * p + n) else 0)
            rw [ey, if_pos w']
          rw [e']
          exact ih (p + 1) (by omega)
        · have w' : ¬ σ.testBit (pm_pl g0 g1 p) = true := fun q => w ((pb_is (by omega) (by omega)).mpr q)
          rw [ey, nI_1]
          have e' : pm_s (fun p => if σ.testBit (pm_pl g0 g1 p) = true then M (13 * p + n) else 0) p = pm_s (fun p => if σ.testBit (pm_pl g0 g1 p) = true then M (13 * p + n) else 0) (p + 1) := by
            show _ = pm_s (fun p => if σ.testBit (pm_pl g0 g1 p) = true then M (13 * p + n) else 0) p + (if σ.testBit (pm_pl g0 g1 p) = true then M (13 * p + n) else 0)
            rw [if_neg w', Int32.add_zero]
          rw [e']
          exact ih (p + 1) (by omega)
    exact ⟨_, main 256 0 (by omega)⟩
  -- the sizes
  have sizes : ∀ (d m : Nat) (M : Nat → Int32), m + d = n + 1 → 1 ≤ m → pm_gd (pm_pf t0 t1) (fun k p => M (13 * p + k)) (m - 1) → (∀ p, p < 256 → M (13 * p + 0) = 0) → (∀ p k, p < 256 → m ≤ k → k < 13 → M (13 * p + k) = 0) → lp_X6_terms_46 Co Go To Q (d + 1) M (nI σ) (nI n) (nI m) := by
    intro d
    induction d with
    | zero =>
      intro m M e hm hg hz hk
      refine ⟨fun _ => sum M ?_, fun w => absurd (nI_lt (by omega) (by omega)) w⟩
      rw [show n = m - 1 by omega]
      exact hg
    | succ d ih =>
      intro m M e hm hg hz hk
      refine ⟨fun w => absurd w (nI_nlt (by omega) (by omega)), fun _ => ⟨_, ps_t54 (T := fun k p => M (13 * p + k)) h0 h1 hTo hm (by omega) (fun k p _ _ _ => rfl) (fun M' hM' => ?_) 8 0 M (by omega) (rc_rf (fun q _ => rfl))⟩⟩
      have same : ∀ k, k < 13 → k ≠ m → ∀ p, p < 256 → M (13 * p + k) = M' (13 * p + k) := fun k a b p hp => (hM'.1 p k hp a b).symm
      refine ih (m + 1) M' (by omega) (by omega) (fun k q1 q2 q hq => ?_) (fun p hp => ?_) (fun p k hp q1 q2 => ?_)
      · by_cases ek : k = m
        · subst ek
          show M' (13 * q + k) = _
          rw [hM'.2 q hq, hk q k hq (Nat.le_refl k) (by omega), Int32.zero_add]
          refine Eq.trans (rf_sum (T := fun k p => M (13 * p + k)) hm (fun p hp => hz p hp)) ?_
          exact pm_nu_congr hm (fun k' x1 x2 p hp => same k' (by omega) (by omega) p hp)
        · show M' (13 * q + k) = _
          rw [← same k (by omega) ek q hq]
          refine Eq.trans (hg k q1 (by omega) q hq) ?_
          exact pm_nu_congr q1 (fun k' x1 x2 p hp => same k' (by omega) (by omega) p hp)
      · rw [← same 0 (by omega) (by omega) p hp]
        exact hz p hp
      · rw [← same k (by omega) (by omega) p hp]
        exact hk p k hp (by omega) q2
  -- all is emptied
  have main : ∀ (d i : Nat) (M : Nat → Int32), i + d = 3328 → (∀ j, j < i → M j = 0) → lp_X6_terms_24 Co Go To Q (d + 1) M (nI σ) (nI n) (nI i) := by
    intro d
    induction d with
    | zero =>
      intro i M e hM
      refine ⟨fun _ => ⟨_, sizes n 1 M (by omega) (by omega) (fun k q1 q2 => by omega) (fun p hp => hM _ (by omega)) (fun p k hp _ hk => hM _ (by omega))⟩, fun w => absurd ((nI_leI (a := 3328) (b := i) (by decide) (by omega)).mpr (by omega)) w⟩
    | succ d ih =>
      intro i M e hM
      refine ⟨fun w => absurd ((nI_leI (a := 3328) (b := i) (by decide) (by omega)).mp w) (by omega), fun _ => ⟨vp_in_nI (by omega) (by decide), fun M' eM y ey => ?_⟩⟩
      rw [pn_clamp (by omega)] at eM
      rw [ey, nI_1]
      refine ih (i + 1) M' (by omega) (fun j hj => ?_)
      by_cases e2 : j = i
      · rw [eM, e2, pk_us]
      · rw [eM, pk_un e2]
        exact hM j (by omega)
  exact ⟨_, main 3328 0 Mn (by omega) (fun j hj => by omega)⟩
theorem po_terms {CCd LCo LKn Co MfGo MsGo : Int32} {CNu LBw LFo LLe LRa LRi LSi LSt LSy MfRe MfTa MsRe MsTa To Go Mn : Nat → Int32} {t0 t1 : Nat → Nat} {g0 g1 : Nat} (hR : iv_R MfRe MfTa MsRe MsTa To t0 t1) (hG : iv_G MfGo MsGo Go g0 g1) (hK : iv_K (pm_pf t0 t1) LCo LKn LFo LLe LRi LSi LSy) (hN : iv_N (pm_pf t0 t1) CCd CNu) (x1 x2 : Int32)
    {K : Int32 → Int32 → Int32 → (Nat → Int32) → Int32 → Int32 → (Nat → Int32) → (Nat → Int32) → (Nat → Int32) → (Nat → Int32) → (Nat → Int32) → (Nat → Int32) → (Nat → Int32) → (Nat → Int32) → (Nat → Int32) → Prop}
    (hQ : ∀ r CCd' CNu' LCo' LKn' LBw' LFo' LLe' LRa' LRi' LSi' LSt' LSy' Mn', iv_K (pm_pf t0 t1) LCo' LKn' LFo' LLe' LRi' LSi' LSy' → iv_N (pm_pf t0 t1) CCd' CNu' → K r r CCd' CNu' LCo' LKn' LBw' LFo' LLe' LRa' LRi' LSi' LSt' LSy' Mn') :
    wp_X5_terms CCd CNu LCo LKn LBw LFo LLe LRa LRi LSi LSt LSy MfGo MfRe MsGo MsRe x1 x2 (fun r a1 a2 a3 a4 a5 a6 a7 a8 a9 a10 a11 a12 => wp_X6_terms Co Go Mn To x1 x2 (fun r' b1 => K r r' a1 a2 a3 a4 a5 a6 a7 a8 a9 a10 a11 a12 b1)) := by
  obtain ⟨h0, h1, a0, b0, a1, b1, hT⟩ := id hR
  obtain ⟨rfl, rfl, e0, e1, l0, l1⟩ := id hG
  have neg : (∀ j, j < 16 → x1 ≠ nI j) ∨ x2 < 1 ∨ ¬ x2 ≤ 12 → wp_X6_terms Co Go Mn To x1 x2 (fun r' b1 => K (-1) r' CCd CNu LCo LKn LBw LFo LLe LRa LRi LSi LSt LSy b1) := by
    intro h
    unfold wp_X6_terms wp_X6_terms_in
    refine ps_within 16 15 x1 (by decide) (fun _ => ps_b0 (hQ _ _ _ _ _ _ _ _ _ _ _ _ _ _ hK hN)) (fun σ hσ ex => ps_b1 ⟨fun w => ps_b0 (hQ _ _ _ _ _ _ _ _ _ _ _ _ _ _ hK hN), fun w => ⟨fun v => ps_b0 (hQ _ _ _ _ _ _ _ _ _ _ _ _ _ _ hK hN), fun v => ?_⟩⟩)
    exfalso
    rcases h with h | h | h
    · exact h σ hσ ex
    · exact w h
    · exact h (Int32.not_lt.mp v)
  unfold wp_X5_terms wp_X5_terms_in
  refine ps_isSort x1 (fun hn => ps_b0 (neg (Or.inl hn))) (fun σ hσ ex => ps_b1 ⟨fun w => neg (Or.inr (Or.inl w)), fun w => ⟨fun v => ?_, fun v => neg (Or.inr (Or.inr v))⟩⟩)
  subst ex
  have hx0 : ¬ x2 < 0 := fun q => w (by
    rw [Int32.lt_iff_toInt_lt] at q ⊢
    have a : (0 : Int32).toInt = 0 := by decide
    have b : (1 : Int32).toInt = 1 := by decide
    omega)
  obtain ⟨n, hn, en⟩ := nI_of hx0
  subst en
  have hn1 : 1 ≤ n := by
    rcases Nat.eq_zero_or_pos n with q | q
    · exact absurd (by rw [q]; decide) w
    · exact q
  have hn2 : n ≤ 12 := (nI_leI (a := n) (b := 12) hn (by decide)).mp v
  refine ps_ofSort h0 h1 b0 b1 hσ hn1 hn2 hK hN (fun Cd' LCo' LBw' LFo' LLe' LRa' LRi' LSi' LSt' LSy' Nu' T hK' hN' hg => ?_)
  unfold wp_X6_terms wp_X6_terms_in
  refine ps_within 16 15 (nI σ) (by decide) (fun q => absurd rfl (q σ hσ)) (fun j hj e => ps_b1 ⟨fun w' => absurd w' w, fun _ => ⟨fun w' => absurd v (Int32.not_le.mpr w'), fun _ => ps_b1 (ps_termsR h0 h1 hT e0 e1 hσ hn1 hn2 (fun Mn' T' hg' => ?_))⟩⟩)
  have e : pm_s (fun p => if σ.testBit (pm_pl g0 g1 p) = true then T n p else 0) 256 = pm_s (fun p => if σ.testBit (pm_pl g0 g1 p) = true then T' n p else 0) 256 := by
    refine pm_s_congr 256 (fun p hp => ?_)
    rw [pm_gd_uniq hg hg' (n + 1) n (by omega) hn1 (Nat.le_refl n) p hp]
  rw [e]
  exact hQ _ _ _ _ _ _ _ _ _ _ _ _ _ _ hK' hN'
