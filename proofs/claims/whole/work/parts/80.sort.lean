/-! sortIn: the order of the writings, of all sizes -/
theorem pn_m1 (x : Int32) : x + (-1) = x - 1 := by
  first | exact (Int32.sub_eq_add_neg x 1).symm | (rw [Int32.sub_eq_add_neg]; rfl) | (apply Int32.toBitVec_inj.mp; rw [Int32.toBitVec_add, Int32.toBitVec_sub, BitVec.sub_eq_add_neg]; rfl)
theorem ps_before {Co Kn : Int32} {Fo Le Ri Si Sy Ra : Nat → Int32} {pf : Nat → Nat → Nat → Nat} {c c0 k : Nat} {fo ln sy le ri bw : Nat → Nat} {W : Nat → List Nat} (hI : iv_L Co Fo Le Ri Si Sy c fo ln sy le ri) (hB : lt_B pf c fo ln sy le ri W) (hk : k ≤ 32)
    (S3 : ∀ i j, i < j → j < c0 → pm_lx (W (bw i)) (W (bw j))) (S4 : ∀ x, ln x ≠ 0 → ln x < k → ∃ i, i < c0 ∧ bw i = x ∧ Ra x = nI i) (c256 : c0 ≤ 256)
    {p q : Nat} (hp : ln p ≠ 0) (hpk : ln p ≤ k) (hq : ln q ≠ 0) (hqk : ln q ≤ k) (hne : p ≠ q) {Q : Int32 → Prop} (h1 : pm_lx (W p) (W q) → Q 1) (h0 : pm_lx (W q) (W p) → Q 0) : wp_X2_isWrittenBefore Co Kn Le Ra Ri Sy (nI p) (nI q) Q := by
  obtain ⟨z1, z2, z3, z4, z5, z6⟩ := id hB
  obtain ⟨-, -, -, i4⟩ := hI
  obtain ⟨p1, p2, p3, p4, p5⟩ := z6 p hp (by omega)
  obtain ⟨q1, q2, q3, q4, q5⟩ := z6 q hq (by omega)
  have lt256 : ∀ x, ln x ≠ 0 → x < 256 := fun x hx => by
    rcases Nat.lt_or_ge x 256 with w | w
    · exact w
    · exact absurd (z1 x w) hx
  have hp256 := lt256 p hp
  have hq256 := lt256 q hq
  obtain ⟨-, -, jp⟩ := i4 p hp256
  obtain ⟨-, -, jq⟩ := i4 q hq256
  obtain ⟨jp1, jp2, jp3⟩ := jp hp
  obtain ⟨jq1, jq2, jq3⟩ := jq hq
  have lp := pm_vl_lt z1 p2
  have lq := pm_vl_lt z1 q2
  have TT : ∀ x, ln x ≠ 0 → ln x < k → pm_T pf x (W x) := fun x hx hl => ((z2 x hx).2.2 (by omega)).1
  have kl : ∀ x, lt_E pf ln sy le ri W x → ln x ≤ k → (3 ≤ sy x → ln (le x) < k) ∧ (5 ≤ sy x → ln (ri x) < k) := by
    intro x hx hxk
    obtain ⟨-, -, -, -, e5⟩ := hx
    unfold pm_ll pm_rl at e5
    constructor
    · intro w
      rw [if_pos w] at e5
      omega
    · intro w
      rw [if_pos (by omega), if_pos w] at e5
      omega
  have kp := kl p ⟨p1, p2, p3, p4, p5⟩ hpk
  have kq := kl q ⟨q1, q2, q3, q4, q5⟩ hqk
  -- ranks and writings
  have rk : ∀ x y, ln x ≠ 0 → ln x < k → ln y ≠ 0 → ln y < k → x ≠ y → (Ra y ≤ Ra x → pm_lx (W y) (W x)) ∧ (¬ Ra y ≤ Ra x → pm_lx (W x) (W y)) := by
    intro x y hx hxk hy hyk hxy
    obtain ⟨i, hi, ei, ri'⟩ := S4 x hx hxk
    obtain ⟨j, hj, ej, rj⟩ := S4 y hy hyk
    rw [ri', rj]
    have hij : i ≠ j := fun w => hxy (by rw [← ei, ← ej, w])
    constructor
    · intro w
      have := (nI_leI (by omega) (by omega)).mp w
      rw [← ei, ← ej]
      exact S3 j i (by omega) hi
    · intro w
      have := (pn_ge (by omega) (by omega)).mp w
      rw [← ei, ← ej]
      exact S3 i j (by omega) hj
  refine ⟨vp_in_nI hp256 (by decide), vp_in_nI hq256 (by decide), ?_⟩
  rw [pn_clamp (by omega), pn_clamp (by omega), jp1, jq1]
  refine ⟨fun w => ⟨vp_in_nI hp256 (by decide), vp_in_nI hq256 (by decide), ?_⟩, fun w => ⟨vp_in_nI hp256 (by decide), vp_in_nI hq256 (by decide), fun v => ?_, fun v => ?_⟩⟩
  · have es : sy p = sy q := (nI_eq (by omega) (by omega)).mp w
    rw [jp2, jq2]
    refine ⟨fun v => ⟨vp_in_nI hp256 (by decide), ?_⟩, fun v => ⟨vp_in_nI hp256 (by decide), vp_in_nI lp.1 (by decide), vp_in_nI hq256 (by decide), vp_in_nI lq.1 (by decide), ?_⟩⟩
    · have el : le p = le q := (nI_eq (by omega) (by omega)).mp v
      rw [jp3, jq3]
      refine ⟨vp_in_nI lp.2 (by decide), vp_in_nI hq256 (by decide), vp_in_nI lq.2 (by decide), ?_⟩
      rw [pn_clamp (by omega), pn_clamp (by omega)]
      have er : ri p ≠ ri q := fun e => hne (by rw [p3, q3, es, el, e])
      have w5 : 5 ≤ sy p := by
        rcases Nat.lt_or_ge (sy p) 5 with u | u
        · exact absurd ((p2.2.1 u).trans (q2.2.1 (by omega)).symm) er
        · exact u
      have k1 := rk (ri p) (ri q) (p2.2.2.2 w5) (kp.2 w5) (q2.2.2.2 (by omega)) (kq.2 (by omega)) er
      have ewp : W p = sy p :: (W (le p) ++ W (ri p)) := by
        rw [p4]
        unfold pm_cw pm_lw pm_rw
        rw [if_pos (by omega), if_pos w5]
      have ewq : W q = sy p :: (W (le p) ++ W (ri q)) := by
        rw [q4, ← es, ← el]
        unfold pm_cw pm_lw pm_rw
        rw [if_pos (by omega), if_pos w5]
      refine ⟨fun u => h0 ?_, fun u => h1 ?_⟩
      · rw [ewp, ewq]
        exact pm_lx_t ((pm_lx_pre _).mpr (k1.1 u))
      · rw [ewp, ewq]
        exact pm_lx_t ((pm_lx_pre _).mpr (k1.2 u))
    · have el : le p ≠ le q := fun e => v (by rw [e])
      rw [pn_clamp (by omega), pn_clamp (by omega)]
      have w3 : 3 ≤ sy p := by
        rcases Nat.lt_or_ge (sy p) 3 with u | u
        · exact absurd ((p2.1 u).trans (q2.1 (by omega)).symm) el
        · exact u
      have k1 := rk (le p) (le q) (p2.2.2.1 w3) (kp.1 w3) (q2.2.2.1 (by omega)) (kq.1 (by omega)) el
      have ewp : W p = sy p :: (W (le p) ++ pm_rw (sy p) W (ri p)) := by
        rw [p4]
        unfold pm_cw pm_lw
        rw [if_pos w3]
      have ewq : W q = sy p :: (W (le q) ++ pm_rw (sy p) W (ri q)) := by
        rw [q4, ← es]
        unfold pm_cw pm_lw
        rw [if_pos w3]
      have tp := TT _ (p2.2.2.1 w3) (kp.1 w3)
      have tq := TT _ (q2.2.2.1 (by omega)) (kq.1 (by omega))
      refine ⟨fun u => h0 ?_, fun u => h1 ?_⟩
      · rw [ewp, ewq]
        exact pm_lx_t (pm_lx_T tq tp (k1.1 u) _ _)
      · rw [ewp, ewq]
        exact pm_lx_t (pm_lx_T tp tq (k1.2 u) _ _)
  · have es : sy p ≠ sy q := fun e => w (by rw [e])
    have := (nI_leI (by omega) (by omega)).mp v
    refine h0 ?_
    rw [p4, q4]
    exact pm_lx_h (by omega)
  · have := (pn_ge (by omega) (by omega)).mp v
    refine h1 ?_
    rw [p4, q4]
    exact pm_lx_h (by omega)
theorem ps_sortIn {Co Kn : Int32} {Fo Le Ri Si Sy Bw Ra : Nat → Int32} {pf : Nat → Nat → Nat → Nat} {c c0 k : Nat} {fo ln sy le ri bw : Nat → Nat} {W : Nat → List Nat} (hI : iv_L Co Fo Le Ri Si Sy c fo ln sy le ri) (hB : lt_B pf c fo ln sy le ri W) (hO : lt_O c fo ln W) (hk : 1 ≤ k ∧ k ≤ 32) (hcc : c0 ≤ c)
    (hold : ∀ i, i < c0 → ln (fo i) < k) (hnew : ∀ i, c0 ≤ i → i < c → ln (fo i) = k)
    (S2 : ∀ i, i < c0 → Bw i = nI (bw i) ∧ bw i < 256 ∧ ln (bw i) ≠ 0 ∧ ln (bw i) < k) (S3 : ∀ i j, i < j → j < c0 → pm_lx (W (bw i)) (W (bw j))) (S4 : ∀ p, ln p ≠ 0 → ln p < k → ∃ i, i < c0 ∧ bw i = p) (S5 : ∀ i, i < c0 → Ra (bw i) = nI i)
    {Q : (Nat → Int32) → (Nat → Int32) → Prop}
    (hQ : ∀ (Bw' Ra' : Nat → Int32) (mb : Nat → Nat), (∀ i, i < c → Bw' i = nI (mb i) ∧ mb i < 256 ∧ ln (mb i) ≠ 0) → (∀ i j, i < j → j < c → pm_lx (W (mb i)) (W (mb j))) → (∀ p, ln p ≠ 0 → ∃ i, i < c ∧ mb i = p) → (∀ i, i < c → Ra' (mb i) = nI i) → Q Bw' Ra') :
    wp_X2_sortIn Co Kn Bw Fo Le Ra Ri Sy (nI c0) Q := by
  obtain ⟨z1, z2, z3, z4, z5, z6⟩ := id hB
  obtain ⟨rfl, c256, i3, i4⟩ := id hI
  -- the ranks
  have ranks : ∀ (Bw' : Nat → Int32) (mb : Nat → Nat), (∀ i, i < c → Bw' i = nI (mb i) ∧ mb i < 256 ∧ ln (mb i) ≠ 0) → (∀ i j, i < j → j < c → pm_lx (W (mb i)) (W (mb j))) → (∀ p, ln p ≠ 0 → ∃ i, i < c ∧ mb i = p) → ∃ n : Nat, lp_X2_sortIn_96 (nI c) Kn Fo Le Ri Sy Q n Bw' Ra 0 := by
    intro Bw' mb m1 m2 m3
    have main : ∀ (d i : Nat) (f : Nat → Int32), i + d = c → (∀ j, j < i → f (mb j) = nI j) → lp_X2_sortIn_96 (nI c) Kn Fo Le Ri Sy Q (d + 1) Bw' f (nI i) := by
      intro d
      induction d with
      | zero =>
        intro i f e hf
        exact ⟨fun _ => hQ Bw' f mb m1 m2 m3 (fun j hj => hf j (by omega)), fun w => absurd (nI_le (by omega) (by omega)) w⟩
      | succ d ih =>
        intro i f e hf
        obtain ⟨u1, u2, u3⟩ := m1 i (by omega)
        refine ⟨fun w => absurd w (nI_ge (by omega) (by omega)), fun _ => ⟨vp_in_nI (by omega) (by decide), ?_⟩⟩
        rw [pn_clamp (by omega), u1]
        refine ⟨vp_in_nI u2 (by decide), fun f' ef y ey => ?_⟩
        rw [pn_clamp (by omega)] at ef
        rw [ey, nI_1]
        refine ih (i + 1) f' (by omega) (fun j hj => ?_)
        by_cases e2 : j = i
        · rw [ef, e2, pk_us]
        · have hne : mb j ≠ mb i := fun w => by
            have := m2 j i (by omega) (by omega)
            rw [w] at this
            exact pm_lx_irr _ this
          rw [ef, pk_un hne]
          exact hf j (by omega)
    exact ⟨_, main c 0 Ra (by omega) (fun j hj => by omega)⟩
  have S4' : ∀ x, ln x ≠ 0 → ln x < k → ∃ i, i < c0 ∧ bw i = x ∧ Ra x = nI i := fun x hx hxk => by
    obtain ⟨i, hi, ei⟩ := S4 x hx hxk
    exact ⟨i, hi, ei, by rw [← ei]; exact S5 i hi⟩
  -- the merge: a older ones and b newer ones are left
  have merge : ∀ (n a b : Nat) (f : Nat → Int32) (mb : Nat → Nat), a + b = n → a ≤ c0 → c0 + b ≤ c → (∀ j, j < c → j < a ∨ a + b ≤ j → f j = nI (mb j)) → (∀ j, j < a → mb j = bw j) → (∀ j, a + b ≤ j → j < c → mb j < 256 ∧ ln (mb j) ≠ 0) → (∀ j j', a + b ≤ j → j < j' → j' < c → pm_lx (W (mb j)) (W (mb j'))) →
      (∀ j, a + b ≤ j → j < c → (∀ i, i < a → pm_lx (W (bw i)) (W (mb j))) ∧ (∀ i, c0 ≤ i → i < c0 + b → pm_lx (W (fo i)) (W (mb j)))) → (∀ p, ln p ≠ 0 → (∃ i, i < a ∧ bw i = p) ∨ (∃ i, c0 ≤ i ∧ i < c0 + b ∧ fo i = p) ∨ (∃ j, a + b ≤ j ∧ j < c ∧ mb j = p)) →
      lp_X2_sortIn_19 (nI c) Kn Fo Le Ri Sy Q (n + 1) f Ra (nI c0) (nI a - 1) (nI (c0 + b) - 1) (nI (a + b) - 1) := by
    intro n
    induction n with
    | zero =>
      intro a b f mb e ha hb m1 m2 m3 m4 m5 m6
      have a0 : a = 0 := by omega
      have b0 : b = 0 := by omega
      subst a0; subst b0
      refine ⟨fun _ => ranks f mb (fun i hi => ⟨m1 i hi (Or.inr (by omega)), m3 i (by omega) hi⟩) (fun i j hij hj => m4 i j (by omega) hij hj) (fun p hp => ?_), fun w => absurd (by decide) w⟩
      rcases m6 p hp with ⟨i, q, _⟩ | ⟨i, q, q', _⟩ | ⟨j, _, q, q'⟩
      · omega
      · omega
      · exact ⟨j, q, q'⟩
    | succ n ih =>
      intro a b f mb e ha hb m1 m2 m3 m4 m5 m6
      have ei : nI (a + b) - 1 = nI (a + b - 1) := pk_sub (a := a + b) (b := 1) (by omega)
      have fin : b = 0 → ∃ n : Nat, lp_X2_sortIn_96 (nI c) Kn Fo Le Ri Sy Q n f Ra 0 := by
        intro hb0
        subst hb0
        refine ranks f mb (fun i hi => ?_) (fun i j hij hj => ?_) (fun p hp => ?_)
        · by_cases w : i < a
          · have := S2 i (by omega)
            exact ⟨m1 i hi (Or.inl w), by rw [m2 i w]; exact ⟨this.2.1, this.2.2.1⟩⟩
          · exact ⟨m1 i hi (Or.inr (by omega)), m3 i (by omega) hi⟩
        · by_cases w : i < a
          · by_cases w' : j < a
            · rw [m2 i w, m2 j w']
              exact S3 i j hij (by omega)
            · rw [m2 i w]
              exact (m5 j (by omega) hj).1 i w
          · exact m4 i j (by omega) hij hj
        · rcases m6 p hp with ⟨i, q, q'⟩ | ⟨i, q, q', _⟩ | ⟨j, _, q, q'⟩
          · exact ⟨i, by omega, by rw [m2 i q]; exact q'⟩
          · omega
          · exact ⟨j, q, q'⟩
      rw [ei]
      refine ⟨fun w => absurd w (nI_pos (by omega)), fun _ => ⟨fun w => fin ?_, fun w => ?_⟩⟩
      · rcases Nat.eq_zero_or_pos b with q | q
        · exact q
        · have e2 : nI (c0 + b) - 1 = nI (c0 + b - 1) := pk_sub (a := c0 + b) (b := 1) (by omega)
          rw [e2] at w
          have := (nI_ltI (by omega) (by omega)).mp w
          omega
      · have hb1 : 1 ≤ b := by
          rcases Nat.eq_zero_or_pos b with q | q
          · subst q
            exfalso
            apply w
            by_cases w0 : c0 = 0
            · rw [w0]; decide
            · have e2 : nI (c0 + 0) - 1 = nI (c0 - 1) := pk_sub (a := c0) (b := 1) (by omega)
              rw [e2]
              exact nI_lt (by omega) (by omega)
          · exact q
        have e2 : nI (c0 + b) - 1 = nI (c0 + b - 1) := pk_sub (a := c0 + b) (b := 1) (by omega)
        rw [e2]
        have nw4 := z4 (c0 + b - 1) (by omega)
        have nwk := hnew (c0 + b - 1) (by omega) (by omega)
        -- the newer one is put
        have putN : (∀ i, i < a → pm_lx (W (bw i)) (W (fo (c0 + b - 1)))) → wp_X2_sortIn_71 (nI c) Kn Fo Le Ri Sy (lp_X2_sortIn_19 (nI c) Kn Fo Le Ri Sy Q (n + 1)) Q f Ra (nI c0) (nI a - 1) (nI (c0 + b - 1)) (nI (a + b - 1)) := by
          intro hlt
          refine ⟨vp_in_nI (by omega) (by decide), vp_in_nI (by omega) (by decide), fun f' ef x3 e3 x4 e4 => ?_⟩
          rw [pn_clamp (by omega), pn_clamp (by omega), i3 _ (by omega)] at ef
          have g3 : x3 = nI (c0 + (b - 1)) - 1 := by
            rw [e3, show c0 + b - 1 = c0 + (b - 1) by omega, pn_m1]
          have g4 : x4 = nI (a + (b - 1)) - 1 := by
            rw [e4, show a + b - 1 = a + (b - 1) by omega, pn_m1]
          rw [g3, g4]
          refine ih a (b - 1) f' (pm_up mb (a + b - 1) (fo (c0 + b - 1))) (by omega) ha (by omega) (fun j hj hj' => ?_) (fun j hj => ?_) (fun j hj hj' => ?_) (fun j j' hj hjj hj' => ?_) (fun j hj hj' => ?_) (fun p hp => ?_)
          · by_cases q : j = a + b - 1
            · rw [ef, q, pk_us, pm_up_s]
            · rw [ef, pk_un q, pm_up_n q]
              exact m1 j hj (by omega)
          · rw [pm_up_n (by omega)]; exact m2 j hj
          · by_cases q : j = a + b - 1
            · rw [q, pm_up_s]; exact nw4
            · rw [pm_up_n q]; exact m3 j (by omega) hj'
          · rw [pm_up_n (i := j') (by omega)]
            by_cases q : j = a + b - 1
            · rw [q, pm_up_s]
              exact (m5 j' (by omega) hj').2 _ (by omega) (by omega)
            · rw [pm_up_n q]; exact m4 j j' (by omega) hjj hj'
          · by_cases q : j = a + b - 1
            · rw [q, pm_up_s]
              refine ⟨hlt, fun i hi hi' => ?_⟩
              have := hnew i hi (by omega)
              exact (hO i (c0 + b - 1) (by omega) (by omega)).2 (by omega) (by omega)
            · rw [pm_up_n q]
              have := m5 j (by omega) hj'
              exact ⟨this.1, fun i hi hi' => this.2 i hi (by omega)⟩
          · rcases m6 p hp with h | ⟨i, q1, q2, q3⟩ | ⟨j, q1, q2, q3⟩
            · exact Or.inl h
            · by_cases q : i = c0 + b - 1
              · exact Or.inr (Or.inr ⟨a + b - 1, by omega, by omega, by rw [pm_up_s, ← q]; exact q3⟩)
              · exact Or.inr (Or.inl ⟨i, q1, by omega, q3⟩)
            · exact Or.inr (Or.inr ⟨j, by omega, q2, by rw [pm_up_n (by omega)]; exact q3⟩)
        refine ⟨fun w2 => putN (fun i hi => ?_), fun w2 => ?_⟩
        · exfalso
          have e5 : nI a - 1 = nI (a - 1) := pk_sub (a := a) (b := 1) (by omega)
          rw [e5] at w2
          exact nI_pos (by omega) w2
        · have ha1 : 1 ≤ a := by
            rcases Nat.eq_zero_or_pos a with q | q
            · exact absurd (by rw [q]; decide) w2
            · exact q
          have e5 : nI a - 1 = nI (a - 1) := pk_sub (a := a) (b := 1) (by omega)
          have so := S2 (a - 1) (by omega)
          have fa : f (a - 1) = nI (bw (a - 1)) := by rw [m1 (a - 1) (by omega) (Or.inl (by omega)), m2 (a - 1) (by omega)]
          rw [e5]
          refine ⟨vp_in_nI (by omega) (by decide), vp_in_nI (by omega) (by decide), ?_⟩
          rw [pn_clamp (by omega), pn_clamp (by omega), i3 _ (by omega), fa]
          have hne : fo (c0 + b - 1) ≠ bw (a - 1) := fun q => by
            have := so.2.2.2
            rw [← q] at this
            omega
          refine ps_before hI hB hk.2 S3 S4' (by omega) nw4.2 (by omega) so.2.2.1 (by omega) hne (fun lt => ps_b1 ⟨vp_in_nI (by omega) (by decide), vp_in_nI (by omega) (by decide), fun f' ef x2 ex2 x4 ex4 => ?_⟩) (fun lt => ps_b0 ?_)
          · rw [pn_clamp (by omega)] at ef
            have g2 : x2 = nI (a - 1) - 1 := by rw [ex2, pn_m1]
            have g4 : x4 = nI ((a - 1) + b) - 1 := by
              rw [ex4, show a + b - 1 = (a - 1) + b by omega, pn_m1]
            rw [g2, g4, ← e2]
            refine ih (a - 1) b f' (pm_up mb (a + b - 1) (bw (a - 1))) (by omega) (by omega) hb (fun j hj hj' => ?_) (fun j hj => ?_) (fun j hj hj' => ?_) (fun j j' hj hjj hj' => ?_) (fun j hj hj' => ?_) (fun p hp => ?_)
            · by_cases q : j = a + b - 1
              · rw [ef, q, pk_us, pm_up_s]
              · rw [ef, pk_un q, pm_up_n q]
                exact m1 j hj (by omega)
            · rw [pm_up_n (by omega)]; exact m2 j (by omega)
            · by_cases q : j = a + b - 1
              · rw [q, pm_up_s]; exact ⟨so.2.1, so.2.2.1⟩
              · rw [pm_up_n q]; exact m3 j (by omega) hj'
            · rw [pm_up_n (i := j') (by omega)]
              by_cases q : j = a + b - 1
              · rw [q, pm_up_s]
                exact (m5 j' (by omega) hj').1 _ (by omega)
              · rw [pm_up_n q]; exact m4 j j' (by omega) hjj hj'
            · by_cases q : j = a + b - 1
              · rw [q, pm_up_s]
                refine ⟨fun i hi => S3 i (a - 1) (by omega) (by omega), fun i hi hi' => ?_⟩
                by_cases q2 : i = c0 + b - 1
                · rw [q2]; exact lt
                · have := hnew i hi (by omega)
                  exact pm_lx_tr ((hO i (c0 + b - 1) (by omega) (by omega)).2 (by omega) (by omega)) lt
              · rw [pm_up_n q]
                have := m5 j (by omega) hj'
                exact ⟨fun i hi => this.1 i (by omega), this.2⟩
            · rcases m6 p hp with ⟨i, q1, q2⟩ | h | ⟨j, q1, q2, q3⟩
              · by_cases q : i = a - 1
                · exact Or.inr (Or.inr ⟨a + b - 1, by omega, by omega, by rw [pm_up_s, ← q]; exact q2⟩)
                · exact Or.inl ⟨i, by omega, q2⟩
              · exact Or.inr (Or.inl h)
              · exact Or.inr (Or.inr ⟨j, by omega, q2, by rw [pm_up_n (by omega)]; exact q3⟩)
          · rw [← e5]
            refine putN (fun i hi => ?_)
            by_cases q : i = a - 1
            · rw [q]; exact lt
            · exact pm_lx_tr (S3 i (a - 1) (by omega) (by omega)) lt
  intro x2 ex2 x3 ex3 x4 ex4
  rw [ex2, ex3, ex4]
  have := merge c c0 (c - c0) Bw bw (by omega) (Nat.le_refl _) (by omega) (fun j hj hj' => (S2 j (by omega)).1) (fun _ _ => rfl) (fun j hj hj' => by omega) (fun j j' hj _ hj' => by omega) (fun j hj hj' => by omega) (fun p hp => ?_)
  · rw [show c0 + (c - c0) = c by omega] at this
    exact ⟨_, this⟩
  · obtain ⟨i, hi, ei'⟩ := z5 p hp
    by_cases w : i < c0
    · have := hold i w
      rw [ei'] at this
      exact Or.inl (S4 p hp this)
    · exact Or.inr (Or.inl ⟨i, by omega, by omega, ei'⟩)
