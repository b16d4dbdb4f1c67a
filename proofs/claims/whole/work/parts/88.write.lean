/-! witness: a writing, and the nodes planted out of it -/
/-- a stack in a row of ints: m entries, the top first in the list -/
def pw_sk (f : Nat → Int32) (m : Nat) (st : List Nat) : Prop := st.length = m ∧ ∀ j, j < m → f (m - 1 - j) = nI (st.getD j 0)
theorem pw_gd_drop : ∀ (st : List Nat) (a j : Nat), (st.drop a).getD j 0 = st.getD (a + j) 0
  | [], a, j => by simp
  | x :: st, 0, j => by rw [Nat.zero_add]; rfl
  | x :: st, a + 1, j => by
    rw [show a + 1 + j = (a + j) + 1 by omega, pm_gd_c, ← pw_gd_drop st a j]
    rfl
theorem pw_sk_push {f : Nat → Int32} {m a x : Nat} {st : List Nat} (h : pw_sk f m st) (ha : a ≤ m) : pw_sk (upd f (m - a) (nI x)) (m - a + 1) (x :: st.drop a) := by
  refine ⟨by rw [List.length_cons, List.length_drop, h.1], fun j hj => ?_⟩
  cases j with
  | zero =>
    rw [show m - a + 1 - 1 - 0 = m - a by omega, pk_us]
    rfl
  | succ j =>
    rw [pk_un (by omega), pm_gd_c, pw_gd_drop, ← h.2 (a + j) (by omega)]
    congr 1
    omega
def pw_cat (W : Nat → List Nat) : List Nat → List Nat
  | [] => []
  | t :: st => W t ++ pw_cat W st
theorem pw_cat_len {W : Nat → List Nat} : ∀ (st : List Nat), (∀ x, x ∈ st → 1 ≤ (W x).length) → st.length ≤ (pw_cat W st).length
  | [], _ => Nat.le_refl _
  | t :: st, h => by
    show st.length + 1 ≤ (W t ++ pw_cat W st).length
    rw [List.length_append]
    have := h t (List.mem_cons_self ..)
    have := pw_cat_len st (fun x hx => h x (List.mem_cons_of_mem _ hx))
    omega
theorem ps_writingOf {Co Kn : Int32} {Fo Le Ri Si Sy Pe Wr : Nat → Int32} {pf : Nat → Nat → Nat → Nat} {c : Nat} {fo ln sy le ri : Nat → Nat} {W : Nat → List Nat} (hI : iv_L Co Fo Le Ri Si Sy c fo ln sy le ri) (hB : lt_B pf c fo ln sy le ri W) {p : Nat} (hp : ln p ≠ 0) (h32 : ln p ≤ 32)
    {Q : (Nat → Int32) → (Nat → Int32) → Prop} (hQ : ∀ Pe' Wr', (∀ j, j < ln p → Wr' j = nI ((W p).getD j 0)) → Q Pe' Wr') : wp_X2_writingOf Co Kn Le Pe Ri Sy Wr (nI p) Q := by
  obtain ⟨z1, z2, z3, z4, z5, z6⟩ := id hB
  obtain ⟨-, -, -, i4⟩ := hI
  have lt256 : ∀ x, ln x ≠ 0 → x < 256 := fun x hx => by
    rcases Nat.lt_or_ge x 256 with w | w
    · exact w
    · exact absurd (z1 x w) hx
  have len : ∀ x, ln x ≠ 0 → ln x ≤ 32 → (W x).length = ln x := fun x hx hl => ((z2 x hx).2.2 hl).2
  have main : ∀ (d i m : Nat) (u st : List Nat) (Pe Wr : Nat → Int32), i + d = 32 → u.length = i → W p = u ++ pw_cat W st → (∀ x, x ∈ st → ln x ≠ 0 ∧ ln x ≤ 32) → pw_sk Pe m st → (∀ j, j < i → Wr j = nI (u.getD j 0)) → lp_X2_writingOf_11 Co Kn Le Ri Sy Q (d + 1) Pe Wr (nI m) (nI i) := by
    intro d
    induction d with
    | zero =>
      intro i m u st Pe Wr e hu hW hst hsk hWr
      refine ⟨fun _ => hQ Pe Wr (fun j hj => ?_), fun w => absurd ((nI_leI (a := 32) (b := i) (by decide) (by omega)).mpr (by omega)) w⟩
      rw [hW, pm_gd_l (by omega)]
      exact hWr j (by omega)
    | succ d ih =>
      intro i m u st Pe Wr e hu hW hst hsk hWr
      have hl := len p hp h32
      have hl2 : (W p).length = i + (pw_cat W st).length := by rw [hW, List.length_append, hu]
      have hm : m ≤ (pw_cat W st).length := by
        rw [← hsk.1]
        exact pw_cat_len st (fun x hx => by
          obtain ⟨q1, q2⟩ := hst x hx
          rw [len x q1 q2]; omega)
      refine ⟨fun w => absurd ((nI_leI (a := 32) (b := i) (by decide) (by omega)).mp w) (by omega), fun _ => ⟨fun w => hQ Pe Wr (fun j hj => ?_), fun w x2 ex2 => ?_⟩⟩
      · have m0 := (nI_leI (a := m) (b := 0) (by omega) (by decide)).mp w
        have : st = [] := by
          cases st with
          | nil => rfl
          | cons t st => have := hsk.1; rw [List.length_cons] at this; omega
        subst this
        have e0 : W p = u := by rw [hW]; exact List.append_nil u
        rw [e0]
        refine hWr j ?_
        rw [← hu, ← e0]; omega
      · have m1 : 1 ≤ m := by
          rcases Nat.eq_zero_or_pos m with q | q
          · exact absurd (by rw [q]; decide) w
          · exact q
        cases st with
        | nil => have := hsk.1; simp at this; omega
        | cons t st =>
          obtain ⟨t0, t32⟩ := hst t (List.mem_cons_self ..)
          have t256 := lt256 t t0
          obtain ⟨f1, f2, f3, f4, f5⟩ := z6 t t0 t32
          obtain ⟨-, -, j3⟩ := i4 t t256
          obtain ⟨s1, s2, s3⟩ := j3 t0
          have lenst : st.length + 1 = m := by have := hsk.1; rw [List.length_cons] at this; exact this
          have hrest : st.length ≤ (pw_cat W st).length := pw_cat_len st (fun x hx => by
            obtain ⟨q1, q2⟩ := hst x (List.mem_cons_of_mem _ hx)
            rw [len x q1 q2]; omega)
          have hcat : (pw_cat W (t :: st)).length = ln t + (pw_cat W st).length := by
            show (W t ++ pw_cat W st).length = _
            rw [List.length_append, len t t0 t32]
          have etop : Pe (m - 1) = nI t := by
            have := hsk.2 0 (by omega)
            exact this
          have ex2' : x2 = nI (m - 1) := by rw [ex2, pn_m1]; exact pk_sub (a := m) (b := 1) m1
          rw [ex2']
          refine ⟨vp_in_nI (by omega) (by decide), fun x4 ex4 => ?_⟩
          rw [pn_clamp (by omega), etop] at ex4
          rw [ex4]
          refine ⟨vp_in_nI t256 (by decide), vp_in_nI (by omega) (by decide), fun g eg => ⟨vp_in_nI t256 (by decide), ?_⟩⟩
          rw [pn_clamp (by omega), pn_clamp (by omega), s1] at eg
          rw [pn_clamp (by omega), s1]
          -- the written part grows by the symbol
          have hu' : (u ++ [sy t]).length = i + 1 := by rw [List.length_append, hu]; rfl
          have hWr' : ∀ j, j < i + 1 → g j = nI ((u ++ [sy t]).getD j 0) := by
            intro j hj
            by_cases q : j = i
            · rw [q, eg, pk_us, ← hu]
              have := pm_gd_r (a := u) (b := [sy t]) (j := 0)
              rw [Nat.add_zero] at this
              rw [this]; rfl
            · rw [eg, pk_un q, pm_gd_l (by omega)]
              exact hWr j (by omega)
          have hst' : ∀ x, x ∈ st → ln x ≠ 0 ∧ ln x ≤ 32 := fun x hx => hst x (List.mem_cons_of_mem _ hx)
          have hsk0 : pw_sk Pe (m - 1) st := by
            refine ⟨by omega, fun j hj => ?_⟩
            have := hsk.2 (j + 1) (by omega)
            rw [pm_gd_c] at this
            rw [← this]
            congr 1
            omega
          have eW : W p = u ++ (sy t :: (pm_lw (sy t) W (le t) ++ pm_rw (sy t) W (ri t))) ++ pw_cat W st := by
            rw [hW, List.append_assoc]
            show u ++ (W t ++ pw_cat W st) = _
            rw [f4]; rfl
          have kl : 3 ≤ sy t → ln (le t) < ln t := fun q => by
            unfold pm_ll at f5
            rw [if_pos q] at f5; omega
          have kr : 5 ≤ sy t → ln (ri t) < ln t ∧ 3 ≤ ln t := fun q => by
            have a := f2.2.2.1 (by omega)
            have b := f2.2.2.2 q
            unfold pm_ll pm_rl at f5
            rw [if_pos (by omega), if_pos q] at f5; omega
          -- with what is pushed
          have goL : ∀ (m' : Nat) (st' : List Nat) (Pe' : Nat → Int32), pw_sk Pe' m' st' → m' + (if 3 ≤ sy t then 1 else 0) ≤ 32 → (∀ x, x ∈ st' → ln x ≠ 0 ∧ ln x ≤ 32) → pw_cat W st' = pm_rw (sy t) W (ri t) ++ pw_cat W st → wp_X2_writingOf_80 Co Kn Le Ri Sy (lp_X2_writingOf_11 Co Kn Le Ri Sy Q (d + 1)) Q Pe' g (nI m') (nI i) (nI t) := by
            intro m' st' Pe' k1 k2 k3 k4
            refine ⟨vp_in_nI t256 (by decide), ?_⟩
            rw [pn_clamp (by omega), s1]
            refine ps_hasLeft (s := sy t) (by omega) (fun q => ps_b0 (fun y ey => ?_)) (fun q => ps_b1 ⟨fun v => ?_, fun v => ⟨vp_in_nI t256 (by decide), ?_⟩⟩)
            · rw [ey, nI_1]
              refine ih (i + 1) m' (u ++ [sy t]) st' Pe' g (by omega) hu' ?_ k3 k1 hWr'
              rw [eW, k4]
              unfold pm_lw
              rw [if_neg (by omega)]
              simp
            · rw [if_pos q] at k2
              have := (nI_leI (a := 32) (b := m') (by decide) (by omega)).mp v
              omega
            · rw [if_pos q] at k2
              refine ⟨vp_in_nI (by omega) (by decide), fun f22 e22 y1 ey1 y2 ey2 => ?_⟩
              rw [pn_clamp (by omega), s2] at e22
              rw [ey1, ey2, nI_1, nI_1]
              have pu := pw_sk_push (a := 0) (x := le t) k1 (Nat.zero_le _)
              rw [Nat.sub_zero, ← e22] at pu
              refine ih (i + 1) (m' + 1) (u ++ [sy t]) (le t :: st') f22 g (by omega) hu' ?_ ?_ pu hWr'
              · rw [eW]
                show _ = (u ++ [sy t]) ++ (W (le t) ++ pw_cat W st')
                rw [k4]
                unfold pm_lw
                rw [if_pos q]
                simp
              · intro x hx
                rcases List.mem_cons.mp hx with rfl | hx
                · exact ⟨f2.2.2.1 q, by have := kl q; omega⟩
                · exact k3 x hx
          refine ps_hasRight (s := sy t) (by omega) (fun q => ps_b0 (goL (m - 1) st Pe hsk0 (by split <;> omega) hst' ?_)) (fun q => ps_b1 ⟨fun v => ?_, fun v => ⟨vp_in_nI t256 (by decide), vp_in_nI (by omega) (by decide), fun f28 e28 y ey => ?_⟩⟩)
          · unfold pm_rw
            rw [if_neg (by omega)]
            rfl
          · have := (nI_leI (a := 32) (b := m - 1) (by decide) (by omega)).mp v
            omega
          · rw [pn_clamp (by omega), s3] at e28
            rw [ey, nI_1]
            have pu := pw_sk_push (a := 0) (x := ri t) hsk0 (Nat.zero_le _)
            rw [Nat.sub_zero, ← e28] at pu
            have k3 := (kr q).2
            refine goL (m - 1 + 1) (ri t :: st) f28 pu (by split <;> omega) ?_ ?_
            · intro x hx
              rcases List.mem_cons.mp hx with rfl | hx
              · exact ⟨f2.2.2.2 q, by have := (kr q).1; omega⟩
              · exact hst' x hx
            · show W (ri t) ++ pw_cat W st = _
              unfold pm_rw
              rw [if_pos q]
  unfold wp_X2_writingOf wp_X2_writingOf_in
  refine ⟨vp_in_nI (n := 0) (N := 32) (by decide) (by decide), fun f2 e2 => ⟨33, main 32 0 1 [] [p] f2 Wr (by omega) rfl ?_ ?_ ?_ (fun j hj => by omega)⟩⟩
  · show W p = [] ++ (W p ++ [])
    simp
  · intro x hx
    rw [List.mem_singleton.mp hx]
    exact ⟨hp, h32⟩
  · refine ⟨rfl, fun j hj => ?_⟩
    have : j = 0 := by omega
    subst this
    rw [e2]
    exact pk_us
