/-! terms by their writings: pure, over any function pf that gives a term's profile out of its symbol and its children's -/
def pm_closed (pf : Nat → Nat → Nat → Nat) (X : Nat → List Nat → Prop) : Prop :=
  (∀ s, s < 3 → X (pf s 17 17) [s]) ∧
  (∀ s l w, 3 ≤ s → s < 5 → X l w → X (pf s l 17) (s :: w)) ∧
  (∀ s l w r v, 5 ≤ s → s < 8 → X l w → X r v → X (pf s l r) (s :: (w ++ v)))
/-- w is the writing of a term of the profile p -/
def pm_T (pf : Nat → Nat → Nat → Nat) (p : Nat) (w : List Nat) : Prop := ∀ X, pm_closed pf X → X p w
theorem pm_T_closed (pf : Nat → Nat → Nat → Nat) : pm_closed pf (pm_T pf) :=
  ⟨fun s h X hX => hX.1 s h, fun s l w h1 h2 h X hX => hX.2.1 s l w h1 h2 (h X hX), fun s l w r v h1 h2 hl hr X hX => hX.2.2 s l w r v h1 h2 (hl X hX) (hr X hX)⟩
theorem pm_T_ind {pf : Nat → Nat → Nat → Nat} {P : Nat → List Nat → Prop} (h1 : ∀ s, s < 3 → P (pf s 17 17) [s])
    (h2 : ∀ s l w, 3 ≤ s → s < 5 → pm_T pf l w → P l w → P (pf s l 17) (s :: w))
    (h3 : ∀ s l w r v, 5 ≤ s → s < 8 → pm_T pf l w → P l w → pm_T pf r v → P r v → P (pf s l r) (s :: (w ++ v)))
    {p : Nat} {w : List Nat} (h : pm_T pf p w) : P p w :=
  (h (fun p w => pm_T pf p w ∧ P p w) ⟨fun s hs => ⟨(pm_T_closed pf).1 s hs, h1 s hs⟩, fun s l w a b q => ⟨(pm_T_closed pf).2.1 s l w a b q.1, h2 s l w a b q.1 q.2⟩, fun s l w r v a b q q' => ⟨(pm_T_closed pf).2.2 s l w r v a b q.1 q'.1, h3 s l w r v a b q.1 q.2 q'.1 q'.2⟩⟩).2
theorem pm_T_inv {pf : Nat → Nat → Nat → Nat} {p : Nat} {w : List Nat} (h : pm_T pf p w) :
    (∃ s, s < 3 ∧ p = pf s 17 17 ∧ w = [s]) ∨ (∃ s l v, 3 ≤ s ∧ s < 5 ∧ pm_T pf l v ∧ p = pf s l 17 ∧ w = s :: v) ∨
    (∃ s l v r u, 5 ≤ s ∧ s < 8 ∧ pm_T pf l v ∧ pm_T pf r u ∧ p = pf s l r ∧ w = s :: (v ++ u)) :=
  pm_T_ind (P := fun p w => (∃ s, s < 3 ∧ p = pf s 17 17 ∧ w = [s]) ∨ (∃ s l v, 3 ≤ s ∧ s < 5 ∧ pm_T pf l v ∧ p = pf s l 17 ∧ w = s :: v) ∨
    (∃ s l v r u, 5 ≤ s ∧ s < 8 ∧ pm_T pf l v ∧ pm_T pf r u ∧ p = pf s l r ∧ w = s :: (v ++ u)))
    (fun s hs => Or.inl ⟨s, hs, rfl, rfl⟩) (fun s l w a b t _ => Or.inr (Or.inl ⟨s, l, w, a, b, t, rfl, rfl⟩)) (fun s l w r v a b t _ t' _ => Or.inr (Or.inr ⟨s, l, w, r, v, a, b, t, t', rfl, rfl⟩)) h
theorem pm_T_pos {pf : Nat → Nat → Nat → Nat} {p : Nat} {w : List Nat} (h : pm_T pf p w) : 1 ≤ w.length := by
  rcases pm_T_inv h with ⟨s, _, _, rfl⟩ | ⟨s, l, v, _, _, _, _, rfl⟩ | ⟨s, l, v, r, u, _, _, _, _, _, rfl⟩ <;> simp
theorem pm_T_lt {pf : Nat → Nat → Nat → Nat} (hpf : ∀ s l r, pf s l r < 256) {p : Nat} {w : List Nat} (h : pm_T pf p w) : p < 256 := by
  rcases pm_T_inv h with ⟨s, _, rfl, _⟩ | ⟨s, l, v, _, _, _, rfl, _⟩ | ⟨s, l, v, r, u, _, _, _, _, rfl, _⟩ <;> exact hpf _ _ _
theorem pm_T_sym {pf : Nat → Nat → Nat → Nat} {p : Nat} {w : List Nat} (h : pm_T pf p w) : ∀ x ∈ w, x < 8 := by
  refine pm_T_ind (P := fun _ w => ∀ x ∈ w, x < 8) ?_ ?_ ?_ h
  · intro s hs x hx
    simp at hx; omega
  · intro s l w _ h2 _ ih x hx
    rcases List.mem_cons.mp hx with rfl | hx
    · omega
    · exact ih x hx
  · intro s l w r v _ h2 _ ih _ ih' x hx
    rcases List.mem_cons.mp hx with rfl | hx
    · omega
    · rcases List.mem_append.mp hx with hx | hx
      · exact ih x hx
      · exact ih' x hx
/-- no writing begins with another one; a writing has one profile -/
theorem pm_T_pre {pf : Nat → Nat → Nat → Nat} {p : Nat} {w : List Nat} (h : pm_T pf p w) : ∀ p' w' x x', pm_T pf p' w' → w ++ x = w' ++ x' → p = p' ∧ w = w' ∧ x = x' := by
  refine pm_T_ind (P := fun p w => ∀ p' w' x x', pm_T pf p' w' → w ++ x = w' ++ x' → p = p' ∧ w = w' ∧ x = x') ?_ ?_ ?_ h
  · intro s hs p' w' x x' h' e
    rcases pm_T_inv h' with ⟨s', _, rfl, rfl⟩ | ⟨s', l, v, _, _, _, rfl, rfl⟩ | ⟨s', l, v, r, u, _, _, _, _, rfl, rfl⟩
    · simp only [List.cons_append, List.nil_append, List.cons.injEq] at e
      obtain ⟨rfl, rfl⟩ := e
      exact ⟨rfl, rfl, rfl⟩
    · simp only [List.cons_append, List.nil_append, List.cons.injEq] at e
      omega
    · simp only [List.cons_append, List.nil_append, List.cons.injEq] at e
      omega
  · intro s l w h1 h2 _ ih p' w' x x' h' e
    rcases pm_T_inv h' with ⟨s', _, rfl, rfl⟩ | ⟨s', l', v, _, _, hv, rfl, rfl⟩ | ⟨s', l', v, r, u, _, _, _, _, rfl, rfl⟩
    · simp only [List.cons_append, List.nil_append, List.cons.injEq] at e
      omega
    · simp only [List.cons_append, List.cons.injEq] at e
      obtain ⟨rfl, e⟩ := e
      obtain ⟨rfl, rfl, rfl⟩ := ih l' v x x' hv e
      exact ⟨rfl, rfl, rfl⟩
    · simp only [List.cons_append, List.cons.injEq] at e
      omega
  · intro s l w r v h1 h2 _ ih _ ih' p' w' x x' h' e
    rcases pm_T_inv h' with ⟨s', _, rfl, rfl⟩ | ⟨s', l', v', _, _, hv, rfl, rfl⟩ | ⟨s', l', v', r', u, _, _, hv, hu, rfl, rfl⟩
    · simp only [List.cons_append, List.nil_append, List.cons.injEq] at e
      omega
    · simp only [List.cons_append, List.cons.injEq] at e
      omega
    · simp only [List.cons_append, List.cons.injEq, List.append_assoc] at e
      obtain ⟨rfl, e⟩ := e
      obtain ⟨e1, e2, e3⟩ := ih l' v' _ _ hv e
      obtain ⟨f1, f2, f3⟩ := ih' r' u _ _ hu e3
      subst e1; subst e2; subst f1; subst f2; subst f3
      exact ⟨rfl, rfl, rfl⟩
theorem pm_T_fun {pf : Nat → Nat → Nat → Nat} {p q : Nat} {w : List Nat} (h : pm_T pf p w) (h' : pm_T pf q w) : p = q := (pm_T_pre h q w [] [] h' rfl).1
/-- the lesser symbol where they first differ -/
def pm_lx : List Nat → List Nat → Prop
  | [], [] => False
  | [], _ :: _ => True
  | _ :: _, [] => False
  | a :: as, b :: bs => a < b ∨ (a = b ∧ pm_lx as bs)
theorem pm_lx_irr : ∀ a : List Nat, ¬ pm_lx a a
  | [], h => h
  | a :: as, h => by
    rcases h with h | h
    · omega
    · exact pm_lx_irr as h.2
theorem pm_lx_tr : ∀ {a b c : List Nat}, pm_lx a b → pm_lx b c → pm_lx a c
  | [], [], _, h, _ => h.elim
  | [], _ :: _, [], _, h => h.elim
  | [], _ :: _, _ :: _, _, _ => trivial
  | _ :: _, [], _, h, _ => h.elim
  | _ :: _, _ :: _, [], _, h => h.elim
  | a :: as, b :: bs, c :: cs, h, h' => by
    rcases h with h | ⟨rfl, h⟩ <;> rcases h' with h' | ⟨rfl, h'⟩
    · exact Or.inl (by omega)
    · exact Or.inl h
    · exact Or.inl h'
    · exact Or.inr ⟨rfl, pm_lx_tr h h'⟩
theorem pm_lx_tot : ∀ a b : List Nat, pm_lx a b ∨ a = b ∨ pm_lx b a
  | [], [] => Or.inr (Or.inl rfl)
  | [], _ :: _ => Or.inl trivial
  | _ :: _, [] => Or.inr (Or.inr trivial)
  | a :: as, b :: bs => by
    rcases Nat.lt_trichotomy a b with h | h | h
    · exact Or.inl (Or.inl h)
    · subst h
      rcases pm_lx_tot as bs with h | h | h
      · exact Or.inl (Or.inr ⟨rfl, h⟩)
      · exact Or.inr (Or.inl (by rw [h]))
      · exact Or.inr (Or.inr (Or.inr ⟨rfl, h⟩))
    · exact Or.inr (Or.inr (Or.inl h))
theorem pm_lx_as {a b : List Nat} (h : pm_lx a b) : ¬ pm_lx b a := fun h' => pm_lx_irr a (pm_lx_tr h h')
theorem pm_lx_pre (x : List Nat) {a b : List Nat} : pm_lx (x ++ a) (x ++ b) ↔ pm_lx a b := by
  induction x with
  | nil => exact Iff.rfl
  | cons c x ih =>
    constructor
    · intro h
      rcases h with h | h
      · omega
      · exact ih.mp h.2
    · intro h
      exact Or.inr ⟨rfl, ih.mpr h⟩
theorem pm_lx_app : ∀ {a b : List Nat} (x y : List Nat), pm_lx a b → (∀ z, b ≠ a ++ z) → pm_lx (a ++ x) (b ++ y)
  | [], [], _, _, h, _ => h.elim
  | [], b :: bs, _, _, _, h => (h (b :: bs) rfl).elim
  | _ :: _, [], _, _, h, _ => h.elim
  | a :: as, b :: bs, x, y, h, hp => by
    rcases h with h | ⟨rfl, h⟩
    · exact Or.inl h
    · exact Or.inr ⟨rfl, pm_lx_app x y h (fun z e => hp z (by rw [e]; rfl))⟩
theorem pm_lx_T {pf : Nat → Nat → Nat → Nat} {p q : Nat} {a b : List Nat} (ha : pm_T pf p a) (hb : pm_T pf q b) (h : pm_lx a b) (x y : List Nat) : pm_lx (a ++ x) (b ++ y) := by
  refine pm_lx_app x y h (fun z e => ?_)
  obtain ⟨-, rfl, -⟩ := pm_T_pre hb p a [] z ha (by rw [List.append_nil]; exact e)
  exact pm_lx_irr _ h
theorem pm_lx_eq : ∀ {a b x y : List Nat}, a.length = b.length → pm_lx (a ++ x) (b ++ y) → pm_lx a b ∨ (a = b ∧ pm_lx x y)
  | [], [], _, _, _, h => Or.inr ⟨rfl, h⟩
  | [], _ :: _, _, _, h, _ => by simp at h
  | _ :: _, [], _, _, h, _ => by simp at h
  | a :: as, b :: bs, x, y, hl, h => by
    rcases h with h | ⟨rfl, h⟩
    · exact Or.inl (Or.inl h)
    · rcases pm_lx_eq (by simpa using hl) h with h2 | ⟨e2, h2⟩
      · exact Or.inl (Or.inr ⟨rfl, h2⟩)
      · exact Or.inr ⟨by rw [e2], h2⟩
theorem pm_nlx {a b c : List Nat} (h1 : ¬ pm_lx b a) (h2 : ¬ pm_lx c b) : ¬ pm_lx c a := by
  intro h
  rcases pm_lx_tot a b with q | rfl | q
  · exact h2 (pm_lx_tr h q)
  · exact h2 h
  · exact h1 q
theorem pm_nlx_app {a b x y : List Nat} (hl : a.length = b.length) (h1 : ¬ pm_lx b a) (h2 : ¬ pm_lx y x) : ¬ pm_lx (b ++ y) (a ++ x) := by
  intro h
  rcases pm_lx_eq hl.symm h with h | ⟨_, h⟩
  · exact h1 h
  · exact h2 h
/-- an entry of a table (its length, at most 33, and its writing where it is less than 33) is there, and no worse than another -/
def pm_be (n : Nat) (W : List Nat) (m : Nat) (V : List Nat) : Prop := n ≠ 0 ∧ (n < m ∨ (n = m ∧ (n = 33 ∨ ¬ pm_lx V W)))
def pm_cap (n : Nat) : Nat := if 32 < n then 33 else n
/-- a table that only holds terms -/
def pm_snd (pf : Nat → Nat → Nat → Nat) (ln : Nat → Nat) (W : Nat → List Nat) : Prop :=
  ∀ p, ln p ≠ 0 → ln p ≤ 33 ∧ (∃ w, pm_T pf p w) ∧ (ln p ≤ 32 → pm_T pf p (W p) ∧ (W p).length = ln p)
/-- a table that nothing improves -/
def pm_fix (pf : Nat → Nat → Nat → Nat) (ln : Nat → Nat) (W : Nat → List Nat) : Prop :=
  (∀ s, s < 3 → pm_be (ln (pf s 17 17)) (W (pf s 17 17)) 1 [s]) ∧
  (∀ s l, 3 ≤ s → s < 5 → ln l ≠ 0 → pm_be (ln (pf s l 17)) (W (pf s l 17)) (pm_cap (1 + ln l)) (s :: W l)) ∧
  (∀ s l r, 5 ≤ s → s < 8 → ln l ≠ 0 → ln r ≠ 0 → pm_be (ln (pf s l r)) (W (pf s l r)) (pm_cap (1 + ln l + ln r)) (s :: (W l ++ W r)))
theorem pm_full {pf : Nat → Nat → Nat → Nat} {ln : Nat → Nat} {W : Nat → List Nat} (hs : pm_snd pf ln W) (hf : pm_fix pf ln W) {p : Nat} {w : List Nat} (h : pm_T pf p w) : pm_be (ln p) (W p) (pm_cap w.length) w := by
  refine pm_T_ind (P := fun p w => pm_be (ln p) (W p) (pm_cap w.length) w) ?_ ?_ ?_ h
  · intro s h
    exact hf.1 s h
  · intro s l w h1 h2 _ ih
    have hc := hf.2.1 s l h1 h2 ih.1
    have hl := hs l ih.1
    obtain ⟨i0, i1⟩ := ih
    obtain ⟨c0, c1⟩ := hc
    refine ⟨c0, ?_⟩
    simp only [List.length_cons]
    rcases i1 with i1 | ⟨i1, i2⟩
    · rcases c1 with c1 | ⟨c1, c2⟩
      · left; unfold pm_cap at *; split at i1 <;> split at c1 <;> split <;> omega
      · unfold pm_cap at *
        by_cases hw : 32 < w.length + 1
        · rw [if_pos hw]
          by_cases hh : 32 < 1 + ln l
          · right; rw [if_pos hh] at c1; exact ⟨c1, Or.inl c1⟩
          · left; rw [if_neg hh] at c1; omega
        · left; rw [if_neg hw]; rw [if_neg (by omega)] at i1; rw [if_neg (by omega)] at c1; omega
    · by_cases hw : 32 < w.length + 1
      · have hcw : pm_cap (w.length + 1) = 33 := by unfold pm_cap; rw [if_pos hw]
        rw [hcw]
        have : pm_cap (1 + ln l) ≤ 33 := by unfold pm_cap; split <;> omega
        rcases c1 with c1 | ⟨c1, c2⟩
        · left; omega
        · by_cases q : ln (pf s l 17) = 33
          · right; exact ⟨q, Or.inl q⟩
          · left; omega
      · have e1 : pm_cap w.length = w.length := by unfold pm_cap; rw [if_neg (by omega)]
        have e2 : pm_cap (w.length + 1) = w.length + 1 := by unfold pm_cap; rw [if_neg hw]
        rw [e1] at i1
        have e3 : pm_cap (1 + ln l) = w.length + 1 := by rw [i1]; unfold pm_cap; rw [if_neg (by omega)]; omega
        rw [e2]; rw [e3] at c1
        rcases c1 with c1 | ⟨c1, c2⟩
        · left; exact c1
        · right
          refine ⟨c1, ?_⟩
          rcases c2 with c2 | c2
          · exact Or.inl c2
          · right
            rcases i2 with i2 | i2
            · omega
            · exact pm_nlx c2 (pm_nlx_app (a := [s]) (b := [s]) rfl (pm_lx_irr _) i2)
  · intro s l w r v h1 h2 _ ih _ ih'
    have hc := hf.2.2 s l r h1 h2 ih.1 ih'.1
    have hl := hs l ih.1
    have hr := hs r ih'.1
    obtain ⟨i0, i1⟩ := ih
    obtain ⟨j0, j1⟩ := ih'
    obtain ⟨c0, c1⟩ := hc
    refine ⟨c0, ?_⟩
    have hlen : (s :: (w ++ v)).length = w.length + v.length + 1 := by simp
    rw [hlen]
    have l1 : ln l ≤ pm_cap w.length := by rcases i1 with i1 | ⟨i1, _⟩ <;> omega
    have l2 : ln r ≤ pm_cap v.length := by rcases j1 with j1 | ⟨j1, _⟩ <;> omega
    by_cases hw : 32 < w.length + v.length + 1
    · have hcw : pm_cap (w.length + v.length + 1) = 33 := by unfold pm_cap; rw [if_pos hw]
      rw [hcw]
      have : pm_cap (1 + ln l + ln r) ≤ 33 := by unfold pm_cap; split <;> omega
      by_cases q : ln (pf s l r) = 33
      · right; exact ⟨q, Or.inl q⟩
      · left; rcases c1 with c1 | ⟨c1, _⟩ <;> omega
    · have e1 : pm_cap w.length = w.length := by unfold pm_cap; rw [if_neg (by omega)]
      have e1' : pm_cap v.length = v.length := by unfold pm_cap; rw [if_neg (by omega)]
      have e2 : pm_cap (w.length + v.length + 1) = w.length + v.length + 1 := by unfold pm_cap; rw [if_neg hw]
      rw [e1] at l1 i1; rw [e1'] at l2 j1; rw [e2]
      have e3 : pm_cap (1 + ln l + ln r) = 1 + ln l + ln r := by unfold pm_cap; rw [if_neg (by omega)]
      rw [e3] at c1
      rcases c1 with c1 | ⟨c1, c2⟩
      · left; omega
      · rcases i1 with i1 | ⟨i1, i2⟩
        · left; omega
        · rcases j1 with j1 | ⟨j1, j2⟩
          · left; omega
          · right
            refine ⟨by omega, ?_⟩
            rcases c2 with c2 | c2
            · exact Or.inl c2
            · right
              have i3 : ¬ pm_lx w (W l) := by rcases i2 with i2 | i2; · omega
                                              · exact i2
              have j3 : ¬ pm_lx v (W r) := by rcases j2 with j2 | j2; · omega
                                              · exact j2
              have hwl : (W l).length = w.length := by rw [(hl.2.2 (by omega)).2]; exact i1
              exact pm_nlx c2 (pm_nlx_app (a := [s]) (b := [s]) rfl (pm_lx_irr _) (pm_nlx_app hwl i3 j3))
