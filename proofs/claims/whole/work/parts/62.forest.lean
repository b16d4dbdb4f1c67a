/-! the nodes -/
def pm_up (f : Nat → Nat) (c x : Nat) : Nat → Nat := fun i => if i = c then x else f i
theorem pm_up_s {f : Nat → Nat} {c x : Nat} : pm_up f c x c = x := if_pos rfl
theorem pm_up_n {f : Nat → Nat} {c x i : Nat} (h : i ≠ c) : pm_up f c x i = f i := if_neg h
/-- the size of node i out of its children's -/
def pm_zs (sy le ri zs : Nat → Nat) (i : Nat) : Nat := min 1000 (1 + (if 3 ≤ sy i then zs (le i) else 0) + (if 5 ≤ sy i then zs (ri i) else 0))
def iv_nd (sy le ri : Nat → Nat) (i : Nat) : Prop := sy i < 8 ∧ (3 ≤ sy i → le i < i) ∧ (5 ≤ sy i → ri i < i)
def iv_at (Le Ri Sy : Nat → Int32) (sy le ri : Nat → Nat) (i : Nat) : Prop := Sy i = nI (sy i) ∧ Le i = (if 3 ≤ sy i then nI (le i) else -1) ∧ Ri i = (if 5 ≤ sy i then nI (ri i) else -1)
def iv_FC (Ma : Int32) (Le Ri Si Sy : Nat → Int32) (c : Nat) (sy le ri zs : Nat → Nat) : Prop := Ma = nI c ∧ c ≤ 200 ∧ ∀ i, i < c → iv_nd sy le ri i ∧ iv_at Le Ri Sy sy le ri i ∧ Si i = nI (zs i) ∧ zs i = pm_zs sy le ri zs i
def iv_FR (Co : Int32) (Le Ri Sy : Nat → Int32) (c : Nat) (sy le ri : Nat → Nat) : Prop := Co = nI c ∧ ∀ i, i < c → iv_at Le Ri Sy sy le ri i
theorem iv_at_up {Le Ri Sy : Nat → Int32} {sy le ri : Nat → Nat} {i c s l r : Nat} {a b d : Int32} (h : i ≠ c) (q : iv_at Le Ri Sy sy le ri i) : iv_at (upd Le c a) (upd Ri c b) (upd Sy c d) (pm_up sy c s) (pm_up le c l) (pm_up ri c r) i := by
  unfold iv_at
  rw [pk_un h, pk_un h, pk_un h, pm_up_n h, pm_up_n h, pm_up_n h]
  exact q
theorem iv_at_new {Le Ri Sy : Nat → Int32} {sy le ri : Nat → Nat} {c s l r : Nat} : iv_at (upd Le c (if 3 ≤ s then nI l else -1)) (upd Ri c (if 5 ≤ s then nI r else -1)) (upd Sy c (nI s)) (pm_up sy c s) (pm_up le c l) (pm_up ri c r) c := by
  unfold iv_at
  rw [pk_us, pk_us, pk_us, pm_up_s, pm_up_s, pm_up_s]
  exact ⟨rfl, rfl, rfl⟩
/-- children of a new node: l and r are taken where the symbol has them -/
def nd_ok (c : Nat) (x2 x3 : Int32) (S l r : Nat) : Prop := (if 3 ≤ S then l < c ∧ x2 = nI l else l = 0) ∧ (if 5 ≤ S then r < c ∧ x3 = nI r else r = 0)
theorem iv_nd_up {sy le ri : Nat → Nat} {i c s l r : Nat} (h : i ≠ c) (q : iv_nd sy le ri i) : iv_nd (pm_up sy c s) (pm_up le c l) (pm_up ri c r) i := by
  unfold iv_nd
  rw [pm_up_n h, pm_up_n h, pm_up_n h]
  exact q
theorem pm_zs_up {sy le ri zs : Nat → Nat} {i c s l r z : Nat} (h : i < c) (q : iv_nd sy le ri i) : pm_zs (pm_up sy c s) (pm_up le c l) (pm_up ri c r) (pm_up zs c z) i = pm_zs sy le ri zs i := by
  have hic : i ≠ c := by omega
  have c1 : (if 3 ≤ sy i then pm_up zs c z (pm_up le c l i) else 0) = (if 3 ≤ sy i then zs (le i) else 0) := by
    by_cases w : 3 ≤ sy i
    · have := q.2.1 w
      rw [if_pos w, if_pos w, pm_up_n (f := le) hic]
      exact pm_up_n (by omega)
    · rw [if_neg w, if_neg w]
  have c2 : (if 5 ≤ sy i then pm_up zs c z (pm_up ri c r i) else 0) = (if 5 ≤ sy i then zs (ri i) else 0) := by
    by_cases w : 5 ≤ sy i
    · have := q.2.2 w
      rw [if_pos w, if_pos w, pm_up_n (f := ri) hic]
      exact pm_up_n (by omega)
    · rw [if_neg w, if_neg w]
  unfold pm_zs
  rw [pm_up_n (f := sy) hic, c1, c2]
theorem iv_FC_add {Le Ri Si Sy : Nat → Int32} {c : Nat} {sy le ri zs : Nat → Nat} {S l r : Nat} {x2 x3 : Int32} (h : iv_FC (nI c) Le Ri Si Sy c sy le ri zs) (hc : c < 200) (hS : S < 8) (hn : nd_ok c x2 x3 S l r) :
    iv_FC (nI (c + 1)) (upd Le c (if 3 ≤ S then nI l else -1)) (upd Ri c (if 5 ≤ S then nI r else -1)) (upd Si c (nI (min 1000 (1 + (if 3 ≤ S then zs l else 0) + (if 5 ≤ S then zs r else 0))))) (upd Sy c (nI S)) (c + 1)
      (pm_up sy c S) (pm_up le c l) (pm_up ri c r) (pm_up zs c (min 1000 (1 + (if 3 ≤ S then zs l else 0) + (if 5 ≤ S then zs r else 0)))) := by
  obtain ⟨-, h2, h3⟩ := h
  obtain ⟨n1, n2⟩ := hn
  refine ⟨rfl, by omega, fun i hi => ?_⟩
  by_cases e : i = c
  · subst e
    refine ⟨⟨by rw [pm_up_s]; exact hS, fun w => ?_, fun w => ?_⟩, iv_at_new, by rw [pk_us, pm_up_s], ?_⟩
    · rw [pm_up_s] at w ⊢
      rw [if_pos w] at n1
      exact n1.1
    · rw [pm_up_s] at w ⊢
      rw [if_pos w] at n2
      exact n2.1
    · unfold pm_zs
      rw [pm_up_s, pm_up_s, pm_up_s, pm_up_s]
      by_cases e1 : 3 ≤ S
      · rw [if_pos e1] at n1
        rw [if_pos e1, if_pos e1, pm_up_n (by omega)]
        by_cases e2 : 5 ≤ S
        · rw [if_pos e2] at n2
          rw [if_pos e2, if_pos e2, pm_up_n (by omega)]
        · rw [if_neg e2, if_neg e2]
      · rw [if_neg e1, if_neg e1, if_neg (by omega), if_neg (by omega)]
  · obtain ⟨q1, q2, q3, q4⟩ := h3 i (by omega)
    exact ⟨iv_nd_up e q1, iv_at_up e q2, by rw [pk_un e, pm_up_n e]; exact q3, by rw [pm_up_n e, pm_zs_up (by omega) q1]; exact q4⟩
theorem iv_FR_add {Le Ri Sy : Nat → Int32} {c : Nat} {sy le ri : Nat → Nat} {S l r : Nat} (h : iv_FR (nI c) Le Ri Sy c sy le ri) :
    iv_FR (nI (c + 1)) (upd Le c (if 3 ≤ S then nI l else -1)) (upd Ri c (if 5 ≤ S then nI r else -1)) (upd Sy c (nI S)) (c + 1) (pm_up sy c S) (pm_up le c l) (pm_up ri c r) := by
  refine ⟨rfl, fun i hi => ?_⟩
  by_cases e : i = c
  · subst e
    exact iv_at_new
  · exact iv_at_up e (h.2 i (by omega))
theorem ps_sizeOrZero {Ma : Int32} {Si : Nat → Int32} {Q : Int32 → Prop} {b : Prop} [Decidable b] {j : Nat} (hj : b → j < 200) (h : Q (if b then Si j else 0)) : wp_X1_sizeOrZero Ma Si (if b then nI j else -1) Q := by
  by_cases e : b
  · rw [if_pos e] at h ⊢
    refine ⟨fun c => ?_, fun _ => ⟨vp_in_nI (hj e) (by decide), ?_⟩⟩
    · have := nI_pos (n := j) (by have := hj e; omega)
      rw [c] at this
      exact absurd (by decide) this
    · rw [pn_clamp (by have := hj e; omega)]
      exact h
  · rw [if_neg e] at h ⊢
    exact ⟨fun _ => h, fun c => absurd rfl c⟩
theorem ps_min {a : Nat} (h : a < 2 ^ 30) : (if nI a < 1000 then nI a else 1000) = nI (min 1000 a) := by
  show (if nI a < nI 1000 then nI a else 1000) = nI (min 1000 a)
  by_cases e : a < 1000
  · rw [if_pos ((nI_ltI (a := a) (b := 1000) (by omega) (by decide)).mpr e)]
    congr 1
    omega
  · rw [if_neg (fun w => e ((nI_ltI (a := a) (b := 1000) (by omega) (by decide)).mp w))]
    rw [show min 1000 a = 1000 by omega]
    rfl
theorem ps_add {Le Ri Si Sy : Nat → Int32} {c : Nat} {sy le ri zs : Nat → Nat} {S l r : Nat} {x2 x3 : Int32} (h : iv_FC (nI c) Le Ri Si Sy c sy le ri zs) (hc : c < 200) (hS : S < 8) (hn : nd_ok c x2 x3 S l r) {Q : Int32 → Int32 → (Nat → Int32) → (Nat → Int32) → (Nat → Int32) → (Nat → Int32) → Prop}
    (hQ : ∀ Le' Ri' Si' Sy', Le' = upd Le c (if 3 ≤ S then nI l else -1) → Ri' = upd Ri c (if 5 ≤ S then nI r else -1) → Sy' = upd Sy c (nI S) → Si' = upd Si c (nI (min 1000 (1 + (if 3 ≤ S then zs l else 0) + (if 5 ≤ S then zs r else 0)))) → Q (nI c) (nI (c + 1)) Le' Ri' Si' Sy') : wp_X1_add (nI c) Le Ri Si Sy (nI S) x2 x3 Q := by
  obtain ⟨n1, n2⟩ := id hn
  have hz : ∀ i, i < c → Si i = nI (zs i) ∧ zs i ≤ 1000 := fun i hi => by
    obtain ⟨_, _, q3, q4⟩ := h.2.2 i hi
    refine ⟨q3, ?_⟩
    rw [q4]
    unfold pm_zs
    omega
  refine ⟨vp_in_nI hc (by decide), fun f2 e2 => ?_⟩
  rw [pn_clamp (by omega)] at e2
  have last : ∀ y : Int32, y = (if 5 ≤ S then nI r else -1) → ∀ fL, fL = upd Le c (if 3 ≤ S then nI l else -1) → wp_X1_add_51 Q (nI c) fL Ri Si f2 (nI c) y (nI c) := by
    intro y ey fL eL
    refine ⟨vp_in_nI hc (by decide), fun f10 e10 => ⟨vp_in_nI hc (by decide), ?_⟩⟩
    rw [pn_clamp (by omega)] at e10 ⊢
    rw [eL, pk_us]
    refine ps_sizeOrZero (fun w => by rw [if_pos w] at n1; omega) ⟨vp_in_nI hc (by decide), ?_⟩
    rw [e10, pk_us, ey]
    refine ps_sizeOrZero (fun w => by rw [if_pos w] at n2; omega) ⟨vp_in_nI hc (by decide), fun f16 e16 g eg => ?_⟩
    rw [eg, nI_1]
    have key : ((1 : Int32) + (if 3 ≤ S then Si l else 0)) + (if 5 ≤ S then Si r else 0) = nI (1 + (if 3 ≤ S then zs l else 0) + (if 5 ≤ S then zs r else 0)) ∧ 1 + (if 3 ≤ S then zs l else 0) + (if 5 ≤ S then zs r else 0) < 2 ^ 30 := by
      have a1 : (if 3 ≤ S then Si l else 0) = nI (if 3 ≤ S then zs l else 0) ∧ (if 3 ≤ S then zs l else 0) ≤ 1000 := by
        by_cases w : 3 ≤ S
        · rw [if_pos w] at n1
          rw [if_pos w, if_pos w]
          exact hz l n1.1
        · rw [if_neg w, if_neg w]
          exact ⟨rfl, by omega⟩
      have a2 : (if 5 ≤ S then Si r else 0) = nI (if 5 ≤ S then zs r else 0) ∧ (if 5 ≤ S then zs r else 0) ≤ 1000 := by
        by_cases w : 5 ≤ S
        · rw [if_pos w] at n2
          rw [if_pos w, if_pos w]
          exact hz r n2.1
        · rw [if_neg w, if_neg w]
          exact ⟨rfl, by omega⟩
      refine ⟨?_, by omega⟩
      rw [a1.1, a2.1, show (1 : Int32) = nI 1 from rfl, nI_add, nI_add]
    rw [key.1, ps_min key.2] at e16
    exact hQ _ _ _ _ rfl rfl e2 e16
  have mid : ∀ y : Int32, y = (if 3 ≤ S then nI l else -1) → wp_X1_add_32 Q (nI c) Le Ri Si f2 (nI c) y (nI S) x3 (nI c) := by
    intro y ey
    refine ⟨vp_in_nI hc (by decide), fun f6 e6 => ?_⟩
    rw [pn_clamp (by omega), ey] at e6
    refine ps_hasRight (s := S) (by omega) (fun w => ps_b0 (last _ ?_ f6 e6)) (fun w => ps_b1 (last _ ?_ f6 e6))
    · rw [if_neg (by omega)]
    · rw [if_pos w] at n2 ⊢
      exact n2.2
  refine ps_hasLeft (s := S) (by omega) (fun w => ps_b0 (mid _ ?_)) (fun w => ps_b1 (mid _ ?_))
  · rw [if_neg (by omega)]
  · rw [if_pos w] at n1 ⊢
    exact n1.2
theorem ps_nodeC {Le Ri Si Sy : Nat → Int32} {c : Nat} {sy le ri zs : Nat → Nat} (h : iv_FC (nI c) Le Ri Si Sy c sy le ri zs) (x1 x2 x3 : Int32) {Q : Int32 → Int32 → (Nat → Int32) → (Nat → Int32) → (Nat → Int32) → (Nat → Int32) → Prop}
    (hA : (∀ S, S < 8 → x1 ≠ nI S) → Q (-1) (nI c) Le Ri Si Sy) (hB : ∀ S, S < 8 → x1 = nI S → (∀ l r, ¬ nd_ok c x2 x3 S l r) → Q (-2) (nI c) Le Ri Si Sy)
    (hC : ∀ S l r, S < 8 → x1 = nI S → nd_ok c x2 x3 S l r → c = 200 → Q (-3) (nI c) Le Ri Si Sy)
    (hD : ∀ S l r, S < 8 → x1 = nI S → nd_ok c x2 x3 S l r → c < 200 → ∀ Le' Ri' Si' Sy', Le' = upd Le c (if 3 ≤ S then nI l else -1) → Ri' = upd Ri c (if 5 ≤ S then nI r else -1) → Sy' = upd Sy c (nI S) → Si' = upd Si c (nI (min 1000 (1 + (if 3 ≤ S then zs l else 0) + (if 5 ≤ S then zs r else 0)))) → Q (nI c) (nI (c + 1)) Le' Ri' Si' Sy') :
    wp_X5_node (nI c) Le Ri Si Sy x1 x2 x3 Q := by
  have h200 := h.2.1
  unfold wp_X5_node wp_X5_node_in
  refine ps_isSymbol x1 (fun hn => ps_b0 (hA hn)) (fun S hS eS => ps_b1 ?_)
  subst eS
  have k57 : ∀ z y : Int32, (z = 0 → 3 ≤ S → ∃ l, l < c ∧ x2 = nI l) → (z ≠ 0 → 3 ≤ S ∧ ∀ l, l < c → x2 ≠ nI l) → (y = 0 → 5 ≤ S → ∃ r, r < c ∧ x3 = nI r) → (y ≠ 0 → 5 ≤ S ∧ ∀ r, r < c → x3 ≠ nI r) → wp_X5_node_57 Q (nI c) Le Ri Si Sy y (nI S) x2 x3 z := by
    intro z y z0 z1 y0 y1
    refine ⟨fun ez => ⟨fun ey => ?_, fun ey => hB S hS rfl (fun l r q => ?_)⟩, fun ez => hB S hS rfl (fun l r q => ?_)⟩
    · obtain ⟨l, hl⟩ : ∃ l, (if 3 ≤ S then l < c ∧ x2 = nI l else l = 0) := by
        by_cases w : 3 ≤ S
        · obtain ⟨l, q⟩ := z0 ez w
          exact ⟨l, by rw [if_pos w]; exact q⟩
        · exact ⟨0, by rw [if_neg w]⟩
      obtain ⟨r, hr⟩ : ∃ r, (if 5 ≤ S then r < c ∧ x3 = nI r else r = 0) := by
        by_cases w : 5 ≤ S
        · obtain ⟨r, q⟩ := y0 ey w
          exact ⟨r, by rw [if_pos w]; exact q⟩
        · exact ⟨0, by rw [if_neg w]⟩
      have er : (200 : Int32) - nI c = nI (200 - c) := pk_sub (a := 200) (b := c) h200
      show (1 ≤ (200 : Int32) - nI c → _) ∧ (¬ 1 ≤ (200 : Int32) - nI c → _)
      rw [er]
      refine ⟨fun w => ?_, fun w => hC S l r hS rfl ⟨hl, hr⟩ ?_⟩
      · have := (nI_leI (a := 1) (b := 200 - c) (by decide) (by omega)).mp w
        exact ps_add h (by omega) hS ⟨hl, hr⟩ (hD S l r hS rfl ⟨hl, hr⟩ (by omega))
      · have : ¬ 1 ≤ 200 - c := fun q => w ((nI_leI (a := 1) (b := 200 - c) (by decide) (by omega)).mpr q)
        omega
    · have := y1 ey
      have q2 := q.2
      rw [if_pos this.1] at q2
      exact this.2 r q2.1 q2.2
    · have := z1 ez
      have q1 := q.1
      rw [if_pos this.1] at q1
      exact this.2 l q1.1 q1.2
  have k32 : ∀ z : Int32, (z = 0 → 3 ≤ S → ∃ l, l < c ∧ x2 = nI l) → (z ≠ 0 → 3 ≤ S ∧ ∀ l, l < c → x2 ≠ nI l) → wp_X5_node_32 Q (nI c) Le Ri Si Sy z (nI S) x2 x3 := by
    intro z z0 z1
    unfold wp_X5_node_32
    refine ps_hasRight (s := S) (by omega) (fun w => ps_b0 (k57 z 0 z0 z1 (fun _ q => by omega) (fun q => absurd rfl q))) (fun w => ps_b1 ?_)
    exact ps_holds (by omega) x3 (fun hn => ps_b0 (k57 z 1 z0 z1 (fun q => absurd q (by decide)) (fun _ => ⟨w, hn⟩))) (fun r hr er => ps_b1 (k57 z 0 z0 z1 (fun _ _ => ⟨r, hr, er⟩) (fun q => absurd rfl q)))
  refine ps_hasLeft (s := S) (by omega) (fun w => ps_b0 (k32 0 (fun _ q => by omega) (fun q => absurd rfl q))) (fun w => ps_b1 ?_)
  exact ps_holds (by omega) x2 (fun hn => ps_b0 (k32 1 (fun q => absurd q (by decide)) (fun _ => ⟨w, hn⟩))) (fun l hl el => ps_b1 (k32 0 (fun _ _ => ⟨l, hl, el⟩) (fun q => absurd rfl q)))
theorem ps_nodeR {Le Ri Sy : Nat → Int32} {c : Nat} (h200 : c ≤ 200) (x1 x2 x3 : Int32) {Q : Int32 → Int32 → (Nat → Int32) → (Nat → Int32) → (Nat → Int32) → Prop}
    (hA : (∀ S, S < 8 → x1 ≠ nI S) → Q (-1) (nI c) Le Ri Sy) (hB : ∀ S, S < 8 → x1 = nI S → (∀ l r, ¬ nd_ok c x2 x3 S l r) → Q (-2) (nI c) Le Ri Sy)
    (hC : ∀ S l r, S < 8 → x1 = nI S → nd_ok c x2 x3 S l r → c = 200 → Q (-3) (nI c) Le Ri Sy)
    (hD : ∀ S l r, S < 8 → x1 = nI S → nd_ok c x2 x3 S l r → c < 200 → ∀ Le' Ri' Sy', Le' = upd Le c (if 3 ≤ S then nI l else -1) → Ri' = upd Ri c (if 5 ≤ S then nI r else -1) → Sy' = upd Sy c (nI S) → Q (nI c) (nI (c + 1)) Le' Ri' Sy') :
    wp_X6_node (nI c) Le Ri Sy x1 x2 x3 Q := by
  unfold wp_X6_node wp_X6_node_in
  refine ps_within 8 7 x1 (by decide) (fun hn => ps_b0 (hA hn)) (fun S hS eS => ps_b1 ?_)
  subst eS
  have k60 : ∀ (k l r : Nat), (S < 3 → k = 0) → (3 ≤ S → S < 5 → k = 1) → (5 ≤ S → k = 2) → nd_ok c x2 x3 S l r → wp_X6_node_60 Q (nI c) Le Ri Sy (nI S) x2 x3 (nI k) := by
    intro k l r k0 k1 k2 hn
    obtain ⟨n1, n2⟩ := id hn
    have hk : k < 3 := by
      rcases (show S < 3 ∨ (3 ≤ S ∧ S < 5) ∨ 5 ≤ S by omega) with w | w | w
      · have := k0 w; omega
      · have := k1 w.1 w.2; omega
      · have := k2 w; omega
    refine ⟨fun e => hC S l r hS rfl hn ((nI_eq (a := c) (b := 200) (by omega) (by decide)).mp e), fun e => ?_⟩
    have hc : c < 200 := by
      have : c ≠ 200 := fun q => e (by rw [q]; rfl)
      omega
    refine ⟨vp_in_nI hc (by decide), fun f8 e8 => ?_⟩
    rw [pn_clamp (by omega)] at e8
    have k121 : ∀ y : Int32, y = (if 5 ≤ S then nI r else -1) → ∀ fL, fL = upd Le c (if 3 ≤ S then nI l else -1) → wp_X6_node_121 Q (nI c) fL Ri f8 (nI c) y := by
      intro y ey fL eL
      refine ⟨vp_in_nI hc (by decide), fun f14 e14 g eg => ?_⟩
      rw [pn_clamp (by omega), ey] at e14
      rw [eg, nI_1]
      have em : nI (c + 1) - 1 = nI c := nI_pred c
      rw [em]
      exact hD S l r hS rfl hn hc _ _ _ eL e14 e8
    have k101 : ∀ y : Int32, y = (if 3 ≤ S then nI l else -1) → wp_X6_node_101 Q (nI c) Le Ri f8 (nI c) y x3 (nI k) := by
      intro y ey
      refine ⟨vp_in_nI hc (by decide), fun f11 e11 => ?_⟩
      rw [pn_clamp (by omega), ey] at e11
      refine ⟨fun w => k121 _ ?_ _ e11, fun w => k121 _ ?_ _ e11⟩
      · have := (nI_leI (a := k) (b := 1) (by omega) (by decide)).mp w
        rw [if_neg (fun q => by have := k2 q; omega)]
      · have w2 : ¬ k ≤ 1 := fun q => w ((nI_leI (a := k) (b := 1) (by omega) (by decide)).mpr q)
        have w3 : 5 ≤ S := by
          rcases (show S < 3 ∨ (3 ≤ S ∧ S < 5) ∨ 5 ≤ S by omega) with q | q | q
          · have := k0 q; omega
          · have := k1 q.1 q.2; omega
          · exact q
        rw [if_pos w3] at n2 ⊢
        exact n2.2
    refine ⟨fun w => k101 _ ?_, fun w => k101 _ ?_⟩
    · have := (nI_leI (a := k) (b := 0) (by omega) (by decide)).mp w
      rw [if_neg (fun q => by
        by_cases q5 : 5 ≤ S
        · have := k2 q5; omega
        · have := k1 q (by omega); omega)]
    · have w2 : ¬ k ≤ 0 := fun q => w ((nI_leI (a := k) (b := 0) (by omega) (by decide)).mpr q)
      have w3 : 3 ≤ S := by
        rcases (show S < 3 ∨ 3 ≤ S by omega) with q | q
        · have := k0 q; omega
        · exact q
      rw [if_pos w3] at n1 ⊢
      exact n1.2
  have k37 : ∀ (k l : Nat), (S < 3 → k = 0) → (3 ≤ S → S < 5 → k = 1) → (5 ≤ S → k = 2) → (if 3 ≤ S then l < c ∧ x2 = nI l else l = 0) → wp_X6_node_37 Q (nI c) Le Ri Sy (nI S) x2 x3 (nI k) := by
    intro k l k0 k1 k2 n1
    have hk : k < 3 := by
      rcases (show S < 3 ∨ (3 ≤ S ∧ S < 5) ∨ 5 ≤ S by omega) with w | w | w
      · have := k0 w; omega
      · have := k1 w.1 w.2; omega
      · have := k2 w; omega
    refine ⟨fun w => ?_, fun w => ?_⟩
    · have := (nI_leI (a := k) (b := 1) (by omega) (by decide)).mp w
      exact k60 k l 0 k0 k1 k2 ⟨n1, by rw [if_neg (fun q => by have := k2 q; omega)]⟩
    · have w2 : ¬ k ≤ 1 := fun q => w ((nI_leI (a := k) (b := 1) (by omega) (by decide)).mpr q)
      have w3 : 5 ≤ S := by
        rcases (show S < 3 ∨ (3 ≤ S ∧ S < 5) ∨ 5 ≤ S by omega) with q | q | q
        · have := k0 q; omega
        · have := k1 q.1 q.2; omega
        · exact q
      refine ps_within c (nI c - 1) x3 (ps_co h200) (fun hn => ps_b0 (hB S hS rfl (fun l' r' q => ?_))) (fun r hr er => ps_b1 (k60 k l r k0 k1 k2 ⟨n1, by rw [if_pos w3]; exact ⟨hr, er⟩⟩))
      have q2 := q.2
      rw [if_pos w3] at q2
      exact hn r' q2.1 q2.2
  have go : ∀ k : Nat, (S < 3 → k = 0) → (3 ≤ S → S < 5 → k = 1) → (5 ≤ S → k = 2) → ((nI k ≤ 0 → wp_X6_node_37 Q (nI c) Le Ri Sy (nI S) x2 x3 (nI k)) ∧ (¬ nI k ≤ 0 → wp_X6_within x2 0 (nI c - 1) (fun r18 => ((r18 = 0 → Q (-2) (nI c) Le Ri Sy) ∧ (¬ (r18 = 0) → wp_X6_node_37 Q (nI c) Le Ri Sy (nI S) x2 x3 (nI k)))))) := by
    intro k k0 k1 k2
    have hk : k < 3 := by
      rcases (show S < 3 ∨ (3 ≤ S ∧ S < 5) ∨ 5 ≤ S by omega) with w | w | w
      · have := k0 w; omega
      · have := k1 w.1 w.2; omega
      · have := k2 w; omega
    refine ⟨fun w => ?_, fun w => ?_⟩
    · have := (nI_leI (a := k) (b := 0) (by omega) (by decide)).mp w
      refine k37 k 0 k0 k1 k2 (by rw [if_neg (fun q => by
        by_cases q5 : 5 ≤ S
        · have := k2 q5; omega
        · have := k1 q (by omega); omega)])
    · have w2 : ¬ k ≤ 0 := fun q => w ((nI_leI (a := k) (b := 0) (by omega) (by decide)).mpr q)
      have w3 : 3 ≤ S := by
        rcases (show S < 3 ∨ 3 ≤ S by omega) with q | q
        · have := k0 q; omega
        · exact q
      refine ps_within c (nI c - 1) x2 (ps_co h200) (fun hn => ps_b0 (hB S hS rfl (fun l' r' q => ?_))) (fun l hl el => ps_b1 (k37 k l k0 k1 k2 (by rw [if_pos w3]; exact ⟨hl, el⟩)))
      have q1 := q.1
      rw [if_pos w3] at q1
      exact hn l' q1.1 q1.2
  exact ps_children (s := S) (by omega) (fun w => go 0 (fun _ => rfl) (fun q => by omega) (fun q => by omega)) (fun w w' => go 1 (fun q => by omega) (fun _ _ => rfl) (fun q => by omega)) (fun w => go 2 (fun q => by omega) (fun q q' => by omega) (fun _ => rfl))
theorem nd_ok_inj {c : Nat} {x2 x3 : Int32} {S l r l' r' : Nat} (hc : c ≤ 200) (h : nd_ok c x2 x3 S l r) (h' : nd_ok c x2 x3 S l' r') : l = l' ∧ r = r' := by
  obtain ⟨a, b⟩ := h
  obtain ⟨a', b'⟩ := h'
  constructor
  · by_cases w : 3 ≤ S
    · rw [if_pos w] at a a'
      exact (nI_eq (by omega) (by omega)).mp (a.2.symm.trans a'.2)
    · rw [if_neg w] at a a'
      omega
  · by_cases w : 5 ≤ S
    · rw [if_pos w] at b b'
      exact (nI_eq (by omega) (by omega)).mp (b.2.symm.trans b'.2)
    · rw [if_neg w] at b b'
      omega
theorem po_node {Ma Co : Int32} {Le Ri Si Sy Le2 Ri2 Sy2 : Nat → Int32} {c : Nat} {sy le ri zs : Nat → Nat} (h : iv_FC Ma Le Ri Si Sy c sy le ri zs) (h2 : iv_FR Co Le2 Ri2 Sy2 c sy le ri) (x1 x2 x3 : Int32)
    {K : Int32 → Int32 → Int32 → (Nat → Int32) → (Nat → Int32) → (Nat → Int32) → (Nat → Int32) → Int32 → (Nat → Int32) → (Nat → Int32) → (Nat → Int32) → Prop}
    (hK : ∀ r Ma' Le' Ri' Si' Sy' Co' Le2' Ri2' Sy2' c' sy' le' ri' zs', iv_FC Ma' Le' Ri' Si' Sy' c' sy' le' ri' zs' → iv_FR Co' Le2' Ri2' Sy2' c' sy' le' ri' → K r r Ma' Le' Ri' Si' Sy' Co' Le2' Ri2' Sy2') :
    wp_X5_node Ma Le Ri Si Sy x1 x2 x3 (fun r Ma' Le' Ri' Si' Sy' => wp_X6_node Co Le2 Ri2 Sy2 x1 x2 x3 (fun r' Co' Le2' Ri2' Sy2' => K r r' Ma' Le' Ri' Si' Sy' Co' Le2' Ri2' Sy2')) := by
  obtain ⟨rfl, h200, -⟩ := id h
  obtain ⟨rfl, -⟩ := id h2
  have sj : ∀ S S' : Nat, S < 8 → S' < 8 → nI S = nI S' → S = S' := fun S S' a b e => (nI_eq (by omega) (by omega)).mp e
  refine ps_nodeC h x1 x2 x3 (fun hn => ?_) (fun S hS eS hn => ?_) (fun S l r hS eS hn hc => ?_) (fun S l r hS eS hn hc Le' Ri' Si' Sy' e1 e2 e3 e4 => ?_)
  · exact ps_nodeR h200 x1 x2 x3 (fun _ => hK _ _ _ _ _ _ _ _ _ _ _ _ _ _ _ h h2) (fun S hS eS _ => absurd eS (hn S hS)) (fun S l r hS eS _ _ => absurd eS (hn S hS)) (fun S l r hS eS _ _ _ _ _ _ _ _ => absurd eS (hn S hS))
  · refine ps_nodeR h200 x1 x2 x3 (fun hn' => absurd eS (hn' S hS)) (fun _ _ _ _ => hK _ _ _ _ _ _ _ _ _ _ _ _ _ _ _ h h2) (fun S' l r hS' eS' q _ => ?_) (fun S' l r hS' eS' q _ _ _ _ _ _ _ => ?_)
    · have := sj S S' hS hS' (eS.symm.trans eS')
      subst this
      exact absurd q (hn l r)
    · have := sj S S' hS hS' (eS.symm.trans eS')
      subst this
      exact absurd q (hn l r)
  · refine ps_nodeR h200 x1 x2 x3 (fun hn' => absurd eS (hn' S hS)) (fun S' hS' eS' q => ?_) (fun _ _ _ _ _ _ _ => hK _ _ _ _ _ _ _ _ _ _ _ _ _ _ _ h h2) (fun _ _ _ _ _ _ q _ _ _ _ _ _ => by omega)
    have := sj S S' hS hS' (eS.symm.trans eS')
    subst this
    exact absurd hn (q l r)
  · refine ps_nodeR h200 x1 x2 x3 (fun hn' => absurd eS (hn' S hS)) (fun S' hS' eS' q => ?_) (fun _ _ _ _ _ _ q => by omega) (fun S' l' r' hS' eS' q _ Le2' Ri2' Sy2' f1 f2 f3 => ?_)
    · have := sj S S' hS hS' (eS.symm.trans eS')
      subst this
      exact absurd hn (q l r)
    · have := sj S S' hS hS' (eS.symm.trans eS')
      subst this
      obtain ⟨rfl, rfl⟩ := nd_ok_inj h200 hn q
      subst e1; subst e2; subst e3; subst e4; subst f1; subst f2; subst f3
      exact hK _ _ _ _ _ _ _ _ _ _ _ _ _ _ _ (iv_FC_add h hc hS hn) (iv_FR_add h2)
