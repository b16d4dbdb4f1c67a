/-! nodes, part, size; profiles, reached, place -/
theorem po_nodes {Ma Co : Int32} {Le Ri Si Sy Le2 Ri2 Sy2 : Nat → Int32} {c : Nat} {sy le ri zs : Nat → Nat} (h : iv_FC Ma Le Ri Si Sy c sy le ri zs) (h2 : iv_FR Co Le2 Ri2 Sy2 c sy le ri) {K : Int32 → Int32 → Prop} (hK : ∀ r, K r r) :
    wp_X5_nodes Ma (fun r => wp_X6_nodes Co (fun r' => K r r')) := by
  obtain ⟨rfl, -⟩ := id h
  obtain ⟨rfl, -⟩ := id h2
  exact hK _
theorem po_part {Ma Co : Int32} {Le Ri Si Sy Le2 Ri2 Sy2 : Nat → Int32} {c : Nat} {sy le ri zs : Nat → Nat} (h : iv_FC Ma Le Ri Si Sy c sy le ri zs) (h2 : iv_FR Co Le2 Ri2 Sy2 c sy le ri) (x1 x2 : Int32) {K : Int32 → Int32 → Prop} (hK : ∀ r, K r r) :
    wp_X5_part Ma Le Ri Sy x1 x2 (fun r => wp_X6_part Co Le2 Ri2 Sy2 x1 x2 (fun r' => K r r')) := by
  obtain ⟨rfl, h200, h3⟩ := id h
  obtain ⟨rfl, h4⟩ := id h2
  unfold wp_X5_part wp_X5_part_in
  refine ps_holds (by omega) x1 (fun hn => ps_b0 ?_) (fun n hc en => ps_b1 ?_)
  · unfold wp_X6_part wp_X6_part_in
    exact ps_within c (nI c - 1) x1 (ps_co h200) (fun _ => ps_b0 (hK _)) (fun j hj ej => absurd ej (hn j hj))
  · subst en
    obtain ⟨-, ⟨s1, s2, s3⟩, -⟩ := h3 n hc
    obtain ⟨r1, r2, r3⟩ := h4 n hc
    have ref : ∀ r : Int32, (x2 = 0 → r = Sy2 n) → (x2 = 1 → r = Le2 n) → (x2 = 2 → r = Ri2 n) → (x2 ≠ 0 → x2 ≠ 1 → x2 ≠ 2 → r = -2) → wp_X6_part (nI c) Le2 Ri2 Sy2 (nI n) x2 (fun r' => K r r') := by
      intro r w0 w1 w2 w3
      unfold wp_X6_part wp_X6_part_in
      refine ps_within c (nI c - 1) (nI n) (ps_co h200) (fun hn => absurd rfl (hn n hc)) (fun _ _ _ => ps_b1 ?_)
      refine ps_within 3 2 x2 (by decide) (fun hn => ps_b0 ?_) (fun j hj ej => ps_b1 ?_)
      · rw [w3 (hn 0 (by decide)) (hn 1 (by decide)) (hn 2 (by decide))]
        exact hK _
      · rw [pn_clamp (by omega)]
        refine ⟨fun e => ⟨vp_in_nI (by omega) (by decide), ?_⟩, fun e => ⟨fun e1 => ⟨vp_in_nI (by omega) (by decide), ?_⟩, fun e1 => ⟨vp_in_nI (by omega) (by decide), ?_⟩⟩⟩
        · rw [w0 e]; exact hK _
        · rw [w1 e1]; exact hK _
        · rcases (show j = 0 ∨ j = 1 ∨ j = 2 by omega) with rfl | rfl | rfl
          · exact absurd ej e
          · exact absurd ej e1
          · rw [w2 ej]; exact hK _
    refine ⟨fun e => ⟨vp_in_nI (by omega) (by decide), ?_⟩, fun e => ⟨fun e1 => ⟨vp_in_nI (by omega) (by decide), ?_⟩, fun e1 => ⟨fun e2 => ⟨vp_in_nI (by omega) (by decide), ?_⟩, fun e2 => ?_⟩⟩⟩
    · rw [pn_clamp (by omega)]
      exact ref _ (fun _ => s1.trans r1.symm) (fun q => absurd (e.symm.trans q) (by decide)) (fun q => absurd (e.symm.trans q) (by decide)) (fun q => absurd e q)
    · rw [pn_clamp (by omega)]
      exact ref _ (fun q => absurd q e) (fun _ => s2.trans r2.symm) (fun q => absurd (e1.symm.trans q) (by decide)) (fun _ q => absurd e1 q)
    · rw [pn_clamp (by omega)]
      exact ref _ (fun q => absurd q e) (fun q => absurd q e1) (fun _ => s3.trans r3.symm) (fun _ _ q => absurd e2 q)
    · exact ref _ (fun q => absurd q e) (fun q => absurd q e1) (fun q => absurd q e2) (fun _ _ _ => rfl)
/-- a child's entry: where there is none, its number is -1 -/
theorem ps_child {A B : Prop} {b : Prop} [Decidable b] {j : Nat} (hj : b → j < 200) (h1 : b → A) (h0 : ¬ b → B) : ((0 : Int32) ≤ (if b then nI j else -1) → A) ∧ (¬ (0 : Int32) ≤ (if b then nI j else -1) → B) := by
  by_cases e : b
  · rw [if_pos e]
    exact ⟨fun _ => h1 e, fun c => absurd (nI_pos' (by have := hj e; omega)) c⟩
  · rw [if_neg e]
    exact ⟨fun c => absurd c (by decide), fun _ => h0 e⟩
theorem ps_sizeR {Ma Co : Int32} {Le Ri Si Sy Le2 Ri2 Sy2 Mn : Nat → Int32} {c : Nat} {sy le ri zs : Nat → Nat} (h : iv_FC Ma Le Ri Si Sy c sy le ri zs) (h2 : iv_FR Co Le2 Ri2 Sy2 c sy le ri) {n : Nat} (hn : n < c) {Q : Int32 → (Nat → Int32) → Prop} (hQ : ∀ Mn', Q (nI (zs n)) Mn') :
    wp_X6_size Co Le2 Mn Ri2 (nI n) Q := by
  obtain ⟨-, h200, h3⟩ := id h
  obtain ⟨rfl, h4⟩ := id h2
  have zb : ∀ i, i < c → zs i ≤ 1000 := fun i hi => by
    obtain ⟨-, -, -, q⟩ := h3 i hi
    rw [q]
    unfold pm_zs
    omega
  have main : ∀ (d k : Nat) (f : Nat → Int32), k + d = n + 1 → (∀ j, j < k → f j = nI (zs j)) → lp_X6_size_18 (nI c) Le2 Ri2 Q (d + 1) f (nI n) (nI k) := by
    intro d
    induction d with
    | zero =>
      intro k f e hf
      refine ⟨fun _ => ⟨vp_in_nI (by omega) (by decide), ?_⟩, fun w => absurd (nI_lt (a := n) (b := k) (by omega) (by omega)) w⟩
      rw [pn_clamp (by omega), hf n (by omega)]
      exact hQ f
    | succ d ih =>
      intro k f e hf
      obtain ⟨⟨n1, n2, n3⟩, -, -, hz⟩ := h3 k (by omega)
      obtain ⟨r1, r2, r3⟩ := h4 k (by omega)
      refine ⟨fun w => absurd w (nI_nlt (by omega) (by omega)), fun _ => ⟨vp_in_nI (by omega) (by decide), ?_⟩⟩
      have fin : ∀ a b : Nat, a = 1 + (if 3 ≤ sy k then zs (le k) else 0) → b = (if 5 ≤ sy k then zs (ri k) else 0) → wp_X6_size_73 (nI c) Le2 Ri2 (lp_X6_size_18 (nI c) Le2 Ri2 Q (d + 1)) Q f (nI a) (nI b) (nI n) (nI k) := by
        intro a b ea eb x ex
        rw [nI_add] at ex
        have hb : a + b ≤ 2001 := by
          have u1 : (if 3 ≤ sy k then zs (le k) else 0) ≤ 1000 := by
            by_cases w : 3 ≤ sy k
            · rw [if_pos w]; exact zb _ (by have := n2 w; omega)
            · rw [if_neg w]; omega
          have u2 : (if 5 ≤ sy k then zs (ri k) else 0) ≤ 1000 := by
            by_cases w : 5 ≤ sy k
            · rw [if_pos w]; exact zb _ (by have := n3 w; omega)
            · rw [if_neg w]; omega
          omega
        have hzk : zs k = min 1000 (a + b) := by
          rw [hz, ea, eb]
          rfl
        have step : ∀ (f' : Nat → Int32) (y : Int32), f' = upd f (nI k).toNatClampNeg (nI (zs k)) → y = nI k + 1 → lp_X6_size_18 (nI c) Le2 Ri2 Q (d + 1) f' (nI n) y := by
          intro f' y ef ey
          rw [pn_clamp (by omega)] at ef
          rw [ey, nI_1]
          refine ih (k + 1) f' (by omega) (fun j hj => ?_)
          by_cases e2 : j = k
          · rw [ef, e2, pk_us]
          · rw [ef, pk_un e2]; exact hf j (by omega)
        rw [ex]
        refine ⟨fun w => ⟨vp_in_nI (by omega) (by decide), fun f' ef y ey => step f' y ?_ ey⟩, fun w => ⟨vp_in_nI (by omega) (by decide), fun f' ef y ey => step f' y ?_ ey⟩⟩
        · have := (nI_leI (a := a + b) (b := 1000) (by omega) (by decide)).mp w
          rw [ef, hzk, show min 1000 (a + b) = a + b by omega]
        · have : ¬ a + b ≤ 1000 := fun q => w ((nI_leI (a := a + b) (b := 1000) (by omega) (by decide)).mpr q)
          rw [ef, hzk, show min 1000 (a + b) = 1000 by omega]
          rfl
      have mid : ∀ b : Nat, b = (if 3 ≤ sy k then zs (le k) else 0) → wp_X6_size_48 (nI c) Le2 Ri2 (lp_X6_size_18 (nI c) Le2 Ri2 Q (d + 1)) Q f 1 (nI b) (nI n) (nI k) := by
        intro b eb
        refine ⟨vp_in_nI (by omega) (by decide), ?_⟩
        rw [pn_clamp (by omega), r3]
        have e1 : (1 : Int32) + nI b = nI (1 + b) := nI_add 1 b
        rw [e1]
        refine ps_child (fun w => by have := n3 w; omega) (fun w => ⟨vp_in_nI (by omega) (by decide), ?_⟩) (fun w => ?_)
        · have := n3 w
          rw [if_pos w]
          refine ⟨vp_in_nI (by omega) (by decide), ?_⟩
          rw [pn_clamp (by omega), hf _ (by omega)]
          exact fin _ _ (by rw [eb]) (by rw [if_pos w])
        · exact fin _ 0 (by rw [eb]) (by rw [if_neg w])
      rw [pn_clamp (by omega), r2]
      refine ps_child (fun w => by have := n2 w; omega) (fun w => ⟨vp_in_nI (by omega) (by decide), ?_⟩) (fun w => ?_)
      · have := n2 w
        rw [if_pos w]
        refine ⟨vp_in_nI (by omega) (by decide), ?_⟩
        rw [pn_clamp (by omega), hf _ (by omega)]
        exact mid _ (by rw [if_pos w])
      · exact mid 0 (by rw [if_neg w])
  unfold wp_X6_size wp_X6_size_in
  refine ps_within c (nI c - 1) (nI n) (ps_co h200) (fun q => absurd rfl (q n hn)) (fun _ _ _ => ps_b1 ?_)
  exact ⟨n + 2, main (n + 1) 0 Mn (by omega) (fun j hj => by omega)⟩
theorem po_size {Ma Co : Int32} {Le Ri Si Sy Le2 Ri2 Sy2 Mn : Nat → Int32} {c : Nat} {sy le ri zs : Nat → Nat} (h : iv_FC Ma Le Ri Si Sy c sy le ri zs) (h2 : iv_FR Co Le2 Ri2 Sy2 c sy le ri) (x1 : Int32) {K : Int32 → Int32 → (Nat → Int32) → Prop} (hK : ∀ r Mn', K r r Mn') :
    wp_X5_size Ma Si x1 (fun r => wp_X6_size Co Le2 Mn Ri2 x1 (fun r' Mn' => K r r' Mn')) := by
  obtain ⟨rfl, h200, h3⟩ := id h
  obtain ⟨rfl, h4⟩ := id h2
  unfold wp_X5_size wp_X5_size_in
  refine ps_holds (by omega) x1 (fun hn => ps_b0 ?_) (fun n hc en => ps_b1 ⟨by rw [en]; exact vp_in_nI (by omega) (by decide), ?_⟩)
  · unfold wp_X6_size wp_X6_size_in
    exact ps_within c (nI c - 1) x1 (ps_co h200) (fun _ => ps_b0 (hK _ _)) (fun j hj ej => absurd ej (hn j hj))
  · subst en
    rw [pn_clamp (by omega), (h3 n hc).2.2.1]
    exact ps_sizeR h h2 hc (fun Mn' => hK _ _)
/-- the reference's over -/
theorem ps_over {Co : Int32} {To : Nat → Int32} {t0 t1 : Nat → Nat} (hT : iv_to To t0 t1) {M S L R : Nat} (hM : M < 2) (hS : S < 8) (hL : L < 16) (hR : R < 16) {Q : Int32 → Prop} (hQ : Q (nI (pm_ov (fun k => (if M = 0 then t0 else t1) (16 * S + k)) L R))) :
    wp_X6_over Co To (nI M) (nI S) (nI L) (nI R) Q := by
  have inner : ∀ (K6 : Int32 → Int32 → Int32 → Int32 → Int32 → Int32 → Prop) (l : Nat), l < 4 → ∀ (A : Nat), (K6 (nI M) (nI S) (nI L) (nI R) (nI (A ||| pm_f (fun r => pm_oc (fun k => (if M = 0 then t0 else t1) (16 * S + k)) L R l r) 4)) (nI (l + 1))) →
      ∀ (d r : Nat), r + d = 4 → lp_X6_over_15 Co To K6 Q (d + 1) (nI M) (nI S) (nI L) (nI R) (nI (A ||| pm_f (fun r => pm_oc (fun k => (if M = 0 then t0 else t1) (16 * S + k)) L R l r) r)) (nI l) (nI r) := by
    intro K6 l hl A hK d
    induction d with
    | zero =>
      intro r e
      have e' : r = 4 := by omega
      subst e'
      refine ⟨fun _ y ey => ?_, fun w => absurd (by decide) w⟩
      rw [ey, nI_1]
      exact hK
    | succ d ih =>
      intro r e
      refine ⟨fun w => absurd ((nI_leI (a := 4) (b := r) (by decide) (by omega)).mp w) (by omega), fun _ => ?_⟩
      have nx : ∀ y : Int32, y = nI r + 1 → (pm_oc (fun k => (if M = 0 then t0 else t1) (16 * S + k)) L R l r = 0) → lp_X6_over_15 Co To K6 Q (d + 1) (nI M) (nI S) (nI L) (nI R) (nI (A ||| pm_f (fun r => pm_oc (fun k => (if M = 0 then t0 else t1) (16 * S + k)) L R l r) r)) (nI l) y := by
        intro y ey e0
        have := ih (r + 1) (by omega)
        rw [ey, nI_1]
        have e1 : pm_f (fun r => pm_oc (fun k => (if M = 0 then t0 else t1) (16 * S + k)) L R l r) (r + 1) = pm_f (fun r => pm_oc (fun k => (if M = 0 then t0 else t1) (16 * S + k)) L R l r) r := by
          show _ ||| pm_oc _ L R l r = _
          rw [e0, Nat.or_zero]
        rw [e1] at this
        exact this
      refine ⟨fun w1 => ⟨fun w2 => ?_, fun w2 y ey => nx y ey ?_⟩, fun w1 y ey => nx y ey ?_⟩
      · have ei : ((((128 : Int32) * nI M) + ((16 : Int32) * nI S)) + ((4 : Int32) * nI l)) + nI r = nI (128 * M + (16 * S + (4 * l + r))) := by
          rw [show (4 : Int32) = nI 4 from rfl, show (16 : Int32) = nI 16 from rfl, show (128 : Int32) = nI 128 from rfl, pk_mul, pk_mul, pk_mul, nI_add, nI_add, nI_add]
          congr 1
          omega
        rw [ei]
        refine ⟨vp_in_nI (by omega) (by decide), fun x ex y ey => ?_⟩
        rw [pn_clamp (by omega), iv_to_at hM (by omega) hT, pb_or] at ex
        have := ih (r + 1) (by omega)
        rw [ey, nI_1, ex]
        have e1 : A ||| pm_f (fun r => pm_oc (fun k => (if M = 0 then t0 else t1) (16 * S + k)) L R l r) r ||| (if M = 0 then t0 else t1) (16 * S + (4 * l + r)) = A ||| pm_f (fun r => pm_oc (fun k => (if M = 0 then t0 else t1) (16 * S + k)) L R l r) (r + 1) := by
          show _ = A ||| (_ ||| pm_oc _ L R l r)
          rw [← Nat.or_assoc]
          congr 1
          have hc : L.testBit l = true ∧ R.testBit r = true := ⟨(pb_is (by omega) (by omega)).mp w1, (pb_is (by omega) (by omega)).mp w2⟩
          unfold pm_oc
          rw [if_pos hc]
        rw [e1]
        exact this
      · unfold pm_oc
        rw [if_neg (fun q => w2 ((pb_is (by omega) (by omega)).mpr q.2))]
      · unfold pm_oc
        rw [if_neg (fun q => w1 ((pb_is (by omega) (by omega)).mpr q.1))]
  have outer : ∀ (d l : Nat), l + d = 4 → lp_X6_over_6 Co To Q (d + 1) (nI M) (nI S) (nI L) (nI R) (nI (pm_f (fun l => pm_f (fun r => pm_oc (fun k => (if M = 0 then t0 else t1) (16 * S + k)) L R l r) 4) l)) (nI l) := by
    intro d
    induction d with
    | zero =>
      intro l e
      have e' : l = 4 := by omega
      subst e'
      exact ⟨fun _ => hQ, fun w => absurd (by decide) w⟩
    | succ d ih =>
      intro l e
      refine ⟨fun w => absurd ((nI_leI (a := 4) (b := l) (by decide) (by omega)).mp w) (by omega), fun _ => ⟨5, ?_⟩⟩
      have := inner (lp_X6_over_6 Co To Q (d + 1)) l (by omega) (pm_f (fun l => pm_f (fun r => pm_oc (fun k => (if M = 0 then t0 else t1) (16 * S + k)) L R l r) 4) l) (ih (l + 1) (by omega)) 4 0 (by omega)
      rw [show pm_f (fun r => pm_oc (fun k => (if M = 0 then t0 else t1) (16 * S + k)) L R l r) 0 = 0 from rfl, Nat.or_zero] at this
      exact this
  exact ⟨5, outer 4 0 (by omega)⟩
theorem pn_lo {p : Nat} (h : p < 2 ^ 31) : nI p &&& 15 = nI (p % 16) := pk_andN (m := 15) (by omega) 4 (by decide)
theorem pn_hi {p : Nat} (h : p < 2 ^ 31) : nI p >>> ((4 : Int32) &&& 31) = nI (p / 16) := pk_shrN h _ 4 (by decide)
theorem ps_profile {Co : Int32} {To : Nat → Int32} {t0 t1 : Nat → Nat} (hT : iv_to To t0 t1) {S L R : Nat} (hS : S < 8) (hL : L < 256) (hR : R < 256) {Q : Int32 → Prop} (hQ : Q (nI (pm_pf t0 t1 S L R))) :
    wp_X6_profile Co To (nI S) (nI L) (nI R) Q := by
  unfold wp_X6_profile wp_X6_profile_in
  rw [pn_lo (by omega), pn_lo (by omega), pn_hi (by omega), pn_hi (by omega)]
  refine ps_over hT (M := 0) (by decide) hS (by omega) (by omega) (ps_over hT (M := 1) (by decide) hS (by omega) (by omega) ?_)
  rw [show (16 : Int32) = nI 16 from rfl, pk_mul, nI_add]
  exact hQ
/-- the class's profileOf -/
theorem ps_profileOf {fGo sGo : Int32} {fRe sRe : Nat → Int32} {t0 t1 : Nat → Nat} (h0 : ∀ k, t0 k < 16) (h1 : ∀ k, t1 k < 16) (b0 : iv_re fRe t0) (b1 : iv_re sRe t1) {S L R : Nat} (hS : S < 8) (hL : L < 256) (hR : R < 256) (c1 : S < 3 → L = 17) (c2 : S < 5 → R = 17) {Q : Int32 → Prop} (hQ : Q (nI (pm_pf t0 t1 S L R))) :
    wp_X4_profileOf fGo fRe sGo sRe (nI S) (nI L) (nI R) Q := by
  intro x4 e4 x5 e5
  rw [pn_lo (by omega), pn_lo (by omega), show (16 : Int32) = nI 16 from rfl, pk_mul, nI_add, pk_mul, nI_add] at e4
  rw [pn_hi (by omega), pn_hi (by omega), show (16 : Int32) = nI 16 from rfl, pk_mul, nI_add, pk_mul, nI_add] at e5
  subst e4; subst e5
  refine ⟨vp_in_nI (by omega) (by decide), vp_in_nI (by omega) (by decide), ?_⟩
  rw [pn_clamp (by omega), pn_clamp (by omega), b0 S hS (L % 16) (R % 16) (by omega) (by omega) (fun q => by have := c1 q; omega) (fun q => by have := c2 q; omega), b1 S hS (L / 16) (R / 16) (by omega) (by omega) (fun q => by have := c1 q; omega) (fun q => by have := c2 q; omega)]
  have u1 := pm_ov_lt (t := fun k => t0 (16 * S + k)) (fun k => h0 _) (L % 16) (R % 16)
  have u2 := pm_ov_lt (t := fun k => t1 (16 * S + k)) (fun k => h1 _) (L / 16) (R / 16)
  have e : nI (pm_ov (fun k => t1 (16 * S + k)) (L / 16) (R / 16)) <<< ((4 : Int32) &&& 31) = nI (pm_ov (fun k => t1 (16 * S + k)) (L / 16) (R / 16) * 16) := pk_shlN (n := pm_ov (fun k => t1 (16 * S + k)) (L / 16) (R / 16)) ((4 : Int32) &&& 31) 4 (by decide) (by omega)
  rw [e, pb_or, pm_or16 _ u1 _ u2]
  exact hQ
/-- the place of a profile -/
def pm_pl (g0 g1 p : Nat) : Nat := (if (p % 16) &&& g0 = 0 then 0 else 2) + (if (p / 16) &&& g1 = 0 then 0 else 1)
theorem pm_pl_lt {g0 g1 p : Nat} : pm_pl g0 g1 p < 4 := by
  unfold pm_pl
  by_cases a : (p % 16) &&& g0 = 0 <;> by_cases b : (p / 16) &&& g1 = 0 <;> simp [a, b]
theorem pn_and0 {a b : Nat} (ha : a < 16) : (nI a &&& nI b) = 0 ↔ a &&& b = 0 := by
  rw [pb_and]
  have : a &&& b ≤ a := Nat.and_le_left
  exact nI_eq (a := a &&& b) (b := 0) (by omega) (by decide)
theorem ps_accepts {Q : Int32 → Prop} {a g : Nat} (ha : a < 16) (h0 : a &&& g = 0 → Q 0) (h1 : ¬ a &&& g = 0 → Q 1) : wp_X3_accepts (nI g) (nI a) Q := ⟨fun c => h0 ((pn_and0 ha).mp c), fun c => h1 (fun q => c ((pn_and0 ha).mpr q))⟩
theorem ps_placeOf {g0 g1 p : Nat} (hp : p < 256) {Q : Int32 → Prop} (hQ : Q (nI (pm_pl g0 g1 p))) : wp_X4_placeOf (nI g0) (nI g1) (nI p) Q := by
  unfold wp_X4_placeOf wp_X4_placeOf_in wp_X5_firstSet wp_X5_firstSet_in
  rw [pn_lo (by omega)]
  have k19 : ∀ z : Nat, z = (if (p % 16) &&& g0 = 0 then 0 else 2) → wp_X4_placeOf_19 (nI g0) (nI g1) Q (nI z) (nI p) := by
    intro z ez
    unfold wp_X4_placeOf_19 wp_X5_secondSet wp_X5_secondSet_in
    rw [pn_hi (by omega), pn_lo (by omega), show p / 16 % 16 = p / 16 by omega]
    refine ps_accepts (by omega) (fun w => ps_b0 ?_) (fun w => ps_b1 ?_)
    · have e : nI z = nI (pm_pl g0 g1 p) := by unfold pm_pl; rw [if_pos w, ← ez]; rfl
      rw [e]; exact hQ
    · have e : nI z + 1 = nI (pm_pl g0 g1 p) := by unfold pm_pl; rw [if_neg w, ← ez, nI_1]
      rw [e]; exact hQ
  refine ps_accepts (by omega) (fun w => ps_b0 (k19 0 (by rw [if_pos w]))) (fun w => ps_b1 (k19 2 (by rw [if_neg w])))
theorem ps_placeOfR {Co : Int32} {Go : Nat → Int32} {g0 g1 p : Nat} (e0 : Go 0 = nI g0) (e1 : Go 1 = nI g1) (hp : p < 256) {Q : Int32 → Prop} (hQ : Q (nI (pm_pl g0 g1 p))) : wp_X6_placeOf Co Go (nI p) Q := by
  unfold wp_X6_placeOf wp_X6_placeOf_in
  rw [pn_lo (by omega), show (0 : Int32).toNatClampNeg = 0 from rfl, e0]
  have k19 : ∀ z : Nat, z = (if (p % 16) &&& g0 = 0 then 0 else 2) → wp_X6_placeOf_19 Co Go Q (nI z) (nI p) := by
    intro z ez
    unfold wp_X6_placeOf_19
    rw [pn_hi (by omega), show (1 : Int32).toNatClampNeg = 1 from by decide, e1]
    refine ⟨vp_in_nI (n := 1) (by decide) (by decide), fun w => ?_, fun w => ?_⟩
    · have w' := (pn_and0 (a := p / 16) (b := g1) (by omega)).mp w
      have e : nI z + 0 = nI (pm_pl g0 g1 p) := by unfold pm_pl; rw [if_pos w', ← ez]; exact nI_add z 0
      rw [e]; exact hQ
    · have w' : ¬ (p / 16) &&& g1 = 0 := fun q => w ((pn_and0 (a := p / 16) (b := g1) (by omega)).mpr q)
      have e : nI z + 1 = nI (pm_pl g0 g1 p) := by unfold pm_pl; rw [if_neg w', ← ez, nI_1]
      rw [e]; exact hQ
  refine ⟨vp_in_nI (n := 0) (by decide) (by decide), fun w => k19 0 ?_, fun w => k19 2 ?_⟩
  · rw [if_pos ((pn_and0 (a := p % 16) (b := g0) (by omega)).mp w)]
  · rw [if_neg (fun q => w ((pn_and0 (a := p % 16) (b := g0) (by omega)).mpr q))]
/-- the profiles of the nodes -/
def pm_P (pf : Nat → Nat → Nat → Nat) (sy le ri P : Nat → Nat) (i : Nat) : Nat := pf (sy i) (if 3 ≤ sy i then P (le i) else 17) (if 5 ≤ sy i then P (ri i) else 17)
theorem pm_P_ex (pf : Nat → Nat → Nat → Nat) {sy le ri : Nat → Nat} {c : Nat} (h : ∀ i, i < c → iv_nd sy le ri i) : ∀ k, k ≤ c → ∃ P : Nat → Nat, ∀ i, i < k → P i = pm_P pf sy le ri P i := by
  intro k
  induction k with
  | zero => exact fun _ => ⟨fun _ => 0, fun i hi => by omega⟩
  | succ k ih =>
    intro hk
    obtain ⟨P, hP⟩ := ih (by omega)
    refine ⟨pm_up P k (pm_P pf sy le ri P k), fun i hi => ?_⟩
    obtain ⟨-, n2, n3⟩ := h i (by omega)
    have key : ∀ i, i ≤ k → (3 ≤ sy i → le i < i) → (5 ≤ sy i → ri i < i) → pm_P pf sy le ri (pm_up P k (pm_P pf sy le ri P k)) i = pm_P pf sy le ri P i := by
      intro i hi a1 a2
      have c1 : (if 3 ≤ sy i then pm_up P k (pm_P pf sy le ri P k) (le i) else 17) = (if 3 ≤ sy i then P (le i) else 17) := by
        by_cases w : 3 ≤ sy i
        · have := a1 w
          rw [if_pos w, if_pos w, pm_up_n (by omega)]
        · rw [if_neg w, if_neg w]
      have c2 : (if 5 ≤ sy i then pm_up P k (pm_P pf sy le ri P k) (ri i) else 17) = (if 5 ≤ sy i then P (ri i) else 17) := by
        by_cases w : 5 ≤ sy i
        · have := a2 w
          rw [if_pos w, if_pos w, pm_up_n (by omega)]
        · rw [if_neg w, if_neg w]
      show pf (sy i) (if 3 ≤ sy i then pm_up P k (pm_P pf sy le ri P k) (le i) else 17) (if 5 ≤ sy i then pm_up P k (pm_P pf sy le ri P k) (ri i) else 17) = _
      rw [c1, c2]
      rfl
    rw [key i (by omega) n2 n3]
    by_cases e : i = k
    · subst e
      exact pm_up_s
    · rw [pm_up_n e]
      exact hP i (by omega)
