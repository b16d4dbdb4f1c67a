/-! the reference's offer -/
theorem pm_lx_ix : ∀ (a b : List Nat) (d : Nat), d < a.length → d < b.length → (∀ j, j < d → a.getD j 0 = b.getD j 0) → a.getD d 0 < b.getD d 0 → pm_lx a b
  | [], _, d, h, _, _, _ => by simp at h
  | _ :: _, [], d, _, h, _, _ => by simp at h
  | a :: as, b :: bs, 0, _, _, _, h => Or.inl (by simpa using h)
  | a :: as, b :: bs, d + 1, h1, h2, h3, h4 => Or.inr ⟨by simpa using h3 0 (by omega), pm_lx_ix as bs d (by simpa using h1) (by simpa using h2) (fun j hj => by simpa using h3 (j + 1) (by omega)) (by simpa using h4)⟩
theorem pm_eq_ix : ∀ (a b : List Nat), a.length = b.length → (∀ j, j < a.length → a.getD j 0 = b.getD j 0) → a = b
  | [], [], _, _ => rfl
  | [], _ :: _, h, _ => by simp at h
  | _ :: _, [], h, _ => by simp at h
  | a :: as, b :: bs, h1, h2 => by
    have e1 : a = b := by simpa using h2 0 (by simp)
    have e2 := pm_eq_ix as bs (by simpa using h1) (fun j hj => by simpa using h2 (j + 1) (by simpa using hj))
    rw [e1, e2]
theorem pm_gd_c {s j : Nat} {l : List Nat} : (s :: l).getD (j + 1) 0 = l.getD j 0 := by simp
theorem pm_gd_l {a b : List Nat} {j : Nat} (h : j < a.length) : (a ++ b).getD j 0 = a.getD j 0 := by
  simp [List.getD, List.getElem?_append_left h]
theorem pm_gd_r {a b : List Nat} {j : Nat} : (a ++ b).getD (a.length + j) 0 = b.getD j 0 := by
  simp [List.getD, List.getElem?_append_right]
theorem pm_by8 : ∀ a, a < 8 → vp_nar .byte (nI a) = nI a ∧ (nI a).toInt8.toInt32 = nI a := by decide +kernel
/-- lengths and writings, as the reference holds them -/
def iv_tb (Ln Wr : Nat → Int32) (ln : Nat → Nat) (W : Nat → List Nat) : Prop :=
  ∀ p, p < 256 → Ln p = nI (ln p) ∧ ln p ≤ 33 ∧ (1 ≤ ln p → ln p ≤ 32 → (W p).length = ln p ∧ ∀ k, k < ln p → (W p).getD k 0 < 8 ∧ Wr (32 * p + k) = nI ((W p).getD k 0))
def pm_ll (s : Nat) (ln : Nat → Nat) (l : Nat) : Nat := if 3 ≤ s then ln l else 0
def pm_rl (s : Nat) (ln : Nat → Nat) (r : Nat) : Nat := if 5 ≤ s then ln r else 0
def pm_lw (s : Nat) (W : Nat → List Nat) (l : Nat) : List Nat := if 3 ≤ s then W l else []
def pm_rw (s : Nat) (W : Nat → List Nat) (r : Nat) : List Nat := if 5 ≤ s then W r else []
def pm_cn (s : Nat) (ln : Nat → Nat) (l r : Nat) : Nat := pm_cap (1 + pm_ll s ln l + pm_rl s ln r)
def pm_cw (s : Nat) (W : Nat → List Nat) (l r : Nat) : List Nat := s :: (pm_lw s W l ++ pm_rw s W r)
def pm_upW (W : Nat → List Nat) (p : Nat) (V : List Nat) : Nat → List Nat := fun q => if q = p then V else W q
theorem pn_ge {a b : Nat} (ha : a < 2 ^ 31) (hb : b < 2 ^ 31) : ¬ nI a ≤ nI b ↔ b < a := by
  rw [nI_leI ha hb]
  omega
theorem ps_offer {Co : Int32} {To Ln Tr Wr : Nat → Int32} {t0 t1 ln : Nat → Nat} {W : Nat → List Nat} {s l r : Nat} (h0 : ∀ k, t0 k < 16) (h1 : ∀ k, t1 k < 16) (hT : iv_to To t0 t1) (ht : iv_tb Ln Wr ln W) (hs : s < 8) (hl : l < 256) (hr : r < 256) (vl : 3 ≤ s → ln l ≠ 0) (vr : 5 ≤ s → ln r ≠ 0)
    {Q : Int32 → (Nat → Int32) → (Nat → Int32) → (Nat → Int32) → Prop}
    (q0 : pm_be (ln (pm_pf t0 t1 s l r)) (W (pm_pf t0 t1 s l r)) (pm_cn s ln l r) (pm_cw s W l r) → ∀ Tr', Q 0 Ln Tr' Wr)
    (q1 : ¬ pm_be (ln (pm_pf t0 t1 s l r)) (W (pm_pf t0 t1 s l r)) (pm_cn s ln l r) (pm_cw s W l r) → ∀ Ln' Tr' Wr', iv_tb Ln' Wr' (pm_up ln (pm_pf t0 t1 s l r) (pm_cn s ln l r)) (pm_upW W (pm_pf t0 t1 s l r) (pm_cw s W l r)) → Q 1 Ln' Tr' Wr') :
    wp_X6_offer Co Ln To Tr Wr (nI s) (nI l) (nI r) Q := by
  have hp := pm_pf_lt h0 h1 s l r
  obtain ⟨eLp, bp, tp⟩ := ht _ hp
  obtain ⟨eLl, bl, tl⟩ := ht l hl
  obtain ⟨eLr, br, tr⟩ := ht r hr
  have bll : pm_ll s ln l ≤ 33 := by unfold pm_ll; split <;> omega
  have brl : pm_rl s ln r ≤ 33 := by unfold pm_rl; split <;> omega
  have bn : pm_cn s ln l r ≤ 33 ∧ 1 ≤ pm_cn s ln l r := by unfold pm_cn pm_cap; split <;> omega
  -- the tables with an entry put
  have put33 : pm_cn s ln l r = 33 → ∀ Ln', Ln' = upd Ln (pm_pf t0 t1 s l r) (nI (pm_cn s ln l r)) → iv_tb Ln' Wr (pm_up ln (pm_pf t0 t1 s l r) (pm_cn s ln l r)) (pm_upW W (pm_pf t0 t1 s l r) (pm_cw s W l r)) := by
    intro e Ln' eL q hq
    by_cases eq : q = pm_pf t0 t1 s l r
    · rw [eq, eL, pk_us, pm_up_s]
      exact ⟨rfl, by omega, fun _ w => by omega⟩
    · rw [eL, pk_un eq, pm_up_n eq]
      unfold pm_upW
      rw [if_neg eq]
      exact ht q hq
  -- end: the length is put
  have k330 : ∀ Tr' Wr', iv_tb (upd Ln (pm_pf t0 t1 s l r) (nI (pm_cn s ln l r))) Wr' (pm_up ln (pm_pf t0 t1 s l r) (pm_cn s ln l r)) (pm_upW W (pm_pf t0 t1 s l r) (pm_cw s W l r)) → ¬ pm_be (ln (pm_pf t0 t1 s l r)) (W (pm_pf t0 t1 s l r)) (pm_cn s ln l r) (pm_cw s W l r) → wp_X6_offer_330 Co To Q Ln Tr' Wr' (nI (pm_pf t0 t1 s l r)) (nI (pm_cn s ln l r)) := by
    intro Tr' Wr' hi hn
    refine ⟨vp_in_nI hp (by decide), fun f ef => ?_⟩
    rw [pn_clamp (by omega)] at ef
    rw [ef]
    exact q1 hn _ _ _ hi
  -- what is known where the candidate is small
  have small : pm_cn s ln l r ≤ 32 → pm_cn s ln l r = 1 + pm_ll s ln l + pm_rl s ln r ∧ (pm_lw s W l).length = pm_ll s ln l ∧ (pm_rw s W r).length = pm_rl s ln r ∧ (∀ k, k < pm_ll s ln l → (pm_lw s W l).getD k 0 < 8 ∧ Wr (32 * l + k) = nI ((pm_lw s W l).getD k 0)) ∧ (∀ k, k < pm_rl s ln r → (pm_rw s W r).getD k 0 < 8 ∧ Wr (32 * r + k) = nI ((pm_rw s W r).getD k 0)) := by
    intro hsm
    have e1 : pm_cn s ln l r = 1 + pm_ll s ln l + pm_rl s ln r := by
      unfold pm_cn pm_cap at hsm ⊢
      split at hsm
      · omega
      · rename_i w; rw [if_neg w]
    refine ⟨e1, ?_, ?_, ?_, ?_⟩
    · unfold pm_lw pm_ll
      by_cases w : 3 ≤ s
      · rw [if_pos w, if_pos w]
        have u : pm_ll s ln l = ln l := by unfold pm_ll; rw [if_pos w]
        have := vl w
        exact (tl (by omega) (by omega)).1
      · rw [if_neg w, if_neg w]; rfl
    · unfold pm_rw pm_rl
      by_cases w : 5 ≤ s
      · rw [if_pos w, if_pos w]
        have u : pm_rl s ln r = ln r := by unfold pm_rl; rw [if_pos w]
        have := vr w
        exact (tr (by omega) (by omega)).1
      · rw [if_neg w, if_neg w]; rfl
    · intro k hk
      by_cases w : 3 ≤ s
      · have u : pm_ll s ln l = ln l := by unfold pm_ll; rw [if_pos w]
        have := vl w
        unfold pm_lw
        rw [if_pos w]
        exact (tl (by omega) (by omega)).2 k (by omega)
      · have u : pm_ll s ln l = 0 := by unfold pm_ll; rw [if_neg w]
        omega
    · intro k hk
      by_cases w : 5 ≤ s
      · have u : pm_rl s ln r = ln r := by unfold pm_rl; rw [if_pos w]
        have := vr w
        unfold pm_rw
        rw [if_pos w]
        exact (tr (by omega) (by omega)).2 k (by omega)
      · have u : pm_rl s ln r = 0 := by unfold pm_rl; rw [if_neg w]
        omega
  -- the trial's words
  have gV : pm_cn s ln l r ≤ 32 → (pm_cw s W l r).length = pm_cn s ln l r ∧ (∀ j, j < pm_cn s ln l r → (pm_cw s W l r).getD j 0 < 8) ∧ (pm_cw s W l r).getD 0 0 = s ∧ (∀ k, k < pm_ll s ln l → (pm_cw s W l r).getD (1 + k) 0 = (pm_lw s W l).getD k 0) ∧ (∀ k, k < pm_rl s ln r → (pm_cw s W l r).getD (1 + pm_ll s ln l + k) 0 = (pm_rw s W r).getD k 0) := by
    intro hsm
    obtain ⟨e1, e2, e3, e4, e5⟩ := small hsm
    have a1 : ∀ k, k < pm_ll s ln l → (pm_cw s W l r).getD (1 + k) 0 = (pm_lw s W l).getD k 0 := by
      intro k hk
      unfold pm_cw
      rw [Nat.add_comm 1 k, pm_gd_c, pm_gd_l (by omega)]
    have a2 : ∀ k, k < pm_rl s ln r → (pm_cw s W l r).getD (1 + pm_ll s ln l + k) 0 = (pm_rw s W r).getD k 0 := by
      intro k hk
      unfold pm_cw
      rw [show 1 + pm_ll s ln l + k = ((pm_lw s W l).length + k) + 1 by omega, pm_gd_c, pm_gd_r]
    refine ⟨?_, ?_, rfl, a1, a2⟩
    · unfold pm_cw
      rw [List.length_cons, List.length_append, e2, e3]
      omega
    · intro j hj
      by_cases w0 : j = 0
      · rw [w0]; exact hs
      · by_cases w1 : j < 1 + pm_ll s ln l
        · have := a1 (j - 1) (by omega)
          rw [show 1 + (j - 1) = j by omega] at this
          rw [this]
          exact (e4 _ (by omega)).1
        · have := a2 (j - 1 - pm_ll s ln l) (by omega)
          rw [show 1 + pm_ll s ln l + (j - 1 - pm_ll s ln l) = j by omega] at this
          rw [this]
          exact (e5 _ (by omega)).1
  -- the last loop: the trial becomes the writing
  have k297 : ∀ Tr' : Nat → Int32, pm_cn s ln l r ≤ 32 → (∀ j, j < pm_cn s ln l r → Tr' j = nI ((pm_cw s W l r).getD j 0)) → ¬ pm_be (ln (pm_pf t0 t1 s l r)) (W (pm_pf t0 t1 s l r)) (pm_cn s ln l r) (pm_cw s W l r) → ∃ n : Nat, lp_X6_offer_297 Co To Q n Ln Tr' Wr (nI (pm_pf t0 t1 s l r)) (nI (pm_cn s ln l r)) 0 := by
    intro Tr' hsm hTr hn
    obtain ⟨g1, g2, -⟩ := gV hsm
    have main : ∀ (d k : Nat) (f : Nat → Int32), k + d = pm_cn s ln l r → (∀ i, (∀ j, j < 32 → i ≠ 32 * pm_pf t0 t1 s l r + j) → f i = Wr i) → (∀ j, j < k → f (32 * pm_pf t0 t1 s l r + j) = nI ((pm_cw s W l r).getD j 0)) → lp_X6_offer_297 Co To Q (d + 1) Ln Tr' f (nI (pm_pf t0 t1 s l r)) (nI (pm_cn s ln l r)) (nI k) := by
      intro d
      induction d with
      | zero =>
        intro k f e f1 f2
        refine ⟨fun _ => k330 _ _ ?_ hn, fun w => absurd (nI_le (by omega) (by omega)) w⟩
        intro q hq
        by_cases eq : q = pm_pf t0 t1 s l r
        · rw [eq, pk_us, pm_up_s]
          unfold pm_upW
          rw [if_pos rfl]
          exact ⟨rfl, bn.1, fun _ _ => ⟨g1, fun j hj => ⟨g2 j hj, f2 j (by omega)⟩⟩⟩
        · rw [pk_un eq, pm_up_n eq]
          unfold pm_upW
          rw [if_neg eq]
          obtain ⟨u1, u2, u3⟩ := ht q hq
          refine ⟨u1, u2, fun w1 w2 => ⟨(u3 w1 w2).1, fun j hj => ⟨((u3 w1 w2).2 j hj).1, ?_⟩⟩⟩
          rw [f1 _ (fun j' hj' => by omega)]
          exact ((u3 w1 w2).2 j hj).2
      | succ d ih =>
        intro k f e f1 f2
        have ei : ((32 : Int32) * nI (pm_pf t0 t1 s l r)) + nI k = nI (32 * pm_pf t0 t1 s l r + k) := by
          rw [show (32 : Int32) = nI 32 from rfl, pk_mul, nI_add]
        refine ⟨fun w => absurd w (nI_ge (by omega) (by omega)), fun _ => ⟨vp_in_nI (by omega) (by decide), ?_⟩⟩
        rw [ei]
        refine ⟨vp_in_nI (by omega) (by decide), fun f' ef y ey => ?_⟩
        rw [pn_clamp (by omega), pn_clamp (by omega), hTr k (by omega), (pm_by8 _ (g2 k (by omega))).1] at ef
        rw [ey, nI_1]
        refine ih (k + 1) f' (by omega) (fun i hi => ?_) (fun j hj => ?_)
        · rw [ef, pk_un (hi k (by omega))]
          exact f1 i hi
        · by_cases e2 : j = k
          · rw [ef, e2, pk_us]
          · rw [ef, pk_un (by omega)]
            exact f2 j (by omega)
    exact ⟨_, main (pm_cn s ln l r) 0 Wr (by omega) (fun _ _ => rfl) (fun j hj => by omega)⟩
  -- the comparison
  have k226 : ∀ Tr' : Nat → Int32, pm_cn s ln l r ≤ 32 → (∀ j, j < pm_cn s ln l r → Tr' j = nI ((pm_cw s W l r).getD j 0)) → ln (pm_pf t0 t1 s l r) = pm_cn s ln l r → ∃ n : Nat, lp_X6_offer_226 Co To Q n Ln Tr' Wr (nI (pm_pf t0 t1 s l r)) (nI (pm_cn s ln l r)) 0 := by
    intro Tr' hsm hTr heq
    obtain ⟨g1, g2, -⟩ := gV hsm
    obtain ⟨p1, p2⟩ := tp (by omega) (by omega)
    have ei : ∀ k, ((32 : Int32) * nI (pm_pf t0 t1 s l r)) + nI k = nI (32 * pm_pf t0 t1 s l r + k) := by
      intro k
      rw [show (32 : Int32) = nI 32 from rfl, pk_mul, nI_add]
    have k262 : ∀ d, d ≤ pm_cn s ln l r → (∀ j, j < d → (pm_cw s W l r).getD j 0 = (W (pm_pf t0 t1 s l r)).getD j 0) → (d < pm_cn s ln l r → (pm_cw s W l r).getD d 0 ≠ (W (pm_pf t0 t1 s l r)).getD d 0) → wp_X6_offer_262 Co To Q Ln Tr' Wr (nI (pm_pf t0 t1 s l r)) (nI (pm_cn s ln l r)) (nI d) := by
      intro d hd he hne
      refine ⟨fun e => ?_, fun e => ?_⟩
      · have : d = pm_cn s ln l r := (nI_eq (by omega) (by omega)).mp e
        have e2 : pm_cw s W l r = W (pm_pf t0 t1 s l r) := pm_eq_ix _ _ (by omega) (fun j hj => he j (by omega))
        exact q0 ⟨by omega, Or.inr ⟨heq, Or.inr (by rw [e2]; exact pm_lx_irr _)⟩⟩ _
      · have hd2 : d < pm_cn s ln l r := by
          have : d ≠ pm_cn s ln l r := fun q => e (by rw [q])
          omega
        refine ⟨vp_in_nI (by omega) (by decide), ?_⟩
        rw [ei d]
        refine ⟨vp_in_nI (by omega) (by decide), ?_⟩
        rw [pn_clamp (by omega), pn_clamp (by omega), hTr d hd2, (p2 d (by omega)).2]
        have b1 := g2 d hd2
        have b2 := (p2 d (by omega)).1
        refine ⟨fun w => k297 Tr' hsm hTr ?_, fun w => q0 ?_ _⟩
        · have w' := (nI_leI (by omega) (by omega)).mp w
          have lt : (pm_cw s W l r).getD d 0 < (W (pm_pf t0 t1 s l r)).getD d 0 := by
            have := hne hd2
            omega
          rintro ⟨-, q | ⟨-, q | q⟩⟩
          · omega
          · omega
          · exact q (pm_lx_ix _ _ d (by omega) (by omega) he lt)
        · have w' := (pn_ge (by omega) (by omega)).mp w
          exact ⟨by omega, Or.inr ⟨heq, Or.inr (pm_lx_as (pm_lx_ix _ _ d (by omega) (by omega) (fun j hj => (he j hj).symm) w'))⟩⟩
    have main : ∀ (m d : Nat), d + m = pm_cn s ln l r → (∀ j, j < d → (pm_cw s W l r).getD j 0 = (W (pm_pf t0 t1 s l r)).getD j 0) → lp_X6_offer_226 Co To Q (m + 1) Ln Tr' Wr (nI (pm_pf t0 t1 s l r)) (nI (pm_cn s ln l r)) (nI d) := by
      intro m
      induction m with
      | zero =>
        intro d e he
        exact ⟨fun _ => k262 d (by omega) he (fun q => by omega), fun w => absurd (nI_le (by omega) (by omega)) w⟩
      | succ m ih =>
        intro d e he
        refine ⟨fun w => absurd w (nI_ge (by omega) (by omega)), fun _ => ⟨vp_in_nI (by omega) (by decide), ?_⟩⟩
        rw [ei d]
        refine ⟨vp_in_nI (by omega) (by decide), ?_⟩
        rw [pn_clamp (by omega), pn_clamp (by omega), hTr d (by omega), (p2 d (by omega)).2]
        have b1 := g2 d (by omega)
        have b2 := (p2 d (by omega)).1
        refine ⟨fun w y ey => ?_, fun w => k262 d (by omega) he (fun _ q => w (by rw [q]))⟩
        rw [ey, nI_1]
        refine ih (d + 1) (by omega) (fun j hj => ?_)
        by_cases e2 : j = d
        · rw [e2]; exact (nI_eq (by omega) (by omega)).mp w
        · exact he j (by omega)
    exact ⟨_, main (pm_cn s ln l r) 0 (by omega) (fun j hj => by omega)⟩
  -- building the trial
  have k137 : ¬ (ln (pm_pf t0 t1 s l r) ≠ 0 ∧ ln (pm_pf t0 t1 s l r) < pm_cn s ln l r) → pm_cn s ln l r ≤ 32 → ∀ Tr' : Nat → Int32, Tr' 0 = nI s → ∃ n : Nat, lp_X6_offer_137 Co To Q n Ln Tr' Wr (nI l) (nI r) (nI (pm_pf t0 t1 s l r)) (nI (pm_ll s ln l)) (nI (pm_rl s ln r)) (nI (pm_cn s ln l r)) 0 := by
    intro hnb hsm Tr' hT0
    obtain ⟨e1, e2, e3, e4, e5⟩ := small hsm
    obtain ⟨g1, g2, g3, g4, g5⟩ := gV hsm
    have right : ∀ (d k : Nat) (f : Nat → Int32), k + d = pm_rl s ln r → (∀ j, j < 1 + pm_ll s ln l + k → f j = nI ((pm_cw s W l r).getD j 0)) → lp_X6_offer_174 Co To Q (d + 1) Ln f Wr (nI r) (nI (pm_pf t0 t1 s l r)) (nI (pm_ll s ln l)) (nI (pm_rl s ln r)) (nI (pm_cn s ln l r)) (nI k) := by
      intro d
      induction d with
      | zero =>
        intro k f e hf
        refine ⟨fun _ => ⟨vp_in_nI hp (by decide), ?_⟩, fun w => absurd (nI_le (by omega) (by omega)) w⟩
        rw [pn_clamp (by omega), eLp]
        refine ⟨fun w => k226 f hsm (fun j hj => hf j (by omega)) ((nI_eq (by omega) (by omega)).mp w), fun w => k297 f hsm (fun j hj => hf j (by omega)) ?_⟩
        have w' : ln (pm_pf t0 t1 s l r) ≠ pm_cn s ln l r := fun q => w (by rw [q])
        rintro ⟨c0, q | ⟨q, -⟩⟩
        · exact hnb ⟨c0, q⟩
        · exact w' q
      | succ d ih =>
        intro k f e hf
        have ei : ((32 : Int32) * nI r) + nI k = nI (32 * r + k) := by
          rw [show (32 : Int32) = nI 32 from rfl, pk_mul, nI_add]
        have ej : ((1 : Int32) + nI (pm_ll s ln l)) + nI k = nI (1 + pm_ll s ln l + k) := by
          rw [show (1 : Int32) = nI 1 from rfl, nI_add, nI_add]
        refine ⟨fun w => absurd w (nI_ge (by omega) (by omega)), fun _ => ?_⟩
        rw [ei, ej]
        refine ⟨vp_in_nI (by omega) (by decide), vp_in_nI (by omega) (by decide), fun f' ef y ey => ?_⟩
        rw [pn_clamp (by omega), pn_clamp (by omega), (e5 k (by omega)).2, (pm_by8 _ (e5 k (by omega)).1).1, ← g5 k (by omega)] at ef
        rw [ey, nI_1]
        refine ih (k + 1) f' (by omega) (fun j hj => ?_)
        by_cases e6 : j = 1 + pm_ll s ln l + k
        · rw [ef, e6, pk_us]
        · rw [ef, pk_un e6]; exact hf j (by omega)
    have left : ∀ (d k : Nat) (f : Nat → Int32), k + d = pm_ll s ln l → (∀ j, j < 1 + k → f j = nI ((pm_cw s W l r).getD j 0)) → lp_X6_offer_137 Co To Q (d + 1) Ln f Wr (nI l) (nI r) (nI (pm_pf t0 t1 s l r)) (nI (pm_ll s ln l)) (nI (pm_rl s ln r)) (nI (pm_cn s ln l r)) (nI k) := by
      intro d
      induction d with
      | zero =>
        intro k f e hf
        exact ⟨fun _ => ⟨_, right (pm_rl s ln r) 0 f (by omega) (fun j hj => hf j (by omega))⟩, fun w => absurd (nI_le (by omega) (by omega)) w⟩
      | succ d ih =>
        intro k f e hf
        have ei : ((32 : Int32) * nI l) + nI k = nI (32 * l + k) := by
          rw [show (32 : Int32) = nI 32 from rfl, pk_mul, nI_add]
        have ej : (1 : Int32) + nI k = nI (1 + k) := nI_add 1 k
        refine ⟨fun w => absurd w (nI_ge (by omega) (by omega)), fun _ => ?_⟩
        rw [ei, ej]
        refine ⟨vp_in_nI (by omega) (by decide), vp_in_nI (by omega) (by decide), fun f' ef y ey => ?_⟩
        rw [pn_clamp (by omega), pn_clamp (by omega), (e4 k (by omega)).2, (pm_by8 _ (e4 k (by omega)).1).1, ← g4 k (by omega)] at ef
        rw [ey, nI_1]
        refine ih (k + 1) f' (by omega) (fun j hj => ?_)
        by_cases e6 : j = 1 + k
        · rw [ef, e6, pk_us]
        · rw [ef, pk_un e6]; exact hf j (by omega)
    refine ⟨_, left (pm_ll s ln l) 0 Tr' (by omega) (fun j hj => ?_)⟩
    rw [show j = 0 by omega, hT0, g3]
  have k119 : ¬ (ln (pm_pf t0 t1 s l r) ≠ 0 ∧ ln (pm_pf t0 t1 s l r) < pm_cn s ln l r) → (pm_cn s ln l r = 33 → ln (pm_pf t0 t1 s l r) ≠ 33) → wp_X6_offer_119 Co To Q Ln Tr Wr (nI s) (nI l) (nI r) (nI (pm_pf t0 t1 s l r)) (nI (pm_ll s ln l)) (nI (pm_rl s ln r)) (nI (pm_cn s ln l r)) := by
    intro c1 c2
    refine ⟨fun w => ?_, fun w => ⟨vp_in_nI (n := 0) (by decide) (by decide), fun f ef => ?_⟩⟩
    · have w' := (nI_leI (a := 33) (b := pm_cn s ln l r) (by decide) (by omega)).mp w
      have e : pm_cn s ln l r = 33 := by omega
      refine k330 Tr Wr (put33 e _ rfl) ?_
      rintro ⟨z, q | ⟨q, -⟩⟩
      · exact c1 ⟨z, q⟩
      · exact c2 e (by omega)
    · have w' : ¬ 33 ≤ pm_cn s ln l r := fun q => w ((nI_leI (a := 33) (b := pm_cn s ln l r) (by decide) (by omega)).mpr q)
      refine k137 c1 (by omega) f ?_
      rw [ef, show (0 : Int32).toNatClampNeg = 0 from rfl, pk_us, (pm_by8 s hs).2, (pm_by8 s hs).1]
  have k98 : ¬ (ln (pm_pf t0 t1 s l r) ≠ 0 ∧ ln (pm_pf t0 t1 s l r) < pm_cn s ln l r) → wp_X6_offer_98 Co To Q Ln Tr Wr (nI s) (nI l) (nI r) (nI (pm_pf t0 t1 s l r)) (nI (pm_ll s ln l)) (nI (pm_rl s ln r)) (nI (pm_cn s ln l r)) := by
    intro c1
    refine ⟨fun w => ⟨vp_in_nI hp (by decide), ?_⟩, fun w => k119 c1 (fun q => absurd (by rw [q]; rfl) w)⟩
    have w' : pm_cn s ln l r = 33 := (nI_eq (a := pm_cn s ln l r) (b := 33) (by omega) (by decide)).mp w
    rw [pn_clamp (by omega), eLp]
    refine ⟨fun v => q0 ?_ _, fun v => k119 c1 (fun _ q => v (by rw [q]; rfl))⟩
    have v' : ln (pm_pf t0 t1 s l r) = 33 := (nI_eq (a := ln (pm_pf t0 t1 s l r)) (b := 33) (by omega) (by decide)).mp v
    exact ⟨by omega, Or.inr ⟨by omega, Or.inl v'⟩⟩
  have k74 : wp_X6_offer_74 Co To Q Ln Tr Wr (nI (pm_cn s ln l r)) (nI s) (nI l) (nI r) (nI (pm_pf t0 t1 s l r)) (nI (pm_ll s ln l)) (nI (pm_rl s ln r)) := by
    refine ⟨vp_in_nI hp (by decide), ?_⟩
    rw [pn_clamp (by omega), eLp]
    refine ⟨fun w => k98 (fun q => ?_), fun w => ⟨vp_in_nI hp (by decide), fun v => q0 ?_ _, fun v => k98 (fun q => ?_)⟩⟩
    · have := (nI_leI (a := ln (pm_pf t0 t1 s l r)) (b := 0) (by omega) (by decide)).mp w
      omega
    · have a := (nI_ltI (by omega) (by omega)).mp v
      have b : ¬ ln (pm_pf t0 t1 s l r) ≤ 0 := fun q => w ((nI_leI (a := ln (pm_pf t0 t1 s l r)) (b := 0) (by omega) (by decide)).mpr q)
      exact ⟨by omega, Or.inl a⟩
    · exact v ((nI_ltI (by omega) (by omega)).mpr q.2)
  have k48 : wp_X6_offer_48 Co To Q Ln Tr Wr (nI (pm_rl s ln r)) (nI s) (nI l) (nI r) (nI (pm_pf t0 t1 s l r)) (nI (pm_ll s ln l)) := by
    have e : ((1 : Int32) + nI (pm_ll s ln l)) + nI (pm_rl s ln r) = nI (1 + pm_ll s ln l + pm_rl s ln r) := by
      rw [show (1 : Int32) = nI 1 from rfl, nI_add, nI_add]
    unfold wp_X6_offer_48
    rw [e]
    refine ⟨fun w => ?_, fun w => ?_⟩
    · have := (nI_leI (a := 1 + pm_ll s ln l + pm_rl s ln r) (b := 32) (by omega) (by decide)).mp w
      have e2 : pm_cn s ln l r = 1 + pm_ll s ln l + pm_rl s ln r := by unfold pm_cn pm_cap; rw [if_neg (by omega)]
      rw [← e2]
      exact k74
    · have : ¬ 1 + pm_ll s ln l + pm_rl s ln r ≤ 32 := fun q => w ((nI_leI (a := 1 + pm_ll s ln l + pm_rl s ln r) (b := 32) (by omega) (by decide)).mpr q)
      have e2 : pm_cn s ln l r = 33 := by unfold pm_cn pm_cap; rw [if_pos (by omega)]
      have := k74
      rw [e2] at this
      exact this
  have k30 : ∀ x5 : Nat, (s < 5 → x5 ≤ 1) → (5 ≤ s → x5 = 2) → wp_X6_offer_30 Co To Q Ln Tr Wr (nI (pm_ll s ln l)) (nI s) (nI l) (nI r) (nI (pm_pf t0 t1 s l r)) (nI x5) := by
    intro x5 d1 d2
    have hx : x5 ≤ 2 := by by_cases w : s < 5 <;> omega
    refine ⟨fun w => ?_, fun w => ⟨vp_in_nI hr (by decide), ?_⟩⟩
    · have := (nI_leI (a := x5) (b := 1) (by omega) (by decide)).mp w
      have e : pm_rl s ln r = 0 := by unfold pm_rl; rw [if_neg (fun q => by have := d2 q; omega)]
      rw [e] at k48
      exact k48
    · have w' : ¬ x5 ≤ 1 := fun q => w ((nI_leI (a := x5) (b := 1) (by omega) (by decide)).mpr q)
      have e : pm_rl s ln r = ln r := by unfold pm_rl; rw [if_pos (Nat.not_lt.mp (fun q => w' (d1 q)))]
      rw [pn_clamp (by omega), eLr, ← e]
      exact k48
  unfold wp_X6_offer wp_X6_offer_in
  refine ps_profile hT hs hl hr (ps_children (s := s) (by omega) (fun w => ?_) (fun w w' => ?_) (fun w => ?_))
  · refine ⟨fun _ => ?_, fun q => absurd (by decide) q⟩
    have e : pm_ll s ln l = 0 := by unfold pm_ll; rw [if_neg (by omega)]
    have := k30 0 (fun _ => by omega) (fun q => by omega)
    rw [e] at this
    exact this
  · refine ⟨fun q => absurd q (by decide), fun _ => ⟨vp_in_nI hl (by decide), ?_⟩⟩
    have e : pm_ll s ln l = ln l := by unfold pm_ll; rw [if_pos w]
    have := k30 1 (fun _ => by omega) (fun q => by omega)
    rw [pn_clamp (by omega), eLl, ← e]
    exact this
  · refine ⟨fun q => absurd q (by decide), fun _ => ⟨vp_in_nI hl (by decide), ?_⟩⟩
    have e : pm_ll s ln l = ln l := by unfold pm_ll; rw [if_pos (by omega)]
    have := k30 2 (fun q => by omega) (fun _ => rfl)
    rw [pn_clamp (by omega), eLl, ← e]
    exact this
