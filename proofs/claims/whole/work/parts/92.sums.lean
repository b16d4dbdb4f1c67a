/-! sums of ints, and the numbers of terms of each size and profile -/
def pm_s (f : Nat → Int32) : Nat → Int32
  | 0 => 0
  | n + 1 => pm_s f n + f n
def pm_dl (a q : Nat) (v : Int32) : Int32 := if a = q then v else 0
theorem pm_dl0 {a q : Nat} : pm_dl a q 0 = 0 := by unfold pm_dl; split <;> rfl
theorem pm_s_congr {f g : Nat → Int32} : ∀ n, (∀ i, i < n → f i = g i) → pm_s f n = pm_s g n
  | 0, _ => rfl
  | n + 1, h => by
    show pm_s f n + f n = pm_s g n + g n
    rw [pm_s_congr n (fun i hi => h i (by omega)), h n (by omega)]
theorem pm_s_0 {f : Nat → Int32} (n : Nat) (h : ∀ i, i < n → f i = 0) : pm_s f n = 0 := by
  induction n with
  | zero => rfl
  | succ n ih =>
    show pm_s f n + f n = 0
    rw [ih (fun i hi => h i (by omega)), h n (by omega)]
    rfl
theorem pm_a4 (a b c d : Int32) : (a + b) + (c + d) = (a + c) + (b + d) := by
  rw [Int32.add_assoc, Int32.add_assoc, ← Int32.add_assoc b c d, Int32.add_comm b c, Int32.add_assoc]
theorem pm_s_add (f g : Nat → Int32) : ∀ n, pm_s (fun i => f i + g i) n = pm_s f n + pm_s g n
  | 0 => rfl
  | n + 1 => by
    show pm_s (fun i => f i + g i) n + (f n + g n) = (pm_s f n + f n) + (pm_s g n + g n)
    rw [pm_s_add f g n, pm_a4]
theorem pm_s_swap (f : Nat → Nat → Int32) (b : Nat) : ∀ a, pm_s (fun i => pm_s (fun j => f i j) b) a = pm_s (fun j => pm_s (fun i => f i j) a) b
  | 0 => (pm_s_0 b (fun _ _ => rfl)).symm
  | a + 1 => by
    show pm_s (fun i => pm_s (fun j => f i j) b) a + pm_s (fun j => f a j) b = pm_s (fun j => pm_s (fun i => f i j) a + f a j) b
    rw [pm_s_swap f b a, pm_s_add]
theorem pm_s_tail {f : Nat → Int32} {a : Nat} : ∀ n, a ≤ n → (∀ j, a ≤ j → j < n → f j = 0) → pm_s f n = pm_s f a
  | 0, h, _ => by rw [show a = 0 by omega]
  | n + 1, h, h0 => by
    by_cases e : a = n + 1
    · rw [e]
    · show pm_s f n + f n = pm_s f a
      rw [h0 n (by omega) (by omega), pm_s_tail n (by omega) (fun j h1 h2 => h0 j h1 (by omega)), Int32.add_zero]
theorem pm_s_one {f : Nat → Int32} {i : Nat} (n : Nat) (hi : i < n) (h : ∀ j, j < n → j ≠ i → f j = 0) : pm_s f n = f i := by
  rw [pm_s_tail (a := i + 1) n (by omega) (fun j h1 h2 => h j h2 (by omega))]
  show pm_s f i + f i = f i
  rw [pm_s_0 i (fun j hj => h j (by omega) (by omega)), Int32.zero_add]
theorem pm_s_ne {f : Nat → Int32} : ∀ n, pm_s f n ≠ 0 → ∃ i, i < n ∧ f i ≠ 0
  | 0, h => absurd rfl h
  | n + 1, h => by
    by_cases e : f n = 0
    · have h' : pm_s f n ≠ 0 := fun q => h (by
        show pm_s f n + f n = 0
        rw [q, e]; rfl)
      obtain ⟨i, hi, hn⟩ := pm_s_ne n h'
      exact ⟨i, by omega, hn⟩
    · exact ⟨n, by omega, e⟩
theorem pm_s_dl {a q : Nat} (f : Nat → Int32) : ∀ n, pm_s (fun j => pm_dl a q (f j)) n = pm_dl a q (pm_s f n)
  | 0 => pm_dl0.symm
  | n + 1 => by
    show pm_s (fun j => pm_dl a q (f j)) n + pm_dl a q (f n) = pm_dl a q (pm_s f n + f n)
    rw [pm_s_dl f n]
    unfold pm_dl
    by_cases e : a = q
    · rw [if_pos e, if_pos e, if_pos e]
    · rw [if_neg e, if_neg e, if_neg e]
      rfl
/-- a sum over what was found is a sum over all, where the others add nothing -/
theorem pm_s_fo {c N : Nat} {fo : Nat → Nat} {g : Nat → Int32} (h1 : ∀ i, i < c → fo i < N) (h2 : ∀ i j, i < c → j < c → fo i = fo j → g (fo i) ≠ 0 → i = j) (h3 : ∀ p, p < N → (∀ i, i < c → fo i ≠ p) → g p = 0) : pm_s (fun i => g (fo i)) c = pm_s g N := by
  have e1 : pm_s (fun i => g (fo i)) c = pm_s (fun i => pm_s (fun p => pm_dl (fo i) p (g p)) N) c := by
    refine pm_s_congr c (fun i hi => ?_)
    rw [pm_s_one (i := fo i) N (h1 i hi) (fun j hj hne => by unfold pm_dl; rw [if_neg (fun q => hne q.symm)])]
    unfold pm_dl
    rw [if_pos rfl]
  rw [e1, pm_s_swap (fun i p => pm_dl (fo i) p (g p)) N c]
  refine pm_s_congr N (fun p hp => ?_)
  by_cases e : ∃ i, i < c ∧ fo i = p
  · obtain ⟨i, hi, ei⟩ := e
    by_cases e0 : g p = 0
    · rw [e0]
      exact pm_s_0 c (fun i _ => pm_dl0)
    · rw [pm_s_one (i := i) c hi (fun j hj hne => by unfold pm_dl; rw [if_neg (fun q => hne (h2 j i hj hi (by rw [q, ei]) (by rw [q]; exact e0)))])]
      unfold pm_dl
      rw [if_pos ei]
  · have := h3 p hp (fun i hi q => e ⟨i, hi, q⟩)
    rw [this]
    exact pm_s_0 c (fun i _ => pm_dl0)
/-- how many couples of terms of the profiles l and r have the size n together -/
def pm_cp (T : Nat → Nat → Int32) (l r n : Nat) : Int32 := pm_s (fun j => T (1 + j) l * T (n - 1 - j) r) (n - 1)
def pm_nl (pf : Nat → Nat → Nat → Nat) (T : Nat → Nat → Int32) (m q l : Nat) : Int32 := pm_s (fun s => pm_dl (pf (3 + s) l 17) q (T (m - 1) l)) 2 + pm_s (fun r => pm_s (fun s => pm_dl (pf (5 + s) l r) q (pm_cp T l r (m - 1))) 3) 256
def pm_nu (pf : Nat → Nat → Nat → Nat) (T : Nat → Nat → Int32) (m q : Nat) : Int32 :=
  if m = 1 then pm_s (fun s => pm_dl (pf s 17 17) q 1) 3 else pm_s (pm_nl pf T m q) 256
/-- a table of the numbers, good up to the size n -/
def pm_gd (pf : Nat → Nat → Nat → Nat) (T : Nat → Nat → Int32) (n : Nat) : Prop := ∀ m, 1 ≤ m → m ≤ n → ∀ q, q < 256 → T m q = pm_nu pf T m q
theorem pm_cp_congr {T T' : Nat → Nat → Int32} {l r n : Nat} (hl : ∀ k, 1 ≤ k → k < n → T k l = T' k l) (hr : ∀ k, 1 ≤ k → k < n → T k r = T' k r) : pm_cp T l r n = pm_cp T' l r n := by
  unfold pm_cp
  refine pm_s_congr _ (fun j hj => ?_)
  rw [hl (1 + j) (by omega) (by omega), hr (n - 1 - j) (by omega) (by omega)]
theorem pm_nu_congr {pf : Nat → Nat → Nat → Nat} {T T' : Nat → Nat → Int32} {m q : Nat} (hm : 1 ≤ m) (h : ∀ k, 1 ≤ k → k < m → ∀ p, p < 256 → T k p = T' k p) : pm_nu pf T m q = pm_nu pf T' m q := by
  unfold pm_nu
  by_cases e : m = 1
  · rw [if_pos e, if_pos e]
  · rw [if_neg e, if_neg e]
    refine pm_s_congr 256 (fun l hl => ?_)
    unfold pm_nl
    have e1 : pm_s (fun s => pm_dl (pf (3 + s) l 17) q (T (m - 1) l)) 2 = pm_s (fun s => pm_dl (pf (3 + s) l 17) q (T' (m - 1) l)) 2 := by
      rw [h (m - 1) (by omega) (by omega) l hl]
    have e2 : pm_s (fun r => pm_s (fun s => pm_dl (pf (5 + s) l r) q (pm_cp T l r (m - 1))) 3) 256 = pm_s (fun r => pm_s (fun s => pm_dl (pf (5 + s) l r) q (pm_cp T' l r (m - 1))) 3) 256 := by
      refine pm_s_congr 256 (fun r hr => pm_s_congr 3 (fun s hs => ?_))
      rw [pm_cp_congr (fun k h1 h2 => h k h1 (by omega) l hl) (fun k h1 h2 => h k h1 (by omega) r hr)]
    rw [e1, e2]
theorem pm_gd_congr {pf : Nat → Nat → Nat → Nat} {T T' : Nat → Nat → Int32} {n : Nat} (hg : pm_gd pf T n) (h : ∀ k, 1 ≤ k → k ≤ n → ∀ p, p < 256 → T k p = T' k p) : pm_gd pf T' n := by
  intro m h1 h2 q hq
  rw [← h m h1 h2 q hq, hg m h1 h2 q hq]
  exact pm_nu_congr h1 (fun k a b p hp => h k a (by omega) p hp)
theorem pm_gd_uniq {pf : Nat → Nat → Nat → Nat} {T T' : Nat → Nat → Int32} {n : Nat} (h : pm_gd pf T n) (h' : pm_gd pf T' n) : ∀ N m, m < N → 1 ≤ m → m ≤ n → ∀ q, q < 256 → T m q = T' m q := by
  intro N
  induction N with
  | zero => intro m hm; omega
  | succ N ih =>
    intro m hm h1 h2 q hq
    rw [h m h1 h2 q hq, h' m h1 h2 q hq]
    exact pm_nu_congr h1 (fun k a b p hp => ih k (by omega) a (by omega) p hp)
theorem pm_dl_ne {a q : Nat} {v : Int32} (h : pm_dl a q v ≠ 0) : a = q ∧ v ≠ 0 := by
  unfold pm_dl at h
  by_cases e : a = q
  · rw [if_pos e] at h
    exact ⟨e, h⟩
  · rw [if_neg e] at h
    exact absurd rfl h
theorem pm_add_ne {a b : Int32} (h : a + b ≠ 0) : a ≠ 0 ∨ b ≠ 0 := by
  by_cases e : a = 0
  · right
    intro e2
    apply h
    rw [e, e2]
    rfl
  · exact Or.inl e
theorem pm_mul_ne {a b : Int32} (h : a * b ≠ 0) : a ≠ 0 ∧ b ≠ 0 := by
  constructor
  · intro e
    apply h
    rw [e, Int32.zero_mul]
  · intro e
    apply h
    rw [e, Int32.mul_zero]
/-- what is counted is there -/
theorem pm_gd_T {pf : Nat → Nat → Nat → Nat} {T : Nat → Nat → Int32} {n : Nat} (h : pm_gd pf T n) : ∀ N k, k < N → 1 ≤ k → k ≤ n → ∀ p, p < 256 → T k p ≠ 0 → ∃ w, pm_T pf p w ∧ w.length = k := by
  intro N
  induction N with
  | zero => intro k hk; omega
  | succ N ih =>
    intro k hk h1 h2 p hp hne
    rw [h k h1 h2 p hp] at hne
    unfold pm_nu at hne
    by_cases e : k = 1
    · rw [if_pos e] at hne
      obtain ⟨s, hs, q⟩ := pm_s_ne _ hne
      obtain ⟨q1, -⟩ := pm_dl_ne q
      refine ⟨[s], ?_, by rw [e]; rfl⟩
      rw [← q1]
      exact (pm_T_closed pf).1 s hs
    · rw [if_neg e] at hne
      obtain ⟨l, hl, q⟩ := pm_s_ne _ hne
      rcases pm_add_ne q with q | q
      · obtain ⟨s, hs, q⟩ := pm_s_ne _ q
        obtain ⟨q1, q2⟩ := pm_dl_ne q
        obtain ⟨w, hw, el⟩ := ih (k - 1) (by omega) (by omega) (by omega) l hl q2
        refine ⟨(3 + s) :: w, ?_, by rw [List.length_cons, el]; omega⟩
        rw [← q1]
        exact (pm_T_closed pf).2.1 (3 + s) l w (by omega) (by omega) hw
      · obtain ⟨r, hr, q⟩ := pm_s_ne _ q
        obtain ⟨s, hs, q⟩ := pm_s_ne _ q
        obtain ⟨q1, q2⟩ := pm_dl_ne q
        obtain ⟨j, hj, q3⟩ := pm_s_ne _ q2
        obtain ⟨q4, q5⟩ := pm_mul_ne q3
        obtain ⟨w, hw, el⟩ := ih (1 + j) (by omega) (by omega) (by omega) l hl q4
        obtain ⟨v, hv, er⟩ := ih (k - 1 - 1 - j) (by omega) (by omega) (by omega) r hr q5
        refine ⟨(5 + s) :: (w ++ v), ?_, by rw [List.length_cons, List.length_append, el, er]; omega⟩
        rw [← q1]
        exact (pm_T_closed pf).2.2 (5 + s) l w r v (by omega) (by omega) hw hv
/-- so it was found, with no greater size -/
theorem pm_gd_ln {pf : Nat → Nat → Nat → Nat} {T : Nat → Nat → Int32} {n : Nat} {ln : Nat → Nat} {W : Nat → List Nat} (h : pm_gd pf T n) (hs : pm_snd pf ln W) (hf : pm_fix pf ln W) {k p : Nat} (h1 : 1 ≤ k) (h2 : k ≤ n) (h32 : k ≤ 32) (hp : p < 256) (hne : T k p ≠ 0) : ln p ≠ 0 ∧ ln p ≤ k := by
  obtain ⟨w, hw, el⟩ := pm_gd_T h (k + 1) k (by omega) h1 h2 p hp hne
  obtain ⟨q1, q2⟩ := pm_full hs hf hw
  have : pm_cap w.length = k := by unfold pm_cap; rw [if_neg (by omega), el]
  rw [this] at q2
  refine ⟨q1, ?_⟩
  rcases q2 with q | ⟨q, _⟩ <;> omega
