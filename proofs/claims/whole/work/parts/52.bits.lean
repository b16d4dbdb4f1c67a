/-! ints that are small naturals: or, xor, single bits -/
theorem pb_or (a b : Nat) : nI a ||| nI b = nI (a ||| b) := by
  apply Int32.toBitVec_inj.1
  show BitVec.ofNat 32 a ||| BitVec.ofNat 32 b = BitVec.ofNat 32 (a ||| b)
  apply BitVec.eq_of_getLsbD_eq
  intro i hi
  simp [hi]
theorem pb_and (a b : Nat) : nI a &&& nI b = nI (a &&& b) := by
  apply Int32.toBitVec_inj.1
  show BitVec.ofNat 32 a &&& BitVec.ofNat 32 b = BitVec.ofNat 32 (a &&& b)
  apply BitVec.eq_of_getLsbD_eq
  intro i hi
  simp [hi]
theorem pb_xor (a b : Nat) : nI a ^^^ nI b = nI (a ^^^ b) := by
  apply Int32.toBitVec_inj.1
  show BitVec.ofNat 32 a ^^^ BitVec.ofNat 32 b = BitVec.ofNat 32 (a ^^^ b)
  apply BitVec.eq_of_getLsbD_eq
  intro i hi
  simp [hi]
theorem pb_sl : ∀ n, n < 32 → ((nI n &&& 31).toBitVec.smod 32).toNat = n := by decide +kernel
theorem pb_shr {a k : Nat} (ha : a < 2 ^ 31) (hk : k < 32) : nI a >>> (nI k &&& 31) = nI (a / 2 ^ k) := pk_shrN ha _ k (pb_sl k hk)
theorem pb_bit {a k : Nat} (ha : a < 2 ^ 31) (hk : k < 32) : (nI a >>> (nI k &&& 31)) &&& 1 = nI (a / 2 ^ k % 2) := by
  rw [pb_shr ha hk]
  have h : a / 2 ^ k ≤ a := Nat.div_le_self _ _
  exact pk_andN (m := 1) (by omega) 1 (by decide)
theorem pb_one {k : Nat} (hk : k < 31) : (1 : Int32) <<< (nI k &&& 31) = nI (2 ^ k) := by
  have h := pk_shlN (n := 1) (nI k &&& 31) k (pb_sl k (by omega)) (by
    rw [Nat.one_mul]
    exact Nat.pow_lt_pow_right (by decide) (by omega))
  rw [Nat.one_mul] at h
  exact h
theorem pb_tb (a k : Nat) : a.testBit k = decide (a / 2 ^ k % 2 = 1) := by
  first | exact Nat.testBit_eq_decide_div_mod_eq | (simp only [Nat.testBit, Nat.shiftRight_eq_div_pow, Nat.and_comm 1, Nat.one_and_eq_mod_two, Nat.and_one_is_mod]; rcases Nat.mod_two_eq_zero_or_one (a / 2 ^ k) with h | h <;> simp [h])
theorem pb_01 {a k : Nat} : nI (a / 2 ^ k % 2) = 1 ↔ a.testBit k = true := by
  have h : a / 2 ^ k % 2 < 2 := Nat.mod_lt _ (by decide)
  rw [pb_tb, decide_eq_true_iff]
  exact nI_eq (a := a / 2 ^ k % 2) (b := 1) (by omega) (by decide)
/-- a bit of a small int is 1 -/
theorem pb_is {a k : Nat} (ha : a < 2 ^ 31) (hk : k < 32) : ((nI a >>> (nI k &&& 31)) &&& 1) = 1 ↔ a.testBit k = true := by
  rw [pb_bit ha hk]
  exact pb_01
/-- or over the first n of a row -/
def pm_f (f : Nat → Nat) : Nat → Nat
  | 0 => 0
  | n + 1 => pm_f f n ||| f n
theorem pm_f_tb (f : Nat → Nat) (q : Nat) : ∀ n, (pm_f f n).testBit q = true ↔ ∃ i, i < n ∧ (f i).testBit q = true
  | 0 => by
    constructor
    · intro h
      simp [pm_f] at h
    · rintro ⟨i, h, _⟩
      omega
  | n + 1 => by
    show (pm_f f n ||| f n).testBit q = true ↔ _
    rw [Nat.testBit_or, Bool.or_eq_true, pm_f_tb f q n]
    constructor
    · rintro (⟨i, h1, h2⟩ | h)
      · exact ⟨i, by omega, h2⟩
      · exact ⟨n, by omega, h⟩
    · rintro ⟨i, h1, h2⟩
      by_cases e : i = n
      · subst e
        exact Or.inr h2
      · exact Or.inl ⟨i, by omega, h2⟩
theorem pm_f_lt {f : Nat → Nat} {b : Nat} (hf : ∀ i, f i < 2 ^ b) : ∀ n, pm_f f n < 2 ^ b
  | 0 => Nat.two_pow_pos b
  | n + 1 => Nat.or_lt_two_pow (pm_f_lt hf n) (hf n)
/-- one rule's part in what a symbol's rules lead to from the sets L and R -/
def pm_oc (t : Nat → Nat) (L R l r : Nat) : Nat := if L.testBit l = true ∧ R.testBit r = true then t (4 * l + r) else 0
def pm_ov (t : Nat → Nat) (L R : Nat) : Nat := pm_f (fun l => pm_f (fun r => pm_oc t L R l r) 4) 4
theorem pm_oc_tb {t : Nat → Nat} {L R l r q : Nat} : (pm_oc t L R l r).testBit q = true ↔ L.testBit l = true ∧ R.testBit r = true ∧ (t (4 * l + r)).testBit q = true := by
  unfold pm_oc
  split
  · rename_i h
    exact ⟨fun q => ⟨h.1, h.2, q⟩, fun q => q.2.2⟩
  · rename_i h
    constructor
    · intro q
      simp at q
    · intro q
      exact absurd ⟨q.1, q.2.1⟩ h
theorem pm_ov_tb {t : Nat → Nat} {L R q : Nat} : (pm_ov t L R).testBit q = true ↔ ∃ l r, l < 4 ∧ r < 4 ∧ L.testBit l = true ∧ R.testBit r = true ∧ (t (4 * l + r)).testBit q = true := by
  unfold pm_ov
  rw [pm_f_tb]
  constructor
  · rintro ⟨l, hl, h⟩
    rw [pm_f_tb] at h
    obtain ⟨r, hr, h⟩ := h
    exact ⟨l, r, hl, hr, pm_oc_tb.mp h⟩
  · rintro ⟨l, r, hl, hr, h⟩
    refine ⟨l, hl, ?_⟩
    rw [pm_f_tb]
    exact ⟨r, hr, pm_oc_tb.mpr h⟩
theorem pm_oc_lt {t : Nat → Nat} (ht : ∀ k, t k < 16) (L R l r : Nat) : pm_oc t L R l r < 2 ^ 4 := by
  unfold pm_oc
  split
  · exact ht _
  · decide
theorem pm_ov_lt {t : Nat → Nat} (ht : ∀ k, t k < 16) (L R : Nat) : pm_ov t L R < 16 := pm_f_lt (b := 4) (fun l => pm_f_lt (b := 4) (fun r => pm_oc_lt ht L R l r) 4) 4
/-- the least state of a set, and the set without it -/
def pm_low (L : Nat) : Nat := ([0, 0, 1, 0, 2, 0, 1, 0, 3, 0, 1, 0, 2, 0, 1, 0] : List Nat).getD L 0
theorem pm_low_ok : ∀ L, L < 16 → 0 < L → pm_low L < 4 ∧ L.testBit (pm_low L) = true ∧ L &&& (L - 1) < L ∧ ∀ l, l < 4 → (L.testBit l = true ↔ l = pm_low L ∨ (L &&& (L - 1)).testBit l = true) := by decide +kernel
theorem tm_low_ok : ∀ L, L < 16 → tm_low L = nI (pm_low L) := by decide +kernel
theorem pm_ov_rec {t : Nat → Nat} {L R : Nat} (hL : L < 16) (hR : R < 16) (h1 : 0 < L) (h2 : 0 < R) : pm_ov t L R = (t (4 * pm_low L + pm_low R) ||| pm_ov t (L &&& (L - 1)) R) ||| pm_ov t L (R &&& (R - 1)) := by
  obtain ⟨a1, a2, -, a3⟩ := pm_low_ok L hL h1
  obtain ⟨b1, b2, -, b3⟩ := pm_low_ok R hR h2
  apply Nat.eq_of_testBit_eq
  intro q
  rw [Bool.eq_iff_iff, Nat.testBit_or, Nat.testBit_or, Bool.or_eq_true, Bool.or_eq_true, pm_ov_tb, pm_ov_tb, pm_ov_tb]
  constructor
  · rintro ⟨l, r, hl, hr, x, y, z⟩
    rcases (a3 l hl).mp x with rfl | x'
    · rcases (b3 r hr).mp y with rfl | y'
      · exact Or.inl (Or.inl z)
      · exact Or.inr ⟨_, r, hl, hr, x, y', z⟩
    · exact Or.inl (Or.inr ⟨l, r, hl, hr, x', y, z⟩)
  · rintro ((z | ⟨l, r, hl, hr, x, y, z⟩) | ⟨l, r, hl, hr, x, y, z⟩)
    · exact ⟨_, _, a1, b1, a2, b2, z⟩
    · exact ⟨l, r, hl, hr, (a3 l hl).mpr (Or.inr x), y, z⟩
    · exact ⟨l, r, hl, hr, x, (b3 r hr).mpr (Or.inr y), z⟩
theorem pm_ov_0l {t : Nat → Nat} {R : Nat} : pm_ov t 0 R = 0 := by
  apply Nat.eq_of_testBit_eq
  intro q
  rw [Bool.eq_iff_iff, pm_ov_tb]
  constructor
  · rintro ⟨l, r, _, _, x, _⟩
    simp at x
  · intro h
    simp at h
theorem pm_ov_0r {t : Nat → Nat} {L : Nat} : pm_ov t L 0 = 0 := by
  apply Nat.eq_of_testBit_eq
  intro q
  rw [Bool.eq_iff_iff, pm_ov_tb]
  constructor
  · rintro ⟨l, r, _, _, _, x, _⟩
    simp at x
  · intro h
    simp at h
/-- the profile of a term with this symbol and children of these profiles -/
def pm_pf (t0 t1 : Nat → Nat) (s L R : Nat) : Nat := pm_ov (fun k => t0 (16 * s + k)) (L % 16) (R % 16) + 16 * pm_ov (fun k => t1 (16 * s + k)) (L / 16) (R / 16)
theorem pm_pf_lt {t0 t1 : Nat → Nat} (h0 : ∀ k, t0 k < 16) (h1 : ∀ k, t1 k < 16) (s L R : Nat) : pm_pf t0 t1 s L R < 256 := by
  have a := pm_ov_lt (t := fun k => t0 (16 * s + k)) (fun k => h0 _) (L % 16) (R % 16)
  have b := pm_ov_lt (t := fun k => t1 (16 * s + k)) (fun k => h1 _) (L / 16) (R / 16)
  unfold pm_pf
  omega
theorem pm_or16 : ∀ a, a < 16 → ∀ b, b < 16 → a ||| (b * 16) = a + 16 * b := by decide +kernel
theorem pm_xorb : ∀ a, a < 16 → ∀ k, k < 4 → a ^^^ 2 ^ k < 16 := by decide +kernel
