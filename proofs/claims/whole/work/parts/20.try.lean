/-! X5_isSymbol (I)Z -/
abbrev rm_X5_isSymbol : Room := { frames := 0, cells := 0, slots := 0, locals := 0 }
def wp_X5_isSymbol_in (Q : Int32 → Prop) (x0 : Int32) : Prop :=
  ((x0 < 0 → Q 0) ∧ (¬ (x0 < 0) → ((8 ≤ x0 → Q 0) ∧ (¬ (8 ≤ x0) → Q 1))))
set_option maxRecDepth 100000 in
set_option maxHeartbeats 4000000 in
theorem bk_X5_isSymbol_in {p : Program} {l : Launch} {e : Env} {s : State} {m : MethodId} {args : Array Value} {below : List Frame} {meth : Method} {c : Code} {D : va_G} {cI cB : ClassId} {Q : Int32 → Prop} (C : tm_cx p s m args meth c cX5_isSymbol 1 (some .boolean) RX5 wsX5_isSymbol) (hK : tm_kx D cI cB s) (x0 : Int32) (h : wp_X5_isSymbol_in Q x0) : va_P D vwCl [] s.heap → ∀ (ls : Array Slot), lv_has ls 1 [(0, .int x0)] → W p l e (headSpec wsX5_isSymbol rm_X5_isSymbol).room s m args below meth c s.heap [] 0 0 (MQ below (vp_Si (fun r => (r = 0 ∨ r = 1) ∧ Q r)) args s 0 0 (fun _ => False)) (F0 m 0 ls []) := by
  obtain ⟨hx, hb, hr, hml, hown, hts, hlocks⟩ := id C
  intro hP ls hl
  unfold wp_X5_isSymbol_in at h
  refine lv_iload_n hx hb dX5_isSymbol_0 rfl (lv_at hl 0 rfl) ?_
  refine lv_if_lt (tgt := 14) hx hb dX5_isSymbol_1 (by decide) (fun c1 => ?_) (fun c1 => ?_)
  · have h := h.1 c1
    refine lv_iconst (v := 0) hx hb dX5_isSymbol_14 (by decide) ?_
    exact W.zret (v := 0) (ty := .boolean) hx hb hr (tm_n01 (Or.inl rfl)) (fun t ht hW => ⟨0, rfl, ⟨Or.inl rfl, h⟩, ht⟩) (fun _ h => by cases h) dX5_isSymbol_15
  · have h := h.2 c1
    refine lv_iload_n hx hb dX5_isSymbol_4 rfl (lv_at hl 0 rfl) ?_
    refine lv_bipush (v := 8) hx hb dX5_isSymbol_5 (by decide) ?_
    refine lv_icmp_ge (tgt := 14) hx hb dX5_isSymbol_7 (by decide) (fun c2 => ?_) (fun c2 => ?_)
    · have h := h.1 c2
      refine lv_iconst (v := 0) hx hb dX5_isSymbol_14 (by decide) ?_
      exact W.zret (v := 0) (ty := .boolean) hx hb hr (tm_n01 (Or.inl rfl)) (fun t ht hW => ⟨0, rfl, ⟨Or.inl rfl, h⟩, ht⟩) (fun _ h => by cases h) dX5_isSymbol_15
    · have h := h.2 c2
      refine lv_iconst (v := 1) hx hb dX5_isSymbol_10 (by decide) ?_
      refine lv_goto (tgt := 15) hx hb dX5_isSymbol_11 (by decide) ?_
      exact W.zret (v := 1) (ty := .boolean) hx hb hr (tm_n01 (Or.inr rfl)) (fun t ht hW => ⟨1, rfl, ⟨Or.inr rfl, h⟩, ht⟩) (fun _ h => by cases h) dX5_isSymbol_15
abbrev wp_X5_isSymbol (x0 : Int32) (Q : Int32 → Prop) : Prop := wp_X5_isSymbol_in Q x0
set_option maxRecDepth 100000 in
set_option maxHeartbeats 4000000 in
theorem cn_X5_isSymbol (l : Launch) (D : va_G) (cI cB : ClassId) (x0 : Int32) (Q : Int32 → Prop) (h : wp_X5_isSymbol x0 Q) : Met l yX5_isSymbol wsX5_isSymbol rm_X5_isSymbol (tm_Pr D cI cB [.int x0] []) (vp_Si (fun r => (r = 0 ∨ r = 1) ∧ Q r)) 0 0 (fun _ => False) := by
  refine Met.ofW (cc := cX5_isSymbol) (maxL := 1) (ret := (some .boolean)) (by decide) rfl ?_
  intro p e s m args below meth c s₁ B hml hv
  obtain ⟨rfl, hP, hK⟩ := hv
  have hl := lv_entry ([.int x0]) (n := 1) (Nat.le_of_ble_eq_true rfl)
  rw [lg_entry_eq]
  generalize (lg_sl ([.int x0]) ++ List.replicate (1 - (lg_sl ([.int x0])).length) Slot.unset).toArray = ls at hl ⊢
  have hl : lv_has ls 1 [(0, .int x0)] := hl
  exact bk_X5_isSymbol_in ⟨B.exec, B.bytes, B.returns, hml, findClass_of_methodNamed B.named, atoms_spec (ws := wsX5_isSymbol) B.pre, B.notSynchronized⟩ hK x0 h hP ls hl

/-! X5_hasLeft (I)Z -/
abbrev rm_X5_hasLeft : Room := { frames := 0, cells := 0, slots := 0, locals := 0 }
def wp_X5_hasLeft_in (Q : Int32 → Prop) (x0 : Int32) : Prop :=
  ((x0 < 3 → Q 0) ∧ (¬ (x0 < 3) → Q 1))
set_option maxRecDepth 100000 in
set_option maxHeartbeats 4000000 in
theorem bk_X5_hasLeft_in {p : Program} {l : Launch} {e : Env} {s : State} {m : MethodId} {args : Array Value} {below : List Frame} {meth : Method} {c : Code} {D : va_G} {cI cB : ClassId} {Q : Int32 → Prop} (C : tm_cx p s m args meth c cX5_hasLeft 1 (some .boolean) RX5 wsX5_hasLeft) (hK : tm_kx D cI cB s) (x0 : Int32) (h : wp_X5_hasLeft_in Q x0) : va_P D vwCl [] s.heap → ∀ (ls : Array Slot), lv_has ls 1 [(0, .int x0)] → W p l e (headSpec wsX5_hasLeft rm_X5_hasLeft).room s m args below meth c s.heap [] 0 0 (MQ below (vp_Si (fun r => (r = 0 ∨ r = 1) ∧ Q r)) args s 0 0 (fun _ => False)) (F0 m 0 ls []) := by
  obtain ⟨hx, hb, hr, hml, hown, hts, hlocks⟩ := id C
  intro hP ls hl
  unfold wp_X5_hasLeft_in at h
  refine lv_iload_n hx hb dX5_hasLeft_0 rfl (lv_at hl 0 rfl) ?_
  refine lv_iconst (v := 3) hx hb dX5_hasLeft_1 (by decide) ?_
  refine lv_icmp_lt (tgt := 9) hx hb dX5_hasLeft_2 (by decide) (fun c1 => ?_) (fun c1 => ?_)
  · have h := h.1 c1
    refine lv_iconst (v := 0) hx hb dX5_hasLeft_9 (by decide) ?_
    exact W.zret (v := 0) (ty := .boolean) hx hb hr (tm_n01 (Or.inl rfl)) (fun t ht hW => ⟨0, rfl, ⟨Or.inl rfl, h⟩, ht⟩) (fun _ h => by cases h) dX5_hasLeft_10
  · have h := h.2 c1
    refine lv_iconst (v := 1) hx hb dX5_hasLeft_5 (by decide) ?_
    refine lv_goto (tgt := 10) hx hb dX5_hasLeft_6 (by decide) ?_
    exact W.zret (v := 1) (ty := .boolean) hx hb hr (tm_n01 (Or.inr rfl)) (fun t ht hW => ⟨1, rfl, ⟨Or.inr rfl, h⟩, ht⟩) (fun _ h => by cases h) dX5_hasLeft_10
abbrev wp_X5_hasLeft (x0 : Int32) (Q : Int32 → Prop) : Prop := wp_X5_hasLeft_in Q x0
set_option maxRecDepth 100000 in
set_option maxHeartbeats 4000000 in
theorem cn_X5_hasLeft (l : Launch) (D : va_G) (cI cB : ClassId) (x0 : Int32) (Q : Int32 → Prop) (h : wp_X5_hasLeft x0 Q) : Met l yX5_hasLeft wsX5_hasLeft rm_X5_hasLeft (tm_Pr D cI cB [.int x0] []) (vp_Si (fun r => (r = 0 ∨ r = 1) ∧ Q r)) 0 0 (fun _ => False) := by
  refine Met.ofW (cc := cX5_hasLeft) (maxL := 1) (ret := (some .boolean)) (by decide) rfl ?_
  intro p e s m args below meth c s₁ B hml hv
  obtain ⟨rfl, hP, hK⟩ := hv
  have hl := lv_entry ([.int x0]) (n := 1) (Nat.le_of_ble_eq_true rfl)
  rw [lg_entry_eq]
  generalize (lg_sl ([.int x0]) ++ List.replicate (1 - (lg_sl ([.int x0])).length) Slot.unset).toArray = ls at hl ⊢
  have hl : lv_has ls 1 [(0, .int x0)] := hl
  exact bk_X5_hasLeft_in ⟨B.exec, B.bytes, B.returns, hml, findClass_of_methodNamed B.named, atoms_spec (ws := wsX5_hasLeft) B.pre, B.notSynchronized⟩ hK x0 h hP ls hl

/-! X5_hasRight (I)Z -/
abbrev rm_X5_hasRight : Room := { frames := 0, cells := 0, slots := 0, locals := 0 }
def wp_X5_hasRight_in (Q : Int32 → Prop) (x0 : Int32) : Prop :=
  ((x0 < 5 → Q 0) ∧ (¬ (x0 < 5) → Q 1))
set_option maxRecDepth 100000 in
set_option maxHeartbeats 4000000 in
theorem bk_X5_hasRight_in {p : Program} {l : Launch} {e : Env} {s : State} {m : MethodId} {args : Array Value} {below : List Frame} {meth : Method} {c : Code} {D : va_G} {cI cB : ClassId} {Q : Int32 → Prop} (C : tm_cx p s m args meth c cX5_hasRight 1 (some .boolean) RX5 wsX5_hasRight) (hK : tm_kx D cI cB s) (x0 : Int32) (h : wp_X5_hasRight_in Q x0) : va_P D vwCl [] s.heap → ∀ (ls : Array Slot), lv_has ls 1 [(0, .int x0)] → W p l e (headSpec wsX5_hasRight rm_X5_hasRight).room s m args below meth c s.heap [] 0 0 (MQ below (vp_Si (fun r => (r = 0 ∨ r = 1) ∧ Q r)) args s 0 0 (fun _ => False)) (F0 m 0 ls []) := by
  obtain ⟨hx, hb, hr, hml, hown, hts, hlocks⟩ := id C
  intro hP ls hl
  unfold wp_X5_hasRight_in at h
  refine lv_iload_n hx hb dX5_hasRight_0 rfl (lv_at hl 0 rfl) ?_
  refine lv_iconst (v := 5) hx hb dX5_hasRight_1 (by decide) ?_
  refine lv_icmp_lt (tgt := 9) hx hb dX5_hasRight_2 (by decide) (fun c1 => ?_) (fun c1 => ?_)
  · have h := h.1 c1
    refine lv_iconst (v := 0) hx hb dX5_hasRight_9 (by decide) ?_
    exact W.zret (v := 0) (ty := .boolean) hx hb hr (tm_n01 (Or.inl rfl)) (fun t ht hW => ⟨0, rfl, ⟨Or.inl rfl, h⟩, ht⟩) (fun _ h => by cases h) dX5_hasRight_10
  · have h := h.2 c1
    refine lv_iconst (v := 1) hx hb dX5_hasRight_5 (by decide) ?_
    refine lv_goto (tgt := 10) hx hb dX5_hasRight_6 (by decide) ?_
    exact W.zret (v := 1) (ty := .boolean) hx hb hr (tm_n01 (Or.inr rfl)) (fun t ht hW => ⟨1, rfl, ⟨Or.inr rfl, h⟩, ht⟩) (fun _ h => by cases h) dX5_hasRight_10
abbrev wp_X5_hasRight (x0 : Int32) (Q : Int32 → Prop) : Prop := wp_X5_hasRight_in Q x0
set_option maxRecDepth 100000 in
set_option maxHeartbeats 4000000 in
theorem cn_X5_hasRight (l : Launch) (D : va_G) (cI cB : ClassId) (x0 : Int32) (Q : Int32 → Prop) (h : wp_X5_hasRight x0 Q) : Met l yX5_hasRight wsX5_hasRight rm_X5_hasRight (tm_Pr D cI cB [.int x0] []) (vp_Si (fun r => (r = 0 ∨ r = 1) ∧ Q r)) 0 0 (fun _ => False) := by
  refine Met.ofW (cc := cX5_hasRight) (maxL := 1) (ret := (some .boolean)) (by decide) rfl ?_
  intro p e s m args below meth c s₁ B hml hv
  obtain ⟨rfl, hP, hK⟩ := hv
  have hl := lv_entry ([.int x0]) (n := 1) (Nat.le_of_ble_eq_true rfl)
  rw [lg_entry_eq]
  generalize (lg_sl ([.int x0]) ++ List.replicate (1 - (lg_sl ([.int x0])).length) Slot.unset).toArray = ls at hl ⊢
  have hl : lv_has ls 1 [(0, .int x0)] := hl
  exact bk_X5_hasRight_in ⟨B.exec, B.bytes, B.returns, hml, findClass_of_methodNamed B.named, atoms_spec (ws := wsX5_hasRight) B.pre, B.notSynchronized⟩ hK x0 h hP ls hl

/-! X5_isState (I)Z -/
abbrev rm_X5_isState : Room := { frames := 0, cells := 0, slots := 0, locals := 0 }
def wp_X5_isState_in (Q : Int32 → Prop) (x0 : Int32) : Prop :=
  ((x0 < 0 → Q 0) ∧ (¬ (x0 < 0) → ((4 ≤ x0 → Q 0) ∧ (¬ (4 ≤ x0) → Q 1))))
set_option maxRecDepth 100000 in
set_option maxHeartbeats 4000000 in
theorem bk_X5_isState_in {p : Program} {l : Launch} {e : Env} {s : State} {m : MethodId} {args : Array Value} {below : List Frame} {meth : Method} {c : Code} {D : va_G} {cI cB : ClassId} {Q : Int32 → Prop} (C : tm_cx p s m args meth c cX5_isState 1 (some .boolean) RX5 wsX5_isState) (hK : tm_kx D cI cB s) (x0 : Int32) (h : wp_X5_isState_in Q x0) : va_P D vwCl [] s.heap → ∀ (ls : Array Slot), lv_has ls 1 [(0, .int x0)] → W p l e (headSpec wsX5_isState rm_X5_isState).room s m args below meth c s.heap [] 0 0 (MQ below (vp_Si (fun r => (r = 0 ∨ r = 1) ∧ Q r)) args s 0 0 (fun _ => False)) (F0 m 0 ls []) := by
  obtain ⟨hx, hb, hr, hml, hown, hts, hlocks⟩ := id C
  intro hP ls hl
  unfold wp_X5_isState_in at h
  refine lv_iload_n hx hb dX5_isState_0 rfl (lv_at hl 0 rfl) ?_
  refine lv_if_lt (tgt := 13) hx hb dX5_isState_1 (by decide) (fun c1 => ?_) (fun c1 => ?_)
  · have h := h.1 c1
    refine lv_iconst (v := 0) hx hb dX5_isState_13 (by decide) ?_
    exact W.zret (v := 0) (ty := .boolean) hx hb hr (tm_n01 (Or.inl rfl)) (fun t ht hW => ⟨0, rfl, ⟨Or.inl rfl, h⟩, ht⟩) (fun _ h => by cases h) dX5_isState_14
  · have h := h.2 c1
    refine lv_iload_n hx hb dX5_isState_4 rfl (lv_at hl 0 rfl) ?_
    refine lv_iconst (v := 4) hx hb dX5_isState_5 (by decide) ?_
    refine lv_icmp_ge (tgt := 13) hx hb dX5_isState_6 (by decide) (fun c2 => ?_) (fun c2 => ?_)
    · have h := h.1 c2
      refine lv_iconst (v := 0) hx hb dX5_isState_13 (by decide) ?_
      exact W.zret (v := 0) (ty := .boolean) hx hb hr (tm_n01 (Or.inl rfl)) (fun t ht hW => ⟨0, rfl, ⟨Or.inl rfl, h⟩, ht⟩) (fun _ h => by cases h) dX5_isState_14
    · have h := h.2 c2
      refine lv_iconst (v := 1) hx hb dX5_isState_9 (by decide) ?_
      refine lv_goto (tgt := 14) hx hb dX5_isState_10 (by decide) ?_
      exact W.zret (v := 1) (ty := .boolean) hx hb hr (tm_n01 (Or.inr rfl)) (fun t ht hW => ⟨1, rfl, ⟨Or.inr rfl, h⟩, ht⟩) (fun _ h => by cases h) dX5_isState_14
abbrev wp_X5_isState (x0 : Int32) (Q : Int32 → Prop) : Prop := wp_X5_isState_in Q x0
set_option maxRecDepth 100000 in
set_option maxHeartbeats 4000000 in
theorem cn_X5_isState (l : Launch) (D : va_G) (cI cB : ClassId) (x0 : Int32) (Q : Int32 → Prop) (h : wp_X5_isState x0 Q) : Met l yX5_isState wsX5_isState rm_X5_isState (tm_Pr D cI cB [.int x0] []) (vp_Si (fun r => (r = 0 ∨ r = 1) ∧ Q r)) 0 0 (fun _ => False) := by
  refine Met.ofW (cc := cX5_isState) (maxL := 1) (ret := (some .boolean)) (by decide) rfl ?_
  intro p e s m args below meth c s₁ B hml hv
  obtain ⟨rfl, hP, hK⟩ := hv
  have hl := lv_entry ([.int x0]) (n := 1) (Nat.le_of_ble_eq_true rfl)
  rw [lg_entry_eq]
  generalize (lg_sl ([.int x0]) ++ List.replicate (1 - (lg_sl ([.int x0])).length) Slot.unset).toArray = ls at hl ⊢
  have hl : lv_has ls 1 [(0, .int x0)] := hl
  exact bk_X5_isState_in ⟨B.exec, B.bytes, B.returns, hml, findClass_of_methodNamed B.named, atoms_spec (ws := wsX5_isState) B.pre, B.notSynchronized⟩ hK x0 h hP ls hl

/-! X5_rowOf (III)I -/
abbrev rm_X5_rowOf : Room := { frames := 1, cells := 0, slots := 0, locals := 20 }
def wp_X5_rowOf_34 (Q : Int32 → Prop) (z0 : Int32) (x0 : Int32) (x3 : Int32) : Prop :=
  wp_X5_isState x3 (fun r7 => ((r7 = 0 → Q (-1)) ∧ (¬ (r7 = 0) → wp_X5_isState z0 (fun r9 => ((r9 = 0 → Q (-1)) ∧ (¬ (r9 = 0) → Q ((((x0 * 4) + x3) * 4) + z0)))))))
set_option maxRecDepth 100000 in
set_option maxHeartbeats 4000000 in
theorem bk_X5_rowOf_34 {p : Program} {l : Launch} {e : Env} {s : State} {m : MethodId} {args : Array Value} {below : List Frame} {meth : Method} {c : Code} {D : va_G} {cI cB : ClassId} {Q : Int32 → Prop} (C : tm_cx p s m args meth c cX5_rowOf 5 (some .int) RX5 wsX5_rowOf) (hK : tm_kx D cI cB s) (z0 : Int32) (x0 : Int32) (x3 : Int32) (h : wp_X5_rowOf_34 Q z0 x0 x3) : va_P D vwCl [] s.heap → ∀ (ls : Array Slot), lv_has ls 5 [(0, .int x0), (3, .int x3)] → W p l e (headSpec wsX5_rowOf rm_X5_rowOf).room s m args below meth c s.heap [] 0 0 (MQ below (vp_Si Q) args s 0 0 (fun _ => False)) (F0 m 34 ls [.int z0]) := by
  obtain ⟨hx, hb, hr, hml, hown, hts, hlocks⟩ := id C
  intro hP ls hl
  unfold wp_X5_rowOf_34 at h
  refine lv_istore (lv' := [(4, .int z0), (0, .int x0), (3, .int x3)]) hx hb dX5_rowOf_34 hl (by decide) rfl (fun ls hl => ?_)
  refine lv_iload_n hx hb dX5_rowOf_36 rfl (lv_at hl 2 rfl) ?_
  refine tm_rS (As := [.int x3]) (rest := []) (wc := []) ⟨hx, hb, hml, hown, hts⟩ (cn_X5_isState l D cI cB x3 _ h) (va_cwS 1 hts gX5_rowOf_X5_isState rfl rfl rfl (by decide +kernel) ⟨Nat.le_of_ble_eq_true rfl, Nat.le_of_ble_eq_true rfl⟩) hK (hP.sub [] rfl) rfl hl.1 rfl (Nat.le_of_ble_eq_true rfl) ⟨Nat.zero_le _, Nat.zero_le _⟩ dX5_rowOf_37 (fun r7 h => ?_)
  obtain ⟨br7, h⟩ := h
  refine lv_if_eq (tgt := 51) hx hb dX5_rowOf_40 (by decide) (fun c8 => ?_) (fun c8 => ?_)
  · have h := h.1 c8
    refine lv_iconst (v := (-1)) hx hb dX5_rowOf_51 (by decide) ?_
    exact W.iret (v := (-1)) hx hb hr (fun t ht hW => ⟨(-1), rfl, h, ht⟩) (fun _ h => by cases h) dX5_rowOf_52
  · have h := h.2 c8
    refine lv_iload hx hb dX5_rowOf_43 (lv_at hl 0 rfl) ?_
    refine tm_rS (As := [.int z0]) (rest := []) (wc := []) ⟨hx, hb, hml, hown, hts⟩ (cn_X5_isState l D cI cB z0 _ h) (va_cwS 1 hts gX5_rowOf_X5_isState rfl rfl rfl (by decide +kernel) ⟨Nat.le_of_ble_eq_true rfl, Nat.le_of_ble_eq_true rfl⟩) hK (hP.sub [] rfl) rfl hl.1 rfl (Nat.le_of_ble_eq_true rfl) ⟨Nat.zero_le _, Nat.zero_le _⟩ dX5_rowOf_45 (fun r9 h => ?_)
    obtain ⟨br9, h⟩ := h
    refine lv_if_ne (tgt := 53) hx hb dX5_rowOf_48 (by decide) (fun c10 => ?_) (fun c10 => ?_)
    · have h := h.2 c10
      refine lv_iload_n hx hb dX5_rowOf_53 rfl (lv_at hl 1 rfl) ?_
      refine lv_iconst (v := 4) hx hb dX5_rowOf_54 (by decide) ?_
      refine lv_imul (x := x0) (y := 4) hx hb dX5_rowOf_55 ?_
      refine lv_iload_n hx hb dX5_rowOf_56 rfl (lv_at hl 2 rfl) ?_
      refine lv_iadd hx hb dX5_rowOf_57 ?_
      refine lv_iconst (v := 4) hx hb dX5_rowOf_58 (by decide) ?_
      refine lv_imul (x := ((x0 * 4) + x3)) (y := 4) hx hb dX5_rowOf_59 ?_
      refine lv_iload hx hb dX5_rowOf_60 (lv_at hl 0 rfl) ?_
      refine lv_iadd hx hb dX5_rowOf_62 ?_
      exact W.iret (v := ((((x0 * 4) + x3) * 4) + z0)) hx hb hr (fun t ht hW => ⟨((((x0 * 4) + x3) * 4) + z0), rfl, h, ht⟩) (fun _ h => by cases h) dX5_rowOf_63
    · have h := h.1 c10
      refine lv_iconst (v := (-1)) hx hb dX5_rowOf_51 (by decide) ?_
      exact W.iret (v := (-1)) hx hb hr (fun t ht hW => ⟨(-1), rfl, h, ht⟩) (fun _ h => by cases h) dX5_rowOf_52
def wp_X5_rowOf_21 (Q : Int32 → Prop) (z0 : Int32) (x0 : Int32) (x2 : Int32) : Prop :=
  wp_X5_hasRight x0 (fun r5 => ((r5 = 0 → wp_X5_rowOf_34 Q 0 x0 z0) ∧ (¬ (r5 = 0) → wp_X5_rowOf_34 Q x2 x0 z0)))
set_option maxRecDepth 100000 in
set_option maxHeartbeats 4000000 in
theorem bk_X5_rowOf_21 {p : Program} {l : Launch} {e : Env} {s : State} {m : MethodId} {args : Array Value} {below : List Frame} {meth : Method} {c : Code} {D : va_G} {cI cB : ClassId} {Q : Int32 → Prop} (C : tm_cx p s m args meth c cX5_rowOf 5 (some .int) RX5 wsX5_rowOf) (hK : tm_kx D cI cB s) (z0 : Int32) (x0 : Int32) (x2 : Int32) (h : wp_X5_rowOf_21 Q z0 x0 x2) : va_P D vwCl [] s.heap → ∀ (ls : Array Slot), lv_has ls 5 [(0, .int x0), (2, .int x2)] → W p l e (headSpec wsX5_rowOf rm_X5_rowOf).room s m args below meth c s.heap [] 0 0 (MQ below (vp_Si Q) args s 0 0 (fun _ => False)) (F0 m 21 ls [.int z0]) := by
  obtain ⟨hx, hb, hr, hml, hown, hts, hlocks⟩ := id C
  intro hP ls hl
  unfold wp_X5_rowOf_21 at h
  refine lv_istore_n (lv' := [(3, .int z0), (0, .int x0), (2, .int x2)]) hx hb dX5_rowOf_21 rfl hl (by decide) rfl (fun ls hl => ?_)
  refine lv_iload_n hx hb dX5_rowOf_22 rfl (lv_at hl 1 rfl) ?_
  refine tm_rS (As := [.int x0]) (rest := []) (wc := []) ⟨hx, hb, hml, hown, hts⟩ (cn_X5_hasRight l D cI cB x0 _ h) (va_cwS 1 hts gX5_rowOf_X5_hasRight rfl rfl rfl (by decide +kernel) ⟨Nat.le_of_ble_eq_true rfl, Nat.le_of_ble_eq_true rfl⟩) hK (hP.sub [] rfl) rfl hl.1 rfl (Nat.le_of_ble_eq_true rfl) ⟨Nat.zero_le _, Nat.zero_le _⟩ dX5_rowOf_23 (fun r5 h => ?_)
  obtain ⟨br5, h⟩ := h
  refine lv_if_eq (tgt := 33) hx hb dX5_rowOf_26 (by decide) (fun c6 => ?_) (fun c6 => ?_)
  · have h := h.1 c6
    refine lv_iconst (v := 0) hx hb dX5_rowOf_33 (by decide) ?_
    exact bk_X5_rowOf_34 C hK 0 x0 z0 h hP ls (lv_sub hl [1, 0] rfl)
  · have h := h.2 c6
    refine lv_iload_n hx hb dX5_rowOf_29 rfl (lv_at hl 2 rfl) ?_
    refine lv_goto (tgt := 34) hx hb dX5_rowOf_30 (by decide) ?_
    exact bk_X5_rowOf_34 C hK x2 x0 z0 h hP ls (lv_sub hl [1, 0] rfl)
def wp_X5_rowOf_in (Q : Int32 → Prop) (x0 : Int32) (x1 : Int32) (x2 : Int32) : Prop :=
  wp_X5_isSymbol x0 (fun r1 => ((r1 = 0 → Q (-1)) ∧ (¬ (r1 = 0) → wp_X5_hasLeft x0 (fun r3 => ((r3 = 0 → wp_X5_rowOf_21 Q 0 x0 x2) ∧ (¬ (r3 = 0) → wp_X5_rowOf_21 Q x1 x0 x2))))))
set_option maxRecDepth 100000 in
set_option maxHeartbeats 4000000 in
theorem bk_X5_rowOf_in {p : Program} {l : Launch} {e : Env} {s : State} {m : MethodId} {args : Array Value} {below : List Frame} {meth : Method} {c : Code} {D : va_G} {cI cB : ClassId} {Q : Int32 → Prop} (C : tm_cx p s m args meth c cX5_rowOf 5 (some .int) RX5 wsX5_rowOf) (hK : tm_kx D cI cB s) (x0 : Int32) (x1 : Int32) (x2 : Int32) (h : wp_X5_rowOf_in Q x0 x1 x2) : va_P D vwCl [] s.heap → ∀ (ls : Array Slot), lv_has ls 5 [(0, .int x0), (1, .int x1), (2, .int x2)] → W p l e (headSpec wsX5_rowOf rm_X5_rowOf).room s m args below meth c s.heap [] 0 0 (MQ below (vp_Si Q) args s 0 0 (fun _ => False)) (F0 m 0 ls []) := by
  obtain ⟨hx, hb, hr, hml, hown, hts, hlocks⟩ := id C
  intro hP ls hl
  unfold wp_X5_rowOf_in at h
  refine lv_iload_n hx hb dX5_rowOf_0 rfl (lv_at hl 0 rfl) ?_
  refine tm_rS (As := [.int x0]) (rest := []) (wc := []) ⟨hx, hb, hml, hown, hts⟩ (cn_X5_isSymbol l D cI cB x0 _ h) (va_cwS 1 hts gX5_rowOf_X5_isSymbol rfl rfl rfl (by decide +kernel) ⟨Nat.le_of_ble_eq_true rfl, Nat.le_of_ble_eq_true rfl⟩) hK (hP.sub [] rfl) rfl hl.1 rfl (Nat.le_of_ble_eq_true rfl) ⟨Nat.zero_le _, Nat.zero_le _⟩ dX5_rowOf_1 (fun r1 h => ?_)
  obtain ⟨br1, h⟩ := h
  refine lv_if_ne (tgt := 9) hx hb dX5_rowOf_4 (by decide) (fun c2 => ?_) (fun c2 => ?_)
  · have h := h.2 c2
    refine lv_iload_n hx hb dX5_rowOf_9 rfl (lv_at hl 0 rfl) ?_
    refine tm_rS (As := [.int x0]) (rest := []) (wc := []) ⟨hx, hb, hml, hown, hts⟩ (cn_X5_hasLeft l D cI cB x0 _ h) (va_cwS 1 hts gX5_rowOf_X5_hasLeft rfl rfl rfl (by decide +kernel) ⟨Nat.le_of_ble_eq_true rfl, Nat.le_of_ble_eq_true rfl⟩) hK (hP.sub [] rfl) rfl hl.1 rfl (Nat.le_of_ble_eq_true rfl) ⟨Nat.zero_le _, Nat.zero_le _⟩ dX5_rowOf_10 (fun r3 h => ?_)
    obtain ⟨br3, h⟩ := h
    refine lv_if_eq (tgt := 20) hx hb dX5_rowOf_13 (by decide) (fun c4 => ?_) (fun c4 => ?_)
    · have h := h.1 c4
      refine lv_iconst (v := 0) hx hb dX5_rowOf_20 (by decide) ?_
      exact bk_X5_rowOf_21 C hK 0 x0 x2 h hP ls (lv_sub hl [0, 2] rfl)
    · have h := h.2 c4
      refine lv_iload_n hx hb dX5_rowOf_16 rfl (lv_at hl 1 rfl) ?_
      refine lv_goto (tgt := 21) hx hb dX5_rowOf_17 (by decide) ?_
      exact bk_X5_rowOf_21 C hK x1 x0 x2 h hP ls (lv_sub hl [0, 2] rfl)
  · have h := h.1 c2
    refine lv_iconst (v := (-1)) hx hb dX5_rowOf_7 (by decide) ?_
    exact W.iret (v := (-1)) hx hb hr (fun t ht hW => ⟨(-1), rfl, h, ht⟩) (fun _ h => by cases h) dX5_rowOf_8
abbrev wp_X5_rowOf (x0 : Int32) (x1 : Int32) (x2 : Int32) (Q : Int32 → Prop) : Prop := wp_X5_rowOf_in Q x0 x1 x2
set_option maxRecDepth 100000 in
set_option maxHeartbeats 4000000 in
theorem cn_X5_rowOf (l : Launch) (D : va_G) (cI cB : ClassId) (x0 : Int32) (x1 : Int32) (x2 : Int32) (Q : Int32 → Prop) (h : wp_X5_rowOf x0 x1 x2 Q) : Met l yX5_rowOf wsX5_rowOf rm_X5_rowOf (tm_Pr D cI cB [.int x0, .int x1, .int x2] []) (vp_Si Q) 0 0 (fun _ => False) := by
  refine Met.ofW (cc := cX5_rowOf) (maxL := 5) (ret := (some .int)) (by decide) rfl ?_
  intro p e s m args below meth c s₁ B hml hv
  obtain ⟨rfl, hP, hK⟩ := hv
  have hl := lv_entry ([.int x0, .int x1, .int x2]) (n := 5) (Nat.le_of_ble_eq_true rfl)
  rw [lg_entry_eq]
  generalize (lg_sl ([.int x0, .int x1, .int x2]) ++ List.replicate (5 - (lg_sl ([.int x0, .int x1, .int x2])).length) Slot.unset).toArray = ls at hl ⊢
  have hl : lv_has ls 5 [(0, .int x0), (1, .int x1), (2, .int x2)] := hl
  exact bk_X5_rowOf_in ⟨B.exec, B.bytes, B.returns, hml, findClass_of_methodNamed B.named, atoms_spec (ws := wsX5_rowOf) B.pre, B.notSynchronized⟩ hK x0 x1 x2 h hP ls hl

/-! X3_leads (II)Z -/
theorem in_X3_leads_X3 : ∀ w ∈ u_ws RX3 TX3 3, w ∈ wsX3_leads := by decide +kernel
abbrev rm_X3_leads : Room := { frames := 0, cells := 0, slots := 0, locals := 0 }
def wp_X3_leads_in (v_Go : Int32) (v_Ta : Nat → Int32) (Q : Int32 → Prop) (x1 : Int32) (x2 : Int32) : Prop :=
  vp_in x1 128 ∧ (((((v_Ta (x1).toNatClampNeg) >>> (x2 &&& 31)) &&& 1) = 1 → Q 1) ∧ (¬ ((((v_Ta (x1).toNatClampNeg) >>> (x2 &&& 31)) &&& 1) = 1) → Q 0))
set_option maxRecDepth 100000 in
set_option maxHeartbeats 4000000 in
theorem bk_X3_leads_in {p : Program} {l : Launch} {e : Env} {s : State} {m : MethodId} {args : Array Value} {below : List Frame} {meth : Method} {c : Code} {D : va_G} {cI cB : ClassId} {a_o a_Ta a_Re : Nat} {v_Go : Int32} {v_Ta : Nat → Int32} {Q : Int32 → Prop} (C : tm_cx p s m args meth c cX3_leads 3 (some .boolean) RX3 wsX3_leads) (hK : tm_kx D cI cB s) (x1 : Int32) (x2 : Int32) (h : wp_X3_leads_in v_Go v_Ta Q x1 x2) : va_P D vwCl [(a_o, .inr (3, [.ref a_Ta, .ref a_Re, .int v_Go])), (a_Ta, .inl (cI, 128, .inl v_Ta))] s.heap → ∀ (ls : Array Slot), lv_has ls 3 [(0, .ref a_o), (1, .int x1), (2, .int x2)] → W p l e (headSpec wsX3_leads rm_X3_leads).room s m args below meth c s.heap [] 0 0 (MQ below (vp_Si (fun r => (r = 0 ∨ r = 1) ∧ Q r)) args s 0 0 (fun _ => False)) (F0 m 0 ls []) := by
  obtain ⟨hx, hb, hr, hml, hown, hts, hlocks⟩ := id C
  intro hP ls hl
  unfold wp_X3_leads_in at h
  refine lv_aload_n hx hb dX3_leads_0 rfl (lv_at hl 0 rfl) ?_
  refine va_get (D := D) (ci := 3) (v := .ref a_Ta) (C := RX3) (T := TX3) (N := 3) hx hb hts in_X3_leads_X3 hown hK.1 hP 0 rfl rfl 0 (by decide) (hts (.fieldLink RX3 9 "TreeMachines$Machine" "targets" "[I") (by decide +kernel)) (fun _ h9 => h9) rfl dX3_leads_1 ?_
  refine lv_iload_n hx hb dX3_leads_4 rfl (lv_at hl 1 rfl) ?_
  obtain ⟨b1, h⟩ := h
  refine va_iald hx hb hK.1 hP 1 0 rfl rfl b1 dX3_leads_5 ?_
  refine lv_iload_n hx hb dX3_leads_6 rfl (lv_at hl 2 rfl) ?_
  refine lv_ishr hx hb dX3_leads_7 ?_
  refine lv_iconst (v := 1) hx hb dX3_leads_8 (by decide) ?_
  refine lv_iand (x := ((v_Ta (x1).toNatClampNeg) >>> (x2 &&& 31))) (y := 1) hx hb dX3_leads_9 ?_
  refine lv_iconst (v := 1) hx hb dX3_leads_10 (by decide) ?_
  refine lv_icmp_ne (tgt := 18) hx hb dX3_leads_11 (by decide) (fun c2 => ?_) (fun c2 => ?_)
  · have h := h.2 c2
    refine lv_iconst (v := 0) hx hb dX3_leads_18 (by decide) ?_
    exact W.zret (v := 0) (ty := .boolean) hx hb hr (tm_n01 (Or.inl rfl)) (fun t ht hW => ⟨0, rfl, ⟨Or.inl rfl, h⟩, ht⟩) (fun _ h => by cases h) dX3_leads_19
  · have h := h.1 c2
    refine lv_iconst (v := 1) hx hb dX3_leads_14 (by decide) ?_
    refine lv_goto (tgt := 19) hx hb dX3_leads_15 (by decide) ?_
    exact W.zret (v := 1) (ty := .boolean) hx hb hr (tm_n01 (Or.inr rfl)) (fun t ht hW => ⟨1, rfl, ⟨Or.inr rfl, h⟩, ht⟩) (fun _ h => by cases h) dX3_leads_19
abbrev wp_X3_leads (v_Go : Int32) (v_Ta : Nat → Int32) (x1 : Int32) (x2 : Int32) (Q : Int32 → Prop) : Prop := wp_X3_leads_in v_Go v_Ta Q x1 x2
set_option maxRecDepth 100000 in
set_option maxHeartbeats 4000000 in
theorem cn_X3_leads (l : Launch) (D : va_G) (cI cB : ClassId) (a_o a_Ta a_Re : Nat) (v_Go : Int32) (v_Ta : Nat → Int32) (x1 : Int32) (x2 : Int32) (Q : Int32 → Prop) (h : wp_X3_leads v_Go v_Ta x1 x2 Q) : Met l yX3_leads wsX3_leads rm_X3_leads (tm_Pr D cI cB [.ref a_o, .int x1, .int x2] [(a_o, .inr (3, [.ref a_Ta, .ref a_Re, .int v_Go])), (a_Ta, .inl (cI, 128, .inl v_Ta))]) (vp_Si (fun r => (r = 0 ∨ r = 1) ∧ Q r)) 0 0 (fun _ => False) := by
  refine Met.ofW (cc := cX3_leads) (maxL := 3) (ret := (some .boolean)) (by decide) rfl ?_
  intro p e s m args below meth c s₁ B hml hv
  obtain ⟨rfl, hP, hK⟩ := hv
  have hl := lv_entry ([.ref a_o, .int x1, .int x2]) (n := 3) (Nat.le_of_ble_eq_true rfl)
  rw [lg_entry_eq]
  generalize (lg_sl ([.ref a_o, .int x1, .int x2]) ++ List.replicate (3 - (lg_sl ([.ref a_o, .int x1, .int x2])).length) Slot.unset).toArray = ls at hl ⊢
  have hl : lv_has ls 3 [(0, .ref a_o), (1, .int x1), (2, .int x2)] := hl
  exact bk_X3_leads_in ⟨B.exec, B.bytes, B.returns, hml, findClass_of_methodNamed B.named, atoms_spec (ws := wsX3_leads) B.pre, B.notSynchronized⟩ hK x1 x2 h hP ls hl

/-! X3_cell (III)I -/
abbrev rm_X3_cell : Room := { frames := 0, cells := 0, slots := 0, locals := 0 }
def wp_X3_cell_in (Q : Int32 → Prop) (x0 : Int32) (x1 : Int32) (x2 : Int32) : Prop :=
  Q ((((x0 * 16) + x1) * 16) + x2)
set_option maxRecDepth 100000 in
set_option maxHeartbeats 4000000 in
theorem bk_X3_cell_in {p : Program} {l : Launch} {e : Env} {s : State} {m : MethodId} {args : Array Value} {below : List Frame} {meth : Method} {c : Code} {D : va_G} {cI cB : ClassId} {Q : Int32 → Prop} (C : tm_cx p s m args meth c cX3_cell 3 (some .int) RX3 wsX3_cell) (hK : tm_kx D cI cB s) (x0 : Int32) (x1 : Int32) (x2 : Int32) (h : wp_X3_cell_in Q x0 x1 x2) : va_P D vwCl [] s.heap → ∀ (ls : Array Slot), lv_has ls 3 [(0, .int x0), (1, .int x1), (2, .int x2)] → W p l e (headSpec wsX3_cell rm_X3_cell).room s m args below meth c s.heap [] 0 0 (MQ below (vp_Si Q) args s 0 0 (fun _ => False)) (F0 m 0 ls []) := by
  obtain ⟨hx, hb, hr, hml, hown, hts, hlocks⟩ := id C
  intro hP ls hl
  unfold wp_X3_cell_in at h
  refine lv_iload_n hx hb dX3_cell_0 rfl (lv_at hl 0 rfl) ?_
  refine lv_bipush (v := 16) hx hb dX3_cell_1 (by decide) ?_
  refine lv_imul (x := x0) (y := 16) hx hb dX3_cell_3 ?_
  refine lv_iload_n hx hb dX3_cell_4 rfl (lv_at hl 1 rfl) ?_
  refine lv_iadd hx hb dX3_cell_5 ?_
  refine lv_bipush (v := 16) hx hb dX3_cell_6 (by decide) ?_
  refine lv_imul (x := ((x0 * 16) + x1)) (y := 16) hx hb dX3_cell_8 ?_
  refine lv_iload_n hx hb dX3_cell_9 rfl (lv_at hl 2 rfl) ?_
  refine lv_iadd hx hb dX3_cell_10 ?_
  exact W.iret (v := ((((x0 * 16) + x1) * 16) + x2)) hx hb hr (fun t ht hW => ⟨((((x0 * 16) + x1) * 16) + x2), rfl, h, ht⟩) (fun _ h => by cases h) dX3_cell_11
abbrev wp_X3_cell (x0 : Int32) (x1 : Int32) (x2 : Int32) (Q : Int32 → Prop) : Prop := wp_X3_cell_in Q x0 x1 x2
set_option maxRecDepth 100000 in
set_option maxHeartbeats 4000000 in
theorem cn_X3_cell (l : Launch) (D : va_G) (cI cB : ClassId) (x0 : Int32) (x1 : Int32) (x2 : Int32) (Q : Int32 → Prop) (h : wp_X3_cell x0 x1 x2 Q) : Met l yX3_cell wsX3_cell rm_X3_cell (tm_Pr D cI cB [.int x0, .int x1, .int x2] []) (vp_Si Q) 0 0 (fun _ => False) := by
  refine Met.ofW (cc := cX3_cell) (maxL := 3) (ret := (some .int)) (by decide) rfl ?_
  intro p e s m args below meth c s₁ B hml hv
  obtain ⟨rfl, hP, hK⟩ := hv
  have hl := lv_entry ([.int x0, .int x1, .int x2]) (n := 3) (Nat.le_of_ble_eq_true rfl)
  rw [lg_entry_eq]
  generalize (lg_sl ([.int x0, .int x1, .int x2]) ++ List.replicate (3 - (lg_sl ([.int x0, .int x1, .int x2])).length) Slot.unset).toArray = ls at hl ⊢
  have hl : lv_has ls 3 [(0, .int x0), (1, .int x1), (2, .int x2)] := hl
  exact bk_X3_cell_in ⟨B.exec, B.bytes, B.returns, hml, findClass_of_methodNamed B.named, atoms_spec (ws := wsX3_cell) B.pre, B.notSynchronized⟩ hK x0 x1 x2 h hP ls hl

/-! X4_profileOf (III)I -/
theorem in_X4_profileOf_X3 : ∀ w ∈ u_ws RX3 TX3 3, w ∈ wsX4_profileOf := by decide +kernel
theorem in_X4_profileOf_X4 : ∀ w ∈ u_ws RX4 TX4 2, w ∈ wsX4_profileOf := by decide +kernel
abbrev rm_X4_profileOf : Room := { frames := 0, cells := 0, slots := 0, locals := 0 }
def wp_X4_profileOf_in (v_fGo : Int32) (v_fRe : Nat → Int32) (v_sGo : Int32) (v_sRe : Nat → Int32) (Q : Int32 → Prop) (x1 : Int32) (x2 : Int32) (x3 : Int32) : Prop :=
  ∀ x4_1 : Int32, x4_1 = ((((x1 * 16) + (x2 &&& 15)) * 16) + (x3 &&& 15)) → ∀ x5_2 : Int32, x5_2 = ((((x1 * 16) + (x2 >>> (4 &&& 31))) * 16) + (x3 >>> (4 &&& 31))) → vp_in x4_1 2048 ∧ vp_in x5_2 2048 ∧ Q ((v_fRe (x4_1).toNatClampNeg) ||| ((v_sRe (x5_2).toNatClampNeg) <<< (4 &&& 31)))
set_option maxRecDepth 100000 in
set_option maxHeartbeats 4000000 in
theorem bk_X4_profileOf_in {p : Program} {l : Launch} {e : Env} {s : State} {m : MethodId} {args : Array Value} {below : List Frame} {meth : Method} {c : Code} {D : va_G} {cI cB : ClassId} {a_o a_f a_s a_fTa a_fRe a_sTa a_sRe : Nat} {v_fGo : Int32} {v_fRe : Nat → Int32} {v_sGo : Int32} {v_sRe : Nat → Int32} {Q : Int32 → Prop} (C : tm_cx p s m args meth c cX4_profileOf 6 (some .int) RX4 wsX4_profileOf) (hK : tm_kx D cI cB s) (x1 : Int32) (x2 : Int32) (x3 : Int32) (h : wp_X4_profileOf_in v_fGo v_fRe v_sGo v_sRe Q x1 x2 x3) : va_P D vwCl [(a_o, .inr (4, [.ref a_f, .ref a_s])), (a_f, .inr (3, [.ref a_fTa, .ref a_fRe, .int v_fGo])), (a_fRe, .inl (cI, 2048, .inl v_fRe)), (a_s, .inr (3, [.ref a_sTa, .ref a_sRe, .int v_sGo])), (a_sRe, .inl (cI, 2048, .inl v_sRe))] s.heap → ∀ (ls : Array Slot), lv_has ls 6 [(0, .ref a_o), (1, .int x1), (2, .int x2), (3, .int x3)] → W p l e (headSpec wsX4_profileOf rm_X4_profileOf).room s m args below meth c s.heap [] 0 0 (MQ below (vp_Si Q) args s 0 0 (fun _ => False)) (F0 m 0 ls []) := by
  obtain ⟨hx, hb, hr, hml, hown, hts, hlocks⟩ := id C
  intro hP ls hl
  unfold wp_X4_profileOf_in at h
  refine lv_iload_n hx hb dX4_profileOf_0 rfl (lv_at hl 1 rfl) ?_
  refine lv_bipush (v := 16) hx hb dX4_profileOf_1 (by decide) ?_
  refine lv_imul (x := x1) (y := 16) hx hb dX4_profileOf_3 ?_
  refine lv_iload_n hx hb dX4_profileOf_4 rfl (lv_at hl 2 rfl) ?_
  refine lv_bipush (v := 15) hx hb dX4_profileOf_5 (by decide) ?_
  refine lv_iand (x := x2) (y := 15) hx hb dX4_profileOf_7 ?_
  refine lv_iadd hx hb dX4_profileOf_8 ?_
  refine lv_bipush (v := 16) hx hb dX4_profileOf_9 (by decide) ?_
  refine lv_imul (x := ((x1 * 16) + (x2 &&& 15))) (y := 16) hx hb dX4_profileOf_11 ?_
  refine lv_iload_n hx hb dX4_profileOf_12 rfl (lv_at hl 3 rfl) ?_
  refine lv_bipush (v := 15) hx hb dX4_profileOf_13 (by decide) ?_
  refine lv_iand (x := x3) (y := 15) hx hb dX4_profileOf_15 ?_
  refine lv_iadd hx hb dX4_profileOf_16 ?_
  refine lv_topi (fun x4_1 ex4_1 => ?_)
  have h := h x4_1 ex4_1
  refine lv_istore (lv' := [(4, .int x4_1), (0, .ref a_o), (1, .int x1), (2, .int x2), (3, .int x3)]) hx hb dX4_profileOf_17 hl (by decide) rfl (fun ls hl => ?_)
  refine lv_iload_n hx hb dX4_profileOf_19 rfl (lv_at hl 2 rfl) ?_
  refine lv_bipush (v := 16) hx hb dX4_profileOf_20 (by decide) ?_
  refine lv_imul (x := x1) (y := 16) hx hb dX4_profileOf_22 ?_
  refine lv_iload_n hx hb dX4_profileOf_23 rfl (lv_at hl 3 rfl) ?_
  refine lv_iconst (v := 4) hx hb dX4_profileOf_24 (by decide) ?_
  refine lv_ishr (x := x2) (y := 4) hx hb dX4_profileOf_25 ?_
  refine lv_iadd hx hb dX4_profileOf_26 ?_
  refine lv_bipush (v := 16) hx hb dX4_profileOf_27 (by decide) ?_
  refine lv_imul (x := ((x1 * 16) + (x2 >>> (4 &&& 31)))) (y := 16) hx hb dX4_profileOf_29 ?_
  refine lv_iload_n hx hb dX4_profileOf_30 rfl (lv_at hl 4 rfl) ?_
  refine lv_iconst (v := 4) hx hb dX4_profileOf_31 (by decide) ?_
  refine lv_ishr (x := x3) (y := 4) hx hb dX4_profileOf_32 ?_
  refine lv_iadd hx hb dX4_profileOf_33 ?_
  refine lv_topi (fun x5_2 ex5_2 => ?_)
  have h := h x5_2 ex5_2
  refine lv_istore (lv' := [(5, .int x5_2), (4, .int x4_1), (0, .ref a_o), (1, .int x1), (2, .int x2), (3, .int x3)]) hx hb dX4_profileOf_34 hl (by decide) rfl (fun ls hl => ?_)
  refine lv_aload_n hx hb dX4_profileOf_36 rfl (lv_at hl 2 rfl) ?_
  refine va_get (D := D) (ci := 4) (v := .ref a_f) (C := RX4) (T := TX4) (N := 2) hx hb hts in_X4_profileOf_X4 hown hK.1 hP 0 rfl rfl 0 (by decide) (hts (.fieldLink RX4 12 "TreeMachines$Pair" "first" "LTreeMachines$Machine;") (by decide +kernel)) (fun _ h9 => h9) rfl dX4_profileOf_37 ?_
  refine va_get (D := D) (ci := 3) (v := .ref a_fRe) (C := RX3) (T := TX3) (N := 3) hx hb hts in_X4_profileOf_X3 hown hK.1 hP 1 rfl rfl 1 (by decide) (hts (.fieldLink RX4 21 "TreeMachines$Machine" "reachable" "[I") (by decide +kernel)) (fun _ h9 => h9) rfl dX4_profileOf_40 ?_
  refine lv_iload hx hb dX4_profileOf_43 (lv_at hl 1 rfl) ?_
  obtain ⟨b3, h⟩ := h
  refine va_iald hx hb hK.1 hP 2 0 rfl rfl b3 dX4_profileOf_45 ?_
  refine lv_aload_n hx hb dX4_profileOf_46 rfl (lv_at hl 2 rfl) ?_
  refine va_get (D := D) (ci := 4) (v := .ref a_s) (C := RX4) (T := TX4) (N := 2) hx hb hts in_X4_profileOf_X4 hown hK.1 hP 0 rfl rfl 1 (by decide) (hts (.fieldLink RX4 18 "TreeMachines$Pair" "second" "LTreeMachines$Machine;") (by decide +kernel)) (fun _ h9 => h9) rfl dX4_profileOf_47 ?_
  refine va_get (D := D) (ci := 3) (v := .ref a_sRe) (C := RX3) (T := TX3) (N := 3) hx hb hts in_X4_profileOf_X3 hown hK.1 hP 3 rfl rfl 1 (by decide) (hts (.fieldLink RX4 21 "TreeMachines$Machine" "reachable" "[I") (by decide +kernel)) (fun _ h9 => h9) rfl dX4_profileOf_50 ?_
  refine lv_iload hx hb dX4_profileOf_53 (lv_at hl 0 rfl) ?_
  obtain ⟨b4, h⟩ := h
  refine va_iald hx hb hK.1 hP 4 0 rfl rfl b4 dX4_profileOf_55 ?_
  refine lv_iconst (v := 4) hx hb dX4_profileOf_56 (by decide) ?_
  refine lv_ishl (x := (v_sRe (x5_2).toNatClampNeg)) (y := 4) hx hb dX4_profileOf_57 ?_
  refine lv_ior hx hb dX4_profileOf_58 ?_
  exact W.iret (v := ((v_fRe (x4_1).toNatClampNeg) ||| ((v_sRe (x5_2).toNatClampNeg) <<< (4 &&& 31)))) hx hb hr (fun t ht hW => ⟨((v_fRe (x4_1).toNatClampNeg) ||| ((v_sRe (x5_2).toNatClampNeg) <<< (4 &&& 31))), rfl, h, ht⟩) (fun _ h => by cases h) dX4_profileOf_59
abbrev wp_X4_profileOf (v_fGo : Int32) (v_fRe : Nat → Int32) (v_sGo : Int32) (v_sRe : Nat → Int32) (x1 : Int32) (x2 : Int32) (x3 : Int32) (Q : Int32 → Prop) : Prop := wp_X4_profileOf_in v_fGo v_fRe v_sGo v_sRe Q x1 x2 x3
set_option maxRecDepth 100000 in
set_option maxHeartbeats 4000000 in
theorem cn_X4_profileOf (l : Launch) (D : va_G) (cI cB : ClassId) (a_o a_f a_s a_fTa a_fRe a_sTa a_sRe : Nat) (v_fGo : Int32) (v_fRe : Nat → Int32) (v_sGo : Int32) (v_sRe : Nat → Int32) (x1 : Int32) (x2 : Int32) (x3 : Int32) (Q : Int32 → Prop) (h : wp_X4_profileOf v_fGo v_fRe v_sGo v_sRe x1 x2 x3 Q) : Met l yX4_profileOf wsX4_profileOf rm_X4_profileOf (tm_Pr D cI cB [.ref a_o, .int x1, .int x2, .int x3] [(a_o, .inr (4, [.ref a_f, .ref a_s])), (a_f, .inr (3, [.ref a_fTa, .ref a_fRe, .int v_fGo])), (a_fRe, .inl (cI, 2048, .inl v_fRe)), (a_s, .inr (3, [.ref a_sTa, .ref a_sRe, .int v_sGo])), (a_sRe, .inl (cI, 2048, .inl v_sRe))]) (vp_Si Q) 0 0 (fun _ => False) := by
  refine Met.ofW (cc := cX4_profileOf) (maxL := 6) (ret := (some .int)) (by decide) rfl ?_
  intro p e s m args below meth c s₁ B hml hv
  obtain ⟨rfl, hP, hK⟩ := hv
  have hl := lv_entry ([.ref a_o, .int x1, .int x2, .int x3]) (n := 6) (Nat.le_of_ble_eq_true rfl)
  rw [lg_entry_eq]
  generalize (lg_sl ([.ref a_o, .int x1, .int x2, .int x3]) ++ List.replicate (6 - (lg_sl ([.ref a_o, .int x1, .int x2, .int x3])).length) Slot.unset).toArray = ls at hl ⊢
  have hl : lv_has ls 6 [(0, .ref a_o), (1, .int x1), (2, .int x2), (3, .int x3)] := hl
  exact bk_X4_profileOf_in ⟨B.exec, B.bytes, B.returns, hml, findClass_of_methodNamed B.named, atoms_spec (ws := wsX4_profileOf) B.pre, B.notSynchronized⟩ hK x1 x2 x3 h hP ls hl

/-! X4_numbered (I)LTreeMachines$Machine; -/
theorem in_X4_numbered_X4 : ∀ w ∈ u_ws RX4 TX4 2, w ∈ wsX4_numbered := by decide +kernel
abbrev rm_X4_numbered : Room := { frames := 0, cells := 0, slots := 0, locals := 0 }
def wp_X4_numbered_in (Q : Nat → Prop) (x1 : Int32) : Prop :=
  ((x1 = 0 → Q 0) ∧ (¬ (x1 = 0) → ((x1 = 1 → Q 1) ∧ (¬ (x1 = 1) → Q 2))))
set_option maxRecDepth 100000 in
set_option maxHeartbeats 4000000 in
theorem bk_X4_numbered_in {p : Program} {l : Launch} {e : Env} {s : State} {m : MethodId} {args : Array Value} {below : List Frame} {meth : Method} {c : Code} {D : va_G} {cI cB : ClassId} {a_o a_f a_s : Nat} {Q : Nat → Prop} (C : tm_cx p s m args meth c cX4_numbered 2 (some (.object "TreeMachines$Machine")) RX4 wsX4_numbered) (hK : tm_kx D cI cB s) (x1 : Int32) (h : wp_X4_numbered_in Q x1) : va_P D vwCl [(a_o, .inr (4, [.ref a_f, .ref a_s]))] s.heap → ∀ (ls : Array Slot), lv_has ls 2 [(0, .ref a_o), (1, .int x1)] → W p l e (headSpec wsX4_numbered rm_X4_numbered).room s m args below meth c s.heap [] 0 0 (MQ below (va_Sr (fun k => (k = 0 ∨ k = 1 ∨ k = 2) ∧ Q k) (tm_adN a_f a_s)) args s 0 0 (fun _ => False)) (F0 m 0 ls []) := by
  obtain ⟨hx, hb, hr, hml, hown, hts, hlocks⟩ := id C
  intro hP ls hl
  unfold wp_X4_numbered_in at h
  refine lv_iload_n hx hb dX4_numbered_0 rfl (lv_at hl 1 rfl) ?_
  refine lv_if_ne (tgt := 9) hx hb dX4_numbered_1 (by decide) (fun c1 => ?_) (fun c1 => ?_)
  · have h := h.2 c1
    refine lv_iload_n hx hb dX4_numbered_9 rfl (lv_at hl 1 rfl) ?_
    refine lv_iconst (v := 1) hx hb dX4_numbered_10 (by decide) ?_
    refine lv_icmp_ne (tgt := 21) hx hb dX4_numbered_11 (by decide) (fun c2 => ?_) (fun c2 => ?_)
    · have h := h.2 c2
      refine lv_null hx hb dX4_numbered_21 ?_
      exact W.aret (v := .null) hx hb hr (Or.inl ⟨_, rfl⟩) (Or.inl rfl) (fun t ht hW => ⟨2, rfl, ⟨Or.inr (Or.inr rfl), h⟩, ht⟩) (fun _ h => by cases h) dX4_numbered_22
    · have h := h.1 c2
      refine lv_aload_n hx hb dX4_numbered_14 rfl (lv_at hl 0 rfl) ?_
      refine va_get (D := D) (ci := 4) (v := .ref a_s) (C := RX4) (T := TX4) (N := 2) hx hb hts in_X4_numbered_X4 hown hK.1 hP 0 rfl rfl 1 (by decide) (hts (.fieldLink RX4 18 "TreeMachines$Pair" "second" "LTreeMachines$Machine;") (by decide +kernel)) (fun _ h9 => h9) rfl dX4_numbered_15 ?_
      refine lv_goto (tgt := 22) hx hb dX4_numbered_18 (by decide) ?_
      exact W.aret (v := .ref a_s) hx hb hr (Or.inl ⟨_, rfl⟩) (Or.inr ⟨_, rfl⟩) (fun t ht hW => ⟨1, rfl, ⟨Or.inr (Or.inl rfl), h⟩, ht⟩) (fun _ h => by cases h) dX4_numbered_22
  · have h := h.1 c1
    refine lv_aload_n hx hb dX4_numbered_4 rfl (lv_at hl 0 rfl) ?_
    refine va_get (D := D) (ci := 4) (v := .ref a_f) (C := RX4) (T := TX4) (N := 2) hx hb hts in_X4_numbered_X4 hown hK.1 hP 0 rfl rfl 0 (by decide) (hts (.fieldLink RX4 12 "TreeMachines$Pair" "first" "LTreeMachines$Machine;") (by decide +kernel)) (fun _ h9 => h9) rfl dX4_numbered_5 ?_
    exact W.aret (v := .ref a_f) hx hb hr (Or.inl ⟨_, rfl⟩) (Or.inr ⟨_, rfl⟩) (fun t ht hW => ⟨0, rfl, ⟨Or.inl rfl, h⟩, ht⟩) (fun _ h => by cases h) dX4_numbered_8
abbrev wp_X4_numbered (x1 : Int32) (Q : Nat → Prop) : Prop := wp_X4_numbered_in Q x1
set_option maxRecDepth 100000 in
set_option maxHeartbeats 4000000 in
theorem cn_X4_numbered (l : Launch) (D : va_G) (cI cB : ClassId) (a_o a_f a_s : Nat) (x1 : Int32) (Q : Nat → Prop) (h : wp_X4_numbered x1 Q) : Met l yX4_numbered wsX4_numbered rm_X4_numbered (tm_Pr D cI cB [.ref a_o, .int x1] [(a_o, .inr (4, [.ref a_f, .ref a_s]))]) (va_Sr (fun k => (k = 0 ∨ k = 1 ∨ k = 2) ∧ Q k) (tm_adN a_f a_s)) 0 0 (fun _ => False) := by
  refine Met.ofW (cc := cX4_numbered) (maxL := 2) (ret := (some (.object "TreeMachines$Machine"))) (by decide) rfl ?_
  intro p e s m args below meth c s₁ B hml hv
  obtain ⟨rfl, hP, hK⟩ := hv
  have hl := lv_entry ([.ref a_o, .int x1]) (n := 2) (Nat.le_of_ble_eq_true rfl)
  rw [lg_entry_eq]
  generalize (lg_sl ([.ref a_o, .int x1]) ++ List.replicate (2 - (lg_sl ([.ref a_o, .int x1])).length) Slot.unset).toArray = ls at hl ⊢
  have hl : lv_has ls 2 [(0, .ref a_o), (1, .int x1)] := hl
  exact bk_X4_numbered_in ⟨B.exec, B.bytes, B.returns, hml, findClass_of_methodNamed B.named, atoms_spec (ws := wsX4_numbered) B.pre, B.notSynchronized⟩ hK x1 h hP ls hl

