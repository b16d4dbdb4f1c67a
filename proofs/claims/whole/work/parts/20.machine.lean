/-! X5_isSymbol (I)Z -/
abbrev rm_X5_isSymbol : Room := { frames := 0, cells := 0, slots := 0, locals := 0 }
def wp_X5_isSymbol_in (Q : Int32 → Prop) (x0 : Int32) : Prop :=
  ((x0 < 0 → Q 0) ∧ (¬ (x0 < 0) → ((8 ≤ x0 → Q 0) ∧ (¬ (8 ≤ x0) → Q 1))))
set_option maxRecDepth 100000 in
set_option maxHeartbeats 4000000 in
theorem bk_X5_isSymbol_in {p : Program} {l : Launch} {e : Env} {s : State} {m : MethodId} {args : Array Value} {below : List Frame} {meth : Method} {c : Code} {D : va_G} {cI cB : ClassId} {Q : Int32 → Prop} (C : tm_cx p s m args meth c cX5_isSymbol 1 (some .boolean) RX5 wsX5_isSymbol) (hK : tm_kx D cI cB s) (x0 : Int32) (h : wp_X5_isSymbol_in Q x0) : va_P D vwCl [] s.heap → ∀ (ls : Array Slot), lv_has ls 1 [(0, .int x0)] → W p l e (headSpec wsX5_isSymbol rm_X5_isSymbol).room s m args below meth c s.heap [] 0 0 (MQ below (vp_Si (fun r => (r = 0 ∨ r = 1) ∧ Q r)) args s 0 0 (fun _ => False)) (F0 m 0 ls []) := by
  obtain ⟨hx, hb, hr, hml, hown, hts, hlocks⟩ := id C
  intro hP ls hl
  unfold wp_X5_isSymbol_in at h
  refine lv_iload_n hx hb dX5_isSymbol_0 rfl (lv_at hl 0 rfl) ?_
  refine lv_if_lt (tgt := 14) hx hb dX5_isSymbol_1 (by decide) (fun c1 => ?_) (fun c1 => ?_)
  · have h := h.1 c1
    refine lv_iconst (v := 0) hx hb dX5_isSymbol_14 (by decide) ?_
    exact W.zret (v := 0) (ty := .boolean) hx hb hr (tm_n01 (Or.inl rfl)) (fun t ht hW => ⟨0, rfl, ⟨Or.inl rfl, h⟩, ht⟩) (fun _ h => by cases h) dX5_isSymbol_15
  · have h := h.2 c1
    refine lv_iload_n hx hb dX5_isSymbol_4 rfl (lv_at hl 0 rfl) ?_
    refine lv_bipush (v := 8) hx hb dX5_isSymbol_5 (by decide) ?_
    refine lv_icmp_ge (tgt := 14) hx hb dX5_isSymbol_7 (by decide) (fun c2 => ?_) (fun c2 => ?_)
    · have h := h.1 c2
      refine lv_iconst (v := 0) hx hb dX5_isSymbol_14 (by decide) ?_
      exact W.zret (v := 0) (ty := .boolean) hx hb hr (tm_n01 (Or.inl rfl)) (fun t ht hW => ⟨0, rfl, ⟨Or.inl rfl, h⟩, ht⟩) (fun _ h => by cases h) dX5_isSymbol_15
    · have h := h.2 c2
      refine lv_iconst (v := 1) hx hb dX5_isSymbol_10 (by decide) ?_
      refine lv_goto (tgt := 15) hx hb dX5_isSymbol_11 (by decide) ?_
      exact W.zret (v := 1) (ty := .boolean) hx hb hr (tm_n01 (Or.inr rfl)) (fun t ht hW => ⟨1, rfl, ⟨Or.inr rfl, h⟩, ht⟩) (fun _ h => by cases h) dX5_isSymbol_15
abbrev wp_X5_isSymbol (x0 : Int32) (Q : Int32 → Prop) : Prop := wp_X5_isSymbol_in Q x0
set_option maxRecDepth 100000 in
set_option maxHeartbeats 4000000 in
theorem cn_X5_isSymbol (l : Launch) (D : va_G) (cI cB : ClassId) (x0 : Int32) (Q : Int32 → Prop) (h : wp_X5_isSymbol x0 Q) : Met l yX5_isSymbol wsX5_isSymbol rm_X5_isSymbol (tm_Pr D cI cB [.int x0] []) (vp_Si (fun r => (r = 0 ∨ r = 1) ∧ Q r)) 0 0 (fun _ => False) := by
  refine Met.ofW (cc := cX5_isSymbol) (maxL := 1) (ret := (some .boolean)) (by decide) rfl ?_
  intro p e s m args below meth c s₁ B hml hv
  obtain ⟨rfl, hP, hK⟩ := hv
  have hl := lv_entry ([.int x0]) (n := 1) (Nat.le_of_ble_eq_true rfl)
  rw [lg_entry_eq]
  generalize (lg_sl ([.int x0]) ++ List.replicate (1 - (lg_sl ([.int x0])).length) Slot.unset).toArray = ls at hl ⊢
  have hl : lv_has ls 1 [(0, .int x0)] := hl
  exact bk_X5_isSymbol_in ⟨B.exec, B.bytes, B.returns, hml, findClass_of_methodNamed B.named, atoms_spec (ws := wsX5_isSymbol) B.pre, B.notSynchronized⟩ hK x0 h hP ls hl
/-! X5_isState (I)Z -/
abbrev rm_X5_isState : Room := { frames := 0, cells := 0, slots := 0, locals := 0 }
def wp_X5_isState_in (Q : Int32 → Prop) (x0 : Int32) : Prop :=
  ((x0 < 0 → Q 0) ∧ (¬ (x0 < 0) → ((4 ≤ x0 → Q 0) ∧ (¬ (4 ≤ x0) → Q 1))))
set_option maxRecDepth 100000 in
set_option maxHeartbeats 4000000 in
theorem bk_X5_isState_in {p : Program} {l : Launch} {e : Env} {s : State} {m : MethodId} {args : Array Value} {below : List Frame} {meth : Method} {c : Code} {D : va_G} {cI cB : ClassId} {Q : Int32 → Prop} (C : tm_cx p s m args meth c cX5_isState 1 (some .boolean) RX5 wsX5_isState) (hK : tm_kx D cI cB s) (x0 : Int32) (h : wp_X5_isState_in Q x0) : va_P D vwCl [] s.heap → ∀ (ls : Array Slot), lv_has ls 1 [(0, .int x0)] → W p l e (headSpec wsX5_isState rm_X5_isState).room s m args below meth c s.heap [] 0 0 (MQ below (vp_Si (fun r => (r = 0 ∨ r = 1) ∧ Q r)) args s 0 0 (fun _ => False)) (F0 m 0 ls []) := by
  obtain ⟨hx, hb, hr, hml, hown, hts, hlocks⟩ := id C
  intro hP ls hl
  unfold wp_X5_isState_in at h
  refine lv_iload_n hx hb dX5_isState_0 rfl (lv_at hl 0 rfl) ?_
  refine lv_if_lt (tgt := 13) hx hb dX5_isState_1 (by decide) (fun c1 => ?_) (fun c1 => ?_)
  · have h := h.1 c1
    refine lv_iconst (v := 0) hx hb dX5_isState_13 (by decide) ?_
    exact W.zret (v := 0) (ty := .boolean) hx hb hr (tm_n01 (Or.inl rfl)) (fun t ht hW => ⟨0, rfl, ⟨Or.inl rfl, h⟩, ht⟩) (fun _ h => by cases h) dX5_isState_14
  · have h := h.2 c1
    refine lv_iload_n hx hb dX5_isState_4 rfl (lv_at hl 0 rfl) ?_
    refine lv_iconst (v := 4) hx hb dX5_isState_5 (by decide) ?_
    refine lv_icmp_ge (tgt := 13) hx hb dX5_isState_6 (by decide) (fun c2 => ?_) (fun c2 => ?_)
    · have h := h.1 c2
      refine lv_iconst (v := 0) hx hb dX5_isState_13 (by decide) ?_
      exact W.zret (v := 0) (ty := .boolean) hx hb hr (tm_n01 (Or.inl rfl)) (fun t ht hW => ⟨0, rfl, ⟨Or.inl rfl, h⟩, ht⟩) (fun _ h => by cases h) dX5_isState_14
    · have h := h.2 c2
      refine lv_iconst (v := 1) hx hb dX5_isState_9 (by decide) ?_
      refine lv_goto (tgt := 14) hx hb dX5_isState_10 (by decide) ?_
      exact W.zret (v := 1) (ty := .boolean) hx hb hr (tm_n01 (Or.inr rfl)) (fun t ht hW => ⟨1, rfl, ⟨Or.inr rfl, h⟩, ht⟩) (fun _ h => by cases h) dX5_isState_14
abbrev wp_X5_isState (x0 : Int32) (Q : Int32 → Prop) : Prop := wp_X5_isState_in Q x0
set_option maxRecDepth 100000 in
set_option maxHeartbeats 4000000 in
theorem cn_X5_isState (l : Launch) (D : va_G) (cI cB : ClassId) (x0 : Int32) (Q : Int32 → Prop) (h : wp_X5_isState x0 Q) : Met l yX5_isState wsX5_isState rm_X5_isState (tm_Pr D cI cB [.int x0] []) (vp_Si (fun r => (r = 0 ∨ r = 1) ∧ Q r)) 0 0 (fun _ => False) := by
  refine Met.ofW (cc := cX5_isState) (maxL := 1) (ret := (some .boolean)) (by decide) rfl ?_
  intro p e s m args below meth c s₁ B hml hv
  obtain ⟨rfl, hP, hK⟩ := hv
  have hl := lv_entry ([.int x0]) (n := 1) (Nat.le_of_ble_eq_true rfl)
  rw [lg_entry_eq]
  generalize (lg_sl ([.int x0]) ++ List.replicate (1 - (lg_sl ([.int x0])).length) Slot.unset).toArray = ls at hl ⊢
  have hl : lv_has ls 1 [(0, .int x0)] := hl
  exact bk_X5_isState_in ⟨B.exec, B.bytes, B.returns, hml, findClass_of_methodNamed B.named, atoms_spec (ws := wsX5_isState) B.pre, B.notSynchronized⟩ hK x0 h hP ls hl
/-! X5_isSort (I)Z -/
abbrev rm_X5_isSort : Room := { frames := 0, cells := 0, slots := 0, locals := 0 }
def wp_X5_isSort_in (Q : Int32 → Prop) (x0 : Int32) : Prop :=
  ((x0 < 0 → Q 0) ∧ (¬ (x0 < 0) → ((16 ≤ x0 → Q 0) ∧ (¬ (16 ≤ x0) → Q 1))))
set_option maxRecDepth 100000 in
set_option maxHeartbeats 4000000 in
theorem bk_X5_isSort_in {p : Program} {l : Launch} {e : Env} {s : State} {m : MethodId} {args : Array Value} {below : List Frame} {meth : Method} {c : Code} {D : va_G} {cI cB : ClassId} {Q : Int32 → Prop} (C : tm_cx p s m args meth c cX5_isSort 1 (some .boolean) RX5 wsX5_isSort) (hK : tm_kx D cI cB s) (x0 : Int32) (h : wp_X5_isSort_in Q x0) : va_P D vwCl [] s.heap → ∀ (ls : Array Slot), lv_has ls 1 [(0, .int x0)] → W p l e (headSpec wsX5_isSort rm_X5_isSort).room s m args below meth c s.heap [] 0 0 (MQ below (vp_Si (fun r => (r = 0 ∨ r = 1) ∧ Q r)) args s 0 0 (fun _ => False)) (F0 m 0 ls []) := by
  obtain ⟨hx, hb, hr, hml, hown, hts, hlocks⟩ := id C
  intro hP ls hl
  unfold wp_X5_isSort_in at h
  refine lv_iload_n hx hb dX5_isSort_0 rfl (lv_at hl 0 rfl) ?_
  refine lv_if_lt (tgt := 14) hx hb dX5_isSort_1 (by decide) (fun c1 => ?_) (fun c1 => ?_)
  · have h := h.1 c1
    refine lv_iconst (v := 0) hx hb dX5_isSort_14 (by decide) ?_
    exact W.zret (v := 0) (ty := .boolean) hx hb hr (tm_n01 (Or.inl rfl)) (fun t ht hW => ⟨0, rfl, ⟨Or.inl rfl, h⟩, ht⟩) (fun _ h => by cases h) dX5_isSort_15
  · have h := h.2 c1
    refine lv_iload_n hx hb dX5_isSort_4 rfl (lv_at hl 0 rfl) ?_
    refine lv_bipush (v := 16) hx hb dX5_isSort_5 (by decide) ?_
    refine lv_icmp_ge (tgt := 14) hx hb dX5_isSort_7 (by decide) (fun c2 => ?_) (fun c2 => ?_)
    · have h := h.1 c2
      refine lv_iconst (v := 0) hx hb dX5_isSort_14 (by decide) ?_
      exact W.zret (v := 0) (ty := .boolean) hx hb hr (tm_n01 (Or.inl rfl)) (fun t ht hW => ⟨0, rfl, ⟨Or.inl rfl, h⟩, ht⟩) (fun _ h => by cases h) dX5_isSort_15
    · have h := h.2 c2
      refine lv_iconst (v := 1) hx hb dX5_isSort_10 (by decide) ?_
      refine lv_goto (tgt := 15) hx hb dX5_isSort_11 (by decide) ?_
      exact W.zret (v := 1) (ty := .boolean) hx hb hr (tm_n01 (Or.inr rfl)) (fun t ht hW => ⟨1, rfl, ⟨Or.inr rfl, h⟩, ht⟩) (fun _ h => by cases h) dX5_isSort_15
abbrev wp_X5_isSort (x0 : Int32) (Q : Int32 → Prop) : Prop := wp_X5_isSort_in Q x0
set_option maxRecDepth 100000 in
set_option maxHeartbeats 4000000 in
theorem cn_X5_isSort (l : Launch) (D : va_G) (cI cB : ClassId) (x0 : Int32) (Q : Int32 → Prop) (h : wp_X5_isSort x0 Q) : Met l yX5_isSort wsX5_isSort rm_X5_isSort (tm_Pr D cI cB [.int x0] []) (vp_Si (fun r => (r = 0 ∨ r = 1) ∧ Q r)) 0 0 (fun _ => False) := by
  refine Met.ofW (cc := cX5_isSort) (maxL := 1) (ret := (some .boolean)) (by decide) rfl ?_
  intro p e s m args below meth c s₁ B hml hv
  obtain ⟨rfl, hP, hK⟩ := hv
  have hl := lv_entry ([.int x0]) (n := 1) (Nat.le_of_ble_eq_true rfl)
  rw [lg_entry_eq]
  generalize (lg_sl ([.int x0]) ++ List.replicate (1 - (lg_sl ([.int x0])).length) Slot.unset).toArray = ls at hl ⊢
  have hl : lv_has ls 1 [(0, .int x0)] := hl
  exact bk_X5_isSort_in ⟨B.exec, B.bytes, B.returns, hml, findClass_of_methodNamed B.named, atoms_spec (ws := wsX5_isSort) B.pre, B.notSynchronized⟩ hK x0 h hP ls hl
/-! X5_hasLeft (I)Z -/
abbrev rm_X5_hasLeft : Room := { frames := 0, cells := 0, slots := 0, locals := 0 }
def wp_X5_hasLeft_in (Q : Int32 → Prop) (x0 : Int32) : Prop :=
  ((x0 < 3 → Q 0) ∧ (¬ (x0 < 3) → Q 1))
set_option maxRecDepth 100000 in
set_option maxHeartbeats 4000000 in
theorem bk_X5_hasLeft_in {p : Program} {l : Launch} {e : Env} {s : State} {m : MethodId} {args : Array Value} {below : List Frame} {meth : Method} {c : Code} {D : va_G} {cI cB : ClassId} {Q : Int32 → Prop} (C : tm_cx p s m args meth c cX5_hasLeft 1 (some .boolean) RX5 wsX5_hasLeft) (hK : tm_kx D cI cB s) (x0 : Int32) (h : wp_X5_hasLeft_in Q x0) : va_P D vwCl [] s.heap → ∀ (ls : Array Slot), lv_has ls 1 [(0, .int x0)] → W p l e (headSpec wsX5_hasLeft rm_X5_hasLeft).room s m args below meth c s.heap [] 0 0 (MQ below (vp_Si (fun r => (r = 0 ∨ r = 1) ∧ Q r)) args s 0 0 (fun _ => False)) (F0 m 0 ls []) := by
  obtain ⟨hx, hb, hr, hml, hown, hts, hlocks⟩ := id C
  intro hP ls hl
  unfold wp_X5_hasLeft_in at h
  refine lv_iload_n hx hb dX5_hasLeft_0 rfl (lv_at hl 0 rfl) ?_
  refine lv_iconst (v := 3) hx hb dX5_hasLeft_1 (by decide) ?_
  refine lv_icmp_lt (tgt := 9) hx hb dX5_hasLeft_2 (by decide) (fun c1 => ?_) (fun c1 => ?_)
  · have h := h.1 c1
    refine lv_iconst (v := 0) hx hb dX5_hasLeft_9 (by decide) ?_
    exact W.zret (v := 0) (ty := .boolean) hx hb hr (tm_n01 (Or.inl rfl)) (fun t ht hW => ⟨0, rfl, ⟨Or.inl rfl, h⟩, ht⟩) (fun _ h => by cases h) dX5_hasLeft_10
  · have h := h.2 c1
    refine lv_iconst (v := 1) hx hb dX5_hasLeft_5 (by decide) ?_
    refine lv_goto (tgt := 10) hx hb dX5_hasLeft_6 (by decide) ?_
    exact W.zret (v := 1) (ty := .boolean) hx hb hr (tm_n01 (Or.inr rfl)) (fun t ht hW => ⟨1, rfl, ⟨Or.inr rfl, h⟩, ht⟩) (fun _ h => by cases h) dX5_hasLeft_10
abbrev wp_X5_hasLeft (x0 : Int32) (Q : Int32 → Prop) : Prop := wp_X5_hasLeft_in Q x0
set_option maxRecDepth 100000 in
set_option maxHeartbeats 4000000 in
theorem cn_X5_hasLeft (l : Launch) (D : va_G) (cI cB : ClassId) (x0 : Int32) (Q : Int32 → Prop) (h : wp_X5_hasLeft x0 Q) : Met l yX5_hasLeft wsX5_hasLeft rm_X5_hasLeft (tm_Pr D cI cB [.int x0] []) (vp_Si (fun r => (r = 0 ∨ r = 1) ∧ Q r)) 0 0 (fun _ => False) := by
  refine Met.ofW (cc := cX5_hasLeft) (maxL := 1) (ret := (some .boolean)) (by decide) rfl ?_
  intro p e s m args below meth c s₁ B hml hv
  obtain ⟨rfl, hP, hK⟩ := hv
  have hl := lv_entry ([.int x0]) (n := 1) (Nat.le_of_ble_eq_true rfl)
  rw [lg_entry_eq]
  generalize (lg_sl ([.int x0]) ++ List.replicate (1 - (lg_sl ([.int x0])).length) Slot.unset).toArray = ls at hl ⊢
  have hl : lv_has ls 1 [(0, .int x0)] := hl
  exact bk_X5_hasLeft_in ⟨B.exec, B.bytes, B.returns, hml, findClass_of_methodNamed B.named, atoms_spec (ws := wsX5_hasLeft) B.pre, B.notSynchronized⟩ hK x0 h hP ls hl
/-! X5_hasRight (I)Z -/
abbrev rm_X5_hasRight : Room := { frames := 0, cells := 0, slots := 0, locals := 0 }
def wp_X5_hasRight_in (Q : Int32 → Prop) (x0 : Int32) : Prop :=
  ((x0 < 5 → Q 0) ∧ (¬ (x0 < 5) → Q 1))
set_option maxRecDepth 100000 in
set_option maxHeartbeats 4000000 in
theorem bk_X5_hasRight_in {p : Program} {l : Launch} {e : Env} {s : State} {m : MethodId} {args : Array Value} {below : List Frame} {meth : Method} {c : Code} {D : va_G} {cI cB : ClassId} {Q : Int32 → Prop} (C : tm_cx p s m args meth c cX5_hasRight 1 (some .boolean) RX5 wsX5_hasRight) (hK : tm_kx D cI cB s) (x0 : Int32) (h : wp_X5_hasRight_in Q x0) : va_P D vwCl [] s.heap → ∀ (ls : Array Slot), lv_has ls 1 [(0, .int x0)] → W p l e (headSpec wsX5_hasRight rm_X5_hasRight).room s m args below meth c s.heap [] 0 0 (MQ below (vp_Si (fun r => (r = 0 ∨ r = 1) ∧ Q r)) args s 0 0 (fun _ => False)) (F0 m 0 ls []) := by
  obtain ⟨hx, hb, hr, hml, hown, hts, hlocks⟩ := id C
  intro hP ls hl
  unfold wp_X5_hasRight_in at h
  refine lv_iload_n hx hb dX5_hasRight_0 rfl (lv_at hl 0 rfl) ?_
  refine lv_iconst (v := 5) hx hb dX5_hasRight_1 (by decide) ?_
  refine lv_icmp_lt (tgt := 9) hx hb dX5_hasRight_2 (by decide) (fun c1 => ?_) (fun c1 => ?_)
  · have h := h.1 c1
    refine lv_iconst (v := 0) hx hb dX5_hasRight_9 (by decide) ?_
    exact W.zret (v := 0) (ty := .boolean) hx hb hr (tm_n01 (Or.inl rfl)) (fun t ht hW => ⟨0, rfl, ⟨Or.inl rfl, h⟩, ht⟩) (fun _ h => by cases h) dX5_hasRight_10
  · have h := h.2 c1
    refine lv_iconst (v := 1) hx hb dX5_hasRight_5 (by decide) ?_
    refine lv_goto (tgt := 10) hx hb dX5_hasRight_6 (by decide) ?_
    exact W.zret (v := 1) (ty := .boolean) hx hb hr (tm_n01 (Or.inr rfl)) (fun t ht hW => ⟨1, rfl, ⟨Or.inr rfl, h⟩, ht⟩) (fun _ h => by cases h) dX5_hasRight_10
abbrev wp_X5_hasRight (x0 : Int32) (Q : Int32 → Prop) : Prop := wp_X5_hasRight_in Q x0
set_option maxRecDepth 100000 in
set_option maxHeartbeats 4000000 in
theorem cn_X5_hasRight (l : Launch) (D : va_G) (cI cB : ClassId) (x0 : Int32) (Q : Int32 → Prop) (h : wp_X5_hasRight x0 Q) : Met l yX5_hasRight wsX5_hasRight rm_X5_hasRight (tm_Pr D cI cB [.int x0] []) (vp_Si (fun r => (r = 0 ∨ r = 1) ∧ Q r)) 0 0 (fun _ => False) := by
  refine Met.ofW (cc := cX5_hasRight) (maxL := 1) (ret := (some .boolean)) (by decide) rfl ?_
  intro p e s m args below meth c s₁ B hml hv
  obtain ⟨rfl, hP, hK⟩ := hv
  have hl := lv_entry ([.int x0]) (n := 1) (Nat.le_of_ble_eq_true rfl)
  rw [lg_entry_eq]
  generalize (lg_sl ([.int x0]) ++ List.replicate (1 - (lg_sl ([.int x0])).length) Slot.unset).toArray = ls at hl ⊢
  have hl : lv_has ls 1 [(0, .int x0)] := hl
  exact bk_X5_hasRight_in ⟨B.exec, B.bytes, B.returns, hml, findClass_of_methodNamed B.named, atoms_spec (ws := wsX5_hasRight) B.pre, B.notSynchronized⟩ hK x0 h hP ls hl
/-! X5_firstSet (I)I -/
abbrev rm_X5_firstSet : Room := { frames := 0, cells := 0, slots := 0, locals := 0 }
def wp_X5_firstSet_in (Q : Int32 → Prop) (x0 : Int32) : Prop :=
  Q (x0 &&& 15)
set_option maxRecDepth 100000 in
set_option maxHeartbeats 4000000 in
theorem bk_X5_firstSet_in {p : Program} {l : Launch} {e : Env} {s : State} {m : MethodId} {args : Array Value} {below : List Frame} {meth : Method} {c : Code} {D : va_G} {cI cB : ClassId} {Q : Int32 → Prop} (C : tm_cx p s m args meth c cX5_firstSet 1 (some .int) RX5 wsX5_firstSet) (hK : tm_kx D cI cB s) (x0 : Int32) (h : wp_X5_firstSet_in Q x0) : va_P D vwCl [] s.heap → ∀ (ls : Array Slot), lv_has ls 1 [(0, .int x0)] → W p l e (headSpec wsX5_firstSet rm_X5_firstSet).room s m args below meth c s.heap [] 0 0 (MQ below (vp_Si Q) args s 0 0 (fun _ => False)) (F0 m 0 ls []) := by
  obtain ⟨hx, hb, hr, hml, hown, hts, hlocks⟩ := id C
  intro hP ls hl
  unfold wp_X5_firstSet_in at h
  refine lv_iload_n hx hb dX5_firstSet_0 rfl (lv_at hl 0 rfl) ?_
  refine lv_bipush (v := 15) hx hb dX5_firstSet_1 (by decide) ?_
  refine lv_iand (x := x0) (y := 15) hx hb dX5_firstSet_3 ?_
  exact W.iret (v := (x0 &&& 15)) hx hb hr (fun t ht hW => ⟨(x0 &&& 15), rfl, h, ht⟩) (fun _ h => by cases h) dX5_firstSet_4
abbrev wp_X5_firstSet (x0 : Int32) (Q : Int32 → Prop) : Prop := wp_X5_firstSet_in Q x0
set_option maxRecDepth 100000 in
set_option maxHeartbeats 4000000 in
theorem cn_X5_firstSet (l : Launch) (D : va_G) (cI cB : ClassId) (x0 : Int32) (Q : Int32 → Prop) (h : wp_X5_firstSet x0 Q) : Met l yX5_firstSet wsX5_firstSet rm_X5_firstSet (tm_Pr D cI cB [.int x0] []) (vp_Si Q) 0 0 (fun _ => False) := by
  refine Met.ofW (cc := cX5_firstSet) (maxL := 1) (ret := (some .int)) (by decide) rfl ?_
  intro p e s m args below meth c s₁ B hml hv
  obtain ⟨rfl, hP, hK⟩ := hv
  have hl := lv_entry ([.int x0]) (n := 1) (Nat.le_of_ble_eq_true rfl)
  rw [lg_entry_eq]
  generalize (lg_sl ([.int x0]) ++ List.replicate (1 - (lg_sl ([.int x0])).length) Slot.unset).toArray = ls at hl ⊢
  have hl : lv_has ls 1 [(0, .int x0)] := hl
  exact bk_X5_firstSet_in ⟨B.exec, B.bytes, B.returns, hml, findClass_of_methodNamed B.named, atoms_spec (ws := wsX5_firstSet) B.pre, B.notSynchronized⟩ hK x0 h hP ls hl
/-! X5_secondSet (I)I -/
abbrev rm_X5_secondSet : Room := { frames := 0, cells := 0, slots := 0, locals := 0 }
def wp_X5_secondSet_in (Q : Int32 → Prop) (x0 : Int32) : Prop :=
  Q ((x0 >>> ((4 : Int32) &&& 31)) &&& 15)
set_option maxRecDepth 100000 in
set_option maxHeartbeats 4000000 in
theorem bk_X5_secondSet_in {p : Program} {l : Launch} {e : Env} {s : State} {m : MethodId} {args : Array Value} {below : List Frame} {meth : Method} {c : Code} {D : va_G} {cI cB : ClassId} {Q : Int32 → Prop} (C : tm_cx p s m args meth c cX5_secondSet 1 (some .int) RX5 wsX5_secondSet) (hK : tm_kx D cI cB s) (x0 : Int32) (h : wp_X5_secondSet_in Q x0) : va_P D vwCl [] s.heap → ∀ (ls : Array Slot), lv_has ls 1 [(0, .int x0)] → W p l e (headSpec wsX5_secondSet rm_X5_secondSet).room s m args below meth c s.heap [] 0 0 (MQ below (vp_Si Q) args s 0 0 (fun _ => False)) (F0 m 0 ls []) := by
  obtain ⟨hx, hb, hr, hml, hown, hts, hlocks⟩ := id C
  intro hP ls hl
  unfold wp_X5_secondSet_in at h
  refine lv_iload_n hx hb dX5_secondSet_0 rfl (lv_at hl 0 rfl) ?_
  refine lv_iconst (v := 4) hx hb dX5_secondSet_1 (by decide) ?_
  refine lv_ishr (x := x0) (y := 4) hx hb dX5_secondSet_2 ?_
  refine lv_bipush (v := 15) hx hb dX5_secondSet_3 (by decide) ?_
  refine lv_iand (x := (x0 >>> ((4 : Int32) &&& 31))) (y := 15) hx hb dX5_secondSet_5 ?_
  exact W.iret (v := ((x0 >>> ((4 : Int32) &&& 31)) &&& 15)) hx hb hr (fun t ht hW => ⟨((x0 >>> ((4 : Int32) &&& 31)) &&& 15), rfl, h, ht⟩) (fun _ h => by cases h) dX5_secondSet_6
abbrev wp_X5_secondSet (x0 : Int32) (Q : Int32 → Prop) : Prop := wp_X5_secondSet_in Q x0
set_option maxRecDepth 100000 in
set_option maxHeartbeats 4000000 in
theorem cn_X5_secondSet (l : Launch) (D : va_G) (cI cB : ClassId) (x0 : Int32) (Q : Int32 → Prop) (h : wp_X5_secondSet x0 Q) : Met l yX5_secondSet wsX5_secondSet rm_X5_secondSet (tm_Pr D cI cB [.int x0] []) (vp_Si Q) 0 0 (fun _ => False) := by
  refine Met.ofW (cc := cX5_secondSet) (maxL := 1) (ret := (some .int)) (by decide) rfl ?_
  intro p e s m args below meth c s₁ B hml hv
  obtain ⟨rfl, hP, hK⟩ := hv
  have hl := lv_entry ([.int x0]) (n := 1) (Nat.le_of_ble_eq_true rfl)
  rw [lg_entry_eq]
  generalize (lg_sl ([.int x0]) ++ List.replicate (1 - (lg_sl ([.int x0])).length) Slot.unset).toArray = ls at hl ⊢
  have hl : lv_has ls 1 [(0, .int x0)] := hl
  exact bk_X5_secondSet_in ⟨B.exec, B.bytes, B.returns, hml, findClass_of_methodNamed B.named, atoms_spec (ws := wsX5_secondSet) B.pre, B.notSynchronized⟩ hK x0 h hP ls hl
/-! X5_rowOf (III)I -/
abbrev rm_X5_rowOf : Room := { frames := 1, cells := 0, slots := 0, locals := 20 }
def wp_X5_rowOf_34 (Q : Int32 → Prop) (z0 : Int32) (x0 : Int32) (x3 : Int32) : Prop :=
  wp_X5_isState x3 (fun r7 => ((r7 = 0 → Q (-1)) ∧ (¬ (r7 = 0) → wp_X5_isState z0 (fun r9 => ((r9 = 0 → Q (-1)) ∧ (¬ (r9 = 0) → Q ((((x0 * 4) + x3) * 4) + z0)))))))
set_option maxRecDepth 100000 in
set_option maxHeartbeats 4000000 in
theorem bk_X5_rowOf_34 {p : Program} {l : Launch} {e : Env} {s : State} {m : MethodId} {args : Array Value} {below : List Frame} {meth : Method} {c : Code} {D : va_G} {cI cB : ClassId} {Q : Int32 → Prop} (C : tm_cx p s m args meth c cX5_rowOf 5 (some .int) RX5 wsX5_rowOf) (hK : tm_kx D cI cB s) (z0 : Int32) (x0 : Int32) (x3 : Int32) (h : wp_X5_rowOf_34 Q z0 x0 x3) : va_P D vwCl [] s.heap → ∀ (ls : Array Slot), lv_has ls 5 [(0, .int x0), (3, .int x3)] → W p l e (headSpec wsX5_rowOf rm_X5_rowOf).room s m args below meth c s.heap [] 0 0 (MQ below (vp_Si Q) args s 0 0 (fun _ => False)) (F0 m 34 ls [.int z0]) := by
  obtain ⟨hx, hb, hr, hml, hown, hts, hlocks⟩ := id C
  intro hP ls hl
  unfold wp_X5_rowOf_34 at h
  refine lv_istore (lv' := [(4, .int z0), (0, .int x0), (3, .int x3)]) hx hb dX5_rowOf_34 hl (by decide) rfl (fun ls hl => ?_)
  refine lv_iload_n hx hb dX5_rowOf_36 rfl (lv_at hl 2 rfl) ?_
  refine tm_rS (As := [.int x3]) (rest := []) (wc := []) ⟨hx, hb, hml, hown, hts⟩ (cn_X5_isState l D cI cB x3 _ h) (va_cwS 1 hts gX5_rowOf_X5_isState rfl rfl rfl (by decide +kernel) ⟨Nat.le_of_ble_eq_true rfl, Nat.le_of_ble_eq_true rfl⟩) hK (hP.sub [] rfl) rfl hl.1 rfl (Nat.le_of_ble_eq_true rfl) ⟨Nat.zero_le _, Nat.zero_le _⟩ dX5_rowOf_37 (fun r7 h => ?_)
  obtain ⟨br7, h⟩ := h
  refine lv_if_eq (tgt := 51) hx hb dX5_rowOf_40 (by decide) (fun c8 => ?_) (fun c8 => ?_)
  · have h := h.1 c8
    refine lv_iconst (v := (-1)) hx hb dX5_rowOf_51 (by decide) ?_
    exact W.iret (v := (-1)) hx hb hr (fun t ht hW => ⟨(-1), rfl, h, ht⟩) (fun _ h => by cases h) dX5_rowOf_52
  · have h := h.2 c8
    refine lv_iload hx hb dX5_rowOf_43 (lv_at hl 0 rfl) ?_
    refine tm_rS (As := [.int z0]) (rest := []) (wc := []) ⟨hx, hb, hml, hown, hts⟩ (cn_X5_isState l D cI cB z0 _ h) (va_cwS 1 hts gX5_rowOf_X5_isState rfl rfl rfl (by decide +kernel) ⟨Nat.le_of_ble_eq_true rfl, Nat.le_of_ble_eq_true rfl⟩) hK (hP.sub [] rfl) rfl hl.1 rfl (Nat.le_of_ble_eq_true rfl) ⟨Nat.zero_le _, Nat.zero_le _⟩ dX5_rowOf_45 (fun r9 h => ?_)
    obtain ⟨br9, h⟩ := h
    refine lv_if_ne (tgt := 53) hx hb dX5_rowOf_48 (by decide) (fun c10 => ?_) (fun c10 => ?_)
    · have h := h.2 c10
      refine lv_iload_n hx hb dX5_rowOf_53 rfl (lv_at hl 1 rfl) ?_
      refine lv_iconst (v := 4) hx hb dX5_rowOf_54 (by decide) ?_
      refine lv_imul (x := x0) (y := 4) hx hb dX5_rowOf_55 ?_
      refine lv_iload_n hx hb dX5_rowOf_56 rfl (lv_at hl 2 rfl) ?_
      refine lv_iadd hx hb dX5_rowOf_57 ?_
      refine lv_iconst (v := 4) hx hb dX5_rowOf_58 (by decide) ?_
      refine lv_imul (x := ((x0 * 4) + x3)) (y := 4) hx hb dX5_rowOf_59 ?_
      refine lv_iload hx hb dX5_rowOf_60 (lv_at hl 0 rfl) ?_
      refine lv_iadd hx hb dX5_rowOf_62 ?_
      exact W.iret (v := ((((x0 * 4) + x3) * 4) + z0)) hx hb hr (fun t ht hW => ⟨((((x0 * 4) + x3) * 4) + z0), rfl, h, ht⟩) (fun _ h => by cases h) dX5_rowOf_63
    · have h := h.1 c10
      refine lv_iconst (v := (-1)) hx hb dX5_rowOf_51 (by decide) ?_
      exact W.iret (v := (-1)) hx hb hr (fun t ht hW => ⟨(-1), rfl, h, ht⟩) (fun _ h => by cases h) dX5_rowOf_52
def wp_X5_rowOf_21 (Q : Int32 → Prop) (z0 : Int32) (x0 : Int32) (x2 : Int32) : Prop :=
  wp_X5_hasRight x0 (fun r5 => ((r5 = 0 → wp_X5_rowOf_34 Q 0 x0 z0) ∧ (¬ (r5 = 0) → wp_X5_rowOf_34 Q x2 x0 z0)))
set_option maxRecDepth 100000 in
set_option maxHeartbeats 4000000 in
theorem bk_X5_rowOf_21 {p : Program} {l : Launch} {e : Env} {s : State} {m : MethodId} {args : Array Value} {below : List Frame} {meth : Method} {c : Code} {D : va_G} {cI cB : ClassId} {Q : Int32 → Prop} (C : tm_cx p s m args meth c cX5_rowOf 5 (some .int) RX5 wsX5_rowOf) (hK : tm_kx D cI cB s) (z0 : Int32) (x0 : Int32) (x2 : Int32) (h : wp_X5_rowOf_21 Q z0 x0 x2) : va_P D vwCl [] s.heap → ∀ (ls : Array Slot), lv_has ls 5 [(0, .int x0), (2, .int x2)] → W p l e (headSpec wsX5_rowOf rm_X5_rowOf).room s m args below meth c s.heap [] 0 0 (MQ below (vp_Si Q) args s 0 0 (fun _ => False)) (F0 m 21 ls [.int z0]) := by
  obtain ⟨hx, hb, hr, hml, hown, hts, hlocks⟩ := id C
  intro hP ls hl
  unfold wp_X5_rowOf_21 at h
  refine lv_istore_n (lv' := [(3, .int z0), (0, .int x0), (2, .int x2)]) hx hb dX5_rowOf_21 rfl hl (by decide) rfl (fun ls hl => ?_)
  refine lv_iload_n hx hb dX5_rowOf_22 rfl (lv_at hl 1 rfl) ?_
  refine tm_rS (As := [.int x0]) (rest := []) (wc := []) ⟨hx, hb, hml, hown, hts⟩ (cn_X5_hasRight l D cI cB x0 _ h) (va_cwS 1 hts gX5_rowOf_X5_hasRight rfl rfl rfl (by decide +kernel) ⟨Nat.le_of_ble_eq_true rfl, Nat.le_of_ble_eq_true rfl⟩) hK (hP.sub [] rfl) rfl hl.1 rfl (Nat.le_of_ble_eq_true rfl) ⟨Nat.zero_le _, Nat.zero_le _⟩ dX5_rowOf_23 (fun r5 h => ?_)
  obtain ⟨br5, h⟩ := h
  refine lv_if_eq (tgt := 33) hx hb dX5_rowOf_26 (by decide) (fun c6 => ?_) (fun c6 => ?_)
  · have h := h.1 c6
    refine lv_iconst (v := 0) hx hb dX5_rowOf_33 (by decide) ?_
    exact bk_X5_rowOf_34 C hK 0 x0 z0 h hP ls (lv_sub hl [1, 0] rfl)
  · have h := h.2 c6
    refine lv_iload_n hx hb dX5_rowOf_29 rfl (lv_at hl 2 rfl) ?_
    refine lv_goto (tgt := 34) hx hb dX5_rowOf_30 (by decide) ?_
    exact bk_X5_rowOf_34 C hK x2 x0 z0 h hP ls (lv_sub hl [1, 0] rfl)
def wp_X5_rowOf_in (Q : Int32 → Prop) (x0 : Int32) (x1 : Int32) (x2 : Int32) : Prop :=
  wp_X5_isSymbol x0 (fun r1 => ((r1 = 0 → Q (-1)) ∧ (¬ (r1 = 0) → wp_X5_hasLeft x0 (fun r3 => ((r3 = 0 → wp_X5_rowOf_21 Q 0 x0 x2) ∧ (¬ (r3 = 0) → wp_X5_rowOf_21 Q x1 x0 x2))))))
set_option maxRecDepth 100000 in
set_option maxHeartbeats 4000000 in
theorem bk_X5_rowOf_in {p : Program} {l : Launch} {e : Env} {s : State} {m : MethodId} {args : Array Value} {below : List Frame} {meth : Method} {c : Code} {D : va_G} {cI cB : ClassId} {Q : Int32 → Prop} (C : tm_cx p s m args meth c cX5_rowOf 5 (some .int) RX5 wsX5_rowOf) (hK : tm_kx D cI cB s) (x0 : Int32) (x1 : Int32) (x2 : Int32) (h : wp_X5_rowOf_in Q x0 x1 x2) : va_P D vwCl [] s.heap → ∀ (ls : Array Slot), lv_has ls 5 [(0, .int x0), (1, .int x1), (2, .int x2)] → W p l e (headSpec wsX5_rowOf rm_X5_rowOf).room s m args below meth c s.heap [] 0 0 (MQ below (vp_Si Q) args s 0 0 (fun _ => False)) (F0 m 0 ls []) := by
  obtain ⟨hx, hb, hr, hml, hown, hts, hlocks⟩ := id C
  intro hP ls hl
  unfold wp_X5_rowOf_in at h
  refine lv_iload_n hx hb dX5_rowOf_0 rfl (lv_at hl 0 rfl) ?_
  refine tm_rS (As := [.int x0]) (rest := []) (wc := []) ⟨hx, hb, hml, hown, hts⟩ (cn_X5_isSymbol l D cI cB x0 _ h) (va_cwS 1 hts gX5_rowOf_X5_isSymbol rfl rfl rfl (by decide +kernel) ⟨Nat.le_of_ble_eq_true rfl, Nat.le_of_ble_eq_true rfl⟩) hK (hP.sub [] rfl) rfl hl.1 rfl (Nat.le_of_ble_eq_true rfl) ⟨Nat.zero_le _, Nat.zero_le _⟩ dX5_rowOf_1 (fun r1 h => ?_)
  obtain ⟨br1, h⟩ := h
  refine lv_if_ne (tgt := 9) hx hb dX5_rowOf_4 (by decide) (fun c2 => ?_) (fun c2 => ?_)
  · have h := h.2 c2
    refine lv_iload_n hx hb dX5_rowOf_9 rfl (lv_at hl 0 rfl) ?_
    refine tm_rS (As := [.int x0]) (rest := []) (wc := []) ⟨hx, hb, hml, hown, hts⟩ (cn_X5_hasLeft l D cI cB x0 _ h) (va_cwS 1 hts gX5_rowOf_X5_hasLeft rfl rfl rfl (by decide +kernel) ⟨Nat.le_of_ble_eq_true rfl, Nat.le_of_ble_eq_true rfl⟩) hK (hP.sub [] rfl) rfl hl.1 rfl (Nat.le_of_ble_eq_true rfl) ⟨Nat.zero_le _, Nat.zero_le _⟩ dX5_rowOf_10 (fun r3 h => ?_)
    obtain ⟨br3, h⟩ := h
    refine lv_if_eq (tgt := 20) hx hb dX5_rowOf_13 (by decide) (fun c4 => ?_) (fun c4 => ?_)
    · have h := h.1 c4
      refine lv_iconst (v := 0) hx hb dX5_rowOf_20 (by decide) ?_
      exact bk_X5_rowOf_21 C hK 0 x0 x2 h hP ls (lv_sub hl [0, 2] rfl)
    · have h := h.2 c4
      refine lv_iload_n hx hb dX5_rowOf_16 rfl (lv_at hl 1 rfl) ?_
      refine lv_goto (tgt := 21) hx hb dX5_rowOf_17 (by decide) ?_
      exact bk_X5_rowOf_21 C hK x1 x0 x2 h hP ls (lv_sub hl [0, 2] rfl)
  · have h := h.1 c2
    refine lv_iconst (v := (-1)) hx hb dX5_rowOf_7 (by decide) ?_
    exact W.iret (v := (-1)) hx hb hr (fun t ht hW => ⟨(-1), rfl, h, ht⟩) (fun _ h => by cases h) dX5_rowOf_8
abbrev wp_X5_rowOf (x0 : Int32) (x1 : Int32) (x2 : Int32) (Q : Int32 → Prop) : Prop := wp_X5_rowOf_in Q x0 x1 x2
set_option maxRecDepth 100000 in
set_option maxHeartbeats 4000000 in
theorem cn_X5_rowOf (l : Launch) (D : va_G) (cI cB : ClassId) (x0 : Int32) (x1 : Int32) (x2 : Int32) (Q : Int32 → Prop) (h : wp_X5_rowOf x0 x1 x2 Q) : Met l yX5_rowOf wsX5_rowOf rm_X5_rowOf (tm_Pr D cI cB [.int x0, .int x1, .int x2] []) (vp_Si Q) 0 0 (fun _ => False) := by
  refine Met.ofW (cc := cX5_rowOf) (maxL := 5) (ret := (some .int)) (by decide) rfl ?_
  intro p e s m args below meth c s₁ B hml hv
  obtain ⟨rfl, hP, hK⟩ := hv
  have hl := lv_entry ([.int x0, .int x1, .int x2]) (n := 5) (Nat.le_of_ble_eq_true rfl)
  rw [lg_entry_eq]
  generalize (lg_sl ([.int x0, .int x1, .int x2]) ++ List.replicate (5 - (lg_sl ([.int x0, .int x1, .int x2])).length) Slot.unset).toArray = ls at hl ⊢
  have hl : lv_has ls 5 [(0, .int x0), (1, .int x1), (2, .int x2)] := hl
  exact bk_X5_rowOf_in ⟨B.exec, B.bytes, B.returns, hml, findClass_of_methodNamed B.named, atoms_spec (ws := wsX5_rowOf) B.pre, B.notSynchronized⟩ hK x0 x1 x2 h hP ls hl
/-! J7_fill_53178 ([II)V -/
abbrev rm_J7_fill_53178 : Room := { frames := 0, cells := 0, slots := 0, locals := 0 }
def wp_J7_fill_53178_5 (n0 : Nat) (K5 : (Nat → Int32) → Int32 → Int32 → Int32 → Prop) (Q : (Nat → Int32) → Prop) (v_p0_ : Nat → Int32) (x1 : Int32) (x2 : Int32) (x3 : Int32) : Prop :=
  ((x3 ≤ x2 → Q v_p0_) ∧ (¬ (x3 ≤ x2) → vp_in x2 n0 ∧ ∀ f_4 : Nat → Int32, f_4 = upd v_p0_ (x2).toNatClampNeg x1 → ∀ x2_5 : Int32, x2_5 = x2 + 1 → K5 f_4 x1 x2_5 x3))
set_option maxRecDepth 100000 in
set_option maxHeartbeats 4000000 in
theorem bk_J7_fill_53178_5 {p : Program} {l : Launch} {e : Env} {s : State} {m : MethodId} {args : Array Value} {below : List Frame} {meth : Method} {c : Code} {D : va_G} {cI cB : ClassId} {a_p0_ : Nat} {n0 : Nat} {A : Nat → Prop} {Q : (Nat → Int32) → Prop} (C : tm_cx p s m args meth c cJ7_fill_53178 4 none RJ7 wsJ7_fill_53178) (hK : tm_kx D cI cB s) (hA : ∀ q : Nat, s.heap.size ≤ q → A q) {K5 : (Nat → Int32) → Int32 → Int32 → Int32 → Prop} (k5 : ∀ (v_p0_ : Nat → Int32) (x1 : Int32) (x2 : Int32) (x3 : Int32), K5 v_p0_ x1 x2 x3 → ∀ (H : Heap) (locs : List Loc), va_P D vwCl [(a_p0_, .inl (cI, n0, .inl v_p0_))] H → va_D A [(a_p0_, .inl (cI, n0, .inl v_p0_))] → va_S A s.heap H locs → ∀ (ls : Array Slot), lv_has ls 4 [(0, .ref a_p0_), (1, .int x1), (2, .int x2), (3, .int x3)] → W p l e (headSpec wsJ7_fill_53178 rm_J7_fill_53178).room s m args below meth c H locs 0 0 (MQ below (va_Qv (fun (u : (Nat → Int32)) => Q u) (tm_B D (fun (u : (Nat → Int32)) => [(a_p0_, .inl (cI, n0, .inl u))]) A) A) args s 0 0 A) (F0 m 5 ls [])) (v_p0_ : Nat → Int32) (x1 : Int32) (x2 : Int32) (x3 : Int32) (h : wp_J7_fill_53178_5 n0 K5 Q v_p0_ x1 x2 x3) : ∀ (H : Heap) (locs : List Loc), va_P D vwCl [(a_p0_, .inl (cI, n0, .inl v_p0_))] H → va_D A [(a_p0_, .inl (cI, n0, .inl v_p0_))] → va_S A s.heap H locs → ∀ (ls : Array Slot), lv_has ls 4 [(0, .ref a_p0_), (1, .int x1), (2, .int x2), (3, .int x3)] → W p l e (headSpec wsJ7_fill_53178 rm_J7_fill_53178).room s m args below meth c H locs 0 0 (MQ below (va_Qv (fun (u : (Nat → Int32)) => Q u) (tm_B D (fun (u : (Nat → Int32)) => [(a_p0_, .inl (cI, n0, .inl u))]) A) A) args s 0 0 A) (F0 m 5 ls []) := by
  obtain ⟨hx, hb, hr, hml, hown, hts, hlocks⟩ := id C
  intro H locs hP hD hS ls hl
  unfold wp_J7_fill_53178_5 at h
  refine lv_iload_n hx hb dJ7_fill_53178_5 rfl (lv_at hl 2 rfl) ?_
  refine lv_iload_n hx hb dJ7_fill_53178_6 rfl (lv_at hl 3 rfl) ?_
  refine lv_icmp_ge (tgt := 20) hx hb dJ7_fill_53178_7 (by decide) (fun c2 => ?_) (fun c2 => ?_)
  · have h := h.1 c2
    exact W.vret hx hb hr (fun t ht hW => ⟨⟨v_p0_, rfl, h, by rw [ht]; exact hP, hD⟩, hS.F ht⟩) hS.2.2 dJ7_fill_53178_20
  · have h := h.2 c2
    refine lv_aload_n hx hb dJ7_fill_53178_10 rfl (lv_at hl 0 rfl) ?_
    refine lv_iload_n hx hb dJ7_fill_53178_11 rfl (lv_at hl 2 rfl) ?_
    refine lv_iload_n hx hb dJ7_fill_53178_12 rfl (lv_at hl 1 rfl) ?_
    obtain ⟨b3, h⟩ := h
    refine va_iast hx hb hK.1 hP hD hS 0 0 rfl rfl b3 dJ7_fill_53178_13 (fun H locs hP hD hS => ?_)
    obtain ⟨f_4, ef_4⟩ : ∃ y : Nat → Int32, y = upd v_p0_ (x2).toNatClampNeg x1 := ⟨_, rfl⟩
    have h := h f_4 ef_4
    have hP : va_P D vwCl [(a_p0_, .inl (cI, n0, .inl f_4))] H := by rw [ef_4]; exact hP
    have hD : va_D A [(a_p0_, .inl (cI, n0, .inl f_4))] := by rw [ef_4]; exact hD
    obtain ⟨x2_5, ex2_5⟩ : ∃ y : Int32, y = x2 + 1 := ⟨_, rfl⟩
    have h := h x2_5 ex2_5
    refine lv_iinc (v := x2_5) (lv' := [(2, .int x2_5), (0, .ref a_p0_), (1, .int x1), (3, .int x3)]) hx hb dJ7_fill_53178_14 hl (k := 2) rfl (by rw [ex2_5]; rfl) (by decide) rfl (fun ls hl => ?_)
    refine lv_goto (tgt := 5) hx hb dJ7_fill_53178_17 (by decide) ?_
    exact k5 f_4 x1 x2_5 x3 h H locs hP hD hS ls (lv_sub hl [1, 2, 0, 3] rfl)
def lp_J7_fill_53178_5 (n0 : Nat) (Q : (Nat → Int32) → Prop) : Nat → (Nat → Int32) → Int32 → Int32 → Int32 → Prop
  | 0, _, _, _, _ => False
  | n + 1, v_p0_, x1, x2, x3 => wp_J7_fill_53178_5 n0 (lp_J7_fill_53178_5 n0 Q n) Q v_p0_ x1 x2 x3
set_option maxRecDepth 100000 in
theorem lt_J7_fill_53178_5 {p : Program} {l : Launch} {e : Env} {s : State} {m : MethodId} {args : Array Value} {below : List Frame} {meth : Method} {c : Code} {D : va_G} {cI cB : ClassId} {a_p0_ : Nat} {n0 : Nat} {A : Nat → Prop} {Q : (Nat → Int32) → Prop} (C : tm_cx p s m args meth c cJ7_fill_53178 4 none RJ7 wsJ7_fill_53178) (hK : tm_kx D cI cB s) (hA : ∀ q : Nat, s.heap.size ≤ q → A q) : ∀ (n : Nat) (v_p0_ : Nat → Int32) (x1 : Int32) (x2 : Int32) (x3 : Int32), lp_J7_fill_53178_5 n0 Q n v_p0_ x1 x2 x3 → ∀ (H : Heap) (locs : List Loc), va_P D vwCl [(a_p0_, .inl (cI, n0, .inl v_p0_))] H → va_D A [(a_p0_, .inl (cI, n0, .inl v_p0_))] → va_S A s.heap H locs → ∀ (ls : Array Slot), lv_has ls 4 [(0, .ref a_p0_), (1, .int x1), (2, .int x2), (3, .int x3)] → W p l e (headSpec wsJ7_fill_53178 rm_J7_fill_53178).room s m args below meth c H locs 0 0 (MQ below (va_Qv (fun (u : (Nat → Int32)) => Q u) (tm_B D (fun (u : (Nat → Int32)) => [(a_p0_, .inl (cI, n0, .inl u))]) A) A) args s 0 0 A) (F0 m 5 ls []) := by
  intro n
  induction n with
  | zero => intro _ _ _ _ h; exact False.elim h
  | succ n ih => intro v_p0_ x1 x2 x3 h; exact bk_J7_fill_53178_5 C hK hA ih v_p0_ x1 x2 x3 h
def wp_J7_fill_53178_in (n0 : Nat) (Q : (Nat → Int32) → Prop) (v_p0_ : Nat → Int32) (x1 : Int32) : Prop :=
  ∀ x3_1 : Int32, x3_1 = (nI n0) → (∃ n : Nat, lp_J7_fill_53178_5 n0 Q n v_p0_ x1 0 x3_1)
set_option maxRecDepth 100000 in
set_option maxHeartbeats 4000000 in
theorem bk_J7_fill_53178_in {p : Program} {l : Launch} {e : Env} {s : State} {m : MethodId} {args : Array Value} {below : List Frame} {meth : Method} {c : Code} {D : va_G} {cI cB : ClassId} {a_p0_ : Nat} {n0 : Nat} {A : Nat → Prop} {Q : (Nat → Int32) → Prop} (C : tm_cx p s m args meth c cJ7_fill_53178 4 none RJ7 wsJ7_fill_53178) (hK : tm_kx D cI cB s) (hA : ∀ q : Nat, s.heap.size ≤ q → A q) (v_p0_ : Nat → Int32) (x1 : Int32) (h : wp_J7_fill_53178_in n0 Q v_p0_ x1) : ∀ (H : Heap) (locs : List Loc), va_P D vwCl [(a_p0_, .inl (cI, n0, .inl v_p0_))] H → va_D A [(a_p0_, .inl (cI, n0, .inl v_p0_))] → va_S A s.heap H locs → ∀ (ls : Array Slot), lv_has ls 4 [(0, .ref a_p0_), (1, .int x1)] → W p l e (headSpec wsJ7_fill_53178 rm_J7_fill_53178).room s m args below meth c H locs 0 0 (MQ below (va_Qv (fun (u : (Nat → Int32)) => Q u) (tm_B D (fun (u : (Nat → Int32)) => [(a_p0_, .inl (cI, n0, .inl u))]) A) A) args s 0 0 A) (F0 m 0 ls []) := by
  obtain ⟨hx, hb, hr, hml, hown, hts, hlocks⟩ := id C
  intro H locs hP hD hS ls hl
  unfold wp_J7_fill_53178_in at h
  refine lv_iconst (v := 0) hx hb dJ7_fill_53178_0 (by decide) ?_
  refine lv_istore_n (lv' := [(2, .int 0), (0, .ref a_p0_), (1, .int x1)]) hx hb dJ7_fill_53178_1 rfl hl (by decide) rfl (fun ls hl => ?_)
  refine lv_aload_n hx hb dJ7_fill_53178_2 rfl (lv_at hl 1 rfl) ?_
  refine va_alen (v := nI n0) hx hb hK.1 hP 0 0 rfl rfl rfl dJ7_fill_53178_3 ?_
  refine lv_topi (fun x3_1 ex3_1 => ?_)
  have h := h x3_1 ex3_1
  refine lv_istore_n (lv' := [(3, .int x3_1), (2, .int 0), (0, .ref a_p0_), (1, .int x1)]) hx hb dJ7_fill_53178_4 rfl hl (by decide) rfl (fun ls hl => ?_)
  obtain ⟨n, h⟩ := h
  exact lt_J7_fill_53178_5 C hK hA n v_p0_ x1 0 x3_1 h H locs hP hD hS ls (lv_sub hl [2, 3, 1, 0] rfl)
abbrev wp_J7_fill_53178 (n0 : Nat) (v_p0_ : Nat → Int32) (x1 : Int32) (Q : (Nat → Int32) → Prop) : Prop := wp_J7_fill_53178_in n0 Q v_p0_ x1
set_option maxRecDepth 100000 in
set_option maxHeartbeats 4000000 in
theorem cn_J7_fill_53178 (l : Launch) (D : va_G) (cI cB : ClassId) (a_p0_ : Nat) (n0 : Nat) (v_p0_ : Nat → Int32) (x1 : Int32) (sz : Nat) (Q : (Nat → Int32) → Prop) (h : wp_J7_fill_53178 n0 v_p0_ x1 Q) : Met l yJ7_fill_53178 wsJ7_fill_53178 rm_J7_fill_53178 (tm_Pw D cI cB [.ref a_p0_, .int x1] [(a_p0_, .inl (cI, n0, .inl v_p0_))] sz) (va_Qv (fun (u : (Nat → Int32)) => Q u) (tm_B D (fun (u : (Nat → Int32)) => [(a_p0_, .inl (cI, n0, .inl u))]) (va_A [(a_p0_, .inl (cI, n0, .inl v_p0_))] sz)) (va_A [(a_p0_, .inl (cI, n0, .inl v_p0_))] sz)) 0 0 (va_A [(a_p0_, .inl (cI, n0, .inl v_p0_))] sz) := by
  refine Met.ofW (cc := cJ7_fill_53178) (maxL := 4) (ret := none) (by decide) rfl ?_
  intro p e s m args below meth c s₁ B hml hv
  obtain ⟨rfl, hsz, hP, hK, hD0⟩ := hv
  subst hsz
  have hD := hD0.self (sz := s.heap.size)
  generalize hAe : va_A [(a_p0_, .inl (cI, n0, .inl v_p0_))] s.heap.size = A at hD ⊢
  have hA : ∀ q : Nat, s.heap.size ≤ q → A q := fun q h => by rw [← hAe]; exact Or.inr h
  have hl := lv_entry ([.ref a_p0_, .int x1]) (n := 4) (Nat.le_of_ble_eq_true rfl)
  rw [lg_entry_eq]
  generalize (lg_sl ([.ref a_p0_, .int x1]) ++ List.replicate (4 - (lg_sl ([.ref a_p0_, .int x1])).length) Slot.unset).toArray = ls at hl ⊢
  have hl : lv_has ls 4 [(0, .ref a_p0_), (1, .int x1)] := hl
  exact bk_J7_fill_53178_in ⟨B.exec, B.bytes, B.returns, hml, findClass_of_methodNamed B.named, atoms_spec (ws := wsJ7_fill_53178) B.pre, B.notSynchronized⟩ hK hA v_p0_ x1 h s.heap [] hP hD va_S.rf ls hl
/-! X3_leads (II)Z -/
theorem in_X3_leads_X3 : ∀ w ∈ u_ws RX3 TX3 3, w ∈ wsX3_leads := by decide +kernel
abbrev rm_X3_leads : Room := { frames := 0, cells := 0, slots := 0, locals := 0 }
def wp_X3_leads_in (v_Go : Int32) (v_Ta : Nat → Int32) (Q : Int32 → Prop) (x1 : Int32) (x2 : Int32) : Prop :=
  vp_in x1 128 ∧ (((((v_Ta (x1).toNatClampNeg) >>> (x2 &&& 31)) &&& 1) = 1 → Q 1) ∧ (¬ ((((v_Ta (x1).toNatClampNeg) >>> (x2 &&& 31)) &&& 1) = 1) → Q 0))
set_option maxRecDepth 100000 in
set_option maxHeartbeats 4000000 in
theorem bk_X3_leads_in {p : Program} {l : Launch} {e : Env} {s : State} {m : MethodId} {args : Array Value} {below : List Frame} {meth : Method} {c : Code} {D : va_G} {cI cB : ClassId} {a_o a_Ta a_Re : Nat} {v_Go : Int32} {v_Ta : Nat → Int32} {Q : Int32 → Prop} (C : tm_cx p s m args meth c cX3_leads 3 (some .boolean) RX3 wsX3_leads) (hK : tm_kx D cI cB s) (x1 : Int32) (x2 : Int32) (h : wp_X3_leads_in v_Go v_Ta Q x1 x2) : va_P D vwCl [(a_o, .inr (3, [.ref a_Ta, .ref a_Re, .int v_Go])), (a_Ta, .inl (cI, 128, .inl v_Ta))] s.heap → ∀ (ls : Array Slot), lv_has ls 3 [(0, .ref a_o), (1, .int x1), (2, .int x2)] → W p l e (headSpec wsX3_leads rm_X3_leads).room s m args below meth c s.heap [] 0 0 (MQ below (vp_Si (fun r => (r = 0 ∨ r = 1) ∧ Q r)) args s 0 0 (fun _ => False)) (F0 m 0 ls []) := by
  obtain ⟨hx, hb, hr, hml, hown, hts, hlocks⟩ := id C
  intro hP ls hl
  unfold wp_X3_leads_in at h
  refine lv_aload_n hx hb dX3_leads_0 rfl (lv_at hl 0 rfl) ?_
  refine va_get (D := D) (ci := 3) (v := .ref a_Ta) (C := RX3) (T := TX3) (N := 3) hx hb hts in_X3_leads_X3 hown hK.1 hP 0 rfl rfl 0 (by decide) (hts (.fieldLink RX3 9 "TreeMachines$Machine" "targets" "[I") (by decide +kernel)) (fun _ h9 => h9) rfl dX3_leads_1 ?_
  refine lv_iload_n hx hb dX3_leads_4 rfl (lv_at hl 1 rfl) ?_
  obtain ⟨b1, h⟩ := h
  refine va_iald hx hb hK.1 hP 1 0 rfl rfl b1 dX3_leads_5 ?_
  refine lv_iload_n hx hb dX3_leads_6 rfl (lv_at hl 2 rfl) ?_
  refine lv_ishr hx hb dX3_leads_7 ?_
  refine lv_iconst (v := 1) hx hb dX3_leads_8 (by decide) ?_
  refine lv_iand (x := ((v_Ta (x1).toNatClampNeg) >>> (x2 &&& 31))) (y := 1) hx hb dX3_leads_9 ?_
  refine lv_iconst (v := 1) hx hb dX3_leads_10 (by decide) ?_
  refine lv_icmp_ne (tgt := 18) hx hb dX3_leads_11 (by decide) (fun c2 => ?_) (fun c2 => ?_)
  · have h := h.2 c2
    refine lv_iconst (v := 0) hx hb dX3_leads_18 (by decide) ?_
    exact W.zret (v := 0) (ty := .boolean) hx hb hr (tm_n01 (Or.inl rfl)) (fun t ht hW => ⟨0, rfl, ⟨Or.inl rfl, h⟩, ht⟩) (fun _ h => by cases h) dX3_leads_19
  · have h := h.1 c2
    refine lv_iconst (v := 1) hx hb dX3_leads_14 (by decide) ?_
    refine lv_goto (tgt := 19) hx hb dX3_leads_15 (by decide) ?_
    exact W.zret (v := 1) (ty := .boolean) hx hb hr (tm_n01 (Or.inr rfl)) (fun t ht hW => ⟨1, rfl, ⟨Or.inr rfl, h⟩, ht⟩) (fun _ h => by cases h) dX3_leads_19
abbrev wp_X3_leads (v_Go : Int32) (v_Ta : Nat → Int32) (x1 : Int32) (x2 : Int32) (Q : Int32 → Prop) : Prop := wp_X3_leads_in v_Go v_Ta Q x1 x2
set_option maxRecDepth 100000 in
set_option maxHeartbeats 4000000 in
theorem cn_X3_leads (l : Launch) (D : va_G) (cI cB : ClassId) (a_o a_Ta a_Re : Nat) (v_Go : Int32) (v_Ta : Nat → Int32) (x1 : Int32) (x2 : Int32) (Q : Int32 → Prop) (h : wp_X3_leads v_Go v_Ta x1 x2 Q) : Met l yX3_leads wsX3_leads rm_X3_leads (tm_Pr D cI cB [.ref a_o, .int x1, .int x2] [(a_o, .inr (3, [.ref a_Ta, .ref a_Re, .int v_Go])), (a_Ta, .inl (cI, 128, .inl v_Ta))]) (vp_Si (fun r => (r = 0 ∨ r = 1) ∧ Q r)) 0 0 (fun _ => False) := by
  refine Met.ofW (cc := cX3_leads) (maxL := 3) (ret := (some .boolean)) (by decide) rfl ?_
  intro p e s m args below meth c s₁ B hml hv
  obtain ⟨rfl, hP, hK⟩ := hv
  have hl := lv_entry ([.ref a_o, .int x1, .int x2]) (n := 3) (Nat.le_of_ble_eq_true rfl)
  rw [lg_entry_eq]
  generalize (lg_sl ([.ref a_o, .int x1, .int x2]) ++ List.replicate (3 - (lg_sl ([.ref a_o, .int x1, .int x2])).length) Slot.unset).toArray = ls at hl ⊢
  have hl : lv_has ls 3 [(0, .ref a_o), (1, .int x1), (2, .int x2)] := hl
  exact bk_X3_leads_in ⟨B.exec, B.bytes, B.returns, hml, findClass_of_methodNamed B.named, atoms_spec (ws := wsX3_leads) B.pre, B.notSynchronized⟩ hK x1 x2 h hP ls hl
/-! X3_isGoal (I)Z -/
theorem in_X3_isGoal_X3 : ∀ w ∈ u_ws RX3 TX3 3, w ∈ wsX3_isGoal := by decide +kernel
abbrev rm_X3_isGoal : Room := { frames := 0, cells := 0, slots := 0, locals := 0 }
def wp_X3_isGoal_in (v_Go : Int32) (Q : Int32 → Prop) (x1 : Int32) : Prop :=
  ((((v_Go >>> (x1 &&& 31)) &&& 1) = 1 → Q 1) ∧ (¬ (((v_Go >>> (x1 &&& 31)) &&& 1) = 1) → Q 0))
set_option maxRecDepth 100000 in
set_option maxHeartbeats 4000000 in
theorem bk_X3_isGoal_in {p : Program} {l : Launch} {e : Env} {s : State} {m : MethodId} {args : Array Value} {below : List Frame} {meth : Method} {c : Code} {D : va_G} {cI cB : ClassId} {a_o a_Ta a_Re : Nat} {v_Go : Int32} {Q : Int32 → Prop} (C : tm_cx p s m args meth c cX3_isGoal 2 (some .boolean) RX3 wsX3_isGoal) (hK : tm_kx D cI cB s) (x1 : Int32) (h : wp_X3_isGoal_in v_Go Q x1) : va_P D vwCl [(a_o, .inr (3, [.ref a_Ta, .ref a_Re, .int v_Go]))] s.heap → ∀ (ls : Array Slot), lv_has ls 2 [(0, .ref a_o), (1, .int x1)] → W p l e (headSpec wsX3_isGoal rm_X3_isGoal).room s m args below meth c s.heap [] 0 0 (MQ below (vp_Si (fun r => (r = 0 ∨ r = 1) ∧ Q r)) args s 0 0 (fun _ => False)) (F0 m 0 ls []) := by
  obtain ⟨hx, hb, hr, hml, hown, hts, hlocks⟩ := id C
  intro hP ls hl
  unfold wp_X3_isGoal_in at h
  refine lv_aload_n hx hb dX3_isGoal_0 rfl (lv_at hl 0 rfl) ?_
  refine va_get (D := D) (ci := 3) (v := .int v_Go) (C := RX3) (T := TX3) (N := 3) hx hb hts in_X3_isGoal_X3 hown hK.1 hP 0 rfl rfl 2 (by decide) (hts (.fieldLink RX3 18 "TreeMachines$Machine" "goals" "I") (by decide +kernel)) (fun _ h9 => h9) rfl dX3_isGoal_1 ?_
  refine lv_iload_n hx hb dX3_isGoal_4 rfl (lv_at hl 1 rfl) ?_
  refine lv_ishr hx hb dX3_isGoal_5 ?_
  refine lv_iconst (v := 1) hx hb dX3_isGoal_6 (by decide) ?_
  refine lv_iand (x := (v_Go >>> (x1 &&& 31))) (y := 1) hx hb dX3_isGoal_7 ?_
  refine lv_iconst (v := 1) hx hb dX3_isGoal_8 (by decide) ?_
  refine lv_icmp_ne (tgt := 16) hx hb dX3_isGoal_9 (by decide) (fun c1 => ?_) (fun c1 => ?_)
  · have h := h.2 c1
    refine lv_iconst (v := 0) hx hb dX3_isGoal_16 (by decide) ?_
    exact W.zret (v := 0) (ty := .boolean) hx hb hr (tm_n01 (Or.inl rfl)) (fun t ht hW => ⟨0, rfl, ⟨Or.inl rfl, h⟩, ht⟩) (fun _ h => by cases h) dX3_isGoal_17
  · have h := h.1 c1
    refine lv_iconst (v := 1) hx hb dX3_isGoal_12 (by decide) ?_
    refine lv_goto (tgt := 17) hx hb dX3_isGoal_13 (by decide) ?_
    exact W.zret (v := 1) (ty := .boolean) hx hb hr (tm_n01 (Or.inr rfl)) (fun t ht hW => ⟨1, rfl, ⟨Or.inr rfl, h⟩, ht⟩) (fun _ h => by cases h) dX3_isGoal_17
abbrev wp_X3_isGoal (v_Go : Int32) (x1 : Int32) (Q : Int32 → Prop) : Prop := wp_X3_isGoal_in v_Go Q x1
set_option maxRecDepth 100000 in
set_option maxHeartbeats 4000000 in
theorem cn_X3_isGoal (l : Launch) (D : va_G) (cI cB : ClassId) (a_o a_Ta a_Re : Nat) (v_Go : Int32) (x1 : Int32) (Q : Int32 → Prop) (h : wp_X3_isGoal v_Go x1 Q) : Met l yX3_isGoal wsX3_isGoal rm_X3_isGoal (tm_Pr D cI cB [.ref a_o, .int x1] [(a_o, .inr (3, [.ref a_Ta, .ref a_Re, .int v_Go]))]) (vp_Si (fun r => (r = 0 ∨ r = 1) ∧ Q r)) 0 0 (fun _ => False) := by
  refine Met.ofW (cc := cX3_isGoal) (maxL := 2) (ret := (some .boolean)) (by decide) rfl ?_
  intro p e s m args below meth c s₁ B hml hv
  obtain ⟨rfl, hP, hK⟩ := hv
  have hl := lv_entry ([.ref a_o, .int x1]) (n := 2) (Nat.le_of_ble_eq_true rfl)
  rw [lg_entry_eq]
  generalize (lg_sl ([.ref a_o, .int x1]) ++ List.replicate (2 - (lg_sl ([.ref a_o, .int x1])).length) Slot.unset).toArray = ls at hl ⊢
  have hl : lv_has ls 2 [(0, .ref a_o), (1, .int x1)] := hl
  exact bk_X3_isGoal_in ⟨B.exec, B.bytes, B.returns, hml, findClass_of_methodNamed B.named, atoms_spec (ws := wsX3_isGoal) B.pre, B.notSynchronized⟩ hK x1 h hP ls hl
/-! X3_turnGoal (I)V -/
theorem in_X3_turnGoal_X3 : ∀ w ∈ u_ws RX3 TX3 3, w ∈ wsX3_turnGoal := by decide +kernel
abbrev rm_X3_turnGoal : Room := { frames := 0, cells := 0, slots := 0, locals := 0 }
def wp_X3_turnGoal_in (Q : Int32 → Prop) (v_Go : Int32) (x1 : Int32) : Prop :=
  ∀ g_1 : Int32, g_1 = (v_Go ^^^ ((1 : Int32) <<< (x1 &&& 31))) → Q g_1
set_option maxRecDepth 100000 in
set_option maxHeartbeats 4000000 in
theorem bk_X3_turnGoal_in {p : Program} {l : Launch} {e : Env} {s : State} {m : MethodId} {args : Array Value} {below : List Frame} {meth : Method} {c : Code} {D : va_G} {cI cB : ClassId} {a_o a_Ta a_Re : Nat} {A : Nat → Prop} {Q : Int32 → Prop} (C : tm_cx p s m args meth c cX3_turnGoal 2 none RX3 wsX3_turnGoal) (hK : tm_kx D cI cB s) (hA : ∀ q : Nat, s.heap.size ≤ q → A q) (v_Go : Int32) (x1 : Int32) (h : wp_X3_turnGoal_in Q v_Go x1) : ∀ (H : Heap) (locs : List Loc), va_P D vwCl [(a_o, .inr (3, [.ref a_Ta, .ref a_Re, .int v_Go]))] H → va_D A [(a_o, .inr (3, [.ref a_Ta, .ref a_Re, .int v_Go]))] → va_S A s.heap H locs → ∀ (ls : Array Slot), lv_has ls 2 [(0, .ref a_o), (1, .int x1)] → W p l e (headSpec wsX3_turnGoal rm_X3_turnGoal).room s m args below meth c H locs 0 0 (MQ below (va_Qv (fun (u : Int32) => Q u) (tm_B D (fun (u : Int32) => [(a_o, .inr (3, [.ref a_Ta, .ref a_Re, .int u]))]) A) A) args s 0 0 A) (F0 m 0 ls []) := by
  obtain ⟨hx, hb, hr, hml, hown, hts, hlocks⟩ := id C
  intro H locs hP hD hS ls hl
  unfold wp_X3_turnGoal_in at h
  refine lv_aload_n hx hb dX3_turnGoal_0 rfl (lv_at hl 0 rfl) ?_
  refine lv_dup hx hb dX3_turnGoal_1 rfl ?_
  refine va_get (D := D) (ci := 3) (v := .int v_Go) (C := RX3) (T := TX3) (N := 3) hx hb hts in_X3_turnGoal_X3 hown hK.1 hP 0 rfl rfl 2 (by decide) (hts (.fieldLink RX3 18 "TreeMachines$Machine" "goals" "I") (by decide +kernel)) (fun _ h9 => h9) rfl dX3_turnGoal_2 ?_
  refine lv_iconst (v := 1) hx hb dX3_turnGoal_5 (by decide) ?_
  refine lv_iload_n hx hb dX3_turnGoal_6 rfl (lv_at hl 1 rfl) ?_
  refine lv_ishl (x := 1) (y := x1) hx hb dX3_turnGoal_7 ?_
  refine lv_ixor hx hb dX3_turnGoal_8 ?_
  refine lv_topi (fun g_1 eg_1 => ?_)
  have h := h g_1 eg_1
  refine va_put (D := D) (ci := 3) (v := .int g_1) (ty := .int) (C := RX3) (T := TX3) (N := 3) hx hb hts in_X3_turnGoal_X3 tyX3 tyX3_ok nmX3 hown hK.1 hP hD hS 0 rfl rfl 2 (by decide) (hts (.fieldLink RX3 18 "TreeMachines$Machine" "goals" "I") (by decide +kernel)) (fun _ h9 => h9) rfl (by decide +kernel) rfl rfl (Nat.le_of_ble_eq_true rfl) dX3_turnGoal_9 (fun H locs hP hD hS => ?_)
  have hP : va_P D vwCl [(a_o, .inr (3, [.ref a_Ta, .ref a_Re, .int g_1]))] H := hP
  have hD : va_D A [(a_o, .inr (3, [.ref a_Ta, .ref a_Re, .int g_1]))] := hD
  exact W.vret hx hb hr (fun t ht hW => ⟨⟨g_1, rfl, h, by rw [ht]; exact hP, hD⟩, hS.F ht⟩) hS.2.2 dX3_turnGoal_12
abbrev wp_X3_turnGoal (v_Go : Int32) (x1 : Int32) (Q : Int32 → Prop) : Prop := wp_X3_turnGoal_in Q v_Go x1
set_option maxRecDepth 100000 in
set_option maxHeartbeats 4000000 in
theorem cn_X3_turnGoal (l : Launch) (D : va_G) (cI cB : ClassId) (a_o a_Ta a_Re : Nat) (v_Go : Int32) (x1 : Int32) (sz : Nat) (Q : Int32 → Prop) (h : wp_X3_turnGoal v_Go x1 Q) : Met l yX3_turnGoal wsX3_turnGoal rm_X3_turnGoal (tm_Pw D cI cB [.ref a_o, .int x1] [(a_o, .inr (3, [.ref a_Ta, .ref a_Re, .int v_Go]))] sz) (va_Qv (fun (u : Int32) => Q u) (tm_B D (fun (u : Int32) => [(a_o, .inr (3, [.ref a_Ta, .ref a_Re, .int u]))]) (va_A [(a_o, .inr (3, [.ref a_Ta, .ref a_Re, .int v_Go]))] sz)) (va_A [(a_o, .inr (3, [.ref a_Ta, .ref a_Re, .int v_Go]))] sz)) 0 0 (va_A [(a_o, .inr (3, [.ref a_Ta, .ref a_Re, .int v_Go]))] sz) := by
  refine Met.ofW (cc := cX3_turnGoal) (maxL := 2) (ret := none) (by decide) rfl ?_
  intro p e s m args below meth c s₁ B hml hv
  obtain ⟨rfl, hsz, hP, hK, hD0⟩ := hv
  subst hsz
  have hD := hD0.self (sz := s.heap.size)
  generalize hAe : va_A [(a_o, .inr (3, [.ref a_Ta, .ref a_Re, .int v_Go]))] s.heap.size = A at hD ⊢
  have hA : ∀ q : Nat, s.heap.size ≤ q → A q := fun q h => by rw [← hAe]; exact Or.inr h
  have hl := lv_entry ([.ref a_o, .int x1]) (n := 2) (Nat.le_of_ble_eq_true rfl)
  rw [lg_entry_eq]
  generalize (lg_sl ([.ref a_o, .int x1]) ++ List.replicate (2 - (lg_sl ([.ref a_o, .int x1])).length) Slot.unset).toArray = ls at hl ⊢
  have hl : lv_has ls 2 [(0, .ref a_o), (1, .int x1)] := hl
  exact bk_X3_turnGoal_in ⟨B.exec, B.bytes, B.returns, hml, findClass_of_methodNamed B.named, atoms_spec (ws := wsX3_turnGoal) B.pre, B.notSynchronized⟩ hK hA v_Go x1 h s.heap [] hP hD va_S.rf ls hl
/-! X3_accepts (I)Z -/
theorem in_X3_accepts_X3 : ∀ w ∈ u_ws RX3 TX3 3, w ∈ wsX3_accepts := by decide +kernel
abbrev rm_X3_accepts : Room := { frames := 0, cells := 0, slots := 0, locals := 0 }
def wp_X3_accepts_in (v_Go : Int32) (Q : Int32 → Prop) (x1 : Int32) : Prop :=
  (((x1 &&& v_Go) = 0 → Q 0) ∧ (¬ ((x1 &&& v_Go) = 0) → Q 1))
set_option maxRecDepth 100000 in
set_option maxHeartbeats 4000000 in
theorem bk_X3_accepts_in {p : Program} {l : Launch} {e : Env} {s : State} {m : MethodId} {args : Array Value} {below : List Frame} {meth : Method} {c : Code} {D : va_G} {cI cB : ClassId} {a_o a_Ta a_Re : Nat} {v_Go : Int32} {Q : Int32 → Prop} (C : tm_cx p s m args meth c cX3_accepts 2 (some .boolean) RX3 wsX3_accepts) (hK : tm_kx D cI cB s) (x1 : Int32) (h : wp_X3_accepts_in v_Go Q x1) : va_P D vwCl [(a_o, .inr (3, [.ref a_Ta, .ref a_Re, .int v_Go]))] s.heap → ∀ (ls : Array Slot), lv_has ls 2 [(0, .ref a_o), (1, .int x1)] → W p l e (headSpec wsX3_accepts rm_X3_accepts).room s m args below meth c s.heap [] 0 0 (MQ below (vp_Si (fun r => (r = 0 ∨ r = 1) ∧ Q r)) args s 0 0 (fun _ => False)) (F0 m 0 ls []) := by
  obtain ⟨hx, hb, hr, hml, hown, hts, hlocks⟩ := id C
  intro hP ls hl
  unfold wp_X3_accepts_in at h
  refine lv_iload_n hx hb dX3_accepts_0 rfl (lv_at hl 1 rfl) ?_
  refine lv_aload_n hx hb dX3_accepts_1 rfl (lv_at hl 0 rfl) ?_
  refine va_get (D := D) (ci := 3) (v := .int v_Go) (C := RX3) (T := TX3) (N := 3) hx hb hts in_X3_accepts_X3 hown hK.1 hP 0 rfl rfl 2 (by decide) (hts (.fieldLink RX3 18 "TreeMachines$Machine" "goals" "I") (by decide +kernel)) (fun _ h9 => h9) rfl dX3_accepts_2 ?_
  refine lv_iand hx hb dX3_accepts_5 ?_
  refine lv_if_eq (tgt := 13) hx hb dX3_accepts_6 (by decide) (fun c1 => ?_) (fun c1 => ?_)
  · have h := h.1 c1
    refine lv_iconst (v := 0) hx hb dX3_accepts_13 (by decide) ?_
    exact W.zret (v := 0) (ty := .boolean) hx hb hr (tm_n01 (Or.inl rfl)) (fun t ht hW => ⟨0, rfl, ⟨Or.inl rfl, h⟩, ht⟩) (fun _ h => by cases h) dX3_accepts_14
  · have h := h.2 c1
    refine lv_iconst (v := 1) hx hb dX3_accepts_9 (by decide) ?_
    refine lv_goto (tgt := 14) hx hb dX3_accepts_10 (by decide) ?_
    exact W.zret (v := 1) (ty := .boolean) hx hb hr (tm_n01 (Or.inr rfl)) (fun t ht hW => ⟨1, rfl, ⟨Or.inr rfl, h⟩, ht⟩) (fun _ h => by cases h) dX3_accepts_14
abbrev wp_X3_accepts (v_Go : Int32) (x1 : Int32) (Q : Int32 → Prop) : Prop := wp_X3_accepts_in v_Go Q x1
set_option maxRecDepth 100000 in
set_option maxHeartbeats 4000000 in
theorem cn_X3_accepts (l : Launch) (D : va_G) (cI cB : ClassId) (a_o a_Ta a_Re : Nat) (v_Go : Int32) (x1 : Int32) (Q : Int32 → Prop) (h : wp_X3_accepts v_Go x1 Q) : Met l yX3_accepts wsX3_accepts rm_X3_accepts (tm_Pr D cI cB [.ref a_o, .int x1] [(a_o, .inr (3, [.ref a_Ta, .ref a_Re, .int v_Go]))]) (vp_Si (fun r => (r = 0 ∨ r = 1) ∧ Q r)) 0 0 (fun _ => False) := by
  refine Met.ofW (cc := cX3_accepts) (maxL := 2) (ret := (some .boolean)) (by decide) rfl ?_
  intro p e s m args below meth c s₁ B hml hv
  obtain ⟨rfl, hP, hK⟩ := hv
  have hl := lv_entry ([.ref a_o, .int x1]) (n := 2) (Nat.le_of_ble_eq_true rfl)
  rw [lg_entry_eq]
  generalize (lg_sl ([.ref a_o, .int x1]) ++ List.replicate (2 - (lg_sl ([.ref a_o, .int x1])).length) Slot.unset).toArray = ls at hl ⊢
  have hl : lv_has ls 2 [(0, .ref a_o), (1, .int x1)] := hl
  exact bk_X3_accepts_in ⟨B.exec, B.bytes, B.returns, hml, findClass_of_methodNamed B.named, atoms_spec (ws := wsX3_accepts) B.pre, B.notSynchronized⟩ hK x1 h hP ls hl
/-! X3_cell (III)I -/
abbrev rm_X3_cell : Room := { frames := 0, cells := 0, slots := 0, locals := 0 }
def wp_X3_cell_in (Q : Int32 → Prop) (x0 : Int32) (x1 : Int32) (x2 : Int32) : Prop :=
  Q ((((x0 * 16) + x1) * 16) + x2)
set_option maxRecDepth 100000 in
set_option maxHeartbeats 4000000 in
theorem bk_X3_cell_in {p : Program} {l : Launch} {e : Env} {s : State} {m : MethodId} {args : Array Value} {below : List Frame} {meth : Method} {c : Code} {D : va_G} {cI cB : ClassId} {Q : Int32 → Prop} (C : tm_cx p s m args meth c cX3_cell 3 (some .int) RX3 wsX3_cell) (hK : tm_kx D cI cB s) (x0 : Int32) (x1 : Int32) (x2 : Int32) (h : wp_X3_cell_in Q x0 x1 x2) : va_P D vwCl [] s.heap → ∀ (ls : Array Slot), lv_has ls 3 [(0, .int x0), (1, .int x1), (2, .int x2)] → W p l e (headSpec wsX3_cell rm_X3_cell).room s m args below meth c s.heap [] 0 0 (MQ below (vp_Si Q) args s 0 0 (fun _ => False)) (F0 m 0 ls []) := by
  obtain ⟨hx, hb, hr, hml, hown, hts, hlocks⟩ := id C
  intro hP ls hl
  unfold wp_X3_cell_in at h
  refine lv_iload_n hx hb dX3_cell_0 rfl (lv_at hl 0 rfl) ?_
  refine lv_bipush (v := 16) hx hb dX3_cell_1 (by decide) ?_
  refine lv_imul (x := x0) (y := 16) hx hb dX3_cell_3 ?_
  refine lv_iload_n hx hb dX3_cell_4 rfl (lv_at hl 1 rfl) ?_
  refine lv_iadd hx hb dX3_cell_5 ?_
  refine lv_bipush (v := 16) hx hb dX3_cell_6 (by decide) ?_
  refine lv_imul (x := ((x0 * 16) + x1)) (y := 16) hx hb dX3_cell_8 ?_
  refine lv_iload_n hx hb dX3_cell_9 rfl (lv_at hl 2 rfl) ?_
  refine lv_iadd hx hb dX3_cell_10 ?_
  exact W.iret (v := ((((x0 * 16) + x1) * 16) + x2)) hx hb hr (fun t ht hW => ⟨((((x0 * 16) + x1) * 16) + x2), rfl, h, ht⟩) (fun _ h => by cases h) dX3_cell_11
abbrev wp_X3_cell (x0 : Int32) (x1 : Int32) (x2 : Int32) (Q : Int32 → Prop) : Prop := wp_X3_cell_in Q x0 x1 x2
set_option maxRecDepth 100000 in
set_option maxHeartbeats 4000000 in
theorem cn_X3_cell (l : Launch) (D : va_G) (cI cB : ClassId) (x0 : Int32) (x1 : Int32) (x2 : Int32) (Q : Int32 → Prop) (h : wp_X3_cell x0 x1 x2 Q) : Met l yX3_cell wsX3_cell rm_X3_cell (tm_Pr D cI cB [.int x0, .int x1, .int x2] []) (vp_Si Q) 0 0 (fun _ => False) := by
  refine Met.ofW (cc := cX3_cell) (maxL := 3) (ret := (some .int)) (by decide) rfl ?_
  intro p e s m args below meth c s₁ B hml hv
  obtain ⟨rfl, hP, hK⟩ := hv
  have hl := lv_entry ([.int x0, .int x1, .int x2]) (n := 3) (Nat.le_of_ble_eq_true rfl)
  rw [lg_entry_eq]
  generalize (lg_sl ([.int x0, .int x1, .int x2]) ++ List.replicate (3 - (lg_sl ([.int x0, .int x1, .int x2])).length) Slot.unset).toArray = ls at hl ⊢
  have hl : lv_has ls 3 [(0, .int x0), (1, .int x1), (2, .int x2)] := hl
  exact bk_X3_cell_in ⟨B.exec, B.bytes, B.returns, hml, findClass_of_methodNamed B.named, atoms_spec (ws := wsX3_cell) B.pre, B.notSynchronized⟩ hK x0 x1 x2 h hP ls hl
/-! X3_rebuild (I)V -/
theorem in_X3_rebuild_X3 : ∀ w ∈ u_ws RX3 TX3 3, w ∈ wsX3_rebuild := by decide +kernel
abbrev rm_X3_rebuild : Room := { frames := 1, cells := 0, slots := 0, locals := 22 }
def wp_X3_rebuild_40 (v_Go : Int32) (v_Ta : Nat → Int32) (K31 : (Nat → Int32) → Int32 → Int32 → Int32 → Int32 → Prop) (K40 : (Nat → Int32) → Int32 → Int32 → Int32 → Int32 → Int32 → Prop) (Q : (Nat → Int32) → Prop) (v_Re : Nat → Int32) (x1 : Int32) (x2 : Int32) (x3 : Int32) (x4 : Int32) (x5 : Int32) : Prop :=
  ((x3 < x5 → ∀ x4_7 : Int32, x4_7 = x4 + 1 → K31 v_Re x1 x2 x3 x4_7) ∧ (¬ (x3 < x5) → vp_in x4 16 ∧ vp_in x5 16 ∧ ∀ x6_10 : Int32, x6_10 = ((((x1 * 4) + (tm_low (x4).toNatClampNeg)) * 4) + (tm_low (x5).toNatClampNeg)) → wp_X3_cell x1 x4 x5 (fun r11 => vp_in x6_10 128 ∧ wp_X3_cell x1 (x4 &&& (x4 - 1)) x5 (fun r13 => vp_in r13 2048 ∧ wp_X3_cell x1 x4 (x5 &&& (x5 - 1)) (fun r15 => vp_in r15 2048 ∧ vp_in r11 2048 ∧ ∀ f_18 : Nat → Int32, f_18 = upd v_Re (r11).toNatClampNeg (((v_Ta (x6_10).toNatClampNeg) ||| (v_Re (r13).toNatClampNeg)) ||| (v_Re (r15).toNatClampNeg)) → ∀ x5_19 : Int32, x5_19 = x5 + 1 → K40 f_18 x1 x2 x3 x4 x5_19)))))
set_option maxRecDepth 100000 in
set_option maxHeartbeats 4000000 in
theorem bk_X3_rebuild_40 {p : Program} {l : Launch} {e : Env} {s : State} {m : MethodId} {args : Array Value} {below : List Frame} {meth : Method} {c : Code} {D : va_G} {cI cB : ClassId} {a_o a_Ta a_Re : Nat} {A : Nat → Prop} {tb : Nat} {v_Go : Int32} {v_Ta : Nat → Int32} {Q : (Nat → Int32) → Prop} (C : tm_cx p s m args meth c cX3_rebuild 7 none RX3 wsX3_rebuild) (hK : tm_kx D cI cB s) (hA : ∀ q : Nat, s.heap.size ≤ q → A q) (hT : tm_tb A tb s s.heap) {K31 : (Nat → Int32) → Int32 → Int32 → Int32 → Int32 → Prop} (k31 : ∀ (v_Re : Nat → Int32) (x1 : Int32) (x2 : Int32) (x3 : Int32) (x4 : Int32), K31 v_Re x1 x2 x3 x4 → ∀ (H : Heap) (locs : List Loc), va_P D vwCl [(a_o, .inr (3, [.ref a_Ta, .ref a_Re, .int v_Go])), (a_Re, .inl (cI, 2048, .inl v_Re)), (a_Ta, .inl (cI, 128, .inl v_Ta))] H → va_D A [(a_o, .inr (3, [.ref a_Ta, .ref a_Re, .int v_Go])), (a_Re, .inl (cI, 2048, .inl v_Re)), (a_Ta, .inl (cI, 128, .inl v_Ta))] → va_S A s.heap H locs → ∀ (ls : Array Slot), lv_has ls 7 [(0, .ref a_o), (1, .int x1), (2, .int x2), (3, .int x3), (4, .int x4)] → W p l e (headSpec wsX3_rebuild rm_X3_rebuild).room s m args below meth c H locs 0 0 (MQ below (va_Qv (fun (u : (Nat → Int32)) => Q u) (tm_B D (fun (u : (Nat → Int32)) => [(a_o, .inr (3, [.ref a_Ta, .ref a_Re, .int v_Go])), (a_Re, .inl (cI, 2048, .inl u)), (a_Ta, .inl (cI, 128, .inl v_Ta))]) A) A) args s 0 0 A) (F0 m 31 ls [])) {K40 : (Nat → Int32) → Int32 → Int32 → Int32 → Int32 → Int32 → Prop} (k40 : ∀ (v_Re : Nat → Int32) (x1 : Int32) (x2 : Int32) (x3 : Int32) (x4 : Int32) (x5 : Int32), K40 v_Re x1 x2 x3 x4 x5 → ∀ (H : Heap) (locs : List Loc), va_P D vwCl [(a_o, .inr (3, [.ref a_Ta, .ref a_Re, .int v_Go])), (a_Re, .inl (cI, 2048, .inl v_Re)), (a_Ta, .inl (cI, 128, .inl v_Ta))] H → va_D A [(a_o, .inr (3, [.ref a_Ta, .ref a_Re, .int v_Go])), (a_Re, .inl (cI, 2048, .inl v_Re)), (a_Ta, .inl (cI, 128, .inl v_Ta))] → va_S A s.heap H locs → ∀ (ls : Array Slot), lv_has ls 7 [(0, .ref a_o), (1, .int x1), (2, .int x2), (3, .int x3), (4, .int x4), (5, .int x5)] → W p l e (headSpec wsX3_rebuild rm_X3_rebuild).room s m args below meth c H locs 0 0 (MQ below (va_Qv (fun (u : (Nat → Int32)) => Q u) (tm_B D (fun (u : (Nat → Int32)) => [(a_o, .inr (3, [.ref a_Ta, .ref a_Re, .int v_Go])), (a_Re, .inl (cI, 2048, .inl u)), (a_Ta, .inl (cI, 128, .inl v_Ta))]) A) A) args s 0 0 A) (F0 m 40 ls [])) (v_Re : Nat → Int32) (x1 : Int32) (x2 : Int32) (x3 : Int32) (x4 : Int32) (x5 : Int32) (h : wp_X3_rebuild_40 v_Go v_Ta K31 K40 Q v_Re x1 x2 x3 x4 x5) : ∀ (H : Heap) (locs : List Loc), va_P D vwCl [(a_o, .inr (3, [.ref a_Ta, .ref a_Re, .int v_Go])), (a_Re, .inl (cI, 2048, .inl v_Re)), (a_Ta, .inl (cI, 128, .inl v_Ta))] H → va_D A [(a_o, .inr (3, [.ref a_Ta, .ref a_Re, .int v_Go])), (a_Re, .inl (cI, 2048, .inl v_Re)), (a_Ta, .inl (cI, 128, .inl v_Ta))] → va_S A s.heap H locs → ∀ (ls : Array Slot), lv_has ls 7 [(0, .ref a_o), (1, .int x1), (2, .int x2), (3, .int x3), (4, .int x4), (5, .int x5)] → W p l e (headSpec wsX3_rebuild rm_X3_rebuild).room s m args below meth c H locs 0 0 (MQ below (va_Qv (fun (u : (Nat → Int32)) => Q u) (tm_B D (fun (u : (Nat → Int32)) => [(a_o, .inr (3, [.ref a_Ta, .ref a_Re, .int v_Go])), (a_Re, .inl (cI, 2048, .inl u)), (a_Ta, .inl (cI, 128, .inl v_Ta))]) A) A) args s 0 0 A) (F0 m 40 ls []) := by
  obtain ⟨hx, hb, hr, hml, hown, hts, hlocks⟩ := id C
  intro H locs hP hD hS ls hl
  unfold wp_X3_rebuild_40 at h
  refine lv_iload hx hb dX3_rebuild_40 (lv_at hl 5 rfl) ?_
  refine lv_iload_n hx hb dX3_rebuild_42 rfl (lv_at hl 3 rfl) ?_
  refine lv_icmp_gt (tgt := 131) hx hb dX3_rebuild_43 (by decide) (fun c6 => ?_) (fun c6 => ?_)
  · have h := h.1 c6
    obtain ⟨x4_7, ex4_7⟩ : ∃ y : Int32, y = x4 + 1 := ⟨_, rfl⟩
    have h := h x4_7 ex4_7
    refine lv_iinc (v := x4_7) (lv' := [(4, .int x4_7), (0, .ref a_o), (1, .int x1), (2, .int x2), (3, .int x3), (5, .int x5)]) hx hb dX3_rebuild_131 hl (k := 4) rfl (by rw [ex4_7]; rfl) (by decide) rfl (fun ls hl => ?_)
    refine lv_goto (tgt := 31) hx hb dX3_rebuild_134 (by decide) ?_
    exact k31 v_Re x1 x2 x3 x4_7 h H locs hP hD hS ls (lv_sub hl [1, 2, 3, 4, 0] rfl)
  · have h := h.2 c6
    refine lv_iload_n hx hb dX3_rebuild_46 rfl (lv_at hl 1 rfl) ?_
    refine lv_iconst (v := 4) hx hb dX3_rebuild_47 (by decide) ?_
    refine lv_imul (x := x1) (y := 4) hx hb dX3_rebuild_48 ?_
    refine va_getsN hx hb hT.1 hS hown (va_Nw.use rfl hK.2.2.2.2.2.2.2.2.2.2.2.2) (fun _ h9 => h9) dX3_rebuild_49 ?_
    refine lv_iload hx hb dX3_rebuild_52 (lv_at hl 4 rfl) ?_
    obtain ⟨b8, h⟩ := h
    refine va_ti hx hb hT.2 hS b8 rfl dX3_rebuild_54 ?_
    refine lv_iadd hx hb dX3_rebuild_55 ?_
    refine lv_iconst (v := 4) hx hb dX3_rebuild_56 (by decide) ?_
    refine lv_imul (x := ((x1 * 4) + (tm_low (x4).toNatClampNeg))) (y := 4) hx hb dX3_rebuild_57 ?_
    refine va_getsN hx hb hT.1 hS hown (va_Nw.use rfl hK.2.2.2.2.2.2.2.2.2.2.2.2) (fun _ h9 => h9) dX3_rebuild_58 ?_
    refine lv_iload hx hb dX3_rebuild_61 (lv_at hl 5 rfl) ?_
    obtain ⟨b9, h⟩ := h
    refine va_ti hx hb hT.2 hS b9 rfl dX3_rebuild_63 ?_
    refine lv_iadd hx hb dX3_rebuild_64 ?_
    refine lv_topi (fun x6_10 ex6_10 => ?_)
    have h := h x6_10 ex6_10
    refine lv_istore (lv' := [(6, .int x6_10), (0, .ref a_o), (1, .int x1), (2, .int x2), (3, .int x3), (4, .int x4), (5, .int x5)]) hx hb dX3_rebuild_65 hl (by decide) rfl (fun ls hl => ?_)
    refine lv_aload_n hx hb dX3_rebuild_67 rfl (lv_at hl 1 rfl) ?_
    refine va_get (D := D) (ci := 3) (v := .ref a_Re) (C := RX3) (T := TX3) (N := 3) hx hb hts in_X3_rebuild_X3 hown hK.1 hP 0 rfl rfl 1 (by decide) (hts (.fieldLink RX3 15 "TreeMachines$Machine" "reachable" "[I") (by decide +kernel)) (fun _ h9 => h9) rfl dX3_rebuild_68 ?_
    refine lv_iload_n hx hb dX3_rebuild_71 rfl (lv_at hl 2 rfl) ?_
    refine lv_iload hx hb dX3_rebuild_72 (lv_at hl 5 rfl) ?_
    refine lv_iload hx hb dX3_rebuild_74 (lv_at hl 6 rfl) ?_
    refine tm_rS (As := [.int x1, .int x4, .int x5]) (rest := [.ref a_Re]) (wc := []) ⟨hx, hb, hml, hown, hts⟩ (cn_X3_cell l D cI cB x1 x4 x5 _ h) (va_cwS 3 hts gX3_rebuild_X3_cell rfl rfl rfl (by decide +kernel) ⟨Nat.le_of_ble_eq_true rfl, Nat.le_of_ble_eq_true rfl⟩) hK (hP.sub [] rfl) rfl hl.1 rfl (Nat.le_of_ble_eq_true rfl) ⟨Nat.zero_le _, Nat.zero_le _⟩ dX3_rebuild_76 (fun r11 h => ?_)
    refine lv_aload_n hx hb dX3_rebuild_79 rfl (lv_at hl 1 rfl) ?_
    refine va_get (D := D) (ci := 3) (v := .ref a_Ta) (C := RX3) (T := TX3) (N := 3) hx hb hts in_X3_rebuild_X3 hown hK.1 hP 0 rfl rfl 0 (by decide) (hts (.fieldLink RX3 9 "TreeMachines$Machine" "targets" "[I") (by decide +kernel)) (fun _ h9 => h9) rfl dX3_rebuild_80 ?_
    refine lv_iload hx hb dX3_rebuild_83 (lv_at hl 0 rfl) ?_
    obtain ⟨b12, h⟩ := h
    refine va_iald hx hb hK.1 hP 2 0 rfl rfl b12 dX3_rebuild_85 ?_
    refine lv_aload_n hx hb dX3_rebuild_86 rfl (lv_at hl 1 rfl) ?_
    refine va_get (D := D) (ci := 3) (v := .ref a_Re) (C := RX3) (T := TX3) (N := 3) hx hb hts in_X3_rebuild_X3 hown hK.1 hP 0 rfl rfl 1 (by decide) (hts (.fieldLink RX3 15 "TreeMachines$Machine" "reachable" "[I") (by decide +kernel)) (fun _ h9 => h9) rfl dX3_rebuild_87 ?_
    refine lv_iload_n hx hb dX3_rebuild_90 rfl (lv_at hl 2 rfl) ?_
    refine lv_iload hx hb dX3_rebuild_91 (lv_at hl 5 rfl) ?_
    refine lv_iload hx hb dX3_rebuild_93 (lv_at hl 5 rfl) ?_
    refine lv_iconst (v := 1) hx hb dX3_rebuild_95 (by decide) ?_
    refine lv_isub (x := x4) (y := 1) hx hb dX3_rebuild_96 ?_
    refine lv_iand hx hb dX3_rebuild_97 ?_
    refine lv_iload hx hb dX3_rebuild_98 (lv_at hl 6 rfl) ?_
    refine tm_rS (As := [.int x1, .int (x4 &&& (x4 - 1)), .int x5]) (rest := [.ref a_Re, .int (v_Ta (x6_10).toNatClampNeg), .int r11, .ref a_Re]) (wc := []) ⟨hx, hb, hml, hown, hts⟩ (cn_X3_cell l D cI cB x1 (x4 &&& (x4 - 1)) x5 _ h) (va_cwS 3 hts gX3_rebuild_X3_cell rfl rfl rfl (by decide +kernel) ⟨Nat.le_of_ble_eq_true rfl, Nat.le_of_ble_eq_true rfl⟩) hK (hP.sub [] rfl) rfl hl.1 rfl (Nat.le_of_ble_eq_true rfl) ⟨Nat.zero_le _, Nat.zero_le _⟩ dX3_rebuild_100 (fun r13 h => ?_)
    obtain ⟨b14, h⟩ := h
    refine va_iald hx hb hK.1 hP 1 0 rfl rfl b14 dX3_rebuild_103 ?_
    refine lv_ior hx hb dX3_rebuild_104 ?_
    refine lv_aload_n hx hb dX3_rebuild_105 rfl (lv_at hl 1 rfl) ?_
    refine va_get (D := D) (ci := 3) (v := .ref a_Re) (C := RX3) (T := TX3) (N := 3) hx hb hts in_X3_rebuild_X3 hown hK.1 hP 0 rfl rfl 1 (by decide) (hts (.fieldLink RX3 15 "TreeMachines$Machine" "reachable" "[I") (by decide +kernel)) (fun _ h9 => h9) rfl dX3_rebuild_106 ?_
    refine lv_iload_n hx hb dX3_rebuild_109 rfl (lv_at hl 2 rfl) ?_
    refine lv_iload hx hb dX3_rebuild_110 (lv_at hl 5 rfl) ?_
    refine lv_iload hx hb dX3_rebuild_112 (lv_at hl 6 rfl) ?_
    refine lv_iload hx hb dX3_rebuild_114 (lv_at hl 6 rfl) ?_
    refine lv_iconst (v := 1) hx hb dX3_rebuild_116 (by decide) ?_
    refine lv_isub (x := x5) (y := 1) hx hb dX3_rebuild_117 ?_
    refine lv_iand hx hb dX3_rebuild_118 ?_
    refine tm_rS (As := [.int x1, .int x4, .int (x5 &&& (x5 - 1))]) (rest := [.ref a_Re, .int ((v_Ta (x6_10).toNatClampNeg) ||| (v_Re (r13).toNatClampNeg)), .int r11, .ref a_Re]) (wc := []) ⟨hx, hb, hml, hown, hts⟩ (cn_X3_cell l D cI cB x1 x4 (x5 &&& (x5 - 1)) _ h) (va_cwS 3 hts gX3_rebuild_X3_cell rfl rfl rfl (by decide +kernel) ⟨Nat.le_of_ble_eq_true rfl, Nat.le_of_ble_eq_true rfl⟩) hK (hP.sub [] rfl) rfl hl.1 rfl (Nat.le_of_ble_eq_true rfl) ⟨Nat.zero_le _, Nat.zero_le _⟩ dX3_rebuild_119 (fun r15 h => ?_)
    obtain ⟨b16, h⟩ := h
    refine va_iald hx hb hK.1 hP 1 0 rfl rfl b16 dX3_rebuild_122 ?_
    refine lv_ior hx hb dX3_rebuild_123 ?_
    obtain ⟨b17, h⟩ := h
    refine va_iast hx hb hK.1 hP hD hS 1 0 rfl rfl b17 dX3_rebuild_124 (fun H locs hP hD hS => ?_)
    obtain ⟨f_18, ef_18⟩ : ∃ y : Nat → Int32, y = upd v_Re (r11).toNatClampNeg (((v_Ta (x6_10).toNatClampNeg) ||| (v_Re (r13).toNatClampNeg)) ||| (v_Re (r15).toNatClampNeg)) := ⟨_, rfl⟩
    have h := h f_18 ef_18
    have hP : va_P D vwCl [(a_o, .inr (3, [.ref a_Ta, .ref a_Re, .int v_Go])), (a_Re, .inl (cI, 2048, .inl f_18)), (a_Ta, .inl (cI, 128, .inl v_Ta))] H := by rw [ef_18]; exact hP
    have hD : va_D A [(a_o, .inr (3, [.ref a_Ta, .ref a_Re, .int v_Go])), (a_Re, .inl (cI, 2048, .inl f_18)), (a_Ta, .inl (cI, 128, .inl v_Ta))] := by rw [ef_18]; exact hD
    obtain ⟨x5_19, ex5_19⟩ : ∃ y : Int32, y = x5 + 1 := ⟨_, rfl⟩
    have h := h x5_19 ex5_19
    refine lv_iinc (v := x5_19) (lv' := [(5, .int x5_19), (6, .int x6_10), (0, .ref a_o), (1, .int x1), (2, .int x2), (3, .int x3), (4, .int x4)]) hx hb dX3_rebuild_125 hl (k := 6) rfl (by rw [ex5_19]; rfl) (by decide) rfl (fun ls hl => ?_)
    refine lv_goto (tgt := 40) hx hb dX3_rebuild_128 (by decide) ?_
    exact k40 f_18 x1 x2 x3 x4 x5_19 h H locs hP hD hS ls (lv_sub hl [2, 3, 4, 5, 6, 0] rfl)
def lp_X3_rebuild_40 (v_Go : Int32) (v_Ta : Nat → Int32) (K31 : (Nat → Int32) → Int32 → Int32 → Int32 → Int32 → Prop) (Q : (Nat → Int32) → Prop) : Nat → (Nat → Int32) → Int32 → Int32 → Int32 → Int32 → Int32 → Prop
  | 0, _, _, _, _, _, _ => False
  | n + 1, v_Re, x1, x2, x3, x4, x5 => wp_X3_rebuild_40 v_Go v_Ta K31 (lp_X3_rebuild_40 v_Go v_Ta K31 Q n) Q v_Re x1 x2 x3 x4 x5
set_option maxRecDepth 100000 in
theorem lt_X3_rebuild_40 {p : Program} {l : Launch} {e : Env} {s : State} {m : MethodId} {args : Array Value} {below : List Frame} {meth : Method} {c : Code} {D : va_G} {cI cB : ClassId} {a_o a_Ta a_Re : Nat} {A : Nat → Prop} {tb : Nat} {v_Go : Int32} {v_Ta : Nat → Int32} {Q : (Nat → Int32) → Prop} (C : tm_cx p s m args meth c cX3_rebuild 7 none RX3 wsX3_rebuild) (hK : tm_kx D cI cB s) (hA : ∀ q : Nat, s.heap.size ≤ q → A q) (hT : tm_tb A tb s s.heap) {K31 : (Nat → Int32) → Int32 → Int32 → Int32 → Int32 → Prop} (k31 : ∀ (v_Re : Nat → Int32) (x1 : Int32) (x2 : Int32) (x3 : Int32) (x4 : Int32), K31 v_Re x1 x2 x3 x4 → ∀ (H : Heap) (locs : List Loc), va_P D vwCl [(a_o, .inr (3, [.ref a_Ta, .ref a_Re, .int v_Go])), (a_Re, .inl (cI, 2048, .inl v_Re)), (a_Ta, .inl (cI, 128, .inl v_Ta))] H → va_D A [(a_o, .inr (3, [.ref a_Ta, .ref a_Re, .int v_Go])), (a_Re, .inl (cI, 2048, .inl v_Re)), (a_Ta, .inl (cI, 128, .inl v_Ta))] → va_S A s.heap H locs → ∀ (ls : Array Slot), lv_has ls 7 [(0, .ref a_o), (1, .int x1), (2, .int x2), (3, .int x3), (4, .int x4)] → W p l e (headSpec wsX3_rebuild rm_X3_rebuild).room s m args below meth c H locs 0 0 (MQ below (va_Qv (fun (u : (Nat → Int32)) => Q u) (tm_B D (fun (u : (Nat → Int32)) => [(a_o, .inr (3, [.ref a_Ta, .ref a_Re, .int v_Go])), (a_Re, .inl (cI, 2048, .inl u)), (a_Ta, .inl (cI, 128, .inl v_Ta))]) A) A) args s 0 0 A) (F0 m 31 ls [])) : ∀ (n : Nat) (v_Re : Nat → Int32) (x1 : Int32) (x2 : Int32) (x3 : Int32) (x4 : Int32) (x5 : Int32), lp_X3_rebuild_40 v_Go v_Ta K31 Q n v_Re x1 x2 x3 x4 x5 → ∀ (H : Heap) (locs : List Loc), va_P D vwCl [(a_o, .inr (3, [.ref a_Ta, .ref a_Re, .int v_Go])), (a_Re, .inl (cI, 2048, .inl v_Re)), (a_Ta, .inl (cI, 128, .inl v_Ta))] H → va_D A [(a_o, .inr (3, [.ref a_Ta, .ref a_Re, .int v_Go])), (a_Re, .inl (cI, 2048, .inl v_Re)), (a_Ta, .inl (cI, 128, .inl v_Ta))] → va_S A s.heap H locs → ∀ (ls : Array Slot), lv_has ls 7 [(0, .ref a_o), (1, .int x1), (2, .int x2), (3, .int x3), (4, .int x4), (5, .int x5)] → W p l e (headSpec wsX3_rebuild rm_X3_rebuild).room s m args below meth c H locs 0 0 (MQ below (va_Qv (fun (u : (Nat → Int32)) => Q u) (tm_B D (fun (u : (Nat → Int32)) => [(a_o, .inr (3, [.ref a_Ta, .ref a_Re, .int v_Go])), (a_Re, .inl (cI, 2048, .inl u)), (a_Ta, .inl (cI, 128, .inl v_Ta))]) A) A) args s 0 0 A) (F0 m 40 ls []) := by
  intro n
  induction n with
  | zero => intro _ _ _ _ _ _ h; exact False.elim h
  | succ n ih => intro v_Re x1 x2 x3 x4 x5 h; exact bk_X3_rebuild_40 C hK hA hT k31 ih v_Re x1 x2 x3 x4 x5 h
def wp_X3_rebuild_31 (v_Go : Int32) (v_Ta : Nat → Int32) (K31 : (Nat → Int32) → Int32 → Int32 → Int32 → Int32 → Prop) (Q : (Nat → Int32) → Prop) (v_Re : Nat → Int32) (x1 : Int32) (x2 : Int32) (x3 : Int32) (x4 : Int32) : Prop :=
  ((x2 < x4 → Q v_Re) ∧ (¬ (x2 < x4) → (∃ n : Nat, lp_X3_rebuild_40 v_Go v_Ta K31 Q n v_Re x1 x2 x3 x4 1)))
set_option maxRecDepth 100000 in
set_option maxHeartbeats 4000000 in
theorem bk_X3_rebuild_31 {p : Program} {l : Launch} {e : Env} {s : State} {m : MethodId} {args : Array Value} {below : List Frame} {meth : Method} {c : Code} {D : va_G} {cI cB : ClassId} {a_o a_Ta a_Re : Nat} {A : Nat → Prop} {tb : Nat} {v_Go : Int32} {v_Ta : Nat → Int32} {Q : (Nat → Int32) → Prop} (C : tm_cx p s m args meth c cX3_rebuild 7 none RX3 wsX3_rebuild) (hK : tm_kx D cI cB s) (hA : ∀ q : Nat, s.heap.size ≤ q → A q) (hT : tm_tb A tb s s.heap) {K31 : (Nat → Int32) → Int32 → Int32 → Int32 → Int32 → Prop} (k31 : ∀ (v_Re : Nat → Int32) (x1 : Int32) (x2 : Int32) (x3 : Int32) (x4 : Int32), K31 v_Re x1 x2 x3 x4 → ∀ (H : Heap) (locs : List Loc), va_P D vwCl [(a_o, .inr (3, [.ref a_Ta, .ref a_Re, .int v_Go])), (a_Re, .inl (cI, 2048, .inl v_Re)), (a_Ta, .inl (cI, 128, .inl v_Ta))] H → va_D A [(a_o, .inr (3, [.ref a_Ta, .ref a_Re, .int v_Go])), (a_Re, .inl (cI, 2048, .inl v_Re)), (a_Ta, .inl (cI, 128, .inl v_Ta))] → va_S A s.heap H locs → ∀ (ls : Array Slot), lv_has ls 7 [(0, .ref a_o), (1, .int x1), (2, .int x2), (3, .int x3), (4, .int x4)] → W p l e (headSpec wsX3_rebuild rm_X3_rebuild).room s m args below meth c H locs 0 0 (MQ below (va_Qv (fun (u : (Nat → Int32)) => Q u) (tm_B D (fun (u : (Nat → Int32)) => [(a_o, .inr (3, [.ref a_Ta, .ref a_Re, .int v_Go])), (a_Re, .inl (cI, 2048, .inl u)), (a_Ta, .inl (cI, 128, .inl v_Ta))]) A) A) args s 0 0 A) (F0 m 31 ls [])) (v_Re : Nat → Int32) (x1 : Int32) (x2 : Int32) (x3 : Int32) (x4 : Int32) (h : wp_X3_rebuild_31 v_Go v_Ta K31 Q v_Re x1 x2 x3 x4) : ∀ (H : Heap) (locs : List Loc), va_P D vwCl [(a_o, .inr (3, [.ref a_Ta, .ref a_Re, .int v_Go])), (a_Re, .inl (cI, 2048, .inl v_Re)), (a_Ta, .inl (cI, 128, .inl v_Ta))] H → va_D A [(a_o, .inr (3, [.ref a_Ta, .ref a_Re, .int v_Go])), (a_Re, .inl (cI, 2048, .inl v_Re)), (a_Ta, .inl (cI, 128, .inl v_Ta))] → va_S A s.heap H locs → ∀ (ls : Array Slot), lv_has ls 7 [(0, .ref a_o), (1, .int x1), (2, .int x2), (3, .int x3), (4, .int x4)] → W p l e (headSpec wsX3_rebuild rm_X3_rebuild).room s m args below meth c H locs 0 0 (MQ below (va_Qv (fun (u : (Nat → Int32)) => Q u) (tm_B D (fun (u : (Nat → Int32)) => [(a_o, .inr (3, [.ref a_Ta, .ref a_Re, .int v_Go])), (a_Re, .inl (cI, 2048, .inl u)), (a_Ta, .inl (cI, 128, .inl v_Ta))]) A) A) args s 0 0 A) (F0 m 31 ls []) := by
  obtain ⟨hx, hb, hr, hml, hown, hts, hlocks⟩ := id C
  intro H locs hP hD hS ls hl
  unfold wp_X3_rebuild_31 at h
  refine lv_iload hx hb dX3_rebuild_31 (lv_at hl 4 rfl) ?_
  refine lv_iload_n hx hb dX3_rebuild_33 rfl (lv_at hl 2 rfl) ?_
  refine lv_icmp_gt (tgt := 137) hx hb dX3_rebuild_34 (by decide) (fun c5 => ?_) (fun c5 => ?_)
  · have h := h.1 c5
    exact W.vret hx hb hr (fun t ht hW => ⟨⟨v_Re, rfl, h, by rw [ht]; exact hP, hD⟩, hS.F ht⟩) hS.2.2 dX3_rebuild_137
  · have h := h.2 c5
    refine lv_iconst (v := 1) hx hb dX3_rebuild_37 (by decide) ?_
    refine lv_istore (lv' := [(5, .int 1), (0, .ref a_o), (1, .int x1), (2, .int x2), (3, .int x3), (4, .int x4)]) hx hb dX3_rebuild_38 hl (by decide) rfl (fun ls hl => ?_)
    obtain ⟨n, h⟩ := h
    exact lt_X3_rebuild_40 C hK hA hT k31 n v_Re x1 x2 x3 x4 1 h H locs hP hD hS ls (lv_sub hl [1, 2, 3, 4, 5, 0] rfl)
def lp_X3_rebuild_31 (v_Go : Int32) (v_Ta : Nat → Int32) (Q : (Nat → Int32) → Prop) : Nat → (Nat → Int32) → Int32 → Int32 → Int32 → Int32 → Prop
  | 0, _, _, _, _, _ => False
  | n + 1, v_Re, x1, x2, x3, x4 => wp_X3_rebuild_31 v_Go v_Ta (lp_X3_rebuild_31 v_Go v_Ta Q n) Q v_Re x1 x2 x3 x4
set_option maxRecDepth 100000 in
theorem lt_X3_rebuild_31 {p : Program} {l : Launch} {e : Env} {s : State} {m : MethodId} {args : Array Value} {below : List Frame} {meth : Method} {c : Code} {D : va_G} {cI cB : ClassId} {a_o a_Ta a_Re : Nat} {A : Nat → Prop} {tb : Nat} {v_Go : Int32} {v_Ta : Nat → Int32} {Q : (Nat → Int32) → Prop} (C : tm_cx p s m args meth c cX3_rebuild 7 none RX3 wsX3_rebuild) (hK : tm_kx D cI cB s) (hA : ∀ q : Nat, s.heap.size ≤ q → A q) (hT : tm_tb A tb s s.heap) : ∀ (n : Nat) (v_Re : Nat → Int32) (x1 : Int32) (x2 : Int32) (x3 : Int32) (x4 : Int32), lp_X3_rebuild_31 v_Go v_Ta Q n v_Re x1 x2 x3 x4 → ∀ (H : Heap) (locs : List Loc), va_P D vwCl [(a_o, .inr (3, [.ref a_Ta, .ref a_Re, .int v_Go])), (a_Re, .inl (cI, 2048, .inl v_Re)), (a_Ta, .inl (cI, 128, .inl v_Ta))] H → va_D A [(a_o, .inr (3, [.ref a_Ta, .ref a_Re, .int v_Go])), (a_Re, .inl (cI, 2048, .inl v_Re)), (a_Ta, .inl (cI, 128, .inl v_Ta))] → va_S A s.heap H locs → ∀ (ls : Array Slot), lv_has ls 7 [(0, .ref a_o), (1, .int x1), (2, .int x2), (3, .int x3), (4, .int x4)] → W p l e (headSpec wsX3_rebuild rm_X3_rebuild).room s m args below meth c H locs 0 0 (MQ below (va_Qv (fun (u : (Nat → Int32)) => Q u) (tm_B D (fun (u : (Nat → Int32)) => [(a_o, .inr (3, [.ref a_Ta, .ref a_Re, .int v_Go])), (a_Re, .inl (cI, 2048, .inl u)), (a_Ta, .inl (cI, 128, .inl v_Ta))]) A) A) args s 0 0 A) (F0 m 31 ls []) := by
  intro n
  induction n with
  | zero => intro _ _ _ _ _ h; exact False.elim h
  | succ n ih => intro v_Re x1 x2 x3 x4 h; exact bk_X3_rebuild_31 C hK hA hT ih v_Re x1 x2 x3 x4 h
def wp_X3_rebuild_13 (v_Go : Int32) (v_Ta : Nat → Int32) (Q : (Nat → Int32) → Prop) (v_Re : Nat → Int32) (z0 : Int32) (x1 : Int32) : Prop :=
  wp_X5_hasRight x1 (fun r3 => ((r3 = 0 → (∃ n : Nat, lp_X3_rebuild_31 v_Go v_Ta Q n v_Re x1 z0 1 1)) ∧ (¬ (r3 = 0) → (∃ n : Nat, lp_X3_rebuild_31 v_Go v_Ta Q n v_Re x1 z0 15 1))))
set_option maxRecDepth 100000 in
set_option maxHeartbeats 4000000 in
theorem bk_X3_rebuild_13 {p : Program} {l : Launch} {e : Env} {s : State} {m : MethodId} {args : Array Value} {below : List Frame} {meth : Method} {c : Code} {D : va_G} {cI cB : ClassId} {a_o a_Ta a_Re : Nat} {A : Nat → Prop} {tb : Nat} {v_Go : Int32} {v_Ta : Nat → Int32} {Q : (Nat → Int32) → Prop} (C : tm_cx p s m args meth c cX3_rebuild 7 none RX3 wsX3_rebuild) (hK : tm_kx D cI cB s) (hA : ∀ q : Nat, s.heap.size ≤ q → A q) (hT : tm_tb A tb s s.heap) (v_Re : Nat → Int32) (z0 : Int32) (x1 : Int32) (h : wp_X3_rebuild_13 v_Go v_Ta Q v_Re z0 x1) : ∀ (H : Heap) (locs : List Loc), va_P D vwCl [(a_o, .inr (3, [.ref a_Ta, .ref a_Re, .int v_Go])), (a_Re, .inl (cI, 2048, .inl v_Re)), (a_Ta, .inl (cI, 128, .inl v_Ta))] H → va_D A [(a_o, .inr (3, [.ref a_Ta, .ref a_Re, .int v_Go])), (a_Re, .inl (cI, 2048, .inl v_Re)), (a_Ta, .inl (cI, 128, .inl v_Ta))] → va_S A s.heap H locs → ∀ (ls : Array Slot), lv_has ls 7 [(0, .ref a_o), (1, .int x1)] → W p l e (headSpec wsX3_rebuild rm_X3_rebuild).room s m args below meth c H locs 0 0 (MQ below (va_Qv (fun (u : (Nat → Int32)) => Q u) (tm_B D (fun (u : (Nat → Int32)) => [(a_o, .inr (3, [.ref a_Ta, .ref a_Re, .int v_Go])), (a_Re, .inl (cI, 2048, .inl u)), (a_Ta, .inl (cI, 128, .inl v_Ta))]) A) A) args s 0 0 A) (F0 m 13 ls [.int z0]) := by
  obtain ⟨hx, hb, hr, hml, hown, hts, hlocks⟩ := id C
  intro H locs hP hD hS ls hl
  unfold wp_X3_rebuild_13 at h
  refine lv_istore_n (lv' := [(2, .int z0), (0, .ref a_o), (1, .int x1)]) hx hb dX3_rebuild_13 rfl hl (by decide) rfl (fun ls hl => ?_)
  refine lv_iload_n hx hb dX3_rebuild_14 rfl (lv_at hl 2 rfl) ?_
  refine tm_rSN (As := [.int x1]) (rest := []) (wc := []) ⟨hx, hb, hml, hown, hts⟩ (cn_X5_hasRight l D cI cB x1 _ h) ⟨va_cnB 1 hts gX3_rebuild_X5_hasRight_n36 rfl rfl rfl hK.2.2.2.2.2.2.2.2.1 (hts (.initialized RX5) (by decide +kernel)) (by decide +kernel) ⟨Nat.le_of_ble_eq_true rfl, Nat.le_of_ble_eq_true rfl⟩, hts (.static yX5_hasRight) (by decide +kernel), trivial⟩ hK (hP.sub [] rfl) rfl hl.1 rfl (Nat.le_of_ble_eq_true rfl) ⟨Nat.zero_le _, Nat.zero_le _⟩ dX3_rebuild_15 (fun r3 h => ?_)
  obtain ⟨br3, h⟩ := h
  refine lv_if_eq (tgt := 26) hx hb dX3_rebuild_18 (by decide) (fun c4 => ?_) (fun c4 => ?_)
  · have h := h.1 c4
    refine lv_iconst (v := 1) hx hb dX3_rebuild_26 (by decide) ?_
    refine lv_istore_n (lv' := [(3, .int 1), (2, .int z0), (0, .ref a_o), (1, .int x1)]) hx hb dX3_rebuild_27 rfl hl (by decide) rfl (fun ls hl => ?_)
    refine lv_iconst (v := 1) hx hb dX3_rebuild_28 (by decide) ?_
    refine lv_istore (lv' := [(4, .int 1), (3, .int 1), (2, .int z0), (0, .ref a_o), (1, .int x1)]) hx hb dX3_rebuild_29 hl (by decide) rfl (fun ls hl => ?_)
    obtain ⟨n, h⟩ := h
    exact lt_X3_rebuild_31 C hK hA hT n v_Re x1 z0 1 1 h H locs hP hD hS ls (lv_sub hl [3, 4, 2, 1, 0] rfl)
  · have h := h.2 c4
    refine lv_bipush (v := 15) hx hb dX3_rebuild_21 (by decide) ?_
    refine lv_goto (tgt := 27) hx hb dX3_rebuild_23 (by decide) ?_
    refine lv_istore_n (lv' := [(3, .int 15), (2, .int z0), (0, .ref a_o), (1, .int x1)]) hx hb dX3_rebuild_27 rfl hl (by decide) rfl (fun ls hl => ?_)
    refine lv_iconst (v := 1) hx hb dX3_rebuild_28 (by decide) ?_
    refine lv_istore (lv' := [(4, .int 1), (3, .int 15), (2, .int z0), (0, .ref a_o), (1, .int x1)]) hx hb dX3_rebuild_29 hl (by decide) rfl (fun ls hl => ?_)
    obtain ⟨n, h⟩ := h
    exact lt_X3_rebuild_31 C hK hA hT n v_Re x1 z0 15 1 h H locs hP hD hS ls (lv_sub hl [3, 4, 2, 1, 0] rfl)
def wp_X3_rebuild_in (v_Go : Int32) (v_Ta : Nat → Int32) (Q : (Nat → Int32) → Prop) (v_Re : Nat → Int32) (x1 : Int32) : Prop :=
  wp_X5_hasLeft x1 (fun r1 => ((r1 = 0 → wp_X3_rebuild_13 v_Go v_Ta Q v_Re 1 x1) ∧ (¬ (r1 = 0) → wp_X3_rebuild_13 v_Go v_Ta Q v_Re 15 x1)))
set_option maxRecDepth 100000 in
set_option maxHeartbeats 4000000 in
theorem bk_X3_rebuild_in {p : Program} {l : Launch} {e : Env} {s : State} {m : MethodId} {args : Array Value} {below : List Frame} {meth : Method} {c : Code} {D : va_G} {cI cB : ClassId} {a_o a_Ta a_Re : Nat} {A : Nat → Prop} {tb : Nat} {v_Go : Int32} {v_Ta : Nat → Int32} {Q : (Nat → Int32) → Prop} (C : tm_cx p s m args meth c cX3_rebuild 7 none RX3 wsX3_rebuild) (hK : tm_kx D cI cB s) (hA : ∀ q : Nat, s.heap.size ≤ q → A q) (hT : tm_tb A tb s s.heap) (v_Re : Nat → Int32) (x1 : Int32) (h : wp_X3_rebuild_in v_Go v_Ta Q v_Re x1) : ∀ (H : Heap) (locs : List Loc), va_P D vwCl [(a_o, .inr (3, [.ref a_Ta, .ref a_Re, .int v_Go])), (a_Re, .inl (cI, 2048, .inl v_Re)), (a_Ta, .inl (cI, 128, .inl v_Ta))] H → va_D A [(a_o, .inr (3, [.ref a_Ta, .ref a_Re, .int v_Go])), (a_Re, .inl (cI, 2048, .inl v_Re)), (a_Ta, .inl (cI, 128, .inl v_Ta))] → va_S A s.heap H locs → ∀ (ls : Array Slot), lv_has ls 7 [(0, .ref a_o), (1, .int x1)] → W p l e (headSpec wsX3_rebuild rm_X3_rebuild).room s m args below meth c H locs 0 0 (MQ below (va_Qv (fun (u : (Nat → Int32)) => Q u) (tm_B D (fun (u : (Nat → Int32)) => [(a_o, .inr (3, [.ref a_Ta, .ref a_Re, .int v_Go])), (a_Re, .inl (cI, 2048, .inl u)), (a_Ta, .inl (cI, 128, .inl v_Ta))]) A) A) args s 0 0 A) (F0 m 0 ls []) := by
  obtain ⟨hx, hb, hr, hml, hown, hts, hlocks⟩ := id C
  intro H locs hP hD hS ls hl
  unfold wp_X3_rebuild_in at h
  refine lv_iload_n hx hb dX3_rebuild_0 rfl (lv_at hl 1 rfl) ?_
  refine tm_rSN (As := [.int x1]) (rest := []) (wc := []) ⟨hx, hb, hml, hown, hts⟩ (cn_X5_hasLeft l D cI cB x1 _ h) ⟨va_cnB 1 hts gX3_rebuild_X5_hasLeft_n32 rfl rfl rfl hK.2.2.2.2.2.2.2.1 (hts (.initialized RX5) (by decide +kernel)) (by decide +kernel) ⟨Nat.le_of_ble_eq_true rfl, Nat.le_of_ble_eq_true rfl⟩, hts (.static yX5_hasLeft) (by decide +kernel), trivial⟩ hK (hP.sub [] rfl) rfl hl.1 rfl (Nat.le_of_ble_eq_true rfl) ⟨Nat.zero_le _, Nat.zero_le _⟩ dX3_rebuild_1 (fun r1 h => ?_)
  obtain ⟨br1, h⟩ := h
  refine lv_if_eq (tgt := 12) hx hb dX3_rebuild_4 (by decide) (fun c2 => ?_) (fun c2 => ?_)
  · have h := h.1 c2
    refine lv_iconst (v := 1) hx hb dX3_rebuild_12 (by decide) ?_
    exact bk_X3_rebuild_13 C hK hA hT v_Re 1 x1 h H locs hP hD hS ls (lv_sub hl [0, 1] rfl)
  · have h := h.2 c2
    refine lv_bipush (v := 15) hx hb dX3_rebuild_7 (by decide) ?_
    refine lv_goto (tgt := 13) hx hb dX3_rebuild_9 (by decide) ?_
    exact bk_X3_rebuild_13 C hK hA hT v_Re 15 x1 h H locs hP hD hS ls (lv_sub hl [0, 1] rfl)
abbrev wp_X3_rebuild (v_Go : Int32) (v_Re : Nat → Int32) (v_Ta : Nat → Int32) (x1 : Int32) (Q : (Nat → Int32) → Prop) : Prop := wp_X3_rebuild_in v_Go v_Ta Q v_Re x1
set_option maxRecDepth 100000 in
set_option maxHeartbeats 4000000 in
theorem cn_X3_rebuild (l : Launch) (D : va_G) (cI cB : ClassId) (a_o a_Ta a_Re : Nat) (v_Go : Int32) (v_Re : Nat → Int32) (v_Ta : Nat → Int32) (x1 : Int32) (tb : Nat) (sz : Nat) (Q : (Nat → Int32) → Prop) (h : wp_X3_rebuild v_Go v_Re v_Ta x1 Q) : Met l yX3_rebuild wsX3_rebuild rm_X3_rebuild (tm_Pt D cI cB [.ref a_o, .int x1] [(a_o, .inr (3, [.ref a_Ta, .ref a_Re, .int v_Go])), (a_Re, .inl (cI, 2048, .inl v_Re)), (a_Ta, .inl (cI, 128, .inl v_Ta))] sz tb) (va_Qv (fun (u : (Nat → Int32)) => Q u) (tm_B D (fun (u : (Nat → Int32)) => [(a_o, .inr (3, [.ref a_Ta, .ref a_Re, .int v_Go])), (a_Re, .inl (cI, 2048, .inl u)), (a_Ta, .inl (cI, 128, .inl v_Ta))]) (va_A [(a_o, .inr (3, [.ref a_Ta, .ref a_Re, .int v_Go])), (a_Re, .inl (cI, 2048, .inl v_Re)), (a_Ta, .inl (cI, 128, .inl v_Ta))] sz)) (va_A [(a_o, .inr (3, [.ref a_Ta, .ref a_Re, .int v_Go])), (a_Re, .inl (cI, 2048, .inl v_Re)), (a_Ta, .inl (cI, 128, .inl v_Ta))] sz)) 0 0 (va_A [(a_o, .inr (3, [.ref a_Ta, .ref a_Re, .int v_Go])), (a_Re, .inl (cI, 2048, .inl v_Re)), (a_Ta, .inl (cI, 128, .inl v_Ta))] sz) := by
  refine Met.ofW (cc := cX3_rebuild) (maxL := 7) (ret := none) (by decide) rfl ?_
  intro p e s m args below meth c s₁ B hml hv
  obtain ⟨rfl, hsz, hP, hK, hD0, hT⟩ := hv
  subst hsz
  have hD := hD0.self (sz := s.heap.size)
  generalize hAe : va_A [(a_o, .inr (3, [.ref a_Ta, .ref a_Re, .int v_Go])), (a_Re, .inl (cI, 2048, .inl v_Re)), (a_Ta, .inl (cI, 128, .inl v_Ta))] s.heap.size = A at hD hT ⊢
  have hA : ∀ q : Nat, s.heap.size ≤ q → A q := fun q h => by rw [← hAe]; exact Or.inr h
  have hl := lv_entry ([.ref a_o, .int x1]) (n := 7) (Nat.le_of_ble_eq_true rfl)
  rw [lg_entry_eq]
  generalize (lg_sl ([.ref a_o, .int x1]) ++ List.replicate (7 - (lg_sl ([.ref a_o, .int x1])).length) Slot.unset).toArray = ls at hl ⊢
  have hl : lv_has ls 7 [(0, .ref a_o), (1, .int x1)] := hl
  exact bk_X3_rebuild_in ⟨B.exec, B.bytes, B.returns, hml, findClass_of_methodNamed B.named, atoms_spec (ws := wsX3_rebuild) B.pre, B.notSynchronized⟩ hK hA hT v_Re x1 h s.heap [] hP hD va_S.rf ls hl
/-! X3_turnRule (II)V -/
theorem in_X3_turnRule_X3 : ∀ w ∈ u_ws RX3 TX3 3, w ∈ wsX3_turnRule := by decide +kernel
abbrev rm_X3_turnRule : Room := { frames := 2, cells := 0, slots := 0, locals := 48 }
def wp_X3_turnRule_in (v_Go : Int32) (Q : (Nat → Int32) → (Nat → Int32) → Prop) (v_Re : Nat → Int32) (v_Ta : Nat → Int32) (x1 : Int32) (x2 : Int32) : Prop :=
  vp_in x1 128 ∧ vp_in x1 128 ∧ ∀ f_3 : Nat → Int32, f_3 = upd v_Ta (x1).toNatClampNeg ((v_Ta (x1).toNatClampNeg) ^^^ ((1 : Int32) <<< (x2 &&& 31))) → wp_X3_rebuild v_Go v_Re f_3 (x1 / 16) (fun u4 => Q u4 f_3)
set_option maxRecDepth 100000 in
set_option maxHeartbeats 4000000 in
theorem bk_X3_turnRule_in {p : Program} {l : Launch} {e : Env} {s : State} {m : MethodId} {args : Array Value} {below : List Frame} {meth : Method} {c : Code} {D : va_G} {cI cB : ClassId} {a_o a_Ta a_Re : Nat} {A : Nat → Prop} {tb : Nat} {v_Go : Int32} {Q : (Nat → Int32) → (Nat → Int32) → Prop} (C : tm_cx p s m args meth c cX3_turnRule 3 none RX3 wsX3_turnRule) (hK : tm_kx D cI cB s) (hA : ∀ q : Nat, s.heap.size ≤ q → A q) (hT : tm_tb A tb s s.heap) (v_Re : Nat → Int32) (v_Ta : Nat → Int32) (x1 : Int32) (x2 : Int32) (h : wp_X3_turnRule_in v_Go Q v_Re v_Ta x1 x2) : ∀ (H : Heap) (locs : List Loc), va_P D vwCl [(a_o, .inr (3, [.ref a_Ta, .ref a_Re, .int v_Go])), (a_Re, .inl (cI, 2048, .inl v_Re)), (a_Ta, .inl (cI, 128, .inl v_Ta))] H → va_D A [(a_o, .inr (3, [.ref a_Ta, .ref a_Re, .int v_Go])), (a_Re, .inl (cI, 2048, .inl v_Re)), (a_Ta, .inl (cI, 128, .inl v_Ta))] → va_S A s.heap H locs → ∀ (ls : Array Slot), lv_has ls 3 [(0, .ref a_o), (1, .int x1), (2, .int x2)] → W p l e (headSpec wsX3_turnRule rm_X3_turnRule).room s m args below meth c H locs 0 0 (MQ below (va_Qv (fun (u : (Nat → Int32) × (Nat → Int32)) => Q u.1 u.2) (tm_B D (fun (u : (Nat → Int32) × (Nat → Int32)) => [(a_o, .inr (3, [.ref a_Ta, .ref a_Re, .int v_Go])), (a_Re, .inl (cI, 2048, .inl u.1)), (a_Ta, .inl (cI, 128, .inl u.2))]) A) A) args s 0 0 A) (F0 m 0 ls []) := by
  obtain ⟨hx, hb, hr, hml, hown, hts, hlocks⟩ := id C
  intro H locs hP hD hS ls hl
  unfold wp_X3_turnRule_in at h
  refine lv_aload_n hx hb dX3_turnRule_0 rfl (lv_at hl 0 rfl) ?_
  refine va_get (D := D) (ci := 3) (v := .ref a_Ta) (C := RX3) (T := TX3) (N := 3) hx hb hts in_X3_turnRule_X3 hown hK.1 hP 0 rfl rfl 0 (by decide) (hts (.fieldLink RX3 9 "TreeMachines$Machine" "targets" "[I") (by decide +kernel)) (fun _ h9 => h9) rfl dX3_turnRule_1 ?_
  refine lv_iload_n hx hb dX3_turnRule_4 rfl (lv_at hl 1 rfl) ?_
  refine lv_dup2_11 hx hb dX3_turnRule_5 rfl rfl ?_
  obtain ⟨b1, h⟩ := h
  refine va_iald hx hb hK.1 hP 2 0 rfl rfl b1 dX3_turnRule_6 ?_
  refine lv_iconst (v := 1) hx hb dX3_turnRule_7 (by decide) ?_
  refine lv_iload_n hx hb dX3_turnRule_8 rfl (lv_at hl 2 rfl) ?_
  refine lv_ishl (x := 1) (y := x2) hx hb dX3_turnRule_9 ?_
  refine lv_ixor hx hb dX3_turnRule_10 ?_
  obtain ⟨b2, h⟩ := h
  refine va_iast hx hb hK.1 hP hD hS 2 0 rfl rfl b2 dX3_turnRule_11 (fun H locs hP hD hS => ?_)
  obtain ⟨f_3, ef_3⟩ : ∃ y : Nat → Int32, y = upd v_Ta (x1).toNatClampNeg ((v_Ta (x1).toNatClampNeg) ^^^ ((1 : Int32) <<< (x2 &&& 31))) := ⟨_, rfl⟩
  have h := h f_3 ef_3
  have hP : va_P D vwCl [(a_o, .inr (3, [.ref a_Ta, .ref a_Re, .int v_Go])), (a_Re, .inl (cI, 2048, .inl v_Re)), (a_Ta, .inl (cI, 128, .inl f_3))] H := by rw [ef_3]; exact hP
  have hD : va_D A [(a_o, .inr (3, [.ref a_Ta, .ref a_Re, .int v_Go])), (a_Re, .inl (cI, 2048, .inl v_Re)), (a_Ta, .inl (cI, 128, .inl f_3))] := by rw [ef_3]; exact hD
  refine lv_aload_n hx hb dX3_turnRule_12 rfl (lv_at hl 0 rfl) ?_
  refine lv_iload_n hx hb dX3_turnRule_13 rfl (lv_at hl 1 rfl) ?_
  refine lv_bipush (v := 16) hx hb dX3_turnRule_14 (by decide) ?_
  refine lv_idiv (x := x1) (y := 16) hx hb dX3_turnRule_16 (by decide) ?_
  refine tm_wv (wr := []) (wf := (fun (u : (Nat → Int32)) => [(a_o, .inr (3, [.ref a_Ta, .ref a_Re, .int v_Go])), (a_Re, .inl (cI, 2048, .inl u)), (a_Ta, .inl (cI, 128, .inl f_3))])) (va_runV (As := [.int (x1 / 16)]) (rest := []) ⟨hx, hb, hml, hown, hts⟩ (cn_X3_rebuild l D cI cB a_o a_Ta a_Re v_Go v_Re f_3 (x1 / 16) tb H.size _ h) (cwV 1 hts gX3_turnRule_X3_rebuild rfl rfl rfl (by decide +kernel) ⟨Nat.le_of_ble_eq_true rfl, Nat.le_of_ble_eq_true rfl⟩) (tm_pVt (As := [.int (x1 / 16)]) hK hP hD [0, 1, 2] (by decide) rfl (va_recv hK.1 hP (ci := 3) (q0 := 0) rfl rfl) hS hA hT) rfl rfl hl.1 rfl (lv_room (Nat.le_of_ble_eq_true rfl)) dX3_turnRule_17 ⟨Nat.zero_le _, Nat.zero_le _⟩) hP hD hS hA [0, 1, 2] [] [0, 1, 2] rfl rfl (by decide) (by decide) (by decide) (fun _ => rfl) (fun u H locs h hP hD hS => ?_)
  obtain ⟨u4, rfl⟩ : ∃ z, z = u := ⟨_, rfl⟩
  have hP : va_P D vwCl [(a_o, .inr (3, [.ref a_Ta, .ref a_Re, .int v_Go])), (a_Re, .inl (cI, 2048, .inl u4)), (a_Ta, .inl (cI, 128, .inl f_3))] H := hP
  have hD : va_D A [(a_o, .inr (3, [.ref a_Ta, .ref a_Re, .int v_Go])), (a_Re, .inl (cI, 2048, .inl u4)), (a_Ta, .inl (cI, 128, .inl f_3))] := hD
  exact W.vret hx hb hr (fun t ht hW => ⟨⟨(u4, f_3), rfl, h, by rw [ht]; exact hP, hD⟩, hS.F ht⟩) hS.2.2 dX3_turnRule_20
abbrev wp_X3_turnRule (v_Go : Int32) (v_Re : Nat → Int32) (v_Ta : Nat → Int32) (x1 : Int32) (x2 : Int32) (Q : (Nat → Int32) → (Nat → Int32) → Prop) : Prop := wp_X3_turnRule_in v_Go Q v_Re v_Ta x1 x2
set_option maxRecDepth 100000 in
set_option maxHeartbeats 4000000 in
theorem cn_X3_turnRule (l : Launch) (D : va_G) (cI cB : ClassId) (a_o a_Ta a_Re : Nat) (v_Go : Int32) (v_Re : Nat → Int32) (v_Ta : Nat → Int32) (x1 : Int32) (x2 : Int32) (tb : Nat) (sz : Nat) (Q : (Nat → Int32) → (Nat → Int32) → Prop) (h : wp_X3_turnRule v_Go v_Re v_Ta x1 x2 Q) : Met l yX3_turnRule wsX3_turnRule rm_X3_turnRule (tm_Pt D cI cB [.ref a_o, .int x1, .int x2] [(a_o, .inr (3, [.ref a_Ta, .ref a_Re, .int v_Go])), (a_Re, .inl (cI, 2048, .inl v_Re)), (a_Ta, .inl (cI, 128, .inl v_Ta))] sz tb) (va_Qv (fun (u : (Nat → Int32) × (Nat → Int32)) => Q u.1 u.2) (tm_B D (fun (u : (Nat → Int32) × (Nat → Int32)) => [(a_o, .inr (3, [.ref a_Ta, .ref a_Re, .int v_Go])), (a_Re, .inl (cI, 2048, .inl u.1)), (a_Ta, .inl (cI, 128, .inl u.2))]) (va_A [(a_o, .inr (3, [.ref a_Ta, .ref a_Re, .int v_Go])), (a_Re, .inl (cI, 2048, .inl v_Re)), (a_Ta, .inl (cI, 128, .inl v_Ta))] sz)) (va_A [(a_o, .inr (3, [.ref a_Ta, .ref a_Re, .int v_Go])), (a_Re, .inl (cI, 2048, .inl v_Re)), (a_Ta, .inl (cI, 128, .inl v_Ta))] sz)) 0 0 (va_A [(a_o, .inr (3, [.ref a_Ta, .ref a_Re, .int v_Go])), (a_Re, .inl (cI, 2048, .inl v_Re)), (a_Ta, .inl (cI, 128, .inl v_Ta))] sz) := by
  refine Met.ofW (cc := cX3_turnRule) (maxL := 3) (ret := none) (by decide) rfl ?_
  intro p e s m args below meth c s₁ B hml hv
  obtain ⟨rfl, hsz, hP, hK, hD0, hT⟩ := hv
  subst hsz
  have hD := hD0.self (sz := s.heap.size)
  generalize hAe : va_A [(a_o, .inr (3, [.ref a_Ta, .ref a_Re, .int v_Go])), (a_Re, .inl (cI, 2048, .inl v_Re)), (a_Ta, .inl (cI, 128, .inl v_Ta))] s.heap.size = A at hD hT ⊢
  have hA : ∀ q : Nat, s.heap.size ≤ q → A q := fun q h => by rw [← hAe]; exact Or.inr h
  have hl := lv_entry ([.ref a_o, .int x1, .int x2]) (n := 3) (Nat.le_of_ble_eq_true rfl)
  rw [lg_entry_eq]
  generalize (lg_sl ([.ref a_o, .int x1, .int x2]) ++ List.replicate (3 - (lg_sl ([.ref a_o, .int x1, .int x2])).length) Slot.unset).toArray = ls at hl ⊢
  have hl : lv_has ls 3 [(0, .ref a_o), (1, .int x1), (2, .int x2)] := hl
  exact bk_X3_turnRule_in ⟨B.exec, B.bytes, B.returns, hml, findClass_of_methodNamed B.named, atoms_spec (ws := wsX3_turnRule) B.pre, B.notSynchronized⟩ hK hA hT v_Re v_Ta x1 x2 h s.heap [] hP hD va_S.rf ls hl
/-! X3_empty ()V -/
theorem in_X3_empty_X3 : ∀ w ∈ u_ws RX3 TX3 3, w ∈ wsX3_empty := by decide +kernel
abbrev rm_X3_empty : Room := { frames := 1, cells := 0, slots := 0, locals := 23 }
def wp_X3_empty_in (Q : Int32 → (Nat → Int32) → (Nat → Int32) → Prop) (v_Go : Int32) (v_Re : Nat → Int32) (v_Ta : Nat → Int32) : Prop :=
  wp_J7_fill_53178 128 v_Ta 0 (fun u1 => wp_J7_fill_53178 2048 v_Re 0 (fun u2 => Q 0 u2 u1))
set_option maxRecDepth 100000 in
set_option maxHeartbeats 4000000 in
theorem bk_X3_empty_in {p : Program} {l : Launch} {e : Env} {s : State} {m : MethodId} {args : Array Value} {below : List Frame} {meth : Method} {c : Code} {D : va_G} {cI cB : ClassId} {a_o a_Ta a_Re : Nat} {A : Nat → Prop} {Q : Int32 → (Nat → Int32) → (Nat → Int32) → Prop} (C : tm_cx p s m args meth c cX3_empty 1 none RX3 wsX3_empty) (hK : tm_kx D cI cB s) (hA : ∀ q : Nat, s.heap.size ≤ q → A q) (v_Go : Int32) (v_Re : Nat → Int32) (v_Ta : Nat → Int32) (h : wp_X3_empty_in Q v_Go v_Re v_Ta) : ∀ (H : Heap) (locs : List Loc), va_P D vwCl [(a_o, .inr (3, [.ref a_Ta, .ref a_Re, .int v_Go])), (a_Re, .inl (cI, 2048, .inl v_Re)), (a_Ta, .inl (cI, 128, .inl v_Ta))] H → va_D A [(a_o, .inr (3, [.ref a_Ta, .ref a_Re, .int v_Go])), (a_Re, .inl (cI, 2048, .inl v_Re)), (a_Ta, .inl (cI, 128, .inl v_Ta))] → va_S A s.heap H locs → ∀ (ls : Array Slot), lv_has ls 1 [(0, .ref a_o)] → W p l e (headSpec wsX3_empty rm_X3_empty).room s m args below meth c H locs 0 0 (MQ below (va_Qv (fun (u : Int32 × (Nat → Int32) × (Nat → Int32)) => Q u.1 u.2.1 u.2.2) (tm_B D (fun (u : Int32 × (Nat → Int32) × (Nat → Int32)) => [(a_o, .inr (3, [.ref a_Ta, .ref a_Re, .int u.1])), (a_Re, .inl (cI, 2048, .inl u.2.1)), (a_Ta, .inl (cI, 128, .inl u.2.2))]) A) A) args s 0 0 A) (F0 m 0 ls []) := by
  obtain ⟨hx, hb, hr, hml, hown, hts, hlocks⟩ := id C
  intro H locs hP hD hS ls hl
  unfold wp_X3_empty_in at h
  refine lv_aload_n hx hb dX3_empty_0 rfl (lv_at hl 0 rfl) ?_
  refine va_get (D := D) (ci := 3) (v := .ref a_Ta) (C := RX3) (T := TX3) (N := 3) hx hb hts in_X3_empty_X3 hown hK.1 hP 0 rfl rfl 0 (by decide) (hts (.fieldLink RX3 9 "TreeMachines$Machine" "targets" "[I") (by decide +kernel)) (fun _ h9 => h9) rfl dX3_empty_1 ?_
  refine lv_iconst (v := 0) hx hb dX3_empty_4 (by decide) ?_
  refine tm_wv (wr := [(a_o, .inr (3, [.ref a_Ta, .ref a_Re, .int v_Go])), (a_Re, .inl (cI, 2048, .inl v_Re))]) (wf := (fun (u : (Nat → Int32)) => [(a_o, .inr (3, [.ref a_Ta, .ref a_Re, .int v_Go])), (a_Re, .inl (cI, 2048, .inl v_Re)), (a_Ta, .inl (cI, 128, .inl u))])) (va_runS (As := [.ref a_Ta, .int 0]) (rest := []) ⟨hx, hb, hml, hown, hts⟩ (cn_J7_fill_53178 l D cI cB a_Ta 128 v_Ta 0 H.size _ h) (va_cwS 2 hts gX3_empty_J7_fill_53178 rfl rfl rfl (by decide +kernel) ⟨Nat.le_of_ble_eq_true rfl, Nat.le_of_ble_eq_true rfl⟩) (tm_pS (As := [.ref a_Ta, .int 0]) hK hP hD [2] (by decide) rfl) rfl rfl hl.1 rfl (lv_room (Nat.le_of_ble_eq_true rfl)) dX3_empty_5 ⟨Nat.zero_le _, Nat.zero_le _⟩) hP hD hS hA [2] [0, 1] [0, 1, 2] rfl rfl (by decide) (by decide) (by decide) (fun _ => rfl) (fun u H locs h hP hD hS => ?_)
  obtain ⟨u1, rfl⟩ : ∃ z, z = u := ⟨_, rfl⟩
  have hP : va_P D vwCl [(a_o, .inr (3, [.ref a_Ta, .ref a_Re, .int v_Go])), (a_Re, .inl (cI, 2048, .inl v_Re)), (a_Ta, .inl (cI, 128, .inl u1))] H := hP
  have hD : va_D A [(a_o, .inr (3, [.ref a_Ta, .ref a_Re, .int v_Go])), (a_Re, .inl (cI, 2048, .inl v_Re)), (a_Ta, .inl (cI, 128, .inl u1))] := hD
  refine lv_aload_n hx hb dX3_empty_8 rfl (lv_at hl 0 rfl) ?_
  refine va_get (D := D) (ci := 3) (v := .ref a_Re) (C := RX3) (T := TX3) (N := 3) hx hb hts in_X3_empty_X3 hown hK.1 hP 0 rfl rfl 1 (by decide) (hts (.fieldLink RX3 15 "TreeMachines$Machine" "reachable" "[I") (by decide +kernel)) (fun _ h9 => h9) rfl dX3_empty_9 ?_
  refine lv_iconst (v := 0) hx hb dX3_empty_12 (by decide) ?_
  refine tm_wv (wr := [(a_o, .inr (3, [.ref a_Ta, .ref a_Re, .int v_Go])), (a_Ta, .inl (cI, 128, .inl u1))]) (wf := (fun (u : (Nat → Int32)) => [(a_o, .inr (3, [.ref a_Ta, .ref a_Re, .int v_Go])), (a_Re, .inl (cI, 2048, .inl u)), (a_Ta, .inl (cI, 128, .inl u1))])) (va_runS (As := [.ref a_Re, .int 0]) (rest := []) ⟨hx, hb, hml, hown, hts⟩ (cn_J7_fill_53178 l D cI cB a_Re 2048 v_Re 0 H.size _ h) (va_cwS 2 hts gX3_empty_J7_fill_53178 rfl rfl rfl (by decide +kernel) ⟨Nat.le_of_ble_eq_true rfl, Nat.le_of_ble_eq_true rfl⟩) (tm_pS (As := [.ref a_Re, .int 0]) hK hP hD [1] (by decide) rfl) rfl rfl hl.1 rfl (lv_room (Nat.le_of_ble_eq_true rfl)) dX3_empty_13 ⟨Nat.zero_le _, Nat.zero_le _⟩) hP hD hS hA [1] [0, 2] [0, 2, 1] rfl rfl (by decide) (by decide) (by decide) (fun _ => rfl) (fun u H locs h hP hD hS => ?_)
  obtain ⟨u2, rfl⟩ : ∃ z, z = u := ⟨_, rfl⟩
  have hP : va_P D vwCl [(a_o, .inr (3, [.ref a_Ta, .ref a_Re, .int v_Go])), (a_Re, .inl (cI, 2048, .inl u2)), (a_Ta, .inl (cI, 128, .inl u1))] H := hP
  have hD : va_D A [(a_o, .inr (3, [.ref a_Ta, .ref a_Re, .int v_Go])), (a_Re, .inl (cI, 2048, .inl u2)), (a_Ta, .inl (cI, 128, .inl u1))] := hD
  refine lv_aload_n hx hb dX3_empty_16 rfl (lv_at hl 0 rfl) ?_
  refine lv_iconst (v := 0) hx hb dX3_empty_17 (by decide) ?_
  refine va_put (D := D) (ci := 3) (v := .int 0) (ty := .int) (C := RX3) (T := TX3) (N := 3) hx hb hts in_X3_empty_X3 tyX3 tyX3_ok nmX3 hown hK.1 hP hD hS 0 rfl rfl 2 (by decide) (hts (.fieldLink RX3 18 "TreeMachines$Machine" "goals" "I") (by decide +kernel)) (fun _ h9 => h9) rfl (by decide +kernel) rfl rfl (Nat.le_of_ble_eq_true rfl) dX3_empty_18 (fun H locs hP hD hS => ?_)
  have hP : va_P D vwCl [(a_o, .inr (3, [.ref a_Ta, .ref a_Re, .int 0])), (a_Re, .inl (cI, 2048, .inl u2)), (a_Ta, .inl (cI, 128, .inl u1))] H := hP
  have hD : va_D A [(a_o, .inr (3, [.ref a_Ta, .ref a_Re, .int 0])), (a_Re, .inl (cI, 2048, .inl u2)), (a_Ta, .inl (cI, 128, .inl u1))] := hD
  exact W.vret hx hb hr (fun t ht hW => ⟨⟨(0, u2, u1), rfl, h, by rw [ht]; exact hP, hD⟩, hS.F ht⟩) hS.2.2 dX3_empty_21
abbrev wp_X3_empty (v_Go : Int32) (v_Re : Nat → Int32) (v_Ta : Nat → Int32) (Q : Int32 → (Nat → Int32) → (Nat → Int32) → Prop) : Prop := wp_X3_empty_in Q v_Go v_Re v_Ta
set_option maxRecDepth 100000 in
set_option maxHeartbeats 4000000 in
theorem cn_X3_empty (l : Launch) (D : va_G) (cI cB : ClassId) (a_o a_Ta a_Re : Nat) (v_Go : Int32) (v_Re : Nat → Int32) (v_Ta : Nat → Int32) (sz : Nat) (Q : Int32 → (Nat → Int32) → (Nat → Int32) → Prop) (h : wp_X3_empty v_Go v_Re v_Ta Q) : Met l yX3_empty wsX3_empty rm_X3_empty (tm_Pw D cI cB [.ref a_o] [(a_o, .inr (3, [.ref a_Ta, .ref a_Re, .int v_Go])), (a_Re, .inl (cI, 2048, .inl v_Re)), (a_Ta, .inl (cI, 128, .inl v_Ta))] sz) (va_Qv (fun (u : Int32 × (Nat → Int32) × (Nat → Int32)) => Q u.1 u.2.1 u.2.2) (tm_B D (fun (u : Int32 × (Nat → Int32) × (Nat → Int32)) => [(a_o, .inr (3, [.ref a_Ta, .ref a_Re, .int u.1])), (a_Re, .inl (cI, 2048, .inl u.2.1)), (a_Ta, .inl (cI, 128, .inl u.2.2))]) (va_A [(a_o, .inr (3, [.ref a_Ta, .ref a_Re, .int v_Go])), (a_Re, .inl (cI, 2048, .inl v_Re)), (a_Ta, .inl (cI, 128, .inl v_Ta))] sz)) (va_A [(a_o, .inr (3, [.ref a_Ta, .ref a_Re, .int v_Go])), (a_Re, .inl (cI, 2048, .inl v_Re)), (a_Ta, .inl (cI, 128, .inl v_Ta))] sz)) 0 0 (va_A [(a_o, .inr (3, [.ref a_Ta, .ref a_Re, .int v_Go])), (a_Re, .inl (cI, 2048, .inl v_Re)), (a_Ta, .inl (cI, 128, .inl v_Ta))] sz) := by
  refine Met.ofW (cc := cX3_empty) (maxL := 1) (ret := none) (by decide) rfl ?_
  intro p e s m args below meth c s₁ B hml hv
  obtain ⟨rfl, hsz, hP, hK, hD0⟩ := hv
  subst hsz
  have hD := hD0.self (sz := s.heap.size)
  generalize hAe : va_A [(a_o, .inr (3, [.ref a_Ta, .ref a_Re, .int v_Go])), (a_Re, .inl (cI, 2048, .inl v_Re)), (a_Ta, .inl (cI, 128, .inl v_Ta))] s.heap.size = A at hD ⊢
  have hA : ∀ q : Nat, s.heap.size ≤ q → A q := fun q h => by rw [← hAe]; exact Or.inr h
  have hl := lv_entry ([.ref a_o]) (n := 1) (Nat.le_of_ble_eq_true rfl)
  rw [lg_entry_eq]
  generalize (lg_sl ([.ref a_o]) ++ List.replicate (1 - (lg_sl ([.ref a_o])).length) Slot.unset).toArray = ls at hl ⊢
  have hl : lv_has ls 1 [(0, .ref a_o)] := hl
  exact bk_X3_empty_in ⟨B.exec, B.bytes, B.returns, hml, findClass_of_methodNamed B.named, atoms_spec (ws := wsX3_empty) B.pre, B.notSynchronized⟩ hK hA v_Go v_Re v_Ta h s.heap [] hP hD va_S.rf ls hl
/-! X4_numbered (I)LTreeMachines$Machine; -/
theorem in_X4_numbered_X4 : ∀ w ∈ u_ws RX4 TX4 2, w ∈ wsX4_numbered := by decide +kernel
abbrev rm_X4_numbered : Room := { frames := 0, cells := 0, slots := 0, locals := 0 }
def wp_X4_numbered_in (Q : Nat → Prop) (x1 : Int32) : Prop :=
  ((x1 = 0 → Q 0) ∧ (¬ (x1 = 0) → ((x1 = 1 → Q 1) ∧ (¬ (x1 = 1) → Q 2))))
set_option maxRecDepth 100000 in
set_option maxHeartbeats 4000000 in
theorem bk_X4_numbered_in {p : Program} {l : Launch} {e : Env} {s : State} {m : MethodId} {args : Array Value} {below : List Frame} {meth : Method} {c : Code} {D : va_G} {cI cB : ClassId} {a_o a_f a_s : Nat} {Q : Nat → Prop} (C : tm_cx p s m args meth c cX4_numbered 2 (some (.object "TreeMachines$Machine")) RX4 wsX4_numbered) (hK : tm_kx D cI cB s) (x1 : Int32) (h : wp_X4_numbered_in Q x1) : va_P D vwCl [(a_o, .inr (4, [.ref a_f, .ref a_s]))] s.heap → ∀ (ls : Array Slot), lv_has ls 2 [(0, .ref a_o), (1, .int x1)] → W p l e (headSpec wsX4_numbered rm_X4_numbered).room s m args below meth c s.heap [] 0 0 (MQ below (va_Sr (fun k => (k = 0 ∨ k = 1 ∨ k = 2) ∧ Q k) (tm_adN a_f a_s)) args s 0 0 (fun _ => False)) (F0 m 0 ls []) := by
  obtain ⟨hx, hb, hr, hml, hown, hts, hlocks⟩ := id C
  intro hP ls hl
  unfold wp_X4_numbered_in at h
  refine lv_iload_n hx hb dX4_numbered_0 rfl (lv_at hl 1 rfl) ?_
  refine lv_if_ne (tgt := 9) hx hb dX4_numbered_1 (by decide) (fun c1 => ?_) (fun c1 => ?_)
  · have h := h.2 c1
    refine lv_iload_n hx hb dX4_numbered_9 rfl (lv_at hl 1 rfl) ?_
    refine lv_iconst (v := 1) hx hb dX4_numbered_10 (by decide) ?_
    refine lv_icmp_ne (tgt := 21) hx hb dX4_numbered_11 (by decide) (fun c2 => ?_) (fun c2 => ?_)
    · have h := h.2 c2
      refine lv_null hx hb dX4_numbered_21 ?_
      exact W.aret (v := .null) hx hb hr (Or.inl ⟨_, rfl⟩) (Or.inl rfl) (fun t ht hW => ⟨2, rfl, ⟨Or.inr (Or.inr rfl), h⟩, ht⟩) (fun _ h => by cases h) dX4_numbered_22
    · have h := h.1 c2
      refine lv_aload_n hx hb dX4_numbered_14 rfl (lv_at hl 0 rfl) ?_
      refine va_get (D := D) (ci := 4) (v := .ref a_s) (C := RX4) (T := TX4) (N := 2) hx hb hts in_X4_numbered_X4 hown hK.1 hP 0 rfl rfl 1 (by decide) (hts (.fieldLink RX4 18 "TreeMachines$Pair" "second" "LTreeMachines$Machine;") (by decide +kernel)) (fun _ h9 => h9) rfl dX4_numbered_15 ?_
      refine lv_goto (tgt := 22) hx hb dX4_numbered_18 (by decide) ?_
      exact W.aret (v := .ref a_s) hx hb hr (Or.inl ⟨_, rfl⟩) (Or.inr ⟨_, rfl⟩) (fun t ht hW => ⟨1, rfl, ⟨Or.inr (Or.inl rfl), h⟩, ht⟩) (fun _ h => by cases h) dX4_numbered_22
  · have h := h.1 c1
    refine lv_aload_n hx hb dX4_numbered_4 rfl (lv_at hl 0 rfl) ?_
    refine va_get (D := D) (ci := 4) (v := .ref a_f) (C := RX4) (T := TX4) (N := 2) hx hb hts in_X4_numbered_X4 hown hK.1 hP 0 rfl rfl 0 (by decide) (hts (.fieldLink RX4 12 "TreeMachines$Pair" "first" "LTreeMachines$Machine;") (by decide +kernel)) (fun _ h9 => h9) rfl dX4_numbered_5 ?_
    exact W.aret (v := .ref a_f) hx hb hr (Or.inl ⟨_, rfl⟩) (Or.inr ⟨_, rfl⟩) (fun t ht hW => ⟨0, rfl, ⟨Or.inl rfl, h⟩, ht⟩) (fun _ h => by cases h) dX4_numbered_8
abbrev wp_X4_numbered (x1 : Int32) (Q : Nat → Prop) : Prop := wp_X4_numbered_in Q x1
set_option maxRecDepth 100000 in
set_option maxHeartbeats 4000000 in
theorem cn_X4_numbered (l : Launch) (D : va_G) (cI cB : ClassId) (a_o a_f a_s : Nat) (x1 : Int32) (Q : Nat → Prop) (h : wp_X4_numbered x1 Q) : Met l yX4_numbered wsX4_numbered rm_X4_numbered (tm_Pr D cI cB [.ref a_o, .int x1] [(a_o, .inr (4, [.ref a_f, .ref a_s]))]) (va_Sr (fun k => (k = 0 ∨ k = 1 ∨ k = 2) ∧ Q k) (tm_adN a_f a_s)) 0 0 (fun _ => False) := by
  refine Met.ofW (cc := cX4_numbered) (maxL := 2) (ret := (some (.object "TreeMachines$Machine"))) (by decide) rfl ?_
  intro p e s m args below meth c s₁ B hml hv
  obtain ⟨rfl, hP, hK⟩ := hv
  have hl := lv_entry ([.ref a_o, .int x1]) (n := 2) (Nat.le_of_ble_eq_true rfl)
  rw [lg_entry_eq]
  generalize (lg_sl ([.ref a_o, .int x1]) ++ List.replicate (2 - (lg_sl ([.ref a_o, .int x1])).length) Slot.unset).toArray = ls at hl ⊢
  have hl : lv_has ls 2 [(0, .ref a_o), (1, .int x1)] := hl
  exact bk_X4_numbered_in ⟨B.exec, B.bytes, B.returns, hml, findClass_of_methodNamed B.named, atoms_spec (ws := wsX4_numbered) B.pre, B.notSynchronized⟩ hK x1 h hP ls hl
/-! X4_profileOf (III)I -/
theorem in_X4_profileOf_X3 : ∀ w ∈ u_ws RX3 TX3 3, w ∈ wsX4_profileOf := by decide +kernel
theorem in_X4_profileOf_X4 : ∀ w ∈ u_ws RX4 TX4 2, w ∈ wsX4_profileOf := by decide +kernel
abbrev rm_X4_profileOf : Room := { frames := 0, cells := 0, slots := 0, locals := 0 }
def wp_X4_profileOf_in (v_fGo : Int32) (v_fRe : Nat → Int32) (v_sGo : Int32) (v_sRe : Nat → Int32) (Q : Int32 → Prop) (x1 : Int32) (x2 : Int32) (x3 : Int32) : Prop :=
  ∀ x4_1 : Int32, x4_1 = ((((x1 * 16) + (x2 &&& 15)) * 16) + (x3 &&& 15)) → ∀ x5_2 : Int32, x5_2 = ((((x1 * 16) + (x2 >>> ((4 : Int32) &&& 31))) * 16) + (x3 >>> ((4 : Int32) &&& 31))) → vp_in x4_1 2048 ∧ vp_in x5_2 2048 ∧ Q ((v_fRe (x4_1).toNatClampNeg) ||| ((v_sRe (x5_2).toNatClampNeg) <<< ((4 : Int32) &&& 31)))
set_option maxRecDepth 100000 in
set_option maxHeartbeats 4000000 in
theorem bk_X4_profileOf_in {p : Program} {l : Launch} {e : Env} {s : State} {m : MethodId} {args : Array Value} {below : List Frame} {meth : Method} {c : Code} {D : va_G} {cI cB : ClassId} {a_o a_f a_s a_fTa a_fRe a_sTa a_sRe : Nat} {v_fGo : Int32} {v_fRe : Nat → Int32} {v_sGo : Int32} {v_sRe : Nat → Int32} {Q : Int32 → Prop} (C : tm_cx p s m args meth c cX4_profileOf 6 (some .int) RX4 wsX4_profileOf) (hK : tm_kx D cI cB s) (x1 : Int32) (x2 : Int32) (x3 : Int32) (h : wp_X4_profileOf_in v_fGo v_fRe v_sGo v_sRe Q x1 x2 x3) : va_P D vwCl [(a_o, .inr (4, [.ref a_f, .ref a_s])), (a_f, .inr (3, [.ref a_fTa, .ref a_fRe, .int v_fGo])), (a_fRe, .inl (cI, 2048, .inl v_fRe)), (a_s, .inr (3, [.ref a_sTa, .ref a_sRe, .int v_sGo])), (a_sRe, .inl (cI, 2048, .inl v_sRe))] s.heap → ∀ (ls : Array Slot), lv_has ls 6 [(0, .ref a_o), (1, .int x1), (2, .int x2), (3, .int x3)] → W p l e (headSpec wsX4_profileOf rm_X4_profileOf).room s m args below meth c s.heap [] 0 0 (MQ below (vp_Si Q) args s 0 0 (fun _ => False)) (F0 m 0 ls []) := by
  obtain ⟨hx, hb, hr, hml, hown, hts, hlocks⟩ := id C
  intro hP ls hl
  unfold wp_X4_profileOf_in at h
  refine lv_iload_n hx hb dX4_profileOf_0 rfl (lv_at hl 1 rfl) ?_
  refine lv_bipush (v := 16) hx hb dX4_profileOf_1 (by decide) ?_
  refine lv_imul (x := x1) (y := 16) hx hb dX4_profileOf_3 ?_
  refine lv_iload_n hx hb dX4_profileOf_4 rfl (lv_at hl 2 rfl) ?_
  refine lv_bipush (v := 15) hx hb dX4_profileOf_5 (by decide) ?_
  refine lv_iand (x := x2) (y := 15) hx hb dX4_profileOf_7 ?_
  refine lv_iadd hx hb dX4_profileOf_8 ?_
  refine lv_bipush (v := 16) hx hb dX4_profileOf_9 (by decide) ?_
  refine lv_imul (x := ((x1 * 16) + (x2 &&& 15))) (y := 16) hx hb dX4_profileOf_11 ?_
  refine lv_iload_n hx hb dX4_profileOf_12 rfl (lv_at hl 3 rfl) ?_
  refine lv_bipush (v := 15) hx hb dX4_profileOf_13 (by decide) ?_
  refine lv_iand (x := x3) (y := 15) hx hb dX4_profileOf_15 ?_
  refine lv_iadd hx hb dX4_profileOf_16 ?_
  refine lv_topi (fun x4_1 ex4_1 => ?_)
  have h := h x4_1 ex4_1
  refine lv_istore (lv' := [(4, .int x4_1), (0, .ref a_o), (1, .int x1), (2, .int x2), (3, .int x3)]) hx hb dX4_profileOf_17 hl (by decide) rfl (fun ls hl => ?_)
  refine lv_iload_n hx hb dX4_profileOf_19 rfl (lv_at hl 2 rfl) ?_
  refine lv_bipush (v := 16) hx hb dX4_profileOf_20 (by decide) ?_
  refine lv_imul (x := x1) (y := 16) hx hb dX4_profileOf_22 ?_
  refine lv_iload_n hx hb dX4_profileOf_23 rfl (lv_at hl 3 rfl) ?_
  refine lv_iconst (v := 4) hx hb dX4_profileOf_24 (by decide) ?_
  refine lv_ishr (x := x2) (y := 4) hx hb dX4_profileOf_25 ?_
  refine lv_iadd hx hb dX4_profileOf_26 ?_
  refine lv_bipush (v := 16) hx hb dX4_profileOf_27 (by decide) ?_
  refine lv_imul (x := ((x1 * 16) + (x2 >>> ((4 : Int32) &&& 31)))) (y := 16) hx hb dX4_profileOf_29 ?_
  refine lv_iload_n hx hb dX4_profileOf_30 rfl (lv_at hl 4 rfl) ?_
  refine lv_iconst (v := 4) hx hb dX4_profileOf_31 (by decide) ?_
  refine lv_ishr (x := x3) (y := 4) hx hb dX4_profileOf_32 ?_
  refine lv_iadd hx hb dX4_profileOf_33 ?_
  refine lv_topi (fun x5_2 ex5_2 => ?_)
  have h := h x5_2 ex5_2
  refine lv_istore (lv' := [(5, .int x5_2), (4, .int x4_1), (0, .ref a_o), (1, .int x1), (2, .int x2), (3, .int x3)]) hx hb dX4_profileOf_34 hl (by decide) rfl (fun ls hl => ?_)
  refine lv_aload_n hx hb dX4_profileOf_36 rfl (lv_at hl 2 rfl) ?_
  refine va_get (D := D) (ci := 4) (v := .ref a_f) (C := RX4) (T := TX4) (N := 2) hx hb hts in_X4_profileOf_X4 hown hK.1 hP 0 rfl rfl 0 (by decide) (hts (.fieldLink RX4 12 "TreeMachines$Pair" "first" "LTreeMachines$Machine;") (by decide +kernel)) (fun _ h9 => h9) rfl dX4_profileOf_37 ?_
  refine va_get (D := D) (ci := 3) (v := .ref a_fRe) (C := RX3) (T := TX3) (N := 3) hx hb hts in_X4_profileOf_X3 hown hK.1 hP 1 rfl rfl 1 (by decide) (hts (.fieldLink RX4 21 "TreeMachines$Machine" "reachable" "[I") (by decide +kernel)) (fun _ h9 => h9) rfl dX4_profileOf_40 ?_
  refine lv_iload hx hb dX4_profileOf_43 (lv_at hl 1 rfl) ?_
  obtain ⟨b3, h⟩ := h
  refine va_iald hx hb hK.1 hP 2 0 rfl rfl b3 dX4_profileOf_45 ?_
  refine lv_aload_n hx hb dX4_profileOf_46 rfl (lv_at hl 2 rfl) ?_
  refine va_get (D := D) (ci := 4) (v := .ref a_s) (C := RX4) (T := TX4) (N := 2) hx hb hts in_X4_profileOf_X4 hown hK.1 hP 0 rfl rfl 1 (by decide) (hts (.fieldLink RX4 18 "TreeMachines$Pair" "second" "LTreeMachines$Machine;") (by decide +kernel)) (fun _ h9 => h9) rfl dX4_profileOf_47 ?_
  refine va_get (D := D) (ci := 3) (v := .ref a_sRe) (C := RX3) (T := TX3) (N := 3) hx hb hts in_X4_profileOf_X3 hown hK.1 hP 3 rfl rfl 1 (by decide) (hts (.fieldLink RX4 21 "TreeMachines$Machine" "reachable" "[I") (by decide +kernel)) (fun _ h9 => h9) rfl dX4_profileOf_50 ?_
  refine lv_iload hx hb dX4_profileOf_53 (lv_at hl 0 rfl) ?_
  obtain ⟨b4, h⟩ := h
  refine va_iald hx hb hK.1 hP 4 0 rfl rfl b4 dX4_profileOf_55 ?_
  refine lv_iconst (v := 4) hx hb dX4_profileOf_56 (by decide) ?_
  refine lv_ishl (x := (v_sRe (x5_2).toNatClampNeg)) (y := 4) hx hb dX4_profileOf_57 ?_
  refine lv_ior hx hb dX4_profileOf_58 ?_
  exact W.iret (v := ((v_fRe (x4_1).toNatClampNeg) ||| ((v_sRe (x5_2).toNatClampNeg) <<< ((4 : Int32) &&& 31)))) hx hb hr (fun t ht hW => ⟨((v_fRe (x4_1).toNatClampNeg) ||| ((v_sRe (x5_2).toNatClampNeg) <<< ((4 : Int32) &&& 31))), rfl, h, ht⟩) (fun _ h => by cases h) dX4_profileOf_59
abbrev wp_X4_profileOf (v_fGo : Int32) (v_fRe : Nat → Int32) (v_sGo : Int32) (v_sRe : Nat → Int32) (x1 : Int32) (x2 : Int32) (x3 : Int32) (Q : Int32 → Prop) : Prop := wp_X4_profileOf_in v_fGo v_fRe v_sGo v_sRe Q x1 x2 x3
set_option maxRecDepth 100000 in
set_option maxHeartbeats 4000000 in
theorem cn_X4_profileOf (l : Launch) (D : va_G) (cI cB : ClassId) (a_o a_f a_s a_fTa a_fRe a_sTa a_sRe : Nat) (v_fGo : Int32) (v_fRe : Nat → Int32) (v_sGo : Int32) (v_sRe : Nat → Int32) (x1 : Int32) (x2 : Int32) (x3 : Int32) (Q : Int32 → Prop) (h : wp_X4_profileOf v_fGo v_fRe v_sGo v_sRe x1 x2 x3 Q) : Met l yX4_profileOf wsX4_profileOf rm_X4_profileOf (tm_Pr D cI cB [.ref a_o, .int x1, .int x2, .int x3] [(a_o, .inr (4, [.ref a_f, .ref a_s])), (a_f, .inr (3, [.ref a_fTa, .ref a_fRe, .int v_fGo])), (a_fRe, .inl (cI, 2048, .inl v_fRe)), (a_s, .inr (3, [.ref a_sTa, .ref a_sRe, .int v_sGo])), (a_sRe, .inl (cI, 2048, .inl v_sRe))]) (vp_Si Q) 0 0 (fun _ => False) := by
  refine Met.ofW (cc := cX4_profileOf) (maxL := 6) (ret := (some .int)) (by decide) rfl ?_
  intro p e s m args below meth c s₁ B hml hv
  obtain ⟨rfl, hP, hK⟩ := hv
  have hl := lv_entry ([.ref a_o, .int x1, .int x2, .int x3]) (n := 6) (Nat.le_of_ble_eq_true rfl)
  rw [lg_entry_eq]
  generalize (lg_sl ([.ref a_o, .int x1, .int x2, .int x3]) ++ List.replicate (6 - (lg_sl ([.ref a_o, .int x1, .int x2, .int x3])).length) Slot.unset).toArray = ls at hl ⊢
  have hl : lv_has ls 6 [(0, .ref a_o), (1, .int x1), (2, .int x2), (3, .int x3)] := hl
  exact bk_X4_profileOf_in ⟨B.exec, B.bytes, B.returns, hml, findClass_of_methodNamed B.named, atoms_spec (ws := wsX4_profileOf) B.pre, B.notSynchronized⟩ hK x1 x2 x3 h hP ls hl
/-! X4_placeOf (I)I -/
theorem in_X4_placeOf_X3 : ∀ w ∈ u_ws RX3 TX3 3, w ∈ wsX4_placeOf := by decide +kernel
theorem in_X4_placeOf_X4 : ∀ w ∈ u_ws RX4 TX4 2, w ∈ wsX4_placeOf := by decide +kernel
abbrev rm_X4_placeOf : Room := { frames := 1, cells := 0, slots := 0, locals := 21 }
def wp_X4_placeOf_19 (v_fGo : Int32) (v_sGo : Int32) (Q : Int32 → Prop) (z0 : Int32) (x1 : Int32) : Prop :=
  wp_X5_secondSet x1 (fun r4 => wp_X3_accepts v_sGo r4 (fun r5 => ((r5 = 0 → Q z0) ∧ (¬ (r5 = 0) → Q (z0 + 1)))))
set_option maxRecDepth 100000 in
set_option maxHeartbeats 4000000 in
theorem bk_X4_placeOf_19 {p : Program} {l : Launch} {e : Env} {s : State} {m : MethodId} {args : Array Value} {below : List Frame} {meth : Method} {c : Code} {D : va_G} {cI cB : ClassId} {a_o a_f a_s a_fTa a_fRe a_sTa a_sRe : Nat} {v_fGo : Int32} {v_sGo : Int32} {Q : Int32 → Prop} (C : tm_cx p s m args meth c cX4_placeOf 3 (some .int) RX4 wsX4_placeOf) (hK : tm_kx D cI cB s) (z0 : Int32) (x1 : Int32) (h : wp_X4_placeOf_19 v_fGo v_sGo Q z0 x1) : va_P D vwCl [(a_o, .inr (4, [.ref a_f, .ref a_s])), (a_f, .inr (3, [.ref a_fTa, .ref a_fRe, .int v_fGo])), (a_s, .inr (3, [.ref a_sTa, .ref a_sRe, .int v_sGo]))] s.heap → ∀ (ls : Array Slot), lv_has ls 3 [(0, .ref a_o), (1, .int x1)] → W p l e (headSpec wsX4_placeOf rm_X4_placeOf).room s m args below meth c s.heap [] 0 0 (MQ below (vp_Si Q) args s 0 0 (fun _ => False)) (F0 m 19 ls [.int z0]) := by
  obtain ⟨hx, hb, hr, hml, hown, hts, hlocks⟩ := id C
  intro hP ls hl
  unfold wp_X4_placeOf_19 at h
  refine lv_istore_n (lv' := [(2, .int z0), (0, .ref a_o), (1, .int x1)]) hx hb dX4_placeOf_19 rfl hl (by decide) rfl (fun ls hl => ?_)
  refine lv_aload_n hx hb dX4_placeOf_20 rfl (lv_at hl 1 rfl) ?_
  refine va_get (D := D) (ci := 4) (v := .ref a_s) (C := RX4) (T := TX4) (N := 2) hx hb hts in_X4_placeOf_X4 hown hK.1 hP 0 rfl rfl 1 (by decide) (hts (.fieldLink RX4 18 "TreeMachines$Pair" "second" "LTreeMachines$Machine;") (by decide +kernel)) (fun _ h9 => h9) rfl dX4_placeOf_21 ?_
  refine lv_iload_n hx hb dX4_placeOf_24 rfl (lv_at hl 2 rfl) ?_
  refine tm_rSN (As := [.int x1]) (rest := [.ref a_s]) (wc := []) ⟨hx, hb, hml, hown, hts⟩ (cn_X5_secondSet l D cI cB x1 _ h) ⟨va_cnB 1 hts gX4_placeOf_X5_secondSet_n33 rfl rfl rfl hK.2.2.2.2.2.2.2.2.2.2.2.1 (hts (.initialized RX5) (by decide +kernel)) (by decide +kernel) ⟨Nat.le_of_ble_eq_true rfl, Nat.le_of_ble_eq_true rfl⟩, hts (.static yX5_secondSet) (by decide +kernel), trivial⟩ hK (hP.sub [] rfl) rfl hl.1 rfl (Nat.le_of_ble_eq_true rfl) ⟨Nat.zero_le _, Nat.zero_le _⟩ dX4_placeOf_25 (fun r4 h => ?_)
  refine tm_rV (As := [.int r4]) (rest := []) (wc := [(a_s, .inr (3, [.ref a_sTa, .ref a_sRe, .int v_sGo]))]) ⟨hx, hb, hml, hown, hts⟩ (cn_X3_accepts l D cI cB a_s a_sTa a_sRe v_sGo r4 _ h) (cwV 1 hts gX4_placeOf_X3_accepts rfl rfl rfl (by decide +kernel) ⟨Nat.le_of_ble_eq_true rfl, Nat.le_of_ble_eq_true rfl⟩) hK (hP.sub [2] rfl) (va_recv hK.1 hP (ci := 3) (q0 := 2) rfl rfl) rfl hl.1 rfl (Nat.le_of_ble_eq_true rfl) ⟨Nat.zero_le _, Nat.zero_le _⟩ dX4_placeOf_28 (fun r5 h => ?_)
  obtain ⟨br5, h⟩ := h
  refine lv_if_eq (tgt := 40) hx hb dX4_placeOf_31 (by decide) (fun c6 => ?_) (fun c6 => ?_)
  · have h := h.1 c6
    refine lv_iload_n hx hb dX4_placeOf_40 rfl (lv_at hl 0 rfl) ?_
    exact W.iret (v := z0) hx hb hr (fun t ht hW => ⟨z0, rfl, h, ht⟩) (fun _ h => by cases h) dX4_placeOf_41
  · have h := h.2 c6
    refine lv_iload_n hx hb dX4_placeOf_34 rfl (lv_at hl 0 rfl) ?_
    refine lv_iconst (v := 1) hx hb dX4_placeOf_35 (by decide) ?_
    refine lv_iadd (x := z0) (y := 1) hx hb dX4_placeOf_36 ?_
    refine lv_goto (tgt := 41) hx hb dX4_placeOf_37 (by decide) ?_
    exact W.iret (v := (z0 + 1)) hx hb hr (fun t ht hW => ⟨(z0 + 1), rfl, h, ht⟩) (fun _ h => by cases h) dX4_placeOf_41
def wp_X4_placeOf_in (v_fGo : Int32) (v_sGo : Int32) (Q : Int32 → Prop) (x1 : Int32) : Prop :=
  wp_X5_firstSet x1 (fun r1 => wp_X3_accepts v_fGo r1 (fun r2 => ((r2 = 0 → wp_X4_placeOf_19 v_fGo v_sGo Q 0 x1) ∧ (¬ (r2 = 0) → wp_X4_placeOf_19 v_fGo v_sGo Q 2 x1))))
set_option maxRecDepth 100000 in
set_option maxHeartbeats 4000000 in
theorem bk_X4_placeOf_in {p : Program} {l : Launch} {e : Env} {s : State} {m : MethodId} {args : Array Value} {below : List Frame} {meth : Method} {c : Code} {D : va_G} {cI cB : ClassId} {a_o a_f a_s a_fTa a_fRe a_sTa a_sRe : Nat} {v_fGo : Int32} {v_sGo : Int32} {Q : Int32 → Prop} (C : tm_cx p s m args meth c cX4_placeOf 3 (some .int) RX4 wsX4_placeOf) (hK : tm_kx D cI cB s) (x1 : Int32) (h : wp_X4_placeOf_in v_fGo v_sGo Q x1) : va_P D vwCl [(a_o, .inr (4, [.ref a_f, .ref a_s])), (a_f, .inr (3, [.ref a_fTa, .ref a_fRe, .int v_fGo])), (a_s, .inr (3, [.ref a_sTa, .ref a_sRe, .int v_sGo]))] s.heap → ∀ (ls : Array Slot), lv_has ls 3 [(0, .ref a_o), (1, .int x1)] → W p l e (headSpec wsX4_placeOf rm_X4_placeOf).room s m args below meth c s.heap [] 0 0 (MQ below (vp_Si Q) args s 0 0 (fun _ => False)) (F0 m 0 ls []) := by
  obtain ⟨hx, hb, hr, hml, hown, hts, hlocks⟩ := id C
  intro hP ls hl
  unfold wp_X4_placeOf_in at h
  refine lv_aload_n hx hb dX4_placeOf_0 rfl (lv_at hl 0 rfl) ?_
  refine va_get (D := D) (ci := 4) (v := .ref a_f) (C := RX4) (T := TX4) (N := 2) hx hb hts in_X4_placeOf_X4 hown hK.1 hP 0 rfl rfl 0 (by decide) (hts (.fieldLink RX4 12 "TreeMachines$Pair" "first" "LTreeMachines$Machine;") (by decide +kernel)) (fun _ h9 => h9) rfl dX4_placeOf_1 ?_
  refine lv_iload_n hx hb dX4_placeOf_4 rfl (lv_at hl 1 rfl) ?_
  refine tm_rSN (As := [.int x1]) (rest := [.ref a_f]) (wc := []) ⟨hx, hb, hml, hown, hts⟩ (cn_X5_firstSet l D cI cB x1 _ h) ⟨va_cnB 1 hts gX4_placeOf_X5_firstSet_n25 rfl rfl rfl hK.2.2.2.2.2.2.2.2.2.2.1 (hts (.initialized RX5) (by decide +kernel)) (by decide +kernel) ⟨Nat.le_of_ble_eq_true rfl, Nat.le_of_ble_eq_true rfl⟩, hts (.static yX5_firstSet) (by decide +kernel), trivial⟩ hK (hP.sub [] rfl) rfl hl.1 rfl (Nat.le_of_ble_eq_true rfl) ⟨Nat.zero_le _, Nat.zero_le _⟩ dX4_placeOf_5 (fun r1 h => ?_)
  refine tm_rV (As := [.int r1]) (rest := []) (wc := [(a_f, .inr (3, [.ref a_fTa, .ref a_fRe, .int v_fGo]))]) ⟨hx, hb, hml, hown, hts⟩ (cn_X3_accepts l D cI cB a_f a_fTa a_fRe v_fGo r1 _ h) (cwV 1 hts gX4_placeOf_X3_accepts rfl rfl rfl (by decide +kernel) ⟨Nat.le_of_ble_eq_true rfl, Nat.le_of_ble_eq_true rfl⟩) hK (hP.sub [1] rfl) (va_recv hK.1 hP (ci := 3) (q0 := 1) rfl rfl) rfl hl.1 rfl (Nat.le_of_ble_eq_true rfl) ⟨Nat.zero_le _, Nat.zero_le _⟩ dX4_placeOf_8 (fun r2 h => ?_)
  obtain ⟨br2, h⟩ := h
  refine lv_if_eq (tgt := 18) hx hb dX4_placeOf_11 (by decide) (fun c3 => ?_) (fun c3 => ?_)
  · have h := h.1 c3
    refine lv_iconst (v := 0) hx hb dX4_placeOf_18 (by decide) ?_
    exact bk_X4_placeOf_19 C hK 0 x1 h hP ls (lv_sub hl [0, 1] rfl)
  · have h := h.2 c3
    refine lv_iconst (v := 2) hx hb dX4_placeOf_14 (by decide) ?_
    refine lv_goto (tgt := 19) hx hb dX4_placeOf_15 (by decide) ?_
    exact bk_X4_placeOf_19 C hK 2 x1 h hP ls (lv_sub hl [0, 1] rfl)
abbrev wp_X4_placeOf (v_fGo : Int32) (v_sGo : Int32) (x1 : Int32) (Q : Int32 → Prop) : Prop := wp_X4_placeOf_in v_fGo v_sGo Q x1
set_option maxRecDepth 100000 in
set_option maxHeartbeats 4000000 in
theorem cn_X4_placeOf (l : Launch) (D : va_G) (cI cB : ClassId) (a_o a_f a_s a_fTa a_fRe a_sTa a_sRe : Nat) (v_fGo : Int32) (v_sGo : Int32) (x1 : Int32) (Q : Int32 → Prop) (h : wp_X4_placeOf v_fGo v_sGo x1 Q) : Met l yX4_placeOf wsX4_placeOf rm_X4_placeOf (tm_Pr D cI cB [.ref a_o, .int x1] [(a_o, .inr (4, [.ref a_f, .ref a_s])), (a_f, .inr (3, [.ref a_fTa, .ref a_fRe, .int v_fGo])), (a_s, .inr (3, [.ref a_sTa, .ref a_sRe, .int v_sGo]))]) (vp_Si Q) 0 0 (fun _ => False) := by
  refine Met.ofW (cc := cX4_placeOf) (maxL := 3) (ret := (some .int)) (by decide) rfl ?_
  intro p e s m args below meth c s₁ B hml hv
  obtain ⟨rfl, hP, hK⟩ := hv
  have hl := lv_entry ([.ref a_o, .int x1]) (n := 3) (Nat.le_of_ble_eq_true rfl)
  rw [lg_entry_eq]
  generalize (lg_sl ([.ref a_o, .int x1]) ++ List.replicate (3 - (lg_sl ([.ref a_o, .int x1])).length) Slot.unset).toArray = ls at hl ⊢
  have hl : lv_has ls 3 [(0, .ref a_o), (1, .int x1)] := hl
  exact bk_X4_placeOf_in ⟨B.exec, B.bytes, B.returns, hml, findClass_of_methodNamed B.named, atoms_spec (ws := wsX4_placeOf) B.pre, B.notSynchronized⟩ hK x1 h hP ls hl
/-! X4_isOfSort (II)Z -/
theorem in_X4_isOfSort_X3 : ∀ w ∈ u_ws RX3 TX3 3, w ∈ wsX4_isOfSort := by decide +kernel
theorem in_X4_isOfSort_X4 : ∀ w ∈ u_ws RX4 TX4 2, w ∈ wsX4_isOfSort := by decide +kernel
abbrev rm_X4_isOfSort : Room := { frames := 2, cells := 0, slots := 0, locals := 43 }
def wp_X4_isOfSort_in (v_fGo : Int32) (v_sGo : Int32) (Q : Int32 → Prop) (x1 : Int32) (x2 : Int32) : Prop :=
  wp_X4_placeOf v_fGo v_sGo x1 (fun r1 => ((((x2 >>> (r1 &&& 31)) &&& 1) = 1 → Q 1) ∧ (¬ (((x2 >>> (r1 &&& 31)) &&& 1) = 1) → Q 0)))
set_option maxRecDepth 100000 in
set_option maxHeartbeats 4000000 in
theorem bk_X4_isOfSort_in {p : Program} {l : Launch} {e : Env} {s : State} {m : MethodId} {args : Array Value} {below : List Frame} {meth : Method} {c : Code} {D : va_G} {cI cB : ClassId} {a_o a_f a_s a_fTa a_fRe a_sTa a_sRe : Nat} {v_fGo : Int32} {v_sGo : Int32} {Q : Int32 → Prop} (C : tm_cx p s m args meth c cX4_isOfSort 3 (some .boolean) RX4 wsX4_isOfSort) (hK : tm_kx D cI cB s) (x1 : Int32) (x2 : Int32) (h : wp_X4_isOfSort_in v_fGo v_sGo Q x1 x2) : va_P D vwCl [(a_o, .inr (4, [.ref a_f, .ref a_s])), (a_f, .inr (3, [.ref a_fTa, .ref a_fRe, .int v_fGo])), (a_s, .inr (3, [.ref a_sTa, .ref a_sRe, .int v_sGo]))] s.heap → ∀ (ls : Array Slot), lv_has ls 3 [(0, .ref a_o), (1, .int x1), (2, .int x2)] → W p l e (headSpec wsX4_isOfSort rm_X4_isOfSort).room s m args below meth c s.heap [] 0 0 (MQ below (vp_Si (fun r => (r = 0 ∨ r = 1) ∧ Q r)) args s 0 0 (fun _ => False)) (F0 m 0 ls []) := by
  obtain ⟨hx, hb, hr, hml, hown, hts, hlocks⟩ := id C
  intro hP ls hl
  unfold wp_X4_isOfSort_in at h
  refine lv_iload_n hx hb dX4_isOfSort_0 rfl (lv_at hl 2 rfl) ?_
  refine lv_aload_n hx hb dX4_isOfSort_1 rfl (lv_at hl 0 rfl) ?_
  refine lv_iload_n hx hb dX4_isOfSort_2 rfl (lv_at hl 1 rfl) ?_
  refine tm_rV (As := [.int x1]) (rest := [.int x2]) (wc := [(a_o, .inr (4, [.ref a_f, .ref a_s])), (a_f, .inr (3, [.ref a_fTa, .ref a_fRe, .int v_fGo])), (a_s, .inr (3, [.ref a_sTa, .ref a_sRe, .int v_sGo]))]) ⟨hx, hb, hml, hown, hts⟩ (cn_X4_placeOf l D cI cB a_o a_f a_s a_fTa a_fRe a_sTa a_sRe v_fGo v_sGo x1 _ h) (cwV 1 hts gX4_isOfSort_X4_placeOf rfl rfl rfl (by decide +kernel) ⟨Nat.le_of_ble_eq_true rfl, Nat.le_of_ble_eq_true rfl⟩) hK (hP.sub [0, 1, 2] rfl) (va_recv hK.1 hP (ci := 4) (q0 := 0) rfl rfl) rfl hl.1 rfl (Nat.le_of_ble_eq_true rfl) ⟨Nat.zero_le _, Nat.zero_le _⟩ dX4_isOfSort_3 (fun r1 h => ?_)
  refine lv_ishr hx hb dX4_isOfSort_6 ?_
  refine lv_iconst (v := 1) hx hb dX4_isOfSort_7 (by decide) ?_
  refine lv_iand (x := (x2 >>> (r1 &&& 31))) (y := 1) hx hb dX4_isOfSort_8 ?_
  refine lv_iconst (v := 1) hx hb dX4_isOfSort_9 (by decide) ?_
  refine lv_icmp_ne (tgt := 17) hx hb dX4_isOfSort_10 (by decide) (fun c2 => ?_) (fun c2 => ?_)
  · have h := h.2 c2
    refine lv_iconst (v := 0) hx hb dX4_isOfSort_17 (by decide) ?_
    exact W.zret (v := 0) (ty := .boolean) hx hb hr (tm_n01 (Or.inl rfl)) (fun t ht hW => ⟨0, rfl, ⟨Or.inl rfl, h⟩, ht⟩) (fun _ h => by cases h) dX4_isOfSort_18
  · have h := h.1 c2
    refine lv_iconst (v := 1) hx hb dX4_isOfSort_13 (by decide) ?_
    refine lv_goto (tgt := 18) hx hb dX4_isOfSort_14 (by decide) ?_
    exact W.zret (v := 1) (ty := .boolean) hx hb hr (tm_n01 (Or.inr rfl)) (fun t ht hW => ⟨1, rfl, ⟨Or.inr rfl, h⟩, ht⟩) (fun _ h => by cases h) dX4_isOfSort_18
abbrev wp_X4_isOfSort (v_fGo : Int32) (v_sGo : Int32) (x1 : Int32) (x2 : Int32) (Q : Int32 → Prop) : Prop := wp_X4_isOfSort_in v_fGo v_sGo Q x1 x2
set_option maxRecDepth 100000 in
set_option maxHeartbeats 4000000 in
theorem cn_X4_isOfSort (l : Launch) (D : va_G) (cI cB : ClassId) (a_o a_f a_s a_fTa a_fRe a_sTa a_sRe : Nat) (v_fGo : Int32) (v_sGo : Int32) (x1 : Int32) (x2 : Int32) (Q : Int32 → Prop) (h : wp_X4_isOfSort v_fGo v_sGo x1 x2 Q) : Met l yX4_isOfSort wsX4_isOfSort rm_X4_isOfSort (tm_Pr D cI cB [.ref a_o, .int x1, .int x2] [(a_o, .inr (4, [.ref a_f, .ref a_s])), (a_f, .inr (3, [.ref a_fTa, .ref a_fRe, .int v_fGo])), (a_s, .inr (3, [.ref a_sTa, .ref a_sRe, .int v_sGo]))]) (vp_Si (fun r => (r = 0 ∨ r = 1) ∧ Q r)) 0 0 (fun _ => False) := by
  refine Met.ofW (cc := cX4_isOfSort) (maxL := 3) (ret := (some .boolean)) (by decide) rfl ?_
  intro p e s m args below meth c s₁ B hml hv
  obtain ⟨rfl, hP, hK⟩ := hv
  have hl := lv_entry ([.ref a_o, .int x1, .int x2]) (n := 3) (Nat.le_of_ble_eq_true rfl)
  rw [lg_entry_eq]
  generalize (lg_sl ([.ref a_o, .int x1, .int x2]) ++ List.replicate (3 - (lg_sl ([.ref a_o, .int x1, .int x2])).length) Slot.unset).toArray = ls at hl ⊢
  have hl : lv_has ls 3 [(0, .ref a_o), (1, .int x1), (2, .int x2)] := hl
  exact bk_X4_isOfSort_in ⟨B.exec, B.bytes, B.returns, hml, findClass_of_methodNamed B.named, atoms_spec (ws := wsX4_isOfSort) B.pre, B.notSynchronized⟩ hK x1 x2 h hP ls hl
