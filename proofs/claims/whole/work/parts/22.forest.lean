/-! X1_holds (I)Z -/
theorem in_X1_holds_X1 : ∀ w ∈ u_ws RX1 TX1 7, w ∈ wsX1_holds := by decide +kernel
abbrev rm_X1_holds : Room := { frames := 0, cells := 0, slots := 0, locals := 0 }
def wp_X1_holds_in (v_Ma : Int32) (Q : Int32 → Prop) (x1 : Int32) : Prop :=
  ((x1 < 0 → Q 0) ∧ (¬ (x1 < 0) → ((v_Ma ≤ x1 → Q 0) ∧ (¬ (v_Ma ≤ x1) → Q 1))))
set_option maxRecDepth 100000 in
set_option maxHeartbeats 4000000 in
theorem bk_X1_holds_in {p : Program} {l : Launch} {e : Env} {s : State} {m : MethodId} {args : Array Value} {below : List Frame} {meth : Method} {c : Code} {D : va_G} {cI cB : ClassId} {a_o a_Sy a_Le a_Ri a_Si a_Pr a_Un : Nat} {v_Ma : Int32} {Q : Int32 → Prop} (C : tm_cx p s m args meth c cX1_holds 2 (some .boolean) RX1 wsX1_holds) (hK : tm_kx D cI cB s) (x1 : Int32) (h : wp_X1_holds_in v_Ma Q x1) : va_P D vwCl [(a_o, .inr (1, [.ref a_Sy, .ref a_Le, .ref a_Ri, .ref a_Si, .ref a_Pr, .ref a_Un, .int v_Ma]))] s.heap → ∀ (ls : Array Slot), lv_has ls 2 [(0, .ref a_o), (1, .int x1)] → W p l e (headSpec wsX1_holds rm_X1_holds).room s m args below meth c s.heap [] 0 0 (MQ below (vp_Si (fun r => (r = 0 ∨ r = 1) ∧ Q r)) args s 0 0 (fun _ => False)) (F0 m 0 ls []) := by
  obtain ⟨hx, hb, hr, hml, hown, hts, hlocks⟩ := id C
  intro hP ls hl
  unfold wp_X1_holds_in at h
  refine lv_iload_n hx hb dX1_holds_0 rfl (lv_at hl 1 rfl) ?_
  refine lv_if_lt (tgt := 16) hx hb dX1_holds_1 (by decide) (fun c1 => ?_) (fun c1 => ?_)
  · have h := h.1 c1
    refine lv_iconst (v := 0) hx hb dX1_holds_16 (by decide) ?_
    exact W.zret (v := 0) (ty := .boolean) hx hb hr (tm_n01 (Or.inl rfl)) (fun t ht hW => ⟨0, rfl, ⟨Or.inl rfl, h⟩, ht⟩) (fun _ h => by cases h) dX1_holds_17
  · have h := h.2 c1
    refine lv_iload_n hx hb dX1_holds_4 rfl (lv_at hl 1 rfl) ?_
    refine lv_aload_n hx hb dX1_holds_5 rfl (lv_at hl 0 rfl) ?_
    refine va_get (D := D) (ci := 1) (v := .int v_Ma) (C := RX1) (T := TX1) (N := 7) hx hb hts in_X1_holds_X1 hown hK.1 hP 0 rfl rfl 6 (by decide) (hts (.fieldLink RX1 30 "TreeMachines$Forest" "made" "I") (by decide +kernel)) (fun _ h9 => h9) rfl dX1_holds_6 ?_
    refine lv_icmp_ge (tgt := 16) hx hb dX1_holds_9 (by decide) (fun c2 => ?_) (fun c2 => ?_)
    · have h := h.1 c2
      refine lv_iconst (v := 0) hx hb dX1_holds_16 (by decide) ?_
      exact W.zret (v := 0) (ty := .boolean) hx hb hr (tm_n01 (Or.inl rfl)) (fun t ht hW => ⟨0, rfl, ⟨Or.inl rfl, h⟩, ht⟩) (fun _ h => by cases h) dX1_holds_17
    · have h := h.2 c2
      refine lv_iconst (v := 1) hx hb dX1_holds_12 (by decide) ?_
      refine lv_goto (tgt := 17) hx hb dX1_holds_13 (by decide) ?_
      exact W.zret (v := 1) (ty := .boolean) hx hb hr (tm_n01 (Or.inr rfl)) (fun t ht hW => ⟨1, rfl, ⟨Or.inr rfl, h⟩, ht⟩) (fun _ h => by cases h) dX1_holds_17
abbrev wp_X1_holds (v_Ma : Int32) (x1 : Int32) (Q : Int32 → Prop) : Prop := wp_X1_holds_in v_Ma Q x1
set_option maxRecDepth 100000 in
set_option maxHeartbeats 4000000 in
theorem cn_X1_holds (l : Launch) (D : va_G) (cI cB : ClassId) (a_o a_Sy a_Le a_Ri a_Si a_Pr a_Un : Nat) (v_Ma : Int32) (x1 : Int32) (Q : Int32 → Prop) (h : wp_X1_holds v_Ma x1 Q) : Met l yX1_holds wsX1_holds rm_X1_holds (tm_Pr D cI cB [.ref a_o, .int x1] [(a_o, .inr (1, [.ref a_Sy, .ref a_Le, .ref a_Ri, .ref a_Si, .ref a_Pr, .ref a_Un, .int v_Ma]))]) (vp_Si (fun r => (r = 0 ∨ r = 1) ∧ Q r)) 0 0 (fun _ => False) := by
  refine Met.ofW (cc := cX1_holds) (maxL := 2) (ret := (some .boolean)) (by decide) rfl ?_
  intro p e s m args below meth c s₁ B hml hv
  obtain ⟨rfl, hP, hK⟩ := hv
  have hl := lv_entry ([.ref a_o, .int x1]) (n := 2) (Nat.le_of_ble_eq_true rfl)
  rw [lg_entry_eq]
  generalize (lg_sl ([.ref a_o, .int x1]) ++ List.replicate (2 - (lg_sl ([.ref a_o, .int x1])).length) Slot.unset).toArray = ls at hl ⊢
  have hl : lv_has ls 2 [(0, .ref a_o), (1, .int x1)] := hl
  exact bk_X1_holds_in ⟨B.exec, B.bytes, B.returns, hml, findClass_of_methodNamed B.named, atoms_spec (ws := wsX1_holds) B.pre, B.notSynchronized⟩ hK x1 h hP ls hl
/-! X1_count ()I -/
theorem in_X1_count_X1 : ∀ w ∈ u_ws RX1 TX1 7, w ∈ wsX1_count := by decide +kernel
abbrev rm_X1_count : Room := { frames := 0, cells := 0, slots := 0, locals := 0 }
def wp_X1_count_in (v_Ma : Int32) (Q : Int32 → Prop) : Prop :=
  Q v_Ma
set_option maxRecDepth 100000 in
set_option maxHeartbeats 4000000 in
theorem bk_X1_count_in {p : Program} {l : Launch} {e : Env} {s : State} {m : MethodId} {args : Array Value} {below : List Frame} {meth : Method} {c : Code} {D : va_G} {cI cB : ClassId} {a_o a_Sy a_Le a_Ri a_Si a_Pr a_Un : Nat} {v_Ma : Int32} {Q : Int32 → Prop} (C : tm_cx p s m args meth c cX1_count 1 (some .int) RX1 wsX1_count) (hK : tm_kx D cI cB s) (h : wp_X1_count_in v_Ma Q) : va_P D vwCl [(a_o, .inr (1, [.ref a_Sy, .ref a_Le, .ref a_Ri, .ref a_Si, .ref a_Pr, .ref a_Un, .int v_Ma]))] s.heap → ∀ (ls : Array Slot), lv_has ls 1 [(0, .ref a_o)] → W p l e (headSpec wsX1_count rm_X1_count).room s m args below meth c s.heap [] 0 0 (MQ below (vp_Si Q) args s 0 0 (fun _ => False)) (F0 m 0 ls []) := by
  obtain ⟨hx, hb, hr, hml, hown, hts, hlocks⟩ := id C
  intro hP ls hl
  unfold wp_X1_count_in at h
  refine lv_aload_n hx hb dX1_count_0 rfl (lv_at hl 0 rfl) ?_
  refine va_get (D := D) (ci := 1) (v := .int v_Ma) (C := RX1) (T := TX1) (N := 7) hx hb hts in_X1_count_X1 hown hK.1 hP 0 rfl rfl 6 (by decide) (hts (.fieldLink RX1 30 "TreeMachines$Forest" "made" "I") (by decide +kernel)) (fun _ h9 => h9) rfl dX1_count_1 ?_
  exact W.iret (v := v_Ma) hx hb hr (fun t ht hW => ⟨v_Ma, rfl, h, ht⟩) (fun _ h => by cases h) dX1_count_4
abbrev wp_X1_count (v_Ma : Int32) (Q : Int32 → Prop) : Prop := wp_X1_count_in v_Ma Q
set_option maxRecDepth 100000 in
set_option maxHeartbeats 4000000 in
theorem cn_X1_count (l : Launch) (D : va_G) (cI cB : ClassId) (a_o a_Sy a_Le a_Ri a_Si a_Pr a_Un : Nat) (v_Ma : Int32) (Q : Int32 → Prop) (h : wp_X1_count v_Ma Q) : Met l yX1_count wsX1_count rm_X1_count (tm_Pr D cI cB [.ref a_o] [(a_o, .inr (1, [.ref a_Sy, .ref a_Le, .ref a_Ri, .ref a_Si, .ref a_Pr, .ref a_Un, .int v_Ma]))]) (vp_Si Q) 0 0 (fun _ => False) := by
  refine Met.ofW (cc := cX1_count) (maxL := 1) (ret := (some .int)) (by decide) rfl ?_
  intro p e s m args below meth c s₁ B hml hv
  obtain ⟨rfl, hP, hK⟩ := hv
  have hl := lv_entry ([.ref a_o]) (n := 1) (Nat.le_of_ble_eq_true rfl)
  rw [lg_entry_eq]
  generalize (lg_sl ([.ref a_o]) ++ List.replicate (1 - (lg_sl ([.ref a_o])).length) Slot.unset).toArray = ls at hl ⊢
  have hl : lv_has ls 1 [(0, .ref a_o)] := hl
  exact bk_X1_count_in ⟨B.exec, B.bytes, B.returns, hml, findClass_of_methodNamed B.named, atoms_spec (ws := wsX1_count) B.pre, B.notSynchronized⟩ hK h hP ls hl
/-! X1_room ()I -/
theorem in_X1_room_X1 : ∀ w ∈ u_ws RX1 TX1 7, w ∈ wsX1_room := by decide +kernel
abbrev rm_X1_room : Room := { frames := 0, cells := 0, slots := 0, locals := 0 }
def wp_X1_room_in (v_Ma : Int32) (Q : Int32 → Prop) : Prop :=
  Q ((200 : Int32) - v_Ma)
set_option maxRecDepth 100000 in
set_option maxHeartbeats 4000000 in
theorem bk_X1_room_in {p : Program} {l : Launch} {e : Env} {s : State} {m : MethodId} {args : Array Value} {below : List Frame} {meth : Method} {c : Code} {D : va_G} {cI cB : ClassId} {a_o a_Sy a_Le a_Ri a_Si a_Pr a_Un : Nat} {v_Ma : Int32} {Q : Int32 → Prop} (C : tm_cx p s m args meth c cX1_room 1 (some .int) RX1 wsX1_room) (hK : tm_kx D cI cB s) (h : wp_X1_room_in v_Ma Q) : va_P D vwCl [(a_o, .inr (1, [.ref a_Sy, .ref a_Le, .ref a_Ri, .ref a_Si, .ref a_Pr, .ref a_Un, .int v_Ma]))] s.heap → ∀ (ls : Array Slot), lv_has ls 1 [(0, .ref a_o)] → W p l e (headSpec wsX1_room rm_X1_room).room s m args below meth c s.heap [] 0 0 (MQ below (vp_Si Q) args s 0 0 (fun _ => False)) (F0 m 0 ls []) := by
  obtain ⟨hx, hb, hr, hml, hown, hts, hlocks⟩ := id C
  intro hP ls hl
  unfold wp_X1_room_in at h
  refine lv_sipush (v := 200) hx hb dX1_room_0 (by decide) ?_
  refine lv_aload_n hx hb dX1_room_3 rfl (lv_at hl 0 rfl) ?_
  refine va_get (D := D) (ci := 1) (v := .int v_Ma) (C := RX1) (T := TX1) (N := 7) hx hb hts in_X1_room_X1 hown hK.1 hP 0 rfl rfl 6 (by decide) (hts (.fieldLink RX1 30 "TreeMachines$Forest" "made" "I") (by decide +kernel)) (fun _ h9 => h9) rfl dX1_room_4 ?_
  refine lv_isub (x := 200) (y := v_Ma) hx hb dX1_room_7 ?_
  exact W.iret (v := ((200 : Int32) - v_Ma)) hx hb hr (fun t ht hW => ⟨((200 : Int32) - v_Ma), rfl, h, ht⟩) (fun _ h => by cases h) dX1_room_8
abbrev wp_X1_room (v_Ma : Int32) (Q : Int32 → Prop) : Prop := wp_X1_room_in v_Ma Q
set_option maxRecDepth 100000 in
set_option maxHeartbeats 4000000 in
theorem cn_X1_room (l : Launch) (D : va_G) (cI cB : ClassId) (a_o a_Sy a_Le a_Ri a_Si a_Pr a_Un : Nat) (v_Ma : Int32) (Q : Int32 → Prop) (h : wp_X1_room v_Ma Q) : Met l yX1_room wsX1_room rm_X1_room (tm_Pr D cI cB [.ref a_o] [(a_o, .inr (1, [.ref a_Sy, .ref a_Le, .ref a_Ri, .ref a_Si, .ref a_Pr, .ref a_Un, .int v_Ma]))]) (vp_Si Q) 0 0 (fun _ => False) := by
  refine Met.ofW (cc := cX1_room) (maxL := 1) (ret := (some .int)) (by decide) rfl ?_
  intro p e s m args below meth c s₁ B hml hv
  obtain ⟨rfl, hP, hK⟩ := hv
  have hl := lv_entry ([.ref a_o]) (n := 1) (Nat.le_of_ble_eq_true rfl)
  rw [lg_entry_eq]
  generalize (lg_sl ([.ref a_o]) ++ List.replicate (1 - (lg_sl ([.ref a_o])).length) Slot.unset).toArray = ls at hl ⊢
  have hl : lv_has ls 1 [(0, .ref a_o)] := hl
  exact bk_X1_room_in ⟨B.exec, B.bytes, B.returns, hml, findClass_of_methodNamed B.named, atoms_spec (ws := wsX1_room) B.pre, B.notSynchronized⟩ hK h hP ls hl
/-! X1_symbolOf (I)I -/
theorem in_X1_symbolOf_X1 : ∀ w ∈ u_ws RX1 TX1 7, w ∈ wsX1_symbolOf := by decide +kernel
abbrev rm_X1_symbolOf : Room := { frames := 0, cells := 0, slots := 0, locals := 0 }
def wp_X1_symbolOf_in (v_Ma : Int32) (v_Sy : Nat → Int32) (Q : Int32 → Prop) (x1 : Int32) : Prop :=
  vp_in x1 200 ∧ Q (v_Sy (x1).toNatClampNeg)
set_option maxRecDepth 100000 in
set_option maxHeartbeats 4000000 in
theorem bk_X1_symbolOf_in {p : Program} {l : Launch} {e : Env} {s : State} {m : MethodId} {args : Array Value} {below : List Frame} {meth : Method} {c : Code} {D : va_G} {cI cB : ClassId} {a_o a_Sy a_Le a_Ri a_Si a_Pr a_Un : Nat} {v_Ma : Int32} {v_Sy : Nat → Int32} {Q : Int32 → Prop} (C : tm_cx p s m args meth c cX1_symbolOf 2 (some .int) RX1 wsX1_symbolOf) (hK : tm_kx D cI cB s) (x1 : Int32) (h : wp_X1_symbolOf_in v_Ma v_Sy Q x1) : va_P D vwCl [(a_o, .inr (1, [.ref a_Sy, .ref a_Le, .ref a_Ri, .ref a_Si, .ref a_Pr, .ref a_Un, .int v_Ma])), (a_Sy, .inl (cI, 200, .inl v_Sy))] s.heap → ∀ (ls : Array Slot), lv_has ls 2 [(0, .ref a_o), (1, .int x1)] → W p l e (headSpec wsX1_symbolOf rm_X1_symbolOf).room s m args below meth c s.heap [] 0 0 (MQ below (vp_Si Q) args s 0 0 (fun _ => False)) (F0 m 0 ls []) := by
  obtain ⟨hx, hb, hr, hml, hown, hts, hlocks⟩ := id C
  intro hP ls hl
  unfold wp_X1_symbolOf_in at h
  refine lv_aload_n hx hb dX1_symbolOf_0 rfl (lv_at hl 0 rfl) ?_
  refine va_get (D := D) (ci := 1) (v := .ref a_Sy) (C := RX1) (T := TX1) (N := 7) hx hb hts in_X1_symbolOf_X1 hown hK.1 hP 0 rfl rfl 0 (by decide) (hts (.fieldLink RX1 9 "TreeMachines$Forest" "symbols" "[I") (by decide +kernel)) (fun _ h9 => h9) rfl dX1_symbolOf_1 ?_
  refine lv_iload_n hx hb dX1_symbolOf_4 rfl (lv_at hl 1 rfl) ?_
  obtain ⟨b1, h⟩ := h
  refine va_iald hx hb hK.1 hP 1 0 rfl rfl b1 dX1_symbolOf_5 ?_
  exact W.iret (v := (v_Sy (x1).toNatClampNeg)) hx hb hr (fun t ht hW => ⟨(v_Sy (x1).toNatClampNeg), rfl, h, ht⟩) (fun _ h => by cases h) dX1_symbolOf_6
abbrev wp_X1_symbolOf (v_Ma : Int32) (v_Sy : Nat → Int32) (x1 : Int32) (Q : Int32 → Prop) : Prop := wp_X1_symbolOf_in v_Ma v_Sy Q x1
set_option maxRecDepth 100000 in
set_option maxHeartbeats 4000000 in
theorem cn_X1_symbolOf (l : Launch) (D : va_G) (cI cB : ClassId) (a_o a_Sy a_Le a_Ri a_Si a_Pr a_Un : Nat) (v_Ma : Int32) (v_Sy : Nat → Int32) (x1 : Int32) (Q : Int32 → Prop) (h : wp_X1_symbolOf v_Ma v_Sy x1 Q) : Met l yX1_symbolOf wsX1_symbolOf rm_X1_symbolOf (tm_Pr D cI cB [.ref a_o, .int x1] [(a_o, .inr (1, [.ref a_Sy, .ref a_Le, .ref a_Ri, .ref a_Si, .ref a_Pr, .ref a_Un, .int v_Ma])), (a_Sy, .inl (cI, 200, .inl v_Sy))]) (vp_Si Q) 0 0 (fun _ => False) := by
  refine Met.ofW (cc := cX1_symbolOf) (maxL := 2) (ret := (some .int)) (by decide) rfl ?_
  intro p e s m args below meth c s₁ B hml hv
  obtain ⟨rfl, hP, hK⟩ := hv
  have hl := lv_entry ([.ref a_o, .int x1]) (n := 2) (Nat.le_of_ble_eq_true rfl)
  rw [lg_entry_eq]
  generalize (lg_sl ([.ref a_o, .int x1]) ++ List.replicate (2 - (lg_sl ([.ref a_o, .int x1])).length) Slot.unset).toArray = ls at hl ⊢
  have hl : lv_has ls 2 [(0, .ref a_o), (1, .int x1)] := hl
  exact bk_X1_symbolOf_in ⟨B.exec, B.bytes, B.returns, hml, findClass_of_methodNamed B.named, atoms_spec (ws := wsX1_symbolOf) B.pre, B.notSynchronized⟩ hK x1 h hP ls hl
/-! X1_leftOf (I)I -/
theorem in_X1_leftOf_X1 : ∀ w ∈ u_ws RX1 TX1 7, w ∈ wsX1_leftOf := by decide +kernel
abbrev rm_X1_leftOf : Room := { frames := 0, cells := 0, slots := 0, locals := 0 }
def wp_X1_leftOf_in (v_Ma : Int32) (v_Le : Nat → Int32) (Q : Int32 → Prop) (x1 : Int32) : Prop :=
  vp_in x1 200 ∧ Q (v_Le (x1).toNatClampNeg)
set_option maxRecDepth 100000 in
set_option maxHeartbeats 4000000 in
theorem bk_X1_leftOf_in {p : Program} {l : Launch} {e : Env} {s : State} {m : MethodId} {args : Array Value} {below : List Frame} {meth : Method} {c : Code} {D : va_G} {cI cB : ClassId} {a_o a_Sy a_Le a_Ri a_Si a_Pr a_Un : Nat} {v_Ma : Int32} {v_Le : Nat → Int32} {Q : Int32 → Prop} (C : tm_cx p s m args meth c cX1_leftOf 2 (some .int) RX1 wsX1_leftOf) (hK : tm_kx D cI cB s) (x1 : Int32) (h : wp_X1_leftOf_in v_Ma v_Le Q x1) : va_P D vwCl [(a_o, .inr (1, [.ref a_Sy, .ref a_Le, .ref a_Ri, .ref a_Si, .ref a_Pr, .ref a_Un, .int v_Ma])), (a_Le, .inl (cI, 200, .inl v_Le))] s.heap → ∀ (ls : Array Slot), lv_has ls 2 [(0, .ref a_o), (1, .int x1)] → W p l e (headSpec wsX1_leftOf rm_X1_leftOf).room s m args below meth c s.heap [] 0 0 (MQ below (vp_Si Q) args s 0 0 (fun _ => False)) (F0 m 0 ls []) := by
  obtain ⟨hx, hb, hr, hml, hown, hts, hlocks⟩ := id C
  intro hP ls hl
  unfold wp_X1_leftOf_in at h
  refine lv_aload_n hx hb dX1_leftOf_0 rfl (lv_at hl 0 rfl) ?_
  refine va_get (D := D) (ci := 1) (v := .ref a_Le) (C := RX1) (T := TX1) (N := 7) hx hb hts in_X1_leftOf_X1 hown hK.1 hP 0 rfl rfl 1 (by decide) (hts (.fieldLink RX1 15 "TreeMachines$Forest" "lefts" "[I") (by decide +kernel)) (fun _ h9 => h9) rfl dX1_leftOf_1 ?_
  refine lv_iload_n hx hb dX1_leftOf_4 rfl (lv_at hl 1 rfl) ?_
  obtain ⟨b1, h⟩ := h
  refine va_iald hx hb hK.1 hP 1 0 rfl rfl b1 dX1_leftOf_5 ?_
  exact W.iret (v := (v_Le (x1).toNatClampNeg)) hx hb hr (fun t ht hW => ⟨(v_Le (x1).toNatClampNeg), rfl, h, ht⟩) (fun _ h => by cases h) dX1_leftOf_6
abbrev wp_X1_leftOf (v_Ma : Int32) (v_Le : Nat → Int32) (x1 : Int32) (Q : Int32 → Prop) : Prop := wp_X1_leftOf_in v_Ma v_Le Q x1
set_option maxRecDepth 100000 in
set_option maxHeartbeats 4000000 in
theorem cn_X1_leftOf (l : Launch) (D : va_G) (cI cB : ClassId) (a_o a_Sy a_Le a_Ri a_Si a_Pr a_Un : Nat) (v_Ma : Int32) (v_Le : Nat → Int32) (x1 : Int32) (Q : Int32 → Prop) (h : wp_X1_leftOf v_Ma v_Le x1 Q) : Met l yX1_leftOf wsX1_leftOf rm_X1_leftOf (tm_Pr D cI cB [.ref a_o, .int x1] [(a_o, .inr (1, [.ref a_Sy, .ref a_Le, .ref a_Ri, .ref a_Si, .ref a_Pr, .ref a_Un, .int v_Ma])), (a_Le, .inl (cI, 200, .inl v_Le))]) (vp_Si Q) 0 0 (fun _ => False) := by
  refine Met.ofW (cc := cX1_leftOf) (maxL := 2) (ret := (some .int)) (by decide) rfl ?_
  intro p e s m args below meth c s₁ B hml hv
  obtain ⟨rfl, hP, hK⟩ := hv
  have hl := lv_entry ([.ref a_o, .int x1]) (n := 2) (Nat.le_of_ble_eq_true rfl)
  rw [lg_entry_eq]
  generalize (lg_sl ([.ref a_o, .int x1]) ++ List.replicate (2 - (lg_sl ([.ref a_o, .int x1])).length) Slot.unset).toArray = ls at hl ⊢
  have hl : lv_has ls 2 [(0, .ref a_o), (1, .int x1)] := hl
  exact bk_X1_leftOf_in ⟨B.exec, B.bytes, B.returns, hml, findClass_of_methodNamed B.named, atoms_spec (ws := wsX1_leftOf) B.pre, B.notSynchronized⟩ hK x1 h hP ls hl
/-! X1_rightOf (I)I -/
theorem in_X1_rightOf_X1 : ∀ w ∈ u_ws RX1 TX1 7, w ∈ wsX1_rightOf := by decide +kernel
abbrev rm_X1_rightOf : Room := { frames := 0, cells := 0, slots := 0, locals := 0 }
def wp_X1_rightOf_in (v_Ma : Int32) (v_Ri : Nat → Int32) (Q : Int32 → Prop) (x1 : Int32) : Prop :=
  vp_in x1 200 ∧ Q (v_Ri (x1).toNatClampNeg)
set_option maxRecDepth 100000 in
set_option maxHeartbeats 4000000 in
theorem bk_X1_rightOf_in {p : Program} {l : Launch} {e : Env} {s : State} {m : MethodId} {args : Array Value} {below : List Frame} {meth : Method} {c : Code} {D : va_G} {cI cB : ClassId} {a_o a_Sy a_Le a_Ri a_Si a_Pr a_Un : Nat} {v_Ma : Int32} {v_Ri : Nat → Int32} {Q : Int32 → Prop} (C : tm_cx p s m args meth c cX1_rightOf 2 (some .int) RX1 wsX1_rightOf) (hK : tm_kx D cI cB s) (x1 : Int32) (h : wp_X1_rightOf_in v_Ma v_Ri Q x1) : va_P D vwCl [(a_o, .inr (1, [.ref a_Sy, .ref a_Le, .ref a_Ri, .ref a_Si, .ref a_Pr, .ref a_Un, .int v_Ma])), (a_Ri, .inl (cI, 200, .inl v_Ri))] s.heap → ∀ (ls : Array Slot), lv_has ls 2 [(0, .ref a_o), (1, .int x1)] → W p l e (headSpec wsX1_rightOf rm_X1_rightOf).room s m args below meth c s.heap [] 0 0 (MQ below (vp_Si Q) args s 0 0 (fun _ => False)) (F0 m 0 ls []) := by
  obtain ⟨hx, hb, hr, hml, hown, hts, hlocks⟩ := id C
  intro hP ls hl
  unfold wp_X1_rightOf_in at h
  refine lv_aload_n hx hb dX1_rightOf_0 rfl (lv_at hl 0 rfl) ?_
  refine va_get (D := D) (ci := 1) (v := .ref a_Ri) (C := RX1) (T := TX1) (N := 7) hx hb hts in_X1_rightOf_X1 hown hK.1 hP 0 rfl rfl 2 (by decide) (hts (.fieldLink RX1 18 "TreeMachines$Forest" "rights" "[I") (by decide +kernel)) (fun _ h9 => h9) rfl dX1_rightOf_1 ?_
  refine lv_iload_n hx hb dX1_rightOf_4 rfl (lv_at hl 1 rfl) ?_
  obtain ⟨b1, h⟩ := h
  refine va_iald hx hb hK.1 hP 1 0 rfl rfl b1 dX1_rightOf_5 ?_
  exact W.iret (v := (v_Ri (x1).toNatClampNeg)) hx hb hr (fun t ht hW => ⟨(v_Ri (x1).toNatClampNeg), rfl, h, ht⟩) (fun _ h => by cases h) dX1_rightOf_6
abbrev wp_X1_rightOf (v_Ma : Int32) (v_Ri : Nat → Int32) (x1 : Int32) (Q : Int32 → Prop) : Prop := wp_X1_rightOf_in v_Ma v_Ri Q x1
set_option maxRecDepth 100000 in
set_option maxHeartbeats 4000000 in
theorem cn_X1_rightOf (l : Launch) (D : va_G) (cI cB : ClassId) (a_o a_Sy a_Le a_Ri a_Si a_Pr a_Un : Nat) (v_Ma : Int32) (v_Ri : Nat → Int32) (x1 : Int32) (Q : Int32 → Prop) (h : wp_X1_rightOf v_Ma v_Ri x1 Q) : Met l yX1_rightOf wsX1_rightOf rm_X1_rightOf (tm_Pr D cI cB [.ref a_o, .int x1] [(a_o, .inr (1, [.ref a_Sy, .ref a_Le, .ref a_Ri, .ref a_Si, .ref a_Pr, .ref a_Un, .int v_Ma])), (a_Ri, .inl (cI, 200, .inl v_Ri))]) (vp_Si Q) 0 0 (fun _ => False) := by
  refine Met.ofW (cc := cX1_rightOf) (maxL := 2) (ret := (some .int)) (by decide) rfl ?_
  intro p e s m args below meth c s₁ B hml hv
  obtain ⟨rfl, hP, hK⟩ := hv
  have hl := lv_entry ([.ref a_o, .int x1]) (n := 2) (Nat.le_of_ble_eq_true rfl)
  rw [lg_entry_eq]
  generalize (lg_sl ([.ref a_o, .int x1]) ++ List.replicate (2 - (lg_sl ([.ref a_o, .int x1])).length) Slot.unset).toArray = ls at hl ⊢
  have hl : lv_has ls 2 [(0, .ref a_o), (1, .int x1)] := hl
  exact bk_X1_rightOf_in ⟨B.exec, B.bytes, B.returns, hml, findClass_of_methodNamed B.named, atoms_spec (ws := wsX1_rightOf) B.pre, B.notSynchronized⟩ hK x1 h hP ls hl
/-! X1_sizeOf (I)I -/
theorem in_X1_sizeOf_X1 : ∀ w ∈ u_ws RX1 TX1 7, w ∈ wsX1_sizeOf := by decide +kernel
abbrev rm_X1_sizeOf : Room := { frames := 0, cells := 0, slots := 0, locals := 0 }
def wp_X1_sizeOf_in (v_Ma : Int32) (v_Si : Nat → Int32) (Q : Int32 → Prop) (x1 : Int32) : Prop :=
  vp_in x1 200 ∧ Q (v_Si (x1).toNatClampNeg)
set_option maxRecDepth 100000 in
set_option maxHeartbeats 4000000 in
theorem bk_X1_sizeOf_in {p : Program} {l : Launch} {e : Env} {s : State} {m : MethodId} {args : Array Value} {below : List Frame} {meth : Method} {c : Code} {D : va_G} {cI cB : ClassId} {a_o a_Sy a_Le a_Ri a_Si a_Pr a_Un : Nat} {v_Ma : Int32} {v_Si : Nat → Int32} {Q : Int32 → Prop} (C : tm_cx p s m args meth c cX1_sizeOf 2 (some .int) RX1 wsX1_sizeOf) (hK : tm_kx D cI cB s) (x1 : Int32) (h : wp_X1_sizeOf_in v_Ma v_Si Q x1) : va_P D vwCl [(a_o, .inr (1, [.ref a_Sy, .ref a_Le, .ref a_Ri, .ref a_Si, .ref a_Pr, .ref a_Un, .int v_Ma])), (a_Si, .inl (cI, 200, .inl v_Si))] s.heap → ∀ (ls : Array Slot), lv_has ls 2 [(0, .ref a_o), (1, .int x1)] → W p l e (headSpec wsX1_sizeOf rm_X1_sizeOf).room s m args below meth c s.heap [] 0 0 (MQ below (vp_Si Q) args s 0 0 (fun _ => False)) (F0 m 0 ls []) := by
  obtain ⟨hx, hb, hr, hml, hown, hts, hlocks⟩ := id C
  intro hP ls hl
  unfold wp_X1_sizeOf_in at h
  refine lv_aload_n hx hb dX1_sizeOf_0 rfl (lv_at hl 0 rfl) ?_
  refine va_get (D := D) (ci := 1) (v := .ref a_Si) (C := RX1) (T := TX1) (N := 7) hx hb hts in_X1_sizeOf_X1 hown hK.1 hP 0 rfl rfl 3 (by decide) (hts (.fieldLink RX1 21 "TreeMachines$Forest" "sizes" "[I") (by decide +kernel)) (fun _ h9 => h9) rfl dX1_sizeOf_1 ?_
  refine lv_iload_n hx hb dX1_sizeOf_4 rfl (lv_at hl 1 rfl) ?_
  obtain ⟨b1, h⟩ := h
  refine va_iald hx hb hK.1 hP 1 0 rfl rfl b1 dX1_sizeOf_5 ?_
  exact W.iret (v := (v_Si (x1).toNatClampNeg)) hx hb hr (fun t ht hW => ⟨(v_Si (x1).toNatClampNeg), rfl, h, ht⟩) (fun _ h => by cases h) dX1_sizeOf_6
abbrev wp_X1_sizeOf (v_Ma : Int32) (v_Si : Nat → Int32) (x1 : Int32) (Q : Int32 → Prop) : Prop := wp_X1_sizeOf_in v_Ma v_Si Q x1
set_option maxRecDepth 100000 in
set_option maxHeartbeats 4000000 in
theorem cn_X1_sizeOf (l : Launch) (D : va_G) (cI cB : ClassId) (a_o a_Sy a_Le a_Ri a_Si a_Pr a_Un : Nat) (v_Ma : Int32) (v_Si : Nat → Int32) (x1 : Int32) (Q : Int32 → Prop) (h : wp_X1_sizeOf v_Ma v_Si x1 Q) : Met l yX1_sizeOf wsX1_sizeOf rm_X1_sizeOf (tm_Pr D cI cB [.ref a_o, .int x1] [(a_o, .inr (1, [.ref a_Sy, .ref a_Le, .ref a_Ri, .ref a_Si, .ref a_Pr, .ref a_Un, .int v_Ma])), (a_Si, .inl (cI, 200, .inl v_Si))]) (vp_Si Q) 0 0 (fun _ => False) := by
  refine Met.ofW (cc := cX1_sizeOf) (maxL := 2) (ret := (some .int)) (by decide) rfl ?_
  intro p e s m args below meth c s₁ B hml hv
  obtain ⟨rfl, hP, hK⟩ := hv
  have hl := lv_entry ([.ref a_o, .int x1]) (n := 2) (Nat.le_of_ble_eq_true rfl)
  rw [lg_entry_eq]
  generalize (lg_sl ([.ref a_o, .int x1]) ++ List.replicate (2 - (lg_sl ([.ref a_o, .int x1])).length) Slot.unset).toArray = ls at hl ⊢
  have hl : lv_has ls 2 [(0, .ref a_o), (1, .int x1)] := hl
  exact bk_X1_sizeOf_in ⟨B.exec, B.bytes, B.returns, hml, findClass_of_methodNamed B.named, atoms_spec (ws := wsX1_sizeOf) B.pre, B.notSynchronized⟩ hK x1 h hP ls hl
/-! X1_sizeOrZero (I)I -/
theorem in_X1_sizeOrZero_X1 : ∀ w ∈ u_ws RX1 TX1 7, w ∈ wsX1_sizeOrZero := by decide +kernel
abbrev rm_X1_sizeOrZero : Room := { frames := 0, cells := 0, slots := 0, locals := 0 }
def wp_X1_sizeOrZero_in (v_Ma : Int32) (v_Si : Nat → Int32) (Q : Int32 → Prop) (x1 : Int32) : Prop :=
  ((x1 = (-1) → Q 0) ∧ (¬ (x1 = (-1)) → vp_in x1 200 ∧ Q (v_Si (x1).toNatClampNeg)))
set_option maxRecDepth 100000 in
set_option maxHeartbeats 4000000 in
theorem bk_X1_sizeOrZero_in {p : Program} {l : Launch} {e : Env} {s : State} {m : MethodId} {args : Array Value} {below : List Frame} {meth : Method} {c : Code} {D : va_G} {cI cB : ClassId} {a_o a_Sy a_Le a_Ri a_Si a_Pr a_Un : Nat} {v_Ma : Int32} {v_Si : Nat → Int32} {Q : Int32 → Prop} (C : tm_cx p s m args meth c cX1_sizeOrZero 2 (some .int) RX1 wsX1_sizeOrZero) (hK : tm_kx D cI cB s) (x1 : Int32) (h : wp_X1_sizeOrZero_in v_Ma v_Si Q x1) : va_P D vwCl [(a_o, .inr (1, [.ref a_Sy, .ref a_Le, .ref a_Ri, .ref a_Si, .ref a_Pr, .ref a_Un, .int v_Ma])), (a_Si, .inl (cI, 200, .inl v_Si))] s.heap → ∀ (ls : Array Slot), lv_has ls 2 [(0, .ref a_o), (1, .int x1)] → W p l e (headSpec wsX1_sizeOrZero rm_X1_sizeOrZero).room s m args below meth c s.heap [] 0 0 (MQ below (vp_Si Q) args s 0 0 (fun _ => False)) (F0 m 0 ls []) := by
  obtain ⟨hx, hb, hr, hml, hown, hts, hlocks⟩ := id C
  intro hP ls hl
  unfold wp_X1_sizeOrZero_in at h
  refine lv_iload_n hx hb dX1_sizeOrZero_0 rfl (lv_at hl 1 rfl) ?_
  refine lv_iconst (v := (-1)) hx hb dX1_sizeOrZero_1 (by decide) ?_
  refine lv_icmp_ne (tgt := 9) hx hb dX1_sizeOrZero_2 (by decide) (fun c1 => ?_) (fun c1 => ?_)
  · have h := h.2 c1
    refine lv_aload_n hx hb dX1_sizeOrZero_9 rfl (lv_at hl 0 rfl) ?_
    refine va_get (D := D) (ci := 1) (v := .ref a_Si) (C := RX1) (T := TX1) (N := 7) hx hb hts in_X1_sizeOrZero_X1 hown hK.1 hP 0 rfl rfl 3 (by decide) (hts (.fieldLink RX1 21 "TreeMachines$Forest" "sizes" "[I") (by decide +kernel)) (fun _ h9 => h9) rfl dX1_sizeOrZero_10 ?_
    refine lv_iload_n hx hb dX1_sizeOrZero_13 rfl (lv_at hl 1 rfl) ?_
    obtain ⟨b2, h⟩ := h
    refine va_iald hx hb hK.1 hP 1 0 rfl rfl b2 dX1_sizeOrZero_14 ?_
    exact W.iret (v := (v_Si (x1).toNatClampNeg)) hx hb hr (fun t ht hW => ⟨(v_Si (x1).toNatClampNeg), rfl, h, ht⟩) (fun _ h => by cases h) dX1_sizeOrZero_15
  · have h := h.1 c1
    refine lv_iconst (v := 0) hx hb dX1_sizeOrZero_5 (by decide) ?_
    refine lv_goto (tgt := 15) hx hb dX1_sizeOrZero_6 (by decide) ?_
    exact W.iret (v := 0) hx hb hr (fun t ht hW => ⟨0, rfl, h, ht⟩) (fun _ h => by cases h) dX1_sizeOrZero_15
abbrev wp_X1_sizeOrZero (v_Ma : Int32) (v_Si : Nat → Int32) (x1 : Int32) (Q : Int32 → Prop) : Prop := wp_X1_sizeOrZero_in v_Ma v_Si Q x1
set_option maxRecDepth 100000 in
set_option maxHeartbeats 4000000 in
theorem cn_X1_sizeOrZero (l : Launch) (D : va_G) (cI cB : ClassId) (a_o a_Sy a_Le a_Ri a_Si a_Pr a_Un : Nat) (v_Ma : Int32) (v_Si : Nat → Int32) (x1 : Int32) (Q : Int32 → Prop) (h : wp_X1_sizeOrZero v_Ma v_Si x1 Q) : Met l yX1_sizeOrZero wsX1_sizeOrZero rm_X1_sizeOrZero (tm_Pr D cI cB [.ref a_o, .int x1] [(a_o, .inr (1, [.ref a_Sy, .ref a_Le, .ref a_Ri, .ref a_Si, .ref a_Pr, .ref a_Un, .int v_Ma])), (a_Si, .inl (cI, 200, .inl v_Si))]) (vp_Si Q) 0 0 (fun _ => False) := by
  refine Met.ofW (cc := cX1_sizeOrZero) (maxL := 2) (ret := (some .int)) (by decide) rfl ?_
  intro p e s m args below meth c s₁ B hml hv
  obtain ⟨rfl, hP, hK⟩ := hv
  have hl := lv_entry ([.ref a_o, .int x1]) (n := 2) (Nat.le_of_ble_eq_true rfl)
  rw [lg_entry_eq]
  generalize (lg_sl ([.ref a_o, .int x1]) ++ List.replicate (2 - (lg_sl ([.ref a_o, .int x1])).length) Slot.unset).toArray = ls at hl ⊢
  have hl : lv_has ls 2 [(0, .ref a_o), (1, .int x1)] := hl
  exact bk_X1_sizeOrZero_in ⟨B.exec, B.bytes, B.returns, hml, findClass_of_methodNamed B.named, atoms_spec (ws := wsX1_sizeOrZero) B.pre, B.notSynchronized⟩ hK x1 h hP ls hl
/-! X1_add (III)I -/
theorem in_X1_add_X1 : ∀ w ∈ u_ws RX1 TX1 7, w ∈ wsX1_add := by decide +kernel
abbrev rm_X1_add : Room := { frames := 1, cells := 0, slots := 0, locals := 24 }
def wp_X1_add_51 (Q : Int32 → Int32 → (Nat → Int32) → (Nat → Int32) → (Nat → Int32) → (Nat → Int32) → Prop) (v_Ma : Int32) (v_Le : Nat → Int32) (v_Ri : Nat → Int32) (v_Si : Nat → Int32) (v_Sy : Nat → Int32) (z1 : Int32) (z2 : Int32) (x4 : Int32) : Prop :=
  vp_in z1 200 ∧ ∀ f_10 : Nat → Int32, f_10 = upd v_Ri (z1).toNatClampNeg z2 → vp_in x4 200 ∧ wp_X1_sizeOrZero v_Ma v_Si (v_Le (x4).toNatClampNeg) (fun r12 => vp_in x4 200 ∧ wp_X1_sizeOrZero v_Ma v_Si (f_10 (x4).toNatClampNeg) (fun r14 => vp_in x4 200 ∧ ∀ f_16 : Nat → Int32, f_16 = upd v_Si (x4).toNatClampNeg (if (((1 : Int32) + r12) + r14) < 1000 then (((1 : Int32) + r12) + r14) else 1000) → ∀ g_17 : Int32, g_17 = (v_Ma + 1) → Q x4 g_17 v_Le f_10 f_16 v_Sy))
set_option maxRecDepth 100000 in
set_option maxHeartbeats 4000000 in
theorem bk_X1_add_51 {p : Program} {l : Launch} {e : Env} {s : State} {m : MethodId} {args : Array Value} {below : List Frame} {meth : Method} {c : Code} {D : va_G} {cI cB : ClassId} {a_o a_Sy a_Le a_Ri a_Si a_Pr a_Un : Nat} {A : Nat → Prop} {Q : Int32 → Int32 → (Nat → Int32) → (Nat → Int32) → (Nat → Int32) → (Nat → Int32) → Prop} (C : tm_cx p s m args meth c cX1_add 5 (some .int) RX1 wsX1_add) (hK : tm_kx D cI cB s) (hA : ∀ q : Nat, s.heap.size ≤ q → A q) (v_Ma : Int32) (v_Le : Nat → Int32) (v_Ri : Nat → Int32) (v_Si : Nat → Int32) (v_Sy : Nat → Int32) (z1 : Int32) (z2 : Int32) (x4 : Int32) (h : wp_X1_add_51 Q v_Ma v_Le v_Ri v_Si v_Sy z1 z2 x4) : ∀ (H : Heap) (locs : List Loc), va_P D vwCl [(a_o, .inr (1, [.ref a_Sy, .ref a_Le, .ref a_Ri, .ref a_Si, .ref a_Pr, .ref a_Un, .int v_Ma])), (a_Le, .inl (cI, 200, .inl v_Le)), (a_Ri, .inl (cI, 200, .inl v_Ri)), (a_Si, .inl (cI, 200, .inl v_Si)), (a_Sy, .inl (cI, 200, .inl v_Sy))] H → va_D A [(a_o, .inr (1, [.ref a_Sy, .ref a_Le, .ref a_Ri, .ref a_Si, .ref a_Pr, .ref a_Un, .int v_Ma])), (a_Le, .inl (cI, 200, .inl v_Le)), (a_Ri, .inl (cI, 200, .inl v_Ri)), (a_Si, .inl (cI, 200, .inl v_Si)), (a_Sy, .inl (cI, 200, .inl v_Sy))] → va_S A s.heap H locs → ∀ (ls : Array Slot), lv_has ls 5 [(0, .ref a_o), (4, .int x4)] → W p l e (headSpec wsX1_add rm_X1_add).room s m args below meth c H locs 0 0 (MQ below (va_Qi (fun (r : Int32) (u : Int32 × (Nat → Int32) × (Nat → Int32) × (Nat → Int32) × (Nat → Int32)) => Q r u.1 u.2.1 u.2.2.1 u.2.2.2.1 u.2.2.2.2) (tm_B D (fun (u : Int32 × (Nat → Int32) × (Nat → Int32) × (Nat → Int32) × (Nat → Int32)) => [(a_o, .inr (1, [.ref a_Sy, .ref a_Le, .ref a_Ri, .ref a_Si, .ref a_Pr, .ref a_Un, .int u.1])), (a_Le, .inl (cI, 200, .inl u.2.1)), (a_Ri, .inl (cI, 200, .inl u.2.2.1)), (a_Si, .inl (cI, 200, .inl u.2.2.2.1)), (a_Sy, .inl (cI, 200, .inl u.2.2.2.2))]) A) A) args s 0 0 A) (F0 m 51 ls [.int z2, .int z1, .ref a_Ri]) := by
  obtain ⟨hx, hb, hr, hml, hown, hts, hlocks⟩ := id C
  intro H locs hP hD hS ls hl
  unfold wp_X1_add_51 at h
  obtain ⟨b9, h⟩ := h
  refine va_iast hx hb hK.1 hP hD hS 2 0 rfl rfl b9 dX1_add_51 (fun H locs hP hD hS => ?_)
  obtain ⟨f_10, ef_10⟩ : ∃ y : Nat → Int32, y = upd v_Ri (z1).toNatClampNeg z2 := ⟨_, rfl⟩
  have h := h f_10 ef_10
  have hP : va_P D vwCl [(a_o, .inr (1, [.ref a_Sy, .ref a_Le, .ref a_Ri, .ref a_Si, .ref a_Pr, .ref a_Un, .int v_Ma])), (a_Le, .inl (cI, 200, .inl v_Le)), (a_Ri, .inl (cI, 200, .inl f_10)), (a_Si, .inl (cI, 200, .inl v_Si)), (a_Sy, .inl (cI, 200, .inl v_Sy))] H := by rw [ef_10]; exact hP
  have hD : va_D A [(a_o, .inr (1, [.ref a_Sy, .ref a_Le, .ref a_Ri, .ref a_Si, .ref a_Pr, .ref a_Un, .int v_Ma])), (a_Le, .inl (cI, 200, .inl v_Le)), (a_Ri, .inl (cI, 200, .inl f_10)), (a_Si, .inl (cI, 200, .inl v_Si)), (a_Sy, .inl (cI, 200, .inl v_Sy))] := by rw [ef_10]; exact hD
  refine lv_aload_n hx hb dX1_add_52 rfl (lv_at hl 0 rfl) ?_
  refine va_get (D := D) (ci := 1) (v := .ref a_Si) (C := RX1) (T := TX1) (N := 7) hx hb hts in_X1_add_X1 hown hK.1 hP 0 rfl rfl 3 (by decide) (hts (.fieldLink RX1 21 "TreeMachines$Forest" "sizes" "[I") (by decide +kernel)) (fun _ h9 => h9) rfl dX1_add_53 ?_
  refine lv_iload hx hb dX1_add_56 (lv_at hl 1 rfl) ?_
  refine lv_sipush (v := 1000) hx hb dX1_add_58 (by decide) ?_
  refine lv_iconst (v := 1) hx hb dX1_add_61 (by decide) ?_
  refine lv_aload_n hx hb dX1_add_62 rfl (lv_at hl 0 rfl) ?_
  refine lv_aload_n hx hb dX1_add_63 rfl (lv_at hl 0 rfl) ?_
  refine va_get (D := D) (ci := 1) (v := .ref a_Le) (C := RX1) (T := TX1) (N := 7) hx hb hts in_X1_add_X1 hown hK.1 hP 0 rfl rfl 1 (by decide) (hts (.fieldLink RX1 15 "TreeMachines$Forest" "lefts" "[I") (by decide +kernel)) (fun _ h9 => h9) rfl dX1_add_64 ?_
  refine lv_iload hx hb dX1_add_67 (lv_at hl 1 rfl) ?_
  obtain ⟨b11, h⟩ := h
  refine va_iald hx hb hK.1 hP 1 0 rfl rfl b11 dX1_add_69 ?_
  refine tm_rV (As := [.int (v_Le (x4).toNatClampNeg)]) (rest := [.int 1, .int 1000, .int x4, .ref a_Si]) (wc := [(a_o, .inr (1, [.ref a_Sy, .ref a_Le, .ref a_Ri, .ref a_Si, .ref a_Pr, .ref a_Un, .int v_Ma])), (a_Si, .inl (cI, 200, .inl v_Si))]) ⟨hx, hb, hml, hown, hts⟩ (cn_X1_sizeOrZero l D cI cB a_o a_Sy a_Le a_Ri a_Si a_Pr a_Un v_Ma v_Si (v_Le (x4).toNatClampNeg) _ h) (cwV 1 hts gX1_add_X1_sizeOrZero rfl rfl rfl (by decide +kernel) ⟨Nat.le_of_ble_eq_true rfl, Nat.le_of_ble_eq_true rfl⟩) hK (hP.sub [0, 3] rfl) (va_recv hK.1 hP (ci := 1) (q0 := 0) rfl rfl) rfl hl.1 rfl (Nat.le_of_ble_eq_true rfl) ⟨Nat.zero_le _, Nat.zero_le _⟩ dX1_add_70 (fun r12 h => ?_)
  refine lv_iadd (x := 1) (y := r12) hx hb dX1_add_73 ?_
  refine lv_aload_n hx hb dX1_add_74 rfl (lv_at hl 0 rfl) ?_
  refine lv_aload_n hx hb dX1_add_75 rfl (lv_at hl 0 rfl) ?_
  refine va_get (D := D) (ci := 1) (v := .ref a_Ri) (C := RX1) (T := TX1) (N := 7) hx hb hts in_X1_add_X1 hown hK.1 hP 0 rfl rfl 2 (by decide) (hts (.fieldLink RX1 18 "TreeMachines$Forest" "rights" "[I") (by decide +kernel)) (fun _ h9 => h9) rfl dX1_add_76 ?_
  refine lv_iload hx hb dX1_add_79 (lv_at hl 1 rfl) ?_
  obtain ⟨b13, h⟩ := h
  refine va_iald hx hb hK.1 hP 2 0 rfl rfl b13 dX1_add_81 ?_
  refine tm_rV (As := [.int (f_10 (x4).toNatClampNeg)]) (rest := [.int ((1 : Int32) + r12), .int 1000, .int x4, .ref a_Si]) (wc := [(a_o, .inr (1, [.ref a_Sy, .ref a_Le, .ref a_Ri, .ref a_Si, .ref a_Pr, .ref a_Un, .int v_Ma])), (a_Si, .inl (cI, 200, .inl v_Si))]) ⟨hx, hb, hml, hown, hts⟩ (cn_X1_sizeOrZero l D cI cB a_o a_Sy a_Le a_Ri a_Si a_Pr a_Un v_Ma v_Si (f_10 (x4).toNatClampNeg) _ h) (cwV 1 hts gX1_add_X1_sizeOrZero rfl rfl rfl (by decide +kernel) ⟨Nat.le_of_ble_eq_true rfl, Nat.le_of_ble_eq_true rfl⟩) hK (hP.sub [0, 3] rfl) (va_recv hK.1 hP (ci := 1) (q0 := 0) rfl rfl) rfl hl.1 rfl (Nat.le_of_ble_eq_true rfl) ⟨Nat.zero_le _, Nat.zero_le _⟩ dX1_add_82 (fun r14 h => ?_)
  refine lv_iadd hx hb dX1_add_85 ?_
  refine va_mmin (x := 1000) (y := (((1 : Int32) + r12) + r14)) hx hb (by rw [hml]; exact hl.1.symm) hown (hts (.methodLink RX1 45 Lib.Math.min.name) (by decide +kernel)) (hts (.static Lib.Math.min.name) (by decide +kernel)) (hts (.initialized "java/lang/Math") (by decide +kernel)) (hts (.code Lib.Math.min.name Lib.Math.min.code 2 (some .int)) (by decide +kernel)) (Nat.le_of_ble_eq_true rfl) (Nat.le_of_ble_eq_true rfl) (Nat.zero_le _) (Nat.zero_le _) dX1_add_86 ?_
  obtain ⟨b15, h⟩ := h
  refine va_iast hx hb hK.1 hP hD hS 3 0 rfl rfl b15 dX1_add_89 (fun H locs hP hD hS => ?_)
  obtain ⟨f_16, ef_16⟩ : ∃ y : Nat → Int32, y = upd v_Si (x4).toNatClampNeg (if (((1 : Int32) + r12) + r14) < 1000 then (((1 : Int32) + r12) + r14) else 1000) := ⟨_, rfl⟩
  have h := h f_16 ef_16
  have hP : va_P D vwCl [(a_o, .inr (1, [.ref a_Sy, .ref a_Le, .ref a_Ri, .ref a_Si, .ref a_Pr, .ref a_Un, .int v_Ma])), (a_Le, .inl (cI, 200, .inl v_Le)), (a_Ri, .inl (cI, 200, .inl f_10)), (a_Si, .inl (cI, 200, .inl f_16)), (a_Sy, .inl (cI, 200, .inl v_Sy))] H := by rw [ef_16]; exact hP
  have hD : va_D A [(a_o, .inr (1, [.ref a_Sy, .ref a_Le, .ref a_Ri, .ref a_Si, .ref a_Pr, .ref a_Un, .int v_Ma])), (a_Le, .inl (cI, 200, .inl v_Le)), (a_Ri, .inl (cI, 200, .inl f_10)), (a_Si, .inl (cI, 200, .inl f_16)), (a_Sy, .inl (cI, 200, .inl v_Sy))] := by rw [ef_16]; exact hD
  refine lv_aload_n hx hb dX1_add_90 rfl (lv_at hl 0 rfl) ?_
  refine lv_dup hx hb dX1_add_91 rfl ?_
  refine va_get (D := D) (ci := 1) (v := .int v_Ma) (C := RX1) (T := TX1) (N := 7) hx hb hts in_X1_add_X1 hown hK.1 hP 0 rfl rfl 6 (by decide) (hts (.fieldLink RX1 30 "TreeMachines$Forest" "made" "I") (by decide +kernel)) (fun _ h9 => h9) rfl dX1_add_92 ?_
  refine lv_iconst (v := 1) hx hb dX1_add_95 (by decide) ?_
  refine lv_iadd (x := v_Ma) (y := 1) hx hb dX1_add_96 ?_
  refine lv_topi (fun g_17 eg_17 => ?_)
  have h := h g_17 eg_17
  refine va_put (D := D) (ci := 1) (v := .int g_17) (ty := .int) (C := RX1) (T := TX1) (N := 7) hx hb hts in_X1_add_X1 tyX1 tyX1_ok nmX1 hown hK.1 hP hD hS 0 rfl rfl 6 (by decide) (hts (.fieldLink RX1 30 "TreeMachines$Forest" "made" "I") (by decide +kernel)) (fun _ h9 => h9) rfl (by decide +kernel) rfl rfl (Nat.le_of_ble_eq_true rfl) dX1_add_97 (fun H locs hP hD hS => ?_)
  have hP : va_P D vwCl [(a_o, .inr (1, [.ref a_Sy, .ref a_Le, .ref a_Ri, .ref a_Si, .ref a_Pr, .ref a_Un, .int g_17])), (a_Le, .inl (cI, 200, .inl v_Le)), (a_Ri, .inl (cI, 200, .inl f_10)), (a_Si, .inl (cI, 200, .inl f_16)), (a_Sy, .inl (cI, 200, .inl v_Sy))] H := hP
  have hD : va_D A [(a_o, .inr (1, [.ref a_Sy, .ref a_Le, .ref a_Ri, .ref a_Si, .ref a_Pr, .ref a_Un, .int g_17])), (a_Le, .inl (cI, 200, .inl v_Le)), (a_Ri, .inl (cI, 200, .inl f_10)), (a_Si, .inl (cI, 200, .inl f_16)), (a_Sy, .inl (cI, 200, .inl v_Sy))] := hD
  refine lv_iload hx hb dX1_add_100 (lv_at hl 1 rfl) ?_
  exact W.iret (v := x4) hx hb hr (fun t ht hW => ⟨⟨x4, (g_17, v_Le, f_10, f_16, v_Sy), rfl, h, by rw [ht]; exact hP, hD⟩, hS.F ht⟩) hS.2.2 dX1_add_102
def wp_X1_add_32 (Q : Int32 → Int32 → (Nat → Int32) → (Nat → Int32) → (Nat → Int32) → (Nat → Int32) → Prop) (v_Ma : Int32) (v_Le : Nat → Int32) (v_Ri : Nat → Int32) (v_Si : Nat → Int32) (v_Sy : Nat → Int32) (z1 : Int32) (z2 : Int32) (x1 : Int32) (x3 : Int32) (x4 : Int32) : Prop :=
  vp_in z1 200 ∧ ∀ f_6 : Nat → Int32, f_6 = upd v_Le (z1).toNatClampNeg z2 → wp_X5_hasRight x1 (fun r7 => ((r7 = 0 → wp_X1_add_51 Q v_Ma f_6 v_Ri v_Si v_Sy x4 (-1) x4) ∧ (¬ (r7 = 0) → wp_X1_add_51 Q v_Ma f_6 v_Ri v_Si v_Sy x4 x3 x4)))
set_option maxRecDepth 100000 in
set_option maxHeartbeats 4000000 in
theorem bk_X1_add_32 {p : Program} {l : Launch} {e : Env} {s : State} {m : MethodId} {args : Array Value} {below : List Frame} {meth : Method} {c : Code} {D : va_G} {cI cB : ClassId} {a_o a_Sy a_Le a_Ri a_Si a_Pr a_Un : Nat} {A : Nat → Prop} {Q : Int32 → Int32 → (Nat → Int32) → (Nat → Int32) → (Nat → Int32) → (Nat → Int32) → Prop} (C : tm_cx p s m args meth c cX1_add 5 (some .int) RX1 wsX1_add) (hK : tm_kx D cI cB s) (hA : ∀ q : Nat, s.heap.size ≤ q → A q) (v_Ma : Int32) (v_Le : Nat → Int32) (v_Ri : Nat → Int32) (v_Si : Nat → Int32) (v_Sy : Nat → Int32) (z1 : Int32) (z2 : Int32) (x1 : Int32) (x3 : Int32) (x4 : Int32) (h : wp_X1_add_32 Q v_Ma v_Le v_Ri v_Si v_Sy z1 z2 x1 x3 x4) : ∀ (H : Heap) (locs : List Loc), va_P D vwCl [(a_o, .inr (1, [.ref a_Sy, .ref a_Le, .ref a_Ri, .ref a_Si, .ref a_Pr, .ref a_Un, .int v_Ma])), (a_Le, .inl (cI, 200, .inl v_Le)), (a_Ri, .inl (cI, 200, .inl v_Ri)), (a_Si, .inl (cI, 200, .inl v_Si)), (a_Sy, .inl (cI, 200, .inl v_Sy))] H → va_D A [(a_o, .inr (1, [.ref a_Sy, .ref a_Le, .ref a_Ri, .ref a_Si, .ref a_Pr, .ref a_Un, .int v_Ma])), (a_Le, .inl (cI, 200, .inl v_Le)), (a_Ri, .inl (cI, 200, .inl v_Ri)), (a_Si, .inl (cI, 200, .inl v_Si)), (a_Sy, .inl (cI, 200, .inl v_Sy))] → va_S A s.heap H locs → ∀ (ls : Array Slot), lv_has ls 5 [(0, .ref a_o), (1, .int x1), (3, .int x3), (4, .int x4)] → W p l e (headSpec wsX1_add rm_X1_add).room s m args below meth c H locs 0 0 (MQ below (va_Qi (fun (r : Int32) (u : Int32 × (Nat → Int32) × (Nat → Int32) × (Nat → Int32) × (Nat → Int32)) => Q r u.1 u.2.1 u.2.2.1 u.2.2.2.1 u.2.2.2.2) (tm_B D (fun (u : Int32 × (Nat → Int32) × (Nat → Int32) × (Nat → Int32) × (Nat → Int32)) => [(a_o, .inr (1, [.ref a_Sy, .ref a_Le, .ref a_Ri, .ref a_Si, .ref a_Pr, .ref a_Un, .int u.1])), (a_Le, .inl (cI, 200, .inl u.2.1)), (a_Ri, .inl (cI, 200, .inl u.2.2.1)), (a_Si, .inl (cI, 200, .inl u.2.2.2.1)), (a_Sy, .inl (cI, 200, .inl u.2.2.2.2))]) A) A) args s 0 0 A) (F0 m 32 ls [.int z2, .int z1, .ref a_Le]) := by
  obtain ⟨hx, hb, hr, hml, hown, hts, hlocks⟩ := id C
  intro H locs hP hD hS ls hl
  unfold wp_X1_add_32 at h
  obtain ⟨b5, h⟩ := h
  refine va_iast hx hb hK.1 hP hD hS 1 0 rfl rfl b5 dX1_add_32 (fun H locs hP hD hS => ?_)
  obtain ⟨f_6, ef_6⟩ : ∃ y : Nat → Int32, y = upd v_Le (z1).toNatClampNeg z2 := ⟨_, rfl⟩
  have h := h f_6 ef_6
  have hP : va_P D vwCl [(a_o, .inr (1, [.ref a_Sy, .ref a_Le, .ref a_Ri, .ref a_Si, .ref a_Pr, .ref a_Un, .int v_Ma])), (a_Le, .inl (cI, 200, .inl f_6)), (a_Ri, .inl (cI, 200, .inl v_Ri)), (a_Si, .inl (cI, 200, .inl v_Si)), (a_Sy, .inl (cI, 200, .inl v_Sy))] H := by rw [ef_6]; exact hP
  have hD : va_D A [(a_o, .inr (1, [.ref a_Sy, .ref a_Le, .ref a_Ri, .ref a_Si, .ref a_Pr, .ref a_Un, .int v_Ma])), (a_Le, .inl (cI, 200, .inl f_6)), (a_Ri, .inl (cI, 200, .inl v_Ri)), (a_Si, .inl (cI, 200, .inl v_Si)), (a_Sy, .inl (cI, 200, .inl v_Sy))] := by rw [ef_6]; exact hD
  refine lv_aload_n hx hb dX1_add_33 rfl (lv_at hl 0 rfl) ?_
  refine va_get (D := D) (ci := 1) (v := .ref a_Ri) (C := RX1) (T := TX1) (N := 7) hx hb hts in_X1_add_X1 hown hK.1 hP 0 rfl rfl 2 (by decide) (hts (.fieldLink RX1 18 "TreeMachines$Forest" "rights" "[I") (by decide +kernel)) (fun _ h9 => h9) rfl dX1_add_34 ?_
  refine lv_iload hx hb dX1_add_37 (lv_at hl 3 rfl) ?_
  refine lv_iload_n hx hb dX1_add_39 rfl (lv_at hl 1 rfl) ?_
  refine tm_rSN (As := [.int x1]) (rest := [.int x4, .ref a_Ri]) (wc := []) ⟨hx, hb, hml, hown, hts⟩ (cn_X5_hasRight l D cI cB x1 _ h) ⟨va_cnB 1 hts gX1_add_X5_hasRight_n38 rfl rfl rfl hK.2.2.2.2.1 (hts (.initialized RX5) (by decide +kernel)) (by decide +kernel) ⟨Nat.le_of_ble_eq_true rfl, Nat.le_of_ble_eq_true rfl⟩, hts (.static yX5_hasRight) (by decide +kernel), trivial⟩ hK (hP.sub [] rfl) rfl hl.1 rfl (Nat.le_of_ble_eq_true rfl) ⟨Nat.zero_le _, Nat.zero_le _⟩ dX1_add_40 (fun r7 h => ?_)
  obtain ⟨br7, h⟩ := h
  refine lv_if_eq (tgt := 50) hx hb dX1_add_43 (by decide) (fun c8 => ?_) (fun c8 => ?_)
  · have h := h.1 c8
    refine lv_iconst (v := (-1)) hx hb dX1_add_50 (by decide) ?_
    exact bk_X1_add_51 C hK hA v_Ma f_6 v_Ri v_Si v_Sy x4 (-1) x4 h H locs hP hD hS ls (lv_sub hl [0, 3] rfl)
  · have h := h.2 c8
    refine lv_iload_n hx hb dX1_add_46 rfl (lv_at hl 2 rfl) ?_
    refine lv_goto (tgt := 51) hx hb dX1_add_47 (by decide) ?_
    exact bk_X1_add_51 C hK hA v_Ma f_6 v_Ri v_Si v_Sy x4 x3 x4 h H locs hP hD hS ls (lv_sub hl [0, 3] rfl)
def wp_X1_add_in (Q : Int32 → Int32 → (Nat → Int32) → (Nat → Int32) → (Nat → Int32) → (Nat → Int32) → Prop) (v_Ma : Int32) (v_Le : Nat → Int32) (v_Ri : Nat → Int32) (v_Si : Nat → Int32) (v_Sy : Nat → Int32) (x1 : Int32) (x2 : Int32) (x3 : Int32) : Prop :=
  vp_in v_Ma 200 ∧ ∀ f_2 : Nat → Int32, f_2 = upd v_Sy (v_Ma).toNatClampNeg x1 → wp_X5_hasLeft x1 (fun r3 => ((r3 = 0 → wp_X1_add_32 Q v_Ma v_Le v_Ri v_Si f_2 v_Ma (-1) x1 x3 v_Ma) ∧ (¬ (r3 = 0) → wp_X1_add_32 Q v_Ma v_Le v_Ri v_Si f_2 v_Ma x2 x1 x3 v_Ma)))
set_option maxRecDepth 100000 in
set_option maxHeartbeats 4000000 in
theorem bk_X1_add_in {p : Program} {l : Launch} {e : Env} {s : State} {m : MethodId} {args : Array Value} {below : List Frame} {meth : Method} {c : Code} {D : va_G} {cI cB : ClassId} {a_o a_Sy a_Le a_Ri a_Si a_Pr a_Un : Nat} {A : Nat → Prop} {Q : Int32 → Int32 → (Nat → Int32) → (Nat → Int32) → (Nat → Int32) → (Nat → Int32) → Prop} (C : tm_cx p s m args meth c cX1_add 5 (some .int) RX1 wsX1_add) (hK : tm_kx D cI cB s) (hA : ∀ q : Nat, s.heap.size ≤ q → A q) (v_Ma : Int32) (v_Le : Nat → Int32) (v_Ri : Nat → Int32) (v_Si : Nat → Int32) (v_Sy : Nat → Int32) (x1 : Int32) (x2 : Int32) (x3 : Int32) (h : wp_X1_add_in Q v_Ma v_Le v_Ri v_Si v_Sy x1 x2 x3) : ∀ (H : Heap) (locs : List Loc), va_P D vwCl [(a_o, .inr (1, [.ref a_Sy, .ref a_Le, .ref a_Ri, .ref a_Si, .ref a_Pr, .ref a_Un, .int v_Ma])), (a_Le, .inl (cI, 200, .inl v_Le)), (a_Ri, .inl (cI, 200, .inl v_Ri)), (a_Si, .inl (cI, 200, .inl v_Si)), (a_Sy, .inl (cI, 200, .inl v_Sy))] H → va_D A [(a_o, .inr (1, [.ref a_Sy, .ref a_Le, .ref a_Ri, .ref a_Si, .ref a_Pr, .ref a_Un, .int v_Ma])), (a_Le, .inl (cI, 200, .inl v_Le)), (a_Ri, .inl (cI, 200, .inl v_Ri)), (a_Si, .inl (cI, 200, .inl v_Si)), (a_Sy, .inl (cI, 200, .inl v_Sy))] → va_S A s.heap H locs → ∀ (ls : Array Slot), lv_has ls 5 [(0, .ref a_o), (1, .int x1), (2, .int x2), (3, .int x3)] → W p l e (headSpec wsX1_add rm_X1_add).room s m args below meth c H locs 0 0 (MQ below (va_Qi (fun (r : Int32) (u : Int32 × (Nat → Int32) × (Nat → Int32) × (Nat → Int32) × (Nat → Int32)) => Q r u.1 u.2.1 u.2.2.1 u.2.2.2.1 u.2.2.2.2) (tm_B D (fun (u : Int32 × (Nat → Int32) × (Nat → Int32) × (Nat → Int32) × (Nat → Int32)) => [(a_o, .inr (1, [.ref a_Sy, .ref a_Le, .ref a_Ri, .ref a_Si, .ref a_Pr, .ref a_Un, .int u.1])), (a_Le, .inl (cI, 200, .inl u.2.1)), (a_Ri, .inl (cI, 200, .inl u.2.2.1)), (a_Si, .inl (cI, 200, .inl u.2.2.2.1)), (a_Sy, .inl (cI, 200, .inl u.2.2.2.2))]) A) A) args s 0 0 A) (F0 m 0 ls []) := by
  obtain ⟨hx, hb, hr, hml, hown, hts, hlocks⟩ := id C
  intro H locs hP hD hS ls hl
  unfold wp_X1_add_in at h
  refine lv_aload_n hx hb dX1_add_0 rfl (lv_at hl 0 rfl) ?_
  refine va_get (D := D) (ci := 1) (v := .int v_Ma) (C := RX1) (T := TX1) (N := 7) hx hb hts in_X1_add_X1 hown hK.1 hP 0 rfl rfl 6 (by decide) (hts (.fieldLink RX1 30 "TreeMachines$Forest" "made" "I") (by decide +kernel)) (fun _ h9 => h9) rfl dX1_add_1 ?_
  refine lv_istore (lv' := [(4, .int v_Ma), (0, .ref a_o), (1, .int x1), (2, .int x2), (3, .int x3)]) hx hb dX1_add_4 hl (by decide) rfl (fun ls hl => ?_)
  refine lv_aload_n hx hb dX1_add_6 rfl (lv_at hl 1 rfl) ?_
  refine va_get (D := D) (ci := 1) (v := .ref a_Sy) (C := RX1) (T := TX1) (N := 7) hx hb hts in_X1_add_X1 hown hK.1 hP 0 rfl rfl 0 (by decide) (hts (.fieldLink RX1 9 "TreeMachines$Forest" "symbols" "[I") (by decide +kernel)) (fun _ h9 => h9) rfl dX1_add_7 ?_
  refine lv_iload hx hb dX1_add_10 (lv_at hl 0 rfl) ?_
  refine lv_iload_n hx hb dX1_add_12 rfl (lv_at hl 2 rfl) ?_
  obtain ⟨b1, h⟩ := h
  refine va_iast hx hb hK.1 hP hD hS 4 0 rfl rfl b1 dX1_add_13 (fun H locs hP hD hS => ?_)
  obtain ⟨f_2, ef_2⟩ : ∃ y : Nat → Int32, y = upd v_Sy (v_Ma).toNatClampNeg x1 := ⟨_, rfl⟩
  have h := h f_2 ef_2
  have hP : va_P D vwCl [(a_o, .inr (1, [.ref a_Sy, .ref a_Le, .ref a_Ri, .ref a_Si, .ref a_Pr, .ref a_Un, .int v_Ma])), (a_Le, .inl (cI, 200, .inl v_Le)), (a_Ri, .inl (cI, 200, .inl v_Ri)), (a_Si, .inl (cI, 200, .inl v_Si)), (a_Sy, .inl (cI, 200, .inl f_2))] H := by rw [ef_2]; exact hP
  have hD : va_D A [(a_o, .inr (1, [.ref a_Sy, .ref a_Le, .ref a_Ri, .ref a_Si, .ref a_Pr, .ref a_Un, .int v_Ma])), (a_Le, .inl (cI, 200, .inl v_Le)), (a_Ri, .inl (cI, 200, .inl v_Ri)), (a_Si, .inl (cI, 200, .inl v_Si)), (a_Sy, .inl (cI, 200, .inl f_2))] := by rw [ef_2]; exact hD
  refine lv_aload_n hx hb dX1_add_14 rfl (lv_at hl 1 rfl) ?_
  refine va_get (D := D) (ci := 1) (v := .ref a_Le) (C := RX1) (T := TX1) (N := 7) hx hb hts in_X1_add_X1 hown hK.1 hP 0 rfl rfl 1 (by decide) (hts (.fieldLink RX1 15 "TreeMachines$Forest" "lefts" "[I") (by decide +kernel)) (fun _ h9 => h9) rfl dX1_add_15 ?_
  refine lv_iload hx hb dX1_add_18 (lv_at hl 0 rfl) ?_
  refine lv_iload_n hx hb dX1_add_20 rfl (lv_at hl 2 rfl) ?_
  refine tm_rSN (As := [.int x1]) (rest := [.int v_Ma, .ref a_Le]) (wc := []) ⟨hx, hb, hml, hown, hts⟩ (cn_X5_hasLeft l D cI cB x1 _ h) ⟨va_cnB 1 hts gX1_add_X5_hasLeft_n34 rfl rfl rfl hK.2.2.2.1 (hts (.initialized RX5) (by decide +kernel)) (by decide +kernel) ⟨Nat.le_of_ble_eq_true rfl, Nat.le_of_ble_eq_true rfl⟩, hts (.static yX5_hasLeft) (by decide +kernel), trivial⟩ hK (hP.sub [] rfl) rfl hl.1 rfl (Nat.le_of_ble_eq_true rfl) ⟨Nat.zero_le _, Nat.zero_le _⟩ dX1_add_21 (fun r3 h => ?_)
  obtain ⟨br3, h⟩ := h
  refine lv_if_eq (tgt := 31) hx hb dX1_add_24 (by decide) (fun c4 => ?_) (fun c4 => ?_)
  · have h := h.1 c4
    refine lv_iconst (v := (-1)) hx hb dX1_add_31 (by decide) ?_
    exact bk_X1_add_32 C hK hA v_Ma v_Le v_Ri v_Si f_2 v_Ma (-1) x1 x3 v_Ma h H locs hP hD hS ls (lv_sub hl [1, 2, 4, 0] rfl)
  · have h := h.2 c4
    refine lv_iload_n hx hb dX1_add_27 rfl (lv_at hl 3 rfl) ?_
    refine lv_goto (tgt := 32) hx hb dX1_add_28 (by decide) ?_
    exact bk_X1_add_32 C hK hA v_Ma v_Le v_Ri v_Si f_2 v_Ma x2 x1 x3 v_Ma h H locs hP hD hS ls (lv_sub hl [1, 2, 4, 0] rfl)
abbrev wp_X1_add (v_Ma : Int32) (v_Le : Nat → Int32) (v_Ri : Nat → Int32) (v_Si : Nat → Int32) (v_Sy : Nat → Int32) (x1 : Int32) (x2 : Int32) (x3 : Int32) (Q : Int32 → Int32 → (Nat → Int32) → (Nat → Int32) → (Nat → Int32) → (Nat → Int32) → Prop) : Prop := wp_X1_add_in Q v_Ma v_Le v_Ri v_Si v_Sy x1 x2 x3
set_option maxRecDepth 100000 in
set_option maxHeartbeats 4000000 in
theorem cn_X1_add (l : Launch) (D : va_G) (cI cB : ClassId) (a_o a_Sy a_Le a_Ri a_Si a_Pr a_Un : Nat) (v_Ma : Int32) (v_Le : Nat → Int32) (v_Ri : Nat → Int32) (v_Si : Nat → Int32) (v_Sy : Nat → Int32) (x1 : Int32) (x2 : Int32) (x3 : Int32) (sz : Nat) (Q : Int32 → Int32 → (Nat → Int32) → (Nat → Int32) → (Nat → Int32) → (Nat → Int32) → Prop) (h : wp_X1_add v_Ma v_Le v_Ri v_Si v_Sy x1 x2 x3 Q) : Met l yX1_add wsX1_add rm_X1_add (tm_Pw D cI cB [.ref a_o, .int x1, .int x2, .int x3] [(a_o, .inr (1, [.ref a_Sy, .ref a_Le, .ref a_Ri, .ref a_Si, .ref a_Pr, .ref a_Un, .int v_Ma])), (a_Le, .inl (cI, 200, .inl v_Le)), (a_Ri, .inl (cI, 200, .inl v_Ri)), (a_Si, .inl (cI, 200, .inl v_Si)), (a_Sy, .inl (cI, 200, .inl v_Sy))] sz) (va_Qi (fun (r : Int32) (u : Int32 × (Nat → Int32) × (Nat → Int32) × (Nat → Int32) × (Nat → Int32)) => Q r u.1 u.2.1 u.2.2.1 u.2.2.2.1 u.2.2.2.2) (tm_B D (fun (u : Int32 × (Nat → Int32) × (Nat → Int32) × (Nat → Int32) × (Nat → Int32)) => [(a_o, .inr (1, [.ref a_Sy, .ref a_Le, .ref a_Ri, .ref a_Si, .ref a_Pr, .ref a_Un, .int u.1])), (a_Le, .inl (cI, 200, .inl u.2.1)), (a_Ri, .inl (cI, 200, .inl u.2.2.1)), (a_Si, .inl (cI, 200, .inl u.2.2.2.1)), (a_Sy, .inl (cI, 200, .inl u.2.2.2.2))]) (va_A [(a_o, .inr (1, [.ref a_Sy, .ref a_Le, .ref a_Ri, .ref a_Si, .ref a_Pr, .ref a_Un, .int v_Ma])), (a_Le, .inl (cI, 200, .inl v_Le)), (a_Ri, .inl (cI, 200, .inl v_Ri)), (a_Si, .inl (cI, 200, .inl v_Si)), (a_Sy, .inl (cI, 200, .inl v_Sy))] sz)) (va_A [(a_o, .inr (1, [.ref a_Sy, .ref a_Le, .ref a_Ri, .ref a_Si, .ref a_Pr, .ref a_Un, .int v_Ma])), (a_Le, .inl (cI, 200, .inl v_Le)), (a_Ri, .inl (cI, 200, .inl v_Ri)), (a_Si, .inl (cI, 200, .inl v_Si)), (a_Sy, .inl (cI, 200, .inl v_Sy))] sz)) 0 0 (va_A [(a_o, .inr (1, [.ref a_Sy, .ref a_Le, .ref a_Ri, .ref a_Si, .ref a_Pr, .ref a_Un, .int v_Ma])), (a_Le, .inl (cI, 200, .inl v_Le)), (a_Ri, .inl (cI, 200, .inl v_Ri)), (a_Si, .inl (cI, 200, .inl v_Si)), (a_Sy, .inl (cI, 200, .inl v_Sy))] sz) := by
  refine Met.ofW (cc := cX1_add) (maxL := 5) (ret := (some .int)) (by decide) rfl ?_
  intro p e s m args below meth c s₁ B hml hv
  obtain ⟨rfl, hsz, hP, hK, hD0⟩ := hv
  subst hsz
  have hD := hD0.self (sz := s.heap.size)
  generalize hAe : va_A [(a_o, .inr (1, [.ref a_Sy, .ref a_Le, .ref a_Ri, .ref a_Si, .ref a_Pr, .ref a_Un, .int v_Ma])), (a_Le, .inl (cI, 200, .inl v_Le)), (a_Ri, .inl (cI, 200, .inl v_Ri)), (a_Si, .inl (cI, 200, .inl v_Si)), (a_Sy, .inl (cI, 200, .inl v_Sy))] s.heap.size = A at hD ⊢
  have hA : ∀ q : Nat, s.heap.size ≤ q → A q := fun q h => by rw [← hAe]; exact Or.inr h
  have hl := lv_entry ([.ref a_o, .int x1, .int x2, .int x3]) (n := 5) (Nat.le_of_ble_eq_true rfl)
  rw [lg_entry_eq]
  generalize (lg_sl ([.ref a_o, .int x1, .int x2, .int x3]) ++ List.replicate (5 - (lg_sl ([.ref a_o, .int x1, .int x2, .int x3])).length) Slot.unset).toArray = ls at hl ⊢
  have hl : lv_has ls 5 [(0, .ref a_o), (1, .int x1), (2, .int x2), (3, .int x3)] := hl
  exact bk_X1_add_in ⟨B.exec, B.bytes, B.returns, hml, findClass_of_methodNamed B.named, atoms_spec (ws := wsX1_add) B.pre, B.notSynchronized⟩ hK hA v_Ma v_Le v_Ri v_Si v_Sy x1 x2 x3 h s.heap [] hP hD va_S.rf ls hl
/-! X1_childProfile (I)I -/
theorem in_X1_childProfile_X1 : ∀ w ∈ u_ws RX1 TX1 7, w ∈ wsX1_childProfile := by decide +kernel
abbrev rm_X1_childProfile : Room := { frames := 0, cells := 0, slots := 0, locals := 0 }
def wp_X1_childProfile_in (v_Ma : Int32) (v_Pr : Nat → Int32) (Q : Int32 → Prop) (x1 : Int32) : Prop :=
  ((x1 = (-1) → Q 17) ∧ (¬ (x1 = (-1)) → vp_in x1 200 ∧ Q (v_Pr (x1).toNatClampNeg)))
set_option maxRecDepth 100000 in
set_option maxHeartbeats 4000000 in
theorem bk_X1_childProfile_in {p : Program} {l : Launch} {e : Env} {s : State} {m : MethodId} {args : Array Value} {below : List Frame} {meth : Method} {c : Code} {D : va_G} {cI cB : ClassId} {a_o a_Sy a_Le a_Ri a_Si a_Pr a_Un : Nat} {v_Ma : Int32} {v_Pr : Nat → Int32} {Q : Int32 → Prop} (C : tm_cx p s m args meth c cX1_childProfile 2 (some .int) RX1 wsX1_childProfile) (hK : tm_kx D cI cB s) (x1 : Int32) (h : wp_X1_childProfile_in v_Ma v_Pr Q x1) : va_P D vwCl [(a_o, .inr (1, [.ref a_Sy, .ref a_Le, .ref a_Ri, .ref a_Si, .ref a_Pr, .ref a_Un, .int v_Ma])), (a_Pr, .inl (cI, 200, .inl v_Pr))] s.heap → ∀ (ls : Array Slot), lv_has ls 2 [(0, .ref a_o), (1, .int x1)] → W p l e (headSpec wsX1_childProfile rm_X1_childProfile).room s m args below meth c s.heap [] 0 0 (MQ below (vp_Si Q) args s 0 0 (fun _ => False)) (F0 m 0 ls []) := by
  obtain ⟨hx, hb, hr, hml, hown, hts, hlocks⟩ := id C
  intro hP ls hl
  unfold wp_X1_childProfile_in at h
  refine lv_iload_n hx hb dX1_childProfile_0 rfl (lv_at hl 1 rfl) ?_
  refine lv_iconst (v := (-1)) hx hb dX1_childProfile_1 (by decide) ?_
  refine lv_icmp_ne (tgt := 10) hx hb dX1_childProfile_2 (by decide) (fun c1 => ?_) (fun c1 => ?_)
  · have h := h.2 c1
    refine lv_aload_n hx hb dX1_childProfile_10 rfl (lv_at hl 0 rfl) ?_
    refine va_get (D := D) (ci := 1) (v := .ref a_Pr) (C := RX1) (T := TX1) (N := 7) hx hb hts in_X1_childProfile_X1 hown hK.1 hP 0 rfl rfl 4 (by decide) (hts (.fieldLink RX1 24 "TreeMachines$Forest" "profiles" "[I") (by decide +kernel)) (fun _ h9 => h9) rfl dX1_childProfile_11 ?_
    refine lv_iload_n hx hb dX1_childProfile_14 rfl (lv_at hl 1 rfl) ?_
    obtain ⟨b2, h⟩ := h
    refine va_iald hx hb hK.1 hP 1 0 rfl rfl b2 dX1_childProfile_15 ?_
    exact W.iret (v := (v_Pr (x1).toNatClampNeg)) hx hb hr (fun t ht hW => ⟨(v_Pr (x1).toNatClampNeg), rfl, h, ht⟩) (fun _ h => by cases h) dX1_childProfile_16
  · have h := h.1 c1
    refine lv_bipush (v := 17) hx hb dX1_childProfile_5 (by decide) ?_
    refine lv_goto (tgt := 16) hx hb dX1_childProfile_7 (by decide) ?_
    exact W.iret (v := 17) hx hb hr (fun t ht hW => ⟨17, rfl, h, ht⟩) (fun _ h => by cases h) dX1_childProfile_16
abbrev wp_X1_childProfile (v_Ma : Int32) (v_Pr : Nat → Int32) (x1 : Int32) (Q : Int32 → Prop) : Prop := wp_X1_childProfile_in v_Ma v_Pr Q x1
set_option maxRecDepth 100000 in
set_option maxHeartbeats 4000000 in
theorem cn_X1_childProfile (l : Launch) (D : va_G) (cI cB : ClassId) (a_o a_Sy a_Le a_Ri a_Si a_Pr a_Un : Nat) (v_Ma : Int32) (v_Pr : Nat → Int32) (x1 : Int32) (Q : Int32 → Prop) (h : wp_X1_childProfile v_Ma v_Pr x1 Q) : Met l yX1_childProfile wsX1_childProfile rm_X1_childProfile (tm_Pr D cI cB [.ref a_o, .int x1] [(a_o, .inr (1, [.ref a_Sy, .ref a_Le, .ref a_Ri, .ref a_Si, .ref a_Pr, .ref a_Un, .int v_Ma])), (a_Pr, .inl (cI, 200, .inl v_Pr))]) (vp_Si Q) 0 0 (fun _ => False) := by
  refine Met.ofW (cc := cX1_childProfile) (maxL := 2) (ret := (some .int)) (by decide) rfl ?_
  intro p e s m args below meth c s₁ B hml hv
  obtain ⟨rfl, hP, hK⟩ := hv
  have hl := lv_entry ([.ref a_o, .int x1]) (n := 2) (Nat.le_of_ble_eq_true rfl)
  rw [lg_entry_eq]
  generalize (lg_sl ([.ref a_o, .int x1]) ++ List.replicate (2 - (lg_sl ([.ref a_o, .int x1])).length) Slot.unset).toArray = ls at hl ⊢
  have hl : lv_has ls 2 [(0, .ref a_o), (1, .int x1)] := hl
  exact bk_X1_childProfile_in ⟨B.exec, B.bytes, B.returns, hml, findClass_of_methodNamed B.named, atoms_spec (ws := wsX1_childProfile) B.pre, B.notSynchronized⟩ hK x1 h hP ls hl
/-! X1_profileOf (ILTreeMachines$Pair;)I -/
theorem in_X1_profileOf_X1 : ∀ w ∈ u_ws RX1 TX1 7, w ∈ wsX1_profileOf := by decide +kernel
theorem in_X1_profileOf_X3 : ∀ w ∈ u_ws RX3 TX3 3, w ∈ wsX1_profileOf := by decide +kernel
theorem in_X1_profileOf_X4 : ∀ w ∈ u_ws RX4 TX4 2, w ∈ wsX1_profileOf := by decide +kernel
abbrev rm_X1_profileOf : Room := { frames := 1, cells := 0, slots := 0, locals := 25 }
def wp_X1_profileOf_2 (v_Ma : Int32) (v_Le : Nat → Int32) (v_Ri : Nat → Int32) (v_Sy : Nat → Int32) (v_p2_fGo : Int32) (v_p2_fRe : Nat → Int32) (v_p2_sGo : Int32) (v_p2_sRe : Nat → Int32) (K2 : (Nat → Int32) → Int32 → Int32 → Prop) (Q : Int32 → (Nat → Int32) → Prop) (v_Pr : Nat → Int32) (x1 : Int32) (x3 : Int32) : Prop :=
  ((x1 < x3 → vp_in x1 200 ∧ Q (v_Pr (x1).toNatClampNeg) v_Pr) ∧ (¬ (x1 < x3) → vp_in x3 200 ∧ vp_in x3 200 ∧ wp_X1_childProfile v_Ma v_Pr (v_Le (x3).toNatClampNeg) (fun r5 => vp_in x3 200 ∧ wp_X1_childProfile v_Ma v_Pr (v_Ri (x3).toNatClampNeg) (fun r7 => wp_X4_profileOf v_p2_fGo v_p2_fRe v_p2_sGo v_p2_sRe (v_Sy (x3).toNatClampNeg) r5 r7 (fun r8 => vp_in x3 200 ∧ ∀ f_10 : Nat → Int32, f_10 = upd v_Pr (x3).toNatClampNeg r8 → ∀ x3_11 : Int32, x3_11 = x3 + 1 → K2 f_10 x1 x3_11)))))
set_option maxRecDepth 100000 in
set_option maxHeartbeats 4000000 in
theorem bk_X1_profileOf_2 {p : Program} {l : Launch} {e : Env} {s : State} {m : MethodId} {args : Array Value} {below : List Frame} {meth : Method} {c : Code} {D : va_G} {cI cB : ClassId} {a_o a_Sy a_Le a_Ri a_Si a_Pr a_Un a_p2_ a_p2_f a_p2_s a_p2_fTa a_p2_fRe a_p2_sTa a_p2_sRe : Nat} {A : Nat → Prop} {v_Ma : Int32} {v_Le : Nat → Int32} {v_Ri : Nat → Int32} {v_Sy : Nat → Int32} {v_p2_fGo : Int32} {v_p2_fRe : Nat → Int32} {v_p2_sGo : Int32} {v_p2_sRe : Nat → Int32} {Q : Int32 → (Nat → Int32) → Prop} (C : tm_cx p s m args meth c cX1_profileOf 4 (some .int) RX1 wsX1_profileOf) (hK : tm_kx D cI cB s) (hA : ∀ q : Nat, s.heap.size ≤ q → A q) {K2 : (Nat → Int32) → Int32 → Int32 → Prop} (k2 : ∀ (v_Pr : Nat → Int32) (x1 : Int32) (x3 : Int32), K2 v_Pr x1 x3 → ∀ (H : Heap) (locs : List Loc), va_P D vwCl [(a_o, .inr (1, [.ref a_Sy, .ref a_Le, .ref a_Ri, .ref a_Si, .ref a_Pr, .ref a_Un, .int v_Ma])), (a_Le, .inl (cI, 200, .inl v_Le)), (a_Pr, .inl (cI, 200, .inl v_Pr)), (a_Ri, .inl (cI, 200, .inl v_Ri)), (a_Sy, .inl (cI, 200, .inl v_Sy)), (a_p2_, .inr (4, [.ref a_p2_f, .ref a_p2_s])), (a_p2_f, .inr (3, [.ref a_p2_fTa, .ref a_p2_fRe, .int v_p2_fGo])), (a_p2_fRe, .inl (cI, 2048, .inl v_p2_fRe)), (a_p2_s, .inr (3, [.ref a_p2_sTa, .ref a_p2_sRe, .int v_p2_sGo])), (a_p2_sRe, .inl (cI, 2048, .inl v_p2_sRe))] H → va_D A [(a_o, .inr (1, [.ref a_Sy, .ref a_Le, .ref a_Ri, .ref a_Si, .ref a_Pr, .ref a_Un, .int v_Ma])), (a_Le, .inl (cI, 200, .inl v_Le)), (a_Pr, .inl (cI, 200, .inl v_Pr)), (a_Ri, .inl (cI, 200, .inl v_Ri)), (a_Sy, .inl (cI, 200, .inl v_Sy)), (a_p2_, .inr (4, [.ref a_p2_f, .ref a_p2_s])), (a_p2_f, .inr (3, [.ref a_p2_fTa, .ref a_p2_fRe, .int v_p2_fGo])), (a_p2_fRe, .inl (cI, 2048, .inl v_p2_fRe)), (a_p2_s, .inr (3, [.ref a_p2_sTa, .ref a_p2_sRe, .int v_p2_sGo])), (a_p2_sRe, .inl (cI, 2048, .inl v_p2_sRe))] → va_S A s.heap H locs → ∀ (ls : Array Slot), lv_has ls 4 [(0, .ref a_o), (1, .int x1), (2, .ref a_p2_), (3, .int x3)] → W p l e (headSpec wsX1_profileOf rm_X1_profileOf).room s m args below meth c H locs 0 0 (MQ below (va_Qi (fun (r : Int32) (u : (Nat → Int32)) => Q r u) (tm_B D (fun (u : (Nat → Int32)) => [(a_o, .inr (1, [.ref a_Sy, .ref a_Le, .ref a_Ri, .ref a_Si, .ref a_Pr, .ref a_Un, .int v_Ma])), (a_Le, .inl (cI, 200, .inl v_Le)), (a_Pr, .inl (cI, 200, .inl u)), (a_Ri, .inl (cI, 200, .inl v_Ri)), (a_Sy, .inl (cI, 200, .inl v_Sy)), (a_p2_, .inr (4, [.ref a_p2_f, .ref a_p2_s])), (a_p2_f, .inr (3, [.ref a_p2_fTa, .ref a_p2_fRe, .int v_p2_fGo])), (a_p2_fRe, .inl (cI, 2048, .inl v_p2_fRe)), (a_p2_s, .inr (3, [.ref a_p2_sTa, .ref a_p2_sRe, .int v_p2_sGo])), (a_p2_sRe, .inl (cI, 2048, .inl v_p2_sRe))]) A) A) args s 0 0 A) (F0 m 2 ls [])) (v_Pr : Nat → Int32) (x1 : Int32) (x3 : Int32) (h : wp_X1_profileOf_2 v_Ma v_Le v_Ri v_Sy v_p2_fGo v_p2_fRe v_p2_sGo v_p2_sRe K2 Q v_Pr x1 x3) : ∀ (H : Heap) (locs : List Loc), va_P D vwCl [(a_o, .inr (1, [.ref a_Sy, .ref a_Le, .ref a_Ri, .ref a_Si, .ref a_Pr, .ref a_Un, .int v_Ma])), (a_Le, .inl (cI, 200, .inl v_Le)), (a_Pr, .inl (cI, 200, .inl v_Pr)), (a_Ri, .inl (cI, 200, .inl v_Ri)), (a_Sy, .inl (cI, 200, .inl v_Sy)), (a_p2_, .inr (4, [.ref a_p2_f, .ref a_p2_s])), (a_p2_f, .inr (3, [.ref a_p2_fTa, .ref a_p2_fRe, .int v_p2_fGo])), (a_p2_fRe, .inl (cI, 2048, .inl v_p2_fRe)), (a_p2_s, .inr (3, [.ref a_p2_sTa, .ref a_p2_sRe, .int v_p2_sGo])), (a_p2_sRe, .inl (cI, 2048, .inl v_p2_sRe))] H → va_D A [(a_o, .inr (1, [.ref a_Sy, .ref a_Le, .ref a_Ri, .ref a_Si, .ref a_Pr, .ref a_Un, .int v_Ma])), (a_Le, .inl (cI, 200, .inl v_Le)), (a_Pr, .inl (cI, 200, .inl v_Pr)), (a_Ri, .inl (cI, 200, .inl v_Ri)), (a_Sy, .inl (cI, 200, .inl v_Sy)), (a_p2_, .inr (4, [.ref a_p2_f, .ref a_p2_s])), (a_p2_f, .inr (3, [.ref a_p2_fTa, .ref a_p2_fRe, .int v_p2_fGo])), (a_p2_fRe, .inl (cI, 2048, .inl v_p2_fRe)), (a_p2_s, .inr (3, [.ref a_p2_sTa, .ref a_p2_sRe, .int v_p2_sGo])), (a_p2_sRe, .inl (cI, 2048, .inl v_p2_sRe))] → va_S A s.heap H locs → ∀ (ls : Array Slot), lv_has ls 4 [(0, .ref a_o), (1, .int x1), (2, .ref a_p2_), (3, .int x3)] → W p l e (headSpec wsX1_profileOf rm_X1_profileOf).room s m args below meth c H locs 0 0 (MQ below (va_Qi (fun (r : Int32) (u : (Nat → Int32)) => Q r u) (tm_B D (fun (u : (Nat → Int32)) => [(a_o, .inr (1, [.ref a_Sy, .ref a_Le, .ref a_Ri, .ref a_Si, .ref a_Pr, .ref a_Un, .int v_Ma])), (a_Le, .inl (cI, 200, .inl v_Le)), (a_Pr, .inl (cI, 200, .inl u)), (a_Ri, .inl (cI, 200, .inl v_Ri)), (a_Sy, .inl (cI, 200, .inl v_Sy)), (a_p2_, .inr (4, [.ref a_p2_f, .ref a_p2_s])), (a_p2_f, .inr (3, [.ref a_p2_fTa, .ref a_p2_fRe, .int v_p2_fGo])), (a_p2_fRe, .inl (cI, 2048, .inl v_p2_fRe)), (a_p2_s, .inr (3, [.ref a_p2_sTa, .ref a_p2_sRe, .int v_p2_sGo])), (a_p2_sRe, .inl (cI, 2048, .inl v_p2_sRe))]) A) A) args s 0 0 A) (F0 m 2 ls []) := by
  obtain ⟨hx, hb, hr, hml, hown, hts, hlocks⟩ := id C
  intro H locs hP hD hS ls hl
  unfold wp_X1_profileOf_2 at h
  refine lv_iload_n hx hb dX1_profileOf_2 rfl (lv_at hl 3 rfl) ?_
  refine lv_iload_n hx hb dX1_profileOf_3 rfl (lv_at hl 1 rfl) ?_
  refine lv_icmp_gt (tgt := 49) hx hb dX1_profileOf_4 (by decide) (fun c1 => ?_) (fun c1 => ?_)
  · have h := h.1 c1
    refine lv_aload_n hx hb dX1_profileOf_49 rfl (lv_at hl 0 rfl) ?_
    refine va_get (D := D) (ci := 1) (v := .ref a_Pr) (C := RX1) (T := TX1) (N := 7) hx hb hts in_X1_profileOf_X1 hown hK.1 hP 0 rfl rfl 4 (by decide) (hts (.fieldLink RX1 24 "TreeMachines$Forest" "profiles" "[I") (by decide +kernel)) (fun _ h9 => h9) rfl dX1_profileOf_50 ?_
    refine lv_iload_n hx hb dX1_profileOf_53 rfl (lv_at hl 1 rfl) ?_
    obtain ⟨b2, h⟩ := h
    refine va_iald hx hb hK.1 hP 2 0 rfl rfl b2 dX1_profileOf_54 ?_
    exact W.iret (v := (v_Pr (x1).toNatClampNeg)) hx hb hr (fun t ht hW => ⟨⟨(v_Pr (x1).toNatClampNeg), v_Pr, rfl, h, by rw [ht]; exact hP, hD⟩, hS.F ht⟩) hS.2.2 dX1_profileOf_55
  · have h := h.2 c1
    refine lv_aload_n hx hb dX1_profileOf_7 rfl (lv_at hl 0 rfl) ?_
    refine va_get (D := D) (ci := 1) (v := .ref a_Pr) (C := RX1) (T := TX1) (N := 7) hx hb hts in_X1_profileOf_X1 hown hK.1 hP 0 rfl rfl 4 (by decide) (hts (.fieldLink RX1 24 "TreeMachines$Forest" "profiles" "[I") (by decide +kernel)) (fun _ h9 => h9) rfl dX1_profileOf_8 ?_
    refine lv_iload_n hx hb dX1_profileOf_11 rfl (lv_at hl 3 rfl) ?_
    refine lv_aload_n hx hb dX1_profileOf_12 rfl (lv_at hl 2 rfl) ?_
    refine lv_aload_n hx hb dX1_profileOf_13 rfl (lv_at hl 0 rfl) ?_
    refine va_get (D := D) (ci := 1) (v := .ref a_Sy) (C := RX1) (T := TX1) (N := 7) hx hb hts in_X1_profileOf_X1 hown hK.1 hP 0 rfl rfl 0 (by decide) (hts (.fieldLink RX1 9 "TreeMachines$Forest" "symbols" "[I") (by decide +kernel)) (fun _ h9 => h9) rfl dX1_profileOf_14 ?_
    refine lv_iload_n hx hb dX1_profileOf_17 rfl (lv_at hl 3 rfl) ?_
    obtain ⟨b3, h⟩ := h
    refine va_iald hx hb hK.1 hP 4 0 rfl rfl b3 dX1_profileOf_18 ?_
    refine lv_aload_n hx hb dX1_profileOf_19 rfl (lv_at hl 0 rfl) ?_
    refine lv_aload_n hx hb dX1_profileOf_20 rfl (lv_at hl 0 rfl) ?_
    refine va_get (D := D) (ci := 1) (v := .ref a_Le) (C := RX1) (T := TX1) (N := 7) hx hb hts in_X1_profileOf_X1 hown hK.1 hP 0 rfl rfl 1 (by decide) (hts (.fieldLink RX1 15 "TreeMachines$Forest" "lefts" "[I") (by decide +kernel)) (fun _ h9 => h9) rfl dX1_profileOf_21 ?_
    refine lv_iload_n hx hb dX1_profileOf_24 rfl (lv_at hl 3 rfl) ?_
    obtain ⟨b4, h⟩ := h
    refine va_iald hx hb hK.1 hP 1 0 rfl rfl b4 dX1_profileOf_25 ?_
    refine tm_rV (As := [.int (v_Le (x3).toNatClampNeg)]) (rest := [.int (v_Sy (x3).toNatClampNeg), .ref a_p2_, .int x3, .ref a_Pr]) (wc := [(a_o, .inr (1, [.ref a_Sy, .ref a_Le, .ref a_Ri, .ref a_Si, .ref a_Pr, .ref a_Un, .int v_Ma])), (a_Pr, .inl (cI, 200, .inl v_Pr))]) ⟨hx, hb, hml, hown, hts⟩ (cn_X1_childProfile l D cI cB a_o a_Sy a_Le a_Ri a_Si a_Pr a_Un v_Ma v_Pr (v_Le (x3).toNatClampNeg) _ h) (cwV 1 hts gX1_profileOf_X1_childProfile rfl rfl rfl (by decide +kernel) ⟨Nat.le_of_ble_eq_true rfl, Nat.le_of_ble_eq_true rfl⟩) hK (hP.sub [0, 2] rfl) (va_recv hK.1 hP (ci := 1) (q0 := 0) rfl rfl) rfl hl.1 rfl (Nat.le_of_ble_eq_true rfl) ⟨Nat.zero_le _, Nat.zero_le _⟩ dX1_profileOf_26 (fun r5 h => ?_)
    refine lv_aload_n hx hb dX1_profileOf_29 rfl (lv_at hl 0 rfl) ?_
    refine lv_aload_n hx hb dX1_profileOf_30 rfl (lv_at hl 0 rfl) ?_
    refine va_get (D := D) (ci := 1) (v := .ref a_Ri) (C := RX1) (T := TX1) (N := 7) hx hb hts in_X1_profileOf_X1 hown hK.1 hP 0 rfl rfl 2 (by decide) (hts (.fieldLink RX1 18 "TreeMachines$Forest" "rights" "[I") (by decide +kernel)) (fun _ h9 => h9) rfl dX1_profileOf_31 ?_
    refine lv_iload_n hx hb dX1_profileOf_34 rfl (lv_at hl 3 rfl) ?_
    obtain ⟨b6, h⟩ := h
    refine va_iald hx hb hK.1 hP 3 0 rfl rfl b6 dX1_profileOf_35 ?_
    refine tm_rV (As := [.int (v_Ri (x3).toNatClampNeg)]) (rest := [.int r5, .int (v_Sy (x3).toNatClampNeg), .ref a_p2_, .int x3, .ref a_Pr]) (wc := [(a_o, .inr (1, [.ref a_Sy, .ref a_Le, .ref a_Ri, .ref a_Si, .ref a_Pr, .ref a_Un, .int v_Ma])), (a_Pr, .inl (cI, 200, .inl v_Pr))]) ⟨hx, hb, hml, hown, hts⟩ (cn_X1_childProfile l D cI cB a_o a_Sy a_Le a_Ri a_Si a_Pr a_Un v_Ma v_Pr (v_Ri (x3).toNatClampNeg) _ h) (cwV 1 hts gX1_profileOf_X1_childProfile rfl rfl rfl (by decide +kernel) ⟨Nat.le_of_ble_eq_true rfl, Nat.le_of_ble_eq_true rfl⟩) hK (hP.sub [0, 2] rfl) (va_recv hK.1 hP (ci := 1) (q0 := 0) rfl rfl) rfl hl.1 rfl (Nat.le_of_ble_eq_true rfl) ⟨Nat.zero_le _, Nat.zero_le _⟩ dX1_profileOf_36 (fun r7 h => ?_)
    refine tm_rV (As := [.int (v_Sy (x3).toNatClampNeg), .int r5, .int r7]) (rest := [.int x3, .ref a_Pr]) (wc := [(a_p2_, .inr (4, [.ref a_p2_f, .ref a_p2_s])), (a_p2_f, .inr (3, [.ref a_p2_fTa, .ref a_p2_fRe, .int v_p2_fGo])), (a_p2_fRe, .inl (cI, 2048, .inl v_p2_fRe)), (a_p2_s, .inr (3, [.ref a_p2_sTa, .ref a_p2_sRe, .int v_p2_sGo])), (a_p2_sRe, .inl (cI, 2048, .inl v_p2_sRe))]) ⟨hx, hb, hml, hown, hts⟩ (cn_X4_profileOf l D cI cB a_p2_ a_p2_f a_p2_s a_p2_fTa a_p2_fRe a_p2_sTa a_p2_sRe v_p2_fGo v_p2_fRe v_p2_sGo v_p2_sRe (v_Sy (x3).toNatClampNeg) r5 r7 _ h) (cwV 3 hts gX1_profileOf_X4_profileOf rfl rfl rfl (by decide +kernel) ⟨Nat.le_of_ble_eq_true rfl, Nat.le_of_ble_eq_true rfl⟩) hK (hP.sub [5, 6, 7, 8, 9] rfl) (va_recv hK.1 hP (ci := 4) (q0 := 5) rfl rfl) rfl hl.1 rfl (Nat.le_of_ble_eq_true rfl) ⟨Nat.zero_le _, Nat.zero_le _⟩ dX1_profileOf_39 (fun r8 h => ?_)
    obtain ⟨b9, h⟩ := h
    refine va_iast hx hb hK.1 hP hD hS 2 0 rfl rfl b9 dX1_profileOf_42 (fun H locs hP hD hS => ?_)
    obtain ⟨f_10, ef_10⟩ : ∃ y : Nat → Int32, y = upd v_Pr (x3).toNatClampNeg r8 := ⟨_, rfl⟩
    have h := h f_10 ef_10
    have hP : va_P D vwCl [(a_o, .inr (1, [.ref a_Sy, .ref a_Le, .ref a_Ri, .ref a_Si, .ref a_Pr, .ref a_Un, .int v_Ma])), (a_Le, .inl (cI, 200, .inl v_Le)), (a_Pr, .inl (cI, 200, .inl f_10)), (a_Ri, .inl (cI, 200, .inl v_Ri)), (a_Sy, .inl (cI, 200, .inl v_Sy)), (a_p2_, .inr (4, [.ref a_p2_f, .ref a_p2_s])), (a_p2_f, .inr (3, [.ref a_p2_fTa, .ref a_p2_fRe, .int v_p2_fGo])), (a_p2_fRe, .inl (cI, 2048, .inl v_p2_fRe)), (a_p2_s, .inr (3, [.ref a_p2_sTa, .ref a_p2_sRe, .int v_p2_sGo])), (a_p2_sRe, .inl (cI, 2048, .inl v_p2_sRe))] H := by rw [ef_10]; exact hP
    have hD : va_D A [(a_o, .inr (1, [.ref a_Sy, .ref a_Le, .ref a_Ri, .ref a_Si, .ref a_Pr, .ref a_Un, .int v_Ma])), (a_Le, .inl (cI, 200, .inl v_Le)), (a_Pr, .inl (cI, 200, .inl f_10)), (a_Ri, .inl (cI, 200, .inl v_Ri)), (a_Sy, .inl (cI, 200, .inl v_Sy)), (a_p2_, .inr (4, [.ref a_p2_f, .ref a_p2_s])), (a_p2_f, .inr (3, [.ref a_p2_fTa, .ref a_p2_fRe, .int v_p2_fGo])), (a_p2_fRe, .inl (cI, 2048, .inl v_p2_fRe)), (a_p2_s, .inr (3, [.ref a_p2_sTa, .ref a_p2_sRe, .int v_p2_sGo])), (a_p2_sRe, .inl (cI, 2048, .inl v_p2_sRe))] := by rw [ef_10]; exact hD
    obtain ⟨x3_11, ex3_11⟩ : ∃ y : Int32, y = x3 + 1 := ⟨_, rfl⟩
    have h := h x3_11 ex3_11
    refine lv_iinc (v := x3_11) (lv' := [(3, .int x3_11), (0, .ref a_o), (1, .int x1), (2, .ref a_p2_)]) hx hb dX1_profileOf_43 hl (k := 3) rfl (by rw [ex3_11]; rfl) (by decide) rfl (fun ls hl => ?_)
    refine lv_goto (tgt := 2) hx hb dX1_profileOf_46 (by decide) ?_
    exact k2 f_10 x1 x3_11 h H locs hP hD hS ls (lv_sub hl [1, 2, 3, 0] rfl)
def lp_X1_profileOf_2 (v_Ma : Int32) (v_Le : Nat → Int32) (v_Ri : Nat → Int32) (v_Sy : Nat → Int32) (v_p2_fGo : Int32) (v_p2_fRe : Nat → Int32) (v_p2_sGo : Int32) (v_p2_sRe : Nat → Int32) (Q : Int32 → (Nat → Int32) → Prop) : Nat → (Nat → Int32) → Int32 → Int32 → Prop
  | 0, _, _, _ => False
  | n + 1, v_Pr, x1, x3 => wp_X1_profileOf_2 v_Ma v_Le v_Ri v_Sy v_p2_fGo v_p2_fRe v_p2_sGo v_p2_sRe (lp_X1_profileOf_2 v_Ma v_Le v_Ri v_Sy v_p2_fGo v_p2_fRe v_p2_sGo v_p2_sRe Q n) Q v_Pr x1 x3
set_option maxRecDepth 100000 in
theorem lt_X1_profileOf_2 {p : Program} {l : Launch} {e : Env} {s : State} {m : MethodId} {args : Array Value} {below : List Frame} {meth : Method} {c : Code} {D : va_G} {cI cB : ClassId} {a_o a_Sy a_Le a_Ri a_Si a_Pr a_Un a_p2_ a_p2_f a_p2_s a_p2_fTa a_p2_fRe a_p2_sTa a_p2_sRe : Nat} {A : Nat → Prop} {v_Ma : Int32} {v_Le : Nat → Int32} {v_Ri : Nat → Int32} {v_Sy : Nat → Int32} {v_p2_fGo : Int32} {v_p2_fRe : Nat → Int32} {v_p2_sGo : Int32} {v_p2_sRe : Nat → Int32} {Q : Int32 → (Nat → Int32) → Prop} (C : tm_cx p s m args meth c cX1_profileOf 4 (some .int) RX1 wsX1_profileOf) (hK : tm_kx D cI cB s) (hA : ∀ q : Nat, s.heap.size ≤ q → A q) : ∀ (n : Nat) (v_Pr : Nat → Int32) (x1 : Int32) (x3 : Int32), lp_X1_profileOf_2 v_Ma v_Le v_Ri v_Sy v_p2_fGo v_p2_fRe v_p2_sGo v_p2_sRe Q n v_Pr x1 x3 → ∀ (H : Heap) (locs : List Loc), va_P D vwCl [(a_o, .inr (1, [.ref a_Sy, .ref a_Le, .ref a_Ri, .ref a_Si, .ref a_Pr, .ref a_Un, .int v_Ma])), (a_Le, .inl (cI, 200, .inl v_Le)), (a_Pr, .inl (cI, 200, .inl v_Pr)), (a_Ri, .inl (cI, 200, .inl v_Ri)), (a_Sy, .inl (cI, 200, .inl v_Sy)), (a_p2_, .inr (4, [.ref a_p2_f, .ref a_p2_s])), (a_p2_f, .inr (3, [.ref a_p2_fTa, .ref a_p2_fRe, .int v_p2_fGo])), (a_p2_fRe, .inl (cI, 2048, .inl v_p2_fRe)), (a_p2_s, .inr (3, [.ref a_p2_sTa, .ref a_p2_sRe, .int v_p2_sGo])), (a_p2_sRe, .inl (cI, 2048, .inl v_p2_sRe))] H → va_D A [(a_o, .inr (1, [.ref a_Sy, .ref a_Le, .ref a_Ri, .ref a_Si, .ref a_Pr, .ref a_Un, .int v_Ma])), (a_Le, .inl (cI, 200, .inl v_Le)), (a_Pr, .inl (cI, 200, .inl v_Pr)), (a_Ri, .inl (cI, 200, .inl v_Ri)), (a_Sy, .inl (cI, 200, .inl v_Sy)), (a_p2_, .inr (4, [.ref a_p2_f, .ref a_p2_s])), (a_p2_f, .inr (3, [.ref a_p2_fTa, .ref a_p2_fRe, .int v_p2_fGo])), (a_p2_fRe, .inl (cI, 2048, .inl v_p2_fRe)), (a_p2_s, .inr (3, [.ref a_p2_sTa, .ref a_p2_sRe, .int v_p2_sGo])), (a_p2_sRe, .inl (cI, 2048, .inl v_p2_sRe))] → va_S A s.heap H locs → ∀ (ls : Array Slot), lv_has ls 4 [(0, .ref a_o), (1, .int x1), (2, .ref a_p2_), (3, .int x3)] → W p l e (headSpec wsX1_profileOf rm_X1_profileOf).room s m args below meth c H locs 0 0 (MQ below (va_Qi (fun (r : Int32) (u : (Nat → Int32)) => Q r u) (tm_B D (fun (u : (Nat → Int32)) => [(a_o, .inr (1, [.ref a_Sy, .ref a_Le, .ref a_Ri, .ref a_Si, .ref a_Pr, .ref a_Un, .int v_Ma])), (a_Le, .inl (cI, 200, .inl v_Le)), (a_Pr, .inl (cI, 200, .inl u)), (a_Ri, .inl (cI, 200, .inl v_Ri)), (a_Sy, .inl (cI, 200, .inl v_Sy)), (a_p2_, .inr (4, [.ref a_p2_f, .ref a_p2_s])), (a_p2_f, .inr (3, [.ref a_p2_fTa, .ref a_p2_fRe, .int v_p2_fGo])), (a_p2_fRe, .inl (cI, 2048, .inl v_p2_fRe)), (a_p2_s, .inr (3, [.ref a_p2_sTa, .ref a_p2_sRe, .int v_p2_sGo])), (a_p2_sRe, .inl (cI, 2048, .inl v_p2_sRe))]) A) A) args s 0 0 A) (F0 m 2 ls []) := by
  intro n
  induction n with
  | zero => intro _ _ _ h; exact False.elim h
  | succ n ih => intro v_Pr x1 x3 h; exact bk_X1_profileOf_2 C hK hA ih v_Pr x1 x3 h
def wp_X1_profileOf_in (v_Ma : Int32) (v_Le : Nat → Int32) (v_Ri : Nat → Int32) (v_Sy : Nat → Int32) (v_p2_fGo : Int32) (v_p2_fRe : Nat → Int32) (v_p2_sGo : Int32) (v_p2_sRe : Nat → Int32) (Q : Int32 → (Nat → Int32) → Prop) (v_Pr : Nat → Int32) (x1 : Int32) : Prop :=
  (∃ n : Nat, lp_X1_profileOf_2 v_Ma v_Le v_Ri v_Sy v_p2_fGo v_p2_fRe v_p2_sGo v_p2_sRe Q n v_Pr x1 0)
set_option maxRecDepth 100000 in
set_option maxHeartbeats 4000000 in
theorem bk_X1_profileOf_in {p : Program} {l : Launch} {e : Env} {s : State} {m : MethodId} {args : Array Value} {below : List Frame} {meth : Method} {c : Code} {D : va_G} {cI cB : ClassId} {a_o a_Sy a_Le a_Ri a_Si a_Pr a_Un a_p2_ a_p2_f a_p2_s a_p2_fTa a_p2_fRe a_p2_sTa a_p2_sRe : Nat} {A : Nat → Prop} {v_Ma : Int32} {v_Le : Nat → Int32} {v_Ri : Nat → Int32} {v_Sy : Nat → Int32} {v_p2_fGo : Int32} {v_p2_fRe : Nat → Int32} {v_p2_sGo : Int32} {v_p2_sRe : Nat → Int32} {Q : Int32 → (Nat → Int32) → Prop} (C : tm_cx p s m args meth c cX1_profileOf 4 (some .int) RX1 wsX1_profileOf) (hK : tm_kx D cI cB s) (hA : ∀ q : Nat, s.heap.size ≤ q → A q) (v_Pr : Nat → Int32) (x1 : Int32) (h : wp_X1_profileOf_in v_Ma v_Le v_Ri v_Sy v_p2_fGo v_p2_fRe v_p2_sGo v_p2_sRe Q v_Pr x1) : ∀ (H : Heap) (locs : List Loc), va_P D vwCl [(a_o, .inr (1, [.ref a_Sy, .ref a_Le, .ref a_Ri, .ref a_Si, .ref a_Pr, .ref a_Un, .int v_Ma])), (a_Le, .inl (cI, 200, .inl v_Le)), (a_Pr, .inl (cI, 200, .inl v_Pr)), (a_Ri, .inl (cI, 200, .inl v_Ri)), (a_Sy, .inl (cI, 200, .inl v_Sy)), (a_p2_, .inr (4, [.ref a_p2_f, .ref a_p2_s])), (a_p2_f, .inr (3, [.ref a_p2_fTa, .ref a_p2_fRe, .int v_p2_fGo])), (a_p2_fRe, .inl (cI, 2048, .inl v_p2_fRe)), (a_p2_s, .inr (3, [.ref a_p2_sTa, .ref a_p2_sRe, .int v_p2_sGo])), (a_p2_sRe, .inl (cI, 2048, .inl v_p2_sRe))] H → va_D A [(a_o, .inr (1, [.ref a_Sy, .ref a_Le, .ref a_Ri, .ref a_Si, .ref a_Pr, .ref a_Un, .int v_Ma])), (a_Le, .inl (cI, 200, .inl v_Le)), (a_Pr, .inl (cI, 200, .inl v_Pr)), (a_Ri, .inl (cI, 200, .inl v_Ri)), (a_Sy, .inl (cI, 200, .inl v_Sy)), (a_p2_, .inr (4, [.ref a_p2_f, .ref a_p2_s])), (a_p2_f, .inr (3, [.ref a_p2_fTa, .ref a_p2_fRe, .int v_p2_fGo])), (a_p2_fRe, .inl (cI, 2048, .inl v_p2_fRe)), (a_p2_s, .inr (3, [.ref a_p2_sTa, .ref a_p2_sRe, .int v_p2_sGo])), (a_p2_sRe, .inl (cI, 2048, .inl v_p2_sRe))] → va_S A s.heap H locs → ∀ (ls : Array Slot), lv_has ls 4 [(0, .ref a_o), (1, .int x1), (2, .ref a_p2_)] → W p l e (headSpec wsX1_profileOf rm_X1_profileOf).room s m args below meth c H locs 0 0 (MQ below (va_Qi (fun (r : Int32) (u : (Nat → Int32)) => Q r u) (tm_B D (fun (u : (Nat → Int32)) => [(a_o, .inr (1, [.ref a_Sy, .ref a_Le, .ref a_Ri, .ref a_Si, .ref a_Pr, .ref a_Un, .int v_Ma])), (a_Le, .inl (cI, 200, .inl v_Le)), (a_Pr, .inl (cI, 200, .inl u)), (a_Ri, .inl (cI, 200, .inl v_Ri)), (a_Sy, .inl (cI, 200, .inl v_Sy)), (a_p2_, .inr (4, [.ref a_p2_f, .ref a_p2_s])), (a_p2_f, .inr (3, [.ref a_p2_fTa, .ref a_p2_fRe, .int v_p2_fGo])), (a_p2_fRe, .inl (cI, 2048, .inl v_p2_fRe)), (a_p2_s, .inr (3, [.ref a_p2_sTa, .ref a_p2_sRe, .int v_p2_sGo])), (a_p2_sRe, .inl (cI, 2048, .inl v_p2_sRe))]) A) A) args s 0 0 A) (F0 m 0 ls []) := by
  obtain ⟨hx, hb, hr, hml, hown, hts, hlocks⟩ := id C
  intro H locs hP hD hS ls hl
  unfold wp_X1_profileOf_in at h
  refine lv_iconst (v := 0) hx hb dX1_profileOf_0 (by decide) ?_
  refine lv_istore_n (lv' := [(3, .int 0), (0, .ref a_o), (1, .int x1), (2, .ref a_p2_)]) hx hb dX1_profileOf_1 rfl hl (by decide) rfl (fun ls hl => ?_)
  obtain ⟨n, h⟩ := h
  exact lt_X1_profileOf_2 C hK hA n v_Pr x1 0 h H locs hP hD hS ls (lv_sub hl [1, 2, 3, 0] rfl)
abbrev wp_X1_profileOf (v_Ma : Int32) (v_Le : Nat → Int32) (v_Pr : Nat → Int32) (v_Ri : Nat → Int32) (v_Sy : Nat → Int32) (v_p2_fGo : Int32) (v_p2_fRe : Nat → Int32) (v_p2_sGo : Int32) (v_p2_sRe : Nat → Int32) (x1 : Int32) (Q : Int32 → (Nat → Int32) → Prop) : Prop := wp_X1_profileOf_in v_Ma v_Le v_Ri v_Sy v_p2_fGo v_p2_fRe v_p2_sGo v_p2_sRe Q v_Pr x1
set_option maxRecDepth 100000 in
set_option maxHeartbeats 4000000 in
theorem cn_X1_profileOf (l : Launch) (D : va_G) (cI cB : ClassId) (a_o a_Sy a_Le a_Ri a_Si a_Pr a_Un a_p2_ a_p2_f a_p2_s a_p2_fTa a_p2_fRe a_p2_sTa a_p2_sRe : Nat) (v_Ma : Int32) (v_Le : Nat → Int32) (v_Pr : Nat → Int32) (v_Ri : Nat → Int32) (v_Sy : Nat → Int32) (v_p2_fGo : Int32) (v_p2_fRe : Nat → Int32) (v_p2_sGo : Int32) (v_p2_sRe : Nat → Int32) (x1 : Int32) (sz : Nat) (Q : Int32 → (Nat → Int32) → Prop) (h : wp_X1_profileOf v_Ma v_Le v_Pr v_Ri v_Sy v_p2_fGo v_p2_fRe v_p2_sGo v_p2_sRe x1 Q) : Met l yX1_profileOf wsX1_profileOf rm_X1_profileOf (tm_Pw D cI cB [.ref a_o, .int x1, .ref a_p2_] [(a_o, .inr (1, [.ref a_Sy, .ref a_Le, .ref a_Ri, .ref a_Si, .ref a_Pr, .ref a_Un, .int v_Ma])), (a_Le, .inl (cI, 200, .inl v_Le)), (a_Pr, .inl (cI, 200, .inl v_Pr)), (a_Ri, .inl (cI, 200, .inl v_Ri)), (a_Sy, .inl (cI, 200, .inl v_Sy)), (a_p2_, .inr (4, [.ref a_p2_f, .ref a_p2_s])), (a_p2_f, .inr (3, [.ref a_p2_fTa, .ref a_p2_fRe, .int v_p2_fGo])), (a_p2_fRe, .inl (cI, 2048, .inl v_p2_fRe)), (a_p2_s, .inr (3, [.ref a_p2_sTa, .ref a_p2_sRe, .int v_p2_sGo])), (a_p2_sRe, .inl (cI, 2048, .inl v_p2_sRe))] sz) (va_Qi (fun (r : Int32) (u : (Nat → Int32)) => Q r u) (tm_B D (fun (u : (Nat → Int32)) => [(a_o, .inr (1, [.ref a_Sy, .ref a_Le, .ref a_Ri, .ref a_Si, .ref a_Pr, .ref a_Un, .int v_Ma])), (a_Le, .inl (cI, 200, .inl v_Le)), (a_Pr, .inl (cI, 200, .inl u)), (a_Ri, .inl (cI, 200, .inl v_Ri)), (a_Sy, .inl (cI, 200, .inl v_Sy)), (a_p2_, .inr (4, [.ref a_p2_f, .ref a_p2_s])), (a_p2_f, .inr (3, [.ref a_p2_fTa, .ref a_p2_fRe, .int v_p2_fGo])), (a_p2_fRe, .inl (cI, 2048, .inl v_p2_fRe)), (a_p2_s, .inr (3, [.ref a_p2_sTa, .ref a_p2_sRe, .int v_p2_sGo])), (a_p2_sRe, .inl (cI, 2048, .inl v_p2_sRe))]) (va_A [(a_o, .inr (1, [.ref a_Sy, .ref a_Le, .ref a_Ri, .ref a_Si, .ref a_Pr, .ref a_Un, .int v_Ma])), (a_Le, .inl (cI, 200, .inl v_Le)), (a_Pr, .inl (cI, 200, .inl v_Pr)), (a_Ri, .inl (cI, 200, .inl v_Ri)), (a_Sy, .inl (cI, 200, .inl v_Sy)), (a_p2_, .inr (4, [.ref a_p2_f, .ref a_p2_s])), (a_p2_f, .inr (3, [.ref a_p2_fTa, .ref a_p2_fRe, .int v_p2_fGo])), (a_p2_fRe, .inl (cI, 2048, .inl v_p2_fRe)), (a_p2_s, .inr (3, [.ref a_p2_sTa, .ref a_p2_sRe, .int v_p2_sGo])), (a_p2_sRe, .inl (cI, 2048, .inl v_p2_sRe))] sz)) (va_A [(a_o, .inr (1, [.ref a_Sy, .ref a_Le, .ref a_Ri, .ref a_Si, .ref a_Pr, .ref a_Un, .int v_Ma])), (a_Le, .inl (cI, 200, .inl v_Le)), (a_Pr, .inl (cI, 200, .inl v_Pr)), (a_Ri, .inl (cI, 200, .inl v_Ri)), (a_Sy, .inl (cI, 200, .inl v_Sy)), (a_p2_, .inr (4, [.ref a_p2_f, .ref a_p2_s])), (a_p2_f, .inr (3, [.ref a_p2_fTa, .ref a_p2_fRe, .int v_p2_fGo])), (a_p2_fRe, .inl (cI, 2048, .inl v_p2_fRe)), (a_p2_s, .inr (3, [.ref a_p2_sTa, .ref a_p2_sRe, .int v_p2_sGo])), (a_p2_sRe, .inl (cI, 2048, .inl v_p2_sRe))] sz)) 0 0 (va_A [(a_o, .inr (1, [.ref a_Sy, .ref a_Le, .ref a_Ri, .ref a_Si, .ref a_Pr, .ref a_Un, .int v_Ma])), (a_Le, .inl (cI, 200, .inl v_Le)), (a_Pr, .inl (cI, 200, .inl v_Pr)), (a_Ri, .inl (cI, 200, .inl v_Ri)), (a_Sy, .inl (cI, 200, .inl v_Sy)), (a_p2_, .inr (4, [.ref a_p2_f, .ref a_p2_s])), (a_p2_f, .inr (3, [.ref a_p2_fTa, .ref a_p2_fRe, .int v_p2_fGo])), (a_p2_fRe, .inl (cI, 2048, .inl v_p2_fRe)), (a_p2_s, .inr (3, [.ref a_p2_sTa, .ref a_p2_sRe, .int v_p2_sGo])), (a_p2_sRe, .inl (cI, 2048, .inl v_p2_sRe))] sz) := by
  refine Met.ofW (cc := cX1_profileOf) (maxL := 4) (ret := (some .int)) (by decide) rfl ?_
  intro p e s m args below meth c s₁ B hml hv
  obtain ⟨rfl, hsz, hP, hK, hD0⟩ := hv
  subst hsz
  have hD := hD0.self (sz := s.heap.size)
  generalize hAe : va_A [(a_o, .inr (1, [.ref a_Sy, .ref a_Le, .ref a_Ri, .ref a_Si, .ref a_Pr, .ref a_Un, .int v_Ma])), (a_Le, .inl (cI, 200, .inl v_Le)), (a_Pr, .inl (cI, 200, .inl v_Pr)), (a_Ri, .inl (cI, 200, .inl v_Ri)), (a_Sy, .inl (cI, 200, .inl v_Sy)), (a_p2_, .inr (4, [.ref a_p2_f, .ref a_p2_s])), (a_p2_f, .inr (3, [.ref a_p2_fTa, .ref a_p2_fRe, .int v_p2_fGo])), (a_p2_fRe, .inl (cI, 2048, .inl v_p2_fRe)), (a_p2_s, .inr (3, [.ref a_p2_sTa, .ref a_p2_sRe, .int v_p2_sGo])), (a_p2_sRe, .inl (cI, 2048, .inl v_p2_sRe))] s.heap.size = A at hD ⊢
  have hA : ∀ q : Nat, s.heap.size ≤ q → A q := fun q h => by rw [← hAe]; exact Or.inr h
  have hl := lv_entry ([.ref a_o, .int x1, .ref a_p2_]) (n := 4) (Nat.le_of_ble_eq_true rfl)
  rw [lg_entry_eq]
  generalize (lg_sl ([.ref a_o, .int x1, .ref a_p2_]) ++ List.replicate (4 - (lg_sl ([.ref a_o, .int x1, .ref a_p2_])).length) Slot.unset).toArray = ls at hl ⊢
  have hl : lv_has ls 4 [(0, .ref a_o), (1, .int x1), (2, .ref a_p2_)] := hl
  exact bk_X1_profileOf_in ⟨B.exec, B.bytes, B.returns, hml, findClass_of_methodNamed B.named, atoms_spec (ws := wsX1_profileOf) B.pre, B.notSynchronized⟩ hK hA v_Pr x1 h s.heap [] hP hD va_S.rf ls hl
/-! X1_plant ([II)I -/
theorem in_X1_plant_X1 : ∀ w ∈ u_ws RX1 TX1 7, w ∈ wsX1_plant := by decide +kernel
abbrev rm_X1_plant : Room := { frames := 2, cells := 0, slots := 0, locals := 48 }
def wp_X1_plant_71 (v_p1_ : Nat → Int32) (K10 : Int32 → (Nat → Int32) → (Nat → Int32) → (Nat → Int32) → (Nat → Int32) → (Nat → Int32) → Int32 → Int32 → Int32 → Prop) (Q : Int32 → Int32 → (Nat → Int32) → (Nat → Int32) → (Nat → Int32) → (Nat → Int32) → (Nat → Int32) → Prop) (v_Ma : Int32) (v_Le : Nat → Int32) (v_Ri : Nat → Int32) (v_Si : Nat → Int32) (v_Sy : Nat → Int32) (v_Un : Nat → Int32) (x3 : Int32) (x5 : Int32) (x6 : Int32) (x7 : Int32) : Prop :=
  vp_in x5 32 ∧ wp_X1_add v_Ma v_Le v_Ri v_Si v_Sy (v_p1_ (x5).toNatClampNeg) x6 x7 (fun r15 u10 u11 u12 u13 u14 => vp_in x3 32 ∧ ∀ f_17 : Nat → Int32, f_17 = upd v_Un (x3).toNatClampNeg r15 → ∀ x3_18 : Int32, x3_18 = x3 + 1 → ∀ x5_19 : Int32, x5_19 = x5 + (-1) → K10 u10 u11 u12 u13 u14 f_17 x3_18 r15 x5_19)
set_option maxRecDepth 100000 in
set_option maxHeartbeats 4000000 in
theorem bk_X1_plant_71 {p : Program} {l : Launch} {e : Env} {s : State} {m : MethodId} {args : Array Value} {below : List Frame} {meth : Method} {c : Code} {D : va_G} {cI cB : ClassId} {a_o a_Sy a_Le a_Ri a_Si a_Pr a_Un a_p1_ : Nat} {A : Nat → Prop} {v_p1_ : Nat → Int32} {Q : Int32 → Int32 → (Nat → Int32) → (Nat → Int32) → (Nat → Int32) → (Nat → Int32) → (Nat → Int32) → Prop} (C : tm_cx p s m args meth c cX1_plant 8 (some .int) RX1 wsX1_plant) (hK : tm_kx D cI cB s) (hA : ∀ q : Nat, s.heap.size ≤ q → A q) {K10 : Int32 → (Nat → Int32) → (Nat → Int32) → (Nat → Int32) → (Nat → Int32) → (Nat → Int32) → Int32 → Int32 → Int32 → Prop} (k10 : ∀ (v_Ma : Int32) (v_Le : Nat → Int32) (v_Ri : Nat → Int32) (v_Si : Nat → Int32) (v_Sy : Nat → Int32) (v_Un : Nat → Int32) (x3 : Int32) (x4 : Int32) (x5 : Int32), K10 v_Ma v_Le v_Ri v_Si v_Sy v_Un x3 x4 x5 → ∀ (H : Heap) (locs : List Loc), va_P D vwCl [(a_o, .inr (1, [.ref a_Sy, .ref a_Le, .ref a_Ri, .ref a_Si, .ref a_Pr, .ref a_Un, .int v_Ma])), (a_Le, .inl (cI, 200, .inl v_Le)), (a_Ri, .inl (cI, 200, .inl v_Ri)), (a_Si, .inl (cI, 200, .inl v_Si)), (a_Sy, .inl (cI, 200, .inl v_Sy)), (a_Un, .inl (cI, 32, .inl v_Un)), (a_p1_, .inl (cI, 32, .inl v_p1_))] H → va_D A [(a_o, .inr (1, [.ref a_Sy, .ref a_Le, .ref a_Ri, .ref a_Si, .ref a_Pr, .ref a_Un, .int v_Ma])), (a_Le, .inl (cI, 200, .inl v_Le)), (a_Ri, .inl (cI, 200, .inl v_Ri)), (a_Si, .inl (cI, 200, .inl v_Si)), (a_Sy, .inl (cI, 200, .inl v_Sy)), (a_Un, .inl (cI, 32, .inl v_Un)), (a_p1_, .inl (cI, 32, .inl v_p1_))] → va_S A s.heap H locs → ∀ (ls : Array Slot), lv_has ls 8 [(0, .ref a_o), (1, .ref a_p1_), (3, .int x3), (4, .int x4), (5, .int x5)] → W p l e (headSpec wsX1_plant rm_X1_plant).room s m args below meth c H locs 0 0 (MQ below (va_Qi (fun (r : Int32) (u : Int32 × (Nat → Int32) × (Nat → Int32) × (Nat → Int32) × (Nat → Int32) × (Nat → Int32)) => Q r u.1 u.2.1 u.2.2.1 u.2.2.2.1 u.2.2.2.2.1 u.2.2.2.2.2) (tm_B D (fun (u : Int32 × (Nat → Int32) × (Nat → Int32) × (Nat → Int32) × (Nat → Int32) × (Nat → Int32)) => [(a_o, .inr (1, [.ref a_Sy, .ref a_Le, .ref a_Ri, .ref a_Si, .ref a_Pr, .ref a_Un, .int u.1])), (a_Le, .inl (cI, 200, .inl u.2.1)), (a_Ri, .inl (cI, 200, .inl u.2.2.1)), (a_Si, .inl (cI, 200, .inl u.2.2.2.1)), (a_Sy, .inl (cI, 200, .inl u.2.2.2.2.1)), (a_Un, .inl (cI, 32, .inl u.2.2.2.2.2)), (a_p1_, .inl (cI, 32, .inl v_p1_))]) A) A) args s 0 0 A) (F0 m 10 ls [])) (v_Ma : Int32) (v_Le : Nat → Int32) (v_Ri : Nat → Int32) (v_Si : Nat → Int32) (v_Sy : Nat → Int32) (v_Un : Nat → Int32) (x3 : Int32) (x5 : Int32) (x6 : Int32) (x7 : Int32) (h : wp_X1_plant_71 v_p1_ K10 Q v_Ma v_Le v_Ri v_Si v_Sy v_Un x3 x5 x6 x7) : ∀ (H : Heap) (locs : List Loc), va_P D vwCl [(a_o, .inr (1, [.ref a_Sy, .ref a_Le, .ref a_Ri, .ref a_Si, .ref a_Pr, .ref a_Un, .int v_Ma])), (a_Le, .inl (cI, 200, .inl v_Le)), (a_Ri, .inl (cI, 200, .inl v_Ri)), (a_Si, .inl (cI, 200, .inl v_Si)), (a_Sy, .inl (cI, 200, .inl v_Sy)), (a_Un, .inl (cI, 32, .inl v_Un)), (a_p1_, .inl (cI, 32, .inl v_p1_))] H → va_D A [(a_o, .inr (1, [.ref a_Sy, .ref a_Le, .ref a_Ri, .ref a_Si, .ref a_Pr, .ref a_Un, .int v_Ma])), (a_Le, .inl (cI, 200, .inl v_Le)), (a_Ri, .inl (cI, 200, .inl v_Ri)), (a_Si, .inl (cI, 200, .inl v_Si)), (a_Sy, .inl (cI, 200, .inl v_Sy)), (a_Un, .inl (cI, 32, .inl v_Un)), (a_p1_, .inl (cI, 32, .inl v_p1_))] → va_S A s.heap H locs → ∀ (ls : Array Slot), lv_has ls 8 [(0, .ref a_o), (1, .ref a_p1_), (3, .int x3), (5, .int x5), (6, .int x6), (7, .int x7)] → W p l e (headSpec wsX1_plant rm_X1_plant).room s m args below meth c H locs 0 0 (MQ below (va_Qi (fun (r : Int32) (u : Int32 × (Nat → Int32) × (Nat → Int32) × (Nat → Int32) × (Nat → Int32) × (Nat → Int32)) => Q r u.1 u.2.1 u.2.2.1 u.2.2.2.1 u.2.2.2.2.1 u.2.2.2.2.2) (tm_B D (fun (u : Int32 × (Nat → Int32) × (Nat → Int32) × (Nat → Int32) × (Nat → Int32) × (Nat → Int32)) => [(a_o, .inr (1, [.ref a_Sy, .ref a_Le, .ref a_Ri, .ref a_Si, .ref a_Pr, .ref a_Un, .int u.1])), (a_Le, .inl (cI, 200, .inl u.2.1)), (a_Ri, .inl (cI, 200, .inl u.2.2.1)), (a_Si, .inl (cI, 200, .inl u.2.2.2.1)), (a_Sy, .inl (cI, 200, .inl u.2.2.2.2.1)), (a_Un, .inl (cI, 32, .inl u.2.2.2.2.2)), (a_p1_, .inl (cI, 32, .inl v_p1_))]) A) A) args s 0 0 A) (F0 m 71 ls []) := by
  obtain ⟨hx, hb, hr, hml, hown, hts, hlocks⟩ := id C
  intro H locs hP hD hS ls hl
  unfold wp_X1_plant_71 at h
  refine lv_aload_n hx hb dX1_plant_71 rfl (lv_at hl 0 rfl) ?_
  refine lv_aload_n hx hb dX1_plant_72 rfl (lv_at hl 1 rfl) ?_
  refine lv_iload hx hb dX1_plant_73 (lv_at hl 3 rfl) ?_
  obtain ⟨b9, h⟩ := h
  refine va_iald hx hb hK.1 hP 6 0 rfl rfl b9 dX1_plant_75 ?_
  refine lv_iload hx hb dX1_plant_76 (lv_at hl 4 rfl) ?_
  refine lv_iload hx hb dX1_plant_78 (lv_at hl 5 rfl) ?_
  refine tm_wi (wr := [(a_Un, .inl (cI, 32, .inl v_Un)), (a_p1_, .inl (cI, 32, .inl v_p1_))]) (wf := (fun (u : Int32 × (Nat → Int32) × (Nat → Int32) × (Nat → Int32) × (Nat → Int32)) => [(a_o, .inr (1, [.ref a_Sy, .ref a_Le, .ref a_Ri, .ref a_Si, .ref a_Pr, .ref a_Un, .int u.1])), (a_Le, .inl (cI, 200, .inl u.2.1)), (a_Ri, .inl (cI, 200, .inl u.2.2.1)), (a_Si, .inl (cI, 200, .inl u.2.2.2.1)), (a_Sy, .inl (cI, 200, .inl u.2.2.2.2)), (a_Un, .inl (cI, 32, .inl v_Un)), (a_p1_, .inl (cI, 32, .inl v_p1_))])) (va_runV (As := [.int (v_p1_ (x5).toNatClampNeg), .int x6, .int x7]) (rest := []) ⟨hx, hb, hml, hown, hts⟩ (cn_X1_add l D cI cB a_o a_Sy a_Le a_Ri a_Si a_Pr a_Un v_Ma v_Le v_Ri v_Si v_Sy (v_p1_ (x5).toNatClampNeg) x6 x7 H.size _ h) (cwV 3 hts gX1_plant_X1_add rfl rfl rfl (by decide +kernel) ⟨Nat.le_of_ble_eq_true rfl, Nat.le_of_ble_eq_true rfl⟩) (tm_pV (As := [.int (v_p1_ (x5).toNatClampNeg), .int x6, .int x7]) hK hP hD [0, 1, 2, 3, 4] (by decide) rfl (va_recv hK.1 hP (ci := 1) (q0 := 0) rfl rfl)) rfl rfl hl.1 rfl (lv_room (Nat.le_of_ble_eq_true rfl)) dX1_plant_80 ⟨Nat.zero_le _, Nat.zero_le _⟩) hP hD hS hA [0, 1, 2, 3, 4] [5, 6] [2, 3, 4, 5, 6, 0, 1] rfl rfl (by decide) (by decide) (by decide) (fun _ => rfl) (fun r15 u H locs h hP hD hS => ?_)
  obtain ⟨u10, u11, u12, u13, u14⟩ := u
  have hP : va_P D vwCl [(a_o, .inr (1, [.ref a_Sy, .ref a_Le, .ref a_Ri, .ref a_Si, .ref a_Pr, .ref a_Un, .int u10])), (a_Le, .inl (cI, 200, .inl u11)), (a_Ri, .inl (cI, 200, .inl u12)), (a_Si, .inl (cI, 200, .inl u13)), (a_Sy, .inl (cI, 200, .inl u14)), (a_Un, .inl (cI, 32, .inl v_Un)), (a_p1_, .inl (cI, 32, .inl v_p1_))] H := hP
  have hD : va_D A [(a_o, .inr (1, [.ref a_Sy, .ref a_Le, .ref a_Ri, .ref a_Si, .ref a_Pr, .ref a_Un, .int u10])), (a_Le, .inl (cI, 200, .inl u11)), (a_Ri, .inl (cI, 200, .inl u12)), (a_Si, .inl (cI, 200, .inl u13)), (a_Sy, .inl (cI, 200, .inl u14)), (a_Un, .inl (cI, 32, .inl v_Un)), (a_p1_, .inl (cI, 32, .inl v_p1_))] := hD
  refine lv_istore (lv' := [(4, .int r15), (0, .ref a_o), (1, .ref a_p1_), (3, .int x3), (5, .int x5), (6, .int x6), (7, .int x7)]) hx hb dX1_plant_83 hl (by decide) rfl (fun ls hl => ?_)
  refine lv_aload_n hx hb dX1_plant_85 rfl (lv_at hl 1 rfl) ?_
  refine va_get (D := D) (ci := 1) (v := .ref a_Un) (C := RX1) (T := TX1) (N := 7) hx hb hts in_X1_plant_X1 hown hK.1 hP 0 rfl rfl 5 (by decide) (hts (.fieldLink RX1 27 "TreeMachines$Forest" "unused" "[I") (by decide +kernel)) (fun _ h9 => h9) rfl dX1_plant_86 ?_
  refine lv_iload_n hx hb dX1_plant_89 rfl (lv_at hl 3 rfl) ?_
  refine lv_iload hx hb dX1_plant_90 (lv_at hl 0 rfl) ?_
  obtain ⟨b16, h⟩ := h
  refine va_iast hx hb hK.1 hP hD hS 5 0 rfl rfl b16 dX1_plant_92 (fun H locs hP hD hS => ?_)
  obtain ⟨f_17, ef_17⟩ : ∃ y : Nat → Int32, y = upd v_Un (x3).toNatClampNeg r15 := ⟨_, rfl⟩
  have h := h f_17 ef_17
  have hP : va_P D vwCl [(a_o, .inr (1, [.ref a_Sy, .ref a_Le, .ref a_Ri, .ref a_Si, .ref a_Pr, .ref a_Un, .int u10])), (a_Le, .inl (cI, 200, .inl u11)), (a_Ri, .inl (cI, 200, .inl u12)), (a_Si, .inl (cI, 200, .inl u13)), (a_Sy, .inl (cI, 200, .inl u14)), (a_Un, .inl (cI, 32, .inl f_17)), (a_p1_, .inl (cI, 32, .inl v_p1_))] H := by rw [ef_17]; exact hP
  have hD : va_D A [(a_o, .inr (1, [.ref a_Sy, .ref a_Le, .ref a_Ri, .ref a_Si, .ref a_Pr, .ref a_Un, .int u10])), (a_Le, .inl (cI, 200, .inl u11)), (a_Ri, .inl (cI, 200, .inl u12)), (a_Si, .inl (cI, 200, .inl u13)), (a_Sy, .inl (cI, 200, .inl u14)), (a_Un, .inl (cI, 32, .inl f_17)), (a_p1_, .inl (cI, 32, .inl v_p1_))] := by rw [ef_17]; exact hD
  obtain ⟨x3_18, ex3_18⟩ : ∃ y : Int32, y = x3 + 1 := ⟨_, rfl⟩
  have h := h x3_18 ex3_18
  refine lv_iinc (v := x3_18) (lv' := [(3, .int x3_18), (4, .int r15), (0, .ref a_o), (1, .ref a_p1_), (5, .int x5), (6, .int x6), (7, .int x7)]) hx hb dX1_plant_93 hl (k := 3) rfl (by rw [ex3_18]; rfl) (by decide) rfl (fun ls hl => ?_)
  obtain ⟨x5_19, ex5_19⟩ : ∃ y : Int32, y = x5 + (-1) := ⟨_, rfl⟩
  have h := h x5_19 ex5_19
  refine lv_iinc (v := x5_19) (lv' := [(5, .int x5_19), (3, .int x3_18), (4, .int r15), (0, .ref a_o), (1, .ref a_p1_), (6, .int x6), (7, .int x7)]) hx hb dX1_plant_96 hl (k := 4) rfl (by rw [ex5_19]; rfl) (by decide) rfl (fun ls hl => ?_)
  refine lv_goto (tgt := 10) hx hb dX1_plant_99 (by decide) ?_
  exact k10 u10 u11 u12 u13 u14 f_17 x3_18 r15 x5_19 h H locs hP hD hS ls (lv_sub hl [3, 4, 1, 2, 0] rfl)
def wp_X1_plant_46 (v_p1_ : Nat → Int32) (K10 : Int32 → (Nat → Int32) → (Nat → Int32) → (Nat → Int32) → (Nat → Int32) → (Nat → Int32) → Int32 → Int32 → Int32 → Prop) (Q : Int32 → Int32 → (Nat → Int32) → (Nat → Int32) → (Nat → Int32) → (Nat → Int32) → (Nat → Int32) → Prop) (v_Ma : Int32) (v_Le : Nat → Int32) (v_Ri : Nat → Int32) (v_Si : Nat → Int32) (v_Sy : Nat → Int32) (v_Un : Nat → Int32) (x3 : Int32) (x5 : Int32) (x6 : Int32) (x7 : Int32) : Prop :=
  vp_in x5 32 ∧ wp_X5_hasRight (v_p1_ (x5).toNatClampNeg) (fun r7 => ((r7 = 0 → wp_X1_plant_71 v_p1_ K10 Q v_Ma v_Le v_Ri v_Si v_Sy v_Un x3 x5 x6 x7) ∧ (¬ (r7 = 0) → ((x3 ≤ 0 → wp_X1_plant_71 v_p1_ K10 Q v_Ma v_Le v_Ri v_Si v_Sy v_Un x3 x5 x6 x7) ∧ (¬ (x3 ≤ 0) → ∀ x3_21 : Int32, x3_21 = x3 + (-1) → vp_in x3_21 32 ∧ ∀ x7_23 : Int32, x7_23 = (v_Un (x3_21).toNatClampNeg) → wp_X1_plant_71 v_p1_ K10 Q v_Ma v_Le v_Ri v_Si v_Sy v_Un x3_21 x5 x6 x7_23)))))
set_option maxRecDepth 100000 in
set_option maxHeartbeats 4000000 in
theorem bk_X1_plant_46 {p : Program} {l : Launch} {e : Env} {s : State} {m : MethodId} {args : Array Value} {below : List Frame} {meth : Method} {c : Code} {D : va_G} {cI cB : ClassId} {a_o a_Sy a_Le a_Ri a_Si a_Pr a_Un a_p1_ : Nat} {A : Nat → Prop} {v_p1_ : Nat → Int32} {Q : Int32 → Int32 → (Nat → Int32) → (Nat → Int32) → (Nat → Int32) → (Nat → Int32) → (Nat → Int32) → Prop} (C : tm_cx p s m args meth c cX1_plant 8 (some .int) RX1 wsX1_plant) (hK : tm_kx D cI cB s) (hA : ∀ q : Nat, s.heap.size ≤ q → A q) {K10 : Int32 → (Nat → Int32) → (Nat → Int32) → (Nat → Int32) → (Nat → Int32) → (Nat → Int32) → Int32 → Int32 → Int32 → Prop} (k10 : ∀ (v_Ma : Int32) (v_Le : Nat → Int32) (v_Ri : Nat → Int32) (v_Si : Nat → Int32) (v_Sy : Nat → Int32) (v_Un : Nat → Int32) (x3 : Int32) (x4 : Int32) (x5 : Int32), K10 v_Ma v_Le v_Ri v_Si v_Sy v_Un x3 x4 x5 → ∀ (H : Heap) (locs : List Loc), va_P D vwCl [(a_o, .inr (1, [.ref a_Sy, .ref a_Le, .ref a_Ri, .ref a_Si, .ref a_Pr, .ref a_Un, .int v_Ma])), (a_Le, .inl (cI, 200, .inl v_Le)), (a_Ri, .inl (cI, 200, .inl v_Ri)), (a_Si, .inl (cI, 200, .inl v_Si)), (a_Sy, .inl (cI, 200, .inl v_Sy)), (a_Un, .inl (cI, 32, .inl v_Un)), (a_p1_, .inl (cI, 32, .inl v_p1_))] H → va_D A [(a_o, .inr (1, [.ref a_Sy, .ref a_Le, .ref a_Ri, .ref a_Si, .ref a_Pr, .ref a_Un, .int v_Ma])), (a_Le, .inl (cI, 200, .inl v_Le)), (a_Ri, .inl (cI, 200, .inl v_Ri)), (a_Si, .inl (cI, 200, .inl v_Si)), (a_Sy, .inl (cI, 200, .inl v_Sy)), (a_Un, .inl (cI, 32, .inl v_Un)), (a_p1_, .inl (cI, 32, .inl v_p1_))] → va_S A s.heap H locs → ∀ (ls : Array Slot), lv_has ls 8 [(0, .ref a_o), (1, .ref a_p1_), (3, .int x3), (4, .int x4), (5, .int x5)] → W p l e (headSpec wsX1_plant rm_X1_plant).room s m args below meth c H locs 0 0 (MQ below (va_Qi (fun (r : Int32) (u : Int32 × (Nat → Int32) × (Nat → Int32) × (Nat → Int32) × (Nat → Int32) × (Nat → Int32)) => Q r u.1 u.2.1 u.2.2.1 u.2.2.2.1 u.2.2.2.2.1 u.2.2.2.2.2) (tm_B D (fun (u : Int32 × (Nat → Int32) × (Nat → Int32) × (Nat → Int32) × (Nat → Int32) × (Nat → Int32)) => [(a_o, .inr (1, [.ref a_Sy, .ref a_Le, .ref a_Ri, .ref a_Si, .ref a_Pr, .ref a_Un, .int u.1])), (a_Le, .inl (cI, 200, .inl u.2.1)), (a_Ri, .inl (cI, 200, .inl u.2.2.1)), (a_Si, .inl (cI, 200, .inl u.2.2.2.1)), (a_Sy, .inl (cI, 200, .inl u.2.2.2.2.1)), (a_Un, .inl (cI, 32, .inl u.2.2.2.2.2)), (a_p1_, .inl (cI, 32, .inl v_p1_))]) A) A) args s 0 0 A) (F0 m 10 ls [])) (v_Ma : Int32) (v_Le : Nat → Int32) (v_Ri : Nat → Int32) (v_Si : Nat → Int32) (v_Sy : Nat → Int32) (v_Un : Nat → Int32) (x3 : Int32) (x5 : Int32) (x6 : Int32) (x7 : Int32) (h : wp_X1_plant_46 v_p1_ K10 Q v_Ma v_Le v_Ri v_Si v_Sy v_Un x3 x5 x6 x7) : ∀ (H : Heap) (locs : List Loc), va_P D vwCl [(a_o, .inr (1, [.ref a_Sy, .ref a_Le, .ref a_Ri, .ref a_Si, .ref a_Pr, .ref a_Un, .int v_Ma])), (a_Le, .inl (cI, 200, .inl v_Le)), (a_Ri, .inl (cI, 200, .inl v_Ri)), (a_Si, .inl (cI, 200, .inl v_Si)), (a_Sy, .inl (cI, 200, .inl v_Sy)), (a_Un, .inl (cI, 32, .inl v_Un)), (a_p1_, .inl (cI, 32, .inl v_p1_))] H → va_D A [(a_o, .inr (1, [.ref a_Sy, .ref a_Le, .ref a_Ri, .ref a_Si, .ref a_Pr, .ref a_Un, .int v_Ma])), (a_Le, .inl (cI, 200, .inl v_Le)), (a_Ri, .inl (cI, 200, .inl v_Ri)), (a_Si, .inl (cI, 200, .inl v_Si)), (a_Sy, .inl (cI, 200, .inl v_Sy)), (a_Un, .inl (cI, 32, .inl v_Un)), (a_p1_, .inl (cI, 32, .inl v_p1_))] → va_S A s.heap H locs → ∀ (ls : Array Slot), lv_has ls 8 [(0, .ref a_o), (1, .ref a_p1_), (3, .int x3), (5, .int x5), (6, .int x6), (7, .int x7)] → W p l e (headSpec wsX1_plant rm_X1_plant).room s m args below meth c H locs 0 0 (MQ below (va_Qi (fun (r : Int32) (u : Int32 × (Nat → Int32) × (Nat → Int32) × (Nat → Int32) × (Nat → Int32) × (Nat → Int32)) => Q r u.1 u.2.1 u.2.2.1 u.2.2.2.1 u.2.2.2.2.1 u.2.2.2.2.2) (tm_B D (fun (u : Int32 × (Nat → Int32) × (Nat → Int32) × (Nat → Int32) × (Nat → Int32) × (Nat → Int32)) => [(a_o, .inr (1, [.ref a_Sy, .ref a_Le, .ref a_Ri, .ref a_Si, .ref a_Pr, .ref a_Un, .int u.1])), (a_Le, .inl (cI, 200, .inl u.2.1)), (a_Ri, .inl (cI, 200, .inl u.2.2.1)), (a_Si, .inl (cI, 200, .inl u.2.2.2.1)), (a_Sy, .inl (cI, 200, .inl u.2.2.2.2.1)), (a_Un, .inl (cI, 32, .inl u.2.2.2.2.2)), (a_p1_, .inl (cI, 32, .inl v_p1_))]) A) A) args s 0 0 A) (F0 m 46 ls []) := by
  obtain ⟨hx, hb, hr, hml, hown, hts, hlocks⟩ := id C
  intro H locs hP hD hS ls hl
  unfold wp_X1_plant_46 at h
  refine lv_aload_n hx hb dX1_plant_46 rfl (lv_at hl 1 rfl) ?_
  refine lv_iload hx hb dX1_plant_47 (lv_at hl 3 rfl) ?_
  obtain ⟨b6, h⟩ := h
  refine va_iald hx hb hK.1 hP 6 0 rfl rfl b6 dX1_plant_49 ?_
  refine tm_rSN (As := [.int (v_p1_ (x5).toNatClampNeg)]) (rest := []) (wc := []) ⟨hx, hb, hml, hown, hts⟩ (cn_X5_hasRight l D cI cB (v_p1_ (x5).toNatClampNeg) _ h) ⟨va_cnB 1 hts gX1_plant_X5_hasRight_n38 rfl rfl rfl hK.2.2.2.2.1 (hts (.initialized RX5) (by decide +kernel)) (by decide +kernel) ⟨Nat.le_of_ble_eq_true rfl, Nat.le_of_ble_eq_true rfl⟩, hts (.static yX5_hasRight) (by decide +kernel), trivial⟩ hK (hP.sub [] rfl) rfl hl.1 rfl (Nat.le_of_ble_eq_true rfl) ⟨Nat.zero_le _, Nat.zero_le _⟩ dX1_plant_50 (fun r7 h => ?_)
  obtain ⟨br7, h⟩ := h
  refine lv_if_eq (tgt := 71) hx hb dX1_plant_53 (by decide) (fun c8 => ?_) (fun c8 => ?_)
  · have h := h.1 c8
    exact bk_X1_plant_71 C hK hA k10 v_Ma v_Le v_Ri v_Si v_Sy v_Un x3 x5 x6 x7 h H locs hP hD hS ls (lv_sub hl [0, 1, 2, 3, 4, 5] rfl)
  · have h := h.2 c8
    refine lv_iload_n hx hb dX1_plant_56 rfl (lv_at hl 2 rfl) ?_
    refine lv_if_le (tgt := 71) hx hb dX1_plant_57 (by decide) (fun c20 => ?_) (fun c20 => ?_)
    · have h := h.1 c20
      exact bk_X1_plant_71 C hK hA k10 v_Ma v_Le v_Ri v_Si v_Sy v_Un x3 x5 x6 x7 h H locs hP hD hS ls (lv_sub hl [0, 1, 2, 3, 4, 5] rfl)
    · have h := h.2 c20
      obtain ⟨x3_21, ex3_21⟩ : ∃ y : Int32, y = x3 + (-1) := ⟨_, rfl⟩
      have h := h x3_21 ex3_21
      refine lv_iinc (v := x3_21) (lv' := [(3, .int x3_21), (0, .ref a_o), (1, .ref a_p1_), (5, .int x5), (6, .int x6), (7, .int x7)]) hx hb dX1_plant_60 hl (k := 2) rfl (by rw [ex3_21]; rfl) (by decide) rfl (fun ls hl => ?_)
      refine lv_aload_n hx hb dX1_plant_63 rfl (lv_at hl 1 rfl) ?_
      refine va_get (D := D) (ci := 1) (v := .ref a_Un) (C := RX1) (T := TX1) (N := 7) hx hb hts in_X1_plant_X1 hown hK.1 hP 0 rfl rfl 5 (by decide) (hts (.fieldLink RX1 27 "TreeMachines$Forest" "unused" "[I") (by decide +kernel)) (fun _ h9 => h9) rfl dX1_plant_64 ?_
      refine lv_iload_n hx hb dX1_plant_67 rfl (lv_at hl 0 rfl) ?_
      obtain ⟨b22, h⟩ := h
      refine va_iald hx hb hK.1 hP 5 0 rfl rfl b22 dX1_plant_68 ?_
      refine lv_topi (fun x7_23 ex7_23 => ?_)
      have h := h x7_23 ex7_23
      refine lv_istore (lv' := [(7, .int x7_23), (3, .int x3_21), (0, .ref a_o), (1, .ref a_p1_), (5, .int x5), (6, .int x6)]) hx hb dX1_plant_69 hl (by decide) rfl (fun ls hl => ?_)
      exact bk_X1_plant_71 C hK hA k10 v_Ma v_Le v_Ri v_Si v_Sy v_Un x3_21 x5 x6 x7_23 h H locs hP hD hS ls (lv_sub hl [2, 3, 1, 4, 5, 0] rfl)
def wp_X1_plant_10 (v_p1_ : Nat → Int32) (K10 : Int32 → (Nat → Int32) → (Nat → Int32) → (Nat → Int32) → (Nat → Int32) → (Nat → Int32) → Int32 → Int32 → Int32 → Prop) (Q : Int32 → Int32 → (Nat → Int32) → (Nat → Int32) → (Nat → Int32) → (Nat → Int32) → (Nat → Int32) → Prop) (v_Ma : Int32) (v_Le : Nat → Int32) (v_Ri : Nat → Int32) (v_Si : Nat → Int32) (v_Sy : Nat → Int32) (v_Un : Nat → Int32) (x3 : Int32) (x4 : Int32) (x5 : Int32) : Prop :=
  ((x5 < 0 → Q x4 v_Ma v_Le v_Ri v_Si v_Sy v_Un) ∧ (¬ (x5 < 0) → vp_in x5 32 ∧ wp_X5_hasLeft (v_p1_ (x5).toNatClampNeg) (fun r4 => ((r4 = 0 → wp_X1_plant_46 v_p1_ K10 Q v_Ma v_Le v_Ri v_Si v_Sy v_Un x3 x5 (-1) (-1)) ∧ (¬ (r4 = 0) → ((x3 ≤ 0 → wp_X1_plant_46 v_p1_ K10 Q v_Ma v_Le v_Ri v_Si v_Sy v_Un x3 x5 (-1) (-1)) ∧ (¬ (x3 ≤ 0) → ∀ x3_25 : Int32, x3_25 = x3 + (-1) → vp_in x3_25 32 ∧ ∀ x6_27 : Int32, x6_27 = (v_Un (x3_25).toNatClampNeg) → wp_X1_plant_46 v_p1_ K10 Q v_Ma v_Le v_Ri v_Si v_Sy v_Un x3_25 x5 x6_27 (-1))))))))
set_option maxRecDepth 100000 in
set_option maxHeartbeats 4000000 in
theorem bk_X1_plant_10 {p : Program} {l : Launch} {e : Env} {s : State} {m : MethodId} {args : Array Value} {below : List Frame} {meth : Method} {c : Code} {D : va_G} {cI cB : ClassId} {a_o a_Sy a_Le a_Ri a_Si a_Pr a_Un a_p1_ : Nat} {A : Nat → Prop} {v_p1_ : Nat → Int32} {Q : Int32 → Int32 → (Nat → Int32) → (Nat → Int32) → (Nat → Int32) → (Nat → Int32) → (Nat → Int32) → Prop} (C : tm_cx p s m args meth c cX1_plant 8 (some .int) RX1 wsX1_plant) (hK : tm_kx D cI cB s) (hA : ∀ q : Nat, s.heap.size ≤ q → A q) {K10 : Int32 → (Nat → Int32) → (Nat → Int32) → (Nat → Int32) → (Nat → Int32) → (Nat → Int32) → Int32 → Int32 → Int32 → Prop} (k10 : ∀ (v_Ma : Int32) (v_Le : Nat → Int32) (v_Ri : Nat → Int32) (v_Si : Nat → Int32) (v_Sy : Nat → Int32) (v_Un : Nat → Int32) (x3 : Int32) (x4 : Int32) (x5 : Int32), K10 v_Ma v_Le v_Ri v_Si v_Sy v_Un x3 x4 x5 → ∀ (H : Heap) (locs : List Loc), va_P D vwCl [(a_o, .inr (1, [.ref a_Sy, .ref a_Le, .ref a_Ri, .ref a_Si, .ref a_Pr, .ref a_Un, .int v_Ma])), (a_Le, .inl (cI, 200, .inl v_Le)), (a_Ri, .inl (cI, 200, .inl v_Ri)), (a_Si, .inl (cI, 200, .inl v_Si)), (a_Sy, .inl (cI, 200, .inl v_Sy)), (a_Un, .inl (cI, 32, .inl v_Un)), (a_p1_, .inl (cI, 32, .inl v_p1_))] H → va_D A [(a_o, .inr (1, [.ref a_Sy, .ref a_Le, .ref a_Ri, .ref a_Si, .ref a_Pr, .ref a_Un, .int v_Ma])), (a_Le, .inl (cI, 200, .inl v_Le)), (a_Ri, .inl (cI, 200, .inl v_Ri)), (a_Si, .inl (cI, 200, .inl v_Si)), (a_Sy, .inl (cI, 200, .inl v_Sy)), (a_Un, .inl (cI, 32, .inl v_Un)), (a_p1_, .inl (cI, 32, .inl v_p1_))] → va_S A s.heap H locs → ∀ (ls : Array Slot), lv_has ls 8 [(0, .ref a_o), (1, .ref a_p1_), (3, .int x3), (4, .int x4), (5, .int x5)] → W p l e (headSpec wsX1_plant rm_X1_plant).room s m args below meth c H locs 0 0 (MQ below (va_Qi (fun (r : Int32) (u : Int32 × (Nat → Int32) × (Nat → Int32) × (Nat → Int32) × (Nat → Int32) × (Nat → Int32)) => Q r u.1 u.2.1 u.2.2.1 u.2.2.2.1 u.2.2.2.2.1 u.2.2.2.2.2) (tm_B D (fun (u : Int32 × (Nat → Int32) × (Nat → Int32) × (Nat → Int32) × (Nat → Int32) × (Nat → Int32)) => [(a_o, .inr (1, [.ref a_Sy, .ref a_Le, .ref a_Ri, .ref a_Si, .ref a_Pr, .ref a_Un, .int u.1])), (a_Le, .inl (cI, 200, .inl u.2.1)), (a_Ri, .inl (cI, 200, .inl u.2.2.1)), (a_Si, .inl (cI, 200, .inl u.2.2.2.1)), (a_Sy, .inl (cI, 200, .inl u.2.2.2.2.1)), (a_Un, .inl (cI, 32, .inl u.2.2.2.2.2)), (a_p1_, .inl (cI, 32, .inl v_p1_))]) A) A) args s 0 0 A) (F0 m 10 ls [])) (v_Ma : Int32) (v_Le : Nat → Int32) (v_Ri : Nat → Int32) (v_Si : Nat → Int32) (v_Sy : Nat → Int32) (v_Un : Nat → Int32) (x3 : Int32) (x4 : Int32) (x5 : Int32) (h : wp_X1_plant_10 v_p1_ K10 Q v_Ma v_Le v_Ri v_Si v_Sy v_Un x3 x4 x5) : ∀ (H : Heap) (locs : List Loc), va_P D vwCl [(a_o, .inr (1, [.ref a_Sy, .ref a_Le, .ref a_Ri, .ref a_Si, .ref a_Pr, .ref a_Un, .int v_Ma])), (a_Le, .inl (cI, 200, .inl v_Le)), (a_Ri, .inl (cI, 200, .inl v_Ri)), (a_Si, .inl (cI, 200, .inl v_Si)), (a_Sy, .inl (cI, 200, .inl v_Sy)), (a_Un, .inl (cI, 32, .inl v_Un)), (a_p1_, .inl (cI, 32, .inl v_p1_))] H → va_D A [(a_o, .inr (1, [.ref a_Sy, .ref a_Le, .ref a_Ri, .ref a_Si, .ref a_Pr, .ref a_Un, .int v_Ma])), (a_Le, .inl (cI, 200, .inl v_Le)), (a_Ri, .inl (cI, 200, .inl v_Ri)), (a_Si, .inl (cI, 200, .inl v_Si)), (a_Sy, .inl (cI, 200, .inl v_Sy)), (a_Un, .inl (cI, 32, .inl v_Un)), (a_p1_, .inl (cI, 32, .inl v_p1_))] → va_S A s.heap H locs → ∀ (ls : Array Slot), lv_has ls 8 [(0, .ref a_o), (1, .ref a_p1_), (3, .int x3), (4, .int x4), (5, .int x5)] → W p l e (headSpec wsX1_plant rm_X1_plant).room s m args below meth c H locs 0 0 (MQ below (va_Qi (fun (r : Int32) (u : Int32 × (Nat → Int32) × (Nat → Int32) × (Nat → Int32) × (Nat → Int32) × (Nat → Int32)) => Q r u.1 u.2.1 u.2.2.1 u.2.2.2.1 u.2.2.2.2.1 u.2.2.2.2.2) (tm_B D (fun (u : Int32 × (Nat → Int32) × (Nat → Int32) × (Nat → Int32) × (Nat → Int32) × (Nat → Int32)) => [(a_o, .inr (1, [.ref a_Sy, .ref a_Le, .ref a_Ri, .ref a_Si, .ref a_Pr, .ref a_Un, .int u.1])), (a_Le, .inl (cI, 200, .inl u.2.1)), (a_Ri, .inl (cI, 200, .inl u.2.2.1)), (a_Si, .inl (cI, 200, .inl u.2.2.2.1)), (a_Sy, .inl (cI, 200, .inl u.2.2.2.2.1)), (a_Un, .inl (cI, 32, .inl u.2.2.2.2.2)), (a_p1_, .inl (cI, 32, .inl v_p1_))]) A) A) args s 0 0 A) (F0 m 10 ls []) := by
  obtain ⟨hx, hb, hr, hml, hown, hts, hlocks⟩ := id C
  intro H locs hP hD hS ls hl
  unfold wp_X1_plant_10 at h
  refine lv_iload hx hb dX1_plant_10 (lv_at hl 4 rfl) ?_
  refine lv_if_lt (tgt := 102) hx hb dX1_plant_12 (by decide) (fun c2 => ?_) (fun c2 => ?_)
  · have h := h.1 c2
    refine lv_iload hx hb dX1_plant_102 (lv_at hl 3 rfl) ?_
    exact W.iret (v := x4) hx hb hr (fun t ht hW => ⟨⟨x4, (v_Ma, v_Le, v_Ri, v_Si, v_Sy, v_Un), rfl, h, by rw [ht]; exact hP, hD⟩, hS.F ht⟩) hS.2.2 dX1_plant_104
  · have h := h.2 c2
    refine lv_iconst (v := (-1)) hx hb dX1_plant_15 (by decide) ?_
    refine lv_istore (lv' := [(6, .int (-1)), (0, .ref a_o), (1, .ref a_p1_), (3, .int x3), (4, .int x4), (5, .int x5)]) hx hb dX1_plant_16 hl (by decide) rfl (fun ls hl => ?_)
    refine lv_iconst (v := (-1)) hx hb dX1_plant_18 (by decide) ?_
    refine lv_istore (lv' := [(7, .int (-1)), (6, .int (-1)), (0, .ref a_o), (1, .ref a_p1_), (3, .int x3), (4, .int x4), (5, .int x5)]) hx hb dX1_plant_19 hl (by decide) rfl (fun ls hl => ?_)
    refine lv_aload_n hx hb dX1_plant_21 rfl (lv_at hl 3 rfl) ?_
    refine lv_iload hx hb dX1_plant_22 (lv_at hl 6 rfl) ?_
    obtain ⟨b3, h⟩ := h
    refine va_iald hx hb hK.1 hP 6 0 rfl rfl b3 dX1_plant_24 ?_
    refine tm_rSN (As := [.int (v_p1_ (x5).toNatClampNeg)]) (rest := []) (wc := []) ⟨hx, hb, hml, hown, hts⟩ (cn_X5_hasLeft l D cI cB (v_p1_ (x5).toNatClampNeg) _ h) ⟨va_cnB 1 hts gX1_plant_X5_hasLeft_n34 rfl rfl rfl hK.2.2.2.1 (hts (.initialized RX5) (by decide +kernel)) (by decide +kernel) ⟨Nat.le_of_ble_eq_true rfl, Nat.le_of_ble_eq_true rfl⟩, hts (.static yX5_hasLeft) (by decide +kernel), trivial⟩ hK (hP.sub [] rfl) rfl hl.1 rfl (Nat.le_of_ble_eq_true rfl) ⟨Nat.zero_le _, Nat.zero_le _⟩ dX1_plant_25 (fun r4 h => ?_)
    obtain ⟨br4, h⟩ := h
    refine lv_if_eq (tgt := 46) hx hb dX1_plant_28 (by decide) (fun c5 => ?_) (fun c5 => ?_)
    · have h := h.1 c5
      exact bk_X1_plant_46 C hK hA k10 v_Ma v_Le v_Ri v_Si v_Sy v_Un x3 x5 (-1) (-1) h H locs hP hD hS ls (lv_sub hl [2, 3, 4, 6, 1, 0] rfl)
    · have h := h.2 c5
      refine lv_iload_n hx hb dX1_plant_31 rfl (lv_at hl 4 rfl) ?_
      refine lv_if_le (tgt := 46) hx hb dX1_plant_32 (by decide) (fun c24 => ?_) (fun c24 => ?_)
      · have h := h.1 c24
        exact bk_X1_plant_46 C hK hA k10 v_Ma v_Le v_Ri v_Si v_Sy v_Un x3 x5 (-1) (-1) h H locs hP hD hS ls (lv_sub hl [2, 3, 4, 6, 1, 0] rfl)
      · have h := h.2 c24
        obtain ⟨x3_25, ex3_25⟩ : ∃ y : Int32, y = x3 + (-1) := ⟨_, rfl⟩
        have h := h x3_25 ex3_25
        refine lv_iinc (v := x3_25) (lv' := [(3, .int x3_25), (7, .int (-1)), (6, .int (-1)), (0, .ref a_o), (1, .ref a_p1_), (4, .int x4), (5, .int x5)]) hx hb dX1_plant_35 hl (k := 4) rfl (by rw [ex3_25]; rfl) (by decide) rfl (fun ls hl => ?_)
        refine lv_aload_n hx hb dX1_plant_38 rfl (lv_at hl 3 rfl) ?_
        refine va_get (D := D) (ci := 1) (v := .ref a_Un) (C := RX1) (T := TX1) (N := 7) hx hb hts in_X1_plant_X1 hown hK.1 hP 0 rfl rfl 5 (by decide) (hts (.fieldLink RX1 27 "TreeMachines$Forest" "unused" "[I") (by decide +kernel)) (fun _ h9 => h9) rfl dX1_plant_39 ?_
        refine lv_iload_n hx hb dX1_plant_42 rfl (lv_at hl 0 rfl) ?_
        obtain ⟨b26, h⟩ := h
        refine va_iald hx hb hK.1 hP 5 0 rfl rfl b26 dX1_plant_43 ?_
        refine lv_topi (fun x6_27 ex6_27 => ?_)
        have h := h x6_27 ex6_27
        refine lv_istore (lv' := [(6, .int x6_27), (3, .int x3_25), (7, .int (-1)), (0, .ref a_o), (1, .ref a_p1_), (4, .int x4), (5, .int x5)]) hx hb dX1_plant_44 hl (by decide) rfl (fun ls hl => ?_)
        exact bk_X1_plant_46 C hK hA k10 v_Ma v_Le v_Ri v_Si v_Sy v_Un x3_25 x5 x6_27 (-1) h H locs hP hD hS ls (lv_sub hl [3, 4, 1, 6, 0, 2] rfl)
def lp_X1_plant_10 (v_p1_ : Nat → Int32) (Q : Int32 → Int32 → (Nat → Int32) → (Nat → Int32) → (Nat → Int32) → (Nat → Int32) → (Nat → Int32) → Prop) : Nat → Int32 → (Nat → Int32) → (Nat → Int32) → (Nat → Int32) → (Nat → Int32) → (Nat → Int32) → Int32 → Int32 → Int32 → Prop
  | 0, _, _, _, _, _, _, _, _, _ => False
  | n + 1, v_Ma, v_Le, v_Ri, v_Si, v_Sy, v_Un, x3, x4, x5 => wp_X1_plant_10 v_p1_ (lp_X1_plant_10 v_p1_ Q n) Q v_Ma v_Le v_Ri v_Si v_Sy v_Un x3 x4 x5
set_option maxRecDepth 100000 in
theorem lt_X1_plant_10 {p : Program} {l : Launch} {e : Env} {s : State} {m : MethodId} {args : Array Value} {below : List Frame} {meth : Method} {c : Code} {D : va_G} {cI cB : ClassId} {a_o a_Sy a_Le a_Ri a_Si a_Pr a_Un a_p1_ : Nat} {A : Nat → Prop} {v_p1_ : Nat → Int32} {Q : Int32 → Int32 → (Nat → Int32) → (Nat → Int32) → (Nat → Int32) → (Nat → Int32) → (Nat → Int32) → Prop} (C : tm_cx p s m args meth c cX1_plant 8 (some .int) RX1 wsX1_plant) (hK : tm_kx D cI cB s) (hA : ∀ q : Nat, s.heap.size ≤ q → A q) : ∀ (n : Nat) (v_Ma : Int32) (v_Le : Nat → Int32) (v_Ri : Nat → Int32) (v_Si : Nat → Int32) (v_Sy : Nat → Int32) (v_Un : Nat → Int32) (x3 : Int32) (x4 : Int32) (x5 : Int32), lp_X1_plant_10 v_p1_ Q n v_Ma v_Le v_Ri v_Si v_Sy v_Un x3 x4 x5 → ∀ (H : Heap) (locs : List Loc), va_P D vwCl [(a_o, .inr (1, [.ref a_Sy, .ref a_Le, .ref a_Ri, .ref a_Si, .ref a_Pr, .ref a_Un, .int v_Ma])), (a_Le, .inl (cI, 200, .inl v_Le)), (a_Ri, .inl (cI, 200, .inl v_Ri)), (a_Si, .inl (cI, 200, .inl v_Si)), (a_Sy, .inl (cI, 200, .inl v_Sy)), (a_Un, .inl (cI, 32, .inl v_Un)), (a_p1_, .inl (cI, 32, .inl v_p1_))] H → va_D A [(a_o, .inr (1, [.ref a_Sy, .ref a_Le, .ref a_Ri, .ref a_Si, .ref a_Pr, .ref a_Un, .int v_Ma])), (a_Le, .inl (cI, 200, .inl v_Le)), (a_Ri, .inl (cI, 200, .inl v_Ri)), (a_Si, .inl (cI, 200, .inl v_Si)), (a_Sy, .inl (cI, 200, .inl v_Sy)), (a_Un, .inl (cI, 32, .inl v_Un)), (a_p1_, .inl (cI, 32, .inl v_p1_))] → va_S A s.heap H locs → ∀ (ls : Array Slot), lv_has ls 8 [(0, .ref a_o), (1, .ref a_p1_), (3, .int x3), (4, .int x4), (5, .int x5)] → W p l e (headSpec wsX1_plant rm_X1_plant).room s m args below meth c H locs 0 0 (MQ below (va_Qi (fun (r : Int32) (u : Int32 × (Nat → Int32) × (Nat → Int32) × (Nat → Int32) × (Nat → Int32) × (Nat → Int32)) => Q r u.1 u.2.1 u.2.2.1 u.2.2.2.1 u.2.2.2.2.1 u.2.2.2.2.2) (tm_B D (fun (u : Int32 × (Nat → Int32) × (Nat → Int32) × (Nat → Int32) × (Nat → Int32) × (Nat → Int32)) => [(a_o, .inr (1, [.ref a_Sy, .ref a_Le, .ref a_Ri, .ref a_Si, .ref a_Pr, .ref a_Un, .int u.1])), (a_Le, .inl (cI, 200, .inl u.2.1)), (a_Ri, .inl (cI, 200, .inl u.2.2.1)), (a_Si, .inl (cI, 200, .inl u.2.2.2.1)), (a_Sy, .inl (cI, 200, .inl u.2.2.2.2.1)), (a_Un, .inl (cI, 32, .inl u.2.2.2.2.2)), (a_p1_, .inl (cI, 32, .inl v_p1_))]) A) A) args s 0 0 A) (F0 m 10 ls []) := by
  intro n
  induction n with
  | zero => intro _ _ _ _ _ _ _ _ _ h; exact False.elim h
  | succ n ih => intro v_Ma v_Le v_Ri v_Si v_Sy v_Un x3 x4 x5 h; exact bk_X1_plant_10 C hK hA ih v_Ma v_Le v_Ri v_Si v_Sy v_Un x3 x4 x5 h
def wp_X1_plant_in (v_p1_ : Nat → Int32) (Q : Int32 → Int32 → (Nat → Int32) → (Nat → Int32) → (Nat → Int32) → (Nat → Int32) → (Nat → Int32) → Prop) (v_Ma : Int32) (v_Le : Nat → Int32) (v_Ri : Nat → Int32) (v_Si : Nat → Int32) (v_Sy : Nat → Int32) (v_Un : Nat → Int32) (x2 : Int32) : Prop :=
  ∀ x5_1 : Int32, x5_1 = (x2 - 1) → (∃ n : Nat, lp_X1_plant_10 v_p1_ Q n v_Ma v_Le v_Ri v_Si v_Sy v_Un 0 (-1) x5_1)
set_option maxRecDepth 100000 in
set_option maxHeartbeats 4000000 in
theorem bk_X1_plant_in {p : Program} {l : Launch} {e : Env} {s : State} {m : MethodId} {args : Array Value} {below : List Frame} {meth : Method} {c : Code} {D : va_G} {cI cB : ClassId} {a_o a_Sy a_Le a_Ri a_Si a_Pr a_Un a_p1_ : Nat} {A : Nat → Prop} {v_p1_ : Nat → Int32} {Q : Int32 → Int32 → (Nat → Int32) → (Nat → Int32) → (Nat → Int32) → (Nat → Int32) → (Nat → Int32) → Prop} (C : tm_cx p s m args meth c cX1_plant 8 (some .int) RX1 wsX1_plant) (hK : tm_kx D cI cB s) (hA : ∀ q : Nat, s.heap.size ≤ q → A q) (v_Ma : Int32) (v_Le : Nat → Int32) (v_Ri : Nat → Int32) (v_Si : Nat → Int32) (v_Sy : Nat → Int32) (v_Un : Nat → Int32) (x2 : Int32) (h : wp_X1_plant_in v_p1_ Q v_Ma v_Le v_Ri v_Si v_Sy v_Un x2) : ∀ (H : Heap) (locs : List Loc), va_P D vwCl [(a_o, .inr (1, [.ref a_Sy, .ref a_Le, .ref a_Ri, .ref a_Si, .ref a_Pr, .ref a_Un, .int v_Ma])), (a_Le, .inl (cI, 200, .inl v_Le)), (a_Ri, .inl (cI, 200, .inl v_Ri)), (a_Si, .inl (cI, 200, .inl v_Si)), (a_Sy, .inl (cI, 200, .inl v_Sy)), (a_Un, .inl (cI, 32, .inl v_Un)), (a_p1_, .inl (cI, 32, .inl v_p1_))] H → va_D A [(a_o, .inr (1, [.ref a_Sy, .ref a_Le, .ref a_Ri, .ref a_Si, .ref a_Pr, .ref a_Un, .int v_Ma])), (a_Le, .inl (cI, 200, .inl v_Le)), (a_Ri, .inl (cI, 200, .inl v_Ri)), (a_Si, .inl (cI, 200, .inl v_Si)), (a_Sy, .inl (cI, 200, .inl v_Sy)), (a_Un, .inl (cI, 32, .inl v_Un)), (a_p1_, .inl (cI, 32, .inl v_p1_))] → va_S A s.heap H locs → ∀ (ls : Array Slot), lv_has ls 8 [(0, .ref a_o), (1, .ref a_p1_), (2, .int x2)] → W p l e (headSpec wsX1_plant rm_X1_plant).room s m args below meth c H locs 0 0 (MQ below (va_Qi (fun (r : Int32) (u : Int32 × (Nat → Int32) × (Nat → Int32) × (Nat → Int32) × (Nat → Int32) × (Nat → Int32)) => Q r u.1 u.2.1 u.2.2.1 u.2.2.2.1 u.2.2.2.2.1 u.2.2.2.2.2) (tm_B D (fun (u : Int32 × (Nat → Int32) × (Nat → Int32) × (Nat → Int32) × (Nat → Int32) × (Nat → Int32)) => [(a_o, .inr (1, [.ref a_Sy, .ref a_Le, .ref a_Ri, .ref a_Si, .ref a_Pr, .ref a_Un, .int u.1])), (a_Le, .inl (cI, 200, .inl u.2.1)), (a_Ri, .inl (cI, 200, .inl u.2.2.1)), (a_Si, .inl (cI, 200, .inl u.2.2.2.1)), (a_Sy, .inl (cI, 200, .inl u.2.2.2.2.1)), (a_Un, .inl (cI, 32, .inl u.2.2.2.2.2)), (a_p1_, .inl (cI, 32, .inl v_p1_))]) A) A) args s 0 0 A) (F0 m 0 ls []) := by
  obtain ⟨hx, hb, hr, hml, hown, hts, hlocks⟩ := id C
  intro H locs hP hD hS ls hl
  unfold wp_X1_plant_in at h
  refine lv_iconst (v := 0) hx hb dX1_plant_0 (by decide) ?_
  refine lv_istore_n (lv' := [(3, .int 0), (0, .ref a_o), (1, .ref a_p1_), (2, .int x2)]) hx hb dX1_plant_1 rfl hl (by decide) rfl (fun ls hl => ?_)
  refine lv_iconst (v := (-1)) hx hb dX1_plant_2 (by decide) ?_
  refine lv_istore (lv' := [(4, .int (-1)), (3, .int 0), (0, .ref a_o), (1, .ref a_p1_), (2, .int x2)]) hx hb dX1_plant_3 hl (by decide) rfl (fun ls hl => ?_)
  refine lv_iload_n hx hb dX1_plant_5 rfl (lv_at hl 4 rfl) ?_
  refine lv_iconst (v := 1) hx hb dX1_plant_6 (by decide) ?_
  refine lv_isub (x := x2) (y := 1) hx hb dX1_plant_7 ?_
  refine lv_topi (fun x5_1 ex5_1 => ?_)
  have h := h x5_1 ex5_1
  refine lv_istore (lv' := [(5, .int x5_1), (4, .int (-1)), (3, .int 0), (0, .ref a_o), (1, .ref a_p1_), (2, .int x2)]) hx hb dX1_plant_8 hl (by decide) rfl (fun ls hl => ?_)
  obtain ⟨n, h⟩ := h
  exact lt_X1_plant_10 C hK hA n v_Ma v_Le v_Ri v_Si v_Sy v_Un 0 (-1) x5_1 h H locs hP hD hS ls (lv_sub hl [3, 4, 2, 1, 0] rfl)
abbrev wp_X1_plant (v_Ma : Int32) (v_Le : Nat → Int32) (v_Ri : Nat → Int32) (v_Si : Nat → Int32) (v_Sy : Nat → Int32) (v_Un : Nat → Int32) (v_p1_ : Nat → Int32) (x2 : Int32) (Q : Int32 → Int32 → (Nat → Int32) → (Nat → Int32) → (Nat → Int32) → (Nat → Int32) → (Nat → Int32) → Prop) : Prop := wp_X1_plant_in v_p1_ Q v_Ma v_Le v_Ri v_Si v_Sy v_Un x2
set_option maxRecDepth 100000 in
set_option maxHeartbeats 4000000 in
theorem cn_X1_plant (l : Launch) (D : va_G) (cI cB : ClassId) (a_o a_Sy a_Le a_Ri a_Si a_Pr a_Un a_p1_ : Nat) (v_Ma : Int32) (v_Le : Nat → Int32) (v_Ri : Nat → Int32) (v_Si : Nat → Int32) (v_Sy : Nat → Int32) (v_Un : Nat → Int32) (v_p1_ : Nat → Int32) (x2 : Int32) (sz : Nat) (Q : Int32 → Int32 → (Nat → Int32) → (Nat → Int32) → (Nat → Int32) → (Nat → Int32) → (Nat → Int32) → Prop) (h : wp_X1_plant v_Ma v_Le v_Ri v_Si v_Sy v_Un v_p1_ x2 Q) : Met l yX1_plant wsX1_plant rm_X1_plant (tm_Pw D cI cB [.ref a_o, .ref a_p1_, .int x2] [(a_o, .inr (1, [.ref a_Sy, .ref a_Le, .ref a_Ri, .ref a_Si, .ref a_Pr, .ref a_Un, .int v_Ma])), (a_Le, .inl (cI, 200, .inl v_Le)), (a_Ri, .inl (cI, 200, .inl v_Ri)), (a_Si, .inl (cI, 200, .inl v_Si)), (a_Sy, .inl (cI, 200, .inl v_Sy)), (a_Un, .inl (cI, 32, .inl v_Un)), (a_p1_, .inl (cI, 32, .inl v_p1_))] sz) (va_Qi (fun (r : Int32) (u : Int32 × (Nat → Int32) × (Nat → Int32) × (Nat → Int32) × (Nat → Int32) × (Nat → Int32)) => Q r u.1 u.2.1 u.2.2.1 u.2.2.2.1 u.2.2.2.2.1 u.2.2.2.2.2) (tm_B D (fun (u : Int32 × (Nat → Int32) × (Nat → Int32) × (Nat → Int32) × (Nat → Int32) × (Nat → Int32)) => [(a_o, .inr (1, [.ref a_Sy, .ref a_Le, .ref a_Ri, .ref a_Si, .ref a_Pr, .ref a_Un, .int u.1])), (a_Le, .inl (cI, 200, .inl u.2.1)), (a_Ri, .inl (cI, 200, .inl u.2.2.1)), (a_Si, .inl (cI, 200, .inl u.2.2.2.1)), (a_Sy, .inl (cI, 200, .inl u.2.2.2.2.1)), (a_Un, .inl (cI, 32, .inl u.2.2.2.2.2)), (a_p1_, .inl (cI, 32, .inl v_p1_))]) (va_A [(a_o, .inr (1, [.ref a_Sy, .ref a_Le, .ref a_Ri, .ref a_Si, .ref a_Pr, .ref a_Un, .int v_Ma])), (a_Le, .inl (cI, 200, .inl v_Le)), (a_Ri, .inl (cI, 200, .inl v_Ri)), (a_Si, .inl (cI, 200, .inl v_Si)), (a_Sy, .inl (cI, 200, .inl v_Sy)), (a_Un, .inl (cI, 32, .inl v_Un)), (a_p1_, .inl (cI, 32, .inl v_p1_))] sz)) (va_A [(a_o, .inr (1, [.ref a_Sy, .ref a_Le, .ref a_Ri, .ref a_Si, .ref a_Pr, .ref a_Un, .int v_Ma])), (a_Le, .inl (cI, 200, .inl v_Le)), (a_Ri, .inl (cI, 200, .inl v_Ri)), (a_Si, .inl (cI, 200, .inl v_Si)), (a_Sy, .inl (cI, 200, .inl v_Sy)), (a_Un, .inl (cI, 32, .inl v_Un)), (a_p1_, .inl (cI, 32, .inl v_p1_))] sz)) 0 0 (va_A [(a_o, .inr (1, [.ref a_Sy, .ref a_Le, .ref a_Ri, .ref a_Si, .ref a_Pr, .ref a_Un, .int v_Ma])), (a_Le, .inl (cI, 200, .inl v_Le)), (a_Ri, .inl (cI, 200, .inl v_Ri)), (a_Si, .inl (cI, 200, .inl v_Si)), (a_Sy, .inl (cI, 200, .inl v_Sy)), (a_Un, .inl (cI, 32, .inl v_Un)), (a_p1_, .inl (cI, 32, .inl v_p1_))] sz) := by
  refine Met.ofW (cc := cX1_plant) (maxL := 8) (ret := (some .int)) (by decide) rfl ?_
  intro p e s m args below meth c s₁ B hml hv
  obtain ⟨rfl, hsz, hP, hK, hD0⟩ := hv
  subst hsz
  have hD := hD0.self (sz := s.heap.size)
  generalize hAe : va_A [(a_o, .inr (1, [.ref a_Sy, .ref a_Le, .ref a_Ri, .ref a_Si, .ref a_Pr, .ref a_Un, .int v_Ma])), (a_Le, .inl (cI, 200, .inl v_Le)), (a_Ri, .inl (cI, 200, .inl v_Ri)), (a_Si, .inl (cI, 200, .inl v_Si)), (a_Sy, .inl (cI, 200, .inl v_Sy)), (a_Un, .inl (cI, 32, .inl v_Un)), (a_p1_, .inl (cI, 32, .inl v_p1_))] s.heap.size = A at hD ⊢
  have hA : ∀ q : Nat, s.heap.size ≤ q → A q := fun q h => by rw [← hAe]; exact Or.inr h
  have hl := lv_entry ([.ref a_o, .ref a_p1_, .int x2]) (n := 8) (Nat.le_of_ble_eq_true rfl)
  rw [lg_entry_eq]
  generalize (lg_sl ([.ref a_o, .ref a_p1_, .int x2]) ++ List.replicate (8 - (lg_sl ([.ref a_o, .ref a_p1_, .int x2])).length) Slot.unset).toArray = ls at hl ⊢
  have hl : lv_has ls 8 [(0, .ref a_o), (1, .ref a_p1_), (2, .int x2)] := hl
  exact bk_X1_plant_in ⟨B.exec, B.bytes, B.returns, hml, findClass_of_methodNamed B.named, atoms_spec (ws := wsX1_plant) B.pre, B.notSynchronized⟩ hK hA v_Ma v_Le v_Ri v_Si v_Sy v_Un x2 h s.heap [] hP hD va_S.rf ls hl
