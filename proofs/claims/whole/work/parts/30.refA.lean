/-! X6_within (III)Z -/
abbrev rm_X6_within : Room := { frames := 0, cells := 0, slots := 0, locals := 0 }
def wp_X6_within_in (Q : Int32 → Prop) (x0 : Int32) (x1 : Int32) (x2 : Int32) : Prop :=
  ((x0 < x1 → Q 0) ∧ (¬ (x0 < x1) → ((x2 < x0 → Q 0) ∧ (¬ (x2 < x0) → Q 1))))
set_option maxRecDepth 100000 in
set_option maxHeartbeats 4000000 in
theorem bk_X6_within_in {p : Program} {l : Launch} {e : Env} {s : State} {m : MethodId} {args : Array Value} {below : List Frame} {meth : Method} {c : Code} {D : va_G} {cI cB : ClassId} {Q : Int32 → Prop} (C : tm_cx p s m args meth c cX6_within 3 (some .boolean) RX6 wsX6_within) (hK : tm_kx D cI cB s) (x0 : Int32) (x1 : Int32) (x2 : Int32) (h : wp_X6_within_in Q x0 x1 x2) : va_P D vwCl [] s.heap → ∀ (ls : Array Slot), lv_has ls 3 [(0, .int x0), (1, .int x1), (2, .int x2)] → W p l e (headSpec wsX6_within rm_X6_within).room s m args below meth c s.heap [] 0 0 (MQ below (vp_Si (fun r => (r = 0 ∨ r = 1) ∧ Q r)) args s 0 0 (fun _ => False)) (F0 m 0 ls []) := by
  obtain ⟨hx, hb, hr, hml, hown, hts, hlocks⟩ := id C
  intro hP ls hl
  unfold wp_X6_within_in at h
  refine lv_iload_n hx hb dX6_within_0 rfl (lv_at hl 0 rfl) ?_
  refine lv_iload_n hx hb dX6_within_1 rfl (lv_at hl 1 rfl) ?_
  refine lv_icmp_lt (tgt := 14) hx hb dX6_within_2 (by decide) (fun c1 => ?_) (fun c1 => ?_)
  · have h := h.1 c1
    refine lv_iconst (v := 0) hx hb dX6_within_14 (by decide) ?_
    exact W.zret (v := 0) (ty := .boolean) hx hb hr (tm_n01 (Or.inl rfl)) (fun t ht hW => ⟨0, rfl, ⟨Or.inl rfl, h⟩, ht⟩) (fun _ h => by cases h) dX6_within_15
  · have h := h.2 c1
    refine lv_iload_n hx hb dX6_within_5 rfl (lv_at hl 0 rfl) ?_
    refine lv_iload_n hx hb dX6_within_6 rfl (lv_at hl 2 rfl) ?_
    refine lv_icmp_gt (tgt := 14) hx hb dX6_within_7 (by decide) (fun c2 => ?_) (fun c2 => ?_)
    · have h := h.1 c2
      refine lv_iconst (v := 0) hx hb dX6_within_14 (by decide) ?_
      exact W.zret (v := 0) (ty := .boolean) hx hb hr (tm_n01 (Or.inl rfl)) (fun t ht hW => ⟨0, rfl, ⟨Or.inl rfl, h⟩, ht⟩) (fun _ h => by cases h) dX6_within_15
    · have h := h.2 c2
      refine lv_iconst (v := 1) hx hb dX6_within_10 (by decide) ?_
      refine lv_goto (tgt := 15) hx hb dX6_within_11 (by decide) ?_
      exact W.zret (v := 1) (ty := .boolean) hx hb hr (tm_n01 (Or.inr rfl)) (fun t ht hW => ⟨1, rfl, ⟨Or.inr rfl, h⟩, ht⟩) (fun _ h => by cases h) dX6_within_15
abbrev wp_X6_within (x0 : Int32) (x1 : Int32) (x2 : Int32) (Q : Int32 → Prop) : Prop := wp_X6_within_in Q x0 x1 x2
set_option maxRecDepth 100000 in
set_option maxHeartbeats 4000000 in
theorem cn_X6_within (l : Launch) (D : va_G) (cI cB : ClassId) (x0 : Int32) (x1 : Int32) (x2 : Int32) (Q : Int32 → Prop) (h : wp_X6_within x0 x1 x2 Q) : Met l yX6_within wsX6_within rm_X6_within (tm_Pr D cI cB [.int x0, .int x1, .int x2] []) (vp_Si (fun r => (r = 0 ∨ r = 1) ∧ Q r)) 0 0 (fun _ => False) := by
  refine Met.ofW (cc := cX6_within) (maxL := 3) (ret := (some .boolean)) (by decide) rfl ?_
  intro p e s m args below meth c s₁ B hml hv
  obtain ⟨rfl, hP, hK⟩ := hv
  have hl := lv_entry ([.int x0, .int x1, .int x2]) (n := 3) (Nat.le_of_ble_eq_true rfl)
  rw [lg_entry_eq]
  generalize (lg_sl ([.int x0, .int x1, .int x2]) ++ List.replicate (3 - (lg_sl ([.int x0, .int x1, .int x2])).length) Slot.unset).toArray = ls at hl ⊢
  have hl : lv_has ls 3 [(0, .int x0), (1, .int x1), (2, .int x2)] := hl
  exact bk_X6_within_in ⟨B.exec, B.bytes, B.returns, hml, findClass_of_methodNamed B.named, atoms_spec (ws := wsX6_within) B.pre, B.notSynchronized⟩ hK x0 x1 x2 h hP ls hl
/-! X6_children (I)I -/
abbrev rm_X6_children : Room := { frames := 0, cells := 0, slots := 0, locals := 0 }
def wp_X6_children_in (Q : Int32 → Prop) (x0 : Int32) : Prop :=
  ((3 ≤ x0 → ((5 ≤ x0 → Q 2) ∧ (¬ (5 ≤ x0) → Q 1))) ∧ (¬ (3 ≤ x0) → Q 0))
set_option maxRecDepth 100000 in
set_option maxHeartbeats 4000000 in
theorem bk_X6_children_in {p : Program} {l : Launch} {e : Env} {s : State} {m : MethodId} {args : Array Value} {below : List Frame} {meth : Method} {c : Code} {D : va_G} {cI cB : ClassId} {Q : Int32 → Prop} (C : tm_cx p s m args meth c cX6_children 1 (some .int) RX6 wsX6_children) (hK : tm_kx D cI cB s) (x0 : Int32) (h : wp_X6_children_in Q x0) : va_P D vwCl [] s.heap → ∀ (ls : Array Slot), lv_has ls 1 [(0, .int x0)] → W p l e (headSpec wsX6_children rm_X6_children).room s m args below meth c s.heap [] 0 0 (MQ below (vp_Si Q) args s 0 0 (fun _ => False)) (F0 m 0 ls []) := by
  obtain ⟨hx, hb, hr, hml, hown, hts, hlocks⟩ := id C
  intro hP ls hl
  unfold wp_X6_children_in at h
  refine lv_iload_n hx hb dX6_children_0 rfl (lv_at hl 0 rfl) ?_
  refine lv_iconst (v := 3) hx hb dX6_children_1 (by decide) ?_
  refine lv_icmp_ge (tgt := 9) hx hb dX6_children_2 (by decide) (fun c1 => ?_) (fun c1 => ?_)
  · have h := h.1 c1
    refine lv_iload_n hx hb dX6_children_9 rfl (lv_at hl 0 rfl) ?_
    refine lv_iconst (v := 5) hx hb dX6_children_10 (by decide) ?_
    refine lv_icmp_ge (tgt := 18) hx hb dX6_children_11 (by decide) (fun c2 => ?_) (fun c2 => ?_)
    · have h := h.1 c2
      refine lv_iconst (v := 2) hx hb dX6_children_18 (by decide) ?_
      exact W.iret (v := 2) hx hb hr (fun t ht hW => ⟨2, rfl, h, ht⟩) (fun _ h => by cases h) dX6_children_19
    · have h := h.2 c2
      refine lv_iconst (v := 1) hx hb dX6_children_14 (by decide) ?_
      refine lv_goto (tgt := 19) hx hb dX6_children_15 (by decide) ?_
      exact W.iret (v := 1) hx hb hr (fun t ht hW => ⟨1, rfl, h, ht⟩) (fun _ h => by cases h) dX6_children_19
  · have h := h.2 c1
    refine lv_iconst (v := 0) hx hb dX6_children_5 (by decide) ?_
    refine lv_goto (tgt := 19) hx hb dX6_children_6 (by decide) ?_
    exact W.iret (v := 0) hx hb hr (fun t ht hW => ⟨0, rfl, h, ht⟩) (fun _ h => by cases h) dX6_children_19
abbrev wp_X6_children (x0 : Int32) (Q : Int32 → Prop) : Prop := wp_X6_children_in Q x0
set_option maxRecDepth 100000 in
set_option maxHeartbeats 4000000 in
theorem cn_X6_children (l : Launch) (D : va_G) (cI cB : ClassId) (x0 : Int32) (Q : Int32 → Prop) (h : wp_X6_children x0 Q) : Met l yX6_children wsX6_children rm_X6_children (tm_Pr D cI cB [.int x0] []) (vp_Si Q) 0 0 (fun _ => False) := by
  refine Met.ofW (cc := cX6_children) (maxL := 1) (ret := (some .int)) (by decide) rfl ?_
  intro p e s m args below meth c s₁ B hml hv
  obtain ⟨rfl, hP, hK⟩ := hv
  have hl := lv_entry ([.int x0]) (n := 1) (Nat.le_of_ble_eq_true rfl)
  rw [lg_entry_eq]
  generalize (lg_sl ([.int x0]) ++ List.replicate (1 - (lg_sl ([.int x0])).length) Slot.unset).toArray = ls at hl ⊢
  have hl : lv_has ls 1 [(0, .int x0)] := hl
  exact bk_X6_children_in ⟨B.exec, B.bytes, B.returns, hml, findClass_of_methodNamed B.named, atoms_spec (ws := wsX6_children) B.pre, B.notSynchronized⟩ hK x0 h hP ls hl
/-! X6_at (IIII)I -/
abbrev rm_X6_at : Room := { frames := 1, cells := 0, slots := 0, locals := 22 }
def wp_X6_at_48 (Q : Int32 → Prop) (z0 : Int32) (x0 : Int32) (x1 : Int32) (x4 : Int32) : Prop :=
  wp_X6_within x4 0 3 (fun r9 => ((r9 = 0 → Q (-1)) ∧ (¬ (r9 = 0) → wp_X6_within z0 0 3 (fun r11 => ((r11 = 0 → Q (-1)) ∧ (¬ (r11 = 0) → Q (((((128 : Int32) * x0) + ((16 : Int32) * x1)) + ((4 : Int32) * x4)) + z0)))))))
set_option maxRecDepth 100000 in
set_option maxHeartbeats 4000000 in
theorem bk_X6_at_48 {p : Program} {l : Launch} {e : Env} {s : State} {m : MethodId} {args : Array Value} {below : List Frame} {meth : Method} {c : Code} {D : va_G} {cI cB : ClassId} {Q : Int32 → Prop} (C : tm_cx p s m args meth c cX6_at 6 (some .int) RX6 wsX6_at) (hK : tm_kx D cI cB s) (z0 : Int32) (x0 : Int32) (x1 : Int32) (x4 : Int32) (h : wp_X6_at_48 Q z0 x0 x1 x4) : va_P D vwCl [] s.heap → ∀ (ls : Array Slot), lv_has ls 6 [(0, .int x0), (1, .int x1), (4, .int x4)] → W p l e (headSpec wsX6_at rm_X6_at).room s m args below meth c s.heap [] 0 0 (MQ below (vp_Si Q) args s 0 0 (fun _ => False)) (F0 m 48 ls [.int z0]) := by
  obtain ⟨hx, hb, hr, hml, hown, hts, hlocks⟩ := id C
  intro hP ls hl
  unfold wp_X6_at_48 at h
  refine lv_istore (lv' := [(5, .int z0), (0, .int x0), (1, .int x1), (4, .int x4)]) hx hb dX6_at_48 hl (by decide) rfl (fun ls hl => ?_)
  refine lv_iload hx hb dX6_at_50 (lv_at hl 3 rfl) ?_
  refine lv_iconst (v := 0) hx hb dX6_at_52 (by decide) ?_
  refine lv_iconst (v := 3) hx hb dX6_at_53 (by decide) ?_
  refine tm_rS (As := [.int x4, .int 0, .int 3]) (rest := []) (wc := []) ⟨hx, hb, hml, hown, hts⟩ (cn_X6_within l D cI cB x4 0 3 _ h) (va_cwS 3 hts gX6_at_X6_within rfl rfl rfl (by decide +kernel) ⟨Nat.le_of_ble_eq_true rfl, Nat.le_of_ble_eq_true rfl⟩) hK (hP.sub [] rfl) rfl hl.1 rfl (Nat.le_of_ble_eq_true rfl) ⟨Nat.zero_le _, Nat.zero_le _⟩ dX6_at_54 (fun r9 h => ?_)
  obtain ⟨br9, h⟩ := h
  refine lv_if_eq (tgt := 91) hx hb dX6_at_57 (by decide) (fun c10 => ?_) (fun c10 => ?_)
  · have h := h.1 c10
    refine lv_iconst (v := (-1)) hx hb dX6_at_91 (by decide) ?_
    exact W.iret (v := (-1)) hx hb hr (fun t ht hW => ⟨(-1), rfl, h, ht⟩) (fun _ h => by cases h) dX6_at_92
  · have h := h.2 c10
    refine lv_iload hx hb dX6_at_60 (lv_at hl 0 rfl) ?_
    refine lv_iconst (v := 0) hx hb dX6_at_62 (by decide) ?_
    refine lv_iconst (v := 3) hx hb dX6_at_63 (by decide) ?_
    refine tm_rS (As := [.int z0, .int 0, .int 3]) (rest := []) (wc := []) ⟨hx, hb, hml, hown, hts⟩ (cn_X6_within l D cI cB z0 0 3 _ h) (va_cwS 3 hts gX6_at_X6_within rfl rfl rfl (by decide +kernel) ⟨Nat.le_of_ble_eq_true rfl, Nat.le_of_ble_eq_true rfl⟩) hK (hP.sub [] rfl) rfl hl.1 rfl (Nat.le_of_ble_eq_true rfl) ⟨Nat.zero_le _, Nat.zero_le _⟩ dX6_at_64 (fun r11 h => ?_)
    obtain ⟨br11, h⟩ := h
    refine lv_if_eq (tgt := 91) hx hb dX6_at_67 (by decide) (fun c12 => ?_) (fun c12 => ?_)
    · have h := h.1 c12
      refine lv_iconst (v := (-1)) hx hb dX6_at_91 (by decide) ?_
      exact W.iret (v := (-1)) hx hb hr (fun t ht hW => ⟨(-1), rfl, h, ht⟩) (fun _ h => by cases h) dX6_at_92
    · have h := h.2 c12
      refine lv_sipush (v := 128) hx hb dX6_at_70 (by decide) ?_
      refine lv_iload_n hx hb dX6_at_73 rfl (lv_at hl 1 rfl) ?_
      refine lv_imul (x := 128) (y := x0) hx hb dX6_at_74 ?_
      refine lv_bipush (v := 16) hx hb dX6_at_75 (by decide) ?_
      refine lv_iload_n hx hb dX6_at_77 rfl (lv_at hl 2 rfl) ?_
      refine lv_imul (x := 16) (y := x1) hx hb dX6_at_78 ?_
      refine lv_iadd hx hb dX6_at_79 ?_
      refine lv_iconst (v := 4) hx hb dX6_at_80 (by decide) ?_
      refine lv_iload hx hb dX6_at_81 (lv_at hl 3 rfl) ?_
      refine lv_imul (x := 4) (y := x4) hx hb dX6_at_83 ?_
      refine lv_iadd hx hb dX6_at_84 ?_
      refine lv_iload hx hb dX6_at_85 (lv_at hl 0 rfl) ?_
      refine lv_iadd hx hb dX6_at_87 ?_
      refine lv_goto (tgt := 92) hx hb dX6_at_88 (by decide) ?_
      exact W.iret (v := (((((128 : Int32) * x0) + ((16 : Int32) * x1)) + ((4 : Int32) * x4)) + z0)) hx hb hr (fun t ht hW => ⟨(((((128 : Int32) * x0) + ((16 : Int32) * x1)) + ((4 : Int32) * x4)) + z0), rfl, h, ht⟩) (fun _ h => by cases h) dX6_at_92
def wp_X6_at_33 (Q : Int32 → Prop) (z0 : Int32) (x0 : Int32) (x1 : Int32) (x3 : Int32) : Prop :=
  wp_X6_children x1 (fun r7 => ((r7 ≤ 1 → wp_X6_at_48 Q 0 x0 x1 z0) ∧ (¬ (r7 ≤ 1) → wp_X6_at_48 Q x3 x0 x1 z0)))
set_option maxRecDepth 100000 in
set_option maxHeartbeats 4000000 in
theorem bk_X6_at_33 {p : Program} {l : Launch} {e : Env} {s : State} {m : MethodId} {args : Array Value} {below : List Frame} {meth : Method} {c : Code} {D : va_G} {cI cB : ClassId} {Q : Int32 → Prop} (C : tm_cx p s m args meth c cX6_at 6 (some .int) RX6 wsX6_at) (hK : tm_kx D cI cB s) (z0 : Int32) (x0 : Int32) (x1 : Int32) (x3 : Int32) (h : wp_X6_at_33 Q z0 x0 x1 x3) : va_P D vwCl [] s.heap → ∀ (ls : Array Slot), lv_has ls 6 [(0, .int x0), (1, .int x1), (3, .int x3)] → W p l e (headSpec wsX6_at rm_X6_at).room s m args below meth c s.heap [] 0 0 (MQ below (vp_Si Q) args s 0 0 (fun _ => False)) (F0 m 33 ls [.int z0]) := by
  obtain ⟨hx, hb, hr, hml, hown, hts, hlocks⟩ := id C
  intro hP ls hl
  unfold wp_X6_at_33 at h
  refine lv_istore (lv' := [(4, .int z0), (0, .int x0), (1, .int x1), (3, .int x3)]) hx hb dX6_at_33 hl (by decide) rfl (fun ls hl => ?_)
  refine lv_iload_n hx hb dX6_at_35 rfl (lv_at hl 2 rfl) ?_
  refine tm_rS (As := [.int x1]) (rest := []) (wc := []) ⟨hx, hb, hml, hown, hts⟩ (cn_X6_children l D cI cB x1 _ h) (va_cwS 1 hts gX6_at_X6_children rfl rfl rfl (by decide +kernel) ⟨Nat.le_of_ble_eq_true rfl, Nat.le_of_ble_eq_true rfl⟩) hK (hP.sub [] rfl) rfl hl.1 rfl (Nat.le_of_ble_eq_true rfl) ⟨Nat.zero_le _, Nat.zero_le _⟩ dX6_at_36 (fun r7 h => ?_)
  refine lv_iconst (v := 1) hx hb dX6_at_39 (by decide) ?_
  refine lv_icmp_le (tgt := 47) hx hb dX6_at_40 (by decide) (fun c8 => ?_) (fun c8 => ?_)
  · have h := h.1 c8
    refine lv_iconst (v := 0) hx hb dX6_at_47 (by decide) ?_
    exact bk_X6_at_48 C hK 0 x0 x1 z0 h hP ls (lv_sub hl [1, 2, 0] rfl)
  · have h := h.2 c8
    refine lv_iload_n hx hb dX6_at_43 rfl (lv_at hl 3 rfl) ?_
    refine lv_goto (tgt := 48) hx hb dX6_at_44 (by decide) ?_
    exact bk_X6_at_48 C hK x3 x0 x1 z0 h hP ls (lv_sub hl [1, 2, 0] rfl)
def wp_X6_at_in (Q : Int32 → Prop) (x0 : Int32) (x1 : Int32) (x2 : Int32) (x3 : Int32) : Prop :=
  wp_X6_within x0 0 1 (fun r1 => ((r1 = 0 → Q (-1)) ∧ (¬ (r1 = 0) → wp_X6_within x1 0 7 (fun r3 => ((r3 = 0 → Q (-1)) ∧ (¬ (r3 = 0) → wp_X6_children x1 (fun r5 => ((r5 ≤ 0 → wp_X6_at_33 Q 0 x0 x1 x3) ∧ (¬ (r5 ≤ 0) → wp_X6_at_33 Q x2 x0 x1 x3)))))))))
set_option maxRecDepth 100000 in
set_option maxHeartbeats 4000000 in
theorem bk_X6_at_in {p : Program} {l : Launch} {e : Env} {s : State} {m : MethodId} {args : Array Value} {below : List Frame} {meth : Method} {c : Code} {D : va_G} {cI cB : ClassId} {Q : Int32 → Prop} (C : tm_cx p s m args meth c cX6_at 6 (some .int) RX6 wsX6_at) (hK : tm_kx D cI cB s) (x0 : Int32) (x1 : Int32) (x2 : Int32) (x3 : Int32) (h : wp_X6_at_in Q x0 x1 x2 x3) : va_P D vwCl [] s.heap → ∀ (ls : Array Slot), lv_has ls 6 [(0, .int x0), (1, .int x1), (2, .int x2), (3, .int x3)] → W p l e (headSpec wsX6_at rm_X6_at).room s m args below meth c s.heap [] 0 0 (MQ below (vp_Si Q) args s 0 0 (fun _ => False)) (F0 m 0 ls []) := by
  obtain ⟨hx, hb, hr, hml, hown, hts, hlocks⟩ := id C
  intro hP ls hl
  unfold wp_X6_at_in at h
  refine lv_iload_n hx hb dX6_at_0 rfl (lv_at hl 0 rfl) ?_
  refine lv_iconst (v := 0) hx hb dX6_at_1 (by decide) ?_
  refine lv_iconst (v := 1) hx hb dX6_at_2 (by decide) ?_
  refine tm_rS (As := [.int x0, .int 0, .int 1]) (rest := []) (wc := []) ⟨hx, hb, hml, hown, hts⟩ (cn_X6_within l D cI cB x0 0 1 _ h) (va_cwS 3 hts gX6_at_X6_within rfl rfl rfl (by decide +kernel) ⟨Nat.le_of_ble_eq_true rfl, Nat.le_of_ble_eq_true rfl⟩) hK (hP.sub [] rfl) rfl hl.1 rfl (Nat.le_of_ble_eq_true rfl) ⟨Nat.zero_le _, Nat.zero_le _⟩ dX6_at_3 (fun r1 h => ?_)
  obtain ⟨br1, h⟩ := h
  refine lv_if_eq (tgt := 19) hx hb dX6_at_6 (by decide) (fun c2 => ?_) (fun c2 => ?_)
  · have h := h.1 c2
    refine lv_iconst (v := (-1)) hx hb dX6_at_19 (by decide) ?_
    exact W.iret (v := (-1)) hx hb hr (fun t ht hW => ⟨(-1), rfl, h, ht⟩) (fun _ h => by cases h) dX6_at_20
  · have h := h.2 c2
    refine lv_iload_n hx hb dX6_at_9 rfl (lv_at hl 1 rfl) ?_
    refine lv_iconst (v := 0) hx hb dX6_at_10 (by decide) ?_
    refine lv_bipush (v := 7) hx hb dX6_at_11 (by decide) ?_
    refine tm_rS (As := [.int x1, .int 0, .int 7]) (rest := []) (wc := []) ⟨hx, hb, hml, hown, hts⟩ (cn_X6_within l D cI cB x1 0 7 _ h) (va_cwS 3 hts gX6_at_X6_within rfl rfl rfl (by decide +kernel) ⟨Nat.le_of_ble_eq_true rfl, Nat.le_of_ble_eq_true rfl⟩) hK (hP.sub [] rfl) rfl hl.1 rfl (Nat.le_of_ble_eq_true rfl) ⟨Nat.zero_le _, Nat.zero_le _⟩ dX6_at_13 (fun r3 h => ?_)
    obtain ⟨br3, h⟩ := h
    refine lv_if_ne (tgt := 21) hx hb dX6_at_16 (by decide) (fun c4 => ?_) (fun c4 => ?_)
    · have h := h.2 c4
      refine lv_iload_n hx hb dX6_at_21 rfl (lv_at hl 1 rfl) ?_
      refine tm_rS (As := [.int x1]) (rest := []) (wc := []) ⟨hx, hb, hml, hown, hts⟩ (cn_X6_children l D cI cB x1 _ h) (va_cwS 1 hts gX6_at_X6_children rfl rfl rfl (by decide +kernel) ⟨Nat.le_of_ble_eq_true rfl, Nat.le_of_ble_eq_true rfl⟩) hK (hP.sub [] rfl) rfl hl.1 rfl (Nat.le_of_ble_eq_true rfl) ⟨Nat.zero_le _, Nat.zero_le _⟩ dX6_at_22 (fun r5 h => ?_)
      refine lv_if_le (tgt := 32) hx hb dX6_at_25 (by decide) (fun c6 => ?_) (fun c6 => ?_)
      · have h := h.1 c6
        refine lv_iconst (v := 0) hx hb dX6_at_32 (by decide) ?_
        exact bk_X6_at_33 C hK 0 x0 x1 x3 h hP ls (lv_sub hl [0, 1, 3] rfl)
      · have h := h.2 c6
        refine lv_iload_n hx hb dX6_at_28 rfl (lv_at hl 2 rfl) ?_
        refine lv_goto (tgt := 33) hx hb dX6_at_29 (by decide) ?_
        exact bk_X6_at_33 C hK x2 x0 x1 x3 h hP ls (lv_sub hl [0, 1, 3] rfl)
    · have h := h.1 c4
      refine lv_iconst (v := (-1)) hx hb dX6_at_19 (by decide) ?_
      exact W.iret (v := (-1)) hx hb hr (fun t ht hW => ⟨(-1), rfl, h, ht⟩) (fun _ h => by cases h) dX6_at_20
abbrev wp_X6_at (x0 : Int32) (x1 : Int32) (x2 : Int32) (x3 : Int32) (Q : Int32 → Prop) : Prop := wp_X6_at_in Q x0 x1 x2 x3
set_option maxRecDepth 100000 in
set_option maxHeartbeats 4000000 in
theorem cn_X6_at (l : Launch) (D : va_G) (cI cB : ClassId) (x0 : Int32) (x1 : Int32) (x2 : Int32) (x3 : Int32) (Q : Int32 → Prop) (h : wp_X6_at x0 x1 x2 x3 Q) : Met l yX6_at wsX6_at rm_X6_at (tm_Pr D cI cB [.int x0, .int x1, .int x2, .int x3] []) (vp_Si Q) 0 0 (fun _ => False) := by
  refine Met.ofW (cc := cX6_at) (maxL := 6) (ret := (some .int)) (by decide) rfl ?_
  intro p e s m args below meth c s₁ B hml hv
  obtain ⟨rfl, hP, hK⟩ := hv
  have hl := lv_entry ([.int x0, .int x1, .int x2, .int x3]) (n := 6) (Nat.le_of_ble_eq_true rfl)
  rw [lg_entry_eq]
  generalize (lg_sl ([.int x0, .int x1, .int x2, .int x3]) ++ List.replicate (6 - (lg_sl ([.int x0, .int x1, .int x2, .int x3])).length) Slot.unset).toArray = ls at hl ⊢
  have hl : lv_has ls 6 [(0, .int x0), (1, .int x1), (2, .int x2), (3, .int x3)] := hl
  exact bk_X6_at_in ⟨B.exec, B.bytes, B.returns, hml, findClass_of_methodNamed B.named, atoms_spec (ws := wsX6_at) B.pre, B.notSynchronized⟩ hK x0 x1 x2 x3 h hP ls hl
/-! X6_rule (IIIII)Z -/
theorem in_X6_rule_X6 : ∀ w ∈ u_ws RX6 TX6 11, w ∈ wsX6_rule := by decide +kernel
abbrev rm_X6_rule : Room := { frames := 2, cells := 0, slots := 0, locals := 47 }
def wp_X6_rule_in (v_Co : Int32) (Q : Int32 → (Nat → Int32) → Prop) (v_To : Nat → Int32) (x1 : Int32) (x2 : Int32) (x3 : Int32) (x4 : Int32) (x5 : Int32) : Prop :=
  wp_X6_at x1 x2 x3 x4 (fun r1 => ((r1 < 0 → Q 0 v_To) ∧ (¬ (r1 < 0) → wp_X6_within x5 0 3 (fun r3 => ((r3 = 0 → Q 0 v_To) ∧ (¬ (r3 = 0) → vp_in r1 256 ∧ (((((v_To (r1).toNatClampNeg) >>> (x5 &&& 31)) &&& 1) = 1 → Q 0 v_To) ∧ (¬ ((((v_To (r1).toNatClampNeg) >>> (x5 &&& 31)) &&& 1) = 1) → vp_in r1 256 ∧ vp_in r1 256 ∧ ∀ f_9 : Nat → Int32, f_9 = upd v_To (r1).toNatClampNeg ((v_To (r1).toNatClampNeg) ||| ((1 : Int32) <<< (x5 &&& 31))) → Q 1 f_9))))))))
set_option maxRecDepth 100000 in
set_option maxHeartbeats 4000000 in
theorem bk_X6_rule_in {p : Program} {l : Launch} {e : Env} {s : State} {m : MethodId} {args : Array Value} {below : List Frame} {meth : Method} {c : Code} {D : va_G} {cI cB : ClassId} {a_o a_To a_Go a_Sy a_Le a_Ri a_Ln a_Wr a_Tr a_Mn a_Sk : Nat} {A : Nat → Prop} {v_Co : Int32} {Q : Int32 → (Nat → Int32) → Prop} (C : tm_cx p s m args meth c cX6_rule 7 (some .boolean) RX6 wsX6_rule) (hK : tm_kx D cI cB s) (hA : ∀ q : Nat, s.heap.size ≤ q → A q) (v_To : Nat → Int32) (x1 : Int32) (x2 : Int32) (x3 : Int32) (x4 : Int32) (x5 : Int32) (h : wp_X6_rule_in v_Co Q v_To x1 x2 x3 x4 x5) : ∀ (H : Heap) (locs : List Loc), va_P D vwCl [(a_o, .inr (6, [.ref a_To, .ref a_Go, .int v_Co, .ref a_Sy, .ref a_Le, .ref a_Ri, .ref a_Ln, .ref a_Wr, .ref a_Tr, .ref a_Mn, .ref a_Sk])), (a_To, .inl (cI, 256, .inl v_To))] H → va_D A [(a_o, .inr (6, [.ref a_To, .ref a_Go, .int v_Co, .ref a_Sy, .ref a_Le, .ref a_Ri, .ref a_Ln, .ref a_Wr, .ref a_Tr, .ref a_Mn, .ref a_Sk])), (a_To, .inl (cI, 256, .inl v_To))] → va_S A s.heap H locs → ∀ (ls : Array Slot), lv_has ls 7 [(0, .ref a_o), (1, .int x1), (2, .int x2), (3, .int x3), (4, .int x4), (5, .int x5)] → W p l e (headSpec wsX6_rule rm_X6_rule).room s m args below meth c H locs 0 0 (MQ below (va_Qi (fun (r : Int32) (u : (Nat → Int32)) => (r = 0 ∨ r = 1) ∧ Q r u) (tm_B D (fun (u : (Nat → Int32)) => [(a_o, .inr (6, [.ref a_To, .ref a_Go, .int v_Co, .ref a_Sy, .ref a_Le, .ref a_Ri, .ref a_Ln, .ref a_Wr, .ref a_Tr, .ref a_Mn, .ref a_Sk])), (a_To, .inl (cI, 256, .inl u))]) A) A) args s 0 0 A) (F0 m 0 ls []) := by
  obtain ⟨hx, hb, hr, hml, hown, hts, hlocks⟩ := id C
  intro H locs hP hD hS ls hl
  unfold wp_X6_rule_in at h
  refine lv_iload_n hx hb dX6_rule_0 rfl (lv_at hl 1 rfl) ?_
  refine lv_iload_n hx hb dX6_rule_1 rfl (lv_at hl 2 rfl) ?_
  refine lv_iload_n hx hb dX6_rule_2 rfl (lv_at hl 3 rfl) ?_
  refine lv_iload hx hb dX6_rule_3 (lv_at hl 4 rfl) ?_
  refine tm_rS (As := [.int x1, .int x2, .int x3, .int x4]) (rest := []) (wc := []) ⟨hx, hb, hml, hown, hts⟩ (cn_X6_at l D cI cB x1 x2 x3 x4 _ h) (va_cwS 4 hts gX6_rule_X6_at rfl rfl rfl (by decide +kernel) ⟨Nat.le_of_ble_eq_true rfl, Nat.le_of_ble_eq_true rfl⟩) hK (hP.sub [] rfl) rfl hl.1 rfl (Nat.le_of_ble_eq_true rfl) ⟨Nat.zero_le _, Nat.zero_le _⟩ dX6_rule_5 (fun r1 h => ?_)
  refine lv_istore (lv' := [(6, .int r1), (0, .ref a_o), (1, .int x1), (2, .int x2), (3, .int x3), (4, .int x4), (5, .int x5)]) hx hb dX6_rule_8 hl (by decide) rfl (fun ls hl => ?_)
  refine lv_iload hx hb dX6_rule_10 (lv_at hl 0 rfl) ?_
  refine lv_if_lt (tgt := 41) hx hb dX6_rule_12 (by decide) (fun c2 => ?_) (fun c2 => ?_)
  · have h := h.1 c2
    refine lv_iconst (v := 0) hx hb dX6_rule_41 (by decide) ?_
    exact W.zret (v := 0) (ty := .boolean) hx hb hr (tm_n01 (Or.inl rfl)) (fun t ht hW => ⟨⟨0, v_To, rfl, ⟨Or.inl rfl, h⟩, by rw [ht]; exact hP, hD⟩, hS.F ht⟩) hS.2.2 dX6_rule_42
  · have h := h.2 c2
    refine lv_iload hx hb dX6_rule_15 (lv_at hl 6 rfl) ?_
    refine lv_iconst (v := 0) hx hb dX6_rule_17 (by decide) ?_
    refine lv_iconst (v := 3) hx hb dX6_rule_18 (by decide) ?_
    refine tm_rS (As := [.int x5, .int 0, .int 3]) (rest := []) (wc := []) ⟨hx, hb, hml, hown, hts⟩ (cn_X6_within l D cI cB x5 0 3 _ h) (va_cwS 3 hts gX6_rule_X6_within rfl rfl rfl (by decide +kernel) ⟨Nat.le_of_ble_eq_true rfl, Nat.le_of_ble_eq_true rfl⟩) hK (hP.sub [] rfl) rfl hl.1 rfl (Nat.le_of_ble_eq_true rfl) ⟨Nat.zero_le _, Nat.zero_le _⟩ dX6_rule_19 (fun r3 h => ?_)
    obtain ⟨br3, h⟩ := h
    refine lv_if_eq (tgt := 41) hx hb dX6_rule_22 (by decide) (fun c4 => ?_) (fun c4 => ?_)
    · have h := h.1 c4
      refine lv_iconst (v := 0) hx hb dX6_rule_41 (by decide) ?_
      exact W.zret (v := 0) (ty := .boolean) hx hb hr (tm_n01 (Or.inl rfl)) (fun t ht hW => ⟨⟨0, v_To, rfl, ⟨Or.inl rfl, h⟩, by rw [ht]; exact hP, hD⟩, hS.F ht⟩) hS.2.2 dX6_rule_42
    · have h := h.2 c4
      refine lv_aload_n hx hb dX6_rule_25 rfl (lv_at hl 1 rfl) ?_
      refine va_get (D := D) (ci := 6) (v := .ref a_To) (C := RX6) (T := TX6) (N := 11) hx hb hts in_X6_rule_X6 hown hK.1 hP 0 rfl rfl 0 (by decide) (hts (.fieldLink RX6 7 "TreeMachinesModel" "to" "[I") (by decide +kernel)) (fun _ h9 => h9) rfl dX6_rule_26 ?_
      refine lv_iload hx hb dX6_rule_29 (lv_at hl 0 rfl) ?_
      obtain ⟨b5, h⟩ := h
      refine va_iald hx hb hK.1 hP 1 0 rfl rfl b5 dX6_rule_31 ?_
      refine lv_iload hx hb dX6_rule_32 (lv_at hl 6 rfl) ?_
      refine lv_ishr hx hb dX6_rule_34 ?_
      refine lv_iconst (v := 1) hx hb dX6_rule_35 (by decide) ?_
      refine lv_iand (x := ((v_To (r1).toNatClampNeg) >>> (x5 &&& 31))) (y := 1) hx hb dX6_rule_36 ?_
      refine lv_iconst (v := 1) hx hb dX6_rule_37 (by decide) ?_
      refine lv_icmp_ne (tgt := 43) hx hb dX6_rule_38 (by decide) (fun c6 => ?_) (fun c6 => ?_)
      · have h := h.2 c6
        refine lv_aload_n hx hb dX6_rule_43 rfl (lv_at hl 1 rfl) ?_
        refine va_get (D := D) (ci := 6) (v := .ref a_To) (C := RX6) (T := TX6) (N := 11) hx hb hts in_X6_rule_X6 hown hK.1 hP 0 rfl rfl 0 (by decide) (hts (.fieldLink RX6 7 "TreeMachinesModel" "to" "[I") (by decide +kernel)) (fun _ h9 => h9) rfl dX6_rule_44 ?_
        refine lv_iload hx hb dX6_rule_47 (lv_at hl 0 rfl) ?_
        refine lv_aload_n hx hb dX6_rule_49 rfl (lv_at hl 1 rfl) ?_
        refine va_get (D := D) (ci := 6) (v := .ref a_To) (C := RX6) (T := TX6) (N := 11) hx hb hts in_X6_rule_X6 hown hK.1 hP 0 rfl rfl 0 (by decide) (hts (.fieldLink RX6 7 "TreeMachinesModel" "to" "[I") (by decide +kernel)) (fun _ h9 => h9) rfl dX6_rule_50 ?_
        refine lv_iload hx hb dX6_rule_53 (lv_at hl 0 rfl) ?_
        obtain ⟨b7, h⟩ := h
        refine va_iald hx hb hK.1 hP 1 0 rfl rfl b7 dX6_rule_55 ?_
        refine lv_iconst (v := 1) hx hb dX6_rule_56 (by decide) ?_
        refine lv_iload hx hb dX6_rule_57 (lv_at hl 6 rfl) ?_
        refine lv_ishl (x := 1) (y := x5) hx hb dX6_rule_59 ?_
        refine lv_ior hx hb dX6_rule_60 ?_
        obtain ⟨b8, h⟩ := h
        refine va_iast hx hb hK.1 hP hD hS 1 0 rfl rfl b8 dX6_rule_61 (fun H locs hP hD hS => ?_)
        obtain ⟨f_9, ef_9⟩ : ∃ y : Nat → Int32, y = upd v_To (r1).toNatClampNeg ((v_To (r1).toNatClampNeg) ||| ((1 : Int32) <<< (x5 &&& 31))) := ⟨_, rfl⟩
        have h := h f_9 ef_9
        have hP : va_P D vwCl [(a_o, .inr (6, [.ref a_To, .ref a_Go, .int v_Co, .ref a_Sy, .ref a_Le, .ref a_Ri, .ref a_Ln, .ref a_Wr, .ref a_Tr, .ref a_Mn, .ref a_Sk])), (a_To, .inl (cI, 256, .inl f_9))] H := by rw [ef_9]; exact hP
        have hD : va_D A [(a_o, .inr (6, [.ref a_To, .ref a_Go, .int v_Co, .ref a_Sy, .ref a_Le, .ref a_Ri, .ref a_Ln, .ref a_Wr, .ref a_Tr, .ref a_Mn, .ref a_Sk])), (a_To, .inl (cI, 256, .inl f_9))] := by rw [ef_9]; exact hD
        refine lv_iconst (v := 1) hx hb dX6_rule_62 (by decide) ?_
        exact W.zret (v := 1) (ty := .boolean) hx hb hr (tm_n01 (Or.inr rfl)) (fun t ht hW => ⟨⟨1, f_9, rfl, ⟨Or.inr rfl, h⟩, by rw [ht]; exact hP, hD⟩, hS.F ht⟩) hS.2.2 dX6_rule_63
      · have h := h.1 c6
        refine lv_iconst (v := 0) hx hb dX6_rule_41 (by decide) ?_
        exact W.zret (v := 0) (ty := .boolean) hx hb hr (tm_n01 (Or.inl rfl)) (fun t ht hW => ⟨⟨0, v_To, rfl, ⟨Or.inl rfl, h⟩, by rw [ht]; exact hP, hD⟩, hS.F ht⟩) hS.2.2 dX6_rule_42
abbrev wp_X6_rule (v_Co : Int32) (v_To : Nat → Int32) (x1 : Int32) (x2 : Int32) (x3 : Int32) (x4 : Int32) (x5 : Int32) (Q : Int32 → (Nat → Int32) → Prop) : Prop := wp_X6_rule_in v_Co Q v_To x1 x2 x3 x4 x5
set_option maxRecDepth 100000 in
set_option maxHeartbeats 4000000 in
theorem cn_X6_rule (l : Launch) (D : va_G) (cI cB : ClassId) (a_o a_To a_Go a_Sy a_Le a_Ri a_Ln a_Wr a_Tr a_Mn a_Sk : Nat) (v_Co : Int32) (v_To : Nat → Int32) (x1 : Int32) (x2 : Int32) (x3 : Int32) (x4 : Int32) (x5 : Int32) (sz : Nat) (Q : Int32 → (Nat → Int32) → Prop) (h : wp_X6_rule v_Co v_To x1 x2 x3 x4 x5 Q) : Met l yX6_rule wsX6_rule rm_X6_rule (tm_Pw D cI cB [.ref a_o, .int x1, .int x2, .int x3, .int x4, .int x5] [(a_o, .inr (6, [.ref a_To, .ref a_Go, .int v_Co, .ref a_Sy, .ref a_Le, .ref a_Ri, .ref a_Ln, .ref a_Wr, .ref a_Tr, .ref a_Mn, .ref a_Sk])), (a_To, .inl (cI, 256, .inl v_To))] sz) (va_Qi (fun (r : Int32) (u : (Nat → Int32)) => (r = 0 ∨ r = 1) ∧ Q r u) (tm_B D (fun (u : (Nat → Int32)) => [(a_o, .inr (6, [.ref a_To, .ref a_Go, .int v_Co, .ref a_Sy, .ref a_Le, .ref a_Ri, .ref a_Ln, .ref a_Wr, .ref a_Tr, .ref a_Mn, .ref a_Sk])), (a_To, .inl (cI, 256, .inl u))]) (va_A [(a_o, .inr (6, [.ref a_To, .ref a_Go, .int v_Co, .ref a_Sy, .ref a_Le, .ref a_Ri, .ref a_Ln, .ref a_Wr, .ref a_Tr, .ref a_Mn, .ref a_Sk])), (a_To, .inl (cI, 256, .inl v_To))] sz)) (va_A [(a_o, .inr (6, [.ref a_To, .ref a_Go, .int v_Co, .ref a_Sy, .ref a_Le, .ref a_Ri, .ref a_Ln, .ref a_Wr, .ref a_Tr, .ref a_Mn, .ref a_Sk])), (a_To, .inl (cI, 256, .inl v_To))] sz)) 0 0 (va_A [(a_o, .inr (6, [.ref a_To, .ref a_Go, .int v_Co, .ref a_Sy, .ref a_Le, .ref a_Ri, .ref a_Ln, .ref a_Wr, .ref a_Tr, .ref a_Mn, .ref a_Sk])), (a_To, .inl (cI, 256, .inl v_To))] sz) := by
  refine Met.ofW (cc := cX6_rule) (maxL := 7) (ret := (some .boolean)) (by decide) rfl ?_
  intro p e s m args below meth c s₁ B hml hv
  obtain ⟨rfl, hsz, hP, hK, hD0⟩ := hv
  subst hsz
  have hD := hD0.self (sz := s.heap.size)
  generalize hAe : va_A [(a_o, .inr (6, [.ref a_To, .ref a_Go, .int v_Co, .ref a_Sy, .ref a_Le, .ref a_Ri, .ref a_Ln, .ref a_Wr, .ref a_Tr, .ref a_Mn, .ref a_Sk])), (a_To, .inl (cI, 256, .inl v_To))] s.heap.size = A at hD ⊢
  have hA : ∀ q : Nat, s.heap.size ≤ q → A q := fun q h => by rw [← hAe]; exact Or.inr h
  have hl := lv_entry ([.ref a_o, .int x1, .int x2, .int x3, .int x4, .int x5]) (n := 7) (Nat.le_of_ble_eq_true rfl)
  rw [lg_entry_eq]
  generalize (lg_sl ([.ref a_o, .int x1, .int x2, .int x3, .int x4, .int x5]) ++ List.replicate (7 - (lg_sl ([.ref a_o, .int x1, .int x2, .int x3, .int x4, .int x5])).length) Slot.unset).toArray = ls at hl ⊢
  have hl : lv_has ls 7 [(0, .ref a_o), (1, .int x1), (2, .int x2), (3, .int x3), (4, .int x4), (5, .int x5)] := hl
  exact bk_X6_rule_in ⟨B.exec, B.bytes, B.returns, hml, findClass_of_methodNamed B.named, atoms_spec (ws := wsX6_rule) B.pre, B.notSynchronized⟩ hK hA v_To x1 x2 x3 x4 x5 h s.heap [] hP hD va_S.rf ls hl
/-! X6_drop (IIIII)Z -/
theorem in_X6_drop_X6 : ∀ w ∈ u_ws RX6 TX6 11, w ∈ wsX6_drop := by decide +kernel
abbrev rm_X6_drop : Room := { frames := 2, cells := 0, slots := 0, locals := 47 }
def wp_X6_drop_in (v_Co : Int32) (Q : Int32 → (Nat → Int32) → Prop) (v_To : Nat → Int32) (x1 : Int32) (x2 : Int32) (x3 : Int32) (x4 : Int32) (x5 : Int32) : Prop :=
  wp_X6_at x1 x2 x3 x4 (fun r1 => ((r1 < 0 → Q 0 v_To) ∧ (¬ (r1 < 0) → wp_X6_within x5 0 3 (fun r3 => ((r3 = 0 → Q 0 v_To) ∧ (¬ (r3 = 0) → vp_in r1 256 ∧ (((((v_To (r1).toNatClampNeg) >>> (x5 &&& 31)) &&& 1) = 0 → Q 0 v_To) ∧ (¬ ((((v_To (r1).toNatClampNeg) >>> (x5 &&& 31)) &&& 1) = 0) → vp_in r1 256 ∧ vp_in r1 256 ∧ ∀ f_9 : Nat → Int32, f_9 = upd v_To (r1).toNatClampNeg ((v_To (r1).toNatClampNeg) ^^^ ((1 : Int32) <<< (x5 &&& 31))) → Q 1 f_9))))))))
set_option maxRecDepth 100000 in
set_option maxHeartbeats 4000000 in
theorem bk_X6_drop_in {p : Program} {l : Launch} {e : Env} {s : State} {m : MethodId} {args : Array Value} {below : List Frame} {meth : Method} {c : Code} {D : va_G} {cI cB : ClassId} {a_o a_To a_Go a_Sy a_Le a_Ri a_Ln a_Wr a_Tr a_Mn a_Sk : Nat} {A : Nat → Prop} {v_Co : Int32} {Q : Int32 → (Nat → Int32) → Prop} (C : tm_cx p s m args meth c cX6_drop 7 (some .boolean) RX6 wsX6_drop) (hK : tm_kx D cI cB s) (hA : ∀ q : Nat, s.heap.size ≤ q → A q) (v_To : Nat → Int32) (x1 : Int32) (x2 : Int32) (x3 : Int32) (x4 : Int32) (x5 : Int32) (h : wp_X6_drop_in v_Co Q v_To x1 x2 x3 x4 x5) : ∀ (H : Heap) (locs : List Loc), va_P D vwCl [(a_o, .inr (6, [.ref a_To, .ref a_Go, .int v_Co, .ref a_Sy, .ref a_Le, .ref a_Ri, .ref a_Ln, .ref a_Wr, .ref a_Tr, .ref a_Mn, .ref a_Sk])), (a_To, .inl (cI, 256, .inl v_To))] H → va_D A [(a_o, .inr (6, [.ref a_To, .ref a_Go, .int v_Co, .ref a_Sy, .ref a_Le, .ref a_Ri, .ref a_Ln, .ref a_Wr, .ref a_Tr, .ref a_Mn, .ref a_Sk])), (a_To, .inl (cI, 256, .inl v_To))] → va_S A s.heap H locs → ∀ (ls : Array Slot), lv_has ls 7 [(0, .ref a_o), (1, .int x1), (2, .int x2), (3, .int x3), (4, .int x4), (5, .int x5)] → W p l e (headSpec wsX6_drop rm_X6_drop).room s m args below meth c H locs 0 0 (MQ below (va_Qi (fun (r : Int32) (u : (Nat → Int32)) => (r = 0 ∨ r = 1) ∧ Q r u) (tm_B D (fun (u : (Nat → Int32)) => [(a_o, .inr (6, [.ref a_To, .ref a_Go, .int v_Co, .ref a_Sy, .ref a_Le, .ref a_Ri, .ref a_Ln, .ref a_Wr, .ref a_Tr, .ref a_Mn, .ref a_Sk])), (a_To, .inl (cI, 256, .inl u))]) A) A) args s 0 0 A) (F0 m 0 ls []) := by
  obtain ⟨hx, hb, hr, hml, hown, hts, hlocks⟩ := id C
  intro H locs hP hD hS ls hl
  unfold wp_X6_drop_in at h
  refine lv_iload_n hx hb dX6_drop_0 rfl (lv_at hl 1 rfl) ?_
  refine lv_iload_n hx hb dX6_drop_1 rfl (lv_at hl 2 rfl) ?_
  refine lv_iload_n hx hb dX6_drop_2 rfl (lv_at hl 3 rfl) ?_
  refine lv_iload hx hb dX6_drop_3 (lv_at hl 4 rfl) ?_
  refine tm_rS (As := [.int x1, .int x2, .int x3, .int x4]) (rest := []) (wc := []) ⟨hx, hb, hml, hown, hts⟩ (cn_X6_at l D cI cB x1 x2 x3 x4 _ h) (va_cwS 4 hts gX6_drop_X6_at rfl rfl rfl (by decide +kernel) ⟨Nat.le_of_ble_eq_true rfl, Nat.le_of_ble_eq_true rfl⟩) hK (hP.sub [] rfl) rfl hl.1 rfl (Nat.le_of_ble_eq_true rfl) ⟨Nat.zero_le _, Nat.zero_le _⟩ dX6_drop_5 (fun r1 h => ?_)
  refine lv_istore (lv' := [(6, .int r1), (0, .ref a_o), (1, .int x1), (2, .int x2), (3, .int x3), (4, .int x4), (5, .int x5)]) hx hb dX6_drop_8 hl (by decide) rfl (fun ls hl => ?_)
  refine lv_iload hx hb dX6_drop_10 (lv_at hl 0 rfl) ?_
  refine lv_if_lt (tgt := 40) hx hb dX6_drop_12 (by decide) (fun c2 => ?_) (fun c2 => ?_)
  · have h := h.1 c2
    refine lv_iconst (v := 0) hx hb dX6_drop_40 (by decide) ?_
    exact W.zret (v := 0) (ty := .boolean) hx hb hr (tm_n01 (Or.inl rfl)) (fun t ht hW => ⟨⟨0, v_To, rfl, ⟨Or.inl rfl, h⟩, by rw [ht]; exact hP, hD⟩, hS.F ht⟩) hS.2.2 dX6_drop_41
  · have h := h.2 c2
    refine lv_iload hx hb dX6_drop_15 (lv_at hl 6 rfl) ?_
    refine lv_iconst (v := 0) hx hb dX6_drop_17 (by decide) ?_
    refine lv_iconst (v := 3) hx hb dX6_drop_18 (by decide) ?_
    refine tm_rS (As := [.int x5, .int 0, .int 3]) (rest := []) (wc := []) ⟨hx, hb, hml, hown, hts⟩ (cn_X6_within l D cI cB x5 0 3 _ h) (va_cwS 3 hts gX6_drop_X6_within rfl rfl rfl (by decide +kernel) ⟨Nat.le_of_ble_eq_true rfl, Nat.le_of_ble_eq_true rfl⟩) hK (hP.sub [] rfl) rfl hl.1 rfl (Nat.le_of_ble_eq_true rfl) ⟨Nat.zero_le _, Nat.zero_le _⟩ dX6_drop_19 (fun r3 h => ?_)
    obtain ⟨br3, h⟩ := h
    refine lv_if_eq (tgt := 40) hx hb dX6_drop_22 (by decide) (fun c4 => ?_) (fun c4 => ?_)
    · have h := h.1 c4
      refine lv_iconst (v := 0) hx hb dX6_drop_40 (by decide) ?_
      exact W.zret (v := 0) (ty := .boolean) hx hb hr (tm_n01 (Or.inl rfl)) (fun t ht hW => ⟨⟨0, v_To, rfl, ⟨Or.inl rfl, h⟩, by rw [ht]; exact hP, hD⟩, hS.F ht⟩) hS.2.2 dX6_drop_41
    · have h := h.2 c4
      refine lv_aload_n hx hb dX6_drop_25 rfl (lv_at hl 1 rfl) ?_
      refine va_get (D := D) (ci := 6) (v := .ref a_To) (C := RX6) (T := TX6) (N := 11) hx hb hts in_X6_drop_X6 hown hK.1 hP 0 rfl rfl 0 (by decide) (hts (.fieldLink RX6 7 "TreeMachinesModel" "to" "[I") (by decide +kernel)) (fun _ h9 => h9) rfl dX6_drop_26 ?_
      refine lv_iload hx hb dX6_drop_29 (lv_at hl 0 rfl) ?_
      obtain ⟨b5, h⟩ := h
      refine va_iald hx hb hK.1 hP 1 0 rfl rfl b5 dX6_drop_31 ?_
      refine lv_iload hx hb dX6_drop_32 (lv_at hl 6 rfl) ?_
      refine lv_ishr hx hb dX6_drop_34 ?_
      refine lv_iconst (v := 1) hx hb dX6_drop_35 (by decide) ?_
      refine lv_iand (x := ((v_To (r1).toNatClampNeg) >>> (x5 &&& 31))) (y := 1) hx hb dX6_drop_36 ?_
      refine lv_if_ne (tgt := 42) hx hb dX6_drop_37 (by decide) (fun c6 => ?_) (fun c6 => ?_)
      · have h := h.2 c6
        refine lv_aload_n hx hb dX6_drop_42 rfl (lv_at hl 1 rfl) ?_
        refine va_get (D := D) (ci := 6) (v := .ref a_To) (C := RX6) (T := TX6) (N := 11) hx hb hts in_X6_drop_X6 hown hK.1 hP 0 rfl rfl 0 (by decide) (hts (.fieldLink RX6 7 "TreeMachinesModel" "to" "[I") (by decide +kernel)) (fun _ h9 => h9) rfl dX6_drop_43 ?_
        refine lv_iload hx hb dX6_drop_46 (lv_at hl 0 rfl) ?_
        refine lv_aload_n hx hb dX6_drop_48 rfl (lv_at hl 1 rfl) ?_
        refine va_get (D := D) (ci := 6) (v := .ref a_To) (C := RX6) (T := TX6) (N := 11) hx hb hts in_X6_drop_X6 hown hK.1 hP 0 rfl rfl 0 (by decide) (hts (.fieldLink RX6 7 "TreeMachinesModel" "to" "[I") (by decide +kernel)) (fun _ h9 => h9) rfl dX6_drop_49 ?_
        refine lv_iload hx hb dX6_drop_52 (lv_at hl 0 rfl) ?_
        obtain ⟨b7, h⟩ := h
        refine va_iald hx hb hK.1 hP 1 0 rfl rfl b7 dX6_drop_54 ?_
        refine lv_iconst (v := 1) hx hb dX6_drop_55 (by decide) ?_
        refine lv_iload hx hb dX6_drop_56 (lv_at hl 6 rfl) ?_
        refine lv_ishl (x := 1) (y := x5) hx hb dX6_drop_58 ?_
        refine lv_ixor hx hb dX6_drop_59 ?_
        obtain ⟨b8, h⟩ := h
        refine va_iast hx hb hK.1 hP hD hS 1 0 rfl rfl b8 dX6_drop_60 (fun H locs hP hD hS => ?_)
        obtain ⟨f_9, ef_9⟩ : ∃ y : Nat → Int32, y = upd v_To (r1).toNatClampNeg ((v_To (r1).toNatClampNeg) ^^^ ((1 : Int32) <<< (x5 &&& 31))) := ⟨_, rfl⟩
        have h := h f_9 ef_9
        have hP : va_P D vwCl [(a_o, .inr (6, [.ref a_To, .ref a_Go, .int v_Co, .ref a_Sy, .ref a_Le, .ref a_Ri, .ref a_Ln, .ref a_Wr, .ref a_Tr, .ref a_Mn, .ref a_Sk])), (a_To, .inl (cI, 256, .inl f_9))] H := by rw [ef_9]; exact hP
        have hD : va_D A [(a_o, .inr (6, [.ref a_To, .ref a_Go, .int v_Co, .ref a_Sy, .ref a_Le, .ref a_Ri, .ref a_Ln, .ref a_Wr, .ref a_Tr, .ref a_Mn, .ref a_Sk])), (a_To, .inl (cI, 256, .inl f_9))] := by rw [ef_9]; exact hD
        refine lv_iconst (v := 1) hx hb dX6_drop_61 (by decide) ?_
        exact W.zret (v := 1) (ty := .boolean) hx hb hr (tm_n01 (Or.inr rfl)) (fun t ht hW => ⟨⟨1, f_9, rfl, ⟨Or.inr rfl, h⟩, by rw [ht]; exact hP, hD⟩, hS.F ht⟩) hS.2.2 dX6_drop_62
      · have h := h.1 c6
        refine lv_iconst (v := 0) hx hb dX6_drop_40 (by decide) ?_
        exact W.zret (v := 0) (ty := .boolean) hx hb hr (tm_n01 (Or.inl rfl)) (fun t ht hW => ⟨⟨0, v_To, rfl, ⟨Or.inl rfl, h⟩, by rw [ht]; exact hP, hD⟩, hS.F ht⟩) hS.2.2 dX6_drop_41
abbrev wp_X6_drop (v_Co : Int32) (v_To : Nat → Int32) (x1 : Int32) (x2 : Int32) (x3 : Int32) (x4 : Int32) (x5 : Int32) (Q : Int32 → (Nat → Int32) → Prop) : Prop := wp_X6_drop_in v_Co Q v_To x1 x2 x3 x4 x5
set_option maxRecDepth 100000 in
set_option maxHeartbeats 4000000 in
theorem cn_X6_drop (l : Launch) (D : va_G) (cI cB : ClassId) (a_o a_To a_Go a_Sy a_Le a_Ri a_Ln a_Wr a_Tr a_Mn a_Sk : Nat) (v_Co : Int32) (v_To : Nat → Int32) (x1 : Int32) (x2 : Int32) (x3 : Int32) (x4 : Int32) (x5 : Int32) (sz : Nat) (Q : Int32 → (Nat → Int32) → Prop) (h : wp_X6_drop v_Co v_To x1 x2 x3 x4 x5 Q) : Met l yX6_drop wsX6_drop rm_X6_drop (tm_Pw D cI cB [.ref a_o, .int x1, .int x2, .int x3, .int x4, .int x5] [(a_o, .inr (6, [.ref a_To, .ref a_Go, .int v_Co, .ref a_Sy, .ref a_Le, .ref a_Ri, .ref a_Ln, .ref a_Wr, .ref a_Tr, .ref a_Mn, .ref a_Sk])), (a_To, .inl (cI, 256, .inl v_To))] sz) (va_Qi (fun (r : Int32) (u : (Nat → Int32)) => (r = 0 ∨ r = 1) ∧ Q r u) (tm_B D (fun (u : (Nat → Int32)) => [(a_o, .inr (6, [.ref a_To, .ref a_Go, .int v_Co, .ref a_Sy, .ref a_Le, .ref a_Ri, .ref a_Ln, .ref a_Wr, .ref a_Tr, .ref a_Mn, .ref a_Sk])), (a_To, .inl (cI, 256, .inl u))]) (va_A [(a_o, .inr (6, [.ref a_To, .ref a_Go, .int v_Co, .ref a_Sy, .ref a_Le, .ref a_Ri, .ref a_Ln, .ref a_Wr, .ref a_Tr, .ref a_Mn, .ref a_Sk])), (a_To, .inl (cI, 256, .inl v_To))] sz)) (va_A [(a_o, .inr (6, [.ref a_To, .ref a_Go, .int v_Co, .ref a_Sy, .ref a_Le, .ref a_Ri, .ref a_Ln, .ref a_Wr, .ref a_Tr, .ref a_Mn, .ref a_Sk])), (a_To, .inl (cI, 256, .inl v_To))] sz)) 0 0 (va_A [(a_o, .inr (6, [.ref a_To, .ref a_Go, .int v_Co, .ref a_Sy, .ref a_Le, .ref a_Ri, .ref a_Ln, .ref a_Wr, .ref a_Tr, .ref a_Mn, .ref a_Sk])), (a_To, .inl (cI, 256, .inl v_To))] sz) := by
  refine Met.ofW (cc := cX6_drop) (maxL := 7) (ret := (some .boolean)) (by decide) rfl ?_
  intro p e s m args below meth c s₁ B hml hv
  obtain ⟨rfl, hsz, hP, hK, hD0⟩ := hv
  subst hsz
  have hD := hD0.self (sz := s.heap.size)
  generalize hAe : va_A [(a_o, .inr (6, [.ref a_To, .ref a_Go, .int v_Co, .ref a_Sy, .ref a_Le, .ref a_Ri, .ref a_Ln, .ref a_Wr, .ref a_Tr, .ref a_Mn, .ref a_Sk])), (a_To, .inl (cI, 256, .inl v_To))] s.heap.size = A at hD ⊢
  have hA : ∀ q : Nat, s.heap.size ≤ q → A q := fun q h => by rw [← hAe]; exact Or.inr h
  have hl := lv_entry ([.ref a_o, .int x1, .int x2, .int x3, .int x4, .int x5]) (n := 7) (Nat.le_of_ble_eq_true rfl)
  rw [lg_entry_eq]
  generalize (lg_sl ([.ref a_o, .int x1, .int x2, .int x3, .int x4, .int x5]) ++ List.replicate (7 - (lg_sl ([.ref a_o, .int x1, .int x2, .int x3, .int x4, .int x5])).length) Slot.unset).toArray = ls at hl ⊢
  have hl : lv_has ls 7 [(0, .ref a_o), (1, .int x1), (2, .int x2), (3, .int x3), (4, .int x4), (5, .int x5)] := hl
  exact bk_X6_drop_in ⟨B.exec, B.bytes, B.returns, hml, findClass_of_methodNamed B.named, atoms_spec (ws := wsX6_drop) B.pre, B.notSynchronized⟩ hK hA v_To x1 x2 x3 x4 x5 h s.heap [] hP hD va_S.rf ls hl
/-! X6_isRule (IIIII)Z -/
theorem in_X6_isRule_X6 : ∀ w ∈ u_ws RX6 TX6 11, w ∈ wsX6_isRule := by decide +kernel
abbrev rm_X6_isRule : Room := { frames := 2, cells := 0, slots := 0, locals := 47 }
def wp_X6_isRule_in (v_Co : Int32) (v_To : Nat → Int32) (Q : Int32 → Prop) (x1 : Int32) (x2 : Int32) (x3 : Int32) (x4 : Int32) (x5 : Int32) : Prop :=
  wp_X6_at x1 x2 x3 x4 (fun r1 => ((r1 < 0 → Q 0) ∧ (¬ (r1 < 0) → wp_X6_within x5 0 3 (fun r3 => ((r3 = 0 → Q 0) ∧ (¬ (r3 = 0) → vp_in r1 256 ∧ (((((v_To (r1).toNatClampNeg) >>> (x5 &&& 31)) &&& 1) = 1 → Q 1) ∧ (¬ ((((v_To (r1).toNatClampNeg) >>> (x5 &&& 31)) &&& 1) = 1) → Q 0))))))))
set_option maxRecDepth 100000 in
set_option maxHeartbeats 4000000 in
theorem bk_X6_isRule_in {p : Program} {l : Launch} {e : Env} {s : State} {m : MethodId} {args : Array Value} {below : List Frame} {meth : Method} {c : Code} {D : va_G} {cI cB : ClassId} {a_o a_To a_Go a_Sy a_Le a_Ri a_Ln a_Wr a_Tr a_Mn a_Sk : Nat} {v_Co : Int32} {v_To : Nat → Int32} {Q : Int32 → Prop} (C : tm_cx p s m args meth c cX6_isRule 7 (some .boolean) RX6 wsX6_isRule) (hK : tm_kx D cI cB s) (x1 : Int32) (x2 : Int32) (x3 : Int32) (x4 : Int32) (x5 : Int32) (h : wp_X6_isRule_in v_Co v_To Q x1 x2 x3 x4 x5) : va_P D vwCl [(a_o, .inr (6, [.ref a_To, .ref a_Go, .int v_Co, .ref a_Sy, .ref a_Le, .ref a_Ri, .ref a_Ln, .ref a_Wr, .ref a_Tr, .ref a_Mn, .ref a_Sk])), (a_To, .inl (cI, 256, .inl v_To))] s.heap → ∀ (ls : Array Slot), lv_has ls 7 [(0, .ref a_o), (1, .int x1), (2, .int x2), (3, .int x3), (4, .int x4), (5, .int x5)] → W p l e (headSpec wsX6_isRule rm_X6_isRule).room s m args below meth c s.heap [] 0 0 (MQ below (vp_Si (fun r => (r = 0 ∨ r = 1) ∧ Q r)) args s 0 0 (fun _ => False)) (F0 m 0 ls []) := by
  obtain ⟨hx, hb, hr, hml, hown, hts, hlocks⟩ := id C
  intro hP ls hl
  unfold wp_X6_isRule_in at h
  refine lv_iload_n hx hb dX6_isRule_0 rfl (lv_at hl 1 rfl) ?_
  refine lv_iload_n hx hb dX6_isRule_1 rfl (lv_at hl 2 rfl) ?_
  refine lv_iload_n hx hb dX6_isRule_2 rfl (lv_at hl 3 rfl) ?_
  refine lv_iload hx hb dX6_isRule_3 (lv_at hl 4 rfl) ?_
  refine tm_rS (As := [.int x1, .int x2, .int x3, .int x4]) (rest := []) (wc := []) ⟨hx, hb, hml, hown, hts⟩ (cn_X6_at l D cI cB x1 x2 x3 x4 _ h) (va_cwS 4 hts gX6_isRule_X6_at rfl rfl rfl (by decide +kernel) ⟨Nat.le_of_ble_eq_true rfl, Nat.le_of_ble_eq_true rfl⟩) hK (hP.sub [] rfl) rfl hl.1 rfl (Nat.le_of_ble_eq_true rfl) ⟨Nat.zero_le _, Nat.zero_le _⟩ dX6_isRule_5 (fun r1 h => ?_)
  refine lv_istore (lv' := [(6, .int r1), (0, .ref a_o), (1, .int x1), (2, .int x2), (3, .int x3), (4, .int x4), (5, .int x5)]) hx hb dX6_isRule_8 hl (by decide) rfl (fun ls hl => ?_)
  refine lv_iload hx hb dX6_isRule_10 (lv_at hl 0 rfl) ?_
  refine lv_if_lt (tgt := 45) hx hb dX6_isRule_12 (by decide) (fun c2 => ?_) (fun c2 => ?_)
  · have h := h.1 c2
    refine lv_iconst (v := 0) hx hb dX6_isRule_45 (by decide) ?_
    exact W.zret (v := 0) (ty := .boolean) hx hb hr (tm_n01 (Or.inl rfl)) (fun t ht hW => ⟨0, rfl, ⟨Or.inl rfl, h⟩, ht⟩) (fun _ h => by cases h) dX6_isRule_46
  · have h := h.2 c2
    refine lv_iload hx hb dX6_isRule_15 (lv_at hl 6 rfl) ?_
    refine lv_iconst (v := 0) hx hb dX6_isRule_17 (by decide) ?_
    refine lv_iconst (v := 3) hx hb dX6_isRule_18 (by decide) ?_
    refine tm_rS (As := [.int x5, .int 0, .int 3]) (rest := []) (wc := []) ⟨hx, hb, hml, hown, hts⟩ (cn_X6_within l D cI cB x5 0 3 _ h) (va_cwS 3 hts gX6_isRule_X6_within rfl rfl rfl (by decide +kernel) ⟨Nat.le_of_ble_eq_true rfl, Nat.le_of_ble_eq_true rfl⟩) hK (hP.sub [] rfl) rfl hl.1 rfl (Nat.le_of_ble_eq_true rfl) ⟨Nat.zero_le _, Nat.zero_le _⟩ dX6_isRule_19 (fun r3 h => ?_)
    obtain ⟨br3, h⟩ := h
    refine lv_if_eq (tgt := 45) hx hb dX6_isRule_22 (by decide) (fun c4 => ?_) (fun c4 => ?_)
    · have h := h.1 c4
      refine lv_iconst (v := 0) hx hb dX6_isRule_45 (by decide) ?_
      exact W.zret (v := 0) (ty := .boolean) hx hb hr (tm_n01 (Or.inl rfl)) (fun t ht hW => ⟨0, rfl, ⟨Or.inl rfl, h⟩, ht⟩) (fun _ h => by cases h) dX6_isRule_46
    · have h := h.2 c4
      refine lv_aload_n hx hb dX6_isRule_25 rfl (lv_at hl 1 rfl) ?_
      refine va_get (D := D) (ci := 6) (v := .ref a_To) (C := RX6) (T := TX6) (N := 11) hx hb hts in_X6_isRule_X6 hown hK.1 hP 0 rfl rfl 0 (by decide) (hts (.fieldLink RX6 7 "TreeMachinesModel" "to" "[I") (by decide +kernel)) (fun _ h9 => h9) rfl dX6_isRule_26 ?_
      refine lv_iload hx hb dX6_isRule_29 (lv_at hl 0 rfl) ?_
      obtain ⟨b5, h⟩ := h
      refine va_iald hx hb hK.1 hP 1 0 rfl rfl b5 dX6_isRule_31 ?_
      refine lv_iload hx hb dX6_isRule_32 (lv_at hl 6 rfl) ?_
      refine lv_ishr hx hb dX6_isRule_34 ?_
      refine lv_iconst (v := 1) hx hb dX6_isRule_35 (by decide) ?_
      refine lv_iand (x := ((v_To (r1).toNatClampNeg) >>> (x5 &&& 31))) (y := 1) hx hb dX6_isRule_36 ?_
      refine lv_iconst (v := 1) hx hb dX6_isRule_37 (by decide) ?_
      refine lv_icmp_ne (tgt := 45) hx hb dX6_isRule_38 (by decide) (fun c6 => ?_) (fun c6 => ?_)
      · have h := h.2 c6
        refine lv_iconst (v := 0) hx hb dX6_isRule_45 (by decide) ?_
        exact W.zret (v := 0) (ty := .boolean) hx hb hr (tm_n01 (Or.inl rfl)) (fun t ht hW => ⟨0, rfl, ⟨Or.inl rfl, h⟩, ht⟩) (fun _ h => by cases h) dX6_isRule_46
      · have h := h.1 c6
        refine lv_iconst (v := 1) hx hb dX6_isRule_41 (by decide) ?_
        refine lv_goto (tgt := 46) hx hb dX6_isRule_42 (by decide) ?_
        exact W.zret (v := 1) (ty := .boolean) hx hb hr (tm_n01 (Or.inr rfl)) (fun t ht hW => ⟨1, rfl, ⟨Or.inr rfl, h⟩, ht⟩) (fun _ h => by cases h) dX6_isRule_46
abbrev wp_X6_isRule (v_Co : Int32) (v_To : Nat → Int32) (x1 : Int32) (x2 : Int32) (x3 : Int32) (x4 : Int32) (x5 : Int32) (Q : Int32 → Prop) : Prop := wp_X6_isRule_in v_Co v_To Q x1 x2 x3 x4 x5
set_option maxRecDepth 100000 in
set_option maxHeartbeats 4000000 in
theorem cn_X6_isRule (l : Launch) (D : va_G) (cI cB : ClassId) (a_o a_To a_Go a_Sy a_Le a_Ri a_Ln a_Wr a_Tr a_Mn a_Sk : Nat) (v_Co : Int32) (v_To : Nat → Int32) (x1 : Int32) (x2 : Int32) (x3 : Int32) (x4 : Int32) (x5 : Int32) (Q : Int32 → Prop) (h : wp_X6_isRule v_Co v_To x1 x2 x3 x4 x5 Q) : Met l yX6_isRule wsX6_isRule rm_X6_isRule (tm_Pr D cI cB [.ref a_o, .int x1, .int x2, .int x3, .int x4, .int x5] [(a_o, .inr (6, [.ref a_To, .ref a_Go, .int v_Co, .ref a_Sy, .ref a_Le, .ref a_Ri, .ref a_Ln, .ref a_Wr, .ref a_Tr, .ref a_Mn, .ref a_Sk])), (a_To, .inl (cI, 256, .inl v_To))]) (vp_Si (fun r => (r = 0 ∨ r = 1) ∧ Q r)) 0 0 (fun _ => False) := by
  refine Met.ofW (cc := cX6_isRule) (maxL := 7) (ret := (some .boolean)) (by decide) rfl ?_
  intro p e s m args below meth c s₁ B hml hv
  obtain ⟨rfl, hP, hK⟩ := hv
  have hl := lv_entry ([.ref a_o, .int x1, .int x2, .int x3, .int x4, .int x5]) (n := 7) (Nat.le_of_ble_eq_true rfl)
  rw [lg_entry_eq]
  generalize (lg_sl ([.ref a_o, .int x1, .int x2, .int x3, .int x4, .int x5]) ++ List.replicate (7 - (lg_sl ([.ref a_o, .int x1, .int x2, .int x3, .int x4, .int x5])).length) Slot.unset).toArray = ls at hl ⊢
  have hl : lv_has ls 7 [(0, .ref a_o), (1, .int x1), (2, .int x2), (3, .int x3), (4, .int x4), (5, .int x5)] := hl
  exact bk_X6_isRule_in ⟨B.exec, B.bytes, B.returns, hml, findClass_of_methodNamed B.named, atoms_spec (ws := wsX6_isRule) B.pre, B.notSynchronized⟩ hK x1 x2 x3 x4 x5 h hP ls hl
/-! X6_goal (IIZ)Z -/
theorem in_X6_goal_X6 : ∀ w ∈ u_ws RX6 TX6 11, w ∈ wsX6_goal := by decide +kernel
abbrev rm_X6_goal : Room := { frames := 1, cells := 0, slots := 0, locals := 22 }
def wp_X6_goal_37 (v_Co : Int32) (Q : Int32 → (Nat → Int32) → Prop) (v_Go : Nat → Int32) (z0 : Int32) (x1 : Int32) (x2 : Int32) (x3 : Int32) : Prop :=
  ((z0 = x3 → Q 0 v_Go) ∧ (¬ (z0 = x3) → vp_in x1 2 ∧ vp_in x1 2 ∧ ∀ f_10 : Nat → Int32, f_10 = upd v_Go (x1).toNatClampNeg ((v_Go (x1).toNatClampNeg) ^^^ ((1 : Int32) <<< (x2 &&& 31))) → Q 1 f_10))
set_option maxRecDepth 100000 in
set_option maxHeartbeats 4000000 in
theorem bk_X6_goal_37 {p : Program} {l : Launch} {e : Env} {s : State} {m : MethodId} {args : Array Value} {below : List Frame} {meth : Method} {c : Code} {D : va_G} {cI cB : ClassId} {a_o a_To a_Go a_Sy a_Le a_Ri a_Ln a_Wr a_Tr a_Mn a_Sk : Nat} {A : Nat → Prop} {v_Co : Int32} {Q : Int32 → (Nat → Int32) → Prop} (C : tm_cx p s m args meth c cX6_goal 4 (some .boolean) RX6 wsX6_goal) (hK : tm_kx D cI cB s) (hA : ∀ q : Nat, s.heap.size ≤ q → A q) (v_Go : Nat → Int32) (z0 : Int32) (x1 : Int32) (x2 : Int32) (x3 : Int32) (h : wp_X6_goal_37 v_Co Q v_Go z0 x1 x2 x3) : ∀ (H : Heap) (locs : List Loc), va_P D vwCl [(a_o, .inr (6, [.ref a_To, .ref a_Go, .int v_Co, .ref a_Sy, .ref a_Le, .ref a_Ri, .ref a_Ln, .ref a_Wr, .ref a_Tr, .ref a_Mn, .ref a_Sk])), (a_Go, .inl (cI, 2, .inl v_Go))] H → va_D A [(a_o, .inr (6, [.ref a_To, .ref a_Go, .int v_Co, .ref a_Sy, .ref a_Le, .ref a_Ri, .ref a_Ln, .ref a_Wr, .ref a_Tr, .ref a_Mn, .ref a_Sk])), (a_Go, .inl (cI, 2, .inl v_Go))] → va_S A s.heap H locs → ∀ (ls : Array Slot), lv_has ls 4 [(0, .ref a_o), (1, .int x1), (2, .int x2), (3, .int x3)] → W p l e (headSpec wsX6_goal rm_X6_goal).room s m args below meth c H locs 0 0 (MQ below (va_Qi (fun (r : Int32) (u : (Nat → Int32)) => (r = 0 ∨ r = 1) ∧ Q r u) (tm_B D (fun (u : (Nat → Int32)) => [(a_o, .inr (6, [.ref a_To, .ref a_Go, .int v_Co, .ref a_Sy, .ref a_Le, .ref a_Ri, .ref a_Ln, .ref a_Wr, .ref a_Tr, .ref a_Mn, .ref a_Sk])), (a_Go, .inl (cI, 2, .inl u))]) A) A) args s 0 0 A) (F0 m 37 ls [.int z0]) := by
  obtain ⟨hx, hb, hr, hml, hown, hts, hlocks⟩ := id C
  intro H locs hP hD hS ls hl
  unfold wp_X6_goal_37 at h
  refine lv_iload_n hx hb dX6_goal_37 rfl (lv_at hl 3 rfl) ?_
  refine lv_icmp_ne (tgt := 43) hx hb dX6_goal_38 (by decide) (fun c7 => ?_) (fun c7 => ?_)
  · have h := h.2 c7
    refine lv_aload_n hx hb dX6_goal_43 rfl (lv_at hl 0 rfl) ?_
    refine va_get (D := D) (ci := 6) (v := .ref a_Go) (C := RX6) (T := TX6) (N := 11) hx hb hts in_X6_goal_X6 hown hK.1 hP 0 rfl rfl 1 (by decide) (hts (.fieldLink RX6 13 "TreeMachinesModel" "goals" "[I") (by decide +kernel)) (fun _ h9 => h9) rfl dX6_goal_44 ?_
    refine lv_iload_n hx hb dX6_goal_47 rfl (lv_at hl 1 rfl) ?_
    refine lv_aload_n hx hb dX6_goal_48 rfl (lv_at hl 0 rfl) ?_
    refine va_get (D := D) (ci := 6) (v := .ref a_Go) (C := RX6) (T := TX6) (N := 11) hx hb hts in_X6_goal_X6 hown hK.1 hP 0 rfl rfl 1 (by decide) (hts (.fieldLink RX6 13 "TreeMachinesModel" "goals" "[I") (by decide +kernel)) (fun _ h9 => h9) rfl dX6_goal_49 ?_
    refine lv_iload_n hx hb dX6_goal_52 rfl (lv_at hl 1 rfl) ?_
    obtain ⟨b8, h⟩ := h
    refine va_iald hx hb hK.1 hP 1 0 rfl rfl b8 dX6_goal_53 ?_
    refine lv_iconst (v := 1) hx hb dX6_goal_54 (by decide) ?_
    refine lv_iload_n hx hb dX6_goal_55 rfl (lv_at hl 2 rfl) ?_
    refine lv_ishl (x := 1) (y := x2) hx hb dX6_goal_56 ?_
    refine lv_ixor hx hb dX6_goal_57 ?_
    obtain ⟨b9, h⟩ := h
    refine va_iast hx hb hK.1 hP hD hS 1 0 rfl rfl b9 dX6_goal_58 (fun H locs hP hD hS => ?_)
    obtain ⟨f_10, ef_10⟩ : ∃ y : Nat → Int32, y = upd v_Go (x1).toNatClampNeg ((v_Go (x1).toNatClampNeg) ^^^ ((1 : Int32) <<< (x2 &&& 31))) := ⟨_, rfl⟩
    have h := h f_10 ef_10
    have hP : va_P D vwCl [(a_o, .inr (6, [.ref a_To, .ref a_Go, .int v_Co, .ref a_Sy, .ref a_Le, .ref a_Ri, .ref a_Ln, .ref a_Wr, .ref a_Tr, .ref a_Mn, .ref a_Sk])), (a_Go, .inl (cI, 2, .inl f_10))] H := by rw [ef_10]; exact hP
    have hD : va_D A [(a_o, .inr (6, [.ref a_To, .ref a_Go, .int v_Co, .ref a_Sy, .ref a_Le, .ref a_Ri, .ref a_Ln, .ref a_Wr, .ref a_Tr, .ref a_Mn, .ref a_Sk])), (a_Go, .inl (cI, 2, .inl f_10))] := by rw [ef_10]; exact hD
    refine lv_iconst (v := 1) hx hb dX6_goal_59 (by decide) ?_
    exact W.zret (v := 1) (ty := .boolean) hx hb hr (tm_n01 (Or.inr rfl)) (fun t ht hW => ⟨⟨1, f_10, rfl, ⟨Or.inr rfl, h⟩, by rw [ht]; exact hP, hD⟩, hS.F ht⟩) hS.2.2 dX6_goal_60
  · have h := h.1 c7
    refine lv_iconst (v := 0) hx hb dX6_goal_41 (by decide) ?_
    exact W.zret (v := 0) (ty := .boolean) hx hb hr (tm_n01 (Or.inl rfl)) (fun t ht hW => ⟨⟨0, v_Go, rfl, ⟨Or.inl rfl, h⟩, by rw [ht]; exact hP, hD⟩, hS.F ht⟩) hS.2.2 dX6_goal_42
def wp_X6_goal_in (v_Co : Int32) (Q : Int32 → (Nat → Int32) → Prop) (v_Go : Nat → Int32) (x1 : Int32) (x2 : Int32) (x3 : Int32) : Prop :=
  wp_X6_within x1 0 1 (fun r1 => ((r1 = 0 → Q 0 v_Go) ∧ (¬ (r1 = 0) → wp_X6_within x2 0 3 (fun r3 => ((r3 = 0 → Q 0 v_Go) ∧ (¬ (r3 = 0) → vp_in x1 2 ∧ (((((v_Go (x1).toNatClampNeg) >>> (x2 &&& 31)) &&& 1) = 1 → wp_X6_goal_37 v_Co Q v_Go 1 x1 x2 x3) ∧ (¬ ((((v_Go (x1).toNatClampNeg) >>> (x2 &&& 31)) &&& 1) = 1) → wp_X6_goal_37 v_Co Q v_Go 0 x1 x2 x3))))))))
set_option maxRecDepth 100000 in
set_option maxHeartbeats 4000000 in
theorem bk_X6_goal_in {p : Program} {l : Launch} {e : Env} {s : State} {m : MethodId} {args : Array Value} {below : List Frame} {meth : Method} {c : Code} {D : va_G} {cI cB : ClassId} {a_o a_To a_Go a_Sy a_Le a_Ri a_Ln a_Wr a_Tr a_Mn a_Sk : Nat} {A : Nat → Prop} {v_Co : Int32} {Q : Int32 → (Nat → Int32) → Prop} (C : tm_cx p s m args meth c cX6_goal 4 (some .boolean) RX6 wsX6_goal) (hK : tm_kx D cI cB s) (hA : ∀ q : Nat, s.heap.size ≤ q → A q) (v_Go : Nat → Int32) (x1 : Int32) (x2 : Int32) (x3 : Int32) (h : wp_X6_goal_in v_Co Q v_Go x1 x2 x3) : ∀ (H : Heap) (locs : List Loc), va_P D vwCl [(a_o, .inr (6, [.ref a_To, .ref a_Go, .int v_Co, .ref a_Sy, .ref a_Le, .ref a_Ri, .ref a_Ln, .ref a_Wr, .ref a_Tr, .ref a_Mn, .ref a_Sk])), (a_Go, .inl (cI, 2, .inl v_Go))] H → va_D A [(a_o, .inr (6, [.ref a_To, .ref a_Go, .int v_Co, .ref a_Sy, .ref a_Le, .ref a_Ri, .ref a_Ln, .ref a_Wr, .ref a_Tr, .ref a_Mn, .ref a_Sk])), (a_Go, .inl (cI, 2, .inl v_Go))] → va_S A s.heap H locs → ∀ (ls : Array Slot), lv_has ls 4 [(0, .ref a_o), (1, .int x1), (2, .int x2), (3, .int x3)] → W p l e (headSpec wsX6_goal rm_X6_goal).room s m args below meth c H locs 0 0 (MQ below (va_Qi (fun (r : Int32) (u : (Nat → Int32)) => (r = 0 ∨ r = 1) ∧ Q r u) (tm_B D (fun (u : (Nat → Int32)) => [(a_o, .inr (6, [.ref a_To, .ref a_Go, .int v_Co, .ref a_Sy, .ref a_Le, .ref a_Ri, .ref a_Ln, .ref a_Wr, .ref a_Tr, .ref a_Mn, .ref a_Sk])), (a_Go, .inl (cI, 2, .inl u))]) A) A) args s 0 0 A) (F0 m 0 ls []) := by
  obtain ⟨hx, hb, hr, hml, hown, hts, hlocks⟩ := id C
  intro H locs hP hD hS ls hl
  unfold wp_X6_goal_in at h
  refine lv_iload_n hx hb dX6_goal_0 rfl (lv_at hl 1 rfl) ?_
  refine lv_iconst (v := 0) hx hb dX6_goal_1 (by decide) ?_
  refine lv_iconst (v := 1) hx hb dX6_goal_2 (by decide) ?_
  refine tm_rS (As := [.int x1, .int 0, .int 1]) (rest := []) (wc := []) ⟨hx, hb, hml, hown, hts⟩ (cn_X6_within l D cI cB x1 0 1 _ h) (va_cwS 3 hts gX6_goal_X6_within rfl rfl rfl (by decide +kernel) ⟨Nat.le_of_ble_eq_true rfl, Nat.le_of_ble_eq_true rfl⟩) hK (hP.sub [] rfl) rfl hl.1 rfl (Nat.le_of_ble_eq_true rfl) ⟨Nat.zero_le _, Nat.zero_le _⟩ dX6_goal_3 (fun r1 h => ?_)
  obtain ⟨br1, h⟩ := h
  refine lv_if_eq (tgt := 41) hx hb dX6_goal_6 (by decide) (fun c2 => ?_) (fun c2 => ?_)
  · have h := h.1 c2
    refine lv_iconst (v := 0) hx hb dX6_goal_41 (by decide) ?_
    exact W.zret (v := 0) (ty := .boolean) hx hb hr (tm_n01 (Or.inl rfl)) (fun t ht hW => ⟨⟨0, v_Go, rfl, ⟨Or.inl rfl, h⟩, by rw [ht]; exact hP, hD⟩, hS.F ht⟩) hS.2.2 dX6_goal_42
  · have h := h.2 c2
    refine lv_iload_n hx hb dX6_goal_9 rfl (lv_at hl 2 rfl) ?_
    refine lv_iconst (v := 0) hx hb dX6_goal_10 (by decide) ?_
    refine lv_iconst (v := 3) hx hb dX6_goal_11 (by decide) ?_
    refine tm_rS (As := [.int x2, .int 0, .int 3]) (rest := []) (wc := []) ⟨hx, hb, hml, hown, hts⟩ (cn_X6_within l D cI cB x2 0 3 _ h) (va_cwS 3 hts gX6_goal_X6_within rfl rfl rfl (by decide +kernel) ⟨Nat.le_of_ble_eq_true rfl, Nat.le_of_ble_eq_true rfl⟩) hK (hP.sub [] rfl) rfl hl.1 rfl (Nat.le_of_ble_eq_true rfl) ⟨Nat.zero_le _, Nat.zero_le _⟩ dX6_goal_12 (fun r3 h => ?_)
    obtain ⟨br3, h⟩ := h
    refine lv_if_eq (tgt := 41) hx hb dX6_goal_15 (by decide) (fun c4 => ?_) (fun c4 => ?_)
    · have h := h.1 c4
      refine lv_iconst (v := 0) hx hb dX6_goal_41 (by decide) ?_
      exact W.zret (v := 0) (ty := .boolean) hx hb hr (tm_n01 (Or.inl rfl)) (fun t ht hW => ⟨⟨0, v_Go, rfl, ⟨Or.inl rfl, h⟩, by rw [ht]; exact hP, hD⟩, hS.F ht⟩) hS.2.2 dX6_goal_42
    · have h := h.2 c4
      refine lv_aload_n hx hb dX6_goal_18 rfl (lv_at hl 0 rfl) ?_
      refine va_get (D := D) (ci := 6) (v := .ref a_Go) (C := RX6) (T := TX6) (N := 11) hx hb hts in_X6_goal_X6 hown hK.1 hP 0 rfl rfl 1 (by decide) (hts (.fieldLink RX6 13 "TreeMachinesModel" "goals" "[I") (by decide +kernel)) (fun _ h9 => h9) rfl dX6_goal_19 ?_
      refine lv_iload_n hx hb dX6_goal_22 rfl (lv_at hl 1 rfl) ?_
      obtain ⟨b5, h⟩ := h
      refine va_iald hx hb hK.1 hP 1 0 rfl rfl b5 dX6_goal_23 ?_
      refine lv_iload_n hx hb dX6_goal_24 rfl (lv_at hl 2 rfl) ?_
      refine lv_ishr hx hb dX6_goal_25 ?_
      refine lv_iconst (v := 1) hx hb dX6_goal_26 (by decide) ?_
      refine lv_iand (x := ((v_Go (x1).toNatClampNeg) >>> (x2 &&& 31))) (y := 1) hx hb dX6_goal_27 ?_
      refine lv_iconst (v := 1) hx hb dX6_goal_28 (by decide) ?_
      refine lv_icmp_ne (tgt := 36) hx hb dX6_goal_29 (by decide) (fun c6 => ?_) (fun c6 => ?_)
      · have h := h.2 c6
        refine lv_iconst (v := 0) hx hb dX6_goal_36 (by decide) ?_
        exact bk_X6_goal_37 C hK hA v_Go 0 x1 x2 x3 h H locs hP hD hS ls (lv_sub hl [0, 1, 2, 3] rfl)
      · have h := h.1 c6
        refine lv_iconst (v := 1) hx hb dX6_goal_32 (by decide) ?_
        refine lv_goto (tgt := 37) hx hb dX6_goal_33 (by decide) ?_
        exact bk_X6_goal_37 C hK hA v_Go 1 x1 x2 x3 h H locs hP hD hS ls (lv_sub hl [0, 1, 2, 3] rfl)
abbrev wp_X6_goal (v_Co : Int32) (v_Go : Nat → Int32) (x1 : Int32) (x2 : Int32) (x3 : Int32) (Q : Int32 → (Nat → Int32) → Prop) : Prop := wp_X6_goal_in v_Co Q v_Go x1 x2 x3
set_option maxRecDepth 100000 in
set_option maxHeartbeats 4000000 in
theorem cn_X6_goal (l : Launch) (D : va_G) (cI cB : ClassId) (a_o a_To a_Go a_Sy a_Le a_Ri a_Ln a_Wr a_Tr a_Mn a_Sk : Nat) (v_Co : Int32) (v_Go : Nat → Int32) (x1 : Int32) (x2 : Int32) (x3 : Int32) (sz : Nat) (Q : Int32 → (Nat → Int32) → Prop) (h : wp_X6_goal v_Co v_Go x1 x2 x3 Q) : Met l yX6_goal wsX6_goal rm_X6_goal (tm_Pw D cI cB [.ref a_o, .int x1, .int x2, .int x3] [(a_o, .inr (6, [.ref a_To, .ref a_Go, .int v_Co, .ref a_Sy, .ref a_Le, .ref a_Ri, .ref a_Ln, .ref a_Wr, .ref a_Tr, .ref a_Mn, .ref a_Sk])), (a_Go, .inl (cI, 2, .inl v_Go))] sz) (va_Qi (fun (r : Int32) (u : (Nat → Int32)) => (r = 0 ∨ r = 1) ∧ Q r u) (tm_B D (fun (u : (Nat → Int32)) => [(a_o, .inr (6, [.ref a_To, .ref a_Go, .int v_Co, .ref a_Sy, .ref a_Le, .ref a_Ri, .ref a_Ln, .ref a_Wr, .ref a_Tr, .ref a_Mn, .ref a_Sk])), (a_Go, .inl (cI, 2, .inl u))]) (va_A [(a_o, .inr (6, [.ref a_To, .ref a_Go, .int v_Co, .ref a_Sy, .ref a_Le, .ref a_Ri, .ref a_Ln, .ref a_Wr, .ref a_Tr, .ref a_Mn, .ref a_Sk])), (a_Go, .inl (cI, 2, .inl v_Go))] sz)) (va_A [(a_o, .inr (6, [.ref a_To, .ref a_Go, .int v_Co, .ref a_Sy, .ref a_Le, .ref a_Ri, .ref a_Ln, .ref a_Wr, .ref a_Tr, .ref a_Mn, .ref a_Sk])), (a_Go, .inl (cI, 2, .inl v_Go))] sz)) 0 0 (va_A [(a_o, .inr (6, [.ref a_To, .ref a_Go, .int v_Co, .ref a_Sy, .ref a_Le, .ref a_Ri, .ref a_Ln, .ref a_Wr, .ref a_Tr, .ref a_Mn, .ref a_Sk])), (a_Go, .inl (cI, 2, .inl v_Go))] sz) := by
  refine Met.ofW (cc := cX6_goal) (maxL := 4) (ret := (some .boolean)) (by decide) rfl ?_
  intro p e s m args below meth c s₁ B hml hv
  obtain ⟨rfl, hsz, hP, hK, hD0⟩ := hv
  subst hsz
  have hD := hD0.self (sz := s.heap.size)
  generalize hAe : va_A [(a_o, .inr (6, [.ref a_To, .ref a_Go, .int v_Co, .ref a_Sy, .ref a_Le, .ref a_Ri, .ref a_Ln, .ref a_Wr, .ref a_Tr, .ref a_Mn, .ref a_Sk])), (a_Go, .inl (cI, 2, .inl v_Go))] s.heap.size = A at hD ⊢
  have hA : ∀ q : Nat, s.heap.size ≤ q → A q := fun q h => by rw [← hAe]; exact Or.inr h
  have hl := lv_entry ([.ref a_o, .int x1, .int x2, .int x3]) (n := 4) (Nat.le_of_ble_eq_true rfl)
  rw [lg_entry_eq]
  generalize (lg_sl ([.ref a_o, .int x1, .int x2, .int x3]) ++ List.replicate (4 - (lg_sl ([.ref a_o, .int x1, .int x2, .int x3])).length) Slot.unset).toArray = ls at hl ⊢
  have hl : lv_has ls 4 [(0, .ref a_o), (1, .int x1), (2, .int x2), (3, .int x3)] := hl
  exact bk_X6_goal_in ⟨B.exec, B.bytes, B.returns, hml, findClass_of_methodNamed B.named, atoms_spec (ws := wsX6_goal) B.pre, B.notSynchronized⟩ hK hA v_Go x1 x2 x3 h s.heap [] hP hD va_S.rf ls hl
/-! X6_clear (I)Z -/
theorem in_X6_clear_X6 : ∀ w ∈ u_ws RX6 TX6 11, w ∈ wsX6_clear := by decide +kernel
abbrev rm_X6_clear : Room := { frames := 1, cells := 0, slots := 0, locals := 22 }
def wp_X6_clear_13 (v_Co : Int32) (K13 : (Nat → Int32) → (Nat → Int32) → Int32 → Int32 → Prop) (Q : Int32 → (Nat → Int32) → (Nat → Int32) → Prop) (v_Go : Nat → Int32) (v_To : Nat → Int32) (x1 : Int32) (x2 : Int32) : Prop :=
  ((128 ≤ x2 → vp_in x1 2 ∧ ∀ f_5 : Nat → Int32, f_5 = upd v_Go (x1).toNatClampNeg 0 → Q 1 f_5 v_To) ∧ (¬ (128 ≤ x2) → vp_in (((128 : Int32) * x1) + x2) 256 ∧ ∀ f_7 : Nat → Int32, f_7 = upd v_To ((((128 : Int32) * x1) + x2)).toNatClampNeg 0 → ∀ x2_8 : Int32, x2_8 = x2 + 1 → K13 v_Go f_7 x1 x2_8))
set_option maxRecDepth 100000 in
set_option maxHeartbeats 4000000 in
theorem bk_X6_clear_13 {p : Program} {l : Launch} {e : Env} {s : State} {m : MethodId} {args : Array Value} {below : List Frame} {meth : Method} {c : Code} {D : va_G} {cI cB : ClassId} {a_o a_To a_Go a_Sy a_Le a_Ri a_Ln a_Wr a_Tr a_Mn a_Sk : Nat} {A : Nat → Prop} {v_Co : Int32} {Q : Int32 → (Nat → Int32) → (Nat → Int32) → Prop} (C : tm_cx p s m args meth c cX6_clear 3 (some .boolean) RX6 wsX6_clear) (hK : tm_kx D cI cB s) (hA : ∀ q : Nat, s.heap.size ≤ q → A q) {K13 : (Nat → Int32) → (Nat → Int32) → Int32 → Int32 → Prop} (k13 : ∀ (v_Go : Nat → Int32) (v_To : Nat → Int32) (x1 : Int32) (x2 : Int32), K13 v_Go v_To x1 x2 → ∀ (H : Heap) (locs : List Loc), va_P D vwCl [(a_o, .inr (6, [.ref a_To, .ref a_Go, .int v_Co, .ref a_Sy, .ref a_Le, .ref a_Ri, .ref a_Ln, .ref a_Wr, .ref a_Tr, .ref a_Mn, .ref a_Sk])), (a_Go, .inl (cI, 2, .inl v_Go)), (a_To, .inl (cI, 256, .inl v_To))] H → va_D A [(a_o, .inr (6, [.ref a_To, .ref a_Go, .int v_Co, .ref a_Sy, .ref a_Le, .ref a_Ri, .ref a_Ln, .ref a_Wr, .ref a_Tr, .ref a_Mn, .ref a_Sk])), (a_Go, .inl (cI, 2, .inl v_Go)), (a_To, .inl (cI, 256, .inl v_To))] → va_S A s.heap H locs → ∀ (ls : Array Slot), lv_has ls 3 [(0, .ref a_o), (1, .int x1), (2, .int x2)] → W p l e (headSpec wsX6_clear rm_X6_clear).room s m args below meth c H locs 0 0 (MQ below (va_Qi (fun (r : Int32) (u : (Nat → Int32) × (Nat → Int32)) => (r = 0 ∨ r = 1) ∧ Q r u.1 u.2) (tm_B D (fun (u : (Nat → Int32) × (Nat → Int32)) => [(a_o, .inr (6, [.ref a_To, .ref a_Go, .int v_Co, .ref a_Sy, .ref a_Le, .ref a_Ri, .ref a_Ln, .ref a_Wr, .ref a_Tr, .ref a_Mn, .ref a_Sk])), (a_Go, .inl (cI, 2, .inl u.1)), (a_To, .inl (cI, 256, .inl u.2))]) A) A) args s 0 0 A) (F0 m 13 ls [])) (v_Go : Nat → Int32) (v_To : Nat → Int32) (x1 : Int32) (x2 : Int32) (h : wp_X6_clear_13 v_Co K13 Q v_Go v_To x1 x2) : ∀ (H : Heap) (locs : List Loc), va_P D vwCl [(a_o, .inr (6, [.ref a_To, .ref a_Go, .int v_Co, .ref a_Sy, .ref a_Le, .ref a_Ri, .ref a_Ln, .ref a_Wr, .ref a_Tr, .ref a_Mn, .ref a_Sk])), (a_Go, .inl (cI, 2, .inl v_Go)), (a_To, .inl (cI, 256, .inl v_To))] H → va_D A [(a_o, .inr (6, [.ref a_To, .ref a_Go, .int v_Co, .ref a_Sy, .ref a_Le, .ref a_Ri, .ref a_Ln, .ref a_Wr, .ref a_Tr, .ref a_Mn, .ref a_Sk])), (a_Go, .inl (cI, 2, .inl v_Go)), (a_To, .inl (cI, 256, .inl v_To))] → va_S A s.heap H locs → ∀ (ls : Array Slot), lv_has ls 3 [(0, .ref a_o), (1, .int x1), (2, .int x2)] → W p l e (headSpec wsX6_clear rm_X6_clear).room s m args below meth c H locs 0 0 (MQ below (va_Qi (fun (r : Int32) (u : (Nat → Int32) × (Nat → Int32)) => (r = 0 ∨ r = 1) ∧ Q r u.1 u.2) (tm_B D (fun (u : (Nat → Int32) × (Nat → Int32)) => [(a_o, .inr (6, [.ref a_To, .ref a_Go, .int v_Co, .ref a_Sy, .ref a_Le, .ref a_Ri, .ref a_Ln, .ref a_Wr, .ref a_Tr, .ref a_Mn, .ref a_Sk])), (a_Go, .inl (cI, 2, .inl u.1)), (a_To, .inl (cI, 256, .inl u.2))]) A) A) args s 0 0 A) (F0 m 13 ls []) := by
  obtain ⟨hx, hb, hr, hml, hown, hts, hlocks⟩ := id C
  intro H locs hP hD hS ls hl
  unfold wp_X6_clear_13 at h
  refine lv_iload_n hx hb dX6_clear_13 rfl (lv_at hl 2 rfl) ?_
  refine lv_sipush (v := 128) hx hb dX6_clear_14 (by decide) ?_
  refine lv_icmp_ge (tgt := 39) hx hb dX6_clear_17 (by decide) (fun c3 => ?_) (fun c3 => ?_)
  · have h := h.1 c3
    refine lv_aload_n hx hb dX6_clear_39 rfl (lv_at hl 0 rfl) ?_
    refine va_get (D := D) (ci := 6) (v := .ref a_Go) (C := RX6) (T := TX6) (N := 11) hx hb hts in_X6_clear_X6 hown hK.1 hP 0 rfl rfl 1 (by decide) (hts (.fieldLink RX6 13 "TreeMachinesModel" "goals" "[I") (by decide +kernel)) (fun _ h9 => h9) rfl dX6_clear_40 ?_
    refine lv_iload_n hx hb dX6_clear_43 rfl (lv_at hl 1 rfl) ?_
    refine lv_iconst (v := 0) hx hb dX6_clear_44 (by decide) ?_
    obtain ⟨b4, h⟩ := h
    refine va_iast hx hb hK.1 hP hD hS 1 0 rfl rfl b4 dX6_clear_45 (fun H locs hP hD hS => ?_)
    obtain ⟨f_5, ef_5⟩ : ∃ y : Nat → Int32, y = upd v_Go (x1).toNatClampNeg 0 := ⟨_, rfl⟩
    have h := h f_5 ef_5
    have hP : va_P D vwCl [(a_o, .inr (6, [.ref a_To, .ref a_Go, .int v_Co, .ref a_Sy, .ref a_Le, .ref a_Ri, .ref a_Ln, .ref a_Wr, .ref a_Tr, .ref a_Mn, .ref a_Sk])), (a_Go, .inl (cI, 2, .inl f_5)), (a_To, .inl (cI, 256, .inl v_To))] H := by rw [ef_5]; exact hP
    have hD : va_D A [(a_o, .inr (6, [.ref a_To, .ref a_Go, .int v_Co, .ref a_Sy, .ref a_Le, .ref a_Ri, .ref a_Ln, .ref a_Wr, .ref a_Tr, .ref a_Mn, .ref a_Sk])), (a_Go, .inl (cI, 2, .inl f_5)), (a_To, .inl (cI, 256, .inl v_To))] := by rw [ef_5]; exact hD
    refine lv_iconst (v := 1) hx hb dX6_clear_46 (by decide) ?_
    exact W.zret (v := 1) (ty := .boolean) hx hb hr (tm_n01 (Or.inr rfl)) (fun t ht hW => ⟨⟨1, (f_5, v_To), rfl, ⟨Or.inr rfl, h⟩, by rw [ht]; exact hP, hD⟩, hS.F ht⟩) hS.2.2 dX6_clear_47
  · have h := h.2 c3
    refine lv_aload_n hx hb dX6_clear_20 rfl (lv_at hl 0 rfl) ?_
    refine va_get (D := D) (ci := 6) (v := .ref a_To) (C := RX6) (T := TX6) (N := 11) hx hb hts in_X6_clear_X6 hown hK.1 hP 0 rfl rfl 0 (by decide) (hts (.fieldLink RX6 7 "TreeMachinesModel" "to" "[I") (by decide +kernel)) (fun _ h9 => h9) rfl dX6_clear_21 ?_
    refine lv_sipush (v := 128) hx hb dX6_clear_24 (by decide) ?_
    refine lv_iload_n hx hb dX6_clear_27 rfl (lv_at hl 1 rfl) ?_
    refine lv_imul (x := 128) (y := x1) hx hb dX6_clear_28 ?_
    refine lv_iload_n hx hb dX6_clear_29 rfl (lv_at hl 2 rfl) ?_
    refine lv_iadd hx hb dX6_clear_30 ?_
    refine lv_iconst (v := 0) hx hb dX6_clear_31 (by decide) ?_
    obtain ⟨b6, h⟩ := h
    refine va_iast hx hb hK.1 hP hD hS 2 0 rfl rfl b6 dX6_clear_32 (fun H locs hP hD hS => ?_)
    obtain ⟨f_7, ef_7⟩ : ∃ y : Nat → Int32, y = upd v_To ((((128 : Int32) * x1) + x2)).toNatClampNeg 0 := ⟨_, rfl⟩
    have h := h f_7 ef_7
    have hP : va_P D vwCl [(a_o, .inr (6, [.ref a_To, .ref a_Go, .int v_Co, .ref a_Sy, .ref a_Le, .ref a_Ri, .ref a_Ln, .ref a_Wr, .ref a_Tr, .ref a_Mn, .ref a_Sk])), (a_Go, .inl (cI, 2, .inl v_Go)), (a_To, .inl (cI, 256, .inl f_7))] H := by rw [ef_7]; exact hP
    have hD : va_D A [(a_o, .inr (6, [.ref a_To, .ref a_Go, .int v_Co, .ref a_Sy, .ref a_Le, .ref a_Ri, .ref a_Ln, .ref a_Wr, .ref a_Tr, .ref a_Mn, .ref a_Sk])), (a_Go, .inl (cI, 2, .inl v_Go)), (a_To, .inl (cI, 256, .inl f_7))] := by rw [ef_7]; exact hD
    obtain ⟨x2_8, ex2_8⟩ : ∃ y : Int32, y = x2 + 1 := ⟨_, rfl⟩
    have h := h x2_8 ex2_8
    refine lv_iinc (v := x2_8) (lv' := [(2, .int x2_8), (0, .ref a_o), (1, .int x1)]) hx hb dX6_clear_33 hl (k := 2) rfl (by rw [ex2_8]; rfl) (by decide) rfl (fun ls hl => ?_)
    refine lv_goto (tgt := 13) hx hb dX6_clear_36 (by decide) ?_
    exact k13 v_Go f_7 x1 x2_8 h H locs hP hD hS ls (lv_sub hl [1, 2, 0] rfl)
def lp_X6_clear_13 (v_Co : Int32) (Q : Int32 → (Nat → Int32) → (Nat → Int32) → Prop) : Nat → (Nat → Int32) → (Nat → Int32) → Int32 → Int32 → Prop
  | 0, _, _, _, _ => False
  | n + 1, v_Go, v_To, x1, x2 => wp_X6_clear_13 v_Co (lp_X6_clear_13 v_Co Q n) Q v_Go v_To x1 x2
set_option maxRecDepth 100000 in
theorem lt_X6_clear_13 {p : Program} {l : Launch} {e : Env} {s : State} {m : MethodId} {args : Array Value} {below : List Frame} {meth : Method} {c : Code} {D : va_G} {cI cB : ClassId} {a_o a_To a_Go a_Sy a_Le a_Ri a_Ln a_Wr a_Tr a_Mn a_Sk : Nat} {A : Nat → Prop} {v_Co : Int32} {Q : Int32 → (Nat → Int32) → (Nat → Int32) → Prop} (C : tm_cx p s m args meth c cX6_clear 3 (some .boolean) RX6 wsX6_clear) (hK : tm_kx D cI cB s) (hA : ∀ q : Nat, s.heap.size ≤ q → A q) : ∀ (n : Nat) (v_Go : Nat → Int32) (v_To : Nat → Int32) (x1 : Int32) (x2 : Int32), lp_X6_clear_13 v_Co Q n v_Go v_To x1 x2 → ∀ (H : Heap) (locs : List Loc), va_P D vwCl [(a_o, .inr (6, [.ref a_To, .ref a_Go, .int v_Co, .ref a_Sy, .ref a_Le, .ref a_Ri, .ref a_Ln, .ref a_Wr, .ref a_Tr, .ref a_Mn, .ref a_Sk])), (a_Go, .inl (cI, 2, .inl v_Go)), (a_To, .inl (cI, 256, .inl v_To))] H → va_D A [(a_o, .inr (6, [.ref a_To, .ref a_Go, .int v_Co, .ref a_Sy, .ref a_Le, .ref a_Ri, .ref a_Ln, .ref a_Wr, .ref a_Tr, .ref a_Mn, .ref a_Sk])), (a_Go, .inl (cI, 2, .inl v_Go)), (a_To, .inl (cI, 256, .inl v_To))] → va_S A s.heap H locs → ∀ (ls : Array Slot), lv_has ls 3 [(0, .ref a_o), (1, .int x1), (2, .int x2)] → W p l e (headSpec wsX6_clear rm_X6_clear).room s m args below meth c H locs 0 0 (MQ below (va_Qi (fun (r : Int32) (u : (Nat → Int32) × (Nat → Int32)) => (r = 0 ∨ r = 1) ∧ Q r u.1 u.2) (tm_B D (fun (u : (Nat → Int32) × (Nat → Int32)) => [(a_o, .inr (6, [.ref a_To, .ref a_Go, .int v_Co, .ref a_Sy, .ref a_Le, .ref a_Ri, .ref a_Ln, .ref a_Wr, .ref a_Tr, .ref a_Mn, .ref a_Sk])), (a_Go, .inl (cI, 2, .inl u.1)), (a_To, .inl (cI, 256, .inl u.2))]) A) A) args s 0 0 A) (F0 m 13 ls []) := by
  intro n
  induction n with
  | zero => intro _ _ _ _ h; exact False.elim h
  | succ n ih => intro v_Go v_To x1 x2 h; exact bk_X6_clear_13 C hK hA ih v_Go v_To x1 x2 h
def wp_X6_clear_in (v_Co : Int32) (Q : Int32 → (Nat → Int32) → (Nat → Int32) → Prop) (v_Go : Nat → Int32) (v_To : Nat → Int32) (x1 : Int32) : Prop :=
  wp_X6_within x1 0 1 (fun r1 => ((r1 = 0 → Q 0 v_Go v_To) ∧ (¬ (r1 = 0) → (∃ n : Nat, lp_X6_clear_13 v_Co Q n v_Go v_To x1 0))))
set_option maxRecDepth 100000 in
set_option maxHeartbeats 4000000 in
theorem bk_X6_clear_in {p : Program} {l : Launch} {e : Env} {s : State} {m : MethodId} {args : Array Value} {below : List Frame} {meth : Method} {c : Code} {D : va_G} {cI cB : ClassId} {a_o a_To a_Go a_Sy a_Le a_Ri a_Ln a_Wr a_Tr a_Mn a_Sk : Nat} {A : Nat → Prop} {v_Co : Int32} {Q : Int32 → (Nat → Int32) → (Nat → Int32) → Prop} (C : tm_cx p s m args meth c cX6_clear 3 (some .boolean) RX6 wsX6_clear) (hK : tm_kx D cI cB s) (hA : ∀ q : Nat, s.heap.size ≤ q → A q) (v_Go : Nat → Int32) (v_To : Nat → Int32) (x1 : Int32) (h : wp_X6_clear_in v_Co Q v_Go v_To x1) : ∀ (H : Heap) (locs : List Loc), va_P D vwCl [(a_o, .inr (6, [.ref a_To, .ref a_Go, .int v_Co, .ref a_Sy, .ref a_Le, .ref a_Ri, .ref a_Ln, .ref a_Wr, .ref a_Tr, .ref a_Mn, .ref a_Sk])), (a_Go, .inl (cI, 2, .inl v_Go)), (a_To, .inl (cI, 256, .inl v_To))] H → va_D A [(a_o, .inr (6, [.ref a_To, .ref a_Go, .int v_Co, .ref a_Sy, .ref a_Le, .ref a_Ri, .ref a_Ln, .ref a_Wr, .ref a_Tr, .ref a_Mn, .ref a_Sk])), (a_Go, .inl (cI, 2, .inl v_Go)), (a_To, .inl (cI, 256, .inl v_To))] → va_S A s.heap H locs → ∀ (ls : Array Slot), lv_has ls 3 [(0, .ref a_o), (1, .int x1)] → W p l e (headSpec wsX6_clear rm_X6_clear).room s m args below meth c H locs 0 0 (MQ below (va_Qi (fun (r : Int32) (u : (Nat → Int32) × (Nat → Int32)) => (r = 0 ∨ r = 1) ∧ Q r u.1 u.2) (tm_B D (fun (u : (Nat → Int32) × (Nat → Int32)) => [(a_o, .inr (6, [.ref a_To, .ref a_Go, .int v_Co, .ref a_Sy, .ref a_Le, .ref a_Ri, .ref a_Ln, .ref a_Wr, .ref a_Tr, .ref a_Mn, .ref a_Sk])), (a_Go, .inl (cI, 2, .inl u.1)), (a_To, .inl (cI, 256, .inl u.2))]) A) A) args s 0 0 A) (F0 m 0 ls []) := by
  obtain ⟨hx, hb, hr, hml, hown, hts, hlocks⟩ := id C
  intro H locs hP hD hS ls hl
  unfold wp_X6_clear_in at h
  refine lv_iload_n hx hb dX6_clear_0 rfl (lv_at hl 1 rfl) ?_
  refine lv_iconst (v := 0) hx hb dX6_clear_1 (by decide) ?_
  refine lv_iconst (v := 1) hx hb dX6_clear_2 (by decide) ?_
  refine tm_rS (As := [.int x1, .int 0, .int 1]) (rest := []) (wc := []) ⟨hx, hb, hml, hown, hts⟩ (cn_X6_within l D cI cB x1 0 1 _ h) (va_cwS 3 hts gX6_clear_X6_within rfl rfl rfl (by decide +kernel) ⟨Nat.le_of_ble_eq_true rfl, Nat.le_of_ble_eq_true rfl⟩) hK (hP.sub [] rfl) rfl hl.1 rfl (Nat.le_of_ble_eq_true rfl) ⟨Nat.zero_le _, Nat.zero_le _⟩ dX6_clear_3 (fun r1 h => ?_)
  obtain ⟨br1, h⟩ := h
  refine lv_if_ne (tgt := 11) hx hb dX6_clear_6 (by decide) (fun c2 => ?_) (fun c2 => ?_)
  · have h := h.2 c2
    refine lv_iconst (v := 0) hx hb dX6_clear_11 (by decide) ?_
    refine lv_istore_n (lv' := [(2, .int 0), (0, .ref a_o), (1, .int x1)]) hx hb dX6_clear_12 rfl hl (by decide) rfl (fun ls hl => ?_)
    obtain ⟨n, h⟩ := h
    exact lt_X6_clear_13 C hK hA n v_Go v_To x1 0 h H locs hP hD hS ls (lv_sub hl [1, 2, 0] rfl)
  · have h := h.1 c2
    refine lv_iconst (v := 0) hx hb dX6_clear_9 (by decide) ?_
    exact W.zret (v := 0) (ty := .boolean) hx hb hr (tm_n01 (Or.inl rfl)) (fun t ht hW => ⟨⟨0, (v_Go, v_To), rfl, ⟨Or.inl rfl, h⟩, by rw [ht]; exact hP, hD⟩, hS.F ht⟩) hS.2.2 dX6_clear_10
abbrev wp_X6_clear (v_Co : Int32) (v_Go : Nat → Int32) (v_To : Nat → Int32) (x1 : Int32) (Q : Int32 → (Nat → Int32) → (Nat → Int32) → Prop) : Prop := wp_X6_clear_in v_Co Q v_Go v_To x1
set_option maxRecDepth 100000 in
set_option maxHeartbeats 4000000 in
theorem cn_X6_clear (l : Launch) (D : va_G) (cI cB : ClassId) (a_o a_To a_Go a_Sy a_Le a_Ri a_Ln a_Wr a_Tr a_Mn a_Sk : Nat) (v_Co : Int32) (v_Go : Nat → Int32) (v_To : Nat → Int32) (x1 : Int32) (sz : Nat) (Q : Int32 → (Nat → Int32) → (Nat → Int32) → Prop) (h : wp_X6_clear v_Co v_Go v_To x1 Q) : Met l yX6_clear wsX6_clear rm_X6_clear (tm_Pw D cI cB [.ref a_o, .int x1] [(a_o, .inr (6, [.ref a_To, .ref a_Go, .int v_Co, .ref a_Sy, .ref a_Le, .ref a_Ri, .ref a_Ln, .ref a_Wr, .ref a_Tr, .ref a_Mn, .ref a_Sk])), (a_Go, .inl (cI, 2, .inl v_Go)), (a_To, .inl (cI, 256, .inl v_To))] sz) (va_Qi (fun (r : Int32) (u : (Nat → Int32) × (Nat → Int32)) => (r = 0 ∨ r = 1) ∧ Q r u.1 u.2) (tm_B D (fun (u : (Nat → Int32) × (Nat → Int32)) => [(a_o, .inr (6, [.ref a_To, .ref a_Go, .int v_Co, .ref a_Sy, .ref a_Le, .ref a_Ri, .ref a_Ln, .ref a_Wr, .ref a_Tr, .ref a_Mn, .ref a_Sk])), (a_Go, .inl (cI, 2, .inl u.1)), (a_To, .inl (cI, 256, .inl u.2))]) (va_A [(a_o, .inr (6, [.ref a_To, .ref a_Go, .int v_Co, .ref a_Sy, .ref a_Le, .ref a_Ri, .ref a_Ln, .ref a_Wr, .ref a_Tr, .ref a_Mn, .ref a_Sk])), (a_Go, .inl (cI, 2, .inl v_Go)), (a_To, .inl (cI, 256, .inl v_To))] sz)) (va_A [(a_o, .inr (6, [.ref a_To, .ref a_Go, .int v_Co, .ref a_Sy, .ref a_Le, .ref a_Ri, .ref a_Ln, .ref a_Wr, .ref a_Tr, .ref a_Mn, .ref a_Sk])), (a_Go, .inl (cI, 2, .inl v_Go)), (a_To, .inl (cI, 256, .inl v_To))] sz)) 0 0 (va_A [(a_o, .inr (6, [.ref a_To, .ref a_Go, .int v_Co, .ref a_Sy, .ref a_Le, .ref a_Ri, .ref a_Ln, .ref a_Wr, .ref a_Tr, .ref a_Mn, .ref a_Sk])), (a_Go, .inl (cI, 2, .inl v_Go)), (a_To, .inl (cI, 256, .inl v_To))] sz) := by
  refine Met.ofW (cc := cX6_clear) (maxL := 3) (ret := (some .boolean)) (by decide) rfl ?_
  intro p e s m args below meth c s₁ B hml hv
  obtain ⟨rfl, hsz, hP, hK, hD0⟩ := hv
  subst hsz
  have hD := hD0.self (sz := s.heap.size)
  generalize hAe : va_A [(a_o, .inr (6, [.ref a_To, .ref a_Go, .int v_Co, .ref a_Sy, .ref a_Le, .ref a_Ri, .ref a_Ln, .ref a_Wr, .ref a_Tr, .ref a_Mn, .ref a_Sk])), (a_Go, .inl (cI, 2, .inl v_Go)), (a_To, .inl (cI, 256, .inl v_To))] s.heap.size = A at hD ⊢
  have hA : ∀ q : Nat, s.heap.size ≤ q → A q := fun q h => by rw [← hAe]; exact Or.inr h
  have hl := lv_entry ([.ref a_o, .int x1]) (n := 3) (Nat.le_of_ble_eq_true rfl)
  rw [lg_entry_eq]
  generalize (lg_sl ([.ref a_o, .int x1]) ++ List.replicate (3 - (lg_sl ([.ref a_o, .int x1])).length) Slot.unset).toArray = ls at hl ⊢
  have hl : lv_has ls 3 [(0, .ref a_o), (1, .int x1)] := hl
  exact bk_X6_clear_in ⟨B.exec, B.bytes, B.returns, hml, findClass_of_methodNamed B.named, atoms_spec (ws := wsX6_clear) B.pre, B.notSynchronized⟩ hK hA v_Go v_To x1 h s.heap [] hP hD va_S.rf ls hl
/-! X6_node (III)I -/
theorem in_X6_node_X6 : ∀ w ∈ u_ws RX6 TX6 11, w ∈ wsX6_node := by decide +kernel
abbrev rm_X6_node : Room := { frames := 1, cells := 0, slots := 0, locals := 22 }
def wp_X6_node_121 (Q : Int32 → Int32 → (Nat → Int32) → (Nat → Int32) → (Nat → Int32) → Prop) (v_Co : Int32) (v_Le : Nat → Int32) (v_Ri : Nat → Int32) (v_Sy : Nat → Int32) (z1 : Int32) (z2 : Int32) : Prop :=
  vp_in z1 200 ∧ ∀ f_14 : Nat → Int32, f_14 = upd v_Ri (z1).toNatClampNeg z2 → ∀ g_15 : Int32, g_15 = (v_Co + 1) → Q (g_15 - 1) g_15 v_Le f_14 v_Sy
set_option maxRecDepth 100000 in
set_option maxHeartbeats 4000000 in
theorem bk_X6_node_121 {p : Program} {l : Launch} {e : Env} {s : State} {m : MethodId} {args : Array Value} {below : List Frame} {meth : Method} {c : Code} {D : va_G} {cI cB : ClassId} {a_o a_To a_Go a_Sy a_Le a_Ri a_Ln a_Wr a_Tr a_Mn a_Sk : Nat} {A : Nat → Prop} {Q : Int32 → Int32 → (Nat → Int32) → (Nat → Int32) → (Nat → Int32) → Prop} (C : tm_cx p s m args meth c cX6_node 5 (some .int) RX6 wsX6_node) (hK : tm_kx D cI cB s) (hA : ∀ q : Nat, s.heap.size ≤ q → A q) (v_Co : Int32) (v_Le : Nat → Int32) (v_Ri : Nat → Int32) (v_Sy : Nat → Int32) (z1 : Int32) (z2 : Int32) (h : wp_X6_node_121 Q v_Co v_Le v_Ri v_Sy z1 z2) : ∀ (H : Heap) (locs : List Loc), va_P D vwCl [(a_o, .inr (6, [.ref a_To, .ref a_Go, .int v_Co, .ref a_Sy, .ref a_Le, .ref a_Ri, .ref a_Ln, .ref a_Wr, .ref a_Tr, .ref a_Mn, .ref a_Sk])), (a_Le, .inl (cI, 200, .inl v_Le)), (a_Ri, .inl (cI, 200, .inl v_Ri)), (a_Sy, .inl (cI, 200, .inl v_Sy))] H → va_D A [(a_o, .inr (6, [.ref a_To, .ref a_Go, .int v_Co, .ref a_Sy, .ref a_Le, .ref a_Ri, .ref a_Ln, .ref a_Wr, .ref a_Tr, .ref a_Mn, .ref a_Sk])), (a_Le, .inl (cI, 200, .inl v_Le)), (a_Ri, .inl (cI, 200, .inl v_Ri)), (a_Sy, .inl (cI, 200, .inl v_Sy))] → va_S A s.heap H locs → ∀ (ls : Array Slot), lv_has ls 5 [(0, .ref a_o)] → W p l e (headSpec wsX6_node rm_X6_node).room s m args below meth c H locs 0 0 (MQ below (va_Qi (fun (r : Int32) (u : Int32 × (Nat → Int32) × (Nat → Int32) × (Nat → Int32)) => Q r u.1 u.2.1 u.2.2.1 u.2.2.2) (tm_B D (fun (u : Int32 × (Nat → Int32) × (Nat → Int32) × (Nat → Int32)) => [(a_o, .inr (6, [.ref a_To, .ref a_Go, .int u.1, .ref a_Sy, .ref a_Le, .ref a_Ri, .ref a_Ln, .ref a_Wr, .ref a_Tr, .ref a_Mn, .ref a_Sk])), (a_Le, .inl (cI, 200, .inl u.2.1)), (a_Ri, .inl (cI, 200, .inl u.2.2.1)), (a_Sy, .inl (cI, 200, .inl u.2.2.2))]) A) A) args s 0 0 A) (F0 m 121 ls [.int z2, .int z1, .ref a_Ri]) := by
  obtain ⟨hx, hb, hr, hml, hown, hts, hlocks⟩ := id C
  intro H locs hP hD hS ls hl
  unfold wp_X6_node_121 at h
  obtain ⟨b13, h⟩ := h
  refine va_iast hx hb hK.1 hP hD hS 2 0 rfl rfl b13 dX6_node_121 (fun H locs hP hD hS => ?_)
  obtain ⟨f_14, ef_14⟩ : ∃ y : Nat → Int32, y = upd v_Ri (z1).toNatClampNeg z2 := ⟨_, rfl⟩
  have h := h f_14 ef_14
  have hP : va_P D vwCl [(a_o, .inr (6, [.ref a_To, .ref a_Go, .int v_Co, .ref a_Sy, .ref a_Le, .ref a_Ri, .ref a_Ln, .ref a_Wr, .ref a_Tr, .ref a_Mn, .ref a_Sk])), (a_Le, .inl (cI, 200, .inl v_Le)), (a_Ri, .inl (cI, 200, .inl f_14)), (a_Sy, .inl (cI, 200, .inl v_Sy))] H := by rw [ef_14]; exact hP
  have hD : va_D A [(a_o, .inr (6, [.ref a_To, .ref a_Go, .int v_Co, .ref a_Sy, .ref a_Le, .ref a_Ri, .ref a_Ln, .ref a_Wr, .ref a_Tr, .ref a_Mn, .ref a_Sk])), (a_Le, .inl (cI, 200, .inl v_Le)), (a_Ri, .inl (cI, 200, .inl f_14)), (a_Sy, .inl (cI, 200, .inl v_Sy))] := by rw [ef_14]; exact hD
  refine lv_aload_n hx hb dX6_node_122 rfl (lv_at hl 0 rfl) ?_
  refine lv_dup hx hb dX6_node_123 rfl ?_
  refine va_get (D := D) (ci := 6) (v := .int v_Co) (C := RX6) (T := TX6) (N := 11) hx hb hts in_X6_node_X6 hown hK.1 hP 0 rfl rfl 2 (by decide) (hts (.fieldLink RX6 53 "TreeMachinesModel" "count" "I") (by decide +kernel)) (fun _ h9 => h9) rfl dX6_node_124 ?_
  refine lv_iconst (v := 1) hx hb dX6_node_127 (by decide) ?_
  refine lv_iadd (x := v_Co) (y := 1) hx hb dX6_node_128 ?_
  refine lv_topi (fun g_15 eg_15 => ?_)
  have h := h g_15 eg_15
  refine va_put (D := D) (ci := 6) (v := .int g_15) (ty := .int) (C := RX6) (T := TX6) (N := 11) hx hb hts in_X6_node_X6 tyX6 tyX6_ok nmX6 hown hK.1 hP hD hS 0 rfl rfl 2 (by decide) (hts (.fieldLink RX6 53 "TreeMachinesModel" "count" "I") (by decide +kernel)) (fun _ h9 => h9) rfl (by decide +kernel) rfl rfl (Nat.le_of_ble_eq_true rfl) dX6_node_129 (fun H locs hP hD hS => ?_)
  have hP : va_P D vwCl [(a_o, .inr (6, [.ref a_To, .ref a_Go, .int g_15, .ref a_Sy, .ref a_Le, .ref a_Ri, .ref a_Ln, .ref a_Wr, .ref a_Tr, .ref a_Mn, .ref a_Sk])), (a_Le, .inl (cI, 200, .inl v_Le)), (a_Ri, .inl (cI, 200, .inl f_14)), (a_Sy, .inl (cI, 200, .inl v_Sy))] H := hP
  have hD : va_D A [(a_o, .inr (6, [.ref a_To, .ref a_Go, .int g_15, .ref a_Sy, .ref a_Le, .ref a_Ri, .ref a_Ln, .ref a_Wr, .ref a_Tr, .ref a_Mn, .ref a_Sk])), (a_Le, .inl (cI, 200, .inl v_Le)), (a_Ri, .inl (cI, 200, .inl f_14)), (a_Sy, .inl (cI, 200, .inl v_Sy))] := hD
  refine lv_aload_n hx hb dX6_node_132 rfl (lv_at hl 0 rfl) ?_
  refine va_get (D := D) (ci := 6) (v := .int g_15) (C := RX6) (T := TX6) (N := 11) hx hb hts in_X6_node_X6 hown hK.1 hP 0 rfl rfl 2 (by decide) (hts (.fieldLink RX6 53 "TreeMachinesModel" "count" "I") (by decide +kernel)) (fun _ h9 => h9) rfl dX6_node_133 ?_
  refine lv_iconst (v := 1) hx hb dX6_node_136 (by decide) ?_
  refine lv_isub (x := g_15) (y := 1) hx hb dX6_node_137 ?_
  exact W.iret (v := (g_15 - 1)) hx hb hr (fun t ht hW => ⟨⟨(g_15 - 1), (g_15, v_Le, f_14, v_Sy), rfl, h, by rw [ht]; exact hP, hD⟩, hS.F ht⟩) hS.2.2 dX6_node_138
def wp_X6_node_101 (Q : Int32 → Int32 → (Nat → Int32) → (Nat → Int32) → (Nat → Int32) → Prop) (v_Co : Int32) (v_Le : Nat → Int32) (v_Ri : Nat → Int32) (v_Sy : Nat → Int32) (z1 : Int32) (z2 : Int32) (x3 : Int32) (x4 : Int32) : Prop :=
  vp_in z1 200 ∧ ∀ f_11 : Nat → Int32, f_11 = upd v_Le (z1).toNatClampNeg z2 → ((x4 ≤ 1 → wp_X6_node_121 Q v_Co f_11 v_Ri v_Sy v_Co (-1)) ∧ (¬ (x4 ≤ 1) → wp_X6_node_121 Q v_Co f_11 v_Ri v_Sy v_Co x3))
set_option maxRecDepth 100000 in
set_option maxHeartbeats 4000000 in
theorem bk_X6_node_101 {p : Program} {l : Launch} {e : Env} {s : State} {m : MethodId} {args : Array Value} {below : List Frame} {meth : Method} {c : Code} {D : va_G} {cI cB : ClassId} {a_o a_To a_Go a_Sy a_Le a_Ri a_Ln a_Wr a_Tr a_Mn a_Sk : Nat} {A : Nat → Prop} {Q : Int32 → Int32 → (Nat → Int32) → (Nat → Int32) → (Nat → Int32) → Prop} (C : tm_cx p s m args meth c cX6_node 5 (some .int) RX6 wsX6_node) (hK : tm_kx D cI cB s) (hA : ∀ q : Nat, s.heap.size ≤ q → A q) (v_Co : Int32) (v_Le : Nat → Int32) (v_Ri : Nat → Int32) (v_Sy : Nat → Int32) (z1 : Int32) (z2 : Int32) (x3 : Int32) (x4 : Int32) (h : wp_X6_node_101 Q v_Co v_Le v_Ri v_Sy z1 z2 x3 x4) : ∀ (H : Heap) (locs : List Loc), va_P D vwCl [(a_o, .inr (6, [.ref a_To, .ref a_Go, .int v_Co, .ref a_Sy, .ref a_Le, .ref a_Ri, .ref a_Ln, .ref a_Wr, .ref a_Tr, .ref a_Mn, .ref a_Sk])), (a_Le, .inl (cI, 200, .inl v_Le)), (a_Ri, .inl (cI, 200, .inl v_Ri)), (a_Sy, .inl (cI, 200, .inl v_Sy))] H → va_D A [(a_o, .inr (6, [.ref a_To, .ref a_Go, .int v_Co, .ref a_Sy, .ref a_Le, .ref a_Ri, .ref a_Ln, .ref a_Wr, .ref a_Tr, .ref a_Mn, .ref a_Sk])), (a_Le, .inl (cI, 200, .inl v_Le)), (a_Ri, .inl (cI, 200, .inl v_Ri)), (a_Sy, .inl (cI, 200, .inl v_Sy))] → va_S A s.heap H locs → ∀ (ls : Array Slot), lv_has ls 5 [(0, .ref a_o), (3, .int x3), (4, .int x4)] → W p l e (headSpec wsX6_node rm_X6_node).room s m args below meth c H locs 0 0 (MQ below (va_Qi (fun (r : Int32) (u : Int32 × (Nat → Int32) × (Nat → Int32) × (Nat → Int32)) => Q r u.1 u.2.1 u.2.2.1 u.2.2.2) (tm_B D (fun (u : Int32 × (Nat → Int32) × (Nat → Int32) × (Nat → Int32)) => [(a_o, .inr (6, [.ref a_To, .ref a_Go, .int u.1, .ref a_Sy, .ref a_Le, .ref a_Ri, .ref a_Ln, .ref a_Wr, .ref a_Tr, .ref a_Mn, .ref a_Sk])), (a_Le, .inl (cI, 200, .inl u.2.1)), (a_Ri, .inl (cI, 200, .inl u.2.2.1)), (a_Sy, .inl (cI, 200, .inl u.2.2.2))]) A) A) args s 0 0 A) (F0 m 101 ls [.int z2, .int z1, .ref a_Le]) := by
  obtain ⟨hx, hb, hr, hml, hown, hts, hlocks⟩ := id C
  intro H locs hP hD hS ls hl
  unfold wp_X6_node_101 at h
  obtain ⟨b10, h⟩ := h
  refine va_iast hx hb hK.1 hP hD hS 1 0 rfl rfl b10 dX6_node_101 (fun H locs hP hD hS => ?_)
  obtain ⟨f_11, ef_11⟩ : ∃ y : Nat → Int32, y = upd v_Le (z1).toNatClampNeg z2 := ⟨_, rfl⟩
  have h := h f_11 ef_11
  have hP : va_P D vwCl [(a_o, .inr (6, [.ref a_To, .ref a_Go, .int v_Co, .ref a_Sy, .ref a_Le, .ref a_Ri, .ref a_Ln, .ref a_Wr, .ref a_Tr, .ref a_Mn, .ref a_Sk])), (a_Le, .inl (cI, 200, .inl f_11)), (a_Ri, .inl (cI, 200, .inl v_Ri)), (a_Sy, .inl (cI, 200, .inl v_Sy))] H := by rw [ef_11]; exact hP
  have hD : va_D A [(a_o, .inr (6, [.ref a_To, .ref a_Go, .int v_Co, .ref a_Sy, .ref a_Le, .ref a_Ri, .ref a_Ln, .ref a_Wr, .ref a_Tr, .ref a_Mn, .ref a_Sk])), (a_Le, .inl (cI, 200, .inl f_11)), (a_Ri, .inl (cI, 200, .inl v_Ri)), (a_Sy, .inl (cI, 200, .inl v_Sy))] := by rw [ef_11]; exact hD
  refine lv_aload_n hx hb dX6_node_102 rfl (lv_at hl 0 rfl) ?_
  refine va_get (D := D) (ci := 6) (v := .ref a_Ri) (C := RX6) (T := TX6) (N := 11) hx hb hts in_X6_node_X6 hown hK.1 hP 0 rfl rfl 5 (by decide) (hts (.fieldLink RX6 22 "TreeMachinesModel" "rightOf" "[I") (by decide +kernel)) (fun _ h9 => h9) rfl dX6_node_103 ?_
  refine lv_aload_n hx hb dX6_node_106 rfl (lv_at hl 0 rfl) ?_
  refine va_get (D := D) (ci := 6) (v := .int v_Co) (C := RX6) (T := TX6) (N := 11) hx hb hts in_X6_node_X6 hown hK.1 hP 0 rfl rfl 2 (by decide) (hts (.fieldLink RX6 53 "TreeMachinesModel" "count" "I") (by decide +kernel)) (fun _ h9 => h9) rfl dX6_node_107 ?_
  refine lv_iload hx hb dX6_node_110 (lv_at hl 2 rfl) ?_
  refine lv_iconst (v := 1) hx hb dX6_node_112 (by decide) ?_
  refine lv_icmp_le (tgt := 120) hx hb dX6_node_113 (by decide) (fun c12 => ?_) (fun c12 => ?_)
  · have h := h.1 c12
    refine lv_iconst (v := (-1)) hx hb dX6_node_120 (by decide) ?_
    exact bk_X6_node_121 C hK hA v_Co f_11 v_Ri v_Sy v_Co (-1) h H locs hP hD hS ls (lv_sub hl [0] rfl)
  · have h := h.2 c12
    refine lv_iload_n hx hb dX6_node_116 rfl (lv_at hl 1 rfl) ?_
    refine lv_goto (tgt := 121) hx hb dX6_node_117 (by decide) ?_
    exact bk_X6_node_121 C hK hA v_Co f_11 v_Ri v_Sy v_Co x3 h H locs hP hD hS ls (lv_sub hl [0] rfl)
def wp_X6_node_60 (Q : Int32 → Int32 → (Nat → Int32) → (Nat → Int32) → (Nat → Int32) → Prop) (v_Co : Int32) (v_Le : Nat → Int32) (v_Ri : Nat → Int32) (v_Sy : Nat → Int32) (x1 : Int32) (x2 : Int32) (x3 : Int32) (x4 : Int32) : Prop :=
  ((v_Co = 200 → Q (-3) v_Co v_Le v_Ri v_Sy) ∧ (¬ (v_Co = 200) → vp_in v_Co 200 ∧ ∀ f_8 : Nat → Int32, f_8 = upd v_Sy (v_Co).toNatClampNeg x1 → ((x4 ≤ 0 → wp_X6_node_101 Q v_Co v_Le v_Ri f_8 v_Co (-1) x3 x4) ∧ (¬ (x4 ≤ 0) → wp_X6_node_101 Q v_Co v_Le v_Ri f_8 v_Co x2 x3 x4))))
set_option maxRecDepth 100000 in
set_option maxHeartbeats 4000000 in
theorem bk_X6_node_60 {p : Program} {l : Launch} {e : Env} {s : State} {m : MethodId} {args : Array Value} {below : List Frame} {meth : Method} {c : Code} {D : va_G} {cI cB : ClassId} {a_o a_To a_Go a_Sy a_Le a_Ri a_Ln a_Wr a_Tr a_Mn a_Sk : Nat} {A : Nat → Prop} {Q : Int32 → Int32 → (Nat → Int32) → (Nat → Int32) → (Nat → Int32) → Prop} (C : tm_cx p s m args meth c cX6_node 5 (some .int) RX6 wsX6_node) (hK : tm_kx D cI cB s) (hA : ∀ q : Nat, s.heap.size ≤ q → A q) (v_Co : Int32) (v_Le : Nat → Int32) (v_Ri : Nat → Int32) (v_Sy : Nat → Int32) (x1 : Int32) (x2 : Int32) (x3 : Int32) (x4 : Int32) (h : wp_X6_node_60 Q v_Co v_Le v_Ri v_Sy x1 x2 x3 x4) : ∀ (H : Heap) (locs : List Loc), va_P D vwCl [(a_o, .inr (6, [.ref a_To, .ref a_Go, .int v_Co, .ref a_Sy, .ref a_Le, .ref a_Ri, .ref a_Ln, .ref a_Wr, .ref a_Tr, .ref a_Mn, .ref a_Sk])), (a_Le, .inl (cI, 200, .inl v_Le)), (a_Ri, .inl (cI, 200, .inl v_Ri)), (a_Sy, .inl (cI, 200, .inl v_Sy))] H → va_D A [(a_o, .inr (6, [.ref a_To, .ref a_Go, .int v_Co, .ref a_Sy, .ref a_Le, .ref a_Ri, .ref a_Ln, .ref a_Wr, .ref a_Tr, .ref a_Mn, .ref a_Sk])), (a_Le, .inl (cI, 200, .inl v_Le)), (a_Ri, .inl (cI, 200, .inl v_Ri)), (a_Sy, .inl (cI, 200, .inl v_Sy))] → va_S A s.heap H locs → ∀ (ls : Array Slot), lv_has ls 5 [(0, .ref a_o), (1, .int x1), (2, .int x2), (3, .int x3), (4, .int x4)] → W p l e (headSpec wsX6_node rm_X6_node).room s m args below meth c H locs 0 0 (MQ below (va_Qi (fun (r : Int32) (u : Int32 × (Nat → Int32) × (Nat → Int32) × (Nat → Int32)) => Q r u.1 u.2.1 u.2.2.1 u.2.2.2) (tm_B D (fun (u : Int32 × (Nat → Int32) × (Nat → Int32) × (Nat → Int32)) => [(a_o, .inr (6, [.ref a_To, .ref a_Go, .int u.1, .ref a_Sy, .ref a_Le, .ref a_Ri, .ref a_Ln, .ref a_Wr, .ref a_Tr, .ref a_Mn, .ref a_Sk])), (a_Le, .inl (cI, 200, .inl u.2.1)), (a_Ri, .inl (cI, 200, .inl u.2.2.1)), (a_Sy, .inl (cI, 200, .inl u.2.2.2))]) A) A) args s 0 0 A) (F0 m 60 ls []) := by
  obtain ⟨hx, hb, hr, hml, hown, hts, hlocks⟩ := id C
  intro H locs hP hD hS ls hl
  unfold wp_X6_node_60 at h
  refine lv_aload_n hx hb dX6_node_60 rfl (lv_at hl 0 rfl) ?_
  refine va_get (D := D) (ci := 6) (v := .int v_Co) (C := RX6) (T := TX6) (N := 11) hx hb hts in_X6_node_X6 hown hK.1 hP 0 rfl rfl 2 (by decide) (hts (.fieldLink RX6 53 "TreeMachinesModel" "count" "I") (by decide +kernel)) (fun _ h9 => h9) rfl dX6_node_61 ?_
  refine lv_sipush (v := 200) hx hb dX6_node_64 (by decide) ?_
  refine lv_icmp_ne (tgt := 73) hx hb dX6_node_67 (by decide) (fun c6 => ?_) (fun c6 => ?_)
  · have h := h.2 c6
    refine lv_aload_n hx hb dX6_node_73 rfl (lv_at hl 0 rfl) ?_
    refine va_get (D := D) (ci := 6) (v := .ref a_Sy) (C := RX6) (T := TX6) (N := 11) hx hb hts in_X6_node_X6 hown hK.1 hP 0 rfl rfl 3 (by decide) (hts (.fieldLink RX6 16 "TreeMachinesModel" "symbolOf" "[I") (by decide +kernel)) (fun _ h9 => h9) rfl dX6_node_74 ?_
    refine lv_aload_n hx hb dX6_node_77 rfl (lv_at hl 0 rfl) ?_
    refine va_get (D := D) (ci := 6) (v := .int v_Co) (C := RX6) (T := TX6) (N := 11) hx hb hts in_X6_node_X6 hown hK.1 hP 0 rfl rfl 2 (by decide) (hts (.fieldLink RX6 53 "TreeMachinesModel" "count" "I") (by decide +kernel)) (fun _ h9 => h9) rfl dX6_node_78 ?_
    refine lv_iload_n hx hb dX6_node_81 rfl (lv_at hl 1 rfl) ?_
    obtain ⟨b7, h⟩ := h
    refine va_iast hx hb hK.1 hP hD hS 3 0 rfl rfl b7 dX6_node_82 (fun H locs hP hD hS => ?_)
    obtain ⟨f_8, ef_8⟩ : ∃ y : Nat → Int32, y = upd v_Sy (v_Co).toNatClampNeg x1 := ⟨_, rfl⟩
    have h := h f_8 ef_8
    have hP : va_P D vwCl [(a_o, .inr (6, [.ref a_To, .ref a_Go, .int v_Co, .ref a_Sy, .ref a_Le, .ref a_Ri, .ref a_Ln, .ref a_Wr, .ref a_Tr, .ref a_Mn, .ref a_Sk])), (a_Le, .inl (cI, 200, .inl v_Le)), (a_Ri, .inl (cI, 200, .inl v_Ri)), (a_Sy, .inl (cI, 200, .inl f_8))] H := by rw [ef_8]; exact hP
    have hD : va_D A [(a_o, .inr (6, [.ref a_To, .ref a_Go, .int v_Co, .ref a_Sy, .ref a_Le, .ref a_Ri, .ref a_Ln, .ref a_Wr, .ref a_Tr, .ref a_Mn, .ref a_Sk])), (a_Le, .inl (cI, 200, .inl v_Le)), (a_Ri, .inl (cI, 200, .inl v_Ri)), (a_Sy, .inl (cI, 200, .inl f_8))] := by rw [ef_8]; exact hD
    refine lv_aload_n hx hb dX6_node_83 rfl (lv_at hl 0 rfl) ?_
    refine va_get (D := D) (ci := 6) (v := .ref a_Le) (C := RX6) (T := TX6) (N := 11) hx hb hts in_X6_node_X6 hown hK.1 hP 0 rfl rfl 4 (by decide) (hts (.fieldLink RX6 19 "TreeMachinesModel" "leftOf" "[I") (by decide +kernel)) (fun _ h9 => h9) rfl dX6_node_84 ?_
    refine lv_aload_n hx hb dX6_node_87 rfl (lv_at hl 0 rfl) ?_
    refine va_get (D := D) (ci := 6) (v := .int v_Co) (C := RX6) (T := TX6) (N := 11) hx hb hts in_X6_node_X6 hown hK.1 hP 0 rfl rfl 2 (by decide) (hts (.fieldLink RX6 53 "TreeMachinesModel" "count" "I") (by decide +kernel)) (fun _ h9 => h9) rfl dX6_node_88 ?_
    refine lv_iload hx hb dX6_node_91 (lv_at hl 4 rfl) ?_
    refine lv_if_le (tgt := 100) hx hb dX6_node_93 (by decide) (fun c9 => ?_) (fun c9 => ?_)
    · have h := h.1 c9
      refine lv_iconst (v := (-1)) hx hb dX6_node_100 (by decide) ?_
      exact bk_X6_node_101 C hK hA v_Co v_Le v_Ri f_8 v_Co (-1) x3 x4 h H locs hP hD hS ls (lv_sub hl [0, 3, 4] rfl)
    · have h := h.2 c9
      refine lv_iload_n hx hb dX6_node_96 rfl (lv_at hl 2 rfl) ?_
      refine lv_goto (tgt := 101) hx hb dX6_node_97 (by decide) ?_
      exact bk_X6_node_101 C hK hA v_Co v_Le v_Ri f_8 v_Co x2 x3 x4 h H locs hP hD hS ls (lv_sub hl [0, 3, 4] rfl)
  · have h := h.1 c6
    refine lv_bipush (v := (-3)) hx hb dX6_node_70 (by decide) ?_
    exact W.iret (v := (-3)) hx hb hr (fun t ht hW => ⟨⟨(-3), (v_Co, v_Le, v_Ri, v_Sy), rfl, h, by rw [ht]; exact hP, hD⟩, hS.F ht⟩) hS.2.2 dX6_node_72
def wp_X6_node_37 (Q : Int32 → Int32 → (Nat → Int32) → (Nat → Int32) → (Nat → Int32) → Prop) (v_Co : Int32) (v_Le : Nat → Int32) (v_Ri : Nat → Int32) (v_Sy : Nat → Int32) (x1 : Int32) (x2 : Int32) (x3 : Int32) (x4 : Int32) : Prop :=
  ((x4 ≤ 1 → wp_X6_node_60 Q v_Co v_Le v_Ri v_Sy x1 x2 x3 x4) ∧ (¬ (x4 ≤ 1) → wp_X6_within x3 0 (v_Co - 1) (fun r16 => ((r16 = 0 → Q (-2) v_Co v_Le v_Ri v_Sy) ∧ (¬ (r16 = 0) → wp_X6_node_60 Q v_Co v_Le v_Ri v_Sy x1 x2 x3 x4)))))
set_option maxRecDepth 100000 in
set_option maxHeartbeats 4000000 in
theorem bk_X6_node_37 {p : Program} {l : Launch} {e : Env} {s : State} {m : MethodId} {args : Array Value} {below : List Frame} {meth : Method} {c : Code} {D : va_G} {cI cB : ClassId} {a_o a_To a_Go a_Sy a_Le a_Ri a_Ln a_Wr a_Tr a_Mn a_Sk : Nat} {A : Nat → Prop} {Q : Int32 → Int32 → (Nat → Int32) → (Nat → Int32) → (Nat → Int32) → Prop} (C : tm_cx p s m args meth c cX6_node 5 (some .int) RX6 wsX6_node) (hK : tm_kx D cI cB s) (hA : ∀ q : Nat, s.heap.size ≤ q → A q) (v_Co : Int32) (v_Le : Nat → Int32) (v_Ri : Nat → Int32) (v_Sy : Nat → Int32) (x1 : Int32) (x2 : Int32) (x3 : Int32) (x4 : Int32) (h : wp_X6_node_37 Q v_Co v_Le v_Ri v_Sy x1 x2 x3 x4) : ∀ (H : Heap) (locs : List Loc), va_P D vwCl [(a_o, .inr (6, [.ref a_To, .ref a_Go, .int v_Co, .ref a_Sy, .ref a_Le, .ref a_Ri, .ref a_Ln, .ref a_Wr, .ref a_Tr, .ref a_Mn, .ref a_Sk])), (a_Le, .inl (cI, 200, .inl v_Le)), (a_Ri, .inl (cI, 200, .inl v_Ri)), (a_Sy, .inl (cI, 200, .inl v_Sy))] H → va_D A [(a_o, .inr (6, [.ref a_To, .ref a_Go, .int v_Co, .ref a_Sy, .ref a_Le, .ref a_Ri, .ref a_Ln, .ref a_Wr, .ref a_Tr, .ref a_Mn, .ref a_Sk])), (a_Le, .inl (cI, 200, .inl v_Le)), (a_Ri, .inl (cI, 200, .inl v_Ri)), (a_Sy, .inl (cI, 200, .inl v_Sy))] → va_S A s.heap H locs → ∀ (ls : Array Slot), lv_has ls 5 [(0, .ref a_o), (1, .int x1), (2, .int x2), (3, .int x3), (4, .int x4)] → W p l e (headSpec wsX6_node rm_X6_node).room s m args below meth c H locs 0 0 (MQ below (va_Qi (fun (r : Int32) (u : Int32 × (Nat → Int32) × (Nat → Int32) × (Nat → Int32)) => Q r u.1 u.2.1 u.2.2.1 u.2.2.2) (tm_B D (fun (u : Int32 × (Nat → Int32) × (Nat → Int32) × (Nat → Int32)) => [(a_o, .inr (6, [.ref a_To, .ref a_Go, .int u.1, .ref a_Sy, .ref a_Le, .ref a_Ri, .ref a_Ln, .ref a_Wr, .ref a_Tr, .ref a_Mn, .ref a_Sk])), (a_Le, .inl (cI, 200, .inl u.2.1)), (a_Ri, .inl (cI, 200, .inl u.2.2.1)), (a_Sy, .inl (cI, 200, .inl u.2.2.2))]) A) A) args s 0 0 A) (F0 m 37 ls []) := by
  obtain ⟨hx, hb, hr, hml, hown, hts, hlocks⟩ := id C
  intro H locs hP hD hS ls hl
  unfold wp_X6_node_37 at h
  refine lv_iload hx hb dX6_node_37 (lv_at hl 4 rfl) ?_
  refine lv_iconst (v := 1) hx hb dX6_node_39 (by decide) ?_
  refine lv_icmp_le (tgt := 60) hx hb dX6_node_40 (by decide) (fun c5 => ?_) (fun c5 => ?_)
  · have h := h.1 c5
    exact bk_X6_node_60 C hK hA v_Co v_Le v_Ri v_Sy x1 x2 x3 x4 h H locs hP hD hS ls (lv_sub hl [0, 1, 2, 3, 4] rfl)
  · have h := h.2 c5
    refine lv_iload_n hx hb dX6_node_43 rfl (lv_at hl 3 rfl) ?_
    refine lv_iconst (v := 0) hx hb dX6_node_44 (by decide) ?_
    refine lv_aload_n hx hb dX6_node_45 rfl (lv_at hl 0 rfl) ?_
    refine va_get (D := D) (ci := 6) (v := .int v_Co) (C := RX6) (T := TX6) (N := 11) hx hb hts in_X6_node_X6 hown hK.1 hP 0 rfl rfl 2 (by decide) (hts (.fieldLink RX6 53 "TreeMachinesModel" "count" "I") (by decide +kernel)) (fun _ h9 => h9) rfl dX6_node_46 ?_
    refine lv_iconst (v := 1) hx hb dX6_node_49 (by decide) ?_
    refine lv_isub (x := v_Co) (y := 1) hx hb dX6_node_50 ?_
    refine tm_rS (As := [.int x3, .int 0, .int (v_Co - 1)]) (rest := []) (wc := []) ⟨hx, hb, hml, hown, hts⟩ (cn_X6_within l D cI cB x3 0 (v_Co - 1) _ h) (va_cwS 3 hts gX6_node_X6_within rfl rfl rfl (by decide +kernel) ⟨Nat.le_of_ble_eq_true rfl, Nat.le_of_ble_eq_true rfl⟩) hK (hP.sub [] rfl) rfl hl.1 rfl (Nat.le_of_ble_eq_true rfl) ⟨Nat.zero_le _, Nat.zero_le _⟩ dX6_node_51 (fun r16 h => ?_)
    obtain ⟨br16, h⟩ := h
    refine lv_if_ne (tgt := 60) hx hb dX6_node_54 (by decide) (fun c17 => ?_) (fun c17 => ?_)
    · have h := h.2 c17
      exact bk_X6_node_60 C hK hA v_Co v_Le v_Ri v_Sy x1 x2 x3 x4 h H locs hP hD hS ls (lv_sub hl [0, 1, 2, 3, 4] rfl)
    · have h := h.1 c17
      refine lv_bipush (v := (-2)) hx hb dX6_node_57 (by decide) ?_
      exact W.iret (v := (-2)) hx hb hr (fun t ht hW => ⟨⟨(-2), (v_Co, v_Le, v_Ri, v_Sy), rfl, h, by rw [ht]; exact hP, hD⟩, hS.F ht⟩) hS.2.2 dX6_node_59
def wp_X6_node_in (Q : Int32 → Int32 → (Nat → Int32) → (Nat → Int32) → (Nat → Int32) → Prop) (v_Co : Int32) (v_Le : Nat → Int32) (v_Ri : Nat → Int32) (v_Sy : Nat → Int32) (x1 : Int32) (x2 : Int32) (x3 : Int32) : Prop :=
  wp_X6_within x1 0 7 (fun r1 => ((r1 = 0 → Q (-1) v_Co v_Le v_Ri v_Sy) ∧ (¬ (r1 = 0) → wp_X6_children x1 (fun r3 => ((r3 ≤ 0 → wp_X6_node_37 Q v_Co v_Le v_Ri v_Sy x1 x2 x3 r3) ∧ (¬ (r3 ≤ 0) → wp_X6_within x2 0 (v_Co - 1) (fun r18 => ((r18 = 0 → Q (-2) v_Co v_Le v_Ri v_Sy) ∧ (¬ (r18 = 0) → wp_X6_node_37 Q v_Co v_Le v_Ri v_Sy x1 x2 x3 r3)))))))))
set_option maxRecDepth 100000 in
set_option maxHeartbeats 4000000 in
theorem bk_X6_node_in {p : Program} {l : Launch} {e : Env} {s : State} {m : MethodId} {args : Array Value} {below : List Frame} {meth : Method} {c : Code} {D : va_G} {cI cB : ClassId} {a_o a_To a_Go a_Sy a_Le a_Ri a_Ln a_Wr a_Tr a_Mn a_Sk : Nat} {A : Nat → Prop} {Q : Int32 → Int32 → (Nat → Int32) → (Nat → Int32) → (Nat → Int32) → Prop} (C : tm_cx p s m args meth c cX6_node 5 (some .int) RX6 wsX6_node) (hK : tm_kx D cI cB s) (hA : ∀ q : Nat, s.heap.size ≤ q → A q) (v_Co : Int32) (v_Le : Nat → Int32) (v_Ri : Nat → Int32) (v_Sy : Nat → Int32) (x1 : Int32) (x2 : Int32) (x3 : Int32) (h : wp_X6_node_in Q v_Co v_Le v_Ri v_Sy x1 x2 x3) : ∀ (H : Heap) (locs : List Loc), va_P D vwCl [(a_o, .inr (6, [.ref a_To, .ref a_Go, .int v_Co, .ref a_Sy, .ref a_Le, .ref a_Ri, .ref a_Ln, .ref a_Wr, .ref a_Tr, .ref a_Mn, .ref a_Sk])), (a_Le, .inl (cI, 200, .inl v_Le)), (a_Ri, .inl (cI, 200, .inl v_Ri)), (a_Sy, .inl (cI, 200, .inl v_Sy))] H → va_D A [(a_o, .inr (6, [.ref a_To, .ref a_Go, .int v_Co, .ref a_Sy, .ref a_Le, .ref a_Ri, .ref a_Ln, .ref a_Wr, .ref a_Tr, .ref a_Mn, .ref a_Sk])), (a_Le, .inl (cI, 200, .inl v_Le)), (a_Ri, .inl (cI, 200, .inl v_Ri)), (a_Sy, .inl (cI, 200, .inl v_Sy))] → va_S A s.heap H locs → ∀ (ls : Array Slot), lv_has ls 5 [(0, .ref a_o), (1, .int x1), (2, .int x2), (3, .int x3)] → W p l e (headSpec wsX6_node rm_X6_node).room s m args below meth c H locs 0 0 (MQ below (va_Qi (fun (r : Int32) (u : Int32 × (Nat → Int32) × (Nat → Int32) × (Nat → Int32)) => Q r u.1 u.2.1 u.2.2.1 u.2.2.2) (tm_B D (fun (u : Int32 × (Nat → Int32) × (Nat → Int32) × (Nat → Int32)) => [(a_o, .inr (6, [.ref a_To, .ref a_Go, .int u.1, .ref a_Sy, .ref a_Le, .ref a_Ri, .ref a_Ln, .ref a_Wr, .ref a_Tr, .ref a_Mn, .ref a_Sk])), (a_Le, .inl (cI, 200, .inl u.2.1)), (a_Ri, .inl (cI, 200, .inl u.2.2.1)), (a_Sy, .inl (cI, 200, .inl u.2.2.2))]) A) A) args s 0 0 A) (F0 m 0 ls []) := by
  obtain ⟨hx, hb, hr, hml, hown, hts, hlocks⟩ := id C
  intro H locs hP hD hS ls hl
  unfold wp_X6_node_in at h
  refine lv_iload_n hx hb dX6_node_0 rfl (lv_at hl 1 rfl) ?_
  refine lv_iconst (v := 0) hx hb dX6_node_1 (by decide) ?_
  refine lv_bipush (v := 7) hx hb dX6_node_2 (by decide) ?_
  refine tm_rS (As := [.int x1, .int 0, .int 7]) (rest := []) (wc := []) ⟨hx, hb, hml, hown, hts⟩ (cn_X6_within l D cI cB x1 0 7 _ h) (va_cwS 3 hts gX6_node_X6_within rfl rfl rfl (by decide +kernel) ⟨Nat.le_of_ble_eq_true rfl, Nat.le_of_ble_eq_true rfl⟩) hK (hP.sub [] rfl) rfl hl.1 rfl (Nat.le_of_ble_eq_true rfl) ⟨Nat.zero_le _, Nat.zero_le _⟩ dX6_node_4 (fun r1 h => ?_)
  obtain ⟨br1, h⟩ := h
  refine lv_if_ne (tgt := 12) hx hb dX6_node_7 (by decide) (fun c2 => ?_) (fun c2 => ?_)
  · have h := h.2 c2
    refine lv_iload_n hx hb dX6_node_12 rfl (lv_at hl 1 rfl) ?_
    refine tm_rS (As := [.int x1]) (rest := []) (wc := []) ⟨hx, hb, hml, hown, hts⟩ (cn_X6_children l D cI cB x1 _ h) (va_cwS 1 hts gX6_node_X6_children rfl rfl rfl (by decide +kernel) ⟨Nat.le_of_ble_eq_true rfl, Nat.le_of_ble_eq_true rfl⟩) hK (hP.sub [] rfl) rfl hl.1 rfl (Nat.le_of_ble_eq_true rfl) ⟨Nat.zero_le _, Nat.zero_le _⟩ dX6_node_13 (fun r3 h => ?_)
    refine lv_istore (lv' := [(4, .int r3), (0, .ref a_o), (1, .int x1), (2, .int x2), (3, .int x3)]) hx hb dX6_node_16 hl (by decide) rfl (fun ls hl => ?_)
    refine lv_iload hx hb dX6_node_18 (lv_at hl 0 rfl) ?_
    refine lv_if_le (tgt := 37) hx hb dX6_node_20 (by decide) (fun c4 => ?_) (fun c4 => ?_)
    · have h := h.1 c4
      exact bk_X6_node_37 C hK hA v_Co v_Le v_Ri v_Sy x1 x2 x3 r3 h H locs hP hD hS ls (lv_sub hl [1, 2, 3, 4, 0] rfl)
    · have h := h.2 c4
      refine lv_iload_n hx hb dX6_node_23 rfl (lv_at hl 3 rfl) ?_
      refine lv_iconst (v := 0) hx hb dX6_node_24 (by decide) ?_
      refine lv_aload_n hx hb dX6_node_25 rfl (lv_at hl 1 rfl) ?_
      refine va_get (D := D) (ci := 6) (v := .int v_Co) (C := RX6) (T := TX6) (N := 11) hx hb hts in_X6_node_X6 hown hK.1 hP 0 rfl rfl 2 (by decide) (hts (.fieldLink RX6 53 "TreeMachinesModel" "count" "I") (by decide +kernel)) (fun _ h9 => h9) rfl dX6_node_26 ?_
      refine lv_iconst (v := 1) hx hb dX6_node_29 (by decide) ?_
      refine lv_isub (x := v_Co) (y := 1) hx hb dX6_node_30 ?_
      refine tm_rS (As := [.int x2, .int 0, .int (v_Co - 1)]) (rest := []) (wc := []) ⟨hx, hb, hml, hown, hts⟩ (cn_X6_within l D cI cB x2 0 (v_Co - 1) _ h) (va_cwS 3 hts gX6_node_X6_within rfl rfl rfl (by decide +kernel) ⟨Nat.le_of_ble_eq_true rfl, Nat.le_of_ble_eq_true rfl⟩) hK (hP.sub [] rfl) rfl hl.1 rfl (Nat.le_of_ble_eq_true rfl) ⟨Nat.zero_le _, Nat.zero_le _⟩ dX6_node_31 (fun r18 h => ?_)
      obtain ⟨br18, h⟩ := h
      refine lv_if_eq (tgt := 57) hx hb dX6_node_34 (by decide) (fun c19 => ?_) (fun c19 => ?_)
      · have h := h.1 c19
        refine lv_bipush (v := (-2)) hx hb dX6_node_57 (by decide) ?_
        exact W.iret (v := (-2)) hx hb hr (fun t ht hW => ⟨⟨(-2), (v_Co, v_Le, v_Ri, v_Sy), rfl, h, by rw [ht]; exact hP, hD⟩, hS.F ht⟩) hS.2.2 dX6_node_59
      · have h := h.2 c19
        exact bk_X6_node_37 C hK hA v_Co v_Le v_Ri v_Sy x1 x2 x3 r3 h H locs hP hD hS ls (lv_sub hl [1, 2, 3, 4, 0] rfl)
  · have h := h.1 c2
    refine lv_iconst (v := (-1)) hx hb dX6_node_10 (by decide) ?_
    exact W.iret (v := (-1)) hx hb hr (fun t ht hW => ⟨⟨(-1), (v_Co, v_Le, v_Ri, v_Sy), rfl, h, by rw [ht]; exact hP, hD⟩, hS.F ht⟩) hS.2.2 dX6_node_11
abbrev wp_X6_node (v_Co : Int32) (v_Le : Nat → Int32) (v_Ri : Nat → Int32) (v_Sy : Nat → Int32) (x1 : Int32) (x2 : Int32) (x3 : Int32) (Q : Int32 → Int32 → (Nat → Int32) → (Nat → Int32) → (Nat → Int32) → Prop) : Prop := wp_X6_node_in Q v_Co v_Le v_Ri v_Sy x1 x2 x3
set_option maxRecDepth 100000 in
set_option maxHeartbeats 4000000 in
theorem cn_X6_node (l : Launch) (D : va_G) (cI cB : ClassId) (a_o a_To a_Go a_Sy a_Le a_Ri a_Ln a_Wr a_Tr a_Mn a_Sk : Nat) (v_Co : Int32) (v_Le : Nat → Int32) (v_Ri : Nat → Int32) (v_Sy : Nat → Int32) (x1 : Int32) (x2 : Int32) (x3 : Int32) (sz : Nat) (Q : Int32 → Int32 → (Nat → Int32) → (Nat → Int32) → (Nat → Int32) → Prop) (h : wp_X6_node v_Co v_Le v_Ri v_Sy x1 x2 x3 Q) : Met l yX6_node wsX6_node rm_X6_node (tm_Pw D cI cB [.ref a_o, .int x1, .int x2, .int x3] [(a_o, .inr (6, [.ref a_To, .ref a_Go, .int v_Co, .ref a_Sy, .ref a_Le, .ref a_Ri, .ref a_Ln, .ref a_Wr, .ref a_Tr, .ref a_Mn, .ref a_Sk])), (a_Le, .inl (cI, 200, .inl v_Le)), (a_Ri, .inl (cI, 200, .inl v_Ri)), (a_Sy, .inl (cI, 200, .inl v_Sy))] sz) (va_Qi (fun (r : Int32) (u : Int32 × (Nat → Int32) × (Nat → Int32) × (Nat → Int32)) => Q r u.1 u.2.1 u.2.2.1 u.2.2.2) (tm_B D (fun (u : Int32 × (Nat → Int32) × (Nat → Int32) × (Nat → Int32)) => [(a_o, .inr (6, [.ref a_To, .ref a_Go, .int u.1, .ref a_Sy, .ref a_Le, .ref a_Ri, .ref a_Ln, .ref a_Wr, .ref a_Tr, .ref a_Mn, .ref a_Sk])), (a_Le, .inl (cI, 200, .inl u.2.1)), (a_Ri, .inl (cI, 200, .inl u.2.2.1)), (a_Sy, .inl (cI, 200, .inl u.2.2.2))]) (va_A [(a_o, .inr (6, [.ref a_To, .ref a_Go, .int v_Co, .ref a_Sy, .ref a_Le, .ref a_Ri, .ref a_Ln, .ref a_Wr, .ref a_Tr, .ref a_Mn, .ref a_Sk])), (a_Le, .inl (cI, 200, .inl v_Le)), (a_Ri, .inl (cI, 200, .inl v_Ri)), (a_Sy, .inl (cI, 200, .inl v_Sy))] sz)) (va_A [(a_o, .inr (6, [.ref a_To, .ref a_Go, .int v_Co, .ref a_Sy, .ref a_Le, .ref a_Ri, .ref a_Ln, .ref a_Wr, .ref a_Tr, .ref a_Mn, .ref a_Sk])), (a_Le, .inl (cI, 200, .inl v_Le)), (a_Ri, .inl (cI, 200, .inl v_Ri)), (a_Sy, .inl (cI, 200, .inl v_Sy))] sz)) 0 0 (va_A [(a_o, .inr (6, [.ref a_To, .ref a_Go, .int v_Co, .ref a_Sy, .ref a_Le, .ref a_Ri, .ref a_Ln, .ref a_Wr, .ref a_Tr, .ref a_Mn, .ref a_Sk])), (a_Le, .inl (cI, 200, .inl v_Le)), (a_Ri, .inl (cI, 200, .inl v_Ri)), (a_Sy, .inl (cI, 200, .inl v_Sy))] sz) := by
  refine Met.ofW (cc := cX6_node) (maxL := 5) (ret := (some .int)) (by decide) rfl ?_
  intro p e s m args below meth c s₁ B hml hv
  obtain ⟨rfl, hsz, hP, hK, hD0⟩ := hv
  subst hsz
  have hD := hD0.self (sz := s.heap.size)
  generalize hAe : va_A [(a_o, .inr (6, [.ref a_To, .ref a_Go, .int v_Co, .ref a_Sy, .ref a_Le, .ref a_Ri, .ref a_Ln, .ref a_Wr, .ref a_Tr, .ref a_Mn, .ref a_Sk])), (a_Le, .inl (cI, 200, .inl v_Le)), (a_Ri, .inl (cI, 200, .inl v_Ri)), (a_Sy, .inl (cI, 200, .inl v_Sy))] s.heap.size = A at hD ⊢
  have hA : ∀ q : Nat, s.heap.size ≤ q → A q := fun q h => by rw [← hAe]; exact Or.inr h
  have hl := lv_entry ([.ref a_o, .int x1, .int x2, .int x3]) (n := 5) (Nat.le_of_ble_eq_true rfl)
  rw [lg_entry_eq]
  generalize (lg_sl ([.ref a_o, .int x1, .int x2, .int x3]) ++ List.replicate (5 - (lg_sl ([.ref a_o, .int x1, .int x2, .int x3])).length) Slot.unset).toArray = ls at hl ⊢
  have hl : lv_has ls 5 [(0, .ref a_o), (1, .int x1), (2, .int x2), (3, .int x3)] := hl
  exact bk_X6_node_in ⟨B.exec, B.bytes, B.returns, hml, findClass_of_methodNamed B.named, atoms_spec (ws := wsX6_node) B.pre, B.notSynchronized⟩ hK hA v_Co v_Le v_Ri v_Sy x1 x2 x3 h s.heap [] hP hD va_S.rf ls hl
/-! X6_nodes ()I -/
theorem in_X6_nodes_X6 : ∀ w ∈ u_ws RX6 TX6 11, w ∈ wsX6_nodes := by decide +kernel
abbrev rm_X6_nodes : Room := { frames := 0, cells := 0, slots := 0, locals := 0 }
def wp_X6_nodes_in (v_Co : Int32) (Q : Int32 → Prop) : Prop :=
  Q v_Co
set_option maxRecDepth 100000 in
set_option maxHeartbeats 4000000 in
theorem bk_X6_nodes_in {p : Program} {l : Launch} {e : Env} {s : State} {m : MethodId} {args : Array Value} {below : List Frame} {meth : Method} {c : Code} {D : va_G} {cI cB : ClassId} {a_o a_To a_Go a_Sy a_Le a_Ri a_Ln a_Wr a_Tr a_Mn a_Sk : Nat} {v_Co : Int32} {Q : Int32 → Prop} (C : tm_cx p s m args meth c cX6_nodes 1 (some .int) RX6 wsX6_nodes) (hK : tm_kx D cI cB s) (h : wp_X6_nodes_in v_Co Q) : va_P D vwCl [(a_o, .inr (6, [.ref a_To, .ref a_Go, .int v_Co, .ref a_Sy, .ref a_Le, .ref a_Ri, .ref a_Ln, .ref a_Wr, .ref a_Tr, .ref a_Mn, .ref a_Sk]))] s.heap → ∀ (ls : Array Slot), lv_has ls 1 [(0, .ref a_o)] → W p l e (headSpec wsX6_nodes rm_X6_nodes).room s m args below meth c s.heap [] 0 0 (MQ below (vp_Si Q) args s 0 0 (fun _ => False)) (F0 m 0 ls []) := by
  obtain ⟨hx, hb, hr, hml, hown, hts, hlocks⟩ := id C
  intro hP ls hl
  unfold wp_X6_nodes_in at h
  refine lv_aload_n hx hb dX6_nodes_0 rfl (lv_at hl 0 rfl) ?_
  refine va_get (D := D) (ci := 6) (v := .int v_Co) (C := RX6) (T := TX6) (N := 11) hx hb hts in_X6_nodes_X6 hown hK.1 hP 0 rfl rfl 2 (by decide) (hts (.fieldLink RX6 53 "TreeMachinesModel" "count" "I") (by decide +kernel)) (fun _ h9 => h9) rfl dX6_nodes_1 ?_
  exact W.iret (v := v_Co) hx hb hr (fun t ht hW => ⟨v_Co, rfl, h, ht⟩) (fun _ h => by cases h) dX6_nodes_4
abbrev wp_X6_nodes (v_Co : Int32) (Q : Int32 → Prop) : Prop := wp_X6_nodes_in v_Co Q
set_option maxRecDepth 100000 in
set_option maxHeartbeats 4000000 in
theorem cn_X6_nodes (l : Launch) (D : va_G) (cI cB : ClassId) (a_o a_To a_Go a_Sy a_Le a_Ri a_Ln a_Wr a_Tr a_Mn a_Sk : Nat) (v_Co : Int32) (Q : Int32 → Prop) (h : wp_X6_nodes v_Co Q) : Met l yX6_nodes wsX6_nodes rm_X6_nodes (tm_Pr D cI cB [.ref a_o] [(a_o, .inr (6, [.ref a_To, .ref a_Go, .int v_Co, .ref a_Sy, .ref a_Le, .ref a_Ri, .ref a_Ln, .ref a_Wr, .ref a_Tr, .ref a_Mn, .ref a_Sk]))]) (vp_Si Q) 0 0 (fun _ => False) := by
  refine Met.ofW (cc := cX6_nodes) (maxL := 1) (ret := (some .int)) (by decide) rfl ?_
  intro p e s m args below meth c s₁ B hml hv
  obtain ⟨rfl, hP, hK⟩ := hv
  have hl := lv_entry ([.ref a_o]) (n := 1) (Nat.le_of_ble_eq_true rfl)
  rw [lg_entry_eq]
  generalize (lg_sl ([.ref a_o]) ++ List.replicate (1 - (lg_sl ([.ref a_o])).length) Slot.unset).toArray = ls at hl ⊢
  have hl : lv_has ls 1 [(0, .ref a_o)] := hl
  exact bk_X6_nodes_in ⟨B.exec, B.bytes, B.returns, hml, findClass_of_methodNamed B.named, atoms_spec (ws := wsX6_nodes) B.pre, B.notSynchronized⟩ hK h hP ls hl
/-! X6_part (II)I -/
theorem in_X6_part_X6 : ∀ w ∈ u_ws RX6 TX6 11, w ∈ wsX6_part := by decide +kernel
abbrev rm_X6_part : Room := { frames := 1, cells := 0, slots := 0, locals := 22 }
def wp_X6_part_in (v_Co : Int32) (v_Le : Nat → Int32) (v_Ri : Nat → Int32) (v_Sy : Nat → Int32) (Q : Int32 → Prop) (x1 : Int32) (x2 : Int32) : Prop :=
  wp_X6_within x1 0 (v_Co - 1) (fun r1 => ((r1 = 0 → Q (-2)) ∧ (¬ (r1 = 0) → wp_X6_within x2 0 2 (fun r3 => ((r3 = 0 → Q (-2)) ∧ (¬ (r3 = 0) → ((x2 = 0 → vp_in x1 200 ∧ Q (v_Sy (x1).toNatClampNeg)) ∧ (¬ (x2 = 0) → ((x2 = 1 → vp_in x1 200 ∧ Q (v_Le (x1).toNatClampNeg)) ∧ (¬ (x2 = 1) → vp_in x1 200 ∧ Q (v_Ri (x1).toNatClampNeg)))))))))))
set_option maxRecDepth 100000 in
set_option maxHeartbeats 4000000 in
theorem bk_X6_part_in {p : Program} {l : Launch} {e : Env} {s : State} {m : MethodId} {args : Array Value} {below : List Frame} {meth : Method} {c : Code} {D : va_G} {cI cB : ClassId} {a_o a_To a_Go a_Sy a_Le a_Ri a_Ln a_Wr a_Tr a_Mn a_Sk : Nat} {v_Co : Int32} {v_Le : Nat → Int32} {v_Ri : Nat → Int32} {v_Sy : Nat → Int32} {Q : Int32 → Prop} (C : tm_cx p s m args meth c cX6_part 3 (some .int) RX6 wsX6_part) (hK : tm_kx D cI cB s) (x1 : Int32) (x2 : Int32) (h : wp_X6_part_in v_Co v_Le v_Ri v_Sy Q x1 x2) : va_P D vwCl [(a_o, .inr (6, [.ref a_To, .ref a_Go, .int v_Co, .ref a_Sy, .ref a_Le, .ref a_Ri, .ref a_Ln, .ref a_Wr, .ref a_Tr, .ref a_Mn, .ref a_Sk])), (a_Le, .inl (cI, 200, .inl v_Le)), (a_Ri, .inl (cI, 200, .inl v_Ri)), (a_Sy, .inl (cI, 200, .inl v_Sy))] s.heap → ∀ (ls : Array Slot), lv_has ls 3 [(0, .ref a_o), (1, .int x1), (2, .int x2)] → W p l e (headSpec wsX6_part rm_X6_part).room s m args below meth c s.heap [] 0 0 (MQ below (vp_Si Q) args s 0 0 (fun _ => False)) (F0 m 0 ls []) := by
  obtain ⟨hx, hb, hr, hml, hown, hts, hlocks⟩ := id C
  intro hP ls hl
  unfold wp_X6_part_in at h
  refine lv_iload_n hx hb dX6_part_0 rfl (lv_at hl 1 rfl) ?_
  refine lv_iconst (v := 0) hx hb dX6_part_1 (by decide) ?_
  refine lv_aload_n hx hb dX6_part_2 rfl (lv_at hl 0 rfl) ?_
  refine va_get (D := D) (ci := 6) (v := .int v_Co) (C := RX6) (T := TX6) (N := 11) hx hb hts in_X6_part_X6 hown hK.1 hP 0 rfl rfl 2 (by decide) (hts (.fieldLink RX6 53 "TreeMachinesModel" "count" "I") (by decide +kernel)) (fun _ h9 => h9) rfl dX6_part_3 ?_
  refine lv_iconst (v := 1) hx hb dX6_part_6 (by decide) ?_
  refine lv_isub (x := v_Co) (y := 1) hx hb dX6_part_7 ?_
  refine tm_rS (As := [.int x1, .int 0, .int (v_Co - 1)]) (rest := []) (wc := []) ⟨hx, hb, hml, hown, hts⟩ (cn_X6_within l D cI cB x1 0 (v_Co - 1) _ h) (va_cwS 3 hts gX6_part_X6_within rfl rfl rfl (by decide +kernel) ⟨Nat.le_of_ble_eq_true rfl, Nat.le_of_ble_eq_true rfl⟩) hK (hP.sub [] rfl) rfl hl.1 rfl (Nat.le_of_ble_eq_true rfl) ⟨Nat.zero_le _, Nat.zero_le _⟩ dX6_part_8 (fun r1 h => ?_)
  obtain ⟨br1, h⟩ := h
  refine lv_if_eq (tgt := 23) hx hb dX6_part_11 (by decide) (fun c2 => ?_) (fun c2 => ?_)
  · have h := h.1 c2
    refine lv_bipush (v := (-2)) hx hb dX6_part_23 (by decide) ?_
    exact W.iret (v := (-2)) hx hb hr (fun t ht hW => ⟨(-2), rfl, h, ht⟩) (fun _ h => by cases h) dX6_part_25
  · have h := h.2 c2
    refine lv_iload_n hx hb dX6_part_14 rfl (lv_at hl 2 rfl) ?_
    refine lv_iconst (v := 0) hx hb dX6_part_15 (by decide) ?_
    refine lv_iconst (v := 2) hx hb dX6_part_16 (by decide) ?_
    refine tm_rS (As := [.int x2, .int 0, .int 2]) (rest := []) (wc := []) ⟨hx, hb, hml, hown, hts⟩ (cn_X6_within l D cI cB x2 0 2 _ h) (va_cwS 3 hts gX6_part_X6_within rfl rfl rfl (by decide +kernel) ⟨Nat.le_of_ble_eq_true rfl, Nat.le_of_ble_eq_true rfl⟩) hK (hP.sub [] rfl) rfl hl.1 rfl (Nat.le_of_ble_eq_true rfl) ⟨Nat.zero_le _, Nat.zero_le _⟩ dX6_part_17 (fun r3 h => ?_)
    obtain ⟨br3, h⟩ := h
    refine lv_if_ne (tgt := 26) hx hb dX6_part_20 (by decide) (fun c4 => ?_) (fun c4 => ?_)
    · have h := h.2 c4
      refine lv_iload_n hx hb dX6_part_26 rfl (lv_at hl 2 rfl) ?_
      refine lv_if_ne (tgt := 39) hx hb dX6_part_27 (by decide) (fun c5 => ?_) (fun c5 => ?_)
      · have h := h.2 c5
        refine lv_iload_n hx hb dX6_part_39 rfl (lv_at hl 2 rfl) ?_
        refine lv_iconst (v := 1) hx hb dX6_part_40 (by decide) ?_
        refine lv_icmp_ne (tgt := 53) hx hb dX6_part_41 (by decide) (fun c6 => ?_) (fun c6 => ?_)
        · have h := h.2 c6
          refine lv_aload_n hx hb dX6_part_53 rfl (lv_at hl 0 rfl) ?_
          refine va_get (D := D) (ci := 6) (v := .ref a_Ri) (C := RX6) (T := TX6) (N := 11) hx hb hts in_X6_part_X6 hown hK.1 hP 0 rfl rfl 5 (by decide) (hts (.fieldLink RX6 22 "TreeMachinesModel" "rightOf" "[I") (by decide +kernel)) (fun _ h9 => h9) rfl dX6_part_54 ?_
          refine lv_iload_n hx hb dX6_part_57 rfl (lv_at hl 1 rfl) ?_
          obtain ⟨b7, h⟩ := h
          refine va_iald hx hb hK.1 hP 2 0 rfl rfl b7 dX6_part_58 ?_
          exact W.iret (v := (v_Ri (x1).toNatClampNeg)) hx hb hr (fun t ht hW => ⟨(v_Ri (x1).toNatClampNeg), rfl, h, ht⟩) (fun _ h => by cases h) dX6_part_59
        · have h := h.1 c6
          refine lv_aload_n hx hb dX6_part_44 rfl (lv_at hl 0 rfl) ?_
          refine va_get (D := D) (ci := 6) (v := .ref a_Le) (C := RX6) (T := TX6) (N := 11) hx hb hts in_X6_part_X6 hown hK.1 hP 0 rfl rfl 4 (by decide) (hts (.fieldLink RX6 19 "TreeMachinesModel" "leftOf" "[I") (by decide +kernel)) (fun _ h9 => h9) rfl dX6_part_45 ?_
          refine lv_iload_n hx hb dX6_part_48 rfl (lv_at hl 1 rfl) ?_
          obtain ⟨b8, h⟩ := h
          refine va_iald hx hb hK.1 hP 1 0 rfl rfl b8 dX6_part_49 ?_
          refine lv_goto (tgt := 59) hx hb dX6_part_50 (by decide) ?_
          exact W.iret (v := (v_Le (x1).toNatClampNeg)) hx hb hr (fun t ht hW => ⟨(v_Le (x1).toNatClampNeg), rfl, h, ht⟩) (fun _ h => by cases h) dX6_part_59
      · have h := h.1 c5
        refine lv_aload_n hx hb dX6_part_30 rfl (lv_at hl 0 rfl) ?_
        refine va_get (D := D) (ci := 6) (v := .ref a_Sy) (C := RX6) (T := TX6) (N := 11) hx hb hts in_X6_part_X6 hown hK.1 hP 0 rfl rfl 3 (by decide) (hts (.fieldLink RX6 16 "TreeMachinesModel" "symbolOf" "[I") (by decide +kernel)) (fun _ h9 => h9) rfl dX6_part_31 ?_
        refine lv_iload_n hx hb dX6_part_34 rfl (lv_at hl 1 rfl) ?_
        obtain ⟨b9, h⟩ := h
        refine va_iald hx hb hK.1 hP 3 0 rfl rfl b9 dX6_part_35 ?_
        refine lv_goto (tgt := 59) hx hb dX6_part_36 (by decide) ?_
        exact W.iret (v := (v_Sy (x1).toNatClampNeg)) hx hb hr (fun t ht hW => ⟨(v_Sy (x1).toNatClampNeg), rfl, h, ht⟩) (fun _ h => by cases h) dX6_part_59
    · have h := h.1 c4
      refine lv_bipush (v := (-2)) hx hb dX6_part_23 (by decide) ?_
      exact W.iret (v := (-2)) hx hb hr (fun t ht hW => ⟨(-2), rfl, h, ht⟩) (fun _ h => by cases h) dX6_part_25
abbrev wp_X6_part (v_Co : Int32) (v_Le : Nat → Int32) (v_Ri : Nat → Int32) (v_Sy : Nat → Int32) (x1 : Int32) (x2 : Int32) (Q : Int32 → Prop) : Prop := wp_X6_part_in v_Co v_Le v_Ri v_Sy Q x1 x2
set_option maxRecDepth 100000 in
set_option maxHeartbeats 4000000 in
theorem cn_X6_part (l : Launch) (D : va_G) (cI cB : ClassId) (a_o a_To a_Go a_Sy a_Le a_Ri a_Ln a_Wr a_Tr a_Mn a_Sk : Nat) (v_Co : Int32) (v_Le : Nat → Int32) (v_Ri : Nat → Int32) (v_Sy : Nat → Int32) (x1 : Int32) (x2 : Int32) (Q : Int32 → Prop) (h : wp_X6_part v_Co v_Le v_Ri v_Sy x1 x2 Q) : Met l yX6_part wsX6_part rm_X6_part (tm_Pr D cI cB [.ref a_o, .int x1, .int x2] [(a_o, .inr (6, [.ref a_To, .ref a_Go, .int v_Co, .ref a_Sy, .ref a_Le, .ref a_Ri, .ref a_Ln, .ref a_Wr, .ref a_Tr, .ref a_Mn, .ref a_Sk])), (a_Le, .inl (cI, 200, .inl v_Le)), (a_Ri, .inl (cI, 200, .inl v_Ri)), (a_Sy, .inl (cI, 200, .inl v_Sy))]) (vp_Si Q) 0 0 (fun _ => False) := by
  refine Met.ofW (cc := cX6_part) (maxL := 3) (ret := (some .int)) (by decide) rfl ?_
  intro p e s m args below meth c s₁ B hml hv
  obtain ⟨rfl, hP, hK⟩ := hv
  have hl := lv_entry ([.ref a_o, .int x1, .int x2]) (n := 3) (Nat.le_of_ble_eq_true rfl)
  rw [lg_entry_eq]
  generalize (lg_sl ([.ref a_o, .int x1, .int x2]) ++ List.replicate (3 - (lg_sl ([.ref a_o, .int x1, .int x2])).length) Slot.unset).toArray = ls at hl ⊢
  have hl : lv_has ls 3 [(0, .ref a_o), (1, .int x1), (2, .int x2)] := hl
  exact bk_X6_part_in ⟨B.exec, B.bytes, B.returns, hml, findClass_of_methodNamed B.named, atoms_spec (ws := wsX6_part) B.pre, B.notSynchronized⟩ hK x1 x2 h hP ls hl
/-! X6_over (IIII)I -/
theorem in_X6_over_X6 : ∀ w ∈ u_ws RX6 TX6 11, w ∈ wsX6_over := by decide +kernel
abbrev rm_X6_over : Room := { frames := 0, cells := 0, slots := 0, locals := 0 }
def wp_X6_over_15 (v_Co : Int32) (v_To : Nat → Int32) (K6 : Int32 → Int32 → Int32 → Int32 → Int32 → Int32 → Prop) (K15 : Int32 → Int32 → Int32 → Int32 → Int32 → Int32 → Int32 → Prop) (Q : Int32 → Prop) (x1 : Int32) (x2 : Int32) (x3 : Int32) (x4 : Int32) (x5 : Int32) (x6 : Int32) (x7 : Int32) : Prop :=
  ((4 ≤ x7 → ∀ x6_3 : Int32, x6_3 = x6 + 1 → K6 x1 x2 x3 x4 x5 x6_3) ∧ (¬ (4 ≤ x7) → ((((x3 >>> (x6 &&& 31)) &&& 1) = 1 → ((((x4 >>> (x7 &&& 31)) &&& 1) = 1 → vp_in (((((128 : Int32) * x1) + ((16 : Int32) * x2)) + ((4 : Int32) * x6)) + x7) 256 ∧ ∀ x5_9 : Int32, x5_9 = (x5 ||| (v_To ((((((128 : Int32) * x1) + ((16 : Int32) * x2)) + ((4 : Int32) * x6)) + x7)).toNatClampNeg)) → ∀ x7_10 : Int32, x7_10 = x7 + 1 → K15 x1 x2 x3 x4 x5_9 x6 x7_10) ∧ (¬ (((x4 >>> (x7 &&& 31)) &&& 1) = 1) → ∀ x7_7 : Int32, x7_7 = x7 + 1 → K15 x1 x2 x3 x4 x5 x6 x7_7))) ∧ (¬ (((x3 >>> (x6 &&& 31)) &&& 1) = 1) → ∀ x7_5 : Int32, x7_5 = x7 + 1 → K15 x1 x2 x3 x4 x5 x6 x7_5))))
set_option maxRecDepth 100000 in
set_option maxHeartbeats 4000000 in
theorem bk_X6_over_15 {p : Program} {l : Launch} {e : Env} {s : State} {m : MethodId} {args : Array Value} {below : List Frame} {meth : Method} {c : Code} {D : va_G} {cI cB : ClassId} {a_o a_To a_Go a_Sy a_Le a_Ri a_Ln a_Wr a_Tr a_Mn a_Sk : Nat} {v_Co : Int32} {v_To : Nat → Int32} {Q : Int32 → Prop} (C : tm_cx p s m args meth c cX6_over 8 (some .int) RX6 wsX6_over) (hK : tm_kx D cI cB s) {K6 : Int32 → Int32 → Int32 → Int32 → Int32 → Int32 → Prop} (k6 : ∀ (x1 : Int32) (x2 : Int32) (x3 : Int32) (x4 : Int32) (x5 : Int32) (x6 : Int32), K6 x1 x2 x3 x4 x5 x6 → va_P D vwCl [(a_o, .inr (6, [.ref a_To, .ref a_Go, .int v_Co, .ref a_Sy, .ref a_Le, .ref a_Ri, .ref a_Ln, .ref a_Wr, .ref a_Tr, .ref a_Mn, .ref a_Sk])), (a_To, .inl (cI, 256, .inl v_To))] s.heap → ∀ (ls : Array Slot), lv_has ls 8 [(0, .ref a_o), (1, .int x1), (2, .int x2), (3, .int x3), (4, .int x4), (5, .int x5), (6, .int x6)] → W p l e (headSpec wsX6_over rm_X6_over).room s m args below meth c s.heap [] 0 0 (MQ below (vp_Si Q) args s 0 0 (fun _ => False)) (F0 m 6 ls [])) {K15 : Int32 → Int32 → Int32 → Int32 → Int32 → Int32 → Int32 → Prop} (k15 : ∀ (x1 : Int32) (x2 : Int32) (x3 : Int32) (x4 : Int32) (x5 : Int32) (x6 : Int32) (x7 : Int32), K15 x1 x2 x3 x4 x5 x6 x7 → va_P D vwCl [(a_o, .inr (6, [.ref a_To, .ref a_Go, .int v_Co, .ref a_Sy, .ref a_Le, .ref a_Ri, .ref a_Ln, .ref a_Wr, .ref a_Tr, .ref a_Mn, .ref a_Sk])), (a_To, .inl (cI, 256, .inl v_To))] s.heap → ∀ (ls : Array Slot), lv_has ls 8 [(0, .ref a_o), (1, .int x1), (2, .int x2), (3, .int x3), (4, .int x4), (5, .int x5), (6, .int x6), (7, .int x7)] → W p l e (headSpec wsX6_over rm_X6_over).room s m args below meth c s.heap [] 0 0 (MQ below (vp_Si Q) args s 0 0 (fun _ => False)) (F0 m 15 ls [])) (x1 : Int32) (x2 : Int32) (x3 : Int32) (x4 : Int32) (x5 : Int32) (x6 : Int32) (x7 : Int32) (h : wp_X6_over_15 v_Co v_To K6 K15 Q x1 x2 x3 x4 x5 x6 x7) : va_P D vwCl [(a_o, .inr (6, [.ref a_To, .ref a_Go, .int v_Co, .ref a_Sy, .ref a_Le, .ref a_Ri, .ref a_Ln, .ref a_Wr, .ref a_Tr, .ref a_Mn, .ref a_Sk])), (a_To, .inl (cI, 256, .inl v_To))] s.heap → ∀ (ls : Array Slot), lv_has ls 8 [(0, .ref a_o), (1, .int x1), (2, .int x2), (3, .int x3), (4, .int x4), (5, .int x5), (6, .int x6), (7, .int x7)] → W p l e (headSpec wsX6_over rm_X6_over).room s m args below meth c s.heap [] 0 0 (MQ below (vp_Si Q) args s 0 0 (fun _ => False)) (F0 m 15 ls []) := by
  obtain ⟨hx, hb, hr, hml, hown, hts, hlocks⟩ := id C
  intro hP ls hl
  unfold wp_X6_over_15 at h
  refine lv_iload hx hb dX6_over_15 (lv_at hl 7 rfl) ?_
  refine lv_iconst (v := 4) hx hb dX6_over_17 (by decide) ?_
  refine lv_icmp_ge (tgt := 76) hx hb dX6_over_18 (by decide) (fun c2 => ?_) (fun c2 => ?_)
  · have h := h.1 c2
    obtain ⟨x6_3, ex6_3⟩ : ∃ y : Int32, y = x6 + 1 := ⟨_, rfl⟩
    have h := h x6_3 ex6_3
    refine lv_iinc (v := x6_3) (lv' := [(6, .int x6_3), (0, .ref a_o), (1, .int x1), (2, .int x2), (3, .int x3), (4, .int x4), (5, .int x5), (7, .int x7)]) hx hb dX6_over_76 hl (k := 6) rfl (by rw [ex6_3]; rfl) (by decide) rfl (fun ls hl => ?_)
    refine lv_goto (tgt := 6) hx hb dX6_over_79 (by decide) ?_
    exact k6 x1 x2 x3 x4 x5 x6_3 h hP ls (lv_sub hl [1, 2, 3, 4, 5, 6, 0] rfl)
  · have h := h.2 c2
    refine lv_iload_n hx hb dX6_over_21 rfl (lv_at hl 3 rfl) ?_
    refine lv_iload hx hb dX6_over_22 (lv_at hl 6 rfl) ?_
    refine lv_ishr hx hb dX6_over_24 ?_
    refine lv_iconst (v := 1) hx hb dX6_over_25 (by decide) ?_
    refine lv_iand (x := (x3 >>> (x6 &&& 31))) (y := 1) hx hb dX6_over_26 ?_
    refine lv_iconst (v := 1) hx hb dX6_over_27 (by decide) ?_
    refine lv_icmp_ne (tgt := 70) hx hb dX6_over_28 (by decide) (fun c4 => ?_) (fun c4 => ?_)
    · have h := h.2 c4
      obtain ⟨x7_5, ex7_5⟩ : ∃ y : Int32, y = x7 + 1 := ⟨_, rfl⟩
      have h := h x7_5 ex7_5
      refine lv_iinc (v := x7_5) (lv' := [(7, .int x7_5), (0, .ref a_o), (1, .int x1), (2, .int x2), (3, .int x3), (4, .int x4), (5, .int x5), (6, .int x6)]) hx hb dX6_over_70 hl (k := 7) rfl (by rw [ex7_5]; rfl) (by decide) rfl (fun ls hl => ?_)
      refine lv_goto (tgt := 15) hx hb dX6_over_73 (by decide) ?_
      exact k15 x1 x2 x3 x4 x5 x6 x7_5 h hP ls (lv_sub hl [1, 2, 3, 4, 5, 6, 7, 0] rfl)
    · have h := h.1 c4
      refine lv_iload hx hb dX6_over_31 (lv_at hl 4 rfl) ?_
      refine lv_iload hx hb dX6_over_33 (lv_at hl 7 rfl) ?_
      refine lv_ishr hx hb dX6_over_35 ?_
      refine lv_iconst (v := 1) hx hb dX6_over_36 (by decide) ?_
      refine lv_iand (x := (x4 >>> (x7 &&& 31))) (y := 1) hx hb dX6_over_37 ?_
      refine lv_iconst (v := 1) hx hb dX6_over_38 (by decide) ?_
      refine lv_icmp_ne (tgt := 70) hx hb dX6_over_39 (by decide) (fun c6 => ?_) (fun c6 => ?_)
      · have h := h.2 c6
        obtain ⟨x7_7, ex7_7⟩ : ∃ y : Int32, y = x7 + 1 := ⟨_, rfl⟩
        have h := h x7_7 ex7_7
        refine lv_iinc (v := x7_7) (lv' := [(7, .int x7_7), (0, .ref a_o), (1, .int x1), (2, .int x2), (3, .int x3), (4, .int x4), (5, .int x5), (6, .int x6)]) hx hb dX6_over_70 hl (k := 7) rfl (by rw [ex7_7]; rfl) (by decide) rfl (fun ls hl => ?_)
        refine lv_goto (tgt := 15) hx hb dX6_over_73 (by decide) ?_
        exact k15 x1 x2 x3 x4 x5 x6 x7_7 h hP ls (lv_sub hl [1, 2, 3, 4, 5, 6, 7, 0] rfl)
      · have h := h.1 c6
        refine lv_iload hx hb dX6_over_42 (lv_at hl 5 rfl) ?_
        refine lv_aload_n hx hb dX6_over_44 rfl (lv_at hl 0 rfl) ?_
        refine va_get (D := D) (ci := 6) (v := .ref a_To) (C := RX6) (T := TX6) (N := 11) hx hb hts in_X6_over_X6 hown hK.1 hP 0 rfl rfl 0 (by decide) (hts (.fieldLink RX6 7 "TreeMachinesModel" "to" "[I") (by decide +kernel)) (fun _ h9 => h9) rfl dX6_over_45 ?_
        refine lv_sipush (v := 128) hx hb dX6_over_48 (by decide) ?_
        refine lv_iload_n hx hb dX6_over_51 rfl (lv_at hl 1 rfl) ?_
        refine lv_imul (x := 128) (y := x1) hx hb dX6_over_52 ?_
        refine lv_bipush (v := 16) hx hb dX6_over_53 (by decide) ?_
        refine lv_iload_n hx hb dX6_over_55 rfl (lv_at hl 2 rfl) ?_
        refine lv_imul (x := 16) (y := x2) hx hb dX6_over_56 ?_
        refine lv_iadd hx hb dX6_over_57 ?_
        refine lv_iconst (v := 4) hx hb dX6_over_58 (by decide) ?_
        refine lv_iload hx hb dX6_over_59 (lv_at hl 6 rfl) ?_
        refine lv_imul (x := 4) (y := x6) hx hb dX6_over_61 ?_
        refine lv_iadd hx hb dX6_over_62 ?_
        refine lv_iload hx hb dX6_over_63 (lv_at hl 7 rfl) ?_
        refine lv_iadd hx hb dX6_over_65 ?_
        obtain ⟨b8, h⟩ := h
        refine va_iald hx hb hK.1 hP 1 0 rfl rfl b8 dX6_over_66 ?_
        refine lv_ior hx hb dX6_over_67 ?_
        refine lv_topi (fun x5_9 ex5_9 => ?_)
        have h := h x5_9 ex5_9
        refine lv_istore (lv' := [(5, .int x5_9), (0, .ref a_o), (1, .int x1), (2, .int x2), (3, .int x3), (4, .int x4), (6, .int x6), (7, .int x7)]) hx hb dX6_over_68 hl (by decide) rfl (fun ls hl => ?_)
        obtain ⟨x7_10, ex7_10⟩ : ∃ y : Int32, y = x7 + 1 := ⟨_, rfl⟩
        have h := h x7_10 ex7_10
        refine lv_iinc (v := x7_10) (lv' := [(7, .int x7_10), (5, .int x5_9), (0, .ref a_o), (1, .int x1), (2, .int x2), (3, .int x3), (4, .int x4), (6, .int x6)]) hx hb dX6_over_70 hl (k := 7) rfl (by rw [ex7_10]; rfl) (by decide) rfl (fun ls hl => ?_)
        refine lv_goto (tgt := 15) hx hb dX6_over_73 (by decide) ?_
        exact k15 x1 x2 x3 x4 x5_9 x6 x7_10 h hP ls (lv_sub hl [2, 3, 4, 5, 6, 1, 7, 0] rfl)
def lp_X6_over_15 (v_Co : Int32) (v_To : Nat → Int32) (K6 : Int32 → Int32 → Int32 → Int32 → Int32 → Int32 → Prop) (Q : Int32 → Prop) : Nat → Int32 → Int32 → Int32 → Int32 → Int32 → Int32 → Int32 → Prop
  | 0, _, _, _, _, _, _, _ => False
  | n + 1, x1, x2, x3, x4, x5, x6, x7 => wp_X6_over_15 v_Co v_To K6 (lp_X6_over_15 v_Co v_To K6 Q n) Q x1 x2 x3 x4 x5 x6 x7
set_option maxRecDepth 100000 in
theorem lt_X6_over_15 {p : Program} {l : Launch} {e : Env} {s : State} {m : MethodId} {args : Array Value} {below : List Frame} {meth : Method} {c : Code} {D : va_G} {cI cB : ClassId} {a_o a_To a_Go a_Sy a_Le a_Ri a_Ln a_Wr a_Tr a_Mn a_Sk : Nat} {v_Co : Int32} {v_To : Nat → Int32} {Q : Int32 → Prop} (C : tm_cx p s m args meth c cX6_over 8 (some .int) RX6 wsX6_over) (hK : tm_kx D cI cB s) {K6 : Int32 → Int32 → Int32 → Int32 → Int32 → Int32 → Prop} (k6 : ∀ (x1 : Int32) (x2 : Int32) (x3 : Int32) (x4 : Int32) (x5 : Int32) (x6 : Int32), K6 x1 x2 x3 x4 x5 x6 → va_P D vwCl [(a_o, .inr (6, [.ref a_To, .ref a_Go, .int v_Co, .ref a_Sy, .ref a_Le, .ref a_Ri, .ref a_Ln, .ref a_Wr, .ref a_Tr, .ref a_Mn, .ref a_Sk])), (a_To, .inl (cI, 256, .inl v_To))] s.heap → ∀ (ls : Array Slot), lv_has ls 8 [(0, .ref a_o), (1, .int x1), (2, .int x2), (3, .int x3), (4, .int x4), (5, .int x5), (6, .int x6)] → W p l e (headSpec wsX6_over rm_X6_over).room s m args below meth c s.heap [] 0 0 (MQ below (vp_Si Q) args s 0 0 (fun _ => False)) (F0 m 6 ls [])) : ∀ (n : Nat) (x1 : Int32) (x2 : Int32) (x3 : Int32) (x4 : Int32) (x5 : Int32) (x6 : Int32) (x7 : Int32), lp_X6_over_15 v_Co v_To K6 Q n x1 x2 x3 x4 x5 x6 x7 → va_P D vwCl [(a_o, .inr (6, [.ref a_To, .ref a_Go, .int v_Co, .ref a_Sy, .ref a_Le, .ref a_Ri, .ref a_Ln, .ref a_Wr, .ref a_Tr, .ref a_Mn, .ref a_Sk])), (a_To, .inl (cI, 256, .inl v_To))] s.heap → ∀ (ls : Array Slot), lv_has ls 8 [(0, .ref a_o), (1, .int x1), (2, .int x2), (3, .int x3), (4, .int x4), (5, .int x5), (6, .int x6), (7, .int x7)] → W p l e (headSpec wsX6_over rm_X6_over).room s m args below meth c s.heap [] 0 0 (MQ below (vp_Si Q) args s 0 0 (fun _ => False)) (F0 m 15 ls []) := by
  intro n
  induction n with
  | zero => intro _ _ _ _ _ _ _ h; exact False.elim h
  | succ n ih => intro x1 x2 x3 x4 x5 x6 x7 h; exact bk_X6_over_15 C hK k6 ih x1 x2 x3 x4 x5 x6 x7 h
def wp_X6_over_6 (v_Co : Int32) (v_To : Nat → Int32) (K6 : Int32 → Int32 → Int32 → Int32 → Int32 → Int32 → Prop) (Q : Int32 → Prop) (x1 : Int32) (x2 : Int32) (x3 : Int32) (x4 : Int32) (x5 : Int32) (x6 : Int32) : Prop :=
  ((4 ≤ x6 → Q x5) ∧ (¬ (4 ≤ x6) → (∃ n : Nat, lp_X6_over_15 v_Co v_To K6 Q n x1 x2 x3 x4 x5 x6 0)))
set_option maxRecDepth 100000 in
set_option maxHeartbeats 4000000 in
theorem bk_X6_over_6 {p : Program} {l : Launch} {e : Env} {s : State} {m : MethodId} {args : Array Value} {below : List Frame} {meth : Method} {c : Code} {D : va_G} {cI cB : ClassId} {a_o a_To a_Go a_Sy a_Le a_Ri a_Ln a_Wr a_Tr a_Mn a_Sk : Nat} {v_Co : Int32} {v_To : Nat → Int32} {Q : Int32 → Prop} (C : tm_cx p s m args meth c cX6_over 8 (some .int) RX6 wsX6_over) (hK : tm_kx D cI cB s) {K6 : Int32 → Int32 → Int32 → Int32 → Int32 → Int32 → Prop} (k6 : ∀ (x1 : Int32) (x2 : Int32) (x3 : Int32) (x4 : Int32) (x5 : Int32) (x6 : Int32), K6 x1 x2 x3 x4 x5 x6 → va_P D vwCl [(a_o, .inr (6, [.ref a_To, .ref a_Go, .int v_Co, .ref a_Sy, .ref a_Le, .ref a_Ri, .ref a_Ln, .ref a_Wr, .ref a_Tr, .ref a_Mn, .ref a_Sk])), (a_To, .inl (cI, 256, .inl v_To))] s.heap → ∀ (ls : Array Slot), lv_has ls 8 [(0, .ref a_o), (1, .int x1), (2, .int x2), (3, .int x3), (4, .int x4), (5, .int x5), (6, .int x6)] → W p l e (headSpec wsX6_over rm_X6_over).room s m args below meth c s.heap [] 0 0 (MQ below (vp_Si Q) args s 0 0 (fun _ => False)) (F0 m 6 ls [])) (x1 : Int32) (x2 : Int32) (x3 : Int32) (x4 : Int32) (x5 : Int32) (x6 : Int32) (h : wp_X6_over_6 v_Co v_To K6 Q x1 x2 x3 x4 x5 x6) : va_P D vwCl [(a_o, .inr (6, [.ref a_To, .ref a_Go, .int v_Co, .ref a_Sy, .ref a_Le, .ref a_Ri, .ref a_Ln, .ref a_Wr, .ref a_Tr, .ref a_Mn, .ref a_Sk])), (a_To, .inl (cI, 256, .inl v_To))] s.heap → ∀ (ls : Array Slot), lv_has ls 8 [(0, .ref a_o), (1, .int x1), (2, .int x2), (3, .int x3), (4, .int x4), (5, .int x5), (6, .int x6)] → W p l e (headSpec wsX6_over rm_X6_over).room s m args below meth c s.heap [] 0 0 (MQ below (vp_Si Q) args s 0 0 (fun _ => False)) (F0 m 6 ls []) := by
  obtain ⟨hx, hb, hr, hml, hown, hts, hlocks⟩ := id C
  intro hP ls hl
  unfold wp_X6_over_6 at h
  refine lv_iload hx hb dX6_over_6 (lv_at hl 6 rfl) ?_
  refine lv_iconst (v := 4) hx hb dX6_over_8 (by decide) ?_
  refine lv_icmp_ge (tgt := 82) hx hb dX6_over_9 (by decide) (fun c1 => ?_) (fun c1 => ?_)
  · have h := h.1 c1
    refine lv_iload hx hb dX6_over_82 (lv_at hl 5 rfl) ?_
    exact W.iret (v := x5) hx hb hr (fun t ht hW => ⟨x5, rfl, h, ht⟩) (fun _ h => by cases h) dX6_over_84
  · have h := h.2 c1
    refine lv_iconst (v := 0) hx hb dX6_over_12 (by decide) ?_
    refine lv_istore (lv' := [(7, .int 0), (0, .ref a_o), (1, .int x1), (2, .int x2), (3, .int x3), (4, .int x4), (5, .int x5), (6, .int x6)]) hx hb dX6_over_13 hl (by decide) rfl (fun ls hl => ?_)
    obtain ⟨n, h⟩ := h
    exact lt_X6_over_15 C hK k6 n x1 x2 x3 x4 x5 x6 0 h hP ls (lv_sub hl [1, 2, 3, 4, 5, 6, 7, 0] rfl)
def lp_X6_over_6 (v_Co : Int32) (v_To : Nat → Int32) (Q : Int32 → Prop) : Nat → Int32 → Int32 → Int32 → Int32 → Int32 → Int32 → Prop
  | 0, _, _, _, _, _, _ => False
  | n + 1, x1, x2, x3, x4, x5, x6 => wp_X6_over_6 v_Co v_To (lp_X6_over_6 v_Co v_To Q n) Q x1 x2 x3 x4 x5 x6
set_option maxRecDepth 100000 in
theorem lt_X6_over_6 {p : Program} {l : Launch} {e : Env} {s : State} {m : MethodId} {args : Array Value} {below : List Frame} {meth : Method} {c : Code} {D : va_G} {cI cB : ClassId} {a_o a_To a_Go a_Sy a_Le a_Ri a_Ln a_Wr a_Tr a_Mn a_Sk : Nat} {v_Co : Int32} {v_To : Nat → Int32} {Q : Int32 → Prop} (C : tm_cx p s m args meth c cX6_over 8 (some .int) RX6 wsX6_over) (hK : tm_kx D cI cB s) : ∀ (n : Nat) (x1 : Int32) (x2 : Int32) (x3 : Int32) (x4 : Int32) (x5 : Int32) (x6 : Int32), lp_X6_over_6 v_Co v_To Q n x1 x2 x3 x4 x5 x6 → va_P D vwCl [(a_o, .inr (6, [.ref a_To, .ref a_Go, .int v_Co, .ref a_Sy, .ref a_Le, .ref a_Ri, .ref a_Ln, .ref a_Wr, .ref a_Tr, .ref a_Mn, .ref a_Sk])), (a_To, .inl (cI, 256, .inl v_To))] s.heap → ∀ (ls : Array Slot), lv_has ls 8 [(0, .ref a_o), (1, .int x1), (2, .int x2), (3, .int x3), (4, .int x4), (5, .int x5), (6, .int x6)] → W p l e (headSpec wsX6_over rm_X6_over).room s m args below meth c s.heap [] 0 0 (MQ below (vp_Si Q) args s 0 0 (fun _ => False)) (F0 m 6 ls []) := by
  intro n
  induction n with
  | zero => intro _ _ _ _ _ _ h; exact False.elim h
  | succ n ih => intro x1 x2 x3 x4 x5 x6 h; exact bk_X6_over_6 C hK ih x1 x2 x3 x4 x5 x6 h
def wp_X6_over_in (v_Co : Int32) (v_To : Nat → Int32) (Q : Int32 → Prop) (x1 : Int32) (x2 : Int32) (x3 : Int32) (x4 : Int32) : Prop :=
  (∃ n : Nat, lp_X6_over_6 v_Co v_To Q n x1 x2 x3 x4 0 0)
set_option maxRecDepth 100000 in
set_option maxHeartbeats 4000000 in
theorem bk_X6_over_in {p : Program} {l : Launch} {e : Env} {s : State} {m : MethodId} {args : Array Value} {below : List Frame} {meth : Method} {c : Code} {D : va_G} {cI cB : ClassId} {a_o a_To a_Go a_Sy a_Le a_Ri a_Ln a_Wr a_Tr a_Mn a_Sk : Nat} {v_Co : Int32} {v_To : Nat → Int32} {Q : Int32 → Prop} (C : tm_cx p s m args meth c cX6_over 8 (some .int) RX6 wsX6_over) (hK : tm_kx D cI cB s) (x1 : Int32) (x2 : Int32) (x3 : Int32) (x4 : Int32) (h : wp_X6_over_in v_Co v_To Q x1 x2 x3 x4) : va_P D vwCl [(a_o, .inr (6, [.ref a_To, .ref a_Go, .int v_Co, .ref a_Sy, .ref a_Le, .ref a_Ri, .ref a_Ln, .ref a_Wr, .ref a_Tr, .ref a_Mn, .ref a_Sk])), (a_To, .inl (cI, 256, .inl v_To))] s.heap → ∀ (ls : Array Slot), lv_has ls 8 [(0, .ref a_o), (1, .int x1), (2, .int x2), (3, .int x3), (4, .int x4)] → W p l e (headSpec wsX6_over rm_X6_over).room s m args below meth c s.heap [] 0 0 (MQ below (vp_Si Q) args s 0 0 (fun _ => False)) (F0 m 0 ls []) := by
  obtain ⟨hx, hb, hr, hml, hown, hts, hlocks⟩ := id C
  intro hP ls hl
  unfold wp_X6_over_in at h
  refine lv_iconst (v := 0) hx hb dX6_over_0 (by decide) ?_
  refine lv_istore (lv' := [(5, .int 0), (0, .ref a_o), (1, .int x1), (2, .int x2), (3, .int x3), (4, .int x4)]) hx hb dX6_over_1 hl (by decide) rfl (fun ls hl => ?_)
  refine lv_iconst (v := 0) hx hb dX6_over_3 (by decide) ?_
  refine lv_istore (lv' := [(6, .int 0), (5, .int 0), (0, .ref a_o), (1, .int x1), (2, .int x2), (3, .int x3), (4, .int x4)]) hx hb dX6_over_4 hl (by decide) rfl (fun ls hl => ?_)
  obtain ⟨n, h⟩ := h
  exact lt_X6_over_6 C hK n x1 x2 x3 x4 0 0 h hP ls (lv_sub hl [2, 3, 4, 5, 6, 1, 0] rfl)
abbrev wp_X6_over (v_Co : Int32) (v_To : Nat → Int32) (x1 : Int32) (x2 : Int32) (x3 : Int32) (x4 : Int32) (Q : Int32 → Prop) : Prop := wp_X6_over_in v_Co v_To Q x1 x2 x3 x4
set_option maxRecDepth 100000 in
set_option maxHeartbeats 4000000 in
theorem cn_X6_over (l : Launch) (D : va_G) (cI cB : ClassId) (a_o a_To a_Go a_Sy a_Le a_Ri a_Ln a_Wr a_Tr a_Mn a_Sk : Nat) (v_Co : Int32) (v_To : Nat → Int32) (x1 : Int32) (x2 : Int32) (x3 : Int32) (x4 : Int32) (Q : Int32 → Prop) (h : wp_X6_over v_Co v_To x1 x2 x3 x4 Q) : Met l yX6_over wsX6_over rm_X6_over (tm_Pr D cI cB [.ref a_o, .int x1, .int x2, .int x3, .int x4] [(a_o, .inr (6, [.ref a_To, .ref a_Go, .int v_Co, .ref a_Sy, .ref a_Le, .ref a_Ri, .ref a_Ln, .ref a_Wr, .ref a_Tr, .ref a_Mn, .ref a_Sk])), (a_To, .inl (cI, 256, .inl v_To))]) (vp_Si Q) 0 0 (fun _ => False) := by
  refine Met.ofW (cc := cX6_over) (maxL := 8) (ret := (some .int)) (by decide) rfl ?_
  intro p e s m args below meth c s₁ B hml hv
  obtain ⟨rfl, hP, hK⟩ := hv
  have hl := lv_entry ([.ref a_o, .int x1, .int x2, .int x3, .int x4]) (n := 8) (Nat.le_of_ble_eq_true rfl)
  rw [lg_entry_eq]
  generalize (lg_sl ([.ref a_o, .int x1, .int x2, .int x3, .int x4]) ++ List.replicate (8 - (lg_sl ([.ref a_o, .int x1, .int x2, .int x3, .int x4])).length) Slot.unset).toArray = ls at hl ⊢
  have hl : lv_has ls 8 [(0, .ref a_o), (1, .int x1), (2, .int x2), (3, .int x3), (4, .int x4)] := hl
  exact bk_X6_over_in ⟨B.exec, B.bytes, B.returns, hml, findClass_of_methodNamed B.named, atoms_spec (ws := wsX6_over) B.pre, B.notSynchronized⟩ hK x1 x2 x3 x4 h hP ls hl
/-! X6_reach (II)I -/
theorem in_X6_reach_X6 : ∀ w ∈ u_ws RX6 TX6 11, w ∈ wsX6_reach := by decide +kernel
abbrev rm_X6_reach : Room := { frames := 1, cells := 0, slots := 0, locals := 27 }
def wp_X6_reach_57 (v_Co : Int32) (v_Le : Nat → Int32) (v_Ri : Nat → Int32) (v_Sy : Nat → Int32) (v_To : Nat → Int32) (K2 : (Nat → Int32) → Int32 → Int32 → Int32 → Prop) (Q : Int32 → (Nat → Int32) → Prop) (v_Mn : Nat → Int32) (z0 : Int32) (x1 : Int32) (x2 : Int32) (x3 : Int32) (x4 : Int32) : Prop :=
  vp_in x3 200 ∧ wp_X6_over v_Co v_To x1 (v_Sy (x3).toNatClampNeg) x4 z0 (fun r12 => vp_in x3 3328 ∧ ∀ f_14 : Nat → Int32, f_14 = upd v_Mn (x3).toNatClampNeg r12 → ∀ x3_15 : Int32, x3_15 = x3 + 1 → K2 f_14 x1 x2 x3_15)
set_option maxRecDepth 100000 in
set_option maxHeartbeats 4000000 in
theorem bk_X6_reach_57 {p : Program} {l : Launch} {e : Env} {s : State} {m : MethodId} {args : Array Value} {below : List Frame} {meth : Method} {c : Code} {D : va_G} {cI cB : ClassId} {a_o a_To a_Go a_Sy a_Le a_Ri a_Ln a_Wr a_Tr a_Mn a_Sk : Nat} {A : Nat → Prop} {v_Co : Int32} {v_Le : Nat → Int32} {v_Ri : Nat → Int32} {v_Sy : Nat → Int32} {v_To : Nat → Int32} {Q : Int32 → (Nat → Int32) → Prop} (C : tm_cx p s m args meth c cX6_reach 6 (some .int) RX6 wsX6_reach) (hK : tm_kx D cI cB s) (hA : ∀ q : Nat, s.heap.size ≤ q → A q) {K2 : (Nat → Int32) → Int32 → Int32 → Int32 → Prop} (k2 : ∀ (v_Mn : Nat → Int32) (x1 : Int32) (x2 : Int32) (x3 : Int32), K2 v_Mn x1 x2 x3 → ∀ (H : Heap) (locs : List Loc), va_P D vwCl [(a_o, .inr (6, [.ref a_To, .ref a_Go, .int v_Co, .ref a_Sy, .ref a_Le, .ref a_Ri, .ref a_Ln, .ref a_Wr, .ref a_Tr, .ref a_Mn, .ref a_Sk])), (a_Le, .inl (cI, 200, .inl v_Le)), (a_Mn, .inl (cI, 3328, .inl v_Mn)), (a_Ri, .inl (cI, 200, .inl v_Ri)), (a_Sy, .inl (cI, 200, .inl v_Sy)), (a_To, .inl (cI, 256, .inl v_To))] H → va_D A [(a_o, .inr (6, [.ref a_To, .ref a_Go, .int v_Co, .ref a_Sy, .ref a_Le, .ref a_Ri, .ref a_Ln, .ref a_Wr, .ref a_Tr, .ref a_Mn, .ref a_Sk])), (a_Le, .inl (cI, 200, .inl v_Le)), (a_Mn, .inl (cI, 3328, .inl v_Mn)), (a_Ri, .inl (cI, 200, .inl v_Ri)), (a_Sy, .inl (cI, 200, .inl v_Sy)), (a_To, .inl (cI, 256, .inl v_To))] → va_S A s.heap H locs → ∀ (ls : Array Slot), lv_has ls 6 [(0, .ref a_o), (1, .int x1), (2, .int x2), (3, .int x3)] → W p l e (headSpec wsX6_reach rm_X6_reach).room s m args below meth c H locs 0 0 (MQ below (va_Qi (fun (r : Int32) (u : (Nat → Int32)) => Q r u) (tm_B D (fun (u : (Nat → Int32)) => [(a_o, .inr (6, [.ref a_To, .ref a_Go, .int v_Co, .ref a_Sy, .ref a_Le, .ref a_Ri, .ref a_Ln, .ref a_Wr, .ref a_Tr, .ref a_Mn, .ref a_Sk])), (a_Le, .inl (cI, 200, .inl v_Le)), (a_Mn, .inl (cI, 3328, .inl u)), (a_Ri, .inl (cI, 200, .inl v_Ri)), (a_Sy, .inl (cI, 200, .inl v_Sy)), (a_To, .inl (cI, 256, .inl v_To))]) A) A) args s 0 0 A) (F0 m 2 ls [])) (v_Mn : Nat → Int32) (z0 : Int32) (x1 : Int32) (x2 : Int32) (x3 : Int32) (x4 : Int32) (h : wp_X6_reach_57 v_Co v_Le v_Ri v_Sy v_To K2 Q v_Mn z0 x1 x2 x3 x4) : ∀ (H : Heap) (locs : List Loc), va_P D vwCl [(a_o, .inr (6, [.ref a_To, .ref a_Go, .int v_Co, .ref a_Sy, .ref a_Le, .ref a_Ri, .ref a_Ln, .ref a_Wr, .ref a_Tr, .ref a_Mn, .ref a_Sk])), (a_Le, .inl (cI, 200, .inl v_Le)), (a_Mn, .inl (cI, 3328, .inl v_Mn)), (a_Ri, .inl (cI, 200, .inl v_Ri)), (a_Sy, .inl (cI, 200, .inl v_Sy)), (a_To, .inl (cI, 256, .inl v_To))] H → va_D A [(a_o, .inr (6, [.ref a_To, .ref a_Go, .int v_Co, .ref a_Sy, .ref a_Le, .ref a_Ri, .ref a_Ln, .ref a_Wr, .ref a_Tr, .ref a_Mn, .ref a_Sk])), (a_Le, .inl (cI, 200, .inl v_Le)), (a_Mn, .inl (cI, 3328, .inl v_Mn)), (a_Ri, .inl (cI, 200, .inl v_Ri)), (a_Sy, .inl (cI, 200, .inl v_Sy)), (a_To, .inl (cI, 256, .inl v_To))] → va_S A s.heap H locs → ∀ (ls : Array Slot), lv_has ls 6 [(0, .ref a_o), (1, .int x1), (2, .int x2), (3, .int x3), (4, .int x4)] → W p l e (headSpec wsX6_reach rm_X6_reach).room s m args below meth c H locs 0 0 (MQ below (va_Qi (fun (r : Int32) (u : (Nat → Int32)) => Q r u) (tm_B D (fun (u : (Nat → Int32)) => [(a_o, .inr (6, [.ref a_To, .ref a_Go, .int v_Co, .ref a_Sy, .ref a_Le, .ref a_Ri, .ref a_Ln, .ref a_Wr, .ref a_Tr, .ref a_Mn, .ref a_Sk])), (a_Le, .inl (cI, 200, .inl v_Le)), (a_Mn, .inl (cI, 3328, .inl u)), (a_Ri, .inl (cI, 200, .inl v_Ri)), (a_Sy, .inl (cI, 200, .inl v_Sy)), (a_To, .inl (cI, 256, .inl v_To))]) A) A) args s 0 0 A) (F0 m 57 ls [.int z0]) := by
  obtain ⟨hx, hb, hr, hml, hown, hts, hlocks⟩ := id C
  intro H locs hP hD hS ls hl
  unfold wp_X6_reach_57 at h
  refine lv_istore (lv' := [(5, .int z0), (0, .ref a_o), (1, .int x1), (2, .int x2), (3, .int x3), (4, .int x4)]) hx hb dX6_reach_57 hl (by decide) rfl (fun ls hl => ?_)
  refine lv_aload_n hx hb dX6_reach_59 rfl (lv_at hl 1 rfl) ?_
  refine va_get (D := D) (ci := 6) (v := .ref a_Mn) (C := RX6) (T := TX6) (N := 11) hx hb hts in_X6_reach_X6 hown hK.1 hP 0 rfl rfl 9 (by decide) (hts (.fieldLink RX6 35 "TreeMachinesModel" "many" "[I") (by decide +kernel)) (fun _ h9 => h9) rfl dX6_reach_60 ?_
  refine lv_iload_n hx hb dX6_reach_63 rfl (lv_at hl 4 rfl) ?_
  refine lv_aload_n hx hb dX6_reach_64 rfl (lv_at hl 1 rfl) ?_
  refine lv_iload_n hx hb dX6_reach_65 rfl (lv_at hl 2 rfl) ?_
  refine lv_aload_n hx hb dX6_reach_66 rfl (lv_at hl 1 rfl) ?_
  refine va_get (D := D) (ci := 6) (v := .ref a_Sy) (C := RX6) (T := TX6) (N := 11) hx hb hts in_X6_reach_X6 hown hK.1 hP 0 rfl rfl 3 (by decide) (hts (.fieldLink RX6 16 "TreeMachinesModel" "symbolOf" "[I") (by decide +kernel)) (fun _ h9 => h9) rfl dX6_reach_67 ?_
  refine lv_iload_n hx hb dX6_reach_70 rfl (lv_at hl 4 rfl) ?_
  obtain ⟨b11, h⟩ := h
  refine va_iald hx hb hK.1 hP 4 0 rfl rfl b11 dX6_reach_71 ?_
  refine lv_iload hx hb dX6_reach_72 (lv_at hl 5 rfl) ?_
  refine lv_iload hx hb dX6_reach_74 (lv_at hl 0 rfl) ?_
  refine tm_rV (As := [.int x1, .int (v_Sy (x3).toNatClampNeg), .int x4, .int z0]) (rest := [.int x3, .ref a_Mn]) (wc := [(a_o, .inr (6, [.ref a_To, .ref a_Go, .int v_Co, .ref a_Sy, .ref a_Le, .ref a_Ri, .ref a_Ln, .ref a_Wr, .ref a_Tr, .ref a_Mn, .ref a_Sk])), (a_To, .inl (cI, 256, .inl v_To))]) ⟨hx, hb, hml, hown, hts⟩ (cn_X6_over l D cI cB a_o a_To a_Go a_Sy a_Le a_Ri a_Ln a_Wr a_Tr a_Mn a_Sk v_Co v_To x1 (v_Sy (x3).toNatClampNeg) x4 z0 _ h) (cwV 4 hts gX6_reach_X6_over rfl rfl rfl (by decide +kernel) ⟨Nat.le_of_ble_eq_true rfl, Nat.le_of_ble_eq_true rfl⟩) hK (hP.sub [0, 5] rfl) (va_recv hK.1 hP (ci := 6) (q0 := 0) rfl rfl) rfl hl.1 rfl (Nat.le_of_ble_eq_true rfl) ⟨Nat.zero_le _, Nat.zero_le _⟩ dX6_reach_76 (fun r12 h => ?_)
  obtain ⟨b13, h⟩ := h
  refine va_iast hx hb hK.1 hP hD hS 2 0 rfl rfl b13 dX6_reach_79 (fun H locs hP hD hS => ?_)
  obtain ⟨f_14, ef_14⟩ : ∃ y : Nat → Int32, y = upd v_Mn (x3).toNatClampNeg r12 := ⟨_, rfl⟩
  have h := h f_14 ef_14
  have hP : va_P D vwCl [(a_o, .inr (6, [.ref a_To, .ref a_Go, .int v_Co, .ref a_Sy, .ref a_Le, .ref a_Ri, .ref a_Ln, .ref a_Wr, .ref a_Tr, .ref a_Mn, .ref a_Sk])), (a_Le, .inl (cI, 200, .inl v_Le)), (a_Mn, .inl (cI, 3328, .inl f_14)), (a_Ri, .inl (cI, 200, .inl v_Ri)), (a_Sy, .inl (cI, 200, .inl v_Sy)), (a_To, .inl (cI, 256, .inl v_To))] H := by rw [ef_14]; exact hP
  have hD : va_D A [(a_o, .inr (6, [.ref a_To, .ref a_Go, .int v_Co, .ref a_Sy, .ref a_Le, .ref a_Ri, .ref a_Ln, .ref a_Wr, .ref a_Tr, .ref a_Mn, .ref a_Sk])), (a_Le, .inl (cI, 200, .inl v_Le)), (a_Mn, .inl (cI, 3328, .inl f_14)), (a_Ri, .inl (cI, 200, .inl v_Ri)), (a_Sy, .inl (cI, 200, .inl v_Sy)), (a_To, .inl (cI, 256, .inl v_To))] := by rw [ef_14]; exact hD
  obtain ⟨x3_15, ex3_15⟩ : ∃ y : Int32, y = x3 + 1 := ⟨_, rfl⟩
  have h := h x3_15 ex3_15
  refine lv_iinc (v := x3_15) (lv' := [(3, .int x3_15), (5, .int z0), (0, .ref a_o), (1, .int x1), (2, .int x2), (4, .int x4)]) hx hb dX6_reach_80 hl (k := 4) rfl (by rw [ex3_15]; rfl) (by decide) rfl (fun ls hl => ?_)
  refine lv_goto (tgt := 2) hx hb dX6_reach_83 (by decide) ?_
  exact k2 f_14 x1 x2 x3_15 h H locs hP hD hS ls (lv_sub hl [2, 3, 4, 0] rfl)
def wp_X6_reach_31 (v_Co : Int32) (v_Le : Nat → Int32) (v_Ri : Nat → Int32) (v_Sy : Nat → Int32) (v_To : Nat → Int32) (K2 : (Nat → Int32) → Int32 → Int32 → Int32 → Prop) (Q : Int32 → (Nat → Int32) → Prop) (v_Mn : Nat → Int32) (z0 : Int32) (x1 : Int32) (x2 : Int32) (x3 : Int32) : Prop :=
  vp_in x3 200 ∧ ((0 ≤ (v_Ri (x3).toNatClampNeg) → vp_in x3 200 ∧ vp_in (v_Ri (x3).toNatClampNeg) 3328 ∧ wp_X6_reach_57 v_Co v_Le v_Ri v_Sy v_To K2 Q v_Mn (v_Mn ((v_Ri (x3).toNatClampNeg)).toNatClampNeg) x1 x2 x3 z0) ∧ (¬ (0 ≤ (v_Ri (x3).toNatClampNeg)) → wp_X6_reach_57 v_Co v_Le v_Ri v_Sy v_To K2 Q v_Mn 1 x1 x2 x3 z0))
set_option maxRecDepth 100000 in
set_option maxHeartbeats 4000000 in
theorem bk_X6_reach_31 {p : Program} {l : Launch} {e : Env} {s : State} {m : MethodId} {args : Array Value} {below : List Frame} {meth : Method} {c : Code} {D : va_G} {cI cB : ClassId} {a_o a_To a_Go a_Sy a_Le a_Ri a_Ln a_Wr a_Tr a_Mn a_Sk : Nat} {A : Nat → Prop} {v_Co : Int32} {v_Le : Nat → Int32} {v_Ri : Nat → Int32} {v_Sy : Nat → Int32} {v_To : Nat → Int32} {Q : Int32 → (Nat → Int32) → Prop} (C : tm_cx p s m args meth c cX6_reach 6 (some .int) RX6 wsX6_reach) (hK : tm_kx D cI cB s) (hA : ∀ q : Nat, s.heap.size ≤ q → A q) {K2 : (Nat → Int32) → Int32 → Int32 → Int32 → Prop} (k2 : ∀ (v_Mn : Nat → Int32) (x1 : Int32) (x2 : Int32) (x3 : Int32), K2 v_Mn x1 x2 x3 → ∀ (H : Heap) (locs : List Loc), va_P D vwCl [(a_o, .inr (6, [.ref a_To, .ref a_Go, .int v_Co, .ref a_Sy, .ref a_Le, .ref a_Ri, .ref a_Ln, .ref a_Wr, .ref a_Tr, .ref a_Mn, .ref a_Sk])), (a_Le, .inl (cI, 200, .inl v_Le)), (a_Mn, .inl (cI, 3328, .inl v_Mn)), (a_Ri, .inl (cI, 200, .inl v_Ri)), (a_Sy, .inl (cI, 200, .inl v_Sy)), (a_To, .inl (cI, 256, .inl v_To))] H → va_D A [(a_o, .inr (6, [.ref a_To, .ref a_Go, .int v_Co, .ref a_Sy, .ref a_Le, .ref a_Ri, .ref a_Ln, .ref a_Wr, .ref a_Tr, .ref a_Mn, .ref a_Sk])), (a_Le, .inl (cI, 200, .inl v_Le)), (a_Mn, .inl (cI, 3328, .inl v_Mn)), (a_Ri, .inl (cI, 200, .inl v_Ri)), (a_Sy, .inl (cI, 200, .inl v_Sy)), (a_To, .inl (cI, 256, .inl v_To))] → va_S A s.heap H locs → ∀ (ls : Array Slot), lv_has ls 6 [(0, .ref a_o), (1, .int x1), (2, .int x2), (3, .int x3)] → W p l e (headSpec wsX6_reach rm_X6_reach).room s m args below meth c H locs 0 0 (MQ below (va_Qi (fun (r : Int32) (u : (Nat → Int32)) => Q r u) (tm_B D (fun (u : (Nat → Int32)) => [(a_o, .inr (6, [.ref a_To, .ref a_Go, .int v_Co, .ref a_Sy, .ref a_Le, .ref a_Ri, .ref a_Ln, .ref a_Wr, .ref a_Tr, .ref a_Mn, .ref a_Sk])), (a_Le, .inl (cI, 200, .inl v_Le)), (a_Mn, .inl (cI, 3328, .inl u)), (a_Ri, .inl (cI, 200, .inl v_Ri)), (a_Sy, .inl (cI, 200, .inl v_Sy)), (a_To, .inl (cI, 256, .inl v_To))]) A) A) args s 0 0 A) (F0 m 2 ls [])) (v_Mn : Nat → Int32) (z0 : Int32) (x1 : Int32) (x2 : Int32) (x3 : Int32) (h : wp_X6_reach_31 v_Co v_Le v_Ri v_Sy v_To K2 Q v_Mn z0 x1 x2 x3) : ∀ (H : Heap) (locs : List Loc), va_P D vwCl [(a_o, .inr (6, [.ref a_To, .ref a_Go, .int v_Co, .ref a_Sy, .ref a_Le, .ref a_Ri, .ref a_Ln, .ref a_Wr, .ref a_Tr, .ref a_Mn, .ref a_Sk])), (a_Le, .inl (cI, 200, .inl v_Le)), (a_Mn, .inl (cI, 3328, .inl v_Mn)), (a_Ri, .inl (cI, 200, .inl v_Ri)), (a_Sy, .inl (cI, 200, .inl v_Sy)), (a_To, .inl (cI, 256, .inl v_To))] H → va_D A [(a_o, .inr (6, [.ref a_To, .ref a_Go, .int v_Co, .ref a_Sy, .ref a_Le, .ref a_Ri, .ref a_Ln, .ref a_Wr, .ref a_Tr, .ref a_Mn, .ref a_Sk])), (a_Le, .inl (cI, 200, .inl v_Le)), (a_Mn, .inl (cI, 3328, .inl v_Mn)), (a_Ri, .inl (cI, 200, .inl v_Ri)), (a_Sy, .inl (cI, 200, .inl v_Sy)), (a_To, .inl (cI, 256, .inl v_To))] → va_S A s.heap H locs → ∀ (ls : Array Slot), lv_has ls 6 [(0, .ref a_o), (1, .int x1), (2, .int x2), (3, .int x3)] → W p l e (headSpec wsX6_reach rm_X6_reach).room s m args below meth c H locs 0 0 (MQ below (va_Qi (fun (r : Int32) (u : (Nat → Int32)) => Q r u) (tm_B D (fun (u : (Nat → Int32)) => [(a_o, .inr (6, [.ref a_To, .ref a_Go, .int v_Co, .ref a_Sy, .ref a_Le, .ref a_Ri, .ref a_Ln, .ref a_Wr, .ref a_Tr, .ref a_Mn, .ref a_Sk])), (a_Le, .inl (cI, 200, .inl v_Le)), (a_Mn, .inl (cI, 3328, .inl u)), (a_Ri, .inl (cI, 200, .inl v_Ri)), (a_Sy, .inl (cI, 200, .inl v_Sy)), (a_To, .inl (cI, 256, .inl v_To))]) A) A) args s 0 0 A) (F0 m 31 ls [.int z0]) := by
  obtain ⟨hx, hb, hr, hml, hown, hts, hlocks⟩ := id C
  intro H locs hP hD hS ls hl
  unfold wp_X6_reach_31 at h
  refine lv_istore (lv' := [(4, .int z0), (0, .ref a_o), (1, .int x1), (2, .int x2), (3, .int x3)]) hx hb dX6_reach_31 hl (by decide) rfl (fun ls hl => ?_)
  refine lv_aload_n hx hb dX6_reach_33 rfl (lv_at hl 1 rfl) ?_
  refine va_get (D := D) (ci := 6) (v := .ref a_Ri) (C := RX6) (T := TX6) (N := 11) hx hb hts in_X6_reach_X6 hown hK.1 hP 0 rfl rfl 5 (by decide) (hts (.fieldLink RX6 22 "TreeMachinesModel" "rightOf" "[I") (by decide +kernel)) (fun _ h9 => h9) rfl dX6_reach_34 ?_
  refine lv_iload_n hx hb dX6_reach_37 rfl (lv_at hl 4 rfl) ?_
  obtain ⟨b7, h⟩ := h
  refine va_iald hx hb hK.1 hP 3 0 rfl rfl b7 dX6_reach_38 ?_
  refine lv_if_ge (tgt := 46) hx hb dX6_reach_39 (by decide) (fun c8 => ?_) (fun c8 => ?_)
  · have h := h.1 c8
    refine lv_aload_n hx hb dX6_reach_46 rfl (lv_at hl 1 rfl) ?_
    refine va_get (D := D) (ci := 6) (v := .ref a_Mn) (C := RX6) (T := TX6) (N := 11) hx hb hts in_X6_reach_X6 hown hK.1 hP 0 rfl rfl 9 (by decide) (hts (.fieldLink RX6 35 "TreeMachinesModel" "many" "[I") (by decide +kernel)) (fun _ h9 => h9) rfl dX6_reach_47 ?_
    refine lv_aload_n hx hb dX6_reach_50 rfl (lv_at hl 1 rfl) ?_
    refine va_get (D := D) (ci := 6) (v := .ref a_Ri) (C := RX6) (T := TX6) (N := 11) hx hb hts in_X6_reach_X6 hown hK.1 hP 0 rfl rfl 5 (by decide) (hts (.fieldLink RX6 22 "TreeMachinesModel" "rightOf" "[I") (by decide +kernel)) (fun _ h9 => h9) rfl dX6_reach_51 ?_
    refine lv_iload_n hx hb dX6_reach_54 rfl (lv_at hl 4 rfl) ?_
    obtain ⟨b9, h⟩ := h
    refine va_iald hx hb hK.1 hP 3 0 rfl rfl b9 dX6_reach_55 ?_
    obtain ⟨b10, h⟩ := h
    refine va_iald hx hb hK.1 hP 2 0 rfl rfl b10 dX6_reach_56 ?_
    exact bk_X6_reach_57 C hK hA k2 v_Mn (v_Mn ((v_Ri (x3).toNatClampNeg)).toNatClampNeg) x1 x2 x3 z0 h H locs hP hD hS ls (lv_sub hl [1, 2, 3, 4, 0] rfl)
  · have h := h.2 c8
    refine lv_iconst (v := 1) hx hb dX6_reach_42 (by decide) ?_
    refine lv_goto (tgt := 57) hx hb dX6_reach_43 (by decide) ?_
    exact bk_X6_reach_57 C hK hA k2 v_Mn 1 x1 x2 x3 z0 h H locs hP hD hS ls (lv_sub hl [1, 2, 3, 4, 0] rfl)
def wp_X6_reach_2 (v_Co : Int32) (v_Le : Nat → Int32) (v_Ri : Nat → Int32) (v_Sy : Nat → Int32) (v_To : Nat → Int32) (K2 : (Nat → Int32) → Int32 → Int32 → Int32 → Prop) (Q : Int32 → (Nat → Int32) → Prop) (v_Mn : Nat → Int32) (x1 : Int32) (x2 : Int32) (x3 : Int32) : Prop :=
  ((x2 < x3 → vp_in x2 3328 ∧ Q (v_Mn (x2).toNatClampNeg) v_Mn) ∧ (¬ (x2 < x3) → vp_in x3 200 ∧ ((0 ≤ (v_Le (x3).toNatClampNeg) → vp_in x3 200 ∧ vp_in (v_Le (x3).toNatClampNeg) 3328 ∧ wp_X6_reach_31 v_Co v_Le v_Ri v_Sy v_To K2 Q v_Mn (v_Mn ((v_Le (x3).toNatClampNeg)).toNatClampNeg) x1 x2 x3) ∧ (¬ (0 ≤ (v_Le (x3).toNatClampNeg)) → wp_X6_reach_31 v_Co v_Le v_Ri v_Sy v_To K2 Q v_Mn 1 x1 x2 x3))))
set_option maxRecDepth 100000 in
set_option maxHeartbeats 4000000 in
theorem bk_X6_reach_2 {p : Program} {l : Launch} {e : Env} {s : State} {m : MethodId} {args : Array Value} {below : List Frame} {meth : Method} {c : Code} {D : va_G} {cI cB : ClassId} {a_o a_To a_Go a_Sy a_Le a_Ri a_Ln a_Wr a_Tr a_Mn a_Sk : Nat} {A : Nat → Prop} {v_Co : Int32} {v_Le : Nat → Int32} {v_Ri : Nat → Int32} {v_Sy : Nat → Int32} {v_To : Nat → Int32} {Q : Int32 → (Nat → Int32) → Prop} (C : tm_cx p s m args meth c cX6_reach 6 (some .int) RX6 wsX6_reach) (hK : tm_kx D cI cB s) (hA : ∀ q : Nat, s.heap.size ≤ q → A q) {K2 : (Nat → Int32) → Int32 → Int32 → Int32 → Prop} (k2 : ∀ (v_Mn : Nat → Int32) (x1 : Int32) (x2 : Int32) (x3 : Int32), K2 v_Mn x1 x2 x3 → ∀ (H : Heap) (locs : List Loc), va_P D vwCl [(a_o, .inr (6, [.ref a_To, .ref a_Go, .int v_Co, .ref a_Sy, .ref a_Le, .ref a_Ri, .ref a_Ln, .ref a_Wr, .ref a_Tr, .ref a_Mn, .ref a_Sk])), (a_Le, .inl (cI, 200, .inl v_Le)), (a_Mn, .inl (cI, 3328, .inl v_Mn)), (a_Ri, .inl (cI, 200, .inl v_Ri)), (a_Sy, .inl (cI, 200, .inl v_Sy)), (a_To, .inl (cI, 256, .inl v_To))] H → va_D A [(a_o, .inr (6, [.ref a_To, .ref a_Go, .int v_Co, .ref a_Sy, .ref a_Le, .ref a_Ri, .ref a_Ln, .ref a_Wr, .ref a_Tr, .ref a_Mn, .ref a_Sk])), (a_Le, .inl (cI, 200, .inl v_Le)), (a_Mn, .inl (cI, 3328, .inl v_Mn)), (a_Ri, .inl (cI, 200, .inl v_Ri)), (a_Sy, .inl (cI, 200, .inl v_Sy)), (a_To, .inl (cI, 256, .inl v_To))] → va_S A s.heap H locs → ∀ (ls : Array Slot), lv_has ls 6 [(0, .ref a_o), (1, .int x1), (2, .int x2), (3, .int x3)] → W p l e (headSpec wsX6_reach rm_X6_reach).room s m args below meth c H locs 0 0 (MQ below (va_Qi (fun (r : Int32) (u : (Nat → Int32)) => Q r u) (tm_B D (fun (u : (Nat → Int32)) => [(a_o, .inr (6, [.ref a_To, .ref a_Go, .int v_Co, .ref a_Sy, .ref a_Le, .ref a_Ri, .ref a_Ln, .ref a_Wr, .ref a_Tr, .ref a_Mn, .ref a_Sk])), (a_Le, .inl (cI, 200, .inl v_Le)), (a_Mn, .inl (cI, 3328, .inl u)), (a_Ri, .inl (cI, 200, .inl v_Ri)), (a_Sy, .inl (cI, 200, .inl v_Sy)), (a_To, .inl (cI, 256, .inl v_To))]) A) A) args s 0 0 A) (F0 m 2 ls [])) (v_Mn : Nat → Int32) (x1 : Int32) (x2 : Int32) (x3 : Int32) (h : wp_X6_reach_2 v_Co v_Le v_Ri v_Sy v_To K2 Q v_Mn x1 x2 x3) : ∀ (H : Heap) (locs : List Loc), va_P D vwCl [(a_o, .inr (6, [.ref a_To, .ref a_Go, .int v_Co, .ref a_Sy, .ref a_Le, .ref a_Ri, .ref a_Ln, .ref a_Wr, .ref a_Tr, .ref a_Mn, .ref a_Sk])), (a_Le, .inl (cI, 200, .inl v_Le)), (a_Mn, .inl (cI, 3328, .inl v_Mn)), (a_Ri, .inl (cI, 200, .inl v_Ri)), (a_Sy, .inl (cI, 200, .inl v_Sy)), (a_To, .inl (cI, 256, .inl v_To))] H → va_D A [(a_o, .inr (6, [.ref a_To, .ref a_Go, .int v_Co, .ref a_Sy, .ref a_Le, .ref a_Ri, .ref a_Ln, .ref a_Wr, .ref a_Tr, .ref a_Mn, .ref a_Sk])), (a_Le, .inl (cI, 200, .inl v_Le)), (a_Mn, .inl (cI, 3328, .inl v_Mn)), (a_Ri, .inl (cI, 200, .inl v_Ri)), (a_Sy, .inl (cI, 200, .inl v_Sy)), (a_To, .inl (cI, 256, .inl v_To))] → va_S A s.heap H locs → ∀ (ls : Array Slot), lv_has ls 6 [(0, .ref a_o), (1, .int x1), (2, .int x2), (3, .int x3)] → W p l e (headSpec wsX6_reach rm_X6_reach).room s m args below meth c H locs 0 0 (MQ below (va_Qi (fun (r : Int32) (u : (Nat → Int32)) => Q r u) (tm_B D (fun (u : (Nat → Int32)) => [(a_o, .inr (6, [.ref a_To, .ref a_Go, .int v_Co, .ref a_Sy, .ref a_Le, .ref a_Ri, .ref a_Ln, .ref a_Wr, .ref a_Tr, .ref a_Mn, .ref a_Sk])), (a_Le, .inl (cI, 200, .inl v_Le)), (a_Mn, .inl (cI, 3328, .inl u)), (a_Ri, .inl (cI, 200, .inl v_Ri)), (a_Sy, .inl (cI, 200, .inl v_Sy)), (a_To, .inl (cI, 256, .inl v_To))]) A) A) args s 0 0 A) (F0 m 2 ls []) := by
  obtain ⟨hx, hb, hr, hml, hown, hts, hlocks⟩ := id C
  intro H locs hP hD hS ls hl
  unfold wp_X6_reach_2 at h
  refine lv_iload_n hx hb dX6_reach_2 rfl (lv_at hl 3 rfl) ?_
  refine lv_iload_n hx hb dX6_reach_3 rfl (lv_at hl 2 rfl) ?_
  refine lv_icmp_gt (tgt := 86) hx hb dX6_reach_4 (by decide) (fun c1 => ?_) (fun c1 => ?_)
  · have h := h.1 c1
    refine lv_aload_n hx hb dX6_reach_86 rfl (lv_at hl 0 rfl) ?_
    refine va_get (D := D) (ci := 6) (v := .ref a_Mn) (C := RX6) (T := TX6) (N := 11) hx hb hts in_X6_reach_X6 hown hK.1 hP 0 rfl rfl 9 (by decide) (hts (.fieldLink RX6 35 "TreeMachinesModel" "many" "[I") (by decide +kernel)) (fun _ h9 => h9) rfl dX6_reach_87 ?_
    refine lv_iload_n hx hb dX6_reach_90 rfl (lv_at hl 2 rfl) ?_
    obtain ⟨b2, h⟩ := h
    refine va_iald hx hb hK.1 hP 2 0 rfl rfl b2 dX6_reach_91 ?_
    exact W.iret (v := (v_Mn (x2).toNatClampNeg)) hx hb hr (fun t ht hW => ⟨⟨(v_Mn (x2).toNatClampNeg), v_Mn, rfl, h, by rw [ht]; exact hP, hD⟩, hS.F ht⟩) hS.2.2 dX6_reach_92
  · have h := h.2 c1
    refine lv_aload_n hx hb dX6_reach_7 rfl (lv_at hl 0 rfl) ?_
    refine va_get (D := D) (ci := 6) (v := .ref a_Le) (C := RX6) (T := TX6) (N := 11) hx hb hts in_X6_reach_X6 hown hK.1 hP 0 rfl rfl 4 (by decide) (hts (.fieldLink RX6 19 "TreeMachinesModel" "leftOf" "[I") (by decide +kernel)) (fun _ h9 => h9) rfl dX6_reach_8 ?_
    refine lv_iload_n hx hb dX6_reach_11 rfl (lv_at hl 3 rfl) ?_
    obtain ⟨b3, h⟩ := h
    refine va_iald hx hb hK.1 hP 1 0 rfl rfl b3 dX6_reach_12 ?_
    refine lv_if_ge (tgt := 20) hx hb dX6_reach_13 (by decide) (fun c4 => ?_) (fun c4 => ?_)
    · have h := h.1 c4
      refine lv_aload_n hx hb dX6_reach_20 rfl (lv_at hl 0 rfl) ?_
      refine va_get (D := D) (ci := 6) (v := .ref a_Mn) (C := RX6) (T := TX6) (N := 11) hx hb hts in_X6_reach_X6 hown hK.1 hP 0 rfl rfl 9 (by decide) (hts (.fieldLink RX6 35 "TreeMachinesModel" "many" "[I") (by decide +kernel)) (fun _ h9 => h9) rfl dX6_reach_21 ?_
      refine lv_aload_n hx hb dX6_reach_24 rfl (lv_at hl 0 rfl) ?_
      refine va_get (D := D) (ci := 6) (v := .ref a_Le) (C := RX6) (T := TX6) (N := 11) hx hb hts in_X6_reach_X6 hown hK.1 hP 0 rfl rfl 4 (by decide) (hts (.fieldLink RX6 19 "TreeMachinesModel" "leftOf" "[I") (by decide +kernel)) (fun _ h9 => h9) rfl dX6_reach_25 ?_
      refine lv_iload_n hx hb dX6_reach_28 rfl (lv_at hl 3 rfl) ?_
      obtain ⟨b5, h⟩ := h
      refine va_iald hx hb hK.1 hP 1 0 rfl rfl b5 dX6_reach_29 ?_
      obtain ⟨b6, h⟩ := h
      refine va_iald hx hb hK.1 hP 2 0 rfl rfl b6 dX6_reach_30 ?_
      exact bk_X6_reach_31 C hK hA k2 v_Mn (v_Mn ((v_Le (x3).toNatClampNeg)).toNatClampNeg) x1 x2 x3 h H locs hP hD hS ls (lv_sub hl [0, 1, 2, 3] rfl)
    · have h := h.2 c4
      refine lv_iconst (v := 1) hx hb dX6_reach_16 (by decide) ?_
      refine lv_goto (tgt := 31) hx hb dX6_reach_17 (by decide) ?_
      exact bk_X6_reach_31 C hK hA k2 v_Mn 1 x1 x2 x3 h H locs hP hD hS ls (lv_sub hl [0, 1, 2, 3] rfl)
def lp_X6_reach_2 (v_Co : Int32) (v_Le : Nat → Int32) (v_Ri : Nat → Int32) (v_Sy : Nat → Int32) (v_To : Nat → Int32) (Q : Int32 → (Nat → Int32) → Prop) : Nat → (Nat → Int32) → Int32 → Int32 → Int32 → Prop
  | 0, _, _, _, _ => False
  | n + 1, v_Mn, x1, x2, x3 => wp_X6_reach_2 v_Co v_Le v_Ri v_Sy v_To (lp_X6_reach_2 v_Co v_Le v_Ri v_Sy v_To Q n) Q v_Mn x1 x2 x3
set_option maxRecDepth 100000 in
theorem lt_X6_reach_2 {p : Program} {l : Launch} {e : Env} {s : State} {m : MethodId} {args : Array Value} {below : List Frame} {meth : Method} {c : Code} {D : va_G} {cI cB : ClassId} {a_o a_To a_Go a_Sy a_Le a_Ri a_Ln a_Wr a_Tr a_Mn a_Sk : Nat} {A : Nat → Prop} {v_Co : Int32} {v_Le : Nat → Int32} {v_Ri : Nat → Int32} {v_Sy : Nat → Int32} {v_To : Nat → Int32} {Q : Int32 → (Nat → Int32) → Prop} (C : tm_cx p s m args meth c cX6_reach 6 (some .int) RX6 wsX6_reach) (hK : tm_kx D cI cB s) (hA : ∀ q : Nat, s.heap.size ≤ q → A q) : ∀ (n : Nat) (v_Mn : Nat → Int32) (x1 : Int32) (x2 : Int32) (x3 : Int32), lp_X6_reach_2 v_Co v_Le v_Ri v_Sy v_To Q n v_Mn x1 x2 x3 → ∀ (H : Heap) (locs : List Loc), va_P D vwCl [(a_o, .inr (6, [.ref a_To, .ref a_Go, .int v_Co, .ref a_Sy, .ref a_Le, .ref a_Ri, .ref a_Ln, .ref a_Wr, .ref a_Tr, .ref a_Mn, .ref a_Sk])), (a_Le, .inl (cI, 200, .inl v_Le)), (a_Mn, .inl (cI, 3328, .inl v_Mn)), (a_Ri, .inl (cI, 200, .inl v_Ri)), (a_Sy, .inl (cI, 200, .inl v_Sy)), (a_To, .inl (cI, 256, .inl v_To))] H → va_D A [(a_o, .inr (6, [.ref a_To, .ref a_Go, .int v_Co, .ref a_Sy, .ref a_Le, .ref a_Ri, .ref a_Ln, .ref a_Wr, .ref a_Tr, .ref a_Mn, .ref a_Sk])), (a_Le, .inl (cI, 200, .inl v_Le)), (a_Mn, .inl (cI, 3328, .inl v_Mn)), (a_Ri, .inl (cI, 200, .inl v_Ri)), (a_Sy, .inl (cI, 200, .inl v_Sy)), (a_To, .inl (cI, 256, .inl v_To))] → va_S A s.heap H locs → ∀ (ls : Array Slot), lv_has ls 6 [(0, .ref a_o), (1, .int x1), (2, .int x2), (3, .int x3)] → W p l e (headSpec wsX6_reach rm_X6_reach).room s m args below meth c H locs 0 0 (MQ below (va_Qi (fun (r : Int32) (u : (Nat → Int32)) => Q r u) (tm_B D (fun (u : (Nat → Int32)) => [(a_o, .inr (6, [.ref a_To, .ref a_Go, .int v_Co, .ref a_Sy, .ref a_Le, .ref a_Ri, .ref a_Ln, .ref a_Wr, .ref a_Tr, .ref a_Mn, .ref a_Sk])), (a_Le, .inl (cI, 200, .inl v_Le)), (a_Mn, .inl (cI, 3328, .inl u)), (a_Ri, .inl (cI, 200, .inl v_Ri)), (a_Sy, .inl (cI, 200, .inl v_Sy)), (a_To, .inl (cI, 256, .inl v_To))]) A) A) args s 0 0 A) (F0 m 2 ls []) := by
  intro n
  induction n with
  | zero => intro _ _ _ _ h; exact False.elim h
  | succ n ih => intro v_Mn x1 x2 x3 h; exact bk_X6_reach_2 C hK hA ih v_Mn x1 x2 x3 h
def wp_X6_reach_in (v_Co : Int32) (v_Le : Nat → Int32) (v_Ri : Nat → Int32) (v_Sy : Nat → Int32) (v_To : Nat → Int32) (Q : Int32 → (Nat → Int32) → Prop) (v_Mn : Nat → Int32) (x1 : Int32) (x2 : Int32) : Prop :=
  (∃ n : Nat, lp_X6_reach_2 v_Co v_Le v_Ri v_Sy v_To Q n v_Mn x1 x2 0)
set_option maxRecDepth 100000 in
set_option maxHeartbeats 4000000 in
theorem bk_X6_reach_in {p : Program} {l : Launch} {e : Env} {s : State} {m : MethodId} {args : Array Value} {below : List Frame} {meth : Method} {c : Code} {D : va_G} {cI cB : ClassId} {a_o a_To a_Go a_Sy a_Le a_Ri a_Ln a_Wr a_Tr a_Mn a_Sk : Nat} {A : Nat → Prop} {v_Co : Int32} {v_Le : Nat → Int32} {v_Ri : Nat → Int32} {v_Sy : Nat → Int32} {v_To : Nat → Int32} {Q : Int32 → (Nat → Int32) → Prop} (C : tm_cx p s m args meth c cX6_reach 6 (some .int) RX6 wsX6_reach) (hK : tm_kx D cI cB s) (hA : ∀ q : Nat, s.heap.size ≤ q → A q) (v_Mn : Nat → Int32) (x1 : Int32) (x2 : Int32) (h : wp_X6_reach_in v_Co v_Le v_Ri v_Sy v_To Q v_Mn x1 x2) : ∀ (H : Heap) (locs : List Loc), va_P D vwCl [(a_o, .inr (6, [.ref a_To, .ref a_Go, .int v_Co, .ref a_Sy, .ref a_Le, .ref a_Ri, .ref a_Ln, .ref a_Wr, .ref a_Tr, .ref a_Mn, .ref a_Sk])), (a_Le, .inl (cI, 200, .inl v_Le)), (a_Mn, .inl (cI, 3328, .inl v_Mn)), (a_Ri, .inl (cI, 200, .inl v_Ri)), (a_Sy, .inl (cI, 200, .inl v_Sy)), (a_To, .inl (cI, 256, .inl v_To))] H → va_D A [(a_o, .inr (6, [.ref a_To, .ref a_Go, .int v_Co, .ref a_Sy, .ref a_Le, .ref a_Ri, .ref a_Ln, .ref a_Wr, .ref a_Tr, .ref a_Mn, .ref a_Sk])), (a_Le, .inl (cI, 200, .inl v_Le)), (a_Mn, .inl (cI, 3328, .inl v_Mn)), (a_Ri, .inl (cI, 200, .inl v_Ri)), (a_Sy, .inl (cI, 200, .inl v_Sy)), (a_To, .inl (cI, 256, .inl v_To))] → va_S A s.heap H locs → ∀ (ls : Array Slot), lv_has ls 6 [(0, .ref a_o), (1, .int x1), (2, .int x2)] → W p l e (headSpec wsX6_reach rm_X6_reach).room s m args below meth c H locs 0 0 (MQ below (va_Qi (fun (r : Int32) (u : (Nat → Int32)) => Q r u) (tm_B D (fun (u : (Nat → Int32)) => [(a_o, .inr (6, [.ref a_To, .ref a_Go, .int v_Co, .ref a_Sy, .ref a_Le, .ref a_Ri, .ref a_Ln, .ref a_Wr, .ref a_Tr, .ref a_Mn, .ref a_Sk])), (a_Le, .inl (cI, 200, .inl v_Le)), (a_Mn, .inl (cI, 3328, .inl u)), (a_Ri, .inl (cI, 200, .inl v_Ri)), (a_Sy, .inl (cI, 200, .inl v_Sy)), (a_To, .inl (cI, 256, .inl v_To))]) A) A) args s 0 0 A) (F0 m 0 ls []) := by
  obtain ⟨hx, hb, hr, hml, hown, hts, hlocks⟩ := id C
  intro H locs hP hD hS ls hl
  unfold wp_X6_reach_in at h
  refine lv_iconst (v := 0) hx hb dX6_reach_0 (by decide) ?_
  refine lv_istore_n (lv' := [(3, .int 0), (0, .ref a_o), (1, .int x1), (2, .int x2)]) hx hb dX6_reach_1 rfl hl (by decide) rfl (fun ls hl => ?_)
  obtain ⟨n, h⟩ := h
  exact lt_X6_reach_2 C hK hA n v_Mn x1 x2 0 h H locs hP hD hS ls (lv_sub hl [1, 2, 3, 0] rfl)
abbrev wp_X6_reach (v_Co : Int32) (v_Le : Nat → Int32) (v_Mn : Nat → Int32) (v_Ri : Nat → Int32) (v_Sy : Nat → Int32) (v_To : Nat → Int32) (x1 : Int32) (x2 : Int32) (Q : Int32 → (Nat → Int32) → Prop) : Prop := wp_X6_reach_in v_Co v_Le v_Ri v_Sy v_To Q v_Mn x1 x2
set_option maxRecDepth 100000 in
set_option maxHeartbeats 4000000 in
theorem cn_X6_reach (l : Launch) (D : va_G) (cI cB : ClassId) (a_o a_To a_Go a_Sy a_Le a_Ri a_Ln a_Wr a_Tr a_Mn a_Sk : Nat) (v_Co : Int32) (v_Le : Nat → Int32) (v_Mn : Nat → Int32) (v_Ri : Nat → Int32) (v_Sy : Nat → Int32) (v_To : Nat → Int32) (x1 : Int32) (x2 : Int32) (sz : Nat) (Q : Int32 → (Nat → Int32) → Prop) (h : wp_X6_reach v_Co v_Le v_Mn v_Ri v_Sy v_To x1 x2 Q) : Met l yX6_reach wsX6_reach rm_X6_reach (tm_Pw D cI cB [.ref a_o, .int x1, .int x2] [(a_o, .inr (6, [.ref a_To, .ref a_Go, .int v_Co, .ref a_Sy, .ref a_Le, .ref a_Ri, .ref a_Ln, .ref a_Wr, .ref a_Tr, .ref a_Mn, .ref a_Sk])), (a_Le, .inl (cI, 200, .inl v_Le)), (a_Mn, .inl (cI, 3328, .inl v_Mn)), (a_Ri, .inl (cI, 200, .inl v_Ri)), (a_Sy, .inl (cI, 200, .inl v_Sy)), (a_To, .inl (cI, 256, .inl v_To))] sz) (va_Qi (fun (r : Int32) (u : (Nat → Int32)) => Q r u) (tm_B D (fun (u : (Nat → Int32)) => [(a_o, .inr (6, [.ref a_To, .ref a_Go, .int v_Co, .ref a_Sy, .ref a_Le, .ref a_Ri, .ref a_Ln, .ref a_Wr, .ref a_Tr, .ref a_Mn, .ref a_Sk])), (a_Le, .inl (cI, 200, .inl v_Le)), (a_Mn, .inl (cI, 3328, .inl u)), (a_Ri, .inl (cI, 200, .inl v_Ri)), (a_Sy, .inl (cI, 200, .inl v_Sy)), (a_To, .inl (cI, 256, .inl v_To))]) (va_A [(a_o, .inr (6, [.ref a_To, .ref a_Go, .int v_Co, .ref a_Sy, .ref a_Le, .ref a_Ri, .ref a_Ln, .ref a_Wr, .ref a_Tr, .ref a_Mn, .ref a_Sk])), (a_Le, .inl (cI, 200, .inl v_Le)), (a_Mn, .inl (cI, 3328, .inl v_Mn)), (a_Ri, .inl (cI, 200, .inl v_Ri)), (a_Sy, .inl (cI, 200, .inl v_Sy)), (a_To, .inl (cI, 256, .inl v_To))] sz)) (va_A [(a_o, .inr (6, [.ref a_To, .ref a_Go, .int v_Co, .ref a_Sy, .ref a_Le, .ref a_Ri, .ref a_Ln, .ref a_Wr, .ref a_Tr, .ref a_Mn, .ref a_Sk])), (a_Le, .inl (cI, 200, .inl v_Le)), (a_Mn, .inl (cI, 3328, .inl v_Mn)), (a_Ri, .inl (cI, 200, .inl v_Ri)), (a_Sy, .inl (cI, 200, .inl v_Sy)), (a_To, .inl (cI, 256, .inl v_To))] sz)) 0 0 (va_A [(a_o, .inr (6, [.ref a_To, .ref a_Go, .int v_Co, .ref a_Sy, .ref a_Le, .ref a_Ri, .ref a_Ln, .ref a_Wr, .ref a_Tr, .ref a_Mn, .ref a_Sk])), (a_Le, .inl (cI, 200, .inl v_Le)), (a_Mn, .inl (cI, 3328, .inl v_Mn)), (a_Ri, .inl (cI, 200, .inl v_Ri)), (a_Sy, .inl (cI, 200, .inl v_Sy)), (a_To, .inl (cI, 256, .inl v_To))] sz) := by
  refine Met.ofW (cc := cX6_reach) (maxL := 6) (ret := (some .int)) (by decide) rfl ?_
  intro p e s m args below meth c s₁ B hml hv
  obtain ⟨rfl, hsz, hP, hK, hD0⟩ := hv
  subst hsz
  have hD := hD0.self (sz := s.heap.size)
  generalize hAe : va_A [(a_o, .inr (6, [.ref a_To, .ref a_Go, .int v_Co, .ref a_Sy, .ref a_Le, .ref a_Ri, .ref a_Ln, .ref a_Wr, .ref a_Tr, .ref a_Mn, .ref a_Sk])), (a_Le, .inl (cI, 200, .inl v_Le)), (a_Mn, .inl (cI, 3328, .inl v_Mn)), (a_Ri, .inl (cI, 200, .inl v_Ri)), (a_Sy, .inl (cI, 200, .inl v_Sy)), (a_To, .inl (cI, 256, .inl v_To))] s.heap.size = A at hD ⊢
  have hA : ∀ q : Nat, s.heap.size ≤ q → A q := fun q h => by rw [← hAe]; exact Or.inr h
  have hl := lv_entry ([.ref a_o, .int x1, .int x2]) (n := 6) (Nat.le_of_ble_eq_true rfl)
  rw [lg_entry_eq]
  generalize (lg_sl ([.ref a_o, .int x1, .int x2]) ++ List.replicate (6 - (lg_sl ([.ref a_o, .int x1, .int x2])).length) Slot.unset).toArray = ls at hl ⊢
  have hl : lv_has ls 6 [(0, .ref a_o), (1, .int x1), (2, .int x2)] := hl
  exact bk_X6_reach_in ⟨B.exec, B.bytes, B.returns, hml, findClass_of_methodNamed B.named, atoms_spec (ws := wsX6_reach) B.pre, B.notSynchronized⟩ hK hA v_Mn x1 x2 h s.heap [] hP hD va_S.rf ls hl
/-! X6_reached (II)I -/
theorem in_X6_reached_X6 : ∀ w ∈ u_ws RX6 TX6 11, w ∈ wsX6_reached := by decide +kernel
abbrev rm_X6_reached : Room := { frames := 2, cells := 0, slots := 0, locals := 52 }
def wp_X6_reached_in (v_Co : Int32) (v_Le : Nat → Int32) (v_Ri : Nat → Int32) (v_Sy : Nat → Int32) (v_To : Nat → Int32) (Q : Int32 → (Nat → Int32) → Prop) (v_Mn : Nat → Int32) (x1 : Int32) (x2 : Int32) : Prop :=
  wp_X6_within x1 0 1 (fun r1 => ((r1 = 0 → Q (-1) v_Mn) ∧ (¬ (r1 = 0) → wp_X6_within x2 0 (v_Co - 1) (fun r3 => ((r3 = 0 → Q (-1) v_Mn) ∧ (¬ (r3 = 0) → wp_X6_reach v_Co v_Le v_Mn v_Ri v_Sy v_To x1 x2 (fun r6 u5 => Q r6 u5)))))))
set_option maxRecDepth 100000 in
set_option maxHeartbeats 4000000 in
theorem bk_X6_reached_in {p : Program} {l : Launch} {e : Env} {s : State} {m : MethodId} {args : Array Value} {below : List Frame} {meth : Method} {c : Code} {D : va_G} {cI cB : ClassId} {a_o a_To a_Go a_Sy a_Le a_Ri a_Ln a_Wr a_Tr a_Mn a_Sk : Nat} {A : Nat → Prop} {v_Co : Int32} {v_Le : Nat → Int32} {v_Ri : Nat → Int32} {v_Sy : Nat → Int32} {v_To : Nat → Int32} {Q : Int32 → (Nat → Int32) → Prop} (C : tm_cx p s m args meth c cX6_reached 3 (some .int) RX6 wsX6_reached) (hK : tm_kx D cI cB s) (hA : ∀ q : Nat, s.heap.size ≤ q → A q) (v_Mn : Nat → Int32) (x1 : Int32) (x2 : Int32) (h : wp_X6_reached_in v_Co v_Le v_Ri v_Sy v_To Q v_Mn x1 x2) : ∀ (H : Heap) (locs : List Loc), va_P D vwCl [(a_o, .inr (6, [.ref a_To, .ref a_Go, .int v_Co, .ref a_Sy, .ref a_Le, .ref a_Ri, .ref a_Ln, .ref a_Wr, .ref a_Tr, .ref a_Mn, .ref a_Sk])), (a_Le, .inl (cI, 200, .inl v_Le)), (a_Mn, .inl (cI, 3328, .inl v_Mn)), (a_Ri, .inl (cI, 200, .inl v_Ri)), (a_Sy, .inl (cI, 200, .inl v_Sy)), (a_To, .inl (cI, 256, .inl v_To))] H → va_D A [(a_o, .inr (6, [.ref a_To, .ref a_Go, .int v_Co, .ref a_Sy, .ref a_Le, .ref a_Ri, .ref a_Ln, .ref a_Wr, .ref a_Tr, .ref a_Mn, .ref a_Sk])), (a_Le, .inl (cI, 200, .inl v_Le)), (a_Mn, .inl (cI, 3328, .inl v_Mn)), (a_Ri, .inl (cI, 200, .inl v_Ri)), (a_Sy, .inl (cI, 200, .inl v_Sy)), (a_To, .inl (cI, 256, .inl v_To))] → va_S A s.heap H locs → ∀ (ls : Array Slot), lv_has ls 3 [(0, .ref a_o), (1, .int x1), (2, .int x2)] → W p l e (headSpec wsX6_reached rm_X6_reached).room s m args below meth c H locs 0 0 (MQ below (va_Qi (fun (r : Int32) (u : (Nat → Int32)) => Q r u) (tm_B D (fun (u : (Nat → Int32)) => [(a_o, .inr (6, [.ref a_To, .ref a_Go, .int v_Co, .ref a_Sy, .ref a_Le, .ref a_Ri, .ref a_Ln, .ref a_Wr, .ref a_Tr, .ref a_Mn, .ref a_Sk])), (a_Le, .inl (cI, 200, .inl v_Le)), (a_Mn, .inl (cI, 3328, .inl u)), (a_Ri, .inl (cI, 200, .inl v_Ri)), (a_Sy, .inl (cI, 200, .inl v_Sy)), (a_To, .inl (cI, 256, .inl v_To))]) A) A) args s 0 0 A) (F0 m 0 ls []) := by
  obtain ⟨hx, hb, hr, hml, hown, hts, hlocks⟩ := id C
  intro H locs hP hD hS ls hl
  unfold wp_X6_reached_in at h
  refine lv_iload_n hx hb dX6_reached_0 rfl (lv_at hl 1 rfl) ?_
  refine lv_iconst (v := 0) hx hb dX6_reached_1 (by decide) ?_
  refine lv_iconst (v := 1) hx hb dX6_reached_2 (by decide) ?_
  refine tm_rS (As := [.int x1, .int 0, .int 1]) (rest := []) (wc := []) ⟨hx, hb, hml, hown, hts⟩ (cn_X6_within l D cI cB x1 0 1 _ h) (va_cwS 3 hts gX6_reached_X6_within rfl rfl rfl (by decide +kernel) ⟨Nat.le_of_ble_eq_true rfl, Nat.le_of_ble_eq_true rfl⟩) hK (hP.sub [] rfl) rfl hl.1 rfl (Nat.le_of_ble_eq_true rfl) ⟨Nat.zero_le _, Nat.zero_le _⟩ dX6_reached_3 (fun r1 h => ?_)
  obtain ⟨br1, h⟩ := h
  refine lv_if_eq (tgt := 32) hx hb dX6_reached_6 (by decide) (fun c2 => ?_) (fun c2 => ?_)
  · have h := h.1 c2
    refine lv_iconst (v := (-1)) hx hb dX6_reached_32 (by decide) ?_
    exact W.iret (v := (-1)) hx hb hr (fun t ht hW => ⟨⟨(-1), v_Mn, rfl, h, by rw [ht]; exact hP, hD⟩, hS.F ht⟩) hS.2.2 dX6_reached_33
  · have h := h.2 c2
    refine lv_iload_n hx hb dX6_reached_9 rfl (lv_at hl 2 rfl) ?_
    refine lv_iconst (v := 0) hx hb dX6_reached_10 (by decide) ?_
    refine lv_aload_n hx hb dX6_reached_11 rfl (lv_at hl 0 rfl) ?_
    refine va_get (D := D) (ci := 6) (v := .int v_Co) (C := RX6) (T := TX6) (N := 11) hx hb hts in_X6_reached_X6 hown hK.1 hP 0 rfl rfl 2 (by decide) (hts (.fieldLink RX6 53 "TreeMachinesModel" "count" "I") (by decide +kernel)) (fun _ h9 => h9) rfl dX6_reached_12 ?_
    refine lv_iconst (v := 1) hx hb dX6_reached_15 (by decide) ?_
    refine lv_isub (x := v_Co) (y := 1) hx hb dX6_reached_16 ?_
    refine tm_rS (As := [.int x2, .int 0, .int (v_Co - 1)]) (rest := []) (wc := []) ⟨hx, hb, hml, hown, hts⟩ (cn_X6_within l D cI cB x2 0 (v_Co - 1) _ h) (va_cwS 3 hts gX6_reached_X6_within rfl rfl rfl (by decide +kernel) ⟨Nat.le_of_ble_eq_true rfl, Nat.le_of_ble_eq_true rfl⟩) hK (hP.sub [] rfl) rfl hl.1 rfl (Nat.le_of_ble_eq_true rfl) ⟨Nat.zero_le _, Nat.zero_le _⟩ dX6_reached_17 (fun r3 h => ?_)
    obtain ⟨br3, h⟩ := h
    refine lv_if_eq (tgt := 32) hx hb dX6_reached_20 (by decide) (fun c4 => ?_) (fun c4 => ?_)
    · have h := h.1 c4
      refine lv_iconst (v := (-1)) hx hb dX6_reached_32 (by decide) ?_
      exact W.iret (v := (-1)) hx hb hr (fun t ht hW => ⟨⟨(-1), v_Mn, rfl, h, by rw [ht]; exact hP, hD⟩, hS.F ht⟩) hS.2.2 dX6_reached_33
    · have h := h.2 c4
      refine lv_aload_n hx hb dX6_reached_23 rfl (lv_at hl 0 rfl) ?_
      refine lv_iload_n hx hb dX6_reached_24 rfl (lv_at hl 1 rfl) ?_
      refine lv_iload_n hx hb dX6_reached_25 rfl (lv_at hl 2 rfl) ?_
      refine tm_wi (wr := []) (wf := (fun (u : (Nat → Int32)) => [(a_o, .inr (6, [.ref a_To, .ref a_Go, .int v_Co, .ref a_Sy, .ref a_Le, .ref a_Ri, .ref a_Ln, .ref a_Wr, .ref a_Tr, .ref a_Mn, .ref a_Sk])), (a_Le, .inl (cI, 200, .inl v_Le)), (a_Mn, .inl (cI, 3328, .inl u)), (a_Ri, .inl (cI, 200, .inl v_Ri)), (a_Sy, .inl (cI, 200, .inl v_Sy)), (a_To, .inl (cI, 256, .inl v_To))])) (va_runV (As := [.int x1, .int x2]) (rest := []) ⟨hx, hb, hml, hown, hts⟩ (cn_X6_reach l D cI cB a_o a_To a_Go a_Sy a_Le a_Ri a_Ln a_Wr a_Tr a_Mn a_Sk v_Co v_Le v_Mn v_Ri v_Sy v_To x1 x2 H.size _ h) (cwV 2 hts gX6_reached_X6_reach rfl rfl rfl (by decide +kernel) ⟨Nat.le_of_ble_eq_true rfl, Nat.le_of_ble_eq_true rfl⟩) (tm_pV (As := [.int x1, .int x2]) hK hP hD [0, 1, 2, 3, 4, 5] (by decide) rfl (va_recv hK.1 hP (ci := 6) (q0 := 0) rfl rfl)) rfl rfl hl.1 rfl (lv_room (Nat.le_of_ble_eq_true rfl)) dX6_reached_26 ⟨Nat.zero_le _, Nat.zero_le _⟩) hP hD hS hA [0, 1, 2, 3, 4, 5] [] [0, 1, 2, 3, 4, 5] rfl rfl (by decide) (by decide) (by decide) (fun _ => rfl) (fun r6 u H locs h hP hD hS => ?_)
      obtain ⟨u5, rfl⟩ : ∃ z, z = u := ⟨_, rfl⟩
      have hP : va_P D vwCl [(a_o, .inr (6, [.ref a_To, .ref a_Go, .int v_Co, .ref a_Sy, .ref a_Le, .ref a_Ri, .ref a_Ln, .ref a_Wr, .ref a_Tr, .ref a_Mn, .ref a_Sk])), (a_Le, .inl (cI, 200, .inl v_Le)), (a_Mn, .inl (cI, 3328, .inl u5)), (a_Ri, .inl (cI, 200, .inl v_Ri)), (a_Sy, .inl (cI, 200, .inl v_Sy)), (a_To, .inl (cI, 256, .inl v_To))] H := hP
      have hD : va_D A [(a_o, .inr (6, [.ref a_To, .ref a_Go, .int v_Co, .ref a_Sy, .ref a_Le, .ref a_Ri, .ref a_Ln, .ref a_Wr, .ref a_Tr, .ref a_Mn, .ref a_Sk])), (a_Le, .inl (cI, 200, .inl v_Le)), (a_Mn, .inl (cI, 3328, .inl u5)), (a_Ri, .inl (cI, 200, .inl v_Ri)), (a_Sy, .inl (cI, 200, .inl v_Sy)), (a_To, .inl (cI, 256, .inl v_To))] := hD
      refine lv_goto (tgt := 33) hx hb dX6_reached_29 (by decide) ?_
      exact W.iret (v := r6) hx hb hr (fun t ht hW => ⟨⟨r6, u5, rfl, h, by rw [ht]; exact hP, hD⟩, hS.F ht⟩) hS.2.2 dX6_reached_33
abbrev wp_X6_reached (v_Co : Int32) (v_Le : Nat → Int32) (v_Mn : Nat → Int32) (v_Ri : Nat → Int32) (v_Sy : Nat → Int32) (v_To : Nat → Int32) (x1 : Int32) (x2 : Int32) (Q : Int32 → (Nat → Int32) → Prop) : Prop := wp_X6_reached_in v_Co v_Le v_Ri v_Sy v_To Q v_Mn x1 x2
set_option maxRecDepth 100000 in
set_option maxHeartbeats 4000000 in
theorem cn_X6_reached (l : Launch) (D : va_G) (cI cB : ClassId) (a_o a_To a_Go a_Sy a_Le a_Ri a_Ln a_Wr a_Tr a_Mn a_Sk : Nat) (v_Co : Int32) (v_Le : Nat → Int32) (v_Mn : Nat → Int32) (v_Ri : Nat → Int32) (v_Sy : Nat → Int32) (v_To : Nat → Int32) (x1 : Int32) (x2 : Int32) (sz : Nat) (Q : Int32 → (Nat → Int32) → Prop) (h : wp_X6_reached v_Co v_Le v_Mn v_Ri v_Sy v_To x1 x2 Q) : Met l yX6_reached wsX6_reached rm_X6_reached (tm_Pw D cI cB [.ref a_o, .int x1, .int x2] [(a_o, .inr (6, [.ref a_To, .ref a_Go, .int v_Co, .ref a_Sy, .ref a_Le, .ref a_Ri, .ref a_Ln, .ref a_Wr, .ref a_Tr, .ref a_Mn, .ref a_Sk])), (a_Le, .inl (cI, 200, .inl v_Le)), (a_Mn, .inl (cI, 3328, .inl v_Mn)), (a_Ri, .inl (cI, 200, .inl v_Ri)), (a_Sy, .inl (cI, 200, .inl v_Sy)), (a_To, .inl (cI, 256, .inl v_To))] sz) (va_Qi (fun (r : Int32) (u : (Nat → Int32)) => Q r u) (tm_B D (fun (u : (Nat → Int32)) => [(a_o, .inr (6, [.ref a_To, .ref a_Go, .int v_Co, .ref a_Sy, .ref a_Le, .ref a_Ri, .ref a_Ln, .ref a_Wr, .ref a_Tr, .ref a_Mn, .ref a_Sk])), (a_Le, .inl (cI, 200, .inl v_Le)), (a_Mn, .inl (cI, 3328, .inl u)), (a_Ri, .inl (cI, 200, .inl v_Ri)), (a_Sy, .inl (cI, 200, .inl v_Sy)), (a_To, .inl (cI, 256, .inl v_To))]) (va_A [(a_o, .inr (6, [.ref a_To, .ref a_Go, .int v_Co, .ref a_Sy, .ref a_Le, .ref a_Ri, .ref a_Ln, .ref a_Wr, .ref a_Tr, .ref a_Mn, .ref a_Sk])), (a_Le, .inl (cI, 200, .inl v_Le)), (a_Mn, .inl (cI, 3328, .inl v_Mn)), (a_Ri, .inl (cI, 200, .inl v_Ri)), (a_Sy, .inl (cI, 200, .inl v_Sy)), (a_To, .inl (cI, 256, .inl v_To))] sz)) (va_A [(a_o, .inr (6, [.ref a_To, .ref a_Go, .int v_Co, .ref a_Sy, .ref a_Le, .ref a_Ri, .ref a_Ln, .ref a_Wr, .ref a_Tr, .ref a_Mn, .ref a_Sk])), (a_Le, .inl (cI, 200, .inl v_Le)), (a_Mn, .inl (cI, 3328, .inl v_Mn)), (a_Ri, .inl (cI, 200, .inl v_Ri)), (a_Sy, .inl (cI, 200, .inl v_Sy)), (a_To, .inl (cI, 256, .inl v_To))] sz)) 0 0 (va_A [(a_o, .inr (6, [.ref a_To, .ref a_Go, .int v_Co, .ref a_Sy, .ref a_Le, .ref a_Ri, .ref a_Ln, .ref a_Wr, .ref a_Tr, .ref a_Mn, .ref a_Sk])), (a_Le, .inl (cI, 200, .inl v_Le)), (a_Mn, .inl (cI, 3328, .inl v_Mn)), (a_Ri, .inl (cI, 200, .inl v_Ri)), (a_Sy, .inl (cI, 200, .inl v_Sy)), (a_To, .inl (cI, 256, .inl v_To))] sz) := by
  refine Met.ofW (cc := cX6_reached) (maxL := 3) (ret := (some .int)) (by decide) rfl ?_
  intro p e s m args below meth c s₁ B hml hv
  obtain ⟨rfl, hsz, hP, hK, hD0⟩ := hv
  subst hsz
  have hD := hD0.self (sz := s.heap.size)
  generalize hAe : va_A [(a_o, .inr (6, [.ref a_To, .ref a_Go, .int v_Co, .ref a_Sy, .ref a_Le, .ref a_Ri, .ref a_Ln, .ref a_Wr, .ref a_Tr, .ref a_Mn, .ref a_Sk])), (a_Le, .inl (cI, 200, .inl v_Le)), (a_Mn, .inl (cI, 3328, .inl v_Mn)), (a_Ri, .inl (cI, 200, .inl v_Ri)), (a_Sy, .inl (cI, 200, .inl v_Sy)), (a_To, .inl (cI, 256, .inl v_To))] s.heap.size = A at hD ⊢
  have hA : ∀ q : Nat, s.heap.size ≤ q → A q := fun q h => by rw [← hAe]; exact Or.inr h
  have hl := lv_entry ([.ref a_o, .int x1, .int x2]) (n := 3) (Nat.le_of_ble_eq_true rfl)
  rw [lg_entry_eq]
  generalize (lg_sl ([.ref a_o, .int x1, .int x2]) ++ List.replicate (3 - (lg_sl ([.ref a_o, .int x1, .int x2])).length) Slot.unset).toArray = ls at hl ⊢
  have hl : lv_has ls 3 [(0, .ref a_o), (1, .int x1), (2, .int x2)] := hl
  exact bk_X6_reached_in ⟨B.exec, B.bytes, B.returns, hml, findClass_of_methodNamed B.named, atoms_spec (ws := wsX6_reached) B.pre, B.notSynchronized⟩ hK hA v_Mn x1 x2 h s.heap [] hP hD va_S.rf ls hl
/-! X6_placeOf (I)I -/
theorem in_X6_placeOf_X6 : ∀ w ∈ u_ws RX6 TX6 11, w ∈ wsX6_placeOf := by decide +kernel
abbrev rm_X6_placeOf : Room := { frames := 0, cells := 0, slots := 0, locals := 0 }
def wp_X6_placeOf_19 (v_Co : Int32) (v_Go : Nat → Int32) (Q : Int32 → Prop) (z0 : Int32) (x1 : Int32) : Prop :=
  vp_in 1 2 ∧ ((((x1 >>> ((4 : Int32) &&& 31)) &&& (v_Go (1 : Int32).toNatClampNeg)) = 0 → Q (z0 + 0)) ∧ (¬ (((x1 >>> ((4 : Int32) &&& 31)) &&& (v_Go (1 : Int32).toNatClampNeg)) = 0) → Q (z0 + 1)))
set_option maxRecDepth 100000 in
set_option maxHeartbeats 4000000 in
theorem bk_X6_placeOf_19 {p : Program} {l : Launch} {e : Env} {s : State} {m : MethodId} {args : Array Value} {below : List Frame} {meth : Method} {c : Code} {D : va_G} {cI cB : ClassId} {a_o a_To a_Go a_Sy a_Le a_Ri a_Ln a_Wr a_Tr a_Mn a_Sk : Nat} {v_Co : Int32} {v_Go : Nat → Int32} {Q : Int32 → Prop} (C : tm_cx p s m args meth c cX6_placeOf 2 (some .int) RX6 wsX6_placeOf) (hK : tm_kx D cI cB s) (z0 : Int32) (x1 : Int32) (h : wp_X6_placeOf_19 v_Co v_Go Q z0 x1) : va_P D vwCl [(a_o, .inr (6, [.ref a_To, .ref a_Go, .int v_Co, .ref a_Sy, .ref a_Le, .ref a_Ri, .ref a_Ln, .ref a_Wr, .ref a_Tr, .ref a_Mn, .ref a_Sk])), (a_Go, .inl (cI, 2, .inl v_Go))] s.heap → ∀ (ls : Array Slot), lv_has ls 2 [(0, .ref a_o), (1, .int x1)] → W p l e (headSpec wsX6_placeOf rm_X6_placeOf).room s m args below meth c s.heap [] 0 0 (MQ below (vp_Si Q) args s 0 0 (fun _ => False)) (F0 m 19 ls [.int z0]) := by
  obtain ⟨hx, hb, hr, hml, hown, hts, hlocks⟩ := id C
  intro hP ls hl
  unfold wp_X6_placeOf_19 at h
  refine lv_iload_n hx hb dX6_placeOf_19 rfl (lv_at hl 1 rfl) ?_
  refine lv_iconst (v := 4) hx hb dX6_placeOf_20 (by decide) ?_
  refine lv_ishr (x := x1) (y := 4) hx hb dX6_placeOf_21 ?_
  refine lv_aload_n hx hb dX6_placeOf_22 rfl (lv_at hl 0 rfl) ?_
  refine va_get (D := D) (ci := 6) (v := .ref a_Go) (C := RX6) (T := TX6) (N := 11) hx hb hts in_X6_placeOf_X6 hown hK.1 hP 0 rfl rfl 1 (by decide) (hts (.fieldLink RX6 13 "TreeMachinesModel" "goals" "[I") (by decide +kernel)) (fun _ h9 => h9) rfl dX6_placeOf_23 ?_
  refine lv_iconst (v := 1) hx hb dX6_placeOf_26 (by decide) ?_
  obtain ⟨b3, h⟩ := h
  refine va_iald hx hb hK.1 hP 1 0 rfl rfl b3 dX6_placeOf_27 ?_
  refine lv_iand hx hb dX6_placeOf_28 ?_
  refine lv_if_eq (tgt := 36) hx hb dX6_placeOf_29 (by decide) (fun c4 => ?_) (fun c4 => ?_)
  · have h := h.1 c4
    refine lv_iconst (v := 0) hx hb dX6_placeOf_36 (by decide) ?_
    refine lv_iadd (x := z0) (y := 0) hx hb dX6_placeOf_37 ?_
    exact W.iret (v := (z0 + 0)) hx hb hr (fun t ht hW => ⟨(z0 + 0), rfl, h, ht⟩) (fun _ h => by cases h) dX6_placeOf_38
  · have h := h.2 c4
    refine lv_iconst (v := 1) hx hb dX6_placeOf_32 (by decide) ?_
    refine lv_goto (tgt := 37) hx hb dX6_placeOf_33 (by decide) ?_
    refine lv_iadd (x := z0) (y := 1) hx hb dX6_placeOf_37 ?_
    exact W.iret (v := (z0 + 1)) hx hb hr (fun t ht hW => ⟨(z0 + 1), rfl, h, ht⟩) (fun _ h => by cases h) dX6_placeOf_38
def wp_X6_placeOf_in (v_Co : Int32) (v_Go : Nat → Int32) (Q : Int32 → Prop) (x1 : Int32) : Prop :=
  vp_in 0 2 ∧ ((((x1 &&& 15) &&& (v_Go (0 : Int32).toNatClampNeg)) = 0 → wp_X6_placeOf_19 v_Co v_Go Q 0 x1) ∧ (¬ (((x1 &&& 15) &&& (v_Go (0 : Int32).toNatClampNeg)) = 0) → wp_X6_placeOf_19 v_Co v_Go Q 2 x1))
set_option maxRecDepth 100000 in
set_option maxHeartbeats 4000000 in
theorem bk_X6_placeOf_in {p : Program} {l : Launch} {e : Env} {s : State} {m : MethodId} {args : Array Value} {below : List Frame} {meth : Method} {c : Code} {D : va_G} {cI cB : ClassId} {a_o a_To a_Go a_Sy a_Le a_Ri a_Ln a_Wr a_Tr a_Mn a_Sk : Nat} {v_Co : Int32} {v_Go : Nat → Int32} {Q : Int32 → Prop} (C : tm_cx p s m args meth c cX6_placeOf 2 (some .int) RX6 wsX6_placeOf) (hK : tm_kx D cI cB s) (x1 : Int32) (h : wp_X6_placeOf_in v_Co v_Go Q x1) : va_P D vwCl [(a_o, .inr (6, [.ref a_To, .ref a_Go, .int v_Co, .ref a_Sy, .ref a_Le, .ref a_Ri, .ref a_Ln, .ref a_Wr, .ref a_Tr, .ref a_Mn, .ref a_Sk])), (a_Go, .inl (cI, 2, .inl v_Go))] s.heap → ∀ (ls : Array Slot), lv_has ls 2 [(0, .ref a_o), (1, .int x1)] → W p l e (headSpec wsX6_placeOf rm_X6_placeOf).room s m args below meth c s.heap [] 0 0 (MQ below (vp_Si Q) args s 0 0 (fun _ => False)) (F0 m 0 ls []) := by
  obtain ⟨hx, hb, hr, hml, hown, hts, hlocks⟩ := id C
  intro hP ls hl
  unfold wp_X6_placeOf_in at h
  refine lv_iload_n hx hb dX6_placeOf_0 rfl (lv_at hl 1 rfl) ?_
  refine lv_bipush (v := 15) hx hb dX6_placeOf_1 (by decide) ?_
  refine lv_iand (x := x1) (y := 15) hx hb dX6_placeOf_3 ?_
  refine lv_aload_n hx hb dX6_placeOf_4 rfl (lv_at hl 0 rfl) ?_
  refine va_get (D := D) (ci := 6) (v := .ref a_Go) (C := RX6) (T := TX6) (N := 11) hx hb hts in_X6_placeOf_X6 hown hK.1 hP 0 rfl rfl 1 (by decide) (hts (.fieldLink RX6 13 "TreeMachinesModel" "goals" "[I") (by decide +kernel)) (fun _ h9 => h9) rfl dX6_placeOf_5 ?_
  refine lv_iconst (v := 0) hx hb dX6_placeOf_8 (by decide) ?_
  obtain ⟨b1, h⟩ := h
  refine va_iald hx hb hK.1 hP 1 0 rfl rfl b1 dX6_placeOf_9 ?_
  refine lv_iand hx hb dX6_placeOf_10 ?_
  refine lv_if_eq (tgt := 18) hx hb dX6_placeOf_11 (by decide) (fun c2 => ?_) (fun c2 => ?_)
  · have h := h.1 c2
    refine lv_iconst (v := 0) hx hb dX6_placeOf_18 (by decide) ?_
    exact bk_X6_placeOf_19 C hK 0 x1 h hP ls (lv_sub hl [0, 1] rfl)
  · have h := h.2 c2
    refine lv_iconst (v := 2) hx hb dX6_placeOf_14 (by decide) ?_
    refine lv_goto (tgt := 19) hx hb dX6_placeOf_15 (by decide) ?_
    exact bk_X6_placeOf_19 C hK 2 x1 h hP ls (lv_sub hl [0, 1] rfl)
abbrev wp_X6_placeOf (v_Co : Int32) (v_Go : Nat → Int32) (x1 : Int32) (Q : Int32 → Prop) : Prop := wp_X6_placeOf_in v_Co v_Go Q x1
set_option maxRecDepth 100000 in
set_option maxHeartbeats 4000000 in
theorem cn_X6_placeOf (l : Launch) (D : va_G) (cI cB : ClassId) (a_o a_To a_Go a_Sy a_Le a_Ri a_Ln a_Wr a_Tr a_Mn a_Sk : Nat) (v_Co : Int32) (v_Go : Nat → Int32) (x1 : Int32) (Q : Int32 → Prop) (h : wp_X6_placeOf v_Co v_Go x1 Q) : Met l yX6_placeOf wsX6_placeOf rm_X6_placeOf (tm_Pr D cI cB [.ref a_o, .int x1] [(a_o, .inr (6, [.ref a_To, .ref a_Go, .int v_Co, .ref a_Sy, .ref a_Le, .ref a_Ri, .ref a_Ln, .ref a_Wr, .ref a_Tr, .ref a_Mn, .ref a_Sk])), (a_Go, .inl (cI, 2, .inl v_Go))]) (vp_Si Q) 0 0 (fun _ => False) := by
  refine Met.ofW (cc := cX6_placeOf) (maxL := 2) (ret := (some .int)) (by decide) rfl ?_
  intro p e s m args below meth c s₁ B hml hv
  obtain ⟨rfl, hP, hK⟩ := hv
  have hl := lv_entry ([.ref a_o, .int x1]) (n := 2) (Nat.le_of_ble_eq_true rfl)
  rw [lg_entry_eq]
  generalize (lg_sl ([.ref a_o, .int x1]) ++ List.replicate (2 - (lg_sl ([.ref a_o, .int x1])).length) Slot.unset).toArray = ls at hl ⊢
  have hl : lv_has ls 2 [(0, .ref a_o), (1, .int x1)] := hl
  exact bk_X6_placeOf_in ⟨B.exec, B.bytes, B.returns, hml, findClass_of_methodNamed B.named, atoms_spec (ws := wsX6_placeOf) B.pre, B.notSynchronized⟩ hK x1 h hP ls hl
/-! X6_place (I)I -/
theorem in_X6_place_X6 : ∀ w ∈ u_ws RX6 TX6 11, w ∈ wsX6_place := by decide +kernel
abbrev rm_X6_place : Room := { frames := 2, cells := 0, slots := 0, locals := 52 }
def wp_X6_place_in (v_Co : Int32) (v_Go : Nat → Int32) (v_Le : Nat → Int32) (v_Ri : Nat → Int32) (v_Sy : Nat → Int32) (v_To : Nat → Int32) (Q : Int32 → (Nat → Int32) → Prop) (v_Mn : Nat → Int32) (x1 : Int32) : Prop :=
  wp_X6_within x1 0 (v_Co - 1) (fun r1 => ((r1 = 0 → Q (-1) v_Mn) ∧ (¬ (r1 = 0) → wp_X6_reach v_Co v_Le v_Mn v_Ri v_Sy v_To 0 x1 (fun r4 u3 => wp_X6_reach v_Co v_Le u3 v_Ri v_Sy v_To 1 x1 (fun r6 u5 => ∀ x2_7 : Int32, x2_7 = (r4 + ((16 : Int32) * r6)) → wp_X6_placeOf v_Co v_Go x2_7 (fun r8 => Q r8 u5))))))
set_option maxRecDepth 100000 in
set_option maxHeartbeats 4000000 in
theorem bk_X6_place_in {p : Program} {l : Launch} {e : Env} {s : State} {m : MethodId} {args : Array Value} {below : List Frame} {meth : Method} {c : Code} {D : va_G} {cI cB : ClassId} {a_o a_To a_Go a_Sy a_Le a_Ri a_Ln a_Wr a_Tr a_Mn a_Sk : Nat} {A : Nat → Prop} {v_Co : Int32} {v_Go : Nat → Int32} {v_Le : Nat → Int32} {v_Ri : Nat → Int32} {v_Sy : Nat → Int32} {v_To : Nat → Int32} {Q : Int32 → (Nat → Int32) → Prop} (C : tm_cx p s m args meth c cX6_place 3 (some .int) RX6 wsX6_place) (hK : tm_kx D cI cB s) (hA : ∀ q : Nat, s.heap.size ≤ q → A q) (v_Mn : Nat → Int32) (x1 : Int32) (h : wp_X6_place_in v_Co v_Go v_Le v_Ri v_Sy v_To Q v_Mn x1) : ∀ (H : Heap) (locs : List Loc), va_P D vwCl [(a_o, .inr (6, [.ref a_To, .ref a_Go, .int v_Co, .ref a_Sy, .ref a_Le, .ref a_Ri, .ref a_Ln, .ref a_Wr, .ref a_Tr, .ref a_Mn, .ref a_Sk])), (a_Go, .inl (cI, 2, .inl v_Go)), (a_Le, .inl (cI, 200, .inl v_Le)), (a_Mn, .inl (cI, 3328, .inl v_Mn)), (a_Ri, .inl (cI, 200, .inl v_Ri)), (a_Sy, .inl (cI, 200, .inl v_Sy)), (a_To, .inl (cI, 256, .inl v_To))] H → va_D A [(a_o, .inr (6, [.ref a_To, .ref a_Go, .int v_Co, .ref a_Sy, .ref a_Le, .ref a_Ri, .ref a_Ln, .ref a_Wr, .ref a_Tr, .ref a_Mn, .ref a_Sk])), (a_Go, .inl (cI, 2, .inl v_Go)), (a_Le, .inl (cI, 200, .inl v_Le)), (a_Mn, .inl (cI, 3328, .inl v_Mn)), (a_Ri, .inl (cI, 200, .inl v_Ri)), (a_Sy, .inl (cI, 200, .inl v_Sy)), (a_To, .inl (cI, 256, .inl v_To))] → va_S A s.heap H locs → ∀ (ls : Array Slot), lv_has ls 3 [(0, .ref a_o), (1, .int x1)] → W p l e (headSpec wsX6_place rm_X6_place).room s m args below meth c H locs 0 0 (MQ below (va_Qi (fun (r : Int32) (u : (Nat → Int32)) => Q r u) (tm_B D (fun (u : (Nat → Int32)) => [(a_o, .inr (6, [.ref a_To, .ref a_Go, .int v_Co, .ref a_Sy, .ref a_Le, .ref a_Ri, .ref a_Ln, .ref a_Wr, .ref a_Tr, .ref a_Mn, .ref a_Sk])), (a_Go, .inl (cI, 2, .inl v_Go)), (a_Le, .inl (cI, 200, .inl v_Le)), (a_Mn, .inl (cI, 3328, .inl u)), (a_Ri, .inl (cI, 200, .inl v_Ri)), (a_Sy, .inl (cI, 200, .inl v_Sy)), (a_To, .inl (cI, 256, .inl v_To))]) A) A) args s 0 0 A) (F0 m 0 ls []) := by
  obtain ⟨hx, hb, hr, hml, hown, hts, hlocks⟩ := id C
  intro H locs hP hD hS ls hl
  unfold wp_X6_place_in at h
  refine lv_iload_n hx hb dX6_place_0 rfl (lv_at hl 1 rfl) ?_
  refine lv_iconst (v := 0) hx hb dX6_place_1 (by decide) ?_
  refine lv_aload_n hx hb dX6_place_2 rfl (lv_at hl 0 rfl) ?_
  refine va_get (D := D) (ci := 6) (v := .int v_Co) (C := RX6) (T := TX6) (N := 11) hx hb hts in_X6_place_X6 hown hK.1 hP 0 rfl rfl 2 (by decide) (hts (.fieldLink RX6 53 "TreeMachinesModel" "count" "I") (by decide +kernel)) (fun _ h9 => h9) rfl dX6_place_3 ?_
  refine lv_iconst (v := 1) hx hb dX6_place_6 (by decide) ?_
  refine lv_isub (x := v_Co) (y := 1) hx hb dX6_place_7 ?_
  refine tm_rS (As := [.int x1, .int 0, .int (v_Co - 1)]) (rest := []) (wc := []) ⟨hx, hb, hml, hown, hts⟩ (cn_X6_within l D cI cB x1 0 (v_Co - 1) _ h) (va_cwS 3 hts gX6_place_X6_within rfl rfl rfl (by decide +kernel) ⟨Nat.le_of_ble_eq_true rfl, Nat.le_of_ble_eq_true rfl⟩) hK (hP.sub [] rfl) rfl hl.1 rfl (Nat.le_of_ble_eq_true rfl) ⟨Nat.zero_le _, Nat.zero_le _⟩ dX6_place_8 (fun r1 h => ?_)
  obtain ⟨br1, h⟩ := h
  refine lv_if_ne (tgt := 16) hx hb dX6_place_11 (by decide) (fun c2 => ?_) (fun c2 => ?_)
  · have h := h.2 c2
    refine lv_aload_n hx hb dX6_place_16 rfl (lv_at hl 0 rfl) ?_
    refine lv_iconst (v := 0) hx hb dX6_place_17 (by decide) ?_
    refine lv_iload_n hx hb dX6_place_18 rfl (lv_at hl 1 rfl) ?_
    refine tm_wi (wr := [(a_Go, .inl (cI, 2, .inl v_Go))]) (wf := (fun (u : (Nat → Int32)) => [(a_o, .inr (6, [.ref a_To, .ref a_Go, .int v_Co, .ref a_Sy, .ref a_Le, .ref a_Ri, .ref a_Ln, .ref a_Wr, .ref a_Tr, .ref a_Mn, .ref a_Sk])), (a_Go, .inl (cI, 2, .inl v_Go)), (a_Le, .inl (cI, 200, .inl v_Le)), (a_Mn, .inl (cI, 3328, .inl u)), (a_Ri, .inl (cI, 200, .inl v_Ri)), (a_Sy, .inl (cI, 200, .inl v_Sy)), (a_To, .inl (cI, 256, .inl v_To))])) (va_runV (As := [.int 0, .int x1]) (rest := []) ⟨hx, hb, hml, hown, hts⟩ (cn_X6_reach l D cI cB a_o a_To a_Go a_Sy a_Le a_Ri a_Ln a_Wr a_Tr a_Mn a_Sk v_Co v_Le v_Mn v_Ri v_Sy v_To 0 x1 H.size _ h) (cwV 2 hts gX6_place_X6_reach rfl rfl rfl (by decide +kernel) ⟨Nat.le_of_ble_eq_true rfl, Nat.le_of_ble_eq_true rfl⟩) (tm_pV (As := [.int 0, .int x1]) hK hP hD [0, 2, 3, 4, 5, 6] (by decide) rfl (va_recv hK.1 hP (ci := 6) (q0 := 0) rfl rfl)) rfl rfl hl.1 rfl (lv_room (Nat.le_of_ble_eq_true rfl)) dX6_place_19 ⟨Nat.zero_le _, Nat.zero_le _⟩) hP hD hS hA [0, 2, 3, 4, 5, 6] [1] [1, 0, 2, 3, 4, 5, 6] rfl rfl (by decide) (by decide) (by decide) (fun _ => rfl) (fun r4 u H locs h hP hD hS => ?_)
    obtain ⟨u3, rfl⟩ : ∃ z, z = u := ⟨_, rfl⟩
    have hP : va_P D vwCl [(a_o, .inr (6, [.ref a_To, .ref a_Go, .int v_Co, .ref a_Sy, .ref a_Le, .ref a_Ri, .ref a_Ln, .ref a_Wr, .ref a_Tr, .ref a_Mn, .ref a_Sk])), (a_Go, .inl (cI, 2, .inl v_Go)), (a_Le, .inl (cI, 200, .inl v_Le)), (a_Mn, .inl (cI, 3328, .inl u3)), (a_Ri, .inl (cI, 200, .inl v_Ri)), (a_Sy, .inl (cI, 200, .inl v_Sy)), (a_To, .inl (cI, 256, .inl v_To))] H := hP
    have hD : va_D A [(a_o, .inr (6, [.ref a_To, .ref a_Go, .int v_Co, .ref a_Sy, .ref a_Le, .ref a_Ri, .ref a_Ln, .ref a_Wr, .ref a_Tr, .ref a_Mn, .ref a_Sk])), (a_Go, .inl (cI, 2, .inl v_Go)), (a_Le, .inl (cI, 200, .inl v_Le)), (a_Mn, .inl (cI, 3328, .inl u3)), (a_Ri, .inl (cI, 200, .inl v_Ri)), (a_Sy, .inl (cI, 200, .inl v_Sy)), (a_To, .inl (cI, 256, .inl v_To))] := hD
    refine lv_istore_n (lv' := [(2, .int r4), (0, .ref a_o), (1, .int x1)]) hx hb dX6_place_22 rfl hl (by decide) rfl (fun ls hl => ?_)
    refine lv_iload_n hx hb dX6_place_23 rfl (lv_at hl 0 rfl) ?_
    refine lv_bipush (v := 16) hx hb dX6_place_24 (by decide) ?_
    refine lv_aload_n hx hb dX6_place_26 rfl (lv_at hl 1 rfl) ?_
    refine lv_iconst (v := 1) hx hb dX6_place_27 (by decide) ?_
    refine lv_iload_n hx hb dX6_place_28 rfl (lv_at hl 2 rfl) ?_
    refine tm_wi (wr := [(a_Go, .inl (cI, 2, .inl v_Go))]) (wf := (fun (u : (Nat → Int32)) => [(a_o, .inr (6, [.ref a_To, .ref a_Go, .int v_Co, .ref a_Sy, .ref a_Le, .ref a_Ri, .ref a_Ln, .ref a_Wr, .ref a_Tr, .ref a_Mn, .ref a_Sk])), (a_Go, .inl (cI, 2, .inl v_Go)), (a_Le, .inl (cI, 200, .inl v_Le)), (a_Mn, .inl (cI, 3328, .inl u)), (a_Ri, .inl (cI, 200, .inl v_Ri)), (a_Sy, .inl (cI, 200, .inl v_Sy)), (a_To, .inl (cI, 256, .inl v_To))])) (va_runV (As := [.int 1, .int x1]) (rest := [.int 16, .int r4]) ⟨hx, hb, hml, hown, hts⟩ (cn_X6_reach l D cI cB a_o a_To a_Go a_Sy a_Le a_Ri a_Ln a_Wr a_Tr a_Mn a_Sk v_Co v_Le u3 v_Ri v_Sy v_To 1 x1 H.size _ h) (cwV 2 hts gX6_place_X6_reach rfl rfl rfl (by decide +kernel) ⟨Nat.le_of_ble_eq_true rfl, Nat.le_of_ble_eq_true rfl⟩) (tm_pV (As := [.int 1, .int x1]) hK hP hD [0, 2, 3, 4, 5, 6] (by decide) rfl (va_recv hK.1 hP (ci := 6) (q0 := 0) rfl rfl)) rfl rfl hl.1 rfl (lv_room (Nat.le_of_ble_eq_true rfl)) dX6_place_29 ⟨Nat.zero_le _, Nat.zero_le _⟩) hP hD hS hA [0, 2, 3, 4, 5, 6] [1] [1, 0, 2, 3, 4, 5, 6] rfl rfl (by decide) (by decide) (by decide) (fun _ => rfl) (fun r6 u H locs h hP hD hS => ?_)
    obtain ⟨u5, rfl⟩ : ∃ z, z = u := ⟨_, rfl⟩
    have hP : va_P D vwCl [(a_o, .inr (6, [.ref a_To, .ref a_Go, .int v_Co, .ref a_Sy, .ref a_Le, .ref a_Ri, .ref a_Ln, .ref a_Wr, .ref a_Tr, .ref a_Mn, .ref a_Sk])), (a_Go, .inl (cI, 2, .inl v_Go)), (a_Le, .inl (cI, 200, .inl v_Le)), (a_Mn, .inl (cI, 3328, .inl u5)), (a_Ri, .inl (cI, 200, .inl v_Ri)), (a_Sy, .inl (cI, 200, .inl v_Sy)), (a_To, .inl (cI, 256, .inl v_To))] H := hP
    have hD : va_D A [(a_o, .inr (6, [.ref a_To, .ref a_Go, .int v_Co, .ref a_Sy, .ref a_Le, .ref a_Ri, .ref a_Ln, .ref a_Wr, .ref a_Tr, .ref a_Mn, .ref a_Sk])), (a_Go, .inl (cI, 2, .inl v_Go)), (a_Le, .inl (cI, 200, .inl v_Le)), (a_Mn, .inl (cI, 3328, .inl u5)), (a_Ri, .inl (cI, 200, .inl v_Ri)), (a_Sy, .inl (cI, 200, .inl v_Sy)), (a_To, .inl (cI, 256, .inl v_To))] := hD
    refine lv_imul (x := 16) (y := r6) hx hb dX6_place_32 ?_
    refine lv_iadd hx hb dX6_place_33 ?_
    refine lv_topi (fun x2_7 ex2_7 => ?_)
    have h := h x2_7 ex2_7
    refine lv_istore_n (lv' := [(2, .int x2_7), (0, .ref a_o), (1, .int x1)]) hx hb dX6_place_34 rfl hl (by decide) rfl (fun ls hl => ?_)
    refine lv_aload_n hx hb dX6_place_35 rfl (lv_at hl 1 rfl) ?_
    refine lv_iload_n hx hb dX6_place_36 rfl (lv_at hl 0 rfl) ?_
    refine tm_rV (As := [.int x2_7]) (rest := []) (wc := [(a_o, .inr (6, [.ref a_To, .ref a_Go, .int v_Co, .ref a_Sy, .ref a_Le, .ref a_Ri, .ref a_Ln, .ref a_Wr, .ref a_Tr, .ref a_Mn, .ref a_Sk])), (a_Go, .inl (cI, 2, .inl v_Go))]) ⟨hx, hb, hml, hown, hts⟩ (cn_X6_placeOf l D cI cB a_o a_To a_Go a_Sy a_Le a_Ri a_Ln a_Wr a_Tr a_Mn a_Sk v_Co v_Go x2_7 _ h) (cwV 1 hts gX6_place_X6_placeOf rfl rfl rfl (by decide +kernel) ⟨Nat.le_of_ble_eq_true rfl, Nat.le_of_ble_eq_true rfl⟩) hK (hP.sub [0, 1] rfl) (va_recv hK.1 hP (ci := 6) (q0 := 0) rfl rfl) rfl hl.1 rfl (Nat.le_of_ble_eq_true rfl) ⟨Nat.zero_le _, Nat.zero_le _⟩ dX6_place_37 (fun r8 h => ?_)
    exact W.iret (v := r8) hx hb hr (fun t ht hW => ⟨⟨r8, u5, rfl, h, by rw [ht]; exact hP, hD⟩, hS.F ht⟩) hS.2.2 dX6_place_40
  · have h := h.1 c2
    refine lv_iconst (v := (-1)) hx hb dX6_place_14 (by decide) ?_
    exact W.iret (v := (-1)) hx hb hr (fun t ht hW => ⟨⟨(-1), v_Mn, rfl, h, by rw [ht]; exact hP, hD⟩, hS.F ht⟩) hS.2.2 dX6_place_15
abbrev wp_X6_place (v_Co : Int32) (v_Go : Nat → Int32) (v_Le : Nat → Int32) (v_Mn : Nat → Int32) (v_Ri : Nat → Int32) (v_Sy : Nat → Int32) (v_To : Nat → Int32) (x1 : Int32) (Q : Int32 → (Nat → Int32) → Prop) : Prop := wp_X6_place_in v_Co v_Go v_Le v_Ri v_Sy v_To Q v_Mn x1
set_option maxRecDepth 100000 in
set_option maxHeartbeats 4000000 in
theorem cn_X6_place (l : Launch) (D : va_G) (cI cB : ClassId) (a_o a_To a_Go a_Sy a_Le a_Ri a_Ln a_Wr a_Tr a_Mn a_Sk : Nat) (v_Co : Int32) (v_Go : Nat → Int32) (v_Le : Nat → Int32) (v_Mn : Nat → Int32) (v_Ri : Nat → Int32) (v_Sy : Nat → Int32) (v_To : Nat → Int32) (x1 : Int32) (sz : Nat) (Q : Int32 → (Nat → Int32) → Prop) (h : wp_X6_place v_Co v_Go v_Le v_Mn v_Ri v_Sy v_To x1 Q) : Met l yX6_place wsX6_place rm_X6_place (tm_Pw D cI cB [.ref a_o, .int x1] [(a_o, .inr (6, [.ref a_To, .ref a_Go, .int v_Co, .ref a_Sy, .ref a_Le, .ref a_Ri, .ref a_Ln, .ref a_Wr, .ref a_Tr, .ref a_Mn, .ref a_Sk])), (a_Go, .inl (cI, 2, .inl v_Go)), (a_Le, .inl (cI, 200, .inl v_Le)), (a_Mn, .inl (cI, 3328, .inl v_Mn)), (a_Ri, .inl (cI, 200, .inl v_Ri)), (a_Sy, .inl (cI, 200, .inl v_Sy)), (a_To, .inl (cI, 256, .inl v_To))] sz) (va_Qi (fun (r : Int32) (u : (Nat → Int32)) => Q r u) (tm_B D (fun (u : (Nat → Int32)) => [(a_o, .inr (6, [.ref a_To, .ref a_Go, .int v_Co, .ref a_Sy, .ref a_Le, .ref a_Ri, .ref a_Ln, .ref a_Wr, .ref a_Tr, .ref a_Mn, .ref a_Sk])), (a_Go, .inl (cI, 2, .inl v_Go)), (a_Le, .inl (cI, 200, .inl v_Le)), (a_Mn, .inl (cI, 3328, .inl u)), (a_Ri, .inl (cI, 200, .inl v_Ri)), (a_Sy, .inl (cI, 200, .inl v_Sy)), (a_To, .inl (cI, 256, .inl v_To))]) (va_A [(a_o, .inr (6, [.ref a_To, .ref a_Go, .int v_Co, .ref a_Sy, .ref a_Le, .ref a_Ri, .ref a_Ln, .ref a_Wr, .ref a_Tr, .ref a_Mn, .ref a_Sk])), (a_Go, .inl (cI, 2, .inl v_Go)), (a_Le, .inl (cI, 200, .inl v_Le)), (a_Mn, .inl (cI, 3328, .inl v_Mn)), (a_Ri, .inl (cI, 200, .inl v_Ri)), (a_Sy, .inl (cI, 200, .inl v_Sy)), (a_To, .inl (cI, 256, .inl v_To))] sz)) (va_A [(a_o, .inr (6, [.ref a_To, .ref a_Go, .int v_Co, .ref a_Sy, .ref a_Le, .ref a_Ri, .ref a_Ln, .ref a_Wr, .ref a_Tr, .ref a_Mn, .ref a_Sk])), (a_Go, .inl (cI, 2, .inl v_Go)), (a_Le, .inl (cI, 200, .inl v_Le)), (a_Mn, .inl (cI, 3328, .inl v_Mn)), (a_Ri, .inl (cI, 200, .inl v_Ri)), (a_Sy, .inl (cI, 200, .inl v_Sy)), (a_To, .inl (cI, 256, .inl v_To))] sz)) 0 0 (va_A [(a_o, .inr (6, [.ref a_To, .ref a_Go, .int v_Co, .ref a_Sy, .ref a_Le, .ref a_Ri, .ref a_Ln, .ref a_Wr, .ref a_Tr, .ref a_Mn, .ref a_Sk])), (a_Go, .inl (cI, 2, .inl v_Go)), (a_Le, .inl (cI, 200, .inl v_Le)), (a_Mn, .inl (cI, 3328, .inl v_Mn)), (a_Ri, .inl (cI, 200, .inl v_Ri)), (a_Sy, .inl (cI, 200, .inl v_Sy)), (a_To, .inl (cI, 256, .inl v_To))] sz) := by
  refine Met.ofW (cc := cX6_place) (maxL := 3) (ret := (some .int)) (by decide) rfl ?_
  intro p e s m args below meth c s₁ B hml hv
  obtain ⟨rfl, hsz, hP, hK, hD0⟩ := hv
  subst hsz
  have hD := hD0.self (sz := s.heap.size)
  generalize hAe : va_A [(a_o, .inr (6, [.ref a_To, .ref a_Go, .int v_Co, .ref a_Sy, .ref a_Le, .ref a_Ri, .ref a_Ln, .ref a_Wr, .ref a_Tr, .ref a_Mn, .ref a_Sk])), (a_Go, .inl (cI, 2, .inl v_Go)), (a_Le, .inl (cI, 200, .inl v_Le)), (a_Mn, .inl (cI, 3328, .inl v_Mn)), (a_Ri, .inl (cI, 200, .inl v_Ri)), (a_Sy, .inl (cI, 200, .inl v_Sy)), (a_To, .inl (cI, 256, .inl v_To))] s.heap.size = A at hD ⊢
  have hA : ∀ q : Nat, s.heap.size ≤ q → A q := fun q h => by rw [← hAe]; exact Or.inr h
  have hl := lv_entry ([.ref a_o, .int x1]) (n := 3) (Nat.le_of_ble_eq_true rfl)
  rw [lg_entry_eq]
  generalize (lg_sl ([.ref a_o, .int x1]) ++ List.replicate (3 - (lg_sl ([.ref a_o, .int x1])).length) Slot.unset).toArray = ls at hl ⊢
  have hl : lv_has ls 3 [(0, .ref a_o), (1, .int x1)] := hl
  exact bk_X6_place_in ⟨B.exec, B.bytes, B.returns, hml, findClass_of_methodNamed B.named, atoms_spec (ws := wsX6_place) B.pre, B.notSynchronized⟩ hK hA v_Mn x1 h s.heap [] hP hD va_S.rf ls hl
/-! X6_size (I)I -/
theorem in_X6_size_X6 : ∀ w ∈ u_ws RX6 TX6 11, w ∈ wsX6_size := by decide +kernel
abbrev rm_X6_size : Room := { frames := 1, cells := 0, slots := 0, locals := 22 }
def wp_X6_size_73 (v_Co : Int32) (v_Le : Nat → Int32) (v_Ri : Nat → Int32) (K18 : (Nat → Int32) → Int32 → Int32 → Prop) (Q : Int32 → (Nat → Int32) → Prop) (v_Mn : Nat → Int32) (z0 : Int32) (z1 : Int32) (x1 : Int32) (x2 : Int32) : Prop :=
  ∀ x3_13 : Int32, x3_13 = (z0 + z1) → ((x3_13 ≤ 1000 → vp_in x2 3328 ∧ ∀ f_16 : Nat → Int32, f_16 = upd v_Mn (x2).toNatClampNeg x3_13 → ∀ x2_17 : Int32, x2_17 = x2 + 1 → K18 f_16 x1 x2_17) ∧ (¬ (x3_13 ≤ 1000) → vp_in x2 3328 ∧ ∀ f_19 : Nat → Int32, f_19 = upd v_Mn (x2).toNatClampNeg 1000 → ∀ x2_20 : Int32, x2_20 = x2 + 1 → K18 f_19 x1 x2_20))
set_option maxRecDepth 100000 in
set_option maxHeartbeats 4000000 in
theorem bk_X6_size_73 {p : Program} {l : Launch} {e : Env} {s : State} {m : MethodId} {args : Array Value} {below : List Frame} {meth : Method} {c : Code} {D : va_G} {cI cB : ClassId} {a_o a_To a_Go a_Sy a_Le a_Ri a_Ln a_Wr a_Tr a_Mn a_Sk : Nat} {A : Nat → Prop} {v_Co : Int32} {v_Le : Nat → Int32} {v_Ri : Nat → Int32} {Q : Int32 → (Nat → Int32) → Prop} (C : tm_cx p s m args meth c cX6_size 4 (some .int) RX6 wsX6_size) (hK : tm_kx D cI cB s) (hA : ∀ q : Nat, s.heap.size ≤ q → A q) {K18 : (Nat → Int32) → Int32 → Int32 → Prop} (k18 : ∀ (v_Mn : Nat → Int32) (x1 : Int32) (x2 : Int32), K18 v_Mn x1 x2 → ∀ (H : Heap) (locs : List Loc), va_P D vwCl [(a_o, .inr (6, [.ref a_To, .ref a_Go, .int v_Co, .ref a_Sy, .ref a_Le, .ref a_Ri, .ref a_Ln, .ref a_Wr, .ref a_Tr, .ref a_Mn, .ref a_Sk])), (a_Le, .inl (cI, 200, .inl v_Le)), (a_Mn, .inl (cI, 3328, .inl v_Mn)), (a_Ri, .inl (cI, 200, .inl v_Ri))] H → va_D A [(a_o, .inr (6, [.ref a_To, .ref a_Go, .int v_Co, .ref a_Sy, .ref a_Le, .ref a_Ri, .ref a_Ln, .ref a_Wr, .ref a_Tr, .ref a_Mn, .ref a_Sk])), (a_Le, .inl (cI, 200, .inl v_Le)), (a_Mn, .inl (cI, 3328, .inl v_Mn)), (a_Ri, .inl (cI, 200, .inl v_Ri))] → va_S A s.heap H locs → ∀ (ls : Array Slot), lv_has ls 4 [(0, .ref a_o), (1, .int x1), (2, .int x2)] → W p l e (headSpec wsX6_size rm_X6_size).room s m args below meth c H locs 0 0 (MQ below (va_Qi (fun (r : Int32) (u : (Nat → Int32)) => Q r u) (tm_B D (fun (u : (Nat → Int32)) => [(a_o, .inr (6, [.ref a_To, .ref a_Go, .int v_Co, .ref a_Sy, .ref a_Le, .ref a_Ri, .ref a_Ln, .ref a_Wr, .ref a_Tr, .ref a_Mn, .ref a_Sk])), (a_Le, .inl (cI, 200, .inl v_Le)), (a_Mn, .inl (cI, 3328, .inl u)), (a_Ri, .inl (cI, 200, .inl v_Ri))]) A) A) args s 0 0 A) (F0 m 18 ls [])) (v_Mn : Nat → Int32) (z0 : Int32) (z1 : Int32) (x1 : Int32) (x2 : Int32) (h : wp_X6_size_73 v_Co v_Le v_Ri K18 Q v_Mn z0 z1 x1 x2) : ∀ (H : Heap) (locs : List Loc), va_P D vwCl [(a_o, .inr (6, [.ref a_To, .ref a_Go, .int v_Co, .ref a_Sy, .ref a_Le, .ref a_Ri, .ref a_Ln, .ref a_Wr, .ref a_Tr, .ref a_Mn, .ref a_Sk])), (a_Le, .inl (cI, 200, .inl v_Le)), (a_Mn, .inl (cI, 3328, .inl v_Mn)), (a_Ri, .inl (cI, 200, .inl v_Ri))] H → va_D A [(a_o, .inr (6, [.ref a_To, .ref a_Go, .int v_Co, .ref a_Sy, .ref a_Le, .ref a_Ri, .ref a_Ln, .ref a_Wr, .ref a_Tr, .ref a_Mn, .ref a_Sk])), (a_Le, .inl (cI, 200, .inl v_Le)), (a_Mn, .inl (cI, 3328, .inl v_Mn)), (a_Ri, .inl (cI, 200, .inl v_Ri))] → va_S A s.heap H locs → ∀ (ls : Array Slot), lv_has ls 4 [(0, .ref a_o), (1, .int x1), (2, .int x2)] → W p l e (headSpec wsX6_size rm_X6_size).room s m args below meth c H locs 0 0 (MQ below (va_Qi (fun (r : Int32) (u : (Nat → Int32)) => Q r u) (tm_B D (fun (u : (Nat → Int32)) => [(a_o, .inr (6, [.ref a_To, .ref a_Go, .int v_Co, .ref a_Sy, .ref a_Le, .ref a_Ri, .ref a_Ln, .ref a_Wr, .ref a_Tr, .ref a_Mn, .ref a_Sk])), (a_Le, .inl (cI, 200, .inl v_Le)), (a_Mn, .inl (cI, 3328, .inl u)), (a_Ri, .inl (cI, 200, .inl v_Ri))]) A) A) args s 0 0 A) (F0 m 73 ls [.int z1, .int z0]) := by
  obtain ⟨hx, hb, hr, hml, hown, hts, hlocks⟩ := id C
  intro H locs hP hD hS ls hl
  unfold wp_X6_size_73 at h
  refine lv_iadd hx hb dX6_size_73 ?_
  refine lv_topi (fun x3_13 ex3_13 => ?_)
  have h := h x3_13 ex3_13
  refine lv_istore_n (lv' := [(3, .int x3_13), (0, .ref a_o), (1, .int x1), (2, .int x2)]) hx hb dX6_size_74 rfl hl (by decide) rfl (fun ls hl => ?_)
  refine lv_aload_n hx hb dX6_size_75 rfl (lv_at hl 1 rfl) ?_
  refine va_get (D := D) (ci := 6) (v := .ref a_Mn) (C := RX6) (T := TX6) (N := 11) hx hb hts in_X6_size_X6 hown hK.1 hP 0 rfl rfl 9 (by decide) (hts (.fieldLink RX6 35 "TreeMachinesModel" "many" "[I") (by decide +kernel)) (fun _ h9 => h9) rfl dX6_size_76 ?_
  refine lv_iload_n hx hb dX6_size_79 rfl (lv_at hl 3 rfl) ?_
  refine lv_iload_n hx hb dX6_size_80 rfl (lv_at hl 0 rfl) ?_
  refine lv_sipush (v := 1000) hx hb dX6_size_81 (by decide) ?_
  refine lv_icmp_le (tgt := 93) hx hb dX6_size_84 (by decide) (fun c14 => ?_) (fun c14 => ?_)
  · have h := h.1 c14
    refine lv_iload_n hx hb dX6_size_93 rfl (lv_at hl 0 rfl) ?_
    obtain ⟨b15, h⟩ := h
    refine va_iast hx hb hK.1 hP hD hS 2 0 rfl rfl b15 dX6_size_94 (fun H locs hP hD hS => ?_)
    obtain ⟨f_16, ef_16⟩ : ∃ y : Nat → Int32, y = upd v_Mn (x2).toNatClampNeg x3_13 := ⟨_, rfl⟩
    have h := h f_16 ef_16
    have hP : va_P D vwCl [(a_o, .inr (6, [.ref a_To, .ref a_Go, .int v_Co, .ref a_Sy, .ref a_Le, .ref a_Ri, .ref a_Ln, .ref a_Wr, .ref a_Tr, .ref a_Mn, .ref a_Sk])), (a_Le, .inl (cI, 200, .inl v_Le)), (a_Mn, .inl (cI, 3328, .inl f_16)), (a_Ri, .inl (cI, 200, .inl v_Ri))] H := by rw [ef_16]; exact hP
    have hD : va_D A [(a_o, .inr (6, [.ref a_To, .ref a_Go, .int v_Co, .ref a_Sy, .ref a_Le, .ref a_Ri, .ref a_Ln, .ref a_Wr, .ref a_Tr, .ref a_Mn, .ref a_Sk])), (a_Le, .inl (cI, 200, .inl v_Le)), (a_Mn, .inl (cI, 3328, .inl f_16)), (a_Ri, .inl (cI, 200, .inl v_Ri))] := by rw [ef_16]; exact hD
    obtain ⟨x2_17, ex2_17⟩ : ∃ y : Int32, y = x2 + 1 := ⟨_, rfl⟩
    have h := h x2_17 ex2_17
    refine lv_iinc (v := x2_17) (lv' := [(2, .int x2_17), (3, .int x3_13), (0, .ref a_o), (1, .int x1)]) hx hb dX6_size_95 hl (k := 3) rfl (by rw [ex2_17]; rfl) (by decide) rfl (fun ls hl => ?_)
    refine lv_goto (tgt := 18) hx hb dX6_size_98 (by decide) ?_
    exact k18 f_16 x1 x2_17 h H locs hP hD hS ls (lv_sub hl [2, 3, 0] rfl)
  · have h := h.2 c14
    refine lv_sipush (v := 1000) hx hb dX6_size_87 (by decide) ?_
    refine lv_goto (tgt := 94) hx hb dX6_size_90 (by decide) ?_
    obtain ⟨b18, h⟩ := h
    refine va_iast hx hb hK.1 hP hD hS 2 0 rfl rfl b18 dX6_size_94 (fun H locs hP hD hS => ?_)
    obtain ⟨f_19, ef_19⟩ : ∃ y : Nat → Int32, y = upd v_Mn (x2).toNatClampNeg 1000 := ⟨_, rfl⟩
    have h := h f_19 ef_19
    have hP : va_P D vwCl [(a_o, .inr (6, [.ref a_To, .ref a_Go, .int v_Co, .ref a_Sy, .ref a_Le, .ref a_Ri, .ref a_Ln, .ref a_Wr, .ref a_Tr, .ref a_Mn, .ref a_Sk])), (a_Le, .inl (cI, 200, .inl v_Le)), (a_Mn, .inl (cI, 3328, .inl f_19)), (a_Ri, .inl (cI, 200, .inl v_Ri))] H := by rw [ef_19]; exact hP
    have hD : va_D A [(a_o, .inr (6, [.ref a_To, .ref a_Go, .int v_Co, .ref a_Sy, .ref a_Le, .ref a_Ri, .ref a_Ln, .ref a_Wr, .ref a_Tr, .ref a_Mn, .ref a_Sk])), (a_Le, .inl (cI, 200, .inl v_Le)), (a_Mn, .inl (cI, 3328, .inl f_19)), (a_Ri, .inl (cI, 200, .inl v_Ri))] := by rw [ef_19]; exact hD
    obtain ⟨x2_20, ex2_20⟩ : ∃ y : Int32, y = x2 + 1 := ⟨_, rfl⟩
    have h := h x2_20 ex2_20
    refine lv_iinc (v := x2_20) (lv' := [(2, .int x2_20), (3, .int x3_13), (0, .ref a_o), (1, .int x1)]) hx hb dX6_size_95 hl (k := 3) rfl (by rw [ex2_20]; rfl) (by decide) rfl (fun ls hl => ?_)
    refine lv_goto (tgt := 18) hx hb dX6_size_98 (by decide) ?_
    exact k18 f_19 x1 x2_20 h H locs hP hD hS ls (lv_sub hl [2, 3, 0] rfl)
def wp_X6_size_48 (v_Co : Int32) (v_Le : Nat → Int32) (v_Ri : Nat → Int32) (K18 : (Nat → Int32) → Int32 → Int32 → Prop) (Q : Int32 → (Nat → Int32) → Prop) (v_Mn : Nat → Int32) (z0 : Int32) (z1 : Int32) (x1 : Int32) (x2 : Int32) : Prop :=
  vp_in x2 200 ∧ ((0 ≤ (v_Ri (x2).toNatClampNeg) → vp_in x2 200 ∧ vp_in (v_Ri (x2).toNatClampNeg) 3328 ∧ wp_X6_size_73 v_Co v_Le v_Ri K18 Q v_Mn (z0 + z1) (v_Mn ((v_Ri (x2).toNatClampNeg)).toNatClampNeg) x1 x2) ∧ (¬ (0 ≤ (v_Ri (x2).toNatClampNeg)) → wp_X6_size_73 v_Co v_Le v_Ri K18 Q v_Mn (z0 + z1) 0 x1 x2))
set_option maxRecDepth 100000 in
set_option maxHeartbeats 4000000 in
theorem bk_X6_size_48 {p : Program} {l : Launch} {e : Env} {s : State} {m : MethodId} {args : Array Value} {below : List Frame} {meth : Method} {c : Code} {D : va_G} {cI cB : ClassId} {a_o a_To a_Go a_Sy a_Le a_Ri a_Ln a_Wr a_Tr a_Mn a_Sk : Nat} {A : Nat → Prop} {v_Co : Int32} {v_Le : Nat → Int32} {v_Ri : Nat → Int32} {Q : Int32 → (Nat → Int32) → Prop} (C : tm_cx p s m args meth c cX6_size 4 (some .int) RX6 wsX6_size) (hK : tm_kx D cI cB s) (hA : ∀ q : Nat, s.heap.size ≤ q → A q) {K18 : (Nat → Int32) → Int32 → Int32 → Prop} (k18 : ∀ (v_Mn : Nat → Int32) (x1 : Int32) (x2 : Int32), K18 v_Mn x1 x2 → ∀ (H : Heap) (locs : List Loc), va_P D vwCl [(a_o, .inr (6, [.ref a_To, .ref a_Go, .int v_Co, .ref a_Sy, .ref a_Le, .ref a_Ri, .ref a_Ln, .ref a_Wr, .ref a_Tr, .ref a_Mn, .ref a_Sk])), (a_Le, .inl (cI, 200, .inl v_Le)), (a_Mn, .inl (cI, 3328, .inl v_Mn)), (a_Ri, .inl (cI, 200, .inl v_Ri))] H → va_D A [(a_o, .inr (6, [.ref a_To, .ref a_Go, .int v_Co, .ref a_Sy, .ref a_Le, .ref a_Ri, .ref a_Ln, .ref a_Wr, .ref a_Tr, .ref a_Mn, .ref a_Sk])), (a_Le, .inl (cI, 200, .inl v_Le)), (a_Mn, .inl (cI, 3328, .inl v_Mn)), (a_Ri, .inl (cI, 200, .inl v_Ri))] → va_S A s.heap H locs → ∀ (ls : Array Slot), lv_has ls 4 [(0, .ref a_o), (1, .int x1), (2, .int x2)] → W p l e (headSpec wsX6_size rm_X6_size).room s m args below meth c H locs 0 0 (MQ below (va_Qi (fun (r : Int32) (u : (Nat → Int32)) => Q r u) (tm_B D (fun (u : (Nat → Int32)) => [(a_o, .inr (6, [.ref a_To, .ref a_Go, .int v_Co, .ref a_Sy, .ref a_Le, .ref a_Ri, .ref a_Ln, .ref a_Wr, .ref a_Tr, .ref a_Mn, .ref a_Sk])), (a_Le, .inl (cI, 200, .inl v_Le)), (a_Mn, .inl (cI, 3328, .inl u)), (a_Ri, .inl (cI, 200, .inl v_Ri))]) A) A) args s 0 0 A) (F0 m 18 ls [])) (v_Mn : Nat → Int32) (z0 : Int32) (z1 : Int32) (x1 : Int32) (x2 : Int32) (h : wp_X6_size_48 v_Co v_Le v_Ri K18 Q v_Mn z0 z1 x1 x2) : ∀ (H : Heap) (locs : List Loc), va_P D vwCl [(a_o, .inr (6, [.ref a_To, .ref a_Go, .int v_Co, .ref a_Sy, .ref a_Le, .ref a_Ri, .ref a_Ln, .ref a_Wr, .ref a_Tr, .ref a_Mn, .ref a_Sk])), (a_Le, .inl (cI, 200, .inl v_Le)), (a_Mn, .inl (cI, 3328, .inl v_Mn)), (a_Ri, .inl (cI, 200, .inl v_Ri))] H → va_D A [(a_o, .inr (6, [.ref a_To, .ref a_Go, .int v_Co, .ref a_Sy, .ref a_Le, .ref a_Ri, .ref a_Ln, .ref a_Wr, .ref a_Tr, .ref a_Mn, .ref a_Sk])), (a_Le, .inl (cI, 200, .inl v_Le)), (a_Mn, .inl (cI, 3328, .inl v_Mn)), (a_Ri, .inl (cI, 200, .inl v_Ri))] → va_S A s.heap H locs → ∀ (ls : Array Slot), lv_has ls 4 [(0, .ref a_o), (1, .int x1), (2, .int x2)] → W p l e (headSpec wsX6_size rm_X6_size).room s m args below meth c H locs 0 0 (MQ below (va_Qi (fun (r : Int32) (u : (Nat → Int32)) => Q r u) (tm_B D (fun (u : (Nat → Int32)) => [(a_o, .inr (6, [.ref a_To, .ref a_Go, .int v_Co, .ref a_Sy, .ref a_Le, .ref a_Ri, .ref a_Ln, .ref a_Wr, .ref a_Tr, .ref a_Mn, .ref a_Sk])), (a_Le, .inl (cI, 200, .inl v_Le)), (a_Mn, .inl (cI, 3328, .inl u)), (a_Ri, .inl (cI, 200, .inl v_Ri))]) A) A) args s 0 0 A) (F0 m 48 ls [.int z1, .int z0]) := by
  obtain ⟨hx, hb, hr, hml, hown, hts, hlocks⟩ := id C
  intro H locs hP hD hS ls hl
  unfold wp_X6_size_48 at h
  refine lv_iadd hx hb dX6_size_48 ?_
  refine lv_aload_n hx hb dX6_size_49 rfl (lv_at hl 0 rfl) ?_
  refine va_get (D := D) (ci := 6) (v := .ref a_Ri) (C := RX6) (T := TX6) (N := 11) hx hb hts in_X6_size_X6 hown hK.1 hP 0 rfl rfl 5 (by decide) (hts (.fieldLink RX6 22 "TreeMachinesModel" "rightOf" "[I") (by decide +kernel)) (fun _ h9 => h9) rfl dX6_size_50 ?_
  refine lv_iload_n hx hb dX6_size_53 rfl (lv_at hl 2 rfl) ?_
  obtain ⟨b9, h⟩ := h
  refine va_iald hx hb hK.1 hP 3 0 rfl rfl b9 dX6_size_54 ?_
  refine lv_if_ge (tgt := 62) hx hb dX6_size_55 (by decide) (fun c10 => ?_) (fun c10 => ?_)
  · have h := h.1 c10
    refine lv_aload_n hx hb dX6_size_62 rfl (lv_at hl 0 rfl) ?_
    refine va_get (D := D) (ci := 6) (v := .ref a_Mn) (C := RX6) (T := TX6) (N := 11) hx hb hts in_X6_size_X6 hown hK.1 hP 0 rfl rfl 9 (by decide) (hts (.fieldLink RX6 35 "TreeMachinesModel" "many" "[I") (by decide +kernel)) (fun _ h9 => h9) rfl dX6_size_63 ?_
    refine lv_aload_n hx hb dX6_size_66 rfl (lv_at hl 0 rfl) ?_
    refine va_get (D := D) (ci := 6) (v := .ref a_Ri) (C := RX6) (T := TX6) (N := 11) hx hb hts in_X6_size_X6 hown hK.1 hP 0 rfl rfl 5 (by decide) (hts (.fieldLink RX6 22 "TreeMachinesModel" "rightOf" "[I") (by decide +kernel)) (fun _ h9 => h9) rfl dX6_size_67 ?_
    refine lv_iload_n hx hb dX6_size_70 rfl (lv_at hl 2 rfl) ?_
    obtain ⟨b11, h⟩ := h
    refine va_iald hx hb hK.1 hP 3 0 rfl rfl b11 dX6_size_71 ?_
    obtain ⟨b12, h⟩ := h
    refine va_iald hx hb hK.1 hP 2 0 rfl rfl b12 dX6_size_72 ?_
    exact bk_X6_size_73 C hK hA k18 v_Mn (z0 + z1) (v_Mn ((v_Ri (x2).toNatClampNeg)).toNatClampNeg) x1 x2 h H locs hP hD hS ls (lv_sub hl [0, 1, 2] rfl)
  · have h := h.2 c10
    refine lv_iconst (v := 0) hx hb dX6_size_58 (by decide) ?_
    refine lv_goto (tgt := 73) hx hb dX6_size_59 (by decide) ?_
    exact bk_X6_size_73 C hK hA k18 v_Mn (z0 + z1) 0 x1 x2 h H locs hP hD hS ls (lv_sub hl [0, 1, 2] rfl)
def wp_X6_size_18 (v_Co : Int32) (v_Le : Nat → Int32) (v_Ri : Nat → Int32) (K18 : (Nat → Int32) → Int32 → Int32 → Prop) (Q : Int32 → (Nat → Int32) → Prop) (v_Mn : Nat → Int32) (x1 : Int32) (x2 : Int32) : Prop :=
  ((x1 < x2 → vp_in x1 3328 ∧ Q (v_Mn (x1).toNatClampNeg) v_Mn) ∧ (¬ (x1 < x2) → vp_in x2 200 ∧ ((0 ≤ (v_Le (x2).toNatClampNeg) → vp_in x2 200 ∧ vp_in (v_Le (x2).toNatClampNeg) 3328 ∧ wp_X6_size_48 v_Co v_Le v_Ri K18 Q v_Mn 1 (v_Mn ((v_Le (x2).toNatClampNeg)).toNatClampNeg) x1 x2) ∧ (¬ (0 ≤ (v_Le (x2).toNatClampNeg)) → wp_X6_size_48 v_Co v_Le v_Ri K18 Q v_Mn 1 0 x1 x2))))
set_option maxRecDepth 100000 in
set_option maxHeartbeats 4000000 in
theorem bk_X6_size_18 {p : Program} {l : Launch} {e : Env} {s : State} {m : MethodId} {args : Array Value} {below : List Frame} {meth : Method} {c : Code} {D : va_G} {cI cB : ClassId} {a_o a_To a_Go a_Sy a_Le a_Ri a_Ln a_Wr a_Tr a_Mn a_Sk : Nat} {A : Nat → Prop} {v_Co : Int32} {v_Le : Nat → Int32} {v_Ri : Nat → Int32} {Q : Int32 → (Nat → Int32) → Prop} (C : tm_cx p s m args meth c cX6_size 4 (some .int) RX6 wsX6_size) (hK : tm_kx D cI cB s) (hA : ∀ q : Nat, s.heap.size ≤ q → A q) {K18 : (Nat → Int32) → Int32 → Int32 → Prop} (k18 : ∀ (v_Mn : Nat → Int32) (x1 : Int32) (x2 : Int32), K18 v_Mn x1 x2 → ∀ (H : Heap) (locs : List Loc), va_P D vwCl [(a_o, .inr (6, [.ref a_To, .ref a_Go, .int v_Co, .ref a_Sy, .ref a_Le, .ref a_Ri, .ref a_Ln, .ref a_Wr, .ref a_Tr, .ref a_Mn, .ref a_Sk])), (a_Le, .inl (cI, 200, .inl v_Le)), (a_Mn, .inl (cI, 3328, .inl v_Mn)), (a_Ri, .inl (cI, 200, .inl v_Ri))] H → va_D A [(a_o, .inr (6, [.ref a_To, .ref a_Go, .int v_Co, .ref a_Sy, .ref a_Le, .ref a_Ri, .ref a_Ln, .ref a_Wr, .ref a_Tr, .ref a_Mn, .ref a_Sk])), (a_Le, .inl (cI, 200, .inl v_Le)), (a_Mn, .inl (cI, 3328, .inl v_Mn)), (a_Ri, .inl (cI, 200, .inl v_Ri))] → va_S A s.heap H locs → ∀ (ls : Array Slot), lv_has ls 4 [(0, .ref a_o), (1, .int x1), (2, .int x2)] → W p l e (headSpec wsX6_size rm_X6_size).room s m args below meth c H locs 0 0 (MQ below (va_Qi (fun (r : Int32) (u : (Nat → Int32)) => Q r u) (tm_B D (fun (u : (Nat → Int32)) => [(a_o, .inr (6, [.ref a_To, .ref a_Go, .int v_Co, .ref a_Sy, .ref a_Le, .ref a_Ri, .ref a_Ln, .ref a_Wr, .ref a_Tr, .ref a_Mn, .ref a_Sk])), (a_Le, .inl (cI, 200, .inl v_Le)), (a_Mn, .inl (cI, 3328, .inl u)), (a_Ri, .inl (cI, 200, .inl v_Ri))]) A) A) args s 0 0 A) (F0 m 18 ls [])) (v_Mn : Nat → Int32) (x1 : Int32) (x2 : Int32) (h : wp_X6_size_18 v_Co v_Le v_Ri K18 Q v_Mn x1 x2) : ∀ (H : Heap) (locs : List Loc), va_P D vwCl [(a_o, .inr (6, [.ref a_To, .ref a_Go, .int v_Co, .ref a_Sy, .ref a_Le, .ref a_Ri, .ref a_Ln, .ref a_Wr, .ref a_Tr, .ref a_Mn, .ref a_Sk])), (a_Le, .inl (cI, 200, .inl v_Le)), (a_Mn, .inl (cI, 3328, .inl v_Mn)), (a_Ri, .inl (cI, 200, .inl v_Ri))] H → va_D A [(a_o, .inr (6, [.ref a_To, .ref a_Go, .int v_Co, .ref a_Sy, .ref a_Le, .ref a_Ri, .ref a_Ln, .ref a_Wr, .ref a_Tr, .ref a_Mn, .ref a_Sk])), (a_Le, .inl (cI, 200, .inl v_Le)), (a_Mn, .inl (cI, 3328, .inl v_Mn)), (a_Ri, .inl (cI, 200, .inl v_Ri))] → va_S A s.heap H locs → ∀ (ls : Array Slot), lv_has ls 4 [(0, .ref a_o), (1, .int x1), (2, .int x2)] → W p l e (headSpec wsX6_size rm_X6_size).room s m args below meth c H locs 0 0 (MQ below (va_Qi (fun (r : Int32) (u : (Nat → Int32)) => Q r u) (tm_B D (fun (u : (Nat → Int32)) => [(a_o, .inr (6, [.ref a_To, .ref a_Go, .int v_Co, .ref a_Sy, .ref a_Le, .ref a_Ri, .ref a_Ln, .ref a_Wr, .ref a_Tr, .ref a_Mn, .ref a_Sk])), (a_Le, .inl (cI, 200, .inl v_Le)), (a_Mn, .inl (cI, 3328, .inl u)), (a_Ri, .inl (cI, 200, .inl v_Ri))]) A) A) args s 0 0 A) (F0 m 18 ls []) := by
  obtain ⟨hx, hb, hr, hml, hown, hts, hlocks⟩ := id C
  intro H locs hP hD hS ls hl
  unfold wp_X6_size_18 at h
  refine lv_iload_n hx hb dX6_size_18 rfl (lv_at hl 2 rfl) ?_
  refine lv_iload_n hx hb dX6_size_19 rfl (lv_at hl 1 rfl) ?_
  refine lv_icmp_gt (tgt := 101) hx hb dX6_size_20 (by decide) (fun c3 => ?_) (fun c3 => ?_)
  · have h := h.1 c3
    refine lv_aload_n hx hb dX6_size_101 rfl (lv_at hl 0 rfl) ?_
    refine va_get (D := D) (ci := 6) (v := .ref a_Mn) (C := RX6) (T := TX6) (N := 11) hx hb hts in_X6_size_X6 hown hK.1 hP 0 rfl rfl 9 (by decide) (hts (.fieldLink RX6 35 "TreeMachinesModel" "many" "[I") (by decide +kernel)) (fun _ h9 => h9) rfl dX6_size_102 ?_
    refine lv_iload_n hx hb dX6_size_105 rfl (lv_at hl 1 rfl) ?_
    obtain ⟨b4, h⟩ := h
    refine va_iald hx hb hK.1 hP 2 0 rfl rfl b4 dX6_size_106 ?_
    exact W.iret (v := (v_Mn (x1).toNatClampNeg)) hx hb hr (fun t ht hW => ⟨⟨(v_Mn (x1).toNatClampNeg), v_Mn, rfl, h, by rw [ht]; exact hP, hD⟩, hS.F ht⟩) hS.2.2 dX6_size_107
  · have h := h.2 c3
    refine lv_iconst (v := 1) hx hb dX6_size_23 (by decide) ?_
    refine lv_aload_n hx hb dX6_size_24 rfl (lv_at hl 0 rfl) ?_
    refine va_get (D := D) (ci := 6) (v := .ref a_Le) (C := RX6) (T := TX6) (N := 11) hx hb hts in_X6_size_X6 hown hK.1 hP 0 rfl rfl 4 (by decide) (hts (.fieldLink RX6 19 "TreeMachinesModel" "leftOf" "[I") (by decide +kernel)) (fun _ h9 => h9) rfl dX6_size_25 ?_
    refine lv_iload_n hx hb dX6_size_28 rfl (lv_at hl 2 rfl) ?_
    obtain ⟨b5, h⟩ := h
    refine va_iald hx hb hK.1 hP 1 0 rfl rfl b5 dX6_size_29 ?_
    refine lv_if_ge (tgt := 37) hx hb dX6_size_30 (by decide) (fun c6 => ?_) (fun c6 => ?_)
    · have h := h.1 c6
      refine lv_aload_n hx hb dX6_size_37 rfl (lv_at hl 0 rfl) ?_
      refine va_get (D := D) (ci := 6) (v := .ref a_Mn) (C := RX6) (T := TX6) (N := 11) hx hb hts in_X6_size_X6 hown hK.1 hP 0 rfl rfl 9 (by decide) (hts (.fieldLink RX6 35 "TreeMachinesModel" "many" "[I") (by decide +kernel)) (fun _ h9 => h9) rfl dX6_size_38 ?_
      refine lv_aload_n hx hb dX6_size_41 rfl (lv_at hl 0 rfl) ?_
      refine va_get (D := D) (ci := 6) (v := .ref a_Le) (C := RX6) (T := TX6) (N := 11) hx hb hts in_X6_size_X6 hown hK.1 hP 0 rfl rfl 4 (by decide) (hts (.fieldLink RX6 19 "TreeMachinesModel" "leftOf" "[I") (by decide +kernel)) (fun _ h9 => h9) rfl dX6_size_42 ?_
      refine lv_iload_n hx hb dX6_size_45 rfl (lv_at hl 2 rfl) ?_
      obtain ⟨b7, h⟩ := h
      refine va_iald hx hb hK.1 hP 1 0 rfl rfl b7 dX6_size_46 ?_
      obtain ⟨b8, h⟩ := h
      refine va_iald hx hb hK.1 hP 2 0 rfl rfl b8 dX6_size_47 ?_
      exact bk_X6_size_48 C hK hA k18 v_Mn 1 (v_Mn ((v_Le (x2).toNatClampNeg)).toNatClampNeg) x1 x2 h H locs hP hD hS ls (lv_sub hl [0, 1, 2] rfl)
    · have h := h.2 c6
      refine lv_iconst (v := 0) hx hb dX6_size_33 (by decide) ?_
      refine lv_goto (tgt := 48) hx hb dX6_size_34 (by decide) ?_
      exact bk_X6_size_48 C hK hA k18 v_Mn 1 0 x1 x2 h H locs hP hD hS ls (lv_sub hl [0, 1, 2] rfl)
def lp_X6_size_18 (v_Co : Int32) (v_Le : Nat → Int32) (v_Ri : Nat → Int32) (Q : Int32 → (Nat → Int32) → Prop) : Nat → (Nat → Int32) → Int32 → Int32 → Prop
  | 0, _, _, _ => False
  | n + 1, v_Mn, x1, x2 => wp_X6_size_18 v_Co v_Le v_Ri (lp_X6_size_18 v_Co v_Le v_Ri Q n) Q v_Mn x1 x2
set_option maxRecDepth 100000 in
theorem lt_X6_size_18 {p : Program} {l : Launch} {e : Env} {s : State} {m : MethodId} {args : Array Value} {below : List Frame} {meth : Method} {c : Code} {D : va_G} {cI cB : ClassId} {a_o a_To a_Go a_Sy a_Le a_Ri a_Ln a_Wr a_Tr a_Mn a_Sk : Nat} {A : Nat → Prop} {v_Co : Int32} {v_Le : Nat → Int32} {v_Ri : Nat → Int32} {Q : Int32 → (Nat → Int32) → Prop} (C : tm_cx p s m args meth c cX6_size 4 (some .int) RX6 wsX6_size) (hK : tm_kx D cI cB s) (hA : ∀ q : Nat, s.heap.size ≤ q → A q) : ∀ (n : Nat) (v_Mn : Nat → Int32) (x1 : Int32) (x2 : Int32), lp_X6_size_18 v_Co v_Le v_Ri Q n v_Mn x1 x2 → ∀ (H : Heap) (locs : List Loc), va_P D vwCl [(a_o, .inr (6, [.ref a_To, .ref a_Go, .int v_Co, .ref a_Sy, .ref a_Le, .ref a_Ri, .ref a_Ln, .ref a_Wr, .ref a_Tr, .ref a_Mn, .ref a_Sk])), (a_Le, .inl (cI, 200, .inl v_Le)), (a_Mn, .inl (cI, 3328, .inl v_Mn)), (a_Ri, .inl (cI, 200, .inl v_Ri))] H → va_D A [(a_o, .inr (6, [.ref a_To, .ref a_Go, .int v_Co, .ref a_Sy, .ref a_Le, .ref a_Ri, .ref a_Ln, .ref a_Wr, .ref a_Tr, .ref a_Mn, .ref a_Sk])), (a_Le, .inl (cI, 200, .inl v_Le)), (a_Mn, .inl (cI, 3328, .inl v_Mn)), (a_Ri, .inl (cI, 200, .inl v_Ri))] → va_S A s.heap H locs → ∀ (ls : Array Slot), lv_has ls 4 [(0, .ref a_o), (1, .int x1), (2, .int x2)] → W p l e (headSpec wsX6_size rm_X6_size).room s m args below meth c H locs 0 0 (MQ below (va_Qi (fun (r : Int32) (u : (Nat → Int32)) => Q r u) (tm_B D (fun (u : (Nat → Int32)) => [(a_o, .inr (6, [.ref a_To, .ref a_Go, .int v_Co, .ref a_Sy, .ref a_Le, .ref a_Ri, .ref a_Ln, .ref a_Wr, .ref a_Tr, .ref a_Mn, .ref a_Sk])), (a_Le, .inl (cI, 200, .inl v_Le)), (a_Mn, .inl (cI, 3328, .inl u)), (a_Ri, .inl (cI, 200, .inl v_Ri))]) A) A) args s 0 0 A) (F0 m 18 ls []) := by
  intro n
  induction n with
  | zero => intro _ _ _ h; exact False.elim h
  | succ n ih => intro v_Mn x1 x2 h; exact bk_X6_size_18 C hK hA ih v_Mn x1 x2 h
def wp_X6_size_in (v_Co : Int32) (v_Le : Nat → Int32) (v_Ri : Nat → Int32) (Q : Int32 → (Nat → Int32) → Prop) (v_Mn : Nat → Int32) (x1 : Int32) : Prop :=
  wp_X6_within x1 0 (v_Co - 1) (fun r1 => ((r1 = 0 → Q (-1) v_Mn) ∧ (¬ (r1 = 0) → (∃ n : Nat, lp_X6_size_18 v_Co v_Le v_Ri Q n v_Mn x1 0))))
set_option maxRecDepth 100000 in
set_option maxHeartbeats 4000000 in
theorem bk_X6_size_in {p : Program} {l : Launch} {e : Env} {s : State} {m : MethodId} {args : Array Value} {below : List Frame} {meth : Method} {c : Code} {D : va_G} {cI cB : ClassId} {a_o a_To a_Go a_Sy a_Le a_Ri a_Ln a_Wr a_Tr a_Mn a_Sk : Nat} {A : Nat → Prop} {v_Co : Int32} {v_Le : Nat → Int32} {v_Ri : Nat → Int32} {Q : Int32 → (Nat → Int32) → Prop} (C : tm_cx p s m args meth c cX6_size 4 (some .int) RX6 wsX6_size) (hK : tm_kx D cI cB s) (hA : ∀ q : Nat, s.heap.size ≤ q → A q) (v_Mn : Nat → Int32) (x1 : Int32) (h : wp_X6_size_in v_Co v_Le v_Ri Q v_Mn x1) : ∀ (H : Heap) (locs : List Loc), va_P D vwCl [(a_o, .inr (6, [.ref a_To, .ref a_Go, .int v_Co, .ref a_Sy, .ref a_Le, .ref a_Ri, .ref a_Ln, .ref a_Wr, .ref a_Tr, .ref a_Mn, .ref a_Sk])), (a_Le, .inl (cI, 200, .inl v_Le)), (a_Mn, .inl (cI, 3328, .inl v_Mn)), (a_Ri, .inl (cI, 200, .inl v_Ri))] H → va_D A [(a_o, .inr (6, [.ref a_To, .ref a_Go, .int v_Co, .ref a_Sy, .ref a_Le, .ref a_Ri, .ref a_Ln, .ref a_Wr, .ref a_Tr, .ref a_Mn, .ref a_Sk])), (a_Le, .inl (cI, 200, .inl v_Le)), (a_Mn, .inl (cI, 3328, .inl v_Mn)), (a_Ri, .inl (cI, 200, .inl v_Ri))] → va_S A s.heap H locs → ∀ (ls : Array Slot), lv_has ls 4 [(0, .ref a_o), (1, .int x1)] → W p l e (headSpec wsX6_size rm_X6_size).room s m args below meth c H locs 0 0 (MQ below (va_Qi (fun (r : Int32) (u : (Nat → Int32)) => Q r u) (tm_B D (fun (u : (Nat → Int32)) => [(a_o, .inr (6, [.ref a_To, .ref a_Go, .int v_Co, .ref a_Sy, .ref a_Le, .ref a_Ri, .ref a_Ln, .ref a_Wr, .ref a_Tr, .ref a_Mn, .ref a_Sk])), (a_Le, .inl (cI, 200, .inl v_Le)), (a_Mn, .inl (cI, 3328, .inl u)), (a_Ri, .inl (cI, 200, .inl v_Ri))]) A) A) args s 0 0 A) (F0 m 0 ls []) := by
  obtain ⟨hx, hb, hr, hml, hown, hts, hlocks⟩ := id C
  intro H locs hP hD hS ls hl
  unfold wp_X6_size_in at h
  refine lv_iload_n hx hb dX6_size_0 rfl (lv_at hl 1 rfl) ?_
  refine lv_iconst (v := 0) hx hb dX6_size_1 (by decide) ?_
  refine lv_aload_n hx hb dX6_size_2 rfl (lv_at hl 0 rfl) ?_
  refine va_get (D := D) (ci := 6) (v := .int v_Co) (C := RX6) (T := TX6) (N := 11) hx hb hts in_X6_size_X6 hown hK.1 hP 0 rfl rfl 2 (by decide) (hts (.fieldLink RX6 53 "TreeMachinesModel" "count" "I") (by decide +kernel)) (fun _ h9 => h9) rfl dX6_size_3 ?_
  refine lv_iconst (v := 1) hx hb dX6_size_6 (by decide) ?_
  refine lv_isub (x := v_Co) (y := 1) hx hb dX6_size_7 ?_
  refine tm_rS (As := [.int x1, .int 0, .int (v_Co - 1)]) (rest := []) (wc := []) ⟨hx, hb, hml, hown, hts⟩ (cn_X6_within l D cI cB x1 0 (v_Co - 1) _ h) (va_cwS 3 hts gX6_size_X6_within rfl rfl rfl (by decide +kernel) ⟨Nat.le_of_ble_eq_true rfl, Nat.le_of_ble_eq_true rfl⟩) hK (hP.sub [] rfl) rfl hl.1 rfl (Nat.le_of_ble_eq_true rfl) ⟨Nat.zero_le _, Nat.zero_le _⟩ dX6_size_8 (fun r1 h => ?_)
  obtain ⟨br1, h⟩ := h
  refine lv_if_ne (tgt := 16) hx hb dX6_size_11 (by decide) (fun c2 => ?_) (fun c2 => ?_)
  · have h := h.2 c2
    refine lv_iconst (v := 0) hx hb dX6_size_16 (by decide) ?_
    refine lv_istore_n (lv' := [(2, .int 0), (0, .ref a_o), (1, .int x1)]) hx hb dX6_size_17 rfl hl (by decide) rfl (fun ls hl => ?_)
    obtain ⟨n, h⟩ := h
    exact lt_X6_size_18 C hK hA n v_Mn x1 0 h H locs hP hD hS ls (lv_sub hl [1, 2, 0] rfl)
  · have h := h.1 c2
    refine lv_iconst (v := (-1)) hx hb dX6_size_14 (by decide) ?_
    exact W.iret (v := (-1)) hx hb hr (fun t ht hW => ⟨⟨(-1), v_Mn, rfl, h, by rw [ht]; exact hP, hD⟩, hS.F ht⟩) hS.2.2 dX6_size_15
abbrev wp_X6_size (v_Co : Int32) (v_Le : Nat → Int32) (v_Mn : Nat → Int32) (v_Ri : Nat → Int32) (x1 : Int32) (Q : Int32 → (Nat → Int32) → Prop) : Prop := wp_X6_size_in v_Co v_Le v_Ri Q v_Mn x1
set_option maxRecDepth 100000 in
set_option maxHeartbeats 4000000 in
theorem cn_X6_size (l : Launch) (D : va_G) (cI cB : ClassId) (a_o a_To a_Go a_Sy a_Le a_Ri a_Ln a_Wr a_Tr a_Mn a_Sk : Nat) (v_Co : Int32) (v_Le : Nat → Int32) (v_Mn : Nat → Int32) (v_Ri : Nat → Int32) (x1 : Int32) (sz : Nat) (Q : Int32 → (Nat → Int32) → Prop) (h : wp_X6_size v_Co v_Le v_Mn v_Ri x1 Q) : Met l yX6_size wsX6_size rm_X6_size (tm_Pw D cI cB [.ref a_o, .int x1] [(a_o, .inr (6, [.ref a_To, .ref a_Go, .int v_Co, .ref a_Sy, .ref a_Le, .ref a_Ri, .ref a_Ln, .ref a_Wr, .ref a_Tr, .ref a_Mn, .ref a_Sk])), (a_Le, .inl (cI, 200, .inl v_Le)), (a_Mn, .inl (cI, 3328, .inl v_Mn)), (a_Ri, .inl (cI, 200, .inl v_Ri))] sz) (va_Qi (fun (r : Int32) (u : (Nat → Int32)) => Q r u) (tm_B D (fun (u : (Nat → Int32)) => [(a_o, .inr (6, [.ref a_To, .ref a_Go, .int v_Co, .ref a_Sy, .ref a_Le, .ref a_Ri, .ref a_Ln, .ref a_Wr, .ref a_Tr, .ref a_Mn, .ref a_Sk])), (a_Le, .inl (cI, 200, .inl v_Le)), (a_Mn, .inl (cI, 3328, .inl u)), (a_Ri, .inl (cI, 200, .inl v_Ri))]) (va_A [(a_o, .inr (6, [.ref a_To, .ref a_Go, .int v_Co, .ref a_Sy, .ref a_Le, .ref a_Ri, .ref a_Ln, .ref a_Wr, .ref a_Tr, .ref a_Mn, .ref a_Sk])), (a_Le, .inl (cI, 200, .inl v_Le)), (a_Mn, .inl (cI, 3328, .inl v_Mn)), (a_Ri, .inl (cI, 200, .inl v_Ri))] sz)) (va_A [(a_o, .inr (6, [.ref a_To, .ref a_Go, .int v_Co, .ref a_Sy, .ref a_Le, .ref a_Ri, .ref a_Ln, .ref a_Wr, .ref a_Tr, .ref a_Mn, .ref a_Sk])), (a_Le, .inl (cI, 200, .inl v_Le)), (a_Mn, .inl (cI, 3328, .inl v_Mn)), (a_Ri, .inl (cI, 200, .inl v_Ri))] sz)) 0 0 (va_A [(a_o, .inr (6, [.ref a_To, .ref a_Go, .int v_Co, .ref a_Sy, .ref a_Le, .ref a_Ri, .ref a_Ln, .ref a_Wr, .ref a_Tr, .ref a_Mn, .ref a_Sk])), (a_Le, .inl (cI, 200, .inl v_Le)), (a_Mn, .inl (cI, 3328, .inl v_Mn)), (a_Ri, .inl (cI, 200, .inl v_Ri))] sz) := by
  refine Met.ofW (cc := cX6_size) (maxL := 4) (ret := (some .int)) (by decide) rfl ?_
  intro p e s m args below meth c s₁ B hml hv
  obtain ⟨rfl, hsz, hP, hK, hD0⟩ := hv
  subst hsz
  have hD := hD0.self (sz := s.heap.size)
  generalize hAe : va_A [(a_o, .inr (6, [.ref a_To, .ref a_Go, .int v_Co, .ref a_Sy, .ref a_Le, .ref a_Ri, .ref a_Ln, .ref a_Wr, .ref a_Tr, .ref a_Mn, .ref a_Sk])), (a_Le, .inl (cI, 200, .inl v_Le)), (a_Mn, .inl (cI, 3328, .inl v_Mn)), (a_Ri, .inl (cI, 200, .inl v_Ri))] s.heap.size = A at hD ⊢
  have hA : ∀ q : Nat, s.heap.size ≤ q → A q := fun q h => by rw [← hAe]; exact Or.inr h
  have hl := lv_entry ([.ref a_o, .int x1]) (n := 4) (Nat.le_of_ble_eq_true rfl)
  rw [lg_entry_eq]
  generalize (lg_sl ([.ref a_o, .int x1]) ++ List.replicate (4 - (lg_sl ([.ref a_o, .int x1])).length) Slot.unset).toArray = ls at hl ⊢
  have hl : lv_has ls 4 [(0, .ref a_o), (1, .int x1)] := hl
  exact bk_X6_size_in ⟨B.exec, B.bytes, B.returns, hml, findClass_of_methodNamed B.named, atoms_spec (ws := wsX6_size) B.pre, B.notSynchronized⟩ hK hA v_Mn x1 h s.heap [] hP hD va_S.rf ls hl
/-! X6_profile (III)I -/
theorem in_X6_profile_X6 : ∀ w ∈ u_ws RX6 TX6 11, w ∈ wsX6_profile := by decide +kernel
abbrev rm_X6_profile : Room := { frames := 1, cells := 0, slots := 0, locals := 27 }
def wp_X6_profile_in (v_Co : Int32) (v_To : Nat → Int32) (Q : Int32 → Prop) (x1 : Int32) (x2 : Int32) (x3 : Int32) : Prop :=
  wp_X6_over v_Co v_To 0 x1 (x2 &&& 15) (x3 &&& 15) (fun r1 => wp_X6_over v_Co v_To 1 x1 (x2 >>> ((4 : Int32) &&& 31)) (x3 >>> ((4 : Int32) &&& 31)) (fun r2 => Q (r1 + ((16 : Int32) * r2))))
set_option maxRecDepth 100000 in
set_option maxHeartbeats 4000000 in
theorem bk_X6_profile_in {p : Program} {l : Launch} {e : Env} {s : State} {m : MethodId} {args : Array Value} {below : List Frame} {meth : Method} {c : Code} {D : va_G} {cI cB : ClassId} {a_o a_To a_Go a_Sy a_Le a_Ri a_Ln a_Wr a_Tr a_Mn a_Sk : Nat} {v_Co : Int32} {v_To : Nat → Int32} {Q : Int32 → Prop} (C : tm_cx p s m args meth c cX6_profile 5 (some .int) RX6 wsX6_profile) (hK : tm_kx D cI cB s) (x1 : Int32) (x2 : Int32) (x3 : Int32) (h : wp_X6_profile_in v_Co v_To Q x1 x2 x3) : va_P D vwCl [(a_o, .inr (6, [.ref a_To, .ref a_Go, .int v_Co, .ref a_Sy, .ref a_Le, .ref a_Ri, .ref a_Ln, .ref a_Wr, .ref a_Tr, .ref a_Mn, .ref a_Sk])), (a_To, .inl (cI, 256, .inl v_To))] s.heap → ∀ (ls : Array Slot), lv_has ls 5 [(0, .ref a_o), (1, .int x1), (2, .int x2), (3, .int x3)] → W p l e (headSpec wsX6_profile rm_X6_profile).room s m args below meth c s.heap [] 0 0 (MQ below (vp_Si Q) args s 0 0 (fun _ => False)) (F0 m 0 ls []) := by
  obtain ⟨hx, hb, hr, hml, hown, hts, hlocks⟩ := id C
  intro hP ls hl
  unfold wp_X6_profile_in at h
  refine lv_aload_n hx hb dX6_profile_0 rfl (lv_at hl 0 rfl) ?_
  refine lv_iconst (v := 0) hx hb dX6_profile_1 (by decide) ?_
  refine lv_iload_n hx hb dX6_profile_2 rfl (lv_at hl 1 rfl) ?_
  refine lv_iload_n hx hb dX6_profile_3 rfl (lv_at hl 2 rfl) ?_
  refine lv_bipush (v := 15) hx hb dX6_profile_4 (by decide) ?_
  refine lv_iand (x := x2) (y := 15) hx hb dX6_profile_6 ?_
  refine lv_iload_n hx hb dX6_profile_7 rfl (lv_at hl 3 rfl) ?_
  refine lv_bipush (v := 15) hx hb dX6_profile_8 (by decide) ?_
  refine lv_iand (x := x3) (y := 15) hx hb dX6_profile_10 ?_
  refine tm_rV (As := [.int 0, .int x1, .int (x2 &&& 15), .int (x3 &&& 15)]) (rest := []) (wc := [(a_o, .inr (6, [.ref a_To, .ref a_Go, .int v_Co, .ref a_Sy, .ref a_Le, .ref a_Ri, .ref a_Ln, .ref a_Wr, .ref a_Tr, .ref a_Mn, .ref a_Sk])), (a_To, .inl (cI, 256, .inl v_To))]) ⟨hx, hb, hml, hown, hts⟩ (cn_X6_over l D cI cB a_o a_To a_Go a_Sy a_Le a_Ri a_Ln a_Wr a_Tr a_Mn a_Sk v_Co v_To 0 x1 (x2 &&& 15) (x3 &&& 15) _ h) (cwV 4 hts gX6_profile_X6_over rfl rfl rfl (by decide +kernel) ⟨Nat.le_of_ble_eq_true rfl, Nat.le_of_ble_eq_true rfl⟩) hK (hP.sub [0, 1] rfl) (va_recv hK.1 hP (ci := 6) (q0 := 0) rfl rfl) rfl hl.1 rfl (Nat.le_of_ble_eq_true rfl) ⟨Nat.zero_le _, Nat.zero_le _⟩ dX6_profile_11 (fun r1 h => ?_)
  refine lv_istore (lv' := [(4, .int r1), (0, .ref a_o), (1, .int x1), (2, .int x2), (3, .int x3)]) hx hb dX6_profile_14 hl (by decide) rfl (fun ls hl => ?_)
  refine lv_iload hx hb dX6_profile_16 (lv_at hl 0 rfl) ?_
  refine lv_bipush (v := 16) hx hb dX6_profile_18 (by decide) ?_
  refine lv_aload_n hx hb dX6_profile_20 rfl (lv_at hl 1 rfl) ?_
  refine lv_iconst (v := 1) hx hb dX6_profile_21 (by decide) ?_
  refine lv_iload_n hx hb dX6_profile_22 rfl (lv_at hl 2 rfl) ?_
  refine lv_iload_n hx hb dX6_profile_23 rfl (lv_at hl 3 rfl) ?_
  refine lv_iconst (v := 4) hx hb dX6_profile_24 (by decide) ?_
  refine lv_ishr (x := x2) (y := 4) hx hb dX6_profile_25 ?_
  refine lv_iload_n hx hb dX6_profile_26 rfl (lv_at hl 4 rfl) ?_
  refine lv_iconst (v := 4) hx hb dX6_profile_27 (by decide) ?_
  refine lv_ishr (x := x3) (y := 4) hx hb dX6_profile_28 ?_
  refine tm_rV (As := [.int 1, .int x1, .int (x2 >>> ((4 : Int32) &&& 31)), .int (x3 >>> ((4 : Int32) &&& 31))]) (rest := [.int 16, .int r1]) (wc := [(a_o, .inr (6, [.ref a_To, .ref a_Go, .int v_Co, .ref a_Sy, .ref a_Le, .ref a_Ri, .ref a_Ln, .ref a_Wr, .ref a_Tr, .ref a_Mn, .ref a_Sk])), (a_To, .inl (cI, 256, .inl v_To))]) ⟨hx, hb, hml, hown, hts⟩ (cn_X6_over l D cI cB a_o a_To a_Go a_Sy a_Le a_Ri a_Ln a_Wr a_Tr a_Mn a_Sk v_Co v_To 1 x1 (x2 >>> ((4 : Int32) &&& 31)) (x3 >>> ((4 : Int32) &&& 31)) _ h) (cwV 4 hts gX6_profile_X6_over rfl rfl rfl (by decide +kernel) ⟨Nat.le_of_ble_eq_true rfl, Nat.le_of_ble_eq_true rfl⟩) hK (hP.sub [0, 1] rfl) (va_recv hK.1 hP (ci := 6) (q0 := 0) rfl rfl) rfl hl.1 rfl (Nat.le_of_ble_eq_true rfl) ⟨Nat.zero_le _, Nat.zero_le _⟩ dX6_profile_29 (fun r2 h => ?_)
  refine lv_imul (x := 16) (y := r2) hx hb dX6_profile_32 ?_
  refine lv_iadd hx hb dX6_profile_33 ?_
  exact W.iret (v := (r1 + ((16 : Int32) * r2))) hx hb hr (fun t ht hW => ⟨(r1 + ((16 : Int32) * r2)), rfl, h, ht⟩) (fun _ h => by cases h) dX6_profile_34
abbrev wp_X6_profile (v_Co : Int32) (v_To : Nat → Int32) (x1 : Int32) (x2 : Int32) (x3 : Int32) (Q : Int32 → Prop) : Prop := wp_X6_profile_in v_Co v_To Q x1 x2 x3
set_option maxRecDepth 100000 in
set_option maxHeartbeats 4000000 in
theorem cn_X6_profile (l : Launch) (D : va_G) (cI cB : ClassId) (a_o a_To a_Go a_Sy a_Le a_Ri a_Ln a_Wr a_Tr a_Mn a_Sk : Nat) (v_Co : Int32) (v_To : Nat → Int32) (x1 : Int32) (x2 : Int32) (x3 : Int32) (Q : Int32 → Prop) (h : wp_X6_profile v_Co v_To x1 x2 x3 Q) : Met l yX6_profile wsX6_profile rm_X6_profile (tm_Pr D cI cB [.ref a_o, .int x1, .int x2, .int x3] [(a_o, .inr (6, [.ref a_To, .ref a_Go, .int v_Co, .ref a_Sy, .ref a_Le, .ref a_Ri, .ref a_Ln, .ref a_Wr, .ref a_Tr, .ref a_Mn, .ref a_Sk])), (a_To, .inl (cI, 256, .inl v_To))]) (vp_Si Q) 0 0 (fun _ => False) := by
  refine Met.ofW (cc := cX6_profile) (maxL := 5) (ret := (some .int)) (by decide) rfl ?_
  intro p e s m args below meth c s₁ B hml hv
  obtain ⟨rfl, hP, hK⟩ := hv
  have hl := lv_entry ([.ref a_o, .int x1, .int x2, .int x3]) (n := 5) (Nat.le_of_ble_eq_true rfl)
  rw [lg_entry_eq]
  generalize (lg_sl ([.ref a_o, .int x1, .int x2, .int x3]) ++ List.replicate (5 - (lg_sl ([.ref a_o, .int x1, .int x2, .int x3])).length) Slot.unset).toArray = ls at hl ⊢
  have hl : lv_has ls 5 [(0, .ref a_o), (1, .int x1), (2, .int x2), (3, .int x3)] := hl
  exact bk_X6_profile_in ⟨B.exec, B.bytes, B.returns, hml, findClass_of_methodNamed B.named, atoms_spec (ws := wsX6_profile) B.pre, B.notSynchronized⟩ hK x1 x2 x3 h hP ls hl
