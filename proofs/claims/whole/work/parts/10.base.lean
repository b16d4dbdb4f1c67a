/-! my base: the nest's links, what every contract takes along, calls in one row -/
def tm_nx (U : State) : Prop :=
  va_Nw (.methodLinkNest RX5 11 yX4_init "TreeMachines") U ∧ va_Nw (.methodLinkNest RX5 18 yX1_init "TreeMachines") U ∧
  va_Nw (.methodLinkNest RX1 34 yX5_hasLeft "TreeMachines") U ∧ va_Nw (.methodLinkNest RX1 38 yX5_hasRight "TreeMachines") U ∧
  va_Nw (.methodLinkNest RX2 63 yX5_hasRight "TreeMachines") U ∧ va_Nw (.methodLinkNest RX2 67 yX5_hasLeft "TreeMachines") U ∧
  va_Nw (.methodLinkNest RX3 32 yX5_hasLeft "TreeMachines") U ∧ va_Nw (.methodLinkNest RX3 36 yX5_hasRight "TreeMachines") U ∧
  va_Nw (.methodLinkNest RX4 11 yX3_init "TreeMachines") U ∧ va_Nw (.methodLinkNest RX4 25 yX5_firstSet "TreeMachines") U ∧
  va_Nw (.methodLinkNest RX4 33 yX5_secondSet "TreeMachines") U ∧ va_Nw (.fieldLinkNest RX3 39 RX5 "LOWEST_STATE" "[I" "TreeMachines") U
theorem tm_nx.same {u U : State} (h : u.vm = U.vm) (q : tm_nx u) : tm_nx U := by
  obtain ⟨h1, h2, h3, h4, h5, h6, h7, h8, h9, h10, h11, h12⟩ := q
  exact ⟨h1.same rfl h, h2.same rfl h, h3.same rfl h, h4.same rfl h, h5.same rfl h, h6.same rfl h, h7.same rfl h, h8.same rfl h, h9.same rfl h, h10.same rfl h, h11.same rfl h, h12.same rfl h⟩
theorem tm_nx.warm {s U : State} (hW : s.WarmedH U.vm) (q : tm_nx s) : tm_nx U := by
  obtain ⟨h1, h2, h3, h4, h5, h6, h7, h8, h9, h10, h11, h12⟩ := q
  exact ⟨va_Nw.warmM hW h1, va_Nw.warmM hW h2, va_Nw.warmM hW h3, va_Nw.warmM hW h4, va_Nw.warmM hW h5, va_Nw.warmM hW h6, va_Nw.warmM hW h7, va_Nw.warmM hW h8, va_Nw.warmM hW h9, va_Nw.warmM hW h10, va_Nw.warmM hW h11, va_Nw.warmF hW h12⟩
/-- the classes, the two kinds of arrays, the nest -/
def tm_kx (D : va_G) (cI cB : ClassId) (U : State) : Prop := va_K D vwCl [(cI, .int), (cB, .byte)] U ∧ tm_nx U
theorem tm_kx.calling {D : va_G} {cI cB : ClassId} {U : State} {g : JFrame} {mk : MethodId} {a : Array Value} (h : tm_kx D cI cB U) : tm_kx D cI cB (U.calling g mk a) :=
  ⟨va_K.moved (u := U) (U := U.calling g mk a) (Vm.Alike.refl U.vm) h.1, h.2.same rfl⟩
theorem tm_kx.warm {D : va_G} {cI cB : ClassId} {s U : State} (hW : s.WarmedH U.vm) (h : tm_kx D cI cB s) : tm_kx D cI cB U := ⟨va_K.moved hW.alike h.1, h.2.warm hW⟩
/-- what a walk knows of its method -/
def tm_cx (p : Program) (s : State) (m : MethodId) (args : Array Value) (meth : Method) (c : Code) (cc : ByteArray) (nL : Nat) (rt : Option FieldType) (own : String) (Ts : List Cond) : Prop :=
  p.tables.exec = Jvm.exec ∧ c.code = cc ∧ meth.sig.returnType = rt ∧ c.maxLocals = nL ∧ s.vm.findClass own = some m.cls ∧ (∀ w ∈ Ts, w.before args s = true) ∧ meth.locks = false
/-- a reader's start: its world, the tables -/
abbrev tm_Pr (D : va_G) (cI cB : ClassId) (av : List Value) (wc : va_W) : Array Value → State → Prop := va_Pc av (fun U => va_P D vwCl wc U.heap ∧ tm_kx D cI cB U)
/-- a writer's start -/
abbrev tm_Pw (D : va_G) (cI cB : ClassId) (av : List Value) (wc : va_W) (sz : Nat) : Array Value → State → Prop := va_Pc av (fun U => U.heap.size = sz ∧ va_P D vwCl wc U.heap ∧ tm_kx D cI cB U ∧ va_D (fun _ => True) wc)
/-- a writer's world at its end -/
abbrev tm_B {S : Type} (D : va_G) (wn : S → va_W) (A : Nat → Prop) : S → State → Prop := fun u t => va_P D vwCl (wn u) t.heap ∧ va_D A (wn u)
theorem tm_blr {D : va_G} {cI cB : ClassId} {av : List Value} {wc : va_W} : FrameBlind (tm_Pr D cI cB av wc) := fun _ _ _ _ q => ⟨q.1, q.2.1, q.2.2.calling⟩
theorem tm_blw {D : va_G} {cI cB : ClassId} {av : List Value} {wc : va_W} {sz : Nat} : FrameBlind (tm_Pw D cI cB av wc sz) := fun _ _ _ _ q => ⟨q.1, q.2.1, q.2.2.1, q.2.2.2.1.calling, q.2.2.2.2⟩
theorem tm_fm {α β : Type} {f : α → Option β} : ∀ {is : List α} {ws : List β}, is.map f = ws.map some → is.filterMap f = ws
  | [], [], _ => rfl
  | [], _ :: _, h => by cases h
  | _ :: _, [], h => by cases h
  | i :: is, w :: ws, h => by
    simp only [List.map_cons, List.cons.injEq] at h
    rw [List.filterMap_cons, h.1]
    simp only
    rw [tm_fm h.2]
theorem tm_n01 {v : Int32} (h : v = 0 ∨ v = 1) : narrow .boolean (.int v) = .int v := by
  rcases h with rfl | rfl <;> rfl
/-- LOWEST_STATE -/
def tm_low (j : Nat) : Int32 := ([0, 0, 1, 0, 2, 0, 1, 0, 3, 0, 1, 0, 2, 0, 1, 0] : List Int32).getD j 0
def tm_tb (A : Nat → Prop) (tb : Nat) (U : State) (H : Heap) : Prop := va_Z "TreeMachines" "LOWEST_STATE" "[I" (.ref tb) A U H ∧ va_T .int tb 16 (fun j => .int (tm_low j)) A U H
theorem tm_tb.calling {A : Nat → Prop} {tb : Nat} {U : State} {g : JFrame} {mk : MethodId} {a : Array Value} (h : tm_tb A tb U U.heap) : tm_tb A tb (U.calling g mk a) (U.calling g mk a).heap :=
  ⟨va_Z.moved (u := U) (U := U.calling g mk a) (Vm.Alike.refl U.vm) h.1, va_T.moved (u := U) (U := U.calling g mk a) (Vm.Alike.refl U.vm) h.2⟩
abbrev tm_Pt (D : va_G) (cI cB : ClassId) (av : List Value) (wc : va_W) (sz tb : Nat) : Array Value → State → Prop := va_Pc av (fun U => U.heap.size = sz ∧ va_P D vwCl wc U.heap ∧ tm_kx D cI cB U ∧ va_D (fun _ => True) wc ∧ tm_tb (va_A wc sz) tb U U.heap)
theorem tm_blt {D : va_G} {cI cB : ClassId} {av : List Value} {wc : va_W} {sz tb : Nat} : FrameBlind (tm_Pt D cI cB av wc sz tb) := fun _ _ _ _ q => ⟨q.1, q.2.1, q.2.2.1, q.2.2.2.1.calling, q.2.2.2.2.1, q.2.2.2.2.2.calling⟩
abbrev tm_adN (a1 a2 : Nat) : Nat → Value
  | 0 => .ref a1
  | 1 => .ref a2
  | _ => .null
section TMC
variable {p : Program} {l : Launch} {e : Env} {R : Room} {s : State} {m : MethodId} {args : Array Value} {below : List Frame} {meth : Method} {c : Code} {H : Heap} {locs : List Loc} {cells slots : Nat} {Q : State → Prop}
variable {pc : Nat} {ls : Array Slot} {rest st0 : List Value} {a : Array Value}
theorem tm_rdi {post : Int32 → Prop} (hr : va_Run p l e R s m args below meth c H locs cells slots 0 0 (F0 m pc ls st0) rest (vp_Si post a) (fun _ => False))
    (kk : ∀ r : Int32, post r → W p l e R s m args below meth c H locs cells slots Q (F0 m (pc + 3) ls (.int r :: rest))) : W p l e R s m args below meth c H locs cells slots Q (F0 m pc ls st0) := by
  intro T hT X
  obtain ⟨v, st₀, t, T', L, h0, X', hL, e1, -, ⟨r, hv, hp, hh⟩, st⟩ := hr T hT X
  cases hv
  obtain ⟨t2, a1, b1⟩ := kk r hp T' (by rw [e1, hh, h0]) (Stand.forget X' (fun q h => (hL q h).elim))
  exact ⟨t2, st t2 a1, b1⟩
theorem tm_rdr {post : Nat → Prop} {ad : Nat → Value} (hr : va_Run p l e R s m args below meth c H locs cells slots 0 0 (F0 m pc ls st0) rest (va_Sr post ad a) (fun _ => False))
    (kk : ∀ k : Nat, post k → W p l e R s m args below meth c H locs cells slots Q (F0 m (pc + 3) ls (ad k :: rest))) : W p l e R s m args below meth c H locs cells slots Q (F0 m pc ls st0) := by
  intro T hT X
  obtain ⟨v, st₀, t, T', L, h0, X', hL, e1, -, ⟨r, hv, hp, hh⟩, st⟩ := hr T hT X
  cases hv
  obtain ⟨t2, a1, b1⟩ := kk r hp T' (by rw [e1, hh, h0]) (Stand.forget X' (fun q h => (hL q h).elim))
  exact ⟨t2, st t2 a1, b1⟩
variable {D : va_G} {cI cB : ClassId} {wc : va_W} {y : MethodName} {bytes cc : ByteArray} {maxL nL n index : Nat} {ret : Option FieldType} {ws : List Cond} {rm : Room} {Ts : List Cond} {own C host : String} {b : Nat} {As : List Value}
/-- a reader of an object, an int back -/
theorem tm_rV {post : Int32 → Prop} (S : CallFix p m c cc nL s args Ts own) (hM : Met l y ws rm (tm_Pr D cI cB (.ref b :: As) wc) (vp_Si post) 0 0 (fun _ => False)) (cw : CallW R s args own C index y bytes maxL ret ws rm 0 0 n)
    (hK : tm_kx D cI cB s) (hP : va_P D vwCl wc H) (hrc : ∃ cell : Cell, H[b]? = some cell ∧ cell.vm.isStatics = false ∧ s.vm.findClass C = some cell.cls) (hn : As.length = n) (hsz : ls.size = nL) (hst : st0 = As.reverse ++ .ref b :: rest) (hW : (rest.map fun v => v.category).sum ≤ 8) (hf : cells ≤ R.cells ∧ slots ≤ R.slots) (hdg : decode cc pc = .ok (.invokevirtual index, 3))
    (kk : ∀ r : Int32, post r → W p l e R s m args below meth c H locs cells slots Q (F0 m (pc + 3) ls (.int r :: rest))) : W p l e R s m args below meth c H locs cells slots Q (F0 m pc ls st0) :=
  tm_rdi (va_runV (As := As) (rest := rest) S hM cw ⟨tm_blr, hrc, fun U hU hW => ⟨rfl, by rw [hU]; exact hP, hK.warm hW⟩⟩ rfl hn hsz hst (lv_room hW) hdg hf) kk
theorem tm_rVr {post : Nat → Prop} {ad : Nat → Value} (S : CallFix p m c cc nL s args Ts own) (hM : Met l y ws rm (tm_Pr D cI cB (.ref b :: As) wc) (va_Sr post ad) 0 0 (fun _ => False)) (cw : CallW R s args own C index y bytes maxL ret ws rm 0 0 n)
    (hK : tm_kx D cI cB s) (hP : va_P D vwCl wc H) (hrc : ∃ cell : Cell, H[b]? = some cell ∧ cell.vm.isStatics = false ∧ s.vm.findClass C = some cell.cls) (hn : As.length = n) (hsz : ls.size = nL) (hst : st0 = As.reverse ++ .ref b :: rest) (hW : (rest.map fun v => v.category).sum ≤ 8) (hf : cells ≤ R.cells ∧ slots ≤ R.slots) (hdg : decode cc pc = .ok (.invokevirtual index, 3))
    (kk : ∀ k : Nat, post k → W p l e R s m args below meth c H locs cells slots Q (F0 m (pc + 3) ls (ad k :: rest))) : W p l e R s m args below meth c H locs cells slots Q (F0 m pc ls st0) :=
  tm_rdr (va_runV (As := As) (rest := rest) S hM cw ⟨tm_blr, hrc, fun U hU hW => ⟨rfl, by rw [hU]; exact hP, hK.warm hW⟩⟩ rfl hn hsz hst (lv_room hW) hdg hf) kk
/-- a static reader -/
theorem tm_rS {post : Int32 → Prop} (S : CallFix p m c cc nL s args Ts own) (hM : Met l y ws rm (tm_Pr D cI cB As wc) (vp_Si post) 0 0 (fun _ => False)) (cw : CallB R s args own index y bytes maxL ret ws rm 0 0 n ∧ (Cond.static y).before args s = true)
    (hK : tm_kx D cI cB s) (hP : va_P D vwCl wc H) (hn : As.length = n) (hsz : ls.size = nL) (hst : st0 = As.reverse ++ rest) (hW : (rest.map fun v => v.category).sum ≤ 8) (hf : cells ≤ R.cells ∧ slots ≤ R.slots) (hdg : decode cc pc = .ok (.invokestatic index, 3))
    (kk : ∀ r : Int32, post r → W p l e R s m args below meth c H locs cells slots Q (F0 m (pc + 3) ls (.int r :: rest))) : W p l e R s m args below meth c H locs cells slots Q (F0 m pc ls st0) :=
  tm_rdi (va_runS (As := As) (rest := rest) S hM cw ⟨tm_blr, fun U hU hW => ⟨rfl, by rw [hU]; exact hP, hK.warm hW⟩⟩ rfl hn hsz hst (lv_room hW) hdg hf) kk
/-- a private static reader of the nest's host -/
theorem tm_rSN {post : Int32 → Prop} (S : CallFix p m c cc nL s args Ts own) (hM : Met l y ws rm (tm_Pr D cI cB As wc) (vp_Si post) 0 0 (fun _ => False)) (cw : va_CN R s args own index y host bytes maxL ret ws rm 0 0 n ∧ (Cond.static y).before args s = true ∧ True)
    (hK : tm_kx D cI cB s) (hP : va_P D vwCl wc H) (hn : As.length = n) (hsz : ls.size = nL) (hst : st0 = As.reverse ++ rest) (hW : (rest.map fun v => v.category).sum ≤ 8) (hf : cells ≤ R.cells ∧ slots ≤ R.slots) (hdg : decode cc pc = .ok (.invokestatic index, 3))
    (kk : ∀ r : Int32, post r → W p l e R s m args below meth c H locs cells slots Q (F0 m (pc + 3) ls (.int r :: rest))) : W p l e R s m args below meth c H locs cells slots Q (F0 m pc ls st0) :=
  tm_rdi (va_runSN (As := As) (rest := rest) S hM cw ⟨tm_blr, fun U hU hW => ⟨rfl, by rw [hU]; exact hP, hK.warm hW⟩⟩ rfl hn hsz hst (lv_room hW) hdg hf) kk
/-- a writer's end, at its caller: the cells that it had come back beside the rest, in the caller's own order -/
theorem tm_wi {S : Type} {post : Int32 → S → Prop} {wn wf : S → va_W} {w0 wr : va_W} {A : Nat → Prop} {H0 : Heap} (hr : va_Run p l e R s m args below meth c H locs cells slots 0 0 (F0 m pc ls st0) rest (va_Qi post (tm_B D wn (va_A wc H.size)) (va_A wc H.size) a) (va_A wc H.size))
    (hP : va_P D vwCl w0 H) (hD : va_D A w0) (hS : va_S A H0 H locs) (hA : ∀ q, H0.size ≤ q → A q) (isC isR pm : List Nat) (hC : isC.map (fun i => w0[i]?) = wc.map some) (hR : isR.map (fun i => w0[i]?) = wr.map some) (hnd : va_nd isR = true) (hdis : ∀ i ∈ isR, i ∉ isC) (hpn : va_nd pm = true) (hpf : ∀ u, pm.map (fun i => (wr ++ wn u)[i]?) = (wf u).map some)
    (kk : ∀ (r : Int32) (u : S) (H1 : Heap) (locs1 : List Loc), post r u → va_P D vwCl (wf u) H1 → va_D A (wf u) → va_S A H0 H1 locs1 → W p l e R s m args below meth c H1 locs1 cells slots Q (F0 m (pc + 3) ls (.int r :: rest))) : W p l e R s m args below meth c H locs cells slots Q (F0 m pc ls st0) := by
  have hF := va_free (wc := wc) hD hS hA isC hC
  refine va_calli hr hS (fun q _ h => hF q h) hF (fun r u t H1 locs1 ht hvm hw hB hz1 hk1 hS1 => ?_)
  obtain ⟨hP1, hD1⟩ := hB
  rw [ht] at hP1
  obtain ⟨hP2, hD2⟩ := va_join (wr := wr) (w1 := wn u) hP hD isC isR hC hR hnd hdis hk1 hF hP1 hD1
  exact kk r u H1 locs1 hw (hP2.sub pm (tm_fm (hpf u))) (hD2.sub pm hpn (hpf u)) hS1
theorem tm_wv {S : Type} {post : S → Prop} {wn wf : S → va_W} {w0 wr : va_W} {A : Nat → Prop} {H0 : Heap} (hr : va_Run p l e R s m args below meth c H locs cells slots 0 0 (F0 m pc ls st0) rest (va_Qv post (tm_B D wn (va_A wc H.size)) (va_A wc H.size) a) (va_A wc H.size))
    (hP : va_P D vwCl w0 H) (hD : va_D A w0) (hS : va_S A H0 H locs) (hA : ∀ q, H0.size ≤ q → A q) (isC isR pm : List Nat) (hC : isC.map (fun i => w0[i]?) = wc.map some) (hR : isR.map (fun i => w0[i]?) = wr.map some) (hnd : va_nd isR = true) (hdis : ∀ i ∈ isR, i ∉ isC) (hpn : va_nd pm = true) (hpf : ∀ u, pm.map (fun i => (wr ++ wn u)[i]?) = (wf u).map some)
    (kk : ∀ (u : S) (H1 : Heap) (locs1 : List Loc), post u → va_P D vwCl (wf u) H1 → va_D A (wf u) → va_S A H0 H1 locs1 → W p l e R s m args below meth c H1 locs1 cells slots Q (F0 m (pc + 3) ls rest)) : W p l e R s m args below meth c H locs cells slots Q (F0 m pc ls st0) := by
  have hF := va_free (wc := wc) hD hS hA isC hC
  refine va_callv hr hS (fun q _ h => hF q h) hF (fun u t H1 locs1 ht hvm hw hB hz1 hk1 hS1 => ?_)
  obtain ⟨hP1, hD1⟩ := hB
  rw [ht] at hP1
  obtain ⟨hP2, hD2⟩ := va_join (wr := wr) (w1 := wn u) hP hD isC isR hC hR hnd hdis hk1 hF hP1 hD1
  exact kk u H1 locs1 hw (hP2.sub pm (tm_fm (hpf u))) (hD2.sub pm hpn (hpf u)) hS1
theorem tm_wr {S : Type} {post : S → Prop} {wn wf : S → va_W} {w0 wr : va_W} {A : Nat → Prop} {H0 : Heap} {ra : Nat} (hr : va_Run p l e R s m args below meth c H locs cells slots 0 0 (F0 m pc ls st0) rest (va_Qr post (fun u x t => x = ra ∧ tm_B D wn (va_A wc H.size) u t) (va_A wc H.size) a) (va_A wc H.size))
    (hP : va_P D vwCl w0 H) (hD : va_D A w0) (hS : va_S A H0 H locs) (hA : ∀ q, H0.size ≤ q → A q) (isC isR pm : List Nat) (hC : isC.map (fun i => w0[i]?) = wc.map some) (hR : isR.map (fun i => w0[i]?) = wr.map some) (hnd : va_nd isR = true) (hdis : ∀ i ∈ isR, i ∉ isC) (hpn : va_nd pm = true) (hpf : ∀ u, pm.map (fun i => (wr ++ wn u)[i]?) = (wf u).map some)
    (kk : ∀ (u : S) (H1 : Heap) (locs1 : List Loc), post u → va_P D vwCl (wf u) H1 → va_D A (wf u) → va_S A H0 H1 locs1 → W p l e R s m args below meth c H1 locs1 cells slots Q (F0 m (pc + 3) ls (.ref ra :: rest))) : W p l e R s m args below meth c H locs cells slots Q (F0 m pc ls st0) := by
  have hF := va_free (wc := wc) hD hS hA isC hC
  refine va_callr hr hS (fun q _ h => hF q h) hF (fun u x t H1 locs1 ht hvm hw hB hz1 hk1 hS1 => ?_)
  obtain ⟨rfl, hP1, hD1⟩ := hB
  rw [ht] at hP1
  obtain ⟨hP2, hD2⟩ := va_join (wr := wr) (w1 := wn u) hP hD isC isR hC hR hnd hdis hk1 hF hP1 hD1
  exact kk u H1 locs1 hw (hP2.sub pm (tm_fm (hpf u))) (hD2.sub pm hpn (hpf u)) hS1
/-- what a writer asks of its caller: an object's method -/
theorem tm_pV {As : List Value} (hK : tm_kx D cI cB s) {A : Nat → Prop} {w0 : va_W} (hP : va_P D vwCl w0 H) (hD : va_D A w0) (isC : List Nat) (hn : va_nd isC = true) (hC : isC.map (fun i => w0[i]?) = wc.map some) (hrc : ∃ cell : Cell, H[b]? = some cell ∧ cell.vm.isStatics = false ∧ s.vm.findClass C = some cell.cls) : PreV s H C b (tm_Pw D cI cB (.ref b :: As) wc H.size) As :=
  ⟨tm_blw, hrc, fun U hU hW => ⟨rfl, by rw [hU], by rw [hU]; exact hP.sub isC (tm_fm hC), hK.warm hW, (hD.sub isC hn hC).weaken (fun _ _ _ _ => trivial)⟩⟩
theorem tm_pS {As : List Value} (hK : tm_kx D cI cB s) {A : Nat → Prop} {w0 : va_W} (hP : va_P D vwCl w0 H) (hD : va_D A w0) (isC : List Nat) (hn : va_nd isC = true) (hC : isC.map (fun i => w0[i]?) = wc.map some) : PreS s H (tm_Pw D cI cB As wc H.size) As :=
  ⟨tm_blw, fun U hU hW => ⟨rfl, by rw [hU], by rw [hU]; exact hP.sub isC (tm_fm hC), hK.warm hW, (hD.sub isC hn hC).weaken (fun _ _ _ _ => trivial)⟩⟩
theorem tm_pVt {As : List Value} {tb : Nat} (hK : tm_kx D cI cB s) {A : Nat → Prop} {w0 : va_W} (hP : va_P D vwCl w0 H) (hD : va_D A w0) (isC : List Nat) (hn : va_nd isC = true) (hC : isC.map (fun i => w0[i]?) = wc.map some) (hrc : ∃ cell : Cell, H[b]? = some cell ∧ cell.vm.isStatics = false ∧ s.vm.findClass C = some cell.cls) (hS : va_S A s.heap H locs) (hA : ∀ q, s.heap.size ≤ q → A q) (hT : tm_tb A tb s s.heap) : PreV s H C b (tm_Pt D cI cB (.ref b :: As) wc H.size tb) As :=
  ⟨tm_blt, hrc, fun U hU hW => ⟨rfl, by rw [hU], by rw [hU]; exact hP.sub isC (tm_fm hC), hK.warm hW, (hD.sub isC hn hC).weaken (fun _ _ _ _ => trivial), by
    rw [hU]
    exact ⟨((hT.1.kept hS.2.1).narrow (va_free (wc := wc) hD hS hA isC hC)).moved hW.alike, ((hT.2.kept hS.2.1).narrow (va_free (wc := wc) hD hS hA isC hC)).moved hW.alike⟩⟩⟩
end TMC
