section
-- ===== PART A: goes FIRST, ahead of the names: the tables' words, and 'selects' of the private methods out of them =====
/-- a private method of a class that the tables say can be made, by its rows of tables_1 -/
def lw_okq (q : MethodName × Nat) : Prop := (q.1.cls ≠ "java/lang/invoke/MethodHandle" ∧ q.1.cls ≠ "java/lang/invoke/VarHandle") ∧ Cond.instantiable q.1.cls q.2 ∈ tables_1 ∧ Cond.privateMethod q.1 ∈ tables_1 ∧ Cond.instanceMethod q.1 ∈ tables_1
theorem lw_p0 : lw_okq (⟨"TreeMachines", "changeRule", "(IIIZ)Z"⟩, 4) := ⟨⟨by decide +kernel, by decide +kernel⟩, List.mem_of_getElem? (i := 11) (by decide +kernel), List.mem_of_getElem? (i := 175) (by decide +kernel), List.mem_of_getElem? (i := 176) (by decide +kernel)⟩
theorem lw_p1 : lw_okq (⟨"TreeMachines$Machine", "rebuild", "(I)V"⟩, 3) := ⟨⟨by decide +kernel, by decide +kernel⟩, List.mem_of_getElem? (i := 25) (by decide +kernel), List.mem_of_getElem? (i := 191) (by decide +kernel), List.mem_of_getElem? (i := 192) (by decide +kernel)⟩
theorem lw_p2 : lw_okq (⟨"TreeMachines", "forgetProfiles", "()V"⟩, 4) := ⟨⟨by decide +kernel, by decide +kernel⟩, List.mem_of_getElem? (i := 11) (by decide +kernel), List.mem_of_getElem? (i := 202) (by decide +kernel), List.mem_of_getElem? (i := 203) (by decide +kernel)⟩
theorem lw_p3 : lw_okq (⟨"TreeMachines$Forest", "sizeOrZero", "(I)I"⟩, 7) := ⟨⟨by decide +kernel, by decide +kernel⟩, List.mem_of_getElem? (i := 50) (by decide +kernel), List.mem_of_getElem? (i := 263) (by decide +kernel), List.mem_of_getElem? (i := 264) (by decide +kernel)⟩
theorem lw_p4 : lw_okq (⟨"TreeMachines$Forest", "childProfile", "(I)I"⟩, 7) := ⟨⟨by decide +kernel, by decide +kernel⟩, List.mem_of_getElem? (i := 50) (by decide +kernel), List.mem_of_getElem? (i := 302) (by decide +kernel), List.mem_of_getElem? (i := 303) (by decide +kernel)⟩
theorem lw_p5 : lw_okq (⟨"TreeMachines$LeastTerms", "findOfSize", "(I)V"⟩, 13) := ⟨⟨by decide +kernel, by decide +kernel⟩, List.mem_of_getElem? (i := 78) (by decide +kernel), List.mem_of_getElem? (i := 354) (by decide +kernel), List.mem_of_getElem? (i := 355) (by decide +kernel)⟩
theorem lw_p6 : lw_okq (⟨"TreeMachines$LeastTerms", "findWithTwo", "(II)V"⟩, 13) := ⟨⟨by decide +kernel, by decide +kernel⟩, List.mem_of_getElem? (i := 78) (by decide +kernel), List.mem_of_getElem? (i := 359) (by decide +kernel), List.mem_of_getElem? (i := 360) (by decide +kernel)⟩
theorem lw_p7 : lw_okq (⟨"TreeMachines$LeastTerms", "meet", "(IIII)V"⟩, 13) := ⟨⟨by decide +kernel, by decide +kernel⟩, List.mem_of_getElem? (i := 78) (by decide +kernel), List.mem_of_getElem? (i := 363) (by decide +kernel), List.mem_of_getElem? (i := 364) (by decide +kernel)⟩
theorem lw_p8 : lw_okq (⟨"TreeMachines$LeastTerms", "findWithOne", "(II)V"⟩, 13) := ⟨⟨by decide +kernel, by decide +kernel⟩, List.mem_of_getElem? (i := 78) (by decide +kernel), List.mem_of_getElem? (i := 369) (by decide +kernel), List.mem_of_getElem? (i := 370) (by decide +kernel)⟩
theorem lw_p9 : lw_okq (⟨"TreeMachines$LeastTerms", "sortIn", "(I)V"⟩, 13) := ⟨⟨by decide +kernel, by decide +kernel⟩, List.mem_of_getElem? (i := 78) (by decide +kernel), List.mem_of_getElem? (i := 373) (by decide +kernel), List.mem_of_getElem? (i := 374) (by decide +kernel)⟩
theorem lw_p10 : lw_okq (⟨"TreeMachines$LeastTerms", "isWrittenBefore", "(II)Z"⟩, 13) := ⟨⟨by decide +kernel, by decide +kernel⟩, List.mem_of_getElem? (i := 78) (by decide +kernel), List.mem_of_getElem? (i := 377) (by decide +kernel), List.mem_of_getElem? (i := 378) (by decide +kernel)⟩
theorem lw_p11 : lw_okq (⟨"TreeMachines$LeastTerms", "findLarger", "()V"⟩, 13) := ⟨⟨by decide +kernel, by decide +kernel⟩, List.mem_of_getElem? (i := 78) (by decide +kernel), List.mem_of_getElem? (i := 381) (by decide +kernel), List.mem_of_getElem? (i := 382) (by decide +kernel)⟩
theorem lw_p12 : lw_okq (⟨"TreeMachines$Counts", "count", "(II)V"⟩, 4) := ⟨⟨by decide +kernel, by decide +kernel⟩, List.mem_of_getElem? (i := 124) (by decide +kernel), List.mem_of_getElem? (i := 427) (by decide +kernel), List.mem_of_getElem? (i := 428) (by decide +kernel)⟩
theorem lw_p13 : lw_okq (⟨"TreeMachines$Counts", "emptyRow", "(I)V"⟩, 4) := ⟨⟨by decide +kernel, by decide +kernel⟩, List.mem_of_getElem? (i := 124) (by decide +kernel), List.mem_of_getElem? (i := 431) (by decide +kernel), List.mem_of_getElem? (i := 432) (by decide +kernel)⟩
theorem lw_p14 : lw_okq (⟨"TreeMachines$Counts", "addTerms", "(IIIIII)V"⟩, 4) := ⟨⟨by decide +kernel, by decide +kernel⟩, List.mem_of_getElem? (i := 124) (by decide +kernel), List.mem_of_getElem? (i := 435) (by decide +kernel), List.mem_of_getElem? (i := 436) (by decide +kernel)⟩
theorem lw_p15 : lw_okq (⟨"TreeMachines$Counts", "countWithLeft", "(III)V"⟩, 4) := ⟨⟨by decide +kernel, by decide +kernel⟩, List.mem_of_getElem? (i := 124) (by decide +kernel), List.mem_of_getElem? (i := 444) (by decide +kernel), List.mem_of_getElem? (i := 445) (by decide +kernel)⟩
def lw_privs_1 : List (MethodName × Nat) := [(⟨"TreeMachines", "changeRule", "(IIIZ)Z"⟩, 4), (⟨"TreeMachines$Machine", "rebuild", "(I)V"⟩, 3), (⟨"TreeMachines", "forgetProfiles", "()V"⟩, 4), (⟨"TreeMachines$Forest", "sizeOrZero", "(I)I"⟩, 7), (⟨"TreeMachines$Forest", "childProfile", "(I)I"⟩, 7), (⟨"TreeMachines$LeastTerms", "findOfSize", "(I)V"⟩, 13), (⟨"TreeMachines$LeastTerms", "findWithTwo", "(II)V"⟩, 13), (⟨"TreeMachines$LeastTerms", "meet", "(IIII)V"⟩, 13), (⟨"TreeMachines$LeastTerms", "findWithOne", "(II)V"⟩, 13), (⟨"TreeMachines$LeastTerms", "sortIn", "(I)V"⟩, 13), (⟨"TreeMachines$LeastTerms", "isWrittenBefore", "(II)Z"⟩, 13), (⟨"TreeMachines$LeastTerms", "findLarger", "()V"⟩, 13), (⟨"TreeMachines$Counts", "count", "(II)V"⟩, 4), (⟨"TreeMachines$Counts", "emptyRow", "(I)V"⟩, 4), (⟨"TreeMachines$Counts", "addTerms", "(IIIIII)V"⟩, 4), (⟨"TreeMachines$Counts", "countWithLeft", "(III)V"⟩, 4)]
theorem lw_r1 : ∀ q ∈ lw_privs_1, lw_okq q := List.forall_mem_cons.mpr ⟨lw_p0, List.forall_mem_cons.mpr ⟨lw_p1, List.forall_mem_cons.mpr ⟨lw_p2, List.forall_mem_cons.mpr ⟨lw_p3, List.forall_mem_cons.mpr ⟨lw_p4, List.forall_mem_cons.mpr ⟨lw_p5, List.forall_mem_cons.mpr ⟨lw_p6, List.forall_mem_cons.mpr ⟨lw_p7, List.forall_mem_cons.mpr ⟨lw_p8, List.forall_mem_cons.mpr ⟨lw_p9, List.forall_mem_cons.mpr ⟨lw_p10, List.forall_mem_cons.mpr ⟨lw_p11, List.forall_mem_cons.mpr ⟨lw_p12, List.forall_mem_cons.mpr ⟨lw_p13, List.forall_mem_cons.mpr ⟨lw_p14, List.forall_mem_cons.mpr ⟨lw_p15, fun _ h => absurd h List.not_mem_nil⟩⟩⟩⟩⟩⟩⟩⟩⟩⟩⟩⟩⟩⟩⟩⟩
theorem lw_p16 : lw_okq (⟨"TreeMachines$Counts", "couples", "(III)I"⟩, 4) := ⟨⟨by decide +kernel, by decide +kernel⟩, List.mem_of_getElem? (i := 124) (by decide +kernel), List.mem_of_getElem? (i := 449) (by decide +kernel), List.mem_of_getElem? (i := 450) (by decide +kernel)⟩
theorem lw_p17 : lw_okq (⟨"TreeMachinesModel", "reach", "(II)I"⟩, 11) := ⟨⟨by decide +kernel, by decide +kernel⟩, List.mem_of_getElem? (i := 454) (by decide +kernel), List.mem_of_getElem? (i := 540) (by decide +kernel), List.mem_of_getElem? (i := 541) (by decide +kernel)⟩
theorem lw_p18 : lw_okq (⟨"TreeMachinesModel", "over", "(IIII)I"⟩, 11) := ⟨⟨by decide +kernel, by decide +kernel⟩, List.mem_of_getElem? (i := 454) (by decide +kernel), List.mem_of_getElem? (i := 544) (by decide +kernel), List.mem_of_getElem? (i := 545) (by decide +kernel)⟩
theorem lw_p19 : lw_okq (⟨"TreeMachinesModel", "placeOf", "(I)I"⟩, 11) := ⟨⟨by decide +kernel, by decide +kernel⟩, List.mem_of_getElem? (i := 454) (by decide +kernel), List.mem_of_getElem? (i := 552) (by decide +kernel), List.mem_of_getElem? (i := 553) (by decide +kernel)⟩
theorem lw_p20 : lw_okq (⟨"TreeMachinesModel", "best", "(I)I"⟩, 11) := ⟨⟨by decide +kernel, by decide +kernel⟩, List.mem_of_getElem? (i := 454) (by decide +kernel), List.mem_of_getElem? (i := 564) (by decide +kernel), List.mem_of_getElem? (i := 565) (by decide +kernel)⟩
theorem lw_p21 : lw_okq (⟨"TreeMachinesModel", "all", "()V"⟩, 11) := ⟨⟨by decide +kernel, by decide +kernel⟩, List.mem_of_getElem? (i := 454) (by decide +kernel), List.mem_of_getElem? (i := 568) (by decide +kernel), List.mem_of_getElem? (i := 569) (by decide +kernel)⟩
theorem lw_p22 : lw_okq (⟨"TreeMachinesModel", "offer", "(III)Z"⟩, 11) := ⟨⟨by decide +kernel, by decide +kernel⟩, List.mem_of_getElem? (i := 454) (by decide +kernel), List.mem_of_getElem? (i := 573) (by decide +kernel), List.mem_of_getElem? (i := 574) (by decide +kernel)⟩
theorem lw_p23 : lw_okq (⟨"TreeMachinesModel", "profile", "(III)I"⟩, 11) := ⟨⟨by decide +kernel, by decide +kernel⟩, List.mem_of_getElem? (i := 454) (by decide +kernel), List.mem_of_getElem? (i := 577) (by decide +kernel), List.mem_of_getElem? (i := 578) (by decide +kernel)⟩
theorem lw_p24 : lw_okq (⟨"TreeMachinesModel", "pairs", "(IIII)V"⟩, 11) := ⟨⟨by decide +kernel, by decide +kernel⟩, List.mem_of_getElem? (i := 454) (by decide +kernel), List.mem_of_getElem? (i := 594) (by decide +kernel), List.mem_of_getElem? (i := 595) (by decide +kernel)⟩
def lw_privs_2 : List (MethodName × Nat) := [(⟨"TreeMachines$Counts", "couples", "(III)I"⟩, 4), (⟨"TreeMachinesModel", "reach", "(II)I"⟩, 11), (⟨"TreeMachinesModel", "over", "(IIII)I"⟩, 11), (⟨"TreeMachinesModel", "placeOf", "(I)I"⟩, 11), (⟨"TreeMachinesModel", "best", "(I)I"⟩, 11), (⟨"TreeMachinesModel", "all", "()V"⟩, 11), (⟨"TreeMachinesModel", "offer", "(III)Z"⟩, 11), (⟨"TreeMachinesModel", "profile", "(III)I"⟩, 11), (⟨"TreeMachinesModel", "pairs", "(IIII)V"⟩, 11)]
theorem lw_r2 : ∀ q ∈ lw_privs_2, lw_okq q := List.forall_mem_cons.mpr ⟨lw_p16, List.forall_mem_cons.mpr ⟨lw_p17, List.forall_mem_cons.mpr ⟨lw_p18, List.forall_mem_cons.mpr ⟨lw_p19, List.forall_mem_cons.mpr ⟨lw_p20, List.forall_mem_cons.mpr ⟨lw_p21, List.forall_mem_cons.mpr ⟨lw_p22, List.forall_mem_cons.mpr ⟨lw_p23, List.forall_mem_cons.mpr ⟨lw_p24, fun _ h => absurd h List.not_mem_nil⟩⟩⟩⟩⟩⟩⟩⟩⟩
def lw_privs : List (MethodName × Nat) := lw_privs_1 ++ (lw_privs_2)
def lw_tbl : List Cond := k2_sels lw_privs ++ tables_1
theorem lw_privs_ok : ∀ q ∈ lw_privs, lw_okq q := by
  show ∀ q ∈ lw_privs_1 ++ (lw_privs_2), lw_okq q
  exact List.forall_mem_append.mpr ⟨lw_r1, lw_r2⟩
end
section
/-! ===== BEGIN words of one list among another's, by their places ===== -/
theorem goodIn_r {big : List Cond} (ws : List Cond) (ps : List Nat) (hp : ws = ps.filterMap (fun i => big[i]?)) (h : ws.all goodWord = true) : GoodIn big ws := by
  intro w hw
  have h1 := List.all_eq_true.mp h w hw
  rw [hp] at hw
  obtain ⟨i, -, hi⟩ := List.mem_filterMap.mp hw
  have hm : w ∈ big := by first | exact List.mem_of_getElem? hi | exact List.getElem?_mem hi
  exact ⟨hm, good_of_word h1⟩
theorem goodIn_app {big a b : List Cond} (ha : GoodIn big a) (hb : GoodIn big b) : GoodIn big (a ++ b) := fun w h => (List.mem_append.mp h).elim (ha w) (hb w)
theorem goodIn_ca {big a b : List Cond} {c : Cond} (ha : GoodIn big (c :: a)) (hb : GoodIn big b) : GoodIn big (c :: (a ++ b)) := fun w h => (List.mem_cons.mp h).elim (fun e => ha w (List.mem_cons.mpr (Or.inl e))) (fun h => (List.mem_append.mp h).elim (fun h => ha w (List.mem_cons.mpr (Or.inr h))) (hb w))
theorem goodIn_sub {big ws : List Cond} (hm : ∀ w ∈ ws, w ∈ big) (h : ws.all goodWord = true) : GoodIn big ws := fun w hw => ⟨hm w hw, good_of_word (List.all_eq_true.mp h w hw)⟩
/-! ===== END ===== -/

/-! ===== BEGIN printed: names, fields, word lists, decode rows ===== -/
def RX0 : String := "TreeMachines$Counts"
def TX0 : u_T := fun k => match k with
  | 0 => ("TreeMachines$Counts", "machines", "LTreeMachines$Pair;", true)
  | 1 => ("TreeMachines$Counts", "leastTerms", "LTreeMachines$LeastTerms;", true)
  | 2 => ("TreeMachines$Counts", "numbers", "[I", true)
  | _ => ("TreeMachines$Counts", "counted", "I", false)
def tyX0 : Nat → FieldType := fun k => match k with
  | 0 => .object "TreeMachines$Pair"
  | 1 => .object "TreeMachines$LeastTerms"
  | 2 => .array .int
  | _ => .int
abbrev wsX00 : List Cond := u_ws RX0 TX0 4
theorem nmX0 : ∀ a, a < 4 → ∀ b, b < 4 → a ≠ b → (TX0 a).2.1 ≠ (TX0 b).2.1 := by decide +kernel
theorem tyX0_ok : ∀ k, k < 4 → parseFieldDescriptor (TX0 k).2.2.1 = some (tyX0 k) := by decide +kernel
abbrev cX0_init : ByteArray := prog_2_method_1_code
def yX0_init : MethodName := ⟨RX0, "<init>", "(LTreeMachines$Pair;LTreeMachines$LeastTerms;)V"⟩
abbrev cX0_forget : ByteArray := prog_2_method_2_code
def yX0_forget : MethodName := ⟨RX0, "forget", "()V"⟩
abbrev cX0_ofSort : ByteArray := prog_2_method_3_code
def yX0_ofSort : MethodName := ⟨RX0, "ofSort", "(II)I"⟩
abbrev cX0_count : ByteArray := prog_2_method_4_code
def yX0_count : MethodName := ⟨RX0, "count", "(II)V"⟩
abbrev cX0_emptyRow : ByteArray := prog_2_method_5_code
def yX0_emptyRow : MethodName := ⟨RX0, "emptyRow", "(I)V"⟩
abbrev cX0_countWithLeft : ByteArray := prog_2_method_6_code
def yX0_countWithLeft : MethodName := ⟨RX0, "countWithLeft", "(III)V"⟩
abbrev cX0_couples : ByteArray := prog_2_method_7_code
def yX0_couples : MethodName := ⟨RX0, "couples", "(III)I"⟩
abbrev cX0_addTerms : ByteArray := prog_2_method_8_code
def yX0_addTerms : MethodName := ⟨RX0, "addTerms", "(IIIIII)V"⟩
def RX1 : String := "TreeMachines$Forest"
def TX1 : u_T := fun k => match k with
  | 0 => ("TreeMachines$Forest", "symbols", "[I", true)
  | 1 => ("TreeMachines$Forest", "lefts", "[I", true)
  | 2 => ("TreeMachines$Forest", "rights", "[I", true)
  | 3 => ("TreeMachines$Forest", "sizes", "[I", true)
  | 4 => ("TreeMachines$Forest", "profiles", "[I", true)
  | 5 => ("TreeMachines$Forest", "unused", "[I", true)
  | _ => ("TreeMachines$Forest", "made", "I", false)
def tyX1 : Nat → FieldType := fun k => match k with
  | 0 => .array .int
  | 1 => .array .int
  | 2 => .array .int
  | 3 => .array .int
  | 4 => .array .int
  | 5 => .array .int
  | _ => .int
abbrev wsX10 : List Cond := u_ws RX1 TX1 7
theorem nmX1 : ∀ a, a < 7 → ∀ b, b < 7 → a ≠ b → (TX1 a).2.1 ≠ (TX1 b).2.1 := by decide +kernel
theorem tyX1_ok : ∀ k, k < 7 → parseFieldDescriptor (TX1 k).2.2.1 = some (tyX1 k) := by decide +kernel
abbrev cX1_init : ByteArray := prog_3_method_1_code
def yX1_init : MethodName := ⟨RX1, "<init>", "()V"⟩
abbrev cX1_holds : ByteArray := prog_3_method_2_code
def yX1_holds : MethodName := ⟨RX1, "holds", "(I)Z"⟩
abbrev cX1_count : ByteArray := prog_3_method_3_code
def yX1_count : MethodName := ⟨RX1, "count", "()I"⟩
abbrev cX1_room : ByteArray := prog_3_method_4_code
def yX1_room : MethodName := ⟨RX1, "room", "()I"⟩
abbrev cX1_symbolOf : ByteArray := prog_3_method_5_code
def yX1_symbolOf : MethodName := ⟨RX1, "symbolOf", "(I)I"⟩
abbrev cX1_leftOf : ByteArray := prog_3_method_6_code
def yX1_leftOf : MethodName := ⟨RX1, "leftOf", "(I)I"⟩
abbrev cX1_rightOf : ByteArray := prog_3_method_7_code
def yX1_rightOf : MethodName := ⟨RX1, "rightOf", "(I)I"⟩
abbrev cX1_sizeOf : ByteArray := prog_3_method_8_code
def yX1_sizeOf : MethodName := ⟨RX1, "sizeOf", "(I)I"⟩
abbrev cX1_add : ByteArray := prog_3_method_9_code
def yX1_add : MethodName := ⟨RX1, "add", "(III)I"⟩
abbrev cX1_sizeOrZero : ByteArray := prog_3_method_10_code
def yX1_sizeOrZero : MethodName := ⟨RX1, "sizeOrZero", "(I)I"⟩
abbrev cX1_profileOf : ByteArray := prog_3_method_11_code
def yX1_profileOf : MethodName := ⟨RX1, "profileOf", "(ILTreeMachines$Pair;)I"⟩
abbrev cX1_childProfile : ByteArray := prog_3_method_12_code
def yX1_childProfile : MethodName := ⟨RX1, "childProfile", "(I)I"⟩
abbrev cX1_plant : ByteArray := prog_3_method_13_code
def yX1_plant : MethodName := ⟨RX1, "plant", "([II)I"⟩
def RX2 : String := "TreeMachines$LeastTerms"
def TX2 : u_T := fun k => match k with
  | 0 => ("TreeMachines$LeastTerms", "machines", "LTreeMachines$Pair;", true)
  | 1 => ("TreeMachines$LeastTerms", "sizes", "[I", true)
  | 2 => ("TreeMachines$LeastTerms", "symbols", "[I", true)
  | 3 => ("TreeMachines$LeastTerms", "lefts", "[I", true)
  | 4 => ("TreeMachines$LeastTerms", "rights", "[I", true)
  | 5 => ("TreeMachines$LeastTerms", "found", "[I", true)
  | 6 => ("TreeMachines$LeastTerms", "starts", "[I", true)
  | 7 => ("TreeMachines$LeastTerms", "byWriting", "[I", true)
  | 8 => ("TreeMachines$LeastTerms", "ranks", "[I", true)
  | 9 => ("TreeMachines$LeastTerms", "writing", "[I", true)
  | 10 => ("TreeMachines$LeastTerms", "pending", "[I", true)
  | 11 => ("TreeMachines$LeastTerms", "count", "I", false)
  | _ => ("TreeMachines$LeastTerms", "known", "Z", false)
def tyX2 : Nat → FieldType := fun k => match k with
  | 0 => .object "TreeMachines$Pair"
  | 1 => .array .int
  | 2 => .array .int
  | 3 => .array .int
  | 4 => .array .int
  | 5 => .array .int
  | 6 => .array .int
  | 7 => .array .int
  | 8 => .array .int
  | 9 => .array .int
  | 10 => .array .int
  | 11 => .int
  | _ => .boolean
abbrev wsX20 : List Cond := u_ws RX2 TX2 13
theorem nmX2 : ∀ a, a < 13 → ∀ b, b < 13 → a ≠ b → (TX2 a).2.1 ≠ (TX2 b).2.1 := by decide +kernel
theorem tyX2_ok : ∀ k, k < 13 → parseFieldDescriptor (TX2 k).2.2.1 = some (tyX2 k) := by decide +kernel
abbrev cX2_init : ByteArray := prog_4_method_1_code
def yX2_init : MethodName := ⟨RX2, "<init>", "(LTreeMachines$Pair;)V"⟩
abbrev cX2_forget : ByteArray := prog_4_method_2_code
def yX2_forget : MethodName := ⟨RX2, "forget", "()V"⟩
abbrev cX2_foundCount : ByteArray := prog_4_method_3_code
def yX2_foundCount : MethodName := ⟨RX2, "foundCount", "()I"⟩
abbrev cX2_foundAt : ByteArray := prog_4_method_4_code
def yX2_foundAt : MethodName := ⟨RX2, "foundAt", "(I)I"⟩
abbrev cX2_sizeOf : ByteArray := prog_4_method_5_code
def yX2_sizeOf : MethodName := ⟨RX2, "sizeOf", "(I)I"⟩
abbrev cX2_firstOf : ByteArray := prog_4_method_6_code
def yX2_firstOf : MethodName := ⟨RX2, "firstOf", "(I)I"⟩
abbrev cX2_writingOf : ByteArray := prog_4_method_7_code
def yX2_writingOf : MethodName := ⟨RX2, "writingOf", "(I)[I"⟩
abbrev cX2_learn : ByteArray := prog_4_method_8_code
def yX2_learn : MethodName := ⟨RX2, "learn", "()V"⟩
abbrev cX2_canHaveSize : ByteArray := prog_4_method_9_code
def yX2_canHaveSize : MethodName := ⟨RX2, "canHaveSize", "(II)Z"⟩
abbrev cX2_findOfSize : ByteArray := prog_4_method_10_code
def yX2_findOfSize : MethodName := ⟨RX2, "findOfSize", "(I)V"⟩
abbrev cX2_findWithOne : ByteArray := prog_4_method_11_code
def yX2_findWithOne : MethodName := ⟨RX2, "findWithOne", "(II)V"⟩
abbrev cX2_findWithTwo : ByteArray := prog_4_method_12_code
def yX2_findWithTwo : MethodName := ⟨RX2, "findWithTwo", "(II)V"⟩
abbrev cX2_findLarger : ByteArray := prog_4_method_13_code
def yX2_findLarger : MethodName := ⟨RX2, "findLarger", "()V"⟩
abbrev cX2_meet : ByteArray := prog_4_method_14_code
def yX2_meet : MethodName := ⟨RX2, "meet", "(IIII)V"⟩
abbrev cX2_sortIn : ByteArray := prog_4_method_15_code
def yX2_sortIn : MethodName := ⟨RX2, "sortIn", "(I)V"⟩
abbrev cX2_isWrittenBefore : ByteArray := prog_4_method_16_code
def yX2_isWrittenBefore : MethodName := ⟨RX2, "isWrittenBefore", "(II)Z"⟩
def RX3 : String := "TreeMachines$Machine"
def TX3 : u_T := fun k => match k with
  | 0 => ("TreeMachines$Machine", "targets", "[I", true)
  | 1 => ("TreeMachines$Machine", "reachable", "[I", true)
  | _ => ("TreeMachines$Machine", "goals", "I", false)
def tyX3 : Nat → FieldType := fun k => match k with
  | 0 => .array .int
  | 1 => .array .int
  | _ => .int
abbrev wsX30 : List Cond := u_ws RX3 TX3 3
theorem nmX3 : ∀ a, a < 3 → ∀ b, b < 3 → a ≠ b → (TX3 a).2.1 ≠ (TX3 b).2.1 := by decide +kernel
theorem tyX3_ok : ∀ k, k < 3 → parseFieldDescriptor (TX3 k).2.2.1 = some (tyX3 k) := by decide +kernel
abbrev cX3_init : ByteArray := prog_5_method_1_code
def yX3_init : MethodName := ⟨RX3, "<init>", "()V"⟩
abbrev cX3_leads : ByteArray := prog_5_method_2_code
def yX3_leads : MethodName := ⟨RX3, "leads", "(II)Z"⟩
abbrev cX3_turnRule : ByteArray := prog_5_method_3_code
def yX3_turnRule : MethodName := ⟨RX3, "turnRule", "(II)V"⟩
abbrev cX3_isGoal : ByteArray := prog_5_method_4_code
def yX3_isGoal : MethodName := ⟨RX3, "isGoal", "(I)Z"⟩
abbrev cX3_turnGoal : ByteArray := prog_5_method_5_code
def yX3_turnGoal : MethodName := ⟨RX3, "turnGoal", "(I)V"⟩
abbrev cX3_empty : ByteArray := prog_5_method_6_code
def yX3_empty : MethodName := ⟨RX3, "empty", "()V"⟩
abbrev cX3_accepts : ByteArray := prog_5_method_7_code
def yX3_accepts : MethodName := ⟨RX3, "accepts", "(I)Z"⟩
abbrev cX3_rebuild : ByteArray := prog_5_method_8_code
def yX3_rebuild : MethodName := ⟨RX3, "rebuild", "(I)V"⟩
abbrev cX3_cell : ByteArray := prog_5_method_9_code
def yX3_cell : MethodName := ⟨RX3, "cell", "(III)I"⟩
def RX4 : String := "TreeMachines$Pair"
def TX4 : u_T := fun k => match k with
  | 0 => ("TreeMachines$Pair", "first", "LTreeMachines$Machine;", true)
  | _ => ("TreeMachines$Pair", "second", "LTreeMachines$Machine;", true)
def tyX4 : Nat → FieldType := fun k => match k with
  | 0 => .object "TreeMachines$Machine"
  | _ => .object "TreeMachines$Machine"
abbrev wsX40 : List Cond := u_ws RX4 TX4 2
theorem nmX4 : ∀ a, a < 2 → ∀ b, b < 2 → a ≠ b → (TX4 a).2.1 ≠ (TX4 b).2.1 := by decide +kernel
theorem tyX4_ok : ∀ k, k < 2 → parseFieldDescriptor (TX4 k).2.2.1 = some (tyX4 k) := by decide +kernel
abbrev cX4_init : ByteArray := prog_6_method_1_code
def yX4_init : MethodName := ⟨RX4, "<init>", "()V"⟩
abbrev cX4_numbered : ByteArray := prog_6_method_2_code
def yX4_numbered : MethodName := ⟨RX4, "numbered", "(I)LTreeMachines$Machine;"⟩
abbrev cX4_profileOf : ByteArray := prog_6_method_3_code
def yX4_profileOf : MethodName := ⟨RX4, "profileOf", "(III)I"⟩
abbrev cX4_placeOf : ByteArray := prog_6_method_4_code
def yX4_placeOf : MethodName := ⟨RX4, "placeOf", "(I)I"⟩
abbrev cX4_isOfSort : ByteArray := prog_6_method_5_code
def yX4_isOfSort : MethodName := ⟨RX4, "isOfSort", "(II)Z"⟩
def RX5 : String := "TreeMachines"
def TX5 : u_T := fun k => match k with
  | 0 => ("TreeMachines", "machines", "LTreeMachines$Pair;", true)
  | 1 => ("TreeMachines", "forest", "LTreeMachines$Forest;", true)
  | 2 => ("TreeMachines", "leastTerms", "LTreeMachines$LeastTerms;", true)
  | _ => ("TreeMachines", "counts", "LTreeMachines$Counts;", true)
def tyX5 : Nat → FieldType := fun k => match k with
  | 0 => .object "TreeMachines$Pair"
  | 1 => .object "TreeMachines$Forest"
  | 2 => .object "TreeMachines$LeastTerms"
  | _ => .object "TreeMachines$Counts"
abbrev wsX50 : List Cond := u_ws RX5 TX5 4
theorem nmX5 : ∀ a, a < 4 → ∀ b, b < 4 → a ≠ b → (TX5 a).2.1 ≠ (TX5 b).2.1 := by decide +kernel
theorem tyX5_ok : ∀ k, k < 4 → parseFieldDescriptor (TX5 k).2.2.1 = some (tyX5 k) := by decide +kernel
abbrev cX5_init : ByteArray := prog_1_method_1_code
def yX5_init : MethodName := ⟨RX5, "<init>", "()V"⟩
abbrev cX5_rule : ByteArray := prog_1_method_2_code
def yX5_rule : MethodName := ⟨RX5, "rule", "(IIIII)Z"⟩
abbrev cX5_drop : ByteArray := prog_1_method_3_code
def yX5_drop : MethodName := ⟨RX5, "drop", "(IIIII)Z"⟩
abbrev cX5_isRule : ByteArray := prog_1_method_4_code
def yX5_isRule : MethodName := ⟨RX5, "isRule", "(IIIII)Z"⟩
abbrev cX5_goal : ByteArray := prog_1_method_5_code
def yX5_goal : MethodName := ⟨RX5, "goal", "(IIZ)Z"⟩
abbrev cX5_clear : ByteArray := prog_1_method_6_code
def yX5_clear : MethodName := ⟨RX5, "clear", "(I)Z"⟩
abbrev cX5_node : ByteArray := prog_1_method_7_code
def yX5_node : MethodName := ⟨RX5, "node", "(III)I"⟩
abbrev cX5_nodes : ByteArray := prog_1_method_8_code
def yX5_nodes : MethodName := ⟨RX5, "nodes", "()I"⟩
abbrev cX5_part : ByteArray := prog_1_method_9_code
def yX5_part : MethodName := ⟨RX5, "part", "(II)I"⟩
abbrev cX5_reached : ByteArray := prog_1_method_10_code
def yX5_reached : MethodName := ⟨RX5, "reached", "(II)I"⟩
abbrev cX5_place : ByteArray := prog_1_method_11_code
def yX5_place : MethodName := ⟨RX5, "place", "(I)I"⟩
abbrev cX5_size : ByteArray := prog_1_method_12_code
def yX5_size : MethodName := ⟨RX5, "size", "(I)I"⟩
abbrev cX5_included : ByteArray := prog_1_method_13_code
def yX5_included : MethodName := ⟨RX5, "included", "()Z"⟩
abbrev cX5_least : ByteArray := prog_1_method_14_code
def yX5_least : MethodName := ⟨RX5, "least", "(I)I"⟩
abbrev cX5_witness : ByteArray := prog_1_method_15_code
def yX5_witness : MethodName := ⟨RX5, "witness", "(I)I"⟩
abbrev cX5_terms : ByteArray := prog_1_method_16_code
def yX5_terms : MethodName := ⟨RX5, "terms", "(II)I"⟩
abbrev cX5_changeRule : ByteArray := prog_1_method_17_code
def yX5_changeRule : MethodName := ⟨RX5, "changeRule", "(IIIZ)Z"⟩
abbrev cX5_forgetProfiles : ByteArray := prog_1_method_18_code
def yX5_forgetProfiles : MethodName := ⟨RX5, "forgetProfiles", "()V"⟩
abbrev cX5_isSymbol : ByteArray := prog_1_method_19_code
def yX5_isSymbol : MethodName := ⟨RX5, "isSymbol", "(I)Z"⟩
abbrev cX5_isState : ByteArray := prog_1_method_20_code
def yX5_isState : MethodName := ⟨RX5, "isState", "(I)Z"⟩
abbrev cX5_isSort : ByteArray := prog_1_method_21_code
def yX5_isSort : MethodName := ⟨RX5, "isSort", "(I)Z"⟩
abbrev cX5_hasLeft : ByteArray := prog_1_method_22_code
def yX5_hasLeft : MethodName := ⟨RX5, "hasLeft", "(I)Z"⟩
abbrev cX5_hasRight : ByteArray := prog_1_method_23_code
def yX5_hasRight : MethodName := ⟨RX5, "hasRight", "(I)Z"⟩
abbrev cX5_rowOf : ByteArray := prog_1_method_24_code
def yX5_rowOf : MethodName := ⟨RX5, "rowOf", "(III)I"⟩
abbrev cX5_firstSet : ByteArray := prog_1_method_25_code
def yX5_firstSet : MethodName := ⟨RX5, "firstSet", "(I)I"⟩
abbrev cX5_secondSet : ByteArray := prog_1_method_26_code
def yX5_secondSet : MethodName := ⟨RX5, "secondSet", "(I)I"⟩
def RX6 : String := "TreeMachinesModel"
def TX6 : u_T := fun k => match k with
  | 0 => ("TreeMachinesModel", "to", "[I", true)
  | 1 => ("TreeMachinesModel", "goals", "[I", true)
  | 2 => ("TreeMachinesModel", "count", "I", false)
  | 3 => ("TreeMachinesModel", "symbolOf", "[I", true)
  | 4 => ("TreeMachinesModel", "leftOf", "[I", true)
  | 5 => ("TreeMachinesModel", "rightOf", "[I", true)
  | 6 => ("TreeMachinesModel", "length", "[I", true)
  | 7 => ("TreeMachinesModel", "writing", "[B", true)
  | 8 => ("TreeMachinesModel", "trial", "[B", true)
  | 9 => ("TreeMachinesModel", "many", "[I", true)
  | _ => ("TreeMachinesModel", "stack", "[I", true)
def tyX6 : Nat → FieldType := fun k => match k with
  | 0 => .array .int
  | 1 => .array .int
  | 2 => .int
  | 3 => .array .int
  | 4 => .array .int
  | 5 => .array .int
  | 6 => .array .int
  | 7 => .array .byte
  | 8 => .array .byte
  | 9 => .array .int
  | _ => .array .int
abbrev wsX60 : List Cond := u_ws RX6 TX6 11
theorem nmX6 : ∀ a, a < 11 → ∀ b, b < 11 → a ≠ b → (TX6 a).2.1 ≠ (TX6 b).2.1 := by decide +kernel
theorem tyX6_ok : ∀ k, k < 11 → parseFieldDescriptor (TX6 k).2.2.1 = some (tyX6 k) := by decide +kernel
abbrev cX6_init : ByteArray := prog_8_method_1_code
def yX6_init : MethodName := ⟨RX6, "<init>", "()V"⟩
abbrev cX6_within : ByteArray := prog_8_method_2_code
def yX6_within : MethodName := ⟨RX6, "within", "(III)Z"⟩
abbrev cX6_children : ByteArray := prog_8_method_3_code
def yX6_children : MethodName := ⟨RX6, "children", "(I)I"⟩
abbrev cX6_at : ByteArray := prog_8_method_4_code
def yX6_at : MethodName := ⟨RX6, "at", "(IIII)I"⟩
abbrev cX6_rule : ByteArray := prog_8_method_5_code
def yX6_rule : MethodName := ⟨RX6, "rule", "(IIIII)Z"⟩
abbrev cX6_drop : ByteArray := prog_8_method_6_code
def yX6_drop : MethodName := ⟨RX6, "drop", "(IIIII)Z"⟩
abbrev cX6_isRule : ByteArray := prog_8_method_7_code
def yX6_isRule : MethodName := ⟨RX6, "isRule", "(IIIII)Z"⟩
abbrev cX6_goal : ByteArray := prog_8_method_8_code
def yX6_goal : MethodName := ⟨RX6, "goal", "(IIZ)Z"⟩
abbrev cX6_clear : ByteArray := prog_8_method_9_code
def yX6_clear : MethodName := ⟨RX6, "clear", "(I)Z"⟩
abbrev cX6_node : ByteArray := prog_8_method_10_code
def yX6_node : MethodName := ⟨RX6, "node", "(III)I"⟩
abbrev cX6_nodes : ByteArray := prog_8_method_11_code
def yX6_nodes : MethodName := ⟨RX6, "nodes", "()I"⟩
abbrev cX6_part : ByteArray := prog_8_method_12_code
def yX6_part : MethodName := ⟨RX6, "part", "(II)I"⟩
abbrev cX6_over : ByteArray := prog_8_method_13_code
def yX6_over : MethodName := ⟨RX6, "over", "(IIII)I"⟩
abbrev cX6_reach : ByteArray := prog_8_method_14_code
def yX6_reach : MethodName := ⟨RX6, "reach", "(II)I"⟩
abbrev cX6_reached : ByteArray := prog_8_method_15_code
def yX6_reached : MethodName := ⟨RX6, "reached", "(II)I"⟩
abbrev cX6_placeOf : ByteArray := prog_8_method_16_code
def yX6_placeOf : MethodName := ⟨RX6, "placeOf", "(I)I"⟩
abbrev cX6_place : ByteArray := prog_8_method_17_code
def yX6_place : MethodName := ⟨RX6, "place", "(I)I"⟩
abbrev cX6_size : ByteArray := prog_8_method_18_code
def yX6_size : MethodName := ⟨RX6, "size", "(I)I"⟩
abbrev cX6_profile : ByteArray := prog_8_method_19_code
def yX6_profile : MethodName := ⟨RX6, "profile", "(III)I"⟩
abbrev cX6_offer : ByteArray := prog_8_method_20_code
def yX6_offer : MethodName := ⟨RX6, "offer", "(III)Z"⟩
abbrev cX6_all : ByteArray := prog_8_method_21_code
def yX6_all : MethodName := ⟨RX6, "all", "()V"⟩
abbrev cX6_best : ByteArray := prog_8_method_22_code
def yX6_best : MethodName := ⟨RX6, "best", "(I)I"⟩
abbrev cX6_included : ByteArray := prog_8_method_23_code
def yX6_included : MethodName := ⟨RX6, "included", "()Z"⟩
abbrev cX6_least : ByteArray := prog_8_method_24_code
def yX6_least : MethodName := ⟨RX6, "least", "(I)I"⟩
abbrev cX6_witness : ByteArray := prog_8_method_25_code
def yX6_witness : MethodName := ⟨RX6, "witness", "(I)I"⟩
abbrev cX6_terms : ByteArray := prog_8_method_26_code
def yX6_terms : MethodName := ⟨RX6, "terms", "(II)I"⟩
abbrev cX6_pairs : ByteArray := prog_8_method_27_code
def yX6_pairs : MethodName := ⟨RX6, "pairs", "(IIII)V"⟩
def RJ9 : String := "java/lang/Math"
def TJ9 : u_T := fun k => match k with
  | _ => ("", "", "", false)
def tyJ9 : Nat → FieldType := fun k => match k with
  | _ => .int
abbrev wsJ90 : List Cond := u_ws RJ9 TJ9 0
theorem nmJ9 : ∀ a, a < 0 → ∀ b, b < 0 → a ≠ b → (TJ9 a).2.1 ≠ (TJ9 b).2.1 := by decide +kernel
theorem tyJ9_ok : ∀ k, k < 0 → parseFieldDescriptor (TJ9 k).2.2.1 = some (tyJ9 k) := by decide +kernel
abbrev cJ9_min_7cf53 : ByteArray := prog_9_method_69_code
def yJ9_min_7cf53 : MethodName := ⟨RJ9, "min", "(II)I"⟩
def RJ7 : String := "java/util/Arrays"
def TJ7 : u_T := fun k => match k with
  | _ => ("", "", "", false)
def tyJ7 : Nat → FieldType := fun k => match k with
  | _ => .int
abbrev wsJ70 : List Cond := u_ws RJ7 TJ7 0
theorem nmJ7 : ∀ a, a < 0 → ∀ b, b < 0 → a ≠ b → (TJ7 a).2.1 ≠ (TJ7 b).2.1 := by decide +kernel
theorem tyJ7_ok : ∀ k, k < 0 → parseFieldDescriptor (TJ7 k).2.2.1 = some (tyJ7 k) := by decide +kernel
abbrev cJ7_fill_53178 : ByteArray := prog_10_method_103_code
def yJ7_fill_53178 : MethodName := ⟨RJ7, "fill", "([II)V"⟩
def RL : String := "TreeMachinesLaw"
abbrev cL_law : ByteArray := code
def yL_law : MethodName := ⟨RL, "law", "([I)Z"⟩
def wsX0_init : List Cond := .code yX0_init cX0_init 3 none :: ([.methodLink RX0 3 objectInit, .instanceMethod objectInit, .code objectInit ⟨#[0xb1]⟩ 1 none, .arrayClass .int, .fieldLink RX0 9 "TreeMachines$Counts" "numbers" "[I", .fieldLink RX0 15 "TreeMachines$Counts" "counted" "I", .fieldLink RX0 19 "TreeMachines$Counts" "machines" "LTreeMachines$Pair;", .fieldLink RX0 23 "TreeMachines$Counts" "leastTerms" "LTreeMachines$LeastTerms;"] ++ wsX00)
def wsX0_forget : List Cond := .code yX0_forget cX0_forget 1 none :: ([.fieldLink RX0 15 "TreeMachines$Counts" "counted" "I"] ++ wsX00)
def wsJ7_fill_53178 : List Cond := .code yJ7_fill_53178 cJ7_fill_53178 4 none :: ([])
def wsX2_canHaveSize : List Cond := .code yX2_canHaveSize cX2_canHaveSize 2 (some .boolean) :: ([])
def wsX5_hasRight : List Cond := .code yX5_hasRight cX5_hasRight 1 (some .boolean) :: ([])
def wsX4_profileOf : List Cond := .code yX4_profileOf cX4_profileOf 6 (some .int) :: ([.fieldLink RX4 12 "TreeMachines$Pair" "first" "LTreeMachines$Machine;", .fieldLink RX4 21 "TreeMachines$Machine" "reachable" "[I", .fieldLink RX4 18 "TreeMachines$Pair" "second" "LTreeMachines$Machine;"] ++ wsX40 ++ wsX30)
def wsX2_meet : List Cond := .code yX2_meet cX2_meet 6 none :: ([.fieldLink RX2 50 "TreeMachines$LeastTerms" "machines" "LTreeMachines$Pair;", .fieldLink RX2 9 "TreeMachines$LeastTerms" "sizes" "[I", .fieldLink RX2 42 "TreeMachines$LeastTerms" "count" "I", .fieldLink RX2 15 "TreeMachines$LeastTerms" "symbols" "[I", .fieldLink RX2 18 "TreeMachines$LeastTerms" "lefts" "[I", .fieldLink RX2 21 "TreeMachines$LeastTerms" "rights" "[I", .fieldLink RX2 24 "TreeMachines$LeastTerms" "found" "[I", .methodLink RX2 100 yX4_profileOf, .instanceMethod yX4_profileOf, .selects RX4 yX4_profileOf yX4_profileOf, .initialized RX4, .code yX4_profileOf cX4_profileOf 6 (some .int), .fieldLink RX4 12 "TreeMachines$Pair" "first" "LTreeMachines$Machine;", .fieldLink RX4 21 "TreeMachines$Machine" "reachable" "[I", .fieldLink RX4 18 "TreeMachines$Pair" "second" "LTreeMachines$Machine;"] ++ wsX20 ++ wsX40 ++ wsX30)
def wsX2_findWithTwo : List Cond := .code yX2_findWithTwo cX2_findWithTwo 9 none :: ([.fieldLink RX2 27 "TreeMachines$LeastTerms" "starts" "[I", .fieldLink RX2 30 "TreeMachines$LeastTerms" "byWriting" "[I", .fieldLink RX2 9 "TreeMachines$LeastTerms" "sizes" "[I", .fieldLink RX2 24 "TreeMachines$LeastTerms" "found" "[I", .methodLink RX2 96 yX2_meet, .instanceMethod yX2_meet, .selects RX2 yX2_meet yX2_meet, .initialized RX2, .code yX2_meet cX2_meet 6 none, .fieldLink RX2 50 "TreeMachines$LeastTerms" "machines" "LTreeMachines$Pair;", .fieldLink RX2 42 "TreeMachines$LeastTerms" "count" "I", .fieldLink RX2 15 "TreeMachines$LeastTerms" "symbols" "[I", .fieldLink RX2 18 "TreeMachines$LeastTerms" "lefts" "[I", .fieldLink RX2 21 "TreeMachines$LeastTerms" "rights" "[I", .methodLink RX2 100 yX4_profileOf, .instanceMethod yX4_profileOf, .selects RX4 yX4_profileOf yX4_profileOf, .initialized RX4, .code yX4_profileOf cX4_profileOf 6 (some .int), .fieldLink RX4 12 "TreeMachines$Pair" "first" "LTreeMachines$Machine;", .fieldLink RX4 21 "TreeMachines$Machine" "reachable" "[I", .fieldLink RX4 18 "TreeMachines$Pair" "second" "LTreeMachines$Machine;"] ++ wsX20 ++ wsX40 ++ wsX30)
def wsX5_hasLeft : List Cond := .code yX5_hasLeft cX5_hasLeft 1 (some .boolean) :: ([])
def wsX2_findWithOne : List Cond := .code yX2_findWithOne cX2_findWithOne 5 none :: ([.fieldLink RX2 27 "TreeMachines$LeastTerms" "starts" "[I", .fieldLink RX2 24 "TreeMachines$LeastTerms" "found" "[I", .methodLink RX2 96 yX2_meet, .instanceMethod yX2_meet, .selects RX2 yX2_meet yX2_meet, .initialized RX2, .code yX2_meet cX2_meet 6 none, .fieldLink RX2 50 "TreeMachines$LeastTerms" "machines" "LTreeMachines$Pair;", .fieldLink RX2 9 "TreeMachines$LeastTerms" "sizes" "[I", .fieldLink RX2 42 "TreeMachines$LeastTerms" "count" "I", .fieldLink RX2 15 "TreeMachines$LeastTerms" "symbols" "[I", .fieldLink RX2 18 "TreeMachines$LeastTerms" "lefts" "[I", .fieldLink RX2 21 "TreeMachines$LeastTerms" "rights" "[I", .methodLink RX2 100 yX4_profileOf, .instanceMethod yX4_profileOf, .selects RX4 yX4_profileOf yX4_profileOf, .initialized RX4, .code yX4_profileOf cX4_profileOf 6 (some .int), .fieldLink RX4 12 "TreeMachines$Pair" "first" "LTreeMachines$Machine;", .fieldLink RX4 21 "TreeMachines$Machine" "reachable" "[I", .fieldLink RX4 18 "TreeMachines$Pair" "second" "LTreeMachines$Machine;"] ++ wsX20 ++ wsX40 ++ wsX30)
def wsX2_findOfSize_r1 : List Cond := [Cond.static yX5_hasRight, Cond.initialized RX5, Cond.code yX5_hasRight cX5_hasRight 1 (some .boolean), Cond.methodLink RX2 89 yX2_findWithTwo, Cond.instanceMethod yX2_findWithTwo, Cond.selects RX2 yX2_findWithTwo yX2_findWithTwo, Cond.initialized RX2, Cond.code yX2_findWithTwo cX2_findWithTwo 9 none, Cond.fieldLink RX2 27 "TreeMachines$LeastTerms" "starts" "[I", Cond.fieldLink RX2 30 "TreeMachines$LeastTerms" "byWriting" "[I", Cond.fieldLink RX2 9 "TreeMachines$LeastTerms" "sizes" "[I", Cond.fieldLink RX2 24 "TreeMachines$LeastTerms" "found" "[I", Cond.methodLink RX2 96 yX2_meet, Cond.instanceMethod yX2_meet, Cond.selects RX2 yX2_meet yX2_meet, Cond.code yX2_meet cX2_meet 6 none, Cond.fieldLink RX2 50 "TreeMachines$LeastTerms" "machines" "LTreeMachines$Pair;", Cond.fieldLink RX2 42 "TreeMachines$LeastTerms" "count" "I", Cond.fieldLink RX2 15 "TreeMachines$LeastTerms" "symbols" "[I", Cond.fieldLink RX2 18 "TreeMachines$LeastTerms" "lefts" "[I", Cond.fieldLink RX2 21 "TreeMachines$LeastTerms" "rights" "[I", Cond.methodLink RX2 100 yX4_profileOf, Cond.instanceMethod yX4_profileOf, Cond.selects RX4 yX4_profileOf yX4_profileOf]
def wsX2_findOfSize_r2 : List Cond := [Cond.initialized RX4, Cond.code yX4_profileOf cX4_profileOf 6 (some .int), Cond.fieldLink RX4 12 "TreeMachines$Pair" "first" "LTreeMachines$Machine;", Cond.fieldLink RX4 21 "TreeMachines$Machine" "reachable" "[I", Cond.fieldLink RX4 18 "TreeMachines$Pair" "second" "LTreeMachines$Machine;", Cond.static yX5_hasLeft, Cond.code yX5_hasLeft cX5_hasLeft 1 (some .boolean), Cond.methodLink RX2 93 yX2_findWithOne, Cond.instanceMethod yX2_findWithOne, Cond.selects RX2 yX2_findWithOne yX2_findWithOne, Cond.code yX2_findWithOne cX2_findWithOne 5 none]
def wsX2_findOfSize : List Cond := .code yX2_findOfSize cX2_findOfSize 3 none :: ((wsX2_findOfSize_r1 ++ wsX2_findOfSize_r2) ++ wsX20 ++ wsX40 ++ wsX30)
def wsX2_isWrittenBefore : List Cond := .code yX2_isWrittenBefore cX2_isWrittenBefore 3 (some .boolean) :: ([.fieldLink RX2 15 "TreeMachines$LeastTerms" "symbols" "[I", .fieldLink RX2 18 "TreeMachines$LeastTerms" "lefts" "[I", .fieldLink RX2 33 "TreeMachines$LeastTerms" "ranks" "[I", .fieldLink RX2 21 "TreeMachines$LeastTerms" "rights" "[I"] ++ wsX20)
def wsX2_sortIn : List Cond := .code yX2_sortIn cX2_sortIn 5 none :: ([.fieldLink RX2 42 "TreeMachines$LeastTerms" "count" "I", .fieldLink RX2 24 "TreeMachines$LeastTerms" "found" "[I", .fieldLink RX2 30 "TreeMachines$LeastTerms" "byWriting" "[I", .fieldLink RX2 33 "TreeMachines$LeastTerms" "ranks" "[I", .methodLink RX2 104 yX2_isWrittenBefore, .instanceMethod yX2_isWrittenBefore, .selects RX2 yX2_isWrittenBefore yX2_isWrittenBefore, .initialized RX2, .code yX2_isWrittenBefore cX2_isWrittenBefore 3 (some .boolean), .fieldLink RX2 15 "TreeMachines$LeastTerms" "symbols" "[I", .fieldLink RX2 18 "TreeMachines$LeastTerms" "lefts" "[I", .fieldLink RX2 21 "TreeMachines$LeastTerms" "rights" "[I"] ++ wsX20)
def wsX2_findLarger : List Cond := .code yX2_findLarger cX2_findLarger 4 none :: ([.fieldLink RX2 42 "TreeMachines$LeastTerms" "count" "I", .fieldLink RX2 24 "TreeMachines$LeastTerms" "found" "[I", .methodLink RX2 96 yX2_meet, .instanceMethod yX2_meet, .selects RX2 yX2_meet yX2_meet, .initialized RX2, .code yX2_meet cX2_meet 6 none, .fieldLink RX2 50 "TreeMachines$LeastTerms" "machines" "LTreeMachines$Pair;", .fieldLink RX2 9 "TreeMachines$LeastTerms" "sizes" "[I", .fieldLink RX2 15 "TreeMachines$LeastTerms" "symbols" "[I", .fieldLink RX2 18 "TreeMachines$LeastTerms" "lefts" "[I", .fieldLink RX2 21 "TreeMachines$LeastTerms" "rights" "[I", .methodLink RX2 100 yX4_profileOf, .instanceMethod yX4_profileOf, .selects RX4 yX4_profileOf yX4_profileOf, .initialized RX4, .code yX4_profileOf cX4_profileOf 6 (some .int), .fieldLink RX4 12 "TreeMachines$Pair" "first" "LTreeMachines$Machine;", .fieldLink RX4 21 "TreeMachines$Machine" "reachable" "[I", .fieldLink RX4 18 "TreeMachines$Pair" "second" "LTreeMachines$Machine;"] ++ wsX20 ++ wsX40 ++ wsX30)
def wsX2_learn_r1 : List Cond := [Cond.fieldLink RX2 46 "TreeMachines$LeastTerms" "known" "Z", Cond.fieldLink RX2 9 "TreeMachines$LeastTerms" "sizes" "[I", Cond.fieldLink RX2 42 "TreeMachines$LeastTerms" "count" "I", Cond.fieldLink RX2 27 "TreeMachines$LeastTerms" "starts" "[I", Cond.methodLink RX2 70 yJ7_fill_53178, Cond.static yJ7_fill_53178, Cond.initialized RJ7, Cond.code yJ7_fill_53178 cJ7_fill_53178 4 none, Cond.methodLink RX2 76 yX2_canHaveSize, Cond.static yX2_canHaveSize, Cond.initialized RX2, Cond.code yX2_canHaveSize cX2_canHaveSize 2 (some .boolean), Cond.methodLink RX2 79 yX2_findOfSize, Cond.instanceMethod yX2_findOfSize, Cond.selects RX2 yX2_findOfSize yX2_findOfSize, Cond.code yX2_findOfSize cX2_findOfSize 3 none, Cond.static yX5_hasRight, Cond.initialized RX5, Cond.code yX5_hasRight cX5_hasRight 1 (some .boolean), Cond.methodLink RX2 89 yX2_findWithTwo, Cond.instanceMethod yX2_findWithTwo, Cond.selects RX2 yX2_findWithTwo yX2_findWithTwo, Cond.code yX2_findWithTwo cX2_findWithTwo 9 none, Cond.fieldLink RX2 30 "TreeMachines$LeastTerms" "byWriting" "[I"]
def wsX2_learn_r2 : List Cond := [Cond.fieldLink RX2 24 "TreeMachines$LeastTerms" "found" "[I", Cond.methodLink RX2 96 yX2_meet, Cond.instanceMethod yX2_meet, Cond.selects RX2 yX2_meet yX2_meet, Cond.code yX2_meet cX2_meet 6 none, Cond.fieldLink RX2 50 "TreeMachines$LeastTerms" "machines" "LTreeMachines$Pair;", Cond.fieldLink RX2 15 "TreeMachines$LeastTerms" "symbols" "[I", Cond.fieldLink RX2 18 "TreeMachines$LeastTerms" "lefts" "[I", Cond.fieldLink RX2 21 "TreeMachines$LeastTerms" "rights" "[I", Cond.methodLink RX2 100 yX4_profileOf, Cond.instanceMethod yX4_profileOf, Cond.selects RX4 yX4_profileOf yX4_profileOf, Cond.initialized RX4, Cond.code yX4_profileOf cX4_profileOf 6 (some .int), Cond.fieldLink RX4 12 "TreeMachines$Pair" "first" "LTreeMachines$Machine;", Cond.fieldLink RX4 21 "TreeMachines$Machine" "reachable" "[I", Cond.fieldLink RX4 18 "TreeMachines$Pair" "second" "LTreeMachines$Machine;", Cond.static yX5_hasLeft, Cond.code yX5_hasLeft cX5_hasLeft 1 (some .boolean), Cond.methodLink RX2 93 yX2_findWithOne, Cond.instanceMethod yX2_findWithOne, Cond.selects RX2 yX2_findWithOne yX2_findWithOne, Cond.code yX2_findWithOne cX2_findWithOne 5 none, Cond.methodLink RX2 83 yX2_sortIn]
def wsX2_learn_r3 : List Cond := [Cond.instanceMethod yX2_sortIn, Cond.selects RX2 yX2_sortIn yX2_sortIn, Cond.code yX2_sortIn cX2_sortIn 5 none, Cond.fieldLink RX2 33 "TreeMachines$LeastTerms" "ranks" "[I", Cond.methodLink RX2 104 yX2_isWrittenBefore, Cond.instanceMethod yX2_isWrittenBefore, Cond.selects RX2 yX2_isWrittenBefore yX2_isWrittenBefore, Cond.code yX2_isWrittenBefore cX2_isWrittenBefore 3 (some .boolean), Cond.methodLink RX2 86 yX2_findLarger, Cond.instanceMethod yX2_findLarger, Cond.selects RX2 yX2_findLarger yX2_findLarger, Cond.code yX2_findLarger cX2_findLarger 4 none]
def wsX2_learn : List Cond := .code yX2_learn cX2_learn 3 none :: ((wsX2_learn_r1 ++ (wsX2_learn_r2 ++ wsX2_learn_r3)) ++ wsX20 ++ wsX40 ++ wsX30)
def wsX2_foundCount : List Cond := .code yX2_foundCount cX2_foundCount 1 (some .int) :: ([.fieldLink RX2 42 "TreeMachines$LeastTerms" "count" "I"] ++ wsX20)
def wsX0_emptyRow : List Cond := .code yX0_emptyRow cX0_emptyRow 3 none :: ([.fieldLink RX0 9 "TreeMachines$Counts" "numbers" "[I"] ++ wsX00)
def wsX0_addTerms : List Cond := .code yX0_addTerms cX0_addTerms 8 none :: ([.fieldLink RX0 9 "TreeMachines$Counts" "numbers" "[I", .fieldLink RX0 19 "TreeMachines$Counts" "machines" "LTreeMachines$Pair;", .methodLink RX0 69 yX4_profileOf, .instanceMethod yX4_profileOf, .selects RX4 yX4_profileOf yX4_profileOf, .initialized RX4, .code yX4_profileOf cX4_profileOf 6 (some .int), .fieldLink RX4 12 "TreeMachines$Pair" "first" "LTreeMachines$Machine;", .fieldLink RX4 21 "TreeMachines$Machine" "reachable" "[I", .fieldLink RX4 18 "TreeMachines$Pair" "second" "LTreeMachines$Machine;"] ++ wsX00 ++ wsX40 ++ wsX30)
def wsX2_foundAt : List Cond := .code yX2_foundAt cX2_foundAt 2 (some .int) :: ([.fieldLink RX2 24 "TreeMachines$LeastTerms" "found" "[I"] ++ wsX20)
def wsX2_sizeOf : List Cond := .code yX2_sizeOf cX2_sizeOf 2 (some .int) :: ([.fieldLink RX2 9 "TreeMachines$LeastTerms" "sizes" "[I"] ++ wsX20)
def wsX0_couples : List Cond := .code yX0_couples cX0_couples 7 (some .int) :: ([.fieldLink RX0 23 "TreeMachines$Counts" "leastTerms" "LTreeMachines$LeastTerms;", .fieldLink RX0 9 "TreeMachines$Counts" "numbers" "[I", .methodLink RX0 62 yX2_sizeOf, .instanceMethod yX2_sizeOf, .selects RX2 yX2_sizeOf yX2_sizeOf, .initialized RX2, .code yX2_sizeOf cX2_sizeOf 2 (some .int), .fieldLink RX2 9 "TreeMachines$LeastTerms" "sizes" "[I"] ++ wsX00 ++ wsX20)
def wsX0_countWithLeft_r1 : List Cond := [Cond.fieldLink RX0 23 "TreeMachines$Counts" "leastTerms" "LTreeMachines$LeastTerms;", Cond.methodLink RX0 62 yX2_sizeOf, Cond.instanceMethod yX2_sizeOf, Cond.selects RX2 yX2_sizeOf yX2_sizeOf, Cond.initialized RX2, Cond.code yX2_sizeOf cX2_sizeOf 2 (some .int), Cond.fieldLink RX2 9 "TreeMachines$LeastTerms" "sizes" "[I", Cond.methodLink RX0 40 yX2_foundAt, Cond.instanceMethod yX2_foundAt, Cond.selects RX2 yX2_foundAt yX2_foundAt, Cond.code yX2_foundAt cX2_foundAt 2 (some .int), Cond.fieldLink RX2 24 "TreeMachines$LeastTerms" "found" "[I", Cond.methodLink RX0 65 yX0_couples, Cond.instanceMethod yX0_couples, Cond.selects RX0 yX0_couples yX0_couples, Cond.initialized RX0, Cond.code yX0_couples cX0_couples 7 (some .int), Cond.fieldLink RX0 9 "TreeMachines$Counts" "numbers" "[I", Cond.methodLink RX0 54 yX0_addTerms, Cond.instanceMethod yX0_addTerms, Cond.selects RX0 yX0_addTerms yX0_addTerms, Cond.code yX0_addTerms cX0_addTerms 8 none, Cond.fieldLink RX0 19 "TreeMachines$Counts" "machines" "LTreeMachines$Pair;", Cond.methodLink RX0 69 yX4_profileOf]
def wsX0_countWithLeft_r2 : List Cond := [Cond.instanceMethod yX4_profileOf, Cond.selects RX4 yX4_profileOf yX4_profileOf, Cond.initialized RX4, Cond.code yX4_profileOf cX4_profileOf 6 (some .int), Cond.fieldLink RX4 12 "TreeMachines$Pair" "first" "LTreeMachines$Machine;", Cond.fieldLink RX4 21 "TreeMachines$Machine" "reachable" "[I", Cond.fieldLink RX4 18 "TreeMachines$Pair" "second" "LTreeMachines$Machine;"]
def wsX0_countWithLeft : List Cond := .code yX0_countWithLeft cX0_countWithLeft 8 none :: ((wsX0_countWithLeft_r1 ++ wsX0_countWithLeft_r2) ++ wsX00 ++ wsX20 ++ wsX40 ++ wsX30)
def wsX0_count_r1 : List Cond := [Cond.fieldLink RX0 23 "TreeMachines$Counts" "leastTerms" "LTreeMachines$LeastTerms;", Cond.fieldLink RX0 9 "TreeMachines$Counts" "numbers" "[I", Cond.methodLink RX0 50 yX0_emptyRow, Cond.instanceMethod yX0_emptyRow, Cond.selects RX0 yX0_emptyRow yX0_emptyRow, Cond.initialized RX0, Cond.code yX0_emptyRow cX0_emptyRow 3 none, Cond.methodLink RX0 54 yX0_addTerms, Cond.instanceMethod yX0_addTerms, Cond.selects RX0 yX0_addTerms yX0_addTerms, Cond.code yX0_addTerms cX0_addTerms 8 none, Cond.fieldLink RX0 19 "TreeMachines$Counts" "machines" "LTreeMachines$Pair;", Cond.methodLink RX0 69 yX4_profileOf, Cond.instanceMethod yX4_profileOf, Cond.selects RX4 yX4_profileOf yX4_profileOf, Cond.initialized RX4, Cond.code yX4_profileOf cX4_profileOf 6 (some .int), Cond.fieldLink RX4 12 "TreeMachines$Pair" "first" "LTreeMachines$Machine;", Cond.fieldLink RX4 21 "TreeMachines$Machine" "reachable" "[I", Cond.fieldLink RX4 18 "TreeMachines$Pair" "second" "LTreeMachines$Machine;", Cond.methodLink RX0 40 yX2_foundAt, Cond.instanceMethod yX2_foundAt, Cond.selects RX2 yX2_foundAt yX2_foundAt, Cond.initialized RX2]
def wsX0_count_r2 : List Cond := [Cond.code yX2_foundAt cX2_foundAt 2 (some .int), Cond.fieldLink RX2 24 "TreeMachines$LeastTerms" "found" "[I", Cond.methodLink RX0 58 yX0_countWithLeft, Cond.instanceMethod yX0_countWithLeft, Cond.selects RX0 yX0_countWithLeft yX0_countWithLeft, Cond.code yX0_countWithLeft cX0_countWithLeft 8 none, Cond.methodLink RX0 62 yX2_sizeOf, Cond.instanceMethod yX2_sizeOf, Cond.selects RX2 yX2_sizeOf yX2_sizeOf, Cond.code yX2_sizeOf cX2_sizeOf 2 (some .int), Cond.fieldLink RX2 9 "TreeMachines$LeastTerms" "sizes" "[I", Cond.methodLink RX0 65 yX0_couples, Cond.instanceMethod yX0_couples, Cond.selects RX0 yX0_couples yX0_couples, Cond.code yX0_couples cX0_couples 7 (some .int)]
def wsX0_count : List Cond := .code yX0_count cX0_count 6 none :: ((wsX0_count_r1 ++ wsX0_count_r2) ++ wsX00 ++ wsX40 ++ wsX30 ++ wsX20)
def wsX5_firstSet : List Cond := .code yX5_firstSet cX5_firstSet 1 (some .int) :: ([])
def wsX3_accepts : List Cond := .code yX3_accepts cX3_accepts 2 (some .boolean) :: ([.fieldLink RX3 18 "TreeMachines$Machine" "goals" "I"] ++ wsX30)
def wsX5_secondSet : List Cond := .code yX5_secondSet cX5_secondSet 1 (some .int) :: ([])
def wsX4_placeOf : List Cond := .code yX4_placeOf cX4_placeOf 3 (some .int) :: ([.fieldLink RX4 12 "TreeMachines$Pair" "first" "LTreeMachines$Machine;", .fieldLink RX4 18 "TreeMachines$Pair" "second" "LTreeMachines$Machine;", .static yX5_firstSet, .initialized RX5, .code yX5_firstSet cX5_firstSet 1 (some .int), .methodLink RX4 29 yX3_accepts, .instanceMethod yX3_accepts, .selects RX3 yX3_accepts yX3_accepts, .initialized RX3, .code yX3_accepts cX3_accepts 2 (some .boolean), .fieldLink RX3 18 "TreeMachines$Machine" "goals" "I", .static yX5_secondSet, .code yX5_secondSet cX5_secondSet 1 (some .int)] ++ wsX40 ++ wsX30)
def wsX4_isOfSort : List Cond := .code yX4_isOfSort cX4_isOfSort 3 (some .boolean) :: ([.methodLink RX4 36 yX4_placeOf, .instanceMethod yX4_placeOf, .selects RX4 yX4_placeOf yX4_placeOf, .initialized RX4, .code yX4_placeOf cX4_placeOf 3 (some .int), .fieldLink RX4 12 "TreeMachines$Pair" "first" "LTreeMachines$Machine;", .fieldLink RX4 18 "TreeMachines$Pair" "second" "LTreeMachines$Machine;", .static yX5_firstSet, .initialized RX5, .code yX5_firstSet cX5_firstSet 1 (some .int), .methodLink RX4 29 yX3_accepts, .instanceMethod yX3_accepts, .selects RX3 yX3_accepts yX3_accepts, .initialized RX3, .code yX3_accepts cX3_accepts 2 (some .boolean), .fieldLink RX3 18 "TreeMachines$Machine" "goals" "I", .static yX5_secondSet, .code yX5_secondSet cX5_secondSet 1 (some .int)] ++ wsX40 ++ wsX30)
def wsX0_ofSort_r1 : List Cond := [Cond.fieldLink RX0 23 "TreeMachines$Counts" "leastTerms" "LTreeMachines$LeastTerms;", Cond.fieldLink RX0 15 "TreeMachines$Counts" "counted" "I", Cond.fieldLink RX0 19 "TreeMachines$Counts" "machines" "LTreeMachines$Pair;", Cond.fieldLink RX0 9 "TreeMachines$Counts" "numbers" "[I", Cond.methodLink RX0 27 yX2_learn, Cond.instanceMethod yX2_learn, Cond.selects RX2 yX2_learn yX2_learn, Cond.initialized RX2, Cond.code yX2_learn cX2_learn 3 none, Cond.fieldLink RX2 46 "TreeMachines$LeastTerms" "known" "Z", Cond.fieldLink RX2 9 "TreeMachines$LeastTerms" "sizes" "[I", Cond.fieldLink RX2 42 "TreeMachines$LeastTerms" "count" "I", Cond.fieldLink RX2 27 "TreeMachines$LeastTerms" "starts" "[I", Cond.methodLink RX2 70 yJ7_fill_53178, Cond.static yJ7_fill_53178, Cond.initialized RJ7, Cond.code yJ7_fill_53178 cJ7_fill_53178 4 none, Cond.methodLink RX2 76 yX2_canHaveSize, Cond.static yX2_canHaveSize, Cond.code yX2_canHaveSize cX2_canHaveSize 2 (some .boolean), Cond.methodLink RX2 79 yX2_findOfSize, Cond.instanceMethod yX2_findOfSize, Cond.selects RX2 yX2_findOfSize yX2_findOfSize, Cond.code yX2_findOfSize cX2_findOfSize 3 none]
def wsX0_ofSort_r2 : List Cond := [Cond.static yX5_hasRight, Cond.initialized RX5, Cond.code yX5_hasRight cX5_hasRight 1 (some .boolean), Cond.methodLink RX2 89 yX2_findWithTwo, Cond.instanceMethod yX2_findWithTwo, Cond.selects RX2 yX2_findWithTwo yX2_findWithTwo, Cond.code yX2_findWithTwo cX2_findWithTwo 9 none, Cond.fieldLink RX2 30 "TreeMachines$LeastTerms" "byWriting" "[I", Cond.fieldLink RX2 24 "TreeMachines$LeastTerms" "found" "[I", Cond.methodLink RX2 96 yX2_meet, Cond.instanceMethod yX2_meet, Cond.selects RX2 yX2_meet yX2_meet, Cond.code yX2_meet cX2_meet 6 none, Cond.fieldLink RX2 50 "TreeMachines$LeastTerms" "machines" "LTreeMachines$Pair;", Cond.fieldLink RX2 15 "TreeMachines$LeastTerms" "symbols" "[I", Cond.fieldLink RX2 18 "TreeMachines$LeastTerms" "lefts" "[I", Cond.fieldLink RX2 21 "TreeMachines$LeastTerms" "rights" "[I", Cond.methodLink RX2 100 yX4_profileOf, Cond.instanceMethod yX4_profileOf, Cond.selects RX4 yX4_profileOf yX4_profileOf, Cond.initialized RX4, Cond.code yX4_profileOf cX4_profileOf 6 (some .int), Cond.fieldLink RX4 12 "TreeMachines$Pair" "first" "LTreeMachines$Machine;", Cond.fieldLink RX4 21 "TreeMachines$Machine" "reachable" "[I"]
def wsX0_ofSort_r3 : List Cond := [Cond.fieldLink RX4 18 "TreeMachines$Pair" "second" "LTreeMachines$Machine;", Cond.static yX5_hasLeft, Cond.code yX5_hasLeft cX5_hasLeft 1 (some .boolean), Cond.methodLink RX2 93 yX2_findWithOne, Cond.instanceMethod yX2_findWithOne, Cond.selects RX2 yX2_findWithOne yX2_findWithOne, Cond.code yX2_findWithOne cX2_findWithOne 5 none, Cond.methodLink RX2 83 yX2_sortIn, Cond.instanceMethod yX2_sortIn, Cond.selects RX2 yX2_sortIn yX2_sortIn, Cond.code yX2_sortIn cX2_sortIn 5 none, Cond.fieldLink RX2 33 "TreeMachines$LeastTerms" "ranks" "[I", Cond.methodLink RX2 104 yX2_isWrittenBefore, Cond.instanceMethod yX2_isWrittenBefore, Cond.selects RX2 yX2_isWrittenBefore yX2_isWrittenBefore, Cond.code yX2_isWrittenBefore cX2_isWrittenBefore 3 (some .boolean), Cond.methodLink RX2 86 yX2_findLarger, Cond.instanceMethod yX2_findLarger, Cond.selects RX2 yX2_findLarger yX2_findLarger, Cond.code yX2_findLarger cX2_findLarger 4 none, Cond.methodLink RX0 32 yX2_foundCount, Cond.instanceMethod yX2_foundCount, Cond.selects RX2 yX2_foundCount yX2_foundCount, Cond.code yX2_foundCount cX2_foundCount 1 (some .int)]
def wsX0_ofSort_r4 : List Cond := [Cond.methodLink RX0 36 yX0_count, Cond.instanceMethod yX0_count, Cond.selects RX0 yX0_count yX0_count, Cond.initialized RX0, Cond.code yX0_count cX0_count 6 none, Cond.methodLink RX0 50 yX0_emptyRow, Cond.instanceMethod yX0_emptyRow, Cond.selects RX0 yX0_emptyRow yX0_emptyRow, Cond.code yX0_emptyRow cX0_emptyRow 3 none, Cond.methodLink RX0 54 yX0_addTerms, Cond.instanceMethod yX0_addTerms, Cond.selects RX0 yX0_addTerms yX0_addTerms, Cond.code yX0_addTerms cX0_addTerms 8 none, Cond.methodLink RX0 69 yX4_profileOf, Cond.methodLink RX0 40 yX2_foundAt, Cond.instanceMethod yX2_foundAt, Cond.selects RX2 yX2_foundAt yX2_foundAt, Cond.code yX2_foundAt cX2_foundAt 2 (some .int), Cond.methodLink RX0 58 yX0_countWithLeft, Cond.instanceMethod yX0_countWithLeft, Cond.selects RX0 yX0_countWithLeft yX0_countWithLeft, Cond.code yX0_countWithLeft cX0_countWithLeft 8 none, Cond.methodLink RX0 62 yX2_sizeOf, Cond.instanceMethod yX2_sizeOf]
def wsX0_ofSort_r5 : List Cond := [Cond.selects RX2 yX2_sizeOf yX2_sizeOf, Cond.code yX2_sizeOf cX2_sizeOf 2 (some .int), Cond.methodLink RX0 65 yX0_couples, Cond.instanceMethod yX0_couples, Cond.selects RX0 yX0_couples yX0_couples, Cond.code yX0_couples cX0_couples 7 (some .int), Cond.methodLink RX0 44 yX4_isOfSort, Cond.instanceMethod yX4_isOfSort, Cond.selects RX4 yX4_isOfSort yX4_isOfSort, Cond.code yX4_isOfSort cX4_isOfSort 3 (some .boolean), Cond.methodLink RX4 36 yX4_placeOf, Cond.instanceMethod yX4_placeOf, Cond.selects RX4 yX4_placeOf yX4_placeOf, Cond.code yX4_placeOf cX4_placeOf 3 (some .int), Cond.static yX5_firstSet, Cond.code yX5_firstSet cX5_firstSet 1 (some .int), Cond.methodLink RX4 29 yX3_accepts, Cond.instanceMethod yX3_accepts, Cond.selects RX3 yX3_accepts yX3_accepts, Cond.initialized RX3, Cond.code yX3_accepts cX3_accepts 2 (some .boolean), Cond.fieldLink RX3 18 "TreeMachines$Machine" "goals" "I", Cond.static yX5_secondSet, Cond.code yX5_secondSet cX5_secondSet 1 (some .int)]
def wsX0_ofSort : List Cond := .code yX0_ofSort cX0_ofSort 7 (some .int) :: ((wsX0_ofSort_r1 ++ (wsX0_ofSort_r2 ++ (wsX0_ofSort_r3 ++ (wsX0_ofSort_r4 ++ wsX0_ofSort_r5)))) ++ wsX00 ++ wsX20 ++ wsX40 ++ wsX30)
def wsX1_init : List Cond := .code yX1_init cX1_init 1 none :: ([.methodLink RX1 3 objectInit, .instanceMethod objectInit, .code objectInit ⟨#[0xb1]⟩ 1 none, .arrayClass .int, .fieldLink RX1 9 "TreeMachines$Forest" "symbols" "[I", .fieldLink RX1 15 "TreeMachines$Forest" "lefts" "[I", .fieldLink RX1 18 "TreeMachines$Forest" "rights" "[I", .fieldLink RX1 21 "TreeMachines$Forest" "sizes" "[I", .fieldLink RX1 24 "TreeMachines$Forest" "profiles" "[I", .fieldLink RX1 27 "TreeMachines$Forest" "unused" "[I", .fieldLink RX1 30 "TreeMachines$Forest" "made" "I"] ++ wsX10)
def wsX1_holds : List Cond := .code yX1_holds cX1_holds 2 (some .boolean) :: ([.fieldLink RX1 30 "TreeMachines$Forest" "made" "I"] ++ wsX10)
def wsX1_count : List Cond := .code yX1_count cX1_count 1 (some .int) :: ([.fieldLink RX1 30 "TreeMachines$Forest" "made" "I"] ++ wsX10)
def wsX1_room : List Cond := .code yX1_room cX1_room 1 (some .int) :: ([.fieldLink RX1 30 "TreeMachines$Forest" "made" "I"] ++ wsX10)
def wsX1_symbolOf : List Cond := .code yX1_symbolOf cX1_symbolOf 2 (some .int) :: ([.fieldLink RX1 9 "TreeMachines$Forest" "symbols" "[I"] ++ wsX10)
def wsX1_leftOf : List Cond := .code yX1_leftOf cX1_leftOf 2 (some .int) :: ([.fieldLink RX1 15 "TreeMachines$Forest" "lefts" "[I"] ++ wsX10)
def wsX1_rightOf : List Cond := .code yX1_rightOf cX1_rightOf 2 (some .int) :: ([.fieldLink RX1 18 "TreeMachines$Forest" "rights" "[I"] ++ wsX10)
def wsX1_sizeOf : List Cond := .code yX1_sizeOf cX1_sizeOf 2 (some .int) :: ([.fieldLink RX1 21 "TreeMachines$Forest" "sizes" "[I"] ++ wsX10)
def wsX1_sizeOrZero : List Cond := .code yX1_sizeOrZero cX1_sizeOrZero 2 (some .int) :: ([.fieldLink RX1 21 "TreeMachines$Forest" "sizes" "[I"] ++ wsX10)
def wsX1_add : List Cond := .code yX1_add cX1_add 5 (some .int) :: ([.fieldLink RX1 30 "TreeMachines$Forest" "made" "I", .fieldLink RX1 9 "TreeMachines$Forest" "symbols" "[I", .fieldLink RX1 15 "TreeMachines$Forest" "lefts" "[I", .fieldLink RX1 18 "TreeMachines$Forest" "rights" "[I", .fieldLink RX1 21 "TreeMachines$Forest" "sizes" "[I", .methodLink RX1 45 Lib.Math.min.name, .static Lib.Math.min.name, .initialized "java/lang/Math", .code Lib.Math.min.name Lib.Math.min.code 2 (some .int), .static yX5_hasLeft, .initialized RX5, .code yX5_hasLeft cX5_hasLeft 1 (some .boolean), .static yX5_hasRight, .code yX5_hasRight cX5_hasRight 1 (some .boolean), .methodLink RX1 41 yX1_sizeOrZero, .instanceMethod yX1_sizeOrZero, .selects RX1 yX1_sizeOrZero yX1_sizeOrZero, .initialized RX1, .code yX1_sizeOrZero cX1_sizeOrZero 2 (some .int)] ++ wsX10)
def wsX1_childProfile : List Cond := .code yX1_childProfile cX1_childProfile 2 (some .int) :: ([.fieldLink RX1 24 "TreeMachines$Forest" "profiles" "[I"] ++ wsX10)
def wsX1_profileOf : List Cond := .code yX1_profileOf cX1_profileOf 4 (some .int) :: ([.fieldLink RX1 24 "TreeMachines$Forest" "profiles" "[I", .fieldLink RX1 9 "TreeMachines$Forest" "symbols" "[I", .fieldLink RX1 15 "TreeMachines$Forest" "lefts" "[I", .fieldLink RX1 18 "TreeMachines$Forest" "rights" "[I", .methodLink RX1 51 yX1_childProfile, .instanceMethod yX1_childProfile, .selects RX1 yX1_childProfile yX1_childProfile, .initialized RX1, .code yX1_childProfile cX1_childProfile 2 (some .int), .methodLink RX1 54 yX4_profileOf, .instanceMethod yX4_profileOf, .selects RX4 yX4_profileOf yX4_profileOf, .initialized RX4, .code yX4_profileOf cX4_profileOf 6 (some .int), .fieldLink RX4 12 "TreeMachines$Pair" "first" "LTreeMachines$Machine;", .fieldLink RX4 21 "TreeMachines$Machine" "reachable" "[I", .fieldLink RX4 18 "TreeMachines$Pair" "second" "LTreeMachines$Machine;"] ++ wsX10 ++ wsX40 ++ wsX30)
def wsX1_plant : List Cond := .code yX1_plant cX1_plant 8 (some .int) :: ([.fieldLink RX1 27 "TreeMachines$Forest" "unused" "[I", .static yX5_hasLeft, .initialized RX5, .code yX5_hasLeft cX5_hasLeft 1 (some .boolean), .static yX5_hasRight, .code yX5_hasRight cX5_hasRight 1 (some .boolean), .methodLink RX1 60 yX1_add, .instanceMethod yX1_add, .selects RX1 yX1_add yX1_add, .initialized RX1, .code yX1_add cX1_add 5 (some .int), .fieldLink RX1 30 "TreeMachines$Forest" "made" "I", .fieldLink RX1 9 "TreeMachines$Forest" "symbols" "[I", .fieldLink RX1 15 "TreeMachines$Forest" "lefts" "[I", .fieldLink RX1 18 "TreeMachines$Forest" "rights" "[I", .fieldLink RX1 21 "TreeMachines$Forest" "sizes" "[I", .methodLink RX1 45 Lib.Math.min.name, .static Lib.Math.min.name, .initialized "java/lang/Math", .code Lib.Math.min.name Lib.Math.min.code 2 (some .int), .methodLink RX1 41 yX1_sizeOrZero, .instanceMethod yX1_sizeOrZero, .selects RX1 yX1_sizeOrZero yX1_sizeOrZero, .code yX1_sizeOrZero cX1_sizeOrZero 2 (some .int)] ++ wsX10)
def wsX2_init : List Cond := .code yX2_init cX2_init 2 none :: ([.methodLink RX2 3 objectInit, .instanceMethod objectInit, .code objectInit ⟨#[0xb1]⟩ 1 none, .arrayClass .int, .fieldLink RX2 9 "TreeMachines$LeastTerms" "sizes" "[I", .fieldLink RX2 15 "TreeMachines$LeastTerms" "symbols" "[I", .fieldLink RX2 18 "TreeMachines$LeastTerms" "lefts" "[I", .fieldLink RX2 21 "TreeMachines$LeastTerms" "rights" "[I", .fieldLink RX2 24 "TreeMachines$LeastTerms" "found" "[I", .fieldLink RX2 27 "TreeMachines$LeastTerms" "starts" "[I", .fieldLink RX2 30 "TreeMachines$LeastTerms" "byWriting" "[I", .fieldLink RX2 33 "TreeMachines$LeastTerms" "ranks" "[I", .fieldLink RX2 36 "TreeMachines$LeastTerms" "writing" "[I", .fieldLink RX2 39 "TreeMachines$LeastTerms" "pending" "[I", .fieldLink RX2 42 "TreeMachines$LeastTerms" "count" "I", .fieldLink RX2 46 "TreeMachines$LeastTerms" "known" "Z", .fieldLink RX2 50 "TreeMachines$LeastTerms" "machines" "LTreeMachines$Pair;"] ++ wsX20)
def wsX2_forget : List Cond := .code yX2_forget cX2_forget 1 none :: ([.fieldLink RX2 46 "TreeMachines$LeastTerms" "known" "Z"] ++ wsX20)
def wsX2_firstOf_r1 : List Cond := [Cond.fieldLink RX2 42 "TreeMachines$LeastTerms" "count" "I", Cond.fieldLink RX2 50 "TreeMachines$LeastTerms" "machines" "LTreeMachines$Pair;", Cond.fieldLink RX2 24 "TreeMachines$LeastTerms" "found" "[I", Cond.methodLink RX2 54 yX2_learn, Cond.instanceMethod yX2_learn, Cond.selects RX2 yX2_learn yX2_learn, Cond.initialized RX2, Cond.code yX2_learn cX2_learn 3 none, Cond.fieldLink RX2 46 "TreeMachines$LeastTerms" "known" "Z", Cond.fieldLink RX2 9 "TreeMachines$LeastTerms" "sizes" "[I", Cond.fieldLink RX2 27 "TreeMachines$LeastTerms" "starts" "[I", Cond.methodLink RX2 70 yJ7_fill_53178, Cond.static yJ7_fill_53178, Cond.initialized RJ7, Cond.code yJ7_fill_53178 cJ7_fill_53178 4 none, Cond.methodLink RX2 76 yX2_canHaveSize, Cond.static yX2_canHaveSize, Cond.code yX2_canHaveSize cX2_canHaveSize 2 (some .boolean), Cond.methodLink RX2 79 yX2_findOfSize, Cond.instanceMethod yX2_findOfSize, Cond.selects RX2 yX2_findOfSize yX2_findOfSize, Cond.code yX2_findOfSize cX2_findOfSize 3 none, Cond.static yX5_hasRight, Cond.initialized RX5]
def wsX2_firstOf_r2 : List Cond := [Cond.code yX5_hasRight cX5_hasRight 1 (some .boolean), Cond.methodLink RX2 89 yX2_findWithTwo, Cond.instanceMethod yX2_findWithTwo, Cond.selects RX2 yX2_findWithTwo yX2_findWithTwo, Cond.code yX2_findWithTwo cX2_findWithTwo 9 none, Cond.fieldLink RX2 30 "TreeMachines$LeastTerms" "byWriting" "[I", Cond.methodLink RX2 96 yX2_meet, Cond.instanceMethod yX2_meet, Cond.selects RX2 yX2_meet yX2_meet, Cond.code yX2_meet cX2_meet 6 none, Cond.fieldLink RX2 15 "TreeMachines$LeastTerms" "symbols" "[I", Cond.fieldLink RX2 18 "TreeMachines$LeastTerms" "lefts" "[I", Cond.fieldLink RX2 21 "TreeMachines$LeastTerms" "rights" "[I", Cond.methodLink RX2 100 yX4_profileOf, Cond.instanceMethod yX4_profileOf, Cond.selects RX4 yX4_profileOf yX4_profileOf, Cond.initialized RX4, Cond.code yX4_profileOf cX4_profileOf 6 (some .int), Cond.fieldLink RX4 12 "TreeMachines$Pair" "first" "LTreeMachines$Machine;", Cond.fieldLink RX4 21 "TreeMachines$Machine" "reachable" "[I", Cond.fieldLink RX4 18 "TreeMachines$Pair" "second" "LTreeMachines$Machine;", Cond.static yX5_hasLeft, Cond.code yX5_hasLeft cX5_hasLeft 1 (some .boolean), Cond.methodLink RX2 93 yX2_findWithOne]
def wsX2_firstOf_r3 : List Cond := [Cond.instanceMethod yX2_findWithOne, Cond.selects RX2 yX2_findWithOne yX2_findWithOne, Cond.code yX2_findWithOne cX2_findWithOne 5 none, Cond.methodLink RX2 83 yX2_sortIn, Cond.instanceMethod yX2_sortIn, Cond.selects RX2 yX2_sortIn yX2_sortIn, Cond.code yX2_sortIn cX2_sortIn 5 none, Cond.fieldLink RX2 33 "TreeMachines$LeastTerms" "ranks" "[I", Cond.methodLink RX2 104 yX2_isWrittenBefore, Cond.instanceMethod yX2_isWrittenBefore, Cond.selects RX2 yX2_isWrittenBefore yX2_isWrittenBefore, Cond.code yX2_isWrittenBefore cX2_isWrittenBefore 3 (some .boolean), Cond.methodLink RX2 86 yX2_findLarger, Cond.instanceMethod yX2_findLarger, Cond.selects RX2 yX2_findLarger yX2_findLarger, Cond.code yX2_findLarger cX2_findLarger 4 none, Cond.methodLink RX2 57 yX4_isOfSort, Cond.instanceMethod yX4_isOfSort, Cond.selects RX4 yX4_isOfSort yX4_isOfSort, Cond.code yX4_isOfSort cX4_isOfSort 3 (some .boolean), Cond.methodLink RX4 36 yX4_placeOf, Cond.instanceMethod yX4_placeOf, Cond.selects RX4 yX4_placeOf yX4_placeOf, Cond.code yX4_placeOf cX4_placeOf 3 (some .int)]
def wsX2_firstOf_r4 : List Cond := [Cond.static yX5_firstSet, Cond.code yX5_firstSet cX5_firstSet 1 (some .int), Cond.methodLink RX4 29 yX3_accepts, Cond.instanceMethod yX3_accepts, Cond.selects RX3 yX3_accepts yX3_accepts, Cond.initialized RX3, Cond.code yX3_accepts cX3_accepts 2 (some .boolean), Cond.fieldLink RX3 18 "TreeMachines$Machine" "goals" "I", Cond.static yX5_secondSet, Cond.code yX5_secondSet cX5_secondSet 1 (some .int)]
def wsX2_firstOf : List Cond := .code yX2_firstOf cX2_firstOf 3 (some .int) :: ((wsX2_firstOf_r1 ++ (wsX2_firstOf_r2 ++ (wsX2_firstOf_r3 ++ wsX2_firstOf_r4))) ++ wsX20 ++ wsX40 ++ wsX30)
def wsX2_writingOf : List Cond := .code yX2_writingOf cX2_writingOf 5 (some (.array .int)) :: ([.fieldLink RX2 39 "TreeMachines$LeastTerms" "pending" "[I", .fieldLink RX2 36 "TreeMachines$LeastTerms" "writing" "[I", .fieldLink RX2 15 "TreeMachines$LeastTerms" "symbols" "[I", .fieldLink RX2 21 "TreeMachines$LeastTerms" "rights" "[I", .fieldLink RX2 18 "TreeMachines$LeastTerms" "lefts" "[I", .static yX5_hasRight, .initialized RX5, .code yX5_hasRight cX5_hasRight 1 (some .boolean), .static yX5_hasLeft, .code yX5_hasLeft cX5_hasLeft 1 (some .boolean)] ++ wsX20)
def wsX3_init : List Cond := .code yX3_init cX3_init 1 none :: ([.methodLink RX3 3 objectInit, .instanceMethod objectInit, .code objectInit ⟨#[0xb1]⟩ 1 none, .arrayClass .int, .fieldLink RX3 9 "TreeMachines$Machine" "targets" "[I", .fieldLink RX3 15 "TreeMachines$Machine" "reachable" "[I", .fieldLink RX3 18 "TreeMachines$Machine" "goals" "I"] ++ wsX30)
def wsX3_leads : List Cond := .code yX3_leads cX3_leads 3 (some .boolean) :: ([.fieldLink RX3 9 "TreeMachines$Machine" "targets" "[I"] ++ wsX30)
def wsX3_cell : List Cond := .code yX3_cell cX3_cell 3 (some .int) :: ([])
def wsX3_rebuild : List Cond := .code yX3_rebuild cX3_rebuild 7 none :: ([.fieldLink RX3 15 "TreeMachines$Machine" "reachable" "[I", .fieldLink RX3 9 "TreeMachines$Machine" "targets" "[I", .static yX5_hasLeft, .initialized RX5, .code yX5_hasLeft cX5_hasLeft 1 (some .boolean), .static yX5_hasRight, .code yX5_hasRight cX5_hasRight 1 (some .boolean), .methodLink RX3 42 yX3_cell, .static yX3_cell, .initialized RX3, .code yX3_cell cX3_cell 3 (some .int)] ++ wsX30)
def wsX3_turnRule : List Cond := .code yX3_turnRule cX3_turnRule 3 none :: ([.fieldLink RX3 9 "TreeMachines$Machine" "targets" "[I", .methodLink RX3 22 yX3_rebuild, .instanceMethod yX3_rebuild, .selects RX3 yX3_rebuild yX3_rebuild, .initialized RX3, .code yX3_rebuild cX3_rebuild 7 none, .fieldLink RX3 15 "TreeMachines$Machine" "reachable" "[I", .static yX5_hasLeft, .initialized RX5, .code yX5_hasLeft cX5_hasLeft 1 (some .boolean), .static yX5_hasRight, .code yX5_hasRight cX5_hasRight 1 (some .boolean), .methodLink RX3 42 yX3_cell, .static yX3_cell, .code yX3_cell cX3_cell 3 (some .int)] ++ wsX30)
def wsX3_isGoal : List Cond := .code yX3_isGoal cX3_isGoal 2 (some .boolean) :: ([.fieldLink RX3 18 "TreeMachines$Machine" "goals" "I"] ++ wsX30)
def wsX3_turnGoal : List Cond := .code yX3_turnGoal cX3_turnGoal 2 none :: ([.fieldLink RX3 18 "TreeMachines$Machine" "goals" "I"] ++ wsX30)
def wsX3_empty : List Cond := .code yX3_empty cX3_empty 1 none :: ([.fieldLink RX3 9 "TreeMachines$Machine" "targets" "[I", .fieldLink RX3 15 "TreeMachines$Machine" "reachable" "[I", .fieldLink RX3 18 "TreeMachines$Machine" "goals" "I", .methodLink RX3 26 yJ7_fill_53178, .static yJ7_fill_53178, .initialized RJ7, .code yJ7_fill_53178 cJ7_fill_53178 4 none] ++ wsX30)
def wsX4_init : List Cond := .code yX4_init cX4_init 1 none :: ([.methodLink RX4 3 objectInit, .instanceMethod objectInit, .code objectInit ⟨#[0xb1]⟩ 1 none, .classLink RX4 9 RX3, .instantiable RX3 3, .initialized RX3, .fieldLink RX4 12 "TreeMachines$Pair" "first" "LTreeMachines$Machine;", .fieldLink RX4 18 "TreeMachines$Pair" "second" "LTreeMachines$Machine;", .instanceMethod yX3_init, .code yX3_init cX3_init 1 none, .methodLink RX3 3 objectInit, .arrayClass .int, .fieldLink RX3 9 "TreeMachines$Machine" "targets" "[I", .fieldLink RX3 15 "TreeMachines$Machine" "reachable" "[I", .fieldLink RX3 18 "TreeMachines$Machine" "goals" "I"] ++ wsX30 ++ wsX40)
def wsX4_numbered : List Cond := .code yX4_numbered cX4_numbered 2 (some (.object "TreeMachines$Machine")) :: ([.fieldLink RX4 12 "TreeMachines$Pair" "first" "LTreeMachines$Machine;", .fieldLink RX4 18 "TreeMachines$Pair" "second" "LTreeMachines$Machine;"] ++ wsX40)
def wsX5_init_r1 : List Cond := [Cond.methodLink RX5 3 objectInit, Cond.instanceMethod objectInit, Cond.code objectInit ⟨#[0xb1]⟩ 1 none, Cond.classLink RX5 9 RX4, Cond.instantiable RX4 2, Cond.initialized RX4, Cond.fieldLink RX5 12 "TreeMachines" "machines" "LTreeMachines$Pair;", Cond.classLink RX5 16 RX1, Cond.instantiable RX1 7, Cond.initialized RX1, Cond.fieldLink RX5 19 "TreeMachines" "forest" "LTreeMachines$Forest;", Cond.classLink RX5 23 RX2, Cond.instantiable RX2 13, Cond.initialized RX2, Cond.fieldLink RX5 28 "TreeMachines" "leastTerms" "LTreeMachines$LeastTerms;", Cond.classLink RX5 32 RX0, Cond.instantiable RX0 4, Cond.initialized RX0, Cond.fieldLink RX5 37 "TreeMachines" "counts" "LTreeMachines$Counts;", Cond.instanceMethod yX4_init, Cond.code yX4_init cX4_init 1 none, Cond.methodLink RX4 3 objectInit, Cond.classLink RX4 9 RX3, Cond.instantiable RX3 3]
def wsX5_init_r2 : List Cond := [Cond.initialized RX3, Cond.fieldLink RX4 12 "TreeMachines$Pair" "first" "LTreeMachines$Machine;", Cond.fieldLink RX4 18 "TreeMachines$Pair" "second" "LTreeMachines$Machine;", Cond.instanceMethod yX3_init, Cond.code yX3_init cX3_init 1 none, Cond.methodLink RX3 3 objectInit, Cond.arrayClass .int, Cond.fieldLink RX3 9 "TreeMachines$Machine" "targets" "[I", Cond.fieldLink RX3 15 "TreeMachines$Machine" "reachable" "[I", Cond.fieldLink RX3 18 "TreeMachines$Machine" "goals" "I", Cond.instanceMethod yX1_init, Cond.code yX1_init cX1_init 1 none, Cond.methodLink RX1 3 objectInit, Cond.fieldLink RX1 9 "TreeMachines$Forest" "symbols" "[I", Cond.fieldLink RX1 15 "TreeMachines$Forest" "lefts" "[I", Cond.fieldLink RX1 18 "TreeMachines$Forest" "rights" "[I", Cond.fieldLink RX1 21 "TreeMachines$Forest" "sizes" "[I", Cond.fieldLink RX1 24 "TreeMachines$Forest" "profiles" "[I", Cond.fieldLink RX1 27 "TreeMachines$Forest" "unused" "[I", Cond.fieldLink RX1 30 "TreeMachines$Forest" "made" "I", Cond.methodLink RX5 25 yX2_init, Cond.instanceMethod yX2_init, Cond.code yX2_init cX2_init 2 none, Cond.methodLink RX2 3 objectInit]
def wsX5_init_r3 : List Cond := [Cond.fieldLink RX2 9 "TreeMachines$LeastTerms" "sizes" "[I", Cond.fieldLink RX2 15 "TreeMachines$LeastTerms" "symbols" "[I", Cond.fieldLink RX2 18 "TreeMachines$LeastTerms" "lefts" "[I", Cond.fieldLink RX2 21 "TreeMachines$LeastTerms" "rights" "[I", Cond.fieldLink RX2 24 "TreeMachines$LeastTerms" "found" "[I", Cond.fieldLink RX2 27 "TreeMachines$LeastTerms" "starts" "[I", Cond.fieldLink RX2 30 "TreeMachines$LeastTerms" "byWriting" "[I", Cond.fieldLink RX2 33 "TreeMachines$LeastTerms" "ranks" "[I", Cond.fieldLink RX2 36 "TreeMachines$LeastTerms" "writing" "[I", Cond.fieldLink RX2 39 "TreeMachines$LeastTerms" "pending" "[I", Cond.fieldLink RX2 42 "TreeMachines$LeastTerms" "count" "I", Cond.fieldLink RX2 46 "TreeMachines$LeastTerms" "known" "Z", Cond.fieldLink RX2 50 "TreeMachines$LeastTerms" "machines" "LTreeMachines$Pair;", Cond.methodLink RX5 34 yX0_init, Cond.instanceMethod yX0_init, Cond.code yX0_init cX0_init 3 none, Cond.methodLink RX0 3 objectInit, Cond.fieldLink RX0 9 "TreeMachines$Counts" "numbers" "[I", Cond.fieldLink RX0 15 "TreeMachines$Counts" "counted" "I", Cond.fieldLink RX0 19 "TreeMachines$Counts" "machines" "LTreeMachines$Pair;", Cond.fieldLink RX0 23 "TreeMachines$Counts" "leastTerms" "LTreeMachines$LeastTerms;"]
def wsX5_init : List Cond := .code yX5_init cX5_init 1 none :: ((wsX5_init_r1 ++ (wsX5_init_r2 ++ wsX5_init_r3)) ++ wsX40 ++ wsX50 ++ wsX10 ++ wsX20 ++ wsX00 ++ wsX30)
def wsX5_isSymbol : List Cond := .code yX5_isSymbol cX5_isSymbol 1 (some .boolean) :: ([])
def wsX5_isState : List Cond := .code yX5_isState cX5_isState 1 (some .boolean) :: ([])
def wsX5_rowOf : List Cond := .code yX5_rowOf cX5_rowOf 5 (some .int) :: ([.methodLink RX5 76 yX5_isSymbol, .static yX5_isSymbol, .initialized RX5, .code yX5_isSymbol cX5_isSymbol 1 (some .boolean), .methodLink RX5 79 yX5_hasLeft, .static yX5_hasLeft, .code yX5_hasLeft cX5_hasLeft 1 (some .boolean), .methodLink RX5 85 yX5_hasRight, .static yX5_hasRight, .code yX5_hasRight cX5_hasRight 1 (some .boolean), .methodLink RX5 53 yX5_isState, .static yX5_isState, .code yX5_isState cX5_isState 1 (some .boolean)])
def wsX5_forgetProfiles : List Cond := .code yX5_forgetProfiles cX5_forgetProfiles 1 none :: ([.fieldLink RX5 28 "TreeMachines" "leastTerms" "LTreeMachines$LeastTerms;", .fieldLink RX5 37 "TreeMachines" "counts" "LTreeMachines$Counts;", .methodLink RX5 147 yX2_forget, .instanceMethod yX2_forget, .selects RX2 yX2_forget yX2_forget, .initialized RX2, .code yX2_forget cX2_forget 1 none, .fieldLink RX2 46 "TreeMachines$LeastTerms" "known" "Z", .methodLink RX5 150 yX0_forget, .instanceMethod yX0_forget, .selects RX0 yX0_forget yX0_forget, .initialized RX0, .code yX0_forget cX0_forget 1 none, .fieldLink RX0 15 "TreeMachines$Counts" "counted" "I"] ++ wsX50 ++ wsX20 ++ wsX00)
def wsX5_changeRule_r1 : List Cond := [Cond.fieldLink RX5 12 "TreeMachines" "machines" "LTreeMachines$Pair;", Cond.methodLink RX5 49 yX4_numbered, Cond.instanceMethod yX4_numbered, Cond.selects RX4 yX4_numbered yX4_numbered, Cond.initialized RX4, Cond.code yX4_numbered cX4_numbered 2 (some (.object "TreeMachines$Machine")), Cond.fieldLink RX4 12 "TreeMachines$Pair" "first" "LTreeMachines$Machine;", Cond.fieldLink RX4 18 "TreeMachines$Pair" "second" "LTreeMachines$Machine;", Cond.methodLink RX5 53 yX5_isState, Cond.static yX5_isState, Cond.initialized RX5, Cond.code yX5_isState cX5_isState 1 (some .boolean), Cond.methodLink RX5 57 yX3_leads, Cond.instanceMethod yX3_leads, Cond.selects RX3 yX3_leads yX3_leads, Cond.initialized RX3, Cond.code yX3_leads cX3_leads 3 (some .boolean), Cond.fieldLink RX3 9 "TreeMachines$Machine" "targets" "[I", Cond.methodLink RX5 143 yX3_turnRule, Cond.instanceMethod yX3_turnRule, Cond.selects RX3 yX3_turnRule yX3_turnRule, Cond.code yX3_turnRule cX3_turnRule 3 none, Cond.methodLink RX3 22 yX3_rebuild, Cond.instanceMethod yX3_rebuild]
def wsX5_changeRule_r2 : List Cond := [Cond.selects RX3 yX3_rebuild yX3_rebuild, Cond.code yX3_rebuild cX3_rebuild 7 none, Cond.fieldLink RX3 15 "TreeMachines$Machine" "reachable" "[I", Cond.static yX5_hasLeft, Cond.code yX5_hasLeft cX5_hasLeft 1 (some .boolean), Cond.static yX5_hasRight, Cond.code yX5_hasRight cX5_hasRight 1 (some .boolean), Cond.methodLink RX3 42 yX3_cell, Cond.static yX3_cell, Cond.code yX3_cell cX3_cell 3 (some .int), Cond.methodLink RX5 73 yX5_forgetProfiles, Cond.instanceMethod yX5_forgetProfiles, Cond.selects RX5 yX5_forgetProfiles yX5_forgetProfiles, Cond.code yX5_forgetProfiles cX5_forgetProfiles 1 none, Cond.fieldLink RX5 28 "TreeMachines" "leastTerms" "LTreeMachines$LeastTerms;", Cond.fieldLink RX5 37 "TreeMachines" "counts" "LTreeMachines$Counts;", Cond.methodLink RX5 147 yX2_forget, Cond.instanceMethod yX2_forget, Cond.selects RX2 yX2_forget yX2_forget, Cond.initialized RX2, Cond.code yX2_forget cX2_forget 1 none, Cond.fieldLink RX2 46 "TreeMachines$LeastTerms" "known" "Z", Cond.methodLink RX5 150 yX0_forget, Cond.instanceMethod yX0_forget]
def wsX5_changeRule_r3 : List Cond := [Cond.selects RX0 yX0_forget yX0_forget, Cond.initialized RX0, Cond.code yX0_forget cX0_forget 1 none, Cond.fieldLink RX0 15 "TreeMachines$Counts" "counted" "I"]
def wsX5_changeRule : List Cond := .code yX5_changeRule cX5_changeRule 6 (some .boolean) :: ((wsX5_changeRule_r1 ++ (wsX5_changeRule_r2 ++ wsX5_changeRule_r3)) ++ wsX50 ++ wsX40 ++ wsX30 ++ wsX20 ++ wsX00)
def wsX5_rule_r1 : List Cond := [Cond.methodLink RX5 41 yX5_rowOf, Cond.static yX5_rowOf, Cond.initialized RX5, Cond.code yX5_rowOf cX5_rowOf 5 (some .int), Cond.methodLink RX5 76 yX5_isSymbol, Cond.static yX5_isSymbol, Cond.code yX5_isSymbol cX5_isSymbol 1 (some .boolean), Cond.methodLink RX5 79 yX5_hasLeft, Cond.static yX5_hasLeft, Cond.code yX5_hasLeft cX5_hasLeft 1 (some .boolean), Cond.methodLink RX5 85 yX5_hasRight, Cond.static yX5_hasRight, Cond.code yX5_hasRight cX5_hasRight 1 (some .boolean), Cond.methodLink RX5 53 yX5_isState, Cond.static yX5_isState, Cond.code yX5_isState cX5_isState 1 (some .boolean), Cond.methodLink RX5 45 yX5_changeRule, Cond.instanceMethod yX5_changeRule, Cond.selects RX5 yX5_changeRule yX5_changeRule, Cond.code yX5_changeRule cX5_changeRule 6 (some .boolean), Cond.fieldLink RX5 12 "TreeMachines" "machines" "LTreeMachines$Pair;", Cond.methodLink RX5 49 yX4_numbered, Cond.instanceMethod yX4_numbered, Cond.selects RX4 yX4_numbered yX4_numbered]
def wsX5_rule_r2 : List Cond := [Cond.initialized RX4, Cond.code yX4_numbered cX4_numbered 2 (some (.object "TreeMachines$Machine")), Cond.fieldLink RX4 12 "TreeMachines$Pair" "first" "LTreeMachines$Machine;", Cond.fieldLink RX4 18 "TreeMachines$Pair" "second" "LTreeMachines$Machine;", Cond.methodLink RX5 57 yX3_leads, Cond.instanceMethod yX3_leads, Cond.selects RX3 yX3_leads yX3_leads, Cond.initialized RX3, Cond.code yX3_leads cX3_leads 3 (some .boolean), Cond.fieldLink RX3 9 "TreeMachines$Machine" "targets" "[I", Cond.methodLink RX5 143 yX3_turnRule, Cond.instanceMethod yX3_turnRule, Cond.selects RX3 yX3_turnRule yX3_turnRule, Cond.code yX3_turnRule cX3_turnRule 3 none, Cond.methodLink RX3 22 yX3_rebuild, Cond.instanceMethod yX3_rebuild, Cond.selects RX3 yX3_rebuild yX3_rebuild, Cond.code yX3_rebuild cX3_rebuild 7 none, Cond.fieldLink RX3 15 "TreeMachines$Machine" "reachable" "[I", Cond.methodLink RX3 42 yX3_cell, Cond.static yX3_cell, Cond.code yX3_cell cX3_cell 3 (some .int), Cond.methodLink RX5 73 yX5_forgetProfiles, Cond.instanceMethod yX5_forgetProfiles]
def wsX5_rule_r3 : List Cond := [Cond.selects RX5 yX5_forgetProfiles yX5_forgetProfiles, Cond.code yX5_forgetProfiles cX5_forgetProfiles 1 none, Cond.fieldLink RX5 28 "TreeMachines" "leastTerms" "LTreeMachines$LeastTerms;", Cond.fieldLink RX5 37 "TreeMachines" "counts" "LTreeMachines$Counts;", Cond.methodLink RX5 147 yX2_forget, Cond.instanceMethod yX2_forget, Cond.selects RX2 yX2_forget yX2_forget, Cond.initialized RX2, Cond.code yX2_forget cX2_forget 1 none, Cond.fieldLink RX2 46 "TreeMachines$LeastTerms" "known" "Z", Cond.methodLink RX5 150 yX0_forget, Cond.instanceMethod yX0_forget, Cond.selects RX0 yX0_forget yX0_forget, Cond.initialized RX0, Cond.code yX0_forget cX0_forget 1 none, Cond.fieldLink RX0 15 "TreeMachines$Counts" "counted" "I"]
def wsX5_rule : List Cond := .code yX5_rule cX5_rule 6 (some .boolean) :: ((wsX5_rule_r1 ++ (wsX5_rule_r2 ++ wsX5_rule_r3)) ++ wsX50 ++ wsX40 ++ wsX30 ++ wsX20 ++ wsX00)
def wsX5_drop_r1 : List Cond := [Cond.methodLink RX5 41 yX5_rowOf, Cond.static yX5_rowOf, Cond.initialized RX5, Cond.code yX5_rowOf cX5_rowOf 5 (some .int), Cond.methodLink RX5 76 yX5_isSymbol, Cond.static yX5_isSymbol, Cond.code yX5_isSymbol cX5_isSymbol 1 (some .boolean), Cond.methodLink RX5 79 yX5_hasLeft, Cond.static yX5_hasLeft, Cond.code yX5_hasLeft cX5_hasLeft 1 (some .boolean), Cond.methodLink RX5 85 yX5_hasRight, Cond.static yX5_hasRight, Cond.code yX5_hasRight cX5_hasRight 1 (some .boolean), Cond.methodLink RX5 53 yX5_isState, Cond.static yX5_isState, Cond.code yX5_isState cX5_isState 1 (some .boolean), Cond.methodLink RX5 45 yX5_changeRule, Cond.instanceMethod yX5_changeRule, Cond.selects RX5 yX5_changeRule yX5_changeRule, Cond.code yX5_changeRule cX5_changeRule 6 (some .boolean), Cond.fieldLink RX5 12 "TreeMachines" "machines" "LTreeMachines$Pair;", Cond.methodLink RX5 49 yX4_numbered, Cond.instanceMethod yX4_numbered, Cond.selects RX4 yX4_numbered yX4_numbered]
def wsX5_drop_r2 : List Cond := [Cond.initialized RX4, Cond.code yX4_numbered cX4_numbered 2 (some (.object "TreeMachines$Machine")), Cond.fieldLink RX4 12 "TreeMachines$Pair" "first" "LTreeMachines$Machine;", Cond.fieldLink RX4 18 "TreeMachines$Pair" "second" "LTreeMachines$Machine;", Cond.methodLink RX5 57 yX3_leads, Cond.instanceMethod yX3_leads, Cond.selects RX3 yX3_leads yX3_leads, Cond.initialized RX3, Cond.code yX3_leads cX3_leads 3 (some .boolean), Cond.fieldLink RX3 9 "TreeMachines$Machine" "targets" "[I", Cond.methodLink RX5 143 yX3_turnRule, Cond.instanceMethod yX3_turnRule, Cond.selects RX3 yX3_turnRule yX3_turnRule, Cond.code yX3_turnRule cX3_turnRule 3 none, Cond.methodLink RX3 22 yX3_rebuild, Cond.instanceMethod yX3_rebuild, Cond.selects RX3 yX3_rebuild yX3_rebuild, Cond.code yX3_rebuild cX3_rebuild 7 none, Cond.fieldLink RX3 15 "TreeMachines$Machine" "reachable" "[I", Cond.methodLink RX3 42 yX3_cell, Cond.static yX3_cell, Cond.code yX3_cell cX3_cell 3 (some .int), Cond.methodLink RX5 73 yX5_forgetProfiles, Cond.instanceMethod yX5_forgetProfiles]
def wsX5_drop_r3 : List Cond := [Cond.selects RX5 yX5_forgetProfiles yX5_forgetProfiles, Cond.code yX5_forgetProfiles cX5_forgetProfiles 1 none, Cond.fieldLink RX5 28 "TreeMachines" "leastTerms" "LTreeMachines$LeastTerms;", Cond.fieldLink RX5 37 "TreeMachines" "counts" "LTreeMachines$Counts;", Cond.methodLink RX5 147 yX2_forget, Cond.instanceMethod yX2_forget, Cond.selects RX2 yX2_forget yX2_forget, Cond.initialized RX2, Cond.code yX2_forget cX2_forget 1 none, Cond.fieldLink RX2 46 "TreeMachines$LeastTerms" "known" "Z", Cond.methodLink RX5 150 yX0_forget, Cond.instanceMethod yX0_forget, Cond.selects RX0 yX0_forget yX0_forget, Cond.initialized RX0, Cond.code yX0_forget cX0_forget 1 none, Cond.fieldLink RX0 15 "TreeMachines$Counts" "counted" "I"]
def wsX5_drop : List Cond := .code yX5_drop cX5_drop 6 (some .boolean) :: ((wsX5_drop_r1 ++ (wsX5_drop_r2 ++ wsX5_drop_r3)) ++ wsX50 ++ wsX40 ++ wsX30 ++ wsX20 ++ wsX00)
def wsX5_isRule_r1 : List Cond := [Cond.fieldLink RX5 12 "TreeMachines" "machines" "LTreeMachines$Pair;", Cond.methodLink RX5 49 yX4_numbered, Cond.instanceMethod yX4_numbered, Cond.selects RX4 yX4_numbered yX4_numbered, Cond.initialized RX4, Cond.code yX4_numbered cX4_numbered 2 (some (.object "TreeMachines$Machine")), Cond.fieldLink RX4 12 "TreeMachines$Pair" "first" "LTreeMachines$Machine;", Cond.fieldLink RX4 18 "TreeMachines$Pair" "second" "LTreeMachines$Machine;", Cond.methodLink RX5 41 yX5_rowOf, Cond.static yX5_rowOf, Cond.initialized RX5, Cond.code yX5_rowOf cX5_rowOf 5 (some .int), Cond.methodLink RX5 76 yX5_isSymbol, Cond.static yX5_isSymbol, Cond.code yX5_isSymbol cX5_isSymbol 1 (some .boolean), Cond.methodLink RX5 79 yX5_hasLeft, Cond.static yX5_hasLeft, Cond.code yX5_hasLeft cX5_hasLeft 1 (some .boolean), Cond.methodLink RX5 85 yX5_hasRight, Cond.static yX5_hasRight, Cond.code yX5_hasRight cX5_hasRight 1 (some .boolean), Cond.methodLink RX5 53 yX5_isState, Cond.static yX5_isState, Cond.code yX5_isState cX5_isState 1 (some .boolean)]
def wsX5_isRule_r2 : List Cond := [Cond.methodLink RX5 57 yX3_leads, Cond.instanceMethod yX3_leads, Cond.selects RX3 yX3_leads yX3_leads, Cond.initialized RX3, Cond.code yX3_leads cX3_leads 3 (some .boolean), Cond.fieldLink RX3 9 "TreeMachines$Machine" "targets" "[I"]
def wsX5_isRule : List Cond := .code yX5_isRule cX5_isRule 8 (some .boolean) :: ((wsX5_isRule_r1 ++ wsX5_isRule_r2) ++ wsX50 ++ wsX40 ++ wsX30)
def wsX5_goal : List Cond := .code yX5_goal cX5_goal 5 (some .boolean) :: ([.fieldLink RX5 12 "TreeMachines" "machines" "LTreeMachines$Pair;", .methodLink RX5 49 yX4_numbered, .instanceMethod yX4_numbered, .selects RX4 yX4_numbered yX4_numbered, .initialized RX4, .code yX4_numbered cX4_numbered 2 (some (.object "TreeMachines$Machine")), .fieldLink RX4 12 "TreeMachines$Pair" "first" "LTreeMachines$Machine;", .fieldLink RX4 18 "TreeMachines$Pair" "second" "LTreeMachines$Machine;", .methodLink RX5 53 yX5_isState, .static yX5_isState, .initialized RX5, .code yX5_isState cX5_isState 1 (some .boolean), .methodLink RX5 63 yX3_isGoal, .instanceMethod yX3_isGoal, .selects RX3 yX3_isGoal yX3_isGoal, .initialized RX3, .code yX3_isGoal cX3_isGoal 2 (some .boolean), .fieldLink RX3 18 "TreeMachines$Machine" "goals" "I", .methodLink RX5 66 yX3_turnGoal, .instanceMethod yX3_turnGoal, .selects RX3 yX3_turnGoal yX3_turnGoal, .code yX3_turnGoal cX3_turnGoal 2 none] ++ wsX50 ++ wsX40 ++ wsX30)
def wsX5_clear_r1 : List Cond := [Cond.fieldLink RX5 12 "TreeMachines" "machines" "LTreeMachines$Pair;", Cond.methodLink RX5 49 yX4_numbered, Cond.instanceMethod yX4_numbered, Cond.selects RX4 yX4_numbered yX4_numbered, Cond.initialized RX4, Cond.code yX4_numbered cX4_numbered 2 (some (.object "TreeMachines$Machine")), Cond.fieldLink RX4 12 "TreeMachines$Pair" "first" "LTreeMachines$Machine;", Cond.fieldLink RX4 18 "TreeMachines$Pair" "second" "LTreeMachines$Machine;", Cond.methodLink RX5 70 yX3_empty, Cond.instanceMethod yX3_empty, Cond.selects RX3 yX3_empty yX3_empty, Cond.initialized RX3, Cond.code yX3_empty cX3_empty 1 none, Cond.fieldLink RX3 9 "TreeMachines$Machine" "targets" "[I", Cond.fieldLink RX3 15 "TreeMachines$Machine" "reachable" "[I", Cond.fieldLink RX3 18 "TreeMachines$Machine" "goals" "I", Cond.methodLink RX3 26 yJ7_fill_53178, Cond.static yJ7_fill_53178, Cond.initialized RJ7, Cond.code yJ7_fill_53178 cJ7_fill_53178 4 none, Cond.methodLink RX5 73 yX5_forgetProfiles, Cond.instanceMethod yX5_forgetProfiles, Cond.selects RX5 yX5_forgetProfiles yX5_forgetProfiles, Cond.initialized RX5]
def wsX5_clear_r2 : List Cond := [Cond.code yX5_forgetProfiles cX5_forgetProfiles 1 none, Cond.fieldLink RX5 28 "TreeMachines" "leastTerms" "LTreeMachines$LeastTerms;", Cond.fieldLink RX5 37 "TreeMachines" "counts" "LTreeMachines$Counts;", Cond.methodLink RX5 147 yX2_forget, Cond.instanceMethod yX2_forget, Cond.selects RX2 yX2_forget yX2_forget, Cond.initialized RX2, Cond.code yX2_forget cX2_forget 1 none, Cond.fieldLink RX2 46 "TreeMachines$LeastTerms" "known" "Z", Cond.methodLink RX5 150 yX0_forget, Cond.instanceMethod yX0_forget, Cond.selects RX0 yX0_forget yX0_forget, Cond.initialized RX0, Cond.code yX0_forget cX0_forget 1 none, Cond.fieldLink RX0 15 "TreeMachines$Counts" "counted" "I"]
def wsX5_clear : List Cond := .code yX5_clear cX5_clear 3 (some .boolean) :: ((wsX5_clear_r1 ++ wsX5_clear_r2) ++ wsX50 ++ wsX40 ++ wsX30 ++ wsX20 ++ wsX00)
def wsX5_node_r1 : List Cond := [Cond.fieldLink RX5 19 "TreeMachines" "forest" "LTreeMachines$Forest;", Cond.methodLink RX5 76 yX5_isSymbol, Cond.static yX5_isSymbol, Cond.initialized RX5, Cond.code yX5_isSymbol cX5_isSymbol 1 (some .boolean), Cond.methodLink RX5 79 yX5_hasLeft, Cond.static yX5_hasLeft, Cond.code yX5_hasLeft cX5_hasLeft 1 (some .boolean), Cond.methodLink RX5 82 yX1_holds, Cond.instanceMethod yX1_holds, Cond.selects RX1 yX1_holds yX1_holds, Cond.initialized RX1, Cond.code yX1_holds cX1_holds 2 (some .boolean), Cond.fieldLink RX1 30 "TreeMachines$Forest" "made" "I", Cond.methodLink RX5 85 yX5_hasRight, Cond.static yX5_hasRight, Cond.code yX5_hasRight cX5_hasRight 1 (some .boolean), Cond.methodLink RX5 88 yX1_room, Cond.instanceMethod yX1_room, Cond.selects RX1 yX1_room yX1_room, Cond.code yX1_room cX1_room 1 (some .int), Cond.methodLink RX5 92 yX1_add, Cond.instanceMethod yX1_add, Cond.selects RX1 yX1_add yX1_add]
def wsX5_node_r2 : List Cond := [Cond.code yX1_add cX1_add 5 (some .int), Cond.fieldLink RX1 9 "TreeMachines$Forest" "symbols" "[I", Cond.fieldLink RX1 15 "TreeMachines$Forest" "lefts" "[I", Cond.fieldLink RX1 18 "TreeMachines$Forest" "rights" "[I", Cond.fieldLink RX1 21 "TreeMachines$Forest" "sizes" "[I", Cond.methodLink RX1 45 Lib.Math.min.name, Cond.static Lib.Math.min.name, Cond.initialized "java/lang/Math", Cond.code Lib.Math.min.name Lib.Math.min.code 2 (some .int), Cond.methodLink RX1 41 yX1_sizeOrZero, Cond.instanceMethod yX1_sizeOrZero, Cond.selects RX1 yX1_sizeOrZero yX1_sizeOrZero, Cond.code yX1_sizeOrZero cX1_sizeOrZero 2 (some .int)]
def wsX5_node : List Cond := .code yX5_node cX5_node 6 (some .int) :: ((wsX5_node_r1 ++ wsX5_node_r2) ++ wsX50 ++ wsX10)
def wsX5_nodes : List Cond := .code yX5_nodes cX5_nodes 1 (some .int) :: ([.fieldLink RX5 19 "TreeMachines" "forest" "LTreeMachines$Forest;", .methodLink RX5 95 yX1_count, .instanceMethod yX1_count, .selects RX1 yX1_count yX1_count, .initialized RX1, .code yX1_count cX1_count 1 (some .int), .fieldLink RX1 30 "TreeMachines$Forest" "made" "I"] ++ wsX50 ++ wsX10)
def wsX5_part : List Cond := .code yX5_part cX5_part 3 (some .int) :: ([.fieldLink RX5 19 "TreeMachines" "forest" "LTreeMachines$Forest;", .methodLink RX5 82 yX1_holds, .instanceMethod yX1_holds, .selects RX1 yX1_holds yX1_holds, .initialized RX1, .code yX1_holds cX1_holds 2 (some .boolean), .fieldLink RX1 30 "TreeMachines$Forest" "made" "I", .methodLink RX5 98 yX1_symbolOf, .instanceMethod yX1_symbolOf, .selects RX1 yX1_symbolOf yX1_symbolOf, .code yX1_symbolOf cX1_symbolOf 2 (some .int), .fieldLink RX1 9 "TreeMachines$Forest" "symbols" "[I", .methodLink RX5 102 yX1_leftOf, .instanceMethod yX1_leftOf, .selects RX1 yX1_leftOf yX1_leftOf, .code yX1_leftOf cX1_leftOf 2 (some .int), .fieldLink RX1 15 "TreeMachines$Forest" "lefts" "[I", .methodLink RX5 105 yX1_rightOf, .instanceMethod yX1_rightOf, .selects RX1 yX1_rightOf yX1_rightOf, .code yX1_rightOf cX1_rightOf 2 (some .int), .fieldLink RX1 18 "TreeMachines$Forest" "rights" "[I"] ++ wsX50 ++ wsX10)
def wsX5_reached_r1 : List Cond := [Cond.fieldLink RX5 12 "TreeMachines" "machines" "LTreeMachines$Pair;", Cond.fieldLink RX5 19 "TreeMachines" "forest" "LTreeMachines$Forest;", Cond.methodLink RX5 49 yX4_numbered, Cond.instanceMethod yX4_numbered, Cond.selects RX4 yX4_numbered yX4_numbered, Cond.initialized RX4, Cond.code yX4_numbered cX4_numbered 2 (some (.object "TreeMachines$Machine")), Cond.fieldLink RX4 12 "TreeMachines$Pair" "first" "LTreeMachines$Machine;", Cond.fieldLink RX4 18 "TreeMachines$Pair" "second" "LTreeMachines$Machine;", Cond.methodLink RX5 82 yX1_holds, Cond.instanceMethod yX1_holds, Cond.selects RX1 yX1_holds yX1_holds, Cond.initialized RX1, Cond.code yX1_holds cX1_holds 2 (some .boolean), Cond.fieldLink RX1 30 "TreeMachines$Forest" "made" "I", Cond.methodLink RX5 108 yX1_profileOf, Cond.instanceMethod yX1_profileOf, Cond.selects RX1 yX1_profileOf yX1_profileOf, Cond.code yX1_profileOf cX1_profileOf 4 (some .int), Cond.fieldLink RX1 24 "TreeMachines$Forest" "profiles" "[I", Cond.fieldLink RX1 9 "TreeMachines$Forest" "symbols" "[I", Cond.fieldLink RX1 15 "TreeMachines$Forest" "lefts" "[I", Cond.fieldLink RX1 18 "TreeMachines$Forest" "rights" "[I", Cond.methodLink RX1 51 yX1_childProfile]
def wsX5_reached_r2 : List Cond := [Cond.instanceMethod yX1_childProfile, Cond.selects RX1 yX1_childProfile yX1_childProfile, Cond.code yX1_childProfile cX1_childProfile 2 (some .int), Cond.methodLink RX1 54 yX4_profileOf, Cond.instanceMethod yX4_profileOf, Cond.selects RX4 yX4_profileOf yX4_profileOf, Cond.code yX4_profileOf cX4_profileOf 6 (some .int), Cond.fieldLink RX4 21 "TreeMachines$Machine" "reachable" "[I", Cond.methodLink RX5 112 yX5_firstSet, Cond.static yX5_firstSet, Cond.initialized RX5, Cond.code yX5_firstSet cX5_firstSet 1 (some .int), Cond.methodLink RX5 115 yX5_secondSet, Cond.static yX5_secondSet, Cond.code yX5_secondSet cX5_secondSet 1 (some .int)]
def wsX5_reached : List Cond := .code yX5_reached cX5_reached 4 (some .int) :: ((wsX5_reached_r1 ++ wsX5_reached_r2) ++ wsX50 ++ wsX40 ++ wsX10 ++ wsX30)
def wsX5_place_r1 : List Cond := [Cond.fieldLink RX5 19 "TreeMachines" "forest" "LTreeMachines$Forest;", Cond.fieldLink RX5 12 "TreeMachines" "machines" "LTreeMachines$Pair;", Cond.methodLink RX5 82 yX1_holds, Cond.instanceMethod yX1_holds, Cond.selects RX1 yX1_holds yX1_holds, Cond.initialized RX1, Cond.code yX1_holds cX1_holds 2 (some .boolean), Cond.fieldLink RX1 30 "TreeMachines$Forest" "made" "I", Cond.methodLink RX5 108 yX1_profileOf, Cond.instanceMethod yX1_profileOf, Cond.selects RX1 yX1_profileOf yX1_profileOf, Cond.code yX1_profileOf cX1_profileOf 4 (some .int), Cond.fieldLink RX1 24 "TreeMachines$Forest" "profiles" "[I", Cond.fieldLink RX1 9 "TreeMachines$Forest" "symbols" "[I", Cond.fieldLink RX1 15 "TreeMachines$Forest" "lefts" "[I", Cond.fieldLink RX1 18 "TreeMachines$Forest" "rights" "[I", Cond.methodLink RX1 51 yX1_childProfile, Cond.instanceMethod yX1_childProfile, Cond.selects RX1 yX1_childProfile yX1_childProfile, Cond.code yX1_childProfile cX1_childProfile 2 (some .int), Cond.methodLink RX1 54 yX4_profileOf, Cond.instanceMethod yX4_profileOf, Cond.selects RX4 yX4_profileOf yX4_profileOf, Cond.initialized RX4]
def wsX5_place_r2 : List Cond := [Cond.code yX4_profileOf cX4_profileOf 6 (some .int), Cond.fieldLink RX4 12 "TreeMachines$Pair" "first" "LTreeMachines$Machine;", Cond.fieldLink RX4 21 "TreeMachines$Machine" "reachable" "[I", Cond.fieldLink RX4 18 "TreeMachines$Pair" "second" "LTreeMachines$Machine;", Cond.methodLink RX5 118 yX4_placeOf, Cond.instanceMethod yX4_placeOf, Cond.selects RX4 yX4_placeOf yX4_placeOf, Cond.code yX4_placeOf cX4_placeOf 3 (some .int), Cond.static yX5_firstSet, Cond.initialized RX5, Cond.code yX5_firstSet cX5_firstSet 1 (some .int), Cond.methodLink RX4 29 yX3_accepts, Cond.instanceMethod yX3_accepts, Cond.selects RX3 yX3_accepts yX3_accepts, Cond.initialized RX3, Cond.code yX3_accepts cX3_accepts 2 (some .boolean), Cond.fieldLink RX3 18 "TreeMachines$Machine" "goals" "I", Cond.static yX5_secondSet, Cond.code yX5_secondSet cX5_secondSet 1 (some .int)]
def wsX5_place : List Cond := .code yX5_place cX5_place 2 (some .int) :: ((wsX5_place_r1 ++ wsX5_place_r2) ++ wsX50 ++ wsX10 ++ wsX40 ++ wsX30)
def wsX5_size : List Cond := .code yX5_size cX5_size 2 (some .int) :: ([.fieldLink RX5 19 "TreeMachines" "forest" "LTreeMachines$Forest;", .methodLink RX5 82 yX1_holds, .instanceMethod yX1_holds, .selects RX1 yX1_holds yX1_holds, .initialized RX1, .code yX1_holds cX1_holds 2 (some .boolean), .fieldLink RX1 30 "TreeMachines$Forest" "made" "I", .methodLink RX5 121 yX1_sizeOf, .instanceMethod yX1_sizeOf, .selects RX1 yX1_sizeOf yX1_sizeOf, .code yX1_sizeOf cX1_sizeOf 2 (some .int), .fieldLink RX1 21 "TreeMachines$Forest" "sizes" "[I"] ++ wsX50 ++ wsX10)
def wsX5_included_r1 : List Cond := [Cond.fieldLink RX5 28 "TreeMachines" "leastTerms" "LTreeMachines$LeastTerms;", Cond.methodLink RX5 124 yX2_firstOf, Cond.instanceMethod yX2_firstOf, Cond.selects RX2 yX2_firstOf yX2_firstOf, Cond.initialized RX2, Cond.code yX2_firstOf cX2_firstOf 3 (some .int), Cond.fieldLink RX2 42 "TreeMachines$LeastTerms" "count" "I", Cond.fieldLink RX2 50 "TreeMachines$LeastTerms" "machines" "LTreeMachines$Pair;", Cond.fieldLink RX2 24 "TreeMachines$LeastTerms" "found" "[I", Cond.methodLink RX2 54 yX2_learn, Cond.instanceMethod yX2_learn, Cond.selects RX2 yX2_learn yX2_learn, Cond.code yX2_learn cX2_learn 3 none, Cond.fieldLink RX2 46 "TreeMachines$LeastTerms" "known" "Z", Cond.fieldLink RX2 9 "TreeMachines$LeastTerms" "sizes" "[I", Cond.fieldLink RX2 27 "TreeMachines$LeastTerms" "starts" "[I", Cond.methodLink RX2 70 yJ7_fill_53178, Cond.static yJ7_fill_53178, Cond.initialized RJ7, Cond.code yJ7_fill_53178 cJ7_fill_53178 4 none, Cond.methodLink RX2 76 yX2_canHaveSize, Cond.static yX2_canHaveSize, Cond.code yX2_canHaveSize cX2_canHaveSize 2 (some .boolean), Cond.methodLink RX2 79 yX2_findOfSize]
def wsX5_included_r2 : List Cond := [Cond.instanceMethod yX2_findOfSize, Cond.selects RX2 yX2_findOfSize yX2_findOfSize, Cond.code yX2_findOfSize cX2_findOfSize 3 none, Cond.static yX5_hasRight, Cond.initialized RX5, Cond.code yX5_hasRight cX5_hasRight 1 (some .boolean), Cond.methodLink RX2 89 yX2_findWithTwo, Cond.instanceMethod yX2_findWithTwo, Cond.selects RX2 yX2_findWithTwo yX2_findWithTwo, Cond.code yX2_findWithTwo cX2_findWithTwo 9 none, Cond.fieldLink RX2 30 "TreeMachines$LeastTerms" "byWriting" "[I", Cond.methodLink RX2 96 yX2_meet, Cond.instanceMethod yX2_meet, Cond.selects RX2 yX2_meet yX2_meet, Cond.code yX2_meet cX2_meet 6 none, Cond.fieldLink RX2 15 "TreeMachines$LeastTerms" "symbols" "[I", Cond.fieldLink RX2 18 "TreeMachines$LeastTerms" "lefts" "[I", Cond.fieldLink RX2 21 "TreeMachines$LeastTerms" "rights" "[I", Cond.methodLink RX2 100 yX4_profileOf, Cond.instanceMethod yX4_profileOf, Cond.selects RX4 yX4_profileOf yX4_profileOf, Cond.initialized RX4, Cond.code yX4_profileOf cX4_profileOf 6 (some .int), Cond.fieldLink RX4 12 "TreeMachines$Pair" "first" "LTreeMachines$Machine;"]
def wsX5_included_r3 : List Cond := [Cond.fieldLink RX4 21 "TreeMachines$Machine" "reachable" "[I", Cond.fieldLink RX4 18 "TreeMachines$Pair" "second" "LTreeMachines$Machine;", Cond.static yX5_hasLeft, Cond.code yX5_hasLeft cX5_hasLeft 1 (some .boolean), Cond.methodLink RX2 93 yX2_findWithOne, Cond.instanceMethod yX2_findWithOne, Cond.selects RX2 yX2_findWithOne yX2_findWithOne, Cond.code yX2_findWithOne cX2_findWithOne 5 none, Cond.methodLink RX2 83 yX2_sortIn, Cond.instanceMethod yX2_sortIn, Cond.selects RX2 yX2_sortIn yX2_sortIn, Cond.code yX2_sortIn cX2_sortIn 5 none, Cond.fieldLink RX2 33 "TreeMachines$LeastTerms" "ranks" "[I", Cond.methodLink RX2 104 yX2_isWrittenBefore, Cond.instanceMethod yX2_isWrittenBefore, Cond.selects RX2 yX2_isWrittenBefore yX2_isWrittenBefore, Cond.code yX2_isWrittenBefore cX2_isWrittenBefore 3 (some .boolean), Cond.methodLink RX2 86 yX2_findLarger, Cond.instanceMethod yX2_findLarger, Cond.selects RX2 yX2_findLarger yX2_findLarger, Cond.code yX2_findLarger cX2_findLarger 4 none, Cond.methodLink RX2 57 yX4_isOfSort, Cond.instanceMethod yX4_isOfSort, Cond.selects RX4 yX4_isOfSort yX4_isOfSort]
def wsX5_included_r4 : List Cond := [Cond.code yX4_isOfSort cX4_isOfSort 3 (some .boolean), Cond.methodLink RX4 36 yX4_placeOf, Cond.instanceMethod yX4_placeOf, Cond.selects RX4 yX4_placeOf yX4_placeOf, Cond.code yX4_placeOf cX4_placeOf 3 (some .int), Cond.static yX5_firstSet, Cond.code yX5_firstSet cX5_firstSet 1 (some .int), Cond.methodLink RX4 29 yX3_accepts, Cond.instanceMethod yX3_accepts, Cond.selects RX3 yX3_accepts yX3_accepts, Cond.initialized RX3, Cond.code yX3_accepts cX3_accepts 2 (some .boolean), Cond.fieldLink RX3 18 "TreeMachines$Machine" "goals" "I", Cond.static yX5_secondSet, Cond.code yX5_secondSet cX5_secondSet 1 (some .int)]
def wsX5_included : List Cond := .code yX5_included cX5_included 1 (some .boolean) :: ((wsX5_included_r1 ++ (wsX5_included_r2 ++ (wsX5_included_r3 ++ wsX5_included_r4))) ++ wsX50 ++ wsX20 ++ wsX40 ++ wsX30)
def wsX5_isSort : List Cond := .code yX5_isSort cX5_isSort 1 (some .boolean) :: ([])
def wsX5_least_r1 : List Cond := [Cond.fieldLink RX5 28 "TreeMachines" "leastTerms" "LTreeMachines$LeastTerms;", Cond.methodLink RX5 127 yX5_isSort, Cond.static yX5_isSort, Cond.initialized RX5, Cond.code yX5_isSort cX5_isSort 1 (some .boolean), Cond.methodLink RX5 124 yX2_firstOf, Cond.instanceMethod yX2_firstOf, Cond.selects RX2 yX2_firstOf yX2_firstOf, Cond.initialized RX2, Cond.code yX2_firstOf cX2_firstOf 3 (some .int), Cond.fieldLink RX2 42 "TreeMachines$LeastTerms" "count" "I", Cond.fieldLink RX2 50 "TreeMachines$LeastTerms" "machines" "LTreeMachines$Pair;", Cond.fieldLink RX2 24 "TreeMachines$LeastTerms" "found" "[I", Cond.methodLink RX2 54 yX2_learn, Cond.instanceMethod yX2_learn, Cond.selects RX2 yX2_learn yX2_learn, Cond.code yX2_learn cX2_learn 3 none, Cond.fieldLink RX2 46 "TreeMachines$LeastTerms" "known" "Z", Cond.fieldLink RX2 9 "TreeMachines$LeastTerms" "sizes" "[I", Cond.fieldLink RX2 27 "TreeMachines$LeastTerms" "starts" "[I", Cond.methodLink RX2 70 yJ7_fill_53178, Cond.static yJ7_fill_53178, Cond.initialized RJ7, Cond.code yJ7_fill_53178 cJ7_fill_53178 4 none]
def wsX5_least_r2 : List Cond := [Cond.methodLink RX2 76 yX2_canHaveSize, Cond.static yX2_canHaveSize, Cond.code yX2_canHaveSize cX2_canHaveSize 2 (some .boolean), Cond.methodLink RX2 79 yX2_findOfSize, Cond.instanceMethod yX2_findOfSize, Cond.selects RX2 yX2_findOfSize yX2_findOfSize, Cond.code yX2_findOfSize cX2_findOfSize 3 none, Cond.static yX5_hasRight, Cond.code yX5_hasRight cX5_hasRight 1 (some .boolean), Cond.methodLink RX2 89 yX2_findWithTwo, Cond.instanceMethod yX2_findWithTwo, Cond.selects RX2 yX2_findWithTwo yX2_findWithTwo, Cond.code yX2_findWithTwo cX2_findWithTwo 9 none, Cond.fieldLink RX2 30 "TreeMachines$LeastTerms" "byWriting" "[I", Cond.methodLink RX2 96 yX2_meet, Cond.instanceMethod yX2_meet, Cond.selects RX2 yX2_meet yX2_meet, Cond.code yX2_meet cX2_meet 6 none, Cond.fieldLink RX2 15 "TreeMachines$LeastTerms" "symbols" "[I", Cond.fieldLink RX2 18 "TreeMachines$LeastTerms" "lefts" "[I", Cond.fieldLink RX2 21 "TreeMachines$LeastTerms" "rights" "[I", Cond.methodLink RX2 100 yX4_profileOf, Cond.instanceMethod yX4_profileOf, Cond.selects RX4 yX4_profileOf yX4_profileOf]
def wsX5_least_r3 : List Cond := [Cond.initialized RX4, Cond.code yX4_profileOf cX4_profileOf 6 (some .int), Cond.fieldLink RX4 12 "TreeMachines$Pair" "first" "LTreeMachines$Machine;", Cond.fieldLink RX4 21 "TreeMachines$Machine" "reachable" "[I", Cond.fieldLink RX4 18 "TreeMachines$Pair" "second" "LTreeMachines$Machine;", Cond.static yX5_hasLeft, Cond.code yX5_hasLeft cX5_hasLeft 1 (some .boolean), Cond.methodLink RX2 93 yX2_findWithOne, Cond.instanceMethod yX2_findWithOne, Cond.selects RX2 yX2_findWithOne yX2_findWithOne, Cond.code yX2_findWithOne cX2_findWithOne 5 none, Cond.methodLink RX2 83 yX2_sortIn, Cond.instanceMethod yX2_sortIn, Cond.selects RX2 yX2_sortIn yX2_sortIn, Cond.code yX2_sortIn cX2_sortIn 5 none, Cond.fieldLink RX2 33 "TreeMachines$LeastTerms" "ranks" "[I", Cond.methodLink RX2 104 yX2_isWrittenBefore, Cond.instanceMethod yX2_isWrittenBefore, Cond.selects RX2 yX2_isWrittenBefore yX2_isWrittenBefore, Cond.code yX2_isWrittenBefore cX2_isWrittenBefore 3 (some .boolean), Cond.methodLink RX2 86 yX2_findLarger, Cond.instanceMethod yX2_findLarger, Cond.selects RX2 yX2_findLarger yX2_findLarger, Cond.code yX2_findLarger cX2_findLarger 4 none]
def wsX5_least_r4 : List Cond := [Cond.methodLink RX2 57 yX4_isOfSort, Cond.instanceMethod yX4_isOfSort, Cond.selects RX4 yX4_isOfSort yX4_isOfSort, Cond.code yX4_isOfSort cX4_isOfSort 3 (some .boolean), Cond.methodLink RX4 36 yX4_placeOf, Cond.instanceMethod yX4_placeOf, Cond.selects RX4 yX4_placeOf yX4_placeOf, Cond.code yX4_placeOf cX4_placeOf 3 (some .int), Cond.static yX5_firstSet, Cond.code yX5_firstSet cX5_firstSet 1 (some .int), Cond.methodLink RX4 29 yX3_accepts, Cond.instanceMethod yX3_accepts, Cond.selects RX3 yX3_accepts yX3_accepts, Cond.initialized RX3, Cond.code yX3_accepts cX3_accepts 2 (some .boolean), Cond.fieldLink RX3 18 "TreeMachines$Machine" "goals" "I", Cond.static yX5_secondSet, Cond.code yX5_secondSet cX5_secondSet 1 (some .int), Cond.methodLink RX5 130 yX2_sizeOf, Cond.instanceMethod yX2_sizeOf, Cond.selects RX2 yX2_sizeOf yX2_sizeOf, Cond.code yX2_sizeOf cX2_sizeOf 2 (some .int)]
def wsX5_least : List Cond := .code yX5_least cX5_least 3 (some .int) :: ((wsX5_least_r1 ++ (wsX5_least_r2 ++ (wsX5_least_r3 ++ wsX5_least_r4))) ++ wsX50 ++ wsX20 ++ wsX40 ++ wsX30)
def wsX5_witness_r1 : List Cond := [Cond.fieldLink RX5 28 "TreeMachines" "leastTerms" "LTreeMachines$LeastTerms;", Cond.fieldLink RX5 19 "TreeMachines" "forest" "LTreeMachines$Forest;", Cond.methodLink RX5 127 yX5_isSort, Cond.static yX5_isSort, Cond.initialized RX5, Cond.code yX5_isSort cX5_isSort 1 (some .boolean), Cond.methodLink RX5 124 yX2_firstOf, Cond.instanceMethod yX2_firstOf, Cond.selects RX2 yX2_firstOf yX2_firstOf, Cond.initialized RX2, Cond.code yX2_firstOf cX2_firstOf 3 (some .int), Cond.fieldLink RX2 42 "TreeMachines$LeastTerms" "count" "I", Cond.fieldLink RX2 50 "TreeMachines$LeastTerms" "machines" "LTreeMachines$Pair;", Cond.fieldLink RX2 24 "TreeMachines$LeastTerms" "found" "[I", Cond.methodLink RX2 54 yX2_learn, Cond.instanceMethod yX2_learn, Cond.selects RX2 yX2_learn yX2_learn, Cond.code yX2_learn cX2_learn 3 none, Cond.fieldLink RX2 46 "TreeMachines$LeastTerms" "known" "Z", Cond.fieldLink RX2 9 "TreeMachines$LeastTerms" "sizes" "[I", Cond.fieldLink RX2 27 "TreeMachines$LeastTerms" "starts" "[I", Cond.methodLink RX2 70 yJ7_fill_53178, Cond.static yJ7_fill_53178, Cond.initialized RJ7]
def wsX5_witness_r2 : List Cond := [Cond.code yJ7_fill_53178 cJ7_fill_53178 4 none, Cond.methodLink RX2 76 yX2_canHaveSize, Cond.static yX2_canHaveSize, Cond.code yX2_canHaveSize cX2_canHaveSize 2 (some .boolean), Cond.methodLink RX2 79 yX2_findOfSize, Cond.instanceMethod yX2_findOfSize, Cond.selects RX2 yX2_findOfSize yX2_findOfSize, Cond.code yX2_findOfSize cX2_findOfSize 3 none, Cond.static yX5_hasRight, Cond.code yX5_hasRight cX5_hasRight 1 (some .boolean), Cond.methodLink RX2 89 yX2_findWithTwo, Cond.instanceMethod yX2_findWithTwo, Cond.selects RX2 yX2_findWithTwo yX2_findWithTwo, Cond.code yX2_findWithTwo cX2_findWithTwo 9 none, Cond.fieldLink RX2 30 "TreeMachines$LeastTerms" "byWriting" "[I", Cond.methodLink RX2 96 yX2_meet, Cond.instanceMethod yX2_meet, Cond.selects RX2 yX2_meet yX2_meet, Cond.code yX2_meet cX2_meet 6 none, Cond.fieldLink RX2 15 "TreeMachines$LeastTerms" "symbols" "[I", Cond.fieldLink RX2 18 "TreeMachines$LeastTerms" "lefts" "[I", Cond.fieldLink RX2 21 "TreeMachines$LeastTerms" "rights" "[I", Cond.methodLink RX2 100 yX4_profileOf, Cond.instanceMethod yX4_profileOf]
def wsX5_witness_r3 : List Cond := [Cond.selects RX4 yX4_profileOf yX4_profileOf, Cond.initialized RX4, Cond.code yX4_profileOf cX4_profileOf 6 (some .int), Cond.fieldLink RX4 12 "TreeMachines$Pair" "first" "LTreeMachines$Machine;", Cond.fieldLink RX4 21 "TreeMachines$Machine" "reachable" "[I", Cond.fieldLink RX4 18 "TreeMachines$Pair" "second" "LTreeMachines$Machine;", Cond.static yX5_hasLeft, Cond.code yX5_hasLeft cX5_hasLeft 1 (some .boolean), Cond.methodLink RX2 93 yX2_findWithOne, Cond.instanceMethod yX2_findWithOne, Cond.selects RX2 yX2_findWithOne yX2_findWithOne, Cond.code yX2_findWithOne cX2_findWithOne 5 none, Cond.methodLink RX2 83 yX2_sortIn, Cond.instanceMethod yX2_sortIn, Cond.selects RX2 yX2_sortIn yX2_sortIn, Cond.code yX2_sortIn cX2_sortIn 5 none, Cond.fieldLink RX2 33 "TreeMachines$LeastTerms" "ranks" "[I", Cond.methodLink RX2 104 yX2_isWrittenBefore, Cond.instanceMethod yX2_isWrittenBefore, Cond.selects RX2 yX2_isWrittenBefore yX2_isWrittenBefore, Cond.code yX2_isWrittenBefore cX2_isWrittenBefore 3 (some .boolean), Cond.methodLink RX2 86 yX2_findLarger, Cond.instanceMethod yX2_findLarger, Cond.selects RX2 yX2_findLarger yX2_findLarger]
def wsX5_witness_r4 : List Cond := [Cond.code yX2_findLarger cX2_findLarger 4 none, Cond.methodLink RX2 57 yX4_isOfSort, Cond.instanceMethod yX4_isOfSort, Cond.selects RX4 yX4_isOfSort yX4_isOfSort, Cond.code yX4_isOfSort cX4_isOfSort 3 (some .boolean), Cond.methodLink RX4 36 yX4_placeOf, Cond.instanceMethod yX4_placeOf, Cond.selects RX4 yX4_placeOf yX4_placeOf, Cond.code yX4_placeOf cX4_placeOf 3 (some .int), Cond.static yX5_firstSet, Cond.code yX5_firstSet cX5_firstSet 1 (some .int), Cond.methodLink RX4 29 yX3_accepts, Cond.instanceMethod yX3_accepts, Cond.selects RX3 yX3_accepts yX3_accepts, Cond.initialized RX3, Cond.code yX3_accepts cX3_accepts 2 (some .boolean), Cond.fieldLink RX3 18 "TreeMachines$Machine" "goals" "I", Cond.static yX5_secondSet, Cond.code yX5_secondSet cX5_secondSet 1 (some .int), Cond.methodLink RX5 130 yX2_sizeOf, Cond.instanceMethod yX2_sizeOf, Cond.selects RX2 yX2_sizeOf yX2_sizeOf, Cond.code yX2_sizeOf cX2_sizeOf 2 (some .int), Cond.methodLink RX5 88 yX1_room]
def wsX5_witness_r5 : List Cond := [Cond.instanceMethod yX1_room, Cond.selects RX1 yX1_room yX1_room, Cond.initialized RX1, Cond.code yX1_room cX1_room 1 (some .int), Cond.fieldLink RX1 30 "TreeMachines$Forest" "made" "I", Cond.methodLink RX5 131 yX2_writingOf, Cond.instanceMethod yX2_writingOf, Cond.selects RX2 yX2_writingOf yX2_writingOf, Cond.code yX2_writingOf cX2_writingOf 5 (some (.array .int)), Cond.fieldLink RX2 39 "TreeMachines$LeastTerms" "pending" "[I", Cond.fieldLink RX2 36 "TreeMachines$LeastTerms" "writing" "[I", Cond.methodLink RX5 135 yX1_plant, Cond.instanceMethod yX1_plant, Cond.selects RX1 yX1_plant yX1_plant, Cond.code yX1_plant cX1_plant 8 (some .int), Cond.fieldLink RX1 27 "TreeMachines$Forest" "unused" "[I", Cond.methodLink RX1 60 yX1_add, Cond.instanceMethod yX1_add, Cond.selects RX1 yX1_add yX1_add, Cond.code yX1_add cX1_add 5 (some .int), Cond.fieldLink RX1 9 "TreeMachines$Forest" "symbols" "[I", Cond.fieldLink RX1 15 "TreeMachines$Forest" "lefts" "[I", Cond.fieldLink RX1 18 "TreeMachines$Forest" "rights" "[I", Cond.fieldLink RX1 21 "TreeMachines$Forest" "sizes" "[I"]
def wsX5_witness_r6 : List Cond := [Cond.methodLink RX1 45 Lib.Math.min.name, Cond.static Lib.Math.min.name, Cond.initialized "java/lang/Math", Cond.code Lib.Math.min.name Lib.Math.min.code 2 (some .int), Cond.methodLink RX1 41 yX1_sizeOrZero, Cond.instanceMethod yX1_sizeOrZero, Cond.selects RX1 yX1_sizeOrZero yX1_sizeOrZero, Cond.code yX1_sizeOrZero cX1_sizeOrZero 2 (some .int)]
def wsX5_witness : List Cond := .code yX5_witness cX5_witness 4 (some .int) :: ((wsX5_witness_r1 ++ (wsX5_witness_r2 ++ (wsX5_witness_r3 ++ (wsX5_witness_r4 ++ (wsX5_witness_r5 ++ wsX5_witness_r6))))) ++ wsX50 ++ wsX20 ++ wsX40 ++ wsX30 ++ wsX10)
def wsX5_terms_r1 : List Cond := [Cond.fieldLink RX5 37 "TreeMachines" "counts" "LTreeMachines$Counts;", Cond.methodLink RX5 127 yX5_isSort, Cond.static yX5_isSort, Cond.initialized RX5, Cond.code yX5_isSort cX5_isSort 1 (some .boolean), Cond.methodLink RX5 139 yX0_ofSort, Cond.instanceMethod yX0_ofSort, Cond.selects RX0 yX0_ofSort yX0_ofSort, Cond.initialized RX0, Cond.code yX0_ofSort cX0_ofSort 7 (some .int), Cond.fieldLink RX0 23 "TreeMachines$Counts" "leastTerms" "LTreeMachines$LeastTerms;", Cond.fieldLink RX0 15 "TreeMachines$Counts" "counted" "I", Cond.fieldLink RX0 19 "TreeMachines$Counts" "machines" "LTreeMachines$Pair;", Cond.fieldLink RX0 9 "TreeMachines$Counts" "numbers" "[I", Cond.methodLink RX0 27 yX2_learn, Cond.instanceMethod yX2_learn, Cond.selects RX2 yX2_learn yX2_learn, Cond.initialized RX2, Cond.code yX2_learn cX2_learn 3 none, Cond.fieldLink RX2 46 "TreeMachines$LeastTerms" "known" "Z", Cond.fieldLink RX2 9 "TreeMachines$LeastTerms" "sizes" "[I", Cond.fieldLink RX2 42 "TreeMachines$LeastTerms" "count" "I", Cond.fieldLink RX2 27 "TreeMachines$LeastTerms" "starts" "[I", Cond.methodLink RX2 70 yJ7_fill_53178]
def wsX5_terms_r2 : List Cond := [Cond.static yJ7_fill_53178, Cond.initialized RJ7, Cond.code yJ7_fill_53178 cJ7_fill_53178 4 none, Cond.methodLink RX2 76 yX2_canHaveSize, Cond.static yX2_canHaveSize, Cond.code yX2_canHaveSize cX2_canHaveSize 2 (some .boolean), Cond.methodLink RX2 79 yX2_findOfSize, Cond.instanceMethod yX2_findOfSize, Cond.selects RX2 yX2_findOfSize yX2_findOfSize, Cond.code yX2_findOfSize cX2_findOfSize 3 none, Cond.static yX5_hasRight, Cond.code yX5_hasRight cX5_hasRight 1 (some .boolean), Cond.methodLink RX2 89 yX2_findWithTwo, Cond.instanceMethod yX2_findWithTwo, Cond.selects RX2 yX2_findWithTwo yX2_findWithTwo, Cond.code yX2_findWithTwo cX2_findWithTwo 9 none, Cond.fieldLink RX2 30 "TreeMachines$LeastTerms" "byWriting" "[I", Cond.fieldLink RX2 24 "TreeMachines$LeastTerms" "found" "[I", Cond.methodLink RX2 96 yX2_meet, Cond.instanceMethod yX2_meet, Cond.selects RX2 yX2_meet yX2_meet, Cond.code yX2_meet cX2_meet 6 none, Cond.fieldLink RX2 50 "TreeMachines$LeastTerms" "machines" "LTreeMachines$Pair;", Cond.fieldLink RX2 15 "TreeMachines$LeastTerms" "symbols" "[I"]
def wsX5_terms_r3 : List Cond := [Cond.fieldLink RX2 18 "TreeMachines$LeastTerms" "lefts" "[I", Cond.fieldLink RX2 21 "TreeMachines$LeastTerms" "rights" "[I", Cond.methodLink RX2 100 yX4_profileOf, Cond.instanceMethod yX4_profileOf, Cond.selects RX4 yX4_profileOf yX4_profileOf, Cond.initialized RX4, Cond.code yX4_profileOf cX4_profileOf 6 (some .int), Cond.fieldLink RX4 12 "TreeMachines$Pair" "first" "LTreeMachines$Machine;", Cond.fieldLink RX4 21 "TreeMachines$Machine" "reachable" "[I", Cond.fieldLink RX4 18 "TreeMachines$Pair" "second" "LTreeMachines$Machine;", Cond.static yX5_hasLeft, Cond.code yX5_hasLeft cX5_hasLeft 1 (some .boolean), Cond.methodLink RX2 93 yX2_findWithOne, Cond.instanceMethod yX2_findWithOne, Cond.selects RX2 yX2_findWithOne yX2_findWithOne, Cond.code yX2_findWithOne cX2_findWithOne 5 none, Cond.methodLink RX2 83 yX2_sortIn, Cond.instanceMethod yX2_sortIn, Cond.selects RX2 yX2_sortIn yX2_sortIn, Cond.code yX2_sortIn cX2_sortIn 5 none, Cond.fieldLink RX2 33 "TreeMachines$LeastTerms" "ranks" "[I", Cond.methodLink RX2 104 yX2_isWrittenBefore, Cond.instanceMethod yX2_isWrittenBefore, Cond.selects RX2 yX2_isWrittenBefore yX2_isWrittenBefore]
def wsX5_terms_r4 : List Cond := [Cond.code yX2_isWrittenBefore cX2_isWrittenBefore 3 (some .boolean), Cond.methodLink RX2 86 yX2_findLarger, Cond.instanceMethod yX2_findLarger, Cond.selects RX2 yX2_findLarger yX2_findLarger, Cond.code yX2_findLarger cX2_findLarger 4 none, Cond.methodLink RX0 32 yX2_foundCount, Cond.instanceMethod yX2_foundCount, Cond.selects RX2 yX2_foundCount yX2_foundCount, Cond.code yX2_foundCount cX2_foundCount 1 (some .int), Cond.methodLink RX0 36 yX0_count, Cond.instanceMethod yX0_count, Cond.selects RX0 yX0_count yX0_count, Cond.code yX0_count cX0_count 6 none, Cond.methodLink RX0 50 yX0_emptyRow, Cond.instanceMethod yX0_emptyRow, Cond.selects RX0 yX0_emptyRow yX0_emptyRow, Cond.code yX0_emptyRow cX0_emptyRow 3 none, Cond.methodLink RX0 54 yX0_addTerms, Cond.instanceMethod yX0_addTerms, Cond.selects RX0 yX0_addTerms yX0_addTerms, Cond.code yX0_addTerms cX0_addTerms 8 none, Cond.methodLink RX0 69 yX4_profileOf, Cond.methodLink RX0 40 yX2_foundAt, Cond.instanceMethod yX2_foundAt]
def wsX5_terms_r5 : List Cond := [Cond.selects RX2 yX2_foundAt yX2_foundAt, Cond.code yX2_foundAt cX2_foundAt 2 (some .int), Cond.methodLink RX0 58 yX0_countWithLeft, Cond.instanceMethod yX0_countWithLeft, Cond.selects RX0 yX0_countWithLeft yX0_countWithLeft, Cond.code yX0_countWithLeft cX0_countWithLeft 8 none, Cond.methodLink RX0 62 yX2_sizeOf, Cond.instanceMethod yX2_sizeOf, Cond.selects RX2 yX2_sizeOf yX2_sizeOf, Cond.code yX2_sizeOf cX2_sizeOf 2 (some .int), Cond.methodLink RX0 65 yX0_couples, Cond.instanceMethod yX0_couples, Cond.selects RX0 yX0_couples yX0_couples, Cond.code yX0_couples cX0_couples 7 (some .int), Cond.methodLink RX0 44 yX4_isOfSort, Cond.instanceMethod yX4_isOfSort, Cond.selects RX4 yX4_isOfSort yX4_isOfSort, Cond.code yX4_isOfSort cX4_isOfSort 3 (some .boolean), Cond.methodLink RX4 36 yX4_placeOf, Cond.instanceMethod yX4_placeOf, Cond.selects RX4 yX4_placeOf yX4_placeOf, Cond.code yX4_placeOf cX4_placeOf 3 (some .int), Cond.static yX5_firstSet, Cond.code yX5_firstSet cX5_firstSet 1 (some .int)]
def wsX5_terms_r6 : List Cond := [Cond.methodLink RX4 29 yX3_accepts, Cond.instanceMethod yX3_accepts, Cond.selects RX3 yX3_accepts yX3_accepts, Cond.initialized RX3, Cond.code yX3_accepts cX3_accepts 2 (some .boolean), Cond.fieldLink RX3 18 "TreeMachines$Machine" "goals" "I", Cond.static yX5_secondSet, Cond.code yX5_secondSet cX5_secondSet 1 (some .int)]
def wsX5_terms : List Cond := .code yX5_terms cX5_terms 3 (some .int) :: ((wsX5_terms_r1 ++ (wsX5_terms_r2 ++ (wsX5_terms_r3 ++ (wsX5_terms_r4 ++ (wsX5_terms_r5 ++ wsX5_terms_r6))))) ++ wsX50 ++ wsX00 ++ wsX20 ++ wsX40 ++ wsX30)
def wsX6_init : List Cond := .code yX6_init cX6_init 1 none :: ([.methodLink RX6 1 objectInit, .instanceMethod objectInit, .code objectInit ⟨#[0xb1]⟩ 1 none, .arrayClass .int, .fieldLink RX6 7 "TreeMachinesModel" "to" "[I", .fieldLink RX6 13 "TreeMachinesModel" "goals" "[I", .fieldLink RX6 16 "TreeMachinesModel" "symbolOf" "[I", .fieldLink RX6 19 "TreeMachinesModel" "leftOf" "[I", .fieldLink RX6 22 "TreeMachinesModel" "rightOf" "[I", .fieldLink RX6 25 "TreeMachinesModel" "length" "[I", .arrayClass .byte, .fieldLink RX6 28 "TreeMachinesModel" "writing" "[B", .fieldLink RX6 32 "TreeMachinesModel" "trial" "[B", .fieldLink RX6 35 "TreeMachinesModel" "many" "[I", .fieldLink RX6 38 "TreeMachinesModel" "stack" "[I"] ++ wsX60)
def wsX6_within : List Cond := .code yX6_within cX6_within 3 (some .boolean) :: ([])
def wsX6_children : List Cond := .code yX6_children cX6_children 1 (some .int) :: ([])
def wsX6_at : List Cond := .code yX6_at cX6_at 6 (some .int) :: ([.methodLink RX6 41 yX6_within, .static yX6_within, .initialized RX6, .code yX6_within cX6_within 3 (some .boolean), .methodLink RX6 45 yX6_children, .static yX6_children, .code yX6_children cX6_children 1 (some .int)])
def wsX6_rule : List Cond := .code yX6_rule cX6_rule 7 (some .boolean) :: ([.fieldLink RX6 7 "TreeMachinesModel" "to" "[I", .methodLink RX6 49 yX6_at, .static yX6_at, .initialized RX6, .code yX6_at cX6_at 6 (some .int), .methodLink RX6 41 yX6_within, .static yX6_within, .code yX6_within cX6_within 3 (some .boolean), .methodLink RX6 45 yX6_children, .static yX6_children, .code yX6_children cX6_children 1 (some .int)] ++ wsX60)
def wsX6_drop : List Cond := .code yX6_drop cX6_drop 7 (some .boolean) :: ([.fieldLink RX6 7 "TreeMachinesModel" "to" "[I", .methodLink RX6 49 yX6_at, .static yX6_at, .initialized RX6, .code yX6_at cX6_at 6 (some .int), .methodLink RX6 41 yX6_within, .static yX6_within, .code yX6_within cX6_within 3 (some .boolean), .methodLink RX6 45 yX6_children, .static yX6_children, .code yX6_children cX6_children 1 (some .int)] ++ wsX60)
def wsX6_isRule : List Cond := .code yX6_isRule cX6_isRule 7 (some .boolean) :: ([.fieldLink RX6 7 "TreeMachinesModel" "to" "[I", .methodLink RX6 49 yX6_at, .static yX6_at, .initialized RX6, .code yX6_at cX6_at 6 (some .int), .methodLink RX6 41 yX6_within, .static yX6_within, .code yX6_within cX6_within 3 (some .boolean), .methodLink RX6 45 yX6_children, .static yX6_children, .code yX6_children cX6_children 1 (some .int)] ++ wsX60)
def wsX6_goal : List Cond := .code yX6_goal cX6_goal 4 (some .boolean) :: ([.fieldLink RX6 13 "TreeMachinesModel" "goals" "[I", .methodLink RX6 41 yX6_within, .static yX6_within, .initialized RX6, .code yX6_within cX6_within 3 (some .boolean)] ++ wsX60)
def wsX6_clear : List Cond := .code yX6_clear cX6_clear 3 (some .boolean) :: ([.fieldLink RX6 7 "TreeMachinesModel" "to" "[I", .fieldLink RX6 13 "TreeMachinesModel" "goals" "[I", .methodLink RX6 41 yX6_within, .static yX6_within, .initialized RX6, .code yX6_within cX6_within 3 (some .boolean)] ++ wsX60)
def wsX6_node : List Cond := .code yX6_node cX6_node 5 (some .int) :: ([.fieldLink RX6 53 "TreeMachinesModel" "count" "I", .fieldLink RX6 16 "TreeMachinesModel" "symbolOf" "[I", .fieldLink RX6 19 "TreeMachinesModel" "leftOf" "[I", .fieldLink RX6 22 "TreeMachinesModel" "rightOf" "[I", .methodLink RX6 41 yX6_within, .static yX6_within, .initialized RX6, .code yX6_within cX6_within 3 (some .boolean), .methodLink RX6 45 yX6_children, .static yX6_children, .code yX6_children cX6_children 1 (some .int)] ++ wsX60)
def wsX6_nodes : List Cond := .code yX6_nodes cX6_nodes 1 (some .int) :: ([.fieldLink RX6 53 "TreeMachinesModel" "count" "I"] ++ wsX60)
def wsX6_part : List Cond := .code yX6_part cX6_part 3 (some .int) :: ([.fieldLink RX6 53 "TreeMachinesModel" "count" "I", .fieldLink RX6 16 "TreeMachinesModel" "symbolOf" "[I", .fieldLink RX6 19 "TreeMachinesModel" "leftOf" "[I", .fieldLink RX6 22 "TreeMachinesModel" "rightOf" "[I", .methodLink RX6 41 yX6_within, .static yX6_within, .initialized RX6, .code yX6_within cX6_within 3 (some .boolean)] ++ wsX60)
def wsX6_over : List Cond := .code yX6_over cX6_over 8 (some .int) :: ([.fieldLink RX6 7 "TreeMachinesModel" "to" "[I"] ++ wsX60)
def wsX6_reach : List Cond := .code yX6_reach cX6_reach 6 (some .int) :: ([.fieldLink RX6 19 "TreeMachinesModel" "leftOf" "[I", .fieldLink RX6 35 "TreeMachinesModel" "many" "[I", .fieldLink RX6 22 "TreeMachinesModel" "rightOf" "[I", .fieldLink RX6 16 "TreeMachinesModel" "symbolOf" "[I", .methodLink RX6 57 yX6_over, .instanceMethod yX6_over, .selects RX6 yX6_over yX6_over, .initialized RX6, .code yX6_over cX6_over 8 (some .int), .fieldLink RX6 7 "TreeMachinesModel" "to" "[I"] ++ wsX60)
def wsX6_reached : List Cond := .code yX6_reached cX6_reached 3 (some .int) :: ([.fieldLink RX6 53 "TreeMachinesModel" "count" "I", .methodLink RX6 41 yX6_within, .static yX6_within, .initialized RX6, .code yX6_within cX6_within 3 (some .boolean), .methodLink RX6 60 yX6_reach, .instanceMethod yX6_reach, .selects RX6 yX6_reach yX6_reach, .code yX6_reach cX6_reach 6 (some .int), .fieldLink RX6 19 "TreeMachinesModel" "leftOf" "[I", .fieldLink RX6 35 "TreeMachinesModel" "many" "[I", .fieldLink RX6 22 "TreeMachinesModel" "rightOf" "[I", .fieldLink RX6 16 "TreeMachinesModel" "symbolOf" "[I", .methodLink RX6 57 yX6_over, .instanceMethod yX6_over, .selects RX6 yX6_over yX6_over, .code yX6_over cX6_over 8 (some .int), .fieldLink RX6 7 "TreeMachinesModel" "to" "[I"] ++ wsX60)
def wsX6_placeOf : List Cond := .code yX6_placeOf cX6_placeOf 2 (some .int) :: ([.fieldLink RX6 13 "TreeMachinesModel" "goals" "[I"] ++ wsX60)
def wsX6_place : List Cond := .code yX6_place cX6_place 3 (some .int) :: ([.fieldLink RX6 53 "TreeMachinesModel" "count" "I", .methodLink RX6 41 yX6_within, .static yX6_within, .initialized RX6, .code yX6_within cX6_within 3 (some .boolean), .methodLink RX6 60 yX6_reach, .instanceMethod yX6_reach, .selects RX6 yX6_reach yX6_reach, .code yX6_reach cX6_reach 6 (some .int), .fieldLink RX6 19 "TreeMachinesModel" "leftOf" "[I", .fieldLink RX6 35 "TreeMachinesModel" "many" "[I", .fieldLink RX6 22 "TreeMachinesModel" "rightOf" "[I", .fieldLink RX6 16 "TreeMachinesModel" "symbolOf" "[I", .methodLink RX6 57 yX6_over, .instanceMethod yX6_over, .selects RX6 yX6_over yX6_over, .code yX6_over cX6_over 8 (some .int), .fieldLink RX6 7 "TreeMachinesModel" "to" "[I", .methodLink RX6 64 yX6_placeOf, .instanceMethod yX6_placeOf, .selects RX6 yX6_placeOf yX6_placeOf, .code yX6_placeOf cX6_placeOf 2 (some .int), .fieldLink RX6 13 "TreeMachinesModel" "goals" "[I"] ++ wsX60)
def wsX6_size : List Cond := .code yX6_size cX6_size 4 (some .int) :: ([.fieldLink RX6 53 "TreeMachinesModel" "count" "I", .fieldLink RX6 19 "TreeMachinesModel" "leftOf" "[I", .fieldLink RX6 35 "TreeMachinesModel" "many" "[I", .fieldLink RX6 22 "TreeMachinesModel" "rightOf" "[I", .methodLink RX6 41 yX6_within, .static yX6_within, .initialized RX6, .code yX6_within cX6_within 3 (some .boolean)] ++ wsX60)
def wsX6_profile : List Cond := .code yX6_profile cX6_profile 5 (some .int) :: ([.methodLink RX6 57 yX6_over, .instanceMethod yX6_over, .selects RX6 yX6_over yX6_over, .initialized RX6, .code yX6_over cX6_over 8 (some .int), .fieldLink RX6 7 "TreeMachinesModel" "to" "[I"] ++ wsX60)
def wsX6_offer : List Cond := .code yX6_offer cX6_offer 10 (some .boolean) :: ([.fieldLink RX6 25 "TreeMachinesModel" "length" "[I", .fieldLink RX6 32 "TreeMachinesModel" "trial" "[B", .fieldLink RX6 28 "TreeMachinesModel" "writing" "[B", .methodLink RX6 67 yX6_profile, .instanceMethod yX6_profile, .selects RX6 yX6_profile yX6_profile, .initialized RX6, .code yX6_profile cX6_profile 5 (some .int), .methodLink RX6 57 yX6_over, .instanceMethod yX6_over, .selects RX6 yX6_over yX6_over, .code yX6_over cX6_over 8 (some .int), .fieldLink RX6 7 "TreeMachinesModel" "to" "[I", .methodLink RX6 45 yX6_children, .static yX6_children, .code yX6_children cX6_children 1 (some .int)] ++ wsX60)
def wsX6_all : List Cond := .code yX6_all cX6_all 7 none :: ([.fieldLink RX6 25 "TreeMachinesModel" "length" "[I", .constant RX6 71 (100000), .methodLink RX6 45 yX6_children, .static yX6_children, .initialized RX6, .code yX6_children cX6_children 1 (some .int), .methodLink RX6 72 yX6_offer, .instanceMethod yX6_offer, .selects RX6 yX6_offer yX6_offer, .code yX6_offer cX6_offer 10 (some .boolean), .fieldLink RX6 32 "TreeMachinesModel" "trial" "[B", .fieldLink RX6 28 "TreeMachinesModel" "writing" "[B", .methodLink RX6 67 yX6_profile, .instanceMethod yX6_profile, .selects RX6 yX6_profile yX6_profile, .code yX6_profile cX6_profile 5 (some .int), .methodLink RX6 57 yX6_over, .instanceMethod yX6_over, .selects RX6 yX6_over yX6_over, .code yX6_over cX6_over 8 (some .int), .fieldLink RX6 7 "TreeMachinesModel" "to" "[I"] ++ wsX60)
def wsX6_best_r1 : List Cond := [Cond.fieldLink RX6 25 "TreeMachinesModel" "length" "[I", Cond.fieldLink RX6 28 "TreeMachinesModel" "writing" "[B", Cond.methodLink RX6 75 yX6_all, Cond.instanceMethod yX6_all, Cond.selects RX6 yX6_all yX6_all, Cond.initialized RX6, Cond.code yX6_all cX6_all 7 none, Cond.constant RX6 71 (100000), Cond.methodLink RX6 45 yX6_children, Cond.static yX6_children, Cond.code yX6_children cX6_children 1 (some .int), Cond.methodLink RX6 72 yX6_offer, Cond.instanceMethod yX6_offer, Cond.selects RX6 yX6_offer yX6_offer, Cond.code yX6_offer cX6_offer 10 (some .boolean), Cond.fieldLink RX6 32 "TreeMachinesModel" "trial" "[B", Cond.methodLink RX6 67 yX6_profile, Cond.instanceMethod yX6_profile, Cond.selects RX6 yX6_profile yX6_profile, Cond.code yX6_profile cX6_profile 5 (some .int), Cond.methodLink RX6 57 yX6_over, Cond.instanceMethod yX6_over, Cond.selects RX6 yX6_over yX6_over, Cond.code yX6_over cX6_over 8 (some .int)]
def wsX6_best_r2 : List Cond := [Cond.fieldLink RX6 7 "TreeMachinesModel" "to" "[I", Cond.methodLink RX6 64 yX6_placeOf, Cond.instanceMethod yX6_placeOf, Cond.selects RX6 yX6_placeOf yX6_placeOf, Cond.code yX6_placeOf cX6_placeOf 2 (some .int), Cond.fieldLink RX6 13 "TreeMachinesModel" "goals" "[I"]
def wsX6_best : List Cond := .code yX6_best cX6_best 5 (some .int) :: ((wsX6_best_r1 ++ wsX6_best_r2) ++ wsX60)
def wsX6_included_r1 : List Cond := [Cond.methodLink RX6 78 yX6_best, Cond.instanceMethod yX6_best, Cond.selects RX6 yX6_best yX6_best, Cond.initialized RX6, Cond.code yX6_best cX6_best 5 (some .int), Cond.fieldLink RX6 25 "TreeMachinesModel" "length" "[I", Cond.fieldLink RX6 28 "TreeMachinesModel" "writing" "[B", Cond.methodLink RX6 75 yX6_all, Cond.instanceMethod yX6_all, Cond.selects RX6 yX6_all yX6_all, Cond.code yX6_all cX6_all 7 none, Cond.constant RX6 71 (100000), Cond.methodLink RX6 45 yX6_children, Cond.static yX6_children, Cond.code yX6_children cX6_children 1 (some .int), Cond.methodLink RX6 72 yX6_offer, Cond.instanceMethod yX6_offer, Cond.selects RX6 yX6_offer yX6_offer, Cond.code yX6_offer cX6_offer 10 (some .boolean), Cond.fieldLink RX6 32 "TreeMachinesModel" "trial" "[B", Cond.methodLink RX6 67 yX6_profile, Cond.instanceMethod yX6_profile, Cond.selects RX6 yX6_profile yX6_profile, Cond.code yX6_profile cX6_profile 5 (some .int)]
def wsX6_included_r2 : List Cond := [Cond.methodLink RX6 57 yX6_over, Cond.instanceMethod yX6_over, Cond.selects RX6 yX6_over yX6_over, Cond.code yX6_over cX6_over 8 (some .int), Cond.fieldLink RX6 7 "TreeMachinesModel" "to" "[I", Cond.methodLink RX6 64 yX6_placeOf, Cond.instanceMethod yX6_placeOf, Cond.selects RX6 yX6_placeOf yX6_placeOf, Cond.code yX6_placeOf cX6_placeOf 2 (some .int), Cond.fieldLink RX6 13 "TreeMachinesModel" "goals" "[I"]
def wsX6_included : List Cond := .code yX6_included cX6_included 1 (some .boolean) :: ((wsX6_included_r1 ++ wsX6_included_r2) ++ wsX60)
def wsX6_least_r1 : List Cond := [Cond.fieldLink RX6 25 "TreeMachinesModel" "length" "[I", Cond.methodLink RX6 41 yX6_within, Cond.static yX6_within, Cond.initialized RX6, Cond.code yX6_within cX6_within 3 (some .boolean), Cond.methodLink RX6 78 yX6_best, Cond.instanceMethod yX6_best, Cond.selects RX6 yX6_best yX6_best, Cond.code yX6_best cX6_best 5 (some .int), Cond.fieldLink RX6 28 "TreeMachinesModel" "writing" "[B", Cond.methodLink RX6 75 yX6_all, Cond.instanceMethod yX6_all, Cond.selects RX6 yX6_all yX6_all, Cond.code yX6_all cX6_all 7 none, Cond.constant RX6 71 (100000), Cond.methodLink RX6 45 yX6_children, Cond.static yX6_children, Cond.code yX6_children cX6_children 1 (some .int), Cond.methodLink RX6 72 yX6_offer, Cond.instanceMethod yX6_offer, Cond.selects RX6 yX6_offer yX6_offer, Cond.code yX6_offer cX6_offer 10 (some .boolean), Cond.fieldLink RX6 32 "TreeMachinesModel" "trial" "[B", Cond.methodLink RX6 67 yX6_profile]
def wsX6_least_r2 : List Cond := [Cond.instanceMethod yX6_profile, Cond.selects RX6 yX6_profile yX6_profile, Cond.code yX6_profile cX6_profile 5 (some .int), Cond.methodLink RX6 57 yX6_over, Cond.instanceMethod yX6_over, Cond.selects RX6 yX6_over yX6_over, Cond.code yX6_over cX6_over 8 (some .int), Cond.fieldLink RX6 7 "TreeMachinesModel" "to" "[I", Cond.methodLink RX6 64 yX6_placeOf, Cond.instanceMethod yX6_placeOf, Cond.selects RX6 yX6_placeOf yX6_placeOf, Cond.code yX6_placeOf cX6_placeOf 2 (some .int), Cond.fieldLink RX6 13 "TreeMachinesModel" "goals" "[I"]
def wsX6_least : List Cond := .code yX6_least cX6_least 3 (some .int) :: ((wsX6_least_r1 ++ wsX6_least_r2) ++ wsX60)
def wsX6_witness_r1 : List Cond := [Cond.fieldLink RX6 25 "TreeMachinesModel" "length" "[I", Cond.fieldLink RX6 53 "TreeMachinesModel" "count" "I", Cond.fieldLink RX6 28 "TreeMachinesModel" "writing" "[B", Cond.fieldLink RX6 38 "TreeMachinesModel" "stack" "[I", Cond.methodLink RX6 41 yX6_within, Cond.static yX6_within, Cond.initialized RX6, Cond.code yX6_within cX6_within 3 (some .boolean), Cond.methodLink RX6 78 yX6_best, Cond.instanceMethod yX6_best, Cond.selects RX6 yX6_best yX6_best, Cond.code yX6_best cX6_best 5 (some .int), Cond.methodLink RX6 75 yX6_all, Cond.instanceMethod yX6_all, Cond.selects RX6 yX6_all yX6_all, Cond.code yX6_all cX6_all 7 none, Cond.constant RX6 71 (100000), Cond.methodLink RX6 45 yX6_children, Cond.static yX6_children, Cond.code yX6_children cX6_children 1 (some .int), Cond.methodLink RX6 72 yX6_offer, Cond.instanceMethod yX6_offer, Cond.selects RX6 yX6_offer yX6_offer, Cond.code yX6_offer cX6_offer 10 (some .boolean)]
def wsX6_witness_r2 : List Cond := [Cond.fieldLink RX6 32 "TreeMachinesModel" "trial" "[B", Cond.methodLink RX6 67 yX6_profile, Cond.instanceMethod yX6_profile, Cond.selects RX6 yX6_profile yX6_profile, Cond.code yX6_profile cX6_profile 5 (some .int), Cond.methodLink RX6 57 yX6_over, Cond.instanceMethod yX6_over, Cond.selects RX6 yX6_over yX6_over, Cond.code yX6_over cX6_over 8 (some .int), Cond.fieldLink RX6 7 "TreeMachinesModel" "to" "[I", Cond.methodLink RX6 64 yX6_placeOf, Cond.instanceMethod yX6_placeOf, Cond.selects RX6 yX6_placeOf yX6_placeOf, Cond.code yX6_placeOf cX6_placeOf 2 (some .int), Cond.fieldLink RX6 13 "TreeMachinesModel" "goals" "[I", Cond.methodLink RX6 81 yX6_node, Cond.instanceMethod yX6_node, Cond.selects RX6 yX6_node yX6_node, Cond.code yX6_node cX6_node 5 (some .int), Cond.fieldLink RX6 16 "TreeMachinesModel" "symbolOf" "[I", Cond.fieldLink RX6 19 "TreeMachinesModel" "leftOf" "[I", Cond.fieldLink RX6 22 "TreeMachinesModel" "rightOf" "[I"]
def wsX6_witness : List Cond := .code yX6_witness cX6_witness 10 (some .int) :: ((wsX6_witness_r1 ++ wsX6_witness_r2) ++ wsX60)
def wsX6_pairs : List Cond := .code yX6_pairs cX6_pairs 7 none :: ([.fieldLink RX6 35 "TreeMachinesModel" "many" "[I", .methodLink RX6 67 yX6_profile, .instanceMethod yX6_profile, .selects RX6 yX6_profile yX6_profile, .initialized RX6, .code yX6_profile cX6_profile 5 (some .int), .methodLink RX6 57 yX6_over, .instanceMethod yX6_over, .selects RX6 yX6_over yX6_over, .code yX6_over cX6_over 8 (some .int), .fieldLink RX6 7 "TreeMachinesModel" "to" "[I"] ++ wsX60)
def wsX6_terms_r1 : List Cond := [Cond.fieldLink RX6 35 "TreeMachinesModel" "many" "[I", Cond.methodLink RX6 41 yX6_within, Cond.static yX6_within, Cond.initialized RX6, Cond.code yX6_within cX6_within 3 (some .boolean), Cond.methodLink RX6 45 yX6_children, Cond.static yX6_children, Cond.code yX6_children cX6_children 1 (some .int), Cond.methodLink RX6 67 yX6_profile, Cond.instanceMethod yX6_profile, Cond.selects RX6 yX6_profile yX6_profile, Cond.code yX6_profile cX6_profile 5 (some .int), Cond.methodLink RX6 57 yX6_over, Cond.instanceMethod yX6_over, Cond.selects RX6 yX6_over yX6_over, Cond.code yX6_over cX6_over 8 (some .int), Cond.fieldLink RX6 7 "TreeMachinesModel" "to" "[I", Cond.methodLink RX6 84 yX6_pairs, Cond.instanceMethod yX6_pairs, Cond.selects RX6 yX6_pairs yX6_pairs, Cond.code yX6_pairs cX6_pairs 7 none, Cond.methodLink RX6 64 yX6_placeOf, Cond.instanceMethod yX6_placeOf, Cond.selects RX6 yX6_placeOf yX6_placeOf]
def wsX6_terms_r2 : List Cond := [Cond.code yX6_placeOf cX6_placeOf 2 (some .int), Cond.fieldLink RX6 13 "TreeMachinesModel" "goals" "[I"]
def wsX6_terms : List Cond := .code yX6_terms cX6_terms 8 (some .int) :: ((wsX6_terms_r1 ++ wsX6_terms_r2) ++ wsX60)
def wsJ9_min_7cf53 : List Cond := .code yJ9_min_7cf53 cJ9_min_7cf53 2 (some .int) :: ([])
def wsL_law_r1 : List Cond := [Cond.classLink RL 7 RX5, Cond.instantiable RX5 4, Cond.initialized RX5, Cond.classLink RL 10 RX6, Cond.instantiable RX6 11, Cond.initialized RX6, Cond.methodLink RL 9 yX5_init, Cond.instanceMethod yX5_init, Cond.code yX5_init cX5_init 1 none, Cond.methodLink RX5 3 objectInit, Cond.instanceMethod objectInit, Cond.code objectInit ⟨#[0xb1]⟩ 1 none, Cond.classLink RX5 9 RX4, Cond.instantiable RX4 2, Cond.initialized RX4, Cond.fieldLink RX5 12 "TreeMachines" "machines" "LTreeMachines$Pair;", Cond.classLink RX5 16 RX1, Cond.instantiable RX1 7, Cond.initialized RX1, Cond.fieldLink RX5 19 "TreeMachines" "forest" "LTreeMachines$Forest;", Cond.classLink RX5 23 RX2, Cond.instantiable RX2 13, Cond.initialized RX2, Cond.fieldLink RX5 28 "TreeMachines" "leastTerms" "LTreeMachines$LeastTerms;"]
def wsL_law_r2 : List Cond := [Cond.classLink RX5 32 RX0, Cond.instantiable RX0 4, Cond.initialized RX0, Cond.fieldLink RX5 37 "TreeMachines" "counts" "LTreeMachines$Counts;", Cond.instanceMethod yX4_init, Cond.code yX4_init cX4_init 1 none, Cond.methodLink RX4 3 objectInit, Cond.classLink RX4 9 RX3, Cond.instantiable RX3 3, Cond.initialized RX3, Cond.fieldLink RX4 12 "TreeMachines$Pair" "first" "LTreeMachines$Machine;", Cond.fieldLink RX4 18 "TreeMachines$Pair" "second" "LTreeMachines$Machine;", Cond.instanceMethod yX3_init, Cond.code yX3_init cX3_init 1 none, Cond.methodLink RX3 3 objectInit, Cond.arrayClass .int, Cond.fieldLink RX3 9 "TreeMachines$Machine" "targets" "[I", Cond.fieldLink RX3 15 "TreeMachines$Machine" "reachable" "[I", Cond.fieldLink RX3 18 "TreeMachines$Machine" "goals" "I", Cond.instanceMethod yX1_init, Cond.code yX1_init cX1_init 1 none, Cond.methodLink RX1 3 objectInit, Cond.fieldLink RX1 9 "TreeMachines$Forest" "symbols" "[I", Cond.fieldLink RX1 15 "TreeMachines$Forest" "lefts" "[I"]
def wsL_law_r3 : List Cond := [Cond.fieldLink RX1 18 "TreeMachines$Forest" "rights" "[I", Cond.fieldLink RX1 21 "TreeMachines$Forest" "sizes" "[I", Cond.fieldLink RX1 24 "TreeMachines$Forest" "profiles" "[I", Cond.fieldLink RX1 27 "TreeMachines$Forest" "unused" "[I", Cond.fieldLink RX1 30 "TreeMachines$Forest" "made" "I", Cond.methodLink RX5 25 yX2_init, Cond.instanceMethod yX2_init, Cond.code yX2_init cX2_init 2 none, Cond.methodLink RX2 3 objectInit, Cond.fieldLink RX2 9 "TreeMachines$LeastTerms" "sizes" "[I", Cond.fieldLink RX2 15 "TreeMachines$LeastTerms" "symbols" "[I", Cond.fieldLink RX2 18 "TreeMachines$LeastTerms" "lefts" "[I", Cond.fieldLink RX2 21 "TreeMachines$LeastTerms" "rights" "[I", Cond.fieldLink RX2 24 "TreeMachines$LeastTerms" "found" "[I", Cond.fieldLink RX2 27 "TreeMachines$LeastTerms" "starts" "[I", Cond.fieldLink RX2 30 "TreeMachines$LeastTerms" "byWriting" "[I", Cond.fieldLink RX2 33 "TreeMachines$LeastTerms" "ranks" "[I", Cond.fieldLink RX2 36 "TreeMachines$LeastTerms" "writing" "[I", Cond.fieldLink RX2 39 "TreeMachines$LeastTerms" "pending" "[I", Cond.fieldLink RX2 42 "TreeMachines$LeastTerms" "count" "I", Cond.fieldLink RX2 46 "TreeMachines$LeastTerms" "known" "Z", Cond.fieldLink RX2 50 "TreeMachines$LeastTerms" "machines" "LTreeMachines$Pair;", Cond.methodLink RX5 34 yX0_init, Cond.instanceMethod yX0_init]
def wsL_law_r4 : List Cond := [Cond.code yX0_init cX0_init 3 none, Cond.methodLink RX0 3 objectInit, Cond.fieldLink RX0 9 "TreeMachines$Counts" "numbers" "[I", Cond.fieldLink RX0 15 "TreeMachines$Counts" "counted" "I", Cond.fieldLink RX0 19 "TreeMachines$Counts" "machines" "LTreeMachines$Pair;", Cond.fieldLink RX0 23 "TreeMachines$Counts" "leastTerms" "LTreeMachines$LeastTerms;", Cond.methodLink RL 12 yX6_init, Cond.instanceMethod yX6_init, Cond.code yX6_init cX6_init 1 none, Cond.methodLink RX6 1 objectInit, Cond.fieldLink RX6 7 "TreeMachinesModel" "to" "[I", Cond.fieldLink RX6 13 "TreeMachinesModel" "goals" "[I", Cond.fieldLink RX6 16 "TreeMachinesModel" "symbolOf" "[I", Cond.fieldLink RX6 19 "TreeMachinesModel" "leftOf" "[I", Cond.fieldLink RX6 22 "TreeMachinesModel" "rightOf" "[I", Cond.fieldLink RX6 25 "TreeMachinesModel" "length" "[I", Cond.arrayClass .byte, Cond.fieldLink RX6 28 "TreeMachinesModel" "writing" "[B", Cond.fieldLink RX6 32 "TreeMachinesModel" "trial" "[B", Cond.fieldLink RX6 35 "TreeMachinesModel" "many" "[I", Cond.fieldLink RX6 38 "TreeMachinesModel" "stack" "[I", Cond.methodLink RL 13 yX5_rule, Cond.instanceMethod yX5_rule, Cond.selects RX5 yX5_rule yX5_rule]
def wsL_law_r5 : List Cond := [Cond.code yX5_rule cX5_rule 6 (some .boolean), Cond.methodLink RX5 41 yX5_rowOf, Cond.static yX5_rowOf, Cond.code yX5_rowOf cX5_rowOf 5 (some .int), Cond.methodLink RX5 76 yX5_isSymbol, Cond.static yX5_isSymbol, Cond.code yX5_isSymbol cX5_isSymbol 1 (some .boolean), Cond.methodLink RX5 79 yX5_hasLeft, Cond.static yX5_hasLeft, Cond.code yX5_hasLeft cX5_hasLeft 1 (some .boolean), Cond.methodLink RX5 85 yX5_hasRight, Cond.static yX5_hasRight, Cond.code yX5_hasRight cX5_hasRight 1 (some .boolean), Cond.methodLink RX5 53 yX5_isState, Cond.static yX5_isState, Cond.code yX5_isState cX5_isState 1 (some .boolean), Cond.methodLink RX5 45 yX5_changeRule, Cond.instanceMethod yX5_changeRule, Cond.selects RX5 yX5_changeRule yX5_changeRule, Cond.code yX5_changeRule cX5_changeRule 6 (some .boolean), Cond.methodLink RX5 49 yX4_numbered, Cond.instanceMethod yX4_numbered, Cond.selects RX4 yX4_numbered yX4_numbered, Cond.code yX4_numbered cX4_numbered 2 (some (.object "TreeMachines$Machine"))]
def wsL_law_r6 : List Cond := [Cond.methodLink RX5 57 yX3_leads, Cond.instanceMethod yX3_leads, Cond.selects RX3 yX3_leads yX3_leads, Cond.code yX3_leads cX3_leads 3 (some .boolean), Cond.methodLink RX5 143 yX3_turnRule, Cond.instanceMethod yX3_turnRule, Cond.selects RX3 yX3_turnRule yX3_turnRule, Cond.code yX3_turnRule cX3_turnRule 3 none, Cond.methodLink RX3 22 yX3_rebuild, Cond.instanceMethod yX3_rebuild, Cond.selects RX3 yX3_rebuild yX3_rebuild, Cond.code yX3_rebuild cX3_rebuild 7 none, Cond.methodLink RX3 42 yX3_cell, Cond.static yX3_cell, Cond.code yX3_cell cX3_cell 3 (some .int), Cond.methodLink RX5 73 yX5_forgetProfiles, Cond.instanceMethod yX5_forgetProfiles, Cond.selects RX5 yX5_forgetProfiles yX5_forgetProfiles, Cond.code yX5_forgetProfiles cX5_forgetProfiles 1 none, Cond.methodLink RX5 147 yX2_forget, Cond.instanceMethod yX2_forget, Cond.selects RX2 yX2_forget yX2_forget, Cond.code yX2_forget cX2_forget 1 none, Cond.methodLink RX5 150 yX0_forget]
def wsL_law_r7 : List Cond := [Cond.instanceMethod yX0_forget, Cond.selects RX0 yX0_forget yX0_forget, Cond.code yX0_forget cX0_forget 1 none, Cond.methodLink RL 17 yX6_rule, Cond.instanceMethod yX6_rule, Cond.selects RX6 yX6_rule yX6_rule, Cond.code yX6_rule cX6_rule 7 (some .boolean), Cond.methodLink RX6 49 yX6_at, Cond.static yX6_at, Cond.code yX6_at cX6_at 6 (some .int), Cond.methodLink RX6 41 yX6_within, Cond.static yX6_within, Cond.code yX6_within cX6_within 3 (some .boolean), Cond.methodLink RX6 45 yX6_children, Cond.static yX6_children, Cond.code yX6_children cX6_children 1 (some .int), Cond.methodLink RL 18 yX5_drop, Cond.instanceMethod yX5_drop, Cond.selects RX5 yX5_drop yX5_drop, Cond.code yX5_drop cX5_drop 6 (some .boolean), Cond.methodLink RL 21 yX6_drop, Cond.instanceMethod yX6_drop, Cond.selects RX6 yX6_drop yX6_drop, Cond.code yX6_drop cX6_drop 7 (some .boolean)]
def wsL_law_r8 : List Cond := [Cond.methodLink RL 22 yX5_isRule, Cond.instanceMethod yX5_isRule, Cond.selects RX5 yX5_isRule yX5_isRule, Cond.code yX5_isRule cX5_isRule 8 (some .boolean), Cond.methodLink RL 25 yX6_isRule, Cond.instanceMethod yX6_isRule, Cond.selects RX6 yX6_isRule yX6_isRule, Cond.code yX6_isRule cX6_isRule 7 (some .boolean), Cond.methodLink RL 26 yX5_goal, Cond.instanceMethod yX5_goal, Cond.selects RX5 yX5_goal yX5_goal, Cond.code yX5_goal cX5_goal 5 (some .boolean), Cond.methodLink RX5 63 yX3_isGoal, Cond.instanceMethod yX3_isGoal, Cond.selects RX3 yX3_isGoal yX3_isGoal, Cond.code yX3_isGoal cX3_isGoal 2 (some .boolean), Cond.methodLink RX5 66 yX3_turnGoal, Cond.instanceMethod yX3_turnGoal, Cond.selects RX3 yX3_turnGoal yX3_turnGoal, Cond.code yX3_turnGoal cX3_turnGoal 2 none, Cond.methodLink RL 30 yX6_goal, Cond.instanceMethod yX6_goal, Cond.selects RX6 yX6_goal yX6_goal, Cond.code yX6_goal cX6_goal 4 (some .boolean)]
def wsL_law_r9 : List Cond := [Cond.methodLink RL 31 yX5_clear, Cond.instanceMethod yX5_clear, Cond.selects RX5 yX5_clear yX5_clear, Cond.code yX5_clear cX5_clear 3 (some .boolean), Cond.methodLink RX5 70 yX3_empty, Cond.instanceMethod yX3_empty, Cond.selects RX3 yX3_empty yX3_empty, Cond.code yX3_empty cX3_empty 1 none, Cond.methodLink RX3 26 yJ7_fill_53178, Cond.static yJ7_fill_53178, Cond.initialized RJ7, Cond.code yJ7_fill_53178 cJ7_fill_53178 4 none, Cond.methodLink RL 35 yX6_clear, Cond.instanceMethod yX6_clear, Cond.selects RX6 yX6_clear yX6_clear, Cond.code yX6_clear cX6_clear 3 (some .boolean), Cond.methodLink RL 36 yX5_node, Cond.instanceMethod yX5_node, Cond.selects RX5 yX5_node yX5_node, Cond.code yX5_node cX5_node 6 (some .int), Cond.methodLink RX5 82 yX1_holds, Cond.instanceMethod yX1_holds, Cond.selects RX1 yX1_holds yX1_holds, Cond.code yX1_holds cX1_holds 2 (some .boolean)]
def wsL_law_r10 : List Cond := [Cond.methodLink RX5 88 yX1_room, Cond.instanceMethod yX1_room, Cond.selects RX1 yX1_room yX1_room, Cond.code yX1_room cX1_room 1 (some .int), Cond.methodLink RX5 92 yX1_add, Cond.instanceMethod yX1_add, Cond.selects RX1 yX1_add yX1_add, Cond.code yX1_add cX1_add 5 (some .int), Cond.methodLink RX1 45 Lib.Math.min.name, Cond.static Lib.Math.min.name, Cond.initialized "java/lang/Math", Cond.code Lib.Math.min.name Lib.Math.min.code 2 (some .int), Cond.methodLink RX1 41 yX1_sizeOrZero, Cond.instanceMethod yX1_sizeOrZero, Cond.selects RX1 yX1_sizeOrZero yX1_sizeOrZero, Cond.code yX1_sizeOrZero cX1_sizeOrZero 2 (some .int), Cond.methodLink RL 40 yX6_node, Cond.instanceMethod yX6_node, Cond.selects RX6 yX6_node yX6_node, Cond.code yX6_node cX6_node 5 (some .int), Cond.fieldLink RX6 53 "TreeMachinesModel" "count" "I", Cond.methodLink RL 41 yX5_nodes, Cond.instanceMethod yX5_nodes, Cond.selects RX5 yX5_nodes yX5_nodes]
def wsL_law_r11 : List Cond := [Cond.code yX5_nodes cX5_nodes 1 (some .int), Cond.methodLink RX5 95 yX1_count, Cond.instanceMethod yX1_count, Cond.selects RX1 yX1_count yX1_count, Cond.code yX1_count cX1_count 1 (some .int), Cond.methodLink RL 45 yX6_nodes, Cond.instanceMethod yX6_nodes, Cond.selects RX6 yX6_nodes yX6_nodes, Cond.code yX6_nodes cX6_nodes 1 (some .int), Cond.methodLink RL 46 yX5_part, Cond.instanceMethod yX5_part, Cond.selects RX5 yX5_part yX5_part, Cond.code yX5_part cX5_part 3 (some .int), Cond.methodLink RX5 98 yX1_symbolOf, Cond.instanceMethod yX1_symbolOf, Cond.selects RX1 yX1_symbolOf yX1_symbolOf, Cond.code yX1_symbolOf cX1_symbolOf 2 (some .int), Cond.methodLink RX5 102 yX1_leftOf, Cond.instanceMethod yX1_leftOf, Cond.selects RX1 yX1_leftOf yX1_leftOf, Cond.code yX1_leftOf cX1_leftOf 2 (some .int), Cond.methodLink RX5 105 yX1_rightOf, Cond.instanceMethod yX1_rightOf, Cond.selects RX1 yX1_rightOf yX1_rightOf]
def wsL_law_r12 : List Cond := [Cond.code yX1_rightOf cX1_rightOf 2 (some .int), Cond.methodLink RL 50 yX6_part, Cond.instanceMethod yX6_part, Cond.selects RX6 yX6_part yX6_part, Cond.code yX6_part cX6_part 3 (some .int), Cond.methodLink RL 51 yX5_reached, Cond.instanceMethod yX5_reached, Cond.selects RX5 yX5_reached yX5_reached, Cond.code yX5_reached cX5_reached 4 (some .int), Cond.methodLink RX5 108 yX1_profileOf, Cond.instanceMethod yX1_profileOf, Cond.selects RX1 yX1_profileOf yX1_profileOf, Cond.code yX1_profileOf cX1_profileOf 4 (some .int), Cond.methodLink RX1 51 yX1_childProfile, Cond.instanceMethod yX1_childProfile, Cond.selects RX1 yX1_childProfile yX1_childProfile, Cond.code yX1_childProfile cX1_childProfile 2 (some .int), Cond.methodLink RX1 54 yX4_profileOf, Cond.instanceMethod yX4_profileOf, Cond.selects RX4 yX4_profileOf yX4_profileOf, Cond.code yX4_profileOf cX4_profileOf 6 (some .int), Cond.fieldLink RX4 21 "TreeMachines$Machine" "reachable" "[I", Cond.methodLink RX5 112 yX5_firstSet, Cond.static yX5_firstSet]
def wsL_law_r13 : List Cond := [Cond.code yX5_firstSet cX5_firstSet 1 (some .int), Cond.methodLink RX5 115 yX5_secondSet, Cond.static yX5_secondSet, Cond.code yX5_secondSet cX5_secondSet 1 (some .int), Cond.methodLink RL 54 yX6_reached, Cond.instanceMethod yX6_reached, Cond.selects RX6 yX6_reached yX6_reached, Cond.code yX6_reached cX6_reached 3 (some .int), Cond.methodLink RX6 60 yX6_reach, Cond.instanceMethod yX6_reach, Cond.selects RX6 yX6_reach yX6_reach, Cond.code yX6_reach cX6_reach 6 (some .int), Cond.methodLink RX6 57 yX6_over, Cond.instanceMethod yX6_over, Cond.selects RX6 yX6_over yX6_over, Cond.code yX6_over cX6_over 8 (some .int), Cond.methodLink RL 55 yX5_place, Cond.instanceMethod yX5_place, Cond.selects RX5 yX5_place yX5_place, Cond.code yX5_place cX5_place 2 (some .int), Cond.methodLink RX5 118 yX4_placeOf, Cond.instanceMethod yX4_placeOf, Cond.selects RX4 yX4_placeOf yX4_placeOf, Cond.code yX4_placeOf cX4_placeOf 3 (some .int)]
def wsL_law_r14 : List Cond := [Cond.methodLink RX4 29 yX3_accepts, Cond.instanceMethod yX3_accepts, Cond.selects RX3 yX3_accepts yX3_accepts, Cond.code yX3_accepts cX3_accepts 2 (some .boolean), Cond.methodLink RL 59 yX6_place, Cond.instanceMethod yX6_place, Cond.selects RX6 yX6_place yX6_place, Cond.code yX6_place cX6_place 3 (some .int), Cond.methodLink RX6 64 yX6_placeOf, Cond.instanceMethod yX6_placeOf, Cond.selects RX6 yX6_placeOf yX6_placeOf, Cond.code yX6_placeOf cX6_placeOf 2 (some .int), Cond.methodLink RL 60 yX5_size, Cond.instanceMethod yX5_size, Cond.selects RX5 yX5_size yX5_size, Cond.code yX5_size cX5_size 2 (some .int), Cond.methodLink RX5 121 yX1_sizeOf, Cond.instanceMethod yX1_sizeOf, Cond.selects RX1 yX1_sizeOf yX1_sizeOf, Cond.code yX1_sizeOf cX1_sizeOf 2 (some .int), Cond.methodLink RL 63 yX6_size, Cond.instanceMethod yX6_size, Cond.selects RX6 yX6_size yX6_size, Cond.code yX6_size cX6_size 4 (some .int)]
def wsL_law_r15 : List Cond := [Cond.methodLink RL 64 yX5_included, Cond.instanceMethod yX5_included, Cond.selects RX5 yX5_included yX5_included, Cond.code yX5_included cX5_included 1 (some .boolean), Cond.methodLink RX5 124 yX2_firstOf, Cond.instanceMethod yX2_firstOf, Cond.selects RX2 yX2_firstOf yX2_firstOf, Cond.code yX2_firstOf cX2_firstOf 3 (some .int), Cond.methodLink RX2 54 yX2_learn, Cond.instanceMethod yX2_learn, Cond.selects RX2 yX2_learn yX2_learn, Cond.code yX2_learn cX2_learn 3 none, Cond.methodLink RX2 70 yJ7_fill_53178, Cond.methodLink RX2 76 yX2_canHaveSize, Cond.static yX2_canHaveSize, Cond.code yX2_canHaveSize cX2_canHaveSize 2 (some .boolean), Cond.methodLink RX2 79 yX2_findOfSize, Cond.instanceMethod yX2_findOfSize, Cond.selects RX2 yX2_findOfSize yX2_findOfSize, Cond.code yX2_findOfSize cX2_findOfSize 3 none, Cond.methodLink RX2 89 yX2_findWithTwo, Cond.instanceMethod yX2_findWithTwo, Cond.selects RX2 yX2_findWithTwo yX2_findWithTwo, Cond.code yX2_findWithTwo cX2_findWithTwo 9 none]
def wsL_law_r16 : List Cond := [Cond.methodLink RX2 96 yX2_meet, Cond.instanceMethod yX2_meet, Cond.selects RX2 yX2_meet yX2_meet, Cond.code yX2_meet cX2_meet 6 none, Cond.methodLink RX2 100 yX4_profileOf, Cond.methodLink RX2 93 yX2_findWithOne, Cond.instanceMethod yX2_findWithOne, Cond.selects RX2 yX2_findWithOne yX2_findWithOne, Cond.code yX2_findWithOne cX2_findWithOne 5 none, Cond.methodLink RX2 83 yX2_sortIn, Cond.instanceMethod yX2_sortIn, Cond.selects RX2 yX2_sortIn yX2_sortIn, Cond.code yX2_sortIn cX2_sortIn 5 none, Cond.methodLink RX2 104 yX2_isWrittenBefore, Cond.instanceMethod yX2_isWrittenBefore, Cond.selects RX2 yX2_isWrittenBefore yX2_isWrittenBefore, Cond.code yX2_isWrittenBefore cX2_isWrittenBefore 3 (some .boolean), Cond.methodLink RX2 86 yX2_findLarger, Cond.instanceMethod yX2_findLarger, Cond.selects RX2 yX2_findLarger yX2_findLarger, Cond.code yX2_findLarger cX2_findLarger 4 none, Cond.methodLink RX2 57 yX4_isOfSort, Cond.instanceMethod yX4_isOfSort, Cond.selects RX4 yX4_isOfSort yX4_isOfSort]
def wsL_law_r17 : List Cond := [Cond.code yX4_isOfSort cX4_isOfSort 3 (some .boolean), Cond.methodLink RX4 36 yX4_placeOf, Cond.methodLink RL 68 yX6_included, Cond.instanceMethod yX6_included, Cond.selects RX6 yX6_included yX6_included, Cond.code yX6_included cX6_included 1 (some .boolean), Cond.methodLink RX6 78 yX6_best, Cond.instanceMethod yX6_best, Cond.selects RX6 yX6_best yX6_best, Cond.code yX6_best cX6_best 5 (some .int), Cond.methodLink RX6 75 yX6_all, Cond.instanceMethod yX6_all, Cond.selects RX6 yX6_all yX6_all, Cond.code yX6_all cX6_all 7 none, Cond.constant RX6 71 (100000), Cond.methodLink RX6 72 yX6_offer, Cond.instanceMethod yX6_offer, Cond.selects RX6 yX6_offer yX6_offer, Cond.code yX6_offer cX6_offer 10 (some .boolean), Cond.methodLink RX6 67 yX6_profile, Cond.instanceMethod yX6_profile, Cond.selects RX6 yX6_profile yX6_profile, Cond.code yX6_profile cX6_profile 5 (some .int), Cond.methodLink RL 69 yX5_least]
def wsL_law_r18 : List Cond := [Cond.instanceMethod yX5_least, Cond.selects RX5 yX5_least yX5_least, Cond.code yX5_least cX5_least 3 (some .int), Cond.methodLink RX5 127 yX5_isSort, Cond.static yX5_isSort, Cond.code yX5_isSort cX5_isSort 1 (some .boolean), Cond.methodLink RX5 130 yX2_sizeOf, Cond.instanceMethod yX2_sizeOf, Cond.selects RX2 yX2_sizeOf yX2_sizeOf, Cond.code yX2_sizeOf cX2_sizeOf 2 (some .int), Cond.methodLink RL 72 yX6_least, Cond.instanceMethod yX6_least, Cond.selects RX6 yX6_least yX6_least, Cond.code yX6_least cX6_least 3 (some .int), Cond.methodLink RL 73 yX5_witness, Cond.instanceMethod yX5_witness, Cond.selects RX5 yX5_witness yX5_witness, Cond.code yX5_witness cX5_witness 4 (some .int), Cond.methodLink RX5 131 yX2_writingOf, Cond.instanceMethod yX2_writingOf, Cond.selects RX2 yX2_writingOf yX2_writingOf, Cond.code yX2_writingOf cX2_writingOf 5 (some (.array .int)), Cond.methodLink RX5 135 yX1_plant, Cond.instanceMethod yX1_plant]
def wsL_law_r19 : List Cond := [Cond.selects RX1 yX1_plant yX1_plant, Cond.code yX1_plant cX1_plant 8 (some .int), Cond.methodLink RX1 60 yX1_add, Cond.methodLink RL 76 yX6_witness, Cond.instanceMethod yX6_witness, Cond.selects RX6 yX6_witness yX6_witness, Cond.code yX6_witness cX6_witness 10 (some .int), Cond.methodLink RX6 81 yX6_node, Cond.methodLink RL 77 yX5_terms, Cond.instanceMethod yX5_terms, Cond.selects RX5 yX5_terms yX5_terms, Cond.code yX5_terms cX5_terms 3 (some .int), Cond.methodLink RX5 139 yX0_ofSort, Cond.instanceMethod yX0_ofSort, Cond.selects RX0 yX0_ofSort yX0_ofSort, Cond.code yX0_ofSort cX0_ofSort 7 (some .int), Cond.methodLink RX0 27 yX2_learn, Cond.methodLink RX0 32 yX2_foundCount, Cond.instanceMethod yX2_foundCount, Cond.selects RX2 yX2_foundCount yX2_foundCount, Cond.code yX2_foundCount cX2_foundCount 1 (some .int), Cond.methodLink RX0 36 yX0_count, Cond.instanceMethod yX0_count, Cond.selects RX0 yX0_count yX0_count]
def wsL_law_r20 : List Cond := [Cond.code yX0_count cX0_count 6 none, Cond.methodLink RX0 50 yX0_emptyRow, Cond.instanceMethod yX0_emptyRow, Cond.selects RX0 yX0_emptyRow yX0_emptyRow, Cond.code yX0_emptyRow cX0_emptyRow 3 none, Cond.methodLink RX0 54 yX0_addTerms, Cond.instanceMethod yX0_addTerms, Cond.selects RX0 yX0_addTerms yX0_addTerms, Cond.code yX0_addTerms cX0_addTerms 8 none, Cond.methodLink RX0 69 yX4_profileOf, Cond.methodLink RX0 40 yX2_foundAt, Cond.instanceMethod yX2_foundAt, Cond.selects RX2 yX2_foundAt yX2_foundAt, Cond.code yX2_foundAt cX2_foundAt 2 (some .int), Cond.methodLink RX0 58 yX0_countWithLeft, Cond.instanceMethod yX0_countWithLeft, Cond.selects RX0 yX0_countWithLeft yX0_countWithLeft, Cond.code yX0_countWithLeft cX0_countWithLeft 8 none, Cond.methodLink RX0 62 yX2_sizeOf, Cond.methodLink RX0 65 yX0_couples, Cond.instanceMethod yX0_couples, Cond.selects RX0 yX0_couples yX0_couples, Cond.code yX0_couples cX0_couples 7 (some .int), Cond.methodLink RX0 44 yX4_isOfSort]
def wsL_law_r21 : List Cond := [Cond.methodLink RL 80 yX6_terms, Cond.instanceMethod yX6_terms, Cond.selects RX6 yX6_terms yX6_terms, Cond.code yX6_terms cX6_terms 8 (some .int), Cond.methodLink RX6 84 yX6_pairs, Cond.instanceMethod yX6_pairs, Cond.selects RX6 yX6_pairs yX6_pairs, Cond.code yX6_pairs cX6_pairs 7 none]
def wsL_law : List Cond := (wsL_law_r1 ++ (wsL_law_r2 ++ (wsL_law_r3 ++ (wsL_law_r4 ++ (wsL_law_r5 ++ (wsL_law_r6 ++ (wsL_law_r7 ++ (wsL_law_r8 ++ (wsL_law_r9 ++ (wsL_law_r10 ++ (wsL_law_r11 ++ (wsL_law_r12 ++ (wsL_law_r13 ++ (wsL_law_r14 ++ (wsL_law_r15 ++ (wsL_law_r16 ++ (wsL_law_r17 ++ (wsL_law_r18 ++ (wsL_law_r19 ++ (wsL_law_r20 ++ wsL_law_r21)))))))))))))))))))) ++ wsX50 ++ wsX60 ++ wsX40 ++ wsX10 ++ wsX20 ++ wsX00 ++ wsX30 ++ ([] : List Cond)
abbrev vwCl : List vw_C := [(RX0, TX0, 4), (RX1, TX1, 7), (RX2, TX2, 13), (RX3, TX3, 3), (RX4, TX4, 2), (RX5, TX5, 4), (RX6, TX6, 11)]
end
section
theorem dX0_init_0 : decode cX0_init 0 = .ok (.aload_n 0, 1) := by decide +kernel
theorem dX0_init_1 : decode cX0_init 1 = .ok (.invokespecial 3, 3) := by decide +kernel
theorem dX0_init_4 : decode cX0_init 4 = .ok (.aload_n 0, 1) := by decide +kernel
theorem dX0_init_5 : decode cX0_init 5 = .ok (.sipush 3328, 3) := by decide +kernel
theorem dX0_init_8 : decode cX0_init 8 = .ok (.newarray .int, 2) := by decide +kernel
theorem dX0_init_10 : decode cX0_init 10 = .ok (.putfield 9, 3) := by decide +kernel
theorem dX0_init_13 : decode cX0_init 13 = .ok (.aload_n 0, 1) := by decide +kernel
theorem dX0_init_14 : decode cX0_init 14 = .ok (.iconst 0, 1) := by decide +kernel
theorem dX0_init_15 : decode cX0_init 15 = .ok (.putfield 15, 3) := by decide +kernel
theorem dX0_init_18 : decode cX0_init 18 = .ok (.aload_n 0, 1) := by decide +kernel
theorem dX0_init_19 : decode cX0_init 19 = .ok (.aload_n 1, 1) := by decide +kernel
theorem dX0_init_20 : decode cX0_init 20 = .ok (.putfield 19, 3) := by decide +kernel
theorem dX0_init_23 : decode cX0_init 23 = .ok (.aload_n 0, 1) := by decide +kernel
theorem dX0_init_24 : decode cX0_init 24 = .ok (.aload_n 2, 1) := by decide +kernel
theorem dX0_init_25 : decode cX0_init 25 = .ok (.putfield 23, 3) := by decide +kernel
theorem dX0_init_28 : decode cX0_init 28 = .ok (.return_, 1) := by decide +kernel
theorem dX0_forget_0 : decode cX0_forget 0 = .ok (.aload_n 0, 1) := by decide +kernel
theorem dX0_forget_1 : decode cX0_forget 1 = .ok (.iconst 0, 1) := by decide +kernel
theorem dX0_forget_2 : decode cX0_forget 2 = .ok (.putfield 15, 3) := by decide +kernel
theorem dX0_forget_5 : decode cX0_forget 5 = .ok (.return_, 1) := by decide +kernel
set_option maxRecDepth 20000 in
theorem ggX0_ofSort_X2_learn : GoodIn wsX0_ofSort wsX2_learn := goodIn_r _ [9, 10, 11, 12, 13, 14, 15, 16, 17, 18, 19, 8, 20, 21, 22, 23, 24, 25, 26, 27, 28, 29, 30, 31, 32, 33, 34, 35, 36, 37, 38, 39, 40, 41, 42, 43, 44, 45, 46, 47, 48, 49, 50, 51, 52, 53, 54, 55, 56, 57, 58, 59, 60, 61, 62, 63, 64, 65, 66, 67, 68, 125, 126, 127, 128, 129, 130, 131, 132, 133, 134, 135, 136, 137, 138, 139, 140, 141, 142] (by decide +kernel) (by decide +kernel)
set_option maxRecDepth 20000 in
theorem gX0_ofSort_X2_learn : GoodIn wsX0_ofSort (wsV RX0 27 RX2 yX2_learn wsX2_learn) := goodIn_app (goodIn_of _ (by decide +kernel)) ggX0_ofSort_X2_learn
set_option maxRecDepth 20000 in
theorem ggX0_ofSort_X2_foundCount : GoodIn wsX0_ofSort wsX2_foundCount := goodIn_r _ [72, 12, 125, 126, 127, 128, 129, 130, 131, 132, 133, 134, 135, 136, 137] (by decide +kernel) (by decide +kernel)
set_option maxRecDepth 20000 in
theorem gX0_ofSort_X2_foundCount : GoodIn wsX0_ofSort (wsV RX0 32 RX2 yX2_foundCount wsX2_foundCount) := goodIn_app (goodIn_of _ (by decide +kernel)) ggX0_ofSort_X2_foundCount
set_option maxRecDepth 20000 in
theorem ggX0_ofSort_X0_count : GoodIn wsX0_ofSort wsX0_count := goodIn_r _ [77, 1, 4, 78, 79, 80, 76, 81, 82, 83, 84, 85, 3, 86, 43, 44, 45, 46, 47, 48, 49, 87, 88, 89, 8, 90, 33, 91, 92, 93, 94, 95, 96, 97, 98, 11, 99, 100, 101, 102, 121, 122, 123, 124, 138, 139, 140, 141, 142, 125, 126, 127, 128, 129, 130, 131, 132, 133, 134, 135, 136, 137] (by decide +kernel) (by decide +kernel)
set_option maxRecDepth 20000 in
theorem gX0_ofSort_X0_count : GoodIn wsX0_ofSort (wsV RX0 36 RX0 yX0_count wsX0_count) := goodIn_app (goodIn_of _ (by decide +kernel)) ggX0_ofSort_X0_count
set_option maxRecDepth 20000 in
theorem ggX0_ofSort_X2_foundAt : GoodIn wsX0_ofSort wsX2_foundAt := goodIn_r _ [90, 33, 125, 126, 127, 128, 129, 130, 131, 132, 133, 134, 135, 136, 137] (by decide +kernel) (by decide +kernel)
set_option maxRecDepth 20000 in
theorem gX0_ofSort_X2_foundAt : GoodIn wsX0_ofSort (wsV RX0 40 RX2 yX2_foundAt wsX2_foundAt) := goodIn_app (goodIn_of _ (by decide +kernel)) ggX0_ofSort_X2_foundAt
set_option maxRecDepth 20000 in
theorem ggX0_ofSort_X4_isOfSort : GoodIn wsX0_ofSort wsX4_isOfSort := goodIn_r _ [106, 107, 108, 109, 45, 110, 47, 49, 111, 26, 112, 113, 114, 115, 116, 117, 118, 119, 120, 138, 139, 140, 141, 142] (by decide +kernel) (by decide +kernel)
set_option maxRecDepth 20000 in
theorem gX0_ofSort_X4_isOfSort : GoodIn wsX0_ofSort (wsV RX0 44 RX4 yX4_isOfSort wsX4_isOfSort) := goodIn_app (goodIn_of _ (by decide +kernel)) ggX0_ofSort_X4_isOfSort
theorem dX0_ofSort_0 : decode cX0_ofSort 0 = .ok (.aload_n 0, 1) := by decide +kernel
theorem dX0_ofSort_1 : decode cX0_ofSort 1 = .ok (.getfield 23, 3) := by decide +kernel
theorem dX0_ofSort_4 : decode cX0_ofSort 4 = .ok (.invokevirtual 27, 3) := by decide +kernel
theorem dX0_ofSort_7 : decode cX0_ofSort 7 = .ok (.aload_n 0, 1) := by decide +kernel
theorem dX0_ofSort_8 : decode cX0_ofSort 8 = .ok (.getfield 23, 3) := by decide +kernel
theorem dX0_ofSort_11 : decode cX0_ofSort 11 = .ok (.invokevirtual 32, 3) := by decide +kernel
theorem dX0_ofSort_14 : decode cX0_ofSort 14 = .ok (.istore_n 3, 1) := by decide +kernel
theorem dX0_ofSort_15 : decode cX0_ofSort 15 = .ok (.aload_n 0, 1) := by decide +kernel
theorem dX0_ofSort_16 : decode cX0_ofSort 16 = .ok (.getfield 15, 3) := by decide +kernel
theorem dX0_ofSort_19 : decode cX0_ofSort 19 = .ok (.iconst 1, 1) := by decide +kernel
theorem dX0_ofSort_20 : decode cX0_ofSort 20 = .ok (.iadd, 1) := by decide +kernel
theorem dX0_ofSort_21 : decode cX0_ofSort 21 = .ok (.istore 4, 2) := by decide +kernel
theorem dX0_ofSort_23 : decode cX0_ofSort 23 = .ok (.iload 4, 2) := by decide +kernel
theorem dX0_ofSort_25 : decode cX0_ofSort 25 = .ok (.iload_n 2, 1) := by decide +kernel
theorem dX0_ofSort_26 : decode cX0_ofSort 26 = .ok (.if_icmp .gt 22, 3) := by decide +kernel
theorem dX0_ofSort_29 : decode cX0_ofSort 29 = .ok (.aload_n 0, 1) := by decide +kernel
theorem dX0_ofSort_30 : decode cX0_ofSort 30 = .ok (.iload 4, 2) := by decide +kernel
theorem dX0_ofSort_32 : decode cX0_ofSort 32 = .ok (.iload_n 3, 1) := by decide +kernel
theorem dX0_ofSort_33 : decode cX0_ofSort 33 = .ok (.invokevirtual 36, 3) := by decide +kernel
theorem dX0_ofSort_36 : decode cX0_ofSort 36 = .ok (.aload_n 0, 1) := by decide +kernel
theorem dX0_ofSort_37 : decode cX0_ofSort 37 = .ok (.iload 4, 2) := by decide +kernel
theorem dX0_ofSort_39 : decode cX0_ofSort 39 = .ok (.putfield 15, 3) := by decide +kernel
theorem dX0_ofSort_42 : decode cX0_ofSort 42 = .ok (.iinc 4 1, 3) := by decide +kernel
theorem dX0_ofSort_45 : decode cX0_ofSort 45 = .ok (.goto (-22), 3) := by decide +kernel
theorem dX0_ofSort_48 : decode cX0_ofSort 48 = .ok (.iconst 0, 1) := by decide +kernel
theorem dX0_ofSort_49 : decode cX0_ofSort 49 = .ok (.istore 4, 2) := by decide +kernel
theorem dX0_ofSort_51 : decode cX0_ofSort 51 = .ok (.iconst 0, 1) := by decide +kernel
theorem dX0_ofSort_52 : decode cX0_ofSort 52 = .ok (.istore 5, 2) := by decide +kernel
theorem dX0_ofSort_54 : decode cX0_ofSort 54 = .ok (.iload 5, 2) := by decide +kernel
theorem dX0_ofSort_56 : decode cX0_ofSort 56 = .ok (.iload_n 3, 1) := by decide +kernel
theorem dX0_ofSort_57 : decode cX0_ofSort 57 = .ok (.if_icmp .ge 51, 3) := by decide +kernel
theorem dX0_ofSort_60 : decode cX0_ofSort 60 = .ok (.aload_n 0, 1) := by decide +kernel
theorem dX0_ofSort_61 : decode cX0_ofSort 61 = .ok (.getfield 23, 3) := by decide +kernel
theorem dX0_ofSort_64 : decode cX0_ofSort 64 = .ok (.iload 5, 2) := by decide +kernel
theorem dX0_ofSort_66 : decode cX0_ofSort 66 = .ok (.invokevirtual 40, 3) := by decide +kernel
theorem dX0_ofSort_69 : decode cX0_ofSort 69 = .ok (.istore 6, 2) := by decide +kernel
theorem dX0_ofSort_71 : decode cX0_ofSort 71 = .ok (.aload_n 0, 1) := by decide +kernel
theorem dX0_ofSort_72 : decode cX0_ofSort 72 = .ok (.getfield 19, 3) := by decide +kernel
theorem dX0_ofSort_75 : decode cX0_ofSort 75 = .ok (.iload 6, 2) := by decide +kernel
theorem dX0_ofSort_77 : decode cX0_ofSort 77 = .ok (.iload_n 1, 1) := by decide +kernel
theorem dX0_ofSort_78 : decode cX0_ofSort 78 = .ok (.invokevirtual 44, 3) := by decide +kernel
theorem dX0_ofSort_81 : decode cX0_ofSort 81 = .ok (.ifCond .eq 21, 3) := by decide +kernel
theorem dX0_ofSort_84 : decode cX0_ofSort 84 = .ok (.iload 4, 2) := by decide +kernel
theorem dX0_ofSort_86 : decode cX0_ofSort 86 = .ok (.aload_n 0, 1) := by decide +kernel
theorem dX0_ofSort_87 : decode cX0_ofSort 87 = .ok (.getfield 9, 3) := by decide +kernel
theorem dX0_ofSort_90 : decode cX0_ofSort 90 = .ok (.iload_n 2, 1) := by decide +kernel
theorem dX0_ofSort_91 : decode cX0_ofSort 91 = .ok (.sipush 256, 3) := by decide +kernel
theorem dX0_ofSort_94 : decode cX0_ofSort 94 = .ok (.imul, 1) := by decide +kernel
theorem dX0_ofSort_95 : decode cX0_ofSort 95 = .ok (.iload 6, 2) := by decide +kernel
theorem dX0_ofSort_97 : decode cX0_ofSort 97 = .ok (.iadd, 1) := by decide +kernel
theorem dX0_ofSort_98 : decode cX0_ofSort 98 = .ok (.iaload, 1) := by decide +kernel
theorem dX0_ofSort_99 : decode cX0_ofSort 99 = .ok (.iadd, 1) := by decide +kernel
theorem dX0_ofSort_100 : decode cX0_ofSort 100 = .ok (.istore 4, 2) := by decide +kernel
theorem dX0_ofSort_102 : decode cX0_ofSort 102 = .ok (.iinc 5 1, 3) := by decide +kernel
theorem dX0_ofSort_105 : decode cX0_ofSort 105 = .ok (.goto (-51), 3) := by decide +kernel
theorem dX0_ofSort_108 : decode cX0_ofSort 108 = .ok (.iload 4, 2) := by decide +kernel
theorem dX0_ofSort_110 : decode cX0_ofSort 110 = .ok (.ireturn, 1) := by decide +kernel
set_option maxRecDepth 20000 in
theorem ggX0_count_X0_emptyRow : GoodIn wsX0_count wsX0_emptyRow := goodIn_r _ [7, 2, 40, 41, 42, 43] (by decide +kernel) (by decide +kernel)
set_option maxRecDepth 20000 in
theorem gX0_count_X0_emptyRow : GoodIn wsX0_count (wsV RX0 50 RX0 yX0_emptyRow wsX0_emptyRow) := goodIn_app (goodIn_of _ (by decide +kernel)) ggX0_count_X0_emptyRow
set_option maxRecDepth 20000 in
theorem ggX0_count_X0_addTerms : GoodIn wsX0_count wsX0_addTerms := goodIn_r _ [11, 2, 12, 13, 14, 15, 16, 17, 18, 19, 20, 40, 41, 42, 43, 44, 45, 46, 47, 48] (by decide +kernel) (by decide +kernel)
set_option maxRecDepth 20000 in
theorem gX0_count_X0_addTerms : GoodIn wsX0_count (wsV RX0 54 RX0 yX0_addTerms wsX0_addTerms) := goodIn_app (goodIn_of _ (by decide +kernel)) ggX0_count_X0_addTerms
set_option maxRecDepth 20000 in
theorem ggX0_count_X2_foundAt : GoodIn wsX0_count wsX2_foundAt := goodIn_r _ [25, 26, 49, 50, 51, 52, 53, 54, 55, 56, 57, 58, 59, 60, 61] (by decide +kernel) (by decide +kernel)
set_option maxRecDepth 20000 in
theorem gX0_count_X2_foundAt : GoodIn wsX0_count (wsV RX0 40 RX2 yX2_foundAt wsX2_foundAt) := goodIn_app (goodIn_of _ (by decide +kernel)) ggX0_count_X2_foundAt
set_option maxRecDepth 20000 in
theorem ggX0_count_X0_countWithLeft : GoodIn wsX0_count wsX0_countWithLeft := goodIn_r _ [30, 1, 31, 32, 33, 24, 34, 35, 21, 22, 23, 25, 26, 36, 37, 38, 6, 39, 2, 8, 9, 10, 11, 12, 13, 14, 15, 16, 17, 18, 19, 20, 40, 41, 42, 43, 49, 50, 51, 52, 53, 54, 55, 56, 57, 58, 59, 60, 61, 44, 45, 46, 47, 48] (by decide +kernel) (by decide +kernel)
set_option maxRecDepth 20000 in
theorem gX0_count_X0_countWithLeft : GoodIn wsX0_count (wsV RX0 58 RX0 yX0_countWithLeft wsX0_countWithLeft) := goodIn_app (goodIn_of _ (by decide +kernel)) ggX0_count_X0_countWithLeft
theorem dX0_count_0 : decode cX0_count 0 = .ok (.aload_n 0, 1) := by decide +kernel
theorem dX0_count_1 : decode cX0_count 1 = .ok (.iload_n 1, 1) := by decide +kernel
theorem dX0_count_2 : decode cX0_count 2 = .ok (.sipush 256, 3) := by decide +kernel
theorem dX0_count_5 : decode cX0_count 5 = .ok (.imul, 1) := by decide +kernel
theorem dX0_count_6 : decode cX0_count 6 = .ok (.invokevirtual 50, 3) := by decide +kernel
theorem dX0_count_9 : decode cX0_count 9 = .ok (.iload_n 1, 1) := by decide +kernel
theorem dX0_count_10 : decode cX0_count 10 = .ok (.iconst 1, 1) := by decide +kernel
theorem dX0_count_11 : decode cX0_count 11 = .ok (.if_icmp .ne 18, 3) := by decide +kernel
theorem dX0_count_14 : decode cX0_count 14 = .ok (.aload_n 0, 1) := by decide +kernel
theorem dX0_count_15 : decode cX0_count 15 = .ok (.iconst 0, 1) := by decide +kernel
theorem dX0_count_16 : decode cX0_count 16 = .ok (.iconst 3, 1) := by decide +kernel
theorem dX0_count_17 : decode cX0_count 17 = .ok (.bipush 17, 2) := by decide +kernel
theorem dX0_count_19 : decode cX0_count 19 = .ok (.bipush 17, 2) := by decide +kernel
theorem dX0_count_21 : decode cX0_count 21 = .ok (.sipush 256, 3) := by decide +kernel
theorem dX0_count_24 : decode cX0_count 24 = .ok (.iconst 1, 1) := by decide +kernel
theorem dX0_count_25 : decode cX0_count 25 = .ok (.invokevirtual 54, 3) := by decide +kernel
theorem dX0_count_28 : decode cX0_count 28 = .ok (.return_, 1) := by decide +kernel
theorem dX0_count_29 : decode cX0_count 29 = .ok (.iconst 0, 1) := by decide +kernel
theorem dX0_count_30 : decode cX0_count 30 = .ok (.istore_n 3, 1) := by decide +kernel
theorem dX0_count_31 : decode cX0_count 31 = .ok (.iload_n 3, 1) := by decide +kernel
theorem dX0_count_32 : decode cX0_count 32 = .ok (.iload_n 2, 1) := by decide +kernel
theorem dX0_count_33 : decode cX0_count 33 = .ok (.if_icmp .ge 66, 3) := by decide +kernel
theorem dX0_count_36 : decode cX0_count 36 = .ok (.aload_n 0, 1) := by decide +kernel
theorem dX0_count_37 : decode cX0_count 37 = .ok (.getfield 23, 3) := by decide +kernel
theorem dX0_count_40 : decode cX0_count 40 = .ok (.iload_n 3, 1) := by decide +kernel
theorem dX0_count_41 : decode cX0_count 41 = .ok (.invokevirtual 40, 3) := by decide +kernel
theorem dX0_count_44 : decode cX0_count 44 = .ok (.istore 4, 2) := by decide +kernel
theorem dX0_count_46 : decode cX0_count 46 = .ok (.aload_n 0, 1) := by decide +kernel
theorem dX0_count_47 : decode cX0_count 47 = .ok (.getfield 9, 3) := by decide +kernel
theorem dX0_count_50 : decode cX0_count 50 = .ok (.iload_n 1, 1) := by decide +kernel
theorem dX0_count_51 : decode cX0_count 51 = .ok (.iconst 1, 1) := by decide +kernel
theorem dX0_count_52 : decode cX0_count 52 = .ok (.isub, 1) := by decide +kernel
theorem dX0_count_53 : decode cX0_count 53 = .ok (.sipush 256, 3) := by decide +kernel
theorem dX0_count_56 : decode cX0_count 56 = .ok (.imul, 1) := by decide +kernel
theorem dX0_count_57 : decode cX0_count 57 = .ok (.iload 4, 2) := by decide +kernel
theorem dX0_count_59 : decode cX0_count 59 = .ok (.iadd, 1) := by decide +kernel
theorem dX0_count_60 : decode cX0_count 60 = .ok (.iaload, 1) := by decide +kernel
theorem dX0_count_61 : decode cX0_count 61 = .ok (.istore 5, 2) := by decide +kernel
theorem dX0_count_63 : decode cX0_count 63 = .ok (.iload 5, 2) := by decide +kernel
theorem dX0_count_65 : decode cX0_count 65 = .ok (.ifCond .eq 20, 3) := by decide +kernel
theorem dX0_count_68 : decode cX0_count 68 = .ok (.aload_n 0, 1) := by decide +kernel
theorem dX0_count_69 : decode cX0_count 69 = .ok (.iconst 3, 1) := by decide +kernel
theorem dX0_count_70 : decode cX0_count 70 = .ok (.iconst 5, 1) := by decide +kernel
theorem dX0_count_71 : decode cX0_count 71 = .ok (.iload 4, 2) := by decide +kernel
theorem dX0_count_73 : decode cX0_count 73 = .ok (.bipush 17, 2) := by decide +kernel
theorem dX0_count_75 : decode cX0_count 75 = .ok (.iload_n 1, 1) := by decide +kernel
theorem dX0_count_76 : decode cX0_count 76 = .ok (.sipush 256, 3) := by decide +kernel
theorem dX0_count_79 : decode cX0_count 79 = .ok (.imul, 1) := by decide +kernel
theorem dX0_count_80 : decode cX0_count 80 = .ok (.iload 5, 2) := by decide +kernel
theorem dX0_count_82 : decode cX0_count 82 = .ok (.invokevirtual 54, 3) := by decide +kernel
theorem dX0_count_85 : decode cX0_count 85 = .ok (.aload_n 0, 1) := by decide +kernel
theorem dX0_count_86 : decode cX0_count 86 = .ok (.iload 4, 2) := by decide +kernel
theorem dX0_count_88 : decode cX0_count 88 = .ok (.iload_n 1, 1) := by decide +kernel
theorem dX0_count_89 : decode cX0_count 89 = .ok (.iload_n 2, 1) := by decide +kernel
theorem dX0_count_90 : decode cX0_count 90 = .ok (.invokevirtual 58, 3) := by decide +kernel
theorem dX0_count_93 : decode cX0_count 93 = .ok (.iinc 3 1, 3) := by decide +kernel
theorem dX0_count_96 : decode cX0_count 96 = .ok (.goto (-65), 3) := by decide +kernel
theorem dX0_count_99 : decode cX0_count 99 = .ok (.return_, 1) := by decide +kernel
theorem dX0_emptyRow_0 : decode cX0_emptyRow 0 = .ok (.iconst 0, 1) := by decide +kernel
theorem dX0_emptyRow_1 : decode cX0_emptyRow 1 = .ok (.istore_n 2, 1) := by decide +kernel
theorem dX0_emptyRow_2 : decode cX0_emptyRow 2 = .ok (.iload_n 2, 1) := by decide +kernel
theorem dX0_emptyRow_3 : decode cX0_emptyRow 3 = .ok (.sipush 256, 3) := by decide +kernel
theorem dX0_emptyRow_6 : decode cX0_emptyRow 6 = .ok (.if_icmp .ge 18, 3) := by decide +kernel
theorem dX0_emptyRow_9 : decode cX0_emptyRow 9 = .ok (.aload_n 0, 1) := by decide +kernel
theorem dX0_emptyRow_10 : decode cX0_emptyRow 10 = .ok (.getfield 9, 3) := by decide +kernel
theorem dX0_emptyRow_13 : decode cX0_emptyRow 13 = .ok (.iload_n 1, 1) := by decide +kernel
theorem dX0_emptyRow_14 : decode cX0_emptyRow 14 = .ok (.iload_n 2, 1) := by decide +kernel
theorem dX0_emptyRow_15 : decode cX0_emptyRow 15 = .ok (.iadd, 1) := by decide +kernel
theorem dX0_emptyRow_16 : decode cX0_emptyRow 16 = .ok (.iconst 0, 1) := by decide +kernel
theorem dX0_emptyRow_17 : decode cX0_emptyRow 17 = .ok (.iastore, 1) := by decide +kernel
theorem dX0_emptyRow_18 : decode cX0_emptyRow 18 = .ok (.iinc 2 1, 3) := by decide +kernel
theorem dX0_emptyRow_21 : decode cX0_emptyRow 21 = .ok (.goto (-19), 3) := by decide +kernel
theorem dX0_emptyRow_24 : decode cX0_emptyRow 24 = .ok (.return_, 1) := by decide +kernel
set_option maxRecDepth 20000 in
theorem ggX0_countWithLeft_X2_sizeOf : GoodIn wsX0_countWithLeft wsX2_sizeOf := goodIn_r _ [6, 7, 36, 37, 38, 39, 40, 41, 42, 43, 44, 45, 46, 47, 48] (by decide +kernel) (by decide +kernel)
set_option maxRecDepth 20000 in
theorem gX0_countWithLeft_X2_sizeOf : GoodIn wsX0_countWithLeft (wsV RX0 62 RX2 yX2_sizeOf wsX2_sizeOf) := goodIn_app (goodIn_of _ (by decide +kernel)) ggX0_countWithLeft_X2_sizeOf
set_option maxRecDepth 20000 in
theorem ggX0_countWithLeft_X2_foundAt : GoodIn wsX0_countWithLeft wsX2_foundAt := goodIn_r _ [11, 12, 36, 37, 38, 39, 40, 41, 42, 43, 44, 45, 46, 47, 48] (by decide +kernel) (by decide +kernel)
set_option maxRecDepth 20000 in
theorem gX0_countWithLeft_X2_foundAt : GoodIn wsX0_countWithLeft (wsV RX0 40 RX2 yX2_foundAt wsX2_foundAt) := goodIn_app (goodIn_of _ (by decide +kernel)) ggX0_countWithLeft_X2_foundAt
set_option maxRecDepth 20000 in
theorem ggX0_countWithLeft_X0_couples : GoodIn wsX0_countWithLeft wsX0_couples := goodIn_r _ [17, 1, 18, 2, 3, 4, 5, 6, 7, 32, 33, 34, 35, 36, 37, 38, 39, 40, 41, 42, 43, 44, 45, 46, 47, 48] (by decide +kernel) (by decide +kernel)
set_option maxRecDepth 20000 in
theorem gX0_countWithLeft_X0_couples : GoodIn wsX0_countWithLeft (wsV RX0 65 RX0 yX0_couples wsX0_couples) := goodIn_app (goodIn_of _ (by decide +kernel)) ggX0_countWithLeft_X0_couples
set_option maxRecDepth 20000 in
theorem ggX0_countWithLeft_X0_addTerms : GoodIn wsX0_countWithLeft wsX0_addTerms := goodIn_r _ [22, 18, 23, 24, 25, 26, 27, 28, 29, 30, 31, 32, 33, 34, 35, 49, 50, 51, 52, 53] (by decide +kernel) (by decide +kernel)
set_option maxRecDepth 20000 in
theorem gX0_countWithLeft_X0_addTerms : GoodIn wsX0_countWithLeft (wsV RX0 54 RX0 yX0_addTerms wsX0_addTerms) := goodIn_app (goodIn_of _ (by decide +kernel)) ggX0_countWithLeft_X0_addTerms
theorem dX0_countWithLeft_0 : decode cX0_countWithLeft 0 = .ok (.iload_n 2, 1) := by decide +kernel
theorem dX0_countWithLeft_1 : decode cX0_countWithLeft 1 = .ok (.iconst 1, 1) := by decide +kernel
theorem dX0_countWithLeft_2 : decode cX0_countWithLeft 2 = .ok (.isub, 1) := by decide +kernel
theorem dX0_countWithLeft_3 : decode cX0_countWithLeft 3 = .ok (.aload_n 0, 1) := by decide +kernel
theorem dX0_countWithLeft_4 : decode cX0_countWithLeft 4 = .ok (.getfield 23, 3) := by decide +kernel
theorem dX0_countWithLeft_7 : decode cX0_countWithLeft 7 = .ok (.iload_n 1, 1) := by decide +kernel
theorem dX0_countWithLeft_8 : decode cX0_countWithLeft 8 = .ok (.invokevirtual 62, 3) := by decide +kernel
theorem dX0_countWithLeft_11 : decode cX0_countWithLeft 11 = .ok (.isub, 1) := by decide +kernel
theorem dX0_countWithLeft_12 : decode cX0_countWithLeft 12 = .ok (.istore 4, 2) := by decide +kernel
theorem dX0_countWithLeft_14 : decode cX0_countWithLeft 14 = .ok (.iconst 0, 1) := by decide +kernel
theorem dX0_countWithLeft_15 : decode cX0_countWithLeft 15 = .ok (.istore 5, 2) := by decide +kernel
theorem dX0_countWithLeft_17 : decode cX0_countWithLeft 17 = .ok (.iload 5, 2) := by decide +kernel
theorem dX0_countWithLeft_19 : decode cX0_countWithLeft 19 = .ok (.iload_n 3, 1) := by decide +kernel
theorem dX0_countWithLeft_20 : decode cX0_countWithLeft 20 = .ok (.if_icmp .ge 69, 3) := by decide +kernel
theorem dX0_countWithLeft_23 : decode cX0_countWithLeft 23 = .ok (.aload_n 0, 1) := by decide +kernel
theorem dX0_countWithLeft_24 : decode cX0_countWithLeft 24 = .ok (.getfield 23, 3) := by decide +kernel
theorem dX0_countWithLeft_27 : decode cX0_countWithLeft 27 = .ok (.iload 5, 2) := by decide +kernel
theorem dX0_countWithLeft_29 : decode cX0_countWithLeft 29 = .ok (.invokevirtual 40, 3) := by decide +kernel
theorem dX0_countWithLeft_32 : decode cX0_countWithLeft 32 = .ok (.istore 6, 2) := by decide +kernel
theorem dX0_countWithLeft_34 : decode cX0_countWithLeft 34 = .ok (.aload_n 0, 1) := by decide +kernel
theorem dX0_countWithLeft_35 : decode cX0_countWithLeft 35 = .ok (.getfield 23, 3) := by decide +kernel
theorem dX0_countWithLeft_38 : decode cX0_countWithLeft 38 = .ok (.iload 6, 2) := by decide +kernel
theorem dX0_countWithLeft_40 : decode cX0_countWithLeft 40 = .ok (.invokevirtual 62, 3) := by decide +kernel
theorem dX0_countWithLeft_43 : decode cX0_countWithLeft 43 = .ok (.iload 4, 2) := by decide +kernel
theorem dX0_countWithLeft_45 : decode cX0_countWithLeft 45 = .ok (.if_icmp .le 4, 3) := by decide +kernel
theorem dX0_countWithLeft_48 : decode cX0_countWithLeft 48 = .ok (.return_, 1) := by decide +kernel
theorem dX0_countWithLeft_49 : decode cX0_countWithLeft 49 = .ok (.aload_n 0, 1) := by decide +kernel
theorem dX0_countWithLeft_50 : decode cX0_countWithLeft 50 = .ok (.iload_n 1, 1) := by decide +kernel
theorem dX0_countWithLeft_51 : decode cX0_countWithLeft 51 = .ok (.iload 6, 2) := by decide +kernel
theorem dX0_countWithLeft_53 : decode cX0_countWithLeft 53 = .ok (.iload_n 2, 1) := by decide +kernel
theorem dX0_countWithLeft_54 : decode cX0_countWithLeft 54 = .ok (.iconst 1, 1) := by decide +kernel
theorem dX0_countWithLeft_55 : decode cX0_countWithLeft 55 = .ok (.isub, 1) := by decide +kernel
theorem dX0_countWithLeft_56 : decode cX0_countWithLeft 56 = .ok (.invokevirtual 65, 3) := by decide +kernel
theorem dX0_countWithLeft_59 : decode cX0_countWithLeft 59 = .ok (.istore 7, 2) := by decide +kernel
theorem dX0_countWithLeft_61 : decode cX0_countWithLeft 61 = .ok (.iload 7, 2) := by decide +kernel
theorem dX0_countWithLeft_63 : decode cX0_countWithLeft 63 = .ok (.ifCond .eq 20, 3) := by decide +kernel
theorem dX0_countWithLeft_66 : decode cX0_countWithLeft 66 = .ok (.aload_n 0, 1) := by decide +kernel
theorem dX0_countWithLeft_67 : decode cX0_countWithLeft 67 = .ok (.iconst 5, 1) := by decide +kernel
theorem dX0_countWithLeft_68 : decode cX0_countWithLeft 68 = .ok (.bipush 8, 2) := by decide +kernel
theorem dX0_countWithLeft_70 : decode cX0_countWithLeft 70 = .ok (.iload_n 1, 1) := by decide +kernel
theorem dX0_countWithLeft_71 : decode cX0_countWithLeft 71 = .ok (.iload 6, 2) := by decide +kernel
theorem dX0_countWithLeft_73 : decode cX0_countWithLeft 73 = .ok (.iload_n 2, 1) := by decide +kernel
theorem dX0_countWithLeft_74 : decode cX0_countWithLeft 74 = .ok (.sipush 256, 3) := by decide +kernel
theorem dX0_countWithLeft_77 : decode cX0_countWithLeft 77 = .ok (.imul, 1) := by decide +kernel
theorem dX0_countWithLeft_78 : decode cX0_countWithLeft 78 = .ok (.iload 7, 2) := by decide +kernel
theorem dX0_countWithLeft_80 : decode cX0_countWithLeft 80 = .ok (.invokevirtual 54, 3) := by decide +kernel
theorem dX0_countWithLeft_83 : decode cX0_countWithLeft 83 = .ok (.iinc 5 1, 3) := by decide +kernel
theorem dX0_countWithLeft_86 : decode cX0_countWithLeft 86 = .ok (.goto (-69), 3) := by decide +kernel
theorem dX0_countWithLeft_89 : decode cX0_countWithLeft 89 = .ok (.return_, 1) := by decide +kernel
set_option maxRecDepth 20000 in
theorem ggX0_couples_X2_sizeOf : GoodIn wsX0_couples wsX2_sizeOf := goodIn_r _ [7, 8, 13, 14, 15, 16, 17, 18, 19, 20, 21, 22, 23, 24, 25] (by decide +kernel) (by decide +kernel)
set_option maxRecDepth 20000 in
theorem gX0_couples_X2_sizeOf : GoodIn wsX0_couples (wsV RX0 62 RX2 yX2_sizeOf wsX2_sizeOf) := goodIn_app (goodIn_of _ (by decide +kernel)) ggX0_couples_X2_sizeOf
theorem dX0_couples_0 : decode cX0_couples 0 = .ok (.iconst 0, 1) := by decide +kernel
theorem dX0_couples_1 : decode cX0_couples 1 = .ok (.istore 4, 2) := by decide +kernel
theorem dX0_couples_3 : decode cX0_couples 3 = .ok (.iload_n 3, 1) := by decide +kernel
theorem dX0_couples_4 : decode cX0_couples 4 = .ok (.aload_n 0, 1) := by decide +kernel
theorem dX0_couples_5 : decode cX0_couples 5 = .ok (.getfield 23, 3) := by decide +kernel
theorem dX0_couples_8 : decode cX0_couples 8 = .ok (.iload_n 2, 1) := by decide +kernel
theorem dX0_couples_9 : decode cX0_couples 9 = .ok (.invokevirtual 62, 3) := by decide +kernel
theorem dX0_couples_12 : decode cX0_couples 12 = .ok (.isub, 1) := by decide +kernel
theorem dX0_couples_13 : decode cX0_couples 13 = .ok (.istore 5, 2) := by decide +kernel
theorem dX0_couples_15 : decode cX0_couples 15 = .ok (.aload_n 0, 1) := by decide +kernel
theorem dX0_couples_16 : decode cX0_couples 16 = .ok (.getfield 23, 3) := by decide +kernel
theorem dX0_couples_19 : decode cX0_couples 19 = .ok (.iload_n 1, 1) := by decide +kernel
theorem dX0_couples_20 : decode cX0_couples 20 = .ok (.invokevirtual 62, 3) := by decide +kernel
theorem dX0_couples_23 : decode cX0_couples 23 = .ok (.istore 6, 2) := by decide +kernel
theorem dX0_couples_25 : decode cX0_couples 25 = .ok (.iload 6, 2) := by decide +kernel
theorem dX0_couples_27 : decode cX0_couples 27 = .ok (.iload 5, 2) := by decide +kernel
theorem dX0_couples_29 : decode cX0_couples 29 = .ok (.if_icmp .gt 43, 3) := by decide +kernel
theorem dX0_couples_32 : decode cX0_couples 32 = .ok (.iload 4, 2) := by decide +kernel
theorem dX0_couples_34 : decode cX0_couples 34 = .ok (.aload_n 0, 1) := by decide +kernel
theorem dX0_couples_35 : decode cX0_couples 35 = .ok (.getfield 9, 3) := by decide +kernel
theorem dX0_couples_38 : decode cX0_couples 38 = .ok (.iload 6, 2) := by decide +kernel
theorem dX0_couples_40 : decode cX0_couples 40 = .ok (.sipush 256, 3) := by decide +kernel
theorem dX0_couples_43 : decode cX0_couples 43 = .ok (.imul, 1) := by decide +kernel
theorem dX0_couples_44 : decode cX0_couples 44 = .ok (.iload_n 1, 1) := by decide +kernel
theorem dX0_couples_45 : decode cX0_couples 45 = .ok (.iadd, 1) := by decide +kernel
theorem dX0_couples_46 : decode cX0_couples 46 = .ok (.iaload, 1) := by decide +kernel
theorem dX0_couples_47 : decode cX0_couples 47 = .ok (.aload_n 0, 1) := by decide +kernel
theorem dX0_couples_48 : decode cX0_couples 48 = .ok (.getfield 9, 3) := by decide +kernel
theorem dX0_couples_51 : decode cX0_couples 51 = .ok (.iload_n 3, 1) := by decide +kernel
theorem dX0_couples_52 : decode cX0_couples 52 = .ok (.iload 6, 2) := by decide +kernel
theorem dX0_couples_54 : decode cX0_couples 54 = .ok (.isub, 1) := by decide +kernel
theorem dX0_couples_55 : decode cX0_couples 55 = .ok (.sipush 256, 3) := by decide +kernel
theorem dX0_couples_58 : decode cX0_couples 58 = .ok (.imul, 1) := by decide +kernel
theorem dX0_couples_59 : decode cX0_couples 59 = .ok (.iload_n 2, 1) := by decide +kernel
theorem dX0_couples_60 : decode cX0_couples 60 = .ok (.iadd, 1) := by decide +kernel
theorem dX0_couples_61 : decode cX0_couples 61 = .ok (.iaload, 1) := by decide +kernel
theorem dX0_couples_62 : decode cX0_couples 62 = .ok (.imul, 1) := by decide +kernel
theorem dX0_couples_63 : decode cX0_couples 63 = .ok (.iadd, 1) := by decide +kernel
theorem dX0_couples_64 : decode cX0_couples 64 = .ok (.istore 4, 2) := by decide +kernel
theorem dX0_couples_66 : decode cX0_couples 66 = .ok (.iinc 6 1, 3) := by decide +kernel
theorem dX0_couples_69 : decode cX0_couples 69 = .ok (.goto (-44), 3) := by decide +kernel
theorem dX0_couples_72 : decode cX0_couples 72 = .ok (.iload 4, 2) := by decide +kernel
theorem dX0_couples_74 : decode cX0_couples 74 = .ok (.ireturn, 1) := by decide +kernel
set_option maxRecDepth 20000 in
theorem ggX0_addTerms_X4_profileOf : GoodIn wsX0_addTerms wsX4_profileOf := goodIn_r _ [7, 8, 9, 10, 15, 16, 17, 18, 19] (by decide +kernel) (by decide +kernel)
set_option maxRecDepth 20000 in
theorem gX0_addTerms_X4_profileOf : GoodIn wsX0_addTerms (wsV RX0 69 RX4 yX4_profileOf wsX4_profileOf) := goodIn_app (goodIn_of _ (by decide +kernel)) ggX0_addTerms_X4_profileOf
theorem dX0_addTerms_0 : decode cX0_addTerms 0 = .ok (.iload_n 1, 1) := by decide +kernel
theorem dX0_addTerms_1 : decode cX0_addTerms 1 = .ok (.istore 7, 2) := by decide +kernel
theorem dX0_addTerms_3 : decode cX0_addTerms 3 = .ok (.iload 7, 2) := by decide +kernel
theorem dX0_addTerms_5 : decode cX0_addTerms 5 = .ok (.iload_n 2, 1) := by decide +kernel
theorem dX0_addTerms_6 : decode cX0_addTerms 6 = .ok (.if_icmp .ge 34, 3) := by decide +kernel
theorem dX0_addTerms_9 : decode cX0_addTerms 9 = .ok (.aload_n 0, 1) := by decide +kernel
theorem dX0_addTerms_10 : decode cX0_addTerms 10 = .ok (.getfield 9, 3) := by decide +kernel
theorem dX0_addTerms_13 : decode cX0_addTerms 13 = .ok (.iload 5, 2) := by decide +kernel
theorem dX0_addTerms_15 : decode cX0_addTerms 15 = .ok (.aload_n 0, 1) := by decide +kernel
theorem dX0_addTerms_16 : decode cX0_addTerms 16 = .ok (.getfield 19, 3) := by decide +kernel
theorem dX0_addTerms_19 : decode cX0_addTerms 19 = .ok (.iload 7, 2) := by decide +kernel
theorem dX0_addTerms_21 : decode cX0_addTerms 21 = .ok (.iload_n 3, 1) := by decide +kernel
theorem dX0_addTerms_22 : decode cX0_addTerms 22 = .ok (.iload 4, 2) := by decide +kernel
theorem dX0_addTerms_24 : decode cX0_addTerms 24 = .ok (.invokevirtual 69, 3) := by decide +kernel
theorem dX0_addTerms_27 : decode cX0_addTerms 27 = .ok (.iadd, 1) := by decide +kernel
theorem dX0_addTerms_28 : decode cX0_addTerms 28 = .ok (.dup2, 1) := by decide +kernel
theorem dX0_addTerms_29 : decode cX0_addTerms 29 = .ok (.iaload, 1) := by decide +kernel
theorem dX0_addTerms_30 : decode cX0_addTerms 30 = .ok (.iload 6, 2) := by decide +kernel
theorem dX0_addTerms_32 : decode cX0_addTerms 32 = .ok (.iadd, 1) := by decide +kernel
theorem dX0_addTerms_33 : decode cX0_addTerms 33 = .ok (.iastore, 1) := by decide +kernel
theorem dX0_addTerms_34 : decode cX0_addTerms 34 = .ok (.iinc 7 1, 3) := by decide +kernel
theorem dX0_addTerms_37 : decode cX0_addTerms 37 = .ok (.goto (-34), 3) := by decide +kernel
theorem dX0_addTerms_40 : decode cX0_addTerms 40 = .ok (.return_, 1) := by decide +kernel
theorem dX1_init_0 : decode cX1_init 0 = .ok (.aload_n 0, 1) := by decide +kernel
theorem dX1_init_1 : decode cX1_init 1 = .ok (.invokespecial 3, 3) := by decide +kernel
theorem dX1_init_4 : decode cX1_init 4 = .ok (.aload_n 0, 1) := by decide +kernel
theorem dX1_init_5 : decode cX1_init 5 = .ok (.sipush 200, 3) := by decide +kernel
theorem dX1_init_8 : decode cX1_init 8 = .ok (.newarray .int, 2) := by decide +kernel
theorem dX1_init_10 : decode cX1_init 10 = .ok (.putfield 9, 3) := by decide +kernel
theorem dX1_init_13 : decode cX1_init 13 = .ok (.aload_n 0, 1) := by decide +kernel
theorem dX1_init_14 : decode cX1_init 14 = .ok (.sipush 200, 3) := by decide +kernel
theorem dX1_init_17 : decode cX1_init 17 = .ok (.newarray .int, 2) := by decide +kernel
theorem dX1_init_19 : decode cX1_init 19 = .ok (.putfield 15, 3) := by decide +kernel
theorem dX1_init_22 : decode cX1_init 22 = .ok (.aload_n 0, 1) := by decide +kernel
theorem dX1_init_23 : decode cX1_init 23 = .ok (.sipush 200, 3) := by decide +kernel
theorem dX1_init_26 : decode cX1_init 26 = .ok (.newarray .int, 2) := by decide +kernel
theorem dX1_init_28 : decode cX1_init 28 = .ok (.putfield 18, 3) := by decide +kernel
theorem dX1_init_31 : decode cX1_init 31 = .ok (.aload_n 0, 1) := by decide +kernel
theorem dX1_init_32 : decode cX1_init 32 = .ok (.sipush 200, 3) := by decide +kernel
theorem dX1_init_35 : decode cX1_init 35 = .ok (.newarray .int, 2) := by decide +kernel
theorem dX1_init_37 : decode cX1_init 37 = .ok (.putfield 21, 3) := by decide +kernel
theorem dX1_init_40 : decode cX1_init 40 = .ok (.aload_n 0, 1) := by decide +kernel
theorem dX1_init_41 : decode cX1_init 41 = .ok (.sipush 200, 3) := by decide +kernel
theorem dX1_init_44 : decode cX1_init 44 = .ok (.newarray .int, 2) := by decide +kernel
theorem dX1_init_46 : decode cX1_init 46 = .ok (.putfield 24, 3) := by decide +kernel
theorem dX1_init_49 : decode cX1_init 49 = .ok (.aload_n 0, 1) := by decide +kernel
theorem dX1_init_50 : decode cX1_init 50 = .ok (.bipush 32, 2) := by decide +kernel
theorem dX1_init_52 : decode cX1_init 52 = .ok (.newarray .int, 2) := by decide +kernel
theorem dX1_init_54 : decode cX1_init 54 = .ok (.putfield 27, 3) := by decide +kernel
theorem dX1_init_57 : decode cX1_init 57 = .ok (.aload_n 0, 1) := by decide +kernel
theorem dX1_init_58 : decode cX1_init 58 = .ok (.iconst 0, 1) := by decide +kernel
theorem dX1_init_59 : decode cX1_init 59 = .ok (.putfield 30, 3) := by decide +kernel
theorem dX1_init_62 : decode cX1_init 62 = .ok (.return_, 1) := by decide +kernel
theorem dX1_holds_0 : decode cX1_holds 0 = .ok (.iload_n 1, 1) := by decide +kernel
theorem dX1_holds_1 : decode cX1_holds 1 = .ok (.ifCond .lt 15, 3) := by decide +kernel
theorem dX1_holds_4 : decode cX1_holds 4 = .ok (.iload_n 1, 1) := by decide +kernel
theorem dX1_holds_5 : decode cX1_holds 5 = .ok (.aload_n 0, 1) := by decide +kernel
theorem dX1_holds_6 : decode cX1_holds 6 = .ok (.getfield 30, 3) := by decide +kernel
theorem dX1_holds_9 : decode cX1_holds 9 = .ok (.if_icmp .ge 7, 3) := by decide +kernel
theorem dX1_holds_12 : decode cX1_holds 12 = .ok (.iconst 1, 1) := by decide +kernel
theorem dX1_holds_13 : decode cX1_holds 13 = .ok (.goto 4, 3) := by decide +kernel
theorem dX1_holds_16 : decode cX1_holds 16 = .ok (.iconst 0, 1) := by decide +kernel
theorem dX1_holds_17 : decode cX1_holds 17 = .ok (.ireturn, 1) := by decide +kernel
theorem dX1_count_0 : decode cX1_count 0 = .ok (.aload_n 0, 1) := by decide +kernel
theorem dX1_count_1 : decode cX1_count 1 = .ok (.getfield 30, 3) := by decide +kernel
theorem dX1_count_4 : decode cX1_count 4 = .ok (.ireturn, 1) := by decide +kernel
theorem dX1_room_0 : decode cX1_room 0 = .ok (.sipush 200, 3) := by decide +kernel
theorem dX1_room_3 : decode cX1_room 3 = .ok (.aload_n 0, 1) := by decide +kernel
theorem dX1_room_4 : decode cX1_room 4 = .ok (.getfield 30, 3) := by decide +kernel
theorem dX1_room_7 : decode cX1_room 7 = .ok (.isub, 1) := by decide +kernel
theorem dX1_room_8 : decode cX1_room 8 = .ok (.ireturn, 1) := by decide +kernel
theorem dX1_symbolOf_0 : decode cX1_symbolOf 0 = .ok (.aload_n 0, 1) := by decide +kernel
theorem dX1_symbolOf_1 : decode cX1_symbolOf 1 = .ok (.getfield 9, 3) := by decide +kernel
theorem dX1_symbolOf_4 : decode cX1_symbolOf 4 = .ok (.iload_n 1, 1) := by decide +kernel
theorem dX1_symbolOf_5 : decode cX1_symbolOf 5 = .ok (.iaload, 1) := by decide +kernel
theorem dX1_symbolOf_6 : decode cX1_symbolOf 6 = .ok (.ireturn, 1) := by decide +kernel
theorem dX1_leftOf_0 : decode cX1_leftOf 0 = .ok (.aload_n 0, 1) := by decide +kernel
theorem dX1_leftOf_1 : decode cX1_leftOf 1 = .ok (.getfield 15, 3) := by decide +kernel
theorem dX1_leftOf_4 : decode cX1_leftOf 4 = .ok (.iload_n 1, 1) := by decide +kernel
theorem dX1_leftOf_5 : decode cX1_leftOf 5 = .ok (.iaload, 1) := by decide +kernel
theorem dX1_leftOf_6 : decode cX1_leftOf 6 = .ok (.ireturn, 1) := by decide +kernel
theorem dX1_rightOf_0 : decode cX1_rightOf 0 = .ok (.aload_n 0, 1) := by decide +kernel
theorem dX1_rightOf_1 : decode cX1_rightOf 1 = .ok (.getfield 18, 3) := by decide +kernel
theorem dX1_rightOf_4 : decode cX1_rightOf 4 = .ok (.iload_n 1, 1) := by decide +kernel
theorem dX1_rightOf_5 : decode cX1_rightOf 5 = .ok (.iaload, 1) := by decide +kernel
theorem dX1_rightOf_6 : decode cX1_rightOf 6 = .ok (.ireturn, 1) := by decide +kernel
theorem dX1_sizeOf_0 : decode cX1_sizeOf 0 = .ok (.aload_n 0, 1) := by decide +kernel
theorem dX1_sizeOf_1 : decode cX1_sizeOf 1 = .ok (.getfield 21, 3) := by decide +kernel
theorem dX1_sizeOf_4 : decode cX1_sizeOf 4 = .ok (.iload_n 1, 1) := by decide +kernel
theorem dX1_sizeOf_5 : decode cX1_sizeOf 5 = .ok (.iaload, 1) := by decide +kernel
theorem dX1_sizeOf_6 : decode cX1_sizeOf 6 = .ok (.ireturn, 1) := by decide +kernel
set_option maxRecDepth 20000 in
theorem ggX1_add_X5_hasLeft : GoodIn wsX1_add wsX5_hasLeft := goodIn_r _ [12] (by decide +kernel) (by decide +kernel)
set_option maxRecDepth 20000 in
theorem gX1_add_X5_hasLeft_n34 : GoodIn wsX1_add (wsX5_hasLeft) := ggX1_add_X5_hasLeft
set_option maxRecDepth 20000 in
theorem ggX1_add_X5_hasRight : GoodIn wsX1_add wsX5_hasRight := goodIn_r _ [14] (by decide +kernel) (by decide +kernel)
set_option maxRecDepth 20000 in
theorem gX1_add_X5_hasRight_n38 : GoodIn wsX1_add (wsX5_hasRight) := ggX1_add_X5_hasRight
set_option maxRecDepth 20000 in
theorem ggX1_add_X1_sizeOrZero : GoodIn wsX1_add wsX1_sizeOrZero := goodIn_r _ [19, 5, 20, 21, 22, 23, 24, 25, 26] (by decide +kernel) (by decide +kernel)
set_option maxRecDepth 20000 in
theorem gX1_add_X1_sizeOrZero : GoodIn wsX1_add (wsV RX1 41 RX1 yX1_sizeOrZero wsX1_sizeOrZero) := goodIn_app (goodIn_of _ (by decide +kernel)) ggX1_add_X1_sizeOrZero
theorem dX1_add_0 : decode cX1_add 0 = .ok (.aload_n 0, 1) := by decide +kernel
theorem dX1_add_1 : decode cX1_add 1 = .ok (.getfield 30, 3) := by decide +kernel
theorem dX1_add_4 : decode cX1_add 4 = .ok (.istore 4, 2) := by decide +kernel
theorem dX1_add_6 : decode cX1_add 6 = .ok (.aload_n 0, 1) := by decide +kernel
theorem dX1_add_7 : decode cX1_add 7 = .ok (.getfield 9, 3) := by decide +kernel
theorem dX1_add_10 : decode cX1_add 10 = .ok (.iload 4, 2) := by decide +kernel
theorem dX1_add_12 : decode cX1_add 12 = .ok (.iload_n 1, 1) := by decide +kernel
theorem dX1_add_13 : decode cX1_add 13 = .ok (.iastore, 1) := by decide +kernel
theorem dX1_add_14 : decode cX1_add 14 = .ok (.aload_n 0, 1) := by decide +kernel
theorem dX1_add_15 : decode cX1_add 15 = .ok (.getfield 15, 3) := by decide +kernel
theorem dX1_add_18 : decode cX1_add 18 = .ok (.iload 4, 2) := by decide +kernel
theorem dX1_add_20 : decode cX1_add 20 = .ok (.iload_n 1, 1) := by decide +kernel
theorem dX1_add_21 : decode cX1_add 21 = .ok (.invokestatic 34, 3) := by decide +kernel
theorem dX1_add_24 : decode cX1_add 24 = .ok (.ifCond .eq 7, 3) := by decide +kernel
theorem dX1_add_27 : decode cX1_add 27 = .ok (.iload_n 2, 1) := by decide +kernel
theorem dX1_add_28 : decode cX1_add 28 = .ok (.goto 4, 3) := by decide +kernel
theorem dX1_add_31 : decode cX1_add 31 = .ok (.iconst (-1), 1) := by decide +kernel
theorem dX1_add_32 : decode cX1_add 32 = .ok (.iastore, 1) := by decide +kernel
theorem dX1_add_33 : decode cX1_add 33 = .ok (.aload_n 0, 1) := by decide +kernel
theorem dX1_add_34 : decode cX1_add 34 = .ok (.getfield 18, 3) := by decide +kernel
theorem dX1_add_37 : decode cX1_add 37 = .ok (.iload 4, 2) := by decide +kernel
theorem dX1_add_39 : decode cX1_add 39 = .ok (.iload_n 1, 1) := by decide +kernel
theorem dX1_add_40 : decode cX1_add 40 = .ok (.invokestatic 38, 3) := by decide +kernel
theorem dX1_add_43 : decode cX1_add 43 = .ok (.ifCond .eq 7, 3) := by decide +kernel
theorem dX1_add_46 : decode cX1_add 46 = .ok (.iload_n 3, 1) := by decide +kernel
theorem dX1_add_47 : decode cX1_add 47 = .ok (.goto 4, 3) := by decide +kernel
theorem dX1_add_50 : decode cX1_add 50 = .ok (.iconst (-1), 1) := by decide +kernel
theorem dX1_add_51 : decode cX1_add 51 = .ok (.iastore, 1) := by decide +kernel
theorem dX1_add_52 : decode cX1_add 52 = .ok (.aload_n 0, 1) := by decide +kernel
theorem dX1_add_53 : decode cX1_add 53 = .ok (.getfield 21, 3) := by decide +kernel
theorem dX1_add_56 : decode cX1_add 56 = .ok (.iload 4, 2) := by decide +kernel
theorem dX1_add_58 : decode cX1_add 58 = .ok (.sipush 1000, 3) := by decide +kernel
theorem dX1_add_61 : decode cX1_add 61 = .ok (.iconst 1, 1) := by decide +kernel
theorem dX1_add_62 : decode cX1_add 62 = .ok (.aload_n 0, 1) := by decide +kernel
theorem dX1_add_63 : decode cX1_add 63 = .ok (.aload_n 0, 1) := by decide +kernel
theorem dX1_add_64 : decode cX1_add 64 = .ok (.getfield 15, 3) := by decide +kernel
theorem dX1_add_67 : decode cX1_add 67 = .ok (.iload 4, 2) := by decide +kernel
theorem dX1_add_69 : decode cX1_add 69 = .ok (.iaload, 1) := by decide +kernel
theorem dX1_add_70 : decode cX1_add 70 = .ok (.invokevirtual 41, 3) := by decide +kernel
theorem dX1_add_73 : decode cX1_add 73 = .ok (.iadd, 1) := by decide +kernel
theorem dX1_add_74 : decode cX1_add 74 = .ok (.aload_n 0, 1) := by decide +kernel
theorem dX1_add_75 : decode cX1_add 75 = .ok (.aload_n 0, 1) := by decide +kernel
theorem dX1_add_76 : decode cX1_add 76 = .ok (.getfield 18, 3) := by decide +kernel
theorem dX1_add_79 : decode cX1_add 79 = .ok (.iload 4, 2) := by decide +kernel
theorem dX1_add_81 : decode cX1_add 81 = .ok (.iaload, 1) := by decide +kernel
theorem dX1_add_82 : decode cX1_add 82 = .ok (.invokevirtual 41, 3) := by decide +kernel
theorem dX1_add_85 : decode cX1_add 85 = .ok (.iadd, 1) := by decide +kernel
theorem dX1_add_86 : decode cX1_add 86 = .ok (.invokestatic 45, 3) := by decide +kernel
theorem dX1_add_89 : decode cX1_add 89 = .ok (.iastore, 1) := by decide +kernel
theorem dX1_add_90 : decode cX1_add 90 = .ok (.aload_n 0, 1) := by decide +kernel
theorem dX1_add_91 : decode cX1_add 91 = .ok (.dup, 1) := by decide +kernel
theorem dX1_add_92 : decode cX1_add 92 = .ok (.getfield 30, 3) := by decide +kernel
theorem dX1_add_95 : decode cX1_add 95 = .ok (.iconst 1, 1) := by decide +kernel
theorem dX1_add_96 : decode cX1_add 96 = .ok (.iadd, 1) := by decide +kernel
theorem dX1_add_97 : decode cX1_add 97 = .ok (.putfield 30, 3) := by decide +kernel
theorem dX1_add_100 : decode cX1_add 100 = .ok (.iload 4, 2) := by decide +kernel
theorem dX1_add_102 : decode cX1_add 102 = .ok (.ireturn, 1) := by decide +kernel
theorem dX1_sizeOrZero_0 : decode cX1_sizeOrZero 0 = .ok (.iload_n 1, 1) := by decide +kernel
theorem dX1_sizeOrZero_1 : decode cX1_sizeOrZero 1 = .ok (.iconst (-1), 1) := by decide +kernel
theorem dX1_sizeOrZero_2 : decode cX1_sizeOrZero 2 = .ok (.if_icmp .ne 7, 3) := by decide +kernel
theorem dX1_sizeOrZero_5 : decode cX1_sizeOrZero 5 = .ok (.iconst 0, 1) := by decide +kernel
theorem dX1_sizeOrZero_6 : decode cX1_sizeOrZero 6 = .ok (.goto 9, 3) := by decide +kernel
theorem dX1_sizeOrZero_9 : decode cX1_sizeOrZero 9 = .ok (.aload_n 0, 1) := by decide +kernel
theorem dX1_sizeOrZero_10 : decode cX1_sizeOrZero 10 = .ok (.getfield 21, 3) := by decide +kernel
theorem dX1_sizeOrZero_13 : decode cX1_sizeOrZero 13 = .ok (.iload_n 1, 1) := by decide +kernel
theorem dX1_sizeOrZero_14 : decode cX1_sizeOrZero 14 = .ok (.iaload, 1) := by decide +kernel
theorem dX1_sizeOrZero_15 : decode cX1_sizeOrZero 15 = .ok (.ireturn, 1) := by decide +kernel
set_option maxRecDepth 20000 in
theorem ggX1_profileOf_X1_childProfile : GoodIn wsX1_profileOf wsX1_childProfile := goodIn_r _ [9, 1, 18, 19, 20, 21, 22, 23, 24] (by decide +kernel) (by decide +kernel)
set_option maxRecDepth 20000 in
theorem gX1_profileOf_X1_childProfile : GoodIn wsX1_profileOf (wsV RX1 51 RX1 yX1_childProfile wsX1_childProfile) := goodIn_app (goodIn_of _ (by decide +kernel)) ggX1_profileOf_X1_childProfile
set_option maxRecDepth 20000 in
theorem ggX1_profileOf_X4_profileOf : GoodIn wsX1_profileOf wsX4_profileOf := goodIn_r _ [14, 15, 16, 17, 25, 26, 27, 28, 29] (by decide +kernel) (by decide +kernel)
set_option maxRecDepth 20000 in
theorem gX1_profileOf_X4_profileOf : GoodIn wsX1_profileOf (wsV RX1 54 RX4 yX4_profileOf wsX4_profileOf) := goodIn_app (goodIn_of _ (by decide +kernel)) ggX1_profileOf_X4_profileOf
theorem dX1_profileOf_0 : decode cX1_profileOf 0 = .ok (.iconst 0, 1) := by decide +kernel
theorem dX1_profileOf_1 : decode cX1_profileOf 1 = .ok (.istore_n 3, 1) := by decide +kernel
theorem dX1_profileOf_2 : decode cX1_profileOf 2 = .ok (.iload_n 3, 1) := by decide +kernel
theorem dX1_profileOf_3 : decode cX1_profileOf 3 = .ok (.iload_n 1, 1) := by decide +kernel
theorem dX1_profileOf_4 : decode cX1_profileOf 4 = .ok (.if_icmp .gt 45, 3) := by decide +kernel
theorem dX1_profileOf_7 : decode cX1_profileOf 7 = .ok (.aload_n 0, 1) := by decide +kernel
theorem dX1_profileOf_8 : decode cX1_profileOf 8 = .ok (.getfield 24, 3) := by decide +kernel
theorem dX1_profileOf_11 : decode cX1_profileOf 11 = .ok (.iload_n 3, 1) := by decide +kernel
theorem dX1_profileOf_12 : decode cX1_profileOf 12 = .ok (.aload_n 2, 1) := by decide +kernel
theorem dX1_profileOf_13 : decode cX1_profileOf 13 = .ok (.aload_n 0, 1) := by decide +kernel
theorem dX1_profileOf_14 : decode cX1_profileOf 14 = .ok (.getfield 9, 3) := by decide +kernel
theorem dX1_profileOf_17 : decode cX1_profileOf 17 = .ok (.iload_n 3, 1) := by decide +kernel
theorem dX1_profileOf_18 : decode cX1_profileOf 18 = .ok (.iaload, 1) := by decide +kernel
theorem dX1_profileOf_19 : decode cX1_profileOf 19 = .ok (.aload_n 0, 1) := by decide +kernel
theorem dX1_profileOf_20 : decode cX1_profileOf 20 = .ok (.aload_n 0, 1) := by decide +kernel
theorem dX1_profileOf_21 : decode cX1_profileOf 21 = .ok (.getfield 15, 3) := by decide +kernel
theorem dX1_profileOf_24 : decode cX1_profileOf 24 = .ok (.iload_n 3, 1) := by decide +kernel
theorem dX1_profileOf_25 : decode cX1_profileOf 25 = .ok (.iaload, 1) := by decide +kernel
theorem dX1_profileOf_26 : decode cX1_profileOf 26 = .ok (.invokevirtual 51, 3) := by decide +kernel
theorem dX1_profileOf_29 : decode cX1_profileOf 29 = .ok (.aload_n 0, 1) := by decide +kernel
theorem dX1_profileOf_30 : decode cX1_profileOf 30 = .ok (.aload_n 0, 1) := by decide +kernel
theorem dX1_profileOf_31 : decode cX1_profileOf 31 = .ok (.getfield 18, 3) := by decide +kernel
theorem dX1_profileOf_34 : decode cX1_profileOf 34 = .ok (.iload_n 3, 1) := by decide +kernel
theorem dX1_profileOf_35 : decode cX1_profileOf 35 = .ok (.iaload, 1) := by decide +kernel
theorem dX1_profileOf_36 : decode cX1_profileOf 36 = .ok (.invokevirtual 51, 3) := by decide +kernel
theorem dX1_profileOf_39 : decode cX1_profileOf 39 = .ok (.invokevirtual 54, 3) := by decide +kernel
theorem dX1_profileOf_42 : decode cX1_profileOf 42 = .ok (.iastore, 1) := by decide +kernel
theorem dX1_profileOf_43 : decode cX1_profileOf 43 = .ok (.iinc 3 1, 3) := by decide +kernel
theorem dX1_profileOf_46 : decode cX1_profileOf 46 = .ok (.goto (-44), 3) := by decide +kernel
theorem dX1_profileOf_49 : decode cX1_profileOf 49 = .ok (.aload_n 0, 1) := by decide +kernel
theorem dX1_profileOf_50 : decode cX1_profileOf 50 = .ok (.getfield 24, 3) := by decide +kernel
theorem dX1_profileOf_53 : decode cX1_profileOf 53 = .ok (.iload_n 1, 1) := by decide +kernel
theorem dX1_profileOf_54 : decode cX1_profileOf 54 = .ok (.iaload, 1) := by decide +kernel
theorem dX1_profileOf_55 : decode cX1_profileOf 55 = .ok (.ireturn, 1) := by decide +kernel
theorem dX1_childProfile_0 : decode cX1_childProfile 0 = .ok (.iload_n 1, 1) := by decide +kernel
theorem dX1_childProfile_1 : decode cX1_childProfile 1 = .ok (.iconst (-1), 1) := by decide +kernel
theorem dX1_childProfile_2 : decode cX1_childProfile 2 = .ok (.if_icmp .ne 8, 3) := by decide +kernel
theorem dX1_childProfile_5 : decode cX1_childProfile 5 = .ok (.bipush 17, 2) := by decide +kernel
theorem dX1_childProfile_7 : decode cX1_childProfile 7 = .ok (.goto 9, 3) := by decide +kernel
theorem dX1_childProfile_10 : decode cX1_childProfile 10 = .ok (.aload_n 0, 1) := by decide +kernel
theorem dX1_childProfile_11 : decode cX1_childProfile 11 = .ok (.getfield 24, 3) := by decide +kernel
theorem dX1_childProfile_14 : decode cX1_childProfile 14 = .ok (.iload_n 1, 1) := by decide +kernel
theorem dX1_childProfile_15 : decode cX1_childProfile 15 = .ok (.iaload, 1) := by decide +kernel
theorem dX1_childProfile_16 : decode cX1_childProfile 16 = .ok (.ireturn, 1) := by decide +kernel
set_option maxRecDepth 20000 in
theorem ggX1_plant_X5_hasLeft : GoodIn wsX1_plant wsX5_hasLeft := goodIn_r _ [4] (by decide +kernel) (by decide +kernel)
set_option maxRecDepth 20000 in
theorem gX1_plant_X5_hasLeft_n34 : GoodIn wsX1_plant (wsX5_hasLeft) := ggX1_plant_X5_hasLeft
set_option maxRecDepth 20000 in
theorem ggX1_plant_X5_hasRight : GoodIn wsX1_plant wsX5_hasRight := goodIn_r _ [6] (by decide +kernel) (by decide +kernel)
set_option maxRecDepth 20000 in
theorem gX1_plant_X5_hasRight_n38 : GoodIn wsX1_plant (wsX5_hasRight) := ggX1_plant_X5_hasRight
set_option maxRecDepth 20000 in
theorem ggX1_plant_X1_add : GoodIn wsX1_plant wsX1_add := goodIn_r _ [11, 12, 13, 14, 15, 16, 17, 18, 19, 20, 2, 3, 4, 5, 6, 21, 22, 23, 10, 24, 25, 26, 27, 28, 29, 30, 31] (by decide +kernel) (by decide +kernel)
set_option maxRecDepth 20000 in
theorem gX1_plant_X1_add : GoodIn wsX1_plant (wsV RX1 60 RX1 yX1_add wsX1_add) := goodIn_app (goodIn_of _ (by decide +kernel)) ggX1_plant_X1_add
theorem dX1_plant_0 : decode cX1_plant 0 = .ok (.iconst 0, 1) := by decide +kernel
theorem dX1_plant_1 : decode cX1_plant 1 = .ok (.istore_n 3, 1) := by decide +kernel
theorem dX1_plant_2 : decode cX1_plant 2 = .ok (.iconst (-1), 1) := by decide +kernel
theorem dX1_plant_3 : decode cX1_plant 3 = .ok (.istore 4, 2) := by decide +kernel
theorem dX1_plant_5 : decode cX1_plant 5 = .ok (.iload_n 2, 1) := by decide +kernel
theorem dX1_plant_6 : decode cX1_plant 6 = .ok (.iconst 1, 1) := by decide +kernel
theorem dX1_plant_7 : decode cX1_plant 7 = .ok (.isub, 1) := by decide +kernel
theorem dX1_plant_8 : decode cX1_plant 8 = .ok (.istore 5, 2) := by decide +kernel
theorem dX1_plant_10 : decode cX1_plant 10 = .ok (.iload 5, 2) := by decide +kernel
theorem dX1_plant_12 : decode cX1_plant 12 = .ok (.ifCond .lt 90, 3) := by decide +kernel
theorem dX1_plant_15 : decode cX1_plant 15 = .ok (.iconst (-1), 1) := by decide +kernel
theorem dX1_plant_16 : decode cX1_plant 16 = .ok (.istore 6, 2) := by decide +kernel
theorem dX1_plant_18 : decode cX1_plant 18 = .ok (.iconst (-1), 1) := by decide +kernel
theorem dX1_plant_19 : decode cX1_plant 19 = .ok (.istore 7, 2) := by decide +kernel
theorem dX1_plant_21 : decode cX1_plant 21 = .ok (.aload_n 1, 1) := by decide +kernel
theorem dX1_plant_22 : decode cX1_plant 22 = .ok (.iload 5, 2) := by decide +kernel
theorem dX1_plant_24 : decode cX1_plant 24 = .ok (.iaload, 1) := by decide +kernel
theorem dX1_plant_25 : decode cX1_plant 25 = .ok (.invokestatic 34, 3) := by decide +kernel
theorem dX1_plant_28 : decode cX1_plant 28 = .ok (.ifCond .eq 18, 3) := by decide +kernel
theorem dX1_plant_31 : decode cX1_plant 31 = .ok (.iload_n 3, 1) := by decide +kernel
theorem dX1_plant_32 : decode cX1_plant 32 = .ok (.ifCond .le 14, 3) := by decide +kernel
theorem dX1_plant_35 : decode cX1_plant 35 = .ok (.iinc 3 (-1), 3) := by decide +kernel
theorem dX1_plant_38 : decode cX1_plant 38 = .ok (.aload_n 0, 1) := by decide +kernel
theorem dX1_plant_39 : decode cX1_plant 39 = .ok (.getfield 27, 3) := by decide +kernel
theorem dX1_plant_42 : decode cX1_plant 42 = .ok (.iload_n 3, 1) := by decide +kernel
theorem dX1_plant_43 : decode cX1_plant 43 = .ok (.iaload, 1) := by decide +kernel
theorem dX1_plant_44 : decode cX1_plant 44 = .ok (.istore 6, 2) := by decide +kernel
theorem dX1_plant_46 : decode cX1_plant 46 = .ok (.aload_n 1, 1) := by decide +kernel
theorem dX1_plant_47 : decode cX1_plant 47 = .ok (.iload 5, 2) := by decide +kernel
theorem dX1_plant_49 : decode cX1_plant 49 = .ok (.iaload, 1) := by decide +kernel
theorem dX1_plant_50 : decode cX1_plant 50 = .ok (.invokestatic 38, 3) := by decide +kernel
theorem dX1_plant_53 : decode cX1_plant 53 = .ok (.ifCond .eq 18, 3) := by decide +kernel
theorem dX1_plant_56 : decode cX1_plant 56 = .ok (.iload_n 3, 1) := by decide +kernel
theorem dX1_plant_57 : decode cX1_plant 57 = .ok (.ifCond .le 14, 3) := by decide +kernel
theorem dX1_plant_60 : decode cX1_plant 60 = .ok (.iinc 3 (-1), 3) := by decide +kernel
theorem dX1_plant_63 : decode cX1_plant 63 = .ok (.aload_n 0, 1) := by decide +kernel
theorem dX1_plant_64 : decode cX1_plant 64 = .ok (.getfield 27, 3) := by decide +kernel
theorem dX1_plant_67 : decode cX1_plant 67 = .ok (.iload_n 3, 1) := by decide +kernel
theorem dX1_plant_68 : decode cX1_plant 68 = .ok (.iaload, 1) := by decide +kernel
theorem dX1_plant_69 : decode cX1_plant 69 = .ok (.istore 7, 2) := by decide +kernel
theorem dX1_plant_71 : decode cX1_plant 71 = .ok (.aload_n 0, 1) := by decide +kernel
theorem dX1_plant_72 : decode cX1_plant 72 = .ok (.aload_n 1, 1) := by decide +kernel
theorem dX1_plant_73 : decode cX1_plant 73 = .ok (.iload 5, 2) := by decide +kernel
theorem dX1_plant_75 : decode cX1_plant 75 = .ok (.iaload, 1) := by decide +kernel
theorem dX1_plant_76 : decode cX1_plant 76 = .ok (.iload 6, 2) := by decide +kernel
theorem dX1_plant_78 : decode cX1_plant 78 = .ok (.iload 7, 2) := by decide +kernel
theorem dX1_plant_80 : decode cX1_plant 80 = .ok (.invokevirtual 60, 3) := by decide +kernel
theorem dX1_plant_83 : decode cX1_plant 83 = .ok (.istore 4, 2) := by decide +kernel
theorem dX1_plant_85 : decode cX1_plant 85 = .ok (.aload_n 0, 1) := by decide +kernel
theorem dX1_plant_86 : decode cX1_plant 86 = .ok (.getfield 27, 3) := by decide +kernel
theorem dX1_plant_89 : decode cX1_plant 89 = .ok (.iload_n 3, 1) := by decide +kernel
theorem dX1_plant_90 : decode cX1_plant 90 = .ok (.iload 4, 2) := by decide +kernel
theorem dX1_plant_92 : decode cX1_plant 92 = .ok (.iastore, 1) := by decide +kernel
theorem dX1_plant_93 : decode cX1_plant 93 = .ok (.iinc 3 1, 3) := by decide +kernel
theorem dX1_plant_96 : decode cX1_plant 96 = .ok (.iinc 5 (-1), 3) := by decide +kernel
theorem dX1_plant_99 : decode cX1_plant 99 = .ok (.goto (-89), 3) := by decide +kernel
theorem dX1_plant_102 : decode cX1_plant 102 = .ok (.iload 4, 2) := by decide +kernel
theorem dX1_plant_104 : decode cX1_plant 104 = .ok (.ireturn, 1) := by decide +kernel
theorem dX2_init_0 : decode cX2_init 0 = .ok (.aload_n 0, 1) := by decide +kernel
theorem dX2_init_1 : decode cX2_init 1 = .ok (.invokespecial 3, 3) := by decide +kernel
theorem dX2_init_4 : decode cX2_init 4 = .ok (.aload_n 0, 1) := by decide +kernel
theorem dX2_init_5 : decode cX2_init 5 = .ok (.sipush 256, 3) := by decide +kernel
theorem dX2_init_8 : decode cX2_init 8 = .ok (.newarray .int, 2) := by decide +kernel
theorem dX2_init_10 : decode cX2_init 10 = .ok (.putfield 9, 3) := by decide +kernel
theorem dX2_init_13 : decode cX2_init 13 = .ok (.aload_n 0, 1) := by decide +kernel
theorem dX2_init_14 : decode cX2_init 14 = .ok (.sipush 256, 3) := by decide +kernel
theorem dX2_init_17 : decode cX2_init 17 = .ok (.newarray .int, 2) := by decide +kernel
theorem dX2_init_19 : decode cX2_init 19 = .ok (.putfield 15, 3) := by decide +kernel
theorem dX2_init_22 : decode cX2_init 22 = .ok (.aload_n 0, 1) := by decide +kernel
theorem dX2_init_23 : decode cX2_init 23 = .ok (.sipush 256, 3) := by decide +kernel
theorem dX2_init_26 : decode cX2_init 26 = .ok (.newarray .int, 2) := by decide +kernel
theorem dX2_init_28 : decode cX2_init 28 = .ok (.putfield 18, 3) := by decide +kernel
theorem dX2_init_31 : decode cX2_init 31 = .ok (.aload_n 0, 1) := by decide +kernel
theorem dX2_init_32 : decode cX2_init 32 = .ok (.sipush 256, 3) := by decide +kernel
theorem dX2_init_35 : decode cX2_init 35 = .ok (.newarray .int, 2) := by decide +kernel
theorem dX2_init_37 : decode cX2_init 37 = .ok (.putfield 21, 3) := by decide +kernel
theorem dX2_init_40 : decode cX2_init 40 = .ok (.aload_n 0, 1) := by decide +kernel
theorem dX2_init_41 : decode cX2_init 41 = .ok (.sipush 256, 3) := by decide +kernel
theorem dX2_init_44 : decode cX2_init 44 = .ok (.newarray .int, 2) := by decide +kernel
theorem dX2_init_46 : decode cX2_init 46 = .ok (.putfield 24, 3) := by decide +kernel
theorem dX2_init_49 : decode cX2_init 49 = .ok (.aload_n 0, 1) := by decide +kernel
theorem dX2_init_50 : decode cX2_init 50 = .ok (.bipush 34, 2) := by decide +kernel
theorem dX2_init_52 : decode cX2_init 52 = .ok (.newarray .int, 2) := by decide +kernel
theorem dX2_init_54 : decode cX2_init 54 = .ok (.putfield 27, 3) := by decide +kernel
theorem dX2_init_57 : decode cX2_init 57 = .ok (.aload_n 0, 1) := by decide +kernel
theorem dX2_init_58 : decode cX2_init 58 = .ok (.sipush 256, 3) := by decide +kernel
theorem dX2_init_61 : decode cX2_init 61 = .ok (.newarray .int, 2) := by decide +kernel
theorem dX2_init_63 : decode cX2_init 63 = .ok (.putfield 30, 3) := by decide +kernel
theorem dX2_init_66 : decode cX2_init 66 = .ok (.aload_n 0, 1) := by decide +kernel
theorem dX2_init_67 : decode cX2_init 67 = .ok (.sipush 256, 3) := by decide +kernel
theorem dX2_init_70 : decode cX2_init 70 = .ok (.newarray .int, 2) := by decide +kernel
theorem dX2_init_72 : decode cX2_init 72 = .ok (.putfield 33, 3) := by decide +kernel
theorem dX2_init_75 : decode cX2_init 75 = .ok (.aload_n 0, 1) := by decide +kernel
theorem dX2_init_76 : decode cX2_init 76 = .ok (.bipush 32, 2) := by decide +kernel
theorem dX2_init_78 : decode cX2_init 78 = .ok (.newarray .int, 2) := by decide +kernel
theorem dX2_init_80 : decode cX2_init 80 = .ok (.putfield 36, 3) := by decide +kernel
theorem dX2_init_83 : decode cX2_init 83 = .ok (.aload_n 0, 1) := by decide +kernel
theorem dX2_init_84 : decode cX2_init 84 = .ok (.bipush 32, 2) := by decide +kernel
theorem dX2_init_86 : decode cX2_init 86 = .ok (.newarray .int, 2) := by decide +kernel
theorem dX2_init_88 : decode cX2_init 88 = .ok (.putfield 39, 3) := by decide +kernel
theorem dX2_init_91 : decode cX2_init 91 = .ok (.aload_n 0, 1) := by decide +kernel
theorem dX2_init_92 : decode cX2_init 92 = .ok (.iconst 0, 1) := by decide +kernel
theorem dX2_init_93 : decode cX2_init 93 = .ok (.putfield 42, 3) := by decide +kernel
theorem dX2_init_96 : decode cX2_init 96 = .ok (.aload_n 0, 1) := by decide +kernel
theorem dX2_init_97 : decode cX2_init 97 = .ok (.iconst 0, 1) := by decide +kernel
theorem dX2_init_98 : decode cX2_init 98 = .ok (.putfield 46, 3) := by decide +kernel
theorem dX2_init_101 : decode cX2_init 101 = .ok (.aload_n 0, 1) := by decide +kernel
theorem dX2_init_102 : decode cX2_init 102 = .ok (.aload_n 1, 1) := by decide +kernel
theorem dX2_init_103 : decode cX2_init 103 = .ok (.putfield 50, 3) := by decide +kernel
theorem dX2_init_106 : decode cX2_init 106 = .ok (.return_, 1) := by decide +kernel
theorem dX2_forget_0 : decode cX2_forget 0 = .ok (.aload_n 0, 1) := by decide +kernel
theorem dX2_forget_1 : decode cX2_forget 1 = .ok (.iconst 0, 1) := by decide +kernel
theorem dX2_forget_2 : decode cX2_forget 2 = .ok (.putfield 46, 3) := by decide +kernel
theorem dX2_forget_5 : decode cX2_forget 5 = .ok (.return_, 1) := by decide +kernel
theorem dX2_foundCount_0 : decode cX2_foundCount 0 = .ok (.aload_n 0, 1) := by decide +kernel
theorem dX2_foundCount_1 : decode cX2_foundCount 1 = .ok (.getfield 42, 3) := by decide +kernel
theorem dX2_foundCount_4 : decode cX2_foundCount 4 = .ok (.ireturn, 1) := by decide +kernel
theorem dX2_foundAt_0 : decode cX2_foundAt 0 = .ok (.aload_n 0, 1) := by decide +kernel
theorem dX2_foundAt_1 : decode cX2_foundAt 1 = .ok (.getfield 24, 3) := by decide +kernel
theorem dX2_foundAt_4 : decode cX2_foundAt 4 = .ok (.iload_n 1, 1) := by decide +kernel
theorem dX2_foundAt_5 : decode cX2_foundAt 5 = .ok (.iaload, 1) := by decide +kernel
theorem dX2_foundAt_6 : decode cX2_foundAt 6 = .ok (.ireturn, 1) := by decide +kernel
theorem dX2_sizeOf_0 : decode cX2_sizeOf 0 = .ok (.aload_n 0, 1) := by decide +kernel
theorem dX2_sizeOf_1 : decode cX2_sizeOf 1 = .ok (.getfield 9, 3) := by decide +kernel
theorem dX2_sizeOf_4 : decode cX2_sizeOf 4 = .ok (.iload_n 1, 1) := by decide +kernel
theorem dX2_sizeOf_5 : decode cX2_sizeOf 5 = .ok (.iaload, 1) := by decide +kernel
theorem dX2_sizeOf_6 : decode cX2_sizeOf 6 = .ok (.ireturn, 1) := by decide +kernel
set_option maxRecDepth 20000 in
theorem ggX2_firstOf_X2_learn : GoodIn wsX2_firstOf wsX2_learn := goodIn_r _ [8, 9, 10, 1, 11, 12, 13, 14, 15, 16, 17, 7, 18, 19, 20, 21, 22, 23, 24, 25, 26, 27, 28, 29, 30, 3, 31, 32, 33, 34, 2, 35, 36, 37, 38, 39, 40, 41, 42, 43, 44, 45, 46, 47, 48, 49, 50, 51, 52, 53, 54, 55, 56, 57, 58, 59, 60, 61, 62, 63, 64, 83, 84, 85, 86, 87, 88, 89, 90, 91, 92, 93, 94, 95, 96, 97, 98, 99, 100] (by decide +kernel) (by decide +kernel)
set_option maxRecDepth 20000 in
theorem gX2_firstOf_X2_learn : GoodIn wsX2_firstOf (wsV RX2 54 RX2 yX2_learn wsX2_learn) := goodIn_app (goodIn_of _ (by decide +kernel)) ggX2_firstOf_X2_learn
set_option maxRecDepth 20000 in
theorem ggX2_firstOf_X4_isOfSort : GoodIn wsX2_firstOf wsX4_isOfSort := goodIn_r _ [68, 69, 70, 71, 41, 72, 43, 45, 73, 24, 74, 75, 76, 77, 78, 79, 80, 81, 82, 96, 97, 98, 99, 100] (by decide +kernel) (by decide +kernel)
set_option maxRecDepth 20000 in
theorem gX2_firstOf_X4_isOfSort : GoodIn wsX2_firstOf (wsV RX2 57 RX4 yX4_isOfSort wsX4_isOfSort) := goodIn_app (goodIn_of _ (by decide +kernel)) ggX2_firstOf_X4_isOfSort
theorem dX2_firstOf_0 : decode cX2_firstOf 0 = .ok (.aload_n 0, 1) := by decide +kernel
theorem dX2_firstOf_1 : decode cX2_firstOf 1 = .ok (.invokevirtual 54, 3) := by decide +kernel
theorem dX2_firstOf_4 : decode cX2_firstOf 4 = .ok (.iconst 0, 1) := by decide +kernel
theorem dX2_firstOf_5 : decode cX2_firstOf 5 = .ok (.istore_n 2, 1) := by decide +kernel
theorem dX2_firstOf_6 : decode cX2_firstOf 6 = .ok (.iload_n 2, 1) := by decide +kernel
theorem dX2_firstOf_7 : decode cX2_firstOf 7 = .ok (.aload_n 0, 1) := by decide +kernel
theorem dX2_firstOf_8 : decode cX2_firstOf 8 = .ok (.getfield 42, 3) := by decide +kernel
theorem dX2_firstOf_11 : decode cX2_firstOf 11 = .ok (.if_icmp .ge 33, 3) := by decide +kernel
theorem dX2_firstOf_14 : decode cX2_firstOf 14 = .ok (.aload_n 0, 1) := by decide +kernel
theorem dX2_firstOf_15 : decode cX2_firstOf 15 = .ok (.getfield 50, 3) := by decide +kernel
theorem dX2_firstOf_18 : decode cX2_firstOf 18 = .ok (.aload_n 0, 1) := by decide +kernel
theorem dX2_firstOf_19 : decode cX2_firstOf 19 = .ok (.getfield 24, 3) := by decide +kernel
theorem dX2_firstOf_22 : decode cX2_firstOf 22 = .ok (.iload_n 2, 1) := by decide +kernel
theorem dX2_firstOf_23 : decode cX2_firstOf 23 = .ok (.iaload, 1) := by decide +kernel
theorem dX2_firstOf_24 : decode cX2_firstOf 24 = .ok (.iload_n 1, 1) := by decide +kernel
theorem dX2_firstOf_25 : decode cX2_firstOf 25 = .ok (.invokevirtual 57, 3) := by decide +kernel
theorem dX2_firstOf_28 : decode cX2_firstOf 28 = .ok (.ifCond .eq 10, 3) := by decide +kernel
theorem dX2_firstOf_31 : decode cX2_firstOf 31 = .ok (.aload_n 0, 1) := by decide +kernel
theorem dX2_firstOf_32 : decode cX2_firstOf 32 = .ok (.getfield 24, 3) := by decide +kernel
theorem dX2_firstOf_35 : decode cX2_firstOf 35 = .ok (.iload_n 2, 1) := by decide +kernel
theorem dX2_firstOf_36 : decode cX2_firstOf 36 = .ok (.iaload, 1) := by decide +kernel
theorem dX2_firstOf_37 : decode cX2_firstOf 37 = .ok (.ireturn, 1) := by decide +kernel
theorem dX2_firstOf_38 : decode cX2_firstOf 38 = .ok (.iinc 2 1, 3) := by decide +kernel
theorem dX2_firstOf_41 : decode cX2_firstOf 41 = .ok (.goto (-35), 3) := by decide +kernel
theorem dX2_firstOf_44 : decode cX2_firstOf 44 = .ok (.iconst (-1), 1) := by decide +kernel
theorem dX2_firstOf_45 : decode cX2_firstOf 45 = .ok (.ireturn, 1) := by decide +kernel
set_option maxRecDepth 20000 in
theorem ggX2_writingOf_X5_hasRight : GoodIn wsX2_writingOf wsX5_hasRight := goodIn_r _ [8] (by decide +kernel) (by decide +kernel)
set_option maxRecDepth 20000 in
theorem gX2_writingOf_X5_hasRight_n63 : GoodIn wsX2_writingOf (wsX5_hasRight) := ggX2_writingOf_X5_hasRight
set_option maxRecDepth 20000 in
theorem ggX2_writingOf_X5_hasLeft : GoodIn wsX2_writingOf wsX5_hasLeft := goodIn_r _ [10] (by decide +kernel) (by decide +kernel)
set_option maxRecDepth 20000 in
theorem gX2_writingOf_X5_hasLeft_n67 : GoodIn wsX2_writingOf (wsX5_hasLeft) := ggX2_writingOf_X5_hasLeft
theorem dX2_writingOf_0 : decode cX2_writingOf 0 = .ok (.iconst 1, 1) := by decide +kernel
theorem dX2_writingOf_1 : decode cX2_writingOf 1 = .ok (.istore_n 2, 1) := by decide +kernel
theorem dX2_writingOf_2 : decode cX2_writingOf 2 = .ok (.aload_n 0, 1) := by decide +kernel
theorem dX2_writingOf_3 : decode cX2_writingOf 3 = .ok (.getfield 39, 3) := by decide +kernel
theorem dX2_writingOf_6 : decode cX2_writingOf 6 = .ok (.iconst 0, 1) := by decide +kernel
theorem dX2_writingOf_7 : decode cX2_writingOf 7 = .ok (.iload_n 1, 1) := by decide +kernel
theorem dX2_writingOf_8 : decode cX2_writingOf 8 = .ok (.iastore, 1) := by decide +kernel
theorem dX2_writingOf_9 : decode cX2_writingOf 9 = .ok (.iconst 0, 1) := by decide +kernel
theorem dX2_writingOf_10 : decode cX2_writingOf 10 = .ok (.istore_n 3, 1) := by decide +kernel
theorem dX2_writingOf_11 : decode cX2_writingOf 11 = .ok (.iload_n 3, 1) := by decide +kernel
theorem dX2_writingOf_12 : decode cX2_writingOf 12 = .ok (.bipush 32, 2) := by decide +kernel
theorem dX2_writingOf_14 : decode cX2_writingOf 14 = .ok (.if_icmp .ge 107, 3) := by decide +kernel
theorem dX2_writingOf_17 : decode cX2_writingOf 17 = .ok (.iload_n 2, 1) := by decide +kernel
theorem dX2_writingOf_18 : decode cX2_writingOf 18 = .ok (.ifCond .le 103, 3) := by decide +kernel
theorem dX2_writingOf_21 : decode cX2_writingOf 21 = .ok (.iinc 2 (-1), 3) := by decide +kernel
theorem dX2_writingOf_24 : decode cX2_writingOf 24 = .ok (.aload_n 0, 1) := by decide +kernel
theorem dX2_writingOf_25 : decode cX2_writingOf 25 = .ok (.getfield 39, 3) := by decide +kernel
theorem dX2_writingOf_28 : decode cX2_writingOf 28 = .ok (.iload_n 2, 1) := by decide +kernel
theorem dX2_writingOf_29 : decode cX2_writingOf 29 = .ok (.iaload, 1) := by decide +kernel
theorem dX2_writingOf_30 : decode cX2_writingOf 30 = .ok (.istore 4, 2) := by decide +kernel
theorem dX2_writingOf_32 : decode cX2_writingOf 32 = .ok (.aload_n 0, 1) := by decide +kernel
theorem dX2_writingOf_33 : decode cX2_writingOf 33 = .ok (.getfield 36, 3) := by decide +kernel
theorem dX2_writingOf_36 : decode cX2_writingOf 36 = .ok (.iload_n 3, 1) := by decide +kernel
theorem dX2_writingOf_37 : decode cX2_writingOf 37 = .ok (.aload_n 0, 1) := by decide +kernel
theorem dX2_writingOf_38 : decode cX2_writingOf 38 = .ok (.getfield 15, 3) := by decide +kernel
theorem dX2_writingOf_41 : decode cX2_writingOf 41 = .ok (.iload 4, 2) := by decide +kernel
theorem dX2_writingOf_43 : decode cX2_writingOf 43 = .ok (.iaload, 1) := by decide +kernel
theorem dX2_writingOf_44 : decode cX2_writingOf 44 = .ok (.iastore, 1) := by decide +kernel
theorem dX2_writingOf_45 : decode cX2_writingOf 45 = .ok (.aload_n 0, 1) := by decide +kernel
theorem dX2_writingOf_46 : decode cX2_writingOf 46 = .ok (.getfield 15, 3) := by decide +kernel
theorem dX2_writingOf_49 : decode cX2_writingOf 49 = .ok (.iload 4, 2) := by decide +kernel
theorem dX2_writingOf_51 : decode cX2_writingOf 51 = .ok (.iaload, 1) := by decide +kernel
theorem dX2_writingOf_52 : decode cX2_writingOf 52 = .ok (.invokestatic 63, 3) := by decide +kernel
theorem dX2_writingOf_55 : decode cX2_writingOf 55 = .ok (.ifCond .eq 25, 3) := by decide +kernel
theorem dX2_writingOf_58 : decode cX2_writingOf 58 = .ok (.iload_n 2, 1) := by decide +kernel
theorem dX2_writingOf_59 : decode cX2_writingOf 59 = .ok (.bipush 32, 2) := by decide +kernel
theorem dX2_writingOf_61 : decode cX2_writingOf 61 = .ok (.if_icmp .ge 19, 3) := by decide +kernel
theorem dX2_writingOf_64 : decode cX2_writingOf 64 = .ok (.aload_n 0, 1) := by decide +kernel
theorem dX2_writingOf_65 : decode cX2_writingOf 65 = .ok (.getfield 39, 3) := by decide +kernel
theorem dX2_writingOf_68 : decode cX2_writingOf 68 = .ok (.iload_n 2, 1) := by decide +kernel
theorem dX2_writingOf_69 : decode cX2_writingOf 69 = .ok (.aload_n 0, 1) := by decide +kernel
theorem dX2_writingOf_70 : decode cX2_writingOf 70 = .ok (.getfield 21, 3) := by decide +kernel
theorem dX2_writingOf_73 : decode cX2_writingOf 73 = .ok (.iload 4, 2) := by decide +kernel
theorem dX2_writingOf_75 : decode cX2_writingOf 75 = .ok (.iaload, 1) := by decide +kernel
theorem dX2_writingOf_76 : decode cX2_writingOf 76 = .ok (.iastore, 1) := by decide +kernel
theorem dX2_writingOf_77 : decode cX2_writingOf 77 = .ok (.iinc 2 1, 3) := by decide +kernel
theorem dX2_writingOf_80 : decode cX2_writingOf 80 = .ok (.aload_n 0, 1) := by decide +kernel
theorem dX2_writingOf_81 : decode cX2_writingOf 81 = .ok (.getfield 15, 3) := by decide +kernel
theorem dX2_writingOf_84 : decode cX2_writingOf 84 = .ok (.iload 4, 2) := by decide +kernel
theorem dX2_writingOf_86 : decode cX2_writingOf 86 = .ok (.iaload, 1) := by decide +kernel
theorem dX2_writingOf_87 : decode cX2_writingOf 87 = .ok (.invokestatic 67, 3) := by decide +kernel
theorem dX2_writingOf_90 : decode cX2_writingOf 90 = .ok (.ifCond .eq 25, 3) := by decide +kernel
theorem dX2_writingOf_93 : decode cX2_writingOf 93 = .ok (.iload_n 2, 1) := by decide +kernel
theorem dX2_writingOf_94 : decode cX2_writingOf 94 = .ok (.bipush 32, 2) := by decide +kernel
theorem dX2_writingOf_96 : decode cX2_writingOf 96 = .ok (.if_icmp .ge 19, 3) := by decide +kernel
theorem dX2_writingOf_99 : decode cX2_writingOf 99 = .ok (.aload_n 0, 1) := by decide +kernel
theorem dX2_writingOf_100 : decode cX2_writingOf 100 = .ok (.getfield 39, 3) := by decide +kernel
theorem dX2_writingOf_103 : decode cX2_writingOf 103 = .ok (.iload_n 2, 1) := by decide +kernel
theorem dX2_writingOf_104 : decode cX2_writingOf 104 = .ok (.aload_n 0, 1) := by decide +kernel
theorem dX2_writingOf_105 : decode cX2_writingOf 105 = .ok (.getfield 18, 3) := by decide +kernel
theorem dX2_writingOf_108 : decode cX2_writingOf 108 = .ok (.iload 4, 2) := by decide +kernel
theorem dX2_writingOf_110 : decode cX2_writingOf 110 = .ok (.iaload, 1) := by decide +kernel
theorem dX2_writingOf_111 : decode cX2_writingOf 111 = .ok (.iastore, 1) := by decide +kernel
theorem dX2_writingOf_112 : decode cX2_writingOf 112 = .ok (.iinc 2 1, 3) := by decide +kernel
theorem dX2_writingOf_115 : decode cX2_writingOf 115 = .ok (.iinc 3 1, 3) := by decide +kernel
theorem dX2_writingOf_118 : decode cX2_writingOf 118 = .ok (.goto (-107), 3) := by decide +kernel
theorem dX2_writingOf_121 : decode cX2_writingOf 121 = .ok (.aload_n 0, 1) := by decide +kernel
theorem dX2_writingOf_122 : decode cX2_writingOf 122 = .ok (.getfield 36, 3) := by decide +kernel
theorem dX2_writingOf_125 : decode cX2_writingOf 125 = .ok (.areturn, 1) := by decide +kernel
set_option maxRecDepth 20000 in
theorem ggX2_learn_J7_fill_53178 : GoodIn wsX2_learn wsJ7_fill_53178 := goodIn_r _ [8] (by decide +kernel) (by decide +kernel)
set_option maxRecDepth 20000 in
theorem gX2_learn_J7_fill_53178 : GoodIn wsX2_learn (va_wsS RX2 70 yJ7_fill_53178 wsJ7_fill_53178) := goodIn_app (goodIn_of _ (by decide +kernel)) ggX2_learn_J7_fill_53178
set_option maxRecDepth 20000 in
theorem ggX2_learn_X2_canHaveSize : GoodIn wsX2_learn wsX2_canHaveSize := goodIn_r _ [12] (by decide +kernel) (by decide +kernel)
set_option maxRecDepth 20000 in
theorem gX2_learn_X2_canHaveSize : GoodIn wsX2_learn (va_wsS RX2 76 yX2_canHaveSize wsX2_canHaveSize) := goodIn_app (goodIn_of _ (by decide +kernel)) ggX2_learn_X2_canHaveSize
set_option maxRecDepth 20000 in
theorem ggX2_learn_X2_findOfSize : GoodIn wsX2_learn wsX2_findOfSize := goodIn_r _ [16, 17, 18, 19, 20, 21, 22, 11, 23, 4, 24, 2, 25, 26, 27, 28, 29, 30, 3, 31, 32, 33, 34, 35, 36, 37, 38, 39, 40, 41, 42, 43, 44, 45, 46, 47, 61, 62, 63, 64, 65, 66, 67, 68, 69, 70, 71, 72, 73, 74, 75, 76, 77, 78] (by decide +kernel) (by decide +kernel)
set_option maxRecDepth 20000 in
theorem gX2_learn_X2_findOfSize : GoodIn wsX2_learn (wsV RX2 79 RX2 yX2_findOfSize wsX2_findOfSize) := goodIn_app (goodIn_of _ (by decide +kernel)) ggX2_learn_X2_findOfSize
set_option maxRecDepth 20000 in
theorem ggX2_learn_X2_sortIn : GoodIn wsX2_learn wsX2_sortIn := goodIn_r _ [51, 3, 25, 24, 52, 53, 54, 55, 11, 56, 31, 32, 33, 61, 62, 63, 64, 65, 66, 67, 68, 69, 70, 71, 72, 73] (by decide +kernel) (by decide +kernel)
set_option maxRecDepth 20000 in
theorem gX2_learn_X2_sortIn : GoodIn wsX2_learn (wsV RX2 83 RX2 yX2_sortIn wsX2_sortIn) := goodIn_app (goodIn_of _ (by decide +kernel)) ggX2_learn_X2_sortIn
set_option maxRecDepth 20000 in
theorem ggX2_learn_X2_findLarger : GoodIn wsX2_learn wsX2_findLarger := goodIn_r _ [60, 3, 25, 26, 27, 28, 11, 29, 30, 2, 31, 32, 33, 34, 35, 36, 37, 38, 39, 40, 41, 61, 62, 63, 64, 65, 66, 67, 68, 69, 70, 71, 72, 73, 74, 75, 76, 77, 78] (by decide +kernel) (by decide +kernel)
set_option maxRecDepth 20000 in
theorem gX2_learn_X2_findLarger : GoodIn wsX2_learn (wsV RX2 86 RX2 yX2_findLarger wsX2_findLarger) := goodIn_app (goodIn_of _ (by decide +kernel)) ggX2_learn_X2_findLarger
theorem dX2_learn_0 : decode cX2_learn 0 = .ok (.aload_n 0, 1) := by decide +kernel
theorem dX2_learn_1 : decode cX2_learn 1 = .ok (.getfield 46, 3) := by decide +kernel
theorem dX2_learn_4 : decode cX2_learn 4 = .ok (.ifCond .eq 4, 3) := by decide +kernel
theorem dX2_learn_7 : decode cX2_learn 7 = .ok (.return_, 1) := by decide +kernel
theorem dX2_learn_8 : decode cX2_learn 8 = .ok (.aload_n 0, 1) := by decide +kernel
theorem dX2_learn_9 : decode cX2_learn 9 = .ok (.getfield 9, 3) := by decide +kernel
theorem dX2_learn_12 : decode cX2_learn 12 = .ok (.iconst 0, 1) := by decide +kernel
theorem dX2_learn_13 : decode cX2_learn 13 = .ok (.invokestatic 70, 3) := by decide +kernel
theorem dX2_learn_16 : decode cX2_learn 16 = .ok (.aload_n 0, 1) := by decide +kernel
theorem dX2_learn_17 : decode cX2_learn 17 = .ok (.iconst 0, 1) := by decide +kernel
theorem dX2_learn_18 : decode cX2_learn 18 = .ok (.putfield 42, 3) := by decide +kernel
theorem dX2_learn_21 : decode cX2_learn 21 = .ok (.iconst 0, 1) := by decide +kernel
theorem dX2_learn_22 : decode cX2_learn 22 = .ok (.istore_n 1, 1) := by decide +kernel
theorem dX2_learn_23 : decode cX2_learn 23 = .ok (.iconst 1, 1) := by decide +kernel
theorem dX2_learn_24 : decode cX2_learn 24 = .ok (.istore_n 2, 1) := by decide +kernel
theorem dX2_learn_25 : decode cX2_learn 25 = .ok (.iload_n 2, 1) := by decide +kernel
theorem dX2_learn_26 : decode cX2_learn 26 = .ok (.bipush 32, 2) := by decide +kernel
theorem dX2_learn_28 : decode cX2_learn 28 = .ok (.if_icmp .gt 69, 3) := by decide +kernel
theorem dX2_learn_31 : decode cX2_learn 31 = .ok (.iload_n 2, 1) := by decide +kernel
theorem dX2_learn_32 : decode cX2_learn 32 = .ok (.iload_n 1, 1) := by decide +kernel
theorem dX2_learn_33 : decode cX2_learn 33 = .ok (.invokestatic 76, 3) := by decide +kernel
theorem dX2_learn_36 : decode cX2_learn 36 = .ok (.ifCond .eq 61, 3) := by decide +kernel
theorem dX2_learn_39 : decode cX2_learn 39 = .ok (.aload_n 0, 1) := by decide +kernel
theorem dX2_learn_40 : decode cX2_learn 40 = .ok (.getfield 27, 3) := by decide +kernel
theorem dX2_learn_43 : decode cX2_learn 43 = .ok (.iload_n 2, 1) := by decide +kernel
theorem dX2_learn_44 : decode cX2_learn 44 = .ok (.aload_n 0, 1) := by decide +kernel
theorem dX2_learn_45 : decode cX2_learn 45 = .ok (.getfield 42, 3) := by decide +kernel
theorem dX2_learn_48 : decode cX2_learn 48 = .ok (.iastore, 1) := by decide +kernel
theorem dX2_learn_49 : decode cX2_learn 49 = .ok (.aload_n 0, 1) := by decide +kernel
theorem dX2_learn_50 : decode cX2_learn 50 = .ok (.iload_n 2, 1) := by decide +kernel
theorem dX2_learn_51 : decode cX2_learn 51 = .ok (.invokevirtual 79, 3) := by decide +kernel
theorem dX2_learn_54 : decode cX2_learn 54 = .ok (.aload_n 0, 1) := by decide +kernel
theorem dX2_learn_55 : decode cX2_learn 55 = .ok (.getfield 27, 3) := by decide +kernel
theorem dX2_learn_58 : decode cX2_learn 58 = .ok (.iload_n 2, 1) := by decide +kernel
theorem dX2_learn_59 : decode cX2_learn 59 = .ok (.iconst 1, 1) := by decide +kernel
theorem dX2_learn_60 : decode cX2_learn 60 = .ok (.iadd, 1) := by decide +kernel
theorem dX2_learn_61 : decode cX2_learn 61 = .ok (.aload_n 0, 1) := by decide +kernel
theorem dX2_learn_62 : decode cX2_learn 62 = .ok (.getfield 42, 3) := by decide +kernel
theorem dX2_learn_65 : decode cX2_learn 65 = .ok (.iastore, 1) := by decide +kernel
theorem dX2_learn_66 : decode cX2_learn 66 = .ok (.aload_n 0, 1) := by decide +kernel
theorem dX2_learn_67 : decode cX2_learn 67 = .ok (.getfield 42, 3) := by decide +kernel
theorem dX2_learn_70 : decode cX2_learn 70 = .ok (.aload_n 0, 1) := by decide +kernel
theorem dX2_learn_71 : decode cX2_learn 71 = .ok (.getfield 27, 3) := by decide +kernel
theorem dX2_learn_74 : decode cX2_learn 74 = .ok (.iload_n 2, 1) := by decide +kernel
theorem dX2_learn_75 : decode cX2_learn 75 = .ok (.iaload, 1) := by decide +kernel
theorem dX2_learn_76 : decode cX2_learn 76 = .ok (.if_icmp .le 15, 3) := by decide +kernel
theorem dX2_learn_79 : decode cX2_learn 79 = .ok (.iload_n 2, 1) := by decide +kernel
theorem dX2_learn_80 : decode cX2_learn 80 = .ok (.istore_n 1, 1) := by decide +kernel
theorem dX2_learn_81 : decode cX2_learn 81 = .ok (.aload_n 0, 1) := by decide +kernel
theorem dX2_learn_82 : decode cX2_learn 82 = .ok (.aload_n 0, 1) := by decide +kernel
theorem dX2_learn_83 : decode cX2_learn 83 = .ok (.getfield 27, 3) := by decide +kernel
theorem dX2_learn_86 : decode cX2_learn 86 = .ok (.iload_n 2, 1) := by decide +kernel
theorem dX2_learn_87 : decode cX2_learn 87 = .ok (.iaload, 1) := by decide +kernel
theorem dX2_learn_88 : decode cX2_learn 88 = .ok (.invokevirtual 83, 3) := by decide +kernel
theorem dX2_learn_91 : decode cX2_learn 91 = .ok (.iinc 2 1, 3) := by decide +kernel
theorem dX2_learn_94 : decode cX2_learn 94 = .ok (.goto (-69), 3) := by decide +kernel
theorem dX2_learn_97 : decode cX2_learn 97 = .ok (.bipush 33, 2) := by decide +kernel
theorem dX2_learn_99 : decode cX2_learn 99 = .ok (.iload_n 1, 1) := by decide +kernel
theorem dX2_learn_100 : decode cX2_learn 100 = .ok (.invokestatic 76, 3) := by decide +kernel
theorem dX2_learn_103 : decode cX2_learn 103 = .ok (.ifCond .eq 7, 3) := by decide +kernel
theorem dX2_learn_106 : decode cX2_learn 106 = .ok (.aload_n 0, 1) := by decide +kernel
theorem dX2_learn_107 : decode cX2_learn 107 = .ok (.invokevirtual 86, 3) := by decide +kernel
theorem dX2_learn_110 : decode cX2_learn 110 = .ok (.aload_n 0, 1) := by decide +kernel
theorem dX2_learn_111 : decode cX2_learn 111 = .ok (.iconst 1, 1) := by decide +kernel
theorem dX2_learn_112 : decode cX2_learn 112 = .ok (.putfield 46, 3) := by decide +kernel
theorem dX2_learn_115 : decode cX2_learn 115 = .ok (.return_, 1) := by decide +kernel
theorem dX2_canHaveSize_0 : decode cX2_canHaveSize 0 = .ok (.iload_n 0, 1) := by decide +kernel
theorem dX2_canHaveSize_1 : decode cX2_canHaveSize 1 = .ok (.iconst 2, 1) := by decide +kernel
theorem dX2_canHaveSize_2 : decode cX2_canHaveSize 2 = .ok (.iload_n 1, 1) := by decide +kernel
theorem dX2_canHaveSize_3 : decode cX2_canHaveSize 3 = .ok (.imul, 1) := by decide +kernel
theorem dX2_canHaveSize_4 : decode cX2_canHaveSize 4 = .ok (.iconst 1, 1) := by decide +kernel
theorem dX2_canHaveSize_5 : decode cX2_canHaveSize 5 = .ok (.iadd, 1) := by decide +kernel
theorem dX2_canHaveSize_6 : decode cX2_canHaveSize 6 = .ok (.if_icmp .gt 7, 3) := by decide +kernel
theorem dX2_canHaveSize_9 : decode cX2_canHaveSize 9 = .ok (.iconst 1, 1) := by decide +kernel
theorem dX2_canHaveSize_10 : decode cX2_canHaveSize 10 = .ok (.goto 4, 3) := by decide +kernel
theorem dX2_canHaveSize_13 : decode cX2_canHaveSize 13 = .ok (.iconst 0, 1) := by decide +kernel
theorem dX2_canHaveSize_14 : decode cX2_canHaveSize 14 = .ok (.ireturn, 1) := by decide +kernel
set_option maxRecDepth 20000 in
theorem ggX2_findOfSize_X5_hasRight : GoodIn wsX2_findOfSize wsX5_hasRight := goodIn_r _ [3] (by decide +kernel) (by decide +kernel)
set_option maxRecDepth 20000 in
theorem gX2_findOfSize_X5_hasRight_n63 : GoodIn wsX2_findOfSize (wsX5_hasRight) := ggX2_findOfSize_X5_hasRight
set_option maxRecDepth 20000 in
theorem ggX2_findOfSize_X2_findWithTwo : GoodIn wsX2_findOfSize wsX2_findWithTwo := goodIn_r _ [8, 9, 10, 11, 12, 13, 14, 15, 7, 16, 17, 18, 19, 20, 21, 22, 23, 24, 25, 26, 27, 28, 29, 36, 37, 38, 39, 40, 41, 42, 43, 44, 45, 46, 47, 48, 49, 50, 51, 52, 53] (by decide +kernel) (by decide +kernel)
set_option maxRecDepth 20000 in
theorem gX2_findOfSize_X2_findWithTwo : GoodIn wsX2_findOfSize (wsV RX2 89 RX2 yX2_findWithTwo wsX2_findWithTwo) := goodIn_app (goodIn_of _ (by decide +kernel)) ggX2_findOfSize_X2_findWithTwo
set_option maxRecDepth 20000 in
theorem ggX2_findOfSize_X5_hasLeft : GoodIn wsX2_findOfSize wsX5_hasLeft := goodIn_r _ [31] (by decide +kernel) (by decide +kernel)
set_option maxRecDepth 20000 in
theorem gX2_findOfSize_X5_hasLeft_n67 : GoodIn wsX2_findOfSize (wsX5_hasLeft) := ggX2_findOfSize_X5_hasLeft
set_option maxRecDepth 20000 in
theorem ggX2_findOfSize_X2_findWithOne : GoodIn wsX2_findOfSize wsX2_findWithOne := goodIn_r _ [35, 9, 12, 13, 14, 15, 7, 16, 17, 11, 18, 19, 20, 21, 22, 23, 24, 25, 26, 27, 28, 29, 36, 37, 38, 39, 40, 41, 42, 43, 44, 45, 46, 47, 48, 49, 50, 51, 52, 53] (by decide +kernel) (by decide +kernel)
set_option maxRecDepth 20000 in
theorem gX2_findOfSize_X2_findWithOne : GoodIn wsX2_findOfSize (wsV RX2 93 RX2 yX2_findWithOne wsX2_findWithOne) := goodIn_app (goodIn_of _ (by decide +kernel)) ggX2_findOfSize_X2_findWithOne
set_option maxRecDepth 20000 in
theorem ggX2_findOfSize_X2_meet : GoodIn wsX2_findOfSize wsX2_meet := goodIn_r _ [16, 17, 11, 18, 19, 20, 21, 12, 22, 23, 24, 25, 26, 27, 28, 29, 36, 37, 38, 39, 40, 41, 42, 43, 44, 45, 46, 47, 48, 49, 50, 51, 52, 53] (by decide +kernel) (by decide +kernel)
set_option maxRecDepth 20000 in
theorem gX2_findOfSize_X2_meet : GoodIn wsX2_findOfSize (wsV RX2 96 RX2 yX2_meet wsX2_meet) := goodIn_app (goodIn_of _ (by decide +kernel)) ggX2_findOfSize_X2_meet
theorem dX2_findOfSize_0 : decode cX2_findOfSize 0 = .ok (.iconst 0, 1) := by decide +kernel
theorem dX2_findOfSize_1 : decode cX2_findOfSize 1 = .ok (.istore_n 2, 1) := by decide +kernel
theorem dX2_findOfSize_2 : decode cX2_findOfSize 2 = .ok (.iload_n 2, 1) := by decide +kernel
theorem dX2_findOfSize_3 : decode cX2_findOfSize 3 = .ok (.bipush 8, 2) := by decide +kernel
theorem dX2_findOfSize_5 : decode cX2_findOfSize 5 = .ok (.if_icmp .ge 56, 3) := by decide +kernel
theorem dX2_findOfSize_8 : decode cX2_findOfSize 8 = .ok (.iload_n 2, 1) := by decide +kernel
theorem dX2_findOfSize_9 : decode cX2_findOfSize 9 = .ok (.invokestatic 63, 3) := by decide +kernel
theorem dX2_findOfSize_12 : decode cX2_findOfSize 12 = .ok (.ifCond .eq 12, 3) := by decide +kernel
theorem dX2_findOfSize_15 : decode cX2_findOfSize 15 = .ok (.aload_n 0, 1) := by decide +kernel
theorem dX2_findOfSize_16 : decode cX2_findOfSize 16 = .ok (.iload_n 2, 1) := by decide +kernel
theorem dX2_findOfSize_17 : decode cX2_findOfSize 17 = .ok (.iload_n 1, 1) := by decide +kernel
theorem dX2_findOfSize_18 : decode cX2_findOfSize 18 = .ok (.invokevirtual 89, 3) := by decide +kernel
theorem dX2_findOfSize_21 : decode cX2_findOfSize 21 = .ok (.goto 34, 3) := by decide +kernel
theorem dX2_findOfSize_24 : decode cX2_findOfSize 24 = .ok (.iload_n 2, 1) := by decide +kernel
theorem dX2_findOfSize_25 : decode cX2_findOfSize 25 = .ok (.invokestatic 67, 3) := by decide +kernel
theorem dX2_findOfSize_28 : decode cX2_findOfSize 28 = .ok (.ifCond .eq 12, 3) := by decide +kernel
theorem dX2_findOfSize_31 : decode cX2_findOfSize 31 = .ok (.aload_n 0, 1) := by decide +kernel
theorem dX2_findOfSize_32 : decode cX2_findOfSize 32 = .ok (.iload_n 2, 1) := by decide +kernel
theorem dX2_findOfSize_33 : decode cX2_findOfSize 33 = .ok (.iload_n 1, 1) := by decide +kernel
theorem dX2_findOfSize_34 : decode cX2_findOfSize 34 = .ok (.invokevirtual 93, 3) := by decide +kernel
theorem dX2_findOfSize_37 : decode cX2_findOfSize 37 = .ok (.goto 18, 3) := by decide +kernel
theorem dX2_findOfSize_40 : decode cX2_findOfSize 40 = .ok (.iload_n 1, 1) := by decide +kernel
theorem dX2_findOfSize_41 : decode cX2_findOfSize 41 = .ok (.iconst 1, 1) := by decide +kernel
theorem dX2_findOfSize_42 : decode cX2_findOfSize 42 = .ok (.if_icmp .ne 13, 3) := by decide +kernel
theorem dX2_findOfSize_45 : decode cX2_findOfSize 45 = .ok (.aload_n 0, 1) := by decide +kernel
theorem dX2_findOfSize_46 : decode cX2_findOfSize 46 = .ok (.iload_n 2, 1) := by decide +kernel
theorem dX2_findOfSize_47 : decode cX2_findOfSize 47 = .ok (.bipush 17, 2) := by decide +kernel
theorem dX2_findOfSize_49 : decode cX2_findOfSize 49 = .ok (.bipush 17, 2) := by decide +kernel
theorem dX2_findOfSize_51 : decode cX2_findOfSize 51 = .ok (.iconst 1, 1) := by decide +kernel
theorem dX2_findOfSize_52 : decode cX2_findOfSize 52 = .ok (.invokevirtual 96, 3) := by decide +kernel
theorem dX2_findOfSize_55 : decode cX2_findOfSize 55 = .ok (.iinc 2 1, 3) := by decide +kernel
theorem dX2_findOfSize_58 : decode cX2_findOfSize 58 = .ok (.goto (-56), 3) := by decide +kernel
theorem dX2_findOfSize_61 : decode cX2_findOfSize 61 = .ok (.return_, 1) := by decide +kernel
set_option maxRecDepth 20000 in
theorem ggX2_findWithOne_X2_meet : GoodIn wsX2_findWithOne wsX2_meet := goodIn_r _ [7, 8, 9, 10, 11, 12, 13, 2, 14, 15, 16, 17, 18, 19, 20, 21, 22, 23, 24, 25, 26, 27, 28, 29, 30, 31, 32, 33, 34, 35, 36, 37, 38, 39] (by decide +kernel) (by decide +kernel)
set_option maxRecDepth 20000 in
theorem gX2_findWithOne_X2_meet : GoodIn wsX2_findWithOne (wsV RX2 96 RX2 yX2_meet wsX2_meet) := goodIn_app (goodIn_of _ (by decide +kernel)) ggX2_findWithOne_X2_meet
theorem dX2_findWithOne_0 : decode cX2_findWithOne 0 = .ok (.iload_n 2, 1) := by decide +kernel
theorem dX2_findWithOne_1 : decode cX2_findWithOne 1 = .ok (.iconst 2, 1) := by decide +kernel
theorem dX2_findWithOne_2 : decode cX2_findWithOne 2 = .ok (.if_icmp .ge 4, 3) := by decide +kernel
theorem dX2_findWithOne_5 : decode cX2_findWithOne 5 = .ok (.return_, 1) := by decide +kernel
theorem dX2_findWithOne_6 : decode cX2_findWithOne 6 = .ok (.aload_n 0, 1) := by decide +kernel
theorem dX2_findWithOne_7 : decode cX2_findWithOne 7 = .ok (.getfield 27, 3) := by decide +kernel
theorem dX2_findWithOne_10 : decode cX2_findWithOne 10 = .ok (.iload_n 2, 1) := by decide +kernel
theorem dX2_findWithOne_11 : decode cX2_findWithOne 11 = .ok (.iaload, 1) := by decide +kernel
theorem dX2_findWithOne_12 : decode cX2_findWithOne 12 = .ok (.istore_n 3, 1) := by decide +kernel
theorem dX2_findWithOne_13 : decode cX2_findWithOne 13 = .ok (.aload_n 0, 1) := by decide +kernel
theorem dX2_findWithOne_14 : decode cX2_findWithOne 14 = .ok (.getfield 27, 3) := by decide +kernel
theorem dX2_findWithOne_17 : decode cX2_findWithOne 17 = .ok (.iload_n 2, 1) := by decide +kernel
theorem dX2_findWithOne_18 : decode cX2_findWithOne 18 = .ok (.iconst 1, 1) := by decide +kernel
theorem dX2_findWithOne_19 : decode cX2_findWithOne 19 = .ok (.isub, 1) := by decide +kernel
theorem dX2_findWithOne_20 : decode cX2_findWithOne 20 = .ok (.iaload, 1) := by decide +kernel
theorem dX2_findWithOne_21 : decode cX2_findWithOne 21 = .ok (.istore 4, 2) := by decide +kernel
theorem dX2_findWithOne_23 : decode cX2_findWithOne 23 = .ok (.iload 4, 2) := by decide +kernel
theorem dX2_findWithOne_25 : decode cX2_findWithOne 25 = .ok (.iload_n 3, 1) := by decide +kernel
theorem dX2_findWithOne_26 : decode cX2_findWithOne 26 = .ok (.if_icmp .ge 24, 3) := by decide +kernel
theorem dX2_findWithOne_29 : decode cX2_findWithOne 29 = .ok (.aload_n 0, 1) := by decide +kernel
theorem dX2_findWithOne_30 : decode cX2_findWithOne 30 = .ok (.iload_n 1, 1) := by decide +kernel
theorem dX2_findWithOne_31 : decode cX2_findWithOne 31 = .ok (.aload_n 0, 1) := by decide +kernel
theorem dX2_findWithOne_32 : decode cX2_findWithOne 32 = .ok (.getfield 24, 3) := by decide +kernel
theorem dX2_findWithOne_35 : decode cX2_findWithOne 35 = .ok (.iload 4, 2) := by decide +kernel
theorem dX2_findWithOne_37 : decode cX2_findWithOne 37 = .ok (.iaload, 1) := by decide +kernel
theorem dX2_findWithOne_38 : decode cX2_findWithOne 38 = .ok (.bipush 17, 2) := by decide +kernel
theorem dX2_findWithOne_40 : decode cX2_findWithOne 40 = .ok (.iload_n 2, 1) := by decide +kernel
theorem dX2_findWithOne_41 : decode cX2_findWithOne 41 = .ok (.invokevirtual 96, 3) := by decide +kernel
theorem dX2_findWithOne_44 : decode cX2_findWithOne 44 = .ok (.iinc 4 1, 3) := by decide +kernel
theorem dX2_findWithOne_47 : decode cX2_findWithOne 47 = .ok (.goto (-24), 3) := by decide +kernel
theorem dX2_findWithOne_50 : decode cX2_findWithOne 50 = .ok (.return_, 1) := by decide +kernel
set_option maxRecDepth 20000 in
theorem ggX2_findWithTwo_X2_meet : GoodIn wsX2_findWithTwo wsX2_meet := goodIn_r _ [9, 10, 3, 11, 12, 13, 14, 4, 15, 16, 17, 18, 19, 20, 21, 22, 23, 24, 25, 26, 27, 28, 29, 30, 31, 32, 33, 34, 35, 36, 37, 38, 39, 40] (by decide +kernel) (by decide +kernel)
set_option maxRecDepth 20000 in
theorem gX2_findWithTwo_X2_meet : GoodIn wsX2_findWithTwo (wsV RX2 96 RX2 yX2_meet wsX2_meet) := goodIn_app (goodIn_of _ (by decide +kernel)) ggX2_findWithTwo_X2_meet
theorem dX2_findWithTwo_0 : decode cX2_findWithTwo 0 = .ok (.aload_n 0, 1) := by decide +kernel
theorem dX2_findWithTwo_1 : decode cX2_findWithTwo 1 = .ok (.getfield 27, 3) := by decide +kernel
theorem dX2_findWithTwo_4 : decode cX2_findWithTwo 4 = .ok (.iload_n 2, 1) := by decide +kernel
theorem dX2_findWithTwo_5 : decode cX2_findWithTwo 5 = .ok (.iaload, 1) := by decide +kernel
theorem dX2_findWithTwo_6 : decode cX2_findWithTwo 6 = .ok (.istore_n 3, 1) := by decide +kernel
theorem dX2_findWithTwo_7 : decode cX2_findWithTwo 7 = .ok (.iconst 0, 1) := by decide +kernel
theorem dX2_findWithTwo_8 : decode cX2_findWithTwo 8 = .ok (.istore 4, 2) := by decide +kernel
theorem dX2_findWithTwo_10 : decode cX2_findWithTwo 10 = .ok (.iload 4, 2) := by decide +kernel
theorem dX2_findWithTwo_12 : decode cX2_findWithTwo 12 = .ok (.iload_n 3, 1) := by decide +kernel
theorem dX2_findWithTwo_13 : decode cX2_findWithTwo 13 = .ok (.if_icmp .ge 88, 3) := by decide +kernel
theorem dX2_findWithTwo_16 : decode cX2_findWithTwo 16 = .ok (.aload_n 0, 1) := by decide +kernel
theorem dX2_findWithTwo_17 : decode cX2_findWithTwo 17 = .ok (.getfield 30, 3) := by decide +kernel
theorem dX2_findWithTwo_20 : decode cX2_findWithTwo 20 = .ok (.iload 4, 2) := by decide +kernel
theorem dX2_findWithTwo_22 : decode cX2_findWithTwo 22 = .ok (.iaload, 1) := by decide +kernel
theorem dX2_findWithTwo_23 : decode cX2_findWithTwo 23 = .ok (.istore 5, 2) := by decide +kernel
theorem dX2_findWithTwo_25 : decode cX2_findWithTwo 25 = .ok (.iload_n 2, 1) := by decide +kernel
theorem dX2_findWithTwo_26 : decode cX2_findWithTwo 26 = .ok (.iconst 1, 1) := by decide +kernel
theorem dX2_findWithTwo_27 : decode cX2_findWithTwo 27 = .ok (.isub, 1) := by decide +kernel
theorem dX2_findWithTwo_28 : decode cX2_findWithTwo 28 = .ok (.aload_n 0, 1) := by decide +kernel
theorem dX2_findWithTwo_29 : decode cX2_findWithTwo 29 = .ok (.getfield 9, 3) := by decide +kernel
theorem dX2_findWithTwo_32 : decode cX2_findWithTwo 32 = .ok (.iload 5, 2) := by decide +kernel
theorem dX2_findWithTwo_34 : decode cX2_findWithTwo 34 = .ok (.iaload, 1) := by decide +kernel
theorem dX2_findWithTwo_35 : decode cX2_findWithTwo 35 = .ok (.isub, 1) := by decide +kernel
theorem dX2_findWithTwo_36 : decode cX2_findWithTwo 36 = .ok (.istore 6, 2) := by decide +kernel
theorem dX2_findWithTwo_38 : decode cX2_findWithTwo 38 = .ok (.iload 6, 2) := by decide +kernel
theorem dX2_findWithTwo_40 : decode cX2_findWithTwo 40 = .ok (.iconst 1, 1) := by decide +kernel
theorem dX2_findWithTwo_41 : decode cX2_findWithTwo 41 = .ok (.if_icmp .ge 6, 3) := by decide +kernel
theorem dX2_findWithTwo_44 : decode cX2_findWithTwo 44 = .ok (.goto 51, 3) := by decide +kernel
theorem dX2_findWithTwo_47 : decode cX2_findWithTwo 47 = .ok (.aload_n 0, 1) := by decide +kernel
theorem dX2_findWithTwo_48 : decode cX2_findWithTwo 48 = .ok (.getfield 27, 3) := by decide +kernel
theorem dX2_findWithTwo_51 : decode cX2_findWithTwo 51 = .ok (.iload 6, 2) := by decide +kernel
theorem dX2_findWithTwo_53 : decode cX2_findWithTwo 53 = .ok (.iconst 1, 1) := by decide +kernel
theorem dX2_findWithTwo_54 : decode cX2_findWithTwo 54 = .ok (.iadd, 1) := by decide +kernel
theorem dX2_findWithTwo_55 : decode cX2_findWithTwo 55 = .ok (.iaload, 1) := by decide +kernel
theorem dX2_findWithTwo_56 : decode cX2_findWithTwo 56 = .ok (.istore 7, 2) := by decide +kernel
theorem dX2_findWithTwo_58 : decode cX2_findWithTwo 58 = .ok (.aload_n 0, 1) := by decide +kernel
theorem dX2_findWithTwo_59 : decode cX2_findWithTwo 59 = .ok (.getfield 27, 3) := by decide +kernel
theorem dX2_findWithTwo_62 : decode cX2_findWithTwo 62 = .ok (.iload 6, 2) := by decide +kernel
theorem dX2_findWithTwo_64 : decode cX2_findWithTwo 64 = .ok (.iaload, 1) := by decide +kernel
theorem dX2_findWithTwo_65 : decode cX2_findWithTwo 65 = .ok (.istore 8, 2) := by decide +kernel
theorem dX2_findWithTwo_67 : decode cX2_findWithTwo 67 = .ok (.iload 8, 2) := by decide +kernel
theorem dX2_findWithTwo_69 : decode cX2_findWithTwo 69 = .ok (.iload 7, 2) := by decide +kernel
theorem dX2_findWithTwo_71 : decode cX2_findWithTwo 71 = .ok (.if_icmp .ge 24, 3) := by decide +kernel
theorem dX2_findWithTwo_74 : decode cX2_findWithTwo 74 = .ok (.aload_n 0, 1) := by decide +kernel
theorem dX2_findWithTwo_75 : decode cX2_findWithTwo 75 = .ok (.iload_n 1, 1) := by decide +kernel
theorem dX2_findWithTwo_76 : decode cX2_findWithTwo 76 = .ok (.iload 5, 2) := by decide +kernel
theorem dX2_findWithTwo_78 : decode cX2_findWithTwo 78 = .ok (.aload_n 0, 1) := by decide +kernel
theorem dX2_findWithTwo_79 : decode cX2_findWithTwo 79 = .ok (.getfield 24, 3) := by decide +kernel
theorem dX2_findWithTwo_82 : decode cX2_findWithTwo 82 = .ok (.iload 8, 2) := by decide +kernel
theorem dX2_findWithTwo_84 : decode cX2_findWithTwo 84 = .ok (.iaload, 1) := by decide +kernel
theorem dX2_findWithTwo_85 : decode cX2_findWithTwo 85 = .ok (.iload_n 2, 1) := by decide +kernel
theorem dX2_findWithTwo_86 : decode cX2_findWithTwo 86 = .ok (.invokevirtual 96, 3) := by decide +kernel
theorem dX2_findWithTwo_89 : decode cX2_findWithTwo 89 = .ok (.iinc 8 1, 3) := by decide +kernel
theorem dX2_findWithTwo_92 : decode cX2_findWithTwo 92 = .ok (.goto (-25), 3) := by decide +kernel
theorem dX2_findWithTwo_95 : decode cX2_findWithTwo 95 = .ok (.iinc 4 1, 3) := by decide +kernel
theorem dX2_findWithTwo_98 : decode cX2_findWithTwo 98 = .ok (.goto (-88), 3) := by decide +kernel
theorem dX2_findWithTwo_101 : decode cX2_findWithTwo 101 = .ok (.return_, 1) := by decide +kernel
set_option maxRecDepth 20000 in
theorem ggX2_findLarger_X2_meet : GoodIn wsX2_findLarger wsX2_meet := goodIn_r _ [7, 8, 9, 1, 10, 11, 12, 2, 13, 14, 15, 16, 17, 18, 19, 20, 21, 22, 23, 24, 25, 26, 27, 28, 29, 30, 31, 32, 33, 34, 35, 36, 37, 38] (by decide +kernel) (by decide +kernel)
set_option maxRecDepth 20000 in
theorem gX2_findLarger_X2_meet : GoodIn wsX2_findLarger (wsV RX2 96 RX2 yX2_meet wsX2_meet) := goodIn_app (goodIn_of _ (by decide +kernel)) ggX2_findLarger_X2_meet
theorem dX2_findLarger_0 : decode cX2_findLarger 0 = .ok (.iconst 0, 1) := by decide +kernel
theorem dX2_findLarger_1 : decode cX2_findLarger 1 = .ok (.istore_n 1, 1) := by decide +kernel
theorem dX2_findLarger_2 : decode cX2_findLarger 2 = .ok (.iload_n 1, 1) := by decide +kernel
theorem dX2_findLarger_3 : decode cX2_findLarger 3 = .ok (.aload_n 0, 1) := by decide +kernel
theorem dX2_findLarger_4 : decode cX2_findLarger 4 = .ok (.getfield 42, 3) := by decide +kernel
theorem dX2_findLarger_7 : decode cX2_findLarger 7 = .ok (.if_icmp .ge 109, 3) := by decide +kernel
theorem dX2_findLarger_10 : decode cX2_findLarger 10 = .ok (.iload_n 1, 1) := by decide +kernel
theorem dX2_findLarger_11 : decode cX2_findLarger 11 = .ok (.sipush 256, 3) := by decide +kernel
theorem dX2_findLarger_14 : decode cX2_findLarger 14 = .ok (.if_icmp .ge 102, 3) := by decide +kernel
theorem dX2_findLarger_17 : decode cX2_findLarger 17 = .ok (.iconst 3, 1) := by decide +kernel
theorem dX2_findLarger_18 : decode cX2_findLarger 18 = .ok (.istore_n 2, 1) := by decide +kernel
theorem dX2_findLarger_19 : decode cX2_findLarger 19 = .ok (.iload_n 2, 1) := by decide +kernel
theorem dX2_findLarger_20 : decode cX2_findLarger 20 = .ok (.iconst 5, 1) := by decide +kernel
theorem dX2_findLarger_21 : decode cX2_findLarger 21 = .ok (.if_icmp .ge 24, 3) := by decide +kernel
theorem dX2_findLarger_24 : decode cX2_findLarger 24 = .ok (.aload_n 0, 1) := by decide +kernel
theorem dX2_findLarger_25 : decode cX2_findLarger 25 = .ok (.iload_n 2, 1) := by decide +kernel
theorem dX2_findLarger_26 : decode cX2_findLarger 26 = .ok (.aload_n 0, 1) := by decide +kernel
theorem dX2_findLarger_27 : decode cX2_findLarger 27 = .ok (.getfield 24, 3) := by decide +kernel
theorem dX2_findLarger_30 : decode cX2_findLarger 30 = .ok (.iload_n 1, 1) := by decide +kernel
theorem dX2_findLarger_31 : decode cX2_findLarger 31 = .ok (.iaload, 1) := by decide +kernel
theorem dX2_findLarger_32 : decode cX2_findLarger 32 = .ok (.bipush 17, 2) := by decide +kernel
theorem dX2_findLarger_34 : decode cX2_findLarger 34 = .ok (.bipush 33, 2) := by decide +kernel
theorem dX2_findLarger_36 : decode cX2_findLarger 36 = .ok (.invokevirtual 96, 3) := by decide +kernel
theorem dX2_findLarger_39 : decode cX2_findLarger 39 = .ok (.iinc 2 1, 3) := by decide +kernel
theorem dX2_findLarger_42 : decode cX2_findLarger 42 = .ok (.goto (-23), 3) := by decide +kernel
theorem dX2_findLarger_45 : decode cX2_findLarger 45 = .ok (.iconst 0, 1) := by decide +kernel
theorem dX2_findLarger_46 : decode cX2_findLarger 46 = .ok (.istore_n 2, 1) := by decide +kernel
theorem dX2_findLarger_47 : decode cX2_findLarger 47 = .ok (.iload_n 2, 1) := by decide +kernel
theorem dX2_findLarger_48 : decode cX2_findLarger 48 = .ok (.iload_n 1, 1) := by decide +kernel
theorem dX2_findLarger_49 : decode cX2_findLarger 49 = .ok (.if_icmp .gt 61, 3) := by decide +kernel
theorem dX2_findLarger_52 : decode cX2_findLarger 52 = .ok (.iconst 5, 1) := by decide +kernel
theorem dX2_findLarger_53 : decode cX2_findLarger 53 = .ok (.istore_n 3, 1) := by decide +kernel
theorem dX2_findLarger_54 : decode cX2_findLarger 54 = .ok (.iload_n 3, 1) := by decide +kernel
theorem dX2_findLarger_55 : decode cX2_findLarger 55 = .ok (.bipush 8, 2) := by decide +kernel
theorem dX2_findLarger_57 : decode cX2_findLarger 57 = .ok (.if_icmp .ge 47, 3) := by decide +kernel
theorem dX2_findLarger_60 : decode cX2_findLarger 60 = .ok (.aload_n 0, 1) := by decide +kernel
theorem dX2_findLarger_61 : decode cX2_findLarger 61 = .ok (.iload_n 3, 1) := by decide +kernel
theorem dX2_findLarger_62 : decode cX2_findLarger 62 = .ok (.aload_n 0, 1) := by decide +kernel
theorem dX2_findLarger_63 : decode cX2_findLarger 63 = .ok (.getfield 24, 3) := by decide +kernel
theorem dX2_findLarger_66 : decode cX2_findLarger 66 = .ok (.iload_n 1, 1) := by decide +kernel
theorem dX2_findLarger_67 : decode cX2_findLarger 67 = .ok (.iaload, 1) := by decide +kernel
theorem dX2_findLarger_68 : decode cX2_findLarger 68 = .ok (.aload_n 0, 1) := by decide +kernel
theorem dX2_findLarger_69 : decode cX2_findLarger 69 = .ok (.getfield 24, 3) := by decide +kernel
theorem dX2_findLarger_72 : decode cX2_findLarger 72 = .ok (.iload_n 2, 1) := by decide +kernel
theorem dX2_findLarger_73 : decode cX2_findLarger 73 = .ok (.iaload, 1) := by decide +kernel
theorem dX2_findLarger_74 : decode cX2_findLarger 74 = .ok (.bipush 33, 2) := by decide +kernel
theorem dX2_findLarger_76 : decode cX2_findLarger 76 = .ok (.invokevirtual 96, 3) := by decide +kernel
theorem dX2_findLarger_79 : decode cX2_findLarger 79 = .ok (.aload_n 0, 1) := by decide +kernel
theorem dX2_findLarger_80 : decode cX2_findLarger 80 = .ok (.iload_n 3, 1) := by decide +kernel
theorem dX2_findLarger_81 : decode cX2_findLarger 81 = .ok (.aload_n 0, 1) := by decide +kernel
theorem dX2_findLarger_82 : decode cX2_findLarger 82 = .ok (.getfield 24, 3) := by decide +kernel
theorem dX2_findLarger_85 : decode cX2_findLarger 85 = .ok (.iload_n 2, 1) := by decide +kernel
theorem dX2_findLarger_86 : decode cX2_findLarger 86 = .ok (.iaload, 1) := by decide +kernel
theorem dX2_findLarger_87 : decode cX2_findLarger 87 = .ok (.aload_n 0, 1) := by decide +kernel
theorem dX2_findLarger_88 : decode cX2_findLarger 88 = .ok (.getfield 24, 3) := by decide +kernel
theorem dX2_findLarger_91 : decode cX2_findLarger 91 = .ok (.iload_n 1, 1) := by decide +kernel
theorem dX2_findLarger_92 : decode cX2_findLarger 92 = .ok (.iaload, 1) := by decide +kernel
theorem dX2_findLarger_93 : decode cX2_findLarger 93 = .ok (.bipush 33, 2) := by decide +kernel
theorem dX2_findLarger_95 : decode cX2_findLarger 95 = .ok (.invokevirtual 96, 3) := by decide +kernel
theorem dX2_findLarger_98 : decode cX2_findLarger 98 = .ok (.iinc 3 1, 3) := by decide +kernel
theorem dX2_findLarger_101 : decode cX2_findLarger 101 = .ok (.goto (-47), 3) := by decide +kernel
theorem dX2_findLarger_104 : decode cX2_findLarger 104 = .ok (.iinc 2 1, 3) := by decide +kernel
theorem dX2_findLarger_107 : decode cX2_findLarger 107 = .ok (.goto (-60), 3) := by decide +kernel
theorem dX2_findLarger_110 : decode cX2_findLarger 110 = .ok (.iinc 1 1, 3) := by decide +kernel
theorem dX2_findLarger_113 : decode cX2_findLarger 113 = .ok (.goto (-111), 3) := by decide +kernel
theorem dX2_findLarger_116 : decode cX2_findLarger 116 = .ok (.return_, 1) := by decide +kernel
set_option maxRecDepth 20000 in
theorem ggX2_meet_X4_profileOf : GoodIn wsX2_meet wsX4_profileOf := goodIn_r _ [12, 13, 14, 15, 29, 30, 31, 32, 33] (by decide +kernel) (by decide +kernel)
set_option maxRecDepth 20000 in
theorem gX2_meet_X4_profileOf : GoodIn wsX2_meet (wsV RX2 100 RX4 yX4_profileOf wsX4_profileOf) := goodIn_app (goodIn_of _ (by decide +kernel)) ggX2_meet_X4_profileOf
theorem dX2_meet_0 : decode cX2_meet 0 = .ok (.aload_n 0, 1) := by decide +kernel
theorem dX2_meet_1 : decode cX2_meet 1 = .ok (.getfield 50, 3) := by decide +kernel
theorem dX2_meet_4 : decode cX2_meet 4 = .ok (.iload_n 1, 1) := by decide +kernel
theorem dX2_meet_5 : decode cX2_meet 5 = .ok (.iload_n 2, 1) := by decide +kernel
theorem dX2_meet_6 : decode cX2_meet 6 = .ok (.iload_n 3, 1) := by decide +kernel
theorem dX2_meet_7 : decode cX2_meet 7 = .ok (.invokevirtual 100, 3) := by decide +kernel
theorem dX2_meet_10 : decode cX2_meet 10 = .ok (.istore 5, 2) := by decide +kernel
theorem dX2_meet_12 : decode cX2_meet 12 = .ok (.aload_n 0, 1) := by decide +kernel
theorem dX2_meet_13 : decode cX2_meet 13 = .ok (.getfield 9, 3) := by decide +kernel
theorem dX2_meet_16 : decode cX2_meet 16 = .ok (.iload 5, 2) := by decide +kernel
theorem dX2_meet_18 : decode cX2_meet 18 = .ok (.iaload, 1) := by decide +kernel
theorem dX2_meet_19 : decode cX2_meet 19 = .ok (.ifCond .ne 13, 3) := by decide +kernel
theorem dX2_meet_22 : decode cX2_meet 22 = .ok (.aload_n 0, 1) := by decide +kernel
theorem dX2_meet_23 : decode cX2_meet 23 = .ok (.getfield 42, 3) := by decide +kernel
theorem dX2_meet_26 : decode cX2_meet 26 = .ok (.sipush 256, 3) := by decide +kernel
theorem dX2_meet_29 : decode cX2_meet 29 = .ok (.if_icmp .lt 4, 3) := by decide +kernel
theorem dX2_meet_32 : decode cX2_meet 32 = .ok (.return_, 1) := by decide +kernel
theorem dX2_meet_33 : decode cX2_meet 33 = .ok (.aload_n 0, 1) := by decide +kernel
theorem dX2_meet_34 : decode cX2_meet 34 = .ok (.getfield 9, 3) := by decide +kernel
theorem dX2_meet_37 : decode cX2_meet 37 = .ok (.iload 5, 2) := by decide +kernel
theorem dX2_meet_39 : decode cX2_meet 39 = .ok (.iload 4, 2) := by decide +kernel
theorem dX2_meet_41 : decode cX2_meet 41 = .ok (.iastore, 1) := by decide +kernel
theorem dX2_meet_42 : decode cX2_meet 42 = .ok (.aload_n 0, 1) := by decide +kernel
theorem dX2_meet_43 : decode cX2_meet 43 = .ok (.getfield 15, 3) := by decide +kernel
theorem dX2_meet_46 : decode cX2_meet 46 = .ok (.iload 5, 2) := by decide +kernel
theorem dX2_meet_48 : decode cX2_meet 48 = .ok (.iload_n 1, 1) := by decide +kernel
theorem dX2_meet_49 : decode cX2_meet 49 = .ok (.iastore, 1) := by decide +kernel
theorem dX2_meet_50 : decode cX2_meet 50 = .ok (.aload_n 0, 1) := by decide +kernel
theorem dX2_meet_51 : decode cX2_meet 51 = .ok (.getfield 18, 3) := by decide +kernel
theorem dX2_meet_54 : decode cX2_meet 54 = .ok (.iload 5, 2) := by decide +kernel
theorem dX2_meet_56 : decode cX2_meet 56 = .ok (.iload_n 2, 1) := by decide +kernel
theorem dX2_meet_57 : decode cX2_meet 57 = .ok (.iastore, 1) := by decide +kernel
theorem dX2_meet_58 : decode cX2_meet 58 = .ok (.aload_n 0, 1) := by decide +kernel
theorem dX2_meet_59 : decode cX2_meet 59 = .ok (.getfield 21, 3) := by decide +kernel
theorem dX2_meet_62 : decode cX2_meet 62 = .ok (.iload 5, 2) := by decide +kernel
theorem dX2_meet_64 : decode cX2_meet 64 = .ok (.iload_n 3, 1) := by decide +kernel
theorem dX2_meet_65 : decode cX2_meet 65 = .ok (.iastore, 1) := by decide +kernel
theorem dX2_meet_66 : decode cX2_meet 66 = .ok (.aload_n 0, 1) := by decide +kernel
theorem dX2_meet_67 : decode cX2_meet 67 = .ok (.getfield 24, 3) := by decide +kernel
theorem dX2_meet_70 : decode cX2_meet 70 = .ok (.aload_n 0, 1) := by decide +kernel
theorem dX2_meet_71 : decode cX2_meet 71 = .ok (.getfield 42, 3) := by decide +kernel
theorem dX2_meet_74 : decode cX2_meet 74 = .ok (.iload 5, 2) := by decide +kernel
theorem dX2_meet_76 : decode cX2_meet 76 = .ok (.iastore, 1) := by decide +kernel
theorem dX2_meet_77 : decode cX2_meet 77 = .ok (.aload_n 0, 1) := by decide +kernel
theorem dX2_meet_78 : decode cX2_meet 78 = .ok (.dup, 1) := by decide +kernel
theorem dX2_meet_79 : decode cX2_meet 79 = .ok (.getfield 42, 3) := by decide +kernel
theorem dX2_meet_82 : decode cX2_meet 82 = .ok (.iconst 1, 1) := by decide +kernel
theorem dX2_meet_83 : decode cX2_meet 83 = .ok (.iadd, 1) := by decide +kernel
theorem dX2_meet_84 : decode cX2_meet 84 = .ok (.putfield 42, 3) := by decide +kernel
theorem dX2_meet_87 : decode cX2_meet 87 = .ok (.return_, 1) := by decide +kernel
set_option maxRecDepth 20000 in
theorem ggX2_sortIn_X2_isWrittenBefore : GoodIn wsX2_sortIn wsX2_isWrittenBefore := goodIn_r _ [9, 10, 11, 4, 12, 13, 14, 15, 16, 17, 18, 19, 20, 21, 22, 23, 24, 25] (by decide +kernel) (by decide +kernel)
set_option maxRecDepth 20000 in
theorem gX2_sortIn_X2_isWrittenBefore : GoodIn wsX2_sortIn (wsV RX2 104 RX2 yX2_isWrittenBefore wsX2_isWrittenBefore) := goodIn_app (goodIn_of _ (by decide +kernel)) ggX2_sortIn_X2_isWrittenBefore
theorem dX2_sortIn_0 : decode cX2_sortIn 0 = .ok (.iload_n 1, 1) := by decide +kernel
theorem dX2_sortIn_1 : decode cX2_sortIn 1 = .ok (.iconst 1, 1) := by decide +kernel
theorem dX2_sortIn_2 : decode cX2_sortIn 2 = .ok (.isub, 1) := by decide +kernel
theorem dX2_sortIn_3 : decode cX2_sortIn 3 = .ok (.istore_n 2, 1) := by decide +kernel
theorem dX2_sortIn_4 : decode cX2_sortIn 4 = .ok (.aload_n 0, 1) := by decide +kernel
theorem dX2_sortIn_5 : decode cX2_sortIn 5 = .ok (.getfield 42, 3) := by decide +kernel
theorem dX2_sortIn_8 : decode cX2_sortIn 8 = .ok (.iconst 1, 1) := by decide +kernel
theorem dX2_sortIn_9 : decode cX2_sortIn 9 = .ok (.isub, 1) := by decide +kernel
theorem dX2_sortIn_10 : decode cX2_sortIn 10 = .ok (.istore_n 3, 1) := by decide +kernel
theorem dX2_sortIn_11 : decode cX2_sortIn 11 = .ok (.aload_n 0, 1) := by decide +kernel
theorem dX2_sortIn_12 : decode cX2_sortIn 12 = .ok (.getfield 42, 3) := by decide +kernel
theorem dX2_sortIn_15 : decode cX2_sortIn 15 = .ok (.iconst 1, 1) := by decide +kernel
theorem dX2_sortIn_16 : decode cX2_sortIn 16 = .ok (.isub, 1) := by decide +kernel
theorem dX2_sortIn_17 : decode cX2_sortIn 17 = .ok (.istore 4, 2) := by decide +kernel
theorem dX2_sortIn_19 : decode cX2_sortIn 19 = .ok (.iload 4, 2) := by decide +kernel
theorem dX2_sortIn_21 : decode cX2_sortIn 21 = .ok (.ifCond .lt 72, 3) := by decide +kernel
theorem dX2_sortIn_24 : decode cX2_sortIn 24 = .ok (.iload_n 3, 1) := by decide +kernel
theorem dX2_sortIn_25 : decode cX2_sortIn 25 = .ok (.iload_n 1, 1) := by decide +kernel
theorem dX2_sortIn_26 : decode cX2_sortIn 26 = .ok (.if_icmp .lt 67, 3) := by decide +kernel
theorem dX2_sortIn_29 : decode cX2_sortIn 29 = .ok (.iload_n 2, 1) := by decide +kernel
theorem dX2_sortIn_30 : decode cX2_sortIn 30 = .ok (.ifCond .lt 41, 3) := by decide +kernel
theorem dX2_sortIn_33 : decode cX2_sortIn 33 = .ok (.aload_n 0, 1) := by decide +kernel
theorem dX2_sortIn_34 : decode cX2_sortIn 34 = .ok (.aload_n 0, 1) := by decide +kernel
theorem dX2_sortIn_35 : decode cX2_sortIn 35 = .ok (.getfield 24, 3) := by decide +kernel
theorem dX2_sortIn_38 : decode cX2_sortIn 38 = .ok (.iload_n 3, 1) := by decide +kernel
theorem dX2_sortIn_39 : decode cX2_sortIn 39 = .ok (.iaload, 1) := by decide +kernel
theorem dX2_sortIn_40 : decode cX2_sortIn 40 = .ok (.aload_n 0, 1) := by decide +kernel
theorem dX2_sortIn_41 : decode cX2_sortIn 41 = .ok (.getfield 30, 3) := by decide +kernel
theorem dX2_sortIn_44 : decode cX2_sortIn 44 = .ok (.iload_n 2, 1) := by decide +kernel
theorem dX2_sortIn_45 : decode cX2_sortIn 45 = .ok (.iaload, 1) := by decide +kernel
theorem dX2_sortIn_46 : decode cX2_sortIn 46 = .ok (.invokevirtual 104, 3) := by decide +kernel
theorem dX2_sortIn_49 : decode cX2_sortIn 49 = .ok (.ifCond .eq 22, 3) := by decide +kernel
theorem dX2_sortIn_52 : decode cX2_sortIn 52 = .ok (.aload_n 0, 1) := by decide +kernel
theorem dX2_sortIn_53 : decode cX2_sortIn 53 = .ok (.getfield 30, 3) := by decide +kernel
theorem dX2_sortIn_56 : decode cX2_sortIn 56 = .ok (.iload 4, 2) := by decide +kernel
theorem dX2_sortIn_58 : decode cX2_sortIn 58 = .ok (.aload_n 0, 1) := by decide +kernel
theorem dX2_sortIn_59 : decode cX2_sortIn 59 = .ok (.getfield 30, 3) := by decide +kernel
theorem dX2_sortIn_62 : decode cX2_sortIn 62 = .ok (.iload_n 2, 1) := by decide +kernel
theorem dX2_sortIn_63 : decode cX2_sortIn 63 = .ok (.iaload, 1) := by decide +kernel
theorem dX2_sortIn_64 : decode cX2_sortIn 64 = .ok (.iastore, 1) := by decide +kernel
theorem dX2_sortIn_65 : decode cX2_sortIn 65 = .ok (.iinc 2 (-1), 3) := by decide +kernel
theorem dX2_sortIn_68 : decode cX2_sortIn 68 = .ok (.goto 19, 3) := by decide +kernel
theorem dX2_sortIn_71 : decode cX2_sortIn 71 = .ok (.aload_n 0, 1) := by decide +kernel
theorem dX2_sortIn_72 : decode cX2_sortIn 72 = .ok (.getfield 30, 3) := by decide +kernel
theorem dX2_sortIn_75 : decode cX2_sortIn 75 = .ok (.iload 4, 2) := by decide +kernel
theorem dX2_sortIn_77 : decode cX2_sortIn 77 = .ok (.aload_n 0, 1) := by decide +kernel
theorem dX2_sortIn_78 : decode cX2_sortIn 78 = .ok (.getfield 24, 3) := by decide +kernel
theorem dX2_sortIn_81 : decode cX2_sortIn 81 = .ok (.iload_n 3, 1) := by decide +kernel
theorem dX2_sortIn_82 : decode cX2_sortIn 82 = .ok (.iaload, 1) := by decide +kernel
theorem dX2_sortIn_83 : decode cX2_sortIn 83 = .ok (.iastore, 1) := by decide +kernel
theorem dX2_sortIn_84 : decode cX2_sortIn 84 = .ok (.iinc 3 (-1), 3) := by decide +kernel
theorem dX2_sortIn_87 : decode cX2_sortIn 87 = .ok (.iinc 4 (-1), 3) := by decide +kernel
theorem dX2_sortIn_90 : decode cX2_sortIn 90 = .ok (.goto (-71), 3) := by decide +kernel
theorem dX2_sortIn_93 : decode cX2_sortIn 93 = .ok (.iconst 0, 1) := by decide +kernel
theorem dX2_sortIn_94 : decode cX2_sortIn 94 = .ok (.istore 4, 2) := by decide +kernel
theorem dX2_sortIn_96 : decode cX2_sortIn 96 = .ok (.iload 4, 2) := by decide +kernel
theorem dX2_sortIn_98 : decode cX2_sortIn 98 = .ok (.aload_n 0, 1) := by decide +kernel
theorem dX2_sortIn_99 : decode cX2_sortIn 99 = .ok (.getfield 42, 3) := by decide +kernel
theorem dX2_sortIn_102 : decode cX2_sortIn 102 = .ok (.if_icmp .ge 23, 3) := by decide +kernel
theorem dX2_sortIn_105 : decode cX2_sortIn 105 = .ok (.aload_n 0, 1) := by decide +kernel
theorem dX2_sortIn_106 : decode cX2_sortIn 106 = .ok (.getfield 33, 3) := by decide +kernel
theorem dX2_sortIn_109 : decode cX2_sortIn 109 = .ok (.aload_n 0, 1) := by decide +kernel
theorem dX2_sortIn_110 : decode cX2_sortIn 110 = .ok (.getfield 30, 3) := by decide +kernel
theorem dX2_sortIn_113 : decode cX2_sortIn 113 = .ok (.iload 4, 2) := by decide +kernel
theorem dX2_sortIn_115 : decode cX2_sortIn 115 = .ok (.iaload, 1) := by decide +kernel
theorem dX2_sortIn_116 : decode cX2_sortIn 116 = .ok (.iload 4, 2) := by decide +kernel
theorem dX2_sortIn_118 : decode cX2_sortIn 118 = .ok (.iastore, 1) := by decide +kernel
theorem dX2_sortIn_119 : decode cX2_sortIn 119 = .ok (.iinc 4 1, 3) := by decide +kernel
theorem dX2_sortIn_122 : decode cX2_sortIn 122 = .ok (.goto (-26), 3) := by decide +kernel
theorem dX2_sortIn_125 : decode cX2_sortIn 125 = .ok (.return_, 1) := by decide +kernel
theorem dX2_isWrittenBefore_0 : decode cX2_isWrittenBefore 0 = .ok (.aload_n 0, 1) := by decide +kernel
theorem dX2_isWrittenBefore_1 : decode cX2_isWrittenBefore 1 = .ok (.getfield 15, 3) := by decide +kernel
theorem dX2_isWrittenBefore_4 : decode cX2_isWrittenBefore 4 = .ok (.iload_n 1, 1) := by decide +kernel
theorem dX2_isWrittenBefore_5 : decode cX2_isWrittenBefore 5 = .ok (.iaload, 1) := by decide +kernel
theorem dX2_isWrittenBefore_6 : decode cX2_isWrittenBefore 6 = .ok (.aload_n 0, 1) := by decide +kernel
theorem dX2_isWrittenBefore_7 : decode cX2_isWrittenBefore 7 = .ok (.getfield 15, 3) := by decide +kernel
theorem dX2_isWrittenBefore_10 : decode cX2_isWrittenBefore 10 = .ok (.iload_n 2, 1) := by decide +kernel
theorem dX2_isWrittenBefore_11 : decode cX2_isWrittenBefore 11 = .ok (.iaload, 1) := by decide +kernel
theorem dX2_isWrittenBefore_12 : decode cX2_isWrittenBefore 12 = .ok (.if_icmp .eq 24, 3) := by decide +kernel
theorem dX2_isWrittenBefore_15 : decode cX2_isWrittenBefore 15 = .ok (.aload_n 0, 1) := by decide +kernel
theorem dX2_isWrittenBefore_16 : decode cX2_isWrittenBefore 16 = .ok (.getfield 15, 3) := by decide +kernel
theorem dX2_isWrittenBefore_19 : decode cX2_isWrittenBefore 19 = .ok (.iload_n 1, 1) := by decide +kernel
theorem dX2_isWrittenBefore_20 : decode cX2_isWrittenBefore 20 = .ok (.iaload, 1) := by decide +kernel
theorem dX2_isWrittenBefore_21 : decode cX2_isWrittenBefore 21 = .ok (.aload_n 0, 1) := by decide +kernel
theorem dX2_isWrittenBefore_22 : decode cX2_isWrittenBefore 22 = .ok (.getfield 15, 3) := by decide +kernel
theorem dX2_isWrittenBefore_25 : decode cX2_isWrittenBefore 25 = .ok (.iload_n 2, 1) := by decide +kernel
theorem dX2_isWrittenBefore_26 : decode cX2_isWrittenBefore 26 = .ok (.iaload, 1) := by decide +kernel
theorem dX2_isWrittenBefore_27 : decode cX2_isWrittenBefore 27 = .ok (.if_icmp .ge 7, 3) := by decide +kernel
theorem dX2_isWrittenBefore_30 : decode cX2_isWrittenBefore 30 = .ok (.iconst 1, 1) := by decide +kernel
theorem dX2_isWrittenBefore_31 : decode cX2_isWrittenBefore 31 = .ok (.goto 4, 3) := by decide +kernel
theorem dX2_isWrittenBefore_34 : decode cX2_isWrittenBefore 34 = .ok (.iconst 0, 1) := by decide +kernel
theorem dX2_isWrittenBefore_35 : decode cX2_isWrittenBefore 35 = .ok (.ireturn, 1) := by decide +kernel
theorem dX2_isWrittenBefore_36 : decode cX2_isWrittenBefore 36 = .ok (.aload_n 0, 1) := by decide +kernel
theorem dX2_isWrittenBefore_37 : decode cX2_isWrittenBefore 37 = .ok (.getfield 18, 3) := by decide +kernel
theorem dX2_isWrittenBefore_40 : decode cX2_isWrittenBefore 40 = .ok (.iload_n 1, 1) := by decide +kernel
theorem dX2_isWrittenBefore_41 : decode cX2_isWrittenBefore 41 = .ok (.iaload, 1) := by decide +kernel
theorem dX2_isWrittenBefore_42 : decode cX2_isWrittenBefore 42 = .ok (.aload_n 0, 1) := by decide +kernel
theorem dX2_isWrittenBefore_43 : decode cX2_isWrittenBefore 43 = .ok (.getfield 18, 3) := by decide +kernel
theorem dX2_isWrittenBefore_46 : decode cX2_isWrittenBefore 46 = .ok (.iload_n 2, 1) := by decide +kernel
theorem dX2_isWrittenBefore_47 : decode cX2_isWrittenBefore 47 = .ok (.iaload, 1) := by decide +kernel
theorem dX2_isWrittenBefore_48 : decode cX2_isWrittenBefore 48 = .ok (.if_icmp .eq 34, 3) := by decide +kernel
theorem dX2_isWrittenBefore_51 : decode cX2_isWrittenBefore 51 = .ok (.aload_n 0, 1) := by decide +kernel
theorem dX2_isWrittenBefore_52 : decode cX2_isWrittenBefore 52 = .ok (.getfield 33, 3) := by decide +kernel
theorem dX2_isWrittenBefore_55 : decode cX2_isWrittenBefore 55 = .ok (.aload_n 0, 1) := by decide +kernel
theorem dX2_isWrittenBefore_56 : decode cX2_isWrittenBefore 56 = .ok (.getfield 18, 3) := by decide +kernel
theorem dX2_isWrittenBefore_59 : decode cX2_isWrittenBefore 59 = .ok (.iload_n 1, 1) := by decide +kernel
theorem dX2_isWrittenBefore_60 : decode cX2_isWrittenBefore 60 = .ok (.iaload, 1) := by decide +kernel
theorem dX2_isWrittenBefore_61 : decode cX2_isWrittenBefore 61 = .ok (.iaload, 1) := by decide +kernel
theorem dX2_isWrittenBefore_62 : decode cX2_isWrittenBefore 62 = .ok (.aload_n 0, 1) := by decide +kernel
theorem dX2_isWrittenBefore_63 : decode cX2_isWrittenBefore 63 = .ok (.getfield 33, 3) := by decide +kernel
theorem dX2_isWrittenBefore_66 : decode cX2_isWrittenBefore 66 = .ok (.aload_n 0, 1) := by decide +kernel
theorem dX2_isWrittenBefore_67 : decode cX2_isWrittenBefore 67 = .ok (.getfield 18, 3) := by decide +kernel
theorem dX2_isWrittenBefore_70 : decode cX2_isWrittenBefore 70 = .ok (.iload_n 2, 1) := by decide +kernel
theorem dX2_isWrittenBefore_71 : decode cX2_isWrittenBefore 71 = .ok (.iaload, 1) := by decide +kernel
theorem dX2_isWrittenBefore_72 : decode cX2_isWrittenBefore 72 = .ok (.iaload, 1) := by decide +kernel
theorem dX2_isWrittenBefore_73 : decode cX2_isWrittenBefore 73 = .ok (.if_icmp .ge 7, 3) := by decide +kernel
theorem dX2_isWrittenBefore_76 : decode cX2_isWrittenBefore 76 = .ok (.iconst 1, 1) := by decide +kernel
theorem dX2_isWrittenBefore_77 : decode cX2_isWrittenBefore 77 = .ok (.goto 4, 3) := by decide +kernel
theorem dX2_isWrittenBefore_80 : decode cX2_isWrittenBefore 80 = .ok (.iconst 0, 1) := by decide +kernel
theorem dX2_isWrittenBefore_81 : decode cX2_isWrittenBefore 81 = .ok (.ireturn, 1) := by decide +kernel
theorem dX2_isWrittenBefore_82 : decode cX2_isWrittenBefore 82 = .ok (.aload_n 0, 1) := by decide +kernel
theorem dX2_isWrittenBefore_83 : decode cX2_isWrittenBefore 83 = .ok (.getfield 33, 3) := by decide +kernel
theorem dX2_isWrittenBefore_86 : decode cX2_isWrittenBefore 86 = .ok (.aload_n 0, 1) := by decide +kernel
theorem dX2_isWrittenBefore_87 : decode cX2_isWrittenBefore 87 = .ok (.getfield 21, 3) := by decide +kernel
theorem dX2_isWrittenBefore_90 : decode cX2_isWrittenBefore 90 = .ok (.iload_n 1, 1) := by decide +kernel
theorem dX2_isWrittenBefore_91 : decode cX2_isWrittenBefore 91 = .ok (.iaload, 1) := by decide +kernel
theorem dX2_isWrittenBefore_92 : decode cX2_isWrittenBefore 92 = .ok (.iaload, 1) := by decide +kernel
theorem dX2_isWrittenBefore_93 : decode cX2_isWrittenBefore 93 = .ok (.aload_n 0, 1) := by decide +kernel
theorem dX2_isWrittenBefore_94 : decode cX2_isWrittenBefore 94 = .ok (.getfield 33, 3) := by decide +kernel
theorem dX2_isWrittenBefore_97 : decode cX2_isWrittenBefore 97 = .ok (.aload_n 0, 1) := by decide +kernel
theorem dX2_isWrittenBefore_98 : decode cX2_isWrittenBefore 98 = .ok (.getfield 21, 3) := by decide +kernel
theorem dX2_isWrittenBefore_101 : decode cX2_isWrittenBefore 101 = .ok (.iload_n 2, 1) := by decide +kernel
theorem dX2_isWrittenBefore_102 : decode cX2_isWrittenBefore 102 = .ok (.iaload, 1) := by decide +kernel
theorem dX2_isWrittenBefore_103 : decode cX2_isWrittenBefore 103 = .ok (.iaload, 1) := by decide +kernel
theorem dX2_isWrittenBefore_104 : decode cX2_isWrittenBefore 104 = .ok (.if_icmp .ge 7, 3) := by decide +kernel
theorem dX2_isWrittenBefore_107 : decode cX2_isWrittenBefore 107 = .ok (.iconst 1, 1) := by decide +kernel
theorem dX2_isWrittenBefore_108 : decode cX2_isWrittenBefore 108 = .ok (.goto 4, 3) := by decide +kernel
theorem dX2_isWrittenBefore_111 : decode cX2_isWrittenBefore 111 = .ok (.iconst 0, 1) := by decide +kernel
theorem dX2_isWrittenBefore_112 : decode cX2_isWrittenBefore 112 = .ok (.ireturn, 1) := by decide +kernel
end
section
theorem dX3_init_0 : decode cX3_init 0 = .ok (.aload_n 0, 1) := by decide +kernel
theorem dX3_init_1 : decode cX3_init 1 = .ok (.invokespecial 3, 3) := by decide +kernel
theorem dX3_init_4 : decode cX3_init 4 = .ok (.aload_n 0, 1) := by decide +kernel
theorem dX3_init_5 : decode cX3_init 5 = .ok (.sipush 128, 3) := by decide +kernel
theorem dX3_init_8 : decode cX3_init 8 = .ok (.newarray .int, 2) := by decide +kernel
theorem dX3_init_10 : decode cX3_init 10 = .ok (.putfield 9, 3) := by decide +kernel
theorem dX3_init_13 : decode cX3_init 13 = .ok (.aload_n 0, 1) := by decide +kernel
theorem dX3_init_14 : decode cX3_init 14 = .ok (.sipush 2048, 3) := by decide +kernel
theorem dX3_init_17 : decode cX3_init 17 = .ok (.newarray .int, 2) := by decide +kernel
theorem dX3_init_19 : decode cX3_init 19 = .ok (.putfield 15, 3) := by decide +kernel
theorem dX3_init_22 : decode cX3_init 22 = .ok (.aload_n 0, 1) := by decide +kernel
theorem dX3_init_23 : decode cX3_init 23 = .ok (.iconst 0, 1) := by decide +kernel
theorem dX3_init_24 : decode cX3_init 24 = .ok (.putfield 18, 3) := by decide +kernel
theorem dX3_init_27 : decode cX3_init 27 = .ok (.return_, 1) := by decide +kernel
theorem dX3_leads_0 : decode cX3_leads 0 = .ok (.aload_n 0, 1) := by decide +kernel
theorem dX3_leads_1 : decode cX3_leads 1 = .ok (.getfield 9, 3) := by decide +kernel
theorem dX3_leads_4 : decode cX3_leads 4 = .ok (.iload_n 1, 1) := by decide +kernel
theorem dX3_leads_5 : decode cX3_leads 5 = .ok (.iaload, 1) := by decide +kernel
theorem dX3_leads_6 : decode cX3_leads 6 = .ok (.iload_n 2, 1) := by decide +kernel
theorem dX3_leads_7 : decode cX3_leads 7 = .ok (.ishr, 1) := by decide +kernel
theorem dX3_leads_8 : decode cX3_leads 8 = .ok (.iconst 1, 1) := by decide +kernel
theorem dX3_leads_9 : decode cX3_leads 9 = .ok (.iand, 1) := by decide +kernel
theorem dX3_leads_10 : decode cX3_leads 10 = .ok (.iconst 1, 1) := by decide +kernel
theorem dX3_leads_11 : decode cX3_leads 11 = .ok (.if_icmp .ne 7, 3) := by decide +kernel
theorem dX3_leads_14 : decode cX3_leads 14 = .ok (.iconst 1, 1) := by decide +kernel
theorem dX3_leads_15 : decode cX3_leads 15 = .ok (.goto 4, 3) := by decide +kernel
theorem dX3_leads_18 : decode cX3_leads 18 = .ok (.iconst 0, 1) := by decide +kernel
theorem dX3_leads_19 : decode cX3_leads 19 = .ok (.ireturn, 1) := by decide +kernel
set_option maxRecDepth 20000 in
theorem ggX3_turnRule_X3_rebuild : GoodIn wsX3_turnRule wsX3_rebuild := goodIn_r _ [6, 7, 1, 8, 9, 10, 11, 12, 13, 14, 5, 15, 16, 17, 18] (by decide +kernel) (by decide +kernel)
set_option maxRecDepth 20000 in
theorem gX3_turnRule_X3_rebuild : GoodIn wsX3_turnRule (wsV RX3 22 RX3 yX3_rebuild wsX3_rebuild) := goodIn_app (goodIn_of _ (by decide +kernel)) ggX3_turnRule_X3_rebuild
theorem dX3_turnRule_0 : decode cX3_turnRule 0 = .ok (.aload_n 0, 1) := by decide +kernel
theorem dX3_turnRule_1 : decode cX3_turnRule 1 = .ok (.getfield 9, 3) := by decide +kernel
theorem dX3_turnRule_4 : decode cX3_turnRule 4 = .ok (.iload_n 1, 1) := by decide +kernel
theorem dX3_turnRule_5 : decode cX3_turnRule 5 = .ok (.dup2, 1) := by decide +kernel
theorem dX3_turnRule_6 : decode cX3_turnRule 6 = .ok (.iaload, 1) := by decide +kernel
theorem dX3_turnRule_7 : decode cX3_turnRule 7 = .ok (.iconst 1, 1) := by decide +kernel
theorem dX3_turnRule_8 : decode cX3_turnRule 8 = .ok (.iload_n 2, 1) := by decide +kernel
theorem dX3_turnRule_9 : decode cX3_turnRule 9 = .ok (.ishl, 1) := by decide +kernel
theorem dX3_turnRule_10 : decode cX3_turnRule 10 = .ok (.ixor, 1) := by decide +kernel
theorem dX3_turnRule_11 : decode cX3_turnRule 11 = .ok (.iastore, 1) := by decide +kernel
theorem dX3_turnRule_12 : decode cX3_turnRule 12 = .ok (.aload_n 0, 1) := by decide +kernel
theorem dX3_turnRule_13 : decode cX3_turnRule 13 = .ok (.iload_n 1, 1) := by decide +kernel
theorem dX3_turnRule_14 : decode cX3_turnRule 14 = .ok (.bipush 16, 2) := by decide +kernel
theorem dX3_turnRule_16 : decode cX3_turnRule 16 = .ok (.idiv, 1) := by decide +kernel
theorem dX3_turnRule_17 : decode cX3_turnRule 17 = .ok (.invokevirtual 22, 3) := by decide +kernel
theorem dX3_turnRule_20 : decode cX3_turnRule 20 = .ok (.return_, 1) := by decide +kernel
theorem dX3_isGoal_0 : decode cX3_isGoal 0 = .ok (.aload_n 0, 1) := by decide +kernel
theorem dX3_isGoal_1 : decode cX3_isGoal 1 = .ok (.getfield 18, 3) := by decide +kernel
theorem dX3_isGoal_4 : decode cX3_isGoal 4 = .ok (.iload_n 1, 1) := by decide +kernel
theorem dX3_isGoal_5 : decode cX3_isGoal 5 = .ok (.ishr, 1) := by decide +kernel
theorem dX3_isGoal_6 : decode cX3_isGoal 6 = .ok (.iconst 1, 1) := by decide +kernel
theorem dX3_isGoal_7 : decode cX3_isGoal 7 = .ok (.iand, 1) := by decide +kernel
theorem dX3_isGoal_8 : decode cX3_isGoal 8 = .ok (.iconst 1, 1) := by decide +kernel
theorem dX3_isGoal_9 : decode cX3_isGoal 9 = .ok (.if_icmp .ne 7, 3) := by decide +kernel
theorem dX3_isGoal_12 : decode cX3_isGoal 12 = .ok (.iconst 1, 1) := by decide +kernel
theorem dX3_isGoal_13 : decode cX3_isGoal 13 = .ok (.goto 4, 3) := by decide +kernel
theorem dX3_isGoal_16 : decode cX3_isGoal 16 = .ok (.iconst 0, 1) := by decide +kernel
theorem dX3_isGoal_17 : decode cX3_isGoal 17 = .ok (.ireturn, 1) := by decide +kernel
theorem dX3_turnGoal_0 : decode cX3_turnGoal 0 = .ok (.aload_n 0, 1) := by decide +kernel
theorem dX3_turnGoal_1 : decode cX3_turnGoal 1 = .ok (.dup, 1) := by decide +kernel
theorem dX3_turnGoal_2 : decode cX3_turnGoal 2 = .ok (.getfield 18, 3) := by decide +kernel
theorem dX3_turnGoal_5 : decode cX3_turnGoal 5 = .ok (.iconst 1, 1) := by decide +kernel
theorem dX3_turnGoal_6 : decode cX3_turnGoal 6 = .ok (.iload_n 1, 1) := by decide +kernel
theorem dX3_turnGoal_7 : decode cX3_turnGoal 7 = .ok (.ishl, 1) := by decide +kernel
theorem dX3_turnGoal_8 : decode cX3_turnGoal 8 = .ok (.ixor, 1) := by decide +kernel
theorem dX3_turnGoal_9 : decode cX3_turnGoal 9 = .ok (.putfield 18, 3) := by decide +kernel
theorem dX3_turnGoal_12 : decode cX3_turnGoal 12 = .ok (.return_, 1) := by decide +kernel
set_option maxRecDepth 20000 in
theorem ggX3_empty_J7_fill_53178 : GoodIn wsX3_empty wsJ7_fill_53178 := goodIn_r _ [7] (by decide +kernel) (by decide +kernel)
set_option maxRecDepth 20000 in
theorem gX3_empty_J7_fill_53178 : GoodIn wsX3_empty (va_wsS RX3 26 yJ7_fill_53178 wsJ7_fill_53178) := goodIn_app (goodIn_of _ (by decide +kernel)) ggX3_empty_J7_fill_53178
theorem dX3_empty_0 : decode cX3_empty 0 = .ok (.aload_n 0, 1) := by decide +kernel
theorem dX3_empty_1 : decode cX3_empty 1 = .ok (.getfield 9, 3) := by decide +kernel
theorem dX3_empty_4 : decode cX3_empty 4 = .ok (.iconst 0, 1) := by decide +kernel
theorem dX3_empty_5 : decode cX3_empty 5 = .ok (.invokestatic 26, 3) := by decide +kernel
theorem dX3_empty_8 : decode cX3_empty 8 = .ok (.aload_n 0, 1) := by decide +kernel
theorem dX3_empty_9 : decode cX3_empty 9 = .ok (.getfield 15, 3) := by decide +kernel
theorem dX3_empty_12 : decode cX3_empty 12 = .ok (.iconst 0, 1) := by decide +kernel
theorem dX3_empty_13 : decode cX3_empty 13 = .ok (.invokestatic 26, 3) := by decide +kernel
theorem dX3_empty_16 : decode cX3_empty 16 = .ok (.aload_n 0, 1) := by decide +kernel
theorem dX3_empty_17 : decode cX3_empty 17 = .ok (.iconst 0, 1) := by decide +kernel
theorem dX3_empty_18 : decode cX3_empty 18 = .ok (.putfield 18, 3) := by decide +kernel
theorem dX3_empty_21 : decode cX3_empty 21 = .ok (.return_, 1) := by decide +kernel
theorem dX3_accepts_0 : decode cX3_accepts 0 = .ok (.iload_n 1, 1) := by decide +kernel
theorem dX3_accepts_1 : decode cX3_accepts 1 = .ok (.aload_n 0, 1) := by decide +kernel
theorem dX3_accepts_2 : decode cX3_accepts 2 = .ok (.getfield 18, 3) := by decide +kernel
theorem dX3_accepts_5 : decode cX3_accepts 5 = .ok (.iand, 1) := by decide +kernel
theorem dX3_accepts_6 : decode cX3_accepts 6 = .ok (.ifCond .eq 7, 3) := by decide +kernel
theorem dX3_accepts_9 : decode cX3_accepts 9 = .ok (.iconst 1, 1) := by decide +kernel
theorem dX3_accepts_10 : decode cX3_accepts 10 = .ok (.goto 4, 3) := by decide +kernel
theorem dX3_accepts_13 : decode cX3_accepts 13 = .ok (.iconst 0, 1) := by decide +kernel
theorem dX3_accepts_14 : decode cX3_accepts 14 = .ok (.ireturn, 1) := by decide +kernel
set_option maxRecDepth 20000 in
theorem ggX3_rebuild_X5_hasLeft : GoodIn wsX3_rebuild wsX5_hasLeft := goodIn_r _ [5] (by decide +kernel) (by decide +kernel)
set_option maxRecDepth 20000 in
theorem gX3_rebuild_X5_hasLeft_n32 : GoodIn wsX3_rebuild (wsX5_hasLeft) := ggX3_rebuild_X5_hasLeft
set_option maxRecDepth 20000 in
theorem ggX3_rebuild_X5_hasRight : GoodIn wsX3_rebuild wsX5_hasRight := goodIn_r _ [7] (by decide +kernel) (by decide +kernel)
set_option maxRecDepth 20000 in
theorem gX3_rebuild_X5_hasRight_n36 : GoodIn wsX3_rebuild (wsX5_hasRight) := ggX3_rebuild_X5_hasRight
set_option maxRecDepth 20000 in
theorem ggX3_rebuild_X3_cell : GoodIn wsX3_rebuild wsX3_cell := goodIn_r _ [11] (by decide +kernel) (by decide +kernel)
set_option maxRecDepth 20000 in
theorem gX3_rebuild_X3_cell : GoodIn wsX3_rebuild (va_wsS RX3 42 yX3_cell wsX3_cell) := goodIn_app (goodIn_of _ (by decide +kernel)) ggX3_rebuild_X3_cell
theorem dX3_rebuild_0 : decode cX3_rebuild 0 = .ok (.iload_n 1, 1) := by decide +kernel
theorem dX3_rebuild_1 : decode cX3_rebuild 1 = .ok (.invokestatic 32, 3) := by decide +kernel
theorem dX3_rebuild_4 : decode cX3_rebuild 4 = .ok (.ifCond .eq 8, 3) := by decide +kernel
theorem dX3_rebuild_7 : decode cX3_rebuild 7 = .ok (.bipush 15, 2) := by decide +kernel
theorem dX3_rebuild_9 : decode cX3_rebuild 9 = .ok (.goto 4, 3) := by decide +kernel
theorem dX3_rebuild_12 : decode cX3_rebuild 12 = .ok (.iconst 1, 1) := by decide +kernel
theorem dX3_rebuild_13 : decode cX3_rebuild 13 = .ok (.istore_n 2, 1) := by decide +kernel
theorem dX3_rebuild_14 : decode cX3_rebuild 14 = .ok (.iload_n 1, 1) := by decide +kernel
theorem dX3_rebuild_15 : decode cX3_rebuild 15 = .ok (.invokestatic 36, 3) := by decide +kernel
theorem dX3_rebuild_18 : decode cX3_rebuild 18 = .ok (.ifCond .eq 8, 3) := by decide +kernel
theorem dX3_rebuild_21 : decode cX3_rebuild 21 = .ok (.bipush 15, 2) := by decide +kernel
theorem dX3_rebuild_23 : decode cX3_rebuild 23 = .ok (.goto 4, 3) := by decide +kernel
theorem dX3_rebuild_26 : decode cX3_rebuild 26 = .ok (.iconst 1, 1) := by decide +kernel
theorem dX3_rebuild_27 : decode cX3_rebuild 27 = .ok (.istore_n 3, 1) := by decide +kernel
theorem dX3_rebuild_28 : decode cX3_rebuild 28 = .ok (.iconst 1, 1) := by decide +kernel
theorem dX3_rebuild_29 : decode cX3_rebuild 29 = .ok (.istore 4, 2) := by decide +kernel
theorem dX3_rebuild_31 : decode cX3_rebuild 31 = .ok (.iload 4, 2) := by decide +kernel
theorem dX3_rebuild_33 : decode cX3_rebuild 33 = .ok (.iload_n 2, 1) := by decide +kernel
theorem dX3_rebuild_34 : decode cX3_rebuild 34 = .ok (.if_icmp .gt 103, 3) := by decide +kernel
theorem dX3_rebuild_37 : decode cX3_rebuild 37 = .ok (.iconst 1, 1) := by decide +kernel
theorem dX3_rebuild_38 : decode cX3_rebuild 38 = .ok (.istore 5, 2) := by decide +kernel
theorem dX3_rebuild_40 : decode cX3_rebuild 40 = .ok (.iload 5, 2) := by decide +kernel
theorem dX3_rebuild_42 : decode cX3_rebuild 42 = .ok (.iload_n 3, 1) := by decide +kernel
theorem dX3_rebuild_43 : decode cX3_rebuild 43 = .ok (.if_icmp .gt 88, 3) := by decide +kernel
theorem dX3_rebuild_46 : decode cX3_rebuild 46 = .ok (.iload_n 1, 1) := by decide +kernel
theorem dX3_rebuild_47 : decode cX3_rebuild 47 = .ok (.iconst 4, 1) := by decide +kernel
theorem dX3_rebuild_48 : decode cX3_rebuild 48 = .ok (.imul, 1) := by decide +kernel
theorem dX3_rebuild_49 : decode cX3_rebuild 49 = .ok (.getstatic 39, 3) := by decide +kernel
theorem dX3_rebuild_52 : decode cX3_rebuild 52 = .ok (.iload 4, 2) := by decide +kernel
theorem dX3_rebuild_54 : decode cX3_rebuild 54 = .ok (.iaload, 1) := by decide +kernel
theorem dX3_rebuild_55 : decode cX3_rebuild 55 = .ok (.iadd, 1) := by decide +kernel
theorem dX3_rebuild_56 : decode cX3_rebuild 56 = .ok (.iconst 4, 1) := by decide +kernel
theorem dX3_rebuild_57 : decode cX3_rebuild 57 = .ok (.imul, 1) := by decide +kernel
theorem dX3_rebuild_58 : decode cX3_rebuild 58 = .ok (.getstatic 39, 3) := by decide +kernel
theorem dX3_rebuild_61 : decode cX3_rebuild 61 = .ok (.iload 5, 2) := by decide +kernel
theorem dX3_rebuild_63 : decode cX3_rebuild 63 = .ok (.iaload, 1) := by decide +kernel
theorem dX3_rebuild_64 : decode cX3_rebuild 64 = .ok (.iadd, 1) := by decide +kernel
theorem dX3_rebuild_65 : decode cX3_rebuild 65 = .ok (.istore 6, 2) := by decide +kernel
theorem dX3_rebuild_67 : decode cX3_rebuild 67 = .ok (.aload_n 0, 1) := by decide +kernel
theorem dX3_rebuild_68 : decode cX3_rebuild 68 = .ok (.getfield 15, 3) := by decide +kernel
theorem dX3_rebuild_71 : decode cX3_rebuild 71 = .ok (.iload_n 1, 1) := by decide +kernel
theorem dX3_rebuild_72 : decode cX3_rebuild 72 = .ok (.iload 4, 2) := by decide +kernel
theorem dX3_rebuild_74 : decode cX3_rebuild 74 = .ok (.iload 5, 2) := by decide +kernel
theorem dX3_rebuild_76 : decode cX3_rebuild 76 = .ok (.invokestatic 42, 3) := by decide +kernel
theorem dX3_rebuild_79 : decode cX3_rebuild 79 = .ok (.aload_n 0, 1) := by decide +kernel
theorem dX3_rebuild_80 : decode cX3_rebuild 80 = .ok (.getfield 9, 3) := by decide +kernel
theorem dX3_rebuild_83 : decode cX3_rebuild 83 = .ok (.iload 6, 2) := by decide +kernel
theorem dX3_rebuild_85 : decode cX3_rebuild 85 = .ok (.iaload, 1) := by decide +kernel
theorem dX3_rebuild_86 : decode cX3_rebuild 86 = .ok (.aload_n 0, 1) := by decide +kernel
theorem dX3_rebuild_87 : decode cX3_rebuild 87 = .ok (.getfield 15, 3) := by decide +kernel
theorem dX3_rebuild_90 : decode cX3_rebuild 90 = .ok (.iload_n 1, 1) := by decide +kernel
theorem dX3_rebuild_91 : decode cX3_rebuild 91 = .ok (.iload 4, 2) := by decide +kernel
theorem dX3_rebuild_93 : decode cX3_rebuild 93 = .ok (.iload 4, 2) := by decide +kernel
theorem dX3_rebuild_95 : decode cX3_rebuild 95 = .ok (.iconst 1, 1) := by decide +kernel
theorem dX3_rebuild_96 : decode cX3_rebuild 96 = .ok (.isub, 1) := by decide +kernel
theorem dX3_rebuild_97 : decode cX3_rebuild 97 = .ok (.iand, 1) := by decide +kernel
theorem dX3_rebuild_98 : decode cX3_rebuild 98 = .ok (.iload 5, 2) := by decide +kernel
theorem dX3_rebuild_100 : decode cX3_rebuild 100 = .ok (.invokestatic 42, 3) := by decide +kernel
theorem dX3_rebuild_103 : decode cX3_rebuild 103 = .ok (.iaload, 1) := by decide +kernel
theorem dX3_rebuild_104 : decode cX3_rebuild 104 = .ok (.ior, 1) := by decide +kernel
theorem dX3_rebuild_105 : decode cX3_rebuild 105 = .ok (.aload_n 0, 1) := by decide +kernel
theorem dX3_rebuild_106 : decode cX3_rebuild 106 = .ok (.getfield 15, 3) := by decide +kernel
theorem dX3_rebuild_109 : decode cX3_rebuild 109 = .ok (.iload_n 1, 1) := by decide +kernel
theorem dX3_rebuild_110 : decode cX3_rebuild 110 = .ok (.iload 4, 2) := by decide +kernel
theorem dX3_rebuild_112 : decode cX3_rebuild 112 = .ok (.iload 5, 2) := by decide +kernel
theorem dX3_rebuild_114 : decode cX3_rebuild 114 = .ok (.iload 5, 2) := by decide +kernel
theorem dX3_rebuild_116 : decode cX3_rebuild 116 = .ok (.iconst 1, 1) := by decide +kernel
theorem dX3_rebuild_117 : decode cX3_rebuild 117 = .ok (.isub, 1) := by decide +kernel
theorem dX3_rebuild_118 : decode cX3_rebuild 118 = .ok (.iand, 1) := by decide +kernel
theorem dX3_rebuild_119 : decode cX3_rebuild 119 = .ok (.invokestatic 42, 3) := by decide +kernel
theorem dX3_rebuild_122 : decode cX3_rebuild 122 = .ok (.iaload, 1) := by decide +kernel
theorem dX3_rebuild_123 : decode cX3_rebuild 123 = .ok (.ior, 1) := by decide +kernel
theorem dX3_rebuild_124 : decode cX3_rebuild 124 = .ok (.iastore, 1) := by decide +kernel
theorem dX3_rebuild_125 : decode cX3_rebuild 125 = .ok (.iinc 5 1, 3) := by decide +kernel
theorem dX3_rebuild_128 : decode cX3_rebuild 128 = .ok (.goto (-88), 3) := by decide +kernel
theorem dX3_rebuild_131 : decode cX3_rebuild 131 = .ok (.iinc 4 1, 3) := by decide +kernel
theorem dX3_rebuild_134 : decode cX3_rebuild 134 = .ok (.goto (-103), 3) := by decide +kernel
theorem dX3_rebuild_137 : decode cX3_rebuild 137 = .ok (.return_, 1) := by decide +kernel
theorem dX3_cell_0 : decode cX3_cell 0 = .ok (.iload_n 0, 1) := by decide +kernel
theorem dX3_cell_1 : decode cX3_cell 1 = .ok (.bipush 16, 2) := by decide +kernel
theorem dX3_cell_3 : decode cX3_cell 3 = .ok (.imul, 1) := by decide +kernel
theorem dX3_cell_4 : decode cX3_cell 4 = .ok (.iload_n 1, 1) := by decide +kernel
theorem dX3_cell_5 : decode cX3_cell 5 = .ok (.iadd, 1) := by decide +kernel
theorem dX3_cell_6 : decode cX3_cell 6 = .ok (.bipush 16, 2) := by decide +kernel
theorem dX3_cell_8 : decode cX3_cell 8 = .ok (.imul, 1) := by decide +kernel
theorem dX3_cell_9 : decode cX3_cell 9 = .ok (.iload_n 2, 1) := by decide +kernel
theorem dX3_cell_10 : decode cX3_cell 10 = .ok (.iadd, 1) := by decide +kernel
theorem dX3_cell_11 : decode cX3_cell 11 = .ok (.ireturn, 1) := by decide +kernel
set_option maxRecDepth 20000 in
theorem ggX4_init_X3_init : GoodIn wsX4_init wsX3_init := goodIn_r _ [10, 11, 2, 3, 12, 13, 14, 15, 16, 17, 18] (by decide +kernel) (by decide +kernel)
set_option maxRecDepth 20000 in
theorem gX4_init_X3_init_n11 : GoodIn wsX4_init (wsX3_init) := ggX4_init_X3_init
theorem dX4_init_0 : decode cX4_init 0 = .ok (.aload_n 0, 1) := by decide +kernel
theorem dX4_init_1 : decode cX4_init 1 = .ok (.invokespecial 3, 3) := by decide +kernel
theorem dX4_init_4 : decode cX4_init 4 = .ok (.aload_n 0, 1) := by decide +kernel
theorem dX4_init_5 : decode cX4_init 5 = .ok (.new 9, 3) := by decide +kernel
theorem dX4_init_8 : decode cX4_init 8 = .ok (.dup, 1) := by decide +kernel
theorem dX4_init_9 : decode cX4_init 9 = .ok (.invokespecial 11, 3) := by decide +kernel
theorem dX4_init_12 : decode cX4_init 12 = .ok (.putfield 12, 3) := by decide +kernel
theorem dX4_init_15 : decode cX4_init 15 = .ok (.aload_n 0, 1) := by decide +kernel
theorem dX4_init_16 : decode cX4_init 16 = .ok (.new 9, 3) := by decide +kernel
theorem dX4_init_19 : decode cX4_init 19 = .ok (.dup, 1) := by decide +kernel
theorem dX4_init_20 : decode cX4_init 20 = .ok (.invokespecial 11, 3) := by decide +kernel
theorem dX4_init_23 : decode cX4_init 23 = .ok (.putfield 18, 3) := by decide +kernel
theorem dX4_init_26 : decode cX4_init 26 = .ok (.return_, 1) := by decide +kernel
theorem dX4_numbered_0 : decode cX4_numbered 0 = .ok (.iload_n 1, 1) := by decide +kernel
theorem dX4_numbered_1 : decode cX4_numbered 1 = .ok (.ifCond .ne 8, 3) := by decide +kernel
theorem dX4_numbered_4 : decode cX4_numbered 4 = .ok (.aload_n 0, 1) := by decide +kernel
theorem dX4_numbered_5 : decode cX4_numbered 5 = .ok (.getfield 12, 3) := by decide +kernel
theorem dX4_numbered_8 : decode cX4_numbered 8 = .ok (.areturn, 1) := by decide +kernel
theorem dX4_numbered_9 : decode cX4_numbered 9 = .ok (.iload_n 1, 1) := by decide +kernel
theorem dX4_numbered_10 : decode cX4_numbered 10 = .ok (.iconst 1, 1) := by decide +kernel
theorem dX4_numbered_11 : decode cX4_numbered 11 = .ok (.if_icmp .ne 10, 3) := by decide +kernel
theorem dX4_numbered_14 : decode cX4_numbered 14 = .ok (.aload_n 0, 1) := by decide +kernel
theorem dX4_numbered_15 : decode cX4_numbered 15 = .ok (.getfield 18, 3) := by decide +kernel
theorem dX4_numbered_18 : decode cX4_numbered 18 = .ok (.goto 4, 3) := by decide +kernel
theorem dX4_numbered_21 : decode cX4_numbered 21 = .ok (.aconst_null, 1) := by decide +kernel
theorem dX4_numbered_22 : decode cX4_numbered 22 = .ok (.areturn, 1) := by decide +kernel
theorem dX4_profileOf_0 : decode cX4_profileOf 0 = .ok (.iload_n 1, 1) := by decide +kernel
theorem dX4_profileOf_1 : decode cX4_profileOf 1 = .ok (.bipush 16, 2) := by decide +kernel
theorem dX4_profileOf_3 : decode cX4_profileOf 3 = .ok (.imul, 1) := by decide +kernel
theorem dX4_profileOf_4 : decode cX4_profileOf 4 = .ok (.iload_n 2, 1) := by decide +kernel
theorem dX4_profileOf_5 : decode cX4_profileOf 5 = .ok (.bipush 15, 2) := by decide +kernel
theorem dX4_profileOf_7 : decode cX4_profileOf 7 = .ok (.iand, 1) := by decide +kernel
theorem dX4_profileOf_8 : decode cX4_profileOf 8 = .ok (.iadd, 1) := by decide +kernel
theorem dX4_profileOf_9 : decode cX4_profileOf 9 = .ok (.bipush 16, 2) := by decide +kernel
theorem dX4_profileOf_11 : decode cX4_profileOf 11 = .ok (.imul, 1) := by decide +kernel
theorem dX4_profileOf_12 : decode cX4_profileOf 12 = .ok (.iload_n 3, 1) := by decide +kernel
theorem dX4_profileOf_13 : decode cX4_profileOf 13 = .ok (.bipush 15, 2) := by decide +kernel
theorem dX4_profileOf_15 : decode cX4_profileOf 15 = .ok (.iand, 1) := by decide +kernel
theorem dX4_profileOf_16 : decode cX4_profileOf 16 = .ok (.iadd, 1) := by decide +kernel
theorem dX4_profileOf_17 : decode cX4_profileOf 17 = .ok (.istore 4, 2) := by decide +kernel
theorem dX4_profileOf_19 : decode cX4_profileOf 19 = .ok (.iload_n 1, 1) := by decide +kernel
theorem dX4_profileOf_20 : decode cX4_profileOf 20 = .ok (.bipush 16, 2) := by decide +kernel
theorem dX4_profileOf_22 : decode cX4_profileOf 22 = .ok (.imul, 1) := by decide +kernel
theorem dX4_profileOf_23 : decode cX4_profileOf 23 = .ok (.iload_n 2, 1) := by decide +kernel
theorem dX4_profileOf_24 : decode cX4_profileOf 24 = .ok (.iconst 4, 1) := by decide +kernel
theorem dX4_profileOf_25 : decode cX4_profileOf 25 = .ok (.ishr, 1) := by decide +kernel
theorem dX4_profileOf_26 : decode cX4_profileOf 26 = .ok (.iadd, 1) := by decide +kernel
theorem dX4_profileOf_27 : decode cX4_profileOf 27 = .ok (.bipush 16, 2) := by decide +kernel
theorem dX4_profileOf_29 : decode cX4_profileOf 29 = .ok (.imul, 1) := by decide +kernel
theorem dX4_profileOf_30 : decode cX4_profileOf 30 = .ok (.iload_n 3, 1) := by decide +kernel
theorem dX4_profileOf_31 : decode cX4_profileOf 31 = .ok (.iconst 4, 1) := by decide +kernel
theorem dX4_profileOf_32 : decode cX4_profileOf 32 = .ok (.ishr, 1) := by decide +kernel
theorem dX4_profileOf_33 : decode cX4_profileOf 33 = .ok (.iadd, 1) := by decide +kernel
theorem dX4_profileOf_34 : decode cX4_profileOf 34 = .ok (.istore 5, 2) := by decide +kernel
theorem dX4_profileOf_36 : decode cX4_profileOf 36 = .ok (.aload_n 0, 1) := by decide +kernel
theorem dX4_profileOf_37 : decode cX4_profileOf 37 = .ok (.getfield 12, 3) := by decide +kernel
theorem dX4_profileOf_40 : decode cX4_profileOf 40 = .ok (.getfield 21, 3) := by decide +kernel
theorem dX4_profileOf_43 : decode cX4_profileOf 43 = .ok (.iload 4, 2) := by decide +kernel
theorem dX4_profileOf_45 : decode cX4_profileOf 45 = .ok (.iaload, 1) := by decide +kernel
theorem dX4_profileOf_46 : decode cX4_profileOf 46 = .ok (.aload_n 0, 1) := by decide +kernel
theorem dX4_profileOf_47 : decode cX4_profileOf 47 = .ok (.getfield 18, 3) := by decide +kernel
theorem dX4_profileOf_50 : decode cX4_profileOf 50 = .ok (.getfield 21, 3) := by decide +kernel
theorem dX4_profileOf_53 : decode cX4_profileOf 53 = .ok (.iload 5, 2) := by decide +kernel
theorem dX4_profileOf_55 : decode cX4_profileOf 55 = .ok (.iaload, 1) := by decide +kernel
theorem dX4_profileOf_56 : decode cX4_profileOf 56 = .ok (.iconst 4, 1) := by decide +kernel
theorem dX4_profileOf_57 : decode cX4_profileOf 57 = .ok (.ishl, 1) := by decide +kernel
theorem dX4_profileOf_58 : decode cX4_profileOf 58 = .ok (.ior, 1) := by decide +kernel
theorem dX4_profileOf_59 : decode cX4_profileOf 59 = .ok (.ireturn, 1) := by decide +kernel
set_option maxRecDepth 20000 in
theorem ggX4_placeOf_X5_firstSet : GoodIn wsX4_placeOf wsX5_firstSet := goodIn_r _ [5] (by decide +kernel) (by decide +kernel)
set_option maxRecDepth 20000 in
theorem gX4_placeOf_X5_firstSet_n25 : GoodIn wsX4_placeOf (wsX5_firstSet) := ggX4_placeOf_X5_firstSet
set_option maxRecDepth 20000 in
theorem ggX4_placeOf_X3_accepts : GoodIn wsX4_placeOf wsX3_accepts := goodIn_r _ [10, 11, 16, 17, 18] (by decide +kernel) (by decide +kernel)
set_option maxRecDepth 20000 in
theorem gX4_placeOf_X3_accepts : GoodIn wsX4_placeOf (wsV RX4 29 RX3 yX3_accepts wsX3_accepts) := goodIn_app (goodIn_of _ (by decide +kernel)) ggX4_placeOf_X3_accepts
set_option maxRecDepth 20000 in
theorem ggX4_placeOf_X5_secondSet : GoodIn wsX4_placeOf wsX5_secondSet := goodIn_r _ [13] (by decide +kernel) (by decide +kernel)
set_option maxRecDepth 20000 in
theorem gX4_placeOf_X5_secondSet_n33 : GoodIn wsX4_placeOf (wsX5_secondSet) := ggX4_placeOf_X5_secondSet
theorem dX4_placeOf_0 : decode cX4_placeOf 0 = .ok (.aload_n 0, 1) := by decide +kernel
theorem dX4_placeOf_1 : decode cX4_placeOf 1 = .ok (.getfield 12, 3) := by decide +kernel
theorem dX4_placeOf_4 : decode cX4_placeOf 4 = .ok (.iload_n 1, 1) := by decide +kernel
theorem dX4_placeOf_5 : decode cX4_placeOf 5 = .ok (.invokestatic 25, 3) := by decide +kernel
theorem dX4_placeOf_8 : decode cX4_placeOf 8 = .ok (.invokevirtual 29, 3) := by decide +kernel
theorem dX4_placeOf_11 : decode cX4_placeOf 11 = .ok (.ifCond .eq 7, 3) := by decide +kernel
theorem dX4_placeOf_14 : decode cX4_placeOf 14 = .ok (.iconst 2, 1) := by decide +kernel
theorem dX4_placeOf_15 : decode cX4_placeOf 15 = .ok (.goto 4, 3) := by decide +kernel
theorem dX4_placeOf_18 : decode cX4_placeOf 18 = .ok (.iconst 0, 1) := by decide +kernel
theorem dX4_placeOf_19 : decode cX4_placeOf 19 = .ok (.istore_n 2, 1) := by decide +kernel
theorem dX4_placeOf_20 : decode cX4_placeOf 20 = .ok (.aload_n 0, 1) := by decide +kernel
theorem dX4_placeOf_21 : decode cX4_placeOf 21 = .ok (.getfield 18, 3) := by decide +kernel
theorem dX4_placeOf_24 : decode cX4_placeOf 24 = .ok (.iload_n 1, 1) := by decide +kernel
theorem dX4_placeOf_25 : decode cX4_placeOf 25 = .ok (.invokestatic 33, 3) := by decide +kernel
theorem dX4_placeOf_28 : decode cX4_placeOf 28 = .ok (.invokevirtual 29, 3) := by decide +kernel
theorem dX4_placeOf_31 : decode cX4_placeOf 31 = .ok (.ifCond .eq 9, 3) := by decide +kernel
theorem dX4_placeOf_34 : decode cX4_placeOf 34 = .ok (.iload_n 2, 1) := by decide +kernel
theorem dX4_placeOf_35 : decode cX4_placeOf 35 = .ok (.iconst 1, 1) := by decide +kernel
theorem dX4_placeOf_36 : decode cX4_placeOf 36 = .ok (.iadd, 1) := by decide +kernel
theorem dX4_placeOf_37 : decode cX4_placeOf 37 = .ok (.goto 4, 3) := by decide +kernel
theorem dX4_placeOf_40 : decode cX4_placeOf 40 = .ok (.iload_n 2, 1) := by decide +kernel
theorem dX4_placeOf_41 : decode cX4_placeOf 41 = .ok (.ireturn, 1) := by decide +kernel
set_option maxRecDepth 20000 in
theorem ggX4_isOfSort_X4_placeOf : GoodIn wsX4_isOfSort wsX4_placeOf := goodIn_r _ [5, 6, 7, 8, 9, 10, 11, 12, 13, 14, 15, 16, 17, 18, 19, 20, 21, 22, 23] (by decide +kernel) (by decide +kernel)
set_option maxRecDepth 20000 in
theorem gX4_isOfSort_X4_placeOf : GoodIn wsX4_isOfSort (wsV RX4 36 RX4 yX4_placeOf wsX4_placeOf) := goodIn_app (goodIn_of _ (by decide +kernel)) ggX4_isOfSort_X4_placeOf
theorem dX4_isOfSort_0 : decode cX4_isOfSort 0 = .ok (.iload_n 2, 1) := by decide +kernel
theorem dX4_isOfSort_1 : decode cX4_isOfSort 1 = .ok (.aload_n 0, 1) := by decide +kernel
theorem dX4_isOfSort_2 : decode cX4_isOfSort 2 = .ok (.iload_n 1, 1) := by decide +kernel
theorem dX4_isOfSort_3 : decode cX4_isOfSort 3 = .ok (.invokevirtual 36, 3) := by decide +kernel
theorem dX4_isOfSort_6 : decode cX4_isOfSort 6 = .ok (.ishr, 1) := by decide +kernel
theorem dX4_isOfSort_7 : decode cX4_isOfSort 7 = .ok (.iconst 1, 1) := by decide +kernel
theorem dX4_isOfSort_8 : decode cX4_isOfSort 8 = .ok (.iand, 1) := by decide +kernel
theorem dX4_isOfSort_9 : decode cX4_isOfSort 9 = .ok (.iconst 1, 1) := by decide +kernel
theorem dX4_isOfSort_10 : decode cX4_isOfSort 10 = .ok (.if_icmp .ne 7, 3) := by decide +kernel
theorem dX4_isOfSort_13 : decode cX4_isOfSort 13 = .ok (.iconst 1, 1) := by decide +kernel
theorem dX4_isOfSort_14 : decode cX4_isOfSort 14 = .ok (.goto 4, 3) := by decide +kernel
theorem dX4_isOfSort_17 : decode cX4_isOfSort 17 = .ok (.iconst 0, 1) := by decide +kernel
theorem dX4_isOfSort_18 : decode cX4_isOfSort 18 = .ok (.ireturn, 1) := by decide +kernel
set_option maxRecDepth 20000 in
theorem ggX5_init_X4_init : GoodIn wsX5_init wsX4_init := goodIn_r _ [21, 22, 2, 3, 23, 24, 25, 26, 27, 28, 29, 30, 31, 32, 33, 34, 100, 101, 102, 70, 71] (by decide +kernel) (by decide +kernel)
set_option maxRecDepth 20000 in
theorem gX5_init_X4_init_n11 : GoodIn wsX5_init (wsX4_init) := ggX5_init_X4_init
set_option maxRecDepth 20000 in
theorem ggX5_init_X1_init : GoodIn wsX5_init wsX1_init := goodIn_r _ [36, 37, 2, 3, 31, 38, 39, 40, 41, 42, 43, 44, 76, 77, 78, 79, 80, 81, 82] (by decide +kernel) (by decide +kernel)
set_option maxRecDepth 20000 in
theorem gX5_init_X1_init_n18 : GoodIn wsX5_init (wsX1_init) := ggX5_init_X1_init
set_option maxRecDepth 20000 in
theorem ggX5_init_X2_init : GoodIn wsX5_init wsX2_init := goodIn_r _ [47, 48, 2, 3, 31, 49, 50, 51, 52, 53, 54, 55, 56, 57, 58, 59, 60, 61, 83, 84, 85, 86, 87, 88, 89, 90, 91, 92, 93, 94, 95] (by decide +kernel) (by decide +kernel)
set_option maxRecDepth 20000 in
theorem gX5_init_X2_init : GoodIn wsX5_init (wsX2_init) := ggX5_init_X2_init
set_option maxRecDepth 20000 in
theorem ggX5_init_X0_init : GoodIn wsX5_init wsX0_init := goodIn_r _ [64, 65, 2, 3, 31, 66, 67, 68, 69, 96, 97, 98, 99] (by decide +kernel) (by decide +kernel)
set_option maxRecDepth 20000 in
theorem gX5_init_X0_init : GoodIn wsX5_init (wsX0_init) := ggX5_init_X0_init
theorem dX5_init_0 : decode cX5_init 0 = .ok (.aload_n 0, 1) := by decide +kernel
theorem dX5_init_1 : decode cX5_init 1 = .ok (.invokespecial 3, 3) := by decide +kernel
theorem dX5_init_4 : decode cX5_init 4 = .ok (.aload_n 0, 1) := by decide +kernel
theorem dX5_init_5 : decode cX5_init 5 = .ok (.new 9, 3) := by decide +kernel
theorem dX5_init_8 : decode cX5_init 8 = .ok (.dup, 1) := by decide +kernel
theorem dX5_init_9 : decode cX5_init 9 = .ok (.invokespecial 11, 3) := by decide +kernel
theorem dX5_init_12 : decode cX5_init 12 = .ok (.putfield 12, 3) := by decide +kernel
theorem dX5_init_15 : decode cX5_init 15 = .ok (.aload_n 0, 1) := by decide +kernel
theorem dX5_init_16 : decode cX5_init 16 = .ok (.new 16, 3) := by decide +kernel
theorem dX5_init_19 : decode cX5_init 19 = .ok (.dup, 1) := by decide +kernel
theorem dX5_init_20 : decode cX5_init 20 = .ok (.invokespecial 18, 3) := by decide +kernel
theorem dX5_init_23 : decode cX5_init 23 = .ok (.putfield 19, 3) := by decide +kernel
theorem dX5_init_26 : decode cX5_init 26 = .ok (.aload_n 0, 1) := by decide +kernel
theorem dX5_init_27 : decode cX5_init 27 = .ok (.new 23, 3) := by decide +kernel
theorem dX5_init_30 : decode cX5_init 30 = .ok (.dup, 1) := by decide +kernel
theorem dX5_init_31 : decode cX5_init 31 = .ok (.aload_n 0, 1) := by decide +kernel
theorem dX5_init_32 : decode cX5_init 32 = .ok (.getfield 12, 3) := by decide +kernel
theorem dX5_init_35 : decode cX5_init 35 = .ok (.invokespecial 25, 3) := by decide +kernel
theorem dX5_init_38 : decode cX5_init 38 = .ok (.putfield 28, 3) := by decide +kernel
theorem dX5_init_41 : decode cX5_init 41 = .ok (.aload_n 0, 1) := by decide +kernel
theorem dX5_init_42 : decode cX5_init 42 = .ok (.new 32, 3) := by decide +kernel
theorem dX5_init_45 : decode cX5_init 45 = .ok (.dup, 1) := by decide +kernel
theorem dX5_init_46 : decode cX5_init 46 = .ok (.aload_n 0, 1) := by decide +kernel
theorem dX5_init_47 : decode cX5_init 47 = .ok (.getfield 12, 3) := by decide +kernel
theorem dX5_init_50 : decode cX5_init 50 = .ok (.aload_n 0, 1) := by decide +kernel
theorem dX5_init_51 : decode cX5_init 51 = .ok (.getfield 28, 3) := by decide +kernel
theorem dX5_init_54 : decode cX5_init 54 = .ok (.invokespecial 34, 3) := by decide +kernel
theorem dX5_init_57 : decode cX5_init 57 = .ok (.putfield 37, 3) := by decide +kernel
theorem dX5_init_60 : decode cX5_init 60 = .ok (.return_, 1) := by decide +kernel
set_option maxRecDepth 20000 in
theorem ggX5_rule_X5_rowOf : GoodIn wsX5_rule wsX5_rowOf := goodIn_r _ [4, 5, 6, 3, 7, 8, 9, 10, 11, 12, 13, 14, 15, 16] (by decide +kernel) (by decide +kernel)
set_option maxRecDepth 20000 in
theorem gX5_rule_X5_rowOf : GoodIn wsX5_rule (va_wsS RX5 41 yX5_rowOf wsX5_rowOf) := goodIn_app (goodIn_of _ (by decide +kernel)) ggX5_rule_X5_rowOf
set_option maxRecDepth 20000 in
theorem ggX5_rule_X5_changeRule : GoodIn wsX5_rule wsX5_changeRule := goodIn_r _ [20, 21, 22, 23, 24, 25, 26, 27, 28, 14, 15, 3, 16, 29, 30, 31, 32, 33, 34, 35, 36, 37, 38, 39, 40, 41, 42, 43, 9, 10, 12, 13, 44, 45, 46, 47, 48, 49, 50, 51, 52, 53, 54, 55, 56, 57, 58, 59, 60, 61, 62, 63, 64, 65, 66, 67, 68, 69, 70, 71, 72, 73, 74, 75, 76, 77, 78, 79, 80, 81, 82, 83, 84, 85, 86, 87, 88, 89, 90] (by decide +kernel) (by decide +kernel)
set_option maxRecDepth 20000 in
theorem gX5_rule_X5_changeRule : GoodIn wsX5_rule (wsV RX5 45 RX5 yX5_changeRule wsX5_changeRule) := goodIn_app (goodIn_of _ (by decide +kernel)) ggX5_rule_X5_changeRule
theorem dX5_rule_0 : decode cX5_rule 0 = .ok (.aload_n 0, 1) := by decide +kernel
theorem dX5_rule_1 : decode cX5_rule 1 = .ok (.iload_n 1, 1) := by decide +kernel
theorem dX5_rule_2 : decode cX5_rule 2 = .ok (.iload_n 2, 1) := by decide +kernel
theorem dX5_rule_3 : decode cX5_rule 3 = .ok (.iload_n 3, 1) := by decide +kernel
theorem dX5_rule_4 : decode cX5_rule 4 = .ok (.iload 4, 2) := by decide +kernel
theorem dX5_rule_6 : decode cX5_rule 6 = .ok (.invokestatic 41, 3) := by decide +kernel
theorem dX5_rule_9 : decode cX5_rule 9 = .ok (.iload 5, 2) := by decide +kernel
theorem dX5_rule_11 : decode cX5_rule 11 = .ok (.iconst 1, 1) := by decide +kernel
theorem dX5_rule_12 : decode cX5_rule 12 = .ok (.invokevirtual 45, 3) := by decide +kernel
theorem dX5_rule_15 : decode cX5_rule 15 = .ok (.ireturn, 1) := by decide +kernel
set_option maxRecDepth 20000 in
theorem ggX5_drop_X5_rowOf : GoodIn wsX5_drop wsX5_rowOf := goodIn_r _ [4, 5, 6, 3, 7, 8, 9, 10, 11, 12, 13, 14, 15, 16] (by decide +kernel) (by decide +kernel)
set_option maxRecDepth 20000 in
theorem gX5_drop_X5_rowOf : GoodIn wsX5_drop (va_wsS RX5 41 yX5_rowOf wsX5_rowOf) := goodIn_app (goodIn_of _ (by decide +kernel)) ggX5_drop_X5_rowOf
set_option maxRecDepth 20000 in
theorem ggX5_drop_X5_changeRule : GoodIn wsX5_drop wsX5_changeRule := goodIn_r _ [20, 21, 22, 23, 24, 25, 26, 27, 28, 14, 15, 3, 16, 29, 30, 31, 32, 33, 34, 35, 36, 37, 38, 39, 40, 41, 42, 43, 9, 10, 12, 13, 44, 45, 46, 47, 48, 49, 50, 51, 52, 53, 54, 55, 56, 57, 58, 59, 60, 61, 62, 63, 64, 65, 66, 67, 68, 69, 70, 71, 72, 73, 74, 75, 76, 77, 78, 79, 80, 81, 82, 83, 84, 85, 86, 87, 88, 89, 90] (by decide +kernel) (by decide +kernel)
set_option maxRecDepth 20000 in
theorem gX5_drop_X5_changeRule : GoodIn wsX5_drop (wsV RX5 45 RX5 yX5_changeRule wsX5_changeRule) := goodIn_app (goodIn_of _ (by decide +kernel)) ggX5_drop_X5_changeRule
theorem dX5_drop_0 : decode cX5_drop 0 = .ok (.aload_n 0, 1) := by decide +kernel
theorem dX5_drop_1 : decode cX5_drop 1 = .ok (.iload_n 1, 1) := by decide +kernel
theorem dX5_drop_2 : decode cX5_drop 2 = .ok (.iload_n 2, 1) := by decide +kernel
theorem dX5_drop_3 : decode cX5_drop 3 = .ok (.iload_n 3, 1) := by decide +kernel
theorem dX5_drop_4 : decode cX5_drop 4 = .ok (.iload 4, 2) := by decide +kernel
theorem dX5_drop_6 : decode cX5_drop 6 = .ok (.invokestatic 41, 3) := by decide +kernel
theorem dX5_drop_9 : decode cX5_drop 9 = .ok (.iload 5, 2) := by decide +kernel
theorem dX5_drop_11 : decode cX5_drop 11 = .ok (.iconst 0, 1) := by decide +kernel
theorem dX5_drop_12 : decode cX5_drop 12 = .ok (.invokevirtual 45, 3) := by decide +kernel
theorem dX5_drop_15 : decode cX5_drop 15 = .ok (.ireturn, 1) := by decide +kernel
set_option maxRecDepth 20000 in
theorem ggX5_isRule_X4_numbered : GoodIn wsX5_isRule wsX4_numbered := goodIn_r _ [6, 7, 8, 35, 36] (by decide +kernel) (by decide +kernel)
set_option maxRecDepth 20000 in
theorem gX5_isRule_X4_numbered : GoodIn wsX5_isRule (wsV RX5 49 RX4 yX4_numbered wsX4_numbered) := goodIn_app (goodIn_of _ (by decide +kernel)) ggX5_isRule_X4_numbered
set_option maxRecDepth 20000 in
theorem ggX5_isRule_X5_rowOf : GoodIn wsX5_isRule wsX5_rowOf := goodIn_r _ [12, 13, 14, 11, 15, 16, 17, 18, 19, 20, 21, 22, 23, 24] (by decide +kernel) (by decide +kernel)
set_option maxRecDepth 20000 in
theorem gX5_isRule_X5_rowOf : GoodIn wsX5_isRule (va_wsS RX5 41 yX5_rowOf wsX5_rowOf) := goodIn_app (goodIn_of _ (by decide +kernel)) ggX5_isRule_X5_rowOf
set_option maxRecDepth 20000 in
theorem ggX5_isRule_X5_isState : GoodIn wsX5_isRule wsX5_isState := goodIn_r _ [24] (by decide +kernel) (by decide +kernel)
set_option maxRecDepth 20000 in
theorem gX5_isRule_X5_isState : GoodIn wsX5_isRule (va_wsS RX5 53 yX5_isState wsX5_isState) := goodIn_app (goodIn_of _ (by decide +kernel)) ggX5_isRule_X5_isState
set_option maxRecDepth 20000 in
theorem ggX5_isRule_X3_leads : GoodIn wsX5_isRule wsX3_leads := goodIn_r _ [29, 30, 37, 38, 39] (by decide +kernel) (by decide +kernel)
set_option maxRecDepth 20000 in
theorem gX5_isRule_X3_leads : GoodIn wsX5_isRule (wsV RX5 57 RX3 yX3_leads wsX3_leads) := goodIn_app (goodIn_of _ (by decide +kernel)) ggX5_isRule_X3_leads
theorem dX5_isRule_0 : decode cX5_isRule 0 = .ok (.aload_n 0, 1) := by decide +kernel
theorem dX5_isRule_1 : decode cX5_isRule 1 = .ok (.getfield 12, 3) := by decide +kernel
theorem dX5_isRule_4 : decode cX5_isRule 4 = .ok (.iload_n 1, 1) := by decide +kernel
theorem dX5_isRule_5 : decode cX5_isRule 5 = .ok (.invokevirtual 49, 3) := by decide +kernel
theorem dX5_isRule_8 : decode cX5_isRule 8 = .ok (.astore 6, 2) := by decide +kernel
theorem dX5_isRule_10 : decode cX5_isRule 10 = .ok (.iload_n 2, 1) := by decide +kernel
theorem dX5_isRule_11 : decode cX5_isRule 11 = .ok (.iload_n 3, 1) := by decide +kernel
theorem dX5_isRule_12 : decode cX5_isRule 12 = .ok (.iload 4, 2) := by decide +kernel
theorem dX5_isRule_14 : decode cX5_isRule 14 = .ok (.invokestatic 41, 3) := by decide +kernel
theorem dX5_isRule_17 : decode cX5_isRule 17 = .ok (.istore 7, 2) := by decide +kernel
theorem dX5_isRule_19 : decode cX5_isRule 19 = .ok (.aload 6, 2) := by decide +kernel
theorem dX5_isRule_21 : decode cX5_isRule 21 = .ok (.ifnull 33, 3) := by decide +kernel
theorem dX5_isRule_24 : decode cX5_isRule 24 = .ok (.iload 7, 2) := by decide +kernel
theorem dX5_isRule_26 : decode cX5_isRule 26 = .ok (.iconst (-1), 1) := by decide +kernel
theorem dX5_isRule_27 : decode cX5_isRule 27 = .ok (.if_icmp .eq 27, 3) := by decide +kernel
theorem dX5_isRule_30 : decode cX5_isRule 30 = .ok (.iload 5, 2) := by decide +kernel
theorem dX5_isRule_32 : decode cX5_isRule 32 = .ok (.invokestatic 53, 3) := by decide +kernel
theorem dX5_isRule_35 : decode cX5_isRule 35 = .ok (.ifCond .eq 19, 3) := by decide +kernel
theorem dX5_isRule_38 : decode cX5_isRule 38 = .ok (.aload 6, 2) := by decide +kernel
theorem dX5_isRule_40 : decode cX5_isRule 40 = .ok (.iload 7, 2) := by decide +kernel
theorem dX5_isRule_42 : decode cX5_isRule 42 = .ok (.iload 5, 2) := by decide +kernel
theorem dX5_isRule_44 : decode cX5_isRule 44 = .ok (.invokevirtual 57, 3) := by decide +kernel
theorem dX5_isRule_47 : decode cX5_isRule 47 = .ok (.ifCond .eq 7, 3) := by decide +kernel
theorem dX5_isRule_50 : decode cX5_isRule 50 = .ok (.iconst 1, 1) := by decide +kernel
theorem dX5_isRule_51 : decode cX5_isRule 51 = .ok (.goto 4, 3) := by decide +kernel
theorem dX5_isRule_54 : decode cX5_isRule 54 = .ok (.iconst 0, 1) := by decide +kernel
theorem dX5_isRule_55 : decode cX5_isRule 55 = .ok (.ireturn, 1) := by decide +kernel
set_option maxRecDepth 20000 in
theorem ggX5_goal_X4_numbered : GoodIn wsX5_goal wsX4_numbered := goodIn_r _ [6, 7, 8, 27, 28] (by decide +kernel) (by decide +kernel)
set_option maxRecDepth 20000 in
theorem gX5_goal_X4_numbered : GoodIn wsX5_goal (wsV RX5 49 RX4 yX4_numbered wsX4_numbered) := goodIn_app (goodIn_of _ (by decide +kernel)) ggX5_goal_X4_numbered
set_option maxRecDepth 20000 in
theorem ggX5_goal_X5_isState : GoodIn wsX5_goal wsX5_isState := goodIn_r _ [12] (by decide +kernel) (by decide +kernel)
set_option maxRecDepth 20000 in
theorem gX5_goal_X5_isState : GoodIn wsX5_goal (va_wsS RX5 53 yX5_isState wsX5_isState) := goodIn_app (goodIn_of _ (by decide +kernel)) ggX5_goal_X5_isState
set_option maxRecDepth 20000 in
theorem ggX5_goal_X3_isGoal : GoodIn wsX5_goal wsX3_isGoal := goodIn_r _ [17, 18, 29, 30, 31] (by decide +kernel) (by decide +kernel)
set_option maxRecDepth 20000 in
theorem gX5_goal_X3_isGoal : GoodIn wsX5_goal (wsV RX5 63 RX3 yX3_isGoal wsX3_isGoal) := goodIn_app (goodIn_of _ (by decide +kernel)) ggX5_goal_X3_isGoal
set_option maxRecDepth 20000 in
theorem ggX5_goal_X3_turnGoal : GoodIn wsX5_goal wsX3_turnGoal := goodIn_r _ [22, 18, 29, 30, 31] (by decide +kernel) (by decide +kernel)
set_option maxRecDepth 20000 in
theorem gX5_goal_X3_turnGoal : GoodIn wsX5_goal (wsV RX5 66 RX3 yX3_turnGoal wsX3_turnGoal) := goodIn_app (goodIn_of _ (by decide +kernel)) ggX5_goal_X3_turnGoal
theorem dX5_goal_0 : decode cX5_goal 0 = .ok (.aload_n 0, 1) := by decide +kernel
theorem dX5_goal_1 : decode cX5_goal 1 = .ok (.getfield 12, 3) := by decide +kernel
theorem dX5_goal_4 : decode cX5_goal 4 = .ok (.iload_n 1, 1) := by decide +kernel
theorem dX5_goal_5 : decode cX5_goal 5 = .ok (.invokevirtual 49, 3) := by decide +kernel
theorem dX5_goal_8 : decode cX5_goal 8 = .ok (.astore 4, 2) := by decide +kernel
theorem dX5_goal_10 : decode cX5_goal 10 = .ok (.aload 4, 2) := by decide +kernel
theorem dX5_goal_12 : decode cX5_goal 12 = .ok (.ifnull 20, 3) := by decide +kernel
theorem dX5_goal_15 : decode cX5_goal 15 = .ok (.iload_n 2, 1) := by decide +kernel
theorem dX5_goal_16 : decode cX5_goal 16 = .ok (.invokestatic 53, 3) := by decide +kernel
theorem dX5_goal_19 : decode cX5_goal 19 = .ok (.ifCond .eq 13, 3) := by decide +kernel
theorem dX5_goal_22 : decode cX5_goal 22 = .ok (.aload 4, 2) := by decide +kernel
theorem dX5_goal_24 : decode cX5_goal 24 = .ok (.iload_n 2, 1) := by decide +kernel
theorem dX5_goal_25 : decode cX5_goal 25 = .ok (.invokevirtual 63, 3) := by decide +kernel
theorem dX5_goal_28 : decode cX5_goal 28 = .ok (.iload_n 3, 1) := by decide +kernel
theorem dX5_goal_29 : decode cX5_goal 29 = .ok (.if_icmp .ne 5, 3) := by decide +kernel
theorem dX5_goal_32 : decode cX5_goal 32 = .ok (.iconst 0, 1) := by decide +kernel
theorem dX5_goal_33 : decode cX5_goal 33 = .ok (.ireturn, 1) := by decide +kernel
theorem dX5_goal_34 : decode cX5_goal 34 = .ok (.aload 4, 2) := by decide +kernel
theorem dX5_goal_36 : decode cX5_goal 36 = .ok (.iload_n 2, 1) := by decide +kernel
theorem dX5_goal_37 : decode cX5_goal 37 = .ok (.invokevirtual 66, 3) := by decide +kernel
theorem dX5_goal_40 : decode cX5_goal 40 = .ok (.iconst 1, 1) := by decide +kernel
theorem dX5_goal_41 : decode cX5_goal 41 = .ok (.ireturn, 1) := by decide +kernel
set_option maxRecDepth 20000 in
theorem ggX5_clear_X4_numbered : GoodIn wsX5_clear wsX4_numbered := goodIn_r _ [6, 7, 8, 44, 45] (by decide +kernel) (by decide +kernel)
set_option maxRecDepth 20000 in
theorem gX5_clear_X4_numbered : GoodIn wsX5_clear (wsV RX5 49 RX4 yX4_numbered wsX4_numbered) := goodIn_app (goodIn_of _ (by decide +kernel)) ggX5_clear_X4_numbered
set_option maxRecDepth 20000 in
theorem ggX5_clear_X3_empty : GoodIn wsX5_clear wsX3_empty := goodIn_r _ [13, 14, 15, 16, 17, 18, 19, 20, 46, 47, 48] (by decide +kernel) (by decide +kernel)
set_option maxRecDepth 20000 in
theorem gX5_clear_X3_empty : GoodIn wsX5_clear (wsV RX5 70 RX3 yX3_empty wsX3_empty) := goodIn_app (goodIn_of _ (by decide +kernel)) ggX5_clear_X3_empty
set_option maxRecDepth 20000 in
theorem ggX5_clear_X5_forgetProfiles : GoodIn wsX5_clear wsX5_forgetProfiles := goodIn_r _ [25, 26, 27, 28, 29, 30, 31, 32, 33, 34, 35, 36, 37, 38, 39, 40, 41, 42, 43, 49, 50, 51, 52, 53, 54, 55, 56, 57, 58, 59, 60, 61, 62, 63, 64, 65] (by decide +kernel) (by decide +kernel)
set_option maxRecDepth 20000 in
theorem gX5_clear_X5_forgetProfiles : GoodIn wsX5_clear (wsV RX5 73 RX5 yX5_forgetProfiles wsX5_forgetProfiles) := goodIn_app (goodIn_of _ (by decide +kernel)) ggX5_clear_X5_forgetProfiles
theorem dX5_clear_0 : decode cX5_clear 0 = .ok (.aload_n 0, 1) := by decide +kernel
theorem dX5_clear_1 : decode cX5_clear 1 = .ok (.getfield 12, 3) := by decide +kernel
theorem dX5_clear_4 : decode cX5_clear 4 = .ok (.iload_n 1, 1) := by decide +kernel
theorem dX5_clear_5 : decode cX5_clear 5 = .ok (.invokevirtual 49, 3) := by decide +kernel
theorem dX5_clear_8 : decode cX5_clear 8 = .ok (.astore_n 2, 1) := by decide +kernel
theorem dX5_clear_9 : decode cX5_clear 9 = .ok (.aload_n 2, 1) := by decide +kernel
theorem dX5_clear_10 : decode cX5_clear 10 = .ok (.ifnonnull 5, 3) := by decide +kernel
theorem dX5_clear_13 : decode cX5_clear 13 = .ok (.iconst 0, 1) := by decide +kernel
theorem dX5_clear_14 : decode cX5_clear 14 = .ok (.ireturn, 1) := by decide +kernel
theorem dX5_clear_15 : decode cX5_clear 15 = .ok (.aload_n 2, 1) := by decide +kernel
theorem dX5_clear_16 : decode cX5_clear 16 = .ok (.invokevirtual 70, 3) := by decide +kernel
theorem dX5_clear_19 : decode cX5_clear 19 = .ok (.aload_n 0, 1) := by decide +kernel
theorem dX5_clear_20 : decode cX5_clear 20 = .ok (.invokevirtual 73, 3) := by decide +kernel
theorem dX5_clear_23 : decode cX5_clear 23 = .ok (.iconst 1, 1) := by decide +kernel
theorem dX5_clear_24 : decode cX5_clear 24 = .ok (.ireturn, 1) := by decide +kernel
set_option maxRecDepth 20000 in
theorem ggX5_node_X5_isSymbol : GoodIn wsX5_node wsX5_isSymbol := goodIn_r _ [5] (by decide +kernel) (by decide +kernel)
set_option maxRecDepth 20000 in
theorem gX5_node_X5_isSymbol : GoodIn wsX5_node (va_wsS RX5 76 yX5_isSymbol wsX5_isSymbol) := goodIn_app (goodIn_of _ (by decide +kernel)) ggX5_node_X5_isSymbol
set_option maxRecDepth 20000 in
theorem ggX5_node_X5_hasLeft : GoodIn wsX5_node wsX5_hasLeft := goodIn_r _ [8] (by decide +kernel) (by decide +kernel)
set_option maxRecDepth 20000 in
theorem gX5_node_X5_hasLeft : GoodIn wsX5_node (va_wsS RX5 79 yX5_hasLeft wsX5_hasLeft) := goodIn_app (goodIn_of _ (by decide +kernel)) ggX5_node_X5_hasLeft
set_option maxRecDepth 20000 in
theorem ggX5_node_X1_holds : GoodIn wsX5_node wsX1_holds := goodIn_r _ [13, 14, 42, 43, 44, 45, 46, 47, 48] (by decide +kernel) (by decide +kernel)
set_option maxRecDepth 20000 in
theorem gX5_node_X1_holds : GoodIn wsX5_node (wsV RX5 82 RX1 yX1_holds wsX1_holds) := goodIn_app (goodIn_of _ (by decide +kernel)) ggX5_node_X1_holds
set_option maxRecDepth 20000 in
theorem ggX5_node_X5_hasRight : GoodIn wsX5_node wsX5_hasRight := goodIn_r _ [17] (by decide +kernel) (by decide +kernel)
set_option maxRecDepth 20000 in
theorem gX5_node_X5_hasRight : GoodIn wsX5_node (va_wsS RX5 85 yX5_hasRight wsX5_hasRight) := goodIn_app (goodIn_of _ (by decide +kernel)) ggX5_node_X5_hasRight
set_option maxRecDepth 20000 in
theorem ggX5_node_X1_room : GoodIn wsX5_node wsX1_room := goodIn_r _ [21, 14, 42, 43, 44, 45, 46, 47, 48] (by decide +kernel) (by decide +kernel)
set_option maxRecDepth 20000 in
theorem gX5_node_X1_room : GoodIn wsX5_node (wsV RX5 88 RX1 yX1_room wsX1_room) := goodIn_app (goodIn_of _ (by decide +kernel)) ggX5_node_X1_room
set_option maxRecDepth 20000 in
theorem ggX5_node_X1_add : GoodIn wsX5_node wsX1_add := goodIn_r _ [25, 14, 26, 27, 28, 29, 30, 31, 32, 33, 7, 4, 8, 16, 17, 34, 35, 36, 12, 37, 42, 43, 44, 45, 46, 47, 48] (by decide +kernel) (by decide +kernel)
set_option maxRecDepth 20000 in
theorem gX5_node_X1_add : GoodIn wsX5_node (wsV RX5 92 RX1 yX1_add wsX1_add) := goodIn_app (goodIn_of _ (by decide +kernel)) ggX5_node_X1_add
theorem dX5_node_0 : decode cX5_node 0 = .ok (.iload_n 1, 1) := by decide +kernel
theorem dX5_node_1 : decode cX5_node 1 = .ok (.invokestatic 76, 3) := by decide +kernel
theorem dX5_node_4 : decode cX5_node 4 = .ok (.ifCond .ne 5, 3) := by decide +kernel
theorem dX5_node_7 : decode cX5_node 7 = .ok (.iconst (-1), 1) := by decide +kernel
theorem dX5_node_8 : decode cX5_node 8 = .ok (.ireturn, 1) := by decide +kernel
theorem dX5_node_9 : decode cX5_node 9 = .ok (.iload_n 1, 1) := by decide +kernel
theorem dX5_node_10 : decode cX5_node 10 = .ok (.invokestatic 79, 3) := by decide +kernel
theorem dX5_node_13 : decode cX5_node 13 = .ok (.ifCond .eq 18, 3) := by decide +kernel
theorem dX5_node_16 : decode cX5_node 16 = .ok (.aload_n 0, 1) := by decide +kernel
theorem dX5_node_17 : decode cX5_node 17 = .ok (.getfield 19, 3) := by decide +kernel
theorem dX5_node_20 : decode cX5_node 20 = .ok (.iload_n 2, 1) := by decide +kernel
theorem dX5_node_21 : decode cX5_node 21 = .ok (.invokevirtual 82, 3) := by decide +kernel
theorem dX5_node_24 : decode cX5_node 24 = .ok (.ifCond .ne 7, 3) := by decide +kernel
theorem dX5_node_27 : decode cX5_node 27 = .ok (.iconst 1, 1) := by decide +kernel
theorem dX5_node_28 : decode cX5_node 28 = .ok (.goto 4, 3) := by decide +kernel
theorem dX5_node_31 : decode cX5_node 31 = .ok (.iconst 0, 1) := by decide +kernel
theorem dX5_node_32 : decode cX5_node 32 = .ok (.istore 4, 2) := by decide +kernel
theorem dX5_node_34 : decode cX5_node 34 = .ok (.iload_n 1, 1) := by decide +kernel
theorem dX5_node_35 : decode cX5_node 35 = .ok (.invokestatic 85, 3) := by decide +kernel
theorem dX5_node_38 : decode cX5_node 38 = .ok (.ifCond .eq 18, 3) := by decide +kernel
theorem dX5_node_41 : decode cX5_node 41 = .ok (.aload_n 0, 1) := by decide +kernel
theorem dX5_node_42 : decode cX5_node 42 = .ok (.getfield 19, 3) := by decide +kernel
theorem dX5_node_45 : decode cX5_node 45 = .ok (.iload_n 3, 1) := by decide +kernel
theorem dX5_node_46 : decode cX5_node 46 = .ok (.invokevirtual 82, 3) := by decide +kernel
theorem dX5_node_49 : decode cX5_node 49 = .ok (.ifCond .ne 7, 3) := by decide +kernel
theorem dX5_node_52 : decode cX5_node 52 = .ok (.iconst 1, 1) := by decide +kernel
theorem dX5_node_53 : decode cX5_node 53 = .ok (.goto 4, 3) := by decide +kernel
theorem dX5_node_56 : decode cX5_node 56 = .ok (.iconst 0, 1) := by decide +kernel
theorem dX5_node_57 : decode cX5_node 57 = .ok (.istore 5, 2) := by decide +kernel
theorem dX5_node_59 : decode cX5_node 59 = .ok (.iload 4, 2) := by decide +kernel
theorem dX5_node_61 : decode cX5_node 61 = .ok (.ifCond .ne 8, 3) := by decide +kernel
theorem dX5_node_64 : decode cX5_node 64 = .ok (.iload 5, 2) := by decide +kernel
theorem dX5_node_66 : decode cX5_node 66 = .ok (.ifCond .eq 6, 3) := by decide +kernel
theorem dX5_node_69 : decode cX5_node 69 = .ok (.bipush (-2), 2) := by decide +kernel
theorem dX5_node_71 : decode cX5_node 71 = .ok (.ireturn, 1) := by decide +kernel
theorem dX5_node_72 : decode cX5_node 72 = .ok (.aload_n 0, 1) := by decide +kernel
theorem dX5_node_73 : decode cX5_node 73 = .ok (.getfield 19, 3) := by decide +kernel
theorem dX5_node_76 : decode cX5_node 76 = .ok (.invokevirtual 88, 3) := by decide +kernel
theorem dX5_node_79 : decode cX5_node 79 = .ok (.iconst 1, 1) := by decide +kernel
theorem dX5_node_80 : decode cX5_node 80 = .ok (.if_icmp .ge 6, 3) := by decide +kernel
theorem dX5_node_83 : decode cX5_node 83 = .ok (.bipush (-3), 2) := by decide +kernel
theorem dX5_node_85 : decode cX5_node 85 = .ok (.ireturn, 1) := by decide +kernel
theorem dX5_node_86 : decode cX5_node 86 = .ok (.aload_n 0, 1) := by decide +kernel
theorem dX5_node_87 : decode cX5_node 87 = .ok (.getfield 19, 3) := by decide +kernel
theorem dX5_node_90 : decode cX5_node 90 = .ok (.iload_n 1, 1) := by decide +kernel
theorem dX5_node_91 : decode cX5_node 91 = .ok (.iload_n 2, 1) := by decide +kernel
theorem dX5_node_92 : decode cX5_node 92 = .ok (.iload_n 3, 1) := by decide +kernel
theorem dX5_node_93 : decode cX5_node 93 = .ok (.invokevirtual 92, 3) := by decide +kernel
theorem dX5_node_96 : decode cX5_node 96 = .ok (.ireturn, 1) := by decide +kernel
set_option maxRecDepth 20000 in
theorem ggX5_nodes_X1_count : GoodIn wsX5_nodes wsX1_count := goodIn_r _ [6, 7, 12, 13, 14, 15, 16, 17, 18] (by decide +kernel) (by decide +kernel)
set_option maxRecDepth 20000 in
theorem gX5_nodes_X1_count : GoodIn wsX5_nodes (wsV RX5 95 RX1 yX1_count wsX1_count) := goodIn_app (goodIn_of _ (by decide +kernel)) ggX5_nodes_X1_count
theorem dX5_nodes_0 : decode cX5_nodes 0 = .ok (.aload_n 0, 1) := by decide +kernel
theorem dX5_nodes_1 : decode cX5_nodes 1 = .ok (.getfield 19, 3) := by decide +kernel
theorem dX5_nodes_4 : decode cX5_nodes 4 = .ok (.invokevirtual 95, 3) := by decide +kernel
theorem dX5_nodes_7 : decode cX5_nodes 7 = .ok (.ireturn, 1) := by decide +kernel
set_option maxRecDepth 20000 in
theorem ggX5_part_X1_holds : GoodIn wsX5_part wsX1_holds := goodIn_r _ [6, 7, 27, 28, 29, 30, 31, 32, 33] (by decide +kernel) (by decide +kernel)
set_option maxRecDepth 20000 in
theorem gX5_part_X1_holds : GoodIn wsX5_part (wsV RX5 82 RX1 yX1_holds wsX1_holds) := goodIn_app (goodIn_of _ (by decide +kernel)) ggX5_part_X1_holds
set_option maxRecDepth 20000 in
theorem ggX5_part_X1_symbolOf : GoodIn wsX5_part wsX1_symbolOf := goodIn_r _ [11, 12, 27, 28, 29, 30, 31, 32, 33] (by decide +kernel) (by decide +kernel)
set_option maxRecDepth 20000 in
theorem gX5_part_X1_symbolOf : GoodIn wsX5_part (wsV RX5 98 RX1 yX1_symbolOf wsX1_symbolOf) := goodIn_app (goodIn_of _ (by decide +kernel)) ggX5_part_X1_symbolOf
set_option maxRecDepth 20000 in
theorem ggX5_part_X1_leftOf : GoodIn wsX5_part wsX1_leftOf := goodIn_r _ [16, 17, 27, 28, 29, 30, 31, 32, 33] (by decide +kernel) (by decide +kernel)
set_option maxRecDepth 20000 in
theorem gX5_part_X1_leftOf : GoodIn wsX5_part (wsV RX5 102 RX1 yX1_leftOf wsX1_leftOf) := goodIn_app (goodIn_of _ (by decide +kernel)) ggX5_part_X1_leftOf
set_option maxRecDepth 20000 in
theorem ggX5_part_X1_rightOf : GoodIn wsX5_part wsX1_rightOf := goodIn_r _ [21, 22, 27, 28, 29, 30, 31, 32, 33] (by decide +kernel) (by decide +kernel)
set_option maxRecDepth 20000 in
theorem gX5_part_X1_rightOf : GoodIn wsX5_part (wsV RX5 105 RX1 yX1_rightOf wsX1_rightOf) := goodIn_app (goodIn_of _ (by decide +kernel)) ggX5_part_X1_rightOf
theorem dX5_part_0 : decode cX5_part 0 = .ok (.aload_n 0, 1) := by decide +kernel
theorem dX5_part_1 : decode cX5_part 1 = .ok (.getfield 19, 3) := by decide +kernel
theorem dX5_part_4 : decode cX5_part 4 = .ok (.iload_n 1, 1) := by decide +kernel
theorem dX5_part_5 : decode cX5_part 5 = .ok (.invokevirtual 82, 3) := by decide +kernel
theorem dX5_part_8 : decode cX5_part 8 = .ok (.ifCond .ne 6, 3) := by decide +kernel
theorem dX5_part_11 : decode cX5_part 11 = .ok (.bipush (-2), 2) := by decide +kernel
theorem dX5_part_13 : decode cX5_part 13 = .ok (.ireturn, 1) := by decide +kernel
theorem dX5_part_14 : decode cX5_part 14 = .ok (.iload_n 2, 1) := by decide +kernel
theorem dX5_part_15 : decode cX5_part 15 = .ok (.tableswitch 52 0 2 #[25, 34, 43], 25) := by decide +kernel
theorem dX5_part_40 : decode cX5_part 40 = .ok (.aload_n 0, 1) := by decide +kernel
theorem dX5_part_41 : decode cX5_part 41 = .ok (.getfield 19, 3) := by decide +kernel
theorem dX5_part_44 : decode cX5_part 44 = .ok (.iload_n 1, 1) := by decide +kernel
theorem dX5_part_45 : decode cX5_part 45 = .ok (.invokevirtual 98, 3) := by decide +kernel
theorem dX5_part_48 : decode cX5_part 48 = .ok (.ireturn, 1) := by decide +kernel
theorem dX5_part_49 : decode cX5_part 49 = .ok (.aload_n 0, 1) := by decide +kernel
theorem dX5_part_50 : decode cX5_part 50 = .ok (.getfield 19, 3) := by decide +kernel
theorem dX5_part_53 : decode cX5_part 53 = .ok (.iload_n 1, 1) := by decide +kernel
theorem dX5_part_54 : decode cX5_part 54 = .ok (.invokevirtual 102, 3) := by decide +kernel
theorem dX5_part_57 : decode cX5_part 57 = .ok (.ireturn, 1) := by decide +kernel
theorem dX5_part_58 : decode cX5_part 58 = .ok (.aload_n 0, 1) := by decide +kernel
theorem dX5_part_59 : decode cX5_part 59 = .ok (.getfield 19, 3) := by decide +kernel
theorem dX5_part_62 : decode cX5_part 62 = .ok (.iload_n 1, 1) := by decide +kernel
theorem dX5_part_63 : decode cX5_part 63 = .ok (.invokevirtual 105, 3) := by decide +kernel
theorem dX5_part_66 : decode cX5_part 66 = .ok (.ireturn, 1) := by decide +kernel
theorem dX5_part_67 : decode cX5_part 67 = .ok (.bipush (-2), 2) := by decide +kernel
theorem dX5_part_69 : decode cX5_part 69 = .ok (.ireturn, 1) := by decide +kernel
set_option maxRecDepth 20000 in
theorem ggX5_reached_X4_numbered : GoodIn wsX5_reached wsX4_numbered := goodIn_r _ [7, 8, 9, 44, 45] (by decide +kernel) (by decide +kernel)
set_option maxRecDepth 20000 in
theorem gX5_reached_X4_numbered : GoodIn wsX5_reached (wsV RX5 49 RX4 yX4_numbered wsX4_numbered) := goodIn_app (goodIn_of _ (by decide +kernel)) ggX5_reached_X4_numbered
set_option maxRecDepth 20000 in
theorem ggX5_reached_X1_holds : GoodIn wsX5_reached wsX1_holds := goodIn_r _ [14, 15, 46, 47, 48, 49, 50, 51, 52] (by decide +kernel) (by decide +kernel)
set_option maxRecDepth 20000 in
theorem gX5_reached_X1_holds : GoodIn wsX5_reached (wsV RX5 82 RX1 yX1_holds wsX1_holds) := goodIn_app (goodIn_of _ (by decide +kernel)) ggX5_reached_X1_holds
set_option maxRecDepth 20000 in
theorem ggX5_reached_X1_profileOf : GoodIn wsX5_reached wsX1_profileOf := goodIn_r _ [19, 20, 21, 22, 23, 24, 25, 26, 13, 27, 28, 29, 30, 6, 31, 8, 32, 9, 46, 47, 48, 49, 50, 51, 52, 44, 45, 53, 54, 55] (by decide +kernel) (by decide +kernel)
set_option maxRecDepth 20000 in
theorem gX5_reached_X1_profileOf : GoodIn wsX5_reached (wsV RX5 108 RX1 yX1_profileOf wsX1_profileOf) := goodIn_app (goodIn_of _ (by decide +kernel)) ggX5_reached_X1_profileOf
set_option maxRecDepth 20000 in
theorem ggX5_reached_X5_firstSet : GoodIn wsX5_reached wsX5_firstSet := goodIn_r _ [36] (by decide +kernel) (by decide +kernel)
set_option maxRecDepth 20000 in
theorem gX5_reached_X5_firstSet : GoodIn wsX5_reached (va_wsS RX5 112 yX5_firstSet wsX5_firstSet) := goodIn_app (goodIn_of _ (by decide +kernel)) ggX5_reached_X5_firstSet
set_option maxRecDepth 20000 in
theorem ggX5_reached_X5_secondSet : GoodIn wsX5_reached wsX5_secondSet := goodIn_r _ [39] (by decide +kernel) (by decide +kernel)
set_option maxRecDepth 20000 in
theorem gX5_reached_X5_secondSet : GoodIn wsX5_reached (va_wsS RX5 115 yX5_secondSet wsX5_secondSet) := goodIn_app (goodIn_of _ (by decide +kernel)) ggX5_reached_X5_secondSet
theorem dX5_reached_0 : decode cX5_reached 0 = .ok (.aload_n 0, 1) := by decide +kernel
theorem dX5_reached_1 : decode cX5_reached 1 = .ok (.getfield 12, 3) := by decide +kernel
theorem dX5_reached_4 : decode cX5_reached 4 = .ok (.iload_n 1, 1) := by decide +kernel
theorem dX5_reached_5 : decode cX5_reached 5 = .ok (.invokevirtual 49, 3) := by decide +kernel
theorem dX5_reached_8 : decode cX5_reached 8 = .ok (.ifnull 14, 3) := by decide +kernel
theorem dX5_reached_11 : decode cX5_reached 11 = .ok (.aload_n 0, 1) := by decide +kernel
theorem dX5_reached_12 : decode cX5_reached 12 = .ok (.getfield 19, 3) := by decide +kernel
theorem dX5_reached_15 : decode cX5_reached 15 = .ok (.iload_n 2, 1) := by decide +kernel
theorem dX5_reached_16 : decode cX5_reached 16 = .ok (.invokevirtual 82, 3) := by decide +kernel
theorem dX5_reached_19 : decode cX5_reached 19 = .ok (.ifCond .ne 5, 3) := by decide +kernel
theorem dX5_reached_22 : decode cX5_reached 22 = .ok (.iconst (-1), 1) := by decide +kernel
theorem dX5_reached_23 : decode cX5_reached 23 = .ok (.ireturn, 1) := by decide +kernel
theorem dX5_reached_24 : decode cX5_reached 24 = .ok (.aload_n 0, 1) := by decide +kernel
theorem dX5_reached_25 : decode cX5_reached 25 = .ok (.getfield 19, 3) := by decide +kernel
theorem dX5_reached_28 : decode cX5_reached 28 = .ok (.iload_n 2, 1) := by decide +kernel
theorem dX5_reached_29 : decode cX5_reached 29 = .ok (.aload_n 0, 1) := by decide +kernel
theorem dX5_reached_30 : decode cX5_reached 30 = .ok (.getfield 12, 3) := by decide +kernel
theorem dX5_reached_33 : decode cX5_reached 33 = .ok (.invokevirtual 108, 3) := by decide +kernel
theorem dX5_reached_36 : decode cX5_reached 36 = .ok (.istore_n 3, 1) := by decide +kernel
theorem dX5_reached_37 : decode cX5_reached 37 = .ok (.iload_n 1, 1) := by decide +kernel
theorem dX5_reached_38 : decode cX5_reached 38 = .ok (.ifCond .ne 10, 3) := by decide +kernel
theorem dX5_reached_41 : decode cX5_reached 41 = .ok (.iload_n 3, 1) := by decide +kernel
theorem dX5_reached_42 : decode cX5_reached 42 = .ok (.invokestatic 112, 3) := by decide +kernel
theorem dX5_reached_45 : decode cX5_reached 45 = .ok (.goto 7, 3) := by decide +kernel
theorem dX5_reached_48 : decode cX5_reached 48 = .ok (.iload_n 3, 1) := by decide +kernel
theorem dX5_reached_49 : decode cX5_reached 49 = .ok (.invokestatic 115, 3) := by decide +kernel
theorem dX5_reached_52 : decode cX5_reached 52 = .ok (.ireturn, 1) := by decide +kernel
set_option maxRecDepth 20000 in
theorem ggX5_place_X1_holds : GoodIn wsX5_place wsX1_holds := goodIn_r _ [7, 8, 48, 49, 50, 51, 52, 53, 54] (by decide +kernel) (by decide +kernel)
set_option maxRecDepth 20000 in
theorem gX5_place_X1_holds : GoodIn wsX5_place (wsV RX5 82 RX1 yX1_holds wsX1_holds) := goodIn_app (goodIn_of _ (by decide +kernel)) ggX5_place_X1_holds
set_option maxRecDepth 20000 in
theorem ggX5_place_X1_profileOf : GoodIn wsX5_place wsX1_profileOf := goodIn_r _ [12, 13, 14, 15, 16, 17, 18, 19, 6, 20, 21, 22, 23, 24, 25, 26, 27, 28, 48, 49, 50, 51, 52, 53, 54, 55, 56, 57, 58, 59] (by decide +kernel) (by decide +kernel)
set_option maxRecDepth 20000 in
theorem gX5_place_X1_profileOf : GoodIn wsX5_place (wsV RX5 108 RX1 yX1_profileOf wsX1_profileOf) := goodIn_app (goodIn_of _ (by decide +kernel)) ggX5_place_X1_profileOf
set_option maxRecDepth 20000 in
theorem ggX5_place_X4_placeOf : GoodIn wsX5_place wsX4_placeOf := goodIn_r _ [32, 26, 28, 33, 34, 35, 36, 37, 38, 39, 40, 41, 42, 43, 55, 56, 57, 58, 59] (by decide +kernel) (by decide +kernel)
set_option maxRecDepth 20000 in
theorem gX5_place_X4_placeOf : GoodIn wsX5_place (wsV RX5 118 RX4 yX4_placeOf wsX4_placeOf) := goodIn_app (goodIn_of _ (by decide +kernel)) ggX5_place_X4_placeOf
theorem dX5_place_0 : decode cX5_place 0 = .ok (.aload_n 0, 1) := by decide +kernel
theorem dX5_place_1 : decode cX5_place 1 = .ok (.getfield 19, 3) := by decide +kernel
theorem dX5_place_4 : decode cX5_place 4 = .ok (.iload_n 1, 1) := by decide +kernel
theorem dX5_place_5 : decode cX5_place 5 = .ok (.invokevirtual 82, 3) := by decide +kernel
theorem dX5_place_8 : decode cX5_place 8 = .ok (.ifCond .ne 5, 3) := by decide +kernel
theorem dX5_place_11 : decode cX5_place 11 = .ok (.iconst (-1), 1) := by decide +kernel
theorem dX5_place_12 : decode cX5_place 12 = .ok (.ireturn, 1) := by decide +kernel
theorem dX5_place_13 : decode cX5_place 13 = .ok (.aload_n 0, 1) := by decide +kernel
theorem dX5_place_14 : decode cX5_place 14 = .ok (.getfield 12, 3) := by decide +kernel
theorem dX5_place_17 : decode cX5_place 17 = .ok (.aload_n 0, 1) := by decide +kernel
theorem dX5_place_18 : decode cX5_place 18 = .ok (.getfield 19, 3) := by decide +kernel
theorem dX5_place_21 : decode cX5_place 21 = .ok (.iload_n 1, 1) := by decide +kernel
theorem dX5_place_22 : decode cX5_place 22 = .ok (.aload_n 0, 1) := by decide +kernel
theorem dX5_place_23 : decode cX5_place 23 = .ok (.getfield 12, 3) := by decide +kernel
theorem dX5_place_26 : decode cX5_place 26 = .ok (.invokevirtual 108, 3) := by decide +kernel
theorem dX5_place_29 : decode cX5_place 29 = .ok (.invokevirtual 118, 3) := by decide +kernel
theorem dX5_place_32 : decode cX5_place 32 = .ok (.ireturn, 1) := by decide +kernel
set_option maxRecDepth 20000 in
theorem ggX5_size_X1_holds : GoodIn wsX5_size wsX1_holds := goodIn_r _ [6, 7, 17, 18, 19, 20, 21, 22, 23] (by decide +kernel) (by decide +kernel)
set_option maxRecDepth 20000 in
theorem gX5_size_X1_holds : GoodIn wsX5_size (wsV RX5 82 RX1 yX1_holds wsX1_holds) := goodIn_app (goodIn_of _ (by decide +kernel)) ggX5_size_X1_holds
set_option maxRecDepth 20000 in
theorem ggX5_size_X1_sizeOf : GoodIn wsX5_size wsX1_sizeOf := goodIn_r _ [11, 12, 17, 18, 19, 20, 21, 22, 23] (by decide +kernel) (by decide +kernel)
set_option maxRecDepth 20000 in
theorem gX5_size_X1_sizeOf : GoodIn wsX5_size (wsV RX5 121 RX1 yX1_sizeOf wsX1_sizeOf) := goodIn_app (goodIn_of _ (by decide +kernel)) ggX5_size_X1_sizeOf
theorem dX5_size_0 : decode cX5_size 0 = .ok (.aload_n 0, 1) := by decide +kernel
theorem dX5_size_1 : decode cX5_size 1 = .ok (.getfield 19, 3) := by decide +kernel
theorem dX5_size_4 : decode cX5_size 4 = .ok (.iload_n 1, 1) := by decide +kernel
theorem dX5_size_5 : decode cX5_size 5 = .ok (.invokevirtual 82, 3) := by decide +kernel
theorem dX5_size_8 : decode cX5_size 8 = .ok (.ifCond .eq 14, 3) := by decide +kernel
theorem dX5_size_11 : decode cX5_size 11 = .ok (.aload_n 0, 1) := by decide +kernel
theorem dX5_size_12 : decode cX5_size 12 = .ok (.getfield 19, 3) := by decide +kernel
theorem dX5_size_15 : decode cX5_size 15 = .ok (.iload_n 1, 1) := by decide +kernel
theorem dX5_size_16 : decode cX5_size 16 = .ok (.invokevirtual 121, 3) := by decide +kernel
theorem dX5_size_19 : decode cX5_size 19 = .ok (.goto 4, 3) := by decide +kernel
theorem dX5_size_22 : decode cX5_size 22 = .ok (.iconst (-1), 1) := by decide +kernel
theorem dX5_size_23 : decode cX5_size 23 = .ok (.ireturn, 1) := by decide +kernel
set_option maxRecDepth 20000 in
theorem ggX5_included_X2_firstOf : GoodIn wsX5_included wsX2_firstOf := goodIn_r _ [6, 7, 8, 9, 10, 11, 12, 5, 13, 14, 15, 16, 17, 18, 19, 20, 21, 22, 23, 24, 25, 26, 27, 28, 29, 30, 31, 32, 33, 34, 35, 36, 37, 38, 39, 40, 41, 42, 43, 44, 45, 46, 47, 48, 49, 50, 51, 52, 53, 54, 55, 56, 57, 58, 59, 60, 61, 62, 63, 64, 65, 66, 67, 68, 69, 70, 71, 72, 73, 74, 75, 76, 77, 78, 79, 80, 81, 82, 83, 84, 85, 86, 87, 92, 93, 94, 95, 96, 97, 98, 99, 100, 101, 102, 103, 104, 105, 106, 107, 108, 109] (by decide +kernel) (by decide +kernel)
set_option maxRecDepth 20000 in
theorem gX5_included_X2_firstOf : GoodIn wsX5_included (wsV RX5 124 RX2 yX2_firstOf wsX2_firstOf) := goodIn_app (goodIn_of _ (by decide +kernel)) ggX5_included_X2_firstOf
theorem dX5_included_0 : decode cX5_included 0 = .ok (.aload_n 0, 1) := by decide +kernel
theorem dX5_included_1 : decode cX5_included 1 = .ok (.getfield 28, 3) := by decide +kernel
theorem dX5_included_4 : decode cX5_included 4 = .ok (.iconst 4, 1) := by decide +kernel
theorem dX5_included_5 : decode cX5_included 5 = .ok (.invokevirtual 124, 3) := by decide +kernel
theorem dX5_included_8 : decode cX5_included 8 = .ok (.iconst (-1), 1) := by decide +kernel
theorem dX5_included_9 : decode cX5_included 9 = .ok (.if_icmp .ne 7, 3) := by decide +kernel
theorem dX5_included_12 : decode cX5_included 12 = .ok (.iconst 1, 1) := by decide +kernel
theorem dX5_included_13 : decode cX5_included 13 = .ok (.goto 4, 3) := by decide +kernel
theorem dX5_included_16 : decode cX5_included 16 = .ok (.iconst 0, 1) := by decide +kernel
theorem dX5_included_17 : decode cX5_included 17 = .ok (.ireturn, 1) := by decide +kernel
set_option maxRecDepth 20000 in
theorem ggX5_least_X5_isSort : GoodIn wsX5_least wsX5_isSort := goodIn_r _ [5] (by decide +kernel) (by decide +kernel)
set_option maxRecDepth 20000 in
theorem gX5_least_X5_isSort : GoodIn wsX5_least (va_wsS RX5 127 yX5_isSort wsX5_isSort) := goodIn_app (goodIn_of _ (by decide +kernel)) ggX5_least_X5_isSort
set_option maxRecDepth 20000 in
theorem ggX5_least_X2_firstOf : GoodIn wsX5_least wsX2_firstOf := goodIn_r _ [10, 11, 12, 13, 14, 15, 16, 9, 17, 18, 19, 20, 21, 22, 23, 24, 25, 26, 27, 28, 29, 30, 31, 32, 4, 33, 34, 35, 36, 37, 38, 39, 40, 41, 42, 43, 44, 45, 46, 47, 48, 49, 50, 51, 52, 53, 54, 55, 56, 57, 58, 59, 60, 61, 62, 63, 64, 65, 66, 67, 68, 69, 70, 71, 72, 73, 74, 75, 76, 77, 78, 79, 80, 81, 82, 83, 84, 85, 86, 87, 88, 89, 90, 99, 100, 101, 102, 103, 104, 105, 106, 107, 108, 109, 110, 111, 112, 113, 114, 115, 116] (by decide +kernel) (by decide +kernel)
set_option maxRecDepth 20000 in
theorem gX5_least_X2_firstOf : GoodIn wsX5_least (wsV RX5 124 RX2 yX2_firstOf wsX2_firstOf) := goodIn_app (goodIn_of _ (by decide +kernel)) ggX5_least_X2_firstOf
set_option maxRecDepth 20000 in
theorem ggX5_least_X2_sizeOf : GoodIn wsX5_least wsX2_sizeOf := goodIn_r _ [94, 19, 99, 100, 101, 102, 103, 104, 105, 106, 107, 108, 109, 110, 111] (by decide +kernel) (by decide +kernel)
set_option maxRecDepth 20000 in
theorem gX5_least_X2_sizeOf : GoodIn wsX5_least (wsV RX5 130 RX2 yX2_sizeOf wsX2_sizeOf) := goodIn_app (goodIn_of _ (by decide +kernel)) ggX5_least_X2_sizeOf
theorem dX5_least_0 : decode cX5_least 0 = .ok (.iload_n 1, 1) := by decide +kernel
theorem dX5_least_1 : decode cX5_least 1 = .ok (.invokestatic 127, 3) := by decide +kernel
theorem dX5_least_4 : decode cX5_least 4 = .ok (.ifCond .ne 5, 3) := by decide +kernel
theorem dX5_least_7 : decode cX5_least 7 = .ok (.iconst (-1), 1) := by decide +kernel
theorem dX5_least_8 : decode cX5_least 8 = .ok (.ireturn, 1) := by decide +kernel
theorem dX5_least_9 : decode cX5_least 9 = .ok (.aload_n 0, 1) := by decide +kernel
theorem dX5_least_10 : decode cX5_least 10 = .ok (.getfield 28, 3) := by decide +kernel
theorem dX5_least_13 : decode cX5_least 13 = .ok (.iload_n 1, 1) := by decide +kernel
theorem dX5_least_14 : decode cX5_least 14 = .ok (.invokevirtual 124, 3) := by decide +kernel
theorem dX5_least_17 : decode cX5_least 17 = .ok (.istore_n 2, 1) := by decide +kernel
theorem dX5_least_18 : decode cX5_least 18 = .ok (.iload_n 2, 1) := by decide +kernel
theorem dX5_least_19 : decode cX5_least 19 = .ok (.iconst (-1), 1) := by decide +kernel
theorem dX5_least_20 : decode cX5_least 20 = .ok (.if_icmp .ne 7, 3) := by decide +kernel
theorem dX5_least_23 : decode cX5_least 23 = .ok (.iconst 0, 1) := by decide +kernel
theorem dX5_least_24 : decode cX5_least 24 = .ok (.goto 11, 3) := by decide +kernel
theorem dX5_least_27 : decode cX5_least 27 = .ok (.aload_n 0, 1) := by decide +kernel
theorem dX5_least_28 : decode cX5_least 28 = .ok (.getfield 28, 3) := by decide +kernel
theorem dX5_least_31 : decode cX5_least 31 = .ok (.iload_n 2, 1) := by decide +kernel
theorem dX5_least_32 : decode cX5_least 32 = .ok (.invokevirtual 130, 3) := by decide +kernel
theorem dX5_least_35 : decode cX5_least 35 = .ok (.ireturn, 1) := by decide +kernel
set_option maxRecDepth 20000 in
theorem ggX5_witness_X5_isSort : GoodIn wsX5_witness wsX5_isSort := goodIn_r _ [6] (by decide +kernel) (by decide +kernel)
set_option maxRecDepth 20000 in
theorem gX5_witness_X5_isSort : GoodIn wsX5_witness (va_wsS RX5 127 yX5_isSort wsX5_isSort) := goodIn_app (goodIn_of _ (by decide +kernel)) ggX5_witness_X5_isSort
set_option maxRecDepth 20000 in
theorem ggX5_witness_X2_firstOf : GoodIn wsX5_witness wsX2_firstOf := goodIn_r _ [11, 12, 13, 14, 15, 16, 17, 10, 18, 19, 20, 21, 22, 23, 24, 25, 26, 27, 28, 29, 30, 31, 32, 33, 5, 34, 35, 36, 37, 38, 39, 40, 41, 42, 43, 44, 45, 46, 47, 48, 49, 50, 51, 52, 53, 54, 55, 56, 57, 58, 59, 60, 61, 62, 63, 64, 65, 66, 67, 68, 69, 70, 71, 72, 73, 74, 75, 76, 77, 78, 79, 80, 81, 82, 83, 84, 85, 86, 87, 88, 89, 90, 91, 133, 134, 135, 136, 137, 138, 139, 140, 141, 142, 143, 144, 145, 146, 147, 148, 149, 150] (by decide +kernel) (by decide +kernel)
set_option maxRecDepth 20000 in
theorem gX5_witness_X2_firstOf : GoodIn wsX5_witness (wsV RX5 124 RX2 yX2_firstOf wsX2_firstOf) := goodIn_app (goodIn_of _ (by decide +kernel)) ggX5_witness_X2_firstOf
set_option maxRecDepth 20000 in
theorem ggX5_witness_X2_sizeOf : GoodIn wsX5_witness wsX2_sizeOf := goodIn_r _ [95, 20, 133, 134, 135, 136, 137, 138, 139, 140, 141, 142, 143, 144, 145] (by decide +kernel) (by decide +kernel)
set_option maxRecDepth 20000 in
theorem gX5_witness_X2_sizeOf : GoodIn wsX5_witness (wsV RX5 130 RX2 yX2_sizeOf wsX2_sizeOf) := goodIn_app (goodIn_of _ (by decide +kernel)) ggX5_witness_X2_sizeOf
set_option maxRecDepth 20000 in
theorem ggX5_witness_X1_room : GoodIn wsX5_witness wsX1_room := goodIn_r _ [100, 101, 151, 152, 153, 154, 155, 156, 157] (by decide +kernel) (by decide +kernel)
set_option maxRecDepth 20000 in
theorem gX5_witness_X1_room : GoodIn wsX5_witness (wsV RX5 88 RX1 yX1_room wsX1_room) := goodIn_app (goodIn_of _ (by decide +kernel)) ggX5_witness_X1_room
set_option maxRecDepth 20000 in
theorem ggX5_witness_X2_writingOf : GoodIn wsX5_witness wsX2_writingOf := goodIn_r _ [105, 106, 107, 44, 46, 45, 33, 5, 34, 55, 56, 133, 134, 135, 136, 137, 138, 139, 140, 141, 142, 143, 144, 145] (by decide +kernel) (by decide +kernel)
set_option maxRecDepth 20000 in
theorem gX5_witness_X2_writingOf : GoodIn wsX5_witness (wsV RX5 131 RX2 yX2_writingOf wsX2_writingOf) := goodIn_app (goodIn_of _ (by decide +kernel)) ggX5_witness_X2_writingOf
set_option maxRecDepth 20000 in
theorem ggX5_witness_X1_plant : GoodIn wsX5_witness wsX1_plant := goodIn_r _ [111, 112, 55, 5, 56, 33, 34, 113, 114, 115, 99, 116, 101, 117, 118, 119, 120, 121, 122, 123, 124, 125, 126, 127, 128, 151, 152, 153, 154, 155, 156, 157] (by decide +kernel) (by decide +kernel)
set_option maxRecDepth 20000 in
theorem gX5_witness_X1_plant : GoodIn wsX5_witness (wsV RX5 135 RX1 yX1_plant wsX1_plant) := goodIn_app (goodIn_of _ (by decide +kernel)) ggX5_witness_X1_plant
theorem dX5_witness_0 : decode cX5_witness 0 = .ok (.iload_n 1, 1) := by decide +kernel
theorem dX5_witness_1 : decode cX5_witness 1 = .ok (.invokestatic 127, 3) := by decide +kernel
theorem dX5_witness_4 : decode cX5_witness 4 = .ok (.ifCond .ne 5, 3) := by decide +kernel
theorem dX5_witness_7 : decode cX5_witness 7 = .ok (.iconst (-1), 1) := by decide +kernel
theorem dX5_witness_8 : decode cX5_witness 8 = .ok (.ireturn, 1) := by decide +kernel
theorem dX5_witness_9 : decode cX5_witness 9 = .ok (.aload_n 0, 1) := by decide +kernel
theorem dX5_witness_10 : decode cX5_witness 10 = .ok (.getfield 28, 3) := by decide +kernel
theorem dX5_witness_13 : decode cX5_witness 13 = .ok (.iload_n 1, 1) := by decide +kernel
theorem dX5_witness_14 : decode cX5_witness 14 = .ok (.invokevirtual 124, 3) := by decide +kernel
theorem dX5_witness_17 : decode cX5_witness 17 = .ok (.istore_n 2, 1) := by decide +kernel
theorem dX5_witness_18 : decode cX5_witness 18 = .ok (.iload_n 2, 1) := by decide +kernel
theorem dX5_witness_19 : decode cX5_witness 19 = .ok (.iconst (-1), 1) := by decide +kernel
theorem dX5_witness_20 : decode cX5_witness 20 = .ok (.if_icmp .ne 6, 3) := by decide +kernel
theorem dX5_witness_23 : decode cX5_witness 23 = .ok (.bipush (-2), 2) := by decide +kernel
theorem dX5_witness_25 : decode cX5_witness 25 = .ok (.ireturn, 1) := by decide +kernel
theorem dX5_witness_26 : decode cX5_witness 26 = .ok (.aload_n 0, 1) := by decide +kernel
theorem dX5_witness_27 : decode cX5_witness 27 = .ok (.getfield 28, 3) := by decide +kernel
theorem dX5_witness_30 : decode cX5_witness 30 = .ok (.iload_n 2, 1) := by decide +kernel
theorem dX5_witness_31 : decode cX5_witness 31 = .ok (.invokevirtual 130, 3) := by decide +kernel
theorem dX5_witness_34 : decode cX5_witness 34 = .ok (.istore_n 3, 1) := by decide +kernel
theorem dX5_witness_35 : decode cX5_witness 35 = .ok (.iload_n 3, 1) := by decide +kernel
theorem dX5_witness_36 : decode cX5_witness 36 = .ok (.bipush 32, 2) := by decide +kernel
theorem dX5_witness_38 : decode cX5_witness 38 = .ok (.if_icmp .le 6, 3) := by decide +kernel
theorem dX5_witness_41 : decode cX5_witness 41 = .ok (.bipush (-3), 2) := by decide +kernel
theorem dX5_witness_43 : decode cX5_witness 43 = .ok (.ireturn, 1) := by decide +kernel
theorem dX5_witness_44 : decode cX5_witness 44 = .ok (.iload_n 3, 1) := by decide +kernel
theorem dX5_witness_45 : decode cX5_witness 45 = .ok (.aload_n 0, 1) := by decide +kernel
theorem dX5_witness_46 : decode cX5_witness 46 = .ok (.getfield 19, 3) := by decide +kernel
theorem dX5_witness_49 : decode cX5_witness 49 = .ok (.invokevirtual 88, 3) := by decide +kernel
theorem dX5_witness_52 : decode cX5_witness 52 = .ok (.if_icmp .le 6, 3) := by decide +kernel
theorem dX5_witness_55 : decode cX5_witness 55 = .ok (.bipush (-4), 2) := by decide +kernel
theorem dX5_witness_57 : decode cX5_witness 57 = .ok (.ireturn, 1) := by decide +kernel
theorem dX5_witness_58 : decode cX5_witness 58 = .ok (.aload_n 0, 1) := by decide +kernel
theorem dX5_witness_59 : decode cX5_witness 59 = .ok (.getfield 19, 3) := by decide +kernel
theorem dX5_witness_62 : decode cX5_witness 62 = .ok (.aload_n 0, 1) := by decide +kernel
theorem dX5_witness_63 : decode cX5_witness 63 = .ok (.getfield 28, 3) := by decide +kernel
theorem dX5_witness_66 : decode cX5_witness 66 = .ok (.iload_n 2, 1) := by decide +kernel
theorem dX5_witness_67 : decode cX5_witness 67 = .ok (.invokevirtual 131, 3) := by decide +kernel
theorem dX5_witness_70 : decode cX5_witness 70 = .ok (.iload_n 3, 1) := by decide +kernel
theorem dX5_witness_71 : decode cX5_witness 71 = .ok (.invokevirtual 135, 3) := by decide +kernel
theorem dX5_witness_74 : decode cX5_witness 74 = .ok (.ireturn, 1) := by decide +kernel
set_option maxRecDepth 20000 in
theorem ggX5_terms_X5_isSort : GoodIn wsX5_terms wsX5_isSort := goodIn_r _ [5] (by decide +kernel) (by decide +kernel)
set_option maxRecDepth 20000 in
theorem gX5_terms_X5_isSort : GoodIn wsX5_terms (va_wsS RX5 127 yX5_isSort wsX5_isSort) := goodIn_app (goodIn_of _ (by decide +kernel)) ggX5_terms_X5_isSort
set_option maxRecDepth 20000 in
theorem ggX5_terms_X0_ofSort : GoodIn wsX5_terms wsX0_ofSort := goodIn_r _ [10, 11, 12, 13, 14, 15, 16, 17, 18, 19, 20, 21, 22, 23, 24, 25, 26, 27, 28, 29, 30, 31, 32, 33, 34, 35, 4, 36, 37, 38, 39, 40, 41, 42, 43, 44, 45, 46, 47, 48, 49, 50, 51, 52, 53, 54, 55, 56, 57, 58, 59, 60, 61, 62, 63, 64, 65, 66, 67, 68, 69, 70, 71, 72, 73, 74, 75, 76, 77, 78, 79, 80, 81, 82, 83, 84, 9, 85, 86, 87, 88, 89, 90, 91, 92, 93, 94, 95, 96, 97, 98, 99, 100, 101, 102, 103, 104, 105, 106, 107, 108, 109, 110, 111, 112, 113, 114, 115, 116, 117, 118, 119, 120, 121, 122, 123, 124, 125, 126, 127, 128, 133, 134, 135, 136, 137, 138, 139, 140, 141, 142, 143, 144, 145, 146, 147, 148, 149, 150, 151, 152, 153, 154] (by decide +kernel) (by decide +kernel)
set_option maxRecDepth 20000 in
theorem gX5_terms_X0_ofSort : GoodIn wsX5_terms (wsV RX5 139 RX0 yX0_ofSort wsX0_ofSort) := goodIn_app (goodIn_of _ (by decide +kernel)) ggX5_terms_X0_ofSort
theorem dX5_terms_0 : decode cX5_terms 0 = .ok (.iload_n 1, 1) := by decide +kernel
theorem dX5_terms_1 : decode cX5_terms 1 = .ok (.invokestatic 127, 3) := by decide +kernel
theorem dX5_terms_4 : decode cX5_terms 4 = .ok (.ifCond .eq 14, 3) := by decide +kernel
theorem dX5_terms_7 : decode cX5_terms 7 = .ok (.iload_n 2, 1) := by decide +kernel
theorem dX5_terms_8 : decode cX5_terms 8 = .ok (.iconst 1, 1) := by decide +kernel
theorem dX5_terms_9 : decode cX5_terms 9 = .ok (.if_icmp .lt 9, 3) := by decide +kernel
theorem dX5_terms_12 : decode cX5_terms 12 = .ok (.iload_n 2, 1) := by decide +kernel
theorem dX5_terms_13 : decode cX5_terms 13 = .ok (.bipush 12, 2) := by decide +kernel
theorem dX5_terms_15 : decode cX5_terms 15 = .ok (.if_icmp .le 5, 3) := by decide +kernel
theorem dX5_terms_18 : decode cX5_terms 18 = .ok (.iconst (-1), 1) := by decide +kernel
theorem dX5_terms_19 : decode cX5_terms 19 = .ok (.ireturn, 1) := by decide +kernel
theorem dX5_terms_20 : decode cX5_terms 20 = .ok (.aload_n 0, 1) := by decide +kernel
theorem dX5_terms_21 : decode cX5_terms 21 = .ok (.getfield 37, 3) := by decide +kernel
theorem dX5_terms_24 : decode cX5_terms 24 = .ok (.iload_n 1, 1) := by decide +kernel
theorem dX5_terms_25 : decode cX5_terms 25 = .ok (.iload_n 2, 1) := by decide +kernel
theorem dX5_terms_26 : decode cX5_terms 26 = .ok (.invokevirtual 139, 3) := by decide +kernel
theorem dX5_terms_29 : decode cX5_terms 29 = .ok (.ireturn, 1) := by decide +kernel
set_option maxRecDepth 20000 in
theorem ggX5_changeRule_X4_numbered : GoodIn wsX5_changeRule wsX4_numbered := goodIn_r _ [6, 7, 8, 57, 58] (by decide +kernel) (by decide +kernel)
set_option maxRecDepth 20000 in
theorem gX5_changeRule_X4_numbered : GoodIn wsX5_changeRule (wsV RX5 49 RX4 yX4_numbered wsX4_numbered) := goodIn_app (goodIn_of _ (by decide +kernel)) ggX5_changeRule_X4_numbered
set_option maxRecDepth 20000 in
theorem ggX5_changeRule_X5_isState : GoodIn wsX5_changeRule wsX5_isState := goodIn_r _ [12] (by decide +kernel) (by decide +kernel)
set_option maxRecDepth 20000 in
theorem gX5_changeRule_X5_isState : GoodIn wsX5_changeRule (va_wsS RX5 53 yX5_isState wsX5_isState) := goodIn_app (goodIn_of _ (by decide +kernel)) ggX5_changeRule_X5_isState
set_option maxRecDepth 20000 in
theorem ggX5_changeRule_X3_leads : GoodIn wsX5_changeRule wsX3_leads := goodIn_r _ [17, 18, 59, 60, 61] (by decide +kernel) (by decide +kernel)
set_option maxRecDepth 20000 in
theorem gX5_changeRule_X3_leads : GoodIn wsX5_changeRule (wsV RX5 57 RX3 yX3_leads wsX3_leads) := goodIn_app (goodIn_of _ (by decide +kernel)) ggX5_changeRule_X3_leads
set_option maxRecDepth 20000 in
theorem ggX5_changeRule_X3_turnRule : GoodIn wsX5_changeRule wsX3_turnRule := goodIn_r _ [22, 18, 23, 24, 25, 16, 26, 27, 28, 11, 29, 30, 31, 32, 33, 34, 59, 60, 61] (by decide +kernel) (by decide +kernel)
set_option maxRecDepth 20000 in
theorem gX5_changeRule_X3_turnRule : GoodIn wsX5_changeRule (wsV RX5 143 RX3 yX3_turnRule wsX3_turnRule) := goodIn_app (goodIn_of _ (by decide +kernel)) ggX5_changeRule_X3_turnRule
set_option maxRecDepth 20000 in
theorem ggX5_changeRule_X5_forgetProfiles : GoodIn wsX5_changeRule wsX5_forgetProfiles := goodIn_r _ [38, 39, 40, 41, 42, 43, 44, 45, 46, 47, 48, 49, 50, 51, 52, 53, 54, 55, 56, 62, 63, 64, 65, 66, 67, 68, 69, 70, 71, 72, 73, 74, 75, 76, 77, 78] (by decide +kernel) (by decide +kernel)
set_option maxRecDepth 20000 in
theorem gX5_changeRule_X5_forgetProfiles : GoodIn wsX5_changeRule (wsV RX5 73 RX5 yX5_forgetProfiles wsX5_forgetProfiles) := goodIn_app (goodIn_of _ (by decide +kernel)) ggX5_changeRule_X5_forgetProfiles
theorem dX5_changeRule_0 : decode cX5_changeRule 0 = .ok (.aload_n 0, 1) := by decide +kernel
theorem dX5_changeRule_1 : decode cX5_changeRule 1 = .ok (.getfield 12, 3) := by decide +kernel
theorem dX5_changeRule_4 : decode cX5_changeRule 4 = .ok (.iload_n 1, 1) := by decide +kernel
theorem dX5_changeRule_5 : decode cX5_changeRule 5 = .ok (.invokevirtual 49, 3) := by decide +kernel
theorem dX5_changeRule_8 : decode cX5_changeRule 8 = .ok (.astore 5, 2) := by decide +kernel
theorem dX5_changeRule_10 : decode cX5_changeRule 10 = .ok (.aload 5, 2) := by decide +kernel
theorem dX5_changeRule_12 : decode cX5_changeRule 12 = .ok (.ifnull 27, 3) := by decide +kernel
theorem dX5_changeRule_15 : decode cX5_changeRule 15 = .ok (.iload_n 2, 1) := by decide +kernel
theorem dX5_changeRule_16 : decode cX5_changeRule 16 = .ok (.iconst (-1), 1) := by decide +kernel
theorem dX5_changeRule_17 : decode cX5_changeRule 17 = .ok (.if_icmp .eq 22, 3) := by decide +kernel
theorem dX5_changeRule_20 : decode cX5_changeRule 20 = .ok (.iload_n 3, 1) := by decide +kernel
theorem dX5_changeRule_21 : decode cX5_changeRule 21 = .ok (.invokestatic 53, 3) := by decide +kernel
theorem dX5_changeRule_24 : decode cX5_changeRule 24 = .ok (.ifCond .eq 15, 3) := by decide +kernel
theorem dX5_changeRule_27 : decode cX5_changeRule 27 = .ok (.aload 5, 2) := by decide +kernel
theorem dX5_changeRule_29 : decode cX5_changeRule 29 = .ok (.iload_n 2, 1) := by decide +kernel
theorem dX5_changeRule_30 : decode cX5_changeRule 30 = .ok (.iload_n 3, 1) := by decide +kernel
theorem dX5_changeRule_31 : decode cX5_changeRule 31 = .ok (.invokevirtual 57, 3) := by decide +kernel
theorem dX5_changeRule_34 : decode cX5_changeRule 34 = .ok (.iload 4, 2) := by decide +kernel
theorem dX5_changeRule_36 : decode cX5_changeRule 36 = .ok (.if_icmp .ne 5, 3) := by decide +kernel
theorem dX5_changeRule_39 : decode cX5_changeRule 39 = .ok (.iconst 0, 1) := by decide +kernel
theorem dX5_changeRule_40 : decode cX5_changeRule 40 = .ok (.ireturn, 1) := by decide +kernel
theorem dX5_changeRule_41 : decode cX5_changeRule 41 = .ok (.aload 5, 2) := by decide +kernel
theorem dX5_changeRule_43 : decode cX5_changeRule 43 = .ok (.iload_n 2, 1) := by decide +kernel
theorem dX5_changeRule_44 : decode cX5_changeRule 44 = .ok (.iload_n 3, 1) := by decide +kernel
theorem dX5_changeRule_45 : decode cX5_changeRule 45 = .ok (.invokevirtual 143, 3) := by decide +kernel
theorem dX5_changeRule_48 : decode cX5_changeRule 48 = .ok (.aload_n 0, 1) := by decide +kernel
theorem dX5_changeRule_49 : decode cX5_changeRule 49 = .ok (.invokevirtual 73, 3) := by decide +kernel
theorem dX5_changeRule_52 : decode cX5_changeRule 52 = .ok (.iconst 1, 1) := by decide +kernel
theorem dX5_changeRule_53 : decode cX5_changeRule 53 = .ok (.ireturn, 1) := by decide +kernel
set_option maxRecDepth 20000 in
theorem ggX5_forgetProfiles_X2_forget : GoodIn wsX5_forgetProfiles wsX2_forget := goodIn_r _ [7, 8, 19, 20, 21, 22, 23, 24, 25, 26, 27, 28, 29, 30, 31] (by decide +kernel) (by decide +kernel)
set_option maxRecDepth 20000 in
theorem gX5_forgetProfiles_X2_forget : GoodIn wsX5_forgetProfiles (wsV RX5 147 RX2 yX2_forget wsX2_forget) := goodIn_app (goodIn_of _ (by decide +kernel)) ggX5_forgetProfiles_X2_forget
set_option maxRecDepth 20000 in
theorem ggX5_forgetProfiles_X0_forget : GoodIn wsX5_forgetProfiles wsX0_forget := goodIn_r _ [13, 14, 32, 33, 34, 35] (by decide +kernel) (by decide +kernel)
set_option maxRecDepth 20000 in
theorem gX5_forgetProfiles_X0_forget : GoodIn wsX5_forgetProfiles (wsV RX5 150 RX0 yX0_forget wsX0_forget) := goodIn_app (goodIn_of _ (by decide +kernel)) ggX5_forgetProfiles_X0_forget
theorem dX5_forgetProfiles_0 : decode cX5_forgetProfiles 0 = .ok (.aload_n 0, 1) := by decide +kernel
theorem dX5_forgetProfiles_1 : decode cX5_forgetProfiles 1 = .ok (.getfield 28, 3) := by decide +kernel
theorem dX5_forgetProfiles_4 : decode cX5_forgetProfiles 4 = .ok (.invokevirtual 147, 3) := by decide +kernel
theorem dX5_forgetProfiles_7 : decode cX5_forgetProfiles 7 = .ok (.aload_n 0, 1) := by decide +kernel
theorem dX5_forgetProfiles_8 : decode cX5_forgetProfiles 8 = .ok (.getfield 37, 3) := by decide +kernel
theorem dX5_forgetProfiles_11 : decode cX5_forgetProfiles 11 = .ok (.invokevirtual 150, 3) := by decide +kernel
theorem dX5_forgetProfiles_14 : decode cX5_forgetProfiles 14 = .ok (.return_, 1) := by decide +kernel
theorem dX5_isSymbol_0 : decode cX5_isSymbol 0 = .ok (.iload_n 0, 1) := by decide +kernel
theorem dX5_isSymbol_1 : decode cX5_isSymbol 1 = .ok (.ifCond .lt 13, 3) := by decide +kernel
theorem dX5_isSymbol_4 : decode cX5_isSymbol 4 = .ok (.iload_n 0, 1) := by decide +kernel
theorem dX5_isSymbol_5 : decode cX5_isSymbol 5 = .ok (.bipush 8, 2) := by decide +kernel
theorem dX5_isSymbol_7 : decode cX5_isSymbol 7 = .ok (.if_icmp .ge 7, 3) := by decide +kernel
theorem dX5_isSymbol_10 : decode cX5_isSymbol 10 = .ok (.iconst 1, 1) := by decide +kernel
theorem dX5_isSymbol_11 : decode cX5_isSymbol 11 = .ok (.goto 4, 3) := by decide +kernel
theorem dX5_isSymbol_14 : decode cX5_isSymbol 14 = .ok (.iconst 0, 1) := by decide +kernel
theorem dX5_isSymbol_15 : decode cX5_isSymbol 15 = .ok (.ireturn, 1) := by decide +kernel
theorem dX5_isState_0 : decode cX5_isState 0 = .ok (.iload_n 0, 1) := by decide +kernel
theorem dX5_isState_1 : decode cX5_isState 1 = .ok (.ifCond .lt 12, 3) := by decide +kernel
theorem dX5_isState_4 : decode cX5_isState 4 = .ok (.iload_n 0, 1) := by decide +kernel
theorem dX5_isState_5 : decode cX5_isState 5 = .ok (.iconst 4, 1) := by decide +kernel
theorem dX5_isState_6 : decode cX5_isState 6 = .ok (.if_icmp .ge 7, 3) := by decide +kernel
theorem dX5_isState_9 : decode cX5_isState 9 = .ok (.iconst 1, 1) := by decide +kernel
theorem dX5_isState_10 : decode cX5_isState 10 = .ok (.goto 4, 3) := by decide +kernel
theorem dX5_isState_13 : decode cX5_isState 13 = .ok (.iconst 0, 1) := by decide +kernel
theorem dX5_isState_14 : decode cX5_isState 14 = .ok (.ireturn, 1) := by decide +kernel
theorem dX5_isSort_0 : decode cX5_isSort 0 = .ok (.iload_n 0, 1) := by decide +kernel
theorem dX5_isSort_1 : decode cX5_isSort 1 = .ok (.ifCond .lt 13, 3) := by decide +kernel
theorem dX5_isSort_4 : decode cX5_isSort 4 = .ok (.iload_n 0, 1) := by decide +kernel
theorem dX5_isSort_5 : decode cX5_isSort 5 = .ok (.bipush 16, 2) := by decide +kernel
theorem dX5_isSort_7 : decode cX5_isSort 7 = .ok (.if_icmp .ge 7, 3) := by decide +kernel
theorem dX5_isSort_10 : decode cX5_isSort 10 = .ok (.iconst 1, 1) := by decide +kernel
theorem dX5_isSort_11 : decode cX5_isSort 11 = .ok (.goto 4, 3) := by decide +kernel
theorem dX5_isSort_14 : decode cX5_isSort 14 = .ok (.iconst 0, 1) := by decide +kernel
theorem dX5_isSort_15 : decode cX5_isSort 15 = .ok (.ireturn, 1) := by decide +kernel
theorem dX5_hasLeft_0 : decode cX5_hasLeft 0 = .ok (.iload_n 0, 1) := by decide +kernel
theorem dX5_hasLeft_1 : decode cX5_hasLeft 1 = .ok (.iconst 3, 1) := by decide +kernel
theorem dX5_hasLeft_2 : decode cX5_hasLeft 2 = .ok (.if_icmp .lt 7, 3) := by decide +kernel
theorem dX5_hasLeft_5 : decode cX5_hasLeft 5 = .ok (.iconst 1, 1) := by decide +kernel
theorem dX5_hasLeft_6 : decode cX5_hasLeft 6 = .ok (.goto 4, 3) := by decide +kernel
theorem dX5_hasLeft_9 : decode cX5_hasLeft 9 = .ok (.iconst 0, 1) := by decide +kernel
theorem dX5_hasLeft_10 : decode cX5_hasLeft 10 = .ok (.ireturn, 1) := by decide +kernel
theorem dX5_hasRight_0 : decode cX5_hasRight 0 = .ok (.iload_n 0, 1) := by decide +kernel
theorem dX5_hasRight_1 : decode cX5_hasRight 1 = .ok (.iconst 5, 1) := by decide +kernel
theorem dX5_hasRight_2 : decode cX5_hasRight 2 = .ok (.if_icmp .lt 7, 3) := by decide +kernel
theorem dX5_hasRight_5 : decode cX5_hasRight 5 = .ok (.iconst 1, 1) := by decide +kernel
theorem dX5_hasRight_6 : decode cX5_hasRight 6 = .ok (.goto 4, 3) := by decide +kernel
theorem dX5_hasRight_9 : decode cX5_hasRight 9 = .ok (.iconst 0, 1) := by decide +kernel
theorem dX5_hasRight_10 : decode cX5_hasRight 10 = .ok (.ireturn, 1) := by decide +kernel
set_option maxRecDepth 20000 in
theorem ggX5_rowOf_X5_isSymbol : GoodIn wsX5_rowOf wsX5_isSymbol := goodIn_r _ [4] (by decide +kernel) (by decide +kernel)
set_option maxRecDepth 20000 in
theorem gX5_rowOf_X5_isSymbol : GoodIn wsX5_rowOf (va_wsS RX5 76 yX5_isSymbol wsX5_isSymbol) := goodIn_app (goodIn_of _ (by decide +kernel)) ggX5_rowOf_X5_isSymbol
set_option maxRecDepth 20000 in
theorem ggX5_rowOf_X5_hasLeft : GoodIn wsX5_rowOf wsX5_hasLeft := goodIn_r _ [7] (by decide +kernel) (by decide +kernel)
set_option maxRecDepth 20000 in
theorem gX5_rowOf_X5_hasLeft : GoodIn wsX5_rowOf (va_wsS RX5 79 yX5_hasLeft wsX5_hasLeft) := goodIn_app (goodIn_of _ (by decide +kernel)) ggX5_rowOf_X5_hasLeft
set_option maxRecDepth 20000 in
theorem ggX5_rowOf_X5_hasRight : GoodIn wsX5_rowOf wsX5_hasRight := goodIn_r _ [10] (by decide +kernel) (by decide +kernel)
set_option maxRecDepth 20000 in
theorem gX5_rowOf_X5_hasRight : GoodIn wsX5_rowOf (va_wsS RX5 85 yX5_hasRight wsX5_hasRight) := goodIn_app (goodIn_of _ (by decide +kernel)) ggX5_rowOf_X5_hasRight
set_option maxRecDepth 20000 in
theorem ggX5_rowOf_X5_isState : GoodIn wsX5_rowOf wsX5_isState := goodIn_r _ [13] (by decide +kernel) (by decide +kernel)
set_option maxRecDepth 20000 in
theorem gX5_rowOf_X5_isState : GoodIn wsX5_rowOf (va_wsS RX5 53 yX5_isState wsX5_isState) := goodIn_app (goodIn_of _ (by decide +kernel)) ggX5_rowOf_X5_isState
theorem dX5_rowOf_0 : decode cX5_rowOf 0 = .ok (.iload_n 0, 1) := by decide +kernel
theorem dX5_rowOf_1 : decode cX5_rowOf 1 = .ok (.invokestatic 76, 3) := by decide +kernel
theorem dX5_rowOf_4 : decode cX5_rowOf 4 = .ok (.ifCond .ne 5, 3) := by decide +kernel
theorem dX5_rowOf_7 : decode cX5_rowOf 7 = .ok (.iconst (-1), 1) := by decide +kernel
theorem dX5_rowOf_8 : decode cX5_rowOf 8 = .ok (.ireturn, 1) := by decide +kernel
theorem dX5_rowOf_9 : decode cX5_rowOf 9 = .ok (.iload_n 0, 1) := by decide +kernel
theorem dX5_rowOf_10 : decode cX5_rowOf 10 = .ok (.invokestatic 79, 3) := by decide +kernel
theorem dX5_rowOf_13 : decode cX5_rowOf 13 = .ok (.ifCond .eq 7, 3) := by decide +kernel
theorem dX5_rowOf_16 : decode cX5_rowOf 16 = .ok (.iload_n 1, 1) := by decide +kernel
theorem dX5_rowOf_17 : decode cX5_rowOf 17 = .ok (.goto 4, 3) := by decide +kernel
theorem dX5_rowOf_20 : decode cX5_rowOf 20 = .ok (.iconst 0, 1) := by decide +kernel
theorem dX5_rowOf_21 : decode cX5_rowOf 21 = .ok (.istore_n 3, 1) := by decide +kernel
theorem dX5_rowOf_22 : decode cX5_rowOf 22 = .ok (.iload_n 0, 1) := by decide +kernel
theorem dX5_rowOf_23 : decode cX5_rowOf 23 = .ok (.invokestatic 85, 3) := by decide +kernel
theorem dX5_rowOf_26 : decode cX5_rowOf 26 = .ok (.ifCond .eq 7, 3) := by decide +kernel
theorem dX5_rowOf_29 : decode cX5_rowOf 29 = .ok (.iload_n 2, 1) := by decide +kernel
theorem dX5_rowOf_30 : decode cX5_rowOf 30 = .ok (.goto 4, 3) := by decide +kernel
theorem dX5_rowOf_33 : decode cX5_rowOf 33 = .ok (.iconst 0, 1) := by decide +kernel
theorem dX5_rowOf_34 : decode cX5_rowOf 34 = .ok (.istore 4, 2) := by decide +kernel
theorem dX5_rowOf_36 : decode cX5_rowOf 36 = .ok (.iload_n 3, 1) := by decide +kernel
theorem dX5_rowOf_37 : decode cX5_rowOf 37 = .ok (.invokestatic 53, 3) := by decide +kernel
theorem dX5_rowOf_40 : decode cX5_rowOf 40 = .ok (.ifCond .eq 11, 3) := by decide +kernel
theorem dX5_rowOf_43 : decode cX5_rowOf 43 = .ok (.iload 4, 2) := by decide +kernel
theorem dX5_rowOf_45 : decode cX5_rowOf 45 = .ok (.invokestatic 53, 3) := by decide +kernel
theorem dX5_rowOf_48 : decode cX5_rowOf 48 = .ok (.ifCond .ne 5, 3) := by decide +kernel
theorem dX5_rowOf_51 : decode cX5_rowOf 51 = .ok (.iconst (-1), 1) := by decide +kernel
theorem dX5_rowOf_52 : decode cX5_rowOf 52 = .ok (.ireturn, 1) := by decide +kernel
theorem dX5_rowOf_53 : decode cX5_rowOf 53 = .ok (.iload_n 0, 1) := by decide +kernel
theorem dX5_rowOf_54 : decode cX5_rowOf 54 = .ok (.iconst 4, 1) := by decide +kernel
theorem dX5_rowOf_55 : decode cX5_rowOf 55 = .ok (.imul, 1) := by decide +kernel
theorem dX5_rowOf_56 : decode cX5_rowOf 56 = .ok (.iload_n 3, 1) := by decide +kernel
theorem dX5_rowOf_57 : decode cX5_rowOf 57 = .ok (.iadd, 1) := by decide +kernel
theorem dX5_rowOf_58 : decode cX5_rowOf 58 = .ok (.iconst 4, 1) := by decide +kernel
theorem dX5_rowOf_59 : decode cX5_rowOf 59 = .ok (.imul, 1) := by decide +kernel
theorem dX5_rowOf_60 : decode cX5_rowOf 60 = .ok (.iload 4, 2) := by decide +kernel
theorem dX5_rowOf_62 : decode cX5_rowOf 62 = .ok (.iadd, 1) := by decide +kernel
theorem dX5_rowOf_63 : decode cX5_rowOf 63 = .ok (.ireturn, 1) := by decide +kernel
theorem dX5_firstSet_0 : decode cX5_firstSet 0 = .ok (.iload_n 0, 1) := by decide +kernel
theorem dX5_firstSet_1 : decode cX5_firstSet 1 = .ok (.bipush 15, 2) := by decide +kernel
theorem dX5_firstSet_3 : decode cX5_firstSet 3 = .ok (.iand, 1) := by decide +kernel
theorem dX5_firstSet_4 : decode cX5_firstSet 4 = .ok (.ireturn, 1) := by decide +kernel
theorem dX5_secondSet_0 : decode cX5_secondSet 0 = .ok (.iload_n 0, 1) := by decide +kernel
theorem dX5_secondSet_1 : decode cX5_secondSet 1 = .ok (.iconst 4, 1) := by decide +kernel
theorem dX5_secondSet_2 : decode cX5_secondSet 2 = .ok (.ishr, 1) := by decide +kernel
theorem dX5_secondSet_3 : decode cX5_secondSet 3 = .ok (.bipush 15, 2) := by decide +kernel
theorem dX5_secondSet_5 : decode cX5_secondSet 5 = .ok (.iand, 1) := by decide +kernel
theorem dX5_secondSet_6 : decode cX5_secondSet 6 = .ok (.ireturn, 1) := by decide +kernel
end
section
theorem dX6_init_0 : decode cX6_init 0 = .ok (.aload_n 0, 1) := by decide +kernel
theorem dX6_init_1 : decode cX6_init 1 = .ok (.invokespecial 1, 3) := by decide +kernel
theorem dX6_init_4 : decode cX6_init 4 = .ok (.aload_n 0, 1) := by decide +kernel
theorem dX6_init_5 : decode cX6_init 5 = .ok (.sipush 256, 3) := by decide +kernel
theorem dX6_init_8 : decode cX6_init 8 = .ok (.newarray .int, 2) := by decide +kernel
theorem dX6_init_10 : decode cX6_init 10 = .ok (.putfield 7, 3) := by decide +kernel
theorem dX6_init_13 : decode cX6_init 13 = .ok (.aload_n 0, 1) := by decide +kernel
theorem dX6_init_14 : decode cX6_init 14 = .ok (.iconst 2, 1) := by decide +kernel
theorem dX6_init_15 : decode cX6_init 15 = .ok (.newarray .int, 2) := by decide +kernel
theorem dX6_init_17 : decode cX6_init 17 = .ok (.putfield 13, 3) := by decide +kernel
theorem dX6_init_20 : decode cX6_init 20 = .ok (.aload_n 0, 1) := by decide +kernel
theorem dX6_init_21 : decode cX6_init 21 = .ok (.sipush 200, 3) := by decide +kernel
theorem dX6_init_24 : decode cX6_init 24 = .ok (.newarray .int, 2) := by decide +kernel
theorem dX6_init_26 : decode cX6_init 26 = .ok (.putfield 16, 3) := by decide +kernel
theorem dX6_init_29 : decode cX6_init 29 = .ok (.aload_n 0, 1) := by decide +kernel
theorem dX6_init_30 : decode cX6_init 30 = .ok (.sipush 200, 3) := by decide +kernel
theorem dX6_init_33 : decode cX6_init 33 = .ok (.newarray .int, 2) := by decide +kernel
theorem dX6_init_35 : decode cX6_init 35 = .ok (.putfield 19, 3) := by decide +kernel
theorem dX6_init_38 : decode cX6_init 38 = .ok (.aload_n 0, 1) := by decide +kernel
theorem dX6_init_39 : decode cX6_init 39 = .ok (.sipush 200, 3) := by decide +kernel
theorem dX6_init_42 : decode cX6_init 42 = .ok (.newarray .int, 2) := by decide +kernel
theorem dX6_init_44 : decode cX6_init 44 = .ok (.putfield 22, 3) := by decide +kernel
theorem dX6_init_47 : decode cX6_init 47 = .ok (.aload_n 0, 1) := by decide +kernel
theorem dX6_init_48 : decode cX6_init 48 = .ok (.sipush 256, 3) := by decide +kernel
theorem dX6_init_51 : decode cX6_init 51 = .ok (.newarray .int, 2) := by decide +kernel
theorem dX6_init_53 : decode cX6_init 53 = .ok (.putfield 25, 3) := by decide +kernel
theorem dX6_init_56 : decode cX6_init 56 = .ok (.aload_n 0, 1) := by decide +kernel
theorem dX6_init_57 : decode cX6_init 57 = .ok (.sipush 8192, 3) := by decide +kernel
theorem dX6_init_60 : decode cX6_init 60 = .ok (.newarray .byte, 2) := by decide +kernel
theorem dX6_init_62 : decode cX6_init 62 = .ok (.putfield 28, 3) := by decide +kernel
theorem dX6_init_65 : decode cX6_init 65 = .ok (.aload_n 0, 1) := by decide +kernel
theorem dX6_init_66 : decode cX6_init 66 = .ok (.bipush 32, 2) := by decide +kernel
theorem dX6_init_68 : decode cX6_init 68 = .ok (.newarray .byte, 2) := by decide +kernel
theorem dX6_init_70 : decode cX6_init 70 = .ok (.putfield 32, 3) := by decide +kernel
theorem dX6_init_73 : decode cX6_init 73 = .ok (.aload_n 0, 1) := by decide +kernel
theorem dX6_init_74 : decode cX6_init 74 = .ok (.sipush 3328, 3) := by decide +kernel
theorem dX6_init_77 : decode cX6_init 77 = .ok (.newarray .int, 2) := by decide +kernel
theorem dX6_init_79 : decode cX6_init 79 = .ok (.putfield 35, 3) := by decide +kernel
theorem dX6_init_82 : decode cX6_init 82 = .ok (.aload_n 0, 1) := by decide +kernel
theorem dX6_init_83 : decode cX6_init 83 = .ok (.bipush 32, 2) := by decide +kernel
theorem dX6_init_85 : decode cX6_init 85 = .ok (.newarray .int, 2) := by decide +kernel
theorem dX6_init_87 : decode cX6_init 87 = .ok (.putfield 38, 3) := by decide +kernel
theorem dX6_init_90 : decode cX6_init 90 = .ok (.return_, 1) := by decide +kernel
theorem dX6_within_0 : decode cX6_within 0 = .ok (.iload_n 0, 1) := by decide +kernel
theorem dX6_within_1 : decode cX6_within 1 = .ok (.iload_n 1, 1) := by decide +kernel
theorem dX6_within_2 : decode cX6_within 2 = .ok (.if_icmp .lt 12, 3) := by decide +kernel
theorem dX6_within_5 : decode cX6_within 5 = .ok (.iload_n 0, 1) := by decide +kernel
theorem dX6_within_6 : decode cX6_within 6 = .ok (.iload_n 2, 1) := by decide +kernel
theorem dX6_within_7 : decode cX6_within 7 = .ok (.if_icmp .gt 7, 3) := by decide +kernel
theorem dX6_within_10 : decode cX6_within 10 = .ok (.iconst 1, 1) := by decide +kernel
theorem dX6_within_11 : decode cX6_within 11 = .ok (.goto 4, 3) := by decide +kernel
theorem dX6_within_14 : decode cX6_within 14 = .ok (.iconst 0, 1) := by decide +kernel
theorem dX6_within_15 : decode cX6_within 15 = .ok (.ireturn, 1) := by decide +kernel
theorem dX6_children_0 : decode cX6_children 0 = .ok (.iload_n 0, 1) := by decide +kernel
theorem dX6_children_1 : decode cX6_children 1 = .ok (.iconst 3, 1) := by decide +kernel
theorem dX6_children_2 : decode cX6_children 2 = .ok (.if_icmp .ge 7, 3) := by decide +kernel
theorem dX6_children_5 : decode cX6_children 5 = .ok (.iconst 0, 1) := by decide +kernel
theorem dX6_children_6 : decode cX6_children 6 = .ok (.goto 13, 3) := by decide +kernel
theorem dX6_children_9 : decode cX6_children 9 = .ok (.iload_n 0, 1) := by decide +kernel
theorem dX6_children_10 : decode cX6_children 10 = .ok (.iconst 5, 1) := by decide +kernel
theorem dX6_children_11 : decode cX6_children 11 = .ok (.if_icmp .ge 7, 3) := by decide +kernel
theorem dX6_children_14 : decode cX6_children 14 = .ok (.iconst 1, 1) := by decide +kernel
theorem dX6_children_15 : decode cX6_children 15 = .ok (.goto 4, 3) := by decide +kernel
theorem dX6_children_18 : decode cX6_children 18 = .ok (.iconst 2, 1) := by decide +kernel
theorem dX6_children_19 : decode cX6_children 19 = .ok (.ireturn, 1) := by decide +kernel
set_option maxRecDepth 20000 in
theorem ggX6_at_X6_within : GoodIn wsX6_at wsX6_within := goodIn_r _ [4] (by decide +kernel) (by decide +kernel)
set_option maxRecDepth 20000 in
theorem gX6_at_X6_within : GoodIn wsX6_at (va_wsS RX6 41 yX6_within wsX6_within) := goodIn_app (goodIn_of _ (by decide +kernel)) ggX6_at_X6_within
set_option maxRecDepth 20000 in
theorem ggX6_at_X6_children : GoodIn wsX6_at wsX6_children := goodIn_r _ [7] (by decide +kernel) (by decide +kernel)
set_option maxRecDepth 20000 in
theorem gX6_at_X6_children : GoodIn wsX6_at (va_wsS RX6 45 yX6_children wsX6_children) := goodIn_app (goodIn_of _ (by decide +kernel)) ggX6_at_X6_children
theorem dX6_at_0 : decode cX6_at 0 = .ok (.iload_n 0, 1) := by decide +kernel
theorem dX6_at_1 : decode cX6_at 1 = .ok (.iconst 0, 1) := by decide +kernel
theorem dX6_at_2 : decode cX6_at 2 = .ok (.iconst 1, 1) := by decide +kernel
theorem dX6_at_3 : decode cX6_at 3 = .ok (.invokestatic 41, 3) := by decide +kernel
theorem dX6_at_6 : decode cX6_at 6 = .ok (.ifCond .eq 13, 3) := by decide +kernel
theorem dX6_at_9 : decode cX6_at 9 = .ok (.iload_n 1, 1) := by decide +kernel
theorem dX6_at_10 : decode cX6_at 10 = .ok (.iconst 0, 1) := by decide +kernel
theorem dX6_at_11 : decode cX6_at 11 = .ok (.bipush 7, 2) := by decide +kernel
theorem dX6_at_13 : decode cX6_at 13 = .ok (.invokestatic 41, 3) := by decide +kernel
theorem dX6_at_16 : decode cX6_at 16 = .ok (.ifCond .ne 5, 3) := by decide +kernel
theorem dX6_at_19 : decode cX6_at 19 = .ok (.iconst (-1), 1) := by decide +kernel
theorem dX6_at_20 : decode cX6_at 20 = .ok (.ireturn, 1) := by decide +kernel
theorem dX6_at_21 : decode cX6_at 21 = .ok (.iload_n 1, 1) := by decide +kernel
theorem dX6_at_22 : decode cX6_at 22 = .ok (.invokestatic 45, 3) := by decide +kernel
theorem dX6_at_25 : decode cX6_at 25 = .ok (.ifCond .le 7, 3) := by decide +kernel
theorem dX6_at_28 : decode cX6_at 28 = .ok (.iload_n 2, 1) := by decide +kernel
theorem dX6_at_29 : decode cX6_at 29 = .ok (.goto 4, 3) := by decide +kernel
theorem dX6_at_32 : decode cX6_at 32 = .ok (.iconst 0, 1) := by decide +kernel
theorem dX6_at_33 : decode cX6_at 33 = .ok (.istore 4, 2) := by decide +kernel
theorem dX6_at_35 : decode cX6_at 35 = .ok (.iload_n 1, 1) := by decide +kernel
theorem dX6_at_36 : decode cX6_at 36 = .ok (.invokestatic 45, 3) := by decide +kernel
theorem dX6_at_39 : decode cX6_at 39 = .ok (.iconst 1, 1) := by decide +kernel
theorem dX6_at_40 : decode cX6_at 40 = .ok (.if_icmp .le 7, 3) := by decide +kernel
theorem dX6_at_43 : decode cX6_at 43 = .ok (.iload_n 3, 1) := by decide +kernel
theorem dX6_at_44 : decode cX6_at 44 = .ok (.goto 4, 3) := by decide +kernel
theorem dX6_at_47 : decode cX6_at 47 = .ok (.iconst 0, 1) := by decide +kernel
theorem dX6_at_48 : decode cX6_at 48 = .ok (.istore 5, 2) := by decide +kernel
theorem dX6_at_50 : decode cX6_at 50 = .ok (.iload 4, 2) := by decide +kernel
theorem dX6_at_52 : decode cX6_at 52 = .ok (.iconst 0, 1) := by decide +kernel
theorem dX6_at_53 : decode cX6_at 53 = .ok (.iconst 3, 1) := by decide +kernel
theorem dX6_at_54 : decode cX6_at 54 = .ok (.invokestatic 41, 3) := by decide +kernel
theorem dX6_at_57 : decode cX6_at 57 = .ok (.ifCond .eq 34, 3) := by decide +kernel
theorem dX6_at_60 : decode cX6_at 60 = .ok (.iload 5, 2) := by decide +kernel
theorem dX6_at_62 : decode cX6_at 62 = .ok (.iconst 0, 1) := by decide +kernel
theorem dX6_at_63 : decode cX6_at 63 = .ok (.iconst 3, 1) := by decide +kernel
theorem dX6_at_64 : decode cX6_at 64 = .ok (.invokestatic 41, 3) := by decide +kernel
theorem dX6_at_67 : decode cX6_at 67 = .ok (.ifCond .eq 24, 3) := by decide +kernel
theorem dX6_at_70 : decode cX6_at 70 = .ok (.sipush 128, 3) := by decide +kernel
theorem dX6_at_73 : decode cX6_at 73 = .ok (.iload_n 0, 1) := by decide +kernel
theorem dX6_at_74 : decode cX6_at 74 = .ok (.imul, 1) := by decide +kernel
theorem dX6_at_75 : decode cX6_at 75 = .ok (.bipush 16, 2) := by decide +kernel
theorem dX6_at_77 : decode cX6_at 77 = .ok (.iload_n 1, 1) := by decide +kernel
theorem dX6_at_78 : decode cX6_at 78 = .ok (.imul, 1) := by decide +kernel
theorem dX6_at_79 : decode cX6_at 79 = .ok (.iadd, 1) := by decide +kernel
theorem dX6_at_80 : decode cX6_at 80 = .ok (.iconst 4, 1) := by decide +kernel
theorem dX6_at_81 : decode cX6_at 81 = .ok (.iload 4, 2) := by decide +kernel
theorem dX6_at_83 : decode cX6_at 83 = .ok (.imul, 1) := by decide +kernel
theorem dX6_at_84 : decode cX6_at 84 = .ok (.iadd, 1) := by decide +kernel
theorem dX6_at_85 : decode cX6_at 85 = .ok (.iload 5, 2) := by decide +kernel
theorem dX6_at_87 : decode cX6_at 87 = .ok (.iadd, 1) := by decide +kernel
theorem dX6_at_88 : decode cX6_at 88 = .ok (.goto 4, 3) := by decide +kernel
theorem dX6_at_91 : decode cX6_at 91 = .ok (.iconst (-1), 1) := by decide +kernel
theorem dX6_at_92 : decode cX6_at 92 = .ok (.ireturn, 1) := by decide +kernel
set_option maxRecDepth 20000 in
theorem ggX6_rule_X6_at : GoodIn wsX6_rule wsX6_at := goodIn_r _ [5, 6, 7, 4, 8, 9, 10, 11] (by decide +kernel) (by decide +kernel)
set_option maxRecDepth 20000 in
theorem gX6_rule_X6_at : GoodIn wsX6_rule (va_wsS RX6 49 yX6_at wsX6_at) := goodIn_app (goodIn_of _ (by decide +kernel)) ggX6_rule_X6_at
set_option maxRecDepth 20000 in
theorem ggX6_rule_X6_within : GoodIn wsX6_rule wsX6_within := goodIn_r _ [8] (by decide +kernel) (by decide +kernel)
set_option maxRecDepth 20000 in
theorem gX6_rule_X6_within : GoodIn wsX6_rule (va_wsS RX6 41 yX6_within wsX6_within) := goodIn_app (goodIn_of _ (by decide +kernel)) ggX6_rule_X6_within
theorem dX6_rule_0 : decode cX6_rule 0 = .ok (.iload_n 1, 1) := by decide +kernel
theorem dX6_rule_1 : decode cX6_rule 1 = .ok (.iload_n 2, 1) := by decide +kernel
theorem dX6_rule_2 : decode cX6_rule 2 = .ok (.iload_n 3, 1) := by decide +kernel
theorem dX6_rule_3 : decode cX6_rule 3 = .ok (.iload 4, 2) := by decide +kernel
theorem dX6_rule_5 : decode cX6_rule 5 = .ok (.invokestatic 49, 3) := by decide +kernel
theorem dX6_rule_8 : decode cX6_rule 8 = .ok (.istore 6, 2) := by decide +kernel
theorem dX6_rule_10 : decode cX6_rule 10 = .ok (.iload 6, 2) := by decide +kernel
theorem dX6_rule_12 : decode cX6_rule 12 = .ok (.ifCond .lt 29, 3) := by decide +kernel
theorem dX6_rule_15 : decode cX6_rule 15 = .ok (.iload 5, 2) := by decide +kernel
theorem dX6_rule_17 : decode cX6_rule 17 = .ok (.iconst 0, 1) := by decide +kernel
theorem dX6_rule_18 : decode cX6_rule 18 = .ok (.iconst 3, 1) := by decide +kernel
theorem dX6_rule_19 : decode cX6_rule 19 = .ok (.invokestatic 41, 3) := by decide +kernel
theorem dX6_rule_22 : decode cX6_rule 22 = .ok (.ifCond .eq 19, 3) := by decide +kernel
theorem dX6_rule_25 : decode cX6_rule 25 = .ok (.aload_n 0, 1) := by decide +kernel
theorem dX6_rule_26 : decode cX6_rule 26 = .ok (.getfield 7, 3) := by decide +kernel
theorem dX6_rule_29 : decode cX6_rule 29 = .ok (.iload 6, 2) := by decide +kernel
theorem dX6_rule_31 : decode cX6_rule 31 = .ok (.iaload, 1) := by decide +kernel
theorem dX6_rule_32 : decode cX6_rule 32 = .ok (.iload 5, 2) := by decide +kernel
theorem dX6_rule_34 : decode cX6_rule 34 = .ok (.ishr, 1) := by decide +kernel
theorem dX6_rule_35 : decode cX6_rule 35 = .ok (.iconst 1, 1) := by decide +kernel
theorem dX6_rule_36 : decode cX6_rule 36 = .ok (.iand, 1) := by decide +kernel
theorem dX6_rule_37 : decode cX6_rule 37 = .ok (.iconst 1, 1) := by decide +kernel
theorem dX6_rule_38 : decode cX6_rule 38 = .ok (.if_icmp .ne 5, 3) := by decide +kernel
theorem dX6_rule_41 : decode cX6_rule 41 = .ok (.iconst 0, 1) := by decide +kernel
theorem dX6_rule_42 : decode cX6_rule 42 = .ok (.ireturn, 1) := by decide +kernel
theorem dX6_rule_43 : decode cX6_rule 43 = .ok (.aload_n 0, 1) := by decide +kernel
theorem dX6_rule_44 : decode cX6_rule 44 = .ok (.getfield 7, 3) := by decide +kernel
theorem dX6_rule_47 : decode cX6_rule 47 = .ok (.iload 6, 2) := by decide +kernel
theorem dX6_rule_49 : decode cX6_rule 49 = .ok (.aload_n 0, 1) := by decide +kernel
theorem dX6_rule_50 : decode cX6_rule 50 = .ok (.getfield 7, 3) := by decide +kernel
theorem dX6_rule_53 : decode cX6_rule 53 = .ok (.iload 6, 2) := by decide +kernel
theorem dX6_rule_55 : decode cX6_rule 55 = .ok (.iaload, 1) := by decide +kernel
theorem dX6_rule_56 : decode cX6_rule 56 = .ok (.iconst 1, 1) := by decide +kernel
theorem dX6_rule_57 : decode cX6_rule 57 = .ok (.iload 5, 2) := by decide +kernel
theorem dX6_rule_59 : decode cX6_rule 59 = .ok (.ishl, 1) := by decide +kernel
theorem dX6_rule_60 : decode cX6_rule 60 = .ok (.ior, 1) := by decide +kernel
theorem dX6_rule_61 : decode cX6_rule 61 = .ok (.iastore, 1) := by decide +kernel
theorem dX6_rule_62 : decode cX6_rule 62 = .ok (.iconst 1, 1) := by decide +kernel
theorem dX6_rule_63 : decode cX6_rule 63 = .ok (.ireturn, 1) := by decide +kernel
set_option maxRecDepth 20000 in
theorem ggX6_drop_X6_at : GoodIn wsX6_drop wsX6_at := goodIn_r _ [5, 6, 7, 4, 8, 9, 10, 11] (by decide +kernel) (by decide +kernel)
set_option maxRecDepth 20000 in
theorem gX6_drop_X6_at : GoodIn wsX6_drop (va_wsS RX6 49 yX6_at wsX6_at) := goodIn_app (goodIn_of _ (by decide +kernel)) ggX6_drop_X6_at
set_option maxRecDepth 20000 in
theorem ggX6_drop_X6_within : GoodIn wsX6_drop wsX6_within := goodIn_r _ [8] (by decide +kernel) (by decide +kernel)
set_option maxRecDepth 20000 in
theorem gX6_drop_X6_within : GoodIn wsX6_drop (va_wsS RX6 41 yX6_within wsX6_within) := goodIn_app (goodIn_of _ (by decide +kernel)) ggX6_drop_X6_within
theorem dX6_drop_0 : decode cX6_drop 0 = .ok (.iload_n 1, 1) := by decide +kernel
theorem dX6_drop_1 : decode cX6_drop 1 = .ok (.iload_n 2, 1) := by decide +kernel
theorem dX6_drop_2 : decode cX6_drop 2 = .ok (.iload_n 3, 1) := by decide +kernel
theorem dX6_drop_3 : decode cX6_drop 3 = .ok (.iload 4, 2) := by decide +kernel
theorem dX6_drop_5 : decode cX6_drop 5 = .ok (.invokestatic 49, 3) := by decide +kernel
theorem dX6_drop_8 : decode cX6_drop 8 = .ok (.istore 6, 2) := by decide +kernel
theorem dX6_drop_10 : decode cX6_drop 10 = .ok (.iload 6, 2) := by decide +kernel
theorem dX6_drop_12 : decode cX6_drop 12 = .ok (.ifCond .lt 28, 3) := by decide +kernel
theorem dX6_drop_15 : decode cX6_drop 15 = .ok (.iload 5, 2) := by decide +kernel
theorem dX6_drop_17 : decode cX6_drop 17 = .ok (.iconst 0, 1) := by decide +kernel
theorem dX6_drop_18 : decode cX6_drop 18 = .ok (.iconst 3, 1) := by decide +kernel
theorem dX6_drop_19 : decode cX6_drop 19 = .ok (.invokestatic 41, 3) := by decide +kernel
theorem dX6_drop_22 : decode cX6_drop 22 = .ok (.ifCond .eq 18, 3) := by decide +kernel
theorem dX6_drop_25 : decode cX6_drop 25 = .ok (.aload_n 0, 1) := by decide +kernel
theorem dX6_drop_26 : decode cX6_drop 26 = .ok (.getfield 7, 3) := by decide +kernel
theorem dX6_drop_29 : decode cX6_drop 29 = .ok (.iload 6, 2) := by decide +kernel
theorem dX6_drop_31 : decode cX6_drop 31 = .ok (.iaload, 1) := by decide +kernel
theorem dX6_drop_32 : decode cX6_drop 32 = .ok (.iload 5, 2) := by decide +kernel
theorem dX6_drop_34 : decode cX6_drop 34 = .ok (.ishr, 1) := by decide +kernel
theorem dX6_drop_35 : decode cX6_drop 35 = .ok (.iconst 1, 1) := by decide +kernel
theorem dX6_drop_36 : decode cX6_drop 36 = .ok (.iand, 1) := by decide +kernel
theorem dX6_drop_37 : decode cX6_drop 37 = .ok (.ifCond .ne 5, 3) := by decide +kernel
theorem dX6_drop_40 : decode cX6_drop 40 = .ok (.iconst 0, 1) := by decide +kernel
theorem dX6_drop_41 : decode cX6_drop 41 = .ok (.ireturn, 1) := by decide +kernel
theorem dX6_drop_42 : decode cX6_drop 42 = .ok (.aload_n 0, 1) := by decide +kernel
theorem dX6_drop_43 : decode cX6_drop 43 = .ok (.getfield 7, 3) := by decide +kernel
theorem dX6_drop_46 : decode cX6_drop 46 = .ok (.iload 6, 2) := by decide +kernel
theorem dX6_drop_48 : decode cX6_drop 48 = .ok (.aload_n 0, 1) := by decide +kernel
theorem dX6_drop_49 : decode cX6_drop 49 = .ok (.getfield 7, 3) := by decide +kernel
theorem dX6_drop_52 : decode cX6_drop 52 = .ok (.iload 6, 2) := by decide +kernel
theorem dX6_drop_54 : decode cX6_drop 54 = .ok (.iaload, 1) := by decide +kernel
theorem dX6_drop_55 : decode cX6_drop 55 = .ok (.iconst 1, 1) := by decide +kernel
theorem dX6_drop_56 : decode cX6_drop 56 = .ok (.iload 5, 2) := by decide +kernel
theorem dX6_drop_58 : decode cX6_drop 58 = .ok (.ishl, 1) := by decide +kernel
theorem dX6_drop_59 : decode cX6_drop 59 = .ok (.ixor, 1) := by decide +kernel
theorem dX6_drop_60 : decode cX6_drop 60 = .ok (.iastore, 1) := by decide +kernel
theorem dX6_drop_61 : decode cX6_drop 61 = .ok (.iconst 1, 1) := by decide +kernel
theorem dX6_drop_62 : decode cX6_drop 62 = .ok (.ireturn, 1) := by decide +kernel
set_option maxRecDepth 20000 in
theorem ggX6_isRule_X6_at : GoodIn wsX6_isRule wsX6_at := goodIn_r _ [5, 6, 7, 4, 8, 9, 10, 11] (by decide +kernel) (by decide +kernel)
set_option maxRecDepth 20000 in
theorem gX6_isRule_X6_at : GoodIn wsX6_isRule (va_wsS RX6 49 yX6_at wsX6_at) := goodIn_app (goodIn_of _ (by decide +kernel)) ggX6_isRule_X6_at
set_option maxRecDepth 20000 in
theorem ggX6_isRule_X6_within : GoodIn wsX6_isRule wsX6_within := goodIn_r _ [8] (by decide +kernel) (by decide +kernel)
set_option maxRecDepth 20000 in
theorem gX6_isRule_X6_within : GoodIn wsX6_isRule (va_wsS RX6 41 yX6_within wsX6_within) := goodIn_app (goodIn_of _ (by decide +kernel)) ggX6_isRule_X6_within
theorem dX6_isRule_0 : decode cX6_isRule 0 = .ok (.iload_n 1, 1) := by decide +kernel
theorem dX6_isRule_1 : decode cX6_isRule 1 = .ok (.iload_n 2, 1) := by decide +kernel
theorem dX6_isRule_2 : decode cX6_isRule 2 = .ok (.iload_n 3, 1) := by decide +kernel
theorem dX6_isRule_3 : decode cX6_isRule 3 = .ok (.iload 4, 2) := by decide +kernel
theorem dX6_isRule_5 : decode cX6_isRule 5 = .ok (.invokestatic 49, 3) := by decide +kernel
theorem dX6_isRule_8 : decode cX6_isRule 8 = .ok (.istore 6, 2) := by decide +kernel
theorem dX6_isRule_10 : decode cX6_isRule 10 = .ok (.iload 6, 2) := by decide +kernel
theorem dX6_isRule_12 : decode cX6_isRule 12 = .ok (.ifCond .lt 33, 3) := by decide +kernel
theorem dX6_isRule_15 : decode cX6_isRule 15 = .ok (.iload 5, 2) := by decide +kernel
theorem dX6_isRule_17 : decode cX6_isRule 17 = .ok (.iconst 0, 1) := by decide +kernel
theorem dX6_isRule_18 : decode cX6_isRule 18 = .ok (.iconst 3, 1) := by decide +kernel
theorem dX6_isRule_19 : decode cX6_isRule 19 = .ok (.invokestatic 41, 3) := by decide +kernel
theorem dX6_isRule_22 : decode cX6_isRule 22 = .ok (.ifCond .eq 23, 3) := by decide +kernel
theorem dX6_isRule_25 : decode cX6_isRule 25 = .ok (.aload_n 0, 1) := by decide +kernel
theorem dX6_isRule_26 : decode cX6_isRule 26 = .ok (.getfield 7, 3) := by decide +kernel
theorem dX6_isRule_29 : decode cX6_isRule 29 = .ok (.iload 6, 2) := by decide +kernel
theorem dX6_isRule_31 : decode cX6_isRule 31 = .ok (.iaload, 1) := by decide +kernel
theorem dX6_isRule_32 : decode cX6_isRule 32 = .ok (.iload 5, 2) := by decide +kernel
theorem dX6_isRule_34 : decode cX6_isRule 34 = .ok (.ishr, 1) := by decide +kernel
theorem dX6_isRule_35 : decode cX6_isRule 35 = .ok (.iconst 1, 1) := by decide +kernel
theorem dX6_isRule_36 : decode cX6_isRule 36 = .ok (.iand, 1) := by decide +kernel
theorem dX6_isRule_37 : decode cX6_isRule 37 = .ok (.iconst 1, 1) := by decide +kernel
theorem dX6_isRule_38 : decode cX6_isRule 38 = .ok (.if_icmp .ne 7, 3) := by decide +kernel
theorem dX6_isRule_41 : decode cX6_isRule 41 = .ok (.iconst 1, 1) := by decide +kernel
theorem dX6_isRule_42 : decode cX6_isRule 42 = .ok (.goto 4, 3) := by decide +kernel
theorem dX6_isRule_45 : decode cX6_isRule 45 = .ok (.iconst 0, 1) := by decide +kernel
theorem dX6_isRule_46 : decode cX6_isRule 46 = .ok (.ireturn, 1) := by decide +kernel
set_option maxRecDepth 20000 in
theorem ggX6_goal_X6_within : GoodIn wsX6_goal wsX6_within := goodIn_r _ [5] (by decide +kernel) (by decide +kernel)
set_option maxRecDepth 20000 in
theorem gX6_goal_X6_within : GoodIn wsX6_goal (va_wsS RX6 41 yX6_within wsX6_within) := goodIn_app (goodIn_of _ (by decide +kernel)) ggX6_goal_X6_within
theorem dX6_goal_0 : decode cX6_goal 0 = .ok (.iload_n 1, 1) := by decide +kernel
theorem dX6_goal_1 : decode cX6_goal 1 = .ok (.iconst 0, 1) := by decide +kernel
theorem dX6_goal_2 : decode cX6_goal 2 = .ok (.iconst 1, 1) := by decide +kernel
theorem dX6_goal_3 : decode cX6_goal 3 = .ok (.invokestatic 41, 3) := by decide +kernel
theorem dX6_goal_6 : decode cX6_goal 6 = .ok (.ifCond .eq 35, 3) := by decide +kernel
theorem dX6_goal_9 : decode cX6_goal 9 = .ok (.iload_n 2, 1) := by decide +kernel
theorem dX6_goal_10 : decode cX6_goal 10 = .ok (.iconst 0, 1) := by decide +kernel
theorem dX6_goal_11 : decode cX6_goal 11 = .ok (.iconst 3, 1) := by decide +kernel
theorem dX6_goal_12 : decode cX6_goal 12 = .ok (.invokestatic 41, 3) := by decide +kernel
theorem dX6_goal_15 : decode cX6_goal 15 = .ok (.ifCond .eq 26, 3) := by decide +kernel
theorem dX6_goal_18 : decode cX6_goal 18 = .ok (.aload_n 0, 1) := by decide +kernel
theorem dX6_goal_19 : decode cX6_goal 19 = .ok (.getfield 13, 3) := by decide +kernel
theorem dX6_goal_22 : decode cX6_goal 22 = .ok (.iload_n 1, 1) := by decide +kernel
theorem dX6_goal_23 : decode cX6_goal 23 = .ok (.iaload, 1) := by decide +kernel
theorem dX6_goal_24 : decode cX6_goal 24 = .ok (.iload_n 2, 1) := by decide +kernel
theorem dX6_goal_25 : decode cX6_goal 25 = .ok (.ishr, 1) := by decide +kernel
theorem dX6_goal_26 : decode cX6_goal 26 = .ok (.iconst 1, 1) := by decide +kernel
theorem dX6_goal_27 : decode cX6_goal 27 = .ok (.iand, 1) := by decide +kernel
theorem dX6_goal_28 : decode cX6_goal 28 = .ok (.iconst 1, 1) := by decide +kernel
theorem dX6_goal_29 : decode cX6_goal 29 = .ok (.if_icmp .ne 7, 3) := by decide +kernel
theorem dX6_goal_32 : decode cX6_goal 32 = .ok (.iconst 1, 1) := by decide +kernel
theorem dX6_goal_33 : decode cX6_goal 33 = .ok (.goto 4, 3) := by decide +kernel
theorem dX6_goal_36 : decode cX6_goal 36 = .ok (.iconst 0, 1) := by decide +kernel
theorem dX6_goal_37 : decode cX6_goal 37 = .ok (.iload_n 3, 1) := by decide +kernel
theorem dX6_goal_38 : decode cX6_goal 38 = .ok (.if_icmp .ne 5, 3) := by decide +kernel
theorem dX6_goal_41 : decode cX6_goal 41 = .ok (.iconst 0, 1) := by decide +kernel
theorem dX6_goal_42 : decode cX6_goal 42 = .ok (.ireturn, 1) := by decide +kernel
theorem dX6_goal_43 : decode cX6_goal 43 = .ok (.aload_n 0, 1) := by decide +kernel
theorem dX6_goal_44 : decode cX6_goal 44 = .ok (.getfield 13, 3) := by decide +kernel
theorem dX6_goal_47 : decode cX6_goal 47 = .ok (.iload_n 1, 1) := by decide +kernel
theorem dX6_goal_48 : decode cX6_goal 48 = .ok (.aload_n 0, 1) := by decide +kernel
theorem dX6_goal_49 : decode cX6_goal 49 = .ok (.getfield 13, 3) := by decide +kernel
theorem dX6_goal_52 : decode cX6_goal 52 = .ok (.iload_n 1, 1) := by decide +kernel
theorem dX6_goal_53 : decode cX6_goal 53 = .ok (.iaload, 1) := by decide +kernel
theorem dX6_goal_54 : decode cX6_goal 54 = .ok (.iconst 1, 1) := by decide +kernel
theorem dX6_goal_55 : decode cX6_goal 55 = .ok (.iload_n 2, 1) := by decide +kernel
theorem dX6_goal_56 : decode cX6_goal 56 = .ok (.ishl, 1) := by decide +kernel
theorem dX6_goal_57 : decode cX6_goal 57 = .ok (.ixor, 1) := by decide +kernel
theorem dX6_goal_58 : decode cX6_goal 58 = .ok (.iastore, 1) := by decide +kernel
theorem dX6_goal_59 : decode cX6_goal 59 = .ok (.iconst 1, 1) := by decide +kernel
theorem dX6_goal_60 : decode cX6_goal 60 = .ok (.ireturn, 1) := by decide +kernel
set_option maxRecDepth 20000 in
theorem ggX6_clear_X6_within : GoodIn wsX6_clear wsX6_within := goodIn_r _ [6] (by decide +kernel) (by decide +kernel)
set_option maxRecDepth 20000 in
theorem gX6_clear_X6_within : GoodIn wsX6_clear (va_wsS RX6 41 yX6_within wsX6_within) := goodIn_app (goodIn_of _ (by decide +kernel)) ggX6_clear_X6_within
theorem dX6_clear_0 : decode cX6_clear 0 = .ok (.iload_n 1, 1) := by decide +kernel
theorem dX6_clear_1 : decode cX6_clear 1 = .ok (.iconst 0, 1) := by decide +kernel
theorem dX6_clear_2 : decode cX6_clear 2 = .ok (.iconst 1, 1) := by decide +kernel
theorem dX6_clear_3 : decode cX6_clear 3 = .ok (.invokestatic 41, 3) := by decide +kernel
theorem dX6_clear_6 : decode cX6_clear 6 = .ok (.ifCond .ne 5, 3) := by decide +kernel
theorem dX6_clear_9 : decode cX6_clear 9 = .ok (.iconst 0, 1) := by decide +kernel
theorem dX6_clear_10 : decode cX6_clear 10 = .ok (.ireturn, 1) := by decide +kernel
theorem dX6_clear_11 : decode cX6_clear 11 = .ok (.iconst 0, 1) := by decide +kernel
theorem dX6_clear_12 : decode cX6_clear 12 = .ok (.istore_n 2, 1) := by decide +kernel
theorem dX6_clear_13 : decode cX6_clear 13 = .ok (.iload_n 2, 1) := by decide +kernel
theorem dX6_clear_14 : decode cX6_clear 14 = .ok (.sipush 128, 3) := by decide +kernel
theorem dX6_clear_17 : decode cX6_clear 17 = .ok (.if_icmp .ge 22, 3) := by decide +kernel
theorem dX6_clear_20 : decode cX6_clear 20 = .ok (.aload_n 0, 1) := by decide +kernel
theorem dX6_clear_21 : decode cX6_clear 21 = .ok (.getfield 7, 3) := by decide +kernel
theorem dX6_clear_24 : decode cX6_clear 24 = .ok (.sipush 128, 3) := by decide +kernel
theorem dX6_clear_27 : decode cX6_clear 27 = .ok (.iload_n 1, 1) := by decide +kernel
theorem dX6_clear_28 : decode cX6_clear 28 = .ok (.imul, 1) := by decide +kernel
theorem dX6_clear_29 : decode cX6_clear 29 = .ok (.iload_n 2, 1) := by decide +kernel
theorem dX6_clear_30 : decode cX6_clear 30 = .ok (.iadd, 1) := by decide +kernel
theorem dX6_clear_31 : decode cX6_clear 31 = .ok (.iconst 0, 1) := by decide +kernel
theorem dX6_clear_32 : decode cX6_clear 32 = .ok (.iastore, 1) := by decide +kernel
theorem dX6_clear_33 : decode cX6_clear 33 = .ok (.iinc 2 1, 3) := by decide +kernel
theorem dX6_clear_36 : decode cX6_clear 36 = .ok (.goto (-23), 3) := by decide +kernel
theorem dX6_clear_39 : decode cX6_clear 39 = .ok (.aload_n 0, 1) := by decide +kernel
theorem dX6_clear_40 : decode cX6_clear 40 = .ok (.getfield 13, 3) := by decide +kernel
theorem dX6_clear_43 : decode cX6_clear 43 = .ok (.iload_n 1, 1) := by decide +kernel
theorem dX6_clear_44 : decode cX6_clear 44 = .ok (.iconst 0, 1) := by decide +kernel
theorem dX6_clear_45 : decode cX6_clear 45 = .ok (.iastore, 1) := by decide +kernel
theorem dX6_clear_46 : decode cX6_clear 46 = .ok (.iconst 1, 1) := by decide +kernel
theorem dX6_clear_47 : decode cX6_clear 47 = .ok (.ireturn, 1) := by decide +kernel
set_option maxRecDepth 20000 in
theorem ggX6_node_X6_within : GoodIn wsX6_node wsX6_within := goodIn_r _ [8] (by decide +kernel) (by decide +kernel)
set_option maxRecDepth 20000 in
theorem gX6_node_X6_within : GoodIn wsX6_node (va_wsS RX6 41 yX6_within wsX6_within) := goodIn_app (goodIn_of _ (by decide +kernel)) ggX6_node_X6_within
set_option maxRecDepth 20000 in
theorem ggX6_node_X6_children : GoodIn wsX6_node wsX6_children := goodIn_r _ [11] (by decide +kernel) (by decide +kernel)
set_option maxRecDepth 20000 in
theorem gX6_node_X6_children : GoodIn wsX6_node (va_wsS RX6 45 yX6_children wsX6_children) := goodIn_app (goodIn_of _ (by decide +kernel)) ggX6_node_X6_children
theorem dX6_node_0 : decode cX6_node 0 = .ok (.iload_n 1, 1) := by decide +kernel
theorem dX6_node_1 : decode cX6_node 1 = .ok (.iconst 0, 1) := by decide +kernel
theorem dX6_node_2 : decode cX6_node 2 = .ok (.bipush 7, 2) := by decide +kernel
theorem dX6_node_4 : decode cX6_node 4 = .ok (.invokestatic 41, 3) := by decide +kernel
theorem dX6_node_7 : decode cX6_node 7 = .ok (.ifCond .ne 5, 3) := by decide +kernel
theorem dX6_node_10 : decode cX6_node 10 = .ok (.iconst (-1), 1) := by decide +kernel
theorem dX6_node_11 : decode cX6_node 11 = .ok (.ireturn, 1) := by decide +kernel
theorem dX6_node_12 : decode cX6_node 12 = .ok (.iload_n 1, 1) := by decide +kernel
theorem dX6_node_13 : decode cX6_node 13 = .ok (.invokestatic 45, 3) := by decide +kernel
theorem dX6_node_16 : decode cX6_node 16 = .ok (.istore 4, 2) := by decide +kernel
theorem dX6_node_18 : decode cX6_node 18 = .ok (.iload 4, 2) := by decide +kernel
theorem dX6_node_20 : decode cX6_node 20 = .ok (.ifCond .le 17, 3) := by decide +kernel
theorem dX6_node_23 : decode cX6_node 23 = .ok (.iload_n 2, 1) := by decide +kernel
theorem dX6_node_24 : decode cX6_node 24 = .ok (.iconst 0, 1) := by decide +kernel
theorem dX6_node_25 : decode cX6_node 25 = .ok (.aload_n 0, 1) := by decide +kernel
theorem dX6_node_26 : decode cX6_node 26 = .ok (.getfield 53, 3) := by decide +kernel
theorem dX6_node_29 : decode cX6_node 29 = .ok (.iconst 1, 1) := by decide +kernel
theorem dX6_node_30 : decode cX6_node 30 = .ok (.isub, 1) := by decide +kernel
theorem dX6_node_31 : decode cX6_node 31 = .ok (.invokestatic 41, 3) := by decide +kernel
theorem dX6_node_34 : decode cX6_node 34 = .ok (.ifCond .eq 23, 3) := by decide +kernel
theorem dX6_node_37 : decode cX6_node 37 = .ok (.iload 4, 2) := by decide +kernel
theorem dX6_node_39 : decode cX6_node 39 = .ok (.iconst 1, 1) := by decide +kernel
theorem dX6_node_40 : decode cX6_node 40 = .ok (.if_icmp .le 20, 3) := by decide +kernel
theorem dX6_node_43 : decode cX6_node 43 = .ok (.iload_n 3, 1) := by decide +kernel
theorem dX6_node_44 : decode cX6_node 44 = .ok (.iconst 0, 1) := by decide +kernel
theorem dX6_node_45 : decode cX6_node 45 = .ok (.aload_n 0, 1) := by decide +kernel
theorem dX6_node_46 : decode cX6_node 46 = .ok (.getfield 53, 3) := by decide +kernel
theorem dX6_node_49 : decode cX6_node 49 = .ok (.iconst 1, 1) := by decide +kernel
theorem dX6_node_50 : decode cX6_node 50 = .ok (.isub, 1) := by decide +kernel
theorem dX6_node_51 : decode cX6_node 51 = .ok (.invokestatic 41, 3) := by decide +kernel
theorem dX6_node_54 : decode cX6_node 54 = .ok (.ifCond .ne 6, 3) := by decide +kernel
theorem dX6_node_57 : decode cX6_node 57 = .ok (.bipush (-2), 2) := by decide +kernel
theorem dX6_node_59 : decode cX6_node 59 = .ok (.ireturn, 1) := by decide +kernel
theorem dX6_node_60 : decode cX6_node 60 = .ok (.aload_n 0, 1) := by decide +kernel
theorem dX6_node_61 : decode cX6_node 61 = .ok (.getfield 53, 3) := by decide +kernel
theorem dX6_node_64 : decode cX6_node 64 = .ok (.sipush 200, 3) := by decide +kernel
theorem dX6_node_67 : decode cX6_node 67 = .ok (.if_icmp .ne 6, 3) := by decide +kernel
theorem dX6_node_70 : decode cX6_node 70 = .ok (.bipush (-3), 2) := by decide +kernel
theorem dX6_node_72 : decode cX6_node 72 = .ok (.ireturn, 1) := by decide +kernel
theorem dX6_node_73 : decode cX6_node 73 = .ok (.aload_n 0, 1) := by decide +kernel
theorem dX6_node_74 : decode cX6_node 74 = .ok (.getfield 16, 3) := by decide +kernel
theorem dX6_node_77 : decode cX6_node 77 = .ok (.aload_n 0, 1) := by decide +kernel
theorem dX6_node_78 : decode cX6_node 78 = .ok (.getfield 53, 3) := by decide +kernel
theorem dX6_node_81 : decode cX6_node 81 = .ok (.iload_n 1, 1) := by decide +kernel
theorem dX6_node_82 : decode cX6_node 82 = .ok (.iastore, 1) := by decide +kernel
theorem dX6_node_83 : decode cX6_node 83 = .ok (.aload_n 0, 1) := by decide +kernel
theorem dX6_node_84 : decode cX6_node 84 = .ok (.getfield 19, 3) := by decide +kernel
theorem dX6_node_87 : decode cX6_node 87 = .ok (.aload_n 0, 1) := by decide +kernel
theorem dX6_node_88 : decode cX6_node 88 = .ok (.getfield 53, 3) := by decide +kernel
theorem dX6_node_91 : decode cX6_node 91 = .ok (.iload 4, 2) := by decide +kernel
theorem dX6_node_93 : decode cX6_node 93 = .ok (.ifCond .le 7, 3) := by decide +kernel
theorem dX6_node_96 : decode cX6_node 96 = .ok (.iload_n 2, 1) := by decide +kernel
theorem dX6_node_97 : decode cX6_node 97 = .ok (.goto 4, 3) := by decide +kernel
theorem dX6_node_100 : decode cX6_node 100 = .ok (.iconst (-1), 1) := by decide +kernel
theorem dX6_node_101 : decode cX6_node 101 = .ok (.iastore, 1) := by decide +kernel
theorem dX6_node_102 : decode cX6_node 102 = .ok (.aload_n 0, 1) := by decide +kernel
theorem dX6_node_103 : decode cX6_node 103 = .ok (.getfield 22, 3) := by decide +kernel
theorem dX6_node_106 : decode cX6_node 106 = .ok (.aload_n 0, 1) := by decide +kernel
theorem dX6_node_107 : decode cX6_node 107 = .ok (.getfield 53, 3) := by decide +kernel
theorem dX6_node_110 : decode cX6_node 110 = .ok (.iload 4, 2) := by decide +kernel
theorem dX6_node_112 : decode cX6_node 112 = .ok (.iconst 1, 1) := by decide +kernel
theorem dX6_node_113 : decode cX6_node 113 = .ok (.if_icmp .le 7, 3) := by decide +kernel
theorem dX6_node_116 : decode cX6_node 116 = .ok (.iload_n 3, 1) := by decide +kernel
theorem dX6_node_117 : decode cX6_node 117 = .ok (.goto 4, 3) := by decide +kernel
theorem dX6_node_120 : decode cX6_node 120 = .ok (.iconst (-1), 1) := by decide +kernel
theorem dX6_node_121 : decode cX6_node 121 = .ok (.iastore, 1) := by decide +kernel
theorem dX6_node_122 : decode cX6_node 122 = .ok (.aload_n 0, 1) := by decide +kernel
theorem dX6_node_123 : decode cX6_node 123 = .ok (.dup, 1) := by decide +kernel
theorem dX6_node_124 : decode cX6_node 124 = .ok (.getfield 53, 3) := by decide +kernel
theorem dX6_node_127 : decode cX6_node 127 = .ok (.iconst 1, 1) := by decide +kernel
theorem dX6_node_128 : decode cX6_node 128 = .ok (.iadd, 1) := by decide +kernel
theorem dX6_node_129 : decode cX6_node 129 = .ok (.putfield 53, 3) := by decide +kernel
theorem dX6_node_132 : decode cX6_node 132 = .ok (.aload_n 0, 1) := by decide +kernel
theorem dX6_node_133 : decode cX6_node 133 = .ok (.getfield 53, 3) := by decide +kernel
theorem dX6_node_136 : decode cX6_node 136 = .ok (.iconst 1, 1) := by decide +kernel
theorem dX6_node_137 : decode cX6_node 137 = .ok (.isub, 1) := by decide +kernel
theorem dX6_node_138 : decode cX6_node 138 = .ok (.ireturn, 1) := by decide +kernel
theorem dX6_nodes_0 : decode cX6_nodes 0 = .ok (.aload_n 0, 1) := by decide +kernel
theorem dX6_nodes_1 : decode cX6_nodes 1 = .ok (.getfield 53, 3) := by decide +kernel
theorem dX6_nodes_4 : decode cX6_nodes 4 = .ok (.ireturn, 1) := by decide +kernel
set_option maxRecDepth 20000 in
theorem ggX6_part_X6_within : GoodIn wsX6_part wsX6_within := goodIn_r _ [8] (by decide +kernel) (by decide +kernel)
set_option maxRecDepth 20000 in
theorem gX6_part_X6_within : GoodIn wsX6_part (va_wsS RX6 41 yX6_within wsX6_within) := goodIn_app (goodIn_of _ (by decide +kernel)) ggX6_part_X6_within
theorem dX6_part_0 : decode cX6_part 0 = .ok (.iload_n 1, 1) := by decide +kernel
theorem dX6_part_1 : decode cX6_part 1 = .ok (.iconst 0, 1) := by decide +kernel
theorem dX6_part_2 : decode cX6_part 2 = .ok (.aload_n 0, 1) := by decide +kernel
theorem dX6_part_3 : decode cX6_part 3 = .ok (.getfield 53, 3) := by decide +kernel
theorem dX6_part_6 : decode cX6_part 6 = .ok (.iconst 1, 1) := by decide +kernel
theorem dX6_part_7 : decode cX6_part 7 = .ok (.isub, 1) := by decide +kernel
theorem dX6_part_8 : decode cX6_part 8 = .ok (.invokestatic 41, 3) := by decide +kernel
theorem dX6_part_11 : decode cX6_part 11 = .ok (.ifCond .eq 12, 3) := by decide +kernel
theorem dX6_part_14 : decode cX6_part 14 = .ok (.iload_n 2, 1) := by decide +kernel
theorem dX6_part_15 : decode cX6_part 15 = .ok (.iconst 0, 1) := by decide +kernel
theorem dX6_part_16 : decode cX6_part 16 = .ok (.iconst 2, 1) := by decide +kernel
theorem dX6_part_17 : decode cX6_part 17 = .ok (.invokestatic 41, 3) := by decide +kernel
theorem dX6_part_20 : decode cX6_part 20 = .ok (.ifCond .ne 6, 3) := by decide +kernel
theorem dX6_part_23 : decode cX6_part 23 = .ok (.bipush (-2), 2) := by decide +kernel
theorem dX6_part_25 : decode cX6_part 25 = .ok (.ireturn, 1) := by decide +kernel
theorem dX6_part_26 : decode cX6_part 26 = .ok (.iload_n 2, 1) := by decide +kernel
theorem dX6_part_27 : decode cX6_part 27 = .ok (.ifCond .ne 12, 3) := by decide +kernel
theorem dX6_part_30 : decode cX6_part 30 = .ok (.aload_n 0, 1) := by decide +kernel
theorem dX6_part_31 : decode cX6_part 31 = .ok (.getfield 16, 3) := by decide +kernel
theorem dX6_part_34 : decode cX6_part 34 = .ok (.iload_n 1, 1) := by decide +kernel
theorem dX6_part_35 : decode cX6_part 35 = .ok (.iaload, 1) := by decide +kernel
theorem dX6_part_36 : decode cX6_part 36 = .ok (.goto 23, 3) := by decide +kernel
theorem dX6_part_39 : decode cX6_part 39 = .ok (.iload_n 2, 1) := by decide +kernel
theorem dX6_part_40 : decode cX6_part 40 = .ok (.iconst 1, 1) := by decide +kernel
theorem dX6_part_41 : decode cX6_part 41 = .ok (.if_icmp .ne 12, 3) := by decide +kernel
theorem dX6_part_44 : decode cX6_part 44 = .ok (.aload_n 0, 1) := by decide +kernel
theorem dX6_part_45 : decode cX6_part 45 = .ok (.getfield 19, 3) := by decide +kernel
theorem dX6_part_48 : decode cX6_part 48 = .ok (.iload_n 1, 1) := by decide +kernel
theorem dX6_part_49 : decode cX6_part 49 = .ok (.iaload, 1) := by decide +kernel
theorem dX6_part_50 : decode cX6_part 50 = .ok (.goto 9, 3) := by decide +kernel
theorem dX6_part_53 : decode cX6_part 53 = .ok (.aload_n 0, 1) := by decide +kernel
theorem dX6_part_54 : decode cX6_part 54 = .ok (.getfield 22, 3) := by decide +kernel
theorem dX6_part_57 : decode cX6_part 57 = .ok (.iload_n 1, 1) := by decide +kernel
theorem dX6_part_58 : decode cX6_part 58 = .ok (.iaload, 1) := by decide +kernel
theorem dX6_part_59 : decode cX6_part 59 = .ok (.ireturn, 1) := by decide +kernel
theorem dX6_over_0 : decode cX6_over 0 = .ok (.iconst 0, 1) := by decide +kernel
theorem dX6_over_1 : decode cX6_over 1 = .ok (.istore 5, 2) := by decide +kernel
theorem dX6_over_3 : decode cX6_over 3 = .ok (.iconst 0, 1) := by decide +kernel
theorem dX6_over_4 : decode cX6_over 4 = .ok (.istore 6, 2) := by decide +kernel
theorem dX6_over_6 : decode cX6_over 6 = .ok (.iload 6, 2) := by decide +kernel
theorem dX6_over_8 : decode cX6_over 8 = .ok (.iconst 4, 1) := by decide +kernel
theorem dX6_over_9 : decode cX6_over 9 = .ok (.if_icmp .ge 73, 3) := by decide +kernel
theorem dX6_over_12 : decode cX6_over 12 = .ok (.iconst 0, 1) := by decide +kernel
theorem dX6_over_13 : decode cX6_over 13 = .ok (.istore 7, 2) := by decide +kernel
theorem dX6_over_15 : decode cX6_over 15 = .ok (.iload 7, 2) := by decide +kernel
theorem dX6_over_17 : decode cX6_over 17 = .ok (.iconst 4, 1) := by decide +kernel
theorem dX6_over_18 : decode cX6_over 18 = .ok (.if_icmp .ge 58, 3) := by decide +kernel
theorem dX6_over_21 : decode cX6_over 21 = .ok (.iload_n 3, 1) := by decide +kernel
theorem dX6_over_22 : decode cX6_over 22 = .ok (.iload 6, 2) := by decide +kernel
theorem dX6_over_24 : decode cX6_over 24 = .ok (.ishr, 1) := by decide +kernel
theorem dX6_over_25 : decode cX6_over 25 = .ok (.iconst 1, 1) := by decide +kernel
theorem dX6_over_26 : decode cX6_over 26 = .ok (.iand, 1) := by decide +kernel
theorem dX6_over_27 : decode cX6_over 27 = .ok (.iconst 1, 1) := by decide +kernel
theorem dX6_over_28 : decode cX6_over 28 = .ok (.if_icmp .ne 42, 3) := by decide +kernel
theorem dX6_over_31 : decode cX6_over 31 = .ok (.iload 4, 2) := by decide +kernel
theorem dX6_over_33 : decode cX6_over 33 = .ok (.iload 7, 2) := by decide +kernel
theorem dX6_over_35 : decode cX6_over 35 = .ok (.ishr, 1) := by decide +kernel
theorem dX6_over_36 : decode cX6_over 36 = .ok (.iconst 1, 1) := by decide +kernel
theorem dX6_over_37 : decode cX6_over 37 = .ok (.iand, 1) := by decide +kernel
theorem dX6_over_38 : decode cX6_over 38 = .ok (.iconst 1, 1) := by decide +kernel
theorem dX6_over_39 : decode cX6_over 39 = .ok (.if_icmp .ne 31, 3) := by decide +kernel
theorem dX6_over_42 : decode cX6_over 42 = .ok (.iload 5, 2) := by decide +kernel
theorem dX6_over_44 : decode cX6_over 44 = .ok (.aload_n 0, 1) := by decide +kernel
theorem dX6_over_45 : decode cX6_over 45 = .ok (.getfield 7, 3) := by decide +kernel
theorem dX6_over_48 : decode cX6_over 48 = .ok (.sipush 128, 3) := by decide +kernel
theorem dX6_over_51 : decode cX6_over 51 = .ok (.iload_n 1, 1) := by decide +kernel
theorem dX6_over_52 : decode cX6_over 52 = .ok (.imul, 1) := by decide +kernel
theorem dX6_over_53 : decode cX6_over 53 = .ok (.bipush 16, 2) := by decide +kernel
theorem dX6_over_55 : decode cX6_over 55 = .ok (.iload_n 2, 1) := by decide +kernel
theorem dX6_over_56 : decode cX6_over 56 = .ok (.imul, 1) := by decide +kernel
theorem dX6_over_57 : decode cX6_over 57 = .ok (.iadd, 1) := by decide +kernel
theorem dX6_over_58 : decode cX6_over 58 = .ok (.iconst 4, 1) := by decide +kernel
theorem dX6_over_59 : decode cX6_over 59 = .ok (.iload 6, 2) := by decide +kernel
theorem dX6_over_61 : decode cX6_over 61 = .ok (.imul, 1) := by decide +kernel
theorem dX6_over_62 : decode cX6_over 62 = .ok (.iadd, 1) := by decide +kernel
theorem dX6_over_63 : decode cX6_over 63 = .ok (.iload 7, 2) := by decide +kernel
theorem dX6_over_65 : decode cX6_over 65 = .ok (.iadd, 1) := by decide +kernel
theorem dX6_over_66 : decode cX6_over 66 = .ok (.iaload, 1) := by decide +kernel
theorem dX6_over_67 : decode cX6_over 67 = .ok (.ior, 1) := by decide +kernel
theorem dX6_over_68 : decode cX6_over 68 = .ok (.istore 5, 2) := by decide +kernel
theorem dX6_over_70 : decode cX6_over 70 = .ok (.iinc 7 1, 3) := by decide +kernel
theorem dX6_over_73 : decode cX6_over 73 = .ok (.goto (-58), 3) := by decide +kernel
theorem dX6_over_76 : decode cX6_over 76 = .ok (.iinc 6 1, 3) := by decide +kernel
theorem dX6_over_79 : decode cX6_over 79 = .ok (.goto (-73), 3) := by decide +kernel
theorem dX6_over_82 : decode cX6_over 82 = .ok (.iload 5, 2) := by decide +kernel
theorem dX6_over_84 : decode cX6_over 84 = .ok (.ireturn, 1) := by decide +kernel
set_option maxRecDepth 20000 in
theorem ggX6_reach_X6_over : GoodIn wsX6_reach wsX6_over := goodIn_r _ [9, 10, 11, 12, 13, 14, 15, 16, 17, 18, 19, 20, 21] (by decide +kernel) (by decide +kernel)
set_option maxRecDepth 20000 in
theorem gX6_reach_X6_over : GoodIn wsX6_reach (wsV RX6 57 RX6 yX6_over wsX6_over) := goodIn_app (goodIn_of _ (by decide +kernel)) ggX6_reach_X6_over
theorem dX6_reach_0 : decode cX6_reach 0 = .ok (.iconst 0, 1) := by decide +kernel
theorem dX6_reach_1 : decode cX6_reach 1 = .ok (.istore_n 3, 1) := by decide +kernel
theorem dX6_reach_2 : decode cX6_reach 2 = .ok (.iload_n 3, 1) := by decide +kernel
theorem dX6_reach_3 : decode cX6_reach 3 = .ok (.iload_n 2, 1) := by decide +kernel
theorem dX6_reach_4 : decode cX6_reach 4 = .ok (.if_icmp .gt 82, 3) := by decide +kernel
theorem dX6_reach_7 : decode cX6_reach 7 = .ok (.aload_n 0, 1) := by decide +kernel
theorem dX6_reach_8 : decode cX6_reach 8 = .ok (.getfield 19, 3) := by decide +kernel
theorem dX6_reach_11 : decode cX6_reach 11 = .ok (.iload_n 3, 1) := by decide +kernel
theorem dX6_reach_12 : decode cX6_reach 12 = .ok (.iaload, 1) := by decide +kernel
theorem dX6_reach_13 : decode cX6_reach 13 = .ok (.ifCond .ge 7, 3) := by decide +kernel
theorem dX6_reach_16 : decode cX6_reach 16 = .ok (.iconst 1, 1) := by decide +kernel
theorem dX6_reach_17 : decode cX6_reach 17 = .ok (.goto 14, 3) := by decide +kernel
theorem dX6_reach_20 : decode cX6_reach 20 = .ok (.aload_n 0, 1) := by decide +kernel
theorem dX6_reach_21 : decode cX6_reach 21 = .ok (.getfield 35, 3) := by decide +kernel
theorem dX6_reach_24 : decode cX6_reach 24 = .ok (.aload_n 0, 1) := by decide +kernel
theorem dX6_reach_25 : decode cX6_reach 25 = .ok (.getfield 19, 3) := by decide +kernel
theorem dX6_reach_28 : decode cX6_reach 28 = .ok (.iload_n 3, 1) := by decide +kernel
theorem dX6_reach_29 : decode cX6_reach 29 = .ok (.iaload, 1) := by decide +kernel
theorem dX6_reach_30 : decode cX6_reach 30 = .ok (.iaload, 1) := by decide +kernel
theorem dX6_reach_31 : decode cX6_reach 31 = .ok (.istore 4, 2) := by decide +kernel
theorem dX6_reach_33 : decode cX6_reach 33 = .ok (.aload_n 0, 1) := by decide +kernel
theorem dX6_reach_34 : decode cX6_reach 34 = .ok (.getfield 22, 3) := by decide +kernel
theorem dX6_reach_37 : decode cX6_reach 37 = .ok (.iload_n 3, 1) := by decide +kernel
theorem dX6_reach_38 : decode cX6_reach 38 = .ok (.iaload, 1) := by decide +kernel
theorem dX6_reach_39 : decode cX6_reach 39 = .ok (.ifCond .ge 7, 3) := by decide +kernel
theorem dX6_reach_42 : decode cX6_reach 42 = .ok (.iconst 1, 1) := by decide +kernel
theorem dX6_reach_43 : decode cX6_reach 43 = .ok (.goto 14, 3) := by decide +kernel
theorem dX6_reach_46 : decode cX6_reach 46 = .ok (.aload_n 0, 1) := by decide +kernel
theorem dX6_reach_47 : decode cX6_reach 47 = .ok (.getfield 35, 3) := by decide +kernel
theorem dX6_reach_50 : decode cX6_reach 50 = .ok (.aload_n 0, 1) := by decide +kernel
theorem dX6_reach_51 : decode cX6_reach 51 = .ok (.getfield 22, 3) := by decide +kernel
theorem dX6_reach_54 : decode cX6_reach 54 = .ok (.iload_n 3, 1) := by decide +kernel
theorem dX6_reach_55 : decode cX6_reach 55 = .ok (.iaload, 1) := by decide +kernel
theorem dX6_reach_56 : decode cX6_reach 56 = .ok (.iaload, 1) := by decide +kernel
theorem dX6_reach_57 : decode cX6_reach 57 = .ok (.istore 5, 2) := by decide +kernel
theorem dX6_reach_59 : decode cX6_reach 59 = .ok (.aload_n 0, 1) := by decide +kernel
theorem dX6_reach_60 : decode cX6_reach 60 = .ok (.getfield 35, 3) := by decide +kernel
theorem dX6_reach_63 : decode cX6_reach 63 = .ok (.iload_n 3, 1) := by decide +kernel
theorem dX6_reach_64 : decode cX6_reach 64 = .ok (.aload_n 0, 1) := by decide +kernel
theorem dX6_reach_65 : decode cX6_reach 65 = .ok (.iload_n 1, 1) := by decide +kernel
theorem dX6_reach_66 : decode cX6_reach 66 = .ok (.aload_n 0, 1) := by decide +kernel
theorem dX6_reach_67 : decode cX6_reach 67 = .ok (.getfield 16, 3) := by decide +kernel
theorem dX6_reach_70 : decode cX6_reach 70 = .ok (.iload_n 3, 1) := by decide +kernel
theorem dX6_reach_71 : decode cX6_reach 71 = .ok (.iaload, 1) := by decide +kernel
theorem dX6_reach_72 : decode cX6_reach 72 = .ok (.iload 4, 2) := by decide +kernel
theorem dX6_reach_74 : decode cX6_reach 74 = .ok (.iload 5, 2) := by decide +kernel
theorem dX6_reach_76 : decode cX6_reach 76 = .ok (.invokevirtual 57, 3) := by decide +kernel
theorem dX6_reach_79 : decode cX6_reach 79 = .ok (.iastore, 1) := by decide +kernel
theorem dX6_reach_80 : decode cX6_reach 80 = .ok (.iinc 3 1, 3) := by decide +kernel
theorem dX6_reach_83 : decode cX6_reach 83 = .ok (.goto (-81), 3) := by decide +kernel
theorem dX6_reach_86 : decode cX6_reach 86 = .ok (.aload_n 0, 1) := by decide +kernel
theorem dX6_reach_87 : decode cX6_reach 87 = .ok (.getfield 35, 3) := by decide +kernel
theorem dX6_reach_90 : decode cX6_reach 90 = .ok (.iload_n 2, 1) := by decide +kernel
theorem dX6_reach_91 : decode cX6_reach 91 = .ok (.iaload, 1) := by decide +kernel
theorem dX6_reach_92 : decode cX6_reach 92 = .ok (.ireturn, 1) := by decide +kernel
set_option maxRecDepth 20000 in
theorem ggX6_reached_X6_within : GoodIn wsX6_reached wsX6_within := goodIn_r _ [5] (by decide +kernel) (by decide +kernel)
set_option maxRecDepth 20000 in
theorem gX6_reached_X6_within : GoodIn wsX6_reached (va_wsS RX6 41 yX6_within wsX6_within) := goodIn_app (goodIn_of _ (by decide +kernel)) ggX6_reached_X6_within
set_option maxRecDepth 20000 in
theorem ggX6_reached_X6_reach : GoodIn wsX6_reached wsX6_reach := goodIn_r _ [9, 10, 11, 12, 13, 14, 15, 16, 4, 17, 18, 19, 20, 21, 22, 23, 24, 25, 26, 27, 28, 29] (by decide +kernel) (by decide +kernel)
set_option maxRecDepth 20000 in
theorem gX6_reached_X6_reach : GoodIn wsX6_reached (wsV RX6 60 RX6 yX6_reach wsX6_reach) := goodIn_app (goodIn_of _ (by decide +kernel)) ggX6_reached_X6_reach
theorem dX6_reached_0 : decode cX6_reached 0 = .ok (.iload_n 1, 1) := by decide +kernel
theorem dX6_reached_1 : decode cX6_reached 1 = .ok (.iconst 0, 1) := by decide +kernel
theorem dX6_reached_2 : decode cX6_reached 2 = .ok (.iconst 1, 1) := by decide +kernel
theorem dX6_reached_3 : decode cX6_reached 3 = .ok (.invokestatic 41, 3) := by decide +kernel
theorem dX6_reached_6 : decode cX6_reached 6 = .ok (.ifCond .eq 26, 3) := by decide +kernel
theorem dX6_reached_9 : decode cX6_reached 9 = .ok (.iload_n 2, 1) := by decide +kernel
theorem dX6_reached_10 : decode cX6_reached 10 = .ok (.iconst 0, 1) := by decide +kernel
theorem dX6_reached_11 : decode cX6_reached 11 = .ok (.aload_n 0, 1) := by decide +kernel
theorem dX6_reached_12 : decode cX6_reached 12 = .ok (.getfield 53, 3) := by decide +kernel
theorem dX6_reached_15 : decode cX6_reached 15 = .ok (.iconst 1, 1) := by decide +kernel
theorem dX6_reached_16 : decode cX6_reached 16 = .ok (.isub, 1) := by decide +kernel
theorem dX6_reached_17 : decode cX6_reached 17 = .ok (.invokestatic 41, 3) := by decide +kernel
theorem dX6_reached_20 : decode cX6_reached 20 = .ok (.ifCond .eq 12, 3) := by decide +kernel
theorem dX6_reached_23 : decode cX6_reached 23 = .ok (.aload_n 0, 1) := by decide +kernel
theorem dX6_reached_24 : decode cX6_reached 24 = .ok (.iload_n 1, 1) := by decide +kernel
theorem dX6_reached_25 : decode cX6_reached 25 = .ok (.iload_n 2, 1) := by decide +kernel
theorem dX6_reached_26 : decode cX6_reached 26 = .ok (.invokevirtual 60, 3) := by decide +kernel
theorem dX6_reached_29 : decode cX6_reached 29 = .ok (.goto 4, 3) := by decide +kernel
theorem dX6_reached_32 : decode cX6_reached 32 = .ok (.iconst (-1), 1) := by decide +kernel
theorem dX6_reached_33 : decode cX6_reached 33 = .ok (.ireturn, 1) := by decide +kernel
theorem dX6_placeOf_0 : decode cX6_placeOf 0 = .ok (.iload_n 1, 1) := by decide +kernel
theorem dX6_placeOf_1 : decode cX6_placeOf 1 = .ok (.bipush 15, 2) := by decide +kernel
theorem dX6_placeOf_3 : decode cX6_placeOf 3 = .ok (.iand, 1) := by decide +kernel
theorem dX6_placeOf_4 : decode cX6_placeOf 4 = .ok (.aload_n 0, 1) := by decide +kernel
theorem dX6_placeOf_5 : decode cX6_placeOf 5 = .ok (.getfield 13, 3) := by decide +kernel
theorem dX6_placeOf_8 : decode cX6_placeOf 8 = .ok (.iconst 0, 1) := by decide +kernel
theorem dX6_placeOf_9 : decode cX6_placeOf 9 = .ok (.iaload, 1) := by decide +kernel
theorem dX6_placeOf_10 : decode cX6_placeOf 10 = .ok (.iand, 1) := by decide +kernel
theorem dX6_placeOf_11 : decode cX6_placeOf 11 = .ok (.ifCond .eq 7, 3) := by decide +kernel
theorem dX6_placeOf_14 : decode cX6_placeOf 14 = .ok (.iconst 2, 1) := by decide +kernel
theorem dX6_placeOf_15 : decode cX6_placeOf 15 = .ok (.goto 4, 3) := by decide +kernel
theorem dX6_placeOf_18 : decode cX6_placeOf 18 = .ok (.iconst 0, 1) := by decide +kernel
theorem dX6_placeOf_19 : decode cX6_placeOf 19 = .ok (.iload_n 1, 1) := by decide +kernel
theorem dX6_placeOf_20 : decode cX6_placeOf 20 = .ok (.iconst 4, 1) := by decide +kernel
theorem dX6_placeOf_21 : decode cX6_placeOf 21 = .ok (.ishr, 1) := by decide +kernel
theorem dX6_placeOf_22 : decode cX6_placeOf 22 = .ok (.aload_n 0, 1) := by decide +kernel
theorem dX6_placeOf_23 : decode cX6_placeOf 23 = .ok (.getfield 13, 3) := by decide +kernel
theorem dX6_placeOf_26 : decode cX6_placeOf 26 = .ok (.iconst 1, 1) := by decide +kernel
theorem dX6_placeOf_27 : decode cX6_placeOf 27 = .ok (.iaload, 1) := by decide +kernel
theorem dX6_placeOf_28 : decode cX6_placeOf 28 = .ok (.iand, 1) := by decide +kernel
theorem dX6_placeOf_29 : decode cX6_placeOf 29 = .ok (.ifCond .eq 7, 3) := by decide +kernel
theorem dX6_placeOf_32 : decode cX6_placeOf 32 = .ok (.iconst 1, 1) := by decide +kernel
theorem dX6_placeOf_33 : decode cX6_placeOf 33 = .ok (.goto 4, 3) := by decide +kernel
theorem dX6_placeOf_36 : decode cX6_placeOf 36 = .ok (.iconst 0, 1) := by decide +kernel
theorem dX6_placeOf_37 : decode cX6_placeOf 37 = .ok (.iadd, 1) := by decide +kernel
theorem dX6_placeOf_38 : decode cX6_placeOf 38 = .ok (.ireturn, 1) := by decide +kernel
set_option maxRecDepth 20000 in
theorem ggX6_place_X6_within : GoodIn wsX6_place wsX6_within := goodIn_r _ [5] (by decide +kernel) (by decide +kernel)
set_option maxRecDepth 20000 in
theorem gX6_place_X6_within : GoodIn wsX6_place (va_wsS RX6 41 yX6_within wsX6_within) := goodIn_app (goodIn_of _ (by decide +kernel)) ggX6_place_X6_within
set_option maxRecDepth 20000 in
theorem ggX6_place_X6_reach : GoodIn wsX6_place wsX6_reach := goodIn_r _ [9, 10, 11, 12, 13, 14, 15, 16, 4, 17, 18, 24, 25, 26, 27, 28, 29, 30, 31, 32, 33, 34] (by decide +kernel) (by decide +kernel)
set_option maxRecDepth 20000 in
theorem gX6_place_X6_reach : GoodIn wsX6_place (wsV RX6 60 RX6 yX6_reach wsX6_reach) := goodIn_app (goodIn_of _ (by decide +kernel)) ggX6_place_X6_reach
set_option maxRecDepth 20000 in
theorem ggX6_place_X6_placeOf : GoodIn wsX6_place wsX6_placeOf := goodIn_r _ [22, 23, 24, 25, 26, 27, 28, 29, 30, 31, 32, 33, 34] (by decide +kernel) (by decide +kernel)
set_option maxRecDepth 20000 in
theorem gX6_place_X6_placeOf : GoodIn wsX6_place (wsV RX6 64 RX6 yX6_placeOf wsX6_placeOf) := goodIn_app (goodIn_of _ (by decide +kernel)) ggX6_place_X6_placeOf
theorem dX6_place_0 : decode cX6_place 0 = .ok (.iload_n 1, 1) := by decide +kernel
theorem dX6_place_1 : decode cX6_place 1 = .ok (.iconst 0, 1) := by decide +kernel
theorem dX6_place_2 : decode cX6_place 2 = .ok (.aload_n 0, 1) := by decide +kernel
theorem dX6_place_3 : decode cX6_place 3 = .ok (.getfield 53, 3) := by decide +kernel
theorem dX6_place_6 : decode cX6_place 6 = .ok (.iconst 1, 1) := by decide +kernel
theorem dX6_place_7 : decode cX6_place 7 = .ok (.isub, 1) := by decide +kernel
theorem dX6_place_8 : decode cX6_place 8 = .ok (.invokestatic 41, 3) := by decide +kernel
theorem dX6_place_11 : decode cX6_place 11 = .ok (.ifCond .ne 5, 3) := by decide +kernel
theorem dX6_place_14 : decode cX6_place 14 = .ok (.iconst (-1), 1) := by decide +kernel
theorem dX6_place_15 : decode cX6_place 15 = .ok (.ireturn, 1) := by decide +kernel
theorem dX6_place_16 : decode cX6_place 16 = .ok (.aload_n 0, 1) := by decide +kernel
theorem dX6_place_17 : decode cX6_place 17 = .ok (.iconst 0, 1) := by decide +kernel
theorem dX6_place_18 : decode cX6_place 18 = .ok (.iload_n 1, 1) := by decide +kernel
theorem dX6_place_19 : decode cX6_place 19 = .ok (.invokevirtual 60, 3) := by decide +kernel
theorem dX6_place_22 : decode cX6_place 22 = .ok (.istore_n 2, 1) := by decide +kernel
theorem dX6_place_23 : decode cX6_place 23 = .ok (.iload_n 2, 1) := by decide +kernel
theorem dX6_place_24 : decode cX6_place 24 = .ok (.bipush 16, 2) := by decide +kernel
theorem dX6_place_26 : decode cX6_place 26 = .ok (.aload_n 0, 1) := by decide +kernel
theorem dX6_place_27 : decode cX6_place 27 = .ok (.iconst 1, 1) := by decide +kernel
theorem dX6_place_28 : decode cX6_place 28 = .ok (.iload_n 1, 1) := by decide +kernel
theorem dX6_place_29 : decode cX6_place 29 = .ok (.invokevirtual 60, 3) := by decide +kernel
theorem dX6_place_32 : decode cX6_place 32 = .ok (.imul, 1) := by decide +kernel
theorem dX6_place_33 : decode cX6_place 33 = .ok (.iadd, 1) := by decide +kernel
theorem dX6_place_34 : decode cX6_place 34 = .ok (.istore_n 2, 1) := by decide +kernel
theorem dX6_place_35 : decode cX6_place 35 = .ok (.aload_n 0, 1) := by decide +kernel
theorem dX6_place_36 : decode cX6_place 36 = .ok (.iload_n 2, 1) := by decide +kernel
theorem dX6_place_37 : decode cX6_place 37 = .ok (.invokevirtual 64, 3) := by decide +kernel
theorem dX6_place_40 : decode cX6_place 40 = .ok (.ireturn, 1) := by decide +kernel
set_option maxRecDepth 20000 in
theorem ggX6_size_X6_within : GoodIn wsX6_size wsX6_within := goodIn_r _ [8] (by decide +kernel) (by decide +kernel)
set_option maxRecDepth 20000 in
theorem gX6_size_X6_within : GoodIn wsX6_size (va_wsS RX6 41 yX6_within wsX6_within) := goodIn_app (goodIn_of _ (by decide +kernel)) ggX6_size_X6_within
theorem dX6_size_0 : decode cX6_size 0 = .ok (.iload_n 1, 1) := by decide +kernel
theorem dX6_size_1 : decode cX6_size 1 = .ok (.iconst 0, 1) := by decide +kernel
theorem dX6_size_2 : decode cX6_size 2 = .ok (.aload_n 0, 1) := by decide +kernel
theorem dX6_size_3 : decode cX6_size 3 = .ok (.getfield 53, 3) := by decide +kernel
theorem dX6_size_6 : decode cX6_size 6 = .ok (.iconst 1, 1) := by decide +kernel
theorem dX6_size_7 : decode cX6_size 7 = .ok (.isub, 1) := by decide +kernel
theorem dX6_size_8 : decode cX6_size 8 = .ok (.invokestatic 41, 3) := by decide +kernel
theorem dX6_size_11 : decode cX6_size 11 = .ok (.ifCond .ne 5, 3) := by decide +kernel
theorem dX6_size_14 : decode cX6_size 14 = .ok (.iconst (-1), 1) := by decide +kernel
theorem dX6_size_15 : decode cX6_size 15 = .ok (.ireturn, 1) := by decide +kernel
theorem dX6_size_16 : decode cX6_size 16 = .ok (.iconst 0, 1) := by decide +kernel
theorem dX6_size_17 : decode cX6_size 17 = .ok (.istore_n 2, 1) := by decide +kernel
theorem dX6_size_18 : decode cX6_size 18 = .ok (.iload_n 2, 1) := by decide +kernel
theorem dX6_size_19 : decode cX6_size 19 = .ok (.iload_n 1, 1) := by decide +kernel
theorem dX6_size_20 : decode cX6_size 20 = .ok (.if_icmp .gt 81, 3) := by decide +kernel
theorem dX6_size_23 : decode cX6_size 23 = .ok (.iconst 1, 1) := by decide +kernel
theorem dX6_size_24 : decode cX6_size 24 = .ok (.aload_n 0, 1) := by decide +kernel
theorem dX6_size_25 : decode cX6_size 25 = .ok (.getfield 19, 3) := by decide +kernel
theorem dX6_size_28 : decode cX6_size 28 = .ok (.iload_n 2, 1) := by decide +kernel
theorem dX6_size_29 : decode cX6_size 29 = .ok (.iaload, 1) := by decide +kernel
theorem dX6_size_30 : decode cX6_size 30 = .ok (.ifCond .ge 7, 3) := by decide +kernel
theorem dX6_size_33 : decode cX6_size 33 = .ok (.iconst 0, 1) := by decide +kernel
theorem dX6_size_34 : decode cX6_size 34 = .ok (.goto 14, 3) := by decide +kernel
theorem dX6_size_37 : decode cX6_size 37 = .ok (.aload_n 0, 1) := by decide +kernel
theorem dX6_size_38 : decode cX6_size 38 = .ok (.getfield 35, 3) := by decide +kernel
theorem dX6_size_41 : decode cX6_size 41 = .ok (.aload_n 0, 1) := by decide +kernel
theorem dX6_size_42 : decode cX6_size 42 = .ok (.getfield 19, 3) := by decide +kernel
theorem dX6_size_45 : decode cX6_size 45 = .ok (.iload_n 2, 1) := by decide +kernel
theorem dX6_size_46 : decode cX6_size 46 = .ok (.iaload, 1) := by decide +kernel
theorem dX6_size_47 : decode cX6_size 47 = .ok (.iaload, 1) := by decide +kernel
theorem dX6_size_48 : decode cX6_size 48 = .ok (.iadd, 1) := by decide +kernel
theorem dX6_size_49 : decode cX6_size 49 = .ok (.aload_n 0, 1) := by decide +kernel
theorem dX6_size_50 : decode cX6_size 50 = .ok (.getfield 22, 3) := by decide +kernel
theorem dX6_size_53 : decode cX6_size 53 = .ok (.iload_n 2, 1) := by decide +kernel
theorem dX6_size_54 : decode cX6_size 54 = .ok (.iaload, 1) := by decide +kernel
theorem dX6_size_55 : decode cX6_size 55 = .ok (.ifCond .ge 7, 3) := by decide +kernel
theorem dX6_size_58 : decode cX6_size 58 = .ok (.iconst 0, 1) := by decide +kernel
theorem dX6_size_59 : decode cX6_size 59 = .ok (.goto 14, 3) := by decide +kernel
theorem dX6_size_62 : decode cX6_size 62 = .ok (.aload_n 0, 1) := by decide +kernel
theorem dX6_size_63 : decode cX6_size 63 = .ok (.getfield 35, 3) := by decide +kernel
theorem dX6_size_66 : decode cX6_size 66 = .ok (.aload_n 0, 1) := by decide +kernel
theorem dX6_size_67 : decode cX6_size 67 = .ok (.getfield 22, 3) := by decide +kernel
theorem dX6_size_70 : decode cX6_size 70 = .ok (.iload_n 2, 1) := by decide +kernel
theorem dX6_size_71 : decode cX6_size 71 = .ok (.iaload, 1) := by decide +kernel
theorem dX6_size_72 : decode cX6_size 72 = .ok (.iaload, 1) := by decide +kernel
theorem dX6_size_73 : decode cX6_size 73 = .ok (.iadd, 1) := by decide +kernel
theorem dX6_size_74 : decode cX6_size 74 = .ok (.istore_n 3, 1) := by decide +kernel
theorem dX6_size_75 : decode cX6_size 75 = .ok (.aload_n 0, 1) := by decide +kernel
theorem dX6_size_76 : decode cX6_size 76 = .ok (.getfield 35, 3) := by decide +kernel
theorem dX6_size_79 : decode cX6_size 79 = .ok (.iload_n 2, 1) := by decide +kernel
theorem dX6_size_80 : decode cX6_size 80 = .ok (.iload_n 3, 1) := by decide +kernel
theorem dX6_size_81 : decode cX6_size 81 = .ok (.sipush 1000, 3) := by decide +kernel
theorem dX6_size_84 : decode cX6_size 84 = .ok (.if_icmp .le 9, 3) := by decide +kernel
theorem dX6_size_87 : decode cX6_size 87 = .ok (.sipush 1000, 3) := by decide +kernel
theorem dX6_size_90 : decode cX6_size 90 = .ok (.goto 4, 3) := by decide +kernel
theorem dX6_size_93 : decode cX6_size 93 = .ok (.iload_n 3, 1) := by decide +kernel
theorem dX6_size_94 : decode cX6_size 94 = .ok (.iastore, 1) := by decide +kernel
theorem dX6_size_95 : decode cX6_size 95 = .ok (.iinc 2 1, 3) := by decide +kernel
theorem dX6_size_98 : decode cX6_size 98 = .ok (.goto (-80), 3) := by decide +kernel
theorem dX6_size_101 : decode cX6_size 101 = .ok (.aload_n 0, 1) := by decide +kernel
theorem dX6_size_102 : decode cX6_size 102 = .ok (.getfield 35, 3) := by decide +kernel
theorem dX6_size_105 : decode cX6_size 105 = .ok (.iload_n 1, 1) := by decide +kernel
theorem dX6_size_106 : decode cX6_size 106 = .ok (.iaload, 1) := by decide +kernel
theorem dX6_size_107 : decode cX6_size 107 = .ok (.ireturn, 1) := by decide +kernel
set_option maxRecDepth 20000 in
theorem ggX6_profile_X6_over : GoodIn wsX6_profile wsX6_over := goodIn_r _ [5, 6, 7, 8, 9, 10, 11, 12, 13, 14, 15, 16, 17] (by decide +kernel) (by decide +kernel)
set_option maxRecDepth 20000 in
theorem gX6_profile_X6_over : GoodIn wsX6_profile (wsV RX6 57 RX6 yX6_over wsX6_over) := goodIn_app (goodIn_of _ (by decide +kernel)) ggX6_profile_X6_over
theorem dX6_profile_0 : decode cX6_profile 0 = .ok (.aload_n 0, 1) := by decide +kernel
theorem dX6_profile_1 : decode cX6_profile 1 = .ok (.iconst 0, 1) := by decide +kernel
theorem dX6_profile_2 : decode cX6_profile 2 = .ok (.iload_n 1, 1) := by decide +kernel
theorem dX6_profile_3 : decode cX6_profile 3 = .ok (.iload_n 2, 1) := by decide +kernel
theorem dX6_profile_4 : decode cX6_profile 4 = .ok (.bipush 15, 2) := by decide +kernel
theorem dX6_profile_6 : decode cX6_profile 6 = .ok (.iand, 1) := by decide +kernel
theorem dX6_profile_7 : decode cX6_profile 7 = .ok (.iload_n 3, 1) := by decide +kernel
theorem dX6_profile_8 : decode cX6_profile 8 = .ok (.bipush 15, 2) := by decide +kernel
theorem dX6_profile_10 : decode cX6_profile 10 = .ok (.iand, 1) := by decide +kernel
theorem dX6_profile_11 : decode cX6_profile 11 = .ok (.invokevirtual 57, 3) := by decide +kernel
theorem dX6_profile_14 : decode cX6_profile 14 = .ok (.istore 4, 2) := by decide +kernel
theorem dX6_profile_16 : decode cX6_profile 16 = .ok (.iload 4, 2) := by decide +kernel
theorem dX6_profile_18 : decode cX6_profile 18 = .ok (.bipush 16, 2) := by decide +kernel
theorem dX6_profile_20 : decode cX6_profile 20 = .ok (.aload_n 0, 1) := by decide +kernel
theorem dX6_profile_21 : decode cX6_profile 21 = .ok (.iconst 1, 1) := by decide +kernel
theorem dX6_profile_22 : decode cX6_profile 22 = .ok (.iload_n 1, 1) := by decide +kernel
theorem dX6_profile_23 : decode cX6_profile 23 = .ok (.iload_n 2, 1) := by decide +kernel
theorem dX6_profile_24 : decode cX6_profile 24 = .ok (.iconst 4, 1) := by decide +kernel
theorem dX6_profile_25 : decode cX6_profile 25 = .ok (.ishr, 1) := by decide +kernel
theorem dX6_profile_26 : decode cX6_profile 26 = .ok (.iload_n 3, 1) := by decide +kernel
theorem dX6_profile_27 : decode cX6_profile 27 = .ok (.iconst 4, 1) := by decide +kernel
theorem dX6_profile_28 : decode cX6_profile 28 = .ok (.ishr, 1) := by decide +kernel
theorem dX6_profile_29 : decode cX6_profile 29 = .ok (.invokevirtual 57, 3) := by decide +kernel
theorem dX6_profile_32 : decode cX6_profile 32 = .ok (.imul, 1) := by decide +kernel
theorem dX6_profile_33 : decode cX6_profile 33 = .ok (.iadd, 1) := by decide +kernel
theorem dX6_profile_34 : decode cX6_profile 34 = .ok (.ireturn, 1) := by decide +kernel
end
section
set_option maxRecDepth 20000 in
theorem ggX6_offer_X6_profile : GoodIn wsX6_offer wsX6_profile := goodIn_r _ [8, 9, 10, 11, 7, 12, 13, 17, 18, 19, 20, 21, 22, 23, 24, 25, 26, 27] (by decide +kernel) (by decide +kernel)
set_option maxRecDepth 20000 in
theorem gX6_offer_X6_profile : GoodIn wsX6_offer (wsV RX6 67 RX6 yX6_profile wsX6_profile) := goodIn_app (goodIn_of _ (by decide +kernel)) ggX6_offer_X6_profile
set_option maxRecDepth 20000 in
theorem ggX6_offer_X6_children : GoodIn wsX6_offer wsX6_children := goodIn_r _ [16] (by decide +kernel) (by decide +kernel)
set_option maxRecDepth 20000 in
theorem gX6_offer_X6_children : GoodIn wsX6_offer (va_wsS RX6 45 yX6_children wsX6_children) := goodIn_app (goodIn_of _ (by decide +kernel)) ggX6_offer_X6_children
theorem dX6_offer_0 : decode cX6_offer 0 = .ok (.aload_n 0, 1) := by decide +kernel
theorem dX6_offer_1 : decode cX6_offer 1 = .ok (.iload_n 1, 1) := by decide +kernel
theorem dX6_offer_2 : decode cX6_offer 2 = .ok (.iload_n 2, 1) := by decide +kernel
theorem dX6_offer_3 : decode cX6_offer 3 = .ok (.iload_n 3, 1) := by decide +kernel
theorem dX6_offer_4 : decode cX6_offer 4 = .ok (.invokevirtual 67, 3) := by decide +kernel
theorem dX6_offer_7 : decode cX6_offer 7 = .ok (.istore 4, 2) := by decide +kernel
theorem dX6_offer_9 : decode cX6_offer 9 = .ok (.iload_n 1, 1) := by decide +kernel
theorem dX6_offer_10 : decode cX6_offer 10 = .ok (.invokestatic 45, 3) := by decide +kernel
theorem dX6_offer_13 : decode cX6_offer 13 = .ok (.istore 5, 2) := by decide +kernel
theorem dX6_offer_15 : decode cX6_offer 15 = .ok (.iload 5, 2) := by decide +kernel
theorem dX6_offer_17 : decode cX6_offer 17 = .ok (.ifCond .le 12, 3) := by decide +kernel
theorem dX6_offer_20 : decode cX6_offer 20 = .ok (.aload_n 0, 1) := by decide +kernel
theorem dX6_offer_21 : decode cX6_offer 21 = .ok (.getfield 25, 3) := by decide +kernel
theorem dX6_offer_24 : decode cX6_offer 24 = .ok (.iload_n 2, 1) := by decide +kernel
theorem dX6_offer_25 : decode cX6_offer 25 = .ok (.iaload, 1) := by decide +kernel
theorem dX6_offer_26 : decode cX6_offer 26 = .ok (.goto 4, 3) := by decide +kernel
theorem dX6_offer_29 : decode cX6_offer 29 = .ok (.iconst 0, 1) := by decide +kernel
theorem dX6_offer_30 : decode cX6_offer 30 = .ok (.istore 6, 2) := by decide +kernel
theorem dX6_offer_32 : decode cX6_offer 32 = .ok (.iload 5, 2) := by decide +kernel
theorem dX6_offer_34 : decode cX6_offer 34 = .ok (.iconst 1, 1) := by decide +kernel
theorem dX6_offer_35 : decode cX6_offer 35 = .ok (.if_icmp .le 12, 3) := by decide +kernel
theorem dX6_offer_38 : decode cX6_offer 38 = .ok (.aload_n 0, 1) := by decide +kernel
theorem dX6_offer_39 : decode cX6_offer 39 = .ok (.getfield 25, 3) := by decide +kernel
theorem dX6_offer_42 : decode cX6_offer 42 = .ok (.iload_n 3, 1) := by decide +kernel
theorem dX6_offer_43 : decode cX6_offer 43 = .ok (.iaload, 1) := by decide +kernel
theorem dX6_offer_44 : decode cX6_offer 44 = .ok (.goto 4, 3) := by decide +kernel
theorem dX6_offer_47 : decode cX6_offer 47 = .ok (.iconst 0, 1) := by decide +kernel
theorem dX6_offer_48 : decode cX6_offer 48 = .ok (.istore 7, 2) := by decide +kernel
theorem dX6_offer_50 : decode cX6_offer 50 = .ok (.iconst 1, 1) := by decide +kernel
theorem dX6_offer_51 : decode cX6_offer 51 = .ok (.iload 6, 2) := by decide +kernel
theorem dX6_offer_53 : decode cX6_offer 53 = .ok (.iadd, 1) := by decide +kernel
theorem dX6_offer_54 : decode cX6_offer 54 = .ok (.iload 7, 2) := by decide +kernel
theorem dX6_offer_56 : decode cX6_offer 56 = .ok (.iadd, 1) := by decide +kernel
theorem dX6_offer_57 : decode cX6_offer 57 = .ok (.bipush 32, 2) := by decide +kernel
theorem dX6_offer_59 : decode cX6_offer 59 = .ok (.if_icmp .le 8, 3) := by decide +kernel
theorem dX6_offer_62 : decode cX6_offer 62 = .ok (.bipush 33, 2) := by decide +kernel
theorem dX6_offer_64 : decode cX6_offer 64 = .ok (.goto 10, 3) := by decide +kernel
theorem dX6_offer_67 : decode cX6_offer 67 = .ok (.iconst 1, 1) := by decide +kernel
theorem dX6_offer_68 : decode cX6_offer 68 = .ok (.iload 6, 2) := by decide +kernel
theorem dX6_offer_70 : decode cX6_offer 70 = .ok (.iadd, 1) := by decide +kernel
theorem dX6_offer_71 : decode cX6_offer 71 = .ok (.iload 7, 2) := by decide +kernel
theorem dX6_offer_73 : decode cX6_offer 73 = .ok (.iadd, 1) := by decide +kernel
theorem dX6_offer_74 : decode cX6_offer 74 = .ok (.istore 8, 2) := by decide +kernel
theorem dX6_offer_76 : decode cX6_offer 76 = .ok (.aload_n 0, 1) := by decide +kernel
theorem dX6_offer_77 : decode cX6_offer 77 = .ok (.getfield 25, 3) := by decide +kernel
theorem dX6_offer_80 : decode cX6_offer 80 = .ok (.iload 4, 2) := by decide +kernel
theorem dX6_offer_82 : decode cX6_offer 82 = .ok (.iaload, 1) := by decide +kernel
theorem dX6_offer_83 : decode cX6_offer 83 = .ok (.ifCond .le 15, 3) := by decide +kernel
theorem dX6_offer_86 : decode cX6_offer 86 = .ok (.aload_n 0, 1) := by decide +kernel
theorem dX6_offer_87 : decode cX6_offer 87 = .ok (.getfield 25, 3) := by decide +kernel
theorem dX6_offer_90 : decode cX6_offer 90 = .ok (.iload 4, 2) := by decide +kernel
theorem dX6_offer_92 : decode cX6_offer 92 = .ok (.iaload, 1) := by decide +kernel
theorem dX6_offer_93 : decode cX6_offer 93 = .ok (.iload 8, 2) := by decide +kernel
theorem dX6_offer_95 : decode cX6_offer 95 = .ok (.if_icmp .lt 22, 3) := by decide +kernel
theorem dX6_offer_98 : decode cX6_offer 98 = .ok (.iload 8, 2) := by decide +kernel
theorem dX6_offer_100 : decode cX6_offer 100 = .ok (.bipush 33, 2) := by decide +kernel
theorem dX6_offer_102 : decode cX6_offer 102 = .ok (.if_icmp .ne 17, 3) := by decide +kernel
theorem dX6_offer_105 : decode cX6_offer 105 = .ok (.aload_n 0, 1) := by decide +kernel
theorem dX6_offer_106 : decode cX6_offer 106 = .ok (.getfield 25, 3) := by decide +kernel
theorem dX6_offer_109 : decode cX6_offer 109 = .ok (.iload 4, 2) := by decide +kernel
theorem dX6_offer_111 : decode cX6_offer 111 = .ok (.iaload, 1) := by decide +kernel
theorem dX6_offer_112 : decode cX6_offer 112 = .ok (.bipush 33, 2) := by decide +kernel
theorem dX6_offer_114 : decode cX6_offer 114 = .ok (.if_icmp .ne 5, 3) := by decide +kernel
theorem dX6_offer_117 : decode cX6_offer 117 = .ok (.iconst 0, 1) := by decide +kernel
theorem dX6_offer_118 : decode cX6_offer 118 = .ok (.ireturn, 1) := by decide +kernel
theorem dX6_offer_119 : decode cX6_offer 119 = .ok (.iload 8, 2) := by decide +kernel
theorem dX6_offer_121 : decode cX6_offer 121 = .ok (.bipush 33, 2) := by decide +kernel
theorem dX6_offer_123 : decode cX6_offer 123 = .ok (.if_icmp .ge 207, 3) := by decide +kernel
theorem dX6_offer_126 : decode cX6_offer 126 = .ok (.aload_n 0, 1) := by decide +kernel
theorem dX6_offer_127 : decode cX6_offer 127 = .ok (.getfield 32, 3) := by decide +kernel
theorem dX6_offer_130 : decode cX6_offer 130 = .ok (.iconst 0, 1) := by decide +kernel
theorem dX6_offer_131 : decode cX6_offer 131 = .ok (.iload_n 1, 1) := by decide +kernel
theorem dX6_offer_132 : decode cX6_offer 132 = .ok (.i2b, 1) := by decide +kernel
theorem dX6_offer_133 : decode cX6_offer 133 = .ok (.bastore, 1) := by decide +kernel
theorem dX6_offer_134 : decode cX6_offer 134 = .ok (.iconst 0, 1) := by decide +kernel
theorem dX6_offer_135 : decode cX6_offer 135 = .ok (.istore 9, 2) := by decide +kernel
theorem dX6_offer_137 : decode cX6_offer 137 = .ok (.iload 9, 2) := by decide +kernel
theorem dX6_offer_139 : decode cX6_offer 139 = .ok (.iload 6, 2) := by decide +kernel
theorem dX6_offer_141 : decode cX6_offer 141 = .ok (.if_icmp .ge 30, 3) := by decide +kernel
theorem dX6_offer_144 : decode cX6_offer 144 = .ok (.aload_n 0, 1) := by decide +kernel
theorem dX6_offer_145 : decode cX6_offer 145 = .ok (.getfield 32, 3) := by decide +kernel
theorem dX6_offer_148 : decode cX6_offer 148 = .ok (.iconst 1, 1) := by decide +kernel
theorem dX6_offer_149 : decode cX6_offer 149 = .ok (.iload 9, 2) := by decide +kernel
theorem dX6_offer_151 : decode cX6_offer 151 = .ok (.iadd, 1) := by decide +kernel
theorem dX6_offer_152 : decode cX6_offer 152 = .ok (.aload_n 0, 1) := by decide +kernel
theorem dX6_offer_153 : decode cX6_offer 153 = .ok (.getfield 28, 3) := by decide +kernel
theorem dX6_offer_156 : decode cX6_offer 156 = .ok (.bipush 32, 2) := by decide +kernel
theorem dX6_offer_158 : decode cX6_offer 158 = .ok (.iload_n 2, 1) := by decide +kernel
theorem dX6_offer_159 : decode cX6_offer 159 = .ok (.imul, 1) := by decide +kernel
theorem dX6_offer_160 : decode cX6_offer 160 = .ok (.iload 9, 2) := by decide +kernel
theorem dX6_offer_162 : decode cX6_offer 162 = .ok (.iadd, 1) := by decide +kernel
theorem dX6_offer_163 : decode cX6_offer 163 = .ok (.baload, 1) := by decide +kernel
theorem dX6_offer_164 : decode cX6_offer 164 = .ok (.bastore, 1) := by decide +kernel
theorem dX6_offer_165 : decode cX6_offer 165 = .ok (.iinc 9 1, 3) := by decide +kernel
theorem dX6_offer_168 : decode cX6_offer 168 = .ok (.goto (-31), 3) := by decide +kernel
theorem dX6_offer_171 : decode cX6_offer 171 = .ok (.iconst 0, 1) := by decide +kernel
theorem dX6_offer_172 : decode cX6_offer 172 = .ok (.istore 9, 2) := by decide +kernel
theorem dX6_offer_174 : decode cX6_offer 174 = .ok (.iload 9, 2) := by decide +kernel
theorem dX6_offer_176 : decode cX6_offer 176 = .ok (.iload 7, 2) := by decide +kernel
theorem dX6_offer_178 : decode cX6_offer 178 = .ok (.if_icmp .ge 33, 3) := by decide +kernel
theorem dX6_offer_181 : decode cX6_offer 181 = .ok (.aload_n 0, 1) := by decide +kernel
theorem dX6_offer_182 : decode cX6_offer 182 = .ok (.getfield 32, 3) := by decide +kernel
theorem dX6_offer_185 : decode cX6_offer 185 = .ok (.iconst 1, 1) := by decide +kernel
theorem dX6_offer_186 : decode cX6_offer 186 = .ok (.iload 6, 2) := by decide +kernel
theorem dX6_offer_188 : decode cX6_offer 188 = .ok (.iadd, 1) := by decide +kernel
theorem dX6_offer_189 : decode cX6_offer 189 = .ok (.iload 9, 2) := by decide +kernel
theorem dX6_offer_191 : decode cX6_offer 191 = .ok (.iadd, 1) := by decide +kernel
theorem dX6_offer_192 : decode cX6_offer 192 = .ok (.aload_n 0, 1) := by decide +kernel
theorem dX6_offer_193 : decode cX6_offer 193 = .ok (.getfield 28, 3) := by decide +kernel
theorem dX6_offer_196 : decode cX6_offer 196 = .ok (.bipush 32, 2) := by decide +kernel
theorem dX6_offer_198 : decode cX6_offer 198 = .ok (.iload_n 3, 1) := by decide +kernel
theorem dX6_offer_199 : decode cX6_offer 199 = .ok (.imul, 1) := by decide +kernel
theorem dX6_offer_200 : decode cX6_offer 200 = .ok (.iload 9, 2) := by decide +kernel
theorem dX6_offer_202 : decode cX6_offer 202 = .ok (.iadd, 1) := by decide +kernel
theorem dX6_offer_203 : decode cX6_offer 203 = .ok (.baload, 1) := by decide +kernel
theorem dX6_offer_204 : decode cX6_offer 204 = .ok (.bastore, 1) := by decide +kernel
theorem dX6_offer_205 : decode cX6_offer 205 = .ok (.iinc 9 1, 3) := by decide +kernel
theorem dX6_offer_208 : decode cX6_offer 208 = .ok (.goto (-34), 3) := by decide +kernel
theorem dX6_offer_211 : decode cX6_offer 211 = .ok (.aload_n 0, 1) := by decide +kernel
theorem dX6_offer_212 : decode cX6_offer 212 = .ok (.getfield 25, 3) := by decide +kernel
theorem dX6_offer_215 : decode cX6_offer 215 = .ok (.iload 4, 2) := by decide +kernel
theorem dX6_offer_217 : decode cX6_offer 217 = .ok (.iaload, 1) := by decide +kernel
theorem dX6_offer_218 : decode cX6_offer 218 = .ok (.iload 8, 2) := by decide +kernel
theorem dX6_offer_220 : decode cX6_offer 220 = .ok (.if_icmp .ne 74, 3) := by decide +kernel
theorem dX6_offer_223 : decode cX6_offer 223 = .ok (.iconst 0, 1) := by decide +kernel
theorem dX6_offer_224 : decode cX6_offer 224 = .ok (.istore 9, 2) := by decide +kernel
theorem dX6_offer_226 : decode cX6_offer 226 = .ok (.iload 9, 2) := by decide +kernel
theorem dX6_offer_228 : decode cX6_offer 228 = .ok (.iload 8, 2) := by decide +kernel
theorem dX6_offer_230 : decode cX6_offer 230 = .ok (.if_icmp .ge 32, 3) := by decide +kernel
theorem dX6_offer_233 : decode cX6_offer 233 = .ok (.aload_n 0, 1) := by decide +kernel
theorem dX6_offer_234 : decode cX6_offer 234 = .ok (.getfield 32, 3) := by decide +kernel
theorem dX6_offer_237 : decode cX6_offer 237 = .ok (.iload 9, 2) := by decide +kernel
theorem dX6_offer_239 : decode cX6_offer 239 = .ok (.baload, 1) := by decide +kernel
theorem dX6_offer_240 : decode cX6_offer 240 = .ok (.aload_n 0, 1) := by decide +kernel
theorem dX6_offer_241 : decode cX6_offer 241 = .ok (.getfield 28, 3) := by decide +kernel
theorem dX6_offer_244 : decode cX6_offer 244 = .ok (.bipush 32, 2) := by decide +kernel
theorem dX6_offer_246 : decode cX6_offer 246 = .ok (.iload 4, 2) := by decide +kernel
theorem dX6_offer_248 : decode cX6_offer 248 = .ok (.imul, 1) := by decide +kernel
theorem dX6_offer_249 : decode cX6_offer 249 = .ok (.iload 9, 2) := by decide +kernel
theorem dX6_offer_251 : decode cX6_offer 251 = .ok (.iadd, 1) := by decide +kernel
theorem dX6_offer_252 : decode cX6_offer 252 = .ok (.baload, 1) := by decide +kernel
theorem dX6_offer_253 : decode cX6_offer 253 = .ok (.if_icmp .ne 9, 3) := by decide +kernel
theorem dX6_offer_256 : decode cX6_offer 256 = .ok (.iinc 9 1, 3) := by decide +kernel
theorem dX6_offer_259 : decode cX6_offer 259 = .ok (.goto (-33), 3) := by decide +kernel
theorem dX6_offer_262 : decode cX6_offer 262 = .ok (.iload 9, 2) := by decide +kernel
theorem dX6_offer_264 : decode cX6_offer 264 = .ok (.iload 8, 2) := by decide +kernel
theorem dX6_offer_266 : decode cX6_offer 266 = .ok (.if_icmp .eq 26, 3) := by decide +kernel
theorem dX6_offer_269 : decode cX6_offer 269 = .ok (.aload_n 0, 1) := by decide +kernel
theorem dX6_offer_270 : decode cX6_offer 270 = .ok (.getfield 32, 3) := by decide +kernel
theorem dX6_offer_273 : decode cX6_offer 273 = .ok (.iload 9, 2) := by decide +kernel
theorem dX6_offer_275 : decode cX6_offer 275 = .ok (.baload, 1) := by decide +kernel
theorem dX6_offer_276 : decode cX6_offer 276 = .ok (.aload_n 0, 1) := by decide +kernel
theorem dX6_offer_277 : decode cX6_offer 277 = .ok (.getfield 28, 3) := by decide +kernel
theorem dX6_offer_280 : decode cX6_offer 280 = .ok (.bipush 32, 2) := by decide +kernel
theorem dX6_offer_282 : decode cX6_offer 282 = .ok (.iload 4, 2) := by decide +kernel
theorem dX6_offer_284 : decode cX6_offer 284 = .ok (.imul, 1) := by decide +kernel
theorem dX6_offer_285 : decode cX6_offer 285 = .ok (.iload 9, 2) := by decide +kernel
theorem dX6_offer_287 : decode cX6_offer 287 = .ok (.iadd, 1) := by decide +kernel
theorem dX6_offer_288 : decode cX6_offer 288 = .ok (.baload, 1) := by decide +kernel
theorem dX6_offer_289 : decode cX6_offer 289 = .ok (.if_icmp .le 5, 3) := by decide +kernel
theorem dX6_offer_292 : decode cX6_offer 292 = .ok (.iconst 0, 1) := by decide +kernel
theorem dX6_offer_293 : decode cX6_offer 293 = .ok (.ireturn, 1) := by decide +kernel
theorem dX6_offer_294 : decode cX6_offer 294 = .ok (.iconst 0, 1) := by decide +kernel
theorem dX6_offer_295 : decode cX6_offer 295 = .ok (.istore 9, 2) := by decide +kernel
theorem dX6_offer_297 : decode cX6_offer 297 = .ok (.iload 9, 2) := by decide +kernel
theorem dX6_offer_299 : decode cX6_offer 299 = .ok (.iload 8, 2) := by decide +kernel
theorem dX6_offer_301 : decode cX6_offer 301 = .ok (.if_icmp .ge 29, 3) := by decide +kernel
theorem dX6_offer_304 : decode cX6_offer 304 = .ok (.aload_n 0, 1) := by decide +kernel
theorem dX6_offer_305 : decode cX6_offer 305 = .ok (.getfield 28, 3) := by decide +kernel
theorem dX6_offer_308 : decode cX6_offer 308 = .ok (.bipush 32, 2) := by decide +kernel
theorem dX6_offer_310 : decode cX6_offer 310 = .ok (.iload 4, 2) := by decide +kernel
theorem dX6_offer_312 : decode cX6_offer 312 = .ok (.imul, 1) := by decide +kernel
theorem dX6_offer_313 : decode cX6_offer 313 = .ok (.iload 9, 2) := by decide +kernel
theorem dX6_offer_315 : decode cX6_offer 315 = .ok (.iadd, 1) := by decide +kernel
theorem dX6_offer_316 : decode cX6_offer 316 = .ok (.aload_n 0, 1) := by decide +kernel
theorem dX6_offer_317 : decode cX6_offer 317 = .ok (.getfield 32, 3) := by decide +kernel
theorem dX6_offer_320 : decode cX6_offer 320 = .ok (.iload 9, 2) := by decide +kernel
theorem dX6_offer_322 : decode cX6_offer 322 = .ok (.baload, 1) := by decide +kernel
theorem dX6_offer_323 : decode cX6_offer 323 = .ok (.bastore, 1) := by decide +kernel
theorem dX6_offer_324 : decode cX6_offer 324 = .ok (.iinc 9 1, 3) := by decide +kernel
theorem dX6_offer_327 : decode cX6_offer 327 = .ok (.goto (-30), 3) := by decide +kernel
theorem dX6_offer_330 : decode cX6_offer 330 = .ok (.aload_n 0, 1) := by decide +kernel
theorem dX6_offer_331 : decode cX6_offer 331 = .ok (.getfield 25, 3) := by decide +kernel
theorem dX6_offer_334 : decode cX6_offer 334 = .ok (.iload 4, 2) := by decide +kernel
theorem dX6_offer_336 : decode cX6_offer 336 = .ok (.iload 8, 2) := by decide +kernel
theorem dX6_offer_338 : decode cX6_offer 338 = .ok (.iastore, 1) := by decide +kernel
theorem dX6_offer_339 : decode cX6_offer 339 = .ok (.iconst 1, 1) := by decide +kernel
theorem dX6_offer_340 : decode cX6_offer 340 = .ok (.ireturn, 1) := by decide +kernel
set_option maxRecDepth 20000 in
theorem ggX6_all_X6_children : GoodIn wsX6_all wsX6_children := goodIn_r _ [6] (by decide +kernel) (by decide +kernel)
set_option maxRecDepth 20000 in
theorem gX6_all_X6_children : GoodIn wsX6_all (va_wsS RX6 45 yX6_children wsX6_children) := goodIn_app (goodIn_of _ (by decide +kernel)) ggX6_all_X6_children
set_option maxRecDepth 20000 in
theorem ggX6_all_X6_offer : GoodIn wsX6_all wsX6_offer := goodIn_r _ [10, 1, 11, 12, 13, 14, 15, 5, 16, 17, 18, 19, 20, 21, 3, 4, 6, 22, 23, 24, 25, 26, 27, 28, 29, 30, 31, 32] (by decide +kernel) (by decide +kernel)
set_option maxRecDepth 20000 in
theorem gX6_all_X6_offer : GoodIn wsX6_all (wsV RX6 72 RX6 yX6_offer wsX6_offer) := goodIn_app (goodIn_of _ (by decide +kernel)) ggX6_all_X6_offer
theorem dX6_all_0 : decode cX6_all 0 = .ok (.iconst 0, 1) := by decide +kernel
theorem dX6_all_1 : decode cX6_all 1 = .ok (.istore_n 1, 1) := by decide +kernel
theorem dX6_all_2 : decode cX6_all 2 = .ok (.iload_n 1, 1) := by decide +kernel
theorem dX6_all_3 : decode cX6_all 3 = .ok (.sipush 256, 3) := by decide +kernel
theorem dX6_all_6 : decode cX6_all 6 = .ok (.if_icmp .ge 16, 3) := by decide +kernel
theorem dX6_all_9 : decode cX6_all 9 = .ok (.aload_n 0, 1) := by decide +kernel
theorem dX6_all_10 : decode cX6_all 10 = .ok (.getfield 25, 3) := by decide +kernel
theorem dX6_all_13 : decode cX6_all 13 = .ok (.iload_n 1, 1) := by decide +kernel
theorem dX6_all_14 : decode cX6_all 14 = .ok (.iconst 0, 1) := by decide +kernel
theorem dX6_all_15 : decode cX6_all 15 = .ok (.iastore, 1) := by decide +kernel
theorem dX6_all_16 : decode cX6_all 16 = .ok (.iinc 1 1, 3) := by decide +kernel
theorem dX6_all_19 : decode cX6_all 19 = .ok (.goto (-17), 3) := by decide +kernel
theorem dX6_all_22 : decode cX6_all 22 = .ok (.iconst 1, 1) := by decide +kernel
theorem dX6_all_23 : decode cX6_all 23 = .ok (.istore_n 1, 1) := by decide +kernel
theorem dX6_all_24 : decode cX6_all 24 = .ok (.iconst 0, 1) := by decide +kernel
theorem dX6_all_25 : decode cX6_all 25 = .ok (.istore_n 2, 1) := by decide +kernel
theorem dX6_all_26 : decode cX6_all 26 = .ok (.iload_n 1, 1) := by decide +kernel
theorem dX6_all_27 : decode cX6_all 27 = .ok (.ifCond .eq 142, 3) := by decide +kernel
theorem dX6_all_30 : decode cX6_all 30 = .ok (.iload_n 2, 1) := by decide +kernel
theorem dX6_all_31 : decode cX6_all 31 = .ok (.ldc 71, 2) := by decide +kernel
theorem dX6_all_33 : decode cX6_all 33 = .ok (.if_icmp .ge 136, 3) := by decide +kernel
theorem dX6_all_36 : decode cX6_all 36 = .ok (.iconst 0, 1) := by decide +kernel
theorem dX6_all_37 : decode cX6_all 37 = .ok (.istore_n 1, 1) := by decide +kernel
theorem dX6_all_38 : decode cX6_all 38 = .ok (.iconst 0, 1) := by decide +kernel
theorem dX6_all_39 : decode cX6_all 39 = .ok (.istore_n 3, 1) := by decide +kernel
theorem dX6_all_40 : decode cX6_all 40 = .ok (.iload_n 3, 1) := by decide +kernel
theorem dX6_all_41 : decode cX6_all 41 = .ok (.bipush 8, 2) := by decide +kernel
theorem dX6_all_43 : decode cX6_all 43 = .ok (.if_icmp .ge 120, 3) := by decide +kernel
theorem dX6_all_46 : decode cX6_all 46 = .ok (.iload_n 3, 1) := by decide +kernel
theorem dX6_all_47 : decode cX6_all 47 = .ok (.invokestatic 45, 3) := by decide +kernel
theorem dX6_all_50 : decode cX6_all 50 = .ok (.istore 4, 2) := by decide +kernel
theorem dX6_all_52 : decode cX6_all 52 = .ok (.iconst 0, 1) := by decide +kernel
theorem dX6_all_53 : decode cX6_all 53 = .ok (.istore 5, 2) := by decide +kernel
theorem dX6_all_55 : decode cX6_all 55 = .ok (.iload 5, 2) := by decide +kernel
theorem dX6_all_57 : decode cX6_all 57 = .ok (.sipush 256, 3) := by decide +kernel
theorem dX6_all_60 : decode cX6_all 60 = .ok (.if_icmp .ge 97, 3) := by decide +kernel
theorem dX6_all_63 : decode cX6_all 63 = .ok (.iload 4, 2) := by decide +kernel
theorem dX6_all_65 : decode cX6_all 65 = .ok (.ifCond .ne 13, 3) := by decide +kernel
theorem dX6_all_68 : decode cX6_all 68 = .ok (.iload 5, 2) := by decide +kernel
theorem dX6_all_70 : decode cX6_all 70 = .ok (.bipush 17, 2) := by decide +kernel
theorem dX6_all_72 : decode cX6_all 72 = .ok (.if_icmp .eq 19, 3) := by decide +kernel
theorem dX6_all_75 : decode cX6_all 75 = .ok (.goto 76, 3) := by decide +kernel
theorem dX6_all_78 : decode cX6_all 78 = .ok (.aload_n 0, 1) := by decide +kernel
theorem dX6_all_79 : decode cX6_all 79 = .ok (.getfield 25, 3) := by decide +kernel
theorem dX6_all_82 : decode cX6_all 82 = .ok (.iload 5, 2) := by decide +kernel
theorem dX6_all_84 : decode cX6_all 84 = .ok (.iaload, 1) := by decide +kernel
theorem dX6_all_85 : decode cX6_all 85 = .ok (.ifCond .ne 6, 3) := by decide +kernel
theorem dX6_all_88 : decode cX6_all 88 = .ok (.goto 63, 3) := by decide +kernel
theorem dX6_all_91 : decode cX6_all 91 = .ok (.iconst 0, 1) := by decide +kernel
theorem dX6_all_92 : decode cX6_all 92 = .ok (.istore 6, 2) := by decide +kernel
theorem dX6_all_94 : decode cX6_all 94 = .ok (.iload 6, 2) := by decide +kernel
theorem dX6_all_96 : decode cX6_all 96 = .ok (.sipush 256, 3) := by decide +kernel
theorem dX6_all_99 : decode cX6_all 99 = .ok (.if_icmp .ge 52, 3) := by decide +kernel
theorem dX6_all_102 : decode cX6_all 102 = .ok (.iload 4, 2) := by decide +kernel
theorem dX6_all_104 : decode cX6_all 104 = .ok (.iconst 2, 1) := by decide +kernel
theorem dX6_all_105 : decode cX6_all 105 = .ok (.if_icmp .ge 13, 3) := by decide +kernel
theorem dX6_all_108 : decode cX6_all 108 = .ok (.iload 6, 2) := by decide +kernel
theorem dX6_all_110 : decode cX6_all 110 = .ok (.bipush 17, 2) := by decide +kernel
theorem dX6_all_112 : decode cX6_all 112 = .ok (.if_icmp .eq 19, 3) := by decide +kernel
theorem dX6_all_115 : decode cX6_all 115 = .ok (.goto 30, 3) := by decide +kernel
theorem dX6_all_118 : decode cX6_all 118 = .ok (.aload_n 0, 1) := by decide +kernel
theorem dX6_all_119 : decode cX6_all 119 = .ok (.getfield 25, 3) := by decide +kernel
theorem dX6_all_122 : decode cX6_all 122 = .ok (.iload 6, 2) := by decide +kernel
theorem dX6_all_124 : decode cX6_all 124 = .ok (.iaload, 1) := by decide +kernel
theorem dX6_all_125 : decode cX6_all 125 = .ok (.ifCond .ne 6, 3) := by decide +kernel
theorem dX6_all_128 : decode cX6_all 128 = .ok (.goto 17, 3) := by decide +kernel
theorem dX6_all_131 : decode cX6_all 131 = .ok (.aload_n 0, 1) := by decide +kernel
theorem dX6_all_132 : decode cX6_all 132 = .ok (.iload_n 3, 1) := by decide +kernel
theorem dX6_all_133 : decode cX6_all 133 = .ok (.iload 5, 2) := by decide +kernel
theorem dX6_all_135 : decode cX6_all 135 = .ok (.iload 6, 2) := by decide +kernel
theorem dX6_all_137 : decode cX6_all 137 = .ok (.invokevirtual 72, 3) := by decide +kernel
theorem dX6_all_140 : decode cX6_all 140 = .ok (.ifCond .eq 5, 3) := by decide +kernel
theorem dX6_all_143 : decode cX6_all 143 = .ok (.iconst 1, 1) := by decide +kernel
theorem dX6_all_144 : decode cX6_all 144 = .ok (.istore_n 1, 1) := by decide +kernel
theorem dX6_all_145 : decode cX6_all 145 = .ok (.iinc 6 1, 3) := by decide +kernel
theorem dX6_all_148 : decode cX6_all 148 = .ok (.goto (-54), 3) := by decide +kernel
theorem dX6_all_151 : decode cX6_all 151 = .ok (.iinc 5 1, 3) := by decide +kernel
theorem dX6_all_154 : decode cX6_all 154 = .ok (.goto (-99), 3) := by decide +kernel
theorem dX6_all_157 : decode cX6_all 157 = .ok (.iinc 3 1, 3) := by decide +kernel
theorem dX6_all_160 : decode cX6_all 160 = .ok (.goto (-120), 3) := by decide +kernel
theorem dX6_all_163 : decode cX6_all 163 = .ok (.iinc 2 1, 3) := by decide +kernel
theorem dX6_all_166 : decode cX6_all 166 = .ok (.goto (-140), 3) := by decide +kernel
theorem dX6_all_169 : decode cX6_all 169 = .ok (.return_, 1) := by decide +kernel
set_option maxRecDepth 20000 in
theorem ggX6_best_X6_all : GoodIn wsX6_best wsX6_all := goodIn_r _ [7, 1, 8, 9, 10, 6, 11, 12, 13, 14, 15, 16, 2, 17, 18, 19, 20, 21, 22, 23, 24, 25, 31, 32, 33, 34, 35, 36, 37, 38, 39, 40, 41] (by decide +kernel) (by decide +kernel)
set_option maxRecDepth 20000 in
theorem gX6_best_X6_all : GoodIn wsX6_best (wsV RX6 75 RX6 yX6_all wsX6_all) := goodIn_app (goodIn_of _ (by decide +kernel)) ggX6_best_X6_all
set_option maxRecDepth 20000 in
theorem ggX6_best_X6_placeOf : GoodIn wsX6_best wsX6_placeOf := goodIn_r _ [29, 30, 31, 32, 33, 34, 35, 36, 37, 38, 39, 40, 41] (by decide +kernel) (by decide +kernel)
set_option maxRecDepth 20000 in
theorem gX6_best_X6_placeOf : GoodIn wsX6_best (wsV RX6 64 RX6 yX6_placeOf wsX6_placeOf) := goodIn_app (goodIn_of _ (by decide +kernel)) ggX6_best_X6_placeOf
theorem dX6_best_0 : decode cX6_best 0 = .ok (.aload_n 0, 1) := by decide +kernel
theorem dX6_best_1 : decode cX6_best 1 = .ok (.invokevirtual 75, 3) := by decide +kernel
theorem dX6_best_4 : decode cX6_best 4 = .ok (.iconst (-1), 1) := by decide +kernel
theorem dX6_best_5 : decode cX6_best 5 = .ok (.istore_n 2, 1) := by decide +kernel
theorem dX6_best_6 : decode cX6_best 6 = .ok (.iconst 0, 1) := by decide +kernel
theorem dX6_best_7 : decode cX6_best 7 = .ok (.istore_n 3, 1) := by decide +kernel
theorem dX6_best_8 : decode cX6_best 8 = .ok (.iload_n 3, 1) := by decide +kernel
theorem dX6_best_9 : decode cX6_best 9 = .ok (.sipush 256, 3) := by decide +kernel
theorem dX6_best_12 : decode cX6_best 12 = .ok (.if_icmp .ge 170, 3) := by decide +kernel
theorem dX6_best_15 : decode cX6_best 15 = .ok (.aload_n 0, 1) := by decide +kernel
theorem dX6_best_16 : decode cX6_best 16 = .ok (.getfield 25, 3) := by decide +kernel
theorem dX6_best_19 : decode cX6_best 19 = .ok (.iload_n 3, 1) := by decide +kernel
theorem dX6_best_20 : decode cX6_best 20 = .ok (.iaload, 1) := by decide +kernel
theorem dX6_best_21 : decode cX6_best 21 = .ok (.ifCond .eq 155, 3) := by decide +kernel
theorem dX6_best_24 : decode cX6_best 24 = .ok (.iload_n 1, 1) := by decide +kernel
theorem dX6_best_25 : decode cX6_best 25 = .ok (.aload_n 0, 1) := by decide +kernel
theorem dX6_best_26 : decode cX6_best 26 = .ok (.iload_n 3, 1) := by decide +kernel
theorem dX6_best_27 : decode cX6_best 27 = .ok (.invokevirtual 64, 3) := by decide +kernel
theorem dX6_best_30 : decode cX6_best 30 = .ok (.ishr, 1) := by decide +kernel
theorem dX6_best_31 : decode cX6_best 31 = .ok (.iconst 1, 1) := by decide +kernel
theorem dX6_best_32 : decode cX6_best 32 = .ok (.iand, 1) := by decide +kernel
theorem dX6_best_33 : decode cX6_best 33 = .ok (.ifCond .ne 6, 3) := by decide +kernel
theorem dX6_best_36 : decode cX6_best 36 = .ok (.goto 140, 3) := by decide +kernel
theorem dX6_best_39 : decode cX6_best 39 = .ok (.iload_n 2, 1) := by decide +kernel
theorem dX6_best_40 : decode cX6_best 40 = .ok (.ifCond .lt 18, 3) := by decide +kernel
theorem dX6_best_43 : decode cX6_best 43 = .ok (.aload_n 0, 1) := by decide +kernel
theorem dX6_best_44 : decode cX6_best 44 = .ok (.getfield 25, 3) := by decide +kernel
theorem dX6_best_47 : decode cX6_best 47 = .ok (.iload_n 3, 1) := by decide +kernel
theorem dX6_best_48 : decode cX6_best 48 = .ok (.iaload, 1) := by decide +kernel
theorem dX6_best_49 : decode cX6_best 49 = .ok (.aload_n 0, 1) := by decide +kernel
theorem dX6_best_50 : decode cX6_best 50 = .ok (.getfield 25, 3) := by decide +kernel
theorem dX6_best_53 : decode cX6_best 53 = .ok (.iload_n 2, 1) := by decide +kernel
theorem dX6_best_54 : decode cX6_best 54 = .ok (.iaload, 1) := by decide +kernel
theorem dX6_best_55 : decode cX6_best 55 = .ok (.if_icmp .ge 8, 3) := by decide +kernel
theorem dX6_best_58 : decode cX6_best 58 = .ok (.iload_n 3, 1) := by decide +kernel
theorem dX6_best_59 : decode cX6_best 59 = .ok (.istore_n 2, 1) := by decide +kernel
theorem dX6_best_60 : decode cX6_best 60 = .ok (.goto 116, 3) := by decide +kernel
theorem dX6_best_63 : decode cX6_best 63 = .ok (.aload_n 0, 1) := by decide +kernel
theorem dX6_best_64 : decode cX6_best 64 = .ok (.getfield 25, 3) := by decide +kernel
theorem dX6_best_67 : decode cX6_best 67 = .ok (.iload_n 3, 1) := by decide +kernel
theorem dX6_best_68 : decode cX6_best 68 = .ok (.iaload, 1) := by decide +kernel
theorem dX6_best_69 : decode cX6_best 69 = .ok (.aload_n 0, 1) := by decide +kernel
theorem dX6_best_70 : decode cX6_best 70 = .ok (.getfield 25, 3) := by decide +kernel
theorem dX6_best_73 : decode cX6_best 73 = .ok (.iload_n 2, 1) := by decide +kernel
theorem dX6_best_74 : decode cX6_best 74 = .ok (.iaload, 1) := by decide +kernel
theorem dX6_best_75 : decode cX6_best 75 = .ok (.if_icmp .ne 101, 3) := by decide +kernel
theorem dX6_best_78 : decode cX6_best 78 = .ok (.aload_n 0, 1) := by decide +kernel
theorem dX6_best_79 : decode cX6_best 79 = .ok (.getfield 25, 3) := by decide +kernel
theorem dX6_best_82 : decode cX6_best 82 = .ok (.iload_n 3, 1) := by decide +kernel
theorem dX6_best_83 : decode cX6_best 83 = .ok (.iaload, 1) := by decide +kernel
theorem dX6_best_84 : decode cX6_best 84 = .ok (.bipush 33, 2) := by decide +kernel
theorem dX6_best_86 : decode cX6_best 86 = .ok (.if_icmp .ge 90, 3) := by decide +kernel
theorem dX6_best_89 : decode cX6_best 89 = .ok (.iconst 0, 1) := by decide +kernel
theorem dX6_best_90 : decode cX6_best 90 = .ok (.istore 4, 2) := by decide +kernel
theorem dX6_best_92 : decode cX6_best 92 = .ok (.iload 4, 2) := by decide +kernel
theorem dX6_best_94 : decode cX6_best 94 = .ok (.aload_n 0, 1) := by decide +kernel
theorem dX6_best_95 : decode cX6_best 95 = .ok (.getfield 25, 3) := by decide +kernel
theorem dX6_best_98 : decode cX6_best 98 = .ok (.iload_n 3, 1) := by decide +kernel
theorem dX6_best_99 : decode cX6_best 99 = .ok (.iaload, 1) := by decide +kernel
theorem dX6_best_100 : decode cX6_best 100 = .ok (.if_icmp .ge 36, 3) := by decide +kernel
theorem dX6_best_103 : decode cX6_best 103 = .ok (.aload_n 0, 1) := by decide +kernel
theorem dX6_best_104 : decode cX6_best 104 = .ok (.getfield 28, 3) := by decide +kernel
theorem dX6_best_107 : decode cX6_best 107 = .ok (.bipush 32, 2) := by decide +kernel
theorem dX6_best_109 : decode cX6_best 109 = .ok (.iload_n 3, 1) := by decide +kernel
theorem dX6_best_110 : decode cX6_best 110 = .ok (.imul, 1) := by decide +kernel
theorem dX6_best_111 : decode cX6_best 111 = .ok (.iload 4, 2) := by decide +kernel
theorem dX6_best_113 : decode cX6_best 113 = .ok (.iadd, 1) := by decide +kernel
theorem dX6_best_114 : decode cX6_best 114 = .ok (.baload, 1) := by decide +kernel
theorem dX6_best_115 : decode cX6_best 115 = .ok (.aload_n 0, 1) := by decide +kernel
theorem dX6_best_116 : decode cX6_best 116 = .ok (.getfield 28, 3) := by decide +kernel
theorem dX6_best_119 : decode cX6_best 119 = .ok (.bipush 32, 2) := by decide +kernel
theorem dX6_best_121 : decode cX6_best 121 = .ok (.iload_n 2, 1) := by decide +kernel
theorem dX6_best_122 : decode cX6_best 122 = .ok (.imul, 1) := by decide +kernel
theorem dX6_best_123 : decode cX6_best 123 = .ok (.iload 4, 2) := by decide +kernel
theorem dX6_best_125 : decode cX6_best 125 = .ok (.iadd, 1) := by decide +kernel
theorem dX6_best_126 : decode cX6_best 126 = .ok (.baload, 1) := by decide +kernel
theorem dX6_best_127 : decode cX6_best 127 = .ok (.if_icmp .ne 9, 3) := by decide +kernel
theorem dX6_best_130 : decode cX6_best 130 = .ok (.iinc 4 1, 3) := by decide +kernel
theorem dX6_best_133 : decode cX6_best 133 = .ok (.goto (-41), 3) := by decide +kernel
theorem dX6_best_136 : decode cX6_best 136 = .ok (.iload 4, 2) := by decide +kernel
theorem dX6_best_138 : decode cX6_best 138 = .ok (.aload_n 0, 1) := by decide +kernel
theorem dX6_best_139 : decode cX6_best 139 = .ok (.getfield 25, 3) := by decide +kernel
theorem dX6_best_142 : decode cX6_best 142 = .ok (.iload_n 3, 1) := by decide +kernel
theorem dX6_best_143 : decode cX6_best 143 = .ok (.iaload, 1) := by decide +kernel
theorem dX6_best_144 : decode cX6_best 144 = .ok (.if_icmp .ge 32, 3) := by decide +kernel
theorem dX6_best_147 : decode cX6_best 147 = .ok (.aload_n 0, 1) := by decide +kernel
theorem dX6_best_148 : decode cX6_best 148 = .ok (.getfield 28, 3) := by decide +kernel
theorem dX6_best_151 : decode cX6_best 151 = .ok (.bipush 32, 2) := by decide +kernel
theorem dX6_best_153 : decode cX6_best 153 = .ok (.iload_n 3, 1) := by decide +kernel
theorem dX6_best_154 : decode cX6_best 154 = .ok (.imul, 1) := by decide +kernel
theorem dX6_best_155 : decode cX6_best 155 = .ok (.iload 4, 2) := by decide +kernel
theorem dX6_best_157 : decode cX6_best 157 = .ok (.iadd, 1) := by decide +kernel
theorem dX6_best_158 : decode cX6_best 158 = .ok (.baload, 1) := by decide +kernel
theorem dX6_best_159 : decode cX6_best 159 = .ok (.aload_n 0, 1) := by decide +kernel
theorem dX6_best_160 : decode cX6_best 160 = .ok (.getfield 28, 3) := by decide +kernel
theorem dX6_best_163 : decode cX6_best 163 = .ok (.bipush 32, 2) := by decide +kernel
theorem dX6_best_165 : decode cX6_best 165 = .ok (.iload_n 2, 1) := by decide +kernel
theorem dX6_best_166 : decode cX6_best 166 = .ok (.imul, 1) := by decide +kernel
theorem dX6_best_167 : decode cX6_best 167 = .ok (.iload 4, 2) := by decide +kernel
theorem dX6_best_169 : decode cX6_best 169 = .ok (.iadd, 1) := by decide +kernel
theorem dX6_best_170 : decode cX6_best 170 = .ok (.baload, 1) := by decide +kernel
theorem dX6_best_171 : decode cX6_best 171 = .ok (.if_icmp .ge 5, 3) := by decide +kernel
theorem dX6_best_174 : decode cX6_best 174 = .ok (.iload_n 3, 1) := by decide +kernel
theorem dX6_best_175 : decode cX6_best 175 = .ok (.istore_n 2, 1) := by decide +kernel
theorem dX6_best_176 : decode cX6_best 176 = .ok (.iinc 3 1, 3) := by decide +kernel
theorem dX6_best_179 : decode cX6_best 179 = .ok (.goto (-171), 3) := by decide +kernel
theorem dX6_best_182 : decode cX6_best 182 = .ok (.iload_n 2, 1) := by decide +kernel
theorem dX6_best_183 : decode cX6_best 183 = .ok (.ireturn, 1) := by decide +kernel
set_option maxRecDepth 20000 in
theorem ggX6_included_X6_best : GoodIn wsX6_included wsX6_best := goodIn_r _ [5, 6, 7, 8, 9, 10, 4, 11, 12, 13, 14, 15, 16, 17, 18, 19, 20, 21, 22, 23, 24, 25, 26, 27, 28, 29, 30, 31, 32, 33, 34, 35, 36, 37, 38, 39, 40, 41, 42, 43, 44, 45] (by decide +kernel) (by decide +kernel)
set_option maxRecDepth 20000 in
theorem gX6_included_X6_best : GoodIn wsX6_included (wsV RX6 78 RX6 yX6_best wsX6_best) := goodIn_app (goodIn_of _ (by decide +kernel)) ggX6_included_X6_best
theorem dX6_included_0 : decode cX6_included 0 = .ok (.aload_n 0, 1) := by decide +kernel
theorem dX6_included_1 : decode cX6_included 1 = .ok (.iconst 4, 1) := by decide +kernel
theorem dX6_included_2 : decode cX6_included 2 = .ok (.invokevirtual 78, 3) := by decide +kernel
theorem dX6_included_5 : decode cX6_included 5 = .ok (.ifCond .ge 7, 3) := by decide +kernel
theorem dX6_included_8 : decode cX6_included 8 = .ok (.iconst 1, 1) := by decide +kernel
theorem dX6_included_9 : decode cX6_included 9 = .ok (.goto 4, 3) := by decide +kernel
theorem dX6_included_12 : decode cX6_included 12 = .ok (.iconst 0, 1) := by decide +kernel
theorem dX6_included_13 : decode cX6_included 13 = .ok (.ireturn, 1) := by decide +kernel
set_option maxRecDepth 20000 in
theorem ggX6_least_X6_within : GoodIn wsX6_least wsX6_within := goodIn_r _ [5] (by decide +kernel) (by decide +kernel)
set_option maxRecDepth 20000 in
theorem gX6_least_X6_within : GoodIn wsX6_least (va_wsS RX6 41 yX6_within wsX6_within) := goodIn_app (goodIn_of _ (by decide +kernel)) ggX6_least_X6_within
set_option maxRecDepth 20000 in
theorem ggX6_least_X6_best : GoodIn wsX6_least wsX6_best := goodIn_r _ [9, 1, 10, 11, 12, 13, 4, 14, 15, 16, 17, 18, 19, 20, 21, 22, 23, 24, 25, 26, 27, 28, 29, 30, 31, 32, 33, 34, 35, 36, 37, 38, 39, 40, 41, 42, 43, 44, 45, 46, 47, 48] (by decide +kernel) (by decide +kernel)
set_option maxRecDepth 20000 in
theorem gX6_least_X6_best : GoodIn wsX6_least (wsV RX6 78 RX6 yX6_best wsX6_best) := goodIn_app (goodIn_of _ (by decide +kernel)) ggX6_least_X6_best
theorem dX6_least_0 : decode cX6_least 0 = .ok (.iload_n 1, 1) := by decide +kernel
theorem dX6_least_1 : decode cX6_least 1 = .ok (.iconst 0, 1) := by decide +kernel
theorem dX6_least_2 : decode cX6_least 2 = .ok (.bipush 15, 2) := by decide +kernel
theorem dX6_least_4 : decode cX6_least 4 = .ok (.invokestatic 41, 3) := by decide +kernel
theorem dX6_least_7 : decode cX6_least 7 = .ok (.ifCond .ne 5, 3) := by decide +kernel
theorem dX6_least_10 : decode cX6_least 10 = .ok (.iconst (-1), 1) := by decide +kernel
theorem dX6_least_11 : decode cX6_least 11 = .ok (.ireturn, 1) := by decide +kernel
theorem dX6_least_12 : decode cX6_least 12 = .ok (.aload_n 0, 1) := by decide +kernel
theorem dX6_least_13 : decode cX6_least 13 = .ok (.iload_n 1, 1) := by decide +kernel
theorem dX6_least_14 : decode cX6_least 14 = .ok (.invokevirtual 78, 3) := by decide +kernel
theorem dX6_least_17 : decode cX6_least 17 = .ok (.istore_n 2, 1) := by decide +kernel
theorem dX6_least_18 : decode cX6_least 18 = .ok (.iload_n 2, 1) := by decide +kernel
theorem dX6_least_19 : decode cX6_least 19 = .ok (.ifCond .ge 7, 3) := by decide +kernel
theorem dX6_least_22 : decode cX6_least 22 = .ok (.iconst 0, 1) := by decide +kernel
theorem dX6_least_23 : decode cX6_least 23 = .ok (.goto 9, 3) := by decide +kernel
theorem dX6_least_26 : decode cX6_least 26 = .ok (.aload_n 0, 1) := by decide +kernel
theorem dX6_least_27 : decode cX6_least 27 = .ok (.getfield 25, 3) := by decide +kernel
theorem dX6_least_30 : decode cX6_least 30 = .ok (.iload_n 2, 1) := by decide +kernel
theorem dX6_least_31 : decode cX6_least 31 = .ok (.iaload, 1) := by decide +kernel
theorem dX6_least_32 : decode cX6_least 32 = .ok (.ireturn, 1) := by decide +kernel
set_option maxRecDepth 20000 in
theorem ggX6_witness_X6_within : GoodIn wsX6_witness wsX6_within := goodIn_r _ [8] (by decide +kernel) (by decide +kernel)
set_option maxRecDepth 20000 in
theorem gX6_witness_X6_within : GoodIn wsX6_witness (va_wsS RX6 41 yX6_within wsX6_within) := goodIn_app (goodIn_of _ (by decide +kernel)) ggX6_witness_X6_within
set_option maxRecDepth 20000 in
theorem ggX6_witness_X6_best : GoodIn wsX6_witness wsX6_best := goodIn_r _ [12, 1, 3, 13, 14, 15, 7, 16, 17, 18, 19, 20, 21, 22, 23, 24, 25, 26, 27, 28, 29, 30, 31, 32, 33, 34, 35, 36, 37, 38, 39, 47, 48, 49, 50, 51, 52, 53, 54, 55, 56, 57] (by decide +kernel) (by decide +kernel)
set_option maxRecDepth 20000 in
theorem gX6_witness_X6_best : GoodIn wsX6_witness (wsV RX6 78 RX6 yX6_best wsX6_best) := goodIn_app (goodIn_of _ (by decide +kernel)) ggX6_witness_X6_best
set_option maxRecDepth 20000 in
theorem ggX6_witness_X6_children : GoodIn wsX6_witness wsX6_children := goodIn_r _ [20] (by decide +kernel) (by decide +kernel)
set_option maxRecDepth 20000 in
theorem gX6_witness_X6_children : GoodIn wsX6_witness (va_wsS RX6 45 yX6_children wsX6_children) := goodIn_app (goodIn_of _ (by decide +kernel)) ggX6_witness_X6_children
set_option maxRecDepth 20000 in
theorem ggX6_witness_X6_node : GoodIn wsX6_witness wsX6_node := goodIn_r _ [43, 2, 44, 45, 46, 5, 6, 7, 8, 18, 19, 20, 47, 48, 49, 50, 51, 52, 53, 54, 55, 56, 57] (by decide +kernel) (by decide +kernel)
set_option maxRecDepth 20000 in
theorem gX6_witness_X6_node : GoodIn wsX6_witness (wsV RX6 81 RX6 yX6_node wsX6_node) := goodIn_app (goodIn_of _ (by decide +kernel)) ggX6_witness_X6_node
theorem dX6_witness_0 : decode cX6_witness 0 = .ok (.iload_n 1, 1) := by decide +kernel
theorem dX6_witness_1 : decode cX6_witness 1 = .ok (.iconst 0, 1) := by decide +kernel
theorem dX6_witness_2 : decode cX6_witness 2 = .ok (.bipush 15, 2) := by decide +kernel
theorem dX6_witness_4 : decode cX6_witness 4 = .ok (.invokestatic 41, 3) := by decide +kernel
theorem dX6_witness_7 : decode cX6_witness 7 = .ok (.ifCond .ne 5, 3) := by decide +kernel
theorem dX6_witness_10 : decode cX6_witness 10 = .ok (.iconst (-1), 1) := by decide +kernel
theorem dX6_witness_11 : decode cX6_witness 11 = .ok (.ireturn, 1) := by decide +kernel
theorem dX6_witness_12 : decode cX6_witness 12 = .ok (.aload_n 0, 1) := by decide +kernel
theorem dX6_witness_13 : decode cX6_witness 13 = .ok (.iload_n 1, 1) := by decide +kernel
theorem dX6_witness_14 : decode cX6_witness 14 = .ok (.invokevirtual 78, 3) := by decide +kernel
theorem dX6_witness_17 : decode cX6_witness 17 = .ok (.istore_n 2, 1) := by decide +kernel
theorem dX6_witness_18 : decode cX6_witness 18 = .ok (.iload_n 2, 1) := by decide +kernel
theorem dX6_witness_19 : decode cX6_witness 19 = .ok (.ifCond .ge 6, 3) := by decide +kernel
theorem dX6_witness_22 : decode cX6_witness 22 = .ok (.bipush (-2), 2) := by decide +kernel
theorem dX6_witness_24 : decode cX6_witness 24 = .ok (.ireturn, 1) := by decide +kernel
theorem dX6_witness_25 : decode cX6_witness 25 = .ok (.aload_n 0, 1) := by decide +kernel
theorem dX6_witness_26 : decode cX6_witness 26 = .ok (.getfield 25, 3) := by decide +kernel
theorem dX6_witness_29 : decode cX6_witness 29 = .ok (.iload_n 2, 1) := by decide +kernel
theorem dX6_witness_30 : decode cX6_witness 30 = .ok (.iaload, 1) := by decide +kernel
theorem dX6_witness_31 : decode cX6_witness 31 = .ok (.bipush 33, 2) := by decide +kernel
theorem dX6_witness_33 : decode cX6_witness 33 = .ok (.if_icmp .ne 6, 3) := by decide +kernel
theorem dX6_witness_36 : decode cX6_witness 36 = .ok (.bipush (-3), 2) := by decide +kernel
theorem dX6_witness_38 : decode cX6_witness 38 = .ok (.ireturn, 1) := by decide +kernel
theorem dX6_witness_39 : decode cX6_witness 39 = .ok (.aload_n 0, 1) := by decide +kernel
theorem dX6_witness_40 : decode cX6_witness 40 = .ok (.getfield 53, 3) := by decide +kernel
theorem dX6_witness_43 : decode cX6_witness 43 = .ok (.aload_n 0, 1) := by decide +kernel
theorem dX6_witness_44 : decode cX6_witness 44 = .ok (.getfield 25, 3) := by decide +kernel
theorem dX6_witness_47 : decode cX6_witness 47 = .ok (.iload_n 2, 1) := by decide +kernel
theorem dX6_witness_48 : decode cX6_witness 48 = .ok (.iaload, 1) := by decide +kernel
theorem dX6_witness_49 : decode cX6_witness 49 = .ok (.iadd, 1) := by decide +kernel
theorem dX6_witness_50 : decode cX6_witness 50 = .ok (.sipush 200, 3) := by decide +kernel
theorem dX6_witness_53 : decode cX6_witness 53 = .ok (.if_icmp .le 6, 3) := by decide +kernel
theorem dX6_witness_56 : decode cX6_witness 56 = .ok (.bipush (-4), 2) := by decide +kernel
theorem dX6_witness_58 : decode cX6_witness 58 = .ok (.ireturn, 1) := by decide +kernel
theorem dX6_witness_59 : decode cX6_witness 59 = .ok (.iconst 0, 1) := by decide +kernel
theorem dX6_witness_60 : decode cX6_witness 60 = .ok (.istore_n 3, 1) := by decide +kernel
theorem dX6_witness_61 : decode cX6_witness 61 = .ok (.iconst 0, 1) := by decide +kernel
theorem dX6_witness_62 : decode cX6_witness 62 = .ok (.istore 4, 2) := by decide +kernel
theorem dX6_witness_64 : decode cX6_witness 64 = .ok (.aload_n 0, 1) := by decide +kernel
theorem dX6_witness_65 : decode cX6_witness 65 = .ok (.getfield 25, 3) := by decide +kernel
theorem dX6_witness_68 : decode cX6_witness 68 = .ok (.iload_n 2, 1) := by decide +kernel
theorem dX6_witness_69 : decode cX6_witness 69 = .ok (.iaload, 1) := by decide +kernel
theorem dX6_witness_70 : decode cX6_witness 70 = .ok (.iconst 1, 1) := by decide +kernel
theorem dX6_witness_71 : decode cX6_witness 71 = .ok (.isub, 1) := by decide +kernel
theorem dX6_witness_72 : decode cX6_witness 72 = .ok (.istore 5, 2) := by decide +kernel
theorem dX6_witness_74 : decode cX6_witness 74 = .ok (.iload 5, 2) := by decide +kernel
theorem dX6_witness_76 : decode cX6_witness 76 = .ok (.ifCond .lt 97, 3) := by decide +kernel
theorem dX6_witness_79 : decode cX6_witness 79 = .ok (.aload_n 0, 1) := by decide +kernel
theorem dX6_witness_80 : decode cX6_witness 80 = .ok (.getfield 28, 3) := by decide +kernel
theorem dX6_witness_83 : decode cX6_witness 83 = .ok (.bipush 32, 2) := by decide +kernel
theorem dX6_witness_85 : decode cX6_witness 85 = .ok (.iload_n 2, 1) := by decide +kernel
theorem dX6_witness_86 : decode cX6_witness 86 = .ok (.imul, 1) := by decide +kernel
theorem dX6_witness_87 : decode cX6_witness 87 = .ok (.iload 5, 2) := by decide +kernel
theorem dX6_witness_89 : decode cX6_witness 89 = .ok (.iadd, 1) := by decide +kernel
theorem dX6_witness_90 : decode cX6_witness 90 = .ok (.baload, 1) := by decide +kernel
theorem dX6_witness_91 : decode cX6_witness 91 = .ok (.istore 6, 2) := by decide +kernel
theorem dX6_witness_93 : decode cX6_witness 93 = .ok (.iload 6, 2) := by decide +kernel
theorem dX6_witness_95 : decode cX6_witness 95 = .ok (.invokestatic 45, 3) := by decide +kernel
theorem dX6_witness_98 : decode cX6_witness 98 = .ok (.istore 7, 2) := by decide +kernel
theorem dX6_witness_100 : decode cX6_witness 100 = .ok (.iload 7, 2) := by decide +kernel
theorem dX6_witness_102 : decode cX6_witness 102 = .ok (.ifCond .le 14, 3) := by decide +kernel
theorem dX6_witness_105 : decode cX6_witness 105 = .ok (.aload_n 0, 1) := by decide +kernel
theorem dX6_witness_106 : decode cX6_witness 106 = .ok (.getfield 38, 3) := by decide +kernel
theorem dX6_witness_109 : decode cX6_witness 109 = .ok (.iload_n 3, 1) := by decide +kernel
theorem dX6_witness_110 : decode cX6_witness 110 = .ok (.iconst 1, 1) := by decide +kernel
theorem dX6_witness_111 : decode cX6_witness 111 = .ok (.isub, 1) := by decide +kernel
theorem dX6_witness_112 : decode cX6_witness 112 = .ok (.iaload, 1) := by decide +kernel
theorem dX6_witness_113 : decode cX6_witness 113 = .ok (.goto 4, 3) := by decide +kernel
theorem dX6_witness_116 : decode cX6_witness 116 = .ok (.iconst 0, 1) := by decide +kernel
theorem dX6_witness_117 : decode cX6_witness 117 = .ok (.istore 8, 2) := by decide +kernel
theorem dX6_witness_119 : decode cX6_witness 119 = .ok (.iload 7, 2) := by decide +kernel
theorem dX6_witness_121 : decode cX6_witness 121 = .ok (.iconst 1, 1) := by decide +kernel
theorem dX6_witness_122 : decode cX6_witness 122 = .ok (.if_icmp .le 14, 3) := by decide +kernel
theorem dX6_witness_125 : decode cX6_witness 125 = .ok (.aload_n 0, 1) := by decide +kernel
theorem dX6_witness_126 : decode cX6_witness 126 = .ok (.getfield 38, 3) := by decide +kernel
theorem dX6_witness_129 : decode cX6_witness 129 = .ok (.iload_n 3, 1) := by decide +kernel
theorem dX6_witness_130 : decode cX6_witness 130 = .ok (.iconst 2, 1) := by decide +kernel
theorem dX6_witness_131 : decode cX6_witness 131 = .ok (.isub, 1) := by decide +kernel
theorem dX6_witness_132 : decode cX6_witness 132 = .ok (.iaload, 1) := by decide +kernel
theorem dX6_witness_133 : decode cX6_witness 133 = .ok (.goto 4, 3) := by decide +kernel
theorem dX6_witness_136 : decode cX6_witness 136 = .ok (.iconst 0, 1) := by decide +kernel
theorem dX6_witness_137 : decode cX6_witness 137 = .ok (.istore 9, 2) := by decide +kernel
theorem dX6_witness_139 : decode cX6_witness 139 = .ok (.iload_n 3, 1) := by decide +kernel
theorem dX6_witness_140 : decode cX6_witness 140 = .ok (.iload 7, 2) := by decide +kernel
theorem dX6_witness_142 : decode cX6_witness 142 = .ok (.isub, 1) := by decide +kernel
theorem dX6_witness_143 : decode cX6_witness 143 = .ok (.istore_n 3, 1) := by decide +kernel
theorem dX6_witness_144 : decode cX6_witness 144 = .ok (.aload_n 0, 1) := by decide +kernel
theorem dX6_witness_145 : decode cX6_witness 145 = .ok (.iload 6, 2) := by decide +kernel
theorem dX6_witness_147 : decode cX6_witness 147 = .ok (.iload 8, 2) := by decide +kernel
theorem dX6_witness_149 : decode cX6_witness 149 = .ok (.iload 9, 2) := by decide +kernel
theorem dX6_witness_151 : decode cX6_witness 151 = .ok (.invokevirtual 81, 3) := by decide +kernel
theorem dX6_witness_154 : decode cX6_witness 154 = .ok (.istore 4, 2) := by decide +kernel
theorem dX6_witness_156 : decode cX6_witness 156 = .ok (.aload_n 0, 1) := by decide +kernel
theorem dX6_witness_157 : decode cX6_witness 157 = .ok (.getfield 38, 3) := by decide +kernel
theorem dX6_witness_160 : decode cX6_witness 160 = .ok (.iload_n 3, 1) := by decide +kernel
theorem dX6_witness_161 : decode cX6_witness 161 = .ok (.iload 4, 2) := by decide +kernel
theorem dX6_witness_163 : decode cX6_witness 163 = .ok (.iastore, 1) := by decide +kernel
theorem dX6_witness_164 : decode cX6_witness 164 = .ok (.iinc 3 1, 3) := by decide +kernel
theorem dX6_witness_167 : decode cX6_witness 167 = .ok (.iinc 5 (-1), 3) := by decide +kernel
theorem dX6_witness_170 : decode cX6_witness 170 = .ok (.goto (-96), 3) := by decide +kernel
theorem dX6_witness_173 : decode cX6_witness 173 = .ok (.iload 4, 2) := by decide +kernel
theorem dX6_witness_175 : decode cX6_witness 175 = .ok (.ireturn, 1) := by decide +kernel
set_option maxRecDepth 20000 in
theorem ggX6_terms_X6_within : GoodIn wsX6_terms wsX6_within := goodIn_r _ [5] (by decide +kernel) (by decide +kernel)
set_option maxRecDepth 20000 in
theorem gX6_terms_X6_within : GoodIn wsX6_terms (va_wsS RX6 41 yX6_within wsX6_within) := goodIn_app (goodIn_of _ (by decide +kernel)) ggX6_terms_X6_within
set_option maxRecDepth 20000 in
theorem ggX6_terms_X6_children : GoodIn wsX6_terms wsX6_children := goodIn_r _ [8] (by decide +kernel) (by decide +kernel)
set_option maxRecDepth 20000 in
theorem gX6_terms_X6_children : GoodIn wsX6_terms (va_wsS RX6 45 yX6_children wsX6_children) := goodIn_app (goodIn_of _ (by decide +kernel)) ggX6_terms_X6_children
set_option maxRecDepth 20000 in
theorem ggX6_terms_X6_profile : GoodIn wsX6_terms wsX6_profile := goodIn_r _ [12, 13, 14, 15, 4, 16, 17, 27, 28, 29, 30, 31, 32, 33, 34, 35, 36, 37] (by decide +kernel) (by decide +kernel)
set_option maxRecDepth 20000 in
theorem gX6_terms_X6_profile : GoodIn wsX6_terms (wsV RX6 67 RX6 yX6_profile wsX6_profile) := goodIn_app (goodIn_of _ (by decide +kernel)) ggX6_terms_X6_profile
set_option maxRecDepth 20000 in
theorem ggX6_terms_X6_pairs : GoodIn wsX6_terms wsX6_pairs := goodIn_r _ [21, 1, 9, 10, 11, 4, 12, 13, 14, 15, 16, 17, 27, 28, 29, 30, 31, 32, 33, 34, 35, 36, 37] (by decide +kernel) (by decide +kernel)
set_option maxRecDepth 20000 in
theorem gX6_terms_X6_pairs : GoodIn wsX6_terms (wsV RX6 84 RX6 yX6_pairs wsX6_pairs) := goodIn_app (goodIn_of _ (by decide +kernel)) ggX6_terms_X6_pairs
set_option maxRecDepth 20000 in
theorem ggX6_terms_X6_placeOf : GoodIn wsX6_terms wsX6_placeOf := goodIn_r _ [25, 26, 27, 28, 29, 30, 31, 32, 33, 34, 35, 36, 37] (by decide +kernel) (by decide +kernel)
set_option maxRecDepth 20000 in
theorem gX6_terms_X6_placeOf : GoodIn wsX6_terms (wsV RX6 64 RX6 yX6_placeOf wsX6_placeOf) := goodIn_app (goodIn_of _ (by decide +kernel)) ggX6_terms_X6_placeOf
theorem dX6_terms_0 : decode cX6_terms 0 = .ok (.iload_n 1, 1) := by decide +kernel
theorem dX6_terms_1 : decode cX6_terms 1 = .ok (.iconst 0, 1) := by decide +kernel
theorem dX6_terms_2 : decode cX6_terms 2 = .ok (.bipush 15, 2) := by decide +kernel
theorem dX6_terms_4 : decode cX6_terms 4 = .ok (.invokestatic 41, 3) := by decide +kernel
theorem dX6_terms_7 : decode cX6_terms 7 = .ok (.ifCond .eq 13, 3) := by decide +kernel
theorem dX6_terms_10 : decode cX6_terms 10 = .ok (.iload_n 2, 1) := by decide +kernel
theorem dX6_terms_11 : decode cX6_terms 11 = .ok (.iconst 1, 1) := by decide +kernel
theorem dX6_terms_12 : decode cX6_terms 12 = .ok (.bipush 12, 2) := by decide +kernel
theorem dX6_terms_14 : decode cX6_terms 14 = .ok (.invokestatic 41, 3) := by decide +kernel
theorem dX6_terms_17 : decode cX6_terms 17 = .ok (.ifCond .ne 5, 3) := by decide +kernel
theorem dX6_terms_20 : decode cX6_terms 20 = .ok (.iconst (-1), 1) := by decide +kernel
theorem dX6_terms_21 : decode cX6_terms 21 = .ok (.ireturn, 1) := by decide +kernel
theorem dX6_terms_22 : decode cX6_terms 22 = .ok (.iconst 0, 1) := by decide +kernel
theorem dX6_terms_23 : decode cX6_terms 23 = .ok (.istore_n 3, 1) := by decide +kernel
theorem dX6_terms_24 : decode cX6_terms 24 = .ok (.iload_n 3, 1) := by decide +kernel
theorem dX6_terms_25 : decode cX6_terms 25 = .ok (.sipush 3328, 3) := by decide +kernel
theorem dX6_terms_28 : decode cX6_terms 28 = .ok (.if_icmp .ge 16, 3) := by decide +kernel
theorem dX6_terms_31 : decode cX6_terms 31 = .ok (.aload_n 0, 1) := by decide +kernel
theorem dX6_terms_32 : decode cX6_terms 32 = .ok (.getfield 35, 3) := by decide +kernel
theorem dX6_terms_35 : decode cX6_terms 35 = .ok (.iload_n 3, 1) := by decide +kernel
theorem dX6_terms_36 : decode cX6_terms 36 = .ok (.iconst 0, 1) := by decide +kernel
theorem dX6_terms_37 : decode cX6_terms 37 = .ok (.iastore, 1) := by decide +kernel
theorem dX6_terms_38 : decode cX6_terms 38 = .ok (.iinc 3 1, 3) := by decide +kernel
theorem dX6_terms_41 : decode cX6_terms 41 = .ok (.goto (-17), 3) := by decide +kernel
theorem dX6_terms_44 : decode cX6_terms 44 = .ok (.iconst 1, 1) := by decide +kernel
theorem dX6_terms_45 : decode cX6_terms 45 = .ok (.istore_n 3, 1) := by decide +kernel
theorem dX6_terms_46 : decode cX6_terms 46 = .ok (.iload_n 3, 1) := by decide +kernel
theorem dX6_terms_47 : decode cX6_terms 47 = .ok (.iload_n 2, 1) := by decide +kernel
theorem dX6_terms_48 : decode cX6_terms 48 = .ok (.if_icmp .gt 181, 3) := by decide +kernel
theorem dX6_terms_51 : decode cX6_terms 51 = .ok (.iconst 0, 1) := by decide +kernel
theorem dX6_terms_52 : decode cX6_terms 52 = .ok (.istore 4, 2) := by decide +kernel
theorem dX6_terms_54 : decode cX6_terms 54 = .ok (.iload 4, 2) := by decide +kernel
theorem dX6_terms_56 : decode cX6_terms 56 = .ok (.bipush 8, 2) := by decide +kernel
theorem dX6_terms_58 : decode cX6_terms 58 = .ok (.if_icmp .ge 165, 3) := by decide +kernel
theorem dX6_terms_61 : decode cX6_terms 61 = .ok (.iload 4, 2) := by decide +kernel
theorem dX6_terms_63 : decode cX6_terms 63 = .ok (.invokestatic 45, 3) := by decide +kernel
theorem dX6_terms_66 : decode cX6_terms 66 = .ok (.istore 5, 2) := by decide +kernel
theorem dX6_terms_68 : decode cX6_terms 68 = .ok (.iload 5, 2) := by decide +kernel
theorem dX6_terms_70 : decode cX6_terms 70 = .ok (.ifCond .ne 32, 3) := by decide +kernel
theorem dX6_terms_73 : decode cX6_terms 73 = .ok (.iload_n 3, 1) := by decide +kernel
theorem dX6_terms_74 : decode cX6_terms 74 = .ok (.iconst 1, 1) := by decide +kernel
theorem dX6_terms_75 : decode cX6_terms 75 = .ok (.if_icmp .ne 27, 3) := by decide +kernel
theorem dX6_terms_78 : decode cX6_terms 78 = .ok (.aload_n 0, 1) := by decide +kernel
theorem dX6_terms_79 : decode cX6_terms 79 = .ok (.getfield 35, 3) := by decide +kernel
theorem dX6_terms_82 : decode cX6_terms 82 = .ok (.bipush 13, 2) := by decide +kernel
theorem dX6_terms_84 : decode cX6_terms 84 = .ok (.aload_n 0, 1) := by decide +kernel
theorem dX6_terms_85 : decode cX6_terms 85 = .ok (.iload 4, 2) := by decide +kernel
theorem dX6_terms_87 : decode cX6_terms 87 = .ok (.bipush 17, 2) := by decide +kernel
theorem dX6_terms_89 : decode cX6_terms 89 = .ok (.bipush 17, 2) := by decide +kernel
theorem dX6_terms_91 : decode cX6_terms 91 = .ok (.invokevirtual 67, 3) := by decide +kernel
theorem dX6_terms_94 : decode cX6_terms 94 = .ok (.imul, 1) := by decide +kernel
theorem dX6_terms_95 : decode cX6_terms 95 = .ok (.iconst 1, 1) := by decide +kernel
theorem dX6_terms_96 : decode cX6_terms 96 = .ok (.iadd, 1) := by decide +kernel
theorem dX6_terms_97 : decode cX6_terms 97 = .ok (.dup2, 1) := by decide +kernel
theorem dX6_terms_98 : decode cX6_terms 98 = .ok (.iaload, 1) := by decide +kernel
theorem dX6_terms_99 : decode cX6_terms 99 = .ok (.iconst 1, 1) := by decide +kernel
theorem dX6_terms_100 : decode cX6_terms 100 = .ok (.iadd, 1) := by decide +kernel
theorem dX6_terms_101 : decode cX6_terms 101 = .ok (.iastore, 1) := by decide +kernel
theorem dX6_terms_102 : decode cX6_terms 102 = .ok (.iconst 0, 1) := by decide +kernel
theorem dX6_terms_103 : decode cX6_terms 103 = .ok (.istore 6, 2) := by decide +kernel
theorem dX6_terms_105 : decode cX6_terms 105 = .ok (.iload 6, 2) := by decide +kernel
theorem dX6_terms_107 : decode cX6_terms 107 = .ok (.sipush 256, 3) := by decide +kernel
theorem dX6_terms_110 : decode cX6_terms 110 = .ok (.if_icmp .ge 107, 3) := by decide +kernel
theorem dX6_terms_113 : decode cX6_terms 113 = .ok (.iload 5, 2) := by decide +kernel
theorem dX6_terms_115 : decode cX6_terms 115 = .ok (.ifCond .le 102, 3) := by decide +kernel
theorem dX6_terms_118 : decode cX6_terms 118 = .ok (.iload 5, 2) := by decide +kernel
theorem dX6_terms_120 : decode cX6_terms 120 = .ok (.iconst 1, 1) := by decide +kernel
theorem dX6_terms_121 : decode cX6_terms 121 = .ok (.if_icmp .ne 40, 3) := by decide +kernel
theorem dX6_terms_124 : decode cX6_terms 124 = .ok (.aload_n 0, 1) := by decide +kernel
theorem dX6_terms_125 : decode cX6_terms 125 = .ok (.getfield 35, 3) := by decide +kernel
theorem dX6_terms_128 : decode cX6_terms 128 = .ok (.bipush 13, 2) := by decide +kernel
theorem dX6_terms_130 : decode cX6_terms 130 = .ok (.aload_n 0, 1) := by decide +kernel
theorem dX6_terms_131 : decode cX6_terms 131 = .ok (.iload 4, 2) := by decide +kernel
theorem dX6_terms_133 : decode cX6_terms 133 = .ok (.iload 6, 2) := by decide +kernel
theorem dX6_terms_135 : decode cX6_terms 135 = .ok (.bipush 17, 2) := by decide +kernel
theorem dX6_terms_137 : decode cX6_terms 137 = .ok (.invokevirtual 67, 3) := by decide +kernel
theorem dX6_terms_140 : decode cX6_terms 140 = .ok (.imul, 1) := by decide +kernel
theorem dX6_terms_141 : decode cX6_terms 141 = .ok (.iload_n 3, 1) := by decide +kernel
theorem dX6_terms_142 : decode cX6_terms 142 = .ok (.iadd, 1) := by decide +kernel
theorem dX6_terms_143 : decode cX6_terms 143 = .ok (.dup2, 1) := by decide +kernel
theorem dX6_terms_144 : decode cX6_terms 144 = .ok (.iaload, 1) := by decide +kernel
theorem dX6_terms_145 : decode cX6_terms 145 = .ok (.aload_n 0, 1) := by decide +kernel
theorem dX6_terms_146 : decode cX6_terms 146 = .ok (.getfield 35, 3) := by decide +kernel
theorem dX6_terms_149 : decode cX6_terms 149 = .ok (.bipush 13, 2) := by decide +kernel
theorem dX6_terms_151 : decode cX6_terms 151 = .ok (.iload 6, 2) := by decide +kernel
theorem dX6_terms_153 : decode cX6_terms 153 = .ok (.imul, 1) := by decide +kernel
theorem dX6_terms_154 : decode cX6_terms 154 = .ok (.iload_n 3, 1) := by decide +kernel
theorem dX6_terms_155 : decode cX6_terms 155 = .ok (.iadd, 1) := by decide +kernel
theorem dX6_terms_156 : decode cX6_terms 156 = .ok (.iconst 1, 1) := by decide +kernel
theorem dX6_terms_157 : decode cX6_terms 157 = .ok (.isub, 1) := by decide +kernel
theorem dX6_terms_158 : decode cX6_terms 158 = .ok (.iaload, 1) := by decide +kernel
theorem dX6_terms_159 : decode cX6_terms 159 = .ok (.iadd, 1) := by decide +kernel
theorem dX6_terms_160 : decode cX6_terms 160 = .ok (.iastore, 1) := by decide +kernel
theorem dX6_terms_161 : decode cX6_terms 161 = .ok (.iconst 1, 1) := by decide +kernel
theorem dX6_terms_162 : decode cX6_terms 162 = .ok (.istore 7, 2) := by decide +kernel
theorem dX6_terms_164 : decode cX6_terms 164 = .ok (.iload 7, 2) := by decide +kernel
theorem dX6_terms_166 : decode cX6_terms 166 = .ok (.iload_n 3, 1) := by decide +kernel
theorem dX6_terms_167 : decode cX6_terms 167 = .ok (.iconst 1, 1) := by decide +kernel
theorem dX6_terms_168 : decode cX6_terms 168 = .ok (.isub, 1) := by decide +kernel
theorem dX6_terms_169 : decode cX6_terms 169 = .ok (.if_icmp .ge 42, 3) := by decide +kernel
theorem dX6_terms_172 : decode cX6_terms 172 = .ok (.iload 5, 2) := by decide +kernel
theorem dX6_terms_174 : decode cX6_terms 174 = .ok (.iconst 2, 1) := by decide +kernel
theorem dX6_terms_175 : decode cX6_terms 175 = .ok (.if_icmp .ne 36, 3) := by decide +kernel
theorem dX6_terms_178 : decode cX6_terms 178 = .ok (.aload_n 0, 1) := by decide +kernel
theorem dX6_terms_179 : decode cX6_terms 179 = .ok (.getfield 35, 3) := by decide +kernel
theorem dX6_terms_182 : decode cX6_terms 182 = .ok (.bipush 13, 2) := by decide +kernel
theorem dX6_terms_184 : decode cX6_terms 184 = .ok (.iload 6, 2) := by decide +kernel
theorem dX6_terms_186 : decode cX6_terms 186 = .ok (.imul, 1) := by decide +kernel
theorem dX6_terms_187 : decode cX6_terms 187 = .ok (.iload 7, 2) := by decide +kernel
theorem dX6_terms_189 : decode cX6_terms 189 = .ok (.iadd, 1) := by decide +kernel
theorem dX6_terms_190 : decode cX6_terms 190 = .ok (.iaload, 1) := by decide +kernel
theorem dX6_terms_191 : decode cX6_terms 191 = .ok (.ifCond .eq 14, 3) := by decide +kernel
theorem dX6_terms_194 : decode cX6_terms 194 = .ok (.aload_n 0, 1) := by decide +kernel
theorem dX6_terms_195 : decode cX6_terms 195 = .ok (.iload 4, 2) := by decide +kernel
theorem dX6_terms_197 : decode cX6_terms 197 = .ok (.iload 6, 2) := by decide +kernel
theorem dX6_terms_199 : decode cX6_terms 199 = .ok (.iload 7, 2) := by decide +kernel
theorem dX6_terms_201 : decode cX6_terms 201 = .ok (.iload_n 3, 1) := by decide +kernel
theorem dX6_terms_202 : decode cX6_terms 202 = .ok (.invokevirtual 84, 3) := by decide +kernel
theorem dX6_terms_205 : decode cX6_terms 205 = .ok (.iinc 7 1, 3) := by decide +kernel
theorem dX6_terms_208 : decode cX6_terms 208 = .ok (.goto (-44), 3) := by decide +kernel
theorem dX6_terms_211 : decode cX6_terms 211 = .ok (.iinc 6 1, 3) := by decide +kernel
theorem dX6_terms_214 : decode cX6_terms 214 = .ok (.goto (-109), 3) := by decide +kernel
theorem dX6_terms_217 : decode cX6_terms 217 = .ok (.iinc 4 1, 3) := by decide +kernel
theorem dX6_terms_220 : decode cX6_terms 220 = .ok (.goto (-166), 3) := by decide +kernel
theorem dX6_terms_223 : decode cX6_terms 223 = .ok (.iinc 3 1, 3) := by decide +kernel
theorem dX6_terms_226 : decode cX6_terms 226 = .ok (.goto (-180), 3) := by decide +kernel
theorem dX6_terms_229 : decode cX6_terms 229 = .ok (.iconst 0, 1) := by decide +kernel
theorem dX6_terms_230 : decode cX6_terms 230 = .ok (.istore_n 3, 1) := by decide +kernel
theorem dX6_terms_231 : decode cX6_terms 231 = .ok (.iconst 0, 1) := by decide +kernel
theorem dX6_terms_232 : decode cX6_terms 232 = .ok (.istore 4, 2) := by decide +kernel
theorem dX6_terms_234 : decode cX6_terms 234 = .ok (.iload 4, 2) := by decide +kernel
theorem dX6_terms_236 : decode cX6_terms 236 = .ok (.sipush 256, 3) := by decide +kernel
theorem dX6_terms_239 : decode cX6_terms 239 = .ok (.if_icmp .ge 38, 3) := by decide +kernel
theorem dX6_terms_242 : decode cX6_terms 242 = .ok (.iload_n 1, 1) := by decide +kernel
theorem dX6_terms_243 : decode cX6_terms 243 = .ok (.aload_n 0, 1) := by decide +kernel
theorem dX6_terms_244 : decode cX6_terms 244 = .ok (.iload 4, 2) := by decide +kernel
theorem dX6_terms_246 : decode cX6_terms 246 = .ok (.invokevirtual 64, 3) := by decide +kernel
theorem dX6_terms_249 : decode cX6_terms 249 = .ok (.ishr, 1) := by decide +kernel
theorem dX6_terms_250 : decode cX6_terms 250 = .ok (.iconst 1, 1) := by decide +kernel
theorem dX6_terms_251 : decode cX6_terms 251 = .ok (.iand, 1) := by decide +kernel
theorem dX6_terms_252 : decode cX6_terms 252 = .ok (.iconst 1, 1) := by decide +kernel
theorem dX6_terms_253 : decode cX6_terms 253 = .ok (.if_icmp .ne 18, 3) := by decide +kernel
theorem dX6_terms_256 : decode cX6_terms 256 = .ok (.iload_n 3, 1) := by decide +kernel
theorem dX6_terms_257 : decode cX6_terms 257 = .ok (.aload_n 0, 1) := by decide +kernel
theorem dX6_terms_258 : decode cX6_terms 258 = .ok (.getfield 35, 3) := by decide +kernel
theorem dX6_terms_261 : decode cX6_terms 261 = .ok (.bipush 13, 2) := by decide +kernel
theorem dX6_terms_263 : decode cX6_terms 263 = .ok (.iload 4, 2) := by decide +kernel
theorem dX6_terms_265 : decode cX6_terms 265 = .ok (.imul, 1) := by decide +kernel
theorem dX6_terms_266 : decode cX6_terms 266 = .ok (.iload_n 2, 1) := by decide +kernel
theorem dX6_terms_267 : decode cX6_terms 267 = .ok (.iadd, 1) := by decide +kernel
theorem dX6_terms_268 : decode cX6_terms 268 = .ok (.iaload, 1) := by decide +kernel
theorem dX6_terms_269 : decode cX6_terms 269 = .ok (.iadd, 1) := by decide +kernel
theorem dX6_terms_270 : decode cX6_terms 270 = .ok (.istore_n 3, 1) := by decide +kernel
theorem dX6_terms_271 : decode cX6_terms 271 = .ok (.iinc 4 1, 3) := by decide +kernel
theorem dX6_terms_274 : decode cX6_terms 274 = .ok (.goto (-40), 3) := by decide +kernel
theorem dX6_terms_277 : decode cX6_terms 277 = .ok (.iload_n 3, 1) := by decide +kernel
theorem dX6_terms_278 : decode cX6_terms 278 = .ok (.ireturn, 1) := by decide +kernel
set_option maxRecDepth 20000 in
theorem ggX6_pairs_X6_profile : GoodIn wsX6_pairs wsX6_profile := goodIn_r _ [6, 7, 8, 9, 5, 10, 11, 12, 13, 14, 15, 16, 17, 18, 19, 20, 21, 22] (by decide +kernel) (by decide +kernel)
set_option maxRecDepth 20000 in
theorem gX6_pairs_X6_profile : GoodIn wsX6_pairs (wsV RX6 67 RX6 yX6_profile wsX6_profile) := goodIn_app (goodIn_of _ (by decide +kernel)) ggX6_pairs_X6_profile
theorem dX6_pairs_0 : decode cX6_pairs 0 = .ok (.iconst 0, 1) := by decide +kernel
theorem dX6_pairs_1 : decode cX6_pairs 1 = .ok (.istore 5, 2) := by decide +kernel
theorem dX6_pairs_3 : decode cX6_pairs 3 = .ok (.iload 5, 2) := by decide +kernel
theorem dX6_pairs_5 : decode cX6_pairs 5 = .ok (.sipush 256, 3) := by decide +kernel
theorem dX6_pairs_8 : decode cX6_pairs 8 = .ok (.if_icmp .ge 69, 3) := by decide +kernel
theorem dX6_pairs_11 : decode cX6_pairs 11 = .ok (.aload_n 0, 1) := by decide +kernel
theorem dX6_pairs_12 : decode cX6_pairs 12 = .ok (.getfield 35, 3) := by decide +kernel
theorem dX6_pairs_15 : decode cX6_pairs 15 = .ok (.bipush 13, 2) := by decide +kernel
theorem dX6_pairs_17 : decode cX6_pairs 17 = .ok (.iload 5, 2) := by decide +kernel
theorem dX6_pairs_19 : decode cX6_pairs 19 = .ok (.imul, 1) := by decide +kernel
theorem dX6_pairs_20 : decode cX6_pairs 20 = .ok (.iload 4, 2) := by decide +kernel
theorem dX6_pairs_22 : decode cX6_pairs 22 = .ok (.iadd, 1) := by decide +kernel
theorem dX6_pairs_23 : decode cX6_pairs 23 = .ok (.iconst 1, 1) := by decide +kernel
theorem dX6_pairs_24 : decode cX6_pairs 24 = .ok (.isub, 1) := by decide +kernel
theorem dX6_pairs_25 : decode cX6_pairs 25 = .ok (.iload_n 3, 1) := by decide +kernel
theorem dX6_pairs_26 : decode cX6_pairs 26 = .ok (.isub, 1) := by decide +kernel
theorem dX6_pairs_27 : decode cX6_pairs 27 = .ok (.iaload, 1) := by decide +kernel
theorem dX6_pairs_28 : decode cX6_pairs 28 = .ok (.istore 6, 2) := by decide +kernel
theorem dX6_pairs_30 : decode cX6_pairs 30 = .ok (.iload 6, 2) := by decide +kernel
theorem dX6_pairs_32 : decode cX6_pairs 32 = .ok (.ifCond .eq 39, 3) := by decide +kernel
theorem dX6_pairs_35 : decode cX6_pairs 35 = .ok (.aload_n 0, 1) := by decide +kernel
theorem dX6_pairs_36 : decode cX6_pairs 36 = .ok (.getfield 35, 3) := by decide +kernel
theorem dX6_pairs_39 : decode cX6_pairs 39 = .ok (.bipush 13, 2) := by decide +kernel
theorem dX6_pairs_41 : decode cX6_pairs 41 = .ok (.aload_n 0, 1) := by decide +kernel
theorem dX6_pairs_42 : decode cX6_pairs 42 = .ok (.iload_n 1, 1) := by decide +kernel
theorem dX6_pairs_43 : decode cX6_pairs 43 = .ok (.iload_n 2, 1) := by decide +kernel
theorem dX6_pairs_44 : decode cX6_pairs 44 = .ok (.iload 5, 2) := by decide +kernel
theorem dX6_pairs_46 : decode cX6_pairs 46 = .ok (.invokevirtual 67, 3) := by decide +kernel
theorem dX6_pairs_49 : decode cX6_pairs 49 = .ok (.imul, 1) := by decide +kernel
theorem dX6_pairs_50 : decode cX6_pairs 50 = .ok (.iload 4, 2) := by decide +kernel
theorem dX6_pairs_52 : decode cX6_pairs 52 = .ok (.iadd, 1) := by decide +kernel
theorem dX6_pairs_53 : decode cX6_pairs 53 = .ok (.dup2, 1) := by decide +kernel
theorem dX6_pairs_54 : decode cX6_pairs 54 = .ok (.iaload, 1) := by decide +kernel
theorem dX6_pairs_55 : decode cX6_pairs 55 = .ok (.aload_n 0, 1) := by decide +kernel
theorem dX6_pairs_56 : decode cX6_pairs 56 = .ok (.getfield 35, 3) := by decide +kernel
theorem dX6_pairs_59 : decode cX6_pairs 59 = .ok (.bipush 13, 2) := by decide +kernel
theorem dX6_pairs_61 : decode cX6_pairs 61 = .ok (.iload_n 2, 1) := by decide +kernel
theorem dX6_pairs_62 : decode cX6_pairs 62 = .ok (.imul, 1) := by decide +kernel
theorem dX6_pairs_63 : decode cX6_pairs 63 = .ok (.iload_n 3, 1) := by decide +kernel
theorem dX6_pairs_64 : decode cX6_pairs 64 = .ok (.iadd, 1) := by decide +kernel
theorem dX6_pairs_65 : decode cX6_pairs 65 = .ok (.iaload, 1) := by decide +kernel
theorem dX6_pairs_66 : decode cX6_pairs 66 = .ok (.iload 6, 2) := by decide +kernel
theorem dX6_pairs_68 : decode cX6_pairs 68 = .ok (.imul, 1) := by decide +kernel
theorem dX6_pairs_69 : decode cX6_pairs 69 = .ok (.iadd, 1) := by decide +kernel
theorem dX6_pairs_70 : decode cX6_pairs 70 = .ok (.iastore, 1) := by decide +kernel
theorem dX6_pairs_71 : decode cX6_pairs 71 = .ok (.iinc 5 1, 3) := by decide +kernel
theorem dX6_pairs_74 : decode cX6_pairs 74 = .ok (.goto (-71), 3) := by decide +kernel
theorem dX6_pairs_77 : decode cX6_pairs 77 = .ok (.return_, 1) := by decide +kernel
end
section
theorem dJ9_min_7cf53_0 : decode cJ9_min_7cf53 0 = .ok (.iload_n 0, 1) := by decide +kernel
theorem dJ9_min_7cf53_1 : decode cJ9_min_7cf53 1 = .ok (.iload_n 1, 1) := by decide +kernel
theorem dJ9_min_7cf53_2 : decode cJ9_min_7cf53 2 = .ok (.if_icmp .gt 7, 3) := by decide +kernel
theorem dJ9_min_7cf53_5 : decode cJ9_min_7cf53 5 = .ok (.iload_n 0, 1) := by decide +kernel
theorem dJ9_min_7cf53_6 : decode cJ9_min_7cf53 6 = .ok (.goto 4, 3) := by decide +kernel
theorem dJ9_min_7cf53_9 : decode cJ9_min_7cf53 9 = .ok (.iload_n 1, 1) := by decide +kernel
theorem dJ9_min_7cf53_10 : decode cJ9_min_7cf53 10 = .ok (.ireturn, 1) := by decide +kernel
theorem dJ7_fill_53178_0 : decode cJ7_fill_53178 0 = .ok (.iconst 0, 1) := by decide +kernel
theorem dJ7_fill_53178_1 : decode cJ7_fill_53178 1 = .ok (.istore_n 2, 1) := by decide +kernel
theorem dJ7_fill_53178_2 : decode cJ7_fill_53178 2 = .ok (.aload_n 0, 1) := by decide +kernel
theorem dJ7_fill_53178_3 : decode cJ7_fill_53178 3 = .ok (.arraylength, 1) := by decide +kernel
theorem dJ7_fill_53178_4 : decode cJ7_fill_53178 4 = .ok (.istore_n 3, 1) := by decide +kernel
theorem dJ7_fill_53178_5 : decode cJ7_fill_53178 5 = .ok (.iload_n 2, 1) := by decide +kernel
theorem dJ7_fill_53178_6 : decode cJ7_fill_53178 6 = .ok (.iload_n 3, 1) := by decide +kernel
theorem dJ7_fill_53178_7 : decode cJ7_fill_53178 7 = .ok (.if_icmp .ge 13, 3) := by decide +kernel
theorem dJ7_fill_53178_10 : decode cJ7_fill_53178 10 = .ok (.aload_n 0, 1) := by decide +kernel
theorem dJ7_fill_53178_11 : decode cJ7_fill_53178 11 = .ok (.iload_n 2, 1) := by decide +kernel
theorem dJ7_fill_53178_12 : decode cJ7_fill_53178 12 = .ok (.iload_n 1, 1) := by decide +kernel
theorem dJ7_fill_53178_13 : decode cJ7_fill_53178 13 = .ok (.iastore, 1) := by decide +kernel
theorem dJ7_fill_53178_14 : decode cJ7_fill_53178 14 = .ok (.iinc 2 1, 3) := by decide +kernel
theorem dJ7_fill_53178_17 : decode cJ7_fill_53178 17 = .ok (.goto (-12), 3) := by decide +kernel
theorem dJ7_fill_53178_20 : decode cJ7_fill_53178 20 = .ok (.return_, 1) := by decide +kernel
end
section
/-! my base: the nest's links, what every contract takes along, calls in one row -/
def tm_nx (U : State) : Prop :=
  va_Nw (.methodLinkNest RX5 11 yX4_init "TreeMachines") U ∧ va_Nw (.methodLinkNest RX5 18 yX1_init "TreeMachines") U ∧
  va_Nw (.methodLinkNest RX1 34 yX5_hasLeft "TreeMachines") U ∧ va_Nw (.methodLinkNest RX1 38 yX5_hasRight "TreeMachines") U ∧
  va_Nw (.methodLinkNest RX2 63 yX5_hasRight "TreeMachines") U ∧ va_Nw (.methodLinkNest RX2 67 yX5_hasLeft "TreeMachines") U ∧
  va_Nw (.methodLinkNest RX3 32 yX5_hasLeft "TreeMachines") U ∧ va_Nw (.methodLinkNest RX3 36 yX5_hasRight "TreeMachines") U ∧
  va_Nw (.methodLinkNest RX4 11 yX3_init "TreeMachines") U ∧ va_Nw (.methodLinkNest RX4 25 yX5_firstSet "TreeMachines") U ∧
  va_Nw (.methodLinkNest RX4 33 yX5_secondSet "TreeMachines") U ∧ va_Nw (.fieldLinkNest RX3 39 RX5 "LOWEST_STATE" "[I" "TreeMachines") U
theorem tm_nx.same {u U : State} (h : u.vm = U.vm) (q : tm_nx u) : tm_nx U := by
  obtain ⟨h1, h2, h3, h4, h5, h6, h7, h8, h9, h10, h11, h12⟩ := q
  exact ⟨h1.same rfl h, h2.same rfl h, h3.same rfl h, h4.same rfl h, h5.same rfl h, h6.same rfl h, h7.same rfl h, h8.same rfl h, h9.same rfl h, h10.same rfl h, h11.same rfl h, h12.same rfl h⟩
theorem tm_nx.warm {s U : State} (hW : s.WarmedH U.vm) (q : tm_nx s) : tm_nx U := by
  obtain ⟨h1, h2, h3, h4, h5, h6, h7, h8, h9, h10, h11, h12⟩ := q
  exact ⟨va_Nw.warmM hW h1, va_Nw.warmM hW h2, va_Nw.warmM hW h3, va_Nw.warmM hW h4, va_Nw.warmM hW h5, va_Nw.warmM hW h6, va_Nw.warmM hW h7, va_Nw.warmM hW h8, va_Nw.warmM hW h9, va_Nw.warmM hW h10, va_Nw.warmM hW h11, va_Nw.warmF hW h12⟩
/-- the classes, the two kinds of arrays, the nest -/
def tm_kx (D : va_G) (cI cB : ClassId) (U : State) : Prop := va_K D vwCl [(cI, .int), (cB, .byte)] U ∧ tm_nx U
theorem tm_kx.calling {D : va_G} {cI cB : ClassId} {U : State} {g : JFrame} {mk : MethodId} {a : Array Value} (h : tm_kx D cI cB U) : tm_kx D cI cB (U.calling g mk a) :=
  ⟨va_K.moved (u := U) (U := U.calling g mk a) (Vm.Alike.refl U.vm) h.1, h.2.same rfl⟩
theorem tm_kx.warm {D : va_G} {cI cB : ClassId} {s U : State} (hW : s.WarmedH U.vm) (h : tm_kx D cI cB s) : tm_kx D cI cB U := ⟨va_K.moved hW.alike h.1, h.2.warm hW⟩
/-- what a walk knows of its method -/
def tm_cx (p : Program) (s : State) (m : MethodId) (args : Array Value) (meth : Method) (c : Code) (cc : ByteArray) (nL : Nat) (rt : Option FieldType) (own : String) (Ts : List Cond) : Prop :=
  p.tables.exec = Jvm.exec ∧ c.code = cc ∧ meth.sig.returnType = rt ∧ c.maxLocals = nL ∧ s.vm.findClass own = some m.cls ∧ (∀ w ∈ Ts, w.before args s = true) ∧ meth.locks = false
/-- a reader's start: its world, the tables -/
abbrev tm_Pr (D : va_G) (cI cB : ClassId) (av : List Value) (wc : va_W) : Array Value → State → Prop := va_Pc av (fun U => va_P D vwCl wc U.heap ∧ tm_kx D cI cB U)
/-- a writer's start -/
abbrev tm_Pw (D : va_G) (cI cB : ClassId) (av : List Value) (wc : va_W) (sz : Nat) : Array Value → State → Prop := va_Pc av (fun U => U.heap.size = sz ∧ va_P D vwCl wc U.heap ∧ tm_kx D cI cB U ∧ va_D (fun _ => True) wc)
/-- a writer's world at its end -/
abbrev tm_B {S : Type} (D : va_G) (wn : S → va_W) (A : Nat → Prop) : S → State → Prop := fun u t => va_P D vwCl (wn u) t.heap ∧ va_D A (wn u)
theorem tm_blr {D : va_G} {cI cB : ClassId} {av : List Value} {wc : va_W} : FrameBlind (tm_Pr D cI cB av wc) := fun _ _ _ _ q => ⟨q.1, q.2.1, q.2.2.calling⟩
theorem tm_blw {D : va_G} {cI cB : ClassId} {av : List Value} {wc : va_W} {sz : Nat} : FrameBlind (tm_Pw D cI cB av wc sz) := fun _ _ _ _ q => ⟨q.1, q.2.1, q.2.2.1, q.2.2.2.1.calling, q.2.2.2.2⟩
theorem tm_fm {α β : Type} {f : α → Option β} : ∀ {is : List α} {ws : List β}, is.map f = ws.map some → is.filterMap f = ws
  | [], [], _ => rfl
  | [], _ :: _, h => by cases h
  | _ :: _, [], h => by cases h
  | i :: is, w :: ws, h => by
    simp only [List.map_cons, List.cons.injEq] at h
    rw [List.filterMap_cons, h.1]
    simp only
    rw [tm_fm h.2]
theorem tm_n01 {v : Int32} (h : v = 0 ∨ v = 1) : narrow .boolean (.int v) = .int v := by
  rcases h with rfl | rfl <;> rfl
/-- LOWEST_STATE -/
def tm_low (j : Nat) : Int32 := ([0, 0, 1, 0, 2, 0, 1, 0, 3, 0, 1, 0, 2, 0, 1, 0] : List Int32).getD j 0
def tm_tb (A : Nat → Prop) (tb : Nat) (U : State) (H : Heap) : Prop := va_Z "TreeMachines" "LOWEST_STATE" "[I" (.ref tb) A U H ∧ va_T .int tb 16 (fun j => .int (tm_low j)) A U H
theorem tm_tb.calling {A : Nat → Prop} {tb : Nat} {U : State} {g : JFrame} {mk : MethodId} {a : Array Value} (h : tm_tb A tb U U.heap) : tm_tb A tb (U.calling g mk a) (U.calling g mk a).heap :=
  ⟨va_Z.moved (u := U) (U := U.calling g mk a) (Vm.Alike.refl U.vm) h.1, va_T.moved (u := U) (U := U.calling g mk a) (Vm.Alike.refl U.vm) h.2⟩
abbrev tm_Pt (D : va_G) (cI cB : ClassId) (av : List Value) (wc : va_W) (sz tb : Nat) : Array Value → State → Prop := va_Pc av (fun U => U.heap.size = sz ∧ va_P D vwCl wc U.heap ∧ tm_kx D cI cB U ∧ va_D (fun _ => True) wc ∧ tm_tb (va_A wc sz) tb U U.heap)
theorem tm_blt {D : va_G} {cI cB : ClassId} {av : List Value} {wc : va_W} {sz tb : Nat} : FrameBlind (tm_Pt D cI cB av wc sz tb) := fun _ _ _ _ q => ⟨q.1, q.2.1, q.2.2.1, q.2.2.2.1.calling, q.2.2.2.2.1, q.2.2.2.2.2.calling⟩
abbrev tm_adN (a1 a2 : Nat) : Nat → Value
  | 0 => .ref a1
  | 1 => .ref a2
  | _ => .null
section TMC
variable {p : Program} {l : Launch} {e : Env} {R : Room} {s : State} {m : MethodId} {args : Array Value} {below : List Frame} {meth : Method} {c : Code} {H : Heap} {locs : List Loc} {cells slots : Nat} {Q : State → Prop}
variable {pc : Nat} {ls : Array Slot} {rest st0 : List Value} {a : Array Value}
theorem tm_rdi {post : Int32 → Prop} (hr : va_Run p l e R s m args below meth c H locs cells slots 0 0 (F0 m pc ls st0) rest (vp_Si post a) (fun _ => False))
    (kk : ∀ r : Int32, post r → W p l e R s m args below meth c H locs cells slots Q (F0 m (pc + 3) ls (.int r :: rest))) : W p l e R s m args below meth c H locs cells slots Q (F0 m pc ls st0) := by
  intro T hT X
  obtain ⟨v, st₀, t, T', L, h0, X', hL, e1, -, ⟨r, hv, hp, hh⟩, st⟩ := hr T hT X
  cases hv
  obtain ⟨t2, a1, b1⟩ := kk r hp T' (by rw [e1, hh, h0]) (Stand.forget X' (fun q h => (hL q h).elim))
  exact ⟨t2, st t2 a1, b1⟩
theorem tm_rdr {post : Nat → Prop} {ad : Nat → Value} (hr : va_Run p l e R s m args below meth c H locs cells slots 0 0 (F0 m pc ls st0) rest (va_Sr post ad a) (fun _ => False))
    (kk : ∀ k : Nat, post k → W p l e R s m args below meth c H locs cells slots Q (F0 m (pc + 3) ls (ad k :: rest))) : W p l e R s m args below meth c H locs cells slots Q (F0 m pc ls st0) := by
  intro T hT X
  obtain ⟨v, st₀, t, T', L, h0, X', hL, e1, -, ⟨r, hv, hp, hh⟩, st⟩ := hr T hT X
  cases hv
  obtain ⟨t2, a1, b1⟩ := kk r hp T' (by rw [e1, hh, h0]) (Stand.forget X' (fun q h => (hL q h).elim))
  exact ⟨t2, st t2 a1, b1⟩
variable {D : va_G} {cI cB : ClassId} {wc : va_W} {y : MethodName} {bytes cc : ByteArray} {maxL nL n index : Nat} {ret : Option FieldType} {ws : List Cond} {rm : Room} {Ts : List Cond} {own C host : String} {b : Nat} {As : List Value}
/-- a reader of an object, an int back -/
theorem tm_rV {post : Int32 → Prop} (S : CallFix p m c cc nL s args Ts own) (hM : Met l y ws rm (tm_Pr D cI cB (.ref b :: As) wc) (vp_Si post) 0 0 (fun _ => False)) (cw : CallW R s args own C index y bytes maxL ret ws rm 0 0 n)
    (hK : tm_kx D cI cB s) (hP : va_P D vwCl wc H) (hrc : ∃ cell : Cell, H[b]? = some cell ∧ cell.vm.isStatics = false ∧ s.vm.findClass C = some cell.cls) (hn : As.length = n) (hsz : ls.size = nL) (hst : st0 = As.reverse ++ .ref b :: rest) (hW : (rest.map fun v => v.category).sum ≤ 8) (hf : cells ≤ R.cells ∧ slots ≤ R.slots) (hdg : decode cc pc = .ok (.invokevirtual index, 3))
    (kk : ∀ r : Int32, post r → W p l e R s m args below meth c H locs cells slots Q (F0 m (pc + 3) ls (.int r :: rest))) : W p l e R s m args below meth c H locs cells slots Q (F0 m pc ls st0) :=
  tm_rdi (va_runV (As := As) (rest := rest) S hM cw ⟨tm_blr, hrc, fun U hU hW => ⟨rfl, by rw [hU]; exact hP, hK.warm hW⟩⟩ rfl hn hsz hst (lv_room hW) hdg hf) kk
theorem tm_rVr {post : Nat → Prop} {ad : Nat → Value} (S : CallFix p m c cc nL s args Ts own) (hM : Met l y ws rm (tm_Pr D cI cB (.ref b :: As) wc) (va_Sr post ad) 0 0 (fun _ => False)) (cw : CallW R s args own C index y bytes maxL ret ws rm 0 0 n)
    (hK : tm_kx D cI cB s) (hP : va_P D vwCl wc H) (hrc : ∃ cell : Cell, H[b]? = some cell ∧ cell.vm.isStatics = false ∧ s.vm.findClass C = some cell.cls) (hn : As.length = n) (hsz : ls.size = nL) (hst : st0 = As.reverse ++ .ref b :: rest) (hW : (rest.map fun v => v.category).sum ≤ 8) (hf : cells ≤ R.cells ∧ slots ≤ R.slots) (hdg : decode cc pc = .ok (.invokevirtual index, 3))
    (kk : ∀ k : Nat, post k → W p l e R s m args below meth c H locs cells slots Q (F0 m (pc + 3) ls (ad k :: rest))) : W p l e R s m args below meth c H locs cells slots Q (F0 m pc ls st0) :=
  tm_rdr (va_runV (As := As) (rest := rest) S hM cw ⟨tm_blr, hrc, fun U hU hW => ⟨rfl, by rw [hU]; exact hP, hK.warm hW⟩⟩ rfl hn hsz hst (lv_room hW) hdg hf) kk
/-- a static reader -/
theorem tm_rS {post : Int32 → Prop} (S : CallFix p m c cc nL s args Ts own) (hM : Met l y ws rm (tm_Pr D cI cB As wc) (vp_Si post) 0 0 (fun _ => False)) (cw : CallB R s args own index y bytes maxL ret ws rm 0 0 n ∧ (Cond.static y).before args s = true)
    (hK : tm_kx D cI cB s) (hP : va_P D vwCl wc H) (hn : As.length = n) (hsz : ls.size = nL) (hst : st0 = As.reverse ++ rest) (hW : (rest.map fun v => v.category).sum ≤ 8) (hf : cells ≤ R.cells ∧ slots ≤ R.slots) (hdg : decode cc pc = .ok (.invokestatic index, 3))
    (kk : ∀ r : Int32, post r → W p l e R s m args below meth c H locs cells slots Q (F0 m (pc + 3) ls (.int r :: rest))) : W p l e R s m args below meth c H locs cells slots Q (F0 m pc ls st0) :=
  tm_rdi (va_runS (As := As) (rest := rest) S hM cw ⟨tm_blr, fun U hU hW => ⟨rfl, by rw [hU]; exact hP, hK.warm hW⟩⟩ rfl hn hsz hst (lv_room hW) hdg hf) kk
/-- a private static reader of the nest's host -/
theorem tm_rSN {post : Int32 → Prop} (S : CallFix p m c cc nL s args Ts own) (hM : Met l y ws rm (tm_Pr D cI cB As wc) (vp_Si post) 0 0 (fun _ => False)) (cw : va_CN R s args own index y host bytes maxL ret ws rm 0 0 n ∧ (Cond.static y).before args s = true ∧ True)
    (hK : tm_kx D cI cB s) (hP : va_P D vwCl wc H) (hn : As.length = n) (hsz : ls.size = nL) (hst : st0 = As.reverse ++ rest) (hW : (rest.map fun v => v.category).sum ≤ 8) (hf : cells ≤ R.cells ∧ slots ≤ R.slots) (hdg : decode cc pc = .ok (.invokestatic index, 3))
    (kk : ∀ r : Int32, post r → W p l e R s m args below meth c H locs cells slots Q (F0 m (pc + 3) ls (.int r :: rest))) : W p l e R s m args below meth c H locs cells slots Q (F0 m pc ls st0) :=
  tm_rdi (va_runSN (As := As) (rest := rest) S hM cw ⟨tm_blr, fun U hU hW => ⟨rfl, by rw [hU]; exact hP, hK.warm hW⟩⟩ rfl hn hsz hst (lv_room hW) hdg hf) kk
/-- a writer's end, at its caller: the cells that it had come back beside the rest, in the caller's own order -/
theorem tm_wi {S : Type} {post : Int32 → S → Prop} {wn wf : S → va_W} {w0 wr : va_W} {A : Nat → Prop} {H0 : Heap} (hr : va_Run p l e R s m args below meth c H locs cells slots 0 0 (F0 m pc ls st0) rest (va_Qi post (tm_B D wn (va_A wc H.size)) (va_A wc H.size) a) (va_A wc H.size))
    (hP : va_P D vwCl w0 H) (hD : va_D A w0) (hS : va_S A H0 H locs) (hA : ∀ q, H0.size ≤ q → A q) (isC isR pm : List Nat) (hC : isC.map (fun i => w0[i]?) = wc.map some) (hR : isR.map (fun i => w0[i]?) = wr.map some) (hnd : va_nd isR = true) (hdis : ∀ i ∈ isR, i ∉ isC) (hpn : va_nd pm = true) (hpf : ∀ u, pm.map (fun i => (wr ++ wn u)[i]?) = (wf u).map some)
    (kk : ∀ (r : Int32) (u : S) (H1 : Heap) (locs1 : List Loc), post r u → va_P D vwCl (wf u) H1 → va_D A (wf u) → va_S A H0 H1 locs1 → W p l e R s m args below meth c H1 locs1 cells slots Q (F0 m (pc + 3) ls (.int r :: rest))) : W p l e R s m args below meth c H locs cells slots Q (F0 m pc ls st0) := by
  have hF := va_free (wc := wc) hD hS hA isC hC
  refine va_calli hr hS (fun q _ h => hF q h) hF (fun r u t H1 locs1 ht hvm hw hB hz1 hk1 hS1 => ?_)
  obtain ⟨hP1, hD1⟩ := hB
  rw [ht] at hP1
  obtain ⟨hP2, hD2⟩ := va_join (wr := wr) (w1 := wn u) hP hD isC isR hC hR hnd hdis hk1 hF hP1 hD1
  exact kk r u H1 locs1 hw (hP2.sub pm (tm_fm (hpf u))) (hD2.sub pm hpn (hpf u)) hS1
theorem tm_wv {S : Type} {post : S → Prop} {wn wf : S → va_W} {w0 wr : va_W} {A : Nat → Prop} {H0 : Heap} (hr : va_Run p l e R s m args below meth c H locs cells slots 0 0 (F0 m pc ls st0) rest (va_Qv post (tm_B D wn (va_A wc H.size)) (va_A wc H.size) a) (va_A wc H.size))
    (hP : va_P D vwCl w0 H) (hD : va_D A w0) (hS : va_S A H0 H locs) (hA : ∀ q, H0.size ≤ q → A q) (isC isR pm : List Nat) (hC : isC.map (fun i => w0[i]?) = wc.map some) (hR : isR.map (fun i => w0[i]?) = wr.map some) (hnd : va_nd isR = true) (hdis : ∀ i ∈ isR, i ∉ isC) (hpn : va_nd pm = true) (hpf : ∀ u, pm.map (fun i => (wr ++ wn u)[i]?) = (wf u).map some)
    (kk : ∀ (u : S) (H1 : Heap) (locs1 : List Loc), post u → va_P D vwCl (wf u) H1 → va_D A (wf u) → va_S A H0 H1 locs1 → W p l e R s m args below meth c H1 locs1 cells slots Q (F0 m (pc + 3) ls rest)) : W p l e R s m args below meth c H locs cells slots Q (F0 m pc ls st0) := by
  have hF := va_free (wc := wc) hD hS hA isC hC
  refine va_callv hr hS (fun q _ h => hF q h) hF (fun u t H1 locs1 ht hvm hw hB hz1 hk1 hS1 => ?_)
  obtain ⟨hP1, hD1⟩ := hB
  rw [ht] at hP1
  obtain ⟨hP2, hD2⟩ := va_join (wr := wr) (w1 := wn u) hP hD isC isR hC hR hnd hdis hk1 hF hP1 hD1
  exact kk u H1 locs1 hw (hP2.sub pm (tm_fm (hpf u))) (hD2.sub pm hpn (hpf u)) hS1
theorem tm_wr {S : Type} {post : S → Prop} {wn wf : S → va_W} {w0 wr : va_W} {A : Nat → Prop} {H0 : Heap} {ra : Nat} (hr : va_Run p l e R s m args below meth c H locs cells slots 0 0 (F0 m pc ls st0) rest (va_Qr post (fun u x t => x = ra ∧ tm_B D wn (va_A wc H.size) u t) (va_A wc H.size) a) (va_A wc H.size))
    (hP : va_P D vwCl w0 H) (hD : va_D A w0) (hS : va_S A H0 H locs) (hA : ∀ q, H0.size ≤ q → A q) (isC isR pm : List Nat) (hC : isC.map (fun i => w0[i]?) = wc.map some) (hR : isR.map (fun i => w0[i]?) = wr.map some) (hnd : va_nd isR = true) (hdis : ∀ i ∈ isR, i ∉ isC) (hpn : va_nd pm = true) (hpf : ∀ u, pm.map (fun i => (wr ++ wn u)[i]?) = (wf u).map some)
    (kk : ∀ (u : S) (H1 : Heap) (locs1 : List Loc), post u → va_P D vwCl (wf u) H1 → va_D A (wf u) → va_S A H0 H1 locs1 → W p l e R s m args below meth c H1 locs1 cells slots Q (F0 m (pc + 3) ls (.ref ra :: rest))) : W p l e R s m args below meth c H locs cells slots Q (F0 m pc ls st0) := by
  have hF := va_free (wc := wc) hD hS hA isC hC
  refine va_callr hr hS (fun q _ h => hF q h) hF (fun u x t H1 locs1 ht hvm hw hB hz1 hk1 hS1 => ?_)
  obtain ⟨rfl, hP1, hD1⟩ := hB
  rw [ht] at hP1
  obtain ⟨hP2, hD2⟩ := va_join (wr := wr) (w1 := wn u) hP hD isC isR hC hR hnd hdis hk1 hF hP1 hD1
  exact kk u H1 locs1 hw (hP2.sub pm (tm_fm (hpf u))) (hD2.sub pm hpn (hpf u)) hS1
/-- what a writer asks of its caller: an object's method -/
theorem tm_pV {As : List Value} (hK : tm_kx D cI cB s) {A : Nat → Prop} {w0 : va_W} (hP : va_P D vwCl w0 H) (hD : va_D A w0) (isC : List Nat) (hn : va_nd isC = true) (hC : isC.map (fun i => w0[i]?) = wc.map some) (hrc : ∃ cell : Cell, H[b]? = some cell ∧ cell.vm.isStatics = false ∧ s.vm.findClass C = some cell.cls) : PreV s H C b (tm_Pw D cI cB (.ref b :: As) wc H.size) As :=
  ⟨tm_blw, hrc, fun U hU hW => ⟨rfl, by rw [hU], by rw [hU]; exact hP.sub isC (tm_fm hC), hK.warm hW, (hD.sub isC hn hC).weaken (fun _ _ _ _ => trivial)⟩⟩
theorem tm_pS {As : List Value} (hK : tm_kx D cI cB s) {A : Nat → Prop} {w0 : va_W} (hP : va_P D vwCl w0 H) (hD : va_D A w0) (isC : List Nat) (hn : va_nd isC = true) (hC : isC.map (fun i => w0[i]?) = wc.map some) : PreS s H (tm_Pw D cI cB As wc H.size) As :=
  ⟨tm_blw, fun U hU hW => ⟨rfl, by rw [hU], by rw [hU]; exact hP.sub isC (tm_fm hC), hK.warm hW, (hD.sub isC hn hC).weaken (fun _ _ _ _ => trivial)⟩⟩
theorem tm_pVt {As : List Value} {tb : Nat} (hK : tm_kx D cI cB s) {A : Nat → Prop} {w0 : va_W} (hP : va_P D vwCl w0 H) (hD : va_D A w0) (isC : List Nat) (hn : va_nd isC = true) (hC : isC.map (fun i => w0[i]?) = wc.map some) (hrc : ∃ cell : Cell, H[b]? = some cell ∧ cell.vm.isStatics = false ∧ s.vm.findClass C = some cell.cls) (hS : va_S A s.heap H locs) (hA : ∀ q, s.heap.size ≤ q → A q) (hT : tm_tb A tb s s.heap) : PreV s H C b (tm_Pt D cI cB (.ref b :: As) wc H.size tb) As :=
  ⟨tm_blt, hrc, fun U hU hW => ⟨rfl, by rw [hU], by rw [hU]; exact hP.sub isC (tm_fm hC), hK.warm hW, (hD.sub isC hn hC).weaken (fun _ _ _ _ => trivial), by
    rw [hU]
    exact ⟨((hT.1.kept hS.2.1).narrow (va_free (wc := wc) hD hS hA isC hC)).moved hW.alike, ((hT.2.kept hS.2.1).narrow (va_free (wc := wc) hD hS hA isC hC)).moved hW.alike⟩⟩⟩
end TMC
end
section
/-! X5_isSymbol (I)Z -/
abbrev rm_X5_isSymbol : Room := { frames := 0, cells := 0, slots := 0, locals := 0 }
def wp_X5_isSymbol_in (Q : Int32 → Prop) (x0 : Int32) : Prop :=
  ((x0 < 0 → Q 0) ∧ (¬ (x0 < 0) → ((8 ≤ x0 → Q 0) ∧ (¬ (8 ≤ x0) → Q 1))))
set_option maxRecDepth 100000 in
set_option maxHeartbeats 4000000 in
theorem bk_X5_isSymbol_in {p : Program} {l : Launch} {e : Env} {s : State} {m : MethodId} {args : Array Value} {below : List Frame} {meth : Method} {c : Code} {D : va_G} {cI cB : ClassId} {Q : Int32 → Prop} (C : tm_cx p s m args meth c cX5_isSymbol 1 (some .boolean) RX5 wsX5_isSymbol) (hK : tm_kx D cI cB s) (x0 : Int32) (h : wp_X5_isSymbol_in Q x0) : va_P D vwCl [] s.heap → ∀ (ls : Array Slot), lv_has ls 1 [(0, .int x0)] → W p l e (headSpec wsX5_isSymbol rm_X5_isSymbol).room s m args below meth c s.heap [] 0 0 (MQ below (vp_Si (fun r => (r = 0 ∨ r = 1) ∧ Q r)) args s 0 0 (fun _ => False)) (F0 m 0 ls []) := by
  obtain ⟨hx, hb, hr, hml, hown, hts, hlocks⟩ := id C
  intro hP ls hl
  unfold wp_X5_isSymbol_in at h
  refine lv_iload_n hx hb dX5_isSymbol_0 rfl (lv_at hl 0 rfl) ?_
  refine lv_if_lt (tgt := 14) hx hb dX5_isSymbol_1 (by decide) (fun c1 => ?_) (fun c1 => ?_)
  · have h := h.1 c1
    refine lv_iconst (v := 0) hx hb dX5_isSymbol_14 (by decide) ?_
    exact W.zret (v := 0) (ty := .boolean) hx hb hr (tm_n01 (Or.inl rfl)) (fun t ht hW => ⟨0, rfl, ⟨Or.inl rfl, h⟩, ht⟩) (fun _ h => by cases h) dX5_isSymbol_15
  · have h := h.2 c1
    refine lv_iload_n hx hb dX5_isSymbol_4 rfl (lv_at hl 0 rfl) ?_
    refine lv_bipush (v := 8) hx hb dX5_isSymbol_5 (by decide) ?_
    refine lv_icmp_ge (tgt := 14) hx hb dX5_isSymbol_7 (by decide) (fun c2 => ?_) (fun c2 => ?_)
    · have h := h.1 c2
      refine lv_iconst (v := 0) hx hb dX5_isSymbol_14 (by decide) ?_
      exact W.zret (v := 0) (ty := .boolean) hx hb hr (tm_n01 (Or.inl rfl)) (fun t ht hW => ⟨0, rfl, ⟨Or.inl rfl, h⟩, ht⟩) (fun _ h => by cases h) dX5_isSymbol_15
    · have h := h.2 c2
      refine lv_iconst (v := 1) hx hb dX5_isSymbol_10 (by decide) ?_
      refine lv_goto (tgt := 15) hx hb dX5_isSymbol_11 (by decide) ?_
      exact W.zret (v := 1) (ty := .boolean) hx hb hr (tm_n01 (Or.inr rfl)) (fun t ht hW => ⟨1, rfl, ⟨Or.inr rfl, h⟩, ht⟩) (fun _ h => by cases h) dX5_isSymbol_15
abbrev wp_X5_isSymbol (x0 : Int32) (Q : Int32 → Prop) : Prop := wp_X5_isSymbol_in Q x0
set_option maxRecDepth 100000 in
set_option maxHeartbeats 4000000 in
theorem cn_X5_isSymbol (l : Launch) (D : va_G) (cI cB : ClassId) (x0 : Int32) (Q : Int32 → Prop) (h : wp_X5_isSymbol x0 Q) : Met l yX5_isSymbol wsX5_isSymbol rm_X5_isSymbol (tm_Pr D cI cB [.int x0] []) (vp_Si (fun r => (r = 0 ∨ r = 1) ∧ Q r)) 0 0 (fun _ => False) := by
  refine Met.ofW (cc := cX5_isSymbol) (maxL := 1) (ret := (some .boolean)) (by decide) rfl ?_
  intro p e s m args below meth c s₁ B hml hv
  obtain ⟨rfl, hP, hK⟩ := hv
  have hl := lv_entry ([.int x0]) (n := 1) (Nat.le_of_ble_eq_true rfl)
  rw [lg_entry_eq]
  generalize (lg_sl ([.int x0]) ++ List.replicate (1 - (lg_sl ([.int x0])).length) Slot.unset).toArray = ls at hl ⊢
  have hl : lv_has ls 1 [(0, .int x0)] := hl
  exact bk_X5_isSymbol_in ⟨B.exec, B.bytes, B.returns, hml, findClass_of_methodNamed B.named, atoms_spec (ws := wsX5_isSymbol) B.pre, B.notSynchronized⟩ hK x0 h hP ls hl

/-! X5_hasLeft (I)Z -/
abbrev rm_X5_hasLeft : Room := { frames := 0, cells := 0, slots := 0, locals := 0 }
def wp_X5_hasLeft_in (Q : Int32 → Prop) (x0 : Int32) : Prop :=
  ((x0 < 3 → Q 0) ∧ (¬ (x0 < 3) → Q 1))
set_option maxRecDepth 100000 in
set_option maxHeartbeats 4000000 in
theorem bk_X5_hasLeft_in {p : Program} {l : Launch} {e : Env} {s : State} {m : MethodId} {args : Array Value} {below : List Frame} {meth : Method} {c : Code} {D : va_G} {cI cB : ClassId} {Q : Int32 → Prop} (C : tm_cx p s m args meth c cX5_hasLeft 1 (some .boolean) RX5 wsX5_hasLeft) (hK : tm_kx D cI cB s) (x0 : Int32) (h : wp_X5_hasLeft_in Q x0) : va_P D vwCl [] s.heap → ∀ (ls : Array Slot), lv_has ls 1 [(0, .int x0)] → W p l e (headSpec wsX5_hasLeft rm_X5_hasLeft).room s m args below meth c s.heap [] 0 0 (MQ below (vp_Si (fun r => (r = 0 ∨ r = 1) ∧ Q r)) args s 0 0 (fun _ => False)) (F0 m 0 ls []) := by
  obtain ⟨hx, hb, hr, hml, hown, hts, hlocks⟩ := id C
  intro hP ls hl
  unfold wp_X5_hasLeft_in at h
  refine lv_iload_n hx hb dX5_hasLeft_0 rfl (lv_at hl 0 rfl) ?_
  refine lv_iconst (v := 3) hx hb dX5_hasLeft_1 (by decide) ?_
  refine lv_icmp_lt (tgt := 9) hx hb dX5_hasLeft_2 (by decide) (fun c1 => ?_) (fun c1 => ?_)
  · have h := h.1 c1
    refine lv_iconst (v := 0) hx hb dX5_hasLeft_9 (by decide) ?_
    exact W.zret (v := 0) (ty := .boolean) hx hb hr (tm_n01 (Or.inl rfl)) (fun t ht hW => ⟨0, rfl, ⟨Or.inl rfl, h⟩, ht⟩) (fun _ h => by cases h) dX5_hasLeft_10
  · have h := h.2 c1
    refine lv_iconst (v := 1) hx hb dX5_hasLeft_5 (by decide) ?_
    refine lv_goto (tgt := 10) hx hb dX5_hasLeft_6 (by decide) ?_
    exact W.zret (v := 1) (ty := .boolean) hx hb hr (tm_n01 (Or.inr rfl)) (fun t ht hW => ⟨1, rfl, ⟨Or.inr rfl, h⟩, ht⟩) (fun _ h => by cases h) dX5_hasLeft_10
abbrev wp_X5_hasLeft (x0 : Int32) (Q : Int32 → Prop) : Prop := wp_X5_hasLeft_in Q x0
set_option maxRecDepth 100000 in
set_option maxHeartbeats 4000000 in
theorem cn_X5_hasLeft (l : Launch) (D : va_G) (cI cB : ClassId) (x0 : Int32) (Q : Int32 → Prop) (h : wp_X5_hasLeft x0 Q) : Met l yX5_hasLeft wsX5_hasLeft rm_X5_hasLeft (tm_Pr D cI cB [.int x0] []) (vp_Si (fun r => (r = 0 ∨ r = 1) ∧ Q r)) 0 0 (fun _ => False) := by
  refine Met.ofW (cc := cX5_hasLeft) (maxL := 1) (ret := (some .boolean)) (by decide) rfl ?_
  intro p e s m args below meth c s₁ B hml hv
  obtain ⟨rfl, hP, hK⟩ := hv
  have hl := lv_entry ([.int x0]) (n := 1) (Nat.le_of_ble_eq_true rfl)
  rw [lg_entry_eq]
  generalize (lg_sl ([.int x0]) ++ List.replicate (1 - (lg_sl ([.int x0])).length) Slot.unset).toArray = ls at hl ⊢
  have hl : lv_has ls 1 [(0, .int x0)] := hl
  exact bk_X5_hasLeft_in ⟨B.exec, B.bytes, B.returns, hml, findClass_of_methodNamed B.named, atoms_spec (ws := wsX5_hasLeft) B.pre, B.notSynchronized⟩ hK x0 h hP ls hl

/-! X5_hasRight (I)Z -/
abbrev rm_X5_hasRight : Room := { frames := 0, cells := 0, slots := 0, locals := 0 }
def wp_X5_hasRight_in (Q : Int32 → Prop) (x0 : Int32) : Prop :=
  ((x0 < 5 → Q 0) ∧ (¬ (x0 < 5) → Q 1))
set_option maxRecDepth 100000 in
set_option maxHeartbeats 4000000 in
theorem bk_X5_hasRight_in {p : Program} {l : Launch} {e : Env} {s : State} {m : MethodId} {args : Array Value} {below : List Frame} {meth : Method} {c : Code} {D : va_G} {cI cB : ClassId} {Q : Int32 → Prop} (C : tm_cx p s m args meth c cX5_hasRight 1 (some .boolean) RX5 wsX5_hasRight) (hK : tm_kx D cI cB s) (x0 : Int32) (h : wp_X5_hasRight_in Q x0) : va_P D vwCl [] s.heap → ∀ (ls : Array Slot), lv_has ls 1 [(0, .int x0)] → W p l e (headSpec wsX5_hasRight rm_X5_hasRight).room s m args below meth c s.heap [] 0 0 (MQ below (vp_Si (fun r => (r = 0 ∨ r = 1) ∧ Q r)) args s 0 0 (fun _ => False)) (F0 m 0 ls []) := by
  obtain ⟨hx, hb, hr, hml, hown, hts, hlocks⟩ := id C
  intro hP ls hl
  unfold wp_X5_hasRight_in at h
  refine lv_iload_n hx hb dX5_hasRight_0 rfl (lv_at hl 0 rfl) ?_
  refine lv_iconst (v := 5) hx hb dX5_hasRight_1 (by decide) ?_
  refine lv_icmp_lt (tgt := 9) hx hb dX5_hasRight_2 (by decide) (fun c1 => ?_) (fun c1 => ?_)
  · have h := h.1 c1
    refine lv_iconst (v := 0) hx hb dX5_hasRight_9 (by decide) ?_
    exact W.zret (v := 0) (ty := .boolean) hx hb hr (tm_n01 (Or.inl rfl)) (fun t ht hW => ⟨0, rfl, ⟨Or.inl rfl, h⟩, ht⟩) (fun _ h => by cases h) dX5_hasRight_10
  · have h := h.2 c1
    refine lv_iconst (v := 1) hx hb dX5_hasRight_5 (by decide) ?_
    refine lv_goto (tgt := 10) hx hb dX5_hasRight_6 (by decide) ?_
    exact W.zret (v := 1) (ty := .boolean) hx hb hr (tm_n01 (Or.inr rfl)) (fun t ht hW => ⟨1, rfl, ⟨Or.inr rfl, h⟩, ht⟩) (fun _ h => by cases h) dX5_hasRight_10
abbrev wp_X5_hasRight (x0 : Int32) (Q : Int32 → Prop) : Prop := wp_X5_hasRight_in Q x0
set_option maxRecDepth 100000 in
set_option maxHeartbeats 4000000 in
theorem cn_X5_hasRight (l : Launch) (D : va_G) (cI cB : ClassId) (x0 : Int32) (Q : Int32 → Prop) (h : wp_X5_hasRight x0 Q) : Met l yX5_hasRight wsX5_hasRight rm_X5_hasRight (tm_Pr D cI cB [.int x0] []) (vp_Si (fun r => (r = 0 ∨ r = 1) ∧ Q r)) 0 0 (fun _ => False) := by
  refine Met.ofW (cc := cX5_hasRight) (maxL := 1) (ret := (some .boolean)) (by decide) rfl ?_
  intro p e s m args below meth c s₁ B hml hv
  obtain ⟨rfl, hP, hK⟩ := hv
  have hl := lv_entry ([.int x0]) (n := 1) (Nat.le_of_ble_eq_true rfl)
  rw [lg_entry_eq]
  generalize (lg_sl ([.int x0]) ++ List.replicate (1 - (lg_sl ([.int x0])).length) Slot.unset).toArray = ls at hl ⊢
  have hl : lv_has ls 1 [(0, .int x0)] := hl
  exact bk_X5_hasRight_in ⟨B.exec, B.bytes, B.returns, hml, findClass_of_methodNamed B.named, atoms_spec (ws := wsX5_hasRight) B.pre, B.notSynchronized⟩ hK x0 h hP ls hl

/-! X5_isState (I)Z -/
abbrev rm_X5_isState : Room := { frames := 0, cells := 0, slots := 0, locals := 0 }
def wp_X5_isState_in (Q : Int32 → Prop) (x0 : Int32) : Prop :=
  ((x0 < 0 → Q 0) ∧ (¬ (x0 < 0) → ((4 ≤ x0 → Q 0) ∧ (¬ (4 ≤ x0) → Q 1))))
set_option maxRecDepth 100000 in
set_option maxHeartbeats 4000000 in
theorem bk_X5_isState_in {p : Program} {l : Launch} {e : Env} {s : State} {m : MethodId} {args : Array Value} {below : List Frame} {meth : Method} {c : Code} {D : va_G} {cI cB : ClassId} {Q : Int32 → Prop} (C : tm_cx p s m args meth c cX5_isState 1 (some .boolean) RX5 wsX5_isState) (hK : tm_kx D cI cB s) (x0 : Int32) (h : wp_X5_isState_in Q x0) : va_P D vwCl [] s.heap → ∀ (ls : Array Slot), lv_has ls 1 [(0, .int x0)] → W p l e (headSpec wsX5_isState rm_X5_isState).room s m args below meth c s.heap [] 0 0 (MQ below (vp_Si (fun r => (r = 0 ∨ r = 1) ∧ Q r)) args s 0 0 (fun _ => False)) (F0 m 0 ls []) := by
  obtain ⟨hx, hb, hr, hml, hown, hts, hlocks⟩ := id C
  intro hP ls hl
  unfold wp_X5_isState_in at h
  refine lv_iload_n hx hb dX5_isState_0 rfl (lv_at hl 0 rfl) ?_
  refine lv_if_lt (tgt := 13) hx hb dX5_isState_1 (by decide) (fun c1 => ?_) (fun c1 => ?_)
  · have h := h.1 c1
    refine lv_iconst (v := 0) hx hb dX5_isState_13 (by decide) ?_
    exact W.zret (v := 0) (ty := .boolean) hx hb hr (tm_n01 (Or.inl rfl)) (fun t ht hW => ⟨0, rfl, ⟨Or.inl rfl, h⟩, ht⟩) (fun _ h => by cases h) dX5_isState_14
  · have h := h.2 c1
    refine lv_iload_n hx hb dX5_isState_4 rfl (lv_at hl 0 rfl) ?_
    refine lv_iconst (v := 4) hx hb dX5_isState_5 (by decide) ?_
    refine lv_icmp_ge (tgt := 13) hx hb dX5_isState_6 (by decide) (fun c2 => ?_) (fun c2 => ?_)
    · have h := h.1 c2
      refine lv_iconst (v := 0) hx hb dX5_isState_13 (by decide) ?_
      exact W.zret (v := 0) (ty := .boolean) hx hb hr (tm_n01 (Or.inl rfl)) (fun t ht hW => ⟨0, rfl, ⟨Or.inl rfl, h⟩, ht⟩) (fun _ h => by cases h) dX5_isState_14
    · have h := h.2 c2
      refine lv_iconst (v := 1) hx hb dX5_isState_9 (by decide) ?_
      refine lv_goto (tgt := 14) hx hb dX5_isState_10 (by decide) ?_
      exact W.zret (v := 1) (ty := .boolean) hx hb hr (tm_n01 (Or.inr rfl)) (fun t ht hW => ⟨1, rfl, ⟨Or.inr rfl, h⟩, ht⟩) (fun _ h => by cases h) dX5_isState_14
abbrev wp_X5_isState (x0 : Int32) (Q : Int32 → Prop) : Prop := wp_X5_isState_in Q x0
set_option maxRecDepth 100000 in
set_option maxHeartbeats 4000000 in
theorem cn_X5_isState (l : Launch) (D : va_G) (cI cB : ClassId) (x0 : Int32) (Q : Int32 → Prop) (h : wp_X5_isState x0 Q) : Met l yX5_isState wsX5_isState rm_X5_isState (tm_Pr D cI cB [.int x0] []) (vp_Si (fun r => (r = 0 ∨ r = 1) ∧ Q r)) 0 0 (fun _ => False) := by
  refine Met.ofW (cc := cX5_isState) (maxL := 1) (ret := (some .boolean)) (by decide) rfl ?_
  intro p e s m args below meth c s₁ B hml hv
  obtain ⟨rfl, hP, hK⟩ := hv
  have hl := lv_entry ([.int x0]) (n := 1) (Nat.le_of_ble_eq_true rfl)
  rw [lg_entry_eq]
  generalize (lg_sl ([.int x0]) ++ List.replicate (1 - (lg_sl ([.int x0])).length) Slot.unset).toArray = ls at hl ⊢
  have hl : lv_has ls 1 [(0, .int x0)] := hl
  exact bk_X5_isState_in ⟨B.exec, B.bytes, B.returns, hml, findClass_of_methodNamed B.named, atoms_spec (ws := wsX5_isState) B.pre, B.notSynchronized⟩ hK x0 h hP ls hl

/-! X5_rowOf (III)I -/
abbrev rm_X5_rowOf : Room := { frames := 1, cells := 0, slots := 0, locals := 20 }
def wp_X5_rowOf_34 (Q : Int32 → Prop) (z0 : Int32) (x0 : Int32) (x3 : Int32) : Prop :=
  wp_X5_isState x3 (fun r7 => ((r7 = 0 → Q (-1)) ∧ (¬ (r7 = 0) → wp_X5_isState z0 (fun r9 => ((r9 = 0 → Q (-1)) ∧ (¬ (r9 = 0) → Q ((((x0 * 4) + x3) * 4) + z0)))))))
set_option maxRecDepth 100000 in
set_option maxHeartbeats 4000000 in
theorem bk_X5_rowOf_34 {p : Program} {l : Launch} {e : Env} {s : State} {m : MethodId} {args : Array Value} {below : List Frame} {meth : Method} {c : Code} {D : va_G} {cI cB : ClassId} {Q : Int32 → Prop} (C : tm_cx p s m args meth c cX5_rowOf 5 (some .int) RX5 wsX5_rowOf) (hK : tm_kx D cI cB s) (z0 : Int32) (x0 : Int32) (x3 : Int32) (h : wp_X5_rowOf_34 Q z0 x0 x3) : va_P D vwCl [] s.heap → ∀ (ls : Array Slot), lv_has ls 5 [(0, .int x0), (3, .int x3)] → W p l e (headSpec wsX5_rowOf rm_X5_rowOf).room s m args below meth c s.heap [] 0 0 (MQ below (vp_Si Q) args s 0 0 (fun _ => False)) (F0 m 34 ls [.int z0]) := by
  obtain ⟨hx, hb, hr, hml, hown, hts, hlocks⟩ := id C
  intro hP ls hl
  unfold wp_X5_rowOf_34 at h
  refine lv_istore (lv' := [(4, .int z0), (0, .int x0), (3, .int x3)]) hx hb dX5_rowOf_34 hl (by decide) rfl (fun ls hl => ?_)
  refine lv_iload_n hx hb dX5_rowOf_36 rfl (lv_at hl 2 rfl) ?_
  refine tm_rS (As := [.int x3]) (rest := []) (wc := []) ⟨hx, hb, hml, hown, hts⟩ (cn_X5_isState l D cI cB x3 _ h) (va_cwS 1 hts gX5_rowOf_X5_isState rfl rfl rfl (by decide +kernel) ⟨Nat.le_of_ble_eq_true rfl, Nat.le_of_ble_eq_true rfl⟩) hK (hP.sub [] rfl) rfl hl.1 rfl (Nat.le_of_ble_eq_true rfl) ⟨Nat.zero_le _, Nat.zero_le _⟩ dX5_rowOf_37 (fun r7 h => ?_)
  obtain ⟨br7, h⟩ := h
  refine lv_if_eq (tgt := 51) hx hb dX5_rowOf_40 (by decide) (fun c8 => ?_) (fun c8 => ?_)
  · have h := h.1 c8
    refine lv_iconst (v := (-1)) hx hb dX5_rowOf_51 (by decide) ?_
    exact W.iret (v := (-1)) hx hb hr (fun t ht hW => ⟨(-1), rfl, h, ht⟩) (fun _ h => by cases h) dX5_rowOf_52
  · have h := h.2 c8
    refine lv_iload hx hb dX5_rowOf_43 (lv_at hl 0 rfl) ?_
    refine tm_rS (As := [.int z0]) (rest := []) (wc := []) ⟨hx, hb, hml, hown, hts⟩ (cn_X5_isState l D cI cB z0 _ h) (va_cwS 1 hts gX5_rowOf_X5_isState rfl rfl rfl (by decide +kernel) ⟨Nat.le_of_ble_eq_true rfl, Nat.le_of_ble_eq_true rfl⟩) hK (hP.sub [] rfl) rfl hl.1 rfl (Nat.le_of_ble_eq_true rfl) ⟨Nat.zero_le _, Nat.zero_le _⟩ dX5_rowOf_45 (fun r9 h => ?_)
    obtain ⟨br9, h⟩ := h
    refine lv_if_ne (tgt := 53) hx hb dX5_rowOf_48 (by decide) (fun c10 => ?_) (fun c10 => ?_)
    · have h := h.2 c10
      refine lv_iload_n hx hb dX5_rowOf_53 rfl (lv_at hl 1 rfl) ?_
      refine lv_iconst (v := 4) hx hb dX5_rowOf_54 (by decide) ?_
      refine lv_imul (x := x0) (y := 4) hx hb dX5_rowOf_55 ?_
      refine lv_iload_n hx hb dX5_rowOf_56 rfl (lv_at hl 2 rfl) ?_
      refine lv_iadd hx hb dX5_rowOf_57 ?_
      refine lv_iconst (v := 4) hx hb dX5_rowOf_58 (by decide) ?_
      refine lv_imul (x := ((x0 * 4) + x3)) (y := 4) hx hb dX5_rowOf_59 ?_
      refine lv_iload hx hb dX5_rowOf_60 (lv_at hl 0 rfl) ?_
      refine lv_iadd hx hb dX5_rowOf_62 ?_
      exact W.iret (v := ((((x0 * 4) + x3) * 4) + z0)) hx hb hr (fun t ht hW => ⟨((((x0 * 4) + x3) * 4) + z0), rfl, h, ht⟩) (fun _ h => by cases h) dX5_rowOf_63
    · have h := h.1 c10
      refine lv_iconst (v := (-1)) hx hb dX5_rowOf_51 (by decide) ?_
      exact W.iret (v := (-1)) hx hb hr (fun t ht hW => ⟨(-1), rfl, h, ht⟩) (fun _ h => by cases h) dX5_rowOf_52
def wp_X5_rowOf_21 (Q : Int32 → Prop) (z0 : Int32) (x0 : Int32) (x2 : Int32) : Prop :=
  wp_X5_hasRight x0 (fun r5 => ((r5 = 0 → wp_X5_rowOf_34 Q 0 x0 z0) ∧ (¬ (r5 = 0) → wp_X5_rowOf_34 Q x2 x0 z0)))
set_option maxRecDepth 100000 in
set_option maxHeartbeats 4000000 in
theorem bk_X5_rowOf_21 {p : Program} {l : Launch} {e : Env} {s : State} {m : MethodId} {args : Array Value} {below : List Frame} {meth : Method} {c : Code} {D : va_G} {cI cB : ClassId} {Q : Int32 → Prop} (C : tm_cx p s m args meth c cX5_rowOf 5 (some .int) RX5 wsX5_rowOf) (hK : tm_kx D cI cB s) (z0 : Int32) (x0 : Int32) (x2 : Int32) (h : wp_X5_rowOf_21 Q z0 x0 x2) : va_P D vwCl [] s.heap → ∀ (ls : Array Slot), lv_has ls 5 [(0, .int x0), (2, .int x2)] → W p l e (headSpec wsX5_rowOf rm_X5_rowOf).room s m args below meth c s.heap [] 0 0 (MQ below (vp_Si Q) args s 0 0 (fun _ => False)) (F0 m 21 ls [.int z0]) := by
  obtain ⟨hx, hb, hr, hml, hown, hts, hlocks⟩ := id C
  intro hP ls hl
  unfold wp_X5_rowOf_21 at h
  refine lv_istore_n (lv' := [(3, .int z0), (0, .int x0), (2, .int x2)]) hx hb dX5_rowOf_21 rfl hl (by decide) rfl (fun ls hl => ?_)
  refine lv_iload_n hx hb dX5_rowOf_22 rfl (lv_at hl 1 rfl) ?_
  refine tm_rS (As := [.int x0]) (rest := []) (wc := []) ⟨hx, hb, hml, hown, hts⟩ (cn_X5_hasRight l D cI cB x0 _ h) (va_cwS 1 hts gX5_rowOf_X5_hasRight rfl rfl rfl (by decide +kernel) ⟨Nat.le_of_ble_eq_true rfl, Nat.le_of_ble_eq_true rfl⟩) hK (hP.sub [] rfl) rfl hl.1 rfl (Nat.le_of_ble_eq_true rfl) ⟨Nat.zero_le _, Nat.zero_le _⟩ dX5_rowOf_23 (fun r5 h => ?_)
  obtain ⟨br5, h⟩ := h
  refine lv_if_eq (tgt := 33) hx hb dX5_rowOf_26 (by decide) (fun c6 => ?_) (fun c6 => ?_)
  · have h := h.1 c6
    refine lv_iconst (v := 0) hx hb dX5_rowOf_33 (by decide) ?_
    exact bk_X5_rowOf_34 C hK 0 x0 z0 h hP ls (lv_sub hl [1, 0] rfl)
  · have h := h.2 c6
    refine lv_iload_n hx hb dX5_rowOf_29 rfl (lv_at hl 2 rfl) ?_
    refine lv_goto (tgt := 34) hx hb dX5_rowOf_30 (by decide) ?_
    exact bk_X5_rowOf_34 C hK x2 x0 z0 h hP ls (lv_sub hl [1, 0] rfl)
def wp_X5_rowOf_in (Q : Int32 → Prop) (x0 : Int32) (x1 : Int32) (x2 : Int32) : Prop :=
  wp_X5_isSymbol x0 (fun r1 => ((r1 = 0 → Q (-1)) ∧ (¬ (r1 = 0) → wp_X5_hasLeft x0 (fun r3 => ((r3 = 0 → wp_X5_rowOf_21 Q 0 x0 x2) ∧ (¬ (r3 = 0) → wp_X5_rowOf_21 Q x1 x0 x2))))))
set_option maxRecDepth 100000 in
set_option maxHeartbeats 4000000 in
theorem bk_X5_rowOf_in {p : Program} {l : Launch} {e : Env} {s : State} {m : MethodId} {args : Array Value} {below : List Frame} {meth : Method} {c : Code} {D : va_G} {cI cB : ClassId} {Q : Int32 → Prop} (C : tm_cx p s m args meth c cX5_rowOf 5 (some .int) RX5 wsX5_rowOf) (hK : tm_kx D cI cB s) (x0 : Int32) (x1 : Int32) (x2 : Int32) (h : wp_X5_rowOf_in Q x0 x1 x2) : va_P D vwCl [] s.heap → ∀ (ls : Array Slot), lv_has ls 5 [(0, .int x0), (1, .int x1), (2, .int x2)] → W p l e (headSpec wsX5_rowOf rm_X5_rowOf).room s m args below meth c s.heap [] 0 0 (MQ below (vp_Si Q) args s 0 0 (fun _ => False)) (F0 m 0 ls []) := by
  obtain ⟨hx, hb, hr, hml, hown, hts, hlocks⟩ := id C
  intro hP ls hl
  unfold wp_X5_rowOf_in at h
  refine lv_iload_n hx hb dX5_rowOf_0 rfl (lv_at hl 0 rfl) ?_
  refine tm_rS (As := [.int x0]) (rest := []) (wc := []) ⟨hx, hb, hml, hown, hts⟩ (cn_X5_isSymbol l D cI cB x0 _ h) (va_cwS 1 hts gX5_rowOf_X5_isSymbol rfl rfl rfl (by decide +kernel) ⟨Nat.le_of_ble_eq_true rfl, Nat.le_of_ble_eq_true rfl⟩) hK (hP.sub [] rfl) rfl hl.1 rfl (Nat.le_of_ble_eq_true rfl) ⟨Nat.zero_le _, Nat.zero_le _⟩ dX5_rowOf_1 (fun r1 h => ?_)
  obtain ⟨br1, h⟩ := h
  refine lv_if_ne (tgt := 9) hx hb dX5_rowOf_4 (by decide) (fun c2 => ?_) (fun c2 => ?_)
  · have h := h.2 c2
    refine lv_iload_n hx hb dX5_rowOf_9 rfl (lv_at hl 0 rfl) ?_
    refine tm_rS (As := [.int x0]) (rest := []) (wc := []) ⟨hx, hb, hml, hown, hts⟩ (cn_X5_hasLeft l D cI cB x0 _ h) (va_cwS 1 hts gX5_rowOf_X5_hasLeft rfl rfl rfl (by decide +kernel) ⟨Nat.le_of_ble_eq_true rfl, Nat.le_of_ble_eq_true rfl⟩) hK (hP.sub [] rfl) rfl hl.1 rfl (Nat.le_of_ble_eq_true rfl) ⟨Nat.zero_le _, Nat.zero_le _⟩ dX5_rowOf_10 (fun r3 h => ?_)
    obtain ⟨br3, h⟩ := h
    refine lv_if_eq (tgt := 20) hx hb dX5_rowOf_13 (by decide) (fun c4 => ?_) (fun c4 => ?_)
    · have h := h.1 c4
      refine lv_iconst (v := 0) hx hb dX5_rowOf_20 (by decide) ?_
      exact bk_X5_rowOf_21 C hK 0 x0 x2 h hP ls (lv_sub hl [0, 2] rfl)
    · have h := h.2 c4
      refine lv_iload_n hx hb dX5_rowOf_16 rfl (lv_at hl 1 rfl) ?_
      refine lv_goto (tgt := 21) hx hb dX5_rowOf_17 (by decide) ?_
      exact bk_X5_rowOf_21 C hK x1 x0 x2 h hP ls (lv_sub hl [0, 2] rfl)
  · have h := h.1 c2
    refine lv_iconst (v := (-1)) hx hb dX5_rowOf_7 (by decide) ?_
    exact W.iret (v := (-1)) hx hb hr (fun t ht hW => ⟨(-1), rfl, h, ht⟩) (fun _ h => by cases h) dX5_rowOf_8
abbrev wp_X5_rowOf (x0 : Int32) (x1 : Int32) (x2 : Int32) (Q : Int32 → Prop) : Prop := wp_X5_rowOf_in Q x0 x1 x2
set_option maxRecDepth 100000 in
set_option maxHeartbeats 4000000 in
theorem cn_X5_rowOf (l : Launch) (D : va_G) (cI cB : ClassId) (x0 : Int32) (x1 : Int32) (x2 : Int32) (Q : Int32 → Prop) (h : wp_X5_rowOf x0 x1 x2 Q) : Met l yX5_rowOf wsX5_rowOf rm_X5_rowOf (tm_Pr D cI cB [.int x0, .int x1, .int x2] []) (vp_Si Q) 0 0 (fun _ => False) := by
  refine Met.ofW (cc := cX5_rowOf) (maxL := 5) (ret := (some .int)) (by decide) rfl ?_
  intro p e s m args below meth c s₁ B hml hv
  obtain ⟨rfl, hP, hK⟩ := hv
  have hl := lv_entry ([.int x0, .int x1, .int x2]) (n := 5) (Nat.le_of_ble_eq_true rfl)
  rw [lg_entry_eq]
  generalize (lg_sl ([.int x0, .int x1, .int x2]) ++ List.replicate (5 - (lg_sl ([.int x0, .int x1, .int x2])).length) Slot.unset).toArray = ls at hl ⊢
  have hl : lv_has ls 5 [(0, .int x0), (1, .int x1), (2, .int x2)] := hl
  exact bk_X5_rowOf_in ⟨B.exec, B.bytes, B.returns, hml, findClass_of_methodNamed B.named, atoms_spec (ws := wsX5_rowOf) B.pre, B.notSynchronized⟩ hK x0 x1 x2 h hP ls hl

/-! X3_leads (II)Z -/
theorem in_X3_leads_X3 : ∀ w ∈ u_ws RX3 TX3 3, w ∈ wsX3_leads := by decide +kernel
abbrev rm_X3_leads : Room := { frames := 0, cells := 0, slots := 0, locals := 0 }
def wp_X3_leads_in (v_Go : Int32) (v_Ta : Nat → Int32) (Q : Int32 → Prop) (x1 : Int32) (x2 : Int32) : Prop :=
  vp_in x1 128 ∧ (((((v_Ta (x1).toNatClampNeg) >>> (x2 &&& 31)) &&& 1) = 1 → Q 1) ∧ (¬ ((((v_Ta (x1).toNatClampNeg) >>> (x2 &&& 31)) &&& 1) = 1) → Q 0))
set_option maxRecDepth 100000 in
set_option maxHeartbeats 4000000 in
theorem bk_X3_leads_in {p : Program} {l : Launch} {e : Env} {s : State} {m : MethodId} {args : Array Value} {below : List Frame} {meth : Method} {c : Code} {D : va_G} {cI cB : ClassId} {a_o a_Ta a_Re : Nat} {v_Go : Int32} {v_Ta : Nat → Int32} {Q : Int32 → Prop} (C : tm_cx p s m args meth c cX3_leads 3 (some .boolean) RX3 wsX3_leads) (hK : tm_kx D cI cB s) (x1 : Int32) (x2 : Int32) (h : wp_X3_leads_in v_Go v_Ta Q x1 x2) : va_P D vwCl [(a_o, .inr (3, [.ref a_Ta, .ref a_Re, .int v_Go])), (a_Ta, .inl (cI, 128, .inl v_Ta))] s.heap → ∀ (ls : Array Slot), lv_has ls 3 [(0, .ref a_o), (1, .int x1), (2, .int x2)] → W p l e (headSpec wsX3_leads rm_X3_leads).room s m args below meth c s.heap [] 0 0 (MQ below (vp_Si (fun r => (r = 0 ∨ r = 1) ∧ Q r)) args s 0 0 (fun _ => False)) (F0 m 0 ls []) := by
  obtain ⟨hx, hb, hr, hml, hown, hts, hlocks⟩ := id C
  intro hP ls hl
  unfold wp_X3_leads_in at h
  refine lv_aload_n hx hb dX3_leads_0 rfl (lv_at hl 0 rfl) ?_
  refine va_get (D := D) (ci := 3) (v := .ref a_Ta) (C := RX3) (T := TX3) (N := 3) hx hb hts in_X3_leads_X3 hown hK.1 hP 0 rfl rfl 0 (by decide) (hts (.fieldLink RX3 9 "TreeMachines$Machine" "targets" "[I") (by decide +kernel)) (fun _ h9 => h9) rfl dX3_leads_1 ?_
  refine lv_iload_n hx hb dX3_leads_4 rfl (lv_at hl 1 rfl) ?_
  obtain ⟨b1, h⟩ := h
  refine va_iald hx hb hK.1 hP 1 0 rfl rfl b1 dX3_leads_5 ?_
  refine lv_iload_n hx hb dX3_leads_6 rfl (lv_at hl 2 rfl) ?_
  refine lv_ishr hx hb dX3_leads_7 ?_
  refine lv_iconst (v := 1) hx hb dX3_leads_8 (by decide) ?_
  refine lv_iand (x := ((v_Ta (x1).toNatClampNeg) >>> (x2 &&& 31))) (y := 1) hx hb dX3_leads_9 ?_
  refine lv_iconst (v := 1) hx hb dX3_leads_10 (by decide) ?_
  refine lv_icmp_ne (tgt := 18) hx hb dX3_leads_11 (by decide) (fun c2 => ?_) (fun c2 => ?_)
  · have h := h.2 c2
    refine lv_iconst (v := 0) hx hb dX3_leads_18 (by decide) ?_
    exact W.zret (v := 0) (ty := .boolean) hx hb hr (tm_n01 (Or.inl rfl)) (fun t ht hW => ⟨0, rfl, ⟨Or.inl rfl, h⟩, ht⟩) (fun _ h => by cases h) dX3_leads_19
  · have h := h.1 c2
    refine lv_iconst (v := 1) hx hb dX3_leads_14 (by decide) ?_
    refine lv_goto (tgt := 19) hx hb dX3_leads_15 (by decide) ?_
    exact W.zret (v := 1) (ty := .boolean) hx hb hr (tm_n01 (Or.inr rfl)) (fun t ht hW => ⟨1, rfl, ⟨Or.inr rfl, h⟩, ht⟩) (fun _ h => by cases h) dX3_leads_19
abbrev wp_X3_leads (v_Go : Int32) (v_Ta : Nat → Int32) (x1 : Int32) (x2 : Int32) (Q : Int32 → Prop) : Prop := wp_X3_leads_in v_Go v_Ta Q x1 x2
set_option maxRecDepth 100000 in
set_option maxHeartbeats 4000000 in
theorem cn_X3_leads (l : Launch) (D : va_G) (cI cB : ClassId) (a_o a_Ta a_Re : Nat) (v_Go : Int32) (v_Ta : Nat → Int32) (x1 : Int32) (x2 : Int32) (Q : Int32 → Prop) (h : wp_X3_leads v_Go v_Ta x1 x2 Q) : Met l yX3_leads wsX3_leads rm_X3_leads (tm_Pr D cI cB [.ref a_o, .int x1, .int x2] [(a_o, .inr (3, [.ref a_Ta, .ref a_Re, .int v_Go])), (a_Ta, .inl (cI, 128, .inl v_Ta))]) (vp_Si (fun r => (r = 0 ∨ r = 1) ∧ Q r)) 0 0 (fun _ => False) := by
  refine Met.ofW (cc := cX3_leads) (maxL := 3) (ret := (some .boolean)) (by decide) rfl ?_
  intro p e s m args below meth c s₁ B hml hv
  obtain ⟨rfl, hP, hK⟩ := hv
  have hl := lv_entry ([.ref a_o, .int x1, .int x2]) (n := 3) (Nat.le_of_ble_eq_true rfl)
  rw [lg_entry_eq]
  generalize (lg_sl ([.ref a_o, .int x1, .int x2]) ++ List.replicate (3 - (lg_sl ([.ref a_o, .int x1, .int x2])).length) Slot.unset).toArray = ls at hl ⊢
  have hl : lv_has ls 3 [(0, .ref a_o), (1, .int x1), (2, .int x2)] := hl
  exact bk_X3_leads_in ⟨B.exec, B.bytes, B.returns, hml, findClass_of_methodNamed B.named, atoms_spec (ws := wsX3_leads) B.pre, B.notSynchronized⟩ hK x1 x2 h hP ls hl

/-! X3_cell (III)I -/
abbrev rm_X3_cell : Room := { frames := 0, cells := 0, slots := 0, locals := 0 }
def wp_X3_cell_in (Q : Int32 → Prop) (x0 : Int32) (x1 : Int32) (x2 : Int32) : Prop :=
  Q ((((x0 * 16) + x1) * 16) + x2)
set_option maxRecDepth 100000 in
set_option maxHeartbeats 4000000 in
theorem bk_X3_cell_in {p : Program} {l : Launch} {e : Env} {s : State} {m : MethodId} {args : Array Value} {below : List Frame} {meth : Method} {c : Code} {D : va_G} {cI cB : ClassId} {Q : Int32 → Prop} (C : tm_cx p s m args meth c cX3_cell 3 (some .int) RX3 wsX3_cell) (hK : tm_kx D cI cB s) (x0 : Int32) (x1 : Int32) (x2 : Int32) (h : wp_X3_cell_in Q x0 x1 x2) : va_P D vwCl [] s.heap → ∀ (ls : Array Slot), lv_has ls 3 [(0, .int x0), (1, .int x1), (2, .int x2)] → W p l e (headSpec wsX3_cell rm_X3_cell).room s m args below meth c s.heap [] 0 0 (MQ below (vp_Si Q) args s 0 0 (fun _ => False)) (F0 m 0 ls []) := by
  obtain ⟨hx, hb, hr, hml, hown, hts, hlocks⟩ := id C
  intro hP ls hl
  unfold wp_X3_cell_in at h
  refine lv_iload_n hx hb dX3_cell_0 rfl (lv_at hl 0 rfl) ?_
  refine lv_bipush (v := 16) hx hb dX3_cell_1 (by decide) ?_
  refine lv_imul (x := x0) (y := 16) hx hb dX3_cell_3 ?_
  refine lv_iload_n hx hb dX3_cell_4 rfl (lv_at hl 1 rfl) ?_
  refine lv_iadd hx hb dX3_cell_5 ?_
  refine lv_bipush (v := 16) hx hb dX3_cell_6 (by decide) ?_
  refine lv_imul (x := ((x0 * 16) + x1)) (y := 16) hx hb dX3_cell_8 ?_
  refine lv_iload_n hx hb dX3_cell_9 rfl (lv_at hl 2 rfl) ?_
  refine lv_iadd hx hb dX3_cell_10 ?_
  exact W.iret (v := ((((x0 * 16) + x1) * 16) + x2)) hx hb hr (fun t ht hW => ⟨((((x0 * 16) + x1) * 16) + x2), rfl, h, ht⟩) (fun _ h => by cases h) dX3_cell_11
abbrev wp_X3_cell (x0 : Int32) (x1 : Int32) (x2 : Int32) (Q : Int32 → Prop) : Prop := wp_X3_cell_in Q x0 x1 x2
set_option maxRecDepth 100000 in
set_option maxHeartbeats 4000000 in
theorem cn_X3_cell (l : Launch) (D : va_G) (cI cB : ClassId) (x0 : Int32) (x1 : Int32) (x2 : Int32) (Q : Int32 → Prop) (h : wp_X3_cell x0 x1 x2 Q) : Met l yX3_cell wsX3_cell rm_X3_cell (tm_Pr D cI cB [.int x0, .int x1, .int x2] []) (vp_Si Q) 0 0 (fun _ => False) := by
  refine Met.ofW (cc := cX3_cell) (maxL := 3) (ret := (some .int)) (by decide) rfl ?_
  intro p e s m args below meth c s₁ B hml hv
  obtain ⟨rfl, hP, hK⟩ := hv
  have hl := lv_entry ([.int x0, .int x1, .int x2]) (n := 3) (Nat.le_of_ble_eq_true rfl)
  rw [lg_entry_eq]
  generalize (lg_sl ([.int x0, .int x1, .int x2]) ++ List.replicate (3 - (lg_sl ([.int x0, .int x1, .int x2])).length) Slot.unset).toArray = ls at hl ⊢
  have hl : lv_has ls 3 [(0, .int x0), (1, .int x1), (2, .int x2)] := hl
  exact bk_X3_cell_in ⟨B.exec, B.bytes, B.returns, hml, findClass_of_methodNamed B.named, atoms_spec (ws := wsX3_cell) B.pre, B.notSynchronized⟩ hK x0 x1 x2 h hP ls hl

/-! X4_profileOf (III)I -/
theorem in_X4_profileOf_X3 : ∀ w ∈ u_ws RX3 TX3 3, w ∈ wsX4_profileOf := by decide +kernel
theorem in_X4_profileOf_X4 : ∀ w ∈ u_ws RX4 TX4 2, w ∈ wsX4_profileOf := by decide +kernel
abbrev rm_X4_profileOf : Room := { frames := 0, cells := 0, slots := 0, locals := 0 }
def wp_X4_profileOf_in (v_fGo : Int32) (v_fRe : Nat → Int32) (v_sGo : Int32) (v_sRe : Nat → Int32) (Q : Int32 → Prop) (x1 : Int32) (x2 : Int32) (x3 : Int32) : Prop :=
  ∀ x4_1 : Int32, x4_1 = ((((x1 * 16) + (x2 &&& 15)) * 16) + (x3 &&& 15)) → ∀ x5_2 : Int32, x5_2 = ((((x1 * 16) + (x2 >>> (4 &&& 31))) * 16) + (x3 >>> (4 &&& 31))) → vp_in x4_1 2048 ∧ vp_in x5_2 2048 ∧ Q ((v_fRe (x4_1).toNatClampNeg) ||| ((v_sRe (x5_2).toNatClampNeg) <<< (4 &&& 31)))
set_option maxRecDepth 100000 in
set_option maxHeartbeats 4000000 in
theorem bk_X4_profileOf_in {p : Program} {l : Launch} {e : Env} {s : State} {m : MethodId} {args : Array Value} {below : List Frame} {meth : Method} {c : Code} {D : va_G} {cI cB : ClassId} {a_o a_f a_s a_fTa a_fRe a_sTa a_sRe : Nat} {v_fGo : Int32} {v_fRe : Nat → Int32} {v_sGo : Int32} {v_sRe : Nat → Int32} {Q : Int32 → Prop} (C : tm_cx p s m args meth c cX4_profileOf 6 (some .int) RX4 wsX4_profileOf) (hK : tm_kx D cI cB s) (x1 : Int32) (x2 : Int32) (x3 : Int32) (h : wp_X4_profileOf_in v_fGo v_fRe v_sGo v_sRe Q x1 x2 x3) : va_P D vwCl [(a_o, .inr (4, [.ref a_f, .ref a_s])), (a_f, .inr (3, [.ref a_fTa, .ref a_fRe, .int v_fGo])), (a_fRe, .inl (cI, 2048, .inl v_fRe)), (a_s, .inr (3, [.ref a_sTa, .ref a_sRe, .int v_sGo])), (a_sRe, .inl (cI, 2048, .inl v_sRe))] s.heap → ∀ (ls : Array Slot), lv_has ls 6 [(0, .ref a_o), (1, .int x1), (2, .int x2), (3, .int x3)] → W p l e (headSpec wsX4_profileOf rm_X4_profileOf).room s m args below meth c s.heap [] 0 0 (MQ below (vp_Si Q) args s 0 0 (fun _ => False)) (F0 m 0 ls []) := by
  obtain ⟨hx, hb, hr, hml, hown, hts, hlocks⟩ := id C
  intro hP ls hl
  unfold wp_X4_profileOf_in at h
  refine lv_iload_n hx hb dX4_profileOf_0 rfl (lv_at hl 1 rfl) ?_
  refine lv_bipush (v := 16) hx hb dX4_profileOf_1 (by decide) ?_
  refine lv_imul (x := x1) (y := 16) hx hb dX4_profileOf_3 ?_
  refine lv_iload_n hx hb dX4_profileOf_4 rfl (lv_at hl 2 rfl) ?_
  refine lv_bipush (v := 15) hx hb dX4_profileOf_5 (by decide) ?_
  refine lv_iand (x := x2) (y := 15) hx hb dX4_profileOf_7 ?_
  refine lv_iadd hx hb dX4_profileOf_8 ?_
  refine lv_bipush (v := 16) hx hb dX4_profileOf_9 (by decide) ?_
  refine lv_imul (x := ((x1 * 16) + (x2 &&& 15))) (y := 16) hx hb dX4_profileOf_11 ?_
  refine lv_iload_n hx hb dX4_profileOf_12 rfl (lv_at hl 3 rfl) ?_
  refine lv_bipush (v := 15) hx hb dX4_profileOf_13 (by decide) ?_
  refine lv_iand (x := x3) (y := 15) hx hb dX4_profileOf_15 ?_
  refine lv_iadd hx hb dX4_profileOf_16 ?_
  refine lv_topi (fun x4_1 ex4_1 => ?_)
  have h := h x4_1 ex4_1
  refine lv_istore (lv' := [(4, .int x4_1), (0, .ref a_o), (1, .int x1), (2, .int x2), (3, .int x3)]) hx hb dX4_profileOf_17 hl (by decide) rfl (fun ls hl => ?_)
  refine lv_iload_n hx hb dX4_profileOf_19 rfl (lv_at hl 2 rfl) ?_
  refine lv_bipush (v := 16) hx hb dX4_profileOf_20 (by decide) ?_
  refine lv_imul (x := x1) (y := 16) hx hb dX4_profileOf_22 ?_
  refine lv_iload_n hx hb dX4_profileOf_23 rfl (lv_at hl 3 rfl) ?_
  refine lv_iconst (v := 4) hx hb dX4_profileOf_24 (by decide) ?_
  refine lv_ishr (x := x2) (y := 4) hx hb dX4_profileOf_25 ?_
  refine lv_iadd hx hb dX4_profileOf_26 ?_
  refine lv_bipush (v := 16) hx hb dX4_profileOf_27 (by decide) ?_
  refine lv_imul (x := ((x1 * 16) + (x2 >>> (4 &&& 31)))) (y := 16) hx hb dX4_profileOf_29 ?_
  refine lv_iload_n hx hb dX4_profileOf_30 rfl (lv_at hl 4 rfl) ?_
  refine lv_iconst (v := 4) hx hb dX4_profileOf_31 (by decide) ?_
  refine lv_ishr (x := x3) (y := 4) hx hb dX4_profileOf_32 ?_
  refine lv_iadd hx hb dX4_profileOf_33 ?_
  refine lv_topi (fun x5_2 ex5_2 => ?_)
  have h := h x5_2 ex5_2
  refine lv_istore (lv' := [(5, .int x5_2), (4, .int x4_1), (0, .ref a_o), (1, .int x1), (2, .int x2), (3, .int x3)]) hx hb dX4_profileOf_34 hl (by decide) rfl (fun ls hl => ?_)
  refine lv_aload_n hx hb dX4_profileOf_36 rfl (lv_at hl 2 rfl) ?_
  refine va_get (D := D) (ci := 4) (v := .ref a_f) (C := RX4) (T := TX4) (N := 2) hx hb hts in_X4_profileOf_X4 hown hK.1 hP 0 rfl rfl 0 (by decide) (hts (.fieldLink RX4 12 "TreeMachines$Pair" "first" "LTreeMachines$Machine;") (by decide +kernel)) (fun _ h9 => h9) rfl dX4_profileOf_37 ?_
  refine va_get (D := D) (ci := 3) (v := .ref a_fRe) (C := RX3) (T := TX3) (N := 3) hx hb hts in_X4_profileOf_X3 hown hK.1 hP 1 rfl rfl 1 (by decide) (hts (.fieldLink RX4 21 "TreeMachines$Machine" "reachable" "[I") (by decide +kernel)) (fun _ h9 => h9) rfl dX4_profileOf_40 ?_
  refine lv_iload hx hb dX4_profileOf_43 (lv_at hl 1 rfl) ?_
  obtain ⟨b3, h⟩ := h
  refine va_iald hx hb hK.1 hP 2 0 rfl rfl b3 dX4_profileOf_45 ?_
  refine lv_aload_n hx hb dX4_profileOf_46 rfl (lv_at hl 2 rfl) ?_
  refine va_get (D := D) (ci := 4) (v := .ref a_s) (C := RX4) (T := TX4) (N := 2) hx hb hts in_X4_profileOf_X4 hown hK.1 hP 0 rfl rfl 1 (by decide) (hts (.fieldLink RX4 18 "TreeMachines$Pair" "second" "LTreeMachines$Machine;") (by decide +kernel)) (fun _ h9 => h9) rfl dX4_profileOf_47 ?_
  refine va_get (D := D) (ci := 3) (v := .ref a_sRe) (C := RX3) (T := TX3) (N := 3) hx hb hts in_X4_profileOf_X3 hown hK.1 hP 3 rfl rfl 1 (by decide) (hts (.fieldLink RX4 21 "TreeMachines$Machine" "reachable" "[I") (by decide +kernel)) (fun _ h9 => h9) rfl dX4_profileOf_50 ?_
  refine lv_iload hx hb dX4_profileOf_53 (lv_at hl 0 rfl) ?_
  obtain ⟨b4, h⟩ := h
  refine va_iald hx hb hK.1 hP 4 0 rfl rfl b4 dX4_profileOf_55 ?_
  refine lv_iconst (v := 4) hx hb dX4_profileOf_56 (by decide) ?_
  refine lv_ishl (x := (v_sRe (x5_2).toNatClampNeg)) (y := 4) hx hb dX4_profileOf_57 ?_
  refine lv_ior hx hb dX4_profileOf_58 ?_
  exact W.iret (v := ((v_fRe (x4_1).toNatClampNeg) ||| ((v_sRe (x5_2).toNatClampNeg) <<< (4 &&& 31)))) hx hb hr (fun t ht hW => ⟨((v_fRe (x4_1).toNatClampNeg) ||| ((v_sRe (x5_2).toNatClampNeg) <<< (4 &&& 31))), rfl, h, ht⟩) (fun _ h => by cases h) dX4_profileOf_59
abbrev wp_X4_profileOf (v_fGo : Int32) (v_fRe : Nat → Int32) (v_sGo : Int32) (v_sRe : Nat → Int32) (x1 : Int32) (x2 : Int32) (x3 : Int32) (Q : Int32 → Prop) : Prop := wp_X4_profileOf_in v_fGo v_fRe v_sGo v_sRe Q x1 x2 x3
set_option maxRecDepth 100000 in
set_option maxHeartbeats 4000000 in
theorem cn_X4_profileOf (l : Launch) (D : va_G) (cI cB : ClassId) (a_o a_f a_s a_fTa a_fRe a_sTa a_sRe : Nat) (v_fGo : Int32) (v_fRe : Nat → Int32) (v_sGo : Int32) (v_sRe : Nat → Int32) (x1 : Int32) (x2 : Int32) (x3 : Int32) (Q : Int32 → Prop) (h : wp_X4_profileOf v_fGo v_fRe v_sGo v_sRe x1 x2 x3 Q) : Met l yX4_profileOf wsX4_profileOf rm_X4_profileOf (tm_Pr D cI cB [.ref a_o, .int x1, .int x2, .int x3] [(a_o, .inr (4, [.ref a_f, .ref a_s])), (a_f, .inr (3, [.ref a_fTa, .ref a_fRe, .int v_fGo])), (a_fRe, .inl (cI, 2048, .inl v_fRe)), (a_s, .inr (3, [.ref a_sTa, .ref a_sRe, .int v_sGo])), (a_sRe, .inl (cI, 2048, .inl v_sRe))]) (vp_Si Q) 0 0 (fun _ => False) := by
  refine Met.ofW (cc := cX4_profileOf) (maxL := 6) (ret := (some .int)) (by decide) rfl ?_
  intro p e s m args below meth c s₁ B hml hv
  obtain ⟨rfl, hP, hK⟩ := hv
  have hl := lv_entry ([.ref a_o, .int x1, .int x2, .int x3]) (n := 6) (Nat.le_of_ble_eq_true rfl)
  rw [lg_entry_eq]
  generalize (lg_sl ([.ref a_o, .int x1, .int x2, .int x3]) ++ List.replicate (6 - (lg_sl ([.ref a_o, .int x1, .int x2, .int x3])).length) Slot.unset).toArray = ls at hl ⊢
  have hl : lv_has ls 6 [(0, .ref a_o), (1, .int x1), (2, .int x2), (3, .int x3)] := hl
  exact bk_X4_profileOf_in ⟨B.exec, B.bytes, B.returns, hml, findClass_of_methodNamed B.named, atoms_spec (ws := wsX4_profileOf) B.pre, B.notSynchronized⟩ hK x1 x2 x3 h hP ls hl

/-! X4_numbered (I)LTreeMachines$Machine; -/
theorem in_X4_numbered_X4 : ∀ w ∈ u_ws RX4 TX4 2, w ∈ wsX4_numbered := by decide +kernel
abbrev rm_X4_numbered : Room := { frames := 0, cells := 0, slots := 0, locals := 0 }
def wp_X4_numbered_in (Q : Nat → Prop) (x1 : Int32) : Prop :=
  ((x1 = 0 → Q 0) ∧ (¬ (x1 = 0) → ((x1 = 1 → Q 1) ∧ (¬ (x1 = 1) → Q 2))))
set_option maxRecDepth 100000 in
set_option maxHeartbeats 4000000 in
theorem bk_X4_numbered_in {p : Program} {l : Launch} {e : Env} {s : State} {m : MethodId} {args : Array Value} {below : List Frame} {meth : Method} {c : Code} {D : va_G} {cI cB : ClassId} {a_o a_f a_s : Nat} {Q : Nat → Prop} (C : tm_cx p s m args meth c cX4_numbered 2 (some (.object "TreeMachines$Machine")) RX4 wsX4_numbered) (hK : tm_kx D cI cB s) (x1 : Int32) (h : wp_X4_numbered_in Q x1) : va_P D vwCl [(a_o, .inr (4, [.ref a_f, .ref a_s]))] s.heap → ∀ (ls : Array Slot), lv_has ls 2 [(0, .ref a_o), (1, .int x1)] → W p l e (headSpec wsX4_numbered rm_X4_numbered).room s m args below meth c s.heap [] 0 0 (MQ below (va_Sr (fun k => (k = 0 ∨ k = 1 ∨ k = 2) ∧ Q k) (tm_adN a_f a_s)) args s 0 0 (fun _ => False)) (F0 m 0 ls []) := by
  obtain ⟨hx, hb, hr, hml, hown, hts, hlocks⟩ := id C
  intro hP ls hl
  unfold wp_X4_numbered_in at h
  refine lv_iload_n hx hb dX4_numbered_0 rfl (lv_at hl 1 rfl) ?_
  refine lv_if_ne (tgt := 9) hx hb dX4_numbered_1 (by decide) (fun c1 => ?_) (fun c1 => ?_)
  · have h := h.2 c1
    refine lv_iload_n hx hb dX4_numbered_9 rfl (lv_at hl 1 rfl) ?_
    refine lv_iconst (v := 1) hx hb dX4_numbered_10 (by decide) ?_
    refine lv_icmp_ne (tgt := 21) hx hb dX4_numbered_11 (by decide) (fun c2 => ?_) (fun c2 => ?_)
    · have h := h.2 c2
      refine lv_null hx hb dX4_numbered_21 ?_
      exact W.aret (v := .null) hx hb hr (Or.inl ⟨_, rfl⟩) (Or.inl rfl) (fun t ht hW => ⟨2, rfl, ⟨Or.inr (Or.inr rfl), h⟩, ht⟩) (fun _ h => by cases h) dX4_numbered_22
    · have h := h.1 c2
      refine lv_aload_n hx hb dX4_numbered_14 rfl (lv_at hl 0 rfl) ?_
      refine va_get (D := D) (ci := 4) (v := .ref a_s) (C := RX4) (T := TX4) (N := 2) hx hb hts in_X4_numbered_X4 hown hK.1 hP 0 rfl rfl 1 (by decide) (hts (.fieldLink RX4 18 "TreeMachines$Pair" "second" "LTreeMachines$Machine;") (by decide +kernel)) (fun _ h9 => h9) rfl dX4_numbered_15 ?_
      refine lv_goto (tgt := 22) hx hb dX4_numbered_18 (by decide) ?_
      exact W.aret (v := .ref a_s) hx hb hr (Or.inl ⟨_, rfl⟩) (Or.inr ⟨_, rfl⟩) (fun t ht hW => ⟨1, rfl, ⟨Or.inr (Or.inl rfl), h⟩, ht⟩) (fun _ h => by cases h) dX4_numbered_22
  · have h := h.1 c1
    refine lv_aload_n hx hb dX4_numbered_4 rfl (lv_at hl 0 rfl) ?_
    refine va_get (D := D) (ci := 4) (v := .ref a_f) (C := RX4) (T := TX4) (N := 2) hx hb hts in_X4_numbered_X4 hown hK.1 hP 0 rfl rfl 0 (by decide) (hts (.fieldLink RX4 12 "TreeMachines$Pair" "first" "LTreeMachines$Machine;") (by decide +kernel)) (fun _ h9 => h9) rfl dX4_numbered_5 ?_
    exact W.aret (v := .ref a_f) hx hb hr (Or.inl ⟨_, rfl⟩) (Or.inr ⟨_, rfl⟩) (fun t ht hW => ⟨0, rfl, ⟨Or.inl rfl, h⟩, ht⟩) (fun _ h => by cases h) dX4_numbered_8
abbrev wp_X4_numbered (x1 : Int32) (Q : Nat → Prop) : Prop := wp_X4_numbered_in Q x1
set_option maxRecDepth 100000 in
set_option maxHeartbeats 4000000 in
theorem cn_X4_numbered (l : Launch) (D : va_G) (cI cB : ClassId) (a_o a_f a_s : Nat) (x1 : Int32) (Q : Nat → Prop) (h : wp_X4_numbered x1 Q) : Met l yX4_numbered wsX4_numbered rm_X4_numbered (tm_Pr D cI cB [.ref a_o, .int x1] [(a_o, .inr (4, [.ref a_f, .ref a_s]))]) (va_Sr (fun k => (k = 0 ∨ k = 1 ∨ k = 2) ∧ Q k) (tm_adN a_f a_s)) 0 0 (fun _ => False) := by
  refine Met.ofW (cc := cX4_numbered) (maxL := 2) (ret := (some (.object "TreeMachines$Machine"))) (by decide) rfl ?_
  intro p e s m args below meth c s₁ B hml hv
  obtain ⟨rfl, hP, hK⟩ := hv
  have hl := lv_entry ([.ref a_o, .int x1]) (n := 2) (Nat.le_of_ble_eq_true rfl)
  rw [lg_entry_eq]
  generalize (lg_sl ([.ref a_o, .int x1]) ++ List.replicate (2 - (lg_sl ([.ref a_o, .int x1])).length) Slot.unset).toArray = ls at hl ⊢
  have hl : lv_has ls 2 [(0, .ref a_o), (1, .int x1)] := hl
  exact bk_X4_numbered_in ⟨B.exec, B.bytes, B.returns, hml, findClass_of_methodNamed B.named, atoms_spec (ws := wsX4_numbered) B.pre, B.notSynchronized⟩ hK x1 h hP ls hl
end
