-- ===== PART A: goes FIRST, ahead of the names: the tables' words, and 'selects' of the private methods out of them =====
/-- a private method of a class that the tables say can be made, by its rows of tables_1 -/
def lw_okq (q : MethodName × Nat) : Prop := (q.1.cls ≠ "java/lang/invoke/MethodHandle" ∧ q.1.cls ≠ "java/lang/invoke/VarHandle") ∧ Cond.instantiable q.1.cls q.2 ∈ tables_1 ∧ Cond.privateMethod q.1 ∈ tables_1 ∧ Cond.instanceMethod q.1 ∈ tables_1
theorem lw_p0 : lw_okq (⟨"CoverOrder$Text", "fits", "(IJ)Z"⟩, 1) := ⟨⟨by decide +kernel, by decide +kernel⟩, List.mem_of_getElem? (i := 25) (by decide +kernel), List.mem_of_getElem? (i := 238) (by decide +kernel), List.mem_of_getElem? (i := 239) (by decide +kernel)⟩
theorem lw_p1 : lw_okq (⟨"CoverOrder$Text", "figureAt", "(I)I"⟩, 1) := ⟨⟨by decide +kernel, by decide +kernel⟩, List.mem_of_getElem? (i := 25) (by decide +kernel), List.mem_of_getElem? (i := 246) (by decide +kernel), List.mem_of_getElem? (i := 247) (by decide +kernel)⟩
theorem lw_p2 : lw_okq (⟨"CoverOrder", "learnCovers", "()V"⟩, 13) := ⟨⟨by decide +kernel, by decide +kernel⟩, List.mem_of_getElem? (i := 17) (by decide +kernel), List.mem_of_getElem? (i := 413) (by decide +kernel), List.mem_of_getElem? (i := 414) (by decide +kernel)⟩
theorem lw_p3 : lw_okq (⟨"CoverOrder$Walk", "startsOfLateWays", "(I)I"⟩, 3) := ⟨⟨by decide +kernel, by decide +kernel⟩, List.mem_of_getElem? (i := 111) (by decide +kernel), List.mem_of_getElem? (i := 505) (by decide +kernel), List.mem_of_getElem? (i := 506) (by decide +kernel)⟩
theorem lw_p4 : lw_okq (⟨"CoverOrder$Covers", "isInPlace", "(IILCoverOrder$Row;)Z"⟩, 4) := ⟨⟨by decide +kernel, by decide +kernel⟩, List.mem_of_getElem? (i := 90) (by decide +kernel), List.mem_of_getElem? (i := 591) (by decide +kernel), List.mem_of_getElem? (i := 592) (by decide +kernel)⟩
theorem lw_p5 : lw_okq (⟨"CoverOrder", "isDoneOrSo", "(III)Z"⟩, 13) := ⟨⟨by decide +kernel, by decide +kernel⟩, List.mem_of_getElem? (i := 17) (by decide +kernel), List.mem_of_getElem? (i := 614) (by decide +kernel), List.mem_of_getElem? (i := 615) (by decide +kernel)⟩
theorem lw_p6 : lw_okq (⟨"CoverOrder", "mayBeMissing", "(II)Z"⟩, 13) := ⟨⟨by decide +kernel, by decide +kernel⟩, List.mem_of_getElem? (i := 17) (by decide +kernel), List.mem_of_getElem? (i := 645) (by decide +kernel), List.mem_of_getElem? (i := 646) (by decide +kernel)⟩
theorem lw_p7 : lw_okq (⟨"CoverOrder", "isAllSeenIn", "(LCoverOrder$Covers;)Z"⟩, 13) := ⟨⟨by decide +kernel, by decide +kernel⟩, List.mem_of_getElem? (i := 17) (by decide +kernel), List.mem_of_getElem? (i := 649) (by decide +kernel), List.mem_of_getElem? (i := 650) (by decide +kernel)⟩
theorem lw_p8 : lw_okq (⟨"CoverOrder", "slotAt", "(I)LCoverOrder$Edges;"⟩, 13) := ⟨⟨by decide +kernel, by decide +kernel⟩, List.mem_of_getElem? (i := 17) (by decide +kernel), List.mem_of_getElem? (i := 719) (by decide +kernel), List.mem_of_getElem? (i := 720) (by decide +kernel)⟩
theorem lw_p9 : lw_okq (⟨"CoverOrder", "countCovers", "(I)I"⟩, 13) := ⟨⟨by decide +kernel, by decide +kernel⟩, List.mem_of_getElem? (i := 17) (by decide +kernel), List.mem_of_getElem? (i := 732) (by decide +kernel), List.mem_of_getElem? (i := 733) (by decide +kernel)⟩
theorem lw_p10 : lw_okq (⟨"CoverOrderModel", "readText", "()I"⟩, 22) := ⟨⟨by decide +kernel, by decide +kernel⟩, List.mem_of_getElem? (i := 744) (by decide +kernel), List.mem_of_getElem? (i := 834) (by decide +kernel), List.mem_of_getElem? (i := 835) (by decide +kernel)⟩
theorem lw_p11 : lw_okq (⟨"CoverOrderModel", "many", "(I)I"⟩, 22) := ⟨⟨by decide +kernel, by decide +kernel⟩, List.mem_of_getElem? (i := 744) (by decide +kernel), List.mem_of_getElem? (i := 840) (by decide +kernel), List.mem_of_getElem? (i := 841) (by decide +kernel)⟩
theorem lw_p12 : lw_okq (⟨"CoverOrderModel", "outOf", "(II)I"⟩, 22) := ⟨⟨by decide +kernel, by decide +kernel⟩, List.mem_of_getElem? (i := 744) (by decide +kernel), List.mem_of_getElem? (i := 844) (by decide +kernel), List.mem_of_getElem? (i := 845) (by decide +kernel)⟩
theorem lw_p13 : lw_okq (⟨"CoverOrderModel", "fromOf", "(II)I"⟩, 22) := ⟨⟨by decide +kernel, by decide +kernel⟩, List.mem_of_getElem? (i := 744) (by decide +kernel), List.mem_of_getElem? (i := 848) (by decide +kernel), List.mem_of_getElem? (i := 849) (by decide +kernel)⟩
theorem lw_p14 : lw_okq (⟨"CoverOrderModel", "find", "(III)I"⟩, 22) := ⟨⟨by decide +kernel, by decide +kernel⟩, List.mem_of_getElem? (i := 744) (by decide +kernel), List.mem_of_getElem? (i := 852) (by decide +kernel), List.mem_of_getElem? (i := 853) (by decide +kernel)⟩
theorem lw_p15 : lw_okq (⟨"CoverOrderModel", "insertOn", "(III)V"⟩, 22) := ⟨⟨by decide +kernel, by decide +kernel⟩, List.mem_of_getElem? (i := 744) (by decide +kernel), List.mem_of_getElem? (i := 856) (by decide +kernel), List.mem_of_getElem? (i := 857) (by decide +kernel)⟩
def lw_privs_1 : List (MethodName × Nat) := [(⟨"CoverOrder$Text", "fits", "(IJ)Z"⟩, 1), (⟨"CoverOrder$Text", "figureAt", "(I)I"⟩, 1), (⟨"CoverOrder", "learnCovers", "()V"⟩, 13), (⟨"CoverOrder$Walk", "startsOfLateWays", "(I)I"⟩, 3), (⟨"CoverOrder$Covers", "isInPlace", "(IILCoverOrder$Row;)Z"⟩, 4), (⟨"CoverOrder", "isDoneOrSo", "(III)Z"⟩, 13), (⟨"CoverOrder", "mayBeMissing", "(II)Z"⟩, 13), (⟨"CoverOrder", "isAllSeenIn", "(LCoverOrder$Covers;)Z"⟩, 13), (⟨"CoverOrder", "slotAt", "(I)LCoverOrder$Edges;"⟩, 13), (⟨"CoverOrder", "countCovers", "(I)I"⟩, 13), (⟨"CoverOrderModel", "readText", "()I"⟩, 22), (⟨"CoverOrderModel", "many", "(I)I"⟩, 22), (⟨"CoverOrderModel", "outOf", "(II)I"⟩, 22), (⟨"CoverOrderModel", "fromOf", "(II)I"⟩, 22), (⟨"CoverOrderModel", "find", "(III)I"⟩, 22), (⟨"CoverOrderModel", "insertOn", "(III)V"⟩, 22)]
theorem lw_r1 : ∀ q ∈ lw_privs_1, lw_okq q := List.forall_mem_cons.mpr ⟨lw_p0, List.forall_mem_cons.mpr ⟨lw_p1, List.forall_mem_cons.mpr ⟨lw_p2, List.forall_mem_cons.mpr ⟨lw_p3, List.forall_mem_cons.mpr ⟨lw_p4, List.forall_mem_cons.mpr ⟨lw_p5, List.forall_mem_cons.mpr ⟨lw_p6, List.forall_mem_cons.mpr ⟨lw_p7, List.forall_mem_cons.mpr ⟨lw_p8, List.forall_mem_cons.mpr ⟨lw_p9, List.forall_mem_cons.mpr ⟨lw_p10, List.forall_mem_cons.mpr ⟨lw_p11, List.forall_mem_cons.mpr ⟨lw_p12, List.forall_mem_cons.mpr ⟨lw_p13, List.forall_mem_cons.mpr ⟨lw_p14, List.forall_mem_cons.mpr ⟨lw_p15, fun _ h => absurd h List.not_mem_nil⟩⟩⟩⟩⟩⟩⟩⟩⟩⟩⟩⟩⟩⟩⟩⟩
theorem lw_p16 : lw_okq (⟨"CoverOrderModel", "isKnot", "(I)Z"⟩, 22) := ⟨⟨by decide +kernel, by decide +kernel⟩, List.mem_of_getElem? (i := 744) (by decide +kernel), List.mem_of_getElem? (i := 868) (by decide +kernel), List.mem_of_getElem? (i := 869) (by decide +kernel)⟩
theorem lw_p17 : lw_okq (⟨"CoverOrderModel", "findCovers", "(I)V"⟩, 22) := ⟨⟨by decide +kernel, by decide +kernel⟩, List.mem_of_getElem? (i := 744) (by decide +kernel), List.mem_of_getElem? (i := 872) (by decide +kernel), List.mem_of_getElem? (i := 873) (by decide +kernel)⟩
theorem lw_p18 : lw_okq (⟨"CoverOrderModel", "reachedBy", "(IIII)I"⟩, 22) := ⟨⟨by decide +kernel, by decide +kernel⟩, List.mem_of_getElem? (i := 744) (by decide +kernel), List.mem_of_getElem? (i := 876) (by decide +kernel), List.mem_of_getElem? (i := 877) (by decide +kernel)⟩
theorem lw_p19 : lw_okq (⟨"CoverOrderModel", "toOf", "(II)I"⟩, 22) := ⟨⟨by decide +kernel, by decide +kernel⟩, List.mem_of_getElem? (i := 744) (by decide +kernel), List.mem_of_getElem? (i := 880) (by decide +kernel), List.mem_of_getElem? (i := 881) (by decide +kernel)⟩
theorem lw_p20 : lw_okq (⟨"CoverOrderModel", "walk", "(I)V"⟩, 22) := ⟨⟨by decide +kernel, by decide +kernel⟩, List.mem_of_getElem? (i := 744) (by decide +kernel), List.mem_of_getElem? (i := 887) (by decide +kernel), List.mem_of_getElem? (i := 888) (by decide +kernel)⟩
theorem lw_p21 : lw_okq (⟨"CoverOrderModel", "lidOf", "(I)I"⟩, 22) := ⟨⟨by decide +kernel, by decide +kernel⟩, List.mem_of_getElem? (i := 744) (by decide +kernel), List.mem_of_getElem? (i := 891) (by decide +kernel), List.mem_of_getElem? (i := 892) (by decide +kernel)⟩
theorem lw_p22 : lw_okq (⟨"CoverOrderModel", "depthOf", "(I)I"⟩, 22) := ⟨⟨by decide +kernel, by decide +kernel⟩, List.mem_of_getElem? (i := 744) (by decide +kernel), List.mem_of_getElem? (i := 895) (by decide +kernel), List.mem_of_getElem? (i := 896) (by decide +kernel)⟩
theorem lw_p23 : lw_okq (⟨"CoverOrderModel", "halfOf", "(II)I"⟩, 22) := ⟨⟨by decide +kernel, by decide +kernel⟩, List.mem_of_getElem? (i := 744) (by decide +kernel), List.mem_of_getElem? (i := 902) (by decide +kernel), List.mem_of_getElem? (i := 903) (by decide +kernel)⟩
theorem lw_p24 : lw_okq (⟨"CoverOrderModel", "coveredBy", "(I)I"⟩, 22) := ⟨⟨by decide +kernel, by decide +kernel⟩, List.mem_of_getElem? (i := 744) (by decide +kernel), List.mem_of_getElem? (i := 906) (by decide +kernel), List.mem_of_getElem? (i := 907) (by decide +kernel)⟩
theorem lw_p25 : lw_okq (⟨"CoverOrderModel", "rimOf", "(II)I"⟩, 22) := ⟨⟨by decide +kernel, by decide +kernel⟩, List.mem_of_getElem? (i := 744) (by decide +kernel), List.mem_of_getElem? (i := 910) (by decide +kernel), List.mem_of_getElem? (i := 911) (by decide +kernel)⟩
theorem lw_p26 : lw_okq (⟨"CoverOrderModel", "keepAct", "()V"⟩, 22) := ⟨⟨by decide +kernel, by decide +kernel⟩, List.mem_of_getElem? (i := 744) (by decide +kernel), List.mem_of_getElem? (i := 918) (by decide +kernel), List.mem_of_getElem? (i := 919) (by decide +kernel)⟩
theorem lw_p27 : lw_okq (⟨"CoverOrderModel", "deleteOn", "(II)V"⟩, 22) := ⟨⟨by decide +kernel, by decide +kernel⟩, List.mem_of_getElem? (i := 744) (by decide +kernel), List.mem_of_getElem? (i := 926) (by decide +kernel), List.mem_of_getElem? (i := 927) (by decide +kernel)⟩
theorem lw_p28 : lw_okq (⟨"CoverOrderModel", "layTrial", "()V"⟩, 22) := ⟨⟨by decide +kernel, by decide +kernel⟩, List.mem_of_getElem? (i := 744) (by decide +kernel), List.mem_of_getElem? (i := 950) (by decide +kernel), List.mem_of_getElem? (i := 951) (by decide +kernel)⟩
theorem lw_p29 : lw_okq (⟨"CoverOrderModel", "firstWrong", "(I)I"⟩, 22) := ⟨⟨by decide +kernel, by decide +kernel⟩, List.mem_of_getElem? (i := 744) (by decide +kernel), List.mem_of_getElem? (i := 958) (by decide +kernel), List.mem_of_getElem? (i := 959) (by decide +kernel)⟩
theorem lw_p30 : lw_okq (⟨"CoverOrderModel", "isShown", "(II)Z"⟩, 22) := ⟨⟨by decide +kernel, by decide +kernel⟩, List.mem_of_getElem? (i := 744) (by decide +kernel), List.mem_of_getElem? (i := 963) (by decide +kernel), List.mem_of_getElem? (i := 964) (by decide +kernel)⟩
theorem lw_p31 : lw_okq (⟨"CoverOrderModel", "nextRow", "(I)Z"⟩, 22) := ⟨⟨by decide +kernel, by decide +kernel⟩, List.mem_of_getElem? (i := 744) (by decide +kernel), List.mem_of_getElem? (i := 967) (by decide +kernel), List.mem_of_getElem? (i := 968) (by decide +kernel)⟩
def lw_privs_2 : List (MethodName × Nat) := [(⟨"CoverOrderModel", "isKnot", "(I)Z"⟩, 22), (⟨"CoverOrderModel", "findCovers", "(I)V"⟩, 22), (⟨"CoverOrderModel", "reachedBy", "(IIII)I"⟩, 22), (⟨"CoverOrderModel", "toOf", "(II)I"⟩, 22), (⟨"CoverOrderModel", "walk", "(I)V"⟩, 22), (⟨"CoverOrderModel", "lidOf", "(I)I"⟩, 22), (⟨"CoverOrderModel", "depthOf", "(I)I"⟩, 22), (⟨"CoverOrderModel", "halfOf", "(II)I"⟩, 22), (⟨"CoverOrderModel", "coveredBy", "(I)I"⟩, 22), (⟨"CoverOrderModel", "rimOf", "(II)I"⟩, 22), (⟨"CoverOrderModel", "keepAct", "()V"⟩, 22), (⟨"CoverOrderModel", "deleteOn", "(II)V"⟩, 22), (⟨"CoverOrderModel", "layTrial", "()V"⟩, 22), (⟨"CoverOrderModel", "firstWrong", "(I)I"⟩, 22), (⟨"CoverOrderModel", "isShown", "(II)Z"⟩, 22), (⟨"CoverOrderModel", "nextRow", "(I)Z"⟩, 22)]
theorem lw_r2 : ∀ q ∈ lw_privs_2, lw_okq q := List.forall_mem_cons.mpr ⟨lw_p16, List.forall_mem_cons.mpr ⟨lw_p17, List.forall_mem_cons.mpr ⟨lw_p18, List.forall_mem_cons.mpr ⟨lw_p19, List.forall_mem_cons.mpr ⟨lw_p20, List.forall_mem_cons.mpr ⟨lw_p21, List.forall_mem_cons.mpr ⟨lw_p22, List.forall_mem_cons.mpr ⟨lw_p23, List.forall_mem_cons.mpr ⟨lw_p24, List.forall_mem_cons.mpr ⟨lw_p25, List.forall_mem_cons.mpr ⟨lw_p26, List.forall_mem_cons.mpr ⟨lw_p27, List.forall_mem_cons.mpr ⟨lw_p28, List.forall_mem_cons.mpr ⟨lw_p29, List.forall_mem_cons.mpr ⟨lw_p30, List.forall_mem_cons.mpr ⟨lw_p31, fun _ h => absurd h List.not_mem_nil⟩⟩⟩⟩⟩⟩⟩⟩⟩⟩⟩⟩⟩⟩⟩⟩
theorem lw_p32 : lw_okq (⟨"CoverOrderModel", "tryThing", "(III)Z"⟩, 22) := ⟨⟨by decide +kernel, by decide +kernel⟩, List.mem_of_getElem? (i := 744) (by decide +kernel), List.mem_of_getElem? (i := 985) (by decide +kernel), List.mem_of_getElem? (i := 986) (by decide +kernel)⟩
theorem lw_p33 : lw_okq (⟨"CoverOrderModel", "mayBe", "(II)Z"⟩, 22) := ⟨⟨by decide +kernel, by decide +kernel⟩, List.mem_of_getElem? (i := 744) (by decide +kernel), List.mem_of_getElem? (i := 1001) (by decide +kernel), List.mem_of_getElem? (i := 1002) (by decide +kernel)⟩
theorem lw_p34 : lw_okq (⟨"CoverOrderModel", "depthsTogether", "()I"⟩, 22) := ⟨⟨by decide +kernel, by decide +kernel⟩, List.mem_of_getElem? (i := 744) (by decide +kernel), List.mem_of_getElem? (i := 1031) (by decide +kernel), List.mem_of_getElem? (i := 1032) (by decide +kernel)⟩
theorem lw_p35 : lw_okq (⟨"CoverOrderModel", "greatestDepth", "()I"⟩, 22) := ⟨⟨by decide +kernel, by decide +kernel⟩, List.mem_of_getElem? (i := 744) (by decide +kernel), List.mem_of_getElem? (i := 1047) (by decide +kernel), List.mem_of_getElem? (i := 1048) (by decide +kernel)⟩
theorem lw_p36 : lw_okq (⟨"CoverOrderModel", "edgesReached", "()I"⟩, 22) := ⟨⟨by decide +kernel, by decide +kernel⟩, List.mem_of_getElem? (i := 744) (by decide +kernel), List.mem_of_getElem? (i := 1051) (by decide +kernel), List.mem_of_getElem? (i := 1052) (by decide +kernel)⟩
def lw_privs_3 : List (MethodName × Nat) := [(⟨"CoverOrderModel", "tryThing", "(III)Z"⟩, 22), (⟨"CoverOrderModel", "mayBe", "(II)Z"⟩, 22), (⟨"CoverOrderModel", "depthsTogether", "()I"⟩, 22), (⟨"CoverOrderModel", "greatestDepth", "()I"⟩, 22), (⟨"CoverOrderModel", "edgesReached", "()I"⟩, 22)]
theorem lw_r3 : ∀ q ∈ lw_privs_3, lw_okq q := List.forall_mem_cons.mpr ⟨lw_p32, List.forall_mem_cons.mpr ⟨lw_p33, List.forall_mem_cons.mpr ⟨lw_p34, List.forall_mem_cons.mpr ⟨lw_p35, List.forall_mem_cons.mpr ⟨lw_p36, fun _ h => absurd h List.not_mem_nil⟩⟩⟩⟩⟩
def lw_privs : List (MethodName × Nat) := lw_privs_1 ++ (lw_privs_2 ++ (lw_privs_3))
def lw_tbl : List Cond := k2_sels lw_privs ++ tables_1
theorem lw_privs_ok : ∀ q ∈ lw_privs, lw_okq q := by
  show ∀ q ∈ lw_privs_1 ++ (lw_privs_2 ++ (lw_privs_3)), lw_okq q
  exact List.forall_mem_append.mpr ⟨lw_r1, List.forall_mem_append.mpr ⟨lw_r2, lw_r3⟩⟩
theorem goodIn_r {big : List Cond} (ws : List Cond) (ps : List Nat) (hp : ws = ps.filterMap (fun i => big[i]?)) (h : ws.all goodWord = true) : GoodIn big ws := by
  intro w hw
  have h1 := List.all_eq_true.mp h w hw
  rw [hp] at hw
  obtain ⟨i, -, hi⟩ := List.mem_filterMap.mp hw
  have hm : w ∈ big := by first | exact List.mem_of_getElem? hi | exact List.getElem?_mem hi
  exact ⟨hm, good_of_word h1⟩
theorem goodIn_app {big a b : List Cond} (ha : GoodIn big a) (hb : GoodIn big b) : GoodIn big (a ++ b) := fun w h => (List.mem_append.mp h).elim (ha w) (hb w)
theorem goodIn_ca {big a b : List Cond} {c : Cond} (ha : GoodIn big (c :: a)) (hb : GoodIn big b) : GoodIn big (c :: (a ++ b)) := fun w h => (List.mem_cons.mp h).elim (fun e => ha w (List.mem_cons.mpr (Or.inl e))) (fun h => (List.mem_append.mp h).elim (fun h => ha w (List.mem_cons.mpr (Or.inr h))) (hb w))
theorem goodIn_sub {big ws : List Cond} (hm : ∀ w ∈ ws, w ∈ big) (h : ws.all goodWord = true) : GoodIn big ws := fun w hw => ⟨hm w hw, good_of_word (List.all_eq_true.mp h w hw)⟩
def RX0 : String := "CoverOrder$Acts"
def TX0 : u_T := fun k => match k with
  | 0 => ("CoverOrder$Acts", "deleted", "LCoverOrder$Row;", true)
  | _ => ("CoverOrder$Acts", "places", "LCoverOrder$Row;", true)
def tyX0 : Nat → FieldType := fun k => match k with
  | 0 => .object "CoverOrder$Row"
  | _ => .object "CoverOrder$Row"
abbrev wsX00 : List Cond := u_ws RX0 TX0 2
theorem nmX0 : ∀ a, a < 2 → ∀ b, b < 2 → a ≠ b → (TX0 a).2.1 ≠ (TX0 b).2.1 := by decide +kernel
theorem tyX0_ok : ∀ k, k < 2 → parseFieldDescriptor (TX0 k).2.2.1 = some (tyX0 k) := by decide +kernel
abbrev cX0_init : ByteArray := prog_2_method_1_code
def yX0_init : MethodName := ⟨RX0, "<init>", "()V"⟩
abbrev cX0_size : ByteArray := prog_2_method_2_code
def yX0_size : MethodName := ⟨RX0, "size", "()I"⟩
abbrev cX0_clear : ByteArray := prog_2_method_3_code
def yX0_clear : MethodName := ⟨RX0, "clear", "()V"⟩
abbrev cX0_addInserted : ByteArray := prog_2_method_4_code
def yX0_addInserted : MethodName := ⟨RX0, "addInserted", "()V"⟩
abbrev cX0_addDeleted : ByteArray := prog_2_method_5_code
def yX0_addDeleted : MethodName := ⟨RX0, "addDeleted", "(II)V"⟩
abbrev cX0_undoLast : ByteArray := prog_2_method_6_code
def yX0_undoLast : MethodName := ⟨RX0, "undoLast", "(LCoverOrder$Edges;)V"⟩
def RX1 : String := "CoverOrder$Chances"
def TX1 : u_T := fun k => match k with
  | _ => ("", "", "", false)
def tyX1 : Nat → FieldType := fun k => match k with
  | _ => .int
abbrev wsX10 : List Cond := u_ws RX1 TX1 0
theorem nmX1 : ∀ a, a < 0 → ∀ b, b < 0 → a ≠ b → (TX1 a).2.1 ≠ (TX1 b).2.1 := by decide +kernel
theorem tyX1_ok : ∀ k, k < 0 → parseFieldDescriptor (TX1 k).2.2.1 = some (tyX1 k) := by decide +kernel
abbrev cX1_gainInAllOrders : ByteArray := prog_3_method_2_code
def yX1_gainInAllOrders : MethodName := ⟨RX1, "gainInAllOrders", "(JII)I"⟩
abbrev cX1_weightOfReaching : ByteArray := prog_3_method_3_code
def yX1_weightOfReaching : MethodName := ⟨RX1, "weightOfReaching", "(JIII)I"⟩
abbrev cX1_countReached : ByteArray := prog_3_method_4_code
def yX1_countReached : MethodName := ⟨RX1, "countReached", "(JII)I"⟩
abbrev cX1_factorial : ByteArray := prog_3_method_5_code
def yX1_factorial : MethodName := ⟨RX1, "factorial", "(I)I"⟩
abbrev cX1_power : ByteArray := prog_3_method_6_code
def yX1_power : MethodName := ⟨RX1, "power", "(II)I"⟩
abbrev cX1_inLeastTerms : ByteArray := prog_3_method_7_code
def yX1_inLeastTerms : MethodName := ⟨RX1, "inLeastTerms", "(IIZ)I"⟩
abbrev cX1_greatestDivisor : ByteArray := prog_3_method_8_code
def yX1_greatestDivisor : MethodName := ⟨RX1, "greatestDivisor", "(II)I"⟩
def RX2 : String := "CoverOrder$Covers"
def TX2 : u_T := fun k => match k with
  | 0 => ("CoverOrder$Covers", "grid", "J", false)
  | 1 => ("CoverOrder$Covers", "covered", "J", false)
  | 2 => ("CoverOrder$Covers", "coverers", "J", false)
  | _ => ("CoverOrder$Covers", "reached", "I", false)
def tyX2 : Nat → FieldType := fun k => match k with
  | 0 => .long
  | 1 => .long
  | 2 => .long
  | _ => .int
abbrev wsX20 : List Cond := u_ws RX2 TX2 4
theorem nmX2 : ∀ a, a < 4 → ∀ b, b < 4 → a ≠ b → (TX2 a).2.1 ≠ (TX2 b).2.1 := by decide +kernel
theorem tyX2_ok : ∀ k, k < 4 → parseFieldDescriptor (TX2 k).2.2.1 = some (tyX2 k) := by decide +kernel
abbrev cX2_init : ByteArray := prog_4_method_1_code
def yX2_init : MethodName := ⟨RX2, "<init>", "()V"⟩
abbrev cX2_learn : ByteArray := prog_4_method_2_code
def yX2_learn : MethodName := ⟨RX2, "learn", "(J)V"⟩
abbrev cX2_isReached : ByteArray := prog_4_method_3_code
def yX2_isReached : MethodName := ⟨RX2, "isReached", "(I)Z"⟩
abbrev cX2_reachedCount : ByteArray := prog_4_method_4_code
def yX2_reachedCount : MethodName := ⟨RX2, "reachedCount", "()I"⟩
abbrev cX2_coveredBy : ByteArray := prog_4_method_5_code
def yX2_coveredBy : MethodName := ⟨RX2, "coveredBy", "(I)I"⟩
abbrev cX2_coverersOf : ByteArray := prog_4_method_6_code
def yX2_coverersOf : MethodName := ⟨RX2, "coverersOf", "(I)I"⟩
abbrev cX2_coveredByJust : ByteArray := prog_4_method_7_code
def yX2_coveredByJust : MethodName := ⟨RX2, "coveredByJust", "(I)I"⟩
abbrev cX2_lidOf : ByteArray := prog_4_method_8_code
def yX2_lidOf : MethodName := ⟨RX2, "lidOf", "(I)I"⟩
abbrev cX2_depthOf : ByteArray := prog_4_method_9_code
def yX2_depthOf : MethodName := ⟨RX2, "depthOf", "(I)I"⟩
abbrev cX2_depthSum : ByteArray := prog_4_method_10_code
def yX2_depthSum : MethodName := ⟨RX2, "depthSum", "()I"⟩
abbrev cX2_greatestDepth : ByteArray := prog_4_method_11_code
def yX2_greatestDepth : MethodName := ⟨RX2, "greatestDepth", "()I"⟩
abbrev cX2_rimOf : ByteArray := prog_4_method_12_code
def yX2_rimOf : MethodName := ⟨RX2, "rimOf", "(I)I"⟩
abbrev cX2_changedIn : ByteArray := prog_4_method_13_code
def yX2_changedIn : MethodName := ⟨RX2, "changedIn", "(LCoverOrder$Covers;)I"⟩
abbrev cX2_isShown : ByteArray := prog_4_method_14_code
def yX2_isShown : MethodName := ⟨RX2, "isShown", "(II)Z"⟩
abbrev cX2_nextBehind : ByteArray := prog_4_method_15_code
def yX2_nextBehind : MethodName := ⟨RX2, "nextBehind", "(I)I"⟩
abbrev cX2_firstMisplaced : ByteArray := prog_4_method_16_code
def yX2_firstMisplaced : MethodName := ⟨RX2, "firstMisplaced", "(LCoverOrder$Row;)I"⟩
abbrev cX2_isInPlace : ByteArray := prog_4_method_17_code
def yX2_isInPlace : MethodName := ⟨RX2, "isInPlace", "(IILCoverOrder$Row;)Z"⟩
abbrev cX2_firstNotShown : ByteArray := prog_4_method_18_code
def yX2_firstNotShown : MethodName := ⟨RX2, "firstNotShown", "(LCoverOrder$Row;)I"⟩
def RX3 : String := "CoverOrder$Edges"
def TX3 : u_T := fun k => match k with
  | 0 => ("CoverOrder$Edges", "row", "LCoverOrder$Row;", true)
  | 1 => ("CoverOrder$Edges", "knots", "I", false)
  | _ => ("CoverOrder$Edges", "nextStamp", "I", false)
def tyX3 : Nat → FieldType := fun k => match k with
  | 0 => .object "CoverOrder$Row"
  | 1 => .int
  | _ => .int
abbrev wsX30 : List Cond := u_ws RX3 TX3 3
theorem nmX3 : ∀ a, a < 3 → ∀ b, b < 3 → a ≠ b → (TX3 a).2.1 ≠ (TX3 b).2.1 := by decide +kernel
theorem tyX3_ok : ∀ k, k < 3 → parseFieldDescriptor (TX3 k).2.2.1 = some (tyX3 k) := by decide +kernel
abbrev cX3_init : ByteArray := prog_5_method_1_code
def yX3_init : MethodName := ⟨RX3, "<init>", "()V"⟩
abbrev cX3_pair : ByteArray := prog_5_method_2_code
def yX3_pair : MethodName := ⟨RX3, "pair", "(II)I"⟩
abbrev cX3_pairOf : ByteArray := prog_5_method_3_code
def yX3_pairOf : MethodName := ⟨RX3, "pairOf", "(I)I"⟩
abbrev cX3_stampOf : ByteArray := prog_5_method_4_code
def yX3_stampOf : MethodName := ⟨RX3, "stampOf", "(I)I"⟩
abbrev cX3_restart : ByteArray := prog_5_method_5_code
def yX3_restart : MethodName := ⟨RX3, "restart", "(I)V"⟩
abbrev cX3_copy : ByteArray := prog_5_method_6_code
def yX3_copy : MethodName := ⟨RX3, "copy", "(LCoverOrder$Edges;)V"⟩
abbrev cX3_size : ByteArray := prog_5_method_7_code
def yX3_size : MethodName := ⟨RX3, "size", "()I"⟩
abbrev cX3_isFull : ByteArray := prog_5_method_8_code
def yX3_isFull : MethodName := ⟨RX3, "isFull", "()Z"⟩
abbrev cX3_isKnot : ByteArray := prog_5_method_9_code
def yX3_isKnot : MethodName := ⟨RX3, "isKnot", "(I)Z"⟩
abbrev cX3_areKnots : ByteArray := prog_5_method_10_code
def yX3_areKnots : MethodName := ⟨RX3, "areKnots", "(II)Z"⟩
abbrev cX3_at : ByteArray := prog_5_method_11_code
def yX3_at : MethodName := ⟨RX3, "at", "(I)I"⟩
abbrev cX3_placeOf : ByteArray := prog_5_method_12_code
def yX3_placeOf : MethodName := ⟨RX3, "placeOf", "(II)I"⟩
abbrev cX3_has : ByteArray := prog_5_method_13_code
def yX3_has : MethodName := ⟨RX3, "has", "(II)Z"⟩
abbrev cX3_append : ByteArray := prog_5_method_14_code
def yX3_append : MethodName := ⟨RX3, "append", "(II)I"⟩
abbrev cX3_takeOut : ByteArray := prog_5_method_15_code
def yX3_takeOut : MethodName := ⟨RX3, "takeOut", "(I)I"⟩
abbrev cX3_putBack : ByteArray := prog_5_method_16_code
def yX3_putBack : MethodName := ⟨RX3, "putBack", "(II)V"⟩
abbrev cX3_takeBackLast : ByteArray := prog_5_method_17_code
def yX3_takeBackLast : MethodName := ⟨RX3, "takeBackLast", "()V"⟩
abbrev cX3_insertIfItCanBe : ByteArray := prog_5_method_18_code
def yX3_insertIfItCanBe : MethodName := ⟨RX3, "insertIfItCanBe", "(II)Z"⟩
abbrev cX3_deleteIfItIsThere : ByteArray := prog_5_method_19_code
def yX3_deleteIfItIsThere : MethodName := ⟨RX3, "deleteIfItIsThere", "(II)Z"⟩
abbrev cX3_turnDrawn : ByteArray := prog_5_method_20_code
def yX3_turnDrawn : MethodName := ⟨RX3, "turnDrawn", "(I)V"⟩
abbrev cX3_countBetween : ByteArray := prog_5_method_21_code
def yX3_countBetween : MethodName := ⟨RX3, "countBetween", "(I)I"⟩
abbrev cX3_grid : ByteArray := prog_5_method_22_code
def yX3_grid : MethodName := ⟨RX3, "grid", "()J"⟩
abbrev cX3_firstWayOn : ByteArray := prog_5_method_23_code
def yX3_firstWayOn : MethodName := ⟨RX3, "firstWayOn", "(II)I"⟩
def RX4 : String := "CoverOrder$Figures"
def TX4 : u_T := fun k => match k with
  | _ => ("", "", "", false)
def tyX4 : Nat → FieldType := fun k => match k with
  | _ => .int
abbrev wsX40 : List Cond := u_ws RX4 TX4 0
theorem nmX4 : ∀ a, a < 0 → ∀ b, b < 0 → a ≠ b → (TX4 a).2.1 ≠ (TX4 b).2.1 := by decide +kernel
theorem tyX4_ok : ∀ k, k < 0 → parseFieldDescriptor (TX4 k).2.2.1 = some (tyX4 k) := by decide +kernel
abbrev cX4_fit : ByteArray := prog_6_method_2_code
def yX4_fit : MethodName := ⟨RX4, "fit", "(JI)Z"⟩
abbrev cX4_at : ByteArray := prog_6_method_3_code
def yX4_at : MethodName := ⟨RX4, "at", "(JII)I"⟩
def RX5 : String := "CoverOrder$Grid"
def TX5 : u_T := fun k => match k with
  | _ => ("", "", "", false)
def tyX5 : Nat → FieldType := fun k => match k with
  | _ => .int
abbrev wsX50 : List Cond := u_ws RX5 TX5 0
theorem nmX5 : ∀ a, a < 0 → ∀ b, b < 0 → a ≠ b → (TX5 a).2.1 ≠ (TX5 b).2.1 := by decide +kernel
theorem tyX5_ok : ∀ k, k < 0 → parseFieldDescriptor (TX5 k).2.2.1 = some (tyX5 k) := by decide +kernel
abbrev cX5_only : ByteArray := prog_7_method_2_code
def yX5_only : MethodName := ⟨RX5, "only", "(I)I"⟩
abbrev cX5_isIn : ByteArray := prog_7_method_3_code
def yX5_isIn : MethodName := ⟨RX5, "isIn", "(II)Z"⟩
abbrev cX5_first : ByteArray := prog_7_method_4_code
def yX5_first : MethodName := ⟨RX5, "first", "(I)I"⟩
abbrev cX5_line : ByteArray := prog_7_method_5_code
def yX5_line : MethodName := ⟨RX5, "line", "(JI)I"⟩
abbrev cX5_withLine : ByteArray := prog_7_method_6_code
def yX5_withLine : MethodName := ⟨RX5, "withLine", "(JII)J"⟩
abbrev cX5_flipped : ByteArray := prog_7_method_7_code
def yX5_flipped : MethodName := ⟨RX5, "flipped", "(JII)J"⟩
abbrev cX5_column : ByteArray := prog_7_method_8_code
def yX5_column : MethodName := ⟨RX5, "column", "(JI)I"⟩
abbrev cX5_turned : ByteArray := prog_7_method_9_code
def yX5_turned : MethodName := ⟨RX5, "turned", "(J)J"⟩
abbrev cX5_reached : ByteArray := prog_7_method_10_code
def yX5_reached : MethodName := ⟨RX5, "reached", "(JI)I"⟩
def RX6 : String := "CoverOrder$Row"
def TX6 : u_T := fun k => match k with
  | 0 => ("CoverOrder$Row", "items", "[I", true)
  | _ => ("CoverOrder$Row", "size", "I", false)
def tyX6 : Nat → FieldType := fun k => match k with
  | 0 => .array .int
  | _ => .int
abbrev wsX60 : List Cond := u_ws RX6 TX6 2
theorem nmX6 : ∀ a, a < 2 → ∀ b, b < 2 → a ≠ b → (TX6 a).2.1 ≠ (TX6 b).2.1 := by decide +kernel
theorem tyX6_ok : ∀ k, k < 2 → parseFieldDescriptor (TX6 k).2.2.1 = some (tyX6 k) := by decide +kernel
abbrev cX6_init : ByteArray := prog_8_method_1_code
def yX6_init : MethodName := ⟨RX6, "<init>", "(I)V"⟩
abbrev cX6_size : ByteArray := prog_8_method_2_code
def yX6_size : MethodName := ⟨RX6, "size", "()I"⟩
abbrev cX6_isFull : ByteArray := prog_8_method_3_code
def yX6_isFull : MethodName := ⟨RX6, "isFull", "()Z"⟩
abbrev cX6_clear : ByteArray := prog_8_method_4_code
def yX6_clear : MethodName := ⟨RX6, "clear", "()V"⟩
abbrev cX6_at : ByteArray := prog_8_method_5_code
def yX6_at : MethodName := ⟨RX6, "at", "(I)I"⟩
abbrev cX6_placeOf : ByteArray := prog_8_method_6_code
def yX6_placeOf : MethodName := ⟨RX6, "placeOf", "(I)I"⟩
abbrev cX6_add : ByteArray := prog_8_method_7_code
def yX6_add : MethodName := ⟨RX6, "add", "(I)V"⟩
abbrev cX6_putIn : ByteArray := prog_8_method_8_code
def yX6_putIn : MethodName := ⟨RX6, "putIn", "(II)V"⟩
abbrev cX6_takeOut : ByteArray := prog_8_method_9_code
def yX6_takeOut : MethodName := ⟨RX6, "takeOut", "(I)I"⟩
abbrev cX6_takeLast : ByteArray := prog_8_method_10_code
def yX6_takeLast : MethodName := ⟨RX6, "takeLast", "()I"⟩
abbrev cX6_copy : ByteArray := prog_8_method_11_code
def yX6_copy : MethodName := ⟨RX6, "copy", "(LCoverOrder$Row;)V"⟩
def RX7 : String := "CoverOrder$Showing"
def TX7 : u_T := fun k => match k with
  | 0 => ("CoverOrder$Showing", "row", "LCoverOrder$Row;", true)
  | _ => ("CoverOrder$Showing", "deadEnds", "LCoverOrder$Row;", true)
def tyX7 : Nat → FieldType := fun k => match k with
  | 0 => .object "CoverOrder$Row"
  | _ => .object "CoverOrder$Row"
abbrev wsX70 : List Cond := u_ws RX7 TX7 2
theorem nmX7 : ∀ a, a < 2 → ∀ b, b < 2 → a ≠ b → (TX7 a).2.1 ≠ (TX7 b).2.1 := by decide +kernel
theorem tyX7_ok : ∀ k, k < 2 → parseFieldDescriptor (TX7 k).2.2.1 = some (tyX7 k) := by decide +kernel
abbrev cX7_init : ByteArray := prog_9_method_1_code
def yX7_init : MethodName := ⟨RX7, "<init>", "()V"⟩
abbrev cX7_find : ByteArray := prog_9_method_2_code
def yX7_find : MethodName := ⟨RX7, "find", "(LCoverOrder$Covers;)V"⟩
abbrev cX7_knotAt : ByteArray := prog_9_method_3_code
def yX7_knotAt : MethodName := ⟨RX7, "knotAt", "(I)I"⟩
abbrev cX7_fill : ByteArray := prog_9_method_4_code
def yX7_fill : MethodName := ⟨RX7, "fill", "(LCoverOrder$Showing;LCoverOrder$Covers;II)Z"⟩
def RX8 : String := "CoverOrder$Text"
def TX8 : u_T := fun k => match k with
  | _ => ("CoverOrder$Text", "letters", "LCoverOrder$Row;", true)
def tyX8 : Nat → FieldType := fun k => match k with
  | _ => .object "CoverOrder$Row"
abbrev wsX80 : List Cond := u_ws RX8 TX8 1
theorem nmX8 : ∀ a, a < 1 → ∀ b, b < 1 → a ≠ b → (TX8 a).2.1 ≠ (TX8 b).2.1 := by decide +kernel
theorem tyX8_ok : ∀ k, k < 1 → parseFieldDescriptor (TX8 k).2.2.1 = some (tyX8 k) := by decide +kernel
abbrev cX8_init : ByteArray := prog_10_method_1_code
def yX8_init : MethodName := ⟨RX8, "<init>", "()V"⟩
abbrev cX8_length : ByteArray := prog_10_method_2_code
def yX8_length : MethodName := ⟨RX8, "length", "()I"⟩
abbrev cX8_isFull : ByteArray := prog_10_method_3_code
def yX8_isFull : MethodName := ⟨RX8, "isFull", "()Z"⟩
abbrev cX8_add : ByteArray := prog_10_method_4_code
def yX8_add : MethodName := ⟨RX8, "add", "(I)V"⟩
abbrev cX8_clear : ByteArray := prog_10_method_5_code
def yX8_clear : MethodName := ⟨RX8, "clear", "()V"⟩
abbrev cX8_firstFault : ByteArray := prog_10_method_6_code
def yX8_firstFault : MethodName := ⟨RX8, "firstFault", "()I"⟩
abbrev cX8_readInto : ByteArray := prog_10_method_7_code
def yX8_readInto : MethodName := ⟨RX8, "readInto", "(LCoverOrder$Edges;)V"⟩
abbrev cX8_fits : ByteArray := prog_10_method_8_code
def yX8_fits : MethodName := ⟨RX8, "fits", "(IJ)Z"⟩
abbrev cX8_isSecondFigure : ByteArray := prog_10_method_9_code
def yX8_isSecondFigure : MethodName := ⟨RX8, "isSecondFigure", "(I)Z"⟩
abbrev cX8_figureAt : ByteArray := prog_10_method_10_code
def yX8_figureAt : MethodName := ⟨RX8, "figureAt", "(I)I"⟩
def RX9 : String := "CoverOrder$Walk"
def TX9 : u_T := fun k => match k with
  | 0 => ("CoverOrder$Walk", "met", "LCoverOrder$Row;", true)
  | 1 => ("CoverOrder$Walk", "path", "LCoverOrder$Row;", true)
  | _ => ("CoverOrder$Walk", "grid", "J", false)
def tyX9 : Nat → FieldType := fun k => match k with
  | 0 => .object "CoverOrder$Row"
  | 1 => .object "CoverOrder$Row"
  | _ => .long
abbrev wsX90 : List Cond := u_ws RX9 TX9 3
theorem nmX9 : ∀ a, a < 3 → ∀ b, b < 3 → a ≠ b → (TX9 a).2.1 ≠ (TX9 b).2.1 := by decide +kernel
theorem tyX9_ok : ∀ k, k < 3 → parseFieldDescriptor (TX9 k).2.2.1 = some (tyX9 k) := by decide +kernel
abbrev cX9_init : ByteArray := prog_11_method_1_code
def yX9_init : MethodName := ⟨RX9, "<init>", "()V"⟩
abbrev cX9_go : ByteArray := prog_11_method_2_code
def yX9_go : MethodName := ⟨RX9, "go", "(LCoverOrder$Edges;)V"⟩
abbrev cX9_orderOf : ByteArray := prog_11_method_3_code
def yX9_orderOf : MethodName := ⟨RX9, "orderOf", "(I)I"⟩
abbrev cX9_halfOf : ByteArray := prog_11_method_4_code
def yX9_halfOf : MethodName := ⟨RX9, "halfOf", "(I)I"⟩
abbrev cX9_startsOfLateWays : ByteArray := prog_11_method_5_code
def yX9_startsOfLateWays : MethodName := ⟨RX9, "startsOfLateWays", "(I)I"⟩
def RX10 : String := "CoverOrder"
def TX10 : u_T := fun k => match k with
  | 0 => ("CoverOrder", "text", "LCoverOrder$Text;", true)
  | 1 => ("CoverOrder", "edges", "LCoverOrder$Edges;", true)
  | 2 => ("CoverOrder", "trial", "LCoverOrder$Edges;", true)
  | 3 => ("CoverOrder", "acts", "LCoverOrder$Acts;", true)
  | 4 => ("CoverOrder", "slots", "[LCoverOrder$Edges;", true)
  | 5 => ("CoverOrder", "seen", "LCoverOrder$Row;", true)
  | 6 => ("CoverOrder", "covers", "LCoverOrder$Covers;", true)
  | 7 => ("CoverOrder", "trialCovers", "LCoverOrder$Covers;", true)
  | 8 => ("CoverOrder", "walk", "LCoverOrder$Walk;", true)
  | 9 => ("CoverOrder", "least", "LCoverOrder$Showing;", true)
  | 10 => ("CoverOrder", "told", "LCoverOrder$Row;", true)
  | 11 => ("CoverOrder", "keptSlots", "I", false)
  | _ => ("CoverOrder", "theSeed", "J", false)
def tyX10 : Nat → FieldType := fun k => match k with
  | 0 => .object "CoverOrder$Text"
  | 1 => .object "CoverOrder$Edges"
  | 2 => .object "CoverOrder$Edges"
  | 3 => .object "CoverOrder$Acts"
  | 4 => .array (.object "CoverOrder$Edges")
  | 5 => .object "CoverOrder$Row"
  | 6 => .object "CoverOrder$Covers"
  | 7 => .object "CoverOrder$Covers"
  | 8 => .object "CoverOrder$Walk"
  | 9 => .object "CoverOrder$Showing"
  | 10 => .object "CoverOrder$Row"
  | 11 => .int
  | _ => .long
abbrev wsX100 : List Cond := u_ws RX10 TX10 13
theorem nmX10 : ∀ a, a < 13 → ∀ b, b < 13 → a ≠ b → (TX10 a).2.1 ≠ (TX10 b).2.1 := by decide +kernel
theorem tyX10_ok : ∀ k, k < 13 → parseFieldDescriptor (TX10 k).2.2.1 = some (tyX10 k) := by decide +kernel
abbrev cX10_init : ByteArray := prog_1_method_1_code
def yX10_init : MethodName := ⟨RX10, "<init>", "()V"⟩
abbrev cX10_write : ByteArray := prog_1_method_2_code
def yX10_write : MethodName := ⟨RX10, "write", "(I)I"⟩
abbrev cX10_wipe : ByteArray := prog_1_method_3_code
def yX10_wipe : MethodName := ⟨RX10, "wipe", "()I"⟩
abbrev cX10_fault : ByteArray := prog_1_method_4_code
def yX10_fault : MethodName := ⟨RX10, "fault", "()I"⟩
abbrev cX10_graph : ByteArray := prog_1_method_5_code
def yX10_graph : MethodName := ⟨RX10, "graph", "()I"⟩
abbrev cX10_insert : ByteArray := prog_1_method_6_code
def yX10_insert : MethodName := ⟨RX10, "insert", "(II)I"⟩
abbrev cX10_delete : ByteArray := prog_1_method_7_code
def yX10_delete : MethodName := ⟨RX10, "delete", "(II)I"⟩
abbrev cX10_undo : ByteArray := prog_1_method_8_code
def yX10_undo : MethodName := ⟨RX10, "undo", "()I"⟩
abbrev cX10_stamp : ByteArray := prog_1_method_9_code
def yX10_stamp : MethodName := ⟨RX10, "stamp", "(II)I"⟩
abbrev cX10_edge : ByteArray := prog_1_method_10_code
def yX10_edge : MethodName := ⟨RX10, "edge", "(I)I"⟩
abbrev cX10_knot : ByteArray := prog_1_method_11_code
def yX10_knot : MethodName := ⟨RX10, "knot", "(II)I"⟩
abbrev cX10_nearest : ByteArray := prog_1_method_12_code
def yX10_nearest : MethodName := ⟨RX10, "nearest", "(II)I"⟩
abbrev cX10_would : ByteArray := prog_1_method_13_code
def yX10_would : MethodName := ⟨RX10, "would", "(II)I"⟩
abbrev cX10_showing : ByteArray := prog_1_method_14_code
def yX10_showing : MethodName := ⟨RX10, "showing", "(I)I"⟩
abbrev cX10_look : ByteArray := prog_1_method_15_code
def yX10_look : MethodName := ⟨RX10, "look", "(J)I"⟩
abbrev cX10_judge : ByteArray := prog_1_method_16_code
def yX10_judge : MethodName := ⟨RX10, "judge", "(IJ)I"⟩
abbrev cX10_see : ByteArray := prog_1_method_17_code
def yX10_see : MethodName := ⟨RX10, "see", "(III)I"⟩
abbrev cX10_unsee : ByteArray := prog_1_method_18_code
def yX10_unsee : MethodName := ⟨RX10, "unsee", "()I"⟩
abbrev cX10_missing : ByteArray := prog_1_method_19_code
def yX10_missing : MethodName := ⟨RX10, "missing", "(I)I"⟩
abbrev cX10_share : ByteArray := prog_1_method_20_code
def yX10_share : MethodName := ⟨RX10, "share", "(IIZ)I"⟩
abbrev cX10_spared : ByteArray := prog_1_method_21_code
def yX10_spared : MethodName := ⟨RX10, "spared", "(IIIZ)I"⟩
abbrev cX10_seed : ByteArray := prog_1_method_22_code
def yX10_seed : MethodName := ⟨RX10, "seed", "(J)J"⟩
abbrev cX10_drawn : ByteArray := prog_1_method_23_code
def yX10_drawn : MethodName := ⟨RX10, "drawn", "(I)I"⟩
abbrev cX10_keep : ByteArray := prog_1_method_24_code
def yX10_keep : MethodName := ⟨RX10, "keep", "(I)I"⟩
abbrev cX10_again : ByteArray := prog_1_method_25_code
def yX10_again : MethodName := ⟨RX10, "again", "(I)I"⟩
abbrev cX10_count : ByteArray := prog_1_method_26_code
def yX10_count : MethodName := ⟨RX10, "count", "(I)I"⟩
abbrev cX10_learnCovers : ByteArray := prog_1_method_27_code
def yX10_learnCovers : MethodName := ⟨RX10, "learnCovers", "()V"⟩
abbrev cX10_countCovers : ByteArray := prog_1_method_28_code
def yX10_countCovers : MethodName := ⟨RX10, "countCovers", "(I)I"⟩
abbrev cX10_slotAt : ByteArray := prog_1_method_29_code
def yX10_slotAt : MethodName := ⟨RX10, "slotAt", "(I)LCoverOrder$Edges;"⟩
abbrev cX10_isDoneOrSo : ByteArray := prog_1_method_30_code
def yX10_isDoneOrSo : MethodName := ⟨RX10, "isDoneOrSo", "(III)Z"⟩
abbrev cX10_mayBeMissing : ByteArray := prog_1_method_31_code
def yX10_mayBeMissing : MethodName := ⟨RX10, "mayBeMissing", "(II)Z"⟩
abbrev cX10_isAllSeenIn : ByteArray := prog_1_method_32_code
def yX10_isAllSeenIn : MethodName := ⟨RX10, "isAllSeenIn", "(LCoverOrder$Covers;)Z"⟩
def RX11 : String := "CoverOrderModel"
def TX11 : u_T := fun k => match k with
  | 0 => ("CoverOrderModel", "knots", "I", false)
  | 1 => ("CoverOrderModel", "now", "[I", true)
  | 2 => ("CoverOrderModel", "readKnots", "I", false)
  | 3 => ("CoverOrderModel", "text", "[I", true)
  | 4 => ("CoverOrderModel", "length", "I", false)
  | 5 => ("CoverOrderModel", "covers", "[I", true)
  | 6 => ("CoverOrderModel", "reached", "I", false)
  | 7 => ("CoverOrderModel", "order", "[I", true)
  | 8 => ("CoverOrderModel", "way", "[I", true)
  | 9 => ("CoverOrderModel", "tried", "[I", true)
  | 10 => ("CoverOrderModel", "acts", "I", false)
  | 11 => ("CoverOrderModel", "next", "I", false)
  | 12 => ("CoverOrderModel", "row", "[I", true)
  | 13 => ("CoverOrderModel", "lids", "[I", true)
  | 14 => ("CoverOrderModel", "shown", "[I", true)
  | 15 => ("CoverOrderModel", "seen", "I", false)
  | 16 => ("CoverOrderModel", "seenKnot", "[I", true)
  | 17 => ("CoverOrderModel", "seenLid", "[I", true)
  | 18 => ("CoverOrderModel", "seenHad", "[I", true)
  | 19 => ("CoverOrderModel", "seed", "J", false)
  | 20 => ("CoverOrderModel", "isKept", "[Z", true)
  | _ => ("CoverOrderModel", "kept", "[I", true)
def tyX11 : Nat → FieldType := fun k => match k with
  | 0 => .int
  | 1 => .array .int
  | 2 => .int
  | 3 => .array .int
  | 4 => .int
  | 5 => .array .int
  | 6 => .int
  | 7 => .array .int
  | 8 => .array .int
  | 9 => .array .int
  | 10 => .int
  | 11 => .int
  | 12 => .array .int
  | 13 => .array .int
  | 14 => .array .int
  | 15 => .int
  | 16 => .array .int
  | 17 => .array .int
  | 18 => .array .int
  | 19 => .long
  | 20 => .array .boolean
  | _ => .array .int
abbrev wsX110 : List Cond := u_ws RX11 TX11 22
theorem nmX11 : ∀ a, a < 22 → ∀ b, b < 22 → a ≠ b → (TX11 a).2.1 ≠ (TX11 b).2.1 := by decide +kernel
theorem tyX11_ok : ∀ k, k < 22 → parseFieldDescriptor (TX11 k).2.2.1 = some (tyX11 k) := by decide +kernel
abbrev cX11_init : ByteArray := prog_13_method_1_code
def yX11_init : MethodName := ⟨RX11, "<init>", "()V"⟩
abbrev cX11_in : ByteArray := prog_13_method_3_code
def yX11_in : MethodName := ⟨RX11, "in", "(JJJ)Z"⟩
abbrev cX11_has : ByteArray := prog_13_method_4_code
def yX11_has : MethodName := ⟨RX11, "has", "(II)Z"⟩
abbrev cX11_ones : ByteArray := prog_13_method_5_code
def yX11_ones : MethodName := ⟨RX11, "ones", "(I)I"⟩
abbrev cX11_write : ByteArray := prog_13_method_6_code
def yX11_write : MethodName := ⟨RX11, "write", "(I)I"⟩
abbrev cX11_wipe : ByteArray := prog_13_method_7_code
def yX11_wipe : MethodName := ⟨RX11, "wipe", "()I"⟩
abbrev cX11_many : ByteArray := prog_13_method_8_code
def yX11_many : MethodName := ⟨RX11, "many", "(I)I"⟩
abbrev cX11_fromOf : ByteArray := prog_13_method_9_code
def yX11_fromOf : MethodName := ⟨RX11, "fromOf", "(II)I"⟩
abbrev cX11_toOf : ByteArray := prog_13_method_10_code
def yX11_toOf : MethodName := ⟨RX11, "toOf", "(II)I"⟩
abbrev cX11_find : ByteArray := prog_13_method_11_code
def yX11_find : MethodName := ⟨RX11, "find", "(III)I"⟩
abbrev cX11_outOf : ByteArray := prog_13_method_12_code
def yX11_outOf : MethodName := ⟨RX11, "outOf", "(II)I"⟩
abbrev cX11_insertOn : ByteArray := prog_13_method_13_code
def yX11_insertOn : MethodName := ⟨RX11, "insertOn", "(III)V"⟩
abbrev cX11_deleteOn : ByteArray := prog_13_method_14_code
def yX11_deleteOn : MethodName := ⟨RX11, "deleteOn", "(II)V"⟩
abbrev cX11_readText : ByteArray := prog_13_method_15_code
def yX11_readText : MethodName := ⟨RX11, "readText", "()I"⟩
abbrev cX11_fault : ByteArray := prog_13_method_16_code
def yX11_fault : MethodName := ⟨RX11, "fault", "()I"⟩
abbrev cX11_graph : ByteArray := prog_13_method_17_code
def yX11_graph : MethodName := ⟨RX11, "graph", "()I"⟩
abbrev cX11_isKnot : ByteArray := prog_13_method_18_code
def yX11_isKnot : MethodName := ⟨RX11, "isKnot", "(I)Z"⟩
abbrev cX11_reachedBy : ByteArray := prog_13_method_19_code
def yX11_reachedBy : MethodName := ⟨RX11, "reachedBy", "(IIII)I"⟩
abbrev cX11_findCovers : ByteArray := prog_13_method_20_code
def yX11_findCovers : MethodName := ⟨RX11, "findCovers", "(I)V"⟩
abbrev cX11_depthOf : ByteArray := prog_13_method_21_code
def yX11_depthOf : MethodName := ⟨RX11, "depthOf", "(I)I"⟩
abbrev cX11_lidOf : ByteArray := prog_13_method_22_code
def yX11_lidOf : MethodName := ⟨RX11, "lidOf", "(I)I"⟩
abbrev cX11_coveredBy : ByteArray := prog_13_method_23_code
def yX11_coveredBy : MethodName := ⟨RX11, "coveredBy", "(I)I"⟩
abbrev cX11_walk : ByteArray := prog_13_method_24_code
def yX11_walk : MethodName := ⟨RX11, "walk", "(I)V"⟩
abbrev cX11_halfOf : ByteArray := prog_13_method_25_code
def yX11_halfOf : MethodName := ⟨RX11, "halfOf", "(II)I"⟩
abbrev cX11_rimOf : ByteArray := prog_13_method_26_code
def yX11_rimOf : MethodName := ⟨RX11, "rimOf", "(II)I"⟩
abbrev cX11_knot : ByteArray := prog_13_method_27_code
def yX11_knot : MethodName := ⟨RX11, "knot", "(II)I"⟩
abbrev cX11_keepAct : ByteArray := prog_13_method_28_code
def yX11_keepAct : MethodName := ⟨RX11, "keepAct", "()V"⟩
abbrev cX11_insert : ByteArray := prog_13_method_29_code
def yX11_insert : MethodName := ⟨RX11, "insert", "(II)I"⟩
abbrev cX11_delete : ByteArray := prog_13_method_30_code
def yX11_delete : MethodName := ⟨RX11, "delete", "(II)I"⟩
abbrev cX11_undo : ByteArray := prog_13_method_31_code
def yX11_undo : MethodName := ⟨RX11, "undo", "()I"⟩
abbrev cX11_stamp : ByteArray := prog_13_method_32_code
def yX11_stamp : MethodName := ⟨RX11, "stamp", "(II)I"⟩
abbrev cX11_edge : ByteArray := prog_13_method_33_code
def yX11_edge : MethodName := ⟨RX11, "edge", "(I)I"⟩
abbrev cX11_layTrial : ByteArray := prog_13_method_34_code
def yX11_layTrial : MethodName := ⟨RX11, "layTrial", "()V"⟩
abbrev cX11_nearest : ByteArray := prog_13_method_35_code
def yX11_nearest : MethodName := ⟨RX11, "nearest", "(II)I"⟩
abbrev cX11_would : ByteArray := prog_13_method_36_code
def yX11_would : MethodName := ⟨RX11, "would", "(II)I"⟩
abbrev cX11_firstWrong : ByteArray := prog_13_method_37_code
def yX11_firstWrong : MethodName := ⟨RX11, "firstWrong", "(I)I"⟩
abbrev cX11_isShown : ByteArray := prog_13_method_38_code
def yX11_isShown : MethodName := ⟨RX11, "isShown", "(II)Z"⟩
abbrev cX11_nextRow : ByteArray := prog_13_method_39_code
def yX11_nextRow : MethodName := ⟨RX11, "nextRow", "(I)Z"⟩
abbrev cX11_showing : ByteArray := prog_13_method_40_code
def yX11_showing : MethodName := ⟨RX11, "showing", "(I)I"⟩
abbrev cX11_tenTo : ByteArray := prog_13_method_41_code
def yX11_tenTo : MethodName := ⟨RX11, "tenTo", "(I)J"⟩
abbrev cX11_look : ByteArray := prog_13_method_42_code
def yX11_look : MethodName := ⟨RX11, "look", "(J)I"⟩
abbrev cX11_tryThing : ByteArray := prog_13_method_43_code
def yX11_tryThing : MethodName := ⟨RX11, "tryThing", "(III)Z"⟩
abbrev cX11_judge : ByteArray := prog_13_method_44_code
def yX11_judge : MethodName := ⟨RX11, "judge", "(IJ)I"⟩
abbrev cX11_see : ByteArray := prog_13_method_45_code
def yX11_see : MethodName := ⟨RX11, "see", "(III)I"⟩
abbrev cX11_unsee : ByteArray := prog_13_method_46_code
def yX11_unsee : MethodName := ⟨RX11, "unsee", "()I"⟩
abbrev cX11_mayBe : ByteArray := prog_13_method_47_code
def yX11_mayBe : MethodName := ⟨RX11, "mayBe", "(II)Z"⟩
abbrev cX11_missing : ByteArray := prog_13_method_48_code
def yX11_missing : MethodName := ⟨RX11, "missing", "(I)I"⟩
abbrev cX11_factorial : ByteArray := prog_13_method_49_code
def yX11_factorial : MethodName := ⟨RX11, "factorial", "(I)I"⟩
abbrev cX11_common : ByteArray := prog_13_method_50_code
def yX11_common : MethodName := ⟨RX11, "common", "(II)I"⟩
abbrev cX11_share : ByteArray := prog_13_method_51_code
def yX11_share : MethodName := ⟨RX11, "share", "(IIZ)I"⟩
abbrev cX11_spared : ByteArray := prog_13_method_52_code
def yX11_spared : MethodName := ⟨RX11, "spared", "(IIIZ)I"⟩
abbrev cX11_seed : ByteArray := prog_13_method_53_code
def yX11_seed : MethodName := ⟨RX11, "seed", "(J)J"⟩
abbrev cX11_depthsTogether : ByteArray := prog_13_method_54_code
def yX11_depthsTogether : MethodName := ⟨RX11, "depthsTogether", "()I"⟩
abbrev cX11_drawn : ByteArray := prog_13_method_55_code
def yX11_drawn : MethodName := ⟨RX11, "drawn", "(I)I"⟩
abbrev cX11_keep : ByteArray := prog_13_method_56_code
def yX11_keep : MethodName := ⟨RX11, "keep", "(I)I"⟩
abbrev cX11_again : ByteArray := prog_13_method_57_code
def yX11_again : MethodName := ⟨RX11, "again", "(I)I"⟩
abbrev cX11_greatestDepth : ByteArray := prog_13_method_58_code
def yX11_greatestDepth : MethodName := ⟨RX11, "greatestDepth", "()I"⟩
abbrev cX11_edgesReached : ByteArray := prog_13_method_59_code
def yX11_edgesReached : MethodName := ⟨RX11, "edgesReached", "()I"⟩
abbrev cX11_count : ByteArray := prog_13_method_60_code
def yX11_count : MethodName := ⟨RX11, "count", "(I)I"⟩
def RJ6 : String := "java/lang/Integer"
def TJ6 : u_T := fun k => match k with
  | _ => ("", "", "", false)
def tyJ6 : Nat → FieldType := fun k => match k with
  | _ => .int
abbrev wsJ60 : List Cond := u_ws RJ6 TJ6 0
theorem nmJ6 : ∀ a, a < 0 → ∀ b, b < 0 → a ≠ b → (TJ6 a).2.1 ≠ (TJ6 b).2.1 := by decide +kernel
theorem tyJ6_ok : ∀ k, k < 0 → parseFieldDescriptor (TJ6 k).2.2.1 = some (tyJ6 k) := by decide +kernel
abbrev cJ6_bitCount_0f7a4 : ByteArray := prog_14_method_49_code
def yJ6_bitCount_0f7a4 : MethodName := ⟨RJ6, "bitCount", "(I)I"⟩
def RJ13 : String := "java/lang/Long"
def TJ13 : u_T := fun k => match k with
  | _ => ("", "", "", false)
def tyJ13 : Nat → FieldType := fun k => match k with
  | _ => .int
abbrev wsJ130 : List Cond := u_ws RJ13 TJ13 0
theorem nmJ13 : ∀ a, a < 0 → ∀ b, b < 0 → a ≠ b → (TJ13 a).2.1 ≠ (TJ13 b).2.1 := by decide +kernel
theorem tyJ13_ok : ∀ k, k < 0 → parseFieldDescriptor (TJ13 k).2.2.1 = some (tyJ13 k) := by decide +kernel
abbrev cJ13_bitCount_95d88 : ByteArray := prog_15_method_50_code
def yJ13_bitCount_95d88 : MethodName := ⟨RJ13, "bitCount", "(J)I"⟩
def RJ9 : String := "java/lang/Math"
def TJ9 : u_T := fun k => match k with
  | _ => ("", "", "", false)
def tyJ9 : Nat → FieldType := fun k => match k with
  | _ => .int
abbrev wsJ90 : List Cond := u_ws RJ9 TJ9 0
theorem nmJ9 : ∀ a, a < 0 → ∀ b, b < 0 → a ≠ b → (TJ9 a).2.1 ≠ (TJ9 b).2.1 := by decide +kernel
theorem tyJ9_ok : ∀ k, k < 0 → parseFieldDescriptor (TJ9 k).2.2.1 = some (tyJ9 k) := by decide +kernel
abbrev cJ9_max_7cf53 : ByteArray := prog_16_method_65_code
def yJ9_max_7cf53 : MethodName := ⟨RJ9, "max", "(II)I"⟩
abbrev cJ9_min_7cf53 : ByteArray := prog_16_method_69_code
def yJ9_min_7cf53 : MethodName := ⟨RJ9, "min", "(II)I"⟩
def RL : String := "CoverOrderLaw"
abbrev cL_law : ByteArray := code
def yL_law : MethodName := ⟨RL, "law", "([I)Z"⟩
def wsX6_init : List Cond := .code yX6_init cX6_init 2 none :: ([.methodLink RX6 3 objectInit, .instanceMethod objectInit, .code objectInit ⟨#[0xb1]⟩ 1 none, .methodLink RX6 9 Lib.Math.max.name, .static Lib.Math.max.name, .initialized "java/lang/Math", .code Lib.Math.max.name Lib.Math.max.code 2 (some .int), .arrayClass .int, .fieldLink RX6 15 "CoverOrder$Row" "items" "[I"] ++ wsX60)
def wsX0_init : List Cond := .code yX0_init cX0_init 1 none :: ([.methodLink RX0 3 objectInit, .instanceMethod objectInit, .code objectInit ⟨#[0xb1]⟩ 1 none, .classLink RX0 9 RX6, .instantiable RX6 2, .initialized RX6, .fieldLink RX0 14 "CoverOrder$Acts" "deleted" "LCoverOrder$Row;", .fieldLink RX0 20 "CoverOrder$Acts" "places" "LCoverOrder$Row;", .methodLink RX0 11 yX6_init, .instanceMethod yX6_init, .code yX6_init cX6_init 2 none, .methodLink RX6 3 objectInit, .methodLink RX6 9 Lib.Math.max.name, .static Lib.Math.max.name, .initialized "java/lang/Math", .code Lib.Math.max.name Lib.Math.max.code 2 (some .int), .arrayClass .int, .fieldLink RX6 15 "CoverOrder$Row" "items" "[I"] ++ wsX60 ++ wsX00)
def wsX6_size : List Cond := .code yX6_size cX6_size 1 (some .int) :: ([.fieldLink RX6 21 "CoverOrder$Row" "size" "I"] ++ wsX60)
def wsX0_size : List Cond := .code yX0_size cX0_size 1 (some .int) :: ([.fieldLink RX0 20 "CoverOrder$Acts" "places" "LCoverOrder$Row;", .methodLink RX0 23 yX6_size, .instanceMethod yX6_size, .selects RX6 yX6_size yX6_size, .initialized RX6, .code yX6_size cX6_size 1 (some .int), .fieldLink RX6 21 "CoverOrder$Row" "size" "I"] ++ wsX00 ++ wsX60)
def wsX6_clear : List Cond := .code yX6_clear cX6_clear 1 none :: ([.fieldLink RX6 21 "CoverOrder$Row" "size" "I"] ++ wsX60)
def wsX0_clear : List Cond := .code yX0_clear cX0_clear 1 none :: ([.fieldLink RX0 14 "CoverOrder$Acts" "deleted" "LCoverOrder$Row;", .fieldLink RX0 20 "CoverOrder$Acts" "places" "LCoverOrder$Row;", .methodLink RX0 27 yX6_clear, .instanceMethod yX6_clear, .selects RX6 yX6_clear yX6_clear, .initialized RX6, .code yX6_clear cX6_clear 1 none, .fieldLink RX6 21 "CoverOrder$Row" "size" "I"] ++ wsX00 ++ wsX60)
def wsX6_isFull : List Cond := .code yX6_isFull cX6_isFull 1 (some .boolean) :: ([.fieldLink RX6 21 "CoverOrder$Row" "size" "I", .fieldLink RX6 15 "CoverOrder$Row" "items" "[I"] ++ wsX60)
def wsX6_takeOut : List Cond := .code yX6_takeOut cX6_takeOut 4 (some .int) :: ([.fieldLink RX6 21 "CoverOrder$Row" "size" "I", .fieldLink RX6 15 "CoverOrder$Row" "items" "[I"] ++ wsX60)
def wsX6_putIn : List Cond := .code yX6_putIn cX6_putIn 4 none :: ([.fieldLink RX6 21 "CoverOrder$Row" "size" "I", .fieldLink RX6 15 "CoverOrder$Row" "items" "[I", .methodLink RX6 33 yX6_isFull, .instanceMethod yX6_isFull, .selects RX6 yX6_isFull yX6_isFull, .initialized RX6, .code yX6_isFull cX6_isFull 1 (some .boolean)] ++ wsX60)
def wsX6_add : List Cond := .code yX6_add cX6_add 2 none :: ([.fieldLink RX6 21 "CoverOrder$Row" "size" "I", .methodLink RX6 29 yX6_putIn, .instanceMethod yX6_putIn, .selects RX6 yX6_putIn yX6_putIn, .initialized RX6, .code yX6_putIn cX6_putIn 4 none, .fieldLink RX6 15 "CoverOrder$Row" "items" "[I", .methodLink RX6 33 yX6_isFull, .instanceMethod yX6_isFull, .selects RX6 yX6_isFull yX6_isFull, .code yX6_isFull cX6_isFull 1 (some .boolean)] ++ wsX60)
def wsX0_addDeleted : List Cond := .code yX0_addDeleted cX0_addDeleted 3 none :: ([.fieldLink RX0 20 "CoverOrder$Acts" "places" "LCoverOrder$Row;", .fieldLink RX0 14 "CoverOrder$Acts" "deleted" "LCoverOrder$Row;", .methodLink RX0 34 yX6_isFull, .instanceMethod yX6_isFull, .selects RX6 yX6_isFull yX6_isFull, .initialized RX6, .code yX6_isFull cX6_isFull 1 (some .boolean), .fieldLink RX6 21 "CoverOrder$Row" "size" "I", .fieldLink RX6 15 "CoverOrder$Row" "items" "[I", .methodLink RX0 38 yX6_takeOut, .instanceMethod yX6_takeOut, .selects RX6 yX6_takeOut yX6_takeOut, .code yX6_takeOut cX6_takeOut 4 (some .int), .methodLink RX0 42 yX6_add, .instanceMethod yX6_add, .selects RX6 yX6_add yX6_add, .code yX6_add cX6_add 2 none, .methodLink RX6 29 yX6_putIn, .instanceMethod yX6_putIn, .selects RX6 yX6_putIn yX6_putIn, .code yX6_putIn cX6_putIn 4 none, .methodLink RX6 33 yX6_isFull] ++ wsX00 ++ wsX60)
def wsX0_addInserted_r1 : List Cond := [Cond.methodLink RX0 30 yX0_addDeleted, Cond.instanceMethod yX0_addDeleted, Cond.selects RX0 yX0_addDeleted yX0_addDeleted, Cond.initialized RX0, Cond.code yX0_addDeleted cX0_addDeleted 3 none, Cond.fieldLink RX0 20 "CoverOrder$Acts" "places" "LCoverOrder$Row;", Cond.fieldLink RX0 14 "CoverOrder$Acts" "deleted" "LCoverOrder$Row;", Cond.methodLink RX0 34 yX6_isFull, Cond.instanceMethod yX6_isFull, Cond.selects RX6 yX6_isFull yX6_isFull, Cond.initialized RX6, Cond.code yX6_isFull cX6_isFull 1 (some .boolean), Cond.fieldLink RX6 21 "CoverOrder$Row" "size" "I", Cond.fieldLink RX6 15 "CoverOrder$Row" "items" "[I", Cond.methodLink RX0 38 yX6_takeOut, Cond.instanceMethod yX6_takeOut, Cond.selects RX6 yX6_takeOut yX6_takeOut, Cond.code yX6_takeOut cX6_takeOut 4 (some .int), Cond.methodLink RX0 42 yX6_add, Cond.instanceMethod yX6_add, Cond.selects RX6 yX6_add yX6_add, Cond.code yX6_add cX6_add 2 none, Cond.methodLink RX6 29 yX6_putIn, Cond.instanceMethod yX6_putIn]
def wsX0_addInserted_r2 : List Cond := [Cond.selects RX6 yX6_putIn yX6_putIn, Cond.code yX6_putIn cX6_putIn 4 none, Cond.methodLink RX6 33 yX6_isFull]
def wsX0_addInserted : List Cond := .code yX0_addInserted cX0_addInserted 1 none :: ((wsX0_addInserted_r1 ++ wsX0_addInserted_r2) ++ wsX00 ++ wsX60)
def wsX6_takeLast : List Cond := .code yX6_takeLast cX6_takeLast 1 (some .int) :: ([.fieldLink RX6 21 "CoverOrder$Row" "size" "I", .methodLink RX6 37 yX6_takeOut, .instanceMethod yX6_takeOut, .selects RX6 yX6_takeOut yX6_takeOut, .initialized RX6, .code yX6_takeOut cX6_takeOut 4 (some .int), .fieldLink RX6 15 "CoverOrder$Row" "items" "[I"] ++ wsX60)
def wsX3_takeBackLast : List Cond := .code yX3_takeBackLast cX3_takeBackLast 1 none :: ([.fieldLink RX3 14 "CoverOrder$Edges" "row" "LCoverOrder$Row;", .fieldLink RX3 24 "CoverOrder$Edges" "nextStamp" "I", .methodLink RX3 78 yX6_takeLast, .instanceMethod yX6_takeLast, .selects RX6 yX6_takeLast yX6_takeLast, .initialized RX6, .code yX6_takeLast cX6_takeLast 1 (some .int), .fieldLink RX6 21 "CoverOrder$Row" "size" "I", .methodLink RX6 37 yX6_takeOut, .instanceMethod yX6_takeOut, .selects RX6 yX6_takeOut yX6_takeOut, .code yX6_takeOut cX6_takeOut 4 (some .int), .fieldLink RX6 15 "CoverOrder$Row" "items" "[I"] ++ wsX30 ++ wsX60)
def wsX3_putBack : List Cond := .code yX3_putBack cX3_putBack 3 none :: ([.fieldLink RX3 14 "CoverOrder$Edges" "row" "LCoverOrder$Row;", .methodLink RX3 74 yX6_putIn, .instanceMethod yX6_putIn, .selects RX6 yX6_putIn yX6_putIn, .initialized RX6, .code yX6_putIn cX6_putIn 4 none, .fieldLink RX6 21 "CoverOrder$Row" "size" "I", .fieldLink RX6 15 "CoverOrder$Row" "items" "[I", .methodLink RX6 33 yX6_isFull, .instanceMethod yX6_isFull, .selects RX6 yX6_isFull yX6_isFull, .code yX6_isFull cX6_isFull 1 (some .boolean)] ++ wsX30 ++ wsX60)
def wsX0_undoLast_r1 : List Cond := [Cond.fieldLink RX0 20 "CoverOrder$Acts" "places" "LCoverOrder$Row;", Cond.fieldLink RX0 14 "CoverOrder$Acts" "deleted" "LCoverOrder$Row;", Cond.methodLink RX0 45 yX6_takeLast, Cond.instanceMethod yX6_takeLast, Cond.selects RX6 yX6_takeLast yX6_takeLast, Cond.initialized RX6, Cond.code yX6_takeLast cX6_takeLast 1 (some .int), Cond.fieldLink RX6 21 "CoverOrder$Row" "size" "I", Cond.methodLink RX6 37 yX6_takeOut, Cond.instanceMethod yX6_takeOut, Cond.selects RX6 yX6_takeOut yX6_takeOut, Cond.code yX6_takeOut cX6_takeOut 4 (some .int), Cond.fieldLink RX6 15 "CoverOrder$Row" "items" "[I", Cond.methodLink RX0 48 yX3_takeBackLast, Cond.instanceMethod yX3_takeBackLast, Cond.selects RX3 yX3_takeBackLast yX3_takeBackLast, Cond.initialized RX3, Cond.code yX3_takeBackLast cX3_takeBackLast 1 none, Cond.fieldLink RX3 14 "CoverOrder$Edges" "row" "LCoverOrder$Row;", Cond.fieldLink RX3 24 "CoverOrder$Edges" "nextStamp" "I", Cond.methodLink RX3 78 yX6_takeLast, Cond.methodLink RX0 53 yX3_putBack, Cond.instanceMethod yX3_putBack, Cond.selects RX3 yX3_putBack yX3_putBack]
def wsX0_undoLast_r2 : List Cond := [Cond.code yX3_putBack cX3_putBack 3 none, Cond.methodLink RX3 74 yX6_putIn, Cond.instanceMethod yX6_putIn, Cond.selects RX6 yX6_putIn yX6_putIn, Cond.code yX6_putIn cX6_putIn 4 none, Cond.methodLink RX6 33 yX6_isFull, Cond.instanceMethod yX6_isFull, Cond.selects RX6 yX6_isFull yX6_isFull, Cond.code yX6_isFull cX6_isFull 1 (some .boolean)]
def wsX0_undoLast : List Cond := .code yX0_undoLast cX0_undoLast 4 none :: ((wsX0_undoLast_r1 ++ wsX0_undoLast_r2) ++ wsX00 ++ wsX60 ++ wsX30)
def wsX5_line : List Cond := .code yX5_line cX5_line 3 (some .int) :: ([])
def wsX5_only : List Cond := .code yX5_only cX5_only 1 (some .int) :: ([])
def wsX5_withLine : List Cond := .code yX5_withLine cX5_withLine 5 (some .long) :: ([.constantLong RX5 15 (255), .constantLong RX5 17 (-1)])
def wsJ6_bitCount_0f7a4 : List Cond := .code yJ6_bitCount_0f7a4 cJ6_bitCount_0f7a4 1 (some .int) :: ([.constant RJ6 265 (1431655765), .constant RJ6 266 (858993459), .constant RJ6 267 (252645135)])
def wsX5_first : List Cond := .code yX5_first cX5_first 1 (some .int) :: ([.methodLink RX5 9 yJ6_bitCount_0f7a4, .static yJ6_bitCount_0f7a4, .initialized RJ6, .code yJ6_bitCount_0f7a4 cJ6_bitCount_0f7a4 1 (some .int), .constant RJ6 265 (1431655765), .constant RJ6 266 (858993459), .constant RJ6 267 (252645135)])
def wsX5_reached : List Cond := .code yX5_reached cX5_reached 8 (some .int) :: ([.methodLink RX5 29 yX5_only, .static yX5_only, .initialized RX5, .code yX5_only cX5_only 1 (some .int), .methodLink RX5 39 yX5_first, .static yX5_first, .code yX5_first cX5_first 1 (some .int), .methodLink RX5 9 yJ6_bitCount_0f7a4, .static yJ6_bitCount_0f7a4, .initialized RJ6, .code yJ6_bitCount_0f7a4 cJ6_bitCount_0f7a4 1 (some .int), .constant RJ6 265 (1431655765), .constant RJ6 266 (858993459), .constant RJ6 267 (252645135), .methodLink RX5 19 yX5_line, .static yX5_line, .code yX5_line cX5_line 3 (some .int)])
def wsX1_countReached_r1 : List Cond := [Cond.methodLink RX1 37 yX5_withLine, Cond.static yX5_withLine, Cond.initialized RX5, Cond.code yX5_withLine cX5_withLine 5 (some .long), Cond.constantLong RX5 15 (255), Cond.constantLong RX5 17 (-1), Cond.methodLink RX1 41 yX5_reached, Cond.static yX5_reached, Cond.code yX5_reached cX5_reached 8 (some .int), Cond.methodLink RX5 29 yX5_only, Cond.static yX5_only, Cond.code yX5_only cX5_only 1 (some .int), Cond.methodLink RX5 39 yX5_first, Cond.static yX5_first, Cond.code yX5_first cX5_first 1 (some .int), Cond.methodLink RX5 9 yJ6_bitCount_0f7a4, Cond.static yJ6_bitCount_0f7a4, Cond.initialized RJ6, Cond.code yJ6_bitCount_0f7a4 cJ6_bitCount_0f7a4 1 (some .int), Cond.constant RJ6 265 (1431655765), Cond.constant RJ6 266 (858993459), Cond.constant RJ6 267 (252645135), Cond.methodLink RX5 19 yX5_line, Cond.static yX5_line]
def wsX1_countReached_r2 : List Cond := [Cond.code yX5_line cX5_line 3 (some .int), Cond.methodLink RX1 25 yJ6_bitCount_0f7a4]
def wsX1_countReached : List Cond := .code yX1_countReached cX1_countReached 4 (some .int) :: ((wsX1_countReached_r1 ++ wsX1_countReached_r2))
def wsX1_factorial : List Cond := .code yX1_factorial cX1_factorial 3 (some .int) :: ([])
def wsX1_gainInAllOrders_r1 : List Cond := [Cond.methodLink RX1 9 yX5_line, Cond.static yX5_line, Cond.initialized RX5, Cond.code yX5_line cX5_line 3 (some .int), Cond.methodLink RX1 15 yX5_only, Cond.static yX5_only, Cond.code yX5_only cX5_only 1 (some .int), Cond.methodLink RX1 19 yX1_countReached, Cond.static yX1_countReached, Cond.initialized RX1, Cond.code yX1_countReached cX1_countReached 4 (some .int), Cond.methodLink RX1 37 yX5_withLine, Cond.static yX5_withLine, Cond.code yX5_withLine cX5_withLine 5 (some .long), Cond.constantLong RX5 15 (255), Cond.constantLong RX5 17 (-1), Cond.methodLink RX1 41 yX5_reached, Cond.static yX5_reached, Cond.code yX5_reached cX5_reached 8 (some .int), Cond.methodLink RX5 29 yX5_only, Cond.methodLink RX5 39 yX5_first, Cond.static yX5_first, Cond.code yX5_first cX5_first 1 (some .int), Cond.methodLink RX5 9 yJ6_bitCount_0f7a4]
def wsX1_gainInAllOrders_r2 : List Cond := [Cond.static yJ6_bitCount_0f7a4, Cond.initialized RJ6, Cond.code yJ6_bitCount_0f7a4 cJ6_bitCount_0f7a4 1 (some .int), Cond.constant RJ6 265 (1431655765), Cond.constant RJ6 266 (858993459), Cond.constant RJ6 267 (252645135), Cond.methodLink RX5 19 yX5_line, Cond.methodLink RX1 25 yJ6_bitCount_0f7a4, Cond.methodLink RX1 30 yX1_factorial, Cond.static yX1_factorial, Cond.code yX1_factorial cX1_factorial 3 (some .int)]
def wsX1_gainInAllOrders : List Cond := .code yX1_gainInAllOrders cX1_gainInAllOrders 11 (some .int) :: ((wsX1_gainInAllOrders_r1 ++ wsX1_gainInAllOrders_r2))
def wsX1_power : List Cond := .code yX1_power cX1_power 4 (some .int) :: ([])
def wsX1_weightOfReaching_r1 : List Cond := [Cond.methodLink RX1 9 yX5_line, Cond.static yX5_line, Cond.initialized RX5, Cond.code yX5_line cX5_line 3 (some .int), Cond.methodLink RX1 19 yX1_countReached, Cond.static yX1_countReached, Cond.initialized RX1, Cond.code yX1_countReached cX1_countReached 4 (some .int), Cond.methodLink RX1 37 yX5_withLine, Cond.static yX5_withLine, Cond.code yX5_withLine cX5_withLine 5 (some .long), Cond.constantLong RX5 15 (255), Cond.constantLong RX5 17 (-1), Cond.methodLink RX1 41 yX5_reached, Cond.static yX5_reached, Cond.code yX5_reached cX5_reached 8 (some .int), Cond.methodLink RX5 29 yX5_only, Cond.static yX5_only, Cond.code yX5_only cX5_only 1 (some .int), Cond.methodLink RX5 39 yX5_first, Cond.static yX5_first, Cond.code yX5_first cX5_first 1 (some .int), Cond.methodLink RX5 9 yJ6_bitCount_0f7a4, Cond.static yJ6_bitCount_0f7a4]
def wsX1_weightOfReaching_r2 : List Cond := [Cond.initialized RJ6, Cond.code yJ6_bitCount_0f7a4 cJ6_bitCount_0f7a4 1 (some .int), Cond.constant RJ6 265 (1431655765), Cond.constant RJ6 266 (858993459), Cond.constant RJ6 267 (252645135), Cond.methodLink RX5 19 yX5_line, Cond.methodLink RX1 25 yJ6_bitCount_0f7a4, Cond.methodLink RX1 33 yX1_power, Cond.static yX1_power, Cond.code yX1_power cX1_power 4 (some .int)]
def wsX1_weightOfReaching : List Cond := .code yX1_weightOfReaching cX1_weightOfReaching 8 (some .int) :: ((wsX1_weightOfReaching_r1 ++ wsX1_weightOfReaching_r2))
def wsX1_greatestDivisor : List Cond := .code yX1_greatestDivisor cX1_greatestDivisor 6 (some .int) :: ([])
def wsX1_inLeastTerms : List Cond := .code yX1_inLeastTerms cX1_inLeastTerms 5 (some .int) :: ([.methodLink RX1 44 yX1_greatestDivisor, .static yX1_greatestDivisor, .initialized RX1, .code yX1_greatestDivisor cX1_greatestDivisor 6 (some .int)])
def wsX2_init : List Cond := .code yX2_init cX2_init 1 none :: ([.methodLink RX2 3 objectInit, .instanceMethod objectInit, .code objectInit ⟨#[0xb1]⟩ 1 none])
def wsX5_isIn : List Cond := .code yX5_isIn cX5_isIn 2 (some .boolean) :: ([])
def wsX2_isReached : List Cond := .code yX2_isReached cX2_isReached 2 (some .boolean) :: ([.fieldLink RX2 21 "CoverOrder$Covers" "reached" "I", .methodLink RX2 46 yX5_isIn, .static yX5_isIn, .initialized RX5, .code yX5_isIn cX5_isIn 2 (some .boolean)] ++ wsX20)
def wsX5_column : List Cond := .code yX5_column cX5_column 5 (some .int) :: ([.methodLink RX5 19 yX5_line, .static yX5_line, .initialized RX5, .code yX5_line cX5_line 3 (some .int), .methodLink RX5 25 yX5_isIn, .static yX5_isIn, .code yX5_isIn cX5_isIn 2 (some .boolean), .methodLink RX5 29 yX5_only, .static yX5_only, .code yX5_only cX5_only 1 (some .int)])
def wsX5_turned : List Cond := .code yX5_turned cX5_turned 5 (some .long) :: ([.methodLink RX5 32 yX5_column, .static yX5_column, .initialized RX5, .code yX5_column cX5_column 5 (some .int), .methodLink RX5 19 yX5_line, .static yX5_line, .code yX5_line cX5_line 3 (some .int), .methodLink RX5 25 yX5_isIn, .static yX5_isIn, .code yX5_isIn cX5_isIn 2 (some .boolean), .methodLink RX5 29 yX5_only, .static yX5_only, .code yX5_only cX5_only 1 (some .int), .methodLink RX5 35 yX5_withLine, .static yX5_withLine, .code yX5_withLine cX5_withLine 5 (some .long), .constantLong RX5 15 (255), .constantLong RX5 17 (-1)])
def wsX2_learn_r1 : List Cond := [Cond.fieldLink RX2 9 "CoverOrder$Covers" "grid" "J", Cond.fieldLink RX2 21 "CoverOrder$Covers" "reached" "I", Cond.fieldLink RX2 24 "CoverOrder$Covers" "covered" "J", Cond.fieldLink RX2 43 "CoverOrder$Covers" "coverers" "J", Cond.methodLink RX2 15 yX5_reached, Cond.static yX5_reached, Cond.initialized RX5, Cond.code yX5_reached cX5_reached 8 (some .int), Cond.methodLink RX5 29 yX5_only, Cond.static yX5_only, Cond.code yX5_only cX5_only 1 (some .int), Cond.methodLink RX5 39 yX5_first, Cond.static yX5_first, Cond.code yX5_first cX5_first 1 (some .int), Cond.methodLink RX5 9 yJ6_bitCount_0f7a4, Cond.static yJ6_bitCount_0f7a4, Cond.initialized RJ6, Cond.code yJ6_bitCount_0f7a4 cJ6_bitCount_0f7a4 1 (some .int), Cond.constant RJ6 265 (1431655765), Cond.constant RJ6 266 (858993459), Cond.constant RJ6 267 (252645135), Cond.methodLink RX5 19 yX5_line, Cond.static yX5_line, Cond.code yX5_line cX5_line 3 (some .int)]
def wsX2_learn_r2 : List Cond := [Cond.methodLink RX2 27 yX2_isReached, Cond.instanceMethod yX2_isReached, Cond.selects RX2 yX2_isReached yX2_isReached, Cond.initialized RX2, Cond.code yX2_isReached cX2_isReached 2 (some .boolean), Cond.methodLink RX2 46 yX5_isIn, Cond.static yX5_isIn, Cond.code yX5_isIn cX5_isIn 2 (some .boolean), Cond.methodLink RX2 31 yX5_only, Cond.methodLink RX2 35 yX5_withLine, Cond.static yX5_withLine, Cond.code yX5_withLine cX5_withLine 5 (some .long), Cond.constantLong RX5 15 (255), Cond.constantLong RX5 17 (-1), Cond.methodLink RX2 39 yX5_turned, Cond.static yX5_turned, Cond.code yX5_turned cX5_turned 5 (some .long), Cond.methodLink RX5 32 yX5_column, Cond.static yX5_column, Cond.code yX5_column cX5_column 5 (some .int), Cond.methodLink RX5 25 yX5_isIn, Cond.methodLink RX5 35 yX5_withLine]
def wsX2_learn : List Cond := .code yX2_learn cX2_learn 5 none :: ((wsX2_learn_r1 ++ wsX2_learn_r2) ++ wsX20)
def wsX2_reachedCount : List Cond := .code yX2_reachedCount cX2_reachedCount 1 (some .int) :: ([.fieldLink RX2 21 "CoverOrder$Covers" "reached" "I", .methodLink RX2 50 yJ6_bitCount_0f7a4, .static yJ6_bitCount_0f7a4, .initialized RJ6, .code yJ6_bitCount_0f7a4 cJ6_bitCount_0f7a4 1 (some .int), .constant RJ6 265 (1431655765), .constant RJ6 266 (858993459), .constant RJ6 267 (252645135)] ++ wsX20)
def wsX2_coveredBy : List Cond := .code yX2_coveredBy cX2_coveredBy 2 (some .int) :: ([.fieldLink RX2 24 "CoverOrder$Covers" "covered" "J", .methodLink RX2 55 yX5_line, .static yX5_line, .initialized RX5, .code yX5_line cX5_line 3 (some .int)] ++ wsX20)
def wsX2_coverersOf : List Cond := .code yX2_coverersOf cX2_coverersOf 2 (some .int) :: ([.fieldLink RX2 43 "CoverOrder$Covers" "coverers" "J", .methodLink RX2 55 yX5_line, .static yX5_line, .initialized RX5, .code yX5_line cX5_line 3 (some .int)] ++ wsX20)
def wsX2_coveredByJust : List Cond := .code yX2_coveredByJust cX2_coveredByJust 3 (some .int) :: ([.fieldLink RX2 43 "CoverOrder$Covers" "coverers" "J", .methodLink RX2 55 yX5_line, .static yX5_line, .initialized RX5, .code yX5_line cX5_line 3 (some .int)] ++ wsX20)
def wsX2_lidOf : List Cond := .code yX2_lidOf cX2_lidOf 2 (some .int) :: ([.methodLink RX2 58 yX2_coverersOf, .instanceMethod yX2_coverersOf, .selects RX2 yX2_coverersOf yX2_coverersOf, .initialized RX2, .code yX2_coverersOf cX2_coverersOf 2 (some .int), .fieldLink RX2 43 "CoverOrder$Covers" "coverers" "J", .methodLink RX2 55 yX5_line, .static yX5_line, .initialized RX5, .code yX5_line cX5_line 3 (some .int), .methodLink RX2 31 yX5_only, .static yX5_only, .code yX5_only cX5_only 1 (some .int), .methodLink RX2 61 yX2_coveredByJust, .instanceMethod yX2_coveredByJust, .selects RX2 yX2_coveredByJust yX2_coveredByJust, .code yX2_coveredByJust cX2_coveredByJust 3 (some .int)] ++ wsX20)
def wsX2_depthOf_r1 : List Cond := [Cond.methodLink RX2 27 yX2_isReached, Cond.instanceMethod yX2_isReached, Cond.selects RX2 yX2_isReached yX2_isReached, Cond.initialized RX2, Cond.code yX2_isReached cX2_isReached 2 (some .boolean), Cond.fieldLink RX2 21 "CoverOrder$Covers" "reached" "I", Cond.methodLink RX2 46 yX5_isIn, Cond.static yX5_isIn, Cond.initialized RX5, Cond.code yX5_isIn cX5_isIn 2 (some .boolean), Cond.methodLink RX2 58 yX2_coverersOf, Cond.instanceMethod yX2_coverersOf, Cond.selects RX2 yX2_coverersOf yX2_coverersOf, Cond.code yX2_coverersOf cX2_coverersOf 2 (some .int), Cond.fieldLink RX2 43 "CoverOrder$Covers" "coverers" "J", Cond.methodLink RX2 55 yX5_line, Cond.static yX5_line, Cond.code yX5_line cX5_line 3 (some .int), Cond.methodLink RX2 50 yJ6_bitCount_0f7a4, Cond.static yJ6_bitCount_0f7a4, Cond.initialized RJ6, Cond.code yJ6_bitCount_0f7a4 cJ6_bitCount_0f7a4 1 (some .int), Cond.constant RJ6 265 (1431655765), Cond.constant RJ6 266 (858993459)]
def wsX2_depthOf_r2 : List Cond := [Cond.constant RJ6 267 (252645135)]
def wsX2_depthOf : List Cond := .code yX2_depthOf cX2_depthOf 2 (some .int) :: ((wsX2_depthOf_r1 ++ wsX2_depthOf_r2) ++ wsX20)
def wsX2_depthSum_r1 : List Cond := [Cond.methodLink RX2 67 Lib.Math.max.name, Cond.static Lib.Math.max.name, Cond.initialized "java/lang/Math", Cond.code Lib.Math.max.name Lib.Math.max.code 2 (some .int), Cond.methodLink RX2 64 yX2_depthOf, Cond.instanceMethod yX2_depthOf, Cond.selects RX2 yX2_depthOf yX2_depthOf, Cond.initialized RX2, Cond.code yX2_depthOf cX2_depthOf 2 (some .int), Cond.methodLink RX2 27 yX2_isReached, Cond.instanceMethod yX2_isReached, Cond.selects RX2 yX2_isReached yX2_isReached, Cond.code yX2_isReached cX2_isReached 2 (some .boolean), Cond.fieldLink RX2 21 "CoverOrder$Covers" "reached" "I", Cond.methodLink RX2 46 yX5_isIn, Cond.static yX5_isIn, Cond.initialized RX5, Cond.code yX5_isIn cX5_isIn 2 (some .boolean), Cond.methodLink RX2 58 yX2_coverersOf, Cond.instanceMethod yX2_coverersOf, Cond.selects RX2 yX2_coverersOf yX2_coverersOf, Cond.code yX2_coverersOf cX2_coverersOf 2 (some .int), Cond.fieldLink RX2 43 "CoverOrder$Covers" "coverers" "J", Cond.methodLink RX2 55 yX5_line]
def wsX2_depthSum_r2 : List Cond := [Cond.static yX5_line, Cond.code yX5_line cX5_line 3 (some .int), Cond.methodLink RX2 50 yJ6_bitCount_0f7a4, Cond.static yJ6_bitCount_0f7a4, Cond.initialized RJ6, Cond.code yJ6_bitCount_0f7a4 cJ6_bitCount_0f7a4 1 (some .int), Cond.constant RJ6 265 (1431655765), Cond.constant RJ6 266 (858993459), Cond.constant RJ6 267 (252645135)]
def wsX2_depthSum : List Cond := .code yX2_depthSum cX2_depthSum 3 (some .int) :: ((wsX2_depthSum_r1 ++ wsX2_depthSum_r2) ++ wsX20)
def wsX2_greatestDepth_r1 : List Cond := [Cond.methodLink RX2 67 Lib.Math.max.name, Cond.static Lib.Math.max.name, Cond.initialized "java/lang/Math", Cond.code Lib.Math.max.name Lib.Math.max.code 2 (some .int), Cond.methodLink RX2 64 yX2_depthOf, Cond.instanceMethod yX2_depthOf, Cond.selects RX2 yX2_depthOf yX2_depthOf, Cond.initialized RX2, Cond.code yX2_depthOf cX2_depthOf 2 (some .int), Cond.methodLink RX2 27 yX2_isReached, Cond.instanceMethod yX2_isReached, Cond.selects RX2 yX2_isReached yX2_isReached, Cond.code yX2_isReached cX2_isReached 2 (some .boolean), Cond.fieldLink RX2 21 "CoverOrder$Covers" "reached" "I", Cond.methodLink RX2 46 yX5_isIn, Cond.static yX5_isIn, Cond.initialized RX5, Cond.code yX5_isIn cX5_isIn 2 (some .boolean), Cond.methodLink RX2 58 yX2_coverersOf, Cond.instanceMethod yX2_coverersOf, Cond.selects RX2 yX2_coverersOf yX2_coverersOf, Cond.code yX2_coverersOf cX2_coverersOf 2 (some .int), Cond.fieldLink RX2 43 "CoverOrder$Covers" "coverers" "J", Cond.methodLink RX2 55 yX5_line]
def wsX2_greatestDepth_r2 : List Cond := [Cond.static yX5_line, Cond.code yX5_line cX5_line 3 (some .int), Cond.methodLink RX2 50 yJ6_bitCount_0f7a4, Cond.static yJ6_bitCount_0f7a4, Cond.initialized RJ6, Cond.code yJ6_bitCount_0f7a4 cJ6_bitCount_0f7a4 1 (some .int), Cond.constant RJ6 265 (1431655765), Cond.constant RJ6 266 (858993459), Cond.constant RJ6 267 (252645135)]
def wsX2_greatestDepth : List Cond := .code yX2_greatestDepth cX2_greatestDepth 3 (some .int) :: ((wsX2_greatestDepth_r1 ++ wsX2_greatestDepth_r2) ++ wsX20)
def wsX2_rimOf : List Cond := .code yX2_rimOf cX2_rimOf 5 (some .int) :: ([.fieldLink RX2 9 "CoverOrder$Covers" "grid" "J", .methodLink RX2 73 yX2_coveredBy, .instanceMethod yX2_coveredBy, .selects RX2 yX2_coveredBy yX2_coveredBy, .initialized RX2, .code yX2_coveredBy cX2_coveredBy 2 (some .int), .fieldLink RX2 24 "CoverOrder$Covers" "covered" "J", .methodLink RX2 55 yX5_line, .static yX5_line, .initialized RX5, .code yX5_line cX5_line 3 (some .int), .methodLink RX2 46 yX5_isIn, .static yX5_isIn, .code yX5_isIn cX5_isIn 2 (some .boolean), .methodLink RX2 31 yX5_only, .static yX5_only, .code yX5_only cX5_only 1 (some .int)] ++ wsX20)
def wsX2_changedIn : List Cond := .code yX2_changedIn cX2_changedIn 4 (some .int) :: ([.fieldLink RX2 21 "CoverOrder$Covers" "reached" "I", .methodLink RX2 76 yX2_lidOf, .instanceMethod yX2_lidOf, .selects RX2 yX2_lidOf yX2_lidOf, .initialized RX2, .code yX2_lidOf cX2_lidOf 2 (some .int), .methodLink RX2 58 yX2_coverersOf, .instanceMethod yX2_coverersOf, .selects RX2 yX2_coverersOf yX2_coverersOf, .code yX2_coverersOf cX2_coverersOf 2 (some .int), .fieldLink RX2 43 "CoverOrder$Covers" "coverers" "J", .methodLink RX2 55 yX5_line, .static yX5_line, .initialized RX5, .code yX5_line cX5_line 3 (some .int), .methodLink RX2 31 yX5_only, .static yX5_only, .code yX5_only cX5_only 1 (some .int), .methodLink RX2 61 yX2_coveredByJust, .instanceMethod yX2_coveredByJust, .selects RX2 yX2_coveredByJust yX2_coveredByJust, .code yX2_coveredByJust cX2_coveredByJust 3 (some .int)] ++ wsX20)
def wsX2_isShown_r1 : List Cond := [Cond.fieldLink RX2 9 "CoverOrder$Covers" "grid" "J", Cond.fieldLink RX2 21 "CoverOrder$Covers" "reached" "I", Cond.methodLink RX2 79 yX5_column, Cond.static yX5_column, Cond.initialized RX5, Cond.code yX5_column cX5_column 5 (some .int), Cond.methodLink RX5 19 yX5_line, Cond.static yX5_line, Cond.code yX5_line cX5_line 3 (some .int), Cond.methodLink RX5 25 yX5_isIn, Cond.static yX5_isIn, Cond.code yX5_isIn cX5_isIn 2 (some .boolean), Cond.methodLink RX5 29 yX5_only, Cond.static yX5_only, Cond.code yX5_only cX5_only 1 (some .int), Cond.methodLink RX2 73 yX2_coveredBy, Cond.instanceMethod yX2_coveredBy, Cond.selects RX2 yX2_coveredBy yX2_coveredBy, Cond.initialized RX2, Cond.code yX2_coveredBy cX2_coveredBy 2 (some .int), Cond.fieldLink RX2 24 "CoverOrder$Covers" "covered" "J", Cond.methodLink RX2 55 yX5_line, Cond.methodLink RX2 76 yX2_lidOf, Cond.instanceMethod yX2_lidOf]
def wsX2_isShown_r2 : List Cond := [Cond.selects RX2 yX2_lidOf yX2_lidOf, Cond.code yX2_lidOf cX2_lidOf 2 (some .int), Cond.methodLink RX2 58 yX2_coverersOf, Cond.instanceMethod yX2_coverersOf, Cond.selects RX2 yX2_coverersOf yX2_coverersOf, Cond.code yX2_coverersOf cX2_coverersOf 2 (some .int), Cond.fieldLink RX2 43 "CoverOrder$Covers" "coverers" "J", Cond.methodLink RX2 31 yX5_only, Cond.methodLink RX2 61 yX2_coveredByJust, Cond.instanceMethod yX2_coveredByJust, Cond.selects RX2 yX2_coveredByJust yX2_coveredByJust, Cond.code yX2_coveredByJust cX2_coveredByJust 3 (some .int), Cond.methodLink RX2 46 yX5_isIn]
def wsX2_isShown : List Cond := .code yX2_isShown cX2_isShown 5 (some .boolean) :: ((wsX2_isShown_r1 ++ wsX2_isShown_r2) ++ wsX20)
def wsX2_nextBehind_r1 : List Cond := [Cond.fieldLink RX2 21 "CoverOrder$Covers" "reached" "I", Cond.methodLink RX2 46 yX5_isIn, Cond.static yX5_isIn, Cond.initialized RX5, Cond.code yX5_isIn cX5_isIn 2 (some .boolean), Cond.methodLink RX2 73 yX2_coveredBy, Cond.instanceMethod yX2_coveredBy, Cond.selects RX2 yX2_coveredBy yX2_coveredBy, Cond.initialized RX2, Cond.code yX2_coveredBy cX2_coveredBy 2 (some .int), Cond.fieldLink RX2 24 "CoverOrder$Covers" "covered" "J", Cond.methodLink RX2 55 yX5_line, Cond.static yX5_line, Cond.code yX5_line cX5_line 3 (some .int), Cond.methodLink RX2 76 yX2_lidOf, Cond.instanceMethod yX2_lidOf, Cond.selects RX2 yX2_lidOf yX2_lidOf, Cond.code yX2_lidOf cX2_lidOf 2 (some .int), Cond.methodLink RX2 58 yX2_coverersOf, Cond.instanceMethod yX2_coverersOf, Cond.selects RX2 yX2_coverersOf yX2_coverersOf, Cond.code yX2_coverersOf cX2_coverersOf 2 (some .int), Cond.fieldLink RX2 43 "CoverOrder$Covers" "coverers" "J", Cond.methodLink RX2 31 yX5_only]
def wsX2_nextBehind_r2 : List Cond := [Cond.static yX5_only, Cond.code yX5_only cX5_only 1 (some .int), Cond.methodLink RX2 61 yX2_coveredByJust, Cond.instanceMethod yX2_coveredByJust, Cond.selects RX2 yX2_coveredByJust yX2_coveredByJust, Cond.code yX2_coveredByJust cX2_coveredByJust 3 (some .int)]
def wsX2_nextBehind : List Cond := .code yX2_nextBehind cX2_nextBehind 5 (some .int) :: ((wsX2_nextBehind_r1 ++ wsX2_nextBehind_r2) ++ wsX20)
def wsX6_at : List Cond := .code yX6_at cX6_at 2 (some .int) :: ([.fieldLink RX6 21 "CoverOrder$Row" "size" "I", .fieldLink RX6 15 "CoverOrder$Row" "items" "[I"] ++ wsX60)
def wsX2_isInPlace_r1 : List Cond := [Cond.methodLink RX2 76 yX2_lidOf, Cond.instanceMethod yX2_lidOf, Cond.selects RX2 yX2_lidOf yX2_lidOf, Cond.initialized RX2, Cond.code yX2_lidOf cX2_lidOf 2 (some .int), Cond.methodLink RX2 58 yX2_coverersOf, Cond.instanceMethod yX2_coverersOf, Cond.selects RX2 yX2_coverersOf yX2_coverersOf, Cond.code yX2_coverersOf cX2_coverersOf 2 (some .int), Cond.fieldLink RX2 43 "CoverOrder$Covers" "coverers" "J", Cond.methodLink RX2 55 yX5_line, Cond.static yX5_line, Cond.initialized RX5, Cond.code yX5_line cX5_line 3 (some .int), Cond.methodLink RX2 31 yX5_only, Cond.static yX5_only, Cond.code yX5_only cX5_only 1 (some .int), Cond.methodLink RX2 61 yX2_coveredByJust, Cond.instanceMethod yX2_coveredByJust, Cond.selects RX2 yX2_coveredByJust yX2_coveredByJust, Cond.code yX2_coveredByJust cX2_coveredByJust 3 (some .int), Cond.methodLink RX2 73 yX2_coveredBy, Cond.instanceMethod yX2_coveredBy, Cond.selects RX2 yX2_coveredBy yX2_coveredBy]
def wsX2_isInPlace_r2 : List Cond := [Cond.code yX2_coveredBy cX2_coveredBy 2 (some .int), Cond.fieldLink RX2 24 "CoverOrder$Covers" "covered" "J", Cond.methodLink RX2 88 yX6_at, Cond.instanceMethod yX6_at, Cond.selects RX6 yX6_at yX6_at, Cond.initialized RX6, Cond.code yX6_at cX6_at 2 (some .int), Cond.fieldLink RX6 21 "CoverOrder$Row" "size" "I", Cond.fieldLink RX6 15 "CoverOrder$Row" "items" "[I", Cond.methodLink RX2 46 yX5_isIn, Cond.static yX5_isIn, Cond.code yX5_isIn cX5_isIn 2 (some .boolean)]
def wsX2_isInPlace : List Cond := .code yX2_isInPlace cX2_isInPlace 4 (some .boolean) :: ((wsX2_isInPlace_r1 ++ wsX2_isInPlace_r2) ++ wsX20 ++ wsX60)
def wsX2_firstMisplaced_r1 : List Cond := [Cond.methodLink RX2 82 yX6_size, Cond.instanceMethod yX6_size, Cond.selects RX6 yX6_size yX6_size, Cond.initialized RX6, Cond.code yX6_size cX6_size 1 (some .int), Cond.fieldLink RX6 21 "CoverOrder$Row" "size" "I", Cond.methodLink RX2 88 yX6_at, Cond.instanceMethod yX6_at, Cond.selects RX6 yX6_at yX6_at, Cond.code yX6_at cX6_at 2 (some .int), Cond.fieldLink RX6 15 "CoverOrder$Row" "items" "[I", Cond.methodLink RX2 27 yX2_isReached, Cond.instanceMethod yX2_isReached, Cond.selects RX2 yX2_isReached yX2_isReached, Cond.initialized RX2, Cond.code yX2_isReached cX2_isReached 2 (some .boolean), Cond.fieldLink RX2 21 "CoverOrder$Covers" "reached" "I", Cond.methodLink RX2 46 yX5_isIn, Cond.static yX5_isIn, Cond.initialized RX5, Cond.code yX5_isIn cX5_isIn 2 (some .boolean), Cond.methodLink RX2 91 yX2_isInPlace, Cond.instanceMethod yX2_isInPlace, Cond.selects RX2 yX2_isInPlace yX2_isInPlace]
def wsX2_firstMisplaced_r2 : List Cond := [Cond.code yX2_isInPlace cX2_isInPlace 4 (some .boolean), Cond.methodLink RX2 76 yX2_lidOf, Cond.instanceMethod yX2_lidOf, Cond.selects RX2 yX2_lidOf yX2_lidOf, Cond.code yX2_lidOf cX2_lidOf 2 (some .int), Cond.methodLink RX2 58 yX2_coverersOf, Cond.instanceMethod yX2_coverersOf, Cond.selects RX2 yX2_coverersOf yX2_coverersOf, Cond.code yX2_coverersOf cX2_coverersOf 2 (some .int), Cond.fieldLink RX2 43 "CoverOrder$Covers" "coverers" "J", Cond.methodLink RX2 55 yX5_line, Cond.static yX5_line, Cond.code yX5_line cX5_line 3 (some .int), Cond.methodLink RX2 31 yX5_only, Cond.static yX5_only, Cond.code yX5_only cX5_only 1 (some .int), Cond.methodLink RX2 61 yX2_coveredByJust, Cond.instanceMethod yX2_coveredByJust, Cond.selects RX2 yX2_coveredByJust yX2_coveredByJust, Cond.code yX2_coveredByJust cX2_coveredByJust 3 (some .int), Cond.methodLink RX2 73 yX2_coveredBy, Cond.instanceMethod yX2_coveredBy, Cond.selects RX2 yX2_coveredBy yX2_coveredBy, Cond.code yX2_coveredBy cX2_coveredBy 2 (some .int)]
def wsX2_firstMisplaced_r3 : List Cond := [Cond.fieldLink RX2 24 "CoverOrder$Covers" "covered" "J"]
def wsX2_firstMisplaced : List Cond := .code yX2_firstMisplaced cX2_firstMisplaced 6 (some .int) :: ((wsX2_firstMisplaced_r1 ++ (wsX2_firstMisplaced_r2 ++ wsX2_firstMisplaced_r3)) ++ wsX60 ++ wsX20)
def wsX2_firstNotShown_r1 : List Cond := [Cond.methodLink RX2 82 yX6_size, Cond.instanceMethod yX6_size, Cond.selects RX6 yX6_size yX6_size, Cond.initialized RX6, Cond.code yX6_size cX6_size 1 (some .int), Cond.fieldLink RX6 21 "CoverOrder$Row" "size" "I", Cond.methodLink RX2 88 yX6_at, Cond.instanceMethod yX6_at, Cond.selects RX6 yX6_at yX6_at, Cond.code yX6_at cX6_at 2 (some .int), Cond.fieldLink RX6 15 "CoverOrder$Row" "items" "[I", Cond.methodLink RX2 95 yX2_isShown, Cond.instanceMethod yX2_isShown, Cond.selects RX2 yX2_isShown yX2_isShown, Cond.initialized RX2, Cond.code yX2_isShown cX2_isShown 5 (some .boolean), Cond.fieldLink RX2 9 "CoverOrder$Covers" "grid" "J", Cond.fieldLink RX2 21 "CoverOrder$Covers" "reached" "I", Cond.methodLink RX2 79 yX5_column, Cond.static yX5_column, Cond.initialized RX5, Cond.code yX5_column cX5_column 5 (some .int), Cond.methodLink RX5 19 yX5_line, Cond.static yX5_line]
def wsX2_firstNotShown_r2 : List Cond := [Cond.code yX5_line cX5_line 3 (some .int), Cond.methodLink RX5 25 yX5_isIn, Cond.static yX5_isIn, Cond.code yX5_isIn cX5_isIn 2 (some .boolean), Cond.methodLink RX5 29 yX5_only, Cond.static yX5_only, Cond.code yX5_only cX5_only 1 (some .int), Cond.methodLink RX2 73 yX2_coveredBy, Cond.instanceMethod yX2_coveredBy, Cond.selects RX2 yX2_coveredBy yX2_coveredBy, Cond.code yX2_coveredBy cX2_coveredBy 2 (some .int), Cond.fieldLink RX2 24 "CoverOrder$Covers" "covered" "J", Cond.methodLink RX2 55 yX5_line, Cond.methodLink RX2 76 yX2_lidOf, Cond.instanceMethod yX2_lidOf, Cond.selects RX2 yX2_lidOf yX2_lidOf, Cond.code yX2_lidOf cX2_lidOf 2 (some .int), Cond.methodLink RX2 58 yX2_coverersOf, Cond.instanceMethod yX2_coverersOf, Cond.selects RX2 yX2_coverersOf yX2_coverersOf, Cond.code yX2_coverersOf cX2_coverersOf 2 (some .int), Cond.fieldLink RX2 43 "CoverOrder$Covers" "coverers" "J", Cond.methodLink RX2 31 yX5_only, Cond.methodLink RX2 61 yX2_coveredByJust]
def wsX2_firstNotShown_r3 : List Cond := [Cond.instanceMethod yX2_coveredByJust, Cond.selects RX2 yX2_coveredByJust yX2_coveredByJust, Cond.code yX2_coveredByJust cX2_coveredByJust 3 (some .int), Cond.methodLink RX2 46 yX5_isIn]
def wsX2_firstNotShown : List Cond := .code yX2_firstNotShown cX2_firstNotShown 5 (some .int) :: ((wsX2_firstNotShown_r1 ++ (wsX2_firstNotShown_r2 ++ wsX2_firstNotShown_r3)) ++ wsX60 ++ wsX20)
def wsX3_init : List Cond := .code yX3_init cX3_init 1 none :: ([.methodLink RX3 3 objectInit, .instanceMethod objectInit, .code objectInit ⟨#[0xb1]⟩ 1 none, .classLink RX3 9 RX6, .instantiable RX6 2, .initialized RX6, .fieldLink RX3 14 "CoverOrder$Edges" "row" "LCoverOrder$Row;", .fieldLink RX3 20 "CoverOrder$Edges" "knots" "I", .fieldLink RX3 24 "CoverOrder$Edges" "nextStamp" "I", .methodLink RX3 11 yX6_init, .instanceMethod yX6_init, .code yX6_init cX6_init 2 none, .methodLink RX6 3 objectInit, .methodLink RX6 9 Lib.Math.max.name, .static Lib.Math.max.name, .initialized "java/lang/Math", .code Lib.Math.max.name Lib.Math.max.code 2 (some .int), .arrayClass .int, .fieldLink RX6 15 "CoverOrder$Row" "items" "[I"] ++ wsX60 ++ wsX30)
def wsX3_pair : List Cond := .code yX3_pair cX3_pair 2 (some .int) :: ([])
def wsX3_pairOf : List Cond := .code yX3_pairOf cX3_pairOf 1 (some .int) :: ([])
def wsX3_stampOf : List Cond := .code yX3_stampOf cX3_stampOf 1 (some .int) :: ([])
def wsX3_restart : List Cond := .code yX3_restart cX3_restart 2 none :: ([.methodLink RX3 27 Lib.Math.min.name, .static Lib.Math.min.name, .initialized "java/lang/Math", .code Lib.Math.min.name Lib.Math.min.code 2 (some .int), .methodLink RX3 33 Lib.Math.max.name, .static Lib.Math.max.name, .code Lib.Math.max.name Lib.Math.max.code 2 (some .int), .fieldLink RX3 20 "CoverOrder$Edges" "knots" "I", .fieldLink RX3 14 "CoverOrder$Edges" "row" "LCoverOrder$Row;", .fieldLink RX3 24 "CoverOrder$Edges" "nextStamp" "I", .methodLink RX3 36 yX6_clear, .instanceMethod yX6_clear, .selects RX6 yX6_clear yX6_clear, .initialized RX6, .code yX6_clear cX6_clear 1 none, .fieldLink RX6 21 "CoverOrder$Row" "size" "I"] ++ wsX30 ++ wsX60)
def wsX6_copy : List Cond := .code yX6_copy cX6_copy 3 none :: ([.fieldLink RX6 21 "CoverOrder$Row" "size" "I", .methodLink RX6 40 yX6_clear, .instanceMethod yX6_clear, .selects RX6 yX6_clear yX6_clear, .initialized RX6, .code yX6_clear cX6_clear 1 none, .methodLink RX6 25 yX6_at, .instanceMethod yX6_at, .selects RX6 yX6_at yX6_at, .code yX6_at cX6_at 2 (some .int), .fieldLink RX6 15 "CoverOrder$Row" "items" "[I", .methodLink RX6 43 yX6_add, .instanceMethod yX6_add, .selects RX6 yX6_add yX6_add, .code yX6_add cX6_add 2 none, .methodLink RX6 29 yX6_putIn, .instanceMethod yX6_putIn, .selects RX6 yX6_putIn yX6_putIn, .code yX6_putIn cX6_putIn 4 none, .methodLink RX6 33 yX6_isFull, .instanceMethod yX6_isFull, .selects RX6 yX6_isFull yX6_isFull, .code yX6_isFull cX6_isFull 1 (some .boolean)] ++ wsX60)
def wsX3_copy_r1 : List Cond := [Cond.fieldLink RX3 20 "CoverOrder$Edges" "knots" "I", Cond.fieldLink RX3 14 "CoverOrder$Edges" "row" "LCoverOrder$Row;", Cond.fieldLink RX3 24 "CoverOrder$Edges" "nextStamp" "I", Cond.methodLink RX3 39 yX6_copy, Cond.instanceMethod yX6_copy, Cond.selects RX6 yX6_copy yX6_copy, Cond.initialized RX6, Cond.code yX6_copy cX6_copy 3 none, Cond.fieldLink RX6 21 "CoverOrder$Row" "size" "I", Cond.methodLink RX6 40 yX6_clear, Cond.instanceMethod yX6_clear, Cond.selects RX6 yX6_clear yX6_clear, Cond.code yX6_clear cX6_clear 1 none, Cond.methodLink RX6 25 yX6_at, Cond.instanceMethod yX6_at, Cond.selects RX6 yX6_at yX6_at, Cond.code yX6_at cX6_at 2 (some .int), Cond.fieldLink RX6 15 "CoverOrder$Row" "items" "[I", Cond.methodLink RX6 43 yX6_add, Cond.instanceMethod yX6_add, Cond.selects RX6 yX6_add yX6_add, Cond.code yX6_add cX6_add 2 none, Cond.methodLink RX6 29 yX6_putIn, Cond.instanceMethod yX6_putIn]
def wsX3_copy_r2 : List Cond := [Cond.selects RX6 yX6_putIn yX6_putIn, Cond.code yX6_putIn cX6_putIn 4 none, Cond.methodLink RX6 33 yX6_isFull, Cond.instanceMethod yX6_isFull, Cond.selects RX6 yX6_isFull yX6_isFull, Cond.code yX6_isFull cX6_isFull 1 (some .boolean)]
def wsX3_copy : List Cond := .code yX3_copy cX3_copy 2 none :: ((wsX3_copy_r1 ++ wsX3_copy_r2) ++ wsX30 ++ wsX60)
def wsX3_size : List Cond := .code yX3_size cX3_size 1 (some .int) :: ([.fieldLink RX3 14 "CoverOrder$Edges" "row" "LCoverOrder$Row;", .methodLink RX3 43 yX6_size, .instanceMethod yX6_size, .selects RX6 yX6_size yX6_size, .initialized RX6, .code yX6_size cX6_size 1 (some .int), .fieldLink RX6 21 "CoverOrder$Row" "size" "I"] ++ wsX30 ++ wsX60)
def wsX3_isFull : List Cond := .code yX3_isFull cX3_isFull 1 (some .boolean) :: ([.fieldLink RX3 14 "CoverOrder$Edges" "row" "LCoverOrder$Row;", .methodLink RX3 47 yX6_isFull, .instanceMethod yX6_isFull, .selects RX6 yX6_isFull yX6_isFull, .initialized RX6, .code yX6_isFull cX6_isFull 1 (some .boolean), .fieldLink RX6 21 "CoverOrder$Row" "size" "I", .fieldLink RX6 15 "CoverOrder$Row" "items" "[I"] ++ wsX30 ++ wsX60)
def wsX3_isKnot : List Cond := .code yX3_isKnot cX3_isKnot 2 (some .boolean) :: ([.fieldLink RX3 20 "CoverOrder$Edges" "knots" "I"] ++ wsX30)
def wsX3_areKnots : List Cond := .code yX3_areKnots cX3_areKnots 3 (some .boolean) :: ([.methodLink RX3 51 yX3_isKnot, .instanceMethod yX3_isKnot, .selects RX3 yX3_isKnot yX3_isKnot, .initialized RX3, .code yX3_isKnot cX3_isKnot 2 (some .boolean), .fieldLink RX3 20 "CoverOrder$Edges" "knots" "I"] ++ wsX30)
def wsX3_at : List Cond := .code yX3_at cX3_at 2 (some .int) :: ([.fieldLink RX3 14 "CoverOrder$Edges" "row" "LCoverOrder$Row;", .methodLink RX3 55 yX6_at, .instanceMethod yX6_at, .selects RX6 yX6_at yX6_at, .initialized RX6, .code yX6_at cX6_at 2 (some .int), .fieldLink RX6 21 "CoverOrder$Row" "size" "I", .fieldLink RX6 15 "CoverOrder$Row" "items" "[I"] ++ wsX30 ++ wsX60)
def wsX3_placeOf : List Cond := .code yX3_placeOf cX3_placeOf 4 (some .int) :: ([.fieldLink RX3 14 "CoverOrder$Edges" "row" "LCoverOrder$Row;", .methodLink RX3 43 yX6_size, .instanceMethod yX6_size, .selects RX6 yX6_size yX6_size, .initialized RX6, .code yX6_size cX6_size 1 (some .int), .fieldLink RX6 21 "CoverOrder$Row" "size" "I", .methodLink RX3 55 yX6_at, .instanceMethod yX6_at, .selects RX6 yX6_at yX6_at, .code yX6_at cX6_at 2 (some .int), .fieldLink RX6 15 "CoverOrder$Row" "items" "[I", .methodLink RX3 59 yX3_pairOf, .static yX3_pairOf, .initialized RX3, .code yX3_pairOf cX3_pairOf 1 (some .int), .methodLink RX3 62 yX3_pair, .static yX3_pair, .code yX3_pair cX3_pair 2 (some .int)] ++ wsX30 ++ wsX60)
def wsX3_has : List Cond := .code yX3_has cX3_has 3 (some .boolean) :: ([.methodLink RX3 65 yX3_placeOf, .instanceMethod yX3_placeOf, .selects RX3 yX3_placeOf yX3_placeOf, .initialized RX3, .code yX3_placeOf cX3_placeOf 4 (some .int), .fieldLink RX3 14 "CoverOrder$Edges" "row" "LCoverOrder$Row;", .methodLink RX3 43 yX6_size, .instanceMethod yX6_size, .selects RX6 yX6_size yX6_size, .initialized RX6, .code yX6_size cX6_size 1 (some .int), .fieldLink RX6 21 "CoverOrder$Row" "size" "I", .methodLink RX3 55 yX6_at, .instanceMethod yX6_at, .selects RX6 yX6_at yX6_at, .code yX6_at cX6_at 2 (some .int), .fieldLink RX6 15 "CoverOrder$Row" "items" "[I", .methodLink RX3 59 yX3_pairOf, .static yX3_pairOf, .code yX3_pairOf cX3_pairOf 1 (some .int), .methodLink RX3 62 yX3_pair, .static yX3_pair, .code yX3_pair cX3_pair 2 (some .int)] ++ wsX30 ++ wsX60)
def wsX3_append : List Cond := .code yX3_append cX3_append 4 (some .int) :: ([.fieldLink RX3 24 "CoverOrder$Edges" "nextStamp" "I", .fieldLink RX3 14 "CoverOrder$Edges" "row" "LCoverOrder$Row;", .methodLink RX3 62 yX3_pair, .static yX3_pair, .initialized RX3, .code yX3_pair cX3_pair 2 (some .int), .methodLink RX3 68 yX6_add, .instanceMethod yX6_add, .selects RX6 yX6_add yX6_add, .initialized RX6, .code yX6_add cX6_add 2 none, .fieldLink RX6 21 "CoverOrder$Row" "size" "I", .methodLink RX6 29 yX6_putIn, .instanceMethod yX6_putIn, .selects RX6 yX6_putIn yX6_putIn, .code yX6_putIn cX6_putIn 4 none, .fieldLink RX6 15 "CoverOrder$Row" "items" "[I", .methodLink RX6 33 yX6_isFull, .instanceMethod yX6_isFull, .selects RX6 yX6_isFull yX6_isFull, .code yX6_isFull cX6_isFull 1 (some .boolean)] ++ wsX30 ++ wsX60)
def wsX3_takeOut : List Cond := .code yX3_takeOut cX3_takeOut 2 (some .int) :: ([.fieldLink RX3 14 "CoverOrder$Edges" "row" "LCoverOrder$Row;", .methodLink RX3 71 yX6_takeOut, .instanceMethod yX6_takeOut, .selects RX6 yX6_takeOut yX6_takeOut, .initialized RX6, .code yX6_takeOut cX6_takeOut 4 (some .int), .fieldLink RX6 21 "CoverOrder$Row" "size" "I", .fieldLink RX6 15 "CoverOrder$Row" "items" "[I"] ++ wsX30 ++ wsX60)
def wsX3_insertIfItCanBe_r1 : List Cond := [Cond.methodLink RX3 81 yX3_has, Cond.instanceMethod yX3_has, Cond.selects RX3 yX3_has yX3_has, Cond.initialized RX3, Cond.code yX3_has cX3_has 3 (some .boolean), Cond.methodLink RX3 65 yX3_placeOf, Cond.instanceMethod yX3_placeOf, Cond.selects RX3 yX3_placeOf yX3_placeOf, Cond.code yX3_placeOf cX3_placeOf 4 (some .int), Cond.fieldLink RX3 14 "CoverOrder$Edges" "row" "LCoverOrder$Row;", Cond.methodLink RX3 43 yX6_size, Cond.instanceMethod yX6_size, Cond.selects RX6 yX6_size yX6_size, Cond.initialized RX6, Cond.code yX6_size cX6_size 1 (some .int), Cond.fieldLink RX6 21 "CoverOrder$Row" "size" "I", Cond.methodLink RX3 55 yX6_at, Cond.instanceMethod yX6_at, Cond.selects RX6 yX6_at yX6_at, Cond.code yX6_at cX6_at 2 (some .int), Cond.fieldLink RX6 15 "CoverOrder$Row" "items" "[I", Cond.methodLink RX3 59 yX3_pairOf, Cond.static yX3_pairOf, Cond.code yX3_pairOf cX3_pairOf 1 (some .int)]
def wsX3_insertIfItCanBe_r2 : List Cond := [Cond.methodLink RX3 62 yX3_pair, Cond.static yX3_pair, Cond.code yX3_pair cX3_pair 2 (some .int), Cond.methodLink RX3 85 yX3_isFull, Cond.instanceMethod yX3_isFull, Cond.selects RX3 yX3_isFull yX3_isFull, Cond.code yX3_isFull cX3_isFull 1 (some .boolean), Cond.methodLink RX3 47 yX6_isFull, Cond.instanceMethod yX6_isFull, Cond.selects RX6 yX6_isFull yX6_isFull, Cond.code yX6_isFull cX6_isFull 1 (some .boolean), Cond.methodLink RX3 86 yX3_append, Cond.instanceMethod yX3_append, Cond.selects RX3 yX3_append yX3_append, Cond.code yX3_append cX3_append 4 (some .int), Cond.fieldLink RX3 24 "CoverOrder$Edges" "nextStamp" "I", Cond.methodLink RX3 68 yX6_add, Cond.instanceMethod yX6_add, Cond.selects RX6 yX6_add yX6_add, Cond.code yX6_add cX6_add 2 none, Cond.methodLink RX6 29 yX6_putIn, Cond.instanceMethod yX6_putIn, Cond.selects RX6 yX6_putIn yX6_putIn, Cond.code yX6_putIn cX6_putIn 4 none]
def wsX3_insertIfItCanBe_r3 : List Cond := [Cond.methodLink RX6 33 yX6_isFull]
def wsX3_insertIfItCanBe : List Cond := .code yX3_insertIfItCanBe cX3_insertIfItCanBe 4 (some .boolean) :: ((wsX3_insertIfItCanBe_r1 ++ (wsX3_insertIfItCanBe_r2 ++ wsX3_insertIfItCanBe_r3)) ++ wsX30 ++ wsX60)
def wsX3_deleteIfItIsThere_r1 : List Cond := [Cond.methodLink RX3 81 yX3_has, Cond.instanceMethod yX3_has, Cond.selects RX3 yX3_has yX3_has, Cond.initialized RX3, Cond.code yX3_has cX3_has 3 (some .boolean), Cond.methodLink RX3 65 yX3_placeOf, Cond.instanceMethod yX3_placeOf, Cond.selects RX3 yX3_placeOf yX3_placeOf, Cond.code yX3_placeOf cX3_placeOf 4 (some .int), Cond.fieldLink RX3 14 "CoverOrder$Edges" "row" "LCoverOrder$Row;", Cond.methodLink RX3 43 yX6_size, Cond.instanceMethod yX6_size, Cond.selects RX6 yX6_size yX6_size, Cond.initialized RX6, Cond.code yX6_size cX6_size 1 (some .int), Cond.fieldLink RX6 21 "CoverOrder$Row" "size" "I", Cond.methodLink RX3 55 yX6_at, Cond.instanceMethod yX6_at, Cond.selects RX6 yX6_at yX6_at, Cond.code yX6_at cX6_at 2 (some .int), Cond.fieldLink RX6 15 "CoverOrder$Row" "items" "[I", Cond.methodLink RX3 59 yX3_pairOf, Cond.static yX3_pairOf, Cond.code yX3_pairOf cX3_pairOf 1 (some .int)]
def wsX3_deleteIfItIsThere_r2 : List Cond := [Cond.methodLink RX3 62 yX3_pair, Cond.static yX3_pair, Cond.code yX3_pair cX3_pair 2 (some .int), Cond.methodLink RX3 89 yX3_takeOut, Cond.instanceMethod yX3_takeOut, Cond.selects RX3 yX3_takeOut yX3_takeOut, Cond.code yX3_takeOut cX3_takeOut 2 (some .int), Cond.methodLink RX3 71 yX6_takeOut, Cond.instanceMethod yX6_takeOut, Cond.selects RX6 yX6_takeOut yX6_takeOut, Cond.code yX6_takeOut cX6_takeOut 4 (some .int)]
def wsX3_deleteIfItIsThere : List Cond := .code yX3_deleteIfItIsThere cX3_deleteIfItIsThere 4 (some .boolean) :: ((wsX3_deleteIfItIsThere_r1 ++ wsX3_deleteIfItIsThere_r2) ++ wsX30 ++ wsX60)
def wsX3_turnDrawn_r1 : List Cond := [Cond.fieldLink RX3 20 "CoverOrder$Edges" "knots" "I", Cond.methodLink RX3 90 yX3_deleteIfItIsThere, Cond.instanceMethod yX3_deleteIfItIsThere, Cond.selects RX3 yX3_deleteIfItIsThere yX3_deleteIfItIsThere, Cond.initialized RX3, Cond.code yX3_deleteIfItIsThere cX3_deleteIfItIsThere 4 (some .boolean), Cond.methodLink RX3 81 yX3_has, Cond.instanceMethod yX3_has, Cond.selects RX3 yX3_has yX3_has, Cond.code yX3_has cX3_has 3 (some .boolean), Cond.methodLink RX3 65 yX3_placeOf, Cond.instanceMethod yX3_placeOf, Cond.selects RX3 yX3_placeOf yX3_placeOf, Cond.code yX3_placeOf cX3_placeOf 4 (some .int), Cond.fieldLink RX3 14 "CoverOrder$Edges" "row" "LCoverOrder$Row;", Cond.methodLink RX3 43 yX6_size, Cond.instanceMethod yX6_size, Cond.selects RX6 yX6_size yX6_size, Cond.initialized RX6, Cond.code yX6_size cX6_size 1 (some .int), Cond.fieldLink RX6 21 "CoverOrder$Row" "size" "I", Cond.methodLink RX3 55 yX6_at, Cond.instanceMethod yX6_at, Cond.selects RX6 yX6_at yX6_at]
def wsX3_turnDrawn_r2 : List Cond := [Cond.code yX6_at cX6_at 2 (some .int), Cond.fieldLink RX6 15 "CoverOrder$Row" "items" "[I", Cond.methodLink RX3 59 yX3_pairOf, Cond.static yX3_pairOf, Cond.code yX3_pairOf cX3_pairOf 1 (some .int), Cond.methodLink RX3 62 yX3_pair, Cond.static yX3_pair, Cond.code yX3_pair cX3_pair 2 (some .int), Cond.methodLink RX3 89 yX3_takeOut, Cond.instanceMethod yX3_takeOut, Cond.selects RX3 yX3_takeOut yX3_takeOut, Cond.code yX3_takeOut cX3_takeOut 2 (some .int), Cond.methodLink RX3 71 yX6_takeOut, Cond.instanceMethod yX6_takeOut, Cond.selects RX6 yX6_takeOut yX6_takeOut, Cond.code yX6_takeOut cX6_takeOut 4 (some .int), Cond.methodLink RX3 93 yX3_insertIfItCanBe, Cond.instanceMethod yX3_insertIfItCanBe, Cond.selects RX3 yX3_insertIfItCanBe yX3_insertIfItCanBe, Cond.code yX3_insertIfItCanBe cX3_insertIfItCanBe 4 (some .boolean), Cond.methodLink RX3 85 yX3_isFull, Cond.instanceMethod yX3_isFull, Cond.selects RX3 yX3_isFull yX3_isFull, Cond.code yX3_isFull cX3_isFull 1 (some .boolean)]
def wsX3_turnDrawn_r3 : List Cond := [Cond.methodLink RX3 47 yX6_isFull, Cond.instanceMethod yX6_isFull, Cond.selects RX6 yX6_isFull yX6_isFull, Cond.code yX6_isFull cX6_isFull 1 (some .boolean), Cond.methodLink RX3 86 yX3_append, Cond.instanceMethod yX3_append, Cond.selects RX3 yX3_append yX3_append, Cond.code yX3_append cX3_append 4 (some .int), Cond.fieldLink RX3 24 "CoverOrder$Edges" "nextStamp" "I", Cond.methodLink RX3 68 yX6_add, Cond.instanceMethod yX6_add, Cond.selects RX6 yX6_add yX6_add, Cond.code yX6_add cX6_add 2 none, Cond.methodLink RX6 29 yX6_putIn, Cond.instanceMethod yX6_putIn, Cond.selects RX6 yX6_putIn yX6_putIn, Cond.code yX6_putIn cX6_putIn 4 none, Cond.methodLink RX6 33 yX6_isFull]
def wsX3_turnDrawn : List Cond := .code yX3_turnDrawn cX3_turnDrawn 4 none :: ((wsX3_turnDrawn_r1 ++ (wsX3_turnDrawn_r2 ++ wsX3_turnDrawn_r3)) ++ wsX30 ++ wsX60)
def wsX3_countBetween : List Cond := .code yX3_countBetween cX3_countBetween 4 (some .int) :: ([.fieldLink RX3 14 "CoverOrder$Edges" "row" "LCoverOrder$Row;", .methodLink RX3 43 yX6_size, .instanceMethod yX6_size, .selects RX6 yX6_size yX6_size, .initialized RX6, .code yX6_size cX6_size 1 (some .int), .fieldLink RX6 21 "CoverOrder$Row" "size" "I", .methodLink RX3 55 yX6_at, .instanceMethod yX6_at, .selects RX6 yX6_at yX6_at, .code yX6_at cX6_at 2 (some .int), .fieldLink RX6 15 "CoverOrder$Row" "items" "[I", .methodLink RX3 59 yX3_pairOf, .static yX3_pairOf, .initialized RX3, .code yX3_pairOf cX3_pairOf 1 (some .int), .methodLink RX3 96 yX5_isIn, .static yX5_isIn, .initialized RX5, .code yX5_isIn cX5_isIn 2 (some .boolean)] ++ wsX30 ++ wsX60)
def wsX5_flipped : List Cond := .code yX5_flipped cX5_flipped 4 (some .long) :: ([])
def wsX3_grid : List Cond := .code yX3_grid cX3_grid 5 (some .long) :: ([.fieldLink RX3 14 "CoverOrder$Edges" "row" "LCoverOrder$Row;", .methodLink RX3 43 yX6_size, .instanceMethod yX6_size, .selects RX6 yX6_size yX6_size, .initialized RX6, .code yX6_size cX6_size 1 (some .int), .fieldLink RX6 21 "CoverOrder$Row" "size" "I", .methodLink RX3 55 yX6_at, .instanceMethod yX6_at, .selects RX6 yX6_at yX6_at, .code yX6_at cX6_at 2 (some .int), .fieldLink RX6 15 "CoverOrder$Row" "items" "[I", .methodLink RX3 59 yX3_pairOf, .static yX3_pairOf, .initialized RX3, .code yX3_pairOf cX3_pairOf 1 (some .int), .methodLink RX3 101 yX5_flipped, .static yX5_flipped, .initialized RX5, .code yX5_flipped cX5_flipped 4 (some .long)] ++ wsX30 ++ wsX60)
def wsX3_firstWayOn : List Cond := .code yX3_firstWayOn cX3_firstWayOn 5 (some .int) :: ([.fieldLink RX3 14 "CoverOrder$Edges" "row" "LCoverOrder$Row;", .methodLink RX3 43 yX6_size, .instanceMethod yX6_size, .selects RX6 yX6_size yX6_size, .initialized RX6, .code yX6_size cX6_size 1 (some .int), .fieldLink RX6 21 "CoverOrder$Row" "size" "I", .methodLink RX3 55 yX6_at, .instanceMethod yX6_at, .selects RX6 yX6_at yX6_at, .code yX6_at cX6_at 2 (some .int), .fieldLink RX6 15 "CoverOrder$Row" "items" "[I", .methodLink RX3 59 yX3_pairOf, .static yX3_pairOf, .initialized RX3, .code yX3_pairOf cX3_pairOf 1 (some .int), .methodLink RX3 96 yX5_isIn, .static yX5_isIn, .initialized RX5, .code yX5_isIn cX5_isIn 2 (some .boolean)] ++ wsX30 ++ wsX60)
def wsX4_fit : List Cond := .code yX4_fit cX4_fit 6 (some .boolean) :: ([.constantLong RX4 7 (10)])
def wsX4_at : List Cond := .code yX4_at cX4_at 7 (some .int) :: ([.constantLong RX4 7 (10)])
def wsX6_placeOf : List Cond := .code yX6_placeOf cX6_placeOf 3 (some .int) :: ([.fieldLink RX6 21 "CoverOrder$Row" "size" "I", .methodLink RX6 25 yX6_at, .instanceMethod yX6_at, .selects RX6 yX6_at yX6_at, .initialized RX6, .code yX6_at cX6_at 2 (some .int), .fieldLink RX6 15 "CoverOrder$Row" "items" "[I"] ++ wsX60)
def wsX7_init : List Cond := .code yX7_init cX7_init 1 none :: ([.methodLink RX7 3 objectInit, .instanceMethod objectInit, .code objectInit ⟨#[0xb1]⟩ 1 none, .classLink RX7 9 RX6, .instantiable RX6 2, .initialized RX6, .fieldLink RX7 14 "CoverOrder$Showing" "row" "LCoverOrder$Row;", .fieldLink RX7 20 "CoverOrder$Showing" "deadEnds" "LCoverOrder$Row;", .methodLink RX7 11 yX6_init, .instanceMethod yX6_init, .code yX6_init cX6_init 2 none, .methodLink RX6 3 objectInit, .methodLink RX6 9 Lib.Math.max.name, .static Lib.Math.max.name, .initialized "java/lang/Math", .code Lib.Math.max.name Lib.Math.max.code 2 (some .int), .arrayClass .int, .fieldLink RX6 15 "CoverOrder$Row" "items" "[I"] ++ wsX60 ++ wsX70)
def wsX7_fill_r1 : List Cond := [Cond.fieldLink RX7 20 "CoverOrder$Showing" "deadEnds" "LCoverOrder$Row;", Cond.fieldLink RX7 14 "CoverOrder$Showing" "row" "LCoverOrder$Row;", Cond.methodLink RX7 48 yX6_placeOf, Cond.instanceMethod yX6_placeOf, Cond.selects RX6 yX6_placeOf yX6_placeOf, Cond.initialized RX6, Cond.code yX6_placeOf cX6_placeOf 3 (some .int), Cond.fieldLink RX6 21 "CoverOrder$Row" "size" "I", Cond.methodLink RX6 25 yX6_at, Cond.instanceMethod yX6_at, Cond.selects RX6 yX6_at yX6_at, Cond.code yX6_at cX6_at 2 (some .int), Cond.fieldLink RX6 15 "CoverOrder$Row" "items" "[I", Cond.methodLink RX7 51 yX2_nextBehind, Cond.instanceMethod yX2_nextBehind, Cond.selects RX2 yX2_nextBehind yX2_nextBehind, Cond.initialized RX2, Cond.code yX2_nextBehind cX2_nextBehind 5 (some .int), Cond.fieldLink RX2 21 "CoverOrder$Covers" "reached" "I", Cond.methodLink RX2 46 yX5_isIn, Cond.static yX5_isIn, Cond.initialized RX5, Cond.code yX5_isIn cX5_isIn 2 (some .boolean), Cond.methodLink RX2 73 yX2_coveredBy]
def wsX7_fill_r2 : List Cond := [Cond.instanceMethod yX2_coveredBy, Cond.selects RX2 yX2_coveredBy yX2_coveredBy, Cond.code yX2_coveredBy cX2_coveredBy 2 (some .int), Cond.fieldLink RX2 24 "CoverOrder$Covers" "covered" "J", Cond.methodLink RX2 55 yX5_line, Cond.static yX5_line, Cond.code yX5_line cX5_line 3 (some .int), Cond.methodLink RX2 76 yX2_lidOf, Cond.instanceMethod yX2_lidOf, Cond.selects RX2 yX2_lidOf yX2_lidOf, Cond.code yX2_lidOf cX2_lidOf 2 (some .int), Cond.methodLink RX2 58 yX2_coverersOf, Cond.instanceMethod yX2_coverersOf, Cond.selects RX2 yX2_coverersOf yX2_coverersOf, Cond.code yX2_coverersOf cX2_coverersOf 2 (some .int), Cond.fieldLink RX2 43 "CoverOrder$Covers" "coverers" "J", Cond.methodLink RX2 31 yX5_only, Cond.static yX5_only, Cond.code yX5_only cX5_only 1 (some .int), Cond.methodLink RX2 61 yX2_coveredByJust, Cond.instanceMethod yX2_coveredByJust, Cond.selects RX2 yX2_coveredByJust yX2_coveredByJust, Cond.code yX2_coveredByJust cX2_coveredByJust 3 (some .int), Cond.methodLink RX7 54 yX5_isIn]
def wsX7_fill_r3 : List Cond := [Cond.methodLink RX7 58 yX2_isShown, Cond.instanceMethod yX2_isShown, Cond.selects RX2 yX2_isShown yX2_isShown, Cond.code yX2_isShown cX2_isShown 5 (some .boolean), Cond.fieldLink RX2 9 "CoverOrder$Covers" "grid" "J", Cond.methodLink RX2 79 yX5_column, Cond.static yX5_column, Cond.code yX5_column cX5_column 5 (some .int), Cond.methodLink RX5 19 yX5_line, Cond.methodLink RX5 25 yX5_isIn, Cond.methodLink RX5 29 yX5_only, Cond.methodLink RX7 26 yX6_add, Cond.instanceMethod yX6_add, Cond.selects RX6 yX6_add yX6_add, Cond.code yX6_add cX6_add 2 none, Cond.methodLink RX6 29 yX6_putIn, Cond.instanceMethod yX6_putIn, Cond.selects RX6 yX6_putIn yX6_putIn, Cond.code yX6_putIn cX6_putIn 4 none, Cond.methodLink RX6 33 yX6_isFull, Cond.instanceMethod yX6_isFull, Cond.selects RX6 yX6_isFull yX6_isFull, Cond.code yX6_isFull cX6_isFull 1 (some .boolean), Cond.methodLink RX7 29 yX5_only]
def wsX7_fill_r4 : List Cond := [Cond.methodLink RX7 35 yX7_fill, Cond.static yX7_fill, Cond.initialized RX7, Cond.methodLink RX7 61 yX6_takeLast, Cond.instanceMethod yX6_takeLast, Cond.selects RX6 yX6_takeLast yX6_takeLast, Cond.code yX6_takeLast cX6_takeLast 1 (some .int), Cond.methodLink RX6 37 yX6_takeOut, Cond.instanceMethod yX6_takeOut, Cond.selects RX6 yX6_takeOut yX6_takeOut, Cond.code yX6_takeOut cX6_takeOut 4 (some .int)]
def wsX7_fill : List Cond := .code yX7_fill cX7_fill 6 (some .boolean) :: ((wsX7_fill_r1 ++ (wsX7_fill_r2 ++ (wsX7_fill_r3 ++ wsX7_fill_r4))) ++ wsX20 ++ wsX70 ++ wsX60)
def wsX7_find_r1 : List Cond := [Cond.fieldLink RX7 14 "CoverOrder$Showing" "row" "LCoverOrder$Row;", Cond.fieldLink RX7 20 "CoverOrder$Showing" "deadEnds" "LCoverOrder$Row;", Cond.methodLink RX7 23 yX6_clear, Cond.instanceMethod yX6_clear, Cond.selects RX6 yX6_clear yX6_clear, Cond.initialized RX6, Cond.code yX6_clear cX6_clear 1 none, Cond.fieldLink RX6 21 "CoverOrder$Row" "size" "I", Cond.methodLink RX7 26 yX6_add, Cond.instanceMethod yX6_add, Cond.selects RX6 yX6_add yX6_add, Cond.code yX6_add cX6_add 2 none, Cond.methodLink RX6 29 yX6_putIn, Cond.instanceMethod yX6_putIn, Cond.selects RX6 yX6_putIn yX6_putIn, Cond.code yX6_putIn cX6_putIn 4 none, Cond.fieldLink RX6 15 "CoverOrder$Row" "items" "[I", Cond.methodLink RX6 33 yX6_isFull, Cond.instanceMethod yX6_isFull, Cond.selects RX6 yX6_isFull yX6_isFull, Cond.code yX6_isFull cX6_isFull 1 (some .boolean), Cond.methodLink RX7 29 yX5_only, Cond.static yX5_only, Cond.initialized RX5]
def wsX7_find_r2 : List Cond := [Cond.code yX5_only cX5_only 1 (some .int), Cond.methodLink RX7 35 yX7_fill, Cond.static yX7_fill, Cond.initialized RX7, Cond.code yX7_fill cX7_fill 6 (some .boolean), Cond.methodLink RX7 48 yX6_placeOf, Cond.instanceMethod yX6_placeOf, Cond.selects RX6 yX6_placeOf yX6_placeOf, Cond.code yX6_placeOf cX6_placeOf 3 (some .int), Cond.methodLink RX6 25 yX6_at, Cond.instanceMethod yX6_at, Cond.selects RX6 yX6_at yX6_at, Cond.code yX6_at cX6_at 2 (some .int), Cond.methodLink RX7 51 yX2_nextBehind, Cond.instanceMethod yX2_nextBehind, Cond.selects RX2 yX2_nextBehind yX2_nextBehind, Cond.initialized RX2, Cond.code yX2_nextBehind cX2_nextBehind 5 (some .int), Cond.fieldLink RX2 21 "CoverOrder$Covers" "reached" "I", Cond.methodLink RX2 46 yX5_isIn, Cond.static yX5_isIn, Cond.code yX5_isIn cX5_isIn 2 (some .boolean), Cond.methodLink RX2 73 yX2_coveredBy, Cond.instanceMethod yX2_coveredBy]
def wsX7_find_r3 : List Cond := [Cond.selects RX2 yX2_coveredBy yX2_coveredBy, Cond.code yX2_coveredBy cX2_coveredBy 2 (some .int), Cond.fieldLink RX2 24 "CoverOrder$Covers" "covered" "J", Cond.methodLink RX2 55 yX5_line, Cond.static yX5_line, Cond.code yX5_line cX5_line 3 (some .int), Cond.methodLink RX2 76 yX2_lidOf, Cond.instanceMethod yX2_lidOf, Cond.selects RX2 yX2_lidOf yX2_lidOf, Cond.code yX2_lidOf cX2_lidOf 2 (some .int), Cond.methodLink RX2 58 yX2_coverersOf, Cond.instanceMethod yX2_coverersOf, Cond.selects RX2 yX2_coverersOf yX2_coverersOf, Cond.code yX2_coverersOf cX2_coverersOf 2 (some .int), Cond.fieldLink RX2 43 "CoverOrder$Covers" "coverers" "J", Cond.methodLink RX2 31 yX5_only, Cond.methodLink RX2 61 yX2_coveredByJust, Cond.instanceMethod yX2_coveredByJust, Cond.selects RX2 yX2_coveredByJust yX2_coveredByJust, Cond.code yX2_coveredByJust cX2_coveredByJust 3 (some .int), Cond.methodLink RX7 54 yX5_isIn, Cond.methodLink RX7 58 yX2_isShown, Cond.instanceMethod yX2_isShown, Cond.selects RX2 yX2_isShown yX2_isShown]
def wsX7_find_r4 : List Cond := [Cond.code yX2_isShown cX2_isShown 5 (some .boolean), Cond.fieldLink RX2 9 "CoverOrder$Covers" "grid" "J", Cond.methodLink RX2 79 yX5_column, Cond.static yX5_column, Cond.code yX5_column cX5_column 5 (some .int), Cond.methodLink RX5 19 yX5_line, Cond.methodLink RX5 25 yX5_isIn, Cond.methodLink RX5 29 yX5_only, Cond.methodLink RX7 61 yX6_takeLast, Cond.instanceMethod yX6_takeLast, Cond.selects RX6 yX6_takeLast yX6_takeLast, Cond.code yX6_takeLast cX6_takeLast 1 (some .int), Cond.methodLink RX6 37 yX6_takeOut, Cond.instanceMethod yX6_takeOut, Cond.selects RX6 yX6_takeOut yX6_takeOut, Cond.code yX6_takeOut cX6_takeOut 4 (some .int)]
def wsX7_find : List Cond := .code yX7_find cX7_find 2 none :: ((wsX7_find_r1 ++ (wsX7_find_r2 ++ (wsX7_find_r3 ++ wsX7_find_r4))) ++ wsX70 ++ wsX60 ++ wsX20)
def wsX7_knotAt : List Cond := .code yX7_knotAt cX7_knotAt 2 (some .int) :: ([.fieldLink RX7 14 "CoverOrder$Showing" "row" "LCoverOrder$Row;", .methodLink RX7 39 yX6_at, .instanceMethod yX6_at, .selects RX6 yX6_at yX6_at, .initialized RX6, .code yX6_at cX6_at 2 (some .int), .fieldLink RX6 21 "CoverOrder$Row" "size" "I", .fieldLink RX6 15 "CoverOrder$Row" "items" "[I"] ++ wsX70 ++ wsX60)
def wsX8_init : List Cond := .code yX8_init cX8_init 1 none :: ([.methodLink RX8 3 objectInit, .instanceMethod objectInit, .code objectInit ⟨#[0xb1]⟩ 1 none, .classLink RX8 9 RX6, .instantiable RX6 2, .initialized RX6, .fieldLink RX8 14 "CoverOrder$Text" "letters" "LCoverOrder$Row;", .methodLink RX8 11 yX6_init, .instanceMethod yX6_init, .code yX6_init cX6_init 2 none, .methodLink RX6 3 objectInit, .methodLink RX6 9 Lib.Math.max.name, .static Lib.Math.max.name, .initialized "java/lang/Math", .code Lib.Math.max.name Lib.Math.max.code 2 (some .int), .arrayClass .int, .fieldLink RX6 15 "CoverOrder$Row" "items" "[I"] ++ wsX60 ++ wsX80)
def wsX8_length : List Cond := .code yX8_length cX8_length 1 (some .int) :: ([.fieldLink RX8 14 "CoverOrder$Text" "letters" "LCoverOrder$Row;", .methodLink RX8 20 yX6_size, .instanceMethod yX6_size, .selects RX6 yX6_size yX6_size, .initialized RX6, .code yX6_size cX6_size 1 (some .int), .fieldLink RX6 21 "CoverOrder$Row" "size" "I"] ++ wsX80 ++ wsX60)
def wsX8_isFull : List Cond := .code yX8_isFull cX8_isFull 1 (some .boolean) :: ([.fieldLink RX8 14 "CoverOrder$Text" "letters" "LCoverOrder$Row;", .methodLink RX8 24 yX6_isFull, .instanceMethod yX6_isFull, .selects RX6 yX6_isFull yX6_isFull, .initialized RX6, .code yX6_isFull cX6_isFull 1 (some .boolean), .fieldLink RX6 21 "CoverOrder$Row" "size" "I", .fieldLink RX6 15 "CoverOrder$Row" "items" "[I"] ++ wsX80 ++ wsX60)
def wsX8_add : List Cond := .code yX8_add cX8_add 2 none :: ([.fieldLink RX8 14 "CoverOrder$Text" "letters" "LCoverOrder$Row;", .methodLink RX8 28 yX6_add, .instanceMethod yX6_add, .selects RX6 yX6_add yX6_add, .initialized RX6, .code yX6_add cX6_add 2 none, .fieldLink RX6 21 "CoverOrder$Row" "size" "I", .methodLink RX6 29 yX6_putIn, .instanceMethod yX6_putIn, .selects RX6 yX6_putIn yX6_putIn, .code yX6_putIn cX6_putIn 4 none, .fieldLink RX6 15 "CoverOrder$Row" "items" "[I", .methodLink RX6 33 yX6_isFull, .instanceMethod yX6_isFull, .selects RX6 yX6_isFull yX6_isFull, .code yX6_isFull cX6_isFull 1 (some .boolean)] ++ wsX80 ++ wsX60)
def wsX8_clear : List Cond := .code yX8_clear cX8_clear 1 none :: ([.fieldLink RX8 14 "CoverOrder$Text" "letters" "LCoverOrder$Row;", .methodLink RX8 31 yX6_clear, .instanceMethod yX6_clear, .selects RX6 yX6_clear yX6_clear, .initialized RX6, .code yX6_clear cX6_clear 1 none, .fieldLink RX6 21 "CoverOrder$Row" "size" "I"] ++ wsX80 ++ wsX60)
def wsX8_figureAt : List Cond := .code yX8_figureAt cX8_figureAt 3 (some .int) :: ([.fieldLink RX8 14 "CoverOrder$Text" "letters" "LCoverOrder$Row;", .methodLink RX8 64 yX6_at, .instanceMethod yX6_at, .selects RX6 yX6_at yX6_at, .initialized RX6, .code yX6_at cX6_at 2 (some .int), .fieldLink RX6 21 "CoverOrder$Row" "size" "I", .fieldLink RX6 15 "CoverOrder$Row" "items" "[I"] ++ wsX80 ++ wsX60)
def wsX8_isSecondFigure : List Cond := .code yX8_isSecondFigure cX8_isSecondFigure 1 (some .boolean) :: ([])
def wsJ13_bitCount_95d88 : List Cond := .code yJ13_bitCount_95d88 cJ13_bitCount_95d88 2 (some .int) :: ([.constantLong RJ13 314 (6148914691236517205), .constantLong RJ13 316 (3689348814741910323), .constantLong RJ13 318 (1085102592571150095)])
def wsX8_fits_r1 : List Cond := [Cond.fieldLink RX8 14 "CoverOrder$Text" "letters" "LCoverOrder$Row;", Cond.methodLink RX8 64 yX6_at, Cond.instanceMethod yX6_at, Cond.selects RX6 yX6_at yX6_at, Cond.initialized RX6, Cond.code yX6_at cX6_at 2 (some .int), Cond.fieldLink RX6 21 "CoverOrder$Row" "size" "I", Cond.fieldLink RX6 15 "CoverOrder$Row" "items" "[I", Cond.methodLink RX8 45 yX8_figureAt, Cond.instanceMethod yX8_figureAt, Cond.selects RX8 yX8_figureAt yX8_figureAt, Cond.initialized RX8, Cond.code yX8_figureAt cX8_figureAt 3 (some .int), Cond.methodLink RX8 41 yX8_isSecondFigure, Cond.static yX8_isSecondFigure, Cond.code yX8_isSecondFigure cX8_isSecondFigure 1 (some .boolean), Cond.methodLink RX8 67 yX5_line, Cond.static yX5_line, Cond.initialized RX5, Cond.code yX5_line cX5_line 3 (some .int), Cond.methodLink RX8 71 yX5_isIn, Cond.static yX5_isIn, Cond.code yX5_isIn cX5_isIn 2 (some .boolean), Cond.methodLink RX8 75 yJ6_bitCount_0f7a4]
def wsX8_fits_r2 : List Cond := [Cond.static yJ6_bitCount_0f7a4, Cond.initialized RJ6, Cond.code yJ6_bitCount_0f7a4 cJ6_bitCount_0f7a4 1 (some .int), Cond.constant RJ6 265 (1431655765), Cond.constant RJ6 266 (858993459), Cond.constant RJ6 267 (252645135), Cond.methodLink RX8 80 yJ13_bitCount_95d88, Cond.static yJ13_bitCount_95d88, Cond.initialized RJ13, Cond.code yJ13_bitCount_95d88 cJ13_bitCount_95d88 2 (some .int), Cond.constantLong RJ13 314 (6148914691236517205), Cond.constantLong RJ13 316 (3689348814741910323), Cond.constantLong RJ13 318 (1085102592571150095)]
def wsX8_fits : List Cond := .code yX8_fits cX8_fits 7 (some .boolean) :: ((wsX8_fits_r1 ++ wsX8_fits_r2) ++ wsX80 ++ wsX60)
def wsX8_firstFault_r1 : List Cond := [Cond.methodLink RX8 34 yX8_length, Cond.instanceMethod yX8_length, Cond.selects RX8 yX8_length yX8_length, Cond.initialized RX8, Cond.code yX8_length cX8_length 1 (some .int), Cond.fieldLink RX8 14 "CoverOrder$Text" "letters" "LCoverOrder$Row;", Cond.methodLink RX8 20 yX6_size, Cond.instanceMethod yX6_size, Cond.selects RX6 yX6_size yX6_size, Cond.initialized RX6, Cond.code yX6_size cX6_size 1 (some .int), Cond.fieldLink RX6 21 "CoverOrder$Row" "size" "I", Cond.methodLink RX8 37 yX8_fits, Cond.instanceMethod yX8_fits, Cond.selects RX8 yX8_fits yX8_fits, Cond.code yX8_fits cX8_fits 7 (some .boolean), Cond.methodLink RX8 64 yX6_at, Cond.instanceMethod yX6_at, Cond.selects RX6 yX6_at yX6_at, Cond.code yX6_at cX6_at 2 (some .int), Cond.fieldLink RX6 15 "CoverOrder$Row" "items" "[I", Cond.methodLink RX8 45 yX8_figureAt, Cond.instanceMethod yX8_figureAt, Cond.selects RX8 yX8_figureAt yX8_figureAt]
def wsX8_firstFault_r2 : List Cond := [Cond.code yX8_figureAt cX8_figureAt 3 (some .int), Cond.methodLink RX8 41 yX8_isSecondFigure, Cond.static yX8_isSecondFigure, Cond.code yX8_isSecondFigure cX8_isSecondFigure 1 (some .boolean), Cond.methodLink RX8 67 yX5_line, Cond.static yX5_line, Cond.initialized RX5, Cond.code yX5_line cX5_line 3 (some .int), Cond.methodLink RX8 71 yX5_isIn, Cond.static yX5_isIn, Cond.code yX5_isIn cX5_isIn 2 (some .boolean), Cond.methodLink RX8 75 yJ6_bitCount_0f7a4, Cond.static yJ6_bitCount_0f7a4, Cond.initialized RJ6, Cond.code yJ6_bitCount_0f7a4 cJ6_bitCount_0f7a4 1 (some .int), Cond.constant RJ6 265 (1431655765), Cond.constant RJ6 266 (858993459), Cond.constant RJ6 267 (252645135), Cond.methodLink RX8 80 yJ13_bitCount_95d88, Cond.static yJ13_bitCount_95d88, Cond.initialized RJ13, Cond.code yJ13_bitCount_95d88 cJ13_bitCount_95d88 2 (some .int), Cond.constantLong RJ13 314 (6148914691236517205), Cond.constantLong RJ13 316 (3689348814741910323)]
def wsX8_firstFault_r3 : List Cond := [Cond.constantLong RJ13 318 (1085102592571150095), Cond.methodLink RX8 49 yX5_flipped, Cond.static yX5_flipped, Cond.code yX5_flipped cX5_flipped 4 (some .long)]
def wsX8_firstFault : List Cond := .code yX8_firstFault cX8_firstFault 4 (some .int) :: ((wsX8_firstFault_r1 ++ (wsX8_firstFault_r2 ++ wsX8_firstFault_r3)) ++ wsX80 ++ wsX60)
def wsX8_readInto_r1 : List Cond := [Cond.methodLink RX8 45 yX8_figureAt, Cond.instanceMethod yX8_figureAt, Cond.selects RX8 yX8_figureAt yX8_figureAt, Cond.initialized RX8, Cond.code yX8_figureAt cX8_figureAt 3 (some .int), Cond.fieldLink RX8 14 "CoverOrder$Text" "letters" "LCoverOrder$Row;", Cond.methodLink RX8 64 yX6_at, Cond.instanceMethod yX6_at, Cond.selects RX6 yX6_at yX6_at, Cond.initialized RX6, Cond.code yX6_at cX6_at 2 (some .int), Cond.fieldLink RX6 21 "CoverOrder$Row" "size" "I", Cond.fieldLink RX6 15 "CoverOrder$Row" "items" "[I", Cond.methodLink RX8 55 yX3_restart, Cond.instanceMethod yX3_restart, Cond.selects RX3 yX3_restart yX3_restart, Cond.initialized RX3, Cond.code yX3_restart cX3_restart 2 none, Cond.methodLink RX3 27 Lib.Math.min.name, Cond.static Lib.Math.min.name, Cond.initialized "java/lang/Math", Cond.code Lib.Math.min.name Lib.Math.min.code 2 (some .int), Cond.methodLink RX3 33 Lib.Math.max.name, Cond.static Lib.Math.max.name]
def wsX8_readInto_r2 : List Cond := [Cond.code Lib.Math.max.name Lib.Math.max.code 2 (some .int), Cond.fieldLink RX3 20 "CoverOrder$Edges" "knots" "I", Cond.fieldLink RX3 14 "CoverOrder$Edges" "row" "LCoverOrder$Row;", Cond.fieldLink RX3 24 "CoverOrder$Edges" "nextStamp" "I", Cond.methodLink RX3 36 yX6_clear, Cond.instanceMethod yX6_clear, Cond.selects RX6 yX6_clear yX6_clear, Cond.code yX6_clear cX6_clear 1 none, Cond.methodLink RX8 34 yX8_length, Cond.instanceMethod yX8_length, Cond.selects RX8 yX8_length yX8_length, Cond.code yX8_length cX8_length 1 (some .int), Cond.methodLink RX8 20 yX6_size, Cond.instanceMethod yX6_size, Cond.selects RX6 yX6_size yX6_size, Cond.code yX6_size cX6_size 1 (some .int), Cond.methodLink RX8 60 yX3_append, Cond.instanceMethod yX3_append, Cond.selects RX3 yX3_append yX3_append, Cond.code yX3_append cX3_append 4 (some .int), Cond.methodLink RX3 62 yX3_pair, Cond.static yX3_pair, Cond.code yX3_pair cX3_pair 2 (some .int), Cond.methodLink RX3 68 yX6_add]
def wsX8_readInto_r3 : List Cond := [Cond.instanceMethod yX6_add, Cond.selects RX6 yX6_add yX6_add, Cond.code yX6_add cX6_add 2 none, Cond.methodLink RX6 29 yX6_putIn, Cond.instanceMethod yX6_putIn, Cond.selects RX6 yX6_putIn yX6_putIn, Cond.code yX6_putIn cX6_putIn 4 none, Cond.methodLink RX6 33 yX6_isFull, Cond.instanceMethod yX6_isFull, Cond.selects RX6 yX6_isFull yX6_isFull, Cond.code yX6_isFull cX6_isFull 1 (some .boolean)]
def wsX8_readInto : List Cond := .code yX8_readInto cX8_readInto 3 none :: ((wsX8_readInto_r1 ++ (wsX8_readInto_r2 ++ wsX8_readInto_r3)) ++ wsX80 ++ wsX60 ++ wsX30)
def wsX9_init : List Cond := .code yX9_init cX9_init 1 none :: ([.methodLink RX9 3 objectInit, .instanceMethod objectInit, .code objectInit ⟨#[0xb1]⟩ 1 none, .classLink RX9 9 RX6, .instantiable RX6 2, .initialized RX6, .fieldLink RX9 14 "CoverOrder$Walk" "met" "LCoverOrder$Row;", .fieldLink RX9 20 "CoverOrder$Walk" "path" "LCoverOrder$Row;", .methodLink RX9 11 yX6_init, .instanceMethod yX6_init, .code yX6_init cX6_init 2 none, .methodLink RX6 3 objectInit, .methodLink RX6 9 Lib.Math.max.name, .static Lib.Math.max.name, .initialized "java/lang/Math", .code Lib.Math.max.name Lib.Math.max.code 2 (some .int), .arrayClass .int, .fieldLink RX6 15 "CoverOrder$Row" "items" "[I"] ++ wsX60 ++ wsX90)
def wsX9_go_r1 : List Cond := [Cond.fieldLink RX9 29 "CoverOrder$Walk" "grid" "J", Cond.fieldLink RX9 14 "CoverOrder$Walk" "met" "LCoverOrder$Row;", Cond.fieldLink RX9 20 "CoverOrder$Walk" "path" "LCoverOrder$Row;", Cond.methodLink RX9 23 yX3_grid, Cond.instanceMethod yX3_grid, Cond.selects RX3 yX3_grid yX3_grid, Cond.initialized RX3, Cond.code yX3_grid cX3_grid 5 (some .long), Cond.fieldLink RX3 14 "CoverOrder$Edges" "row" "LCoverOrder$Row;", Cond.methodLink RX3 43 yX6_size, Cond.instanceMethod yX6_size, Cond.selects RX6 yX6_size yX6_size, Cond.initialized RX6, Cond.code yX6_size cX6_size 1 (some .int), Cond.fieldLink RX6 21 "CoverOrder$Row" "size" "I", Cond.methodLink RX3 55 yX6_at, Cond.instanceMethod yX6_at, Cond.selects RX6 yX6_at yX6_at, Cond.code yX6_at cX6_at 2 (some .int), Cond.fieldLink RX6 15 "CoverOrder$Row" "items" "[I", Cond.methodLink RX3 59 yX3_pairOf, Cond.static yX3_pairOf, Cond.code yX3_pairOf cX3_pairOf 1 (some .int), Cond.methodLink RX3 101 yX5_flipped]
def wsX9_go_r2 : List Cond := [Cond.static yX5_flipped, Cond.initialized RX5, Cond.code yX5_flipped cX5_flipped 4 (some .long), Cond.methodLink RX9 32 yX6_clear, Cond.instanceMethod yX6_clear, Cond.selects RX6 yX6_clear yX6_clear, Cond.code yX6_clear cX6_clear 1 none, Cond.methodLink RX9 35 yX6_add, Cond.instanceMethod yX6_add, Cond.selects RX6 yX6_add yX6_add, Cond.code yX6_add cX6_add 2 none, Cond.methodLink RX6 29 yX6_putIn, Cond.instanceMethod yX6_putIn, Cond.selects RX6 yX6_putIn yX6_putIn, Cond.code yX6_putIn cX6_putIn 4 none, Cond.methodLink RX6 33 yX6_isFull, Cond.instanceMethod yX6_isFull, Cond.selects RX6 yX6_isFull yX6_isFull, Cond.code yX6_isFull cX6_isFull 1 (some .boolean), Cond.methodLink RX9 38 yX5_only, Cond.static yX5_only, Cond.code yX5_only cX5_only 1 (some .int), Cond.methodLink RX9 44 yX6_size, Cond.methodLink RX9 48 yX6_at]
def wsX9_go_r3 : List Cond := [Cond.methodLink RX9 51 yX3_firstWayOn, Cond.instanceMethod yX3_firstWayOn, Cond.selects RX3 yX3_firstWayOn yX3_firstWayOn, Cond.code yX3_firstWayOn cX3_firstWayOn 5 (some .int), Cond.methodLink RX3 96 yX5_isIn, Cond.static yX5_isIn, Cond.code yX5_isIn cX5_isIn 2 (some .boolean), Cond.methodLink RX9 55 yX6_takeLast, Cond.instanceMethod yX6_takeLast, Cond.selects RX6 yX6_takeLast yX6_takeLast, Cond.code yX6_takeLast cX6_takeLast 1 (some .int), Cond.methodLink RX6 37 yX6_takeOut, Cond.instanceMethod yX6_takeOut, Cond.selects RX6 yX6_takeOut yX6_takeOut, Cond.code yX6_takeOut cX6_takeOut 4 (some .int)]
def wsX9_go : List Cond := .code yX9_go cX9_go 5 none :: ((wsX9_go_r1 ++ (wsX9_go_r2 ++ wsX9_go_r3)) ++ wsX90 ++ wsX30 ++ wsX60)
def wsX9_orderOf : List Cond := .code yX9_orderOf cX9_orderOf 2 (some .int) :: ([.fieldLink RX9 14 "CoverOrder$Walk" "met" "LCoverOrder$Row;", .methodLink RX9 58 yX6_placeOf, .instanceMethod yX6_placeOf, .selects RX6 yX6_placeOf yX6_placeOf, .initialized RX6, .code yX6_placeOf cX6_placeOf 3 (some .int), .fieldLink RX6 21 "CoverOrder$Row" "size" "I", .methodLink RX6 25 yX6_at, .instanceMethod yX6_at, .selects RX6 yX6_at yX6_at, .code yX6_at cX6_at 2 (some .int), .fieldLink RX6 15 "CoverOrder$Row" "items" "[I"] ++ wsX90 ++ wsX60)
def wsX9_startsOfLateWays_r1 : List Cond := [Cond.fieldLink RX9 29 "CoverOrder$Walk" "grid" "J", Cond.methodLink RX9 71 yX5_column, Cond.static yX5_column, Cond.initialized RX5, Cond.code yX5_column cX5_column 5 (some .int), Cond.methodLink RX5 19 yX5_line, Cond.static yX5_line, Cond.code yX5_line cX5_line 3 (some .int), Cond.methodLink RX5 25 yX5_isIn, Cond.static yX5_isIn, Cond.code yX5_isIn cX5_isIn 2 (some .boolean), Cond.methodLink RX5 29 yX5_only, Cond.static yX5_only, Cond.code yX5_only cX5_only 1 (some .int), Cond.methodLink RX9 75 yX5_first, Cond.static yX5_first, Cond.code yX5_first cX5_first 1 (some .int), Cond.methodLink RX5 9 yJ6_bitCount_0f7a4, Cond.static yJ6_bitCount_0f7a4, Cond.initialized RJ6, Cond.code yJ6_bitCount_0f7a4 cJ6_bitCount_0f7a4 1 (some .int), Cond.constant RJ6 265 (1431655765), Cond.constant RJ6 266 (858993459), Cond.constant RJ6 267 (252645135)]
def wsX9_startsOfLateWays_r2 : List Cond := [Cond.methodLink RX9 61 yX9_orderOf, Cond.instanceMethod yX9_orderOf, Cond.selects RX9 yX9_orderOf yX9_orderOf, Cond.initialized RX9, Cond.code yX9_orderOf cX9_orderOf 2 (some .int), Cond.fieldLink RX9 14 "CoverOrder$Walk" "met" "LCoverOrder$Row;", Cond.methodLink RX9 58 yX6_placeOf, Cond.instanceMethod yX6_placeOf, Cond.selects RX6 yX6_placeOf yX6_placeOf, Cond.initialized RX6, Cond.code yX6_placeOf cX6_placeOf 3 (some .int), Cond.fieldLink RX6 21 "CoverOrder$Row" "size" "I", Cond.methodLink RX6 25 yX6_at, Cond.instanceMethod yX6_at, Cond.selects RX6 yX6_at yX6_at, Cond.code yX6_at cX6_at 2 (some .int), Cond.fieldLink RX6 15 "CoverOrder$Row" "items" "[I", Cond.methodLink RX9 38 yX5_only]
def wsX9_startsOfLateWays : List Cond := .code yX9_startsOfLateWays cX9_startsOfLateWays 7 (some .int) :: ((wsX9_startsOfLateWays_r1 ++ wsX9_startsOfLateWays_r2) ++ wsX90 ++ wsX60)
def wsX9_halfOf_r1 : List Cond := [Cond.fieldLink RX9 14 "CoverOrder$Walk" "met" "LCoverOrder$Row;", Cond.methodLink RX9 61 yX9_orderOf, Cond.instanceMethod yX9_orderOf, Cond.selects RX9 yX9_orderOf yX9_orderOf, Cond.initialized RX9, Cond.code yX9_orderOf cX9_orderOf 2 (some .int), Cond.methodLink RX9 58 yX6_placeOf, Cond.instanceMethod yX6_placeOf, Cond.selects RX6 yX6_placeOf yX6_placeOf, Cond.initialized RX6, Cond.code yX6_placeOf cX6_placeOf 3 (some .int), Cond.fieldLink RX6 21 "CoverOrder$Row" "size" "I", Cond.methodLink RX6 25 yX6_at, Cond.instanceMethod yX6_at, Cond.selects RX6 yX6_at yX6_at, Cond.code yX6_at cX6_at 2 (some .int), Cond.fieldLink RX6 15 "CoverOrder$Row" "items" "[I", Cond.methodLink RX9 64 yX9_startsOfLateWays, Cond.instanceMethod yX9_startsOfLateWays, Cond.selects RX9 yX9_startsOfLateWays yX9_startsOfLateWays, Cond.code yX9_startsOfLateWays cX9_startsOfLateWays 7 (some .int), Cond.fieldLink RX9 29 "CoverOrder$Walk" "grid" "J", Cond.methodLink RX9 71 yX5_column, Cond.static yX5_column]
def wsX9_halfOf_r2 : List Cond := [Cond.initialized RX5, Cond.code yX5_column cX5_column 5 (some .int), Cond.methodLink RX5 19 yX5_line, Cond.static yX5_line, Cond.code yX5_line cX5_line 3 (some .int), Cond.methodLink RX5 25 yX5_isIn, Cond.static yX5_isIn, Cond.code yX5_isIn cX5_isIn 2 (some .boolean), Cond.methodLink RX5 29 yX5_only, Cond.static yX5_only, Cond.code yX5_only cX5_only 1 (some .int), Cond.methodLink RX9 75 yX5_first, Cond.static yX5_first, Cond.code yX5_first cX5_first 1 (some .int), Cond.methodLink RX5 9 yJ6_bitCount_0f7a4, Cond.static yJ6_bitCount_0f7a4, Cond.initialized RJ6, Cond.code yJ6_bitCount_0f7a4 cJ6_bitCount_0f7a4 1 (some .int), Cond.constant RJ6 265 (1431655765), Cond.constant RJ6 266 (858993459), Cond.constant RJ6 267 (252645135), Cond.methodLink RX9 38 yX5_only, Cond.methodLink RX9 44 yX6_size, Cond.instanceMethod yX6_size]
def wsX9_halfOf_r3 : List Cond := [Cond.selects RX6 yX6_size yX6_size, Cond.code yX6_size cX6_size 1 (some .int), Cond.methodLink RX9 48 yX6_at, Cond.methodLink RX9 67 yX5_isIn]
def wsX9_halfOf : List Cond := .code yX9_halfOf cX9_halfOf 4 (some .int) :: ((wsX9_halfOf_r1 ++ (wsX9_halfOf_r2 ++ wsX9_halfOf_r3)) ++ wsX90 ++ wsX60)
def wsX10_init_r1 : List Cond := [Cond.methodLink RX10 1 objectInit, Cond.instanceMethod objectInit, Cond.code objectInit ⟨#[0xb1]⟩ 1 none, Cond.classLink RX10 7 RX8, Cond.instantiable RX8 1, Cond.initialized RX8, Cond.fieldLink RX10 10 "CoverOrder" "text" "LCoverOrder$Text;", Cond.classLink RX10 16 RX3, Cond.instantiable RX3 3, Cond.initialized RX3, Cond.fieldLink RX10 19 "CoverOrder" "edges" "LCoverOrder$Edges;", Cond.fieldLink RX10 23 "CoverOrder" "trial" "LCoverOrder$Edges;", Cond.classLink RX10 26 RX0, Cond.instantiable RX0 2, Cond.initialized RX0, Cond.fieldLink RX10 29 "CoverOrder" "acts" "LCoverOrder$Acts;", Cond.fieldLink RX10 33 "CoverOrder" "slots" "[LCoverOrder$Edges;", Cond.classLink RX10 37 RX6, Cond.instantiable RX6 2, Cond.initialized RX6, Cond.fieldLink RX10 42 "CoverOrder" "seen" "LCoverOrder$Row;", Cond.classLink RX10 46 RX2, Cond.instantiable RX2 4, Cond.initialized RX2]
def wsX10_init_r2 : List Cond := [Cond.fieldLink RX10 49 "CoverOrder" "covers" "LCoverOrder$Covers;", Cond.fieldLink RX10 53 "CoverOrder" "trialCovers" "LCoverOrder$Covers;", Cond.classLink RX10 56 RX9, Cond.instantiable RX9 3, Cond.initialized RX9, Cond.fieldLink RX10 59 "CoverOrder" "walk" "LCoverOrder$Walk;", Cond.classLink RX10 63 RX7, Cond.instantiable RX7 2, Cond.initialized RX7, Cond.fieldLink RX10 66 "CoverOrder" "least" "LCoverOrder$Showing;", Cond.fieldLink RX10 70 "CoverOrder" "told" "LCoverOrder$Row;", Cond.instanceMethod yX8_init, Cond.code yX8_init cX8_init 1 none, Cond.methodLink RX8 3 objectInit, Cond.classLink RX8 9 RX6, Cond.fieldLink RX8 14 "CoverOrder$Text" "letters" "LCoverOrder$Row;", Cond.methodLink RX8 11 yX6_init, Cond.instanceMethod yX6_init, Cond.code yX6_init cX6_init 2 none, Cond.methodLink RX6 3 objectInit, Cond.methodLink RX6 9 Lib.Math.max.name, Cond.static Lib.Math.max.name, Cond.initialized "java/lang/Math", Cond.code Lib.Math.max.name Lib.Math.max.code 2 (some .int)]
def wsX10_init_r3 : List Cond := [Cond.arrayClass .int, Cond.fieldLink RX6 15 "CoverOrder$Row" "items" "[I", Cond.instanceMethod yX3_init, Cond.code yX3_init cX3_init 1 none, Cond.methodLink RX3 3 objectInit, Cond.classLink RX3 9 RX6, Cond.fieldLink RX3 14 "CoverOrder$Edges" "row" "LCoverOrder$Row;", Cond.fieldLink RX3 20 "CoverOrder$Edges" "knots" "I", Cond.fieldLink RX3 24 "CoverOrder$Edges" "nextStamp" "I", Cond.methodLink RX3 11 yX6_init, Cond.instanceMethod yX0_init, Cond.code yX0_init cX0_init 1 none, Cond.methodLink RX0 3 objectInit, Cond.classLink RX0 9 RX6, Cond.fieldLink RX0 14 "CoverOrder$Acts" "deleted" "LCoverOrder$Row;", Cond.fieldLink RX0 20 "CoverOrder$Acts" "places" "LCoverOrder$Row;", Cond.methodLink RX0 11 yX6_init, Cond.methodLink RX10 39 yX6_init, Cond.instanceMethod yX2_init, Cond.code yX2_init cX2_init 1 none, Cond.methodLink RX2 3 objectInit, Cond.instanceMethod yX9_init, Cond.code yX9_init cX9_init 1 none, Cond.methodLink RX9 3 objectInit]
def wsX10_init_r4 : List Cond := [Cond.classLink RX9 9 RX6, Cond.fieldLink RX9 14 "CoverOrder$Walk" "met" "LCoverOrder$Row;", Cond.fieldLink RX9 20 "CoverOrder$Walk" "path" "LCoverOrder$Row;", Cond.methodLink RX9 11 yX6_init, Cond.instanceMethod yX7_init, Cond.code yX7_init cX7_init 1 none, Cond.methodLink RX7 3 objectInit, Cond.classLink RX7 9 RX6, Cond.fieldLink RX7 14 "CoverOrder$Showing" "row" "LCoverOrder$Row;", Cond.fieldLink RX7 20 "CoverOrder$Showing" "deadEnds" "LCoverOrder$Row;", Cond.methodLink RX7 11 yX6_init]
def wsX10_init : List Cond := .code yX10_init cX10_init 1 none :: ((wsX10_init_r1 ++ (wsX10_init_r2 ++ (wsX10_init_r3 ++ wsX10_init_r4))) ++ wsX80 ++ wsX100 ++ wsX30 ++ wsX00 ++ wsX60 ++ wsX20 ++ wsX90 ++ wsX70)
def wsX10_write_r1 : List Cond := [Cond.fieldLink RX10 10 "CoverOrder" "text" "LCoverOrder$Text;", Cond.methodLink RX10 73 yX8_isFull, Cond.instanceMethod yX8_isFull, Cond.selects RX8 yX8_isFull yX8_isFull, Cond.initialized RX8, Cond.code yX8_isFull cX8_isFull 1 (some .boolean), Cond.fieldLink RX8 14 "CoverOrder$Text" "letters" "LCoverOrder$Row;", Cond.methodLink RX8 24 yX6_isFull, Cond.instanceMethod yX6_isFull, Cond.selects RX6 yX6_isFull yX6_isFull, Cond.initialized RX6, Cond.code yX6_isFull cX6_isFull 1 (some .boolean), Cond.fieldLink RX6 21 "CoverOrder$Row" "size" "I", Cond.fieldLink RX6 15 "CoverOrder$Row" "items" "[I", Cond.methodLink RX10 77 yX8_add, Cond.instanceMethod yX8_add, Cond.selects RX8 yX8_add yX8_add, Cond.code yX8_add cX8_add 2 none, Cond.methodLink RX8 28 yX6_add, Cond.instanceMethod yX6_add, Cond.selects RX6 yX6_add yX6_add, Cond.code yX6_add cX6_add 2 none, Cond.methodLink RX6 29 yX6_putIn, Cond.instanceMethod yX6_putIn]
def wsX10_write_r2 : List Cond := [Cond.selects RX6 yX6_putIn yX6_putIn, Cond.code yX6_putIn cX6_putIn 4 none, Cond.methodLink RX6 33 yX6_isFull, Cond.methodLink RX10 80 yX8_length, Cond.instanceMethod yX8_length, Cond.selects RX8 yX8_length yX8_length, Cond.code yX8_length cX8_length 1 (some .int), Cond.methodLink RX8 20 yX6_size, Cond.instanceMethod yX6_size, Cond.selects RX6 yX6_size yX6_size, Cond.code yX6_size cX6_size 1 (some .int)]
def wsX10_write : List Cond := .code yX10_write cX10_write 2 (some .int) :: ((wsX10_write_r1 ++ wsX10_write_r2) ++ wsX100 ++ wsX80 ++ wsX60)
def wsX10_wipe : List Cond := .code yX10_wipe cX10_wipe 2 (some .int) :: ([.fieldLink RX10 10 "CoverOrder" "text" "LCoverOrder$Text;", .methodLink RX10 80 yX8_length, .instanceMethod yX8_length, .selects RX8 yX8_length yX8_length, .initialized RX8, .code yX8_length cX8_length 1 (some .int), .fieldLink RX8 14 "CoverOrder$Text" "letters" "LCoverOrder$Row;", .methodLink RX8 20 yX6_size, .instanceMethod yX6_size, .selects RX6 yX6_size yX6_size, .initialized RX6, .code yX6_size cX6_size 1 (some .int), .fieldLink RX6 21 "CoverOrder$Row" "size" "I", .methodLink RX10 84 yX8_clear, .instanceMethod yX8_clear, .selects RX8 yX8_clear yX8_clear, .code yX8_clear cX8_clear 1 none, .methodLink RX8 31 yX6_clear, .instanceMethod yX6_clear, .selects RX6 yX6_clear yX6_clear, .code yX6_clear cX6_clear 1 none] ++ wsX100 ++ wsX80 ++ wsX60)
def wsX10_fault_r1 : List Cond := [Cond.fieldLink RX10 10 "CoverOrder" "text" "LCoverOrder$Text;", Cond.methodLink RX10 87 yX8_firstFault, Cond.instanceMethod yX8_firstFault, Cond.selects RX8 yX8_firstFault yX8_firstFault, Cond.initialized RX8, Cond.code yX8_firstFault cX8_firstFault 4 (some .int), Cond.methodLink RX8 34 yX8_length, Cond.instanceMethod yX8_length, Cond.selects RX8 yX8_length yX8_length, Cond.code yX8_length cX8_length 1 (some .int), Cond.fieldLink RX8 14 "CoverOrder$Text" "letters" "LCoverOrder$Row;", Cond.methodLink RX8 20 yX6_size, Cond.instanceMethod yX6_size, Cond.selects RX6 yX6_size yX6_size, Cond.initialized RX6, Cond.code yX6_size cX6_size 1 (some .int), Cond.fieldLink RX6 21 "CoverOrder$Row" "size" "I", Cond.methodLink RX8 37 yX8_fits, Cond.instanceMethod yX8_fits, Cond.selects RX8 yX8_fits yX8_fits, Cond.code yX8_fits cX8_fits 7 (some .boolean), Cond.methodLink RX8 64 yX6_at, Cond.instanceMethod yX6_at, Cond.selects RX6 yX6_at yX6_at]
def wsX10_fault_r2 : List Cond := [Cond.code yX6_at cX6_at 2 (some .int), Cond.fieldLink RX6 15 "CoverOrder$Row" "items" "[I", Cond.methodLink RX8 45 yX8_figureAt, Cond.instanceMethod yX8_figureAt, Cond.selects RX8 yX8_figureAt yX8_figureAt, Cond.code yX8_figureAt cX8_figureAt 3 (some .int), Cond.methodLink RX8 41 yX8_isSecondFigure, Cond.static yX8_isSecondFigure, Cond.code yX8_isSecondFigure cX8_isSecondFigure 1 (some .boolean), Cond.methodLink RX8 67 yX5_line, Cond.static yX5_line, Cond.initialized RX5, Cond.code yX5_line cX5_line 3 (some .int), Cond.methodLink RX8 71 yX5_isIn, Cond.static yX5_isIn, Cond.code yX5_isIn cX5_isIn 2 (some .boolean), Cond.methodLink RX8 75 yJ6_bitCount_0f7a4, Cond.static yJ6_bitCount_0f7a4, Cond.initialized RJ6, Cond.code yJ6_bitCount_0f7a4 cJ6_bitCount_0f7a4 1 (some .int), Cond.constant RJ6 265 (1431655765), Cond.constant RJ6 266 (858993459), Cond.constant RJ6 267 (252645135), Cond.methodLink RX8 80 yJ13_bitCount_95d88]
def wsX10_fault_r3 : List Cond := [Cond.static yJ13_bitCount_95d88, Cond.initialized RJ13, Cond.code yJ13_bitCount_95d88 cJ13_bitCount_95d88 2 (some .int), Cond.constantLong RJ13 314 (6148914691236517205), Cond.constantLong RJ13 316 (3689348814741910323), Cond.constantLong RJ13 318 (1085102592571150095), Cond.methodLink RX8 49 yX5_flipped, Cond.static yX5_flipped, Cond.code yX5_flipped cX5_flipped 4 (some .long)]
def wsX10_fault : List Cond := .code yX10_fault cX10_fault 1 (some .int) :: ((wsX10_fault_r1 ++ (wsX10_fault_r2 ++ wsX10_fault_r3)) ++ wsX100 ++ wsX80 ++ wsX60)
def wsX10_graph_r1 : List Cond := [Cond.fieldLink RX10 10 "CoverOrder" "text" "LCoverOrder$Text;", Cond.fieldLink RX10 19 "CoverOrder" "edges" "LCoverOrder$Edges;", Cond.fieldLink RX10 29 "CoverOrder" "acts" "LCoverOrder$Acts;", Cond.fieldLink RX10 95 "CoverOrder" "keptSlots" "I", Cond.methodLink RX10 87 yX8_firstFault, Cond.instanceMethod yX8_firstFault, Cond.selects RX8 yX8_firstFault yX8_firstFault, Cond.initialized RX8, Cond.code yX8_firstFault cX8_firstFault 4 (some .int), Cond.methodLink RX8 34 yX8_length, Cond.instanceMethod yX8_length, Cond.selects RX8 yX8_length yX8_length, Cond.code yX8_length cX8_length 1 (some .int), Cond.fieldLink RX8 14 "CoverOrder$Text" "letters" "LCoverOrder$Row;", Cond.methodLink RX8 20 yX6_size, Cond.instanceMethod yX6_size, Cond.selects RX6 yX6_size yX6_size, Cond.initialized RX6, Cond.code yX6_size cX6_size 1 (some .int), Cond.fieldLink RX6 21 "CoverOrder$Row" "size" "I", Cond.methodLink RX8 37 yX8_fits, Cond.instanceMethod yX8_fits, Cond.selects RX8 yX8_fits yX8_fits, Cond.code yX8_fits cX8_fits 7 (some .boolean)]
def wsX10_graph_r2 : List Cond := [Cond.methodLink RX8 64 yX6_at, Cond.instanceMethod yX6_at, Cond.selects RX6 yX6_at yX6_at, Cond.code yX6_at cX6_at 2 (some .int), Cond.fieldLink RX6 15 "CoverOrder$Row" "items" "[I", Cond.methodLink RX8 45 yX8_figureAt, Cond.instanceMethod yX8_figureAt, Cond.selects RX8 yX8_figureAt yX8_figureAt, Cond.code yX8_figureAt cX8_figureAt 3 (some .int), Cond.methodLink RX8 41 yX8_isSecondFigure, Cond.static yX8_isSecondFigure, Cond.code yX8_isSecondFigure cX8_isSecondFigure 1 (some .boolean), Cond.methodLink RX8 67 yX5_line, Cond.static yX5_line, Cond.initialized RX5, Cond.code yX5_line cX5_line 3 (some .int), Cond.methodLink RX8 71 yX5_isIn, Cond.static yX5_isIn, Cond.code yX5_isIn cX5_isIn 2 (some .boolean), Cond.methodLink RX8 75 yJ6_bitCount_0f7a4, Cond.static yJ6_bitCount_0f7a4, Cond.initialized RJ6, Cond.code yJ6_bitCount_0f7a4 cJ6_bitCount_0f7a4 1 (some .int), Cond.constant RJ6 265 (1431655765)]
def wsX10_graph_r3 : List Cond := [Cond.constant RJ6 266 (858993459), Cond.constant RJ6 267 (252645135), Cond.methodLink RX8 80 yJ13_bitCount_95d88, Cond.static yJ13_bitCount_95d88, Cond.initialized RJ13, Cond.code yJ13_bitCount_95d88 cJ13_bitCount_95d88 2 (some .int), Cond.constantLong RJ13 314 (6148914691236517205), Cond.constantLong RJ13 316 (3689348814741910323), Cond.constantLong RJ13 318 (1085102592571150095), Cond.methodLink RX8 49 yX5_flipped, Cond.static yX5_flipped, Cond.code yX5_flipped cX5_flipped 4 (some .long), Cond.methodLink RX10 90 yX8_readInto, Cond.instanceMethod yX8_readInto, Cond.selects RX8 yX8_readInto yX8_readInto, Cond.code yX8_readInto cX8_readInto 3 none, Cond.methodLink RX8 55 yX3_restart, Cond.instanceMethod yX3_restart, Cond.selects RX3 yX3_restart yX3_restart, Cond.initialized RX3, Cond.code yX3_restart cX3_restart 2 none, Cond.methodLink RX3 27 Lib.Math.min.name, Cond.static Lib.Math.min.name, Cond.initialized "java/lang/Math"]
def wsX10_graph_r4 : List Cond := [Cond.code Lib.Math.min.name Lib.Math.min.code 2 (some .int), Cond.methodLink RX3 33 Lib.Math.max.name, Cond.static Lib.Math.max.name, Cond.code Lib.Math.max.name Lib.Math.max.code 2 (some .int), Cond.fieldLink RX3 20 "CoverOrder$Edges" "knots" "I", Cond.fieldLink RX3 14 "CoverOrder$Edges" "row" "LCoverOrder$Row;", Cond.fieldLink RX3 24 "CoverOrder$Edges" "nextStamp" "I", Cond.methodLink RX3 36 yX6_clear, Cond.instanceMethod yX6_clear, Cond.selects RX6 yX6_clear yX6_clear, Cond.code yX6_clear cX6_clear 1 none, Cond.methodLink RX8 60 yX3_append, Cond.instanceMethod yX3_append, Cond.selects RX3 yX3_append yX3_append, Cond.code yX3_append cX3_append 4 (some .int), Cond.methodLink RX3 62 yX3_pair, Cond.static yX3_pair, Cond.code yX3_pair cX3_pair 2 (some .int), Cond.methodLink RX3 68 yX6_add, Cond.instanceMethod yX6_add, Cond.selects RX6 yX6_add yX6_add, Cond.code yX6_add cX6_add 2 none, Cond.methodLink RX6 29 yX6_putIn, Cond.instanceMethod yX6_putIn]
def wsX10_graph_r5 : List Cond := [Cond.selects RX6 yX6_putIn yX6_putIn, Cond.code yX6_putIn cX6_putIn 4 none, Cond.methodLink RX6 33 yX6_isFull, Cond.instanceMethod yX6_isFull, Cond.selects RX6 yX6_isFull yX6_isFull, Cond.code yX6_isFull cX6_isFull 1 (some .boolean), Cond.methodLink RX10 94 yX0_clear, Cond.instanceMethod yX0_clear, Cond.selects RX0 yX0_clear yX0_clear, Cond.initialized RX0, Cond.code yX0_clear cX0_clear 1 none, Cond.fieldLink RX0 14 "CoverOrder$Acts" "deleted" "LCoverOrder$Row;", Cond.fieldLink RX0 20 "CoverOrder$Acts" "places" "LCoverOrder$Row;", Cond.methodLink RX0 27 yX6_clear, Cond.methodLink RX10 99 yX3_size, Cond.instanceMethod yX3_size, Cond.selects RX3 yX3_size yX3_size, Cond.code yX3_size cX3_size 1 (some .int), Cond.methodLink RX3 43 yX6_size]
def wsX10_graph : List Cond := .code yX10_graph cX10_graph 1 (some .int) :: ((wsX10_graph_r1 ++ (wsX10_graph_r2 ++ (wsX10_graph_r3 ++ (wsX10_graph_r4 ++ wsX10_graph_r5)))) ++ wsX100 ++ wsX80 ++ wsX60 ++ wsX30 ++ wsX00)
def wsX10_insert_r1 : List Cond := [Cond.fieldLink RX10 19 "CoverOrder" "edges" "LCoverOrder$Edges;", Cond.fieldLink RX10 29 "CoverOrder" "acts" "LCoverOrder$Acts;", Cond.methodLink RX10 102 yX3_areKnots, Cond.instanceMethod yX3_areKnots, Cond.selects RX3 yX3_areKnots yX3_areKnots, Cond.initialized RX3, Cond.code yX3_areKnots cX3_areKnots 3 (some .boolean), Cond.methodLink RX3 51 yX3_isKnot, Cond.instanceMethod yX3_isKnot, Cond.selects RX3 yX3_isKnot yX3_isKnot, Cond.code yX3_isKnot cX3_isKnot 2 (some .boolean), Cond.fieldLink RX3 20 "CoverOrder$Edges" "knots" "I", Cond.methodLink RX10 106 yX3_has, Cond.instanceMethod yX3_has, Cond.selects RX3 yX3_has yX3_has, Cond.code yX3_has cX3_has 3 (some .boolean), Cond.methodLink RX3 65 yX3_placeOf, Cond.instanceMethod yX3_placeOf, Cond.selects RX3 yX3_placeOf yX3_placeOf, Cond.code yX3_placeOf cX3_placeOf 4 (some .int), Cond.fieldLink RX3 14 "CoverOrder$Edges" "row" "LCoverOrder$Row;", Cond.methodLink RX3 43 yX6_size, Cond.instanceMethod yX6_size, Cond.selects RX6 yX6_size yX6_size]
def wsX10_insert_r2 : List Cond := [Cond.initialized RX6, Cond.code yX6_size cX6_size 1 (some .int), Cond.fieldLink RX6 21 "CoverOrder$Row" "size" "I", Cond.methodLink RX3 55 yX6_at, Cond.instanceMethod yX6_at, Cond.selects RX6 yX6_at yX6_at, Cond.code yX6_at cX6_at 2 (some .int), Cond.fieldLink RX6 15 "CoverOrder$Row" "items" "[I", Cond.methodLink RX3 59 yX3_pairOf, Cond.static yX3_pairOf, Cond.code yX3_pairOf cX3_pairOf 1 (some .int), Cond.methodLink RX3 62 yX3_pair, Cond.static yX3_pair, Cond.code yX3_pair cX3_pair 2 (some .int), Cond.methodLink RX10 109 yX3_isFull, Cond.instanceMethod yX3_isFull, Cond.selects RX3 yX3_isFull yX3_isFull, Cond.code yX3_isFull cX3_isFull 1 (some .boolean), Cond.methodLink RX3 47 yX6_isFull, Cond.instanceMethod yX6_isFull, Cond.selects RX6 yX6_isFull yX6_isFull, Cond.code yX6_isFull cX6_isFull 1 (some .boolean), Cond.methodLink RX10 110 yX3_append, Cond.instanceMethod yX3_append]
def wsX10_insert_r3 : List Cond := [Cond.selects RX3 yX3_append yX3_append, Cond.code yX3_append cX3_append 4 (some .int), Cond.fieldLink RX3 24 "CoverOrder$Edges" "nextStamp" "I", Cond.methodLink RX3 68 yX6_add, Cond.instanceMethod yX6_add, Cond.selects RX6 yX6_add yX6_add, Cond.code yX6_add cX6_add 2 none, Cond.methodLink RX6 29 yX6_putIn, Cond.instanceMethod yX6_putIn, Cond.selects RX6 yX6_putIn yX6_putIn, Cond.code yX6_putIn cX6_putIn 4 none, Cond.methodLink RX6 33 yX6_isFull, Cond.methodLink RX10 114 yX0_addInserted, Cond.instanceMethod yX0_addInserted, Cond.selects RX0 yX0_addInserted yX0_addInserted, Cond.initialized RX0, Cond.code yX0_addInserted cX0_addInserted 1 none, Cond.methodLink RX0 30 yX0_addDeleted, Cond.instanceMethod yX0_addDeleted, Cond.selects RX0 yX0_addDeleted yX0_addDeleted, Cond.code yX0_addDeleted cX0_addDeleted 3 none, Cond.fieldLink RX0 20 "CoverOrder$Acts" "places" "LCoverOrder$Row;", Cond.fieldLink RX0 14 "CoverOrder$Acts" "deleted" "LCoverOrder$Row;", Cond.methodLink RX0 34 yX6_isFull]
def wsX10_insert_r4 : List Cond := [Cond.methodLink RX0 38 yX6_takeOut, Cond.instanceMethod yX6_takeOut, Cond.selects RX6 yX6_takeOut yX6_takeOut, Cond.code yX6_takeOut cX6_takeOut 4 (some .int), Cond.methodLink RX0 42 yX6_add]
def wsX10_insert : List Cond := .code yX10_insert cX10_insert 4 (some .int) :: ((wsX10_insert_r1 ++ (wsX10_insert_r2 ++ (wsX10_insert_r3 ++ wsX10_insert_r4))) ++ wsX100 ++ wsX30 ++ wsX60 ++ wsX00)
def wsX10_delete_r1 : List Cond := [Cond.fieldLink RX10 19 "CoverOrder" "edges" "LCoverOrder$Edges;", Cond.fieldLink RX10 29 "CoverOrder" "acts" "LCoverOrder$Acts;", Cond.methodLink RX10 102 yX3_areKnots, Cond.instanceMethod yX3_areKnots, Cond.selects RX3 yX3_areKnots yX3_areKnots, Cond.initialized RX3, Cond.code yX3_areKnots cX3_areKnots 3 (some .boolean), Cond.methodLink RX3 51 yX3_isKnot, Cond.instanceMethod yX3_isKnot, Cond.selects RX3 yX3_isKnot yX3_isKnot, Cond.code yX3_isKnot cX3_isKnot 2 (some .boolean), Cond.fieldLink RX3 20 "CoverOrder$Edges" "knots" "I", Cond.methodLink RX10 106 yX3_has, Cond.instanceMethod yX3_has, Cond.selects RX3 yX3_has yX3_has, Cond.code yX3_has cX3_has 3 (some .boolean), Cond.methodLink RX3 65 yX3_placeOf, Cond.instanceMethod yX3_placeOf, Cond.selects RX3 yX3_placeOf yX3_placeOf, Cond.code yX3_placeOf cX3_placeOf 4 (some .int), Cond.fieldLink RX3 14 "CoverOrder$Edges" "row" "LCoverOrder$Row;", Cond.methodLink RX3 43 yX6_size, Cond.instanceMethod yX6_size, Cond.selects RX6 yX6_size yX6_size]
def wsX10_delete_r2 : List Cond := [Cond.initialized RX6, Cond.code yX6_size cX6_size 1 (some .int), Cond.fieldLink RX6 21 "CoverOrder$Row" "size" "I", Cond.methodLink RX3 55 yX6_at, Cond.instanceMethod yX6_at, Cond.selects RX6 yX6_at yX6_at, Cond.code yX6_at cX6_at 2 (some .int), Cond.fieldLink RX6 15 "CoverOrder$Row" "items" "[I", Cond.methodLink RX3 59 yX3_pairOf, Cond.static yX3_pairOf, Cond.code yX3_pairOf cX3_pairOf 1 (some .int), Cond.methodLink RX3 62 yX3_pair, Cond.static yX3_pair, Cond.code yX3_pair cX3_pair 2 (some .int), Cond.methodLink RX10 117 yX3_placeOf, Cond.methodLink RX10 120 yX3_takeOut, Cond.instanceMethod yX3_takeOut, Cond.selects RX3 yX3_takeOut yX3_takeOut, Cond.code yX3_takeOut cX3_takeOut 2 (some .int), Cond.methodLink RX3 71 yX6_takeOut, Cond.instanceMethod yX6_takeOut, Cond.selects RX6 yX6_takeOut yX6_takeOut, Cond.code yX6_takeOut cX6_takeOut 4 (some .int), Cond.methodLink RX10 124 yX0_addDeleted]
def wsX10_delete_r3 : List Cond := [Cond.instanceMethod yX0_addDeleted, Cond.selects RX0 yX0_addDeleted yX0_addDeleted, Cond.initialized RX0, Cond.code yX0_addDeleted cX0_addDeleted 3 none, Cond.fieldLink RX0 20 "CoverOrder$Acts" "places" "LCoverOrder$Row;", Cond.fieldLink RX0 14 "CoverOrder$Acts" "deleted" "LCoverOrder$Row;", Cond.methodLink RX0 34 yX6_isFull, Cond.instanceMethod yX6_isFull, Cond.selects RX6 yX6_isFull yX6_isFull, Cond.code yX6_isFull cX6_isFull 1 (some .boolean), Cond.methodLink RX0 38 yX6_takeOut, Cond.methodLink RX0 42 yX6_add, Cond.instanceMethod yX6_add, Cond.selects RX6 yX6_add yX6_add, Cond.code yX6_add cX6_add 2 none, Cond.methodLink RX6 29 yX6_putIn, Cond.instanceMethod yX6_putIn, Cond.selects RX6 yX6_putIn yX6_putIn, Cond.code yX6_putIn cX6_putIn 4 none, Cond.methodLink RX6 33 yX6_isFull, Cond.methodLink RX10 128 yX3_stampOf, Cond.static yX3_stampOf, Cond.code yX3_stampOf cX3_stampOf 1 (some .int)]
def wsX10_delete : List Cond := .code yX10_delete cX10_delete 5 (some .int) :: ((wsX10_delete_r1 ++ (wsX10_delete_r2 ++ wsX10_delete_r3)) ++ wsX100 ++ wsX30 ++ wsX60 ++ wsX00)
def wsX10_undo_r1 : List Cond := [Cond.fieldLink RX10 29 "CoverOrder" "acts" "LCoverOrder$Acts;", Cond.fieldLink RX10 19 "CoverOrder" "edges" "LCoverOrder$Edges;", Cond.methodLink RX10 131 yX0_size, Cond.instanceMethod yX0_size, Cond.selects RX0 yX0_size yX0_size, Cond.initialized RX0, Cond.code yX0_size cX0_size 1 (some .int), Cond.fieldLink RX0 20 "CoverOrder$Acts" "places" "LCoverOrder$Row;", Cond.methodLink RX0 23 yX6_size, Cond.instanceMethod yX6_size, Cond.selects RX6 yX6_size yX6_size, Cond.initialized RX6, Cond.code yX6_size cX6_size 1 (some .int), Cond.fieldLink RX6 21 "CoverOrder$Row" "size" "I", Cond.methodLink RX10 132 yX0_undoLast, Cond.instanceMethod yX0_undoLast, Cond.selects RX0 yX0_undoLast yX0_undoLast, Cond.code yX0_undoLast cX0_undoLast 4 none, Cond.fieldLink RX0 14 "CoverOrder$Acts" "deleted" "LCoverOrder$Row;", Cond.methodLink RX0 45 yX6_takeLast, Cond.instanceMethod yX6_takeLast, Cond.selects RX6 yX6_takeLast yX6_takeLast, Cond.code yX6_takeLast cX6_takeLast 1 (some .int), Cond.methodLink RX6 37 yX6_takeOut]
def wsX10_undo_r2 : List Cond := [Cond.instanceMethod yX6_takeOut, Cond.selects RX6 yX6_takeOut yX6_takeOut, Cond.code yX6_takeOut cX6_takeOut 4 (some .int), Cond.fieldLink RX6 15 "CoverOrder$Row" "items" "[I", Cond.methodLink RX0 48 yX3_takeBackLast, Cond.instanceMethod yX3_takeBackLast, Cond.selects RX3 yX3_takeBackLast yX3_takeBackLast, Cond.initialized RX3, Cond.code yX3_takeBackLast cX3_takeBackLast 1 none, Cond.fieldLink RX3 14 "CoverOrder$Edges" "row" "LCoverOrder$Row;", Cond.fieldLink RX3 24 "CoverOrder$Edges" "nextStamp" "I", Cond.methodLink RX3 78 yX6_takeLast, Cond.methodLink RX0 53 yX3_putBack, Cond.instanceMethod yX3_putBack, Cond.selects RX3 yX3_putBack yX3_putBack, Cond.code yX3_putBack cX3_putBack 3 none, Cond.methodLink RX3 74 yX6_putIn, Cond.instanceMethod yX6_putIn, Cond.selects RX6 yX6_putIn yX6_putIn, Cond.code yX6_putIn cX6_putIn 4 none, Cond.methodLink RX6 33 yX6_isFull, Cond.instanceMethod yX6_isFull, Cond.selects RX6 yX6_isFull yX6_isFull, Cond.code yX6_isFull cX6_isFull 1 (some .boolean)]
def wsX10_undo : List Cond := .code yX10_undo cX10_undo 1 (some .int) :: ((wsX10_undo_r1 ++ wsX10_undo_r2) ++ wsX100 ++ wsX00 ++ wsX60 ++ wsX30)
def wsX10_stamp_r1 : List Cond := [Cond.fieldLink RX10 19 "CoverOrder" "edges" "LCoverOrder$Edges;", Cond.methodLink RX10 102 yX3_areKnots, Cond.instanceMethod yX3_areKnots, Cond.selects RX3 yX3_areKnots yX3_areKnots, Cond.initialized RX3, Cond.code yX3_areKnots cX3_areKnots 3 (some .boolean), Cond.methodLink RX3 51 yX3_isKnot, Cond.instanceMethod yX3_isKnot, Cond.selects RX3 yX3_isKnot yX3_isKnot, Cond.code yX3_isKnot cX3_isKnot 2 (some .boolean), Cond.fieldLink RX3 20 "CoverOrder$Edges" "knots" "I", Cond.methodLink RX10 106 yX3_has, Cond.instanceMethod yX3_has, Cond.selects RX3 yX3_has yX3_has, Cond.code yX3_has cX3_has 3 (some .boolean), Cond.methodLink RX3 65 yX3_placeOf, Cond.instanceMethod yX3_placeOf, Cond.selects RX3 yX3_placeOf yX3_placeOf, Cond.code yX3_placeOf cX3_placeOf 4 (some .int), Cond.fieldLink RX3 14 "CoverOrder$Edges" "row" "LCoverOrder$Row;", Cond.methodLink RX3 43 yX6_size, Cond.instanceMethod yX6_size, Cond.selects RX6 yX6_size yX6_size, Cond.initialized RX6]
def wsX10_stamp_r2 : List Cond := [Cond.code yX6_size cX6_size 1 (some .int), Cond.fieldLink RX6 21 "CoverOrder$Row" "size" "I", Cond.methodLink RX3 55 yX6_at, Cond.instanceMethod yX6_at, Cond.selects RX6 yX6_at yX6_at, Cond.code yX6_at cX6_at 2 (some .int), Cond.fieldLink RX6 15 "CoverOrder$Row" "items" "[I", Cond.methodLink RX3 59 yX3_pairOf, Cond.static yX3_pairOf, Cond.code yX3_pairOf cX3_pairOf 1 (some .int), Cond.methodLink RX3 62 yX3_pair, Cond.static yX3_pair, Cond.code yX3_pair cX3_pair 2 (some .int), Cond.methodLink RX10 117 yX3_placeOf, Cond.methodLink RX10 135 yX3_at, Cond.instanceMethod yX3_at, Cond.selects RX3 yX3_at yX3_at, Cond.code yX3_at cX3_at 2 (some .int), Cond.methodLink RX10 128 yX3_stampOf, Cond.static yX3_stampOf, Cond.code yX3_stampOf cX3_stampOf 1 (some .int)]
def wsX10_stamp : List Cond := .code yX10_stamp cX10_stamp 3 (some .int) :: ((wsX10_stamp_r1 ++ wsX10_stamp_r2) ++ wsX100 ++ wsX30 ++ wsX60)
def wsX10_edge_r1 : List Cond := [Cond.fieldLink RX10 19 "CoverOrder" "edges" "LCoverOrder$Edges;", Cond.methodLink RX10 99 yX3_size, Cond.instanceMethod yX3_size, Cond.selects RX3 yX3_size yX3_size, Cond.initialized RX3, Cond.code yX3_size cX3_size 1 (some .int), Cond.fieldLink RX3 14 "CoverOrder$Edges" "row" "LCoverOrder$Row;", Cond.methodLink RX3 43 yX6_size, Cond.instanceMethod yX6_size, Cond.selects RX6 yX6_size yX6_size, Cond.initialized RX6, Cond.code yX6_size cX6_size 1 (some .int), Cond.fieldLink RX6 21 "CoverOrder$Row" "size" "I", Cond.methodLink RX10 135 yX3_at, Cond.instanceMethod yX3_at, Cond.selects RX3 yX3_at yX3_at, Cond.code yX3_at cX3_at 2 (some .int), Cond.methodLink RX3 55 yX6_at, Cond.instanceMethod yX6_at, Cond.selects RX6 yX6_at yX6_at, Cond.code yX6_at cX6_at 2 (some .int), Cond.fieldLink RX6 15 "CoverOrder$Row" "items" "[I", Cond.methodLink RX10 138 yX3_pairOf, Cond.static yX3_pairOf]
def wsX10_edge_r2 : List Cond := [Cond.code yX3_pairOf cX3_pairOf 1 (some .int)]
def wsX10_edge : List Cond := .code yX10_edge cX10_edge 2 (some .int) :: ((wsX10_edge_r1 ++ wsX10_edge_r2) ++ wsX100 ++ wsX30 ++ wsX60)
def wsX10_learnCovers_r1 : List Cond := [Cond.fieldLink RX10 49 "CoverOrder" "covers" "LCoverOrder$Covers;", Cond.fieldLink RX10 19 "CoverOrder" "edges" "LCoverOrder$Edges;", Cond.methodLink RX10 178 yX3_grid, Cond.instanceMethod yX3_grid, Cond.selects RX3 yX3_grid yX3_grid, Cond.initialized RX3, Cond.code yX3_grid cX3_grid 5 (some .long), Cond.fieldLink RX3 14 "CoverOrder$Edges" "row" "LCoverOrder$Row;", Cond.methodLink RX3 43 yX6_size, Cond.instanceMethod yX6_size, Cond.selects RX6 yX6_size yX6_size, Cond.initialized RX6, Cond.code yX6_size cX6_size 1 (some .int), Cond.fieldLink RX6 21 "CoverOrder$Row" "size" "I", Cond.methodLink RX3 55 yX6_at, Cond.instanceMethod yX6_at, Cond.selects RX6 yX6_at yX6_at, Cond.code yX6_at cX6_at 2 (some .int), Cond.fieldLink RX6 15 "CoverOrder$Row" "items" "[I", Cond.methodLink RX3 59 yX3_pairOf, Cond.static yX3_pairOf, Cond.code yX3_pairOf cX3_pairOf 1 (some .int), Cond.methodLink RX3 101 yX5_flipped, Cond.static yX5_flipped]
def wsX10_learnCovers_r2 : List Cond := [Cond.initialized RX5, Cond.code yX5_flipped cX5_flipped 4 (some .long), Cond.methodLink RX10 188 yX2_learn, Cond.instanceMethod yX2_learn, Cond.selects RX2 yX2_learn yX2_learn, Cond.initialized RX2, Cond.code yX2_learn cX2_learn 5 none, Cond.fieldLink RX2 9 "CoverOrder$Covers" "grid" "J", Cond.fieldLink RX2 21 "CoverOrder$Covers" "reached" "I", Cond.fieldLink RX2 24 "CoverOrder$Covers" "covered" "J", Cond.fieldLink RX2 43 "CoverOrder$Covers" "coverers" "J", Cond.methodLink RX2 15 yX5_reached, Cond.static yX5_reached, Cond.code yX5_reached cX5_reached 8 (some .int), Cond.methodLink RX5 29 yX5_only, Cond.static yX5_only, Cond.code yX5_only cX5_only 1 (some .int), Cond.methodLink RX5 39 yX5_first, Cond.static yX5_first, Cond.code yX5_first cX5_first 1 (some .int), Cond.methodLink RX5 9 yJ6_bitCount_0f7a4, Cond.static yJ6_bitCount_0f7a4, Cond.initialized RJ6, Cond.code yJ6_bitCount_0f7a4 cJ6_bitCount_0f7a4 1 (some .int)]
def wsX10_learnCovers_r3 : List Cond := [Cond.constant RJ6 265 (1431655765), Cond.constant RJ6 266 (858993459), Cond.constant RJ6 267 (252645135), Cond.methodLink RX5 19 yX5_line, Cond.static yX5_line, Cond.code yX5_line cX5_line 3 (some .int), Cond.methodLink RX2 27 yX2_isReached, Cond.instanceMethod yX2_isReached, Cond.selects RX2 yX2_isReached yX2_isReached, Cond.code yX2_isReached cX2_isReached 2 (some .boolean), Cond.methodLink RX2 46 yX5_isIn, Cond.static yX5_isIn, Cond.code yX5_isIn cX5_isIn 2 (some .boolean), Cond.methodLink RX2 31 yX5_only, Cond.methodLink RX2 35 yX5_withLine, Cond.static yX5_withLine, Cond.code yX5_withLine cX5_withLine 5 (some .long), Cond.constantLong RX5 15 (255), Cond.constantLong RX5 17 (-1), Cond.methodLink RX2 39 yX5_turned, Cond.static yX5_turned, Cond.code yX5_turned cX5_turned 5 (some .long), Cond.methodLink RX5 32 yX5_column, Cond.static yX5_column]
def wsX10_learnCovers_r4 : List Cond := [Cond.code yX5_column cX5_column 5 (some .int), Cond.methodLink RX5 25 yX5_isIn, Cond.methodLink RX5 35 yX5_withLine]
def wsX10_learnCovers : List Cond := .code yX10_learnCovers cX10_learnCovers 1 none :: ((wsX10_learnCovers_r1 ++ (wsX10_learnCovers_r2 ++ (wsX10_learnCovers_r3 ++ wsX10_learnCovers_r4))) ++ wsX100 ++ wsX30 ++ wsX60 ++ wsX20)
def wsX10_knot_r1 : List Cond := [Cond.fieldLink RX10 19 "CoverOrder" "edges" "LCoverOrder$Edges;", Cond.fieldLink RX10 49 "CoverOrder" "covers" "LCoverOrder$Covers;", Cond.fieldLink RX10 59 "CoverOrder" "walk" "LCoverOrder$Walk;", Cond.methodLink RX10 141 yX3_isKnot, Cond.instanceMethod yX3_isKnot, Cond.selects RX3 yX3_isKnot yX3_isKnot, Cond.initialized RX3, Cond.code yX3_isKnot cX3_isKnot 2 (some .boolean), Cond.fieldLink RX3 20 "CoverOrder$Edges" "knots" "I", Cond.methodLink RX10 145 yX10_learnCovers, Cond.instanceMethod yX10_learnCovers, Cond.selects RX10 yX10_learnCovers yX10_learnCovers, Cond.initialized RX10, Cond.code yX10_learnCovers cX10_learnCovers 1 none, Cond.methodLink RX10 178 yX3_grid, Cond.instanceMethod yX3_grid, Cond.selects RX3 yX3_grid yX3_grid, Cond.code yX3_grid cX3_grid 5 (some .long), Cond.fieldLink RX3 14 "CoverOrder$Edges" "row" "LCoverOrder$Row;", Cond.methodLink RX3 43 yX6_size, Cond.instanceMethod yX6_size, Cond.selects RX6 yX6_size yX6_size, Cond.initialized RX6, Cond.code yX6_size cX6_size 1 (some .int)]
def wsX10_knot_r2 : List Cond := [Cond.fieldLink RX6 21 "CoverOrder$Row" "size" "I", Cond.methodLink RX3 55 yX6_at, Cond.instanceMethod yX6_at, Cond.selects RX6 yX6_at yX6_at, Cond.code yX6_at cX6_at 2 (some .int), Cond.fieldLink RX6 15 "CoverOrder$Row" "items" "[I", Cond.methodLink RX3 59 yX3_pairOf, Cond.static yX3_pairOf, Cond.code yX3_pairOf cX3_pairOf 1 (some .int), Cond.methodLink RX3 101 yX5_flipped, Cond.static yX5_flipped, Cond.initialized RX5, Cond.code yX5_flipped cX5_flipped 4 (some .long), Cond.methodLink RX10 188 yX2_learn, Cond.instanceMethod yX2_learn, Cond.selects RX2 yX2_learn yX2_learn, Cond.initialized RX2, Cond.code yX2_learn cX2_learn 5 none, Cond.fieldLink RX2 9 "CoverOrder$Covers" "grid" "J", Cond.fieldLink RX2 21 "CoverOrder$Covers" "reached" "I", Cond.fieldLink RX2 24 "CoverOrder$Covers" "covered" "J", Cond.fieldLink RX2 43 "CoverOrder$Covers" "coverers" "J", Cond.methodLink RX2 15 yX5_reached, Cond.static yX5_reached]
def wsX10_knot_r3 : List Cond := [Cond.code yX5_reached cX5_reached 8 (some .int), Cond.methodLink RX5 29 yX5_only, Cond.static yX5_only, Cond.code yX5_only cX5_only 1 (some .int), Cond.methodLink RX5 39 yX5_first, Cond.static yX5_first, Cond.code yX5_first cX5_first 1 (some .int), Cond.methodLink RX5 9 yJ6_bitCount_0f7a4, Cond.static yJ6_bitCount_0f7a4, Cond.initialized RJ6, Cond.code yJ6_bitCount_0f7a4 cJ6_bitCount_0f7a4 1 (some .int), Cond.constant RJ6 265 (1431655765), Cond.constant RJ6 266 (858993459), Cond.constant RJ6 267 (252645135), Cond.methodLink RX5 19 yX5_line, Cond.static yX5_line, Cond.code yX5_line cX5_line 3 (some .int), Cond.methodLink RX2 27 yX2_isReached, Cond.instanceMethod yX2_isReached, Cond.selects RX2 yX2_isReached yX2_isReached, Cond.code yX2_isReached cX2_isReached 2 (some .boolean), Cond.methodLink RX2 46 yX5_isIn, Cond.static yX5_isIn, Cond.code yX5_isIn cX5_isIn 2 (some .boolean)]
def wsX10_knot_r4 : List Cond := [Cond.methodLink RX2 31 yX5_only, Cond.methodLink RX2 35 yX5_withLine, Cond.static yX5_withLine, Cond.code yX5_withLine cX5_withLine 5 (some .long), Cond.constantLong RX5 15 (255), Cond.constantLong RX5 17 (-1), Cond.methodLink RX2 39 yX5_turned, Cond.static yX5_turned, Cond.code yX5_turned cX5_turned 5 (some .long), Cond.methodLink RX5 32 yX5_column, Cond.static yX5_column, Cond.code yX5_column cX5_column 5 (some .int), Cond.methodLink RX5 25 yX5_isIn, Cond.methodLink RX5 35 yX5_withLine, Cond.methodLink RX10 148 yX2_isReached, Cond.methodLink RX10 151 yX2_lidOf, Cond.instanceMethod yX2_lidOf, Cond.selects RX2 yX2_lidOf yX2_lidOf, Cond.code yX2_lidOf cX2_lidOf 2 (some .int), Cond.methodLink RX2 58 yX2_coverersOf, Cond.instanceMethod yX2_coverersOf, Cond.selects RX2 yX2_coverersOf yX2_coverersOf, Cond.code yX2_coverersOf cX2_coverersOf 2 (some .int), Cond.methodLink RX2 55 yX5_line]
def wsX10_knot_r5 : List Cond := [Cond.methodLink RX2 61 yX2_coveredByJust, Cond.instanceMethod yX2_coveredByJust, Cond.selects RX2 yX2_coveredByJust yX2_coveredByJust, Cond.code yX2_coveredByJust cX2_coveredByJust 3 (some .int), Cond.methodLink RX10 154 yX2_depthOf, Cond.instanceMethod yX2_depthOf, Cond.selects RX2 yX2_depthOf yX2_depthOf, Cond.code yX2_depthOf cX2_depthOf 2 (some .int), Cond.methodLink RX2 50 yJ6_bitCount_0f7a4, Cond.methodLink RX10 157 yX9_go, Cond.instanceMethod yX9_go, Cond.selects RX9 yX9_go yX9_go, Cond.initialized RX9, Cond.code yX9_go cX9_go 5 none, Cond.fieldLink RX9 29 "CoverOrder$Walk" "grid" "J", Cond.fieldLink RX9 14 "CoverOrder$Walk" "met" "LCoverOrder$Row;", Cond.fieldLink RX9 20 "CoverOrder$Walk" "path" "LCoverOrder$Row;", Cond.methodLink RX9 23 yX3_grid, Cond.methodLink RX9 32 yX6_clear, Cond.instanceMethod yX6_clear, Cond.selects RX6 yX6_clear yX6_clear, Cond.code yX6_clear cX6_clear 1 none, Cond.methodLink RX9 35 yX6_add, Cond.instanceMethod yX6_add]
def wsX10_knot_r6 : List Cond := [Cond.selects RX6 yX6_add yX6_add, Cond.code yX6_add cX6_add 2 none, Cond.methodLink RX6 29 yX6_putIn, Cond.instanceMethod yX6_putIn, Cond.selects RX6 yX6_putIn yX6_putIn, Cond.code yX6_putIn cX6_putIn 4 none, Cond.methodLink RX6 33 yX6_isFull, Cond.instanceMethod yX6_isFull, Cond.selects RX6 yX6_isFull yX6_isFull, Cond.code yX6_isFull cX6_isFull 1 (some .boolean), Cond.methodLink RX9 38 yX5_only, Cond.methodLink RX9 44 yX6_size, Cond.methodLink RX9 48 yX6_at, Cond.methodLink RX9 51 yX3_firstWayOn, Cond.instanceMethod yX3_firstWayOn, Cond.selects RX3 yX3_firstWayOn yX3_firstWayOn, Cond.code yX3_firstWayOn cX3_firstWayOn 5 (some .int), Cond.methodLink RX3 96 yX5_isIn, Cond.methodLink RX9 55 yX6_takeLast, Cond.instanceMethod yX6_takeLast, Cond.selects RX6 yX6_takeLast yX6_takeLast, Cond.code yX6_takeLast cX6_takeLast 1 (some .int), Cond.methodLink RX6 37 yX6_takeOut, Cond.instanceMethod yX6_takeOut]
def wsX10_knot_r7 : List Cond := [Cond.selects RX6 yX6_takeOut yX6_takeOut, Cond.code yX6_takeOut cX6_takeOut 4 (some .int), Cond.methodLink RX10 160 yX9_orderOf, Cond.instanceMethod yX9_orderOf, Cond.selects RX9 yX9_orderOf yX9_orderOf, Cond.code yX9_orderOf cX9_orderOf 2 (some .int), Cond.methodLink RX9 58 yX6_placeOf, Cond.instanceMethod yX6_placeOf, Cond.selects RX6 yX6_placeOf yX6_placeOf, Cond.code yX6_placeOf cX6_placeOf 3 (some .int), Cond.methodLink RX6 25 yX6_at, Cond.methodLink RX10 163 yX9_halfOf, Cond.instanceMethod yX9_halfOf, Cond.selects RX9 yX9_halfOf yX9_halfOf, Cond.code yX9_halfOf cX9_halfOf 4 (some .int), Cond.methodLink RX9 61 yX9_orderOf, Cond.methodLink RX9 64 yX9_startsOfLateWays, Cond.instanceMethod yX9_startsOfLateWays, Cond.selects RX9 yX9_startsOfLateWays yX9_startsOfLateWays, Cond.code yX9_startsOfLateWays cX9_startsOfLateWays 7 (some .int), Cond.methodLink RX9 71 yX5_column, Cond.methodLink RX9 75 yX5_first, Cond.methodLink RX9 67 yX5_isIn, Cond.methodLink RX10 166 yX2_coveredBy]
def wsX10_knot_r8 : List Cond := [Cond.instanceMethod yX2_coveredBy, Cond.selects RX2 yX2_coveredBy yX2_coveredBy, Cond.code yX2_coveredBy cX2_coveredBy 2 (some .int), Cond.methodLink RX10 169 yX2_rimOf, Cond.instanceMethod yX2_rimOf, Cond.selects RX2 yX2_rimOf yX2_rimOf, Cond.code yX2_rimOf cX2_rimOf 5 (some .int), Cond.methodLink RX2 73 yX2_coveredBy]
def wsX10_knot : List Cond := .code yX10_knot cX10_knot 3 (some .int) :: ((wsX10_knot_r1 ++ (wsX10_knot_r2 ++ (wsX10_knot_r3 ++ (wsX10_knot_r4 ++ (wsX10_knot_r5 ++ (wsX10_knot_r6 ++ (wsX10_knot_r7 ++ wsX10_knot_r8))))))) ++ wsX100 ++ wsX30 ++ wsX60 ++ wsX20 ++ wsX90)
def wsX10_nearest_r1 : List Cond := [Cond.fieldLink RX10 19 "CoverOrder" "edges" "LCoverOrder$Edges;", Cond.fieldLink RX10 49 "CoverOrder" "covers" "LCoverOrder$Covers;", Cond.methodLink RX10 102 yX3_areKnots, Cond.instanceMethod yX3_areKnots, Cond.selects RX3 yX3_areKnots yX3_areKnots, Cond.initialized RX3, Cond.code yX3_areKnots cX3_areKnots 3 (some .boolean), Cond.methodLink RX3 51 yX3_isKnot, Cond.instanceMethod yX3_isKnot, Cond.selects RX3 yX3_isKnot yX3_isKnot, Cond.code yX3_isKnot cX3_isKnot 2 (some .boolean), Cond.fieldLink RX3 20 "CoverOrder$Edges" "knots" "I", Cond.methodLink RX10 145 yX10_learnCovers, Cond.instanceMethod yX10_learnCovers, Cond.selects RX10 yX10_learnCovers yX10_learnCovers, Cond.initialized RX10, Cond.code yX10_learnCovers cX10_learnCovers 1 none, Cond.methodLink RX10 178 yX3_grid, Cond.instanceMethod yX3_grid, Cond.selects RX3 yX3_grid yX3_grid, Cond.code yX3_grid cX3_grid 5 (some .long), Cond.fieldLink RX3 14 "CoverOrder$Edges" "row" "LCoverOrder$Row;", Cond.methodLink RX3 43 yX6_size, Cond.instanceMethod yX6_size]
def wsX10_nearest_r2 : List Cond := [Cond.selects RX6 yX6_size yX6_size, Cond.initialized RX6, Cond.code yX6_size cX6_size 1 (some .int), Cond.fieldLink RX6 21 "CoverOrder$Row" "size" "I", Cond.methodLink RX3 55 yX6_at, Cond.instanceMethod yX6_at, Cond.selects RX6 yX6_at yX6_at, Cond.code yX6_at cX6_at 2 (some .int), Cond.fieldLink RX6 15 "CoverOrder$Row" "items" "[I", Cond.methodLink RX3 59 yX3_pairOf, Cond.static yX3_pairOf, Cond.code yX3_pairOf cX3_pairOf 1 (some .int), Cond.methodLink RX3 101 yX5_flipped, Cond.static yX5_flipped, Cond.initialized RX5, Cond.code yX5_flipped cX5_flipped 4 (some .long), Cond.methodLink RX10 188 yX2_learn, Cond.instanceMethod yX2_learn, Cond.selects RX2 yX2_learn yX2_learn, Cond.initialized RX2, Cond.code yX2_learn cX2_learn 5 none, Cond.fieldLink RX2 9 "CoverOrder$Covers" "grid" "J", Cond.fieldLink RX2 21 "CoverOrder$Covers" "reached" "I", Cond.fieldLink RX2 24 "CoverOrder$Covers" "covered" "J"]
def wsX10_nearest_r3 : List Cond := [Cond.fieldLink RX2 43 "CoverOrder$Covers" "coverers" "J", Cond.methodLink RX2 15 yX5_reached, Cond.static yX5_reached, Cond.code yX5_reached cX5_reached 8 (some .int), Cond.methodLink RX5 29 yX5_only, Cond.static yX5_only, Cond.code yX5_only cX5_only 1 (some .int), Cond.methodLink RX5 39 yX5_first, Cond.static yX5_first, Cond.code yX5_first cX5_first 1 (some .int), Cond.methodLink RX5 9 yJ6_bitCount_0f7a4, Cond.static yJ6_bitCount_0f7a4, Cond.initialized RJ6, Cond.code yJ6_bitCount_0f7a4 cJ6_bitCount_0f7a4 1 (some .int), Cond.constant RJ6 265 (1431655765), Cond.constant RJ6 266 (858993459), Cond.constant RJ6 267 (252645135), Cond.methodLink RX5 19 yX5_line, Cond.static yX5_line, Cond.code yX5_line cX5_line 3 (some .int), Cond.methodLink RX2 27 yX2_isReached, Cond.instanceMethod yX2_isReached, Cond.selects RX2 yX2_isReached yX2_isReached, Cond.code yX2_isReached cX2_isReached 2 (some .boolean)]
def wsX10_nearest_r4 : List Cond := [Cond.methodLink RX2 46 yX5_isIn, Cond.static yX5_isIn, Cond.code yX5_isIn cX5_isIn 2 (some .boolean), Cond.methodLink RX2 31 yX5_only, Cond.methodLink RX2 35 yX5_withLine, Cond.static yX5_withLine, Cond.code yX5_withLine cX5_withLine 5 (some .long), Cond.constantLong RX5 15 (255), Cond.constantLong RX5 17 (-1), Cond.methodLink RX2 39 yX5_turned, Cond.static yX5_turned, Cond.code yX5_turned cX5_turned 5 (some .long), Cond.methodLink RX5 32 yX5_column, Cond.static yX5_column, Cond.code yX5_column cX5_column 5 (some .int), Cond.methodLink RX5 25 yX5_isIn, Cond.methodLink RX5 35 yX5_withLine, Cond.methodLink RX10 148 yX2_isReached, Cond.methodLink RX10 172 yX2_coverersOf, Cond.instanceMethod yX2_coverersOf, Cond.selects RX2 yX2_coverersOf yX2_coverersOf, Cond.code yX2_coverersOf cX2_coverersOf 2 (some .int), Cond.methodLink RX2 55 yX5_line, Cond.methodLink RX10 175 yX2_coveredByJust]
def wsX10_nearest_r5 : List Cond := [Cond.instanceMethod yX2_coveredByJust, Cond.selects RX2 yX2_coveredByJust yX2_coveredByJust, Cond.code yX2_coveredByJust cX2_coveredByJust 3 (some .int)]
def wsX10_nearest : List Cond := .code yX10_nearest cX10_nearest 3 (some .int) :: ((wsX10_nearest_r1 ++ (wsX10_nearest_r2 ++ (wsX10_nearest_r3 ++ (wsX10_nearest_r4 ++ wsX10_nearest_r5)))) ++ wsX100 ++ wsX30 ++ wsX60 ++ wsX20)
def wsX10_would_r1 : List Cond := [Cond.fieldLink RX10 19 "CoverOrder" "edges" "LCoverOrder$Edges;", Cond.fieldLink RX10 53 "CoverOrder" "trialCovers" "LCoverOrder$Covers;", Cond.fieldLink RX10 49 "CoverOrder" "covers" "LCoverOrder$Covers;", Cond.methodLink RX10 102 yX3_areKnots, Cond.instanceMethod yX3_areKnots, Cond.selects RX3 yX3_areKnots yX3_areKnots, Cond.initialized RX3, Cond.code yX3_areKnots cX3_areKnots 3 (some .boolean), Cond.methodLink RX3 51 yX3_isKnot, Cond.instanceMethod yX3_isKnot, Cond.selects RX3 yX3_isKnot yX3_isKnot, Cond.code yX3_isKnot cX3_isKnot 2 (some .boolean), Cond.fieldLink RX3 20 "CoverOrder$Edges" "knots" "I", Cond.methodLink RX10 106 yX3_has, Cond.instanceMethod yX3_has, Cond.selects RX3 yX3_has yX3_has, Cond.code yX3_has cX3_has 3 (some .boolean), Cond.methodLink RX3 65 yX3_placeOf, Cond.instanceMethod yX3_placeOf, Cond.selects RX3 yX3_placeOf yX3_placeOf, Cond.code yX3_placeOf cX3_placeOf 4 (some .int), Cond.fieldLink RX3 14 "CoverOrder$Edges" "row" "LCoverOrder$Row;", Cond.methodLink RX3 43 yX6_size, Cond.instanceMethod yX6_size]
def wsX10_would_r2 : List Cond := [Cond.selects RX6 yX6_size yX6_size, Cond.initialized RX6, Cond.code yX6_size cX6_size 1 (some .int), Cond.fieldLink RX6 21 "CoverOrder$Row" "size" "I", Cond.methodLink RX3 55 yX6_at, Cond.instanceMethod yX6_at, Cond.selects RX6 yX6_at yX6_at, Cond.code yX6_at cX6_at 2 (some .int), Cond.fieldLink RX6 15 "CoverOrder$Row" "items" "[I", Cond.methodLink RX3 59 yX3_pairOf, Cond.static yX3_pairOf, Cond.code yX3_pairOf cX3_pairOf 1 (some .int), Cond.methodLink RX3 62 yX3_pair, Cond.static yX3_pair, Cond.code yX3_pair cX3_pair 2 (some .int), Cond.methodLink RX10 109 yX3_isFull, Cond.instanceMethod yX3_isFull, Cond.selects RX3 yX3_isFull yX3_isFull, Cond.code yX3_isFull cX3_isFull 1 (some .boolean), Cond.methodLink RX3 47 yX6_isFull, Cond.instanceMethod yX6_isFull, Cond.selects RX6 yX6_isFull yX6_isFull, Cond.code yX6_isFull cX6_isFull 1 (some .boolean), Cond.methodLink RX10 145 yX10_learnCovers]
def wsX10_would_r3 : List Cond := [Cond.instanceMethod yX10_learnCovers, Cond.selects RX10 yX10_learnCovers yX10_learnCovers, Cond.initialized RX10, Cond.code yX10_learnCovers cX10_learnCovers 1 none, Cond.methodLink RX10 178 yX3_grid, Cond.instanceMethod yX3_grid, Cond.selects RX3 yX3_grid yX3_grid, Cond.code yX3_grid cX3_grid 5 (some .long), Cond.methodLink RX3 101 yX5_flipped, Cond.static yX5_flipped, Cond.initialized RX5, Cond.code yX5_flipped cX5_flipped 4 (some .long), Cond.methodLink RX10 188 yX2_learn, Cond.instanceMethod yX2_learn, Cond.selects RX2 yX2_learn yX2_learn, Cond.initialized RX2, Cond.code yX2_learn cX2_learn 5 none, Cond.fieldLink RX2 9 "CoverOrder$Covers" "grid" "J", Cond.fieldLink RX2 21 "CoverOrder$Covers" "reached" "I", Cond.fieldLink RX2 24 "CoverOrder$Covers" "covered" "J", Cond.fieldLink RX2 43 "CoverOrder$Covers" "coverers" "J", Cond.methodLink RX2 15 yX5_reached, Cond.static yX5_reached, Cond.code yX5_reached cX5_reached 8 (some .int)]
def wsX10_would_r4 : List Cond := [Cond.methodLink RX5 29 yX5_only, Cond.static yX5_only, Cond.code yX5_only cX5_only 1 (some .int), Cond.methodLink RX5 39 yX5_first, Cond.static yX5_first, Cond.code yX5_first cX5_first 1 (some .int), Cond.methodLink RX5 9 yJ6_bitCount_0f7a4, Cond.static yJ6_bitCount_0f7a4, Cond.initialized RJ6, Cond.code yJ6_bitCount_0f7a4 cJ6_bitCount_0f7a4 1 (some .int), Cond.constant RJ6 265 (1431655765), Cond.constant RJ6 266 (858993459), Cond.constant RJ6 267 (252645135), Cond.methodLink RX5 19 yX5_line, Cond.static yX5_line, Cond.code yX5_line cX5_line 3 (some .int), Cond.methodLink RX2 27 yX2_isReached, Cond.instanceMethod yX2_isReached, Cond.selects RX2 yX2_isReached yX2_isReached, Cond.code yX2_isReached cX2_isReached 2 (some .boolean), Cond.methodLink RX2 46 yX5_isIn, Cond.static yX5_isIn, Cond.code yX5_isIn cX5_isIn 2 (some .boolean), Cond.methodLink RX2 31 yX5_only]
def wsX10_would_r5 : List Cond := [Cond.methodLink RX2 35 yX5_withLine, Cond.static yX5_withLine, Cond.code yX5_withLine cX5_withLine 5 (some .long), Cond.constantLong RX5 15 (255), Cond.constantLong RX5 17 (-1), Cond.methodLink RX2 39 yX5_turned, Cond.static yX5_turned, Cond.code yX5_turned cX5_turned 5 (some .long), Cond.methodLink RX5 32 yX5_column, Cond.static yX5_column, Cond.code yX5_column cX5_column 5 (some .int), Cond.methodLink RX5 25 yX5_isIn, Cond.methodLink RX5 35 yX5_withLine, Cond.methodLink RX10 182 yX5_flipped, Cond.methodLink RX10 192 yX2_changedIn, Cond.instanceMethod yX2_changedIn, Cond.selects RX2 yX2_changedIn yX2_changedIn, Cond.code yX2_changedIn cX2_changedIn 4 (some .int), Cond.methodLink RX2 76 yX2_lidOf, Cond.instanceMethod yX2_lidOf, Cond.selects RX2 yX2_lidOf yX2_lidOf, Cond.code yX2_lidOf cX2_lidOf 2 (some .int), Cond.methodLink RX2 58 yX2_coverersOf, Cond.instanceMethod yX2_coverersOf]
def wsX10_would_r6 : List Cond := [Cond.selects RX2 yX2_coverersOf yX2_coverersOf, Cond.code yX2_coverersOf cX2_coverersOf 2 (some .int), Cond.methodLink RX2 55 yX5_line, Cond.methodLink RX2 61 yX2_coveredByJust, Cond.instanceMethod yX2_coveredByJust, Cond.selects RX2 yX2_coveredByJust yX2_coveredByJust, Cond.code yX2_coveredByJust cX2_coveredByJust 3 (some .int)]
def wsX10_would : List Cond := .code yX10_would cX10_would 3 (some .int) :: ((wsX10_would_r1 ++ (wsX10_would_r2 ++ (wsX10_would_r3 ++ (wsX10_would_r4 ++ (wsX10_would_r5 ++ wsX10_would_r6))))) ++ wsX100 ++ wsX30 ++ wsX60 ++ wsX20)
def wsX10_showing_r1 : List Cond := [Cond.fieldLink RX10 49 "CoverOrder" "covers" "LCoverOrder$Covers;", Cond.fieldLink RX10 66 "CoverOrder" "least" "LCoverOrder$Showing;", Cond.methodLink RX10 145 yX10_learnCovers, Cond.instanceMethod yX10_learnCovers, Cond.selects RX10 yX10_learnCovers yX10_learnCovers, Cond.initialized RX10, Cond.code yX10_learnCovers cX10_learnCovers 1 none, Cond.fieldLink RX10 19 "CoverOrder" "edges" "LCoverOrder$Edges;", Cond.methodLink RX10 178 yX3_grid, Cond.instanceMethod yX3_grid, Cond.selects RX3 yX3_grid yX3_grid, Cond.initialized RX3, Cond.code yX3_grid cX3_grid 5 (some .long), Cond.fieldLink RX3 14 "CoverOrder$Edges" "row" "LCoverOrder$Row;", Cond.methodLink RX3 43 yX6_size, Cond.instanceMethod yX6_size, Cond.selects RX6 yX6_size yX6_size, Cond.initialized RX6, Cond.code yX6_size cX6_size 1 (some .int), Cond.fieldLink RX6 21 "CoverOrder$Row" "size" "I", Cond.methodLink RX3 55 yX6_at, Cond.instanceMethod yX6_at, Cond.selects RX6 yX6_at yX6_at, Cond.code yX6_at cX6_at 2 (some .int)]
def wsX10_showing_r2 : List Cond := [Cond.fieldLink RX6 15 "CoverOrder$Row" "items" "[I", Cond.methodLink RX3 59 yX3_pairOf, Cond.static yX3_pairOf, Cond.code yX3_pairOf cX3_pairOf 1 (some .int), Cond.methodLink RX3 101 yX5_flipped, Cond.static yX5_flipped, Cond.initialized RX5, Cond.code yX5_flipped cX5_flipped 4 (some .long), Cond.methodLink RX10 188 yX2_learn, Cond.instanceMethod yX2_learn, Cond.selects RX2 yX2_learn yX2_learn, Cond.initialized RX2, Cond.code yX2_learn cX2_learn 5 none, Cond.fieldLink RX2 9 "CoverOrder$Covers" "grid" "J", Cond.fieldLink RX2 21 "CoverOrder$Covers" "reached" "I", Cond.fieldLink RX2 24 "CoverOrder$Covers" "covered" "J", Cond.fieldLink RX2 43 "CoverOrder$Covers" "coverers" "J", Cond.methodLink RX2 15 yX5_reached, Cond.static yX5_reached, Cond.code yX5_reached cX5_reached 8 (some .int), Cond.methodLink RX5 29 yX5_only, Cond.static yX5_only, Cond.code yX5_only cX5_only 1 (some .int), Cond.methodLink RX5 39 yX5_first]
def wsX10_showing_r3 : List Cond := [Cond.static yX5_first, Cond.code yX5_first cX5_first 1 (some .int), Cond.methodLink RX5 9 yJ6_bitCount_0f7a4, Cond.static yJ6_bitCount_0f7a4, Cond.initialized RJ6, Cond.code yJ6_bitCount_0f7a4 cJ6_bitCount_0f7a4 1 (some .int), Cond.constant RJ6 265 (1431655765), Cond.constant RJ6 266 (858993459), Cond.constant RJ6 267 (252645135), Cond.methodLink RX5 19 yX5_line, Cond.static yX5_line, Cond.code yX5_line cX5_line 3 (some .int), Cond.methodLink RX2 27 yX2_isReached, Cond.instanceMethod yX2_isReached, Cond.selects RX2 yX2_isReached yX2_isReached, Cond.code yX2_isReached cX2_isReached 2 (some .boolean), Cond.methodLink RX2 46 yX5_isIn, Cond.static yX5_isIn, Cond.code yX5_isIn cX5_isIn 2 (some .boolean), Cond.methodLink RX2 31 yX5_only, Cond.methodLink RX2 35 yX5_withLine, Cond.static yX5_withLine, Cond.code yX5_withLine cX5_withLine 5 (some .long), Cond.constantLong RX5 15 (255)]
def wsX10_showing_r4 : List Cond := [Cond.constantLong RX5 17 (-1), Cond.methodLink RX2 39 yX5_turned, Cond.static yX5_turned, Cond.code yX5_turned cX5_turned 5 (some .long), Cond.methodLink RX5 32 yX5_column, Cond.static yX5_column, Cond.code yX5_column cX5_column 5 (some .int), Cond.methodLink RX5 25 yX5_isIn, Cond.methodLink RX5 35 yX5_withLine, Cond.methodLink RX10 196 yX2_reachedCount, Cond.instanceMethod yX2_reachedCount, Cond.selects RX2 yX2_reachedCount yX2_reachedCount, Cond.code yX2_reachedCount cX2_reachedCount 1 (some .int), Cond.methodLink RX2 50 yJ6_bitCount_0f7a4, Cond.methodLink RX10 199 yX7_find, Cond.instanceMethod yX7_find, Cond.selects RX7 yX7_find yX7_find, Cond.initialized RX7, Cond.code yX7_find cX7_find 2 none, Cond.fieldLink RX7 14 "CoverOrder$Showing" "row" "LCoverOrder$Row;", Cond.fieldLink RX7 20 "CoverOrder$Showing" "deadEnds" "LCoverOrder$Row;", Cond.methodLink RX7 23 yX6_clear, Cond.instanceMethod yX6_clear, Cond.selects RX6 yX6_clear yX6_clear]
def wsX10_showing_r5 : List Cond := [Cond.code yX6_clear cX6_clear 1 none, Cond.methodLink RX7 26 yX6_add, Cond.instanceMethod yX6_add, Cond.selects RX6 yX6_add yX6_add, Cond.code yX6_add cX6_add 2 none, Cond.methodLink RX6 29 yX6_putIn, Cond.instanceMethod yX6_putIn, Cond.selects RX6 yX6_putIn yX6_putIn, Cond.code yX6_putIn cX6_putIn 4 none, Cond.methodLink RX6 33 yX6_isFull, Cond.instanceMethod yX6_isFull, Cond.selects RX6 yX6_isFull yX6_isFull, Cond.code yX6_isFull cX6_isFull 1 (some .boolean), Cond.methodLink RX7 29 yX5_only, Cond.methodLink RX7 35 yX7_fill, Cond.static yX7_fill, Cond.code yX7_fill cX7_fill 6 (some .boolean), Cond.methodLink RX7 48 yX6_placeOf, Cond.instanceMethod yX6_placeOf, Cond.selects RX6 yX6_placeOf yX6_placeOf, Cond.code yX6_placeOf cX6_placeOf 3 (some .int), Cond.methodLink RX6 25 yX6_at, Cond.methodLink RX7 51 yX2_nextBehind, Cond.instanceMethod yX2_nextBehind]
def wsX10_showing_r6 : List Cond := [Cond.selects RX2 yX2_nextBehind yX2_nextBehind, Cond.code yX2_nextBehind cX2_nextBehind 5 (some .int), Cond.methodLink RX2 73 yX2_coveredBy, Cond.instanceMethod yX2_coveredBy, Cond.selects RX2 yX2_coveredBy yX2_coveredBy, Cond.code yX2_coveredBy cX2_coveredBy 2 (some .int), Cond.methodLink RX2 55 yX5_line, Cond.methodLink RX2 76 yX2_lidOf, Cond.instanceMethod yX2_lidOf, Cond.selects RX2 yX2_lidOf yX2_lidOf, Cond.code yX2_lidOf cX2_lidOf 2 (some .int), Cond.methodLink RX2 58 yX2_coverersOf, Cond.instanceMethod yX2_coverersOf, Cond.selects RX2 yX2_coverersOf yX2_coverersOf, Cond.code yX2_coverersOf cX2_coverersOf 2 (some .int), Cond.methodLink RX2 61 yX2_coveredByJust, Cond.instanceMethod yX2_coveredByJust, Cond.selects RX2 yX2_coveredByJust yX2_coveredByJust, Cond.code yX2_coveredByJust cX2_coveredByJust 3 (some .int), Cond.methodLink RX7 54 yX5_isIn, Cond.methodLink RX7 58 yX2_isShown, Cond.instanceMethod yX2_isShown, Cond.selects RX2 yX2_isShown yX2_isShown, Cond.code yX2_isShown cX2_isShown 5 (some .boolean)]
def wsX10_showing_r7 : List Cond := [Cond.methodLink RX2 79 yX5_column, Cond.methodLink RX7 61 yX6_takeLast, Cond.instanceMethod yX6_takeLast, Cond.selects RX6 yX6_takeLast yX6_takeLast, Cond.code yX6_takeLast cX6_takeLast 1 (some .int), Cond.methodLink RX6 37 yX6_takeOut, Cond.instanceMethod yX6_takeOut, Cond.selects RX6 yX6_takeOut yX6_takeOut, Cond.code yX6_takeOut cX6_takeOut 4 (some .int), Cond.methodLink RX10 203 yX7_knotAt, Cond.instanceMethod yX7_knotAt, Cond.selects RX7 yX7_knotAt yX7_knotAt, Cond.code yX7_knotAt cX7_knotAt 2 (some .int), Cond.methodLink RX7 39 yX6_at]
def wsX10_showing : List Cond := .code yX10_showing cX10_showing 2 (some .int) :: ((wsX10_showing_r1 ++ (wsX10_showing_r2 ++ (wsX10_showing_r3 ++ (wsX10_showing_r4 ++ (wsX10_showing_r5 ++ (wsX10_showing_r6 ++ wsX10_showing_r7)))))) ++ wsX100 ++ wsX30 ++ wsX60 ++ wsX20 ++ wsX70)
def wsX10_look_r1 : List Cond := [Cond.fieldLink RX10 49 "CoverOrder" "covers" "LCoverOrder$Covers;", Cond.fieldLink RX10 70 "CoverOrder" "told" "LCoverOrder$Row;", Cond.methodLink RX10 145 yX10_learnCovers, Cond.instanceMethod yX10_learnCovers, Cond.selects RX10 yX10_learnCovers yX10_learnCovers, Cond.initialized RX10, Cond.code yX10_learnCovers cX10_learnCovers 1 none, Cond.fieldLink RX10 19 "CoverOrder" "edges" "LCoverOrder$Edges;", Cond.methodLink RX10 178 yX3_grid, Cond.instanceMethod yX3_grid, Cond.selects RX3 yX3_grid yX3_grid, Cond.initialized RX3, Cond.code yX3_grid cX3_grid 5 (some .long), Cond.fieldLink RX3 14 "CoverOrder$Edges" "row" "LCoverOrder$Row;", Cond.methodLink RX3 43 yX6_size, Cond.instanceMethod yX6_size, Cond.selects RX6 yX6_size yX6_size, Cond.initialized RX6, Cond.code yX6_size cX6_size 1 (some .int), Cond.fieldLink RX6 21 "CoverOrder$Row" "size" "I", Cond.methodLink RX3 55 yX6_at, Cond.instanceMethod yX6_at, Cond.selects RX6 yX6_at yX6_at, Cond.code yX6_at cX6_at 2 (some .int)]
def wsX10_look_r2 : List Cond := [Cond.fieldLink RX6 15 "CoverOrder$Row" "items" "[I", Cond.methodLink RX3 59 yX3_pairOf, Cond.static yX3_pairOf, Cond.code yX3_pairOf cX3_pairOf 1 (some .int), Cond.methodLink RX3 101 yX5_flipped, Cond.static yX5_flipped, Cond.initialized RX5, Cond.code yX5_flipped cX5_flipped 4 (some .long), Cond.methodLink RX10 188 yX2_learn, Cond.instanceMethod yX2_learn, Cond.selects RX2 yX2_learn yX2_learn, Cond.initialized RX2, Cond.code yX2_learn cX2_learn 5 none, Cond.fieldLink RX2 9 "CoverOrder$Covers" "grid" "J", Cond.fieldLink RX2 21 "CoverOrder$Covers" "reached" "I", Cond.fieldLink RX2 24 "CoverOrder$Covers" "covered" "J", Cond.fieldLink RX2 43 "CoverOrder$Covers" "coverers" "J", Cond.methodLink RX2 15 yX5_reached, Cond.static yX5_reached, Cond.code yX5_reached cX5_reached 8 (some .int), Cond.methodLink RX5 29 yX5_only, Cond.static yX5_only, Cond.code yX5_only cX5_only 1 (some .int), Cond.methodLink RX5 39 yX5_first]
def wsX10_look_r3 : List Cond := [Cond.static yX5_first, Cond.code yX5_first cX5_first 1 (some .int), Cond.methodLink RX5 9 yJ6_bitCount_0f7a4, Cond.static yJ6_bitCount_0f7a4, Cond.initialized RJ6, Cond.code yJ6_bitCount_0f7a4 cJ6_bitCount_0f7a4 1 (some .int), Cond.constant RJ6 265 (1431655765), Cond.constant RJ6 266 (858993459), Cond.constant RJ6 267 (252645135), Cond.methodLink RX5 19 yX5_line, Cond.static yX5_line, Cond.code yX5_line cX5_line 3 (some .int), Cond.methodLink RX2 27 yX2_isReached, Cond.instanceMethod yX2_isReached, Cond.selects RX2 yX2_isReached yX2_isReached, Cond.code yX2_isReached cX2_isReached 2 (some .boolean), Cond.methodLink RX2 46 yX5_isIn, Cond.static yX5_isIn, Cond.code yX5_isIn cX5_isIn 2 (some .boolean), Cond.methodLink RX2 31 yX5_only, Cond.methodLink RX2 35 yX5_withLine, Cond.static yX5_withLine, Cond.code yX5_withLine cX5_withLine 5 (some .long), Cond.constantLong RX5 15 (255)]
def wsX10_look_r4 : List Cond := [Cond.constantLong RX5 17 (-1), Cond.methodLink RX2 39 yX5_turned, Cond.static yX5_turned, Cond.code yX5_turned cX5_turned 5 (some .long), Cond.methodLink RX5 32 yX5_column, Cond.static yX5_column, Cond.code yX5_column cX5_column 5 (some .int), Cond.methodLink RX5 25 yX5_isIn, Cond.methodLink RX5 35 yX5_withLine, Cond.methodLink RX10 196 yX2_reachedCount, Cond.instanceMethod yX2_reachedCount, Cond.selects RX2 yX2_reachedCount yX2_reachedCount, Cond.code yX2_reachedCount cX2_reachedCount 1 (some .int), Cond.methodLink RX2 50 yJ6_bitCount_0f7a4, Cond.methodLink RX10 206 yX4_fit, Cond.static yX4_fit, Cond.initialized RX4, Cond.code yX4_fit cX4_fit 6 (some .boolean), Cond.constantLong RX4 7 (10), Cond.methodLink RX10 212 yX6_clear, Cond.instanceMethod yX6_clear, Cond.selects RX6 yX6_clear yX6_clear, Cond.code yX6_clear cX6_clear 1 none, Cond.methodLink RX10 213 yX4_at]
def wsX10_look_r5 : List Cond := [Cond.static yX4_at, Cond.code yX4_at cX4_at 7 (some .int), Cond.methodLink RX10 216 yX6_add, Cond.instanceMethod yX6_add, Cond.selects RX6 yX6_add yX6_add, Cond.code yX6_add cX6_add 2 none, Cond.methodLink RX6 29 yX6_putIn, Cond.instanceMethod yX6_putIn, Cond.selects RX6 yX6_putIn yX6_putIn, Cond.code yX6_putIn cX6_putIn 4 none, Cond.methodLink RX6 33 yX6_isFull, Cond.instanceMethod yX6_isFull, Cond.selects RX6 yX6_isFull yX6_isFull, Cond.code yX6_isFull cX6_isFull 1 (some .boolean), Cond.methodLink RX10 217 yX2_firstMisplaced, Cond.instanceMethod yX2_firstMisplaced, Cond.selects RX2 yX2_firstMisplaced yX2_firstMisplaced, Cond.code yX2_firstMisplaced cX2_firstMisplaced 6 (some .int), Cond.methodLink RX2 82 yX6_size, Cond.methodLink RX2 88 yX6_at, Cond.methodLink RX2 91 yX2_isInPlace, Cond.instanceMethod yX2_isInPlace, Cond.selects RX2 yX2_isInPlace yX2_isInPlace, Cond.code yX2_isInPlace cX2_isInPlace 4 (some .boolean)]
def wsX10_look_r6 : List Cond := [Cond.methodLink RX2 76 yX2_lidOf, Cond.instanceMethod yX2_lidOf, Cond.selects RX2 yX2_lidOf yX2_lidOf, Cond.code yX2_lidOf cX2_lidOf 2 (some .int), Cond.methodLink RX2 58 yX2_coverersOf, Cond.instanceMethod yX2_coverersOf, Cond.selects RX2 yX2_coverersOf yX2_coverersOf, Cond.code yX2_coverersOf cX2_coverersOf 2 (some .int), Cond.methodLink RX2 55 yX5_line, Cond.methodLink RX2 61 yX2_coveredByJust, Cond.instanceMethod yX2_coveredByJust, Cond.selects RX2 yX2_coveredByJust yX2_coveredByJust, Cond.code yX2_coveredByJust cX2_coveredByJust 3 (some .int), Cond.methodLink RX2 73 yX2_coveredBy, Cond.instanceMethod yX2_coveredBy, Cond.selects RX2 yX2_coveredBy yX2_coveredBy, Cond.code yX2_coveredBy cX2_coveredBy 2 (some .int), Cond.methodLink RX10 221 yX2_firstNotShown, Cond.instanceMethod yX2_firstNotShown, Cond.selects RX2 yX2_firstNotShown yX2_firstNotShown, Cond.code yX2_firstNotShown cX2_firstNotShown 5 (some .int), Cond.methodLink RX2 95 yX2_isShown, Cond.instanceMethod yX2_isShown, Cond.selects RX2 yX2_isShown yX2_isShown]
def wsX10_look_r7 : List Cond := [Cond.code yX2_isShown cX2_isShown 5 (some .boolean), Cond.methodLink RX2 79 yX5_column]
def wsX10_look : List Cond := .code yX10_look cX10_look 5 (some .int) :: ((wsX10_look_r1 ++ (wsX10_look_r2 ++ (wsX10_look_r3 ++ (wsX10_look_r4 ++ (wsX10_look_r5 ++ (wsX10_look_r6 ++ wsX10_look_r7)))))) ++ wsX100 ++ wsX30 ++ wsX60 ++ wsX20)
def wsX10_isDoneOrSo_r1 : List Cond := [Cond.fieldLink RX10 53 "CoverOrder" "trialCovers" "LCoverOrder$Covers;", Cond.fieldLink RX10 23 "CoverOrder" "trial" "LCoverOrder$Edges;", Cond.fieldLink RX10 59 "CoverOrder" "walk" "LCoverOrder$Walk;", Cond.methodLink RX10 178 yX3_grid, Cond.instanceMethod yX3_grid, Cond.selects RX3 yX3_grid yX3_grid, Cond.initialized RX3, Cond.code yX3_grid cX3_grid 5 (some .long), Cond.fieldLink RX3 14 "CoverOrder$Edges" "row" "LCoverOrder$Row;", Cond.methodLink RX3 43 yX6_size, Cond.instanceMethod yX6_size, Cond.selects RX6 yX6_size yX6_size, Cond.initialized RX6, Cond.code yX6_size cX6_size 1 (some .int), Cond.fieldLink RX6 21 "CoverOrder$Row" "size" "I", Cond.methodLink RX3 55 yX6_at, Cond.instanceMethod yX6_at, Cond.selects RX6 yX6_at yX6_at, Cond.code yX6_at cX6_at 2 (some .int), Cond.fieldLink RX6 15 "CoverOrder$Row" "items" "[I", Cond.methodLink RX3 59 yX3_pairOf, Cond.static yX3_pairOf, Cond.code yX3_pairOf cX3_pairOf 1 (some .int), Cond.methodLink RX3 101 yX5_flipped]
def wsX10_isDoneOrSo_r2 : List Cond := [Cond.static yX5_flipped, Cond.initialized RX5, Cond.code yX5_flipped cX5_flipped 4 (some .long), Cond.methodLink RX10 188 yX2_learn, Cond.instanceMethod yX2_learn, Cond.selects RX2 yX2_learn yX2_learn, Cond.initialized RX2, Cond.code yX2_learn cX2_learn 5 none, Cond.fieldLink RX2 9 "CoverOrder$Covers" "grid" "J", Cond.fieldLink RX2 21 "CoverOrder$Covers" "reached" "I", Cond.fieldLink RX2 24 "CoverOrder$Covers" "covered" "J", Cond.fieldLink RX2 43 "CoverOrder$Covers" "coverers" "J", Cond.methodLink RX2 15 yX5_reached, Cond.static yX5_reached, Cond.code yX5_reached cX5_reached 8 (some .int), Cond.methodLink RX5 29 yX5_only, Cond.static yX5_only, Cond.code yX5_only cX5_only 1 (some .int), Cond.methodLink RX5 39 yX5_first, Cond.static yX5_first, Cond.code yX5_first cX5_first 1 (some .int), Cond.methodLink RX5 9 yJ6_bitCount_0f7a4, Cond.static yJ6_bitCount_0f7a4, Cond.initialized RJ6]
def wsX10_isDoneOrSo_r3 : List Cond := [Cond.code yJ6_bitCount_0f7a4 cJ6_bitCount_0f7a4 1 (some .int), Cond.constant RJ6 265 (1431655765), Cond.constant RJ6 266 (858993459), Cond.constant RJ6 267 (252645135), Cond.methodLink RX5 19 yX5_line, Cond.static yX5_line, Cond.code yX5_line cX5_line 3 (some .int), Cond.methodLink RX2 27 yX2_isReached, Cond.instanceMethod yX2_isReached, Cond.selects RX2 yX2_isReached yX2_isReached, Cond.code yX2_isReached cX2_isReached 2 (some .boolean), Cond.methodLink RX2 46 yX5_isIn, Cond.static yX5_isIn, Cond.code yX5_isIn cX5_isIn 2 (some .boolean), Cond.methodLink RX2 31 yX5_only, Cond.methodLink RX2 35 yX5_withLine, Cond.static yX5_withLine, Cond.code yX5_withLine cX5_withLine 5 (some .long), Cond.constantLong RX5 15 (255), Cond.constantLong RX5 17 (-1), Cond.methodLink RX2 39 yX5_turned, Cond.static yX5_turned, Cond.code yX5_turned cX5_turned 5 (some .long), Cond.methodLink RX5 32 yX5_column]
def wsX10_isDoneOrSo_r4 : List Cond := [Cond.static yX5_column, Cond.code yX5_column cX5_column 5 (some .int), Cond.methodLink RX5 25 yX5_isIn, Cond.methodLink RX5 35 yX5_withLine, Cond.methodLink RX10 196 yX2_reachedCount, Cond.instanceMethod yX2_reachedCount, Cond.selects RX2 yX2_reachedCount yX2_reachedCount, Cond.code yX2_reachedCount cX2_reachedCount 1 (some .int), Cond.methodLink RX2 50 yJ6_bitCount_0f7a4, Cond.methodLink RX10 141 yX3_isKnot, Cond.instanceMethod yX3_isKnot, Cond.selects RX3 yX3_isKnot yX3_isKnot, Cond.code yX3_isKnot cX3_isKnot 2 (some .boolean), Cond.fieldLink RX3 20 "CoverOrder$Edges" "knots" "I", Cond.methodLink RX10 154 yX2_depthOf, Cond.instanceMethod yX2_depthOf, Cond.selects RX2 yX2_depthOf yX2_depthOf, Cond.code yX2_depthOf cX2_depthOf 2 (some .int), Cond.methodLink RX2 58 yX2_coverersOf, Cond.instanceMethod yX2_coverersOf, Cond.selects RX2 yX2_coverersOf yX2_coverersOf, Cond.code yX2_coverersOf cX2_coverersOf 2 (some .int), Cond.methodLink RX2 55 yX5_line, Cond.methodLink RX10 102 yX3_areKnots]
def wsX10_isDoneOrSo_r5 : List Cond := [Cond.instanceMethod yX3_areKnots, Cond.selects RX3 yX3_areKnots yX3_areKnots, Cond.code yX3_areKnots cX3_areKnots 3 (some .boolean), Cond.methodLink RX3 51 yX3_isKnot, Cond.methodLink RX10 309 yX3_insertIfItCanBe, Cond.instanceMethod yX3_insertIfItCanBe, Cond.selects RX3 yX3_insertIfItCanBe yX3_insertIfItCanBe, Cond.code yX3_insertIfItCanBe cX3_insertIfItCanBe 4 (some .boolean), Cond.methodLink RX3 81 yX3_has, Cond.instanceMethod yX3_has, Cond.selects RX3 yX3_has yX3_has, Cond.code yX3_has cX3_has 3 (some .boolean), Cond.methodLink RX3 65 yX3_placeOf, Cond.instanceMethod yX3_placeOf, Cond.selects RX3 yX3_placeOf yX3_placeOf, Cond.code yX3_placeOf cX3_placeOf 4 (some .int), Cond.methodLink RX3 62 yX3_pair, Cond.static yX3_pair, Cond.code yX3_pair cX3_pair 2 (some .int), Cond.methodLink RX3 85 yX3_isFull, Cond.instanceMethod yX3_isFull, Cond.selects RX3 yX3_isFull yX3_isFull, Cond.code yX3_isFull cX3_isFull 1 (some .boolean), Cond.methodLink RX3 47 yX6_isFull]
def wsX10_isDoneOrSo_r6 : List Cond := [Cond.instanceMethod yX6_isFull, Cond.selects RX6 yX6_isFull yX6_isFull, Cond.code yX6_isFull cX6_isFull 1 (some .boolean), Cond.methodLink RX3 86 yX3_append, Cond.instanceMethod yX3_append, Cond.selects RX3 yX3_append yX3_append, Cond.code yX3_append cX3_append 4 (some .int), Cond.fieldLink RX3 24 "CoverOrder$Edges" "nextStamp" "I", Cond.methodLink RX3 68 yX6_add, Cond.instanceMethod yX6_add, Cond.selects RX6 yX6_add yX6_add, Cond.code yX6_add cX6_add 2 none, Cond.methodLink RX6 29 yX6_putIn, Cond.instanceMethod yX6_putIn, Cond.selects RX6 yX6_putIn yX6_putIn, Cond.code yX6_putIn cX6_putIn 4 none, Cond.methodLink RX6 33 yX6_isFull, Cond.methodLink RX10 312 yX3_deleteIfItIsThere, Cond.instanceMethod yX3_deleteIfItIsThere, Cond.selects RX3 yX3_deleteIfItIsThere yX3_deleteIfItIsThere, Cond.code yX3_deleteIfItIsThere cX3_deleteIfItIsThere 4 (some .boolean), Cond.methodLink RX3 89 yX3_takeOut, Cond.instanceMethod yX3_takeOut, Cond.selects RX3 yX3_takeOut yX3_takeOut]
def wsX10_isDoneOrSo_r7 : List Cond := [Cond.code yX3_takeOut cX3_takeOut 2 (some .int), Cond.methodLink RX3 71 yX6_takeOut, Cond.instanceMethod yX6_takeOut, Cond.selects RX6 yX6_takeOut yX6_takeOut, Cond.code yX6_takeOut cX6_takeOut 4 (some .int), Cond.methodLink RX10 166 yX2_coveredBy, Cond.instanceMethod yX2_coveredBy, Cond.selects RX2 yX2_coveredBy yX2_coveredBy, Cond.code yX2_coveredBy cX2_coveredBy 2 (some .int), Cond.methodLink RX10 291 yX5_isIn, Cond.methodLink RX10 151 yX2_lidOf, Cond.instanceMethod yX2_lidOf, Cond.selects RX2 yX2_lidOf yX2_lidOf, Cond.code yX2_lidOf cX2_lidOf 2 (some .int), Cond.methodLink RX2 61 yX2_coveredByJust, Cond.instanceMethod yX2_coveredByJust, Cond.selects RX2 yX2_coveredByJust yX2_coveredByJust, Cond.code yX2_coveredByJust cX2_coveredByJust 3 (some .int), Cond.methodLink RX10 157 yX9_go, Cond.instanceMethod yX9_go, Cond.selects RX9 yX9_go yX9_go, Cond.initialized RX9, Cond.code yX9_go cX9_go 5 none, Cond.fieldLink RX9 29 "CoverOrder$Walk" "grid" "J"]
def wsX10_isDoneOrSo_r8 : List Cond := [Cond.fieldLink RX9 14 "CoverOrder$Walk" "met" "LCoverOrder$Row;", Cond.fieldLink RX9 20 "CoverOrder$Walk" "path" "LCoverOrder$Row;", Cond.methodLink RX9 23 yX3_grid, Cond.methodLink RX9 32 yX6_clear, Cond.instanceMethod yX6_clear, Cond.selects RX6 yX6_clear yX6_clear, Cond.code yX6_clear cX6_clear 1 none, Cond.methodLink RX9 35 yX6_add, Cond.methodLink RX9 38 yX5_only, Cond.methodLink RX9 44 yX6_size, Cond.methodLink RX9 48 yX6_at, Cond.methodLink RX9 51 yX3_firstWayOn, Cond.instanceMethod yX3_firstWayOn, Cond.selects RX3 yX3_firstWayOn yX3_firstWayOn, Cond.code yX3_firstWayOn cX3_firstWayOn 5 (some .int), Cond.methodLink RX3 96 yX5_isIn, Cond.methodLink RX9 55 yX6_takeLast, Cond.instanceMethod yX6_takeLast, Cond.selects RX6 yX6_takeLast yX6_takeLast, Cond.code yX6_takeLast cX6_takeLast 1 (some .int), Cond.methodLink RX6 37 yX6_takeOut, Cond.methodLink RX10 163 yX9_halfOf, Cond.instanceMethod yX9_halfOf, Cond.selects RX9 yX9_halfOf yX9_halfOf]
def wsX10_isDoneOrSo_r9 : List Cond := [Cond.code yX9_halfOf cX9_halfOf 4 (some .int), Cond.methodLink RX9 61 yX9_orderOf, Cond.instanceMethod yX9_orderOf, Cond.selects RX9 yX9_orderOf yX9_orderOf, Cond.code yX9_orderOf cX9_orderOf 2 (some .int), Cond.methodLink RX9 58 yX6_placeOf, Cond.instanceMethod yX6_placeOf, Cond.selects RX6 yX6_placeOf yX6_placeOf, Cond.code yX6_placeOf cX6_placeOf 3 (some .int), Cond.methodLink RX6 25 yX6_at, Cond.methodLink RX9 64 yX9_startsOfLateWays, Cond.instanceMethod yX9_startsOfLateWays, Cond.selects RX9 yX9_startsOfLateWays yX9_startsOfLateWays, Cond.code yX9_startsOfLateWays cX9_startsOfLateWays 7 (some .int), Cond.methodLink RX9 71 yX5_column, Cond.methodLink RX9 75 yX5_first, Cond.methodLink RX9 67 yX5_isIn, Cond.methodLink RX10 169 yX2_rimOf, Cond.instanceMethod yX2_rimOf, Cond.selects RX2 yX2_rimOf yX2_rimOf, Cond.code yX2_rimOf cX2_rimOf 5 (some .int), Cond.methodLink RX2 73 yX2_coveredBy]
def wsX10_isDoneOrSo : List Cond := .code yX10_isDoneOrSo cX10_isDoneOrSo 4 (some .boolean) :: ((wsX10_isDoneOrSo_r1 ++ (wsX10_isDoneOrSo_r2 ++ (wsX10_isDoneOrSo_r3 ++ (wsX10_isDoneOrSo_r4 ++ (wsX10_isDoneOrSo_r5 ++ (wsX10_isDoneOrSo_r6 ++ (wsX10_isDoneOrSo_r7 ++ (wsX10_isDoneOrSo_r8 ++ wsX10_isDoneOrSo_r9)))))))) ++ wsX100 ++ wsX30 ++ wsX60 ++ wsX20 ++ wsX90)
def wsX10_judge_r1 : List Cond := [Cond.fieldLink RX10 23 "CoverOrder" "trial" "LCoverOrder$Edges;", Cond.fieldLink RX10 19 "CoverOrder" "edges" "LCoverOrder$Edges;", Cond.methodLink RX10 206 yX4_fit, Cond.static yX4_fit, Cond.initialized RX4, Cond.code yX4_fit cX4_fit 6 (some .boolean), Cond.constantLong RX4 7 (10), Cond.methodLink RX10 224 yX3_copy, Cond.instanceMethod yX3_copy, Cond.selects RX3 yX3_copy yX3_copy, Cond.initialized RX3, Cond.code yX3_copy cX3_copy 2 none, Cond.fieldLink RX3 20 "CoverOrder$Edges" "knots" "I", Cond.fieldLink RX3 14 "CoverOrder$Edges" "row" "LCoverOrder$Row;", Cond.fieldLink RX3 24 "CoverOrder$Edges" "nextStamp" "I", Cond.methodLink RX3 39 yX6_copy, Cond.instanceMethod yX6_copy, Cond.selects RX6 yX6_copy yX6_copy, Cond.initialized RX6, Cond.code yX6_copy cX6_copy 3 none, Cond.fieldLink RX6 21 "CoverOrder$Row" "size" "I", Cond.methodLink RX6 40 yX6_clear, Cond.instanceMethod yX6_clear, Cond.selects RX6 yX6_clear yX6_clear]
def wsX10_judge_r2 : List Cond := [Cond.code yX6_clear cX6_clear 1 none, Cond.methodLink RX6 25 yX6_at, Cond.instanceMethod yX6_at, Cond.selects RX6 yX6_at yX6_at, Cond.code yX6_at cX6_at 2 (some .int), Cond.fieldLink RX6 15 "CoverOrder$Row" "items" "[I", Cond.methodLink RX6 43 yX6_add, Cond.instanceMethod yX6_add, Cond.selects RX6 yX6_add yX6_add, Cond.code yX6_add cX6_add 2 none, Cond.methodLink RX6 29 yX6_putIn, Cond.instanceMethod yX6_putIn, Cond.selects RX6 yX6_putIn yX6_putIn, Cond.code yX6_putIn cX6_putIn 4 none, Cond.methodLink RX6 33 yX6_isFull, Cond.instanceMethod yX6_isFull, Cond.selects RX6 yX6_isFull yX6_isFull, Cond.code yX6_isFull cX6_isFull 1 (some .boolean), Cond.methodLink RX10 213 yX4_at, Cond.static yX4_at, Cond.code yX4_at cX4_at 7 (some .int), Cond.methodLink RX10 227 yX10_isDoneOrSo, Cond.instanceMethod yX10_isDoneOrSo, Cond.selects RX10 yX10_isDoneOrSo yX10_isDoneOrSo]
def wsX10_judge_r3 : List Cond := [Cond.initialized RX10, Cond.code yX10_isDoneOrSo cX10_isDoneOrSo 4 (some .boolean), Cond.fieldLink RX10 53 "CoverOrder" "trialCovers" "LCoverOrder$Covers;", Cond.fieldLink RX10 59 "CoverOrder" "walk" "LCoverOrder$Walk;", Cond.methodLink RX10 178 yX3_grid, Cond.instanceMethod yX3_grid, Cond.selects RX3 yX3_grid yX3_grid, Cond.code yX3_grid cX3_grid 5 (some .long), Cond.methodLink RX3 43 yX6_size, Cond.instanceMethod yX6_size, Cond.selects RX6 yX6_size yX6_size, Cond.code yX6_size cX6_size 1 (some .int), Cond.methodLink RX3 55 yX6_at, Cond.methodLink RX3 59 yX3_pairOf, Cond.static yX3_pairOf, Cond.code yX3_pairOf cX3_pairOf 1 (some .int), Cond.methodLink RX3 101 yX5_flipped, Cond.static yX5_flipped, Cond.initialized RX5, Cond.code yX5_flipped cX5_flipped 4 (some .long), Cond.methodLink RX10 188 yX2_learn, Cond.instanceMethod yX2_learn, Cond.selects RX2 yX2_learn yX2_learn, Cond.initialized RX2]
def wsX10_judge_r4 : List Cond := [Cond.code yX2_learn cX2_learn 5 none, Cond.fieldLink RX2 9 "CoverOrder$Covers" "grid" "J", Cond.fieldLink RX2 21 "CoverOrder$Covers" "reached" "I", Cond.fieldLink RX2 24 "CoverOrder$Covers" "covered" "J", Cond.fieldLink RX2 43 "CoverOrder$Covers" "coverers" "J", Cond.methodLink RX2 15 yX5_reached, Cond.static yX5_reached, Cond.code yX5_reached cX5_reached 8 (some .int), Cond.methodLink RX5 29 yX5_only, Cond.static yX5_only, Cond.code yX5_only cX5_only 1 (some .int), Cond.methodLink RX5 39 yX5_first, Cond.static yX5_first, Cond.code yX5_first cX5_first 1 (some .int), Cond.methodLink RX5 9 yJ6_bitCount_0f7a4, Cond.static yJ6_bitCount_0f7a4, Cond.initialized RJ6, Cond.code yJ6_bitCount_0f7a4 cJ6_bitCount_0f7a4 1 (some .int), Cond.constant RJ6 265 (1431655765), Cond.constant RJ6 266 (858993459), Cond.constant RJ6 267 (252645135), Cond.methodLink RX5 19 yX5_line, Cond.static yX5_line, Cond.code yX5_line cX5_line 3 (some .int)]
def wsX10_judge_r5 : List Cond := [Cond.methodLink RX2 27 yX2_isReached, Cond.instanceMethod yX2_isReached, Cond.selects RX2 yX2_isReached yX2_isReached, Cond.code yX2_isReached cX2_isReached 2 (some .boolean), Cond.methodLink RX2 46 yX5_isIn, Cond.static yX5_isIn, Cond.code yX5_isIn cX5_isIn 2 (some .boolean), Cond.methodLink RX2 31 yX5_only, Cond.methodLink RX2 35 yX5_withLine, Cond.static yX5_withLine, Cond.code yX5_withLine cX5_withLine 5 (some .long), Cond.constantLong RX5 15 (255), Cond.constantLong RX5 17 (-1), Cond.methodLink RX2 39 yX5_turned, Cond.static yX5_turned, Cond.code yX5_turned cX5_turned 5 (some .long), Cond.methodLink RX5 32 yX5_column, Cond.static yX5_column, Cond.code yX5_column cX5_column 5 (some .int), Cond.methodLink RX5 25 yX5_isIn, Cond.methodLink RX5 35 yX5_withLine, Cond.methodLink RX10 196 yX2_reachedCount, Cond.instanceMethod yX2_reachedCount, Cond.selects RX2 yX2_reachedCount yX2_reachedCount]
def wsX10_judge_r6 : List Cond := [Cond.code yX2_reachedCount cX2_reachedCount 1 (some .int), Cond.methodLink RX2 50 yJ6_bitCount_0f7a4, Cond.methodLink RX10 141 yX3_isKnot, Cond.instanceMethod yX3_isKnot, Cond.selects RX3 yX3_isKnot yX3_isKnot, Cond.code yX3_isKnot cX3_isKnot 2 (some .boolean), Cond.methodLink RX10 154 yX2_depthOf, Cond.instanceMethod yX2_depthOf, Cond.selects RX2 yX2_depthOf yX2_depthOf, Cond.code yX2_depthOf cX2_depthOf 2 (some .int), Cond.methodLink RX2 58 yX2_coverersOf, Cond.instanceMethod yX2_coverersOf, Cond.selects RX2 yX2_coverersOf yX2_coverersOf, Cond.code yX2_coverersOf cX2_coverersOf 2 (some .int), Cond.methodLink RX2 55 yX5_line, Cond.methodLink RX10 102 yX3_areKnots, Cond.instanceMethod yX3_areKnots, Cond.selects RX3 yX3_areKnots yX3_areKnots, Cond.code yX3_areKnots cX3_areKnots 3 (some .boolean), Cond.methodLink RX3 51 yX3_isKnot, Cond.methodLink RX10 309 yX3_insertIfItCanBe, Cond.instanceMethod yX3_insertIfItCanBe, Cond.selects RX3 yX3_insertIfItCanBe yX3_insertIfItCanBe, Cond.code yX3_insertIfItCanBe cX3_insertIfItCanBe 4 (some .boolean)]
def wsX10_judge_r7 : List Cond := [Cond.methodLink RX3 81 yX3_has, Cond.instanceMethod yX3_has, Cond.selects RX3 yX3_has yX3_has, Cond.code yX3_has cX3_has 3 (some .boolean), Cond.methodLink RX3 65 yX3_placeOf, Cond.instanceMethod yX3_placeOf, Cond.selects RX3 yX3_placeOf yX3_placeOf, Cond.code yX3_placeOf cX3_placeOf 4 (some .int), Cond.methodLink RX3 62 yX3_pair, Cond.static yX3_pair, Cond.code yX3_pair cX3_pair 2 (some .int), Cond.methodLink RX3 85 yX3_isFull, Cond.instanceMethod yX3_isFull, Cond.selects RX3 yX3_isFull yX3_isFull, Cond.code yX3_isFull cX3_isFull 1 (some .boolean), Cond.methodLink RX3 47 yX6_isFull, Cond.methodLink RX3 86 yX3_append, Cond.instanceMethod yX3_append, Cond.selects RX3 yX3_append yX3_append, Cond.code yX3_append cX3_append 4 (some .int), Cond.methodLink RX3 68 yX6_add, Cond.methodLink RX10 312 yX3_deleteIfItIsThere, Cond.instanceMethod yX3_deleteIfItIsThere, Cond.selects RX3 yX3_deleteIfItIsThere yX3_deleteIfItIsThere]
def wsX10_judge_r8 : List Cond := [Cond.code yX3_deleteIfItIsThere cX3_deleteIfItIsThere 4 (some .boolean), Cond.methodLink RX3 89 yX3_takeOut, Cond.instanceMethod yX3_takeOut, Cond.selects RX3 yX3_takeOut yX3_takeOut, Cond.code yX3_takeOut cX3_takeOut 2 (some .int), Cond.methodLink RX3 71 yX6_takeOut, Cond.instanceMethod yX6_takeOut, Cond.selects RX6 yX6_takeOut yX6_takeOut, Cond.code yX6_takeOut cX6_takeOut 4 (some .int), Cond.methodLink RX10 166 yX2_coveredBy, Cond.instanceMethod yX2_coveredBy, Cond.selects RX2 yX2_coveredBy yX2_coveredBy, Cond.code yX2_coveredBy cX2_coveredBy 2 (some .int), Cond.methodLink RX10 291 yX5_isIn, Cond.methodLink RX10 151 yX2_lidOf, Cond.instanceMethod yX2_lidOf, Cond.selects RX2 yX2_lidOf yX2_lidOf, Cond.code yX2_lidOf cX2_lidOf 2 (some .int), Cond.methodLink RX2 61 yX2_coveredByJust, Cond.instanceMethod yX2_coveredByJust, Cond.selects RX2 yX2_coveredByJust yX2_coveredByJust, Cond.code yX2_coveredByJust cX2_coveredByJust 3 (some .int), Cond.methodLink RX10 157 yX9_go, Cond.instanceMethod yX9_go]
def wsX10_judge_r9 : List Cond := [Cond.selects RX9 yX9_go yX9_go, Cond.initialized RX9, Cond.code yX9_go cX9_go 5 none, Cond.fieldLink RX9 29 "CoverOrder$Walk" "grid" "J", Cond.fieldLink RX9 14 "CoverOrder$Walk" "met" "LCoverOrder$Row;", Cond.fieldLink RX9 20 "CoverOrder$Walk" "path" "LCoverOrder$Row;", Cond.methodLink RX9 23 yX3_grid, Cond.methodLink RX9 32 yX6_clear, Cond.methodLink RX9 35 yX6_add, Cond.methodLink RX9 38 yX5_only, Cond.methodLink RX9 44 yX6_size, Cond.methodLink RX9 48 yX6_at, Cond.methodLink RX9 51 yX3_firstWayOn, Cond.instanceMethod yX3_firstWayOn, Cond.selects RX3 yX3_firstWayOn yX3_firstWayOn, Cond.code yX3_firstWayOn cX3_firstWayOn 5 (some .int), Cond.methodLink RX3 96 yX5_isIn, Cond.methodLink RX9 55 yX6_takeLast, Cond.instanceMethod yX6_takeLast, Cond.selects RX6 yX6_takeLast yX6_takeLast, Cond.code yX6_takeLast cX6_takeLast 1 (some .int), Cond.methodLink RX6 37 yX6_takeOut, Cond.methodLink RX10 163 yX9_halfOf, Cond.instanceMethod yX9_halfOf]
def wsX10_judge_r10 : List Cond := [Cond.selects RX9 yX9_halfOf yX9_halfOf, Cond.code yX9_halfOf cX9_halfOf 4 (some .int), Cond.methodLink RX9 61 yX9_orderOf, Cond.instanceMethod yX9_orderOf, Cond.selects RX9 yX9_orderOf yX9_orderOf, Cond.code yX9_orderOf cX9_orderOf 2 (some .int), Cond.methodLink RX9 58 yX6_placeOf, Cond.instanceMethod yX6_placeOf, Cond.selects RX6 yX6_placeOf yX6_placeOf, Cond.code yX6_placeOf cX6_placeOf 3 (some .int), Cond.methodLink RX9 64 yX9_startsOfLateWays, Cond.instanceMethod yX9_startsOfLateWays, Cond.selects RX9 yX9_startsOfLateWays yX9_startsOfLateWays, Cond.code yX9_startsOfLateWays cX9_startsOfLateWays 7 (some .int), Cond.methodLink RX9 71 yX5_column, Cond.methodLink RX9 75 yX5_first, Cond.methodLink RX9 67 yX5_isIn, Cond.methodLink RX10 169 yX2_rimOf, Cond.instanceMethod yX2_rimOf, Cond.selects RX2 yX2_rimOf yX2_rimOf, Cond.code yX2_rimOf cX2_rimOf 5 (some .int), Cond.methodLink RX2 73 yX2_coveredBy]
def wsX10_judge : List Cond := .code yX10_judge cX10_judge 10 (some .int) :: ((wsX10_judge_r1 ++ (wsX10_judge_r2 ++ (wsX10_judge_r3 ++ (wsX10_judge_r4 ++ (wsX10_judge_r5 ++ (wsX10_judge_r6 ++ (wsX10_judge_r7 ++ (wsX10_judge_r8 ++ (wsX10_judge_r9 ++ wsX10_judge_r10))))))))) ++ wsX100 ++ wsX30 ++ wsX60 ++ wsX20 ++ wsX90)
def wsX10_see : List Cond := .code yX10_see cX10_see 4 (some .int) :: ([.fieldLink RX10 42 "CoverOrder" "seen" "LCoverOrder$Row;", .methodLink RX10 231 yX6_isFull, .instanceMethod yX6_isFull, .selects RX6 yX6_isFull yX6_isFull, .initialized RX6, .code yX6_isFull cX6_isFull 1 (some .boolean), .fieldLink RX6 21 "CoverOrder$Row" "size" "I", .fieldLink RX6 15 "CoverOrder$Row" "items" "[I", .methodLink RX10 216 yX6_add, .instanceMethod yX6_add, .selects RX6 yX6_add yX6_add, .code yX6_add cX6_add 2 none, .methodLink RX6 29 yX6_putIn, .instanceMethod yX6_putIn, .selects RX6 yX6_putIn yX6_putIn, .code yX6_putIn cX6_putIn 4 none, .methodLink RX6 33 yX6_isFull, .methodLink RX10 232 yX6_size, .instanceMethod yX6_size, .selects RX6 yX6_size yX6_size, .code yX6_size cX6_size 1 (some .int)] ++ wsX100 ++ wsX60)
def wsX10_unsee : List Cond := .code yX10_unsee cX10_unsee 2 (some .int) :: ([.fieldLink RX10 42 "CoverOrder" "seen" "LCoverOrder$Row;", .methodLink RX10 232 yX6_size, .instanceMethod yX6_size, .selects RX6 yX6_size yX6_size, .initialized RX6, .code yX6_size cX6_size 1 (some .int), .fieldLink RX6 21 "CoverOrder$Row" "size" "I", .methodLink RX10 212 yX6_clear, .instanceMethod yX6_clear, .selects RX6 yX6_clear yX6_clear, .code yX6_clear cX6_clear 1 none] ++ wsX100 ++ wsX60)
def wsX10_isAllSeenIn_r1 : List Cond := [Cond.fieldLink RX10 42 "CoverOrder" "seen" "LCoverOrder$Row;", Cond.methodLink RX10 232 yX6_size, Cond.instanceMethod yX6_size, Cond.selects RX6 yX6_size yX6_size, Cond.initialized RX6, Cond.code yX6_size cX6_size 1 (some .int), Cond.fieldLink RX6 21 "CoverOrder$Row" "size" "I", Cond.methodLink RX10 319 yX6_at, Cond.instanceMethod yX6_at, Cond.selects RX6 yX6_at yX6_at, Cond.code yX6_at cX6_at 2 (some .int), Cond.fieldLink RX6 15 "CoverOrder$Row" "items" "[I", Cond.methodLink RX10 151 yX2_lidOf, Cond.instanceMethod yX2_lidOf, Cond.selects RX2 yX2_lidOf yX2_lidOf, Cond.initialized RX2, Cond.code yX2_lidOf cX2_lidOf 2 (some .int), Cond.methodLink RX2 58 yX2_coverersOf, Cond.instanceMethod yX2_coverersOf, Cond.selects RX2 yX2_coverersOf yX2_coverersOf, Cond.code yX2_coverersOf cX2_coverersOf 2 (some .int), Cond.fieldLink RX2 43 "CoverOrder$Covers" "coverers" "J", Cond.methodLink RX2 55 yX5_line, Cond.static yX5_line]
def wsX10_isAllSeenIn_r2 : List Cond := [Cond.initialized RX5, Cond.code yX5_line cX5_line 3 (some .int), Cond.methodLink RX2 31 yX5_only, Cond.static yX5_only, Cond.code yX5_only cX5_only 1 (some .int), Cond.methodLink RX2 61 yX2_coveredByJust, Cond.instanceMethod yX2_coveredByJust, Cond.selects RX2 yX2_coveredByJust yX2_coveredByJust, Cond.code yX2_coveredByJust cX2_coveredByJust 3 (some .int)]
def wsX10_isAllSeenIn : List Cond := .code yX10_isAllSeenIn cX10_isAllSeenIn 6 (some .boolean) :: ((wsX10_isAllSeenIn_r1 ++ wsX10_isAllSeenIn_r2) ++ wsX100 ++ wsX60 ++ wsX20)
def wsX10_mayBeMissing_r1 : List Cond := [Cond.fieldLink RX10 19 "CoverOrder" "edges" "LCoverOrder$Edges;", Cond.fieldLink RX10 53 "CoverOrder" "trialCovers" "LCoverOrder$Covers;", Cond.methodLink RX10 106 yX3_has, Cond.instanceMethod yX3_has, Cond.selects RX3 yX3_has yX3_has, Cond.initialized RX3, Cond.code yX3_has cX3_has 3 (some .boolean), Cond.methodLink RX3 65 yX3_placeOf, Cond.instanceMethod yX3_placeOf, Cond.selects RX3 yX3_placeOf yX3_placeOf, Cond.code yX3_placeOf cX3_placeOf 4 (some .int), Cond.fieldLink RX3 14 "CoverOrder$Edges" "row" "LCoverOrder$Row;", Cond.methodLink RX3 43 yX6_size, Cond.instanceMethod yX6_size, Cond.selects RX6 yX6_size yX6_size, Cond.initialized RX6, Cond.code yX6_size cX6_size 1 (some .int), Cond.fieldLink RX6 21 "CoverOrder$Row" "size" "I", Cond.methodLink RX3 55 yX6_at, Cond.instanceMethod yX6_at, Cond.selects RX6 yX6_at yX6_at, Cond.code yX6_at cX6_at 2 (some .int), Cond.fieldLink RX6 15 "CoverOrder$Row" "items" "[I", Cond.methodLink RX3 59 yX3_pairOf]
def wsX10_mayBeMissing_r2 : List Cond := [Cond.static yX3_pairOf, Cond.code yX3_pairOf cX3_pairOf 1 (some .int), Cond.methodLink RX3 62 yX3_pair, Cond.static yX3_pair, Cond.code yX3_pair cX3_pair 2 (some .int), Cond.methodLink RX10 178 yX3_grid, Cond.instanceMethod yX3_grid, Cond.selects RX3 yX3_grid yX3_grid, Cond.code yX3_grid cX3_grid 5 (some .long), Cond.methodLink RX3 101 yX5_flipped, Cond.static yX5_flipped, Cond.initialized RX5, Cond.code yX5_flipped cX5_flipped 4 (some .long), Cond.methodLink RX10 182 yX5_flipped, Cond.methodLink RX10 188 yX2_learn, Cond.instanceMethod yX2_learn, Cond.selects RX2 yX2_learn yX2_learn, Cond.initialized RX2, Cond.code yX2_learn cX2_learn 5 none, Cond.fieldLink RX2 9 "CoverOrder$Covers" "grid" "J", Cond.fieldLink RX2 21 "CoverOrder$Covers" "reached" "I", Cond.fieldLink RX2 24 "CoverOrder$Covers" "covered" "J", Cond.fieldLink RX2 43 "CoverOrder$Covers" "coverers" "J", Cond.methodLink RX2 15 yX5_reached]
def wsX10_mayBeMissing_r3 : List Cond := [Cond.static yX5_reached, Cond.code yX5_reached cX5_reached 8 (some .int), Cond.methodLink RX5 29 yX5_only, Cond.static yX5_only, Cond.code yX5_only cX5_only 1 (some .int), Cond.methodLink RX5 39 yX5_first, Cond.static yX5_first, Cond.code yX5_first cX5_first 1 (some .int), Cond.methodLink RX5 9 yJ6_bitCount_0f7a4, Cond.static yJ6_bitCount_0f7a4, Cond.initialized RJ6, Cond.code yJ6_bitCount_0f7a4 cJ6_bitCount_0f7a4 1 (some .int), Cond.constant RJ6 265 (1431655765), Cond.constant RJ6 266 (858993459), Cond.constant RJ6 267 (252645135), Cond.methodLink RX5 19 yX5_line, Cond.static yX5_line, Cond.code yX5_line cX5_line 3 (some .int), Cond.methodLink RX2 27 yX2_isReached, Cond.instanceMethod yX2_isReached, Cond.selects RX2 yX2_isReached yX2_isReached, Cond.code yX2_isReached cX2_isReached 2 (some .boolean), Cond.methodLink RX2 46 yX5_isIn, Cond.static yX5_isIn]
def wsX10_mayBeMissing_r4 : List Cond := [Cond.code yX5_isIn cX5_isIn 2 (some .boolean), Cond.methodLink RX2 31 yX5_only, Cond.methodLink RX2 35 yX5_withLine, Cond.static yX5_withLine, Cond.code yX5_withLine cX5_withLine 5 (some .long), Cond.constantLong RX5 15 (255), Cond.constantLong RX5 17 (-1), Cond.methodLink RX2 39 yX5_turned, Cond.static yX5_turned, Cond.code yX5_turned cX5_turned 5 (some .long), Cond.methodLink RX5 32 yX5_column, Cond.static yX5_column, Cond.code yX5_column cX5_column 5 (some .int), Cond.methodLink RX5 25 yX5_isIn, Cond.methodLink RX5 35 yX5_withLine, Cond.methodLink RX10 315 yX10_isAllSeenIn, Cond.instanceMethod yX10_isAllSeenIn, Cond.selects RX10 yX10_isAllSeenIn yX10_isAllSeenIn, Cond.initialized RX10, Cond.code yX10_isAllSeenIn cX10_isAllSeenIn 6 (some .boolean), Cond.fieldLink RX10 42 "CoverOrder" "seen" "LCoverOrder$Row;", Cond.methodLink RX10 232 yX6_size, Cond.methodLink RX10 319 yX6_at, Cond.methodLink RX10 151 yX2_lidOf]
def wsX10_mayBeMissing_r5 : List Cond := [Cond.instanceMethod yX2_lidOf, Cond.selects RX2 yX2_lidOf yX2_lidOf, Cond.code yX2_lidOf cX2_lidOf 2 (some .int), Cond.methodLink RX2 58 yX2_coverersOf, Cond.instanceMethod yX2_coverersOf, Cond.selects RX2 yX2_coverersOf yX2_coverersOf, Cond.code yX2_coverersOf cX2_coverersOf 2 (some .int), Cond.methodLink RX2 55 yX5_line, Cond.methodLink RX2 61 yX2_coveredByJust, Cond.instanceMethod yX2_coveredByJust, Cond.selects RX2 yX2_coveredByJust yX2_coveredByJust, Cond.code yX2_coveredByJust cX2_coveredByJust 3 (some .int)]
def wsX10_mayBeMissing : List Cond := .code yX10_mayBeMissing cX10_mayBeMissing 3 (some .boolean) :: ((wsX10_mayBeMissing_r1 ++ (wsX10_mayBeMissing_r2 ++ (wsX10_mayBeMissing_r3 ++ (wsX10_mayBeMissing_r4 ++ wsX10_mayBeMissing_r5)))) ++ wsX100 ++ wsX30 ++ wsX60 ++ wsX20)
def wsX10_missing_r1 : List Cond := [Cond.fieldLink RX10 19 "CoverOrder" "edges" "LCoverOrder$Edges;", Cond.methodLink RX10 109 yX3_isFull, Cond.instanceMethod yX3_isFull, Cond.selects RX3 yX3_isFull yX3_isFull, Cond.initialized RX3, Cond.code yX3_isFull cX3_isFull 1 (some .boolean), Cond.fieldLink RX3 14 "CoverOrder$Edges" "row" "LCoverOrder$Row;", Cond.methodLink RX3 47 yX6_isFull, Cond.instanceMethod yX6_isFull, Cond.selects RX6 yX6_isFull yX6_isFull, Cond.initialized RX6, Cond.code yX6_isFull cX6_isFull 1 (some .boolean), Cond.fieldLink RX6 21 "CoverOrder$Row" "size" "I", Cond.fieldLink RX6 15 "CoverOrder$Row" "items" "[I", Cond.methodLink RX10 236 yX10_mayBeMissing, Cond.instanceMethod yX10_mayBeMissing, Cond.selects RX10 yX10_mayBeMissing yX10_mayBeMissing, Cond.initialized RX10, Cond.code yX10_mayBeMissing cX10_mayBeMissing 3 (some .boolean), Cond.fieldLink RX10 53 "CoverOrder" "trialCovers" "LCoverOrder$Covers;", Cond.methodLink RX10 106 yX3_has, Cond.instanceMethod yX3_has, Cond.selects RX3 yX3_has yX3_has, Cond.code yX3_has cX3_has 3 (some .boolean)]
def wsX10_missing_r2 : List Cond := [Cond.methodLink RX3 65 yX3_placeOf, Cond.instanceMethod yX3_placeOf, Cond.selects RX3 yX3_placeOf yX3_placeOf, Cond.code yX3_placeOf cX3_placeOf 4 (some .int), Cond.methodLink RX3 43 yX6_size, Cond.instanceMethod yX6_size, Cond.selects RX6 yX6_size yX6_size, Cond.code yX6_size cX6_size 1 (some .int), Cond.methodLink RX3 55 yX6_at, Cond.instanceMethod yX6_at, Cond.selects RX6 yX6_at yX6_at, Cond.code yX6_at cX6_at 2 (some .int), Cond.methodLink RX3 59 yX3_pairOf, Cond.static yX3_pairOf, Cond.code yX3_pairOf cX3_pairOf 1 (some .int), Cond.methodLink RX3 62 yX3_pair, Cond.static yX3_pair, Cond.code yX3_pair cX3_pair 2 (some .int), Cond.methodLink RX10 178 yX3_grid, Cond.instanceMethod yX3_grid, Cond.selects RX3 yX3_grid yX3_grid, Cond.code yX3_grid cX3_grid 5 (some .long), Cond.methodLink RX3 101 yX5_flipped, Cond.static yX5_flipped]
def wsX10_missing_r3 : List Cond := [Cond.initialized RX5, Cond.code yX5_flipped cX5_flipped 4 (some .long), Cond.methodLink RX10 182 yX5_flipped, Cond.methodLink RX10 188 yX2_learn, Cond.instanceMethod yX2_learn, Cond.selects RX2 yX2_learn yX2_learn, Cond.initialized RX2, Cond.code yX2_learn cX2_learn 5 none, Cond.fieldLink RX2 9 "CoverOrder$Covers" "grid" "J", Cond.fieldLink RX2 21 "CoverOrder$Covers" "reached" "I", Cond.fieldLink RX2 24 "CoverOrder$Covers" "covered" "J", Cond.fieldLink RX2 43 "CoverOrder$Covers" "coverers" "J", Cond.methodLink RX2 15 yX5_reached, Cond.static yX5_reached, Cond.code yX5_reached cX5_reached 8 (some .int), Cond.methodLink RX5 29 yX5_only, Cond.static yX5_only, Cond.code yX5_only cX5_only 1 (some .int), Cond.methodLink RX5 39 yX5_first, Cond.static yX5_first, Cond.code yX5_first cX5_first 1 (some .int), Cond.methodLink RX5 9 yJ6_bitCount_0f7a4, Cond.static yJ6_bitCount_0f7a4, Cond.initialized RJ6]
def wsX10_missing_r4 : List Cond := [Cond.code yJ6_bitCount_0f7a4 cJ6_bitCount_0f7a4 1 (some .int), Cond.constant RJ6 265 (1431655765), Cond.constant RJ6 266 (858993459), Cond.constant RJ6 267 (252645135), Cond.methodLink RX5 19 yX5_line, Cond.static yX5_line, Cond.code yX5_line cX5_line 3 (some .int), Cond.methodLink RX2 27 yX2_isReached, Cond.instanceMethod yX2_isReached, Cond.selects RX2 yX2_isReached yX2_isReached, Cond.code yX2_isReached cX2_isReached 2 (some .boolean), Cond.methodLink RX2 46 yX5_isIn, Cond.static yX5_isIn, Cond.code yX5_isIn cX5_isIn 2 (some .boolean), Cond.methodLink RX2 31 yX5_only, Cond.methodLink RX2 35 yX5_withLine, Cond.static yX5_withLine, Cond.code yX5_withLine cX5_withLine 5 (some .long), Cond.constantLong RX5 15 (255), Cond.constantLong RX5 17 (-1), Cond.methodLink RX2 39 yX5_turned, Cond.static yX5_turned, Cond.code yX5_turned cX5_turned 5 (some .long), Cond.methodLink RX5 32 yX5_column]
def wsX10_missing_r5 : List Cond := [Cond.static yX5_column, Cond.code yX5_column cX5_column 5 (some .int), Cond.methodLink RX5 25 yX5_isIn, Cond.methodLink RX5 35 yX5_withLine, Cond.methodLink RX10 315 yX10_isAllSeenIn, Cond.instanceMethod yX10_isAllSeenIn, Cond.selects RX10 yX10_isAllSeenIn yX10_isAllSeenIn, Cond.code yX10_isAllSeenIn cX10_isAllSeenIn 6 (some .boolean), Cond.fieldLink RX10 42 "CoverOrder" "seen" "LCoverOrder$Row;", Cond.methodLink RX10 232 yX6_size, Cond.methodLink RX10 319 yX6_at, Cond.methodLink RX10 151 yX2_lidOf, Cond.instanceMethod yX2_lidOf, Cond.selects RX2 yX2_lidOf yX2_lidOf, Cond.code yX2_lidOf cX2_lidOf 2 (some .int), Cond.methodLink RX2 58 yX2_coverersOf, Cond.instanceMethod yX2_coverersOf, Cond.selects RX2 yX2_coverersOf yX2_coverersOf, Cond.code yX2_coverersOf cX2_coverersOf 2 (some .int), Cond.methodLink RX2 55 yX5_line, Cond.methodLink RX2 61 yX2_coveredByJust, Cond.instanceMethod yX2_coveredByJust, Cond.selects RX2 yX2_coveredByJust yX2_coveredByJust, Cond.code yX2_coveredByJust cX2_coveredByJust 3 (some .int)]
def wsX10_missing_r6 : List Cond := [Cond.methodLink RX10 239 yX3_pair]
def wsX10_missing : List Cond := .code yX10_missing cX10_missing 6 (some .int) :: ((wsX10_missing_r1 ++ (wsX10_missing_r2 ++ (wsX10_missing_r3 ++ (wsX10_missing_r4 ++ (wsX10_missing_r5 ++ wsX10_missing_r6))))) ++ wsX100 ++ wsX30 ++ wsX60 ++ wsX20)
def wsX10_share_r1 : List Cond := [Cond.fieldLink RX10 19 "CoverOrder" "edges" "LCoverOrder$Edges;", Cond.methodLink RX10 102 yX3_areKnots, Cond.instanceMethod yX3_areKnots, Cond.selects RX3 yX3_areKnots yX3_areKnots, Cond.initialized RX3, Cond.code yX3_areKnots cX3_areKnots 3 (some .boolean), Cond.methodLink RX3 51 yX3_isKnot, Cond.instanceMethod yX3_isKnot, Cond.selects RX3 yX3_isKnot yX3_isKnot, Cond.code yX3_isKnot cX3_isKnot 2 (some .boolean), Cond.fieldLink RX3 20 "CoverOrder$Edges" "knots" "I", Cond.methodLink RX10 106 yX3_has, Cond.instanceMethod yX3_has, Cond.selects RX3 yX3_has yX3_has, Cond.code yX3_has cX3_has 3 (some .boolean), Cond.methodLink RX3 65 yX3_placeOf, Cond.instanceMethod yX3_placeOf, Cond.selects RX3 yX3_placeOf yX3_placeOf, Cond.code yX3_placeOf cX3_placeOf 4 (some .int), Cond.fieldLink RX3 14 "CoverOrder$Edges" "row" "LCoverOrder$Row;", Cond.methodLink RX3 43 yX6_size, Cond.instanceMethod yX6_size, Cond.selects RX6 yX6_size yX6_size, Cond.initialized RX6]
def wsX10_share_r2 : List Cond := [Cond.code yX6_size cX6_size 1 (some .int), Cond.fieldLink RX6 21 "CoverOrder$Row" "size" "I", Cond.methodLink RX3 55 yX6_at, Cond.instanceMethod yX6_at, Cond.selects RX6 yX6_at yX6_at, Cond.code yX6_at cX6_at 2 (some .int), Cond.fieldLink RX6 15 "CoverOrder$Row" "items" "[I", Cond.methodLink RX3 59 yX3_pairOf, Cond.static yX3_pairOf, Cond.code yX3_pairOf cX3_pairOf 1 (some .int), Cond.methodLink RX3 62 yX3_pair, Cond.static yX3_pair, Cond.code yX3_pair cX3_pair 2 (some .int), Cond.methodLink RX10 178 yX3_grid, Cond.instanceMethod yX3_grid, Cond.selects RX3 yX3_grid yX3_grid, Cond.code yX3_grid cX3_grid 5 (some .long), Cond.methodLink RX3 101 yX5_flipped, Cond.static yX5_flipped, Cond.initialized RX5, Cond.code yX5_flipped cX5_flipped 4 (some .long), Cond.methodLink RX10 242 yX1_gainInAllOrders, Cond.static yX1_gainInAllOrders, Cond.initialized RX1]
def wsX10_share_r3 : List Cond := [Cond.code yX1_gainInAllOrders cX1_gainInAllOrders 11 (some .int), Cond.methodLink RX1 9 yX5_line, Cond.static yX5_line, Cond.code yX5_line cX5_line 3 (some .int), Cond.methodLink RX1 15 yX5_only, Cond.static yX5_only, Cond.code yX5_only cX5_only 1 (some .int), Cond.methodLink RX1 19 yX1_countReached, Cond.static yX1_countReached, Cond.code yX1_countReached cX1_countReached 4 (some .int), Cond.methodLink RX1 37 yX5_withLine, Cond.static yX5_withLine, Cond.code yX5_withLine cX5_withLine 5 (some .long), Cond.constantLong RX5 15 (255), Cond.constantLong RX5 17 (-1), Cond.methodLink RX1 41 yX5_reached, Cond.static yX5_reached, Cond.code yX5_reached cX5_reached 8 (some .int), Cond.methodLink RX5 29 yX5_only, Cond.methodLink RX5 39 yX5_first, Cond.static yX5_first, Cond.code yX5_first cX5_first 1 (some .int), Cond.methodLink RX5 9 yJ6_bitCount_0f7a4, Cond.static yJ6_bitCount_0f7a4]
def wsX10_share_r4 : List Cond := [Cond.initialized RJ6, Cond.code yJ6_bitCount_0f7a4 cJ6_bitCount_0f7a4 1 (some .int), Cond.constant RJ6 265 (1431655765), Cond.constant RJ6 266 (858993459), Cond.constant RJ6 267 (252645135), Cond.methodLink RX5 19 yX5_line, Cond.methodLink RX1 25 yJ6_bitCount_0f7a4, Cond.methodLink RX1 30 yX1_factorial, Cond.static yX1_factorial, Cond.code yX1_factorial cX1_factorial 3 (some .int), Cond.methodLink RX10 247 yX5_line, Cond.methodLink RX10 251 yJ6_bitCount_0f7a4, Cond.methodLink RX10 256 yX1_factorial, Cond.methodLink RX10 259 yX1_inLeastTerms, Cond.static yX1_inLeastTerms, Cond.code yX1_inLeastTerms cX1_inLeastTerms 5 (some .int), Cond.methodLink RX1 44 yX1_greatestDivisor, Cond.static yX1_greatestDivisor, Cond.code yX1_greatestDivisor cX1_greatestDivisor 6 (some .int)]
def wsX10_share : List Cond := .code yX10_share cX10_share 8 (some .int) :: ((wsX10_share_r1 ++ (wsX10_share_r2 ++ (wsX10_share_r3 ++ wsX10_share_r4))) ++ wsX100 ++ wsX30 ++ wsX60)
def wsX10_spared_r1 : List Cond := [Cond.fieldLink RX10 19 "CoverOrder" "edges" "LCoverOrder$Edges;", Cond.methodLink RX10 141 yX3_isKnot, Cond.instanceMethod yX3_isKnot, Cond.selects RX3 yX3_isKnot yX3_isKnot, Cond.initialized RX3, Cond.code yX3_isKnot cX3_isKnot 2 (some .boolean), Cond.fieldLink RX3 20 "CoverOrder$Edges" "knots" "I", Cond.methodLink RX10 178 yX3_grid, Cond.instanceMethod yX3_grid, Cond.selects RX3 yX3_grid yX3_grid, Cond.code yX3_grid cX3_grid 5 (some .long), Cond.fieldLink RX3 14 "CoverOrder$Edges" "row" "LCoverOrder$Row;", Cond.methodLink RX3 43 yX6_size, Cond.instanceMethod yX6_size, Cond.selects RX6 yX6_size yX6_size, Cond.initialized RX6, Cond.code yX6_size cX6_size 1 (some .int), Cond.fieldLink RX6 21 "CoverOrder$Row" "size" "I", Cond.methodLink RX3 55 yX6_at, Cond.instanceMethod yX6_at, Cond.selects RX6 yX6_at yX6_at, Cond.code yX6_at cX6_at 2 (some .int), Cond.fieldLink RX6 15 "CoverOrder$Row" "items" "[I", Cond.methodLink RX3 59 yX3_pairOf]
def wsX10_spared_r2 : List Cond := [Cond.static yX3_pairOf, Cond.code yX3_pairOf cX3_pairOf 1 (some .int), Cond.methodLink RX3 101 yX5_flipped, Cond.static yX5_flipped, Cond.initialized RX5, Cond.code yX5_flipped cX5_flipped 4 (some .long), Cond.methodLink RX10 263 yX1_weightOfReaching, Cond.static yX1_weightOfReaching, Cond.initialized RX1, Cond.code yX1_weightOfReaching cX1_weightOfReaching 8 (some .int), Cond.methodLink RX1 9 yX5_line, Cond.static yX5_line, Cond.code yX5_line cX5_line 3 (some .int), Cond.methodLink RX1 19 yX1_countReached, Cond.static yX1_countReached, Cond.code yX1_countReached cX1_countReached 4 (some .int), Cond.methodLink RX1 37 yX5_withLine, Cond.static yX5_withLine, Cond.code yX5_withLine cX5_withLine 5 (some .long), Cond.constantLong RX5 15 (255), Cond.constantLong RX5 17 (-1), Cond.methodLink RX1 41 yX5_reached, Cond.static yX5_reached, Cond.code yX5_reached cX5_reached 8 (some .int)]
def wsX10_spared_r3 : List Cond := [Cond.methodLink RX5 29 yX5_only, Cond.static yX5_only, Cond.code yX5_only cX5_only 1 (some .int), Cond.methodLink RX5 39 yX5_first, Cond.static yX5_first, Cond.code yX5_first cX5_first 1 (some .int), Cond.methodLink RX5 9 yJ6_bitCount_0f7a4, Cond.static yJ6_bitCount_0f7a4, Cond.initialized RJ6, Cond.code yJ6_bitCount_0f7a4 cJ6_bitCount_0f7a4 1 (some .int), Cond.constant RJ6 265 (1431655765), Cond.constant RJ6 266 (858993459), Cond.constant RJ6 267 (252645135), Cond.methodLink RX5 19 yX5_line, Cond.methodLink RX1 25 yJ6_bitCount_0f7a4, Cond.methodLink RX1 33 yX1_power, Cond.static yX1_power, Cond.code yX1_power cX1_power 4 (some .int), Cond.methodLink RX10 247 yX5_line, Cond.methodLink RX10 251 yJ6_bitCount_0f7a4, Cond.methodLink RX10 267 yX1_power, Cond.methodLink RX10 259 yX1_inLeastTerms, Cond.static yX1_inLeastTerms, Cond.code yX1_inLeastTerms cX1_inLeastTerms 5 (some .int)]
def wsX10_spared_r4 : List Cond := [Cond.methodLink RX1 44 yX1_greatestDivisor, Cond.static yX1_greatestDivisor, Cond.code yX1_greatestDivisor cX1_greatestDivisor 6 (some .int)]
def wsX10_spared : List Cond := .code yX10_spared cX10_spared 9 (some .int) :: ((wsX10_spared_r1 ++ (wsX10_spared_r2 ++ (wsX10_spared_r3 ++ wsX10_spared_r4))) ++ wsX100 ++ wsX30 ++ wsX60)
def wsX10_seed : List Cond := .code yX10_seed cX10_seed 5 (some .long) :: ([.fieldLink RX10 270 "CoverOrder" "theSeed" "J"] ++ wsX100)
def wsX10_drawn_r1 : List Cond := [Cond.fieldLink RX10 23 "CoverOrder" "trial" "LCoverOrder$Edges;", Cond.fieldLink RX10 19 "CoverOrder" "edges" "LCoverOrder$Edges;", Cond.fieldLink RX10 270 "CoverOrder" "theSeed" "J", Cond.constantLong RX10 274 (6364136223846793005), Cond.constantLong RX10 276 (1442695040888963407), Cond.fieldLink RX10 53 "CoverOrder" "trialCovers" "LCoverOrder$Covers;", Cond.methodLink RX10 224 yX3_copy, Cond.instanceMethod yX3_copy, Cond.selects RX3 yX3_copy yX3_copy, Cond.initialized RX3, Cond.code yX3_copy cX3_copy 2 none, Cond.fieldLink RX3 20 "CoverOrder$Edges" "knots" "I", Cond.fieldLink RX3 14 "CoverOrder$Edges" "row" "LCoverOrder$Row;", Cond.fieldLink RX3 24 "CoverOrder$Edges" "nextStamp" "I", Cond.methodLink RX3 39 yX6_copy, Cond.instanceMethod yX6_copy, Cond.selects RX6 yX6_copy yX6_copy, Cond.initialized RX6, Cond.code yX6_copy cX6_copy 3 none, Cond.fieldLink RX6 21 "CoverOrder$Row" "size" "I", Cond.methodLink RX6 40 yX6_clear, Cond.instanceMethod yX6_clear, Cond.selects RX6 yX6_clear yX6_clear, Cond.code yX6_clear cX6_clear 1 none]
def wsX10_drawn_r2 : List Cond := [Cond.methodLink RX6 25 yX6_at, Cond.instanceMethod yX6_at, Cond.selects RX6 yX6_at yX6_at, Cond.code yX6_at cX6_at 2 (some .int), Cond.fieldLink RX6 15 "CoverOrder$Row" "items" "[I", Cond.methodLink RX6 43 yX6_add, Cond.instanceMethod yX6_add, Cond.selects RX6 yX6_add yX6_add, Cond.code yX6_add cX6_add 2 none, Cond.methodLink RX6 29 yX6_putIn, Cond.instanceMethod yX6_putIn, Cond.selects RX6 yX6_putIn yX6_putIn, Cond.code yX6_putIn cX6_putIn 4 none, Cond.methodLink RX6 33 yX6_isFull, Cond.instanceMethod yX6_isFull, Cond.selects RX6 yX6_isFull yX6_isFull, Cond.code yX6_isFull cX6_isFull 1 (some .boolean), Cond.methodLink RX10 278 yX3_turnDrawn, Cond.instanceMethod yX3_turnDrawn, Cond.selects RX3 yX3_turnDrawn yX3_turnDrawn, Cond.code yX3_turnDrawn cX3_turnDrawn 4 none, Cond.methodLink RX3 90 yX3_deleteIfItIsThere, Cond.instanceMethod yX3_deleteIfItIsThere, Cond.selects RX3 yX3_deleteIfItIsThere yX3_deleteIfItIsThere]
def wsX10_drawn_r3 : List Cond := [Cond.code yX3_deleteIfItIsThere cX3_deleteIfItIsThere 4 (some .boolean), Cond.methodLink RX3 81 yX3_has, Cond.instanceMethod yX3_has, Cond.selects RX3 yX3_has yX3_has, Cond.code yX3_has cX3_has 3 (some .boolean), Cond.methodLink RX3 65 yX3_placeOf, Cond.instanceMethod yX3_placeOf, Cond.selects RX3 yX3_placeOf yX3_placeOf, Cond.code yX3_placeOf cX3_placeOf 4 (some .int), Cond.methodLink RX3 43 yX6_size, Cond.instanceMethod yX6_size, Cond.selects RX6 yX6_size yX6_size, Cond.code yX6_size cX6_size 1 (some .int), Cond.methodLink RX3 55 yX6_at, Cond.methodLink RX3 59 yX3_pairOf, Cond.static yX3_pairOf, Cond.code yX3_pairOf cX3_pairOf 1 (some .int), Cond.methodLink RX3 62 yX3_pair, Cond.static yX3_pair, Cond.code yX3_pair cX3_pair 2 (some .int), Cond.methodLink RX3 89 yX3_takeOut, Cond.instanceMethod yX3_takeOut, Cond.selects RX3 yX3_takeOut yX3_takeOut, Cond.code yX3_takeOut cX3_takeOut 2 (some .int)]
def wsX10_drawn_r4 : List Cond := [Cond.methodLink RX3 71 yX6_takeOut, Cond.instanceMethod yX6_takeOut, Cond.selects RX6 yX6_takeOut yX6_takeOut, Cond.code yX6_takeOut cX6_takeOut 4 (some .int), Cond.methodLink RX3 93 yX3_insertIfItCanBe, Cond.instanceMethod yX3_insertIfItCanBe, Cond.selects RX3 yX3_insertIfItCanBe yX3_insertIfItCanBe, Cond.code yX3_insertIfItCanBe cX3_insertIfItCanBe 4 (some .boolean), Cond.methodLink RX3 85 yX3_isFull, Cond.instanceMethod yX3_isFull, Cond.selects RX3 yX3_isFull yX3_isFull, Cond.code yX3_isFull cX3_isFull 1 (some .boolean), Cond.methodLink RX3 47 yX6_isFull, Cond.methodLink RX3 86 yX3_append, Cond.instanceMethod yX3_append, Cond.selects RX3 yX3_append yX3_append, Cond.code yX3_append cX3_append 4 (some .int), Cond.methodLink RX3 68 yX6_add, Cond.methodLink RX10 178 yX3_grid, Cond.instanceMethod yX3_grid, Cond.selects RX3 yX3_grid yX3_grid, Cond.code yX3_grid cX3_grid 5 (some .long), Cond.methodLink RX3 101 yX5_flipped, Cond.static yX5_flipped]
def wsX10_drawn_r5 : List Cond := [Cond.initialized RX5, Cond.code yX5_flipped cX5_flipped 4 (some .long), Cond.methodLink RX10 188 yX2_learn, Cond.instanceMethod yX2_learn, Cond.selects RX2 yX2_learn yX2_learn, Cond.initialized RX2, Cond.code yX2_learn cX2_learn 5 none, Cond.fieldLink RX2 9 "CoverOrder$Covers" "grid" "J", Cond.fieldLink RX2 21 "CoverOrder$Covers" "reached" "I", Cond.fieldLink RX2 24 "CoverOrder$Covers" "covered" "J", Cond.fieldLink RX2 43 "CoverOrder$Covers" "coverers" "J", Cond.methodLink RX2 15 yX5_reached, Cond.static yX5_reached, Cond.code yX5_reached cX5_reached 8 (some .int), Cond.methodLink RX5 29 yX5_only, Cond.static yX5_only, Cond.code yX5_only cX5_only 1 (some .int), Cond.methodLink RX5 39 yX5_first, Cond.static yX5_first, Cond.code yX5_first cX5_first 1 (some .int), Cond.methodLink RX5 9 yJ6_bitCount_0f7a4, Cond.static yJ6_bitCount_0f7a4, Cond.initialized RJ6, Cond.code yJ6_bitCount_0f7a4 cJ6_bitCount_0f7a4 1 (some .int)]
def wsX10_drawn_r6 : List Cond := [Cond.constant RJ6 265 (1431655765), Cond.constant RJ6 266 (858993459), Cond.constant RJ6 267 (252645135), Cond.methodLink RX5 19 yX5_line, Cond.static yX5_line, Cond.code yX5_line cX5_line 3 (some .int), Cond.methodLink RX2 27 yX2_isReached, Cond.instanceMethod yX2_isReached, Cond.selects RX2 yX2_isReached yX2_isReached, Cond.code yX2_isReached cX2_isReached 2 (some .boolean), Cond.methodLink RX2 46 yX5_isIn, Cond.static yX5_isIn, Cond.code yX5_isIn cX5_isIn 2 (some .boolean), Cond.methodLink RX2 31 yX5_only, Cond.methodLink RX2 35 yX5_withLine, Cond.static yX5_withLine, Cond.code yX5_withLine cX5_withLine 5 (some .long), Cond.constantLong RX5 15 (255), Cond.constantLong RX5 17 (-1), Cond.methodLink RX2 39 yX5_turned, Cond.static yX5_turned, Cond.code yX5_turned cX5_turned 5 (some .long), Cond.methodLink RX5 32 yX5_column, Cond.static yX5_column]
def wsX10_drawn_r7 : List Cond := [Cond.code yX5_column cX5_column 5 (some .int), Cond.methodLink RX5 25 yX5_isIn, Cond.methodLink RX5 35 yX5_withLine, Cond.methodLink RX10 281 yX2_depthSum, Cond.instanceMethod yX2_depthSum, Cond.selects RX2 yX2_depthSum yX2_depthSum, Cond.code yX2_depthSum cX2_depthSum 3 (some .int), Cond.methodLink RX2 67 Lib.Math.max.name, Cond.static Lib.Math.max.name, Cond.initialized "java/lang/Math", Cond.code Lib.Math.max.name Lib.Math.max.code 2 (some .int), Cond.methodLink RX2 64 yX2_depthOf, Cond.instanceMethod yX2_depthOf, Cond.selects RX2 yX2_depthOf yX2_depthOf, Cond.code yX2_depthOf cX2_depthOf 2 (some .int), Cond.methodLink RX2 58 yX2_coverersOf, Cond.instanceMethod yX2_coverersOf, Cond.selects RX2 yX2_coverersOf yX2_coverersOf, Cond.code yX2_coverersOf cX2_coverersOf 2 (some .int), Cond.methodLink RX2 55 yX5_line, Cond.methodLink RX2 50 yJ6_bitCount_0f7a4]
def wsX10_drawn : List Cond := .code yX10_drawn cX10_drawn 4 (some .int) :: ((wsX10_drawn_r1 ++ (wsX10_drawn_r2 ++ (wsX10_drawn_r3 ++ (wsX10_drawn_r4 ++ (wsX10_drawn_r5 ++ (wsX10_drawn_r6 ++ wsX10_drawn_r7)))))) ++ wsX100 ++ wsX30 ++ wsX60 ++ wsX20)
def wsX10_slotAt : List Cond := .code yX10_slotAt cX10_slotAt 2 (some (.object "CoverOrder$Edges")) :: ([.fieldLink RX10 33 "CoverOrder" "slots" "[LCoverOrder$Edges;"] ++ wsX100)
def wsX10_keep_r1 : List Cond := [Cond.fieldLink RX10 19 "CoverOrder" "edges" "LCoverOrder$Edges;", Cond.fieldLink RX10 95 "CoverOrder" "keptSlots" "I", Cond.methodLink RX10 284 yX10_slotAt, Cond.instanceMethod yX10_slotAt, Cond.selects RX10 yX10_slotAt yX10_slotAt, Cond.initialized RX10, Cond.code yX10_slotAt cX10_slotAt 2 (some (.object "CoverOrder$Edges")), Cond.fieldLink RX10 33 "CoverOrder" "slots" "[LCoverOrder$Edges;", Cond.methodLink RX10 224 yX3_copy, Cond.instanceMethod yX3_copy, Cond.selects RX3 yX3_copy yX3_copy, Cond.initialized RX3, Cond.code yX3_copy cX3_copy 2 none, Cond.fieldLink RX3 20 "CoverOrder$Edges" "knots" "I", Cond.fieldLink RX3 14 "CoverOrder$Edges" "row" "LCoverOrder$Row;", Cond.fieldLink RX3 24 "CoverOrder$Edges" "nextStamp" "I", Cond.methodLink RX3 39 yX6_copy, Cond.instanceMethod yX6_copy, Cond.selects RX6 yX6_copy yX6_copy, Cond.initialized RX6, Cond.code yX6_copy cX6_copy 3 none, Cond.fieldLink RX6 21 "CoverOrder$Row" "size" "I", Cond.methodLink RX6 40 yX6_clear, Cond.instanceMethod yX6_clear]
def wsX10_keep_r2 : List Cond := [Cond.selects RX6 yX6_clear yX6_clear, Cond.code yX6_clear cX6_clear 1 none, Cond.methodLink RX6 25 yX6_at, Cond.instanceMethod yX6_at, Cond.selects RX6 yX6_at yX6_at, Cond.code yX6_at cX6_at 2 (some .int), Cond.fieldLink RX6 15 "CoverOrder$Row" "items" "[I", Cond.methodLink RX6 43 yX6_add, Cond.instanceMethod yX6_add, Cond.selects RX6 yX6_add yX6_add, Cond.code yX6_add cX6_add 2 none, Cond.methodLink RX6 29 yX6_putIn, Cond.instanceMethod yX6_putIn, Cond.selects RX6 yX6_putIn yX6_putIn, Cond.code yX6_putIn cX6_putIn 4 none, Cond.methodLink RX6 33 yX6_isFull, Cond.instanceMethod yX6_isFull, Cond.selects RX6 yX6_isFull yX6_isFull, Cond.code yX6_isFull cX6_isFull 1 (some .boolean), Cond.methodLink RX10 288 yX5_only, Cond.static yX5_only, Cond.initialized RX5, Cond.code yX5_only cX5_only 1 (some .int), Cond.methodLink RX10 99 yX3_size]
def wsX10_keep_r3 : List Cond := [Cond.instanceMethod yX3_size, Cond.selects RX3 yX3_size yX3_size, Cond.code yX3_size cX3_size 1 (some .int), Cond.methodLink RX3 43 yX6_size, Cond.instanceMethod yX6_size, Cond.selects RX6 yX6_size yX6_size, Cond.code yX6_size cX6_size 1 (some .int)]
def wsX10_keep : List Cond := .code yX10_keep cX10_keep 3 (some .int) :: ((wsX10_keep_r1 ++ (wsX10_keep_r2 ++ wsX10_keep_r3)) ++ wsX100 ++ wsX30 ++ wsX60)
def wsX10_again_r1 : List Cond := [Cond.fieldLink RX10 95 "CoverOrder" "keptSlots" "I", Cond.fieldLink RX10 19 "CoverOrder" "edges" "LCoverOrder$Edges;", Cond.fieldLink RX10 29 "CoverOrder" "acts" "LCoverOrder$Acts;", Cond.methodLink RX10 284 yX10_slotAt, Cond.instanceMethod yX10_slotAt, Cond.selects RX10 yX10_slotAt yX10_slotAt, Cond.initialized RX10, Cond.code yX10_slotAt cX10_slotAt 2 (some (.object "CoverOrder$Edges")), Cond.fieldLink RX10 33 "CoverOrder" "slots" "[LCoverOrder$Edges;", Cond.methodLink RX10 291 yX5_isIn, Cond.static yX5_isIn, Cond.initialized RX5, Cond.code yX5_isIn cX5_isIn 2 (some .boolean), Cond.methodLink RX10 224 yX3_copy, Cond.instanceMethod yX3_copy, Cond.selects RX3 yX3_copy yX3_copy, Cond.initialized RX3, Cond.code yX3_copy cX3_copy 2 none, Cond.fieldLink RX3 20 "CoverOrder$Edges" "knots" "I", Cond.fieldLink RX3 14 "CoverOrder$Edges" "row" "LCoverOrder$Row;", Cond.fieldLink RX3 24 "CoverOrder$Edges" "nextStamp" "I", Cond.methodLink RX3 39 yX6_copy, Cond.instanceMethod yX6_copy, Cond.selects RX6 yX6_copy yX6_copy]
def wsX10_again_r2 : List Cond := [Cond.initialized RX6, Cond.code yX6_copy cX6_copy 3 none, Cond.fieldLink RX6 21 "CoverOrder$Row" "size" "I", Cond.methodLink RX6 40 yX6_clear, Cond.instanceMethod yX6_clear, Cond.selects RX6 yX6_clear yX6_clear, Cond.code yX6_clear cX6_clear 1 none, Cond.methodLink RX6 25 yX6_at, Cond.instanceMethod yX6_at, Cond.selects RX6 yX6_at yX6_at, Cond.code yX6_at cX6_at 2 (some .int), Cond.fieldLink RX6 15 "CoverOrder$Row" "items" "[I", Cond.methodLink RX6 43 yX6_add, Cond.instanceMethod yX6_add, Cond.selects RX6 yX6_add yX6_add, Cond.code yX6_add cX6_add 2 none, Cond.methodLink RX6 29 yX6_putIn, Cond.instanceMethod yX6_putIn, Cond.selects RX6 yX6_putIn yX6_putIn, Cond.code yX6_putIn cX6_putIn 4 none, Cond.methodLink RX6 33 yX6_isFull, Cond.instanceMethod yX6_isFull, Cond.selects RX6 yX6_isFull yX6_isFull, Cond.code yX6_isFull cX6_isFull 1 (some .boolean)]
def wsX10_again_r3 : List Cond := [Cond.methodLink RX10 94 yX0_clear, Cond.instanceMethod yX0_clear, Cond.selects RX0 yX0_clear yX0_clear, Cond.initialized RX0, Cond.code yX0_clear cX0_clear 1 none, Cond.fieldLink RX0 14 "CoverOrder$Acts" "deleted" "LCoverOrder$Row;", Cond.fieldLink RX0 20 "CoverOrder$Acts" "places" "LCoverOrder$Row;", Cond.methodLink RX0 27 yX6_clear, Cond.methodLink RX10 99 yX3_size, Cond.instanceMethod yX3_size, Cond.selects RX3 yX3_size yX3_size, Cond.code yX3_size cX3_size 1 (some .int), Cond.methodLink RX3 43 yX6_size, Cond.instanceMethod yX6_size, Cond.selects RX6 yX6_size yX6_size, Cond.code yX6_size cX6_size 1 (some .int)]
def wsX10_again : List Cond := .code yX10_again cX10_again 3 (some .int) :: ((wsX10_again_r1 ++ (wsX10_again_r2 ++ wsX10_again_r3)) ++ wsX100 ++ wsX30 ++ wsX60 ++ wsX00)
def wsX10_countCovers_r1 : List Cond := [Cond.fieldLink RX10 49 "CoverOrder" "covers" "LCoverOrder$Covers;", Cond.fieldLink RX10 19 "CoverOrder" "edges" "LCoverOrder$Edges;", Cond.methodLink RX10 145 yX10_learnCovers, Cond.instanceMethod yX10_learnCovers, Cond.selects RX10 yX10_learnCovers yX10_learnCovers, Cond.initialized RX10, Cond.code yX10_learnCovers cX10_learnCovers 1 none, Cond.methodLink RX10 178 yX3_grid, Cond.instanceMethod yX3_grid, Cond.selects RX3 yX3_grid yX3_grid, Cond.initialized RX3, Cond.code yX3_grid cX3_grid 5 (some .long), Cond.fieldLink RX3 14 "CoverOrder$Edges" "row" "LCoverOrder$Row;", Cond.methodLink RX3 43 yX6_size, Cond.instanceMethod yX6_size, Cond.selects RX6 yX6_size yX6_size, Cond.initialized RX6, Cond.code yX6_size cX6_size 1 (some .int), Cond.fieldLink RX6 21 "CoverOrder$Row" "size" "I", Cond.methodLink RX3 55 yX6_at, Cond.instanceMethod yX6_at, Cond.selects RX6 yX6_at yX6_at, Cond.code yX6_at cX6_at 2 (some .int), Cond.fieldLink RX6 15 "CoverOrder$Row" "items" "[I"]
def wsX10_countCovers_r2 : List Cond := [Cond.methodLink RX3 59 yX3_pairOf, Cond.static yX3_pairOf, Cond.code yX3_pairOf cX3_pairOf 1 (some .int), Cond.methodLink RX3 101 yX5_flipped, Cond.static yX5_flipped, Cond.initialized RX5, Cond.code yX5_flipped cX5_flipped 4 (some .long), Cond.methodLink RX10 188 yX2_learn, Cond.instanceMethod yX2_learn, Cond.selects RX2 yX2_learn yX2_learn, Cond.initialized RX2, Cond.code yX2_learn cX2_learn 5 none, Cond.fieldLink RX2 9 "CoverOrder$Covers" "grid" "J", Cond.fieldLink RX2 21 "CoverOrder$Covers" "reached" "I", Cond.fieldLink RX2 24 "CoverOrder$Covers" "covered" "J", Cond.fieldLink RX2 43 "CoverOrder$Covers" "coverers" "J", Cond.methodLink RX2 15 yX5_reached, Cond.static yX5_reached, Cond.code yX5_reached cX5_reached 8 (some .int), Cond.methodLink RX5 29 yX5_only, Cond.static yX5_only, Cond.code yX5_only cX5_only 1 (some .int), Cond.methodLink RX5 39 yX5_first, Cond.static yX5_first]
def wsX10_countCovers_r3 : List Cond := [Cond.code yX5_first cX5_first 1 (some .int), Cond.methodLink RX5 9 yJ6_bitCount_0f7a4, Cond.static yJ6_bitCount_0f7a4, Cond.initialized RJ6, Cond.code yJ6_bitCount_0f7a4 cJ6_bitCount_0f7a4 1 (some .int), Cond.constant RJ6 265 (1431655765), Cond.constant RJ6 266 (858993459), Cond.constant RJ6 267 (252645135), Cond.methodLink RX5 19 yX5_line, Cond.static yX5_line, Cond.code yX5_line cX5_line 3 (some .int), Cond.methodLink RX2 27 yX2_isReached, Cond.instanceMethod yX2_isReached, Cond.selects RX2 yX2_isReached yX2_isReached, Cond.code yX2_isReached cX2_isReached 2 (some .boolean), Cond.methodLink RX2 46 yX5_isIn, Cond.static yX5_isIn, Cond.code yX5_isIn cX5_isIn 2 (some .boolean), Cond.methodLink RX2 31 yX5_only, Cond.methodLink RX2 35 yX5_withLine, Cond.static yX5_withLine, Cond.code yX5_withLine cX5_withLine 5 (some .long), Cond.constantLong RX5 15 (255), Cond.constantLong RX5 17 (-1)]
def wsX10_countCovers_r4 : List Cond := [Cond.methodLink RX2 39 yX5_turned, Cond.static yX5_turned, Cond.code yX5_turned cX5_turned 5 (some .long), Cond.methodLink RX5 32 yX5_column, Cond.static yX5_column, Cond.code yX5_column cX5_column 5 (some .int), Cond.methodLink RX5 25 yX5_isIn, Cond.methodLink RX5 35 yX5_withLine, Cond.methodLink RX10 196 yX2_reachedCount, Cond.instanceMethod yX2_reachedCount, Cond.selects RX2 yX2_reachedCount yX2_reachedCount, Cond.code yX2_reachedCount cX2_reachedCount 1 (some .int), Cond.methodLink RX2 50 yJ6_bitCount_0f7a4, Cond.methodLink RX10 281 yX2_depthSum, Cond.instanceMethod yX2_depthSum, Cond.selects RX2 yX2_depthSum yX2_depthSum, Cond.code yX2_depthSum cX2_depthSum 3 (some .int), Cond.methodLink RX2 67 Lib.Math.max.name, Cond.static Lib.Math.max.name, Cond.initialized "java/lang/Math", Cond.code Lib.Math.max.name Lib.Math.max.code 2 (some .int), Cond.methodLink RX2 64 yX2_depthOf, Cond.instanceMethod yX2_depthOf, Cond.selects RX2 yX2_depthOf yX2_depthOf]
def wsX10_countCovers_r5 : List Cond := [Cond.code yX2_depthOf cX2_depthOf 2 (some .int), Cond.methodLink RX2 58 yX2_coverersOf, Cond.instanceMethod yX2_coverersOf, Cond.selects RX2 yX2_coverersOf yX2_coverersOf, Cond.code yX2_coverersOf cX2_coverersOf 2 (some .int), Cond.methodLink RX2 55 yX5_line, Cond.methodLink RX10 300 yX2_greatestDepth, Cond.instanceMethod yX2_greatestDepth, Cond.selects RX2 yX2_greatestDepth yX2_greatestDepth, Cond.code yX2_greatestDepth cX2_greatestDepth 3 (some .int), Cond.methodLink RX10 306 yX3_countBetween, Cond.instanceMethod yX3_countBetween, Cond.selects RX3 yX3_countBetween yX3_countBetween, Cond.code yX3_countBetween cX3_countBetween 4 (some .int), Cond.methodLink RX3 96 yX5_isIn]
def wsX10_countCovers : List Cond := .code yX10_countCovers cX10_countCovers 2 (some .int) :: ((wsX10_countCovers_r1 ++ (wsX10_countCovers_r2 ++ (wsX10_countCovers_r3 ++ (wsX10_countCovers_r4 ++ wsX10_countCovers_r5)))) ++ wsX100 ++ wsX20 ++ wsX30 ++ wsX60)
def wsX10_count_r1 : List Cond := [Cond.fieldLink RX10 10 "CoverOrder" "text" "LCoverOrder$Text;", Cond.fieldLink RX10 19 "CoverOrder" "edges" "LCoverOrder$Edges;", Cond.fieldLink RX10 29 "CoverOrder" "acts" "LCoverOrder$Acts;", Cond.fieldLink RX10 42 "CoverOrder" "seen" "LCoverOrder$Row;", Cond.methodLink RX10 80 yX8_length, Cond.instanceMethod yX8_length, Cond.selects RX8 yX8_length yX8_length, Cond.initialized RX8, Cond.code yX8_length cX8_length 1 (some .int), Cond.fieldLink RX8 14 "CoverOrder$Text" "letters" "LCoverOrder$Row;", Cond.methodLink RX8 20 yX6_size, Cond.instanceMethod yX6_size, Cond.selects RX6 yX6_size yX6_size, Cond.initialized RX6, Cond.code yX6_size cX6_size 1 (some .int), Cond.fieldLink RX6 21 "CoverOrder$Row" "size" "I", Cond.methodLink RX10 99 yX3_size, Cond.instanceMethod yX3_size, Cond.selects RX3 yX3_size yX3_size, Cond.initialized RX3, Cond.code yX3_size cX3_size 1 (some .int), Cond.fieldLink RX3 14 "CoverOrder$Edges" "row" "LCoverOrder$Row;", Cond.methodLink RX3 43 yX6_size, Cond.methodLink RX10 131 yX0_size]
def wsX10_count_r2 : List Cond := [Cond.instanceMethod yX0_size, Cond.selects RX0 yX0_size yX0_size, Cond.initialized RX0, Cond.code yX0_size cX0_size 1 (some .int), Cond.fieldLink RX0 20 "CoverOrder$Acts" "places" "LCoverOrder$Row;", Cond.methodLink RX0 23 yX6_size, Cond.methodLink RX10 232 yX6_size, Cond.methodLink RX10 297 yX10_countCovers, Cond.instanceMethod yX10_countCovers, Cond.selects RX10 yX10_countCovers yX10_countCovers, Cond.initialized RX10, Cond.code yX10_countCovers cX10_countCovers 2 (some .int), Cond.fieldLink RX10 49 "CoverOrder" "covers" "LCoverOrder$Covers;", Cond.methodLink RX10 145 yX10_learnCovers, Cond.instanceMethod yX10_learnCovers, Cond.selects RX10 yX10_learnCovers yX10_learnCovers, Cond.code yX10_learnCovers cX10_learnCovers 1 none, Cond.methodLink RX10 178 yX3_grid, Cond.instanceMethod yX3_grid, Cond.selects RX3 yX3_grid yX3_grid, Cond.code yX3_grid cX3_grid 5 (some .long), Cond.methodLink RX3 55 yX6_at, Cond.instanceMethod yX6_at, Cond.selects RX6 yX6_at yX6_at]
def wsX10_count_r3 : List Cond := [Cond.code yX6_at cX6_at 2 (some .int), Cond.fieldLink RX6 15 "CoverOrder$Row" "items" "[I", Cond.methodLink RX3 59 yX3_pairOf, Cond.static yX3_pairOf, Cond.code yX3_pairOf cX3_pairOf 1 (some .int), Cond.methodLink RX3 101 yX5_flipped, Cond.static yX5_flipped, Cond.initialized RX5, Cond.code yX5_flipped cX5_flipped 4 (some .long), Cond.methodLink RX10 188 yX2_learn, Cond.instanceMethod yX2_learn, Cond.selects RX2 yX2_learn yX2_learn, Cond.initialized RX2, Cond.code yX2_learn cX2_learn 5 none, Cond.fieldLink RX2 9 "CoverOrder$Covers" "grid" "J", Cond.fieldLink RX2 21 "CoverOrder$Covers" "reached" "I", Cond.fieldLink RX2 24 "CoverOrder$Covers" "covered" "J", Cond.fieldLink RX2 43 "CoverOrder$Covers" "coverers" "J", Cond.methodLink RX2 15 yX5_reached, Cond.static yX5_reached, Cond.code yX5_reached cX5_reached 8 (some .int), Cond.methodLink RX5 29 yX5_only, Cond.static yX5_only, Cond.code yX5_only cX5_only 1 (some .int)]
def wsX10_count_r4 : List Cond := [Cond.methodLink RX5 39 yX5_first, Cond.static yX5_first, Cond.code yX5_first cX5_first 1 (some .int), Cond.methodLink RX5 9 yJ6_bitCount_0f7a4, Cond.static yJ6_bitCount_0f7a4, Cond.initialized RJ6, Cond.code yJ6_bitCount_0f7a4 cJ6_bitCount_0f7a4 1 (some .int), Cond.constant RJ6 265 (1431655765), Cond.constant RJ6 266 (858993459), Cond.constant RJ6 267 (252645135), Cond.methodLink RX5 19 yX5_line, Cond.static yX5_line, Cond.code yX5_line cX5_line 3 (some .int), Cond.methodLink RX2 27 yX2_isReached, Cond.instanceMethod yX2_isReached, Cond.selects RX2 yX2_isReached yX2_isReached, Cond.code yX2_isReached cX2_isReached 2 (some .boolean), Cond.methodLink RX2 46 yX5_isIn, Cond.static yX5_isIn, Cond.code yX5_isIn cX5_isIn 2 (some .boolean), Cond.methodLink RX2 31 yX5_only, Cond.methodLink RX2 35 yX5_withLine, Cond.static yX5_withLine, Cond.code yX5_withLine cX5_withLine 5 (some .long)]
def wsX10_count_r5 : List Cond := [Cond.constantLong RX5 15 (255), Cond.constantLong RX5 17 (-1), Cond.methodLink RX2 39 yX5_turned, Cond.static yX5_turned, Cond.code yX5_turned cX5_turned 5 (some .long), Cond.methodLink RX5 32 yX5_column, Cond.static yX5_column, Cond.code yX5_column cX5_column 5 (some .int), Cond.methodLink RX5 25 yX5_isIn, Cond.methodLink RX5 35 yX5_withLine, Cond.methodLink RX10 196 yX2_reachedCount, Cond.instanceMethod yX2_reachedCount, Cond.selects RX2 yX2_reachedCount yX2_reachedCount, Cond.code yX2_reachedCount cX2_reachedCount 1 (some .int), Cond.methodLink RX2 50 yJ6_bitCount_0f7a4, Cond.methodLink RX10 281 yX2_depthSum, Cond.instanceMethod yX2_depthSum, Cond.selects RX2 yX2_depthSum yX2_depthSum, Cond.code yX2_depthSum cX2_depthSum 3 (some .int), Cond.methodLink RX2 67 Lib.Math.max.name, Cond.static Lib.Math.max.name, Cond.initialized "java/lang/Math", Cond.code Lib.Math.max.name Lib.Math.max.code 2 (some .int), Cond.methodLink RX2 64 yX2_depthOf]
def wsX10_count_r6 : List Cond := [Cond.instanceMethod yX2_depthOf, Cond.selects RX2 yX2_depthOf yX2_depthOf, Cond.code yX2_depthOf cX2_depthOf 2 (some .int), Cond.methodLink RX2 58 yX2_coverersOf, Cond.instanceMethod yX2_coverersOf, Cond.selects RX2 yX2_coverersOf yX2_coverersOf, Cond.code yX2_coverersOf cX2_coverersOf 2 (some .int), Cond.methodLink RX2 55 yX5_line, Cond.methodLink RX10 300 yX2_greatestDepth, Cond.instanceMethod yX2_greatestDepth, Cond.selects RX2 yX2_greatestDepth yX2_greatestDepth, Cond.code yX2_greatestDepth cX2_greatestDepth 3 (some .int), Cond.methodLink RX10 306 yX3_countBetween, Cond.instanceMethod yX3_countBetween, Cond.selects RX3 yX3_countBetween yX3_countBetween, Cond.code yX3_countBetween cX3_countBetween 4 (some .int), Cond.methodLink RX3 96 yX5_isIn]
def wsX10_count : List Cond := .code yX10_count cX10_count 2 (some .int) :: ((wsX10_count_r1 ++ (wsX10_count_r2 ++ (wsX10_count_r3 ++ (wsX10_count_r4 ++ (wsX10_count_r5 ++ wsX10_count_r6))))) ++ wsX100 ++ wsX30 ++ wsX80 ++ wsX60 ++ wsX00 ++ wsX20)
def wsX11_init : List Cond := .code yX11_init cX11_init 1 none :: ([.methodLink RX11 1 objectInit, .instanceMethod objectInit, .code objectInit ⟨#[0xb1]⟩ 1 none, .fieldLink RX11 7 "CoverOrderModel" "knots" "I", .arrayClass .int, .fieldLink RX11 13 "CoverOrderModel" "now" "[I", .fieldLink RX11 17 "CoverOrderModel" "text" "[I", .fieldLink RX11 20 "CoverOrderModel" "covers" "[I", .fieldLink RX11 23 "CoverOrderModel" "order" "[I", .fieldLink RX11 26 "CoverOrderModel" "way" "[I", .fieldLink RX11 29 "CoverOrderModel" "tried" "[I", .fieldLink RX11 32 "CoverOrderModel" "row" "[I", .fieldLink RX11 35 "CoverOrderModel" "lids" "[I", .fieldLink RX11 38 "CoverOrderModel" "shown" "[I", .fieldLink RX11 41 "CoverOrderModel" "seenKnot" "[I", .fieldLink RX11 44 "CoverOrderModel" "seenLid" "[I", .fieldLink RX11 47 "CoverOrderModel" "seenHad" "[I", .arrayClass .boolean, .fieldLink RX11 50 "CoverOrderModel" "isKept" "[Z", .fieldLink RX11 54 "CoverOrderModel" "kept" "[I"] ++ wsX110)
def wsX11_in : List Cond := .code yX11_in cX11_in 6 (some .boolean) :: ([])
def wsX11_has : List Cond := .code yX11_has cX11_has 2 (some .boolean) :: ([])
def wsX11_ones : List Cond := .code yX11_ones cX11_ones 3 (some .int) :: ([])
def wsX11_write : List Cond := .code yX11_write cX11_write 2 (some .int) :: ([.constantLong RX11 57 (255), .fieldLink RX11 63 "CoverOrderModel" "length" "I", .fieldLink RX11 17 "CoverOrderModel" "text" "[I", .methodLink RX11 59 yX11_in, .static yX11_in, .initialized RX11, .code yX11_in cX11_in 6 (some .boolean)] ++ wsX110)
def wsX11_wipe : List Cond := .code yX11_wipe cX11_wipe 2 (some .int) :: ([.fieldLink RX11 63 "CoverOrderModel" "length" "I"] ++ wsX110)
def wsX11_many : List Cond := .code yX11_many cX11_many 2 (some .int) :: ([.fieldLink RX11 13 "CoverOrderModel" "now" "[I"] ++ wsX110)
def wsX11_fromOf : List Cond := .code yX11_fromOf cX11_fromOf 3 (some .int) :: ([.fieldLink RX11 13 "CoverOrderModel" "now" "[I"] ++ wsX110)
def wsX11_toOf : List Cond := .code yX11_toOf cX11_toOf 3 (some .int) :: ([.fieldLink RX11 13 "CoverOrderModel" "now" "[I"] ++ wsX110)
def wsX11_find : List Cond := .code yX11_find cX11_find 6 (some .int) :: ([.fieldLink RX11 13 "CoverOrderModel" "now" "[I", .methodLink RX11 66 yX11_many, .instanceMethod yX11_many, .selects RX11 yX11_many yX11_many, .initialized RX11, .code yX11_many cX11_many 2 (some .int)] ++ wsX110)
def wsX11_outOf : List Cond := .code yX11_outOf cX11_outOf 5 (some .int) :: ([.methodLink RX11 66 yX11_many, .instanceMethod yX11_many, .selects RX11 yX11_many yX11_many, .initialized RX11, .code yX11_many cX11_many 2 (some .int), .fieldLink RX11 13 "CoverOrderModel" "now" "[I", .methodLink RX11 70 yX11_fromOf, .instanceMethod yX11_fromOf, .selects RX11 yX11_fromOf yX11_fromOf, .code yX11_fromOf cX11_fromOf 3 (some .int)] ++ wsX110)
def wsX11_insertOn : List Cond := .code yX11_insertOn cX11_insertOn 5 none :: ([.fieldLink RX11 13 "CoverOrderModel" "now" "[I"] ++ wsX110)
def wsX11_deleteOn : List Cond := .code yX11_deleteOn cX11_deleteOn 5 none :: ([.fieldLink RX11 13 "CoverOrderModel" "now" "[I"] ++ wsX110)
def wsX11_readText_r1 : List Cond := [Cond.fieldLink RX11 13 "CoverOrderModel" "now" "[I", Cond.fieldLink RX11 63 "CoverOrderModel" "length" "I", Cond.fieldLink RX11 17 "CoverOrderModel" "text" "[I", Cond.constantLong RX11 74 (49), Cond.constantLong RX11 76 (56), Cond.fieldLink RX11 78 "CoverOrderModel" "readKnots" "I", Cond.methodLink RX11 59 yX11_in, Cond.static yX11_in, Cond.initialized RX11, Cond.code yX11_in cX11_in 6 (some .boolean), Cond.methodLink RX11 66 yX11_many, Cond.instanceMethod yX11_many, Cond.selects RX11 yX11_many yX11_many, Cond.code yX11_many cX11_many 2 (some .int), Cond.methodLink RX11 81 yX11_outOf, Cond.instanceMethod yX11_outOf, Cond.selects RX11 yX11_outOf yX11_outOf, Cond.code yX11_outOf cX11_outOf 5 (some .int), Cond.methodLink RX11 70 yX11_fromOf, Cond.instanceMethod yX11_fromOf, Cond.selects RX11 yX11_fromOf yX11_fromOf, Cond.code yX11_fromOf cX11_fromOf 3 (some .int), Cond.methodLink RX11 84 yX11_find, Cond.instanceMethod yX11_find]
def wsX11_readText_r2 : List Cond := [Cond.selects RX11 yX11_find yX11_find, Cond.code yX11_find cX11_find 6 (some .int), Cond.methodLink RX11 88 yX11_insertOn, Cond.instanceMethod yX11_insertOn, Cond.selects RX11 yX11_insertOn yX11_insertOn, Cond.code yX11_insertOn cX11_insertOn 5 none]
def wsX11_readText : List Cond := .code yX11_readText cX11_readText 4 (some .int) :: ((wsX11_readText_r1 ++ wsX11_readText_r2) ++ wsX110)
def wsX11_fault_r1 : List Cond := [Cond.methodLink RX11 92 yX11_readText, Cond.instanceMethod yX11_readText, Cond.selects RX11 yX11_readText yX11_readText, Cond.initialized RX11, Cond.code yX11_readText cX11_readText 4 (some .int), Cond.fieldLink RX11 13 "CoverOrderModel" "now" "[I", Cond.fieldLink RX11 63 "CoverOrderModel" "length" "I", Cond.fieldLink RX11 17 "CoverOrderModel" "text" "[I", Cond.constantLong RX11 74 (49), Cond.constantLong RX11 76 (56), Cond.fieldLink RX11 78 "CoverOrderModel" "readKnots" "I", Cond.methodLink RX11 59 yX11_in, Cond.static yX11_in, Cond.code yX11_in cX11_in 6 (some .boolean), Cond.methodLink RX11 66 yX11_many, Cond.instanceMethod yX11_many, Cond.selects RX11 yX11_many yX11_many, Cond.code yX11_many cX11_many 2 (some .int), Cond.methodLink RX11 81 yX11_outOf, Cond.instanceMethod yX11_outOf, Cond.selects RX11 yX11_outOf yX11_outOf, Cond.code yX11_outOf cX11_outOf 5 (some .int), Cond.methodLink RX11 70 yX11_fromOf, Cond.instanceMethod yX11_fromOf]
def wsX11_fault_r2 : List Cond := [Cond.selects RX11 yX11_fromOf yX11_fromOf, Cond.code yX11_fromOf cX11_fromOf 3 (some .int), Cond.methodLink RX11 84 yX11_find, Cond.instanceMethod yX11_find, Cond.selects RX11 yX11_find yX11_find, Cond.code yX11_find cX11_find 6 (some .int), Cond.methodLink RX11 88 yX11_insertOn, Cond.instanceMethod yX11_insertOn, Cond.selects RX11 yX11_insertOn yX11_insertOn, Cond.code yX11_insertOn cX11_insertOn 5 none]
def wsX11_fault : List Cond := .code yX11_fault cX11_fault 1 (some .int) :: ((wsX11_fault_r1 ++ wsX11_fault_r2) ++ wsX110)
def wsX11_graph_r1 : List Cond := [Cond.fieldLink RX11 78 "CoverOrderModel" "readKnots" "I", Cond.fieldLink RX11 7 "CoverOrderModel" "knots" "I", Cond.fieldLink RX11 13 "CoverOrderModel" "now" "[I", Cond.fieldLink RX11 96 "CoverOrderModel" "acts" "I", Cond.fieldLink RX11 50 "CoverOrderModel" "isKept" "[Z", Cond.methodLink RX11 92 yX11_readText, Cond.instanceMethod yX11_readText, Cond.selects RX11 yX11_readText yX11_readText, Cond.initialized RX11, Cond.code yX11_readText cX11_readText 4 (some .int), Cond.fieldLink RX11 63 "CoverOrderModel" "length" "I", Cond.fieldLink RX11 17 "CoverOrderModel" "text" "[I", Cond.constantLong RX11 74 (49), Cond.constantLong RX11 76 (56), Cond.methodLink RX11 59 yX11_in, Cond.static yX11_in, Cond.code yX11_in cX11_in 6 (some .boolean), Cond.methodLink RX11 66 yX11_many, Cond.instanceMethod yX11_many, Cond.selects RX11 yX11_many yX11_many, Cond.code yX11_many cX11_many 2 (some .int), Cond.methodLink RX11 81 yX11_outOf, Cond.instanceMethod yX11_outOf, Cond.selects RX11 yX11_outOf yX11_outOf]
def wsX11_graph_r2 : List Cond := [Cond.code yX11_outOf cX11_outOf 5 (some .int), Cond.methodLink RX11 70 yX11_fromOf, Cond.instanceMethod yX11_fromOf, Cond.selects RX11 yX11_fromOf yX11_fromOf, Cond.code yX11_fromOf cX11_fromOf 3 (some .int), Cond.methodLink RX11 84 yX11_find, Cond.instanceMethod yX11_find, Cond.selects RX11 yX11_find yX11_find, Cond.code yX11_find cX11_find 6 (some .int), Cond.methodLink RX11 88 yX11_insertOn, Cond.instanceMethod yX11_insertOn, Cond.selects RX11 yX11_insertOn yX11_insertOn, Cond.code yX11_insertOn cX11_insertOn 5 none]
def wsX11_graph : List Cond := .code yX11_graph cX11_graph 2 (some .int) :: ((wsX11_graph_r1 ++ wsX11_graph_r2) ++ wsX110)
def wsX11_isKnot : List Cond := .code yX11_isKnot cX11_isKnot 2 (some .boolean) :: ([.fieldLink RX11 7 "CoverOrderModel" "knots" "I", .methodLink RX11 59 yX11_in, .static yX11_in, .initialized RX11, .code yX11_in cX11_in 6 (some .boolean)] ++ wsX110)
def wsX11_reachedBy : List Cond := .code yX11_reachedBy cX11_reachedBy 12 (some .int) :: ([.methodLink RX11 66 yX11_many, .instanceMethod yX11_many, .selects RX11 yX11_many yX11_many, .initialized RX11, .code yX11_many cX11_many 2 (some .int), .fieldLink RX11 13 "CoverOrderModel" "now" "[I", .methodLink RX11 70 yX11_fromOf, .instanceMethod yX11_fromOf, .selects RX11 yX11_fromOf yX11_fromOf, .code yX11_fromOf cX11_fromOf 3 (some .int), .methodLink RX11 99 yX11_toOf, .instanceMethod yX11_toOf, .selects RX11 yX11_toOf yX11_toOf, .code yX11_toOf cX11_toOf 3 (some .int), .methodLink RX11 102 yX11_has, .static yX11_has, .code yX11_has cX11_has 2 (some .boolean)] ++ wsX110)
def wsX11_findCovers : List Cond := .code yX11_findCovers cX11_findCovers 5 none :: ([.fieldLink RX11 110 "CoverOrderModel" "reached" "I", .fieldLink RX11 20 "CoverOrderModel" "covers" "[I", .methodLink RX11 106 yX11_reachedBy, .instanceMethod yX11_reachedBy, .selects RX11 yX11_reachedBy yX11_reachedBy, .initialized RX11, .code yX11_reachedBy cX11_reachedBy 12 (some .int), .methodLink RX11 66 yX11_many, .instanceMethod yX11_many, .selects RX11 yX11_many yX11_many, .code yX11_many cX11_many 2 (some .int), .fieldLink RX11 13 "CoverOrderModel" "now" "[I", .methodLink RX11 70 yX11_fromOf, .instanceMethod yX11_fromOf, .selects RX11 yX11_fromOf yX11_fromOf, .code yX11_fromOf cX11_fromOf 3 (some .int), .methodLink RX11 99 yX11_toOf, .instanceMethod yX11_toOf, .selects RX11 yX11_toOf yX11_toOf, .code yX11_toOf cX11_toOf 3 (some .int), .methodLink RX11 102 yX11_has, .static yX11_has, .code yX11_has cX11_has 2 (some .boolean)] ++ wsX110)
def wsX11_depthOf : List Cond := .code yX11_depthOf cX11_depthOf 2 (some .int) :: ([.fieldLink RX11 110 "CoverOrderModel" "reached" "I", .fieldLink RX11 20 "CoverOrderModel" "covers" "[I", .methodLink RX11 102 yX11_has, .static yX11_has, .initialized RX11, .code yX11_has cX11_has 2 (some .boolean), .methodLink RX11 113 yX11_ones, .static yX11_ones, .code yX11_ones cX11_ones 3 (some .int)] ++ wsX110)
def wsX11_lidOf : List Cond := .code yX11_lidOf cX11_lidOf 5 (some .int) :: ([.fieldLink RX11 110 "CoverOrderModel" "reached" "I", .fieldLink RX11 20 "CoverOrderModel" "covers" "[I", .methodLink RX11 102 yX11_has, .static yX11_has, .initialized RX11, .code yX11_has cX11_has 2 (some .boolean)] ++ wsX110)
def wsX11_coveredBy : List Cond := .code yX11_coveredBy cX11_coveredBy 4 (some .int) :: ([.fieldLink RX11 20 "CoverOrderModel" "covers" "[I", .methodLink RX11 102 yX11_has, .static yX11_has, .initialized RX11, .code yX11_has cX11_has 2 (some .boolean)] ++ wsX110)
def wsX11_walk : List Cond := .code yX11_walk cX11_walk 7 none :: ([.fieldLink RX11 23 "CoverOrderModel" "order" "[I", .fieldLink RX11 29 "CoverOrderModel" "tried" "[I", .fieldLink RX11 26 "CoverOrderModel" "way" "[I", .methodLink RX11 66 yX11_many, .instanceMethod yX11_many, .selects RX11 yX11_many yX11_many, .initialized RX11, .code yX11_many cX11_many 2 (some .int), .fieldLink RX11 13 "CoverOrderModel" "now" "[I", .methodLink RX11 99 yX11_toOf, .instanceMethod yX11_toOf, .selects RX11 yX11_toOf yX11_toOf, .code yX11_toOf cX11_toOf 3 (some .int), .methodLink RX11 70 yX11_fromOf, .instanceMethod yX11_fromOf, .selects RX11 yX11_fromOf yX11_fromOf, .code yX11_fromOf cX11_fromOf 3 (some .int)] ++ wsX110)
def wsX11_halfOf : List Cond := .code yX11_halfOf cX11_halfOf 8 (some .int) :: ([.fieldLink RX11 23 "CoverOrderModel" "order" "[I", .methodLink RX11 66 yX11_many, .instanceMethod yX11_many, .selects RX11 yX11_many yX11_many, .initialized RX11, .code yX11_many cX11_many 2 (some .int), .fieldLink RX11 13 "CoverOrderModel" "now" "[I", .methodLink RX11 70 yX11_fromOf, .instanceMethod yX11_fromOf, .selects RX11 yX11_fromOf yX11_fromOf, .code yX11_fromOf cX11_fromOf 3 (some .int), .methodLink RX11 99 yX11_toOf, .instanceMethod yX11_toOf, .selects RX11 yX11_toOf yX11_toOf, .code yX11_toOf cX11_toOf 3 (some .int), .methodLink RX11 102 yX11_has, .static yX11_has, .code yX11_has cX11_has 2 (some .boolean)] ++ wsX110)
def wsX11_rimOf : List Cond := .code yX11_rimOf cX11_rimOf 7 (some .int) :: ([.fieldLink RX11 20 "CoverOrderModel" "covers" "[I", .methodLink RX11 66 yX11_many, .instanceMethod yX11_many, .selects RX11 yX11_many yX11_many, .initialized RX11, .code yX11_many cX11_many 2 (some .int), .fieldLink RX11 13 "CoverOrderModel" "now" "[I", .methodLink RX11 99 yX11_toOf, .instanceMethod yX11_toOf, .selects RX11 yX11_toOf yX11_toOf, .code yX11_toOf cX11_toOf 3 (some .int), .methodLink RX11 70 yX11_fromOf, .instanceMethod yX11_fromOf, .selects RX11 yX11_fromOf yX11_fromOf, .code yX11_fromOf cX11_fromOf 3 (some .int), .methodLink RX11 102 yX11_has, .static yX11_has, .code yX11_has cX11_has 2 (some .boolean)] ++ wsX110)
def wsX11_knot_r1 : List Cond := [Cond.fieldLink RX11 110 "CoverOrderModel" "reached" "I", Cond.fieldLink RX11 23 "CoverOrderModel" "order" "[I", Cond.methodLink RX11 116 yX11_isKnot, Cond.instanceMethod yX11_isKnot, Cond.selects RX11 yX11_isKnot yX11_isKnot, Cond.initialized RX11, Cond.code yX11_isKnot cX11_isKnot 2 (some .boolean), Cond.fieldLink RX11 7 "CoverOrderModel" "knots" "I", Cond.methodLink RX11 59 yX11_in, Cond.static yX11_in, Cond.code yX11_in cX11_in 6 (some .boolean), Cond.methodLink RX11 120 yX11_findCovers, Cond.instanceMethod yX11_findCovers, Cond.selects RX11 yX11_findCovers yX11_findCovers, Cond.code yX11_findCovers cX11_findCovers 5 none, Cond.fieldLink RX11 20 "CoverOrderModel" "covers" "[I", Cond.methodLink RX11 106 yX11_reachedBy, Cond.instanceMethod yX11_reachedBy, Cond.selects RX11 yX11_reachedBy yX11_reachedBy, Cond.code yX11_reachedBy cX11_reachedBy 12 (some .int), Cond.methodLink RX11 66 yX11_many, Cond.instanceMethod yX11_many, Cond.selects RX11 yX11_many yX11_many, Cond.code yX11_many cX11_many 2 (some .int)]
def wsX11_knot_r2 : List Cond := [Cond.fieldLink RX11 13 "CoverOrderModel" "now" "[I", Cond.methodLink RX11 70 yX11_fromOf, Cond.instanceMethod yX11_fromOf, Cond.selects RX11 yX11_fromOf yX11_fromOf, Cond.code yX11_fromOf cX11_fromOf 3 (some .int), Cond.methodLink RX11 99 yX11_toOf, Cond.instanceMethod yX11_toOf, Cond.selects RX11 yX11_toOf yX11_toOf, Cond.code yX11_toOf cX11_toOf 3 (some .int), Cond.methodLink RX11 102 yX11_has, Cond.static yX11_has, Cond.code yX11_has cX11_has 2 (some .boolean), Cond.methodLink RX11 124 yX11_walk, Cond.instanceMethod yX11_walk, Cond.selects RX11 yX11_walk yX11_walk, Cond.code yX11_walk cX11_walk 7 none, Cond.fieldLink RX11 29 "CoverOrderModel" "tried" "[I", Cond.fieldLink RX11 26 "CoverOrderModel" "way" "[I", Cond.methodLink RX11 127 yX11_lidOf, Cond.instanceMethod yX11_lidOf, Cond.selects RX11 yX11_lidOf yX11_lidOf, Cond.code yX11_lidOf cX11_lidOf 5 (some .int), Cond.methodLink RX11 130 yX11_depthOf, Cond.instanceMethod yX11_depthOf]
def wsX11_knot_r3 : List Cond := [Cond.selects RX11 yX11_depthOf yX11_depthOf, Cond.code yX11_depthOf cX11_depthOf 2 (some .int), Cond.methodLink RX11 113 yX11_ones, Cond.static yX11_ones, Cond.code yX11_ones cX11_ones 3 (some .int), Cond.methodLink RX11 133 yX11_halfOf, Cond.instanceMethod yX11_halfOf, Cond.selects RX11 yX11_halfOf yX11_halfOf, Cond.code yX11_halfOf cX11_halfOf 8 (some .int), Cond.methodLink RX11 136 yX11_coveredBy, Cond.instanceMethod yX11_coveredBy, Cond.selects RX11 yX11_coveredBy yX11_coveredBy, Cond.code yX11_coveredBy cX11_coveredBy 4 (some .int), Cond.methodLink RX11 139 yX11_rimOf, Cond.instanceMethod yX11_rimOf, Cond.selects RX11 yX11_rimOf yX11_rimOf, Cond.code yX11_rimOf cX11_rimOf 7 (some .int)]
def wsX11_knot : List Cond := .code yX11_knot cX11_knot 3 (some .int) :: ((wsX11_knot_r1 ++ (wsX11_knot_r2 ++ wsX11_knot_r3)) ++ wsX110)
def wsX11_keepAct : List Cond := .code yX11_keepAct cX11_keepAct 2 none :: ([.fieldLink RX11 32 "CoverOrderModel" "row" "[I", .fieldLink RX11 142 "CoverOrderModel" "next" "I", .fieldLink RX11 13 "CoverOrderModel" "now" "[I", .fieldLink RX11 96 "CoverOrderModel" "acts" "I"] ++ wsX110)
def wsX11_insert_r1 : List Cond := [Cond.fieldLink RX11 13 "CoverOrderModel" "now" "[I", Cond.methodLink RX11 116 yX11_isKnot, Cond.instanceMethod yX11_isKnot, Cond.selects RX11 yX11_isKnot yX11_isKnot, Cond.initialized RX11, Cond.code yX11_isKnot cX11_isKnot 2 (some .boolean), Cond.fieldLink RX11 7 "CoverOrderModel" "knots" "I", Cond.methodLink RX11 59 yX11_in, Cond.static yX11_in, Cond.code yX11_in cX11_in 6 (some .boolean), Cond.methodLink RX11 84 yX11_find, Cond.instanceMethod yX11_find, Cond.selects RX11 yX11_find yX11_find, Cond.code yX11_find cX11_find 6 (some .int), Cond.methodLink RX11 66 yX11_many, Cond.instanceMethod yX11_many, Cond.selects RX11 yX11_many yX11_many, Cond.code yX11_many cX11_many 2 (some .int), Cond.methodLink RX11 145 yX11_keepAct, Cond.instanceMethod yX11_keepAct, Cond.selects RX11 yX11_keepAct yX11_keepAct, Cond.code yX11_keepAct cX11_keepAct 2 none, Cond.fieldLink RX11 32 "CoverOrderModel" "row" "[I", Cond.fieldLink RX11 142 "CoverOrderModel" "next" "I"]
def wsX11_insert_r2 : List Cond := [Cond.fieldLink RX11 96 "CoverOrderModel" "acts" "I", Cond.methodLink RX11 88 yX11_insertOn, Cond.instanceMethod yX11_insertOn, Cond.selects RX11 yX11_insertOn yX11_insertOn, Cond.code yX11_insertOn cX11_insertOn 5 none]
def wsX11_insert : List Cond := .code yX11_insert cX11_insert 3 (some .int) :: ((wsX11_insert_r1 ++ wsX11_insert_r2) ++ wsX110)
def wsX11_delete_r1 : List Cond := [Cond.fieldLink RX11 13 "CoverOrderModel" "now" "[I", Cond.methodLink RX11 116 yX11_isKnot, Cond.instanceMethod yX11_isKnot, Cond.selects RX11 yX11_isKnot yX11_isKnot, Cond.initialized RX11, Cond.code yX11_isKnot cX11_isKnot 2 (some .boolean), Cond.fieldLink RX11 7 "CoverOrderModel" "knots" "I", Cond.methodLink RX11 59 yX11_in, Cond.static yX11_in, Cond.code yX11_in cX11_in 6 (some .boolean), Cond.methodLink RX11 84 yX11_find, Cond.instanceMethod yX11_find, Cond.selects RX11 yX11_find yX11_find, Cond.code yX11_find cX11_find 6 (some .int), Cond.methodLink RX11 66 yX11_many, Cond.instanceMethod yX11_many, Cond.selects RX11 yX11_many yX11_many, Cond.code yX11_many cX11_many 2 (some .int), Cond.methodLink RX11 145 yX11_keepAct, Cond.instanceMethod yX11_keepAct, Cond.selects RX11 yX11_keepAct yX11_keepAct, Cond.code yX11_keepAct cX11_keepAct 2 none, Cond.fieldLink RX11 32 "CoverOrderModel" "row" "[I", Cond.fieldLink RX11 142 "CoverOrderModel" "next" "I"]
def wsX11_delete_r2 : List Cond := [Cond.fieldLink RX11 96 "CoverOrderModel" "acts" "I", Cond.methodLink RX11 148 yX11_deleteOn, Cond.instanceMethod yX11_deleteOn, Cond.selects RX11 yX11_deleteOn yX11_deleteOn, Cond.code yX11_deleteOn cX11_deleteOn 5 none]
def wsX11_delete : List Cond := .code yX11_delete cX11_delete 5 (some .int) :: ((wsX11_delete_r1 ++ wsX11_delete_r2) ++ wsX110)
def wsX11_undo : List Cond := .code yX11_undo cX11_undo 2 (some .int) :: ([.fieldLink RX11 96 "CoverOrderModel" "acts" "I", .fieldLink RX11 142 "CoverOrderModel" "next" "I", .fieldLink RX11 13 "CoverOrderModel" "now" "[I", .fieldLink RX11 32 "CoverOrderModel" "row" "[I"] ++ wsX110)
def wsX11_stamp : List Cond := .code yX11_stamp cX11_stamp 4 (some .int) :: ([.fieldLink RX11 13 "CoverOrderModel" "now" "[I", .methodLink RX11 116 yX11_isKnot, .instanceMethod yX11_isKnot, .selects RX11 yX11_isKnot yX11_isKnot, .initialized RX11, .code yX11_isKnot cX11_isKnot 2 (some .boolean), .fieldLink RX11 7 "CoverOrderModel" "knots" "I", .methodLink RX11 59 yX11_in, .static yX11_in, .code yX11_in cX11_in 6 (some .boolean), .methodLink RX11 84 yX11_find, .instanceMethod yX11_find, .selects RX11 yX11_find yX11_find, .code yX11_find cX11_find 6 (some .int), .methodLink RX11 66 yX11_many, .instanceMethod yX11_many, .selects RX11 yX11_many yX11_many, .code yX11_many cX11_many 2 (some .int)] ++ wsX110)
def wsX11_edge : List Cond := .code yX11_edge cX11_edge 2 (some .int) :: ([.fieldLink RX11 13 "CoverOrderModel" "now" "[I", .methodLink RX11 66 yX11_many, .instanceMethod yX11_many, .selects RX11 yX11_many yX11_many, .initialized RX11, .code yX11_many cX11_many 2 (some .int), .methodLink RX11 59 yX11_in, .static yX11_in, .code yX11_in cX11_in 6 (some .boolean)] ++ wsX110)
def wsX11_layTrial : List Cond := .code yX11_layTrial cX11_layTrial 2 none :: ([.fieldLink RX11 13 "CoverOrderModel" "now" "[I"] ++ wsX110)
def wsX11_nearest_r1 : List Cond := [Cond.fieldLink RX11 110 "CoverOrderModel" "reached" "I", Cond.fieldLink RX11 20 "CoverOrderModel" "covers" "[I", Cond.methodLink RX11 116 yX11_isKnot, Cond.instanceMethod yX11_isKnot, Cond.selects RX11 yX11_isKnot yX11_isKnot, Cond.initialized RX11, Cond.code yX11_isKnot cX11_isKnot 2 (some .boolean), Cond.fieldLink RX11 7 "CoverOrderModel" "knots" "I", Cond.methodLink RX11 59 yX11_in, Cond.static yX11_in, Cond.code yX11_in cX11_in 6 (some .boolean), Cond.methodLink RX11 120 yX11_findCovers, Cond.instanceMethod yX11_findCovers, Cond.selects RX11 yX11_findCovers yX11_findCovers, Cond.code yX11_findCovers cX11_findCovers 5 none, Cond.methodLink RX11 106 yX11_reachedBy, Cond.instanceMethod yX11_reachedBy, Cond.selects RX11 yX11_reachedBy yX11_reachedBy, Cond.code yX11_reachedBy cX11_reachedBy 12 (some .int), Cond.methodLink RX11 66 yX11_many, Cond.instanceMethod yX11_many, Cond.selects RX11 yX11_many yX11_many, Cond.code yX11_many cX11_many 2 (some .int), Cond.fieldLink RX11 13 "CoverOrderModel" "now" "[I"]
def wsX11_nearest_r2 : List Cond := [Cond.methodLink RX11 70 yX11_fromOf, Cond.instanceMethod yX11_fromOf, Cond.selects RX11 yX11_fromOf yX11_fromOf, Cond.code yX11_fromOf cX11_fromOf 3 (some .int), Cond.methodLink RX11 99 yX11_toOf, Cond.instanceMethod yX11_toOf, Cond.selects RX11 yX11_toOf yX11_toOf, Cond.code yX11_toOf cX11_toOf 3 (some .int), Cond.methodLink RX11 102 yX11_has, Cond.static yX11_has, Cond.code yX11_has cX11_has 2 (some .boolean), Cond.methodLink RX11 130 yX11_depthOf, Cond.instanceMethod yX11_depthOf, Cond.selects RX11 yX11_depthOf yX11_depthOf, Cond.code yX11_depthOf cX11_depthOf 2 (some .int), Cond.methodLink RX11 113 yX11_ones, Cond.static yX11_ones, Cond.code yX11_ones cX11_ones 3 (some .int)]
def wsX11_nearest : List Cond := .code yX11_nearest cX11_nearest 5 (some .int) :: ((wsX11_nearest_r1 ++ wsX11_nearest_r2) ++ wsX110)
def wsX11_would_r1 : List Cond := [Cond.fieldLink RX11 110 "CoverOrderModel" "reached" "I", Cond.fieldLink RX11 35 "CoverOrderModel" "lids" "[I", Cond.methodLink RX11 116 yX11_isKnot, Cond.instanceMethod yX11_isKnot, Cond.selects RX11 yX11_isKnot yX11_isKnot, Cond.initialized RX11, Cond.code yX11_isKnot cX11_isKnot 2 (some .boolean), Cond.fieldLink RX11 7 "CoverOrderModel" "knots" "I", Cond.methodLink RX11 59 yX11_in, Cond.static yX11_in, Cond.code yX11_in cX11_in 6 (some .boolean), Cond.methodLink RX11 84 yX11_find, Cond.instanceMethod yX11_find, Cond.selects RX11 yX11_find yX11_find, Cond.code yX11_find cX11_find 6 (some .int), Cond.fieldLink RX11 13 "CoverOrderModel" "now" "[I", Cond.methodLink RX11 66 yX11_many, Cond.instanceMethod yX11_many, Cond.selects RX11 yX11_many yX11_many, Cond.code yX11_many cX11_many 2 (some .int), Cond.methodLink RX11 120 yX11_findCovers, Cond.instanceMethod yX11_findCovers, Cond.selects RX11 yX11_findCovers yX11_findCovers, Cond.code yX11_findCovers cX11_findCovers 5 none]
def wsX11_would_r2 : List Cond := [Cond.fieldLink RX11 20 "CoverOrderModel" "covers" "[I", Cond.methodLink RX11 106 yX11_reachedBy, Cond.instanceMethod yX11_reachedBy, Cond.selects RX11 yX11_reachedBy yX11_reachedBy, Cond.code yX11_reachedBy cX11_reachedBy 12 (some .int), Cond.methodLink RX11 70 yX11_fromOf, Cond.instanceMethod yX11_fromOf, Cond.selects RX11 yX11_fromOf yX11_fromOf, Cond.code yX11_fromOf cX11_fromOf 3 (some .int), Cond.methodLink RX11 99 yX11_toOf, Cond.instanceMethod yX11_toOf, Cond.selects RX11 yX11_toOf yX11_toOf, Cond.code yX11_toOf cX11_toOf 3 (some .int), Cond.methodLink RX11 102 yX11_has, Cond.static yX11_has, Cond.code yX11_has cX11_has 2 (some .boolean), Cond.methodLink RX11 127 yX11_lidOf, Cond.instanceMethod yX11_lidOf, Cond.selects RX11 yX11_lidOf yX11_lidOf, Cond.code yX11_lidOf cX11_lidOf 5 (some .int), Cond.methodLink RX11 152 yX11_layTrial, Cond.instanceMethod yX11_layTrial, Cond.selects RX11 yX11_layTrial yX11_layTrial, Cond.code yX11_layTrial cX11_layTrial 2 none]
def wsX11_would_r3 : List Cond := [Cond.methodLink RX11 88 yX11_insertOn, Cond.instanceMethod yX11_insertOn, Cond.selects RX11 yX11_insertOn yX11_insertOn, Cond.code yX11_insertOn cX11_insertOn 5 none, Cond.methodLink RX11 148 yX11_deleteOn, Cond.instanceMethod yX11_deleteOn, Cond.selects RX11 yX11_deleteOn yX11_deleteOn, Cond.code yX11_deleteOn cX11_deleteOn 5 none]
def wsX11_would : List Cond := .code yX11_would cX11_would 7 (some .int) :: ((wsX11_would_r1 ++ (wsX11_would_r2 ++ wsX11_would_r3)) ++ wsX110)
def wsX11_isShown : List Cond := .code yX11_isShown cX11_isShown 8 (some .boolean) :: ([.fieldLink RX11 38 "CoverOrderModel" "shown" "[I", .fieldLink RX11 20 "CoverOrderModel" "covers" "[I", .methodLink RX11 84 yX11_find, .instanceMethod yX11_find, .selects RX11 yX11_find yX11_find, .initialized RX11, .code yX11_find cX11_find 6 (some .int), .fieldLink RX11 13 "CoverOrderModel" "now" "[I", .methodLink RX11 66 yX11_many, .instanceMethod yX11_many, .selects RX11 yX11_many yX11_many, .code yX11_many cX11_many 2 (some .int), .methodLink RX11 102 yX11_has, .static yX11_has, .code yX11_has cX11_has 2 (some .boolean), .methodLink RX11 127 yX11_lidOf, .instanceMethod yX11_lidOf, .selects RX11 yX11_lidOf yX11_lidOf, .code yX11_lidOf cX11_lidOf 5 (some .int), .fieldLink RX11 110 "CoverOrderModel" "reached" "I"] ++ wsX110)
def wsX11_firstWrong_r1 : List Cond := [Cond.fieldLink RX11 38 "CoverOrderModel" "shown" "[I", Cond.constantLong RX11 155 (7), Cond.fieldLink RX11 110 "CoverOrderModel" "reached" "I", Cond.fieldLink RX11 20 "CoverOrderModel" "covers" "[I", Cond.methodLink RX11 59 yX11_in, Cond.static yX11_in, Cond.initialized RX11, Cond.code yX11_in cX11_in 6 (some .boolean), Cond.methodLink RX11 102 yX11_has, Cond.static yX11_has, Cond.code yX11_has cX11_has 2 (some .boolean), Cond.methodLink RX11 127 yX11_lidOf, Cond.instanceMethod yX11_lidOf, Cond.selects RX11 yX11_lidOf yX11_lidOf, Cond.code yX11_lidOf cX11_lidOf 5 (some .int), Cond.methodLink RX11 157 yX11_isShown, Cond.instanceMethod yX11_isShown, Cond.selects RX11 yX11_isShown yX11_isShown, Cond.code yX11_isShown cX11_isShown 8 (some .boolean), Cond.methodLink RX11 84 yX11_find, Cond.instanceMethod yX11_find, Cond.selects RX11 yX11_find yX11_find, Cond.code yX11_find cX11_find 6 (some .int), Cond.fieldLink RX11 13 "CoverOrderModel" "now" "[I"]
def wsX11_firstWrong_r2 : List Cond := [Cond.methodLink RX11 66 yX11_many, Cond.instanceMethod yX11_many, Cond.selects RX11 yX11_many yX11_many, Cond.code yX11_many cX11_many 2 (some .int)]
def wsX11_firstWrong : List Cond := .code yX11_firstWrong cX11_firstWrong 5 (some .int) :: ((wsX11_firstWrong_r1 ++ wsX11_firstWrong_r2) ++ wsX110)
def wsX11_nextRow : List Cond := .code yX11_nextRow cX11_nextRow 7 (some .boolean) :: ([.fieldLink RX11 38 "CoverOrderModel" "shown" "[I"] ++ wsX110)
def wsX11_showing_r1 : List Cond := [Cond.fieldLink RX11 38 "CoverOrderModel" "shown" "[I", Cond.fieldLink RX11 110 "CoverOrderModel" "reached" "I", Cond.methodLink RX11 120 yX11_findCovers, Cond.instanceMethod yX11_findCovers, Cond.selects RX11 yX11_findCovers yX11_findCovers, Cond.initialized RX11, Cond.code yX11_findCovers cX11_findCovers 5 none, Cond.fieldLink RX11 20 "CoverOrderModel" "covers" "[I", Cond.methodLink RX11 106 yX11_reachedBy, Cond.instanceMethod yX11_reachedBy, Cond.selects RX11 yX11_reachedBy yX11_reachedBy, Cond.code yX11_reachedBy cX11_reachedBy 12 (some .int), Cond.methodLink RX11 66 yX11_many, Cond.instanceMethod yX11_many, Cond.selects RX11 yX11_many yX11_many, Cond.code yX11_many cX11_many 2 (some .int), Cond.fieldLink RX11 13 "CoverOrderModel" "now" "[I", Cond.methodLink RX11 70 yX11_fromOf, Cond.instanceMethod yX11_fromOf, Cond.selects RX11 yX11_fromOf yX11_fromOf, Cond.code yX11_fromOf cX11_fromOf 3 (some .int), Cond.methodLink RX11 99 yX11_toOf, Cond.instanceMethod yX11_toOf, Cond.selects RX11 yX11_toOf yX11_toOf]
def wsX11_showing_r2 : List Cond := [Cond.code yX11_toOf cX11_toOf 3 (some .int), Cond.methodLink RX11 102 yX11_has, Cond.static yX11_has, Cond.code yX11_has cX11_has 2 (some .boolean), Cond.methodLink RX11 59 yX11_in, Cond.static yX11_in, Cond.code yX11_in cX11_in 6 (some .boolean), Cond.methodLink RX11 160 yX11_firstWrong, Cond.instanceMethod yX11_firstWrong, Cond.selects RX11 yX11_firstWrong yX11_firstWrong, Cond.code yX11_firstWrong cX11_firstWrong 5 (some .int), Cond.constantLong RX11 155 (7), Cond.methodLink RX11 127 yX11_lidOf, Cond.instanceMethod yX11_lidOf, Cond.selects RX11 yX11_lidOf yX11_lidOf, Cond.code yX11_lidOf cX11_lidOf 5 (some .int), Cond.methodLink RX11 157 yX11_isShown, Cond.instanceMethod yX11_isShown, Cond.selects RX11 yX11_isShown yX11_isShown, Cond.code yX11_isShown cX11_isShown 8 (some .boolean), Cond.methodLink RX11 84 yX11_find, Cond.instanceMethod yX11_find, Cond.selects RX11 yX11_find yX11_find, Cond.code yX11_find cX11_find 6 (some .int)]
def wsX11_showing_r3 : List Cond := [Cond.methodLink RX11 163 yX11_nextRow, Cond.instanceMethod yX11_nextRow, Cond.selects RX11 yX11_nextRow yX11_nextRow, Cond.code yX11_nextRow cX11_nextRow 7 (some .boolean)]
def wsX11_showing : List Cond := .code yX11_showing cX11_showing 4 (some .int) :: ((wsX11_showing_r1 ++ (wsX11_showing_r2 ++ wsX11_showing_r3)) ++ wsX110)
def wsX11_tenTo : List Cond := .code yX11_tenTo cX11_tenTo 4 (some .long) :: ([.constantLong RX11 166 (10)])
def wsX11_look_r1 : List Cond := [Cond.fieldLink RX11 110 "CoverOrderModel" "reached" "I", Cond.fieldLink RX11 38 "CoverOrderModel" "shown" "[I", Cond.constantLong RX11 166 (10), Cond.methodLink RX11 120 yX11_findCovers, Cond.instanceMethod yX11_findCovers, Cond.selects RX11 yX11_findCovers yX11_findCovers, Cond.initialized RX11, Cond.code yX11_findCovers cX11_findCovers 5 none, Cond.fieldLink RX11 20 "CoverOrderModel" "covers" "[I", Cond.methodLink RX11 106 yX11_reachedBy, Cond.instanceMethod yX11_reachedBy, Cond.selects RX11 yX11_reachedBy yX11_reachedBy, Cond.code yX11_reachedBy cX11_reachedBy 12 (some .int), Cond.methodLink RX11 66 yX11_many, Cond.instanceMethod yX11_many, Cond.selects RX11 yX11_many yX11_many, Cond.code yX11_many cX11_many 2 (some .int), Cond.fieldLink RX11 13 "CoverOrderModel" "now" "[I", Cond.methodLink RX11 70 yX11_fromOf, Cond.instanceMethod yX11_fromOf, Cond.selects RX11 yX11_fromOf yX11_fromOf, Cond.code yX11_fromOf cX11_fromOf 3 (some .int), Cond.methodLink RX11 99 yX11_toOf, Cond.instanceMethod yX11_toOf]
def wsX11_look_r2 : List Cond := [Cond.selects RX11 yX11_toOf yX11_toOf, Cond.code yX11_toOf cX11_toOf 3 (some .int), Cond.methodLink RX11 102 yX11_has, Cond.static yX11_has, Cond.code yX11_has cX11_has 2 (some .boolean), Cond.methodLink RX11 113 yX11_ones, Cond.static yX11_ones, Cond.code yX11_ones cX11_ones 3 (some .int), Cond.methodLink RX11 168 yX11_tenTo, Cond.static yX11_tenTo, Cond.code yX11_tenTo cX11_tenTo 4 (some .long), Cond.methodLink RX11 59 yX11_in, Cond.static yX11_in, Cond.code yX11_in cX11_in 6 (some .boolean), Cond.methodLink RX11 160 yX11_firstWrong, Cond.instanceMethod yX11_firstWrong, Cond.selects RX11 yX11_firstWrong yX11_firstWrong, Cond.code yX11_firstWrong cX11_firstWrong 5 (some .int), Cond.constantLong RX11 155 (7), Cond.methodLink RX11 127 yX11_lidOf, Cond.instanceMethod yX11_lidOf, Cond.selects RX11 yX11_lidOf yX11_lidOf, Cond.code yX11_lidOf cX11_lidOf 5 (some .int), Cond.methodLink RX11 157 yX11_isShown]
def wsX11_look_r3 : List Cond := [Cond.instanceMethod yX11_isShown, Cond.selects RX11 yX11_isShown yX11_isShown, Cond.code yX11_isShown cX11_isShown 8 (some .boolean), Cond.methodLink RX11 84 yX11_find, Cond.instanceMethod yX11_find, Cond.selects RX11 yX11_find yX11_find, Cond.code yX11_find cX11_find 6 (some .int)]
def wsX11_look : List Cond := .code yX11_look cX11_look 5 (some .int) :: ((wsX11_look_r1 ++ (wsX11_look_r2 ++ wsX11_look_r3)) ++ wsX110)
def wsX11_tryThing_r1 : List Cond := [Cond.fieldLink RX11 20 "CoverOrderModel" "covers" "[I", Cond.fieldLink RX11 110 "CoverOrderModel" "reached" "I", Cond.methodLink RX11 116 yX11_isKnot, Cond.instanceMethod yX11_isKnot, Cond.selects RX11 yX11_isKnot yX11_isKnot, Cond.initialized RX11, Cond.code yX11_isKnot cX11_isKnot 2 (some .boolean), Cond.fieldLink RX11 7 "CoverOrderModel" "knots" "I", Cond.methodLink RX11 59 yX11_in, Cond.static yX11_in, Cond.code yX11_in cX11_in 6 (some .boolean), Cond.methodLink RX11 84 yX11_find, Cond.instanceMethod yX11_find, Cond.selects RX11 yX11_find yX11_find, Cond.code yX11_find cX11_find 6 (some .int), Cond.fieldLink RX11 13 "CoverOrderModel" "now" "[I", Cond.methodLink RX11 66 yX11_many, Cond.instanceMethod yX11_many, Cond.selects RX11 yX11_many yX11_many, Cond.code yX11_many cX11_many 2 (some .int), Cond.methodLink RX11 88 yX11_insertOn, Cond.instanceMethod yX11_insertOn, Cond.selects RX11 yX11_insertOn yX11_insertOn, Cond.code yX11_insertOn cX11_insertOn 5 none]
def wsX11_tryThing_r2 : List Cond := [Cond.methodLink RX11 148 yX11_deleteOn, Cond.instanceMethod yX11_deleteOn, Cond.selects RX11 yX11_deleteOn yX11_deleteOn, Cond.code yX11_deleteOn cX11_deleteOn 5 none, Cond.methodLink RX11 120 yX11_findCovers, Cond.instanceMethod yX11_findCovers, Cond.selects RX11 yX11_findCovers yX11_findCovers, Cond.code yX11_findCovers cX11_findCovers 5 none, Cond.methodLink RX11 106 yX11_reachedBy, Cond.instanceMethod yX11_reachedBy, Cond.selects RX11 yX11_reachedBy yX11_reachedBy, Cond.code yX11_reachedBy cX11_reachedBy 12 (some .int), Cond.methodLink RX11 70 yX11_fromOf, Cond.instanceMethod yX11_fromOf, Cond.selects RX11 yX11_fromOf yX11_fromOf, Cond.code yX11_fromOf cX11_fromOf 3 (some .int), Cond.methodLink RX11 99 yX11_toOf, Cond.instanceMethod yX11_toOf, Cond.selects RX11 yX11_toOf yX11_toOf, Cond.code yX11_toOf cX11_toOf 3 (some .int), Cond.methodLink RX11 102 yX11_has, Cond.static yX11_has, Cond.code yX11_has cX11_has 2 (some .boolean), Cond.methodLink RX11 124 yX11_walk]
def wsX11_tryThing_r3 : List Cond := [Cond.instanceMethod yX11_walk, Cond.selects RX11 yX11_walk yX11_walk, Cond.code yX11_walk cX11_walk 7 none, Cond.fieldLink RX11 23 "CoverOrderModel" "order" "[I", Cond.fieldLink RX11 29 "CoverOrderModel" "tried" "[I", Cond.fieldLink RX11 26 "CoverOrderModel" "way" "[I", Cond.methodLink RX11 127 yX11_lidOf, Cond.instanceMethod yX11_lidOf, Cond.selects RX11 yX11_lidOf yX11_lidOf, Cond.code yX11_lidOf cX11_lidOf 5 (some .int), Cond.methodLink RX11 130 yX11_depthOf, Cond.instanceMethod yX11_depthOf, Cond.selects RX11 yX11_depthOf yX11_depthOf, Cond.code yX11_depthOf cX11_depthOf 2 (some .int), Cond.methodLink RX11 113 yX11_ones, Cond.static yX11_ones, Cond.code yX11_ones cX11_ones 3 (some .int), Cond.methodLink RX11 133 yX11_halfOf, Cond.instanceMethod yX11_halfOf, Cond.selects RX11 yX11_halfOf yX11_halfOf, Cond.code yX11_halfOf cX11_halfOf 8 (some .int), Cond.methodLink RX11 139 yX11_rimOf, Cond.instanceMethod yX11_rimOf, Cond.selects RX11 yX11_rimOf yX11_rimOf]
def wsX11_tryThing_r4 : List Cond := [Cond.code yX11_rimOf cX11_rimOf 7 (some .int)]
def wsX11_tryThing : List Cond := .code yX11_tryThing cX11_tryThing 6 (some .boolean) :: ((wsX11_tryThing_r1 ++ (wsX11_tryThing_r2 ++ (wsX11_tryThing_r3 ++ wsX11_tryThing_r4))) ++ wsX110)
def wsX11_judge_r1 : List Cond := [Cond.constantLong RX11 172 (4), Cond.constantLong RX11 174 (1000), Cond.methodLink RX11 59 yX11_in, Cond.static yX11_in, Cond.initialized RX11, Cond.code yX11_in cX11_in 6 (some .boolean), Cond.methodLink RX11 168 yX11_tenTo, Cond.static yX11_tenTo, Cond.code yX11_tenTo cX11_tenTo 4 (some .long), Cond.constantLong RX11 166 (10), Cond.methodLink RX11 152 yX11_layTrial, Cond.instanceMethod yX11_layTrial, Cond.selects RX11 yX11_layTrial yX11_layTrial, Cond.code yX11_layTrial cX11_layTrial 2 none, Cond.fieldLink RX11 13 "CoverOrderModel" "now" "[I", Cond.methodLink RX11 176 yX11_tryThing, Cond.instanceMethod yX11_tryThing, Cond.selects RX11 yX11_tryThing yX11_tryThing, Cond.code yX11_tryThing cX11_tryThing 6 (some .boolean), Cond.fieldLink RX11 20 "CoverOrderModel" "covers" "[I", Cond.fieldLink RX11 110 "CoverOrderModel" "reached" "I", Cond.methodLink RX11 116 yX11_isKnot, Cond.instanceMethod yX11_isKnot, Cond.selects RX11 yX11_isKnot yX11_isKnot]
def wsX11_judge_r2 : List Cond := [Cond.code yX11_isKnot cX11_isKnot 2 (some .boolean), Cond.fieldLink RX11 7 "CoverOrderModel" "knots" "I", Cond.methodLink RX11 84 yX11_find, Cond.instanceMethod yX11_find, Cond.selects RX11 yX11_find yX11_find, Cond.code yX11_find cX11_find 6 (some .int), Cond.methodLink RX11 66 yX11_many, Cond.instanceMethod yX11_many, Cond.selects RX11 yX11_many yX11_many, Cond.code yX11_many cX11_many 2 (some .int), Cond.methodLink RX11 88 yX11_insertOn, Cond.instanceMethod yX11_insertOn, Cond.selects RX11 yX11_insertOn yX11_insertOn, Cond.code yX11_insertOn cX11_insertOn 5 none, Cond.methodLink RX11 148 yX11_deleteOn, Cond.instanceMethod yX11_deleteOn, Cond.selects RX11 yX11_deleteOn yX11_deleteOn, Cond.code yX11_deleteOn cX11_deleteOn 5 none, Cond.methodLink RX11 120 yX11_findCovers, Cond.instanceMethod yX11_findCovers, Cond.selects RX11 yX11_findCovers yX11_findCovers, Cond.code yX11_findCovers cX11_findCovers 5 none, Cond.methodLink RX11 106 yX11_reachedBy, Cond.instanceMethod yX11_reachedBy]
def wsX11_judge_r3 : List Cond := [Cond.selects RX11 yX11_reachedBy yX11_reachedBy, Cond.code yX11_reachedBy cX11_reachedBy 12 (some .int), Cond.methodLink RX11 70 yX11_fromOf, Cond.instanceMethod yX11_fromOf, Cond.selects RX11 yX11_fromOf yX11_fromOf, Cond.code yX11_fromOf cX11_fromOf 3 (some .int), Cond.methodLink RX11 99 yX11_toOf, Cond.instanceMethod yX11_toOf, Cond.selects RX11 yX11_toOf yX11_toOf, Cond.code yX11_toOf cX11_toOf 3 (some .int), Cond.methodLink RX11 102 yX11_has, Cond.static yX11_has, Cond.code yX11_has cX11_has 2 (some .boolean), Cond.methodLink RX11 124 yX11_walk, Cond.instanceMethod yX11_walk, Cond.selects RX11 yX11_walk yX11_walk, Cond.code yX11_walk cX11_walk 7 none, Cond.fieldLink RX11 23 "CoverOrderModel" "order" "[I", Cond.fieldLink RX11 29 "CoverOrderModel" "tried" "[I", Cond.fieldLink RX11 26 "CoverOrderModel" "way" "[I", Cond.methodLink RX11 127 yX11_lidOf, Cond.instanceMethod yX11_lidOf, Cond.selects RX11 yX11_lidOf yX11_lidOf, Cond.code yX11_lidOf cX11_lidOf 5 (some .int)]
def wsX11_judge_r4 : List Cond := [Cond.methodLink RX11 130 yX11_depthOf, Cond.instanceMethod yX11_depthOf, Cond.selects RX11 yX11_depthOf yX11_depthOf, Cond.code yX11_depthOf cX11_depthOf 2 (some .int), Cond.methodLink RX11 113 yX11_ones, Cond.static yX11_ones, Cond.code yX11_ones cX11_ones 3 (some .int), Cond.methodLink RX11 133 yX11_halfOf, Cond.instanceMethod yX11_halfOf, Cond.selects RX11 yX11_halfOf yX11_halfOf, Cond.code yX11_halfOf cX11_halfOf 8 (some .int), Cond.methodLink RX11 139 yX11_rimOf, Cond.instanceMethod yX11_rimOf, Cond.selects RX11 yX11_rimOf yX11_rimOf, Cond.code yX11_rimOf cX11_rimOf 7 (some .int)]
def wsX11_judge : List Cond := .code yX11_judge cX11_judge 6 (some .int) :: ((wsX11_judge_r1 ++ (wsX11_judge_r2 ++ (wsX11_judge_r3 ++ wsX11_judge_r4))) ++ wsX110)
def wsX11_see : List Cond := .code yX11_see cX11_see 4 (some .int) :: ([.constantLong RX11 155 (7), .fieldLink RX11 180 "CoverOrderModel" "seen" "I", .fieldLink RX11 41 "CoverOrderModel" "seenKnot" "[I", .fieldLink RX11 44 "CoverOrderModel" "seenLid" "[I", .fieldLink RX11 47 "CoverOrderModel" "seenHad" "[I", .methodLink RX11 59 yX11_in, .static yX11_in, .initialized RX11, .code yX11_in cX11_in 6 (some .boolean)] ++ wsX110)
def wsX11_unsee : List Cond := .code yX11_unsee cX11_unsee 2 (some .int) :: ([.fieldLink RX11 180 "CoverOrderModel" "seen" "I"] ++ wsX110)
def wsX11_mayBe_r1 : List Cond := [Cond.fieldLink RX11 180 "CoverOrderModel" "seen" "I", Cond.fieldLink RX11 41 "CoverOrderModel" "seenKnot" "[I", Cond.fieldLink RX11 44 "CoverOrderModel" "seenLid" "[I", Cond.fieldLink RX11 47 "CoverOrderModel" "seenHad" "[I", Cond.methodLink RX11 152 yX11_layTrial, Cond.instanceMethod yX11_layTrial, Cond.selects RX11 yX11_layTrial yX11_layTrial, Cond.initialized RX11, Cond.code yX11_layTrial cX11_layTrial 2 none, Cond.fieldLink RX11 13 "CoverOrderModel" "now" "[I", Cond.methodLink RX11 88 yX11_insertOn, Cond.instanceMethod yX11_insertOn, Cond.selects RX11 yX11_insertOn yX11_insertOn, Cond.code yX11_insertOn cX11_insertOn 5 none, Cond.methodLink RX11 120 yX11_findCovers, Cond.instanceMethod yX11_findCovers, Cond.selects RX11 yX11_findCovers yX11_findCovers, Cond.code yX11_findCovers cX11_findCovers 5 none, Cond.fieldLink RX11 110 "CoverOrderModel" "reached" "I", Cond.fieldLink RX11 20 "CoverOrderModel" "covers" "[I", Cond.methodLink RX11 106 yX11_reachedBy, Cond.instanceMethod yX11_reachedBy, Cond.selects RX11 yX11_reachedBy yX11_reachedBy, Cond.code yX11_reachedBy cX11_reachedBy 12 (some .int)]
def wsX11_mayBe_r2 : List Cond := [Cond.methodLink RX11 66 yX11_many, Cond.instanceMethod yX11_many, Cond.selects RX11 yX11_many yX11_many, Cond.code yX11_many cX11_many 2 (some .int), Cond.methodLink RX11 70 yX11_fromOf, Cond.instanceMethod yX11_fromOf, Cond.selects RX11 yX11_fromOf yX11_fromOf, Cond.code yX11_fromOf cX11_fromOf 3 (some .int), Cond.methodLink RX11 99 yX11_toOf, Cond.instanceMethod yX11_toOf, Cond.selects RX11 yX11_toOf yX11_toOf, Cond.code yX11_toOf cX11_toOf 3 (some .int), Cond.methodLink RX11 102 yX11_has, Cond.static yX11_has, Cond.code yX11_has cX11_has 2 (some .boolean), Cond.methodLink RX11 127 yX11_lidOf, Cond.instanceMethod yX11_lidOf, Cond.selects RX11 yX11_lidOf yX11_lidOf, Cond.code yX11_lidOf cX11_lidOf 5 (some .int)]
def wsX11_mayBe : List Cond := .code yX11_mayBe cX11_mayBe 5 (some .boolean) :: ((wsX11_mayBe_r1 ++ wsX11_mayBe_r2) ++ wsX110)
def wsX11_missing_r1 : List Cond := [Cond.methodLink RX11 59 yX11_in, Cond.static yX11_in, Cond.initialized RX11, Cond.code yX11_in cX11_in 6 (some .boolean), Cond.methodLink RX11 66 yX11_many, Cond.instanceMethod yX11_many, Cond.selects RX11 yX11_many yX11_many, Cond.code yX11_many cX11_many 2 (some .int), Cond.fieldLink RX11 13 "CoverOrderModel" "now" "[I", Cond.methodLink RX11 116 yX11_isKnot, Cond.instanceMethod yX11_isKnot, Cond.selects RX11 yX11_isKnot yX11_isKnot, Cond.code yX11_isKnot cX11_isKnot 2 (some .boolean), Cond.fieldLink RX11 7 "CoverOrderModel" "knots" "I", Cond.methodLink RX11 84 yX11_find, Cond.instanceMethod yX11_find, Cond.selects RX11 yX11_find yX11_find, Cond.code yX11_find cX11_find 6 (some .int), Cond.methodLink RX11 183 yX11_mayBe, Cond.instanceMethod yX11_mayBe, Cond.selects RX11 yX11_mayBe yX11_mayBe, Cond.code yX11_mayBe cX11_mayBe 5 (some .boolean), Cond.fieldLink RX11 180 "CoverOrderModel" "seen" "I", Cond.fieldLink RX11 41 "CoverOrderModel" "seenKnot" "[I"]
def wsX11_missing_r2 : List Cond := [Cond.fieldLink RX11 44 "CoverOrderModel" "seenLid" "[I", Cond.fieldLink RX11 47 "CoverOrderModel" "seenHad" "[I", Cond.methodLink RX11 152 yX11_layTrial, Cond.instanceMethod yX11_layTrial, Cond.selects RX11 yX11_layTrial yX11_layTrial, Cond.code yX11_layTrial cX11_layTrial 2 none, Cond.methodLink RX11 88 yX11_insertOn, Cond.instanceMethod yX11_insertOn, Cond.selects RX11 yX11_insertOn yX11_insertOn, Cond.code yX11_insertOn cX11_insertOn 5 none, Cond.methodLink RX11 120 yX11_findCovers, Cond.instanceMethod yX11_findCovers, Cond.selects RX11 yX11_findCovers yX11_findCovers, Cond.code yX11_findCovers cX11_findCovers 5 none, Cond.fieldLink RX11 110 "CoverOrderModel" "reached" "I", Cond.fieldLink RX11 20 "CoverOrderModel" "covers" "[I", Cond.methodLink RX11 106 yX11_reachedBy, Cond.instanceMethod yX11_reachedBy, Cond.selects RX11 yX11_reachedBy yX11_reachedBy, Cond.code yX11_reachedBy cX11_reachedBy 12 (some .int), Cond.methodLink RX11 70 yX11_fromOf, Cond.instanceMethod yX11_fromOf, Cond.selects RX11 yX11_fromOf yX11_fromOf, Cond.code yX11_fromOf cX11_fromOf 3 (some .int)]
def wsX11_missing_r3 : List Cond := [Cond.methodLink RX11 99 yX11_toOf, Cond.instanceMethod yX11_toOf, Cond.selects RX11 yX11_toOf yX11_toOf, Cond.code yX11_toOf cX11_toOf 3 (some .int), Cond.methodLink RX11 102 yX11_has, Cond.static yX11_has, Cond.code yX11_has cX11_has 2 (some .boolean), Cond.methodLink RX11 127 yX11_lidOf, Cond.instanceMethod yX11_lidOf, Cond.selects RX11 yX11_lidOf yX11_lidOf, Cond.code yX11_lidOf cX11_lidOf 5 (some .int)]
def wsX11_missing : List Cond := .code yX11_missing cX11_missing 6 (some .int) :: ((wsX11_missing_r1 ++ (wsX11_missing_r2 ++ wsX11_missing_r3)) ++ wsX110)
def wsX11_factorial : List Cond := .code yX11_factorial cX11_factorial 3 (some .int) :: ([])
def wsX11_common : List Cond := .code yX11_common cX11_common 5 (some .int) :: ([])
def wsX11_share_r1 : List Cond := [Cond.methodLink RX11 116 yX11_isKnot, Cond.instanceMethod yX11_isKnot, Cond.selects RX11 yX11_isKnot yX11_isKnot, Cond.initialized RX11, Cond.code yX11_isKnot cX11_isKnot 2 (some .boolean), Cond.fieldLink RX11 7 "CoverOrderModel" "knots" "I", Cond.methodLink RX11 59 yX11_in, Cond.static yX11_in, Cond.code yX11_in cX11_in 6 (some .boolean), Cond.methodLink RX11 84 yX11_find, Cond.instanceMethod yX11_find, Cond.selects RX11 yX11_find yX11_find, Cond.code yX11_find cX11_find 6 (some .int), Cond.fieldLink RX11 13 "CoverOrderModel" "now" "[I", Cond.methodLink RX11 66 yX11_many, Cond.instanceMethod yX11_many, Cond.selects RX11 yX11_many yX11_many, Cond.code yX11_many cX11_many 2 (some .int), Cond.methodLink RX11 70 yX11_fromOf, Cond.instanceMethod yX11_fromOf, Cond.selects RX11 yX11_fromOf yX11_fromOf, Cond.code yX11_fromOf cX11_fromOf 3 (some .int), Cond.methodLink RX11 81 yX11_outOf, Cond.instanceMethod yX11_outOf]
def wsX11_share_r2 : List Cond := [Cond.selects RX11 yX11_outOf yX11_outOf, Cond.code yX11_outOf cX11_outOf 5 (some .int), Cond.methodLink RX11 102 yX11_has, Cond.static yX11_has, Cond.code yX11_has cX11_has 2 (some .boolean), Cond.methodLink RX11 113 yX11_ones, Cond.static yX11_ones, Cond.code yX11_ones cX11_ones 3 (some .int), Cond.methodLink RX11 186 yX11_factorial, Cond.static yX11_factorial, Cond.code yX11_factorial cX11_factorial 3 (some .int), Cond.methodLink RX11 106 yX11_reachedBy, Cond.instanceMethod yX11_reachedBy, Cond.selects RX11 yX11_reachedBy yX11_reachedBy, Cond.code yX11_reachedBy cX11_reachedBy 12 (some .int), Cond.methodLink RX11 99 yX11_toOf, Cond.instanceMethod yX11_toOf, Cond.selects RX11 yX11_toOf yX11_toOf, Cond.code yX11_toOf cX11_toOf 3 (some .int), Cond.methodLink RX11 189 yX11_common, Cond.static yX11_common, Cond.code yX11_common cX11_common 5 (some .int)]
def wsX11_share : List Cond := .code yX11_share cX11_share 10 (some .int) :: ((wsX11_share_r1 ++ wsX11_share_r2) ++ wsX110)
def wsX11_spared_r1 : List Cond := [Cond.constantLong RX11 192 (8), Cond.constantLong RX11 166 (10), Cond.methodLink RX11 116 yX11_isKnot, Cond.instanceMethod yX11_isKnot, Cond.selects RX11 yX11_isKnot yX11_isKnot, Cond.initialized RX11, Cond.code yX11_isKnot cX11_isKnot 2 (some .boolean), Cond.fieldLink RX11 7 "CoverOrderModel" "knots" "I", Cond.methodLink RX11 59 yX11_in, Cond.static yX11_in, Cond.code yX11_in cX11_in 6 (some .boolean), Cond.methodLink RX11 81 yX11_outOf, Cond.instanceMethod yX11_outOf, Cond.selects RX11 yX11_outOf yX11_outOf, Cond.code yX11_outOf cX11_outOf 5 (some .int), Cond.methodLink RX11 66 yX11_many, Cond.instanceMethod yX11_many, Cond.selects RX11 yX11_many yX11_many, Cond.code yX11_many cX11_many 2 (some .int), Cond.fieldLink RX11 13 "CoverOrderModel" "now" "[I", Cond.methodLink RX11 70 yX11_fromOf, Cond.instanceMethod yX11_fromOf, Cond.selects RX11 yX11_fromOf yX11_fromOf, Cond.code yX11_fromOf cX11_fromOf 3 (some .int)]
def wsX11_spared_r2 : List Cond := [Cond.methodLink RX11 102 yX11_has, Cond.static yX11_has, Cond.code yX11_has cX11_has 2 (some .boolean), Cond.methodLink RX11 106 yX11_reachedBy, Cond.instanceMethod yX11_reachedBy, Cond.selects RX11 yX11_reachedBy yX11_reachedBy, Cond.code yX11_reachedBy cX11_reachedBy 12 (some .int), Cond.methodLink RX11 99 yX11_toOf, Cond.instanceMethod yX11_toOf, Cond.selects RX11 yX11_toOf yX11_toOf, Cond.code yX11_toOf cX11_toOf 3 (some .int), Cond.methodLink RX11 113 yX11_ones, Cond.static yX11_ones, Cond.code yX11_ones cX11_ones 3 (some .int), Cond.methodLink RX11 189 yX11_common, Cond.static yX11_common, Cond.code yX11_common cX11_common 5 (some .int)]
def wsX11_spared : List Cond := .code yX11_spared cX11_spared 11 (some .int) :: ((wsX11_spared_r1 ++ wsX11_spared_r2) ++ wsX110)
def wsX11_seed : List Cond := .code yX11_seed cX11_seed 5 (some .long) :: ([.fieldLink RX11 194 "CoverOrderModel" "seed" "J"] ++ wsX110)
def wsX11_depthsTogether : List Cond := .code yX11_depthsTogether cX11_depthsTogether 3 (some .int) :: ([.fieldLink RX11 110 "CoverOrderModel" "reached" "I", .methodLink RX11 102 yX11_has, .static yX11_has, .initialized RX11, .code yX11_has cX11_has 2 (some .boolean), .methodLink RX11 130 yX11_depthOf, .instanceMethod yX11_depthOf, .selects RX11 yX11_depthOf yX11_depthOf, .code yX11_depthOf cX11_depthOf 2 (some .int), .fieldLink RX11 20 "CoverOrderModel" "covers" "[I", .methodLink RX11 113 yX11_ones, .static yX11_ones, .code yX11_ones cX11_ones 3 (some .int)] ++ wsX110)
def wsX11_drawn_r1 : List Cond := [Cond.constantLong RX11 198 (20), Cond.fieldLink RX11 194 "CoverOrderModel" "seed" "J", Cond.constantLong RX11 200 (6364136223846793005), Cond.constantLong RX11 202 (1442695040888963407), Cond.fieldLink RX11 7 "CoverOrderModel" "knots" "I", Cond.methodLink RX11 59 yX11_in, Cond.static yX11_in, Cond.initialized RX11, Cond.code yX11_in cX11_in 6 (some .boolean), Cond.methodLink RX11 152 yX11_layTrial, Cond.instanceMethod yX11_layTrial, Cond.selects RX11 yX11_layTrial yX11_layTrial, Cond.code yX11_layTrial cX11_layTrial 2 none, Cond.fieldLink RX11 13 "CoverOrderModel" "now" "[I", Cond.methodLink RX11 84 yX11_find, Cond.instanceMethod yX11_find, Cond.selects RX11 yX11_find yX11_find, Cond.code yX11_find cX11_find 6 (some .int), Cond.methodLink RX11 66 yX11_many, Cond.instanceMethod yX11_many, Cond.selects RX11 yX11_many yX11_many, Cond.code yX11_many cX11_many 2 (some .int), Cond.methodLink RX11 176 yX11_tryThing, Cond.instanceMethod yX11_tryThing]
def wsX11_drawn_r2 : List Cond := [Cond.selects RX11 yX11_tryThing yX11_tryThing, Cond.code yX11_tryThing cX11_tryThing 6 (some .boolean), Cond.fieldLink RX11 20 "CoverOrderModel" "covers" "[I", Cond.fieldLink RX11 110 "CoverOrderModel" "reached" "I", Cond.methodLink RX11 116 yX11_isKnot, Cond.instanceMethod yX11_isKnot, Cond.selects RX11 yX11_isKnot yX11_isKnot, Cond.code yX11_isKnot cX11_isKnot 2 (some .boolean), Cond.methodLink RX11 88 yX11_insertOn, Cond.instanceMethod yX11_insertOn, Cond.selects RX11 yX11_insertOn yX11_insertOn, Cond.code yX11_insertOn cX11_insertOn 5 none, Cond.methodLink RX11 148 yX11_deleteOn, Cond.instanceMethod yX11_deleteOn, Cond.selects RX11 yX11_deleteOn yX11_deleteOn, Cond.code yX11_deleteOn cX11_deleteOn 5 none, Cond.methodLink RX11 120 yX11_findCovers, Cond.instanceMethod yX11_findCovers, Cond.selects RX11 yX11_findCovers yX11_findCovers, Cond.code yX11_findCovers cX11_findCovers 5 none, Cond.methodLink RX11 106 yX11_reachedBy, Cond.instanceMethod yX11_reachedBy, Cond.selects RX11 yX11_reachedBy yX11_reachedBy, Cond.code yX11_reachedBy cX11_reachedBy 12 (some .int)]
def wsX11_drawn_r3 : List Cond := [Cond.methodLink RX11 70 yX11_fromOf, Cond.instanceMethod yX11_fromOf, Cond.selects RX11 yX11_fromOf yX11_fromOf, Cond.code yX11_fromOf cX11_fromOf 3 (some .int), Cond.methodLink RX11 99 yX11_toOf, Cond.instanceMethod yX11_toOf, Cond.selects RX11 yX11_toOf yX11_toOf, Cond.code yX11_toOf cX11_toOf 3 (some .int), Cond.methodLink RX11 102 yX11_has, Cond.static yX11_has, Cond.code yX11_has cX11_has 2 (some .boolean), Cond.methodLink RX11 124 yX11_walk, Cond.instanceMethod yX11_walk, Cond.selects RX11 yX11_walk yX11_walk, Cond.code yX11_walk cX11_walk 7 none, Cond.fieldLink RX11 23 "CoverOrderModel" "order" "[I", Cond.fieldLink RX11 29 "CoverOrderModel" "tried" "[I", Cond.fieldLink RX11 26 "CoverOrderModel" "way" "[I", Cond.methodLink RX11 127 yX11_lidOf, Cond.instanceMethod yX11_lidOf, Cond.selects RX11 yX11_lidOf yX11_lidOf, Cond.code yX11_lidOf cX11_lidOf 5 (some .int), Cond.methodLink RX11 130 yX11_depthOf, Cond.instanceMethod yX11_depthOf]
def wsX11_drawn_r4 : List Cond := [Cond.selects RX11 yX11_depthOf yX11_depthOf, Cond.code yX11_depthOf cX11_depthOf 2 (some .int), Cond.methodLink RX11 113 yX11_ones, Cond.static yX11_ones, Cond.code yX11_ones cX11_ones 3 (some .int), Cond.methodLink RX11 133 yX11_halfOf, Cond.instanceMethod yX11_halfOf, Cond.selects RX11 yX11_halfOf yX11_halfOf, Cond.code yX11_halfOf cX11_halfOf 8 (some .int), Cond.methodLink RX11 139 yX11_rimOf, Cond.instanceMethod yX11_rimOf, Cond.selects RX11 yX11_rimOf yX11_rimOf, Cond.code yX11_rimOf cX11_rimOf 7 (some .int), Cond.methodLink RX11 204 yX11_depthsTogether, Cond.instanceMethod yX11_depthsTogether, Cond.selects RX11 yX11_depthsTogether yX11_depthsTogether, Cond.code yX11_depthsTogether cX11_depthsTogether 3 (some .int)]
def wsX11_drawn : List Cond := .code yX11_drawn cX11_drawn 7 (some .int) :: ((wsX11_drawn_r1 ++ (wsX11_drawn_r2 ++ (wsX11_drawn_r3 ++ wsX11_drawn_r4))) ++ wsX110)
def wsX11_keep : List Cond := .code yX11_keep cX11_keep 3 (some .int) :: ([.fieldLink RX11 50 "CoverOrderModel" "isKept" "[Z", .fieldLink RX11 54 "CoverOrderModel" "kept" "[I", .fieldLink RX11 13 "CoverOrderModel" "now" "[I", .methodLink RX11 59 yX11_in, .static yX11_in, .initialized RX11, .code yX11_in cX11_in 6 (some .boolean), .methodLink RX11 66 yX11_many, .instanceMethod yX11_many, .selects RX11 yX11_many yX11_many, .code yX11_many cX11_many 2 (some .int)] ++ wsX110)
def wsX11_again : List Cond := .code yX11_again cX11_again 3 (some .int) :: ([.fieldLink RX11 50 "CoverOrderModel" "isKept" "[Z", .fieldLink RX11 13 "CoverOrderModel" "now" "[I", .fieldLink RX11 54 "CoverOrderModel" "kept" "[I", .fieldLink RX11 96 "CoverOrderModel" "acts" "I", .methodLink RX11 59 yX11_in, .static yX11_in, .initialized RX11, .code yX11_in cX11_in 6 (some .boolean), .methodLink RX11 66 yX11_many, .instanceMethod yX11_many, .selects RX11 yX11_many yX11_many, .code yX11_many cX11_many 2 (some .int)] ++ wsX110)
def wsX11_greatestDepth : List Cond := .code yX11_greatestDepth cX11_greatestDepth 3 (some .int) :: ([.methodLink RX11 130 yX11_depthOf, .instanceMethod yX11_depthOf, .selects RX11 yX11_depthOf yX11_depthOf, .initialized RX11, .code yX11_depthOf cX11_depthOf 2 (some .int), .fieldLink RX11 110 "CoverOrderModel" "reached" "I", .fieldLink RX11 20 "CoverOrderModel" "covers" "[I", .methodLink RX11 102 yX11_has, .static yX11_has, .code yX11_has cX11_has 2 (some .boolean), .methodLink RX11 113 yX11_ones, .static yX11_ones, .code yX11_ones cX11_ones 3 (some .int)] ++ wsX110)
def wsX11_edgesReached : List Cond := .code yX11_edgesReached cX11_edgesReached 3 (some .int) :: ([.fieldLink RX11 110 "CoverOrderModel" "reached" "I", .methodLink RX11 66 yX11_many, .instanceMethod yX11_many, .selects RX11 yX11_many yX11_many, .initialized RX11, .code yX11_many cX11_many 2 (some .int), .fieldLink RX11 13 "CoverOrderModel" "now" "[I", .methodLink RX11 70 yX11_fromOf, .instanceMethod yX11_fromOf, .selects RX11 yX11_fromOf yX11_fromOf, .code yX11_fromOf cX11_fromOf 3 (some .int), .methodLink RX11 102 yX11_has, .static yX11_has, .code yX11_has cX11_has 2 (some .boolean)] ++ wsX110)
def wsX11_count_r1 : List Cond := [Cond.fieldLink RX11 63 "CoverOrderModel" "length" "I", Cond.fieldLink RX11 7 "CoverOrderModel" "knots" "I", Cond.fieldLink RX11 110 "CoverOrderModel" "reached" "I", Cond.fieldLink RX11 13 "CoverOrderModel" "now" "[I", Cond.fieldLink RX11 96 "CoverOrderModel" "acts" "I", Cond.fieldLink RX11 180 "CoverOrderModel" "seen" "I", Cond.methodLink RX11 120 yX11_findCovers, Cond.instanceMethod yX11_findCovers, Cond.selects RX11 yX11_findCovers yX11_findCovers, Cond.initialized RX11, Cond.code yX11_findCovers cX11_findCovers 5 none, Cond.fieldLink RX11 20 "CoverOrderModel" "covers" "[I", Cond.methodLink RX11 106 yX11_reachedBy, Cond.instanceMethod yX11_reachedBy, Cond.selects RX11 yX11_reachedBy yX11_reachedBy, Cond.code yX11_reachedBy cX11_reachedBy 12 (some .int), Cond.methodLink RX11 66 yX11_many, Cond.instanceMethod yX11_many, Cond.selects RX11 yX11_many yX11_many, Cond.code yX11_many cX11_many 2 (some .int), Cond.methodLink RX11 70 yX11_fromOf, Cond.instanceMethod yX11_fromOf, Cond.selects RX11 yX11_fromOf yX11_fromOf, Cond.code yX11_fromOf cX11_fromOf 3 (some .int)]
def wsX11_count_r2 : List Cond := [Cond.methodLink RX11 99 yX11_toOf, Cond.instanceMethod yX11_toOf, Cond.selects RX11 yX11_toOf yX11_toOf, Cond.code yX11_toOf cX11_toOf 3 (some .int), Cond.methodLink RX11 102 yX11_has, Cond.static yX11_has, Cond.code yX11_has cX11_has 2 (some .boolean), Cond.methodLink RX11 113 yX11_ones, Cond.static yX11_ones, Cond.code yX11_ones cX11_ones 3 (some .int), Cond.methodLink RX11 204 yX11_depthsTogether, Cond.instanceMethod yX11_depthsTogether, Cond.selects RX11 yX11_depthsTogether yX11_depthsTogether, Cond.code yX11_depthsTogether cX11_depthsTogether 3 (some .int), Cond.methodLink RX11 130 yX11_depthOf, Cond.instanceMethod yX11_depthOf, Cond.selects RX11 yX11_depthOf yX11_depthOf, Cond.code yX11_depthOf cX11_depthOf 2 (some .int), Cond.methodLink RX11 207 yX11_greatestDepth, Cond.instanceMethod yX11_greatestDepth, Cond.selects RX11 yX11_greatestDepth yX11_greatestDepth, Cond.code yX11_greatestDepth cX11_greatestDepth 3 (some .int), Cond.methodLink RX11 210 yX11_edgesReached, Cond.instanceMethod yX11_edgesReached]
def wsX11_count_r3 : List Cond := [Cond.selects RX11 yX11_edgesReached yX11_edgesReached, Cond.code yX11_edgesReached cX11_edgesReached 3 (some .int)]
def wsX11_count : List Cond := .code yX11_count cX11_count 2 (some .int) :: ((wsX11_count_r1 ++ (wsX11_count_r2 ++ wsX11_count_r3)) ++ wsX110)
def wsJ9_max_7cf53 : List Cond := .code yJ9_max_7cf53 cJ9_max_7cf53 2 (some .int) :: ([])
def wsJ9_min_7cf53 : List Cond := .code yJ9_min_7cf53 cJ9_min_7cf53 2 (some .int) :: ([])
def wsL_law_r1 : List Cond := [Cond.classLink RL 7 RX10, Cond.instantiable RX10 13, Cond.initialized RX10, Cond.classLink RL 10 RX11, Cond.instantiable RX11 22, Cond.initialized RX11, Cond.constantLong RL 68 (4294967295), Cond.methodLink RL 9 yX10_init, Cond.instanceMethod yX10_init, Cond.code yX10_init cX10_init 1 none, Cond.methodLink RX10 1 objectInit, Cond.instanceMethod objectInit, Cond.code objectInit ⟨#[0xb1]⟩ 1 none, Cond.classLink RX10 7 RX8, Cond.instantiable RX8 1, Cond.initialized RX8, Cond.fieldLink RX10 10 "CoverOrder" "text" "LCoverOrder$Text;", Cond.classLink RX10 16 RX3, Cond.instantiable RX3 3, Cond.initialized RX3, Cond.fieldLink RX10 19 "CoverOrder" "edges" "LCoverOrder$Edges;", Cond.fieldLink RX10 23 "CoverOrder" "trial" "LCoverOrder$Edges;", Cond.classLink RX10 26 RX0, Cond.instantiable RX0 2]
def wsL_law_r2 : List Cond := [Cond.initialized RX0, Cond.fieldLink RX10 29 "CoverOrder" "acts" "LCoverOrder$Acts;", Cond.fieldLink RX10 33 "CoverOrder" "slots" "[LCoverOrder$Edges;", Cond.classLink RX10 37 RX6, Cond.instantiable RX6 2, Cond.initialized RX6, Cond.fieldLink RX10 42 "CoverOrder" "seen" "LCoverOrder$Row;", Cond.classLink RX10 46 RX2, Cond.instantiable RX2 4, Cond.initialized RX2, Cond.fieldLink RX10 49 "CoverOrder" "covers" "LCoverOrder$Covers;", Cond.fieldLink RX10 53 "CoverOrder" "trialCovers" "LCoverOrder$Covers;", Cond.classLink RX10 56 RX9, Cond.instantiable RX9 3, Cond.initialized RX9, Cond.fieldLink RX10 59 "CoverOrder" "walk" "LCoverOrder$Walk;", Cond.classLink RX10 63 RX7, Cond.instantiable RX7 2, Cond.initialized RX7, Cond.fieldLink RX10 66 "CoverOrder" "least" "LCoverOrder$Showing;", Cond.fieldLink RX10 70 "CoverOrder" "told" "LCoverOrder$Row;", Cond.instanceMethod yX8_init, Cond.code yX8_init cX8_init 1 none, Cond.methodLink RX8 3 objectInit]
def wsL_law_r3 : List Cond := [Cond.classLink RX8 9 RX6, Cond.fieldLink RX8 14 "CoverOrder$Text" "letters" "LCoverOrder$Row;", Cond.methodLink RX8 11 yX6_init, Cond.instanceMethod yX6_init, Cond.code yX6_init cX6_init 2 none, Cond.methodLink RX6 3 objectInit, Cond.methodLink RX6 9 Lib.Math.max.name, Cond.static Lib.Math.max.name, Cond.initialized "java/lang/Math", Cond.code Lib.Math.max.name Lib.Math.max.code 2 (some .int), Cond.arrayClass .int, Cond.fieldLink RX6 15 "CoverOrder$Row" "items" "[I", Cond.instanceMethod yX3_init, Cond.code yX3_init cX3_init 1 none, Cond.methodLink RX3 3 objectInit, Cond.classLink RX3 9 RX6, Cond.fieldLink RX3 14 "CoverOrder$Edges" "row" "LCoverOrder$Row;", Cond.fieldLink RX3 20 "CoverOrder$Edges" "knots" "I", Cond.fieldLink RX3 24 "CoverOrder$Edges" "nextStamp" "I", Cond.methodLink RX3 11 yX6_init, Cond.instanceMethod yX0_init, Cond.code yX0_init cX0_init 1 none, Cond.methodLink RX0 3 objectInit, Cond.classLink RX0 9 RX6]
def wsL_law_r4 : List Cond := [Cond.fieldLink RX0 14 "CoverOrder$Acts" "deleted" "LCoverOrder$Row;", Cond.fieldLink RX0 20 "CoverOrder$Acts" "places" "LCoverOrder$Row;", Cond.methodLink RX0 11 yX6_init, Cond.methodLink RX10 39 yX6_init, Cond.instanceMethod yX2_init, Cond.code yX2_init cX2_init 1 none, Cond.methodLink RX2 3 objectInit, Cond.instanceMethod yX9_init, Cond.code yX9_init cX9_init 1 none, Cond.methodLink RX9 3 objectInit, Cond.classLink RX9 9 RX6, Cond.fieldLink RX9 14 "CoverOrder$Walk" "met" "LCoverOrder$Row;", Cond.fieldLink RX9 20 "CoverOrder$Walk" "path" "LCoverOrder$Row;", Cond.methodLink RX9 11 yX6_init, Cond.instanceMethod yX7_init, Cond.code yX7_init cX7_init 1 none, Cond.methodLink RX7 3 objectInit, Cond.classLink RX7 9 RX6, Cond.fieldLink RX7 14 "CoverOrder$Showing" "row" "LCoverOrder$Row;", Cond.fieldLink RX7 20 "CoverOrder$Showing" "deadEnds" "LCoverOrder$Row;", Cond.methodLink RX7 11 yX6_init, Cond.methodLink RL 12 yX11_init, Cond.instanceMethod yX11_init, Cond.code yX11_init cX11_init 1 none]
def wsL_law_r5 : List Cond := [Cond.methodLink RX11 1 objectInit, Cond.fieldLink RX11 7 "CoverOrderModel" "knots" "I", Cond.fieldLink RX11 13 "CoverOrderModel" "now" "[I", Cond.fieldLink RX11 17 "CoverOrderModel" "text" "[I", Cond.fieldLink RX11 20 "CoverOrderModel" "covers" "[I", Cond.fieldLink RX11 23 "CoverOrderModel" "order" "[I", Cond.fieldLink RX11 26 "CoverOrderModel" "way" "[I", Cond.fieldLink RX11 29 "CoverOrderModel" "tried" "[I", Cond.fieldLink RX11 32 "CoverOrderModel" "row" "[I", Cond.fieldLink RX11 35 "CoverOrderModel" "lids" "[I", Cond.fieldLink RX11 38 "CoverOrderModel" "shown" "[I", Cond.fieldLink RX11 41 "CoverOrderModel" "seenKnot" "[I", Cond.fieldLink RX11 44 "CoverOrderModel" "seenLid" "[I", Cond.fieldLink RX11 47 "CoverOrderModel" "seenHad" "[I", Cond.arrayClass .boolean, Cond.fieldLink RX11 50 "CoverOrderModel" "isKept" "[Z", Cond.fieldLink RX11 54 "CoverOrderModel" "kept" "[I", Cond.methodLink RL 13 yX10_write, Cond.instanceMethod yX10_write, Cond.selects RX10 yX10_write yX10_write, Cond.code yX10_write cX10_write 2 (some .int), Cond.methodLink RX10 73 yX8_isFull, Cond.instanceMethod yX8_isFull, Cond.selects RX8 yX8_isFull yX8_isFull]
def wsL_law_r6 : List Cond := [Cond.code yX8_isFull cX8_isFull 1 (some .boolean), Cond.methodLink RX8 24 yX6_isFull, Cond.instanceMethod yX6_isFull, Cond.selects RX6 yX6_isFull yX6_isFull, Cond.code yX6_isFull cX6_isFull 1 (some .boolean), Cond.fieldLink RX6 21 "CoverOrder$Row" "size" "I", Cond.methodLink RX10 77 yX8_add, Cond.instanceMethod yX8_add, Cond.selects RX8 yX8_add yX8_add, Cond.code yX8_add cX8_add 2 none, Cond.methodLink RX8 28 yX6_add, Cond.instanceMethod yX6_add, Cond.selects RX6 yX6_add yX6_add, Cond.code yX6_add cX6_add 2 none, Cond.methodLink RX6 29 yX6_putIn, Cond.instanceMethod yX6_putIn, Cond.selects RX6 yX6_putIn yX6_putIn, Cond.code yX6_putIn cX6_putIn 4 none, Cond.methodLink RX6 33 yX6_isFull, Cond.methodLink RX10 80 yX8_length, Cond.instanceMethod yX8_length, Cond.selects RX8 yX8_length yX8_length, Cond.code yX8_length cX8_length 1 (some .int), Cond.methodLink RX8 20 yX6_size]
def wsL_law_r7 : List Cond := [Cond.instanceMethod yX6_size, Cond.selects RX6 yX6_size yX6_size, Cond.code yX6_size cX6_size 1 (some .int), Cond.methodLink RL 17 yX11_write, Cond.instanceMethod yX11_write, Cond.selects RX11 yX11_write yX11_write, Cond.code yX11_write cX11_write 2 (some .int), Cond.constantLong RX11 57 (255), Cond.fieldLink RX11 63 "CoverOrderModel" "length" "I", Cond.methodLink RX11 59 yX11_in, Cond.static yX11_in, Cond.code yX11_in cX11_in 6 (some .boolean), Cond.methodLink RL 18 yX10_wipe, Cond.instanceMethod yX10_wipe, Cond.selects RX10 yX10_wipe yX10_wipe, Cond.code yX10_wipe cX10_wipe 2 (some .int), Cond.methodLink RX10 84 yX8_clear, Cond.instanceMethod yX8_clear, Cond.selects RX8 yX8_clear yX8_clear, Cond.code yX8_clear cX8_clear 1 none, Cond.methodLink RX8 31 yX6_clear, Cond.instanceMethod yX6_clear, Cond.selects RX6 yX6_clear yX6_clear, Cond.code yX6_clear cX6_clear 1 none]
def wsL_law_r8 : List Cond := [Cond.methodLink RL 22 yX11_wipe, Cond.instanceMethod yX11_wipe, Cond.selects RX11 yX11_wipe yX11_wipe, Cond.code yX11_wipe cX11_wipe 2 (some .int), Cond.methodLink RL 23 yX10_fault, Cond.instanceMethod yX10_fault, Cond.selects RX10 yX10_fault yX10_fault, Cond.code yX10_fault cX10_fault 1 (some .int), Cond.methodLink RX10 87 yX8_firstFault, Cond.instanceMethod yX8_firstFault, Cond.selects RX8 yX8_firstFault yX8_firstFault, Cond.code yX8_firstFault cX8_firstFault 4 (some .int), Cond.methodLink RX8 34 yX8_length, Cond.methodLink RX8 37 yX8_fits, Cond.instanceMethod yX8_fits, Cond.selects RX8 yX8_fits yX8_fits, Cond.code yX8_fits cX8_fits 7 (some .boolean), Cond.methodLink RX8 64 yX6_at, Cond.instanceMethod yX6_at, Cond.selects RX6 yX6_at yX6_at, Cond.code yX6_at cX6_at 2 (some .int), Cond.methodLink RX8 45 yX8_figureAt, Cond.instanceMethod yX8_figureAt, Cond.selects RX8 yX8_figureAt yX8_figureAt]
def wsL_law_r9 : List Cond := [Cond.code yX8_figureAt cX8_figureAt 3 (some .int), Cond.methodLink RX8 41 yX8_isSecondFigure, Cond.static yX8_isSecondFigure, Cond.code yX8_isSecondFigure cX8_isSecondFigure 1 (some .boolean), Cond.methodLink RX8 67 yX5_line, Cond.static yX5_line, Cond.initialized RX5, Cond.code yX5_line cX5_line 3 (some .int), Cond.methodLink RX8 71 yX5_isIn, Cond.static yX5_isIn, Cond.code yX5_isIn cX5_isIn 2 (some .boolean), Cond.methodLink RX8 75 yJ6_bitCount_0f7a4, Cond.static yJ6_bitCount_0f7a4, Cond.initialized RJ6, Cond.code yJ6_bitCount_0f7a4 cJ6_bitCount_0f7a4 1 (some .int), Cond.constant RJ6 265 (1431655765), Cond.constant RJ6 266 (858993459), Cond.constant RJ6 267 (252645135), Cond.methodLink RX8 80 yJ13_bitCount_95d88, Cond.static yJ13_bitCount_95d88, Cond.initialized RJ13, Cond.code yJ13_bitCount_95d88 cJ13_bitCount_95d88 2 (some .int), Cond.constantLong RJ13 314 (6148914691236517205), Cond.constantLong RJ13 316 (3689348814741910323)]
def wsL_law_r10 : List Cond := [Cond.constantLong RJ13 318 (1085102592571150095), Cond.methodLink RX8 49 yX5_flipped, Cond.static yX5_flipped, Cond.code yX5_flipped cX5_flipped 4 (some .long), Cond.methodLink RL 26 yX11_fault, Cond.instanceMethod yX11_fault, Cond.selects RX11 yX11_fault yX11_fault, Cond.code yX11_fault cX11_fault 1 (some .int), Cond.methodLink RX11 92 yX11_readText, Cond.instanceMethod yX11_readText, Cond.selects RX11 yX11_readText yX11_readText, Cond.code yX11_readText cX11_readText 4 (some .int), Cond.constantLong RX11 74 (49), Cond.constantLong RX11 76 (56), Cond.fieldLink RX11 78 "CoverOrderModel" "readKnots" "I", Cond.methodLink RX11 66 yX11_many, Cond.instanceMethod yX11_many, Cond.selects RX11 yX11_many yX11_many, Cond.code yX11_many cX11_many 2 (some .int), Cond.methodLink RX11 81 yX11_outOf, Cond.instanceMethod yX11_outOf, Cond.selects RX11 yX11_outOf yX11_outOf, Cond.code yX11_outOf cX11_outOf 5 (some .int), Cond.methodLink RX11 70 yX11_fromOf]
def wsL_law_r11 : List Cond := [Cond.instanceMethod yX11_fromOf, Cond.selects RX11 yX11_fromOf yX11_fromOf, Cond.code yX11_fromOf cX11_fromOf 3 (some .int), Cond.methodLink RX11 84 yX11_find, Cond.instanceMethod yX11_find, Cond.selects RX11 yX11_find yX11_find, Cond.code yX11_find cX11_find 6 (some .int), Cond.methodLink RX11 88 yX11_insertOn, Cond.instanceMethod yX11_insertOn, Cond.selects RX11 yX11_insertOn yX11_insertOn, Cond.code yX11_insertOn cX11_insertOn 5 none, Cond.methodLink RL 27 yX10_graph, Cond.instanceMethod yX10_graph, Cond.selects RX10 yX10_graph yX10_graph, Cond.code yX10_graph cX10_graph 1 (some .int), Cond.fieldLink RX10 95 "CoverOrder" "keptSlots" "I", Cond.methodLink RX10 90 yX8_readInto, Cond.instanceMethod yX8_readInto, Cond.selects RX8 yX8_readInto yX8_readInto, Cond.code yX8_readInto cX8_readInto 3 none, Cond.methodLink RX8 55 yX3_restart, Cond.instanceMethod yX3_restart, Cond.selects RX3 yX3_restart yX3_restart, Cond.code yX3_restart cX3_restart 2 none]
def wsL_law_r12 : List Cond := [Cond.methodLink RX3 27 Lib.Math.min.name, Cond.static Lib.Math.min.name, Cond.code Lib.Math.min.name Lib.Math.min.code 2 (some .int), Cond.methodLink RX3 33 Lib.Math.max.name, Cond.methodLink RX3 36 yX6_clear, Cond.methodLink RX8 60 yX3_append, Cond.instanceMethod yX3_append, Cond.selects RX3 yX3_append yX3_append, Cond.code yX3_append cX3_append 4 (some .int), Cond.methodLink RX3 62 yX3_pair, Cond.static yX3_pair, Cond.code yX3_pair cX3_pair 2 (some .int), Cond.methodLink RX3 68 yX6_add, Cond.methodLink RX10 94 yX0_clear, Cond.instanceMethod yX0_clear, Cond.selects RX0 yX0_clear yX0_clear, Cond.code yX0_clear cX0_clear 1 none, Cond.methodLink RX0 27 yX6_clear, Cond.methodLink RX10 99 yX3_size, Cond.instanceMethod yX3_size, Cond.selects RX3 yX3_size yX3_size, Cond.code yX3_size cX3_size 1 (some .int), Cond.methodLink RX3 43 yX6_size, Cond.methodLink RL 30 yX11_graph]
def wsL_law_r13 : List Cond := [Cond.instanceMethod yX11_graph, Cond.selects RX11 yX11_graph yX11_graph, Cond.code yX11_graph cX11_graph 2 (some .int), Cond.fieldLink RX11 96 "CoverOrderModel" "acts" "I", Cond.methodLink RL 31 yX10_insert, Cond.instanceMethod yX10_insert, Cond.selects RX10 yX10_insert yX10_insert, Cond.code yX10_insert cX10_insert 4 (some .int), Cond.methodLink RX10 102 yX3_areKnots, Cond.instanceMethod yX3_areKnots, Cond.selects RX3 yX3_areKnots yX3_areKnots, Cond.code yX3_areKnots cX3_areKnots 3 (some .boolean), Cond.methodLink RX3 51 yX3_isKnot, Cond.instanceMethod yX3_isKnot, Cond.selects RX3 yX3_isKnot yX3_isKnot, Cond.code yX3_isKnot cX3_isKnot 2 (some .boolean), Cond.methodLink RX10 106 yX3_has, Cond.instanceMethod yX3_has, Cond.selects RX3 yX3_has yX3_has, Cond.code yX3_has cX3_has 3 (some .boolean), Cond.methodLink RX3 65 yX3_placeOf, Cond.instanceMethod yX3_placeOf, Cond.selects RX3 yX3_placeOf yX3_placeOf, Cond.code yX3_placeOf cX3_placeOf 4 (some .int)]
def wsL_law_r14 : List Cond := [Cond.methodLink RX3 55 yX6_at, Cond.methodLink RX3 59 yX3_pairOf, Cond.static yX3_pairOf, Cond.code yX3_pairOf cX3_pairOf 1 (some .int), Cond.methodLink RX10 109 yX3_isFull, Cond.instanceMethod yX3_isFull, Cond.selects RX3 yX3_isFull yX3_isFull, Cond.code yX3_isFull cX3_isFull 1 (some .boolean), Cond.methodLink RX3 47 yX6_isFull, Cond.methodLink RX10 110 yX3_append, Cond.methodLink RX10 114 yX0_addInserted, Cond.instanceMethod yX0_addInserted, Cond.selects RX0 yX0_addInserted yX0_addInserted, Cond.code yX0_addInserted cX0_addInserted 1 none, Cond.methodLink RX0 30 yX0_addDeleted, Cond.instanceMethod yX0_addDeleted, Cond.selects RX0 yX0_addDeleted yX0_addDeleted, Cond.code yX0_addDeleted cX0_addDeleted 3 none, Cond.methodLink RX0 34 yX6_isFull, Cond.methodLink RX0 38 yX6_takeOut, Cond.instanceMethod yX6_takeOut, Cond.selects RX6 yX6_takeOut yX6_takeOut, Cond.code yX6_takeOut cX6_takeOut 4 (some .int), Cond.methodLink RX0 42 yX6_add]
def wsL_law_r15 : List Cond := [Cond.methodLink RL 35 yX11_insert, Cond.instanceMethod yX11_insert, Cond.selects RX11 yX11_insert yX11_insert, Cond.code yX11_insert cX11_insert 3 (some .int), Cond.methodLink RX11 116 yX11_isKnot, Cond.instanceMethod yX11_isKnot, Cond.selects RX11 yX11_isKnot yX11_isKnot, Cond.code yX11_isKnot cX11_isKnot 2 (some .boolean), Cond.methodLink RX11 145 yX11_keepAct, Cond.instanceMethod yX11_keepAct, Cond.selects RX11 yX11_keepAct yX11_keepAct, Cond.code yX11_keepAct cX11_keepAct 2 none, Cond.fieldLink RX11 142 "CoverOrderModel" "next" "I", Cond.methodLink RL 36 yX10_delete, Cond.instanceMethod yX10_delete, Cond.selects RX10 yX10_delete yX10_delete, Cond.code yX10_delete cX10_delete 5 (some .int), Cond.methodLink RX10 117 yX3_placeOf, Cond.methodLink RX10 120 yX3_takeOut, Cond.instanceMethod yX3_takeOut, Cond.selects RX3 yX3_takeOut yX3_takeOut, Cond.code yX3_takeOut cX3_takeOut 2 (some .int), Cond.methodLink RX3 71 yX6_takeOut, Cond.methodLink RX10 124 yX0_addDeleted]
def wsL_law_r16 : List Cond := [Cond.methodLink RX10 128 yX3_stampOf, Cond.static yX3_stampOf, Cond.code yX3_stampOf cX3_stampOf 1 (some .int), Cond.methodLink RL 39 yX11_delete, Cond.instanceMethod yX11_delete, Cond.selects RX11 yX11_delete yX11_delete, Cond.code yX11_delete cX11_delete 5 (some .int), Cond.methodLink RX11 148 yX11_deleteOn, Cond.instanceMethod yX11_deleteOn, Cond.selects RX11 yX11_deleteOn yX11_deleteOn, Cond.code yX11_deleteOn cX11_deleteOn 5 none, Cond.methodLink RL 40 yX10_undo, Cond.instanceMethod yX10_undo, Cond.selects RX10 yX10_undo yX10_undo, Cond.code yX10_undo cX10_undo 1 (some .int), Cond.methodLink RX10 131 yX0_size, Cond.instanceMethod yX0_size, Cond.selects RX0 yX0_size yX0_size, Cond.code yX0_size cX0_size 1 (some .int), Cond.methodLink RX0 23 yX6_size, Cond.methodLink RX10 132 yX0_undoLast, Cond.instanceMethod yX0_undoLast, Cond.selects RX0 yX0_undoLast yX0_undoLast, Cond.code yX0_undoLast cX0_undoLast 4 none]
def wsL_law_r17 : List Cond := [Cond.methodLink RX0 45 yX6_takeLast, Cond.instanceMethod yX6_takeLast, Cond.selects RX6 yX6_takeLast yX6_takeLast, Cond.code yX6_takeLast cX6_takeLast 1 (some .int), Cond.methodLink RX6 37 yX6_takeOut, Cond.methodLink RX0 48 yX3_takeBackLast, Cond.instanceMethod yX3_takeBackLast, Cond.selects RX3 yX3_takeBackLast yX3_takeBackLast, Cond.code yX3_takeBackLast cX3_takeBackLast 1 none, Cond.methodLink RX3 78 yX6_takeLast, Cond.methodLink RX0 53 yX3_putBack, Cond.instanceMethod yX3_putBack, Cond.selects RX3 yX3_putBack yX3_putBack, Cond.code yX3_putBack cX3_putBack 3 none, Cond.methodLink RX3 74 yX6_putIn, Cond.methodLink RL 43 yX11_undo, Cond.instanceMethod yX11_undo, Cond.selects RX11 yX11_undo yX11_undo, Cond.code yX11_undo cX11_undo 2 (some .int), Cond.methodLink RL 44 yX10_stamp, Cond.instanceMethod yX10_stamp, Cond.selects RX10 yX10_stamp yX10_stamp, Cond.code yX10_stamp cX10_stamp 3 (some .int), Cond.methodLink RX10 135 yX3_at]
def wsL_law_r18 : List Cond := [Cond.instanceMethod yX3_at, Cond.selects RX3 yX3_at yX3_at, Cond.code yX3_at cX3_at 2 (some .int), Cond.methodLink RL 47 yX11_stamp, Cond.instanceMethod yX11_stamp, Cond.selects RX11 yX11_stamp yX11_stamp, Cond.code yX11_stamp cX11_stamp 4 (some .int), Cond.methodLink RL 48 yX10_edge, Cond.instanceMethod yX10_edge, Cond.selects RX10 yX10_edge yX10_edge, Cond.code yX10_edge cX10_edge 2 (some .int), Cond.methodLink RX10 138 yX3_pairOf, Cond.methodLink RL 51 yX11_edge, Cond.instanceMethod yX11_edge, Cond.selects RX11 yX11_edge yX11_edge, Cond.code yX11_edge cX11_edge 2 (some .int), Cond.methodLink RL 52 yX10_knot, Cond.instanceMethod yX10_knot, Cond.selects RX10 yX10_knot yX10_knot, Cond.code yX10_knot cX10_knot 3 (some .int), Cond.methodLink RX10 141 yX3_isKnot, Cond.methodLink RX10 145 yX10_learnCovers, Cond.instanceMethod yX10_learnCovers, Cond.selects RX10 yX10_learnCovers yX10_learnCovers]
def wsL_law_r19 : List Cond := [Cond.code yX10_learnCovers cX10_learnCovers 1 none, Cond.methodLink RX10 178 yX3_grid, Cond.instanceMethod yX3_grid, Cond.selects RX3 yX3_grid yX3_grid, Cond.code yX3_grid cX3_grid 5 (some .long), Cond.methodLink RX3 101 yX5_flipped, Cond.methodLink RX10 188 yX2_learn, Cond.instanceMethod yX2_learn, Cond.selects RX2 yX2_learn yX2_learn, Cond.code yX2_learn cX2_learn 5 none, Cond.fieldLink RX2 9 "CoverOrder$Covers" "grid" "J", Cond.fieldLink RX2 21 "CoverOrder$Covers" "reached" "I", Cond.fieldLink RX2 24 "CoverOrder$Covers" "covered" "J", Cond.fieldLink RX2 43 "CoverOrder$Covers" "coverers" "J", Cond.methodLink RX2 15 yX5_reached, Cond.static yX5_reached, Cond.code yX5_reached cX5_reached 8 (some .int), Cond.methodLink RX5 29 yX5_only, Cond.static yX5_only, Cond.code yX5_only cX5_only 1 (some .int), Cond.methodLink RX5 39 yX5_first, Cond.static yX5_first, Cond.code yX5_first cX5_first 1 (some .int), Cond.methodLink RX5 9 yJ6_bitCount_0f7a4]
def wsL_law_r20 : List Cond := [Cond.methodLink RX5 19 yX5_line, Cond.methodLink RX2 27 yX2_isReached, Cond.instanceMethod yX2_isReached, Cond.selects RX2 yX2_isReached yX2_isReached, Cond.code yX2_isReached cX2_isReached 2 (some .boolean), Cond.methodLink RX2 46 yX5_isIn, Cond.methodLink RX2 31 yX5_only, Cond.methodLink RX2 35 yX5_withLine, Cond.static yX5_withLine, Cond.code yX5_withLine cX5_withLine 5 (some .long), Cond.constantLong RX5 15 (255), Cond.constantLong RX5 17 (-1), Cond.methodLink RX2 39 yX5_turned, Cond.static yX5_turned, Cond.code yX5_turned cX5_turned 5 (some .long), Cond.methodLink RX5 32 yX5_column, Cond.static yX5_column, Cond.code yX5_column cX5_column 5 (some .int), Cond.methodLink RX5 25 yX5_isIn, Cond.methodLink RX5 35 yX5_withLine, Cond.methodLink RX10 148 yX2_isReached, Cond.methodLink RX10 151 yX2_lidOf, Cond.instanceMethod yX2_lidOf, Cond.selects RX2 yX2_lidOf yX2_lidOf]
def wsL_law_r21 : List Cond := [Cond.code yX2_lidOf cX2_lidOf 2 (some .int), Cond.methodLink RX2 58 yX2_coverersOf, Cond.instanceMethod yX2_coverersOf, Cond.selects RX2 yX2_coverersOf yX2_coverersOf, Cond.code yX2_coverersOf cX2_coverersOf 2 (some .int), Cond.methodLink RX2 55 yX5_line, Cond.methodLink RX2 61 yX2_coveredByJust, Cond.instanceMethod yX2_coveredByJust, Cond.selects RX2 yX2_coveredByJust yX2_coveredByJust, Cond.code yX2_coveredByJust cX2_coveredByJust 3 (some .int), Cond.methodLink RX10 154 yX2_depthOf, Cond.instanceMethod yX2_depthOf, Cond.selects RX2 yX2_depthOf yX2_depthOf, Cond.code yX2_depthOf cX2_depthOf 2 (some .int), Cond.methodLink RX2 50 yJ6_bitCount_0f7a4, Cond.methodLink RX10 157 yX9_go, Cond.instanceMethod yX9_go, Cond.selects RX9 yX9_go yX9_go, Cond.code yX9_go cX9_go 5 none, Cond.fieldLink RX9 29 "CoverOrder$Walk" "grid" "J", Cond.methodLink RX9 23 yX3_grid, Cond.methodLink RX9 32 yX6_clear, Cond.methodLink RX9 35 yX6_add, Cond.methodLink RX9 38 yX5_only]
def wsL_law_r22 : List Cond := [Cond.methodLink RX9 44 yX6_size, Cond.methodLink RX9 48 yX6_at, Cond.methodLink RX9 51 yX3_firstWayOn, Cond.instanceMethod yX3_firstWayOn, Cond.selects RX3 yX3_firstWayOn yX3_firstWayOn, Cond.code yX3_firstWayOn cX3_firstWayOn 5 (some .int), Cond.methodLink RX3 96 yX5_isIn, Cond.methodLink RX9 55 yX6_takeLast, Cond.methodLink RX10 160 yX9_orderOf, Cond.instanceMethod yX9_orderOf, Cond.selects RX9 yX9_orderOf yX9_orderOf, Cond.code yX9_orderOf cX9_orderOf 2 (some .int), Cond.methodLink RX9 58 yX6_placeOf, Cond.instanceMethod yX6_placeOf, Cond.selects RX6 yX6_placeOf yX6_placeOf, Cond.code yX6_placeOf cX6_placeOf 3 (some .int), Cond.methodLink RX6 25 yX6_at, Cond.methodLink RX10 163 yX9_halfOf, Cond.instanceMethod yX9_halfOf, Cond.selects RX9 yX9_halfOf yX9_halfOf, Cond.code yX9_halfOf cX9_halfOf 4 (some .int), Cond.methodLink RX9 61 yX9_orderOf, Cond.methodLink RX9 64 yX9_startsOfLateWays, Cond.instanceMethod yX9_startsOfLateWays]
def wsL_law_r23 : List Cond := [Cond.selects RX9 yX9_startsOfLateWays yX9_startsOfLateWays, Cond.code yX9_startsOfLateWays cX9_startsOfLateWays 7 (some .int), Cond.methodLink RX9 71 yX5_column, Cond.methodLink RX9 75 yX5_first, Cond.methodLink RX9 67 yX5_isIn, Cond.methodLink RX10 166 yX2_coveredBy, Cond.instanceMethod yX2_coveredBy, Cond.selects RX2 yX2_coveredBy yX2_coveredBy, Cond.code yX2_coveredBy cX2_coveredBy 2 (some .int), Cond.methodLink RX10 169 yX2_rimOf, Cond.instanceMethod yX2_rimOf, Cond.selects RX2 yX2_rimOf yX2_rimOf, Cond.code yX2_rimOf cX2_rimOf 5 (some .int), Cond.methodLink RX2 73 yX2_coveredBy, Cond.methodLink RL 55 yX11_knot, Cond.instanceMethod yX11_knot, Cond.selects RX11 yX11_knot yX11_knot, Cond.code yX11_knot cX11_knot 3 (some .int), Cond.fieldLink RX11 110 "CoverOrderModel" "reached" "I", Cond.methodLink RX11 120 yX11_findCovers, Cond.instanceMethod yX11_findCovers, Cond.selects RX11 yX11_findCovers yX11_findCovers, Cond.code yX11_findCovers cX11_findCovers 5 none, Cond.methodLink RX11 106 yX11_reachedBy]
def wsL_law_r24 : List Cond := [Cond.instanceMethod yX11_reachedBy, Cond.selects RX11 yX11_reachedBy yX11_reachedBy, Cond.code yX11_reachedBy cX11_reachedBy 12 (some .int), Cond.methodLink RX11 99 yX11_toOf, Cond.instanceMethod yX11_toOf, Cond.selects RX11 yX11_toOf yX11_toOf, Cond.code yX11_toOf cX11_toOf 3 (some .int), Cond.methodLink RX11 102 yX11_has, Cond.static yX11_has, Cond.code yX11_has cX11_has 2 (some .boolean), Cond.methodLink RX11 124 yX11_walk, Cond.instanceMethod yX11_walk, Cond.selects RX11 yX11_walk yX11_walk, Cond.code yX11_walk cX11_walk 7 none, Cond.methodLink RX11 127 yX11_lidOf, Cond.instanceMethod yX11_lidOf, Cond.selects RX11 yX11_lidOf yX11_lidOf, Cond.code yX11_lidOf cX11_lidOf 5 (some .int), Cond.methodLink RX11 130 yX11_depthOf, Cond.instanceMethod yX11_depthOf, Cond.selects RX11 yX11_depthOf yX11_depthOf, Cond.code yX11_depthOf cX11_depthOf 2 (some .int), Cond.methodLink RX11 113 yX11_ones, Cond.static yX11_ones]
def wsL_law_r25 : List Cond := [Cond.code yX11_ones cX11_ones 3 (some .int), Cond.methodLink RX11 133 yX11_halfOf, Cond.instanceMethod yX11_halfOf, Cond.selects RX11 yX11_halfOf yX11_halfOf, Cond.code yX11_halfOf cX11_halfOf 8 (some .int), Cond.methodLink RX11 136 yX11_coveredBy, Cond.instanceMethod yX11_coveredBy, Cond.selects RX11 yX11_coveredBy yX11_coveredBy, Cond.code yX11_coveredBy cX11_coveredBy 4 (some .int), Cond.methodLink RX11 139 yX11_rimOf, Cond.instanceMethod yX11_rimOf, Cond.selects RX11 yX11_rimOf yX11_rimOf, Cond.code yX11_rimOf cX11_rimOf 7 (some .int), Cond.methodLink RL 56 yX10_nearest, Cond.instanceMethod yX10_nearest, Cond.selects RX10 yX10_nearest yX10_nearest, Cond.code yX10_nearest cX10_nearest 3 (some .int), Cond.methodLink RX10 172 yX2_coverersOf, Cond.methodLink RX10 175 yX2_coveredByJust, Cond.methodLink RL 59 yX11_nearest, Cond.instanceMethod yX11_nearest, Cond.selects RX11 yX11_nearest yX11_nearest, Cond.code yX11_nearest cX11_nearest 5 (some .int), Cond.methodLink RL 60 yX10_would]
def wsL_law_r26 : List Cond := [Cond.instanceMethod yX10_would, Cond.selects RX10 yX10_would yX10_would, Cond.code yX10_would cX10_would 3 (some .int), Cond.methodLink RX10 182 yX5_flipped, Cond.methodLink RX10 192 yX2_changedIn, Cond.instanceMethod yX2_changedIn, Cond.selects RX2 yX2_changedIn yX2_changedIn, Cond.code yX2_changedIn cX2_changedIn 4 (some .int), Cond.methodLink RX2 76 yX2_lidOf, Cond.methodLink RL 63 yX11_would, Cond.instanceMethod yX11_would, Cond.selects RX11 yX11_would yX11_would, Cond.code yX11_would cX11_would 7 (some .int), Cond.methodLink RX11 152 yX11_layTrial, Cond.instanceMethod yX11_layTrial, Cond.selects RX11 yX11_layTrial yX11_layTrial, Cond.code yX11_layTrial cX11_layTrial 2 none, Cond.methodLink RL 64 yX10_showing, Cond.instanceMethod yX10_showing, Cond.selects RX10 yX10_showing yX10_showing, Cond.code yX10_showing cX10_showing 2 (some .int), Cond.methodLink RX10 196 yX2_reachedCount, Cond.instanceMethod yX2_reachedCount, Cond.selects RX2 yX2_reachedCount yX2_reachedCount]
def wsL_law_r27 : List Cond := [Cond.code yX2_reachedCount cX2_reachedCount 1 (some .int), Cond.methodLink RX10 199 yX7_find, Cond.instanceMethod yX7_find, Cond.selects RX7 yX7_find yX7_find, Cond.code yX7_find cX7_find 2 none, Cond.methodLink RX7 23 yX6_clear, Cond.methodLink RX7 26 yX6_add, Cond.methodLink RX7 29 yX5_only, Cond.methodLink RX7 35 yX7_fill, Cond.static yX7_fill, Cond.code yX7_fill cX7_fill 6 (some .boolean), Cond.methodLink RX7 48 yX6_placeOf, Cond.methodLink RX7 51 yX2_nextBehind, Cond.instanceMethod yX2_nextBehind, Cond.selects RX2 yX2_nextBehind yX2_nextBehind, Cond.code yX2_nextBehind cX2_nextBehind 5 (some .int), Cond.methodLink RX7 54 yX5_isIn, Cond.methodLink RX7 58 yX2_isShown, Cond.instanceMethod yX2_isShown, Cond.selects RX2 yX2_isShown yX2_isShown, Cond.code yX2_isShown cX2_isShown 5 (some .boolean), Cond.methodLink RX2 79 yX5_column, Cond.methodLink RX7 61 yX6_takeLast, Cond.methodLink RX10 203 yX7_knotAt]
def wsL_law_r28 : List Cond := [Cond.instanceMethod yX7_knotAt, Cond.selects RX7 yX7_knotAt yX7_knotAt, Cond.code yX7_knotAt cX7_knotAt 2 (some .int), Cond.methodLink RX7 39 yX6_at, Cond.methodLink RL 67 yX11_showing, Cond.instanceMethod yX11_showing, Cond.selects RX11 yX11_showing yX11_showing, Cond.code yX11_showing cX11_showing 4 (some .int), Cond.methodLink RX11 160 yX11_firstWrong, Cond.instanceMethod yX11_firstWrong, Cond.selects RX11 yX11_firstWrong yX11_firstWrong, Cond.code yX11_firstWrong cX11_firstWrong 5 (some .int), Cond.constantLong RX11 155 (7), Cond.methodLink RX11 157 yX11_isShown, Cond.instanceMethod yX11_isShown, Cond.selects RX11 yX11_isShown yX11_isShown, Cond.code yX11_isShown cX11_isShown 8 (some .boolean), Cond.methodLink RX11 163 yX11_nextRow, Cond.instanceMethod yX11_nextRow, Cond.selects RX11 yX11_nextRow yX11_nextRow, Cond.code yX11_nextRow cX11_nextRow 7 (some .boolean), Cond.methodLink RL 70 yX10_look, Cond.instanceMethod yX10_look, Cond.selects RX10 yX10_look yX10_look]
def wsL_law_r29 : List Cond := [Cond.code yX10_look cX10_look 5 (some .int), Cond.methodLink RX10 206 yX4_fit, Cond.static yX4_fit, Cond.initialized RX4, Cond.code yX4_fit cX4_fit 6 (some .boolean), Cond.constantLong RX4 7 (10), Cond.methodLink RX10 212 yX6_clear, Cond.methodLink RX10 213 yX4_at, Cond.static yX4_at, Cond.code yX4_at cX4_at 7 (some .int), Cond.methodLink RX10 216 yX6_add, Cond.methodLink RX10 217 yX2_firstMisplaced, Cond.instanceMethod yX2_firstMisplaced, Cond.selects RX2 yX2_firstMisplaced yX2_firstMisplaced, Cond.code yX2_firstMisplaced cX2_firstMisplaced 6 (some .int), Cond.methodLink RX2 82 yX6_size, Cond.methodLink RX2 88 yX6_at, Cond.methodLink RX2 91 yX2_isInPlace, Cond.instanceMethod yX2_isInPlace, Cond.selects RX2 yX2_isInPlace yX2_isInPlace, Cond.code yX2_isInPlace cX2_isInPlace 4 (some .boolean), Cond.methodLink RX10 221 yX2_firstNotShown, Cond.instanceMethod yX2_firstNotShown, Cond.selects RX2 yX2_firstNotShown yX2_firstNotShown]
def wsL_law_r30 : List Cond := [Cond.code yX2_firstNotShown cX2_firstNotShown 5 (some .int), Cond.methodLink RX2 95 yX2_isShown, Cond.methodLink RL 74 yX11_look, Cond.instanceMethod yX11_look, Cond.selects RX11 yX11_look yX11_look, Cond.code yX11_look cX11_look 5 (some .int), Cond.constantLong RX11 166 (10), Cond.methodLink RX11 168 yX11_tenTo, Cond.static yX11_tenTo, Cond.code yX11_tenTo cX11_tenTo 4 (some .long), Cond.methodLink RL 75 yX10_judge, Cond.instanceMethod yX10_judge, Cond.selects RX10 yX10_judge yX10_judge, Cond.code yX10_judge cX10_judge 10 (some .int), Cond.methodLink RX10 224 yX3_copy, Cond.instanceMethod yX3_copy, Cond.selects RX3 yX3_copy yX3_copy, Cond.code yX3_copy cX3_copy 2 none, Cond.methodLink RX3 39 yX6_copy, Cond.instanceMethod yX6_copy, Cond.selects RX6 yX6_copy yX6_copy, Cond.code yX6_copy cX6_copy 3 none, Cond.methodLink RX6 40 yX6_clear, Cond.methodLink RX6 43 yX6_add]
def wsL_law_r31 : List Cond := [Cond.methodLink RX10 227 yX10_isDoneOrSo, Cond.instanceMethod yX10_isDoneOrSo, Cond.selects RX10 yX10_isDoneOrSo yX10_isDoneOrSo, Cond.code yX10_isDoneOrSo cX10_isDoneOrSo 4 (some .boolean), Cond.methodLink RX10 309 yX3_insertIfItCanBe, Cond.instanceMethod yX3_insertIfItCanBe, Cond.selects RX3 yX3_insertIfItCanBe yX3_insertIfItCanBe, Cond.code yX3_insertIfItCanBe cX3_insertIfItCanBe 4 (some .boolean), Cond.methodLink RX3 81 yX3_has, Cond.methodLink RX3 85 yX3_isFull, Cond.methodLink RX3 86 yX3_append, Cond.methodLink RX10 312 yX3_deleteIfItIsThere, Cond.instanceMethod yX3_deleteIfItIsThere, Cond.selects RX3 yX3_deleteIfItIsThere yX3_deleteIfItIsThere, Cond.code yX3_deleteIfItIsThere cX3_deleteIfItIsThere 4 (some .boolean), Cond.methodLink RX3 89 yX3_takeOut, Cond.methodLink RX10 291 yX5_isIn, Cond.methodLink RL 79 yX11_judge, Cond.instanceMethod yX11_judge, Cond.selects RX11 yX11_judge yX11_judge, Cond.code yX11_judge cX11_judge 6 (some .int), Cond.constantLong RX11 172 (4), Cond.constantLong RX11 174 (1000), Cond.methodLink RX11 176 yX11_tryThing]
def wsL_law_r32 : List Cond := [Cond.instanceMethod yX11_tryThing, Cond.selects RX11 yX11_tryThing yX11_tryThing, Cond.code yX11_tryThing cX11_tryThing 6 (some .boolean), Cond.methodLink RL 80 yX10_see, Cond.instanceMethod yX10_see, Cond.selects RX10 yX10_see yX10_see, Cond.code yX10_see cX10_see 4 (some .int), Cond.methodLink RX10 231 yX6_isFull, Cond.methodLink RX10 232 yX6_size, Cond.methodLink RL 84 yX11_see, Cond.instanceMethod yX11_see, Cond.selects RX11 yX11_see yX11_see, Cond.code yX11_see cX11_see 4 (some .int), Cond.fieldLink RX11 180 "CoverOrderModel" "seen" "I", Cond.methodLink RL 85 yX10_unsee, Cond.instanceMethod yX10_unsee, Cond.selects RX10 yX10_unsee yX10_unsee, Cond.code yX10_unsee cX10_unsee 2 (some .int), Cond.methodLink RL 88 yX11_unsee, Cond.instanceMethod yX11_unsee, Cond.selects RX11 yX11_unsee yX11_unsee, Cond.code yX11_unsee cX11_unsee 2 (some .int), Cond.methodLink RL 89 yX10_missing, Cond.instanceMethod yX10_missing]
def wsL_law_r33 : List Cond := [Cond.selects RX10 yX10_missing yX10_missing, Cond.code yX10_missing cX10_missing 6 (some .int), Cond.methodLink RX10 236 yX10_mayBeMissing, Cond.instanceMethod yX10_mayBeMissing, Cond.selects RX10 yX10_mayBeMissing yX10_mayBeMissing, Cond.code yX10_mayBeMissing cX10_mayBeMissing 3 (some .boolean), Cond.methodLink RX10 315 yX10_isAllSeenIn, Cond.instanceMethod yX10_isAllSeenIn, Cond.selects RX10 yX10_isAllSeenIn yX10_isAllSeenIn, Cond.code yX10_isAllSeenIn cX10_isAllSeenIn 6 (some .boolean), Cond.methodLink RX10 319 yX6_at, Cond.methodLink RX10 239 yX3_pair, Cond.methodLink RL 92 yX11_missing, Cond.instanceMethod yX11_missing, Cond.selects RX11 yX11_missing yX11_missing, Cond.code yX11_missing cX11_missing 6 (some .int), Cond.methodLink RX11 183 yX11_mayBe, Cond.instanceMethod yX11_mayBe, Cond.selects RX11 yX11_mayBe yX11_mayBe, Cond.code yX11_mayBe cX11_mayBe 5 (some .boolean), Cond.methodLink RL 93 yX10_share, Cond.instanceMethod yX10_share, Cond.selects RX10 yX10_share yX10_share, Cond.code yX10_share cX10_share 8 (some .int)]
def wsL_law_r34 : List Cond := [Cond.methodLink RX10 242 yX1_gainInAllOrders, Cond.static yX1_gainInAllOrders, Cond.initialized RX1, Cond.code yX1_gainInAllOrders cX1_gainInAllOrders 11 (some .int), Cond.methodLink RX1 9 yX5_line, Cond.methodLink RX1 15 yX5_only, Cond.methodLink RX1 19 yX1_countReached, Cond.static yX1_countReached, Cond.code yX1_countReached cX1_countReached 4 (some .int), Cond.methodLink RX1 37 yX5_withLine, Cond.methodLink RX1 41 yX5_reached, Cond.methodLink RX1 25 yJ6_bitCount_0f7a4, Cond.methodLink RX1 30 yX1_factorial, Cond.static yX1_factorial, Cond.code yX1_factorial cX1_factorial 3 (some .int), Cond.methodLink RX10 247 yX5_line, Cond.methodLink RX10 251 yJ6_bitCount_0f7a4, Cond.methodLink RX10 256 yX1_factorial, Cond.methodLink RX10 259 yX1_inLeastTerms, Cond.static yX1_inLeastTerms, Cond.code yX1_inLeastTerms cX1_inLeastTerms 5 (some .int), Cond.methodLink RX1 44 yX1_greatestDivisor, Cond.static yX1_greatestDivisor, Cond.code yX1_greatestDivisor cX1_greatestDivisor 6 (some .int)]
def wsL_law_r35 : List Cond := [Cond.methodLink RL 97 yX11_share, Cond.instanceMethod yX11_share, Cond.selects RX11 yX11_share yX11_share, Cond.code yX11_share cX11_share 10 (some .int), Cond.methodLink RX11 186 yX11_factorial, Cond.static yX11_factorial, Cond.code yX11_factorial cX11_factorial 3 (some .int), Cond.methodLink RX11 189 yX11_common, Cond.static yX11_common, Cond.code yX11_common cX11_common 5 (some .int), Cond.methodLink RL 98 yX10_spared, Cond.instanceMethod yX10_spared, Cond.selects RX10 yX10_spared yX10_spared, Cond.code yX10_spared cX10_spared 9 (some .int), Cond.methodLink RX10 263 yX1_weightOfReaching, Cond.static yX1_weightOfReaching, Cond.code yX1_weightOfReaching cX1_weightOfReaching 8 (some .int), Cond.methodLink RX1 33 yX1_power, Cond.static yX1_power, Cond.code yX1_power cX1_power 4 (some .int), Cond.methodLink RX10 267 yX1_power, Cond.methodLink RL 102 yX11_spared, Cond.instanceMethod yX11_spared, Cond.selects RX11 yX11_spared yX11_spared]
def wsL_law_r36 : List Cond := [Cond.code yX11_spared cX11_spared 11 (some .int), Cond.constantLong RX11 192 (8), Cond.methodLink RL 103 yX10_seed, Cond.instanceMethod yX10_seed, Cond.selects RX10 yX10_seed yX10_seed, Cond.code yX10_seed cX10_seed 5 (some .long), Cond.fieldLink RX10 270 "CoverOrder" "theSeed" "J", Cond.methodLink RL 107 yX11_seed, Cond.instanceMethod yX11_seed, Cond.selects RX11 yX11_seed yX11_seed, Cond.code yX11_seed cX11_seed 5 (some .long), Cond.fieldLink RX11 194 "CoverOrderModel" "seed" "J", Cond.methodLink RL 108 yX10_drawn, Cond.instanceMethod yX10_drawn, Cond.selects RX10 yX10_drawn yX10_drawn, Cond.code yX10_drawn cX10_drawn 4 (some .int), Cond.constantLong RX10 274 (6364136223846793005), Cond.constantLong RX10 276 (1442695040888963407), Cond.methodLink RX10 278 yX3_turnDrawn, Cond.instanceMethod yX3_turnDrawn, Cond.selects RX3 yX3_turnDrawn yX3_turnDrawn, Cond.code yX3_turnDrawn cX3_turnDrawn 4 none, Cond.methodLink RX3 90 yX3_deleteIfItIsThere, Cond.methodLink RX3 93 yX3_insertIfItCanBe]
def wsL_law_r37 : List Cond := [Cond.methodLink RX10 281 yX2_depthSum, Cond.instanceMethod yX2_depthSum, Cond.selects RX2 yX2_depthSum yX2_depthSum, Cond.code yX2_depthSum cX2_depthSum 3 (some .int), Cond.methodLink RX2 67 Lib.Math.max.name, Cond.methodLink RX2 64 yX2_depthOf, Cond.methodLink RL 111 yX11_drawn, Cond.instanceMethod yX11_drawn, Cond.selects RX11 yX11_drawn yX11_drawn, Cond.code yX11_drawn cX11_drawn 7 (some .int), Cond.constantLong RX11 198 (20), Cond.constantLong RX11 200 (6364136223846793005), Cond.constantLong RX11 202 (1442695040888963407), Cond.methodLink RX11 204 yX11_depthsTogether, Cond.instanceMethod yX11_depthsTogether, Cond.selects RX11 yX11_depthsTogether yX11_depthsTogether, Cond.code yX11_depthsTogether cX11_depthsTogether 3 (some .int), Cond.methodLink RL 112 yX10_keep, Cond.instanceMethod yX10_keep, Cond.selects RX10 yX10_keep yX10_keep, Cond.code yX10_keep cX10_keep 3 (some .int), Cond.methodLink RX10 284 yX10_slotAt, Cond.instanceMethod yX10_slotAt, Cond.selects RX10 yX10_slotAt yX10_slotAt]
def wsL_law_r38 : List Cond := [Cond.code yX10_slotAt cX10_slotAt 2 (some (.object "CoverOrder$Edges")), Cond.methodLink RX10 288 yX5_only, Cond.methodLink RL 115 yX11_keep, Cond.instanceMethod yX11_keep, Cond.selects RX11 yX11_keep yX11_keep, Cond.code yX11_keep cX11_keep 3 (some .int), Cond.methodLink RL 116 yX10_again, Cond.instanceMethod yX10_again, Cond.selects RX10 yX10_again yX10_again, Cond.code yX10_again cX10_again 3 (some .int), Cond.methodLink RL 119 yX11_again, Cond.instanceMethod yX11_again, Cond.selects RX11 yX11_again yX11_again, Cond.code yX11_again cX11_again 3 (some .int), Cond.methodLink RL 120 yX10_count, Cond.instanceMethod yX10_count, Cond.selects RX10 yX10_count yX10_count, Cond.code yX10_count cX10_count 2 (some .int), Cond.methodLink RX10 297 yX10_countCovers, Cond.instanceMethod yX10_countCovers, Cond.selects RX10 yX10_countCovers yX10_countCovers, Cond.code yX10_countCovers cX10_countCovers 2 (some .int), Cond.methodLink RX10 300 yX2_greatestDepth, Cond.instanceMethod yX2_greatestDepth]
def wsL_law_r39 : List Cond := [Cond.selects RX2 yX2_greatestDepth yX2_greatestDepth, Cond.code yX2_greatestDepth cX2_greatestDepth 3 (some .int), Cond.methodLink RX10 306 yX3_countBetween, Cond.instanceMethod yX3_countBetween, Cond.selects RX3 yX3_countBetween yX3_countBetween, Cond.code yX3_countBetween cX3_countBetween 4 (some .int), Cond.methodLink RL 123 yX11_count, Cond.instanceMethod yX11_count, Cond.selects RX11 yX11_count yX11_count, Cond.code yX11_count cX11_count 2 (some .int), Cond.methodLink RX11 207 yX11_greatestDepth, Cond.instanceMethod yX11_greatestDepth, Cond.selects RX11 yX11_greatestDepth yX11_greatestDepth, Cond.code yX11_greatestDepth cX11_greatestDepth 3 (some .int), Cond.methodLink RX11 210 yX11_edgesReached, Cond.instanceMethod yX11_edgesReached, Cond.selects RX11 yX11_edgesReached yX11_edgesReached, Cond.code yX11_edgesReached cX11_edgesReached 3 (some .int)]
def wsL_law : List Cond := (wsL_law_r1 ++ (wsL_law_r2 ++ (wsL_law_r3 ++ (wsL_law_r4 ++ (wsL_law_r5 ++ (wsL_law_r6 ++ (wsL_law_r7 ++ (wsL_law_r8 ++ (wsL_law_r9 ++ (wsL_law_r10 ++ (wsL_law_r11 ++ (wsL_law_r12 ++ (wsL_law_r13 ++ (wsL_law_r14 ++ (wsL_law_r15 ++ (wsL_law_r16 ++ (wsL_law_r17 ++ (wsL_law_r18 ++ (wsL_law_r19 ++ (wsL_law_r20 ++ (wsL_law_r21 ++ (wsL_law_r22 ++ (wsL_law_r23 ++ (wsL_law_r24 ++ (wsL_law_r25 ++ (wsL_law_r26 ++ (wsL_law_r27 ++ (wsL_law_r28 ++ (wsL_law_r29 ++ (wsL_law_r30 ++ (wsL_law_r31 ++ (wsL_law_r32 ++ (wsL_law_r33 ++ (wsL_law_r34 ++ (wsL_law_r35 ++ (wsL_law_r36 ++ (wsL_law_r37 ++ (wsL_law_r38 ++ wsL_law_r39)))))))))))))))))))))))))))))))))))))) ++ wsX100 ++ wsX110 ++ wsX80 ++ wsX30 ++ wsX00 ++ wsX60 ++ wsX20 ++ wsX90 ++ wsX70 ++ ([] : List Cond)
theorem inJ6 : ∀ w ∈ wsJ60, w ∈ lw_tbl := by decide +kernel
theorem inJ13 : ∀ w ∈ wsJ130, w ∈ lw_tbl := by decide +kernel
theorem inJ9 : ∀ w ∈ wsJ90, w ∈ lw_tbl := by decide +kernel
set_option maxRecDepth 20000 in
theorem ggX0_init_X6_init : GoodIn wsX0_init wsX6_init := goodIn_r _ [11, 12, 2, 3, 13, 14, 15, 16, 17, 18, 19, 20] (by decide +kernel) (by decide +kernel)
set_option maxRecDepth 20000 in
theorem gX0_init_X6_init : GoodIn wsX0_init (wsX6_init) := ggX0_init_X6_init
theorem dX0_init_0 : decode cX0_init 0 = .ok (.aload_n 0, 1) := by decide +kernel
theorem dX0_init_1 : decode cX0_init 1 = .ok (.invokespecial 3, 3) := by decide +kernel
theorem dX0_init_4 : decode cX0_init 4 = .ok (.aload_n 0, 1) := by decide +kernel
theorem dX0_init_5 : decode cX0_init 5 = .ok (.new 9, 3) := by decide +kernel
theorem dX0_init_8 : decode cX0_init 8 = .ok (.dup, 1) := by decide +kernel
theorem dX0_init_9 : decode cX0_init 9 = .ok (.bipush 14, 2) := by decide +kernel
theorem dX0_init_11 : decode cX0_init 11 = .ok (.invokespecial 11, 3) := by decide +kernel
theorem dX0_init_14 : decode cX0_init 14 = .ok (.putfield 14, 3) := by decide +kernel
theorem dX0_init_17 : decode cX0_init 17 = .ok (.aload_n 0, 1) := by decide +kernel
theorem dX0_init_18 : decode cX0_init 18 = .ok (.new 9, 3) := by decide +kernel
theorem dX0_init_21 : decode cX0_init 21 = .ok (.dup, 1) := by decide +kernel
theorem dX0_init_22 : decode cX0_init 22 = .ok (.bipush 14, 2) := by decide +kernel
theorem dX0_init_24 : decode cX0_init 24 = .ok (.invokespecial 11, 3) := by decide +kernel
theorem dX0_init_27 : decode cX0_init 27 = .ok (.putfield 20, 3) := by decide +kernel
theorem dX0_init_30 : decode cX0_init 30 = .ok (.return_, 1) := by decide +kernel
set_option maxRecDepth 20000 in
theorem ggX0_size_X6_size : GoodIn wsX0_size wsX6_size := goodIn_r _ [6, 7, 10, 11] (by decide +kernel) (by decide +kernel)
set_option maxRecDepth 20000 in
theorem gX0_size_X6_size : GoodIn wsX0_size (wsV RX0 23 RX6 yX6_size wsX6_size) := goodIn_app (goodIn_of _ (by decide +kernel)) ggX0_size_X6_size
theorem dX0_size_0 : decode cX0_size 0 = .ok (.aload_n 0, 1) := by decide +kernel
theorem dX0_size_1 : decode cX0_size 1 = .ok (.getfield 20, 3) := by decide +kernel
theorem dX0_size_4 : decode cX0_size 4 = .ok (.invokevirtual 23, 3) := by decide +kernel
theorem dX0_size_7 : decode cX0_size 7 = .ok (.ireturn, 1) := by decide +kernel
set_option maxRecDepth 20000 in
theorem ggX0_clear_X6_clear : GoodIn wsX0_clear wsX6_clear := goodIn_r _ [7, 8, 11, 12] (by decide +kernel) (by decide +kernel)
set_option maxRecDepth 20000 in
theorem gX0_clear_X6_clear : GoodIn wsX0_clear (wsV RX0 27 RX6 yX6_clear wsX6_clear) := goodIn_app (goodIn_of _ (by decide +kernel)) ggX0_clear_X6_clear
theorem dX0_clear_0 : decode cX0_clear 0 = .ok (.aload_n 0, 1) := by decide +kernel
theorem dX0_clear_1 : decode cX0_clear 1 = .ok (.getfield 14, 3) := by decide +kernel
theorem dX0_clear_4 : decode cX0_clear 4 = .ok (.invokevirtual 27, 3) := by decide +kernel
theorem dX0_clear_7 : decode cX0_clear 7 = .ok (.aload_n 0, 1) := by decide +kernel
theorem dX0_clear_8 : decode cX0_clear 8 = .ok (.getfield 20, 3) := by decide +kernel
theorem dX0_clear_11 : decode cX0_clear 11 = .ok (.invokevirtual 27, 3) := by decide +kernel
theorem dX0_clear_14 : decode cX0_clear 14 = .ok (.return_, 1) := by decide +kernel
set_option maxRecDepth 20000 in
theorem ggX0_addInserted_X0_addDeleted : GoodIn wsX0_addInserted wsX0_addDeleted := goodIn_r _ [5, 6, 7, 8, 9, 10, 11, 12, 13, 14, 15, 16, 17, 18, 19, 20, 21, 22, 23, 24, 25, 26, 27, 28, 29, 30, 31] (by decide +kernel) (by decide +kernel)
set_option maxRecDepth 20000 in
theorem gX0_addInserted_X0_addDeleted : GoodIn wsX0_addInserted (wsV RX0 30 RX0 yX0_addDeleted wsX0_addDeleted) := goodIn_app (goodIn_of _ (by decide +kernel)) ggX0_addInserted_X0_addDeleted
theorem dX0_addInserted_0 : decode cX0_addInserted 0 = .ok (.aload_n 0, 1) := by decide +kernel
theorem dX0_addInserted_1 : decode cX0_addInserted 1 = .ok (.bipush (-9), 2) := by decide +kernel
theorem dX0_addInserted_3 : decode cX0_addInserted 3 = .ok (.bipush (-9), 2) := by decide +kernel
theorem dX0_addInserted_5 : decode cX0_addInserted 5 = .ok (.invokevirtual 30, 3) := by decide +kernel
theorem dX0_addInserted_8 : decode cX0_addInserted 8 = .ok (.return_, 1) := by decide +kernel
set_option maxRecDepth 20000 in
theorem ggX0_addDeleted_X6_isFull : GoodIn wsX0_addDeleted wsX6_isFull := goodIn_r _ [7, 8, 9, 25, 26] (by decide +kernel) (by decide +kernel)
set_option maxRecDepth 20000 in
theorem gX0_addDeleted_X6_isFull : GoodIn wsX0_addDeleted (wsV RX0 34 RX6 yX6_isFull wsX6_isFull) := goodIn_app (goodIn_of _ (by decide +kernel)) ggX0_addDeleted_X6_isFull
set_option maxRecDepth 20000 in
theorem ggX0_addDeleted_X6_takeOut : GoodIn wsX0_addDeleted wsX6_takeOut := goodIn_r _ [13, 8, 9, 25, 26] (by decide +kernel) (by decide +kernel)
set_option maxRecDepth 20000 in
theorem gX0_addDeleted_X6_takeOut : GoodIn wsX0_addDeleted (wsV RX0 38 RX6 yX6_takeOut wsX6_takeOut) := goodIn_app (goodIn_of _ (by decide +kernel)) ggX0_addDeleted_X6_takeOut
set_option maxRecDepth 20000 in
theorem ggX0_addDeleted_X6_add : GoodIn wsX0_addDeleted wsX6_add := goodIn_r _ [17, 8, 18, 19, 20, 6, 21, 9, 22, 4, 5, 7, 25, 26] (by decide +kernel) (by decide +kernel)
set_option maxRecDepth 20000 in
theorem gX0_addDeleted_X6_add : GoodIn wsX0_addDeleted (wsV RX0 42 RX6 yX6_add wsX6_add) := goodIn_app (goodIn_of _ (by decide +kernel)) ggX0_addDeleted_X6_add
theorem dX0_addDeleted_0 : decode cX0_addDeleted 0 = .ok (.aload_n 0, 1) := by decide +kernel
theorem dX0_addDeleted_1 : decode cX0_addDeleted 1 = .ok (.getfield 20, 3) := by decide +kernel
theorem dX0_addDeleted_4 : decode cX0_addDeleted 4 = .ok (.invokevirtual 34, 3) := by decide +kernel
theorem dX0_addDeleted_7 : decode cX0_addDeleted 7 = .ok (.ifCond .eq 21, 3) := by decide +kernel
theorem dX0_addDeleted_10 : decode cX0_addDeleted 10 = .ok (.aload_n 0, 1) := by decide +kernel
theorem dX0_addDeleted_11 : decode cX0_addDeleted 11 = .ok (.getfield 20, 3) := by decide +kernel
theorem dX0_addDeleted_14 : decode cX0_addDeleted 14 = .ok (.iconst 0, 1) := by decide +kernel
theorem dX0_addDeleted_15 : decode cX0_addDeleted 15 = .ok (.invokevirtual 38, 3) := by decide +kernel
theorem dX0_addDeleted_18 : decode cX0_addDeleted 18 = .ok (.pop, 1) := by decide +kernel
theorem dX0_addDeleted_19 : decode cX0_addDeleted 19 = .ok (.aload_n 0, 1) := by decide +kernel
theorem dX0_addDeleted_20 : decode cX0_addDeleted 20 = .ok (.getfield 14, 3) := by decide +kernel
theorem dX0_addDeleted_23 : decode cX0_addDeleted 23 = .ok (.iconst 0, 1) := by decide +kernel
theorem dX0_addDeleted_24 : decode cX0_addDeleted 24 = .ok (.invokevirtual 38, 3) := by decide +kernel
theorem dX0_addDeleted_27 : decode cX0_addDeleted 27 = .ok (.pop, 1) := by decide +kernel
theorem dX0_addDeleted_28 : decode cX0_addDeleted 28 = .ok (.aload_n 0, 1) := by decide +kernel
theorem dX0_addDeleted_29 : decode cX0_addDeleted 29 = .ok (.getfield 20, 3) := by decide +kernel
theorem dX0_addDeleted_32 : decode cX0_addDeleted 32 = .ok (.iload_n 1, 1) := by decide +kernel
theorem dX0_addDeleted_33 : decode cX0_addDeleted 33 = .ok (.invokevirtual 42, 3) := by decide +kernel
theorem dX0_addDeleted_36 : decode cX0_addDeleted 36 = .ok (.aload_n 0, 1) := by decide +kernel
theorem dX0_addDeleted_37 : decode cX0_addDeleted 37 = .ok (.getfield 14, 3) := by decide +kernel
theorem dX0_addDeleted_40 : decode cX0_addDeleted 40 = .ok (.iload_n 2, 1) := by decide +kernel
theorem dX0_addDeleted_41 : decode cX0_addDeleted 41 = .ok (.invokevirtual 42, 3) := by decide +kernel
theorem dX0_addDeleted_44 : decode cX0_addDeleted 44 = .ok (.return_, 1) := by decide +kernel
set_option maxRecDepth 20000 in
theorem ggX0_undoLast_X6_takeLast : GoodIn wsX0_undoLast wsX6_takeLast := goodIn_r _ [7, 8, 9, 10, 11, 6, 12, 13, 36, 37] (by decide +kernel) (by decide +kernel)
set_option maxRecDepth 20000 in
theorem gX0_undoLast_X6_takeLast : GoodIn wsX0_undoLast (wsV RX0 45 RX6 yX6_takeLast wsX6_takeLast) := goodIn_app (goodIn_of _ (by decide +kernel)) ggX0_undoLast_X6_takeLast
set_option maxRecDepth 20000 in
theorem ggX0_undoLast_X3_takeBackLast : GoodIn wsX0_undoLast wsX3_takeBackLast := goodIn_r _ [18, 19, 20, 21, 4, 5, 6, 7, 8, 9, 10, 11, 12, 13, 38, 39, 40, 36, 37] (by decide +kernel) (by decide +kernel)
set_option maxRecDepth 20000 in
theorem gX0_undoLast_X3_takeBackLast : GoodIn wsX0_undoLast (wsV RX0 48 RX3 yX3_takeBackLast wsX3_takeBackLast) := goodIn_app (goodIn_of _ (by decide +kernel)) ggX0_undoLast_X3_takeBackLast
set_option maxRecDepth 20000 in
theorem ggX0_undoLast_X3_putBack : GoodIn wsX0_undoLast wsX3_putBack := goodIn_r _ [25, 19, 26, 27, 28, 6, 29, 8, 13, 30, 31, 32, 33, 38, 39, 40, 36, 37] (by decide +kernel) (by decide +kernel)
set_option maxRecDepth 20000 in
theorem gX0_undoLast_X3_putBack : GoodIn wsX0_undoLast (wsV RX0 53 RX3 yX3_putBack wsX3_putBack) := goodIn_app (goodIn_of _ (by decide +kernel)) ggX0_undoLast_X3_putBack
theorem dX0_undoLast_0 : decode cX0_undoLast 0 = .ok (.aload_n 0, 1) := by decide +kernel
theorem dX0_undoLast_1 : decode cX0_undoLast 1 = .ok (.getfield 20, 3) := by decide +kernel
theorem dX0_undoLast_4 : decode cX0_undoLast 4 = .ok (.invokevirtual 45, 3) := by decide +kernel
theorem dX0_undoLast_7 : decode cX0_undoLast 7 = .ok (.istore_n 2, 1) := by decide +kernel
theorem dX0_undoLast_8 : decode cX0_undoLast 8 = .ok (.aload_n 0, 1) := by decide +kernel
theorem dX0_undoLast_9 : decode cX0_undoLast 9 = .ok (.getfield 14, 3) := by decide +kernel
theorem dX0_undoLast_12 : decode cX0_undoLast 12 = .ok (.invokevirtual 45, 3) := by decide +kernel
theorem dX0_undoLast_15 : decode cX0_undoLast 15 = .ok (.istore_n 3, 1) := by decide +kernel
theorem dX0_undoLast_16 : decode cX0_undoLast 16 = .ok (.iload_n 2, 1) := by decide +kernel
theorem dX0_undoLast_17 : decode cX0_undoLast 17 = .ok (.bipush (-9), 2) := by decide +kernel
theorem dX0_undoLast_19 : decode cX0_undoLast 19 = .ok (.if_icmp .ne 10, 3) := by decide +kernel
theorem dX0_undoLast_22 : decode cX0_undoLast 22 = .ok (.aload_n 1, 1) := by decide +kernel
theorem dX0_undoLast_23 : decode cX0_undoLast 23 = .ok (.invokevirtual 48, 3) := by decide +kernel
theorem dX0_undoLast_26 : decode cX0_undoLast 26 = .ok (.goto 9, 3) := by decide +kernel
theorem dX0_undoLast_29 : decode cX0_undoLast 29 = .ok (.aload_n 1, 1) := by decide +kernel
theorem dX0_undoLast_30 : decode cX0_undoLast 30 = .ok (.iload_n 2, 1) := by decide +kernel
theorem dX0_undoLast_31 : decode cX0_undoLast 31 = .ok (.iload_n 3, 1) := by decide +kernel
theorem dX0_undoLast_32 : decode cX0_undoLast 32 = .ok (.invokevirtual 53, 3) := by decide +kernel
theorem dX0_undoLast_35 : decode cX0_undoLast 35 = .ok (.return_, 1) := by decide +kernel
set_option maxRecDepth 20000 in
theorem ggX1_gainInAllOrders_X5_line : GoodIn wsX1_gainInAllOrders wsX5_line := goodIn_r _ [4] (by decide +kernel) (by decide +kernel)
set_option maxRecDepth 20000 in
theorem gX1_gainInAllOrders_X5_line : GoodIn wsX1_gainInAllOrders (va_wsS RX1 9 yX5_line wsX5_line) := goodIn_app (goodIn_of _ (by decide +kernel)) ggX1_gainInAllOrders_X5_line
set_option maxRecDepth 20000 in
theorem ggX1_gainInAllOrders_X5_only : GoodIn wsX1_gainInAllOrders wsX5_only := goodIn_r _ [7] (by decide +kernel) (by decide +kernel)
set_option maxRecDepth 20000 in
theorem gX1_gainInAllOrders_X5_only : GoodIn wsX1_gainInAllOrders (va_wsS RX1 15 yX5_only wsX5_only) := goodIn_app (goodIn_of _ (by decide +kernel)) ggX1_gainInAllOrders_X5_only
set_option maxRecDepth 20000 in
theorem ggX1_gainInAllOrders_X1_countReached : GoodIn wsX1_gainInAllOrders wsX1_countReached := goodIn_r _ [11, 12, 13, 3, 14, 15, 16, 17, 18, 19, 20, 6, 7, 21, 22, 23, 24, 25, 26, 27, 28, 29, 30, 31, 2, 4, 32] (by decide +kernel) (by decide +kernel)
set_option maxRecDepth 20000 in
theorem gX1_gainInAllOrders_X1_countReached : GoodIn wsX1_gainInAllOrders (va_wsS RX1 19 yX1_countReached wsX1_countReached) := goodIn_app (goodIn_of _ (by decide +kernel)) ggX1_gainInAllOrders_X1_countReached
set_option maxRecDepth 20000 in
theorem ggX1_gainInAllOrders_J6_bitCount_0f7a4 : GoodIn wsX1_gainInAllOrders wsJ6_bitCount_0f7a4 := goodIn_r _ [27, 28, 29, 30] (by decide +kernel) (by decide +kernel)
set_option maxRecDepth 20000 in
theorem gX1_gainInAllOrders_J6_bitCount_0f7a4 : GoodIn wsX1_gainInAllOrders (va_wsS RX1 25 yJ6_bitCount_0f7a4 wsJ6_bitCount_0f7a4) := goodIn_app (goodIn_of _ (by decide +kernel)) ggX1_gainInAllOrders_J6_bitCount_0f7a4
set_option maxRecDepth 20000 in
theorem ggX1_gainInAllOrders_X1_factorial : GoodIn wsX1_gainInAllOrders wsX1_factorial := goodIn_r _ [35] (by decide +kernel) (by decide +kernel)
set_option maxRecDepth 20000 in
theorem gX1_gainInAllOrders_X1_factorial : GoodIn wsX1_gainInAllOrders (va_wsS RX1 30 yX1_factorial wsX1_factorial) := goodIn_app (goodIn_of _ (by decide +kernel)) ggX1_gainInAllOrders_X1_factorial
theorem dX1_gainInAllOrders_0 : decode cX1_gainInAllOrders 0 = .ok (.lload_n 0, 1) := by decide +kernel
theorem dX1_gainInAllOrders_1 : decode cX1_gainInAllOrders 1 = .ok (.iload_n 2, 1) := by decide +kernel
theorem dX1_gainInAllOrders_2 : decode cX1_gainInAllOrders 2 = .ok (.invokestatic 9, 3) := by decide +kernel
theorem dX1_gainInAllOrders_5 : decode cX1_gainInAllOrders 5 = .ok (.istore 4, 2) := by decide +kernel
theorem dX1_gainInAllOrders_7 : decode cX1_gainInAllOrders 7 = .ok (.iload 4, 2) := by decide +kernel
theorem dX1_gainInAllOrders_9 : decode cX1_gainInAllOrders 9 = .ok (.iload_n 3, 1) := by decide +kernel
theorem dX1_gainInAllOrders_10 : decode cX1_gainInAllOrders 10 = .ok (.invokestatic 15, 3) := by decide +kernel
theorem dX1_gainInAllOrders_13 : decode cX1_gainInAllOrders 13 = .ok (.iconst (-1), 1) := by decide +kernel
theorem dX1_gainInAllOrders_14 : decode cX1_gainInAllOrders 14 = .ok (.ixor, 1) := by decide +kernel
theorem dX1_gainInAllOrders_15 : decode cX1_gainInAllOrders 15 = .ok (.iand, 1) := by decide +kernel
theorem dX1_gainInAllOrders_16 : decode cX1_gainInAllOrders 16 = .ok (.istore 5, 2) := by decide +kernel
theorem dX1_gainInAllOrders_18 : decode cX1_gainInAllOrders 18 = .ok (.iconst 0, 1) := by decide +kernel
theorem dX1_gainInAllOrders_19 : decode cX1_gainInAllOrders 19 = .ok (.istore 6, 2) := by decide +kernel
theorem dX1_gainInAllOrders_21 : decode cX1_gainInAllOrders 21 = .ok (.iconst 0, 1) := by decide +kernel
theorem dX1_gainInAllOrders_22 : decode cX1_gainInAllOrders 22 = .ok (.istore 7, 2) := by decide +kernel
theorem dX1_gainInAllOrders_24 : decode cX1_gainInAllOrders 24 = .ok (.iload 7, 2) := by decide +kernel
theorem dX1_gainInAllOrders_26 : decode cX1_gainInAllOrders 26 = .ok (.iload 5, 2) := by decide +kernel
theorem dX1_gainInAllOrders_28 : decode cX1_gainInAllOrders 28 = .ok (.if_icmp .gt 77, 3) := by decide +kernel
theorem dX1_gainInAllOrders_31 : decode cX1_gainInAllOrders 31 = .ok (.iload 7, 2) := by decide +kernel
theorem dX1_gainInAllOrders_33 : decode cX1_gainInAllOrders 33 = .ok (.iload 5, 2) := by decide +kernel
theorem dX1_gainInAllOrders_35 : decode cX1_gainInAllOrders 35 = .ok (.iconst (-1), 1) := by decide +kernel
theorem dX1_gainInAllOrders_36 : decode cX1_gainInAllOrders 36 = .ok (.ixor, 1) := by decide +kernel
theorem dX1_gainInAllOrders_37 : decode cX1_gainInAllOrders 37 = .ok (.iand, 1) := by decide +kernel
theorem dX1_gainInAllOrders_38 : decode cX1_gainInAllOrders 38 = .ok (.ifCond .ne 61, 3) := by decide +kernel
theorem dX1_gainInAllOrders_41 : decode cX1_gainInAllOrders 41 = .ok (.lload_n 0, 1) := by decide +kernel
theorem dX1_gainInAllOrders_42 : decode cX1_gainInAllOrders 42 = .ok (.iload_n 2, 1) := by decide +kernel
theorem dX1_gainInAllOrders_43 : decode cX1_gainInAllOrders 43 = .ok (.iload 7, 2) := by decide +kernel
theorem dX1_gainInAllOrders_45 : decode cX1_gainInAllOrders 45 = .ok (.iload_n 3, 1) := by decide +kernel
theorem dX1_gainInAllOrders_46 : decode cX1_gainInAllOrders 46 = .ok (.invokestatic 15, 3) := by decide +kernel
theorem dX1_gainInAllOrders_49 : decode cX1_gainInAllOrders 49 = .ok (.ior, 1) := by decide +kernel
theorem dX1_gainInAllOrders_50 : decode cX1_gainInAllOrders 50 = .ok (.invokestatic 19, 3) := by decide +kernel
theorem dX1_gainInAllOrders_53 : decode cX1_gainInAllOrders 53 = .ok (.lload_n 0, 1) := by decide +kernel
theorem dX1_gainInAllOrders_54 : decode cX1_gainInAllOrders 54 = .ok (.iload_n 2, 1) := by decide +kernel
theorem dX1_gainInAllOrders_55 : decode cX1_gainInAllOrders 55 = .ok (.iload 7, 2) := by decide +kernel
theorem dX1_gainInAllOrders_57 : decode cX1_gainInAllOrders 57 = .ok (.invokestatic 19, 3) := by decide +kernel
theorem dX1_gainInAllOrders_60 : decode cX1_gainInAllOrders 60 = .ok (.isub, 1) := by decide +kernel
theorem dX1_gainInAllOrders_61 : decode cX1_gainInAllOrders 61 = .ok (.istore 8, 2) := by decide +kernel
theorem dX1_gainInAllOrders_63 : decode cX1_gainInAllOrders 63 = .ok (.iload 7, 2) := by decide +kernel
theorem dX1_gainInAllOrders_65 : decode cX1_gainInAllOrders 65 = .ok (.invokestatic 25, 3) := by decide +kernel
theorem dX1_gainInAllOrders_68 : decode cX1_gainInAllOrders 68 = .ok (.istore 9, 2) := by decide +kernel
theorem dX1_gainInAllOrders_70 : decode cX1_gainInAllOrders 70 = .ok (.iload 5, 2) := by decide +kernel
theorem dX1_gainInAllOrders_72 : decode cX1_gainInAllOrders 72 = .ok (.invokestatic 25, 3) := by decide +kernel
theorem dX1_gainInAllOrders_75 : decode cX1_gainInAllOrders 75 = .ok (.iload 9, 2) := by decide +kernel
theorem dX1_gainInAllOrders_77 : decode cX1_gainInAllOrders 77 = .ok (.isub, 1) := by decide +kernel
theorem dX1_gainInAllOrders_78 : decode cX1_gainInAllOrders 78 = .ok (.istore 10, 2) := by decide +kernel
theorem dX1_gainInAllOrders_80 : decode cX1_gainInAllOrders 80 = .ok (.iload 6, 2) := by decide +kernel
theorem dX1_gainInAllOrders_82 : decode cX1_gainInAllOrders 82 = .ok (.iload 8, 2) := by decide +kernel
theorem dX1_gainInAllOrders_84 : decode cX1_gainInAllOrders 84 = .ok (.iload 9, 2) := by decide +kernel
theorem dX1_gainInAllOrders_86 : decode cX1_gainInAllOrders 86 = .ok (.invokestatic 30, 3) := by decide +kernel
theorem dX1_gainInAllOrders_89 : decode cX1_gainInAllOrders 89 = .ok (.imul, 1) := by decide +kernel
theorem dX1_gainInAllOrders_90 : decode cX1_gainInAllOrders 90 = .ok (.iload 10, 2) := by decide +kernel
theorem dX1_gainInAllOrders_92 : decode cX1_gainInAllOrders 92 = .ok (.invokestatic 30, 3) := by decide +kernel
theorem dX1_gainInAllOrders_95 : decode cX1_gainInAllOrders 95 = .ok (.imul, 1) := by decide +kernel
theorem dX1_gainInAllOrders_96 : decode cX1_gainInAllOrders 96 = .ok (.iadd, 1) := by decide +kernel
theorem dX1_gainInAllOrders_97 : decode cX1_gainInAllOrders 97 = .ok (.istore 6, 2) := by decide +kernel
theorem dX1_gainInAllOrders_99 : decode cX1_gainInAllOrders 99 = .ok (.iinc 7 1, 3) := by decide +kernel
theorem dX1_gainInAllOrders_102 : decode cX1_gainInAllOrders 102 = .ok (.goto (-78), 3) := by decide +kernel
theorem dX1_gainInAllOrders_105 : decode cX1_gainInAllOrders 105 = .ok (.iload 6, 2) := by decide +kernel
theorem dX1_gainInAllOrders_107 : decode cX1_gainInAllOrders 107 = .ok (.ireturn, 1) := by decide +kernel
set_option maxRecDepth 20000 in
theorem ggX1_weightOfReaching_X5_line : GoodIn wsX1_weightOfReaching wsX5_line := goodIn_r _ [4] (by decide +kernel) (by decide +kernel)
set_option maxRecDepth 20000 in
theorem gX1_weightOfReaching_X5_line : GoodIn wsX1_weightOfReaching (va_wsS RX1 9 yX5_line wsX5_line) := goodIn_app (goodIn_of _ (by decide +kernel)) ggX1_weightOfReaching_X5_line
set_option maxRecDepth 20000 in
theorem ggX1_weightOfReaching_X1_countReached : GoodIn wsX1_weightOfReaching wsX1_countReached := goodIn_r _ [8, 9, 10, 3, 11, 12, 13, 14, 15, 16, 17, 18, 19, 20, 21, 22, 23, 24, 25, 26, 27, 28, 29, 30, 2, 4, 31] (by decide +kernel) (by decide +kernel)
set_option maxRecDepth 20000 in
theorem gX1_weightOfReaching_X1_countReached : GoodIn wsX1_weightOfReaching (va_wsS RX1 19 yX1_countReached wsX1_countReached) := goodIn_app (goodIn_of _ (by decide +kernel)) ggX1_weightOfReaching_X1_countReached
set_option maxRecDepth 20000 in
theorem ggX1_weightOfReaching_J6_bitCount_0f7a4 : GoodIn wsX1_weightOfReaching wsJ6_bitCount_0f7a4 := goodIn_r _ [26, 27, 28, 29] (by decide +kernel) (by decide +kernel)
set_option maxRecDepth 20000 in
theorem gX1_weightOfReaching_J6_bitCount_0f7a4 : GoodIn wsX1_weightOfReaching (va_wsS RX1 25 yJ6_bitCount_0f7a4 wsJ6_bitCount_0f7a4) := goodIn_app (goodIn_of _ (by decide +kernel)) ggX1_weightOfReaching_J6_bitCount_0f7a4
set_option maxRecDepth 20000 in
theorem ggX1_weightOfReaching_X1_power : GoodIn wsX1_weightOfReaching wsX1_power := goodIn_r _ [34] (by decide +kernel) (by decide +kernel)
set_option maxRecDepth 20000 in
theorem gX1_weightOfReaching_X1_power : GoodIn wsX1_weightOfReaching (va_wsS RX1 33 yX1_power wsX1_power) := goodIn_app (goodIn_of _ (by decide +kernel)) ggX1_weightOfReaching_X1_power
theorem dX1_weightOfReaching_0 : decode cX1_weightOfReaching 0 = .ok (.lload_n 0, 1) := by decide +kernel
theorem dX1_weightOfReaching_1 : decode cX1_weightOfReaching 1 = .ok (.iload_n 2, 1) := by decide +kernel
theorem dX1_weightOfReaching_2 : decode cX1_weightOfReaching 2 = .ok (.invokestatic 9, 3) := by decide +kernel
theorem dX1_weightOfReaching_5 : decode cX1_weightOfReaching 5 = .ok (.istore 5, 2) := by decide +kernel
theorem dX1_weightOfReaching_7 : decode cX1_weightOfReaching 7 = .ok (.iconst 0, 1) := by decide +kernel
theorem dX1_weightOfReaching_8 : decode cX1_weightOfReaching 8 = .ok (.istore 6, 2) := by decide +kernel
theorem dX1_weightOfReaching_10 : decode cX1_weightOfReaching 10 = .ok (.iconst 0, 1) := by decide +kernel
theorem dX1_weightOfReaching_11 : decode cX1_weightOfReaching 11 = .ok (.istore 7, 2) := by decide +kernel
theorem dX1_weightOfReaching_13 : decode cX1_weightOfReaching 13 = .ok (.iload 7, 2) := by decide +kernel
theorem dX1_weightOfReaching_15 : decode cX1_weightOfReaching 15 = .ok (.iload 5, 2) := by decide +kernel
theorem dX1_weightOfReaching_17 : decode cX1_weightOfReaching 17 = .ok (.if_icmp .gt 64, 3) := by decide +kernel
theorem dX1_weightOfReaching_20 : decode cX1_weightOfReaching 20 = .ok (.iload 7, 2) := by decide +kernel
theorem dX1_weightOfReaching_22 : decode cX1_weightOfReaching 22 = .ok (.iload 5, 2) := by decide +kernel
theorem dX1_weightOfReaching_24 : decode cX1_weightOfReaching 24 = .ok (.iconst (-1), 1) := by decide +kernel
theorem dX1_weightOfReaching_25 : decode cX1_weightOfReaching 25 = .ok (.ixor, 1) := by decide +kernel
theorem dX1_weightOfReaching_26 : decode cX1_weightOfReaching 26 = .ok (.iand, 1) := by decide +kernel
theorem dX1_weightOfReaching_27 : decode cX1_weightOfReaching 27 = .ok (.ifCond .ne 48, 3) := by decide +kernel
theorem dX1_weightOfReaching_30 : decode cX1_weightOfReaching 30 = .ok (.lload_n 0, 1) := by decide +kernel
theorem dX1_weightOfReaching_31 : decode cX1_weightOfReaching 31 = .ok (.iload_n 2, 1) := by decide +kernel
theorem dX1_weightOfReaching_32 : decode cX1_weightOfReaching 32 = .ok (.iload 7, 2) := by decide +kernel
theorem dX1_weightOfReaching_34 : decode cX1_weightOfReaching 34 = .ok (.invokestatic 19, 3) := by decide +kernel
theorem dX1_weightOfReaching_37 : decode cX1_weightOfReaching 37 = .ok (.iload_n 3, 1) := by decide +kernel
theorem dX1_weightOfReaching_38 : decode cX1_weightOfReaching 38 = .ok (.if_icmp .lt 37, 3) := by decide +kernel
theorem dX1_weightOfReaching_41 : decode cX1_weightOfReaching 41 = .ok (.iload 6, 2) := by decide +kernel
theorem dX1_weightOfReaching_43 : decode cX1_weightOfReaching 43 = .ok (.bipush 10, 2) := by decide +kernel
theorem dX1_weightOfReaching_45 : decode cX1_weightOfReaching 45 = .ok (.iload 4, 2) := by decide +kernel
theorem dX1_weightOfReaching_47 : decode cX1_weightOfReaching 47 = .ok (.isub, 1) := by decide +kernel
theorem dX1_weightOfReaching_48 : decode cX1_weightOfReaching 48 = .ok (.iload 7, 2) := by decide +kernel
theorem dX1_weightOfReaching_50 : decode cX1_weightOfReaching 50 = .ok (.invokestatic 25, 3) := by decide +kernel
theorem dX1_weightOfReaching_53 : decode cX1_weightOfReaching 53 = .ok (.invokestatic 33, 3) := by decide +kernel
theorem dX1_weightOfReaching_56 : decode cX1_weightOfReaching 56 = .ok (.iload 4, 2) := by decide +kernel
theorem dX1_weightOfReaching_58 : decode cX1_weightOfReaching 58 = .ok (.iload 5, 2) := by decide +kernel
theorem dX1_weightOfReaching_60 : decode cX1_weightOfReaching 60 = .ok (.iload 7, 2) := by decide +kernel
theorem dX1_weightOfReaching_62 : decode cX1_weightOfReaching 62 = .ok (.iconst (-1), 1) := by decide +kernel
theorem dX1_weightOfReaching_63 : decode cX1_weightOfReaching 63 = .ok (.ixor, 1) := by decide +kernel
theorem dX1_weightOfReaching_64 : decode cX1_weightOfReaching 64 = .ok (.iand, 1) := by decide +kernel
theorem dX1_weightOfReaching_65 : decode cX1_weightOfReaching 65 = .ok (.invokestatic 25, 3) := by decide +kernel
theorem dX1_weightOfReaching_68 : decode cX1_weightOfReaching 68 = .ok (.invokestatic 33, 3) := by decide +kernel
theorem dX1_weightOfReaching_71 : decode cX1_weightOfReaching 71 = .ok (.imul, 1) := by decide +kernel
theorem dX1_weightOfReaching_72 : decode cX1_weightOfReaching 72 = .ok (.iadd, 1) := by decide +kernel
theorem dX1_weightOfReaching_73 : decode cX1_weightOfReaching 73 = .ok (.istore 6, 2) := by decide +kernel
theorem dX1_weightOfReaching_75 : decode cX1_weightOfReaching 75 = .ok (.iinc 7 1, 3) := by decide +kernel
theorem dX1_weightOfReaching_78 : decode cX1_weightOfReaching 78 = .ok (.goto (-65), 3) := by decide +kernel
theorem dX1_weightOfReaching_81 : decode cX1_weightOfReaching 81 = .ok (.iload 6, 2) := by decide +kernel
theorem dX1_weightOfReaching_83 : decode cX1_weightOfReaching 83 = .ok (.ireturn, 1) := by decide +kernel
set_option maxRecDepth 20000 in
theorem ggX1_countReached_X5_withLine : GoodIn wsX1_countReached wsX5_withLine := goodIn_r _ [4, 5, 6] (by decide +kernel) (by decide +kernel)
set_option maxRecDepth 20000 in
theorem gX1_countReached_X5_withLine : GoodIn wsX1_countReached (va_wsS RX1 37 yX5_withLine wsX5_withLine) := goodIn_app (goodIn_of _ (by decide +kernel)) ggX1_countReached_X5_withLine
set_option maxRecDepth 20000 in
theorem ggX1_countReached_X5_reached : GoodIn wsX1_countReached wsX5_reached := goodIn_r _ [9, 10, 11, 3, 12, 13, 14, 15, 16, 17, 18, 19, 20, 21, 22, 23, 24, 25] (by decide +kernel) (by decide +kernel)
set_option maxRecDepth 20000 in
theorem gX1_countReached_X5_reached : GoodIn wsX1_countReached (va_wsS RX1 41 yX5_reached wsX5_reached) := goodIn_app (goodIn_of _ (by decide +kernel)) ggX1_countReached_X5_reached
set_option maxRecDepth 20000 in
theorem ggX1_countReached_J6_bitCount_0f7a4 : GoodIn wsX1_countReached wsJ6_bitCount_0f7a4 := goodIn_r _ [19, 20, 21, 22] (by decide +kernel) (by decide +kernel)
set_option maxRecDepth 20000 in
theorem gX1_countReached_J6_bitCount_0f7a4 : GoodIn wsX1_countReached (va_wsS RX1 25 yJ6_bitCount_0f7a4 wsJ6_bitCount_0f7a4) := goodIn_app (goodIn_of _ (by decide +kernel)) ggX1_countReached_J6_bitCount_0f7a4
theorem dX1_countReached_0 : decode cX1_countReached 0 = .ok (.lload_n 0, 1) := by decide +kernel
theorem dX1_countReached_1 : decode cX1_countReached 1 = .ok (.iload_n 2, 1) := by decide +kernel
theorem dX1_countReached_2 : decode cX1_countReached 2 = .ok (.iload_n 3, 1) := by decide +kernel
theorem dX1_countReached_3 : decode cX1_countReached 3 = .ok (.invokestatic 37, 3) := by decide +kernel
theorem dX1_countReached_6 : decode cX1_countReached 6 = .ok (.iconst 0, 1) := by decide +kernel
theorem dX1_countReached_7 : decode cX1_countReached 7 = .ok (.invokestatic 41, 3) := by decide +kernel
theorem dX1_countReached_10 : decode cX1_countReached 10 = .ok (.invokestatic 25, 3) := by decide +kernel
theorem dX1_countReached_13 : decode cX1_countReached 13 = .ok (.ireturn, 1) := by decide +kernel
theorem dX1_factorial_0 : decode cX1_factorial 0 = .ok (.iconst 1, 1) := by decide +kernel
theorem dX1_factorial_1 : decode cX1_factorial 1 = .ok (.istore_n 1, 1) := by decide +kernel
theorem dX1_factorial_2 : decode cX1_factorial 2 = .ok (.iconst 2, 1) := by decide +kernel
theorem dX1_factorial_3 : decode cX1_factorial 3 = .ok (.istore_n 2, 1) := by decide +kernel
theorem dX1_factorial_4 : decode cX1_factorial 4 = .ok (.iload_n 2, 1) := by decide +kernel
theorem dX1_factorial_5 : decode cX1_factorial 5 = .ok (.iload_n 0, 1) := by decide +kernel
theorem dX1_factorial_6 : decode cX1_factorial 6 = .ok (.if_icmp .gt 13, 3) := by decide +kernel
theorem dX1_factorial_9 : decode cX1_factorial 9 = .ok (.iload_n 1, 1) := by decide +kernel
theorem dX1_factorial_10 : decode cX1_factorial 10 = .ok (.iload_n 2, 1) := by decide +kernel
theorem dX1_factorial_11 : decode cX1_factorial 11 = .ok (.imul, 1) := by decide +kernel
theorem dX1_factorial_12 : decode cX1_factorial 12 = .ok (.istore_n 1, 1) := by decide +kernel
theorem dX1_factorial_13 : decode cX1_factorial 13 = .ok (.iinc 2 1, 3) := by decide +kernel
theorem dX1_factorial_16 : decode cX1_factorial 16 = .ok (.goto (-12), 3) := by decide +kernel
theorem dX1_factorial_19 : decode cX1_factorial 19 = .ok (.iload_n 1, 1) := by decide +kernel
theorem dX1_factorial_20 : decode cX1_factorial 20 = .ok (.ireturn, 1) := by decide +kernel
theorem dX1_power_0 : decode cX1_power 0 = .ok (.iconst 1, 1) := by decide +kernel
theorem dX1_power_1 : decode cX1_power 1 = .ok (.istore_n 2, 1) := by decide +kernel
theorem dX1_power_2 : decode cX1_power 2 = .ok (.iconst 0, 1) := by decide +kernel
theorem dX1_power_3 : decode cX1_power 3 = .ok (.istore_n 3, 1) := by decide +kernel
theorem dX1_power_4 : decode cX1_power 4 = .ok (.iload_n 3, 1) := by decide +kernel
theorem dX1_power_5 : decode cX1_power 5 = .ok (.iload_n 1, 1) := by decide +kernel
theorem dX1_power_6 : decode cX1_power 6 = .ok (.if_icmp .ge 13, 3) := by decide +kernel
theorem dX1_power_9 : decode cX1_power 9 = .ok (.iload_n 2, 1) := by decide +kernel
theorem dX1_power_10 : decode cX1_power 10 = .ok (.iload_n 0, 1) := by decide +kernel
theorem dX1_power_11 : decode cX1_power 11 = .ok (.imul, 1) := by decide +kernel
theorem dX1_power_12 : decode cX1_power 12 = .ok (.istore_n 2, 1) := by decide +kernel
theorem dX1_power_13 : decode cX1_power 13 = .ok (.iinc 3 1, 3) := by decide +kernel
theorem dX1_power_16 : decode cX1_power 16 = .ok (.goto (-12), 3) := by decide +kernel
theorem dX1_power_19 : decode cX1_power 19 = .ok (.iload_n 2, 1) := by decide +kernel
theorem dX1_power_20 : decode cX1_power 20 = .ok (.ireturn, 1) := by decide +kernel
set_option maxRecDepth 20000 in
theorem ggX1_inLeastTerms_X1_greatestDivisor : GoodIn wsX1_inLeastTerms wsX1_greatestDivisor := goodIn_r _ [4] (by decide +kernel) (by decide +kernel)
set_option maxRecDepth 20000 in
theorem gX1_inLeastTerms_X1_greatestDivisor : GoodIn wsX1_inLeastTerms (va_wsS RX1 44 yX1_greatestDivisor wsX1_greatestDivisor) := goodIn_app (goodIn_of _ (by decide +kernel)) ggX1_inLeastTerms_X1_greatestDivisor
theorem dX1_inLeastTerms_0 : decode cX1_inLeastTerms 0 = .ok (.iload_n 0, 1) := by decide +kernel
theorem dX1_inLeastTerms_1 : decode cX1_inLeastTerms 1 = .ok (.iload_n 1, 1) := by decide +kernel
theorem dX1_inLeastTerms_2 : decode cX1_inLeastTerms 2 = .ok (.invokestatic 44, 3) := by decide +kernel
theorem dX1_inLeastTerms_5 : decode cX1_inLeastTerms 5 = .ok (.istore_n 3, 1) := by decide +kernel
theorem dX1_inLeastTerms_6 : decode cX1_inLeastTerms 6 = .ok (.iload_n 2, 1) := by decide +kernel
theorem dX1_inLeastTerms_7 : decode cX1_inLeastTerms 7 = .ok (.ifCond .eq 7, 3) := by decide +kernel
theorem dX1_inLeastTerms_10 : decode cX1_inLeastTerms 10 = .ok (.iload_n 0, 1) := by decide +kernel
theorem dX1_inLeastTerms_11 : decode cX1_inLeastTerms 11 = .ok (.goto 4, 3) := by decide +kernel
theorem dX1_inLeastTerms_14 : decode cX1_inLeastTerms 14 = .ok (.iload_n 1, 1) := by decide +kernel
theorem dX1_inLeastTerms_15 : decode cX1_inLeastTerms 15 = .ok (.istore 4, 2) := by decide +kernel
theorem dX1_inLeastTerms_17 : decode cX1_inLeastTerms 17 = .ok (.iload_n 3, 1) := by decide +kernel
theorem dX1_inLeastTerms_18 : decode cX1_inLeastTerms 18 = .ok (.ifCond .ne 8, 3) := by decide +kernel
theorem dX1_inLeastTerms_21 : decode cX1_inLeastTerms 21 = .ok (.iload 4, 2) := by decide +kernel
theorem dX1_inLeastTerms_23 : decode cX1_inLeastTerms 23 = .ok (.goto 7, 3) := by decide +kernel
theorem dX1_inLeastTerms_26 : decode cX1_inLeastTerms 26 = .ok (.iload 4, 2) := by decide +kernel
theorem dX1_inLeastTerms_28 : decode cX1_inLeastTerms 28 = .ok (.iload_n 3, 1) := by decide +kernel
theorem dX1_inLeastTerms_29 : decode cX1_inLeastTerms 29 = .ok (.idiv, 1) := by decide +kernel
theorem dX1_inLeastTerms_30 : decode cX1_inLeastTerms 30 = .ok (.ireturn, 1) := by decide +kernel
theorem dX1_greatestDivisor_0 : decode cX1_greatestDivisor 0 = .ok (.iload_n 0, 1) := by decide +kernel
theorem dX1_greatestDivisor_1 : decode cX1_greatestDivisor 1 = .ok (.istore_n 2, 1) := by decide +kernel
theorem dX1_greatestDivisor_2 : decode cX1_greatestDivisor 2 = .ok (.iload_n 1, 1) := by decide +kernel
theorem dX1_greatestDivisor_3 : decode cX1_greatestDivisor 3 = .ok (.istore_n 3, 1) := by decide +kernel
theorem dX1_greatestDivisor_4 : decode cX1_greatestDivisor 4 = .ok (.iconst 0, 1) := by decide +kernel
theorem dX1_greatestDivisor_5 : decode cX1_greatestDivisor 5 = .ok (.istore 4, 2) := by decide +kernel
theorem dX1_greatestDivisor_7 : decode cX1_greatestDivisor 7 = .ok (.iload 4, 2) := by decide +kernel
theorem dX1_greatestDivisor_9 : decode cX1_greatestDivisor 9 = .ok (.bipush 64, 2) := by decide +kernel
theorem dX1_greatestDivisor_11 : decode cX1_greatestDivisor 11 = .ok (.if_icmp .ge 23, 3) := by decide +kernel
theorem dX1_greatestDivisor_14 : decode cX1_greatestDivisor 14 = .ok (.iload_n 3, 1) := by decide +kernel
theorem dX1_greatestDivisor_15 : decode cX1_greatestDivisor 15 = .ok (.ifCond .eq 19, 3) := by decide +kernel
theorem dX1_greatestDivisor_18 : decode cX1_greatestDivisor 18 = .ok (.iload_n 2, 1) := by decide +kernel
theorem dX1_greatestDivisor_19 : decode cX1_greatestDivisor 19 = .ok (.iload_n 3, 1) := by decide +kernel
theorem dX1_greatestDivisor_20 : decode cX1_greatestDivisor 20 = .ok (.irem, 1) := by decide +kernel
theorem dX1_greatestDivisor_21 : decode cX1_greatestDivisor 21 = .ok (.istore 5, 2) := by decide +kernel
theorem dX1_greatestDivisor_23 : decode cX1_greatestDivisor 23 = .ok (.iload_n 3, 1) := by decide +kernel
theorem dX1_greatestDivisor_24 : decode cX1_greatestDivisor 24 = .ok (.istore_n 2, 1) := by decide +kernel
theorem dX1_greatestDivisor_25 : decode cX1_greatestDivisor 25 = .ok (.iload 5, 2) := by decide +kernel
theorem dX1_greatestDivisor_27 : decode cX1_greatestDivisor 27 = .ok (.istore_n 3, 1) := by decide +kernel
theorem dX1_greatestDivisor_28 : decode cX1_greatestDivisor 28 = .ok (.iinc 4 1, 3) := by decide +kernel
theorem dX1_greatestDivisor_31 : decode cX1_greatestDivisor 31 = .ok (.goto (-24), 3) := by decide +kernel
theorem dX1_greatestDivisor_34 : decode cX1_greatestDivisor 34 = .ok (.iload_n 2, 1) := by decide +kernel
theorem dX1_greatestDivisor_35 : decode cX1_greatestDivisor 35 = .ok (.ireturn, 1) := by decide +kernel
theorem dX2_init_0 : decode cX2_init 0 = .ok (.aload_n 0, 1) := by decide +kernel
theorem dX2_init_1 : decode cX2_init 1 = .ok (.invokespecial 3, 3) := by decide +kernel
theorem dX2_init_4 : decode cX2_init 4 = .ok (.return_, 1) := by decide +kernel
set_option maxRecDepth 20000 in
theorem ggX2_learn_X5_reached : GoodIn wsX2_learn wsX5_reached := goodIn_r _ [8, 9, 10, 7, 11, 12, 13, 14, 15, 16, 17, 18, 19, 20, 21, 22, 23, 24] (by decide +kernel) (by decide +kernel)
set_option maxRecDepth 20000 in
theorem gX2_learn_X5_reached : GoodIn wsX2_learn (va_wsS RX2 15 yX5_reached wsX5_reached) := goodIn_app (goodIn_of _ (by decide +kernel)) ggX2_learn_X5_reached
set_option maxRecDepth 20000 in
theorem ggX2_learn_X2_isReached : GoodIn wsX2_learn wsX2_isReached := goodIn_r _ [29, 2, 30, 31, 7, 32, 47, 48, 49, 50] (by decide +kernel) (by decide +kernel)
set_option maxRecDepth 20000 in
theorem gX2_learn_X2_isReached : GoodIn wsX2_learn (wsV RX2 27 RX2 yX2_isReached wsX2_isReached) := goodIn_app (goodIn_of _ (by decide +kernel)) ggX2_learn_X2_isReached
set_option maxRecDepth 20000 in
theorem ggX2_learn_X5_only : GoodIn wsX2_learn wsX5_only := goodIn_r _ [11] (by decide +kernel) (by decide +kernel)
set_option maxRecDepth 20000 in
theorem gX2_learn_X5_only : GoodIn wsX2_learn (va_wsS RX2 31 yX5_only wsX5_only) := goodIn_app (goodIn_of _ (by decide +kernel)) ggX2_learn_X5_only
set_option maxRecDepth 20000 in
theorem ggX2_learn_X5_withLine : GoodIn wsX2_learn wsX5_withLine := goodIn_r _ [36, 37, 38] (by decide +kernel) (by decide +kernel)
set_option maxRecDepth 20000 in
theorem gX2_learn_X5_withLine : GoodIn wsX2_learn (va_wsS RX2 35 yX5_withLine wsX5_withLine) := goodIn_app (goodIn_of _ (by decide +kernel)) ggX2_learn_X5_withLine
set_option maxRecDepth 20000 in
theorem ggX2_learn_X5_turned : GoodIn wsX2_learn wsX5_turned := goodIn_r _ [41, 42, 43, 7, 44, 22, 23, 24, 45, 31, 32, 9, 10, 11, 46, 35, 36, 37, 38] (by decide +kernel) (by decide +kernel)
set_option maxRecDepth 20000 in
theorem gX2_learn_X5_turned : GoodIn wsX2_learn (va_wsS RX2 39 yX5_turned wsX5_turned) := goodIn_app (goodIn_of _ (by decide +kernel)) ggX2_learn_X5_turned
theorem dX2_learn_0 : decode cX2_learn 0 = .ok (.aload_n 0, 1) := by decide +kernel
theorem dX2_learn_1 : decode cX2_learn 1 = .ok (.lload_n 1, 1) := by decide +kernel
theorem dX2_learn_2 : decode cX2_learn 2 = .ok (.putfield 9, 3) := by decide +kernel
theorem dX2_learn_5 : decode cX2_learn 5 = .ok (.aload_n 0, 1) := by decide +kernel
theorem dX2_learn_6 : decode cX2_learn 6 = .ok (.lload_n 1, 1) := by decide +kernel
theorem dX2_learn_7 : decode cX2_learn 7 = .ok (.iconst 0, 1) := by decide +kernel
theorem dX2_learn_8 : decode cX2_learn 8 = .ok (.invokestatic 15, 3) := by decide +kernel
theorem dX2_learn_11 : decode cX2_learn 11 = .ok (.putfield 21, 3) := by decide +kernel
theorem dX2_learn_14 : decode cX2_learn 14 = .ok (.aload_n 0, 1) := by decide +kernel
theorem dX2_learn_15 : decode cX2_learn 15 = .ok (.lconst 0, 1) := by decide +kernel
theorem dX2_learn_16 : decode cX2_learn 16 = .ok (.putfield 24, 3) := by decide +kernel
theorem dX2_learn_19 : decode cX2_learn 19 = .ok (.iconst 0, 1) := by decide +kernel
theorem dX2_learn_20 : decode cX2_learn 20 = .ok (.istore_n 3, 1) := by decide +kernel
theorem dX2_learn_21 : decode cX2_learn 21 = .ok (.iload_n 3, 1) := by decide +kernel
theorem dX2_learn_22 : decode cX2_learn 22 = .ok (.bipush 8, 2) := by decide +kernel
theorem dX2_learn_24 : decode cX2_learn 24 = .ok (.if_icmp .ge 48, 3) := by decide +kernel
theorem dX2_learn_27 : decode cX2_learn 27 = .ok (.aload_n 0, 1) := by decide +kernel
theorem dX2_learn_28 : decode cX2_learn 28 = .ok (.iload_n 3, 1) := by decide +kernel
theorem dX2_learn_29 : decode cX2_learn 29 = .ok (.invokevirtual 27, 3) := by decide +kernel
theorem dX2_learn_32 : decode cX2_learn 32 = .ok (.ifCond .eq 34, 3) := by decide +kernel
theorem dX2_learn_35 : decode cX2_learn 35 = .ok (.lload_n 1, 1) := by decide +kernel
theorem dX2_learn_36 : decode cX2_learn 36 = .ok (.iload_n 3, 1) := by decide +kernel
theorem dX2_learn_37 : decode cX2_learn 37 = .ok (.invokestatic 31, 3) := by decide +kernel
theorem dX2_learn_40 : decode cX2_learn 40 = .ok (.invokestatic 15, 3) := by decide +kernel
theorem dX2_learn_43 : decode cX2_learn 43 = .ok (.istore 4, 2) := by decide +kernel
theorem dX2_learn_45 : decode cX2_learn 45 = .ok (.aload_n 0, 1) := by decide +kernel
theorem dX2_learn_46 : decode cX2_learn 46 = .ok (.aload_n 0, 1) := by decide +kernel
theorem dX2_learn_47 : decode cX2_learn 47 = .ok (.getfield 24, 3) := by decide +kernel
theorem dX2_learn_50 : decode cX2_learn 50 = .ok (.iload_n 3, 1) := by decide +kernel
theorem dX2_learn_51 : decode cX2_learn 51 = .ok (.aload_n 0, 1) := by decide +kernel
theorem dX2_learn_52 : decode cX2_learn 52 = .ok (.getfield 21, 3) := by decide +kernel
theorem dX2_learn_55 : decode cX2_learn 55 = .ok (.iload 4, 2) := by decide +kernel
theorem dX2_learn_57 : decode cX2_learn 57 = .ok (.iconst (-1), 1) := by decide +kernel
theorem dX2_learn_58 : decode cX2_learn 58 = .ok (.ixor, 1) := by decide +kernel
theorem dX2_learn_59 : decode cX2_learn 59 = .ok (.iand, 1) := by decide +kernel
theorem dX2_learn_60 : decode cX2_learn 60 = .ok (.invokestatic 35, 3) := by decide +kernel
theorem dX2_learn_63 : decode cX2_learn 63 = .ok (.putfield 24, 3) := by decide +kernel
theorem dX2_learn_66 : decode cX2_learn 66 = .ok (.iinc 3 1, 3) := by decide +kernel
theorem dX2_learn_69 : decode cX2_learn 69 = .ok (.goto (-48), 3) := by decide +kernel
theorem dX2_learn_72 : decode cX2_learn 72 = .ok (.aload_n 0, 1) := by decide +kernel
theorem dX2_learn_73 : decode cX2_learn 73 = .ok (.aload_n 0, 1) := by decide +kernel
theorem dX2_learn_74 : decode cX2_learn 74 = .ok (.getfield 24, 3) := by decide +kernel
theorem dX2_learn_77 : decode cX2_learn 77 = .ok (.invokestatic 39, 3) := by decide +kernel
theorem dX2_learn_80 : decode cX2_learn 80 = .ok (.putfield 43, 3) := by decide +kernel
theorem dX2_learn_83 : decode cX2_learn 83 = .ok (.return_, 1) := by decide +kernel
set_option maxRecDepth 20000 in
theorem ggX2_isReached_X5_isIn : GoodIn wsX2_isReached wsX5_isIn := goodIn_r _ [5] (by decide +kernel) (by decide +kernel)
set_option maxRecDepth 20000 in
theorem gX2_isReached_X5_isIn : GoodIn wsX2_isReached (va_wsS RX2 46 yX5_isIn wsX5_isIn) := goodIn_app (goodIn_of _ (by decide +kernel)) ggX2_isReached_X5_isIn
theorem dX2_isReached_0 : decode cX2_isReached 0 = .ok (.aload_n 0, 1) := by decide +kernel
theorem dX2_isReached_1 : decode cX2_isReached 1 = .ok (.getfield 21, 3) := by decide +kernel
theorem dX2_isReached_4 : decode cX2_isReached 4 = .ok (.iload_n 1, 1) := by decide +kernel
theorem dX2_isReached_5 : decode cX2_isReached 5 = .ok (.invokestatic 46, 3) := by decide +kernel
theorem dX2_isReached_8 : decode cX2_isReached 8 = .ok (.ireturn, 1) := by decide +kernel
set_option maxRecDepth 20000 in
theorem ggX2_reachedCount_J6_bitCount_0f7a4 : GoodIn wsX2_reachedCount wsJ6_bitCount_0f7a4 := goodIn_r _ [5, 6, 7, 8] (by decide +kernel) (by decide +kernel)
set_option maxRecDepth 20000 in
theorem gX2_reachedCount_J6_bitCount_0f7a4 : GoodIn wsX2_reachedCount (va_wsS RX2 50 yJ6_bitCount_0f7a4 wsJ6_bitCount_0f7a4) := goodIn_app (goodIn_of _ (by decide +kernel)) ggX2_reachedCount_J6_bitCount_0f7a4
theorem dX2_reachedCount_0 : decode cX2_reachedCount 0 = .ok (.aload_n 0, 1) := by decide +kernel
theorem dX2_reachedCount_1 : decode cX2_reachedCount 1 = .ok (.getfield 21, 3) := by decide +kernel
theorem dX2_reachedCount_4 : decode cX2_reachedCount 4 = .ok (.invokestatic 50, 3) := by decide +kernel
theorem dX2_reachedCount_7 : decode cX2_reachedCount 7 = .ok (.ireturn, 1) := by decide +kernel
set_option maxRecDepth 20000 in
theorem ggX2_coveredBy_X5_line : GoodIn wsX2_coveredBy wsX5_line := goodIn_r _ [5] (by decide +kernel) (by decide +kernel)
set_option maxRecDepth 20000 in
theorem gX2_coveredBy_X5_line : GoodIn wsX2_coveredBy (va_wsS RX2 55 yX5_line wsX5_line) := goodIn_app (goodIn_of _ (by decide +kernel)) ggX2_coveredBy_X5_line
theorem dX2_coveredBy_0 : decode cX2_coveredBy 0 = .ok (.aload_n 0, 1) := by decide +kernel
theorem dX2_coveredBy_1 : decode cX2_coveredBy 1 = .ok (.getfield 24, 3) := by decide +kernel
theorem dX2_coveredBy_4 : decode cX2_coveredBy 4 = .ok (.iload_n 1, 1) := by decide +kernel
theorem dX2_coveredBy_5 : decode cX2_coveredBy 5 = .ok (.invokestatic 55, 3) := by decide +kernel
theorem dX2_coveredBy_8 : decode cX2_coveredBy 8 = .ok (.ireturn, 1) := by decide +kernel
set_option maxRecDepth 20000 in
theorem ggX2_coverersOf_X5_line : GoodIn wsX2_coverersOf wsX5_line := goodIn_r _ [5] (by decide +kernel) (by decide +kernel)
set_option maxRecDepth 20000 in
theorem gX2_coverersOf_X5_line : GoodIn wsX2_coverersOf (va_wsS RX2 55 yX5_line wsX5_line) := goodIn_app (goodIn_of _ (by decide +kernel)) ggX2_coverersOf_X5_line
theorem dX2_coverersOf_0 : decode cX2_coverersOf 0 = .ok (.aload_n 0, 1) := by decide +kernel
theorem dX2_coverersOf_1 : decode cX2_coverersOf 1 = .ok (.getfield 43, 3) := by decide +kernel
theorem dX2_coverersOf_4 : decode cX2_coverersOf 4 = .ok (.iload_n 1, 1) := by decide +kernel
theorem dX2_coverersOf_5 : decode cX2_coverersOf 5 = .ok (.invokestatic 55, 3) := by decide +kernel
theorem dX2_coverersOf_8 : decode cX2_coverersOf 8 = .ok (.ireturn, 1) := by decide +kernel
set_option maxRecDepth 20000 in
theorem ggX2_coveredByJust_X5_line : GoodIn wsX2_coveredByJust wsX5_line := goodIn_r _ [5] (by decide +kernel) (by decide +kernel)
set_option maxRecDepth 20000 in
theorem gX2_coveredByJust_X5_line : GoodIn wsX2_coveredByJust (va_wsS RX2 55 yX5_line wsX5_line) := goodIn_app (goodIn_of _ (by decide +kernel)) ggX2_coveredByJust_X5_line
theorem dX2_coveredByJust_0 : decode cX2_coveredByJust 0 = .ok (.iconst 0, 1) := by decide +kernel
theorem dX2_coveredByJust_1 : decode cX2_coveredByJust 1 = .ok (.istore_n 2, 1) := by decide +kernel
theorem dX2_coveredByJust_2 : decode cX2_coveredByJust 2 = .ok (.iload_n 2, 1) := by decide +kernel
theorem dX2_coveredByJust_3 : decode cX2_coveredByJust 3 = .ok (.bipush 8, 2) := by decide +kernel
theorem dX2_coveredByJust_5 : decode cX2_coveredByJust 5 = .ok (.if_icmp .ge 27, 3) := by decide +kernel
theorem dX2_coveredByJust_8 : decode cX2_coveredByJust 8 = .ok (.iload_n 1, 1) := by decide +kernel
theorem dX2_coveredByJust_9 : decode cX2_coveredByJust 9 = .ok (.ifCond .eq 17, 3) := by decide +kernel
theorem dX2_coveredByJust_12 : decode cX2_coveredByJust 12 = .ok (.aload_n 0, 1) := by decide +kernel
theorem dX2_coveredByJust_13 : decode cX2_coveredByJust 13 = .ok (.getfield 43, 3) := by decide +kernel
theorem dX2_coveredByJust_16 : decode cX2_coveredByJust 16 = .ok (.iload_n 2, 1) := by decide +kernel
theorem dX2_coveredByJust_17 : decode cX2_coveredByJust 17 = .ok (.invokestatic 55, 3) := by decide +kernel
theorem dX2_coveredByJust_20 : decode cX2_coveredByJust 20 = .ok (.iload_n 1, 1) := by decide +kernel
theorem dX2_coveredByJust_21 : decode cX2_coveredByJust 21 = .ok (.if_icmp .ne 5, 3) := by decide +kernel
theorem dX2_coveredByJust_24 : decode cX2_coveredByJust 24 = .ok (.iload_n 2, 1) := by decide +kernel
theorem dX2_coveredByJust_25 : decode cX2_coveredByJust 25 = .ok (.ireturn, 1) := by decide +kernel
theorem dX2_coveredByJust_26 : decode cX2_coveredByJust 26 = .ok (.iinc 2 1, 3) := by decide +kernel
theorem dX2_coveredByJust_29 : decode cX2_coveredByJust 29 = .ok (.goto (-27), 3) := by decide +kernel
theorem dX2_coveredByJust_32 : decode cX2_coveredByJust 32 = .ok (.bipush (-9), 2) := by decide +kernel
theorem dX2_coveredByJust_34 : decode cX2_coveredByJust 34 = .ok (.ireturn, 1) := by decide +kernel
set_option maxRecDepth 20000 in
theorem ggX2_lidOf_X2_coverersOf : GoodIn wsX2_lidOf wsX2_coverersOf := goodIn_r _ [5, 6, 7, 8, 9, 10, 18, 19, 20, 21] (by decide +kernel) (by decide +kernel)
set_option maxRecDepth 20000 in
theorem gX2_lidOf_X2_coverersOf : GoodIn wsX2_lidOf (wsV RX2 58 RX2 yX2_coverersOf wsX2_coverersOf) := goodIn_app (goodIn_of _ (by decide +kernel)) ggX2_lidOf_X2_coverersOf
set_option maxRecDepth 20000 in
theorem ggX2_lidOf_X5_only : GoodIn wsX2_lidOf wsX5_only := goodIn_r _ [13] (by decide +kernel) (by decide +kernel)
set_option maxRecDepth 20000 in
theorem gX2_lidOf_X5_only : GoodIn wsX2_lidOf (va_wsS RX2 31 yX5_only wsX5_only) := goodIn_app (goodIn_of _ (by decide +kernel)) ggX2_lidOf_X5_only
set_option maxRecDepth 20000 in
theorem ggX2_lidOf_X2_coveredByJust : GoodIn wsX2_lidOf wsX2_coveredByJust := goodIn_r _ [17, 6, 7, 8, 9, 10, 18, 19, 20, 21] (by decide +kernel) (by decide +kernel)
set_option maxRecDepth 20000 in
theorem gX2_lidOf_X2_coveredByJust : GoodIn wsX2_lidOf (wsV RX2 61 RX2 yX2_coveredByJust wsX2_coveredByJust) := goodIn_app (goodIn_of _ (by decide +kernel)) ggX2_lidOf_X2_coveredByJust
theorem dX2_lidOf_0 : decode cX2_lidOf 0 = .ok (.aload_n 0, 1) := by decide +kernel
theorem dX2_lidOf_1 : decode cX2_lidOf 1 = .ok (.aload_n 0, 1) := by decide +kernel
theorem dX2_lidOf_2 : decode cX2_lidOf 2 = .ok (.iload_n 1, 1) := by decide +kernel
theorem dX2_lidOf_3 : decode cX2_lidOf 3 = .ok (.invokevirtual 58, 3) := by decide +kernel
theorem dX2_lidOf_6 : decode cX2_lidOf 6 = .ok (.iload_n 1, 1) := by decide +kernel
theorem dX2_lidOf_7 : decode cX2_lidOf 7 = .ok (.invokestatic 31, 3) := by decide +kernel
theorem dX2_lidOf_10 : decode cX2_lidOf 10 = .ok (.iconst (-1), 1) := by decide +kernel
theorem dX2_lidOf_11 : decode cX2_lidOf 11 = .ok (.ixor, 1) := by decide +kernel
theorem dX2_lidOf_12 : decode cX2_lidOf 12 = .ok (.iand, 1) := by decide +kernel
theorem dX2_lidOf_13 : decode cX2_lidOf 13 = .ok (.invokevirtual 61, 3) := by decide +kernel
theorem dX2_lidOf_16 : decode cX2_lidOf 16 = .ok (.ireturn, 1) := by decide +kernel
set_option maxRecDepth 20000 in
theorem ggX2_depthOf_X2_isReached : GoodIn wsX2_depthOf wsX2_isReached := goodIn_r _ [5, 6, 7, 8, 9, 10, 26, 27, 28, 29] (by decide +kernel) (by decide +kernel)
set_option maxRecDepth 20000 in
theorem gX2_depthOf_X2_isReached : GoodIn wsX2_depthOf (wsV RX2 27 RX2 yX2_isReached wsX2_isReached) := goodIn_app (goodIn_of _ (by decide +kernel)) ggX2_depthOf_X2_isReached
set_option maxRecDepth 20000 in
theorem ggX2_depthOf_X2_coverersOf : GoodIn wsX2_depthOf wsX2_coverersOf := goodIn_r _ [14, 15, 16, 17, 9, 18, 26, 27, 28, 29] (by decide +kernel) (by decide +kernel)
set_option maxRecDepth 20000 in
theorem gX2_depthOf_X2_coverersOf : GoodIn wsX2_depthOf (wsV RX2 58 RX2 yX2_coverersOf wsX2_coverersOf) := goodIn_app (goodIn_of _ (by decide +kernel)) ggX2_depthOf_X2_coverersOf
set_option maxRecDepth 20000 in
theorem ggX2_depthOf_J6_bitCount_0f7a4 : GoodIn wsX2_depthOf wsJ6_bitCount_0f7a4 := goodIn_r _ [22, 23, 24, 25] (by decide +kernel) (by decide +kernel)
set_option maxRecDepth 20000 in
theorem gX2_depthOf_J6_bitCount_0f7a4 : GoodIn wsX2_depthOf (va_wsS RX2 50 yJ6_bitCount_0f7a4 wsJ6_bitCount_0f7a4) := goodIn_app (goodIn_of _ (by decide +kernel)) ggX2_depthOf_J6_bitCount_0f7a4
theorem dX2_depthOf_0 : decode cX2_depthOf 0 = .ok (.aload_n 0, 1) := by decide +kernel
theorem dX2_depthOf_1 : decode cX2_depthOf 1 = .ok (.iload_n 1, 1) := by decide +kernel
theorem dX2_depthOf_2 : decode cX2_depthOf 2 = .ok (.invokevirtual 27, 3) := by decide +kernel
theorem dX2_depthOf_5 : decode cX2_depthOf 5 = .ok (.ifCond .eq 16, 3) := by decide +kernel
theorem dX2_depthOf_8 : decode cX2_depthOf 8 = .ok (.aload_n 0, 1) := by decide +kernel
theorem dX2_depthOf_9 : decode cX2_depthOf 9 = .ok (.iload_n 1, 1) := by decide +kernel
theorem dX2_depthOf_10 : decode cX2_depthOf 10 = .ok (.invokevirtual 58, 3) := by decide +kernel
theorem dX2_depthOf_13 : decode cX2_depthOf 13 = .ok (.invokestatic 50, 3) := by decide +kernel
theorem dX2_depthOf_16 : decode cX2_depthOf 16 = .ok (.iconst 1, 1) := by decide +kernel
theorem dX2_depthOf_17 : decode cX2_depthOf 17 = .ok (.isub, 1) := by decide +kernel
theorem dX2_depthOf_18 : decode cX2_depthOf 18 = .ok (.goto 5, 3) := by decide +kernel
theorem dX2_depthOf_21 : decode cX2_depthOf 21 = .ok (.bipush (-9), 2) := by decide +kernel
theorem dX2_depthOf_23 : decode cX2_depthOf 23 = .ok (.ireturn, 1) := by decide +kernel
set_option maxRecDepth 20000 in
theorem ggX2_depthSum_X2_depthOf : GoodIn wsX2_depthSum wsX2_depthOf := goodIn_r _ [9, 10, 11, 12, 8, 13, 14, 15, 16, 17, 18, 19, 20, 21, 22, 23, 24, 25, 26, 27, 28, 29, 30, 31, 32, 33, 34, 35, 36, 37] (by decide +kernel) (by decide +kernel)
set_option maxRecDepth 20000 in
theorem gX2_depthSum_X2_depthOf : GoodIn wsX2_depthSum (wsV RX2 64 RX2 yX2_depthOf wsX2_depthOf) := goodIn_app (goodIn_of _ (by decide +kernel)) ggX2_depthSum_X2_depthOf
theorem dX2_depthSum_0 : decode cX2_depthSum 0 = .ok (.iconst 0, 1) := by decide +kernel
theorem dX2_depthSum_1 : decode cX2_depthSum 1 = .ok (.istore_n 1, 1) := by decide +kernel
theorem dX2_depthSum_2 : decode cX2_depthSum 2 = .ok (.iconst 0, 1) := by decide +kernel
theorem dX2_depthSum_3 : decode cX2_depthSum 3 = .ok (.istore_n 2, 1) := by decide +kernel
theorem dX2_depthSum_4 : decode cX2_depthSum 4 = .ok (.iload_n 2, 1) := by decide +kernel
theorem dX2_depthSum_5 : decode cX2_depthSum 5 = .ok (.bipush 8, 2) := by decide +kernel
theorem dX2_depthSum_7 : decode cX2_depthSum 7 = .ok (.if_icmp .ge 21, 3) := by decide +kernel
theorem dX2_depthSum_10 : decode cX2_depthSum 10 = .ok (.iload_n 1, 1) := by decide +kernel
theorem dX2_depthSum_11 : decode cX2_depthSum 11 = .ok (.aload_n 0, 1) := by decide +kernel
theorem dX2_depthSum_12 : decode cX2_depthSum 12 = .ok (.iload_n 2, 1) := by decide +kernel
theorem dX2_depthSum_13 : decode cX2_depthSum 13 = .ok (.invokevirtual 64, 3) := by decide +kernel
theorem dX2_depthSum_16 : decode cX2_depthSum 16 = .ok (.iconst 0, 1) := by decide +kernel
theorem dX2_depthSum_17 : decode cX2_depthSum 17 = .ok (.invokestatic 67, 3) := by decide +kernel
theorem dX2_depthSum_20 : decode cX2_depthSum 20 = .ok (.iadd, 1) := by decide +kernel
theorem dX2_depthSum_21 : decode cX2_depthSum 21 = .ok (.istore_n 1, 1) := by decide +kernel
theorem dX2_depthSum_22 : decode cX2_depthSum 22 = .ok (.iinc 2 1, 3) := by decide +kernel
theorem dX2_depthSum_25 : decode cX2_depthSum 25 = .ok (.goto (-21), 3) := by decide +kernel
theorem dX2_depthSum_28 : decode cX2_depthSum 28 = .ok (.iload_n 1, 1) := by decide +kernel
theorem dX2_depthSum_29 : decode cX2_depthSum 29 = .ok (.ireturn, 1) := by decide +kernel
set_option maxRecDepth 20000 in
theorem ggX2_greatestDepth_X2_depthOf : GoodIn wsX2_greatestDepth wsX2_depthOf := goodIn_r _ [9, 10, 11, 12, 8, 13, 14, 15, 16, 17, 18, 19, 20, 21, 22, 23, 24, 25, 26, 27, 28, 29, 30, 31, 32, 33, 34, 35, 36, 37] (by decide +kernel) (by decide +kernel)
set_option maxRecDepth 20000 in
theorem gX2_greatestDepth_X2_depthOf : GoodIn wsX2_greatestDepth (wsV RX2 64 RX2 yX2_depthOf wsX2_depthOf) := goodIn_app (goodIn_of _ (by decide +kernel)) ggX2_greatestDepth_X2_depthOf
theorem dX2_greatestDepth_0 : decode cX2_greatestDepth 0 = .ok (.iconst 0, 1) := by decide +kernel
theorem dX2_greatestDepth_1 : decode cX2_greatestDepth 1 = .ok (.istore_n 1, 1) := by decide +kernel
theorem dX2_greatestDepth_2 : decode cX2_greatestDepth 2 = .ok (.iconst 0, 1) := by decide +kernel
theorem dX2_greatestDepth_3 : decode cX2_greatestDepth 3 = .ok (.istore_n 2, 1) := by decide +kernel
theorem dX2_greatestDepth_4 : decode cX2_greatestDepth 4 = .ok (.iload_n 2, 1) := by decide +kernel
theorem dX2_greatestDepth_5 : decode cX2_greatestDepth 5 = .ok (.bipush 8, 2) := by decide +kernel
theorem dX2_greatestDepth_7 : decode cX2_greatestDepth 7 = .ok (.if_icmp .ge 19, 3) := by decide +kernel
theorem dX2_greatestDepth_10 : decode cX2_greatestDepth 10 = .ok (.iload_n 1, 1) := by decide +kernel
theorem dX2_greatestDepth_11 : decode cX2_greatestDepth 11 = .ok (.aload_n 0, 1) := by decide +kernel
theorem dX2_greatestDepth_12 : decode cX2_greatestDepth 12 = .ok (.iload_n 2, 1) := by decide +kernel
theorem dX2_greatestDepth_13 : decode cX2_greatestDepth 13 = .ok (.invokevirtual 64, 3) := by decide +kernel
theorem dX2_greatestDepth_16 : decode cX2_greatestDepth 16 = .ok (.invokestatic 67, 3) := by decide +kernel
theorem dX2_greatestDepth_19 : decode cX2_greatestDepth 19 = .ok (.istore_n 1, 1) := by decide +kernel
theorem dX2_greatestDepth_20 : decode cX2_greatestDepth 20 = .ok (.iinc 2 1, 3) := by decide +kernel
theorem dX2_greatestDepth_23 : decode cX2_greatestDepth 23 = .ok (.goto (-19), 3) := by decide +kernel
theorem dX2_greatestDepth_26 : decode cX2_greatestDepth 26 = .ok (.iload_n 1, 1) := by decide +kernel
theorem dX2_greatestDepth_27 : decode cX2_greatestDepth 27 = .ok (.ireturn, 1) := by decide +kernel
set_option maxRecDepth 20000 in
theorem ggX2_rimOf_X2_coveredBy : GoodIn wsX2_rimOf wsX2_coveredBy := goodIn_r _ [6, 7, 8, 9, 10, 11, 18, 19, 20, 21] (by decide +kernel) (by decide +kernel)
set_option maxRecDepth 20000 in
theorem gX2_rimOf_X2_coveredBy : GoodIn wsX2_rimOf (wsV RX2 73 RX2 yX2_coveredBy wsX2_coveredBy) := goodIn_app (goodIn_of _ (by decide +kernel)) ggX2_rimOf_X2_coveredBy
set_option maxRecDepth 20000 in
theorem ggX2_rimOf_X5_isIn : GoodIn wsX2_rimOf wsX5_isIn := goodIn_r _ [14] (by decide +kernel) (by decide +kernel)
set_option maxRecDepth 20000 in
theorem gX2_rimOf_X5_isIn : GoodIn wsX2_rimOf (va_wsS RX2 46 yX5_isIn wsX5_isIn) := goodIn_app (goodIn_of _ (by decide +kernel)) ggX2_rimOf_X5_isIn
set_option maxRecDepth 20000 in
theorem ggX2_rimOf_X5_line : GoodIn wsX2_rimOf wsX5_line := goodIn_r _ [11] (by decide +kernel) (by decide +kernel)
set_option maxRecDepth 20000 in
theorem gX2_rimOf_X5_line : GoodIn wsX2_rimOf (va_wsS RX2 55 yX5_line wsX5_line) := goodIn_app (goodIn_of _ (by decide +kernel)) ggX2_rimOf_X5_line
set_option maxRecDepth 20000 in
theorem ggX2_rimOf_X5_only : GoodIn wsX2_rimOf wsX5_only := goodIn_r _ [17] (by decide +kernel) (by decide +kernel)
set_option maxRecDepth 20000 in
theorem gX2_rimOf_X5_only : GoodIn wsX2_rimOf (va_wsS RX2 31 yX5_only wsX5_only) := goodIn_app (goodIn_of _ (by decide +kernel)) ggX2_rimOf_X5_only
theorem dX2_rimOf_0 : decode cX2_rimOf 0 = .ok (.aload_n 0, 1) := by decide +kernel
theorem dX2_rimOf_1 : decode cX2_rimOf 1 = .ok (.iload_n 1, 1) := by decide +kernel
theorem dX2_rimOf_2 : decode cX2_rimOf 2 = .ok (.invokevirtual 73, 3) := by decide +kernel
theorem dX2_rimOf_5 : decode cX2_rimOf 5 = .ok (.istore_n 2, 1) := by decide +kernel
theorem dX2_rimOf_6 : decode cX2_rimOf 6 = .ok (.iconst 0, 1) := by decide +kernel
theorem dX2_rimOf_7 : decode cX2_rimOf 7 = .ok (.istore_n 3, 1) := by decide +kernel
theorem dX2_rimOf_8 : decode cX2_rimOf 8 = .ok (.iconst 0, 1) := by decide +kernel
theorem dX2_rimOf_9 : decode cX2_rimOf 9 = .ok (.istore 4, 2) := by decide +kernel
theorem dX2_rimOf_11 : decode cX2_rimOf 11 = .ok (.iload 4, 2) := by decide +kernel
theorem dX2_rimOf_13 : decode cX2_rimOf 13 = .ok (.bipush 8, 2) := by decide +kernel
theorem dX2_rimOf_15 : decode cX2_rimOf 15 = .ok (.if_icmp .ge 30, 3) := by decide +kernel
theorem dX2_rimOf_18 : decode cX2_rimOf 18 = .ok (.iload_n 2, 1) := by decide +kernel
theorem dX2_rimOf_19 : decode cX2_rimOf 19 = .ok (.iload 4, 2) := by decide +kernel
theorem dX2_rimOf_21 : decode cX2_rimOf 21 = .ok (.invokestatic 46, 3) := by decide +kernel
theorem dX2_rimOf_24 : decode cX2_rimOf 24 = .ok (.ifCond .eq 15, 3) := by decide +kernel
theorem dX2_rimOf_27 : decode cX2_rimOf 27 = .ok (.iload_n 3, 1) := by decide +kernel
theorem dX2_rimOf_28 : decode cX2_rimOf 28 = .ok (.aload_n 0, 1) := by decide +kernel
theorem dX2_rimOf_29 : decode cX2_rimOf 29 = .ok (.getfield 9, 3) := by decide +kernel
theorem dX2_rimOf_32 : decode cX2_rimOf 32 = .ok (.iload 4, 2) := by decide +kernel
theorem dX2_rimOf_34 : decode cX2_rimOf 34 = .ok (.invokestatic 55, 3) := by decide +kernel
theorem dX2_rimOf_37 : decode cX2_rimOf 37 = .ok (.ior, 1) := by decide +kernel
theorem dX2_rimOf_38 : decode cX2_rimOf 38 = .ok (.istore_n 3, 1) := by decide +kernel
theorem dX2_rimOf_39 : decode cX2_rimOf 39 = .ok (.iinc 4 1, 3) := by decide +kernel
theorem dX2_rimOf_42 : decode cX2_rimOf 42 = .ok (.goto (-31), 3) := by decide +kernel
theorem dX2_rimOf_45 : decode cX2_rimOf 45 = .ok (.iload_n 3, 1) := by decide +kernel
theorem dX2_rimOf_46 : decode cX2_rimOf 46 = .ok (.iload_n 2, 1) := by decide +kernel
theorem dX2_rimOf_47 : decode cX2_rimOf 47 = .ok (.iconst (-1), 1) := by decide +kernel
theorem dX2_rimOf_48 : decode cX2_rimOf 48 = .ok (.ixor, 1) := by decide +kernel
theorem dX2_rimOf_49 : decode cX2_rimOf 49 = .ok (.iload_n 1, 1) := by decide +kernel
theorem dX2_rimOf_50 : decode cX2_rimOf 50 = .ok (.invokestatic 31, 3) := by decide +kernel
theorem dX2_rimOf_53 : decode cX2_rimOf 53 = .ok (.ior, 1) := by decide +kernel
theorem dX2_rimOf_54 : decode cX2_rimOf 54 = .ok (.iand, 1) := by decide +kernel
theorem dX2_rimOf_55 : decode cX2_rimOf 55 = .ok (.ireturn, 1) := by decide +kernel
set_option maxRecDepth 20000 in
theorem ggX2_changedIn_X2_lidOf : GoodIn wsX2_changedIn wsX2_lidOf := goodIn_r _ [6, 7, 8, 9, 5, 10, 11, 12, 13, 14, 15, 16, 17, 18, 19, 20, 21, 22, 23, 24, 25, 26] (by decide +kernel) (by decide +kernel)
set_option maxRecDepth 20000 in
theorem gX2_changedIn_X2_lidOf : GoodIn wsX2_changedIn (wsV RX2 76 RX2 yX2_lidOf wsX2_lidOf) := goodIn_app (goodIn_of _ (by decide +kernel)) ggX2_changedIn_X2_lidOf
set_option maxRecDepth 20000 in
theorem ggX2_changedIn_X5_only : GoodIn wsX2_changedIn wsX5_only := goodIn_r _ [18] (by decide +kernel) (by decide +kernel)
set_option maxRecDepth 20000 in
theorem gX2_changedIn_X5_only : GoodIn wsX2_changedIn (va_wsS RX2 31 yX5_only wsX5_only) := goodIn_app (goodIn_of _ (by decide +kernel)) ggX2_changedIn_X5_only
theorem dX2_changedIn_0 : decode cX2_changedIn 0 = .ok (.aload_n 0, 1) := by decide +kernel
theorem dX2_changedIn_1 : decode cX2_changedIn 1 = .ok (.getfield 21, 3) := by decide +kernel
theorem dX2_changedIn_4 : decode cX2_changedIn 4 = .ok (.aload_n 1, 1) := by decide +kernel
theorem dX2_changedIn_5 : decode cX2_changedIn 5 = .ok (.getfield 21, 3) := by decide +kernel
theorem dX2_changedIn_8 : decode cX2_changedIn 8 = .ok (.ixor, 1) := by decide +kernel
theorem dX2_changedIn_9 : decode cX2_changedIn 9 = .ok (.istore_n 2, 1) := by decide +kernel
theorem dX2_changedIn_10 : decode cX2_changedIn 10 = .ok (.iconst 0, 1) := by decide +kernel
theorem dX2_changedIn_11 : decode cX2_changedIn 11 = .ok (.istore_n 3, 1) := by decide +kernel
theorem dX2_changedIn_12 : decode cX2_changedIn 12 = .ok (.iload_n 3, 1) := by decide +kernel
theorem dX2_changedIn_13 : decode cX2_changedIn 13 = .ok (.bipush 8, 2) := by decide +kernel
theorem dX2_changedIn_15 : decode cX2_changedIn 15 = .ok (.if_icmp .ge 29, 3) := by decide +kernel
theorem dX2_changedIn_18 : decode cX2_changedIn 18 = .ok (.aload_n 0, 1) := by decide +kernel
theorem dX2_changedIn_19 : decode cX2_changedIn 19 = .ok (.iload_n 3, 1) := by decide +kernel
theorem dX2_changedIn_20 : decode cX2_changedIn 20 = .ok (.invokevirtual 76, 3) := by decide +kernel
theorem dX2_changedIn_23 : decode cX2_changedIn 23 = .ok (.aload_n 1, 1) := by decide +kernel
theorem dX2_changedIn_24 : decode cX2_changedIn 24 = .ok (.iload_n 3, 1) := by decide +kernel
theorem dX2_changedIn_25 : decode cX2_changedIn 25 = .ok (.invokevirtual 76, 3) := by decide +kernel
theorem dX2_changedIn_28 : decode cX2_changedIn 28 = .ok (.if_icmp .eq 10, 3) := by decide +kernel
theorem dX2_changedIn_31 : decode cX2_changedIn 31 = .ok (.iload_n 2, 1) := by decide +kernel
theorem dX2_changedIn_32 : decode cX2_changedIn 32 = .ok (.iload_n 3, 1) := by decide +kernel
theorem dX2_changedIn_33 : decode cX2_changedIn 33 = .ok (.invokestatic 31, 3) := by decide +kernel
theorem dX2_changedIn_36 : decode cX2_changedIn 36 = .ok (.ior, 1) := by decide +kernel
theorem dX2_changedIn_37 : decode cX2_changedIn 37 = .ok (.istore_n 2, 1) := by decide +kernel
theorem dX2_changedIn_38 : decode cX2_changedIn 38 = .ok (.iinc 3 1, 3) := by decide +kernel
theorem dX2_changedIn_41 : decode cX2_changedIn 41 = .ok (.goto (-29), 3) := by decide +kernel
theorem dX2_changedIn_44 : decode cX2_changedIn 44 = .ok (.iload_n 2, 1) := by decide +kernel
theorem dX2_changedIn_45 : decode cX2_changedIn 45 = .ok (.ireturn, 1) := by decide +kernel
set_option maxRecDepth 20000 in
theorem ggX2_isShown_X5_column : GoodIn wsX2_isShown wsX5_column := goodIn_r _ [6, 7, 8, 5, 9, 10, 11, 12, 13, 14, 15] (by decide +kernel) (by decide +kernel)
set_option maxRecDepth 20000 in
theorem gX2_isShown_X5_column : GoodIn wsX2_isShown (va_wsS RX2 79 yX5_column wsX5_column) := goodIn_app (goodIn_of _ (by decide +kernel)) ggX2_isShown_X5_column
set_option maxRecDepth 20000 in
theorem ggX2_isShown_X2_coveredBy : GoodIn wsX2_isShown wsX2_coveredBy := goodIn_r _ [20, 21, 22, 8, 5, 9, 38, 39, 40, 41] (by decide +kernel) (by decide +kernel)
set_option maxRecDepth 20000 in
theorem gX2_isShown_X2_coveredBy : GoodIn wsX2_isShown (wsV RX2 73 RX2 yX2_coveredBy wsX2_coveredBy) := goodIn_app (goodIn_of _ (by decide +kernel)) ggX2_isShown_X2_coveredBy
set_option maxRecDepth 20000 in
theorem ggX2_isShown_X2_lidOf : GoodIn wsX2_isShown wsX2_lidOf := goodIn_r _ [26, 27, 28, 29, 19, 30, 31, 22, 8, 5, 9, 32, 14, 15, 33, 34, 35, 36, 38, 39, 40, 41] (by decide +kernel) (by decide +kernel)
set_option maxRecDepth 20000 in
theorem gX2_isShown_X2_lidOf : GoodIn wsX2_isShown (wsV RX2 76 RX2 yX2_lidOf wsX2_lidOf) := goodIn_app (goodIn_of _ (by decide +kernel)) ggX2_isShown_X2_lidOf
set_option maxRecDepth 20000 in
theorem ggX2_isShown_X5_isIn : GoodIn wsX2_isShown wsX5_isIn := goodIn_r _ [12] (by decide +kernel) (by decide +kernel)
set_option maxRecDepth 20000 in
theorem gX2_isShown_X5_isIn : GoodIn wsX2_isShown (va_wsS RX2 46 yX5_isIn wsX5_isIn) := goodIn_app (goodIn_of _ (by decide +kernel)) ggX2_isShown_X5_isIn
theorem dX2_isShown_0 : decode cX2_isShown 0 = .ok (.aload_n 0, 1) := by decide +kernel
theorem dX2_isShown_1 : decode cX2_isShown 1 = .ok (.getfield 9, 3) := by decide +kernel
theorem dX2_isShown_4 : decode cX2_isShown 4 = .ok (.iload_n 1, 1) := by decide +kernel
theorem dX2_isShown_5 : decode cX2_isShown 5 = .ok (.invokestatic 79, 3) := by decide +kernel
theorem dX2_isShown_8 : decode cX2_isShown 8 = .ok (.aload_n 0, 1) := by decide +kernel
theorem dX2_isShown_9 : decode cX2_isShown 9 = .ok (.getfield 21, 3) := by decide +kernel
theorem dX2_isShown_12 : decode cX2_isShown 12 = .ok (.iand, 1) := by decide +kernel
theorem dX2_isShown_13 : decode cX2_isShown 13 = .ok (.istore_n 3, 1) := by decide +kernel
theorem dX2_isShown_14 : decode cX2_isShown 14 = .ok (.aload_n 0, 1) := by decide +kernel
theorem dX2_isShown_15 : decode cX2_isShown 15 = .ok (.getfield 21, 3) := by decide +kernel
theorem dX2_isShown_18 : decode cX2_isShown 18 = .ok (.iload_n 2, 1) := by decide +kernel
theorem dX2_isShown_19 : decode cX2_isShown 19 = .ok (.iconst (-1), 1) := by decide +kernel
theorem dX2_isShown_20 : decode cX2_isShown 20 = .ok (.ixor, 1) := by decide +kernel
theorem dX2_isShown_21 : decode cX2_isShown 21 = .ok (.iand, 1) := by decide +kernel
theorem dX2_isShown_22 : decode cX2_isShown 22 = .ok (.aload_n 0, 1) := by decide +kernel
theorem dX2_isShown_23 : decode cX2_isShown 23 = .ok (.iload_n 1, 1) := by decide +kernel
theorem dX2_isShown_24 : decode cX2_isShown 24 = .ok (.invokevirtual 73, 3) := by decide +kernel
theorem dX2_isShown_27 : decode cX2_isShown 27 = .ok (.iconst (-1), 1) := by decide +kernel
theorem dX2_isShown_28 : decode cX2_isShown 28 = .ok (.ixor, 1) := by decide +kernel
theorem dX2_isShown_29 : decode cX2_isShown 29 = .ok (.iand, 1) := by decide +kernel
theorem dX2_isShown_30 : decode cX2_isShown 30 = .ok (.istore 4, 2) := by decide +kernel
theorem dX2_isShown_32 : decode cX2_isShown 32 = .ok (.iload_n 3, 1) := by decide +kernel
theorem dX2_isShown_33 : decode cX2_isShown 33 = .ok (.aload_n 0, 1) := by decide +kernel
theorem dX2_isShown_34 : decode cX2_isShown 34 = .ok (.iload_n 1, 1) := by decide +kernel
theorem dX2_isShown_35 : decode cX2_isShown 35 = .ok (.invokevirtual 76, 3) := by decide +kernel
theorem dX2_isShown_38 : decode cX2_isShown 38 = .ok (.invokestatic 46, 3) := by decide +kernel
theorem dX2_isShown_41 : decode cX2_isShown 41 = .ok (.ifCond .ne 16, 3) := by decide +kernel
theorem dX2_isShown_44 : decode cX2_isShown 44 = .ok (.iload_n 3, 1) := by decide +kernel
theorem dX2_isShown_45 : decode cX2_isShown 45 = .ok (.iload_n 2, 1) := by decide +kernel
theorem dX2_isShown_46 : decode cX2_isShown 46 = .ok (.iand, 1) := by decide +kernel
theorem dX2_isShown_47 : decode cX2_isShown 47 = .ok (.ifCond .eq 14, 3) := by decide +kernel
theorem dX2_isShown_50 : decode cX2_isShown 50 = .ok (.iload_n 3, 1) := by decide +kernel
theorem dX2_isShown_51 : decode cX2_isShown 51 = .ok (.iload 4, 2) := by decide +kernel
theorem dX2_isShown_53 : decode cX2_isShown 53 = .ok (.iand, 1) := by decide +kernel
theorem dX2_isShown_54 : decode cX2_isShown 54 = .ok (.ifCond .eq 7, 3) := by decide +kernel
theorem dX2_isShown_57 : decode cX2_isShown 57 = .ok (.iconst 1, 1) := by decide +kernel
theorem dX2_isShown_58 : decode cX2_isShown 58 = .ok (.goto 4, 3) := by decide +kernel
theorem dX2_isShown_61 : decode cX2_isShown 61 = .ok (.iconst 0, 1) := by decide +kernel
theorem dX2_isShown_62 : decode cX2_isShown 62 = .ok (.ireturn, 1) := by decide +kernel
set_option maxRecDepth 20000 in
theorem ggX2_nextBehind_X5_isIn : GoodIn wsX2_nextBehind wsX5_isIn := goodIn_r _ [5] (by decide +kernel) (by decide +kernel)
set_option maxRecDepth 20000 in
theorem gX2_nextBehind_X5_isIn : GoodIn wsX2_nextBehind (va_wsS RX2 46 yX5_isIn wsX5_isIn) := goodIn_app (goodIn_of _ (by decide +kernel)) ggX2_nextBehind_X5_isIn
set_option maxRecDepth 20000 in
theorem ggX2_nextBehind_X2_coveredBy : GoodIn wsX2_nextBehind wsX2_coveredBy := goodIn_r _ [10, 11, 12, 13, 4, 14, 31, 32, 33, 34] (by decide +kernel) (by decide +kernel)
set_option maxRecDepth 20000 in
theorem gX2_nextBehind_X2_coveredBy : GoodIn wsX2_nextBehind (wsV RX2 73 RX2 yX2_coveredBy wsX2_coveredBy) := goodIn_app (goodIn_of _ (by decide +kernel)) ggX2_nextBehind_X2_coveredBy
set_option maxRecDepth 20000 in
theorem ggX2_nextBehind_X2_lidOf : GoodIn wsX2_nextBehind wsX2_lidOf := goodIn_r _ [18, 19, 20, 21, 9, 22, 23, 12, 13, 4, 14, 24, 25, 26, 27, 28, 29, 30, 31, 32, 33, 34] (by decide +kernel) (by decide +kernel)
set_option maxRecDepth 20000 in
theorem gX2_nextBehind_X2_lidOf : GoodIn wsX2_nextBehind (wsV RX2 76 RX2 yX2_lidOf wsX2_lidOf) := goodIn_app (goodIn_of _ (by decide +kernel)) ggX2_nextBehind_X2_lidOf
set_option maxRecDepth 20000 in
theorem ggX2_nextBehind_X5_only : GoodIn wsX2_nextBehind wsX5_only := goodIn_r _ [26] (by decide +kernel) (by decide +kernel)
set_option maxRecDepth 20000 in
theorem gX2_nextBehind_X5_only : GoodIn wsX2_nextBehind (va_wsS RX2 31 yX5_only wsX5_only) := goodIn_app (goodIn_of _ (by decide +kernel)) ggX2_nextBehind_X5_only
theorem dX2_nextBehind_0 : decode cX2_nextBehind 0 = .ok (.aload_n 0, 1) := by decide +kernel
theorem dX2_nextBehind_1 : decode cX2_nextBehind 1 = .ok (.getfield 21, 3) := by decide +kernel
theorem dX2_nextBehind_4 : decode cX2_nextBehind 4 = .ok (.iload_n 1, 1) := by decide +kernel
theorem dX2_nextBehind_5 : decode cX2_nextBehind 5 = .ok (.iconst (-1), 1) := by decide +kernel
theorem dX2_nextBehind_6 : decode cX2_nextBehind 6 = .ok (.ixor, 1) := by decide +kernel
theorem dX2_nextBehind_7 : decode cX2_nextBehind 7 = .ok (.iand, 1) := by decide +kernel
theorem dX2_nextBehind_8 : decode cX2_nextBehind 8 = .ok (.istore_n 2, 1) := by decide +kernel
theorem dX2_nextBehind_9 : decode cX2_nextBehind 9 = .ok (.iconst 0, 1) := by decide +kernel
theorem dX2_nextBehind_10 : decode cX2_nextBehind 10 = .ok (.istore_n 3, 1) := by decide +kernel
theorem dX2_nextBehind_11 : decode cX2_nextBehind 11 = .ok (.iload_n 3, 1) := by decide +kernel
theorem dX2_nextBehind_12 : decode cX2_nextBehind 12 = .ok (.bipush 8, 2) := by decide +kernel
theorem dX2_nextBehind_14 : decode cX2_nextBehind 14 = .ok (.if_icmp .ge 73, 3) := by decide +kernel
theorem dX2_nextBehind_17 : decode cX2_nextBehind 17 = .ok (.iload_n 1, 1) := by decide +kernel
theorem dX2_nextBehind_18 : decode cX2_nextBehind 18 = .ok (.iload_n 3, 1) := by decide +kernel
theorem dX2_nextBehind_19 : decode cX2_nextBehind 19 = .ok (.invokestatic 46, 3) := by decide +kernel
theorem dX2_nextBehind_22 : decode cX2_nextBehind 22 = .ok (.ifCond .eq 19, 3) := by decide +kernel
theorem dX2_nextBehind_25 : decode cX2_nextBehind 25 = .ok (.aload_n 0, 1) := by decide +kernel
theorem dX2_nextBehind_26 : decode cX2_nextBehind 26 = .ok (.iload_n 3, 1) := by decide +kernel
theorem dX2_nextBehind_27 : decode cX2_nextBehind 27 = .ok (.invokevirtual 73, 3) := by decide +kernel
theorem dX2_nextBehind_30 : decode cX2_nextBehind 30 = .ok (.iload_n 1, 1) := by decide +kernel
theorem dX2_nextBehind_31 : decode cX2_nextBehind 31 = .ok (.iconst (-1), 1) := by decide +kernel
theorem dX2_nextBehind_32 : decode cX2_nextBehind 32 = .ok (.ixor, 1) := by decide +kernel
theorem dX2_nextBehind_33 : decode cX2_nextBehind 33 = .ok (.iand, 1) := by decide +kernel
theorem dX2_nextBehind_34 : decode cX2_nextBehind 34 = .ok (.ifCond .eq 7, 3) := by decide +kernel
theorem dX2_nextBehind_37 : decode cX2_nextBehind 37 = .ok (.iconst 1, 1) := by decide +kernel
theorem dX2_nextBehind_38 : decode cX2_nextBehind 38 = .ok (.goto 4, 3) := by decide +kernel
theorem dX2_nextBehind_41 : decode cX2_nextBehind 41 = .ok (.iconst 0, 1) := by decide +kernel
theorem dX2_nextBehind_42 : decode cX2_nextBehind 42 = .ok (.istore 4, 2) := by decide +kernel
theorem dX2_nextBehind_44 : decode cX2_nextBehind 44 = .ok (.iload 4, 2) := by decide +kernel
theorem dX2_nextBehind_46 : decode cX2_nextBehind 46 = .ok (.ifCond .eq 14, 3) := by decide +kernel
theorem dX2_nextBehind_49 : decode cX2_nextBehind 49 = .ok (.iload_n 2, 1) := by decide +kernel
theorem dX2_nextBehind_50 : decode cX2_nextBehind 50 = .ok (.aload_n 0, 1) := by decide +kernel
theorem dX2_nextBehind_51 : decode cX2_nextBehind 51 = .ok (.iload_n 3, 1) := by decide +kernel
theorem dX2_nextBehind_52 : decode cX2_nextBehind 52 = .ok (.invokevirtual 73, 3) := by decide +kernel
theorem dX2_nextBehind_55 : decode cX2_nextBehind 55 = .ok (.iand, 1) := by decide +kernel
theorem dX2_nextBehind_56 : decode cX2_nextBehind 56 = .ok (.istore_n 2, 1) := by decide +kernel
theorem dX2_nextBehind_57 : decode cX2_nextBehind 57 = .ok (.goto 24, 3) := by decide +kernel
theorem dX2_nextBehind_60 : decode cX2_nextBehind 60 = .ok (.iload_n 1, 1) := by decide +kernel
theorem dX2_nextBehind_61 : decode cX2_nextBehind 61 = .ok (.aload_n 0, 1) := by decide +kernel
theorem dX2_nextBehind_62 : decode cX2_nextBehind 62 = .ok (.iload_n 3, 1) := by decide +kernel
theorem dX2_nextBehind_63 : decode cX2_nextBehind 63 = .ok (.invokevirtual 76, 3) := by decide +kernel
theorem dX2_nextBehind_66 : decode cX2_nextBehind 66 = .ok (.invokestatic 46, 3) := by decide +kernel
theorem dX2_nextBehind_69 : decode cX2_nextBehind 69 = .ok (.ifCond .ne 12, 3) := by decide +kernel
theorem dX2_nextBehind_72 : decode cX2_nextBehind 72 = .ok (.iload_n 2, 1) := by decide +kernel
theorem dX2_nextBehind_73 : decode cX2_nextBehind 73 = .ok (.iload_n 3, 1) := by decide +kernel
theorem dX2_nextBehind_74 : decode cX2_nextBehind 74 = .ok (.invokestatic 31, 3) := by decide +kernel
theorem dX2_nextBehind_77 : decode cX2_nextBehind 77 = .ok (.iconst (-1), 1) := by decide +kernel
theorem dX2_nextBehind_78 : decode cX2_nextBehind 78 = .ok (.ixor, 1) := by decide +kernel
theorem dX2_nextBehind_79 : decode cX2_nextBehind 79 = .ok (.iand, 1) := by decide +kernel
theorem dX2_nextBehind_80 : decode cX2_nextBehind 80 = .ok (.istore_n 2, 1) := by decide +kernel
theorem dX2_nextBehind_81 : decode cX2_nextBehind 81 = .ok (.iinc 3 1, 3) := by decide +kernel
theorem dX2_nextBehind_84 : decode cX2_nextBehind 84 = .ok (.goto (-73), 3) := by decide +kernel
theorem dX2_nextBehind_87 : decode cX2_nextBehind 87 = .ok (.iload_n 2, 1) := by decide +kernel
theorem dX2_nextBehind_88 : decode cX2_nextBehind 88 = .ok (.ireturn, 1) := by decide +kernel
set_option maxRecDepth 20000 in
theorem ggX2_firstMisplaced_X6_size : GoodIn wsX2_firstMisplaced wsX6_size := goodIn_r _ [5, 6, 50, 51] (by decide +kernel) (by decide +kernel)
set_option maxRecDepth 20000 in
theorem gX2_firstMisplaced_X6_size : GoodIn wsX2_firstMisplaced (wsV RX2 82 RX6 yX6_size wsX6_size) := goodIn_app (goodIn_of _ (by decide +kernel)) ggX2_firstMisplaced_X6_size
set_option maxRecDepth 20000 in
theorem ggX2_firstMisplaced_X6_at : GoodIn wsX2_firstMisplaced wsX6_at := goodIn_r _ [10, 6, 11, 50, 51] (by decide +kernel) (by decide +kernel)
set_option maxRecDepth 20000 in
theorem gX2_firstMisplaced_X6_at : GoodIn wsX2_firstMisplaced (wsV RX2 88 RX6 yX6_at wsX6_at) := goodIn_app (goodIn_of _ (by decide +kernel)) ggX2_firstMisplaced_X6_at
set_option maxRecDepth 20000 in
theorem ggX2_firstMisplaced_X2_isReached : GoodIn wsX2_firstMisplaced wsX2_isReached := goodIn_r _ [16, 17, 18, 19, 20, 21, 52, 53, 54, 55] (by decide +kernel) (by decide +kernel)
set_option maxRecDepth 20000 in
theorem gX2_firstMisplaced_X2_isReached : GoodIn wsX2_firstMisplaced (wsV RX2 27 RX2 yX2_isReached wsX2_isReached) := goodIn_app (goodIn_of _ (by decide +kernel)) ggX2_firstMisplaced_X2_isReached
set_option maxRecDepth 20000 in
theorem ggX2_firstMisplaced_X5_isIn : GoodIn wsX2_firstMisplaced wsX5_isIn := goodIn_r _ [21] (by decide +kernel) (by decide +kernel)
set_option maxRecDepth 20000 in
theorem gX2_firstMisplaced_X5_isIn : GoodIn wsX2_firstMisplaced (va_wsS RX2 46 yX5_isIn wsX5_isIn) := goodIn_app (goodIn_of _ (by decide +kernel)) ggX2_firstMisplaced_X5_isIn
set_option maxRecDepth 20000 in
theorem ggX2_firstMisplaced_X2_isInPlace : GoodIn wsX2_firstMisplaced wsX2_isInPlace := goodIn_r _ [25, 26, 27, 28, 15, 29, 30, 31, 32, 33, 34, 35, 36, 20, 37, 38, 39, 40, 41, 42, 43, 44, 45, 46, 47, 48, 49, 7, 8, 9, 4, 10, 6, 11, 18, 19, 21, 52, 53, 54, 55, 50, 51] (by decide +kernel) (by decide +kernel)
set_option maxRecDepth 20000 in
theorem gX2_firstMisplaced_X2_isInPlace : GoodIn wsX2_firstMisplaced (wsV RX2 91 RX2 yX2_isInPlace wsX2_isInPlace) := goodIn_app (goodIn_of _ (by decide +kernel)) ggX2_firstMisplaced_X2_isInPlace
set_option maxRecDepth 20000 in
theorem ggX2_firstMisplaced_X5_only : GoodIn wsX2_firstMisplaced wsX5_only := goodIn_r _ [40] (by decide +kernel) (by decide +kernel)
set_option maxRecDepth 20000 in
theorem gX2_firstMisplaced_X5_only : GoodIn wsX2_firstMisplaced (va_wsS RX2 31 yX5_only wsX5_only) := goodIn_app (goodIn_of _ (by decide +kernel)) ggX2_firstMisplaced_X5_only
theorem dX2_firstMisplaced_0 : decode cX2_firstMisplaced 0 = .ok (.iconst 0, 1) := by decide +kernel
theorem dX2_firstMisplaced_1 : decode cX2_firstMisplaced 1 = .ok (.istore_n 2, 1) := by decide +kernel
theorem dX2_firstMisplaced_2 : decode cX2_firstMisplaced 2 = .ok (.iconst 0, 1) := by decide +kernel
theorem dX2_firstMisplaced_3 : decode cX2_firstMisplaced 3 = .ok (.istore_n 3, 1) := by decide +kernel
theorem dX2_firstMisplaced_4 : decode cX2_firstMisplaced 4 = .ok (.iload_n 3, 1) := by decide +kernel
theorem dX2_firstMisplaced_5 : decode cX2_firstMisplaced 5 = .ok (.aload_n 1, 1) := by decide +kernel
theorem dX2_firstMisplaced_6 : decode cX2_firstMisplaced 6 = .ok (.invokevirtual 82, 3) := by decide +kernel
theorem dX2_firstMisplaced_9 : decode cX2_firstMisplaced 9 = .ok (.if_icmp .ge 67, 3) := by decide +kernel
theorem dX2_firstMisplaced_12 : decode cX2_firstMisplaced 12 = .ok (.aload_n 1, 1) := by decide +kernel
theorem dX2_firstMisplaced_13 : decode cX2_firstMisplaced 13 = .ok (.iload_n 3, 1) := by decide +kernel
theorem dX2_firstMisplaced_14 : decode cX2_firstMisplaced 14 = .ok (.invokevirtual 88, 3) := by decide +kernel
theorem dX2_firstMisplaced_17 : decode cX2_firstMisplaced 17 = .ok (.istore 4, 2) := by decide +kernel
theorem dX2_firstMisplaced_19 : decode cX2_firstMisplaced 19 = .ok (.aload_n 0, 1) := by decide +kernel
theorem dX2_firstMisplaced_20 : decode cX2_firstMisplaced 20 = .ok (.iload 4, 2) := by decide +kernel
theorem dX2_firstMisplaced_22 : decode cX2_firstMisplaced 22 = .ok (.invokevirtual 27, 3) := by decide +kernel
theorem dX2_firstMisplaced_25 : decode cX2_firstMisplaced 25 = .ok (.ifCond .eq 16, 3) := by decide +kernel
theorem dX2_firstMisplaced_28 : decode cX2_firstMisplaced 28 = .ok (.iload_n 2, 1) := by decide +kernel
theorem dX2_firstMisplaced_29 : decode cX2_firstMisplaced 29 = .ok (.iload 4, 2) := by decide +kernel
theorem dX2_firstMisplaced_31 : decode cX2_firstMisplaced 31 = .ok (.invokestatic 46, 3) := by decide +kernel
theorem dX2_firstMisplaced_34 : decode cX2_firstMisplaced 34 = .ok (.ifCond .ne 7, 3) := by decide +kernel
theorem dX2_firstMisplaced_37 : decode cX2_firstMisplaced 37 = .ok (.iconst 1, 1) := by decide +kernel
theorem dX2_firstMisplaced_38 : decode cX2_firstMisplaced 38 = .ok (.goto 4, 3) := by decide +kernel
theorem dX2_firstMisplaced_41 : decode cX2_firstMisplaced 41 = .ok (.iconst 0, 1) := by decide +kernel
theorem dX2_firstMisplaced_42 : decode cX2_firstMisplaced 42 = .ok (.istore 5, 2) := by decide +kernel
theorem dX2_firstMisplaced_44 : decode cX2_firstMisplaced 44 = .ok (.iload 5, 2) := by decide +kernel
theorem dX2_firstMisplaced_46 : decode cX2_firstMisplaced 46 = .ok (.ifCond .eq 14, 3) := by decide +kernel
theorem dX2_firstMisplaced_49 : decode cX2_firstMisplaced 49 = .ok (.aload_n 0, 1) := by decide +kernel
theorem dX2_firstMisplaced_50 : decode cX2_firstMisplaced 50 = .ok (.iload 4, 2) := by decide +kernel
theorem dX2_firstMisplaced_52 : decode cX2_firstMisplaced 52 = .ok (.iload_n 3, 1) := by decide +kernel
theorem dX2_firstMisplaced_53 : decode cX2_firstMisplaced 53 = .ok (.aload_n 1, 1) := by decide +kernel
theorem dX2_firstMisplaced_54 : decode cX2_firstMisplaced 54 = .ok (.invokevirtual 91, 3) := by decide +kernel
theorem dX2_firstMisplaced_57 : decode cX2_firstMisplaced 57 = .ok (.ifCond .ne 5, 3) := by decide +kernel
theorem dX2_firstMisplaced_60 : decode cX2_firstMisplaced 60 = .ok (.iload_n 3, 1) := by decide +kernel
theorem dX2_firstMisplaced_61 : decode cX2_firstMisplaced 61 = .ok (.ireturn, 1) := by decide +kernel
theorem dX2_firstMisplaced_62 : decode cX2_firstMisplaced 62 = .ok (.iload_n 2, 1) := by decide +kernel
theorem dX2_firstMisplaced_63 : decode cX2_firstMisplaced 63 = .ok (.iload 4, 2) := by decide +kernel
theorem dX2_firstMisplaced_65 : decode cX2_firstMisplaced 65 = .ok (.invokestatic 31, 3) := by decide +kernel
theorem dX2_firstMisplaced_68 : decode cX2_firstMisplaced 68 = .ok (.ior, 1) := by decide +kernel
theorem dX2_firstMisplaced_69 : decode cX2_firstMisplaced 69 = .ok (.istore_n 2, 1) := by decide +kernel
theorem dX2_firstMisplaced_70 : decode cX2_firstMisplaced 70 = .ok (.iinc 3 1, 3) := by decide +kernel
theorem dX2_firstMisplaced_73 : decode cX2_firstMisplaced 73 = .ok (.goto (-69), 3) := by decide +kernel
theorem dX2_firstMisplaced_76 : decode cX2_firstMisplaced 76 = .ok (.bipush (-9), 2) := by decide +kernel
theorem dX2_firstMisplaced_78 : decode cX2_firstMisplaced 78 = .ok (.ireturn, 1) := by decide +kernel
set_option maxRecDepth 20000 in
theorem ggX2_isInPlace_X2_lidOf : GoodIn wsX2_isInPlace wsX2_lidOf := goodIn_r _ [5, 6, 7, 8, 4, 9, 10, 11, 12, 13, 14, 15, 16, 17, 18, 19, 20, 21, 37, 38, 39, 40] (by decide +kernel) (by decide +kernel)
set_option maxRecDepth 20000 in
theorem gX2_isInPlace_X2_lidOf : GoodIn wsX2_isInPlace (wsV RX2 76 RX2 yX2_lidOf wsX2_lidOf) := goodIn_app (goodIn_of _ (by decide +kernel)) ggX2_isInPlace_X2_lidOf
set_option maxRecDepth 20000 in
theorem ggX2_isInPlace_X2_coveredBy : GoodIn wsX2_isInPlace wsX2_coveredBy := goodIn_r _ [25, 26, 11, 12, 13, 14, 37, 38, 39, 40] (by decide +kernel) (by decide +kernel)
set_option maxRecDepth 20000 in
theorem gX2_isInPlace_X2_coveredBy : GoodIn wsX2_isInPlace (wsV RX2 73 RX2 yX2_coveredBy wsX2_coveredBy) := goodIn_app (goodIn_of _ (by decide +kernel)) ggX2_isInPlace_X2_coveredBy
set_option maxRecDepth 20000 in
theorem ggX2_isInPlace_X6_at : GoodIn wsX2_isInPlace wsX6_at := goodIn_r _ [31, 32, 33, 41, 42] (by decide +kernel) (by decide +kernel)
set_option maxRecDepth 20000 in
theorem gX2_isInPlace_X6_at : GoodIn wsX2_isInPlace (wsV RX2 88 RX6 yX6_at wsX6_at) := goodIn_app (goodIn_of _ (by decide +kernel)) ggX2_isInPlace_X6_at
set_option maxRecDepth 20000 in
theorem ggX2_isInPlace_X5_isIn : GoodIn wsX2_isInPlace wsX5_isIn := goodIn_r _ [36] (by decide +kernel) (by decide +kernel)
set_option maxRecDepth 20000 in
theorem gX2_isInPlace_X5_isIn : GoodIn wsX2_isInPlace (va_wsS RX2 46 yX5_isIn wsX5_isIn) := goodIn_app (goodIn_of _ (by decide +kernel)) ggX2_isInPlace_X5_isIn
theorem dX2_isInPlace_0 : decode cX2_isInPlace 0 = .ok (.iload_n 2, 1) := by decide +kernel
theorem dX2_isInPlace_1 : decode cX2_isInPlace 1 = .ok (.ifCond .eq 7, 3) := by decide +kernel
theorem dX2_isInPlace_4 : decode cX2_isInPlace 4 = .ok (.iload_n 1, 1) := by decide +kernel
theorem dX2_isInPlace_5 : decode cX2_isInPlace 5 = .ok (.ifCond .ne 17, 3) := by decide +kernel
theorem dX2_isInPlace_8 : decode cX2_isInPlace 8 = .ok (.iload_n 2, 1) := by decide +kernel
theorem dX2_isInPlace_9 : decode cX2_isInPlace 9 = .ok (.ifCond .ne 11, 3) := by decide +kernel
theorem dX2_isInPlace_12 : decode cX2_isInPlace 12 = .ok (.iload_n 1, 1) := by decide +kernel
theorem dX2_isInPlace_13 : decode cX2_isInPlace 13 = .ok (.ifCond .ne 7, 3) := by decide +kernel
theorem dX2_isInPlace_16 : decode cX2_isInPlace 16 = .ok (.iconst 1, 1) := by decide +kernel
theorem dX2_isInPlace_17 : decode cX2_isInPlace 17 = .ok (.goto 4, 3) := by decide +kernel
theorem dX2_isInPlace_20 : decode cX2_isInPlace 20 = .ok (.iconst 0, 1) := by decide +kernel
theorem dX2_isInPlace_21 : decode cX2_isInPlace 21 = .ok (.ireturn, 1) := by decide +kernel
theorem dX2_isInPlace_22 : decode cX2_isInPlace 22 = .ok (.aload_n 0, 1) := by decide +kernel
theorem dX2_isInPlace_23 : decode cX2_isInPlace 23 = .ok (.aload_n 0, 1) := by decide +kernel
theorem dX2_isInPlace_24 : decode cX2_isInPlace 24 = .ok (.iload_n 1, 1) := by decide +kernel
theorem dX2_isInPlace_25 : decode cX2_isInPlace 25 = .ok (.invokevirtual 76, 3) := by decide +kernel
theorem dX2_isInPlace_28 : decode cX2_isInPlace 28 = .ok (.invokevirtual 73, 3) := by decide +kernel
theorem dX2_isInPlace_31 : decode cX2_isInPlace 31 = .ok (.aload_n 3, 1) := by decide +kernel
theorem dX2_isInPlace_32 : decode cX2_isInPlace 32 = .ok (.iload_n 2, 1) := by decide +kernel
theorem dX2_isInPlace_33 : decode cX2_isInPlace 33 = .ok (.iconst 1, 1) := by decide +kernel
theorem dX2_isInPlace_34 : decode cX2_isInPlace 34 = .ok (.isub, 1) := by decide +kernel
theorem dX2_isInPlace_35 : decode cX2_isInPlace 35 = .ok (.invokevirtual 88, 3) := by decide +kernel
theorem dX2_isInPlace_38 : decode cX2_isInPlace 38 = .ok (.invokestatic 46, 3) := by decide +kernel
theorem dX2_isInPlace_41 : decode cX2_isInPlace 41 = .ok (.ireturn, 1) := by decide +kernel
set_option maxRecDepth 20000 in
theorem ggX2_firstNotShown_X6_size : GoodIn wsX2_firstNotShown wsX6_size := goodIn_r _ [5, 6, 53, 54] (by decide +kernel) (by decide +kernel)
set_option maxRecDepth 20000 in
theorem gX2_firstNotShown_X6_size : GoodIn wsX2_firstNotShown (wsV RX2 82 RX6 yX6_size wsX6_size) := goodIn_app (goodIn_of _ (by decide +kernel)) ggX2_firstNotShown_X6_size
set_option maxRecDepth 20000 in
theorem ggX2_firstNotShown_X6_at : GoodIn wsX2_firstNotShown wsX6_at := goodIn_r _ [10, 6, 11, 53, 54] (by decide +kernel) (by decide +kernel)
set_option maxRecDepth 20000 in
theorem gX2_firstNotShown_X6_at : GoodIn wsX2_firstNotShown (wsV RX2 88 RX6 yX6_at wsX6_at) := goodIn_app (goodIn_of _ (by decide +kernel)) ggX2_firstNotShown_X6_at
set_option maxRecDepth 20000 in
theorem ggX2_firstNotShown_X2_isShown : GoodIn wsX2_firstNotShown wsX2_isShown := goodIn_r _ [16, 17, 18, 19, 20, 21, 22, 23, 24, 25, 26, 27, 28, 29, 30, 31, 32, 33, 34, 15, 35, 36, 37, 38, 39, 40, 41, 42, 43, 44, 45, 46, 47, 48, 49, 50, 51, 52, 55, 56, 57, 58] (by decide +kernel) (by decide +kernel)
set_option maxRecDepth 20000 in
theorem gX2_firstNotShown_X2_isShown : GoodIn wsX2_firstNotShown (wsV RX2 95 RX2 yX2_isShown wsX2_isShown) := goodIn_app (goodIn_of _ (by decide +kernel)) ggX2_firstNotShown_X2_isShown
set_option maxRecDepth 20000 in
theorem ggX2_firstNotShown_X5_only : GoodIn wsX2_firstNotShown wsX5_only := goodIn_r _ [31] (by decide +kernel) (by decide +kernel)
set_option maxRecDepth 20000 in
theorem gX2_firstNotShown_X5_only : GoodIn wsX2_firstNotShown (va_wsS RX2 31 yX5_only wsX5_only) := goodIn_app (goodIn_of _ (by decide +kernel)) ggX2_firstNotShown_X5_only
theorem dX2_firstNotShown_0 : decode cX2_firstNotShown 0 = .ok (.iconst 0, 1) := by decide +kernel
theorem dX2_firstNotShown_1 : decode cX2_firstNotShown 1 = .ok (.istore_n 2, 1) := by decide +kernel
theorem dX2_firstNotShown_2 : decode cX2_firstNotShown 2 = .ok (.iconst 0, 1) := by decide +kernel
theorem dX2_firstNotShown_3 : decode cX2_firstNotShown 3 = .ok (.istore_n 3, 1) := by decide +kernel
theorem dX2_firstNotShown_4 : decode cX2_firstNotShown 4 = .ok (.iload_n 3, 1) := by decide +kernel
theorem dX2_firstNotShown_5 : decode cX2_firstNotShown 5 = .ok (.aload_n 1, 1) := by decide +kernel
theorem dX2_firstNotShown_6 : decode cX2_firstNotShown 6 = .ok (.invokevirtual 82, 3) := by decide +kernel
theorem dX2_firstNotShown_9 : decode cX2_firstNotShown 9 = .ok (.if_icmp .ge 41, 3) := by decide +kernel
theorem dX2_firstNotShown_12 : decode cX2_firstNotShown 12 = .ok (.aload_n 1, 1) := by decide +kernel
theorem dX2_firstNotShown_13 : decode cX2_firstNotShown 13 = .ok (.iload_n 3, 1) := by decide +kernel
theorem dX2_firstNotShown_14 : decode cX2_firstNotShown 14 = .ok (.invokevirtual 88, 3) := by decide +kernel
theorem dX2_firstNotShown_17 : decode cX2_firstNotShown 17 = .ok (.istore 4, 2) := by decide +kernel
theorem dX2_firstNotShown_19 : decode cX2_firstNotShown 19 = .ok (.iload 4, 2) := by decide +kernel
theorem dX2_firstNotShown_21 : decode cX2_firstNotShown 21 = .ok (.ifCond .eq 15, 3) := by decide +kernel
theorem dX2_firstNotShown_24 : decode cX2_firstNotShown 24 = .ok (.aload_n 0, 1) := by decide +kernel
theorem dX2_firstNotShown_25 : decode cX2_firstNotShown 25 = .ok (.iload 4, 2) := by decide +kernel
theorem dX2_firstNotShown_27 : decode cX2_firstNotShown 27 = .ok (.iload_n 2, 1) := by decide +kernel
theorem dX2_firstNotShown_28 : decode cX2_firstNotShown 28 = .ok (.invokevirtual 95, 3) := by decide +kernel
theorem dX2_firstNotShown_31 : decode cX2_firstNotShown 31 = .ok (.ifCond .ne 5, 3) := by decide +kernel
theorem dX2_firstNotShown_34 : decode cX2_firstNotShown 34 = .ok (.iload_n 3, 1) := by decide +kernel
theorem dX2_firstNotShown_35 : decode cX2_firstNotShown 35 = .ok (.ireturn, 1) := by decide +kernel
theorem dX2_firstNotShown_36 : decode cX2_firstNotShown 36 = .ok (.iload_n 2, 1) := by decide +kernel
theorem dX2_firstNotShown_37 : decode cX2_firstNotShown 37 = .ok (.iload 4, 2) := by decide +kernel
theorem dX2_firstNotShown_39 : decode cX2_firstNotShown 39 = .ok (.invokestatic 31, 3) := by decide +kernel
theorem dX2_firstNotShown_42 : decode cX2_firstNotShown 42 = .ok (.ior, 1) := by decide +kernel
theorem dX2_firstNotShown_43 : decode cX2_firstNotShown 43 = .ok (.istore_n 2, 1) := by decide +kernel
theorem dX2_firstNotShown_44 : decode cX2_firstNotShown 44 = .ok (.iinc 3 1, 3) := by decide +kernel
theorem dX2_firstNotShown_47 : decode cX2_firstNotShown 47 = .ok (.goto (-43), 3) := by decide +kernel
theorem dX2_firstNotShown_50 : decode cX2_firstNotShown 50 = .ok (.bipush (-9), 2) := by decide +kernel
theorem dX2_firstNotShown_52 : decode cX2_firstNotShown 52 = .ok (.ireturn, 1) := by decide +kernel
set_option maxRecDepth 20000 in
theorem ggX3_init_X6_init : GoodIn wsX3_init wsX6_init := goodIn_r _ [12, 13, 2, 3, 14, 15, 16, 17, 18, 19, 20, 21] (by decide +kernel) (by decide +kernel)
set_option maxRecDepth 20000 in
theorem gX3_init_X6_init : GoodIn wsX3_init (wsX6_init) := ggX3_init_X6_init
theorem dX3_init_0 : decode cX3_init 0 = .ok (.aload_n 0, 1) := by decide +kernel
theorem dX3_init_1 : decode cX3_init 1 = .ok (.invokespecial 3, 3) := by decide +kernel
theorem dX3_init_4 : decode cX3_init 4 = .ok (.aload_n 0, 1) := by decide +kernel
theorem dX3_init_5 : decode cX3_init 5 = .ok (.new 9, 3) := by decide +kernel
theorem dX3_init_8 : decode cX3_init 8 = .ok (.dup, 1) := by decide +kernel
theorem dX3_init_9 : decode cX3_init 9 = .ok (.bipush 24, 2) := by decide +kernel
theorem dX3_init_11 : decode cX3_init 11 = .ok (.invokespecial 11, 3) := by decide +kernel
theorem dX3_init_14 : decode cX3_init 14 = .ok (.putfield 14, 3) := by decide +kernel
theorem dX3_init_17 : decode cX3_init 17 = .ok (.aload_n 0, 1) := by decide +kernel
theorem dX3_init_18 : decode cX3_init 18 = .ok (.iconst 1, 1) := by decide +kernel
theorem dX3_init_19 : decode cX3_init 19 = .ok (.putfield 20, 3) := by decide +kernel
theorem dX3_init_22 : decode cX3_init 22 = .ok (.aload_n 0, 1) := by decide +kernel
theorem dX3_init_23 : decode cX3_init 23 = .ok (.iconst 1, 1) := by decide +kernel
theorem dX3_init_24 : decode cX3_init 24 = .ok (.putfield 24, 3) := by decide +kernel
theorem dX3_init_27 : decode cX3_init 27 = .ok (.return_, 1) := by decide +kernel
theorem dX3_pair_0 : decode cX3_pair 0 = .ok (.bipush 10, 2) := by decide +kernel
theorem dX3_pair_2 : decode cX3_pair 2 = .ok (.iload_n 0, 1) := by decide +kernel
theorem dX3_pair_3 : decode cX3_pair 3 = .ok (.imul, 1) := by decide +kernel
theorem dX3_pair_4 : decode cX3_pair 4 = .ok (.iload_n 1, 1) := by decide +kernel
theorem dX3_pair_5 : decode cX3_pair 5 = .ok (.iadd, 1) := by decide +kernel
theorem dX3_pair_6 : decode cX3_pair 6 = .ok (.ireturn, 1) := by decide +kernel
theorem dX3_pairOf_0 : decode cX3_pairOf 0 = .ok (.iload_n 0, 1) := by decide +kernel
theorem dX3_pairOf_1 : decode cX3_pairOf 1 = .ok (.bipush 100, 2) := by decide +kernel
theorem dX3_pairOf_3 : decode cX3_pairOf 3 = .ok (.irem, 1) := by decide +kernel
theorem dX3_pairOf_4 : decode cX3_pairOf 4 = .ok (.ireturn, 1) := by decide +kernel
theorem dX3_stampOf_0 : decode cX3_stampOf 0 = .ok (.iload_n 0, 1) := by decide +kernel
theorem dX3_stampOf_1 : decode cX3_stampOf 1 = .ok (.bipush 100, 2) := by decide +kernel
theorem dX3_stampOf_3 : decode cX3_stampOf 3 = .ok (.idiv, 1) := by decide +kernel
theorem dX3_stampOf_4 : decode cX3_stampOf 4 = .ok (.ireturn, 1) := by decide +kernel
set_option maxRecDepth 20000 in
theorem ggX3_restart_X6_clear : GoodIn wsX3_restart wsX6_clear := goodIn_r _ [15, 16, 20, 21] (by decide +kernel) (by decide +kernel)
set_option maxRecDepth 20000 in
theorem gX3_restart_X6_clear : GoodIn wsX3_restart (wsV RX3 36 RX6 yX6_clear wsX6_clear) := goodIn_app (goodIn_of _ (by decide +kernel)) ggX3_restart_X6_clear
theorem dX3_restart_0 : decode cX3_restart 0 = .ok (.aload_n 0, 1) := by decide +kernel
theorem dX3_restart_1 : decode cX3_restart 1 = .ok (.iconst 1, 1) := by decide +kernel
theorem dX3_restart_2 : decode cX3_restart 2 = .ok (.iload_n 1, 1) := by decide +kernel
theorem dX3_restart_3 : decode cX3_restart 3 = .ok (.bipush 8, 2) := by decide +kernel
theorem dX3_restart_5 : decode cX3_restart 5 = .ok (.invokestatic 27, 3) := by decide +kernel
theorem dX3_restart_8 : decode cX3_restart 8 = .ok (.invokestatic 33, 3) := by decide +kernel
theorem dX3_restart_11 : decode cX3_restart 11 = .ok (.putfield 20, 3) := by decide +kernel
theorem dX3_restart_14 : decode cX3_restart 14 = .ok (.aload_n 0, 1) := by decide +kernel
theorem dX3_restart_15 : decode cX3_restart 15 = .ok (.getfield 14, 3) := by decide +kernel
theorem dX3_restart_18 : decode cX3_restart 18 = .ok (.invokevirtual 36, 3) := by decide +kernel
theorem dX3_restart_21 : decode cX3_restart 21 = .ok (.aload_n 0, 1) := by decide +kernel
theorem dX3_restart_22 : decode cX3_restart 22 = .ok (.iconst 1, 1) := by decide +kernel
theorem dX3_restart_23 : decode cX3_restart 23 = .ok (.putfield 24, 3) := by decide +kernel
theorem dX3_restart_26 : decode cX3_restart 26 = .ok (.return_, 1) := by decide +kernel
set_option maxRecDepth 20000 in
theorem ggX3_copy_X6_copy : GoodIn wsX3_copy wsX6_copy := goodIn_r _ [8, 9, 10, 11, 12, 7, 13, 14, 15, 16, 17, 18, 19, 20, 21, 22, 23, 24, 25, 26, 27, 28, 29, 30, 34, 35] (by decide +kernel) (by decide +kernel)
set_option maxRecDepth 20000 in
theorem gX3_copy_X6_copy : GoodIn wsX3_copy (wsV RX3 39 RX6 yX6_copy wsX6_copy) := goodIn_app (goodIn_of _ (by decide +kernel)) ggX3_copy_X6_copy
theorem dX3_copy_0 : decode cX3_copy 0 = .ok (.aload_n 0, 1) := by decide +kernel
theorem dX3_copy_1 : decode cX3_copy 1 = .ok (.aload_n 1, 1) := by decide +kernel
theorem dX3_copy_2 : decode cX3_copy 2 = .ok (.getfield 20, 3) := by decide +kernel
theorem dX3_copy_5 : decode cX3_copy 5 = .ok (.putfield 20, 3) := by decide +kernel
theorem dX3_copy_8 : decode cX3_copy 8 = .ok (.aload_n 0, 1) := by decide +kernel
theorem dX3_copy_9 : decode cX3_copy 9 = .ok (.getfield 14, 3) := by decide +kernel
theorem dX3_copy_12 : decode cX3_copy 12 = .ok (.aload_n 1, 1) := by decide +kernel
theorem dX3_copy_13 : decode cX3_copy 13 = .ok (.getfield 14, 3) := by decide +kernel
theorem dX3_copy_16 : decode cX3_copy 16 = .ok (.invokevirtual 39, 3) := by decide +kernel
theorem dX3_copy_19 : decode cX3_copy 19 = .ok (.aload_n 0, 1) := by decide +kernel
theorem dX3_copy_20 : decode cX3_copy 20 = .ok (.aload_n 1, 1) := by decide +kernel
theorem dX3_copy_21 : decode cX3_copy 21 = .ok (.getfield 24, 3) := by decide +kernel
theorem dX3_copy_24 : decode cX3_copy 24 = .ok (.putfield 24, 3) := by decide +kernel
theorem dX3_copy_27 : decode cX3_copy 27 = .ok (.return_, 1) := by decide +kernel
set_option maxRecDepth 20000 in
theorem ggX3_size_X6_size : GoodIn wsX3_size wsX6_size := goodIn_r _ [6, 7, 11, 12] (by decide +kernel) (by decide +kernel)
set_option maxRecDepth 20000 in
theorem gX3_size_X6_size : GoodIn wsX3_size (wsV RX3 43 RX6 yX6_size wsX6_size) := goodIn_app (goodIn_of _ (by decide +kernel)) ggX3_size_X6_size
theorem dX3_size_0 : decode cX3_size 0 = .ok (.aload_n 0, 1) := by decide +kernel
theorem dX3_size_1 : decode cX3_size 1 = .ok (.getfield 14, 3) := by decide +kernel
theorem dX3_size_4 : decode cX3_size 4 = .ok (.invokevirtual 43, 3) := by decide +kernel
theorem dX3_size_7 : decode cX3_size 7 = .ok (.ireturn, 1) := by decide +kernel
set_option maxRecDepth 20000 in
theorem ggX3_isFull_X6_isFull : GoodIn wsX3_isFull wsX6_isFull := goodIn_r _ [6, 7, 8, 12, 13] (by decide +kernel) (by decide +kernel)
set_option maxRecDepth 20000 in
theorem gX3_isFull_X6_isFull : GoodIn wsX3_isFull (wsV RX3 47 RX6 yX6_isFull wsX6_isFull) := goodIn_app (goodIn_of _ (by decide +kernel)) ggX3_isFull_X6_isFull
theorem dX3_isFull_0 : decode cX3_isFull 0 = .ok (.aload_n 0, 1) := by decide +kernel
theorem dX3_isFull_1 : decode cX3_isFull 1 = .ok (.getfield 14, 3) := by decide +kernel
theorem dX3_isFull_4 : decode cX3_isFull 4 = .ok (.invokevirtual 47, 3) := by decide +kernel
theorem dX3_isFull_7 : decode cX3_isFull 7 = .ok (.ireturn, 1) := by decide +kernel
theorem dX3_isKnot_0 : decode cX3_isKnot 0 = .ok (.iload_n 1, 1) := by decide +kernel
theorem dX3_isKnot_1 : decode cX3_isKnot 1 = .ok (.ifCond .lt 15, 3) := by decide +kernel
theorem dX3_isKnot_4 : decode cX3_isKnot 4 = .ok (.iload_n 1, 1) := by decide +kernel
theorem dX3_isKnot_5 : decode cX3_isKnot 5 = .ok (.aload_n 0, 1) := by decide +kernel
theorem dX3_isKnot_6 : decode cX3_isKnot 6 = .ok (.getfield 20, 3) := by decide +kernel
theorem dX3_isKnot_9 : decode cX3_isKnot 9 = .ok (.if_icmp .ge 7, 3) := by decide +kernel
theorem dX3_isKnot_12 : decode cX3_isKnot 12 = .ok (.iconst 1, 1) := by decide +kernel
theorem dX3_isKnot_13 : decode cX3_isKnot 13 = .ok (.goto 4, 3) := by decide +kernel
theorem dX3_isKnot_16 : decode cX3_isKnot 16 = .ok (.iconst 0, 1) := by decide +kernel
theorem dX3_isKnot_17 : decode cX3_isKnot 17 = .ok (.ireturn, 1) := by decide +kernel
set_option maxRecDepth 20000 in
theorem ggX3_areKnots_X3_isKnot : GoodIn wsX3_areKnots wsX3_isKnot := goodIn_r _ [5, 6, 7, 8, 9] (by decide +kernel) (by decide +kernel)
set_option maxRecDepth 20000 in
theorem gX3_areKnots_X3_isKnot : GoodIn wsX3_areKnots (wsV RX3 51 RX3 yX3_isKnot wsX3_isKnot) := goodIn_app (goodIn_of _ (by decide +kernel)) ggX3_areKnots_X3_isKnot
theorem dX3_areKnots_0 : decode cX3_areKnots 0 = .ok (.aload_n 0, 1) := by decide +kernel
theorem dX3_areKnots_1 : decode cX3_areKnots 1 = .ok (.iload_n 1, 1) := by decide +kernel
theorem dX3_areKnots_2 : decode cX3_areKnots 2 = .ok (.invokevirtual 51, 3) := by decide +kernel
theorem dX3_areKnots_5 : decode cX3_areKnots 5 = .ok (.ifCond .eq 15, 3) := by decide +kernel
theorem dX3_areKnots_8 : decode cX3_areKnots 8 = .ok (.aload_n 0, 1) := by decide +kernel
theorem dX3_areKnots_9 : decode cX3_areKnots 9 = .ok (.iload_n 2, 1) := by decide +kernel
theorem dX3_areKnots_10 : decode cX3_areKnots 10 = .ok (.invokevirtual 51, 3) := by decide +kernel
theorem dX3_areKnots_13 : decode cX3_areKnots 13 = .ok (.ifCond .eq 7, 3) := by decide +kernel
theorem dX3_areKnots_16 : decode cX3_areKnots 16 = .ok (.iconst 1, 1) := by decide +kernel
theorem dX3_areKnots_17 : decode cX3_areKnots 17 = .ok (.goto 4, 3) := by decide +kernel
theorem dX3_areKnots_20 : decode cX3_areKnots 20 = .ok (.iconst 0, 1) := by decide +kernel
theorem dX3_areKnots_21 : decode cX3_areKnots 21 = .ok (.ireturn, 1) := by decide +kernel
set_option maxRecDepth 20000 in
theorem ggX3_at_X6_at : GoodIn wsX3_at wsX6_at := goodIn_r _ [6, 7, 8, 12, 13] (by decide +kernel) (by decide +kernel)
set_option maxRecDepth 20000 in
theorem gX3_at_X6_at : GoodIn wsX3_at (wsV RX3 55 RX6 yX6_at wsX6_at) := goodIn_app (goodIn_of _ (by decide +kernel)) ggX3_at_X6_at
theorem dX3_at_0 : decode cX3_at 0 = .ok (.aload_n 0, 1) := by decide +kernel
theorem dX3_at_1 : decode cX3_at 1 = .ok (.getfield 14, 3) := by decide +kernel
theorem dX3_at_4 : decode cX3_at 4 = .ok (.iload_n 1, 1) := by decide +kernel
theorem dX3_at_5 : decode cX3_at 5 = .ok (.invokevirtual 55, 3) := by decide +kernel
theorem dX3_at_8 : decode cX3_at 8 = .ok (.ireturn, 1) := by decide +kernel
set_option maxRecDepth 20000 in
theorem ggX3_placeOf_X6_size : GoodIn wsX3_placeOf wsX6_size := goodIn_r _ [6, 7, 23, 24] (by decide +kernel) (by decide +kernel)
set_option maxRecDepth 20000 in
theorem gX3_placeOf_X6_size : GoodIn wsX3_placeOf (wsV RX3 43 RX6 yX6_size wsX6_size) := goodIn_app (goodIn_of _ (by decide +kernel)) ggX3_placeOf_X6_size
set_option maxRecDepth 20000 in
theorem ggX3_placeOf_X6_at : GoodIn wsX3_placeOf wsX6_at := goodIn_r _ [11, 7, 12, 23, 24] (by decide +kernel) (by decide +kernel)
set_option maxRecDepth 20000 in
theorem gX3_placeOf_X6_at : GoodIn wsX3_placeOf (wsV RX3 55 RX6 yX6_at wsX6_at) := goodIn_app (goodIn_of _ (by decide +kernel)) ggX3_placeOf_X6_at
set_option maxRecDepth 20000 in
theorem ggX3_placeOf_X3_pairOf : GoodIn wsX3_placeOf wsX3_pairOf := goodIn_r _ [16] (by decide +kernel) (by decide +kernel)
set_option maxRecDepth 20000 in
theorem gX3_placeOf_X3_pairOf : GoodIn wsX3_placeOf (va_wsS RX3 59 yX3_pairOf wsX3_pairOf) := goodIn_app (goodIn_of _ (by decide +kernel)) ggX3_placeOf_X3_pairOf
set_option maxRecDepth 20000 in
theorem ggX3_placeOf_X3_pair : GoodIn wsX3_placeOf wsX3_pair := goodIn_r _ [19] (by decide +kernel) (by decide +kernel)
set_option maxRecDepth 20000 in
theorem gX3_placeOf_X3_pair : GoodIn wsX3_placeOf (va_wsS RX3 62 yX3_pair wsX3_pair) := goodIn_app (goodIn_of _ (by decide +kernel)) ggX3_placeOf_X3_pair
theorem dX3_placeOf_0 : decode cX3_placeOf 0 = .ok (.iconst 0, 1) := by decide +kernel
theorem dX3_placeOf_1 : decode cX3_placeOf 1 = .ok (.istore_n 3, 1) := by decide +kernel
theorem dX3_placeOf_2 : decode cX3_placeOf 2 = .ok (.iload_n 3, 1) := by decide +kernel
theorem dX3_placeOf_3 : decode cX3_placeOf 3 = .ok (.aload_n 0, 1) := by decide +kernel
theorem dX3_placeOf_4 : decode cX3_placeOf 4 = .ok (.getfield 14, 3) := by decide +kernel
theorem dX3_placeOf_7 : decode cX3_placeOf 7 = .ok (.invokevirtual 43, 3) := by decide +kernel
theorem dX3_placeOf_10 : decode cX3_placeOf 10 = .ok (.if_icmp .ge 30, 3) := by decide +kernel
theorem dX3_placeOf_13 : decode cX3_placeOf 13 = .ok (.aload_n 0, 1) := by decide +kernel
theorem dX3_placeOf_14 : decode cX3_placeOf 14 = .ok (.getfield 14, 3) := by decide +kernel
theorem dX3_placeOf_17 : decode cX3_placeOf 17 = .ok (.iload_n 3, 1) := by decide +kernel
theorem dX3_placeOf_18 : decode cX3_placeOf 18 = .ok (.invokevirtual 55, 3) := by decide +kernel
theorem dX3_placeOf_21 : decode cX3_placeOf 21 = .ok (.invokestatic 59, 3) := by decide +kernel
theorem dX3_placeOf_24 : decode cX3_placeOf 24 = .ok (.iload_n 1, 1) := by decide +kernel
theorem dX3_placeOf_25 : decode cX3_placeOf 25 = .ok (.iload_n 2, 1) := by decide +kernel
theorem dX3_placeOf_26 : decode cX3_placeOf 26 = .ok (.invokestatic 62, 3) := by decide +kernel
theorem dX3_placeOf_29 : decode cX3_placeOf 29 = .ok (.if_icmp .ne 5, 3) := by decide +kernel
theorem dX3_placeOf_32 : decode cX3_placeOf 32 = .ok (.iload_n 3, 1) := by decide +kernel
theorem dX3_placeOf_33 : decode cX3_placeOf 33 = .ok (.ireturn, 1) := by decide +kernel
theorem dX3_placeOf_34 : decode cX3_placeOf 34 = .ok (.iinc 3 1, 3) := by decide +kernel
theorem dX3_placeOf_37 : decode cX3_placeOf 37 = .ok (.goto (-35), 3) := by decide +kernel
theorem dX3_placeOf_40 : decode cX3_placeOf 40 = .ok (.bipush (-9), 2) := by decide +kernel
theorem dX3_placeOf_42 : decode cX3_placeOf 42 = .ok (.ireturn, 1) := by decide +kernel
set_option maxRecDepth 20000 in
theorem ggX3_has_X3_placeOf : GoodIn wsX3_has wsX3_placeOf := goodIn_r _ [5, 6, 7, 8, 9, 10, 11, 12, 13, 14, 15, 16, 17, 18, 19, 4, 20, 21, 22, 23, 24, 25, 26, 27, 28] (by decide +kernel) (by decide +kernel)
set_option maxRecDepth 20000 in
theorem gX3_has_X3_placeOf : GoodIn wsX3_has (wsV RX3 65 RX3 yX3_placeOf wsX3_placeOf) := goodIn_app (goodIn_of _ (by decide +kernel)) ggX3_has_X3_placeOf
theorem dX3_has_0 : decode cX3_has 0 = .ok (.aload_n 0, 1) := by decide +kernel
theorem dX3_has_1 : decode cX3_has 1 = .ok (.iload_n 1, 1) := by decide +kernel
theorem dX3_has_2 : decode cX3_has 2 = .ok (.iload_n 2, 1) := by decide +kernel
theorem dX3_has_3 : decode cX3_has 3 = .ok (.invokevirtual 65, 3) := by decide +kernel
theorem dX3_has_6 : decode cX3_has 6 = .ok (.bipush (-9), 2) := by decide +kernel
theorem dX3_has_8 : decode cX3_has 8 = .ok (.if_icmp .eq 7, 3) := by decide +kernel
theorem dX3_has_11 : decode cX3_has 11 = .ok (.iconst 1, 1) := by decide +kernel
theorem dX3_has_12 : decode cX3_has 12 = .ok (.goto 4, 3) := by decide +kernel
theorem dX3_has_15 : decode cX3_has 15 = .ok (.iconst 0, 1) := by decide +kernel
theorem dX3_has_16 : decode cX3_has 16 = .ok (.ireturn, 1) := by decide +kernel
set_option maxRecDepth 20000 in
theorem ggX3_append_X3_pair : GoodIn wsX3_append wsX3_pair := goodIn_r _ [6] (by decide +kernel) (by decide +kernel)
set_option maxRecDepth 20000 in
theorem gX3_append_X3_pair : GoodIn wsX3_append (va_wsS RX3 62 yX3_pair wsX3_pair) := goodIn_app (goodIn_of _ (by decide +kernel)) ggX3_append_X3_pair
set_option maxRecDepth 20000 in
theorem ggX3_append_X6_add : GoodIn wsX3_append wsX6_add := goodIn_r _ [11, 12, 13, 14, 15, 10, 16, 17, 18, 19, 20, 21, 25, 26] (by decide +kernel) (by decide +kernel)
set_option maxRecDepth 20000 in
theorem gX3_append_X6_add : GoodIn wsX3_append (wsV RX3 68 RX6 yX6_add wsX6_add) := goodIn_app (goodIn_of _ (by decide +kernel)) ggX3_append_X6_add
theorem dX3_append_0 : decode cX3_append 0 = .ok (.aload_n 0, 1) := by decide +kernel
theorem dX3_append_1 : decode cX3_append 1 = .ok (.getfield 24, 3) := by decide +kernel
theorem dX3_append_4 : decode cX3_append 4 = .ok (.istore_n 3, 1) := by decide +kernel
theorem dX3_append_5 : decode cX3_append 5 = .ok (.aload_n 0, 1) := by decide +kernel
theorem dX3_append_6 : decode cX3_append 6 = .ok (.getfield 14, 3) := by decide +kernel
theorem dX3_append_9 : decode cX3_append 9 = .ok (.bipush 100, 2) := by decide +kernel
theorem dX3_append_11 : decode cX3_append 11 = .ok (.iload_n 3, 1) := by decide +kernel
theorem dX3_append_12 : decode cX3_append 12 = .ok (.imul, 1) := by decide +kernel
theorem dX3_append_13 : decode cX3_append 13 = .ok (.iload_n 1, 1) := by decide +kernel
theorem dX3_append_14 : decode cX3_append 14 = .ok (.iload_n 2, 1) := by decide +kernel
theorem dX3_append_15 : decode cX3_append 15 = .ok (.invokestatic 62, 3) := by decide +kernel
theorem dX3_append_18 : decode cX3_append 18 = .ok (.iadd, 1) := by decide +kernel
theorem dX3_append_19 : decode cX3_append 19 = .ok (.invokevirtual 68, 3) := by decide +kernel
theorem dX3_append_22 : decode cX3_append 22 = .ok (.aload_n 0, 1) := by decide +kernel
theorem dX3_append_23 : decode cX3_append 23 = .ok (.dup, 1) := by decide +kernel
theorem dX3_append_24 : decode cX3_append 24 = .ok (.getfield 24, 3) := by decide +kernel
theorem dX3_append_27 : decode cX3_append 27 = .ok (.iconst 1, 1) := by decide +kernel
theorem dX3_append_28 : decode cX3_append 28 = .ok (.iadd, 1) := by decide +kernel
theorem dX3_append_29 : decode cX3_append 29 = .ok (.putfield 24, 3) := by decide +kernel
theorem dX3_append_32 : decode cX3_append 32 = .ok (.iload_n 3, 1) := by decide +kernel
theorem dX3_append_33 : decode cX3_append 33 = .ok (.ireturn, 1) := by decide +kernel
set_option maxRecDepth 20000 in
theorem ggX3_takeOut_X6_takeOut : GoodIn wsX3_takeOut wsX6_takeOut := goodIn_r _ [6, 7, 8, 12, 13] (by decide +kernel) (by decide +kernel)
set_option maxRecDepth 20000 in
theorem gX3_takeOut_X6_takeOut : GoodIn wsX3_takeOut (wsV RX3 71 RX6 yX6_takeOut wsX6_takeOut) := goodIn_app (goodIn_of _ (by decide +kernel)) ggX3_takeOut_X6_takeOut
theorem dX3_takeOut_0 : decode cX3_takeOut 0 = .ok (.aload_n 0, 1) := by decide +kernel
theorem dX3_takeOut_1 : decode cX3_takeOut 1 = .ok (.getfield 14, 3) := by decide +kernel
theorem dX3_takeOut_4 : decode cX3_takeOut 4 = .ok (.iload_n 1, 1) := by decide +kernel
theorem dX3_takeOut_5 : decode cX3_takeOut 5 = .ok (.invokevirtual 71, 3) := by decide +kernel
theorem dX3_takeOut_8 : decode cX3_takeOut 8 = .ok (.ireturn, 1) := by decide +kernel
set_option maxRecDepth 20000 in
theorem ggX3_putBack_X6_putIn : GoodIn wsX3_putBack wsX6_putIn := goodIn_r _ [6, 7, 8, 9, 10, 11, 5, 12, 16, 17] (by decide +kernel) (by decide +kernel)
set_option maxRecDepth 20000 in
theorem gX3_putBack_X6_putIn : GoodIn wsX3_putBack (wsV RX3 74 RX6 yX6_putIn wsX6_putIn) := goodIn_app (goodIn_of _ (by decide +kernel)) ggX3_putBack_X6_putIn
theorem dX3_putBack_0 : decode cX3_putBack 0 = .ok (.aload_n 0, 1) := by decide +kernel
theorem dX3_putBack_1 : decode cX3_putBack 1 = .ok (.getfield 14, 3) := by decide +kernel
theorem dX3_putBack_4 : decode cX3_putBack 4 = .ok (.iload_n 1, 1) := by decide +kernel
theorem dX3_putBack_5 : decode cX3_putBack 5 = .ok (.iload_n 2, 1) := by decide +kernel
theorem dX3_putBack_6 : decode cX3_putBack 6 = .ok (.invokevirtual 74, 3) := by decide +kernel
theorem dX3_putBack_9 : decode cX3_putBack 9 = .ok (.return_, 1) := by decide +kernel
set_option maxRecDepth 20000 in
theorem ggX3_takeBackLast_X6_takeLast : GoodIn wsX3_takeBackLast wsX6_takeLast := goodIn_r _ [7, 8, 9, 10, 11, 6, 12, 13, 17, 18] (by decide +kernel) (by decide +kernel)
set_option maxRecDepth 20000 in
theorem gX3_takeBackLast_X6_takeLast : GoodIn wsX3_takeBackLast (wsV RX3 78 RX6 yX6_takeLast wsX6_takeLast) := goodIn_app (goodIn_of _ (by decide +kernel)) ggX3_takeBackLast_X6_takeLast
theorem dX3_takeBackLast_0 : decode cX3_takeBackLast 0 = .ok (.aload_n 0, 1) := by decide +kernel
theorem dX3_takeBackLast_1 : decode cX3_takeBackLast 1 = .ok (.getfield 14, 3) := by decide +kernel
theorem dX3_takeBackLast_4 : decode cX3_takeBackLast 4 = .ok (.invokevirtual 78, 3) := by decide +kernel
theorem dX3_takeBackLast_7 : decode cX3_takeBackLast 7 = .ok (.pop, 1) := by decide +kernel
theorem dX3_takeBackLast_8 : decode cX3_takeBackLast 8 = .ok (.aload_n 0, 1) := by decide +kernel
theorem dX3_takeBackLast_9 : decode cX3_takeBackLast 9 = .ok (.dup, 1) := by decide +kernel
theorem dX3_takeBackLast_10 : decode cX3_takeBackLast 10 = .ok (.getfield 24, 3) := by decide +kernel
theorem dX3_takeBackLast_13 : decode cX3_takeBackLast 13 = .ok (.iconst 1, 1) := by decide +kernel
theorem dX3_takeBackLast_14 : decode cX3_takeBackLast 14 = .ok (.isub, 1) := by decide +kernel
theorem dX3_takeBackLast_15 : decode cX3_takeBackLast 15 = .ok (.putfield 24, 3) := by decide +kernel
theorem dX3_takeBackLast_18 : decode cX3_takeBackLast 18 = .ok (.return_, 1) := by decide +kernel
set_option maxRecDepth 20000 in
theorem ggX3_insertIfItCanBe_X3_has : GoodIn wsX3_insertIfItCanBe wsX3_has := goodIn_r _ [5, 6, 7, 8, 4, 9, 10, 11, 12, 13, 14, 15, 16, 17, 18, 19, 20, 21, 22, 23, 24, 25, 26, 27, 50, 51, 52, 53, 54] (by decide +kernel) (by decide +kernel)
set_option maxRecDepth 20000 in
theorem gX3_insertIfItCanBe_X3_has : GoodIn wsX3_insertIfItCanBe (wsV RX3 81 RX3 yX3_has wsX3_has) := goodIn_app (goodIn_of _ (by decide +kernel)) ggX3_insertIfItCanBe_X3_has
set_option maxRecDepth 20000 in
theorem ggX3_insertIfItCanBe_X3_isFull : GoodIn wsX3_insertIfItCanBe wsX3_isFull := goodIn_r _ [31, 10, 32, 33, 34, 14, 35, 16, 21, 50, 51, 52, 53, 54] (by decide +kernel) (by decide +kernel)
set_option maxRecDepth 20000 in
theorem gX3_insertIfItCanBe_X3_isFull : GoodIn wsX3_insertIfItCanBe (wsV RX3 85 RX3 yX3_isFull wsX3_isFull) := goodIn_app (goodIn_of _ (by decide +kernel)) ggX3_insertIfItCanBe_X3_isFull
set_option maxRecDepth 20000 in
theorem ggX3_insertIfItCanBe_X3_append : GoodIn wsX3_insertIfItCanBe wsX3_append := goodIn_r _ [39, 40, 10, 25, 26, 4, 27, 41, 42, 43, 14, 44, 16, 45, 46, 47, 48, 21, 49, 33, 34, 35, 50, 51, 52, 53, 54] (by decide +kernel) (by decide +kernel)
set_option maxRecDepth 20000 in
theorem gX3_insertIfItCanBe_X3_append : GoodIn wsX3_insertIfItCanBe (wsV RX3 86 RX3 yX3_append wsX3_append) := goodIn_app (goodIn_of _ (by decide +kernel)) ggX3_insertIfItCanBe_X3_append
theorem dX3_insertIfItCanBe_0 : decode cX3_insertIfItCanBe 0 = .ok (.iload_n 1, 1) := by decide +kernel
theorem dX3_insertIfItCanBe_1 : decode cX3_insertIfItCanBe 1 = .ok (.iload_n 2, 1) := by decide +kernel
theorem dX3_insertIfItCanBe_2 : decode cX3_insertIfItCanBe 2 = .ok (.if_icmp .eq 23, 3) := by decide +kernel
theorem dX3_insertIfItCanBe_5 : decode cX3_insertIfItCanBe 5 = .ok (.aload_n 0, 1) := by decide +kernel
theorem dX3_insertIfItCanBe_6 : decode cX3_insertIfItCanBe 6 = .ok (.iload_n 1, 1) := by decide +kernel
theorem dX3_insertIfItCanBe_7 : decode cX3_insertIfItCanBe 7 = .ok (.iload_n 2, 1) := by decide +kernel
theorem dX3_insertIfItCanBe_8 : decode cX3_insertIfItCanBe 8 = .ok (.invokevirtual 81, 3) := by decide +kernel
theorem dX3_insertIfItCanBe_11 : decode cX3_insertIfItCanBe 11 = .ok (.ifCond .ne 14, 3) := by decide +kernel
theorem dX3_insertIfItCanBe_14 : decode cX3_insertIfItCanBe 14 = .ok (.aload_n 0, 1) := by decide +kernel
theorem dX3_insertIfItCanBe_15 : decode cX3_insertIfItCanBe 15 = .ok (.invokevirtual 85, 3) := by decide +kernel
theorem dX3_insertIfItCanBe_18 : decode cX3_insertIfItCanBe 18 = .ok (.ifCond .ne 7, 3) := by decide +kernel
theorem dX3_insertIfItCanBe_21 : decode cX3_insertIfItCanBe 21 = .ok (.iconst 1, 1) := by decide +kernel
theorem dX3_insertIfItCanBe_22 : decode cX3_insertIfItCanBe 22 = .ok (.goto 4, 3) := by decide +kernel
theorem dX3_insertIfItCanBe_25 : decode cX3_insertIfItCanBe 25 = .ok (.iconst 0, 1) := by decide +kernel
theorem dX3_insertIfItCanBe_26 : decode cX3_insertIfItCanBe 26 = .ok (.istore_n 3, 1) := by decide +kernel
theorem dX3_insertIfItCanBe_27 : decode cX3_insertIfItCanBe 27 = .ok (.iload_n 3, 1) := by decide +kernel
theorem dX3_insertIfItCanBe_28 : decode cX3_insertIfItCanBe 28 = .ok (.ifCond .eq 10, 3) := by decide +kernel
theorem dX3_insertIfItCanBe_31 : decode cX3_insertIfItCanBe 31 = .ok (.aload_n 0, 1) := by decide +kernel
theorem dX3_insertIfItCanBe_32 : decode cX3_insertIfItCanBe 32 = .ok (.iload_n 1, 1) := by decide +kernel
theorem dX3_insertIfItCanBe_33 : decode cX3_insertIfItCanBe 33 = .ok (.iload_n 2, 1) := by decide +kernel
theorem dX3_insertIfItCanBe_34 : decode cX3_insertIfItCanBe 34 = .ok (.invokevirtual 86, 3) := by decide +kernel
theorem dX3_insertIfItCanBe_37 : decode cX3_insertIfItCanBe 37 = .ok (.pop, 1) := by decide +kernel
theorem dX3_insertIfItCanBe_38 : decode cX3_insertIfItCanBe 38 = .ok (.iload_n 3, 1) := by decide +kernel
theorem dX3_insertIfItCanBe_39 : decode cX3_insertIfItCanBe 39 = .ok (.ireturn, 1) := by decide +kernel
set_option maxRecDepth 20000 in
theorem ggX3_deleteIfItIsThere_X3_has : GoodIn wsX3_deleteIfItIsThere wsX3_has := goodIn_r _ [5, 6, 7, 8, 4, 9, 10, 11, 12, 13, 14, 15, 16, 17, 18, 19, 20, 21, 22, 23, 24, 25, 26, 27, 36, 37, 38, 39, 40] (by decide +kernel) (by decide +kernel)
set_option maxRecDepth 20000 in
theorem gX3_deleteIfItIsThere_X3_has : GoodIn wsX3_deleteIfItIsThere (wsV RX3 81 RX3 yX3_has wsX3_has) := goodIn_app (goodIn_of _ (by decide +kernel)) ggX3_deleteIfItIsThere_X3_has
set_option maxRecDepth 20000 in
theorem ggX3_deleteIfItIsThere_X3_placeOf : GoodIn wsX3_deleteIfItIsThere wsX3_placeOf := goodIn_r _ [9, 10, 11, 12, 13, 14, 15, 16, 17, 18, 19, 20, 21, 22, 23, 4, 24, 25, 26, 27, 36, 37, 38, 39, 40] (by decide +kernel) (by decide +kernel)
set_option maxRecDepth 20000 in
theorem gX3_deleteIfItIsThere_X3_placeOf : GoodIn wsX3_deleteIfItIsThere (wsV RX3 65 RX3 yX3_placeOf wsX3_placeOf) := goodIn_app (goodIn_of _ (by decide +kernel)) ggX3_deleteIfItIsThere_X3_placeOf
set_option maxRecDepth 20000 in
theorem ggX3_deleteIfItIsThere_X3_takeOut : GoodIn wsX3_deleteIfItIsThere wsX3_takeOut := goodIn_r _ [31, 10, 32, 33, 34, 14, 35, 16, 21, 36, 37, 38, 39, 40] (by decide +kernel) (by decide +kernel)
set_option maxRecDepth 20000 in
theorem gX3_deleteIfItIsThere_X3_takeOut : GoodIn wsX3_deleteIfItIsThere (wsV RX3 89 RX3 yX3_takeOut wsX3_takeOut) := goodIn_app (goodIn_of _ (by decide +kernel)) ggX3_deleteIfItIsThere_X3_takeOut
theorem dX3_deleteIfItIsThere_0 : decode cX3_deleteIfItIsThere 0 = .ok (.aload_n 0, 1) := by decide +kernel
theorem dX3_deleteIfItIsThere_1 : decode cX3_deleteIfItIsThere 1 = .ok (.iload_n 1, 1) := by decide +kernel
theorem dX3_deleteIfItIsThere_2 : decode cX3_deleteIfItIsThere 2 = .ok (.iload_n 2, 1) := by decide +kernel
theorem dX3_deleteIfItIsThere_3 : decode cX3_deleteIfItIsThere 3 = .ok (.invokevirtual 81, 3) := by decide +kernel
theorem dX3_deleteIfItIsThere_6 : decode cX3_deleteIfItIsThere 6 = .ok (.istore_n 3, 1) := by decide +kernel
theorem dX3_deleteIfItIsThere_7 : decode cX3_deleteIfItIsThere 7 = .ok (.iload_n 3, 1) := by decide +kernel
theorem dX3_deleteIfItIsThere_8 : decode cX3_deleteIfItIsThere 8 = .ok (.ifCond .eq 14, 3) := by decide +kernel
theorem dX3_deleteIfItIsThere_11 : decode cX3_deleteIfItIsThere 11 = .ok (.aload_n 0, 1) := by decide +kernel
theorem dX3_deleteIfItIsThere_12 : decode cX3_deleteIfItIsThere 12 = .ok (.aload_n 0, 1) := by decide +kernel
theorem dX3_deleteIfItIsThere_13 : decode cX3_deleteIfItIsThere 13 = .ok (.iload_n 1, 1) := by decide +kernel
theorem dX3_deleteIfItIsThere_14 : decode cX3_deleteIfItIsThere 14 = .ok (.iload_n 2, 1) := by decide +kernel
theorem dX3_deleteIfItIsThere_15 : decode cX3_deleteIfItIsThere 15 = .ok (.invokevirtual 65, 3) := by decide +kernel
theorem dX3_deleteIfItIsThere_18 : decode cX3_deleteIfItIsThere 18 = .ok (.invokevirtual 89, 3) := by decide +kernel
theorem dX3_deleteIfItIsThere_21 : decode cX3_deleteIfItIsThere 21 = .ok (.pop, 1) := by decide +kernel
theorem dX3_deleteIfItIsThere_22 : decode cX3_deleteIfItIsThere 22 = .ok (.iload_n 3, 1) := by decide +kernel
theorem dX3_deleteIfItIsThere_23 : decode cX3_deleteIfItIsThere 23 = .ok (.ireturn, 1) := by decide +kernel
set_option maxRecDepth 20000 in
theorem ggX3_turnDrawn_X3_deleteIfItIsThere : GoodIn wsX3_turnDrawn wsX3_deleteIfItIsThere := goodIn_r _ [6, 7, 8, 9, 5, 10, 11, 12, 13, 14, 15, 16, 17, 18, 19, 20, 21, 22, 23, 24, 25, 26, 27, 28, 29, 30, 31, 32, 33, 34, 35, 36, 37, 38, 39, 40, 67, 68, 69, 70, 71] (by decide +kernel) (by decide +kernel)
set_option maxRecDepth 20000 in
theorem gX3_turnDrawn_X3_deleteIfItIsThere : GoodIn wsX3_turnDrawn (wsV RX3 90 RX3 yX3_deleteIfItIsThere wsX3_deleteIfItIsThere) := goodIn_app (goodIn_of _ (by decide +kernel)) ggX3_turnDrawn_X3_deleteIfItIsThere
set_option maxRecDepth 20000 in
theorem ggX3_turnDrawn_X3_insertIfItCanBe : GoodIn wsX3_turnDrawn wsX3_insertIfItCanBe := goodIn_r _ [44, 7, 8, 9, 5, 10, 11, 12, 13, 14, 15, 16, 17, 18, 19, 20, 21, 22, 23, 24, 25, 26, 27, 28, 29, 30, 31, 32, 45, 46, 47, 48, 49, 50, 51, 52, 53, 54, 55, 56, 57, 58, 59, 60, 61, 62, 63, 64, 65, 66, 67, 68, 69, 70, 71] (by decide +kernel) (by decide +kernel)
set_option maxRecDepth 20000 in
theorem gX3_turnDrawn_X3_insertIfItCanBe : GoodIn wsX3_turnDrawn (wsV RX3 93 RX3 yX3_insertIfItCanBe wsX3_insertIfItCanBe) := goodIn_app (goodIn_of _ (by decide +kernel)) ggX3_turnDrawn_X3_insertIfItCanBe
theorem dX3_turnDrawn_0 : decode cX3_turnDrawn 0 = .ok (.aload_n 0, 1) := by decide +kernel
theorem dX3_turnDrawn_1 : decode cX3_turnDrawn 1 = .ok (.getfield 20, 3) := by decide +kernel
theorem dX3_turnDrawn_4 : decode cX3_turnDrawn 4 = .ok (.iconst 1, 1) := by decide +kernel
theorem dX3_turnDrawn_5 : decode cX3_turnDrawn 5 = .ok (.if_icmp .ge 4, 3) := by decide +kernel
theorem dX3_turnDrawn_8 : decode cX3_turnDrawn 8 = .ok (.return_, 1) := by decide +kernel
theorem dX3_turnDrawn_9 : decode cX3_turnDrawn 9 = .ok (.iload_n 1, 1) := by decide +kernel
theorem dX3_turnDrawn_10 : decode cX3_turnDrawn 10 = .ok (.aload_n 0, 1) := by decide +kernel
theorem dX3_turnDrawn_11 : decode cX3_turnDrawn 11 = .ok (.getfield 20, 3) := by decide +kernel
theorem dX3_turnDrawn_14 : decode cX3_turnDrawn 14 = .ok (.irem, 1) := by decide +kernel
theorem dX3_turnDrawn_15 : decode cX3_turnDrawn 15 = .ok (.istore_n 2, 1) := by decide +kernel
theorem dX3_turnDrawn_16 : decode cX3_turnDrawn 16 = .ok (.iload_n 1, 1) := by decide +kernel
theorem dX3_turnDrawn_17 : decode cX3_turnDrawn 17 = .ok (.bipush 8, 2) := by decide +kernel
theorem dX3_turnDrawn_19 : decode cX3_turnDrawn 19 = .ok (.idiv, 1) := by decide +kernel
theorem dX3_turnDrawn_20 : decode cX3_turnDrawn 20 = .ok (.aload_n 0, 1) := by decide +kernel
theorem dX3_turnDrawn_21 : decode cX3_turnDrawn 21 = .ok (.getfield 20, 3) := by decide +kernel
theorem dX3_turnDrawn_24 : decode cX3_turnDrawn 24 = .ok (.irem, 1) := by decide +kernel
theorem dX3_turnDrawn_25 : decode cX3_turnDrawn 25 = .ok (.istore_n 3, 1) := by decide +kernel
theorem dX3_turnDrawn_26 : decode cX3_turnDrawn 26 = .ok (.iload_n 2, 1) := by decide +kernel
theorem dX3_turnDrawn_27 : decode cX3_turnDrawn 27 = .ok (.iload_n 3, 1) := by decide +kernel
theorem dX3_turnDrawn_28 : decode cX3_turnDrawn 28 = .ok (.if_icmp .eq 19, 3) := by decide +kernel
theorem dX3_turnDrawn_31 : decode cX3_turnDrawn 31 = .ok (.aload_n 0, 1) := by decide +kernel
theorem dX3_turnDrawn_32 : decode cX3_turnDrawn 32 = .ok (.iload_n 2, 1) := by decide +kernel
theorem dX3_turnDrawn_33 : decode cX3_turnDrawn 33 = .ok (.iload_n 3, 1) := by decide +kernel
theorem dX3_turnDrawn_34 : decode cX3_turnDrawn 34 = .ok (.invokevirtual 90, 3) := by decide +kernel
theorem dX3_turnDrawn_37 : decode cX3_turnDrawn 37 = .ok (.ifCond .ne 10, 3) := by decide +kernel
theorem dX3_turnDrawn_40 : decode cX3_turnDrawn 40 = .ok (.aload_n 0, 1) := by decide +kernel
theorem dX3_turnDrawn_41 : decode cX3_turnDrawn 41 = .ok (.iload_n 2, 1) := by decide +kernel
theorem dX3_turnDrawn_42 : decode cX3_turnDrawn 42 = .ok (.iload_n 3, 1) := by decide +kernel
theorem dX3_turnDrawn_43 : decode cX3_turnDrawn 43 = .ok (.invokevirtual 93, 3) := by decide +kernel
theorem dX3_turnDrawn_46 : decode cX3_turnDrawn 46 = .ok (.pop, 1) := by decide +kernel
theorem dX3_turnDrawn_47 : decode cX3_turnDrawn 47 = .ok (.return_, 1) := by decide +kernel
set_option maxRecDepth 20000 in
theorem ggX3_countBetween_X6_size : GoodIn wsX3_countBetween wsX6_size := goodIn_r _ [6, 7, 24, 25] (by decide +kernel) (by decide +kernel)
set_option maxRecDepth 20000 in
theorem gX3_countBetween_X6_size : GoodIn wsX3_countBetween (wsV RX3 43 RX6 yX6_size wsX6_size) := goodIn_app (goodIn_of _ (by decide +kernel)) ggX3_countBetween_X6_size
set_option maxRecDepth 20000 in
theorem ggX3_countBetween_X6_at : GoodIn wsX3_countBetween wsX6_at := goodIn_r _ [11, 7, 12, 24, 25] (by decide +kernel) (by decide +kernel)
set_option maxRecDepth 20000 in
theorem gX3_countBetween_X6_at : GoodIn wsX3_countBetween (wsV RX3 55 RX6 yX6_at wsX6_at) := goodIn_app (goodIn_of _ (by decide +kernel)) ggX3_countBetween_X6_at
set_option maxRecDepth 20000 in
theorem ggX3_countBetween_X3_pairOf : GoodIn wsX3_countBetween wsX3_pairOf := goodIn_r _ [16] (by decide +kernel) (by decide +kernel)
set_option maxRecDepth 20000 in
theorem gX3_countBetween_X3_pairOf : GoodIn wsX3_countBetween (va_wsS RX3 59 yX3_pairOf wsX3_pairOf) := goodIn_app (goodIn_of _ (by decide +kernel)) ggX3_countBetween_X3_pairOf
set_option maxRecDepth 20000 in
theorem ggX3_countBetween_X5_isIn : GoodIn wsX3_countBetween wsX5_isIn := goodIn_r _ [20] (by decide +kernel) (by decide +kernel)
set_option maxRecDepth 20000 in
theorem gX3_countBetween_X5_isIn : GoodIn wsX3_countBetween (va_wsS RX3 96 yX5_isIn wsX5_isIn) := goodIn_app (goodIn_of _ (by decide +kernel)) ggX3_countBetween_X5_isIn
theorem dX3_countBetween_0 : decode cX3_countBetween 0 = .ok (.iconst 0, 1) := by decide +kernel
theorem dX3_countBetween_1 : decode cX3_countBetween 1 = .ok (.istore_n 2, 1) := by decide +kernel
theorem dX3_countBetween_2 : decode cX3_countBetween 2 = .ok (.iconst 0, 1) := by decide +kernel
theorem dX3_countBetween_3 : decode cX3_countBetween 3 = .ok (.istore_n 3, 1) := by decide +kernel
theorem dX3_countBetween_4 : decode cX3_countBetween 4 = .ok (.iload_n 3, 1) := by decide +kernel
theorem dX3_countBetween_5 : decode cX3_countBetween 5 = .ok (.aload_n 0, 1) := by decide +kernel
theorem dX3_countBetween_6 : decode cX3_countBetween 6 = .ok (.getfield 14, 3) := by decide +kernel
theorem dX3_countBetween_9 : decode cX3_countBetween 9 = .ok (.invokevirtual 43, 3) := by decide +kernel
theorem dX3_countBetween_12 : decode cX3_countBetween 12 = .ok (.if_icmp .ge 33, 3) := by decide +kernel
theorem dX3_countBetween_15 : decode cX3_countBetween 15 = .ok (.iload_n 1, 1) := by decide +kernel
theorem dX3_countBetween_16 : decode cX3_countBetween 16 = .ok (.aload_n 0, 1) := by decide +kernel
theorem dX3_countBetween_17 : decode cX3_countBetween 17 = .ok (.getfield 14, 3) := by decide +kernel
theorem dX3_countBetween_20 : decode cX3_countBetween 20 = .ok (.iload_n 3, 1) := by decide +kernel
theorem dX3_countBetween_21 : decode cX3_countBetween 21 = .ok (.invokevirtual 55, 3) := by decide +kernel
theorem dX3_countBetween_24 : decode cX3_countBetween 24 = .ok (.invokestatic 59, 3) := by decide +kernel
theorem dX3_countBetween_27 : decode cX3_countBetween 27 = .ok (.bipush 10, 2) := by decide +kernel
theorem dX3_countBetween_29 : decode cX3_countBetween 29 = .ok (.idiv, 1) := by decide +kernel
theorem dX3_countBetween_30 : decode cX3_countBetween 30 = .ok (.invokestatic 96, 3) := by decide +kernel
theorem dX3_countBetween_33 : decode cX3_countBetween 33 = .ok (.ifCond .eq 6, 3) := by decide +kernel
theorem dX3_countBetween_36 : decode cX3_countBetween 36 = .ok (.iinc 2 1, 3) := by decide +kernel
theorem dX3_countBetween_39 : decode cX3_countBetween 39 = .ok (.iinc 3 1, 3) := by decide +kernel
theorem dX3_countBetween_42 : decode cX3_countBetween 42 = .ok (.goto (-38), 3) := by decide +kernel
theorem dX3_countBetween_45 : decode cX3_countBetween 45 = .ok (.iload_n 2, 1) := by decide +kernel
theorem dX3_countBetween_46 : decode cX3_countBetween 46 = .ok (.ireturn, 1) := by decide +kernel
set_option maxRecDepth 20000 in
theorem ggX3_grid_X6_size : GoodIn wsX3_grid wsX6_size := goodIn_r _ [6, 7, 24, 25] (by decide +kernel) (by decide +kernel)
set_option maxRecDepth 20000 in
theorem gX3_grid_X6_size : GoodIn wsX3_grid (wsV RX3 43 RX6 yX6_size wsX6_size) := goodIn_app (goodIn_of _ (by decide +kernel)) ggX3_grid_X6_size
set_option maxRecDepth 20000 in
theorem ggX3_grid_X6_at : GoodIn wsX3_grid wsX6_at := goodIn_r _ [11, 7, 12, 24, 25] (by decide +kernel) (by decide +kernel)
set_option maxRecDepth 20000 in
theorem gX3_grid_X6_at : GoodIn wsX3_grid (wsV RX3 55 RX6 yX6_at wsX6_at) := goodIn_app (goodIn_of _ (by decide +kernel)) ggX3_grid_X6_at
set_option maxRecDepth 20000 in
theorem ggX3_grid_X3_pairOf : GoodIn wsX3_grid wsX3_pairOf := goodIn_r _ [16] (by decide +kernel) (by decide +kernel)
set_option maxRecDepth 20000 in
theorem gX3_grid_X3_pairOf : GoodIn wsX3_grid (va_wsS RX3 59 yX3_pairOf wsX3_pairOf) := goodIn_app (goodIn_of _ (by decide +kernel)) ggX3_grid_X3_pairOf
set_option maxRecDepth 20000 in
theorem ggX3_grid_X5_flipped : GoodIn wsX3_grid wsX5_flipped := goodIn_r _ [20] (by decide +kernel) (by decide +kernel)
set_option maxRecDepth 20000 in
theorem gX3_grid_X5_flipped : GoodIn wsX3_grid (va_wsS RX3 101 yX5_flipped wsX5_flipped) := goodIn_app (goodIn_of _ (by decide +kernel)) ggX3_grid_X5_flipped
theorem dX3_grid_0 : decode cX3_grid 0 = .ok (.lconst 0, 1) := by decide +kernel
theorem dX3_grid_1 : decode cX3_grid 1 = .ok (.lstore_n 1, 1) := by decide +kernel
theorem dX3_grid_2 : decode cX3_grid 2 = .ok (.iconst 0, 1) := by decide +kernel
theorem dX3_grid_3 : decode cX3_grid 3 = .ok (.istore_n 3, 1) := by decide +kernel
theorem dX3_grid_4 : decode cX3_grid 4 = .ok (.iload_n 3, 1) := by decide +kernel
theorem dX3_grid_5 : decode cX3_grid 5 = .ok (.aload_n 0, 1) := by decide +kernel
theorem dX3_grid_6 : decode cX3_grid 6 = .ok (.getfield 14, 3) := by decide +kernel
theorem dX3_grid_9 : decode cX3_grid 9 = .ok (.invokevirtual 43, 3) := by decide +kernel
theorem dX3_grid_12 : decode cX3_grid 12 = .ok (.if_icmp .ge 37, 3) := by decide +kernel
theorem dX3_grid_15 : decode cX3_grid 15 = .ok (.aload_n 0, 1) := by decide +kernel
theorem dX3_grid_16 : decode cX3_grid 16 = .ok (.getfield 14, 3) := by decide +kernel
theorem dX3_grid_19 : decode cX3_grid 19 = .ok (.iload_n 3, 1) := by decide +kernel
theorem dX3_grid_20 : decode cX3_grid 20 = .ok (.invokevirtual 55, 3) := by decide +kernel
theorem dX3_grid_23 : decode cX3_grid 23 = .ok (.invokestatic 59, 3) := by decide +kernel
theorem dX3_grid_26 : decode cX3_grid 26 = .ok (.istore 4, 2) := by decide +kernel
theorem dX3_grid_28 : decode cX3_grid 28 = .ok (.lload_n 1, 1) := by decide +kernel
theorem dX3_grid_29 : decode cX3_grid 29 = .ok (.iload 4, 2) := by decide +kernel
theorem dX3_grid_31 : decode cX3_grid 31 = .ok (.bipush 10, 2) := by decide +kernel
theorem dX3_grid_33 : decode cX3_grid 33 = .ok (.idiv, 1) := by decide +kernel
theorem dX3_grid_34 : decode cX3_grid 34 = .ok (.iload 4, 2) := by decide +kernel
theorem dX3_grid_36 : decode cX3_grid 36 = .ok (.bipush 10, 2) := by decide +kernel
theorem dX3_grid_38 : decode cX3_grid 38 = .ok (.irem, 1) := by decide +kernel
theorem dX3_grid_39 : decode cX3_grid 39 = .ok (.invokestatic 101, 3) := by decide +kernel
theorem dX3_grid_42 : decode cX3_grid 42 = .ok (.lstore_n 1, 1) := by decide +kernel
theorem dX3_grid_43 : decode cX3_grid 43 = .ok (.iinc 3 1, 3) := by decide +kernel
theorem dX3_grid_46 : decode cX3_grid 46 = .ok (.goto (-42), 3) := by decide +kernel
theorem dX3_grid_49 : decode cX3_grid 49 = .ok (.lload_n 1, 1) := by decide +kernel
theorem dX3_grid_50 : decode cX3_grid 50 = .ok (.lreturn, 1) := by decide +kernel
set_option maxRecDepth 20000 in
theorem ggX3_firstWayOn_X6_size : GoodIn wsX3_firstWayOn wsX6_size := goodIn_r _ [6, 7, 24, 25] (by decide +kernel) (by decide +kernel)
set_option maxRecDepth 20000 in
theorem gX3_firstWayOn_X6_size : GoodIn wsX3_firstWayOn (wsV RX3 43 RX6 yX6_size wsX6_size) := goodIn_app (goodIn_of _ (by decide +kernel)) ggX3_firstWayOn_X6_size
set_option maxRecDepth 20000 in
theorem ggX3_firstWayOn_X6_at : GoodIn wsX3_firstWayOn wsX6_at := goodIn_r _ [11, 7, 12, 24, 25] (by decide +kernel) (by decide +kernel)
set_option maxRecDepth 20000 in
theorem gX3_firstWayOn_X6_at : GoodIn wsX3_firstWayOn (wsV RX3 55 RX6 yX6_at wsX6_at) := goodIn_app (goodIn_of _ (by decide +kernel)) ggX3_firstWayOn_X6_at
set_option maxRecDepth 20000 in
theorem ggX3_firstWayOn_X3_pairOf : GoodIn wsX3_firstWayOn wsX3_pairOf := goodIn_r _ [16] (by decide +kernel) (by decide +kernel)
set_option maxRecDepth 20000 in
theorem gX3_firstWayOn_X3_pairOf : GoodIn wsX3_firstWayOn (va_wsS RX3 59 yX3_pairOf wsX3_pairOf) := goodIn_app (goodIn_of _ (by decide +kernel)) ggX3_firstWayOn_X3_pairOf
set_option maxRecDepth 20000 in
theorem ggX3_firstWayOn_X5_isIn : GoodIn wsX3_firstWayOn wsX5_isIn := goodIn_r _ [20] (by decide +kernel) (by decide +kernel)
set_option maxRecDepth 20000 in
theorem gX3_firstWayOn_X5_isIn : GoodIn wsX3_firstWayOn (va_wsS RX3 96 yX5_isIn wsX5_isIn) := goodIn_app (goodIn_of _ (by decide +kernel)) ggX3_firstWayOn_X5_isIn
theorem dX3_firstWayOn_0 : decode cX3_firstWayOn 0 = .ok (.iconst 0, 1) := by decide +kernel
theorem dX3_firstWayOn_1 : decode cX3_firstWayOn 1 = .ok (.istore_n 3, 1) := by decide +kernel
theorem dX3_firstWayOn_2 : decode cX3_firstWayOn 2 = .ok (.iload_n 3, 1) := by decide +kernel
theorem dX3_firstWayOn_3 : decode cX3_firstWayOn 3 = .ok (.aload_n 0, 1) := by decide +kernel
theorem dX3_firstWayOn_4 : decode cX3_firstWayOn 4 = .ok (.getfield 14, 3) := by decide +kernel
theorem dX3_firstWayOn_7 : decode cX3_firstWayOn 7 = .ok (.invokevirtual 43, 3) := by decide +kernel
theorem dX3_firstWayOn_10 : decode cX3_firstWayOn 10 = .ok (.if_icmp .ge 49, 3) := by decide +kernel
theorem dX3_firstWayOn_13 : decode cX3_firstWayOn 13 = .ok (.aload_n 0, 1) := by decide +kernel
theorem dX3_firstWayOn_14 : decode cX3_firstWayOn 14 = .ok (.getfield 14, 3) := by decide +kernel
theorem dX3_firstWayOn_17 : decode cX3_firstWayOn 17 = .ok (.iload_n 3, 1) := by decide +kernel
theorem dX3_firstWayOn_18 : decode cX3_firstWayOn 18 = .ok (.invokevirtual 55, 3) := by decide +kernel
theorem dX3_firstWayOn_21 : decode cX3_firstWayOn 21 = .ok (.invokestatic 59, 3) := by decide +kernel
theorem dX3_firstWayOn_24 : decode cX3_firstWayOn 24 = .ok (.istore 4, 2) := by decide +kernel
theorem dX3_firstWayOn_26 : decode cX3_firstWayOn 26 = .ok (.iload 4, 2) := by decide +kernel
theorem dX3_firstWayOn_28 : decode cX3_firstWayOn 28 = .ok (.bipush 10, 2) := by decide +kernel
theorem dX3_firstWayOn_30 : decode cX3_firstWayOn 30 = .ok (.idiv, 1) := by decide +kernel
theorem dX3_firstWayOn_31 : decode cX3_firstWayOn 31 = .ok (.iload_n 1, 1) := by decide +kernel
theorem dX3_firstWayOn_32 : decode cX3_firstWayOn 32 = .ok (.if_icmp .ne 21, 3) := by decide +kernel
theorem dX3_firstWayOn_35 : decode cX3_firstWayOn 35 = .ok (.iload_n 2, 1) := by decide +kernel
theorem dX3_firstWayOn_36 : decode cX3_firstWayOn 36 = .ok (.iload 4, 2) := by decide +kernel
theorem dX3_firstWayOn_38 : decode cX3_firstWayOn 38 = .ok (.bipush 10, 2) := by decide +kernel
theorem dX3_firstWayOn_40 : decode cX3_firstWayOn 40 = .ok (.irem, 1) := by decide +kernel
theorem dX3_firstWayOn_41 : decode cX3_firstWayOn 41 = .ok (.invokestatic 96, 3) := by decide +kernel
theorem dX3_firstWayOn_44 : decode cX3_firstWayOn 44 = .ok (.ifCond .ne 9, 3) := by decide +kernel
theorem dX3_firstWayOn_47 : decode cX3_firstWayOn 47 = .ok (.iload 4, 2) := by decide +kernel
theorem dX3_firstWayOn_49 : decode cX3_firstWayOn 49 = .ok (.bipush 10, 2) := by decide +kernel
theorem dX3_firstWayOn_51 : decode cX3_firstWayOn 51 = .ok (.irem, 1) := by decide +kernel
theorem dX3_firstWayOn_52 : decode cX3_firstWayOn 52 = .ok (.ireturn, 1) := by decide +kernel
theorem dX3_firstWayOn_53 : decode cX3_firstWayOn 53 = .ok (.iinc 3 1, 3) := by decide +kernel
theorem dX3_firstWayOn_56 : decode cX3_firstWayOn 56 = .ok (.goto (-54), 3) := by decide +kernel
theorem dX3_firstWayOn_59 : decode cX3_firstWayOn 59 = .ok (.bipush (-9), 2) := by decide +kernel
theorem dX3_firstWayOn_61 : decode cX3_firstWayOn 61 = .ok (.ireturn, 1) := by decide +kernel
theorem dX4_fit_0 : decode cX4_fit 0 = .ok (.lload_n 0, 1) := by decide +kernel
theorem dX4_fit_1 : decode cX4_fit 1 = .ok (.lstore_n 3, 1) := by decide +kernel
theorem dX4_fit_2 : decode cX4_fit 2 = .ok (.iconst 0, 1) := by decide +kernel
theorem dX4_fit_3 : decode cX4_fit 3 = .ok (.istore 5, 2) := by decide +kernel
theorem dX4_fit_5 : decode cX4_fit 5 = .ok (.iload 5, 2) := by decide +kernel
theorem dX4_fit_7 : decode cX4_fit 7 = .ok (.iload_n 2, 1) := by decide +kernel
theorem dX4_fit_8 : decode cX4_fit 8 = .ok (.if_icmp .ge 15, 3) := by decide +kernel
theorem dX4_fit_11 : decode cX4_fit 11 = .ok (.lload_n 3, 1) := by decide +kernel
theorem dX4_fit_12 : decode cX4_fit 12 = .ok (.ldc2_w 7, 3) := by decide +kernel
theorem dX4_fit_15 : decode cX4_fit 15 = .ok (.ldiv, 1) := by decide +kernel
theorem dX4_fit_16 : decode cX4_fit 16 = .ok (.lstore_n 3, 1) := by decide +kernel
theorem dX4_fit_17 : decode cX4_fit 17 = .ok (.iinc 5 1, 3) := by decide +kernel
theorem dX4_fit_20 : decode cX4_fit 20 = .ok (.goto (-15), 3) := by decide +kernel
theorem dX4_fit_23 : decode cX4_fit 23 = .ok (.lload_n 0, 1) := by decide +kernel
theorem dX4_fit_24 : decode cX4_fit 24 = .ok (.lconst 0, 1) := by decide +kernel
theorem dX4_fit_25 : decode cX4_fit 25 = .ok (.lcmp, 1) := by decide +kernel
theorem dX4_fit_26 : decode cX4_fit 26 = .ok (.ifCond .lt 13, 3) := by decide +kernel
theorem dX4_fit_29 : decode cX4_fit 29 = .ok (.lload_n 3, 1) := by decide +kernel
theorem dX4_fit_30 : decode cX4_fit 30 = .ok (.lconst 0, 1) := by decide +kernel
theorem dX4_fit_31 : decode cX4_fit 31 = .ok (.lcmp, 1) := by decide +kernel
theorem dX4_fit_32 : decode cX4_fit 32 = .ok (.ifCond .ne 7, 3) := by decide +kernel
theorem dX4_fit_35 : decode cX4_fit 35 = .ok (.iconst 1, 1) := by decide +kernel
theorem dX4_fit_36 : decode cX4_fit 36 = .ok (.goto 4, 3) := by decide +kernel
theorem dX4_fit_39 : decode cX4_fit 39 = .ok (.iconst 0, 1) := by decide +kernel
theorem dX4_fit_40 : decode cX4_fit 40 = .ok (.ireturn, 1) := by decide +kernel
theorem dX4_at_0 : decode cX4_at 0 = .ok (.lload_n 0, 1) := by decide +kernel
theorem dX4_at_1 : decode cX4_at 1 = .ok (.lstore 4, 2) := by decide +kernel
theorem dX4_at_3 : decode cX4_at 3 = .ok (.iload_n 2, 1) := by decide +kernel
theorem dX4_at_4 : decode cX4_at 4 = .ok (.iconst 1, 1) := by decide +kernel
theorem dX4_at_5 : decode cX4_at 5 = .ok (.iadd, 1) := by decide +kernel
theorem dX4_at_6 : decode cX4_at 6 = .ok (.istore 6, 2) := by decide +kernel
theorem dX4_at_8 : decode cX4_at 8 = .ok (.iload 6, 2) := by decide +kernel
theorem dX4_at_10 : decode cX4_at 10 = .ok (.iload_n 3, 1) := by decide +kernel
theorem dX4_at_11 : decode cX4_at 11 = .ok (.if_icmp .ge 17, 3) := by decide +kernel
theorem dX4_at_14 : decode cX4_at 14 = .ok (.lload 4, 2) := by decide +kernel
theorem dX4_at_16 : decode cX4_at 16 = .ok (.ldc2_w 7, 3) := by decide +kernel
theorem dX4_at_19 : decode cX4_at 19 = .ok (.ldiv, 1) := by decide +kernel
theorem dX4_at_20 : decode cX4_at 20 = .ok (.lstore 4, 2) := by decide +kernel
theorem dX4_at_22 : decode cX4_at 22 = .ok (.iinc 6 1, 3) := by decide +kernel
theorem dX4_at_25 : decode cX4_at 25 = .ok (.goto (-17), 3) := by decide +kernel
theorem dX4_at_28 : decode cX4_at 28 = .ok (.lload 4, 2) := by decide +kernel
theorem dX4_at_30 : decode cX4_at 30 = .ok (.ldc2_w 7, 3) := by decide +kernel
theorem dX4_at_33 : decode cX4_at 33 = .ok (.lrem, 1) := by decide +kernel
theorem dX4_at_34 : decode cX4_at 34 = .ok (.l2i, 1) := by decide +kernel
theorem dX4_at_35 : decode cX4_at 35 = .ok (.ireturn, 1) := by decide +kernel
theorem dX5_only_0 : decode cX5_only 0 = .ok (.iconst 1, 1) := by decide +kernel
theorem dX5_only_1 : decode cX5_only 1 = .ok (.iload_n 0, 1) := by decide +kernel
theorem dX5_only_2 : decode cX5_only 2 = .ok (.ishl, 1) := by decide +kernel
theorem dX5_only_3 : decode cX5_only 3 = .ok (.ireturn, 1) := by decide +kernel
theorem dX5_isIn_0 : decode cX5_isIn 0 = .ok (.iload_n 1, 1) := by decide +kernel
theorem dX5_isIn_1 : decode cX5_isIn 1 = .ok (.ifCond .lt 22, 3) := by decide +kernel
theorem dX5_isIn_4 : decode cX5_isIn 4 = .ok (.iload_n 1, 1) := by decide +kernel
theorem dX5_isIn_5 : decode cX5_isIn 5 = .ok (.bipush 8, 2) := by decide +kernel
theorem dX5_isIn_7 : decode cX5_isIn 7 = .ok (.if_icmp .ge 16, 3) := by decide +kernel
theorem dX5_isIn_10 : decode cX5_isIn 10 = .ok (.iload_n 0, 1) := by decide +kernel
theorem dX5_isIn_11 : decode cX5_isIn 11 = .ok (.iload_n 1, 1) := by decide +kernel
theorem dX5_isIn_12 : decode cX5_isIn 12 = .ok (.iushr, 1) := by decide +kernel
theorem dX5_isIn_13 : decode cX5_isIn 13 = .ok (.iconst 1, 1) := by decide +kernel
theorem dX5_isIn_14 : decode cX5_isIn 14 = .ok (.iand, 1) := by decide +kernel
theorem dX5_isIn_15 : decode cX5_isIn 15 = .ok (.iconst 1, 1) := by decide +kernel
theorem dX5_isIn_16 : decode cX5_isIn 16 = .ok (.if_icmp .ne 7, 3) := by decide +kernel
theorem dX5_isIn_19 : decode cX5_isIn 19 = .ok (.iconst 1, 1) := by decide +kernel
theorem dX5_isIn_20 : decode cX5_isIn 20 = .ok (.goto 4, 3) := by decide +kernel
theorem dX5_isIn_23 : decode cX5_isIn 23 = .ok (.iconst 0, 1) := by decide +kernel
theorem dX5_isIn_24 : decode cX5_isIn 24 = .ok (.ireturn, 1) := by decide +kernel
set_option maxRecDepth 20000 in
theorem ggX5_first_J6_bitCount_0f7a4 : GoodIn wsX5_first wsJ6_bitCount_0f7a4 := goodIn_r _ [4, 5, 6, 7] (by decide +kernel) (by decide +kernel)
set_option maxRecDepth 20000 in
theorem gX5_first_J6_bitCount_0f7a4 : GoodIn wsX5_first (va_wsS RX5 9 yJ6_bitCount_0f7a4 wsJ6_bitCount_0f7a4) := goodIn_app (goodIn_of _ (by decide +kernel)) ggX5_first_J6_bitCount_0f7a4
theorem dX5_first_0 : decode cX5_first 0 = .ok (.iload_n 0, 1) := by decide +kernel
theorem dX5_first_1 : decode cX5_first 1 = .ok (.iload_n 0, 1) := by decide +kernel
theorem dX5_first_2 : decode cX5_first 2 = .ok (.ineg, 1) := by decide +kernel
theorem dX5_first_3 : decode cX5_first 3 = .ok (.iand, 1) := by decide +kernel
theorem dX5_first_4 : decode cX5_first 4 = .ok (.iconst 1, 1) := by decide +kernel
theorem dX5_first_5 : decode cX5_first 5 = .ok (.isub, 1) := by decide +kernel
theorem dX5_first_6 : decode cX5_first 6 = .ok (.invokestatic 9, 3) := by decide +kernel
theorem dX5_first_9 : decode cX5_first 9 = .ok (.ireturn, 1) := by decide +kernel
theorem dX5_line_0 : decode cX5_line 0 = .ok (.lload_n 0, 1) := by decide +kernel
theorem dX5_line_1 : decode cX5_line 1 = .ok (.bipush 8, 2) := by decide +kernel
theorem dX5_line_3 : decode cX5_line 3 = .ok (.iload_n 2, 1) := by decide +kernel
theorem dX5_line_4 : decode cX5_line 4 = .ok (.imul, 1) := by decide +kernel
theorem dX5_line_5 : decode cX5_line 5 = .ok (.lushr, 1) := by decide +kernel
theorem dX5_line_6 : decode cX5_line 6 = .ok (.l2i, 1) := by decide +kernel
theorem dX5_line_7 : decode cX5_line 7 = .ok (.sipush 255, 3) := by decide +kernel
theorem dX5_line_10 : decode cX5_line 10 = .ok (.iand, 1) := by decide +kernel
theorem dX5_line_11 : decode cX5_line 11 = .ok (.ireturn, 1) := by decide +kernel
theorem dX5_withLine_0 : decode cX5_withLine 0 = .ok (.bipush 8, 2) := by decide +kernel
theorem dX5_withLine_2 : decode cX5_withLine 2 = .ok (.iload_n 2, 1) := by decide +kernel
theorem dX5_withLine_3 : decode cX5_withLine 3 = .ok (.imul, 1) := by decide +kernel
theorem dX5_withLine_4 : decode cX5_withLine 4 = .ok (.istore 4, 2) := by decide +kernel
theorem dX5_withLine_6 : decode cX5_withLine 6 = .ok (.lload_n 0, 1) := by decide +kernel
theorem dX5_withLine_7 : decode cX5_withLine 7 = .ok (.ldc2_w 15, 3) := by decide +kernel
theorem dX5_withLine_10 : decode cX5_withLine 10 = .ok (.iload 4, 2) := by decide +kernel
theorem dX5_withLine_12 : decode cX5_withLine 12 = .ok (.lshl, 1) := by decide +kernel
theorem dX5_withLine_13 : decode cX5_withLine 13 = .ok (.ldc2_w 17, 3) := by decide +kernel
theorem dX5_withLine_16 : decode cX5_withLine 16 = .ok (.lxor, 1) := by decide +kernel
theorem dX5_withLine_17 : decode cX5_withLine 17 = .ok (.land, 1) := by decide +kernel
theorem dX5_withLine_18 : decode cX5_withLine 18 = .ok (.iload_n 3, 1) := by decide +kernel
theorem dX5_withLine_19 : decode cX5_withLine 19 = .ok (.i2l, 1) := by decide +kernel
theorem dX5_withLine_20 : decode cX5_withLine 20 = .ok (.iload 4, 2) := by decide +kernel
theorem dX5_withLine_22 : decode cX5_withLine 22 = .ok (.lshl, 1) := by decide +kernel
theorem dX5_withLine_23 : decode cX5_withLine 23 = .ok (.lor, 1) := by decide +kernel
theorem dX5_withLine_24 : decode cX5_withLine 24 = .ok (.lreturn, 1) := by decide +kernel
theorem dX5_flipped_0 : decode cX5_flipped 0 = .ok (.lload_n 0, 1) := by decide +kernel
theorem dX5_flipped_1 : decode cX5_flipped 1 = .ok (.lconst 1, 1) := by decide +kernel
theorem dX5_flipped_2 : decode cX5_flipped 2 = .ok (.bipush 8, 2) := by decide +kernel
theorem dX5_flipped_4 : decode cX5_flipped 4 = .ok (.iload_n 2, 1) := by decide +kernel
theorem dX5_flipped_5 : decode cX5_flipped 5 = .ok (.imul, 1) := by decide +kernel
theorem dX5_flipped_6 : decode cX5_flipped 6 = .ok (.iload_n 3, 1) := by decide +kernel
theorem dX5_flipped_7 : decode cX5_flipped 7 = .ok (.iadd, 1) := by decide +kernel
theorem dX5_flipped_8 : decode cX5_flipped 8 = .ok (.lshl, 1) := by decide +kernel
theorem dX5_flipped_9 : decode cX5_flipped 9 = .ok (.lxor, 1) := by decide +kernel
theorem dX5_flipped_10 : decode cX5_flipped 10 = .ok (.lreturn, 1) := by decide +kernel
set_option maxRecDepth 20000 in
theorem ggX5_column_X5_line : GoodIn wsX5_column wsX5_line := goodIn_r _ [4] (by decide +kernel) (by decide +kernel)
set_option maxRecDepth 20000 in
theorem gX5_column_X5_line : GoodIn wsX5_column (va_wsS RX5 19 yX5_line wsX5_line) := goodIn_app (goodIn_of _ (by decide +kernel)) ggX5_column_X5_line
set_option maxRecDepth 20000 in
theorem ggX5_column_X5_isIn : GoodIn wsX5_column wsX5_isIn := goodIn_r _ [7] (by decide +kernel) (by decide +kernel)
set_option maxRecDepth 20000 in
theorem gX5_column_X5_isIn : GoodIn wsX5_column (va_wsS RX5 25 yX5_isIn wsX5_isIn) := goodIn_app (goodIn_of _ (by decide +kernel)) ggX5_column_X5_isIn
set_option maxRecDepth 20000 in
theorem ggX5_column_X5_only : GoodIn wsX5_column wsX5_only := goodIn_r _ [10] (by decide +kernel) (by decide +kernel)
set_option maxRecDepth 20000 in
theorem gX5_column_X5_only : GoodIn wsX5_column (va_wsS RX5 29 yX5_only wsX5_only) := goodIn_app (goodIn_of _ (by decide +kernel)) ggX5_column_X5_only
theorem dX5_column_0 : decode cX5_column 0 = .ok (.iconst 0, 1) := by decide +kernel
theorem dX5_column_1 : decode cX5_column 1 = .ok (.istore_n 3, 1) := by decide +kernel
theorem dX5_column_2 : decode cX5_column 2 = .ok (.iconst 0, 1) := by decide +kernel
theorem dX5_column_3 : decode cX5_column 3 = .ok (.istore 4, 2) := by decide +kernel
theorem dX5_column_5 : decode cX5_column 5 = .ok (.iload 4, 2) := by decide +kernel
theorem dX5_column_7 : decode cX5_column 7 = .ok (.bipush 8, 2) := by decide +kernel
theorem dX5_column_9 : decode cX5_column 9 = .ok (.if_icmp .ge 30, 3) := by decide +kernel
theorem dX5_column_12 : decode cX5_column 12 = .ok (.lload_n 0, 1) := by decide +kernel
theorem dX5_column_13 : decode cX5_column 13 = .ok (.iload 4, 2) := by decide +kernel
theorem dX5_column_15 : decode cX5_column 15 = .ok (.invokestatic 19, 3) := by decide +kernel
theorem dX5_column_18 : decode cX5_column 18 = .ok (.iload_n 2, 1) := by decide +kernel
theorem dX5_column_19 : decode cX5_column 19 = .ok (.invokestatic 25, 3) := by decide +kernel
theorem dX5_column_22 : decode cX5_column 22 = .ok (.ifCond .eq 11, 3) := by decide +kernel
theorem dX5_column_25 : decode cX5_column 25 = .ok (.iload_n 3, 1) := by decide +kernel
theorem dX5_column_26 : decode cX5_column 26 = .ok (.iload 4, 2) := by decide +kernel
theorem dX5_column_28 : decode cX5_column 28 = .ok (.invokestatic 29, 3) := by decide +kernel
theorem dX5_column_31 : decode cX5_column 31 = .ok (.ior, 1) := by decide +kernel
theorem dX5_column_32 : decode cX5_column 32 = .ok (.istore_n 3, 1) := by decide +kernel
theorem dX5_column_33 : decode cX5_column 33 = .ok (.iinc 4 1, 3) := by decide +kernel
theorem dX5_column_36 : decode cX5_column 36 = .ok (.goto (-31), 3) := by decide +kernel
theorem dX5_column_39 : decode cX5_column 39 = .ok (.iload_n 3, 1) := by decide +kernel
theorem dX5_column_40 : decode cX5_column 40 = .ok (.ireturn, 1) := by decide +kernel
set_option maxRecDepth 20000 in
theorem ggX5_turned_X5_column : GoodIn wsX5_turned wsX5_column := goodIn_r _ [4, 5, 6, 3, 7, 8, 9, 10, 11, 12, 13] (by decide +kernel) (by decide +kernel)
set_option maxRecDepth 20000 in
theorem gX5_turned_X5_column : GoodIn wsX5_turned (va_wsS RX5 32 yX5_column wsX5_column) := goodIn_app (goodIn_of _ (by decide +kernel)) ggX5_turned_X5_column
set_option maxRecDepth 20000 in
theorem ggX5_turned_X5_withLine : GoodIn wsX5_turned wsX5_withLine := goodIn_r _ [16, 17, 18] (by decide +kernel) (by decide +kernel)
set_option maxRecDepth 20000 in
theorem gX5_turned_X5_withLine : GoodIn wsX5_turned (va_wsS RX5 35 yX5_withLine wsX5_withLine) := goodIn_app (goodIn_of _ (by decide +kernel)) ggX5_turned_X5_withLine
theorem dX5_turned_0 : decode cX5_turned 0 = .ok (.lconst 0, 1) := by decide +kernel
theorem dX5_turned_1 : decode cX5_turned 1 = .ok (.lstore_n 2, 1) := by decide +kernel
theorem dX5_turned_2 : decode cX5_turned 2 = .ok (.iconst 0, 1) := by decide +kernel
theorem dX5_turned_3 : decode cX5_turned 3 = .ok (.istore 4, 2) := by decide +kernel
theorem dX5_turned_5 : decode cX5_turned 5 = .ok (.iload 4, 2) := by decide +kernel
theorem dX5_turned_7 : decode cX5_turned 7 = .ok (.bipush 8, 2) := by decide +kernel
theorem dX5_turned_9 : decode cX5_turned 9 = .ok (.if_icmp .ge 22, 3) := by decide +kernel
theorem dX5_turned_12 : decode cX5_turned 12 = .ok (.lload_n 2, 1) := by decide +kernel
theorem dX5_turned_13 : decode cX5_turned 13 = .ok (.iload 4, 2) := by decide +kernel
theorem dX5_turned_15 : decode cX5_turned 15 = .ok (.lload_n 0, 1) := by decide +kernel
theorem dX5_turned_16 : decode cX5_turned 16 = .ok (.iload 4, 2) := by decide +kernel
theorem dX5_turned_18 : decode cX5_turned 18 = .ok (.invokestatic 32, 3) := by decide +kernel
theorem dX5_turned_21 : decode cX5_turned 21 = .ok (.invokestatic 35, 3) := by decide +kernel
theorem dX5_turned_24 : decode cX5_turned 24 = .ok (.lstore_n 2, 1) := by decide +kernel
theorem dX5_turned_25 : decode cX5_turned 25 = .ok (.iinc 4 1, 3) := by decide +kernel
theorem dX5_turned_28 : decode cX5_turned 28 = .ok (.goto (-23), 3) := by decide +kernel
theorem dX5_turned_31 : decode cX5_turned 31 = .ok (.lload_n 2, 1) := by decide +kernel
theorem dX5_turned_32 : decode cX5_turned 32 = .ok (.lreturn, 1) := by decide +kernel
set_option maxRecDepth 20000 in
theorem ggX5_reached_X5_only : GoodIn wsX5_reached wsX5_only := goodIn_r _ [4] (by decide +kernel) (by decide +kernel)
set_option maxRecDepth 20000 in
theorem gX5_reached_X5_only : GoodIn wsX5_reached (va_wsS RX5 29 yX5_only wsX5_only) := goodIn_app (goodIn_of _ (by decide +kernel)) ggX5_reached_X5_only
set_option maxRecDepth 20000 in
theorem ggX5_reached_X5_first : GoodIn wsX5_reached wsX5_first := goodIn_r _ [7, 8, 9, 10, 11, 12, 13, 14] (by decide +kernel) (by decide +kernel)
set_option maxRecDepth 20000 in
theorem gX5_reached_X5_first : GoodIn wsX5_reached (va_wsS RX5 39 yX5_first wsX5_first) := goodIn_app (goodIn_of _ (by decide +kernel)) ggX5_reached_X5_first
set_option maxRecDepth 20000 in
theorem ggX5_reached_X5_line : GoodIn wsX5_reached wsX5_line := goodIn_r _ [17] (by decide +kernel) (by decide +kernel)
set_option maxRecDepth 20000 in
theorem gX5_reached_X5_line : GoodIn wsX5_reached (va_wsS RX5 19 yX5_line wsX5_line) := goodIn_app (goodIn_of _ (by decide +kernel)) ggX5_reached_X5_line
theorem dX5_reached_0 : decode cX5_reached 0 = .ok (.iconst 0, 1) := by decide +kernel
theorem dX5_reached_1 : decode cX5_reached 1 = .ok (.invokestatic 29, 3) := by decide +kernel
theorem dX5_reached_4 : decode cX5_reached 4 = .ok (.iload_n 2, 1) := by decide +kernel
theorem dX5_reached_5 : decode cX5_reached 5 = .ok (.iconst (-1), 1) := by decide +kernel
theorem dX5_reached_6 : decode cX5_reached 6 = .ok (.ixor, 1) := by decide +kernel
theorem dX5_reached_7 : decode cX5_reached 7 = .ok (.iand, 1) := by decide +kernel
theorem dX5_reached_8 : decode cX5_reached 8 = .ok (.istore_n 3, 1) := by decide +kernel
theorem dX5_reached_9 : decode cX5_reached 9 = .ok (.iload_n 3, 1) := by decide +kernel
theorem dX5_reached_10 : decode cX5_reached 10 = .ok (.istore 4, 2) := by decide +kernel
theorem dX5_reached_12 : decode cX5_reached 12 = .ok (.iconst 0, 1) := by decide +kernel
theorem dX5_reached_13 : decode cX5_reached 13 = .ok (.istore 5, 2) := by decide +kernel
theorem dX5_reached_15 : decode cX5_reached 15 = .ok (.iload 5, 2) := by decide +kernel
theorem dX5_reached_17 : decode cX5_reached 17 = .ok (.bipush 8, 2) := by decide +kernel
theorem dX5_reached_19 : decode cX5_reached 19 = .ok (.if_icmp .ge 57, 3) := by decide +kernel
theorem dX5_reached_22 : decode cX5_reached 22 = .ok (.iload 4, 2) := by decide +kernel
theorem dX5_reached_24 : decode cX5_reached 24 = .ok (.ifCond .eq 52, 3) := by decide +kernel
theorem dX5_reached_27 : decode cX5_reached 27 = .ok (.iload 4, 2) := by decide +kernel
theorem dX5_reached_29 : decode cX5_reached 29 = .ok (.invokestatic 39, 3) := by decide +kernel
theorem dX5_reached_32 : decode cX5_reached 32 = .ok (.istore 6, 2) := by decide +kernel
theorem dX5_reached_34 : decode cX5_reached 34 = .ok (.lload_n 0, 1) := by decide +kernel
theorem dX5_reached_35 : decode cX5_reached 35 = .ok (.iload 6, 2) := by decide +kernel
theorem dX5_reached_37 : decode cX5_reached 37 = .ok (.invokestatic 19, 3) := by decide +kernel
theorem dX5_reached_40 : decode cX5_reached 40 = .ok (.iload_n 3, 1) := by decide +kernel
theorem dX5_reached_41 : decode cX5_reached 41 = .ok (.iconst (-1), 1) := by decide +kernel
theorem dX5_reached_42 : decode cX5_reached 42 = .ok (.ixor, 1) := by decide +kernel
theorem dX5_reached_43 : decode cX5_reached 43 = .ok (.iand, 1) := by decide +kernel
theorem dX5_reached_44 : decode cX5_reached 44 = .ok (.iload_n 2, 1) := by decide +kernel
theorem dX5_reached_45 : decode cX5_reached 45 = .ok (.iconst (-1), 1) := by decide +kernel
theorem dX5_reached_46 : decode cX5_reached 46 = .ok (.ixor, 1) := by decide +kernel
theorem dX5_reached_47 : decode cX5_reached 47 = .ok (.iand, 1) := by decide +kernel
theorem dX5_reached_48 : decode cX5_reached 48 = .ok (.istore 7, 2) := by decide +kernel
theorem dX5_reached_50 : decode cX5_reached 50 = .ok (.iload_n 3, 1) := by decide +kernel
theorem dX5_reached_51 : decode cX5_reached 51 = .ok (.iload 7, 2) := by decide +kernel
theorem dX5_reached_53 : decode cX5_reached 53 = .ok (.ior, 1) := by decide +kernel
theorem dX5_reached_54 : decode cX5_reached 54 = .ok (.istore_n 3, 1) := by decide +kernel
theorem dX5_reached_55 : decode cX5_reached 55 = .ok (.iload 4, 2) := by decide +kernel
theorem dX5_reached_57 : decode cX5_reached 57 = .ok (.iload 6, 2) := by decide +kernel
theorem dX5_reached_59 : decode cX5_reached 59 = .ok (.invokestatic 29, 3) := by decide +kernel
theorem dX5_reached_62 : decode cX5_reached 62 = .ok (.iconst (-1), 1) := by decide +kernel
theorem dX5_reached_63 : decode cX5_reached 63 = .ok (.ixor, 1) := by decide +kernel
theorem dX5_reached_64 : decode cX5_reached 64 = .ok (.iand, 1) := by decide +kernel
theorem dX5_reached_65 : decode cX5_reached 65 = .ok (.iload 7, 2) := by decide +kernel
theorem dX5_reached_67 : decode cX5_reached 67 = .ok (.ior, 1) := by decide +kernel
theorem dX5_reached_68 : decode cX5_reached 68 = .ok (.istore 4, 2) := by decide +kernel
theorem dX5_reached_70 : decode cX5_reached 70 = .ok (.iinc 5 1, 3) := by decide +kernel
theorem dX5_reached_73 : decode cX5_reached 73 = .ok (.goto (-58), 3) := by decide +kernel
theorem dX5_reached_76 : decode cX5_reached 76 = .ok (.iload_n 3, 1) := by decide +kernel
theorem dX5_reached_77 : decode cX5_reached 77 = .ok (.ireturn, 1) := by decide +kernel
theorem dX6_init_0 : decode cX6_init 0 = .ok (.aload_n 0, 1) := by decide +kernel
theorem dX6_init_1 : decode cX6_init 1 = .ok (.invokespecial 3, 3) := by decide +kernel
theorem dX6_init_4 : decode cX6_init 4 = .ok (.aload_n 0, 1) := by decide +kernel
theorem dX6_init_5 : decode cX6_init 5 = .ok (.iload_n 1, 1) := by decide +kernel
theorem dX6_init_6 : decode cX6_init 6 = .ok (.iconst 0, 1) := by decide +kernel
theorem dX6_init_7 : decode cX6_init 7 = .ok (.invokestatic 9, 3) := by decide +kernel
theorem dX6_init_10 : decode cX6_init 10 = .ok (.newarray .int, 2) := by decide +kernel
theorem dX6_init_12 : decode cX6_init 12 = .ok (.putfield 15, 3) := by decide +kernel
theorem dX6_init_15 : decode cX6_init 15 = .ok (.return_, 1) := by decide +kernel
theorem dX6_size_0 : decode cX6_size 0 = .ok (.aload_n 0, 1) := by decide +kernel
theorem dX6_size_1 : decode cX6_size 1 = .ok (.getfield 21, 3) := by decide +kernel
theorem dX6_size_4 : decode cX6_size 4 = .ok (.ireturn, 1) := by decide +kernel
theorem dX6_isFull_0 : decode cX6_isFull 0 = .ok (.aload_n 0, 1) := by decide +kernel
theorem dX6_isFull_1 : decode cX6_isFull 1 = .ok (.getfield 21, 3) := by decide +kernel
theorem dX6_isFull_4 : decode cX6_isFull 4 = .ok (.aload_n 0, 1) := by decide +kernel
theorem dX6_isFull_5 : decode cX6_isFull 5 = .ok (.getfield 15, 3) := by decide +kernel
theorem dX6_isFull_8 : decode cX6_isFull 8 = .ok (.arraylength, 1) := by decide +kernel
theorem dX6_isFull_9 : decode cX6_isFull 9 = .ok (.if_icmp .lt 7, 3) := by decide +kernel
theorem dX6_isFull_12 : decode cX6_isFull 12 = .ok (.iconst 1, 1) := by decide +kernel
theorem dX6_isFull_13 : decode cX6_isFull 13 = .ok (.goto 4, 3) := by decide +kernel
theorem dX6_isFull_16 : decode cX6_isFull 16 = .ok (.iconst 0, 1) := by decide +kernel
theorem dX6_isFull_17 : decode cX6_isFull 17 = .ok (.ireturn, 1) := by decide +kernel
theorem dX6_clear_0 : decode cX6_clear 0 = .ok (.aload_n 0, 1) := by decide +kernel
theorem dX6_clear_1 : decode cX6_clear 1 = .ok (.iconst 0, 1) := by decide +kernel
theorem dX6_clear_2 : decode cX6_clear 2 = .ok (.putfield 21, 3) := by decide +kernel
theorem dX6_clear_5 : decode cX6_clear 5 = .ok (.return_, 1) := by decide +kernel
theorem dX6_at_0 : decode cX6_at 0 = .ok (.iload_n 1, 1) := by decide +kernel
theorem dX6_at_1 : decode cX6_at 1 = .ok (.ifCond .lt 29, 3) := by decide +kernel
theorem dX6_at_4 : decode cX6_at 4 = .ok (.iload_n 1, 1) := by decide +kernel
theorem dX6_at_5 : decode cX6_at 5 = .ok (.aload_n 0, 1) := by decide +kernel
theorem dX6_at_6 : decode cX6_at 6 = .ok (.getfield 21, 3) := by decide +kernel
theorem dX6_at_9 : decode cX6_at 9 = .ok (.if_icmp .ge 21, 3) := by decide +kernel
theorem dX6_at_12 : decode cX6_at 12 = .ok (.iload_n 1, 1) := by decide +kernel
theorem dX6_at_13 : decode cX6_at 13 = .ok (.aload_n 0, 1) := by decide +kernel
theorem dX6_at_14 : decode cX6_at 14 = .ok (.getfield 15, 3) := by decide +kernel
theorem dX6_at_17 : decode cX6_at 17 = .ok (.arraylength, 1) := by decide +kernel
theorem dX6_at_18 : decode cX6_at 18 = .ok (.if_icmp .ge 12, 3) := by decide +kernel
theorem dX6_at_21 : decode cX6_at 21 = .ok (.aload_n 0, 1) := by decide +kernel
theorem dX6_at_22 : decode cX6_at 22 = .ok (.getfield 15, 3) := by decide +kernel
theorem dX6_at_25 : decode cX6_at 25 = .ok (.iload_n 1, 1) := by decide +kernel
theorem dX6_at_26 : decode cX6_at 26 = .ok (.iaload, 1) := by decide +kernel
theorem dX6_at_27 : decode cX6_at 27 = .ok (.goto 5, 3) := by decide +kernel
theorem dX6_at_30 : decode cX6_at 30 = .ok (.bipush (-9), 2) := by decide +kernel
theorem dX6_at_32 : decode cX6_at 32 = .ok (.ireturn, 1) := by decide +kernel
set_option maxRecDepth 20000 in
theorem ggX6_placeOf_X6_at : GoodIn wsX6_placeOf wsX6_at := goodIn_r _ [6, 1, 7, 8, 9] (by decide +kernel) (by decide +kernel)
set_option maxRecDepth 20000 in
theorem gX6_placeOf_X6_at : GoodIn wsX6_placeOf (wsV RX6 25 RX6 yX6_at wsX6_at) := goodIn_app (goodIn_of _ (by decide +kernel)) ggX6_placeOf_X6_at
theorem dX6_placeOf_0 : decode cX6_placeOf 0 = .ok (.iconst 0, 1) := by decide +kernel
theorem dX6_placeOf_1 : decode cX6_placeOf 1 = .ok (.istore_n 2, 1) := by decide +kernel
theorem dX6_placeOf_2 : decode cX6_placeOf 2 = .ok (.iload_n 2, 1) := by decide +kernel
theorem dX6_placeOf_3 : decode cX6_placeOf 3 = .ok (.aload_n 0, 1) := by decide +kernel
theorem dX6_placeOf_4 : decode cX6_placeOf 4 = .ok (.getfield 21, 3) := by decide +kernel
theorem dX6_placeOf_7 : decode cX6_placeOf 7 = .ok (.if_icmp .ge 20, 3) := by decide +kernel
theorem dX6_placeOf_10 : decode cX6_placeOf 10 = .ok (.aload_n 0, 1) := by decide +kernel
theorem dX6_placeOf_11 : decode cX6_placeOf 11 = .ok (.iload_n 2, 1) := by decide +kernel
theorem dX6_placeOf_12 : decode cX6_placeOf 12 = .ok (.invokevirtual 25, 3) := by decide +kernel
theorem dX6_placeOf_15 : decode cX6_placeOf 15 = .ok (.iload_n 1, 1) := by decide +kernel
theorem dX6_placeOf_16 : decode cX6_placeOf 16 = .ok (.if_icmp .ne 5, 3) := by decide +kernel
theorem dX6_placeOf_19 : decode cX6_placeOf 19 = .ok (.iload_n 2, 1) := by decide +kernel
theorem dX6_placeOf_20 : decode cX6_placeOf 20 = .ok (.ireturn, 1) := by decide +kernel
theorem dX6_placeOf_21 : decode cX6_placeOf 21 = .ok (.iinc 2 1, 3) := by decide +kernel
theorem dX6_placeOf_24 : decode cX6_placeOf 24 = .ok (.goto (-22), 3) := by decide +kernel
theorem dX6_placeOf_27 : decode cX6_placeOf 27 = .ok (.bipush (-9), 2) := by decide +kernel
theorem dX6_placeOf_29 : decode cX6_placeOf 29 = .ok (.ireturn, 1) := by decide +kernel
set_option maxRecDepth 20000 in
theorem ggX6_add_X6_putIn : GoodIn wsX6_add wsX6_putIn := goodIn_r _ [6, 1, 7, 8, 9, 10, 5, 11, 12, 13] (by decide +kernel) (by decide +kernel)
set_option maxRecDepth 20000 in
theorem gX6_add_X6_putIn : GoodIn wsX6_add (wsV RX6 29 RX6 yX6_putIn wsX6_putIn) := goodIn_app (goodIn_of _ (by decide +kernel)) ggX6_add_X6_putIn
theorem dX6_add_0 : decode cX6_add 0 = .ok (.aload_n 0, 1) := by decide +kernel
theorem dX6_add_1 : decode cX6_add 1 = .ok (.aload_n 0, 1) := by decide +kernel
theorem dX6_add_2 : decode cX6_add 2 = .ok (.getfield 21, 3) := by decide +kernel
theorem dX6_add_5 : decode cX6_add 5 = .ok (.iload_n 1, 1) := by decide +kernel
theorem dX6_add_6 : decode cX6_add 6 = .ok (.invokevirtual 29, 3) := by decide +kernel
theorem dX6_add_9 : decode cX6_add 9 = .ok (.return_, 1) := by decide +kernel
set_option maxRecDepth 20000 in
theorem ggX6_putIn_X6_isFull : GoodIn wsX6_putIn wsX6_isFull := goodIn_r _ [7, 1, 2, 8, 9] (by decide +kernel) (by decide +kernel)
set_option maxRecDepth 20000 in
theorem gX6_putIn_X6_isFull : GoodIn wsX6_putIn (wsV RX6 33 RX6 yX6_isFull wsX6_isFull) := goodIn_app (goodIn_of _ (by decide +kernel)) ggX6_putIn_X6_isFull
theorem dX6_putIn_0 : decode cX6_putIn 0 = .ok (.iload_n 1, 1) := by decide +kernel
theorem dX6_putIn_1 : decode cX6_putIn 1 = .ok (.ifCond .lt 18, 3) := by decide +kernel
theorem dX6_putIn_4 : decode cX6_putIn 4 = .ok (.iload_n 1, 1) := by decide +kernel
theorem dX6_putIn_5 : decode cX6_putIn 5 = .ok (.aload_n 0, 1) := by decide +kernel
theorem dX6_putIn_6 : decode cX6_putIn 6 = .ok (.getfield 21, 3) := by decide +kernel
theorem dX6_putIn_9 : decode cX6_putIn 9 = .ok (.if_icmp .gt 10, 3) := by decide +kernel
theorem dX6_putIn_12 : decode cX6_putIn 12 = .ok (.aload_n 0, 1) := by decide +kernel
theorem dX6_putIn_13 : decode cX6_putIn 13 = .ok (.invokevirtual 33, 3) := by decide +kernel
theorem dX6_putIn_16 : decode cX6_putIn 16 = .ok (.ifCond .eq 4, 3) := by decide +kernel
theorem dX6_putIn_19 : decode cX6_putIn 19 = .ok (.return_, 1) := by decide +kernel
theorem dX6_putIn_20 : decode cX6_putIn 20 = .ok (.aload_n 0, 1) := by decide +kernel
theorem dX6_putIn_21 : decode cX6_putIn 21 = .ok (.getfield 21, 3) := by decide +kernel
theorem dX6_putIn_24 : decode cX6_putIn 24 = .ok (.istore_n 3, 1) := by decide +kernel
theorem dX6_putIn_25 : decode cX6_putIn 25 = .ok (.iload_n 3, 1) := by decide +kernel
theorem dX6_putIn_26 : decode cX6_putIn 26 = .ok (.iload_n 1, 1) := by decide +kernel
theorem dX6_putIn_27 : decode cX6_putIn 27 = .ok (.if_icmp .le 23, 3) := by decide +kernel
theorem dX6_putIn_30 : decode cX6_putIn 30 = .ok (.aload_n 0, 1) := by decide +kernel
theorem dX6_putIn_31 : decode cX6_putIn 31 = .ok (.getfield 15, 3) := by decide +kernel
theorem dX6_putIn_34 : decode cX6_putIn 34 = .ok (.iload_n 3, 1) := by decide +kernel
theorem dX6_putIn_35 : decode cX6_putIn 35 = .ok (.aload_n 0, 1) := by decide +kernel
theorem dX6_putIn_36 : decode cX6_putIn 36 = .ok (.getfield 15, 3) := by decide +kernel
theorem dX6_putIn_39 : decode cX6_putIn 39 = .ok (.iload_n 3, 1) := by decide +kernel
theorem dX6_putIn_40 : decode cX6_putIn 40 = .ok (.iconst 1, 1) := by decide +kernel
theorem dX6_putIn_41 : decode cX6_putIn 41 = .ok (.isub, 1) := by decide +kernel
theorem dX6_putIn_42 : decode cX6_putIn 42 = .ok (.iaload, 1) := by decide +kernel
theorem dX6_putIn_43 : decode cX6_putIn 43 = .ok (.iastore, 1) := by decide +kernel
theorem dX6_putIn_44 : decode cX6_putIn 44 = .ok (.iinc 3 (-1), 3) := by decide +kernel
theorem dX6_putIn_47 : decode cX6_putIn 47 = .ok (.goto (-22), 3) := by decide +kernel
theorem dX6_putIn_50 : decode cX6_putIn 50 = .ok (.aload_n 0, 1) := by decide +kernel
theorem dX6_putIn_51 : decode cX6_putIn 51 = .ok (.getfield 15, 3) := by decide +kernel
theorem dX6_putIn_54 : decode cX6_putIn 54 = .ok (.iload_n 1, 1) := by decide +kernel
theorem dX6_putIn_55 : decode cX6_putIn 55 = .ok (.iload_n 2, 1) := by decide +kernel
theorem dX6_putIn_56 : decode cX6_putIn 56 = .ok (.iastore, 1) := by decide +kernel
theorem dX6_putIn_57 : decode cX6_putIn 57 = .ok (.aload_n 0, 1) := by decide +kernel
theorem dX6_putIn_58 : decode cX6_putIn 58 = .ok (.dup, 1) := by decide +kernel
theorem dX6_putIn_59 : decode cX6_putIn 59 = .ok (.getfield 21, 3) := by decide +kernel
theorem dX6_putIn_62 : decode cX6_putIn 62 = .ok (.iconst 1, 1) := by decide +kernel
theorem dX6_putIn_63 : decode cX6_putIn 63 = .ok (.iadd, 1) := by decide +kernel
theorem dX6_putIn_64 : decode cX6_putIn 64 = .ok (.putfield 21, 3) := by decide +kernel
theorem dX6_putIn_67 : decode cX6_putIn 67 = .ok (.return_, 1) := by decide +kernel
theorem dX6_takeOut_0 : decode cX6_takeOut 0 = .ok (.iload_n 1, 1) := by decide +kernel
theorem dX6_takeOut_1 : decode cX6_takeOut 1 = .ok (.ifCond .lt 23, 3) := by decide +kernel
theorem dX6_takeOut_4 : decode cX6_takeOut 4 = .ok (.iload_n 1, 1) := by decide +kernel
theorem dX6_takeOut_5 : decode cX6_takeOut 5 = .ok (.aload_n 0, 1) := by decide +kernel
theorem dX6_takeOut_6 : decode cX6_takeOut 6 = .ok (.getfield 21, 3) := by decide +kernel
theorem dX6_takeOut_9 : decode cX6_takeOut 9 = .ok (.if_icmp .ge 15, 3) := by decide +kernel
theorem dX6_takeOut_12 : decode cX6_takeOut 12 = .ok (.aload_n 0, 1) := by decide +kernel
theorem dX6_takeOut_13 : decode cX6_takeOut 13 = .ok (.getfield 21, 3) := by decide +kernel
theorem dX6_takeOut_16 : decode cX6_takeOut 16 = .ok (.aload_n 0, 1) := by decide +kernel
theorem dX6_takeOut_17 : decode cX6_takeOut 17 = .ok (.getfield 15, 3) := by decide +kernel
theorem dX6_takeOut_20 : decode cX6_takeOut 20 = .ok (.arraylength, 1) := by decide +kernel
theorem dX6_takeOut_21 : decode cX6_takeOut 21 = .ok (.if_icmp .le 6, 3) := by decide +kernel
theorem dX6_takeOut_24 : decode cX6_takeOut 24 = .ok (.bipush (-9), 2) := by decide +kernel
theorem dX6_takeOut_26 : decode cX6_takeOut 26 = .ok (.ireturn, 1) := by decide +kernel
theorem dX6_takeOut_27 : decode cX6_takeOut 27 = .ok (.aload_n 0, 1) := by decide +kernel
theorem dX6_takeOut_28 : decode cX6_takeOut 28 = .ok (.getfield 15, 3) := by decide +kernel
theorem dX6_takeOut_31 : decode cX6_takeOut 31 = .ok (.iload_n 1, 1) := by decide +kernel
theorem dX6_takeOut_32 : decode cX6_takeOut 32 = .ok (.iaload, 1) := by decide +kernel
theorem dX6_takeOut_33 : decode cX6_takeOut 33 = .ok (.istore_n 2, 1) := by decide +kernel
theorem dX6_takeOut_34 : decode cX6_takeOut 34 = .ok (.aload_n 0, 1) := by decide +kernel
theorem dX6_takeOut_35 : decode cX6_takeOut 35 = .ok (.dup, 1) := by decide +kernel
theorem dX6_takeOut_36 : decode cX6_takeOut 36 = .ok (.getfield 21, 3) := by decide +kernel
theorem dX6_takeOut_39 : decode cX6_takeOut 39 = .ok (.iconst 1, 1) := by decide +kernel
theorem dX6_takeOut_40 : decode cX6_takeOut 40 = .ok (.isub, 1) := by decide +kernel
theorem dX6_takeOut_41 : decode cX6_takeOut 41 = .ok (.putfield 21, 3) := by decide +kernel
theorem dX6_takeOut_44 : decode cX6_takeOut 44 = .ok (.iload_n 1, 1) := by decide +kernel
theorem dX6_takeOut_45 : decode cX6_takeOut 45 = .ok (.istore_n 3, 1) := by decide +kernel
theorem dX6_takeOut_46 : decode cX6_takeOut 46 = .ok (.iload_n 3, 1) := by decide +kernel
theorem dX6_takeOut_47 : decode cX6_takeOut 47 = .ok (.aload_n 0, 1) := by decide +kernel
theorem dX6_takeOut_48 : decode cX6_takeOut 48 = .ok (.getfield 21, 3) := by decide +kernel
theorem dX6_takeOut_51 : decode cX6_takeOut 51 = .ok (.if_icmp .ge 23, 3) := by decide +kernel
theorem dX6_takeOut_54 : decode cX6_takeOut 54 = .ok (.aload_n 0, 1) := by decide +kernel
theorem dX6_takeOut_55 : decode cX6_takeOut 55 = .ok (.getfield 15, 3) := by decide +kernel
theorem dX6_takeOut_58 : decode cX6_takeOut 58 = .ok (.iload_n 3, 1) := by decide +kernel
theorem dX6_takeOut_59 : decode cX6_takeOut 59 = .ok (.aload_n 0, 1) := by decide +kernel
theorem dX6_takeOut_60 : decode cX6_takeOut 60 = .ok (.getfield 15, 3) := by decide +kernel
theorem dX6_takeOut_63 : decode cX6_takeOut 63 = .ok (.iload_n 3, 1) := by decide +kernel
theorem dX6_takeOut_64 : decode cX6_takeOut 64 = .ok (.iconst 1, 1) := by decide +kernel
theorem dX6_takeOut_65 : decode cX6_takeOut 65 = .ok (.iadd, 1) := by decide +kernel
theorem dX6_takeOut_66 : decode cX6_takeOut 66 = .ok (.iaload, 1) := by decide +kernel
theorem dX6_takeOut_67 : decode cX6_takeOut 67 = .ok (.iastore, 1) := by decide +kernel
theorem dX6_takeOut_68 : decode cX6_takeOut 68 = .ok (.iinc 3 1, 3) := by decide +kernel
theorem dX6_takeOut_71 : decode cX6_takeOut 71 = .ok (.goto (-25), 3) := by decide +kernel
theorem dX6_takeOut_74 : decode cX6_takeOut 74 = .ok (.iload_n 2, 1) := by decide +kernel
theorem dX6_takeOut_75 : decode cX6_takeOut 75 = .ok (.ireturn, 1) := by decide +kernel
set_option maxRecDepth 20000 in
theorem ggX6_takeLast_X6_takeOut : GoodIn wsX6_takeLast wsX6_takeOut := goodIn_r _ [6, 1, 7, 8, 9] (by decide +kernel) (by decide +kernel)
set_option maxRecDepth 20000 in
theorem gX6_takeLast_X6_takeOut : GoodIn wsX6_takeLast (wsV RX6 37 RX6 yX6_takeOut wsX6_takeOut) := goodIn_app (goodIn_of _ (by decide +kernel)) ggX6_takeLast_X6_takeOut
theorem dX6_takeLast_0 : decode cX6_takeLast 0 = .ok (.aload_n 0, 1) := by decide +kernel
theorem dX6_takeLast_1 : decode cX6_takeLast 1 = .ok (.aload_n 0, 1) := by decide +kernel
theorem dX6_takeLast_2 : decode cX6_takeLast 2 = .ok (.getfield 21, 3) := by decide +kernel
theorem dX6_takeLast_5 : decode cX6_takeLast 5 = .ok (.iconst 1, 1) := by decide +kernel
theorem dX6_takeLast_6 : decode cX6_takeLast 6 = .ok (.isub, 1) := by decide +kernel
theorem dX6_takeLast_7 : decode cX6_takeLast 7 = .ok (.invokevirtual 37, 3) := by decide +kernel
theorem dX6_takeLast_10 : decode cX6_takeLast 10 = .ok (.ireturn, 1) := by decide +kernel
set_option maxRecDepth 20000 in
theorem ggX6_copy_X6_clear : GoodIn wsX6_copy wsX6_clear := goodIn_r _ [6, 1, 24, 25] (by decide +kernel) (by decide +kernel)
set_option maxRecDepth 20000 in
theorem gX6_copy_X6_clear : GoodIn wsX6_copy (wsV RX6 40 RX6 yX6_clear wsX6_clear) := goodIn_app (goodIn_of _ (by decide +kernel)) ggX6_copy_X6_clear
set_option maxRecDepth 20000 in
theorem ggX6_copy_X6_at : GoodIn wsX6_copy wsX6_at := goodIn_r _ [10, 1, 11, 24, 25] (by decide +kernel) (by decide +kernel)
set_option maxRecDepth 20000 in
theorem gX6_copy_X6_at : GoodIn wsX6_copy (wsV RX6 25 RX6 yX6_at wsX6_at) := goodIn_app (goodIn_of _ (by decide +kernel)) ggX6_copy_X6_at
set_option maxRecDepth 20000 in
theorem ggX6_copy_X6_add : GoodIn wsX6_copy wsX6_add := goodIn_r _ [15, 1, 16, 17, 18, 5, 19, 11, 20, 21, 22, 23, 24, 25] (by decide +kernel) (by decide +kernel)
set_option maxRecDepth 20000 in
theorem gX6_copy_X6_add : GoodIn wsX6_copy (wsV RX6 43 RX6 yX6_add wsX6_add) := goodIn_app (goodIn_of _ (by decide +kernel)) ggX6_copy_X6_add
theorem dX6_copy_0 : decode cX6_copy 0 = .ok (.aload_n 0, 1) := by decide +kernel
theorem dX6_copy_1 : decode cX6_copy 1 = .ok (.invokevirtual 40, 3) := by decide +kernel
theorem dX6_copy_4 : decode cX6_copy 4 = .ok (.iconst 0, 1) := by decide +kernel
theorem dX6_copy_5 : decode cX6_copy 5 = .ok (.istore_n 2, 1) := by decide +kernel
theorem dX6_copy_6 : decode cX6_copy 6 = .ok (.iload_n 2, 1) := by decide +kernel
theorem dX6_copy_7 : decode cX6_copy 7 = .ok (.aload_n 1, 1) := by decide +kernel
theorem dX6_copy_8 : decode cX6_copy 8 = .ok (.getfield 21, 3) := by decide +kernel
theorem dX6_copy_11 : decode cX6_copy 11 = .ok (.if_icmp .ge 18, 3) := by decide +kernel
theorem dX6_copy_14 : decode cX6_copy 14 = .ok (.aload_n 0, 1) := by decide +kernel
theorem dX6_copy_15 : decode cX6_copy 15 = .ok (.aload_n 1, 1) := by decide +kernel
theorem dX6_copy_16 : decode cX6_copy 16 = .ok (.iload_n 2, 1) := by decide +kernel
theorem dX6_copy_17 : decode cX6_copy 17 = .ok (.invokevirtual 25, 3) := by decide +kernel
theorem dX6_copy_20 : decode cX6_copy 20 = .ok (.invokevirtual 43, 3) := by decide +kernel
theorem dX6_copy_23 : decode cX6_copy 23 = .ok (.iinc 2 1, 3) := by decide +kernel
theorem dX6_copy_26 : decode cX6_copy 26 = .ok (.goto (-20), 3) := by decide +kernel
theorem dX6_copy_29 : decode cX6_copy 29 = .ok (.return_, 1) := by decide +kernel
set_option maxRecDepth 20000 in
theorem ggX7_init_X6_init : GoodIn wsX7_init wsX6_init := goodIn_r _ [11, 12, 2, 3, 13, 14, 15, 16, 17, 18, 19, 20] (by decide +kernel) (by decide +kernel)
set_option maxRecDepth 20000 in
theorem gX7_init_X6_init : GoodIn wsX7_init (wsX6_init) := ggX7_init_X6_init
theorem dX7_init_0 : decode cX7_init 0 = .ok (.aload_n 0, 1) := by decide +kernel
theorem dX7_init_1 : decode cX7_init 1 = .ok (.invokespecial 3, 3) := by decide +kernel
theorem dX7_init_4 : decode cX7_init 4 = .ok (.aload_n 0, 1) := by decide +kernel
theorem dX7_init_5 : decode cX7_init 5 = .ok (.new 9, 3) := by decide +kernel
theorem dX7_init_8 : decode cX7_init 8 = .ok (.dup, 1) := by decide +kernel
theorem dX7_init_9 : decode cX7_init 9 = .ok (.bipush 8, 2) := by decide +kernel
theorem dX7_init_11 : decode cX7_init 11 = .ok (.invokespecial 11, 3) := by decide +kernel
theorem dX7_init_14 : decode cX7_init 14 = .ok (.putfield 14, 3) := by decide +kernel
theorem dX7_init_17 : decode cX7_init 17 = .ok (.aload_n 0, 1) := by decide +kernel
theorem dX7_init_18 : decode cX7_init 18 = .ok (.new 9, 3) := by decide +kernel
theorem dX7_init_21 : decode cX7_init 21 = .ok (.dup, 1) := by decide +kernel
theorem dX7_init_22 : decode cX7_init 22 = .ok (.sipush 128, 3) := by decide +kernel
theorem dX7_init_25 : decode cX7_init 25 = .ok (.invokespecial 11, 3) := by decide +kernel
theorem dX7_init_28 : decode cX7_init 28 = .ok (.putfield 20, 3) := by decide +kernel
theorem dX7_init_31 : decode cX7_init 31 = .ok (.return_, 1) := by decide +kernel
set_option maxRecDepth 20000 in
theorem ggX7_find_X6_clear : GoodIn wsX7_find wsX6_clear := goodIn_r _ [7, 8, 91, 92] (by decide +kernel) (by decide +kernel)
set_option maxRecDepth 20000 in
theorem gX7_find_X6_clear : GoodIn wsX7_find (wsV RX7 23 RX6 yX6_clear wsX6_clear) := goodIn_app (goodIn_of _ (by decide +kernel)) ggX7_find_X6_clear
set_option maxRecDepth 20000 in
theorem ggX7_find_X6_add : GoodIn wsX7_find wsX6_add := goodIn_r _ [12, 8, 13, 14, 15, 6, 16, 17, 18, 19, 20, 21, 91, 92] (by decide +kernel) (by decide +kernel)
set_option maxRecDepth 20000 in
theorem gX7_find_X6_add : GoodIn wsX7_find (wsV RX7 26 RX6 yX6_add wsX6_add) := goodIn_app (goodIn_of _ (by decide +kernel)) ggX7_find_X6_add
set_option maxRecDepth 20000 in
theorem ggX7_find_X5_only : GoodIn wsX7_find wsX5_only := goodIn_r _ [25] (by decide +kernel) (by decide +kernel)
set_option maxRecDepth 20000 in
theorem gX7_find_X5_only : GoodIn wsX7_find (va_wsS RX7 29 yX5_only wsX5_only) := goodIn_app (goodIn_of _ (by decide +kernel)) ggX7_find_X5_only
set_option maxRecDepth 20000 in
theorem ggX7_find_X7_fill : GoodIn wsX7_find wsX7_fill := goodIn_r _ [29, 2, 1, 30, 31, 32, 6, 33, 8, 34, 35, 36, 37, 17, 38, 39, 40, 41, 42, 43, 44, 45, 24, 46, 47, 48, 49, 50, 51, 52, 53, 54, 55, 56, 57, 58, 59, 60, 61, 62, 63, 64, 23, 25, 65, 66, 67, 68, 69, 70, 71, 72, 73, 74, 75, 76, 77, 78, 79, 80, 9, 10, 11, 12, 13, 14, 15, 16, 18, 19, 20, 21, 22, 26, 27, 28, 81, 82, 83, 84, 85, 86, 87, 88, 93, 94, 95, 96, 89, 90, 91, 92] (by decide +kernel) (by decide +kernel)
set_option maxRecDepth 20000 in
theorem gX7_find_X7_fill : GoodIn wsX7_find (va_wsS RX7 35 yX7_fill wsX7_fill) := goodIn_app (goodIn_of _ (by decide +kernel)) ggX7_find_X7_fill
theorem dX7_find_0 : decode cX7_find 0 = .ok (.aload_n 0, 1) := by decide +kernel
theorem dX7_find_1 : decode cX7_find 1 = .ok (.getfield 14, 3) := by decide +kernel
theorem dX7_find_4 : decode cX7_find 4 = .ok (.invokevirtual 23, 3) := by decide +kernel
theorem dX7_find_7 : decode cX7_find 7 = .ok (.aload_n 0, 1) := by decide +kernel
theorem dX7_find_8 : decode cX7_find 8 = .ok (.getfield 20, 3) := by decide +kernel
theorem dX7_find_11 : decode cX7_find 11 = .ok (.invokevirtual 23, 3) := by decide +kernel
theorem dX7_find_14 : decode cX7_find 14 = .ok (.aload_n 0, 1) := by decide +kernel
theorem dX7_find_15 : decode cX7_find 15 = .ok (.getfield 14, 3) := by decide +kernel
theorem dX7_find_18 : decode cX7_find 18 = .ok (.iconst 0, 1) := by decide +kernel
theorem dX7_find_19 : decode cX7_find 19 = .ok (.invokevirtual 26, 3) := by decide +kernel
theorem dX7_find_22 : decode cX7_find 22 = .ok (.aload_n 0, 1) := by decide +kernel
theorem dX7_find_23 : decode cX7_find 23 = .ok (.aload_n 1, 1) := by decide +kernel
theorem dX7_find_24 : decode cX7_find 24 = .ok (.iconst 0, 1) := by decide +kernel
theorem dX7_find_25 : decode cX7_find 25 = .ok (.invokestatic 29, 3) := by decide +kernel
theorem dX7_find_28 : decode cX7_find 28 = .ok (.iconst 1, 1) := by decide +kernel
theorem dX7_find_29 : decode cX7_find 29 = .ok (.invokestatic 35, 3) := by decide +kernel
theorem dX7_find_32 : decode cX7_find 32 = .ok (.pop, 1) := by decide +kernel
theorem dX7_find_33 : decode cX7_find 33 = .ok (.return_, 1) := by decide +kernel
set_option maxRecDepth 20000 in
theorem ggX7_knotAt_X6_at : GoodIn wsX7_knotAt wsX6_at := goodIn_r _ [6, 7, 8, 11, 12] (by decide +kernel) (by decide +kernel)
set_option maxRecDepth 20000 in
theorem gX7_knotAt_X6_at : GoodIn wsX7_knotAt (wsV RX7 39 RX6 yX6_at wsX6_at) := goodIn_app (goodIn_of _ (by decide +kernel)) ggX7_knotAt_X6_at
theorem dX7_knotAt_0 : decode cX7_knotAt 0 = .ok (.aload_n 0, 1) := by decide +kernel
theorem dX7_knotAt_1 : decode cX7_knotAt 1 = .ok (.getfield 14, 3) := by decide +kernel
theorem dX7_knotAt_4 : decode cX7_knotAt 4 = .ok (.iload_n 1, 1) := by decide +kernel
theorem dX7_knotAt_5 : decode cX7_knotAt 5 = .ok (.invokevirtual 39, 3) := by decide +kernel
theorem dX7_knotAt_8 : decode cX7_knotAt 8 = .ok (.ireturn, 1) := by decide +kernel
set_option maxRecDepth 20000 in
theorem ggX7_fill_X6_placeOf : GoodIn wsX7_fill wsX6_placeOf := goodIn_r _ [7, 8, 9, 10, 11, 6, 12, 13, 90, 91] (by decide +kernel) (by decide +kernel)
set_option maxRecDepth 20000 in
theorem gX7_fill_X6_placeOf : GoodIn wsX7_fill (wsV RX7 48 RX6 yX6_placeOf wsX6_placeOf) := goodIn_app (goodIn_of _ (by decide +kernel)) ggX7_fill_X6_placeOf
set_option maxRecDepth 20000 in
theorem ggX7_fill_X2_nextBehind : GoodIn wsX7_fill wsX2_nextBehind := goodIn_r _ [18, 19, 20, 21, 22, 23, 24, 25, 26, 17, 27, 28, 29, 30, 31, 32, 33, 34, 35, 36, 37, 38, 39, 40, 41, 42, 43, 44, 45, 46, 47, 84, 85, 86, 87] (by decide +kernel) (by decide +kernel)
set_option maxRecDepth 20000 in
theorem gX7_fill_X2_nextBehind : GoodIn wsX7_fill (wsV RX7 51 RX2 yX2_nextBehind wsX2_nextBehind) := goodIn_app (goodIn_of _ (by decide +kernel)) ggX7_fill_X2_nextBehind
set_option maxRecDepth 20000 in
theorem ggX7_fill_X5_isIn : GoodIn wsX7_fill wsX5_isIn := goodIn_r _ [23] (by decide +kernel) (by decide +kernel)
set_option maxRecDepth 20000 in
theorem gX7_fill_X5_isIn : GoodIn wsX7_fill (va_wsS RX7 54 yX5_isIn wsX5_isIn) := goodIn_app (goodIn_of _ (by decide +kernel)) ggX7_fill_X5_isIn
set_option maxRecDepth 20000 in
theorem ggX7_fill_X2_isShown : GoodIn wsX7_fill wsX2_isShown := goodIn_r _ [52, 53, 19, 54, 55, 22, 56, 57, 30, 31, 58, 21, 23, 59, 42, 43, 24, 25, 26, 17, 27, 28, 29, 32, 33, 34, 35, 36, 37, 38, 39, 40, 41, 44, 45, 46, 47, 20, 84, 85, 86, 87] (by decide +kernel) (by decide +kernel)
set_option maxRecDepth 20000 in
theorem gX7_fill_X2_isShown : GoodIn wsX7_fill (wsV RX7 58 RX2 yX2_isShown wsX2_isShown) := goodIn_app (goodIn_of _ (by decide +kernel)) ggX7_fill_X2_isShown
set_option maxRecDepth 20000 in
theorem ggX7_fill_X6_add : GoodIn wsX7_fill wsX6_add := goodIn_r _ [63, 8, 64, 65, 66, 6, 67, 13, 68, 69, 70, 71, 90, 91] (by decide +kernel) (by decide +kernel)
set_option maxRecDepth 20000 in
theorem gX7_fill_X6_add : GoodIn wsX7_fill (wsV RX7 26 RX6 yX6_add wsX6_add) := goodIn_app (goodIn_of _ (by decide +kernel)) ggX7_fill_X6_add
set_option maxRecDepth 20000 in
theorem ggX7_fill_X5_only : GoodIn wsX7_fill wsX5_only := goodIn_r _ [43] (by decide +kernel) (by decide +kernel)
set_option maxRecDepth 20000 in
theorem gX7_fill_X5_only : GoodIn wsX7_fill (va_wsS RX7 29 yX5_only wsX5_only) := goodIn_app (goodIn_of _ (by decide +kernel)) ggX7_fill_X5_only
set_option maxRecDepth 20000 in
theorem ggX7_fill_X7_fill : GoodIn wsX7_fill wsX7_fill := goodIn_r _ [0, 1, 2, 3, 4, 5, 6, 7, 8, 9, 10, 11, 12, 13, 14, 15, 16, 17, 18, 19, 20, 21, 22, 23, 24, 25, 26, 27, 28, 29, 30, 31, 32, 33, 34, 35, 36, 37, 38, 39, 40, 41, 42, 43, 44, 45, 46, 47, 48, 49, 50, 51, 52, 53, 54, 55, 56, 57, 58, 59, 60, 61, 62, 63, 64, 65, 66, 67, 68, 69, 70, 71, 72, 73, 74, 75, 76, 77, 78, 79, 80, 81, 82, 83, 84, 85, 86, 87, 88, 89, 90, 91] (by decide +kernel) (by decide +kernel)
set_option maxRecDepth 20000 in
theorem gX7_fill_X7_fill : GoodIn wsX7_fill (va_wsS RX7 35 yX7_fill wsX7_fill) := goodIn_app (goodIn_of _ (by decide +kernel)) ggX7_fill_X7_fill
set_option maxRecDepth 20000 in
theorem ggX7_fill_X6_takeLast : GoodIn wsX7_fill wsX6_takeLast := goodIn_r _ [79, 8, 80, 81, 82, 6, 83, 13, 90, 91] (by decide +kernel) (by decide +kernel)
set_option maxRecDepth 20000 in
theorem gX7_fill_X6_takeLast : GoodIn wsX7_fill (wsV RX7 61 RX6 yX6_takeLast wsX6_takeLast) := goodIn_app (goodIn_of _ (by decide +kernel)) ggX7_fill_X6_takeLast
theorem dX7_fill_0 : decode cX7_fill 0 = .ok (.iload_n 2, 1) := by decide +kernel
theorem dX7_fill_1 : decode cX7_fill 1 = .ok (.aload_n 1, 1) := by decide +kernel
theorem dX7_fill_2 : decode cX7_fill 2 = .ok (.getfield 42, 3) := by decide +kernel
theorem dX7_fill_5 : decode cX7_fill 5 = .ok (.if_icmp .ne 5, 3) := by decide +kernel
theorem dX7_fill_8 : decode cX7_fill 8 = .ok (.iconst 1, 1) := by decide +kernel
theorem dX7_fill_9 : decode cX7_fill 9 = .ok (.ireturn, 1) := by decide +kernel
theorem dX7_fill_10 : decode cX7_fill 10 = .ok (.iload_n 3, 1) := by decide +kernel
theorem dX7_fill_11 : decode cX7_fill 11 = .ok (.bipush 8, 2) := by decide +kernel
theorem dX7_fill_13 : decode cX7_fill 13 = .ok (.if_icmp .ge 16, 3) := by decide +kernel
theorem dX7_fill_16 : decode cX7_fill 16 = .ok (.aload_n 0, 1) := by decide +kernel
theorem dX7_fill_17 : decode cX7_fill 17 = .ok (.getfield 20, 3) := by decide +kernel
theorem dX7_fill_20 : decode cX7_fill 20 = .ok (.iload_n 2, 1) := by decide +kernel
theorem dX7_fill_21 : decode cX7_fill 21 = .ok (.invokevirtual 48, 3) := by decide +kernel
theorem dX7_fill_24 : decode cX7_fill 24 = .ok (.bipush (-9), 2) := by decide +kernel
theorem dX7_fill_26 : decode cX7_fill 26 = .ok (.if_icmp .eq 5, 3) := by decide +kernel
theorem dX7_fill_29 : decode cX7_fill 29 = .ok (.iconst 0, 1) := by decide +kernel
theorem dX7_fill_30 : decode cX7_fill 30 = .ok (.ireturn, 1) := by decide +kernel
theorem dX7_fill_31 : decode cX7_fill 31 = .ok (.aload_n 1, 1) := by decide +kernel
theorem dX7_fill_32 : decode cX7_fill 32 = .ok (.iload_n 2, 1) := by decide +kernel
theorem dX7_fill_33 : decode cX7_fill 33 = .ok (.invokevirtual 51, 3) := by decide +kernel
theorem dX7_fill_36 : decode cX7_fill 36 = .ok (.istore 4, 2) := by decide +kernel
theorem dX7_fill_38 : decode cX7_fill 38 = .ok (.iconst 0, 1) := by decide +kernel
theorem dX7_fill_39 : decode cX7_fill 39 = .ok (.istore 5, 2) := by decide +kernel
theorem dX7_fill_41 : decode cX7_fill 41 = .ok (.iload 5, 2) := by decide +kernel
theorem dX7_fill_43 : decode cX7_fill 43 = .ok (.bipush 8, 2) := by decide +kernel
theorem dX7_fill_45 : decode cX7_fill 45 = .ok (.if_icmp .ge 66, 3) := by decide +kernel
theorem dX7_fill_48 : decode cX7_fill 48 = .ok (.iload 4, 2) := by decide +kernel
theorem dX7_fill_50 : decode cX7_fill 50 = .ok (.iload 5, 2) := by decide +kernel
theorem dX7_fill_52 : decode cX7_fill 52 = .ok (.invokestatic 54, 3) := by decide +kernel
theorem dX7_fill_55 : decode cX7_fill 55 = .ok (.ifCond .eq 50, 3) := by decide +kernel
theorem dX7_fill_58 : decode cX7_fill 58 = .ok (.aload_n 1, 1) := by decide +kernel
theorem dX7_fill_59 : decode cX7_fill 59 = .ok (.iload 5, 2) := by decide +kernel
theorem dX7_fill_61 : decode cX7_fill 61 = .ok (.iload_n 2, 1) := by decide +kernel
theorem dX7_fill_62 : decode cX7_fill 62 = .ok (.invokevirtual 58, 3) := by decide +kernel
theorem dX7_fill_65 : decode cX7_fill 65 = .ok (.ifCond .eq 40, 3) := by decide +kernel
theorem dX7_fill_68 : decode cX7_fill 68 = .ok (.aload_n 0, 1) := by decide +kernel
theorem dX7_fill_69 : decode cX7_fill 69 = .ok (.getfield 14, 3) := by decide +kernel
theorem dX7_fill_72 : decode cX7_fill 72 = .ok (.iload 5, 2) := by decide +kernel
theorem dX7_fill_74 : decode cX7_fill 74 = .ok (.invokevirtual 26, 3) := by decide +kernel
theorem dX7_fill_77 : decode cX7_fill 77 = .ok (.aload_n 0, 1) := by decide +kernel
theorem dX7_fill_78 : decode cX7_fill 78 = .ok (.aload_n 1, 1) := by decide +kernel
theorem dX7_fill_79 : decode cX7_fill 79 = .ok (.iload_n 2, 1) := by decide +kernel
theorem dX7_fill_80 : decode cX7_fill 80 = .ok (.iload 5, 2) := by decide +kernel
theorem dX7_fill_82 : decode cX7_fill 82 = .ok (.invokestatic 29, 3) := by decide +kernel
theorem dX7_fill_85 : decode cX7_fill 85 = .ok (.ior, 1) := by decide +kernel
theorem dX7_fill_86 : decode cX7_fill 86 = .ok (.iload_n 3, 1) := by decide +kernel
theorem dX7_fill_87 : decode cX7_fill 87 = .ok (.iconst 1, 1) := by decide +kernel
theorem dX7_fill_88 : decode cX7_fill 88 = .ok (.iadd, 1) := by decide +kernel
theorem dX7_fill_89 : decode cX7_fill 89 = .ok (.invokestatic 35, 3) := by decide +kernel
theorem dX7_fill_92 : decode cX7_fill 92 = .ok (.ifCond .eq 5, 3) := by decide +kernel
theorem dX7_fill_95 : decode cX7_fill 95 = .ok (.iconst 1, 1) := by decide +kernel
theorem dX7_fill_96 : decode cX7_fill 96 = .ok (.ireturn, 1) := by decide +kernel
theorem dX7_fill_97 : decode cX7_fill 97 = .ok (.aload_n 0, 1) := by decide +kernel
theorem dX7_fill_98 : decode cX7_fill 98 = .ok (.getfield 14, 3) := by decide +kernel
theorem dX7_fill_101 : decode cX7_fill 101 = .ok (.invokevirtual 61, 3) := by decide +kernel
theorem dX7_fill_104 : decode cX7_fill 104 = .ok (.pop, 1) := by decide +kernel
theorem dX7_fill_105 : decode cX7_fill 105 = .ok (.iinc 5 1, 3) := by decide +kernel
theorem dX7_fill_108 : decode cX7_fill 108 = .ok (.goto (-67), 3) := by decide +kernel
theorem dX7_fill_111 : decode cX7_fill 111 = .ok (.aload_n 0, 1) := by decide +kernel
theorem dX7_fill_112 : decode cX7_fill 112 = .ok (.getfield 20, 3) := by decide +kernel
theorem dX7_fill_115 : decode cX7_fill 115 = .ok (.iload_n 2, 1) := by decide +kernel
theorem dX7_fill_116 : decode cX7_fill 116 = .ok (.invokevirtual 26, 3) := by decide +kernel
theorem dX7_fill_119 : decode cX7_fill 119 = .ok (.iconst 0, 1) := by decide +kernel
theorem dX7_fill_120 : decode cX7_fill 120 = .ok (.ireturn, 1) := by decide +kernel
set_option maxRecDepth 20000 in
theorem ggX8_init_X6_init : GoodIn wsX8_init wsX6_init := goodIn_r _ [10, 11, 2, 3, 12, 13, 14, 15, 16, 17, 18, 19] (by decide +kernel) (by decide +kernel)
set_option maxRecDepth 20000 in
theorem gX8_init_X6_init : GoodIn wsX8_init (wsX6_init) := ggX8_init_X6_init
theorem dX8_init_0 : decode cX8_init 0 = .ok (.aload_n 0, 1) := by decide +kernel
theorem dX8_init_1 : decode cX8_init 1 = .ok (.invokespecial 3, 3) := by decide +kernel
theorem dX8_init_4 : decode cX8_init 4 = .ok (.aload_n 0, 1) := by decide +kernel
theorem dX8_init_5 : decode cX8_init 5 = .ok (.new 9, 3) := by decide +kernel
theorem dX8_init_8 : decode cX8_init 8 = .ok (.dup, 1) := by decide +kernel
theorem dX8_init_9 : decode cX8_init 9 = .ok (.bipush 64, 2) := by decide +kernel
theorem dX8_init_11 : decode cX8_init 11 = .ok (.invokespecial 11, 3) := by decide +kernel
theorem dX8_init_14 : decode cX8_init 14 = .ok (.putfield 14, 3) := by decide +kernel
theorem dX8_init_17 : decode cX8_init 17 = .ok (.return_, 1) := by decide +kernel
set_option maxRecDepth 20000 in
theorem ggX8_length_X6_size : GoodIn wsX8_length wsX6_size := goodIn_r _ [6, 7, 9, 10] (by decide +kernel) (by decide +kernel)
set_option maxRecDepth 20000 in
theorem gX8_length_X6_size : GoodIn wsX8_length (wsV RX8 20 RX6 yX6_size wsX6_size) := goodIn_app (goodIn_of _ (by decide +kernel)) ggX8_length_X6_size
theorem dX8_length_0 : decode cX8_length 0 = .ok (.aload_n 0, 1) := by decide +kernel
theorem dX8_length_1 : decode cX8_length 1 = .ok (.getfield 14, 3) := by decide +kernel
theorem dX8_length_4 : decode cX8_length 4 = .ok (.invokevirtual 20, 3) := by decide +kernel
theorem dX8_length_7 : decode cX8_length 7 = .ok (.ireturn, 1) := by decide +kernel
set_option maxRecDepth 20000 in
theorem ggX8_isFull_X6_isFull : GoodIn wsX8_isFull wsX6_isFull := goodIn_r _ [6, 7, 8, 10, 11] (by decide +kernel) (by decide +kernel)
set_option maxRecDepth 20000 in
theorem gX8_isFull_X6_isFull : GoodIn wsX8_isFull (wsV RX8 24 RX6 yX6_isFull wsX6_isFull) := goodIn_app (goodIn_of _ (by decide +kernel)) ggX8_isFull_X6_isFull
theorem dX8_isFull_0 : decode cX8_isFull 0 = .ok (.aload_n 0, 1) := by decide +kernel
theorem dX8_isFull_1 : decode cX8_isFull 1 = .ok (.getfield 14, 3) := by decide +kernel
theorem dX8_isFull_4 : decode cX8_isFull 4 = .ok (.invokevirtual 24, 3) := by decide +kernel
theorem dX8_isFull_7 : decode cX8_isFull 7 = .ok (.ireturn, 1) := by decide +kernel
set_option maxRecDepth 20000 in
theorem ggX8_add_X6_add : GoodIn wsX8_add wsX6_add := goodIn_r _ [6, 7, 8, 9, 10, 5, 11, 12, 13, 14, 15, 16, 18, 19] (by decide +kernel) (by decide +kernel)
set_option maxRecDepth 20000 in
theorem gX8_add_X6_add : GoodIn wsX8_add (wsV RX8 28 RX6 yX6_add wsX6_add) := goodIn_app (goodIn_of _ (by decide +kernel)) ggX8_add_X6_add
theorem dX8_add_0 : decode cX8_add 0 = .ok (.aload_n 0, 1) := by decide +kernel
theorem dX8_add_1 : decode cX8_add 1 = .ok (.getfield 14, 3) := by decide +kernel
theorem dX8_add_4 : decode cX8_add 4 = .ok (.iload_n 1, 1) := by decide +kernel
theorem dX8_add_5 : decode cX8_add 5 = .ok (.invokevirtual 28, 3) := by decide +kernel
theorem dX8_add_8 : decode cX8_add 8 = .ok (.return_, 1) := by decide +kernel
set_option maxRecDepth 20000 in
theorem ggX8_clear_X6_clear : GoodIn wsX8_clear wsX6_clear := goodIn_r _ [6, 7, 9, 10] (by decide +kernel) (by decide +kernel)
set_option maxRecDepth 20000 in
theorem gX8_clear_X6_clear : GoodIn wsX8_clear (wsV RX8 31 RX6 yX6_clear wsX6_clear) := goodIn_app (goodIn_of _ (by decide +kernel)) ggX8_clear_X6_clear
theorem dX8_clear_0 : decode cX8_clear 0 = .ok (.aload_n 0, 1) := by decide +kernel
theorem dX8_clear_1 : decode cX8_clear 1 = .ok (.getfield 14, 3) := by decide +kernel
theorem dX8_clear_4 : decode cX8_clear 4 = .ok (.invokevirtual 31, 3) := by decide +kernel
theorem dX8_clear_7 : decode cX8_clear 7 = .ok (.return_, 1) := by decide +kernel
set_option maxRecDepth 20000 in
theorem ggX8_firstFault_X8_length : GoodIn wsX8_firstFault wsX8_length := goodIn_r _ [5, 6, 7, 8, 9, 10, 11, 12, 53, 54, 55] (by decide +kernel) (by decide +kernel)
set_option maxRecDepth 20000 in
theorem gX8_firstFault_X8_length : GoodIn wsX8_firstFault (wsV RX8 34 RX8 yX8_length wsX8_length) := goodIn_app (goodIn_of _ (by decide +kernel)) ggX8_firstFault_X8_length
set_option maxRecDepth 20000 in
theorem ggX8_firstFault_X8_fits : GoodIn wsX8_firstFault wsX8_fits := goodIn_r _ [16, 6, 17, 18, 19, 10, 20, 12, 21, 22, 23, 24, 4, 25, 26, 27, 28, 29, 30, 31, 32, 33, 34, 35, 36, 37, 38, 39, 40, 41, 42, 43, 44, 45, 46, 47, 48, 49, 53, 54, 55] (by decide +kernel) (by decide +kernel)
set_option maxRecDepth 20000 in
theorem gX8_firstFault_X8_fits : GoodIn wsX8_firstFault (wsV RX8 37 RX8 yX8_fits wsX8_fits) := goodIn_app (goodIn_of _ (by decide +kernel)) ggX8_firstFault_X8_fits
set_option maxRecDepth 20000 in
theorem ggX8_firstFault_X8_isSecondFigure : GoodIn wsX8_firstFault wsX8_isSecondFigure := goodIn_r _ [28] (by decide +kernel) (by decide +kernel)
set_option maxRecDepth 20000 in
theorem gX8_firstFault_X8_isSecondFigure : GoodIn wsX8_firstFault (va_wsS RX8 41 yX8_isSecondFigure wsX8_isSecondFigure) := goodIn_app (goodIn_of _ (by decide +kernel)) ggX8_firstFault_X8_isSecondFigure
set_option maxRecDepth 20000 in
theorem ggX8_firstFault_X8_figureAt : GoodIn wsX8_firstFault wsX8_figureAt := goodIn_r _ [25, 6, 17, 18, 19, 10, 20, 12, 21, 53, 54, 55] (by decide +kernel) (by decide +kernel)
set_option maxRecDepth 20000 in
theorem gX8_firstFault_X8_figureAt : GoodIn wsX8_firstFault (wsV RX8 45 RX8 yX8_figureAt wsX8_figureAt) := goodIn_app (goodIn_of _ (by decide +kernel)) ggX8_firstFault_X8_figureAt
set_option maxRecDepth 20000 in
theorem ggX8_firstFault_X5_flipped : GoodIn wsX8_firstFault wsX5_flipped := goodIn_r _ [52] (by decide +kernel) (by decide +kernel)
set_option maxRecDepth 20000 in
theorem gX8_firstFault_X5_flipped : GoodIn wsX8_firstFault (va_wsS RX8 49 yX5_flipped wsX5_flipped) := goodIn_app (goodIn_of _ (by decide +kernel)) ggX8_firstFault_X5_flipped
theorem dX8_firstFault_0 : decode cX8_firstFault 0 = .ok (.lconst 0, 1) := by decide +kernel
theorem dX8_firstFault_1 : decode cX8_firstFault 1 = .ok (.lstore_n 1, 1) := by decide +kernel
theorem dX8_firstFault_2 : decode cX8_firstFault 2 = .ok (.iconst 0, 1) := by decide +kernel
theorem dX8_firstFault_3 : decode cX8_firstFault 3 = .ok (.istore_n 3, 1) := by decide +kernel
theorem dX8_firstFault_4 : decode cX8_firstFault 4 = .ok (.iload_n 3, 1) := by decide +kernel
theorem dX8_firstFault_5 : decode cX8_firstFault 5 = .ok (.aload_n 0, 1) := by decide +kernel
theorem dX8_firstFault_6 : decode cX8_firstFault 6 = .ok (.invokevirtual 34, 3) := by decide +kernel
theorem dX8_firstFault_9 : decode cX8_firstFault 9 = .ok (.if_icmp .ge 44, 3) := by decide +kernel
theorem dX8_firstFault_12 : decode cX8_firstFault 12 = .ok (.aload_n 0, 1) := by decide +kernel
theorem dX8_firstFault_13 : decode cX8_firstFault 13 = .ok (.iload_n 3, 1) := by decide +kernel
theorem dX8_firstFault_14 : decode cX8_firstFault 14 = .ok (.lload_n 1, 1) := by decide +kernel
theorem dX8_firstFault_15 : decode cX8_firstFault 15 = .ok (.invokevirtual 37, 3) := by decide +kernel
theorem dX8_firstFault_18 : decode cX8_firstFault 18 = .ok (.ifCond .ne 5, 3) := by decide +kernel
theorem dX8_firstFault_21 : decode cX8_firstFault 21 = .ok (.iload_n 3, 1) := by decide +kernel
theorem dX8_firstFault_22 : decode cX8_firstFault 22 = .ok (.ireturn, 1) := by decide +kernel
theorem dX8_firstFault_23 : decode cX8_firstFault 23 = .ok (.iload_n 3, 1) := by decide +kernel
theorem dX8_firstFault_24 : decode cX8_firstFault 24 = .ok (.invokestatic 41, 3) := by decide +kernel
theorem dX8_firstFault_27 : decode cX8_firstFault 27 = .ok (.ifCond .eq 20, 3) := by decide +kernel
theorem dX8_firstFault_30 : decode cX8_firstFault 30 = .ok (.lload_n 1, 1) := by decide +kernel
theorem dX8_firstFault_31 : decode cX8_firstFault 31 = .ok (.aload_n 0, 1) := by decide +kernel
theorem dX8_firstFault_32 : decode cX8_firstFault 32 = .ok (.iload_n 3, 1) := by decide +kernel
theorem dX8_firstFault_33 : decode cX8_firstFault 33 = .ok (.iconst 1, 1) := by decide +kernel
theorem dX8_firstFault_34 : decode cX8_firstFault 34 = .ok (.isub, 1) := by decide +kernel
theorem dX8_firstFault_35 : decode cX8_firstFault 35 = .ok (.invokevirtual 45, 3) := by decide +kernel
theorem dX8_firstFault_38 : decode cX8_firstFault 38 = .ok (.aload_n 0, 1) := by decide +kernel
theorem dX8_firstFault_39 : decode cX8_firstFault 39 = .ok (.iload_n 3, 1) := by decide +kernel
theorem dX8_firstFault_40 : decode cX8_firstFault 40 = .ok (.invokevirtual 45, 3) := by decide +kernel
theorem dX8_firstFault_43 : decode cX8_firstFault 43 = .ok (.invokestatic 49, 3) := by decide +kernel
theorem dX8_firstFault_46 : decode cX8_firstFault 46 = .ok (.lstore_n 1, 1) := by decide +kernel
theorem dX8_firstFault_47 : decode cX8_firstFault 47 = .ok (.iinc 3 1, 3) := by decide +kernel
theorem dX8_firstFault_50 : decode cX8_firstFault 50 = .ok (.goto (-46), 3) := by decide +kernel
theorem dX8_firstFault_53 : decode cX8_firstFault 53 = .ok (.aload_n 0, 1) := by decide +kernel
theorem dX8_firstFault_54 : decode cX8_firstFault 54 = .ok (.invokevirtual 34, 3) := by decide +kernel
theorem dX8_firstFault_57 : decode cX8_firstFault 57 = .ok (.iconst 2, 1) := by decide +kernel
theorem dX8_firstFault_58 : decode cX8_firstFault 58 = .ok (.if_icmp .lt 16, 3) := by decide +kernel
theorem dX8_firstFault_61 : decode cX8_firstFault 61 = .ok (.aload_n 0, 1) := by decide +kernel
theorem dX8_firstFault_62 : decode cX8_firstFault 62 = .ok (.invokevirtual 34, 3) := by decide +kernel
theorem dX8_firstFault_65 : decode cX8_firstFault 65 = .ok (.iconst 2, 1) := by decide +kernel
theorem dX8_firstFault_66 : decode cX8_firstFault 66 = .ok (.irem, 1) := by decide +kernel
theorem dX8_firstFault_67 : decode cX8_firstFault 67 = .ok (.ifCond .ne 7, 3) := by decide +kernel
theorem dX8_firstFault_70 : decode cX8_firstFault 70 = .ok (.iconst 1, 1) := by decide +kernel
theorem dX8_firstFault_71 : decode cX8_firstFault 71 = .ok (.goto 4, 3) := by decide +kernel
theorem dX8_firstFault_74 : decode cX8_firstFault 74 = .ok (.iconst 0, 1) := by decide +kernel
theorem dX8_firstFault_75 : decode cX8_firstFault 75 = .ok (.istore_n 3, 1) := by decide +kernel
theorem dX8_firstFault_76 : decode cX8_firstFault 76 = .ok (.iload_n 3, 1) := by decide +kernel
theorem dX8_firstFault_77 : decode cX8_firstFault 77 = .ok (.ifCond .eq 8, 3) := by decide +kernel
theorem dX8_firstFault_80 : decode cX8_firstFault 80 = .ok (.bipush (-9), 2) := by decide +kernel
theorem dX8_firstFault_82 : decode cX8_firstFault 82 = .ok (.goto 7, 3) := by decide +kernel
theorem dX8_firstFault_85 : decode cX8_firstFault 85 = .ok (.aload_n 0, 1) := by decide +kernel
theorem dX8_firstFault_86 : decode cX8_firstFault 86 = .ok (.invokevirtual 34, 3) := by decide +kernel
theorem dX8_firstFault_89 : decode cX8_firstFault 89 = .ok (.ireturn, 1) := by decide +kernel
set_option maxRecDepth 20000 in
theorem ggX8_readInto_X8_figureAt : GoodIn wsX8_readInto wsX8_figureAt := goodIn_r _ [5, 6, 7, 8, 9, 10, 11, 12, 13, 60, 61, 62] (by decide +kernel) (by decide +kernel)
set_option maxRecDepth 20000 in
theorem gX8_readInto_X8_figureAt : GoodIn wsX8_readInto (wsV RX8 45 RX8 yX8_figureAt wsX8_figureAt) := goodIn_app (goodIn_of _ (by decide +kernel)) ggX8_readInto_X8_figureAt
set_option maxRecDepth 20000 in
theorem ggX8_readInto_X3_restart : GoodIn wsX8_readInto wsX3_restart := goodIn_r _ [18, 19, 20, 21, 22, 23, 24, 25, 26, 27, 28, 29, 30, 31, 10, 32, 12, 63, 64, 65, 61, 62] (by decide +kernel) (by decide +kernel)
set_option maxRecDepth 20000 in
theorem gX8_readInto_X3_restart : GoodIn wsX8_readInto (wsV RX8 55 RX3 yX3_restart wsX3_restart) := goodIn_app (goodIn_of _ (by decide +kernel)) ggX8_readInto_X3_restart
set_option maxRecDepth 20000 in
theorem ggX8_readInto_X8_length : GoodIn wsX8_readInto wsX8_length := goodIn_r _ [36, 6, 37, 38, 39, 10, 40, 12, 60, 61, 62] (by decide +kernel) (by decide +kernel)
set_option maxRecDepth 20000 in
theorem gX8_readInto_X8_length : GoodIn wsX8_readInto (wsV RX8 34 RX8 yX8_length wsX8_length) := goodIn_app (goodIn_of _ (by decide +kernel)) ggX8_readInto_X8_length
set_option maxRecDepth 20000 in
theorem ggX8_readInto_X3_append : GoodIn wsX8_readInto wsX3_append := goodIn_r _ [44, 28, 27, 45, 46, 17, 47, 48, 49, 50, 10, 51, 12, 52, 53, 54, 55, 13, 56, 57, 58, 59, 63, 64, 65, 61, 62] (by decide +kernel) (by decide +kernel)
set_option maxRecDepth 20000 in
theorem gX8_readInto_X3_append : GoodIn wsX8_readInto (wsV RX8 60 RX3 yX3_append wsX3_append) := goodIn_app (goodIn_of _ (by decide +kernel)) ggX8_readInto_X3_append
theorem dX8_readInto_0 : decode cX8_readInto 0 = .ok (.aload_n 1, 1) := by decide +kernel
theorem dX8_readInto_1 : decode cX8_readInto 1 = .ok (.aload_n 0, 1) := by decide +kernel
theorem dX8_readInto_2 : decode cX8_readInto 2 = .ok (.iconst 1, 1) := by decide +kernel
theorem dX8_readInto_3 : decode cX8_readInto 3 = .ok (.invokevirtual 45, 3) := by decide +kernel
theorem dX8_readInto_6 : decode cX8_readInto 6 = .ok (.invokevirtual 55, 3) := by decide +kernel
theorem dX8_readInto_9 : decode cX8_readInto 9 = .ok (.iconst 3, 1) := by decide +kernel
theorem dX8_readInto_10 : decode cX8_readInto 10 = .ok (.istore_n 2, 1) := by decide +kernel
theorem dX8_readInto_11 : decode cX8_readInto 11 = .ok (.iload_n 2, 1) := by decide +kernel
theorem dX8_readInto_12 : decode cX8_readInto 12 = .ok (.aload_n 0, 1) := by decide +kernel
theorem dX8_readInto_13 : decode cX8_readInto 13 = .ok (.invokevirtual 34, 3) := by decide +kernel
theorem dX8_readInto_16 : decode cX8_readInto 16 = .ok (.if_icmp .ge 26, 3) := by decide +kernel
theorem dX8_readInto_19 : decode cX8_readInto 19 = .ok (.aload_n 1, 1) := by decide +kernel
theorem dX8_readInto_20 : decode cX8_readInto 20 = .ok (.aload_n 0, 1) := by decide +kernel
theorem dX8_readInto_21 : decode cX8_readInto 21 = .ok (.iload_n 2, 1) := by decide +kernel
theorem dX8_readInto_22 : decode cX8_readInto 22 = .ok (.iconst 1, 1) := by decide +kernel
theorem dX8_readInto_23 : decode cX8_readInto 23 = .ok (.isub, 1) := by decide +kernel
theorem dX8_readInto_24 : decode cX8_readInto 24 = .ok (.invokevirtual 45, 3) := by decide +kernel
theorem dX8_readInto_27 : decode cX8_readInto 27 = .ok (.aload_n 0, 1) := by decide +kernel
theorem dX8_readInto_28 : decode cX8_readInto 28 = .ok (.iload_n 2, 1) := by decide +kernel
theorem dX8_readInto_29 : decode cX8_readInto 29 = .ok (.invokevirtual 45, 3) := by decide +kernel
theorem dX8_readInto_32 : decode cX8_readInto 32 = .ok (.invokevirtual 60, 3) := by decide +kernel
theorem dX8_readInto_35 : decode cX8_readInto 35 = .ok (.pop, 1) := by decide +kernel
theorem dX8_readInto_36 : decode cX8_readInto 36 = .ok (.iinc 2 2, 3) := by decide +kernel
theorem dX8_readInto_39 : decode cX8_readInto 39 = .ok (.goto (-28), 3) := by decide +kernel
theorem dX8_readInto_42 : decode cX8_readInto 42 = .ok (.return_, 1) := by decide +kernel
set_option maxRecDepth 20000 in
theorem ggX8_fits_X6_at : GoodIn wsX8_fits wsX6_at := goodIn_r _ [6, 7, 8, 39, 40] (by decide +kernel) (by decide +kernel)
set_option maxRecDepth 20000 in
theorem gX8_fits_X6_at : GoodIn wsX8_fits (wsV RX8 64 RX6 yX6_at wsX6_at) := goodIn_app (goodIn_of _ (by decide +kernel)) ggX8_fits_X6_at
set_option maxRecDepth 20000 in
theorem ggX8_fits_X8_figureAt : GoodIn wsX8_fits wsX8_figureAt := goodIn_r _ [13, 1, 2, 3, 4, 5, 6, 7, 8, 38, 39, 40] (by decide +kernel) (by decide +kernel)
set_option maxRecDepth 20000 in
theorem gX8_fits_X8_figureAt : GoodIn wsX8_fits (wsV RX8 45 RX8 yX8_figureAt wsX8_figureAt) := goodIn_app (goodIn_of _ (by decide +kernel)) ggX8_fits_X8_figureAt
set_option maxRecDepth 20000 in
theorem ggX8_fits_X8_isSecondFigure : GoodIn wsX8_fits wsX8_isSecondFigure := goodIn_r _ [16] (by decide +kernel) (by decide +kernel)
set_option maxRecDepth 20000 in
theorem gX8_fits_X8_isSecondFigure : GoodIn wsX8_fits (va_wsS RX8 41 yX8_isSecondFigure wsX8_isSecondFigure) := goodIn_app (goodIn_of _ (by decide +kernel)) ggX8_fits_X8_isSecondFigure
set_option maxRecDepth 20000 in
theorem ggX8_fits_X5_line : GoodIn wsX8_fits wsX5_line := goodIn_r _ [20] (by decide +kernel) (by decide +kernel)
set_option maxRecDepth 20000 in
theorem gX8_fits_X5_line : GoodIn wsX8_fits (va_wsS RX8 67 yX5_line wsX5_line) := goodIn_app (goodIn_of _ (by decide +kernel)) ggX8_fits_X5_line
set_option maxRecDepth 20000 in
theorem ggX8_fits_X5_isIn : GoodIn wsX8_fits wsX5_isIn := goodIn_r _ [23] (by decide +kernel) (by decide +kernel)
set_option maxRecDepth 20000 in
theorem gX8_fits_X5_isIn : GoodIn wsX8_fits (va_wsS RX8 71 yX5_isIn wsX5_isIn) := goodIn_app (goodIn_of _ (by decide +kernel)) ggX8_fits_X5_isIn
set_option maxRecDepth 20000 in
theorem ggX8_fits_J6_bitCount_0f7a4 : GoodIn wsX8_fits wsJ6_bitCount_0f7a4 := goodIn_r _ [27, 28, 29, 30] (by decide +kernel) (by decide +kernel)
set_option maxRecDepth 20000 in
theorem gX8_fits_J6_bitCount_0f7a4 : GoodIn wsX8_fits (va_wsS RX8 75 yJ6_bitCount_0f7a4 wsJ6_bitCount_0f7a4) := goodIn_app (goodIn_of _ (by decide +kernel)) ggX8_fits_J6_bitCount_0f7a4
set_option maxRecDepth 20000 in
theorem ggX8_fits_J13_bitCount_95d88 : GoodIn wsX8_fits wsJ13_bitCount_95d88 := goodIn_r _ [34, 35, 36, 37] (by decide +kernel) (by decide +kernel)
set_option maxRecDepth 20000 in
theorem gX8_fits_J13_bitCount_95d88 : GoodIn wsX8_fits (va_wsS RX8 80 yJ13_bitCount_95d88 wsJ13_bitCount_95d88) := goodIn_app (goodIn_of _ (by decide +kernel)) ggX8_fits_J13_bitCount_95d88
theorem dX8_fits_0 : decode cX8_fits 0 = .ok (.iload_n 1, 1) := by decide +kernel
theorem dX8_fits_1 : decode cX8_fits 1 = .ok (.ifCond .ne 22, 3) := by decide +kernel
theorem dX8_fits_4 : decode cX8_fits 4 = .ok (.aload_n 0, 1) := by decide +kernel
theorem dX8_fits_5 : decode cX8_fits 5 = .ok (.getfield 14, 3) := by decide +kernel
theorem dX8_fits_8 : decode cX8_fits 8 = .ok (.iconst 0, 1) := by decide +kernel
theorem dX8_fits_9 : decode cX8_fits 9 = .ok (.invokevirtual 64, 3) := by decide +kernel
theorem dX8_fits_12 : decode cX8_fits 12 = .ok (.bipush 68, 2) := by decide +kernel
theorem dX8_fits_14 : decode cX8_fits 14 = .ok (.if_icmp .ne 7, 3) := by decide +kernel
theorem dX8_fits_17 : decode cX8_fits 17 = .ok (.iconst 1, 1) := by decide +kernel
theorem dX8_fits_18 : decode cX8_fits 18 = .ok (.goto 4, 3) := by decide +kernel
theorem dX8_fits_21 : decode cX8_fits 21 = .ok (.iconst 0, 1) := by decide +kernel
theorem dX8_fits_22 : decode cX8_fits 22 = .ok (.ireturn, 1) := by decide +kernel
theorem dX8_fits_23 : decode cX8_fits 23 = .ok (.aload_n 0, 1) := by decide +kernel
theorem dX8_fits_24 : decode cX8_fits 24 = .ok (.iload_n 1, 1) := by decide +kernel
theorem dX8_fits_25 : decode cX8_fits 25 = .ok (.invokevirtual 45, 3) := by decide +kernel
theorem dX8_fits_28 : decode cX8_fits 28 = .ok (.istore 4, 2) := by decide +kernel
theorem dX8_fits_30 : decode cX8_fits 30 = .ok (.iload_n 1, 1) := by decide +kernel
theorem dX8_fits_31 : decode cX8_fits 31 = .ok (.iconst 1, 1) := by decide +kernel
theorem dX8_fits_32 : decode cX8_fits 32 = .ok (.if_icmp .ne 22, 3) := by decide +kernel
theorem dX8_fits_35 : decode cX8_fits 35 = .ok (.iload 4, 2) := by decide +kernel
theorem dX8_fits_37 : decode cX8_fits 37 = .ok (.iconst 1, 1) := by decide +kernel
theorem dX8_fits_38 : decode cX8_fits 38 = .ok (.if_icmp .lt 14, 3) := by decide +kernel
theorem dX8_fits_41 : decode cX8_fits 41 = .ok (.iload 4, 2) := by decide +kernel
theorem dX8_fits_43 : decode cX8_fits 43 = .ok (.bipush 8, 2) := by decide +kernel
theorem dX8_fits_45 : decode cX8_fits 45 = .ok (.if_icmp .gt 7, 3) := by decide +kernel
theorem dX8_fits_48 : decode cX8_fits 48 = .ok (.iconst 1, 1) := by decide +kernel
theorem dX8_fits_49 : decode cX8_fits 49 = .ok (.goto 4, 3) := by decide +kernel
theorem dX8_fits_52 : decode cX8_fits 52 = .ok (.iconst 0, 1) := by decide +kernel
theorem dX8_fits_53 : decode cX8_fits 53 = .ok (.ireturn, 1) := by decide +kernel
theorem dX8_fits_54 : decode cX8_fits 54 = .ok (.aload_n 0, 1) := by decide +kernel
theorem dX8_fits_55 : decode cX8_fits 55 = .ok (.iconst 1, 1) := by decide +kernel
theorem dX8_fits_56 : decode cX8_fits 56 = .ok (.invokevirtual 45, 3) := by decide +kernel
theorem dX8_fits_59 : decode cX8_fits 59 = .ok (.istore 5, 2) := by decide +kernel
theorem dX8_fits_61 : decode cX8_fits 61 = .ok (.iload 4, 2) := by decide +kernel
theorem dX8_fits_63 : decode cX8_fits 63 = .ok (.ifCond .lt 10, 3) := by decide +kernel
theorem dX8_fits_66 : decode cX8_fits 66 = .ok (.iload 4, 2) := by decide +kernel
theorem dX8_fits_68 : decode cX8_fits 68 = .ok (.iload 5, 2) := by decide +kernel
theorem dX8_fits_70 : decode cX8_fits 70 = .ok (.if_icmp .lt 5, 3) := by decide +kernel
theorem dX8_fits_73 : decode cX8_fits 73 = .ok (.iconst 0, 1) := by decide +kernel
theorem dX8_fits_74 : decode cX8_fits 74 = .ok (.ireturn, 1) := by decide +kernel
theorem dX8_fits_75 : decode cX8_fits 75 = .ok (.iload_n 1, 1) := by decide +kernel
theorem dX8_fits_76 : decode cX8_fits 76 = .ok (.invokestatic 41, 3) := by decide +kernel
theorem dX8_fits_79 : decode cX8_fits 79 = .ok (.ifCond .eq 39, 3) := by decide +kernel
theorem dX8_fits_82 : decode cX8_fits 82 = .ok (.aload_n 0, 1) := by decide +kernel
theorem dX8_fits_83 : decode cX8_fits 83 = .ok (.iload_n 1, 1) := by decide +kernel
theorem dX8_fits_84 : decode cX8_fits 84 = .ok (.iconst 1, 1) := by decide +kernel
theorem dX8_fits_85 : decode cX8_fits 85 = .ok (.isub, 1) := by decide +kernel
theorem dX8_fits_86 : decode cX8_fits 86 = .ok (.invokevirtual 45, 3) := by decide +kernel
theorem dX8_fits_89 : decode cX8_fits 89 = .ok (.istore 6, 2) := by decide +kernel
theorem dX8_fits_91 : decode cX8_fits 91 = .ok (.iload 4, 2) := by decide +kernel
theorem dX8_fits_93 : decode cX8_fits 93 = .ok (.iload 6, 2) := by decide +kernel
theorem dX8_fits_95 : decode cX8_fits 95 = .ok (.if_icmp .eq 21, 3) := by decide +kernel
theorem dX8_fits_98 : decode cX8_fits 98 = .ok (.lload_n 2, 1) := by decide +kernel
theorem dX8_fits_99 : decode cX8_fits 99 = .ok (.iload 6, 2) := by decide +kernel
theorem dX8_fits_101 : decode cX8_fits 101 = .ok (.invokestatic 67, 3) := by decide +kernel
theorem dX8_fits_104 : decode cX8_fits 104 = .ok (.iload 4, 2) := by decide +kernel
theorem dX8_fits_106 : decode cX8_fits 106 = .ok (.invokestatic 71, 3) := by decide +kernel
theorem dX8_fits_109 : decode cX8_fits 109 = .ok (.ifCond .ne 7, 3) := by decide +kernel
theorem dX8_fits_112 : decode cX8_fits 112 = .ok (.iconst 1, 1) := by decide +kernel
theorem dX8_fits_113 : decode cX8_fits 113 = .ok (.goto 4, 3) := by decide +kernel
theorem dX8_fits_116 : decode cX8_fits 116 = .ok (.iconst 0, 1) := by decide +kernel
theorem dX8_fits_117 : decode cX8_fits 117 = .ok (.ireturn, 1) := by decide +kernel
theorem dX8_fits_118 : decode cX8_fits 118 = .ok (.lload_n 2, 1) := by decide +kernel
theorem dX8_fits_119 : decode cX8_fits 119 = .ok (.iload 4, 2) := by decide +kernel
theorem dX8_fits_121 : decode cX8_fits 121 = .ok (.invokestatic 67, 3) := by decide +kernel
theorem dX8_fits_124 : decode cX8_fits 124 = .ok (.invokestatic 75, 3) := by decide +kernel
theorem dX8_fits_127 : decode cX8_fits 127 = .ok (.iload 5, 2) := by decide +kernel
theorem dX8_fits_129 : decode cX8_fits 129 = .ok (.iconst 1, 1) := by decide +kernel
theorem dX8_fits_130 : decode cX8_fits 130 = .ok (.isub, 1) := by decide +kernel
theorem dX8_fits_131 : decode cX8_fits 131 = .ok (.if_icmp .lt 7, 3) := by decide +kernel
theorem dX8_fits_134 : decode cX8_fits 134 = .ok (.iconst 1, 1) := by decide +kernel
theorem dX8_fits_135 : decode cX8_fits 135 = .ok (.goto 4, 3) := by decide +kernel
theorem dX8_fits_138 : decode cX8_fits 138 = .ok (.iconst 0, 1) := by decide +kernel
theorem dX8_fits_139 : decode cX8_fits 139 = .ok (.istore 6, 2) := by decide +kernel
theorem dX8_fits_141 : decode cX8_fits 141 = .ok (.iload 6, 2) := by decide +kernel
theorem dX8_fits_143 : decode cX8_fits 143 = .ok (.ifCond .ne 16, 3) := by decide +kernel
theorem dX8_fits_146 : decode cX8_fits 146 = .ok (.lload_n 2, 1) := by decide +kernel
theorem dX8_fits_147 : decode cX8_fits 147 = .ok (.invokestatic 80, 3) := by decide +kernel
theorem dX8_fits_150 : decode cX8_fits 150 = .ok (.bipush 24, 2) := by decide +kernel
theorem dX8_fits_152 : decode cX8_fits 152 = .ok (.if_icmp .ge 7, 3) := by decide +kernel
theorem dX8_fits_155 : decode cX8_fits 155 = .ok (.iconst 1, 1) := by decide +kernel
theorem dX8_fits_156 : decode cX8_fits 156 = .ok (.goto 4, 3) := by decide +kernel
theorem dX8_fits_159 : decode cX8_fits 159 = .ok (.iconst 0, 1) := by decide +kernel
theorem dX8_fits_160 : decode cX8_fits 160 = .ok (.ireturn, 1) := by decide +kernel
theorem dX8_isSecondFigure_0 : decode cX8_isSecondFigure 0 = .ok (.iload_n 0, 1) := by decide +kernel
theorem dX8_isSecondFigure_1 : decode cX8_isSecondFigure 1 = .ok (.iconst 3, 1) := by decide +kernel
theorem dX8_isSecondFigure_2 : decode cX8_isSecondFigure 2 = .ok (.if_icmp .lt 14, 3) := by decide +kernel
theorem dX8_isSecondFigure_5 : decode cX8_isSecondFigure 5 = .ok (.iload_n 0, 1) := by decide +kernel
theorem dX8_isSecondFigure_6 : decode cX8_isSecondFigure 6 = .ok (.iconst 2, 1) := by decide +kernel
theorem dX8_isSecondFigure_7 : decode cX8_isSecondFigure 7 = .ok (.irem, 1) := by decide +kernel
theorem dX8_isSecondFigure_8 : decode cX8_isSecondFigure 8 = .ok (.iconst 1, 1) := by decide +kernel
theorem dX8_isSecondFigure_9 : decode cX8_isSecondFigure 9 = .ok (.if_icmp .ne 7, 3) := by decide +kernel
theorem dX8_isSecondFigure_12 : decode cX8_isSecondFigure 12 = .ok (.iconst 1, 1) := by decide +kernel
theorem dX8_isSecondFigure_13 : decode cX8_isSecondFigure 13 = .ok (.goto 4, 3) := by decide +kernel
theorem dX8_isSecondFigure_16 : decode cX8_isSecondFigure 16 = .ok (.iconst 0, 1) := by decide +kernel
theorem dX8_isSecondFigure_17 : decode cX8_isSecondFigure 17 = .ok (.ireturn, 1) := by decide +kernel
set_option maxRecDepth 20000 in
theorem ggX8_figureAt_X6_at : GoodIn wsX8_figureAt wsX6_at := goodIn_r _ [6, 7, 8, 10, 11] (by decide +kernel) (by decide +kernel)
set_option maxRecDepth 20000 in
theorem gX8_figureAt_X6_at : GoodIn wsX8_figureAt (wsV RX8 64 RX6 yX6_at wsX6_at) := goodIn_app (goodIn_of _ (by decide +kernel)) ggX8_figureAt_X6_at
theorem dX8_figureAt_0 : decode cX8_figureAt 0 = .ok (.aload_n 0, 1) := by decide +kernel
theorem dX8_figureAt_1 : decode cX8_figureAt 1 = .ok (.getfield 14, 3) := by decide +kernel
theorem dX8_figureAt_4 : decode cX8_figureAt 4 = .ok (.iload_n 1, 1) := by decide +kernel
theorem dX8_figureAt_5 : decode cX8_figureAt 5 = .ok (.invokevirtual 64, 3) := by decide +kernel
theorem dX8_figureAt_8 : decode cX8_figureAt 8 = .ok (.istore_n 2, 1) := by decide +kernel
theorem dX8_figureAt_9 : decode cX8_figureAt 9 = .ok (.iload_n 2, 1) := by decide +kernel
theorem dX8_figureAt_10 : decode cX8_figureAt 10 = .ok (.bipush 48, 2) := by decide +kernel
theorem dX8_figureAt_12 : decode cX8_figureAt 12 = .ok (.if_icmp .lt 16, 3) := by decide +kernel
theorem dX8_figureAt_15 : decode cX8_figureAt 15 = .ok (.iload_n 2, 1) := by decide +kernel
theorem dX8_figureAt_16 : decode cX8_figureAt 16 = .ok (.bipush 57, 2) := by decide +kernel
theorem dX8_figureAt_18 : decode cX8_figureAt 18 = .ok (.if_icmp .gt 10, 3) := by decide +kernel
theorem dX8_figureAt_21 : decode cX8_figureAt 21 = .ok (.iload_n 2, 1) := by decide +kernel
theorem dX8_figureAt_22 : decode cX8_figureAt 22 = .ok (.bipush 48, 2) := by decide +kernel
theorem dX8_figureAt_24 : decode cX8_figureAt 24 = .ok (.isub, 1) := by decide +kernel
theorem dX8_figureAt_25 : decode cX8_figureAt 25 = .ok (.goto 5, 3) := by decide +kernel
theorem dX8_figureAt_28 : decode cX8_figureAt 28 = .ok (.bipush (-9), 2) := by decide +kernel
theorem dX8_figureAt_30 : decode cX8_figureAt 30 = .ok (.ireturn, 1) := by decide +kernel
set_option maxRecDepth 20000 in
theorem ggX9_init_X6_init : GoodIn wsX9_init wsX6_init := goodIn_r _ [11, 12, 2, 3, 13, 14, 15, 16, 17, 18, 19, 20] (by decide +kernel) (by decide +kernel)
set_option maxRecDepth 20000 in
theorem gX9_init_X6_init : GoodIn wsX9_init (wsX6_init) := ggX9_init_X6_init
theorem dX9_init_0 : decode cX9_init 0 = .ok (.aload_n 0, 1) := by decide +kernel
theorem dX9_init_1 : decode cX9_init 1 = .ok (.invokespecial 3, 3) := by decide +kernel
theorem dX9_init_4 : decode cX9_init 4 = .ok (.aload_n 0, 1) := by decide +kernel
theorem dX9_init_5 : decode cX9_init 5 = .ok (.new 9, 3) := by decide +kernel
theorem dX9_init_8 : decode cX9_init 8 = .ok (.dup, 1) := by decide +kernel
theorem dX9_init_9 : decode cX9_init 9 = .ok (.bipush 8, 2) := by decide +kernel
theorem dX9_init_11 : decode cX9_init 11 = .ok (.invokespecial 11, 3) := by decide +kernel
theorem dX9_init_14 : decode cX9_init 14 = .ok (.putfield 14, 3) := by decide +kernel
theorem dX9_init_17 : decode cX9_init 17 = .ok (.aload_n 0, 1) := by decide +kernel
theorem dX9_init_18 : decode cX9_init 18 = .ok (.new 9, 3) := by decide +kernel
theorem dX9_init_21 : decode cX9_init 21 = .ok (.dup, 1) := by decide +kernel
theorem dX9_init_22 : decode cX9_init 22 = .ok (.bipush 8, 2) := by decide +kernel
theorem dX9_init_24 : decode cX9_init 24 = .ok (.invokespecial 11, 3) := by decide +kernel
theorem dX9_init_27 : decode cX9_init 27 = .ok (.putfield 20, 3) := by decide +kernel
theorem dX9_init_30 : decode cX9_init 30 = .ok (.return_, 1) := by decide +kernel
set_option maxRecDepth 20000 in
theorem ggX9_go_X3_grid : GoodIn wsX9_go wsX3_grid := goodIn_r _ [8, 9, 10, 11, 12, 13, 14, 15, 16, 17, 18, 19, 20, 21, 22, 7, 23, 24, 25, 26, 27, 67, 68, 69, 70, 71] (by decide +kernel) (by decide +kernel)
set_option maxRecDepth 20000 in
theorem gX9_go_X3_grid : GoodIn wsX9_go (wsV RX9 23 RX3 yX3_grid wsX3_grid) := goodIn_app (goodIn_of _ (by decide +kernel)) ggX9_go_X3_grid
set_option maxRecDepth 20000 in
theorem ggX9_go_X6_clear : GoodIn wsX9_go wsX6_clear := goodIn_r _ [31, 15, 70, 71] (by decide +kernel) (by decide +kernel)
set_option maxRecDepth 20000 in
theorem gX9_go_X6_clear : GoodIn wsX9_go (wsV RX9 32 RX6 yX6_clear wsX6_clear) := goodIn_app (goodIn_of _ (by decide +kernel)) ggX9_go_X6_clear
set_option maxRecDepth 20000 in
theorem ggX9_go_X6_add : GoodIn wsX9_go wsX6_add := goodIn_r _ [35, 15, 36, 37, 38, 13, 39, 20, 40, 41, 42, 43, 70, 71] (by decide +kernel) (by decide +kernel)
set_option maxRecDepth 20000 in
theorem gX9_go_X6_add : GoodIn wsX9_go (wsV RX9 35 RX6 yX6_add wsX6_add) := goodIn_app (goodIn_of _ (by decide +kernel)) ggX9_go_X6_add
set_option maxRecDepth 20000 in
theorem ggX9_go_X5_only : GoodIn wsX9_go wsX5_only := goodIn_r _ [46] (by decide +kernel) (by decide +kernel)
set_option maxRecDepth 20000 in
theorem gX9_go_X5_only : GoodIn wsX9_go (va_wsS RX9 38 yX5_only wsX5_only) := goodIn_app (goodIn_of _ (by decide +kernel)) ggX9_go_X5_only
set_option maxRecDepth 20000 in
theorem ggX9_go_X6_size : GoodIn wsX9_go wsX6_size := goodIn_r _ [14, 15, 70, 71] (by decide +kernel) (by decide +kernel)
set_option maxRecDepth 20000 in
theorem gX9_go_X6_size : GoodIn wsX9_go (wsV RX9 44 RX6 yX6_size wsX6_size) := goodIn_app (goodIn_of _ (by decide +kernel)) ggX9_go_X6_size
set_option maxRecDepth 20000 in
theorem ggX9_go_X6_at : GoodIn wsX9_go wsX6_at := goodIn_r _ [19, 15, 20, 70, 71] (by decide +kernel) (by decide +kernel)
set_option maxRecDepth 20000 in
theorem gX9_go_X6_at : GoodIn wsX9_go (wsV RX9 48 RX6 yX6_at wsX6_at) := goodIn_app (goodIn_of _ (by decide +kernel)) ggX9_go_X6_at
set_option maxRecDepth 20000 in
theorem ggX9_go_X3_firstWayOn : GoodIn wsX9_go wsX3_firstWayOn := goodIn_r _ [52, 9, 10, 11, 12, 13, 14, 15, 16, 17, 18, 19, 20, 21, 22, 7, 23, 53, 54, 26, 55, 67, 68, 69, 70, 71] (by decide +kernel) (by decide +kernel)
set_option maxRecDepth 20000 in
theorem gX9_go_X3_firstWayOn : GoodIn wsX9_go (wsV RX9 51 RX3 yX3_firstWayOn wsX3_firstWayOn) := goodIn_app (goodIn_of _ (by decide +kernel)) ggX9_go_X3_firstWayOn
set_option maxRecDepth 20000 in
theorem ggX9_go_X6_takeLast : GoodIn wsX9_go wsX6_takeLast := goodIn_r _ [59, 15, 60, 61, 62, 13, 63, 20, 70, 71] (by decide +kernel) (by decide +kernel)
set_option maxRecDepth 20000 in
theorem gX9_go_X6_takeLast : GoodIn wsX9_go (wsV RX9 55 RX6 yX6_takeLast wsX6_takeLast) := goodIn_app (goodIn_of _ (by decide +kernel)) ggX9_go_X6_takeLast
theorem dX9_go_0 : decode cX9_go 0 = .ok (.aload_n 0, 1) := by decide +kernel
theorem dX9_go_1 : decode cX9_go 1 = .ok (.aload_n 1, 1) := by decide +kernel
theorem dX9_go_2 : decode cX9_go 2 = .ok (.invokevirtual 23, 3) := by decide +kernel
theorem dX9_go_5 : decode cX9_go 5 = .ok (.putfield 29, 3) := by decide +kernel
theorem dX9_go_8 : decode cX9_go 8 = .ok (.aload_n 0, 1) := by decide +kernel
theorem dX9_go_9 : decode cX9_go 9 = .ok (.getfield 14, 3) := by decide +kernel
theorem dX9_go_12 : decode cX9_go 12 = .ok (.invokevirtual 32, 3) := by decide +kernel
theorem dX9_go_15 : decode cX9_go 15 = .ok (.aload_n 0, 1) := by decide +kernel
theorem dX9_go_16 : decode cX9_go 16 = .ok (.getfield 20, 3) := by decide +kernel
theorem dX9_go_19 : decode cX9_go 19 = .ok (.invokevirtual 32, 3) := by decide +kernel
theorem dX9_go_22 : decode cX9_go 22 = .ok (.aload_n 0, 1) := by decide +kernel
theorem dX9_go_23 : decode cX9_go 23 = .ok (.getfield 14, 3) := by decide +kernel
theorem dX9_go_26 : decode cX9_go 26 = .ok (.iconst 0, 1) := by decide +kernel
theorem dX9_go_27 : decode cX9_go 27 = .ok (.invokevirtual 35, 3) := by decide +kernel
theorem dX9_go_30 : decode cX9_go 30 = .ok (.aload_n 0, 1) := by decide +kernel
theorem dX9_go_31 : decode cX9_go 31 = .ok (.getfield 20, 3) := by decide +kernel
theorem dX9_go_34 : decode cX9_go 34 = .ok (.iconst 0, 1) := by decide +kernel
theorem dX9_go_35 : decode cX9_go 35 = .ok (.invokevirtual 35, 3) := by decide +kernel
theorem dX9_go_38 : decode cX9_go 38 = .ok (.iconst 0, 1) := by decide +kernel
theorem dX9_go_39 : decode cX9_go 39 = .ok (.invokestatic 38, 3) := by decide +kernel
theorem dX9_go_42 : decode cX9_go 42 = .ok (.istore_n 2, 1) := by decide +kernel
theorem dX9_go_43 : decode cX9_go 43 = .ok (.iconst 0, 1) := by decide +kernel
theorem dX9_go_44 : decode cX9_go 44 = .ok (.istore_n 3, 1) := by decide +kernel
theorem dX9_go_45 : decode cX9_go 45 = .ok (.iload_n 3, 1) := by decide +kernel
theorem dX9_go_46 : decode cX9_go 46 = .ok (.bipush 16, 2) := by decide +kernel
theorem dX9_go_48 : decode cX9_go 48 = .ok (.if_icmp .ge 86, 3) := by decide +kernel
theorem dX9_go_51 : decode cX9_go 51 = .ok (.aload_n 0, 1) := by decide +kernel
theorem dX9_go_52 : decode cX9_go 52 = .ok (.getfield 20, 3) := by decide +kernel
theorem dX9_go_55 : decode cX9_go 55 = .ok (.invokevirtual 44, 3) := by decide +kernel
theorem dX9_go_58 : decode cX9_go 58 = .ok (.ifCond .le 76, 3) := by decide +kernel
theorem dX9_go_61 : decode cX9_go 61 = .ok (.aload_n 1, 1) := by decide +kernel
theorem dX9_go_62 : decode cX9_go 62 = .ok (.aload_n 0, 1) := by decide +kernel
theorem dX9_go_63 : decode cX9_go 63 = .ok (.getfield 20, 3) := by decide +kernel
theorem dX9_go_66 : decode cX9_go 66 = .ok (.aload_n 0, 1) := by decide +kernel
theorem dX9_go_67 : decode cX9_go 67 = .ok (.getfield 20, 3) := by decide +kernel
theorem dX9_go_70 : decode cX9_go 70 = .ok (.invokevirtual 44, 3) := by decide +kernel
theorem dX9_go_73 : decode cX9_go 73 = .ok (.iconst 1, 1) := by decide +kernel
theorem dX9_go_74 : decode cX9_go 74 = .ok (.isub, 1) := by decide +kernel
theorem dX9_go_75 : decode cX9_go 75 = .ok (.invokevirtual 48, 3) := by decide +kernel
theorem dX9_go_78 : decode cX9_go 78 = .ok (.iload_n 2, 1) := by decide +kernel
theorem dX9_go_79 : decode cX9_go 79 = .ok (.invokevirtual 51, 3) := by decide +kernel
theorem dX9_go_82 : decode cX9_go 82 = .ok (.istore 4, 2) := by decide +kernel
theorem dX9_go_84 : decode cX9_go 84 = .ok (.iload 4, 2) := by decide +kernel
theorem dX9_go_86 : decode cX9_go 86 = .ok (.bipush (-9), 2) := by decide +kernel
theorem dX9_go_88 : decode cX9_go 88 = .ok (.if_icmp .ne 14, 3) := by decide +kernel
theorem dX9_go_91 : decode cX9_go 91 = .ok (.aload_n 0, 1) := by decide +kernel
theorem dX9_go_92 : decode cX9_go 92 = .ok (.getfield 20, 3) := by decide +kernel
theorem dX9_go_95 : decode cX9_go 95 = .ok (.invokevirtual 55, 3) := by decide +kernel
theorem dX9_go_98 : decode cX9_go 98 = .ok (.pop, 1) := by decide +kernel
theorem dX9_go_99 : decode cX9_go 99 = .ok (.goto 29, 3) := by decide +kernel
theorem dX9_go_102 : decode cX9_go 102 = .ok (.aload_n 0, 1) := by decide +kernel
theorem dX9_go_103 : decode cX9_go 103 = .ok (.getfield 14, 3) := by decide +kernel
theorem dX9_go_106 : decode cX9_go 106 = .ok (.iload 4, 2) := by decide +kernel
theorem dX9_go_108 : decode cX9_go 108 = .ok (.invokevirtual 35, 3) := by decide +kernel
theorem dX9_go_111 : decode cX9_go 111 = .ok (.aload_n 0, 1) := by decide +kernel
theorem dX9_go_112 : decode cX9_go 112 = .ok (.getfield 20, 3) := by decide +kernel
theorem dX9_go_115 : decode cX9_go 115 = .ok (.iload 4, 2) := by decide +kernel
theorem dX9_go_117 : decode cX9_go 117 = .ok (.invokevirtual 35, 3) := by decide +kernel
theorem dX9_go_120 : decode cX9_go 120 = .ok (.iload_n 2, 1) := by decide +kernel
theorem dX9_go_121 : decode cX9_go 121 = .ok (.iload 4, 2) := by decide +kernel
theorem dX9_go_123 : decode cX9_go 123 = .ok (.invokestatic 38, 3) := by decide +kernel
theorem dX9_go_126 : decode cX9_go 126 = .ok (.ior, 1) := by decide +kernel
theorem dX9_go_127 : decode cX9_go 127 = .ok (.istore_n 2, 1) := by decide +kernel
theorem dX9_go_128 : decode cX9_go 128 = .ok (.iinc 3 1, 3) := by decide +kernel
theorem dX9_go_131 : decode cX9_go 131 = .ok (.goto (-86), 3) := by decide +kernel
theorem dX9_go_134 : decode cX9_go 134 = .ok (.return_, 1) := by decide +kernel
set_option maxRecDepth 20000 in
theorem ggX9_orderOf_X6_placeOf : GoodIn wsX9_orderOf wsX6_placeOf := goodIn_r _ [6, 7, 8, 9, 10, 5, 11, 12, 16, 17] (by decide +kernel) (by decide +kernel)
set_option maxRecDepth 20000 in
theorem gX9_orderOf_X6_placeOf : GoodIn wsX9_orderOf (wsV RX9 58 RX6 yX6_placeOf wsX6_placeOf) := goodIn_app (goodIn_of _ (by decide +kernel)) ggX9_orderOf_X6_placeOf
theorem dX9_orderOf_0 : decode cX9_orderOf 0 = .ok (.aload_n 0, 1) := by decide +kernel
theorem dX9_orderOf_1 : decode cX9_orderOf 1 = .ok (.getfield 14, 3) := by decide +kernel
theorem dX9_orderOf_4 : decode cX9_orderOf 4 = .ok (.iload_n 1, 1) := by decide +kernel
theorem dX9_orderOf_5 : decode cX9_orderOf 5 = .ok (.invokevirtual 58, 3) := by decide +kernel
theorem dX9_orderOf_8 : decode cX9_orderOf 8 = .ok (.ireturn, 1) := by decide +kernel
set_option maxRecDepth 20000 in
theorem ggX9_halfOf_X9_orderOf : GoodIn wsX9_halfOf wsX9_orderOf := goodIn_r _ [6, 1, 7, 8, 9, 10, 11, 12, 13, 14, 15, 16, 17, 53, 54, 55, 56, 57] (by decide +kernel) (by decide +kernel)
set_option maxRecDepth 20000 in
theorem gX9_halfOf_X9_orderOf : GoodIn wsX9_halfOf (wsV RX9 61 RX9 yX9_orderOf wsX9_orderOf) := goodIn_app (goodIn_of _ (by decide +kernel)) ggX9_halfOf_X9_orderOf
set_option maxRecDepth 20000 in
theorem ggX9_halfOf_X9_startsOfLateWays : GoodIn wsX9_halfOf wsX9_startsOfLateWays := goodIn_r _ [21, 22, 23, 24, 25, 26, 27, 28, 29, 30, 31, 32, 33, 34, 35, 36, 37, 38, 39, 40, 41, 42, 43, 44, 45, 2, 3, 4, 5, 6, 1, 7, 8, 9, 10, 11, 12, 13, 14, 15, 16, 17, 46, 53, 54, 55, 56, 57] (by decide +kernel) (by decide +kernel)
set_option maxRecDepth 20000 in
theorem gX9_halfOf_X9_startsOfLateWays : GoodIn wsX9_halfOf (wsV RX9 64 RX9 yX9_startsOfLateWays wsX9_startsOfLateWays) := goodIn_app (goodIn_of _ (by decide +kernel)) ggX9_halfOf_X9_startsOfLateWays
set_option maxRecDepth 20000 in
theorem ggX9_halfOf_X6_size : GoodIn wsX9_halfOf wsX6_size := goodIn_r _ [50, 12, 56, 57] (by decide +kernel) (by decide +kernel)
set_option maxRecDepth 20000 in
theorem gX9_halfOf_X6_size : GoodIn wsX9_halfOf (wsV RX9 44 RX6 yX6_size wsX6_size) := goodIn_app (goodIn_of _ (by decide +kernel)) ggX9_halfOf_X6_size
set_option maxRecDepth 20000 in
theorem ggX9_halfOf_X6_at : GoodIn wsX9_halfOf wsX6_at := goodIn_r _ [16, 12, 17, 56, 57] (by decide +kernel) (by decide +kernel)
set_option maxRecDepth 20000 in
theorem gX9_halfOf_X6_at : GoodIn wsX9_halfOf (wsV RX9 48 RX6 yX6_at wsX6_at) := goodIn_app (goodIn_of _ (by decide +kernel)) ggX9_halfOf_X6_at
set_option maxRecDepth 20000 in
theorem ggX9_halfOf_X5_isIn : GoodIn wsX9_halfOf wsX5_isIn := goodIn_r _ [32] (by decide +kernel) (by decide +kernel)
set_option maxRecDepth 20000 in
theorem gX9_halfOf_X5_isIn : GoodIn wsX9_halfOf (va_wsS RX9 67 yX5_isIn wsX5_isIn) := goodIn_app (goodIn_of _ (by decide +kernel)) ggX9_halfOf_X5_isIn
theorem dX9_halfOf_0 : decode cX9_halfOf 0 = .ok (.aload_n 0, 1) := by decide +kernel
theorem dX9_halfOf_1 : decode cX9_halfOf 1 = .ok (.iload_n 1, 1) := by decide +kernel
theorem dX9_halfOf_2 : decode cX9_halfOf 2 = .ok (.invokevirtual 61, 3) := by decide +kernel
theorem dX9_halfOf_5 : decode cX9_halfOf 5 = .ok (.bipush (-9), 2) := by decide +kernel
theorem dX9_halfOf_7 : decode cX9_halfOf 7 = .ok (.if_icmp .eq 7, 3) := by decide +kernel
theorem dX9_halfOf_10 : decode cX9_halfOf 10 = .ok (.iload_n 1, 1) := by decide +kernel
theorem dX9_halfOf_11 : decode cX9_halfOf 11 = .ok (.ifCond .ne 6, 3) := by decide +kernel
theorem dX9_halfOf_14 : decode cX9_halfOf 14 = .ok (.bipush (-9), 2) := by decide +kernel
theorem dX9_halfOf_16 : decode cX9_halfOf 16 = .ok (.ireturn, 1) := by decide +kernel
theorem dX9_halfOf_17 : decode cX9_halfOf 17 = .ok (.aload_n 0, 1) := by decide +kernel
theorem dX9_halfOf_18 : decode cX9_halfOf 18 = .ok (.iload_n 1, 1) := by decide +kernel
theorem dX9_halfOf_19 : decode cX9_halfOf 19 = .ok (.invokevirtual 64, 3) := by decide +kernel
theorem dX9_halfOf_22 : decode cX9_halfOf 22 = .ok (.istore_n 2, 1) := by decide +kernel
theorem dX9_halfOf_23 : decode cX9_halfOf 23 = .ok (.iconst 0, 1) := by decide +kernel
theorem dX9_halfOf_24 : decode cX9_halfOf 24 = .ok (.istore_n 3, 1) := by decide +kernel
theorem dX9_halfOf_25 : decode cX9_halfOf 25 = .ok (.iload_n 3, 1) := by decide +kernel
theorem dX9_halfOf_26 : decode cX9_halfOf 26 = .ok (.aload_n 0, 1) := by decide +kernel
theorem dX9_halfOf_27 : decode cX9_halfOf 27 = .ok (.getfield 14, 3) := by decide +kernel
theorem dX9_halfOf_30 : decode cX9_halfOf 30 = .ok (.invokevirtual 44, 3) := by decide +kernel
theorem dX9_halfOf_33 : decode cX9_halfOf 33 = .ok (.if_icmp .ge 33, 3) := by decide +kernel
theorem dX9_halfOf_36 : decode cX9_halfOf 36 = .ok (.iload_n 2, 1) := by decide +kernel
theorem dX9_halfOf_37 : decode cX9_halfOf 37 = .ok (.aload_n 0, 1) := by decide +kernel
theorem dX9_halfOf_38 : decode cX9_halfOf 38 = .ok (.getfield 14, 3) := by decide +kernel
theorem dX9_halfOf_41 : decode cX9_halfOf 41 = .ok (.iload_n 3, 1) := by decide +kernel
theorem dX9_halfOf_42 : decode cX9_halfOf 42 = .ok (.invokevirtual 48, 3) := by decide +kernel
theorem dX9_halfOf_45 : decode cX9_halfOf 45 = .ok (.invokestatic 67, 3) := by decide +kernel
theorem dX9_halfOf_48 : decode cX9_halfOf 48 = .ok (.ifCond .eq 12, 3) := by decide +kernel
theorem dX9_halfOf_51 : decode cX9_halfOf 51 = .ok (.aload_n 0, 1) := by decide +kernel
theorem dX9_halfOf_52 : decode cX9_halfOf 52 = .ok (.getfield 14, 3) := by decide +kernel
theorem dX9_halfOf_55 : decode cX9_halfOf 55 = .ok (.iload_n 3, 1) := by decide +kernel
theorem dX9_halfOf_56 : decode cX9_halfOf 56 = .ok (.invokevirtual 48, 3) := by decide +kernel
theorem dX9_halfOf_59 : decode cX9_halfOf 59 = .ok (.ireturn, 1) := by decide +kernel
theorem dX9_halfOf_60 : decode cX9_halfOf 60 = .ok (.iinc 3 1, 3) := by decide +kernel
theorem dX9_halfOf_63 : decode cX9_halfOf 63 = .ok (.goto (-38), 3) := by decide +kernel
theorem dX9_halfOf_66 : decode cX9_halfOf 66 = .ok (.bipush (-9), 2) := by decide +kernel
theorem dX9_halfOf_68 : decode cX9_halfOf 68 = .ok (.ireturn, 1) := by decide +kernel
set_option maxRecDepth 20000 in
theorem ggX9_startsOfLateWays_X5_column : GoodIn wsX9_startsOfLateWays wsX5_column := goodIn_r _ [5, 6, 7, 4, 8, 9, 10, 11, 12, 13, 14] (by decide +kernel) (by decide +kernel)
set_option maxRecDepth 20000 in
theorem gX9_startsOfLateWays_X5_column : GoodIn wsX9_startsOfLateWays (va_wsS RX9 71 yX5_column wsX5_column) := goodIn_app (goodIn_of _ (by decide +kernel)) ggX9_startsOfLateWays_X5_column
set_option maxRecDepth 20000 in
theorem ggX9_startsOfLateWays_X5_first : GoodIn wsX9_startsOfLateWays wsX5_first := goodIn_r _ [17, 18, 19, 20, 21, 22, 23, 24] (by decide +kernel) (by decide +kernel)
set_option maxRecDepth 20000 in
theorem gX9_startsOfLateWays_X5_first : GoodIn wsX9_startsOfLateWays (va_wsS RX9 75 yX5_first wsX5_first) := goodIn_app (goodIn_of _ (by decide +kernel)) ggX9_startsOfLateWays_X5_first
set_option maxRecDepth 20000 in
theorem ggX9_startsOfLateWays_X9_orderOf : GoodIn wsX9_startsOfLateWays wsX9_orderOf := goodIn_r _ [29, 30, 31, 32, 33, 34, 35, 36, 37, 38, 39, 40, 41, 43, 44, 45, 46, 47] (by decide +kernel) (by decide +kernel)
set_option maxRecDepth 20000 in
theorem gX9_startsOfLateWays_X9_orderOf : GoodIn wsX9_startsOfLateWays (wsV RX9 61 RX9 yX9_orderOf wsX9_orderOf) := goodIn_app (goodIn_of _ (by decide +kernel)) ggX9_startsOfLateWays_X9_orderOf
set_option maxRecDepth 20000 in
theorem ggX9_startsOfLateWays_X5_only : GoodIn wsX9_startsOfLateWays wsX5_only := goodIn_r _ [14] (by decide +kernel) (by decide +kernel)
set_option maxRecDepth 20000 in
theorem gX9_startsOfLateWays_X5_only : GoodIn wsX9_startsOfLateWays (va_wsS RX9 38 yX5_only wsX5_only) := goodIn_app (goodIn_of _ (by decide +kernel)) ggX9_startsOfLateWays_X5_only
theorem dX9_startsOfLateWays_0 : decode cX9_startsOfLateWays 0 = .ok (.aload_n 0, 1) := by decide +kernel
theorem dX9_startsOfLateWays_1 : decode cX9_startsOfLateWays 1 = .ok (.getfield 29, 3) := by decide +kernel
theorem dX9_startsOfLateWays_4 : decode cX9_startsOfLateWays 4 = .ok (.iload_n 1, 1) := by decide +kernel
theorem dX9_startsOfLateWays_5 : decode cX9_startsOfLateWays 5 = .ok (.invokestatic 71, 3) := by decide +kernel
theorem dX9_startsOfLateWays_8 : decode cX9_startsOfLateWays 8 = .ok (.istore_n 2, 1) := by decide +kernel
theorem dX9_startsOfLateWays_9 : decode cX9_startsOfLateWays 9 = .ok (.iload_n 2, 1) := by decide +kernel
theorem dX9_startsOfLateWays_10 : decode cX9_startsOfLateWays 10 = .ok (.istore_n 3, 1) := by decide +kernel
theorem dX9_startsOfLateWays_11 : decode cX9_startsOfLateWays 11 = .ok (.iconst 0, 1) := by decide +kernel
theorem dX9_startsOfLateWays_12 : decode cX9_startsOfLateWays 12 = .ok (.istore 4, 2) := by decide +kernel
theorem dX9_startsOfLateWays_14 : decode cX9_startsOfLateWays 14 = .ok (.iload 4, 2) := by decide +kernel
theorem dX9_startsOfLateWays_16 : decode cX9_startsOfLateWays 16 = .ok (.bipush 8, 2) := by decide +kernel
theorem dX9_startsOfLateWays_18 : decode cX9_startsOfLateWays 18 = .ok (.if_icmp .ge 70, 3) := by decide +kernel
theorem dX9_startsOfLateWays_21 : decode cX9_startsOfLateWays 21 = .ok (.iload_n 3, 1) := by decide +kernel
theorem dX9_startsOfLateWays_22 : decode cX9_startsOfLateWays 22 = .ok (.ifCond .eq 66, 3) := by decide +kernel
theorem dX9_startsOfLateWays_25 : decode cX9_startsOfLateWays 25 = .ok (.iload_n 3, 1) := by decide +kernel
theorem dX9_startsOfLateWays_26 : decode cX9_startsOfLateWays 26 = .ok (.invokestatic 75, 3) := by decide +kernel
theorem dX9_startsOfLateWays_29 : decode cX9_startsOfLateWays 29 = .ok (.istore 5, 2) := by decide +kernel
theorem dX9_startsOfLateWays_31 : decode cX9_startsOfLateWays 31 = .ok (.aload_n 0, 1) := by decide +kernel
theorem dX9_startsOfLateWays_32 : decode cX9_startsOfLateWays 32 = .ok (.iload 5, 2) := by decide +kernel
theorem dX9_startsOfLateWays_34 : decode cX9_startsOfLateWays 34 = .ok (.invokevirtual 61, 3) := by decide +kernel
theorem dX9_startsOfLateWays_37 : decode cX9_startsOfLateWays 37 = .ok (.aload_n 0, 1) := by decide +kernel
theorem dX9_startsOfLateWays_38 : decode cX9_startsOfLateWays 38 = .ok (.iload_n 1, 1) := by decide +kernel
theorem dX9_startsOfLateWays_39 : decode cX9_startsOfLateWays 39 = .ok (.invokevirtual 61, 3) := by decide +kernel
theorem dX9_startsOfLateWays_42 : decode cX9_startsOfLateWays 42 = .ok (.if_icmp .le 19, 3) := by decide +kernel
theorem dX9_startsOfLateWays_45 : decode cX9_startsOfLateWays 45 = .ok (.aload_n 0, 1) := by decide +kernel
theorem dX9_startsOfLateWays_46 : decode cX9_startsOfLateWays 46 = .ok (.getfield 29, 3) := by decide +kernel
theorem dX9_startsOfLateWays_49 : decode cX9_startsOfLateWays 49 = .ok (.iload 5, 2) := by decide +kernel
theorem dX9_startsOfLateWays_51 : decode cX9_startsOfLateWays 51 = .ok (.invokestatic 71, 3) := by decide +kernel
theorem dX9_startsOfLateWays_54 : decode cX9_startsOfLateWays 54 = .ok (.iload_n 2, 1) := by decide +kernel
theorem dX9_startsOfLateWays_55 : decode cX9_startsOfLateWays 55 = .ok (.iconst (-1), 1) := by decide +kernel
theorem dX9_startsOfLateWays_56 : decode cX9_startsOfLateWays 56 = .ok (.ixor, 1) := by decide +kernel
theorem dX9_startsOfLateWays_57 : decode cX9_startsOfLateWays 57 = .ok (.iand, 1) := by decide +kernel
theorem dX9_startsOfLateWays_58 : decode cX9_startsOfLateWays 58 = .ok (.goto 4, 3) := by decide +kernel
theorem dX9_startsOfLateWays_61 : decode cX9_startsOfLateWays 61 = .ok (.iconst 0, 1) := by decide +kernel
theorem dX9_startsOfLateWays_62 : decode cX9_startsOfLateWays 62 = .ok (.istore 6, 2) := by decide +kernel
theorem dX9_startsOfLateWays_64 : decode cX9_startsOfLateWays 64 = .ok (.iload_n 2, 1) := by decide +kernel
theorem dX9_startsOfLateWays_65 : decode cX9_startsOfLateWays 65 = .ok (.iload 6, 2) := by decide +kernel
theorem dX9_startsOfLateWays_67 : decode cX9_startsOfLateWays 67 = .ok (.ior, 1) := by decide +kernel
theorem dX9_startsOfLateWays_68 : decode cX9_startsOfLateWays 68 = .ok (.istore_n 2, 1) := by decide +kernel
theorem dX9_startsOfLateWays_69 : decode cX9_startsOfLateWays 69 = .ok (.iload_n 3, 1) := by decide +kernel
theorem dX9_startsOfLateWays_70 : decode cX9_startsOfLateWays 70 = .ok (.iload 5, 2) := by decide +kernel
theorem dX9_startsOfLateWays_72 : decode cX9_startsOfLateWays 72 = .ok (.invokestatic 38, 3) := by decide +kernel
theorem dX9_startsOfLateWays_75 : decode cX9_startsOfLateWays 75 = .ok (.iconst (-1), 1) := by decide +kernel
theorem dX9_startsOfLateWays_76 : decode cX9_startsOfLateWays 76 = .ok (.ixor, 1) := by decide +kernel
theorem dX9_startsOfLateWays_77 : decode cX9_startsOfLateWays 77 = .ok (.iand, 1) := by decide +kernel
theorem dX9_startsOfLateWays_78 : decode cX9_startsOfLateWays 78 = .ok (.iload 6, 2) := by decide +kernel
theorem dX9_startsOfLateWays_80 : decode cX9_startsOfLateWays 80 = .ok (.ior, 1) := by decide +kernel
theorem dX9_startsOfLateWays_81 : decode cX9_startsOfLateWays 81 = .ok (.istore_n 3, 1) := by decide +kernel
theorem dX9_startsOfLateWays_82 : decode cX9_startsOfLateWays 82 = .ok (.iinc 4 1, 3) := by decide +kernel
theorem dX9_startsOfLateWays_85 : decode cX9_startsOfLateWays 85 = .ok (.goto (-71), 3) := by decide +kernel
theorem dX9_startsOfLateWays_88 : decode cX9_startsOfLateWays 88 = .ok (.iload_n 2, 1) := by decide +kernel
theorem dX9_startsOfLateWays_89 : decode cX9_startsOfLateWays 89 = .ok (.ireturn, 1) := by decide +kernel
abbrev vwCl : List vw_C := [(RX0, TX0, 2), (RX2, TX2, 4), (RX3, TX3, 3), (RX6, TX6, 2), (RX7, TX7, 2), (RX8, TX8, 1), (RX9, TX9, 3), (RX10, TX10, 13), (RX11, TX11, 22)]
