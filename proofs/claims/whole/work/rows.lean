section
-- ===== PART A: goes FIRST, ahead of the names: the tables' words, and 'selects' of the private methods out of them =====
/-- a private method of a class that the tables say can be made, by its rows of tables_1 -/
def lw_okq (q : MethodName × Nat) : Prop := (q.1.cls ≠ "java/lang/invoke/MethodHandle" ∧ q.1.cls ≠ "java/lang/invoke/VarHandle") ∧ Cond.instantiable q.1.cls q.2 ∈ tables_1 ∧ Cond.privateMethod q.1 ∈ tables_1 ∧ Cond.instanceMethod q.1 ∈ tables_1
theorem lw_p0 : lw_okq (⟨"TurnBoards$Group", "findBack", "(I)I"⟩, 6) := ⟨⟨by decide +kernel, by decide +kernel⟩, List.mem_of_getElem? (i := 20) (by decide +kernel), List.mem_of_getElem? (i := 37) (by decide +kernel), List.mem_of_getElem? (i := 38) (by decide +kernel)⟩
theorem lw_p1 : lw_okq (⟨"TurnBoards$Group", "findClass", "(I)I"⟩, 6) := ⟨⟨by decide +kernel, by decide +kernel⟩, List.mem_of_getElem? (i := 20) (by decide +kernel), List.mem_of_getElem? (i := 45) (by decide +kernel), List.mem_of_getElem? (i := 46) (by decide +kernel)⟩
theorem lw_p2 : lw_okq (⟨"TurnBoards", "takeDraft", "(I)I"⟩, 7) := ⟨⟨by decide +kernel, by decide +kernel⟩, List.mem_of_getElem? (i := 12) (by decide +kernel), List.mem_of_getElem? (i := 252) (by decide +kernel), List.mem_of_getElem? (i := 253) (by decide +kernel)⟩
theorem lw_p3 : lw_okq (⟨"TurnBoards", "draftFrom", "(LTurnBoards$Sheet;II)I"⟩, 7) := ⟨⟨by decide +kernel, by decide +kernel⟩, List.mem_of_getElem? (i := 12) (by decide +kernel), List.mem_of_getElem? (i := 289) (by decide +kernel), List.mem_of_getElem? (i := 290) (by decide +kernel)⟩
theorem lw_p4 : lw_okq (⟨"TurnBoards$Group", "drafted", "(II)I"⟩, 6) := ⟨⟨by decide +kernel, by decide +kernel⟩, List.mem_of_getElem? (i := 20) (by decide +kernel), List.mem_of_getElem? (i := 301) (by decide +kernel), List.mem_of_getElem? (i := 302) (by decide +kernel)⟩
theorem lw_p5 : lw_okq (⟨"TurnBoards$Group", "draftHasBack", "(II)Z"⟩, 6) := ⟨⟨by decide +kernel, by decide +kernel⟩, List.mem_of_getElem? (i := 20) (by decide +kernel), List.mem_of_getElem? (i := 305) (by decide +kernel), List.mem_of_getElem? (i := 306) (by decide +kernel)⟩
theorem lw_p6 : lw_okq (⟨"TurnBoards$Group", "draftJoinFault", "(I)I"⟩, 6) := ⟨⟨by decide +kernel, by decide +kernel⟩, List.mem_of_getElem? (i := 20) (by decide +kernel), List.mem_of_getElem? (i := 309) (by decide +kernel), List.mem_of_getElem? (i := 310) (by decide +kernel)⟩
theorem lw_p7 : lw_okq (⟨"TurnBoards", "isTurn", "(I)Z"⟩, 7) := ⟨⟨by decide +kernel, by decide +kernel⟩, List.mem_of_getElem? (i := 12) (by decide +kernel), List.mem_of_getElem? (i := 317) (by decide +kernel), List.mem_of_getElem? (i := 318) (by decide +kernel)⟩
theorem lw_p8 : lw_okq (⟨"TurnBoards", "isPoint", "(I)Z"⟩, 7) := ⟨⟨by decide +kernel, by decide +kernel⟩, List.mem_of_getElem? (i := 12) (by decide +kernel), List.mem_of_getElem? (i := 375) (by decide +kernel), List.mem_of_getElem? (i := 376) (by decide +kernel)⟩
theorem lw_p9 : lw_okq (⟨"TurnBoards$Board", "joinParts", "(II)V"⟩, 10) := ⟨⟨by decide +kernel, by decide +kernel⟩, List.mem_of_getElem? (i := 82) (by decide +kernel), List.mem_of_getElem? (i := 383) (by decide +kernel), List.mem_of_getElem? (i := 384) (by decide +kernel)⟩
theorem lw_p10 : lw_okq (⟨"TurnBoards", "isWalk", "(I)Z"⟩, 7) := ⟨⟨by decide +kernel, by decide +kernel⟩, List.mem_of_getElem? (i := 12) (by decide +kernel), List.mem_of_getElem? (i := 400) (by decide +kernel), List.mem_of_getElem? (i := 401) (by decide +kernel)⟩
theorem lw_p11 : lw_okq (⟨"TurnBoards", "isLine", "(I)Z"⟩, 7) := ⟨⟨by decide +kernel, by decide +kernel⟩, List.mem_of_getElem? (i := 12) (by decide +kernel), List.mem_of_getElem? (i := 404) (by decide +kernel), List.mem_of_getElem? (i := 405) (by decide +kernel)⟩
theorem lw_p12 : lw_okq (⟨"TurnBoards$Board", "reachAlong", "(ILTurnBoards$Group;)V"⟩, 10) := ⟨⟨by decide +kernel, by decide +kernel⟩, List.mem_of_getElem? (i := 82) (by decide +kernel), List.mem_of_getElem? (i := 477) (by decide +kernel), List.mem_of_getElem? (i := 478) (by decide +kernel)⟩
theorem lw_p13 : lw_okq (⟨"TurnBoards", "isSpent", "()Z"⟩, 7) := ⟨⟨by decide +kernel, by decide +kernel⟩, List.mem_of_getElem? (i := 12) (by decide +kernel), List.mem_of_getElem? (i := 497) (by decide +kernel), List.mem_of_getElem? (i := 498) (by decide +kernel)⟩
theorem lw_p14 : lw_okq (⟨"TurnBoards", "sumOfWeights", "()J"⟩, 7) := ⟨⟨by decide +kernel, by decide +kernel⟩, List.mem_of_getElem? (i := 12) (by decide +kernel), List.mem_of_getElem? (i := 503) (by decide +kernel), List.mem_of_getElem? (i := 504) (by decide +kernel)⟩
theorem lw_p15 : lw_okq (⟨"TurnBoards", "lookForWeights", "()V"⟩, 7) := ⟨⟨by decide +kernel, by decide +kernel⟩, List.mem_of_getElem? (i := 12) (by decide +kernel), List.mem_of_getElem? (i := 511) (by decide +kernel), List.mem_of_getElem? (i := 512) (by decide +kernel)⟩
def lw_privs_1 : List (MethodName × Nat) := [(⟨"TurnBoards$Group", "findBack", "(I)I"⟩, 6), (⟨"TurnBoards$Group", "findClass", "(I)I"⟩, 6), (⟨"TurnBoards", "takeDraft", "(I)I"⟩, 7), (⟨"TurnBoards", "draftFrom", "(LTurnBoards$Sheet;II)I"⟩, 7), (⟨"TurnBoards$Group", "drafted", "(II)I"⟩, 6), (⟨"TurnBoards$Group", "draftHasBack", "(II)Z"⟩, 6), (⟨"TurnBoards$Group", "draftJoinFault", "(I)I"⟩, 6), (⟨"TurnBoards", "isTurn", "(I)Z"⟩, 7), (⟨"TurnBoards", "isPoint", "(I)Z"⟩, 7), (⟨"TurnBoards$Board", "joinParts", "(II)V"⟩, 10), (⟨"TurnBoards", "isWalk", "(I)Z"⟩, 7), (⟨"TurnBoards", "isLine", "(I)Z"⟩, 7), (⟨"TurnBoards$Board", "reachAlong", "(ILTurnBoards$Group;)V"⟩, 10), (⟨"TurnBoards", "isSpent", "()Z"⟩, 7), (⟨"TurnBoards", "sumOfWeights", "()J"⟩, 7), (⟨"TurnBoards", "lookForWeights", "()V"⟩, 7)]
theorem lw_r1 : ∀ q ∈ lw_privs_1, lw_okq q := List.forall_mem_cons.mpr ⟨lw_p0, List.forall_mem_cons.mpr ⟨lw_p1, List.forall_mem_cons.mpr ⟨lw_p2, List.forall_mem_cons.mpr ⟨lw_p3, List.forall_mem_cons.mpr ⟨lw_p4, List.forall_mem_cons.mpr ⟨lw_p5, List.forall_mem_cons.mpr ⟨lw_p6, List.forall_mem_cons.mpr ⟨lw_p7, List.forall_mem_cons.mpr ⟨lw_p8, List.forall_mem_cons.mpr ⟨lw_p9, List.forall_mem_cons.mpr ⟨lw_p10, List.forall_mem_cons.mpr ⟨lw_p11, List.forall_mem_cons.mpr ⟨lw_p12, List.forall_mem_cons.mpr ⟨lw_p13, List.forall_mem_cons.mpr ⟨lw_p14, List.forall_mem_cons.mpr ⟨lw_p15, fun _ h => absurd h List.not_mem_nil⟩⟩⟩⟩⟩⟩⟩⟩⟩⟩⟩⟩⟩⟩⟩⟩
theorem lw_p16 : lw_okq (⟨"TurnBoards", "sumLooked", "()J"⟩, 7) := ⟨⟨by decide +kernel, by decide +kernel⟩, List.mem_of_getElem? (i := 12) (by decide +kernel), List.mem_of_getElem? (i := 519) (by decide +kernel), List.mem_of_getElem? (i := 520) (by decide +kernel)⟩
theorem lw_p17 : lw_okq (⟨"TurnBoards$Sums", "factorBehind", "(I[LTurnBoards$Walk;LTurnBoards$Group;)J"⟩, 6) := ⟨⟨by decide +kernel, by decide +kernel⟩, List.mem_of_getElem? (i := 151) (by decide +kernel), List.mem_of_getElem? (i := 537) (by decide +kernel), List.mem_of_getElem? (i := 538) (by decide +kernel)⟩
theorem lw_p18 : lw_okq (⟨"TurnBoards", "isClosedWalk", "(I)Z"⟩, 7) := ⟨⟨by decide +kernel, by decide +kernel⟩, List.mem_of_getElem? (i := 12) (by decide +kernel), List.mem_of_getElem? (i := 547) (by decide +kernel), List.mem_of_getElem? (i := 548) (by decide +kernel)⟩
theorem lw_p19 : lw_okq (⟨"TurnBoards", "sumHeld", "(II)J"⟩, 7) := ⟨⟨by decide +kernel, by decide +kernel⟩, List.mem_of_getElem? (i := 12) (by decide +kernel), List.mem_of_getElem? (i := 552) (by decide +kernel), List.mem_of_getElem? (i := 553) (by decide +kernel)⟩
theorem lw_p20 : lw_okq (⟨"TurnBoards", "linesFault", "(LTurnBoards$Sheet;I)I"⟩, 7) := ⟨⟨by decide +kernel, by decide +kernel⟩, List.mem_of_getElem? (i := 12) (by decide +kernel), List.mem_of_getElem? (i := 596) (by decide +kernel), List.mem_of_getElem? (i := 597) (by decide +kernel)⟩
theorem lw_p21 : lw_okq (⟨"TurnBoards", "fillLines", "(LTurnBoards$Sheet;I)I"⟩, 7) := ⟨⟨by decide +kernel, by decide +kernel⟩, List.mem_of_getElem? (i := 12) (by decide +kernel), List.mem_of_getElem? (i := 600) (by decide +kernel), List.mem_of_getElem? (i := 601) (by decide +kernel)⟩
theorem lw_p22 : lw_okq (⟨"TurnBoards", "walksThatWeigh", "()I"⟩, 7) := ⟨⟨by decide +kernel, by decide +kernel⟩, List.mem_of_getElem? (i := 12) (by decide +kernel), List.mem_of_getElem? (i := 608) (by decide +kernel), List.mem_of_getElem? (i := 609) (by decide +kernel)⟩
theorem lw_p23 : lw_okq (⟨"TurnBoardsModel", "begin", "(I)V"⟩, 27) := ⟨⟨by decide +kernel, by decide +kernel⟩, List.mem_of_getElem? (i := 612) (by decide +kernel), List.mem_of_getElem? (i := 711) (by decide +kernel), List.mem_of_getElem? (i := 712) (by decide +kernel)⟩
theorem lw_p24 : lw_okq (⟨"TurnBoardsModel", "isTurn", "(I)Z"⟩, 27) := ⟨⟨by decide +kernel, by decide +kernel⟩, List.mem_of_getElem? (i := 612) (by decide +kernel), List.mem_of_getElem? (i := 733) (by decide +kernel), List.mem_of_getElem? (i := 734) (by decide +kernel)⟩
theorem lw_p25 : lw_okq (⟨"TurnBoardsModel", "product", "(II)I"⟩, 27) := ⟨⟨by decide +kernel, by decide +kernel⟩, List.mem_of_getElem? (i := 612) (by decide +kernel), List.mem_of_getElem? (i := 737) (by decide +kernel), List.mem_of_getElem? (i := 738) (by decide +kernel)⟩
theorem lw_p26 : lw_okq (⟨"TurnBoardsModel", "backOf", "(I)I"⟩, 27) := ⟨⟨by decide +kernel, by decide +kernel⟩, List.mem_of_getElem? (i := 612) (by decide +kernel), List.mem_of_getElem? (i := 746) (by decide +kernel), List.mem_of_getElem? (i := 747) (by decide +kernel)⟩
theorem lw_p27 : lw_okq (⟨"TurnBoardsModel", "classOf", "(I)I"⟩, 27) := ⟨⟨by decide +kernel, by decide +kernel⟩, List.mem_of_getElem? (i := 612) (by decide +kernel), List.mem_of_getElem? (i := 750) (by decide +kernel), List.mem_of_getElem? (i := 751) (by decide +kernel)⟩
theorem lw_p28 : lw_okq (⟨"TurnBoardsModel", "alikeWith", "(I)I"⟩, 27) := ⟨⟨by decide +kernel, by decide +kernel⟩, List.mem_of_getElem? (i := 612) (by decide +kernel), List.mem_of_getElem? (i := 754) (by decide +kernel), List.mem_of_getElem? (i := 755) (by decide +kernel)⟩
theorem lw_p29 : lw_okq (⟨"TurnBoardsModel", "isPoint", "(I)Z"⟩, 27) := ⟨⟨by decide +kernel, by decide +kernel⟩, List.mem_of_getElem? (i := 612) (by decide +kernel), List.mem_of_getElem? (i := 776) (by decide +kernel), List.mem_of_getElem? (i := 777) (by decide +kernel)⟩
theorem lw_p30 : lw_okq (⟨"TurnBoardsModel", "isWalk", "(I)Z"⟩, 27) := ⟨⟨by decide +kernel, by decide +kernel⟩, List.mem_of_getElem? (i := 612) (by decide +kernel), List.mem_of_getElem? (i := 788) (by decide +kernel), List.mem_of_getElem? (i := 789) (by decide +kernel)⟩
theorem lw_p31 : lw_okq (⟨"TurnBoardsModel", "isLine", "(I)Z"⟩, 27) := ⟨⟨by decide +kernel, by decide +kernel⟩, List.mem_of_getElem? (i := 612) (by decide +kernel), List.mem_of_getElem? (i := 792) (by decide +kernel), List.mem_of_getElem? (i := 793) (by decide +kernel)⟩
def lw_privs_2 : List (MethodName × Nat) := [(⟨"TurnBoards", "sumLooked", "()J"⟩, 7), (⟨"TurnBoards$Sums", "factorBehind", "(I[LTurnBoards$Walk;LTurnBoards$Group;)J"⟩, 6), (⟨"TurnBoards", "isClosedWalk", "(I)Z"⟩, 7), (⟨"TurnBoards", "sumHeld", "(II)J"⟩, 7), (⟨"TurnBoards", "linesFault", "(LTurnBoards$Sheet;I)I"⟩, 7), (⟨"TurnBoards", "fillLines", "(LTurnBoards$Sheet;I)I"⟩, 7), (⟨"TurnBoards", "walksThatWeigh", "()I"⟩, 7), (⟨"TurnBoardsModel", "begin", "(I)V"⟩, 27), (⟨"TurnBoardsModel", "isTurn", "(I)Z"⟩, 27), (⟨"TurnBoardsModel", "product", "(II)I"⟩, 27), (⟨"TurnBoardsModel", "backOf", "(I)I"⟩, 27), (⟨"TurnBoardsModel", "classOf", "(I)I"⟩, 27), (⟨"TurnBoardsModel", "alikeWith", "(I)I"⟩, 27), (⟨"TurnBoardsModel", "isPoint", "(I)Z"⟩, 27), (⟨"TurnBoardsModel", "isWalk", "(I)Z"⟩, 27), (⟨"TurnBoardsModel", "isLine", "(I)Z"⟩, 27)]
theorem lw_r2 : ∀ q ∈ lw_privs_2, lw_okq q := List.forall_mem_cons.mpr ⟨lw_p16, List.forall_mem_cons.mpr ⟨lw_p17, List.forall_mem_cons.mpr ⟨lw_p18, List.forall_mem_cons.mpr ⟨lw_p19, List.forall_mem_cons.mpr ⟨lw_p20, List.forall_mem_cons.mpr ⟨lw_p21, List.forall_mem_cons.mpr ⟨lw_p22, List.forall_mem_cons.mpr ⟨lw_p23, List.forall_mem_cons.mpr ⟨lw_p24, List.forall_mem_cons.mpr ⟨lw_p25, List.forall_mem_cons.mpr ⟨lw_p26, List.forall_mem_cons.mpr ⟨lw_p27, List.forall_mem_cons.mpr ⟨lw_p28, List.forall_mem_cons.mpr ⟨lw_p29, List.forall_mem_cons.mpr ⟨lw_p30, List.forall_mem_cons.mpr ⟨lw_p31, fun _ h => absurd h List.not_mem_nil⟩⟩⟩⟩⟩⟩⟩⟩⟩⟩⟩⟩⟩⟩⟩⟩
theorem lw_p32 : lw_okq (⟨"TurnBoardsModel", "endOf", "(I)I"⟩, 27) := ⟨⟨by decide +kernel, by decide +kernel⟩, List.mem_of_getElem? (i := 612) (by decide +kernel), List.mem_of_getElem? (i := 796) (by decide +kernel), List.mem_of_getElem? (i := 797) (by decide +kernel)⟩
theorem lw_p33 : lw_okq (⟨"TurnBoardsModel", "layBacks", "()V"⟩, 27) := ⟨⟨by decide +kernel, by decide +kernel⟩, List.mem_of_getElem? (i := 612) (by decide +kernel), List.mem_of_getElem? (i := 808) (by decide +kernel), List.mem_of_getElem? (i := 809) (by decide +kernel)⟩
theorem lw_p34 : lw_okq (⟨"TurnBoardsModel", "takeLines", "()V"⟩, 27) := ⟨⟨by decide +kernel, by decide +kernel⟩, List.mem_of_getElem? (i := 612) (by decide +kernel), List.mem_of_getElem? (i := 812) (by decide +kernel), List.mem_of_getElem? (i := 813) (by decide +kernel)⟩
theorem lw_p35 : lw_okq (⟨"TurnBoardsModel", "isClosed", "(I)Z"⟩, 27) := ⟨⟨by decide +kernel, by decide +kernel⟩, List.mem_of_getElem? (i := 612) (by decide +kernel), List.mem_of_getElem? (i := 816) (by decide +kernel), List.mem_of_getElem? (i := 817) (by decide +kernel)⟩
theorem lw_p36 : lw_okq (⟨"TurnBoardsModel", "turnOf", "(I)I"⟩, 27) := ⟨⟨by decide +kernel, by decide +kernel⟩, List.mem_of_getElem? (i := 612) (by decide +kernel), List.mem_of_getElem? (i := 820) (by decide +kernel), List.mem_of_getElem? (i := 821) (by decide +kernel)⟩
theorem lw_p37 : lw_okq (⟨"TurnBoardsModel", "record", "()V"⟩, 27) := ⟨⟨by decide +kernel, by decide +kernel⟩, List.mem_of_getElem? (i := 612) (by decide +kernel), List.mem_of_getElem? (i := 836) (by decide +kernel), List.mem_of_getElem? (i := 837) (by decide +kernel)⟩
theorem lw_p38 : lw_okq (⟨"TurnBoardsModel", "weightOf", "()J"⟩, 27) := ⟨⟨by decide +kernel, by decide +kernel⟩, List.mem_of_getElem? (i := 612) (by decide +kernel), List.mem_of_getElem? (i := 848) (by decide +kernel), List.mem_of_getElem? (i := 849) (by decide +kernel)⟩
theorem lw_p39 : lw_okq (⟨"TurnBoardsModel", "turned", "()I"⟩, 27) := ⟨⟨by decide +kernel, by decide +kernel⟩, List.mem_of_getElem? (i := 612) (by decide +kernel), List.mem_of_getElem? (i := 856) (by decide +kernel), List.mem_of_getElem? (i := 857) (by decide +kernel)⟩
theorem lw_p40 : lw_okq (⟨"TurnBoardsModel", "layTree", "()I"⟩, 27) := ⟨⟨by decide +kernel, by decide +kernel⟩, List.mem_of_getElem? (i := 612) (by decide +kernel), List.mem_of_getElem? (i := 864) (by decide +kernel), List.mem_of_getElem? (i := 865) (by decide +kernel)⟩
theorem lw_p41 : lw_okq (⟨"TurnBoardsModel", "summed", "(III)J"⟩, 27) := ⟨⟨by decide +kernel, by decide +kernel⟩, List.mem_of_getElem? (i := 612) (by decide +kernel), List.mem_of_getElem? (i := 876) (by decide +kernel), List.mem_of_getElem? (i := 877) (by decide +kernel)⟩
theorem lw_p42 : lw_okq (⟨"TurnBoardsModel", "power", "(I)J"⟩, 27) := ⟨⟨by decide +kernel, by decide +kernel⟩, List.mem_of_getElem? (i := 612) (by decide +kernel), List.mem_of_getElem? (i := 880) (by decide +kernel), List.mem_of_getElem? (i := 881) (by decide +kernel)⟩
theorem lw_p43 : lw_okq (⟨"TurnBoardsModel", "isFlat", "()Z"⟩, 27) := ⟨⟨by decide +kernel, by decide +kernel⟩, List.mem_of_getElem? (i := 612) (by decide +kernel), List.mem_of_getElem? (i := 886) (by decide +kernel), List.mem_of_getElem? (i := 887) (by decide +kernel)⟩
theorem lw_p44 : lw_okq (⟨"TurnBoardsModel", "canSum", "(II)Z"⟩, 27) := ⟨⟨by decide +kernel, by decide +kernel⟩, List.mem_of_getElem? (i := 612) (by decide +kernel), List.mem_of_getElem? (i := 894) (by decide +kernel), List.mem_of_getElem? (i := 895) (by decide +kernel)⟩
def lw_privs_3 : List (MethodName × Nat) := [(⟨"TurnBoardsModel", "endOf", "(I)I"⟩, 27), (⟨"TurnBoardsModel", "layBacks", "()V"⟩, 27), (⟨"TurnBoardsModel", "takeLines", "()V"⟩, 27), (⟨"TurnBoardsModel", "isClosed", "(I)Z"⟩, 27), (⟨"TurnBoardsModel", "turnOf", "(I)I"⟩, 27), (⟨"TurnBoardsModel", "record", "()V"⟩, 27), (⟨"TurnBoardsModel", "weightOf", "()J"⟩, 27), (⟨"TurnBoardsModel", "turned", "()I"⟩, 27), (⟨"TurnBoardsModel", "layTree", "()I"⟩, 27), (⟨"TurnBoardsModel", "summed", "(III)J"⟩, 27), (⟨"TurnBoardsModel", "power", "(I)J"⟩, 27), (⟨"TurnBoardsModel", "isFlat", "()Z"⟩, 27), (⟨"TurnBoardsModel", "canSum", "(II)Z"⟩, 27)]
theorem lw_r3 : ∀ q ∈ lw_privs_3, lw_okq q := List.forall_mem_cons.mpr ⟨lw_p32, List.forall_mem_cons.mpr ⟨lw_p33, List.forall_mem_cons.mpr ⟨lw_p34, List.forall_mem_cons.mpr ⟨lw_p35, List.forall_mem_cons.mpr ⟨lw_p36, List.forall_mem_cons.mpr ⟨lw_p37, List.forall_mem_cons.mpr ⟨lw_p38, List.forall_mem_cons.mpr ⟨lw_p39, List.forall_mem_cons.mpr ⟨lw_p40, List.forall_mem_cons.mpr ⟨lw_p41, List.forall_mem_cons.mpr ⟨lw_p42, List.forall_mem_cons.mpr ⟨lw_p43, List.forall_mem_cons.mpr ⟨lw_p44, fun _ h => absurd h List.not_mem_nil⟩⟩⟩⟩⟩⟩⟩⟩⟩⟩⟩⟩⟩
def lw_privs : List (MethodName × Nat) := lw_privs_1 ++ (lw_privs_2 ++ (lw_privs_3))
def lw_tbl : List Cond := k2_sels lw_privs ++ tables_1
theorem lw_privs_ok : ∀ q ∈ lw_privs, lw_okq q := by
  show ∀ q ∈ lw_privs_1 ++ (lw_privs_2 ++ (lw_privs_3)), lw_okq q
  exact List.forall_mem_append.mpr ⟨lw_r1, List.forall_mem_append.mpr ⟨lw_r2, lw_r3⟩⟩
end
section
/-! THE PURE MACHINE: what an instruction does, over a heap of numbers; a method is a table from places of its code to what is done there. -/
/-- a value: an int, a long, a reference (0 none, 1 the row of units, 2 the script, from 3 on the cells) -/
abbrev pm_V : Type := Int ⊕ (Int ⊕ Nat)
/-- the numbers of the heap: cell, place -/
abbrev pm_I : Type := Nat → Int → Int
abbrev pm_L : Type := List (Option pm_V)
/-- kinds, lengths, references, the rows that stand outside -/
abbrev pm_E : Type := (Nat → Nat) × (Nat → Int) × (Nat → Nat → Nat) × (Nat → Int → Int)
abbrev pm_O : Type := Option (Int × pm_I)
/-- method, rank, place, locals, stack, heap -/
abbrev pm_G : Type := Nat → Nat → Nat → pm_L → List pm_V → pm_I → pm_O
abbrev pm_S : Type := pm_E → pm_G → Nat → Nat → pm_L → List pm_V → pm_I → pm_O
abbrev pm_r32 (x : Int) : Prop := -2147483648 ≤ x ∧ x ≤ 2147483647
abbrev pm_r64 (x : Int) : Prop := -9223372036854775808 ≤ x ∧ x ≤ 9223372036854775807
def pm_w64 (x : Int) : Int := Int.bmod x 18446744073709551616
def pm_up (I : pm_I) (r : Nat) (k v : Int) : pm_I := fun a b => if a = r ∧ b = k then v else I a b
def pm_cp (I : pm_I) (q : Nat) (sp : Int) (r : Nat) (dp n : Int) : pm_I := fun a b => if a = r ∧ dp ≤ b ∧ b < dp + n then I q (sp + (b - dp)) else I a b
def pm_at : pm_L → Nat → Option pm_V
  | [], _ => none
  | a :: _, 0 => a
  | _ :: t, n + 1 => pm_at t n
def pm_lg : Option pm_V → Bool
  | some (.inr (.inl _)) => true
  | _ => false
def pm_st1 : pm_L → Nat → pm_V → pm_L
  | [], _, _ => []
  | _ :: t, 0, v => some v :: t
  | a :: t, n + 1, v => (bif (Nat.beq n 0 && pm_lg a) then none else a) :: pm_st1 t n v
def pm_cl0 : pm_L → pm_L
  | [] => []
  | _ :: t => none :: t
def pm_st2 : pm_L → Nat → pm_V → pm_L
  | [], _, _ => []
  | _ :: t, 0, v => some v :: pm_cl0 t
  | a :: t, n + 1, v => (bif (Nat.beq n 0 && pm_lg a) then none else a) :: pm_st2 t n v
def pm_wd : List pm_V → Nat
  | [] => 0
  | .inr (.inl _) :: t => 2 + pm_wd t
  | _ :: t => 1 + pm_wd t
/-- n values off the stack: the lowest first, and the rest -/
def pm_pop : Nat → List pm_V → List pm_V → Option (List pm_V × List pm_V)
  | 0, sk, av => some (av, sk)
  | n + 1, v :: sk, av => pm_pop n sk (v :: av)
  | _ + 1, [], _ => none
def pm_pad : Nat → pm_L
  | 0 => []
  | n + 1 => none :: pm_pad n
/-- the locals at a method's entry: n places are left for those that are not arguments -/
def pm_ent : List pm_V → Nat → pm_L
  | [], n => pm_pad n
  | .inr (.inl x) :: t, n => some (.inr (.inl x)) :: none :: pm_ent t n
  | v :: t, n => some v :: pm_ent t n
def pm_ret (rt : Nat) (x : Int) (sk : List pm_V) : List pm_V := match rt with
  | 0 => sk
  | 1 => .inl x :: sk
  | _ => .inr (.inl x) :: sk
/-- is the receiver of a kind (99: there is none) -/
def pm_rc (env : pm_E) (ci : Nat) (av : List pm_V) : Bool := bif Nat.beq ci 99 then true else match av with
  | .inr (.inr r) :: _ => Nat.beq (env.1 r) ci
  | _ => false
def s_bad : pm_S := fun _ _ _ _ _ _ _ => none
def s_push (n : Int) (nx : Nat) : pm_S := fun _ G y d lo sk I => G y d nx lo (.inl n :: sk) I
def s_lpush (n : Int) (nx : Nat) : pm_S := fun _ G y d lo sk I => G y d nx lo (.inr (.inl n) :: sk) I
def s_iload (i nx : Nat) : pm_S := fun _ G y d lo sk I => match pm_at lo i with
  | some (.inl n) => G y d nx lo (.inl n :: sk) I
  | _ => none
def s_lload (i nx : Nat) : pm_S := fun _ G y d lo sk I => match pm_at lo i with
  | some (.inr (.inl n)) => G y d nx lo (.inr (.inl n) :: sk) I
  | _ => none
def s_aload (i nx : Nat) : pm_S := fun _ G y d lo sk I => match pm_at lo i with
  | some (.inr (.inr n)) => G y d nx lo (.inr (.inr n) :: sk) I
  | _ => none
def s_istore (i nx : Nat) : pm_S := fun _ G y d lo sk I => match sk with
  | .inl n :: r => G y d nx (pm_st1 lo i (.inl n)) r I
  | _ => none
def s_lstore (i nx : Nat) : pm_S := fun _ G y d lo sk I => match sk with
  | .inr (.inl n) :: r => G y d nx (pm_st2 lo i (.inr (.inl n))) r I
  | _ => none
def s_astore (i nx : Nat) : pm_S := fun _ G y d lo sk I => match sk with
  | .inr (.inr n) :: r => G y d nx (pm_st1 lo i (.inr (.inr n))) r I
  | _ => none
def s_iinc (i : Nat) (k : Int) (nx : Nat) : pm_S := fun _ G y d lo sk I => match pm_at lo i with
  | some (.inl n) => if pm_r32 (n + k) then G y d nx (pm_st1 lo i (.inl (n + k))) sk I else none
  | _ => none
def s_iadd (nx : Nat) : pm_S := fun _ G y d lo sk I => match sk with
  | .inl b :: .inl a :: r => if pm_r32 (a + b) then G y d nx lo (.inl (a + b) :: r) I else none
  | _ => none
def s_isub (nx : Nat) : pm_S := fun _ G y d lo sk I => match sk with
  | .inl b :: .inl a :: r => if pm_r32 (a - b) then G y d nx lo (.inl (a - b) :: r) I else none
  | _ => none
def s_imul (nx : Nat) : pm_S := fun _ G y d lo sk I => match sk with
  | .inl b :: .inl a :: r => if pm_r32 (a * b) then G y d nx lo (.inl (a * b) :: r) I else none
  | _ => none
def s_idiv (nx : Nat) : pm_S := fun _ G y d lo sk I => match sk with
  | .inl b :: .inl a :: r => if 0 ≤ a ∧ 0 < b then G y d nx lo (.inl (a / b) :: r) I else none
  | _ => none
def s_irem (nx : Nat) : pm_S := fun _ G y d lo sk I => match sk with
  | .inl b :: .inl a :: r => if 0 ≤ a ∧ 0 < b then G y d nx lo (.inl (a % b) :: r) I else none
  | _ => none
def pm_and (a b : Int) : Int := (Int32.ofInt a &&& Int32.ofInt b).toInt
def pm_xor (a b : Int) : Int := (Int32.ofInt a ^^^ Int32.ofInt b).toInt
def pm_shl (a b : Int) : Int := (Int32.ofInt a <<< (Int32.ofInt b &&& 31)).toInt
def pm_shr (a b : Int) : Int := (Int32.ofInt a >>> (Int32.ofInt b &&& 31)).toInt
def pm_i2b (a : Int) : Int := (Int32.ofInt a).toInt8.toInt32.toInt
def pm_i2s (a : Int) : Int := (Int32.ofInt a).toInt16.toInt32.toInt
def s_iand (nx : Nat) : pm_S := fun _ G y d lo sk I => match sk with
  | .inl b :: .inl a :: r => G y d nx lo (.inl (pm_and a b) :: r) I
  | _ => none
def s_ixor (nx : Nat) : pm_S := fun _ G y d lo sk I => match sk with
  | .inl b :: .inl a :: r => G y d nx lo (.inl (pm_xor a b) :: r) I
  | _ => none
def s_ishl (nx : Nat) : pm_S := fun _ G y d lo sk I => match sk with
  | .inl b :: .inl a :: r => G y d nx lo (.inl (pm_shl a b) :: r) I
  | _ => none
def s_ishr (nx : Nat) : pm_S := fun _ G y d lo sk I => match sk with
  | .inl b :: .inl a :: r => G y d nx lo (.inl (pm_shr a b) :: r) I
  | _ => none
def s_i2b (nx : Nat) : pm_S := fun _ G y d lo sk I => match sk with
  | .inl a :: r => G y d nx lo (.inl (pm_i2b a) :: r) I
  | _ => none
def s_i2s (nx : Nat) : pm_S := fun _ G y d lo sk I => match sk with
  | .inl a :: r => G y d nx lo (.inl (pm_i2s a) :: r) I
  | _ => none
def s_i2l (nx : Nat) : pm_S := fun _ G y d lo sk I => match sk with
  | .inl a :: r => G y d nx lo (.inr (.inl a) :: r) I
  | _ => none
def s_ladd (nx : Nat) : pm_S := fun _ G y d lo sk I => match sk with
  | .inr (.inl b) :: .inr (.inl a) :: r => G y d nx lo (.inr (.inl (pm_w64 (a + b))) :: r) I
  | _ => none
def s_lmul (nx : Nat) : pm_S := fun _ G y d lo sk I => match sk with
  | .inr (.inl b) :: .inr (.inl a) :: r => G y d nx lo (.inr (.inl (pm_w64 (a * b))) :: r) I
  | _ => none
def s_ldiv (nx : Nat) : pm_S := fun _ G y d lo sk I => match sk with
  | .inr (.inl b) :: .inr (.inl a) :: r => if 0 ≤ a ∧ 0 < b then G y d nx lo (.inr (.inl (a / b)) :: r) I else none
  | _ => none
def s_lrem (nx : Nat) : pm_S := fun _ G y d lo sk I => match sk with
  | .inr (.inl b) :: .inr (.inl a) :: r => if 0 ≤ a ∧ 0 < b then G y d nx lo (.inr (.inl (a % b)) :: r) I else none
  | _ => none
def s_lcmp (nx : Nat) : pm_S := fun _ G y d lo sk I => match sk with
  | .inr (.inl b) :: .inr (.inl a) :: r => if b < a then G y d nx lo (.inl 1 :: r) I else if a = b then G y d nx lo (.inl 0 :: r) I else G y d nx lo (.inl (-1) :: r) I
  | _ => none
def s_dup (nx : Nat) : pm_S := fun _ G y d lo sk I => match sk with
  | .inl a :: r => G y d nx lo (.inl a :: .inl a :: r) I
  | .inr (.inr a) :: r => G y d nx lo (.inr (.inr a) :: .inr (.inr a) :: r) I
  | _ => none
def s_dup2 (nx : Nat) : pm_S := fun _ G y d lo sk I => match sk with
  | .inl a :: .inr (.inr b) :: r => G y d nx lo (.inl a :: .inr (.inr b) :: .inl a :: .inr (.inr b) :: r) I
  | _ => none
def s_ifeq (tg nx : Nat) : pm_S := fun _ G y d lo sk I => match sk with
  | .inl a :: r => if a = 0 then G y d tg lo r I else G y d nx lo r I
  | _ => none
def s_ifne (tg nx : Nat) : pm_S := fun _ G y d lo sk I => match sk with
  | .inl a :: r => if a = 0 then G y d nx lo r I else G y d tg lo r I
  | _ => none
def s_iflt (tg nx : Nat) : pm_S := fun _ G y d lo sk I => match sk with
  | .inl a :: r => if a < 0 then G y d tg lo r I else G y d nx lo r I
  | _ => none
def s_ifge (tg nx : Nat) : pm_S := fun _ G y d lo sk I => match sk with
  | .inl a :: r => if a < 0 then G y d nx lo r I else G y d tg lo r I
  | _ => none
def s_ifgt (tg nx : Nat) : pm_S := fun _ G y d lo sk I => match sk with
  | .inl a :: r => if 0 < a then G y d tg lo r I else G y d nx lo r I
  | _ => none
def s_ifle (tg nx : Nat) : pm_S := fun _ G y d lo sk I => match sk with
  | .inl a :: r => if 0 < a then G y d nx lo r I else G y d tg lo r I
  | _ => none
def s_ceq (tg nx : Nat) : pm_S := fun _ G y d lo sk I => match sk with
  | .inl b :: .inl a :: r => if a = b then G y d tg lo r I else G y d nx lo r I
  | _ => none
def s_cne (tg nx : Nat) : pm_S := fun _ G y d lo sk I => match sk with
  | .inl b :: .inl a :: r => if a = b then G y d nx lo r I else G y d tg lo r I
  | _ => none
def s_clt (tg nx : Nat) : pm_S := fun _ G y d lo sk I => match sk with
  | .inl b :: .inl a :: r => if a < b then G y d tg lo r I else G y d nx lo r I
  | _ => none
def s_cge (tg nx : Nat) : pm_S := fun _ G y d lo sk I => match sk with
  | .inl b :: .inl a :: r => if a < b then G y d nx lo r I else G y d tg lo r I
  | _ => none
def s_cgt (tg nx : Nat) : pm_S := fun _ G y d lo sk I => match sk with
  | .inl b :: .inl a :: r => if b < a then G y d tg lo r I else G y d nx lo r I
  | _ => none
def s_cle (tg nx : Nat) : pm_S := fun _ G y d lo sk I => match sk with
  | .inl b :: .inl a :: r => if b < a then G y d nx lo r I else G y d tg lo r I
  | _ => none
def s_goto (tg : Nat) : pm_S := fun _ G y d lo sk I => G y d tg lo sk I
def pm_swt (x : Int) (df : Nat) (k : Nat → pm_O) : List (Int × Nat) → pm_O
  | [] => k df
  | (c, t) :: ts => if x = c then k t else pm_swt x df k ts
def s_switch (ts : List (Int × Nat)) (df : Nat) : pm_S := fun _ G y d lo sk I => match sk with
  | .inl x :: r => pm_swt x df (fun t => G y d t lo r I) ts
  | _ => none
def s_getI (ci : Nat) (k : Int) (nx : Nat) : pm_S := fun env G y d lo sk I => match sk with
  | .inr (.inr r) :: t => bif Nat.beq (env.1 r) ci then G y d nx lo (.inl (I r k) :: t) I else none
  | _ => none
def s_getR (ci : Nat) (k : Nat) (nx : Nat) : pm_S := fun env G y d lo sk I => match sk with
  | .inr (.inr r) :: t => bif Nat.beq (env.1 r) ci then G y d nx lo (.inr (.inr (env.2.2.1 r k)) :: t) I else none
  | _ => none
def s_putI (ci : Nat) (k : Int) (nx : Nat) : pm_S := fun env G y d lo sk I => match sk with
  | .inl v :: .inr (.inr r) :: t => bif Nat.beq (env.1 r) ci then G y d nx lo t (pm_up I r k v) else none
  | _ => none
def s_putZ (ci : Nat) (k : Int) (nx : Nat) : pm_S := fun env G y d lo sk I => match sk with
  | .inl v :: .inr (.inr r) :: t => bif Nat.beq (env.1 r) ci then (if v = 0 ∨ v = 1 then G y d nx lo t (pm_up I r k v) else none) else none
  | _ => none
def s_units (nx : Nat) : pm_S := fun _ G y d lo sk I => G y d nx lo (.inr (.inr 1) :: sk) I
def s_iald (nx : Nat) : pm_S := fun env G y d lo sk I => match sk with
  | .inl i :: .inr (.inr r) :: t => bif Nat.beq (env.1 r) 8 then (if 0 ≤ i ∧ i < env.2.1 r then G y d nx lo (.inl (I r i) :: t) I else none)
      else bif Nat.beq (env.1 r) 50 then (if 0 ≤ i ∧ i < env.2.1 r then G y d nx lo (.inl (env.2.2.2 r i) :: t) I else none) else none
  | _ => none
def s_zald (nx : Nat) : pm_S := fun env G y d lo sk I => match sk with
  | .inl i :: .inr (.inr r) :: t => bif Nat.beq (env.1 r) 9 then (if 0 ≤ i ∧ i < env.2.1 r then G y d nx lo (.inl (I r i) :: t) I else none) else none
  | _ => none
def s_aald (nx : Nat) : pm_S := fun env G y d lo sk I => match sk with
  | .inl i :: .inr (.inr r) :: t => bif Nat.ble 10 (env.1 r) && Nat.ble (env.1 r) 12 then (if 0 ≤ i ∧ i < env.2.1 r then G y d nx lo (.inr (.inr (env.2.2.1 r i.toNat)) :: t) I else none) else none
  | _ => none
def s_iast (nx : Nat) : pm_S := fun env G y d lo sk I => match sk with
  | .inl v :: .inl i :: .inr (.inr r) :: t => bif Nat.beq (env.1 r) 8 then (if 0 ≤ i ∧ i < env.2.1 r then G y d nx lo t (pm_up I r i v) else none) else none
  | _ => none
def s_zast (nx : Nat) : pm_S := fun env G y d lo sk I => match sk with
  | .inl v :: .inl i :: .inr (.inr r) :: t => bif Nat.beq (env.1 r) 9 then (if (0 ≤ i ∧ i < env.2.1 r) ∧ (v = 0 ∨ v = 1) then G y d nx lo t (pm_up I r i v) else none) else none
  | _ => none
def s_alen (nx : Nat) : pm_S := fun env G y d lo sk I => match sk with
  | .inr (.inr r) :: t => bif Nat.beq (env.1 r) 8 || Nat.beq (env.1 r) 50 then G y d nx lo (.inl (env.2.1 r) :: t) I else none
  | _ => none
def s_min (nx : Nat) : pm_S := fun _ G y d lo sk I => match sk with
  | .inl b :: .inl a :: t => bif Nat.ble 1 d && Nat.ble (pm_wd t) 8 then G y d nx lo (.inl (min a b) :: t) I else none
  | _ => none
def s_max (nx : Nat) : pm_S := fun _ G y d lo sk I => match sk with
  | .inl b :: .inl a :: t => bif Nat.ble 1 d && Nat.ble (pm_wd t) 8 then G y d nx lo (.inl (max a b) :: t) I else none
  | _ => none
def s_copy (nx : Nat) : pm_S := fun env G y d lo sk I => match sk with
  | .inl n :: .inl dp :: .inr (.inr r) :: .inl sp :: .inr (.inr q) :: t => bif Nat.ble 1 d && Nat.ble (pm_wd t) 8 && Nat.beq (env.1 r) 8 && Nat.beq (env.1 q) 8 then
      (if (0 ≤ sp ∧ 0 ≤ dp ∧ 0 ≤ n) ∧ sp + n ≤ env.2.1 q ∧ dp + n ≤ env.2.1 r then G y d nx lo t (pm_cp I q sp r dp n) else none) else none
  | _ => none
/-- a call: the method, its arguments' number, its other locals, its receiver's kind, what it answers (0 nothing, 1 an int, 2 a long), its rank -/
def s_call (m n nl rc rt : Nat) (rk : List pm_V → Nat) (nx : Nat) : pm_S := fun env G y d lo sk I => match pm_pop n sk [] with
  | some (av, t) => bif pm_rc env rc av then (bif Nat.blt (rk av) d && Nat.ble (pm_wd t) 8 then (G m (rk av) 0 (pm_ent av nl) [] I).bind (fun x => G y d nx lo (pm_ret rt x.1 t) x.2) else none) else none
  | none => none
def s_iret : pm_S := fun _ _ _ _ _ sk I => match sk with
  | [.inl v] => some (v, I)
  | _ => none
def s_zret : pm_S := fun _ _ _ _ _ sk I => match sk with
  | [.inl v] => if v = 0 ∨ v = 1 then some (v, I) else none
  | _ => none
def s_lret : pm_S := fun _ _ _ _ _ sk I => match sk with
  | [.inr (.inl v)] => some (v, I)
  | _ => none
def s_vret : pm_S := fun _ _ _ _ _ _ I => some (0, I)
/-! tables -/
def pm_tn (p : Nat) (a b : Nat → pm_S) : Nat → pm_S := fun pc => bif Nat.ble p pc then b pc else a pc
def pm_tl (p : Nat) (s : pm_S) : Nat → pm_S := fun pc => bif Nat.beq pc p then s else s_bad
/-! a chain of machines, and its limit -/
def pm_run (T : Nat → Nat → pm_S) (env : pm_E) : Nat → pm_G
  | 0 => fun _ _ _ _ _ _ => none
  | n + 1 => fun y d pc lo sk I => T y pc env (pm_run T env n) y d lo sk I
def pm_le (F G : pm_G) : Prop := ∀ y d pc lo sk I r, F y d pc lo sk I = some r → G y d pc lo sk I = some r
/-- what s does at a limit it does at a member of the chain, and so back -/
def pm_Ct (s : pm_S) : Prop := ∀ (env : pm_E) (F : Nat → pm_G) (G : pm_G), (∀ i j, i ≤ j → pm_le (F i) (F j)) → (∀ y d pc lo sk I r, G y d pc lo sk I = some r ↔ ∃ n, F n y d pc lo sk I = some r) →
  ∀ y d lo sk I r, s env G y d lo sk I = some r ↔ ∃ n, s env (F n) y d lo sk I = some r
end
section
/-! every instruction is of one of three kinds, a call aside: so the limit does what the chain does -/
def pm_T1 (f : pm_G → pm_O) : Prop := (∀ G, f G = none) ∨ (∃ r, ∀ G, f G = some r) ∨ ∃ y d pc lo sk I, ∀ G, f G = G y d pc lo sk I
theorem pm_T1_none : pm_T1 (fun _ => none) := Or.inl (fun _ => rfl)
theorem pm_T1_some {r : Int × pm_I} : pm_T1 (fun _ => some r) := Or.inr (Or.inl ⟨r, fun _ => rfl⟩)
theorem pm_T1_go {y d pc : Nat} {lo : pm_L} {sk : List pm_V} {I : pm_I} : pm_T1 (fun G => G y d pc lo sk I) := Or.inr (Or.inr ⟨y, d, pc, lo, sk, I, fun _ => rfl⟩)
theorem pm_T1_ite {c : Prop} {h : Decidable c} {a b : pm_G → pm_O} (ha : pm_T1 a) (hb : pm_T1 b) : pm_T1 (fun G => @ite pm_O c h (a G) (b G)) := by
  by_cases hc : c
  · simpa only [if_pos hc] using ha
  · simpa only [if_neg hc] using hb
theorem pm_T1_cond {c : Bool} {a b : pm_G → pm_O} (ha : pm_T1 a) (hb : pm_T1 b) : pm_T1 (fun G => bif c then a G else b G) := by
  cases c
  · exact hb
  · exact ha
theorem pm_Ct_of {s : pm_S} (h : ∀ env y d lo sk I, pm_T1 (fun G => s env G y d lo sk I)) : pm_Ct s := by
  intro env F G hF hG y d lo sk I r
  rcases h env y d lo sk I with h | ⟨r0, h⟩ | ⟨y', d', pc', lo', sk', I', h⟩
  · have h1 : ∀ G, s env G y d lo sk I = none := h
    simp [h1]
  · have h1 : ∀ G, s env G y d lo sk I = some r0 := h
    simp [h1]
  · have h1 : ∀ G, s env G y d lo sk I = G y' d' pc' lo' sk' I' := h
    simp only [h1]
    exact hG _ _ _ _ _ _ _

theorem ct_push (n : Int) (nx : Nat) : pm_Ct (s_push n nx) := pm_Ct_of (fun env y d lo sk I => by
  unfold s_push
  first | exact pm_T1_go | exact pm_T1_none | exact pm_T1_some | skip
  all_goals split
  all_goals (repeat' (first | exact pm_T1_go | exact pm_T1_none | exact pm_T1_some | apply pm_T1_cond | apply pm_T1_ite)))

theorem ct_lpush (n : Int) (nx : Nat) : pm_Ct (s_lpush n nx) := pm_Ct_of (fun env y d lo sk I => by
  unfold s_lpush
  first | exact pm_T1_go | exact pm_T1_none | exact pm_T1_some | skip
  all_goals split
  all_goals (repeat' (first | exact pm_T1_go | exact pm_T1_none | exact pm_T1_some | apply pm_T1_cond | apply pm_T1_ite)))

theorem ct_iload (i nx : Nat) : pm_Ct (s_iload i nx) := pm_Ct_of (fun env y d lo sk I => by
  unfold s_iload
  first | exact pm_T1_go | exact pm_T1_none | exact pm_T1_some | skip
  all_goals split
  all_goals (repeat' (first | exact pm_T1_go | exact pm_T1_none | exact pm_T1_some | apply pm_T1_cond | apply pm_T1_ite)))

theorem ct_lload (i nx : Nat) : pm_Ct (s_lload i nx) := pm_Ct_of (fun env y d lo sk I => by
  unfold s_lload
  first | exact pm_T1_go | exact pm_T1_none | exact pm_T1_some | skip
  all_goals split
  all_goals (repeat' (first | exact pm_T1_go | exact pm_T1_none | exact pm_T1_some | apply pm_T1_cond | apply pm_T1_ite)))

theorem ct_aload (i nx : Nat) : pm_Ct (s_aload i nx) := pm_Ct_of (fun env y d lo sk I => by
  unfold s_aload
  first | exact pm_T1_go | exact pm_T1_none | exact pm_T1_some | skip
  all_goals split
  all_goals (repeat' (first | exact pm_T1_go | exact pm_T1_none | exact pm_T1_some | apply pm_T1_cond | apply pm_T1_ite)))

theorem ct_istore (i nx : Nat) : pm_Ct (s_istore i nx) := pm_Ct_of (fun env y d lo sk I => by
  unfold s_istore
  first | exact pm_T1_go | exact pm_T1_none | exact pm_T1_some | skip
  all_goals split
  all_goals (repeat' (first | exact pm_T1_go | exact pm_T1_none | exact pm_T1_some | apply pm_T1_cond | apply pm_T1_ite)))

theorem ct_lstore (i nx : Nat) : pm_Ct (s_lstore i nx) := pm_Ct_of (fun env y d lo sk I => by
  unfold s_lstore
  first | exact pm_T1_go | exact pm_T1_none | exact pm_T1_some | skip
  all_goals split
  all_goals (repeat' (first | exact pm_T1_go | exact pm_T1_none | exact pm_T1_some | apply pm_T1_cond | apply pm_T1_ite)))

theorem ct_astore (i nx : Nat) : pm_Ct (s_astore i nx) := pm_Ct_of (fun env y d lo sk I => by
  unfold s_astore
  first | exact pm_T1_go | exact pm_T1_none | exact pm_T1_some | skip
  all_goals split
  all_goals (repeat' (first | exact pm_T1_go | exact pm_T1_none | exact pm_T1_some | apply pm_T1_cond | apply pm_T1_ite)))

theorem ct_iinc (i : Nat) (k : Int) (nx : Nat) : pm_Ct (s_iinc i k nx) := pm_Ct_of (fun env y d lo sk I => by
  unfold s_iinc
  first | exact pm_T1_go | exact pm_T1_none | exact pm_T1_some | skip
  all_goals split
  all_goals (repeat' (first | exact pm_T1_go | exact pm_T1_none | exact pm_T1_some | apply pm_T1_cond | apply pm_T1_ite)))

theorem ct_iadd (nx : Nat) : pm_Ct (s_iadd nx) := pm_Ct_of (fun env y d lo sk I => by
  unfold s_iadd
  first | exact pm_T1_go | exact pm_T1_none | exact pm_T1_some | skip
  all_goals split
  all_goals (repeat' (first | exact pm_T1_go | exact pm_T1_none | exact pm_T1_some | apply pm_T1_cond | apply pm_T1_ite)))

theorem ct_isub (nx : Nat) : pm_Ct (s_isub nx) := pm_Ct_of (fun env y d lo sk I => by
  unfold s_isub
  first | exact pm_T1_go | exact pm_T1_none | exact pm_T1_some | skip
  all_goals split
  all_goals (repeat' (first | exact pm_T1_go | exact pm_T1_none | exact pm_T1_some | apply pm_T1_cond | apply pm_T1_ite)))

theorem ct_imul (nx : Nat) : pm_Ct (s_imul nx) := pm_Ct_of (fun env y d lo sk I => by
  unfold s_imul
  first | exact pm_T1_go | exact pm_T1_none | exact pm_T1_some | skip
  all_goals split
  all_goals (repeat' (first | exact pm_T1_go | exact pm_T1_none | exact pm_T1_some | apply pm_T1_cond | apply pm_T1_ite)))

theorem ct_idiv (nx : Nat) : pm_Ct (s_idiv nx) := pm_Ct_of (fun env y d lo sk I => by
  unfold s_idiv
  first | exact pm_T1_go | exact pm_T1_none | exact pm_T1_some | skip
  all_goals split
  all_goals (repeat' (first | exact pm_T1_go | exact pm_T1_none | exact pm_T1_some | apply pm_T1_cond | apply pm_T1_ite)))

theorem ct_irem (nx : Nat) : pm_Ct (s_irem nx) := pm_Ct_of (fun env y d lo sk I => by
  unfold s_irem
  first | exact pm_T1_go | exact pm_T1_none | exact pm_T1_some | skip
  all_goals split
  all_goals (repeat' (first | exact pm_T1_go | exact pm_T1_none | exact pm_T1_some | apply pm_T1_cond | apply pm_T1_ite)))

theorem ct_iand (nx : Nat) : pm_Ct (s_iand nx) := pm_Ct_of (fun env y d lo sk I => by
  unfold s_iand
  first | exact pm_T1_go | exact pm_T1_none | exact pm_T1_some | skip
  all_goals split
  all_goals (repeat' (first | exact pm_T1_go | exact pm_T1_none | exact pm_T1_some | apply pm_T1_cond | apply pm_T1_ite)))

theorem ct_ixor (nx : Nat) : pm_Ct (s_ixor nx) := pm_Ct_of (fun env y d lo sk I => by
  unfold s_ixor
  first | exact pm_T1_go | exact pm_T1_none | exact pm_T1_some | skip
  all_goals split
  all_goals (repeat' (first | exact pm_T1_go | exact pm_T1_none | exact pm_T1_some | apply pm_T1_cond | apply pm_T1_ite)))

theorem ct_ishl (nx : Nat) : pm_Ct (s_ishl nx) := pm_Ct_of (fun env y d lo sk I => by
  unfold s_ishl
  first | exact pm_T1_go | exact pm_T1_none | exact pm_T1_some | skip
  all_goals split
  all_goals (repeat' (first | exact pm_T1_go | exact pm_T1_none | exact pm_T1_some | apply pm_T1_cond | apply pm_T1_ite)))

theorem ct_ishr (nx : Nat) : pm_Ct (s_ishr nx) := pm_Ct_of (fun env y d lo sk I => by
  unfold s_ishr
  first | exact pm_T1_go | exact pm_T1_none | exact pm_T1_some | skip
  all_goals split
  all_goals (repeat' (first | exact pm_T1_go | exact pm_T1_none | exact pm_T1_some | apply pm_T1_cond | apply pm_T1_ite)))

theorem ct_i2b (nx : Nat) : pm_Ct (s_i2b nx) := pm_Ct_of (fun env y d lo sk I => by
  unfold s_i2b
  first | exact pm_T1_go | exact pm_T1_none | exact pm_T1_some | skip
  all_goals split
  all_goals (repeat' (first | exact pm_T1_go | exact pm_T1_none | exact pm_T1_some | apply pm_T1_cond | apply pm_T1_ite)))

theorem ct_i2s (nx : Nat) : pm_Ct (s_i2s nx) := pm_Ct_of (fun env y d lo sk I => by
  unfold s_i2s
  first | exact pm_T1_go | exact pm_T1_none | exact pm_T1_some | skip
  all_goals split
  all_goals (repeat' (first | exact pm_T1_go | exact pm_T1_none | exact pm_T1_some | apply pm_T1_cond | apply pm_T1_ite)))

theorem ct_i2l (nx : Nat) : pm_Ct (s_i2l nx) := pm_Ct_of (fun env y d lo sk I => by
  unfold s_i2l
  first | exact pm_T1_go | exact pm_T1_none | exact pm_T1_some | skip
  all_goals split
  all_goals (repeat' (first | exact pm_T1_go | exact pm_T1_none | exact pm_T1_some | apply pm_T1_cond | apply pm_T1_ite)))

theorem ct_ladd (nx : Nat) : pm_Ct (s_ladd nx) := pm_Ct_of (fun env y d lo sk I => by
  unfold s_ladd
  first | exact pm_T1_go | exact pm_T1_none | exact pm_T1_some | skip
  all_goals split
  all_goals (repeat' (first | exact pm_T1_go | exact pm_T1_none | exact pm_T1_some | apply pm_T1_cond | apply pm_T1_ite)))

theorem ct_lmul (nx : Nat) : pm_Ct (s_lmul nx) := pm_Ct_of (fun env y d lo sk I => by
  unfold s_lmul
  first | exact pm_T1_go | exact pm_T1_none | exact pm_T1_some | skip
  all_goals split
  all_goals (repeat' (first | exact pm_T1_go | exact pm_T1_none | exact pm_T1_some | apply pm_T1_cond | apply pm_T1_ite)))

theorem ct_ldiv (nx : Nat) : pm_Ct (s_ldiv nx) := pm_Ct_of (fun env y d lo sk I => by
  unfold s_ldiv
  first | exact pm_T1_go | exact pm_T1_none | exact pm_T1_some | skip
  all_goals split
  all_goals (repeat' (first | exact pm_T1_go | exact pm_T1_none | exact pm_T1_some | apply pm_T1_cond | apply pm_T1_ite)))

theorem ct_lrem (nx : Nat) : pm_Ct (s_lrem nx) := pm_Ct_of (fun env y d lo sk I => by
  unfold s_lrem
  first | exact pm_T1_go | exact pm_T1_none | exact pm_T1_some | skip
  all_goals split
  all_goals (repeat' (first | exact pm_T1_go | exact pm_T1_none | exact pm_T1_some | apply pm_T1_cond | apply pm_T1_ite)))

theorem ct_lcmp (nx : Nat) : pm_Ct (s_lcmp nx) := pm_Ct_of (fun env y d lo sk I => by
  unfold s_lcmp
  first | exact pm_T1_go | exact pm_T1_none | exact pm_T1_some | skip
  all_goals split
  all_goals (repeat' (first | exact pm_T1_go | exact pm_T1_none | exact pm_T1_some | apply pm_T1_cond | apply pm_T1_ite)))

theorem ct_dup (nx : Nat) : pm_Ct (s_dup nx) := pm_Ct_of (fun env y d lo sk I => by
  unfold s_dup
  first | exact pm_T1_go | exact pm_T1_none | exact pm_T1_some | skip
  all_goals split
  all_goals (repeat' (first | exact pm_T1_go | exact pm_T1_none | exact pm_T1_some | apply pm_T1_cond | apply pm_T1_ite)))

theorem ct_dup2 (nx : Nat) : pm_Ct (s_dup2 nx) := pm_Ct_of (fun env y d lo sk I => by
  unfold s_dup2
  first | exact pm_T1_go | exact pm_T1_none | exact pm_T1_some | skip
  all_goals split
  all_goals (repeat' (first | exact pm_T1_go | exact pm_T1_none | exact pm_T1_some | apply pm_T1_cond | apply pm_T1_ite)))

theorem ct_units (nx : Nat) : pm_Ct (s_units nx) := pm_Ct_of (fun env y d lo sk I => by
  unfold s_units
  first | exact pm_T1_go | exact pm_T1_none | exact pm_T1_some | skip
  all_goals split
  all_goals (repeat' (first | exact pm_T1_go | exact pm_T1_none | exact pm_T1_some | apply pm_T1_cond | apply pm_T1_ite)))

theorem ct_iald (nx : Nat) : pm_Ct (s_iald nx) := pm_Ct_of (fun env y d lo sk I => by
  unfold s_iald
  first | exact pm_T1_go | exact pm_T1_none | exact pm_T1_some | skip
  all_goals split
  all_goals (repeat' (first | exact pm_T1_go | exact pm_T1_none | exact pm_T1_some | apply pm_T1_cond | apply pm_T1_ite)))

theorem ct_zald (nx : Nat) : pm_Ct (s_zald nx) := pm_Ct_of (fun env y d lo sk I => by
  unfold s_zald
  first | exact pm_T1_go | exact pm_T1_none | exact pm_T1_some | skip
  all_goals split
  all_goals (repeat' (first | exact pm_T1_go | exact pm_T1_none | exact pm_T1_some | apply pm_T1_cond | apply pm_T1_ite)))

theorem ct_aald (nx : Nat) : pm_Ct (s_aald nx) := pm_Ct_of (fun env y d lo sk I => by
  unfold s_aald
  first | exact pm_T1_go | exact pm_T1_none | exact pm_T1_some | skip
  all_goals split
  all_goals (repeat' (first | exact pm_T1_go | exact pm_T1_none | exact pm_T1_some | apply pm_T1_cond | apply pm_T1_ite)))

theorem ct_iast (nx : Nat) : pm_Ct (s_iast nx) := pm_Ct_of (fun env y d lo sk I => by
  unfold s_iast
  first | exact pm_T1_go | exact pm_T1_none | exact pm_T1_some | skip
  all_goals split
  all_goals (repeat' (first | exact pm_T1_go | exact pm_T1_none | exact pm_T1_some | apply pm_T1_cond | apply pm_T1_ite)))

theorem ct_zast (nx : Nat) : pm_Ct (s_zast nx) := pm_Ct_of (fun env y d lo sk I => by
  unfold s_zast
  first | exact pm_T1_go | exact pm_T1_none | exact pm_T1_some | skip
  all_goals split
  all_goals (repeat' (first | exact pm_T1_go | exact pm_T1_none | exact pm_T1_some | apply pm_T1_cond | apply pm_T1_ite)))

theorem ct_alen (nx : Nat) : pm_Ct (s_alen nx) := pm_Ct_of (fun env y d lo sk I => by
  unfold s_alen
  first | exact pm_T1_go | exact pm_T1_none | exact pm_T1_some | skip
  all_goals split
  all_goals (repeat' (first | exact pm_T1_go | exact pm_T1_none | exact pm_T1_some | apply pm_T1_cond | apply pm_T1_ite)))

theorem ct_min (nx : Nat) : pm_Ct (s_min nx) := pm_Ct_of (fun env y d lo sk I => by
  unfold s_min
  first | exact pm_T1_go | exact pm_T1_none | exact pm_T1_some | skip
  all_goals split
  all_goals (repeat' (first | exact pm_T1_go | exact pm_T1_none | exact pm_T1_some | apply pm_T1_cond | apply pm_T1_ite)))

theorem ct_max (nx : Nat) : pm_Ct (s_max nx) := pm_Ct_of (fun env y d lo sk I => by
  unfold s_max
  first | exact pm_T1_go | exact pm_T1_none | exact pm_T1_some | skip
  all_goals split
  all_goals (repeat' (first | exact pm_T1_go | exact pm_T1_none | exact pm_T1_some | apply pm_T1_cond | apply pm_T1_ite)))

theorem ct_copy (nx : Nat) : pm_Ct (s_copy nx) := pm_Ct_of (fun env y d lo sk I => by
  unfold s_copy
  first | exact pm_T1_go | exact pm_T1_none | exact pm_T1_some | skip
  all_goals split
  all_goals (repeat' (first | exact pm_T1_go | exact pm_T1_none | exact pm_T1_some | apply pm_T1_cond | apply pm_T1_ite)))

theorem ct_ifeq (tg nx : Nat) : pm_Ct (s_ifeq tg nx) := pm_Ct_of (fun env y d lo sk I => by
  unfold s_ifeq
  first | exact pm_T1_go | exact pm_T1_none | exact pm_T1_some | skip
  all_goals split
  all_goals (repeat' (first | exact pm_T1_go | exact pm_T1_none | exact pm_T1_some | apply pm_T1_cond | apply pm_T1_ite)))

theorem ct_ifne (tg nx : Nat) : pm_Ct (s_ifne tg nx) := pm_Ct_of (fun env y d lo sk I => by
  unfold s_ifne
  first | exact pm_T1_go | exact pm_T1_none | exact pm_T1_some | skip
  all_goals split
  all_goals (repeat' (first | exact pm_T1_go | exact pm_T1_none | exact pm_T1_some | apply pm_T1_cond | apply pm_T1_ite)))

theorem ct_iflt (tg nx : Nat) : pm_Ct (s_iflt tg nx) := pm_Ct_of (fun env y d lo sk I => by
  unfold s_iflt
  first | exact pm_T1_go | exact pm_T1_none | exact pm_T1_some | skip
  all_goals split
  all_goals (repeat' (first | exact pm_T1_go | exact pm_T1_none | exact pm_T1_some | apply pm_T1_cond | apply pm_T1_ite)))

theorem ct_ifge (tg nx : Nat) : pm_Ct (s_ifge tg nx) := pm_Ct_of (fun env y d lo sk I => by
  unfold s_ifge
  first | exact pm_T1_go | exact pm_T1_none | exact pm_T1_some | skip
  all_goals split
  all_goals (repeat' (first | exact pm_T1_go | exact pm_T1_none | exact pm_T1_some | apply pm_T1_cond | apply pm_T1_ite)))

theorem ct_ifgt (tg nx : Nat) : pm_Ct (s_ifgt tg nx) := pm_Ct_of (fun env y d lo sk I => by
  unfold s_ifgt
  first | exact pm_T1_go | exact pm_T1_none | exact pm_T1_some | skip
  all_goals split
  all_goals (repeat' (first | exact pm_T1_go | exact pm_T1_none | exact pm_T1_some | apply pm_T1_cond | apply pm_T1_ite)))

theorem ct_ifle (tg nx : Nat) : pm_Ct (s_ifle tg nx) := pm_Ct_of (fun env y d lo sk I => by
  unfold s_ifle
  first | exact pm_T1_go | exact pm_T1_none | exact pm_T1_some | skip
  all_goals split
  all_goals (repeat' (first | exact pm_T1_go | exact pm_T1_none | exact pm_T1_some | apply pm_T1_cond | apply pm_T1_ite)))

theorem ct_ceq (tg nx : Nat) : pm_Ct (s_ceq tg nx) := pm_Ct_of (fun env y d lo sk I => by
  unfold s_ceq
  first | exact pm_T1_go | exact pm_T1_none | exact pm_T1_some | skip
  all_goals split
  all_goals (repeat' (first | exact pm_T1_go | exact pm_T1_none | exact pm_T1_some | apply pm_T1_cond | apply pm_T1_ite)))

theorem ct_cne (tg nx : Nat) : pm_Ct (s_cne tg nx) := pm_Ct_of (fun env y d lo sk I => by
  unfold s_cne
  first | exact pm_T1_go | exact pm_T1_none | exact pm_T1_some | skip
  all_goals split
  all_goals (repeat' (first | exact pm_T1_go | exact pm_T1_none | exact pm_T1_some | apply pm_T1_cond | apply pm_T1_ite)))

theorem ct_clt (tg nx : Nat) : pm_Ct (s_clt tg nx) := pm_Ct_of (fun env y d lo sk I => by
  unfold s_clt
  first | exact pm_T1_go | exact pm_T1_none | exact pm_T1_some | skip
  all_goals split
  all_goals (repeat' (first | exact pm_T1_go | exact pm_T1_none | exact pm_T1_some | apply pm_T1_cond | apply pm_T1_ite)))

theorem ct_cge (tg nx : Nat) : pm_Ct (s_cge tg nx) := pm_Ct_of (fun env y d lo sk I => by
  unfold s_cge
  first | exact pm_T1_go | exact pm_T1_none | exact pm_T1_some | skip
  all_goals split
  all_goals (repeat' (first | exact pm_T1_go | exact pm_T1_none | exact pm_T1_some | apply pm_T1_cond | apply pm_T1_ite)))

theorem ct_cgt (tg nx : Nat) : pm_Ct (s_cgt tg nx) := pm_Ct_of (fun env y d lo sk I => by
  unfold s_cgt
  first | exact pm_T1_go | exact pm_T1_none | exact pm_T1_some | skip
  all_goals split
  all_goals (repeat' (first | exact pm_T1_go | exact pm_T1_none | exact pm_T1_some | apply pm_T1_cond | apply pm_T1_ite)))

theorem ct_cle (tg nx : Nat) : pm_Ct (s_cle tg nx) := pm_Ct_of (fun env y d lo sk I => by
  unfold s_cle
  first | exact pm_T1_go | exact pm_T1_none | exact pm_T1_some | skip
  all_goals split
  all_goals (repeat' (first | exact pm_T1_go | exact pm_T1_none | exact pm_T1_some | apply pm_T1_cond | apply pm_T1_ite)))

theorem ct_goto (tg : Nat) : pm_Ct (s_goto tg) := pm_Ct_of (fun env y d lo sk I => by
  unfold s_goto
  first | exact pm_T1_go | exact pm_T1_none | exact pm_T1_some | skip
  all_goals split
  all_goals (repeat' (first | exact pm_T1_go | exact pm_T1_none | exact pm_T1_some | apply pm_T1_cond | apply pm_T1_ite)))

theorem ct_getI (ci : Nat) (k : Int) (nx : Nat) : pm_Ct (s_getI ci k nx) := pm_Ct_of (fun env y d lo sk I => by
  unfold s_getI
  first | exact pm_T1_go | exact pm_T1_none | exact pm_T1_some | skip
  all_goals split
  all_goals (repeat' (first | exact pm_T1_go | exact pm_T1_none | exact pm_T1_some | apply pm_T1_cond | apply pm_T1_ite)))

theorem ct_getR (ci k nx : Nat) : pm_Ct (s_getR ci k nx) := pm_Ct_of (fun env y d lo sk I => by
  unfold s_getR
  first | exact pm_T1_go | exact pm_T1_none | exact pm_T1_some | skip
  all_goals split
  all_goals (repeat' (first | exact pm_T1_go | exact pm_T1_none | exact pm_T1_some | apply pm_T1_cond | apply pm_T1_ite)))

theorem ct_putI (ci : Nat) (k : Int) (nx : Nat) : pm_Ct (s_putI ci k nx) := pm_Ct_of (fun env y d lo sk I => by
  unfold s_putI
  first | exact pm_T1_go | exact pm_T1_none | exact pm_T1_some | skip
  all_goals split
  all_goals (repeat' (first | exact pm_T1_go | exact pm_T1_none | exact pm_T1_some | apply pm_T1_cond | apply pm_T1_ite)))

theorem ct_putZ (ci : Nat) (k : Int) (nx : Nat) : pm_Ct (s_putZ ci k nx) := pm_Ct_of (fun env y d lo sk I => by
  unfold s_putZ
  first | exact pm_T1_go | exact pm_T1_none | exact pm_T1_some | skip
  all_goals split
  all_goals (repeat' (first | exact pm_T1_go | exact pm_T1_none | exact pm_T1_some | apply pm_T1_cond | apply pm_T1_ite)))

theorem ct_bad  : pm_Ct (s_bad) := pm_Ct_of (fun env y d lo sk I => by
  unfold s_bad
  first | exact pm_T1_go | exact pm_T1_none | exact pm_T1_some | skip
  all_goals split
  all_goals (repeat' (first | exact pm_T1_go | exact pm_T1_none | exact pm_T1_some | apply pm_T1_cond | apply pm_T1_ite)))

theorem ct_iret  : pm_Ct (s_iret) := pm_Ct_of (fun env y d lo sk I => by
  unfold s_iret
  first | exact pm_T1_go | exact pm_T1_none | exact pm_T1_some | skip
  all_goals split
  all_goals (repeat' (first | exact pm_T1_go | exact pm_T1_none | exact pm_T1_some | apply pm_T1_cond | apply pm_T1_ite)))

theorem ct_zret  : pm_Ct (s_zret) := pm_Ct_of (fun env y d lo sk I => by
  unfold s_zret
  first | exact pm_T1_go | exact pm_T1_none | exact pm_T1_some | skip
  all_goals split
  all_goals (repeat' (first | exact pm_T1_go | exact pm_T1_none | exact pm_T1_some | apply pm_T1_cond | apply pm_T1_ite)))

theorem ct_lret  : pm_Ct (s_lret) := pm_Ct_of (fun env y d lo sk I => by
  unfold s_lret
  first | exact pm_T1_go | exact pm_T1_none | exact pm_T1_some | skip
  all_goals split
  all_goals (repeat' (first | exact pm_T1_go | exact pm_T1_none | exact pm_T1_some | apply pm_T1_cond | apply pm_T1_ite)))

theorem ct_vret  : pm_Ct (s_vret) := pm_Ct_of (fun env y d lo sk I => by
  unfold s_vret
  first | exact pm_T1_go | exact pm_T1_none | exact pm_T1_some | skip
  all_goals split
  all_goals (repeat' (first | exact pm_T1_go | exact pm_T1_none | exact pm_T1_some | apply pm_T1_cond | apply pm_T1_ite)))

theorem pm_T1_swt {x : Int} {df : Nat} {k : pm_G → Nat → pm_O} (hk : ∀ t, pm_T1 (fun G => k G t)) : ∀ ts : List (Int × Nat), pm_T1 (fun G => pm_swt x df (k G) ts)
  | [] => hk df
  | (c, t) :: ts => pm_T1_ite (hk t) (pm_T1_swt hk ts)
theorem ct_switch (ts : List (Int × Nat)) (df : Nat) : pm_Ct (s_switch ts df) := pm_Ct_of (fun env y d lo sk I => by
  unfold s_switch
  split
  · exact pm_T1_swt (fun t => pm_T1_go) ts
  · exact pm_T1_none)
theorem ct_call (m n nl rc rt : Nat) (rk : List pm_V → Nat) (nx : Nat) : pm_Ct (s_call m n nl rc rt rk nx) := by
  intro env F G hF hG y d lo sk I r
  unfold s_call
  cases pm_pop n sk [] with
  | none => simp
  | some q =>
    obtain ⟨av, t⟩ := q
    dsimp only
    cases pm_rc env rc av with
    | false => simp
    | true =>
      cases (Nat.blt (rk av) d && Nat.ble (pm_wd t) 8) with
      | false => simp
      | true =>
        dsimp only [cond_true]
        constructor
        · intro h
          obtain ⟨x, h1, h2⟩ := Option.bind_eq_some_iff.mp h
          obtain ⟨i, hi⟩ := (hG _ _ _ _ _ _ _).mp h1
          obtain ⟨j, hj⟩ := (hG _ _ _ _ _ _ _).mp h2
          refine ⟨max i j, Option.bind_eq_some_iff.mpr ⟨x, hF i _ (Nat.le_max_left i j) _ _ _ _ _ _ _ hi, hF j _ (Nat.le_max_right i j) _ _ _ _ _ _ _ hj⟩⟩
        · rintro ⟨i, h⟩
          obtain ⟨x, h1, h2⟩ := Option.bind_eq_some_iff.mp h
          exact Option.bind_eq_some_iff.mpr ⟨x, (hG _ _ _ _ _ _ _).mpr ⟨i, h1⟩, (hG _ _ _ _ _ _ _).mpr ⟨i, h2⟩⟩
theorem ct_tn {p : Nat} {a b : Nat → pm_S} (ha : ∀ pc, pm_Ct (a pc)) (hb : ∀ pc, pm_Ct (b pc)) (pc : Nat) : pm_Ct (pm_tn p a b pc) := by
  unfold pm_tn
  cases Nat.ble p pc with
  | false => exact ha pc
  | true => exact hb pc
theorem ct_tl {p : Nat} {s : pm_S} (h : pm_Ct s) (pc : Nat) : pm_Ct (pm_tl p s pc) := by
  unfold pm_tl
  cases Nat.beq pc p with
  | false => exact ct_bad
  | true => exact h
section PMLIM
variable {T : Nat → Nat → pm_S} (hT : ∀ y pc, pm_Ct (T y pc)) (env : pm_E)
/-- more steps, no other answer -/
theorem pm_mono1 (hT : ∀ y pc, pm_Ct (T y pc)) (env : pm_E) : ∀ n, pm_le (pm_run T env n) (pm_run T env (n + 1))
  | 0 => fun _ _ _ _ _ _ _ h => by cases h
  | n + 1 => fun y d pc lo sk I r h => by
    have ih := pm_mono1 hT env n
    have h1 : T y pc env (pm_run T env n) y d lo sk I = some r := h
    show T y pc env (pm_run T env (n + 1)) y d lo sk I = some r
    refine (hT y pc env (fun i => if i = 0 then pm_run T env n else pm_run T env (n + 1)) (pm_run T env (n + 1)) ?_ ?_ y d lo sk I r).mpr ⟨0, by simpa using h1⟩
    · intro i j hij
      by_cases hi : i = 0
      · by_cases hj : j = 0
        · simp only [hi, hj]; exact fun _ _ _ _ _ _ _ q => q
        · simp only [hi, hj, if_true, if_false]; exact ih
      · have hj : ¬ j = 0 := by omega
        simp only [hi, hj, if_false]; exact fun _ _ _ _ _ _ _ q => q
    · intro y d pc lo sk I r
      constructor
      · intro q; exact ⟨1, by simpa using q⟩
      · rintro ⟨i, q⟩
        by_cases hi : i = 0
        · simp only [hi, if_true] at q; exact ih _ _ _ _ _ _ _ q
        · simp only [hi, if_false] at q; exact q
theorem pm_mono (hT : ∀ y pc, pm_Ct (T y pc)) (env : pm_E) (i j : Nat) (h : i ≤ j) : pm_le (pm_run T env i) (pm_run T env j) := by
  induction j with
  | zero => rw [show i = 0 by omega]; exact fun _ _ _ _ _ _ _ q => q
  | succ j ih =>
    by_cases e : i = j + 1
    · subst e; exact fun _ _ _ _ _ _ _ q => q
    · exact fun y d pc lo sk I r q => pm_mono1 hT env j _ _ _ _ _ _ _ (ih (by omega) _ _ _ _ _ _ _ q)
noncomputable def pm_lim (F : Nat → pm_O) : pm_O := @dite pm_O (∃ r n, F n = some r) (Classical.propDecidable _) (fun h => some h.choose) (fun _ => none)
theorem pm_lim_iff {F : Nat → pm_O} (hF : ∀ i j r, i ≤ j → F i = some r → F j = some r) (r : Int × pm_I) : pm_lim F = some r ↔ ∃ n, F n = some r := by
  unfold pm_lim
  by_cases h : ∃ r n, F n = some r
  · rw [dif_pos h]
    obtain ⟨n, hn⟩ := h.choose_spec
    constructor
    · intro e
      exact ⟨n, by rw [hn]; exact e⟩
    · rintro ⟨k, hk⟩
      rcases Nat.le_total n k with q | q
      · rw [hF n k _ q hn] at hk; exact hk
      · rw [hF k n _ q hk] at hn; exact hn.symm
  · rw [dif_neg h]
    constructor
    · intro e; cases e
    · rintro ⟨k, hk⟩; exact absurd ⟨r, k, hk⟩ h
/-- the machine without a count of steps -/
noncomputable def pm_X (T : Nat → Nat → pm_S) (env : pm_E) : pm_G := fun y d pc lo sk I => pm_lim (fun n => pm_run T env n y d pc lo sk I)
theorem pm_X_iff {T : Nat → Nat → pm_S} (hT : ∀ y pc, pm_Ct (T y pc)) (env : pm_E) (y d pc : Nat) (lo : pm_L) (sk : List pm_V) (I : pm_I) (r : Int × pm_I) : pm_X T env y d pc lo sk I = some r ↔ ∃ n, pm_run T env n y d pc lo sk I = some r :=
  pm_lim_iff (fun i j r h q => pm_mono hT env i j h _ _ _ _ _ _ _ q) r
/-- one step of it -/
theorem pm_X_step {T : Nat → Nat → pm_S} (hT : ∀ y pc, pm_Ct (T y pc)) (env : pm_E) (y d pc : Nat) (lo : pm_L) (sk : List pm_V) (I : pm_I) : pm_X T env y d pc lo sk I = T y pc env (pm_X T env) y d lo sk I := by
  apply Option.ext
  intro r
  rw [hT y pc env (pm_run T env) (pm_X T env) (pm_mono hT env) (fun y d pc lo sk I r => pm_X_iff hT env y d pc lo sk I r), pm_X_iff hT]
  constructor
  · rintro ⟨n, h⟩
    cases n with
    | zero => cases h
    | succ n => exact ⟨n, h⟩
  · rintro ⟨n, h⟩
    exact ⟨n + 1, h⟩
/-- a stretch of a method y0, up to the places cs -/
noncomputable def pm_U (T : Nat → Nat → pm_S) (env : pm_E) (y0 : Nat) (cs : List Nat) : Nat → pm_G
  | 0 => pm_X T env
  | n + 1 => fun y d pc lo sk I => bif Nat.beq y y0 && !(cs.any (fun c => Nat.beq c pc)) then T y pc env (pm_U T env y0 cs n) y d lo sk I else pm_X T env y d pc lo sk I
theorem pm_U_eq {T : Nat → Nat → pm_S} (hT : ∀ y pc, pm_Ct (T y pc)) (env : pm_E) (y0 : Nat) (cs : List Nat) : ∀ n, pm_U T env y0 cs n = pm_X T env
  | 0 => rfl
  | n + 1 => by
    funext y d pc lo sk I
    unfold pm_U
    rw [pm_U_eq hT env y0 cs n]
    cases (Nat.beq y y0 && !(cs.any (fun c => Nat.beq c pc))) with
    | true => exact (pm_X_step hT env y d pc lo sk I).symm
    | false => rfl
theorem pm_seg {T : Nat → Nat → pm_S} (hT : ∀ y pc, pm_Ct (T y pc)) (env : pm_E) (cs : List Nat) (n : Nat) (y d pc : Nat) (lo : pm_L) (sk : List pm_V) (I : pm_I) : pm_X T env y d pc lo sk I = T y pc env (pm_U T env y cs n) y d lo sk I := by
  rw [pm_U_eq hT]
  exact pm_X_step hT env y d pc lo sk I
end PMLIM
end
