section
-- ===== PART A: goes FIRST, ahead of the names: the tables' words, and 'selects' of the private methods out of them =====
/-- a private method of a class that the tables say can be made, by its rows of tables_1 -/
def lw_okq (q : MethodName × Nat) : Prop := (q.1.cls ≠ "java/lang/invoke/MethodHandle" ∧ q.1.cls ≠ "java/lang/invoke/VarHandle") ∧ Cond.instantiable q.1.cls q.2 ∈ tables_1 ∧ Cond.privateMethod q.1 ∈ tables_1 ∧ Cond.instanceMethod q.1 ∈ tables_1
theorem lw_p0 : lw_okq (⟨"TurnBoards$Group", "findBack", "(I)I"⟩, 6) := ⟨⟨by decide +kernel, by decide +kernel⟩, List.mem_of_getElem? (i := 20) (by decide +kernel), List.mem_of_getElem? (i := 37) (by decide +kernel), List.mem_of_getElem? (i := 38) (by decide +kernel)⟩
theorem lw_p1 : lw_okq (⟨"TurnBoards$Group", "findClass", "(I)I"⟩, 6) := ⟨⟨by decide +kernel, by decide +kernel⟩, List.mem_of_getElem? (i := 20) (by decide +kernel), List.mem_of_getElem? (i := 45) (by decide +kernel), List.mem_of_getElem? (i := 46) (by decide +kernel)⟩
theorem lw_p2 : lw_okq (⟨"TurnBoards", "takeDraft", "(I)I"⟩, 7) := ⟨⟨by decide +kernel, by decide +kernel⟩, List.mem_of_getElem? (i := 12) (by decide +kernel), List.mem_of_getElem? (i := 252) (by decide +kernel), List.mem_of_getElem? (i := 253) (by decide +kernel)⟩
theorem lw_p3 : lw_okq (⟨"TurnBoards", "draftFrom", "(LTurnBoards$Sheet;II)I"⟩, 7) := ⟨⟨by decide +kernel, by decide +kernel⟩, List.mem_of_getElem? (i := 12) (by decide +kernel), List.mem_of_getElem? (i := 289) (by decide +kernel), List.mem_of_getElem? (i := 290) (by decide +kernel)⟩
theorem lw_p4 : lw_okq (⟨"TurnBoards$Group", "drafted", "(II)I"⟩, 6) := ⟨⟨by decide +kernel, by decide +kernel⟩, List.mem_of_getElem? (i := 20) (by decide +kernel), List.mem_of_getElem? (i := 301) (by decide +kernel), List.mem_of_getElem? (i := 302) (by decide +kernel)⟩
theorem lw_p5 : lw_okq (⟨"TurnBoards$Group", "draftHasBack", "(II)Z"⟩, 6) := ⟨⟨by decide +kernel, by decide +kernel⟩, List.mem_of_getElem? (i := 20) (by decide +kernel), List.mem_of_getElem? (i := 305) (by decide +kernel), List.mem_of_getElem? (i := 306) (by decide +kernel)⟩
theorem lw_p6 : lw_okq (⟨"TurnBoards$Group", "draftJoinFault", "(I)I"⟩, 6) := ⟨⟨by decide +kernel, by decide +kernel⟩, List.mem_of_getElem? (i := 20) (by decide +kernel), List.mem_of_getElem? (i := 309) (by decide +kernel), List.mem_of_getElem? (i := 310) (by decide +kernel)⟩
theorem lw_p7 : lw_okq (⟨"TurnBoards", "isTurn", "(I)Z"⟩, 7) := ⟨⟨by decide +kernel, by decide +kernel⟩, List.mem_of_getElem? (i := 12) (by decide +kernel), List.mem_of_getElem? (i := 317) (by decide +kernel), List.mem_of_getElem? (i := 318) (by decide +kernel)⟩
theorem lw_p8 : lw_okq (⟨"TurnBoards", "isPoint", "(I)Z"⟩, 7) := ⟨⟨by decide +kernel, by decide +kernel⟩, List.mem_of_getElem? (i := 12) (by decide +kernel), List.mem_of_getElem? (i := 375) (by decide +kernel), List.mem_of_getElem? (i := 376) (by decide +kernel)⟩
theorem lw_p9 : lw_okq (⟨"TurnBoards$Board", "joinParts", "(II)V"⟩, 10) := ⟨⟨by decide +kernel, by decide +kernel⟩, List.mem_of_getElem? (i := 82) (by decide +kernel), List.mem_of_getElem? (i := 383) (by decide +kernel), List.mem_of_getElem? (i := 384) (by decide +kernel)⟩
theorem lw_p10 : lw_okq (⟨"TurnBoards", "isWalk", "(I)Z"⟩, 7) := ⟨⟨by decide +kernel, by decide +kernel⟩, List.mem_of_getElem? (i := 12) (by decide +kernel), List.mem_of_getElem? (i := 400) (by decide +kernel), List.mem_of_getElem? (i := 401) (by decide +kernel)⟩
theorem lw_p11 : lw_okq (⟨"TurnBoards", "isLine", "(I)Z"⟩, 7) := ⟨⟨by decide +kernel, by decide +kernel⟩, List.mem_of_getElem? (i := 12) (by decide +kernel), List.mem_of_getElem? (i := 404) (by decide +kernel), List.mem_of_getElem? (i := 405) (by decide +kernel)⟩
theorem lw_p12 : lw_okq (⟨"TurnBoards$Board", "reachAlong", "(ILTurnBoards$Group;)V"⟩, 10) := ⟨⟨by decide +kernel, by decide +kernel⟩, List.mem_of_getElem? (i := 82) (by decide +kernel), List.mem_of_getElem? (i := 477) (by decide +kernel), List.mem_of_getElem? (i := 478) (by decide +kernel)⟩
theorem lw_p13 : lw_okq (⟨"TurnBoards", "isSpent", "()Z"⟩, 7) := ⟨⟨by decide +kernel, by decide +kernel⟩, List.mem_of_getElem? (i := 12) (by decide +kernel), List.mem_of_getElem? (i := 497) (by decide +kernel), List.mem_of_getElem? (i := 498) (by decide +kernel)⟩
theorem lw_p14 : lw_okq (⟨"TurnBoards", "sumOfWeights", "()J"⟩, 7) := ⟨⟨by decide +kernel, by decide +kernel⟩, List.mem_of_getElem? (i := 12) (by decide +kernel), List.mem_of_getElem? (i := 503) (by decide +kernel), List.mem_of_getElem? (i := 504) (by decide +kernel)⟩
theorem lw_p15 : lw_okq (⟨"TurnBoards", "lookForWeights", "()V"⟩, 7) := ⟨⟨by decide +kernel, by decide +kernel⟩, List.mem_of_getElem? (i := 12) (by decide +kernel), List.mem_of_getElem? (i := 511) (by decide +kernel), List.mem_of_getElem? (i := 512) (by decide +kernel)⟩
def lw_privs_1 : List (MethodName × Nat) := [(⟨"TurnBoards$Group", "findBack", "(I)I"⟩, 6), (⟨"TurnBoards$Group", "findClass", "(I)I"⟩, 6), (⟨"TurnBoards", "takeDraft", "(I)I"⟩, 7), (⟨"TurnBoards", "draftFrom", "(LTurnBoards$Sheet;II)I"⟩, 7), (⟨"TurnBoards$Group", "drafted", "(II)I"⟩, 6), (⟨"TurnBoards$Group", "draftHasBack", "(II)Z"⟩, 6), (⟨"TurnBoards$Group", "draftJoinFault", "(I)I"⟩, 6), (⟨"TurnBoards", "isTurn", "(I)Z"⟩, 7), (⟨"TurnBoards", "isPoint", "(I)Z"⟩, 7), (⟨"TurnBoards$Board", "joinParts", "(II)V"⟩, 10), (⟨"TurnBoards", "isWalk", "(I)Z"⟩, 7), (⟨"TurnBoards", "isLine", "(I)Z"⟩, 7), (⟨"TurnBoards$Board", "reachAlong", "(ILTurnBoards$Group;)V"⟩, 10), (⟨"TurnBoards", "isSpent", "()Z"⟩, 7), (⟨"TurnBoards", "sumOfWeights", "()J"⟩, 7), (⟨"TurnBoards", "lookForWeights", "()V"⟩, 7)]
theorem lw_r1 : ∀ q ∈ lw_privs_1, lw_okq q := List.forall_mem_cons.mpr ⟨lw_p0, List.forall_mem_cons.mpr ⟨lw_p1, List.forall_mem_cons.mpr ⟨lw_p2, List.forall_mem_cons.mpr ⟨lw_p3, List.forall_mem_cons.mpr ⟨lw_p4, List.forall_mem_cons.mpr ⟨lw_p5, List.forall_mem_cons.mpr ⟨lw_p6, List.forall_mem_cons.mpr ⟨lw_p7, List.forall_mem_cons.mpr ⟨lw_p8, List.forall_mem_cons.mpr ⟨lw_p9, List.forall_mem_cons.mpr ⟨lw_p10, List.forall_mem_cons.mpr ⟨lw_p11, List.forall_mem_cons.mpr ⟨lw_p12, List.forall_mem_cons.mpr ⟨lw_p13, List.forall_mem_cons.mpr ⟨lw_p14, List.forall_mem_cons.mpr ⟨lw_p15, fun _ h => absurd h List.not_mem_nil⟩⟩⟩⟩⟩⟩⟩⟩⟩⟩⟩⟩⟩⟩⟩⟩
theorem lw_p16 : lw_okq (⟨"TurnBoards", "sumLooked", "()J"⟩, 7) := ⟨⟨by decide +kernel, by decide +kernel⟩, List.mem_of_getElem? (i := 12) (by decide +kernel), List.mem_of_getElem? (i := 519) (by decide +kernel), List.mem_of_getElem? (i := 520) (by decide +kernel)⟩
theorem lw_p17 : lw_okq (⟨"TurnBoards$Sums", "factorBehind", "(I[LTurnBoards$Walk;LTurnBoards$Group;)J"⟩, 6) := ⟨⟨by decide +kernel, by decide +kernel⟩, List.mem_of_getElem? (i := 151) (by decide +kernel), List.mem_of_getElem? (i := 537) (by decide +kernel), List.mem_of_getElem? (i := 538) (by decide +kernel)⟩
theorem lw_p18 : lw_okq (⟨"TurnBoards", "isClosedWalk", "(I)Z"⟩, 7) := ⟨⟨by decide +kernel, by decide +kernel⟩, List.mem_of_getElem? (i := 12) (by decide +kernel), List.mem_of_getElem? (i := 547) (by decide +kernel), List.mem_of_getElem? (i := 548) (by decide +kernel)⟩
theorem lw_p19 : lw_okq (⟨"TurnBoards", "sumHeld", "(II)J"⟩, 7) := ⟨⟨by decide +kernel, by decide +kernel⟩, List.mem_of_getElem? (i := 12) (by decide +kernel), List.mem_of_getElem? (i := 552) (by decide +kernel), List.mem_of_getElem? (i := 553) (by decide +kernel)⟩
theorem lw_p20 : lw_okq (⟨"TurnBoards", "linesFault", "(LTurnBoards$Sheet;I)I"⟩, 7) := ⟨⟨by decide +kernel, by decide +kernel⟩, List.mem_of_getElem? (i := 12) (by decide +kernel), List.mem_of_getElem? (i := 596) (by decide +kernel), List.mem_of_getElem? (i := 597) (by decide +kernel)⟩
theorem lw_p21 : lw_okq (⟨"TurnBoards", "fillLines", "(LTurnBoards$Sheet;I)I"⟩, 7) := ⟨⟨by decide +kernel, by decide +kernel⟩, List.mem_of_getElem? (i := 12) (by decide +kernel), List.mem_of_getElem? (i := 600) (by decide +kernel), List.mem_of_getElem? (i := 601) (by decide +kernel)⟩
theorem lw_p22 : lw_okq (⟨"TurnBoards", "walksThatWeigh", "()I"⟩, 7) := ⟨⟨by decide +kernel, by decide +kernel⟩, List.mem_of_getElem? (i := 12) (by decide +kernel), List.mem_of_getElem? (i := 608) (by decide +kernel), List.mem_of_getElem? (i := 609) (by decide +kernel)⟩
theorem lw_p23 : lw_okq (⟨"TurnBoardsModel", "begin", "(I)V"⟩, 27) := ⟨⟨by decide +kernel, by decide +kernel⟩, List.mem_of_getElem? (i := 612) (by decide +kernel), List.mem_of_getElem? (i := 711) (by decide +kernel), List.mem_of_getElem? (i := 712) (by decide +kernel)⟩
theorem lw_p24 : lw_okq (⟨"TurnBoardsModel", "isTurn", "(I)Z"⟩, 27) := ⟨⟨by decide +kernel, by decide +kernel⟩, List.mem_of_getElem? (i := 612) (by decide +kernel), List.mem_of_getElem? (i := 733) (by decide +kernel), List.mem_of_getElem? (i := 734) (by decide +kernel)⟩
theorem lw_p25 : lw_okq (⟨"TurnBoardsModel", "product", "(II)I"⟩, 27) := ⟨⟨by decide +kernel, by decide +kernel⟩, List.mem_of_getElem? (i := 612) (by decide +kernel), List.mem_of_getElem? (i := 737) (by decide +kernel), List.mem_of_getElem? (i := 738) (by decide +kernel)⟩
theorem lw_p26 : lw_okq (⟨"TurnBoardsModel", "backOf", "(I)I"⟩, 27) := ⟨⟨by decide +kernel, by decide +kernel⟩, List.mem_of_getElem? (i := 612) (by decide +kernel), List.mem_of_getElem? (i := 746) (by decide +kernel), List.mem_of_getElem? (i := 747) (by decide +kernel)⟩
theorem lw_p27 : lw_okq (⟨"TurnBoardsModel", "classOf", "(I)I"⟩, 27) := ⟨⟨by decide +kernel, by decide +kernel⟩, List.mem_of_getElem? (i := 612) (by decide +kernel), List.mem_of_getElem? (i := 750) (by decide +kernel), List.mem_of_getElem? (i := 751) (by decide +kernel)⟩
theorem lw_p28 : lw_okq (⟨"TurnBoardsModel", "alikeWith", "(I)I"⟩, 27) := ⟨⟨by decide +kernel, by decide +kernel⟩, List.mem_of_getElem? (i := 612) (by decide +kernel), List.mem_of_getElem? (i := 754) (by decide +kernel), List.mem_of_getElem? (i := 755) (by decide +kernel)⟩
theorem lw_p29 : lw_okq (⟨"TurnBoardsModel", "isPoint", "(I)Z"⟩, 27) := ⟨⟨by decide +kernel, by decide +kernel⟩, List.mem_of_getElem? (i := 612) (by decide +kernel), List.mem_of_getElem? (i := 776) (by decide +kernel), List.mem_of_getElem? (i := 777) (by decide +kernel)⟩
theorem lw_p30 : lw_okq (⟨"TurnBoardsModel", "isWalk", "(I)Z"⟩, 27) := ⟨⟨by decide +kernel, by decide +kernel⟩, List.mem_of_getElem? (i := 612) (by decide +kernel), List.mem_of_getElem? (i := 788) (by decide +kernel), List.mem_of_getElem? (i := 789) (by decide +kernel)⟩
theorem lw_p31 : lw_okq (⟨"TurnBoardsModel", "isLine", "(I)Z"⟩, 27) := ⟨⟨by decide +kernel, by decide +kernel⟩, List.mem_of_getElem? (i := 612) (by decide +kernel), List.mem_of_getElem? (i := 792) (by decide +kernel), List.mem_of_getElem? (i := 793) (by decide +kernel)⟩
def lw_privs_2 : List (MethodName × Nat) := [(⟨"TurnBoards", "sumLooked", "()J"⟩, 7), (⟨"TurnBoards$Sums", "factorBehind", "(I[LTurnBoards$Walk;LTurnBoards$Group;)J"⟩, 6), (⟨"TurnBoards", "isClosedWalk", "(I)Z"⟩, 7), (⟨"TurnBoards", "sumHeld", "(II)J"⟩, 7), (⟨"TurnBoards", "linesFault", "(LTurnBoards$Sheet;I)I"⟩, 7), (⟨"TurnBoards", "fillLines", "(LTurnBoards$Sheet;I)I"⟩, 7), (⟨"TurnBoards", "walksThatWeigh", "()I"⟩, 7), (⟨"TurnBoardsModel", "begin", "(I)V"⟩, 27), (⟨"TurnBoardsModel", "isTurn", "(I)Z"⟩, 27), (⟨"TurnBoardsModel", "product", "(II)I"⟩, 27), (⟨"TurnBoardsModel", "backOf", "(I)I"⟩, 27), (⟨"TurnBoardsModel", "classOf", "(I)I"⟩, 27), (⟨"TurnBoardsModel", "alikeWith", "(I)I"⟩, 27), (⟨"TurnBoardsModel", "isPoint", "(I)Z"⟩, 27), (⟨"TurnBoardsModel", "isWalk", "(I)Z"⟩, 27), (⟨"TurnBoardsModel", "isLine", "(I)Z"⟩, 27)]
theorem lw_r2 : ∀ q ∈ lw_privs_2, lw_okq q := List.forall_mem_cons.mpr ⟨lw_p16, List.forall_mem_cons.mpr ⟨lw_p17, List.forall_mem_cons.mpr ⟨lw_p18, List.forall_mem_cons.mpr ⟨lw_p19, List.forall_mem_cons.mpr ⟨lw_p20, List.forall_mem_cons.mpr ⟨lw_p21, List.forall_mem_cons.mpr ⟨lw_p22, List.forall_mem_cons.mpr ⟨lw_p23, List.forall_mem_cons.mpr ⟨lw_p24, List.forall_mem_cons.mpr ⟨lw_p25, List.forall_mem_cons.mpr ⟨lw_p26, List.forall_mem_cons.mpr ⟨lw_p27, List.forall_mem_cons.mpr ⟨lw_p28, List.forall_mem_cons.mpr ⟨lw_p29, List.forall_mem_cons.mpr ⟨lw_p30, List.forall_mem_cons.mpr ⟨lw_p31, fun _ h => absurd h List.not_mem_nil⟩⟩⟩⟩⟩⟩⟩⟩⟩⟩⟩⟩⟩⟩⟩⟩
theorem lw_p32 : lw_okq (⟨"TurnBoardsModel", "endOf", "(I)I"⟩, 27) := ⟨⟨by decide +kernel, by decide +kernel⟩, List.mem_of_getElem? (i := 612) (by decide +kernel), List.mem_of_getElem? (i := 796) (by decide +kernel), List.mem_of_getElem? (i := 797) (by decide +kernel)⟩
theorem lw_p33 : lw_okq (⟨"TurnBoardsModel", "layBacks", "()V"⟩, 27) := ⟨⟨by decide +kernel, by decide +kernel⟩, List.mem_of_getElem? (i := 612) (by decide +kernel), List.mem_of_getElem? (i := 808) (by decide +kernel), List.mem_of_getElem? (i := 809) (by decide +kernel)⟩
theorem lw_p34 : lw_okq (⟨"TurnBoardsModel", "takeLines", "()V"⟩, 27) := ⟨⟨by decide +kernel, by decide +kernel⟩, List.mem_of_getElem? (i := 612) (by decide +kernel), List.mem_of_getElem? (i := 812) (by decide +kernel), List.mem_of_getElem? (i := 813) (by decide +kernel)⟩
theorem lw_p35 : lw_okq (⟨"TurnBoardsModel", "isClosed", "(I)Z"⟩, 27) := ⟨⟨by decide +kernel, by decide +kernel⟩, List.mem_of_getElem? (i := 612) (by decide +kernel), List.mem_of_getElem? (i := 816) (by decide +kernel), List.mem_of_getElem? (i := 817) (by decide +kernel)⟩
theorem lw_p36 : lw_okq (⟨"TurnBoardsModel", "turnOf", "(I)I"⟩, 27) := ⟨⟨by decide +kernel, by decide +kernel⟩, List.mem_of_getElem? (i := 612) (by decide +kernel), List.mem_of_getElem? (i := 820) (by decide +kernel), List.mem_of_getElem? (i := 821) (by decide +kernel)⟩
theorem lw_p37 : lw_okq (⟨"TurnBoardsModel", "record", "()V"⟩, 27) := ⟨⟨by decide +kernel, by decide +kernel⟩, List.mem_of_getElem? (i := 612) (by decide +kernel), List.mem_of_getElem? (i := 836) (by decide +kernel), List.mem_of_getElem? (i := 837) (by decide +kernel)⟩
theorem lw_p38 : lw_okq (⟨"TurnBoardsModel", "weightOf", "()J"⟩, 27) := ⟨⟨by decide +kernel, by decide +kernel⟩, List.mem_of_getElem? (i := 612) (by decide +kernel), List.mem_of_getElem? (i := 848) (by decide +kernel), List.mem_of_getElem? (i := 849) (by decide +kernel)⟩
theorem lw_p39 : lw_okq (⟨"TurnBoardsModel", "turned", "()I"⟩, 27) := ⟨⟨by decide +kernel, by decide +kernel⟩, List.mem_of_getElem? (i := 612) (by decide +kernel), List.mem_of_getElem? (i := 856) (by decide +kernel), List.mem_of_getElem? (i := 857) (by decide +kernel)⟩
theorem lw_p40 : lw_okq (⟨"TurnBoardsModel", "layTree", "()I"⟩, 27) := ⟨⟨by decide +kernel, by decide +kernel⟩, List.mem_of_getElem? (i := 612) (by decide +kernel), List.mem_of_getElem? (i := 864) (by decide +kernel), List.mem_of_getElem? (i := 865) (by decide +kernel)⟩
theorem lw_p41 : lw_okq (⟨"TurnBoardsModel", "summed", "(III)J"⟩, 27) := ⟨⟨by decide +kernel, by decide +kernel⟩, List.mem_of_getElem? (i := 612) (by decide +kernel), List.mem_of_getElem? (i := 876) (by decide +kernel), List.mem_of_getElem? (i := 877) (by decide +kernel)⟩
theorem lw_p42 : lw_okq (⟨"TurnBoardsModel", "power", "(I)J"⟩, 27) := ⟨⟨by decide +kernel, by decide +kernel⟩, List.mem_of_getElem? (i := 612) (by decide +kernel), List.mem_of_getElem? (i := 880) (by decide +kernel), List.mem_of_getElem? (i := 881) (by decide +kernel)⟩
theorem lw_p43 : lw_okq (⟨"TurnBoardsModel", "isFlat", "()Z"⟩, 27) := ⟨⟨by decide +kernel, by decide +kernel⟩, List.mem_of_getElem? (i := 612) (by decide +kernel), List.mem_of_getElem? (i := 886) (by decide +kernel), List.mem_of_getElem? (i := 887) (by decide +kernel)⟩
theorem lw_p44 : lw_okq (⟨"TurnBoardsModel", "canSum", "(II)Z"⟩, 27) := ⟨⟨by decide +kernel, by decide +kernel⟩, List.mem_of_getElem? (i := 612) (by decide +kernel), List.mem_of_getElem? (i := 894) (by decide +kernel), List.mem_of_getElem? (i := 895) (by decide +kernel)⟩
def lw_privs_3 : List (MethodName × Nat) := [(⟨"TurnBoardsModel", "endOf", "(I)I"⟩, 27), (⟨"TurnBoardsModel", "layBacks", "()V"⟩, 27), (⟨"TurnBoardsModel", "takeLines", "()V"⟩, 27), (⟨"TurnBoardsModel", "isClosed", "(I)Z"⟩, 27), (⟨"TurnBoardsModel", "turnOf", "(I)I"⟩, 27), (⟨"TurnBoardsModel", "record", "()V"⟩, 27), (⟨"TurnBoardsModel", "weightOf", "()J"⟩, 27), (⟨"TurnBoardsModel", "turned", "()I"⟩, 27), (⟨"TurnBoardsModel", "layTree", "()I"⟩, 27), (⟨"TurnBoardsModel", "summed", "(III)J"⟩, 27), (⟨"TurnBoardsModel", "power", "(I)J"⟩, 27), (⟨"TurnBoardsModel", "isFlat", "()Z"⟩, 27), (⟨"TurnBoardsModel", "canSum", "(II)Z"⟩, 27)]
theorem lw_r3 : ∀ q ∈ lw_privs_3, lw_okq q := List.forall_mem_cons.mpr ⟨lw_p32, List.forall_mem_cons.mpr ⟨lw_p33, List.forall_mem_cons.mpr ⟨lw_p34, List.forall_mem_cons.mpr ⟨lw_p35, List.forall_mem_cons.mpr ⟨lw_p36, List.forall_mem_cons.mpr ⟨lw_p37, List.forall_mem_cons.mpr ⟨lw_p38, List.forall_mem_cons.mpr ⟨lw_p39, List.forall_mem_cons.mpr ⟨lw_p40, List.forall_mem_cons.mpr ⟨lw_p41, List.forall_mem_cons.mpr ⟨lw_p42, List.forall_mem_cons.mpr ⟨lw_p43, List.forall_mem_cons.mpr ⟨lw_p44, fun _ h => absurd h List.not_mem_nil⟩⟩⟩⟩⟩⟩⟩⟩⟩⟩⟩⟩⟩
def lw_privs : List (MethodName × Nat) := lw_privs_1 ++ (lw_privs_2 ++ (lw_privs_3))
def lw_tbl : List Cond := k2_sels lw_privs ++ tables_1
theorem lw_privs_ok : ∀ q ∈ lw_privs, lw_okq q := by
  show ∀ q ∈ lw_privs_1 ++ (lw_privs_2 ++ (lw_privs_3)), lw_okq q
  exact List.forall_mem_append.mpr ⟨lw_r1, List.forall_mem_append.mpr ⟨lw_r2, lw_r3⟩⟩
end
section
/-! THE PURE MACHINE: what an instruction does, over a heap of numbers; a method is a table from places of its code to what is done there. -/
/-- a value: an int, a long, a reference (0 none, 1 the row of units, 2 the script, from 3 on the cells) -/
abbrev pm_V : Type := Int ⊕ (Int ⊕ Nat)
/-- the numbers of the heap: cell, place -/
abbrev pm_I : Type := Nat → Int → Int
abbrev pm_L : Type := List (Option pm_V)
/-- kinds, lengths, references, the rows that stand outside -/
abbrev pm_E : Type := (Nat → Nat) × (Nat → Int) × (Nat → Nat → Nat) × (Nat → Int → Int)
abbrev pm_O : Type := Option (Int × pm_I)
/-- method, rank, place, locals, stack, heap -/
abbrev pm_G : Type := Nat → Nat → Nat → pm_L → List pm_V → pm_I → pm_O
abbrev pm_S : Type := pm_E → pm_G → Nat → Nat → pm_L → List pm_V → pm_I → pm_O
abbrev pm_r32 (x : Int) : Prop := -2147483648 ≤ x ∧ x ≤ 2147483647
abbrev pm_r64 (x : Int) : Prop := -9223372036854775808 ≤ x ∧ x ≤ 9223372036854775807
def pm_w64 (x : Int) : Int := Int.bmod x 18446744073709551616
def pm_up (I : pm_I) (r : Nat) (k v : Int) : pm_I := fun a b => if a = r ∧ b = k then v else I a b
def pm_cp (I : pm_I) (q : Nat) (sp : Int) (r : Nat) (dp n : Int) : pm_I := fun a b => if a = r ∧ dp ≤ b ∧ b < dp + n then I q (sp + (b - dp)) else I a b
def pm_at : pm_L → Nat → Option pm_V
  | [], _ => none
  | a :: _, 0 => a
  | _ :: t, n + 1 => pm_at t n
def pm_lg : Option pm_V → Bool
  | some (.inr (.inl _)) => true
  | _ => false
def pm_st1 : pm_L → Nat → pm_V → pm_L
  | [], _, _ => []
  | _ :: t, 0, v => some v :: t
  | a :: t, n + 1, v => (bif (Nat.beq n 0 && pm_lg a) then none else a) :: pm_st1 t n v
def pm_cl0 : pm_L → pm_L
  | [] => []
  | _ :: t => none :: t
def pm_st2 : pm_L → Nat → pm_V → pm_L
  | [], _, _ => []
  | _ :: t, 0, v => some v :: pm_cl0 t
  | a :: t, n + 1, v => (bif (Nat.beq n 0 && pm_lg a) then none else a) :: pm_st2 t n v
def pm_wd : List pm_V → Nat
  | [] => 0
  | .inr (.inl _) :: t => 2 + pm_wd t
  | _ :: t => 1 + pm_wd t
/-- n values off the stack: the lowest first, and the rest -/
def pm_pop : Nat → List pm_V → List pm_V → Option (List pm_V × List pm_V)
  | 0, sk, av => some (av, sk)
  | n + 1, v :: sk, av => pm_pop n sk (v :: av)
  | _ + 1, [], _ => none
def pm_pad : Nat → pm_L
  | 0 => []
  | n + 1 => none :: pm_pad n
/-- the locals at a method's entry: n places are left for those that are not arguments -/
def pm_ent : List pm_V → Nat → pm_L
  | [], n => pm_pad n
  | .inr (.inl x) :: t, n => some (.inr (.inl x)) :: none :: pm_ent t n
  | v :: t, n => some v :: pm_ent t n
def pm_ret (rt : Nat) (x : Int) (sk : List pm_V) : List pm_V := match rt with
  | 0 => sk
  | 1 => .inl x :: sk
  | _ => .inr (.inl x) :: sk
/-- is the receiver of a kind (99: there is none) -/
def pm_rc (env : pm_E) (ci : Nat) (av : List pm_V) : Bool := bif Nat.beq ci 99 then true else match av with
  | .inr (.inr r) :: _ => Nat.beq (env.1 r) ci
  | _ => false
def s_bad : pm_S := fun _ _ _ _ _ _ _ => none
def s_push (n : Int) (nx : Nat) : pm_S := fun _ G y d lo sk I => G y d nx lo (.inl n :: sk) I
def s_lpush (n : Int) (nx : Nat) : pm_S := fun _ G y d lo sk I => G y d nx lo (.inr (.inl n) :: sk) I
def s_iload (i nx : Nat) : pm_S := fun _ G y d lo sk I => match pm_at lo i with
  | some (.inl n) => G y d nx lo (.inl n :: sk) I
  | _ => none
def s_lload (i nx : Nat) : pm_S := fun _ G y d lo sk I => match pm_at lo i with
  | some (.inr (.inl n)) => G y d nx lo (.inr (.inl n) :: sk) I
  | _ => none
def s_aload (i nx : Nat) : pm_S := fun _ G y d lo sk I => match pm_at lo i with
  | some (.inr (.inr n)) => G y d nx lo (.inr (.inr n) :: sk) I
  | _ => none
def s_istore (i nx : Nat) : pm_S := fun _ G y d lo sk I => match sk with
  | .inl n :: r => G y d nx (pm_st1 lo i (.inl n)) r I
  | _ => none
def s_lstore (i nx : Nat) : pm_S := fun _ G y d lo sk I => match sk with
  | .inr (.inl n) :: r => G y d nx (pm_st2 lo i (.inr (.inl n))) r I
  | _ => none
def s_astore (i nx : Nat) : pm_S := fun _ G y d lo sk I => match sk with
  | .inr (.inr n) :: r => G y d nx (pm_st1 lo i (.inr (.inr n))) r I
  | _ => none
def s_iinc (i : Nat) (k : Int) (nx : Nat) : pm_S := fun _ G y d lo sk I => match pm_at lo i with
  | some (.inl n) => if pm_r32 (n + k) then G y d nx (pm_st1 lo i (.inl (n + k))) sk I else none
  | _ => none
def s_iadd (nx : Nat) : pm_S := fun _ G y d lo sk I => match sk with
  | .inl b :: .inl a :: r => if pm_r32 (a + b) then G y d nx lo (.inl (a + b) :: r) I else none
  | _ => none
def s_isub (nx : Nat) : pm_S := fun _ G y d lo sk I => match sk with
  | .inl b :: .inl a :: r => if pm_r32 (a - b) then G y d nx lo (.inl (a - b) :: r) I else none
  | _ => none
def s_imul (nx : Nat) : pm_S := fun _ G y d lo sk I => match sk with
  | .inl b :: .inl a :: r => if pm_r32 (a * b) then G y d nx lo (.inl (a * b) :: r) I else none
  | _ => none
def s_idiv (nx : Nat) : pm_S := fun _ G y d lo sk I => match sk with
  | .inl b :: .inl a :: r => if 0 ≤ a ∧ 0 < b then G y d nx lo (.inl (a / b) :: r) I else none
  | _ => none
def s_irem (nx : Nat) : pm_S := fun _ G y d lo sk I => match sk with
  | .inl b :: .inl a :: r => if 0 ≤ a ∧ 0 < b then G y d nx lo (.inl (a % b) :: r) I else none
  | _ => none
def pm_and (a b : Int) : Int := (Int32.ofInt a &&& Int32.ofInt b).toInt
def pm_xor (a b : Int) : Int := (Int32.ofInt a ^^^ Int32.ofInt b).toInt
def pm_shl (a b : Int) : Int := (Int32.ofInt a <<< (Int32.ofInt b &&& 31)).toInt
def pm_shr (a b : Int) : Int := (Int32.ofInt a >>> (Int32.ofInt b &&& 31)).toInt
def pm_i2b (a : Int) : Int := (Int32.ofInt a).toInt8.toInt32.toInt
def pm_i2s (a : Int) : Int := (Int32.ofInt a).toInt16.toInt32.toInt
def s_iand (nx : Nat) : pm_S := fun _ G y d lo sk I => match sk with
  | .inl b :: .inl a :: r => G y d nx lo (.inl (pm_and a b) :: r) I
  | _ => none
def s_ixor (nx : Nat) : pm_S := fun _ G y d lo sk I => match sk with
  | .inl b :: .inl a :: r => G y d nx lo (.inl (pm_xor a b) :: r) I
  | _ => none
def s_ishl (nx : Nat) : pm_S := fun _ G y d lo sk I => match sk with
  | .inl b :: .inl a :: r => G y d nx lo (.inl (pm_shl a b) :: r) I
  | _ => none
def s_ishr (nx : Nat) : pm_S := fun _ G y d lo sk I => match sk with
  | .inl b :: .inl a :: r => G y d nx lo (.inl (pm_shr a b) :: r) I
  | _ => none
def s_i2b (nx : Nat) : pm_S := fun _ G y d lo sk I => match sk with
  | .inl a :: r => G y d nx lo (.inl (pm_i2b a) :: r) I
  | _ => none
def s_i2s (nx : Nat) : pm_S := fun _ G y d lo sk I => match sk with
  | .inl a :: r => G y d nx lo (.inl (pm_i2s a) :: r) I
  | _ => none
def s_i2l (nx : Nat) : pm_S := fun _ G y d lo sk I => match sk with
  | .inl a :: r => G y d nx lo (.inr (.inl a) :: r) I
  | _ => none
def s_ladd (nx : Nat) : pm_S := fun _ G y d lo sk I => match sk with
  | .inr (.inl b) :: .inr (.inl a) :: r => G y d nx lo (.inr (.inl (pm_w64 (a + b))) :: r) I
  | _ => none
def s_lmul (nx : Nat) : pm_S := fun _ G y d lo sk I => match sk with
  | .inr (.inl b) :: .inr (.inl a) :: r => G y d nx lo (.inr (.inl (pm_w64 (a * b))) :: r) I
  | _ => none
def s_ldiv (nx : Nat) : pm_S := fun _ G y d lo sk I => match sk with
  | .inr (.inl b) :: .inr (.inl a) :: r => if 0 ≤ a ∧ 0 < b then G y d nx lo (.inr (.inl (a / b)) :: r) I else none
  | _ => none
def s_lrem (nx : Nat) : pm_S := fun _ G y d lo sk I => match sk with
  | .inr (.inl b) :: .inr (.inl a) :: r => if 0 ≤ a ∧ 0 < b then G y d nx lo (.inr (.inl (a % b)) :: r) I else none
  | _ => none
def s_lcmp (nx : Nat) : pm_S := fun _ G y d lo sk I => match sk with
  | .inr (.inl b) :: .inr (.inl a) :: r => if b < a then G y d nx lo (.inl 1 :: r) I else if a = b then G y d nx lo (.inl 0 :: r) I else G y d nx lo (.inl (-1) :: r) I
  | _ => none
def s_dup (nx : Nat) : pm_S := fun _ G y d lo sk I => match sk with
  | .inl a :: r => G y d nx lo (.inl a :: .inl a :: r) I
  | .inr (.inr a) :: r => G y d nx lo (.inr (.inr a) :: .inr (.inr a) :: r) I
  | _ => none
def s_dup2 (nx : Nat) : pm_S := fun _ G y d lo sk I => match sk with
  | .inl a :: .inr (.inr b) :: r => G y d nx lo (.inl a :: .inr (.inr b) :: .inl a :: .inr (.inr b) :: r) I
  | _ => none
def s_ifeq (tg nx : Nat) : pm_S := fun _ G y d lo sk I => match sk with
  | .inl a :: r => if a = 0 then G y d tg lo r I else G y d nx lo r I
  | _ => none
def s_ifne (tg nx : Nat) : pm_S := fun _ G y d lo sk I => match sk with
  | .inl a :: r => if a = 0 then G y d nx lo r I else G y d tg lo r I
  | _ => none
def s_iflt (tg nx : Nat) : pm_S := fun _ G y d lo sk I => match sk with
  | .inl a :: r => if a < 0 then G y d tg lo r I else G y d nx lo r I
  | _ => none
def s_ifge (tg nx : Nat) : pm_S := fun _ G y d lo sk I => match sk with
  | .inl a :: r => if a < 0 then G y d nx lo r I else G y d tg lo r I
  | _ => none
def s_ifgt (tg nx : Nat) : pm_S := fun _ G y d lo sk I => match sk with
  | .inl a :: r => if 0 < a then G y d tg lo r I else G y d nx lo r I
  | _ => none
def s_ifle (tg nx : Nat) : pm_S := fun _ G y d lo sk I => match sk with
  | .inl a :: r => if 0 < a then G y d nx lo r I else G y d tg lo r I
  | _ => none
def s_ceq (tg nx : Nat) : pm_S := fun _ G y d lo sk I => match sk with
  | .inl b :: .inl a :: r => if a = b then G y d tg lo r I else G y d nx lo r I
  | _ => none
def s_cne (tg nx : Nat) : pm_S := fun _ G y d lo sk I => match sk with
  | .inl b :: .inl a :: r => if a = b then G y d nx lo r I else G y d tg lo r I
  | _ => none
def s_clt (tg nx : Nat) : pm_S := fun _ G y d lo sk I => match sk with
  | .inl b :: .inl a :: r => if a < b then G y d tg lo r I else G y d nx lo r I
  | _ => none
def s_cge (tg nx : Nat) : pm_S := fun _ G y d lo sk I => match sk with
  | .inl b :: .inl a :: r => if a < b then G y d nx lo r I else G y d tg lo r I
  | _ => none
def s_cgt (tg nx : Nat) : pm_S := fun _ G y d lo sk I => match sk with
  | .inl b :: .inl a :: r => if b < a then G y d tg lo r I else G y d nx lo r I
  | _ => none
def s_cle (tg nx : Nat) : pm_S := fun _ G y d lo sk I => match sk with
  | .inl b :: .inl a :: r => if b < a then G y d nx lo r I else G y d tg lo r I
  | _ => none
def s_goto (tg : Nat) : pm_S := fun _ G y d lo sk I => G y d tg lo sk I
def pm_swt (x : Int) (df : Nat) (k : Nat → pm_O) : List (Int × Nat) → pm_O
  | [] => k df
  | (c, t) :: ts => if x = c then k t else pm_swt x df k ts
def s_switch (ts : List (Int × Nat)) (df : Nat) : pm_S := fun _ G y d lo sk I => match sk with
  | .inl x :: r => pm_swt x df (fun t => G y d t lo r I) ts
  | _ => none
def s_getI (ci : Nat) (k : Int) (nx : Nat) : pm_S := fun env G y d lo sk I => match sk with
  | .inr (.inr r) :: t => bif Nat.beq (env.1 r) ci then G y d nx lo (.inl (I r k) :: t) I else none
  | _ => none
def s_getR (ci : Nat) (k : Nat) (nx : Nat) : pm_S := fun env G y d lo sk I => match sk with
  | .inr (.inr r) :: t => bif Nat.beq (env.1 r) ci then G y d nx lo (.inr (.inr (env.2.2.1 r k)) :: t) I else none
  | _ => none
def s_putI (ci : Nat) (k : Int) (nx : Nat) : pm_S := fun env G y d lo sk I => match sk with
  | .inl v :: .inr (.inr r) :: t => bif Nat.beq (env.1 r) ci then G y d nx lo t (pm_up I r k v) else none
  | _ => none
def s_putZ (ci : Nat) (k : Int) (nx : Nat) : pm_S := fun env G y d lo sk I => match sk with
  | .inl v :: .inr (.inr r) :: t => bif Nat.beq (env.1 r) ci then (if v = 0 ∨ v = 1 then G y d nx lo t (pm_up I r k v) else none) else none
  | _ => none
def s_units (nx : Nat) : pm_S := fun _ G y d lo sk I => G y d nx lo (.inr (.inr 1) :: sk) I
def s_iald (nx : Nat) : pm_S := fun env G y d lo sk I => match sk with
  | .inl i :: .inr (.inr r) :: t => bif Nat.beq (env.1 r) 8 then (if 0 ≤ i ∧ i < env.2.1 r then G y d nx lo (.inl (I r i) :: t) I else none)
      else bif Nat.beq (env.1 r) 50 then (if 0 ≤ i ∧ i < env.2.1 r then G y d nx lo (.inl (env.2.2.2 r i) :: t) I else none) else none
  | _ => none
def s_zald (nx : Nat) : pm_S := fun env G y d lo sk I => match sk with
  | .inl i :: .inr (.inr r) :: t => bif Nat.beq (env.1 r) 9 then (if 0 ≤ i ∧ i < env.2.1 r then G y d nx lo (.inl (I r i) :: t) I else none) else none
  | _ => none
def s_aald (nx : Nat) : pm_S := fun env G y d lo sk I => match sk with
  | .inl i :: .inr (.inr r) :: t => bif Nat.ble 10 (env.1 r) && Nat.ble (env.1 r) 12 then (if 0 ≤ i ∧ i < env.2.1 r then G y d nx lo (.inr (.inr (env.2.2.1 r i.toNat)) :: t) I else none) else none
  | _ => none
def s_iast (nx : Nat) : pm_S := fun env G y d lo sk I => match sk with
  | .inl v :: .inl i :: .inr (.inr r) :: t => bif Nat.beq (env.1 r) 8 then (if 0 ≤ i ∧ i < env.2.1 r then G y d nx lo t (pm_up I r i v) else none) else none
  | _ => none
def s_zast (nx : Nat) : pm_S := fun env G y d lo sk I => match sk with
  | .inl v :: .inl i :: .inr (.inr r) :: t => bif Nat.beq (env.1 r) 9 then (if 0 ≤ i ∧ i < env.2.1 r then (if v = 0 ∨ v = 1 then G y d nx lo t (pm_up I r i v) else none) else none) else none
  | _ => none
def s_alen (nx : Nat) : pm_S := fun env G y d lo sk I => match sk with
  | .inr (.inr r) :: t => bif Nat.beq (env.1 r) 8 || Nat.beq (env.1 r) 50 then G y d nx lo (.inl (env.2.1 r) :: t) I else none
  | _ => none
def s_min (nx : Nat) : pm_S := fun _ G y d lo sk I => match sk with
  | .inl b :: .inl a :: t => bif Nat.ble 1 d && Nat.ble (pm_wd t) 8 then G y d nx lo (.inl (min a b) :: t) I else none
  | _ => none
def s_max (nx : Nat) : pm_S := fun _ G y d lo sk I => match sk with
  | .inl b :: .inl a :: t => bif Nat.ble 1 d && Nat.ble (pm_wd t) 8 then G y d nx lo (.inl (max a b) :: t) I else none
  | _ => none
def s_copy (nx : Nat) : pm_S := fun env G y d lo sk I => match sk with
  | .inl n :: .inl dp :: .inr (.inr r) :: .inl sp :: .inr (.inr q) :: t => bif Nat.ble 1 d && Nat.ble (pm_wd t) 8 && Nat.beq (env.1 r) 8 && Nat.beq (env.1 q) 8 then
      (if 0 ≤ sp ∧ 0 ≤ dp ∧ 0 ≤ n then (if sp + n ≤ env.2.1 q then (if dp + n ≤ env.2.1 r then G y d nx lo t (pm_cp I q sp r dp n) else none) else none) else none) else none
  | _ => none
/-- a call: the method, its arguments' number, its other locals, its receiver's kind, what it answers (0 nothing, 1 an int, 2 a long), its rank -/
def s_call (m n nl rc rt : Nat) (rk : List pm_V → Nat) (nx : Nat) : pm_S := fun env G y d lo sk I => match pm_pop n sk [] with
  | some (av, t) => bif pm_rc env rc av then (bif Nat.blt (rk av) d && Nat.ble (pm_wd t) 8 then (G m (rk av) 0 (pm_ent av nl) [] I).bind (fun x => G y d nx lo (pm_ret rt x.1 t) x.2) else none) else none
  | none => none
def s_iret : pm_S := fun _ _ _ _ _ sk I => match sk with
  | [.inl v] => some (v, I)
  | _ => none
def s_zret : pm_S := fun _ _ _ _ _ sk I => match sk with
  | [.inl v] => if v = 0 ∨ v = 1 then some (v, I) else none
  | _ => none
def s_lret : pm_S := fun _ _ _ _ _ sk I => match sk with
  | [.inr (.inl v)] => some (v, I)
  | _ => none
def s_vret : pm_S := fun _ _ _ _ _ _ I => some (0, I)
/-! tables -/
def pm_tn (p : Nat) (a b : Nat → pm_S) : Nat → pm_S := fun pc => bif Nat.ble p pc then b pc else a pc
def pm_tl (p : Nat) (s : pm_S) : Nat → pm_S := fun pc => bif Nat.beq pc p then s else s_bad
/-! a chain of machines, and its limit -/
def pm_run (T : Nat → Nat → pm_S) (env : pm_E) : Nat → pm_G
  | 0 => fun _ _ _ _ _ _ => none
  | n + 1 => fun y d pc lo sk I => T y pc env (pm_run T env n) y d lo sk I
def pm_le (F G : pm_G) : Prop := ∀ y d pc lo sk I r, F y d pc lo sk I = some r → G y d pc lo sk I = some r
/-- what s does at a limit it does at a member of the chain, and so back -/
def pm_Ct (s : pm_S) : Prop := ∀ (env : pm_E) (F : Nat → pm_G) (G : pm_G), (∀ i j, i ≤ j → pm_le (F i) (F j)) → (∀ y d pc lo sk I r, G y d pc lo sk I = some r ↔ ∃ n, F n y d pc lo sk I = some r) →
  ∀ y d lo sk I r, s env G y d lo sk I = some r ↔ ∃ n, s env (F n) y d lo sk I = some r
end
section
/-! every instruction is of one of three kinds, a call aside: so the limit does what the chain does -/
def pm_T1 (f : pm_G → pm_O) : Prop := (∀ G, f G = none) ∨ (∃ r, ∀ G, f G = some r) ∨ ∃ y d pc lo sk I, ∀ G, f G = G y d pc lo sk I
theorem pm_T1_none : pm_T1 (fun _ => none) := Or.inl (fun _ => rfl)
theorem pm_T1_some {r : Int × pm_I} : pm_T1 (fun _ => some r) := Or.inr (Or.inl ⟨r, fun _ => rfl⟩)
theorem pm_T1_go {y d pc : Nat} {lo : pm_L} {sk : List pm_V} {I : pm_I} : pm_T1 (fun G => G y d pc lo sk I) := Or.inr (Or.inr ⟨y, d, pc, lo, sk, I, fun _ => rfl⟩)
theorem pm_T1_ite {c : Prop} {h : Decidable c} {a b : pm_G → pm_O} (ha : pm_T1 a) (hb : pm_T1 b) : pm_T1 (fun G => @ite pm_O c h (a G) (b G)) := by
  by_cases hc : c
  · simpa only [if_pos hc] using ha
  · simpa only [if_neg hc] using hb
theorem pm_T1_cond {c : Bool} {a b : pm_G → pm_O} (ha : pm_T1 a) (hb : pm_T1 b) : pm_T1 (fun G => bif c then a G else b G) := by
  cases c
  · exact hb
  · exact ha
theorem pm_Ct_of {s : pm_S} (h : ∀ env y d lo sk I, pm_T1 (fun G => s env G y d lo sk I)) : pm_Ct s := by
  intro env F G hF hG y d lo sk I r
  rcases h env y d lo sk I with h | ⟨r0, h⟩ | ⟨y', d', pc', lo', sk', I', h⟩
  · have h1 : ∀ G, s env G y d lo sk I = none := h
    simp [h1]
  · have h1 : ∀ G, s env G y d lo sk I = some r0 := h
    simp [h1]
  · have h1 : ∀ G, s env G y d lo sk I = G y' d' pc' lo' sk' I' := h
    simp only [h1]
    exact hG _ _ _ _ _ _ _

theorem ct_push (n : Int) (nx : Nat) : pm_Ct (s_push n nx) := pm_Ct_of (fun env y d lo sk I => by
  unfold s_push
  first | exact pm_T1_go | exact pm_T1_none | exact pm_T1_some | skip
  all_goals split
  all_goals (repeat' (first | exact pm_T1_go | exact pm_T1_none | exact pm_T1_some | apply pm_T1_cond | apply pm_T1_ite)))

theorem ct_lpush (n : Int) (nx : Nat) : pm_Ct (s_lpush n nx) := pm_Ct_of (fun env y d lo sk I => by
  unfold s_lpush
  first | exact pm_T1_go | exact pm_T1_none | exact pm_T1_some | skip
  all_goals split
  all_goals (repeat' (first | exact pm_T1_go | exact pm_T1_none | exact pm_T1_some | apply pm_T1_cond | apply pm_T1_ite)))

theorem ct_iload (i nx : Nat) : pm_Ct (s_iload i nx) := pm_Ct_of (fun env y d lo sk I => by
  unfold s_iload
  first | exact pm_T1_go | exact pm_T1_none | exact pm_T1_some | skip
  all_goals split
  all_goals (repeat' (first | exact pm_T1_go | exact pm_T1_none | exact pm_T1_some | apply pm_T1_cond | apply pm_T1_ite)))

theorem ct_lload (i nx : Nat) : pm_Ct (s_lload i nx) := pm_Ct_of (fun env y d lo sk I => by
  unfold s_lload
  first | exact pm_T1_go | exact pm_T1_none | exact pm_T1_some | skip
  all_goals split
  all_goals (repeat' (first | exact pm_T1_go | exact pm_T1_none | exact pm_T1_some | apply pm_T1_cond | apply pm_T1_ite)))

theorem ct_aload (i nx : Nat) : pm_Ct (s_aload i nx) := pm_Ct_of (fun env y d lo sk I => by
  unfold s_aload
  first | exact pm_T1_go | exact pm_T1_none | exact pm_T1_some | skip
  all_goals split
  all_goals (repeat' (first | exact pm_T1_go | exact pm_T1_none | exact pm_T1_some | apply pm_T1_cond | apply pm_T1_ite)))

theorem ct_istore (i nx : Nat) : pm_Ct (s_istore i nx) := pm_Ct_of (fun env y d lo sk I => by
  unfold s_istore
  first | exact pm_T1_go | exact pm_T1_none | exact pm_T1_some | skip
  all_goals split
  all_goals (repeat' (first | exact pm_T1_go | exact pm_T1_none | exact pm_T1_some | apply pm_T1_cond | apply pm_T1_ite)))

theorem ct_lstore (i nx : Nat) : pm_Ct (s_lstore i nx) := pm_Ct_of (fun env y d lo sk I => by
  unfold s_lstore
  first | exact pm_T1_go | exact pm_T1_none | exact pm_T1_some | skip
  all_goals split
  all_goals (repeat' (first | exact pm_T1_go | exact pm_T1_none | exact pm_T1_some | apply pm_T1_cond | apply pm_T1_ite)))

theorem ct_astore (i nx : Nat) : pm_Ct (s_astore i nx) := pm_Ct_of (fun env y d lo sk I => by
  unfold s_astore
  first | exact pm_T1_go | exact pm_T1_none | exact pm_T1_some | skip
  all_goals split
  all_goals (repeat' (first | exact pm_T1_go | exact pm_T1_none | exact pm_T1_some | apply pm_T1_cond | apply pm_T1_ite)))

theorem ct_iinc (i : Nat) (k : Int) (nx : Nat) : pm_Ct (s_iinc i k nx) := pm_Ct_of (fun env y d lo sk I => by
  unfold s_iinc
  first | exact pm_T1_go | exact pm_T1_none | exact pm_T1_some | skip
  all_goals split
  all_goals (repeat' (first | exact pm_T1_go | exact pm_T1_none | exact pm_T1_some | apply pm_T1_cond | apply pm_T1_ite)))

theorem ct_iadd (nx : Nat) : pm_Ct (s_iadd nx) := pm_Ct_of (fun env y d lo sk I => by
  unfold s_iadd
  first | exact pm_T1_go | exact pm_T1_none | exact pm_T1_some | skip
  all_goals split
  all_goals (repeat' (first | exact pm_T1_go | exact pm_T1_none | exact pm_T1_some | apply pm_T1_cond | apply pm_T1_ite)))

theorem ct_isub (nx : Nat) : pm_Ct (s_isub nx) := pm_Ct_of (fun env y d lo sk I => by
  unfold s_isub
  first | exact pm_T1_go | exact pm_T1_none | exact pm_T1_some | skip
  all_goals split
  all_goals (repeat' (first | exact pm_T1_go | exact pm_T1_none | exact pm_T1_some | apply pm_T1_cond | apply pm_T1_ite)))

theorem ct_imul (nx : Nat) : pm_Ct (s_imul nx) := pm_Ct_of (fun env y d lo sk I => by
  unfold s_imul
  first | exact pm_T1_go | exact pm_T1_none | exact pm_T1_some | skip
  all_goals split
  all_goals (repeat' (first | exact pm_T1_go | exact pm_T1_none | exact pm_T1_some | apply pm_T1_cond | apply pm_T1_ite)))

theorem ct_idiv (nx : Nat) : pm_Ct (s_idiv nx) := pm_Ct_of (fun env y d lo sk I => by
  unfold s_idiv
  first | exact pm_T1_go | exact pm_T1_none | exact pm_T1_some | skip
  all_goals split
  all_goals (repeat' (first | exact pm_T1_go | exact pm_T1_none | exact pm_T1_some | apply pm_T1_cond | apply pm_T1_ite)))

theorem ct_irem (nx : Nat) : pm_Ct (s_irem nx) := pm_Ct_of (fun env y d lo sk I => by
  unfold s_irem
  first | exact pm_T1_go | exact pm_T1_none | exact pm_T1_some | skip
  all_goals split
  all_goals (repeat' (first | exact pm_T1_go | exact pm_T1_none | exact pm_T1_some | apply pm_T1_cond | apply pm_T1_ite)))

theorem ct_iand (nx : Nat) : pm_Ct (s_iand nx) := pm_Ct_of (fun env y d lo sk I => by
  unfold s_iand
  first | exact pm_T1_go | exact pm_T1_none | exact pm_T1_some | skip
  all_goals split
  all_goals (repeat' (first | exact pm_T1_go | exact pm_T1_none | exact pm_T1_some | apply pm_T1_cond | apply pm_T1_ite)))

theorem ct_ixor (nx : Nat) : pm_Ct (s_ixor nx) := pm_Ct_of (fun env y d lo sk I => by
  unfold s_ixor
  first | exact pm_T1_go | exact pm_T1_none | exact pm_T1_some | skip
  all_goals split
  all_goals (repeat' (first | exact pm_T1_go | exact pm_T1_none | exact pm_T1_some | apply pm_T1_cond | apply pm_T1_ite)))

theorem ct_ishl (nx : Nat) : pm_Ct (s_ishl nx) := pm_Ct_of (fun env y d lo sk I => by
  unfold s_ishl
  first | exact pm_T1_go | exact pm_T1_none | exact pm_T1_some | skip
  all_goals split
  all_goals (repeat' (first | exact pm_T1_go | exact pm_T1_none | exact pm_T1_some | apply pm_T1_cond | apply pm_T1_ite)))

theorem ct_ishr (nx : Nat) : pm_Ct (s_ishr nx) := pm_Ct_of (fun env y d lo sk I => by
  unfold s_ishr
  first | exact pm_T1_go | exact pm_T1_none | exact pm_T1_some | skip
  all_goals split
  all_goals (repeat' (first | exact pm_T1_go | exact pm_T1_none | exact pm_T1_some | apply pm_T1_cond | apply pm_T1_ite)))

theorem ct_i2b (nx : Nat) : pm_Ct (s_i2b nx) := pm_Ct_of (fun env y d lo sk I => by
  unfold s_i2b
  first | exact pm_T1_go | exact pm_T1_none | exact pm_T1_some | skip
  all_goals split
  all_goals (repeat' (first | exact pm_T1_go | exact pm_T1_none | exact pm_T1_some | apply pm_T1_cond | apply pm_T1_ite)))

theorem ct_i2s (nx : Nat) : pm_Ct (s_i2s nx) := pm_Ct_of (fun env y d lo sk I => by
  unfold s_i2s
  first | exact pm_T1_go | exact pm_T1_none | exact pm_T1_some | skip
  all_goals split
  all_goals (repeat' (first | exact pm_T1_go | exact pm_T1_none | exact pm_T1_some | apply pm_T1_cond | apply pm_T1_ite)))

theorem ct_i2l (nx : Nat) : pm_Ct (s_i2l nx) := pm_Ct_of (fun env y d lo sk I => by
  unfold s_i2l
  first | exact pm_T1_go | exact pm_T1_none | exact pm_T1_some | skip
  all_goals split
  all_goals (repeat' (first | exact pm_T1_go | exact pm_T1_none | exact pm_T1_some | apply pm_T1_cond | apply pm_T1_ite)))

theorem ct_ladd (nx : Nat) : pm_Ct (s_ladd nx) := pm_Ct_of (fun env y d lo sk I => by
  unfold s_ladd
  first | exact pm_T1_go | exact pm_T1_none | exact pm_T1_some | skip
  all_goals split
  all_goals (repeat' (first | exact pm_T1_go | exact pm_T1_none | exact pm_T1_some | apply pm_T1_cond | apply pm_T1_ite)))

theorem ct_lmul (nx : Nat) : pm_Ct (s_lmul nx) := pm_Ct_of (fun env y d lo sk I => by
  unfold s_lmul
  first | exact pm_T1_go | exact pm_T1_none | exact pm_T1_some | skip
  all_goals split
  all_goals (repeat' (first | exact pm_T1_go | exact pm_T1_none | exact pm_T1_some | apply pm_T1_cond | apply pm_T1_ite)))

theorem ct_ldiv (nx : Nat) : pm_Ct (s_ldiv nx) := pm_Ct_of (fun env y d lo sk I => by
  unfold s_ldiv
  first | exact pm_T1_go | exact pm_T1_none | exact pm_T1_some | skip
  all_goals split
  all_goals (repeat' (first | exact pm_T1_go | exact pm_T1_none | exact pm_T1_some | apply pm_T1_cond | apply pm_T1_ite)))

theorem ct_lrem (nx : Nat) : pm_Ct (s_lrem nx) := pm_Ct_of (fun env y d lo sk I => by
  unfold s_lrem
  first | exact pm_T1_go | exact pm_T1_none | exact pm_T1_some | skip
  all_goals split
  all_goals (repeat' (first | exact pm_T1_go | exact pm_T1_none | exact pm_T1_some | apply pm_T1_cond | apply pm_T1_ite)))

theorem ct_lcmp (nx : Nat) : pm_Ct (s_lcmp nx) := pm_Ct_of (fun env y d lo sk I => by
  unfold s_lcmp
  first | exact pm_T1_go | exact pm_T1_none | exact pm_T1_some | skip
  all_goals split
  all_goals (repeat' (first | exact pm_T1_go | exact pm_T1_none | exact pm_T1_some | apply pm_T1_cond | apply pm_T1_ite)))

theorem ct_dup (nx : Nat) : pm_Ct (s_dup nx) := pm_Ct_of (fun env y d lo sk I => by
  unfold s_dup
  first | exact pm_T1_go | exact pm_T1_none | exact pm_T1_some | skip
  all_goals split
  all_goals (repeat' (first | exact pm_T1_go | exact pm_T1_none | exact pm_T1_some | apply pm_T1_cond | apply pm_T1_ite)))

theorem ct_dup2 (nx : Nat) : pm_Ct (s_dup2 nx) := pm_Ct_of (fun env y d lo sk I => by
  unfold s_dup2
  first | exact pm_T1_go | exact pm_T1_none | exact pm_T1_some | skip
  all_goals split
  all_goals (repeat' (first | exact pm_T1_go | exact pm_T1_none | exact pm_T1_some | apply pm_T1_cond | apply pm_T1_ite)))

theorem ct_units (nx : Nat) : pm_Ct (s_units nx) := pm_Ct_of (fun env y d lo sk I => by
  unfold s_units
  first | exact pm_T1_go | exact pm_T1_none | exact pm_T1_some | skip
  all_goals split
  all_goals (repeat' (first | exact pm_T1_go | exact pm_T1_none | exact pm_T1_some | apply pm_T1_cond | apply pm_T1_ite)))

theorem ct_iald (nx : Nat) : pm_Ct (s_iald nx) := pm_Ct_of (fun env y d lo sk I => by
  unfold s_iald
  first | exact pm_T1_go | exact pm_T1_none | exact pm_T1_some | skip
  all_goals split
  all_goals (repeat' (first | exact pm_T1_go | exact pm_T1_none | exact pm_T1_some | apply pm_T1_cond | apply pm_T1_ite)))

theorem ct_zald (nx : Nat) : pm_Ct (s_zald nx) := pm_Ct_of (fun env y d lo sk I => by
  unfold s_zald
  first | exact pm_T1_go | exact pm_T1_none | exact pm_T1_some | skip
  all_goals split
  all_goals (repeat' (first | exact pm_T1_go | exact pm_T1_none | exact pm_T1_some | apply pm_T1_cond | apply pm_T1_ite)))

theorem ct_aald (nx : Nat) : pm_Ct (s_aald nx) := pm_Ct_of (fun env y d lo sk I => by
  unfold s_aald
  first | exact pm_T1_go | exact pm_T1_none | exact pm_T1_some | skip
  all_goals split
  all_goals (repeat' (first | exact pm_T1_go | exact pm_T1_none | exact pm_T1_some | apply pm_T1_cond | apply pm_T1_ite)))

theorem ct_iast (nx : Nat) : pm_Ct (s_iast nx) := pm_Ct_of (fun env y d lo sk I => by
  unfold s_iast
  first | exact pm_T1_go | exact pm_T1_none | exact pm_T1_some | skip
  all_goals split
  all_goals (repeat' (first | exact pm_T1_go | exact pm_T1_none | exact pm_T1_some | apply pm_T1_cond | apply pm_T1_ite)))

theorem ct_zast (nx : Nat) : pm_Ct (s_zast nx) := pm_Ct_of (fun env y d lo sk I => by
  unfold s_zast
  first | exact pm_T1_go | exact pm_T1_none | exact pm_T1_some | skip
  all_goals split
  all_goals (repeat' (first | exact pm_T1_go | exact pm_T1_none | exact pm_T1_some | apply pm_T1_cond | apply pm_T1_ite)))

theorem ct_alen (nx : Nat) : pm_Ct (s_alen nx) := pm_Ct_of (fun env y d lo sk I => by
  unfold s_alen
  first | exact pm_T1_go | exact pm_T1_none | exact pm_T1_some | skip
  all_goals split
  all_goals (repeat' (first | exact pm_T1_go | exact pm_T1_none | exact pm_T1_some | apply pm_T1_cond | apply pm_T1_ite)))

theorem ct_min (nx : Nat) : pm_Ct (s_min nx) := pm_Ct_of (fun env y d lo sk I => by
  unfold s_min
  first | exact pm_T1_go | exact pm_T1_none | exact pm_T1_some | skip
  all_goals split
  all_goals (repeat' (first | exact pm_T1_go | exact pm_T1_none | exact pm_T1_some | apply pm_T1_cond | apply pm_T1_ite)))

theorem ct_max (nx : Nat) : pm_Ct (s_max nx) := pm_Ct_of (fun env y d lo sk I => by
  unfold s_max
  first | exact pm_T1_go | exact pm_T1_none | exact pm_T1_some | skip
  all_goals split
  all_goals (repeat' (first | exact pm_T1_go | exact pm_T1_none | exact pm_T1_some | apply pm_T1_cond | apply pm_T1_ite)))

theorem ct_copy (nx : Nat) : pm_Ct (s_copy nx) := pm_Ct_of (fun env y d lo sk I => by
  unfold s_copy
  first | exact pm_T1_go | exact pm_T1_none | exact pm_T1_some | skip
  all_goals split
  all_goals (repeat' (first | exact pm_T1_go | exact pm_T1_none | exact pm_T1_some | apply pm_T1_cond | apply pm_T1_ite)))

theorem ct_ifeq (tg nx : Nat) : pm_Ct (s_ifeq tg nx) := pm_Ct_of (fun env y d lo sk I => by
  unfold s_ifeq
  first | exact pm_T1_go | exact pm_T1_none | exact pm_T1_some | skip
  all_goals split
  all_goals (repeat' (first | exact pm_T1_go | exact pm_T1_none | exact pm_T1_some | apply pm_T1_cond | apply pm_T1_ite)))

theorem ct_ifne (tg nx : Nat) : pm_Ct (s_ifne tg nx) := pm_Ct_of (fun env y d lo sk I => by
  unfold s_ifne
  first | exact pm_T1_go | exact pm_T1_none | exact pm_T1_some | skip
  all_goals split
  all_goals (repeat' (first | exact pm_T1_go | exact pm_T1_none | exact pm_T1_some | apply pm_T1_cond | apply pm_T1_ite)))

theorem ct_iflt (tg nx : Nat) : pm_Ct (s_iflt tg nx) := pm_Ct_of (fun env y d lo sk I => by
  unfold s_iflt
  first | exact pm_T1_go | exact pm_T1_none | exact pm_T1_some | skip
  all_goals split
  all_goals (repeat' (first | exact pm_T1_go | exact pm_T1_none | exact pm_T1_some | apply pm_T1_cond | apply pm_T1_ite)))

theorem ct_ifge (tg nx : Nat) : pm_Ct (s_ifge tg nx) := pm_Ct_of (fun env y d lo sk I => by
  unfold s_ifge
  first | exact pm_T1_go | exact pm_T1_none | exact pm_T1_some | skip
  all_goals split
  all_goals (repeat' (first | exact pm_T1_go | exact pm_T1_none | exact pm_T1_some | apply pm_T1_cond | apply pm_T1_ite)))

theorem ct_ifgt (tg nx : Nat) : pm_Ct (s_ifgt tg nx) := pm_Ct_of (fun env y d lo sk I => by
  unfold s_ifgt
  first | exact pm_T1_go | exact pm_T1_none | exact pm_T1_some | skip
  all_goals split
  all_goals (repeat' (first | exact pm_T1_go | exact pm_T1_none | exact pm_T1_some | apply pm_T1_cond | apply pm_T1_ite)))

theorem ct_ifle (tg nx : Nat) : pm_Ct (s_ifle tg nx) := pm_Ct_of (fun env y d lo sk I => by
  unfold s_ifle
  first | exact pm_T1_go | exact pm_T1_none | exact pm_T1_some | skip
  all_goals split
  all_goals (repeat' (first | exact pm_T1_go | exact pm_T1_none | exact pm_T1_some | apply pm_T1_cond | apply pm_T1_ite)))

theorem ct_ceq (tg nx : Nat) : pm_Ct (s_ceq tg nx) := pm_Ct_of (fun env y d lo sk I => by
  unfold s_ceq
  first | exact pm_T1_go | exact pm_T1_none | exact pm_T1_some | skip
  all_goals split
  all_goals (repeat' (first | exact pm_T1_go | exact pm_T1_none | exact pm_T1_some | apply pm_T1_cond | apply pm_T1_ite)))

theorem ct_cne (tg nx : Nat) : pm_Ct (s_cne tg nx) := pm_Ct_of (fun env y d lo sk I => by
  unfold s_cne
  first | exact pm_T1_go | exact pm_T1_none | exact pm_T1_some | skip
  all_goals split
  all_goals (repeat' (first | exact pm_T1_go | exact pm_T1_none | exact pm_T1_some | apply pm_T1_cond | apply pm_T1_ite)))

theorem ct_clt (tg nx : Nat) : pm_Ct (s_clt tg nx) := pm_Ct_of (fun env y d lo sk I => by
  unfold s_clt
  first | exact pm_T1_go | exact pm_T1_none | exact pm_T1_some | skip
  all_goals split
  all_goals (repeat' (first | exact pm_T1_go | exact pm_T1_none | exact pm_T1_some | apply pm_T1_cond | apply pm_T1_ite)))

theorem ct_cge (tg nx : Nat) : pm_Ct (s_cge tg nx) := pm_Ct_of (fun env y d lo sk I => by
  unfold s_cge
  first | exact pm_T1_go | exact pm_T1_none | exact pm_T1_some | skip
  all_goals split
  all_goals (repeat' (first | exact pm_T1_go | exact pm_T1_none | exact pm_T1_some | apply pm_T1_cond | apply pm_T1_ite)))

theorem ct_cgt (tg nx : Nat) : pm_Ct (s_cgt tg nx) := pm_Ct_of (fun env y d lo sk I => by
  unfold s_cgt
  first | exact pm_T1_go | exact pm_T1_none | exact pm_T1_some | skip
  all_goals split
  all_goals (repeat' (first | exact pm_T1_go | exact pm_T1_none | exact pm_T1_some | apply pm_T1_cond | apply pm_T1_ite)))

theorem ct_cle (tg nx : Nat) : pm_Ct (s_cle tg nx) := pm_Ct_of (fun env y d lo sk I => by
  unfold s_cle
  first | exact pm_T1_go | exact pm_T1_none | exact pm_T1_some | skip
  all_goals split
  all_goals (repeat' (first | exact pm_T1_go | exact pm_T1_none | exact pm_T1_some | apply pm_T1_cond | apply pm_T1_ite)))

theorem ct_goto (tg : Nat) : pm_Ct (s_goto tg) := pm_Ct_of (fun env y d lo sk I => by
  unfold s_goto
  first | exact pm_T1_go | exact pm_T1_none | exact pm_T1_some | skip
  all_goals split
  all_goals (repeat' (first | exact pm_T1_go | exact pm_T1_none | exact pm_T1_some | apply pm_T1_cond | apply pm_T1_ite)))

theorem ct_getI (ci : Nat) (k : Int) (nx : Nat) : pm_Ct (s_getI ci k nx) := pm_Ct_of (fun env y d lo sk I => by
  unfold s_getI
  first | exact pm_T1_go | exact pm_T1_none | exact pm_T1_some | skip
  all_goals split
  all_goals (repeat' (first | exact pm_T1_go | exact pm_T1_none | exact pm_T1_some | apply pm_T1_cond | apply pm_T1_ite)))

theorem ct_getR (ci k nx : Nat) : pm_Ct (s_getR ci k nx) := pm_Ct_of (fun env y d lo sk I => by
  unfold s_getR
  first | exact pm_T1_go | exact pm_T1_none | exact pm_T1_some | skip
  all_goals split
  all_goals (repeat' (first | exact pm_T1_go | exact pm_T1_none | exact pm_T1_some | apply pm_T1_cond | apply pm_T1_ite)))

theorem ct_putI (ci : Nat) (k : Int) (nx : Nat) : pm_Ct (s_putI ci k nx) := pm_Ct_of (fun env y d lo sk I => by
  unfold s_putI
  first | exact pm_T1_go | exact pm_T1_none | exact pm_T1_some | skip
  all_goals split
  all_goals (repeat' (first | exact pm_T1_go | exact pm_T1_none | exact pm_T1_some | apply pm_T1_cond | apply pm_T1_ite)))

theorem ct_putZ (ci : Nat) (k : Int) (nx : Nat) : pm_Ct (s_putZ ci k nx) := pm_Ct_of (fun env y d lo sk I => by
  unfold s_putZ
  first | exact pm_T1_go | exact pm_T1_none | exact pm_T1_some | skip
  all_goals split
  all_goals (repeat' (first | exact pm_T1_go | exact pm_T1_none | exact pm_T1_some | apply pm_T1_cond | apply pm_T1_ite)))

theorem ct_bad  : pm_Ct (s_bad) := pm_Ct_of (fun env y d lo sk I => by
  unfold s_bad
  first | exact pm_T1_go | exact pm_T1_none | exact pm_T1_some | skip
  all_goals split
  all_goals (repeat' (first | exact pm_T1_go | exact pm_T1_none | exact pm_T1_some | apply pm_T1_cond | apply pm_T1_ite)))

theorem ct_iret  : pm_Ct (s_iret) := pm_Ct_of (fun env y d lo sk I => by
  unfold s_iret
  first | exact pm_T1_go | exact pm_T1_none | exact pm_T1_some | skip
  all_goals split
  all_goals (repeat' (first | exact pm_T1_go | exact pm_T1_none | exact pm_T1_some | apply pm_T1_cond | apply pm_T1_ite)))

theorem ct_zret  : pm_Ct (s_zret) := pm_Ct_of (fun env y d lo sk I => by
  unfold s_zret
  first | exact pm_T1_go | exact pm_T1_none | exact pm_T1_some | skip
  all_goals split
  all_goals (repeat' (first | exact pm_T1_go | exact pm_T1_none | exact pm_T1_some | apply pm_T1_cond | apply pm_T1_ite)))

theorem ct_lret  : pm_Ct (s_lret) := pm_Ct_of (fun env y d lo sk I => by
  unfold s_lret
  first | exact pm_T1_go | exact pm_T1_none | exact pm_T1_some | skip
  all_goals split
  all_goals (repeat' (first | exact pm_T1_go | exact pm_T1_none | exact pm_T1_some | apply pm_T1_cond | apply pm_T1_ite)))

theorem ct_vret  : pm_Ct (s_vret) := pm_Ct_of (fun env y d lo sk I => by
  unfold s_vret
  first | exact pm_T1_go | exact pm_T1_none | exact pm_T1_some | skip
  all_goals split
  all_goals (repeat' (first | exact pm_T1_go | exact pm_T1_none | exact pm_T1_some | apply pm_T1_cond | apply pm_T1_ite)))

theorem pm_T1_swt {x : Int} {df : Nat} {k : pm_G → Nat → pm_O} (hk : ∀ t, pm_T1 (fun G => k G t)) : ∀ ts : List (Int × Nat), pm_T1 (fun G => pm_swt x df (k G) ts)
  | [] => hk df
  | (c, t) :: ts => pm_T1_ite (hk t) (pm_T1_swt hk ts)
theorem ct_switch (ts : List (Int × Nat)) (df : Nat) : pm_Ct (s_switch ts df) := pm_Ct_of (fun env y d lo sk I => by
  unfold s_switch
  split
  · exact pm_T1_swt (fun t => pm_T1_go) ts
  · exact pm_T1_none)
theorem ct_call (m n nl rc rt : Nat) (rk : List pm_V → Nat) (nx : Nat) : pm_Ct (s_call m n nl rc rt rk nx) := by
  intro env F G hF hG y d lo sk I r
  unfold s_call
  cases pm_pop n sk [] with
  | none => simp
  | some q =>
    obtain ⟨av, t⟩ := q
    dsimp only
    cases pm_rc env rc av with
    | false => simp
    | true =>
      cases (Nat.blt (rk av) d && Nat.ble (pm_wd t) 8) with
      | false => simp
      | true =>
        dsimp only [cond_true]
        constructor
        · intro h
          obtain ⟨x, h1, h2⟩ := Option.bind_eq_some_iff.mp h
          obtain ⟨i, hi⟩ := (hG _ _ _ _ _ _ _).mp h1
          obtain ⟨j, hj⟩ := (hG _ _ _ _ _ _ _).mp h2
          refine ⟨max i j, Option.bind_eq_some_iff.mpr ⟨x, hF i _ (Nat.le_max_left i j) _ _ _ _ _ _ _ hi, hF j _ (Nat.le_max_right i j) _ _ _ _ _ _ _ hj⟩⟩
        · rintro ⟨i, h⟩
          obtain ⟨x, h1, h2⟩ := Option.bind_eq_some_iff.mp h
          exact Option.bind_eq_some_iff.mpr ⟨x, (hG _ _ _ _ _ _ _).mpr ⟨i, h1⟩, (hG _ _ _ _ _ _ _).mpr ⟨i, h2⟩⟩
theorem ct_tn {p : Nat} {a b : Nat → pm_S} (ha : ∀ pc, pm_Ct (a pc)) (hb : ∀ pc, pm_Ct (b pc)) (pc : Nat) : pm_Ct (pm_tn p a b pc) := by
  unfold pm_tn
  cases Nat.ble p pc with
  | false => exact ha pc
  | true => exact hb pc
theorem ct_tl {p : Nat} {s : pm_S} (h : pm_Ct s) (pc : Nat) : pm_Ct (pm_tl p s pc) := by
  unfold pm_tl
  cases Nat.beq pc p with
  | false => exact ct_bad
  | true => exact h
section PMLIM
variable {T : Nat → Nat → pm_S} (hT : ∀ y pc, pm_Ct (T y pc)) (env : pm_E)
/-- more steps, no other answer -/
theorem pm_mono1 (hT : ∀ y pc, pm_Ct (T y pc)) (env : pm_E) : ∀ n, pm_le (pm_run T env n) (pm_run T env (n + 1))
  | 0 => fun _ _ _ _ _ _ _ h => by cases h
  | n + 1 => fun y d pc lo sk I r h => by
    have ih := pm_mono1 hT env n
    have h1 : T y pc env (pm_run T env n) y d lo sk I = some r := h
    show T y pc env (pm_run T env (n + 1)) y d lo sk I = some r
    refine (hT y pc env (fun i => if i = 0 then pm_run T env n else pm_run T env (n + 1)) (pm_run T env (n + 1)) ?_ ?_ y d lo sk I r).mpr ⟨0, by simpa using h1⟩
    · intro i j hij
      by_cases hi : i = 0
      · by_cases hj : j = 0
        · simp only [hi, hj]; exact fun _ _ _ _ _ _ _ q => q
        · simp only [hi, hj, if_true, if_false]; exact ih
      · have hj : ¬ j = 0 := by omega
        simp only [hi, hj, if_false]; exact fun _ _ _ _ _ _ _ q => q
    · intro y d pc lo sk I r
      constructor
      · intro q; exact ⟨1, by simpa using q⟩
      · rintro ⟨i, q⟩
        by_cases hi : i = 0
        · simp only [hi, if_true] at q; exact ih _ _ _ _ _ _ _ q
        · simp only [hi, if_false] at q; exact q
theorem pm_mono (hT : ∀ y pc, pm_Ct (T y pc)) (env : pm_E) (i j : Nat) (h : i ≤ j) : pm_le (pm_run T env i) (pm_run T env j) := by
  induction j with
  | zero => rw [show i = 0 by omega]; exact fun _ _ _ _ _ _ _ q => q
  | succ j ih =>
    by_cases e : i = j + 1
    · subst e; exact fun _ _ _ _ _ _ _ q => q
    · exact fun y d pc lo sk I r q => pm_mono1 hT env j _ _ _ _ _ _ _ (ih (by omega) _ _ _ _ _ _ _ q)
noncomputable def pm_lim (F : Nat → pm_O) : pm_O := @dite pm_O (∃ r n, F n = some r) (Classical.propDecidable _) (fun h => some h.choose) (fun _ => none)
theorem pm_lim_iff {F : Nat → pm_O} (hF : ∀ i j r, i ≤ j → F i = some r → F j = some r) (r : Int × pm_I) : pm_lim F = some r ↔ ∃ n, F n = some r := by
  unfold pm_lim
  by_cases h : ∃ r n, F n = some r
  · rw [dif_pos h]
    obtain ⟨n, hn⟩ := h.choose_spec
    constructor
    · intro e
      exact ⟨n, by rw [hn]; exact e⟩
    · rintro ⟨k, hk⟩
      rcases Nat.le_total n k with q | q
      · rw [hF n k _ q hn] at hk; exact hk
      · rw [hF k n _ q hk] at hn; exact hn.symm
  · rw [dif_neg h]
    constructor
    · intro e; cases e
    · rintro ⟨k, hk⟩; exact absurd ⟨r, k, hk⟩ h
/-- the machine without a count of steps -/
noncomputable def pm_X (T : Nat → Nat → pm_S) (env : pm_E) : pm_G := fun y d pc lo sk I => pm_lim (fun n => pm_run T env n y d pc lo sk I)
theorem pm_X_iff {T : Nat → Nat → pm_S} (hT : ∀ y pc, pm_Ct (T y pc)) (env : pm_E) (y d pc : Nat) (lo : pm_L) (sk : List pm_V) (I : pm_I) (r : Int × pm_I) : pm_X T env y d pc lo sk I = some r ↔ ∃ n, pm_run T env n y d pc lo sk I = some r :=
  pm_lim_iff (fun i j r h q => pm_mono hT env i j h _ _ _ _ _ _ _ q) r
/-- one step of it -/
theorem pm_X_step {T : Nat → Nat → pm_S} (hT : ∀ y pc, pm_Ct (T y pc)) (env : pm_E) (y d pc : Nat) (lo : pm_L) (sk : List pm_V) (I : pm_I) : pm_X T env y d pc lo sk I = T y pc env (pm_X T env) y d lo sk I := by
  apply Option.ext
  intro r
  rw [hT y pc env (pm_run T env) (pm_X T env) (pm_mono hT env) (fun y d pc lo sk I r => pm_X_iff hT env y d pc lo sk I r), pm_X_iff hT]
  constructor
  · rintro ⟨n, h⟩
    cases n with
    | zero => cases h
    | succ n => exact ⟨n, h⟩
  · rintro ⟨n, h⟩
    exact ⟨n + 1, h⟩
/-- a stretch of a method y0, up to the places cs -/
noncomputable def pm_U (T : Nat → Nat → pm_S) (env : pm_E) (y0 : Nat) (cs : List Nat) : Nat → pm_G
  | 0 => pm_X T env
  | n + 1 => fun y d pc lo sk I => bif Nat.beq y y0 && !(cs.any (fun c => Nat.beq c pc)) then T y pc env (pm_U T env y0 cs n) y d lo sk I else pm_X T env y d pc lo sk I
theorem pm_U_eq {T : Nat → Nat → pm_S} (hT : ∀ y pc, pm_Ct (T y pc)) (env : pm_E) (y0 : Nat) (cs : List Nat) : ∀ n, pm_U T env y0 cs n = pm_X T env
  | 0 => rfl
  | n + 1 => by
    funext y d pc lo sk I
    unfold pm_U
    rw [pm_U_eq hT env y0 cs n]
    cases (Nat.beq y y0 && !(cs.any (fun c => Nat.beq c pc))) with
    | true => exact (pm_X_step hT env y d pc lo sk I).symm
    | false => rfl
theorem pm_seg {T : Nat → Nat → pm_S} (hT : ∀ y pc, pm_Ct (T y pc)) (env : pm_E) (cs : List Nat) (n : Nat) (y d pc : Nat) (lo : pm_L) (sk : List pm_V) (I : pm_I) : pm_X T env y d pc lo sk I = T y pc env (pm_U T env y cs n) y d lo sk I := by
  rw [pm_U_eq hT]
  exact pm_X_step hT env y d pc lo sk I
end PMLIM
end
section
/-- the locals that are not live at a place fall away on the way there -/
def pm_msk : List Bool → pm_L → pm_L
  | b :: bs, a :: t => (bif b then a else none) :: pm_msk bs t
  | _, t => t
def s_K (h : Nat) (ks : List Bool) (s : pm_S) : pm_S := fun env G y d lo sk I => s env (fun y' d' pc' lo' sk' I' => bif Nat.beq pc' h then G y' d' pc' (pm_msk ks lo') sk' I' else G y' d' pc' lo' sk' I') y d lo sk I
theorem ct_K {h : Nat} {ks : List Bool} {s : pm_S} (hs : pm_Ct s) : pm_Ct (s_K h ks s) := by
  intro env F G hF hG y d lo sk I r
  refine hs env (fun n y' d' pc' lo' sk' I' => bif Nat.beq pc' h then F n y' d' pc' (pm_msk ks lo') sk' I' else F n y' d' pc' lo' sk' I') _ ?_ ?_ y d lo sk I r
  · intro i j hij y' d' pc' lo' sk' I' r'
    dsimp only
    cases Nat.beq pc' h with
    | true => exact hF i j hij _ _ _ _ _ _ _
    | false => exact hF i j hij _ _ _ _ _ _ _
  · intro y' d' pc' lo' sk' I' r'
    cases Nat.beq pc' h with
    | true => exact hG _ _ _ _ _ _ _
    | false => exact hG _ _ _ _ _ _ _
/-! the cells, once all is made -/
def pm_kd : Nat → Nat := fun r => bif Nat.ble 100 r then 99 else (bif Nat.ble 37 r then (bif Nat.ble 59 r then (bif Nat.ble 74 r then (bif Nat.ble 86 r then (bif Nat.ble 97 r then (bif Nat.ble 99 r then 8 else 9) else (bif Nat.ble 88 r then 8 else 9)) else (bif Nat.ble 77 r then (bif Nat.ble 78 r then 8 else 7) else (bif Nat.ble 76 r then 8 else 9))) else (bif Nat.ble 62 r then (bif Nat.ble 64 r then (bif Nat.ble 65 r then 8 else 12) else (bif Nat.ble 63 r then 9 else 4)) else (bif Nat.ble 60 r then (bif Nat.ble 61 r then 8 else 3) else 8))) else (bif Nat.ble 44 r then (bif Nat.ble 55 r then (bif Nat.ble 57 r then (bif Nat.ble 58 r then 3 else 8) else (bif Nat.ble 56 r then 3 else 8)) else (bif Nat.ble 53 r then (bif Nat.ble 54 r then 3 else 10) else (bif Nat.ble 45 r then 8 else 12))) else (bif Nat.ble 40 r then (bif Nat.ble 42 r then (bif Nat.ble 43 r then 0 else 9) else (bif Nat.ble 41 r then 8 else 5)) else (bif Nat.ble 38 r then (bif Nat.ble 39 r then 9 else 8) else 5)))) else (bif Nat.ble 22 r then (bif Nat.ble 29 r then (bif Nat.ble 33 r then (bif Nat.ble 35 r then (bif Nat.ble 36 r then 9 else 8) else (bif Nat.ble 34 r then 5 else 9)) else (bif Nat.ble 31 r then (bif Nat.ble 32 r then 8 else 5) else (bif Nat.ble 30 r then 9 else 8))) else (bif Nat.ble 25 r then (bif Nat.ble 27 r then (bif Nat.ble 28 r then 5 else 9) else (bif Nat.ble 26 r then 8 else 5)) else (bif Nat.ble 23 r then (bif Nat.ble 24 r then 9 else 8) else 5))) else (bif Nat.ble 14 r then (bif Nat.ble 18 r then (bif Nat.ble 20 r then (bif Nat.ble 21 r then 9 else 8) else (bif Nat.ble 19 r then 5 else 11)) else (bif Nat.ble 15 r then (bif Nat.ble 17 r then 9 else 8) else 9)) else (bif Nat.ble 4 r then (bif Nat.ble 10 r then (bif Nat.ble 11 r then 8 else 1) else (bif Nat.ble 5 r then 8 else 2)) else (bif Nat.ble 1 r then (bif Nat.ble 3 r then 6 else 50) else 99)))))
def pm_ln (XL : Int) : Nat → Int := fun r => bif Nat.ble 100 r then 0 else (bif Nat.ble 53 r then (bif Nat.ble 79 r then (bif Nat.ble 91 r then (bif Nat.ble 95 r then (bif Nat.ble 98 r then (bif Nat.ble 99 r then 8 else 6) else (bif Nat.ble 97 r then 10 else 6)) else (bif Nat.ble 93 r then (bif Nat.ble 94 r then 8 else 10) else (bif Nat.ble 92 r then 64 else 256))) else (bif Nat.ble 85 r then (bif Nat.ble 88 r then (bif Nat.ble 89 r then 4 else 80) else (bif Nat.ble 87 r then 8 else 48)) else (bif Nat.ble 80 r then (bif Nat.ble 83 r then 8 else 10) else 8))) else (bif Nat.ble 60 r then (bif Nat.ble 63 r then (bif Nat.ble 77 r then (bif Nat.ble 78 r then 64 else 0) else (bif Nat.ble 74 r then 10 else 8)) else (bif Nat.ble 61 r then (bif Nat.ble 62 r then 0 else 64) else 0)) else (bif Nat.ble 56 r then (bif Nat.ble 58 r then (bif Nat.ble 59 r then 64 else 0) else (bif Nat.ble 57 r then 64 else 0)) else (bif Nat.ble 54 r then (bif Nat.ble 55 r then 64 else 0) else 4)))) else (bif Nat.ble 25 r then (bif Nat.ble 35 r then (bif Nat.ble 41 r then (bif Nat.ble 44 r then (bif Nat.ble 45 r then 10 else 8) else (bif Nat.ble 43 r then 0 else 6)) else (bif Nat.ble 38 r then (bif Nat.ble 40 r then 0 else 6) else (bif Nat.ble 37 r then 0 else 6))) else (bif Nat.ble 29 r then (bif Nat.ble 32 r then (bif Nat.ble 34 r then 0 else 6) else (bif Nat.ble 31 r then 0 else 6)) else (bif Nat.ble 26 r then (bif Nat.ble 28 r then 0 else 6) else 0))) else (bif Nat.ble 11 r then (bif Nat.ble 19 r then (bif Nat.ble 22 r then (bif Nat.ble 23 r then 6 else 0) else (bif Nat.ble 20 r then 6 else 0)) else (bif Nat.ble 15 r then (bif Nat.ble 18 r then 8 else 6) else 10)) else (bif Nat.ble 3 r then (bif Nat.ble 7 r then (bif Nat.ble 10 r then 0 else 8) else (bif Nat.ble 5 r then 64 else 0)) else (bif Nat.ble 1 r then (bif Nat.ble 2 r then XL else 16) else 0)))))
def pm_R : Nat → Nat → Nat := fun r k => bif Nat.ble 100 r then 0 else (bif Nat.ble 38 r then (bif Nat.ble 57 r then (bif Nat.ble 62 r then (bif Nat.ble 65 r then (bif Nat.ble 77 r then (bif Nat.ble 78 r then 0 else (bif Nat.ble 27 k then 0 else (bif Nat.ble 13 k then (bif Nat.ble 20 k then (bif Nat.ble 23 k then (bif Nat.ble 25 k then (bif Nat.ble 26 k then 99 else 98) else (bif Nat.ble 24 k then 97 else 96)) else (bif Nat.ble 21 k then (bif Nat.ble 22 k then 95 else 94) else 93)) else (bif Nat.ble 16 k then (bif Nat.ble 18 k then (bif Nat.ble 19 k then 92 else 91) else (bif Nat.ble 17 k then 90 else 89)) else (bif Nat.ble 14 k then (bif Nat.ble 15 k then 88 else 0) else 87))) else (bif Nat.ble 6 k then (bif Nat.ble 9 k then (bif Nat.ble 11 k then (bif Nat.ble 12 k then 86 else 85) else (bif Nat.ble 10 k then 84 else 83)) else (bif Nat.ble 7 k then (bif Nat.ble 8 k then 0 else 82) else 81)) else (bif Nat.ble 3 k then (bif Nat.ble 4 k then (bif Nat.ble 5 k then 80 else 0) else 0) else (bif Nat.ble 1 k then (bif Nat.ble 2 k then 79 else 78) else 0)))))) else 0) else (bif Nat.ble 63 r then (bif Nat.ble 64 r then (bif Nat.ble 8 k then 0 else 65 + k) else 0) else (bif Nat.ble 6 k then 0 else (bif Nat.ble 3 k then (bif Nat.ble 4 k then (bif Nat.ble 5 k then 76 else 75) else 74) else (bif Nat.ble 1 k then (bif Nat.ble 2 k then 73 else 64) else 63))))) else (bif Nat.ble 59 r then (bif Nat.ble 60 r then (bif Nat.ble 61 r then 0 else (bif Nat.ble 4 k then 0 else (bif Nat.ble 2 k then (bif Nat.ble 3 k then 61 else 0) else (bif Nat.ble 1 k then 0 else 0)))) else 0) else (bif Nat.ble 58 r then (bif Nat.ble 4 k then 0 else (bif Nat.ble 2 k then (bif Nat.ble 3 k then 59 else 0) else (bif Nat.ble 1 k then 0 else 0))) else 0))) else (bif Nat.ble 45 r then (bif Nat.ble 54 r then (bif Nat.ble 55 r then (bif Nat.ble 56 r then (bif Nat.ble 4 k then 0 else (bif Nat.ble 2 k then (bif Nat.ble 3 k then 57 else 0) else (bif Nat.ble 1 k then 0 else 0))) else 0) else (bif Nat.ble 4 k then 0 else (bif Nat.ble 2 k then (bif Nat.ble 3 k then 55 else 0) else (bif Nat.ble 1 k then 0 else 0)))) else (bif Nat.ble 53 r then (bif Nat.ble 4 k then 0 else 54 + 2 * k) else 0)) else (bif Nat.ble 41 r then (bif Nat.ble 43 r then (bif Nat.ble 44 r then (bif Nat.ble 8 k then 0 else 45 + k) else (bif Nat.ble 3 k then 0 else (bif Nat.ble 1 k then (bif Nat.ble 2 k then 44 else 0) else 0))) else 0) else (bif Nat.ble 40 r then (bif Nat.ble 6 k then 0 else (bif Nat.ble 3 k then (bif Nat.ble 4 k then (bif Nat.ble 5 k then 42 else 41) else 0) else (bif Nat.ble 1 k then (bif Nat.ble 2 k then 0 else 0) else 0))) else 0)))) else (bif Nat.ble 23 r then (bif Nat.ble 31 r then (bif Nat.ble 34 r then (bif Nat.ble 35 r then (bif Nat.ble 37 r then (bif Nat.ble 6 k then 0 else (bif Nat.ble 3 k then (bif Nat.ble 4 k then (bif Nat.ble 5 k then 39 else 38) else 0) else (bif Nat.ble 1 k then (bif Nat.ble 2 k then 0 else 0) else 0))) else 0) else (bif Nat.ble 6 k then 0 else (bif Nat.ble 3 k then (bif Nat.ble 4 k then (bif Nat.ble 5 k then 36 else 35) else 0) else (bif Nat.ble 1 k then (bif Nat.ble 2 k then 0 else 0) else 0)))) else (bif Nat.ble 32 r then 0 else (bif Nat.ble 6 k then 0 else (bif Nat.ble 3 k then (bif Nat.ble 4 k then (bif Nat.ble 5 k then 33 else 32) else 0) else (bif Nat.ble 1 k then (bif Nat.ble 2 k then 0 else 0) else 0))))) else (bif Nat.ble 26 r then (bif Nat.ble 28 r then (bif Nat.ble 29 r then 0 else (bif Nat.ble 6 k then 0 else (bif Nat.ble 3 k then (bif Nat.ble 4 k then (bif Nat.ble 5 k then 30 else 29) else 0) else (bif Nat.ble 1 k then (bif Nat.ble 2 k then 0 else 0) else 0)))) else 0) else (bif Nat.ble 25 r then (bif Nat.ble 6 k then 0 else (bif Nat.ble 3 k then (bif Nat.ble 4 k then (bif Nat.ble 5 k then 27 else 26) else 0) else (bif Nat.ble 1 k then (bif Nat.ble 2 k then 0 else 0) else 0))) else 0))) else (bif Nat.ble 11 r then (bif Nat.ble 19 r then (bif Nat.ble 20 r then (bif Nat.ble 22 r then (bif Nat.ble 6 k then 0 else (bif Nat.ble 3 k then (bif Nat.ble 4 k then (bif Nat.ble 5 k then 24 else 23) else 0) else (bif Nat.ble 1 k then (bif Nat.ble 2 k then 0 else 0) else 0))) else 0) else (bif Nat.ble 6 k then 0 else (bif Nat.ble 3 k then (bif Nat.ble 4 k then (bif Nat.ble 5 k then 21 else 20) else 0) else (bif Nat.ble 1 k then (bif Nat.ble 2 k then 0 else 0) else 0)))) else (bif Nat.ble 18 r then (bif Nat.ble 8 k then 0 else 19 + 3 * k) else 0)) else (bif Nat.ble 4 r then (bif Nat.ble 5 r then (bif Nat.ble 10 r then (bif Nat.ble 10 k then 0 else (bif Nat.ble 5 k then (bif Nat.ble 7 k then (bif Nat.ble 8 k then (bif Nat.ble 9 k then 17 else 16) else 15) else (bif Nat.ble 6 k then 14 else 13)) else (bif Nat.ble 2 k then (bif Nat.ble 3 k then (bif Nat.ble 4 k then 12 else 11) else 0) else (bif Nat.ble 1 k then 0 else 0)))) else 0) else (bif Nat.ble 6 k then 0 else (bif Nat.ble 3 k then (bif Nat.ble 4 k then (bif Nat.ble 5 k then 9 else 8) else 7) else (bif Nat.ble 1 k then (bif Nat.ble 2 k then 6 else 5) else 0)))) else (bif Nat.ble 3 r then (bif Nat.ble 7 k then 0 else (bif Nat.ble 3 k then (bif Nat.ble 5 k then (bif Nat.ble 6 k then 62 else 53) else (bif Nat.ble 4 k then 43 else 0)) else (bif Nat.ble 1 k then (bif Nat.ble 2 k then 18 else 10) else 4))) else 0)))))
def pm_units (i : Int) : Int := [0, 1, 2, 3, 1, 4, 3, 6, 2, 7, 4, 1, 3, 2, 5, 4].getD i.toNat 0
def pm_xv (X : Int → Int) : Nat → Int → Int := fun r i => bif Nat.beq r 1 then pm_units i else X i
/-- the script: what it holds, how long it is -/
abbrev pm_XT : Type := (Int → Int) × Int
def pm_env (X : pm_XT) : pm_E := (pm_kd, pm_ln X.2, pm_R, pm_xv X.1)
def pm_rkS (av : List pm_V) : Nat := match av with
  | .inl a :: _ => 3 + (10 - a).toNat
  | _ => 13
end
section
def t_A_keep : Nat → pm_S := (pm_tn 26 (pm_tn 12 (pm_tn 6 (pm_tn 2 (pm_tn 1 (pm_tl 0 (s_aload 1 1)) (pm_tl 1 (s_push 0 2))) (pm_tn 3 (pm_tl 2 (s_aload 0 3)) (pm_tl 3 (s_getR 0 2 6)))) (pm_tn 10 (pm_tn 7 (pm_tl 6 (s_aload 0 7)) (pm_tl 7 (s_getI 0 1 10))) (pm_tn 11 (pm_tl 10 (s_aald 11)) (pm_tl 11 (s_push 0 12))))) (pm_tn 19 (pm_tn 17 (pm_tn 14 (pm_tl 12 (s_push 10 14)) (pm_tl 14 (s_copy 17))) (pm_tn 18 (pm_tl 17 (s_aload 0 18)) (pm_tl 18 (s_aload 0 19)))) (pm_tn 23 (pm_tn 22 (pm_tl 19 (s_getI 0 1 22)) (pm_tl 22 (s_push 1 23))) (pm_tn 24 (pm_tl 23 (s_iadd 24)) (pm_tl 24 (s_push 8 26)))))) (pm_tn 42 (pm_tn 34 (pm_tn 30 (pm_tn 29 (pm_tl 26 (s_cge 38 29)) (pm_tl 29 (s_aload 0 30))) (pm_tn 33 (pm_tl 30 (s_getI 0 1 33)) (pm_tl 33 (s_push 1 34)))) (pm_tn 38 (pm_tn 35 (pm_tl 34 (s_iadd 35)) (pm_tl 35 (s_goto 39))) (pm_tn 39 (pm_tl 38 (s_push 0 39)) (pm_tl 39 (s_putI 0 1 42))))) (pm_tn 48 (pm_tn 44 (pm_tn 43 (pm_tl 42 (s_aload 0 43)) (pm_tl 43 (s_aload 0 44))) (pm_tn 47 (pm_tl 44 (s_getI 0 0 47)) (pm_tl 47 (s_push 1 48)))) (pm_tn 51 (pm_tn 49 (pm_tl 48 (s_iadd 49)) (pm_tl 49 (s_push 8 51))) (pm_tn 54 (pm_tl 51 (s_min 54)) (pm_tn 57 (pm_tl 54 (s_putI 0 0 57)) (pm_tl 57 (s_vret))))))))
theorem tc_A_keep : ∀ pc, pm_Ct (t_A_keep pc) := (ct_tn (ct_tn (ct_tn (ct_tn (ct_tn (ct_tl (ct_aload _ _)) (ct_tl (ct_push _ _))) (ct_tn (ct_tl (ct_aload _ _)) (ct_tl (ct_getR _ _ _)))) (ct_tn (ct_tn (ct_tl (ct_aload _ _)) (ct_tl (ct_getI _ _ _))) (ct_tn (ct_tl (ct_aald _)) (ct_tl (ct_push _ _))))) (ct_tn (ct_tn (ct_tn (ct_tl (ct_push _ _)) (ct_tl (ct_copy _))) (ct_tn (ct_tl (ct_aload _ _)) (ct_tl (ct_aload _ _)))) (ct_tn (ct_tn (ct_tl (ct_getI _ _ _)) (ct_tl (ct_push _ _))) (ct_tn (ct_tl (ct_iadd _)) (ct_tl (ct_push _ _)))))) (ct_tn (ct_tn (ct_tn (ct_tn (ct_tl (ct_cge _ _)) (ct_tl (ct_aload _ _))) (ct_tn (ct_tl (ct_getI _ _ _)) (ct_tl (ct_push _ _)))) (ct_tn (ct_tn (ct_tl (ct_iadd _)) (ct_tl (ct_goto _))) (ct_tn (ct_tl (ct_push _ _)) (ct_tl (ct_putI _ _ _))))) (ct_tn (ct_tn (ct_tn (ct_tl (ct_aload _ _)) (ct_tl (ct_aload _ _))) (ct_tn (ct_tl (ct_getI _ _ _)) (ct_tl (ct_push _ _)))) (ct_tn (ct_tn (ct_tl (ct_iadd _)) (ct_tl (ct_push _ _))) (ct_tn (ct_tl (ct_min _)) (ct_tn (ct_tl (ct_putI _ _ _)) (ct_tl (ct_vret))))))))
def t_A_giveBack : Nat → pm_S := (pm_tn 32 (pm_tn 14 (pm_tn 8 (pm_tn 4 (pm_tn 1 (pm_tl 0 (s_aload 0 1)) (pm_tl 1 (s_getI 0 0 4))) (pm_tn 7 (pm_tl 4 (s_ifgt 9 7)) (pm_tl 7 (s_push 0 8)))) (pm_tn 10 (pm_tn 9 (pm_tl 8 (s_zret)) (pm_tl 9 (s_aload 0 10))) (pm_tn 11 (pm_tl 10 (s_aload 0 11)) (pm_tl 11 (s_getI 0 1 14))))) (pm_tn 22 (pm_tn 18 (pm_tn 17 (pm_tl 14 (s_ifle 26 17)) (pm_tl 17 (s_aload 0 18))) (pm_tn 21 (pm_tl 18 (s_getI 0 1 21)) (pm_tl 21 (s_push 1 22)))) (pm_tn 26 (pm_tn 23 (pm_tl 22 (s_isub 23)) (pm_tl 23 (s_goto 28))) (pm_tn 28 (pm_tl 26 (s_push 7 28)) (pm_tn 31 (pm_tl 28 (s_putI 0 1 31)) (pm_tl 31 (s_aload 0 32))))))) (pm_tn 45 (pm_tn 40 (pm_tn 36 (pm_tn 35 (pm_tl 32 (s_getR 0 2 35)) (pm_tl 35 (s_aload 0 36))) (pm_tn 39 (pm_tl 36 (s_getI 0 1 39)) (pm_tl 39 (s_aald 40)))) (pm_tn 42 (pm_tn 41 (pm_tl 40 (s_push 0 41)) (pm_tl 41 (s_aload 1 42))) (pm_tn 43 (pm_tl 42 (s_push 0 43)) (pm_tl 43 (s_push 10 45))))) (pm_tn 53 (pm_tn 49 (pm_tn 48 (pm_tl 45 (s_copy 48)) (pm_tl 48 (s_aload 0 49))) (pm_tn 50 (pm_tl 49 (s_dup 50)) (pm_tl 50 (s_getI 0 0 53)))) (pm_tn 55 (pm_tn 54 (pm_tl 53 (s_push 1 54)) (pm_tl 54 (s_isub 55))) (pm_tn 58 (pm_tl 55 (s_putI 0 0 58)) (pm_tn 59 (pm_tl 58 (s_push 1 59)) (pm_tl 59 (s_zret))))))))
theorem tc_A_giveBack : ∀ pc, pm_Ct (t_A_giveBack pc) := (ct_tn (ct_tn (ct_tn (ct_tn (ct_tn (ct_tl (ct_aload _ _)) (ct_tl (ct_getI _ _ _))) (ct_tn (ct_tl (ct_ifgt _ _)) (ct_tl (ct_push _ _)))) (ct_tn (ct_tn (ct_tl (ct_zret)) (ct_tl (ct_aload _ _))) (ct_tn (ct_tl (ct_aload _ _)) (ct_tl (ct_getI _ _ _))))) (ct_tn (ct_tn (ct_tn (ct_tl (ct_ifle _ _)) (ct_tl (ct_aload _ _))) (ct_tn (ct_tl (ct_getI _ _ _)) (ct_tl (ct_push _ _)))) (ct_tn (ct_tn (ct_tl (ct_isub _)) (ct_tl (ct_goto _))) (ct_tn (ct_tl (ct_push _ _)) (ct_tn (ct_tl (ct_putI _ _ _)) (ct_tl (ct_aload _ _))))))) (ct_tn (ct_tn (ct_tn (ct_tn (ct_tl (ct_getR _ _ _)) (ct_tl (ct_aload _ _))) (ct_tn (ct_tl (ct_getI _ _ _)) (ct_tl (ct_aald _)))) (ct_tn (ct_tn (ct_tl (ct_push _ _)) (ct_tl (ct_aload _ _))) (ct_tn (ct_tl (ct_push _ _)) (ct_tl (ct_push _ _))))) (ct_tn (ct_tn (ct_tn (ct_tl (ct_copy _)) (ct_tl (ct_aload _ _))) (ct_tn (ct_tl (ct_dup _)) (ct_tl (ct_getI _ _ _)))) (ct_tn (ct_tn (ct_tl (ct_push _ _)) (ct_tl (ct_isub _))) (ct_tn (ct_tl (ct_putI _ _ _)) (ct_tn (ct_tl (ct_push _ _)) (ct_tl (ct_zret))))))))
def t_A_forget : Nat → pm_S := (pm_tn 2 (pm_tn 1 (pm_tl 0 (s_aload 0 1)) (pm_tl 1 (s_push 0 2))) (pm_tn 5 (pm_tl 2 (s_putI 0 0 5)) (pm_tl 5 (s_vret))))
theorem tc_A_forget : ∀ pc, pm_Ct (t_A_forget pc) := (ct_tn (ct_tn (ct_tl (ct_aload _ _)) (ct_tl (ct_push _ _))) (ct_tn (ct_tl (ct_putI _ _ _)) (ct_tl (ct_vret))))
def t_B_addPoint : Nat → pm_S := (pm_tn 15 (pm_tn 8 (pm_tn 4 (pm_tn 1 (pm_tl 0 (s_aload 0 1)) (pm_tl 1 (s_getR 1 7 4))) (pm_tn 5 (pm_tl 4 (s_aload 0 5)) (pm_tl 5 (s_getI 1 0 8)))) (pm_tn 12 (pm_tn 9 (pm_tl 8 (s_aload 0 9)) (pm_tl 9 (s_getI 1 0 12))) (pm_tn 13 (pm_tl 12 (s_iast 13)) (pm_tn 14 (pm_tl 13 (s_aload 0 14)) (pm_tl 14 (s_dup 15)))))) (pm_tn 23 (pm_tn 19 (pm_tn 18 (pm_tl 15 (s_getI 1 0 18)) (pm_tl 18 (s_push 1 19))) (pm_tn 20 (pm_tl 19 (s_iadd 20)) (pm_tl 20 (s_putI 1 0 23)))) (pm_tn 27 (pm_tn 24 (pm_tl 23 (s_aload 0 24)) (pm_tl 24 (s_getI 1 0 27))) (pm_tn 28 (pm_tl 27 (s_push 1 28)) (pm_tn 29 (pm_tl 28 (s_isub 29)) (pm_tl 29 (s_iret)))))))
theorem tc_B_addPoint : ∀ pc, pm_Ct (t_B_addPoint pc) := (ct_tn (ct_tn (ct_tn (ct_tn (ct_tl (ct_aload _ _)) (ct_tl (ct_getR _ _ _))) (ct_tn (ct_tl (ct_aload _ _)) (ct_tl (ct_getI _ _ _)))) (ct_tn (ct_tn (ct_tl (ct_aload _ _)) (ct_tl (ct_getI _ _ _))) (ct_tn (ct_tl (ct_iast _)) (ct_tn (ct_tl (ct_aload _ _)) (ct_tl (ct_dup _)))))) (ct_tn (ct_tn (ct_tn (ct_tl (ct_getI _ _ _)) (ct_tl (ct_push _ _))) (ct_tn (ct_tl (ct_iadd _)) (ct_tl (ct_putI _ _ _)))) (ct_tn (ct_tn (ct_tl (ct_aload _ _)) (ct_tl (ct_getI _ _ _))) (ct_tn (ct_tl (ct_push _ _)) (ct_tn (ct_tl (ct_isub _)) (ct_tl (ct_iret)))))))
def t_B_addLine : Nat → pm_S := (pm_tn 58 (pm_tn 29 (pm_tn 14 (pm_tn 8 (pm_tn 4 (pm_tn 1 (pm_tl 0 (s_aload 0 1)) (pm_tl 1 (s_getR 1 3 4))) (pm_tn 5 (pm_tl 4 (s_aload 0 5)) (pm_tl 5 (s_getI 1 1 8)))) (pm_tn 10 (pm_tn 9 (pm_tl 8 (s_iload 1 9)) (pm_tl 9 (s_iast 10))) (pm_tn 11 (pm_tl 10 (s_aload 0 11)) (pm_tl 11 (s_getR 1 4 14))))) (pm_tn 20 (pm_tn 18 (pm_tn 15 (pm_tl 14 (s_aload 0 15)) (pm_tl 15 (s_getI 1 1 18))) (pm_tn 19 (pm_tl 18 (s_iload 2 19)) (pm_tl 19 (s_iast 20)))) (pm_tn 24 (pm_tn 21 (pm_tl 20 (s_aload 0 21)) (pm_tl 21 (s_getR 1 5 24))) (pm_tn 25 (pm_tl 24 (s_aload 0 25)) (pm_tn 28 (pm_tl 25 (s_getI 1 1 28)) (pm_tl 28 (s_push 0 29))))))) (pm_tn 43 (pm_tn 35 (pm_tn 31 (pm_tn 30 (pm_tl 29 (s_iast 30)) (pm_tl 30 (s_aload 0 31))) (pm_tn 34 (pm_tl 31 (s_getR 1 6 34)) (pm_tl 34 (s_aload 0 35)))) (pm_tn 39 (pm_tn 38 (pm_tl 35 (s_getI 1 1 38)) (pm_tl 38 (s_aload 0 39))) (pm_tn 42 (pm_tl 39 (s_getR 1 7 42)) (pm_tl 42 (s_iload 1 43))))) (pm_tn 49 (pm_tn 45 (pm_tn 44 (pm_tl 43 (s_iald 44)) (pm_tl 44 (s_aload 0 45))) (pm_tn 48 (pm_tl 45 (s_getR 1 7 48)) (pm_tl 48 (s_iload 2 49)))) (pm_tn 53 (pm_tn 50 (pm_tl 49 (s_iald 50)) (pm_tl 50 (s_ceq 57 53))) (pm_tn 54 (pm_tl 53 (s_push 1 54)) (pm_tn 57 (pm_tl 54 (s_goto 58)) (pm_tl 57 (s_push 0 58)))))))) (pm_tn 87 (pm_tn 72 (pm_tn 64 (pm_tn 60 (pm_tn 59 (pm_tl 58 (s_zast 59)) (pm_tl 59 (s_aload 0 60))) (pm_tn 63 (pm_tl 60 (s_getR 1 6 63)) (pm_tl 63 (s_aload 0 64)))) (pm_tn 68 (pm_tn 67 (pm_tl 64 (s_getI 1 1 67)) (pm_tl 67 (s_zald 68))) (pm_tn 71 (pm_tl 68 (s_ifeq 97 71)) (pm_tl 71 (s_aload 0 72))))) (pm_tn 78 (pm_tn 76 (pm_tn 73 (pm_tl 72 (s_dup 73)) (pm_tl 73 (s_getI 1 2 76))) (pm_tn 77 (pm_tl 76 (s_push 1 77)) (pm_tl 77 (s_iadd 78)))) (pm_tn 82 (pm_tn 81 (pm_tl 78 (s_putI 1 2 81)) (pm_tl 81 (s_aload 0 82))) (pm_tn 83 (pm_tl 82 (s_aload 0 83)) (pm_tn 86 (pm_tl 83 (s_getR 1 7 86)) (pm_tl 86 (s_iload 1 87))))))) (pm_tn 99 (pm_tn 93 (pm_tn 89 (pm_tn 88 (pm_tl 87 (s_iald 88)) (pm_tl 88 (s_aload 0 89))) (pm_tn 92 (pm_tl 89 (s_getR 1 7 92)) (pm_tl 92 (s_iload 2 93)))) (pm_tn 97 (pm_tn 94 (pm_tl 93 (s_iald 94)) (pm_tl 94 (s_call 5 3 2 1 0 (fun _ => 1) 97))) (pm_tn 98 (pm_tl 97 (s_aload 0 98)) (pm_tl 98 (s_dup 99))))) (pm_tn 107 (pm_tn 103 (pm_tn 102 (pm_tl 99 (s_getI 1 1 102)) (pm_tl 102 (s_push 1 103))) (pm_tn 104 (pm_tl 103 (s_iadd 104)) (pm_tl 104 (s_putI 1 1 107)))) (pm_tn 111 (pm_tn 108 (pm_tl 107 (s_aload 0 108)) (pm_tl 108 (s_getI 1 1 111))) (pm_tn 112 (pm_tl 111 (s_push 1 112)) (pm_tn 113 (pm_tl 112 (s_isub 113)) (pm_tl 113 (s_iret)))))))))
theorem tc_B_addLine : ∀ pc, pm_Ct (t_B_addLine pc) := (ct_tn (ct_tn (ct_tn (ct_tn (ct_tn (ct_tn (ct_tl (ct_aload _ _)) (ct_tl (ct_getR _ _ _))) (ct_tn (ct_tl (ct_aload _ _)) (ct_tl (ct_getI _ _ _)))) (ct_tn (ct_tn (ct_tl (ct_iload _ _)) (ct_tl (ct_iast _))) (ct_tn (ct_tl (ct_aload _ _)) (ct_tl (ct_getR _ _ _))))) (ct_tn (ct_tn (ct_tn (ct_tl (ct_aload _ _)) (ct_tl (ct_getI _ _ _))) (ct_tn (ct_tl (ct_iload _ _)) (ct_tl (ct_iast _)))) (ct_tn (ct_tn (ct_tl (ct_aload _ _)) (ct_tl (ct_getR _ _ _))) (ct_tn (ct_tl (ct_aload _ _)) (ct_tn (ct_tl (ct_getI _ _ _)) (ct_tl (ct_push _ _))))))) (ct_tn (ct_tn (ct_tn (ct_tn (ct_tl (ct_iast _)) (ct_tl (ct_aload _ _))) (ct_tn (ct_tl (ct_getR _ _ _)) (ct_tl (ct_aload _ _)))) (ct_tn (ct_tn (ct_tl (ct_getI _ _ _)) (ct_tl (ct_aload _ _))) (ct_tn (ct_tl (ct_getR _ _ _)) (ct_tl (ct_iload _ _))))) (ct_tn (ct_tn (ct_tn (ct_tl (ct_iald _)) (ct_tl (ct_aload _ _))) (ct_tn (ct_tl (ct_getR _ _ _)) (ct_tl (ct_iload _ _)))) (ct_tn (ct_tn (ct_tl (ct_iald _)) (ct_tl (ct_ceq _ _))) (ct_tn (ct_tl (ct_push _ _)) (ct_tn (ct_tl (ct_goto _)) (ct_tl (ct_push _ _)))))))) (ct_tn (ct_tn (ct_tn (ct_tn (ct_tn (ct_tl (ct_zast _)) (ct_tl (ct_aload _ _))) (ct_tn (ct_tl (ct_getR _ _ _)) (ct_tl (ct_aload _ _)))) (ct_tn (ct_tn (ct_tl (ct_getI _ _ _)) (ct_tl (ct_zald _))) (ct_tn (ct_tl (ct_ifeq _ _)) (ct_tl (ct_aload _ _))))) (ct_tn (ct_tn (ct_tn (ct_tl (ct_dup _)) (ct_tl (ct_getI _ _ _))) (ct_tn (ct_tl (ct_push _ _)) (ct_tl (ct_iadd _)))) (ct_tn (ct_tn (ct_tl (ct_putI _ _ _)) (ct_tl (ct_aload _ _))) (ct_tn (ct_tl (ct_aload _ _)) (ct_tn (ct_tl (ct_getR _ _ _)) (ct_tl (ct_iload _ _))))))) (ct_tn (ct_tn (ct_tn (ct_tn (ct_tl (ct_iald _)) (ct_tl (ct_aload _ _))) (ct_tn (ct_tl (ct_getR _ _ _)) (ct_tl (ct_iload _ _)))) (ct_tn (ct_tn (ct_tl (ct_iald _)) (ct_tl (ct_call _ _ _ _ _ _ _))) (ct_tn (ct_tl (ct_aload _ _)) (ct_tl (ct_dup _))))) (ct_tn (ct_tn (ct_tn (ct_tl (ct_getI _ _ _)) (ct_tl (ct_push _ _))) (ct_tn (ct_tl (ct_iadd _)) (ct_tl (ct_putI _ _ _)))) (ct_tn (ct_tn (ct_tl (ct_aload _ _)) (ct_tl (ct_getI _ _ _))) (ct_tn (ct_tl (ct_push _ _)) (ct_tn (ct_tl (ct_isub _)) (ct_tl (ct_iret)))))))))
def t_B_joinParts : Nat → pm_S := (pm_tn 26 (pm_tn 11 (pm_tn 5 (pm_tn 1 (pm_tl 0 (s_iload 1 1)) (pm_tn 2 (pm_tl 1 (s_iload 2 2)) (pm_tl 2 (s_min 5)))) (pm_tn 7 (pm_tn 6 (pm_tl 5 (s_istore 3 6)) (pm_tl 6 (s_push 0 7))) (pm_tn 9 (pm_tl 7 (s_K 9 [true, true, true, true, true] (s_istore 4 9))) (pm_tl 9 (s_iload 4 11))))) (pm_tn 19 (pm_tn 15 (pm_tn 12 (pm_tl 11 (s_aload 0 12)) (pm_tl 12 (s_getI 1 0 15))) (pm_tn 18 (pm_tl 15 (s_cge 54 18)) (pm_tl 18 (s_aload 0 19)))) (pm_tn 24 (pm_tn 22 (pm_tl 19 (s_getR 1 7 22)) (pm_tl 22 (s_iload 4 24))) (pm_tn 25 (pm_tl 24 (s_iald 25)) (pm_tl 25 (s_iload 1 26)))))) (pm_tn 40 (pm_tn 33 (pm_tn 29 (pm_tl 26 (s_ceq 40 29)) (pm_tn 30 (pm_tl 29 (s_aload 0 30)) (pm_tl 30 (s_getR 1 7 33)))) (pm_tn 36 (pm_tn 35 (pm_tl 33 (s_iload 4 35)) (pm_tl 35 (s_iald 36))) (pm_tn 37 (pm_tl 36 (s_iload 2 37)) (pm_tl 37 (s_cne 48 40))))) (pm_tn 47 (pm_tn 44 (pm_tn 41 (pm_tl 40 (s_aload 0 41)) (pm_tl 41 (s_getR 1 7 44))) (pm_tn 46 (pm_tl 44 (s_iload 4 46)) (pm_tl 46 (s_iload 3 47)))) (pm_tn 51 (pm_tn 48 (pm_tl 47 (s_iast 48)) (pm_tl 48 (s_iinc 4 1 51))) (pm_tn 54 (pm_tl 51 (s_K 9 [true, true, true, true, true] (s_goto 9))) (pm_tl 54 (s_vret)))))))
theorem tc_B_joinParts : ∀ pc, pm_Ct (t_B_joinParts pc) := (ct_tn (ct_tn (ct_tn (ct_tn (ct_tl (ct_iload _ _)) (ct_tn (ct_tl (ct_iload _ _)) (ct_tl (ct_min _)))) (ct_tn (ct_tn (ct_tl (ct_istore _ _)) (ct_tl (ct_push _ _))) (ct_tn (ct_tl (ct_K (ct_istore _ _))) (ct_tl (ct_iload _ _))))) (ct_tn (ct_tn (ct_tn (ct_tl (ct_aload _ _)) (ct_tl (ct_getI _ _ _))) (ct_tn (ct_tl (ct_cge _ _)) (ct_tl (ct_aload _ _)))) (ct_tn (ct_tn (ct_tl (ct_getR _ _ _)) (ct_tl (ct_iload _ _))) (ct_tn (ct_tl (ct_iald _)) (ct_tl (ct_iload _ _)))))) (ct_tn (ct_tn (ct_tn (ct_tl (ct_ceq _ _)) (ct_tn (ct_tl (ct_aload _ _)) (ct_tl (ct_getR _ _ _)))) (ct_tn (ct_tn (ct_tl (ct_iload _ _)) (ct_tl (ct_iald _))) (ct_tn (ct_tl (ct_iload _ _)) (ct_tl (ct_cne _ _))))) (ct_tn (ct_tn (ct_tn (ct_tl (ct_aload _ _)) (ct_tl (ct_getR _ _ _))) (ct_tn (ct_tl (ct_iload _ _)) (ct_tl (ct_iload _ _)))) (ct_tn (ct_tn (ct_tl (ct_iast _)) (ct_tl (ct_iinc _ _ _))) (ct_tn (ct_tl (ct_K (ct_goto _))) (ct_tl (ct_vret)))))))
def t_B_clearTurns : Nat → pm_S := (pm_tn 11 (pm_tn 3 (pm_tn 1 (pm_tl 0 (s_push 0 1)) (pm_tn 2 (pm_tl 1 (s_K 2 [true, true] (s_istore 1 2))) (pm_tl 2 (s_iload 1 3)))) (pm_tn 7 (pm_tn 4 (pm_tl 3 (s_aload 0 4)) (pm_tl 4 (s_getI 1 1 7))) (pm_tn 10 (pm_tl 7 (s_cge 23 10)) (pm_tl 10 (s_aload 0 11))))) (pm_tn 16 (pm_tn 14 (pm_tl 11 (s_getR 1 5 14)) (pm_tn 15 (pm_tl 14 (s_iload 1 15)) (pm_tl 15 (s_push 0 16)))) (pm_tn 20 (pm_tn 17 (pm_tl 16 (s_iast 17)) (pm_tl 17 (s_iinc 1 1 20))) (pm_tn 23 (pm_tl 20 (s_K 2 [true, true] (s_goto 2))) (pm_tl 23 (s_vret))))))
theorem tc_B_clearTurns : ∀ pc, pm_Ct (t_B_clearTurns pc) := (ct_tn (ct_tn (ct_tn (ct_tl (ct_push _ _)) (ct_tn (ct_tl (ct_K (ct_istore _ _))) (ct_tl (ct_iload _ _)))) (ct_tn (ct_tn (ct_tl (ct_aload _ _)) (ct_tl (ct_getI _ _ _))) (ct_tn (ct_tl (ct_cge _ _)) (ct_tl (ct_aload _ _))))) (ct_tn (ct_tn (ct_tl (ct_getR _ _ _)) (ct_tn (ct_tl (ct_iload _ _)) (ct_tl (ct_push _ _)))) (ct_tn (ct_tn (ct_tl (ct_iast _)) (ct_tl (ct_iinc _ _ _))) (ct_tn (ct_tl (ct_K (ct_goto _))) (ct_tl (ct_vret))))))
def t_B_shiftOnly : Nat → pm_S := (pm_tn 15 (pm_tn 4 (pm_tn 2 (pm_tn 1 (pm_tl 0 (s_push 0 1)) (pm_tl 1 (s_K 2 [true, true, true, true] (s_istore 3 2)))) (pm_tn 3 (pm_tl 2 (s_iload 3 3)) (pm_tl 3 (s_aload 0 4)))) (pm_tn 10 (pm_tn 7 (pm_tl 4 (s_getI 1 0 7)) (pm_tl 7 (s_cge 32 10))) (pm_tn 11 (pm_tl 10 (s_aload 0 11)) (pm_tn 14 (pm_tl 11 (s_getR 1 8 14)) (pm_tl 14 (s_iload 3 15)))))) (pm_tn 24 (pm_tn 17 (pm_tn 16 (pm_tl 15 (s_iload 3 16)) (pm_tl 16 (s_iload 1 17))) (pm_tn 20 (pm_tl 17 (s_cne 24 20)) (pm_tn 21 (pm_tl 20 (s_iload 2 21)) (pm_tl 21 (s_goto 25))))) (pm_tn 26 (pm_tn 25 (pm_tl 24 (s_push 0 25)) (pm_tl 25 (s_iast 26))) (pm_tn 29 (pm_tl 26 (s_iinc 3 1 29)) (pm_tn 32 (pm_tl 29 (s_K 2 [true, true, true, true] (s_goto 2))) (pm_tl 32 (s_vret)))))))
theorem tc_B_shiftOnly : ∀ pc, pm_Ct (t_B_shiftOnly pc) := (ct_tn (ct_tn (ct_tn (ct_tn (ct_tl (ct_push _ _)) (ct_tl (ct_K (ct_istore _ _)))) (ct_tn (ct_tl (ct_iload _ _)) (ct_tl (ct_aload _ _)))) (ct_tn (ct_tn (ct_tl (ct_getI _ _ _)) (ct_tl (ct_cge _ _))) (ct_tn (ct_tl (ct_aload _ _)) (ct_tn (ct_tl (ct_getR _ _ _)) (ct_tl (ct_iload _ _)))))) (ct_tn (ct_tn (ct_tn (ct_tl (ct_iload _ _)) (ct_tl (ct_iload _ _))) (ct_tn (ct_tl (ct_cne _ _)) (ct_tn (ct_tl (ct_iload _ _)) (ct_tl (ct_goto _))))) (ct_tn (ct_tn (ct_tl (ct_push _ _)) (ct_tl (ct_iast _))) (ct_tn (ct_tl (ct_iinc _ _ _)) (ct_tn (ct_tl (ct_K (ct_goto _))) (ct_tl (ct_vret)))))))
def t_B_shiftToStill : Nat → pm_S := (pm_tn 44 (pm_tn 21 (pm_tn 10 (pm_tn 3 (pm_tn 1 (pm_tl 0 (s_push 0 1)) (pm_tn 2 (pm_tl 1 (s_K 2 [true, true, true, false] (s_istore 2 2))) (pm_tl 2 (s_iload 2 3)))) (pm_tn 4 (pm_tl 3 (s_aload 0 4)) (pm_tn 7 (pm_tl 4 (s_getI 1 0 7)) (pm_tl 7 (s_cge 44 10))))) (pm_tn 15 (pm_tn 11 (pm_tl 10 (s_aload 0 11)) (pm_tn 14 (pm_tl 11 (s_getR 1 9 14)) (pm_tl 14 (s_iload 2 15)))) (pm_tn 19 (pm_tn 16 (pm_tl 15 (s_aload 0 16)) (pm_tl 16 (s_getR 1 7 19))) (pm_tn 20 (pm_tl 19 (s_iload 2 20)) (pm_tl 20 (s_iald 21)))))) (pm_tn 31 (pm_tn 26 (pm_tn 22 (pm_tl 21 (s_iload 2 22)) (pm_tn 25 (pm_tl 22 (s_cne 29 25)) (pm_tl 25 (s_push 1 26)))) (pm_tn 29 (pm_tl 26 (s_goto 30)) (pm_tn 30 (pm_tl 29 (s_push 0 30)) (pm_tl 30 (s_zast 31))))) (pm_tn 36 (pm_tn 32 (pm_tl 31 (s_aload 0 32)) (pm_tn 35 (pm_tl 32 (s_getR 1 8 35)) (pm_tl 35 (s_iload 2 36)))) (pm_tn 38 (pm_tn 37 (pm_tl 36 (s_push 0 37)) (pm_tl 37 (s_iast 38))) (pm_tn 41 (pm_tl 38 (s_iinc 2 1 41)) (pm_tl 41 (s_K 2 [true, true, true, false] (s_goto 2)))))))) (pm_tn 65 (pm_tn 54 (pm_tn 47 (pm_tn 45 (pm_tl 44 (s_push 1 45)) (pm_tn 46 (pm_tl 45 (s_K 46 [true, true, true, false] (s_istore 2 46))) (pm_tl 46 (s_iload 2 47)))) (pm_tn 48 (pm_tl 47 (s_aload 0 48)) (pm_tn 51 (pm_tl 48 (s_getI 1 0 51)) (pm_tl 51 (s_cge 91 54))))) (pm_tn 57 (pm_tn 55 (pm_tl 54 (s_push 0 55)) (pm_tn 56 (pm_tl 55 (s_K 56 [true, true, true, true] (s_istore 3 56))) (pm_tl 56 (s_iload 3 57)))) (pm_tn 61 (pm_tn 58 (pm_tl 57 (s_aload 0 58)) (pm_tl 58 (s_getI 1 1 61))) (pm_tn 64 (pm_tl 61 (s_cge 85 64)) (pm_tl 64 (s_aload 0 65)))))) (pm_tn 75 (pm_tn 70 (pm_tn 68 (pm_tl 65 (s_getR 1 6 68)) (pm_tn 69 (pm_tl 68 (s_iload 3 69)) (pm_tl 69 (s_zald 70)))) (pm_tn 73 (pm_tl 70 (s_ifeq 79 73)) (pm_tn 74 (pm_tl 73 (s_aload 0 74)) (pm_tl 74 (s_iload 3 75))))) (pm_tn 82 (pm_tn 76 (pm_tl 75 (s_aload 1 76)) (pm_tn 79 (pm_tl 76 (s_call 9 3 3 1 0 (fun _ => 1) 79)) (pm_tl 79 (s_iinc 3 1 82)))) (pm_tn 88 (pm_tn 85 (pm_tl 82 (s_K 56 [true, true, true, true] (s_goto 56))) (pm_tl 85 (s_iinc 2 1 88))) (pm_tn 91 (pm_tl 88 (s_K 46 [true, true, true, false] (s_goto 46))) (pm_tl 91 (s_vret))))))))
theorem tc_B_shiftToStill : ∀ pc, pm_Ct (t_B_shiftToStill pc) := (ct_tn (ct_tn (ct_tn (ct_tn (ct_tn (ct_tl (ct_push _ _)) (ct_tn (ct_tl (ct_K (ct_istore _ _))) (ct_tl (ct_iload _ _)))) (ct_tn (ct_tl (ct_aload _ _)) (ct_tn (ct_tl (ct_getI _ _ _)) (ct_tl (ct_cge _ _))))) (ct_tn (ct_tn (ct_tl (ct_aload _ _)) (ct_tn (ct_tl (ct_getR _ _ _)) (ct_tl (ct_iload _ _)))) (ct_tn (ct_tn (ct_tl (ct_aload _ _)) (ct_tl (ct_getR _ _ _))) (ct_tn (ct_tl (ct_iload _ _)) (ct_tl (ct_iald _)))))) (ct_tn (ct_tn (ct_tn (ct_tl (ct_iload _ _)) (ct_tn (ct_tl (ct_cne _ _)) (ct_tl (ct_push _ _)))) (ct_tn (ct_tl (ct_goto _)) (ct_tn (ct_tl (ct_push _ _)) (ct_tl (ct_zast _))))) (ct_tn (ct_tn (ct_tl (ct_aload _ _)) (ct_tn (ct_tl (ct_getR _ _ _)) (ct_tl (ct_iload _ _)))) (ct_tn (ct_tn (ct_tl (ct_push _ _)) (ct_tl (ct_iast _))) (ct_tn (ct_tl (ct_iinc _ _ _)) (ct_tl (ct_K (ct_goto _)))))))) (ct_tn (ct_tn (ct_tn (ct_tn (ct_tl (ct_push _ _)) (ct_tn (ct_tl (ct_K (ct_istore _ _))) (ct_tl (ct_iload _ _)))) (ct_tn (ct_tl (ct_aload _ _)) (ct_tn (ct_tl (ct_getI _ _ _)) (ct_tl (ct_cge _ _))))) (ct_tn (ct_tn (ct_tl (ct_push _ _)) (ct_tn (ct_tl (ct_K (ct_istore _ _))) (ct_tl (ct_iload _ _)))) (ct_tn (ct_tn (ct_tl (ct_aload _ _)) (ct_tl (ct_getI _ _ _))) (ct_tn (ct_tl (ct_cge _ _)) (ct_tl (ct_aload _ _)))))) (ct_tn (ct_tn (ct_tn (ct_tl (ct_getR _ _ _)) (ct_tn (ct_tl (ct_iload _ _)) (ct_tl (ct_zald _)))) (ct_tn (ct_tl (ct_ifeq _ _)) (ct_tn (ct_tl (ct_aload _ _)) (ct_tl (ct_iload _ _))))) (ct_tn (ct_tn (ct_tl (ct_aload _ _)) (ct_tn (ct_tl (ct_call _ _ _ _ _ _ _)) (ct_tl (ct_iinc _ _ _)))) (ct_tn (ct_tn (ct_tl (ct_K (ct_goto _))) (ct_tl (ct_iinc _ _ _))) (ct_tn (ct_tl (ct_K (ct_goto _))) (ct_tl (ct_vret))))))))
def t_B_reachAlong : Nat → pm_S := (pm_tn 61 (pm_tn 28 (pm_tn 13 (pm_tn 6 (pm_tn 4 (pm_tn 1 (pm_tl 0 (s_aload 0 1)) (pm_tl 1 (s_getR 1 3 4))) (pm_tn 5 (pm_tl 4 (s_iload 1 5)) (pm_tl 5 (s_iald 6)))) (pm_tn 8 (pm_tn 7 (pm_tl 6 (s_istore 3 7)) (pm_tl 7 (s_aload 0 8))) (pm_tn 11 (pm_tl 8 (s_getR 1 4 11)) (pm_tn 12 (pm_tl 11 (s_iload 1 12)) (pm_tl 12 (s_iald 13)))))) (pm_tn 20 (pm_tn 16 (pm_tn 15 (pm_tl 13 (s_istore 4 15)) (pm_tl 15 (s_aload 0 16))) (pm_tn 19 (pm_tl 16 (s_getR 1 5 19)) (pm_tl 19 (s_iload 1 20)))) (pm_tn 23 (pm_tn 21 (pm_tl 20 (s_iald 21)) (pm_tl 21 (s_istore 5 23))) (pm_tn 24 (pm_tl 23 (s_aload 0 24)) (pm_tn 27 (pm_tl 24 (s_getR 1 9 27)) (pm_tl 27 (s_iload 3 28))))))) (pm_tn 46 (pm_tn 36 (pm_tn 32 (pm_tn 29 (pm_tl 28 (s_zald 29)) (pm_tl 29 (s_ifeq 72 32))) (pm_tn 33 (pm_tl 32 (s_aload 0 33)) (pm_tl 33 (s_getR 1 9 36)))) (pm_tn 39 (pm_tn 38 (pm_tl 36 (s_iload 4 38)) (pm_tl 38 (s_zald 39))) (pm_tn 42 (pm_tl 39 (s_ifne 72 42)) (pm_tn 43 (pm_tl 42 (s_aload 0 43)) (pm_tl 43 (s_getR 1 8 46)))))) (pm_tn 53 (pm_tn 49 (pm_tn 48 (pm_tl 46 (s_iload 4 48)) (pm_tl 48 (s_aload 2 49))) (pm_tn 50 (pm_tl 49 (s_aload 0 50)) (pm_tl 50 (s_getR 1 8 53)))) (pm_tn 55 (pm_tn 54 (pm_tl 53 (s_iload 3 54)) (pm_tl 54 (s_iald 55))) (pm_tn 57 (pm_tl 55 (s_iload 5 57)) (pm_tn 60 (pm_tl 57 (s_call 19 3 0 2 1 (fun _ => 0) 60)) (pm_tl 60 (s_iast 61)))))))) (pm_tn 95 (pm_tn 78 (pm_tn 68 (pm_tn 65 (pm_tn 62 (pm_tl 61 (s_aload 0 62)) (pm_tl 62 (s_getR 1 9 65))) (pm_tn 67 (pm_tl 65 (s_iload 4 67)) (pm_tl 67 (s_push 1 68)))) (pm_tn 72 (pm_tn 69 (pm_tl 68 (s_zast 69)) (pm_tl 69 (s_goto 122))) (pm_tn 73 (pm_tl 72 (s_aload 0 73)) (pm_tn 76 (pm_tl 73 (s_getR 1 9 76)) (pm_tl 76 (s_iload 4 78)))))) (pm_tn 86 (pm_tn 82 (pm_tn 79 (pm_tl 78 (s_zald 79)) (pm_tl 79 (s_ifeq 122 82))) (pm_tn 83 (pm_tl 82 (s_aload 0 83)) (pm_tl 83 (s_getR 1 9 86)))) (pm_tn 88 (pm_tn 87 (pm_tl 86 (s_iload 3 87)) (pm_tl 87 (s_zald 88))) (pm_tn 91 (pm_tl 88 (s_ifne 122 91)) (pm_tn 92 (pm_tl 91 (s_aload 0 92)) (pm_tl 92 (s_getR 1 8 95))))))) (pm_tn 110 (pm_tn 101 (pm_tn 97 (pm_tn 96 (pm_tl 95 (s_iload 3 96)) (pm_tl 96 (s_aload 2 97))) (pm_tn 98 (pm_tl 97 (s_aload 0 98)) (pm_tl 98 (s_getR 1 8 101)))) (pm_tn 104 (pm_tn 103 (pm_tl 101 (s_iload 4 103)) (pm_tl 103 (s_iald 104))) (pm_tn 105 (pm_tl 104 (s_aload 2 105)) (pm_tn 108 (pm_tl 105 (s_getR 2 3 108)) (pm_tl 108 (s_iload 5 110)))))) (pm_tn 116 (pm_tn 114 (pm_tn 111 (pm_tl 110 (s_iald 111)) (pm_tl 111 (s_call 19 3 0 2 1 (fun _ => 0) 114))) (pm_tn 115 (pm_tl 114 (s_iast 115)) (pm_tl 115 (s_aload 0 116)))) (pm_tn 120 (pm_tn 119 (pm_tl 116 (s_getR 1 9 119)) (pm_tl 119 (s_iload 3 120))) (pm_tn 121 (pm_tl 120 (s_push 1 121)) (pm_tn 122 (pm_tl 121 (s_zast 122)) (pm_tl 122 (s_vret)))))))))
theorem tc_B_reachAlong : ∀ pc, pm_Ct (t_B_reachAlong pc) := (ct_tn (ct_tn (ct_tn (ct_tn (ct_tn (ct_tn (ct_tl (ct_aload _ _)) (ct_tl (ct_getR _ _ _))) (ct_tn (ct_tl (ct_iload _ _)) (ct_tl (ct_iald _)))) (ct_tn (ct_tn (ct_tl (ct_istore _ _)) (ct_tl (ct_aload _ _))) (ct_tn (ct_tl (ct_getR _ _ _)) (ct_tn (ct_tl (ct_iload _ _)) (ct_tl (ct_iald _)))))) (ct_tn (ct_tn (ct_tn (ct_tl (ct_istore _ _)) (ct_tl (ct_aload _ _))) (ct_tn (ct_tl (ct_getR _ _ _)) (ct_tl (ct_iload _ _)))) (ct_tn (ct_tn (ct_tl (ct_iald _)) (ct_tl (ct_istore _ _))) (ct_tn (ct_tl (ct_aload _ _)) (ct_tn (ct_tl (ct_getR _ _ _)) (ct_tl (ct_iload _ _))))))) (ct_tn (ct_tn (ct_tn (ct_tn (ct_tl (ct_zald _)) (ct_tl (ct_ifeq _ _))) (ct_tn (ct_tl (ct_aload _ _)) (ct_tl (ct_getR _ _ _)))) (ct_tn (ct_tn (ct_tl (ct_iload _ _)) (ct_tl (ct_zald _))) (ct_tn (ct_tl (ct_ifne _ _)) (ct_tn (ct_tl (ct_aload _ _)) (ct_tl (ct_getR _ _ _)))))) (ct_tn (ct_tn (ct_tn (ct_tl (ct_iload _ _)) (ct_tl (ct_aload _ _))) (ct_tn (ct_tl (ct_aload _ _)) (ct_tl (ct_getR _ _ _)))) (ct_tn (ct_tn (ct_tl (ct_iload _ _)) (ct_tl (ct_iald _))) (ct_tn (ct_tl (ct_iload _ _)) (ct_tn (ct_tl (ct_call _ _ _ _ _ _ _)) (ct_tl (ct_iast _)))))))) (ct_tn (ct_tn (ct_tn (ct_tn (ct_tn (ct_tl (ct_aload _ _)) (ct_tl (ct_getR _ _ _))) (ct_tn (ct_tl (ct_iload _ _)) (ct_tl (ct_push _ _)))) (ct_tn (ct_tn (ct_tl (ct_zast _)) (ct_tl (ct_goto _))) (ct_tn (ct_tl (ct_aload _ _)) (ct_tn (ct_tl (ct_getR _ _ _)) (ct_tl (ct_iload _ _)))))) (ct_tn (ct_tn (ct_tn (ct_tl (ct_zald _)) (ct_tl (ct_ifeq _ _))) (ct_tn (ct_tl (ct_aload _ _)) (ct_tl (ct_getR _ _ _)))) (ct_tn (ct_tn (ct_tl (ct_iload _ _)) (ct_tl (ct_zald _))) (ct_tn (ct_tl (ct_ifne _ _)) (ct_tn (ct_tl (ct_aload _ _)) (ct_tl (ct_getR _ _ _))))))) (ct_tn (ct_tn (ct_tn (ct_tn (ct_tl (ct_iload _ _)) (ct_tl (ct_aload _ _))) (ct_tn (ct_tl (ct_aload _ _)) (ct_tl (ct_getR _ _ _)))) (ct_tn (ct_tn (ct_tl (ct_iload _ _)) (ct_tl (ct_iald _))) (ct_tn (ct_tl (ct_aload _ _)) (ct_tn (ct_tl (ct_getR _ _ _)) (ct_tl (ct_iload _ _)))))) (ct_tn (ct_tn (ct_tn (ct_tl (ct_iald _)) (ct_tl (ct_call _ _ _ _ _ _ _))) (ct_tn (ct_tl (ct_iast _)) (ct_tl (ct_aload _ _)))) (ct_tn (ct_tn (ct_tl (ct_getR _ _ _)) (ct_tl (ct_iload _ _))) (ct_tn (ct_tl (ct_push _ _)) (ct_tn (ct_tl (ct_zast _)) (ct_tl (ct_vret)))))))))
def t_B_turnPoints : Nat → pm_S := (pm_tn 43 (pm_tn 20 (pm_tn 6 (pm_tn 3 (pm_tn 1 (pm_tl 0 (s_push 0 1)) (pm_tn 2 (pm_tl 1 (s_istore 2 2)) (pm_tl 2 (s_push 0 3)))) (pm_tn 4 (pm_tl 3 (s_K 4 [true, true, true, true, false, false] (s_istore 3 4))) (pm_tn 5 (pm_tl 4 (s_iload 3 5)) (pm_tl 5 (s_aload 0 6))))) (pm_tn 13 (pm_tn 9 (pm_tl 6 (s_getI 1 1 9)) (pm_tn 12 (pm_tl 9 (s_cge 87 12)) (pm_tl 12 (s_aload 0 13)))) (pm_tn 17 (pm_tn 16 (pm_tl 13 (s_getR 1 5 16)) (pm_tl 16 (s_iload 3 17))) (pm_tn 18 (pm_tl 17 (s_iald 18)) (pm_tl 18 (s_istore 4 20)))))) (pm_tn 30 (pm_tn 25 (pm_tn 21 (pm_tl 20 (s_aload 1 21)) (pm_tn 22 (pm_tl 21 (s_aload 0 22)) (pm_tl 22 (s_getR 1 8 25)))) (pm_tn 26 (pm_tl 25 (s_aload 0 26)) (pm_tn 29 (pm_tl 26 (s_getR 1 3 29)) (pm_tl 29 (s_iload 3 30))))) (pm_tn 34 (pm_tn 31 (pm_tl 30 (s_iald 31)) (pm_tn 32 (pm_tl 31 (s_iald 32)) (pm_tl 32 (s_iload 4 34)))) (pm_tn 39 (pm_tn 37 (pm_tl 34 (s_call 19 3 0 2 1 (fun _ => 0) 37)) (pm_tl 37 (s_istore 5 39))) (pm_tn 40 (pm_tl 39 (s_aload 0 40)) (pm_tl 40 (s_getR 1 5 43))))))) (pm_tn 63 (pm_tn 52 (pm_tn 47 (pm_tn 44 (pm_tl 43 (s_iload 3 44)) (pm_tn 45 (pm_tl 44 (s_aload 1 45)) (pm_tl 45 (s_iload 5 47)))) (pm_tn 48 (pm_tl 47 (s_aload 1 48)) (pm_tn 51 (pm_tl 48 (s_getR 2 3 51)) (pm_tl 51 (s_aload 0 52))))) (pm_tn 59 (pm_tn 55 (pm_tl 52 (s_getR 1 8 55)) (pm_tn 56 (pm_tl 55 (s_aload 0 56)) (pm_tl 56 (s_getR 1 4 59)))) (pm_tn 61 (pm_tn 60 (pm_tl 59 (s_iload 3 60)) (pm_tl 60 (s_iald 61))) (pm_tn 62 (pm_tl 61 (s_iald 62)) (pm_tl 62 (s_iald 63)))))) (pm_tn 73 (pm_tn 68 (pm_tn 66 (pm_tl 63 (s_call 19 3 0 2 1 (fun _ => 0) 66)) (pm_tn 67 (pm_tl 66 (s_iast 67)) (pm_tl 67 (s_aload 0 68)))) (pm_tn 71 (pm_tl 68 (s_getR 1 5 71)) (pm_tn 72 (pm_tl 71 (s_iload 3 72)) (pm_tl 72 (s_iald 73))))) (pm_tn 81 (pm_tn 75 (pm_tl 73 (s_iload 4 75)) (pm_tn 78 (pm_tl 75 (s_ceq 81 78)) (pm_tl 78 (s_iinc 2 1 81)))) (pm_tn 87 (pm_tn 84 (pm_tl 81 (s_iinc 3 1 84)) (pm_tl 84 (s_K 4 [true, true, true, true, false, false] (s_goto 4)))) (pm_tn 88 (pm_tl 87 (s_iload 2 88)) (pm_tl 88 (s_iret))))))))
theorem tc_B_turnPoints : ∀ pc, pm_Ct (t_B_turnPoints pc) := (ct_tn (ct_tn (ct_tn (ct_tn (ct_tn (ct_tl (ct_push _ _)) (ct_tn (ct_tl (ct_istore _ _)) (ct_tl (ct_push _ _)))) (ct_tn (ct_tl (ct_K (ct_istore _ _))) (ct_tn (ct_tl (ct_iload _ _)) (ct_tl (ct_aload _ _))))) (ct_tn (ct_tn (ct_tl (ct_getI _ _ _)) (ct_tn (ct_tl (ct_cge _ _)) (ct_tl (ct_aload _ _)))) (ct_tn (ct_tn (ct_tl (ct_getR _ _ _)) (ct_tl (ct_iload _ _))) (ct_tn (ct_tl (ct_iald _)) (ct_tl (ct_istore _ _)))))) (ct_tn (ct_tn (ct_tn (ct_tl (ct_aload _ _)) (ct_tn (ct_tl (ct_aload _ _)) (ct_tl (ct_getR _ _ _)))) (ct_tn (ct_tl (ct_aload _ _)) (ct_tn (ct_tl (ct_getR _ _ _)) (ct_tl (ct_iload _ _))))) (ct_tn (ct_tn (ct_tl (ct_iald _)) (ct_tn (ct_tl (ct_iald _)) (ct_tl (ct_iload _ _)))) (ct_tn (ct_tn (ct_tl (ct_call _ _ _ _ _ _ _)) (ct_tl (ct_istore _ _))) (ct_tn (ct_tl (ct_aload _ _)) (ct_tl (ct_getR _ _ _))))))) (ct_tn (ct_tn (ct_tn (ct_tn (ct_tl (ct_iload _ _)) (ct_tn (ct_tl (ct_aload _ _)) (ct_tl (ct_iload _ _)))) (ct_tn (ct_tl (ct_aload _ _)) (ct_tn (ct_tl (ct_getR _ _ _)) (ct_tl (ct_aload _ _))))) (ct_tn (ct_tn (ct_tl (ct_getR _ _ _)) (ct_tn (ct_tl (ct_aload _ _)) (ct_tl (ct_getR _ _ _)))) (ct_tn (ct_tn (ct_tl (ct_iload _ _)) (ct_tl (ct_iald _))) (ct_tn (ct_tl (ct_iald _)) (ct_tl (ct_iald _)))))) (ct_tn (ct_tn (ct_tn (ct_tl (ct_call _ _ _ _ _ _ _)) (ct_tn (ct_tl (ct_iast _)) (ct_tl (ct_aload _ _)))) (ct_tn (ct_tl (ct_getR _ _ _)) (ct_tn (ct_tl (ct_iload _ _)) (ct_tl (ct_iald _))))) (ct_tn (ct_tn (ct_tl (ct_iload _ _)) (ct_tn (ct_tl (ct_ceq _ _)) (ct_tl (ct_iinc _ _ _)))) (ct_tn (ct_tn (ct_tl (ct_iinc _ _ _)) (ct_tl (ct_K (ct_goto _)))) (ct_tn (ct_tl (ct_iload _ _)) (ct_tl (ct_iret))))))))
def t_G_draftRing : Nat → pm_S := (pm_tn 25 (pm_tn 11 (pm_tn 4 (pm_tn 2 (pm_tn 1 (pm_tl 0 (s_push 0 1)) (pm_tl 1 (s_K 2 [true, true, true, false] (s_istore 2 2)))) (pm_tn 3 (pm_tl 2 (s_iload 2 3)) (pm_tl 3 (s_iload 1 4)))) (pm_tn 8 (pm_tn 7 (pm_tl 4 (s_cge 55 7)) (pm_tl 7 (s_push 0 8))) (pm_tn 9 (pm_tl 8 (s_K 9 [true, true, true, true] (s_istore 3 9))) (pm_tn 10 (pm_tl 9 (s_iload 3 10)) (pm_tl 10 (s_iload 1 11)))))) (pm_tn 20 (pm_tn 15 (pm_tn 14 (pm_tl 11 (s_cge 49 14)) (pm_tl 14 (s_aload 0 15))) (pm_tn 18 (pm_tl 15 (s_getR 2 1 18)) (pm_tl 18 (s_push 8 20)))) (pm_tn 22 (pm_tn 21 (pm_tl 20 (s_iload 2 21)) (pm_tl 21 (s_imul 22))) (pm_tn 23 (pm_tl 22 (s_iload 3 23)) (pm_tn 24 (pm_tl 23 (s_iadd 24)) (pm_tl 24 (s_iload 2 25))))))) (pm_tn 38 (pm_tn 31 (pm_tn 27 (pm_tn 26 (pm_tl 25 (s_iload 3 26)) (pm_tl 26 (s_iadd 27))) (pm_tn 28 (pm_tl 27 (s_iload 1 28)) (pm_tl 28 (s_cge 37 31)))) (pm_tn 33 (pm_tn 32 (pm_tl 31 (s_iload 2 32)) (pm_tl 32 (s_iload 3 33))) (pm_tn 34 (pm_tl 33 (s_iadd 34)) (pm_tn 37 (pm_tl 34 (s_goto 42)) (pm_tl 37 (s_iload 2 38)))))) (pm_tn 43 (pm_tn 40 (pm_tn 39 (pm_tl 38 (s_iload 3 39)) (pm_tl 39 (s_iadd 40))) (pm_tn 41 (pm_tl 40 (s_iload 1 41)) (pm_tn 42 (pm_tl 41 (s_isub 42)) (pm_tl 42 (s_iast 43))))) (pm_tn 49 (pm_tn 46 (pm_tl 43 (s_iinc 3 1 46)) (pm_tl 46 (s_K 9 [true, true, true, true] (s_goto 9)))) (pm_tn 52 (pm_tl 49 (s_iinc 2 1 52)) (pm_tn 55 (pm_tl 52 (s_K 2 [true, true, true, false] (s_goto 2))) (pm_tl 55 (s_vret))))))))
theorem tc_G_draftRing : ∀ pc, pm_Ct (t_G_draftRing pc) := (ct_tn (ct_tn (ct_tn (ct_tn (ct_tn (ct_tl (ct_push _ _)) (ct_tl (ct_K (ct_istore _ _)))) (ct_tn (ct_tl (ct_iload _ _)) (ct_tl (ct_iload _ _)))) (ct_tn (ct_tn (ct_tl (ct_cge _ _)) (ct_tl (ct_push _ _))) (ct_tn (ct_tl (ct_K (ct_istore _ _))) (ct_tn (ct_tl (ct_iload _ _)) (ct_tl (ct_iload _ _)))))) (ct_tn (ct_tn (ct_tn (ct_tl (ct_cge _ _)) (ct_tl (ct_aload _ _))) (ct_tn (ct_tl (ct_getR _ _ _)) (ct_tl (ct_push _ _)))) (ct_tn (ct_tn (ct_tl (ct_iload _ _)) (ct_tl (ct_imul _))) (ct_tn (ct_tl (ct_iload _ _)) (ct_tn (ct_tl (ct_iadd _)) (ct_tl (ct_iload _ _))))))) (ct_tn (ct_tn (ct_tn (ct_tn (ct_tl (ct_iload _ _)) (ct_tl (ct_iadd _))) (ct_tn (ct_tl (ct_iload _ _)) (ct_tl (ct_cge _ _)))) (ct_tn (ct_tn (ct_tl (ct_iload _ _)) (ct_tl (ct_iload _ _))) (ct_tn (ct_tl (ct_iadd _)) (ct_tn (ct_tl (ct_goto _)) (ct_tl (ct_iload _ _)))))) (ct_tn (ct_tn (ct_tn (ct_tl (ct_iload _ _)) (ct_tl (ct_iadd _))) (ct_tn (ct_tl (ct_iload _ _)) (ct_tn (ct_tl (ct_isub _)) (ct_tl (ct_iast _))))) (ct_tn (ct_tn (ct_tl (ct_iinc _ _ _)) (ct_tl (ct_K (ct_goto _)))) (ct_tn (ct_tl (ct_iinc _ _ _)) (ct_tn (ct_tl (ct_K (ct_goto _))) (ct_tl (ct_vret))))))))
def t_G_draftFlips : Nat → pm_S := (pm_tn 62 (pm_tn 30 (pm_tn 15 (pm_tn 7 (pm_tn 2 (pm_tn 1 (pm_tl 0 (s_push 0 1)) (pm_tl 1 (s_K 2 [true, true, true, false, false, false] (s_istore 2 2)))) (pm_tn 3 (pm_tl 2 (s_iload 2 3)) (pm_tn 4 (pm_tl 3 (s_iload 1 4)) (pm_tl 4 (s_cge 128 7))))) (pm_tn 10 (pm_tn 8 (pm_tl 7 (s_push 0 8)) (pm_tn 9 (pm_tl 8 (s_K 9 [true, true, true, true, false, false] (s_istore 3 9))) (pm_tl 9 (s_iload 3 10)))) (pm_tn 11 (pm_tl 10 (s_iload 1 11)) (pm_tn 14 (pm_tl 11 (s_cge 122 14)) (pm_tl 14 (s_iload 2 15)))))) (pm_tn 22 (pm_tn 17 (pm_tn 16 (pm_tl 15 (s_iload 3 16)) (pm_tl 16 (s_iadd 17))) (pm_tn 18 (pm_tl 17 (s_iload 1 18)) (pm_tn 21 (pm_tl 18 (s_cge 27 21)) (pm_tl 21 (s_iload 2 22))))) (pm_tn 27 (pm_tn 23 (pm_tl 22 (s_iload 3 23)) (pm_tn 24 (pm_tl 23 (s_iadd 24)) (pm_tl 24 (s_goto 32)))) (pm_tn 28 (pm_tl 27 (s_iload 2 28)) (pm_tn 29 (pm_tl 28 (s_iload 3 29)) (pm_tl 29 (s_iadd 30))))))) (pm_tn 46 (pm_tn 36 (pm_tn 32 (pm_tn 31 (pm_tl 30 (s_iload 1 31)) (pm_tl 31 (s_isub 32))) (pm_tn 34 (pm_tl 32 (s_istore 4 34)) (pm_tn 35 (pm_tl 34 (s_iload 2 35)) (pm_tl 35 (s_iload 3 36))))) (pm_tn 41 (pm_tn 39 (pm_tl 36 (s_clt 45 39)) (pm_tn 40 (pm_tl 39 (s_iload 2 40)) (pm_tl 40 (s_iload 3 41)))) (pm_tn 42 (pm_tl 41 (s_isub 42)) (pm_tn 45 (pm_tl 42 (s_goto 50)) (pm_tl 45 (s_iload 2 46)))))) (pm_tn 53 (pm_tn 49 (pm_tn 47 (pm_tl 46 (s_iload 3 47)) (pm_tn 48 (pm_tl 47 (s_isub 48)) (pm_tl 48 (s_iload 1 49)))) (pm_tn 50 (pm_tl 49 (s_iadd 50)) (pm_tn 52 (pm_tl 50 (s_istore 5 52)) (pm_tl 52 (s_aload 0 53))))) (pm_tn 59 (pm_tn 56 (pm_tl 53 (s_getR 2 1 56)) (pm_tn 58 (pm_tl 56 (s_push 8 58)) (pm_tl 58 (s_iload 2 59)))) (pm_tn 60 (pm_tl 59 (s_imul 60)) (pm_tn 61 (pm_tl 60 (s_iload 3 61)) (pm_tl 61 (s_iadd 62)))))))) (pm_tn 93 (pm_tn 77 (pm_tn 71 (pm_tn 65 (pm_tn 64 (pm_tl 62 (s_iload 4 64)) (pm_tl 64 (s_iast 65))) (pm_tn 66 (pm_tl 65 (s_aload 0 66)) (pm_tn 69 (pm_tl 66 (s_getR 2 1 69)) (pm_tl 69 (s_push 8 71))))) (pm_tn 74 (pm_tn 72 (pm_tl 71 (s_iload 2 72)) (pm_tn 73 (pm_tl 72 (s_imul 73)) (pm_tl 73 (s_iload 1 74)))) (pm_tn 75 (pm_tl 74 (s_iadd 75)) (pm_tn 76 (pm_tl 75 (s_iload 3 76)) (pm_tl 76 (s_iadd 77)))))) (pm_tn 86 (pm_tn 81 (pm_tn 78 (pm_tl 77 (s_iload 1 78)) (pm_tn 80 (pm_tl 78 (s_iload 4 80)) (pm_tl 80 (s_iadd 81)))) (pm_tn 82 (pm_tl 81 (s_iast 82)) (pm_tn 83 (pm_tl 82 (s_aload 0 83)) (pm_tl 83 (s_getR 2 1 86))))) (pm_tn 90 (pm_tn 88 (pm_tl 86 (s_push 8 88)) (pm_tn 89 (pm_tl 88 (s_iload 1 89)) (pm_tl 89 (s_iload 2 90)))) (pm_tn 91 (pm_tl 90 (s_iadd 91)) (pm_tn 92 (pm_tl 91 (s_imul 92)) (pm_tl 92 (s_iload 3 93))))))) (pm_tn 108 (pm_tn 99 (pm_tn 95 (pm_tn 94 (pm_tl 93 (s_iadd 94)) (pm_tl 94 (s_iload 1 95))) (pm_tn 97 (pm_tl 95 (s_iload 5 97)) (pm_tn 98 (pm_tl 97 (s_iadd 98)) (pm_tl 98 (s_iast 99))))) (pm_tn 105 (pm_tn 100 (pm_tl 99 (s_aload 0 100)) (pm_tn 103 (pm_tl 100 (s_getR 2 1 103)) (pm_tl 103 (s_push 8 105)))) (pm_tn 106 (pm_tl 105 (s_iload 1 106)) (pm_tn 107 (pm_tl 106 (s_iload 2 107)) (pm_tl 107 (s_iadd 108)))))) (pm_tn 115 (pm_tn 111 (pm_tn 109 (pm_tl 108 (s_imul 109)) (pm_tn 110 (pm_tl 109 (s_iload 1 110)) (pm_tl 110 (s_iadd 111)))) (pm_tn 112 (pm_tl 111 (s_iload 3 112)) (pm_tn 113 (pm_tl 112 (s_iadd 113)) (pm_tl 113 (s_iload 5 115))))) (pm_tn 122 (pm_tn 116 (pm_tl 115 (s_iast 116)) (pm_tn 119 (pm_tl 116 (s_iinc 3 1 119)) (pm_tl 119 (s_K 9 [true, true, true, true, false, false] (s_goto 9))))) (pm_tn 125 (pm_tl 122 (s_iinc 2 1 125)) (pm_tn 128 (pm_tl 125 (s_K 2 [true, true, true, false, false, false] (s_goto 2))) (pm_tl 128 (s_vret)))))))))
theorem tc_G_draftFlips : ∀ pc, pm_Ct (t_G_draftFlips pc) := (ct_tn (ct_tn (ct_tn (ct_tn (ct_tn (ct_tn (ct_tl (ct_push _ _)) (ct_tl (ct_K (ct_istore _ _)))) (ct_tn (ct_tl (ct_iload _ _)) (ct_tn (ct_tl (ct_iload _ _)) (ct_tl (ct_cge _ _))))) (ct_tn (ct_tn (ct_tl (ct_push _ _)) (ct_tn (ct_tl (ct_K (ct_istore _ _))) (ct_tl (ct_iload _ _)))) (ct_tn (ct_tl (ct_iload _ _)) (ct_tn (ct_tl (ct_cge _ _)) (ct_tl (ct_iload _ _)))))) (ct_tn (ct_tn (ct_tn (ct_tl (ct_iload _ _)) (ct_tl (ct_iadd _))) (ct_tn (ct_tl (ct_iload _ _)) (ct_tn (ct_tl (ct_cge _ _)) (ct_tl (ct_iload _ _))))) (ct_tn (ct_tn (ct_tl (ct_iload _ _)) (ct_tn (ct_tl (ct_iadd _)) (ct_tl (ct_goto _)))) (ct_tn (ct_tl (ct_iload _ _)) (ct_tn (ct_tl (ct_iload _ _)) (ct_tl (ct_iadd _))))))) (ct_tn (ct_tn (ct_tn (ct_tn (ct_tl (ct_iload _ _)) (ct_tl (ct_isub _))) (ct_tn (ct_tl (ct_istore _ _)) (ct_tn (ct_tl (ct_iload _ _)) (ct_tl (ct_iload _ _))))) (ct_tn (ct_tn (ct_tl (ct_clt _ _)) (ct_tn (ct_tl (ct_iload _ _)) (ct_tl (ct_iload _ _)))) (ct_tn (ct_tl (ct_isub _)) (ct_tn (ct_tl (ct_goto _)) (ct_tl (ct_iload _ _)))))) (ct_tn (ct_tn (ct_tn (ct_tl (ct_iload _ _)) (ct_tn (ct_tl (ct_isub _)) (ct_tl (ct_iload _ _)))) (ct_tn (ct_tl (ct_iadd _)) (ct_tn (ct_tl (ct_istore _ _)) (ct_tl (ct_aload _ _))))) (ct_tn (ct_tn (ct_tl (ct_getR _ _ _)) (ct_tn (ct_tl (ct_push _ _)) (ct_tl (ct_iload _ _)))) (ct_tn (ct_tl (ct_imul _)) (ct_tn (ct_tl (ct_iload _ _)) (ct_tl (ct_iadd _)))))))) (ct_tn (ct_tn (ct_tn (ct_tn (ct_tn (ct_tl (ct_iload _ _)) (ct_tl (ct_iast _))) (ct_tn (ct_tl (ct_aload _ _)) (ct_tn (ct_tl (ct_getR _ _ _)) (ct_tl (ct_push _ _))))) (ct_tn (ct_tn (ct_tl (ct_iload _ _)) (ct_tn (ct_tl (ct_imul _)) (ct_tl (ct_iload _ _)))) (ct_tn (ct_tl (ct_iadd _)) (ct_tn (ct_tl (ct_iload _ _)) (ct_tl (ct_iadd _)))))) (ct_tn (ct_tn (ct_tn (ct_tl (ct_iload _ _)) (ct_tn (ct_tl (ct_iload _ _)) (ct_tl (ct_iadd _)))) (ct_tn (ct_tl (ct_iast _)) (ct_tn (ct_tl (ct_aload _ _)) (ct_tl (ct_getR _ _ _))))) (ct_tn (ct_tn (ct_tl (ct_push _ _)) (ct_tn (ct_tl (ct_iload _ _)) (ct_tl (ct_iload _ _)))) (ct_tn (ct_tl (ct_iadd _)) (ct_tn (ct_tl (ct_imul _)) (ct_tl (ct_iload _ _))))))) (ct_tn (ct_tn (ct_tn (ct_tn (ct_tl (ct_iadd _)) (ct_tl (ct_iload _ _))) (ct_tn (ct_tl (ct_iload _ _)) (ct_tn (ct_tl (ct_iadd _)) (ct_tl (ct_iast _))))) (ct_tn (ct_tn (ct_tl (ct_aload _ _)) (ct_tn (ct_tl (ct_getR _ _ _)) (ct_tl (ct_push _ _)))) (ct_tn (ct_tl (ct_iload _ _)) (ct_tn (ct_tl (ct_iload _ _)) (ct_tl (ct_iadd _)))))) (ct_tn (ct_tn (ct_tn (ct_tl (ct_imul _)) (ct_tn (ct_tl (ct_iload _ _)) (ct_tl (ct_iadd _)))) (ct_tn (ct_tl (ct_iload _ _)) (ct_tn (ct_tl (ct_iadd _)) (ct_tl (ct_iload _ _))))) (ct_tn (ct_tn (ct_tl (ct_iast _)) (ct_tn (ct_tl (ct_iinc _ _ _)) (ct_tl (ct_K (ct_goto _))))) (ct_tn (ct_tl (ct_iinc _ _ _)) (ct_tn (ct_tl (ct_K (ct_goto _))) (ct_tl (ct_vret)))))))))
def t_G_draftCrossed : Nat → pm_S := (pm_tn 30 (pm_tn 19 (pm_tn 8 (pm_tn 2 (pm_tn 1 (pm_tl 0 (s_push 0 1)) (pm_tl 1 (s_K 2 [true, true, false, false] (s_istore 1 2)))) (pm_tn 3 (pm_tl 2 (s_iload 1 3)) (pm_tn 5 (pm_tl 3 (s_push 8 5)) (pm_tl 5 (s_cge 62 8))))) (pm_tn 11 (pm_tn 9 (pm_tl 8 (s_push 0 9)) (pm_tn 10 (pm_tl 9 (s_K 10 [true, true, true, false] (s_istore 2 10))) (pm_tl 10 (s_iload 2 11)))) (pm_tn 13 (pm_tl 11 (s_push 8 13)) (pm_tn 16 (pm_tl 13 (s_cge 56 16)) (pm_tl 16 (s_units 19)))))) (pm_tn 24 (pm_tn 21 (pm_tn 20 (pm_tl 19 (s_push 4 20)) (pm_tl 20 (s_iload 1 21))) (pm_tn 22 (pm_tl 21 (s_push 3 22)) (pm_tn 23 (pm_tl 22 (s_iand 23)) (pm_tl 23 (s_imul 24))))) (pm_tn 27 (pm_tn 25 (pm_tl 24 (s_iload 2 25)) (pm_tn 26 (pm_tl 25 (s_push 3 26)) (pm_tl 26 (s_iand 27)))) (pm_tn 28 (pm_tl 27 (s_iadd 28)) (pm_tn 29 (pm_tl 28 (s_iald 29)) (pm_tl 29 (s_istore 3 30))))))) (pm_tn 44 (pm_tn 38 (pm_tn 34 (pm_tn 31 (pm_tl 30 (s_aload 0 31)) (pm_tl 31 (s_getR 2 1 34))) (pm_tn 36 (pm_tl 34 (s_push 8 36)) (pm_tn 37 (pm_tl 36 (s_iload 1 37)) (pm_tl 37 (s_imul 38))))) (pm_tn 41 (pm_tn 39 (pm_tl 38 (s_iload 2 39)) (pm_tn 40 (pm_tl 39 (s_iadd 40)) (pm_tl 40 (s_iload 3 41)))) (pm_tn 42 (pm_tl 41 (s_iload 1 42)) (pm_tn 43 (pm_tl 42 (s_push 4 43)) (pm_tl 43 (s_iand 44)))))) (pm_tn 49 (pm_tn 46 (pm_tn 45 (pm_tl 44 (s_ixor 45)) (pm_tl 45 (s_iload 2 46))) (pm_tn 47 (pm_tl 46 (s_push 4 47)) (pm_tn 48 (pm_tl 47 (s_iand 48)) (pm_tl 48 (s_ixor 49))))) (pm_tn 56 (pm_tn 50 (pm_tl 49 (s_iast 50)) (pm_tn 53 (pm_tl 50 (s_iinc 2 1 53)) (pm_tl 53 (s_K 10 [true, true, true, false] (s_goto 10))))) (pm_tn 59 (pm_tl 56 (s_iinc 1 1 59)) (pm_tn 62 (pm_tl 59 (s_K 2 [true, true, false, false] (s_goto 2))) (pm_tl 62 (s_vret))))))))
theorem tc_G_draftCrossed : ∀ pc, pm_Ct (t_G_draftCrossed pc) := (ct_tn (ct_tn (ct_tn (ct_tn (ct_tn (ct_tl (ct_push _ _)) (ct_tl (ct_K (ct_istore _ _)))) (ct_tn (ct_tl (ct_iload _ _)) (ct_tn (ct_tl (ct_push _ _)) (ct_tl (ct_cge _ _))))) (ct_tn (ct_tn (ct_tl (ct_push _ _)) (ct_tn (ct_tl (ct_K (ct_istore _ _))) (ct_tl (ct_iload _ _)))) (ct_tn (ct_tl (ct_push _ _)) (ct_tn (ct_tl (ct_cge _ _)) (ct_tl (ct_units _)))))) (ct_tn (ct_tn (ct_tn (ct_tl (ct_push _ _)) (ct_tl (ct_iload _ _))) (ct_tn (ct_tl (ct_push _ _)) (ct_tn (ct_tl (ct_iand _)) (ct_tl (ct_imul _))))) (ct_tn (ct_tn (ct_tl (ct_iload _ _)) (ct_tn (ct_tl (ct_push _ _)) (ct_tl (ct_iand _)))) (ct_tn (ct_tl (ct_iadd _)) (ct_tn (ct_tl (ct_iald _)) (ct_tl (ct_istore _ _))))))) (ct_tn (ct_tn (ct_tn (ct_tn (ct_tl (ct_aload _ _)) (ct_tl (ct_getR _ _ _))) (ct_tn (ct_tl (ct_push _ _)) (ct_tn (ct_tl (ct_iload _ _)) (ct_tl (ct_imul _))))) (ct_tn (ct_tn (ct_tl (ct_iload _ _)) (ct_tn (ct_tl (ct_iadd _)) (ct_tl (ct_iload _ _)))) (ct_tn (ct_tl (ct_iload _ _)) (ct_tn (ct_tl (ct_push _ _)) (ct_tl (ct_iand _)))))) (ct_tn (ct_tn (ct_tn (ct_tl (ct_ixor _)) (ct_tl (ct_iload _ _))) (ct_tn (ct_tl (ct_push _ _)) (ct_tn (ct_tl (ct_iand _)) (ct_tl (ct_ixor _))))) (ct_tn (ct_tn (ct_tl (ct_iast _)) (ct_tn (ct_tl (ct_iinc _ _ _)) (ct_tl (ct_K (ct_goto _))))) (ct_tn (ct_tl (ct_iinc _ _ _)) (ct_tn (ct_tl (ct_K (ct_goto _))) (ct_tl (ct_vret))))))))
def t_G_draftFault : Nat → pm_S := (pm_tn 33 (pm_tn 14 (pm_tn 7 (pm_tn 2 (pm_tn 1 (pm_tl 0 (s_push 0 1)) (pm_tl 1 (s_K 2 [true, true, true] (s_istore 2 2)))) (pm_tn 3 (pm_tl 2 (s_iload 2 3)) (pm_tn 4 (pm_tl 3 (s_iload 1 4)) (pm_tl 4 (s_cge 39 7))))) (pm_tn 9 (pm_tn 8 (pm_tl 7 (s_aload 0 8)) (pm_tl 8 (s_push 0 9))) (pm_tn 10 (pm_tl 9 (s_iload 2 10)) (pm_tn 13 (pm_tl 10 (s_call 15 3 0 2 1 (fun _ => 0) 13)) (pm_tl 13 (s_iload 2 14)))))) (pm_tn 23 (pm_tn 18 (pm_tn 17 (pm_tl 14 (s_cne 27 17)) (pm_tl 17 (s_aload 0 18))) (pm_tn 19 (pm_tl 18 (s_iload 2 19)) (pm_tn 20 (pm_tl 19 (s_push 0 20)) (pm_tl 20 (s_call 15 3 0 2 1 (fun _ => 0) 23))))) (pm_tn 30 (pm_tn 24 (pm_tl 23 (s_iload 2 24)) (pm_tn 27 (pm_tl 24 (s_ceq 33 27)) (pm_tl 27 (s_push (-200) 30)))) (pm_tn 31 (pm_tl 30 (s_iload 2 31)) (pm_tn 32 (pm_tl 31 (s_isub 32)) (pm_tl 32 (s_iret))))))) (pm_tn 52 (pm_tn 42 (pm_tn 39 (pm_tn 36 (pm_tl 33 (s_iinc 2 1 36)) (pm_tl 36 (s_K 2 [true, true, true] (s_goto 2)))) (pm_tn 40 (pm_tl 39 (s_push 0 40)) (pm_tn 41 (pm_tl 40 (s_K 41 [true, true, true] (s_istore 2 41))) (pm_tl 41 (s_iload 2 42))))) (pm_tn 47 (pm_tn 43 (pm_tl 42 (s_iload 1 43)) (pm_tn 46 (pm_tl 43 (s_cge 67 46)) (pm_tl 46 (s_aload 0 47)))) (pm_tn 48 (pm_tl 47 (s_iload 2 48)) (pm_tn 49 (pm_tl 48 (s_iload 1 49)) (pm_tl 49 (s_call 16 3 1 2 1 (fun _ => 1) 52)))))) (pm_tn 61 (pm_tn 58 (pm_tn 55 (pm_tl 52 (s_ifne 61 55)) (pm_tl 55 (s_push (-300) 58))) (pm_tn 59 (pm_tl 58 (s_iload 2 59)) (pm_tn 60 (pm_tl 59 (s_isub 60)) (pm_tl 60 (s_iret))))) (pm_tn 68 (pm_tn 64 (pm_tl 61 (s_iinc 2 1 64)) (pm_tn 67 (pm_tl 64 (s_K 41 [true, true, true] (s_goto 41))) (pm_tl 67 (s_aload 0 68)))) (pm_tn 69 (pm_tl 68 (s_iload 1 69)) (pm_tn 72 (pm_tl 69 (s_call 17 2 3 2 1 (fun _ => 1) 72)) (pm_tl 72 (s_iret))))))))
theorem tc_G_draftFault : ∀ pc, pm_Ct (t_G_draftFault pc) := (ct_tn (ct_tn (ct_tn (ct_tn (ct_tn (ct_tl (ct_push _ _)) (ct_tl (ct_K (ct_istore _ _)))) (ct_tn (ct_tl (ct_iload _ _)) (ct_tn (ct_tl (ct_iload _ _)) (ct_tl (ct_cge _ _))))) (ct_tn (ct_tn (ct_tl (ct_aload _ _)) (ct_tl (ct_push _ _))) (ct_tn (ct_tl (ct_iload _ _)) (ct_tn (ct_tl (ct_call _ _ _ _ _ _ _)) (ct_tl (ct_iload _ _)))))) (ct_tn (ct_tn (ct_tn (ct_tl (ct_cne _ _)) (ct_tl (ct_aload _ _))) (ct_tn (ct_tl (ct_iload _ _)) (ct_tn (ct_tl (ct_push _ _)) (ct_tl (ct_call _ _ _ _ _ _ _))))) (ct_tn (ct_tn (ct_tl (ct_iload _ _)) (ct_tn (ct_tl (ct_ceq _ _)) (ct_tl (ct_push _ _)))) (ct_tn (ct_tl (ct_iload _ _)) (ct_tn (ct_tl (ct_isub _)) (ct_tl (ct_iret))))))) (ct_tn (ct_tn (ct_tn (ct_tn (ct_tl (ct_iinc _ _ _)) (ct_tl (ct_K (ct_goto _)))) (ct_tn (ct_tl (ct_push _ _)) (ct_tn (ct_tl (ct_K (ct_istore _ _))) (ct_tl (ct_iload _ _))))) (ct_tn (ct_tn (ct_tl (ct_iload _ _)) (ct_tn (ct_tl (ct_cge _ _)) (ct_tl (ct_aload _ _)))) (ct_tn (ct_tl (ct_iload _ _)) (ct_tn (ct_tl (ct_iload _ _)) (ct_tl (ct_call _ _ _ _ _ _ _)))))) (ct_tn (ct_tn (ct_tn (ct_tl (ct_ifne _ _)) (ct_tl (ct_push _ _))) (ct_tn (ct_tl (ct_iload _ _)) (ct_tn (ct_tl (ct_isub _)) (ct_tl (ct_iret))))) (ct_tn (ct_tn (ct_tl (ct_iinc _ _ _)) (ct_tn (ct_tl (ct_K (ct_goto _))) (ct_tl (ct_aload _ _)))) (ct_tn (ct_tl (ct_iload _ _)) (ct_tn (ct_tl (ct_call _ _ _ _ _ _ _)) (ct_tl (ct_iret))))))))
def t_G_drafted : Nat → pm_S := (pm_tn 7 (pm_tn 4 (pm_tn 1 (pm_tl 0 (s_aload 0 1)) (pm_tl 1 (s_getR 2 1 4))) (pm_tn 6 (pm_tl 4 (s_push 8 6)) (pm_tl 6 (s_iload 1 7)))) (pm_tn 9 (pm_tn 8 (pm_tl 7 (s_imul 8)) (pm_tl 8 (s_iload 2 9))) (pm_tn 10 (pm_tl 9 (s_iadd 10)) (pm_tn 11 (pm_tl 10 (s_iald 11)) (pm_tl 11 (s_iret))))))
theorem tc_G_drafted : ∀ pc, pm_Ct (t_G_drafted pc) := (ct_tn (ct_tn (ct_tn (ct_tl (ct_aload _ _)) (ct_tl (ct_getR _ _ _))) (ct_tn (ct_tl (ct_push _ _)) (ct_tl (ct_iload _ _)))) (ct_tn (ct_tn (ct_tl (ct_imul _)) (ct_tl (ct_iload _ _))) (ct_tn (ct_tl (ct_iadd _)) (ct_tn (ct_tl (ct_iald _)) (ct_tl (ct_iret))))))
def t_G_draftHasBack : Nat → pm_S := (pm_tn 16 (pm_tn 7 (pm_tn 2 (pm_tn 1 (pm_tl 0 (s_push 0 1)) (pm_tl 1 (s_K 2 [true, true, true, true] (s_istore 3 2)))) (pm_tn 3 (pm_tl 2 (s_iload 3 3)) (pm_tn 4 (pm_tl 3 (s_iload 2 4)) (pm_tl 4 (s_cge 33 7))))) (pm_tn 9 (pm_tn 8 (pm_tl 7 (s_aload 0 8)) (pm_tl 8 (s_iload 1 9))) (pm_tn 10 (pm_tl 9 (s_iload 3 10)) (pm_tn 13 (pm_tl 10 (s_call 15 3 0 2 1 (fun _ => 0) 13)) (pm_tl 13 (s_ifne 27 16)))))) (pm_tn 25 (pm_tn 18 (pm_tn 17 (pm_tl 16 (s_aload 0 17)) (pm_tl 17 (s_iload 3 18))) (pm_tn 19 (pm_tl 18 (s_iload 1 19)) (pm_tn 22 (pm_tl 19 (s_call 15 3 0 2 1 (fun _ => 0) 22)) (pm_tl 22 (s_ifne 27 25))))) (pm_tn 30 (pm_tn 26 (pm_tl 25 (s_push 1 26)) (pm_tn 27 (pm_tl 26 (s_zret)) (pm_tl 27 (s_iinc 3 1 30)))) (pm_tn 33 (pm_tl 30 (s_K 2 [true, true, true, true] (s_goto 2))) (pm_tn 34 (pm_tl 33 (s_push 0 34)) (pm_tl 34 (s_zret)))))))
theorem tc_G_draftHasBack : ∀ pc, pm_Ct (t_G_draftHasBack pc) := (ct_tn (ct_tn (ct_tn (ct_tn (ct_tl (ct_push _ _)) (ct_tl (ct_K (ct_istore _ _)))) (ct_tn (ct_tl (ct_iload _ _)) (ct_tn (ct_tl (ct_iload _ _)) (ct_tl (ct_cge _ _))))) (ct_tn (ct_tn (ct_tl (ct_aload _ _)) (ct_tl (ct_iload _ _))) (ct_tn (ct_tl (ct_iload _ _)) (ct_tn (ct_tl (ct_call _ _ _ _ _ _ _)) (ct_tl (ct_ifne _ _)))))) (ct_tn (ct_tn (ct_tn (ct_tl (ct_aload _ _)) (ct_tl (ct_iload _ _))) (ct_tn (ct_tl (ct_iload _ _)) (ct_tn (ct_tl (ct_call _ _ _ _ _ _ _)) (ct_tl (ct_ifne _ _))))) (ct_tn (ct_tn (ct_tl (ct_push _ _)) (ct_tn (ct_tl (ct_zret)) (ct_tl (ct_iinc _ _ _)))) (ct_tn (ct_tl (ct_K (ct_goto _))) (ct_tn (ct_tl (ct_push _ _)) (ct_tl (ct_zret)))))))
def t_G_draftJoinFault : Nat → pm_S := (pm_tn 38 (pm_tn 17 (pm_tn 8 (pm_tn 3 (pm_tn 1 (pm_tl 0 (s_push 0 1)) (pm_tn 2 (pm_tl 1 (s_K 2 [true, true, true, false, false] (s_istore 2 2))) (pm_tl 2 (s_iload 2 3)))) (pm_tn 4 (pm_tl 3 (s_iload 1 4)) (pm_tn 7 (pm_tl 4 (s_cge 85 7)) (pm_tl 7 (s_push 0 8))))) (pm_tn 11 (pm_tn 9 (pm_tl 8 (s_K 9 [true, true, true, true, false] (s_istore 3 9))) (pm_tn 10 (pm_tl 9 (s_iload 3 10)) (pm_tl 10 (s_iload 1 11)))) (pm_tn 14 (pm_tl 11 (s_cge 79 14)) (pm_tn 15 (pm_tl 14 (s_push 0 15)) (pm_tl 15 (s_K 17 [true, true, true, true, true] (s_istore 4 17))))))) (pm_tn 26 (pm_tn 23 (pm_tn 19 (pm_tl 17 (s_iload 4 19)) (pm_tn 20 (pm_tl 19 (s_iload 1 20)) (pm_tl 20 (s_cge 73 23)))) (pm_tn 24 (pm_tl 23 (s_aload 0 24)) (pm_tn 25 (pm_tl 24 (s_aload 0 25)) (pm_tl 25 (s_iload 2 26))))) (pm_tn 32 (pm_tn 27 (pm_tl 26 (s_iload 3 27)) (pm_tn 30 (pm_tl 27 (s_call 15 3 0 2 1 (fun _ => 0) 30)) (pm_tl 30 (s_iload 4 32)))) (pm_tn 36 (pm_tn 35 (pm_tl 32 (s_call 15 3 0 2 1 (fun _ => 0) 35)) (pm_tl 35 (s_aload 0 36))) (pm_tn 37 (pm_tl 36 (s_iload 2 37)) (pm_tl 37 (s_aload 0 38))))))) (pm_tn 61 (pm_tn 53 (pm_tn 44 (pm_tn 39 (pm_tl 38 (s_iload 3 39)) (pm_tn 41 (pm_tl 39 (s_iload 4 41)) (pm_tl 41 (s_call 15 3 0 2 1 (fun _ => 0) 44)))) (pm_tn 47 (pm_tl 44 (s_call 15 3 0 2 1 (fun _ => 0) 47)) (pm_tn 50 (pm_tl 47 (s_ceq 67 50)) (pm_tl 50 (s_push (-1000) 53))))) (pm_tn 57 (pm_tn 55 (pm_tl 53 (s_push 64 55)) (pm_tn 56 (pm_tl 55 (s_iload 2 56)) (pm_tl 56 (s_imul 57)))) (pm_tn 59 (pm_tl 57 (s_push 8 59)) (pm_tn 60 (pm_tl 59 (s_iload 3 60)) (pm_tl 60 (s_imul 61)))))) (pm_tn 70 (pm_tn 65 (pm_tn 62 (pm_tl 61 (s_iadd 62)) (pm_tn 64 (pm_tl 62 (s_iload 4 64)) (pm_tl 64 (s_iadd 65)))) (pm_tn 66 (pm_tl 65 (s_isub 66)) (pm_tn 67 (pm_tl 66 (s_iret)) (pm_tl 67 (s_iinc 4 1 70))))) (pm_tn 79 (pm_tn 73 (pm_tl 70 (s_K 17 [true, true, true, true, true] (s_goto 17))) (pm_tn 76 (pm_tl 73 (s_iinc 3 1 76)) (pm_tl 76 (s_K 9 [true, true, true, true, false] (s_goto 9))))) (pm_tn 85 (pm_tn 82 (pm_tl 79 (s_iinc 2 1 82)) (pm_tl 82 (s_K 2 [true, true, true, false, false] (s_goto 2)))) (pm_tn 86 (pm_tl 85 (s_push 0 86)) (pm_tl 86 (s_iret))))))))
theorem tc_G_draftJoinFault : ∀ pc, pm_Ct (t_G_draftJoinFault pc) := (ct_tn (ct_tn (ct_tn (ct_tn (ct_tn (ct_tl (ct_push _ _)) (ct_tn (ct_tl (ct_K (ct_istore _ _))) (ct_tl (ct_iload _ _)))) (ct_tn (ct_tl (ct_iload _ _)) (ct_tn (ct_tl (ct_cge _ _)) (ct_tl (ct_push _ _))))) (ct_tn (ct_tn (ct_tl (ct_K (ct_istore _ _))) (ct_tn (ct_tl (ct_iload _ _)) (ct_tl (ct_iload _ _)))) (ct_tn (ct_tl (ct_cge _ _)) (ct_tn (ct_tl (ct_push _ _)) (ct_tl (ct_K (ct_istore _ _))))))) (ct_tn (ct_tn (ct_tn (ct_tl (ct_iload _ _)) (ct_tn (ct_tl (ct_iload _ _)) (ct_tl (ct_cge _ _)))) (ct_tn (ct_tl (ct_aload _ _)) (ct_tn (ct_tl (ct_aload _ _)) (ct_tl (ct_iload _ _))))) (ct_tn (ct_tn (ct_tl (ct_iload _ _)) (ct_tn (ct_tl (ct_call _ _ _ _ _ _ _)) (ct_tl (ct_iload _ _)))) (ct_tn (ct_tn (ct_tl (ct_call _ _ _ _ _ _ _)) (ct_tl (ct_aload _ _))) (ct_tn (ct_tl (ct_iload _ _)) (ct_tl (ct_aload _ _))))))) (ct_tn (ct_tn (ct_tn (ct_tn (ct_tl (ct_iload _ _)) (ct_tn (ct_tl (ct_iload _ _)) (ct_tl (ct_call _ _ _ _ _ _ _)))) (ct_tn (ct_tl (ct_call _ _ _ _ _ _ _)) (ct_tn (ct_tl (ct_ceq _ _)) (ct_tl (ct_push _ _))))) (ct_tn (ct_tn (ct_tl (ct_push _ _)) (ct_tn (ct_tl (ct_iload _ _)) (ct_tl (ct_imul _)))) (ct_tn (ct_tl (ct_push _ _)) (ct_tn (ct_tl (ct_iload _ _)) (ct_tl (ct_imul _)))))) (ct_tn (ct_tn (ct_tn (ct_tl (ct_iadd _)) (ct_tn (ct_tl (ct_iload _ _)) (ct_tl (ct_iadd _)))) (ct_tn (ct_tl (ct_isub _)) (ct_tn (ct_tl (ct_iret)) (ct_tl (ct_iinc _ _ _))))) (ct_tn (ct_tn (ct_tl (ct_K (ct_goto _))) (ct_tn (ct_tl (ct_iinc _ _ _)) (ct_tl (ct_K (ct_goto _))))) (ct_tn (ct_tn (ct_tl (ct_iinc _ _ _)) (ct_tl (ct_K (ct_goto _)))) (ct_tn (ct_tl (ct_push _ _)) (ct_tl (ct_iret))))))))
def t_G_adopt : Nat → pm_S := (pm_tn 37 (pm_tn 19 (pm_tn 9 (pm_tn 2 (pm_tn 1 (pm_tl 0 (s_aload 0 1)) (pm_tl 1 (s_iload 1 2))) (pm_tn 5 (pm_tl 2 (s_putI 2 0 5)) (pm_tn 6 (pm_tl 5 (s_aload 0 6)) (pm_tl 6 (s_getR 2 1 9))))) (pm_tn 14 (pm_tn 10 (pm_tl 9 (s_push 0 10)) (pm_tn 11 (pm_tl 10 (s_aload 0 11)) (pm_tl 11 (s_getR 2 2 14)))) (pm_tn 15 (pm_tl 14 (s_push 0 15)) (pm_tn 16 (pm_tl 15 (s_aload 0 16)) (pm_tl 16 (s_getR 2 1 19)))))) (pm_tn 27 (pm_tn 24 (pm_tn 20 (pm_tl 19 (s_alen 20)) (pm_tn 23 (pm_tl 20 (s_copy 23)) (pm_tl 23 (s_push 0 24)))) (pm_tn 25 (pm_tl 24 (s_K 25 [true, true, true] (s_istore 2 25))) (pm_tn 26 (pm_tl 25 (s_iload 2 26)) (pm_tl 26 (s_iload 1 27))))) (pm_tn 34 (pm_tn 30 (pm_tl 27 (s_cge 54 30)) (pm_tn 31 (pm_tl 30 (s_aload 0 31)) (pm_tl 31 (s_getR 2 5 34)))) (pm_tn 35 (pm_tl 34 (s_iload 2 35)) (pm_tn 36 (pm_tl 35 (s_push 1 36)) (pm_tl 36 (s_iast 37))))))) (pm_tn 57 (pm_tn 47 (pm_tn 42 (pm_tn 38 (pm_tl 37 (s_aload 0 38)) (pm_tn 41 (pm_tl 38 (s_getR 2 3 41)) (pm_tl 41 (s_iload 2 42)))) (pm_tn 43 (pm_tl 42 (s_aload 0 43)) (pm_tn 44 (pm_tl 43 (s_iload 2 44)) (pm_tl 44 (s_call 20 2 1 2 1 (fun _ => 1) 47))))) (pm_tn 54 (pm_tn 48 (pm_tl 47 (s_iast 48)) (pm_tn 51 (pm_tl 48 (s_iinc 2 1 51)) (pm_tl 51 (s_K 25 [true, true, true] (s_goto 25))))) (pm_tn 55 (pm_tl 54 (s_push 0 55)) (pm_tn 56 (pm_tl 55 (s_K 56 [true, true, true] (s_istore 2 56))) (pm_tl 56 (s_iload 2 57)))))) (pm_tn 67 (pm_tn 62 (pm_tn 58 (pm_tl 57 (s_iload 1 58)) (pm_tn 61 (pm_tl 58 (s_cge 78 61)) (pm_tl 61 (s_aload 0 62)))) (pm_tn 65 (pm_tl 62 (s_getR 2 4 65)) (pm_tn 66 (pm_tl 65 (s_iload 2 66)) (pm_tl 66 (s_aload 0 67))))) (pm_tn 72 (pm_tn 68 (pm_tl 67 (s_iload 2 68)) (pm_tn 71 (pm_tl 68 (s_call 21 2 2 2 1 (fun _ => 1) 71)) (pm_tl 71 (s_iast 72)))) (pm_tn 75 (pm_tl 72 (s_iinc 2 1 75)) (pm_tn 78 (pm_tl 75 (s_K 56 [true, true, true] (s_goto 56))) (pm_tl 78 (s_vret))))))))
theorem tc_G_adopt : ∀ pc, pm_Ct (t_G_adopt pc) := (ct_tn (ct_tn (ct_tn (ct_tn (ct_tn (ct_tl (ct_aload _ _)) (ct_tl (ct_iload _ _))) (ct_tn (ct_tl (ct_putI _ _ _)) (ct_tn (ct_tl (ct_aload _ _)) (ct_tl (ct_getR _ _ _))))) (ct_tn (ct_tn (ct_tl (ct_push _ _)) (ct_tn (ct_tl (ct_aload _ _)) (ct_tl (ct_getR _ _ _)))) (ct_tn (ct_tl (ct_push _ _)) (ct_tn (ct_tl (ct_aload _ _)) (ct_tl (ct_getR _ _ _)))))) (ct_tn (ct_tn (ct_tn (ct_tl (ct_alen _)) (ct_tn (ct_tl (ct_copy _)) (ct_tl (ct_push _ _)))) (ct_tn (ct_tl (ct_K (ct_istore _ _))) (ct_tn (ct_tl (ct_iload _ _)) (ct_tl (ct_iload _ _))))) (ct_tn (ct_tn (ct_tl (ct_cge _ _)) (ct_tn (ct_tl (ct_aload _ _)) (ct_tl (ct_getR _ _ _)))) (ct_tn (ct_tl (ct_iload _ _)) (ct_tn (ct_tl (ct_push _ _)) (ct_tl (ct_iast _))))))) (ct_tn (ct_tn (ct_tn (ct_tn (ct_tl (ct_aload _ _)) (ct_tn (ct_tl (ct_getR _ _ _)) (ct_tl (ct_iload _ _)))) (ct_tn (ct_tl (ct_aload _ _)) (ct_tn (ct_tl (ct_iload _ _)) (ct_tl (ct_call _ _ _ _ _ _ _))))) (ct_tn (ct_tn (ct_tl (ct_iast _)) (ct_tn (ct_tl (ct_iinc _ _ _)) (ct_tl (ct_K (ct_goto _))))) (ct_tn (ct_tl (ct_push _ _)) (ct_tn (ct_tl (ct_K (ct_istore _ _))) (ct_tl (ct_iload _ _)))))) (ct_tn (ct_tn (ct_tn (ct_tl (ct_iload _ _)) (ct_tn (ct_tl (ct_cge _ _)) (ct_tl (ct_aload _ _)))) (ct_tn (ct_tl (ct_getR _ _ _)) (ct_tn (ct_tl (ct_iload _ _)) (ct_tl (ct_aload _ _))))) (ct_tn (ct_tn (ct_tl (ct_iload _ _)) (ct_tn (ct_tl (ct_call _ _ _ _ _ _ _)) (ct_tl (ct_iast _)))) (ct_tn (ct_tl (ct_iinc _ _ _)) (ct_tn (ct_tl (ct_K (ct_goto _))) (ct_tl (ct_vret))))))))
def t_G_product : Nat → pm_S := (pm_tn 7 (pm_tn 4 (pm_tn 1 (pm_tl 0 (s_aload 0 1)) (pm_tl 1 (s_getR 2 2 4))) (pm_tn 6 (pm_tl 4 (s_push 8 6)) (pm_tl 6 (s_iload 1 7)))) (pm_tn 9 (pm_tn 8 (pm_tl 7 (s_imul 8)) (pm_tl 8 (s_iload 2 9))) (pm_tn 10 (pm_tl 9 (s_iadd 10)) (pm_tn 11 (pm_tl 10 (s_iald 11)) (pm_tl 11 (s_iret))))))
theorem tc_G_product : ∀ pc, pm_Ct (t_G_product pc) := (ct_tn (ct_tn (ct_tn (ct_tl (ct_aload _ _)) (ct_tl (ct_getR _ _ _))) (ct_tn (ct_tl (ct_push _ _)) (ct_tl (ct_iload _ _)))) (ct_tn (ct_tn (ct_tl (ct_imul _)) (ct_tl (ct_iload _ _))) (ct_tn (ct_tl (ct_iadd _)) (ct_tn (ct_tl (ct_iald _)) (ct_tl (ct_iret))))))
def t_G_findBack : Nat → pm_S := (pm_tn 12 (pm_tn 4 (pm_tn 2 (pm_tn 1 (pm_tl 0 (s_push 0 1)) (pm_tl 1 (s_K 2 [true, true, true] (s_istore 2 2)))) (pm_tn 3 (pm_tl 2 (s_iload 2 3)) (pm_tl 3 (s_aload 0 4)))) (pm_tn 10 (pm_tn 7 (pm_tl 4 (s_getI 2 0 7)) (pm_tl 7 (s_cge 27 10))) (pm_tn 11 (pm_tl 10 (s_aload 0 11)) (pm_tl 11 (s_iload 1 12))))) (pm_tn 20 (pm_tn 16 (pm_tn 13 (pm_tl 12 (s_iload 2 13)) (pm_tl 13 (s_call 19 3 0 2 1 (fun _ => 0) 16))) (pm_tn 19 (pm_tl 16 (s_ifne 21 19)) (pm_tl 19 (s_iload 2 20)))) (pm_tn 24 (pm_tn 21 (pm_tl 20 (s_iret)) (pm_tl 21 (s_iinc 2 1 24))) (pm_tn 27 (pm_tl 24 (s_K 2 [true, true, true] (s_goto 2))) (pm_tn 28 (pm_tl 27 (s_push 0 28)) (pm_tl 28 (s_iret)))))))
theorem tc_G_findBack : ∀ pc, pm_Ct (t_G_findBack pc) := (ct_tn (ct_tn (ct_tn (ct_tn (ct_tl (ct_push _ _)) (ct_tl (ct_K (ct_istore _ _)))) (ct_tn (ct_tl (ct_iload _ _)) (ct_tl (ct_aload _ _)))) (ct_tn (ct_tn (ct_tl (ct_getI _ _ _)) (ct_tl (ct_cge _ _))) (ct_tn (ct_tl (ct_aload _ _)) (ct_tl (ct_iload _ _))))) (ct_tn (ct_tn (ct_tn (ct_tl (ct_iload _ _)) (ct_tl (ct_call _ _ _ _ _ _ _))) (ct_tn (ct_tl (ct_ifne _ _)) (ct_tl (ct_iload _ _)))) (ct_tn (ct_tn (ct_tl (ct_iret)) (ct_tl (ct_iinc _ _ _))) (ct_tn (ct_tl (ct_K (ct_goto _))) (ct_tn (ct_tl (ct_push _ _)) (ct_tl (ct_iret)))))))
def t_G_findClass : Nat → pm_S := (pm_tn 16 (pm_tn 6 (pm_tn 3 (pm_tn 1 (pm_tl 0 (s_iload 1 1)) (pm_tn 2 (pm_tl 1 (s_istore 2 2)) (pm_tl 2 (s_push 0 3)))) (pm_tn 4 (pm_tl 3 (s_K 4 [true, true, true, true] (s_istore 3 4))) (pm_tn 5 (pm_tl 4 (s_iload 3 5)) (pm_tl 5 (s_aload 0 6))))) (pm_tn 13 (pm_tn 9 (pm_tl 6 (s_getI 2 0 9)) (pm_tn 12 (pm_tl 9 (s_cge 39 12)) (pm_tl 12 (s_iload 2 13)))) (pm_tn 14 (pm_tl 13 (s_aload 0 14)) (pm_tn 15 (pm_tl 14 (s_aload 0 15)) (pm_tl 15 (s_iload 3 16)))))) (pm_tn 26 (pm_tn 21 (pm_tn 17 (pm_tl 16 (s_iload 1 17)) (pm_tn 20 (pm_tl 17 (s_call 19 3 0 2 1 (fun _ => 0) 20)) (pm_tl 20 (s_aload 0 21)))) (pm_tn 24 (pm_tl 21 (s_getR 2 3 24)) (pm_tn 25 (pm_tl 24 (s_iload 3 25)) (pm_tl 25 (s_iald 26))))) (pm_tn 33 (pm_tn 29 (pm_tl 26 (s_call 19 3 0 2 1 (fun _ => 0) 29)) (pm_tn 32 (pm_tl 29 (s_min 32)) (pm_tl 32 (s_istore 2 33)))) (pm_tn 39 (pm_tn 36 (pm_tl 33 (s_iinc 3 1 36)) (pm_tl 36 (s_K 4 [true, true, true, true] (s_goto 4)))) (pm_tn 40 (pm_tl 39 (s_iload 2 40)) (pm_tl 40 (s_iret)))))))
theorem tc_G_findClass : ∀ pc, pm_Ct (t_G_findClass pc) := (ct_tn (ct_tn (ct_tn (ct_tn (ct_tl (ct_iload _ _)) (ct_tn (ct_tl (ct_istore _ _)) (ct_tl (ct_push _ _)))) (ct_tn (ct_tl (ct_K (ct_istore _ _))) (ct_tn (ct_tl (ct_iload _ _)) (ct_tl (ct_aload _ _))))) (ct_tn (ct_tn (ct_tl (ct_getI _ _ _)) (ct_tn (ct_tl (ct_cge _ _)) (ct_tl (ct_iload _ _)))) (ct_tn (ct_tl (ct_aload _ _)) (ct_tn (ct_tl (ct_aload _ _)) (ct_tl (ct_iload _ _)))))) (ct_tn (ct_tn (ct_tn (ct_tl (ct_iload _ _)) (ct_tn (ct_tl (ct_call _ _ _ _ _ _ _)) (ct_tl (ct_aload _ _)))) (ct_tn (ct_tl (ct_getR _ _ _)) (ct_tn (ct_tl (ct_iload _ _)) (ct_tl (ct_iald _))))) (ct_tn (ct_tn (ct_tl (ct_call _ _ _ _ _ _ _)) (ct_tn (ct_tl (ct_min _)) (ct_tl (ct_istore _ _)))) (ct_tn (ct_tn (ct_tl (ct_iinc _ _ _)) (ct_tl (ct_K (ct_goto _)))) (ct_tn (ct_tl (ct_iload _ _)) (ct_tl (ct_iret)))))))
def t_G_orderOf : Nat → pm_S := (pm_tn 13 (pm_tn 4 (pm_tn 2 (pm_tn 1 (pm_tl 0 (s_iload 1 1)) (pm_tl 1 (s_istore 2 2))) (pm_tn 3 (pm_tl 2 (s_push 1 3)) (pm_tl 3 (s_K 4 [true, true, true, true] (s_istore 3 4))))) (pm_tn 8 (pm_tn 5 (pm_tl 4 (s_iload 2 5)) (pm_tl 5 (s_ifeq 29 8))) (pm_tn 9 (pm_tl 8 (s_iload 3 9)) (pm_tn 10 (pm_tl 9 (s_aload 0 10)) (pm_tl 10 (s_getI 2 0 13)))))) (pm_tn 22 (pm_tn 17 (pm_tn 16 (pm_tl 13 (s_cge 29 16)) (pm_tl 16 (s_aload 0 17))) (pm_tn 18 (pm_tl 17 (s_iload 2 18)) (pm_tn 19 (pm_tl 18 (s_iload 1 19)) (pm_tl 19 (s_call 19 3 0 2 1 (fun _ => 0) 22))))) (pm_tn 26 (pm_tn 23 (pm_tl 22 (s_istore 2 23)) (pm_tl 23 (s_iinc 3 1 26))) (pm_tn 29 (pm_tl 26 (s_K 4 [true, true, true, true] (s_goto 4))) (pm_tn 30 (pm_tl 29 (s_iload 3 30)) (pm_tl 30 (s_iret)))))))
theorem tc_G_orderOf : ∀ pc, pm_Ct (t_G_orderOf pc) := (ct_tn (ct_tn (ct_tn (ct_tn (ct_tl (ct_iload _ _)) (ct_tl (ct_istore _ _))) (ct_tn (ct_tl (ct_push _ _)) (ct_tl (ct_K (ct_istore _ _))))) (ct_tn (ct_tn (ct_tl (ct_iload _ _)) (ct_tl (ct_ifeq _ _))) (ct_tn (ct_tl (ct_iload _ _)) (ct_tn (ct_tl (ct_aload _ _)) (ct_tl (ct_getI _ _ _)))))) (ct_tn (ct_tn (ct_tn (ct_tl (ct_cge _ _)) (ct_tl (ct_aload _ _))) (ct_tn (ct_tl (ct_iload _ _)) (ct_tn (ct_tl (ct_iload _ _)) (ct_tl (ct_call _ _ _ _ _ _ _))))) (ct_tn (ct_tn (ct_tl (ct_istore _ _)) (ct_tl (ct_iinc _ _ _))) (ct_tn (ct_tl (ct_K (ct_goto _))) (ct_tn (ct_tl (ct_iload _ _)) (ct_tl (ct_iret)))))))
def t_G_classSize : Nat → pm_S := (pm_tn 17 (pm_tn 5 (pm_tn 2 (pm_tn 1 (pm_tl 0 (s_push 0 1)) (pm_tl 1 (s_istore 2 2))) (pm_tn 3 (pm_tl 2 (s_push 0 3)) (pm_tn 4 (pm_tl 3 (s_K 4 [true, true, true, true] (s_istore 3 4))) (pm_tl 4 (s_iload 3 5))))) (pm_tn 12 (pm_tn 6 (pm_tl 5 (s_aload 0 6)) (pm_tn 9 (pm_tl 6 (s_getI 2 0 9)) (pm_tl 9 (s_cge 36 12)))) (pm_tn 13 (pm_tl 12 (s_aload 0 13)) (pm_tn 16 (pm_tl 13 (s_getR 2 4 16)) (pm_tl 16 (s_iload 3 17)))))) (pm_tn 24 (pm_tn 19 (pm_tn 18 (pm_tl 17 (s_iald 18)) (pm_tl 18 (s_aload 0 19))) (pm_tn 22 (pm_tl 19 (s_getR 2 4 22)) (pm_tn 23 (pm_tl 22 (s_iload 1 23)) (pm_tl 23 (s_iald 24))))) (pm_tn 33 (pm_tn 27 (pm_tl 24 (s_cne 30 27)) (pm_tn 30 (pm_tl 27 (s_iinc 2 1 30)) (pm_tl 30 (s_iinc 3 1 33)))) (pm_tn 36 (pm_tl 33 (s_K 4 [true, true, true, true] (s_goto 4))) (pm_tn 37 (pm_tl 36 (s_iload 2 37)) (pm_tl 37 (s_iret)))))))
theorem tc_G_classSize : ∀ pc, pm_Ct (t_G_classSize pc) := (ct_tn (ct_tn (ct_tn (ct_tn (ct_tl (ct_push _ _)) (ct_tl (ct_istore _ _))) (ct_tn (ct_tl (ct_push _ _)) (ct_tn (ct_tl (ct_K (ct_istore _ _))) (ct_tl (ct_iload _ _))))) (ct_tn (ct_tn (ct_tl (ct_aload _ _)) (ct_tn (ct_tl (ct_getI _ _ _)) (ct_tl (ct_cge _ _)))) (ct_tn (ct_tl (ct_aload _ _)) (ct_tn (ct_tl (ct_getR _ _ _)) (ct_tl (ct_iload _ _)))))) (ct_tn (ct_tn (ct_tn (ct_tl (ct_iald _)) (ct_tl (ct_aload _ _))) (ct_tn (ct_tl (ct_getR _ _ _)) (ct_tn (ct_tl (ct_iload _ _)) (ct_tl (ct_iald _))))) (ct_tn (ct_tn (ct_tl (ct_cne _ _)) (ct_tn (ct_tl (ct_iinc _ _ _)) (ct_tl (ct_iinc _ _ _)))) (ct_tn (ct_tl (ct_K (ct_goto _))) (ct_tn (ct_tl (ct_iload _ _)) (ct_tl (ct_iret)))))))
def t_G_classesMany : Nat → pm_S := (pm_tn 13 (pm_tn 4 (pm_tn 2 (pm_tn 1 (pm_tl 0 (s_push 0 1)) (pm_tl 1 (s_istore 1 2))) (pm_tn 3 (pm_tl 2 (s_push 0 3)) (pm_tl 3 (s_K 4 [true, true, true] (s_istore 2 4))))) (pm_tn 6 (pm_tn 5 (pm_tl 4 (s_iload 2 5)) (pm_tl 5 (s_aload 0 6))) (pm_tn 9 (pm_tl 6 (s_getI 2 0 9)) (pm_tn 12 (pm_tl 9 (s_cge 31 12)) (pm_tl 12 (s_aload 0 13)))))) (pm_tn 22 (pm_tn 17 (pm_tn 16 (pm_tl 13 (s_getR 2 4 16)) (pm_tl 16 (s_iload 2 17))) (pm_tn 18 (pm_tl 17 (s_iald 18)) (pm_tn 19 (pm_tl 18 (s_iload 2 19)) (pm_tl 19 (s_cne 25 22))))) (pm_tn 28 (pm_tn 25 (pm_tl 22 (s_iinc 1 1 25)) (pm_tl 25 (s_iinc 2 1 28))) (pm_tn 31 (pm_tl 28 (s_K 4 [true, true, true] (s_goto 4))) (pm_tn 32 (pm_tl 31 (s_iload 1 32)) (pm_tl 32 (s_iret)))))))
theorem tc_G_classesMany : ∀ pc, pm_Ct (t_G_classesMany pc) := (ct_tn (ct_tn (ct_tn (ct_tn (ct_tl (ct_push _ _)) (ct_tl (ct_istore _ _))) (ct_tn (ct_tl (ct_push _ _)) (ct_tl (ct_K (ct_istore _ _))))) (ct_tn (ct_tn (ct_tl (ct_iload _ _)) (ct_tl (ct_aload _ _))) (ct_tn (ct_tl (ct_getI _ _ _)) (ct_tn (ct_tl (ct_cge _ _)) (ct_tl (ct_aload _ _)))))) (ct_tn (ct_tn (ct_tn (ct_tl (ct_getR _ _ _)) (ct_tl (ct_iload _ _))) (ct_tn (ct_tl (ct_iald _)) (ct_tn (ct_tl (ct_iload _ _)) (ct_tl (ct_cne _ _))))) (ct_tn (ct_tn (ct_tl (ct_iinc _ _ _)) (ct_tl (ct_iinc _ _ _))) (ct_tn (ct_tl (ct_K (ct_goto _))) (ct_tn (ct_tl (ct_iload _ _)) (ct_tl (ct_iret)))))))
def t_G_alikeWith : Nat → pm_S := (pm_tn 15 (pm_tn 5 (pm_tn 2 (pm_tn 1 (pm_tl 0 (s_push 0 1)) (pm_tl 1 (s_istore 2 2))) (pm_tn 3 (pm_tl 2 (s_push 0 3)) (pm_tn 4 (pm_tl 3 (s_K 4 [true, true, true, true] (s_istore 3 4))) (pm_tl 4 (s_iload 3 5))))) (pm_tn 12 (pm_tn 6 (pm_tl 5 (s_aload 0 6)) (pm_tn 9 (pm_tl 6 (s_getI 2 0 9)) (pm_tl 9 (s_cge 36 12)))) (pm_tn 13 (pm_tl 12 (s_aload 0 13)) (pm_tn 14 (pm_tl 13 (s_iload 1 14)) (pm_tl 14 (s_iload 3 15)))))) (pm_tn 24 (pm_tn 19 (pm_tn 18 (pm_tl 15 (s_call 19 3 0 2 1 (fun _ => 0) 18)) (pm_tl 18 (s_aload 0 19))) (pm_tn 20 (pm_tl 19 (s_iload 3 20)) (pm_tn 21 (pm_tl 20 (s_iload 1 21)) (pm_tl 21 (s_call 19 3 0 2 1 (fun _ => 0) 24))))) (pm_tn 33 (pm_tn 27 (pm_tl 24 (s_cne 30 27)) (pm_tn 30 (pm_tl 27 (s_iinc 2 1 30)) (pm_tl 30 (s_iinc 3 1 33)))) (pm_tn 36 (pm_tl 33 (s_K 4 [true, true, true, true] (s_goto 4))) (pm_tn 37 (pm_tl 36 (s_iload 2 37)) (pm_tl 37 (s_iret)))))))
theorem tc_G_alikeWith : ∀ pc, pm_Ct (t_G_alikeWith pc) := (ct_tn (ct_tn (ct_tn (ct_tn (ct_tl (ct_push _ _)) (ct_tl (ct_istore _ _))) (ct_tn (ct_tl (ct_push _ _)) (ct_tn (ct_tl (ct_K (ct_istore _ _))) (ct_tl (ct_iload _ _))))) (ct_tn (ct_tn (ct_tl (ct_aload _ _)) (ct_tn (ct_tl (ct_getI _ _ _)) (ct_tl (ct_cge _ _)))) (ct_tn (ct_tl (ct_aload _ _)) (ct_tn (ct_tl (ct_iload _ _)) (ct_tl (ct_iload _ _)))))) (ct_tn (ct_tn (ct_tn (ct_tl (ct_call _ _ _ _ _ _ _)) (ct_tl (ct_aload _ _))) (ct_tn (ct_tl (ct_iload _ _)) (ct_tn (ct_tl (ct_iload _ _)) (ct_tl (ct_call _ _ _ _ _ _ _))))) (ct_tn (ct_tn (ct_tl (ct_cne _ _)) (ct_tn (ct_tl (ct_iinc _ _ _)) (ct_tl (ct_iinc _ _ _)))) (ct_tn (ct_tl (ct_K (ct_goto _))) (ct_tn (ct_tl (ct_iload _ _)) (ct_tl (ct_iret)))))))
def t_G_alikeWithAll : Nat → pm_S := (pm_tn 13 (pm_tn 4 (pm_tn 2 (pm_tn 1 (pm_tl 0 (s_push 0 1)) (pm_tl 1 (s_istore 1 2))) (pm_tn 3 (pm_tl 2 (s_push 0 3)) (pm_tl 3 (s_K 4 [true, true, true] (s_istore 2 4))))) (pm_tn 6 (pm_tn 5 (pm_tl 4 (s_iload 2 5)) (pm_tl 5 (s_aload 0 6))) (pm_tn 9 (pm_tl 6 (s_getI 2 0 9)) (pm_tn 12 (pm_tl 9 (s_cge 33 12)) (pm_tl 12 (s_aload 0 13)))))) (pm_tn 24 (pm_tn 17 (pm_tn 14 (pm_tl 13 (s_iload 2 14)) (pm_tl 14 (s_call 25 2 2 2 1 (fun _ => 1) 17))) (pm_tn 18 (pm_tl 17 (s_aload 0 18)) (pm_tn 21 (pm_tl 18 (s_getI 2 0 21)) (pm_tl 21 (s_cne 27 24))))) (pm_tn 30 (pm_tn 27 (pm_tl 24 (s_iinc 1 1 27)) (pm_tl 27 (s_iinc 2 1 30))) (pm_tn 33 (pm_tl 30 (s_K 4 [true, true, true] (s_goto 4))) (pm_tn 34 (pm_tl 33 (s_iload 1 34)) (pm_tl 34 (s_iret)))))))
theorem tc_G_alikeWithAll : ∀ pc, pm_Ct (t_G_alikeWithAll pc) := (ct_tn (ct_tn (ct_tn (ct_tn (ct_tl (ct_push _ _)) (ct_tl (ct_istore _ _))) (ct_tn (ct_tl (ct_push _ _)) (ct_tl (ct_K (ct_istore _ _))))) (ct_tn (ct_tn (ct_tl (ct_iload _ _)) (ct_tl (ct_aload _ _))) (ct_tn (ct_tl (ct_getI _ _ _)) (ct_tn (ct_tl (ct_cge _ _)) (ct_tl (ct_aload _ _)))))) (ct_tn (ct_tn (ct_tn (ct_tl (ct_iload _ _)) (ct_tl (ct_call _ _ _ _ _ _ _))) (ct_tn (ct_tl (ct_aload _ _)) (ct_tn (ct_tl (ct_getI _ _ _)) (ct_tl (ct_cne _ _))))) (ct_tn (ct_tn (ct_tl (ct_iinc _ _ _)) (ct_tl (ct_iinc _ _ _))) (ct_tn (ct_tl (ct_K (ct_goto _))) (ct_tn (ct_tl (ct_iload _ _)) (ct_tl (ct_iret)))))))
def t_G_alikePairs : Nat → pm_S := (pm_tn 13 (pm_tn 4 (pm_tn 2 (pm_tn 1 (pm_tl 0 (s_push 0 1)) (pm_tl 1 (s_istore 1 2))) (pm_tn 3 (pm_tl 2 (s_push 0 3)) (pm_tl 3 (s_K 4 [true, true, true] (s_istore 2 4))))) (pm_tn 6 (pm_tn 5 (pm_tl 4 (s_iload 2 5)) (pm_tl 5 (s_aload 0 6))) (pm_tn 9 (pm_tl 6 (s_getI 2 0 9)) (pm_tn 12 (pm_tl 9 (s_cge 26 12)) (pm_tl 12 (s_iload 1 13)))))) (pm_tn 19 (pm_tn 15 (pm_tn 14 (pm_tl 13 (s_aload 0 14)) (pm_tl 14 (s_iload 2 15))) (pm_tn 18 (pm_tl 15 (s_call 25 2 2 2 1 (fun _ => 1) 18)) (pm_tl 18 (s_iadd 19)))) (pm_tn 23 (pm_tn 20 (pm_tl 19 (s_istore 1 20)) (pm_tl 20 (s_iinc 2 1 23))) (pm_tn 26 (pm_tl 23 (s_K 4 [true, true, true] (s_goto 4))) (pm_tn 27 (pm_tl 26 (s_iload 1 27)) (pm_tl 27 (s_iret)))))))
theorem tc_G_alikePairs : ∀ pc, pm_Ct (t_G_alikePairs pc) := (ct_tn (ct_tn (ct_tn (ct_tn (ct_tl (ct_push _ _)) (ct_tl (ct_istore _ _))) (ct_tn (ct_tl (ct_push _ _)) (ct_tl (ct_K (ct_istore _ _))))) (ct_tn (ct_tn (ct_tl (ct_iload _ _)) (ct_tl (ct_aload _ _))) (ct_tn (ct_tl (ct_getI _ _ _)) (ct_tn (ct_tl (ct_cge _ _)) (ct_tl (ct_iload _ _)))))) (ct_tn (ct_tn (ct_tn (ct_tl (ct_aload _ _)) (ct_tl (ct_iload _ _))) (ct_tn (ct_tl (ct_call _ _ _ _ _ _ _)) (ct_tl (ct_iadd _)))) (ct_tn (ct_tn (ct_tl (ct_istore _ _)) (ct_tl (ct_iinc _ _ _))) (ct_tn (ct_tl (ct_K (ct_goto _))) (ct_tn (ct_tl (ct_iload _ _)) (ct_tl (ct_iret)))))))
def t_G_giveWorth : Nat → pm_S := (pm_tn 17 (pm_tn 7 (pm_tn 2 (pm_tn 1 (pm_tl 0 (s_push 0 1)) (pm_tl 1 (s_K 2 [true, true, true, true] (s_istore 3 2)))) (pm_tn 3 (pm_tl 2 (s_iload 3 3)) (pm_tn 4 (pm_tl 3 (s_aload 0 4)) (pm_tl 4 (s_getI 2 0 7))))) (pm_tn 14 (pm_tn 10 (pm_tl 7 (s_cge 38 10)) (pm_tn 11 (pm_tl 10 (s_aload 0 11)) (pm_tl 11 (s_getR 2 4 14)))) (pm_tn 15 (pm_tl 14 (s_iload 3 15)) (pm_tn 16 (pm_tl 15 (s_iald 16)) (pm_tl 16 (s_aload 0 17)))))) (pm_tn 29 (pm_tn 22 (pm_tn 20 (pm_tl 17 (s_getR 2 4 20)) (pm_tn 21 (pm_tl 20 (s_iload 1 21)) (pm_tl 21 (s_iald 22)))) (pm_tn 25 (pm_tl 22 (s_cne 32 25)) (pm_tn 26 (pm_tl 25 (s_aload 0 26)) (pm_tl 26 (s_getR 2 5 29))))) (pm_tn 32 (pm_tn 30 (pm_tl 29 (s_iload 3 30)) (pm_tn 31 (pm_tl 30 (s_iload 2 31)) (pm_tl 31 (s_iast 32)))) (pm_tn 35 (pm_tl 32 (s_iinc 3 1 35)) (pm_tn 38 (pm_tl 35 (s_K 2 [true, true, true, true] (s_goto 2))) (pm_tl 38 (s_vret)))))))
theorem tc_G_giveWorth : ∀ pc, pm_Ct (t_G_giveWorth pc) := (ct_tn (ct_tn (ct_tn (ct_tn (ct_tl (ct_push _ _)) (ct_tl (ct_K (ct_istore _ _)))) (ct_tn (ct_tl (ct_iload _ _)) (ct_tn (ct_tl (ct_aload _ _)) (ct_tl (ct_getI _ _ _))))) (ct_tn (ct_tn (ct_tl (ct_cge _ _)) (ct_tn (ct_tl (ct_aload _ _)) (ct_tl (ct_getR _ _ _)))) (ct_tn (ct_tl (ct_iload _ _)) (ct_tn (ct_tl (ct_iald _)) (ct_tl (ct_aload _ _)))))) (ct_tn (ct_tn (ct_tn (ct_tl (ct_getR _ _ _)) (ct_tn (ct_tl (ct_iload _ _)) (ct_tl (ct_iald _)))) (ct_tn (ct_tl (ct_cne _ _)) (ct_tn (ct_tl (ct_aload _ _)) (ct_tl (ct_getR _ _ _))))) (ct_tn (ct_tn (ct_tl (ct_iload _ _)) (ct_tn (ct_tl (ct_iload _ _)) (ct_tl (ct_iast _)))) (ct_tn (ct_tl (ct_iinc _ _ _)) (ct_tn (ct_tl (ct_K (ct_goto _))) (ct_tl (ct_vret)))))))
def t_S_renew : Nat → pm_S := (pm_tn 17 (pm_tn 7 (pm_tn 2 (pm_tn 1 (pm_tl 0 (s_aload 0 1)) (pm_tl 1 (s_push 1 2))) (pm_tn 5 (pm_tl 2 (s_putZ 3 0 5)) (pm_tn 6 (pm_tl 5 (s_aload 0 6)) (pm_tl 6 (s_iload 1 7))))) (pm_tn 12 (pm_tn 10 (pm_tl 7 (s_putI 3 2 10)) (pm_tn 11 (pm_tl 10 (s_aload 0 11)) (pm_tl 11 (s_iload 2 12)))) (pm_tn 15 (pm_tl 12 (s_putI 3 1 15)) (pm_tn 16 (pm_tl 15 (s_push 0 16)) (pm_tl 16 (s_K 17 [true, false, false, true] (s_istore 3 17))))))) (pm_tn 27 (pm_tn 20 (pm_tn 18 (pm_tl 17 (s_iload 3 18)) (pm_tl 18 (s_push 64 20))) (pm_tn 23 (pm_tl 20 (s_cge 36 23)) (pm_tn 24 (pm_tl 23 (s_aload 0 24)) (pm_tl 24 (s_getR 3 3 27))))) (pm_tn 30 (pm_tn 28 (pm_tl 27 (s_iload 3 28)) (pm_tn 29 (pm_tl 28 (s_push 0 29)) (pm_tl 29 (s_iast 30)))) (pm_tn 33 (pm_tl 30 (s_iinc 3 1 33)) (pm_tn 36 (pm_tl 33 (s_K 17 [true, false, false, true] (s_goto 17))) (pm_tl 36 (s_vret)))))))
theorem tc_S_renew : ∀ pc, pm_Ct (t_S_renew pc) := (ct_tn (ct_tn (ct_tn (ct_tn (ct_tl (ct_aload _ _)) (ct_tl (ct_push _ _))) (ct_tn (ct_tl (ct_putZ _ _ _)) (ct_tn (ct_tl (ct_aload _ _)) (ct_tl (ct_iload _ _))))) (ct_tn (ct_tn (ct_tl (ct_putI _ _ _)) (ct_tn (ct_tl (ct_aload _ _)) (ct_tl (ct_iload _ _)))) (ct_tn (ct_tl (ct_putI _ _ _)) (ct_tn (ct_tl (ct_push _ _)) (ct_tl (ct_K (ct_istore _ _))))))) (ct_tn (ct_tn (ct_tn (ct_tl (ct_iload _ _)) (ct_tl (ct_push _ _))) (ct_tn (ct_tl (ct_cge _ _)) (ct_tn (ct_tl (ct_aload _ _)) (ct_tl (ct_getR _ _ _))))) (ct_tn (ct_tn (ct_tl (ct_iload _ _)) (ct_tn (ct_tl (ct_push _ _)) (ct_tl (ct_iast _)))) (ct_tn (ct_tl (ct_iinc _ _ _)) (ct_tn (ct_tl (ct_K (ct_goto _))) (ct_tl (ct_vret)))))))
def t_S_hasCell : Nat → pm_S := (pm_tn 9 (pm_tn 4 (pm_tn 1 (pm_tl 0 (s_iload 1 1)) (pm_tl 1 (s_iflt 16 4))) (pm_tn 5 (pm_tl 4 (s_iload 1 5)) (pm_tn 6 (pm_tl 5 (s_aload 0 6)) (pm_tl 6 (s_getI 3 1 9))))) (pm_tn 13 (pm_tn 12 (pm_tl 9 (s_cge 16 12)) (pm_tl 12 (s_push 1 13))) (pm_tn 16 (pm_tl 13 (s_goto 17)) (pm_tn 17 (pm_tl 16 (s_push 0 17)) (pm_tl 17 (s_zret))))))
theorem tc_S_hasCell : ∀ pc, pm_Ct (t_S_hasCell pc) := (ct_tn (ct_tn (ct_tn (ct_tl (ct_iload _ _)) (ct_tl (ct_iflt _ _))) (ct_tn (ct_tl (ct_iload _ _)) (ct_tn (ct_tl (ct_aload _ _)) (ct_tl (ct_getI _ _ _))))) (ct_tn (ct_tn (ct_tl (ct_cge _ _)) (ct_tl (ct_push _ _))) (ct_tn (ct_tl (ct_goto _)) (ct_tn (ct_tl (ct_push _ _)) (ct_tl (ct_zret))))))
def t_S_faultAs : Nat → pm_S := (pm_tn 11 (pm_tn 7 (pm_tn 1 (pm_tl 0 (s_aload 0 1)) (pm_tn 4 (pm_tl 1 (s_getI 3 0 4)) (pm_tl 4 (s_ifne 10 7)))) (pm_tn 9 (pm_tl 7 (s_push (-11) 9)) (pm_tn 10 (pm_tl 9 (s_iret)) (pm_tl 10 (s_aload 0 11))))) (pm_tn 18 (pm_tn 14 (pm_tl 11 (s_getI 3 2 14)) (pm_tn 15 (pm_tl 14 (s_iload 1 15)) (pm_tl 15 (s_cne 22 18)))) (pm_tn 22 (pm_tn 19 (pm_tl 18 (s_push 0 19)) (pm_tl 19 (s_goto 24))) (pm_tn 24 (pm_tl 22 (s_push (-13) 24)) (pm_tl 24 (s_iret))))))
theorem tc_S_faultAs : ∀ pc, pm_Ct (t_S_faultAs pc) := (ct_tn (ct_tn (ct_tn (ct_tl (ct_aload _ _)) (ct_tn (ct_tl (ct_getI _ _ _)) (ct_tl (ct_ifne _ _)))) (ct_tn (ct_tl (ct_push _ _)) (ct_tn (ct_tl (ct_iret)) (ct_tl (ct_aload _ _))))) (ct_tn (ct_tn (ct_tl (ct_getI _ _ _)) (ct_tn (ct_tl (ct_iload _ _)) (ct_tl (ct_cne _ _)))) (ct_tn (ct_tn (ct_tl (ct_push _ _)) (ct_tl (ct_goto _))) (ct_tn (ct_tl (ct_push _ _)) (ct_tl (ct_iret))))))
def t_S_put : Nat → pm_S := (pm_tn 23 (pm_tn 12 (pm_tn 7 (pm_tn 1 (pm_tl 0 (s_aload 0 1)) (pm_tn 4 (pm_tl 1 (s_getI 3 2 4)) (pm_tl 4 (s_ifne 18 7)))) (pm_tn 8 (pm_tl 7 (s_aload 0 8)) (pm_tn 11 (pm_tl 8 (s_getR 3 3 11)) (pm_tl 11 (s_iload 1 12))))) (pm_tn 15 (pm_tn 13 (pm_tl 12 (s_iload 2 13)) (pm_tn 14 (pm_tl 13 (s_i2b 14)) (pm_tl 14 (s_iast 15)))) (pm_tn 19 (pm_tn 18 (pm_tl 15 (s_goto 44)) (pm_tl 18 (s_aload 0 19))) (pm_tn 22 (pm_tl 19 (s_getI 3 2 22)) (pm_tl 22 (s_push 1 23)))))) (pm_tn 34 (pm_tn 30 (pm_tn 26 (pm_tl 23 (s_cne 37 26)) (pm_tn 27 (pm_tl 26 (s_aload 0 27)) (pm_tl 27 (s_getR 3 3 30)))) (pm_tn 32 (pm_tn 31 (pm_tl 30 (s_iload 1 31)) (pm_tl 31 (s_iload 2 32))) (pm_tn 33 (pm_tl 32 (s_i2s 33)) (pm_tl 33 (s_iast 34))))) (pm_tn 41 (pm_tn 37 (pm_tl 34 (s_goto 44)) (pm_tn 38 (pm_tl 37 (s_aload 0 38)) (pm_tl 38 (s_getR 3 3 41)))) (pm_tn 43 (pm_tn 42 (pm_tl 41 (s_iload 1 42)) (pm_tl 42 (s_iload 2 43))) (pm_tn 44 (pm_tl 43 (s_iast 44)) (pm_tl 44 (s_vret)))))))
theorem tc_S_put : ∀ pc, pm_Ct (t_S_put pc) := (ct_tn (ct_tn (ct_tn (ct_tn (ct_tl (ct_aload _ _)) (ct_tn (ct_tl (ct_getI _ _ _)) (ct_tl (ct_ifne _ _)))) (ct_tn (ct_tl (ct_aload _ _)) (ct_tn (ct_tl (ct_getR _ _ _)) (ct_tl (ct_iload _ _))))) (ct_tn (ct_tn (ct_tl (ct_iload _ _)) (ct_tn (ct_tl (ct_i2b _)) (ct_tl (ct_iast _)))) (ct_tn (ct_tn (ct_tl (ct_goto _)) (ct_tl (ct_aload _ _))) (ct_tn (ct_tl (ct_getI _ _ _)) (ct_tl (ct_push _ _)))))) (ct_tn (ct_tn (ct_tn (ct_tl (ct_cne _ _)) (ct_tn (ct_tl (ct_aload _ _)) (ct_tl (ct_getR _ _ _)))) (ct_tn (ct_tn (ct_tl (ct_iload _ _)) (ct_tl (ct_iload _ _))) (ct_tn (ct_tl (ct_i2s _)) (ct_tl (ct_iast _))))) (ct_tn (ct_tn (ct_tl (ct_goto _)) (ct_tn (ct_tl (ct_aload _ _)) (ct_tl (ct_getR _ _ _)))) (ct_tn (ct_tn (ct_tl (ct_iload _ _)) (ct_tl (ct_iload _ _))) (ct_tn (ct_tl (ct_iast _)) (ct_tl (ct_vret)))))))
def t_U_clear : Nat → pm_S := (pm_tn 18 (pm_tn 9 (pm_tn 3 (pm_tn 1 (pm_tl 0 (s_push 0 1)) (pm_tn 2 (pm_tl 1 (s_K 2 [true, true, false] (s_istore 1 2))) (pm_tl 2 (s_iload 1 3)))) (pm_tn 5 (pm_tl 3 (s_push 8 5)) (pm_tn 8 (pm_tl 5 (s_cge 44 8)) (pm_tl 8 (s_aload 0 9))))) (pm_tn 14 (pm_tn 12 (pm_tl 9 (s_getR 4 0 12)) (pm_tn 13 (pm_tl 12 (s_iload 1 13)) (pm_tl 13 (s_push 0 14)))) (pm_tn 16 (pm_tn 15 (pm_tl 14 (s_zast 15)) (pm_tl 15 (s_push 0 16))) (pm_tn 17 (pm_tl 16 (s_K 17 [true, true, true] (s_istore 2 17))) (pm_tl 17 (s_iload 2 18)))))) (pm_tn 30 (pm_tn 24 (pm_tn 20 (pm_tl 18 (s_push 8 20)) (pm_tn 23 (pm_tl 20 (s_cge 38 23)) (pm_tl 23 (s_aload 0 24)))) (pm_tn 28 (pm_tn 27 (pm_tl 24 (s_getR 4 1 27)) (pm_tl 27 (s_iload 1 28))) (pm_tn 29 (pm_tl 28 (s_aald 29)) (pm_tl 29 (s_iload 2 30))))) (pm_tn 35 (pm_tn 31 (pm_tl 30 (s_push 1 31)) (pm_tn 32 (pm_tl 31 (s_iast 32)) (pm_tl 32 (s_iinc 2 1 35)))) (pm_tn 41 (pm_tn 38 (pm_tl 35 (s_K 17 [true, true, true] (s_goto 17))) (pm_tl 38 (s_iinc 1 1 41))) (pm_tn 44 (pm_tl 41 (s_K 2 [true, true, false] (s_goto 2))) (pm_tl 44 (s_vret)))))))
theorem tc_U_clear : ∀ pc, pm_Ct (t_U_clear pc) := (ct_tn (ct_tn (ct_tn (ct_tn (ct_tl (ct_push _ _)) (ct_tn (ct_tl (ct_K (ct_istore _ _))) (ct_tl (ct_iload _ _)))) (ct_tn (ct_tl (ct_push _ _)) (ct_tn (ct_tl (ct_cge _ _)) (ct_tl (ct_aload _ _))))) (ct_tn (ct_tn (ct_tl (ct_getR _ _ _)) (ct_tn (ct_tl (ct_iload _ _)) (ct_tl (ct_push _ _)))) (ct_tn (ct_tn (ct_tl (ct_zast _)) (ct_tl (ct_push _ _))) (ct_tn (ct_tl (ct_K (ct_istore _ _))) (ct_tl (ct_iload _ _)))))) (ct_tn (ct_tn (ct_tn (ct_tl (ct_push _ _)) (ct_tn (ct_tl (ct_cge _ _)) (ct_tl (ct_aload _ _)))) (ct_tn (ct_tn (ct_tl (ct_getR _ _ _)) (ct_tl (ct_iload _ _))) (ct_tn (ct_tl (ct_aald _)) (ct_tl (ct_iload _ _))))) (ct_tn (ct_tn (ct_tl (ct_push _ _)) (ct_tn (ct_tl (ct_iast _)) (ct_tl (ct_iinc _ _ _)))) (ct_tn (ct_tn (ct_tl (ct_K (ct_goto _))) (ct_tl (ct_iinc _ _ _))) (ct_tn (ct_tl (ct_K (ct_goto _))) (ct_tl (ct_vret)))))))
def t_U_lookForWorth : Nat → pm_S := (pm_tn 18 (pm_tn 8 (pm_tn 5 (pm_tn 1 (pm_tl 0 (s_aload 0 1)) (pm_tn 4 (pm_tl 1 (s_getR 4 0 4)) (pm_tl 4 (s_iload 1 5)))) (pm_tn 6 (pm_tl 5 (s_push 1 6)) (pm_tn 7 (pm_tl 6 (s_zast 7)) (pm_tl 7 (s_push 0 8))))) (pm_tn 11 (pm_tn 9 (pm_tl 8 (s_K 9 [true, true, true, true] (s_istore 3 9))) (pm_tn 10 (pm_tl 9 (s_iload 3 10)) (pm_tl 10 (s_aload 2 11)))) (pm_tn 14 (pm_tl 11 (s_getI 2 0 14)) (pm_tn 17 (pm_tl 14 (s_cge 37 17)) (pm_tl 17 (s_aload 0 18)))))) (pm_tn 28 (pm_tn 23 (pm_tn 21 (pm_tl 18 (s_getR 4 1 21)) (pm_tn 22 (pm_tl 21 (s_iload 1 22)) (pm_tl 22 (s_aald 23)))) (pm_tn 24 (pm_tl 23 (s_iload 3 24)) (pm_tn 25 (pm_tl 24 (s_aload 2 25)) (pm_tl 25 (s_getR 2 5 28))))) (pm_tn 31 (pm_tn 29 (pm_tl 28 (s_iload 3 29)) (pm_tn 30 (pm_tl 29 (s_iald 30)) (pm_tl 30 (s_iast 31)))) (pm_tn 34 (pm_tl 31 (s_iinc 3 1 34)) (pm_tn 37 (pm_tl 34 (s_K 9 [true, true, true, true] (s_goto 9))) (pm_tl 37 (s_vret)))))))
theorem tc_U_lookForWorth : ∀ pc, pm_Ct (t_U_lookForWorth pc) := (ct_tn (ct_tn (ct_tn (ct_tn (ct_tl (ct_aload _ _)) (ct_tn (ct_tl (ct_getR _ _ _)) (ct_tl (ct_iload _ _)))) (ct_tn (ct_tl (ct_push _ _)) (ct_tn (ct_tl (ct_zast _)) (ct_tl (ct_push _ _))))) (ct_tn (ct_tn (ct_tl (ct_K (ct_istore _ _))) (ct_tn (ct_tl (ct_iload _ _)) (ct_tl (ct_aload _ _)))) (ct_tn (ct_tl (ct_getI _ _ _)) (ct_tn (ct_tl (ct_cge _ _)) (ct_tl (ct_aload _ _)))))) (ct_tn (ct_tn (ct_tn (ct_tl (ct_getR _ _ _)) (ct_tn (ct_tl (ct_iload _ _)) (ct_tl (ct_aald _)))) (ct_tn (ct_tl (ct_iload _ _)) (ct_tn (ct_tl (ct_aload _ _)) (ct_tl (ct_getR _ _ _))))) (ct_tn (ct_tn (ct_tl (ct_iload _ _)) (ct_tn (ct_tl (ct_iald _)) (ct_tl (ct_iast _)))) (ct_tn (ct_tl (ct_iinc _ _ _)) (ct_tn (ct_tl (ct_K (ct_goto _))) (ct_tl (ct_vret)))))))
def t_U_lookForClass : Nat → pm_S := (pm_tn 26 (pm_tn 10 (pm_tn 5 (pm_tn 1 (pm_tl 0 (s_aload 0 1)) (pm_tn 4 (pm_tl 1 (s_getR 4 0 4)) (pm_tl 4 (s_iload 1 5)))) (pm_tn 7 (pm_tn 6 (pm_tl 5 (s_push 1 6)) (pm_tl 6 (s_zast 7))) (pm_tn 8 (pm_tl 7 (s_push 0 8)) (pm_tl 8 (s_K 10 [true, true, true, true, true] (s_istore 4 10)))))) (pm_tn 19 (pm_tn 13 (pm_tn 12 (pm_tl 10 (s_iload 4 12)) (pm_tl 12 (s_aload 3 13))) (pm_tn 16 (pm_tl 13 (s_getI 2 0 16)) (pm_tl 16 (s_cge 51 19)))) (pm_tn 23 (pm_tn 20 (pm_tl 19 (s_aload 3 20)) (pm_tl 20 (s_getR 2 4 23))) (pm_tn 25 (pm_tl 23 (s_iload 4 25)) (pm_tl 25 (s_iald 26)))))) (pm_tn 39 (pm_tn 31 (pm_tn 27 (pm_tl 26 (s_aload 3 27)) (pm_tn 30 (pm_tl 27 (s_getR 2 4 30)) (pm_tl 30 (s_iload 2 31)))) (pm_tn 35 (pm_tn 32 (pm_tl 31 (s_iald 32)) (pm_tl 32 (s_ceq 45 35))) (pm_tn 36 (pm_tl 35 (s_aload 0 36)) (pm_tl 36 (s_getR 4 1 39))))) (pm_tn 44 (pm_tn 41 (pm_tn 40 (pm_tl 39 (s_iload 1 40)) (pm_tl 40 (s_aald 41))) (pm_tn 43 (pm_tl 41 (s_iload 4 43)) (pm_tl 43 (s_push 0 44)))) (pm_tn 48 (pm_tn 45 (pm_tl 44 (s_iast 45)) (pm_tl 45 (s_iinc 4 1 48))) (pm_tn 51 (pm_tl 48 (s_K 10 [true, true, true, true, true] (s_goto 10))) (pm_tl 51 (s_vret)))))))
theorem tc_U_lookForClass : ∀ pc, pm_Ct (t_U_lookForClass pc) := (ct_tn (ct_tn (ct_tn (ct_tn (ct_tl (ct_aload _ _)) (ct_tn (ct_tl (ct_getR _ _ _)) (ct_tl (ct_iload _ _)))) (ct_tn (ct_tn (ct_tl (ct_push _ _)) (ct_tl (ct_zast _))) (ct_tn (ct_tl (ct_push _ _)) (ct_tl (ct_K (ct_istore _ _)))))) (ct_tn (ct_tn (ct_tn (ct_tl (ct_iload _ _)) (ct_tl (ct_aload _ _))) (ct_tn (ct_tl (ct_getI _ _ _)) (ct_tl (ct_cge _ _)))) (ct_tn (ct_tn (ct_tl (ct_aload _ _)) (ct_tl (ct_getR _ _ _))) (ct_tn (ct_tl (ct_iload _ _)) (ct_tl (ct_iald _)))))) (ct_tn (ct_tn (ct_tn (ct_tl (ct_aload _ _)) (ct_tn (ct_tl (ct_getR _ _ _)) (ct_tl (ct_iload _ _)))) (ct_tn (ct_tn (ct_tl (ct_iald _)) (ct_tl (ct_ceq _ _))) (ct_tn (ct_tl (ct_aload _ _)) (ct_tl (ct_getR _ _ _))))) (ct_tn (ct_tn (ct_tn (ct_tl (ct_iload _ _)) (ct_tl (ct_aald _))) (ct_tn (ct_tl (ct_iload _ _)) (ct_tl (ct_push _ _)))) (ct_tn (ct_tn (ct_tl (ct_iast _)) (ct_tl (ct_iinc _ _ _))) (ct_tn (ct_tl (ct_K (ct_goto _))) (ct_tl (ct_vret)))))))
def t_U_lookForStill : Nat → pm_S := (pm_tn 15 (pm_tn 7 (pm_tn 4 (pm_tn 1 (pm_tl 0 (s_aload 0 1)) (pm_tl 1 (s_getR 4 0 4))) (pm_tn 5 (pm_tl 4 (s_iload 1 5)) (pm_tn 6 (pm_tl 5 (s_push 1 6)) (pm_tl 6 (s_zast 7))))) (pm_tn 9 (pm_tn 8 (pm_tl 7 (s_push 1 8)) (pm_tl 8 (s_K 9 [true, true, true] (s_istore 2 9)))) (pm_tn 10 (pm_tl 9 (s_iload 2 10)) (pm_tn 12 (pm_tl 10 (s_push 8 12)) (pm_tl 12 (s_cge 30 15)))))) (pm_tn 22 (pm_tn 19 (pm_tn 16 (pm_tl 15 (s_aload 0 16)) (pm_tl 16 (s_getR 4 1 19))) (pm_tn 20 (pm_tl 19 (s_iload 1 20)) (pm_tn 21 (pm_tl 20 (s_aald 21)) (pm_tl 21 (s_iload 2 22))))) (pm_tn 24 (pm_tn 23 (pm_tl 22 (s_push 0 23)) (pm_tl 23 (s_iast 24))) (pm_tn 27 (pm_tl 24 (s_iinc 2 1 27)) (pm_tn 30 (pm_tl 27 (s_K 9 [true, true, true] (s_goto 9))) (pm_tl 30 (s_vret)))))))
theorem tc_U_lookForStill : ∀ pc, pm_Ct (t_U_lookForStill pc) := (ct_tn (ct_tn (ct_tn (ct_tn (ct_tl (ct_aload _ _)) (ct_tl (ct_getR _ _ _))) (ct_tn (ct_tl (ct_iload _ _)) (ct_tn (ct_tl (ct_push _ _)) (ct_tl (ct_zast _))))) (ct_tn (ct_tn (ct_tl (ct_push _ _)) (ct_tl (ct_K (ct_istore _ _)))) (ct_tn (ct_tl (ct_iload _ _)) (ct_tn (ct_tl (ct_push _ _)) (ct_tl (ct_cge _ _)))))) (ct_tn (ct_tn (ct_tn (ct_tl (ct_aload _ _)) (ct_tl (ct_getR _ _ _))) (ct_tn (ct_tl (ct_iload _ _)) (ct_tn (ct_tl (ct_aald _)) (ct_tl (ct_iload _ _))))) (ct_tn (ct_tn (ct_tl (ct_push _ _)) (ct_tl (ct_iast _))) (ct_tn (ct_tl (ct_iinc _ _ _)) (ct_tn (ct_tl (ct_K (ct_goto _))) (ct_tl (ct_vret)))))))
def t_U_markLines : Nat → pm_S := (pm_tn 47 (pm_tn 23 (pm_tn 12 (pm_tn 3 (pm_tn 1 (pm_tl 0 (s_push 0 1)) (pm_tn 2 (pm_tl 1 (s_K 2 [true, true, true, true] (s_istore 3 2))) (pm_tl 2 (s_iload 3 3)))) (pm_tn 8 (pm_tn 5 (pm_tl 3 (s_push 10 5)) (pm_tl 5 (s_cge 21 8))) (pm_tn 9 (pm_tl 8 (s_aload 0 9)) (pm_tl 9 (s_getR 4 3 12))))) (pm_tn 15 (pm_tn 13 (pm_tl 12 (s_iload 3 13)) (pm_tn 14 (pm_tl 13 (s_push 0 14)) (pm_tl 14 (s_zast 15)))) (pm_tn 21 (pm_tn 18 (pm_tl 15 (s_iinc 3 1 18)) (pm_tl 18 (s_K 2 [true, true, true, true] (s_goto 2)))) (pm_tn 22 (pm_tl 21 (s_push 0 22)) (pm_tl 22 (s_K 23 [true, true, true, true] (s_istore 3 23))))))) (pm_tn 35 (pm_tn 29 (pm_tn 24 (pm_tl 23 (s_iload 3 24)) (pm_tn 26 (pm_tl 24 (s_push 8 26)) (pm_tl 26 (s_cge 60 29)))) (pm_tn 33 (pm_tn 30 (pm_tl 29 (s_aload 0 30)) (pm_tl 30 (s_getR 4 0 33))) (pm_tn 34 (pm_tl 33 (s_iload 3 34)) (pm_tl 34 (s_zald 35))))) (pm_tn 43 (pm_tn 39 (pm_tn 38 (pm_tl 35 (s_ifeq 54 38)) (pm_tl 38 (s_aload 0 39))) (pm_tn 42 (pm_tl 39 (s_getR 4 2 42)) (pm_tl 42 (s_iload 3 43)))) (pm_tn 45 (pm_tn 44 (pm_tl 43 (s_aload 1 44)) (pm_tl 44 (s_iload 3 45))) (pm_tn 46 (pm_tl 45 (s_aald 46)) (pm_tl 46 (s_aload 0 47))))))) (pm_tn 77 (pm_tn 62 (pm_tn 54 (pm_tn 50 (pm_tl 47 (s_getR 4 3 50)) (pm_tn 53 (pm_tl 50 (s_call 45 2 2 5 1 (fun _ => 1) 53)) (pm_tl 53 (s_iast 54)))) (pm_tn 60 (pm_tn 57 (pm_tl 54 (s_iinc 3 1 57)) (pm_tl 57 (s_K 23 [true, true, true, true] (s_goto 23)))) (pm_tn 61 (pm_tl 60 (s_push 0 61)) (pm_tl 61 (s_K 62 [true, false, true, true] (s_istore 3 62)))))) (pm_tn 69 (pm_tn 65 (pm_tn 63 (pm_tl 62 (s_iload 3 63)) (pm_tl 63 (s_push 10 65))) (pm_tn 68 (pm_tl 65 (s_cge 103 68)) (pm_tl 68 (s_aload 0 69)))) (pm_tn 73 (pm_tn 72 (pm_tl 69 (s_getR 4 4 72)) (pm_tl 72 (s_iload 3 73))) (pm_tn 74 (pm_tl 73 (s_aload 2 74)) (pm_tl 74 (s_getR 1 6 77)))))) (pm_tn 88 (pm_tn 82 (pm_tn 78 (pm_tl 77 (s_iload 3 78)) (pm_tn 79 (pm_tl 78 (s_zald 79)) (pm_tl 79 (s_ifne 91 82)))) (pm_tn 86 (pm_tn 83 (pm_tl 82 (s_aload 0 83)) (pm_tl 83 (s_getR 4 3 86))) (pm_tn 87 (pm_tl 86 (s_iload 3 87)) (pm_tl 87 (s_zald 88))))) (pm_tn 96 (pm_tn 92 (pm_tn 91 (pm_tl 88 (s_ifne 95 91)) (pm_tl 91 (s_push 1 92))) (pm_tn 95 (pm_tl 92 (s_goto 96)) (pm_tl 95 (s_push 0 96)))) (pm_tn 100 (pm_tn 97 (pm_tl 96 (s_zast 97)) (pm_tl 97 (s_iinc 3 1 100))) (pm_tn 103 (pm_tl 100 (s_K 62 [true, false, true, true] (s_goto 62))) (pm_tl 103 (s_vret))))))))
theorem tc_U_markLines : ∀ pc, pm_Ct (t_U_markLines pc) := (ct_tn (ct_tn (ct_tn (ct_tn (ct_tn (ct_tl (ct_push _ _)) (ct_tn (ct_tl (ct_K (ct_istore _ _))) (ct_tl (ct_iload _ _)))) (ct_tn (ct_tn (ct_tl (ct_push _ _)) (ct_tl (ct_cge _ _))) (ct_tn (ct_tl (ct_aload _ _)) (ct_tl (ct_getR _ _ _))))) (ct_tn (ct_tn (ct_tl (ct_iload _ _)) (ct_tn (ct_tl (ct_push _ _)) (ct_tl (ct_zast _)))) (ct_tn (ct_tn (ct_tl (ct_iinc _ _ _)) (ct_tl (ct_K (ct_goto _)))) (ct_tn (ct_tl (ct_push _ _)) (ct_tl (ct_K (ct_istore _ _))))))) (ct_tn (ct_tn (ct_tn (ct_tl (ct_iload _ _)) (ct_tn (ct_tl (ct_push _ _)) (ct_tl (ct_cge _ _)))) (ct_tn (ct_tn (ct_tl (ct_aload _ _)) (ct_tl (ct_getR _ _ _))) (ct_tn (ct_tl (ct_iload _ _)) (ct_tl (ct_zald _))))) (ct_tn (ct_tn (ct_tn (ct_tl (ct_ifeq _ _)) (ct_tl (ct_aload _ _))) (ct_tn (ct_tl (ct_getR _ _ _)) (ct_tl (ct_iload _ _)))) (ct_tn (ct_tn (ct_tl (ct_aload _ _)) (ct_tl (ct_iload _ _))) (ct_tn (ct_tl (ct_aald _)) (ct_tl (ct_aload _ _))))))) (ct_tn (ct_tn (ct_tn (ct_tn (ct_tl (ct_getR _ _ _)) (ct_tn (ct_tl (ct_call _ _ _ _ _ _ _)) (ct_tl (ct_iast _)))) (ct_tn (ct_tn (ct_tl (ct_iinc _ _ _)) (ct_tl (ct_K (ct_goto _)))) (ct_tn (ct_tl (ct_push _ _)) (ct_tl (ct_K (ct_istore _ _)))))) (ct_tn (ct_tn (ct_tn (ct_tl (ct_iload _ _)) (ct_tl (ct_push _ _))) (ct_tn (ct_tl (ct_cge _ _)) (ct_tl (ct_aload _ _)))) (ct_tn (ct_tn (ct_tl (ct_getR _ _ _)) (ct_tl (ct_iload _ _))) (ct_tn (ct_tl (ct_aload _ _)) (ct_tl (ct_getR _ _ _)))))) (ct_tn (ct_tn (ct_tn (ct_tl (ct_iload _ _)) (ct_tn (ct_tl (ct_zald _)) (ct_tl (ct_ifne _ _)))) (ct_tn (ct_tn (ct_tl (ct_aload _ _)) (ct_tl (ct_getR _ _ _))) (ct_tn (ct_tl (ct_iload _ _)) (ct_tl (ct_zald _))))) (ct_tn (ct_tn (ct_tn (ct_tl (ct_ifne _ _)) (ct_tl (ct_push _ _))) (ct_tn (ct_tl (ct_goto _)) (ct_tl (ct_push _ _)))) (ct_tn (ct_tn (ct_tl (ct_zast _)) (ct_tl (ct_iinc _ _ _))) (ct_tn (ct_tl (ct_K (ct_goto _))) (ct_tl (ct_vret))))))))
def t_U_sumFrom : Nat → pm_S := (pm_tn 60 (pm_tn 32 (pm_tn 14 (pm_tn 7 (pm_tn 3 (pm_tn 1 (pm_tl 0 (s_iload 0 1)) (pm_tl 1 (s_iload 5 3))) (pm_tn 6 (pm_tl 3 (s_cge 12 6)) (pm_tl 6 (s_iload 0 7)))) (pm_tn 12 (pm_tn 9 (pm_tl 7 (s_push 10 9)) (pm_tl 9 (s_clt 14 12))) (pm_tn 13 (pm_tl 12 (s_lload 1 13)) (pm_tl 13 (s_lret))))) (pm_tn 20 (pm_tn 18 (pm_tn 15 (pm_tl 14 (s_aload 3 15)) (pm_tl 15 (s_getR 4 4 18))) (pm_tn 19 (pm_tl 18 (s_iload 0 19)) (pm_tl 19 (s_zald 20)))) (pm_tn 24 (pm_tn 23 (pm_tl 20 (s_ifeq 27 23)) (pm_tl 23 (s_push 1 24))) (pm_tn 27 (pm_tl 24 (s_goto 32)) (pm_tn 29 (pm_tl 27 (s_aload 6 29)) (pm_tl 29 (s_getI 2 0 32))))))) (pm_tn 47 (pm_tn 38 (pm_tn 35 (pm_tn 34 (pm_tl 32 (s_istore 7 34)) (pm_tl 34 (s_lpush 0 35))) (pm_tn 37 (pm_tl 35 (s_lstore 8 37)) (pm_tl 37 (s_push 0 38)))) (pm_tn 42 (pm_tn 40 (pm_tl 38 (s_K 40 [true, true, false, true, true, true, true, true, true, false, true, false, false] (s_istore 10 40))) (pm_tl 40 (s_iload 10 42))) (pm_tn 44 (pm_tl 42 (s_iload 7 44)) (pm_tl 44 (s_cge 101 47))))) (pm_tn 54 (pm_tn 51 (pm_tn 48 (pm_tl 47 (s_aload 3 48)) (pm_tl 48 (s_getR 4 5 51))) (pm_tn 52 (pm_tl 51 (s_iload 0 52)) (pm_tl 52 (s_iload 10 54)))) (pm_tn 56 (pm_tn 55 (pm_tl 54 (s_iast 55)) (pm_tl 55 (s_lload 1 56))) (pm_tn 57 (pm_tl 56 (s_aload 3 57)) (pm_tn 58 (pm_tl 57 (s_iload 0 58)) (pm_tl 58 (s_aload 4 60)))))))) (pm_tn 89 (pm_tn 75 (pm_tn 68 (pm_tn 65 (pm_tn 62 (pm_tl 60 (s_aload 6 62)) (pm_tl 62 (s_call 39 4 3 4 2 (fun _ => 2) 65))) (pm_tn 66 (pm_tl 65 (s_lmul 66)) (pm_tl 66 (s_lstore 11 68)))) (pm_tn 71 (pm_tn 70 (pm_tl 68 (s_lload 11 70)) (pm_tl 70 (s_lpush 0 71))) (pm_tn 72 (pm_tl 71 (s_lcmp 72)) (pm_tl 72 (s_ifeq 95 75))))) (pm_tn 80 (pm_tn 78 (pm_tn 77 (pm_tl 75 (s_lload 8 77)) (pm_tl 77 (s_iload 0 78))) (pm_tn 79 (pm_tl 78 (s_push 1 79)) (pm_tl 79 (s_iadd 80)))) (pm_tn 83 (pm_tn 82 (pm_tl 80 (s_lload 11 82)) (pm_tl 82 (s_aload 3 83))) (pm_tn 85 (pm_tl 83 (s_aload 4 85)) (pm_tn 87 (pm_tl 85 (s_iload 5 87)) (pm_tl 87 (s_aload 6 89))))))) (pm_tn 107 (pm_tn 98 (pm_tn 93 (pm_tn 92 (pm_tl 89 (s_call 38 6 6 99 2 pm_rkS 92)) (pm_tl 92 (s_ladd 93))) (pm_tn 95 (pm_tl 93 (s_lstore 8 95)) (pm_tl 95 (s_iinc 10 1 98)))) (pm_tn 102 (pm_tn 101 (pm_tl 98 (s_K 40 [true, true, false, true, true, true, true, true, true, false, true, false, false] (s_goto 40))) (pm_tl 101 (s_aload 3 102))) (pm_tn 105 (pm_tl 102 (s_getR 4 4 105)) (pm_tn 106 (pm_tl 105 (s_iload 0 106)) (pm_tl 106 (s_zald 107)))))) (pm_tn 117 (pm_tn 112 (pm_tn 110 (pm_tl 107 (s_ifeq 122 110)) (pm_tl 110 (s_lload 8 112))) (pm_tn 114 (pm_tl 112 (s_aload 6 114)) (pm_tl 114 (s_getI 2 0 117)))) (pm_tn 119 (pm_tn 118 (pm_tl 117 (s_i2l 118)) (pm_tl 118 (s_lmul 119))) (pm_tn 122 (pm_tl 119 (s_goto 124)) (pm_tn 124 (pm_tl 122 (s_lload 8 124)) (pm_tl 124 (s_lret)))))))))
theorem tc_U_sumFrom : ∀ pc, pm_Ct (t_U_sumFrom pc) := (ct_tn (ct_tn (ct_tn (ct_tn (ct_tn (ct_tn (ct_tl (ct_iload _ _)) (ct_tl (ct_iload _ _))) (ct_tn (ct_tl (ct_cge _ _)) (ct_tl (ct_iload _ _)))) (ct_tn (ct_tn (ct_tl (ct_push _ _)) (ct_tl (ct_clt _ _))) (ct_tn (ct_tl (ct_lload _ _)) (ct_tl (ct_lret))))) (ct_tn (ct_tn (ct_tn (ct_tl (ct_aload _ _)) (ct_tl (ct_getR _ _ _))) (ct_tn (ct_tl (ct_iload _ _)) (ct_tl (ct_zald _)))) (ct_tn (ct_tn (ct_tl (ct_ifeq _ _)) (ct_tl (ct_push _ _))) (ct_tn (ct_tl (ct_goto _)) (ct_tn (ct_tl (ct_aload _ _)) (ct_tl (ct_getI _ _ _))))))) (ct_tn (ct_tn (ct_tn (ct_tn (ct_tl (ct_istore _ _)) (ct_tl (ct_lpush _ _))) (ct_tn (ct_tl (ct_lstore _ _)) (ct_tl (ct_push _ _)))) (ct_tn (ct_tn (ct_tl (ct_K (ct_istore _ _))) (ct_tl (ct_iload _ _))) (ct_tn (ct_tl (ct_iload _ _)) (ct_tl (ct_cge _ _))))) (ct_tn (ct_tn (ct_tn (ct_tl (ct_aload _ _)) (ct_tl (ct_getR _ _ _))) (ct_tn (ct_tl (ct_iload _ _)) (ct_tl (ct_iload _ _)))) (ct_tn (ct_tn (ct_tl (ct_iast _)) (ct_tl (ct_lload _ _))) (ct_tn (ct_tl (ct_aload _ _)) (ct_tn (ct_tl (ct_iload _ _)) (ct_tl (ct_aload _ _)))))))) (ct_tn (ct_tn (ct_tn (ct_tn (ct_tn (ct_tl (ct_aload _ _)) (ct_tl (ct_call _ _ _ _ _ _ _))) (ct_tn (ct_tl (ct_lmul _)) (ct_tl (ct_lstore _ _)))) (ct_tn (ct_tn (ct_tl (ct_lload _ _)) (ct_tl (ct_lpush _ _))) (ct_tn (ct_tl (ct_lcmp _)) (ct_tl (ct_ifeq _ _))))) (ct_tn (ct_tn (ct_tn (ct_tl (ct_lload _ _)) (ct_tl (ct_iload _ _))) (ct_tn (ct_tl (ct_push _ _)) (ct_tl (ct_iadd _)))) (ct_tn (ct_tn (ct_tl (ct_lload _ _)) (ct_tl (ct_aload _ _))) (ct_tn (ct_tl (ct_aload _ _)) (ct_tn (ct_tl (ct_iload _ _)) (ct_tl (ct_aload _ _))))))) (ct_tn (ct_tn (ct_tn (ct_tn (ct_tl (ct_call _ _ _ _ _ _ _)) (ct_tl (ct_ladd _))) (ct_tn (ct_tl (ct_lstore _ _)) (ct_tl (ct_iinc _ _ _)))) (ct_tn (ct_tn (ct_tl (ct_K (ct_goto _))) (ct_tl (ct_aload _ _))) (ct_tn (ct_tl (ct_getR _ _ _)) (ct_tn (ct_tl (ct_iload _ _)) (ct_tl (ct_zald _)))))) (ct_tn (ct_tn (ct_tn (ct_tl (ct_ifeq _ _)) (ct_tl (ct_lload _ _))) (ct_tn (ct_tl (ct_aload _ _)) (ct_tl (ct_getI _ _ _)))) (ct_tn (ct_tn (ct_tl (ct_i2l _)) (ct_tl (ct_lmul _))) (ct_tn (ct_tl (ct_goto _)) (ct_tn (ct_tl (ct_lload _ _)) (ct_tl (ct_lret)))))))))
def t_U_factorBehind : Nat → pm_S := (pm_tn 36 (pm_tn 17 (pm_tn 6 (pm_tn 3 (pm_tn 1 (pm_tl 0 (s_lpush 1 1)) (pm_tl 1 (s_lstore 4 3))) (pm_tn 4 (pm_tl 3 (s_push 0 4)) (pm_tl 4 (s_K 6 [true, true, true, true, true, false, true] (s_istore 6 6))))) (pm_tn 10 (pm_tn 8 (pm_tl 6 (s_iload 6 8)) (pm_tl 8 (s_push 8 10))) (pm_tn 13 (pm_tl 10 (s_cge 66 13)) (pm_tn 14 (pm_tl 13 (s_aload 0 14)) (pm_tl 14 (s_getR 4 0 17)))))) (pm_tn 27 (pm_tn 20 (pm_tn 19 (pm_tl 17 (s_iload 6 19)) (pm_tl 19 (s_zald 20))) (pm_tn 23 (pm_tl 20 (s_ifeq 60 23)) (pm_tn 24 (pm_tl 23 (s_aload 0 24)) (pm_tl 24 (s_getR 4 2 27))))) (pm_tn 30 (pm_tn 29 (pm_tl 27 (s_iload 6 29)) (pm_tl 29 (s_iald 30))) (pm_tn 31 (pm_tl 30 (s_iload 1 31)) (pm_tn 34 (pm_tl 31 (s_cne 60 34)) (pm_tl 34 (s_lload 4 36))))))) (pm_tn 51 (pm_tn 43 (pm_tn 40 (pm_tn 37 (pm_tl 36 (s_aload 0 37)) (pm_tl 37 (s_getR 4 1 40))) (pm_tn 42 (pm_tl 40 (s_iload 6 42)) (pm_tl 42 (s_aald 43)))) (pm_tn 46 (pm_tn 44 (pm_tl 43 (s_aload 2 44)) (pm_tl 44 (s_iload 6 46))) (pm_tn 47 (pm_tl 46 (s_aald 47)) (pm_tn 48 (pm_tl 47 (s_aload 0 48)) (pm_tl 48 (s_getR 4 5 51)))))) (pm_tn 58 (pm_tn 55 (pm_tn 52 (pm_tl 51 (s_aload 3 52)) (pm_tl 52 (s_call 44 3 3 5 1 (fun _ => 1) 55))) (pm_tn 56 (pm_tl 55 (s_iald 56)) (pm_tn 57 (pm_tl 56 (s_i2l 57)) (pm_tl 57 (s_lmul 58))))) (pm_tn 63 (pm_tn 60 (pm_tl 58 (s_lstore 4 60)) (pm_tl 60 (s_iinc 6 1 63))) (pm_tn 66 (pm_tl 63 (s_K 6 [true, true, true, true, true, false, true] (s_goto 6))) (pm_tn 68 (pm_tl 66 (s_lload 4 68)) (pm_tl 68 (s_lret))))))))
theorem tc_U_factorBehind : ∀ pc, pm_Ct (t_U_factorBehind pc) := (ct_tn (ct_tn (ct_tn (ct_tn (ct_tn (ct_tl (ct_lpush _ _)) (ct_tl (ct_lstore _ _))) (ct_tn (ct_tl (ct_push _ _)) (ct_tl (ct_K (ct_istore _ _))))) (ct_tn (ct_tn (ct_tl (ct_iload _ _)) (ct_tl (ct_push _ _))) (ct_tn (ct_tl (ct_cge _ _)) (ct_tn (ct_tl (ct_aload _ _)) (ct_tl (ct_getR _ _ _)))))) (ct_tn (ct_tn (ct_tn (ct_tl (ct_iload _ _)) (ct_tl (ct_zald _))) (ct_tn (ct_tl (ct_ifeq _ _)) (ct_tn (ct_tl (ct_aload _ _)) (ct_tl (ct_getR _ _ _))))) (ct_tn (ct_tn (ct_tl (ct_iload _ _)) (ct_tl (ct_iald _))) (ct_tn (ct_tl (ct_iload _ _)) (ct_tn (ct_tl (ct_cne _ _)) (ct_tl (ct_lload _ _))))))) (ct_tn (ct_tn (ct_tn (ct_tn (ct_tl (ct_aload _ _)) (ct_tl (ct_getR _ _ _))) (ct_tn (ct_tl (ct_iload _ _)) (ct_tl (ct_aald _)))) (ct_tn (ct_tn (ct_tl (ct_aload _ _)) (ct_tl (ct_iload _ _))) (ct_tn (ct_tl (ct_aald _)) (ct_tn (ct_tl (ct_aload _ _)) (ct_tl (ct_getR _ _ _)))))) (ct_tn (ct_tn (ct_tn (ct_tl (ct_aload _ _)) (ct_tl (ct_call _ _ _ _ _ _ _))) (ct_tn (ct_tl (ct_iald _)) (ct_tn (ct_tl (ct_i2l _)) (ct_tl (ct_lmul _))))) (ct_tn (ct_tn (ct_tl (ct_lstore _ _)) (ct_tl (ct_iinc _ _ _))) (ct_tn (ct_tl (ct_K (ct_goto _))) (ct_tn (ct_tl (ct_lload _ _)) (ct_tl (ct_lret))))))))
def t_W_begin : Nat → pm_S := (pm_tn 10 (pm_tn 5 (pm_tn 1 (pm_tl 0 (s_aload 0 1)) (pm_tn 2 (pm_tl 1 (s_iload 1 2)) (pm_tl 2 (s_putI 5 0 5)))) (pm_tn 6 (pm_tl 5 (s_aload 0 6)) (pm_tn 7 (pm_tl 6 (s_iload 1 7)) (pm_tl 7 (s_putI 5 1 10))))) (pm_tn 15 (pm_tn 11 (pm_tl 10 (s_aload 0 11)) (pm_tn 12 (pm_tl 11 (s_push 0 12)) (pm_tl 12 (s_putI 5 2 15)))) (pm_tn 17 (pm_tn 16 (pm_tl 15 (s_aload 0 16)) (pm_tl 16 (s_push 1 17))) (pm_tn 20 (pm_tl 17 (s_putZ 5 3 20)) (pm_tl 20 (s_vret))))))
theorem tc_W_begin : ∀ pc, pm_Ct (t_W_begin pc) := (ct_tn (ct_tn (ct_tn (ct_tl (ct_aload _ _)) (ct_tn (ct_tl (ct_iload _ _)) (ct_tl (ct_putI _ _ _)))) (ct_tn (ct_tl (ct_aload _ _)) (ct_tn (ct_tl (ct_iload _ _)) (ct_tl (ct_putI _ _ _))))) (ct_tn (ct_tn (ct_tl (ct_aload _ _)) (ct_tn (ct_tl (ct_push _ _)) (ct_tl (ct_putI _ _ _)))) (ct_tn (ct_tn (ct_tl (ct_aload _ _)) (ct_tl (ct_push _ _))) (ct_tn (ct_tl (ct_putZ _ _ _)) (ct_tl (ct_vret))))))
def t_W_go : Nat → pm_S := (pm_tn 24 (pm_tn 13 (pm_tn 6 (pm_tn 1 (pm_tl 0 (s_aload 0 1)) (pm_tn 4 (pm_tl 1 (s_getI 5 2 4)) (pm_tl 4 (s_push 6 6)))) (pm_tn 9 (pm_tl 6 (s_cge 44 9)) (pm_tn 10 (pm_tl 9 (s_aload 0 10)) (pm_tl 10 (s_getR 5 4 13))))) (pm_tn 18 (pm_tn 14 (pm_tl 13 (s_aload 0 14)) (pm_tn 17 (pm_tl 14 (s_getI 5 2 17)) (pm_tl 17 (s_iload 1 18)))) (pm_tn 20 (pm_tn 19 (pm_tl 18 (s_iast 19)) (pm_tl 19 (s_aload 0 20))) (pm_tn 23 (pm_tl 20 (s_getR 5 5 23)) (pm_tl 23 (s_aload 0 24)))))) (pm_tn 34 (pm_tn 29 (pm_tn 27 (pm_tl 24 (s_getI 5 2 27)) (pm_tn 28 (pm_tl 27 (s_iload 2 28)) (pm_tl 28 (s_zast 29)))) (pm_tn 30 (pm_tl 29 (s_aload 0 30)) (pm_tn 31 (pm_tl 30 (s_iload 3 31)) (pm_tl 31 (s_putI 5 1 34))))) (pm_tn 39 (pm_tn 35 (pm_tl 34 (s_aload 0 35)) (pm_tn 36 (pm_tl 35 (s_dup 36)) (pm_tl 36 (s_getI 5 2 39)))) (pm_tn 41 (pm_tn 40 (pm_tl 39 (s_push 1 40)) (pm_tl 40 (s_iadd 41))) (pm_tn 44 (pm_tl 41 (s_putI 5 2 44)) (pm_tl 44 (s_vret)))))))
theorem tc_W_go : ∀ pc, pm_Ct (t_W_go pc) := (ct_tn (ct_tn (ct_tn (ct_tn (ct_tl (ct_aload _ _)) (ct_tn (ct_tl (ct_getI _ _ _)) (ct_tl (ct_push _ _)))) (ct_tn (ct_tl (ct_cge _ _)) (ct_tn (ct_tl (ct_aload _ _)) (ct_tl (ct_getR _ _ _))))) (ct_tn (ct_tn (ct_tl (ct_aload _ _)) (ct_tn (ct_tl (ct_getI _ _ _)) (ct_tl (ct_iload _ _)))) (ct_tn (ct_tn (ct_tl (ct_iast _)) (ct_tl (ct_aload _ _))) (ct_tn (ct_tl (ct_getR _ _ _)) (ct_tl (ct_aload _ _)))))) (ct_tn (ct_tn (ct_tn (ct_tl (ct_getI _ _ _)) (ct_tn (ct_tl (ct_iload _ _)) (ct_tl (ct_zast _)))) (ct_tn (ct_tl (ct_aload _ _)) (ct_tn (ct_tl (ct_iload _ _)) (ct_tl (ct_putI _ _ _))))) (ct_tn (ct_tn (ct_tl (ct_aload _ _)) (ct_tn (ct_tl (ct_dup _)) (ct_tl (ct_getI _ _ _)))) (ct_tn (ct_tn (ct_tl (ct_push _ _)) (ct_tl (ct_iadd _))) (ct_tn (ct_tl (ct_putI _ _ _)) (ct_tl (ct_vret)))))))
def t_W_isClosed : Nat → pm_S := (pm_tn 12 (pm_tn 7 (pm_tn 1 (pm_tl 0 (s_aload 0 1)) (pm_tn 4 (pm_tl 1 (s_getI 5 2 4)) (pm_tl 4 (s_ifle 22 7)))) (pm_tn 8 (pm_tl 7 (s_aload 0 8)) (pm_tn 11 (pm_tl 8 (s_getI 5 0 11)) (pm_tl 11 (s_aload 0 12))))) (pm_tn 19 (pm_tn 15 (pm_tl 12 (s_getI 5 1 15)) (pm_tn 18 (pm_tl 15 (s_cne 22 18)) (pm_tl 18 (s_push 1 19)))) (pm_tn 22 (pm_tl 19 (s_goto 23)) (pm_tn 23 (pm_tl 22 (s_push 0 23)) (pm_tl 23 (s_zret))))))
theorem tc_W_isClosed : ∀ pc, pm_Ct (t_W_isClosed pc) := (ct_tn (ct_tn (ct_tn (ct_tl (ct_aload _ _)) (ct_tn (ct_tl (ct_getI _ _ _)) (ct_tl (ct_ifle _ _)))) (ct_tn (ct_tl (ct_aload _ _)) (ct_tn (ct_tl (ct_getI _ _ _)) (ct_tl (ct_aload _ _))))) (ct_tn (ct_tn (ct_tl (ct_getI _ _ _)) (ct_tn (ct_tl (ct_cne _ _)) (ct_tl (ct_push _ _)))) (ct_tn (ct_tl (ct_goto _)) (ct_tn (ct_tl (ct_push _ _)) (ct_tl (ct_zret))))))
def t_W_weighs : Nat → pm_S := (pm_tn 11 (pm_tn 4 (pm_tn 1 (pm_tl 0 (s_aload 0 1)) (pm_tl 1 (s_getI 5 3 4))) (pm_tn 7 (pm_tl 4 (s_ifeq 18 7)) (pm_tn 8 (pm_tl 7 (s_aload 0 8)) (pm_tl 8 (s_call 42 1 0 5 1 (fun _ => 0) 11))))) (pm_tn 15 (pm_tn 14 (pm_tl 11 (s_ifeq 18 14)) (pm_tl 14 (s_push 1 15))) (pm_tn 18 (pm_tl 15 (s_goto 19)) (pm_tn 19 (pm_tl 18 (s_push 0 19)) (pm_tl 19 (s_zret))))))
theorem tc_W_weighs : ∀ pc, pm_Ct (t_W_weighs pc) := (ct_tn (ct_tn (ct_tn (ct_tl (ct_aload _ _)) (ct_tl (ct_getI _ _ _))) (ct_tn (ct_tl (ct_ifeq _ _)) (ct_tn (ct_tl (ct_aload _ _)) (ct_tl (ct_call _ _ _ _ _ _ _))))) (ct_tn (ct_tn (ct_tl (ct_ifeq _ _)) (ct_tl (ct_push _ _))) (ct_tn (ct_tl (ct_goto _)) (ct_tn (ct_tl (ct_push _ _)) (ct_tl (ct_zret))))))
def t_W_turnWith : Nat → pm_S := (pm_tn 27 (pm_tn 14 (pm_tn 5 (pm_tn 2 (pm_tn 1 (pm_tl 0 (s_push 0 1)) (pm_tl 1 (s_istore 3 2))) (pm_tn 3 (pm_tl 2 (s_push 0 3)) (pm_tl 3 (s_K 5 [true, true, true, true, true, false] (s_istore 4 5))))) (pm_tn 8 (pm_tn 7 (pm_tl 5 (s_iload 4 7)) (pm_tl 7 (s_aload 0 8))) (pm_tn 11 (pm_tl 8 (s_getI 5 2 11)) (pm_tl 11 (s_cge 59 14))))) (pm_tn 21 (pm_tn 16 (pm_tn 15 (pm_tl 14 (s_aload 1 15)) (pm_tl 15 (s_aload 0 16))) (pm_tn 19 (pm_tl 16 (s_getR 5 4 19)) (pm_tl 19 (s_iload 4 21)))) (pm_tn 23 (pm_tn 22 (pm_tl 21 (s_iald 22)) (pm_tl 22 (s_iald 23))) (pm_tn 25 (pm_tl 23 (s_istore 5 25)) (pm_tn 26 (pm_tl 25 (s_aload 2 26)) (pm_tl 26 (s_iload 3 27))))))) (pm_tn 43 (pm_tn 34 (pm_tn 31 (pm_tn 28 (pm_tl 27 (s_aload 0 28)) (pm_tl 28 (s_getR 5 5 31))) (pm_tn 33 (pm_tl 31 (s_iload 4 33)) (pm_tl 33 (s_zald 34)))) (pm_tn 38 (pm_tn 37 (pm_tl 34 (s_ifeq 47 37)) (pm_tl 37 (s_aload 2 38))) (pm_tn 41 (pm_tl 38 (s_getR 2 3 41)) (pm_tl 41 (s_iload 5 43))))) (pm_tn 52 (pm_tn 47 (pm_tn 44 (pm_tl 43 (s_iald 44)) (pm_tl 44 (s_goto 49))) (pm_tn 49 (pm_tl 47 (s_iload 5 49)) (pm_tl 49 (s_call 19 3 0 2 1 (fun _ => 0) 52)))) (pm_tn 56 (pm_tn 53 (pm_tl 52 (s_istore 3 53)) (pm_tl 53 (s_iinc 4 1 56))) (pm_tn 59 (pm_tl 56 (s_K 5 [true, true, true, true, true, false] (s_goto 5))) (pm_tn 60 (pm_tl 59 (s_iload 3 60)) (pm_tl 60 (s_iret))))))))
theorem tc_W_turnWith : ∀ pc, pm_Ct (t_W_turnWith pc) := (ct_tn (ct_tn (ct_tn (ct_tn (ct_tn (ct_tl (ct_push _ _)) (ct_tl (ct_istore _ _))) (ct_tn (ct_tl (ct_push _ _)) (ct_tl (ct_K (ct_istore _ _))))) (ct_tn (ct_tn (ct_tl (ct_iload _ _)) (ct_tl (ct_aload _ _))) (ct_tn (ct_tl (ct_getI _ _ _)) (ct_tl (ct_cge _ _))))) (ct_tn (ct_tn (ct_tn (ct_tl (ct_aload _ _)) (ct_tl (ct_aload _ _))) (ct_tn (ct_tl (ct_getR _ _ _)) (ct_tl (ct_iload _ _)))) (ct_tn (ct_tn (ct_tl (ct_iald _)) (ct_tl (ct_iald _))) (ct_tn (ct_tl (ct_istore _ _)) (ct_tn (ct_tl (ct_aload _ _)) (ct_tl (ct_iload _ _))))))) (ct_tn (ct_tn (ct_tn (ct_tn (ct_tl (ct_aload _ _)) (ct_tl (ct_getR _ _ _))) (ct_tn (ct_tl (ct_iload _ _)) (ct_tl (ct_zald _)))) (ct_tn (ct_tn (ct_tl (ct_ifeq _ _)) (ct_tl (ct_aload _ _))) (ct_tn (ct_tl (ct_getR _ _ _)) (ct_tl (ct_iload _ _))))) (ct_tn (ct_tn (ct_tn (ct_tl (ct_iald _)) (ct_tl (ct_goto _))) (ct_tn (ct_tl (ct_iload _ _)) (ct_tl (ct_call _ _ _ _ _ _ _)))) (ct_tn (ct_tn (ct_tl (ct_istore _ _)) (ct_tl (ct_iinc _ _ _))) (ct_tn (ct_tl (ct_K (ct_goto _))) (ct_tn (ct_tl (ct_iload _ _)) (ct_tl (ct_iret))))))))
def t_W_markLines : Nat → pm_S := (pm_tn 19 (pm_tn 6 (pm_tn 3 (pm_tn 1 (pm_tl 0 (s_push 0 1)) (pm_tn 2 (pm_tl 1 (s_istore 2 2)) (pm_tl 2 (s_push 0 3)))) (pm_tn 4 (pm_tl 3 (s_K 4 [true, true, true, true] (s_istore 3 4))) (pm_tn 5 (pm_tl 4 (s_iload 3 5)) (pm_tl 5 (s_aload 0 6))))) (pm_tn 13 (pm_tn 9 (pm_tl 6 (s_getI 5 2 9)) (pm_tn 12 (pm_tl 9 (s_cge 38 12)) (pm_tl 12 (s_aload 1 13)))) (pm_tn 17 (pm_tn 14 (pm_tl 13 (s_aload 0 14)) (pm_tl 14 (s_getR 5 4 17))) (pm_tn 18 (pm_tl 17 (s_iload 3 18)) (pm_tl 18 (s_iald 19)))))) (pm_tn 27 (pm_tn 22 (pm_tn 20 (pm_tl 19 (s_push 1 20)) (pm_tn 21 (pm_tl 20 (s_zast 21)) (pm_tl 21 (s_iload 2 22)))) (pm_tn 23 (pm_tl 22 (s_aload 0 23)) (pm_tn 26 (pm_tl 23 (s_getR 5 4 26)) (pm_tl 26 (s_iload 3 27))))) (pm_tn 32 (pm_tn 28 (pm_tl 27 (s_iald 28)) (pm_tn 31 (pm_tl 28 (s_max 31)) (pm_tl 31 (s_istore 2 32)))) (pm_tn 38 (pm_tn 35 (pm_tl 32 (s_iinc 3 1 35)) (pm_tl 35 (s_K 4 [true, true, true, true] (s_goto 4)))) (pm_tn 39 (pm_tl 38 (s_iload 2 39)) (pm_tl 39 (s_iret)))))))
theorem tc_W_markLines : ∀ pc, pm_Ct (t_W_markLines pc) := (ct_tn (ct_tn (ct_tn (ct_tn (ct_tl (ct_push _ _)) (ct_tn (ct_tl (ct_istore _ _)) (ct_tl (ct_push _ _)))) (ct_tn (ct_tl (ct_K (ct_istore _ _))) (ct_tn (ct_tl (ct_iload _ _)) (ct_tl (ct_aload _ _))))) (ct_tn (ct_tn (ct_tl (ct_getI _ _ _)) (ct_tn (ct_tl (ct_cge _ _)) (ct_tl (ct_aload _ _)))) (ct_tn (ct_tn (ct_tl (ct_aload _ _)) (ct_tl (ct_getR _ _ _))) (ct_tn (ct_tl (ct_iload _ _)) (ct_tl (ct_iald _)))))) (ct_tn (ct_tn (ct_tn (ct_tl (ct_push _ _)) (ct_tn (ct_tl (ct_zast _)) (ct_tl (ct_iload _ _)))) (ct_tn (ct_tl (ct_aload _ _)) (ct_tn (ct_tl (ct_getR _ _ _)) (ct_tl (ct_iload _ _))))) (ct_tn (ct_tn (ct_tl (ct_iald _)) (ct_tn (ct_tl (ct_max _)) (ct_tl (ct_istore _ _)))) (ct_tn (ct_tn (ct_tl (ct_iinc _ _ _)) (ct_tl (ct_K (ct_goto _)))) (ct_tn (ct_tl (ct_iload _ _)) (ct_tl (ct_iret)))))))
def t_T_group : Nat → pm_S := (pm_tn 44 (pm_tn 23 (pm_tn 10 (pm_tn 5 (pm_tn 1 (pm_tl 0 (s_iload 1 1)) (pm_tn 4 (pm_tl 1 (s_ifne 29 4)) (pm_tl 4 (s_iload 2 5)))) (pm_tn 6 (pm_tl 5 (s_push 1 6)) (pm_tn 9 (pm_tl 6 (s_clt 29 9)) (pm_tl 9 (s_iload 2 10))))) (pm_tn 16 (pm_tn 12 (pm_tl 10 (s_push 8 12)) (pm_tn 15 (pm_tl 12 (s_cgt 29 15)) (pm_tl 15 (s_aload 0 16)))) (pm_tn 19 (pm_tl 16 (s_getR 6 0 19)) (pm_tn 20 (pm_tl 19 (s_iload 2 20)) (pm_tl 20 (s_call 11 2 2 2 0 (fun _ => 0) 23)))))) (pm_tn 31 (pm_tn 28 (pm_tn 24 (pm_tl 23 (s_aload 0 24)) (pm_tn 25 (pm_tl 24 (s_iload 2 25)) (pm_tl 25 (s_call 82 2 0 6 1 (fun _ => 3) 28)))) (pm_tn 29 (pm_tl 28 (s_iret)) (pm_tn 30 (pm_tl 29 (s_iload 1 30)) (pm_tl 30 (s_push 1 31))))) (pm_tn 36 (pm_tn 34 (pm_tl 31 (s_cne 60 34)) (pm_tn 35 (pm_tl 34 (s_iload 2 35)) (pm_tl 35 (s_push 3 36)))) (pm_tn 40 (pm_tn 39 (pm_tl 36 (s_ceq 44 39)) (pm_tl 39 (s_iload 2 40))) (pm_tn 41 (pm_tl 40 (s_push 4 41)) (pm_tl 41 (s_cne 60 44))))))) (pm_tn 62 (pm_tn 54 (pm_tn 49 (pm_tn 45 (pm_tl 44 (s_aload 0 45)) (pm_tn 48 (pm_tl 45 (s_getR 6 0 48)) (pm_tl 48 (s_iload 2 49)))) (pm_tn 52 (pm_tl 49 (s_call 12 2 4 2 0 (fun _ => 0) 52)) (pm_tn 53 (pm_tl 52 (s_aload 0 53)) (pm_tl 53 (s_push 2 54))))) (pm_tn 59 (pm_tn 55 (pm_tl 54 (s_iload 2 55)) (pm_tn 56 (pm_tl 55 (s_imul 56)) (pm_tl 56 (s_call 82 2 0 6 1 (fun _ => 3) 59)))) (pm_tn 60 (pm_tl 59 (s_iret)) (pm_tn 61 (pm_tl 60 (s_iload 1 61)) (pm_tl 61 (s_push 2 62)))))) (pm_tn 75 (pm_tn 68 (pm_tn 65 (pm_tl 62 (s_cne 84 65)) (pm_tn 66 (pm_tl 65 (s_iload 2 66)) (pm_tl 66 (s_push 8 68)))) (pm_tn 71 (pm_tl 68 (s_cne 84 71)) (pm_tn 72 (pm_tl 71 (s_aload 0 72)) (pm_tl 72 (s_getR 6 0 75))))) (pm_tn 80 (pm_tn 78 (pm_tl 75 (s_call 13 1 3 2 0 (fun _ => 0) 78)) (pm_tn 79 (pm_tl 78 (s_aload 0 79)) (pm_tl 79 (s_iload 2 80)))) (pm_tn 84 (pm_tn 83 (pm_tl 80 (s_call 82 2 0 6 1 (fun _ => 3) 83)) (pm_tl 83 (s_iret))) (pm_tn 85 (pm_tl 84 (s_push (-1) 85)) (pm_tl 85 (s_iret))))))))
theorem tc_T_group : ∀ pc, pm_Ct (t_T_group pc) := (ct_tn (ct_tn (ct_tn (ct_tn (ct_tn (ct_tl (ct_iload _ _)) (ct_tn (ct_tl (ct_ifne _ _)) (ct_tl (ct_iload _ _)))) (ct_tn (ct_tl (ct_push _ _)) (ct_tn (ct_tl (ct_clt _ _)) (ct_tl (ct_iload _ _))))) (ct_tn (ct_tn (ct_tl (ct_push _ _)) (ct_tn (ct_tl (ct_cgt _ _)) (ct_tl (ct_aload _ _)))) (ct_tn (ct_tl (ct_getR _ _ _)) (ct_tn (ct_tl (ct_iload _ _)) (ct_tl (ct_call _ _ _ _ _ _ _)))))) (ct_tn (ct_tn (ct_tn (ct_tl (ct_aload _ _)) (ct_tn (ct_tl (ct_iload _ _)) (ct_tl (ct_call _ _ _ _ _ _ _)))) (ct_tn (ct_tl (ct_iret)) (ct_tn (ct_tl (ct_iload _ _)) (ct_tl (ct_push _ _))))) (ct_tn (ct_tn (ct_tl (ct_cne _ _)) (ct_tn (ct_tl (ct_iload _ _)) (ct_tl (ct_push _ _)))) (ct_tn (ct_tn (ct_tl (ct_ceq _ _)) (ct_tl (ct_iload _ _))) (ct_tn (ct_tl (ct_push _ _)) (ct_tl (ct_cne _ _))))))) (ct_tn (ct_tn (ct_tn (ct_tn (ct_tl (ct_aload _ _)) (ct_tn (ct_tl (ct_getR _ _ _)) (ct_tl (ct_iload _ _)))) (ct_tn (ct_tl (ct_call _ _ _ _ _ _ _)) (ct_tn (ct_tl (ct_aload _ _)) (ct_tl (ct_push _ _))))) (ct_tn (ct_tn (ct_tl (ct_iload _ _)) (ct_tn (ct_tl (ct_imul _)) (ct_tl (ct_call _ _ _ _ _ _ _)))) (ct_tn (ct_tl (ct_iret)) (ct_tn (ct_tl (ct_iload _ _)) (ct_tl (ct_push _ _)))))) (ct_tn (ct_tn (ct_tn (ct_tl (ct_cne _ _)) (ct_tn (ct_tl (ct_iload _ _)) (ct_tl (ct_push _ _)))) (ct_tn (ct_tl (ct_cne _ _)) (ct_tn (ct_tl (ct_aload _ _)) (ct_tl (ct_getR _ _ _))))) (ct_tn (ct_tn (ct_tl (ct_call _ _ _ _ _ _ _)) (ct_tn (ct_tl (ct_aload _ _)) (ct_tl (ct_iload _ _)))) (ct_tn (ct_tn (ct_tl (ct_call _ _ _ _ _ _ _)) (ct_tl (ct_iret))) (ct_tn (ct_tl (ct_push _ _)) (ct_tl (ct_iret))))))))
def t_T_read : Nat → pm_S := (pm_tn 46 (pm_tn 24 (pm_tn 11 (pm_tn 4 (pm_tn 1 (pm_tl 0 (s_iload 1 1)) (pm_tl 1 (s_call 79 1 0 99 1 (fun _ => 0) 4))) (pm_tn 7 (pm_tl 4 (s_ifeq 27 7)) (pm_tn 8 (pm_tl 7 (s_iload 2 8)) (pm_tl 8 (s_call 80 1 0 99 1 (fun _ => 0) 11))))) (pm_tn 17 (pm_tn 14 (pm_tl 11 (s_ifeq 27 14)) (pm_tn 16 (pm_tl 14 (s_iload 4 16)) (pm_tl 16 (s_push 1 17)))) (pm_tn 20 (pm_tl 17 (s_clt 27 20)) (pm_tn 22 (pm_tl 20 (s_iload 4 22)) (pm_tl 22 (s_push 8 24)))))) (pm_tn 34 (pm_tn 29 (pm_tn 27 (pm_tl 24 (s_cle 29 27)) (pm_tn 28 (pm_tl 27 (s_push (-1) 28)) (pm_tl 28 (s_iret)))) (pm_tn 30 (pm_tl 29 (s_aload 0 30)) (pm_tn 33 (pm_tl 30 (s_getR 6 5 33)) (pm_tl 33 (s_iload 1 34))))) (pm_tn 39 (pm_tn 35 (pm_tl 34 (s_aald 35)) (pm_tn 36 (pm_tl 35 (s_iload 2 36)) (pm_tl 36 (s_call 31 2 0 3 1 (fun _ => 0) 39)))) (pm_tn 41 (pm_tl 39 (s_istore 5 41)) (pm_tn 43 (pm_tl 41 (s_iload 5 43)) (pm_tl 43 (s_ifne 61 46))))))) (pm_tn 67 (pm_tn 54 (pm_tn 51 (pm_tn 47 (pm_tl 46 (s_aload 0 47)) (pm_tn 48 (pm_tl 47 (s_aload 0 48)) (pm_tl 48 (s_getR 6 5 51)))) (pm_tn 52 (pm_tl 51 (s_iload 1 52)) (pm_tn 53 (pm_tl 52 (s_aald 53)) (pm_tl 53 (s_iload 3 54))))) (pm_tn 61 (pm_tn 56 (pm_tl 54 (s_iload 4 56)) (pm_tn 59 (pm_tl 56 (s_call 83 4 4 6 1 (fun _ => 1) 59)) (pm_tl 59 (s_istore 5 61)))) (pm_tn 63 (pm_tl 61 (s_iload 5 63)) (pm_tn 66 (pm_tl 63 (s_ifne 77 66)) (pm_tl 66 (s_aload 0 67)))))) (pm_tn 82 (pm_tn 75 (pm_tn 70 (pm_tl 67 (s_getR 6 0 70)) (pm_tn 72 (pm_tl 70 (s_iload 4 72)) (pm_tl 72 (s_call 14 2 1 2 1 (fun _ => 2) 75)))) (pm_tn 77 (pm_tl 75 (s_istore 5 77)) (pm_tn 79 (pm_tl 77 (s_iload 5 79)) (pm_tl 79 (s_ifne 91 82))))) (pm_tn 88 (pm_tn 83 (pm_tl 82 (s_aload 0 83)) (pm_tn 85 (pm_tl 83 (s_iload 4 85)) (pm_tl 85 (s_call 82 2 0 6 1 (fun _ => 3) 88)))) (pm_tn 91 (pm_tl 88 (s_goto 93)) (pm_tn 93 (pm_tl 91 (s_iload 5 93)) (pm_tl 93 (s_iret))))))))
theorem tc_T_read : ∀ pc, pm_Ct (t_T_read pc) := (ct_tn (ct_tn (ct_tn (ct_tn (ct_tn (ct_tl (ct_iload _ _)) (ct_tl (ct_call _ _ _ _ _ _ _))) (ct_tn (ct_tl (ct_ifeq _ _)) (ct_tn (ct_tl (ct_iload _ _)) (ct_tl (ct_call _ _ _ _ _ _ _))))) (ct_tn (ct_tn (ct_tl (ct_ifeq _ _)) (ct_tn (ct_tl (ct_iload _ _)) (ct_tl (ct_push _ _)))) (ct_tn (ct_tl (ct_clt _ _)) (ct_tn (ct_tl (ct_iload _ _)) (ct_tl (ct_push _ _)))))) (ct_tn (ct_tn (ct_tn (ct_tl (ct_cle _ _)) (ct_tn (ct_tl (ct_push _ _)) (ct_tl (ct_iret)))) (ct_tn (ct_tl (ct_aload _ _)) (ct_tn (ct_tl (ct_getR _ _ _)) (ct_tl (ct_iload _ _))))) (ct_tn (ct_tn (ct_tl (ct_aald _)) (ct_tn (ct_tl (ct_iload _ _)) (ct_tl (ct_call _ _ _ _ _ _ _)))) (ct_tn (ct_tl (ct_istore _ _)) (ct_tn (ct_tl (ct_iload _ _)) (ct_tl (ct_ifne _ _))))))) (ct_tn (ct_tn (ct_tn (ct_tn (ct_tl (ct_aload _ _)) (ct_tn (ct_tl (ct_aload _ _)) (ct_tl (ct_getR _ _ _)))) (ct_tn (ct_tl (ct_iload _ _)) (ct_tn (ct_tl (ct_aald _)) (ct_tl (ct_iload _ _))))) (ct_tn (ct_tn (ct_tl (ct_iload _ _)) (ct_tn (ct_tl (ct_call _ _ _ _ _ _ _)) (ct_tl (ct_istore _ _)))) (ct_tn (ct_tl (ct_iload _ _)) (ct_tn (ct_tl (ct_ifne _ _)) (ct_tl (ct_aload _ _)))))) (ct_tn (ct_tn (ct_tn (ct_tl (ct_getR _ _ _)) (ct_tn (ct_tl (ct_iload _ _)) (ct_tl (ct_call _ _ _ _ _ _ _)))) (ct_tn (ct_tl (ct_istore _ _)) (ct_tn (ct_tl (ct_iload _ _)) (ct_tl (ct_ifne _ _))))) (ct_tn (ct_tn (ct_tl (ct_aload _ _)) (ct_tn (ct_tl (ct_iload _ _)) (ct_tl (ct_call _ _ _ _ _ _ _)))) (ct_tn (ct_tl (ct_goto _)) (ct_tn (ct_tl (ct_iload _ _)) (ct_tl (ct_iret))))))))
def t_T_times : Nat → pm_S := (pm_tn 16 (pm_tn 8 (pm_tn 2 (pm_tn 1 (pm_tl 0 (s_aload 0 1)) (pm_tl 1 (s_iload 1 2))) (pm_tn 5 (pm_tl 2 (s_call 74 2 0 6 1 (fun _ => 0) 5)) (pm_tl 5 (s_ifeq 28 8)))) (pm_tn 10 (pm_tn 9 (pm_tl 8 (s_aload 0 9)) (pm_tl 9 (s_iload 2 10))) (pm_tn 13 (pm_tl 10 (s_call 74 2 0 6 1 (fun _ => 0) 13)) (pm_tl 13 (s_ifeq 28 16))))) (pm_tn 22 (pm_tn 20 (pm_tn 17 (pm_tl 16 (s_aload 0 17)) (pm_tl 17 (s_getR 6 0 20))) (pm_tn 21 (pm_tl 20 (s_iload 1 21)) (pm_tl 21 (s_iload 2 22)))) (pm_tn 28 (pm_tn 25 (pm_tl 22 (s_call 19 3 0 2 1 (fun _ => 0) 25)) (pm_tl 25 (s_goto 29))) (pm_tn 29 (pm_tl 28 (s_push (-1) 29)) (pm_tl 29 (s_iret))))))
theorem tc_T_times : ∀ pc, pm_Ct (t_T_times pc) := (ct_tn (ct_tn (ct_tn (ct_tn (ct_tl (ct_aload _ _)) (ct_tl (ct_iload _ _))) (ct_tn (ct_tl (ct_call _ _ _ _ _ _ _)) (ct_tl (ct_ifeq _ _)))) (ct_tn (ct_tn (ct_tl (ct_aload _ _)) (ct_tl (ct_iload _ _))) (ct_tn (ct_tl (ct_call _ _ _ _ _ _ _)) (ct_tl (ct_ifeq _ _))))) (ct_tn (ct_tn (ct_tn (ct_tl (ct_aload _ _)) (ct_tl (ct_getR _ _ _))) (ct_tn (ct_tl (ct_iload _ _)) (ct_tl (ct_iload _ _)))) (ct_tn (ct_tn (ct_tl (ct_call _ _ _ _ _ _ _)) (ct_tl (ct_goto _))) (ct_tn (ct_tl (ct_push _ _)) (ct_tl (ct_iret))))))
def t_T_turn : Nat → pm_S := (pm_tn 71 (pm_tn 52 (pm_tn 9 (pm_tn 2 (pm_tn 1 (pm_tl 0 (s_aload 0 1)) (pm_tl 1 (s_iload 1 2))) (pm_tn 5 (pm_tl 2 (s_call 74 2 0 6 1 (fun _ => 0) 5)) (pm_tn 8 (pm_tl 5 (s_ifne 10 8)) (pm_tl 8 (s_push (-1) 9))))) (pm_tn 11 (pm_tn 10 (pm_tl 9 (s_iret)) (pm_tl 10 (s_iload 2 11))) (pm_tn 48 (pm_tl 11 (s_switch [(0, 48), (1, 58), (2, 67), (3, 77), (4, 86), (5, 96)] 105)) (pm_tn 49 (pm_tl 48 (s_aload 0 49)) (pm_tl 49 (s_getR 6 0 52)))))) (pm_tn 59 (pm_tn 56 (pm_tn 55 (pm_tl 52 (s_getR 2 3 55)) (pm_tl 55 (s_iload 1 56))) (pm_tn 57 (pm_tl 56 (s_iald 57)) (pm_tn 58 (pm_tl 57 (s_iret)) (pm_tl 58 (s_aload 0 59))))) (pm_tn 66 (pm_tn 62 (pm_tl 59 (s_getR 6 0 62)) (pm_tn 63 (pm_tl 62 (s_iload 1 63)) (pm_tl 63 (s_call 22 2 2 2 1 (fun _ => 1) 66)))) (pm_tn 67 (pm_tl 66 (s_iret)) (pm_tn 68 (pm_tl 67 (s_aload 0 68)) (pm_tl 68 (s_getR 6 0 71))))))) (pm_tn 90 (pm_tn 78 (pm_tn 75 (pm_tn 74 (pm_tl 71 (s_getR 2 4 74)) (pm_tl 74 (s_iload 1 75))) (pm_tn 76 (pm_tl 75 (s_iald 76)) (pm_tn 77 (pm_tl 76 (s_iret)) (pm_tl 77 (s_aload 0 78))))) (pm_tn 85 (pm_tn 81 (pm_tl 78 (s_getR 6 0 81)) (pm_tn 82 (pm_tl 81 (s_iload 1 82)) (pm_tl 82 (s_call 23 2 2 2 1 (fun _ => 0) 85)))) (pm_tn 86 (pm_tl 85 (s_iret)) (pm_tn 87 (pm_tl 86 (s_aload 0 87)) (pm_tl 87 (s_getR 6 0 90)))))) (pm_tn 97 (pm_tn 94 (pm_tn 93 (pm_tl 90 (s_getR 2 5 93)) (pm_tl 93 (s_iload 1 94))) (pm_tn 95 (pm_tl 94 (s_iald 95)) (pm_tn 96 (pm_tl 95 (s_iret)) (pm_tl 96 (s_aload 0 97))))) (pm_tn 104 (pm_tn 100 (pm_tl 97 (s_getR 6 0 100)) (pm_tn 101 (pm_tl 100 (s_iload 1 101)) (pm_tl 101 (s_call 25 2 2 2 1 (fun _ => 1) 104)))) (pm_tn 105 (pm_tl 104 (s_iret)) (pm_tn 106 (pm_tl 105 (s_push (-1) 106)) (pm_tl 106 (s_iret))))))))
theorem tc_T_turn : ∀ pc, pm_Ct (t_T_turn pc) := (ct_tn (ct_tn (ct_tn (ct_tn (ct_tn (ct_tl (ct_aload _ _)) (ct_tl (ct_iload _ _))) (ct_tn (ct_tl (ct_call _ _ _ _ _ _ _)) (ct_tn (ct_tl (ct_ifne _ _)) (ct_tl (ct_push _ _))))) (ct_tn (ct_tn (ct_tl (ct_iret)) (ct_tl (ct_iload _ _))) (ct_tn (ct_tl (ct_switch _ _)) (ct_tn (ct_tl (ct_aload _ _)) (ct_tl (ct_getR _ _ _)))))) (ct_tn (ct_tn (ct_tn (ct_tl (ct_getR _ _ _)) (ct_tl (ct_iload _ _))) (ct_tn (ct_tl (ct_iald _)) (ct_tn (ct_tl (ct_iret)) (ct_tl (ct_aload _ _))))) (ct_tn (ct_tn (ct_tl (ct_getR _ _ _)) (ct_tn (ct_tl (ct_iload _ _)) (ct_tl (ct_call _ _ _ _ _ _ _)))) (ct_tn (ct_tl (ct_iret)) (ct_tn (ct_tl (ct_aload _ _)) (ct_tl (ct_getR _ _ _))))))) (ct_tn (ct_tn (ct_tn (ct_tn (ct_tl (ct_getR _ _ _)) (ct_tl (ct_iload _ _))) (ct_tn (ct_tl (ct_iald _)) (ct_tn (ct_tl (ct_iret)) (ct_tl (ct_aload _ _))))) (ct_tn (ct_tn (ct_tl (ct_getR _ _ _)) (ct_tn (ct_tl (ct_iload _ _)) (ct_tl (ct_call _ _ _ _ _ _ _)))) (ct_tn (ct_tl (ct_iret)) (ct_tn (ct_tl (ct_aload _ _)) (ct_tl (ct_getR _ _ _)))))) (ct_tn (ct_tn (ct_tn (ct_tl (ct_getR _ _ _)) (ct_tl (ct_iload _ _))) (ct_tn (ct_tl (ct_iald _)) (ct_tn (ct_tl (ct_iret)) (ct_tl (ct_aload _ _))))) (ct_tn (ct_tn (ct_tl (ct_getR _ _ _)) (ct_tn (ct_tl (ct_iload _ _)) (ct_tl (ct_call _ _ _ _ _ _ _)))) (ct_tn (ct_tl (ct_iret)) (ct_tn (ct_tl (ct_push _ _)) (ct_tl (ct_iret))))))))
def t_T_about : Nat → pm_S := (pm_tn 61 (pm_tn 45 (pm_tn 37 (pm_tn 1 (pm_tl 0 (s_iload 1 1)) (pm_tn 36 (pm_tl 1 (s_switch [(0, 36), (1, 44), (2, 52), (3, 60), (4, 68)] 91)) (pm_tl 36 (s_aload 0 37)))) (pm_tn 43 (pm_tn 40 (pm_tl 37 (s_getR 6 0 40)) (pm_tl 40 (s_getI 2 0 43))) (pm_tn 44 (pm_tl 43 (s_iret)) (pm_tl 44 (s_aload 0 45))))) (pm_tn 53 (pm_tn 51 (pm_tn 48 (pm_tl 45 (s_getR 6 0 48)) (pm_tl 48 (s_call 24 1 2 2 1 (fun _ => 0) 51))) (pm_tn 52 (pm_tl 51 (s_iret)) (pm_tl 52 (s_aload 0 53)))) (pm_tn 59 (pm_tn 56 (pm_tl 53 (s_getR 6 0 56)) (pm_tl 56 (s_call 26 1 2 2 1 (fun _ => 2) 59))) (pm_tn 60 (pm_tl 59 (s_iret)) (pm_tl 60 (s_aload 0 61)))))) (pm_tn 79 (pm_tn 69 (pm_tn 67 (pm_tn 64 (pm_tl 61 (s_getR 6 0 64)) (pm_tl 64 (s_call 27 1 2 2 1 (fun _ => 2) 67))) (pm_tn 68 (pm_tl 67 (s_iret)) (pm_tl 68 (s_aload 0 69)))) (pm_tn 75 (pm_tn 72 (pm_tl 69 (s_getR 6 0 72)) (pm_tl 72 (s_call 26 1 2 2 1 (fun _ => 2) 75))) (pm_tn 76 (pm_tl 75 (s_aload 0 76)) (pm_tl 76 (s_getR 6 0 79))))) (pm_tn 89 (pm_tn 85 (pm_tn 82 (pm_tl 79 (s_getI 2 0 82)) (pm_tl 82 (s_cne 89 85))) (pm_tn 86 (pm_tl 85 (s_push 1 86)) (pm_tl 86 (s_goto 90)))) (pm_tn 91 (pm_tn 90 (pm_tl 89 (s_push 0 90)) (pm_tl 90 (s_iret))) (pm_tn 92 (pm_tl 91 (s_push (-1) 92)) (pm_tl 92 (s_iret)))))))
theorem tc_T_about : ∀ pc, pm_Ct (t_T_about pc) := (ct_tn (ct_tn (ct_tn (ct_tn (ct_tl (ct_iload _ _)) (ct_tn (ct_tl (ct_switch _ _)) (ct_tl (ct_aload _ _)))) (ct_tn (ct_tn (ct_tl (ct_getR _ _ _)) (ct_tl (ct_getI _ _ _))) (ct_tn (ct_tl (ct_iret)) (ct_tl (ct_aload _ _))))) (ct_tn (ct_tn (ct_tn (ct_tl (ct_getR _ _ _)) (ct_tl (ct_call _ _ _ _ _ _ _))) (ct_tn (ct_tl (ct_iret)) (ct_tl (ct_aload _ _)))) (ct_tn (ct_tn (ct_tl (ct_getR _ _ _)) (ct_tl (ct_call _ _ _ _ _ _ _))) (ct_tn (ct_tl (ct_iret)) (ct_tl (ct_aload _ _)))))) (ct_tn (ct_tn (ct_tn (ct_tn (ct_tl (ct_getR _ _ _)) (ct_tl (ct_call _ _ _ _ _ _ _))) (ct_tn (ct_tl (ct_iret)) (ct_tl (ct_aload _ _)))) (ct_tn (ct_tn (ct_tl (ct_getR _ _ _)) (ct_tl (ct_call _ _ _ _ _ _ _))) (ct_tn (ct_tl (ct_aload _ _)) (ct_tl (ct_getR _ _ _))))) (ct_tn (ct_tn (ct_tn (ct_tl (ct_getI _ _ _)) (ct_tl (ct_cne _ _))) (ct_tn (ct_tl (ct_push _ _)) (ct_tl (ct_goto _)))) (ct_tn (ct_tn (ct_tl (ct_push _ _)) (ct_tl (ct_iret))) (ct_tn (ct_tl (ct_push _ _)) (ct_tl (ct_iret)))))))
def t_T_worth : Nat → pm_S := (pm_tn 21 (pm_tn 12 (pm_tn 5 (pm_tn 1 (pm_tl 0 (s_aload 0 1)) (pm_tn 2 (pm_tl 1 (s_iload 1 2)) (pm_tl 2 (s_call 74 2 0 6 1 (fun _ => 0) 5)))) (pm_tn 8 (pm_tl 5 (s_ifeq 18 8)) (pm_tn 9 (pm_tl 8 (s_iload 2 9)) (pm_tl 9 (s_iflt 18 12))))) (pm_tn 18 (pm_tn 13 (pm_tl 12 (s_iload 2 13)) (pm_tn 15 (pm_tl 13 (s_push 9 15)) (pm_tl 15 (s_cle 20 18)))) (pm_tn 19 (pm_tl 18 (s_push (-1) 19)) (pm_tn 20 (pm_tl 19 (s_iret)) (pm_tl 20 (s_aload 0 21)))))) (pm_tn 31 (pm_tn 28 (pm_tn 24 (pm_tl 21 (s_getR 6 0 24)) (pm_tn 27 (pm_tl 24 (s_getR 2 5 27)) (pm_tl 27 (s_iload 1 28)))) (pm_tn 29 (pm_tl 28 (s_iald 29)) (pm_tn 30 (pm_tl 29 (s_istore 3 30)) (pm_tl 30 (s_aload 0 31))))) (pm_tn 36 (pm_tn 34 (pm_tl 31 (s_getR 6 0 34)) (pm_tn 35 (pm_tl 34 (s_iload 1 35)) (pm_tl 35 (s_iload 2 36)))) (pm_tn 39 (pm_tl 36 (s_call 28 3 1 2 0 (fun _ => 0) 39)) (pm_tn 40 (pm_tl 39 (s_iload 3 40)) (pm_tl 40 (s_iret)))))))
theorem tc_T_worth : ∀ pc, pm_Ct (t_T_worth pc) := (ct_tn (ct_tn (ct_tn (ct_tn (ct_tl (ct_aload _ _)) (ct_tn (ct_tl (ct_iload _ _)) (ct_tl (ct_call _ _ _ _ _ _ _)))) (ct_tn (ct_tl (ct_ifeq _ _)) (ct_tn (ct_tl (ct_iload _ _)) (ct_tl (ct_iflt _ _))))) (ct_tn (ct_tn (ct_tl (ct_iload _ _)) (ct_tn (ct_tl (ct_push _ _)) (ct_tl (ct_cle _ _)))) (ct_tn (ct_tl (ct_push _ _)) (ct_tn (ct_tl (ct_iret)) (ct_tl (ct_aload _ _)))))) (ct_tn (ct_tn (ct_tn (ct_tl (ct_getR _ _ _)) (ct_tn (ct_tl (ct_getR _ _ _)) (ct_tl (ct_iload _ _)))) (ct_tn (ct_tl (ct_iald _)) (ct_tn (ct_tl (ct_istore _ _)) (ct_tl (ct_aload _ _))))) (ct_tn (ct_tn (ct_tl (ct_getR _ _ _)) (ct_tn (ct_tl (ct_iload _ _)) (ct_tl (ct_iload _ _)))) (ct_tn (ct_tl (ct_call _ _ _ _ _ _ _)) (ct_tn (ct_tl (ct_iload _ _)) (ct_tl (ct_iret)))))))
def t_T_point : Nat → pm_S := (pm_tn 12 (pm_tn 4 (pm_tn 1 (pm_tl 0 (s_aload 0 1)) (pm_tl 1 (s_getR 6 1 4))) (pm_tn 7 (pm_tl 4 (s_getI 1 0 7)) (pm_tn 9 (pm_tl 7 (s_push 6 9)) (pm_tl 9 (s_cge 22 12))))) (pm_tn 19 (pm_tn 13 (pm_tl 12 (s_aload 0 13)) (pm_tn 16 (pm_tl 13 (s_getR 6 1 16)) (pm_tl 16 (s_call 3 1 0 1 1 (fun _ => 0) 19)))) (pm_tn 22 (pm_tl 19 (s_goto 24)) (pm_tn 24 (pm_tl 22 (s_push (-3) 24)) (pm_tl 24 (s_iret))))))
theorem tc_T_point : ∀ pc, pm_Ct (t_T_point pc) := (ct_tn (ct_tn (ct_tn (ct_tl (ct_aload _ _)) (ct_tl (ct_getR _ _ _))) (ct_tn (ct_tl (ct_getI _ _ _)) (ct_tn (ct_tl (ct_push _ _)) (ct_tl (ct_cge _ _))))) (ct_tn (ct_tn (ct_tl (ct_aload _ _)) (ct_tn (ct_tl (ct_getR _ _ _)) (ct_tl (ct_call _ _ _ _ _ _ _)))) (ct_tn (ct_tl (ct_goto _)) (ct_tn (ct_tl (ct_push _ _)) (ct_tl (ct_iret))))))
def t_T_line : Nat → pm_S := (pm_tn 19 (pm_tn 9 (pm_tn 2 (pm_tn 1 (pm_tl 0 (s_aload 0 1)) (pm_tl 1 (s_iload 1 2))) (pm_tn 5 (pm_tl 2 (s_call 75 2 0 6 1 (fun _ => 0) 5)) (pm_tn 8 (pm_tl 5 (s_ifeq 16 8)) (pm_tl 8 (s_aload 0 9))))) (pm_tn 16 (pm_tn 10 (pm_tl 9 (s_iload 2 10)) (pm_tn 13 (pm_tl 10 (s_call 75 2 0 6 1 (fun _ => 0) 13)) (pm_tl 13 (s_ifne 18 16)))) (pm_tn 17 (pm_tl 16 (s_push (-1) 17)) (pm_tn 18 (pm_tl 17 (s_iret)) (pm_tl 18 (s_aload 0 19)))))) (pm_tn 34 (pm_tn 27 (pm_tn 22 (pm_tl 19 (s_getR 6 1 22)) (pm_tn 25 (pm_tl 22 (s_getI 1 1 25)) (pm_tl 25 (s_push 10 27)))) (pm_tn 30 (pm_tl 27 (s_cge 42 30)) (pm_tn 31 (pm_tl 30 (s_aload 0 31)) (pm_tl 31 (s_getR 6 1 34))))) (pm_tn 39 (pm_tn 35 (pm_tl 34 (s_iload 1 35)) (pm_tn 36 (pm_tl 35 (s_iload 2 36)) (pm_tl 36 (s_call 4 3 0 1 1 (fun _ => 2) 39)))) (pm_tn 42 (pm_tl 39 (s_goto 44)) (pm_tn 44 (pm_tl 42 (s_push (-3) 44)) (pm_tl 44 (s_iret)))))))
theorem tc_T_line : ∀ pc, pm_Ct (t_T_line pc) := (ct_tn (ct_tn (ct_tn (ct_tn (ct_tl (ct_aload _ _)) (ct_tl (ct_iload _ _))) (ct_tn (ct_tl (ct_call _ _ _ _ _ _ _)) (ct_tn (ct_tl (ct_ifeq _ _)) (ct_tl (ct_aload _ _))))) (ct_tn (ct_tn (ct_tl (ct_iload _ _)) (ct_tn (ct_tl (ct_call _ _ _ _ _ _ _)) (ct_tl (ct_ifne _ _)))) (ct_tn (ct_tl (ct_push _ _)) (ct_tn (ct_tl (ct_iret)) (ct_tl (ct_aload _ _)))))) (ct_tn (ct_tn (ct_tn (ct_tl (ct_getR _ _ _)) (ct_tn (ct_tl (ct_getI _ _ _)) (ct_tl (ct_push _ _)))) (ct_tn (ct_tl (ct_cge _ _)) (ct_tn (ct_tl (ct_aload _ _)) (ct_tl (ct_getR _ _ _))))) (ct_tn (ct_tn (ct_tl (ct_iload _ _)) (ct_tn (ct_tl (ct_iload _ _)) (ct_tl (ct_call _ _ _ _ _ _ _)))) (ct_tn (ct_tl (ct_goto _)) (ct_tn (ct_tl (ct_push _ _)) (ct_tl (ct_iret)))))))
def t_T_walk : Nat → pm_S := (pm_tn 27 (pm_tn 11 (pm_tn 5 (pm_tn 1 (pm_tl 0 (s_aload 0 1)) (pm_tn 2 (pm_tl 1 (s_iload 1 2)) (pm_tl 2 (s_call 75 2 0 6 1 (fun _ => 0) 5)))) (pm_tn 9 (pm_tn 8 (pm_tl 5 (s_ifne 10 8)) (pm_tl 8 (s_push (-1) 9))) (pm_tn 10 (pm_tl 9 (s_iret)) (pm_tl 10 (s_aload 0 11))))) (pm_tn 21 (pm_tn 16 (pm_tn 14 (pm_tl 11 (s_getI 6 3 14)) (pm_tl 14 (s_push 8 16))) (pm_tn 19 (pm_tl 16 (s_clt 22 19)) (pm_tl 19 (s_push (-3) 21)))) (pm_tn 23 (pm_tn 22 (pm_tl 21 (s_iret)) (pm_tl 22 (s_aload 0 23))) (pm_tn 26 (pm_tl 23 (s_getR 6 2 26)) (pm_tl 26 (s_aload 0 27)))))) (pm_tn 40 (pm_tn 32 (pm_tn 30 (pm_tl 27 (s_getI 6 3 30)) (pm_tn 31 (pm_tl 30 (s_aald 31)) (pm_tl 31 (s_iload 1 32)))) (pm_tn 36 (pm_tn 35 (pm_tl 32 (s_call 40 2 0 5 0 (fun _ => 0) 35)) (pm_tl 35 (s_aload 0 36))) (pm_tn 37 (pm_tl 36 (s_dup 37)) (pm_tl 37 (s_getI 6 3 40))))) (pm_tn 46 (pm_tn 42 (pm_tn 41 (pm_tl 40 (s_push 1 41)) (pm_tl 41 (s_iadd 42))) (pm_tn 45 (pm_tl 42 (s_putI 6 3 45)) (pm_tl 45 (s_aload 0 46)))) (pm_tn 50 (pm_tn 49 (pm_tl 46 (s_getI 6 3 49)) (pm_tl 49 (s_push 1 50))) (pm_tn 51 (pm_tl 50 (s_isub 51)) (pm_tl 51 (s_iret)))))))
theorem tc_T_walk : ∀ pc, pm_Ct (t_T_walk pc) := (ct_tn (ct_tn (ct_tn (ct_tn (ct_tl (ct_aload _ _)) (ct_tn (ct_tl (ct_iload _ _)) (ct_tl (ct_call _ _ _ _ _ _ _)))) (ct_tn (ct_tn (ct_tl (ct_ifne _ _)) (ct_tl (ct_push _ _))) (ct_tn (ct_tl (ct_iret)) (ct_tl (ct_aload _ _))))) (ct_tn (ct_tn (ct_tn (ct_tl (ct_getI _ _ _)) (ct_tl (ct_push _ _))) (ct_tn (ct_tl (ct_clt _ _)) (ct_tl (ct_push _ _)))) (ct_tn (ct_tn (ct_tl (ct_iret)) (ct_tl (ct_aload _ _))) (ct_tn (ct_tl (ct_getR _ _ _)) (ct_tl (ct_aload _ _)))))) (ct_tn (ct_tn (ct_tn (ct_tl (ct_getI _ _ _)) (ct_tn (ct_tl (ct_aald _)) (ct_tl (ct_iload _ _)))) (ct_tn (ct_tn (ct_tl (ct_call _ _ _ _ _ _ _)) (ct_tl (ct_aload _ _))) (ct_tn (ct_tl (ct_dup _)) (ct_tl (ct_getI _ _ _))))) (ct_tn (ct_tn (ct_tn (ct_tl (ct_push _ _)) (ct_tl (ct_iadd _))) (ct_tn (ct_tl (ct_putI _ _ _)) (ct_tl (ct_aload _ _)))) (ct_tn (ct_tn (ct_tl (ct_getI _ _ _)) (ct_tl (ct_push _ _))) (ct_tn (ct_tl (ct_isub _)) (ct_tl (ct_iret)))))))
def t_T_step : Nat → pm_S := (pm_tn 57 (pm_tn 26 (pm_tn 13 (pm_tn 5 (pm_tn 1 (pm_tl 0 (s_aload 0 1)) (pm_tn 2 (pm_tl 1 (s_iload 1 2)) (pm_tl 2 (s_call 77 2 0 6 1 (fun _ => 0) 5)))) (pm_tn 9 (pm_tn 8 (pm_tl 5 (s_ifeq 16 8)) (pm_tl 8 (s_aload 0 9))) (pm_tn 10 (pm_tl 9 (s_iload 2 10)) (pm_tl 10 (s_call 76 2 0 6 1 (fun _ => 0) 13))))) (pm_tn 19 (pm_tn 17 (pm_tn 16 (pm_tl 13 (s_ifne 18 16)) (pm_tl 16 (s_push (-1) 17))) (pm_tn 18 (pm_tl 17 (s_iret)) (pm_tl 18 (s_aload 0 19)))) (pm_tn 23 (pm_tn 22 (pm_tl 19 (s_getR 6 2 22)) (pm_tl 22 (s_iload 1 23))) (pm_tn 24 (pm_tl 23 (s_aald 24)) (pm_tl 24 (s_astore 4 26)))))) (pm_tn 42 (pm_tn 34 (pm_tn 30 (pm_tn 27 (pm_tl 26 (s_iload 3 27)) (pm_tl 27 (s_ifeq 42 30))) (pm_tn 31 (pm_tl 30 (s_aload 0 31)) (pm_tl 31 (s_getR 6 1 34)))) (pm_tn 38 (pm_tn 37 (pm_tl 34 (s_getR 1 4 37)) (pm_tl 37 (s_iload 2 38))) (pm_tn 39 (pm_tl 38 (s_iald 39)) (pm_tl 39 (s_goto 51))))) (pm_tn 50 (pm_tn 46 (pm_tn 43 (pm_tl 42 (s_aload 0 43)) (pm_tl 43 (s_getR 6 1 46))) (pm_tn 49 (pm_tl 46 (s_getR 1 3 49)) (pm_tl 49 (s_iload 2 50)))) (pm_tn 53 (pm_tn 51 (pm_tl 50 (s_iald 51)) (pm_tl 51 (s_istore 5 53))) (pm_tn 54 (pm_tl 53 (s_iload 3 54)) (pm_tl 54 (s_ifeq 69 57))))))) (pm_tn 90 (pm_tn 73 (pm_tn 65 (pm_tn 61 (pm_tn 58 (pm_tl 57 (s_aload 0 58)) (pm_tl 58 (s_getR 6 1 61))) (pm_tn 64 (pm_tl 61 (s_getR 1 3 64)) (pm_tl 64 (s_iload 2 65)))) (pm_tn 69 (pm_tn 66 (pm_tl 65 (s_iald 66)) (pm_tl 66 (s_goto 78))) (pm_tn 70 (pm_tl 69 (s_aload 0 70)) (pm_tl 70 (s_getR 6 1 73))))) (pm_tn 80 (pm_tn 77 (pm_tn 76 (pm_tl 73 (s_getR 1 4 76)) (pm_tl 76 (s_iload 2 77))) (pm_tn 78 (pm_tl 77 (s_iald 78)) (pm_tl 78 (s_istore 6 80)))) (pm_tn 84 (pm_tn 82 (pm_tl 80 (s_iload 5 82)) (pm_tl 82 (s_aload 4 84))) (pm_tn 87 (pm_tl 84 (s_getI 5 1 87)) (pm_tl 87 (s_ceq 93 90)))))) (pm_tn 106 (pm_tn 98 (pm_tn 93 (pm_tn 92 (pm_tl 90 (s_push (-2) 92)) (pm_tl 92 (s_iret))) (pm_tn 95 (pm_tl 93 (s_aload 4 95)) (pm_tl 95 (s_getI 5 2 98)))) (pm_tn 103 (pm_tn 100 (pm_tl 98 (s_push 6 100)) (pm_tl 100 (s_clt 106 103))) (pm_tn 105 (pm_tl 103 (s_push (-3) 105)) (pm_tl 105 (s_iret))))) (pm_tn 112 (pm_tn 109 (pm_tn 108 (pm_tl 106 (s_aload 4 108)) (pm_tl 108 (s_iload 2 109))) (pm_tn 110 (pm_tl 109 (s_iload 3 110)) (pm_tl 110 (s_iload 6 112)))) (pm_tn 117 (pm_tn 115 (pm_tl 112 (s_call 41 4 0 5 0 (fun _ => 0) 115)) (pm_tl 115 (s_aload 4 117))) (pm_tn 120 (pm_tl 117 (s_getI 5 2 120)) (pm_tl 120 (s_iret))))))))
theorem tc_T_step : ∀ pc, pm_Ct (t_T_step pc) := (ct_tn (ct_tn (ct_tn (ct_tn (ct_tn (ct_tl (ct_aload _ _)) (ct_tn (ct_tl (ct_iload _ _)) (ct_tl (ct_call _ _ _ _ _ _ _)))) (ct_tn (ct_tn (ct_tl (ct_ifeq _ _)) (ct_tl (ct_aload _ _))) (ct_tn (ct_tl (ct_iload _ _)) (ct_tl (ct_call _ _ _ _ _ _ _))))) (ct_tn (ct_tn (ct_tn (ct_tl (ct_ifne _ _)) (ct_tl (ct_push _ _))) (ct_tn (ct_tl (ct_iret)) (ct_tl (ct_aload _ _)))) (ct_tn (ct_tn (ct_tl (ct_getR _ _ _)) (ct_tl (ct_iload _ _))) (ct_tn (ct_tl (ct_aald _)) (ct_tl (ct_astore _ _)))))) (ct_tn (ct_tn (ct_tn (ct_tn (ct_tl (ct_iload _ _)) (ct_tl (ct_ifeq _ _))) (ct_tn (ct_tl (ct_aload _ _)) (ct_tl (ct_getR _ _ _)))) (ct_tn (ct_tn (ct_tl (ct_getR _ _ _)) (ct_tl (ct_iload _ _))) (ct_tn (ct_tl (ct_iald _)) (ct_tl (ct_goto _))))) (ct_tn (ct_tn (ct_tn (ct_tl (ct_aload _ _)) (ct_tl (ct_getR _ _ _))) (ct_tn (ct_tl (ct_getR _ _ _)) (ct_tl (ct_iload _ _)))) (ct_tn (ct_tn (ct_tl (ct_iald _)) (ct_tl (ct_istore _ _))) (ct_tn (ct_tl (ct_iload _ _)) (ct_tl (ct_ifeq _ _))))))) (ct_tn (ct_tn (ct_tn (ct_tn (ct_tn (ct_tl (ct_aload _ _)) (ct_tl (ct_getR _ _ _))) (ct_tn (ct_tl (ct_getR _ _ _)) (ct_tl (ct_iload _ _)))) (ct_tn (ct_tn (ct_tl (ct_iald _)) (ct_tl (ct_goto _))) (ct_tn (ct_tl (ct_aload _ _)) (ct_tl (ct_getR _ _ _))))) (ct_tn (ct_tn (ct_tn (ct_tl (ct_getR _ _ _)) (ct_tl (ct_iload _ _))) (ct_tn (ct_tl (ct_iald _)) (ct_tl (ct_istore _ _)))) (ct_tn (ct_tn (ct_tl (ct_iload _ _)) (ct_tl (ct_aload _ _))) (ct_tn (ct_tl (ct_getI _ _ _)) (ct_tl (ct_ceq _ _)))))) (ct_tn (ct_tn (ct_tn (ct_tn (ct_tl (ct_push _ _)) (ct_tl (ct_iret))) (ct_tn (ct_tl (ct_aload _ _)) (ct_tl (ct_getI _ _ _)))) (ct_tn (ct_tn (ct_tl (ct_push _ _)) (ct_tl (ct_clt _ _))) (ct_tn (ct_tl (ct_push _ _)) (ct_tl (ct_iret))))) (ct_tn (ct_tn (ct_tn (ct_tl (ct_aload _ _)) (ct_tl (ct_iload _ _))) (ct_tn (ct_tl (ct_iload _ _)) (ct_tl (ct_iload _ _)))) (ct_tn (ct_tn (ct_tl (ct_call _ _ _ _ _ _ _)) (ct_tl (ct_aload _ _))) (ct_tn (ct_tl (ct_getI _ _ _)) (ct_tl (ct_iret))))))))
def t_T_counts : Nat → pm_S := (pm_tn 22 (pm_tn 10 (pm_tn 5 (pm_tn 1 (pm_tl 0 (s_aload 0 1)) (pm_tn 2 (pm_tl 1 (s_iload 1 2)) (pm_tl 2 (s_call 77 2 0 6 1 (fun _ => 0) 5)))) (pm_tn 8 (pm_tl 5 (s_ifne 10 8)) (pm_tn 9 (pm_tl 8 (s_push (-1) 9)) (pm_tl 9 (s_iret))))) (pm_tn 15 (pm_tn 11 (pm_tl 10 (s_aload 0 11)) (pm_tn 14 (pm_tl 11 (s_getR 6 2 14)) (pm_tl 14 (s_iload 1 15)))) (pm_tn 16 (pm_tl 15 (s_aald 16)) (pm_tn 19 (pm_tl 16 (s_getI 5 3 19)) (pm_tl 19 (s_ifeq 26 22)))))) (pm_tn 32 (pm_tn 27 (pm_tn 23 (pm_tl 22 (s_push 1 23)) (pm_tn 26 (pm_tl 23 (s_goto 27)) (pm_tl 26 (s_push 0 27)))) (pm_tn 28 (pm_tl 27 (s_istore 3 28)) (pm_tn 29 (pm_tl 28 (s_aload 0 29)) (pm_tl 29 (s_getR 6 2 32))))) (pm_tn 35 (pm_tn 33 (pm_tl 32 (s_iload 1 33)) (pm_tn 34 (pm_tl 33 (s_aald 34)) (pm_tl 34 (s_iload 2 35)))) (pm_tn 38 (pm_tl 35 (s_putZ 5 3 38)) (pm_tn 39 (pm_tl 38 (s_iload 3 39)) (pm_tl 39 (s_iret)))))))
theorem tc_T_counts : ∀ pc, pm_Ct (t_T_counts pc) := (ct_tn (ct_tn (ct_tn (ct_tn (ct_tl (ct_aload _ _)) (ct_tn (ct_tl (ct_iload _ _)) (ct_tl (ct_call _ _ _ _ _ _ _)))) (ct_tn (ct_tl (ct_ifne _ _)) (ct_tn (ct_tl (ct_push _ _)) (ct_tl (ct_iret))))) (ct_tn (ct_tn (ct_tl (ct_aload _ _)) (ct_tn (ct_tl (ct_getR _ _ _)) (ct_tl (ct_iload _ _)))) (ct_tn (ct_tl (ct_aald _)) (ct_tn (ct_tl (ct_getI _ _ _)) (ct_tl (ct_ifeq _ _)))))) (ct_tn (ct_tn (ct_tn (ct_tl (ct_push _ _)) (ct_tn (ct_tl (ct_goto _)) (ct_tl (ct_push _ _)))) (ct_tn (ct_tl (ct_istore _ _)) (ct_tn (ct_tl (ct_aload _ _)) (ct_tl (ct_getR _ _ _))))) (ct_tn (ct_tn (ct_tl (ct_iload _ _)) (ct_tn (ct_tl (ct_aald _)) (ct_tl (ct_iload _ _)))) (ct_tn (ct_tl (ct_putZ _ _ _)) (ct_tn (ct_tl (ct_iload _ _)) (ct_tl (ct_iret)))))))
def t_T_told : Nat → pm_S := (pm_tn 66 (pm_tn 16 (pm_tn 9 (pm_tn 2 (pm_tn 1 (pm_tl 0 (s_aload 0 1)) (pm_tl 1 (s_iload 1 2))) (pm_tn 5 (pm_tl 2 (s_call 77 2 0 6 1 (fun _ => 0) 5)) (pm_tn 8 (pm_tl 5 (s_ifne 10 8)) (pm_tl 8 (s_push (-1) 9))))) (pm_tn 11 (pm_tn 10 (pm_tl 9 (s_iret)) (pm_tl 10 (s_aload 0 11))) (pm_tn 14 (pm_tl 11 (s_getR 6 2 14)) (pm_tn 15 (pm_tl 14 (s_iload 1 15)) (pm_tl 15 (s_aald 16)))))) (pm_tn 56 (pm_tn 18 (pm_tn 17 (pm_tl 16 (s_astore 3 17)) (pm_tl 17 (s_iload 2 18))) (pm_tn 52 (pm_tl 18 (s_switch [(0, 52), (1, 57), (2, 62), (3, 75), (4, 91)] 104)) (pm_tn 53 (pm_tl 52 (s_aload 3 53)) (pm_tl 53 (s_getI 5 2 56))))) (pm_tn 61 (pm_tn 57 (pm_tl 56 (s_iret)) (pm_tn 58 (pm_tl 57 (s_aload 3 58)) (pm_tl 58 (s_getI 5 1 61)))) (pm_tn 62 (pm_tl 61 (s_iret)) (pm_tn 63 (pm_tl 62 (s_aload 3 63)) (pm_tl 63 (s_call 42 1 0 5 1 (fun _ => 0) 66))))))) (pm_tn 87 (pm_tn 75 (pm_tn 70 (pm_tn 69 (pm_tl 66 (s_ifeq 73 69)) (pm_tl 69 (s_push 1 70))) (pm_tn 73 (pm_tl 70 (s_goto 74)) (pm_tn 74 (pm_tl 73 (s_push 0 74)) (pm_tl 74 (s_iret))))) (pm_tn 80 (pm_tn 76 (pm_tl 75 (s_aload 3 76)) (pm_tn 77 (pm_tl 76 (s_aload 0 77)) (pm_tl 77 (s_getR 6 1 80)))) (pm_tn 83 (pm_tl 80 (s_getR 1 5 83)) (pm_tn 84 (pm_tl 83 (s_aload 0 84)) (pm_tl 84 (s_getR 6 0 87)))))) (pm_tn 98 (pm_tn 91 (pm_tn 90 (pm_tl 87 (s_call 44 3 3 5 1 (fun _ => 1) 90)) (pm_tl 90 (s_iret))) (pm_tn 92 (pm_tl 91 (s_aload 3 92)) (pm_tn 95 (pm_tl 92 (s_getI 5 3 95)) (pm_tl 95 (s_ifeq 102 98))))) (pm_tn 103 (pm_tn 99 (pm_tl 98 (s_push 1 99)) (pm_tn 102 (pm_tl 99 (s_goto 103)) (pm_tl 102 (s_push 0 103)))) (pm_tn 104 (pm_tl 103 (s_iret)) (pm_tn 105 (pm_tl 104 (s_push (-1) 105)) (pm_tl 105 (s_iret))))))))
theorem tc_T_told : ∀ pc, pm_Ct (t_T_told pc) := (ct_tn (ct_tn (ct_tn (ct_tn (ct_tn (ct_tl (ct_aload _ _)) (ct_tl (ct_iload _ _))) (ct_tn (ct_tl (ct_call _ _ _ _ _ _ _)) (ct_tn (ct_tl (ct_ifne _ _)) (ct_tl (ct_push _ _))))) (ct_tn (ct_tn (ct_tl (ct_iret)) (ct_tl (ct_aload _ _))) (ct_tn (ct_tl (ct_getR _ _ _)) (ct_tn (ct_tl (ct_iload _ _)) (ct_tl (ct_aald _)))))) (ct_tn (ct_tn (ct_tn (ct_tl (ct_astore _ _)) (ct_tl (ct_iload _ _))) (ct_tn (ct_tl (ct_switch _ _)) (ct_tn (ct_tl (ct_aload _ _)) (ct_tl (ct_getI _ _ _))))) (ct_tn (ct_tn (ct_tl (ct_iret)) (ct_tn (ct_tl (ct_aload _ _)) (ct_tl (ct_getI _ _ _)))) (ct_tn (ct_tl (ct_iret)) (ct_tn (ct_tl (ct_aload _ _)) (ct_tl (ct_call _ _ _ _ _ _ _))))))) (ct_tn (ct_tn (ct_tn (ct_tn (ct_tl (ct_ifeq _ _)) (ct_tl (ct_push _ _))) (ct_tn (ct_tl (ct_goto _)) (ct_tn (ct_tl (ct_push _ _)) (ct_tl (ct_iret))))) (ct_tn (ct_tn (ct_tl (ct_aload _ _)) (ct_tn (ct_tl (ct_aload _ _)) (ct_tl (ct_getR _ _ _)))) (ct_tn (ct_tl (ct_getR _ _ _)) (ct_tn (ct_tl (ct_aload _ _)) (ct_tl (ct_getR _ _ _)))))) (ct_tn (ct_tn (ct_tn (ct_tl (ct_call _ _ _ _ _ _ _)) (ct_tl (ct_iret))) (ct_tn (ct_tl (ct_aload _ _)) (ct_tn (ct_tl (ct_getI _ _ _)) (ct_tl (ct_ifeq _ _))))) (ct_tn (ct_tn (ct_tl (ct_push _ _)) (ct_tn (ct_tl (ct_goto _)) (ct_tl (ct_push _ _)))) (ct_tn (ct_tl (ct_iret)) (ct_tn (ct_tl (ct_push _ _)) (ct_tl (ct_iret))))))))
def t_T_drop : Nat → pm_S := (pm_tn 12 (pm_tn 7 (pm_tn 1 (pm_tl 0 (s_aload 0 1)) (pm_tn 4 (pm_tl 1 (s_getI 6 3 4)) (pm_tl 4 (s_ifgt 10 7)))) (pm_tn 10 (pm_tn 9 (pm_tl 7 (s_push (-4) 9)) (pm_tl 9 (s_iret))) (pm_tn 11 (pm_tl 10 (s_aload 0 11)) (pm_tl 11 (s_dup 12))))) (pm_tn 17 (pm_tn 15 (pm_tl 12 (s_getI 6 3 15)) (pm_tn 16 (pm_tl 15 (s_push 1 16)) (pm_tl 16 (s_isub 17)))) (pm_tn 21 (pm_tn 20 (pm_tl 17 (s_putI 6 3 20)) (pm_tl 20 (s_aload 0 21))) (pm_tn 24 (pm_tl 21 (s_getI 6 3 24)) (pm_tl 24 (s_iret))))))
theorem tc_T_drop : ∀ pc, pm_Ct (t_T_drop pc) := (ct_tn (ct_tn (ct_tn (ct_tl (ct_aload _ _)) (ct_tn (ct_tl (ct_getI _ _ _)) (ct_tl (ct_ifgt _ _)))) (ct_tn (ct_tn (ct_tl (ct_push _ _)) (ct_tl (ct_iret))) (ct_tn (ct_tl (ct_aload _ _)) (ct_tl (ct_dup _))))) (ct_tn (ct_tn (ct_tl (ct_getI _ _ _)) (ct_tn (ct_tl (ct_push _ _)) (ct_tl (ct_isub _)))) (ct_tn (ct_tn (ct_tl (ct_putI _ _ _)) (ct_tl (ct_aload _ _))) (ct_tn (ct_tl (ct_getI _ _ _)) (ct_tl (ct_iret))))))
def t_T_set : Nat → pm_S := (pm_tn 27 (pm_tn 13 (pm_tn 5 (pm_tn 1 (pm_tl 0 (s_aload 0 1)) (pm_tn 2 (pm_tl 1 (s_iload 1 2)) (pm_tl 2 (s_call 76 2 0 6 1 (fun _ => 0) 5)))) (pm_tn 9 (pm_tn 8 (pm_tl 5 (s_ifeq 16 8)) (pm_tl 8 (s_aload 0 9))) (pm_tn 10 (pm_tl 9 (s_iload 2 10)) (pm_tl 10 (s_call 74 2 0 6 1 (fun _ => 0) 13))))) (pm_tn 19 (pm_tn 17 (pm_tn 16 (pm_tl 13 (s_ifne 18 16)) (pm_tl 16 (s_push (-1) 17))) (pm_tn 18 (pm_tl 17 (s_iret)) (pm_tl 18 (s_aload 0 19)))) (pm_tn 25 (pm_tn 22 (pm_tl 19 (s_getR 6 1 22)) (pm_tl 22 (s_getR 1 5 25))) (pm_tn 26 (pm_tl 25 (s_iload 1 26)) (pm_tl 26 (s_iald 27)))))) (pm_tn 42 (pm_tn 32 (pm_tn 28 (pm_tl 27 (s_istore 3 28)) (pm_tn 29 (pm_tl 28 (s_aload 0 29)) (pm_tl 29 (s_getR 6 4 32)))) (pm_tn 36 (pm_tn 33 (pm_tl 32 (s_aload 0 33)) (pm_tl 33 (s_getR 6 1 36))) (pm_tn 39 (pm_tl 36 (s_getR 1 5 39)) (pm_tl 39 (s_call 0 2 0 0 0 (fun _ => 1) 42))))) (pm_tn 50 (pm_tn 46 (pm_tn 43 (pm_tl 42 (s_aload 0 43)) (pm_tl 43 (s_getR 6 1 46))) (pm_tn 49 (pm_tl 46 (s_getR 1 5 49)) (pm_tl 49 (s_iload 1 50)))) (pm_tn 52 (pm_tn 51 (pm_tl 50 (s_iload 2 51)) (pm_tl 51 (s_iast 52))) (pm_tn 53 (pm_tl 52 (s_iload 3 53)) (pm_tl 53 (s_iret)))))))
theorem tc_T_set : ∀ pc, pm_Ct (t_T_set pc) := (ct_tn (ct_tn (ct_tn (ct_tn (ct_tl (ct_aload _ _)) (ct_tn (ct_tl (ct_iload _ _)) (ct_tl (ct_call _ _ _ _ _ _ _)))) (ct_tn (ct_tn (ct_tl (ct_ifeq _ _)) (ct_tl (ct_aload _ _))) (ct_tn (ct_tl (ct_iload _ _)) (ct_tl (ct_call _ _ _ _ _ _ _))))) (ct_tn (ct_tn (ct_tn (ct_tl (ct_ifne _ _)) (ct_tl (ct_push _ _))) (ct_tn (ct_tl (ct_iret)) (ct_tl (ct_aload _ _)))) (ct_tn (ct_tn (ct_tl (ct_getR _ _ _)) (ct_tl (ct_getR _ _ _))) (ct_tn (ct_tl (ct_iload _ _)) (ct_tl (ct_iald _)))))) (ct_tn (ct_tn (ct_tn (ct_tl (ct_istore _ _)) (ct_tn (ct_tl (ct_aload _ _)) (ct_tl (ct_getR _ _ _)))) (ct_tn (ct_tn (ct_tl (ct_aload _ _)) (ct_tl (ct_getR _ _ _))) (ct_tn (ct_tl (ct_getR _ _ _)) (ct_tl (ct_call _ _ _ _ _ _ _))))) (ct_tn (ct_tn (ct_tn (ct_tl (ct_aload _ _)) (ct_tl (ct_getR _ _ _))) (ct_tn (ct_tl (ct_getR _ _ _)) (ct_tl (ct_iload _ _)))) (ct_tn (ct_tn (ct_tl (ct_iload _ _)) (ct_tl (ct_iast _))) (ct_tn (ct_tl (ct_iload _ _)) (ct_tl (ct_iret)))))))
def t_T_at : Nat → pm_S := (pm_tn 12 (pm_tn 5 (pm_tn 1 (pm_tl 0 (s_aload 0 1)) (pm_tn 2 (pm_tl 1 (s_iload 1 2)) (pm_tl 2 (s_call 76 2 0 6 1 (fun _ => 0) 5)))) (pm_tn 8 (pm_tl 5 (s_ifeq 20 8)) (pm_tn 9 (pm_tl 8 (s_aload 0 9)) (pm_tl 9 (s_getR 6 1 12))))) (pm_tn 17 (pm_tn 15 (pm_tl 12 (s_getR 1 5 15)) (pm_tn 16 (pm_tl 15 (s_iload 1 16)) (pm_tl 16 (s_iald 17)))) (pm_tn 20 (pm_tl 17 (s_goto 21)) (pm_tn 21 (pm_tl 20 (s_push (-1) 21)) (pm_tl 21 (s_iret))))))
theorem tc_T_at : ∀ pc, pm_Ct (t_T_at pc) := (ct_tn (ct_tn (ct_tn (ct_tl (ct_aload _ _)) (ct_tn (ct_tl (ct_iload _ _)) (ct_tl (ct_call _ _ _ _ _ _ _)))) (ct_tn (ct_tl (ct_ifeq _ _)) (ct_tn (ct_tl (ct_aload _ _)) (ct_tl (ct_getR _ _ _))))) (ct_tn (ct_tn (ct_tl (ct_getR _ _ _)) (ct_tn (ct_tl (ct_iload _ _)) (ct_tl (ct_iald _)))) (ct_tn (ct_tl (ct_goto _)) (ct_tn (ct_tl (ct_push _ _)) (ct_tl (ct_iret))))))
def t_T_weight : Nat → pm_S := (pm_tn 32 (pm_tn 13 (pm_tn 4 (pm_tn 2 (pm_tn 1 (pm_tl 0 (s_lpush 1 1)) (pm_tl 1 (s_lstore 1 2))) (pm_tn 3 (pm_tl 2 (s_push 0 3)) (pm_tl 3 (s_K 4 [true, true, false, true] (s_istore 3 4))))) (pm_tn 6 (pm_tn 5 (pm_tl 4 (s_iload 3 5)) (pm_tl 5 (s_aload 0 6))) (pm_tn 9 (pm_tl 6 (s_getI 6 3 9)) (pm_tn 12 (pm_tl 9 (s_cge 62 12)) (pm_tl 12 (s_aload 0 13)))))) (pm_tn 21 (pm_tn 17 (pm_tn 16 (pm_tl 13 (s_getR 6 2 16)) (pm_tl 16 (s_iload 3 17))) (pm_tn 18 (pm_tl 17 (s_aald 18)) (pm_tl 18 (s_call 43 1 0 5 1 (fun _ => 1) 21)))) (pm_tn 25 (pm_tn 24 (pm_tl 21 (s_ifeq 56 24)) (pm_tl 24 (s_lload 1 25))) (pm_tn 26 (pm_tl 25 (s_aload 0 26)) (pm_tn 29 (pm_tl 26 (s_getR 6 0 29)) (pm_tl 29 (s_getR 2 5 32))))))) (pm_tn 49 (pm_tn 38 (pm_tn 36 (pm_tn 33 (pm_tl 32 (s_aload 0 33)) (pm_tl 33 (s_getR 6 2 36))) (pm_tn 37 (pm_tl 36 (s_iload 3 37)) (pm_tl 37 (s_aald 38)))) (pm_tn 42 (pm_tn 39 (pm_tl 38 (s_aload 0 39)) (pm_tl 39 (s_getR 6 1 42))) (pm_tn 45 (pm_tl 42 (s_getR 1 5 45)) (pm_tn 46 (pm_tl 45 (s_aload 0 46)) (pm_tl 46 (s_getR 6 0 49)))))) (pm_tn 55 (pm_tn 53 (pm_tn 52 (pm_tl 49 (s_call 44 3 3 5 1 (fun _ => 1) 52)) (pm_tl 52 (s_iald 53))) (pm_tn 54 (pm_tl 53 (s_i2l 54)) (pm_tl 54 (s_lmul 55)))) (pm_tn 59 (pm_tn 56 (pm_tl 55 (s_lstore 1 56)) (pm_tl 56 (s_iinc 3 1 59))) (pm_tn 62 (pm_tl 59 (s_K 4 [true, true, false, true] (s_goto 4))) (pm_tn 63 (pm_tl 62 (s_lload 1 63)) (pm_tl 63 (s_lret))))))))
theorem tc_T_weight : ∀ pc, pm_Ct (t_T_weight pc) := (ct_tn (ct_tn (ct_tn (ct_tn (ct_tn (ct_tl (ct_lpush _ _)) (ct_tl (ct_lstore _ _))) (ct_tn (ct_tl (ct_push _ _)) (ct_tl (ct_K (ct_istore _ _))))) (ct_tn (ct_tn (ct_tl (ct_iload _ _)) (ct_tl (ct_aload _ _))) (ct_tn (ct_tl (ct_getI _ _ _)) (ct_tn (ct_tl (ct_cge _ _)) (ct_tl (ct_aload _ _)))))) (ct_tn (ct_tn (ct_tn (ct_tl (ct_getR _ _ _)) (ct_tl (ct_iload _ _))) (ct_tn (ct_tl (ct_aald _)) (ct_tl (ct_call _ _ _ _ _ _ _)))) (ct_tn (ct_tn (ct_tl (ct_ifeq _ _)) (ct_tl (ct_lload _ _))) (ct_tn (ct_tl (ct_aload _ _)) (ct_tn (ct_tl (ct_getR _ _ _)) (ct_tl (ct_getR _ _ _))))))) (ct_tn (ct_tn (ct_tn (ct_tn (ct_tl (ct_aload _ _)) (ct_tl (ct_getR _ _ _))) (ct_tn (ct_tl (ct_iload _ _)) (ct_tl (ct_aald _)))) (ct_tn (ct_tn (ct_tl (ct_aload _ _)) (ct_tl (ct_getR _ _ _))) (ct_tn (ct_tl (ct_getR _ _ _)) (ct_tn (ct_tl (ct_aload _ _)) (ct_tl (ct_getR _ _ _)))))) (ct_tn (ct_tn (ct_tn (ct_tl (ct_call _ _ _ _ _ _ _)) (ct_tl (ct_iald _))) (ct_tn (ct_tl (ct_i2l _)) (ct_tl (ct_lmul _)))) (ct_tn (ct_tn (ct_tl (ct_lstore _ _)) (ct_tl (ct_iinc _ _ _))) (ct_tn (ct_tl (ct_K (ct_goto _))) (ct_tn (ct_tl (ct_lload _ _)) (ct_tl (ct_lret))))))))
def t_T_twist : Nat → pm_S := (pm_tn 23 (pm_tn 10 (pm_tn 5 (pm_tn 1 (pm_tl 0 (s_aload 0 1)) (pm_tn 2 (pm_tl 1 (s_iload 1 2)) (pm_tl 2 (s_call 75 2 0 6 1 (fun _ => 0) 5)))) (pm_tn 8 (pm_tl 5 (s_ifeq 16 8)) (pm_tn 9 (pm_tl 8 (s_aload 0 9)) (pm_tl 9 (s_iload 2 10))))) (pm_tn 17 (pm_tn 13 (pm_tl 10 (s_call 74 2 0 6 1 (fun _ => 0) 13)) (pm_tn 16 (pm_tl 13 (s_ifne 18 16)) (pm_tl 16 (s_push (-1) 17)))) (pm_tn 19 (pm_tn 18 (pm_tl 17 (s_iret)) (pm_tl 18 (s_aload 0 19))) (pm_tn 22 (pm_tl 19 (s_getR 6 4 22)) (pm_tl 22 (s_aload 0 23)))))) (pm_tn 38 (pm_tn 32 (pm_tn 26 (pm_tl 23 (s_getR 6 1 26)) (pm_tn 29 (pm_tl 26 (s_getR 1 5 29)) (pm_tl 29 (s_call 0 2 0 0 0 (fun _ => 1) 32)))) (pm_tn 36 (pm_tn 33 (pm_tl 32 (s_aload 0 33)) (pm_tl 33 (s_getR 6 1 36))) (pm_tn 37 (pm_tl 36 (s_iload 1 37)) (pm_tl 37 (s_iload 2 38))))) (pm_tn 45 (pm_tn 41 (pm_tl 38 (s_call 7 3 1 1 0 (fun _ => 0) 41)) (pm_tn 42 (pm_tl 41 (s_aload 0 42)) (pm_tl 42 (s_getR 6 1 45)))) (pm_tn 49 (pm_tn 46 (pm_tl 45 (s_aload 0 46)) (pm_tl 46 (s_getR 6 0 49))) (pm_tn 52 (pm_tl 49 (s_call 10 2 4 1 1 (fun _ => 1) 52)) (pm_tl 52 (s_iret)))))))
theorem tc_T_twist : ∀ pc, pm_Ct (t_T_twist pc) := (ct_tn (ct_tn (ct_tn (ct_tn (ct_tl (ct_aload _ _)) (ct_tn (ct_tl (ct_iload _ _)) (ct_tl (ct_call _ _ _ _ _ _ _)))) (ct_tn (ct_tl (ct_ifeq _ _)) (ct_tn (ct_tl (ct_aload _ _)) (ct_tl (ct_iload _ _))))) (ct_tn (ct_tn (ct_tl (ct_call _ _ _ _ _ _ _)) (ct_tn (ct_tl (ct_ifne _ _)) (ct_tl (ct_push _ _)))) (ct_tn (ct_tn (ct_tl (ct_iret)) (ct_tl (ct_aload _ _))) (ct_tn (ct_tl (ct_getR _ _ _)) (ct_tl (ct_aload _ _)))))) (ct_tn (ct_tn (ct_tn (ct_tl (ct_getR _ _ _)) (ct_tn (ct_tl (ct_getR _ _ _)) (ct_tl (ct_call _ _ _ _ _ _ _)))) (ct_tn (ct_tn (ct_tl (ct_aload _ _)) (ct_tl (ct_getR _ _ _))) (ct_tn (ct_tl (ct_iload _ _)) (ct_tl (ct_iload _ _))))) (ct_tn (ct_tn (ct_tl (ct_call _ _ _ _ _ _ _)) (ct_tn (ct_tl (ct_aload _ _)) (ct_tl (ct_getR _ _ _)))) (ct_tn (ct_tn (ct_tl (ct_aload _ _)) (ct_tl (ct_getR _ _ _))) (ct_tn (ct_tl (ct_call _ _ _ _ _ _ _)) (ct_tl (ct_iret)))))))
def t_T_still : Nat → pm_S := (pm_tn 18 (pm_tn 8 (pm_tn 4 (pm_tn 1 (pm_tl 0 (s_aload 0 1)) (pm_tl 1 (s_getR 6 4 4))) (pm_tn 5 (pm_tl 4 (s_aload 0 5)) (pm_tl 5 (s_getR 6 1 8)))) (pm_tn 14 (pm_tn 11 (pm_tl 8 (s_getR 1 5 11)) (pm_tl 11 (s_call 0 2 0 0 0 (fun _ => 1) 14))) (pm_tn 15 (pm_tl 14 (s_aload 0 15)) (pm_tl 15 (s_getR 6 1 18))))) (pm_tn 26 (pm_tn 22 (pm_tn 19 (pm_tl 18 (s_aload 0 19)) (pm_tl 19 (s_getR 6 0 22))) (pm_tn 25 (pm_tl 22 (s_call 8 2 2 1 0 (fun _ => 2) 25)) (pm_tl 25 (s_aload 0 26)))) (pm_tn 30 (pm_tn 29 (pm_tl 26 (s_getR 6 1 29)) (pm_tl 29 (s_aload 0 30))) (pm_tn 33 (pm_tl 30 (s_getR 6 0 33)) (pm_tn 36 (pm_tl 33 (s_call 10 2 4 1 1 (fun _ => 1) 36)) (pm_tl 36 (s_iret)))))))
theorem tc_T_still : ∀ pc, pm_Ct (t_T_still pc) := (ct_tn (ct_tn (ct_tn (ct_tn (ct_tl (ct_aload _ _)) (ct_tl (ct_getR _ _ _))) (ct_tn (ct_tl (ct_aload _ _)) (ct_tl (ct_getR _ _ _)))) (ct_tn (ct_tn (ct_tl (ct_getR _ _ _)) (ct_tl (ct_call _ _ _ _ _ _ _))) (ct_tn (ct_tl (ct_aload _ _)) (ct_tl (ct_getR _ _ _))))) (ct_tn (ct_tn (ct_tn (ct_tl (ct_aload _ _)) (ct_tl (ct_getR _ _ _))) (ct_tn (ct_tl (ct_call _ _ _ _ _ _ _)) (ct_tl (ct_aload _ _)))) (ct_tn (ct_tn (ct_tl (ct_getR _ _ _)) (ct_tl (ct_aload _ _))) (ct_tn (ct_tl (ct_getR _ _ _)) (ct_tn (ct_tl (ct_call _ _ _ _ _ _ _)) (ct_tl (ct_iret)))))))
def t_T_undo : Nat → pm_S := (pm_tn 14 (pm_tn 5 (pm_tn 1 (pm_tl 0 (s_aload 0 1)) (pm_tn 4 (pm_tl 1 (s_getR 6 4 4)) (pm_tl 4 (s_aload 0 5)))) (pm_tn 8 (pm_tl 5 (s_getR 6 1 8)) (pm_tn 11 (pm_tl 8 (s_getR 1 5 11)) (pm_tl 11 (s_call 1 2 0 0 1 (fun _ => 1) 14))))) (pm_tn 21 (pm_tn 17 (pm_tl 14 (s_ifeq 27 17)) (pm_tn 18 (pm_tl 17 (s_aload 0 18)) (pm_tl 18 (s_getR 6 4 21)))) (pm_tn 27 (pm_tn 24 (pm_tl 21 (s_getI 0 0 24)) (pm_tl 24 (s_goto 29))) (pm_tn 29 (pm_tl 27 (s_push (-4) 29)) (pm_tl 29 (s_iret))))))
theorem tc_T_undo : ∀ pc, pm_Ct (t_T_undo pc) := (ct_tn (ct_tn (ct_tn (ct_tl (ct_aload _ _)) (ct_tn (ct_tl (ct_getR _ _ _)) (ct_tl (ct_aload _ _)))) (ct_tn (ct_tl (ct_getR _ _ _)) (ct_tn (ct_tl (ct_getR _ _ _)) (ct_tl (ct_call _ _ _ _ _ _ _))))) (ct_tn (ct_tn (ct_tl (ct_ifeq _ _)) (ct_tn (ct_tl (ct_aload _ _)) (ct_tl (ct_getR _ _ _)))) (ct_tn (ct_tn (ct_tl (ct_getI _ _ _)) (ct_tl (ct_goto _))) (ct_tn (ct_tl (ct_push _ _)) (ct_tl (ct_iret))))))
def t_T_tree : Nat → pm_S := (pm_tn 14 (pm_tn 8 (pm_tn 2 (pm_tn 1 (pm_tl 0 (s_aload 0 1)) (pm_tl 1 (s_iload 1 2))) (pm_tn 5 (pm_tl 2 (s_call 76 2 0 6 1 (fun _ => 0) 5)) (pm_tl 5 (s_ifne 10 8)))) (pm_tn 10 (pm_tn 9 (pm_tl 8 (s_push (-1) 9)) (pm_tl 9 (s_iret))) (pm_tn 11 (pm_tl 10 (s_aload 0 11)) (pm_tl 11 (s_getR 6 1 14))))) (pm_tn 22 (pm_tn 18 (pm_tn 17 (pm_tl 14 (s_getR 1 6 17)) (pm_tl 17 (s_iload 1 18))) (pm_tn 19 (pm_tl 18 (s_zald 19)) (pm_tl 19 (s_ifeq 26 22)))) (pm_tn 26 (pm_tn 23 (pm_tl 22 (s_push 1 23)) (pm_tl 23 (s_goto 27))) (pm_tn 27 (pm_tl 26 (s_push 0 27)) (pm_tl 27 (s_iret))))))
theorem tc_T_tree : ∀ pc, pm_Ct (t_T_tree pc) := (ct_tn (ct_tn (ct_tn (ct_tn (ct_tl (ct_aload _ _)) (ct_tl (ct_iload _ _))) (ct_tn (ct_tl (ct_call _ _ _ _ _ _ _)) (ct_tl (ct_ifne _ _)))) (ct_tn (ct_tn (ct_tl (ct_push _ _)) (ct_tl (ct_iret))) (ct_tn (ct_tl (ct_aload _ _)) (ct_tl (ct_getR _ _ _))))) (ct_tn (ct_tn (ct_tn (ct_tl (ct_getR _ _ _)) (ct_tl (ct_iload _ _))) (ct_tn (ct_tl (ct_zald _)) (ct_tl (ct_ifeq _ _)))) (ct_tn (ct_tn (ct_tl (ct_push _ _)) (ct_tl (ct_goto _))) (ct_tn (ct_tl (ct_push _ _)) (ct_tl (ct_iret))))))
def t_T_sum : Nat → pm_S := (pm_tn 10 (pm_tn 4 (pm_tn 1 (pm_tl 0 (s_aload 0 1)) (pm_tl 1 (s_call 84 1 3 6 1 (fun _ => 0) 4))) (pm_tn 7 (pm_tl 4 (s_ifeq 13 7)) (pm_tl 7 (s_lpush (-6) 10)))) (pm_tn 14 (pm_tn 13 (pm_tl 10 (s_goto 17)) (pm_tl 13 (s_aload 0 14))) (pm_tn 17 (pm_tl 14 (s_call 85 1 0 6 2 (fun _ => 15) 17)) (pm_tl 17 (s_lret)))))
theorem tc_T_sum : ∀ pc, pm_Ct (t_T_sum pc) := (ct_tn (ct_tn (ct_tn (ct_tl (ct_aload _ _)) (ct_tl (ct_call _ _ _ _ _ _ _))) (ct_tn (ct_tl (ct_ifeq _ _)) (ct_tl (ct_lpush _ _)))) (ct_tn (ct_tn (ct_tl (ct_goto _)) (ct_tl (ct_aload _ _))) (ct_tn (ct_tl (ct_call _ _ _ _ _ _ _)) (ct_tl (ct_lret)))))
def t_T_sumBy : Nat → pm_S := (pm_tn 20 (pm_tn 9 (pm_tn 2 (pm_tn 1 (pm_tl 0 (s_aload 0 1)) (pm_tl 1 (s_iload 1 2))) (pm_tn 5 (pm_tl 2 (s_call 78 2 0 6 1 (fun _ => 1) 5)) (pm_tn 8 (pm_tl 5 (s_ifeq 16 8)) (pm_tl 8 (s_aload 0 9))))) (pm_tn 13 (pm_tn 10 (pm_tl 9 (s_iload 2 10)) (pm_tl 10 (s_call 74 2 0 6 1 (fun _ => 0) 13))) (pm_tn 16 (pm_tl 13 (s_ifne 20 16)) (pm_tn 19 (pm_tl 16 (s_lpush (-1) 19)) (pm_tl 19 (s_lret)))))) (pm_tn 33 (pm_tn 24 (pm_tn 21 (pm_tl 20 (s_aload 0 21)) (pm_tl 21 (s_call 84 1 3 6 1 (fun _ => 0) 24))) (pm_tn 27 (pm_tl 24 (s_ifeq 33 27)) (pm_tn 30 (pm_tl 27 (s_lpush (-6) 30)) (pm_tl 30 (s_goto 39))))) (pm_tn 35 (pm_tn 34 (pm_tl 33 (s_aload 0 34)) (pm_tl 34 (s_iload 1 35))) (pm_tn 36 (pm_tl 35 (s_iload 2 36)) (pm_tn 39 (pm_tl 36 (s_call 86 3 0 6 2 (fun _ => 15) 39)) (pm_tl 39 (s_lret)))))))
theorem tc_T_sumBy : ∀ pc, pm_Ct (t_T_sumBy pc) := (ct_tn (ct_tn (ct_tn (ct_tn (ct_tl (ct_aload _ _)) (ct_tl (ct_iload _ _))) (ct_tn (ct_tl (ct_call _ _ _ _ _ _ _)) (ct_tn (ct_tl (ct_ifeq _ _)) (ct_tl (ct_aload _ _))))) (ct_tn (ct_tn (ct_tl (ct_iload _ _)) (ct_tl (ct_call _ _ _ _ _ _ _))) (ct_tn (ct_tl (ct_ifne _ _)) (ct_tn (ct_tl (ct_lpush _ _)) (ct_tl (ct_lret)))))) (ct_tn (ct_tn (ct_tn (ct_tl (ct_aload _ _)) (ct_tl (ct_call _ _ _ _ _ _ _))) (ct_tn (ct_tl (ct_ifeq _ _)) (ct_tn (ct_tl (ct_lpush _ _)) (ct_tl (ct_goto _))))) (ct_tn (ct_tn (ct_tl (ct_aload _ _)) (ct_tl (ct_iload _ _))) (ct_tn (ct_tl (ct_iload _ _)) (ct_tn (ct_tl (ct_call _ _ _ _ _ _ _)) (ct_tl (ct_lret)))))))
def t_T_mean : Nat → pm_S := (pm_tn 53 (pm_tn 25 (pm_tn 10 (pm_tn 5 (pm_tn 1 (pm_tl 0 (s_aload 0 1)) (pm_tn 2 (pm_tl 1 (s_iload 1 2)) (pm_tl 2 (s_call 78 2 0 6 1 (fun _ => 1) 5)))) (pm_tn 8 (pm_tl 5 (s_ifeq 25 8)) (pm_tn 9 (pm_tl 8 (s_aload 0 9)) (pm_tl 9 (s_iload 2 10))))) (pm_tn 17 (pm_tn 13 (pm_tl 10 (s_call 74 2 0 6 1 (fun _ => 0) 13)) (pm_tn 16 (pm_tl 13 (s_ifeq 25 16)) (pm_tl 16 (s_iload 3 17)))) (pm_tn 21 (pm_tn 20 (pm_tl 17 (s_iflt 25 20)) (pm_tl 20 (s_iload 3 21))) (pm_tn 22 (pm_tl 21 (s_push 1 22)) (pm_tl 22 (s_cle 29 25)))))) (pm_tn 40 (pm_tn 30 (pm_tn 28 (pm_tl 25 (s_lpush (-1) 28)) (pm_tn 29 (pm_tl 28 (s_lret)) (pm_tl 29 (s_aload 0 30)))) (pm_tn 36 (pm_tn 33 (pm_tl 30 (s_call 84 1 3 6 1 (fun _ => 0) 33)) (pm_tl 33 (s_ifeq 40 36))) (pm_tn 39 (pm_tl 36 (s_lpush (-6) 39)) (pm_tl 39 (s_lret))))) (pm_tn 46 (pm_tn 41 (pm_tl 40 (s_aload 0 41)) (pm_tn 44 (pm_tl 41 (s_call 85 1 0 6 2 (fun _ => 15) 44)) (pm_tl 44 (s_lstore 4 46)))) (pm_tn 49 (pm_tn 48 (pm_tl 46 (s_lload 4 48)) (pm_tl 48 (s_lpush 0 49))) (pm_tn 50 (pm_tl 49 (s_lcmp 50)) (pm_tl 50 (s_ifne 57 53))))))) (pm_tn 77 (pm_tn 63 (pm_tn 58 (pm_tn 56 (pm_tl 53 (s_lpush (-2) 56)) (pm_tn 57 (pm_tl 56 (s_lret)) (pm_tl 57 (s_aload 0 58)))) (pm_tn 59 (pm_tl 58 (s_iload 1 59)) (pm_tn 60 (pm_tl 59 (s_iload 2 60)) (pm_tl 60 (s_call 86 3 0 6 2 (fun _ => 15) 63))))) (pm_tn 69 (pm_tn 65 (pm_tl 63 (s_lstore 6 65)) (pm_tn 67 (pm_tl 65 (s_lload 4 67)) (pm_tl 67 (s_lload 6 69)))) (pm_tn 74 (pm_tn 72 (pm_tl 69 (s_call 89 2 7 99 2 (fun _ => 0) 72)) (pm_tl 72 (s_lstore 8 74))) (pm_tn 76 (pm_tl 74 (s_lload 8 76)) (pm_tl 76 (s_lpush 0 77)))))) (pm_tn 91 (pm_tn 84 (pm_tn 78 (pm_tl 77 (s_lcmp 78)) (pm_tn 81 (pm_tl 78 (s_ifne 85 81)) (pm_tl 81 (s_lpush (-2) 84)))) (pm_tn 86 (pm_tn 85 (pm_tl 84 (s_lret)) (pm_tl 85 (s_iload 3 86))) (pm_tn 89 (pm_tl 86 (s_ifne 97 89)) (pm_tl 89 (s_lload 6 91))))) (pm_tn 97 (pm_tn 93 (pm_tl 91 (s_lload 8 93)) (pm_tn 94 (pm_tl 93 (s_ldiv 94)) (pm_tl 94 (s_goto 102)))) (pm_tn 101 (pm_tn 99 (pm_tl 97 (s_lload 4 99)) (pm_tl 99 (s_lload 8 101))) (pm_tn 102 (pm_tl 101 (s_ldiv 102)) (pm_tl 102 (s_lret))))))))
theorem tc_T_mean : ∀ pc, pm_Ct (t_T_mean pc) := (ct_tn (ct_tn (ct_tn (ct_tn (ct_tn (ct_tl (ct_aload _ _)) (ct_tn (ct_tl (ct_iload _ _)) (ct_tl (ct_call _ _ _ _ _ _ _)))) (ct_tn (ct_tl (ct_ifeq _ _)) (ct_tn (ct_tl (ct_aload _ _)) (ct_tl (ct_iload _ _))))) (ct_tn (ct_tn (ct_tl (ct_call _ _ _ _ _ _ _)) (ct_tn (ct_tl (ct_ifeq _ _)) (ct_tl (ct_iload _ _)))) (ct_tn (ct_tn (ct_tl (ct_iflt _ _)) (ct_tl (ct_iload _ _))) (ct_tn (ct_tl (ct_push _ _)) (ct_tl (ct_cle _ _)))))) (ct_tn (ct_tn (ct_tn (ct_tl (ct_lpush _ _)) (ct_tn (ct_tl (ct_lret)) (ct_tl (ct_aload _ _)))) (ct_tn (ct_tn (ct_tl (ct_call _ _ _ _ _ _ _)) (ct_tl (ct_ifeq _ _))) (ct_tn (ct_tl (ct_lpush _ _)) (ct_tl (ct_lret))))) (ct_tn (ct_tn (ct_tl (ct_aload _ _)) (ct_tn (ct_tl (ct_call _ _ _ _ _ _ _)) (ct_tl (ct_lstore _ _)))) (ct_tn (ct_tn (ct_tl (ct_lload _ _)) (ct_tl (ct_lpush _ _))) (ct_tn (ct_tl (ct_lcmp _)) (ct_tl (ct_ifne _ _))))))) (ct_tn (ct_tn (ct_tn (ct_tn (ct_tl (ct_lpush _ _)) (ct_tn (ct_tl (ct_lret)) (ct_tl (ct_aload _ _)))) (ct_tn (ct_tl (ct_iload _ _)) (ct_tn (ct_tl (ct_iload _ _)) (ct_tl (ct_call _ _ _ _ _ _ _))))) (ct_tn (ct_tn (ct_tl (ct_lstore _ _)) (ct_tn (ct_tl (ct_lload _ _)) (ct_tl (ct_lload _ _)))) (ct_tn (ct_tn (ct_tl (ct_call _ _ _ _ _ _ _)) (ct_tl (ct_lstore _ _))) (ct_tn (ct_tl (ct_lload _ _)) (ct_tl (ct_lpush _ _)))))) (ct_tn (ct_tn (ct_tn (ct_tl (ct_lcmp _)) (ct_tn (ct_tl (ct_ifne _ _)) (ct_tl (ct_lpush _ _)))) (ct_tn (ct_tn (ct_tl (ct_lret)) (ct_tl (ct_iload _ _))) (ct_tn (ct_tl (ct_ifne _ _)) (ct_tl (ct_lload _ _))))) (ct_tn (ct_tn (ct_tl (ct_lload _ _)) (ct_tn (ct_tl (ct_ldiv _)) (ct_tl (ct_goto _)))) (ct_tn (ct_tn (ct_tl (ct_lload _ _)) (ct_tl (ct_lload _ _))) (ct_tn (ct_tl (ct_ldiv _)) (ct_tl (ct_lret))))))))
def t_T_flat : Nat → pm_S := (pm_tn 28 (pm_tn 15 (pm_tn 7 (pm_tn 1 (pm_tl 0 (s_aload 0 1)) (pm_tn 4 (pm_tl 1 (s_call 84 1 3 6 1 (fun _ => 0) 4)) (pm_tl 4 (s_ifeq 11 7)))) (pm_tn 11 (pm_tn 10 (pm_tl 7 (s_lpush (-6) 10)) (pm_tl 10 (s_lret))) (pm_tn 12 (pm_tl 11 (s_aload 0 12)) (pm_tl 12 (s_getR 6 6 15))))) (pm_tn 20 (pm_tn 18 (pm_tl 15 (s_call 33 1 2 4 0 (fun _ => 0) 18)) (pm_tn 19 (pm_tl 18 (s_push 0 19)) (pm_tl 19 (s_K 20 [true, true] (s_istore 1 20))))) (pm_tn 22 (pm_tn 21 (pm_tl 20 (s_iload 1 21)) (pm_tl 21 (s_aload 0 22))) (pm_tn 25 (pm_tl 22 (s_getI 6 3 25)) (pm_tl 25 (s_cge 54 28)))))) (pm_tn 41 (pm_tn 33 (pm_tn 29 (pm_tl 28 (s_aload 0 29)) (pm_tn 32 (pm_tl 29 (s_getR 6 2 32)) (pm_tl 32 (s_iload 1 33)))) (pm_tn 37 (pm_tn 34 (pm_tl 33 (s_aald 34)) (pm_tl 34 (s_call 43 1 0 5 1 (fun _ => 1) 37))) (pm_tn 40 (pm_tl 37 (s_ifeq 48 40)) (pm_tl 40 (s_aload 0 41))))) (pm_tn 51 (pm_tn 45 (pm_tn 44 (pm_tl 41 (s_getR 6 6 44)) (pm_tl 44 (s_iload 1 45))) (pm_tn 48 (pm_tl 45 (s_call 36 2 1 4 0 (fun _ => 0) 48)) (pm_tl 48 (s_iinc 1 1 51)))) (pm_tn 55 (pm_tn 54 (pm_tl 51 (s_K 20 [true, true] (s_goto 20))) (pm_tl 54 (s_aload 0 55))) (pm_tn 58 (pm_tl 55 (s_call 88 1 0 6 2 (fun _ => 14) 58)) (pm_tl 58 (s_lret)))))))
theorem tc_T_flat : ∀ pc, pm_Ct (t_T_flat pc) := (ct_tn (ct_tn (ct_tn (ct_tn (ct_tl (ct_aload _ _)) (ct_tn (ct_tl (ct_call _ _ _ _ _ _ _)) (ct_tl (ct_ifeq _ _)))) (ct_tn (ct_tn (ct_tl (ct_lpush _ _)) (ct_tl (ct_lret))) (ct_tn (ct_tl (ct_aload _ _)) (ct_tl (ct_getR _ _ _))))) (ct_tn (ct_tn (ct_tl (ct_call _ _ _ _ _ _ _)) (ct_tn (ct_tl (ct_push _ _)) (ct_tl (ct_K (ct_istore _ _))))) (ct_tn (ct_tn (ct_tl (ct_iload _ _)) (ct_tl (ct_aload _ _))) (ct_tn (ct_tl (ct_getI _ _ _)) (ct_tl (ct_cge _ _)))))) (ct_tn (ct_tn (ct_tn (ct_tl (ct_aload _ _)) (ct_tn (ct_tl (ct_getR _ _ _)) (ct_tl (ct_iload _ _)))) (ct_tn (ct_tn (ct_tl (ct_aald _)) (ct_tl (ct_call _ _ _ _ _ _ _))) (ct_tn (ct_tl (ct_ifeq _ _)) (ct_tl (ct_aload _ _))))) (ct_tn (ct_tn (ct_tn (ct_tl (ct_getR _ _ _)) (ct_tl (ct_iload _ _))) (ct_tn (ct_tl (ct_call _ _ _ _ _ _ _)) (ct_tl (ct_iinc _ _ _)))) (ct_tn (ct_tn (ct_tl (ct_K (ct_goto _))) (ct_tl (ct_aload _ _))) (ct_tn (ct_tl (ct_call _ _ _ _ _ _ _)) (ct_tl (ct_lret)))))))
def t_T_sheet : Nat → pm_S := (pm_tn 23 (pm_tn 14 (pm_tn 7 (pm_tn 1 (pm_tl 0 (s_iload 1 1)) (pm_tn 4 (pm_tl 1 (s_call 79 1 0 99 1 (fun _ => 0) 4)) (pm_tl 4 (s_ifeq 20 7)))) (pm_tn 8 (pm_tl 7 (s_iload 2 8)) (pm_tn 11 (pm_tl 8 (s_call 80 1 0 99 1 (fun _ => 0) 11)) (pm_tl 11 (s_ifeq 20 14))))) (pm_tn 20 (pm_tn 15 (pm_tl 14 (s_iload 3 15)) (pm_tn 17 (pm_tl 15 (s_push 64 17)) (pm_tl 17 (s_cle 22 20)))) (pm_tn 21 (pm_tl 20 (s_push (-1) 21)) (pm_tn 22 (pm_tl 21 (s_iret)) (pm_tl 22 (s_iload 3 23)))))) (pm_tn 34 (pm_tn 29 (pm_tn 26 (pm_tl 23 (s_ifge 29 26)) (pm_tn 28 (pm_tl 26 (s_push (-14) 28)) (pm_tl 28 (s_iret)))) (pm_tn 30 (pm_tl 29 (s_aload 0 30)) (pm_tn 33 (pm_tl 30 (s_getR 6 5 33)) (pm_tl 33 (s_iload 1 34))))) (pm_tn 37 (pm_tn 35 (pm_tl 34 (s_aald 35)) (pm_tn 36 (pm_tl 35 (s_iload 2 36)) (pm_tl 36 (s_iload 3 37)))) (pm_tn 40 (pm_tl 37 (s_call 29 3 1 3 0 (fun _ => 0) 40)) (pm_tn 41 (pm_tl 40 (s_push 1 41)) (pm_tl 41 (s_iret)))))))
theorem tc_T_sheet : ∀ pc, pm_Ct (t_T_sheet pc) := (ct_tn (ct_tn (ct_tn (ct_tn (ct_tl (ct_iload _ _)) (ct_tn (ct_tl (ct_call _ _ _ _ _ _ _)) (ct_tl (ct_ifeq _ _)))) (ct_tn (ct_tl (ct_iload _ _)) (ct_tn (ct_tl (ct_call _ _ _ _ _ _ _)) (ct_tl (ct_ifeq _ _))))) (ct_tn (ct_tn (ct_tl (ct_iload _ _)) (ct_tn (ct_tl (ct_push _ _)) (ct_tl (ct_cle _ _)))) (ct_tn (ct_tl (ct_push _ _)) (ct_tn (ct_tl (ct_iret)) (ct_tl (ct_iload _ _)))))) (ct_tn (ct_tn (ct_tn (ct_tl (ct_ifge _ _)) (ct_tn (ct_tl (ct_push _ _)) (ct_tl (ct_iret)))) (ct_tn (ct_tl (ct_aload _ _)) (ct_tn (ct_tl (ct_getR _ _ _)) (ct_tl (ct_iload _ _))))) (ct_tn (ct_tn (ct_tl (ct_aald _)) (ct_tn (ct_tl (ct_iload _ _)) (ct_tl (ct_iload _ _)))) (ct_tn (ct_tl (ct_call _ _ _ _ _ _ _)) (ct_tn (ct_tl (ct_push _ _)) (ct_tl (ct_iret)))))))
def t_T_lay : Nat → pm_S := (pm_tn 25 (pm_tn 10 (pm_tn 7 (pm_tn 1 (pm_tl 0 (s_iload 1 1)) (pm_tn 4 (pm_tl 1 (s_call 79 1 0 99 1 (fun _ => 0) 4)) (pm_tl 4 (s_ifne 9 7)))) (pm_tn 8 (pm_tl 7 (s_push (-1) 8)) (pm_tn 9 (pm_tl 8 (s_iret)) (pm_tl 9 (s_aload 0 10))))) (pm_tn 15 (pm_tn 13 (pm_tl 10 (s_getR 6 5 13)) (pm_tn 14 (pm_tl 13 (s_iload 1 14)) (pm_tl 14 (s_aald 15)))) (pm_tn 19 (pm_tn 17 (pm_tl 15 (s_astore 4 17)) (pm_tl 17 (s_aload 4 19))) (pm_tn 22 (pm_tl 19 (s_getI 3 0 22)) (pm_tl 22 (s_ifne 28 25)))))) (pm_tn 39 (pm_tn 30 (pm_tn 27 (pm_tl 25 (s_push (-11) 27)) (pm_tn 28 (pm_tl 27 (s_iret)) (pm_tl 28 (s_aload 4 30)))) (pm_tn 34 (pm_tn 31 (pm_tl 30 (s_iload 2 31)) (pm_tl 31 (s_call 30 2 0 3 1 (fun _ => 0) 34))) (pm_tn 37 (pm_tl 34 (s_ifne 40 37)) (pm_tl 37 (s_push (-12) 39))))) (pm_tn 43 (pm_tn 40 (pm_tl 39 (s_iret)) (pm_tn 42 (pm_tl 40 (s_aload 4 42)) (pm_tl 42 (s_iload 2 43)))) (pm_tn 47 (pm_tn 44 (pm_tl 43 (s_iload 3 44)) (pm_tl 44 (s_call 32 3 0 3 0 (fun _ => 0) 47))) (pm_tn 48 (pm_tl 47 (s_push 1 48)) (pm_tl 48 (s_iret)))))))
theorem tc_T_lay : ∀ pc, pm_Ct (t_T_lay pc) := (ct_tn (ct_tn (ct_tn (ct_tn (ct_tl (ct_iload _ _)) (ct_tn (ct_tl (ct_call _ _ _ _ _ _ _)) (ct_tl (ct_ifne _ _)))) (ct_tn (ct_tl (ct_push _ _)) (ct_tn (ct_tl (ct_iret)) (ct_tl (ct_aload _ _))))) (ct_tn (ct_tn (ct_tl (ct_getR _ _ _)) (ct_tn (ct_tl (ct_iload _ _)) (ct_tl (ct_aald _)))) (ct_tn (ct_tn (ct_tl (ct_astore _ _)) (ct_tl (ct_aload _ _))) (ct_tn (ct_tl (ct_getI _ _ _)) (ct_tl (ct_ifne _ _)))))) (ct_tn (ct_tn (ct_tn (ct_tl (ct_push _ _)) (ct_tn (ct_tl (ct_iret)) (ct_tl (ct_aload _ _)))) (ct_tn (ct_tn (ct_tl (ct_iload _ _)) (ct_tl (ct_call _ _ _ _ _ _ _))) (ct_tn (ct_tl (ct_ifne _ _)) (ct_tl (ct_push _ _))))) (ct_tn (ct_tn (ct_tl (ct_iret)) (ct_tn (ct_tl (ct_aload _ _)) (ct_tl (ct_iload _ _)))) (ct_tn (ct_tn (ct_tl (ct_iload _ _)) (ct_tl (ct_call _ _ _ _ _ _ _))) (ct_tn (ct_tl (ct_push _ _)) (ct_tl (ct_iret)))))))
def t_T_fill : Nat → pm_S := (pm_tn 30 (pm_tn 16 (pm_tn 8 (pm_tn 4 (pm_tn 1 (pm_tl 0 (s_iload 1 1)) (pm_tl 1 (s_call 79 1 0 99 1 (fun _ => 0) 4))) (pm_tn 7 (pm_tl 4 (s_ifeq 14 7)) (pm_tl 7 (s_iload 2 8)))) (pm_tn 14 (pm_tn 11 (pm_tl 8 (s_call 80 1 0 99 1 (fun _ => 0) 11)) (pm_tl 11 (s_ifne 16 14))) (pm_tn 15 (pm_tl 14 (s_push (-1) 15)) (pm_tl 15 (s_iret))))) (pm_tn 22 (pm_tn 20 (pm_tn 17 (pm_tl 16 (s_aload 0 17)) (pm_tl 17 (s_getR 6 5 20))) (pm_tn 21 (pm_tl 20 (s_iload 1 21)) (pm_tl 21 (s_aald 22)))) (pm_tn 26 (pm_tn 24 (pm_tl 22 (s_astore 4 24)) (pm_tl 24 (s_aload 4 26))) (pm_tn 27 (pm_tl 26 (s_iload 2 27)) (pm_tl 27 (s_call 31 2 0 3 1 (fun _ => 0) 30)))))) (pm_tn 46 (pm_tn 38 (pm_tn 34 (pm_tn 32 (pm_tl 30 (s_istore 5 32)) (pm_tl 32 (s_iload 5 34))) (pm_tn 37 (pm_tl 34 (s_ifne 46 37)) (pm_tl 37 (s_aload 0 38)))) (pm_tn 41 (pm_tn 40 (pm_tl 38 (s_aload 4 40)) (pm_tl 40 (s_iload 3 41))) (pm_tn 44 (pm_tl 41 (s_call 90 3 1 6 1 (fun _ => 1) 44)) (pm_tl 44 (s_istore 5 46))))) (pm_tn 54 (pm_tn 51 (pm_tn 48 (pm_tl 46 (s_iload 5 48)) (pm_tl 48 (s_ifne 61 51))) (pm_tn 52 (pm_tl 51 (s_aload 0 52)) (pm_tl 52 (s_aload 4 54)))) (pm_tn 58 (pm_tn 55 (pm_tl 54 (s_iload 3 55)) (pm_tl 55 (s_call 91 3 3 6 1 (fun _ => 2) 58))) (pm_tn 61 (pm_tl 58 (s_goto 63)) (pm_tn 63 (pm_tl 61 (s_iload 5 63)) (pm_tl 63 (s_iret))))))))
theorem tc_T_fill : ∀ pc, pm_Ct (t_T_fill pc) := (ct_tn (ct_tn (ct_tn (ct_tn (ct_tn (ct_tl (ct_iload _ _)) (ct_tl (ct_call _ _ _ _ _ _ _))) (ct_tn (ct_tl (ct_ifeq _ _)) (ct_tl (ct_iload _ _)))) (ct_tn (ct_tn (ct_tl (ct_call _ _ _ _ _ _ _)) (ct_tl (ct_ifne _ _))) (ct_tn (ct_tl (ct_push _ _)) (ct_tl (ct_iret))))) (ct_tn (ct_tn (ct_tn (ct_tl (ct_aload _ _)) (ct_tl (ct_getR _ _ _))) (ct_tn (ct_tl (ct_iload _ _)) (ct_tl (ct_aald _)))) (ct_tn (ct_tn (ct_tl (ct_astore _ _)) (ct_tl (ct_aload _ _))) (ct_tn (ct_tl (ct_iload _ _)) (ct_tl (ct_call _ _ _ _ _ _ _)))))) (ct_tn (ct_tn (ct_tn (ct_tn (ct_tl (ct_istore _ _)) (ct_tl (ct_iload _ _))) (ct_tn (ct_tl (ct_ifne _ _)) (ct_tl (ct_aload _ _)))) (ct_tn (ct_tn (ct_tl (ct_aload _ _)) (ct_tl (ct_iload _ _))) (ct_tn (ct_tl (ct_call _ _ _ _ _ _ _)) (ct_tl (ct_istore _ _))))) (ct_tn (ct_tn (ct_tn (ct_tl (ct_iload _ _)) (ct_tl (ct_ifne _ _))) (ct_tn (ct_tl (ct_aload _ _)) (ct_tl (ct_aload _ _)))) (ct_tn (ct_tn (ct_tl (ct_iload _ _)) (ct_tl (ct_call _ _ _ _ _ _ _))) (ct_tn (ct_tl (ct_goto _)) (ct_tn (ct_tl (ct_iload _ _)) (ct_tl (ct_iret))))))))
def t_T_many : Nat → pm_S := (pm_tn 90 (pm_tn 68 (pm_tn 56 (pm_tn 49 (pm_tn 1 (pm_tl 0 (s_iload 1 1)) (pm_tn 48 (pm_tl 1 (s_switch [(0, 48), (1, 56), (2, 64), (3, 69), (4, 74), (5, 90), (6, 98), (7, 106)] 133)) (pm_tl 48 (s_aload 0 49)))) (pm_tn 52 (pm_tl 49 (s_getR 6 1 52)) (pm_tn 55 (pm_tl 52 (s_getI 1 0 55)) (pm_tl 55 (s_iret))))) (pm_tn 63 (pm_tn 57 (pm_tl 56 (s_aload 0 57)) (pm_tn 60 (pm_tl 57 (s_getR 6 1 60)) (pm_tl 60 (s_getI 1 1 63)))) (pm_tn 64 (pm_tl 63 (s_iret)) (pm_tn 65 (pm_tl 64 (s_aload 0 65)) (pm_tl 65 (s_getI 6 3 68)))))) (pm_tn 78 (pm_tn 73 (pm_tn 69 (pm_tl 68 (s_iret)) (pm_tn 70 (pm_tl 69 (s_aload 0 70)) (pm_tl 70 (s_call 81 1 2 6 1 (fun _ => 2) 73)))) (pm_tn 74 (pm_tl 73 (s_iret)) (pm_tn 75 (pm_tl 74 (s_aload 0 75)) (pm_tl 75 (s_getR 6 1 78))))) (pm_tn 85 (pm_tn 81 (pm_tl 78 (s_getI 1 0 81)) (pm_tn 82 (pm_tl 81 (s_aload 0 82)) (pm_tl 82 (s_getR 6 1 85)))) (pm_tn 88 (pm_tl 85 (s_getI 1 2 88)) (pm_tn 89 (pm_tl 88 (s_isub 89)) (pm_tl 89 (s_iret))))))) (pm_tn 112 (pm_tn 102 (pm_tn 97 (pm_tn 91 (pm_tl 90 (s_aload 0 91)) (pm_tn 94 (pm_tl 91 (s_getR 6 1 94)) (pm_tl 94 (s_getI 1 2 97)))) (pm_tn 98 (pm_tl 97 (s_iret)) (pm_tn 99 (pm_tl 98 (s_aload 0 99)) (pm_tl 99 (s_getR 6 4 102))))) (pm_tn 107 (pm_tn 105 (pm_tl 102 (s_getI 0 0 105)) (pm_tn 106 (pm_tl 105 (s_iret)) (pm_tl 106 (s_aload 0 107)))) (pm_tn 110 (pm_tl 107 (s_getR 6 5 110)) (pm_tn 111 (pm_tl 110 (s_push 0 111)) (pm_tl 111 (s_aald 112)))))) (pm_tn 124 (pm_tn 119 (pm_tn 115 (pm_tl 112 (s_getI 3 0 115)) (pm_tn 118 (pm_tl 115 (s_ifeq 130 118)) (pm_tl 118 (s_aload 0 119)))) (pm_tn 122 (pm_tl 119 (s_getR 6 5 122)) (pm_tn 123 (pm_tl 122 (s_push 0 123)) (pm_tl 123 (s_aald 124))))) (pm_tn 132 (pm_tn 127 (pm_tl 124 (s_getI 3 1 127)) (pm_tn 130 (pm_tl 127 (s_goto 132)) (pm_tl 130 (s_push (-4) 132)))) (pm_tn 133 (pm_tl 132 (s_iret)) (pm_tn 134 (pm_tl 133 (s_push (-1) 134)) (pm_tl 134 (s_iret))))))))
theorem tc_T_many : ∀ pc, pm_Ct (t_T_many pc) := (ct_tn (ct_tn (ct_tn (ct_tn (ct_tn (ct_tl (ct_iload _ _)) (ct_tn (ct_tl (ct_switch _ _)) (ct_tl (ct_aload _ _)))) (ct_tn (ct_tl (ct_getR _ _ _)) (ct_tn (ct_tl (ct_getI _ _ _)) (ct_tl (ct_iret))))) (ct_tn (ct_tn (ct_tl (ct_aload _ _)) (ct_tn (ct_tl (ct_getR _ _ _)) (ct_tl (ct_getI _ _ _)))) (ct_tn (ct_tl (ct_iret)) (ct_tn (ct_tl (ct_aload _ _)) (ct_tl (ct_getI _ _ _)))))) (ct_tn (ct_tn (ct_tn (ct_tl (ct_iret)) (ct_tn (ct_tl (ct_aload _ _)) (ct_tl (ct_call _ _ _ _ _ _ _)))) (ct_tn (ct_tl (ct_iret)) (ct_tn (ct_tl (ct_aload _ _)) (ct_tl (ct_getR _ _ _))))) (ct_tn (ct_tn (ct_tl (ct_getI _ _ _)) (ct_tn (ct_tl (ct_aload _ _)) (ct_tl (ct_getR _ _ _)))) (ct_tn (ct_tl (ct_getI _ _ _)) (ct_tn (ct_tl (ct_isub _)) (ct_tl (ct_iret))))))) (ct_tn (ct_tn (ct_tn (ct_tn (ct_tl (ct_aload _ _)) (ct_tn (ct_tl (ct_getR _ _ _)) (ct_tl (ct_getI _ _ _)))) (ct_tn (ct_tl (ct_iret)) (ct_tn (ct_tl (ct_aload _ _)) (ct_tl (ct_getR _ _ _))))) (ct_tn (ct_tn (ct_tl (ct_getI _ _ _)) (ct_tn (ct_tl (ct_iret)) (ct_tl (ct_aload _ _)))) (ct_tn (ct_tl (ct_getR _ _ _)) (ct_tn (ct_tl (ct_push _ _)) (ct_tl (ct_aald _)))))) (ct_tn (ct_tn (ct_tn (ct_tl (ct_getI _ _ _)) (ct_tn (ct_tl (ct_ifeq _ _)) (ct_tl (ct_aload _ _)))) (ct_tn (ct_tl (ct_getR _ _ _)) (ct_tn (ct_tl (ct_push _ _)) (ct_tl (ct_aald _))))) (ct_tn (ct_tn (ct_tl (ct_getI _ _ _)) (ct_tn (ct_tl (ct_goto _)) (ct_tl (ct_push _ _)))) (ct_tn (ct_tl (ct_iret)) (ct_tn (ct_tl (ct_push _ _)) (ct_tl (ct_iret))))))))
def t_T_isTurn : Nat → pm_S := (pm_tn 9 (pm_tn 4 (pm_tn 1 (pm_tl 0 (s_iload 1 1)) (pm_tl 1 (s_iflt 19 4))) (pm_tn 5 (pm_tl 4 (s_iload 1 5)) (pm_tn 6 (pm_tl 5 (s_aload 0 6)) (pm_tl 6 (s_getR 6 0 9))))) (pm_tn 16 (pm_tn 12 (pm_tl 9 (s_getI 2 0 12)) (pm_tn 15 (pm_tl 12 (s_cge 19 15)) (pm_tl 15 (s_push 1 16)))) (pm_tn 19 (pm_tl 16 (s_goto 20)) (pm_tn 20 (pm_tl 19 (s_push 0 20)) (pm_tl 20 (s_zret))))))
theorem tc_T_isTurn : ∀ pc, pm_Ct (t_T_isTurn pc) := (ct_tn (ct_tn (ct_tn (ct_tl (ct_iload _ _)) (ct_tl (ct_iflt _ _))) (ct_tn (ct_tl (ct_iload _ _)) (ct_tn (ct_tl (ct_aload _ _)) (ct_tl (ct_getR _ _ _))))) (ct_tn (ct_tn (ct_tl (ct_getI _ _ _)) (ct_tn (ct_tl (ct_cge _ _)) (ct_tl (ct_push _ _)))) (ct_tn (ct_tl (ct_goto _)) (ct_tn (ct_tl (ct_push _ _)) (ct_tl (ct_zret))))))
def t_T_isPoint : Nat → pm_S := (pm_tn 9 (pm_tn 4 (pm_tn 1 (pm_tl 0 (s_iload 1 1)) (pm_tl 1 (s_iflt 19 4))) (pm_tn 5 (pm_tl 4 (s_iload 1 5)) (pm_tn 6 (pm_tl 5 (s_aload 0 6)) (pm_tl 6 (s_getR 6 1 9))))) (pm_tn 16 (pm_tn 12 (pm_tl 9 (s_getI 1 0 12)) (pm_tn 15 (pm_tl 12 (s_cge 19 15)) (pm_tl 15 (s_push 1 16)))) (pm_tn 19 (pm_tl 16 (s_goto 20)) (pm_tn 20 (pm_tl 19 (s_push 0 20)) (pm_tl 20 (s_zret))))))
theorem tc_T_isPoint : ∀ pc, pm_Ct (t_T_isPoint pc) := (ct_tn (ct_tn (ct_tn (ct_tl (ct_iload _ _)) (ct_tl (ct_iflt _ _))) (ct_tn (ct_tl (ct_iload _ _)) (ct_tn (ct_tl (ct_aload _ _)) (ct_tl (ct_getR _ _ _))))) (ct_tn (ct_tn (ct_tl (ct_getI _ _ _)) (ct_tn (ct_tl (ct_cge _ _)) (ct_tl (ct_push _ _)))) (ct_tn (ct_tl (ct_goto _)) (ct_tn (ct_tl (ct_push _ _)) (ct_tl (ct_zret))))))
def t_T_isLine : Nat → pm_S := (pm_tn 9 (pm_tn 4 (pm_tn 1 (pm_tl 0 (s_iload 1 1)) (pm_tl 1 (s_iflt 19 4))) (pm_tn 5 (pm_tl 4 (s_iload 1 5)) (pm_tn 6 (pm_tl 5 (s_aload 0 6)) (pm_tl 6 (s_getR 6 1 9))))) (pm_tn 16 (pm_tn 12 (pm_tl 9 (s_getI 1 1 12)) (pm_tn 15 (pm_tl 12 (s_cge 19 15)) (pm_tl 15 (s_push 1 16)))) (pm_tn 19 (pm_tl 16 (s_goto 20)) (pm_tn 20 (pm_tl 19 (s_push 0 20)) (pm_tl 20 (s_zret))))))
theorem tc_T_isLine : ∀ pc, pm_Ct (t_T_isLine pc) := (ct_tn (ct_tn (ct_tn (ct_tl (ct_iload _ _)) (ct_tl (ct_iflt _ _))) (ct_tn (ct_tl (ct_iload _ _)) (ct_tn (ct_tl (ct_aload _ _)) (ct_tl (ct_getR _ _ _))))) (ct_tn (ct_tn (ct_tl (ct_getI _ _ _)) (ct_tn (ct_tl (ct_cge _ _)) (ct_tl (ct_push _ _)))) (ct_tn (ct_tl (ct_goto _)) (ct_tn (ct_tl (ct_push _ _)) (ct_tl (ct_zret))))))
def t_T_isWalk : Nat → pm_S := (pm_tn 9 (pm_tn 4 (pm_tn 1 (pm_tl 0 (s_iload 1 1)) (pm_tl 1 (s_iflt 16 4))) (pm_tn 5 (pm_tl 4 (s_iload 1 5)) (pm_tn 6 (pm_tl 5 (s_aload 0 6)) (pm_tl 6 (s_getI 6 3 9))))) (pm_tn 13 (pm_tn 12 (pm_tl 9 (s_cge 16 12)) (pm_tl 12 (s_push 1 13))) (pm_tn 16 (pm_tl 13 (s_goto 17)) (pm_tn 17 (pm_tl 16 (s_push 0 17)) (pm_tl 17 (s_zret))))))
theorem tc_T_isWalk : ∀ pc, pm_Ct (t_T_isWalk pc) := (ct_tn (ct_tn (ct_tn (ct_tl (ct_iload _ _)) (ct_tl (ct_iflt _ _))) (ct_tn (ct_tl (ct_iload _ _)) (ct_tn (ct_tl (ct_aload _ _)) (ct_tl (ct_getI _ _ _))))) (ct_tn (ct_tn (ct_tl (ct_cge _ _)) (ct_tl (ct_push _ _))) (ct_tn (ct_tl (ct_goto _)) (ct_tn (ct_tl (ct_push _ _)) (ct_tl (ct_zret))))))
def t_T_isClosedWalk : Nat → pm_S := (pm_tn 13 (pm_tn 5 (pm_tn 1 (pm_tl 0 (s_aload 0 1)) (pm_tn 2 (pm_tl 1 (s_iload 1 2)) (pm_tl 2 (s_call 77 2 0 6 1 (fun _ => 0) 5)))) (pm_tn 9 (pm_tn 8 (pm_tl 5 (s_ifeq 24 8)) (pm_tl 8 (s_aload 0 9))) (pm_tn 12 (pm_tl 9 (s_getR 6 2 12)) (pm_tl 12 (s_iload 1 13))))) (pm_tn 20 (pm_tn 14 (pm_tl 13 (s_aald 14)) (pm_tn 17 (pm_tl 14 (s_call 42 1 0 5 1 (fun _ => 0) 17)) (pm_tl 17 (s_ifeq 24 20)))) (pm_tn 24 (pm_tn 21 (pm_tl 20 (s_push 1 21)) (pm_tl 21 (s_goto 25))) (pm_tn 25 (pm_tl 24 (s_push 0 25)) (pm_tl 25 (s_zret))))))
theorem tc_T_isClosedWalk : ∀ pc, pm_Ct (t_T_isClosedWalk pc) := (ct_tn (ct_tn (ct_tn (ct_tl (ct_aload _ _)) (ct_tn (ct_tl (ct_iload _ _)) (ct_tl (ct_call _ _ _ _ _ _ _)))) (ct_tn (ct_tn (ct_tl (ct_ifeq _ _)) (ct_tl (ct_aload _ _))) (ct_tn (ct_tl (ct_getR _ _ _)) (ct_tl (ct_iload _ _))))) (ct_tn (ct_tn (ct_tl (ct_aald _)) (ct_tn (ct_tl (ct_call _ _ _ _ _ _ _)) (ct_tl (ct_ifeq _ _)))) (ct_tn (ct_tn (ct_tl (ct_push _ _)) (ct_tl (ct_goto _))) (ct_tn (ct_tl (ct_push _ _)) (ct_tl (ct_zret))))))
def t_T_isSheet : Nat → pm_S := (pm_tn 6 (pm_tn 4 (pm_tn 1 (pm_tl 0 (s_iload 0 1)) (pm_tl 1 (s_iflt 13 4))) (pm_tn 5 (pm_tl 4 (s_iload 0 5)) (pm_tl 5 (s_push 4 6)))) (pm_tn 10 (pm_tn 9 (pm_tl 6 (s_cge 13 9)) (pm_tl 9 (s_push 1 10))) (pm_tn 13 (pm_tl 10 (s_goto 14)) (pm_tn 14 (pm_tl 13 (s_push 0 14)) (pm_tl 14 (s_zret))))))
theorem tc_T_isSheet : ∀ pc, pm_Ct (t_T_isSheet pc) := (ct_tn (ct_tn (ct_tn (ct_tl (ct_iload _ _)) (ct_tl (ct_iflt _ _))) (ct_tn (ct_tl (ct_iload _ _)) (ct_tl (ct_push _ _)))) (ct_tn (ct_tn (ct_tl (ct_cge _ _)) (ct_tl (ct_push _ _))) (ct_tn (ct_tl (ct_goto _)) (ct_tn (ct_tl (ct_push _ _)) (ct_tl (ct_zret))))))
def t_T_isLane : Nat → pm_S := (pm_tn 6 (pm_tn 4 (pm_tn 1 (pm_tl 0 (s_iload 0 1)) (pm_tl 1 (s_iflt 13 4))) (pm_tn 5 (pm_tl 4 (s_iload 0 5)) (pm_tl 5 (s_push 3 6)))) (pm_tn 10 (pm_tn 9 (pm_tl 6 (s_cge 13 9)) (pm_tl 9 (s_push 1 10))) (pm_tn 13 (pm_tl 10 (s_goto 14)) (pm_tn 14 (pm_tl 13 (s_push 0 14)) (pm_tl 14 (s_zret))))))
theorem tc_T_isLane : ∀ pc, pm_Ct (t_T_isLane pc) := (ct_tn (ct_tn (ct_tn (ct_tl (ct_iload _ _)) (ct_tl (ct_iflt _ _))) (ct_tn (ct_tl (ct_iload _ _)) (ct_tl (ct_push _ _)))) (ct_tn (ct_tn (ct_tl (ct_cge _ _)) (ct_tl (ct_push _ _))) (ct_tn (ct_tl (ct_goto _)) (ct_tn (ct_tl (ct_push _ _)) (ct_tl (ct_zret))))))
def t_T_walksThatWeigh : Nat → pm_S := (pm_tn 13 (pm_tn 4 (pm_tn 2 (pm_tn 1 (pm_tl 0 (s_push 0 1)) (pm_tl 1 (s_istore 1 2))) (pm_tn 3 (pm_tl 2 (s_push 0 3)) (pm_tl 3 (s_K 4 [true, true, true] (s_istore 2 4))))) (pm_tn 6 (pm_tn 5 (pm_tl 4 (s_iload 2 5)) (pm_tl 5 (s_aload 0 6))) (pm_tn 9 (pm_tl 6 (s_getI 6 3 9)) (pm_tn 12 (pm_tl 9 (s_cge 33 12)) (pm_tl 12 (s_aload 0 13)))))) (pm_tn 24 (pm_tn 17 (pm_tn 16 (pm_tl 13 (s_getR 6 2 16)) (pm_tl 16 (s_iload 2 17))) (pm_tn 18 (pm_tl 17 (s_aald 18)) (pm_tn 21 (pm_tl 18 (s_call 43 1 0 5 1 (fun _ => 1) 21)) (pm_tl 21 (s_ifeq 27 24))))) (pm_tn 30 (pm_tn 27 (pm_tl 24 (s_iinc 1 1 27)) (pm_tl 27 (s_iinc 2 1 30))) (pm_tn 33 (pm_tl 30 (s_K 4 [true, true, true] (s_goto 4))) (pm_tn 34 (pm_tl 33 (s_iload 1 34)) (pm_tl 34 (s_iret)))))))
theorem tc_T_walksThatWeigh : ∀ pc, pm_Ct (t_T_walksThatWeigh pc) := (ct_tn (ct_tn (ct_tn (ct_tn (ct_tl (ct_push _ _)) (ct_tl (ct_istore _ _))) (ct_tn (ct_tl (ct_push _ _)) (ct_tl (ct_K (ct_istore _ _))))) (ct_tn (ct_tn (ct_tl (ct_iload _ _)) (ct_tl (ct_aload _ _))) (ct_tn (ct_tl (ct_getI _ _ _)) (ct_tn (ct_tl (ct_cge _ _)) (ct_tl (ct_aload _ _)))))) (ct_tn (ct_tn (ct_tn (ct_tl (ct_getR _ _ _)) (ct_tl (ct_iload _ _))) (ct_tn (ct_tl (ct_aald _)) (ct_tn (ct_tl (ct_call _ _ _ _ _ _ _)) (ct_tl (ct_ifeq _ _))))) (ct_tn (ct_tn (ct_tl (ct_iinc _ _ _)) (ct_tl (ct_iinc _ _ _))) (ct_tn (ct_tl (ct_K (ct_goto _))) (ct_tn (ct_tl (ct_iload _ _)) (ct_tl (ct_iret)))))))
def t_T_takeDraft : Nat → pm_S := (pm_tn 12 (pm_tn 5 (pm_tn 1 (pm_tl 0 (s_aload 0 1)) (pm_tn 4 (pm_tl 1 (s_getR 6 0 4)) (pm_tl 4 (s_iload 1 5)))) (pm_tn 8 (pm_tl 5 (s_call 18 2 1 2 0 (fun _ => 2) 8)) (pm_tn 9 (pm_tl 8 (s_aload 0 9)) (pm_tl 9 (s_getR 6 1 12))))) (pm_tn 19 (pm_tn 15 (pm_tl 12 (s_call 6 1 1 1 0 (fun _ => 0) 15)) (pm_tn 16 (pm_tl 15 (s_aload 0 16)) (pm_tl 16 (s_getR 6 4 19)))) (pm_tn 22 (pm_tl 19 (s_call 2 1 0 0 0 (fun _ => 0) 22)) (pm_tn 23 (pm_tl 22 (s_iload 1 23)) (pm_tl 23 (s_iret))))))
theorem tc_T_takeDraft : ∀ pc, pm_Ct (t_T_takeDraft pc) := (ct_tn (ct_tn (ct_tn (ct_tl (ct_aload _ _)) (ct_tn (ct_tl (ct_getR _ _ _)) (ct_tl (ct_iload _ _)))) (ct_tn (ct_tl (ct_call _ _ _ _ _ _ _)) (ct_tn (ct_tl (ct_aload _ _)) (ct_tl (ct_getR _ _ _))))) (ct_tn (ct_tn (ct_tl (ct_call _ _ _ _ _ _ _)) (ct_tn (ct_tl (ct_aload _ _)) (ct_tl (ct_getR _ _ _)))) (ct_tn (ct_tl (ct_call _ _ _ _ _ _ _)) (ct_tn (ct_tl (ct_iload _ _)) (ct_tl (ct_iret))))))
def t_T_draftFrom : Nat → pm_S := (pm_tn 48 (pm_tn 24 (pm_tn 12 (pm_tn 5 (pm_tn 1 (pm_tl 0 (s_push 0 1)) (pm_tn 3 (pm_tl 1 (s_K 3 [true, true, true, true, true, false, false, false] (s_istore 4 3))) (pm_tl 3 (s_iload 4 5)))) (pm_tn 9 (pm_tn 6 (pm_tl 5 (s_iload 3 6)) (pm_tl 6 (s_cge 99 9))) (pm_tn 10 (pm_tl 9 (s_push 0 10)) (pm_tl 10 (s_K 12 [true, true, true, true, true, true, false, false] (s_istore 5 12)))))) (pm_tn 18 (pm_tn 14 (pm_tl 12 (s_iload 5 14)) (pm_tn 15 (pm_tl 14 (s_iload 3 15)) (pm_tl 15 (s_cge 93 18)))) (pm_tn 21 (pm_tn 19 (pm_tl 18 (s_iload 3 19)) (pm_tl 19 (s_iload 4 21))) (pm_tn 22 (pm_tl 21 (s_imul 22)) (pm_tl 22 (s_iload 5 24)))))) (pm_tn 35 (pm_tn 28 (pm_tn 25 (pm_tl 24 (s_iadd 25)) (pm_tn 27 (pm_tl 25 (s_istore 6 27)) (pm_tl 27 (s_aload 1 28)))) (pm_tn 31 (pm_tn 29 (pm_tl 28 (s_iload 2 29)) (pm_tl 29 (s_iload 6 31))) (pm_tn 32 (pm_tl 31 (s_iadd 32)) (pm_tl 32 (s_call 30 2 0 3 1 (fun _ => 0) 35))))) (pm_tn 41 (pm_tn 38 (pm_tl 35 (s_ifne 41 38)) (pm_tn 40 (pm_tl 38 (s_push (-12) 40)) (pm_tl 40 (s_iret)))) (pm_tn 45 (pm_tn 42 (pm_tl 41 (s_aload 1 42)) (pm_tl 42 (s_getR 3 3 45))) (pm_tn 46 (pm_tl 45 (s_iload 2 46)) (pm_tl 46 (s_iload 6 48))))))) (pm_tn 73 (pm_tn 60 (pm_tn 52 (pm_tn 49 (pm_tl 48 (s_iadd 49)) (pm_tn 50 (pm_tl 49 (s_iald 50)) (pm_tl 50 (s_istore 7 52)))) (pm_tn 57 (pm_tn 54 (pm_tl 52 (s_iload 7 54)) (pm_tl 54 (s_iflt 63 57))) (pm_tn 59 (pm_tl 57 (s_iload 7 59)) (pm_tl 59 (s_iload 3 60))))) (pm_tn 67 (pm_tn 63 (pm_tl 60 (s_clt 69 63)) (pm_tn 65 (pm_tl 63 (s_push (-100) 65)) (pm_tl 65 (s_iload 6 67)))) (pm_tn 69 (pm_tn 68 (pm_tl 67 (s_isub 68)) (pm_tl 68 (s_iret))) (pm_tn 70 (pm_tl 69 (s_aload 0 70)) (pm_tl 70 (s_getR 6 0 73)))))) (pm_tn 86 (pm_tn 80 (pm_tn 76 (pm_tl 73 (s_getR 2 1 76)) (pm_tn 78 (pm_tl 76 (s_push 8 78)) (pm_tl 78 (s_iload 4 80)))) (pm_tn 83 (pm_tn 81 (pm_tl 80 (s_imul 81)) (pm_tl 81 (s_iload 5 83))) (pm_tn 84 (pm_tl 83 (s_iadd 84)) (pm_tl 84 (s_iload 7 86))))) (pm_tn 93 (pm_tn 87 (pm_tl 86 (s_iast 87)) (pm_tn 90 (pm_tl 87 (s_iinc 5 1 90)) (pm_tl 90 (s_K 12 [true, true, true, true, true, true, false, false] (s_goto 12))))) (pm_tn 99 (pm_tn 96 (pm_tl 93 (s_iinc 4 1 96)) (pm_tl 96 (s_K 3 [true, true, true, true, true, false, false, false] (s_goto 3)))) (pm_tn 100 (pm_tl 99 (s_push 0 100)) (pm_tl 100 (s_iret))))))))
theorem tc_T_draftFrom : ∀ pc, pm_Ct (t_T_draftFrom pc) := (ct_tn (ct_tn (ct_tn (ct_tn (ct_tn (ct_tl (ct_push _ _)) (ct_tn (ct_tl (ct_K (ct_istore _ _))) (ct_tl (ct_iload _ _)))) (ct_tn (ct_tn (ct_tl (ct_iload _ _)) (ct_tl (ct_cge _ _))) (ct_tn (ct_tl (ct_push _ _)) (ct_tl (ct_K (ct_istore _ _)))))) (ct_tn (ct_tn (ct_tl (ct_iload _ _)) (ct_tn (ct_tl (ct_iload _ _)) (ct_tl (ct_cge _ _)))) (ct_tn (ct_tn (ct_tl (ct_iload _ _)) (ct_tl (ct_iload _ _))) (ct_tn (ct_tl (ct_imul _)) (ct_tl (ct_iload _ _)))))) (ct_tn (ct_tn (ct_tn (ct_tl (ct_iadd _)) (ct_tn (ct_tl (ct_istore _ _)) (ct_tl (ct_aload _ _)))) (ct_tn (ct_tn (ct_tl (ct_iload _ _)) (ct_tl (ct_iload _ _))) (ct_tn (ct_tl (ct_iadd _)) (ct_tl (ct_call _ _ _ _ _ _ _))))) (ct_tn (ct_tn (ct_tl (ct_ifne _ _)) (ct_tn (ct_tl (ct_push _ _)) (ct_tl (ct_iret)))) (ct_tn (ct_tn (ct_tl (ct_aload _ _)) (ct_tl (ct_getR _ _ _))) (ct_tn (ct_tl (ct_iload _ _)) (ct_tl (ct_iload _ _))))))) (ct_tn (ct_tn (ct_tn (ct_tn (ct_tl (ct_iadd _)) (ct_tn (ct_tl (ct_iald _)) (ct_tl (ct_istore _ _)))) (ct_tn (ct_tn (ct_tl (ct_iload _ _)) (ct_tl (ct_iflt _ _))) (ct_tn (ct_tl (ct_iload _ _)) (ct_tl (ct_iload _ _))))) (ct_tn (ct_tn (ct_tl (ct_clt _ _)) (ct_tn (ct_tl (ct_push _ _)) (ct_tl (ct_iload _ _)))) (ct_tn (ct_tn (ct_tl (ct_isub _)) (ct_tl (ct_iret))) (ct_tn (ct_tl (ct_aload _ _)) (ct_tl (ct_getR _ _ _)))))) (ct_tn (ct_tn (ct_tn (ct_tl (ct_getR _ _ _)) (ct_tn (ct_tl (ct_push _ _)) (ct_tl (ct_iload _ _)))) (ct_tn (ct_tn (ct_tl (ct_imul _)) (ct_tl (ct_iload _ _))) (ct_tn (ct_tl (ct_iadd _)) (ct_tl (ct_iload _ _))))) (ct_tn (ct_tn (ct_tl (ct_iast _)) (ct_tn (ct_tl (ct_iinc _ _ _)) (ct_tl (ct_K (ct_goto _))))) (ct_tn (ct_tn (ct_tl (ct_iinc _ _ _)) (ct_tl (ct_K (ct_goto _)))) (ct_tn (ct_tl (ct_push _ _)) (ct_tl (ct_iret))))))))
def t_T_isSpent : Nat → pm_S := (pm_tn 26 (pm_tn 11 (pm_tn 3 (pm_tn 1 (pm_tl 0 (s_lpush 1 1)) (pm_tn 2 (pm_tl 1 (s_lstore 1 2)) (pm_tl 2 (s_aload 0 3)))) (pm_tn 9 (pm_tn 6 (pm_tl 3 (s_getR 6 1 6)) (pm_tl 6 (s_getI 1 2 9))) (pm_tn 10 (pm_tl 9 (s_K 10 [true, true, false, true] (s_istore 3 10))) (pm_tl 10 (s_iload 3 11))))) (pm_tn 18 (pm_tn 12 (pm_tl 11 (s_aload 0 12)) (pm_tn 15 (pm_tl 12 (s_getR 6 1 15)) (pm_tl 15 (s_getI 1 1 18)))) (pm_tn 22 (pm_tn 21 (pm_tl 18 (s_cge 38 21)) (pm_tl 21 (s_lload 1 22))) (pm_tn 23 (pm_tl 22 (s_aload 0 23)) (pm_tl 23 (s_getR 6 0 26)))))) (pm_tn 39 (pm_tn 31 (pm_tn 29 (pm_tl 26 (s_getI 2 0 29)) (pm_tn 30 (pm_tl 29 (s_i2l 30)) (pm_tl 30 (s_lmul 31)))) (pm_tn 35 (pm_tn 32 (pm_tl 31 (s_lstore 1 32)) (pm_tl 32 (s_iinc 3 1 35))) (pm_tn 38 (pm_tl 35 (s_K 10 [true, true, false, true] (s_goto 10))) (pm_tl 38 (s_lload 1 39))))) (pm_tn 46 (pm_tn 42 (pm_tl 39 (s_lpush 40000 42)) (pm_tn 43 (pm_tl 42 (s_lcmp 43)) (pm_tl 43 (s_ifle 50 46)))) (pm_tn 50 (pm_tn 47 (pm_tl 46 (s_push 1 47)) (pm_tl 47 (s_goto 51))) (pm_tn 51 (pm_tl 50 (s_push 0 51)) (pm_tl 51 (s_zret)))))))
theorem tc_T_isSpent : ∀ pc, pm_Ct (t_T_isSpent pc) := (ct_tn (ct_tn (ct_tn (ct_tn (ct_tl (ct_lpush _ _)) (ct_tn (ct_tl (ct_lstore _ _)) (ct_tl (ct_aload _ _)))) (ct_tn (ct_tn (ct_tl (ct_getR _ _ _)) (ct_tl (ct_getI _ _ _))) (ct_tn (ct_tl (ct_K (ct_istore _ _))) (ct_tl (ct_iload _ _))))) (ct_tn (ct_tn (ct_tl (ct_aload _ _)) (ct_tn (ct_tl (ct_getR _ _ _)) (ct_tl (ct_getI _ _ _)))) (ct_tn (ct_tn (ct_tl (ct_cge _ _)) (ct_tl (ct_lload _ _))) (ct_tn (ct_tl (ct_aload _ _)) (ct_tl (ct_getR _ _ _)))))) (ct_tn (ct_tn (ct_tn (ct_tl (ct_getI _ _ _)) (ct_tn (ct_tl (ct_i2l _)) (ct_tl (ct_lmul _)))) (ct_tn (ct_tn (ct_tl (ct_lstore _ _)) (ct_tl (ct_iinc _ _ _))) (ct_tn (ct_tl (ct_K (ct_goto _))) (ct_tl (ct_lload _ _))))) (ct_tn (ct_tn (ct_tl (ct_lpush _ _)) (ct_tn (ct_tl (ct_lcmp _)) (ct_tl (ct_ifle _ _)))) (ct_tn (ct_tn (ct_tl (ct_push _ _)) (ct_tl (ct_goto _))) (ct_tn (ct_tl (ct_push _ _)) (ct_tl (ct_zret)))))))
def t_T_sumOfWeights : Nat → pm_S := (pm_tn 8 (pm_tn 4 (pm_tn 1 (pm_tl 0 (s_aload 0 1)) (pm_tl 1 (s_getR 6 6 4))) (pm_tn 7 (pm_tl 4 (s_call 33 1 2 4 0 (fun _ => 0) 7)) (pm_tl 7 (s_aload 0 8)))) (pm_tn 12 (pm_tn 11 (pm_tl 8 (s_call 87 1 1 6 0 (fun _ => 2) 11)) (pm_tl 11 (s_aload 0 12))) (pm_tn 15 (pm_tl 12 (s_call 88 1 0 6 2 (fun _ => 14) 15)) (pm_tl 15 (s_lret)))))
theorem tc_T_sumOfWeights : ∀ pc, pm_Ct (t_T_sumOfWeights pc) := (ct_tn (ct_tn (ct_tn (ct_tl (ct_aload _ _)) (ct_tl (ct_getR _ _ _))) (ct_tn (ct_tl (ct_call _ _ _ _ _ _ _)) (ct_tl (ct_aload _ _)))) (ct_tn (ct_tn (ct_tl (ct_call _ _ _ _ _ _ _)) (ct_tl (ct_aload _ _))) (ct_tn (ct_tl (ct_call _ _ _ _ _ _ _)) (ct_tl (ct_lret)))))
def t_T_sumHeld : Nat → pm_S := (pm_tn 15 (pm_tn 7 (pm_tn 1 (pm_tl 0 (s_aload 0 1)) (pm_tn 4 (pm_tl 1 (s_getR 6 6 4)) (pm_tl 4 (s_call 33 1 2 4 0 (fun _ => 0) 7)))) (pm_tn 11 (pm_tn 8 (pm_tl 7 (s_aload 0 8)) (pm_tl 8 (s_call 87 1 1 6 0 (fun _ => 2) 11))) (pm_tn 12 (pm_tl 11 (s_aload 0 12)) (pm_tl 12 (s_getR 6 6 15))))) (pm_tn 21 (pm_tn 17 (pm_tn 16 (pm_tl 15 (s_iload 1 16)) (pm_tl 16 (s_iload 2 17))) (pm_tn 18 (pm_tl 17 (s_aload 0 18)) (pm_tl 18 (s_getR 6 0 21)))) (pm_tn 25 (pm_tn 24 (pm_tl 21 (s_call 35 4 1 4 0 (fun _ => 0) 24)) (pm_tl 24 (s_aload 0 25))) (pm_tn 28 (pm_tl 25 (s_call 88 1 0 6 2 (fun _ => 14) 28)) (pm_tl 28 (s_lret))))))
theorem tc_T_sumHeld : ∀ pc, pm_Ct (t_T_sumHeld pc) := (ct_tn (ct_tn (ct_tn (ct_tl (ct_aload _ _)) (ct_tn (ct_tl (ct_getR _ _ _)) (ct_tl (ct_call _ _ _ _ _ _ _)))) (ct_tn (ct_tn (ct_tl (ct_aload _ _)) (ct_tl (ct_call _ _ _ _ _ _ _))) (ct_tn (ct_tl (ct_aload _ _)) (ct_tl (ct_getR _ _ _))))) (ct_tn (ct_tn (ct_tn (ct_tl (ct_iload _ _)) (ct_tl (ct_iload _ _))) (ct_tn (ct_tl (ct_aload _ _)) (ct_tl (ct_getR _ _ _)))) (ct_tn (ct_tn (ct_tl (ct_call _ _ _ _ _ _ _)) (ct_tl (ct_aload _ _))) (ct_tn (ct_tl (ct_call _ _ _ _ _ _ _)) (ct_tl (ct_lret))))))
def t_T_lookForWeights : Nat → pm_S := (pm_tn 16 (pm_tn 7 (pm_tn 2 (pm_tn 1 (pm_tl 0 (s_push 0 1)) (pm_tl 1 (s_K 2 [true, true] (s_istore 1 2)))) (pm_tn 3 (pm_tl 2 (s_iload 1 3)) (pm_tn 4 (pm_tl 3 (s_aload 0 4)) (pm_tl 4 (s_getI 6 3 7))))) (pm_tn 11 (pm_tn 10 (pm_tl 7 (s_cge 40 10)) (pm_tl 10 (s_aload 0 11))) (pm_tn 14 (pm_tl 11 (s_getR 6 2 14)) (pm_tn 15 (pm_tl 14 (s_iload 1 15)) (pm_tl 15 (s_aald 16)))))) (pm_tn 27 (pm_tn 22 (pm_tn 19 (pm_tl 16 (s_call 43 1 0 5 1 (fun _ => 1) 19)) (pm_tl 19 (s_ifeq 34 22))) (pm_tn 23 (pm_tl 22 (s_aload 0 23)) (pm_tn 26 (pm_tl 23 (s_getR 6 6 26)) (pm_tl 26 (s_iload 1 27))))) (pm_tn 34 (pm_tn 28 (pm_tl 27 (s_aload 0 28)) (pm_tn 31 (pm_tl 28 (s_getR 6 0 31)) (pm_tl 31 (s_call 34 3 1 4 0 (fun _ => 0) 34)))) (pm_tn 37 (pm_tl 34 (s_iinc 1 1 37)) (pm_tn 40 (pm_tl 37 (s_K 2 [true, true] (s_goto 2))) (pm_tl 40 (s_vret)))))))
theorem tc_T_lookForWeights : ∀ pc, pm_Ct (t_T_lookForWeights pc) := (ct_tn (ct_tn (ct_tn (ct_tn (ct_tl (ct_push _ _)) (ct_tl (ct_K (ct_istore _ _)))) (ct_tn (ct_tl (ct_iload _ _)) (ct_tn (ct_tl (ct_aload _ _)) (ct_tl (ct_getI _ _ _))))) (ct_tn (ct_tn (ct_tl (ct_cge _ _)) (ct_tl (ct_aload _ _))) (ct_tn (ct_tl (ct_getR _ _ _)) (ct_tn (ct_tl (ct_iload _ _)) (ct_tl (ct_aald _)))))) (ct_tn (ct_tn (ct_tn (ct_tl (ct_call _ _ _ _ _ _ _)) (ct_tl (ct_ifeq _ _))) (ct_tn (ct_tl (ct_aload _ _)) (ct_tn (ct_tl (ct_getR _ _ _)) (ct_tl (ct_iload _ _))))) (ct_tn (ct_tn (ct_tl (ct_aload _ _)) (ct_tn (ct_tl (ct_getR _ _ _)) (ct_tl (ct_call _ _ _ _ _ _ _)))) (ct_tn (ct_tl (ct_iinc _ _ _)) (ct_tn (ct_tl (ct_K (ct_goto _))) (ct_tl (ct_vret)))))))
def t_T_sumLooked : Nat → pm_S := (pm_tn 18 (pm_tn 9 (pm_tn 4 (pm_tn 1 (pm_tl 0 (s_aload 0 1)) (pm_tl 1 (s_getR 6 6 4))) (pm_tn 5 (pm_tl 4 (s_aload 0 5)) (pm_tn 8 (pm_tl 5 (s_getR 6 2 8)) (pm_tl 8 (s_aload 0 9))))) (pm_tn 15 (pm_tn 12 (pm_tl 9 (s_getR 6 1 12)) (pm_tl 12 (s_call 37 3 1 4 0 (fun _ => 2) 15))) (pm_tn 16 (pm_tl 15 (s_push 0 16)) (pm_tn 17 (pm_tl 16 (s_lpush 1 17)) (pm_tl 17 (s_aload 0 18)))))) (pm_tn 29 (pm_tn 22 (pm_tn 21 (pm_tl 18 (s_getR 6 6 21)) (pm_tl 21 (s_aload 0 22))) (pm_tn 25 (pm_tl 22 (s_getR 6 2 25)) (pm_tn 26 (pm_tl 25 (s_aload 0 26)) (pm_tl 26 (s_getR 6 1 29))))) (pm_tn 33 (pm_tn 32 (pm_tl 29 (s_getI 1 1 32)) (pm_tl 32 (s_aload 0 33))) (pm_tn 36 (pm_tl 33 (s_getR 6 0 36)) (pm_tn 39 (pm_tl 36 (s_call 38 6 6 99 2 pm_rkS 39)) (pm_tl 39 (s_lret)))))))
theorem tc_T_sumLooked : ∀ pc, pm_Ct (t_T_sumLooked pc) := (ct_tn (ct_tn (ct_tn (ct_tn (ct_tl (ct_aload _ _)) (ct_tl (ct_getR _ _ _))) (ct_tn (ct_tl (ct_aload _ _)) (ct_tn (ct_tl (ct_getR _ _ _)) (ct_tl (ct_aload _ _))))) (ct_tn (ct_tn (ct_tl (ct_getR _ _ _)) (ct_tl (ct_call _ _ _ _ _ _ _))) (ct_tn (ct_tl (ct_push _ _)) (ct_tn (ct_tl (ct_lpush _ _)) (ct_tl (ct_aload _ _)))))) (ct_tn (ct_tn (ct_tn (ct_tl (ct_getR _ _ _)) (ct_tl (ct_aload _ _))) (ct_tn (ct_tl (ct_getR _ _ _)) (ct_tn (ct_tl (ct_aload _ _)) (ct_tl (ct_getR _ _ _))))) (ct_tn (ct_tn (ct_tl (ct_getI _ _ _)) (ct_tl (ct_aload _ _))) (ct_tn (ct_tl (ct_getR _ _ _)) (ct_tn (ct_tl (ct_call _ _ _ _ _ _ _)) (ct_tl (ct_lret)))))))
def t_T_commonDivisor : Nat → pm_S := (pm_tn 21 (pm_tn 9 (pm_tn 4 (pm_tn 1 (pm_tl 0 (s_lload 0 1)) (pm_tn 3 (pm_tl 1 (s_lstore 4 3)) (pm_tl 3 (s_lload 2 4)))) (pm_tn 6 (pm_tl 4 (s_lstore 6 6)) (pm_tn 7 (pm_tl 6 (s_push 0 7)) (pm_tl 7 (s_K 9 [false, false, false, false, true, false, true, false, true, false, false] (s_istore 8 9)))))) (pm_tn 17 (pm_tn 11 (pm_tl 9 (s_iload 8 11)) (pm_tn 14 (pm_tl 11 (s_push 200 14)) (pm_tl 14 (s_cge 45 17)))) (pm_tn 19 (pm_tl 17 (s_lload 6 19)) (pm_tn 20 (pm_tl 19 (s_lpush 0 20)) (pm_tl 20 (s_lcmp 21)))))) (pm_tn 33 (pm_tn 28 (pm_tn 24 (pm_tl 21 (s_ifeq 45 24)) (pm_tn 26 (pm_tl 24 (s_lload 4 26)) (pm_tl 26 (s_lload 6 28)))) (pm_tn 29 (pm_tl 28 (s_lrem 29)) (pm_tn 31 (pm_tl 29 (s_lstore 9 31)) (pm_tl 31 (s_lload 6 33))))) (pm_tn 39 (pm_tn 35 (pm_tl 33 (s_lstore 4 35)) (pm_tn 37 (pm_tl 35 (s_lload 9 37)) (pm_tl 37 (s_lstore 6 39)))) (pm_tn 45 (pm_tn 42 (pm_tl 39 (s_iinc 8 1 42)) (pm_tl 42 (s_K 9 [false, false, false, false, true, false, true, false, true, false, false] (s_goto 9)))) (pm_tn 47 (pm_tl 45 (s_lload 4 47)) (pm_tl 47 (s_lret)))))))
theorem tc_T_commonDivisor : ∀ pc, pm_Ct (t_T_commonDivisor pc) := (ct_tn (ct_tn (ct_tn (ct_tn (ct_tl (ct_lload _ _)) (ct_tn (ct_tl (ct_lstore _ _)) (ct_tl (ct_lload _ _)))) (ct_tn (ct_tl (ct_lstore _ _)) (ct_tn (ct_tl (ct_push _ _)) (ct_tl (ct_K (ct_istore _ _)))))) (ct_tn (ct_tn (ct_tl (ct_iload _ _)) (ct_tn (ct_tl (ct_push _ _)) (ct_tl (ct_cge _ _)))) (ct_tn (ct_tl (ct_lload _ _)) (ct_tn (ct_tl (ct_lpush _ _)) (ct_tl (ct_lcmp _)))))) (ct_tn (ct_tn (ct_tn (ct_tl (ct_ifeq _ _)) (ct_tn (ct_tl (ct_lload _ _)) (ct_tl (ct_lload _ _)))) (ct_tn (ct_tl (ct_lrem _)) (ct_tn (ct_tl (ct_lstore _ _)) (ct_tl (ct_lload _ _))))) (ct_tn (ct_tn (ct_tl (ct_lstore _ _)) (ct_tn (ct_tl (ct_lload _ _)) (ct_tl (ct_lstore _ _)))) (ct_tn (ct_tn (ct_tl (ct_iinc _ _ _)) (ct_tl (ct_K (ct_goto _)))) (ct_tn (ct_tl (ct_lload _ _)) (ct_tl (ct_lret)))))))
def t_T_linesFault : Nat → pm_S := (pm_tn 27 (pm_tn 14 (pm_tn 4 (pm_tn 2 (pm_tn 1 (pm_tl 0 (s_push 0 1)) (pm_tl 1 (s_K 2 [true, true, true, true] (s_istore 3 2)))) (pm_tn 3 (pm_tl 2 (s_iload 3 3)) (pm_tl 3 (s_aload 0 4)))) (pm_tn 10 (pm_tn 7 (pm_tl 4 (s_getR 6 1 7)) (pm_tl 7 (s_getI 1 1 10))) (pm_tn 13 (pm_tl 10 (s_cge 52 13)) (pm_tl 13 (s_aload 1 14))))) (pm_tn 20 (pm_tn 16 (pm_tn 15 (pm_tl 14 (s_iload 2 15)) (pm_tl 15 (s_iload 3 16))) (pm_tn 17 (pm_tl 16 (s_iadd 17)) (pm_tl 17 (s_call 30 2 0 3 1 (fun _ => 0) 20)))) (pm_tn 25 (pm_tn 23 (pm_tl 20 (s_ifne 26 23)) (pm_tl 23 (s_push (-12) 25))) (pm_tn 26 (pm_tl 25 (s_iret)) (pm_tl 26 (s_aload 0 27)))))) (pm_tn 41 (pm_tn 33 (pm_tn 31 (pm_tn 28 (pm_tl 27 (s_aload 1 28)) (pm_tl 28 (s_getR 3 3 31))) (pm_tn 32 (pm_tl 31 (s_iload 2 32)) (pm_tl 32 (s_iload 3 33)))) (pm_tn 35 (pm_tn 34 (pm_tl 33 (s_iadd 34)) (pm_tl 34 (s_iald 35))) (pm_tn 38 (pm_tl 35 (s_call 74 2 0 6 1 (fun _ => 0) 38)) (pm_tl 38 (s_ifne 46 41))))) (pm_tn 46 (pm_tn 44 (pm_tn 43 (pm_tl 41 (s_push (-20) 43)) (pm_tl 43 (s_iload 3 44))) (pm_tn 45 (pm_tl 44 (s_isub 45)) (pm_tl 45 (s_iret)))) (pm_tn 52 (pm_tn 49 (pm_tl 46 (s_iinc 3 1 49)) (pm_tl 49 (s_K 2 [true, true, true, true] (s_goto 2)))) (pm_tn 53 (pm_tl 52 (s_push 0 53)) (pm_tl 53 (s_iret)))))))
theorem tc_T_linesFault : ∀ pc, pm_Ct (t_T_linesFault pc) := (ct_tn (ct_tn (ct_tn (ct_tn (ct_tn (ct_tl (ct_push _ _)) (ct_tl (ct_K (ct_istore _ _)))) (ct_tn (ct_tl (ct_iload _ _)) (ct_tl (ct_aload _ _)))) (ct_tn (ct_tn (ct_tl (ct_getR _ _ _)) (ct_tl (ct_getI _ _ _))) (ct_tn (ct_tl (ct_cge _ _)) (ct_tl (ct_aload _ _))))) (ct_tn (ct_tn (ct_tn (ct_tl (ct_iload _ _)) (ct_tl (ct_iload _ _))) (ct_tn (ct_tl (ct_iadd _)) (ct_tl (ct_call _ _ _ _ _ _ _)))) (ct_tn (ct_tn (ct_tl (ct_ifne _ _)) (ct_tl (ct_push _ _))) (ct_tn (ct_tl (ct_iret)) (ct_tl (ct_aload _ _)))))) (ct_tn (ct_tn (ct_tn (ct_tn (ct_tl (ct_aload _ _)) (ct_tl (ct_getR _ _ _))) (ct_tn (ct_tl (ct_iload _ _)) (ct_tl (ct_iload _ _)))) (ct_tn (ct_tn (ct_tl (ct_iadd _)) (ct_tl (ct_iald _))) (ct_tn (ct_tl (ct_call _ _ _ _ _ _ _)) (ct_tl (ct_ifne _ _))))) (ct_tn (ct_tn (ct_tn (ct_tl (ct_push _ _)) (ct_tl (ct_iload _ _))) (ct_tn (ct_tl (ct_isub _)) (ct_tl (ct_iret)))) (ct_tn (ct_tn (ct_tl (ct_iinc _ _ _)) (ct_tl (ct_K (ct_goto _)))) (ct_tn (ct_tl (ct_push _ _)) (ct_tl (ct_iret)))))))
def t_T_fillLines : Nat → pm_S := (pm_tn 37 (pm_tn 18 (pm_tn 7 (pm_tn 2 (pm_tn 1 (pm_tl 0 (s_push 0 1)) (pm_tl 1 (s_istore 3 2))) (pm_tn 3 (pm_tl 2 (s_push 0 3)) (pm_tn 5 (pm_tl 3 (s_K 5 [true, true, true, true, true, false] (s_istore 4 5))) (pm_tl 5 (s_iload 4 7))))) (pm_tn 11 (pm_tn 8 (pm_tl 7 (s_aload 0 8)) (pm_tl 8 (s_getR 6 1 11))) (pm_tn 14 (pm_tl 11 (s_getI 1 1 14)) (pm_tn 17 (pm_tl 14 (s_cge 78 17)) (pm_tl 17 (s_aload 1 18)))))) (pm_tn 26 (pm_tn 22 (pm_tn 21 (pm_tl 18 (s_getR 3 3 21)) (pm_tl 21 (s_iload 2 22))) (pm_tn 24 (pm_tl 22 (s_iload 4 24)) (pm_tn 25 (pm_tl 24 (s_iadd 25)) (pm_tl 25 (s_iald 26))))) (pm_tn 30 (pm_tn 28 (pm_tl 26 (s_istore 5 28)) (pm_tl 28 (s_iload 5 30))) (pm_tn 31 (pm_tl 30 (s_aload 0 31)) (pm_tn 34 (pm_tl 31 (s_getR 6 1 34)) (pm_tl 34 (s_getR 1 5 37))))))) (pm_tn 58 (pm_tn 47 (pm_tn 40 (pm_tn 39 (pm_tl 37 (s_iload 4 39)) (pm_tl 39 (s_iald 40))) (pm_tn 43 (pm_tl 40 (s_ceq 72 43)) (pm_tn 44 (pm_tl 43 (s_aload 0 44)) (pm_tl 44 (s_getR 6 4 47))))) (pm_tn 51 (pm_tn 48 (pm_tl 47 (s_aload 0 48)) (pm_tl 48 (s_getR 6 1 51))) (pm_tn 54 (pm_tl 51 (s_getR 1 5 54)) (pm_tn 57 (pm_tl 54 (s_call 0 2 0 0 0 (fun _ => 1) 57)) (pm_tl 57 (s_aload 0 58)))))) (pm_tn 69 (pm_tn 64 (pm_tn 61 (pm_tl 58 (s_getR 6 1 61)) (pm_tl 61 (s_getR 1 5 64))) (pm_tn 66 (pm_tl 64 (s_iload 4 66)) (pm_tn 68 (pm_tl 66 (s_iload 5 68)) (pm_tl 68 (s_iast 69))))) (pm_tn 75 (pm_tn 72 (pm_tl 69 (s_iinc 3 1 72)) (pm_tl 72 (s_iinc 4 1 75))) (pm_tn 78 (pm_tl 75 (s_K 5 [true, true, true, true, true, false] (s_goto 5))) (pm_tn 79 (pm_tl 78 (s_iload 3 79)) (pm_tl 79 (s_iret))))))))
theorem tc_T_fillLines : ∀ pc, pm_Ct (t_T_fillLines pc) := (ct_tn (ct_tn (ct_tn (ct_tn (ct_tn (ct_tl (ct_push _ _)) (ct_tl (ct_istore _ _))) (ct_tn (ct_tl (ct_push _ _)) (ct_tn (ct_tl (ct_K (ct_istore _ _))) (ct_tl (ct_iload _ _))))) (ct_tn (ct_tn (ct_tl (ct_aload _ _)) (ct_tl (ct_getR _ _ _))) (ct_tn (ct_tl (ct_getI _ _ _)) (ct_tn (ct_tl (ct_cge _ _)) (ct_tl (ct_aload _ _)))))) (ct_tn (ct_tn (ct_tn (ct_tl (ct_getR _ _ _)) (ct_tl (ct_iload _ _))) (ct_tn (ct_tl (ct_iload _ _)) (ct_tn (ct_tl (ct_iadd _)) (ct_tl (ct_iald _))))) (ct_tn (ct_tn (ct_tl (ct_istore _ _)) (ct_tl (ct_iload _ _))) (ct_tn (ct_tl (ct_aload _ _)) (ct_tn (ct_tl (ct_getR _ _ _)) (ct_tl (ct_getR _ _ _))))))) (ct_tn (ct_tn (ct_tn (ct_tn (ct_tl (ct_iload _ _)) (ct_tl (ct_iald _))) (ct_tn (ct_tl (ct_ceq _ _)) (ct_tn (ct_tl (ct_aload _ _)) (ct_tl (ct_getR _ _ _))))) (ct_tn (ct_tn (ct_tl (ct_aload _ _)) (ct_tl (ct_getR _ _ _))) (ct_tn (ct_tl (ct_getR _ _ _)) (ct_tn (ct_tl (ct_call _ _ _ _ _ _ _)) (ct_tl (ct_aload _ _)))))) (ct_tn (ct_tn (ct_tn (ct_tl (ct_getR _ _ _)) (ct_tl (ct_getR _ _ _))) (ct_tn (ct_tl (ct_iload _ _)) (ct_tn (ct_tl (ct_iload _ _)) (ct_tl (ct_iast _))))) (ct_tn (ct_tn (ct_tl (ct_iinc _ _ _)) (ct_tl (ct_iinc _ _ _))) (ct_tn (ct_tl (ct_K (ct_goto _))) (ct_tn (ct_tl (ct_iload _ _)) (ct_tl (ct_iret))))))))
def t_M_in : Nat → pm_S := (pm_tn 9 (pm_tn 3 (pm_tn 1 (pm_tl 0 (s_lload 0 1)) (pm_tn 2 (pm_tl 1 (s_lload 2 2)) (pm_tl 2 (s_lcmp 3)))) (pm_tn 6 (pm_tl 3 (s_iflt 17 6)) (pm_tn 7 (pm_tl 6 (s_lload 0 7)) (pm_tl 7 (s_lload 4 9))))) (pm_tn 14 (pm_tn 10 (pm_tl 9 (s_lcmp 10)) (pm_tn 13 (pm_tl 10 (s_ifgt 17 13)) (pm_tl 13 (s_push 1 14)))) (pm_tn 17 (pm_tl 14 (s_goto 18)) (pm_tn 18 (pm_tl 17 (s_push 0 18)) (pm_tl 18 (s_zret))))))
theorem tc_M_in : ∀ pc, pm_Ct (t_M_in pc) := (ct_tn (ct_tn (ct_tn (ct_tl (ct_lload _ _)) (ct_tn (ct_tl (ct_lload _ _)) (ct_tl (ct_lcmp _)))) (ct_tn (ct_tl (ct_iflt _ _)) (ct_tn (ct_tl (ct_lload _ _)) (ct_tl (ct_lload _ _))))) (ct_tn (ct_tn (ct_tl (ct_lcmp _)) (ct_tn (ct_tl (ct_ifgt _ _)) (ct_tl (ct_push _ _)))) (ct_tn (ct_tl (ct_goto _)) (ct_tn (ct_tl (ct_push _ _)) (ct_tl (ct_zret))))))
def t_M_isTurn : Nat → pm_S := (pm_tn 7 (pm_tn 2 (pm_tn 1 (pm_tl 0 (s_iload 1 1)) (pm_tl 1 (s_i2l 2))) (pm_tn 3 (pm_tl 2 (s_lpush 0 3)) (pm_tn 4 (pm_tl 3 (s_aload 0 4)) (pm_tl 4 (s_getI 7 0 7))))) (pm_tn 9 (pm_tn 8 (pm_tl 7 (s_push 1 8)) (pm_tl 8 (s_isub 9))) (pm_tn 10 (pm_tl 9 (s_i2l 10)) (pm_tn 13 (pm_tl 10 (s_call 92 3 0 99 1 (fun _ => 0) 13)) (pm_tl 13 (s_zret))))))
theorem tc_M_isTurn : ∀ pc, pm_Ct (t_M_isTurn pc) := (ct_tn (ct_tn (ct_tn (ct_tl (ct_iload _ _)) (ct_tl (ct_i2l _))) (ct_tn (ct_tl (ct_lpush _ _)) (ct_tn (ct_tl (ct_aload _ _)) (ct_tl (ct_getI _ _ _))))) (ct_tn (ct_tn (ct_tl (ct_push _ _)) (ct_tl (ct_isub _))) (ct_tn (ct_tl (ct_i2l _)) (ct_tn (ct_tl (ct_call _ _ _ _ _ _ _)) (ct_tl (ct_zret))))))
def t_M_product : Nat → pm_S := (pm_tn 7 (pm_tn 4 (pm_tn 1 (pm_tl 0 (s_aload 0 1)) (pm_tl 1 (s_getR 7 1 4))) (pm_tn 6 (pm_tl 4 (s_push 8 6)) (pm_tl 6 (s_iload 1 7)))) (pm_tn 9 (pm_tn 8 (pm_tl 7 (s_imul 8)) (pm_tl 8 (s_iload 2 9))) (pm_tn 10 (pm_tl 9 (s_iadd 10)) (pm_tn 11 (pm_tl 10 (s_iald 11)) (pm_tl 11 (s_iret))))))
theorem tc_M_product : ∀ pc, pm_Ct (t_M_product pc) := (ct_tn (ct_tn (ct_tn (ct_tl (ct_aload _ _)) (ct_tl (ct_getR _ _ _))) (ct_tn (ct_tl (ct_push _ _)) (ct_tl (ct_iload _ _)))) (ct_tn (ct_tn (ct_tl (ct_imul _)) (ct_tl (ct_iload _ _))) (ct_tn (ct_tl (ct_iadd _)) (ct_tn (ct_tl (ct_iald _)) (ct_tl (ct_iret))))))
def t_M_backOf : Nat → pm_S := (pm_tn 5 (pm_tn 2 (pm_tn 1 (pm_tl 0 (s_push 0 1)) (pm_tl 1 (s_K 2 [true, true, true] (s_istore 2 2)))) (pm_tn 3 (pm_tl 2 (s_aload 0 3)) (pm_tn 4 (pm_tl 3 (s_iload 1 4)) (pm_tl 4 (s_iload 2 5))))) (pm_tn 14 (pm_tn 8 (pm_tl 5 (s_call 94 3 0 7 1 (fun _ => 0) 8)) (pm_tn 11 (pm_tl 8 (s_ifeq 17 11)) (pm_tl 11 (s_iinc 2 1 14)))) (pm_tn 17 (pm_tl 14 (s_K 2 [true, true, true] (s_goto 2))) (pm_tn 18 (pm_tl 17 (s_iload 2 18)) (pm_tl 18 (s_iret))))))
theorem tc_M_backOf : ∀ pc, pm_Ct (t_M_backOf pc) := (ct_tn (ct_tn (ct_tn (ct_tl (ct_push _ _)) (ct_tl (ct_K (ct_istore _ _)))) (ct_tn (ct_tl (ct_aload _ _)) (ct_tn (ct_tl (ct_iload _ _)) (ct_tl (ct_iload _ _))))) (ct_tn (ct_tn (ct_tl (ct_call _ _ _ _ _ _ _)) (ct_tn (ct_tl (ct_ifeq _ _)) (ct_tl (ct_iinc _ _ _)))) (ct_tn (ct_tl (ct_K (ct_goto _))) (ct_tn (ct_tl (ct_iload _ _)) (ct_tl (ct_iret))))))
def t_M_begin : Nat → pm_S := (pm_tn 24 (pm_tn 11 (pm_tn 5 (pm_tn 1 (pm_tl 0 (s_aload 0 1)) (pm_tn 2 (pm_tl 1 (s_iload 1 2)) (pm_tl 2 (s_putI 7 0 5)))) (pm_tn 7 (pm_tn 6 (pm_tl 5 (s_aload 0 6)) (pm_tl 6 (s_push 0 7))) (pm_tn 10 (pm_tl 7 (s_putI 7 14 10)) (pm_tl 10 (s_push 0 11))))) (pm_tn 18 (pm_tn 13 (pm_tn 12 (pm_tl 11 (s_K 12 [true, false, true] (s_istore 2 12))) (pm_tl 12 (s_iload 2 13))) (pm_tn 15 (pm_tl 13 (s_push 10 15)) (pm_tl 15 (s_cge 31 18)))) (pm_tn 22 (pm_tn 19 (pm_tl 18 (s_aload 0 19)) (pm_tl 19 (s_getR 7 7 22))) (pm_tn 23 (pm_tl 22 (s_iload 2 23)) (pm_tl 23 (s_push 0 24)))))) (pm_tn 39 (pm_tn 32 (pm_tn 28 (pm_tn 25 (pm_tl 24 (s_iast 25)) (pm_tl 25 (s_iinc 2 1 28))) (pm_tn 31 (pm_tl 28 (s_K 12 [true, false, true] (s_goto 12))) (pm_tl 31 (s_push 0 32)))) (pm_tn 34 (pm_tn 33 (pm_tl 32 (s_K 33 [true, false, true] (s_istore 2 33))) (pm_tl 33 (s_iload 2 34))) (pm_tn 36 (pm_tl 34 (s_push 8 36)) (pm_tl 36 (s_cge 52 39))))) (pm_tn 45 (pm_tn 43 (pm_tn 40 (pm_tl 39 (s_aload 0 40)) (pm_tl 40 (s_getR 7 2 43))) (pm_tn 44 (pm_tl 43 (s_iload 2 44)) (pm_tl 44 (s_push 1 45)))) (pm_tn 49 (pm_tn 46 (pm_tl 45 (s_iast 46)) (pm_tl 46 (s_iinc 2 1 49))) (pm_tn 52 (pm_tl 49 (s_K 33 [true, false, true] (s_goto 33))) (pm_tl 52 (s_vret)))))))
theorem tc_M_begin : ∀ pc, pm_Ct (t_M_begin pc) := (ct_tn (ct_tn (ct_tn (ct_tn (ct_tl (ct_aload _ _)) (ct_tn (ct_tl (ct_iload _ _)) (ct_tl (ct_putI _ _ _)))) (ct_tn (ct_tn (ct_tl (ct_aload _ _)) (ct_tl (ct_push _ _))) (ct_tn (ct_tl (ct_putI _ _ _)) (ct_tl (ct_push _ _))))) (ct_tn (ct_tn (ct_tn (ct_tl (ct_K (ct_istore _ _))) (ct_tl (ct_iload _ _))) (ct_tn (ct_tl (ct_push _ _)) (ct_tl (ct_cge _ _)))) (ct_tn (ct_tn (ct_tl (ct_aload _ _)) (ct_tl (ct_getR _ _ _))) (ct_tn (ct_tl (ct_iload _ _)) (ct_tl (ct_push _ _)))))) (ct_tn (ct_tn (ct_tn (ct_tn (ct_tl (ct_iast _)) (ct_tl (ct_iinc _ _ _))) (ct_tn (ct_tl (ct_K (ct_goto _))) (ct_tl (ct_push _ _)))) (ct_tn (ct_tn (ct_tl (ct_K (ct_istore _ _))) (ct_tl (ct_iload _ _))) (ct_tn (ct_tl (ct_push _ _)) (ct_tl (ct_cge _ _))))) (ct_tn (ct_tn (ct_tn (ct_tl (ct_aload _ _)) (ct_tl (ct_getR _ _ _))) (ct_tn (ct_tl (ct_iload _ _)) (ct_tl (ct_push _ _)))) (ct_tn (ct_tn (ct_tl (ct_iast _)) (ct_tl (ct_iinc _ _ _))) (ct_tn (ct_tl (ct_K (ct_goto _))) (ct_tl (ct_vret)))))))
def t_M_crossed : Nat → pm_S := (pm_tn 39 (pm_tn 14 (pm_tn 7 (pm_tn 3 (pm_tn 1 (pm_tl 0 (s_iload 0 1)) (pm_tn 2 (pm_tl 1 (s_push 4 2)) (pm_tl 2 (s_irem 3)))) (pm_tn 5 (pm_tn 4 (pm_tl 3 (s_istore 2 4)) (pm_tl 4 (s_iload 1 5))) (pm_tn 6 (pm_tl 5 (s_push 4 6)) (pm_tl 6 (s_irem 7))))) (pm_tn 10 (pm_tn 8 (pm_tl 7 (s_istore 3 8)) (pm_tn 9 (pm_tl 8 (s_iload 0 9)) (pm_tl 9 (s_push 4 10)))) (pm_tn 12 (pm_tn 11 (pm_tl 10 (s_idiv 11)) (pm_tl 11 (s_iload 1 12))) (pm_tn 13 (pm_tl 12 (s_push 4 13)) (pm_tl 13 (s_idiv 14)))))) (pm_tn 26 (pm_tn 18 (pm_tn 15 (pm_tl 14 (s_iadd 15)) (pm_tn 17 (pm_tl 15 (s_istore 4 17)) (pm_tl 17 (s_iload 2 18)))) (pm_tn 22 (pm_tn 21 (pm_tl 18 (s_ifeq 25 21)) (pm_tl 21 (s_iload 3 22))) (pm_tn 25 (pm_tl 22 (s_ifne 33 25)) (pm_tl 25 (s_iload 2 26))))) (pm_tn 33 (pm_tn 28 (pm_tn 27 (pm_tl 26 (s_iload 3 27)) (pm_tl 27 (s_iadd 28))) (pm_tn 30 (pm_tl 28 (s_istore 5 30)) (pm_tl 30 (s_goto 74)))) (pm_tn 35 (pm_tn 34 (pm_tl 33 (s_iload 2 34)) (pm_tl 34 (s_iload 3 35))) (pm_tn 38 (pm_tl 35 (s_cne 47 38)) (pm_tl 38 (s_push 0 39))))))) (pm_tn 62 (pm_tn 52 (pm_tn 47 (pm_tn 41 (pm_tl 39 (s_istore 5 41)) (pm_tn 44 (pm_tl 41 (s_iinc 4 1 44)) (pm_tl 44 (s_goto 74)))) (pm_tn 50 (pm_tn 49 (pm_tl 47 (s_push 6 49)) (pm_tl 49 (s_iload 2 50))) (pm_tn 51 (pm_tl 50 (s_isub 51)) (pm_tl 51 (s_iload 3 52))))) (pm_tn 58 (pm_tn 55 (pm_tn 53 (pm_tl 52 (s_isub 53)) (pm_tl 53 (s_istore 5 55))) (pm_tn 57 (pm_tl 55 (s_iload 4 57)) (pm_tl 57 (s_iload 3 58)))) (pm_tn 60 (pm_tn 59 (pm_tl 58 (s_iload 2 59)) (pm_tl 59 (s_push 3 60))) (pm_tn 61 (pm_tl 60 (s_irem 61)) (pm_tl 61 (s_push 1 62)))))) (pm_tn 74 (pm_tn 67 (pm_tn 63 (pm_tl 62 (s_iadd 63)) (pm_tn 66 (pm_tl 63 (s_cne 70 66)) (pm_tl 66 (s_push 0 67)))) (pm_tn 71 (pm_tn 70 (pm_tl 67 (s_goto 71)) (pm_tl 70 (s_push 1 71))) (pm_tn 72 (pm_tl 71 (s_iadd 72)) (pm_tl 72 (s_istore 4 74))))) (pm_tn 80 (pm_tn 77 (pm_tn 76 (pm_tl 74 (s_iload 5 76)) (pm_tl 76 (s_push 4 77))) (pm_tn 79 (pm_tl 77 (s_iload 4 79)) (pm_tl 79 (s_push 2 80)))) (pm_tn 82 (pm_tn 81 (pm_tl 80 (s_irem 81)) (pm_tl 81 (s_imul 82))) (pm_tn 83 (pm_tl 82 (s_iadd 83)) (pm_tl 83 (s_iret))))))))
theorem tc_M_crossed : ∀ pc, pm_Ct (t_M_crossed pc) := (ct_tn (ct_tn (ct_tn (ct_tn (ct_tn (ct_tl (ct_iload _ _)) (ct_tn (ct_tl (ct_push _ _)) (ct_tl (ct_irem _)))) (ct_tn (ct_tn (ct_tl (ct_istore _ _)) (ct_tl (ct_iload _ _))) (ct_tn (ct_tl (ct_push _ _)) (ct_tl (ct_irem _))))) (ct_tn (ct_tn (ct_tl (ct_istore _ _)) (ct_tn (ct_tl (ct_iload _ _)) (ct_tl (ct_push _ _)))) (ct_tn (ct_tn (ct_tl (ct_idiv _)) (ct_tl (ct_iload _ _))) (ct_tn (ct_tl (ct_push _ _)) (ct_tl (ct_idiv _)))))) (ct_tn (ct_tn (ct_tn (ct_tl (ct_iadd _)) (ct_tn (ct_tl (ct_istore _ _)) (ct_tl (ct_iload _ _)))) (ct_tn (ct_tn (ct_tl (ct_ifeq _ _)) (ct_tl (ct_iload _ _))) (ct_tn (ct_tl (ct_ifne _ _)) (ct_tl (ct_iload _ _))))) (ct_tn (ct_tn (ct_tn (ct_tl (ct_iload _ _)) (ct_tl (ct_iadd _))) (ct_tn (ct_tl (ct_istore _ _)) (ct_tl (ct_goto _)))) (ct_tn (ct_tn (ct_tl (ct_iload _ _)) (ct_tl (ct_iload _ _))) (ct_tn (ct_tl (ct_cne _ _)) (ct_tl (ct_push _ _))))))) (ct_tn (ct_tn (ct_tn (ct_tn (ct_tl (ct_istore _ _)) (ct_tn (ct_tl (ct_iinc _ _ _)) (ct_tl (ct_goto _)))) (ct_tn (ct_tn (ct_tl (ct_push _ _)) (ct_tl (ct_iload _ _))) (ct_tn (ct_tl (ct_isub _)) (ct_tl (ct_iload _ _))))) (ct_tn (ct_tn (ct_tn (ct_tl (ct_isub _)) (ct_tl (ct_istore _ _))) (ct_tn (ct_tl (ct_iload _ _)) (ct_tl (ct_iload _ _)))) (ct_tn (ct_tn (ct_tl (ct_iload _ _)) (ct_tl (ct_push _ _))) (ct_tn (ct_tl (ct_irem _)) (ct_tl (ct_push _ _)))))) (ct_tn (ct_tn (ct_tn (ct_tl (ct_iadd _)) (ct_tn (ct_tl (ct_cne _ _)) (ct_tl (ct_push _ _)))) (ct_tn (ct_tn (ct_tl (ct_goto _)) (ct_tl (ct_push _ _))) (ct_tn (ct_tl (ct_iadd _)) (ct_tl (ct_istore _ _))))) (ct_tn (ct_tn (ct_tn (ct_tl (ct_iload _ _)) (ct_tl (ct_push _ _))) (ct_tn (ct_tl (ct_iload _ _)) (ct_tl (ct_push _ _)))) (ct_tn (ct_tn (ct_tl (ct_irem _)) (ct_tl (ct_imul _))) (ct_tn (ct_tl (ct_iadd _)) (ct_tl (ct_iret))))))))
def t_M_group : Nat → pm_S := (pm_tn 113 (pm_tn 57 (pm_tn 28 (pm_tn 16 (pm_tn 6 (pm_tn 4 (pm_tn 1 (pm_tl 0 (s_iload 1 1)) (pm_tl 1 (s_ifne 16 4))) (pm_tn 5 (pm_tl 4 (s_iload 2 5)) (pm_tl 5 (s_i2l 6)))) (pm_tn 10 (pm_tn 7 (pm_tl 6 (s_lpush 1 7)) (pm_tl 7 (s_lpush 8 10))) (pm_tn 13 (pm_tl 10 (s_call 92 3 0 99 1 (fun _ => 0) 13)) (pm_tl 13 (s_goto 55))))) (pm_tn 22 (pm_tn 18 (pm_tn 17 (pm_tl 16 (s_iload 1 17)) (pm_tl 17 (s_push 1 18))) (pm_tn 21 (pm_tl 18 (s_cne 39 21)) (pm_tl 21 (s_iload 2 22)))) (pm_tn 26 (pm_tn 23 (pm_tl 22 (s_push 3 23)) (pm_tl 23 (s_ceq 31 26))) (pm_tn 27 (pm_tl 26 (s_iload 2 27)) (pm_tl 27 (s_push 4 28)))))) (pm_tn 44 (pm_tn 36 (pm_tn 32 (pm_tn 31 (pm_tl 28 (s_cne 35 31)) (pm_tl 31 (s_push 1 32))) (pm_tn 35 (pm_tl 32 (s_goto 55)) (pm_tl 35 (s_push 0 36)))) (pm_tn 40 (pm_tn 39 (pm_tl 36 (s_goto 55)) (pm_tl 39 (s_iload 1 40))) (pm_tn 41 (pm_tl 40 (s_push 2 41)) (pm_tl 41 (s_cne 54 44))))) (pm_tn 51 (pm_tn 47 (pm_tn 45 (pm_tl 44 (s_iload 2 45)) (pm_tl 45 (s_push 8 47))) (pm_tn 50 (pm_tl 47 (s_cne 54 50)) (pm_tl 50 (s_push 1 51)))) (pm_tn 55 (pm_tn 54 (pm_tl 51 (s_goto 55)) (pm_tl 54 (s_push 0 55))) (pm_tn 56 (pm_tl 55 (s_istore 3 56)) (pm_tl 56 (s_iload 3 57))))))) (pm_tn 83 (pm_tn 69 (pm_tn 63 (pm_tn 61 (pm_tn 60 (pm_tl 57 (s_ifne 62 60)) (pm_tl 60 (s_push (-1) 61))) (pm_tn 62 (pm_tl 61 (s_iret)) (pm_tl 62 (s_iload 1 63)))) (pm_tn 67 (pm_tn 64 (pm_tl 63 (s_push 1 64)) (pm_tl 64 (s_cne 73 67))) (pm_tn 68 (pm_tl 67 (s_push 2 68)) (pm_tl 68 (s_iload 2 69))))) (pm_tn 76 (pm_tn 73 (pm_tn 70 (pm_tl 69 (s_imul 70)) (pm_tl 70 (s_goto 74))) (pm_tn 74 (pm_tl 73 (s_iload 2 74)) (pm_tl 74 (s_istore 4 76)))) (pm_tn 79 (pm_tn 77 (pm_tl 76 (s_push 0 77)) (pm_tl 77 (s_K 79 [true, true, true, false, true, true, false, false, false] (s_istore 5 79)))) (pm_tn 81 (pm_tl 79 (s_iload 5 81)) (pm_tl 81 (s_iload 4 83)))))) (pm_tn 100 (pm_tn 91 (pm_tn 87 (pm_tn 86 (pm_tl 83 (s_cge 222 86)) (pm_tl 86 (s_push 0 87))) (pm_tn 89 (pm_tl 87 (s_K 89 [true, true, true, false, true, true, true, false, false] (s_istore 6 89))) (pm_tl 89 (s_iload 6 91)))) (pm_tn 96 (pm_tn 93 (pm_tl 91 (s_iload 4 93)) (pm_tl 93 (s_cge 216 96))) (pm_tn 97 (pm_tl 96 (s_iload 1 97)) (pm_tl 97 (s_ifne 112 100))))) (pm_tn 106 (pm_tn 104 (pm_tn 102 (pm_tl 100 (s_iload 5 102)) (pm_tl 102 (s_iload 6 104))) (pm_tn 105 (pm_tl 104 (s_iadd 105)) (pm_tl 105 (s_iload 2 106)))) (pm_tn 109 (pm_tn 107 (pm_tl 106 (s_irem 107)) (pm_tl 107 (s_istore 7 109))) (pm_tn 112 (pm_tl 109 (s_goto 195)) (pm_tl 112 (s_iload 1 113)))))))) (pm_tn 164 (pm_tn 139 (pm_tn 128 (pm_tn 120 (pm_tn 117 (pm_tn 114 (pm_tl 113 (s_push 1 114)) (pm_tl 114 (s_cne 186 117))) (pm_tn 119 (pm_tl 117 (s_iload 5 119)) (pm_tl 119 (s_iload 2 120)))) (pm_tn 125 (pm_tn 123 (pm_tl 120 (s_cge 133 123)) (pm_tl 123 (s_iload 5 125))) (pm_tn 127 (pm_tl 125 (s_iload 6 127)) (pm_tl 127 (s_iload 2 128))))) (pm_tn 135 (pm_tn 130 (pm_tn 129 (pm_tl 128 (s_irem 129)) (pm_tl 129 (s_iadd 130))) (pm_tn 133 (pm_tl 130 (s_goto 144)) (pm_tl 133 (s_iload 5 135)))) (pm_tn 137 (pm_tn 136 (pm_tl 135 (s_iload 2 136)) (pm_tl 136 (s_isub 137))) (pm_tn 138 (pm_tl 137 (s_iload 2 138)) (pm_tl 138 (s_iadd 139)))))) (pm_tn 150 (pm_tn 144 (pm_tn 142 (pm_tn 141 (pm_tl 139 (s_iload 6 141)) (pm_tl 141 (s_iload 2 142))) (pm_tn 143 (pm_tl 142 (s_irem 143)) (pm_tl 143 (s_isub 144)))) (pm_tn 148 (pm_tn 146 (pm_tl 144 (s_istore 8 146)) (pm_tl 146 (s_iload 8 148))) (pm_tn 149 (pm_tl 148 (s_iload 2 149)) (pm_tl 149 (s_irem 150))))) (pm_tn 157 (pm_tn 153 (pm_tn 152 (pm_tl 150 (s_iload 5 152)) (pm_tl 152 (s_iload 2 153))) (pm_tn 156 (pm_tl 153 (s_cge 160 156)) (pm_tl 156 (s_push 1 157)))) (pm_tn 161 (pm_tn 160 (pm_tl 157 (s_goto 161)) (pm_tl 160 (s_push 0 161))) (pm_tn 163 (pm_tl 161 (s_iload 6 163)) (pm_tl 163 (s_iload 2 164))))))) (pm_tn 196 (pm_tn 180 (pm_tn 172 (pm_tn 168 (pm_tn 167 (pm_tl 164 (s_cge 171 167)) (pm_tl 167 (s_push 1 168))) (pm_tn 171 (pm_tl 168 (s_goto 172)) (pm_tl 171 (s_push 0 172)))) (pm_tn 176 (pm_tn 175 (pm_tl 172 (s_cne 179 175)) (pm_tl 175 (s_push 0 176))) (pm_tn 179 (pm_tl 176 (s_goto 180)) (pm_tl 179 (s_iload 2 180))))) (pm_tn 188 (pm_tn 183 (pm_tn 181 (pm_tl 180 (s_iadd 181)) (pm_tl 181 (s_istore 7 183))) (pm_tn 186 (pm_tl 183 (s_goto 195)) (pm_tl 186 (s_iload 5 188)))) (pm_tn 193 (pm_tn 190 (pm_tl 188 (s_iload 6 190)) (pm_tl 190 (s_call 97 2 4 99 1 (fun _ => 0) 193))) (pm_tn 195 (pm_tl 193 (s_istore 7 195)) (pm_tl 195 (s_aload 0 196)))))) (pm_tn 210 (pm_tn 204 (pm_tn 201 (pm_tn 199 (pm_tl 196 (s_getR 7 1 199)) (pm_tl 199 (s_push 8 201))) (pm_tn 203 (pm_tl 201 (s_iload 5 203)) (pm_tl 203 (s_imul 204)))) (pm_tn 207 (pm_tn 206 (pm_tl 204 (s_iload 6 206)) (pm_tl 206 (s_iadd 207))) (pm_tn 209 (pm_tl 207 (s_iload 7 209)) (pm_tl 209 (s_iast 210))))) (pm_tn 222 (pm_tn 216 (pm_tn 213 (pm_tl 210 (s_iinc 6 1 213)) (pm_tl 213 (s_K 89 [true, true, true, false, true, true, true, false, false] (s_goto 89)))) (pm_tn 219 (pm_tl 216 (s_iinc 5 1 219)) (pm_tl 219 (s_K 79 [true, true, true, false, true, true, false, false, false] (s_goto 79))))) (pm_tn 225 (pm_tn 223 (pm_tl 222 (s_aload 0 223)) (pm_tl 223 (s_iload 4 225))) (pm_tn 228 (pm_tl 225 (s_call 96 2 1 7 0 (fun _ => 0) 228)) (pm_tn 230 (pm_tl 228 (s_iload 4 230)) (pm_tl 230 (s_iret))))))))))
theorem tc_M_group : ∀ pc, pm_Ct (t_M_group pc) := (ct_tn (ct_tn (ct_tn (ct_tn (ct_tn (ct_tn (ct_tn (ct_tl (ct_iload _ _)) (ct_tl (ct_ifne _ _))) (ct_tn (ct_tl (ct_iload _ _)) (ct_tl (ct_i2l _)))) (ct_tn (ct_tn (ct_tl (ct_lpush _ _)) (ct_tl (ct_lpush _ _))) (ct_tn (ct_tl (ct_call _ _ _ _ _ _ _)) (ct_tl (ct_goto _))))) (ct_tn (ct_tn (ct_tn (ct_tl (ct_iload _ _)) (ct_tl (ct_push _ _))) (ct_tn (ct_tl (ct_cne _ _)) (ct_tl (ct_iload _ _)))) (ct_tn (ct_tn (ct_tl (ct_push _ _)) (ct_tl (ct_ceq _ _))) (ct_tn (ct_tl (ct_iload _ _)) (ct_tl (ct_push _ _)))))) (ct_tn (ct_tn (ct_tn (ct_tn (ct_tl (ct_cne _ _)) (ct_tl (ct_push _ _))) (ct_tn (ct_tl (ct_goto _)) (ct_tl (ct_push _ _)))) (ct_tn (ct_tn (ct_tl (ct_goto _)) (ct_tl (ct_iload _ _))) (ct_tn (ct_tl (ct_push _ _)) (ct_tl (ct_cne _ _))))) (ct_tn (ct_tn (ct_tn (ct_tl (ct_iload _ _)) (ct_tl (ct_push _ _))) (ct_tn (ct_tl (ct_cne _ _)) (ct_tl (ct_push _ _)))) (ct_tn (ct_tn (ct_tl (ct_goto _)) (ct_tl (ct_push _ _))) (ct_tn (ct_tl (ct_istore _ _)) (ct_tl (ct_iload _ _))))))) (ct_tn (ct_tn (ct_tn (ct_tn (ct_tn (ct_tl (ct_ifne _ _)) (ct_tl (ct_push _ _))) (ct_tn (ct_tl (ct_iret)) (ct_tl (ct_iload _ _)))) (ct_tn (ct_tn (ct_tl (ct_push _ _)) (ct_tl (ct_cne _ _))) (ct_tn (ct_tl (ct_push _ _)) (ct_tl (ct_iload _ _))))) (ct_tn (ct_tn (ct_tn (ct_tl (ct_imul _)) (ct_tl (ct_goto _))) (ct_tn (ct_tl (ct_iload _ _)) (ct_tl (ct_istore _ _)))) (ct_tn (ct_tn (ct_tl (ct_push _ _)) (ct_tl (ct_K (ct_istore _ _)))) (ct_tn (ct_tl (ct_iload _ _)) (ct_tl (ct_iload _ _)))))) (ct_tn (ct_tn (ct_tn (ct_tn (ct_tl (ct_cge _ _)) (ct_tl (ct_push _ _))) (ct_tn (ct_tl (ct_K (ct_istore _ _))) (ct_tl (ct_iload _ _)))) (ct_tn (ct_tn (ct_tl (ct_iload _ _)) (ct_tl (ct_cge _ _))) (ct_tn (ct_tl (ct_iload _ _)) (ct_tl (ct_ifne _ _))))) (ct_tn (ct_tn (ct_tn (ct_tl (ct_iload _ _)) (ct_tl (ct_iload _ _))) (ct_tn (ct_tl (ct_iadd _)) (ct_tl (ct_iload _ _)))) (ct_tn (ct_tn (ct_tl (ct_irem _)) (ct_tl (ct_istore _ _))) (ct_tn (ct_tl (ct_goto _)) (ct_tl (ct_iload _ _)))))))) (ct_tn (ct_tn (ct_tn (ct_tn (ct_tn (ct_tn (ct_tl (ct_push _ _)) (ct_tl (ct_cne _ _))) (ct_tn (ct_tl (ct_iload _ _)) (ct_tl (ct_iload _ _)))) (ct_tn (ct_tn (ct_tl (ct_cge _ _)) (ct_tl (ct_iload _ _))) (ct_tn (ct_tl (ct_iload _ _)) (ct_tl (ct_iload _ _))))) (ct_tn (ct_tn (ct_tn (ct_tl (ct_irem _)) (ct_tl (ct_iadd _))) (ct_tn (ct_tl (ct_goto _)) (ct_tl (ct_iload _ _)))) (ct_tn (ct_tn (ct_tl (ct_iload _ _)) (ct_tl (ct_isub _))) (ct_tn (ct_tl (ct_iload _ _)) (ct_tl (ct_iadd _)))))) (ct_tn (ct_tn (ct_tn (ct_tn (ct_tl (ct_iload _ _)) (ct_tl (ct_iload _ _))) (ct_tn (ct_tl (ct_irem _)) (ct_tl (ct_isub _)))) (ct_tn (ct_tn (ct_tl (ct_istore _ _)) (ct_tl (ct_iload _ _))) (ct_tn (ct_tl (ct_iload _ _)) (ct_tl (ct_irem _))))) (ct_tn (ct_tn (ct_tn (ct_tl (ct_iload _ _)) (ct_tl (ct_iload _ _))) (ct_tn (ct_tl (ct_cge _ _)) (ct_tl (ct_push _ _)))) (ct_tn (ct_tn (ct_tl (ct_goto _)) (ct_tl (ct_push _ _))) (ct_tn (ct_tl (ct_iload _ _)) (ct_tl (ct_iload _ _))))))) (ct_tn (ct_tn (ct_tn (ct_tn (ct_tn (ct_tl (ct_cge _ _)) (ct_tl (ct_push _ _))) (ct_tn (ct_tl (ct_goto _)) (ct_tl (ct_push _ _)))) (ct_tn (ct_tn (ct_tl (ct_cne _ _)) (ct_tl (ct_push _ _))) (ct_tn (ct_tl (ct_goto _)) (ct_tl (ct_iload _ _))))) (ct_tn (ct_tn (ct_tn (ct_tl (ct_iadd _)) (ct_tl (ct_istore _ _))) (ct_tn (ct_tl (ct_goto _)) (ct_tl (ct_iload _ _)))) (ct_tn (ct_tn (ct_tl (ct_iload _ _)) (ct_tl (ct_call _ _ _ _ _ _ _))) (ct_tn (ct_tl (ct_istore _ _)) (ct_tl (ct_aload _ _)))))) (ct_tn (ct_tn (ct_tn (ct_tn (ct_tl (ct_getR _ _ _)) (ct_tl (ct_push _ _))) (ct_tn (ct_tl (ct_iload _ _)) (ct_tl (ct_imul _)))) (ct_tn (ct_tn (ct_tl (ct_iload _ _)) (ct_tl (ct_iadd _))) (ct_tn (ct_tl (ct_iload _ _)) (ct_tl (ct_iast _))))) (ct_tn (ct_tn (ct_tn (ct_tl (ct_iinc _ _ _)) (ct_tl (ct_K (ct_goto _)))) (ct_tn (ct_tl (ct_iinc _ _ _)) (ct_tl (ct_K (ct_goto _))))) (ct_tn (ct_tn (ct_tl (ct_aload _ _)) (ct_tl (ct_iload _ _))) (ct_tn (ct_tl (ct_call _ _ _ _ _ _ _)) (ct_tn (ct_tl (ct_iload _ _)) (ct_tl (ct_iret))))))))))
def t_M_sheet : Nat → pm_S := (pm_tn 44 (pm_tn 24 (pm_tn 12 (pm_tn 3 (pm_tn 1 (pm_tl 0 (s_iload 1 1)) (pm_tn 2 (pm_tl 1 (s_i2l 2)) (pm_tl 2 (s_lpush 0 3)))) (pm_tn 6 (pm_tl 3 (s_lpush 3 6)) (pm_tn 9 (pm_tl 6 (s_call 92 3 0 99 1 (fun _ => 0) 9)) (pm_tl 9 (s_ifeq 30 12))))) (pm_tn 15 (pm_tn 13 (pm_tl 12 (s_iload 2 13)) (pm_tn 14 (pm_tl 13 (s_i2l 14)) (pm_tl 14 (s_lpush 0 15)))) (pm_tn 18 (pm_tl 15 (s_lpush 2 18)) (pm_tn 21 (pm_tl 18 (s_call 92 3 0 99 1 (fun _ => 0) 21)) (pm_tl 21 (s_ifeq 30 24)))))) (pm_tn 33 (pm_tn 30 (pm_tn 25 (pm_tl 24 (s_iload 3 25)) (pm_tn 27 (pm_tl 25 (s_push 64 27)) (pm_tl 27 (s_cle 32 30)))) (pm_tn 31 (pm_tl 30 (s_push (-1) 31)) (pm_tn 32 (pm_tl 31 (s_iret)) (pm_tl 32 (s_iload 3 33))))) (pm_tn 39 (pm_tn 36 (pm_tl 33 (s_ifge 39 36)) (pm_tn 38 (pm_tl 36 (s_push (-14) 38)) (pm_tl 38 (s_iret)))) (pm_tn 40 (pm_tl 39 (s_aload 0 40)) (pm_tn 43 (pm_tl 40 (s_getR 7 16 43)) (pm_tl 43 (s_iload 1 44))))))) (pm_tn 63 (pm_tn 52 (pm_tn 47 (pm_tn 45 (pm_tl 44 (s_iload 2 45)) (pm_tn 46 (pm_tl 45 (s_iast 46)) (pm_tl 46 (s_aload 0 47)))) (pm_tn 50 (pm_tl 47 (s_getR 7 17 50)) (pm_tn 51 (pm_tl 50 (s_iload 1 51)) (pm_tl 51 (s_iload 3 52))))) (pm_tn 56 (pm_tn 53 (pm_tl 52 (s_iast 53)) (pm_tn 54 (pm_tl 53 (s_push 0 54)) (pm_tl 54 (s_K 56 [true, true, false, false, true] (s_istore 4 56))))) (pm_tn 58 (pm_tl 56 (s_iload 4 58)) (pm_tn 60 (pm_tl 58 (s_push 64 60)) (pm_tl 60 (s_cge 82 63)))))) (pm_tn 73 (pm_tn 69 (pm_tn 64 (pm_tl 63 (s_aload 0 64)) (pm_tn 67 (pm_tl 64 (s_getR 7 18 67)) (pm_tl 67 (s_push 64 69)))) (pm_tn 70 (pm_tl 69 (s_iload 1 70)) (pm_tn 71 (pm_tl 70 (s_imul 71)) (pm_tl 71 (s_iload 4 73))))) (pm_tn 76 (pm_tn 74 (pm_tl 73 (s_iadd 74)) (pm_tn 75 (pm_tl 74 (s_push 0 75)) (pm_tl 75 (s_iast 76)))) (pm_tn 82 (pm_tn 79 (pm_tl 76 (s_iinc 4 1 79)) (pm_tl 79 (s_K 56 [true, true, false, false, true] (s_goto 56)))) (pm_tn 83 (pm_tl 82 (s_push 1 83)) (pm_tl 83 (s_iret))))))))
theorem tc_M_sheet : ∀ pc, pm_Ct (t_M_sheet pc) := (ct_tn (ct_tn (ct_tn (ct_tn (ct_tn (ct_tl (ct_iload _ _)) (ct_tn (ct_tl (ct_i2l _)) (ct_tl (ct_lpush _ _)))) (ct_tn (ct_tl (ct_lpush _ _)) (ct_tn (ct_tl (ct_call _ _ _ _ _ _ _)) (ct_tl (ct_ifeq _ _))))) (ct_tn (ct_tn (ct_tl (ct_iload _ _)) (ct_tn (ct_tl (ct_i2l _)) (ct_tl (ct_lpush _ _)))) (ct_tn (ct_tl (ct_lpush _ _)) (ct_tn (ct_tl (ct_call _ _ _ _ _ _ _)) (ct_tl (ct_ifeq _ _)))))) (ct_tn (ct_tn (ct_tn (ct_tl (ct_iload _ _)) (ct_tn (ct_tl (ct_push _ _)) (ct_tl (ct_cle _ _)))) (ct_tn (ct_tl (ct_push _ _)) (ct_tn (ct_tl (ct_iret)) (ct_tl (ct_iload _ _))))) (ct_tn (ct_tn (ct_tl (ct_ifge _ _)) (ct_tn (ct_tl (ct_push _ _)) (ct_tl (ct_iret)))) (ct_tn (ct_tl (ct_aload _ _)) (ct_tn (ct_tl (ct_getR _ _ _)) (ct_tl (ct_iload _ _))))))) (ct_tn (ct_tn (ct_tn (ct_tn (ct_tl (ct_iload _ _)) (ct_tn (ct_tl (ct_iast _)) (ct_tl (ct_aload _ _)))) (ct_tn (ct_tl (ct_getR _ _ _)) (ct_tn (ct_tl (ct_iload _ _)) (ct_tl (ct_iload _ _))))) (ct_tn (ct_tn (ct_tl (ct_iast _)) (ct_tn (ct_tl (ct_push _ _)) (ct_tl (ct_K (ct_istore _ _))))) (ct_tn (ct_tl (ct_iload _ _)) (ct_tn (ct_tl (ct_push _ _)) (ct_tl (ct_cge _ _)))))) (ct_tn (ct_tn (ct_tn (ct_tl (ct_aload _ _)) (ct_tn (ct_tl (ct_getR _ _ _)) (ct_tl (ct_push _ _)))) (ct_tn (ct_tl (ct_iload _ _)) (ct_tn (ct_tl (ct_imul _)) (ct_tl (ct_iload _ _))))) (ct_tn (ct_tn (ct_tl (ct_iadd _)) (ct_tn (ct_tl (ct_push _ _)) (ct_tl (ct_iast _)))) (ct_tn (ct_tn (ct_tl (ct_iinc _ _ _)) (ct_tl (ct_K (ct_goto _)))) (ct_tn (ct_tl (ct_push _ _)) (ct_tl (ct_iret))))))))
def t_M_lay : Nat → pm_S := (pm_tn 53 (pm_tn 28 (pm_tn 14 (pm_tn 6 (pm_tn 2 (pm_tn 1 (pm_tl 0 (s_iload 1 1)) (pm_tl 1 (s_i2l 2))) (pm_tn 3 (pm_tl 2 (s_lpush 0 3)) (pm_tl 3 (s_lpush 3 6)))) (pm_tn 12 (pm_tn 9 (pm_tl 6 (s_call 92 3 0 99 1 (fun _ => 0) 9)) (pm_tl 9 (s_ifne 14 12))) (pm_tn 13 (pm_tl 12 (s_push (-1) 13)) (pm_tl 13 (s_iret))))) (pm_tn 20 (pm_tn 18 (pm_tn 15 (pm_tl 14 (s_aload 0 15)) (pm_tl 15 (s_getR 7 16 18))) (pm_tn 19 (pm_tl 18 (s_iload 1 19)) (pm_tl 19 (s_iald 20)))) (pm_tn 25 (pm_tn 22 (pm_tl 20 (s_push (-4) 22)) (pm_tl 22 (s_cne 28 25))) (pm_tn 27 (pm_tl 25 (s_push (-11) 27)) (pm_tl 27 (s_iret)))))) (pm_tn 38 (pm_tn 32 (pm_tn 30 (pm_tn 29 (pm_tl 28 (s_iload 2 29)) (pm_tl 29 (s_i2l 30))) (pm_tn 31 (pm_tl 30 (s_lpush 0 31)) (pm_tl 31 (s_aload 0 32)))) (pm_tn 36 (pm_tn 35 (pm_tl 32 (s_getR 7 17 35)) (pm_tl 35 (s_iload 1 36))) (pm_tn 37 (pm_tl 36 (s_iald 37)) (pm_tl 37 (s_push 1 38))))) (pm_tn 46 (pm_tn 40 (pm_tn 39 (pm_tl 38 (s_isub 39)) (pm_tl 39 (s_i2l 40))) (pm_tn 43 (pm_tl 40 (s_call 92 3 0 99 1 (fun _ => 0) 43)) (pm_tl 43 (s_ifne 49 46)))) (pm_tn 49 (pm_tn 48 (pm_tl 46 (s_push (-12) 48)) (pm_tl 48 (s_iret))) (pm_tn 50 (pm_tl 49 (s_aload 0 50)) (pm_tl 50 (s_getR 7 18 53))))))) (pm_tn 78 (pm_tn 64 (pm_tn 58 (pm_tn 56 (pm_tn 55 (pm_tl 53 (s_push 64 55)) (pm_tl 55 (s_iload 1 56))) (pm_tn 57 (pm_tl 56 (s_imul 57)) (pm_tl 57 (s_iload 2 58)))) (pm_tn 60 (pm_tn 59 (pm_tl 58 (s_iadd 59)) (pm_tl 59 (s_aload 0 60))) (pm_tn 63 (pm_tl 60 (s_getR 7 16 63)) (pm_tl 63 (s_iload 1 64))))) (pm_tn 71 (pm_tn 68 (pm_tn 65 (pm_tl 64 (s_iald 65)) (pm_tl 65 (s_ifne 78 68))) (pm_tn 69 (pm_tl 68 (s_iload 3 69)) (pm_tl 69 (s_push 24 71)))) (pm_tn 74 (pm_tn 72 (pm_tl 71 (s_ishl 72)) (pm_tl 72 (s_push 24 74))) (pm_tn 75 (pm_tl 74 (s_ishr 75)) (pm_tl 75 (s_goto 99)))))) (pm_tn 91 (pm_tn 84 (pm_tn 82 (pm_tn 79 (pm_tl 78 (s_aload 0 79)) (pm_tl 79 (s_getR 7 16 82))) (pm_tn 83 (pm_tl 82 (s_iload 1 83)) (pm_tl 83 (s_iald 84)))) (pm_tn 88 (pm_tn 85 (pm_tl 84 (s_push 1 85)) (pm_tl 85 (s_cne 98 88))) (pm_tn 89 (pm_tl 88 (s_iload 3 89)) (pm_tl 89 (s_push 16 91))))) (pm_tn 98 (pm_tn 94 (pm_tn 92 (pm_tl 91 (s_ishl 92)) (pm_tl 92 (s_push 16 94))) (pm_tn 95 (pm_tl 94 (s_ishr 95)) (pm_tl 95 (s_goto 99)))) (pm_tn 100 (pm_tn 99 (pm_tl 98 (s_iload 3 99)) (pm_tl 99 (s_iast 100))) (pm_tn 101 (pm_tl 100 (s_push 1 101)) (pm_tl 101 (s_iret))))))))
theorem tc_M_lay : ∀ pc, pm_Ct (t_M_lay pc) := (ct_tn (ct_tn (ct_tn (ct_tn (ct_tn (ct_tn (ct_tl (ct_iload _ _)) (ct_tl (ct_i2l _))) (ct_tn (ct_tl (ct_lpush _ _)) (ct_tl (ct_lpush _ _)))) (ct_tn (ct_tn (ct_tl (ct_call _ _ _ _ _ _ _)) (ct_tl (ct_ifne _ _))) (ct_tn (ct_tl (ct_push _ _)) (ct_tl (ct_iret))))) (ct_tn (ct_tn (ct_tn (ct_tl (ct_aload _ _)) (ct_tl (ct_getR _ _ _))) (ct_tn (ct_tl (ct_iload _ _)) (ct_tl (ct_iald _)))) (ct_tn (ct_tn (ct_tl (ct_push _ _)) (ct_tl (ct_cne _ _))) (ct_tn (ct_tl (ct_push _ _)) (ct_tl (ct_iret)))))) (ct_tn (ct_tn (ct_tn (ct_tn (ct_tl (ct_iload _ _)) (ct_tl (ct_i2l _))) (ct_tn (ct_tl (ct_lpush _ _)) (ct_tl (ct_aload _ _)))) (ct_tn (ct_tn (ct_tl (ct_getR _ _ _)) (ct_tl (ct_iload _ _))) (ct_tn (ct_tl (ct_iald _)) (ct_tl (ct_push _ _))))) (ct_tn (ct_tn (ct_tn (ct_tl (ct_isub _)) (ct_tl (ct_i2l _))) (ct_tn (ct_tl (ct_call _ _ _ _ _ _ _)) (ct_tl (ct_ifne _ _)))) (ct_tn (ct_tn (ct_tl (ct_push _ _)) (ct_tl (ct_iret))) (ct_tn (ct_tl (ct_aload _ _)) (ct_tl (ct_getR _ _ _))))))) (ct_tn (ct_tn (ct_tn (ct_tn (ct_tn (ct_tl (ct_push _ _)) (ct_tl (ct_iload _ _))) (ct_tn (ct_tl (ct_imul _)) (ct_tl (ct_iload _ _)))) (ct_tn (ct_tn (ct_tl (ct_iadd _)) (ct_tl (ct_aload _ _))) (ct_tn (ct_tl (ct_getR _ _ _)) (ct_tl (ct_iload _ _))))) (ct_tn (ct_tn (ct_tn (ct_tl (ct_iald _)) (ct_tl (ct_ifne _ _))) (ct_tn (ct_tl (ct_iload _ _)) (ct_tl (ct_push _ _)))) (ct_tn (ct_tn (ct_tl (ct_ishl _)) (ct_tl (ct_push _ _))) (ct_tn (ct_tl (ct_ishr _)) (ct_tl (ct_goto _)))))) (ct_tn (ct_tn (ct_tn (ct_tn (ct_tl (ct_aload _ _)) (ct_tl (ct_getR _ _ _))) (ct_tn (ct_tl (ct_iload _ _)) (ct_tl (ct_iald _)))) (ct_tn (ct_tn (ct_tl (ct_push _ _)) (ct_tl (ct_cne _ _))) (ct_tn (ct_tl (ct_iload _ _)) (ct_tl (ct_push _ _))))) (ct_tn (ct_tn (ct_tn (ct_tl (ct_ishl _)) (ct_tl (ct_push _ _))) (ct_tn (ct_tl (ct_ishr _)) (ct_tl (ct_goto _)))) (ct_tn (ct_tn (ct_tl (ct_iload _ _)) (ct_tl (ct_iast _))) (ct_tn (ct_tl (ct_push _ _)) (ct_tl (ct_iret))))))))
def t_M_read : Nat → pm_S := (pm_tn 225 (pm_tn 112 (pm_tn 57 (pm_tn 28 (pm_tn 13 (pm_tn 3 (pm_tn 1 (pm_tl 0 (s_iload 1 1)) (pm_tn 2 (pm_tl 1 (s_i2l 2)) (pm_tl 2 (s_lpush 0 3)))) (pm_tn 9 (pm_tn 6 (pm_tl 3 (s_lpush 3 6)) (pm_tl 6 (s_call 92 3 0 99 1 (fun _ => 0) 9))) (pm_tn 12 (pm_tl 9 (s_ifeq 37 12)) (pm_tl 12 (s_iload 2 13))))) (pm_tn 21 (pm_tn 15 (pm_tn 14 (pm_tl 13 (s_i2l 14)) (pm_tl 14 (s_lpush 0 15))) (pm_tn 18 (pm_tl 15 (s_lpush 2 18)) (pm_tl 18 (s_call 92 3 0 99 1 (fun _ => 0) 21)))) (pm_tn 26 (pm_tn 24 (pm_tl 21 (s_ifeq 37 24)) (pm_tl 24 (s_iload 4 26))) (pm_tn 27 (pm_tl 26 (s_i2l 27)) (pm_tl 27 (s_lpush 1 28)))))) (pm_tn 44 (pm_tn 38 (pm_tn 34 (pm_tn 31 (pm_tl 28 (s_lpush 8 31)) (pm_tl 31 (s_call 92 3 0 99 1 (fun _ => 0) 34))) (pm_tn 37 (pm_tl 34 (s_ifne 39 37)) (pm_tl 37 (s_push (-1) 38)))) (pm_tn 40 (pm_tn 39 (pm_tl 38 (s_iret)) (pm_tl 39 (s_aload 0 40))) (pm_tn 43 (pm_tl 40 (s_getR 7 16 43)) (pm_tl 43 (s_iload 1 44))))) (pm_tn 50 (pm_tn 46 (pm_tn 45 (pm_tl 44 (s_iald 45)) (pm_tl 45 (s_iload 2 46))) (pm_tn 49 (pm_tl 46 (s_ceq 68 49)) (pm_tl 49 (s_aload 0 50)))) (pm_tn 54 (pm_tn 53 (pm_tl 50 (s_getR 7 16 53)) (pm_tl 53 (s_iload 1 54))) (pm_tn 55 (pm_tl 54 (s_iald 55)) (pm_tl 55 (s_push (-4) 57))))))) (pm_tn 86 (pm_tn 73 (pm_tn 67 (pm_tn 62 (pm_tn 60 (pm_tl 57 (s_cne 65 60)) (pm_tl 60 (s_push (-11) 62))) (pm_tn 65 (pm_tl 62 (s_goto 67)) (pm_tl 65 (s_push (-13) 67)))) (pm_tn 69 (pm_tn 68 (pm_tl 67 (s_iret)) (pm_tl 68 (s_push 0 69))) (pm_tn 71 (pm_tl 69 (s_K 71 [true, true, false, true, true, true, false, false] (s_istore 5 71))) (pm_tl 71 (s_iload 5 73))))) (pm_tn 81 (pm_tn 77 (pm_tn 75 (pm_tl 73 (s_iload 4 75)) (pm_tl 75 (s_iload 4 77))) (pm_tn 78 (pm_tl 77 (s_imul 78)) (pm_tl 78 (s_cge 170 81)))) (pm_tn 83 (pm_tn 82 (pm_tl 81 (s_iload 3 82)) (pm_tl 82 (s_i2l 83))) (pm_tn 85 (pm_tl 83 (s_iload 5 85)) (pm_tl 85 (s_i2l 86)))))) (pm_tn 96 (pm_tn 92 (pm_tn 88 (pm_tn 87 (pm_tl 86 (s_ladd 87)) (pm_tl 87 (s_lpush 0 88))) (pm_tn 89 (pm_tl 88 (s_aload 0 89)) (pm_tl 89 (s_getR 7 17 92)))) (pm_tn 94 (pm_tn 93 (pm_tl 92 (s_iload 1 93)) (pm_tl 93 (s_iald 94))) (pm_tn 95 (pm_tl 94 (s_push 1 95)) (pm_tl 95 (s_isub 96))))) (pm_tn 105 (pm_tn 100 (pm_tn 97 (pm_tl 96 (s_i2l 97)) (pm_tl 97 (s_call 92 3 0 99 1 (fun _ => 0) 100))) (pm_tn 103 (pm_tl 100 (s_ifne 106 103)) (pm_tl 103 (s_push (-12) 105)))) (pm_tn 107 (pm_tn 106 (pm_tl 105 (s_iret)) (pm_tl 106 (s_aload 0 107))) (pm_tn 110 (pm_tl 107 (s_getR 7 18 110)) (pm_tl 110 (s_push 64 112)))))))) (pm_tn 161 (pm_tn 134 (pm_tn 122 (pm_tn 116 (pm_tn 114 (pm_tn 113 (pm_tl 112 (s_iload 1 113)) (pm_tl 113 (s_imul 114))) (pm_tn 115 (pm_tl 114 (s_iload 3 115)) (pm_tl 115 (s_iadd 116)))) (pm_tn 119 (pm_tn 118 (pm_tl 116 (s_iload 5 118)) (pm_tl 118 (s_iadd 119))) (pm_tn 120 (pm_tl 119 (s_iald 120)) (pm_tl 120 (s_istore 6 122))))) (pm_tn 128 (pm_tn 125 (pm_tn 124 (pm_tl 122 (s_iload 6 124)) (pm_tl 124 (s_i2l 125))) (pm_tn 126 (pm_tl 125 (s_lpush 0 126)) (pm_tl 126 (s_iload 4 128)))) (pm_tn 130 (pm_tn 129 (pm_tl 128 (s_push 1 129)) (pm_tl 129 (s_isub 130))) (pm_tn 131 (pm_tl 130 (s_i2l 131)) (pm_tl 131 (s_call 92 3 0 99 1 (fun _ => 0) 134)))))) (pm_tn 149 (pm_tn 142 (pm_tn 139 (pm_tn 137 (pm_tl 134 (s_ifne 143 137)) (pm_tl 137 (s_push (-100) 139))) (pm_tn 141 (pm_tl 139 (s_iload 5 141)) (pm_tl 141 (s_isub 142)))) (pm_tn 144 (pm_tn 143 (pm_tl 142 (s_iret)) (pm_tl 143 (s_aload 0 144))) (pm_tn 147 (pm_tl 144 (s_getR 7 19 147)) (pm_tl 147 (s_push 8 149))))) (pm_tn 155 (pm_tn 153 (pm_tn 151 (pm_tl 149 (s_iload 5 151)) (pm_tl 151 (s_iload 4 153))) (pm_tn 154 (pm_tl 153 (s_idiv 154)) (pm_tl 154 (s_imul 155)))) (pm_tn 159 (pm_tn 157 (pm_tl 155 (s_iload 5 157)) (pm_tl 157 (s_iload 4 159))) (pm_tn 160 (pm_tl 159 (s_irem 160)) (pm_tl 160 (s_iadd 161))))))) (pm_tn 193 (pm_tn 177 (pm_tn 170 (pm_tn 164 (pm_tn 163 (pm_tl 161 (s_iload 6 163)) (pm_tl 163 (s_iast 164))) (pm_tn 167 (pm_tl 164 (s_iinc 5 1 167)) (pm_tl 167 (s_K 71 [true, true, false, true, true, true, false, false] (s_goto 71))))) (pm_tn 173 (pm_tn 171 (pm_tl 170 (s_push 0 171)) (pm_tl 171 (s_K 173 [true, false, false, false, true, true, false, false] (s_istore 5 173)))) (pm_tn 175 (pm_tl 173 (s_iload 5 175)) (pm_tl 175 (s_iload 4 177))))) (pm_tn 186 (pm_tn 181 (pm_tn 180 (pm_tl 177 (s_cge 220 180)) (pm_tl 180 (s_aload 0 181))) (pm_tn 184 (pm_tl 181 (s_getR 7 19 184)) (pm_tl 184 (s_iload 5 186)))) (pm_tn 189 (pm_tn 187 (pm_tl 186 (s_iald 187)) (pm_tl 187 (s_iload 5 189))) (pm_tn 192 (pm_tl 189 (s_cne 207 192)) (pm_tl 192 (s_aload 0 193)))))) (pm_tn 210 (pm_tn 201 (pm_tn 198 (pm_tn 196 (pm_tl 193 (s_getR 7 19 196)) (pm_tl 196 (s_push 8 198))) (pm_tn 200 (pm_tl 198 (s_iload 5 200)) (pm_tl 200 (s_imul 201)))) (pm_tn 204 (pm_tn 202 (pm_tl 201 (s_iald 202)) (pm_tl 202 (s_iload 5 204))) (pm_tn 207 (pm_tl 204 (s_ceq 214 207)) (pm_tl 207 (s_push (-200) 210))))) (pm_tn 217 (pm_tn 213 (pm_tn 212 (pm_tl 210 (s_iload 5 212)) (pm_tl 212 (s_isub 213))) (pm_tn 214 (pm_tl 213 (s_iret)) (pm_tl 214 (s_iinc 5 1 217)))) (pm_tn 221 (pm_tn 220 (pm_tl 217 (s_K 173 [true, false, false, false, true, true, false, false] (s_goto 173))) (pm_tl 220 (s_push 0 221))) (pm_tn 223 (pm_tl 221 (s_K 223 [true, false, false, false, true, true, false, false] (s_istore 5 223))) (pm_tl 223 (s_iload 5 225))))))))) (pm_tn 351 (pm_tn 284 (pm_tn 256 (pm_tn 238 (pm_tn 231 (pm_tn 227 (pm_tl 225 (s_iload 4 227)) (pm_tn 230 (pm_tl 227 (s_cge 311 230)) (pm_tl 230 (s_push 0 231)))) (pm_tn 234 (pm_tn 233 (pm_tl 231 (s_istore 6 233)) (pm_tl 233 (s_push 0 234))) (pm_tn 236 (pm_tl 234 (s_K 236 [true, false, false, false, true, true, true, true] (s_istore 7 236))) (pm_tl 236 (s_iload 7 238))))) (pm_tn 248 (pm_tn 243 (pm_tn 240 (pm_tl 238 (s_iload 4 240)) (pm_tl 240 (s_cge 293 243))) (pm_tn 245 (pm_tl 243 (s_iload 6 245)) (pm_tl 245 (s_ifne 280 248)))) (pm_tn 252 (pm_tn 249 (pm_tl 248 (s_aload 0 249)) (pm_tl 249 (s_getR 7 19 252))) (pm_tn 254 (pm_tl 252 (s_push 8 254)) (pm_tl 254 (s_iload 5 256)))))) (pm_tn 270 (pm_tn 261 (pm_tn 259 (pm_tn 257 (pm_tl 256 (s_imul 257)) (pm_tl 257 (s_iload 7 259))) (pm_tn 260 (pm_tl 259 (s_iadd 260)) (pm_tl 260 (s_iald 261)))) (pm_tn 265 (pm_tn 264 (pm_tl 261 (s_ifne 284 264)) (pm_tl 264 (s_aload 0 265))) (pm_tn 268 (pm_tl 265 (s_getR 7 19 268)) (pm_tl 268 (s_push 8 270))))) (pm_tn 276 (pm_tn 273 (pm_tn 272 (pm_tl 270 (s_iload 7 272)) (pm_tl 272 (s_imul 273))) (pm_tn 275 (pm_tl 273 (s_iload 5 275)) (pm_tl 275 (s_iadd 276)))) (pm_tn 280 (pm_tn 277 (pm_tl 276 (s_iald 277)) (pm_tl 277 (s_ifne 284 280))) (pm_tn 281 (pm_tl 280 (s_push 1 281)) (pm_tl 281 (s_goto 285))))))) (pm_tn 318 (pm_tn 303 (pm_tn 293 (pm_tn 287 (pm_tn 285 (pm_tl 284 (s_push 0 285)) (pm_tl 285 (s_istore 6 287))) (pm_tn 290 (pm_tl 287 (s_iinc 7 1 290)) (pm_tl 290 (s_K 236 [true, false, false, false, true, true, true, true] (s_goto 236))))) (pm_tn 298 (pm_tn 295 (pm_tl 293 (s_iload 6 295)) (pm_tl 295 (s_ifne 305 298))) (pm_tn 301 (pm_tl 298 (s_push (-300) 301)) (pm_tl 301 (s_iload 5 303))))) (pm_tn 311 (pm_tn 305 (pm_tn 304 (pm_tl 303 (s_isub 304)) (pm_tl 304 (s_iret))) (pm_tn 308 (pm_tl 305 (s_iinc 5 1 308)) (pm_tl 308 (s_K 223 [true, false, false, false, true, true, false, false] (s_goto 223))))) (pm_tn 314 (pm_tn 312 (pm_tl 311 (s_push 0 312)) (pm_tl 312 (s_K 314 [true, false, false, false, true, true, false, false] (s_istore 5 314)))) (pm_tn 316 (pm_tl 314 (s_iload 5 316)) (pm_tl 316 (s_iload 4 318)))))) (pm_tn 334 (pm_tn 326 (pm_tn 322 (pm_tn 321 (pm_tl 318 (s_cge 429 321)) (pm_tl 321 (s_push 0 322))) (pm_tn 324 (pm_tl 322 (s_K 324 [true, false, false, false, true, true, true, false] (s_istore 6 324))) (pm_tl 324 (s_iload 6 326)))) (pm_tn 331 (pm_tn 328 (pm_tl 326 (s_iload 4 328)) (pm_tl 328 (s_cge 423 331))) (pm_tn 332 (pm_tl 331 (s_push 0 332)) (pm_tl 332 (s_K 334 [true, false, false, false, true, true, true, true] (s_istore 7 334)))))) (pm_tn 342 (pm_tn 338 (pm_tn 336 (pm_tl 334 (s_iload 7 336)) (pm_tl 336 (s_iload 4 338))) (pm_tn 341 (pm_tl 338 (s_cge 417 341)) (pm_tl 341 (s_aload 0 342)))) (pm_tn 347 (pm_tn 345 (pm_tl 342 (s_getR 7 19 345)) (pm_tl 345 (s_push 8 347))) (pm_tn 348 (pm_tl 347 (s_aload 0 348)) (pm_tl 348 (s_getR 7 19 351)))))))) (pm_tn 403 (pm_tn 375 (pm_tn 363 (pm_tn 358 (pm_tn 355 (pm_tn 353 (pm_tl 351 (s_push 8 353)) (pm_tl 353 (s_iload 5 355))) (pm_tn 356 (pm_tl 355 (s_imul 356)) (pm_tl 356 (s_iload 6 358)))) (pm_tn 360 (pm_tn 359 (pm_tl 358 (s_iadd 359)) (pm_tl 359 (s_iald 360))) (pm_tn 361 (pm_tl 360 (s_imul 361)) (pm_tl 361 (s_iload 7 363))))) (pm_tn 369 (pm_tn 365 (pm_tn 364 (pm_tl 363 (s_iadd 364)) (pm_tl 364 (s_iald 365))) (pm_tn 366 (pm_tl 365 (s_aload 0 366)) (pm_tl 366 (s_getR 7 19 369)))) (pm_tn 373 (pm_tn 371 (pm_tl 369 (s_push 8 371)) (pm_tl 371 (s_iload 5 373))) (pm_tn 374 (pm_tl 373 (s_imul 374)) (pm_tl 374 (s_aload 0 375)))))) (pm_tn 388 (pm_tn 383 (pm_tn 380 (pm_tn 378 (pm_tl 375 (s_getR 7 19 378)) (pm_tl 378 (s_push 8 380))) (pm_tn 382 (pm_tl 380 (s_iload 6 382)) (pm_tl 382 (s_imul 383)))) (pm_tn 386 (pm_tn 385 (pm_tl 383 (s_iload 7 385)) (pm_tl 385 (s_iadd 386))) (pm_tn 387 (pm_tl 386 (s_iald 387)) (pm_tl 387 (s_iadd 388))))) (pm_tn 397 (pm_tn 392 (pm_tn 389 (pm_tl 388 (s_iald 389)) (pm_tl 389 (s_ceq 411 392))) (pm_tn 395 (pm_tl 392 (s_push (-1000) 395)) (pm_tl 395 (s_push 64 397)))) (pm_tn 400 (pm_tn 399 (pm_tl 397 (s_iload 5 399)) (pm_tl 399 (s_imul 400))) (pm_tn 401 (pm_tl 400 (s_isub 401)) (pm_tl 401 (s_push 8 403))))))) (pm_tn 436 (pm_tn 417 (pm_tn 409 (pm_tn 406 (pm_tn 405 (pm_tl 403 (s_iload 6 405)) (pm_tl 405 (s_imul 406))) (pm_tn 407 (pm_tl 406 (s_isub 407)) (pm_tl 407 (s_iload 7 409)))) (pm_tn 411 (pm_tn 410 (pm_tl 409 (s_isub 410)) (pm_tl 410 (s_iret))) (pm_tn 414 (pm_tl 411 (s_iinc 7 1 414)) (pm_tl 414 (s_K 334 [true, false, false, false, true, true, true, true] (s_goto 334)))))) (pm_tn 429 (pm_tn 423 (pm_tn 420 (pm_tl 417 (s_iinc 6 1 420)) (pm_tl 420 (s_K 324 [true, false, false, false, true, true, true, false] (s_goto 324)))) (pm_tn 426 (pm_tl 423 (s_iinc 5 1 426)) (pm_tl 426 (s_K 314 [true, false, false, false, true, true, false, false] (s_goto 314))))) (pm_tn 432 (pm_tn 430 (pm_tl 429 (s_push 0 430)) (pm_tl 430 (s_K 432 [true, false, false, false, true, true, false, false] (s_istore 5 432)))) (pm_tn 434 (pm_tl 432 (s_iload 5 434)) (pm_tl 434 (s_push 64 436)))))) (pm_tn 452 (pm_tn 445 (pm_tn 440 (pm_tn 439 (pm_tl 436 (s_cge 459 439)) (pm_tl 439 (s_aload 0 440))) (pm_tn 443 (pm_tl 440 (s_getR 7 1 443)) (pm_tl 443 (s_iload 5 445)))) (pm_tn 449 (pm_tn 446 (pm_tl 445 (s_aload 0 446)) (pm_tl 446 (s_getR 7 19 449))) (pm_tn 451 (pm_tl 449 (s_iload 5 451)) (pm_tl 451 (s_iald 452))))) (pm_tn 460 (pm_tn 456 (pm_tn 453 (pm_tl 452 (s_iast 453)) (pm_tl 453 (s_iinc 5 1 456))) (pm_tn 459 (pm_tl 456 (s_K 432 [true, false, false, false, true, true, false, false] (s_goto 432))) (pm_tl 459 (s_aload 0 460)))) (pm_tn 465 (pm_tn 462 (pm_tl 460 (s_iload 4 462)) (pm_tl 462 (s_call 96 2 1 7 0 (fun _ => 0) 465))) (pm_tn 467 (pm_tl 465 (s_iload 4 467)) (pm_tl 467 (s_iret))))))))))
theorem tc_M_read : ∀ pc, pm_Ct (t_M_read pc) := (ct_tn (ct_tn (ct_tn (ct_tn (ct_tn (ct_tn (ct_tn (ct_tl (ct_iload _ _)) (ct_tn (ct_tl (ct_i2l _)) (ct_tl (ct_lpush _ _)))) (ct_tn (ct_tn (ct_tl (ct_lpush _ _)) (ct_tl (ct_call _ _ _ _ _ _ _))) (ct_tn (ct_tl (ct_ifeq _ _)) (ct_tl (ct_iload _ _))))) (ct_tn (ct_tn (ct_tn (ct_tl (ct_i2l _)) (ct_tl (ct_lpush _ _))) (ct_tn (ct_tl (ct_lpush _ _)) (ct_tl (ct_call _ _ _ _ _ _ _)))) (ct_tn (ct_tn (ct_tl (ct_ifeq _ _)) (ct_tl (ct_iload _ _))) (ct_tn (ct_tl (ct_i2l _)) (ct_tl (ct_lpush _ _)))))) (ct_tn (ct_tn (ct_tn (ct_tn (ct_tl (ct_lpush _ _)) (ct_tl (ct_call _ _ _ _ _ _ _))) (ct_tn (ct_tl (ct_ifne _ _)) (ct_tl (ct_push _ _)))) (ct_tn (ct_tn (ct_tl (ct_iret)) (ct_tl (ct_aload _ _))) (ct_tn (ct_tl (ct_getR _ _ _)) (ct_tl (ct_iload _ _))))) (ct_tn (ct_tn (ct_tn (ct_tl (ct_iald _)) (ct_tl (ct_iload _ _))) (ct_tn (ct_tl (ct_ceq _ _)) (ct_tl (ct_aload _ _)))) (ct_tn (ct_tn (ct_tl (ct_getR _ _ _)) (ct_tl (ct_iload _ _))) (ct_tn (ct_tl (ct_iald _)) (ct_tl (ct_push _ _))))))) (ct_tn (ct_tn (ct_tn (ct_tn (ct_tn (ct_tl (ct_cne _ _)) (ct_tl (ct_push _ _))) (ct_tn (ct_tl (ct_goto _)) (ct_tl (ct_push _ _)))) (ct_tn (ct_tn (ct_tl (ct_iret)) (ct_tl (ct_push _ _))) (ct_tn (ct_tl (ct_K (ct_istore _ _))) (ct_tl (ct_iload _ _))))) (ct_tn (ct_tn (ct_tn (ct_tl (ct_iload _ _)) (ct_tl (ct_iload _ _))) (ct_tn (ct_tl (ct_imul _)) (ct_tl (ct_cge _ _)))) (ct_tn (ct_tn (ct_tl (ct_iload _ _)) (ct_tl (ct_i2l _))) (ct_tn (ct_tl (ct_iload _ _)) (ct_tl (ct_i2l _)))))) (ct_tn (ct_tn (ct_tn (ct_tn (ct_tl (ct_ladd _)) (ct_tl (ct_lpush _ _))) (ct_tn (ct_tl (ct_aload _ _)) (ct_tl (ct_getR _ _ _)))) (ct_tn (ct_tn (ct_tl (ct_iload _ _)) (ct_tl (ct_iald _))) (ct_tn (ct_tl (ct_push _ _)) (ct_tl (ct_isub _))))) (ct_tn (ct_tn (ct_tn (ct_tl (ct_i2l _)) (ct_tl (ct_call _ _ _ _ _ _ _))) (ct_tn (ct_tl (ct_ifne _ _)) (ct_tl (ct_push _ _)))) (ct_tn (ct_tn (ct_tl (ct_iret)) (ct_tl (ct_aload _ _))) (ct_tn (ct_tl (ct_getR _ _ _)) (ct_tl (ct_push _ _)))))))) (ct_tn (ct_tn (ct_tn (ct_tn (ct_tn (ct_tn (ct_tl (ct_iload _ _)) (ct_tl (ct_imul _))) (ct_tn (ct_tl (ct_iload _ _)) (ct_tl (ct_iadd _)))) (ct_tn (ct_tn (ct_tl (ct_iload _ _)) (ct_tl (ct_iadd _))) (ct_tn (ct_tl (ct_iald _)) (ct_tl (ct_istore _ _))))) (ct_tn (ct_tn (ct_tn (ct_tl (ct_iload _ _)) (ct_tl (ct_i2l _))) (ct_tn (ct_tl (ct_lpush _ _)) (ct_tl (ct_iload _ _)))) (ct_tn (ct_tn (ct_tl (ct_push _ _)) (ct_tl (ct_isub _))) (ct_tn (ct_tl (ct_i2l _)) (ct_tl (ct_call _ _ _ _ _ _ _)))))) (ct_tn (ct_tn (ct_tn (ct_tn (ct_tl (ct_ifne _ _)) (ct_tl (ct_push _ _))) (ct_tn (ct_tl (ct_iload _ _)) (ct_tl (ct_isub _)))) (ct_tn (ct_tn (ct_tl (ct_iret)) (ct_tl (ct_aload _ _))) (ct_tn (ct_tl (ct_getR _ _ _)) (ct_tl (ct_push _ _))))) (ct_tn (ct_tn (ct_tn (ct_tl (ct_iload _ _)) (ct_tl (ct_iload _ _))) (ct_tn (ct_tl (ct_idiv _)) (ct_tl (ct_imul _)))) (ct_tn (ct_tn (ct_tl (ct_iload _ _)) (ct_tl (ct_iload _ _))) (ct_tn (ct_tl (ct_irem _)) (ct_tl (ct_iadd _))))))) (ct_tn (ct_tn (ct_tn (ct_tn (ct_tn (ct_tl (ct_iload _ _)) (ct_tl (ct_iast _))) (ct_tn (ct_tl (ct_iinc _ _ _)) (ct_tl (ct_K (ct_goto _))))) (ct_tn (ct_tn (ct_tl (ct_push _ _)) (ct_tl (ct_K (ct_istore _ _)))) (ct_tn (ct_tl (ct_iload _ _)) (ct_tl (ct_iload _ _))))) (ct_tn (ct_tn (ct_tn (ct_tl (ct_cge _ _)) (ct_tl (ct_aload _ _))) (ct_tn (ct_tl (ct_getR _ _ _)) (ct_tl (ct_iload _ _)))) (ct_tn (ct_tn (ct_tl (ct_iald _)) (ct_tl (ct_iload _ _))) (ct_tn (ct_tl (ct_cne _ _)) (ct_tl (ct_aload _ _)))))) (ct_tn (ct_tn (ct_tn (ct_tn (ct_tl (ct_getR _ _ _)) (ct_tl (ct_push _ _))) (ct_tn (ct_tl (ct_iload _ _)) (ct_tl (ct_imul _)))) (ct_tn (ct_tn (ct_tl (ct_iald _)) (ct_tl (ct_iload _ _))) (ct_tn (ct_tl (ct_ceq _ _)) (ct_tl (ct_push _ _))))) (ct_tn (ct_tn (ct_tn (ct_tl (ct_iload _ _)) (ct_tl (ct_isub _))) (ct_tn (ct_tl (ct_iret)) (ct_tl (ct_iinc _ _ _)))) (ct_tn (ct_tn (ct_tl (ct_K (ct_goto _))) (ct_tl (ct_push _ _))) (ct_tn (ct_tl (ct_K (ct_istore _ _))) (ct_tl (ct_iload _ _))))))))) (ct_tn (ct_tn (ct_tn (ct_tn (ct_tn (ct_tn (ct_tl (ct_iload _ _)) (ct_tn (ct_tl (ct_cge _ _)) (ct_tl (ct_push _ _)))) (ct_tn (ct_tn (ct_tl (ct_istore _ _)) (ct_tl (ct_push _ _))) (ct_tn (ct_tl (ct_K (ct_istore _ _))) (ct_tl (ct_iload _ _))))) (ct_tn (ct_tn (ct_tn (ct_tl (ct_iload _ _)) (ct_tl (ct_cge _ _))) (ct_tn (ct_tl (ct_iload _ _)) (ct_tl (ct_ifne _ _)))) (ct_tn (ct_tn (ct_tl (ct_aload _ _)) (ct_tl (ct_getR _ _ _))) (ct_tn (ct_tl (ct_push _ _)) (ct_tl (ct_iload _ _)))))) (ct_tn (ct_tn (ct_tn (ct_tn (ct_tl (ct_imul _)) (ct_tl (ct_iload _ _))) (ct_tn (ct_tl (ct_iadd _)) (ct_tl (ct_iald _)))) (ct_tn (ct_tn (ct_tl (ct_ifne _ _)) (ct_tl (ct_aload _ _))) (ct_tn (ct_tl (ct_getR _ _ _)) (ct_tl (ct_push _ _))))) (ct_tn (ct_tn (ct_tn (ct_tl (ct_iload _ _)) (ct_tl (ct_imul _))) (ct_tn (ct_tl (ct_iload _ _)) (ct_tl (ct_iadd _)))) (ct_tn (ct_tn (ct_tl (ct_iald _)) (ct_tl (ct_ifne _ _))) (ct_tn (ct_tl (ct_push _ _)) (ct_tl (ct_goto _))))))) (ct_tn (ct_tn (ct_tn (ct_tn (ct_tn (ct_tl (ct_push _ _)) (ct_tl (ct_istore _ _))) (ct_tn (ct_tl (ct_iinc _ _ _)) (ct_tl (ct_K (ct_goto _))))) (ct_tn (ct_tn (ct_tl (ct_iload _ _)) (ct_tl (ct_ifne _ _))) (ct_tn (ct_tl (ct_push _ _)) (ct_tl (ct_iload _ _))))) (ct_tn (ct_tn (ct_tn (ct_tl (ct_isub _)) (ct_tl (ct_iret))) (ct_tn (ct_tl (ct_iinc _ _ _)) (ct_tl (ct_K (ct_goto _))))) (ct_tn (ct_tn (ct_tl (ct_push _ _)) (ct_tl (ct_K (ct_istore _ _)))) (ct_tn (ct_tl (ct_iload _ _)) (ct_tl (ct_iload _ _)))))) (ct_tn (ct_tn (ct_tn (ct_tn (ct_tl (ct_cge _ _)) (ct_tl (ct_push _ _))) (ct_tn (ct_tl (ct_K (ct_istore _ _))) (ct_tl (ct_iload _ _)))) (ct_tn (ct_tn (ct_tl (ct_iload _ _)) (ct_tl (ct_cge _ _))) (ct_tn (ct_tl (ct_push _ _)) (ct_tl (ct_K (ct_istore _ _)))))) (ct_tn (ct_tn (ct_tn (ct_tl (ct_iload _ _)) (ct_tl (ct_iload _ _))) (ct_tn (ct_tl (ct_cge _ _)) (ct_tl (ct_aload _ _)))) (ct_tn (ct_tn (ct_tl (ct_getR _ _ _)) (ct_tl (ct_push _ _))) (ct_tn (ct_tl (ct_aload _ _)) (ct_tl (ct_getR _ _ _)))))))) (ct_tn (ct_tn (ct_tn (ct_tn (ct_tn (ct_tn (ct_tl (ct_push _ _)) (ct_tl (ct_iload _ _))) (ct_tn (ct_tl (ct_imul _)) (ct_tl (ct_iload _ _)))) (ct_tn (ct_tn (ct_tl (ct_iadd _)) (ct_tl (ct_iald _))) (ct_tn (ct_tl (ct_imul _)) (ct_tl (ct_iload _ _))))) (ct_tn (ct_tn (ct_tn (ct_tl (ct_iadd _)) (ct_tl (ct_iald _))) (ct_tn (ct_tl (ct_aload _ _)) (ct_tl (ct_getR _ _ _)))) (ct_tn (ct_tn (ct_tl (ct_push _ _)) (ct_tl (ct_iload _ _))) (ct_tn (ct_tl (ct_imul _)) (ct_tl (ct_aload _ _)))))) (ct_tn (ct_tn (ct_tn (ct_tn (ct_tl (ct_getR _ _ _)) (ct_tl (ct_push _ _))) (ct_tn (ct_tl (ct_iload _ _)) (ct_tl (ct_imul _)))) (ct_tn (ct_tn (ct_tl (ct_iload _ _)) (ct_tl (ct_iadd _))) (ct_tn (ct_tl (ct_iald _)) (ct_tl (ct_iadd _))))) (ct_tn (ct_tn (ct_tn (ct_tl (ct_iald _)) (ct_tl (ct_ceq _ _))) (ct_tn (ct_tl (ct_push _ _)) (ct_tl (ct_push _ _)))) (ct_tn (ct_tn (ct_tl (ct_iload _ _)) (ct_tl (ct_imul _))) (ct_tn (ct_tl (ct_isub _)) (ct_tl (ct_push _ _))))))) (ct_tn (ct_tn (ct_tn (ct_tn (ct_tn (ct_tl (ct_iload _ _)) (ct_tl (ct_imul _))) (ct_tn (ct_tl (ct_isub _)) (ct_tl (ct_iload _ _)))) (ct_tn (ct_tn (ct_tl (ct_isub _)) (ct_tl (ct_iret))) (ct_tn (ct_tl (ct_iinc _ _ _)) (ct_tl (ct_K (ct_goto _)))))) (ct_tn (ct_tn (ct_tn (ct_tl (ct_iinc _ _ _)) (ct_tl (ct_K (ct_goto _)))) (ct_tn (ct_tl (ct_iinc _ _ _)) (ct_tl (ct_K (ct_goto _))))) (ct_tn (ct_tn (ct_tl (ct_push _ _)) (ct_tl (ct_K (ct_istore _ _)))) (ct_tn (ct_tl (ct_iload _ _)) (ct_tl (ct_push _ _)))))) (ct_tn (ct_tn (ct_tn (ct_tn (ct_tl (ct_cge _ _)) (ct_tl (ct_aload _ _))) (ct_tn (ct_tl (ct_getR _ _ _)) (ct_tl (ct_iload _ _)))) (ct_tn (ct_tn (ct_tl (ct_aload _ _)) (ct_tl (ct_getR _ _ _))) (ct_tn (ct_tl (ct_iload _ _)) (ct_tl (ct_iald _))))) (ct_tn (ct_tn (ct_tn (ct_tl (ct_iast _)) (ct_tl (ct_iinc _ _ _))) (ct_tn (ct_tl (ct_K (ct_goto _))) (ct_tl (ct_aload _ _)))) (ct_tn (ct_tn (ct_tl (ct_iload _ _)) (ct_tl (ct_call _ _ _ _ _ _ _))) (ct_tn (ct_tl (ct_iload _ _)) (ct_tl (ct_iret))))))))))
def t_M_times : Nat → pm_S := (pm_tn 13 (pm_tn 5 (pm_tn 1 (pm_tl 0 (s_aload 0 1)) (pm_tn 2 (pm_tl 1 (s_iload 1 2)) (pm_tl 2 (s_call 93 2 0 7 1 (fun _ => 1) 5)))) (pm_tn 9 (pm_tn 8 (pm_tl 5 (s_ifeq 25 8)) (pm_tl 8 (s_aload 0 9))) (pm_tn 10 (pm_tl 9 (s_iload 2 10)) (pm_tl 10 (s_call 93 2 0 7 1 (fun _ => 1) 13))))) (pm_tn 19 (pm_tn 17 (pm_tn 16 (pm_tl 13 (s_ifeq 25 16)) (pm_tl 16 (s_aload 0 17))) (pm_tn 18 (pm_tl 17 (s_iload 1 18)) (pm_tl 18 (s_iload 2 19)))) (pm_tn 25 (pm_tn 22 (pm_tl 19 (s_call 94 3 0 7 1 (fun _ => 0) 22)) (pm_tl 22 (s_goto 26))) (pm_tn 26 (pm_tl 25 (s_push (-1) 26)) (pm_tl 26 (s_iret))))))
theorem tc_M_times : ∀ pc, pm_Ct (t_M_times pc) := (ct_tn (ct_tn (ct_tn (ct_tl (ct_aload _ _)) (ct_tn (ct_tl (ct_iload _ _)) (ct_tl (ct_call _ _ _ _ _ _ _)))) (ct_tn (ct_tn (ct_tl (ct_ifeq _ _)) (ct_tl (ct_aload _ _))) (ct_tn (ct_tl (ct_iload _ _)) (ct_tl (ct_call _ _ _ _ _ _ _))))) (ct_tn (ct_tn (ct_tn (ct_tl (ct_ifeq _ _)) (ct_tl (ct_aload _ _))) (ct_tn (ct_tl (ct_iload _ _)) (ct_tl (ct_iload _ _)))) (ct_tn (ct_tn (ct_tl (ct_call _ _ _ _ _ _ _)) (ct_tl (ct_goto _))) (ct_tn (ct_tl (ct_push _ _)) (ct_tl (ct_iret))))))
def t_M_classOf : Nat → pm_S := (pm_tn 20 (pm_tn 9 (pm_tn 3 (pm_tn 1 (pm_tl 0 (s_iload 1 1)) (pm_tn 2 (pm_tl 1 (s_istore 2 2)) (pm_tl 2 (s_push 0 3)))) (pm_tn 5 (pm_tn 4 (pm_tl 3 (s_K 4 [true, true, true, true, false] (s_istore 3 4))) (pm_tl 4 (s_iload 3 5))) (pm_tn 6 (pm_tl 5 (s_aload 0 6)) (pm_tl 6 (s_getI 7 0 9))))) (pm_tn 14 (pm_tn 12 (pm_tl 9 (s_cge 48 12)) (pm_tn 13 (pm_tl 12 (s_aload 0 13)) (pm_tl 13 (s_aload 0 14)))) (pm_tn 16 (pm_tn 15 (pm_tl 14 (s_iload 3 15)) (pm_tl 15 (s_iload 1 16))) (pm_tn 19 (pm_tl 16 (s_call 94 3 0 7 1 (fun _ => 0) 19)) (pm_tl 19 (s_aload 0 20)))))) (pm_tn 35 (pm_tn 27 (pm_tn 21 (pm_tl 20 (s_iload 3 21)) (pm_tn 24 (pm_tl 21 (s_call 95 2 1 7 1 (fun _ => 1) 24)) (pm_tl 24 (s_call 94 3 0 7 1 (fun _ => 0) 27)))) (pm_tn 31 (pm_tn 29 (pm_tl 27 (s_istore 4 29)) (pm_tl 29 (s_iload 4 31))) (pm_tn 32 (pm_tl 31 (s_iload 2 32)) (pm_tl 32 (s_cge 40 35))))) (pm_tn 42 (pm_tn 40 (pm_tn 37 (pm_tl 35 (s_iload 4 37)) (pm_tl 37 (s_goto 41))) (pm_tn 41 (pm_tl 40 (s_iload 2 41)) (pm_tl 41 (s_istore 2 42)))) (pm_tn 48 (pm_tn 45 (pm_tl 42 (s_iinc 3 1 45)) (pm_tl 45 (s_K 4 [true, true, true, true, false] (s_goto 4)))) (pm_tn 49 (pm_tl 48 (s_iload 2 49)) (pm_tl 49 (s_iret)))))))
theorem tc_M_classOf : ∀ pc, pm_Ct (t_M_classOf pc) := (ct_tn (ct_tn (ct_tn (ct_tn (ct_tl (ct_iload _ _)) (ct_tn (ct_tl (ct_istore _ _)) (ct_tl (ct_push _ _)))) (ct_tn (ct_tn (ct_tl (ct_K (ct_istore _ _))) (ct_tl (ct_iload _ _))) (ct_tn (ct_tl (ct_aload _ _)) (ct_tl (ct_getI _ _ _))))) (ct_tn (ct_tn (ct_tl (ct_cge _ _)) (ct_tn (ct_tl (ct_aload _ _)) (ct_tl (ct_aload _ _)))) (ct_tn (ct_tn (ct_tl (ct_iload _ _)) (ct_tl (ct_iload _ _))) (ct_tn (ct_tl (ct_call _ _ _ _ _ _ _)) (ct_tl (ct_aload _ _)))))) (ct_tn (ct_tn (ct_tn (ct_tl (ct_iload _ _)) (ct_tn (ct_tl (ct_call _ _ _ _ _ _ _)) (ct_tl (ct_call _ _ _ _ _ _ _)))) (ct_tn (ct_tn (ct_tl (ct_istore _ _)) (ct_tl (ct_iload _ _))) (ct_tn (ct_tl (ct_iload _ _)) (ct_tl (ct_cge _ _))))) (ct_tn (ct_tn (ct_tn (ct_tl (ct_iload _ _)) (ct_tl (ct_goto _))) (ct_tn (ct_tl (ct_iload _ _)) (ct_tl (ct_istore _ _)))) (ct_tn (ct_tn (ct_tl (ct_iinc _ _ _)) (ct_tl (ct_K (ct_goto _)))) (ct_tn (ct_tl (ct_iload _ _)) (ct_tl (ct_iret)))))))
def t_M_alikeWith : Nat → pm_S := (pm_tn 19 (pm_tn 6 (pm_tn 3 (pm_tn 1 (pm_tl 0 (s_push 0 1)) (pm_tn 2 (pm_tl 1 (s_istore 2 2)) (pm_tl 2 (s_push 0 3)))) (pm_tn 4 (pm_tl 3 (s_K 4 [true, true, true, true] (s_istore 3 4))) (pm_tn 5 (pm_tl 4 (s_iload 3 5)) (pm_tl 5 (s_aload 0 6))))) (pm_tn 13 (pm_tn 9 (pm_tl 6 (s_getI 7 0 9)) (pm_tn 12 (pm_tl 9 (s_cge 41 12)) (pm_tl 12 (s_iload 2 13)))) (pm_tn 15 (pm_tn 14 (pm_tl 13 (s_aload 0 14)) (pm_tl 14 (s_iload 1 15))) (pm_tn 16 (pm_tl 15 (s_iload 3 16)) (pm_tl 16 (s_call 94 3 0 7 1 (fun _ => 0) 19)))))) (pm_tn 32 (pm_tn 22 (pm_tn 20 (pm_tl 19 (s_aload 0 20)) (pm_tn 21 (pm_tl 20 (s_iload 3 21)) (pm_tl 21 (s_iload 1 22)))) (pm_tn 28 (pm_tn 25 (pm_tl 22 (s_call 94 3 0 7 1 (fun _ => 0) 25)) (pm_tl 25 (s_cne 32 28))) (pm_tn 29 (pm_tl 28 (s_push 1 29)) (pm_tl 29 (s_goto 33))))) (pm_tn 35 (pm_tn 33 (pm_tl 32 (s_push 0 33)) (pm_tn 34 (pm_tl 33 (s_iadd 34)) (pm_tl 34 (s_istore 2 35)))) (pm_tn 41 (pm_tn 38 (pm_tl 35 (s_iinc 3 1 38)) (pm_tl 38 (s_K 4 [true, true, true, true] (s_goto 4)))) (pm_tn 42 (pm_tl 41 (s_iload 2 42)) (pm_tl 42 (s_iret)))))))
theorem tc_M_alikeWith : ∀ pc, pm_Ct (t_M_alikeWith pc) := (ct_tn (ct_tn (ct_tn (ct_tn (ct_tl (ct_push _ _)) (ct_tn (ct_tl (ct_istore _ _)) (ct_tl (ct_push _ _)))) (ct_tn (ct_tl (ct_K (ct_istore _ _))) (ct_tn (ct_tl (ct_iload _ _)) (ct_tl (ct_aload _ _))))) (ct_tn (ct_tn (ct_tl (ct_getI _ _ _)) (ct_tn (ct_tl (ct_cge _ _)) (ct_tl (ct_iload _ _)))) (ct_tn (ct_tn (ct_tl (ct_aload _ _)) (ct_tl (ct_iload _ _))) (ct_tn (ct_tl (ct_iload _ _)) (ct_tl (ct_call _ _ _ _ _ _ _)))))) (ct_tn (ct_tn (ct_tn (ct_tl (ct_aload _ _)) (ct_tn (ct_tl (ct_iload _ _)) (ct_tl (ct_iload _ _)))) (ct_tn (ct_tn (ct_tl (ct_call _ _ _ _ _ _ _)) (ct_tl (ct_cne _ _))) (ct_tn (ct_tl (ct_push _ _)) (ct_tl (ct_goto _))))) (ct_tn (ct_tn (ct_tl (ct_push _ _)) (ct_tn (ct_tl (ct_iadd _)) (ct_tl (ct_istore _ _)))) (ct_tn (ct_tn (ct_tl (ct_iinc _ _ _)) (ct_tl (ct_K (ct_goto _)))) (ct_tn (ct_tl (ct_iload _ _)) (ct_tl (ct_iret)))))))
def t_M_turn : Nat → pm_S := (pm_tn 93 (pm_tn 61 (pm_tn 14 (pm_tn 8 (pm_tn 2 (pm_tn 1 (pm_tl 0 (s_aload 0 1)) (pm_tl 1 (s_iload 1 2))) (pm_tn 5 (pm_tl 2 (s_call 93 2 0 7 1 (fun _ => 1) 5)) (pm_tl 5 (s_ifeq 20 8)))) (pm_tn 10 (pm_tn 9 (pm_tl 8 (s_iload 2 9)) (pm_tl 9 (s_i2l 10))) (pm_tn 11 (pm_tl 10 (s_lpush 0 11)) (pm_tl 11 (s_lpush 5 14))))) (pm_tn 22 (pm_tn 20 (pm_tn 17 (pm_tl 14 (s_call 92 3 0 99 1 (fun _ => 0) 17)) (pm_tl 17 (s_ifne 22 20))) (pm_tn 21 (pm_tl 20 (s_push (-1) 21)) (pm_tl 21 (s_iret)))) (pm_tn 24 (pm_tn 23 (pm_tl 22 (s_push 0 23)) (pm_tl 23 (s_istore 3 24))) (pm_tn 25 (pm_tl 24 (s_iload 2 25)) (pm_tn 60 (pm_tl 25 (s_switch [(0, 60), (1, 66), (2, 93), (3, 99), (4, 141)] 148)) (pm_tl 60 (s_aload 0 61))))))) (pm_tn 76 (pm_tn 67 (pm_tn 65 (pm_tn 62 (pm_tl 61 (s_iload 1 62)) (pm_tl 62 (s_call 95 2 1 7 1 (fun _ => 1) 65))) (pm_tn 66 (pm_tl 65 (s_iret)) (pm_tl 66 (s_iload 1 67)))) (pm_tn 70 (pm_tn 69 (pm_tl 67 (s_istore 4 69)) (pm_tl 69 (s_push 1 70))) (pm_tn 71 (pm_tl 70 (s_K 71 [true, true, false, true, true] (s_istore 3 71))) (pm_tn 73 (pm_tl 71 (s_iload 4 73)) (pm_tl 73 (s_ifeq 91 76)))))) (pm_tn 83 (pm_tn 79 (pm_tn 77 (pm_tl 76 (s_aload 0 77)) (pm_tl 77 (s_iload 4 79))) (pm_tn 80 (pm_tl 79 (s_iload 1 80)) (pm_tl 80 (s_call 94 3 0 7 1 (fun _ => 0) 83)))) (pm_tn 88 (pm_tn 85 (pm_tl 83 (s_istore 4 85)) (pm_tl 85 (s_iinc 3 1 88))) (pm_tn 91 (pm_tl 88 (s_K 71 [true, true, false, true, true] (s_goto 71))) (pm_tn 92 (pm_tl 91 (s_iload 3 92)) (pm_tl 92 (s_iret)))))))) (pm_tn 126 (pm_tn 108 (pm_tn 99 (pm_tn 95 (pm_tn 94 (pm_tl 93 (s_aload 0 94)) (pm_tl 94 (s_iload 1 95))) (pm_tn 98 (pm_tl 95 (s_call 103 2 3 7 1 (fun _ => 2) 98)) (pm_tl 98 (s_iret)))) (pm_tn 102 (pm_tn 100 (pm_tl 99 (s_push 0 100)) (pm_tl 100 (s_K 102 [true, true, false, true, true] (s_istore 4 102)))) (pm_tn 104 (pm_tl 102 (s_iload 4 104)) (pm_tn 105 (pm_tl 104 (s_aload 0 105)) (pm_tl 105 (s_getI 7 0 108)))))) (pm_tn 115 (pm_tn 112 (pm_tn 111 (pm_tl 108 (s_cge 139 111)) (pm_tl 111 (s_iload 3 112))) (pm_tn 113 (pm_tl 112 (s_aload 0 113)) (pm_tl 113 (s_iload 4 115)))) (pm_tn 119 (pm_tn 118 (pm_tl 115 (s_call 103 2 3 7 1 (fun _ => 2) 118)) (pm_tl 118 (s_aload 0 119))) (pm_tn 120 (pm_tl 119 (s_iload 1 120)) (pm_tn 123 (pm_tl 120 (s_call 103 2 3 7 1 (fun _ => 2) 123)) (pm_tl 123 (s_cne 130 126))))))) (pm_tn 141 (pm_tn 132 (pm_tn 130 (pm_tn 127 (pm_tl 126 (s_push 1 127)) (pm_tl 127 (s_goto 131))) (pm_tn 131 (pm_tl 130 (s_push 0 131)) (pm_tl 131 (s_iadd 132)))) (pm_tn 136 (pm_tn 133 (pm_tl 132 (s_istore 3 133)) (pm_tl 133 (s_iinc 4 1 136))) (pm_tn 139 (pm_tl 136 (s_K 102 [true, true, false, true, true] (s_goto 102))) (pm_tn 140 (pm_tl 139 (s_iload 3 140)) (pm_tl 140 (s_iret)))))) (pm_tn 147 (pm_tn 145 (pm_tn 142 (pm_tl 141 (s_aload 0 142)) (pm_tl 142 (s_getR 7 2 145))) (pm_tn 146 (pm_tl 145 (s_iload 1 146)) (pm_tl 146 (s_iald 147)))) (pm_tn 149 (pm_tn 148 (pm_tl 147 (s_iret)) (pm_tl 148 (s_aload 0 149))) (pm_tn 150 (pm_tl 149 (s_iload 1 150)) (pm_tn 153 (pm_tl 150 (s_call 104 2 2 7 1 (fun _ => 1) 153)) (pm_tl 153 (s_iret)))))))))
theorem tc_M_turn : ∀ pc, pm_Ct (t_M_turn pc) := (ct_tn (ct_tn (ct_tn (ct_tn (ct_tn (ct_tn (ct_tl (ct_aload _ _)) (ct_tl (ct_iload _ _))) (ct_tn (ct_tl (ct_call _ _ _ _ _ _ _)) (ct_tl (ct_ifeq _ _)))) (ct_tn (ct_tn (ct_tl (ct_iload _ _)) (ct_tl (ct_i2l _))) (ct_tn (ct_tl (ct_lpush _ _)) (ct_tl (ct_lpush _ _))))) (ct_tn (ct_tn (ct_tn (ct_tl (ct_call _ _ _ _ _ _ _)) (ct_tl (ct_ifne _ _))) (ct_tn (ct_tl (ct_push _ _)) (ct_tl (ct_iret)))) (ct_tn (ct_tn (ct_tl (ct_push _ _)) (ct_tl (ct_istore _ _))) (ct_tn (ct_tl (ct_iload _ _)) (ct_tn (ct_tl (ct_switch _ _)) (ct_tl (ct_aload _ _))))))) (ct_tn (ct_tn (ct_tn (ct_tn (ct_tl (ct_iload _ _)) (ct_tl (ct_call _ _ _ _ _ _ _))) (ct_tn (ct_tl (ct_iret)) (ct_tl (ct_iload _ _)))) (ct_tn (ct_tn (ct_tl (ct_istore _ _)) (ct_tl (ct_push _ _))) (ct_tn (ct_tl (ct_K (ct_istore _ _))) (ct_tn (ct_tl (ct_iload _ _)) (ct_tl (ct_ifeq _ _)))))) (ct_tn (ct_tn (ct_tn (ct_tl (ct_aload _ _)) (ct_tl (ct_iload _ _))) (ct_tn (ct_tl (ct_iload _ _)) (ct_tl (ct_call _ _ _ _ _ _ _)))) (ct_tn (ct_tn (ct_tl (ct_istore _ _)) (ct_tl (ct_iinc _ _ _))) (ct_tn (ct_tl (ct_K (ct_goto _))) (ct_tn (ct_tl (ct_iload _ _)) (ct_tl (ct_iret)))))))) (ct_tn (ct_tn (ct_tn (ct_tn (ct_tn (ct_tl (ct_aload _ _)) (ct_tl (ct_iload _ _))) (ct_tn (ct_tl (ct_call _ _ _ _ _ _ _)) (ct_tl (ct_iret)))) (ct_tn (ct_tn (ct_tl (ct_push _ _)) (ct_tl (ct_K (ct_istore _ _)))) (ct_tn (ct_tl (ct_iload _ _)) (ct_tn (ct_tl (ct_aload _ _)) (ct_tl (ct_getI _ _ _)))))) (ct_tn (ct_tn (ct_tn (ct_tl (ct_cge _ _)) (ct_tl (ct_iload _ _))) (ct_tn (ct_tl (ct_aload _ _)) (ct_tl (ct_iload _ _)))) (ct_tn (ct_tn (ct_tl (ct_call _ _ _ _ _ _ _)) (ct_tl (ct_aload _ _))) (ct_tn (ct_tl (ct_iload _ _)) (ct_tn (ct_tl (ct_call _ _ _ _ _ _ _)) (ct_tl (ct_cne _ _))))))) (ct_tn (ct_tn (ct_tn (ct_tn (ct_tl (ct_push _ _)) (ct_tl (ct_goto _))) (ct_tn (ct_tl (ct_push _ _)) (ct_tl (ct_iadd _)))) (ct_tn (ct_tn (ct_tl (ct_istore _ _)) (ct_tl (ct_iinc _ _ _))) (ct_tn (ct_tl (ct_K (ct_goto _))) (ct_tn (ct_tl (ct_iload _ _)) (ct_tl (ct_iret)))))) (ct_tn (ct_tn (ct_tn (ct_tl (ct_aload _ _)) (ct_tl (ct_getR _ _ _))) (ct_tn (ct_tl (ct_iload _ _)) (ct_tl (ct_iald _)))) (ct_tn (ct_tn (ct_tl (ct_iret)) (ct_tl (ct_aload _ _))) (ct_tn (ct_tl (ct_iload _ _)) (ct_tn (ct_tl (ct_call _ _ _ _ _ _ _)) (ct_tl (ct_iret)))))))))
def t_M_about : Nat → pm_S := (pm_tn 67 (pm_tn 30 (pm_tn 15 (pm_tn 6 (pm_tn 2 (pm_tn 1 (pm_tl 0 (s_iload 1 1)) (pm_tl 1 (s_i2l 2))) (pm_tn 3 (pm_tl 2 (s_lpush 0 3)) (pm_tl 3 (s_lpush 4 6)))) (pm_tn 12 (pm_tn 9 (pm_tl 6 (s_call 92 3 0 99 1 (fun _ => 0) 9)) (pm_tl 9 (s_ifne 14 12))) (pm_tn 13 (pm_tl 12 (s_push (-1) 13)) (pm_tn 14 (pm_tl 13 (s_iret)) (pm_tl 14 (s_push 0 15)))))) (pm_tn 21 (pm_tn 17 (pm_tn 16 (pm_tl 15 (s_istore 2 16)) (pm_tl 16 (s_push 0 17))) (pm_tn 18 (pm_tl 17 (s_istore 3 18)) (pm_tn 19 (pm_tl 18 (s_push 0 19)) (pm_tl 19 (s_istore 4 21))))) (pm_tn 24 (pm_tn 22 (pm_tl 21 (s_push 0 22)) (pm_tl 22 (s_K 24 [true, true, true, true, true, true] (s_istore 5 24)))) (pm_tn 26 (pm_tl 24 (s_iload 5 26)) (pm_tn 27 (pm_tl 26 (s_aload 0 27)) (pm_tl 27 (s_getI 7 0 30))))))) (pm_tn 50 (pm_tn 40 (pm_tn 34 (pm_tn 33 (pm_tl 30 (s_cge 90 33)) (pm_tl 33 (s_iload 2 34))) (pm_tn 35 (pm_tl 34 (s_aload 0 35)) (pm_tn 37 (pm_tl 35 (s_iload 5 37)) (pm_tl 37 (s_call 103 2 3 7 1 (fun _ => 2) 40))))) (pm_tn 45 (pm_tn 42 (pm_tl 40 (s_iload 5 42)) (pm_tl 42 (s_cne 49 45))) (pm_tn 46 (pm_tl 45 (s_push 1 46)) (pm_tn 49 (pm_tl 46 (s_goto 50)) (pm_tl 49 (s_push 0 50)))))) (pm_tn 56 (pm_tn 52 (pm_tn 51 (pm_tl 50 (s_iadd 51)) (pm_tl 51 (s_istore 2 52))) (pm_tn 53 (pm_tl 52 (s_iload 3 53)) (pm_tn 54 (pm_tl 53 (s_aload 0 54)) (pm_tl 54 (s_iload 5 56))))) (pm_tn 60 (pm_tn 59 (pm_tl 56 (s_call 104 2 2 7 1 (fun _ => 1) 59)) (pm_tl 59 (s_aload 0 60))) (pm_tn 63 (pm_tl 60 (s_getI 7 0 63)) (pm_tn 66 (pm_tl 63 (s_cne 70 66)) (pm_tl 66 (s_push 1 67)))))))) (pm_tn 106 (pm_tn 84 (pm_tn 75 (pm_tn 71 (pm_tn 70 (pm_tl 67 (s_goto 71)) (pm_tl 70 (s_push 0 71))) (pm_tn 72 (pm_tl 71 (s_iadd 72)) (pm_tn 73 (pm_tl 72 (s_istore 3 73)) (pm_tl 73 (s_iload 4 75))))) (pm_tn 78 (pm_tn 76 (pm_tl 75 (s_aload 0 76)) (pm_tl 76 (s_iload 5 78))) (pm_tn 81 (pm_tl 78 (s_call 104 2 2 7 1 (fun _ => 1) 81)) (pm_tn 82 (pm_tl 81 (s_iadd 82)) (pm_tl 82 (s_istore 4 84)))))) (pm_tn 95 (pm_tn 90 (pm_tn 87 (pm_tl 84 (s_iinc 5 1 87)) (pm_tl 87 (s_K 24 [true, true, true, true, true, true] (s_goto 24)))) (pm_tn 91 (pm_tl 90 (s_iload 1 91)) (pm_tn 94 (pm_tl 91 (s_ifne 101 94)) (pm_tl 94 (s_aload 0 95))))) (pm_tn 101 (pm_tn 98 (pm_tl 95 (s_getI 7 0 98)) (pm_tl 98 (s_goto 142))) (pm_tn 102 (pm_tl 101 (s_iload 1 102)) (pm_tn 103 (pm_tl 102 (s_push 1 103)) (pm_tl 103 (s_cne 110 106))))))) (pm_tn 124 (pm_tn 115 (pm_tn 110 (pm_tn 107 (pm_tl 106 (s_iload 2 107)) (pm_tl 107 (s_goto 142))) (pm_tn 111 (pm_tl 110 (s_iload 1 111)) (pm_tn 112 (pm_tl 111 (s_push 2 112)) (pm_tl 112 (s_cne 119 115))))) (pm_tn 119 (pm_tn 116 (pm_tl 115 (s_iload 3 116)) (pm_tl 116 (s_goto 142))) (pm_tn 120 (pm_tl 119 (s_iload 1 120)) (pm_tn 121 (pm_tl 120 (s_push 3 121)) (pm_tl 121 (s_cne 129 124)))))) (pm_tn 134 (pm_tn 129 (pm_tn 126 (pm_tl 124 (s_iload 4 126)) (pm_tl 126 (s_goto 142))) (pm_tn 130 (pm_tl 129 (s_iload 3 130)) (pm_tn 131 (pm_tl 130 (s_aload 0 131)) (pm_tl 131 (s_getI 7 0 134))))) (pm_tn 138 (pm_tn 137 (pm_tl 134 (s_cne 141 137)) (pm_tl 137 (s_push 1 138))) (pm_tn 141 (pm_tl 138 (s_goto 142)) (pm_tn 142 (pm_tl 141 (s_push 0 142)) (pm_tl 142 (s_iret)))))))))
theorem tc_M_about : ∀ pc, pm_Ct (t_M_about pc) := (ct_tn (ct_tn (ct_tn (ct_tn (ct_tn (ct_tn (ct_tl (ct_iload _ _)) (ct_tl (ct_i2l _))) (ct_tn (ct_tl (ct_lpush _ _)) (ct_tl (ct_lpush _ _)))) (ct_tn (ct_tn (ct_tl (ct_call _ _ _ _ _ _ _)) (ct_tl (ct_ifne _ _))) (ct_tn (ct_tl (ct_push _ _)) (ct_tn (ct_tl (ct_iret)) (ct_tl (ct_push _ _)))))) (ct_tn (ct_tn (ct_tn (ct_tl (ct_istore _ _)) (ct_tl (ct_push _ _))) (ct_tn (ct_tl (ct_istore _ _)) (ct_tn (ct_tl (ct_push _ _)) (ct_tl (ct_istore _ _))))) (ct_tn (ct_tn (ct_tl (ct_push _ _)) (ct_tl (ct_K (ct_istore _ _)))) (ct_tn (ct_tl (ct_iload _ _)) (ct_tn (ct_tl (ct_aload _ _)) (ct_tl (ct_getI _ _ _))))))) (ct_tn (ct_tn (ct_tn (ct_tn (ct_tl (ct_cge _ _)) (ct_tl (ct_iload _ _))) (ct_tn (ct_tl (ct_aload _ _)) (ct_tn (ct_tl (ct_iload _ _)) (ct_tl (ct_call _ _ _ _ _ _ _))))) (ct_tn (ct_tn (ct_tl (ct_iload _ _)) (ct_tl (ct_cne _ _))) (ct_tn (ct_tl (ct_push _ _)) (ct_tn (ct_tl (ct_goto _)) (ct_tl (ct_push _ _)))))) (ct_tn (ct_tn (ct_tn (ct_tl (ct_iadd _)) (ct_tl (ct_istore _ _))) (ct_tn (ct_tl (ct_iload _ _)) (ct_tn (ct_tl (ct_aload _ _)) (ct_tl (ct_iload _ _))))) (ct_tn (ct_tn (ct_tl (ct_call _ _ _ _ _ _ _)) (ct_tl (ct_aload _ _))) (ct_tn (ct_tl (ct_getI _ _ _)) (ct_tn (ct_tl (ct_cne _ _)) (ct_tl (ct_push _ _)))))))) (ct_tn (ct_tn (ct_tn (ct_tn (ct_tn (ct_tl (ct_goto _)) (ct_tl (ct_push _ _))) (ct_tn (ct_tl (ct_iadd _)) (ct_tn (ct_tl (ct_istore _ _)) (ct_tl (ct_iload _ _))))) (ct_tn (ct_tn (ct_tl (ct_aload _ _)) (ct_tl (ct_iload _ _))) (ct_tn (ct_tl (ct_call _ _ _ _ _ _ _)) (ct_tn (ct_tl (ct_iadd _)) (ct_tl (ct_istore _ _)))))) (ct_tn (ct_tn (ct_tn (ct_tl (ct_iinc _ _ _)) (ct_tl (ct_K (ct_goto _)))) (ct_tn (ct_tl (ct_iload _ _)) (ct_tn (ct_tl (ct_ifne _ _)) (ct_tl (ct_aload _ _))))) (ct_tn (ct_tn (ct_tl (ct_getI _ _ _)) (ct_tl (ct_goto _))) (ct_tn (ct_tl (ct_iload _ _)) (ct_tn (ct_tl (ct_push _ _)) (ct_tl (ct_cne _ _))))))) (ct_tn (ct_tn (ct_tn (ct_tn (ct_tl (ct_iload _ _)) (ct_tl (ct_goto _))) (ct_tn (ct_tl (ct_iload _ _)) (ct_tn (ct_tl (ct_push _ _)) (ct_tl (ct_cne _ _))))) (ct_tn (ct_tn (ct_tl (ct_iload _ _)) (ct_tl (ct_goto _))) (ct_tn (ct_tl (ct_iload _ _)) (ct_tn (ct_tl (ct_push _ _)) (ct_tl (ct_cne _ _)))))) (ct_tn (ct_tn (ct_tn (ct_tl (ct_iload _ _)) (ct_tl (ct_goto _))) (ct_tn (ct_tl (ct_iload _ _)) (ct_tn (ct_tl (ct_aload _ _)) (ct_tl (ct_getI _ _ _))))) (ct_tn (ct_tn (ct_tl (ct_cne _ _)) (ct_tl (ct_push _ _))) (ct_tn (ct_tl (ct_goto _)) (ct_tn (ct_tl (ct_push _ _)) (ct_tl (ct_iret)))))))))
def t_M_worth : Nat → pm_S := (pm_tn 39 (pm_tn 21 (pm_tn 9 (pm_tn 2 (pm_tn 1 (pm_tl 0 (s_aload 0 1)) (pm_tl 1 (s_iload 1 2))) (pm_tn 5 (pm_tl 2 (s_call 93 2 0 7 1 (fun _ => 1) 5)) (pm_tn 8 (pm_tl 5 (s_ifeq 20 8)) (pm_tl 8 (s_iload 2 9))))) (pm_tn 14 (pm_tn 10 (pm_tl 9 (s_i2l 10)) (pm_tn 11 (pm_tl 10 (s_lpush 0 11)) (pm_tl 11 (s_lpush 9 14)))) (pm_tn 17 (pm_tl 14 (s_call 92 3 0 99 1 (fun _ => 0) 17)) (pm_tn 20 (pm_tl 17 (s_ifne 22 20)) (pm_tl 20 (s_push (-1) 21)))))) (pm_tn 29 (pm_tn 26 (pm_tn 22 (pm_tl 21 (s_iret)) (pm_tn 23 (pm_tl 22 (s_aload 0 23)) (pm_tl 23 (s_getR 7 2 26)))) (pm_tn 27 (pm_tl 26 (s_iload 1 27)) (pm_tn 28 (pm_tl 27 (s_iald 28)) (pm_tl 28 (s_istore 3 29))))) (pm_tn 34 (pm_tn 30 (pm_tl 29 (s_aload 0 30)) (pm_tn 31 (pm_tl 30 (s_iload 1 31)) (pm_tl 31 (s_call 103 2 3 7 1 (fun _ => 2) 34)))) (pm_tn 36 (pm_tl 34 (s_istore 4 36)) (pm_tn 37 (pm_tl 36 (s_push 0 37)) (pm_tl 37 (s_K 39 [true, false, true, true, true, true] (s_istore 5 39)))))))) (pm_tn 62 (pm_tn 49 (pm_tn 42 (pm_tn 41 (pm_tl 39 (s_iload 5 41)) (pm_tl 41 (s_aload 0 42))) (pm_tn 45 (pm_tl 42 (s_getI 7 0 45)) (pm_tn 48 (pm_tl 45 (s_cge 83 48)) (pm_tl 48 (s_aload 0 49))))) (pm_tn 55 (pm_tn 52 (pm_tl 49 (s_getR 7 2 52)) (pm_tn 54 (pm_tl 52 (s_iload 5 54)) (pm_tl 54 (s_aload 0 55)))) (pm_tn 57 (pm_tl 55 (s_iload 5 57)) (pm_tn 60 (pm_tl 57 (s_call 103 2 3 7 1 (fun _ => 2) 60)) (pm_tl 60 (s_iload 4 62)))))) (pm_tn 75 (pm_tn 69 (pm_tn 65 (pm_tl 62 (s_cne 69 65)) (pm_tn 66 (pm_tl 65 (s_iload 2 66)) (pm_tl 66 (s_goto 76)))) (pm_tn 70 (pm_tl 69 (s_aload 0 70)) (pm_tn 73 (pm_tl 70 (s_getR 7 2 73)) (pm_tl 73 (s_iload 5 75))))) (pm_tn 80 (pm_tn 76 (pm_tl 75 (s_iald 76)) (pm_tn 77 (pm_tl 76 (s_iast 77)) (pm_tl 77 (s_iinc 5 1 80)))) (pm_tn 83 (pm_tl 80 (s_K 39 [true, false, true, true, true, true] (s_goto 39))) (pm_tn 84 (pm_tl 83 (s_iload 3 84)) (pm_tl 84 (s_iret))))))))
theorem tc_M_worth : ∀ pc, pm_Ct (t_M_worth pc) := (ct_tn (ct_tn (ct_tn (ct_tn (ct_tn (ct_tl (ct_aload _ _)) (ct_tl (ct_iload _ _))) (ct_tn (ct_tl (ct_call _ _ _ _ _ _ _)) (ct_tn (ct_tl (ct_ifeq _ _)) (ct_tl (ct_iload _ _))))) (ct_tn (ct_tn (ct_tl (ct_i2l _)) (ct_tn (ct_tl (ct_lpush _ _)) (ct_tl (ct_lpush _ _)))) (ct_tn (ct_tl (ct_call _ _ _ _ _ _ _)) (ct_tn (ct_tl (ct_ifne _ _)) (ct_tl (ct_push _ _)))))) (ct_tn (ct_tn (ct_tn (ct_tl (ct_iret)) (ct_tn (ct_tl (ct_aload _ _)) (ct_tl (ct_getR _ _ _)))) (ct_tn (ct_tl (ct_iload _ _)) (ct_tn (ct_tl (ct_iald _)) (ct_tl (ct_istore _ _))))) (ct_tn (ct_tn (ct_tl (ct_aload _ _)) (ct_tn (ct_tl (ct_iload _ _)) (ct_tl (ct_call _ _ _ _ _ _ _)))) (ct_tn (ct_tl (ct_istore _ _)) (ct_tn (ct_tl (ct_push _ _)) (ct_tl (ct_K (ct_istore _ _)))))))) (ct_tn (ct_tn (ct_tn (ct_tn (ct_tl (ct_iload _ _)) (ct_tl (ct_aload _ _))) (ct_tn (ct_tl (ct_getI _ _ _)) (ct_tn (ct_tl (ct_cge _ _)) (ct_tl (ct_aload _ _))))) (ct_tn (ct_tn (ct_tl (ct_getR _ _ _)) (ct_tn (ct_tl (ct_iload _ _)) (ct_tl (ct_aload _ _)))) (ct_tn (ct_tl (ct_iload _ _)) (ct_tn (ct_tl (ct_call _ _ _ _ _ _ _)) (ct_tl (ct_iload _ _)))))) (ct_tn (ct_tn (ct_tn (ct_tl (ct_cne _ _)) (ct_tn (ct_tl (ct_iload _ _)) (ct_tl (ct_goto _)))) (ct_tn (ct_tl (ct_aload _ _)) (ct_tn (ct_tl (ct_getR _ _ _)) (ct_tl (ct_iload _ _))))) (ct_tn (ct_tn (ct_tl (ct_iald _)) (ct_tn (ct_tl (ct_iast _)) (ct_tl (ct_iinc _ _ _)))) (ct_tn (ct_tl (ct_K (ct_goto _))) (ct_tn (ct_tl (ct_iload _ _)) (ct_tl (ct_iret))))))))
def t_M_isLine : Nat → pm_S := (pm_tn 7 (pm_tn 2 (pm_tn 1 (pm_tl 0 (s_iload 1 1)) (pm_tl 1 (s_i2l 2))) (pm_tn 3 (pm_tl 2 (s_lpush 0 3)) (pm_tn 4 (pm_tl 3 (s_aload 0 4)) (pm_tl 4 (s_getI 7 4 7))))) (pm_tn 9 (pm_tn 8 (pm_tl 7 (s_push 1 8)) (pm_tl 8 (s_isub 9))) (pm_tn 10 (pm_tl 9 (s_i2l 10)) (pm_tn 13 (pm_tl 10 (s_call 92 3 0 99 1 (fun _ => 0) 13)) (pm_tl 13 (s_zret))))))
theorem tc_M_isLine : ∀ pc, pm_Ct (t_M_isLine pc) := (ct_tn (ct_tn (ct_tn (ct_tl (ct_iload _ _)) (ct_tl (ct_i2l _))) (ct_tn (ct_tl (ct_lpush _ _)) (ct_tn (ct_tl (ct_aload _ _)) (ct_tl (ct_getI _ _ _))))) (ct_tn (ct_tn (ct_tl (ct_push _ _)) (ct_tl (ct_isub _))) (ct_tn (ct_tl (ct_i2l _)) (ct_tn (ct_tl (ct_call _ _ _ _ _ _ _)) (ct_tl (ct_zret))))))
def t_M_isWalk : Nat → pm_S := (pm_tn 7 (pm_tn 2 (pm_tn 1 (pm_tl 0 (s_iload 1 1)) (pm_tl 1 (s_i2l 2))) (pm_tn 3 (pm_tl 2 (s_lpush 0 3)) (pm_tn 4 (pm_tl 3 (s_aload 0 4)) (pm_tl 4 (s_getI 7 8 7))))) (pm_tn 9 (pm_tn 8 (pm_tl 7 (s_push 1 8)) (pm_tl 8 (s_isub 9))) (pm_tn 10 (pm_tl 9 (s_i2l 10)) (pm_tn 13 (pm_tl 10 (s_call 92 3 0 99 1 (fun _ => 0) 13)) (pm_tl 13 (s_zret))))))
theorem tc_M_isWalk : ∀ pc, pm_Ct (t_M_isWalk pc) := (ct_tn (ct_tn (ct_tn (ct_tl (ct_iload _ _)) (ct_tl (ct_i2l _))) (ct_tn (ct_tl (ct_lpush _ _)) (ct_tn (ct_tl (ct_aload _ _)) (ct_tl (ct_getI _ _ _))))) (ct_tn (ct_tn (ct_tl (ct_push _ _)) (ct_tl (ct_isub _))) (ct_tn (ct_tl (ct_i2l _)) (ct_tn (ct_tl (ct_call _ _ _ _ _ _ _)) (ct_tl (ct_zret))))))
def t_M_isPoint : Nat → pm_S := (pm_tn 7 (pm_tn 2 (pm_tn 1 (pm_tl 0 (s_iload 1 1)) (pm_tl 1 (s_i2l 2))) (pm_tn 3 (pm_tl 2 (s_lpush 0 3)) (pm_tn 4 (pm_tl 3 (s_aload 0 4)) (pm_tl 4 (s_getI 7 3 7))))) (pm_tn 9 (pm_tn 8 (pm_tl 7 (s_push 1 8)) (pm_tl 8 (s_isub 9))) (pm_tn 10 (pm_tl 9 (s_i2l 10)) (pm_tn 13 (pm_tl 10 (s_call 92 3 0 99 1 (fun _ => 0) 13)) (pm_tl 13 (s_zret))))))
theorem tc_M_isPoint : ∀ pc, pm_Ct (t_M_isPoint pc) := (ct_tn (ct_tn (ct_tn (ct_tl (ct_iload _ _)) (ct_tl (ct_i2l _))) (ct_tn (ct_tl (ct_lpush _ _)) (ct_tn (ct_tl (ct_aload _ _)) (ct_tl (ct_getI _ _ _))))) (ct_tn (ct_tn (ct_tl (ct_push _ _)) (ct_tl (ct_isub _))) (ct_tn (ct_tl (ct_i2l _)) (ct_tn (ct_tl (ct_call _ _ _ _ _ _ _)) (ct_tl (ct_zret))))))
def t_M_point : Nat → pm_S := (pm_tn 14 (pm_tn 9 (pm_tn 4 (pm_tn 1 (pm_tl 0 (s_aload 0 1)) (pm_tl 1 (s_getI 7 3 4))) (pm_tn 6 (pm_tl 4 (s_push 6 6)) (pm_tl 6 (s_cne 12 9)))) (pm_tn 12 (pm_tn 11 (pm_tl 9 (s_push (-3) 11)) (pm_tl 11 (s_iret))) (pm_tn 13 (pm_tl 12 (s_aload 0 13)) (pm_tl 13 (s_dup 14))))) (pm_tn 22 (pm_tn 18 (pm_tn 17 (pm_tl 14 (s_getI 7 3 17)) (pm_tl 17 (s_push 1 18))) (pm_tn 19 (pm_tl 18 (s_iadd 19)) (pm_tl 19 (s_putI 7 3 22)))) (pm_tn 26 (pm_tn 23 (pm_tl 22 (s_aload 0 23)) (pm_tl 23 (s_getI 7 3 26))) (pm_tn 27 (pm_tl 26 (s_push 1 27)) (pm_tn 28 (pm_tl 27 (s_isub 28)) (pm_tl 28 (s_iret)))))))
theorem tc_M_point : ∀ pc, pm_Ct (t_M_point pc) := (ct_tn (ct_tn (ct_tn (ct_tn (ct_tl (ct_aload _ _)) (ct_tl (ct_getI _ _ _))) (ct_tn (ct_tl (ct_push _ _)) (ct_tl (ct_cne _ _)))) (ct_tn (ct_tn (ct_tl (ct_push _ _)) (ct_tl (ct_iret))) (ct_tn (ct_tl (ct_aload _ _)) (ct_tl (ct_dup _))))) (ct_tn (ct_tn (ct_tn (ct_tl (ct_getI _ _ _)) (ct_tl (ct_push _ _))) (ct_tn (ct_tl (ct_iadd _)) (ct_tl (ct_putI _ _ _)))) (ct_tn (ct_tn (ct_tl (ct_aload _ _)) (ct_tl (ct_getI _ _ _))) (ct_tn (ct_tl (ct_push _ _)) (ct_tn (ct_tl (ct_isub _)) (ct_tl (ct_iret)))))))
def t_M_line : Nat → pm_S := (pm_tn 40 (pm_tn 19 (pm_tn 9 (pm_tn 2 (pm_tn 1 (pm_tl 0 (s_aload 0 1)) (pm_tl 1 (s_iload 1 2))) (pm_tn 5 (pm_tl 2 (s_call 110 2 0 7 1 (fun _ => 1) 5)) (pm_tn 8 (pm_tl 5 (s_ifeq 16 8)) (pm_tl 8 (s_aload 0 9))))) (pm_tn 16 (pm_tn 10 (pm_tl 9 (s_iload 2 10)) (pm_tn 13 (pm_tl 10 (s_call 110 2 0 7 1 (fun _ => 1) 13)) (pm_tl 13 (s_ifne 18 16)))) (pm_tn 17 (pm_tl 16 (s_push (-1) 17)) (pm_tn 18 (pm_tl 17 (s_iret)) (pm_tl 18 (s_aload 0 19)))))) (pm_tn 30 (pm_tn 24 (pm_tn 22 (pm_tl 19 (s_getI 7 4 22)) (pm_tl 22 (s_push 10 24))) (pm_tn 27 (pm_tl 24 (s_cne 30 27)) (pm_tn 29 (pm_tl 27 (s_push (-3) 29)) (pm_tl 29 (s_iret))))) (pm_tn 35 (pm_tn 31 (pm_tl 30 (s_aload 0 31)) (pm_tn 34 (pm_tl 31 (s_getR 7 5 34)) (pm_tl 34 (s_aload 0 35)))) (pm_tn 38 (pm_tl 35 (s_getI 7 4 38)) (pm_tn 39 (pm_tl 38 (s_iload 1 39)) (pm_tl 39 (s_iast 40))))))) (pm_tn 59 (pm_tn 49 (pm_tn 44 (pm_tn 41 (pm_tl 40 (s_aload 0 41)) (pm_tl 41 (s_getR 7 6 44))) (pm_tn 45 (pm_tl 44 (s_aload 0 45)) (pm_tn 48 (pm_tl 45 (s_getI 7 4 48)) (pm_tl 48 (s_iload 2 49))))) (pm_tn 54 (pm_tn 50 (pm_tl 49 (s_iast 50)) (pm_tn 51 (pm_tl 50 (s_aload 0 51)) (pm_tl 51 (s_getR 7 7 54)))) (pm_tn 55 (pm_tl 54 (s_aload 0 55)) (pm_tn 58 (pm_tl 55 (s_getI 7 4 58)) (pm_tl 58 (s_push 0 59)))))) (pm_tn 67 (pm_tn 62 (pm_tn 60 (pm_tl 59 (s_iast 60)) (pm_tn 61 (pm_tl 60 (s_aload 0 61)) (pm_tl 61 (s_dup 62)))) (pm_tn 65 (pm_tl 62 (s_getI 7 4 65)) (pm_tn 66 (pm_tl 65 (s_push 1 66)) (pm_tl 66 (s_iadd 67))))) (pm_tn 74 (pm_tn 70 (pm_tl 67 (s_putI 7 4 70)) (pm_tn 71 (pm_tl 70 (s_aload 0 71)) (pm_tl 71 (s_getI 7 4 74)))) (pm_tn 75 (pm_tl 74 (s_push 1 75)) (pm_tn 76 (pm_tl 75 (s_isub 76)) (pm_tl 76 (s_iret))))))))
theorem tc_M_line : ∀ pc, pm_Ct (t_M_line pc) := (ct_tn (ct_tn (ct_tn (ct_tn (ct_tn (ct_tl (ct_aload _ _)) (ct_tl (ct_iload _ _))) (ct_tn (ct_tl (ct_call _ _ _ _ _ _ _)) (ct_tn (ct_tl (ct_ifeq _ _)) (ct_tl (ct_aload _ _))))) (ct_tn (ct_tn (ct_tl (ct_iload _ _)) (ct_tn (ct_tl (ct_call _ _ _ _ _ _ _)) (ct_tl (ct_ifne _ _)))) (ct_tn (ct_tl (ct_push _ _)) (ct_tn (ct_tl (ct_iret)) (ct_tl (ct_aload _ _)))))) (ct_tn (ct_tn (ct_tn (ct_tl (ct_getI _ _ _)) (ct_tl (ct_push _ _))) (ct_tn (ct_tl (ct_cne _ _)) (ct_tn (ct_tl (ct_push _ _)) (ct_tl (ct_iret))))) (ct_tn (ct_tn (ct_tl (ct_aload _ _)) (ct_tn (ct_tl (ct_getR _ _ _)) (ct_tl (ct_aload _ _)))) (ct_tn (ct_tl (ct_getI _ _ _)) (ct_tn (ct_tl (ct_iload _ _)) (ct_tl (ct_iast _))))))) (ct_tn (ct_tn (ct_tn (ct_tn (ct_tl (ct_aload _ _)) (ct_tl (ct_getR _ _ _))) (ct_tn (ct_tl (ct_aload _ _)) (ct_tn (ct_tl (ct_getI _ _ _)) (ct_tl (ct_iload _ _))))) (ct_tn (ct_tn (ct_tl (ct_iast _)) (ct_tn (ct_tl (ct_aload _ _)) (ct_tl (ct_getR _ _ _)))) (ct_tn (ct_tl (ct_aload _ _)) (ct_tn (ct_tl (ct_getI _ _ _)) (ct_tl (ct_push _ _)))))) (ct_tn (ct_tn (ct_tn (ct_tl (ct_iast _)) (ct_tn (ct_tl (ct_aload _ _)) (ct_tl (ct_dup _)))) (ct_tn (ct_tl (ct_getI _ _ _)) (ct_tn (ct_tl (ct_push _ _)) (ct_tl (ct_iadd _))))) (ct_tn (ct_tn (ct_tl (ct_putI _ _ _)) (ct_tn (ct_tl (ct_aload _ _)) (ct_tl (ct_getI _ _ _)))) (ct_tn (ct_tl (ct_push _ _)) (ct_tn (ct_tl (ct_isub _)) (ct_tl (ct_iret))))))))
def t_M_walk : Nat → pm_S := (pm_tn 36 (pm_tn 19 (pm_tn 9 (pm_tn 2 (pm_tn 1 (pm_tl 0 (s_aload 0 1)) (pm_tl 1 (s_iload 1 2))) (pm_tn 5 (pm_tl 2 (s_call 110 2 0 7 1 (fun _ => 1) 5)) (pm_tn 8 (pm_tl 5 (s_ifne 10 8)) (pm_tl 8 (s_push (-1) 9))))) (pm_tn 11 (pm_tn 10 (pm_tl 9 (s_iret)) (pm_tl 10 (s_aload 0 11))) (pm_tn 14 (pm_tl 11 (s_getI 7 8 14)) (pm_tn 16 (pm_tl 14 (s_push 8 16)) (pm_tl 16 (s_cne 22 19)))))) (pm_tn 27 (pm_tn 22 (pm_tn 21 (pm_tl 19 (s_push (-3) 21)) (pm_tl 21 (s_iret))) (pm_tn 23 (pm_tl 22 (s_aload 0 23)) (pm_tn 26 (pm_tl 23 (s_getR 7 9 26)) (pm_tl 26 (s_aload 0 27))))) (pm_tn 31 (pm_tn 30 (pm_tl 27 (s_getI 7 8 30)) (pm_tl 30 (s_iload 1 31))) (pm_tn 32 (pm_tl 31 (s_iast 32)) (pm_tn 33 (pm_tl 32 (s_aload 0 33)) (pm_tl 33 (s_getR 7 10 36))))))) (pm_tn 52 (pm_tn 43 (pm_tn 40 (pm_tn 37 (pm_tl 36 (s_aload 0 37)) (pm_tl 37 (s_getI 7 8 40))) (pm_tn 41 (pm_tl 40 (s_push 0 41)) (pm_tn 42 (pm_tl 41 (s_iast 42)) (pm_tl 42 (s_aload 0 43))))) (pm_tn 47 (pm_tn 46 (pm_tl 43 (s_getR 7 13 46)) (pm_tl 46 (s_aload 0 47))) (pm_tn 50 (pm_tl 47 (s_getI 7 8 50)) (pm_tn 51 (pm_tl 50 (s_push 1 51)) (pm_tl 51 (s_zast 52)))))) (pm_tn 59 (pm_tn 54 (pm_tn 53 (pm_tl 52 (s_aload 0 53)) (pm_tl 53 (s_dup 54))) (pm_tn 57 (pm_tl 54 (s_getI 7 8 57)) (pm_tn 58 (pm_tl 57 (s_push 1 58)) (pm_tl 58 (s_iadd 59))))) (pm_tn 66 (pm_tn 62 (pm_tl 59 (s_putI 7 8 62)) (pm_tn 63 (pm_tl 62 (s_aload 0 63)) (pm_tl 63 (s_getI 7 8 66)))) (pm_tn 67 (pm_tl 66 (s_push 1 67)) (pm_tn 68 (pm_tl 67 (s_isub 68)) (pm_tl 68 (s_iret))))))))
theorem tc_M_walk : ∀ pc, pm_Ct (t_M_walk pc) := (ct_tn (ct_tn (ct_tn (ct_tn (ct_tn (ct_tl (ct_aload _ _)) (ct_tl (ct_iload _ _))) (ct_tn (ct_tl (ct_call _ _ _ _ _ _ _)) (ct_tn (ct_tl (ct_ifne _ _)) (ct_tl (ct_push _ _))))) (ct_tn (ct_tn (ct_tl (ct_iret)) (ct_tl (ct_aload _ _))) (ct_tn (ct_tl (ct_getI _ _ _)) (ct_tn (ct_tl (ct_push _ _)) (ct_tl (ct_cne _ _)))))) (ct_tn (ct_tn (ct_tn (ct_tl (ct_push _ _)) (ct_tl (ct_iret))) (ct_tn (ct_tl (ct_aload _ _)) (ct_tn (ct_tl (ct_getR _ _ _)) (ct_tl (ct_aload _ _))))) (ct_tn (ct_tn (ct_tl (ct_getI _ _ _)) (ct_tl (ct_iload _ _))) (ct_tn (ct_tl (ct_iast _)) (ct_tn (ct_tl (ct_aload _ _)) (ct_tl (ct_getR _ _ _))))))) (ct_tn (ct_tn (ct_tn (ct_tn (ct_tl (ct_aload _ _)) (ct_tl (ct_getI _ _ _))) (ct_tn (ct_tl (ct_push _ _)) (ct_tn (ct_tl (ct_iast _)) (ct_tl (ct_aload _ _))))) (ct_tn (ct_tn (ct_tl (ct_getR _ _ _)) (ct_tl (ct_aload _ _))) (ct_tn (ct_tl (ct_getI _ _ _)) (ct_tn (ct_tl (ct_push _ _)) (ct_tl (ct_zast _)))))) (ct_tn (ct_tn (ct_tn (ct_tl (ct_aload _ _)) (ct_tl (ct_dup _))) (ct_tn (ct_tl (ct_getI _ _ _)) (ct_tn (ct_tl (ct_push _ _)) (ct_tl (ct_iadd _))))) (ct_tn (ct_tn (ct_tl (ct_putI _ _ _)) (ct_tn (ct_tl (ct_aload _ _)) (ct_tl (ct_getI _ _ _)))) (ct_tn (ct_tl (ct_push _ _)) (ct_tn (ct_tl (ct_isub _)) (ct_tl (ct_iret))))))))
def t_M_endOf : Nat → pm_S := (pm_tn 27 (pm_tn 16 (pm_tn 7 (pm_tn 4 (pm_tn 1 (pm_tl 0 (s_aload 0 1)) (pm_tl 1 (s_getR 7 10 4))) (pm_tn 5 (pm_tl 4 (s_iload 1 5)) (pm_tn 6 (pm_tl 5 (s_iald 6)) (pm_tl 6 (s_istore 2 7))))) (pm_tn 11 (pm_tn 8 (pm_tl 7 (s_iload 2 8)) (pm_tl 8 (s_ifne 18 11))) (pm_tn 12 (pm_tl 11 (s_aload 0 12)) (pm_tn 15 (pm_tl 12 (s_getR 7 9 15)) (pm_tl 15 (s_iload 1 16)))))) (pm_tn 22 (pm_tn 18 (pm_tn 17 (pm_tl 16 (s_iald 17)) (pm_tl 17 (s_iret))) (pm_tn 20 (pm_tl 18 (s_push 6 20)) (pm_tn 21 (pm_tl 20 (s_iload 1 21)) (pm_tl 21 (s_imul 22))))) (pm_tn 24 (pm_tn 23 (pm_tl 22 (s_iload 2 23)) (pm_tl 23 (s_iadd 24))) (pm_tn 25 (pm_tl 24 (s_push 1 25)) (pm_tn 26 (pm_tl 25 (s_isub 26)) (pm_tl 26 (s_istore 3 27))))))) (pm_tn 45 (pm_tn 36 (pm_tn 31 (pm_tn 28 (pm_tl 27 (s_aload 0 28)) (pm_tl 28 (s_getR 7 12 31))) (pm_tn 32 (pm_tl 31 (s_iload 3 32)) (pm_tn 33 (pm_tl 32 (s_zald 33)) (pm_tl 33 (s_ifeq 50 36))))) (pm_tn 40 (pm_tn 37 (pm_tl 36 (s_aload 0 37)) (pm_tl 37 (s_getR 7 5 40))) (pm_tn 41 (pm_tl 40 (s_aload 0 41)) (pm_tn 44 (pm_tl 41 (s_getR 7 11 44)) (pm_tl 44 (s_iload 3 45)))))) (pm_tn 54 (pm_tn 47 (pm_tn 46 (pm_tl 45 (s_iald 46)) (pm_tl 46 (s_iald 47))) (pm_tn 50 (pm_tl 47 (s_goto 61)) (pm_tn 51 (pm_tl 50 (s_aload 0 51)) (pm_tl 51 (s_getR 7 6 54))))) (pm_tn 59 (pm_tn 55 (pm_tl 54 (s_aload 0 55)) (pm_tn 58 (pm_tl 55 (s_getR 7 11 58)) (pm_tl 58 (s_iload 3 59)))) (pm_tn 60 (pm_tl 59 (s_iald 60)) (pm_tn 61 (pm_tl 60 (s_iald 61)) (pm_tl 61 (s_iret))))))))
theorem tc_M_endOf : ∀ pc, pm_Ct (t_M_endOf pc) := (ct_tn (ct_tn (ct_tn (ct_tn (ct_tn (ct_tl (ct_aload _ _)) (ct_tl (ct_getR _ _ _))) (ct_tn (ct_tl (ct_iload _ _)) (ct_tn (ct_tl (ct_iald _)) (ct_tl (ct_istore _ _))))) (ct_tn (ct_tn (ct_tl (ct_iload _ _)) (ct_tl (ct_ifne _ _))) (ct_tn (ct_tl (ct_aload _ _)) (ct_tn (ct_tl (ct_getR _ _ _)) (ct_tl (ct_iload _ _)))))) (ct_tn (ct_tn (ct_tn (ct_tl (ct_iald _)) (ct_tl (ct_iret))) (ct_tn (ct_tl (ct_push _ _)) (ct_tn (ct_tl (ct_iload _ _)) (ct_tl (ct_imul _))))) (ct_tn (ct_tn (ct_tl (ct_iload _ _)) (ct_tl (ct_iadd _))) (ct_tn (ct_tl (ct_push _ _)) (ct_tn (ct_tl (ct_isub _)) (ct_tl (ct_istore _ _))))))) (ct_tn (ct_tn (ct_tn (ct_tn (ct_tl (ct_aload _ _)) (ct_tl (ct_getR _ _ _))) (ct_tn (ct_tl (ct_iload _ _)) (ct_tn (ct_tl (ct_zald _)) (ct_tl (ct_ifeq _ _))))) (ct_tn (ct_tn (ct_tl (ct_aload _ _)) (ct_tl (ct_getR _ _ _))) (ct_tn (ct_tl (ct_aload _ _)) (ct_tn (ct_tl (ct_getR _ _ _)) (ct_tl (ct_iload _ _)))))) (ct_tn (ct_tn (ct_tn (ct_tl (ct_iald _)) (ct_tl (ct_iald _))) (ct_tn (ct_tl (ct_goto _)) (ct_tn (ct_tl (ct_aload _ _)) (ct_tl (ct_getR _ _ _))))) (ct_tn (ct_tn (ct_tl (ct_aload _ _)) (ct_tn (ct_tl (ct_getR _ _ _)) (ct_tl (ct_iload _ _)))) (ct_tn (ct_tl (ct_iald _)) (ct_tn (ct_tl (ct_iald _)) (ct_tl (ct_iret))))))))
def t_M_step : Nat → pm_S := (pm_tn 63 (pm_tn 32 (pm_tn 17 (pm_tn 8 (pm_tn 2 (pm_tn 1 (pm_tl 0 (s_aload 0 1)) (pm_tl 1 (s_iload 1 2))) (pm_tn 5 (pm_tl 2 (s_call 109 2 0 7 1 (fun _ => 1) 5)) (pm_tl 5 (s_ifeq 16 8)))) (pm_tn 10 (pm_tn 9 (pm_tl 8 (s_aload 0 9)) (pm_tl 9 (s_iload 2 10))) (pm_tn 13 (pm_tl 10 (s_call 108 2 0 7 1 (fun _ => 1) 13)) (pm_tn 16 (pm_tl 13 (s_ifne 18 16)) (pm_tl 16 (s_push (-1) 17)))))) (pm_tn 23 (pm_tn 19 (pm_tn 18 (pm_tl 17 (s_iret)) (pm_tl 18 (s_iload 3 19))) (pm_tn 22 (pm_tl 19 (s_ifeq 31 22)) (pm_tl 22 (s_aload 0 23)))) (pm_tn 27 (pm_tn 26 (pm_tl 23 (s_getR 7 6 26)) (pm_tl 26 (s_iload 2 27))) (pm_tn 28 (pm_tl 27 (s_iald 28)) (pm_tn 31 (pm_tl 28 (s_goto 37)) (pm_tl 31 (s_aload 0 32))))))) (pm_tn 48 (pm_tn 38 (pm_tn 36 (pm_tn 35 (pm_tl 32 (s_getR 7 5 35)) (pm_tl 35 (s_iload 2 36))) (pm_tn 37 (pm_tl 36 (s_iald 37)) (pm_tl 37 (s_aload 0 38)))) (pm_tn 42 (pm_tn 39 (pm_tl 38 (s_iload 1 39)) (pm_tl 39 (s_call 114 2 2 7 1 (fun _ => 0) 42))) (pm_tn 45 (pm_tl 42 (s_ceq 48 45)) (pm_tn 47 (pm_tl 45 (s_push (-2) 47)) (pm_tl 47 (s_iret)))))) (pm_tn 54 (pm_tn 52 (pm_tn 49 (pm_tl 48 (s_aload 0 49)) (pm_tl 49 (s_getR 7 10 52))) (pm_tn 53 (pm_tl 52 (s_iload 1 53)) (pm_tl 53 (s_iald 54)))) (pm_tn 59 (pm_tn 56 (pm_tl 54 (s_push 6 56)) (pm_tl 56 (s_cne 62 59))) (pm_tn 61 (pm_tl 59 (s_push (-3) 61)) (pm_tn 62 (pm_tl 61 (s_iret)) (pm_tl 62 (s_aload 0 63)))))))) (pm_tn 91 (pm_tn 77 (pm_tn 70 (pm_tn 68 (pm_tn 66 (pm_tl 63 (s_getR 7 11 66)) (pm_tl 66 (s_push 6 68))) (pm_tn 69 (pm_tl 68 (s_iload 1 69)) (pm_tl 69 (s_imul 70)))) (pm_tn 74 (pm_tn 71 (pm_tl 70 (s_aload 0 71)) (pm_tl 71 (s_getR 7 10 74))) (pm_tn 75 (pm_tl 74 (s_iload 1 75)) (pm_tn 76 (pm_tl 75 (s_iald 76)) (pm_tl 76 (s_iadd 77)))))) (pm_tn 83 (pm_tn 79 (pm_tn 78 (pm_tl 77 (s_iload 2 78)) (pm_tl 78 (s_iast 79))) (pm_tn 80 (pm_tl 79 (s_aload 0 80)) (pm_tl 80 (s_getR 7 12 83)))) (pm_tn 86 (pm_tn 85 (pm_tl 83 (s_push 6 85)) (pm_tl 85 (s_iload 1 86))) (pm_tn 87 (pm_tl 86 (s_imul 87)) (pm_tn 88 (pm_tl 87 (s_aload 0 88)) (pm_tl 88 (s_getR 7 10 91))))))) (pm_tn 102 (pm_tn 95 (pm_tn 93 (pm_tn 92 (pm_tl 91 (s_iload 1 92)) (pm_tl 92 (s_iald 93))) (pm_tn 94 (pm_tl 93 (s_iadd 94)) (pm_tl 94 (s_iload 3 95)))) (pm_tn 97 (pm_tn 96 (pm_tl 95 (s_zast 96)) (pm_tl 96 (s_aload 0 97))) (pm_tn 100 (pm_tl 97 (s_getR 7 10 100)) (pm_tn 101 (pm_tl 100 (s_iload 1 101)) (pm_tl 101 (s_dup2 102)))))) (pm_tn 106 (pm_tn 104 (pm_tn 103 (pm_tl 102 (s_iald 103)) (pm_tl 103 (s_push 1 104))) (pm_tn 105 (pm_tl 104 (s_iadd 105)) (pm_tl 105 (s_iast 106)))) (pm_tn 110 (pm_tn 107 (pm_tl 106 (s_aload 0 107)) (pm_tl 107 (s_getR 7 10 110))) (pm_tn 111 (pm_tl 110 (s_iload 1 111)) (pm_tn 112 (pm_tl 111 (s_iald 112)) (pm_tl 112 (s_iret)))))))))
theorem tc_M_step : ∀ pc, pm_Ct (t_M_step pc) := (ct_tn (ct_tn (ct_tn (ct_tn (ct_tn (ct_tn (ct_tl (ct_aload _ _)) (ct_tl (ct_iload _ _))) (ct_tn (ct_tl (ct_call _ _ _ _ _ _ _)) (ct_tl (ct_ifeq _ _)))) (ct_tn (ct_tn (ct_tl (ct_aload _ _)) (ct_tl (ct_iload _ _))) (ct_tn (ct_tl (ct_call _ _ _ _ _ _ _)) (ct_tn (ct_tl (ct_ifne _ _)) (ct_tl (ct_push _ _)))))) (ct_tn (ct_tn (ct_tn (ct_tl (ct_iret)) (ct_tl (ct_iload _ _))) (ct_tn (ct_tl (ct_ifeq _ _)) (ct_tl (ct_aload _ _)))) (ct_tn (ct_tn (ct_tl (ct_getR _ _ _)) (ct_tl (ct_iload _ _))) (ct_tn (ct_tl (ct_iald _)) (ct_tn (ct_tl (ct_goto _)) (ct_tl (ct_aload _ _))))))) (ct_tn (ct_tn (ct_tn (ct_tn (ct_tl (ct_getR _ _ _)) (ct_tl (ct_iload _ _))) (ct_tn (ct_tl (ct_iald _)) (ct_tl (ct_aload _ _)))) (ct_tn (ct_tn (ct_tl (ct_iload _ _)) (ct_tl (ct_call _ _ _ _ _ _ _))) (ct_tn (ct_tl (ct_ceq _ _)) (ct_tn (ct_tl (ct_push _ _)) (ct_tl (ct_iret)))))) (ct_tn (ct_tn (ct_tn (ct_tl (ct_aload _ _)) (ct_tl (ct_getR _ _ _))) (ct_tn (ct_tl (ct_iload _ _)) (ct_tl (ct_iald _)))) (ct_tn (ct_tn (ct_tl (ct_push _ _)) (ct_tl (ct_cne _ _))) (ct_tn (ct_tl (ct_push _ _)) (ct_tn (ct_tl (ct_iret)) (ct_tl (ct_aload _ _)))))))) (ct_tn (ct_tn (ct_tn (ct_tn (ct_tn (ct_tl (ct_getR _ _ _)) (ct_tl (ct_push _ _))) (ct_tn (ct_tl (ct_iload _ _)) (ct_tl (ct_imul _)))) (ct_tn (ct_tn (ct_tl (ct_aload _ _)) (ct_tl (ct_getR _ _ _))) (ct_tn (ct_tl (ct_iload _ _)) (ct_tn (ct_tl (ct_iald _)) (ct_tl (ct_iadd _)))))) (ct_tn (ct_tn (ct_tn (ct_tl (ct_iload _ _)) (ct_tl (ct_iast _))) (ct_tn (ct_tl (ct_aload _ _)) (ct_tl (ct_getR _ _ _)))) (ct_tn (ct_tn (ct_tl (ct_push _ _)) (ct_tl (ct_iload _ _))) (ct_tn (ct_tl (ct_imul _)) (ct_tn (ct_tl (ct_aload _ _)) (ct_tl (ct_getR _ _ _))))))) (ct_tn (ct_tn (ct_tn (ct_tn (ct_tl (ct_iload _ _)) (ct_tl (ct_iald _))) (ct_tn (ct_tl (ct_iadd _)) (ct_tl (ct_iload _ _)))) (ct_tn (ct_tn (ct_tl (ct_zast _)) (ct_tl (ct_aload _ _))) (ct_tn (ct_tl (ct_getR _ _ _)) (ct_tn (ct_tl (ct_iload _ _)) (ct_tl (ct_dup2 _)))))) (ct_tn (ct_tn (ct_tn (ct_tl (ct_iald _)) (ct_tl (ct_push _ _))) (ct_tn (ct_tl (ct_iadd _)) (ct_tl (ct_iast _)))) (ct_tn (ct_tn (ct_tl (ct_aload _ _)) (ct_tl (ct_getR _ _ _))) (ct_tn (ct_tl (ct_iload _ _)) (ct_tn (ct_tl (ct_iald _)) (ct_tl (ct_iret)))))))))
def t_M_counts : Nat → pm_S := (pm_tn 19 (pm_tn 9 (pm_tn 2 (pm_tn 1 (pm_tl 0 (s_aload 0 1)) (pm_tl 1 (s_iload 1 2))) (pm_tn 5 (pm_tl 2 (s_call 109 2 0 7 1 (fun _ => 1) 5)) (pm_tn 8 (pm_tl 5 (s_ifne 10 8)) (pm_tl 8 (s_push (-1) 9))))) (pm_tn 14 (pm_tn 10 (pm_tl 9 (s_iret)) (pm_tn 11 (pm_tl 10 (s_aload 0 11)) (pm_tl 11 (s_getR 7 13 14)))) (pm_tn 15 (pm_tl 14 (s_iload 1 15)) (pm_tn 16 (pm_tl 15 (s_zald 16)) (pm_tl 16 (s_ifeq 23 19)))))) (pm_tn 26 (pm_tn 23 (pm_tn 20 (pm_tl 19 (s_push 1 20)) (pm_tl 20 (s_goto 24))) (pm_tn 24 (pm_tl 23 (s_push 0 24)) (pm_tn 25 (pm_tl 24 (s_istore 3 25)) (pm_tl 25 (s_aload 0 26))))) (pm_tn 31 (pm_tn 29 (pm_tl 26 (s_getR 7 13 29)) (pm_tn 30 (pm_tl 29 (s_iload 1 30)) (pm_tl 30 (s_iload 2 31)))) (pm_tn 32 (pm_tl 31 (s_zast 32)) (pm_tn 33 (pm_tl 32 (s_iload 3 33)) (pm_tl 33 (s_iret)))))))
theorem tc_M_counts : ∀ pc, pm_Ct (t_M_counts pc) := (ct_tn (ct_tn (ct_tn (ct_tn (ct_tl (ct_aload _ _)) (ct_tl (ct_iload _ _))) (ct_tn (ct_tl (ct_call _ _ _ _ _ _ _)) (ct_tn (ct_tl (ct_ifne _ _)) (ct_tl (ct_push _ _))))) (ct_tn (ct_tn (ct_tl (ct_iret)) (ct_tn (ct_tl (ct_aload _ _)) (ct_tl (ct_getR _ _ _)))) (ct_tn (ct_tl (ct_iload _ _)) (ct_tn (ct_tl (ct_zald _)) (ct_tl (ct_ifeq _ _)))))) (ct_tn (ct_tn (ct_tn (ct_tl (ct_push _ _)) (ct_tl (ct_goto _))) (ct_tn (ct_tl (ct_push _ _)) (ct_tn (ct_tl (ct_istore _ _)) (ct_tl (ct_aload _ _))))) (ct_tn (ct_tn (ct_tl (ct_getR _ _ _)) (ct_tn (ct_tl (ct_iload _ _)) (ct_tl (ct_iload _ _)))) (ct_tn (ct_tl (ct_zast _)) (ct_tn (ct_tl (ct_iload _ _)) (ct_tl (ct_iret)))))))
def t_M_isClosed : Nat → pm_S := (pm_tn 14 (pm_tn 6 (pm_tn 4 (pm_tn 1 (pm_tl 0 (s_aload 0 1)) (pm_tl 1 (s_getR 7 10 4))) (pm_tn 5 (pm_tl 4 (s_iload 1 5)) (pm_tl 5 (s_iald 6)))) (pm_tn 10 (pm_tn 9 (pm_tl 6 (s_ifle 27 9)) (pm_tl 9 (s_aload 0 10))) (pm_tn 11 (pm_tl 10 (s_iload 1 11)) (pm_tl 11 (s_call 114 2 2 7 1 (fun _ => 0) 14))))) (pm_tn 20 (pm_tn 18 (pm_tn 15 (pm_tl 14 (s_aload 0 15)) (pm_tl 15 (s_getR 7 9 18))) (pm_tn 19 (pm_tl 18 (s_iload 1 19)) (pm_tl 19 (s_iald 20)))) (pm_tn 24 (pm_tn 23 (pm_tl 20 (s_cne 27 23)) (pm_tl 23 (s_push 1 24))) (pm_tn 27 (pm_tl 24 (s_goto 28)) (pm_tn 28 (pm_tl 27 (s_push 0 28)) (pm_tl 28 (s_zret)))))))
theorem tc_M_isClosed : ∀ pc, pm_Ct (t_M_isClosed pc) := (ct_tn (ct_tn (ct_tn (ct_tn (ct_tl (ct_aload _ _)) (ct_tl (ct_getR _ _ _))) (ct_tn (ct_tl (ct_iload _ _)) (ct_tl (ct_iald _)))) (ct_tn (ct_tn (ct_tl (ct_ifle _ _)) (ct_tl (ct_aload _ _))) (ct_tn (ct_tl (ct_iload _ _)) (ct_tl (ct_call _ _ _ _ _ _ _))))) (ct_tn (ct_tn (ct_tn (ct_tl (ct_aload _ _)) (ct_tl (ct_getR _ _ _))) (ct_tn (ct_tl (ct_iload _ _)) (ct_tl (ct_iald _)))) (ct_tn (ct_tn (ct_tl (ct_cne _ _)) (ct_tl (ct_push _ _))) (ct_tn (ct_tl (ct_goto _)) (ct_tn (ct_tl (ct_push _ _)) (ct_tl (ct_zret)))))))
def t_M_takeLines : Nat → pm_S := (pm_tn 13 (pm_tn 5 (pm_tn 2 (pm_tn 1 (pm_tl 0 (s_push 0 1)) (pm_tl 1 (s_K 2 [true, true] (s_istore 1 2)))) (pm_tn 3 (pm_tl 2 (s_iload 1 3)) (pm_tl 3 (s_push 10 5)))) (pm_tn 9 (pm_tn 8 (pm_tl 5 (s_cge 26 8)) (pm_tl 8 (s_aload 0 9))) (pm_tn 12 (pm_tl 9 (s_getR 7 20 12)) (pm_tl 12 (s_iload 1 13))))) (pm_tn 19 (pm_tn 17 (pm_tn 14 (pm_tl 13 (s_aload 0 14)) (pm_tl 14 (s_getR 7 7 17))) (pm_tn 18 (pm_tl 17 (s_iload 1 18)) (pm_tl 18 (s_iald 19)))) (pm_tn 23 (pm_tn 20 (pm_tl 19 (s_iast 20)) (pm_tl 20 (s_iinc 1 1 23))) (pm_tn 26 (pm_tl 23 (s_K 2 [true, true] (s_goto 2))) (pm_tl 26 (s_vret))))))
theorem tc_M_takeLines : ∀ pc, pm_Ct (t_M_takeLines pc) := (ct_tn (ct_tn (ct_tn (ct_tn (ct_tl (ct_push _ _)) (ct_tl (ct_K (ct_istore _ _)))) (ct_tn (ct_tl (ct_iload _ _)) (ct_tl (ct_push _ _)))) (ct_tn (ct_tn (ct_tl (ct_cge _ _)) (ct_tl (ct_aload _ _))) (ct_tn (ct_tl (ct_getR _ _ _)) (ct_tl (ct_iload _ _))))) (ct_tn (ct_tn (ct_tn (ct_tl (ct_aload _ _)) (ct_tl (ct_getR _ _ _))) (ct_tn (ct_tl (ct_iload _ _)) (ct_tl (ct_iald _)))) (ct_tn (ct_tn (ct_tl (ct_iast _)) (ct_tl (ct_iinc _ _ _))) (ct_tn (ct_tl (ct_K (ct_goto _))) (ct_tl (ct_vret))))))
def t_M_turnOf : Nat → pm_S := (pm_tn 31 (pm_tn 12 (pm_tn 6 (pm_tn 2 (pm_tn 1 (pm_tl 0 (s_push 0 1)) (pm_tl 1 (s_istore 2 2))) (pm_tn 4 (pm_tl 2 (s_push 6 4)) (pm_tn 5 (pm_tl 4 (s_iload 1 5)) (pm_tl 5 (s_imul 6))))) (pm_tn 8 (pm_tn 7 (pm_tl 6 (s_K 7 [true, true, true, true, false] (s_istore 3 7))) (pm_tl 7 (s_iload 3 8))) (pm_tn 10 (pm_tl 8 (s_push 6 10)) (pm_tn 11 (pm_tl 10 (s_iload 1 11)) (pm_tl 11 (s_imul 12)))))) (pm_tn 19 (pm_tn 16 (pm_tn 13 (pm_tl 12 (s_aload 0 13)) (pm_tl 13 (s_getR 7 10 16))) (pm_tn 17 (pm_tl 16 (s_iload 1 17)) (pm_tn 18 (pm_tl 17 (s_iald 18)) (pm_tl 18 (s_iadd 19))))) (pm_tn 26 (pm_tn 22 (pm_tl 19 (s_cge 68 22)) (pm_tn 23 (pm_tl 22 (s_aload 0 23)) (pm_tl 23 (s_getR 7 20 26)))) (pm_tn 27 (pm_tl 26 (s_aload 0 27)) (pm_tn 30 (pm_tl 27 (s_getR 7 11 30)) (pm_tl 30 (s_iload 3 31))))))) (pm_tn 47 (pm_tn 37 (pm_tn 33 (pm_tn 32 (pm_tl 31 (s_iald 32)) (pm_tl 32 (s_iald 33))) (pm_tn 35 (pm_tl 33 (s_istore 4 35)) (pm_tn 36 (pm_tl 35 (s_aload 0 36)) (pm_tl 36 (s_iload 2 37))))) (pm_tn 42 (pm_tn 38 (pm_tl 37 (s_aload 0 38)) (pm_tn 41 (pm_tl 38 (s_getR 7 12 41)) (pm_tl 41 (s_iload 3 42)))) (pm_tn 43 (pm_tl 42 (s_zald 43)) (pm_tn 46 (pm_tl 43 (s_ifeq 56 46)) (pm_tl 46 (s_aload 0 47)))))) (pm_tn 58 (pm_tn 52 (pm_tn 50 (pm_tl 47 (s_getR 7 21 50)) (pm_tl 50 (s_iload 4 52))) (pm_tn 53 (pm_tl 52 (s_iald 53)) (pm_tn 56 (pm_tl 53 (s_goto 58)) (pm_tl 56 (s_iload 4 58))))) (pm_tn 65 (pm_tn 61 (pm_tl 58 (s_call 94 3 0 7 1 (fun _ => 0) 61)) (pm_tn 62 (pm_tl 61 (s_istore 2 62)) (pm_tl 62 (s_iinc 3 1 65)))) (pm_tn 68 (pm_tl 65 (s_K 7 [true, true, true, true, false] (s_goto 7))) (pm_tn 69 (pm_tl 68 (s_iload 2 69)) (pm_tl 69 (s_iret))))))))
theorem tc_M_turnOf : ∀ pc, pm_Ct (t_M_turnOf pc) := (ct_tn (ct_tn (ct_tn (ct_tn (ct_tn (ct_tl (ct_push _ _)) (ct_tl (ct_istore _ _))) (ct_tn (ct_tl (ct_push _ _)) (ct_tn (ct_tl (ct_iload _ _)) (ct_tl (ct_imul _))))) (ct_tn (ct_tn (ct_tl (ct_K (ct_istore _ _))) (ct_tl (ct_iload _ _))) (ct_tn (ct_tl (ct_push _ _)) (ct_tn (ct_tl (ct_iload _ _)) (ct_tl (ct_imul _)))))) (ct_tn (ct_tn (ct_tn (ct_tl (ct_aload _ _)) (ct_tl (ct_getR _ _ _))) (ct_tn (ct_tl (ct_iload _ _)) (ct_tn (ct_tl (ct_iald _)) (ct_tl (ct_iadd _))))) (ct_tn (ct_tn (ct_tl (ct_cge _ _)) (ct_tn (ct_tl (ct_aload _ _)) (ct_tl (ct_getR _ _ _)))) (ct_tn (ct_tl (ct_aload _ _)) (ct_tn (ct_tl (ct_getR _ _ _)) (ct_tl (ct_iload _ _))))))) (ct_tn (ct_tn (ct_tn (ct_tn (ct_tl (ct_iald _)) (ct_tl (ct_iald _))) (ct_tn (ct_tl (ct_istore _ _)) (ct_tn (ct_tl (ct_aload _ _)) (ct_tl (ct_iload _ _))))) (ct_tn (ct_tn (ct_tl (ct_aload _ _)) (ct_tn (ct_tl (ct_getR _ _ _)) (ct_tl (ct_iload _ _)))) (ct_tn (ct_tl (ct_zald _)) (ct_tn (ct_tl (ct_ifeq _ _)) (ct_tl (ct_aload _ _)))))) (ct_tn (ct_tn (ct_tn (ct_tl (ct_getR _ _ _)) (ct_tl (ct_iload _ _))) (ct_tn (ct_tl (ct_iald _)) (ct_tn (ct_tl (ct_goto _)) (ct_tl (ct_iload _ _))))) (ct_tn (ct_tn (ct_tl (ct_call _ _ _ _ _ _ _)) (ct_tn (ct_tl (ct_istore _ _)) (ct_tl (ct_iinc _ _ _)))) (ct_tn (ct_tl (ct_K (ct_goto _))) (ct_tn (ct_tl (ct_iload _ _)) (ct_tl (ct_iret))))))))
def t_M_layBacks : Nat → pm_S := (pm_tn 14 (pm_tn 4 (pm_tn 2 (pm_tn 1 (pm_tl 0 (s_push 0 1)) (pm_tl 1 (s_K 2 [true, true] (s_istore 1 2)))) (pm_tn 3 (pm_tl 2 (s_iload 1 3)) (pm_tl 3 (s_aload 0 4)))) (pm_tn 10 (pm_tn 7 (pm_tl 4 (s_getI 7 0 7)) (pm_tl 7 (s_cge 27 10))) (pm_tn 11 (pm_tl 10 (s_aload 0 11)) (pm_tl 11 (s_getR 7 21 14))))) (pm_tn 20 (pm_tn 16 (pm_tn 15 (pm_tl 14 (s_iload 1 15)) (pm_tl 15 (s_aload 0 16))) (pm_tn 17 (pm_tl 16 (s_iload 1 17)) (pm_tl 17 (s_call 95 2 1 7 1 (fun _ => 1) 20)))) (pm_tn 24 (pm_tn 21 (pm_tl 20 (s_iast 21)) (pm_tl 21 (s_iinc 1 1 24))) (pm_tn 27 (pm_tl 24 (s_K 2 [true, true] (s_goto 2))) (pm_tl 27 (s_vret))))))
theorem tc_M_layBacks : ∀ pc, pm_Ct (t_M_layBacks pc) := (ct_tn (ct_tn (ct_tn (ct_tn (ct_tl (ct_push _ _)) (ct_tl (ct_K (ct_istore _ _)))) (ct_tn (ct_tl (ct_iload _ _)) (ct_tl (ct_aload _ _)))) (ct_tn (ct_tn (ct_tl (ct_getI _ _ _)) (ct_tl (ct_cge _ _))) (ct_tn (ct_tl (ct_aload _ _)) (ct_tl (ct_getR _ _ _))))) (ct_tn (ct_tn (ct_tn (ct_tl (ct_iload _ _)) (ct_tl (ct_aload _ _))) (ct_tn (ct_tl (ct_iload _ _)) (ct_tl (ct_call _ _ _ _ _ _ _)))) (ct_tn (ct_tn (ct_tl (ct_iast _)) (ct_tl (ct_iinc _ _ _))) (ct_tn (ct_tl (ct_K (ct_goto _))) (ct_tl (ct_vret))))))
def t_M_told : Nat → pm_S := (pm_tn 50 (pm_tn 26 (pm_tn 11 (pm_tn 5 (pm_tn 1 (pm_tl 0 (s_aload 0 1)) (pm_tn 2 (pm_tl 1 (s_iload 1 2)) (pm_tl 2 (s_call 109 2 0 7 1 (fun _ => 1) 5)))) (pm_tn 9 (pm_tn 8 (pm_tl 5 (s_ifeq 20 8)) (pm_tl 8 (s_iload 2 9))) (pm_tn 10 (pm_tl 9 (s_i2l 10)) (pm_tl 10 (s_lpush 0 11))))) (pm_tn 20 (pm_tn 14 (pm_tl 11 (s_lpush 4 14)) (pm_tn 17 (pm_tl 14 (s_call 92 3 0 99 1 (fun _ => 0) 17)) (pm_tl 17 (s_ifne 22 20)))) (pm_tn 22 (pm_tn 21 (pm_tl 20 (s_push (-1) 21)) (pm_tl 21 (s_iret))) (pm_tn 23 (pm_tl 22 (s_aload 0 23)) (pm_tl 23 (s_call 120 1 1 7 0 (fun _ => 2) 26)))))) (pm_tn 39 (pm_tn 31 (pm_tn 27 (pm_tl 26 (s_aload 0 27)) (pm_tn 30 (pm_tl 27 (s_call 118 1 1 7 0 (fun _ => 0) 30)) (pm_tl 30 (s_iload 2 31)))) (pm_tn 35 (pm_tn 34 (pm_tl 31 (s_ifne 43 34)) (pm_tl 34 (s_aload 0 35))) (pm_tn 38 (pm_tl 35 (s_getR 7 10 38)) (pm_tl 38 (s_iload 1 39))))) (pm_tn 44 (pm_tn 40 (pm_tl 39 (s_iald 40)) (pm_tn 43 (pm_tl 40 (s_goto 104)) (pm_tl 43 (s_iload 2 44)))) (pm_tn 48 (pm_tn 45 (pm_tl 44 (s_push 1 45)) (pm_tl 45 (s_cne 56 48))) (pm_tn 49 (pm_tl 48 (s_aload 0 49)) (pm_tl 49 (s_iload 1 50))))))) (pm_tn 78 (pm_tn 63 (pm_tn 57 (pm_tn 53 (pm_tl 50 (s_call 114 2 2 7 1 (fun _ => 0) 53)) (pm_tn 56 (pm_tl 53 (s_goto 104)) (pm_tl 56 (s_iload 2 57)))) (pm_tn 61 (pm_tn 58 (pm_tl 57 (s_push 2 58)) (pm_tl 58 (s_cne 77 61))) (pm_tn 62 (pm_tl 61 (s_aload 0 62)) (pm_tl 62 (s_iload 1 63))))) (pm_tn 70 (pm_tn 66 (pm_tl 63 (s_call 117 2 0 7 1 (fun _ => 1) 66)) (pm_tn 69 (pm_tl 66 (s_ifeq 73 69)) (pm_tl 69 (s_push 1 70)))) (pm_tn 74 (pm_tn 73 (pm_tl 70 (s_goto 104)) (pm_tl 73 (s_push 0 74))) (pm_tn 77 (pm_tl 74 (s_goto 104)) (pm_tl 77 (s_iload 2 78)))))) (pm_tn 91 (pm_tn 83 (pm_tn 79 (pm_tl 78 (s_push 3 79)) (pm_tn 82 (pm_tl 79 (s_cne 90 82)) (pm_tl 82 (s_aload 0 83)))) (pm_tn 87 (pm_tn 84 (pm_tl 83 (s_iload 1 84)) (pm_tl 84 (s_call 119 2 3 7 1 (fun _ => 1) 87))) (pm_tn 90 (pm_tl 87 (s_goto 104)) (pm_tl 90 (s_aload 0 91))))) (pm_tn 99 (pm_tn 95 (pm_tn 94 (pm_tl 91 (s_getR 7 13 94)) (pm_tl 94 (s_iload 1 95))) (pm_tn 96 (pm_tl 95 (s_zald 96)) (pm_tl 96 (s_ifeq 103 99)))) (pm_tn 103 (pm_tn 100 (pm_tl 99 (s_push 1 100)) (pm_tl 100 (s_goto 104))) (pm_tn 104 (pm_tl 103 (s_push 0 104)) (pm_tl 104 (s_iret))))))))
theorem tc_M_told : ∀ pc, pm_Ct (t_M_told pc) := (ct_tn (ct_tn (ct_tn (ct_tn (ct_tn (ct_tl (ct_aload _ _)) (ct_tn (ct_tl (ct_iload _ _)) (ct_tl (ct_call _ _ _ _ _ _ _)))) (ct_tn (ct_tn (ct_tl (ct_ifeq _ _)) (ct_tl (ct_iload _ _))) (ct_tn (ct_tl (ct_i2l _)) (ct_tl (ct_lpush _ _))))) (ct_tn (ct_tn (ct_tl (ct_lpush _ _)) (ct_tn (ct_tl (ct_call _ _ _ _ _ _ _)) (ct_tl (ct_ifne _ _)))) (ct_tn (ct_tn (ct_tl (ct_push _ _)) (ct_tl (ct_iret))) (ct_tn (ct_tl (ct_aload _ _)) (ct_tl (ct_call _ _ _ _ _ _ _)))))) (ct_tn (ct_tn (ct_tn (ct_tl (ct_aload _ _)) (ct_tn (ct_tl (ct_call _ _ _ _ _ _ _)) (ct_tl (ct_iload _ _)))) (ct_tn (ct_tn (ct_tl (ct_ifne _ _)) (ct_tl (ct_aload _ _))) (ct_tn (ct_tl (ct_getR _ _ _)) (ct_tl (ct_iload _ _))))) (ct_tn (ct_tn (ct_tl (ct_iald _)) (ct_tn (ct_tl (ct_goto _)) (ct_tl (ct_iload _ _)))) (ct_tn (ct_tn (ct_tl (ct_push _ _)) (ct_tl (ct_cne _ _))) (ct_tn (ct_tl (ct_aload _ _)) (ct_tl (ct_iload _ _))))))) (ct_tn (ct_tn (ct_tn (ct_tn (ct_tl (ct_call _ _ _ _ _ _ _)) (ct_tn (ct_tl (ct_goto _)) (ct_tl (ct_iload _ _)))) (ct_tn (ct_tn (ct_tl (ct_push _ _)) (ct_tl (ct_cne _ _))) (ct_tn (ct_tl (ct_aload _ _)) (ct_tl (ct_iload _ _))))) (ct_tn (ct_tn (ct_tl (ct_call _ _ _ _ _ _ _)) (ct_tn (ct_tl (ct_ifeq _ _)) (ct_tl (ct_push _ _)))) (ct_tn (ct_tn (ct_tl (ct_goto _)) (ct_tl (ct_push _ _))) (ct_tn (ct_tl (ct_goto _)) (ct_tl (ct_iload _ _)))))) (ct_tn (ct_tn (ct_tn (ct_tl (ct_push _ _)) (ct_tn (ct_tl (ct_cne _ _)) (ct_tl (ct_aload _ _)))) (ct_tn (ct_tn (ct_tl (ct_iload _ _)) (ct_tl (ct_call _ _ _ _ _ _ _))) (ct_tn (ct_tl (ct_goto _)) (ct_tl (ct_aload _ _))))) (ct_tn (ct_tn (ct_tn (ct_tl (ct_getR _ _ _)) (ct_tl (ct_iload _ _))) (ct_tn (ct_tl (ct_zald _)) (ct_tl (ct_ifeq _ _)))) (ct_tn (ct_tn (ct_tl (ct_push _ _)) (ct_tl (ct_goto _))) (ct_tn (ct_tl (ct_push _ _)) (ct_tl (ct_iret))))))))
def t_M_drop : Nat → pm_S := (pm_tn 12 (pm_tn 7 (pm_tn 1 (pm_tl 0 (s_aload 0 1)) (pm_tn 4 (pm_tl 1 (s_getI 7 8 4)) (pm_tl 4 (s_ifne 10 7)))) (pm_tn 10 (pm_tn 9 (pm_tl 7 (s_push (-4) 9)) (pm_tl 9 (s_iret))) (pm_tn 11 (pm_tl 10 (s_aload 0 11)) (pm_tl 11 (s_dup 12))))) (pm_tn 17 (pm_tn 15 (pm_tl 12 (s_getI 7 8 15)) (pm_tn 16 (pm_tl 15 (s_push 1 16)) (pm_tl 16 (s_isub 17)))) (pm_tn 21 (pm_tn 20 (pm_tl 17 (s_putI 7 8 20)) (pm_tl 20 (s_aload 0 21))) (pm_tn 24 (pm_tl 21 (s_getI 7 8 24)) (pm_tl 24 (s_iret))))))
theorem tc_M_drop : ∀ pc, pm_Ct (t_M_drop pc) := (ct_tn (ct_tn (ct_tn (ct_tl (ct_aload _ _)) (ct_tn (ct_tl (ct_getI _ _ _)) (ct_tl (ct_ifne _ _)))) (ct_tn (ct_tn (ct_tl (ct_push _ _)) (ct_tl (ct_iret))) (ct_tn (ct_tl (ct_aload _ _)) (ct_tl (ct_dup _))))) (ct_tn (ct_tn (ct_tl (ct_getI _ _ _)) (ct_tn (ct_tl (ct_push _ _)) (ct_tl (ct_isub _)))) (ct_tn (ct_tn (ct_tl (ct_putI _ _ _)) (ct_tl (ct_aload _ _))) (ct_tn (ct_tl (ct_getI _ _ _)) (ct_tl (ct_iret))))))
def t_M_record : Nat → pm_S := (pm_tn 49 (pm_tn 25 (pm_tn 12 (pm_tn 6 (pm_tn 1 (pm_tl 0 (s_aload 0 1)) (pm_tn 4 (pm_tl 1 (s_getI 7 14 4)) (pm_tl 4 (s_push 8 6)))) (pm_tn 9 (pm_tl 6 (s_cne 49 9)) (pm_tn 11 (pm_tl 9 (s_push 10 11)) (pm_tl 11 (s_K 12 [true, true] (s_istore 1 12)))))) (pm_tn 18 (pm_tn 13 (pm_tl 12 (s_iload 1 13)) (pm_tn 15 (pm_tl 13 (s_push 80 15)) (pm_tl 15 (s_cge 39 18)))) (pm_tn 22 (pm_tn 19 (pm_tl 18 (s_aload 0 19)) (pm_tl 19 (s_getR 7 15 22))) (pm_tn 23 (pm_tl 22 (s_iload 1 23)) (pm_tl 23 (s_push 10 25)))))) (pm_tn 36 (pm_tn 30 (pm_tn 26 (pm_tl 25 (s_isub 26)) (pm_tn 27 (pm_tl 26 (s_aload 0 27)) (pm_tl 27 (s_getR 7 15 30)))) (pm_tn 32 (pm_tn 31 (pm_tl 30 (s_iload 1 31)) (pm_tl 31 (s_iald 32))) (pm_tn 33 (pm_tl 32 (s_iast 33)) (pm_tl 33 (s_iinc 1 1 36))))) (pm_tn 41 (pm_tn 39 (pm_tl 36 (s_K 12 [true, true] (s_goto 12))) (pm_tn 40 (pm_tl 39 (s_aload 0 40)) (pm_tl 40 (s_dup 41)))) (pm_tn 45 (pm_tn 44 (pm_tl 41 (s_getI 7 14 44)) (pm_tl 44 (s_push 1 45))) (pm_tn 46 (pm_tl 45 (s_isub 46)) (pm_tl 46 (s_putI 7 14 49))))))) (pm_tn 70 (pm_tn 58 (pm_tn 52 (pm_tn 50 (pm_tl 49 (s_push 0 50)) (pm_tn 51 (pm_tl 50 (s_K 51 [true, true] (s_istore 1 51))) (pm_tl 51 (s_iload 1 52)))) (pm_tn 54 (pm_tl 52 (s_push 10 54)) (pm_tn 57 (pm_tl 54 (s_cge 83 57)) (pm_tl 57 (s_aload 0 58))))) (pm_tn 64 (pm_tn 61 (pm_tl 58 (s_getR 7 15 61)) (pm_tn 63 (pm_tl 61 (s_push 10 63)) (pm_tl 63 (s_aload 0 64)))) (pm_tn 68 (pm_tn 67 (pm_tl 64 (s_getI 7 14 67)) (pm_tl 67 (s_imul 68))) (pm_tn 69 (pm_tl 68 (s_iload 1 69)) (pm_tl 69 (s_iadd 70)))))) (pm_tn 83 (pm_tn 75 (pm_tn 71 (pm_tl 70 (s_aload 0 71)) (pm_tn 74 (pm_tl 71 (s_getR 7 7 74)) (pm_tl 74 (s_iload 1 75)))) (pm_tn 77 (pm_tn 76 (pm_tl 75 (s_iald 76)) (pm_tl 76 (s_iast 77))) (pm_tn 80 (pm_tl 77 (s_iinc 1 1 80)) (pm_tl 80 (s_K 51 [true, true] (s_goto 51)))))) (pm_tn 88 (pm_tn 84 (pm_tl 83 (s_aload 0 84)) (pm_tn 85 (pm_tl 84 (s_dup 85)) (pm_tl 85 (s_getI 7 14 88)))) (pm_tn 90 (pm_tn 89 (pm_tl 88 (s_push 1 89)) (pm_tl 89 (s_iadd 90))) (pm_tn 93 (pm_tl 90 (s_putI 7 14 93)) (pm_tl 93 (s_vret))))))))
theorem tc_M_record : ∀ pc, pm_Ct (t_M_record pc) := (ct_tn (ct_tn (ct_tn (ct_tn (ct_tn (ct_tl (ct_aload _ _)) (ct_tn (ct_tl (ct_getI _ _ _)) (ct_tl (ct_push _ _)))) (ct_tn (ct_tl (ct_cne _ _)) (ct_tn (ct_tl (ct_push _ _)) (ct_tl (ct_K (ct_istore _ _)))))) (ct_tn (ct_tn (ct_tl (ct_iload _ _)) (ct_tn (ct_tl (ct_push _ _)) (ct_tl (ct_cge _ _)))) (ct_tn (ct_tn (ct_tl (ct_aload _ _)) (ct_tl (ct_getR _ _ _))) (ct_tn (ct_tl (ct_iload _ _)) (ct_tl (ct_push _ _)))))) (ct_tn (ct_tn (ct_tn (ct_tl (ct_isub _)) (ct_tn (ct_tl (ct_aload _ _)) (ct_tl (ct_getR _ _ _)))) (ct_tn (ct_tn (ct_tl (ct_iload _ _)) (ct_tl (ct_iald _))) (ct_tn (ct_tl (ct_iast _)) (ct_tl (ct_iinc _ _ _))))) (ct_tn (ct_tn (ct_tl (ct_K (ct_goto _))) (ct_tn (ct_tl (ct_aload _ _)) (ct_tl (ct_dup _)))) (ct_tn (ct_tn (ct_tl (ct_getI _ _ _)) (ct_tl (ct_push _ _))) (ct_tn (ct_tl (ct_isub _)) (ct_tl (ct_putI _ _ _))))))) (ct_tn (ct_tn (ct_tn (ct_tn (ct_tl (ct_push _ _)) (ct_tn (ct_tl (ct_K (ct_istore _ _))) (ct_tl (ct_iload _ _)))) (ct_tn (ct_tl (ct_push _ _)) (ct_tn (ct_tl (ct_cge _ _)) (ct_tl (ct_aload _ _))))) (ct_tn (ct_tn (ct_tl (ct_getR _ _ _)) (ct_tn (ct_tl (ct_push _ _)) (ct_tl (ct_aload _ _)))) (ct_tn (ct_tn (ct_tl (ct_getI _ _ _)) (ct_tl (ct_imul _))) (ct_tn (ct_tl (ct_iload _ _)) (ct_tl (ct_iadd _)))))) (ct_tn (ct_tn (ct_tn (ct_tl (ct_aload _ _)) (ct_tn (ct_tl (ct_getR _ _ _)) (ct_tl (ct_iload _ _)))) (ct_tn (ct_tn (ct_tl (ct_iald _)) (ct_tl (ct_iast _))) (ct_tn (ct_tl (ct_iinc _ _ _)) (ct_tl (ct_K (ct_goto _)))))) (ct_tn (ct_tn (ct_tl (ct_aload _ _)) (ct_tn (ct_tl (ct_dup _)) (ct_tl (ct_getI _ _ _)))) (ct_tn (ct_tn (ct_tl (ct_push _ _)) (ct_tl (ct_iadd _))) (ct_tn (ct_tl (ct_putI _ _ _)) (ct_tl (ct_vret))))))))
def t_M_undo : Nat → pm_S := (pm_tn 29 (pm_tn 15 (pm_tn 9 (pm_tn 4 (pm_tn 1 (pm_tl 0 (s_aload 0 1)) (pm_tl 1 (s_getI 7 14 4))) (pm_tn 7 (pm_tl 4 (s_ifne 10 7)) (pm_tl 7 (s_push (-4) 9)))) (pm_tn 11 (pm_tn 10 (pm_tl 9 (s_iret)) (pm_tl 10 (s_aload 0 11))) (pm_tn 12 (pm_tl 11 (s_dup 12)) (pm_tl 12 (s_getI 7 14 15))))) (pm_tn 21 (pm_tn 17 (pm_tn 16 (pm_tl 15 (s_push 1 16)) (pm_tl 16 (s_isub 17))) (pm_tn 20 (pm_tl 17 (s_putI 7 14 20)) (pm_tl 20 (s_push 0 21)))) (pm_tn 23 (pm_tn 22 (pm_tl 21 (s_K 22 [true, true] (s_istore 1 22))) (pm_tl 22 (s_iload 1 23))) (pm_tn 25 (pm_tl 23 (s_push 10 25)) (pm_tn 28 (pm_tl 25 (s_cge 54 28)) (pm_tl 28 (s_aload 0 29))))))) (pm_tn 44 (pm_tn 37 (pm_tn 33 (pm_tn 32 (pm_tl 29 (s_getR 7 7 32)) (pm_tl 32 (s_iload 1 33))) (pm_tn 34 (pm_tl 33 (s_aload 0 34)) (pm_tl 34 (s_getR 7 15 37)))) (pm_tn 40 (pm_tn 39 (pm_tl 37 (s_push 10 39)) (pm_tl 39 (s_aload 0 40))) (pm_tn 43 (pm_tl 40 (s_getI 7 14 43)) (pm_tl 43 (s_imul 44))))) (pm_tn 48 (pm_tn 46 (pm_tn 45 (pm_tl 44 (s_iload 1 45)) (pm_tl 45 (s_iadd 46))) (pm_tn 47 (pm_tl 46 (s_iald 47)) (pm_tl 47 (s_iast 48)))) (pm_tn 54 (pm_tn 51 (pm_tl 48 (s_iinc 1 1 51)) (pm_tl 51 (s_K 22 [true, true] (s_goto 22)))) (pm_tn 55 (pm_tl 54 (s_aload 0 55)) (pm_tn 58 (pm_tl 55 (s_getI 7 14 58)) (pm_tl 58 (s_iret))))))))
theorem tc_M_undo : ∀ pc, pm_Ct (t_M_undo pc) := (ct_tn (ct_tn (ct_tn (ct_tn (ct_tn (ct_tl (ct_aload _ _)) (ct_tl (ct_getI _ _ _))) (ct_tn (ct_tl (ct_ifne _ _)) (ct_tl (ct_push _ _)))) (ct_tn (ct_tn (ct_tl (ct_iret)) (ct_tl (ct_aload _ _))) (ct_tn (ct_tl (ct_dup _)) (ct_tl (ct_getI _ _ _))))) (ct_tn (ct_tn (ct_tn (ct_tl (ct_push _ _)) (ct_tl (ct_isub _))) (ct_tn (ct_tl (ct_putI _ _ _)) (ct_tl (ct_push _ _)))) (ct_tn (ct_tn (ct_tl (ct_K (ct_istore _ _))) (ct_tl (ct_iload _ _))) (ct_tn (ct_tl (ct_push _ _)) (ct_tn (ct_tl (ct_cge _ _)) (ct_tl (ct_aload _ _))))))) (ct_tn (ct_tn (ct_tn (ct_tn (ct_tl (ct_getR _ _ _)) (ct_tl (ct_iload _ _))) (ct_tn (ct_tl (ct_aload _ _)) (ct_tl (ct_getR _ _ _)))) (ct_tn (ct_tn (ct_tl (ct_push _ _)) (ct_tl (ct_aload _ _))) (ct_tn (ct_tl (ct_getI _ _ _)) (ct_tl (ct_imul _))))) (ct_tn (ct_tn (ct_tn (ct_tl (ct_iload _ _)) (ct_tl (ct_iadd _))) (ct_tn (ct_tl (ct_iald _)) (ct_tl (ct_iast _)))) (ct_tn (ct_tn (ct_tl (ct_iinc _ _ _)) (ct_tl (ct_K (ct_goto _)))) (ct_tn (ct_tl (ct_aload _ _)) (ct_tn (ct_tl (ct_getI _ _ _)) (ct_tl (ct_iret))))))))
def t_M_set : Nat → pm_S := (pm_tn 22 (pm_tn 10 (pm_tn 5 (pm_tn 1 (pm_tl 0 (s_aload 0 1)) (pm_tn 2 (pm_tl 1 (s_iload 1 2)) (pm_tl 2 (s_call 108 2 0 7 1 (fun _ => 1) 5)))) (pm_tn 8 (pm_tl 5 (s_ifeq 16 8)) (pm_tn 9 (pm_tl 8 (s_aload 0 9)) (pm_tl 9 (s_iload 2 10))))) (pm_tn 17 (pm_tn 13 (pm_tl 10 (s_call 93 2 0 7 1 (fun _ => 1) 13)) (pm_tn 16 (pm_tl 13 (s_ifne 18 16)) (pm_tl 16 (s_push (-1) 17)))) (pm_tn 18 (pm_tl 17 (s_iret)) (pm_tn 19 (pm_tl 18 (s_aload 0 19)) (pm_tl 19 (s_call 123 1 1 7 0 (fun _ => 0) 22)))))) (pm_tn 30 (pm_tn 27 (pm_tn 23 (pm_tl 22 (s_aload 0 23)) (pm_tn 26 (pm_tl 23 (s_getR 7 7 26)) (pm_tl 26 (s_iload 1 27)))) (pm_tn 28 (pm_tl 27 (s_iald 28)) (pm_tn 29 (pm_tl 28 (s_istore 3 29)) (pm_tl 29 (s_aload 0 30))))) (pm_tn 35 (pm_tn 33 (pm_tl 30 (s_getR 7 7 33)) (pm_tn 34 (pm_tl 33 (s_iload 1 34)) (pm_tl 34 (s_iload 2 35)))) (pm_tn 36 (pm_tl 35 (s_iast 36)) (pm_tn 37 (pm_tl 36 (s_iload 3 37)) (pm_tl 37 (s_iret)))))))
theorem tc_M_set : ∀ pc, pm_Ct (t_M_set pc) := (ct_tn (ct_tn (ct_tn (ct_tn (ct_tl (ct_aload _ _)) (ct_tn (ct_tl (ct_iload _ _)) (ct_tl (ct_call _ _ _ _ _ _ _)))) (ct_tn (ct_tl (ct_ifeq _ _)) (ct_tn (ct_tl (ct_aload _ _)) (ct_tl (ct_iload _ _))))) (ct_tn (ct_tn (ct_tl (ct_call _ _ _ _ _ _ _)) (ct_tn (ct_tl (ct_ifne _ _)) (ct_tl (ct_push _ _)))) (ct_tn (ct_tl (ct_iret)) (ct_tn (ct_tl (ct_aload _ _)) (ct_tl (ct_call _ _ _ _ _ _ _)))))) (ct_tn (ct_tn (ct_tn (ct_tl (ct_aload _ _)) (ct_tn (ct_tl (ct_getR _ _ _)) (ct_tl (ct_iload _ _)))) (ct_tn (ct_tl (ct_iald _)) (ct_tn (ct_tl (ct_istore _ _)) (ct_tl (ct_aload _ _))))) (ct_tn (ct_tn (ct_tl (ct_getR _ _ _)) (ct_tn (ct_tl (ct_iload _ _)) (ct_tl (ct_iload _ _)))) (ct_tn (ct_tl (ct_iast _)) (ct_tn (ct_tl (ct_iload _ _)) (ct_tl (ct_iret)))))))
def t_M_at : Nat → pm_S := (pm_tn 9 (pm_tn 2 (pm_tn 1 (pm_tl 0 (s_aload 0 1)) (pm_tl 1 (s_iload 1 2))) (pm_tn 5 (pm_tl 2 (s_call 108 2 0 7 1 (fun _ => 1) 5)) (pm_tn 8 (pm_tl 5 (s_ifeq 17 8)) (pm_tl 8 (s_aload 0 9))))) (pm_tn 14 (pm_tn 12 (pm_tl 9 (s_getR 7 7 12)) (pm_tn 13 (pm_tl 12 (s_iload 1 13)) (pm_tl 13 (s_iald 14)))) (pm_tn 17 (pm_tl 14 (s_goto 18)) (pm_tn 18 (pm_tl 17 (s_push (-1) 18)) (pm_tl 18 (s_iret))))))
theorem tc_M_at : ∀ pc, pm_Ct (t_M_at pc) := (ct_tn (ct_tn (ct_tn (ct_tl (ct_aload _ _)) (ct_tl (ct_iload _ _))) (ct_tn (ct_tl (ct_call _ _ _ _ _ _ _)) (ct_tn (ct_tl (ct_ifeq _ _)) (ct_tl (ct_aload _ _))))) (ct_tn (ct_tn (ct_tl (ct_getR _ _ _)) (ct_tn (ct_tl (ct_iload _ _)) (ct_tl (ct_iald _)))) (ct_tn (ct_tl (ct_goto _)) (ct_tn (ct_tl (ct_push _ _)) (ct_tl (ct_iret))))))
def t_M_weightOf : Nat → pm_S := (pm_tn 24 (pm_tn 12 (pm_tn 4 (pm_tn 2 (pm_tn 1 (pm_tl 0 (s_lpush 1 1)) (pm_tl 1 (s_lstore 1 2))) (pm_tn 3 (pm_tl 2 (s_push 0 3)) (pm_tl 3 (s_K 4 [true, true, false, true] (s_istore 3 4))))) (pm_tn 6 (pm_tn 5 (pm_tl 4 (s_iload 3 5)) (pm_tl 5 (s_aload 0 6))) (pm_tn 9 (pm_tl 6 (s_getI 7 8 9)) (pm_tl 9 (s_cge 53 12))))) (pm_tn 18 (pm_tn 14 (pm_tn 13 (pm_tl 12 (s_lload 1 13)) (pm_tl 13 (s_aload 0 14))) (pm_tn 17 (pm_tl 14 (s_getR 7 13 17)) (pm_tl 17 (s_iload 3 18)))) (pm_tn 22 (pm_tn 19 (pm_tl 18 (s_zald 19)) (pm_tl 19 (s_ifeq 44 22))) (pm_tn 23 (pm_tl 22 (s_aload 0 23)) (pm_tl 23 (s_iload 3 24)))))) (pm_tn 40 (pm_tn 34 (pm_tn 30 (pm_tn 27 (pm_tl 24 (s_call 117 2 0 7 1 (fun _ => 1) 27)) (pm_tl 27 (s_ifeq 44 30))) (pm_tn 31 (pm_tl 30 (s_aload 0 31)) (pm_tl 31 (s_getR 7 2 34)))) (pm_tn 36 (pm_tn 35 (pm_tl 34 (s_aload 0 35)) (pm_tl 35 (s_iload 3 36))) (pm_tn 39 (pm_tl 36 (s_call 119 2 3 7 1 (fun _ => 1) 39)) (pm_tl 39 (s_iald 40))))) (pm_tn 46 (pm_tn 44 (pm_tn 41 (pm_tl 40 (s_i2l 41)) (pm_tl 41 (s_goto 45))) (pm_tn 45 (pm_tl 44 (s_lpush 1 45)) (pm_tl 45 (s_lmul 46)))) (pm_tn 50 (pm_tn 47 (pm_tl 46 (s_lstore 1 47)) (pm_tl 47 (s_iinc 3 1 50))) (pm_tn 53 (pm_tl 50 (s_K 4 [true, true, false, true] (s_goto 4))) (pm_tn 54 (pm_tl 53 (s_lload 1 54)) (pm_tl 54 (s_lret))))))))
theorem tc_M_weightOf : ∀ pc, pm_Ct (t_M_weightOf pc) := (ct_tn (ct_tn (ct_tn (ct_tn (ct_tn (ct_tl (ct_lpush _ _)) (ct_tl (ct_lstore _ _))) (ct_tn (ct_tl (ct_push _ _)) (ct_tl (ct_K (ct_istore _ _))))) (ct_tn (ct_tn (ct_tl (ct_iload _ _)) (ct_tl (ct_aload _ _))) (ct_tn (ct_tl (ct_getI _ _ _)) (ct_tl (ct_cge _ _))))) (ct_tn (ct_tn (ct_tn (ct_tl (ct_lload _ _)) (ct_tl (ct_aload _ _))) (ct_tn (ct_tl (ct_getR _ _ _)) (ct_tl (ct_iload _ _)))) (ct_tn (ct_tn (ct_tl (ct_zald _)) (ct_tl (ct_ifeq _ _))) (ct_tn (ct_tl (ct_aload _ _)) (ct_tl (ct_iload _ _)))))) (ct_tn (ct_tn (ct_tn (ct_tn (ct_tl (ct_call _ _ _ _ _ _ _)) (ct_tl (ct_ifeq _ _))) (ct_tn (ct_tl (ct_aload _ _)) (ct_tl (ct_getR _ _ _)))) (ct_tn (ct_tn (ct_tl (ct_aload _ _)) (ct_tl (ct_iload _ _))) (ct_tn (ct_tl (ct_call _ _ _ _ _ _ _)) (ct_tl (ct_iald _))))) (ct_tn (ct_tn (ct_tn (ct_tl (ct_i2l _)) (ct_tl (ct_goto _))) (ct_tn (ct_tl (ct_lpush _ _)) (ct_tl (ct_lmul _)))) (ct_tn (ct_tn (ct_tl (ct_lstore _ _)) (ct_tl (ct_iinc _ _ _))) (ct_tn (ct_tl (ct_K (ct_goto _))) (ct_tn (ct_tl (ct_lload _ _)) (ct_tl (ct_lret))))))))
def t_M_weight : Nat → pm_S := (pm_tn 5 (pm_tn 1 (pm_tl 0 (s_aload 0 1)) (pm_tn 4 (pm_tl 1 (s_call 120 1 1 7 0 (fun _ => 2) 4)) (pm_tl 4 (s_aload 0 5)))) (pm_tn 9 (pm_tn 8 (pm_tl 5 (s_call 118 1 1 7 0 (fun _ => 0) 8)) (pm_tl 8 (s_aload 0 9))) (pm_tn 12 (pm_tl 9 (s_call 127 1 3 7 2 (fun _ => 2) 12)) (pm_tl 12 (s_lret)))))
theorem tc_M_weight : ∀ pc, pm_Ct (t_M_weight pc) := (ct_tn (ct_tn (ct_tl (ct_aload _ _)) (ct_tn (ct_tl (ct_call _ _ _ _ _ _ _)) (ct_tl (ct_aload _ _)))) (ct_tn (ct_tn (ct_tl (ct_call _ _ _ _ _ _ _)) (ct_tl (ct_aload _ _))) (ct_tn (ct_tl (ct_call _ _ _ _ _ _ _)) (ct_tl (ct_lret)))))
def t_M_turned : Nat → pm_S := (pm_tn 46 (pm_tn 22 (pm_tn 9 (pm_tn 5 (pm_tn 1 (pm_tl 0 (s_aload 0 1)) (pm_tn 4 (pm_tl 1 (s_call 120 1 1 7 0 (fun _ => 2) 4)) (pm_tl 4 (s_push 0 5)))) (pm_tn 7 (pm_tn 6 (pm_tl 5 (s_istore 1 6)) (pm_tl 6 (s_push 0 7))) (pm_tn 8 (pm_tl 7 (s_K 8 [true, true, true, false] (s_istore 2 8))) (pm_tl 8 (s_iload 2 9))))) (pm_tn 16 (pm_tn 10 (pm_tl 9 (s_aload 0 10)) (pm_tn 13 (pm_tl 10 (s_getI 7 4 13)) (pm_tl 13 (s_cge 89 16)))) (pm_tn 18 (pm_tn 17 (pm_tl 16 (s_aload 0 17)) (pm_tl 17 (s_aload 0 18))) (pm_tn 19 (pm_tl 18 (s_aload 0 19)) (pm_tl 19 (s_getR 7 22 22)))))) (pm_tn 33 (pm_tn 27 (pm_tn 23 (pm_tl 22 (s_aload 0 23)) (pm_tn 26 (pm_tl 23 (s_getR 7 5 26)) (pm_tl 26 (s_iload 2 27)))) (pm_tn 29 (pm_tn 28 (pm_tl 27 (s_iald 28)) (pm_tl 28 (s_iald 29))) (pm_tn 30 (pm_tl 29 (s_aload 0 30)) (pm_tl 30 (s_getR 7 7 33))))) (pm_tn 38 (pm_tn 34 (pm_tl 33 (s_iload 2 34)) (pm_tn 35 (pm_tl 34 (s_iald 35)) (pm_tl 35 (s_call 94 3 0 7 1 (fun _ => 0) 38)))) (pm_tn 42 (pm_tn 39 (pm_tl 38 (s_aload 0 39)) (pm_tl 39 (s_getR 7 21 42))) (pm_tn 43 (pm_tl 42 (s_aload 0 43)) (pm_tl 43 (s_getR 7 22 46))))))) (pm_tn 66 (pm_tn 57 (pm_tn 51 (pm_tn 47 (pm_tl 46 (s_aload 0 47)) (pm_tn 50 (pm_tl 47 (s_getR 7 6 50)) (pm_tl 50 (s_iload 2 51)))) (pm_tn 53 (pm_tn 52 (pm_tl 51 (s_iald 52)) (pm_tl 52 (s_iald 53))) (pm_tn 54 (pm_tl 53 (s_iald 54)) (pm_tl 54 (s_call 94 3 0 7 1 (fun _ => 0) 57))))) (pm_tn 60 (pm_tn 58 (pm_tl 57 (s_istore 3 58)) (pm_tn 59 (pm_tl 58 (s_iload 1 59)) (pm_tl 59 (s_iload 3 60)))) (pm_tn 64 (pm_tn 61 (pm_tl 60 (s_aload 0 61)) (pm_tl 61 (s_getR 7 7 64))) (pm_tn 65 (pm_tl 64 (s_iload 2 65)) (pm_tl 65 (s_iald 66)))))) (pm_tn 77 (pm_tn 73 (pm_tn 69 (pm_tl 66 (s_ceq 73 69)) (pm_tn 70 (pm_tl 69 (s_push 1 70)) (pm_tl 70 (s_goto 74)))) (pm_tn 75 (pm_tn 74 (pm_tl 73 (s_push 0 74)) (pm_tl 74 (s_iadd 75))) (pm_tn 76 (pm_tl 75 (s_istore 1 76)) (pm_tl 76 (s_aload 0 77))))) (pm_tn 83 (pm_tn 81 (pm_tn 80 (pm_tl 77 (s_getR 7 7 80)) (pm_tl 80 (s_iload 2 81))) (pm_tn 82 (pm_tl 81 (s_iload 3 82)) (pm_tl 82 (s_iast 83)))) (pm_tn 89 (pm_tn 86 (pm_tl 83 (s_iinc 2 1 86)) (pm_tl 86 (s_K 8 [true, true, true, false] (s_goto 8)))) (pm_tn 90 (pm_tl 89 (s_iload 1 90)) (pm_tl 90 (s_iret))))))))
theorem tc_M_turned : ∀ pc, pm_Ct (t_M_turned pc) := (ct_tn (ct_tn (ct_tn (ct_tn (ct_tn (ct_tl (ct_aload _ _)) (ct_tn (ct_tl (ct_call _ _ _ _ _ _ _)) (ct_tl (ct_push _ _)))) (ct_tn (ct_tn (ct_tl (ct_istore _ _)) (ct_tl (ct_push _ _))) (ct_tn (ct_tl (ct_K (ct_istore _ _))) (ct_tl (ct_iload _ _))))) (ct_tn (ct_tn (ct_tl (ct_aload _ _)) (ct_tn (ct_tl (ct_getI _ _ _)) (ct_tl (ct_cge _ _)))) (ct_tn (ct_tn (ct_tl (ct_aload _ _)) (ct_tl (ct_aload _ _))) (ct_tn (ct_tl (ct_aload _ _)) (ct_tl (ct_getR _ _ _)))))) (ct_tn (ct_tn (ct_tn (ct_tl (ct_aload _ _)) (ct_tn (ct_tl (ct_getR _ _ _)) (ct_tl (ct_iload _ _)))) (ct_tn (ct_tn (ct_tl (ct_iald _)) (ct_tl (ct_iald _))) (ct_tn (ct_tl (ct_aload _ _)) (ct_tl (ct_getR _ _ _))))) (ct_tn (ct_tn (ct_tl (ct_iload _ _)) (ct_tn (ct_tl (ct_iald _)) (ct_tl (ct_call _ _ _ _ _ _ _)))) (ct_tn (ct_tn (ct_tl (ct_aload _ _)) (ct_tl (ct_getR _ _ _))) (ct_tn (ct_tl (ct_aload _ _)) (ct_tl (ct_getR _ _ _))))))) (ct_tn (ct_tn (ct_tn (ct_tn (ct_tl (ct_aload _ _)) (ct_tn (ct_tl (ct_getR _ _ _)) (ct_tl (ct_iload _ _)))) (ct_tn (ct_tn (ct_tl (ct_iald _)) (ct_tl (ct_iald _))) (ct_tn (ct_tl (ct_iald _)) (ct_tl (ct_call _ _ _ _ _ _ _))))) (ct_tn (ct_tn (ct_tl (ct_istore _ _)) (ct_tn (ct_tl (ct_iload _ _)) (ct_tl (ct_iload _ _)))) (ct_tn (ct_tn (ct_tl (ct_aload _ _)) (ct_tl (ct_getR _ _ _))) (ct_tn (ct_tl (ct_iload _ _)) (ct_tl (ct_iald _)))))) (ct_tn (ct_tn (ct_tn (ct_tl (ct_ceq _ _)) (ct_tn (ct_tl (ct_push _ _)) (ct_tl (ct_goto _)))) (ct_tn (ct_tn (ct_tl (ct_push _ _)) (ct_tl (ct_iadd _))) (ct_tn (ct_tl (ct_istore _ _)) (ct_tl (ct_aload _ _))))) (ct_tn (ct_tn (ct_tn (ct_tl (ct_getR _ _ _)) (ct_tl (ct_iload _ _))) (ct_tn (ct_tl (ct_iload _ _)) (ct_tl (ct_iast _)))) (ct_tn (ct_tn (ct_tl (ct_iinc _ _ _)) (ct_tl (ct_K (ct_goto _)))) (ct_tn (ct_tl (ct_iload _ _)) (ct_tl (ct_iret))))))))
def t_M_twist : Nat → pm_S := (pm_tn 27 (pm_tn 16 (pm_tn 8 (pm_tn 2 (pm_tn 1 (pm_tl 0 (s_aload 0 1)) (pm_tl 1 (s_iload 1 2))) (pm_tn 5 (pm_tl 2 (s_call 110 2 0 7 1 (fun _ => 1) 5)) (pm_tl 5 (s_ifeq 16 8)))) (pm_tn 10 (pm_tn 9 (pm_tl 8 (s_aload 0 9)) (pm_tl 9 (s_iload 2 10))) (pm_tn 13 (pm_tl 10 (s_call 93 2 0 7 1 (fun _ => 1) 13)) (pm_tl 13 (s_ifne 18 16))))) (pm_tn 22 (pm_tn 18 (pm_tn 17 (pm_tl 16 (s_push (-1) 17)) (pm_tl 17 (s_iret))) (pm_tn 19 (pm_tl 18 (s_aload 0 19)) (pm_tl 19 (s_call 123 1 1 7 0 (fun _ => 0) 22)))) (pm_tn 24 (pm_tn 23 (pm_tl 22 (s_push 0 23)) (pm_tl 23 (s_K 24 [true, true, true, true] (s_istore 3 24)))) (pm_tn 25 (pm_tl 24 (s_iload 3 25)) (pm_tl 25 (s_push 6 27)))))) (pm_tn 41 (pm_tn 35 (pm_tn 31 (pm_tn 30 (pm_tl 27 (s_cge 52 30)) (pm_tl 30 (s_aload 0 31))) (pm_tn 34 (pm_tl 31 (s_getR 7 22 34)) (pm_tl 34 (s_iload 3 35)))) (pm_tn 37 (pm_tn 36 (pm_tl 35 (s_iload 3 36)) (pm_tl 36 (s_iload 1 37))) (pm_tn 40 (pm_tl 37 (s_cne 44 40)) (pm_tl 40 (s_iload 2 41))))) (pm_tn 49 (pm_tn 45 (pm_tn 44 (pm_tl 41 (s_goto 45)) (pm_tl 44 (s_push 0 45))) (pm_tn 46 (pm_tl 45 (s_iast 46)) (pm_tl 46 (s_iinc 3 1 49)))) (pm_tn 53 (pm_tn 52 (pm_tl 49 (s_K 24 [true, true, true, true] (s_goto 24))) (pm_tl 52 (s_aload 0 53))) (pm_tn 56 (pm_tl 53 (s_call 129 1 3 7 1 (fun _ => 3) 56)) (pm_tl 56 (s_iret)))))))
theorem tc_M_twist : ∀ pc, pm_Ct (t_M_twist pc) := (ct_tn (ct_tn (ct_tn (ct_tn (ct_tn (ct_tl (ct_aload _ _)) (ct_tl (ct_iload _ _))) (ct_tn (ct_tl (ct_call _ _ _ _ _ _ _)) (ct_tl (ct_ifeq _ _)))) (ct_tn (ct_tn (ct_tl (ct_aload _ _)) (ct_tl (ct_iload _ _))) (ct_tn (ct_tl (ct_call _ _ _ _ _ _ _)) (ct_tl (ct_ifne _ _))))) (ct_tn (ct_tn (ct_tn (ct_tl (ct_push _ _)) (ct_tl (ct_iret))) (ct_tn (ct_tl (ct_aload _ _)) (ct_tl (ct_call _ _ _ _ _ _ _)))) (ct_tn (ct_tn (ct_tl (ct_push _ _)) (ct_tl (ct_K (ct_istore _ _)))) (ct_tn (ct_tl (ct_iload _ _)) (ct_tl (ct_push _ _)))))) (ct_tn (ct_tn (ct_tn (ct_tn (ct_tl (ct_cge _ _)) (ct_tl (ct_aload _ _))) (ct_tn (ct_tl (ct_getR _ _ _)) (ct_tl (ct_iload _ _)))) (ct_tn (ct_tn (ct_tl (ct_iload _ _)) (ct_tl (ct_iload _ _))) (ct_tn (ct_tl (ct_cne _ _)) (ct_tl (ct_iload _ _))))) (ct_tn (ct_tn (ct_tn (ct_tl (ct_goto _)) (ct_tl (ct_push _ _))) (ct_tn (ct_tl (ct_iast _)) (ct_tl (ct_iinc _ _ _)))) (ct_tn (ct_tn (ct_tl (ct_K (ct_goto _))) (ct_tl (ct_aload _ _))) (ct_tn (ct_tl (ct_call _ _ _ _ _ _ _)) (ct_tl (ct_iret)))))))
def t_M_layTree : Nat → pm_S := (pm_tn 75 (pm_tn 38 (pm_tn 16 (pm_tn 5 (pm_tn 2 (pm_tn 1 (pm_tl 0 (s_push 0 1)) (pm_tl 1 (s_istore 1 2))) (pm_tn 3 (pm_tl 2 (s_push 0 3)) (pm_tn 4 (pm_tl 3 (s_K 4 [true, true, true, false, false, false] (s_istore 2 4))) (pm_tl 4 (s_iload 2 5))))) (pm_tn 11 (pm_tn 7 (pm_tl 5 (s_push 6 7)) (pm_tn 10 (pm_tl 7 (s_cge 23 10)) (pm_tl 10 (s_aload 0 11)))) (pm_tn 14 (pm_tl 11 (s_getR 7 23 14)) (pm_tn 15 (pm_tl 14 (s_iload 2 15)) (pm_tl 15 (s_iload 2 16)))))) (pm_tn 26 (pm_tn 23 (pm_tn 17 (pm_tl 16 (s_iast 17)) (pm_tn 20 (pm_tl 17 (s_iinc 2 1 20)) (pm_tl 20 (s_K 4 [true, true, true, false, false, false] (s_goto 4))))) (pm_tn 24 (pm_tl 23 (s_push 0 24)) (pm_tn 25 (pm_tl 24 (s_K 25 [true, true, true, false, false, false] (s_istore 2 25))) (pm_tl 25 (s_iload 2 26))))) (pm_tn 33 (pm_tn 27 (pm_tl 26 (s_aload 0 27)) (pm_tn 30 (pm_tl 27 (s_getI 7 4 30)) (pm_tl 30 (s_cge 163 33)))) (pm_tn 34 (pm_tl 33 (s_aload 0 34)) (pm_tn 37 (pm_tl 34 (s_getR 7 23 37)) (pm_tl 37 (s_aload 0 38))))))) (pm_tn 55 (pm_tn 45 (pm_tn 42 (pm_tn 41 (pm_tl 38 (s_getR 7 5 41)) (pm_tl 41 (s_iload 2 42))) (pm_tn 43 (pm_tl 42 (s_iald 43)) (pm_tn 44 (pm_tl 43 (s_iald 44)) (pm_tl 44 (s_istore 3 45))))) (pm_tn 50 (pm_tn 46 (pm_tl 45 (s_aload 0 46)) (pm_tn 49 (pm_tl 46 (s_getR 7 23 49)) (pm_tl 49 (s_aload 0 50)))) (pm_tn 53 (pm_tl 50 (s_getR 7 6 53)) (pm_tn 54 (pm_tl 53 (s_iload 2 54)) (pm_tl 54 (s_iald 55)))))) (pm_tn 64 (pm_tn 59 (pm_tn 56 (pm_tl 55 (s_iald 56)) (pm_tn 58 (pm_tl 56 (s_istore 4 58)) (pm_tl 58 (s_aload 0 59)))) (pm_tn 62 (pm_tl 59 (s_getR 7 24 62)) (pm_tn 63 (pm_tl 62 (s_iload 2 63)) (pm_tl 63 (s_iload 3 64))))) (pm_tn 70 (pm_tn 66 (pm_tl 64 (s_iload 4 66)) (pm_tn 69 (pm_tl 66 (s_ceq 73 69)) (pm_tl 69 (s_push 1 70)))) (pm_tn 73 (pm_tl 70 (s_goto 74)) (pm_tn 74 (pm_tl 73 (s_push 0 74)) (pm_tl 74 (s_zast 75)))))))) (pm_tn 116 (pm_tn 92 (pm_tn 83 (pm_tn 77 (pm_tn 76 (pm_tl 75 (s_iload 1 76)) (pm_tl 76 (s_iload 3 77))) (pm_tn 79 (pm_tl 77 (s_iload 4 79)) (pm_tn 82 (pm_tl 79 (s_ceq 86 82)) (pm_tl 82 (s_push 1 83))))) (pm_tn 88 (pm_tn 86 (pm_tl 83 (s_goto 87)) (pm_tn 87 (pm_tl 86 (s_push 0 87)) (pm_tl 87 (s_iadd 88)))) (pm_tn 89 (pm_tl 88 (s_istore 1 89)) (pm_tn 90 (pm_tl 89 (s_push 0 90)) (pm_tl 90 (s_K 92 [true, true, true, true, true, true] (s_istore 5 92))))))) (pm_tn 105 (pm_tn 99 (pm_tn 94 (pm_tl 92 (s_iload 5 94)) (pm_tn 96 (pm_tl 94 (s_push 6 96)) (pm_tl 96 (s_cge 157 99)))) (pm_tn 100 (pm_tl 99 (s_aload 0 100)) (pm_tn 103 (pm_tl 100 (s_getR 7 23 103)) (pm_tl 103 (s_iload 5 105))))) (pm_tn 111 (pm_tn 106 (pm_tl 105 (s_aload 0 106)) (pm_tn 109 (pm_tl 106 (s_getR 7 23 109)) (pm_tl 109 (s_iload 5 111)))) (pm_tn 112 (pm_tl 111 (s_iald 112)) (pm_tn 113 (pm_tl 112 (s_iload 3 113)) (pm_tl 113 (s_ceq 128 116))))))) (pm_tn 140 (pm_tn 128 (pm_tn 122 (pm_tn 117 (pm_tl 116 (s_aload 0 117)) (pm_tn 120 (pm_tl 117 (s_getR 7 23 120)) (pm_tl 120 (s_iload 5 122)))) (pm_tn 123 (pm_tl 122 (s_iald 123)) (pm_tn 125 (pm_tl 123 (s_iload 4 125)) (pm_tl 125 (s_cne 143 128))))) (pm_tn 134 (pm_tn 129 (pm_tl 128 (s_iload 3 129)) (pm_tn 131 (pm_tl 129 (s_iload 4 131)) (pm_tl 131 (s_cge 138 134)))) (pm_tn 135 (pm_tl 134 (s_iload 3 135)) (pm_tn 138 (pm_tl 135 (s_goto 150)) (pm_tl 138 (s_iload 4 140)))))) (pm_tn 151 (pm_tn 147 (pm_tn 143 (pm_tl 140 (s_goto 150)) (pm_tn 144 (pm_tl 143 (s_aload 0 144)) (pm_tl 144 (s_getR 7 23 147)))) (pm_tn 149 (pm_tl 147 (s_iload 5 149)) (pm_tn 150 (pm_tl 149 (s_iald 150)) (pm_tl 150 (s_iast 151))))) (pm_tn 160 (pm_tn 154 (pm_tl 151 (s_iinc 5 1 154)) (pm_tn 157 (pm_tl 154 (s_K 92 [true, true, true, true, true, true] (s_goto 92))) (pm_tl 157 (s_iinc 2 1 160)))) (pm_tn 163 (pm_tl 160 (s_K 25 [true, true, true, false, false, false] (s_goto 25))) (pm_tn 164 (pm_tl 163 (s_iload 1 164)) (pm_tl 164 (s_iret)))))))))
theorem tc_M_layTree : ∀ pc, pm_Ct (t_M_layTree pc) := (ct_tn (ct_tn (ct_tn (ct_tn (ct_tn (ct_tn (ct_tl (ct_push _ _)) (ct_tl (ct_istore _ _))) (ct_tn (ct_tl (ct_push _ _)) (ct_tn (ct_tl (ct_K (ct_istore _ _))) (ct_tl (ct_iload _ _))))) (ct_tn (ct_tn (ct_tl (ct_push _ _)) (ct_tn (ct_tl (ct_cge _ _)) (ct_tl (ct_aload _ _)))) (ct_tn (ct_tl (ct_getR _ _ _)) (ct_tn (ct_tl (ct_iload _ _)) (ct_tl (ct_iload _ _)))))) (ct_tn (ct_tn (ct_tn (ct_tl (ct_iast _)) (ct_tn (ct_tl (ct_iinc _ _ _)) (ct_tl (ct_K (ct_goto _))))) (ct_tn (ct_tl (ct_push _ _)) (ct_tn (ct_tl (ct_K (ct_istore _ _))) (ct_tl (ct_iload _ _))))) (ct_tn (ct_tn (ct_tl (ct_aload _ _)) (ct_tn (ct_tl (ct_getI _ _ _)) (ct_tl (ct_cge _ _)))) (ct_tn (ct_tl (ct_aload _ _)) (ct_tn (ct_tl (ct_getR _ _ _)) (ct_tl (ct_aload _ _))))))) (ct_tn (ct_tn (ct_tn (ct_tn (ct_tl (ct_getR _ _ _)) (ct_tl (ct_iload _ _))) (ct_tn (ct_tl (ct_iald _)) (ct_tn (ct_tl (ct_iald _)) (ct_tl (ct_istore _ _))))) (ct_tn (ct_tn (ct_tl (ct_aload _ _)) (ct_tn (ct_tl (ct_getR _ _ _)) (ct_tl (ct_aload _ _)))) (ct_tn (ct_tl (ct_getR _ _ _)) (ct_tn (ct_tl (ct_iload _ _)) (ct_tl (ct_iald _)))))) (ct_tn (ct_tn (ct_tn (ct_tl (ct_iald _)) (ct_tn (ct_tl (ct_istore _ _)) (ct_tl (ct_aload _ _)))) (ct_tn (ct_tl (ct_getR _ _ _)) (ct_tn (ct_tl (ct_iload _ _)) (ct_tl (ct_iload _ _))))) (ct_tn (ct_tn (ct_tl (ct_iload _ _)) (ct_tn (ct_tl (ct_ceq _ _)) (ct_tl (ct_push _ _)))) (ct_tn (ct_tl (ct_goto _)) (ct_tn (ct_tl (ct_push _ _)) (ct_tl (ct_zast _)))))))) (ct_tn (ct_tn (ct_tn (ct_tn (ct_tn (ct_tl (ct_iload _ _)) (ct_tl (ct_iload _ _))) (ct_tn (ct_tl (ct_iload _ _)) (ct_tn (ct_tl (ct_ceq _ _)) (ct_tl (ct_push _ _))))) (ct_tn (ct_tn (ct_tl (ct_goto _)) (ct_tn (ct_tl (ct_push _ _)) (ct_tl (ct_iadd _)))) (ct_tn (ct_tl (ct_istore _ _)) (ct_tn (ct_tl (ct_push _ _)) (ct_tl (ct_K (ct_istore _ _))))))) (ct_tn (ct_tn (ct_tn (ct_tl (ct_iload _ _)) (ct_tn (ct_tl (ct_push _ _)) (ct_tl (ct_cge _ _)))) (ct_tn (ct_tl (ct_aload _ _)) (ct_tn (ct_tl (ct_getR _ _ _)) (ct_tl (ct_iload _ _))))) (ct_tn (ct_tn (ct_tl (ct_aload _ _)) (ct_tn (ct_tl (ct_getR _ _ _)) (ct_tl (ct_iload _ _)))) (ct_tn (ct_tl (ct_iald _)) (ct_tn (ct_tl (ct_iload _ _)) (ct_tl (ct_ceq _ _))))))) (ct_tn (ct_tn (ct_tn (ct_tn (ct_tl (ct_aload _ _)) (ct_tn (ct_tl (ct_getR _ _ _)) (ct_tl (ct_iload _ _)))) (ct_tn (ct_tl (ct_iald _)) (ct_tn (ct_tl (ct_iload _ _)) (ct_tl (ct_cne _ _))))) (ct_tn (ct_tn (ct_tl (ct_iload _ _)) (ct_tn (ct_tl (ct_iload _ _)) (ct_tl (ct_cge _ _)))) (ct_tn (ct_tl (ct_iload _ _)) (ct_tn (ct_tl (ct_goto _)) (ct_tl (ct_iload _ _)))))) (ct_tn (ct_tn (ct_tn (ct_tl (ct_goto _)) (ct_tn (ct_tl (ct_aload _ _)) (ct_tl (ct_getR _ _ _)))) (ct_tn (ct_tl (ct_iload _ _)) (ct_tn (ct_tl (ct_iald _)) (ct_tl (ct_iast _))))) (ct_tn (ct_tn (ct_tl (ct_iinc _ _ _)) (ct_tn (ct_tl (ct_K (ct_goto _))) (ct_tl (ct_iinc _ _ _)))) (ct_tn (ct_tl (ct_K (ct_goto _))) (ct_tn (ct_tl (ct_iload _ _)) (ct_tl (ct_iret)))))))))
def t_M_still : Nat → pm_S := (pm_tn 106 (pm_tn 49 (pm_tn 26 (pm_tn 13 (pm_tn 5 (pm_tn 1 (pm_tl 0 (s_aload 0 1)) (pm_tn 4 (pm_tl 1 (s_call 123 1 1 7 0 (fun _ => 0) 4)) (pm_tl 4 (s_aload 0 5)))) (pm_tn 9 (pm_tn 8 (pm_tl 5 (s_call 120 1 1 7 0 (fun _ => 2) 8)) (pm_tl 8 (s_aload 0 9))) (pm_tn 12 (pm_tl 9 (s_call 131 1 5 7 1 (fun _ => 0) 12)) (pm_tl 12 (s_istore 1 13))))) (pm_tn 19 (pm_tn 17 (pm_tn 14 (pm_tl 13 (s_aload 0 14)) (pm_tl 14 (s_getR 7 25 17))) (pm_tn 18 (pm_tl 17 (s_astore 2 18)) (pm_tl 18 (s_push 0 19)))) (pm_tn 21 (pm_tn 20 (pm_tl 19 (s_K 20 [true, true, true, true, false, false, false] (s_istore 3 20))) (pm_tl 20 (s_iload 3 21))) (pm_tn 23 (pm_tl 21 (s_push 6 23)) (pm_tl 23 (s_cge 57 26)))))) (pm_tn 35 (pm_tn 29 (pm_tn 27 (pm_tl 26 (s_aload 2 27)) (pm_tn 28 (pm_tl 27 (s_iload 3 28)) (pm_tl 28 (s_aload 0 29)))) (pm_tn 33 (pm_tn 32 (pm_tl 29 (s_getR 7 23 32)) (pm_tl 32 (s_iload 3 33))) (pm_tn 34 (pm_tl 33 (s_iald 34)) (pm_tl 34 (s_iload 3 35))))) (pm_tn 43 (pm_tn 39 (pm_tn 38 (pm_tl 35 (s_cne 42 38)) (pm_tl 38 (s_push 1 39))) (pm_tn 42 (pm_tl 39 (s_goto 43)) (pm_tl 42 (s_push 0 43)))) (pm_tn 45 (pm_tn 44 (pm_tl 43 (s_zast 44)) (pm_tl 44 (s_aload 0 45))) (pm_tn 48 (pm_tl 45 (s_getR 7 22 48)) (pm_tl 48 (s_iload 3 49))))))) (pm_tn 77 (pm_tn 60 (pm_tn 54 (pm_tn 50 (pm_tl 49 (s_push 0 50)) (pm_tn 51 (pm_tl 50 (s_iast 51)) (pm_tl 51 (s_iinc 3 1 54)))) (pm_tn 58 (pm_tn 57 (pm_tl 54 (s_K 20 [true, true, true, true, false, false, false] (s_goto 20))) (pm_tl 57 (s_push 0 58))) (pm_tn 59 (pm_tl 58 (s_K 59 [true, true, true, true, false, false, false] (s_istore 3 59))) (pm_tl 59 (s_iload 3 60))))) (pm_tn 68 (pm_tn 65 (pm_tn 62 (pm_tl 60 (s_push 6 62)) (pm_tl 62 (s_cge 203 65))) (pm_tn 66 (pm_tl 65 (s_push 0 66)) (pm_tl 66 (s_K 68 [true, true, true, true, true, false, false] (s_istore 4 68))))) (pm_tn 71 (pm_tn 70 (pm_tl 68 (s_iload 4 70)) (pm_tl 70 (s_aload 0 71))) (pm_tn 74 (pm_tl 71 (s_getI 7 4 74)) (pm_tl 74 (s_cge 197 77)))))) (pm_tn 92 (pm_tn 84 (pm_tn 81 (pm_tn 78 (pm_tl 77 (s_aload 0 78)) (pm_tl 78 (s_getR 7 5 81))) (pm_tn 83 (pm_tl 81 (s_iload 4 83)) (pm_tl 83 (s_iald 84)))) (pm_tn 87 (pm_tn 86 (pm_tl 84 (s_istore 5 86)) (pm_tl 86 (s_aload 0 87))) (pm_tn 90 (pm_tl 87 (s_getR 7 6 90)) (pm_tl 90 (s_iload 4 92))))) (pm_tn 99 (pm_tn 95 (pm_tn 93 (pm_tl 92 (s_iald 93)) (pm_tl 93 (s_istore 6 95))) (pm_tn 96 (pm_tl 95 (s_aload 0 96)) (pm_tl 96 (s_getR 7 24 99)))) (pm_tn 102 (pm_tn 101 (pm_tl 99 (s_iload 4 101)) (pm_tl 101 (s_zald 102))) (pm_tn 105 (pm_tl 102 (s_ifeq 191 105)) (pm_tl 105 (s_aload 2 106)))))))) (pm_tn 157 (pm_tn 131 (pm_tn 117 (pm_tn 110 (pm_tn 108 (pm_tl 106 (s_iload 5 108)) (pm_tn 109 (pm_tl 108 (s_zald 109)) (pm_tl 109 (s_aload 2 110)))) (pm_tn 113 (pm_tn 112 (pm_tl 110 (s_iload 6 112)) (pm_tl 112 (s_zald 113))) (pm_tn 116 (pm_tl 113 (s_ceq 191 116)) (pm_tl 116 (s_aload 2 117))))) (pm_tn 124 (pm_tn 120 (pm_tn 119 (pm_tl 117 (s_iload 5 119)) (pm_tl 119 (s_zald 120))) (pm_tn 123 (pm_tl 120 (s_ifeq 156 123)) (pm_tl 123 (s_aload 0 124)))) (pm_tn 129 (pm_tn 127 (pm_tl 124 (s_getR 7 22 127)) (pm_tl 127 (s_iload 6 129))) (pm_tn 130 (pm_tl 129 (s_aload 0 130)) (pm_tl 130 (s_aload 0 131)))))) (pm_tn 144 (pm_tn 137 (pm_tn 134 (pm_tl 131 (s_getR 7 22 134)) (pm_tn 136 (pm_tl 134 (s_iload 5 136)) (pm_tl 136 (s_iald 137)))) (pm_tn 141 (pm_tn 138 (pm_tl 137 (s_aload 0 138)) (pm_tl 138 (s_getR 7 7 141))) (pm_tn 143 (pm_tl 141 (s_iload 4 143)) (pm_tl 143 (s_iald 144))))) (pm_tn 151 (pm_tn 148 (pm_tn 147 (pm_tl 144 (s_call 94 3 0 7 1 (fun _ => 0) 147)) (pm_tl 147 (s_iast 148))) (pm_tn 149 (pm_tl 148 (s_aload 2 149)) (pm_tl 149 (s_iload 6 151)))) (pm_tn 153 (pm_tn 152 (pm_tl 151 (s_push 1 152)) (pm_tl 152 (s_zast 153))) (pm_tn 156 (pm_tl 153 (s_goto 191)) (pm_tl 156 (s_aload 0 157))))))) (pm_tn 185 (pm_tn 170 (pm_tn 163 (pm_tn 160 (pm_tl 157 (s_getR 7 22 160)) (pm_tn 162 (pm_tl 160 (s_iload 5 162)) (pm_tl 162 (s_aload 0 163)))) (pm_tn 167 (pm_tn 164 (pm_tl 163 (s_aload 0 164)) (pm_tl 164 (s_getR 7 22 167))) (pm_tn 169 (pm_tl 167 (s_iload 6 169)) (pm_tl 169 (s_iald 170))))) (pm_tn 178 (pm_tn 174 (pm_tn 171 (pm_tl 170 (s_aload 0 171)) (pm_tl 171 (s_getR 7 21 174))) (pm_tn 175 (pm_tl 174 (s_aload 0 175)) (pm_tl 175 (s_getR 7 7 178)))) (pm_tn 181 (pm_tn 180 (pm_tl 178 (s_iload 4 180)) (pm_tl 180 (s_iald 181))) (pm_tn 182 (pm_tl 181 (s_iald 182)) (pm_tl 182 (s_call 94 3 0 7 1 (fun _ => 0) 185)))))) (pm_tn 200 (pm_tn 190 (pm_tn 187 (pm_tn 186 (pm_tl 185 (s_iast 186)) (pm_tl 186 (s_aload 2 187))) (pm_tn 189 (pm_tl 187 (s_iload 5 189)) (pm_tl 189 (s_push 1 190)))) (pm_tn 194 (pm_tn 191 (pm_tl 190 (s_zast 191)) (pm_tl 191 (s_iinc 4 1 194))) (pm_tn 197 (pm_tl 194 (s_K 68 [true, true, true, true, true, false, false] (s_goto 68))) (pm_tl 197 (s_iinc 3 1 200))))) (pm_tn 208 (pm_tn 204 (pm_tn 203 (pm_tl 200 (s_K 59 [true, true, true, true, false, false, false] (s_goto 59))) (pm_tl 203 (s_iload 1 204))) (pm_tn 207 (pm_tl 204 (s_ifge 211 207)) (pm_tl 207 (s_push (-1) 208)))) (pm_tn 212 (pm_tn 211 (pm_tl 208 (s_goto 215)) (pm_tl 211 (s_aload 0 212))) (pm_tn 215 (pm_tl 212 (s_call 129 1 3 7 1 (fun _ => 3) 215)) (pm_tl 215 (s_iret)))))))))
theorem tc_M_still : ∀ pc, pm_Ct (t_M_still pc) := (ct_tn (ct_tn (ct_tn (ct_tn (ct_tn (ct_tn (ct_tl (ct_aload _ _)) (ct_tn (ct_tl (ct_call _ _ _ _ _ _ _)) (ct_tl (ct_aload _ _)))) (ct_tn (ct_tn (ct_tl (ct_call _ _ _ _ _ _ _)) (ct_tl (ct_aload _ _))) (ct_tn (ct_tl (ct_call _ _ _ _ _ _ _)) (ct_tl (ct_istore _ _))))) (ct_tn (ct_tn (ct_tn (ct_tl (ct_aload _ _)) (ct_tl (ct_getR _ _ _))) (ct_tn (ct_tl (ct_astore _ _)) (ct_tl (ct_push _ _)))) (ct_tn (ct_tn (ct_tl (ct_K (ct_istore _ _))) (ct_tl (ct_iload _ _))) (ct_tn (ct_tl (ct_push _ _)) (ct_tl (ct_cge _ _)))))) (ct_tn (ct_tn (ct_tn (ct_tl (ct_aload _ _)) (ct_tn (ct_tl (ct_iload _ _)) (ct_tl (ct_aload _ _)))) (ct_tn (ct_tn (ct_tl (ct_getR _ _ _)) (ct_tl (ct_iload _ _))) (ct_tn (ct_tl (ct_iald _)) (ct_tl (ct_iload _ _))))) (ct_tn (ct_tn (ct_tn (ct_tl (ct_cne _ _)) (ct_tl (ct_push _ _))) (ct_tn (ct_tl (ct_goto _)) (ct_tl (ct_push _ _)))) (ct_tn (ct_tn (ct_tl (ct_zast _)) (ct_tl (ct_aload _ _))) (ct_tn (ct_tl (ct_getR _ _ _)) (ct_tl (ct_iload _ _))))))) (ct_tn (ct_tn (ct_tn (ct_tn (ct_tl (ct_push _ _)) (ct_tn (ct_tl (ct_iast _)) (ct_tl (ct_iinc _ _ _)))) (ct_tn (ct_tn (ct_tl (ct_K (ct_goto _))) (ct_tl (ct_push _ _))) (ct_tn (ct_tl (ct_K (ct_istore _ _))) (ct_tl (ct_iload _ _))))) (ct_tn (ct_tn (ct_tn (ct_tl (ct_push _ _)) (ct_tl (ct_cge _ _))) (ct_tn (ct_tl (ct_push _ _)) (ct_tl (ct_K (ct_istore _ _))))) (ct_tn (ct_tn (ct_tl (ct_iload _ _)) (ct_tl (ct_aload _ _))) (ct_tn (ct_tl (ct_getI _ _ _)) (ct_tl (ct_cge _ _)))))) (ct_tn (ct_tn (ct_tn (ct_tn (ct_tl (ct_aload _ _)) (ct_tl (ct_getR _ _ _))) (ct_tn (ct_tl (ct_iload _ _)) (ct_tl (ct_iald _)))) (ct_tn (ct_tn (ct_tl (ct_istore _ _)) (ct_tl (ct_aload _ _))) (ct_tn (ct_tl (ct_getR _ _ _)) (ct_tl (ct_iload _ _))))) (ct_tn (ct_tn (ct_tn (ct_tl (ct_iald _)) (ct_tl (ct_istore _ _))) (ct_tn (ct_tl (ct_aload _ _)) (ct_tl (ct_getR _ _ _)))) (ct_tn (ct_tn (ct_tl (ct_iload _ _)) (ct_tl (ct_zald _))) (ct_tn (ct_tl (ct_ifeq _ _)) (ct_tl (ct_aload _ _)))))))) (ct_tn (ct_tn (ct_tn (ct_tn (ct_tn (ct_tl (ct_iload _ _)) (ct_tn (ct_tl (ct_zald _)) (ct_tl (ct_aload _ _)))) (ct_tn (ct_tn (ct_tl (ct_iload _ _)) (ct_tl (ct_zald _))) (ct_tn (ct_tl (ct_ceq _ _)) (ct_tl (ct_aload _ _))))) (ct_tn (ct_tn (ct_tn (ct_tl (ct_iload _ _)) (ct_tl (ct_zald _))) (ct_tn (ct_tl (ct_ifeq _ _)) (ct_tl (ct_aload _ _)))) (ct_tn (ct_tn (ct_tl (ct_getR _ _ _)) (ct_tl (ct_iload _ _))) (ct_tn (ct_tl (ct_aload _ _)) (ct_tl (ct_aload _ _)))))) (ct_tn (ct_tn (ct_tn (ct_tl (ct_getR _ _ _)) (ct_tn (ct_tl (ct_iload _ _)) (ct_tl (ct_iald _)))) (ct_tn (ct_tn (ct_tl (ct_aload _ _)) (ct_tl (ct_getR _ _ _))) (ct_tn (ct_tl (ct_iload _ _)) (ct_tl (ct_iald _))))) (ct_tn (ct_tn (ct_tn (ct_tl (ct_call _ _ _ _ _ _ _)) (ct_tl (ct_iast _))) (ct_tn (ct_tl (ct_aload _ _)) (ct_tl (ct_iload _ _)))) (ct_tn (ct_tn (ct_tl (ct_push _ _)) (ct_tl (ct_zast _))) (ct_tn (ct_tl (ct_goto _)) (ct_tl (ct_aload _ _))))))) (ct_tn (ct_tn (ct_tn (ct_tn (ct_tl (ct_getR _ _ _)) (ct_tn (ct_tl (ct_iload _ _)) (ct_tl (ct_aload _ _)))) (ct_tn (ct_tn (ct_tl (ct_aload _ _)) (ct_tl (ct_getR _ _ _))) (ct_tn (ct_tl (ct_iload _ _)) (ct_tl (ct_iald _))))) (ct_tn (ct_tn (ct_tn (ct_tl (ct_aload _ _)) (ct_tl (ct_getR _ _ _))) (ct_tn (ct_tl (ct_aload _ _)) (ct_tl (ct_getR _ _ _)))) (ct_tn (ct_tn (ct_tl (ct_iload _ _)) (ct_tl (ct_iald _))) (ct_tn (ct_tl (ct_iald _)) (ct_tl (ct_call _ _ _ _ _ _ _)))))) (ct_tn (ct_tn (ct_tn (ct_tn (ct_tl (ct_iast _)) (ct_tl (ct_aload _ _))) (ct_tn (ct_tl (ct_iload _ _)) (ct_tl (ct_push _ _)))) (ct_tn (ct_tn (ct_tl (ct_zast _)) (ct_tl (ct_iinc _ _ _))) (ct_tn (ct_tl (ct_K (ct_goto _))) (ct_tl (ct_iinc _ _ _))))) (ct_tn (ct_tn (ct_tn (ct_tl (ct_K (ct_goto _))) (ct_tl (ct_iload _ _))) (ct_tn (ct_tl (ct_ifge _ _)) (ct_tl (ct_push _ _)))) (ct_tn (ct_tn (ct_tl (ct_goto _)) (ct_tl (ct_aload _ _))) (ct_tn (ct_tl (ct_call _ _ _ _ _ _ _)) (ct_tl (ct_iret)))))))))
def t_M_tree : Nat → pm_S := (pm_tn 16 (pm_tn 9 (pm_tn 2 (pm_tn 1 (pm_tl 0 (s_aload 0 1)) (pm_tl 1 (s_iload 1 2))) (pm_tn 5 (pm_tl 2 (s_call 108 2 0 7 1 (fun _ => 1) 5)) (pm_tn 8 (pm_tl 5 (s_ifne 10 8)) (pm_tl 8 (s_push (-1) 9))))) (pm_tn 11 (pm_tn 10 (pm_tl 9 (s_iret)) (pm_tl 10 (s_aload 0 11))) (pm_tn 14 (pm_tl 11 (s_call 131 1 5 7 1 (fun _ => 0) 14)) (pm_tn 15 (pm_tl 14 (s_istore 2 15)) (pm_tl 15 (s_iload 2 16)))))) (pm_tn 25 (pm_tn 20 (pm_tn 19 (pm_tl 16 (s_iflt 32 19)) (pm_tl 19 (s_aload 0 20))) (pm_tn 23 (pm_tl 20 (s_getR 7 24 23)) (pm_tn 24 (pm_tl 23 (s_iload 1 24)) (pm_tl 24 (s_zald 25))))) (pm_tn 29 (pm_tn 28 (pm_tl 25 (s_ifeq 32 28)) (pm_tl 28 (s_push 1 29))) (pm_tn 32 (pm_tl 29 (s_goto 33)) (pm_tn 33 (pm_tl 32 (s_push 0 33)) (pm_tl 33 (s_iret)))))))
theorem tc_M_tree : ∀ pc, pm_Ct (t_M_tree pc) := (ct_tn (ct_tn (ct_tn (ct_tn (ct_tl (ct_aload _ _)) (ct_tl (ct_iload _ _))) (ct_tn (ct_tl (ct_call _ _ _ _ _ _ _)) (ct_tn (ct_tl (ct_ifne _ _)) (ct_tl (ct_push _ _))))) (ct_tn (ct_tn (ct_tl (ct_iret)) (ct_tl (ct_aload _ _))) (ct_tn (ct_tl (ct_call _ _ _ _ _ _ _)) (ct_tn (ct_tl (ct_istore _ _)) (ct_tl (ct_iload _ _)))))) (ct_tn (ct_tn (ct_tn (ct_tl (ct_iflt _ _)) (ct_tl (ct_aload _ _))) (ct_tn (ct_tl (ct_getR _ _ _)) (ct_tn (ct_tl (ct_iload _ _)) (ct_tl (ct_zald _))))) (ct_tn (ct_tn (ct_tl (ct_ifeq _ _)) (ct_tl (ct_push _ _))) (ct_tn (ct_tl (ct_goto _)) (ct_tn (ct_tl (ct_push _ _)) (ct_tl (ct_iret)))))))
def t_M_power : Nat → pm_S := (pm_tn 12 (pm_tn 5 (pm_tn 2 (pm_tn 1 (pm_tl 0 (s_lpush 1 1)) (pm_tl 1 (s_lstore 2 2))) (pm_tn 3 (pm_tl 2 (s_push 0 3)) (pm_tl 3 (s_K 5 [true, true, true, false, true] (s_istore 4 5))))) (pm_tn 8 (pm_tn 7 (pm_tl 5 (s_iload 4 7)) (pm_tl 7 (s_iload 1 8))) (pm_tn 11 (pm_tl 8 (s_cge 25 11)) (pm_tl 11 (s_lload 2 12))))) (pm_tn 18 (pm_tn 16 (pm_tn 13 (pm_tl 12 (s_aload 0 13)) (pm_tl 13 (s_getI 7 0 16))) (pm_tn 17 (pm_tl 16 (s_i2l 17)) (pm_tl 17 (s_lmul 18)))) (pm_tn 22 (pm_tn 19 (pm_tl 18 (s_lstore 2 19)) (pm_tl 19 (s_iinc 4 1 22))) (pm_tn 25 (pm_tl 22 (s_K 5 [true, true, true, false, true] (s_goto 5))) (pm_tn 26 (pm_tl 25 (s_lload 2 26)) (pm_tl 26 (s_lret)))))))
theorem tc_M_power : ∀ pc, pm_Ct (t_M_power pc) := (ct_tn (ct_tn (ct_tn (ct_tn (ct_tl (ct_lpush _ _)) (ct_tl (ct_lstore _ _))) (ct_tn (ct_tl (ct_push _ _)) (ct_tl (ct_K (ct_istore _ _))))) (ct_tn (ct_tn (ct_tl (ct_iload _ _)) (ct_tl (ct_iload _ _))) (ct_tn (ct_tl (ct_cge _ _)) (ct_tl (ct_lload _ _))))) (ct_tn (ct_tn (ct_tn (ct_tl (ct_aload _ _)) (ct_tl (ct_getI _ _ _))) (ct_tn (ct_tl (ct_i2l _)) (ct_tl (ct_lmul _)))) (ct_tn (ct_tn (ct_tl (ct_lstore _ _)) (ct_tl (ct_iinc _ _ _))) (ct_tn (ct_tl (ct_K (ct_goto _))) (ct_tn (ct_tl (ct_lload _ _)) (ct_tl (ct_lret)))))))
def t_M_isFlat : Nat → pm_S := (pm_tn 25 (pm_tn 9 (pm_tn 3 (pm_tn 1 (pm_tl 0 (s_push 1 1)) (pm_tn 2 (pm_tl 1 (s_istore 1 2)) (pm_tl 2 (s_push 0 3)))) (pm_tn 5 (pm_tn 4 (pm_tl 3 (s_K 4 [true, true, true] (s_istore 2 4))) (pm_tl 4 (s_iload 2 5))) (pm_tn 6 (pm_tl 5 (s_aload 0 6)) (pm_tl 6 (s_getI 7 8 9))))) (pm_tn 17 (pm_tn 13 (pm_tn 12 (pm_tl 9 (s_cge 53 12)) (pm_tl 12 (s_iload 1 13))) (pm_tn 16 (pm_tl 13 (s_ifeq 45 16)) (pm_tl 16 (s_aload 0 17)))) (pm_tn 21 (pm_tn 20 (pm_tl 17 (s_getR 7 13 20)) (pm_tl 20 (s_iload 2 21))) (pm_tn 22 (pm_tl 21 (s_zald 22)) (pm_tl 22 (s_ifeq 41 25)))))) (pm_tn 41 (pm_tn 33 (pm_tn 27 (pm_tn 26 (pm_tl 25 (s_aload 0 26)) (pm_tl 26 (s_iload 2 27))) (pm_tn 30 (pm_tl 27 (s_call 117 2 0 7 1 (fun _ => 1) 30)) (pm_tl 30 (s_ifeq 41 33)))) (pm_tn 35 (pm_tn 34 (pm_tl 33 (s_aload 0 34)) (pm_tl 34 (s_iload 2 35))) (pm_tn 38 (pm_tl 35 (s_call 119 2 3 7 1 (fun _ => 1) 38)) (pm_tl 38 (s_ifne 45 41))))) (pm_tn 47 (pm_tn 45 (pm_tn 42 (pm_tl 41 (s_push 1 42)) (pm_tl 42 (s_goto 46))) (pm_tn 46 (pm_tl 45 (s_push 0 46)) (pm_tl 46 (s_istore 1 47)))) (pm_tn 53 (pm_tn 50 (pm_tl 47 (s_iinc 2 1 50)) (pm_tl 50 (s_K 4 [true, true, true] (s_goto 4)))) (pm_tn 54 (pm_tl 53 (s_iload 1 54)) (pm_tl 54 (s_zret)))))))
theorem tc_M_isFlat : ∀ pc, pm_Ct (t_M_isFlat pc) := (ct_tn (ct_tn (ct_tn (ct_tn (ct_tl (ct_push _ _)) (ct_tn (ct_tl (ct_istore _ _)) (ct_tl (ct_push _ _)))) (ct_tn (ct_tn (ct_tl (ct_K (ct_istore _ _))) (ct_tl (ct_iload _ _))) (ct_tn (ct_tl (ct_aload _ _)) (ct_tl (ct_getI _ _ _))))) (ct_tn (ct_tn (ct_tn (ct_tl (ct_cge _ _)) (ct_tl (ct_iload _ _))) (ct_tn (ct_tl (ct_ifeq _ _)) (ct_tl (ct_aload _ _)))) (ct_tn (ct_tn (ct_tl (ct_getR _ _ _)) (ct_tl (ct_iload _ _))) (ct_tn (ct_tl (ct_zald _)) (ct_tl (ct_ifeq _ _)))))) (ct_tn (ct_tn (ct_tn (ct_tn (ct_tl (ct_aload _ _)) (ct_tl (ct_iload _ _))) (ct_tn (ct_tl (ct_call _ _ _ _ _ _ _)) (ct_tl (ct_ifeq _ _)))) (ct_tn (ct_tn (ct_tl (ct_aload _ _)) (ct_tl (ct_iload _ _))) (ct_tn (ct_tl (ct_call _ _ _ _ _ _ _)) (ct_tl (ct_ifne _ _))))) (ct_tn (ct_tn (ct_tn (ct_tl (ct_push _ _)) (ct_tl (ct_goto _))) (ct_tn (ct_tl (ct_push _ _)) (ct_tl (ct_istore _ _)))) (ct_tn (ct_tn (ct_tl (ct_iinc _ _ _)) (ct_tl (ct_K (ct_goto _)))) (ct_tn (ct_tl (ct_iload _ _)) (ct_tl (ct_zret)))))))
def t_M_summed : Nat → pm_S := (pm_tn 114 (pm_tn 58 (pm_tn 28 (pm_tn 12 (pm_tn 6 (pm_tn 1 (pm_tl 0 (s_aload 0 1)) (pm_tn 4 (pm_tl 1 (s_call 131 1 5 7 1 (fun _ => 0) 4)) (pm_tl 4 (s_istore 4 6)))) (pm_tn 10 (pm_tn 7 (pm_tl 6 (s_aload 0 7)) (pm_tl 7 (s_call 120 1 1 7 0 (fun _ => 2) 10))) (pm_tn 11 (pm_tl 10 (s_aload 0 11)) (pm_tl 11 (s_aload 0 12))))) (pm_tn 18 (pm_tn 15 (pm_tl 12 (s_getI 7 4 15)) (pm_tn 17 (pm_tl 15 (s_iload 4 17)) (pm_tl 17 (s_isub 18)))) (pm_tn 23 (pm_tn 21 (pm_tl 18 (s_call 134 2 3 7 2 (fun _ => 0) 21)) (pm_tl 21 (s_lstore 5 23))) (pm_tn 25 (pm_tl 23 (s_lload 5 25)) (pm_tl 25 (s_lpush 40000 28)))))) (pm_tn 42 (pm_tn 35 (pm_tn 29 (pm_tl 28 (s_lcmp 29)) (pm_tn 32 (pm_tl 29 (s_ifle 36 32)) (pm_tl 32 (s_lpush (-6) 35)))) (pm_tn 37 (pm_tn 36 (pm_tl 35 (s_lret)) (pm_tl 36 (s_aload 0 37))) (pm_tn 40 (pm_tl 37 (s_getR 7 26 40)) (pm_tl 40 (s_astore 7 42))))) (pm_tn 48 (pm_tn 45 (pm_tn 43 (pm_tl 42 (s_push 0 43)) (pm_tl 43 (s_K 45 [true, true, true, true, true, true, false, true, true, false, false, false, false] (s_istore 8 45)))) (pm_tn 47 (pm_tl 45 (s_iload 8 47)) (pm_tl 47 (s_aload 0 48)))) (pm_tn 54 (pm_tn 51 (pm_tl 48 (s_getI 7 0 51)) (pm_tl 51 (s_cge 71 54))) (pm_tn 56 (pm_tl 54 (s_aload 7 56)) (pm_tl 56 (s_iload 8 58))))))) (pm_tn 83 (pm_tn 72 (pm_tn 64 (pm_tn 59 (pm_tl 58 (s_aload 0 59)) (pm_tn 61 (pm_tl 59 (s_iload 8 61)) (pm_tl 61 (s_call 103 2 3 7 1 (fun _ => 2) 64)))) (pm_tn 68 (pm_tn 65 (pm_tl 64 (s_iast 65)) (pm_tl 65 (s_iinc 8 1 68))) (pm_tn 71 (pm_tl 68 (s_K 45 [true, true, true, true, true, true, false, true, true, false, false, false, false] (s_goto 45))) (pm_tl 71 (s_lpush 0 72))))) (pm_tn 77 (pm_tn 74 (pm_tl 72 (s_lstore 8 74)) (pm_tn 75 (pm_tl 74 (s_push 0 75)) (pm_tl 75 (s_K 77 [true, true, true, true, true, true, false, true, true, false, true, false, false] (s_istore 10 77))))) (pm_tn 80 (pm_tn 79 (pm_tl 77 (s_iload 10 79)) (pm_tl 79 (s_i2l 80))) (pm_tn 82 (pm_tl 80 (s_lload 5 82)) (pm_tl 82 (s_lcmp 83)))))) (pm_tn 96 (pm_tn 90 (pm_tn 86 (pm_tl 83 (s_ifge 215 86)) (pm_tn 88 (pm_tl 86 (s_iload 10 88)) (pm_tl 88 (s_istore 11 90)))) (pm_tn 93 (pm_tn 91 (pm_tl 90 (s_push 0 91)) (pm_tl 91 (s_K 93 [true, true, true, true, true, true, false, true, true, false, true, true, true] (s_istore 12 93)))) (pm_tn 95 (pm_tl 93 (s_iload 12 95)) (pm_tl 95 (s_aload 0 96))))) (pm_tn 106 (pm_tn 102 (pm_tn 99 (pm_tl 96 (s_getI 7 4 99)) (pm_tl 99 (s_cge 159 102))) (pm_tn 103 (pm_tl 102 (s_aload 0 103)) (pm_tl 103 (s_getR 7 20 106)))) (pm_tn 109 (pm_tn 108 (pm_tl 106 (s_iload 12 108)) (pm_tl 108 (s_aload 0 109))) (pm_tn 112 (pm_tl 109 (s_getR 7 24 112)) (pm_tl 112 (s_iload 12 114)))))))) (pm_tn 170 (pm_tn 139 (pm_tn 128 (pm_tn 119 (pm_tn 115 (pm_tl 114 (s_zald 115)) (pm_tn 118 (pm_tl 115 (s_ifeq 122 118)) (pm_tl 118 (s_push 0 119)))) (pm_tn 124 (pm_tn 122 (pm_tl 119 (s_goto 129)) (pm_tl 122 (s_iload 11 124))) (pm_tn 125 (pm_tl 124 (s_aload 0 125)) (pm_tl 125 (s_getI 7 0 128))))) (pm_tn 132 (pm_tn 129 (pm_tl 128 (s_irem 129)) (pm_tn 130 (pm_tl 129 (s_iast 130)) (pm_tl 130 (s_iload 11 132)))) (pm_tn 136 (pm_tn 133 (pm_tl 132 (s_aload 0 133)) (pm_tl 133 (s_getR 7 24 136))) (pm_tn 138 (pm_tl 136 (s_iload 12 138)) (pm_tl 138 (s_zald 139)))))) (pm_tn 153 (pm_tn 146 (pm_tn 142 (pm_tl 139 (s_ifeq 146 142)) (pm_tn 143 (pm_tl 142 (s_push 1 143)) (pm_tl 143 (s_goto 150)))) (pm_tn 150 (pm_tn 147 (pm_tl 146 (s_aload 0 147)) (pm_tl 147 (s_getI 7 0 150))) (pm_tn 151 (pm_tl 150 (s_idiv 151)) (pm_tl 151 (s_istore 11 153))))) (pm_tn 161 (pm_tn 159 (pm_tn 156 (pm_tl 153 (s_iinc 12 1 156)) (pm_tl 156 (s_K 93 [true, true, true, true, true, true, false, true, true, false, true, true, true] (s_goto 93)))) (pm_tn 160 (pm_tl 159 (s_iload 1 160)) (pm_tl 160 (s_push 2 161)))) (pm_tn 166 (pm_tn 164 (pm_tl 161 (s_cne 184 164)) (pm_tl 164 (s_lload 8 166))) (pm_tn 167 (pm_tl 166 (s_aload 0 167)) (pm_tl 167 (s_call 135 1 2 7 1 (fun _ => 2) 170))))))) (pm_tn 196 (pm_tn 184 (pm_tn 177 (pm_tn 173 (pm_tl 170 (s_ifeq 177 173)) (pm_tn 174 (pm_tl 173 (s_lpush 1 174)) (pm_tl 174 (s_goto 178)))) (pm_tn 179 (pm_tn 178 (pm_tl 177 (s_lpush 0 178)) (pm_tl 178 (s_ladd 179))) (pm_tn 181 (pm_tl 179 (s_lstore 8 181)) (pm_tl 181 (s_goto 209))))) (pm_tn 190 (pm_tn 185 (pm_tl 184 (s_iload 1 185)) (pm_tn 188 (pm_tl 185 (s_ifeq 200 188)) (pm_tl 188 (s_aload 7 190)))) (pm_tn 192 (pm_tn 191 (pm_tl 190 (s_aload 0 191)) (pm_tl 191 (s_iload 2 192))) (pm_tn 195 (pm_tl 192 (s_call 119 2 3 7 1 (fun _ => 1) 195)) (pm_tl 195 (s_iald 196)))))) (pm_tn 209 (pm_tn 202 (pm_tn 197 (pm_tl 196 (s_iload 3 197)) (pm_tn 200 (pm_tl 197 (s_cne 209 200)) (pm_tl 200 (s_lload 8 202)))) (pm_tn 206 (pm_tn 203 (pm_tl 202 (s_aload 0 203)) (pm_tl 203 (s_call 127 1 3 7 2 (fun _ => 2) 206))) (pm_tn 207 (pm_tl 206 (s_ladd 207)) (pm_tl 207 (s_lstore 8 209))))) (pm_tn 218 (pm_tn 215 (pm_tn 212 (pm_tl 209 (s_iinc 10 1 212)) (pm_tl 212 (s_K 77 [true, true, true, true, true, true, false, true, true, false, true, false, false] (s_goto 77)))) (pm_tn 217 (pm_tl 215 (s_lload 8 217)) (pm_tl 217 (s_aload 0 218)))) (pm_tn 223 (pm_tn 220 (pm_tl 218 (s_iload 4 220)) (pm_tl 220 (s_call 134 2 3 7 2 (fun _ => 0) 223))) (pm_tn 224 (pm_tl 223 (s_lmul 224)) (pm_tl 224 (s_lret)))))))))
theorem tc_M_summed : ∀ pc, pm_Ct (t_M_summed pc) := (ct_tn (ct_tn (ct_tn (ct_tn (ct_tn (ct_tn (ct_tl (ct_aload _ _)) (ct_tn (ct_tl (ct_call _ _ _ _ _ _ _)) (ct_tl (ct_istore _ _)))) (ct_tn (ct_tn (ct_tl (ct_aload _ _)) (ct_tl (ct_call _ _ _ _ _ _ _))) (ct_tn (ct_tl (ct_aload _ _)) (ct_tl (ct_aload _ _))))) (ct_tn (ct_tn (ct_tl (ct_getI _ _ _)) (ct_tn (ct_tl (ct_iload _ _)) (ct_tl (ct_isub _)))) (ct_tn (ct_tn (ct_tl (ct_call _ _ _ _ _ _ _)) (ct_tl (ct_lstore _ _))) (ct_tn (ct_tl (ct_lload _ _)) (ct_tl (ct_lpush _ _)))))) (ct_tn (ct_tn (ct_tn (ct_tl (ct_lcmp _)) (ct_tn (ct_tl (ct_ifle _ _)) (ct_tl (ct_lpush _ _)))) (ct_tn (ct_tn (ct_tl (ct_lret)) (ct_tl (ct_aload _ _))) (ct_tn (ct_tl (ct_getR _ _ _)) (ct_tl (ct_astore _ _))))) (ct_tn (ct_tn (ct_tn (ct_tl (ct_push _ _)) (ct_tl (ct_K (ct_istore _ _)))) (ct_tn (ct_tl (ct_iload _ _)) (ct_tl (ct_aload _ _)))) (ct_tn (ct_tn (ct_tl (ct_getI _ _ _)) (ct_tl (ct_cge _ _))) (ct_tn (ct_tl (ct_aload _ _)) (ct_tl (ct_iload _ _))))))) (ct_tn (ct_tn (ct_tn (ct_tn (ct_tl (ct_aload _ _)) (ct_tn (ct_tl (ct_iload _ _)) (ct_tl (ct_call _ _ _ _ _ _ _)))) (ct_tn (ct_tn (ct_tl (ct_iast _)) (ct_tl (ct_iinc _ _ _))) (ct_tn (ct_tl (ct_K (ct_goto _))) (ct_tl (ct_lpush _ _))))) (ct_tn (ct_tn (ct_tl (ct_lstore _ _)) (ct_tn (ct_tl (ct_push _ _)) (ct_tl (ct_K (ct_istore _ _))))) (ct_tn (ct_tn (ct_tl (ct_iload _ _)) (ct_tl (ct_i2l _))) (ct_tn (ct_tl (ct_lload _ _)) (ct_tl (ct_lcmp _)))))) (ct_tn (ct_tn (ct_tn (ct_tl (ct_ifge _ _)) (ct_tn (ct_tl (ct_iload _ _)) (ct_tl (ct_istore _ _)))) (ct_tn (ct_tn (ct_tl (ct_push _ _)) (ct_tl (ct_K (ct_istore _ _)))) (ct_tn (ct_tl (ct_iload _ _)) (ct_tl (ct_aload _ _))))) (ct_tn (ct_tn (ct_tn (ct_tl (ct_getI _ _ _)) (ct_tl (ct_cge _ _))) (ct_tn (ct_tl (ct_aload _ _)) (ct_tl (ct_getR _ _ _)))) (ct_tn (ct_tn (ct_tl (ct_iload _ _)) (ct_tl (ct_aload _ _))) (ct_tn (ct_tl (ct_getR _ _ _)) (ct_tl (ct_iload _ _)))))))) (ct_tn (ct_tn (ct_tn (ct_tn (ct_tn (ct_tl (ct_zald _)) (ct_tn (ct_tl (ct_ifeq _ _)) (ct_tl (ct_push _ _)))) (ct_tn (ct_tn (ct_tl (ct_goto _)) (ct_tl (ct_iload _ _))) (ct_tn (ct_tl (ct_aload _ _)) (ct_tl (ct_getI _ _ _))))) (ct_tn (ct_tn (ct_tl (ct_irem _)) (ct_tn (ct_tl (ct_iast _)) (ct_tl (ct_iload _ _)))) (ct_tn (ct_tn (ct_tl (ct_aload _ _)) (ct_tl (ct_getR _ _ _))) (ct_tn (ct_tl (ct_iload _ _)) (ct_tl (ct_zald _)))))) (ct_tn (ct_tn (ct_tn (ct_tl (ct_ifeq _ _)) (ct_tn (ct_tl (ct_push _ _)) (ct_tl (ct_goto _)))) (ct_tn (ct_tn (ct_tl (ct_aload _ _)) (ct_tl (ct_getI _ _ _))) (ct_tn (ct_tl (ct_idiv _)) (ct_tl (ct_istore _ _))))) (ct_tn (ct_tn (ct_tn (ct_tl (ct_iinc _ _ _)) (ct_tl (ct_K (ct_goto _)))) (ct_tn (ct_tl (ct_iload _ _)) (ct_tl (ct_push _ _)))) (ct_tn (ct_tn (ct_tl (ct_cne _ _)) (ct_tl (ct_lload _ _))) (ct_tn (ct_tl (ct_aload _ _)) (ct_tl (ct_call _ _ _ _ _ _ _))))))) (ct_tn (ct_tn (ct_tn (ct_tn (ct_tl (ct_ifeq _ _)) (ct_tn (ct_tl (ct_lpush _ _)) (ct_tl (ct_goto _)))) (ct_tn (ct_tn (ct_tl (ct_lpush _ _)) (ct_tl (ct_ladd _))) (ct_tn (ct_tl (ct_lstore _ _)) (ct_tl (ct_goto _))))) (ct_tn (ct_tn (ct_tl (ct_iload _ _)) (ct_tn (ct_tl (ct_ifeq _ _)) (ct_tl (ct_aload _ _)))) (ct_tn (ct_tn (ct_tl (ct_aload _ _)) (ct_tl (ct_iload _ _))) (ct_tn (ct_tl (ct_call _ _ _ _ _ _ _)) (ct_tl (ct_iald _)))))) (ct_tn (ct_tn (ct_tn (ct_tl (ct_iload _ _)) (ct_tn (ct_tl (ct_cne _ _)) (ct_tl (ct_lload _ _)))) (ct_tn (ct_tn (ct_tl (ct_aload _ _)) (ct_tl (ct_call _ _ _ _ _ _ _))) (ct_tn (ct_tl (ct_ladd _)) (ct_tl (ct_lstore _ _))))) (ct_tn (ct_tn (ct_tn (ct_tl (ct_iinc _ _ _)) (ct_tl (ct_K (ct_goto _)))) (ct_tn (ct_tl (ct_lload _ _)) (ct_tl (ct_aload _ _)))) (ct_tn (ct_tn (ct_tl (ct_iload _ _)) (ct_tl (ct_call _ _ _ _ _ _ _))) (ct_tn (ct_tl (ct_lmul _)) (ct_tl (ct_lret)))))))))
def t_M_sum : Nat → pm_S := (pm_tn 3 (pm_tn 1 (pm_tl 0 (s_aload 0 1)) (pm_tn 2 (pm_tl 1 (s_push 0 2)) (pm_tl 2 (s_push 0 3)))) (pm_tn 4 (pm_tl 3 (s_push 0 4)) (pm_tn 7 (pm_tl 4 (s_call 136 4 9 7 2 (fun _ => 3) 7)) (pm_tl 7 (s_lret)))))
theorem tc_M_sum : ∀ pc, pm_Ct (t_M_sum pc) := (ct_tn (ct_tn (ct_tl (ct_aload _ _)) (ct_tn (ct_tl (ct_push _ _)) (ct_tl (ct_push _ _)))) (ct_tn (ct_tl (ct_push _ _)) (ct_tn (ct_tl (ct_call _ _ _ _ _ _ _)) (ct_tl (ct_lret)))))
def t_M_canSum : Nat → pm_S := (pm_tn 16 (pm_tn 8 (pm_tn 2 (pm_tn 1 (pm_tl 0 (s_aload 0 1)) (pm_tl 1 (s_iload 1 2))) (pm_tn 5 (pm_tl 2 (s_call 109 2 0 7 1 (fun _ => 1) 5)) (pm_tl 5 (s_ifeq 28 8)))) (pm_tn 10 (pm_tn 9 (pm_tl 8 (s_aload 0 9)) (pm_tl 9 (s_iload 2 10))) (pm_tn 13 (pm_tl 10 (s_call 93 2 0 7 1 (fun _ => 1) 13)) (pm_tl 13 (s_ifeq 28 16))))) (pm_tn 24 (pm_tn 18 (pm_tn 17 (pm_tl 16 (s_aload 0 17)) (pm_tl 17 (s_iload 1 18))) (pm_tn 21 (pm_tl 18 (s_call 117 2 0 7 1 (fun _ => 1) 21)) (pm_tl 21 (s_ifeq 28 24)))) (pm_tn 28 (pm_tn 25 (pm_tl 24 (s_push 1 25)) (pm_tl 25 (s_goto 29))) (pm_tn 29 (pm_tl 28 (s_push 0 29)) (pm_tl 29 (s_zret))))))
theorem tc_M_canSum : ∀ pc, pm_Ct (t_M_canSum pc) := (ct_tn (ct_tn (ct_tn (ct_tn (ct_tl (ct_aload _ _)) (ct_tl (ct_iload _ _))) (ct_tn (ct_tl (ct_call _ _ _ _ _ _ _)) (ct_tl (ct_ifeq _ _)))) (ct_tn (ct_tn (ct_tl (ct_aload _ _)) (ct_tl (ct_iload _ _))) (ct_tn (ct_tl (ct_call _ _ _ _ _ _ _)) (ct_tl (ct_ifeq _ _))))) (ct_tn (ct_tn (ct_tn (ct_tl (ct_aload _ _)) (ct_tl (ct_iload _ _))) (ct_tn (ct_tl (ct_call _ _ _ _ _ _ _)) (ct_tl (ct_ifeq _ _)))) (ct_tn (ct_tn (ct_tl (ct_push _ _)) (ct_tl (ct_goto _))) (ct_tn (ct_tl (ct_push _ _)) (ct_tl (ct_zret))))))
def t_M_sumBy : Nat → pm_S := (pm_tn 11 (pm_tn 3 (pm_tn 1 (pm_tl 0 (s_aload 0 1)) (pm_tn 2 (pm_tl 1 (s_iload 1 2)) (pm_tl 2 (s_iload 2 3)))) (pm_tn 9 (pm_tn 6 (pm_tl 3 (s_call 138 3 0 7 1 (fun _ => 2) 6)) (pm_tl 6 (s_ifeq 23 9))) (pm_tn 10 (pm_tl 9 (s_aload 0 10)) (pm_tl 10 (s_push 1 11))))) (pm_tn 17 (pm_tn 13 (pm_tn 12 (pm_tl 11 (s_iload 1 12)) (pm_tl 12 (s_aload 0 13))) (pm_tn 14 (pm_tl 13 (s_iload 2 14)) (pm_tl 14 (s_call 103 2 3 7 1 (fun _ => 2) 17)))) (pm_tn 23 (pm_tn 20 (pm_tl 17 (s_call 136 4 9 7 2 (fun _ => 3) 20)) (pm_tl 20 (s_goto 26))) (pm_tn 26 (pm_tl 23 (s_lpush (-1) 26)) (pm_tl 26 (s_lret))))))
theorem tc_M_sumBy : ∀ pc, pm_Ct (t_M_sumBy pc) := (ct_tn (ct_tn (ct_tn (ct_tl (ct_aload _ _)) (ct_tn (ct_tl (ct_iload _ _)) (ct_tl (ct_iload _ _)))) (ct_tn (ct_tn (ct_tl (ct_call _ _ _ _ _ _ _)) (ct_tl (ct_ifeq _ _))) (ct_tn (ct_tl (ct_aload _ _)) (ct_tl (ct_push _ _))))) (ct_tn (ct_tn (ct_tn (ct_tl (ct_iload _ _)) (ct_tl (ct_aload _ _))) (ct_tn (ct_tl (ct_iload _ _)) (ct_tl (ct_call _ _ _ _ _ _ _)))) (ct_tn (ct_tn (ct_tl (ct_call _ _ _ _ _ _ _)) (ct_tl (ct_goto _))) (ct_tn (ct_tl (ct_lpush _ _)) (ct_tl (ct_lret))))))
def t_M_mean : Nat → pm_S := (pm_tn 57 (pm_tn 26 (pm_tn 12 (pm_tn 6 (pm_tn 2 (pm_tn 1 (pm_tl 0 (s_aload 0 1)) (pm_tl 1 (s_iload 1 2))) (pm_tn 3 (pm_tl 2 (s_iload 2 3)) (pm_tl 3 (s_call 138 3 0 7 1 (fun _ => 2) 6)))) (pm_tn 10 (pm_tn 9 (pm_tl 6 (s_ifeq 19 9)) (pm_tl 9 (s_iload 3 10))) (pm_tn 11 (pm_tl 10 (s_i2l 11)) (pm_tl 11 (s_lpush 0 12))))) (pm_tn 22 (pm_tn 16 (pm_tn 13 (pm_tl 12 (s_lpush 1 13)) (pm_tl 13 (s_call 92 3 0 99 1 (fun _ => 0) 16))) (pm_tn 19 (pm_tl 16 (s_ifne 23 19)) (pm_tl 19 (s_lpush (-1) 22)))) (pm_tn 24 (pm_tn 23 (pm_tl 22 (s_lret)) (pm_tl 23 (s_aload 0 24))) (pm_tn 25 (pm_tl 24 (s_push 0 25)) (pm_tl 25 (s_push 0 26)))))) (pm_tn 44 (pm_tn 34 (pm_tn 30 (pm_tn 27 (pm_tl 26 (s_push 0 27)) (pm_tl 27 (s_call 136 4 9 7 2 (fun _ => 3) 30))) (pm_tn 32 (pm_tl 30 (s_lstore 4 32)) (pm_tl 32 (s_lload 4 34)))) (pm_tn 38 (pm_tn 37 (pm_tl 34 (s_lpush (-6) 37)) (pm_tl 37 (s_lcmp 38))) (pm_tn 41 (pm_tl 38 (s_ifne 45 41)) (pm_tl 41 (s_lpush (-6) 44))))) (pm_tn 49 (pm_tn 47 (pm_tn 45 (pm_tl 44 (s_lret)) (pm_tl 45 (s_lload 4 47))) (pm_tn 48 (pm_tl 47 (s_lpush 0 48)) (pm_tl 48 (s_lcmp 49)))) (pm_tn 55 (pm_tn 52 (pm_tl 49 (s_ifne 56 52)) (pm_tl 52 (s_lpush (-2) 55))) (pm_tn 56 (pm_tl 55 (s_lret)) (pm_tl 56 (s_aload 0 57))))))) (pm_tn 86 (pm_tn 71 (pm_tn 61 (pm_tn 59 (pm_tn 58 (pm_tl 57 (s_push 1 58)) (pm_tl 58 (s_iload 1 59))) (pm_tn 60 (pm_tl 59 (s_aload 0 60)) (pm_tl 60 (s_iload 2 61)))) (pm_tn 67 (pm_tn 64 (pm_tl 61 (s_call 103 2 3 7 1 (fun _ => 2) 64)) (pm_tl 64 (s_call 136 4 9 7 2 (fun _ => 3) 67))) (pm_tn 69 (pm_tl 67 (s_lstore 6 69)) (pm_tl 69 (s_lload 6 71))))) (pm_tn 79 (pm_tn 75 (pm_tn 73 (pm_tl 71 (s_lstore 8 73)) (pm_tl 73 (s_lload 4 75))) (pm_tn 77 (pm_tl 75 (s_K 77 [false, false, false, true, true, false, true, false, true, false, true, false, false, false] (s_lstore 10 77))) (pm_tl 77 (s_lload 10 79)))) (pm_tn 81 (pm_tn 80 (pm_tl 79 (s_lpush 0 80)) (pm_tl 80 (s_lcmp 81))) (pm_tn 84 (pm_tl 81 (s_ifeq 102 84)) (pm_tl 84 (s_lload 8 86)))))) (pm_tn 102 (pm_tn 93 (pm_tn 89 (pm_tn 88 (pm_tl 86 (s_lload 10 88)) (pm_tl 88 (s_lrem 89))) (pm_tn 91 (pm_tl 89 (s_lstore 12 91)) (pm_tl 91 (s_lload 10 93)))) (pm_tn 97 (pm_tn 95 (pm_tl 93 (s_lstore 8 95)) (pm_tl 95 (s_lload 12 97))) (pm_tn 99 (pm_tl 97 (s_lstore 10 99)) (pm_tl 99 (s_K 77 [false, false, false, true, true, false, true, false, true, false, true, false, false, false] (s_goto 77)))))) (pm_tn 111 (pm_tn 106 (pm_tn 103 (pm_tl 102 (s_iload 3 103)) (pm_tl 103 (s_ifne 111 106))) (pm_tn 108 (pm_tl 106 (s_lload 6 108)) (pm_tl 108 (s_goto 113)))) (pm_tn 115 (pm_tn 113 (pm_tl 111 (s_lload 4 113)) (pm_tl 113 (s_lload 8 115))) (pm_tn 116 (pm_tl 115 (s_ldiv 116)) (pm_tl 116 (s_lret))))))))
theorem tc_M_mean : ∀ pc, pm_Ct (t_M_mean pc) := (ct_tn (ct_tn (ct_tn (ct_tn (ct_tn (ct_tn (ct_tl (ct_aload _ _)) (ct_tl (ct_iload _ _))) (ct_tn (ct_tl (ct_iload _ _)) (ct_tl (ct_call _ _ _ _ _ _ _)))) (ct_tn (ct_tn (ct_tl (ct_ifeq _ _)) (ct_tl (ct_iload _ _))) (ct_tn (ct_tl (ct_i2l _)) (ct_tl (ct_lpush _ _))))) (ct_tn (ct_tn (ct_tn (ct_tl (ct_lpush _ _)) (ct_tl (ct_call _ _ _ _ _ _ _))) (ct_tn (ct_tl (ct_ifne _ _)) (ct_tl (ct_lpush _ _)))) (ct_tn (ct_tn (ct_tl (ct_lret)) (ct_tl (ct_aload _ _))) (ct_tn (ct_tl (ct_push _ _)) (ct_tl (ct_push _ _)))))) (ct_tn (ct_tn (ct_tn (ct_tn (ct_tl (ct_push _ _)) (ct_tl (ct_call _ _ _ _ _ _ _))) (ct_tn (ct_tl (ct_lstore _ _)) (ct_tl (ct_lload _ _)))) (ct_tn (ct_tn (ct_tl (ct_lpush _ _)) (ct_tl (ct_lcmp _))) (ct_tn (ct_tl (ct_ifne _ _)) (ct_tl (ct_lpush _ _))))) (ct_tn (ct_tn (ct_tn (ct_tl (ct_lret)) (ct_tl (ct_lload _ _))) (ct_tn (ct_tl (ct_lpush _ _)) (ct_tl (ct_lcmp _)))) (ct_tn (ct_tn (ct_tl (ct_ifne _ _)) (ct_tl (ct_lpush _ _))) (ct_tn (ct_tl (ct_lret)) (ct_tl (ct_aload _ _))))))) (ct_tn (ct_tn (ct_tn (ct_tn (ct_tn (ct_tl (ct_push _ _)) (ct_tl (ct_iload _ _))) (ct_tn (ct_tl (ct_aload _ _)) (ct_tl (ct_iload _ _)))) (ct_tn (ct_tn (ct_tl (ct_call _ _ _ _ _ _ _)) (ct_tl (ct_call _ _ _ _ _ _ _))) (ct_tn (ct_tl (ct_lstore _ _)) (ct_tl (ct_lload _ _))))) (ct_tn (ct_tn (ct_tn (ct_tl (ct_lstore _ _)) (ct_tl (ct_lload _ _))) (ct_tn (ct_tl (ct_K (ct_lstore _ _))) (ct_tl (ct_lload _ _)))) (ct_tn (ct_tn (ct_tl (ct_lpush _ _)) (ct_tl (ct_lcmp _))) (ct_tn (ct_tl (ct_ifeq _ _)) (ct_tl (ct_lload _ _)))))) (ct_tn (ct_tn (ct_tn (ct_tn (ct_tl (ct_lload _ _)) (ct_tl (ct_lrem _))) (ct_tn (ct_tl (ct_lstore _ _)) (ct_tl (ct_lload _ _)))) (ct_tn (ct_tn (ct_tl (ct_lstore _ _)) (ct_tl (ct_lload _ _))) (ct_tn (ct_tl (ct_lstore _ _)) (ct_tl (ct_K (ct_goto _)))))) (ct_tn (ct_tn (ct_tn (ct_tl (ct_iload _ _)) (ct_tl (ct_ifne _ _))) (ct_tn (ct_tl (ct_lload _ _)) (ct_tl (ct_goto _)))) (ct_tn (ct_tn (ct_tl (ct_lload _ _)) (ct_tl (ct_lload _ _))) (ct_tn (ct_tl (ct_ldiv _)) (ct_tl (ct_lret))))))))
def t_M_flat : Nat → pm_S := (pm_tn 3 (pm_tn 1 (pm_tl 0 (s_aload 0 1)) (pm_tn 2 (pm_tl 1 (s_push 2 2)) (pm_tl 2 (s_push 0 3)))) (pm_tn 4 (pm_tl 3 (s_push 0 4)) (pm_tn 7 (pm_tl 4 (s_call 136 4 9 7 2 (fun _ => 3) 7)) (pm_tl 7 (s_lret)))))
theorem tc_M_flat : ∀ pc, pm_Ct (t_M_flat pc) := (ct_tn (ct_tn (ct_tl (ct_aload _ _)) (ct_tn (ct_tl (ct_push _ _)) (ct_tl (ct_push _ _)))) (ct_tn (ct_tl (ct_push _ _)) (ct_tn (ct_tl (ct_call _ _ _ _ _ _ _)) (ct_tl (ct_lret)))))
def t_M_fill : Nat → pm_S := (pm_tn 93 (pm_tn 49 (pm_tn 25 (pm_tn 12 (pm_tn 3 (pm_tn 1 (pm_tl 0 (s_iload 1 1)) (pm_tn 2 (pm_tl 1 (s_i2l 2)) (pm_tl 2 (s_lpush 0 3)))) (pm_tn 6 (pm_tl 3 (s_lpush 3 6)) (pm_tn 9 (pm_tl 6 (s_call 92 3 0 99 1 (fun _ => 0) 9)) (pm_tl 9 (s_ifeq 24 12))))) (pm_tn 15 (pm_tn 13 (pm_tl 12 (s_iload 2 13)) (pm_tn 14 (pm_tl 13 (s_i2l 14)) (pm_tl 14 (s_lpush 0 15)))) (pm_tn 21 (pm_tn 18 (pm_tl 15 (s_lpush 2 18)) (pm_tl 18 (s_call 92 3 0 99 1 (fun _ => 0) 21))) (pm_tn 24 (pm_tl 21 (s_ifne 26 24)) (pm_tl 24 (s_push (-1) 25)))))) (pm_tn 36 (pm_tn 30 (pm_tn 26 (pm_tl 25 (s_iret)) (pm_tn 27 (pm_tl 26 (s_aload 0 27)) (pm_tl 27 (s_getR 7 16 30)))) (pm_tn 32 (pm_tn 31 (pm_tl 30 (s_iload 1 31)) (pm_tl 31 (s_iald 32))) (pm_tn 33 (pm_tl 32 (s_iload 2 33)) (pm_tl 33 (s_ceq 55 36))))) (pm_tn 41 (pm_tn 37 (pm_tl 36 (s_aload 0 37)) (pm_tn 40 (pm_tl 37 (s_getR 7 16 40)) (pm_tl 40 (s_iload 1 41)))) (pm_tn 44 (pm_tn 42 (pm_tl 41 (s_iald 42)) (pm_tl 42 (s_push (-4) 44))) (pm_tn 47 (pm_tl 44 (s_cne 52 47)) (pm_tl 47 (s_push (-11) 49))))))) (pm_tn 72 (pm_tn 60 (pm_tn 55 (pm_tn 52 (pm_tl 49 (s_goto 54)) (pm_tn 54 (pm_tl 52 (s_push (-13) 54)) (pm_tl 54 (s_iret)))) (pm_tn 56 (pm_tl 55 (s_push 0 56)) (pm_tn 58 (pm_tl 56 (s_K 58 [true, true, false, true, true, false, false] (s_istore 4 58))) (pm_tl 58 (s_iload 4 60))))) (pm_tn 67 (pm_tn 61 (pm_tl 60 (s_aload 0 61)) (pm_tn 64 (pm_tl 61 (s_getI 7 4 64)) (pm_tl 64 (s_cge 125 67)))) (pm_tn 69 (pm_tn 68 (pm_tl 67 (s_iload 3 68)) (pm_tl 68 (s_i2l 69))) (pm_tn 71 (pm_tl 69 (s_iload 4 71)) (pm_tl 71 (s_i2l 72)))))) (pm_tn 81 (pm_tn 75 (pm_tn 73 (pm_tl 72 (s_ladd 73)) (pm_tn 74 (pm_tl 73 (s_lpush 0 74)) (pm_tl 74 (s_aload 0 75)))) (pm_tn 79 (pm_tn 78 (pm_tl 75 (s_getR 7 17 78)) (pm_tl 78 (s_iload 1 79))) (pm_tn 80 (pm_tl 79 (s_iald 80)) (pm_tl 80 (s_push 1 81))))) (pm_tn 86 (pm_tn 82 (pm_tl 81 (s_isub 82)) (pm_tn 83 (pm_tl 82 (s_i2l 83)) (pm_tl 83 (s_call 92 3 0 99 1 (fun _ => 0) 86)))) (pm_tn 91 (pm_tn 89 (pm_tl 86 (s_ifne 92 89)) (pm_tl 89 (s_push (-12) 91))) (pm_tn 92 (pm_tl 91 (s_iret)) (pm_tl 92 (s_aload 0 93)))))))) (pm_tn 141 (pm_tn 115 (pm_tn 102 (pm_tn 99 (pm_tn 94 (pm_tl 93 (s_aload 0 94)) (pm_tn 97 (pm_tl 94 (s_getR 7 18 97)) (pm_tl 97 (s_push 64 99)))) (pm_tn 100 (pm_tl 99 (s_iload 1 100)) (pm_tn 101 (pm_tl 100 (s_imul 101)) (pm_tl 101 (s_iload 3 102))))) (pm_tn 106 (pm_tn 103 (pm_tl 102 (s_iadd 103)) (pm_tn 105 (pm_tl 103 (s_iload 4 105)) (pm_tl 105 (s_iadd 106)))) (pm_tn 110 (pm_tn 107 (pm_tl 106 (s_iald 107)) (pm_tl 107 (s_call 93 2 0 7 1 (fun _ => 1) 110))) (pm_tn 113 (pm_tl 110 (s_ifne 119 113)) (pm_tl 113 (s_push (-20) 115)))))) (pm_tn 128 (pm_tn 119 (pm_tn 117 (pm_tl 115 (s_iload 4 117)) (pm_tn 118 (pm_tl 117 (s_isub 118)) (pm_tl 118 (s_iret)))) (pm_tn 125 (pm_tn 122 (pm_tl 119 (s_iinc 4 1 122)) (pm_tl 122 (s_K 58 [true, true, false, true, true, false, false] (s_goto 58)))) (pm_tn 126 (pm_tl 125 (s_push 0 126)) (pm_tl 126 (s_istore 4 128))))) (pm_tn 133 (pm_tn 129 (pm_tl 128 (s_push 0 129)) (pm_tn 131 (pm_tl 129 (s_K 131 [true, true, false, true, true, true, false] (s_istore 5 131))) (pm_tl 131 (s_iload 5 133)))) (pm_tn 137 (pm_tn 134 (pm_tl 133 (s_aload 0 134)) (pm_tl 134 (s_getI 7 4 137))) (pm_tn 140 (pm_tl 137 (s_cge 190 140)) (pm_tl 140 (s_aload 0 141))))))) (pm_tn 163 (pm_tn 152 (pm_tn 147 (pm_tn 144 (pm_tl 141 (s_getR 7 18 144)) (pm_tn 146 (pm_tl 144 (s_push 64 146)) (pm_tl 146 (s_iload 1 147)))) (pm_tn 149 (pm_tn 148 (pm_tl 147 (s_imul 148)) (pm_tl 148 (s_iload 3 149))) (pm_tn 150 (pm_tl 149 (s_iadd 150)) (pm_tl 150 (s_iload 5 152))))) (pm_tn 156 (pm_tn 153 (pm_tl 152 (s_iadd 153)) (pm_tn 154 (pm_tl 153 (s_iald 154)) (pm_tl 154 (s_istore 6 156)))) (pm_tn 160 (pm_tn 157 (pm_tl 156 (s_aload 0 157)) (pm_tl 157 (s_getR 7 7 160))) (pm_tn 162 (pm_tl 160 (s_iload 5 162)) (pm_tl 162 (s_iald 163)))))) (pm_tn 178 (pm_tn 169 (pm_tn 165 (pm_tl 163 (s_iload 6 165)) (pm_tn 168 (pm_tl 165 (s_ceq 184 168)) (pm_tl 168 (s_aload 0 169)))) (pm_tn 173 (pm_tn 172 (pm_tl 169 (s_call 123 1 1 7 0 (fun _ => 0) 172)) (pm_tl 172 (s_aload 0 173))) (pm_tn 176 (pm_tl 173 (s_getR 7 7 176)) (pm_tl 176 (s_iload 5 178))))) (pm_tn 184 (pm_tn 180 (pm_tl 178 (s_iload 6 180)) (pm_tn 181 (pm_tl 180 (s_iast 181)) (pm_tl 181 (s_iinc 4 1 184)))) (pm_tn 190 (pm_tn 187 (pm_tl 184 (s_iinc 5 1 187)) (pm_tl 187 (s_K 131 [true, true, false, true, true, true, false] (s_goto 131)))) (pm_tn 192 (pm_tl 190 (s_iload 4 192)) (pm_tl 192 (s_iret)))))))))
theorem tc_M_fill : ∀ pc, pm_Ct (t_M_fill pc) := (ct_tn (ct_tn (ct_tn (ct_tn (ct_tn (ct_tn (ct_tl (ct_iload _ _)) (ct_tn (ct_tl (ct_i2l _)) (ct_tl (ct_lpush _ _)))) (ct_tn (ct_tl (ct_lpush _ _)) (ct_tn (ct_tl (ct_call _ _ _ _ _ _ _)) (ct_tl (ct_ifeq _ _))))) (ct_tn (ct_tn (ct_tl (ct_iload _ _)) (ct_tn (ct_tl (ct_i2l _)) (ct_tl (ct_lpush _ _)))) (ct_tn (ct_tn (ct_tl (ct_lpush _ _)) (ct_tl (ct_call _ _ _ _ _ _ _))) (ct_tn (ct_tl (ct_ifne _ _)) (ct_tl (ct_push _ _)))))) (ct_tn (ct_tn (ct_tn (ct_tl (ct_iret)) (ct_tn (ct_tl (ct_aload _ _)) (ct_tl (ct_getR _ _ _)))) (ct_tn (ct_tn (ct_tl (ct_iload _ _)) (ct_tl (ct_iald _))) (ct_tn (ct_tl (ct_iload _ _)) (ct_tl (ct_ceq _ _))))) (ct_tn (ct_tn (ct_tl (ct_aload _ _)) (ct_tn (ct_tl (ct_getR _ _ _)) (ct_tl (ct_iload _ _)))) (ct_tn (ct_tn (ct_tl (ct_iald _)) (ct_tl (ct_push _ _))) (ct_tn (ct_tl (ct_cne _ _)) (ct_tl (ct_push _ _))))))) (ct_tn (ct_tn (ct_tn (ct_tn (ct_tl (ct_goto _)) (ct_tn (ct_tl (ct_push _ _)) (ct_tl (ct_iret)))) (ct_tn (ct_tl (ct_push _ _)) (ct_tn (ct_tl (ct_K (ct_istore _ _))) (ct_tl (ct_iload _ _))))) (ct_tn (ct_tn (ct_tl (ct_aload _ _)) (ct_tn (ct_tl (ct_getI _ _ _)) (ct_tl (ct_cge _ _)))) (ct_tn (ct_tn (ct_tl (ct_iload _ _)) (ct_tl (ct_i2l _))) (ct_tn (ct_tl (ct_iload _ _)) (ct_tl (ct_i2l _)))))) (ct_tn (ct_tn (ct_tn (ct_tl (ct_ladd _)) (ct_tn (ct_tl (ct_lpush _ _)) (ct_tl (ct_aload _ _)))) (ct_tn (ct_tn (ct_tl (ct_getR _ _ _)) (ct_tl (ct_iload _ _))) (ct_tn (ct_tl (ct_iald _)) (ct_tl (ct_push _ _))))) (ct_tn (ct_tn (ct_tl (ct_isub _)) (ct_tn (ct_tl (ct_i2l _)) (ct_tl (ct_call _ _ _ _ _ _ _)))) (ct_tn (ct_tn (ct_tl (ct_ifne _ _)) (ct_tl (ct_push _ _))) (ct_tn (ct_tl (ct_iret)) (ct_tl (ct_aload _ _)))))))) (ct_tn (ct_tn (ct_tn (ct_tn (ct_tn (ct_tl (ct_aload _ _)) (ct_tn (ct_tl (ct_getR _ _ _)) (ct_tl (ct_push _ _)))) (ct_tn (ct_tl (ct_iload _ _)) (ct_tn (ct_tl (ct_imul _)) (ct_tl (ct_iload _ _))))) (ct_tn (ct_tn (ct_tl (ct_iadd _)) (ct_tn (ct_tl (ct_iload _ _)) (ct_tl (ct_iadd _)))) (ct_tn (ct_tn (ct_tl (ct_iald _)) (ct_tl (ct_call _ _ _ _ _ _ _))) (ct_tn (ct_tl (ct_ifne _ _)) (ct_tl (ct_push _ _)))))) (ct_tn (ct_tn (ct_tn (ct_tl (ct_iload _ _)) (ct_tn (ct_tl (ct_isub _)) (ct_tl (ct_iret)))) (ct_tn (ct_tn (ct_tl (ct_iinc _ _ _)) (ct_tl (ct_K (ct_goto _)))) (ct_tn (ct_tl (ct_push _ _)) (ct_tl (ct_istore _ _))))) (ct_tn (ct_tn (ct_tl (ct_push _ _)) (ct_tn (ct_tl (ct_K (ct_istore _ _))) (ct_tl (ct_iload _ _)))) (ct_tn (ct_tn (ct_tl (ct_aload _ _)) (ct_tl (ct_getI _ _ _))) (ct_tn (ct_tl (ct_cge _ _)) (ct_tl (ct_aload _ _))))))) (ct_tn (ct_tn (ct_tn (ct_tn (ct_tl (ct_getR _ _ _)) (ct_tn (ct_tl (ct_push _ _)) (ct_tl (ct_iload _ _)))) (ct_tn (ct_tn (ct_tl (ct_imul _)) (ct_tl (ct_iload _ _))) (ct_tn (ct_tl (ct_iadd _)) (ct_tl (ct_iload _ _))))) (ct_tn (ct_tn (ct_tl (ct_iadd _)) (ct_tn (ct_tl (ct_iald _)) (ct_tl (ct_istore _ _)))) (ct_tn (ct_tn (ct_tl (ct_aload _ _)) (ct_tl (ct_getR _ _ _))) (ct_tn (ct_tl (ct_iload _ _)) (ct_tl (ct_iald _)))))) (ct_tn (ct_tn (ct_tn (ct_tl (ct_iload _ _)) (ct_tn (ct_tl (ct_ceq _ _)) (ct_tl (ct_aload _ _)))) (ct_tn (ct_tn (ct_tl (ct_call _ _ _ _ _ _ _)) (ct_tl (ct_aload _ _))) (ct_tn (ct_tl (ct_getR _ _ _)) (ct_tl (ct_iload _ _))))) (ct_tn (ct_tn (ct_tl (ct_iload _ _)) (ct_tn (ct_tl (ct_iast _)) (ct_tl (ct_iinc _ _ _)))) (ct_tn (ct_tn (ct_tl (ct_iinc _ _ _)) (ct_tl (ct_K (ct_goto _)))) (ct_tn (ct_tl (ct_iload _ _)) (ct_tl (ct_iret)))))))))
def t_M_many : Nat → pm_S := (pm_tn 66 (pm_tn 30 (pm_tn 15 (pm_tn 6 (pm_tn 2 (pm_tn 1 (pm_tl 0 (s_iload 1 1)) (pm_tl 1 (s_i2l 2))) (pm_tn 3 (pm_tl 2 (s_lpush 0 3)) (pm_tl 3 (s_lpush 7 6)))) (pm_tn 12 (pm_tn 9 (pm_tl 6 (s_call 92 3 0 99 1 (fun _ => 0) 9)) (pm_tl 9 (s_ifne 14 12))) (pm_tn 13 (pm_tl 12 (s_push (-1) 13)) (pm_tn 14 (pm_tl 13 (s_iret)) (pm_tl 14 (s_aload 0 15)))))) (pm_tn 21 (pm_tn 19 (pm_tn 18 (pm_tl 15 (s_call 131 1 5 7 1 (fun _ => 0) 18)) (pm_tl 18 (s_istore 2 19))) (pm_tn 20 (pm_tl 19 (s_push 0 20)) (pm_tl 20 (s_istore 3 21)))) (pm_tn 24 (pm_tn 22 (pm_tl 21 (s_push 0 22)) (pm_tl 22 (s_K 24 [true, true, true, true, true] (s_istore 4 24)))) (pm_tn 26 (pm_tl 24 (s_iload 4 26)) (pm_tn 27 (pm_tl 26 (s_aload 0 27)) (pm_tl 27 (s_getI 7 8 30))))))) (pm_tn 47 (pm_tn 38 (pm_tn 34 (pm_tn 33 (pm_tl 30 (s_cge 66 33)) (pm_tl 33 (s_iload 3 34))) (pm_tn 35 (pm_tl 34 (s_aload 0 35)) (pm_tl 35 (s_getR 7 13 38)))) (pm_tn 41 (pm_tn 40 (pm_tl 38 (s_iload 4 40)) (pm_tl 40 (s_zald 41))) (pm_tn 44 (pm_tl 41 (s_ifeq 57 44)) (pm_tn 45 (pm_tl 44 (s_aload 0 45)) (pm_tl 45 (s_iload 4 47)))))) (pm_tn 57 (pm_tn 53 (pm_tn 50 (pm_tl 47 (s_call 117 2 0 7 1 (fun _ => 1) 50)) (pm_tl 50 (s_ifeq 57 53))) (pm_tn 54 (pm_tl 53 (s_push 1 54)) (pm_tl 54 (s_goto 58)))) (pm_tn 59 (pm_tn 58 (pm_tl 57 (s_push 0 58)) (pm_tl 58 (s_iadd 59))) (pm_tn 60 (pm_tl 59 (s_istore 3 60)) (pm_tn 63 (pm_tl 60 (s_iinc 4 1 63)) (pm_tl 63 (s_K 24 [true, true, true, true, true] (s_goto 24))))))))) (pm_tn 132 (pm_tn 119 (pm_tn 112 (pm_tn 108 (pm_tn 67 (pm_tl 66 (s_iload 1 67)) (pm_tl 67 (s_switch [(0, 108), (1, 113), (2, 118), (3, 123), (4, 125), (5, 132), (6, 134)] 139))) (pm_tn 109 (pm_tl 108 (s_aload 0 109)) (pm_tl 109 (s_getI 7 3 112)))) (pm_tn 114 (pm_tn 113 (pm_tl 112 (s_iret)) (pm_tl 113 (s_aload 0 114))) (pm_tn 117 (pm_tl 114 (s_getI 7 4 117)) (pm_tn 118 (pm_tl 117 (s_iret)) (pm_tl 118 (s_aload 0 119)))))) (pm_tn 125 (pm_tn 123 (pm_tn 122 (pm_tl 119 (s_getI 7 8 122)) (pm_tl 122 (s_iret))) (pm_tn 124 (pm_tl 123 (s_iload 3 124)) (pm_tl 124 (s_iret)))) (pm_tn 129 (pm_tn 126 (pm_tl 125 (s_aload 0 126)) (pm_tl 126 (s_getI 7 3 129))) (pm_tn 130 (pm_tl 129 (s_iload 2 130)) (pm_tn 131 (pm_tl 130 (s_isub 131)) (pm_tl 131 (s_iret))))))) (pm_tn 145 (pm_tn 138 (pm_tn 134 (pm_tn 133 (pm_tl 132 (s_iload 2 133)) (pm_tl 133 (s_iret))) (pm_tn 135 (pm_tl 134 (s_aload 0 135)) (pm_tl 135 (s_getI 7 14 138)))) (pm_tn 140 (pm_tn 139 (pm_tl 138 (s_iret)) (pm_tl 139 (s_aload 0 140))) (pm_tn 143 (pm_tl 140 (s_getR 7 16 143)) (pm_tn 144 (pm_tl 143 (s_push 0 144)) (pm_tl 144 (s_iald 145)))))) (pm_tn 155 (pm_tn 150 (pm_tn 147 (pm_tl 145 (s_push (-4) 147)) (pm_tl 147 (s_cne 155 150))) (pm_tn 152 (pm_tl 150 (s_push (-4) 152)) (pm_tl 152 (s_goto 161)))) (pm_tn 159 (pm_tn 156 (pm_tl 155 (s_aload 0 156)) (pm_tl 156 (s_getR 7 17 159))) (pm_tn 160 (pm_tl 159 (s_push 0 160)) (pm_tn 161 (pm_tl 160 (s_iald 161)) (pm_tl 161 (s_iret)))))))))
theorem tc_M_many : ∀ pc, pm_Ct (t_M_many pc) := (ct_tn (ct_tn (ct_tn (ct_tn (ct_tn (ct_tn (ct_tl (ct_iload _ _)) (ct_tl (ct_i2l _))) (ct_tn (ct_tl (ct_lpush _ _)) (ct_tl (ct_lpush _ _)))) (ct_tn (ct_tn (ct_tl (ct_call _ _ _ _ _ _ _)) (ct_tl (ct_ifne _ _))) (ct_tn (ct_tl (ct_push _ _)) (ct_tn (ct_tl (ct_iret)) (ct_tl (ct_aload _ _)))))) (ct_tn (ct_tn (ct_tn (ct_tl (ct_call _ _ _ _ _ _ _)) (ct_tl (ct_istore _ _))) (ct_tn (ct_tl (ct_push _ _)) (ct_tl (ct_istore _ _)))) (ct_tn (ct_tn (ct_tl (ct_push _ _)) (ct_tl (ct_K (ct_istore _ _)))) (ct_tn (ct_tl (ct_iload _ _)) (ct_tn (ct_tl (ct_aload _ _)) (ct_tl (ct_getI _ _ _))))))) (ct_tn (ct_tn (ct_tn (ct_tn (ct_tl (ct_cge _ _)) (ct_tl (ct_iload _ _))) (ct_tn (ct_tl (ct_aload _ _)) (ct_tl (ct_getR _ _ _)))) (ct_tn (ct_tn (ct_tl (ct_iload _ _)) (ct_tl (ct_zald _))) (ct_tn (ct_tl (ct_ifeq _ _)) (ct_tn (ct_tl (ct_aload _ _)) (ct_tl (ct_iload _ _)))))) (ct_tn (ct_tn (ct_tn (ct_tl (ct_call _ _ _ _ _ _ _)) (ct_tl (ct_ifeq _ _))) (ct_tn (ct_tl (ct_push _ _)) (ct_tl (ct_goto _)))) (ct_tn (ct_tn (ct_tl (ct_push _ _)) (ct_tl (ct_iadd _))) (ct_tn (ct_tl (ct_istore _ _)) (ct_tn (ct_tl (ct_iinc _ _ _)) (ct_tl (ct_K (ct_goto _))))))))) (ct_tn (ct_tn (ct_tn (ct_tn (ct_tn (ct_tl (ct_iload _ _)) (ct_tl (ct_switch _ _))) (ct_tn (ct_tl (ct_aload _ _)) (ct_tl (ct_getI _ _ _)))) (ct_tn (ct_tn (ct_tl (ct_iret)) (ct_tl (ct_aload _ _))) (ct_tn (ct_tl (ct_getI _ _ _)) (ct_tn (ct_tl (ct_iret)) (ct_tl (ct_aload _ _)))))) (ct_tn (ct_tn (ct_tn (ct_tl (ct_getI _ _ _)) (ct_tl (ct_iret))) (ct_tn (ct_tl (ct_iload _ _)) (ct_tl (ct_iret)))) (ct_tn (ct_tn (ct_tl (ct_aload _ _)) (ct_tl (ct_getI _ _ _))) (ct_tn (ct_tl (ct_iload _ _)) (ct_tn (ct_tl (ct_isub _)) (ct_tl (ct_iret))))))) (ct_tn (ct_tn (ct_tn (ct_tn (ct_tl (ct_iload _ _)) (ct_tl (ct_iret))) (ct_tn (ct_tl (ct_aload _ _)) (ct_tl (ct_getI _ _ _)))) (ct_tn (ct_tn (ct_tl (ct_iret)) (ct_tl (ct_aload _ _))) (ct_tn (ct_tl (ct_getR _ _ _)) (ct_tn (ct_tl (ct_push _ _)) (ct_tl (ct_iald _)))))) (ct_tn (ct_tn (ct_tn (ct_tl (ct_push _ _)) (ct_tl (ct_cne _ _))) (ct_tn (ct_tl (ct_push _ _)) (ct_tl (ct_goto _)))) (ct_tn (ct_tn (ct_tl (ct_aload _ _)) (ct_tl (ct_getR _ _ _))) (ct_tn (ct_tl (ct_push _ _)) (ct_tn (ct_tl (ct_iald _)) (ct_tl (ct_iret)))))))))
def t_L_law : Nat → pm_S := (pm_tn 563 (pm_tn 338 (pm_tn 231 (pm_tn 182 (pm_tn 32 (pm_tn 18 (pm_tn 11 (pm_tn 4 (pm_tn 3 (pm_tl 0 (s_bad)) (pm_tl 3 (s_dup 4))) (pm_tn 7 (pm_tl 4 (s_bad)) (pm_tn 8 (pm_tl 7 (s_astore 1 8)) (pm_tl 8 (s_bad))))) (pm_tn 15 (pm_tn 12 (pm_tl 11 (s_dup 12)) (pm_tl 12 (s_bad))) (pm_tn 16 (pm_tl 15 (s_astore 2 16)) (pm_tn 17 (pm_tl 16 (s_push 0 17)) (pm_tl 17 (s_K 18 [true, true, true, true] (s_istore 3 18))))))) (pm_tn 23 (pm_tn 20 (pm_tn 19 (pm_tl 18 (s_iload 3 19)) (pm_tl 19 (s_aload 0 20))) (pm_tn 21 (pm_tl 20 (s_alen 21)) (pm_tn 22 (pm_tl 21 (s_push 5 22)) (pm_tl 22 (s_isub 23))))) (pm_tn 28 (pm_tn 26 (pm_tl 23 (s_cgt 1007 26)) (pm_tn 27 (pm_tl 26 (s_aload 0 27)) (pm_tl 27 (s_iload 3 28)))) (pm_tn 29 (pm_tl 28 (s_iald 29)) (pm_tn 31 (pm_tl 29 (s_push 31 31)) (pm_tl 31 (s_iand 32))))))) (pm_tn 169 (pm_tn 164 (pm_tn 161 (pm_tn 160 (pm_tl 32 (s_switch [(0, 160), (1, 193), (2, 246), (3, 279), (4, 312), (5, 335), (6, 368), (7, 381), (8, 414), (9, 437), (10, 496), (11, 545), (12, 578), (13, 591), (14, 624), (15, 647), (16, 661), (17, 694), (18, 707), (19, 720), (20, 743), (21, 757), (22, 791), (23, 835), (24, 849), (25, 892), (26, 935), (27, 978)] 1001)) (pm_tl 160 (s_aload 1 161))) (pm_tn 162 (pm_tl 161 (s_aload 0 162)) (pm_tn 163 (pm_tl 162 (s_iload 3 163)) (pm_tl 163 (s_push 1 164))))) (pm_tn 166 (pm_tn 165 (pm_tl 164 (s_iadd 165)) (pm_tl 165 (s_iald 166))) (pm_tn 167 (pm_tl 166 (s_aload 0 167)) (pm_tn 168 (pm_tl 167 (s_iload 3 168)) (pm_tl 168 (s_push 2 169)))))) (pm_tn 176 (pm_tn 171 (pm_tn 170 (pm_tl 169 (s_iadd 170)) (pm_tl 170 (s_iald 171))) (pm_tn 174 (pm_tl 171 (s_call 46 3 0 6 1 (fun _ => 4) 174)) (pm_tn 175 (pm_tl 174 (s_aload 2 175)) (pm_tl 175 (s_aload 0 176))))) (pm_tn 179 (pm_tn 177 (pm_tl 176 (s_iload 3 177)) (pm_tn 178 (pm_tl 177 (s_push 1 178)) (pm_tl 178 (s_iadd 179)))) (pm_tn 180 (pm_tl 179 (s_iald 180)) (pm_tn 181 (pm_tl 180 (s_aload 0 181)) (pm_tl 181 (s_iload 3 182)))))))) (pm_tn 207 (pm_tn 196 (pm_tn 191 (pm_tn 184 (pm_tn 183 (pm_tl 182 (s_push 2 183)) (pm_tl 183 (s_iadd 184))) (pm_tn 185 (pm_tl 184 (s_iald 185)) (pm_tn 188 (pm_tl 185 (s_call 98 3 6 7 1 (fun _ => 1) 188)) (pm_tl 188 (s_ceq 1001 191))))) (pm_tn 193 (pm_tn 192 (pm_tl 191 (s_push 0 192)) (pm_tl 192 (s_zret))) (pm_tn 194 (pm_tl 193 (s_aload 1 194)) (pm_tn 195 (pm_tl 194 (s_aload 0 195)) (pm_tl 195 (s_iload 3 196)))))) (pm_tn 201 (pm_tn 198 (pm_tn 197 (pm_tl 196 (s_push 1 197)) (pm_tl 197 (s_iadd 198))) (pm_tn 199 (pm_tl 198 (s_iald 199)) (pm_tn 200 (pm_tl 199 (s_aload 0 200)) (pm_tl 200 (s_iload 3 201))))) (pm_tn 204 (pm_tn 202 (pm_tl 201 (s_push 2 202)) (pm_tn 203 (pm_tl 202 (s_iadd 203)) (pm_tl 203 (s_iald 204)))) (pm_tn 205 (pm_tl 204 (s_aload 0 205)) (pm_tn 206 (pm_tl 205 (s_iload 3 206)) (pm_tl 206 (s_push 3 207))))))) (pm_tn 220 (pm_tn 212 (pm_tn 209 (pm_tn 208 (pm_tl 207 (s_iadd 208)) (pm_tl 208 (s_iald 209))) (pm_tn 210 (pm_tl 209 (s_aload 0 210)) (pm_tn 211 (pm_tl 210 (s_iload 3 211)) (pm_tl 211 (s_push 4 212))))) (pm_tn 217 (pm_tn 213 (pm_tl 212 (s_iadd 213)) (pm_tn 214 (pm_tl 213 (s_iald 214)) (pm_tl 214 (s_call 47 5 1 6 1 (fun _ => 4) 217)))) (pm_tn 218 (pm_tl 217 (s_aload 2 218)) (pm_tn 219 (pm_tl 218 (s_aload 0 219)) (pm_tl 219 (s_iload 3 220)))))) (pm_tn 225 (pm_tn 222 (pm_tn 221 (pm_tl 220 (s_push 1 221)) (pm_tl 221 (s_iadd 222))) (pm_tn 223 (pm_tl 222 (s_iald 223)) (pm_tn 224 (pm_tl 223 (s_aload 0 224)) (pm_tl 224 (s_iload 3 225))))) (pm_tn 228 (pm_tn 226 (pm_tl 225 (s_push 2 226)) (pm_tn 227 (pm_tl 226 (s_iadd 227)) (pm_tl 227 (s_iald 228)))) (pm_tn 229 (pm_tl 228 (s_aload 0 229)) (pm_tn 230 (pm_tl 229 (s_iload 3 230)) (pm_tl 230 (s_push 3 231))))))))) (pm_tn 283 (pm_tn 256 (pm_tn 245 (pm_tn 236 (pm_tn 233 (pm_tn 232 (pm_tl 231 (s_iadd 232)) (pm_tl 232 (s_iald 233))) (pm_tn 234 (pm_tl 233 (s_aload 0 234)) (pm_tn 235 (pm_tl 234 (s_iload 3 235)) (pm_tl 235 (s_push 4 236))))) (pm_tn 238 (pm_tn 237 (pm_tl 236 (s_iadd 237)) (pm_tl 237 (s_iald 238))) (pm_tn 241 (pm_tl 238 (s_call 101 5 3 7 1 (fun _ => 1) 241)) (pm_tn 244 (pm_tl 241 (s_ceq 1001 244)) (pm_tl 244 (s_push 0 245)))))) (pm_tn 250 (pm_tn 247 (pm_tn 246 (pm_tl 245 (s_zret)) (pm_tl 246 (s_aload 1 247))) (pm_tn 248 (pm_tl 247 (s_aload 0 248)) (pm_tn 249 (pm_tl 248 (s_iload 3 249)) (pm_tl 249 (s_push 1 250))))) (pm_tn 253 (pm_tn 251 (pm_tl 250 (s_iadd 251)) (pm_tn 252 (pm_tl 251 (s_iald 252)) (pm_tl 252 (s_aload 0 253)))) (pm_tn 254 (pm_tl 253 (s_iload 3 254)) (pm_tn 255 (pm_tl 254 (s_push 2 255)) (pm_tl 255 (s_iadd 256))))))) (pm_tn 268 (pm_tn 263 (pm_tn 260 (pm_tn 257 (pm_tl 256 (s_iald 257)) (pm_tl 257 (s_call 48 3 0 6 1 (fun _ => 1) 260))) (pm_tn 261 (pm_tl 260 (s_aload 2 261)) (pm_tn 262 (pm_tl 261 (s_aload 0 262)) (pm_tl 262 (s_iload 3 263))))) (pm_tn 265 (pm_tn 264 (pm_tl 263 (s_push 1 264)) (pm_tl 264 (s_iadd 265))) (pm_tn 266 (pm_tl 265 (s_iald 266)) (pm_tn 267 (pm_tl 266 (s_aload 0 267)) (pm_tl 267 (s_iload 3 268)))))) (pm_tn 277 (pm_tn 270 (pm_tn 269 (pm_tl 268 (s_push 2 269)) (pm_tl 269 (s_iadd 270))) (pm_tn 271 (pm_tl 270 (s_iald 271)) (pm_tn 274 (pm_tl 271 (s_call 102 3 0 7 1 (fun _ => 2) 274)) (pm_tl 274 (s_ceq 1001 277))))) (pm_tn 280 (pm_tn 278 (pm_tl 277 (s_push 0 278)) (pm_tn 279 (pm_tl 278 (s_zret)) (pm_tl 279 (s_aload 1 280)))) (pm_tn 281 (pm_tl 280 (s_aload 0 281)) (pm_tn 282 (pm_tl 281 (s_iload 3 282)) (pm_tl 282 (s_push 1 283)))))))) (pm_tn 310 (pm_tn 295 (pm_tn 288 (pm_tn 285 (pm_tn 284 (pm_tl 283 (s_iadd 284)) (pm_tl 284 (s_iald 285))) (pm_tn 286 (pm_tl 285 (s_aload 0 286)) (pm_tn 287 (pm_tl 286 (s_iload 3 287)) (pm_tl 287 (s_push 2 288))))) (pm_tn 290 (pm_tn 289 (pm_tl 288 (s_iadd 289)) (pm_tl 289 (s_iald 290))) (pm_tn 293 (pm_tl 290 (s_call 49 3 0 6 1 (fun _ => 2) 293)) (pm_tn 294 (pm_tl 293 (s_aload 2 294)) (pm_tl 294 (s_aload 0 295)))))) (pm_tn 300 (pm_tn 297 (pm_tn 296 (pm_tl 295 (s_iload 3 296)) (pm_tl 296 (s_push 1 297))) (pm_tn 298 (pm_tl 297 (s_iadd 298)) (pm_tn 299 (pm_tl 298 (s_iald 299)) (pm_tl 299 (s_aload 0 300))))) (pm_tn 303 (pm_tn 301 (pm_tl 300 (s_iload 3 301)) (pm_tn 302 (pm_tl 301 (s_push 2 302)) (pm_tl 302 (s_iadd 303)))) (pm_tn 304 (pm_tl 303 (s_iald 304)) (pm_tn 307 (pm_tl 304 (s_call 105 3 2 7 1 (fun _ => 3) 307)) (pm_tl 307 (s_ceq 1001 310))))))) (pm_tn 323 (pm_tn 315 (pm_tn 312 (pm_tn 311 (pm_tl 310 (s_push 0 311)) (pm_tl 311 (s_zret))) (pm_tn 313 (pm_tl 312 (s_aload 1 313)) (pm_tn 314 (pm_tl 313 (s_aload 0 314)) (pm_tl 314 (s_iload 3 315))))) (pm_tn 318 (pm_tn 316 (pm_tl 315 (s_push 1 316)) (pm_tn 317 (pm_tl 316 (s_iadd 317)) (pm_tl 317 (s_iald 318)))) (pm_tn 321 (pm_tl 318 (s_call 50 2 0 6 1 (fun _ => 3) 321)) (pm_tn 322 (pm_tl 321 (s_aload 2 322)) (pm_tl 322 (s_aload 0 323)))))) (pm_tn 330 (pm_tn 325 (pm_tn 324 (pm_tl 323 (s_iload 3 324)) (pm_tl 324 (s_push 1 325))) (pm_tn 326 (pm_tl 325 (s_iadd 326)) (pm_tn 327 (pm_tl 326 (s_iald 327)) (pm_tl 327 (s_call 106 2 4 7 1 (fun _ => 3) 330))))) (pm_tn 335 (pm_tn 333 (pm_tl 330 (s_ceq 1001 333)) (pm_tn 334 (pm_tl 333 (s_push 0 334)) (pm_tl 334 (s_zret)))) (pm_tn 336 (pm_tl 335 (s_aload 1 336)) (pm_tn 337 (pm_tl 336 (s_aload 0 337)) (pm_tl 337 (s_iload 3 338)))))))))) (pm_tn 447 (pm_tn 392 (pm_tn 363 (pm_tn 350 (pm_tn 343 (pm_tn 340 (pm_tn 339 (pm_tl 338 (s_push 1 339)) (pm_tl 339 (s_iadd 340))) (pm_tn 341 (pm_tl 340 (s_iald 341)) (pm_tn 342 (pm_tl 341 (s_aload 0 342)) (pm_tl 342 (s_iload 3 343))))) (pm_tn 345 (pm_tn 344 (pm_tl 343 (s_push 2 344)) (pm_tl 344 (s_iadd 345))) (pm_tn 346 (pm_tl 345 (s_iald 346)) (pm_tn 349 (pm_tl 346 (s_call 51 3 1 6 1 (fun _ => 1) 349)) (pm_tl 349 (s_aload 2 350)))))) (pm_tn 355 (pm_tn 352 (pm_tn 351 (pm_tl 350 (s_aload 0 351)) (pm_tl 351 (s_iload 3 352))) (pm_tn 353 (pm_tl 352 (s_push 1 353)) (pm_tn 354 (pm_tl 353 (s_iadd 354)) (pm_tl 354 (s_iald 355))))) (pm_tn 358 (pm_tn 356 (pm_tl 355 (s_aload 0 356)) (pm_tn 357 (pm_tl 356 (s_iload 3 357)) (pm_tl 357 (s_push 2 358)))) (pm_tn 359 (pm_tl 358 (s_iadd 359)) (pm_tn 360 (pm_tl 359 (s_iald 360)) (pm_tl 360 (s_call 107 3 3 7 1 (fun _ => 3) 363))))))) (pm_tn 381 (pm_tn 372 (pm_tn 367 (pm_tn 366 (pm_tl 363 (s_ceq 1001 366)) (pm_tl 366 (s_push 0 367))) (pm_tn 368 (pm_tl 367 (s_zret)) (pm_tn 369 (pm_tl 368 (s_aload 1 369)) (pm_tl 369 (s_call 52 1 0 6 1 (fun _ => 1) 372))))) (pm_tn 376 (pm_tn 373 (pm_tl 372 (s_aload 2 373)) (pm_tl 373 (s_call 111 1 0 7 1 (fun _ => 0) 376))) (pm_tn 379 (pm_tl 376 (s_ceq 1001 379)) (pm_tn 380 (pm_tl 379 (s_push 0 380)) (pm_tl 380 (s_zret)))))) (pm_tn 386 (pm_tn 383 (pm_tn 382 (pm_tl 381 (s_aload 1 382)) (pm_tl 382 (s_aload 0 383))) (pm_tn 384 (pm_tl 383 (s_iload 3 384)) (pm_tn 385 (pm_tl 384 (s_push 1 385)) (pm_tl 385 (s_iadd 386))))) (pm_tn 389 (pm_tn 387 (pm_tl 386 (s_iald 387)) (pm_tn 388 (pm_tl 387 (s_aload 0 388)) (pm_tl 388 (s_iload 3 389)))) (pm_tn 390 (pm_tl 389 (s_push 2 390)) (pm_tn 391 (pm_tl 390 (s_iadd 391)) (pm_tl 391 (s_iald 392)))))))) (pm_tn 419 (pm_tn 404 (pm_tn 399 (pm_tn 396 (pm_tn 395 (pm_tl 392 (s_call 53 3 0 6 1 (fun _ => 3) 395)) (pm_tl 395 (s_aload 2 396))) (pm_tn 397 (pm_tl 396 (s_aload 0 397)) (pm_tn 398 (pm_tl 397 (s_iload 3 398)) (pm_tl 398 (s_push 1 399))))) (pm_tn 401 (pm_tn 400 (pm_tl 399 (s_iadd 400)) (pm_tl 400 (s_iald 401))) (pm_tn 402 (pm_tl 401 (s_aload 0 402)) (pm_tn 403 (pm_tl 402 (s_iload 3 403)) (pm_tl 403 (s_push 2 404)))))) (pm_tn 413 (pm_tn 406 (pm_tn 405 (pm_tl 404 (s_iadd 405)) (pm_tl 405 (s_iald 406))) (pm_tn 409 (pm_tl 406 (s_call 112 3 0 7 1 (fun _ => 2) 409)) (pm_tn 412 (pm_tl 409 (s_ceq 1001 412)) (pm_tl 412 (s_push 0 413))))) (pm_tn 416 (pm_tn 414 (pm_tl 413 (s_zret)) (pm_tn 415 (pm_tl 414 (s_aload 1 415)) (pm_tl 415 (s_aload 0 416)))) (pm_tn 417 (pm_tl 416 (s_iload 3 417)) (pm_tn 418 (pm_tl 417 (s_push 1 418)) (pm_tl 418 (s_iadd 419))))))) (pm_tn 436 (pm_tn 426 (pm_tn 423 (pm_tn 420 (pm_tl 419 (s_iald 420)) (pm_tl 420 (s_call 54 2 0 6 1 (fun _ => 1) 423))) (pm_tn 424 (pm_tl 423 (s_aload 2 424)) (pm_tn 425 (pm_tl 424 (s_aload 0 425)) (pm_tl 425 (s_iload 3 426))))) (pm_tn 429 (pm_tn 427 (pm_tl 426 (s_push 1 427)) (pm_tn 428 (pm_tl 427 (s_iadd 428)) (pm_tl 428 (s_iald 429)))) (pm_tn 432 (pm_tl 429 (s_call 113 2 0 7 1 (fun _ => 2) 432)) (pm_tn 435 (pm_tl 432 (s_ceq 1001 435)) (pm_tl 435 (s_push 0 436)))))) (pm_tn 441 (pm_tn 438 (pm_tn 437 (pm_tl 436 (s_zret)) (pm_tl 437 (s_aload 1 438))) (pm_tn 439 (pm_tl 438 (s_aload 0 439)) (pm_tn 440 (pm_tl 439 (s_iload 3 440)) (pm_tl 440 (s_push 1 441))))) (pm_tn 444 (pm_tn 442 (pm_tl 441 (s_iadd 442)) (pm_tn 443 (pm_tl 442 (s_iald 443)) (pm_tl 443 (s_aload 0 444)))) (pm_tn 445 (pm_tl 444 (s_iload 3 445)) (pm_tn 446 (pm_tl 445 (s_push 2 446)) (pm_tl 446 (s_iadd 447))))))))) (pm_tn 504 (pm_tn 474 (pm_tn 461 (pm_tn 452 (pm_tn 449 (pm_tn 448 (pm_tl 447 (s_iald 448)) (pm_tl 448 (s_aload 0 449))) (pm_tn 450 (pm_tl 449 (s_iload 3 450)) (pm_tn 451 (pm_tl 450 (s_push 3 451)) (pm_tl 451 (s_iadd 452))))) (pm_tn 456 (pm_tn 453 (pm_tl 452 (s_iald 453)) (pm_tl 453 (s_ifeq 460 456))) (pm_tn 457 (pm_tl 456 (s_push 1 457)) (pm_tn 460 (pm_tl 457 (s_goto 461)) (pm_tl 460 (s_push 0 461)))))) (pm_tn 468 (pm_tn 465 (pm_tn 464 (pm_tl 461 (s_call 55 4 3 6 1 (fun _ => 1) 464)) (pm_tl 464 (s_aload 2 465))) (pm_tn 466 (pm_tl 465 (s_aload 0 466)) (pm_tn 467 (pm_tl 466 (s_iload 3 467)) (pm_tl 467 (s_push 1 468))))) (pm_tn 471 (pm_tn 469 (pm_tl 468 (s_iadd 469)) (pm_tn 470 (pm_tl 469 (s_iald 470)) (pm_tl 470 (s_aload 0 471)))) (pm_tn 472 (pm_tl 471 (s_iload 3 472)) (pm_tn 473 (pm_tl 472 (s_push 2 473)) (pm_tl 473 (s_iadd 474))))))) (pm_tn 491 (pm_tn 479 (pm_tn 476 (pm_tn 475 (pm_tl 474 (s_iald 475)) (pm_tl 475 (s_aload 0 476))) (pm_tn 477 (pm_tl 476 (s_iload 3 477)) (pm_tn 478 (pm_tl 477 (s_push 3 478)) (pm_tl 478 (s_iadd 479))))) (pm_tn 484 (pm_tn 480 (pm_tl 479 (s_iald 480)) (pm_tn 483 (pm_tl 480 (s_ifeq 487 483)) (pm_tl 483 (s_push 1 484)))) (pm_tn 487 (pm_tl 484 (s_goto 488)) (pm_tn 488 (pm_tl 487 (s_push 0 488)) (pm_tl 488 (s_call 115 4 0 7 1 (fun _ => 2) 491)))))) (pm_tn 498 (pm_tn 495 (pm_tn 494 (pm_tl 491 (s_ceq 1001 494)) (pm_tl 494 (s_push 0 495))) (pm_tn 496 (pm_tl 495 (s_zret)) (pm_tn 497 (pm_tl 496 (s_aload 1 497)) (pm_tl 497 (s_aload 0 498))))) (pm_tn 501 (pm_tn 499 (pm_tl 498 (s_iload 3 499)) (pm_tn 500 (pm_tl 499 (s_push 1 500)) (pm_tl 500 (s_iadd 501)))) (pm_tn 502 (pm_tl 501 (s_iald 502)) (pm_tn 503 (pm_tl 502 (s_aload 0 503)) (pm_tl 503 (s_iload 3 504)))))))) (pm_tn 533 (pm_tn 520 (pm_tn 511 (pm_tn 506 (pm_tn 505 (pm_tl 504 (s_push 2 505)) (pm_tl 505 (s_iadd 506))) (pm_tn 507 (pm_tl 506 (s_iald 507)) (pm_tn 510 (pm_tl 507 (s_ifeq 514 510)) (pm_tl 510 (s_push 1 511))))) (pm_tn 515 (pm_tn 514 (pm_tl 511 (s_goto 515)) (pm_tl 514 (s_push 0 515))) (pm_tn 518 (pm_tl 515 (s_call 56 3 1 6 1 (fun _ => 1) 518)) (pm_tn 519 (pm_tl 518 (s_aload 2 519)) (pm_tl 519 (s_aload 0 520)))))) (pm_tn 525 (pm_tn 522 (pm_tn 521 (pm_tl 520 (s_iload 3 521)) (pm_tl 521 (s_push 1 522))) (pm_tn 523 (pm_tl 522 (s_iadd 523)) (pm_tn 524 (pm_tl 523 (s_iald 524)) (pm_tl 524 (s_aload 0 525))))) (pm_tn 528 (pm_tn 526 (pm_tl 525 (s_iload 3 526)) (pm_tn 527 (pm_tl 526 (s_push 2 527)) (pm_tl 527 (s_iadd 528)))) (pm_tn 529 (pm_tl 528 (s_iald 529)) (pm_tn 532 (pm_tl 529 (s_ifeq 536 532)) (pm_tl 532 (s_push 1 533))))))) (pm_tn 550 (pm_tn 544 (pm_tn 537 (pm_tn 536 (pm_tl 533 (s_goto 537)) (pm_tl 536 (s_push 0 537))) (pm_tn 540 (pm_tl 537 (s_call 116 3 1 7 1 (fun _ => 2) 540)) (pm_tn 543 (pm_tl 540 (s_ceq 1001 543)) (pm_tl 543 (s_push 0 544))))) (pm_tn 547 (pm_tn 545 (pm_tl 544 (s_zret)) (pm_tn 546 (pm_tl 545 (s_aload 1 546)) (pm_tl 546 (s_aload 0 547)))) (pm_tn 548 (pm_tl 547 (s_iload 3 548)) (pm_tn 549 (pm_tl 548 (s_push 1 549)) (pm_tl 549 (s_iadd 550)))))) (pm_tn 555 (pm_tn 552 (pm_tn 551 (pm_tl 550 (s_iald 551)) (pm_tl 551 (s_aload 0 552))) (pm_tn 553 (pm_tl 552 (s_iload 3 553)) (pm_tn 554 (pm_tl 553 (s_push 2 554)) (pm_tl 554 (s_iadd 555))))) (pm_tn 560 (pm_tn 556 (pm_tl 555 (s_iald 556)) (pm_tn 559 (pm_tl 556 (s_call 57 3 1 6 1 (fun _ => 2) 559)) (pm_tl 559 (s_aload 2 560)))) (pm_tn 561 (pm_tl 560 (s_aload 0 561)) (pm_tn 562 (pm_tl 561 (s_iload 3 562)) (pm_tl 562 (s_push 1 563))))))))))) (pm_tn 798 (pm_tn 678 (pm_tn 619 (pm_tn 594 (pm_tn 577 (pm_tn 568 (pm_tn 565 (pm_tn 564 (pm_tl 563 (s_iadd 564)) (pm_tl 564 (s_iald 565))) (pm_tn 566 (pm_tl 565 (s_aload 0 566)) (pm_tn 567 (pm_tl 566 (s_iload 3 567)) (pm_tl 567 (s_push 2 568))))) (pm_tn 570 (pm_tn 569 (pm_tl 568 (s_iadd 569)) (pm_tl 569 (s_iald 570))) (pm_tn 573 (pm_tl 570 (s_call 121 3 0 7 1 (fun _ => 3) 573)) (pm_tn 576 (pm_tl 573 (s_ceq 1001 576)) (pm_tl 576 (s_push 0 577)))))) (pm_tn 586 (pm_tn 579 (pm_tn 578 (pm_tl 577 (s_zret)) (pm_tl 578 (s_aload 1 579))) (pm_tn 582 (pm_tl 579 (s_call 58 1 0 6 1 (fun _ => 0) 582)) (pm_tn 583 (pm_tl 582 (s_aload 2 583)) (pm_tl 583 (s_call 122 1 0 7 1 (fun _ => 0) 586))))) (pm_tn 591 (pm_tn 589 (pm_tl 586 (s_ceq 1001 589)) (pm_tn 590 (pm_tl 589 (s_push 0 590)) (pm_tl 590 (s_zret)))) (pm_tn 592 (pm_tl 591 (s_aload 1 592)) (pm_tn 593 (pm_tl 592 (s_aload 0 593)) (pm_tl 593 (s_iload 3 594))))))) (pm_tn 606 (pm_tn 599 (pm_tn 596 (pm_tn 595 (pm_tl 594 (s_push 1 595)) (pm_tl 595 (s_iadd 596))) (pm_tn 597 (pm_tl 596 (s_iald 597)) (pm_tn 598 (pm_tl 597 (s_aload 0 598)) (pm_tl 598 (s_iload 3 599))))) (pm_tn 601 (pm_tn 600 (pm_tl 599 (s_push 2 600)) (pm_tl 600 (s_iadd 601))) (pm_tn 602 (pm_tl 601 (s_iald 602)) (pm_tn 605 (pm_tl 602 (s_call 59 3 1 6 1 (fun _ => 2) 605)) (pm_tl 605 (s_aload 2 606)))))) (pm_tn 611 (pm_tn 608 (pm_tn 607 (pm_tl 606 (s_aload 0 607)) (pm_tl 607 (s_iload 3 608))) (pm_tn 609 (pm_tl 608 (s_push 1 609)) (pm_tn 610 (pm_tl 609 (s_iadd 610)) (pm_tl 610 (s_iald 611))))) (pm_tn 614 (pm_tn 612 (pm_tl 611 (s_aload 0 612)) (pm_tn 613 (pm_tl 612 (s_iload 3 613)) (pm_tl 613 (s_push 2 614)))) (pm_tn 615 (pm_tl 614 (s_iadd 615)) (pm_tn 616 (pm_tl 615 (s_iald 616)) (pm_tl 616 (s_call 125 3 1 7 1 (fun _ => 2) 619)))))))) (pm_tn 648 (pm_tn 633 (pm_tn 626 (pm_tn 623 (pm_tn 622 (pm_tl 619 (s_ceq 1001 622)) (pm_tl 622 (s_push 0 623))) (pm_tn 624 (pm_tl 623 (s_zret)) (pm_tn 625 (pm_tl 624 (s_aload 1 625)) (pm_tl 625 (s_aload 0 626))))) (pm_tn 628 (pm_tn 627 (pm_tl 626 (s_iload 3 627)) (pm_tl 627 (s_push 1 628))) (pm_tn 629 (pm_tl 628 (s_iadd 629)) (pm_tn 630 (pm_tl 629 (s_iald 630)) (pm_tl 630 (s_call 60 2 0 6 1 (fun _ => 1) 633)))))) (pm_tn 638 (pm_tn 635 (pm_tn 634 (pm_tl 633 (s_aload 2 634)) (pm_tl 634 (s_aload 0 635))) (pm_tn 636 (pm_tl 635 (s_iload 3 636)) (pm_tn 637 (pm_tl 636 (s_push 1 637)) (pm_tl 637 (s_iadd 638))))) (pm_tn 645 (pm_tn 639 (pm_tl 638 (s_iald 639)) (pm_tn 642 (pm_tl 639 (s_call 126 2 0 7 1 (fun _ => 2) 642)) (pm_tl 642 (s_ceq 1001 645)))) (pm_tn 646 (pm_tl 645 (s_push 0 646)) (pm_tn 647 (pm_tl 646 (s_zret)) (pm_tl 647 (s_aload 1 648))))))) (pm_tn 665 (pm_tn 659 (pm_tn 652 (pm_tn 651 (pm_tl 648 (s_call 61 1 3 6 2 (fun _ => 2) 651)) (pm_tl 651 (s_aload 2 652))) (pm_tn 655 (pm_tl 652 (s_call 128 1 0 7 2 (fun _ => 3) 655)) (pm_tn 656 (pm_tl 655 (s_lcmp 656)) (pm_tl 656 (s_ifeq 1001 659))))) (pm_tn 662 (pm_tn 660 (pm_tl 659 (s_push 0 660)) (pm_tn 661 (pm_tl 660 (s_zret)) (pm_tl 661 (s_aload 1 662)))) (pm_tn 663 (pm_tl 662 (s_aload 0 663)) (pm_tn 664 (pm_tl 663 (s_iload 3 664)) (pm_tl 664 (s_push 1 665)))))) (pm_tn 670 (pm_tn 667 (pm_tn 666 (pm_tl 665 (s_iadd 666)) (pm_tl 666 (s_iald 667))) (pm_tn 668 (pm_tl 667 (s_aload 0 668)) (pm_tn 669 (pm_tl 668 (s_iload 3 669)) (pm_tl 669 (s_push 2 670))))) (pm_tn 675 (pm_tn 671 (pm_tl 670 (s_iadd 671)) (pm_tn 672 (pm_tl 671 (s_iald 672)) (pm_tl 672 (s_call 62 3 0 6 1 (fun _ => 2) 675)))) (pm_tn 676 (pm_tl 675 (s_aload 2 676)) (pm_tn 677 (pm_tl 676 (s_aload 0 677)) (pm_tl 677 (s_iload 3 678))))))))) (pm_tn 743 (pm_tn 711 (pm_tn 692 (pm_tn 683 (pm_tn 680 (pm_tn 679 (pm_tl 678 (s_push 1 679)) (pm_tl 679 (s_iadd 680))) (pm_tn 681 (pm_tl 680 (s_iald 681)) (pm_tn 682 (pm_tl 681 (s_aload 0 682)) (pm_tl 682 (s_iload 3 683))))) (pm_tn 685 (pm_tn 684 (pm_tl 683 (s_push 2 684)) (pm_tl 684 (s_iadd 685))) (pm_tn 686 (pm_tl 685 (s_iald 686)) (pm_tn 689 (pm_tl 686 (s_call 130 3 1 7 1 (fun _ => 4) 689)) (pm_tl 689 (s_ceq 1001 692)))))) (pm_tn 699 (pm_tn 694 (pm_tn 693 (pm_tl 692 (s_push 0 693)) (pm_tl 693 (s_zret))) (pm_tn 695 (pm_tl 694 (s_aload 1 695)) (pm_tn 698 (pm_tl 695 (s_call 63 1 0 6 1 (fun _ => 3) 698)) (pm_tl 698 (s_aload 2 699))))) (pm_tn 706 (pm_tn 702 (pm_tl 699 (s_call 132 1 6 7 1 (fun _ => 4) 702)) (pm_tn 705 (pm_tl 702 (s_ceq 1001 705)) (pm_tl 705 (s_push 0 706)))) (pm_tn 707 (pm_tl 706 (s_zret)) (pm_tn 708 (pm_tl 707 (s_aload 1 708)) (pm_tl 708 (s_call 64 1 0 6 1 (fun _ => 2) 711))))))) (pm_tn 726 (pm_tn 720 (pm_tn 715 (pm_tn 712 (pm_tl 711 (s_aload 2 712)) (pm_tl 712 (s_call 124 1 1 7 1 (fun _ => 0) 715))) (pm_tn 718 (pm_tl 715 (s_ceq 1001 718)) (pm_tn 719 (pm_tl 718 (s_push 0 719)) (pm_tl 719 (s_zret))))) (pm_tn 723 (pm_tn 721 (pm_tl 720 (s_aload 1 721)) (pm_tn 722 (pm_tl 721 (s_aload 0 722)) (pm_tl 722 (s_iload 3 723)))) (pm_tn 724 (pm_tl 723 (s_push 1 724)) (pm_tn 725 (pm_tl 724 (s_iadd 725)) (pm_tl 725 (s_iald 726)))))) (pm_tn 733 (pm_tn 730 (pm_tn 729 (pm_tl 726 (s_call 65 2 0 6 1 (fun _ => 1) 729)) (pm_tl 729 (s_aload 2 730))) (pm_tn 731 (pm_tl 730 (s_aload 0 731)) (pm_tn 732 (pm_tl 731 (s_iload 3 732)) (pm_tl 732 (s_push 1 733))))) (pm_tn 738 (pm_tn 734 (pm_tl 733 (s_iadd 734)) (pm_tn 735 (pm_tl 734 (s_iald 735)) (pm_tl 735 (s_call 133 2 1 7 1 (fun _ => 2) 738)))) (pm_tn 741 (pm_tl 738 (s_ceq 1001 741)) (pm_tn 742 (pm_tl 741 (s_push 0 742)) (pm_tl 742 (s_zret)))))))) (pm_tn 772 (pm_tn 759 (pm_tn 752 (pm_tn 747 (pm_tn 744 (pm_tl 743 (s_aload 1 744)) (pm_tl 744 (s_call 66 1 0 6 2 (fun _ => 16) 747))) (pm_tn 748 (pm_tl 747 (s_aload 2 748)) (pm_tn 751 (pm_tl 748 (s_call 137 1 0 7 2 (fun _ => 4) 751)) (pm_tl 751 (s_lcmp 752))))) (pm_tn 756 (pm_tn 755 (pm_tl 752 (s_ifeq 1001 755)) (pm_tl 755 (s_push 0 756))) (pm_tn 757 (pm_tl 756 (s_zret)) (pm_tn 758 (pm_tl 757 (s_aload 1 758)) (pm_tl 758 (s_aload 0 759)))))) (pm_tn 764 (pm_tn 761 (pm_tn 760 (pm_tl 759 (s_iload 3 760)) (pm_tl 760 (s_push 1 761))) (pm_tn 762 (pm_tl 761 (s_iadd 762)) (pm_tn 763 (pm_tl 762 (s_iald 763)) (pm_tl 763 (s_aload 0 764))))) (pm_tn 767 (pm_tn 765 (pm_tl 764 (s_iload 3 765)) (pm_tn 766 (pm_tl 765 (s_push 2 766)) (pm_tl 766 (s_iadd 767)))) (pm_tn 768 (pm_tl 767 (s_iald 768)) (pm_tn 771 (pm_tl 768 (s_call 67 3 0 6 2 (fun _ => 16) 771)) (pm_tl 771 (s_aload 2 772))))))) (pm_tn 785 (pm_tn 777 (pm_tn 774 (pm_tn 773 (pm_tl 772 (s_aload 0 773)) (pm_tl 773 (s_iload 3 774))) (pm_tn 775 (pm_tl 774 (s_push 1 775)) (pm_tn 776 (pm_tl 775 (s_iadd 776)) (pm_tl 776 (s_iald 777))))) (pm_tn 780 (pm_tn 778 (pm_tl 777 (s_aload 0 778)) (pm_tn 779 (pm_tl 778 (s_iload 3 779)) (pm_tl 779 (s_push 2 780)))) (pm_tn 781 (pm_tl 780 (s_iadd 781)) (pm_tn 782 (pm_tl 781 (s_iald 782)) (pm_tl 782 (s_call 139 3 0 7 2 (fun _ => 4) 785)))))) (pm_tn 792 (pm_tn 789 (pm_tn 786 (pm_tl 785 (s_lcmp 786)) (pm_tl 786 (s_ifeq 1001 789))) (pm_tn 790 (pm_tl 789 (s_push 0 790)) (pm_tn 791 (pm_tl 790 (s_zret)) (pm_tl 791 (s_aload 1 792))))) (pm_tn 795 (pm_tn 793 (pm_tl 792 (s_aload 0 793)) (pm_tn 794 (pm_tl 793 (s_iload 3 794)) (pm_tl 794 (s_push 1 795)))) (pm_tn 796 (pm_tl 795 (s_iadd 796)) (pm_tn 797 (pm_tl 796 (s_iald 797)) (pm_tl 797 (s_aload 0 798)))))))))) (pm_tn 901 (pm_tn 852 (pm_tn 821 (pm_tn 810 (pm_tn 803 (pm_tn 800 (pm_tn 799 (pm_tl 798 (s_iload 3 799)) (pm_tl 799 (s_push 2 800))) (pm_tn 801 (pm_tl 800 (s_iadd 801)) (pm_tn 802 (pm_tl 801 (s_iald 802)) (pm_tl 802 (s_aload 0 803))))) (pm_tn 805 (pm_tn 804 (pm_tl 803 (s_iload 3 804)) (pm_tl 804 (s_push 3 805))) (pm_tn 806 (pm_tl 805 (s_iadd 806)) (pm_tn 807 (pm_tl 806 (s_iald 807)) (pm_tl 807 (s_call 68 4 6 6 2 (fun _ => 16) 810)))))) (pm_tn 815 (pm_tn 812 (pm_tn 811 (pm_tl 810 (s_aload 2 811)) (pm_tl 811 (s_aload 0 812))) (pm_tn 813 (pm_tl 812 (s_iload 3 813)) (pm_tn 814 (pm_tl 813 (s_push 1 814)) (pm_tl 814 (s_iadd 815))))) (pm_tn 818 (pm_tn 816 (pm_tl 815 (s_iald 816)) (pm_tn 817 (pm_tl 816 (s_aload 0 817)) (pm_tl 817 (s_iload 3 818)))) (pm_tn 819 (pm_tl 818 (s_push 2 819)) (pm_tn 820 (pm_tl 819 (s_iadd 820)) (pm_tl 820 (s_iald 821))))))) (pm_tn 835 (pm_tn 826 (pm_tn 823 (pm_tn 822 (pm_tl 821 (s_aload 0 822)) (pm_tl 822 (s_iload 3 823))) (pm_tn 824 (pm_tl 823 (s_push 3 824)) (pm_tn 825 (pm_tl 824 (s_iadd 825)) (pm_tl 825 (s_iald 826))))) (pm_tn 830 (pm_tn 829 (pm_tl 826 (s_call 140 4 10 7 2 (fun _ => 4) 829)) (pm_tl 829 (s_lcmp 830))) (pm_tn 833 (pm_tl 830 (s_ifeq 1001 833)) (pm_tn 834 (pm_tl 833 (s_push 0 834)) (pm_tl 834 (s_zret)))))) (pm_tn 844 (pm_tn 839 (pm_tn 836 (pm_tl 835 (s_aload 1 836)) (pm_tl 836 (s_call 69 1 1 6 2 (fun _ => 15) 839))) (pm_tn 840 (pm_tl 839 (s_aload 2 840)) (pm_tn 843 (pm_tl 840 (s_call 141 1 0 7 2 (fun _ => 4) 843)) (pm_tl 843 (s_lcmp 844))))) (pm_tn 849 (pm_tn 847 (pm_tl 844 (s_ifeq 1001 847)) (pm_tn 848 (pm_tl 847 (s_push 0 848)) (pm_tl 848 (s_zret)))) (pm_tn 850 (pm_tl 849 (s_aload 1 850)) (pm_tn 851 (pm_tl 850 (s_aload 0 851)) (pm_tl 851 (s_iload 3 852)))))))) (pm_tn 875 (pm_tn 862 (pm_tn 857 (pm_tn 854 (pm_tn 853 (pm_tl 852 (s_push 1 853)) (pm_tl 853 (s_iadd 854))) (pm_tn 855 (pm_tl 854 (s_iald 855)) (pm_tn 856 (pm_tl 855 (s_aload 0 856)) (pm_tl 856 (s_iload 3 857))))) (pm_tn 859 (pm_tn 858 (pm_tl 857 (s_push 2 858)) (pm_tl 858 (s_iadd 859))) (pm_tn 860 (pm_tl 859 (s_iald 860)) (pm_tn 861 (pm_tl 860 (s_aload 0 861)) (pm_tl 861 (s_iload 3 862)))))) (pm_tn 869 (pm_tn 864 (pm_tn 863 (pm_tl 862 (s_push 3 863)) (pm_tl 863 (s_iadd 864))) (pm_tn 865 (pm_tl 864 (s_iald 865)) (pm_tn 868 (pm_tl 865 (s_call 70 4 0 6 1 (fun _ => 1) 868)) (pm_tl 868 (s_aload 2 869))))) (pm_tn 872 (pm_tn 870 (pm_tl 869 (s_aload 0 870)) (pm_tn 871 (pm_tl 870 (s_iload 3 871)) (pm_tl 871 (s_push 1 872)))) (pm_tn 873 (pm_tl 872 (s_iadd 873)) (pm_tn 874 (pm_tl 873 (s_iald 874)) (pm_tl 874 (s_aload 0 875))))))) (pm_tn 890 (pm_tn 880 (pm_tn 877 (pm_tn 876 (pm_tl 875 (s_iload 3 876)) (pm_tl 876 (s_push 2 877))) (pm_tn 878 (pm_tl 877 (s_iadd 878)) (pm_tn 879 (pm_tl 878 (s_iald 879)) (pm_tl 879 (s_aload 0 880))))) (pm_tn 883 (pm_tn 881 (pm_tl 880 (s_iload 3 881)) (pm_tn 882 (pm_tl 881 (s_push 3 882)) (pm_tl 882 (s_iadd 883)))) (pm_tn 884 (pm_tl 883 (s_iald 884)) (pm_tn 887 (pm_tl 884 (s_call 99 4 1 7 1 (fun _ => 1) 887)) (pm_tl 887 (s_ceq 1001 890)))))) (pm_tn 895 (pm_tn 892 (pm_tn 891 (pm_tl 890 (s_push 0 891)) (pm_tl 891 (s_zret))) (pm_tn 893 (pm_tl 892 (s_aload 1 893)) (pm_tn 894 (pm_tl 893 (s_aload 0 894)) (pm_tl 894 (s_iload 3 895))))) (pm_tn 898 (pm_tn 896 (pm_tl 895 (s_push 1 896)) (pm_tn 897 (pm_tl 896 (s_iadd 897)) (pm_tl 897 (s_iald 898)))) (pm_tn 899 (pm_tl 898 (s_aload 0 899)) (pm_tn 900 (pm_tl 899 (s_iload 3 900)) (pm_tl 900 (s_push 2 901))))))))) (pm_tn 950 (pm_tn 924 (pm_tn 913 (pm_tn 906 (pm_tn 903 (pm_tn 902 (pm_tl 901 (s_iadd 902)) (pm_tl 902 (s_iald 903))) (pm_tn 904 (pm_tl 903 (s_aload 0 904)) (pm_tn 905 (pm_tl 904 (s_iload 3 905)) (pm_tl 905 (s_push 3 906))))) (pm_tn 908 (pm_tn 907 (pm_tl 906 (s_iadd 907)) (pm_tl 907 (s_iald 908))) (pm_tn 911 (pm_tl 908 (s_call 71 4 1 6 1 (fun _ => 1) 911)) (pm_tn 912 (pm_tl 911 (s_aload 2 912)) (pm_tl 912 (s_aload 0 913)))))) (pm_tn 918 (pm_tn 915 (pm_tn 914 (pm_tl 913 (s_iload 3 914)) (pm_tl 914 (s_push 1 915))) (pm_tn 916 (pm_tl 915 (s_iadd 916)) (pm_tn 917 (pm_tl 916 (s_iald 917)) (pm_tl 917 (s_aload 0 918))))) (pm_tn 921 (pm_tn 919 (pm_tl 918 (s_iload 3 919)) (pm_tn 920 (pm_tl 919 (s_push 2 920)) (pm_tl 920 (s_iadd 921)))) (pm_tn 922 (pm_tl 921 (s_iald 922)) (pm_tn 923 (pm_tl 922 (s_aload 0 923)) (pm_tl 923 (s_iload 3 924))))))) (pm_tn 939 (pm_tn 933 (pm_tn 926 (pm_tn 925 (pm_tl 924 (s_push 3 925)) (pm_tl 925 (s_iadd 926))) (pm_tn 927 (pm_tl 926 (s_iald 927)) (pm_tn 930 (pm_tl 927 (s_call 100 4 0 7 1 (fun _ => 1) 930)) (pm_tl 930 (s_ceq 1001 933))))) (pm_tn 936 (pm_tn 934 (pm_tl 933 (s_push 0 934)) (pm_tn 935 (pm_tl 934 (s_zret)) (pm_tl 935 (s_aload 1 936)))) (pm_tn 937 (pm_tl 936 (s_aload 0 937)) (pm_tn 938 (pm_tl 937 (s_iload 3 938)) (pm_tl 938 (s_push 1 939)))))) (pm_tn 944 (pm_tn 941 (pm_tn 940 (pm_tl 939 (s_iadd 940)) (pm_tl 940 (s_iald 941))) (pm_tn 942 (pm_tl 941 (s_aload 0 942)) (pm_tn 943 (pm_tl 942 (s_iload 3 943)) (pm_tl 943 (s_push 2 944))))) (pm_tn 947 (pm_tn 945 (pm_tl 944 (s_iadd 945)) (pm_tn 946 (pm_tl 945 (s_iald 946)) (pm_tl 946 (s_aload 0 947)))) (pm_tn 948 (pm_tl 947 (s_iload 3 948)) (pm_tn 949 (pm_tl 948 (s_push 3 949)) (pm_tl 949 (s_iadd 950)))))))) (pm_tn 977 (pm_tn 962 (pm_tn 957 (pm_tn 954 (pm_tn 951 (pm_tl 950 (s_iald 951)) (pm_tl 951 (s_call 72 4 2 6 1 (fun _ => 3) 954))) (pm_tn 955 (pm_tl 954 (s_aload 2 955)) (pm_tn 956 (pm_tl 955 (s_aload 0 956)) (pm_tl 956 (s_iload 3 957))))) (pm_tn 959 (pm_tn 958 (pm_tl 957 (s_push 1 958)) (pm_tl 958 (s_iadd 959))) (pm_tn 960 (pm_tl 959 (s_iald 960)) (pm_tn 961 (pm_tl 960 (s_aload 0 961)) (pm_tl 961 (s_iload 3 962)))))) (pm_tn 967 (pm_tn 964 (pm_tn 963 (pm_tl 962 (s_push 2 963)) (pm_tl 963 (s_iadd 964))) (pm_tn 965 (pm_tl 964 (s_iald 965)) (pm_tn 966 (pm_tl 965 (s_aload 0 966)) (pm_tl 966 (s_iload 3 967))))) (pm_tn 970 (pm_tn 968 (pm_tl 967 (s_push 3 968)) (pm_tn 969 (pm_tl 968 (s_iadd 969)) (pm_tl 969 (s_iald 970)))) (pm_tn 973 (pm_tl 970 (s_call 142 4 3 7 1 (fun _ => 2) 973)) (pm_tn 976 (pm_tl 973 (s_ceq 1001 976)) (pm_tl 976 (s_push 0 977))))))) (pm_tn 990 (pm_tn 982 (pm_tn 979 (pm_tn 978 (pm_tl 977 (s_zret)) (pm_tl 978 (s_aload 1 979))) (pm_tn 980 (pm_tl 979 (s_aload 0 980)) (pm_tn 981 (pm_tl 980 (s_iload 3 981)) (pm_tl 981 (s_push 1 982))))) (pm_tn 987 (pm_tn 983 (pm_tl 982 (s_iadd 983)) (pm_tn 984 (pm_tl 983 (s_iald 984)) (pm_tl 984 (s_call 73 2 0 6 1 (fun _ => 3) 987)))) (pm_tn 988 (pm_tl 987 (s_aload 2 988)) (pm_tn 989 (pm_tl 988 (s_aload 0 989)) (pm_tl 989 (s_iload 3 990)))))) (pm_tn 999 (pm_tn 992 (pm_tn 991 (pm_tl 990 (s_push 1 991)) (pm_tl 991 (s_iadd 992))) (pm_tn 993 (pm_tl 992 (s_iald 993)) (pm_tn 996 (pm_tl 993 (s_call 143 2 3 7 1 (fun _ => 2) 996)) (pm_tl 996 (s_ceq 1001 999))))) (pm_tn 1004 (pm_tn 1000 (pm_tl 999 (s_push 0 1000)) (pm_tn 1001 (pm_tl 1000 (s_zret)) (pm_tl 1001 (s_iinc 3 5 1004)))) (pm_tn 1007 (pm_tl 1004 (s_K 18 [true, true, true, true] (s_goto 18))) (pm_tn 1008 (pm_tl 1007 (s_push 1 1008)) (pm_tl 1008 (s_zret))))))))))))
theorem tc_L_law : ∀ pc, pm_Ct (t_L_law pc) := (ct_tn (ct_tn (ct_tn (ct_tn (ct_tn (ct_tn (ct_tn (ct_tn (ct_tn (ct_tl (ct_bad)) (ct_tl (ct_dup _))) (ct_tn (ct_tl (ct_bad)) (ct_tn (ct_tl (ct_astore _ _)) (ct_tl (ct_bad))))) (ct_tn (ct_tn (ct_tl (ct_dup _)) (ct_tl (ct_bad))) (ct_tn (ct_tl (ct_astore _ _)) (ct_tn (ct_tl (ct_push _ _)) (ct_tl (ct_K (ct_istore _ _))))))) (ct_tn (ct_tn (ct_tn (ct_tl (ct_iload _ _)) (ct_tl (ct_aload _ _))) (ct_tn (ct_tl (ct_alen _)) (ct_tn (ct_tl (ct_push _ _)) (ct_tl (ct_isub _))))) (ct_tn (ct_tn (ct_tl (ct_cgt _ _)) (ct_tn (ct_tl (ct_aload _ _)) (ct_tl (ct_iload _ _)))) (ct_tn (ct_tl (ct_iald _)) (ct_tn (ct_tl (ct_push _ _)) (ct_tl (ct_iand _))))))) (ct_tn (ct_tn (ct_tn (ct_tn (ct_tl (ct_switch _ _)) (ct_tl (ct_aload _ _))) (ct_tn (ct_tl (ct_aload _ _)) (ct_tn (ct_tl (ct_iload _ _)) (ct_tl (ct_push _ _))))) (ct_tn (ct_tn (ct_tl (ct_iadd _)) (ct_tl (ct_iald _))) (ct_tn (ct_tl (ct_aload _ _)) (ct_tn (ct_tl (ct_iload _ _)) (ct_tl (ct_push _ _)))))) (ct_tn (ct_tn (ct_tn (ct_tl (ct_iadd _)) (ct_tl (ct_iald _))) (ct_tn (ct_tl (ct_call _ _ _ _ _ _ _)) (ct_tn (ct_tl (ct_aload _ _)) (ct_tl (ct_aload _ _))))) (ct_tn (ct_tn (ct_tl (ct_iload _ _)) (ct_tn (ct_tl (ct_push _ _)) (ct_tl (ct_iadd _)))) (ct_tn (ct_tl (ct_iald _)) (ct_tn (ct_tl (ct_aload _ _)) (ct_tl (ct_iload _ _)))))))) (ct_tn (ct_tn (ct_tn (ct_tn (ct_tn (ct_tl (ct_push _ _)) (ct_tl (ct_iadd _))) (ct_tn (ct_tl (ct_iald _)) (ct_tn (ct_tl (ct_call _ _ _ _ _ _ _)) (ct_tl (ct_ceq _ _))))) (ct_tn (ct_tn (ct_tl (ct_push _ _)) (ct_tl (ct_zret))) (ct_tn (ct_tl (ct_aload _ _)) (ct_tn (ct_tl (ct_aload _ _)) (ct_tl (ct_iload _ _)))))) (ct_tn (ct_tn (ct_tn (ct_tl (ct_push _ _)) (ct_tl (ct_iadd _))) (ct_tn (ct_tl (ct_iald _)) (ct_tn (ct_tl (ct_aload _ _)) (ct_tl (ct_iload _ _))))) (ct_tn (ct_tn (ct_tl (ct_push _ _)) (ct_tn (ct_tl (ct_iadd _)) (ct_tl (ct_iald _)))) (ct_tn (ct_tl (ct_aload _ _)) (ct_tn (ct_tl (ct_iload _ _)) (ct_tl (ct_push _ _))))))) (ct_tn (ct_tn (ct_tn (ct_tn (ct_tl (ct_iadd _)) (ct_tl (ct_iald _))) (ct_tn (ct_tl (ct_aload _ _)) (ct_tn (ct_tl (ct_iload _ _)) (ct_tl (ct_push _ _))))) (ct_tn (ct_tn (ct_tl (ct_iadd _)) (ct_tn (ct_tl (ct_iald _)) (ct_tl (ct_call _ _ _ _ _ _ _)))) (ct_tn (ct_tl (ct_aload _ _)) (ct_tn (ct_tl (ct_aload _ _)) (ct_tl (ct_iload _ _)))))) (ct_tn (ct_tn (ct_tn (ct_tl (ct_push _ _)) (ct_tl (ct_iadd _))) (ct_tn (ct_tl (ct_iald _)) (ct_tn (ct_tl (ct_aload _ _)) (ct_tl (ct_iload _ _))))) (ct_tn (ct_tn (ct_tl (ct_push _ _)) (ct_tn (ct_tl (ct_iadd _)) (ct_tl (ct_iald _)))) (ct_tn (ct_tl (ct_aload _ _)) (ct_tn (ct_tl (ct_iload _ _)) (ct_tl (ct_push _ _))))))))) (ct_tn (ct_tn (ct_tn (ct_tn (ct_tn (ct_tn (ct_tl (ct_iadd _)) (ct_tl (ct_iald _))) (ct_tn (ct_tl (ct_aload _ _)) (ct_tn (ct_tl (ct_iload _ _)) (ct_tl (ct_push _ _))))) (ct_tn (ct_tn (ct_tl (ct_iadd _)) (ct_tl (ct_iald _))) (ct_tn (ct_tl (ct_call _ _ _ _ _ _ _)) (ct_tn (ct_tl (ct_ceq _ _)) (ct_tl (ct_push _ _)))))) (ct_tn (ct_tn (ct_tn (ct_tl (ct_zret)) (ct_tl (ct_aload _ _))) (ct_tn (ct_tl (ct_aload _ _)) (ct_tn (ct_tl (ct_iload _ _)) (ct_tl (ct_push _ _))))) (ct_tn (ct_tn (ct_tl (ct_iadd _)) (ct_tn (ct_tl (ct_iald _)) (ct_tl (ct_aload _ _)))) (ct_tn (ct_tl (ct_iload _ _)) (ct_tn (ct_tl (ct_push _ _)) (ct_tl (ct_iadd _))))))) (ct_tn (ct_tn (ct_tn (ct_tn (ct_tl (ct_iald _)) (ct_tl (ct_call _ _ _ _ _ _ _))) (ct_tn (ct_tl (ct_aload _ _)) (ct_tn (ct_tl (ct_aload _ _)) (ct_tl (ct_iload _ _))))) (ct_tn (ct_tn (ct_tl (ct_push _ _)) (ct_tl (ct_iadd _))) (ct_tn (ct_tl (ct_iald _)) (ct_tn (ct_tl (ct_aload _ _)) (ct_tl (ct_iload _ _)))))) (ct_tn (ct_tn (ct_tn (ct_tl (ct_push _ _)) (ct_tl (ct_iadd _))) (ct_tn (ct_tl (ct_iald _)) (ct_tn (ct_tl (ct_call _ _ _ _ _ _ _)) (ct_tl (ct_ceq _ _))))) (ct_tn (ct_tn (ct_tl (ct_push _ _)) (ct_tn (ct_tl (ct_zret)) (ct_tl (ct_aload _ _)))) (ct_tn (ct_tl (ct_aload _ _)) (ct_tn (ct_tl (ct_iload _ _)) (ct_tl (ct_push _ _)))))))) (ct_tn (ct_tn (ct_tn (ct_tn (ct_tn (ct_tl (ct_iadd _)) (ct_tl (ct_iald _))) (ct_tn (ct_tl (ct_aload _ _)) (ct_tn (ct_tl (ct_iload _ _)) (ct_tl (ct_push _ _))))) (ct_tn (ct_tn (ct_tl (ct_iadd _)) (ct_tl (ct_iald _))) (ct_tn (ct_tl (ct_call _ _ _ _ _ _ _)) (ct_tn (ct_tl (ct_aload _ _)) (ct_tl (ct_aload _ _)))))) (ct_tn (ct_tn (ct_tn (ct_tl (ct_iload _ _)) (ct_tl (ct_push _ _))) (ct_tn (ct_tl (ct_iadd _)) (ct_tn (ct_tl (ct_iald _)) (ct_tl (ct_aload _ _))))) (ct_tn (ct_tn (ct_tl (ct_iload _ _)) (ct_tn (ct_tl (ct_push _ _)) (ct_tl (ct_iadd _)))) (ct_tn (ct_tl (ct_iald _)) (ct_tn (ct_tl (ct_call _ _ _ _ _ _ _)) (ct_tl (ct_ceq _ _))))))) (ct_tn (ct_tn (ct_tn (ct_tn (ct_tl (ct_push _ _)) (ct_tl (ct_zret))) (ct_tn (ct_tl (ct_aload _ _)) (ct_tn (ct_tl (ct_aload _ _)) (ct_tl (ct_iload _ _))))) (ct_tn (ct_tn (ct_tl (ct_push _ _)) (ct_tn (ct_tl (ct_iadd _)) (ct_tl (ct_iald _)))) (ct_tn (ct_tl (ct_call _ _ _ _ _ _ _)) (ct_tn (ct_tl (ct_aload _ _)) (ct_tl (ct_aload _ _)))))) (ct_tn (ct_tn (ct_tn (ct_tl (ct_iload _ _)) (ct_tl (ct_push _ _))) (ct_tn (ct_tl (ct_iadd _)) (ct_tn (ct_tl (ct_iald _)) (ct_tl (ct_call _ _ _ _ _ _ _))))) (ct_tn (ct_tn (ct_tl (ct_ceq _ _)) (ct_tn (ct_tl (ct_push _ _)) (ct_tl (ct_zret)))) (ct_tn (ct_tl (ct_aload _ _)) (ct_tn (ct_tl (ct_aload _ _)) (ct_tl (ct_iload _ _)))))))))) (ct_tn (ct_tn (ct_tn (ct_tn (ct_tn (ct_tn (ct_tn (ct_tl (ct_push _ _)) (ct_tl (ct_iadd _))) (ct_tn (ct_tl (ct_iald _)) (ct_tn (ct_tl (ct_aload _ _)) (ct_tl (ct_iload _ _))))) (ct_tn (ct_tn (ct_tl (ct_push _ _)) (ct_tl (ct_iadd _))) (ct_tn (ct_tl (ct_iald _)) (ct_tn (ct_tl (ct_call _ _ _ _ _ _ _)) (ct_tl (ct_aload _ _)))))) (ct_tn (ct_tn (ct_tn (ct_tl (ct_aload _ _)) (ct_tl (ct_iload _ _))) (ct_tn (ct_tl (ct_push _ _)) (ct_tn (ct_tl (ct_iadd _)) (ct_tl (ct_iald _))))) (ct_tn (ct_tn (ct_tl (ct_aload _ _)) (ct_tn (ct_tl (ct_iload _ _)) (ct_tl (ct_push _ _)))) (ct_tn (ct_tl (ct_iadd _)) (ct_tn (ct_tl (ct_iald _)) (ct_tl (ct_call _ _ _ _ _ _ _))))))) (ct_tn (ct_tn (ct_tn (ct_tn (ct_tl (ct_ceq _ _)) (ct_tl (ct_push _ _))) (ct_tn (ct_tl (ct_zret)) (ct_tn (ct_tl (ct_aload _ _)) (ct_tl (ct_call _ _ _ _ _ _ _))))) (ct_tn (ct_tn (ct_tl (ct_aload _ _)) (ct_tl (ct_call _ _ _ _ _ _ _))) (ct_tn (ct_tl (ct_ceq _ _)) (ct_tn (ct_tl (ct_push _ _)) (ct_tl (ct_zret)))))) (ct_tn (ct_tn (ct_tn (ct_tl (ct_aload _ _)) (ct_tl (ct_aload _ _))) (ct_tn (ct_tl (ct_iload _ _)) (ct_tn (ct_tl (ct_push _ _)) (ct_tl (ct_iadd _))))) (ct_tn (ct_tn (ct_tl (ct_iald _)) (ct_tn (ct_tl (ct_aload _ _)) (ct_tl (ct_iload _ _)))) (ct_tn (ct_tl (ct_push _ _)) (ct_tn (ct_tl (ct_iadd _)) (ct_tl (ct_iald _)))))))) (ct_tn (ct_tn (ct_tn (ct_tn (ct_tn (ct_tl (ct_call _ _ _ _ _ _ _)) (ct_tl (ct_aload _ _))) (ct_tn (ct_tl (ct_aload _ _)) (ct_tn (ct_tl (ct_iload _ _)) (ct_tl (ct_push _ _))))) (ct_tn (ct_tn (ct_tl (ct_iadd _)) (ct_tl (ct_iald _))) (ct_tn (ct_tl (ct_aload _ _)) (ct_tn (ct_tl (ct_iload _ _)) (ct_tl (ct_push _ _)))))) (ct_tn (ct_tn (ct_tn (ct_tl (ct_iadd _)) (ct_tl (ct_iald _))) (ct_tn (ct_tl (ct_call _ _ _ _ _ _ _)) (ct_tn (ct_tl (ct_ceq _ _)) (ct_tl (ct_push _ _))))) (ct_tn (ct_tn (ct_tl (ct_zret)) (ct_tn (ct_tl (ct_aload _ _)) (ct_tl (ct_aload _ _)))) (ct_tn (ct_tl (ct_iload _ _)) (ct_tn (ct_tl (ct_push _ _)) (ct_tl (ct_iadd _))))))) (ct_tn (ct_tn (ct_tn (ct_tn (ct_tl (ct_iald _)) (ct_tl (ct_call _ _ _ _ _ _ _))) (ct_tn (ct_tl (ct_aload _ _)) (ct_tn (ct_tl (ct_aload _ _)) (ct_tl (ct_iload _ _))))) (ct_tn (ct_tn (ct_tl (ct_push _ _)) (ct_tn (ct_tl (ct_iadd _)) (ct_tl (ct_iald _)))) (ct_tn (ct_tl (ct_call _ _ _ _ _ _ _)) (ct_tn (ct_tl (ct_ceq _ _)) (ct_tl (ct_push _ _)))))) (ct_tn (ct_tn (ct_tn (ct_tl (ct_zret)) (ct_tl (ct_aload _ _))) (ct_tn (ct_tl (ct_aload _ _)) (ct_tn (ct_tl (ct_iload _ _)) (ct_tl (ct_push _ _))))) (ct_tn (ct_tn (ct_tl (ct_iadd _)) (ct_tn (ct_tl (ct_iald _)) (ct_tl (ct_aload _ _)))) (ct_tn (ct_tl (ct_iload _ _)) (ct_tn (ct_tl (ct_push _ _)) (ct_tl (ct_iadd _))))))))) (ct_tn (ct_tn (ct_tn (ct_tn (ct_tn (ct_tn (ct_tl (ct_iald _)) (ct_tl (ct_aload _ _))) (ct_tn (ct_tl (ct_iload _ _)) (ct_tn (ct_tl (ct_push _ _)) (ct_tl (ct_iadd _))))) (ct_tn (ct_tn (ct_tl (ct_iald _)) (ct_tl (ct_ifeq _ _))) (ct_tn (ct_tl (ct_push _ _)) (ct_tn (ct_tl (ct_goto _)) (ct_tl (ct_push _ _)))))) (ct_tn (ct_tn (ct_tn (ct_tl (ct_call _ _ _ _ _ _ _)) (ct_tl (ct_aload _ _))) (ct_tn (ct_tl (ct_aload _ _)) (ct_tn (ct_tl (ct_iload _ _)) (ct_tl (ct_push _ _))))) (ct_tn (ct_tn (ct_tl (ct_iadd _)) (ct_tn (ct_tl (ct_iald _)) (ct_tl (ct_aload _ _)))) (ct_tn (ct_tl (ct_iload _ _)) (ct_tn (ct_tl (ct_push _ _)) (ct_tl (ct_iadd _))))))) (ct_tn (ct_tn (ct_tn (ct_tn (ct_tl (ct_iald _)) (ct_tl (ct_aload _ _))) (ct_tn (ct_tl (ct_iload _ _)) (ct_tn (ct_tl (ct_push _ _)) (ct_tl (ct_iadd _))))) (ct_tn (ct_tn (ct_tl (ct_iald _)) (ct_tn (ct_tl (ct_ifeq _ _)) (ct_tl (ct_push _ _)))) (ct_tn (ct_tl (ct_goto _)) (ct_tn (ct_tl (ct_push _ _)) (ct_tl (ct_call _ _ _ _ _ _ _)))))) (ct_tn (ct_tn (ct_tn (ct_tl (ct_ceq _ _)) (ct_tl (ct_push _ _))) (ct_tn (ct_tl (ct_zret)) (ct_tn (ct_tl (ct_aload _ _)) (ct_tl (ct_aload _ _))))) (ct_tn (ct_tn (ct_tl (ct_iload _ _)) (ct_tn (ct_tl (ct_push _ _)) (ct_tl (ct_iadd _)))) (ct_tn (ct_tl (ct_iald _)) (ct_tn (ct_tl (ct_aload _ _)) (ct_tl (ct_iload _ _)))))))) (ct_tn (ct_tn (ct_tn (ct_tn (ct_tn (ct_tl (ct_push _ _)) (ct_tl (ct_iadd _))) (ct_tn (ct_tl (ct_iald _)) (ct_tn (ct_tl (ct_ifeq _ _)) (ct_tl (ct_push _ _))))) (ct_tn (ct_tn (ct_tl (ct_goto _)) (ct_tl (ct_push _ _))) (ct_tn (ct_tl (ct_call _ _ _ _ _ _ _)) (ct_tn (ct_tl (ct_aload _ _)) (ct_tl (ct_aload _ _)))))) (ct_tn (ct_tn (ct_tn (ct_tl (ct_iload _ _)) (ct_tl (ct_push _ _))) (ct_tn (ct_tl (ct_iadd _)) (ct_tn (ct_tl (ct_iald _)) (ct_tl (ct_aload _ _))))) (ct_tn (ct_tn (ct_tl (ct_iload _ _)) (ct_tn (ct_tl (ct_push _ _)) (ct_tl (ct_iadd _)))) (ct_tn (ct_tl (ct_iald _)) (ct_tn (ct_tl (ct_ifeq _ _)) (ct_tl (ct_push _ _))))))) (ct_tn (ct_tn (ct_tn (ct_tn (ct_tl (ct_goto _)) (ct_tl (ct_push _ _))) (ct_tn (ct_tl (ct_call _ _ _ _ _ _ _)) (ct_tn (ct_tl (ct_ceq _ _)) (ct_tl (ct_push _ _))))) (ct_tn (ct_tn (ct_tl (ct_zret)) (ct_tn (ct_tl (ct_aload _ _)) (ct_tl (ct_aload _ _)))) (ct_tn (ct_tl (ct_iload _ _)) (ct_tn (ct_tl (ct_push _ _)) (ct_tl (ct_iadd _)))))) (ct_tn (ct_tn (ct_tn (ct_tl (ct_iald _)) (ct_tl (ct_aload _ _))) (ct_tn (ct_tl (ct_iload _ _)) (ct_tn (ct_tl (ct_push _ _)) (ct_tl (ct_iadd _))))) (ct_tn (ct_tn (ct_tl (ct_iald _)) (ct_tn (ct_tl (ct_call _ _ _ _ _ _ _)) (ct_tl (ct_aload _ _)))) (ct_tn (ct_tl (ct_aload _ _)) (ct_tn (ct_tl (ct_iload _ _)) (ct_tl (ct_push _ _))))))))))) (ct_tn (ct_tn (ct_tn (ct_tn (ct_tn (ct_tn (ct_tn (ct_tn (ct_tl (ct_iadd _)) (ct_tl (ct_iald _))) (ct_tn (ct_tl (ct_aload _ _)) (ct_tn (ct_tl (ct_iload _ _)) (ct_tl (ct_push _ _))))) (ct_tn (ct_tn (ct_tl (ct_iadd _)) (ct_tl (ct_iald _))) (ct_tn (ct_tl (ct_call _ _ _ _ _ _ _)) (ct_tn (ct_tl (ct_ceq _ _)) (ct_tl (ct_push _ _)))))) (ct_tn (ct_tn (ct_tn (ct_tl (ct_zret)) (ct_tl (ct_aload _ _))) (ct_tn (ct_tl (ct_call _ _ _ _ _ _ _)) (ct_tn (ct_tl (ct_aload _ _)) (ct_tl (ct_call _ _ _ _ _ _ _))))) (ct_tn (ct_tn (ct_tl (ct_ceq _ _)) (ct_tn (ct_tl (ct_push _ _)) (ct_tl (ct_zret)))) (ct_tn (ct_tl (ct_aload _ _)) (ct_tn (ct_tl (ct_aload _ _)) (ct_tl (ct_iload _ _))))))) (ct_tn (ct_tn (ct_tn (ct_tn (ct_tl (ct_push _ _)) (ct_tl (ct_iadd _))) (ct_tn (ct_tl (ct_iald _)) (ct_tn (ct_tl (ct_aload _ _)) (ct_tl (ct_iload _ _))))) (ct_tn (ct_tn (ct_tl (ct_push _ _)) (ct_tl (ct_iadd _))) (ct_tn (ct_tl (ct_iald _)) (ct_tn (ct_tl (ct_call _ _ _ _ _ _ _)) (ct_tl (ct_aload _ _)))))) (ct_tn (ct_tn (ct_tn (ct_tl (ct_aload _ _)) (ct_tl (ct_iload _ _))) (ct_tn (ct_tl (ct_push _ _)) (ct_tn (ct_tl (ct_iadd _)) (ct_tl (ct_iald _))))) (ct_tn (ct_tn (ct_tl (ct_aload _ _)) (ct_tn (ct_tl (ct_iload _ _)) (ct_tl (ct_push _ _)))) (ct_tn (ct_tl (ct_iadd _)) (ct_tn (ct_tl (ct_iald _)) (ct_tl (ct_call _ _ _ _ _ _ _)))))))) (ct_tn (ct_tn (ct_tn (ct_tn (ct_tn (ct_tl (ct_ceq _ _)) (ct_tl (ct_push _ _))) (ct_tn (ct_tl (ct_zret)) (ct_tn (ct_tl (ct_aload _ _)) (ct_tl (ct_aload _ _))))) (ct_tn (ct_tn (ct_tl (ct_iload _ _)) (ct_tl (ct_push _ _))) (ct_tn (ct_tl (ct_iadd _)) (ct_tn (ct_tl (ct_iald _)) (ct_tl (ct_call _ _ _ _ _ _ _)))))) (ct_tn (ct_tn (ct_tn (ct_tl (ct_aload _ _)) (ct_tl (ct_aload _ _))) (ct_tn (ct_tl (ct_iload _ _)) (ct_tn (ct_tl (ct_push _ _)) (ct_tl (ct_iadd _))))) (ct_tn (ct_tn (ct_tl (ct_iald _)) (ct_tn (ct_tl (ct_call _ _ _ _ _ _ _)) (ct_tl (ct_ceq _ _)))) (ct_tn (ct_tl (ct_push _ _)) (ct_tn (ct_tl (ct_zret)) (ct_tl (ct_aload _ _))))))) (ct_tn (ct_tn (ct_tn (ct_tn (ct_tl (ct_call _ _ _ _ _ _ _)) (ct_tl (ct_aload _ _))) (ct_tn (ct_tl (ct_call _ _ _ _ _ _ _)) (ct_tn (ct_tl (ct_lcmp _)) (ct_tl (ct_ifeq _ _))))) (ct_tn (ct_tn (ct_tl (ct_push _ _)) (ct_tn (ct_tl (ct_zret)) (ct_tl (ct_aload _ _)))) (ct_tn (ct_tl (ct_aload _ _)) (ct_tn (ct_tl (ct_iload _ _)) (ct_tl (ct_push _ _)))))) (ct_tn (ct_tn (ct_tn (ct_tl (ct_iadd _)) (ct_tl (ct_iald _))) (ct_tn (ct_tl (ct_aload _ _)) (ct_tn (ct_tl (ct_iload _ _)) (ct_tl (ct_push _ _))))) (ct_tn (ct_tn (ct_tl (ct_iadd _)) (ct_tn (ct_tl (ct_iald _)) (ct_tl (ct_call _ _ _ _ _ _ _)))) (ct_tn (ct_tl (ct_aload _ _)) (ct_tn (ct_tl (ct_aload _ _)) (ct_tl (ct_iload _ _))))))))) (ct_tn (ct_tn (ct_tn (ct_tn (ct_tn (ct_tn (ct_tl (ct_push _ _)) (ct_tl (ct_iadd _))) (ct_tn (ct_tl (ct_iald _)) (ct_tn (ct_tl (ct_aload _ _)) (ct_tl (ct_iload _ _))))) (ct_tn (ct_tn (ct_tl (ct_push _ _)) (ct_tl (ct_iadd _))) (ct_tn (ct_tl (ct_iald _)) (ct_tn (ct_tl (ct_call _ _ _ _ _ _ _)) (ct_tl (ct_ceq _ _)))))) (ct_tn (ct_tn (ct_tn (ct_tl (ct_push _ _)) (ct_tl (ct_zret))) (ct_tn (ct_tl (ct_aload _ _)) (ct_tn (ct_tl (ct_call _ _ _ _ _ _ _)) (ct_tl (ct_aload _ _))))) (ct_tn (ct_tn (ct_tl (ct_call _ _ _ _ _ _ _)) (ct_tn (ct_tl (ct_ceq _ _)) (ct_tl (ct_push _ _)))) (ct_tn (ct_tl (ct_zret)) (ct_tn (ct_tl (ct_aload _ _)) (ct_tl (ct_call _ _ _ _ _ _ _))))))) (ct_tn (ct_tn (ct_tn (ct_tn (ct_tl (ct_aload _ _)) (ct_tl (ct_call _ _ _ _ _ _ _))) (ct_tn (ct_tl (ct_ceq _ _)) (ct_tn (ct_tl (ct_push _ _)) (ct_tl (ct_zret))))) (ct_tn (ct_tn (ct_tl (ct_aload _ _)) (ct_tn (ct_tl (ct_aload _ _)) (ct_tl (ct_iload _ _)))) (ct_tn (ct_tl (ct_push _ _)) (ct_tn (ct_tl (ct_iadd _)) (ct_tl (ct_iald _)))))) (ct_tn (ct_tn (ct_tn (ct_tl (ct_call _ _ _ _ _ _ _)) (ct_tl (ct_aload _ _))) (ct_tn (ct_tl (ct_aload _ _)) (ct_tn (ct_tl (ct_iload _ _)) (ct_tl (ct_push _ _))))) (ct_tn (ct_tn (ct_tl (ct_iadd _)) (ct_tn (ct_tl (ct_iald _)) (ct_tl (ct_call _ _ _ _ _ _ _)))) (ct_tn (ct_tl (ct_ceq _ _)) (ct_tn (ct_tl (ct_push _ _)) (ct_tl (ct_zret)))))))) (ct_tn (ct_tn (ct_tn (ct_tn (ct_tn (ct_tl (ct_aload _ _)) (ct_tl (ct_call _ _ _ _ _ _ _))) (ct_tn (ct_tl (ct_aload _ _)) (ct_tn (ct_tl (ct_call _ _ _ _ _ _ _)) (ct_tl (ct_lcmp _))))) (ct_tn (ct_tn (ct_tl (ct_ifeq _ _)) (ct_tl (ct_push _ _))) (ct_tn (ct_tl (ct_zret)) (ct_tn (ct_tl (ct_aload _ _)) (ct_tl (ct_aload _ _)))))) (ct_tn (ct_tn (ct_tn (ct_tl (ct_iload _ _)) (ct_tl (ct_push _ _))) (ct_tn (ct_tl (ct_iadd _)) (ct_tn (ct_tl (ct_iald _)) (ct_tl (ct_aload _ _))))) (ct_tn (ct_tn (ct_tl (ct_iload _ _)) (ct_tn (ct_tl (ct_push _ _)) (ct_tl (ct_iadd _)))) (ct_tn (ct_tl (ct_iald _)) (ct_tn (ct_tl (ct_call _ _ _ _ _ _ _)) (ct_tl (ct_aload _ _))))))) (ct_tn (ct_tn (ct_tn (ct_tn (ct_tl (ct_aload _ _)) (ct_tl (ct_iload _ _))) (ct_tn (ct_tl (ct_push _ _)) (ct_tn (ct_tl (ct_iadd _)) (ct_tl (ct_iald _))))) (ct_tn (ct_tn (ct_tl (ct_aload _ _)) (ct_tn (ct_tl (ct_iload _ _)) (ct_tl (ct_push _ _)))) (ct_tn (ct_tl (ct_iadd _)) (ct_tn (ct_tl (ct_iald _)) (ct_tl (ct_call _ _ _ _ _ _ _)))))) (ct_tn (ct_tn (ct_tn (ct_tl (ct_lcmp _)) (ct_tl (ct_ifeq _ _))) (ct_tn (ct_tl (ct_push _ _)) (ct_tn (ct_tl (ct_zret)) (ct_tl (ct_aload _ _))))) (ct_tn (ct_tn (ct_tl (ct_aload _ _)) (ct_tn (ct_tl (ct_iload _ _)) (ct_tl (ct_push _ _)))) (ct_tn (ct_tl (ct_iadd _)) (ct_tn (ct_tl (ct_iald _)) (ct_tl (ct_aload _ _)))))))))) (ct_tn (ct_tn (ct_tn (ct_tn (ct_tn (ct_tn (ct_tn (ct_tl (ct_iload _ _)) (ct_tl (ct_push _ _))) (ct_tn (ct_tl (ct_iadd _)) (ct_tn (ct_tl (ct_iald _)) (ct_tl (ct_aload _ _))))) (ct_tn (ct_tn (ct_tl (ct_iload _ _)) (ct_tl (ct_push _ _))) (ct_tn (ct_tl (ct_iadd _)) (ct_tn (ct_tl (ct_iald _)) (ct_tl (ct_call _ _ _ _ _ _ _)))))) (ct_tn (ct_tn (ct_tn (ct_tl (ct_aload _ _)) (ct_tl (ct_aload _ _))) (ct_tn (ct_tl (ct_iload _ _)) (ct_tn (ct_tl (ct_push _ _)) (ct_tl (ct_iadd _))))) (ct_tn (ct_tn (ct_tl (ct_iald _)) (ct_tn (ct_tl (ct_aload _ _)) (ct_tl (ct_iload _ _)))) (ct_tn (ct_tl (ct_push _ _)) (ct_tn (ct_tl (ct_iadd _)) (ct_tl (ct_iald _))))))) (ct_tn (ct_tn (ct_tn (ct_tn (ct_tl (ct_aload _ _)) (ct_tl (ct_iload _ _))) (ct_tn (ct_tl (ct_push _ _)) (ct_tn (ct_tl (ct_iadd _)) (ct_tl (ct_iald _))))) (ct_tn (ct_tn (ct_tl (ct_call _ _ _ _ _ _ _)) (ct_tl (ct_lcmp _))) (ct_tn (ct_tl (ct_ifeq _ _)) (ct_tn (ct_tl (ct_push _ _)) (ct_tl (ct_zret)))))) (ct_tn (ct_tn (ct_tn (ct_tl (ct_aload _ _)) (ct_tl (ct_call _ _ _ _ _ _ _))) (ct_tn (ct_tl (ct_aload _ _)) (ct_tn (ct_tl (ct_call _ _ _ _ _ _ _)) (ct_tl (ct_lcmp _))))) (ct_tn (ct_tn (ct_tl (ct_ifeq _ _)) (ct_tn (ct_tl (ct_push _ _)) (ct_tl (ct_zret)))) (ct_tn (ct_tl (ct_aload _ _)) (ct_tn (ct_tl (ct_aload _ _)) (ct_tl (ct_iload _ _)))))))) (ct_tn (ct_tn (ct_tn (ct_tn (ct_tn (ct_tl (ct_push _ _)) (ct_tl (ct_iadd _))) (ct_tn (ct_tl (ct_iald _)) (ct_tn (ct_tl (ct_aload _ _)) (ct_tl (ct_iload _ _))))) (ct_tn (ct_tn (ct_tl (ct_push _ _)) (ct_tl (ct_iadd _))) (ct_tn (ct_tl (ct_iald _)) (ct_tn (ct_tl (ct_aload _ _)) (ct_tl (ct_iload _ _)))))) (ct_tn (ct_tn (ct_tn (ct_tl (ct_push _ _)) (ct_tl (ct_iadd _))) (ct_tn (ct_tl (ct_iald _)) (ct_tn (ct_tl (ct_call _ _ _ _ _ _ _)) (ct_tl (ct_aload _ _))))) (ct_tn (ct_tn (ct_tl (ct_aload _ _)) (ct_tn (ct_tl (ct_iload _ _)) (ct_tl (ct_push _ _)))) (ct_tn (ct_tl (ct_iadd _)) (ct_tn (ct_tl (ct_iald _)) (ct_tl (ct_aload _ _))))))) (ct_tn (ct_tn (ct_tn (ct_tn (ct_tl (ct_iload _ _)) (ct_tl (ct_push _ _))) (ct_tn (ct_tl (ct_iadd _)) (ct_tn (ct_tl (ct_iald _)) (ct_tl (ct_aload _ _))))) (ct_tn (ct_tn (ct_tl (ct_iload _ _)) (ct_tn (ct_tl (ct_push _ _)) (ct_tl (ct_iadd _)))) (ct_tn (ct_tl (ct_iald _)) (ct_tn (ct_tl (ct_call _ _ _ _ _ _ _)) (ct_tl (ct_ceq _ _)))))) (ct_tn (ct_tn (ct_tn (ct_tl (ct_push _ _)) (ct_tl (ct_zret))) (ct_tn (ct_tl (ct_aload _ _)) (ct_tn (ct_tl (ct_aload _ _)) (ct_tl (ct_iload _ _))))) (ct_tn (ct_tn (ct_tl (ct_push _ _)) (ct_tn (ct_tl (ct_iadd _)) (ct_tl (ct_iald _)))) (ct_tn (ct_tl (ct_aload _ _)) (ct_tn (ct_tl (ct_iload _ _)) (ct_tl (ct_push _ _))))))))) (ct_tn (ct_tn (ct_tn (ct_tn (ct_tn (ct_tn (ct_tl (ct_iadd _)) (ct_tl (ct_iald _))) (ct_tn (ct_tl (ct_aload _ _)) (ct_tn (ct_tl (ct_iload _ _)) (ct_tl (ct_push _ _))))) (ct_tn (ct_tn (ct_tl (ct_iadd _)) (ct_tl (ct_iald _))) (ct_tn (ct_tl (ct_call _ _ _ _ _ _ _)) (ct_tn (ct_tl (ct_aload _ _)) (ct_tl (ct_aload _ _)))))) (ct_tn (ct_tn (ct_tn (ct_tl (ct_iload _ _)) (ct_tl (ct_push _ _))) (ct_tn (ct_tl (ct_iadd _)) (ct_tn (ct_tl (ct_iald _)) (ct_tl (ct_aload _ _))))) (ct_tn (ct_tn (ct_tl (ct_iload _ _)) (ct_tn (ct_tl (ct_push _ _)) (ct_tl (ct_iadd _)))) (ct_tn (ct_tl (ct_iald _)) (ct_tn (ct_tl (ct_aload _ _)) (ct_tl (ct_iload _ _))))))) (ct_tn (ct_tn (ct_tn (ct_tn (ct_tl (ct_push _ _)) (ct_tl (ct_iadd _))) (ct_tn (ct_tl (ct_iald _)) (ct_tn (ct_tl (ct_call _ _ _ _ _ _ _)) (ct_tl (ct_ceq _ _))))) (ct_tn (ct_tn (ct_tl (ct_push _ _)) (ct_tn (ct_tl (ct_zret)) (ct_tl (ct_aload _ _)))) (ct_tn (ct_tl (ct_aload _ _)) (ct_tn (ct_tl (ct_iload _ _)) (ct_tl (ct_push _ _)))))) (ct_tn (ct_tn (ct_tn (ct_tl (ct_iadd _)) (ct_tl (ct_iald _))) (ct_tn (ct_tl (ct_aload _ _)) (ct_tn (ct_tl (ct_iload _ _)) (ct_tl (ct_push _ _))))) (ct_tn (ct_tn (ct_tl (ct_iadd _)) (ct_tn (ct_tl (ct_iald _)) (ct_tl (ct_aload _ _)))) (ct_tn (ct_tl (ct_iload _ _)) (ct_tn (ct_tl (ct_push _ _)) (ct_tl (ct_iadd _)))))))) (ct_tn (ct_tn (ct_tn (ct_tn (ct_tn (ct_tl (ct_iald _)) (ct_tl (ct_call _ _ _ _ _ _ _))) (ct_tn (ct_tl (ct_aload _ _)) (ct_tn (ct_tl (ct_aload _ _)) (ct_tl (ct_iload _ _))))) (ct_tn (ct_tn (ct_tl (ct_push _ _)) (ct_tl (ct_iadd _))) (ct_tn (ct_tl (ct_iald _)) (ct_tn (ct_tl (ct_aload _ _)) (ct_tl (ct_iload _ _)))))) (ct_tn (ct_tn (ct_tn (ct_tl (ct_push _ _)) (ct_tl (ct_iadd _))) (ct_tn (ct_tl (ct_iald _)) (ct_tn (ct_tl (ct_aload _ _)) (ct_tl (ct_iload _ _))))) (ct_tn (ct_tn (ct_tl (ct_push _ _)) (ct_tn (ct_tl (ct_iadd _)) (ct_tl (ct_iald _)))) (ct_tn (ct_tl (ct_call _ _ _ _ _ _ _)) (ct_tn (ct_tl (ct_ceq _ _)) (ct_tl (ct_push _ _))))))) (ct_tn (ct_tn (ct_tn (ct_tn (ct_tl (ct_zret)) (ct_tl (ct_aload _ _))) (ct_tn (ct_tl (ct_aload _ _)) (ct_tn (ct_tl (ct_iload _ _)) (ct_tl (ct_push _ _))))) (ct_tn (ct_tn (ct_tl (ct_iadd _)) (ct_tn (ct_tl (ct_iald _)) (ct_tl (ct_call _ _ _ _ _ _ _)))) (ct_tn (ct_tl (ct_aload _ _)) (ct_tn (ct_tl (ct_aload _ _)) (ct_tl (ct_iload _ _)))))) (ct_tn (ct_tn (ct_tn (ct_tl (ct_push _ _)) (ct_tl (ct_iadd _))) (ct_tn (ct_tl (ct_iald _)) (ct_tn (ct_tl (ct_call _ _ _ _ _ _ _)) (ct_tl (ct_ceq _ _))))) (ct_tn (ct_tn (ct_tl (ct_push _ _)) (ct_tn (ct_tl (ct_zret)) (ct_tl (ct_iinc _ _ _)))) (ct_tn (ct_tl (ct_K (ct_goto _))) (ct_tn (ct_tl (ct_push _ _)) (ct_tl (ct_zret))))))))))))
def pm_T : Nat → Nat → pm_S := fun y => (bif Nat.ble 72 y then (bif Nat.ble 108 y then (bif Nat.ble 126 y then (bif Nat.ble 135 y then (bif Nat.ble 140 y then (bif Nat.ble 142 y then (bif Nat.ble 143 y then (bif Nat.ble 144 y then t_L_law else t_M_many) else t_M_fill) else (bif Nat.ble 141 y then t_M_flat else t_M_mean)) else (bif Nat.ble 137 y then (bif Nat.ble 138 y then (bif Nat.ble 139 y then t_M_sumBy else t_M_canSum) else t_M_sum) else (bif Nat.ble 136 y then t_M_summed else t_M_isFlat))) else (bif Nat.ble 130 y then (bif Nat.ble 132 y then (bif Nat.ble 133 y then (bif Nat.ble 134 y then t_M_power else t_M_tree) else t_M_still) else (bif Nat.ble 131 y then t_M_layTree else t_M_twist)) else (bif Nat.ble 128 y then (bif Nat.ble 129 y then t_M_turned else t_M_weight) else (bif Nat.ble 127 y then t_M_weightOf else t_M_at)))) else (bif Nat.ble 117 y then (bif Nat.ble 121 y then (bif Nat.ble 123 y then (bif Nat.ble 124 y then (bif Nat.ble 125 y then t_M_set else t_M_undo) else t_M_record) else (bif Nat.ble 122 y then t_M_drop else t_M_told)) else (bif Nat.ble 119 y then (bif Nat.ble 120 y then t_M_layBacks else t_M_turnOf) else (bif Nat.ble 118 y then t_M_takeLines else t_M_isClosed))) else (bif Nat.ble 112 y then (bif Nat.ble 114 y then (bif Nat.ble 115 y then (bif Nat.ble 116 y then t_M_counts else t_M_step) else t_M_endOf) else (bif Nat.ble 113 y then t_M_walk else t_M_line)) else (bif Nat.ble 110 y then (bif Nat.ble 111 y then t_M_point else t_M_isPoint) else (bif Nat.ble 109 y then t_M_isWalk else t_M_isLine))))) else (bif Nat.ble 90 y then (bif Nat.ble 99 y then (bif Nat.ble 103 y then (bif Nat.ble 105 y then (bif Nat.ble 106 y then (bif Nat.ble 107 y then t_M_worth else t_M_about) else t_M_turn) else (bif Nat.ble 104 y then t_M_alikeWith else t_M_classOf)) else (bif Nat.ble 101 y then (bif Nat.ble 102 y then t_M_times else t_M_read) else (bif Nat.ble 100 y then t_M_lay else t_M_sheet))) else (bif Nat.ble 94 y then (bif Nat.ble 96 y then (bif Nat.ble 97 y then (bif Nat.ble 98 y then t_M_group else t_M_crossed) else t_M_begin) else (bif Nat.ble 95 y then t_M_backOf else t_M_product)) else (bif Nat.ble 92 y then (bif Nat.ble 93 y then t_M_isTurn else t_M_in) else (bif Nat.ble 91 y then t_T_fillLines else t_T_linesFault)))) else (bif Nat.ble 81 y then (bif Nat.ble 85 y then (bif Nat.ble 87 y then (bif Nat.ble 88 y then (bif Nat.ble 89 y then t_T_commonDivisor else t_T_sumLooked) else t_T_lookForWeights) else (bif Nat.ble 86 y then t_T_sumHeld else t_T_sumOfWeights)) else (bif Nat.ble 83 y then (bif Nat.ble 84 y then t_T_isSpent else t_T_draftFrom) else (bif Nat.ble 82 y then t_T_takeDraft else t_T_walksThatWeigh))) else (bif Nat.ble 76 y then (bif Nat.ble 78 y then (bif Nat.ble 79 y then (bif Nat.ble 80 y then t_T_isLane else t_T_isSheet) else t_T_isClosedWalk) else (bif Nat.ble 77 y then t_T_isWalk else t_T_isLine)) else (bif Nat.ble 74 y then (bif Nat.ble 75 y then t_T_isPoint else t_T_isTurn) else (bif Nat.ble 73 y then t_T_many else t_T_fill)))))) else (bif Nat.ble 36 y then (bif Nat.ble 54 y then (bif Nat.ble 63 y then (bif Nat.ble 67 y then (bif Nat.ble 69 y then (bif Nat.ble 70 y then (bif Nat.ble 71 y then t_T_lay else t_T_sheet) else t_T_flat) else (bif Nat.ble 68 y then t_T_mean else t_T_sumBy)) else (bif Nat.ble 65 y then (bif Nat.ble 66 y then t_T_sum else t_T_tree) else (bif Nat.ble 64 y then t_T_undo else t_T_still))) else (bif Nat.ble 58 y then (bif Nat.ble 60 y then (bif Nat.ble 61 y then (bif Nat.ble 62 y then t_T_twist else t_T_weight) else t_T_at) else (bif Nat.ble 59 y then t_T_set else t_T_drop)) else (bif Nat.ble 56 y then (bif Nat.ble 57 y then t_T_told else t_T_counts) else (bif Nat.ble 55 y then t_T_step else t_T_walk)))) else (bif Nat.ble 45 y then (bif Nat.ble 49 y then (bif Nat.ble 51 y then (bif Nat.ble 52 y then (bif Nat.ble 53 y then t_T_line else t_T_point) else t_T_worth) else (bif Nat.ble 50 y then t_T_about else t_T_turn)) else (bif Nat.ble 47 y then (bif Nat.ble 48 y then t_T_times else t_T_read) else (bif Nat.ble 46 y then t_T_group else t_W_markLines))) else (bif Nat.ble 40 y then (bif Nat.ble 42 y then (bif Nat.ble 43 y then (bif Nat.ble 44 y then t_W_turnWith else t_W_weighs) else t_W_isClosed) else (bif Nat.ble 41 y then t_W_go else t_W_begin)) else (bif Nat.ble 38 y then (bif Nat.ble 39 y then t_U_factorBehind else t_U_sumFrom) else (bif Nat.ble 37 y then t_U_markLines else t_U_lookForStill))))) else (bif Nat.ble 18 y then (bif Nat.ble 27 y then (bif Nat.ble 31 y then (bif Nat.ble 33 y then (bif Nat.ble 34 y then (bif Nat.ble 35 y then t_U_lookForClass else t_U_lookForWorth) else t_U_clear) else (bif Nat.ble 32 y then t_S_put else t_S_faultAs)) else (bif Nat.ble 29 y then (bif Nat.ble 30 y then t_S_hasCell else t_S_renew) else (bif Nat.ble 28 y then t_G_giveWorth else t_G_alikePairs))) else (bif Nat.ble 22 y then (bif Nat.ble 24 y then (bif Nat.ble 25 y then (bif Nat.ble 26 y then t_G_alikeWithAll else t_G_alikeWith) else t_G_classesMany) else (bif Nat.ble 23 y then t_G_classSize else t_G_orderOf)) else (bif Nat.ble 20 y then (bif Nat.ble 21 y then t_G_findClass else t_G_findBack) else (bif Nat.ble 19 y then t_G_product else t_G_adopt)))) else (bif Nat.ble 9 y then (bif Nat.ble 13 y then (bif Nat.ble 15 y then (bif Nat.ble 16 y then (bif Nat.ble 17 y then t_G_draftJoinFault else t_G_draftHasBack) else t_G_drafted) else (bif Nat.ble 14 y then t_G_draftFault else t_G_draftCrossed)) else (bif Nat.ble 11 y then (bif Nat.ble 12 y then t_G_draftFlips else t_G_draftRing) else (bif Nat.ble 10 y then t_B_turnPoints else t_B_reachAlong))) else (bif Nat.ble 4 y then (bif Nat.ble 6 y then (bif Nat.ble 7 y then (bif Nat.ble 8 y then t_B_shiftToStill else t_B_shiftOnly) else t_B_clearTurns) else (bif Nat.ble 5 y then t_B_joinParts else t_B_addLine)) else (bif Nat.ble 2 y then (bif Nat.ble 3 y then t_B_addPoint else t_A_forget) else (bif Nat.ble 1 y then t_A_giveBack else t_A_keep)))))))
theorem pm_bif {c : Bool} {a b : Nat → pm_S} (ha : ∀ pc, pm_Ct (a pc)) (hb : ∀ pc, pm_Ct (b pc)) : ∀ pc, pm_Ct ((bif c then b else a) pc) := by cases c <;> assumption
theorem pm_T_ct : ∀ y pc, pm_Ct (pm_T y pc) := fun y => (pm_bif (pm_bif (pm_bif (pm_bif (pm_bif (pm_bif (pm_bif tc_A_keep tc_A_giveBack) (pm_bif tc_A_forget tc_B_addPoint)) (pm_bif (pm_bif tc_B_addLine tc_B_joinParts) (pm_bif tc_B_clearTurns (pm_bif tc_B_shiftOnly tc_B_shiftToStill)))) (pm_bif (pm_bif (pm_bif tc_B_reachAlong tc_B_turnPoints) (pm_bif tc_G_draftRing tc_G_draftFlips)) (pm_bif (pm_bif tc_G_draftCrossed tc_G_draftFault) (pm_bif tc_G_drafted (pm_bif tc_G_draftHasBack tc_G_draftJoinFault))))) (pm_bif (pm_bif (pm_bif (pm_bif tc_G_adopt tc_G_product) (pm_bif tc_G_findBack tc_G_findClass)) (pm_bif (pm_bif tc_G_orderOf tc_G_classSize) (pm_bif tc_G_classesMany (pm_bif tc_G_alikeWith tc_G_alikeWithAll)))) (pm_bif (pm_bif (pm_bif tc_G_alikePairs tc_G_giveWorth) (pm_bif tc_S_renew tc_S_hasCell)) (pm_bif (pm_bif tc_S_faultAs tc_S_put) (pm_bif tc_U_clear (pm_bif tc_U_lookForWorth tc_U_lookForClass)))))) (pm_bif (pm_bif (pm_bif (pm_bif (pm_bif tc_U_lookForStill tc_U_markLines) (pm_bif tc_U_sumFrom tc_U_factorBehind)) (pm_bif (pm_bif tc_W_begin tc_W_go) (pm_bif tc_W_isClosed (pm_bif tc_W_weighs tc_W_turnWith)))) (pm_bif (pm_bif (pm_bif tc_W_markLines tc_T_group) (pm_bif tc_T_read tc_T_times)) (pm_bif (pm_bif tc_T_turn tc_T_about) (pm_bif tc_T_worth (pm_bif tc_T_point tc_T_line))))) (pm_bif (pm_bif (pm_bif (pm_bif tc_T_walk tc_T_step) (pm_bif tc_T_counts tc_T_told)) (pm_bif (pm_bif tc_T_drop tc_T_set) (pm_bif tc_T_at (pm_bif tc_T_weight tc_T_twist)))) (pm_bif (pm_bif (pm_bif tc_T_still tc_T_undo) (pm_bif tc_T_tree tc_T_sum)) (pm_bif (pm_bif tc_T_sumBy tc_T_mean) (pm_bif tc_T_flat (pm_bif tc_T_sheet tc_T_lay))))))) (pm_bif (pm_bif (pm_bif (pm_bif (pm_bif (pm_bif tc_T_fill tc_T_many) (pm_bif tc_T_isTurn tc_T_isPoint)) (pm_bif (pm_bif tc_T_isLine tc_T_isWalk) (pm_bif tc_T_isClosedWalk (pm_bif tc_T_isSheet tc_T_isLane)))) (pm_bif (pm_bif (pm_bif tc_T_walksThatWeigh tc_T_takeDraft) (pm_bif tc_T_draftFrom tc_T_isSpent)) (pm_bif (pm_bif tc_T_sumOfWeights tc_T_sumHeld) (pm_bif tc_T_lookForWeights (pm_bif tc_T_sumLooked tc_T_commonDivisor))))) (pm_bif (pm_bif (pm_bif (pm_bif tc_T_linesFault tc_T_fillLines) (pm_bif tc_M_in tc_M_isTurn)) (pm_bif (pm_bif tc_M_product tc_M_backOf) (pm_bif tc_M_begin (pm_bif tc_M_crossed tc_M_group)))) (pm_bif (pm_bif (pm_bif tc_M_sheet tc_M_lay) (pm_bif tc_M_read tc_M_times)) (pm_bif (pm_bif tc_M_classOf tc_M_alikeWith) (pm_bif tc_M_turn (pm_bif tc_M_about tc_M_worth)))))) (pm_bif (pm_bif (pm_bif (pm_bif (pm_bif tc_M_isLine tc_M_isWalk) (pm_bif tc_M_isPoint tc_M_point)) (pm_bif (pm_bif tc_M_line tc_M_walk) (pm_bif tc_M_endOf (pm_bif tc_M_step tc_M_counts)))) (pm_bif (pm_bif (pm_bif tc_M_isClosed tc_M_takeLines) (pm_bif tc_M_turnOf tc_M_layBacks)) (pm_bif (pm_bif tc_M_told tc_M_drop) (pm_bif tc_M_record (pm_bif tc_M_undo tc_M_set))))) (pm_bif (pm_bif (pm_bif (pm_bif tc_M_at tc_M_weightOf) (pm_bif tc_M_weight tc_M_turned)) (pm_bif (pm_bif tc_M_twist tc_M_layTree) (pm_bif tc_M_still (pm_bif tc_M_tree tc_M_power)))) (pm_bif (pm_bif (pm_bif tc_M_isFlat tc_M_summed) (pm_bif tc_M_sum (pm_bif tc_M_canSum tc_M_sumBy))) (pm_bif (pm_bif tc_M_mean tc_M_flat) (pm_bif tc_M_fill (pm_bif tc_M_many tc_L_law))))))))
end
section
noncomputable def f_A_keep (X : pm_XT)  (I : pm_I) : pm_O := pm_X pm_T (pm_env X) 0 1 0 [some (.inr (.inr 43)), some (.inr (.inr 13))] [] I
noncomputable def f_A_giveBack (X : pm_XT)  (I : pm_I) : pm_O := pm_X pm_T (pm_env X) 1 1 0 [some (.inr (.inr 43)), some (.inr (.inr 13))] [] I
noncomputable def f_A_forget (X : pm_XT)  (I : pm_I) : pm_O := pm_X pm_T (pm_env X) 2 0 0 [some (.inr (.inr 43))] [] I
noncomputable def f_B_addPoint (X : pm_XT)  (I : pm_I) : pm_O := pm_X pm_T (pm_env X) 3 0 0 [some (.inr (.inr 10))] [] I
noncomputable def f_B_addLine (X : pm_XT) (v1 : Int) (v2 : Int) (I : pm_I) : pm_O := pm_X pm_T (pm_env X) 4 2 0 [some (.inr (.inr 10)), some (.inl v1), some (.inl v2)] [] I
noncomputable def f_B_joinParts (X : pm_XT) (v1 : Int) (v2 : Int) (I : pm_I) : pm_O := pm_X pm_T (pm_env X) 5 1 0 [some (.inr (.inr 10)), some (.inl v1), some (.inl v2), none, none] [] I
noncomputable def f_B_joinParts_9 (X : pm_XT) (v1 : Int) (v2 : Int) (v3 : Int) (v4 : Int) (I : pm_I) : pm_O := pm_X pm_T (pm_env X) 5 1 9 [some (.inr (.inr 10)), some (.inl v1), some (.inl v2), some (.inl v3), some (.inl v4)] [] I
noncomputable def f_B_clearTurns (X : pm_XT)  (I : pm_I) : pm_O := pm_X pm_T (pm_env X) 6 0 0 [some (.inr (.inr 10)), none] [] I
noncomputable def f_B_clearTurns_2 (X : pm_XT) (v1 : Int) (I : pm_I) : pm_O := pm_X pm_T (pm_env X) 6 0 2 [some (.inr (.inr 10)), some (.inl v1)] [] I
noncomputable def f_B_shiftOnly (X : pm_XT) (v1 : Int) (v2 : Int) (I : pm_I) : pm_O := pm_X pm_T (pm_env X) 7 0 0 [some (.inr (.inr 10)), some (.inl v1), some (.inl v2), none] [] I
noncomputable def f_B_shiftOnly_2 (X : pm_XT) (v1 : Int) (v2 : Int) (v3 : Int) (I : pm_I) : pm_O := pm_X pm_T (pm_env X) 7 0 2 [some (.inr (.inr 10)), some (.inl v1), some (.inl v2), some (.inl v3)] [] I
noncomputable def f_B_shiftToStill (X : pm_XT)  (I : pm_I) : pm_O := pm_X pm_T (pm_env X) 8 2 0 [some (.inr (.inr 10)), some (.inr (.inr 4)), none, none] [] I
noncomputable def f_B_shiftToStill_2 (X : pm_XT) (v2 : Int) (I : pm_I) : pm_O := pm_X pm_T (pm_env X) 8 2 2 [some (.inr (.inr 10)), some (.inr (.inr 4)), some (.inl v2), none] [] I
noncomputable def f_B_shiftToStill_46 (X : pm_XT) (v2 : Int) (I : pm_I) : pm_O := pm_X pm_T (pm_env X) 8 2 46 [some (.inr (.inr 10)), some (.inr (.inr 4)), some (.inl v2), none] [] I
noncomputable def f_B_shiftToStill_56 (X : pm_XT) (v2 : Int) (v3 : Int) (I : pm_I) : pm_O := pm_X pm_T (pm_env X) 8 2 56 [some (.inr (.inr 10)), some (.inr (.inr 4)), some (.inl v2), some (.inl v3)] [] I
noncomputable def f_B_reachAlong (X : pm_XT) (v1 : Int) (I : pm_I) : pm_O := pm_X pm_T (pm_env X) 9 1 0 [some (.inr (.inr 10)), some (.inl v1), some (.inr (.inr 4)), none, none, none] [] I
noncomputable def f_B_turnPoints (X : pm_XT)  (I : pm_I) : pm_O := pm_X pm_T (pm_env X) 10 1 0 [some (.inr (.inr 10)), some (.inr (.inr 4)), none, none, none, none] [] I
noncomputable def f_B_turnPoints_4 (X : pm_XT) (v2 : Int) (v3 : Int) (I : pm_I) : pm_O := pm_X pm_T (pm_env X) 10 1 4 [some (.inr (.inr 10)), some (.inr (.inr 4)), some (.inl v2), some (.inl v3), none, none] [] I
noncomputable def f_G_draftRing (X : pm_XT) (v1 : Int) (I : pm_I) : pm_O := pm_X pm_T (pm_env X) 11 0 0 [some (.inr (.inr 4)), some (.inl v1), none, none] [] I
noncomputable def f_G_draftRing_2 (X : pm_XT) (v1 : Int) (v2 : Int) (I : pm_I) : pm_O := pm_X pm_T (pm_env X) 11 0 2 [some (.inr (.inr 4)), some (.inl v1), some (.inl v2), none] [] I
noncomputable def f_G_draftRing_9 (X : pm_XT) (v1 : Int) (v2 : Int) (v3 : Int) (I : pm_I) : pm_O := pm_X pm_T (pm_env X) 11 0 9 [some (.inr (.inr 4)), some (.inl v1), some (.inl v2), some (.inl v3)] [] I
noncomputable def f_G_draftFlips (X : pm_XT) (v1 : Int) (I : pm_I) : pm_O := pm_X pm_T (pm_env X) 12 0 0 [some (.inr (.inr 4)), some (.inl v1), none, none, none, none] [] I
noncomputable def f_G_draftFlips_2 (X : pm_XT) (v1 : Int) (v2 : Int) (I : pm_I) : pm_O := pm_X pm_T (pm_env X) 12 0 2 [some (.inr (.inr 4)), some (.inl v1), some (.inl v2), none, none, none] [] I
noncomputable def f_G_draftFlips_9 (X : pm_XT) (v1 : Int) (v2 : Int) (v3 : Int) (I : pm_I) : pm_O := pm_X pm_T (pm_env X) 12 0 9 [some (.inr (.inr 4)), some (.inl v1), some (.inl v2), some (.inl v3), none, none] [] I
noncomputable def f_G_draftCrossed (X : pm_XT)  (I : pm_I) : pm_O := pm_X pm_T (pm_env X) 13 0 0 [some (.inr (.inr 4)), none, none, none] [] I
noncomputable def f_G_draftCrossed_2 (X : pm_XT) (v1 : Int) (I : pm_I) : pm_O := pm_X pm_T (pm_env X) 13 0 2 [some (.inr (.inr 4)), some (.inl v1), none, none] [] I
noncomputable def f_G_draftCrossed_10 (X : pm_XT) (v1 : Int) (v2 : Int) (I : pm_I) : pm_O := pm_X pm_T (pm_env X) 13 0 10 [some (.inr (.inr 4)), some (.inl v1), some (.inl v2), none] [] I
noncomputable def f_G_draftFault (X : pm_XT) (v1 : Int) (I : pm_I) : pm_O := pm_X pm_T (pm_env X) 14 2 0 [some (.inr (.inr 4)), some (.inl v1), none] [] I
noncomputable def f_G_draftFault_2 (X : pm_XT) (v1 : Int) (v2 : Int) (I : pm_I) : pm_O := pm_X pm_T (pm_env X) 14 2 2 [some (.inr (.inr 4)), some (.inl v1), some (.inl v2)] [] I
noncomputable def f_G_draftFault_41 (X : pm_XT) (v1 : Int) (v2 : Int) (I : pm_I) : pm_O := pm_X pm_T (pm_env X) 14 2 41 [some (.inr (.inr 4)), some (.inl v1), some (.inl v2)] [] I
noncomputable def f_G_drafted (X : pm_XT) (v1 : Int) (v2 : Int) (I : pm_I) : pm_O := pm_X pm_T (pm_env X) 15 0 0 [some (.inr (.inr 4)), some (.inl v1), some (.inl v2)] [] I
noncomputable def f_G_draftHasBack (X : pm_XT) (v1 : Int) (v2 : Int) (I : pm_I) : pm_O := pm_X pm_T (pm_env X) 16 1 0 [some (.inr (.inr 4)), some (.inl v1), some (.inl v2), none] [] I
noncomputable def f_G_draftHasBack_2 (X : pm_XT) (v1 : Int) (v2 : Int) (v3 : Int) (I : pm_I) : pm_O := pm_X pm_T (pm_env X) 16 1 2 [some (.inr (.inr 4)), some (.inl v1), some (.inl v2), some (.inl v3)] [] I
noncomputable def f_G_draftJoinFault (X : pm_XT) (v1 : Int) (I : pm_I) : pm_O := pm_X pm_T (pm_env X) 17 1 0 [some (.inr (.inr 4)), some (.inl v1), none, none, none] [] I
noncomputable def f_G_draftJoinFault_2 (X : pm_XT) (v1 : Int) (v2 : Int) (I : pm_I) : pm_O := pm_X pm_T (pm_env X) 17 1 2 [some (.inr (.inr 4)), some (.inl v1), some (.inl v2), none, none] [] I
noncomputable def f_G_draftJoinFault_9 (X : pm_XT) (v1 : Int) (v2 : Int) (v3 : Int) (I : pm_I) : pm_O := pm_X pm_T (pm_env X) 17 1 9 [some (.inr (.inr 4)), some (.inl v1), some (.inl v2), some (.inl v3), none] [] I
noncomputable def f_G_draftJoinFault_17 (X : pm_XT) (v1 : Int) (v2 : Int) (v3 : Int) (v4 : Int) (I : pm_I) : pm_O := pm_X pm_T (pm_env X) 17 1 17 [some (.inr (.inr 4)), some (.inl v1), some (.inl v2), some (.inl v3), some (.inl v4)] [] I
noncomputable def f_G_adopt (X : pm_XT) (v1 : Int) (I : pm_I) : pm_O := pm_X pm_T (pm_env X) 18 2 0 [some (.inr (.inr 4)), some (.inl v1), none] [] I
noncomputable def f_G_adopt_25 (X : pm_XT) (v1 : Int) (v2 : Int) (I : pm_I) : pm_O := pm_X pm_T (pm_env X) 18 2 25 [some (.inr (.inr 4)), some (.inl v1), some (.inl v2)] [] I
noncomputable def f_G_adopt_56 (X : pm_XT) (v1 : Int) (v2 : Int) (I : pm_I) : pm_O := pm_X pm_T (pm_env X) 18 2 56 [some (.inr (.inr 4)), some (.inl v1), some (.inl v2)] [] I
noncomputable def f_G_product (X : pm_XT) (v1 : Int) (v2 : Int) (I : pm_I) : pm_O := pm_X pm_T (pm_env X) 19 0 0 [some (.inr (.inr 4)), some (.inl v1), some (.inl v2)] [] I
noncomputable def f_G_findBack (X : pm_XT) (v1 : Int) (I : pm_I) : pm_O := pm_X pm_T (pm_env X) 20 1 0 [some (.inr (.inr 4)), some (.inl v1), none] [] I
noncomputable def f_G_findBack_2 (X : pm_XT) (v1 : Int) (v2 : Int) (I : pm_I) : pm_O := pm_X pm_T (pm_env X) 20 1 2 [some (.inr (.inr 4)), some (.inl v1), some (.inl v2)] [] I
noncomputable def f_G_findClass (X : pm_XT) (v1 : Int) (I : pm_I) : pm_O := pm_X pm_T (pm_env X) 21 1 0 [some (.inr (.inr 4)), some (.inl v1), none, none] [] I
noncomputable def f_G_findClass_4 (X : pm_XT) (v1 : Int) (v2 : Int) (v3 : Int) (I : pm_I) : pm_O := pm_X pm_T (pm_env X) 21 1 4 [some (.inr (.inr 4)), some (.inl v1), some (.inl v2), some (.inl v3)] [] I
noncomputable def f_G_orderOf (X : pm_XT) (v1 : Int) (I : pm_I) : pm_O := pm_X pm_T (pm_env X) 22 1 0 [some (.inr (.inr 4)), some (.inl v1), none, none] [] I
noncomputable def f_G_orderOf_4 (X : pm_XT) (v1 : Int) (v2 : Int) (v3 : Int) (I : pm_I) : pm_O := pm_X pm_T (pm_env X) 22 1 4 [some (.inr (.inr 4)), some (.inl v1), some (.inl v2), some (.inl v3)] [] I
noncomputable def f_G_classSize (X : pm_XT) (v1 : Int) (I : pm_I) : pm_O := pm_X pm_T (pm_env X) 23 0 0 [some (.inr (.inr 4)), some (.inl v1), none, none] [] I
noncomputable def f_G_classSize_4 (X : pm_XT) (v1 : Int) (v2 : Int) (v3 : Int) (I : pm_I) : pm_O := pm_X pm_T (pm_env X) 23 0 4 [some (.inr (.inr 4)), some (.inl v1), some (.inl v2), some (.inl v3)] [] I
noncomputable def f_G_classesMany (X : pm_XT)  (I : pm_I) : pm_O := pm_X pm_T (pm_env X) 24 0 0 [some (.inr (.inr 4)), none, none] [] I
noncomputable def f_G_classesMany_4 (X : pm_XT) (v1 : Int) (v2 : Int) (I : pm_I) : pm_O := pm_X pm_T (pm_env X) 24 0 4 [some (.inr (.inr 4)), some (.inl v1), some (.inl v2)] [] I
noncomputable def f_G_alikeWith (X : pm_XT) (v1 : Int) (I : pm_I) : pm_O := pm_X pm_T (pm_env X) 25 1 0 [some (.inr (.inr 4)), some (.inl v1), none, none] [] I
noncomputable def f_G_alikeWith_4 (X : pm_XT) (v1 : Int) (v2 : Int) (v3 : Int) (I : pm_I) : pm_O := pm_X pm_T (pm_env X) 25 1 4 [some (.inr (.inr 4)), some (.inl v1), some (.inl v2), some (.inl v3)] [] I
noncomputable def f_G_alikeWithAll (X : pm_XT)  (I : pm_I) : pm_O := pm_X pm_T (pm_env X) 26 2 0 [some (.inr (.inr 4)), none, none] [] I
noncomputable def f_G_alikeWithAll_4 (X : pm_XT) (v1 : Int) (v2 : Int) (I : pm_I) : pm_O := pm_X pm_T (pm_env X) 26 2 4 [some (.inr (.inr 4)), some (.inl v1), some (.inl v2)] [] I
noncomputable def f_G_alikePairs (X : pm_XT)  (I : pm_I) : pm_O := pm_X pm_T (pm_env X) 27 2 0 [some (.inr (.inr 4)), none, none] [] I
noncomputable def f_G_alikePairs_4 (X : pm_XT) (v1 : Int) (v2 : Int) (I : pm_I) : pm_O := pm_X pm_T (pm_env X) 27 2 4 [some (.inr (.inr 4)), some (.inl v1), some (.inl v2)] [] I
noncomputable def f_G_giveWorth (X : pm_XT) (v1 : Int) (v2 : Int) (I : pm_I) : pm_O := pm_X pm_T (pm_env X) 28 0 0 [some (.inr (.inr 4)), some (.inl v1), some (.inl v2), none] [] I
noncomputable def f_G_giveWorth_2 (X : pm_XT) (v1 : Int) (v2 : Int) (v3 : Int) (I : pm_I) : pm_O := pm_X pm_T (pm_env X) 28 0 2 [some (.inr (.inr 4)), some (.inl v1), some (.inl v2), some (.inl v3)] [] I
noncomputable def f_S_renew (X : pm_XT) (r0 : Nat) (v1 : Int) (v2 : Int) (I : pm_I) : pm_O := pm_X pm_T (pm_env X) 29 0 0 [some (.inr (.inr r0)), some (.inl v1), some (.inl v2), none] [] I
noncomputable def f_S_renew_17 (X : pm_XT) (r0 : Nat) (v3 : Int) (I : pm_I) : pm_O := pm_X pm_T (pm_env X) 29 0 17 [some (.inr (.inr r0)), none, none, some (.inl v3)] [] I
noncomputable def f_S_hasCell (X : pm_XT) (r0 : Nat) (v1 : Int) (I : pm_I) : pm_O := pm_X pm_T (pm_env X) 30 0 0 [some (.inr (.inr r0)), some (.inl v1)] [] I
noncomputable def f_S_faultAs (X : pm_XT) (r0 : Nat) (v1 : Int) (I : pm_I) : pm_O := pm_X pm_T (pm_env X) 31 0 0 [some (.inr (.inr r0)), some (.inl v1)] [] I
noncomputable def f_S_put (X : pm_XT) (r0 : Nat) (v1 : Int) (v2 : Int) (I : pm_I) : pm_O := pm_X pm_T (pm_env X) 32 0 0 [some (.inr (.inr r0)), some (.inl v1), some (.inl v2)] [] I
noncomputable def f_U_clear (X : pm_XT)  (I : pm_I) : pm_O := pm_X pm_T (pm_env X) 33 0 0 [some (.inr (.inr 62)), none, none] [] I
noncomputable def f_U_clear_2 (X : pm_XT) (v1 : Int) (I : pm_I) : pm_O := pm_X pm_T (pm_env X) 33 0 2 [some (.inr (.inr 62)), some (.inl v1), none] [] I
noncomputable def f_U_clear_17 (X : pm_XT) (v1 : Int) (v2 : Int) (I : pm_I) : pm_O := pm_X pm_T (pm_env X) 33 0 17 [some (.inr (.inr 62)), some (.inl v1), some (.inl v2)] [] I
noncomputable def f_U_lookForWorth (X : pm_XT) (v1 : Int) (I : pm_I) : pm_O := pm_X pm_T (pm_env X) 34 0 0 [some (.inr (.inr 62)), some (.inl v1), some (.inr (.inr 4)), none] [] I
noncomputable def f_U_lookForWorth_9 (X : pm_XT) (v1 : Int) (v3 : Int) (I : pm_I) : pm_O := pm_X pm_T (pm_env X) 34 0 9 [some (.inr (.inr 62)), some (.inl v1), some (.inr (.inr 4)), some (.inl v3)] [] I
noncomputable def f_U_lookForClass (X : pm_XT) (v1 : Int) (v2 : Int) (I : pm_I) : pm_O := pm_X pm_T (pm_env X) 35 0 0 [some (.inr (.inr 62)), some (.inl v1), some (.inl v2), some (.inr (.inr 4)), none] [] I
noncomputable def f_U_lookForClass_10 (X : pm_XT) (v1 : Int) (v2 : Int) (v4 : Int) (I : pm_I) : pm_O := pm_X pm_T (pm_env X) 35 0 10 [some (.inr (.inr 62)), some (.inl v1), some (.inl v2), some (.inr (.inr 4)), some (.inl v4)] [] I
noncomputable def f_U_lookForStill (X : pm_XT) (v1 : Int) (I : pm_I) : pm_O := pm_X pm_T (pm_env X) 36 0 0 [some (.inr (.inr 62)), some (.inl v1), none] [] I
noncomputable def f_U_lookForStill_9 (X : pm_XT) (v1 : Int) (v2 : Int) (I : pm_I) : pm_O := pm_X pm_T (pm_env X) 36 0 9 [some (.inr (.inr 62)), some (.inl v1), some (.inl v2)] [] I
noncomputable def f_U_markLines (X : pm_XT)  (I : pm_I) : pm_O := pm_X pm_T (pm_env X) 37 2 0 [some (.inr (.inr 62)), some (.inr (.inr 18)), some (.inr (.inr 10)), none] [] I
noncomputable def f_U_markLines_2 (X : pm_XT) (v3 : Int) (I : pm_I) : pm_O := pm_X pm_T (pm_env X) 37 2 2 [some (.inr (.inr 62)), some (.inr (.inr 18)), some (.inr (.inr 10)), some (.inl v3)] [] I
noncomputable def f_U_markLines_23 (X : pm_XT) (v3 : Int) (I : pm_I) : pm_O := pm_X pm_T (pm_env X) 37 2 23 [some (.inr (.inr 62)), some (.inr (.inr 18)), some (.inr (.inr 10)), some (.inl v3)] [] I
noncomputable def f_U_markLines_62 (X : pm_XT) (v3 : Int) (I : pm_I) : pm_O := pm_X pm_T (pm_env X) 37 2 62 [some (.inr (.inr 62)), none, some (.inr (.inr 10)), some (.inl v3)] [] I
noncomputable def f_U_sumFrom (X : pm_XT) (d : Nat) (v0 : Int) (w1 : Int) (v5 : Int) (I : pm_I) : pm_O := pm_X pm_T (pm_env X) 38 d 0 [some (.inl v0), some (.inr (.inl w1)), none, some (.inr (.inr 62)), some (.inr (.inr 18)), some (.inl v5), some (.inr (.inr 4)), none, none, none, none, none, none] [] I
noncomputable def f_U_sumFrom_40 (X : pm_XT) (d : Nat) (v0 : Int) (w1 : Int) (v5 : Int) (v7 : Int) (w8 : Int) (v10 : Int) (I : pm_I) : pm_O := pm_X pm_T (pm_env X) 38 d 40 [some (.inl v0), some (.inr (.inl w1)), none, some (.inr (.inr 62)), some (.inr (.inr 18)), some (.inl v5), some (.inr (.inr 4)), some (.inl v7), some (.inr (.inl w8)), none, some (.inl v10), none, none] [] I
noncomputable def f_U_factorBehind (X : pm_XT) (v1 : Int) (I : pm_I) : pm_O := pm_X pm_T (pm_env X) 39 2 0 [some (.inr (.inr 62)), some (.inl v1), some (.inr (.inr 18)), some (.inr (.inr 4)), none, none, none] [] I
noncomputable def f_U_factorBehind_6 (X : pm_XT) (v1 : Int) (w4 : Int) (v6 : Int) (I : pm_I) : pm_O := pm_X pm_T (pm_env X) 39 2 6 [some (.inr (.inr 62)), some (.inl v1), some (.inr (.inr 18)), some (.inr (.inr 4)), some (.inr (.inl w4)), none, some (.inl v6)] [] I
noncomputable def f_W_begin (X : pm_XT) (r0 : Nat) (v1 : Int) (I : pm_I) : pm_O := pm_X pm_T (pm_env X) 40 0 0 [some (.inr (.inr r0)), some (.inl v1)] [] I
noncomputable def f_W_go (X : pm_XT) (r0 : Nat) (v1 : Int) (v2 : Int) (v3 : Int) (I : pm_I) : pm_O := pm_X pm_T (pm_env X) 41 0 0 [some (.inr (.inr r0)), some (.inl v1), some (.inl v2), some (.inl v3)] [] I
noncomputable def f_W_isClosed (X : pm_XT) (r0 : Nat) (I : pm_I) : pm_O := pm_X pm_T (pm_env X) 42 0 0 [some (.inr (.inr r0))] [] I
noncomputable def f_W_weighs (X : pm_XT) (r0 : Nat) (I : pm_I) : pm_O := pm_X pm_T (pm_env X) 43 1 0 [some (.inr (.inr r0))] [] I
noncomputable def f_W_turnWith (X : pm_XT) (r0 : Nat) (r1 : Nat) (I : pm_I) : pm_O := pm_X pm_T (pm_env X) 44 1 0 [some (.inr (.inr r0)), some (.inr (.inr r1)), some (.inr (.inr 4)), none, none, none] [] I
noncomputable def f_W_turnWith_5 (X : pm_XT) (r0 : Nat) (r1 : Nat) (v3 : Int) (v4 : Int) (I : pm_I) : pm_O := pm_X pm_T (pm_env X) 44 1 5 [some (.inr (.inr r0)), some (.inr (.inr r1)), some (.inr (.inr 4)), some (.inl v3), some (.inl v4), none] [] I
noncomputable def f_W_markLines (X : pm_XT) (r0 : Nat) (I : pm_I) : pm_O := pm_X pm_T (pm_env X) 45 1 0 [some (.inr (.inr r0)), some (.inr (.inr 74)), none, none] [] I
noncomputable def f_W_markLines_4 (X : pm_XT) (r0 : Nat) (v2 : Int) (v3 : Int) (I : pm_I) : pm_O := pm_X pm_T (pm_env X) 45 1 4 [some (.inr (.inr r0)), some (.inr (.inr 74)), some (.inl v2), some (.inl v3)] [] I
noncomputable def f_T_group (X : pm_XT) (v1 : Int) (v2 : Int) (I : pm_I) : pm_O := pm_X pm_T (pm_env X) 46 4 0 [some (.inr (.inr 3)), some (.inl v1), some (.inl v2)] [] I
noncomputable def f_T_read (X : pm_XT) (v1 : Int) (v2 : Int) (v3 : Int) (v4 : Int) (I : pm_I) : pm_O := pm_X pm_T (pm_env X) 47 4 0 [some (.inr (.inr 3)), some (.inl v1), some (.inl v2), some (.inl v3), some (.inl v4), none] [] I
noncomputable def f_T_times (X : pm_XT) (v1 : Int) (v2 : Int) (I : pm_I) : pm_O := pm_X pm_T (pm_env X) 48 1 0 [some (.inr (.inr 3)), some (.inl v1), some (.inl v2)] [] I
noncomputable def f_T_turn (X : pm_XT) (v1 : Int) (v2 : Int) (I : pm_I) : pm_O := pm_X pm_T (pm_env X) 49 2 0 [some (.inr (.inr 3)), some (.inl v1), some (.inl v2)] [] I
noncomputable def f_T_about (X : pm_XT) (v1 : Int) (I : pm_I) : pm_O := pm_X pm_T (pm_env X) 50 3 0 [some (.inr (.inr 3)), some (.inl v1)] [] I
noncomputable def f_T_worth (X : pm_XT) (v1 : Int) (v2 : Int) (I : pm_I) : pm_O := pm_X pm_T (pm_env X) 51 1 0 [some (.inr (.inr 3)), some (.inl v1), some (.inl v2), none] [] I
noncomputable def f_T_point (X : pm_XT)  (I : pm_I) : pm_O := pm_X pm_T (pm_env X) 52 1 0 [some (.inr (.inr 3))] [] I
noncomputable def f_T_line (X : pm_XT) (v1 : Int) (v2 : Int) (I : pm_I) : pm_O := pm_X pm_T (pm_env X) 53 3 0 [some (.inr (.inr 3)), some (.inl v1), some (.inl v2)] [] I
noncomputable def f_T_walk (X : pm_XT) (v1 : Int) (I : pm_I) : pm_O := pm_X pm_T (pm_env X) 54 1 0 [some (.inr (.inr 3)), some (.inl v1)] [] I
noncomputable def f_T_step (X : pm_XT) (v1 : Int) (v2 : Int) (v3 : Int) (I : pm_I) : pm_O := pm_X pm_T (pm_env X) 55 1 0 [some (.inr (.inr 3)), some (.inl v1), some (.inl v2), some (.inl v3), none, none, none] [] I
noncomputable def f_T_counts (X : pm_XT) (v1 : Int) (v2 : Int) (I : pm_I) : pm_O := pm_X pm_T (pm_env X) 56 1 0 [some (.inr (.inr 3)), some (.inl v1), some (.inl v2), none] [] I
noncomputable def f_T_told (X : pm_XT) (v1 : Int) (v2 : Int) (I : pm_I) : pm_O := pm_X pm_T (pm_env X) 57 2 0 [some (.inr (.inr 3)), some (.inl v1), some (.inl v2), none] [] I
noncomputable def f_T_drop (X : pm_XT)  (I : pm_I) : pm_O := pm_X pm_T (pm_env X) 58 0 0 [some (.inr (.inr 3))] [] I
noncomputable def f_T_set (X : pm_XT) (v1 : Int) (v2 : Int) (I : pm_I) : pm_O := pm_X pm_T (pm_env X) 59 2 0 [some (.inr (.inr 3)), some (.inl v1), some (.inl v2), none] [] I
noncomputable def f_T_at (X : pm_XT) (v1 : Int) (I : pm_I) : pm_O := pm_X pm_T (pm_env X) 60 1 0 [some (.inr (.inr 3)), some (.inl v1)] [] I
noncomputable def f_T_weight (X : pm_XT)  (I : pm_I) : pm_O := pm_X pm_T (pm_env X) 61 2 0 [some (.inr (.inr 3)), none, none, none] [] I
noncomputable def f_T_weight_4 (X : pm_XT) (w1 : Int) (v3 : Int) (I : pm_I) : pm_O := pm_X pm_T (pm_env X) 61 2 4 [some (.inr (.inr 3)), some (.inr (.inl w1)), none, some (.inl v3)] [] I
noncomputable def f_T_twist (X : pm_XT) (v1 : Int) (v2 : Int) (I : pm_I) : pm_O := pm_X pm_T (pm_env X) 62 2 0 [some (.inr (.inr 3)), some (.inl v1), some (.inl v2)] [] I
noncomputable def f_T_still (X : pm_XT)  (I : pm_I) : pm_O := pm_X pm_T (pm_env X) 63 3 0 [some (.inr (.inr 3))] [] I
noncomputable def f_T_undo (X : pm_XT)  (I : pm_I) : pm_O := pm_X pm_T (pm_env X) 64 2 0 [some (.inr (.inr 3))] [] I
noncomputable def f_T_tree (X : pm_XT) (v1 : Int) (I : pm_I) : pm_O := pm_X pm_T (pm_env X) 65 1 0 [some (.inr (.inr 3)), some (.inl v1)] [] I
noncomputable def f_T_sum (X : pm_XT)  (I : pm_I) : pm_O := pm_X pm_T (pm_env X) 66 16 0 [some (.inr (.inr 3))] [] I
noncomputable def f_T_sumBy (X : pm_XT) (v1 : Int) (v2 : Int) (I : pm_I) : pm_O := pm_X pm_T (pm_env X) 67 16 0 [some (.inr (.inr 3)), some (.inl v1), some (.inl v2)] [] I
noncomputable def f_T_mean (X : pm_XT) (v1 : Int) (v2 : Int) (v3 : Int) (I : pm_I) : pm_O := pm_X pm_T (pm_env X) 68 16 0 [some (.inr (.inr 3)), some (.inl v1), some (.inl v2), some (.inl v3), none, none, none, none, none, none] [] I
noncomputable def f_T_flat (X : pm_XT)  (I : pm_I) : pm_O := pm_X pm_T (pm_env X) 69 15 0 [some (.inr (.inr 3)), none] [] I
noncomputable def f_T_flat_20 (X : pm_XT) (v1 : Int) (I : pm_I) : pm_O := pm_X pm_T (pm_env X) 69 15 20 [some (.inr (.inr 3)), some (.inl v1)] [] I
noncomputable def f_T_sheet (X : pm_XT) (v1 : Int) (v2 : Int) (v3 : Int) (I : pm_I) : pm_O := pm_X pm_T (pm_env X) 70 1 0 [some (.inr (.inr 3)), some (.inl v1), some (.inl v2), some (.inl v3)] [] I
noncomputable def f_T_lay (X : pm_XT) (v1 : Int) (v2 : Int) (v3 : Int) (I : pm_I) : pm_O := pm_X pm_T (pm_env X) 71 1 0 [some (.inr (.inr 3)), some (.inl v1), some (.inl v2), some (.inl v3), none] [] I
noncomputable def f_T_fill (X : pm_XT) (v1 : Int) (v2 : Int) (v3 : Int) (I : pm_I) : pm_O := pm_X pm_T (pm_env X) 72 3 0 [some (.inr (.inr 3)), some (.inl v1), some (.inl v2), some (.inl v3), none, none] [] I
noncomputable def f_T_many (X : pm_XT) (v1 : Int) (I : pm_I) : pm_O := pm_X pm_T (pm_env X) 73 3 0 [some (.inr (.inr 3)), some (.inl v1)] [] I
noncomputable def f_T_isTurn (X : pm_XT) (v1 : Int) (I : pm_I) : pm_O := pm_X pm_T (pm_env X) 74 0 0 [some (.inr (.inr 3)), some (.inl v1)] [] I
noncomputable def f_T_isPoint (X : pm_XT) (v1 : Int) (I : pm_I) : pm_O := pm_X pm_T (pm_env X) 75 0 0 [some (.inr (.inr 3)), some (.inl v1)] [] I
noncomputable def f_T_isLine (X : pm_XT) (v1 : Int) (I : pm_I) : pm_O := pm_X pm_T (pm_env X) 76 0 0 [some (.inr (.inr 3)), some (.inl v1)] [] I
noncomputable def f_T_isWalk (X : pm_XT) (v1 : Int) (I : pm_I) : pm_O := pm_X pm_T (pm_env X) 77 0 0 [some (.inr (.inr 3)), some (.inl v1)] [] I
noncomputable def f_T_isClosedWalk (X : pm_XT) (v1 : Int) (I : pm_I) : pm_O := pm_X pm_T (pm_env X) 78 1 0 [some (.inr (.inr 3)), some (.inl v1)] [] I
noncomputable def f_T_isSheet (X : pm_XT) (v0 : Int) (I : pm_I) : pm_O := pm_X pm_T (pm_env X) 79 0 0 [some (.inl v0)] [] I
noncomputable def f_T_isLane (X : pm_XT) (v0 : Int) (I : pm_I) : pm_O := pm_X pm_T (pm_env X) 80 0 0 [some (.inl v0)] [] I
noncomputable def f_T_walksThatWeigh (X : pm_XT)  (I : pm_I) : pm_O := pm_X pm_T (pm_env X) 81 2 0 [some (.inr (.inr 3)), none, none] [] I
noncomputable def f_T_walksThatWeigh_4 (X : pm_XT) (v1 : Int) (v2 : Int) (I : pm_I) : pm_O := pm_X pm_T (pm_env X) 81 2 4 [some (.inr (.inr 3)), some (.inl v1), some (.inl v2)] [] I
noncomputable def f_T_takeDraft (X : pm_XT) (v1 : Int) (I : pm_I) : pm_O := pm_X pm_T (pm_env X) 82 3 0 [some (.inr (.inr 3)), some (.inl v1)] [] I
noncomputable def f_T_draftFrom (X : pm_XT) (r1 : Nat) (v2 : Int) (v3 : Int) (I : pm_I) : pm_O := pm_X pm_T (pm_env X) 83 1 0 [some (.inr (.inr 3)), some (.inr (.inr r1)), some (.inl v2), some (.inl v3), none, none, none, none] [] I
noncomputable def f_T_draftFrom_3 (X : pm_XT) (r1 : Nat) (v2 : Int) (v3 : Int) (v4 : Int) (I : pm_I) : pm_O := pm_X pm_T (pm_env X) 83 1 3 [some (.inr (.inr 3)), some (.inr (.inr r1)), some (.inl v2), some (.inl v3), some (.inl v4), none, none, none] [] I
noncomputable def f_T_draftFrom_12 (X : pm_XT) (r1 : Nat) (v2 : Int) (v3 : Int) (v4 : Int) (v5 : Int) (I : pm_I) : pm_O := pm_X pm_T (pm_env X) 83 1 12 [some (.inr (.inr 3)), some (.inr (.inr r1)), some (.inl v2), some (.inl v3), some (.inl v4), some (.inl v5), none, none] [] I
noncomputable def f_T_isSpent (X : pm_XT)  (I : pm_I) : pm_O := pm_X pm_T (pm_env X) 84 0 0 [some (.inr (.inr 3)), none, none, none] [] I
noncomputable def f_T_isSpent_10 (X : pm_XT) (w1 : Int) (v3 : Int) (I : pm_I) : pm_O := pm_X pm_T (pm_env X) 84 0 10 [some (.inr (.inr 3)), some (.inr (.inl w1)), none, some (.inl v3)] [] I
noncomputable def f_T_sumOfWeights (X : pm_XT)  (I : pm_I) : pm_O := pm_X pm_T (pm_env X) 85 15 0 [some (.inr (.inr 3))] [] I
noncomputable def f_T_sumHeld (X : pm_XT) (v1 : Int) (v2 : Int) (I : pm_I) : pm_O := pm_X pm_T (pm_env X) 86 15 0 [some (.inr (.inr 3)), some (.inl v1), some (.inl v2)] [] I
noncomputable def f_T_lookForWeights (X : pm_XT)  (I : pm_I) : pm_O := pm_X pm_T (pm_env X) 87 2 0 [some (.inr (.inr 3)), none] [] I
noncomputable def f_T_lookForWeights_2 (X : pm_XT) (v1 : Int) (I : pm_I) : pm_O := pm_X pm_T (pm_env X) 87 2 2 [some (.inr (.inr 3)), some (.inl v1)] [] I
noncomputable def f_T_sumLooked (X : pm_XT)  (I : pm_I) : pm_O := pm_X pm_T (pm_env X) 88 14 0 [some (.inr (.inr 3))] [] I
noncomputable def f_T_commonDivisor (X : pm_XT) (w0 : Int) (w2 : Int) (I : pm_I) : pm_O := pm_X pm_T (pm_env X) 89 0 0 [some (.inr (.inl w0)), none, some (.inr (.inl w2)), none, none, none, none, none, none, none, none] [] I
noncomputable def f_T_commonDivisor_9 (X : pm_XT) (w4 : Int) (w6 : Int) (v8 : Int) (I : pm_I) : pm_O := pm_X pm_T (pm_env X) 89 0 9 [none, none, none, none, some (.inr (.inl w4)), none, some (.inr (.inl w6)), none, some (.inl v8), none, none] [] I
noncomputable def f_T_linesFault (X : pm_XT) (r1 : Nat) (v2 : Int) (I : pm_I) : pm_O := pm_X pm_T (pm_env X) 90 1 0 [some (.inr (.inr 3)), some (.inr (.inr r1)), some (.inl v2), none] [] I
noncomputable def f_T_linesFault_2 (X : pm_XT) (r1 : Nat) (v2 : Int) (v3 : Int) (I : pm_I) : pm_O := pm_X pm_T (pm_env X) 90 1 2 [some (.inr (.inr 3)), some (.inr (.inr r1)), some (.inl v2), some (.inl v3)] [] I
noncomputable def f_T_fillLines (X : pm_XT) (r1 : Nat) (v2 : Int) (I : pm_I) : pm_O := pm_X pm_T (pm_env X) 91 2 0 [some (.inr (.inr 3)), some (.inr (.inr r1)), some (.inl v2), none, none, none] [] I
noncomputable def f_T_fillLines_5 (X : pm_XT) (r1 : Nat) (v2 : Int) (v3 : Int) (v4 : Int) (I : pm_I) : pm_O := pm_X pm_T (pm_env X) 91 2 5 [some (.inr (.inr 3)), some (.inr (.inr r1)), some (.inl v2), some (.inl v3), some (.inl v4), none] [] I
noncomputable def f_M_in (X : pm_XT) (w0 : Int) (w2 : Int) (w4 : Int) (I : pm_I) : pm_O := pm_X pm_T (pm_env X) 92 0 0 [some (.inr (.inl w0)), none, some (.inr (.inl w2)), none, some (.inr (.inl w4)), none] [] I
noncomputable def f_M_isTurn (X : pm_XT) (v1 : Int) (I : pm_I) : pm_O := pm_X pm_T (pm_env X) 93 1 0 [some (.inr (.inr 77)), some (.inl v1)] [] I
noncomputable def f_M_product (X : pm_XT) (v1 : Int) (v2 : Int) (I : pm_I) : pm_O := pm_X pm_T (pm_env X) 94 0 0 [some (.inr (.inr 77)), some (.inl v1), some (.inl v2)] [] I
noncomputable def f_M_backOf (X : pm_XT) (v1 : Int) (I : pm_I) : pm_O := pm_X pm_T (pm_env X) 95 1 0 [some (.inr (.inr 77)), some (.inl v1), none] [] I
noncomputable def f_M_backOf_2 (X : pm_XT) (v1 : Int) (v2 : Int) (I : pm_I) : pm_O := pm_X pm_T (pm_env X) 95 1 2 [some (.inr (.inr 77)), some (.inl v1), some (.inl v2)] [] I
noncomputable def f_M_begin (X : pm_XT) (v1 : Int) (I : pm_I) : pm_O := pm_X pm_T (pm_env X) 96 0 0 [some (.inr (.inr 77)), some (.inl v1), none] [] I
noncomputable def f_M_begin_12 (X : pm_XT) (v2 : Int) (I : pm_I) : pm_O := pm_X pm_T (pm_env X) 96 0 12 [some (.inr (.inr 77)), none, some (.inl v2)] [] I
noncomputable def f_M_begin_33 (X : pm_XT) (v2 : Int) (I : pm_I) : pm_O := pm_X pm_T (pm_env X) 96 0 33 [some (.inr (.inr 77)), none, some (.inl v2)] [] I
noncomputable def f_M_crossed (X : pm_XT) (v0 : Int) (v1 : Int) (I : pm_I) : pm_O := pm_X pm_T (pm_env X) 97 0 0 [some (.inl v0), some (.inl v1), none, none, none, none] [] I
noncomputable def f_M_group (X : pm_XT) (v1 : Int) (v2 : Int) (I : pm_I) : pm_O := pm_X pm_T (pm_env X) 98 1 0 [some (.inr (.inr 77)), some (.inl v1), some (.inl v2), none, none, none, none, none, none] [] I
noncomputable def f_M_group_79 (X : pm_XT) (v1 : Int) (v2 : Int) (v4 : Int) (v5 : Int) (I : pm_I) : pm_O := pm_X pm_T (pm_env X) 98 1 79 [some (.inr (.inr 77)), some (.inl v1), some (.inl v2), none, some (.inl v4), some (.inl v5), none, none, none] [] I
noncomputable def f_M_group_89 (X : pm_XT) (v1 : Int) (v2 : Int) (v4 : Int) (v5 : Int) (v6 : Int) (I : pm_I) : pm_O := pm_X pm_T (pm_env X) 98 1 89 [some (.inr (.inr 77)), some (.inl v1), some (.inl v2), none, some (.inl v4), some (.inl v5), some (.inl v6), none, none] [] I
noncomputable def f_M_sheet (X : pm_XT) (v1 : Int) (v2 : Int) (v3 : Int) (I : pm_I) : pm_O := pm_X pm_T (pm_env X) 99 1 0 [some (.inr (.inr 77)), some (.inl v1), some (.inl v2), some (.inl v3), none] [] I
noncomputable def f_M_sheet_56 (X : pm_XT) (v1 : Int) (v4 : Int) (I : pm_I) : pm_O := pm_X pm_T (pm_env X) 99 1 56 [some (.inr (.inr 77)), some (.inl v1), none, none, some (.inl v4)] [] I
noncomputable def f_M_lay (X : pm_XT) (v1 : Int) (v2 : Int) (v3 : Int) (I : pm_I) : pm_O := pm_X pm_T (pm_env X) 100 1 0 [some (.inr (.inr 77)), some (.inl v1), some (.inl v2), some (.inl v3)] [] I
noncomputable def f_M_read (X : pm_XT) (v1 : Int) (v2 : Int) (v3 : Int) (v4 : Int) (I : pm_I) : pm_O := pm_X pm_T (pm_env X) 101 1 0 [some (.inr (.inr 77)), some (.inl v1), some (.inl v2), some (.inl v3), some (.inl v4), none, none, none] [] I
noncomputable def f_M_read_71 (X : pm_XT) (v1 : Int) (v3 : Int) (v4 : Int) (v5 : Int) (I : pm_I) : pm_O := pm_X pm_T (pm_env X) 101 1 71 [some (.inr (.inr 77)), some (.inl v1), none, some (.inl v3), some (.inl v4), some (.inl v5), none, none] [] I
noncomputable def f_M_read_173 (X : pm_XT) (v4 : Int) (v5 : Int) (I : pm_I) : pm_O := pm_X pm_T (pm_env X) 101 1 173 [some (.inr (.inr 77)), none, none, none, some (.inl v4), some (.inl v5), none, none] [] I
noncomputable def f_M_read_223 (X : pm_XT) (v4 : Int) (v5 : Int) (I : pm_I) : pm_O := pm_X pm_T (pm_env X) 101 1 223 [some (.inr (.inr 77)), none, none, none, some (.inl v4), some (.inl v5), none, none] [] I
noncomputable def f_M_read_236 (X : pm_XT) (v4 : Int) (v5 : Int) (v6 : Int) (v7 : Int) (I : pm_I) : pm_O := pm_X pm_T (pm_env X) 101 1 236 [some (.inr (.inr 77)), none, none, none, some (.inl v4), some (.inl v5), some (.inl v6), some (.inl v7)] [] I
noncomputable def f_M_read_314 (X : pm_XT) (v4 : Int) (v5 : Int) (I : pm_I) : pm_O := pm_X pm_T (pm_env X) 101 1 314 [some (.inr (.inr 77)), none, none, none, some (.inl v4), some (.inl v5), none, none] [] I
noncomputable def f_M_read_324 (X : pm_XT) (v4 : Int) (v5 : Int) (v6 : Int) (I : pm_I) : pm_O := pm_X pm_T (pm_env X) 101 1 324 [some (.inr (.inr 77)), none, none, none, some (.inl v4), some (.inl v5), some (.inl v6), none] [] I
noncomputable def f_M_read_334 (X : pm_XT) (v4 : Int) (v5 : Int) (v6 : Int) (v7 : Int) (I : pm_I) : pm_O := pm_X pm_T (pm_env X) 101 1 334 [some (.inr (.inr 77)), none, none, none, some (.inl v4), some (.inl v5), some (.inl v6), some (.inl v7)] [] I
noncomputable def f_M_read_432 (X : pm_XT) (v4 : Int) (v5 : Int) (I : pm_I) : pm_O := pm_X pm_T (pm_env X) 101 1 432 [some (.inr (.inr 77)), none, none, none, some (.inl v4), some (.inl v5), none, none] [] I
noncomputable def f_M_times (X : pm_XT) (v1 : Int) (v2 : Int) (I : pm_I) : pm_O := pm_X pm_T (pm_env X) 102 2 0 [some (.inr (.inr 77)), some (.inl v1), some (.inl v2)] [] I
noncomputable def f_M_classOf (X : pm_XT) (v1 : Int) (I : pm_I) : pm_O := pm_X pm_T (pm_env X) 103 2 0 [some (.inr (.inr 77)), some (.inl v1), none, none, none] [] I
noncomputable def f_M_classOf_4 (X : pm_XT) (v1 : Int) (v2 : Int) (v3 : Int) (I : pm_I) : pm_O := pm_X pm_T (pm_env X) 103 2 4 [some (.inr (.inr 77)), some (.inl v1), some (.inl v2), some (.inl v3), none] [] I
noncomputable def f_M_alikeWith (X : pm_XT) (v1 : Int) (I : pm_I) : pm_O := pm_X pm_T (pm_env X) 104 1 0 [some (.inr (.inr 77)), some (.inl v1), none, none] [] I
noncomputable def f_M_alikeWith_4 (X : pm_XT) (v1 : Int) (v2 : Int) (v3 : Int) (I : pm_I) : pm_O := pm_X pm_T (pm_env X) 104 1 4 [some (.inr (.inr 77)), some (.inl v1), some (.inl v2), some (.inl v3)] [] I
noncomputable def f_M_turn (X : pm_XT) (v1 : Int) (v2 : Int) (I : pm_I) : pm_O := pm_X pm_T (pm_env X) 105 3 0 [some (.inr (.inr 77)), some (.inl v1), some (.inl v2), none, none] [] I
noncomputable def f_M_turn_71 (X : pm_XT) (v1 : Int) (v3 : Int) (v4 : Int) (I : pm_I) : pm_O := pm_X pm_T (pm_env X) 105 3 71 [some (.inr (.inr 77)), some (.inl v1), none, some (.inl v3), some (.inl v4)] [] I
noncomputable def f_M_turn_102 (X : pm_XT) (v1 : Int) (v3 : Int) (v4 : Int) (I : pm_I) : pm_O := pm_X pm_T (pm_env X) 105 3 102 [some (.inr (.inr 77)), some (.inl v1), none, some (.inl v3), some (.inl v4)] [] I
noncomputable def f_M_about (X : pm_XT) (v1 : Int) (I : pm_I) : pm_O := pm_X pm_T (pm_env X) 106 3 0 [some (.inr (.inr 77)), some (.inl v1), none, none, none, none] [] I
noncomputable def f_M_about_24 (X : pm_XT) (v1 : Int) (v2 : Int) (v3 : Int) (v4 : Int) (v5 : Int) (I : pm_I) : pm_O := pm_X pm_T (pm_env X) 106 3 24 [some (.inr (.inr 77)), some (.inl v1), some (.inl v2), some (.inl v3), some (.inl v4), some (.inl v5)] [] I
noncomputable def f_M_worth (X : pm_XT) (v1 : Int) (v2 : Int) (I : pm_I) : pm_O := pm_X pm_T (pm_env X) 107 3 0 [some (.inr (.inr 77)), some (.inl v1), some (.inl v2), none, none, none] [] I
noncomputable def f_M_worth_39 (X : pm_XT) (v2 : Int) (v3 : Int) (v4 : Int) (v5 : Int) (I : pm_I) : pm_O := pm_X pm_T (pm_env X) 107 3 39 [some (.inr (.inr 77)), none, some (.inl v2), some (.inl v3), some (.inl v4), some (.inl v5)] [] I
noncomputable def f_M_isLine (X : pm_XT) (v1 : Int) (I : pm_I) : pm_O := pm_X pm_T (pm_env X) 108 1 0 [some (.inr (.inr 77)), some (.inl v1)] [] I
noncomputable def f_M_isWalk (X : pm_XT) (v1 : Int) (I : pm_I) : pm_O := pm_X pm_T (pm_env X) 109 1 0 [some (.inr (.inr 77)), some (.inl v1)] [] I
noncomputable def f_M_isPoint (X : pm_XT) (v1 : Int) (I : pm_I) : pm_O := pm_X pm_T (pm_env X) 110 1 0 [some (.inr (.inr 77)), some (.inl v1)] [] I
noncomputable def f_M_point (X : pm_XT)  (I : pm_I) : pm_O := pm_X pm_T (pm_env X) 111 0 0 [some (.inr (.inr 77))] [] I
noncomputable def f_M_line (X : pm_XT) (v1 : Int) (v2 : Int) (I : pm_I) : pm_O := pm_X pm_T (pm_env X) 112 2 0 [some (.inr (.inr 77)), some (.inl v1), some (.inl v2)] [] I
noncomputable def f_M_walk (X : pm_XT) (v1 : Int) (I : pm_I) : pm_O := pm_X pm_T (pm_env X) 113 2 0 [some (.inr (.inr 77)), some (.inl v1)] [] I
noncomputable def f_M_endOf (X : pm_XT) (v1 : Int) (I : pm_I) : pm_O := pm_X pm_T (pm_env X) 114 0 0 [some (.inr (.inr 77)), some (.inl v1), none, none] [] I
noncomputable def f_M_step (X : pm_XT) (v1 : Int) (v2 : Int) (v3 : Int) (I : pm_I) : pm_O := pm_X pm_T (pm_env X) 115 2 0 [some (.inr (.inr 77)), some (.inl v1), some (.inl v2), some (.inl v3)] [] I
noncomputable def f_M_counts (X : pm_XT) (v1 : Int) (v2 : Int) (I : pm_I) : pm_O := pm_X pm_T (pm_env X) 116 2 0 [some (.inr (.inr 77)), some (.inl v1), some (.inl v2), none] [] I
noncomputable def f_M_isClosed (X : pm_XT) (v1 : Int) (I : pm_I) : pm_O := pm_X pm_T (pm_env X) 117 1 0 [some (.inr (.inr 77)), some (.inl v1)] [] I
noncomputable def f_M_takeLines (X : pm_XT)  (I : pm_I) : pm_O := pm_X pm_T (pm_env X) 118 0 0 [some (.inr (.inr 77)), none] [] I
noncomputable def f_M_takeLines_2 (X : pm_XT) (v1 : Int) (I : pm_I) : pm_O := pm_X pm_T (pm_env X) 118 0 2 [some (.inr (.inr 77)), some (.inl v1)] [] I
noncomputable def f_M_turnOf (X : pm_XT) (v1 : Int) (I : pm_I) : pm_O := pm_X pm_T (pm_env X) 119 1 0 [some (.inr (.inr 77)), some (.inl v1), none, none, none] [] I
noncomputable def f_M_turnOf_7 (X : pm_XT) (v1 : Int) (v2 : Int) (v3 : Int) (I : pm_I) : pm_O := pm_X pm_T (pm_env X) 119 1 7 [some (.inr (.inr 77)), some (.inl v1), some (.inl v2), some (.inl v3), none] [] I
noncomputable def f_M_layBacks (X : pm_XT)  (I : pm_I) : pm_O := pm_X pm_T (pm_env X) 120 2 0 [some (.inr (.inr 77)), none] [] I
noncomputable def f_M_layBacks_2 (X : pm_XT) (v1 : Int) (I : pm_I) : pm_O := pm_X pm_T (pm_env X) 120 2 2 [some (.inr (.inr 77)), some (.inl v1)] [] I
noncomputable def f_M_told (X : pm_XT) (v1 : Int) (v2 : Int) (I : pm_I) : pm_O := pm_X pm_T (pm_env X) 121 3 0 [some (.inr (.inr 77)), some (.inl v1), some (.inl v2)] [] I
noncomputable def f_M_drop (X : pm_XT)  (I : pm_I) : pm_O := pm_X pm_T (pm_env X) 122 0 0 [some (.inr (.inr 77))] [] I
noncomputable def f_M_record (X : pm_XT)  (I : pm_I) : pm_O := pm_X pm_T (pm_env X) 123 0 0 [some (.inr (.inr 77)), none] [] I
noncomputable def f_M_record_12 (X : pm_XT) (v1 : Int) (I : pm_I) : pm_O := pm_X pm_T (pm_env X) 123 0 12 [some (.inr (.inr 77)), some (.inl v1)] [] I
noncomputable def f_M_record_51 (X : pm_XT) (v1 : Int) (I : pm_I) : pm_O := pm_X pm_T (pm_env X) 123 0 51 [some (.inr (.inr 77)), some (.inl v1)] [] I
noncomputable def f_M_undo (X : pm_XT)  (I : pm_I) : pm_O := pm_X pm_T (pm_env X) 124 0 0 [some (.inr (.inr 77)), none] [] I
noncomputable def f_M_undo_22 (X : pm_XT) (v1 : Int) (I : pm_I) : pm_O := pm_X pm_T (pm_env X) 124 0 22 [some (.inr (.inr 77)), some (.inl v1)] [] I
noncomputable def f_M_set (X : pm_XT) (v1 : Int) (v2 : Int) (I : pm_I) : pm_O := pm_X pm_T (pm_env X) 125 2 0 [some (.inr (.inr 77)), some (.inl v1), some (.inl v2), none] [] I
noncomputable def f_M_at (X : pm_XT) (v1 : Int) (I : pm_I) : pm_O := pm_X pm_T (pm_env X) 126 2 0 [some (.inr (.inr 77)), some (.inl v1)] [] I
noncomputable def f_M_weightOf (X : pm_XT)  (I : pm_I) : pm_O := pm_X pm_T (pm_env X) 127 2 0 [some (.inr (.inr 77)), none, none, none] [] I
noncomputable def f_M_weightOf_4 (X : pm_XT) (w1 : Int) (v3 : Int) (I : pm_I) : pm_O := pm_X pm_T (pm_env X) 127 2 4 [some (.inr (.inr 77)), some (.inr (.inl w1)), none, some (.inl v3)] [] I
noncomputable def f_M_weight (X : pm_XT)  (I : pm_I) : pm_O := pm_X pm_T (pm_env X) 128 3 0 [some (.inr (.inr 77))] [] I
noncomputable def f_M_turned (X : pm_XT)  (I : pm_I) : pm_O := pm_X pm_T (pm_env X) 129 3 0 [some (.inr (.inr 77)), none, none, none] [] I
noncomputable def f_M_turned_8 (X : pm_XT) (v1 : Int) (v2 : Int) (I : pm_I) : pm_O := pm_X pm_T (pm_env X) 129 3 8 [some (.inr (.inr 77)), some (.inl v1), some (.inl v2), none] [] I
noncomputable def f_M_twist (X : pm_XT) (v1 : Int) (v2 : Int) (I : pm_I) : pm_O := pm_X pm_T (pm_env X) 130 4 0 [some (.inr (.inr 77)), some (.inl v1), some (.inl v2), none] [] I
noncomputable def f_M_twist_24 (X : pm_XT) (v1 : Int) (v2 : Int) (v3 : Int) (I : pm_I) : pm_O := pm_X pm_T (pm_env X) 130 4 24 [some (.inr (.inr 77)), some (.inl v1), some (.inl v2), some (.inl v3)] [] I
noncomputable def f_M_layTree (X : pm_XT)  (I : pm_I) : pm_O := pm_X pm_T (pm_env X) 131 0 0 [some (.inr (.inr 77)), none, none, none, none, none] [] I
noncomputable def f_M_layTree_4 (X : pm_XT) (v1 : Int) (v2 : Int) (I : pm_I) : pm_O := pm_X pm_T (pm_env X) 131 0 4 [some (.inr (.inr 77)), some (.inl v1), some (.inl v2), none, none, none] [] I
noncomputable def f_M_layTree_25 (X : pm_XT) (v1 : Int) (v2 : Int) (I : pm_I) : pm_O := pm_X pm_T (pm_env X) 131 0 25 [some (.inr (.inr 77)), some (.inl v1), some (.inl v2), none, none, none] [] I
noncomputable def f_M_layTree_92 (X : pm_XT) (v1 : Int) (v2 : Int) (v3 : Int) (v4 : Int) (v5 : Int) (I : pm_I) : pm_O := pm_X pm_T (pm_env X) 131 0 92 [some (.inr (.inr 77)), some (.inl v1), some (.inl v2), some (.inl v3), some (.inl v4), some (.inl v5)] [] I
noncomputable def f_M_still (X : pm_XT)  (I : pm_I) : pm_O := pm_X pm_T (pm_env X) 132 4 0 [some (.inr (.inr 77)), none, none, none, none, none, none] [] I
noncomputable def f_M_still_20 (X : pm_XT) (v1 : Int) (v3 : Int) (I : pm_I) : pm_O := pm_X pm_T (pm_env X) 132 4 20 [some (.inr (.inr 77)), some (.inl v1), some (.inr (.inr 98)), some (.inl v3), none, none, none] [] I
noncomputable def f_M_still_59 (X : pm_XT) (v1 : Int) (v3 : Int) (I : pm_I) : pm_O := pm_X pm_T (pm_env X) 132 4 59 [some (.inr (.inr 77)), some (.inl v1), some (.inr (.inr 98)), some (.inl v3), none, none, none] [] I
noncomputable def f_M_still_68 (X : pm_XT) (v1 : Int) (v3 : Int) (v4 : Int) (I : pm_I) : pm_O := pm_X pm_T (pm_env X) 132 4 68 [some (.inr (.inr 77)), some (.inl v1), some (.inr (.inr 98)), some (.inl v3), some (.inl v4), none, none] [] I
noncomputable def f_M_tree (X : pm_XT) (v1 : Int) (I : pm_I) : pm_O := pm_X pm_T (pm_env X) 133 2 0 [some (.inr (.inr 77)), some (.inl v1), none] [] I
noncomputable def f_M_power (X : pm_XT) (v1 : Int) (I : pm_I) : pm_O := pm_X pm_T (pm_env X) 134 0 0 [some (.inr (.inr 77)), some (.inl v1), none, none, none] [] I
noncomputable def f_M_power_5 (X : pm_XT) (v1 : Int) (w2 : Int) (v4 : Int) (I : pm_I) : pm_O := pm_X pm_T (pm_env X) 134 0 5 [some (.inr (.inr 77)), some (.inl v1), some (.inr (.inl w2)), none, some (.inl v4)] [] I
noncomputable def f_M_isFlat (X : pm_XT)  (I : pm_I) : pm_O := pm_X pm_T (pm_env X) 135 2 0 [some (.inr (.inr 77)), none, none] [] I
noncomputable def f_M_isFlat_4 (X : pm_XT) (v1 : Int) (v2 : Int) (I : pm_I) : pm_O := pm_X pm_T (pm_env X) 135 2 4 [some (.inr (.inr 77)), some (.inl v1), some (.inl v2)] [] I
noncomputable def f_M_summed (X : pm_XT) (v1 : Int) (v2 : Int) (v3 : Int) (I : pm_I) : pm_O := pm_X pm_T (pm_env X) 136 3 0 [some (.inr (.inr 77)), some (.inl v1), some (.inl v2), some (.inl v3), none, none, none, none, none, none, none, none, none] [] I
noncomputable def f_M_summed_45 (X : pm_XT) (v1 : Int) (v2 : Int) (v3 : Int) (v4 : Int) (w5 : Int) (v8 : Int) (I : pm_I) : pm_O := pm_X pm_T (pm_env X) 136 3 45 [some (.inr (.inr 77)), some (.inl v1), some (.inl v2), some (.inl v3), some (.inl v4), some (.inr (.inl w5)), none, some (.inr (.inr 99)), some (.inl v8), none, none, none, none] [] I
noncomputable def f_M_summed_77 (X : pm_XT) (v1 : Int) (v2 : Int) (v3 : Int) (v4 : Int) (w5 : Int) (w8 : Int) (v10 : Int) (I : pm_I) : pm_O := pm_X pm_T (pm_env X) 136 3 77 [some (.inr (.inr 77)), some (.inl v1), some (.inl v2), some (.inl v3), some (.inl v4), some (.inr (.inl w5)), none, some (.inr (.inr 99)), some (.inr (.inl w8)), none, some (.inl v10), none, none] [] I
noncomputable def f_M_summed_93 (X : pm_XT) (v1 : Int) (v2 : Int) (v3 : Int) (v4 : Int) (w5 : Int) (w8 : Int) (v10 : Int) (v11 : Int) (v12 : Int) (I : pm_I) : pm_O := pm_X pm_T (pm_env X) 136 3 93 [some (.inr (.inr 77)), some (.inl v1), some (.inl v2), some (.inl v3), some (.inl v4), some (.inr (.inl w5)), none, some (.inr (.inr 99)), some (.inr (.inl w8)), none, some (.inl v10), some (.inl v11), some (.inl v12)] [] I
noncomputable def f_M_sum (X : pm_XT)  (I : pm_I) : pm_O := pm_X pm_T (pm_env X) 137 4 0 [some (.inr (.inr 77))] [] I
noncomputable def f_M_canSum (X : pm_XT) (v1 : Int) (v2 : Int) (I : pm_I) : pm_O := pm_X pm_T (pm_env X) 138 2 0 [some (.inr (.inr 77)), some (.inl v1), some (.inl v2)] [] I
noncomputable def f_M_sumBy (X : pm_XT) (v1 : Int) (v2 : Int) (I : pm_I) : pm_O := pm_X pm_T (pm_env X) 139 4 0 [some (.inr (.inr 77)), some (.inl v1), some (.inl v2)] [] I
noncomputable def f_M_mean (X : pm_XT) (v1 : Int) (v2 : Int) (v3 : Int) (I : pm_I) : pm_O := pm_X pm_T (pm_env X) 140 4 0 [some (.inr (.inr 77)), some (.inl v1), some (.inl v2), some (.inl v3), none, none, none, none, none, none, none, none, none, none] [] I
noncomputable def f_M_mean_77 (X : pm_XT) (v3 : Int) (w4 : Int) (w6 : Int) (w8 : Int) (w10 : Int) (I : pm_I) : pm_O := pm_X pm_T (pm_env X) 140 4 77 [none, none, none, some (.inl v3), some (.inr (.inl w4)), none, some (.inr (.inl w6)), none, some (.inr (.inl w8)), none, some (.inr (.inl w10)), none, none, none] [] I
noncomputable def f_M_flat (X : pm_XT)  (I : pm_I) : pm_O := pm_X pm_T (pm_env X) 141 4 0 [some (.inr (.inr 77))] [] I
noncomputable def f_M_fill (X : pm_XT) (v1 : Int) (v2 : Int) (v3 : Int) (I : pm_I) : pm_O := pm_X pm_T (pm_env X) 142 2 0 [some (.inr (.inr 77)), some (.inl v1), some (.inl v2), some (.inl v3), none, none, none] [] I
noncomputable def f_M_fill_58 (X : pm_XT) (v1 : Int) (v3 : Int) (v4 : Int) (I : pm_I) : pm_O := pm_X pm_T (pm_env X) 142 2 58 [some (.inr (.inr 77)), some (.inl v1), none, some (.inl v3), some (.inl v4), none, none] [] I
noncomputable def f_M_fill_131 (X : pm_XT) (v1 : Int) (v3 : Int) (v4 : Int) (v5 : Int) (I : pm_I) : pm_O := pm_X pm_T (pm_env X) 142 2 131 [some (.inr (.inr 77)), some (.inl v1), none, some (.inl v3), some (.inl v4), some (.inl v5), none] [] I
noncomputable def f_M_many (X : pm_XT) (v1 : Int) (I : pm_I) : pm_O := pm_X pm_T (pm_env X) 143 2 0 [some (.inr (.inr 77)), some (.inl v1), none, none, none] [] I
noncomputable def f_M_many_24 (X : pm_XT) (v1 : Int) (v2 : Int) (v3 : Int) (v4 : Int) (I : pm_I) : pm_O := pm_X pm_T (pm_env X) 143 2 24 [some (.inr (.inr 77)), some (.inl v1), some (.inl v2), some (.inl v3), some (.inl v4)] [] I
end
section
set_option maxRecDepth 100000 in
theorem e_A_keep (X : pm_XT)  (I : pm_I) : f_A_keep X  I =
  if 0 ≤ (I 43 1) ∧ (I 43 1) < 8 then
  bif true && true && Nat.beq (pm_kd (pm_R 44 (Int.toNat (I 43 1)))) 8 && true then
  if (0 : Int) + 10 ≤ pm_ln X.2 (pm_R 44 (Int.toNat (I 43 1))) then
  if pm_r32 (((pm_cp I 13 0 (pm_R 44 (Int.toNat (I 43 1))) 0 10) 43 1) + 1) then
  if (((pm_cp I 13 0 (pm_R 44 (Int.toNat (I 43 1))) 0 10) 43 1) + 1) < 8 then
  if pm_r32 (((pm_cp I 13 0 (pm_R 44 (Int.toNat (I 43 1))) 0 10) 43 1) + 1) then
  if pm_r32 (((pm_up (pm_cp I 13 0 (pm_R 44 (Int.toNat (I 43 1))) 0 10) 43 1 (((pm_cp I 13 0 (pm_R 44 (Int.toNat (I 43 1))) 0 10) 43 1) + 1)) 43 0) + 1) then
  some (0, (pm_up (pm_up (pm_cp I 13 0 (pm_R 44 (Int.toNat (I 43 1))) 0 10) 43 1 (((pm_cp I 13 0 (pm_R 44 (Int.toNat (I 43 1))) 0 10) 43 1) + 1)) 43 0 (min (((pm_up (pm_cp I 13 0 (pm_R 44 (Int.toNat (I 43 1))) 0 10) 43 1 (((pm_cp I 13 0 (pm_R 44 (Int.toNat (I 43 1))) 0 10) 43 1) + 1)) 43 0) + 1) 8)))
  else none
  else none
  else if pm_r32 (((pm_up (pm_cp I 13 0 (pm_R 44 (Int.toNat (I 43 1))) 0 10) 43 1 0) 43 0) + 1) then
  some (0, (pm_up (pm_up (pm_cp I 13 0 (pm_R 44 (Int.toNat (I 43 1))) 0 10) 43 1 0) 43 0 (min (((pm_up (pm_cp I 13 0 (pm_R 44 (Int.toNat (I 43 1))) 0 10) 43 1 0) 43 0) + 1) 8)))
  else none
  else none
  else none
  else none
  else none := (pm_seg pm_T_ct (pm_env X) [0] 33 0 1 0 [some (.inr (.inr 43)), some (.inr (.inr 13))] [] I).trans rfl
set_option maxRecDepth 100000 in
theorem e_A_giveBack (X : pm_XT)  (I : pm_I) : f_A_giveBack X  I =
  if 0 < (I 43 0) then
  if 0 < (I 43 1) then
  if pm_r32 ((I 43 1) - 1) then
  if 0 ≤ ((pm_up I 43 1 ((I 43 1) - 1)) 43 1) ∧ ((pm_up I 43 1 ((I 43 1) - 1)) 43 1) < 8 then
  bif true && true && true && Nat.beq (pm_kd (pm_R 44 (Int.toNat ((pm_up I 43 1 ((I 43 1) - 1)) 43 1)))) 8 then
  if (0 : Int) + 10 ≤ pm_ln X.2 (pm_R 44 (Int.toNat ((pm_up I 43 1 ((I 43 1) - 1)) 43 1))) then
  if pm_r32 (((pm_cp (pm_up I 43 1 ((I 43 1) - 1)) (pm_R 44 (Int.toNat ((pm_up I 43 1 ((I 43 1) - 1)) 43 1))) 0 13 0 10) 43 0) - 1) then
  some (1, (pm_up (pm_cp (pm_up I 43 1 ((I 43 1) - 1)) (pm_R 44 (Int.toNat ((pm_up I 43 1 ((I 43 1) - 1)) 43 1))) 0 13 0 10) 43 0 (((pm_cp (pm_up I 43 1 ((I 43 1) - 1)) (pm_R 44 (Int.toNat ((pm_up I 43 1 ((I 43 1) - 1)) 43 1))) 0 13 0 10) 43 0) - 1)))
  else none
  else none
  else none
  else none
  else none
  else if 0 ≤ ((pm_up I 43 1 7) 43 1) ∧ ((pm_up I 43 1 7) 43 1) < 8 then
  bif true && true && true && Nat.beq (pm_kd (pm_R 44 (Int.toNat ((pm_up I 43 1 7) 43 1)))) 8 then
  if (0 : Int) + 10 ≤ pm_ln X.2 (pm_R 44 (Int.toNat ((pm_up I 43 1 7) 43 1))) then
  if pm_r32 (((pm_cp (pm_up I 43 1 7) (pm_R 44 (Int.toNat ((pm_up I 43 1 7) 43 1))) 0 13 0 10) 43 0) - 1) then
  some (1, (pm_up (pm_cp (pm_up I 43 1 7) (pm_R 44 (Int.toNat ((pm_up I 43 1 7) 43 1))) 0 13 0 10) 43 0 (((pm_cp (pm_up I 43 1 7) (pm_R 44 (Int.toNat ((pm_up I 43 1 7) 43 1))) 0 13 0 10) 43 0) - 1)))
  else none
  else none
  else none
  else none
  else some (0, I) := (pm_seg pm_T_ct (pm_env X) [0] 32 1 1 0 [some (.inr (.inr 43)), some (.inr (.inr 13))] [] I).trans rfl
set_option maxRecDepth 100000 in
theorem e_A_forget (X : pm_XT)  (I : pm_I) : f_A_forget X  I =
  some (0, (pm_up I 43 0 0)) := (pm_seg pm_T_ct (pm_env X) [0] 5 2 0 0 [some (.inr (.inr 43))] [] I).trans rfl
set_option maxRecDepth 100000 in
theorem e_B_addPoint (X : pm_XT)  (I : pm_I) : f_B_addPoint X  I =
  if 0 ≤ (I 10 0) ∧ (I 10 0) < 6 then
  if pm_r32 (((pm_up I 15 (I 10 0) (I 10 0)) 10 0) + 1) then
  if pm_r32 (((pm_up (pm_up I 15 (I 10 0) (I 10 0)) 10 0 (((pm_up I 15 (I 10 0) (I 10 0)) 10 0) + 1)) 10 0) - 1) then
  some ((((pm_up (pm_up I 15 (I 10 0) (I 10 0)) 10 0 (((pm_up I 15 (I 10 0) (I 10 0)) 10 0) + 1)) 10 0) - 1), (pm_up (pm_up I 15 (I 10 0) (I 10 0)) 10 0 (((pm_up I 15 (I 10 0) (I 10 0)) 10 0) + 1)))
  else none
  else none
  else none := (pm_seg pm_T_ct (pm_env X) [0] 19 3 0 0 [some (.inr (.inr 10))] [] I).trans rfl
set_option maxRecDepth 100000 in
theorem e_B_addLine (X : pm_XT) (v1 : Int) (v2 : Int) (I : pm_I) : f_B_addLine X v1 v2 I =
  if 0 ≤ (I 10 1) ∧ (I 10 1) < 10 then
  if 0 ≤ ((pm_up I 11 (I 10 1) v1) 10 1) ∧ ((pm_up I 11 (I 10 1) v1) 10 1) < 10 then
  if 0 ≤ ((pm_up (pm_up I 11 (I 10 1) v1) 12 ((pm_up I 11 (I 10 1) v1) 10 1) v2) 10 1) ∧ ((pm_up (pm_up I 11 (I 10 1) v1) 12 ((pm_up I 11 (I 10 1) v1) 10 1) v2) 10 1) < 10 then
  if 0 ≤ v1 ∧ v1 < 6 then
  if 0 ≤ v2 ∧ v2 < 6 then
  if ((pm_up (pm_up (pm_up I 11 (I 10 1) v1) 12 ((pm_up I 11 (I 10 1) v1) 10 1) v2) 13 ((pm_up (pm_up I 11 (I 10 1) v1) 12 ((pm_up I 11 (I 10 1) v1) 10 1) v2) 10 1) 0) 15 v1) = ((pm_up (pm_up (pm_up I 11 (I 10 1) v1) 12 ((pm_up I 11 (I 10 1) v1) 10 1) v2) 13 ((pm_up (pm_up I 11 (I 10 1) v1) 12 ((pm_up I 11 (I 10 1) v1) 10 1) v2) 10 1) 0) 15 v2) then
  if 0 ≤ ((pm_up (pm_up (pm_up I 11 (I 10 1) v1) 12 ((pm_up I 11 (I 10 1) v1) 10 1) v2) 13 ((pm_up (pm_up I 11 (I 10 1) v1) 12 ((pm_up I 11 (I 10 1) v1) 10 1) v2) 10 1) 0) 10 1) ∧ ((pm_up (pm_up (pm_up I 11 (I 10 1) v1) 12 ((pm_up I 11 (I 10 1) v1) 10 1) v2) 13 ((pm_up (pm_up I 11 (I 10 1) v1) 12 ((pm_up I 11 (I 10 1) v1) 10 1) v2) 10 1) 0) 10 1) < 10 then
  if 0 ≤ ((pm_up (pm_up (pm_up (pm_up I 11 (I 10 1) v1) 12 ((pm_up I 11 (I 10 1) v1) 10 1) v2) 13 ((pm_up (pm_up I 11 (I 10 1) v1) 12 ((pm_up I 11 (I 10 1) v1) 10 1) v2) 10 1) 0) 14 ((pm_up (pm_up (pm_up I 11 (I 10 1) v1) 12 ((pm_up I 11 (I 10 1) v1) 10 1) v2) 13 ((pm_up (pm_up I 11 (I 10 1) v1) 12 ((pm_up I 11 (I 10 1) v1) 10 1) v2) 10 1) 0) 10 1) 0) 10 1) ∧ ((pm_up (pm_up (pm_up (pm_up I 11 (I 10 1) v1) 12 ((pm_up I 11 (I 10 1) v1) 10 1) v2) 13 ((pm_up (pm_up I 11 (I 10 1) v1) 12 ((pm_up I 11 (I 10 1) v1) 10 1) v2) 10 1) 0) 14 ((pm_up (pm_up (pm_up I 11 (I 10 1) v1) 12 ((pm_up I 11 (I 10 1) v1) 10 1) v2) 13 ((pm_up (pm_up I 11 (I 10 1) v1) 12 ((pm_up I 11 (I 10 1) v1) 10 1) v2) 10 1) 0) 10 1) 0) 10 1) < 10 then
  if ((pm_up (pm_up (pm_up (pm_up I 11 (I 10 1) v1) 12 ((pm_up I 11 (I 10 1) v1) 10 1) v2) 13 ((pm_up (pm_up I 11 (I 10 1) v1) 12 ((pm_up I 11 (I 10 1) v1) 10 1) v2) 10 1) 0) 14 ((pm_up (pm_up (pm_up I 11 (I 10 1) v1) 12 ((pm_up I 11 (I 10 1) v1) 10 1) v2) 13 ((pm_up (pm_up I 11 (I 10 1) v1) 12 ((pm_up I 11 (I 10 1) v1) 10 1) v2) 10 1) 0) 10 1) 0) 14 ((pm_up (pm_up (pm_up (pm_up I 11 (I 10 1) v1) 12 ((pm_up I 11 (I 10 1) v1) 10 1) v2) 13 ((pm_up (pm_up I 11 (I 10 1) v1) 12 ((pm_up I 11 (I 10 1) v1) 10 1) v2) 10 1) 0) 14 ((pm_up (pm_up (pm_up I 11 (I 10 1) v1) 12 ((pm_up I 11 (I 10 1) v1) 10 1) v2) 13 ((pm_up (pm_up I 11 (I 10 1) v1) 12 ((pm_up I 11 (I 10 1) v1) 10 1) v2) 10 1) 0) 10 1) 0) 10 1)) = 0 then
  if pm_r32 (((pm_up (pm_up (pm_up (pm_up I 11 (I 10 1) v1) 12 ((pm_up I 11 (I 10 1) v1) 10 1) v2) 13 ((pm_up (pm_up I 11 (I 10 1) v1) 12 ((pm_up I 11 (I 10 1) v1) 10 1) v2) 10 1) 0) 14 ((pm_up (pm_up (pm_up I 11 (I 10 1) v1) 12 ((pm_up I 11 (I 10 1) v1) 10 1) v2) 13 ((pm_up (pm_up I 11 (I 10 1) v1) 12 ((pm_up I 11 (I 10 1) v1) 10 1) v2) 10 1) 0) 10 1) 0) 10 1) + 1) then
  if pm_r32 (((pm_up (pm_up (pm_up (pm_up (pm_up I 11 (I 10 1) v1) 12 ((pm_up I 11 (I 10 1) v1) 10 1) v2) 13 ((pm_up (pm_up I 11 (I 10 1) v1) 12 ((pm_up I 11 (I 10 1) v1) 10 1) v2) 10 1) 0) 14 ((pm_up (pm_up (pm_up I 11 (I 10 1) v1) 12 ((pm_up I 11 (I 10 1) v1) 10 1) v2) 13 ((pm_up (pm_up I 11 (I 10 1) v1) 12 ((pm_up I 11 (I 10 1) v1) 10 1) v2) 10 1) 0) 10 1) 0) 10 1 (((pm_up (pm_up (pm_up (pm_up I 11 (I 10 1) v1) 12 ((pm_up I 11 (I 10 1) v1) 10 1) v2) 13 ((pm_up (pm_up I 11 (I 10 1) v1) 12 ((pm_up I 11 (I 10 1) v1) 10 1) v2) 10 1) 0) 14 ((pm_up (pm_up (pm_up I 11 (I 10 1) v1) 12 ((pm_up I 11 (I 10 1) v1) 10 1) v2) 13 ((pm_up (pm_up I 11 (I 10 1) v1) 12 ((pm_up I 11 (I 10 1) v1) 10 1) v2) 10 1) 0) 10 1) 0) 10 1) + 1)) 10 1) - 1) then
  some ((((pm_up (pm_up (pm_up (pm_up (pm_up I 11 (I 10 1) v1) 12 ((pm_up I 11 (I 10 1) v1) 10 1) v2) 13 ((pm_up (pm_up I 11 (I 10 1) v1) 12 ((pm_up I 11 (I 10 1) v1) 10 1) v2) 10 1) 0) 14 ((pm_up (pm_up (pm_up I 11 (I 10 1) v1) 12 ((pm_up I 11 (I 10 1) v1) 10 1) v2) 13 ((pm_up (pm_up I 11 (I 10 1) v1) 12 ((pm_up I 11 (I 10 1) v1) 10 1) v2) 10 1) 0) 10 1) 0) 10 1 (((pm_up (pm_up (pm_up (pm_up I 11 (I 10 1) v1) 12 ((pm_up I 11 (I 10 1) v1) 10 1) v2) 13 ((pm_up (pm_up I 11 (I 10 1) v1) 12 ((pm_up I 11 (I 10 1) v1) 10 1) v2) 10 1) 0) 14 ((pm_up (pm_up (pm_up I 11 (I 10 1) v1) 12 ((pm_up I 11 (I 10 1) v1) 10 1) v2) 13 ((pm_up (pm_up I 11 (I 10 1) v1) 12 ((pm_up I 11 (I 10 1) v1) 10 1) v2) 10 1) 0) 10 1) 0) 10 1) + 1)) 10 1) - 1), (pm_up (pm_up (pm_up (pm_up (pm_up I 11 (I 10 1) v1) 12 ((pm_up I 11 (I 10 1) v1) 10 1) v2) 13 ((pm_up (pm_up I 11 (I 10 1) v1) 12 ((pm_up I 11 (I 10 1) v1) 10 1) v2) 10 1) 0) 14 ((pm_up (pm_up (pm_up I 11 (I 10 1) v1) 12 ((pm_up I 11 (I 10 1) v1) 10 1) v2) 13 ((pm_up (pm_up I 11 (I 10 1) v1) 12 ((pm_up I 11 (I 10 1) v1) 10 1) v2) 10 1) 0) 10 1) 0) 10 1 (((pm_up (pm_up (pm_up (pm_up I 11 (I 10 1) v1) 12 ((pm_up I 11 (I 10 1) v1) 10 1) v2) 13 ((pm_up (pm_up I 11 (I 10 1) v1) 12 ((pm_up I 11 (I 10 1) v1) 10 1) v2) 10 1) 0) 14 ((pm_up (pm_up (pm_up I 11 (I 10 1) v1) 12 ((pm_up I 11 (I 10 1) v1) 10 1) v2) 13 ((pm_up (pm_up I 11 (I 10 1) v1) 12 ((pm_up I 11 (I 10 1) v1) 10 1) v2) 10 1) 0) 10 1) 0) 10 1) + 1)))
  else none
  else none
  else if pm_r32 (((pm_up (pm_up (pm_up (pm_up I 11 (I 10 1) v1) 12 ((pm_up I 11 (I 10 1) v1) 10 1) v2) 13 ((pm_up (pm_up I 11 (I 10 1) v1) 12 ((pm_up I 11 (I 10 1) v1) 10 1) v2) 10 1) 0) 14 ((pm_up (pm_up (pm_up I 11 (I 10 1) v1) 12 ((pm_up I 11 (I 10 1) v1) 10 1) v2) 13 ((pm_up (pm_up I 11 (I 10 1) v1) 12 ((pm_up I 11 (I 10 1) v1) 10 1) v2) 10 1) 0) 10 1) 0) 10 2) + 1) then
  if 0 ≤ v1 ∧ v1 < 6 then
  if 0 ≤ v2 ∧ v2 < 6 then
  (f_B_joinParts X ((pm_up (pm_up (pm_up (pm_up (pm_up I 11 (I 10 1) v1) 12 ((pm_up I 11 (I 10 1) v1) 10 1) v2) 13 ((pm_up (pm_up I 11 (I 10 1) v1) 12 ((pm_up I 11 (I 10 1) v1) 10 1) v2) 10 1) 0) 14 ((pm_up (pm_up (pm_up I 11 (I 10 1) v1) 12 ((pm_up I 11 (I 10 1) v1) 10 1) v2) 13 ((pm_up (pm_up I 11 (I 10 1) v1) 12 ((pm_up I 11 (I 10 1) v1) 10 1) v2) 10 1) 0) 10 1) 0) 10 2 (((pm_up (pm_up (pm_up (pm_up I 11 (I 10 1) v1) 12 ((pm_up I 11 (I 10 1) v1) 10 1) v2) 13 ((pm_up (pm_up I 11 (I 10 1) v1) 12 ((pm_up I 11 (I 10 1) v1) 10 1) v2) 10 1) 0) 14 ((pm_up (pm_up (pm_up I 11 (I 10 1) v1) 12 ((pm_up I 11 (I 10 1) v1) 10 1) v2) 13 ((pm_up (pm_up I 11 (I 10 1) v1) 12 ((pm_up I 11 (I 10 1) v1) 10 1) v2) 10 1) 0) 10 1) 0) 10 2) + 1)) 15 v1) ((pm_up (pm_up (pm_up (pm_up (pm_up I 11 (I 10 1) v1) 12 ((pm_up I 11 (I 10 1) v1) 10 1) v2) 13 ((pm_up (pm_up I 11 (I 10 1) v1) 12 ((pm_up I 11 (I 10 1) v1) 10 1) v2) 10 1) 0) 14 ((pm_up (pm_up (pm_up I 11 (I 10 1) v1) 12 ((pm_up I 11 (I 10 1) v1) 10 1) v2) 13 ((pm_up (pm_up I 11 (I 10 1) v1) 12 ((pm_up I 11 (I 10 1) v1) 10 1) v2) 10 1) 0) 10 1) 0) 10 2 (((pm_up (pm_up (pm_up (pm_up I 11 (I 10 1) v1) 12 ((pm_up I 11 (I 10 1) v1) 10 1) v2) 13 ((pm_up (pm_up I 11 (I 10 1) v1) 12 ((pm_up I 11 (I 10 1) v1) 10 1) v2) 10 1) 0) 14 ((pm_up (pm_up (pm_up I 11 (I 10 1) v1) 12 ((pm_up I 11 (I 10 1) v1) 10 1) v2) 13 ((pm_up (pm_up I 11 (I 10 1) v1) 12 ((pm_up I 11 (I 10 1) v1) 10 1) v2) 10 1) 0) 10 1) 0) 10 2) + 1)) 15 v2) (pm_up (pm_up (pm_up (pm_up (pm_up I 11 (I 10 1) v1) 12 ((pm_up I 11 (I 10 1) v1) 10 1) v2) 13 ((pm_up (pm_up I 11 (I 10 1) v1) 12 ((pm_up I 11 (I 10 1) v1) 10 1) v2) 10 1) 0) 14 ((pm_up (pm_up (pm_up I 11 (I 10 1) v1) 12 ((pm_up I 11 (I 10 1) v1) 10 1) v2) 13 ((pm_up (pm_up I 11 (I 10 1) v1) 12 ((pm_up I 11 (I 10 1) v1) 10 1) v2) 10 1) 0) 10 1) 0) 10 2 (((pm_up (pm_up (pm_up (pm_up I 11 (I 10 1) v1) 12 ((pm_up I 11 (I 10 1) v1) 10 1) v2) 13 ((pm_up (pm_up I 11 (I 10 1) v1) 12 ((pm_up I 11 (I 10 1) v1) 10 1) v2) 10 1) 0) 14 ((pm_up (pm_up (pm_up I 11 (I 10 1) v1) 12 ((pm_up I 11 (I 10 1) v1) 10 1) v2) 13 ((pm_up (pm_up I 11 (I 10 1) v1) 12 ((pm_up I 11 (I 10 1) v1) 10 1) v2) 10 1) 0) 10 1) 0) 10 2) + 1))).bind (fun x1 =>
  if pm_r32 ((x1.2 10 1) + 1) then
  if pm_r32 (((pm_up x1.2 10 1 ((x1.2 10 1) + 1)) 10 1) - 1) then
  some ((((pm_up x1.2 10 1 ((x1.2 10 1) + 1)) 10 1) - 1), (pm_up x1.2 10 1 ((x1.2 10 1) + 1)))
  else none
  else none)
  else none
  else none
  else none
  else none
  else none
  else if 0 ≤ ((pm_up (pm_up (pm_up I 11 (I 10 1) v1) 12 ((pm_up I 11 (I 10 1) v1) 10 1) v2) 13 ((pm_up (pm_up I 11 (I 10 1) v1) 12 ((pm_up I 11 (I 10 1) v1) 10 1) v2) 10 1) 0) 10 1) ∧ ((pm_up (pm_up (pm_up I 11 (I 10 1) v1) 12 ((pm_up I 11 (I 10 1) v1) 10 1) v2) 13 ((pm_up (pm_up I 11 (I 10 1) v1) 12 ((pm_up I 11 (I 10 1) v1) 10 1) v2) 10 1) 0) 10 1) < 10 then
  if 0 ≤ ((pm_up (pm_up (pm_up (pm_up I 11 (I 10 1) v1) 12 ((pm_up I 11 (I 10 1) v1) 10 1) v2) 13 ((pm_up (pm_up I 11 (I 10 1) v1) 12 ((pm_up I 11 (I 10 1) v1) 10 1) v2) 10 1) 0) 14 ((pm_up (pm_up (pm_up I 11 (I 10 1) v1) 12 ((pm_up I 11 (I 10 1) v1) 10 1) v2) 13 ((pm_up (pm_up I 11 (I 10 1) v1) 12 ((pm_up I 11 (I 10 1) v1) 10 1) v2) 10 1) 0) 10 1) 1) 10 1) ∧ ((pm_up (pm_up (pm_up (pm_up I 11 (I 10 1) v1) 12 ((pm_up I 11 (I 10 1) v1) 10 1) v2) 13 ((pm_up (pm_up I 11 (I 10 1) v1) 12 ((pm_up I 11 (I 10 1) v1) 10 1) v2) 10 1) 0) 14 ((pm_up (pm_up (pm_up I 11 (I 10 1) v1) 12 ((pm_up I 11 (I 10 1) v1) 10 1) v2) 13 ((pm_up (pm_up I 11 (I 10 1) v1) 12 ((pm_up I 11 (I 10 1) v1) 10 1) v2) 10 1) 0) 10 1) 1) 10 1) < 10 then
  if ((pm_up (pm_up (pm_up (pm_up I 11 (I 10 1) v1) 12 ((pm_up I 11 (I 10 1) v1) 10 1) v2) 13 ((pm_up (pm_up I 11 (I 10 1) v1) 12 ((pm_up I 11 (I 10 1) v1) 10 1) v2) 10 1) 0) 14 ((pm_up (pm_up (pm_up I 11 (I 10 1) v1) 12 ((pm_up I 11 (I 10 1) v1) 10 1) v2) 13 ((pm_up (pm_up I 11 (I 10 1) v1) 12 ((pm_up I 11 (I 10 1) v1) 10 1) v2) 10 1) 0) 10 1) 1) 14 ((pm_up (pm_up (pm_up (pm_up I 11 (I 10 1) v1) 12 ((pm_up I 11 (I 10 1) v1) 10 1) v2) 13 ((pm_up (pm_up I 11 (I 10 1) v1) 12 ((pm_up I 11 (I 10 1) v1) 10 1) v2) 10 1) 0) 14 ((pm_up (pm_up (pm_up I 11 (I 10 1) v1) 12 ((pm_up I 11 (I 10 1) v1) 10 1) v2) 13 ((pm_up (pm_up I 11 (I 10 1) v1) 12 ((pm_up I 11 (I 10 1) v1) 10 1) v2) 10 1) 0) 10 1) 1) 10 1)) = 0 then
  if pm_r32 (((pm_up (pm_up (pm_up (pm_up I 11 (I 10 1) v1) 12 ((pm_up I 11 (I 10 1) v1) 10 1) v2) 13 ((pm_up (pm_up I 11 (I 10 1) v1) 12 ((pm_up I 11 (I 10 1) v1) 10 1) v2) 10 1) 0) 14 ((pm_up (pm_up (pm_up I 11 (I 10 1) v1) 12 ((pm_up I 11 (I 10 1) v1) 10 1) v2) 13 ((pm_up (pm_up I 11 (I 10 1) v1) 12 ((pm_up I 11 (I 10 1) v1) 10 1) v2) 10 1) 0) 10 1) 1) 10 1) + 1) then
  if pm_r32 (((pm_up (pm_up (pm_up (pm_up (pm_up I 11 (I 10 1) v1) 12 ((pm_up I 11 (I 10 1) v1) 10 1) v2) 13 ((pm_up (pm_up I 11 (I 10 1) v1) 12 ((pm_up I 11 (I 10 1) v1) 10 1) v2) 10 1) 0) 14 ((pm_up (pm_up (pm_up I 11 (I 10 1) v1) 12 ((pm_up I 11 (I 10 1) v1) 10 1) v2) 13 ((pm_up (pm_up I 11 (I 10 1) v1) 12 ((pm_up I 11 (I 10 1) v1) 10 1) v2) 10 1) 0) 10 1) 1) 10 1 (((pm_up (pm_up (pm_up (pm_up I 11 (I 10 1) v1) 12 ((pm_up I 11 (I 10 1) v1) 10 1) v2) 13 ((pm_up (pm_up I 11 (I 10 1) v1) 12 ((pm_up I 11 (I 10 1) v1) 10 1) v2) 10 1) 0) 14 ((pm_up (pm_up (pm_up I 11 (I 10 1) v1) 12 ((pm_up I 11 (I 10 1) v1) 10 1) v2) 13 ((pm_up (pm_up I 11 (I 10 1) v1) 12 ((pm_up I 11 (I 10 1) v1) 10 1) v2) 10 1) 0) 10 1) 1) 10 1) + 1)) 10 1) - 1) then
  some ((((pm_up (pm_up (pm_up (pm_up (pm_up I 11 (I 10 1) v1) 12 ((pm_up I 11 (I 10 1) v1) 10 1) v2) 13 ((pm_up (pm_up I 11 (I 10 1) v1) 12 ((pm_up I 11 (I 10 1) v1) 10 1) v2) 10 1) 0) 14 ((pm_up (pm_up (pm_up I 11 (I 10 1) v1) 12 ((pm_up I 11 (I 10 1) v1) 10 1) v2) 13 ((pm_up (pm_up I 11 (I 10 1) v1) 12 ((pm_up I 11 (I 10 1) v1) 10 1) v2) 10 1) 0) 10 1) 1) 10 1 (((pm_up (pm_up (pm_up (pm_up I 11 (I 10 1) v1) 12 ((pm_up I 11 (I 10 1) v1) 10 1) v2) 13 ((pm_up (pm_up I 11 (I 10 1) v1) 12 ((pm_up I 11 (I 10 1) v1) 10 1) v2) 10 1) 0) 14 ((pm_up (pm_up (pm_up I 11 (I 10 1) v1) 12 ((pm_up I 11 (I 10 1) v1) 10 1) v2) 13 ((pm_up (pm_up I 11 (I 10 1) v1) 12 ((pm_up I 11 (I 10 1) v1) 10 1) v2) 10 1) 0) 10 1) 1) 10 1) + 1)) 10 1) - 1), (pm_up (pm_up (pm_up (pm_up (pm_up I 11 (I 10 1) v1) 12 ((pm_up I 11 (I 10 1) v1) 10 1) v2) 13 ((pm_up (pm_up I 11 (I 10 1) v1) 12 ((pm_up I 11 (I 10 1) v1) 10 1) v2) 10 1) 0) 14 ((pm_up (pm_up (pm_up I 11 (I 10 1) v1) 12 ((pm_up I 11 (I 10 1) v1) 10 1) v2) 13 ((pm_up (pm_up I 11 (I 10 1) v1) 12 ((pm_up I 11 (I 10 1) v1) 10 1) v2) 10 1) 0) 10 1) 1) 10 1 (((pm_up (pm_up (pm_up (pm_up I 11 (I 10 1) v1) 12 ((pm_up I 11 (I 10 1) v1) 10 1) v2) 13 ((pm_up (pm_up I 11 (I 10 1) v1) 12 ((pm_up I 11 (I 10 1) v1) 10 1) v2) 10 1) 0) 14 ((pm_up (pm_up (pm_up I 11 (I 10 1) v1) 12 ((pm_up I 11 (I 10 1) v1) 10 1) v2) 13 ((pm_up (pm_up I 11 (I 10 1) v1) 12 ((pm_up I 11 (I 10 1) v1) 10 1) v2) 10 1) 0) 10 1) 1) 10 1) + 1)))
  else none
  else none
  else if pm_r32 (((pm_up (pm_up (pm_up (pm_up I 11 (I 10 1) v1) 12 ((pm_up I 11 (I 10 1) v1) 10 1) v2) 13 ((pm_up (pm_up I 11 (I 10 1) v1) 12 ((pm_up I 11 (I 10 1) v1) 10 1) v2) 10 1) 0) 14 ((pm_up (pm_up (pm_up I 11 (I 10 1) v1) 12 ((pm_up I 11 (I 10 1) v1) 10 1) v2) 13 ((pm_up (pm_up I 11 (I 10 1) v1) 12 ((pm_up I 11 (I 10 1) v1) 10 1) v2) 10 1) 0) 10 1) 1) 10 2) + 1) then
  if 0 ≤ v1 ∧ v1 < 6 then
  if 0 ≤ v2 ∧ v2 < 6 then
  (f_B_joinParts X ((pm_up (pm_up (pm_up (pm_up (pm_up I 11 (I 10 1) v1) 12 ((pm_up I 11 (I 10 1) v1) 10 1) v2) 13 ((pm_up (pm_up I 11 (I 10 1) v1) 12 ((pm_up I 11 (I 10 1) v1) 10 1) v2) 10 1) 0) 14 ((pm_up (pm_up (pm_up I 11 (I 10 1) v1) 12 ((pm_up I 11 (I 10 1) v1) 10 1) v2) 13 ((pm_up (pm_up I 11 (I 10 1) v1) 12 ((pm_up I 11 (I 10 1) v1) 10 1) v2) 10 1) 0) 10 1) 1) 10 2 (((pm_up (pm_up (pm_up (pm_up I 11 (I 10 1) v1) 12 ((pm_up I 11 (I 10 1) v1) 10 1) v2) 13 ((pm_up (pm_up I 11 (I 10 1) v1) 12 ((pm_up I 11 (I 10 1) v1) 10 1) v2) 10 1) 0) 14 ((pm_up (pm_up (pm_up I 11 (I 10 1) v1) 12 ((pm_up I 11 (I 10 1) v1) 10 1) v2) 13 ((pm_up (pm_up I 11 (I 10 1) v1) 12 ((pm_up I 11 (I 10 1) v1) 10 1) v2) 10 1) 0) 10 1) 1) 10 2) + 1)) 15 v1) ((pm_up (pm_up (pm_up (pm_up (pm_up I 11 (I 10 1) v1) 12 ((pm_up I 11 (I 10 1) v1) 10 1) v2) 13 ((pm_up (pm_up I 11 (I 10 1) v1) 12 ((pm_up I 11 (I 10 1) v1) 10 1) v2) 10 1) 0) 14 ((pm_up (pm_up (pm_up I 11 (I 10 1) v1) 12 ((pm_up I 11 (I 10 1) v1) 10 1) v2) 13 ((pm_up (pm_up I 11 (I 10 1) v1) 12 ((pm_up I 11 (I 10 1) v1) 10 1) v2) 10 1) 0) 10 1) 1) 10 2 (((pm_up (pm_up (pm_up (pm_up I 11 (I 10 1) v1) 12 ((pm_up I 11 (I 10 1) v1) 10 1) v2) 13 ((pm_up (pm_up I 11 (I 10 1) v1) 12 ((pm_up I 11 (I 10 1) v1) 10 1) v2) 10 1) 0) 14 ((pm_up (pm_up (pm_up I 11 (I 10 1) v1) 12 ((pm_up I 11 (I 10 1) v1) 10 1) v2) 13 ((pm_up (pm_up I 11 (I 10 1) v1) 12 ((pm_up I 11 (I 10 1) v1) 10 1) v2) 10 1) 0) 10 1) 1) 10 2) + 1)) 15 v2) (pm_up (pm_up (pm_up (pm_up (pm_up I 11 (I 10 1) v1) 12 ((pm_up I 11 (I 10 1) v1) 10 1) v2) 13 ((pm_up (pm_up I 11 (I 10 1) v1) 12 ((pm_up I 11 (I 10 1) v1) 10 1) v2) 10 1) 0) 14 ((pm_up (pm_up (pm_up I 11 (I 10 1) v1) 12 ((pm_up I 11 (I 10 1) v1) 10 1) v2) 13 ((pm_up (pm_up I 11 (I 10 1) v1) 12 ((pm_up I 11 (I 10 1) v1) 10 1) v2) 10 1) 0) 10 1) 1) 10 2 (((pm_up (pm_up (pm_up (pm_up I 11 (I 10 1) v1) 12 ((pm_up I 11 (I 10 1) v1) 10 1) v2) 13 ((pm_up (pm_up I 11 (I 10 1) v1) 12 ((pm_up I 11 (I 10 1) v1) 10 1) v2) 10 1) 0) 14 ((pm_up (pm_up (pm_up I 11 (I 10 1) v1) 12 ((pm_up I 11 (I 10 1) v1) 10 1) v2) 13 ((pm_up (pm_up I 11 (I 10 1) v1) 12 ((pm_up I 11 (I 10 1) v1) 10 1) v2) 10 1) 0) 10 1) 1) 10 2) + 1))).bind (fun x2 =>
  if pm_r32 ((x2.2 10 1) + 1) then
  if pm_r32 (((pm_up x2.2 10 1 ((x2.2 10 1) + 1)) 10 1) - 1) then
  some ((((pm_up x2.2 10 1 ((x2.2 10 1) + 1)) 10 1) - 1), (pm_up x2.2 10 1 ((x2.2 10 1) + 1)))
  else none
  else none)
  else none
  else none
  else none
  else none
  else none
  else none
  else none
  else none
  else none
  else none := (pm_seg pm_T_ct (pm_env X) [0] 68 4 2 0 [some (.inr (.inr 10)), some (.inl v1), some (.inl v2)] [] I).trans rfl
set_option maxRecDepth 100000 in
theorem e_B_joinParts (X : pm_XT) (v1 : Int) (v2 : Int) (I : pm_I) : f_B_joinParts X v1 v2 I =
  f_B_joinParts_9 X v1 v2 (min v1 v2) 0 I := (pm_seg pm_T_ct (pm_env X) [0, 9] 8 5 1 0 [some (.inr (.inr 10)), some (.inl v1), some (.inl v2), none, none] [] I).trans rfl
set_option maxRecDepth 100000 in
theorem e_B_joinParts_9 (X : pm_XT) (v1 : Int) (v2 : Int) (v3 : Int) (v4 : Int) (I : pm_I) : f_B_joinParts_9 X v1 v2 v3 v4 I =
  if v4 < (I 10 0) then
  if 0 ≤ v4 ∧ v4 < 6 then
  if (I 15 v4) = v1 then
  if 0 ≤ v4 ∧ v4 < 6 then
  if pm_r32 (v4 + 1) then
  f_B_joinParts_9 X v1 v2 v3 (v4 + 1) (pm_up I 15 v4 v3)
  else none
  else none
  else if 0 ≤ v4 ∧ v4 < 6 then
  if (I 15 v4) = v2 then
  if 0 ≤ v4 ∧ v4 < 6 then
  if pm_r32 (v4 + 1) then
  f_B_joinParts_9 X v1 v2 v3 (v4 + 1) (pm_up I 15 v4 v3)
  else none
  else none
  else if pm_r32 (v4 + 1) then
  f_B_joinParts_9 X v1 v2 v3 (v4 + 1) I
  else none
  else none
  else none
  else some (0, I) := (pm_seg pm_T_ct (pm_env X) [0, 9] 25 5 1 9 [some (.inr (.inr 10)), some (.inl v1), some (.inl v2), some (.inl v3), some (.inl v4)] [] I).trans rfl
set_option maxRecDepth 100000 in
theorem e_B_clearTurns (X : pm_XT)  (I : pm_I) : f_B_clearTurns X  I =
  f_B_clearTurns_2 X 0 I := (pm_seg pm_T_ct (pm_env X) [0, 2] 4 6 0 0 [some (.inr (.inr 10)), none] [] I).trans rfl
set_option maxRecDepth 100000 in
theorem e_B_clearTurns_2 (X : pm_XT) (v1 : Int) (I : pm_I) : f_B_clearTurns_2 X v1 I =
  if v1 < (I 10 1) then
  if 0 ≤ v1 ∧ v1 < 10 then
  if pm_r32 (v1 + 1) then
  f_B_clearTurns_2 X (v1 + 1) (pm_up I 13 v1 0)
  else none
  else none
  else some (0, I) := (pm_seg pm_T_ct (pm_env X) [0, 2] 13 6 0 2 [some (.inr (.inr 10)), some (.inl v1)] [] I).trans rfl
set_option maxRecDepth 100000 in
theorem e_B_shiftOnly (X : pm_XT) (v1 : Int) (v2 : Int) (I : pm_I) : f_B_shiftOnly X v1 v2 I =
  f_B_shiftOnly_2 X v1 v2 0 I := (pm_seg pm_T_ct (pm_env X) [0, 2] 4 7 0 0 [some (.inr (.inr 10)), some (.inl v1), some (.inl v2), none] [] I).trans rfl
set_option maxRecDepth 100000 in
theorem e_B_shiftOnly_2 (X : pm_XT) (v1 : Int) (v2 : Int) (v3 : Int) (I : pm_I) : f_B_shiftOnly_2 X v1 v2 v3 I =
  if v3 < (I 10 0) then
  if v3 = v1 then
  if 0 ≤ v3 ∧ v3 < 6 then
  if pm_r32 (v3 + 1) then
  f_B_shiftOnly_2 X v1 v2 (v3 + 1) (pm_up I 16 v3 v2)
  else none
  else none
  else if 0 ≤ v3 ∧ v3 < 6 then
  if pm_r32 (v3 + 1) then
  f_B_shiftOnly_2 X v1 v2 (v3 + 1) (pm_up I 16 v3 0)
  else none
  else none
  else some (0, I) := (pm_seg pm_T_ct (pm_env X) [0, 2] 17 7 0 2 [some (.inr (.inr 10)), some (.inl v1), some (.inl v2), some (.inl v3)] [] I).trans rfl
set_option maxRecDepth 100000 in
theorem e_B_shiftToStill (X : pm_XT)  (I : pm_I) : f_B_shiftToStill X  I =
  f_B_shiftToStill_2 X 0 I := (pm_seg pm_T_ct (pm_env X) [0, 2, 46, 56] 4 8 2 0 [some (.inr (.inr 10)), some (.inr (.inr 4)), none, none] [] I).trans rfl
set_option maxRecDepth 100000 in
theorem e_B_shiftToStill_2 (X : pm_XT) (v2 : Int) (I : pm_I) : f_B_shiftToStill_2 X v2 I =
  if v2 < (I 10 0) then
  if 0 ≤ v2 ∧ v2 < 6 then
  if (I 15 v2) = v2 then
  if 0 ≤ v2 ∧ v2 < 6 then
  if 0 ≤ v2 ∧ v2 < 6 then
  if pm_r32 (v2 + 1) then
  f_B_shiftToStill_2 X (v2 + 1) (pm_up (pm_up I 17 v2 1) 16 v2 0)
  else none
  else none
  else none
  else if 0 ≤ v2 ∧ v2 < 6 then
  if 0 ≤ v2 ∧ v2 < 6 then
  if pm_r32 (v2 + 1) then
  f_B_shiftToStill_2 X (v2 + 1) (pm_up (pm_up I 17 v2 0) 16 v2 0)
  else none
  else none
  else none
  else none
  else f_B_shiftToStill_46 X 1 I := (pm_seg pm_T_ct (pm_env X) [0, 2, 46, 56] 25 8 2 2 [some (.inr (.inr 10)), some (.inr (.inr 4)), some (.inl v2), none] [] I).trans rfl
set_option maxRecDepth 100000 in
theorem e_B_shiftToStill_46 (X : pm_XT) (v2 : Int) (I : pm_I) : f_B_shiftToStill_46 X v2 I =
  if v2 < (I 10 0) then
  f_B_shiftToStill_56 X v2 0 I
  else some (0, I) := (pm_seg pm_T_ct (pm_env X) [0, 2, 46, 56] 8 8 2 46 [some (.inr (.inr 10)), some (.inr (.inr 4)), some (.inl v2), none] [] I).trans rfl
set_option maxRecDepth 100000 in
theorem e_B_shiftToStill_56 (X : pm_XT) (v2 : Int) (v3 : Int) (I : pm_I) : f_B_shiftToStill_56 X v2 v3 I =
  if v3 < (I 10 1) then
  if 0 ≤ v3 ∧ v3 < 10 then
  if (I 14 v3) = 0 then
  if pm_r32 (v3 + 1) then
  f_B_shiftToStill_56 X v2 (v3 + 1) I
  else none
  else (f_B_reachAlong X v3 I).bind (fun x1 =>
  if pm_r32 (v3 + 1) then
  f_B_shiftToStill_56 X v2 (v3 + 1) x1.2
  else none)
  else none
  else if pm_r32 (v2 + 1) then
  f_B_shiftToStill_46 X (v2 + 1) I
  else none := (pm_seg pm_T_ct (pm_env X) [0, 2, 46, 56] 17 8 2 56 [some (.inr (.inr 10)), some (.inr (.inr 4)), some (.inl v2), some (.inl v3)] [] I).trans rfl
set_option maxRecDepth 100000 in
theorem e_B_reachAlong (X : pm_XT) (v1 : Int) (I : pm_I) : f_B_reachAlong X v1 I =
  if 0 ≤ v1 ∧ v1 < 10 then
  if 0 ≤ v1 ∧ v1 < 10 then
  if 0 ≤ v1 ∧ v1 < 10 then
  if 0 ≤ (I 11 v1) ∧ (I 11 v1) < 6 then
  if (I 17 (I 11 v1)) = 0 then
  if 0 ≤ (I 12 v1) ∧ (I 12 v1) < 6 then
  if (I 17 (I 12 v1)) = 0 then
  some (0, I)
  else if 0 ≤ (I 11 v1) ∧ (I 11 v1) < 6 then
  if (I 17 (I 11 v1)) = 0 then
  if 0 ≤ (I 12 v1) ∧ (I 12 v1) < 6 then
  if 0 ≤ (I 13 v1) ∧ (I 13 v1) < 8 then
  (f_G_product X (I 16 (I 12 v1)) (I 7 (I 13 v1)) I).bind (fun x1 =>
  if 0 ≤ (I 11 v1) ∧ (I 11 v1) < 6 then
  if 0 ≤ (I 11 v1) ∧ (I 11 v1) < 6 then
  some (0, (pm_up (pm_up x1.2 16 (I 11 v1) x1.1) 17 (I 11 v1) 1))
  else none
  else none)
  else none
  else none
  else some (0, I)
  else none
  else none
  else if 0 ≤ (I 12 v1) ∧ (I 12 v1) < 6 then
  if (I 17 (I 12 v1)) = 0 then
  if 0 ≤ (I 11 v1) ∧ (I 11 v1) < 6 then
  (f_G_product X (I 16 (I 11 v1)) (I 13 v1) I).bind (fun x2 =>
  if 0 ≤ (I 12 v1) ∧ (I 12 v1) < 6 then
  if 0 ≤ (I 12 v1) ∧ (I 12 v1) < 6 then
  some (0, (pm_up (pm_up x2.2 16 (I 12 v1) x2.1) 17 (I 12 v1) 1))
  else none
  else none)
  else none
  else if 0 ≤ (I 12 v1) ∧ (I 12 v1) < 6 then
  if (I 17 (I 12 v1)) = 0 then
  some (0, I)
  else if 0 ≤ (I 11 v1) ∧ (I 11 v1) < 6 then
  if (I 17 (I 11 v1)) = 0 then
  if 0 ≤ (I 12 v1) ∧ (I 12 v1) < 6 then
  if 0 ≤ (I 13 v1) ∧ (I 13 v1) < 8 then
  (f_G_product X (I 16 (I 12 v1)) (I 7 (I 13 v1)) I).bind (fun x3 =>
  if 0 ≤ (I 11 v1) ∧ (I 11 v1) < 6 then
  if 0 ≤ (I 11 v1) ∧ (I 11 v1) < 6 then
  some (0, (pm_up (pm_up x3.2 16 (I 11 v1) x3.1) 17 (I 11 v1) 1))
  else none
  else none)
  else none
  else none
  else some (0, I)
  else none
  else none
  else none
  else none
  else none
  else none
  else none := (pm_seg pm_T_ct (pm_env X) [0] 56 9 1 0 [some (.inr (.inr 10)), some (.inl v1), some (.inr (.inr 4)), none, none, none] [] I).trans rfl
set_option maxRecDepth 100000 in
theorem e_B_turnPoints (X : pm_XT)  (I : pm_I) : f_B_turnPoints X  I =
  f_B_turnPoints_4 X 0 0 I := (pm_seg pm_T_ct (pm_env X) [0, 4] 6 10 1 0 [some (.inr (.inr 10)), some (.inr (.inr 4)), none, none, none, none] [] I).trans rfl
set_option maxRecDepth 100000 in
theorem e_B_turnPoints_4 (X : pm_XT) (v2 : Int) (v3 : Int) (I : pm_I) : f_B_turnPoints_4 X v2 v3 I =
  if v3 < (I 10 1) then
  if 0 ≤ v3 ∧ v3 < 10 then
  if 0 ≤ v3 ∧ v3 < 10 then
  if 0 ≤ (I 11 v3) ∧ (I 11 v3) < 6 then
  (f_G_product X (I 16 (I 11 v3)) (I 13 v3) I).bind (fun x1 =>
  if 0 ≤ v3 ∧ v3 < 10 then
  if 0 ≤ (x1.2 12 v3) ∧ (x1.2 12 v3) < 6 then
  if 0 ≤ (x1.2 16 (x1.2 12 v3)) ∧ (x1.2 16 (x1.2 12 v3)) < 8 then
  (f_G_product X x1.1 (x1.2 7 (x1.2 16 (x1.2 12 v3))) x1.2).bind (fun x2 =>
  if 0 ≤ v3 ∧ v3 < 10 then
  if 0 ≤ v3 ∧ v3 < 10 then
  if ((pm_up x2.2 13 v3 x2.1) 13 v3) = (I 13 v3) then
  if pm_r32 (v3 + 1) then
  f_B_turnPoints_4 X v2 (v3 + 1) (pm_up x2.2 13 v3 x2.1)
  else none
  else if pm_r32 (v2 + 1) then
  if pm_r32 (v3 + 1) then
  f_B_turnPoints_4 X (v2 + 1) (v3 + 1) (pm_up x2.2 13 v3 x2.1)
  else none
  else none
  else none
  else none)
  else none
  else none
  else none)
  else none
  else none
  else none
  else some (v2, I) := (pm_seg pm_T_ct (pm_env X) [0, 4] 48 10 1 4 [some (.inr (.inr 10)), some (.inr (.inr 4)), some (.inl v2), some (.inl v3), none, none] [] I).trans rfl
set_option maxRecDepth 100000 in
theorem e_G_draftRing (X : pm_XT) (v1 : Int) (I : pm_I) : f_G_draftRing X v1 I =
  f_G_draftRing_2 X v1 0 I := (pm_seg pm_T_ct (pm_env X) [0, 2, 9] 4 11 0 0 [some (.inr (.inr 4)), some (.inl v1), none, none] [] I).trans rfl
set_option maxRecDepth 100000 in
theorem e_G_draftRing_2 (X : pm_XT) (v1 : Int) (v2 : Int) (I : pm_I) : f_G_draftRing_2 X v1 v2 I =
  if v2 < v1 then
  f_G_draftRing_9 X v1 v2 0 I
  else some (0, I) := (pm_seg pm_T_ct (pm_env X) [0, 2, 9] 7 11 0 2 [some (.inr (.inr 4)), some (.inl v1), some (.inl v2), none] [] I).trans rfl
set_option maxRecDepth 100000 in
theorem e_G_draftRing_9 (X : pm_XT) (v1 : Int) (v2 : Int) (v3 : Int) (I : pm_I) : f_G_draftRing_9 X v1 v2 v3 I =
  if v3 < v1 then
  if pm_r32 (8 * v2) then
  if pm_r32 ((8 * v2) + v3) then
  if pm_r32 (v2 + v3) then
  if (v2 + v3) < v1 then
  if pm_r32 (v2 + v3) then
  if 0 ≤ ((8 * v2) + v3) ∧ ((8 * v2) + v3) < 64 then
  if pm_r32 (v3 + 1) then
  f_G_draftRing_9 X v1 v2 (v3 + 1) (pm_up I 5 ((8 * v2) + v3) (v2 + v3))
  else none
  else none
  else none
  else if pm_r32 (v2 + v3) then
  if pm_r32 ((v2 + v3) - v1) then
  if 0 ≤ ((8 * v2) + v3) ∧ ((8 * v2) + v3) < 64 then
  if pm_r32 (v3 + 1) then
  f_G_draftRing_9 X v1 v2 (v3 + 1) (pm_up I 5 ((8 * v2) + v3) ((v2 + v3) - v1))
  else none
  else none
  else none
  else none
  else none
  else none
  else none
  else if pm_r32 (v2 + 1) then
  f_G_draftRing_2 X v1 (v2 + 1) I
  else none := (pm_seg pm_T_ct (pm_env X) [0, 2, 9] 25 11 0 9 [some (.inr (.inr 4)), some (.inl v1), some (.inl v2), some (.inl v3)] [] I).trans rfl
set_option maxRecDepth 100000 in
theorem e_G_draftFlips (X : pm_XT) (v1 : Int) (I : pm_I) : f_G_draftFlips X v1 I =
  f_G_draftFlips_2 X v1 0 I := (pm_seg pm_T_ct (pm_env X) [0, 2, 9] 4 12 0 0 [some (.inr (.inr 4)), some (.inl v1), none, none, none, none] [] I).trans rfl
set_option maxRecDepth 100000 in
theorem e_G_draftFlips_2 (X : pm_XT) (v1 : Int) (v2 : Int) (I : pm_I) : f_G_draftFlips_2 X v1 v2 I =
  if v2 < v1 then
  f_G_draftFlips_9 X v1 v2 0 I
  else some (0, I) := (pm_seg pm_T_ct (pm_env X) [0, 2, 9] 7 12 0 2 [some (.inr (.inr 4)), some (.inl v1), some (.inl v2), none, none, none] [] I).trans rfl
set_option maxRecDepth 100000 in
theorem e_G_draftFlips_9 (X : pm_XT) (v1 : Int) (v2 : Int) (v3 : Int) (I : pm_I) : f_G_draftFlips_9 X v1 v2 v3 I =
  if v3 < v1 then
  if pm_r32 (v2 + v3) then
  if (v2 + v3) < v1 then
  if pm_r32 (v2 + v3) then
  if v2 < v3 then
  if pm_r32 (v2 - v3) then
  if pm_r32 ((v2 - v3) + v1) then
  if pm_r32 (8 * v2) then
  if pm_r32 ((8 * v2) + v3) then
  if 0 ≤ ((8 * v2) + v3) ∧ ((8 * v2) + v3) < 64 then
  if pm_r32 (8 * v2) then
  if pm_r32 ((8 * v2) + v1) then
  if pm_r32 (((8 * v2) + v1) + v3) then
  if pm_r32 (v1 + (v2 + v3)) then
  if 0 ≤ (((8 * v2) + v1) + v3) ∧ (((8 * v2) + v1) + v3) < 64 then
  if pm_r32 (v1 + v2) then
  if pm_r32 (8 * (v1 + v2)) then
  if pm_r32 ((8 * (v1 + v2)) + v3) then
  if pm_r32 (v1 + ((v2 - v3) + v1)) then
  if 0 ≤ ((8 * (v1 + v2)) + v3) ∧ ((8 * (v1 + v2)) + v3) < 64 then
  if pm_r32 (v1 + v2) then
  if pm_r32 (8 * (v1 + v2)) then
  if pm_r32 ((8 * (v1 + v2)) + v1) then
  if pm_r32 (((8 * (v1 + v2)) + v1) + v3) then
  if 0 ≤ (((8 * (v1 + v2)) + v1) + v3) ∧ (((8 * (v1 + v2)) + v1) + v3) < 64 then
  if pm_r32 (v3 + 1) then
  f_G_draftFlips_9 X v1 v2 (v3 + 1) (pm_up (pm_up (pm_up (pm_up I 5 ((8 * v2) + v3) (v2 + v3)) 5 (((8 * v2) + v1) + v3) (v1 + (v2 + v3))) 5 ((8 * (v1 + v2)) + v3) (v1 + ((v2 - v3) + v1))) 5 (((8 * (v1 + v2)) + v1) + v3) ((v2 - v3) + v1))
  else none
  else none
  else none
  else none
  else none
  else none
  else none
  else none
  else none
  else none
  else none
  else none
  else none
  else none
  else none
  else none
  else none
  else none
  else none
  else none
  else none
  else if pm_r32 (v2 - v3) then
  if pm_r32 (8 * v2) then
  if pm_r32 ((8 * v2) + v3) then
  if 0 ≤ ((8 * v2) + v3) ∧ ((8 * v2) + v3) < 64 then
  if pm_r32 (8 * v2) then
  if pm_r32 ((8 * v2) + v1) then
  if pm_r32 (((8 * v2) + v1) + v3) then
  if pm_r32 (v1 + (v2 + v3)) then
  if 0 ≤ (((8 * v2) + v1) + v3) ∧ (((8 * v2) + v1) + v3) < 64 then
  if pm_r32 (v1 + v2) then
  if pm_r32 (8 * (v1 + v2)) then
  if pm_r32 ((8 * (v1 + v2)) + v3) then
  if pm_r32 (v1 + (v2 - v3)) then
  if 0 ≤ ((8 * (v1 + v2)) + v3) ∧ ((8 * (v1 + v2)) + v3) < 64 then
  if pm_r32 (v1 + v2) then
  if pm_r32 (8 * (v1 + v2)) then
  if pm_r32 ((8 * (v1 + v2)) + v1) then
  if pm_r32 (((8 * (v1 + v2)) + v1) + v3) then
  if 0 ≤ (((8 * (v1 + v2)) + v1) + v3) ∧ (((8 * (v1 + v2)) + v1) + v3) < 64 then
  if pm_r32 (v3 + 1) then
  f_G_draftFlips_9 X v1 v2 (v3 + 1) (pm_up (pm_up (pm_up (pm_up I 5 ((8 * v2) + v3) (v2 + v3)) 5 (((8 * v2) + v1) + v3) (v1 + (v2 + v3))) 5 ((8 * (v1 + v2)) + v3) (v1 + (v2 - v3))) 5 (((8 * (v1 + v2)) + v1) + v3) (v2 - v3))
  else none
  else none
  else none
  else none
  else none
  else none
  else none
  else none
  else none
  else none
  else none
  else none
  else none
  else none
  else none
  else none
  else none
  else none
  else none
  else none
  else none
  else if pm_r32 (v2 + v3) then
  if pm_r32 ((v2 + v3) - v1) then
  if v2 < v3 then
  if pm_r32 (v2 - v3) then
  if pm_r32 ((v2 - v3) + v1) then
  if pm_r32 (8 * v2) then
  if pm_r32 ((8 * v2) + v3) then
  if 0 ≤ ((8 * v2) + v3) ∧ ((8 * v2) + v3) < 64 then
  if pm_r32 (8 * v2) then
  if pm_r32 ((8 * v2) + v1) then
  if pm_r32 (((8 * v2) + v1) + v3) then
  if pm_r32 (v1 + ((v2 + v3) - v1)) then
  if 0 ≤ (((8 * v2) + v1) + v3) ∧ (((8 * v2) + v1) + v3) < 64 then
  if pm_r32 (v1 + v2) then
  if pm_r32 (8 * (v1 + v2)) then
  if pm_r32 ((8 * (v1 + v2)) + v3) then
  if pm_r32 (v1 + ((v2 - v3) + v1)) then
  if 0 ≤ ((8 * (v1 + v2)) + v3) ∧ ((8 * (v1 + v2)) + v3) < 64 then
  if pm_r32 (v1 + v2) then
  if pm_r32 (8 * (v1 + v2)) then
  if pm_r32 ((8 * (v1 + v2)) + v1) then
  if pm_r32 (((8 * (v1 + v2)) + v1) + v3) then
  if 0 ≤ (((8 * (v1 + v2)) + v1) + v3) ∧ (((8 * (v1 + v2)) + v1) + v3) < 64 then
  if pm_r32 (v3 + 1) then
  f_G_draftFlips_9 X v1 v2 (v3 + 1) (pm_up (pm_up (pm_up (pm_up I 5 ((8 * v2) + v3) ((v2 + v3) - v1)) 5 (((8 * v2) + v1) + v3) (v1 + ((v2 + v3) - v1))) 5 ((8 * (v1 + v2)) + v3) (v1 + ((v2 - v3) + v1))) 5 (((8 * (v1 + v2)) + v1) + v3) ((v2 - v3) + v1))
  else none
  else none
  else none
  else none
  else none
  else none
  else none
  else none
  else none
  else none
  else none
  else none
  else none
  else none
  else none
  else none
  else none
  else none
  else none
  else none
  else none
  else if pm_r32 (v2 - v3) then
  if pm_r32 (8 * v2) then
  if pm_r32 ((8 * v2) + v3) then
  if 0 ≤ ((8 * v2) + v3) ∧ ((8 * v2) + v3) < 64 then
  if pm_r32 (8 * v2) then
  if pm_r32 ((8 * v2) + v1) then
  if pm_r32 (((8 * v2) + v1) + v3) then
  if pm_r32 (v1 + ((v2 + v3) - v1)) then
  if 0 ≤ (((8 * v2) + v1) + v3) ∧ (((8 * v2) + v1) + v3) < 64 then
  if pm_r32 (v1 + v2) then
  if pm_r32 (8 * (v1 + v2)) then
  if pm_r32 ((8 * (v1 + v2)) + v3) then
  if pm_r32 (v1 + (v2 - v3)) then
  if 0 ≤ ((8 * (v1 + v2)) + v3) ∧ ((8 * (v1 + v2)) + v3) < 64 then
  if pm_r32 (v1 + v2) then
  if pm_r32 (8 * (v1 + v2)) then
  if pm_r32 ((8 * (v1 + v2)) + v1) then
  if pm_r32 (((8 * (v1 + v2)) + v1) + v3) then
  if 0 ≤ (((8 * (v1 + v2)) + v1) + v3) ∧ (((8 * (v1 + v2)) + v1) + v3) < 64 then
  if pm_r32 (v3 + 1) then
  f_G_draftFlips_9 X v1 v2 (v3 + 1) (pm_up (pm_up (pm_up (pm_up I 5 ((8 * v2) + v3) ((v2 + v3) - v1)) 5 (((8 * v2) + v1) + v3) (v1 + ((v2 + v3) - v1))) 5 ((8 * (v1 + v2)) + v3) (v1 + (v2 - v3))) 5 (((8 * (v1 + v2)) + v1) + v3) (v2 - v3))
  else none
  else none
  else none
  else none
  else none
  else none
  else none
  else none
  else none
  else none
  else none
  else none
  else none
  else none
  else none
  else none
  else none
  else none
  else none
  else none
  else none
  else none
  else none
  else if pm_r32 (v2 + 1) then
  f_G_draftFlips_2 X v1 (v2 + 1) I
  else none := (pm_seg pm_T_ct (pm_env X) [0, 2, 9] 75 12 0 9 [some (.inr (.inr 4)), some (.inl v1), some (.inl v2), some (.inl v3), none, none] [] I).trans rfl
set_option maxRecDepth 100000 in
theorem e_G_draftCrossed (X : pm_XT)  (I : pm_I) : f_G_draftCrossed X  I =
  f_G_draftCrossed_2 X 0 I := (pm_seg pm_T_ct (pm_env X) [0, 2, 10] 4 13 0 0 [some (.inr (.inr 4)), none, none, none] [] I).trans rfl
set_option maxRecDepth 100000 in
theorem e_G_draftCrossed_2 (X : pm_XT) (v1 : Int) (I : pm_I) : f_G_draftCrossed_2 X v1 I =
  if v1 < 8 then
  f_G_draftCrossed_10 X v1 0 I
  else some (0, I) := (pm_seg pm_T_ct (pm_env X) [0, 2, 10] 7 13 0 2 [some (.inr (.inr 4)), some (.inl v1), none, none] [] I).trans rfl
set_option maxRecDepth 100000 in
theorem e_G_draftCrossed_10 (X : pm_XT) (v1 : Int) (v2 : Int) (I : pm_I) : f_G_draftCrossed_10 X v1 v2 I =
  if v2 < 8 then
  if pm_r32 (4 * (pm_and v1 3)) then
  if pm_r32 ((4 * (pm_and v1 3)) + (pm_and v2 3)) then
  if 0 ≤ ((4 * (pm_and v1 3)) + (pm_and v2 3)) ∧ ((4 * (pm_and v1 3)) + (pm_and v2 3)) < 16 then
  if pm_r32 (8 * v1) then
  if pm_r32 ((8 * v1) + v2) then
  if 0 ≤ ((8 * v1) + v2) ∧ ((8 * v1) + v2) < 64 then
  if pm_r32 (v2 + 1) then
  f_G_draftCrossed_10 X v1 (v2 + 1) (pm_up I 5 ((8 * v1) + v2) (pm_xor (pm_xor (pm_xv X.1 1 ((4 * (pm_and v1 3)) + (pm_and v2 3))) (pm_and v1 4)) (pm_and v2 4)))
  else none
  else none
  else none
  else none
  else none
  else none
  else none
  else if pm_r32 (v1 + 1) then
  f_G_draftCrossed_2 X (v1 + 1) I
  else none := (pm_seg pm_T_ct (pm_env X) [0, 2, 10] 36 13 0 10 [some (.inr (.inr 4)), some (.inl v1), some (.inl v2), none] [] I).trans rfl
set_option maxRecDepth 100000 in
theorem e_G_draftFault (X : pm_XT) (v1 : Int) (I : pm_I) : f_G_draftFault X v1 I =
  f_G_draftFault_2 X v1 0 I := (pm_seg pm_T_ct (pm_env X) [0, 2, 41] 4 14 2 0 [some (.inr (.inr 4)), some (.inl v1), none] [] I).trans rfl
set_option maxRecDepth 100000 in
theorem e_G_draftFault_2 (X : pm_XT) (v1 : Int) (v2 : Int) (I : pm_I) : f_G_draftFault_2 X v1 v2 I =
  if v2 < v1 then
  (f_G_drafted X 0 v2 I).bind (fun x1 =>
  if x1.1 = v2 then
  (f_G_drafted X v2 0 x1.2).bind (fun x2 =>
  if x2.1 = v2 then
  if pm_r32 (v2 + 1) then
  f_G_draftFault_2 X v1 (v2 + 1) x2.2
  else none
  else if pm_r32 ((-200) - v2) then
  some (((-200) - v2), x2.2)
  else none)
  else if pm_r32 ((-200) - v2) then
  some (((-200) - v2), x1.2)
  else none)
  else f_G_draftFault_41 X v1 0 I := (pm_seg pm_T_ct (pm_env X) [0, 2, 41] 20 14 2 2 [some (.inr (.inr 4)), some (.inl v1), some (.inl v2)] [] I).trans rfl
set_option maxRecDepth 100000 in
theorem e_G_draftFault_41 (X : pm_XT) (v1 : Int) (v2 : Int) (I : pm_I) : f_G_draftFault_41 X v1 v2 I =
  if v2 < v1 then
  (f_G_draftHasBack X v2 v1 I).bind (fun x1 =>
  if x1.1 = 0 then
  if pm_r32 ((-300) - v2) then
  some (((-300) - v2), x1.2)
  else none
  else if pm_r32 (v2 + 1) then
  f_G_draftFault_41 X v1 (v2 + 1) x1.2
  else none)
  else (f_G_draftJoinFault X v1 I).bind (fun x2 =>
  some (x2.1, x2.2)) := (pm_seg pm_T_ct (pm_env X) [0, 2, 41] 13 14 2 41 [some (.inr (.inr 4)), some (.inl v1), some (.inl v2)] [] I).trans rfl
set_option maxRecDepth 100000 in
theorem e_G_drafted (X : pm_XT) (v1 : Int) (v2 : Int) (I : pm_I) : f_G_drafted X v1 v2 I =
  if pm_r32 (8 * v1) then
  if pm_r32 ((8 * v1) + v2) then
  if 0 ≤ ((8 * v1) + v2) ∧ ((8 * v1) + v2) < 64 then
  some ((I 5 ((8 * v1) + v2)), I)
  else none
  else none
  else none := (pm_seg pm_T_ct (pm_env X) [0] 10 15 0 0 [some (.inr (.inr 4)), some (.inl v1), some (.inl v2)] [] I).trans rfl
set_option maxRecDepth 100000 in
theorem e_G_draftHasBack (X : pm_XT) (v1 : Int) (v2 : Int) (I : pm_I) : f_G_draftHasBack X v1 v2 I =
  f_G_draftHasBack_2 X v1 v2 0 I := (pm_seg pm_T_ct (pm_env X) [0, 2] 4 16 1 0 [some (.inr (.inr 4)), some (.inl v1), some (.inl v2), none] [] I).trans rfl
set_option maxRecDepth 100000 in
theorem e_G_draftHasBack_2 (X : pm_XT) (v1 : Int) (v2 : Int) (v3 : Int) (I : pm_I) : f_G_draftHasBack_2 X v1 v2 v3 I =
  if v3 < v2 then
  (f_G_drafted X v1 v3 I).bind (fun x1 =>
  if x1.1 = 0 then
  (f_G_drafted X v3 v1 x1.2).bind (fun x2 =>
  if x2.1 = 0 then
  some (1, x2.2)
  else if pm_r32 (v3 + 1) then
  f_G_draftHasBack_2 X v1 v2 (v3 + 1) x2.2
  else none)
  else if pm_r32 (v3 + 1) then
  f_G_draftHasBack_2 X v1 v2 (v3 + 1) x1.2
  else none)
  else some (0, I) := (pm_seg pm_T_ct (pm_env X) [0, 2] 17 16 1 2 [some (.inr (.inr 4)), some (.inl v1), some (.inl v2), some (.inl v3)] [] I).trans rfl
set_option maxRecDepth 100000 in
theorem e_G_draftJoinFault (X : pm_XT) (v1 : Int) (I : pm_I) : f_G_draftJoinFault X v1 I =
  f_G_draftJoinFault_2 X v1 0 I := (pm_seg pm_T_ct (pm_env X) [0, 2, 9, 17] 4 17 1 0 [some (.inr (.inr 4)), some (.inl v1), none, none, none] [] I).trans rfl
set_option maxRecDepth 100000 in
theorem e_G_draftJoinFault_2 (X : pm_XT) (v1 : Int) (v2 : Int) (I : pm_I) : f_G_draftJoinFault_2 X v1 v2 I =
  if v2 < v1 then
  f_G_draftJoinFault_9 X v1 v2 0 I
  else some (0, I) := (pm_seg pm_T_ct (pm_env X) [0, 2, 9, 17] 7 17 1 2 [some (.inr (.inr 4)), some (.inl v1), some (.inl v2), none, none] [] I).trans rfl
set_option maxRecDepth 100000 in
theorem e_G_draftJoinFault_9 (X : pm_XT) (v1 : Int) (v2 : Int) (v3 : Int) (I : pm_I) : f_G_draftJoinFault_9 X v1 v2 v3 I =
  if v3 < v1 then
  f_G_draftJoinFault_17 X v1 v2 v3 0 I
  else if pm_r32 (v2 + 1) then
  f_G_draftJoinFault_2 X v1 (v2 + 1) I
  else none := (pm_seg pm_T_ct (pm_env X) [0, 2, 9, 17] 7 17 1 9 [some (.inr (.inr 4)), some (.inl v1), some (.inl v2), some (.inl v3), none] [] I).trans rfl
set_option maxRecDepth 100000 in
theorem e_G_draftJoinFault_17 (X : pm_XT) (v1 : Int) (v2 : Int) (v3 : Int) (v4 : Int) (I : pm_I) : f_G_draftJoinFault_17 X v1 v2 v3 v4 I =
  if v4 < v1 then
  (f_G_drafted X v2 v3 I).bind (fun x1 =>
  (f_G_drafted X x1.1 v4 x1.2).bind (fun x2 =>
  (f_G_drafted X v3 v4 x2.2).bind (fun x3 =>
  (f_G_drafted X v2 x3.1 x3.2).bind (fun x4 =>
  if x2.1 = x4.1 then
  if pm_r32 (v4 + 1) then
  f_G_draftJoinFault_17 X v1 v2 v3 (v4 + 1) x4.2
  else none
  else if pm_r32 (64 * v2) then
  if pm_r32 (8 * v3) then
  if pm_r32 ((64 * v2) + (8 * v3)) then
  if pm_r32 (((64 * v2) + (8 * v3)) + v4) then
  if pm_r32 ((-1000) - (((64 * v2) + (8 * v3)) + v4)) then
  some (((-1000) - (((64 * v2) + (8 * v3)) + v4)), x4.2)
  else none
  else none
  else none
  else none
  else none))))
  else if pm_r32 (v3 + 1) then
  f_G_draftJoinFault_9 X v1 v2 (v3 + 1) I
  else none := (pm_seg pm_T_ct (pm_env X) [0, 2, 9, 17] 31 17 1 17 [some (.inr (.inr 4)), some (.inl v1), some (.inl v2), some (.inl v3), some (.inl v4)] [] I).trans rfl
set_option maxRecDepth 100000 in
theorem e_G_adopt (X : pm_XT) (v1 : Int) (I : pm_I) : f_G_adopt X v1 I =
  f_G_adopt_25 X v1 0 (pm_cp (pm_up I 4 0 v1) 5 0 6 0 64) := (pm_seg pm_T_ct (pm_env X) [0, 25, 56] 17 18 2 0 [some (.inr (.inr 4)), some (.inl v1), none] [] I).trans rfl
set_option maxRecDepth 100000 in
theorem e_G_adopt_25 (X : pm_XT) (v1 : Int) (v2 : Int) (I : pm_I) : f_G_adopt_25 X v1 v2 I =
  if v2 < v1 then
  if 0 ≤ v2 ∧ v2 < 8 then
  (f_G_findBack X v2 (pm_up I 9 v2 1)).bind (fun x1 =>
  if 0 ≤ v2 ∧ v2 < 8 then
  if pm_r32 (v2 + 1) then
  f_G_adopt_25 X v1 (v2 + 1) (pm_up x1.2 7 v2 x1.1)
  else none
  else none)
  else none
  else f_G_adopt_56 X v1 0 I := (pm_seg pm_T_ct (pm_env X) [0, 25, 56] 19 18 2 25 [some (.inr (.inr 4)), some (.inl v1), some (.inl v2)] [] I).trans rfl
set_option maxRecDepth 100000 in
theorem e_G_adopt_56 (X : pm_XT) (v1 : Int) (v2 : Int) (I : pm_I) : f_G_adopt_56 X v1 v2 I =
  if v2 < v1 then
  (f_G_findClass X v2 I).bind (fun x1 =>
  if 0 ≤ v2 ∧ v2 < 8 then
  if pm_r32 (v2 + 1) then
  f_G_adopt_56 X v1 (v2 + 1) (pm_up x1.2 8 v2 x1.1)
  else none
  else none)
  else some (0, I) := (pm_seg pm_T_ct (pm_env X) [0, 25, 56] 14 18 2 56 [some (.inr (.inr 4)), some (.inl v1), some (.inl v2)] [] I).trans rfl
set_option maxRecDepth 100000 in
theorem e_G_product (X : pm_XT) (v1 : Int) (v2 : Int) (I : pm_I) : f_G_product X v1 v2 I =
  if pm_r32 (8 * v1) then
  if pm_r32 ((8 * v1) + v2) then
  if 0 ≤ ((8 * v1) + v2) ∧ ((8 * v1) + v2) < 64 then
  some ((I 6 ((8 * v1) + v2)), I)
  else none
  else none
  else none := (pm_seg pm_T_ct (pm_env X) [0] 10 19 0 0 [some (.inr (.inr 4)), some (.inl v1), some (.inl v2)] [] I).trans rfl
set_option maxRecDepth 100000 in
theorem e_G_findBack (X : pm_XT) (v1 : Int) (I : pm_I) : f_G_findBack X v1 I =
  f_G_findBack_2 X v1 0 I := (pm_seg pm_T_ct (pm_env X) [0, 2] 4 20 1 0 [some (.inr (.inr 4)), some (.inl v1), none] [] I).trans rfl
set_option maxRecDepth 100000 in
theorem e_G_findBack_2 (X : pm_XT) (v1 : Int) (v2 : Int) (I : pm_I) : f_G_findBack_2 X v1 v2 I =
  if v2 < (I 4 0) then
  (f_G_product X v1 v2 I).bind (fun x1 =>
  if x1.1 = 0 then
  some (v2, x1.2)
  else if pm_r32 (v2 + 1) then
  f_G_findBack_2 X v1 (v2 + 1) x1.2
  else none)
  else some (0, I) := (pm_seg pm_T_ct (pm_env X) [0, 2] 13 20 1 2 [some (.inr (.inr 4)), some (.inl v1), some (.inl v2)] [] I).trans rfl
set_option maxRecDepth 100000 in
theorem e_G_findClass (X : pm_XT) (v1 : Int) (I : pm_I) : f_G_findClass X v1 I =
  f_G_findClass_4 X v1 v1 0 I := (pm_seg pm_T_ct (pm_env X) [0, 4] 6 21 1 0 [some (.inr (.inr 4)), some (.inl v1), none, none] [] I).trans rfl
set_option maxRecDepth 100000 in
theorem e_G_findClass_4 (X : pm_XT) (v1 : Int) (v2 : Int) (v3 : Int) (I : pm_I) : f_G_findClass_4 X v1 v2 v3 I =
  if v3 < (I 4 0) then
  (f_G_product X v3 v1 I).bind (fun x1 =>
  if 0 ≤ v3 ∧ v3 < 8 then
  (f_G_product X x1.1 (x1.2 7 v3) x1.2).bind (fun x2 =>
  if pm_r32 (v3 + 1) then
  f_G_findClass_4 X v1 (min v2 x2.1) (v3 + 1) x2.2
  else none)
  else none)
  else some (v2, I) := (pm_seg pm_T_ct (pm_env X) [0, 4] 21 21 1 4 [some (.inr (.inr 4)), some (.inl v1), some (.inl v2), some (.inl v3)] [] I).trans rfl
set_option maxRecDepth 100000 in
theorem e_G_orderOf (X : pm_XT) (v1 : Int) (I : pm_I) : f_G_orderOf X v1 I =
  f_G_orderOf_4 X v1 v1 1 I := (pm_seg pm_T_ct (pm_env X) [0, 4] 6 22 1 0 [some (.inr (.inr 4)), some (.inl v1), none, none] [] I).trans rfl
set_option maxRecDepth 100000 in
theorem e_G_orderOf_4 (X : pm_XT) (v1 : Int) (v2 : Int) (v3 : Int) (I : pm_I) : f_G_orderOf_4 X v1 v2 v3 I =
  if v2 = 0 then
  some (v3, I)
  else if v3 < (I 4 0) then
  (f_G_product X v2 v1 I).bind (fun x1 =>
  if pm_r32 (v3 + 1) then
  f_G_orderOf_4 X v1 x1.1 (v3 + 1) x1.2
  else none)
  else some (v3, I) := (pm_seg pm_T_ct (pm_env X) [0, 4] 15 22 1 4 [some (.inr (.inr 4)), some (.inl v1), some (.inl v2), some (.inl v3)] [] I).trans rfl
set_option maxRecDepth 100000 in
theorem e_G_classSize (X : pm_XT) (v1 : Int) (I : pm_I) : f_G_classSize X v1 I =
  f_G_classSize_4 X v1 0 0 I := (pm_seg pm_T_ct (pm_env X) [0, 4] 6 23 0 0 [some (.inr (.inr 4)), some (.inl v1), none, none] [] I).trans rfl
set_option maxRecDepth 100000 in
theorem e_G_classSize_4 (X : pm_XT) (v1 : Int) (v2 : Int) (v3 : Int) (I : pm_I) : f_G_classSize_4 X v1 v2 v3 I =
  if v3 < (I 4 0) then
  if 0 ≤ v3 ∧ v3 < 8 then
  if 0 ≤ v1 ∧ v1 < 8 then
  if (I 8 v3) = (I 8 v1) then
  if pm_r32 (v2 + 1) then
  if pm_r32 (v3 + 1) then
  f_G_classSize_4 X v1 (v2 + 1) (v3 + 1) I
  else none
  else none
  else if pm_r32 (v3 + 1) then
  f_G_classSize_4 X v1 v2 (v3 + 1) I
  else none
  else none
  else none
  else some (v2, I) := (pm_seg pm_T_ct (pm_env X) [0, 4] 18 23 0 4 [some (.inr (.inr 4)), some (.inl v1), some (.inl v2), some (.inl v3)] [] I).trans rfl
set_option maxRecDepth 100000 in
theorem e_G_classesMany (X : pm_XT)  (I : pm_I) : f_G_classesMany X  I =
  f_G_classesMany_4 X 0 0 I := (pm_seg pm_T_ct (pm_env X) [0, 4] 6 24 0 0 [some (.inr (.inr 4)), none, none] [] I).trans rfl
set_option maxRecDepth 100000 in
theorem e_G_classesMany_4 (X : pm_XT) (v1 : Int) (v2 : Int) (I : pm_I) : f_G_classesMany_4 X v1 v2 I =
  if v2 < (I 4 0) then
  if 0 ≤ v2 ∧ v2 < 8 then
  if (I 8 v2) = v2 then
  if pm_r32 (v1 + 1) then
  if pm_r32 (v2 + 1) then
  f_G_classesMany_4 X (v1 + 1) (v2 + 1) I
  else none
  else none
  else if pm_r32 (v2 + 1) then
  f_G_classesMany_4 X v1 (v2 + 1) I
  else none
  else none
  else some (v1, I) := (pm_seg pm_T_ct (pm_env X) [0, 4] 15 24 0 4 [some (.inr (.inr 4)), some (.inl v1), some (.inl v2)] [] I).trans rfl
set_option maxRecDepth 100000 in
theorem e_G_alikeWith (X : pm_XT) (v1 : Int) (I : pm_I) : f_G_alikeWith X v1 I =
  f_G_alikeWith_4 X v1 0 0 I := (pm_seg pm_T_ct (pm_env X) [0, 4] 6 25 1 0 [some (.inr (.inr 4)), some (.inl v1), none, none] [] I).trans rfl
set_option maxRecDepth 100000 in
theorem e_G_alikeWith_4 (X : pm_XT) (v1 : Int) (v2 : Int) (v3 : Int) (I : pm_I) : f_G_alikeWith_4 X v1 v2 v3 I =
  if v3 < (I 4 0) then
  (f_G_product X v1 v3 I).bind (fun x1 =>
  (f_G_product X v3 v1 x1.2).bind (fun x2 =>
  if x1.1 = x2.1 then
  if pm_r32 (v2 + 1) then
  if pm_r32 (v3 + 1) then
  f_G_alikeWith_4 X v1 (v2 + 1) (v3 + 1) x2.2
  else none
  else none
  else if pm_r32 (v3 + 1) then
  f_G_alikeWith_4 X v1 v2 (v3 + 1) x2.2
  else none))
  else some (v2, I) := (pm_seg pm_T_ct (pm_env X) [0, 4] 18 25 1 4 [some (.inr (.inr 4)), some (.inl v1), some (.inl v2), some (.inl v3)] [] I).trans rfl
set_option maxRecDepth 100000 in
theorem e_G_alikeWithAll (X : pm_XT)  (I : pm_I) : f_G_alikeWithAll X  I =
  f_G_alikeWithAll_4 X 0 0 I := (pm_seg pm_T_ct (pm_env X) [0, 4] 6 26 2 0 [some (.inr (.inr 4)), none, none] [] I).trans rfl
set_option maxRecDepth 100000 in
theorem e_G_alikeWithAll_4 (X : pm_XT) (v1 : Int) (v2 : Int) (I : pm_I) : f_G_alikeWithAll_4 X v1 v2 I =
  if v2 < (I 4 0) then
  (f_G_alikeWith X v2 I).bind (fun x1 =>
  if x1.1 = (x1.2 4 0) then
  if pm_r32 (v1 + 1) then
  if pm_r32 (v2 + 1) then
  f_G_alikeWithAll_4 X (v1 + 1) (v2 + 1) x1.2
  else none
  else none
  else if pm_r32 (v2 + 1) then
  f_G_alikeWithAll_4 X v1 (v2 + 1) x1.2
  else none)
  else some (v1, I) := (pm_seg pm_T_ct (pm_env X) [0, 4] 15 26 2 4 [some (.inr (.inr 4)), some (.inl v1), some (.inl v2)] [] I).trans rfl
set_option maxRecDepth 100000 in
theorem e_G_alikePairs (X : pm_XT)  (I : pm_I) : f_G_alikePairs X  I =
  f_G_alikePairs_4 X 0 0 I := (pm_seg pm_T_ct (pm_env X) [0, 4] 6 27 2 0 [some (.inr (.inr 4)), none, none] [] I).trans rfl
set_option maxRecDepth 100000 in
theorem e_G_alikePairs_4 (X : pm_XT) (v1 : Int) (v2 : Int) (I : pm_I) : f_G_alikePairs_4 X v1 v2 I =
  if v2 < (I 4 0) then
  (f_G_alikeWith X v2 I).bind (fun x1 =>
  if pm_r32 (v1 + x1.1) then
  if pm_r32 (v2 + 1) then
  f_G_alikePairs_4 X (v1 + x1.1) (v2 + 1) x1.2
  else none
  else none)
  else some (v1, I) := (pm_seg pm_T_ct (pm_env X) [0, 4] 14 27 2 4 [some (.inr (.inr 4)), some (.inl v1), some (.inl v2)] [] I).trans rfl
set_option maxRecDepth 100000 in
theorem e_G_giveWorth (X : pm_XT) (v1 : Int) (v2 : Int) (I : pm_I) : f_G_giveWorth X v1 v2 I =
  f_G_giveWorth_2 X v1 v2 0 I := (pm_seg pm_T_ct (pm_env X) [0, 2] 4 28 0 0 [some (.inr (.inr 4)), some (.inl v1), some (.inl v2), none] [] I).trans rfl
set_option maxRecDepth 100000 in
theorem e_G_giveWorth_2 (X : pm_XT) (v1 : Int) (v2 : Int) (v3 : Int) (I : pm_I) : f_G_giveWorth_2 X v1 v2 v3 I =
  if v3 < (I 4 0) then
  if 0 ≤ v3 ∧ v3 < 8 then
  if 0 ≤ v1 ∧ v1 < 8 then
  if (I 8 v3) = (I 8 v1) then
  if 0 ≤ v3 ∧ v3 < 8 then
  if pm_r32 (v3 + 1) then
  f_G_giveWorth_2 X v1 v2 (v3 + 1) (pm_up I 9 v3 v2)
  else none
  else none
  else if pm_r32 (v3 + 1) then
  f_G_giveWorth_2 X v1 v2 (v3 + 1) I
  else none
  else none
  else none
  else some (0, I) := (pm_seg pm_T_ct (pm_env X) [0, 2] 22 28 0 2 [some (.inr (.inr 4)), some (.inl v1), some (.inl v2), some (.inl v3)] [] I).trans rfl
set_option maxRecDepth 100000 in
theorem e_S_renew (X : pm_XT) (r0 : Nat) (v1 : Int) (v2 : Int) (I : pm_I) : f_S_renew X r0 v1 v2 I =
  bif Nat.beq (pm_kd r0) 3 then
  bif Nat.beq (pm_kd r0) 3 then
  bif Nat.beq (pm_kd r0) 3 then
  f_S_renew_17 X r0 0 (pm_up (pm_up (pm_up I r0 0 1) r0 2 v1) r0 1 v2)
  else none
  else none
  else none := (pm_seg pm_T_ct (pm_env X) [0, 17] 13 29 0 0 [some (.inr (.inr r0)), some (.inl v1), some (.inl v2), none] [] I).trans rfl
set_option maxRecDepth 100000 in
theorem e_S_renew_17 (X : pm_XT) (r0 : Nat) (v3 : Int) (I : pm_I) : f_S_renew_17 X r0 v3 I =
  if v3 < 64 then
  bif Nat.beq (pm_kd r0) 3 then
  bif Nat.beq (pm_kd (pm_R r0 3)) 8 then
  if 0 ≤ v3 ∧ v3 < pm_ln X.2 (pm_R r0 3) then
  if pm_r32 (v3 + 1) then
  f_S_renew_17 X r0 (v3 + 1) (pm_up I (pm_R r0 3) v3 0)
  else none
  else none
  else none
  else none
  else some (0, I) := (pm_seg pm_T_ct (pm_env X) [0, 17] 12 29 0 17 [some (.inr (.inr r0)), none, none, some (.inl v3)] [] I).trans rfl
set_option maxRecDepth 100000 in
theorem e_S_hasCell (X : pm_XT) (r0 : Nat) (v1 : Int) (I : pm_I) : f_S_hasCell X r0 v1 I =
  if v1 < 0 then
  some (0, I)
  else bif Nat.beq (pm_kd r0) 3 then
  if v1 < (I r0 1) then
  some (1, I)
  else some (0, I)
  else none := (pm_seg pm_T_ct (pm_env X) [0] 10 30 0 0 [some (.inr (.inr r0)), some (.inl v1)] [] I).trans rfl
set_option maxRecDepth 100000 in
theorem e_S_faultAs (X : pm_XT) (r0 : Nat) (v1 : Int) (I : pm_I) : f_S_faultAs X r0 v1 I =
  bif Nat.beq (pm_kd r0) 3 then
  if (I r0 0) = 0 then
  some ((-11), I)
  else bif Nat.beq (pm_kd r0) 3 then
  if (I r0 2) = v1 then
  some (0, I)
  else some ((-13), I)
  else none
  else none := (pm_seg pm_T_ct (pm_env X) [0] 11 31 0 0 [some (.inr (.inr r0)), some (.inl v1)] [] I).trans rfl
set_option maxRecDepth 100000 in
theorem e_S_put (X : pm_XT) (r0 : Nat) (v1 : Int) (v2 : Int) (I : pm_I) : f_S_put X r0 v1 v2 I =
  bif Nat.beq (pm_kd r0) 3 then
  if (I r0 2) = 0 then
  bif Nat.beq (pm_kd r0) 3 then
  bif Nat.beq (pm_kd (pm_R r0 3)) 8 then
  if 0 ≤ v1 ∧ v1 < pm_ln X.2 (pm_R r0 3) then
  some (0, (pm_up I (pm_R r0 3) v1 (pm_i2b v2)))
  else none
  else none
  else none
  else bif Nat.beq (pm_kd r0) 3 then
  if (I r0 2) = 1 then
  bif Nat.beq (pm_kd r0) 3 then
  bif Nat.beq (pm_kd (pm_R r0 3)) 8 then
  if 0 ≤ v1 ∧ v1 < pm_ln X.2 (pm_R r0 3) then
  some (0, (pm_up I (pm_R r0 3) v1 (pm_i2s v2)))
  else none
  else none
  else none
  else bif Nat.beq (pm_kd r0) 3 then
  bif Nat.beq (pm_kd (pm_R r0 3)) 8 then
  if 0 ≤ v1 ∧ v1 < pm_ln X.2 (pm_R r0 3) then
  some (0, (pm_up I (pm_R r0 3) v1 v2))
  else none
  else none
  else none
  else none
  else none := (pm_seg pm_T_ct (pm_env X) [0] 16 32 0 0 [some (.inr (.inr r0)), some (.inl v1), some (.inl v2)] [] I).trans rfl
set_option maxRecDepth 100000 in
theorem e_U_clear (X : pm_XT)  (I : pm_I) : f_U_clear X  I =
  f_U_clear_2 X 0 I := (pm_seg pm_T_ct (pm_env X) [0, 2, 17] 4 33 0 0 [some (.inr (.inr 62)), none, none] [] I).trans rfl
set_option maxRecDepth 100000 in
theorem e_U_clear_2 (X : pm_XT) (v1 : Int) (I : pm_I) : f_U_clear_2 X v1 I =
  if v1 < 8 then
  if 0 ≤ v1 ∧ v1 < 8 then
  f_U_clear_17 X v1 0 (pm_up I 63 v1 0)
  else none
  else some (0, I) := (pm_seg pm_T_ct (pm_env X) [0, 2, 17] 12 33 0 2 [some (.inr (.inr 62)), some (.inl v1), none] [] I).trans rfl
set_option maxRecDepth 100000 in
theorem e_U_clear_17 (X : pm_XT) (v1 : Int) (v2 : Int) (I : pm_I) : f_U_clear_17 X v1 v2 I =
  if v2 < 8 then
  if 0 ≤ v1 ∧ v1 < 8 then
  bif Nat.beq (pm_kd (pm_R 64 (Int.toNat v1))) 8 then
  if 0 ≤ v2 ∧ v2 < pm_ln X.2 (pm_R 64 (Int.toNat v1)) then
  if pm_r32 (v2 + 1) then
  f_U_clear_17 X v1 (v2 + 1) (pm_up I (pm_R 64 (Int.toNat v1)) v2 1)
  else none
  else none
  else none
  else none
  else if pm_r32 (v1 + 1) then
  f_U_clear_2 X (v1 + 1) I
  else none := (pm_seg pm_T_ct (pm_env X) [0, 2, 17] 14 33 0 17 [some (.inr (.inr 62)), some (.inl v1), some (.inl v2)] [] I).trans rfl
set_option maxRecDepth 100000 in
theorem e_U_lookForWorth (X : pm_XT) (v1 : Int) (I : pm_I) : f_U_lookForWorth X v1 I =
  if 0 ≤ v1 ∧ v1 < 8 then
  f_U_lookForWorth_9 X v1 0 (pm_up I 63 v1 1)
  else none := (pm_seg pm_T_ct (pm_env X) [0, 9] 9 34 0 0 [some (.inr (.inr 62)), some (.inl v1), some (.inr (.inr 4)), none] [] I).trans rfl
set_option maxRecDepth 100000 in
theorem e_U_lookForWorth_9 (X : pm_XT) (v1 : Int) (v3 : Int) (I : pm_I) : f_U_lookForWorth_9 X v1 v3 I =
  if v3 < (I 4 0) then
  if 0 ≤ v1 ∧ v1 < 8 then
  if 0 ≤ v3 ∧ v3 < 8 then
  bif Nat.beq (pm_kd (pm_R 64 (Int.toNat v1))) 8 then
  if 0 ≤ v3 ∧ v3 < pm_ln X.2 (pm_R 64 (Int.toNat v1)) then
  if pm_r32 (v3 + 1) then
  f_U_lookForWorth_9 X v1 (v3 + 1) (pm_up I (pm_R 64 (Int.toNat v1)) v3 (I 9 v3))
  else none
  else none
  else none
  else none
  else none
  else some (0, I) := (pm_seg pm_T_ct (pm_env X) [0, 9] 18 34 0 9 [some (.inr (.inr 62)), some (.inl v1), some (.inr (.inr 4)), some (.inl v3)] [] I).trans rfl
set_option maxRecDepth 100000 in
theorem e_U_lookForClass (X : pm_XT) (v1 : Int) (v2 : Int) (I : pm_I) : f_U_lookForClass X v1 v2 I =
  if 0 ≤ v1 ∧ v1 < 8 then
  f_U_lookForClass_10 X v1 v2 0 (pm_up I 63 v1 1)
  else none := (pm_seg pm_T_ct (pm_env X) [0, 10] 9 35 0 0 [some (.inr (.inr 62)), some (.inl v1), some (.inl v2), some (.inr (.inr 4)), none] [] I).trans rfl
set_option maxRecDepth 100000 in
theorem e_U_lookForClass_10 (X : pm_XT) (v1 : Int) (v2 : Int) (v4 : Int) (I : pm_I) : f_U_lookForClass_10 X v1 v2 v4 I =
  if v4 < (I 4 0) then
  if 0 ≤ v4 ∧ v4 < 8 then
  if 0 ≤ v2 ∧ v2 < 8 then
  if (I 8 v4) = (I 8 v2) then
  if pm_r32 (v4 + 1) then
  f_U_lookForClass_10 X v1 v2 (v4 + 1) I
  else none
  else if 0 ≤ v1 ∧ v1 < 8 then
  bif Nat.beq (pm_kd (pm_R 64 (Int.toNat v1))) 8 then
  if 0 ≤ v4 ∧ v4 < pm_ln X.2 (pm_R 64 (Int.toNat v1)) then
  if pm_r32 (v4 + 1) then
  f_U_lookForClass_10 X v1 v2 (v4 + 1) (pm_up I (pm_R 64 (Int.toNat v1)) v4 0)
  else none
  else none
  else none
  else none
  else none
  else none
  else some (0, I) := (pm_seg pm_T_ct (pm_env X) [0, 10] 24 35 0 10 [some (.inr (.inr 62)), some (.inl v1), some (.inl v2), some (.inr (.inr 4)), some (.inl v4)] [] I).trans rfl
set_option maxRecDepth 100000 in
theorem e_U_lookForStill (X : pm_XT) (v1 : Int) (I : pm_I) : f_U_lookForStill X v1 I =
  if 0 ≤ v1 ∧ v1 < 8 then
  f_U_lookForStill_9 X v1 1 (pm_up I 63 v1 1)
  else none := (pm_seg pm_T_ct (pm_env X) [0, 9] 9 36 0 0 [some (.inr (.inr 62)), some (.inl v1), none] [] I).trans rfl
set_option maxRecDepth 100000 in
theorem e_U_lookForStill_9 (X : pm_XT) (v1 : Int) (v2 : Int) (I : pm_I) : f_U_lookForStill_9 X v1 v2 I =
  if v2 < 8 then
  if 0 ≤ v1 ∧ v1 < 8 then
  bif Nat.beq (pm_kd (pm_R 64 (Int.toNat v1))) 8 then
  if 0 ≤ v2 ∧ v2 < pm_ln X.2 (pm_R 64 (Int.toNat v1)) then
  if pm_r32 (v2 + 1) then
  f_U_lookForStill_9 X v1 (v2 + 1) (pm_up I (pm_R 64 (Int.toNat v1)) v2 0)
  else none
  else none
  else none
  else none
  else some (0, I) := (pm_seg pm_T_ct (pm_env X) [0, 9] 14 36 0 9 [some (.inr (.inr 62)), some (.inl v1), some (.inl v2)] [] I).trans rfl
set_option maxRecDepth 100000 in
theorem e_U_markLines (X : pm_XT)  (I : pm_I) : f_U_markLines X  I =
  f_U_markLines_2 X 0 I := (pm_seg pm_T_ct (pm_env X) [0, 2, 23, 62] 4 37 2 0 [some (.inr (.inr 62)), some (.inr (.inr 18)), some (.inr (.inr 10)), none] [] I).trans rfl
set_option maxRecDepth 100000 in
theorem e_U_markLines_2 (X : pm_XT) (v3 : Int) (I : pm_I) : f_U_markLines_2 X v3 I =
  if v3 < 10 then
  if 0 ≤ v3 ∧ v3 < 10 then
  if pm_r32 (v3 + 1) then
  f_U_markLines_2 X (v3 + 1) (pm_up I 74 v3 0)
  else none
  else none
  else f_U_markLines_23 X 0 I := (pm_seg pm_T_ct (pm_env X) [0, 2, 23, 62] 12 37 2 2 [some (.inr (.inr 62)), some (.inr (.inr 18)), some (.inr (.inr 10)), some (.inl v3)] [] I).trans rfl
set_option maxRecDepth 100000 in
theorem e_U_markLines_23 (X : pm_XT) (v3 : Int) (I : pm_I) : f_U_markLines_23 X v3 I =
  if v3 < 8 then
  if 0 ≤ v3 ∧ v3 < 8 then
  if (I 63 v3) = 0 then
  if pm_r32 (v3 + 1) then
  f_U_markLines_23 X (v3 + 1) I
  else none
  else if 0 ≤ v3 ∧ v3 < 8 then
  bif Nat.beq (pm_kd (pm_R 18 (Int.toNat v3))) 5 then
  (f_W_markLines X (pm_R 18 (Int.toNat v3)) I).bind (fun x1 =>
  if 0 ≤ v3 ∧ v3 < 8 then
  if pm_r32 (v3 + 1) then
  f_U_markLines_23 X (v3 + 1) (pm_up x1.2 73 v3 x1.1)
  else none
  else none)
  else none
  else none
  else none
  else f_U_markLines_62 X 0 I := (pm_seg pm_T_ct (pm_env X) [0, 2, 23, 62] 22 37 2 23 [some (.inr (.inr 62)), some (.inr (.inr 18)), some (.inr (.inr 10)), some (.inl v3)] [] I).trans rfl
set_option maxRecDepth 100000 in
theorem e_U_markLines_62 (X : pm_XT) (v3 : Int) (I : pm_I) : f_U_markLines_62 X v3 I =
  if v3 < 10 then
  if 0 ≤ v3 ∧ v3 < 10 then
  if (I 14 v3) = 0 then
  if 0 ≤ v3 ∧ v3 < 10 then
  if (I 74 v3) = 0 then
  if 0 ≤ v3 ∧ v3 < 10 then
  if pm_r32 (v3 + 1) then
  f_U_markLines_62 X (v3 + 1) (pm_up I 75 v3 1)
  else none
  else none
  else if 0 ≤ v3 ∧ v3 < 10 then
  if pm_r32 (v3 + 1) then
  f_U_markLines_62 X (v3 + 1) (pm_up I 75 v3 0)
  else none
  else none
  else none
  else if 0 ≤ v3 ∧ v3 < 10 then
  if pm_r32 (v3 + 1) then
  f_U_markLines_62 X (v3 + 1) (pm_up I 75 v3 1)
  else none
  else none
  else none
  else some (0, I) := (pm_seg pm_T_ct (pm_env X) [0, 2, 23, 62] 23 37 2 62 [some (.inr (.inr 62)), none, some (.inr (.inr 10)), some (.inl v3)] [] I).trans rfl
set_option maxRecDepth 100000 in
theorem e_U_sumFrom (X : pm_XT) (d : Nat) (v0 : Int) (w1 : Int) (v5 : Int) (I : pm_I) : f_U_sumFrom X d v0 w1 v5 I =
  if v0 < v5 then
  if v0 < 10 then
  if 0 ≤ v0 ∧ v0 < 10 then
  if (I 75 v0) = 0 then
  f_U_sumFrom_40 X d v0 w1 v5 (I 4 0) 0 0 I
  else f_U_sumFrom_40 X d v0 w1 v5 1 0 0 I
  else none
  else some (w1, I)
  else some (w1, I) := (pm_seg pm_T_ct (pm_env X) [0, 40] 20 38 d 0 [some (.inl v0), some (.inr (.inl w1)), none, some (.inr (.inr 62)), some (.inr (.inr 18)), some (.inl v5), some (.inr (.inr 4)), none, none, none, none, none, none] [] I).trans rfl
set_option maxRecDepth 100000 in
theorem e_U_sumFrom_40 (X : pm_XT) (d : Nat) (v0 : Int) (w1 : Int) (v5 : Int) (v7 : Int) (w8 : Int) (v10 : Int) (I : pm_I) : f_U_sumFrom_40 X d v0 w1 v5 v7 w8 v10 I =
  if v10 < v7 then
  if 0 ≤ v0 ∧ v0 < 10 then
  bif Nat.blt 2 d && true then
  (f_U_factorBehind X v0 (pm_up I 76 v0 v10)).bind (fun x1 =>
  if 0 < (pm_w64 (w1 * x1.1)) then
  if pm_r32 (v0 + 1) then
  bif Nat.blt (3 + (10 - ((v0 + 1) : Int)).toNat) d && true then
  (f_U_sumFrom X (3 + (10 - ((v0 + 1) : Int)).toNat) (v0 + 1) (pm_w64 (w1 * x1.1)) v5 x1.2).bind (fun x2 =>
  if pm_r32 (v10 + 1) then
  f_U_sumFrom_40 X d v0 w1 v5 v7 (pm_w64 (w8 + x2.1)) (v10 + 1) x2.2
  else none)
  else none
  else none
  else if (pm_w64 (w1 * x1.1)) = 0 then
  if pm_r32 (v10 + 1) then
  f_U_sumFrom_40 X d v0 w1 v5 v7 w8 (v10 + 1) x1.2
  else none
  else if pm_r32 (v0 + 1) then
  bif Nat.blt (3 + (10 - ((v0 + 1) : Int)).toNat) d && true then
  (f_U_sumFrom X (3 + (10 - ((v0 + 1) : Int)).toNat) (v0 + 1) (pm_w64 (w1 * x1.1)) v5 x1.2).bind (fun x3 =>
  if pm_r32 (v10 + 1) then
  f_U_sumFrom_40 X d v0 w1 v5 v7 (pm_w64 (w8 + x3.1)) (v10 + 1) x3.2
  else none)
  else none
  else none)
  else none
  else none
  else if 0 ≤ v0 ∧ v0 < 10 then
  if (I 75 v0) = 0 then
  some (w8, I)
  else some ((pm_w64 (w8 * (I 4 0))), I)
  else none := (pm_seg pm_T_ct (pm_env X) [0, 40] 36 38 d 40 [some (.inl v0), some (.inr (.inl w1)), none, some (.inr (.inr 62)), some (.inr (.inr 18)), some (.inl v5), some (.inr (.inr 4)), some (.inl v7), some (.inr (.inl w8)), none, some (.inl v10), none, none] [] I).trans rfl
set_option maxRecDepth 100000 in
theorem e_U_factorBehind (X : pm_XT) (v1 : Int) (I : pm_I) : f_U_factorBehind X v1 I =
  f_U_factorBehind_6 X v1 1 0 I := (pm_seg pm_T_ct (pm_env X) [0, 6] 6 39 2 0 [some (.inr (.inr 62)), some (.inl v1), some (.inr (.inr 18)), some (.inr (.inr 4)), none, none, none] [] I).trans rfl
set_option maxRecDepth 100000 in
theorem e_U_factorBehind_6 (X : pm_XT) (v1 : Int) (w4 : Int) (v6 : Int) (I : pm_I) : f_U_factorBehind_6 X v1 w4 v6 I =
  if v6 < 8 then
  if 0 ≤ v6 ∧ v6 < 8 then
  if (I 63 v6) = 0 then
  if pm_r32 (v6 + 1) then
  f_U_factorBehind_6 X v1 w4 (v6 + 1) I
  else none
  else if 0 ≤ v6 ∧ v6 < 8 then
  if (I 73 v6) = v1 then
  if 0 ≤ v6 ∧ v6 < 8 then
  if 0 ≤ v6 ∧ v6 < 8 then
  bif Nat.beq (pm_kd (pm_R 18 (Int.toNat v6))) 5 then
  (f_W_turnWith X (pm_R 18 (Int.toNat v6)) 76 I).bind (fun x1 =>
  bif Nat.beq (pm_kd (pm_R 64 (Int.toNat v6))) 8 then
  if 0 ≤ x1.1 ∧ x1.1 < pm_ln X.2 (pm_R 64 (Int.toNat v6)) then
  if pm_r32 (v6 + 1) then
  f_U_factorBehind_6 X v1 (pm_w64 (w4 * (x1.2 (pm_R 64 (Int.toNat v6)) x1.1))) (v6 + 1) x1.2
  else none
  else none
  else bif Nat.beq (pm_kd (pm_R 64 (Int.toNat v6))) 50 then
  if 0 ≤ x1.1 ∧ x1.1 < pm_ln X.2 (pm_R 64 (Int.toNat v6)) then
  if pm_r32 (v6 + 1) then
  f_U_factorBehind_6 X v1 (pm_w64 (w4 * (pm_xv X.1 (pm_R 64 (Int.toNat v6)) x1.1))) (v6 + 1) x1.2
  else none
  else none
  else none)
  else none
  else none
  else none
  else if pm_r32 (v6 + 1) then
  f_U_factorBehind_6 X v1 w4 (v6 + 1) I
  else none
  else none
  else none
  else some (w4, I) := (pm_seg pm_T_ct (pm_env X) [0, 6] 34 39 2 6 [some (.inr (.inr 62)), some (.inl v1), some (.inr (.inr 18)), some (.inr (.inr 4)), some (.inr (.inl w4)), none, some (.inl v6)] [] I).trans rfl
set_option maxRecDepth 100000 in
theorem e_W_begin (X : pm_XT) (r0 : Nat) (v1 : Int) (I : pm_I) : f_W_begin X r0 v1 I =
  bif Nat.beq (pm_kd r0) 5 then
  bif Nat.beq (pm_kd r0) 5 then
  bif Nat.beq (pm_kd r0) 5 then
  bif Nat.beq (pm_kd r0) 5 then
  some (0, (pm_up (pm_up (pm_up (pm_up I r0 0 v1) r0 1 v1) r0 2 0) r0 3 1))
  else none
  else none
  else none
  else none := (pm_seg pm_T_ct (pm_env X) [0] 14 40 0 0 [some (.inr (.inr r0)), some (.inl v1)] [] I).trans rfl
set_option maxRecDepth 100000 in
theorem e_W_go (X : pm_XT) (r0 : Nat) (v1 : Int) (v2 : Int) (v3 : Int) (I : pm_I) : f_W_go X r0 v1 v2 v3 I =
  bif Nat.beq (pm_kd r0) 5 then
  if (I r0 2) < 6 then
  bif Nat.beq (pm_kd r0) 5 then
  bif Nat.beq (pm_kd r0) 5 then
  bif Nat.beq (pm_kd (pm_R r0 4)) 8 then
  if 0 ≤ (I r0 2) ∧ (I r0 2) < pm_ln X.2 (pm_R r0 4) then
  bif Nat.beq (pm_kd r0) 5 then
  bif Nat.beq (pm_kd r0) 5 then
  bif Nat.beq (pm_kd (pm_R r0 5)) 9 then
  if 0 ≤ ((pm_up I (pm_R r0 4) (I r0 2) v1) r0 2) ∧ ((pm_up I (pm_R r0 4) (I r0 2) v1) r0 2) < pm_ln X.2 (pm_R r0 5) then
  if v2 = 0 ∨ v2 = 1 then
  bif Nat.beq (pm_kd r0) 5 then
  bif Nat.beq (pm_kd r0) 5 then
  if pm_r32 (((pm_up (pm_up (pm_up I (pm_R r0 4) (I r0 2) v1) (pm_R r0 5) ((pm_up I (pm_R r0 4) (I r0 2) v1) r0 2) v2) r0 1 v3) r0 2) + 1) then
  bif Nat.beq (pm_kd r0) 5 then
  some (0, (pm_up (pm_up (pm_up (pm_up I (pm_R r0 4) (I r0 2) v1) (pm_R r0 5) ((pm_up I (pm_R r0 4) (I r0 2) v1) r0 2) v2) r0 1 v3) r0 2 (((pm_up (pm_up (pm_up I (pm_R r0 4) (I r0 2) v1) (pm_R r0 5) ((pm_up I (pm_R r0 4) (I r0 2) v1) r0 2) v2) r0 1 v3) r0 2) + 1)))
  else none
  else none
  else none
  else none
  else none
  else none
  else none
  else none
  else none
  else none
  else none
  else none
  else none
  else some (0, I)
  else none := (pm_seg pm_T_ct (pm_env X) [0] 27 41 0 0 [some (.inr (.inr r0)), some (.inl v1), some (.inl v2), some (.inl v3)] [] I).trans rfl
set_option maxRecDepth 100000 in
theorem e_W_isClosed (X : pm_XT) (r0 : Nat) (I : pm_I) : f_W_isClosed X r0 I =
  bif Nat.beq (pm_kd r0) 5 then
  if 0 < (I r0 2) then
  bif Nat.beq (pm_kd r0) 5 then
  bif Nat.beq (pm_kd r0) 5 then
  if (I r0 0) = (I r0 1) then
  some (1, I)
  else some (0, I)
  else none
  else none
  else some (0, I)
  else none := (pm_seg pm_T_ct (pm_env X) [0] 12 42 0 0 [some (.inr (.inr r0))] [] I).trans rfl
set_option maxRecDepth 100000 in
theorem e_W_weighs (X : pm_XT) (r0 : Nat) (I : pm_I) : f_W_weighs X r0 I =
  bif Nat.beq (pm_kd r0) 5 then
  if (I r0 3) = 0 then
  some (0, I)
  else bif Nat.beq (pm_kd r0) 5 then
  (f_W_isClosed X r0 I).bind (fun x1 =>
  if x1.1 = 0 then
  some (0, x1.2)
  else some (1, x1.2))
  else none
  else none := (pm_seg pm_T_ct (pm_env X) [0] 10 43 1 0 [some (.inr (.inr r0))] [] I).trans rfl
set_option maxRecDepth 100000 in
theorem e_W_turnWith (X : pm_XT) (r0 : Nat) (r1 : Nat) (I : pm_I) : f_W_turnWith X r0 r1 I =
  f_W_turnWith_5 X r0 r1 0 0 I := (pm_seg pm_T_ct (pm_env X) [0, 5] 6 44 1 0 [some (.inr (.inr r0)), some (.inr (.inr r1)), some (.inr (.inr 4)), none, none, none] [] I).trans rfl
set_option maxRecDepth 100000 in
theorem e_W_turnWith_5 (X : pm_XT) (r0 : Nat) (r1 : Nat) (v3 : Int) (v4 : Int) (I : pm_I) : f_W_turnWith_5 X r0 r1 v3 v4 I =
  bif Nat.beq (pm_kd r0) 5 then
  if v4 < (I r0 2) then
  bif Nat.beq (pm_kd r0) 5 then
  bif Nat.beq (pm_kd (pm_R r0 4)) 8 then
  if 0 ≤ v4 ∧ v4 < pm_ln X.2 (pm_R r0 4) then
  bif Nat.beq (pm_kd r1) 8 then
  if 0 ≤ (I (pm_R r0 4) v4) ∧ (I (pm_R r0 4) v4) < pm_ln X.2 r1 then
  bif Nat.beq (pm_kd r0) 5 then
  bif Nat.beq (pm_kd (pm_R r0 5)) 9 then
  if 0 ≤ v4 ∧ v4 < pm_ln X.2 (pm_R r0 5) then
  if (I (pm_R r0 5) v4) = 0 then
  (f_G_product X v3 (I r1 (I (pm_R r0 4) v4)) I).bind (fun x1 =>
  if pm_r32 (v4 + 1) then
  f_W_turnWith_5 X r0 r1 x1.1 (v4 + 1) x1.2
  else none)
  else if 0 ≤ (I r1 (I (pm_R r0 4) v4)) ∧ (I r1 (I (pm_R r0 4) v4)) < 8 then
  (f_G_product X v3 (I 7 (I r1 (I (pm_R r0 4) v4))) I).bind (fun x2 =>
  if pm_r32 (v4 + 1) then
  f_W_turnWith_5 X r0 r1 x2.1 (v4 + 1) x2.2
  else none)
  else none
  else none
  else none
  else none
  else none
  else bif Nat.beq (pm_kd r1) 50 then
  if 0 ≤ (I (pm_R r0 4) v4) ∧ (I (pm_R r0 4) v4) < pm_ln X.2 r1 then
  bif Nat.beq (pm_kd r0) 5 then
  bif Nat.beq (pm_kd (pm_R r0 5)) 9 then
  if 0 ≤ v4 ∧ v4 < pm_ln X.2 (pm_R r0 5) then
  if (I (pm_R r0 5) v4) = 0 then
  (f_G_product X v3 (pm_xv X.1 r1 (I (pm_R r0 4) v4)) I).bind (fun x3 =>
  if pm_r32 (v4 + 1) then
  f_W_turnWith_5 X r0 r1 x3.1 (v4 + 1) x3.2
  else none)
  else if 0 ≤ (pm_xv X.1 r1 (I (pm_R r0 4) v4)) ∧ (pm_xv X.1 r1 (I (pm_R r0 4) v4)) < 8 then
  (f_G_product X v3 (I 7 (pm_xv X.1 r1 (I (pm_R r0 4) v4))) I).bind (fun x4 =>
  if pm_r32 (v4 + 1) then
  f_W_turnWith_5 X r0 r1 x4.1 (v4 + 1) x4.2
  else none)
  else none
  else none
  else none
  else none
  else none
  else none
  else none
  else bif Nat.beq (pm_kd (pm_R r0 4)) 50 then
  if 0 ≤ v4 ∧ v4 < pm_ln X.2 (pm_R r0 4) then
  bif Nat.beq (pm_kd r1) 8 then
  if 0 ≤ (pm_xv X.1 (pm_R r0 4) v4) ∧ (pm_xv X.1 (pm_R r0 4) v4) < pm_ln X.2 r1 then
  bif Nat.beq (pm_kd r0) 5 then
  bif Nat.beq (pm_kd (pm_R r0 5)) 9 then
  if 0 ≤ v4 ∧ v4 < pm_ln X.2 (pm_R r0 5) then
  if (I (pm_R r0 5) v4) = 0 then
  (f_G_product X v3 (I r1 (pm_xv X.1 (pm_R r0 4) v4)) I).bind (fun x5 =>
  if pm_r32 (v4 + 1) then
  f_W_turnWith_5 X r0 r1 x5.1 (v4 + 1) x5.2
  else none)
  else if 0 ≤ (I r1 (pm_xv X.1 (pm_R r0 4) v4)) ∧ (I r1 (pm_xv X.1 (pm_R r0 4) v4)) < 8 then
  (f_G_product X v3 (I 7 (I r1 (pm_xv X.1 (pm_R r0 4) v4))) I).bind (fun x6 =>
  if pm_r32 (v4 + 1) then
  f_W_turnWith_5 X r0 r1 x6.1 (v4 + 1) x6.2
  else none)
  else none
  else none
  else none
  else none
  else none
  else bif Nat.beq (pm_kd r1) 50 then
  if 0 ≤ (pm_xv X.1 (pm_R r0 4) v4) ∧ (pm_xv X.1 (pm_R r0 4) v4) < pm_ln X.2 r1 then
  bif Nat.beq (pm_kd r0) 5 then
  bif Nat.beq (pm_kd (pm_R r0 5)) 9 then
  if 0 ≤ v4 ∧ v4 < pm_ln X.2 (pm_R r0 5) then
  if (I (pm_R r0 5) v4) = 0 then
  (f_G_product X v3 (pm_xv X.1 r1 (pm_xv X.1 (pm_R r0 4) v4)) I).bind (fun x7 =>
  if pm_r32 (v4 + 1) then
  f_W_turnWith_5 X r0 r1 x7.1 (v4 + 1) x7.2
  else none)
  else if 0 ≤ (pm_xv X.1 r1 (pm_xv X.1 (pm_R r0 4) v4)) ∧ (pm_xv X.1 r1 (pm_xv X.1 (pm_R r0 4) v4)) < 8 then
  (f_G_product X v3 (I 7 (pm_xv X.1 r1 (pm_xv X.1 (pm_R r0 4) v4))) I).bind (fun x8 =>
  if pm_r32 (v4 + 1) then
  f_W_turnWith_5 X r0 r1 x8.1 (v4 + 1) x8.2
  else none)
  else none
  else none
  else none
  else none
  else none
  else none
  else none
  else none
  else none
  else some (v3, I)
  else none := (pm_seg pm_T_ct (pm_env X) [0, 5] 29 44 1 5 [some (.inr (.inr r0)), some (.inr (.inr r1)), some (.inr (.inr 4)), some (.inl v3), some (.inl v4), none] [] I).trans rfl
set_option maxRecDepth 100000 in
theorem e_W_markLines (X : pm_XT) (r0 : Nat) (I : pm_I) : f_W_markLines X r0 I =
  f_W_markLines_4 X r0 0 0 I := (pm_seg pm_T_ct (pm_env X) [0, 4] 6 45 1 0 [some (.inr (.inr r0)), some (.inr (.inr 74)), none, none] [] I).trans rfl
set_option maxRecDepth 100000 in
theorem e_W_markLines_4 (X : pm_XT) (r0 : Nat) (v2 : Int) (v3 : Int) (I : pm_I) : f_W_markLines_4 X r0 v2 v3 I =
  bif Nat.beq (pm_kd r0) 5 then
  if v3 < (I r0 2) then
  bif Nat.beq (pm_kd r0) 5 then
  bif Nat.beq (pm_kd (pm_R r0 4)) 8 then
  if 0 ≤ v3 ∧ v3 < pm_ln X.2 (pm_R r0 4) then
  if 0 ≤ (I (pm_R r0 4) v3) ∧ (I (pm_R r0 4) v3) < 10 then
  bif Nat.beq (pm_kd r0) 5 then
  bif Nat.beq (pm_kd (pm_R r0 4)) 8 then
  if 0 ≤ v3 ∧ v3 < pm_ln X.2 (pm_R r0 4) then
  if pm_r32 (v3 + 1) then
  f_W_markLines_4 X r0 (max v2 ((pm_up I 74 (I (pm_R r0 4) v3) 1) (pm_R r0 4) v3)) (v3 + 1) (pm_up I 74 (I (pm_R r0 4) v3) 1)
  else none
  else none
  else bif Nat.beq (pm_kd (pm_R r0 4)) 50 then
  if 0 ≤ v3 ∧ v3 < pm_ln X.2 (pm_R r0 4) then
  if pm_r32 (v3 + 1) then
  f_W_markLines_4 X r0 (max v2 (pm_xv X.1 (pm_R r0 4) v3)) (v3 + 1) (pm_up I 74 (I (pm_R r0 4) v3) 1)
  else none
  else none
  else none
  else none
  else none
  else none
  else bif Nat.beq (pm_kd (pm_R r0 4)) 50 then
  if 0 ≤ v3 ∧ v3 < pm_ln X.2 (pm_R r0 4) then
  if 0 ≤ (pm_xv X.1 (pm_R r0 4) v3) ∧ (pm_xv X.1 (pm_R r0 4) v3) < 10 then
  bif Nat.beq (pm_kd r0) 5 then
  bif Nat.beq (pm_kd (pm_R r0 4)) 8 then
  if 0 ≤ v3 ∧ v3 < pm_ln X.2 (pm_R r0 4) then
  if pm_r32 (v3 + 1) then
  f_W_markLines_4 X r0 (max v2 ((pm_up I 74 (pm_xv X.1 (pm_R r0 4) v3) 1) (pm_R r0 4) v3)) (v3 + 1) (pm_up I 74 (pm_xv X.1 (pm_R r0 4) v3) 1)
  else none
  else none
  else bif Nat.beq (pm_kd (pm_R r0 4)) 50 then
  if 0 ≤ v3 ∧ v3 < pm_ln X.2 (pm_R r0 4) then
  if pm_r32 (v3 + 1) then
  f_W_markLines_4 X r0 (max v2 (pm_xv X.1 (pm_R r0 4) v3)) (v3 + 1) (pm_up I 74 (pm_xv X.1 (pm_R r0 4) v3) 1)
  else none
  else none
  else none
  else none
  else none
  else none
  else none
  else none
  else some (v2, I)
  else none := (pm_seg pm_T_ct (pm_env X) [0, 4] 22 45 1 4 [some (.inr (.inr r0)), some (.inr (.inr 74)), some (.inl v2), some (.inl v3)] [] I).trans rfl
set_option maxRecDepth 100000 in
theorem e_T_group (X : pm_XT) (v1 : Int) (v2 : Int) (I : pm_I) : f_T_group X v1 v2 I =
  if v1 = 0 then
  if v2 < 1 then
  if v1 = 1 then
  if v2 = 3 then
  (f_G_draftFlips X v2 I).bind (fun x1 =>
  if pm_r32 (2 * v2) then
  (f_T_takeDraft X (2 * v2) x1.2).bind (fun x2 =>
  some (x2.1, x2.2))
  else none)
  else if v2 = 4 then
  (f_G_draftFlips X v2 I).bind (fun x3 =>
  if pm_r32 (2 * v2) then
  (f_T_takeDraft X (2 * v2) x3.2).bind (fun x4 =>
  some (x4.1, x4.2))
  else none)
  else if v1 = 2 then
  if v2 = 8 then
  (f_G_draftCrossed X I).bind (fun x5 =>
  (f_T_takeDraft X v2 x5.2).bind (fun x6 =>
  some (x6.1, x6.2)))
  else some ((-1), I)
  else some ((-1), I)
  else if v1 = 2 then
  if v2 = 8 then
  (f_G_draftCrossed X I).bind (fun x7 =>
  (f_T_takeDraft X v2 x7.2).bind (fun x8 =>
  some (x8.1, x8.2)))
  else some ((-1), I)
  else some ((-1), I)
  else if 8 < v2 then
  if v1 = 1 then
  if v2 = 3 then
  (f_G_draftFlips X v2 I).bind (fun x9 =>
  if pm_r32 (2 * v2) then
  (f_T_takeDraft X (2 * v2) x9.2).bind (fun x10 =>
  some (x10.1, x10.2))
  else none)
  else if v2 = 4 then
  (f_G_draftFlips X v2 I).bind (fun x11 =>
  if pm_r32 (2 * v2) then
  (f_T_takeDraft X (2 * v2) x11.2).bind (fun x12 =>
  some (x12.1, x12.2))
  else none)
  else if v1 = 2 then
  if v2 = 8 then
  (f_G_draftCrossed X I).bind (fun x13 =>
  (f_T_takeDraft X v2 x13.2).bind (fun x14 =>
  some (x14.1, x14.2)))
  else some ((-1), I)
  else some ((-1), I)
  else if v1 = 2 then
  if v2 = 8 then
  (f_G_draftCrossed X I).bind (fun x15 =>
  (f_T_takeDraft X v2 x15.2).bind (fun x16 =>
  some (x16.1, x16.2)))
  else some ((-1), I)
  else some ((-1), I)
  else (f_G_draftRing X v2 I).bind (fun x17 =>
  (f_T_takeDraft X v2 x17.2).bind (fun x18 =>
  some (x18.1, x18.2)))
  else if v1 = 1 then
  if v2 = 3 then
  (f_G_draftFlips X v2 I).bind (fun x19 =>
  if pm_r32 (2 * v2) then
  (f_T_takeDraft X (2 * v2) x19.2).bind (fun x20 =>
  some (x20.1, x20.2))
  else none)
  else if v2 = 4 then
  (f_G_draftFlips X v2 I).bind (fun x21 =>
  if pm_r32 (2 * v2) then
  (f_T_takeDraft X (2 * v2) x21.2).bind (fun x22 =>
  some (x22.1, x22.2))
  else none)
  else if v1 = 2 then
  if v2 = 8 then
  (f_G_draftCrossed X I).bind (fun x23 =>
  (f_T_takeDraft X v2 x23.2).bind (fun x24 =>
  some (x24.1, x24.2)))
  else some ((-1), I)
  else some ((-1), I)
  else if v1 = 2 then
  if v2 = 8 then
  (f_G_draftCrossed X I).bind (fun x25 =>
  (f_T_takeDraft X v2 x25.2).bind (fun x26 =>
  some (x26.1, x26.2)))
  else some ((-1), I)
  else some ((-1), I) := (pm_seg pm_T_ct (pm_env X) [0] 31 46 4 0 [some (.inr (.inr 3)), some (.inl v1), some (.inl v2)] [] I).trans rfl
set_option maxRecDepth 100000 in
theorem e_T_read (X : pm_XT) (v1 : Int) (v2 : Int) (v3 : Int) (v4 : Int) (I : pm_I) : f_T_read X v1 v2 v3 v4 I =
  (f_T_isSheet X v1 I).bind (fun x1 =>
  if x1.1 = 0 then
  some ((-1), x1.2)
  else (f_T_isLane X v2 x1.2).bind (fun x2 =>
  if x2.1 = 0 then
  some ((-1), x2.2)
  else if v4 < 1 then
  some ((-1), x2.2)
  else if 8 < v4 then
  some ((-1), x2.2)
  else if 0 ≤ v1 ∧ v1 < 4 then
  bif Nat.beq (pm_kd (pm_R 53 (Int.toNat v1))) 3 then
  (f_S_faultAs X (pm_R 53 (Int.toNat v1)) v2 x2.2).bind (fun x3 =>
  if x3.1 = 0 then
  if 0 ≤ v1 ∧ v1 < 4 then
  (f_T_draftFrom X (pm_R 53 (Int.toNat v1)) v3 v4 x3.2).bind (fun x4 =>
  if x4.1 = 0 then
  (f_G_draftFault X v4 x4.2).bind (fun x5 =>
  if x5.1 = 0 then
  (f_T_takeDraft X v4 x5.2).bind (fun x6 =>
  some (x6.1, x6.2))
  else some (x5.1, x5.2))
  else if x4.1 = 0 then
  (f_T_takeDraft X v4 x4.2).bind (fun x7 =>
  some (x7.1, x7.2))
  else some (x4.1, x4.2))
  else none
  else if x3.1 = 0 then
  (f_G_draftFault X v4 x3.2).bind (fun x8 =>
  if x8.1 = 0 then
  (f_T_takeDraft X v4 x8.2).bind (fun x9 =>
  some (x9.1, x9.2))
  else some (x8.1, x8.2))
  else if x3.1 = 0 then
  (f_T_takeDraft X v4 x3.2).bind (fun x10 =>
  some (x10.1, x10.2))
  else some (x3.1, x3.2))
  else none
  else none)) := (pm_seg pm_T_ct (pm_env X) [0] 45 47 4 0 [some (.inr (.inr 3)), some (.inl v1), some (.inl v2), some (.inl v3), some (.inl v4), none] [] I).trans rfl
set_option maxRecDepth 100000 in
theorem e_T_times (X : pm_XT) (v1 : Int) (v2 : Int) (I : pm_I) : f_T_times X v1 v2 I =
  (f_T_isTurn X v1 I).bind (fun x1 =>
  if x1.1 = 0 then
  some ((-1), x1.2)
  else (f_T_isTurn X v2 x1.2).bind (fun x2 =>
  if x2.1 = 0 then
  some ((-1), x2.2)
  else (f_G_product X v1 v2 x2.2).bind (fun x3 =>
  some (x3.1, x3.2)))) := (pm_seg pm_T_ct (pm_env X) [0] 16 48 1 0 [some (.inr (.inr 3)), some (.inl v1), some (.inl v2)] [] I).trans rfl
set_option maxRecDepth 100000 in
theorem e_T_turn (X : pm_XT) (v1 : Int) (v2 : Int) (I : pm_I) : f_T_turn X v1 v2 I =
  (f_T_isTurn X v1 I).bind (fun x1 =>
  if x1.1 = 0 then
  some ((-1), x1.2)
  else if v2 = 0 then
  if 0 ≤ v1 ∧ v1 < 8 then
  some ((x1.2 7 v1), x1.2)
  else none
  else if v2 = 1 then
  (f_G_orderOf X v1 x1.2).bind (fun x2 =>
  some (x2.1, x2.2))
  else if v2 = 2 then
  if 0 ≤ v1 ∧ v1 < 8 then
  some ((x1.2 8 v1), x1.2)
  else none
  else if v2 = 3 then
  (f_G_classSize X v1 x1.2).bind (fun x3 =>
  some (x3.1, x3.2))
  else if v2 = 4 then
  if 0 ≤ v1 ∧ v1 < 8 then
  some ((x1.2 9 v1), x1.2)
  else none
  else if v2 = 5 then
  (f_G_alikeWith X v1 x1.2).bind (fun x4 =>
  some (x4.1, x4.2))
  else some ((-1), x1.2)) := (pm_seg pm_T_ct (pm_env X) [0] 13 49 2 0 [some (.inr (.inr 3)), some (.inl v1), some (.inl v2)] [] I).trans rfl
set_option maxRecDepth 100000 in
theorem e_T_about (X : pm_XT) (v1 : Int) (I : pm_I) : f_T_about X v1 I =
  if v1 = 0 then
  some ((I 4 0), I)
  else if v1 = 1 then
  (f_G_classesMany X I).bind (fun x1 =>
  some (x1.1, x1.2))
  else if v1 = 2 then
  (f_G_alikeWithAll X I).bind (fun x2 =>
  some (x2.1, x2.2))
  else if v1 = 3 then
  (f_G_alikePairs X I).bind (fun x3 =>
  some (x3.1, x3.2))
  else if v1 = 4 then
  (f_G_alikeWithAll X I).bind (fun x4 =>
  if x4.1 = (x4.2 4 0) then
  some (1, x4.2)
  else some (0, x4.2))
  else some ((-1), I) := (pm_seg pm_T_ct (pm_env X) [0] 13 50 3 0 [some (.inr (.inr 3)), some (.inl v1)] [] I).trans rfl
set_option maxRecDepth 100000 in
theorem e_T_worth (X : pm_XT) (v1 : Int) (v2 : Int) (I : pm_I) : f_T_worth X v1 v2 I =
  (f_T_isTurn X v1 I).bind (fun x1 =>
  if x1.1 = 0 then
  some ((-1), x1.2)
  else if v2 < 0 then
  some ((-1), x1.2)
  else if 9 < v2 then
  some ((-1), x1.2)
  else if 0 ≤ v1 ∧ v1 < 8 then
  (f_G_giveWorth X v1 v2 x1.2).bind (fun x2 =>
  some ((x1.2 9 v1), x2.2))
  else none) := (pm_seg pm_T_ct (pm_env X) [0] 23 51 1 0 [some (.inr (.inr 3)), some (.inl v1), some (.inl v2), none] [] I).trans rfl
set_option maxRecDepth 100000 in
theorem e_T_point (X : pm_XT)  (I : pm_I) : f_T_point X  I =
  if (I 10 0) < 6 then
  (f_B_addPoint X I).bind (fun x1 =>
  some (x1.1, x1.2))
  else some ((-3), I) := (pm_seg pm_T_ct (pm_env X) [0] 11 52 1 0 [some (.inr (.inr 3))] [] I).trans rfl
set_option maxRecDepth 100000 in
theorem e_T_line (X : pm_XT) (v1 : Int) (v2 : Int) (I : pm_I) : f_T_line X v1 v2 I =
  (f_T_isPoint X v1 I).bind (fun x1 =>
  if x1.1 = 0 then
  some ((-1), x1.2)
  else (f_T_isPoint X v2 x1.2).bind (fun x2 =>
  if x2.1 = 0 then
  some ((-1), x2.2)
  else if (x2.2 10 1) < 10 then
  (f_B_addLine X v1 v2 x2.2).bind (fun x3 =>
  some (x3.1, x3.2))
  else some ((-3), x2.2))) := (pm_seg pm_T_ct (pm_env X) [0] 21 53 3 0 [some (.inr (.inr 3)), some (.inl v1), some (.inl v2)] [] I).trans rfl
set_option maxRecDepth 100000 in
theorem e_T_walk (X : pm_XT) (v1 : Int) (I : pm_I) : f_T_walk X v1 I =
  (f_T_isPoint X v1 I).bind (fun x1 =>
  if x1.1 = 0 then
  some ((-1), x1.2)
  else if (x1.2 3 3) < 8 then
  if 0 ≤ (x1.2 3 3) ∧ (x1.2 3 3) < 8 then
  bif Nat.beq (pm_kd (pm_R 18 (Int.toNat (x1.2 3 3)))) 5 then
  (f_W_begin X (pm_R 18 (Int.toNat (x1.2 3 3))) v1 x1.2).bind (fun x2 =>
  if pm_r32 ((x2.2 3 3) + 1) then
  if pm_r32 (((pm_up x2.2 3 3 ((x2.2 3 3) + 1)) 3 3) - 1) then
  some ((((pm_up x2.2 3 3 ((x2.2 3 3) + 1)) 3 3) - 1), (pm_up x2.2 3 3 ((x2.2 3 3) + 1)))
  else none
  else none)
  else none
  else none
  else some ((-3), x1.2)) := (pm_seg pm_T_ct (pm_env X) [0] 27 54 1 0 [some (.inr (.inr 3)), some (.inl v1)] [] I).trans rfl
set_option maxRecDepth 100000 in
theorem e_T_step (X : pm_XT) (v1 : Int) (v2 : Int) (v3 : Int) (I : pm_I) : f_T_step X v1 v2 v3 I =
  (f_T_isWalk X v1 I).bind (fun x1 =>
  if x1.1 = 0 then
  some ((-1), x1.2)
  else (f_T_isLine X v2 x1.2).bind (fun x2 =>
  if x2.1 = 0 then
  some ((-1), x2.2)
  else if 0 ≤ v1 ∧ v1 < 8 then
  if v3 = 0 then
  if 0 ≤ v2 ∧ v2 < 10 then
  if v3 = 0 then
  if 0 ≤ v2 ∧ v2 < 10 then
  bif Nat.beq (pm_kd (pm_R 18 (Int.toNat v1))) 5 then
  if (x2.2 11 v2) = (x2.2 (pm_R 18 (Int.toNat v1)) 1) then
  bif Nat.beq (pm_kd (pm_R 18 (Int.toNat v1))) 5 then
  if (x2.2 (pm_R 18 (Int.toNat v1)) 2) < 6 then
  bif Nat.beq (pm_kd (pm_R 18 (Int.toNat v1))) 5 then
  (f_W_go X (pm_R 18 (Int.toNat v1)) v2 v3 (x2.2 12 v2) x2.2).bind (fun x3 =>
  bif Nat.beq (pm_kd (pm_R 18 (Int.toNat v1))) 5 then
  some ((x3.2 (pm_R 18 (Int.toNat v1)) 2), x3.2)
  else none)
  else none
  else some ((-3), x2.2)
  else none
  else some ((-2), x2.2)
  else none
  else none
  else if 0 ≤ v2 ∧ v2 < 10 then
  bif Nat.beq (pm_kd (pm_R 18 (Int.toNat v1))) 5 then
  if (x2.2 11 v2) = (x2.2 (pm_R 18 (Int.toNat v1)) 1) then
  bif Nat.beq (pm_kd (pm_R 18 (Int.toNat v1))) 5 then
  if (x2.2 (pm_R 18 (Int.toNat v1)) 2) < 6 then
  bif Nat.beq (pm_kd (pm_R 18 (Int.toNat v1))) 5 then
  (f_W_go X (pm_R 18 (Int.toNat v1)) v2 v3 (x2.2 11 v2) x2.2).bind (fun x4 =>
  bif Nat.beq (pm_kd (pm_R 18 (Int.toNat v1))) 5 then
  some ((x4.2 (pm_R 18 (Int.toNat v1)) 2), x4.2)
  else none)
  else none
  else some ((-3), x2.2)
  else none
  else some ((-2), x2.2)
  else none
  else none
  else none
  else if 0 ≤ v2 ∧ v2 < 10 then
  if v3 = 0 then
  if 0 ≤ v2 ∧ v2 < 10 then
  bif Nat.beq (pm_kd (pm_R 18 (Int.toNat v1))) 5 then
  if (x2.2 12 v2) = (x2.2 (pm_R 18 (Int.toNat v1)) 1) then
  bif Nat.beq (pm_kd (pm_R 18 (Int.toNat v1))) 5 then
  if (x2.2 (pm_R 18 (Int.toNat v1)) 2) < 6 then
  bif Nat.beq (pm_kd (pm_R 18 (Int.toNat v1))) 5 then
  (f_W_go X (pm_R 18 (Int.toNat v1)) v2 v3 (x2.2 12 v2) x2.2).bind (fun x5 =>
  bif Nat.beq (pm_kd (pm_R 18 (Int.toNat v1))) 5 then
  some ((x5.2 (pm_R 18 (Int.toNat v1)) 2), x5.2)
  else none)
  else none
  else some ((-3), x2.2)
  else none
  else some ((-2), x2.2)
  else none
  else none
  else if 0 ≤ v2 ∧ v2 < 10 then
  bif Nat.beq (pm_kd (pm_R 18 (Int.toNat v1))) 5 then
  if (x2.2 12 v2) = (x2.2 (pm_R 18 (Int.toNat v1)) 1) then
  bif Nat.beq (pm_kd (pm_R 18 (Int.toNat v1))) 5 then
  if (x2.2 (pm_R 18 (Int.toNat v1)) 2) < 6 then
  bif Nat.beq (pm_kd (pm_R 18 (Int.toNat v1))) 5 then
  (f_W_go X (pm_R 18 (Int.toNat v1)) v2 v3 (x2.2 11 v2) x2.2).bind (fun x6 =>
  bif Nat.beq (pm_kd (pm_R 18 (Int.toNat v1))) 5 then
  some ((x6.2 (pm_R 18 (Int.toNat v1)) 2), x6.2)
  else none)
  else none
  else some ((-3), x2.2)
  else none
  else some ((-2), x2.2)
  else none
  else none
  else none
  else none)) := (pm_seg pm_T_ct (pm_env X) [0] 48 55 1 0 [some (.inr (.inr 3)), some (.inl v1), some (.inl v2), some (.inl v3), none, none, none] [] I).trans rfl
set_option maxRecDepth 100000 in
theorem e_T_counts (X : pm_XT) (v1 : Int) (v2 : Int) (I : pm_I) : f_T_counts X v1 v2 I =
  (f_T_isWalk X v1 I).bind (fun x1 =>
  if x1.1 = 0 then
  some ((-1), x1.2)
  else if 0 ≤ v1 ∧ v1 < 8 then
  bif Nat.beq (pm_kd (pm_R 18 (Int.toNat v1))) 5 then
  if (x1.2 (pm_R 18 (Int.toNat v1)) 3) = 0 then
  if 0 ≤ v1 ∧ v1 < 8 then
  bif Nat.beq (pm_kd (pm_R 18 (Int.toNat v1))) 5 then
  if v2 = 0 ∨ v2 = 1 then
  some (0, (pm_up x1.2 (pm_R 18 (Int.toNat v1)) 3 v2))
  else none
  else none
  else none
  else if 0 ≤ v1 ∧ v1 < 8 then
  bif Nat.beq (pm_kd (pm_R 18 (Int.toNat v1))) 5 then
  if v2 = 0 ∨ v2 = 1 then
  some (1, (pm_up x1.2 (pm_R 18 (Int.toNat v1)) 3 v2))
  else none
  else none
  else none
  else none
  else none) := (pm_seg pm_T_ct (pm_env X) [0] 22 56 1 0 [some (.inr (.inr 3)), some (.inl v1), some (.inl v2), none] [] I).trans rfl
set_option maxRecDepth 100000 in
theorem e_T_told (X : pm_XT) (v1 : Int) (v2 : Int) (I : pm_I) : f_T_told X v1 v2 I =
  (f_T_isWalk X v1 I).bind (fun x1 =>
  if x1.1 = 0 then
  some ((-1), x1.2)
  else if 0 ≤ v1 ∧ v1 < 8 then
  if v2 = 0 then
  bif Nat.beq (pm_kd (pm_R 18 (Int.toNat v1))) 5 then
  some ((x1.2 (pm_R 18 (Int.toNat v1)) 2), x1.2)
  else none
  else if v2 = 1 then
  bif Nat.beq (pm_kd (pm_R 18 (Int.toNat v1))) 5 then
  some ((x1.2 (pm_R 18 (Int.toNat v1)) 1), x1.2)
  else none
  else if v2 = 2 then
  bif Nat.beq (pm_kd (pm_R 18 (Int.toNat v1))) 5 then
  (f_W_isClosed X (pm_R 18 (Int.toNat v1)) x1.2).bind (fun x2 =>
  if x2.1 = 0 then
  some (0, x2.2)
  else some (1, x2.2))
  else none
  else if v2 = 3 then
  bif Nat.beq (pm_kd (pm_R 18 (Int.toNat v1))) 5 then
  (f_W_turnWith X (pm_R 18 (Int.toNat v1)) 13 x1.2).bind (fun x3 =>
  some (x3.1, x3.2))
  else none
  else if v2 = 4 then
  bif Nat.beq (pm_kd (pm_R 18 (Int.toNat v1))) 5 then
  if (x1.2 (pm_R 18 (Int.toNat v1)) 3) = 0 then
  some (0, x1.2)
  else some (1, x1.2)
  else none
  else some ((-1), x1.2)
  else none) := (pm_seg pm_T_ct (pm_env X) [0] 20 57 2 0 [some (.inr (.inr 3)), some (.inl v1), some (.inl v2), none] [] I).trans rfl
set_option maxRecDepth 100000 in
theorem e_T_drop (X : pm_XT)  (I : pm_I) : f_T_drop X  I =
  if 0 < (I 3 3) then
  if pm_r32 ((I 3 3) - 1) then
  some (((pm_up I 3 3 ((I 3 3) - 1)) 3 3), (pm_up I 3 3 ((I 3 3) - 1)))
  else none
  else some ((-4), I) := (pm_seg pm_T_ct (pm_env X) [0] 13 58 0 0 [some (.inr (.inr 3))] [] I).trans rfl
set_option maxRecDepth 100000 in
theorem e_T_set (X : pm_XT) (v1 : Int) (v2 : Int) (I : pm_I) : f_T_set X v1 v2 I =
  (f_T_isLine X v1 I).bind (fun x1 =>
  if x1.1 = 0 then
  some ((-1), x1.2)
  else (f_T_isTurn X v2 x1.2).bind (fun x2 =>
  if x2.1 = 0 then
  some ((-1), x2.2)
  else if 0 ≤ v1 ∧ v1 < 10 then
  (f_A_keep X x2.2).bind (fun x3 =>
  if 0 ≤ v1 ∧ v1 < 10 then
  some ((x2.2 13 v1), (pm_up x3.2 13 v1 v2))
  else none)
  else none)) := (pm_seg pm_T_ct (pm_env X) [0] 29 59 2 0 [some (.inr (.inr 3)), some (.inl v1), some (.inl v2), none] [] I).trans rfl
set_option maxRecDepth 100000 in
theorem e_T_at (X : pm_XT) (v1 : Int) (I : pm_I) : f_T_at X v1 I =
  (f_T_isLine X v1 I).bind (fun x1 =>
  if x1.1 = 0 then
  some ((-1), x1.2)
  else if 0 ≤ v1 ∧ v1 < 10 then
  some ((x1.2 13 v1), x1.2)
  else none) := (pm_seg pm_T_ct (pm_env X) [0] 12 60 1 0 [some (.inr (.inr 3)), some (.inl v1)] [] I).trans rfl
set_option maxRecDepth 100000 in
theorem e_T_weight (X : pm_XT)  (I : pm_I) : f_T_weight X  I =
  f_T_weight_4 X 1 0 I := (pm_seg pm_T_ct (pm_env X) [0, 4] 6 61 2 0 [some (.inr (.inr 3)), none, none, none] [] I).trans rfl
set_option maxRecDepth 100000 in
theorem e_T_weight_4 (X : pm_XT) (w1 : Int) (v3 : Int) (I : pm_I) : f_T_weight_4 X w1 v3 I =
  if v3 < (I 3 3) then
  if 0 ≤ v3 ∧ v3 < 8 then
  bif Nat.beq (pm_kd (pm_R 18 (Int.toNat v3))) 5 then
  (f_W_weighs X (pm_R 18 (Int.toNat v3)) I).bind (fun x1 =>
  if x1.1 = 0 then
  if pm_r32 (v3 + 1) then
  f_T_weight_4 X w1 (v3 + 1) x1.2
  else none
  else if 0 ≤ v3 ∧ v3 < 8 then
  bif Nat.beq (pm_kd (pm_R 18 (Int.toNat v3))) 5 then
  (f_W_turnWith X (pm_R 18 (Int.toNat v3)) 13 x1.2).bind (fun x2 =>
  if 0 ≤ x2.1 ∧ x2.1 < 8 then
  if pm_r32 (v3 + 1) then
  f_T_weight_4 X (pm_w64 (w1 * (x2.2 9 x2.1))) (v3 + 1) x2.2
  else none
  else none)
  else none
  else none)
  else none
  else none
  else some (w1, I) := (pm_seg pm_T_ct (pm_env X) [0, 4] 32 61 2 4 [some (.inr (.inr 3)), some (.inr (.inl w1)), none, some (.inl v3)] [] I).trans rfl
set_option maxRecDepth 100000 in
theorem e_T_twist (X : pm_XT) (v1 : Int) (v2 : Int) (I : pm_I) : f_T_twist X v1 v2 I =
  (f_T_isPoint X v1 I).bind (fun x1 =>
  if x1.1 = 0 then
  some ((-1), x1.2)
  else (f_T_isTurn X v2 x1.2).bind (fun x2 =>
  if x2.1 = 0 then
  some ((-1), x2.2)
  else (f_A_keep X x2.2).bind (fun x3 =>
  (f_B_shiftOnly X v1 v2 x3.2).bind (fun x4 =>
  (f_B_turnPoints X x4.2).bind (fun x5 =>
  some (x5.1, x5.2)))))) := (pm_seg pm_T_ct (pm_env X) [0] 26 62 2 0 [some (.inr (.inr 3)), some (.inl v1), some (.inl v2)] [] I).trans rfl
set_option maxRecDepth 100000 in
theorem e_T_still (X : pm_XT)  (I : pm_I) : f_T_still X  I =
  (f_A_keep X I).bind (fun x1 =>
  (f_B_shiftToStill X x1.2).bind (fun x2 =>
  (f_B_turnPoints X x2.2).bind (fun x3 =>
  some (x3.1, x3.2)))) := (pm_seg pm_T_ct (pm_env X) [0] 18 63 3 0 [some (.inr (.inr 3))] [] I).trans rfl
set_option maxRecDepth 100000 in
theorem e_T_undo (X : pm_XT)  (I : pm_I) : f_T_undo X  I =
  (f_A_giveBack X I).bind (fun x1 =>
  if x1.1 = 0 then
  some ((-4), x1.2)
  else some ((x1.2 43 0), x1.2)) := (pm_seg pm_T_ct (pm_env X) [0] 13 64 2 0 [some (.inr (.inr 3))] [] I).trans rfl
set_option maxRecDepth 100000 in
theorem e_T_tree (X : pm_XT) (v1 : Int) (I : pm_I) : f_T_tree X v1 I =
  (f_T_isLine X v1 I).bind (fun x1 =>
  if x1.1 = 0 then
  some ((-1), x1.2)
  else if 0 ≤ v1 ∧ v1 < 10 then
  if (x1.2 14 v1) = 0 then
  some (0, x1.2)
  else some (1, x1.2)
  else none) := (pm_seg pm_T_ct (pm_env X) [0] 14 65 1 0 [some (.inr (.inr 3)), some (.inl v1)] [] I).trans rfl
set_option maxRecDepth 100000 in
theorem e_T_sum (X : pm_XT)  (I : pm_I) : f_T_sum X  I =
  (f_T_isSpent X I).bind (fun x1 =>
  if x1.1 = 0 then
  (f_T_sumOfWeights X x1.2).bind (fun x2 =>
  some (x2.1, x2.2))
  else some ((-6), x1.2)) := (pm_seg pm_T_ct (pm_env X) [0] 7 66 16 0 [some (.inr (.inr 3))] [] I).trans rfl
set_option maxRecDepth 100000 in
theorem e_T_sumBy (X : pm_XT) (v1 : Int) (v2 : Int) (I : pm_I) : f_T_sumBy X v1 v2 I =
  (f_T_isClosedWalk X v1 I).bind (fun x1 =>
  if x1.1 = 0 then
  some ((-1), x1.2)
  else (f_T_isTurn X v2 x1.2).bind (fun x2 =>
  if x2.1 = 0 then
  some ((-1), x2.2)
  else (f_T_isSpent X x2.2).bind (fun x3 =>
  if x3.1 = 0 then
  (f_T_sumHeld X v1 v2 x3.2).bind (fun x4 =>
  some (x4.1, x4.2))
  else some ((-6), x3.2)))) := (pm_seg pm_T_ct (pm_env X) [0] 17 67 16 0 [some (.inr (.inr 3)), some (.inl v1), some (.inl v2)] [] I).trans rfl
set_option maxRecDepth 100000 in
theorem e_T_mean (X : pm_XT) (v1 : Int) (v2 : Int) (v3 : Int) (I : pm_I) : f_T_mean X v1 v2 v3 I =
  (f_T_isClosedWalk X v1 I).bind (fun x1 =>
  if x1.1 = 0 then
  some ((-1), x1.2)
  else (f_T_isTurn X v2 x1.2).bind (fun x2 =>
  if x2.1 = 0 then
  some ((-1), x2.2)
  else if v3 < 0 then
  some ((-1), x2.2)
  else if 1 < v3 then
  some ((-1), x2.2)
  else (f_T_isSpent X x2.2).bind (fun x3 =>
  if x3.1 = 0 then
  (f_T_sumOfWeights X x3.2).bind (fun x4 =>
  if 0 < x4.1 then
  (f_T_sumHeld X v1 v2 x4.2).bind (fun x5 =>
  (f_T_commonDivisor X x4.1 x5.1 x5.2).bind (fun x6 =>
  if 0 < x6.1 then
  if v3 = 0 then
  if 0 ≤ (x5.1 : Int) ∧ 0 < (x6.1 : Int) then
  some ((x5.1 / x6.1), x6.2)
  else none
  else if 0 ≤ (x4.1 : Int) ∧ 0 < (x6.1 : Int) then
  some ((x4.1 / x6.1), x6.2)
  else none
  else if x6.1 = 0 then
  some ((-2), x6.2)
  else if v3 = 0 then
  if 0 ≤ (x5.1 : Int) ∧ 0 < (x6.1 : Int) then
  some ((x5.1 / x6.1), x6.2)
  else none
  else if 0 ≤ (x4.1 : Int) ∧ 0 < (x6.1 : Int) then
  some ((x4.1 / x6.1), x6.2)
  else none))
  else if x4.1 = 0 then
  some ((-2), x4.2)
  else (f_T_sumHeld X v1 v2 x4.2).bind (fun x7 =>
  (f_T_commonDivisor X x4.1 x7.1 x7.2).bind (fun x8 =>
  if 0 < x8.1 then
  if v3 = 0 then
  if 0 ≤ (x7.1 : Int) ∧ 0 < (x8.1 : Int) then
  some ((x7.1 / x8.1), x8.2)
  else none
  else if 0 ≤ (x4.1 : Int) ∧ 0 < (x8.1 : Int) then
  some ((x4.1 / x8.1), x8.2)
  else none
  else if x8.1 = 0 then
  some ((-2), x8.2)
  else if v3 = 0 then
  if 0 ≤ (x7.1 : Int) ∧ 0 < (x8.1 : Int) then
  some ((x7.1 / x8.1), x8.2)
  else none
  else if 0 ≤ (x4.1 : Int) ∧ 0 < (x8.1 : Int) then
  some ((x4.1 / x8.1), x8.2)
  else none)))
  else some ((-6), x3.2)))) := (pm_seg pm_T_ct (pm_env X) [0] 44 68 16 0 [some (.inr (.inr 3)), some (.inl v1), some (.inl v2), some (.inl v3), none, none, none, none, none, none] [] I).trans rfl
set_option maxRecDepth 100000 in
theorem e_T_flat (X : pm_XT)  (I : pm_I) : f_T_flat X  I =
  (f_T_isSpent X I).bind (fun x1 =>
  if x1.1 = 0 then
  (f_U_clear X x1.2).bind (fun x2 =>
  f_T_flat_20 X 0 x2.2)
  else some ((-6), x1.2)) := (pm_seg pm_T_ct (pm_env X) [0, 20] 10 69 15 0 [some (.inr (.inr 3)), none] [] I).trans rfl
set_option maxRecDepth 100000 in
theorem e_T_flat_20 (X : pm_XT) (v1 : Int) (I : pm_I) : f_T_flat_20 X v1 I =
  if v1 < (I 3 3) then
  if 0 ≤ v1 ∧ v1 < 8 then
  bif Nat.beq (pm_kd (pm_R 18 (Int.toNat v1))) 5 then
  (f_W_weighs X (pm_R 18 (Int.toNat v1)) I).bind (fun x1 =>
  if x1.1 = 0 then
  if pm_r32 (v1 + 1) then
  f_T_flat_20 X (v1 + 1) x1.2
  else none
  else (f_U_lookForStill X v1 x1.2).bind (fun x2 =>
  if pm_r32 (v1 + 1) then
  f_T_flat_20 X (v1 + 1) x2.2
  else none))
  else none
  else none
  else (f_T_sumLooked X I).bind (fun x3 =>
  some (x3.1, x3.2)) := (pm_seg pm_T_ct (pm_env X) [0, 20] 18 69 15 20 [some (.inr (.inr 3)), some (.inl v1)] [] I).trans rfl
set_option maxRecDepth 100000 in
theorem e_T_sheet (X : pm_XT) (v1 : Int) (v2 : Int) (v3 : Int) (I : pm_I) : f_T_sheet X v1 v2 v3 I =
  (f_T_isSheet X v1 I).bind (fun x1 =>
  if x1.1 = 0 then
  some ((-1), x1.2)
  else (f_T_isLane X v2 x1.2).bind (fun x2 =>
  if x2.1 = 0 then
  some ((-1), x2.2)
  else if 64 < v3 then
  some ((-1), x2.2)
  else if v3 < 0 then
  some ((-14), x2.2)
  else if 0 ≤ v1 ∧ v1 < 4 then
  bif Nat.beq (pm_kd (pm_R 53 (Int.toNat v1))) 3 then
  (f_S_renew X (pm_R 53 (Int.toNat v1)) v2 v3 x2.2).bind (fun x3 =>
  some (1, x3.2))
  else none
  else none)) := (pm_seg pm_T_ct (pm_env X) [0] 21 70 1 0 [some (.inr (.inr 3)), some (.inl v1), some (.inl v2), some (.inl v3)] [] I).trans rfl
set_option maxRecDepth 100000 in
theorem e_T_lay (X : pm_XT) (v1 : Int) (v2 : Int) (v3 : Int) (I : pm_I) : f_T_lay X v1 v2 v3 I =
  (f_T_isSheet X v1 I).bind (fun x1 =>
  if x1.1 = 0 then
  some ((-1), x1.2)
  else if 0 ≤ v1 ∧ v1 < 4 then
  bif Nat.beq (pm_kd (pm_R 53 (Int.toNat v1))) 3 then
  if (x1.2 (pm_R 53 (Int.toNat v1)) 0) = 0 then
  some ((-11), x1.2)
  else bif Nat.beq (pm_kd (pm_R 53 (Int.toNat v1))) 3 then
  (f_S_hasCell X (pm_R 53 (Int.toNat v1)) v2 x1.2).bind (fun x2 =>
  if x2.1 = 0 then
  some ((-12), x2.2)
  else bif Nat.beq (pm_kd (pm_R 53 (Int.toNat v1))) 3 then
  (f_S_put X (pm_R 53 (Int.toNat v1)) v2 v3 x2.2).bind (fun x3 =>
  some (1, x3.2))
  else none)
  else none
  else none
  else none) := (pm_seg pm_T_ct (pm_env X) [0] 22 71 1 0 [some (.inr (.inr 3)), some (.inl v1), some (.inl v2), some (.inl v3), none] [] I).trans rfl
set_option maxRecDepth 100000 in
theorem e_T_fill (X : pm_XT) (v1 : Int) (v2 : Int) (v3 : Int) (I : pm_I) : f_T_fill X v1 v2 v3 I =
  (f_T_isSheet X v1 I).bind (fun x1 =>
  if x1.1 = 0 then
  some ((-1), x1.2)
  else (f_T_isLane X v2 x1.2).bind (fun x2 =>
  if x2.1 = 0 then
  some ((-1), x2.2)
  else if 0 ≤ v1 ∧ v1 < 4 then
  bif Nat.beq (pm_kd (pm_R 53 (Int.toNat v1))) 3 then
  (f_S_faultAs X (pm_R 53 (Int.toNat v1)) v2 x2.2).bind (fun x3 =>
  if x3.1 = 0 then
  (f_T_linesFault X (pm_R 53 (Int.toNat v1)) v3 x3.2).bind (fun x4 =>
  if x4.1 = 0 then
  (f_T_fillLines X (pm_R 53 (Int.toNat v1)) v3 x4.2).bind (fun x5 =>
  some (x5.1, x5.2))
  else some (x4.1, x4.2))
  else if x3.1 = 0 then
  (f_T_fillLines X (pm_R 53 (Int.toNat v1)) v3 x3.2).bind (fun x6 =>
  some (x6.1, x6.2))
  else some (x3.1, x3.2))
  else none
  else none)) := (pm_seg pm_T_ct (pm_env X) [0] 31 72 3 0 [some (.inr (.inr 3)), some (.inl v1), some (.inl v2), some (.inl v3), none, none] [] I).trans rfl
set_option maxRecDepth 100000 in
theorem e_T_many (X : pm_XT) (v1 : Int) (I : pm_I) : f_T_many X v1 I =
  if v1 = 0 then
  some ((I 10 0), I)
  else if v1 = 1 then
  some ((I 10 1), I)
  else if v1 = 2 then
  some ((I 3 3), I)
  else if v1 = 3 then
  (f_T_walksThatWeigh X I).bind (fun x1 =>
  some (x1.1, x1.2))
  else if v1 = 4 then
  if pm_r32 ((I 10 0) - (I 10 2)) then
  some (((I 10 0) - (I 10 2)), I)
  else none
  else if v1 = 5 then
  some ((I 10 2), I)
  else if v1 = 6 then
  some ((I 43 0), I)
  else if v1 = 7 then
  if (I 54 0) = 0 then
  some ((-4), I)
  else some ((I 54 1), I)
  else some ((-1), I) := (pm_seg pm_T_ct (pm_env X) [0] 16 73 3 0 [some (.inr (.inr 3)), some (.inl v1)] [] I).trans rfl
set_option maxRecDepth 100000 in
theorem e_T_isTurn (X : pm_XT) (v1 : Int) (I : pm_I) : f_T_isTurn X v1 I =
  if v1 < 0 then
  some (0, I)
  else if v1 < (I 4 0) then
  some (1, I)
  else some (0, I) := (pm_seg pm_T_ct (pm_env X) [0] 11 74 0 0 [some (.inr (.inr 3)), some (.inl v1)] [] I).trans rfl
set_option maxRecDepth 100000 in
theorem e_T_isPoint (X : pm_XT) (v1 : Int) (I : pm_I) : f_T_isPoint X v1 I =
  if v1 < 0 then
  some (0, I)
  else if v1 < (I 10 0) then
  some (1, I)
  else some (0, I) := (pm_seg pm_T_ct (pm_env X) [0] 11 75 0 0 [some (.inr (.inr 3)), some (.inl v1)] [] I).trans rfl
set_option maxRecDepth 100000 in
theorem e_T_isLine (X : pm_XT) (v1 : Int) (I : pm_I) : f_T_isLine X v1 I =
  if v1 < 0 then
  some (0, I)
  else if v1 < (I 10 1) then
  some (1, I)
  else some (0, I) := (pm_seg pm_T_ct (pm_env X) [0] 11 76 0 0 [some (.inr (.inr 3)), some (.inl v1)] [] I).trans rfl
set_option maxRecDepth 100000 in
theorem e_T_isWalk (X : pm_XT) (v1 : Int) (I : pm_I) : f_T_isWalk X v1 I =
  if v1 < 0 then
  some (0, I)
  else if v1 < (I 3 3) then
  some (1, I)
  else some (0, I) := (pm_seg pm_T_ct (pm_env X) [0] 10 77 0 0 [some (.inr (.inr 3)), some (.inl v1)] [] I).trans rfl
set_option maxRecDepth 100000 in
theorem e_T_isClosedWalk (X : pm_XT) (v1 : Int) (I : pm_I) : f_T_isClosedWalk X v1 I =
  (f_T_isWalk X v1 I).bind (fun x1 =>
  if x1.1 = 0 then
  some (0, x1.2)
  else if 0 ≤ v1 ∧ v1 < 8 then
  bif Nat.beq (pm_kd (pm_R 18 (Int.toNat v1))) 5 then
  (f_W_isClosed X (pm_R 18 (Int.toNat v1)) x1.2).bind (fun x2 =>
  if x2.1 = 0 then
  some (0, x2.2)
  else some (1, x2.2))
  else none
  else none) := (pm_seg pm_T_ct (pm_env X) [0] 14 78 1 0 [some (.inr (.inr 3)), some (.inl v1)] [] I).trans rfl
set_option maxRecDepth 100000 in
theorem e_T_isSheet (X : pm_XT) (v0 : Int) (I : pm_I) : f_T_isSheet X v0 I =
  if v0 < 0 then
  some (0, I)
  else if v0 < 4 then
  some (1, I)
  else some (0, I) := (pm_seg pm_T_ct (pm_env X) [0] 9 79 0 0 [some (.inl v0)] [] I).trans rfl
set_option maxRecDepth 100000 in
theorem e_T_isLane (X : pm_XT) (v0 : Int) (I : pm_I) : f_T_isLane X v0 I =
  if v0 < 0 then
  some (0, I)
  else if v0 < 3 then
  some (1, I)
  else some (0, I) := (pm_seg pm_T_ct (pm_env X) [0] 9 80 0 0 [some (.inl v0)] [] I).trans rfl
set_option maxRecDepth 100000 in
theorem e_T_walksThatWeigh (X : pm_XT)  (I : pm_I) : f_T_walksThatWeigh X  I =
  f_T_walksThatWeigh_4 X 0 0 I := (pm_seg pm_T_ct (pm_env X) [0, 4] 6 81 2 0 [some (.inr (.inr 3)), none, none] [] I).trans rfl
set_option maxRecDepth 100000 in
theorem e_T_walksThatWeigh_4 (X : pm_XT) (v1 : Int) (v2 : Int) (I : pm_I) : f_T_walksThatWeigh_4 X v1 v2 I =
  if v2 < (I 3 3) then
  if 0 ≤ v2 ∧ v2 < 8 then
  bif Nat.beq (pm_kd (pm_R 18 (Int.toNat v2))) 5 then
  (f_W_weighs X (pm_R 18 (Int.toNat v2)) I).bind (fun x1 =>
  if x1.1 = 0 then
  if pm_r32 (v2 + 1) then
  f_T_walksThatWeigh_4 X v1 (v2 + 1) x1.2
  else none
  else if pm_r32 (v1 + 1) then
  if pm_r32 (v2 + 1) then
  f_T_walksThatWeigh_4 X (v1 + 1) (v2 + 1) x1.2
  else none
  else none)
  else none
  else none
  else some (v1, I) := (pm_seg pm_T_ct (pm_env X) [0, 4] 15 81 2 4 [some (.inr (.inr 3)), some (.inl v1), some (.inl v2)] [] I).trans rfl
set_option maxRecDepth 100000 in
theorem e_T_takeDraft (X : pm_XT) (v1 : Int) (I : pm_I) : f_T_takeDraft X v1 I =
  (f_G_adopt X v1 I).bind (fun x1 =>
  (f_B_clearTurns X x1.2).bind (fun x2 =>
  (f_A_forget X x2.2).bind (fun x3 =>
  some (v1, x3.2)))) := (pm_seg pm_T_ct (pm_env X) [0] 13 82 3 0 [some (.inr (.inr 3)), some (.inl v1)] [] I).trans rfl
set_option maxRecDepth 100000 in
theorem e_T_draftFrom (X : pm_XT) (r1 : Nat) (v2 : Int) (v3 : Int) (I : pm_I) : f_T_draftFrom X r1 v2 v3 I =
  f_T_draftFrom_3 X r1 v2 v3 0 I := (pm_seg pm_T_ct (pm_env X) [0, 3, 12] 4 83 1 0 [some (.inr (.inr 3)), some (.inr (.inr r1)), some (.inl v2), some (.inl v3), none, none, none, none] [] I).trans rfl
set_option maxRecDepth 100000 in
theorem e_T_draftFrom_3 (X : pm_XT) (r1 : Nat) (v2 : Int) (v3 : Int) (v4 : Int) (I : pm_I) : f_T_draftFrom_3 X r1 v2 v3 v4 I =
  if v4 < v3 then
  f_T_draftFrom_12 X r1 v2 v3 v4 0 I
  else some (0, I) := (pm_seg pm_T_ct (pm_env X) [0, 3, 12] 7 83 1 3 [some (.inr (.inr 3)), some (.inr (.inr r1)), some (.inl v2), some (.inl v3), some (.inl v4), none, none, none] [] I).trans rfl
set_option maxRecDepth 100000 in
theorem e_T_draftFrom_12 (X : pm_XT) (r1 : Nat) (v2 : Int) (v3 : Int) (v4 : Int) (v5 : Int) (I : pm_I) : f_T_draftFrom_12 X r1 v2 v3 v4 v5 I =
  if v5 < v3 then
  if pm_r32 (v3 * v4) then
  if pm_r32 ((v3 * v4) + v5) then
  if pm_r32 (v2 + ((v3 * v4) + v5)) then
  bif Nat.beq (pm_kd r1) 3 then
  (f_S_hasCell X r1 (v2 + ((v3 * v4) + v5)) I).bind (fun x1 =>
  if x1.1 = 0 then
  some ((-12), x1.2)
  else bif Nat.beq (pm_kd r1) 3 then
  if pm_r32 (v2 + ((v3 * v4) + v5)) then
  bif Nat.beq (pm_kd (pm_R r1 3)) 8 then
  if 0 ≤ (v2 + ((v3 * v4) + v5)) ∧ (v2 + ((v3 * v4) + v5)) < pm_ln X.2 (pm_R r1 3) then
  if (x1.2 (pm_R r1 3) (v2 + ((v3 * v4) + v5))) < 0 then
  if pm_r32 ((-100) - ((v3 * v4) + v5)) then
  some (((-100) - ((v3 * v4) + v5)), x1.2)
  else none
  else if (x1.2 (pm_R r1 3) (v2 + ((v3 * v4) + v5))) < v3 then
  if pm_r32 (8 * v4) then
  if pm_r32 ((8 * v4) + v5) then
  if 0 ≤ ((8 * v4) + v5) ∧ ((8 * v4) + v5) < 64 then
  if pm_r32 (v5 + 1) then
  f_T_draftFrom_12 X r1 v2 v3 v4 (v5 + 1) (pm_up x1.2 5 ((8 * v4) + v5) (x1.2 (pm_R r1 3) (v2 + ((v3 * v4) + v5))))
  else none
  else none
  else none
  else none
  else if pm_r32 ((-100) - ((v3 * v4) + v5)) then
  some (((-100) - ((v3 * v4) + v5)), x1.2)
  else none
  else none
  else bif Nat.beq (pm_kd (pm_R r1 3)) 50 then
  if 0 ≤ (v2 + ((v3 * v4) + v5)) ∧ (v2 + ((v3 * v4) + v5)) < pm_ln X.2 (pm_R r1 3) then
  if (pm_xv X.1 (pm_R r1 3) (v2 + ((v3 * v4) + v5))) < 0 then
  if pm_r32 ((-100) - ((v3 * v4) + v5)) then
  some (((-100) - ((v3 * v4) + v5)), x1.2)
  else none
  else if (pm_xv X.1 (pm_R r1 3) (v2 + ((v3 * v4) + v5))) < v3 then
  if pm_r32 (8 * v4) then
  if pm_r32 ((8 * v4) + v5) then
  if 0 ≤ ((8 * v4) + v5) ∧ ((8 * v4) + v5) < 64 then
  if pm_r32 (v5 + 1) then
  f_T_draftFrom_12 X r1 v2 v3 v4 (v5 + 1) (pm_up x1.2 5 ((8 * v4) + v5) (pm_xv X.1 (pm_R r1 3) (v2 + ((v3 * v4) + v5))))
  else none
  else none
  else none
  else none
  else if pm_r32 ((-100) - ((v3 * v4) + v5)) then
  some (((-100) - ((v3 * v4) + v5)), x1.2)
  else none
  else none
  else none
  else none
  else none)
  else none
  else none
  else none
  else none
  else if pm_r32 (v4 + 1) then
  f_T_draftFrom_3 X r1 v2 v3 (v4 + 1) I
  else none := (pm_seg pm_T_ct (pm_env X) [0, 3, 12] 41 83 1 12 [some (.inr (.inr 3)), some (.inr (.inr r1)), some (.inl v2), some (.inl v3), some (.inl v4), some (.inl v5), none, none] [] I).trans rfl
set_option maxRecDepth 100000 in
theorem e_T_isSpent (X : pm_XT)  (I : pm_I) : f_T_isSpent X  I =
  f_T_isSpent_10 X 1 (I 10 2) I := (pm_seg pm_T_ct (pm_env X) [0, 10] 8 84 0 0 [some (.inr (.inr 3)), none, none, none] [] I).trans rfl
set_option maxRecDepth 100000 in
theorem e_T_isSpent_10 (X : pm_XT) (w1 : Int) (v3 : Int) (I : pm_I) : f_T_isSpent_10 X w1 v3 I =
  if v3 < (I 10 1) then
  if pm_r32 (v3 + 1) then
  f_T_isSpent_10 X (pm_w64 (w1 * (I 4 0))) (v3 + 1) I
  else none
  else if 40000 < w1 then
  some (1, I)
  else if w1 = 40000 then
  some (0, I)
  else some (0, I) := (pm_seg pm_T_ct (pm_env X) [0, 10] 16 84 0 10 [some (.inr (.inr 3)), some (.inr (.inl w1)), none, some (.inl v3)] [] I).trans rfl
set_option maxRecDepth 100000 in
theorem e_T_sumOfWeights (X : pm_XT)  (I : pm_I) : f_T_sumOfWeights X  I =
  (f_U_clear X I).bind (fun x1 =>
  (f_T_lookForWeights X x1.2).bind (fun x2 =>
  (f_T_sumLooked X x2.2).bind (fun x3 =>
  some (x3.1, x3.2)))) := (pm_seg pm_T_ct (pm_env X) [0] 9 85 15 0 [some (.inr (.inr 3))] [] I).trans rfl
set_option maxRecDepth 100000 in
theorem e_T_sumHeld (X : pm_XT) (v1 : Int) (v2 : Int) (I : pm_I) : f_T_sumHeld X v1 v2 I =
  (f_U_clear X I).bind (fun x1 =>
  (f_T_lookForWeights X x1.2).bind (fun x2 =>
  (f_U_lookForClass X v1 v2 x2.2).bind (fun x3 =>
  (f_T_sumLooked X x3.2).bind (fun x4 =>
  some (x4.1, x4.2))))) := (pm_seg pm_T_ct (pm_env X) [0] 16 86 15 0 [some (.inr (.inr 3)), some (.inl v1), some (.inl v2)] [] I).trans rfl
set_option maxRecDepth 100000 in
theorem e_T_lookForWeights (X : pm_XT)  (I : pm_I) : f_T_lookForWeights X  I =
  f_T_lookForWeights_2 X 0 I := (pm_seg pm_T_ct (pm_env X) [0, 2] 4 87 2 0 [some (.inr (.inr 3)), none] [] I).trans rfl
set_option maxRecDepth 100000 in
theorem e_T_lookForWeights_2 (X : pm_XT) (v1 : Int) (I : pm_I) : f_T_lookForWeights_2 X v1 I =
  if v1 < (I 3 3) then
  if 0 ≤ v1 ∧ v1 < 8 then
  bif Nat.beq (pm_kd (pm_R 18 (Int.toNat v1))) 5 then
  (f_W_weighs X (pm_R 18 (Int.toNat v1)) I).bind (fun x1 =>
  if x1.1 = 0 then
  if pm_r32 (v1 + 1) then
  f_T_lookForWeights_2 X (v1 + 1) x1.2
  else none
  else (f_U_lookForWorth X v1 x1.2).bind (fun x2 =>
  if pm_r32 (v1 + 1) then
  f_T_lookForWeights_2 X (v1 + 1) x2.2
  else none))
  else none
  else none
  else some (0, I) := (pm_seg pm_T_ct (pm_env X) [0, 2] 20 87 2 2 [some (.inr (.inr 3)), some (.inl v1)] [] I).trans rfl
set_option maxRecDepth 100000 in
theorem e_T_sumLooked (X : pm_XT)  (I : pm_I) : f_T_sumLooked X  I =
  (f_U_markLines X I).bind (fun x1 =>
  (f_U_sumFrom X (3 + (10 - (0 : Int)).toNat) 0 1 (x1.2 10 1) x1.2).bind (fun x2 =>
  some (x2.1, x2.2))) := (pm_seg pm_T_ct (pm_env X) [0] 21 88 14 0 [some (.inr (.inr 3))] [] I).trans rfl
set_option maxRecDepth 100000 in
theorem e_T_commonDivisor (X : pm_XT) (w0 : Int) (w2 : Int) (I : pm_I) : f_T_commonDivisor X w0 w2 I =
  f_T_commonDivisor_9 X w0 w2 0 I := (pm_seg pm_T_ct (pm_env X) [0, 9] 8 89 0 0 [some (.inr (.inl w0)), none, some (.inr (.inl w2)), none, none, none, none, none, none, none, none] [] I).trans rfl
set_option maxRecDepth 100000 in
theorem e_T_commonDivisor_9 (X : pm_XT) (w4 : Int) (w6 : Int) (v8 : Int) (I : pm_I) : f_T_commonDivisor_9 X w4 w6 v8 I =
  if v8 < 200 then
  if 0 < w6 then
  if 0 ≤ (w4 : Int) ∧ 0 < (w6 : Int) then
  if pm_r32 (v8 + 1) then
  f_T_commonDivisor_9 X w6 (w4 % w6) (v8 + 1) I
  else none
  else none
  else if w6 = 0 then
  some (w4, I)
  else if 0 ≤ (w4 : Int) ∧ 0 < (w6 : Int) then
  if pm_r32 (v8 + 1) then
  f_T_commonDivisor_9 X w6 (w4 % w6) (v8 + 1) I
  else none
  else none
  else some (w4, I) := (pm_seg pm_T_ct (pm_env X) [0, 9] 19 89 0 9 [none, none, none, none, some (.inr (.inl w4)), none, some (.inr (.inl w6)), none, some (.inl v8), none, none] [] I).trans rfl
set_option maxRecDepth 100000 in
theorem e_T_linesFault (X : pm_XT) (r1 : Nat) (v2 : Int) (I : pm_I) : f_T_linesFault X r1 v2 I =
  f_T_linesFault_2 X r1 v2 0 I := (pm_seg pm_T_ct (pm_env X) [0, 2] 4 90 1 0 [some (.inr (.inr 3)), some (.inr (.inr r1)), some (.inl v2), none] [] I).trans rfl
set_option maxRecDepth 100000 in
theorem e_T_linesFault_2 (X : pm_XT) (r1 : Nat) (v2 : Int) (v3 : Int) (I : pm_I) : f_T_linesFault_2 X r1 v2 v3 I =
  if v3 < (I 10 1) then
  if pm_r32 (v2 + v3) then
  bif Nat.beq (pm_kd r1) 3 then
  (f_S_hasCell X r1 (v2 + v3) I).bind (fun x1 =>
  if x1.1 = 0 then
  some ((-12), x1.2)
  else bif Nat.beq (pm_kd r1) 3 then
  if pm_r32 (v2 + v3) then
  bif Nat.beq (pm_kd (pm_R r1 3)) 8 then
  if 0 ≤ (v2 + v3) ∧ (v2 + v3) < pm_ln X.2 (pm_R r1 3) then
  (f_T_isTurn X (x1.2 (pm_R r1 3) (v2 + v3)) x1.2).bind (fun x2 =>
  if x2.1 = 0 then
  if pm_r32 ((-20) - v3) then
  some (((-20) - v3), x2.2)
  else none
  else if pm_r32 (v3 + 1) then
  f_T_linesFault_2 X r1 v2 (v3 + 1) x2.2
  else none)
  else none
  else bif Nat.beq (pm_kd (pm_R r1 3)) 50 then
  if 0 ≤ (v2 + v3) ∧ (v2 + v3) < pm_ln X.2 (pm_R r1 3) then
  (f_T_isTurn X (pm_xv X.1 (pm_R r1 3) (v2 + v3)) x1.2).bind (fun x3 =>
  if x3.1 = 0 then
  if pm_r32 ((-20) - v3) then
  some (((-20) - v3), x3.2)
  else none
  else if pm_r32 (v3 + 1) then
  f_T_linesFault_2 X r1 v2 (v3 + 1) x3.2
  else none)
  else none
  else none
  else none
  else none)
  else none
  else none
  else some (0, I) := (pm_seg pm_T_ct (pm_env X) [0, 2] 25 90 1 2 [some (.inr (.inr 3)), some (.inr (.inr r1)), some (.inl v2), some (.inl v3)] [] I).trans rfl
set_option maxRecDepth 100000 in
theorem e_T_fillLines (X : pm_XT) (r1 : Nat) (v2 : Int) (I : pm_I) : f_T_fillLines X r1 v2 I =
  f_T_fillLines_5 X r1 v2 0 0 I := (pm_seg pm_T_ct (pm_env X) [0, 5] 6 91 2 0 [some (.inr (.inr 3)), some (.inr (.inr r1)), some (.inl v2), none, none, none] [] I).trans rfl
set_option maxRecDepth 100000 in
theorem e_T_fillLines_5 (X : pm_XT) (r1 : Nat) (v2 : Int) (v3 : Int) (v4 : Int) (I : pm_I) : f_T_fillLines_5 X r1 v2 v3 v4 I =
  if v4 < (I 10 1) then
  bif Nat.beq (pm_kd r1) 3 then
  if pm_r32 (v2 + v4) then
  bif Nat.beq (pm_kd (pm_R r1 3)) 8 then
  if 0 ≤ (v2 + v4) ∧ (v2 + v4) < pm_ln X.2 (pm_R r1 3) then
  if 0 ≤ v4 ∧ v4 < 10 then
  if (I (pm_R r1 3) (v2 + v4)) = (I 13 v4) then
  if pm_r32 (v4 + 1) then
  f_T_fillLines_5 X r1 v2 v3 (v4 + 1) I
  else none
  else (f_A_keep X I).bind (fun x1 =>
  if 0 ≤ v4 ∧ v4 < 10 then
  if pm_r32 (v3 + 1) then
  if pm_r32 (v4 + 1) then
  f_T_fillLines_5 X r1 v2 (v3 + 1) (v4 + 1) (pm_up x1.2 13 v4 (I (pm_R r1 3) (v2 + v4)))
  else none
  else none
  else none)
  else none
  else none
  else bif Nat.beq (pm_kd (pm_R r1 3)) 50 then
  if 0 ≤ (v2 + v4) ∧ (v2 + v4) < pm_ln X.2 (pm_R r1 3) then
  if 0 ≤ v4 ∧ v4 < 10 then
  if (pm_xv X.1 (pm_R r1 3) (v2 + v4)) = (I 13 v4) then
  if pm_r32 (v4 + 1) then
  f_T_fillLines_5 X r1 v2 v3 (v4 + 1) I
  else none
  else (f_A_keep X I).bind (fun x2 =>
  if 0 ≤ v4 ∧ v4 < 10 then
  if pm_r32 (v3 + 1) then
  if pm_r32 (v4 + 1) then
  f_T_fillLines_5 X r1 v2 (v3 + 1) (v4 + 1) (pm_up x2.2 13 v4 (pm_xv X.1 (pm_R r1 3) (v2 + v4)))
  else none
  else none
  else none)
  else none
  else none
  else none
  else none
  else none
  else some (v3, I) := (pm_seg pm_T_ct (pm_env X) [0, 5] 36 91 2 5 [some (.inr (.inr 3)), some (.inr (.inr r1)), some (.inl v2), some (.inl v3), some (.inl v4), none] [] I).trans rfl
end
section
set_option maxRecDepth 100000 in
theorem e_M_in (X : pm_XT) (w0 : Int) (w2 : Int) (w4 : Int) (I : pm_I) : f_M_in X w0 w2 w4 I =
  if w2 < w0 then
  if w4 < w0 then
  some (0, I)
  else if w0 = w4 then
  some (1, I)
  else some (1, I)
  else if w0 = w2 then
  if w4 < w0 then
  some (0, I)
  else if w0 = w4 then
  some (1, I)
  else some (1, I)
  else some (0, I) := (pm_seg pm_T_ct (pm_env X) [0] 12 92 0 0 [some (.inr (.inl w0)), none, some (.inr (.inl w2)), none, some (.inr (.inl w4)), none] [] I).trans rfl
set_option maxRecDepth 100000 in
theorem e_M_isTurn (X : pm_XT) (v1 : Int) (I : pm_I) : f_M_isTurn X v1 I =
  if pm_r32 ((I 77 0) - 1) then
  (f_M_in X v1 0 ((I 77 0) - 1) I).bind (fun x1 =>
  if x1.1 = 0 ∨ x1.1 = 1 then some (x1.1, x1.2) else none)
  else none := (pm_seg pm_T_ct (pm_env X) [0] 11 93 1 0 [some (.inr (.inr 77)), some (.inl v1)] [] I).trans rfl
set_option maxRecDepth 100000 in
theorem e_M_product (X : pm_XT) (v1 : Int) (v2 : Int) (I : pm_I) : f_M_product X v1 v2 I =
  if pm_r32 (8 * v1) then
  if pm_r32 ((8 * v1) + v2) then
  if 0 ≤ ((8 * v1) + v2) ∧ ((8 * v1) + v2) < 64 then
  some ((I 78 ((8 * v1) + v2)), I)
  else none
  else none
  else none := (pm_seg pm_T_ct (pm_env X) [0] 10 94 0 0 [some (.inr (.inr 77)), some (.inl v1), some (.inl v2)] [] I).trans rfl
set_option maxRecDepth 100000 in
theorem e_M_backOf (X : pm_XT) (v1 : Int) (I : pm_I) : f_M_backOf X v1 I =
  f_M_backOf_2 X v1 0 I := (pm_seg pm_T_ct (pm_env X) [0, 2] 4 95 1 0 [some (.inr (.inr 77)), some (.inl v1), none] [] I).trans rfl
set_option maxRecDepth 100000 in
theorem e_M_backOf_2 (X : pm_XT) (v1 : Int) (v2 : Int) (I : pm_I) : f_M_backOf_2 X v1 v2 I =
  (f_M_product X v1 v2 I).bind (fun x1 =>
  if x1.1 = 0 then
  some (v2, x1.2)
  else if pm_r32 (v2 + 1) then
  f_M_backOf_2 X v1 (v2 + 1) x1.2
  else none) := (pm_seg pm_T_ct (pm_env X) [0, 2] 9 95 1 2 [some (.inr (.inr 77)), some (.inl v1), some (.inl v2)] [] I).trans rfl
set_option maxRecDepth 100000 in
theorem e_M_begin (X : pm_XT) (v1 : Int) (I : pm_I) : f_M_begin X v1 I =
  f_M_begin_12 X 0 (pm_up (pm_up I 77 0 v1) 77 14 0) := (pm_seg pm_T_ct (pm_env X) [0, 12, 33] 10 96 0 0 [some (.inr (.inr 77)), some (.inl v1), none] [] I).trans rfl
set_option maxRecDepth 100000 in
theorem e_M_begin_12 (X : pm_XT) (v2 : Int) (I : pm_I) : f_M_begin_12 X v2 I =
  if v2 < 10 then
  if 0 ≤ v2 ∧ v2 < 10 then
  if pm_r32 (v2 + 1) then
  f_M_begin_12 X (v2 + 1) (pm_up I 82 v2 0)
  else none
  else none
  else f_M_begin_33 X 0 I := (pm_seg pm_T_ct (pm_env X) [0, 12, 33] 12 96 0 12 [some (.inr (.inr 77)), none, some (.inl v2)] [] I).trans rfl
set_option maxRecDepth 100000 in
theorem e_M_begin_33 (X : pm_XT) (v2 : Int) (I : pm_I) : f_M_begin_33 X v2 I =
  if v2 < 8 then
  if 0 ≤ v2 ∧ v2 < 8 then
  if pm_r32 (v2 + 1) then
  f_M_begin_33 X (v2 + 1) (pm_up I 79 v2 1)
  else none
  else none
  else some (0, I) := (pm_seg pm_T_ct (pm_env X) [0, 12, 33] 12 96 0 33 [some (.inr (.inr 77)), none, some (.inl v2)] [] I).trans rfl
set_option maxRecDepth 100000 in
theorem e_M_crossed (X : pm_XT) (v0 : Int) (v1 : Int) (I : pm_I) : f_M_crossed X v0 v1 I =
  if 0 ≤ (v0 : Int) ∧ 0 < (4 : Int) then
  if 0 ≤ (v1 : Int) ∧ 0 < (4 : Int) then
  if 0 ≤ (v0 : Int) ∧ 0 < (4 : Int) then
  if 0 ≤ (v1 : Int) ∧ 0 < (4 : Int) then
  if pm_r32 ((v0 / 4) + (v1 / 4)) then
  if (v0 % 4) = 0 then
  if pm_r32 ((v0 % 4) + (v1 % 4)) then
  if 0 ≤ (((v0 / 4) + (v1 / 4)) : Int) ∧ 0 < (2 : Int) then
  if pm_r32 (4 * (((v0 / 4) + (v1 / 4)) % 2)) then
  if pm_r32 (((v0 % 4) + (v1 % 4)) + (4 * (((v0 / 4) + (v1 / 4)) % 2))) then
  some ((((v0 % 4) + (v1 % 4)) + (4 * (((v0 / 4) + (v1 / 4)) % 2))), I)
  else none
  else none
  else none
  else none
  else if (v1 % 4) = 0 then
  if pm_r32 ((v0 % 4) + (v1 % 4)) then
  if 0 ≤ (((v0 / 4) + (v1 / 4)) : Int) ∧ 0 < (2 : Int) then
  if pm_r32 (4 * (((v0 / 4) + (v1 / 4)) % 2)) then
  if pm_r32 (((v0 % 4) + (v1 % 4)) + (4 * (((v0 / 4) + (v1 / 4)) % 2))) then
  some ((((v0 % 4) + (v1 % 4)) + (4 * (((v0 / 4) + (v1 / 4)) % 2))), I)
  else none
  else none
  else none
  else none
  else if (v0 % 4) = (v1 % 4) then
  if pm_r32 (((v0 / 4) + (v1 / 4)) + 1) then
  if 0 ≤ ((((v0 / 4) + (v1 / 4)) + 1) : Int) ∧ 0 < (2 : Int) then
  if pm_r32 (4 * ((((v0 / 4) + (v1 / 4)) + 1) % 2)) then
  if pm_r32 (0 + (4 * ((((v0 / 4) + (v1 / 4)) + 1) % 2))) then
  some ((0 + (4 * ((((v0 / 4) + (v1 / 4)) + 1) % 2))), I)
  else none
  else none
  else none
  else none
  else if pm_r32 (6 - (v0 % 4)) then
  if pm_r32 ((6 - (v0 % 4)) - (v1 % 4)) then
  if 0 ≤ ((v0 % 4) : Int) ∧ 0 < (3 : Int) then
  if pm_r32 (((v0 % 4) % 3) + 1) then
  if (v1 % 4) = (((v0 % 4) % 3) + 1) then
  if pm_r32 (((v0 / 4) + (v1 / 4)) + 0) then
  if 0 ≤ ((((v0 / 4) + (v1 / 4)) + 0) : Int) ∧ 0 < (2 : Int) then
  if pm_r32 (4 * ((((v0 / 4) + (v1 / 4)) + 0) % 2)) then
  if pm_r32 (((6 - (v0 % 4)) - (v1 % 4)) + (4 * ((((v0 / 4) + (v1 / 4)) + 0) % 2))) then
  some ((((6 - (v0 % 4)) - (v1 % 4)) + (4 * ((((v0 / 4) + (v1 / 4)) + 0) % 2))), I)
  else none
  else none
  else none
  else none
  else if pm_r32 (((v0 / 4) + (v1 / 4)) + 1) then
  if 0 ≤ ((((v0 / 4) + (v1 / 4)) + 1) : Int) ∧ 0 < (2 : Int) then
  if pm_r32 (4 * ((((v0 / 4) + (v1 / 4)) + 1) % 2)) then
  if pm_r32 (((6 - (v0 % 4)) - (v1 % 4)) + (4 * ((((v0 / 4) + (v1 / 4)) + 1) % 2))) then
  some ((((6 - (v0 % 4)) - (v1 % 4)) + (4 * ((((v0 / 4) + (v1 / 4)) + 1) % 2))), I)
  else none
  else none
  else none
  else none
  else none
  else none
  else none
  else none
  else none
  else none
  else none
  else none
  else none := (pm_seg pm_T_ct (pm_env X) [0] 50 97 0 0 [some (.inl v0), some (.inl v1), none, none, none, none] [] I).trans rfl
set_option maxRecDepth 100000 in
theorem e_M_group (X : pm_XT) (v1 : Int) (v2 : Int) (I : pm_I) : f_M_group X v1 v2 I =
  if v1 = 0 then
  (f_M_in X v2 1 8 I).bind (fun x1 =>
  if x1.1 = 0 then
  some ((-1), x1.2)
  else if v1 = 1 then
  if pm_r32 (2 * v2) then
  f_M_group_79 X v1 v2 (2 * v2) 0 x1.2
  else none
  else f_M_group_79 X v1 v2 v2 0 x1.2)
  else if v1 = 1 then
  if v2 = 3 then
  if v1 = 1 then
  if pm_r32 (2 * v2) then
  f_M_group_79 X v1 v2 (2 * v2) 0 I
  else none
  else f_M_group_79 X v1 v2 v2 0 I
  else if v2 = 4 then
  if v1 = 1 then
  if pm_r32 (2 * v2) then
  f_M_group_79 X v1 v2 (2 * v2) 0 I
  else none
  else f_M_group_79 X v1 v2 v2 0 I
  else some ((-1), I)
  else if v1 = 2 then
  if v2 = 8 then
  if v1 = 1 then
  if pm_r32 (2 * v2) then
  f_M_group_79 X v1 v2 (2 * v2) 0 I
  else none
  else f_M_group_79 X v1 v2 v2 0 I
  else some ((-1), I)
  else some ((-1), I) := (pm_seg pm_T_ct (pm_env X) [0, 79, 89] 28 98 1 0 [some (.inr (.inr 77)), some (.inl v1), some (.inl v2), none, none, none, none, none, none] [] I).trans rfl
set_option maxRecDepth 100000 in
theorem e_M_group_79 (X : pm_XT) (v1 : Int) (v2 : Int) (v4 : Int) (v5 : Int) (I : pm_I) : f_M_group_79 X v1 v2 v4 v5 I =
  if v5 < v4 then
  f_M_group_89 X v1 v2 v4 v5 0 I
  else (f_M_begin X v4 I).bind (fun x1 =>
  some (v4, x1.2)) := (pm_seg pm_T_ct (pm_env X) [0, 79, 89] 9 98 1 79 [some (.inr (.inr 77)), some (.inl v1), some (.inl v2), none, some (.inl v4), some (.inl v5), none, none, none] [] I).trans rfl
set_option maxRecDepth 100000 in
theorem e_M_group_89 (X : pm_XT) (v1 : Int) (v2 : Int) (v4 : Int) (v5 : Int) (v6 : Int) (I : pm_I) : f_M_group_89 X v1 v2 v4 v5 v6 I =
  if v6 < v4 then
  if v1 = 0 then
  if pm_r32 (v5 + v6) then
  if 0 ≤ ((v5 + v6) : Int) ∧ 0 < (v2 : Int) then
  if pm_r32 (8 * v5) then
  if pm_r32 ((8 * v5) + v6) then
  if 0 ≤ ((8 * v5) + v6) ∧ ((8 * v5) + v6) < 64 then
  if pm_r32 (v6 + 1) then
  f_M_group_89 X v1 v2 v4 v5 (v6 + 1) (pm_up I 78 ((8 * v5) + v6) ((v5 + v6) % v2))
  else none
  else none
  else none
  else none
  else none
  else none
  else if v1 = 1 then
  if v5 < v2 then
  if 0 ≤ (v6 : Int) ∧ 0 < (v2 : Int) then
  if pm_r32 (v5 + (v6 % v2)) then
  if 0 ≤ ((v5 + (v6 % v2)) : Int) ∧ 0 < (v2 : Int) then
  if v5 < v2 then
  if v6 < v2 then
  if pm_r32 (((v5 + (v6 % v2)) % v2) + 0) then
  if pm_r32 (8 * v5) then
  if pm_r32 ((8 * v5) + v6) then
  if 0 ≤ ((8 * v5) + v6) ∧ ((8 * v5) + v6) < 64 then
  if pm_r32 (v6 + 1) then
  f_M_group_89 X v1 v2 v4 v5 (v6 + 1) (pm_up I 78 ((8 * v5) + v6) (((v5 + (v6 % v2)) % v2) + 0))
  else none
  else none
  else none
  else none
  else none
  else if pm_r32 (((v5 + (v6 % v2)) % v2) + v2) then
  if pm_r32 (8 * v5) then
  if pm_r32 ((8 * v5) + v6) then
  if 0 ≤ ((8 * v5) + v6) ∧ ((8 * v5) + v6) < 64 then
  if pm_r32 (v6 + 1) then
  f_M_group_89 X v1 v2 v4 v5 (v6 + 1) (pm_up I 78 ((8 * v5) + v6) (((v5 + (v6 % v2)) % v2) + v2))
  else none
  else none
  else none
  else none
  else none
  else if v6 < v2 then
  if pm_r32 (((v5 + (v6 % v2)) % v2) + v2) then
  if pm_r32 (8 * v5) then
  if pm_r32 ((8 * v5) + v6) then
  if 0 ≤ ((8 * v5) + v6) ∧ ((8 * v5) + v6) < 64 then
  if pm_r32 (v6 + 1) then
  f_M_group_89 X v1 v2 v4 v5 (v6 + 1) (pm_up I 78 ((8 * v5) + v6) (((v5 + (v6 % v2)) % v2) + v2))
  else none
  else none
  else none
  else none
  else none
  else if pm_r32 (((v5 + (v6 % v2)) % v2) + 0) then
  if pm_r32 (8 * v5) then
  if pm_r32 ((8 * v5) + v6) then
  if 0 ≤ ((8 * v5) + v6) ∧ ((8 * v5) + v6) < 64 then
  if pm_r32 (v6 + 1) then
  f_M_group_89 X v1 v2 v4 v5 (v6 + 1) (pm_up I 78 ((8 * v5) + v6) (((v5 + (v6 % v2)) % v2) + 0))
  else none
  else none
  else none
  else none
  else none
  else none
  else none
  else none
  else if pm_r32 (v5 - v2) then
  if pm_r32 ((v5 - v2) + v2) then
  if 0 ≤ (v6 : Int) ∧ 0 < (v2 : Int) then
  if pm_r32 (((v5 - v2) + v2) - (v6 % v2)) then
  if 0 ≤ ((((v5 - v2) + v2) - (v6 % v2)) : Int) ∧ 0 < (v2 : Int) then
  if v5 < v2 then
  if v6 < v2 then
  if pm_r32 (((((v5 - v2) + v2) - (v6 % v2)) % v2) + 0) then
  if pm_r32 (8 * v5) then
  if pm_r32 ((8 * v5) + v6) then
  if 0 ≤ ((8 * v5) + v6) ∧ ((8 * v5) + v6) < 64 then
  if pm_r32 (v6 + 1) then
  f_M_group_89 X v1 v2 v4 v5 (v6 + 1) (pm_up I 78 ((8 * v5) + v6) (((((v5 - v2) + v2) - (v6 % v2)) % v2) + 0))
  else none
  else none
  else none
  else none
  else none
  else if pm_r32 (((((v5 - v2) + v2) - (v6 % v2)) % v2) + v2) then
  if pm_r32 (8 * v5) then
  if pm_r32 ((8 * v5) + v6) then
  if 0 ≤ ((8 * v5) + v6) ∧ ((8 * v5) + v6) < 64 then
  if pm_r32 (v6 + 1) then
  f_M_group_89 X v1 v2 v4 v5 (v6 + 1) (pm_up I 78 ((8 * v5) + v6) (((((v5 - v2) + v2) - (v6 % v2)) % v2) + v2))
  else none
  else none
  else none
  else none
  else none
  else if v6 < v2 then
  if pm_r32 (((((v5 - v2) + v2) - (v6 % v2)) % v2) + v2) then
  if pm_r32 (8 * v5) then
  if pm_r32 ((8 * v5) + v6) then
  if 0 ≤ ((8 * v5) + v6) ∧ ((8 * v5) + v6) < 64 then
  if pm_r32 (v6 + 1) then
  f_M_group_89 X v1 v2 v4 v5 (v6 + 1) (pm_up I 78 ((8 * v5) + v6) (((((v5 - v2) + v2) - (v6 % v2)) % v2) + v2))
  else none
  else none
  else none
  else none
  else none
  else if pm_r32 (((((v5 - v2) + v2) - (v6 % v2)) % v2) + 0) then
  if pm_r32 (8 * v5) then
  if pm_r32 ((8 * v5) + v6) then
  if 0 ≤ ((8 * v5) + v6) ∧ ((8 * v5) + v6) < 64 then
  if pm_r32 (v6 + 1) then
  f_M_group_89 X v1 v2 v4 v5 (v6 + 1) (pm_up I 78 ((8 * v5) + v6) (((((v5 - v2) + v2) - (v6 % v2)) % v2) + 0))
  else none
  else none
  else none
  else none
  else none
  else none
  else none
  else none
  else none
  else none
  else (f_M_crossed X v5 v6 I).bind (fun x1 =>
  if pm_r32 (8 * v5) then
  if pm_r32 ((8 * v5) + v6) then
  if 0 ≤ ((8 * v5) + v6) ∧ ((8 * v5) + v6) < 64 then
  if pm_r32 (v6 + 1) then
  f_M_group_89 X v1 v2 v4 v5 (v6 + 1) (pm_up x1.2 78 ((8 * v5) + v6) x1.1)
  else none
  else none
  else none
  else none)
  else if pm_r32 (v5 + 1) then
  f_M_group_79 X v1 v2 v4 (v5 + 1) I
  else none := (pm_seg pm_T_ct (pm_env X) [0, 79, 89] 53 98 1 89 [some (.inr (.inr 77)), some (.inl v1), some (.inl v2), none, some (.inl v4), some (.inl v5), some (.inl v6), none, none] [] I).trans rfl
set_option maxRecDepth 100000 in
theorem e_M_sheet (X : pm_XT) (v1 : Int) (v2 : Int) (v3 : Int) (I : pm_I) : f_M_sheet X v1 v2 v3 I =
  (f_M_in X v1 0 3 I).bind (fun x1 =>
  if x1.1 = 0 then
  some ((-1), x1.2)
  else (f_M_in X v2 0 2 x1.2).bind (fun x2 =>
  if x2.1 = 0 then
  some ((-1), x2.2)
  else if 64 < v3 then
  some ((-1), x2.2)
  else if v3 < 0 then
  some ((-14), x2.2)
  else if 0 ≤ v1 ∧ v1 < 4 then
  if 0 ≤ v1 ∧ v1 < 4 then
  f_M_sheet_56 X v1 0 (pm_up (pm_up x2.2 89 v1 v2) 90 v1 v3)
  else none
  else none)) := (pm_seg pm_T_ct (pm_env X) [0, 56] 31 99 1 0 [some (.inr (.inr 77)), some (.inl v1), some (.inl v2), some (.inl v3), none] [] I).trans rfl
set_option maxRecDepth 100000 in
theorem e_M_sheet_56 (X : pm_XT) (v1 : Int) (v4 : Int) (I : pm_I) : f_M_sheet_56 X v1 v4 I =
  if v4 < 64 then
  if pm_r32 (64 * v1) then
  if pm_r32 ((64 * v1) + v4) then
  if 0 ≤ ((64 * v1) + v4) ∧ ((64 * v1) + v4) < 256 then
  if pm_r32 (v4 + 1) then
  f_M_sheet_56 X v1 (v4 + 1) (pm_up I 91 ((64 * v1) + v4) 0)
  else none
  else none
  else none
  else none
  else some (1, I) := (pm_seg pm_T_ct (pm_env X) [0, 56] 16 99 1 56 [some (.inr (.inr 77)), some (.inl v1), none, none, some (.inl v4)] [] I).trans rfl
set_option maxRecDepth 100000 in
theorem e_M_lay (X : pm_XT) (v1 : Int) (v2 : Int) (v3 : Int) (I : pm_I) : f_M_lay X v1 v2 v3 I =
  (f_M_in X v1 0 3 I).bind (fun x1 =>
  if x1.1 = 0 then
  some ((-1), x1.2)
  else if 0 ≤ v1 ∧ v1 < 4 then
  if (x1.2 89 v1) = (-4) then
  some ((-11), x1.2)
  else if 0 ≤ v1 ∧ v1 < 4 then
  if pm_r32 ((x1.2 90 v1) - 1) then
  (f_M_in X v2 0 ((x1.2 90 v1) - 1) x1.2).bind (fun x2 =>
  if x2.1 = 0 then
  some ((-12), x2.2)
  else if pm_r32 (64 * v1) then
  if pm_r32 ((64 * v1) + v2) then
  if 0 ≤ v1 ∧ v1 < 4 then
  if (x2.2 89 v1) = 0 then
  if 0 ≤ ((64 * v1) + v2) ∧ ((64 * v1) + v2) < 256 then
  some (1, (pm_up x2.2 91 ((64 * v1) + v2) (pm_shr (pm_shl v3 24) 24)))
  else none
  else if 0 ≤ v1 ∧ v1 < 4 then
  if (x2.2 89 v1) = 1 then
  if 0 ≤ ((64 * v1) + v2) ∧ ((64 * v1) + v2) < 256 then
  some (1, (pm_up x2.2 91 ((64 * v1) + v2) (pm_shr (pm_shl v3 16) 16)))
  else none
  else if 0 ≤ ((64 * v1) + v2) ∧ ((64 * v1) + v2) < 256 then
  some (1, (pm_up x2.2 91 ((64 * v1) + v2) v3))
  else none
  else none
  else none
  else none
  else none)
  else none
  else none
  else none) := (pm_seg pm_T_ct (pm_env X) [0] 52 100 1 0 [some (.inr (.inr 77)), some (.inl v1), some (.inl v2), some (.inl v3)] [] I).trans rfl
set_option maxRecDepth 100000 in
theorem e_M_read (X : pm_XT) (v1 : Int) (v2 : Int) (v3 : Int) (v4 : Int) (I : pm_I) : f_M_read X v1 v2 v3 v4 I =
  (f_M_in X v1 0 3 I).bind (fun x1 =>
  if x1.1 = 0 then
  some ((-1), x1.2)
  else (f_M_in X v2 0 2 x1.2).bind (fun x2 =>
  if x2.1 = 0 then
  some ((-1), x2.2)
  else (f_M_in X v4 1 8 x2.2).bind (fun x3 =>
  if x3.1 = 0 then
  some ((-1), x3.2)
  else if 0 ≤ v1 ∧ v1 < 4 then
  if (x3.2 89 v1) = v2 then
  f_M_read_71 X v1 v3 v4 0 x3.2
  else if 0 ≤ v1 ∧ v1 < 4 then
  if (x3.2 89 v1) = (-4) then
  some ((-11), x3.2)
  else some ((-13), x3.2)
  else none
  else none))) := (pm_seg pm_T_ct (pm_env X) [0, 71, 173, 223, 236, 314, 324, 334, 432] 34 101 1 0 [some (.inr (.inr 77)), some (.inl v1), some (.inl v2), some (.inl v3), some (.inl v4), none, none, none] [] I).trans rfl
set_option maxRecDepth 100000 in
theorem e_M_read_71 (X : pm_XT) (v1 : Int) (v3 : Int) (v4 : Int) (v5 : Int) (I : pm_I) : f_M_read_71 X v1 v3 v4 v5 I =
  if pm_r32 (v4 * v4) then
  if v5 < (v4 * v4) then
  if 0 ≤ v1 ∧ v1 < 4 then
  if pm_r32 ((I 90 v1) - 1) then
  (f_M_in X (pm_w64 (v3 + v5)) 0 ((I 90 v1) - 1) I).bind (fun x1 =>
  if x1.1 = 0 then
  some ((-12), x1.2)
  else if pm_r32 (64 * v1) then
  if pm_r32 ((64 * v1) + v3) then
  if pm_r32 (((64 * v1) + v3) + v5) then
  if 0 ≤ (((64 * v1) + v3) + v5) ∧ (((64 * v1) + v3) + v5) < 256 then
  if pm_r32 (v4 - 1) then
  (f_M_in X (x1.2 91 (((64 * v1) + v3) + v5)) 0 (v4 - 1) x1.2).bind (fun x2 =>
  if x2.1 = 0 then
  if pm_r32 ((-100) - v5) then
  some (((-100) - v5), x2.2)
  else none
  else if 0 ≤ (v5 : Int) ∧ 0 < (v4 : Int) then
  if pm_r32 (8 * (v5 / v4)) then
  if 0 ≤ (v5 : Int) ∧ 0 < (v4 : Int) then
  if pm_r32 ((8 * (v5 / v4)) + (v5 % v4)) then
  if 0 ≤ ((8 * (v5 / v4)) + (v5 % v4)) ∧ ((8 * (v5 / v4)) + (v5 % v4)) < 64 then
  if pm_r32 (v5 + 1) then
  f_M_read_71 X v1 v3 v4 (v5 + 1) (pm_up x2.2 92 ((8 * (v5 / v4)) + (v5 % v4)) (x1.2 91 (((64 * v1) + v3) + v5)))
  else none
  else none
  else none
  else none
  else none
  else none)
  else none
  else none
  else none
  else none
  else none)
  else none
  else none
  else f_M_read_173 X v4 0 I
  else none := (pm_seg pm_T_ct (pm_env X) [0, 71, 173, 223, 236, 314, 324, 334, 432] 57 101 1 71 [some (.inr (.inr 77)), some (.inl v1), none, some (.inl v3), some (.inl v4), some (.inl v5), none, none] [] I).trans rfl
set_option maxRecDepth 100000 in
theorem e_M_read_173 (X : pm_XT) (v4 : Int) (v5 : Int) (I : pm_I) : f_M_read_173 X v4 v5 I =
  if v5 < v4 then
  if 0 ≤ v5 ∧ v5 < 64 then
  if (I 92 v5) = v5 then
  if pm_r32 (8 * v5) then
  if 0 ≤ (8 * v5) ∧ (8 * v5) < 64 then
  if (I 92 (8 * v5)) = v5 then
  if pm_r32 (v5 + 1) then
  f_M_read_173 X v4 (v5 + 1) I
  else none
  else if pm_r32 ((-200) - v5) then
  some (((-200) - v5), I)
  else none
  else none
  else none
  else if pm_r32 ((-200) - v5) then
  some (((-200) - v5), I)
  else none
  else none
  else f_M_read_223 X v4 0 I := (pm_seg pm_T_ct (pm_env X) [0, 71, 173, 223, 236, 314, 324, 334, 432] 22 101 1 173 [some (.inr (.inr 77)), none, none, none, some (.inl v4), some (.inl v5), none, none] [] I).trans rfl
set_option maxRecDepth 100000 in
theorem e_M_read_223 (X : pm_XT) (v4 : Int) (v5 : Int) (I : pm_I) : f_M_read_223 X v4 v5 I =
  if v5 < v4 then
  f_M_read_236 X v4 v5 0 0 I
  else f_M_read_314 X v4 0 I := (pm_seg pm_T_ct (pm_env X) [0, 71, 173, 223, 236, 314, 324, 334, 432] 9 101 1 223 [some (.inr (.inr 77)), none, none, none, some (.inl v4), some (.inl v5), none, none] [] I).trans rfl
set_option maxRecDepth 100000 in
theorem e_M_read_236 (X : pm_XT) (v4 : Int) (v5 : Int) (v6 : Int) (v7 : Int) (I : pm_I) : f_M_read_236 X v4 v5 v6 v7 I =
  if v7 < v4 then
  if v6 = 0 then
  if pm_r32 (8 * v5) then
  if pm_r32 ((8 * v5) + v7) then
  if 0 ≤ ((8 * v5) + v7) ∧ ((8 * v5) + v7) < 64 then
  if (I 92 ((8 * v5) + v7)) = 0 then
  if pm_r32 (8 * v7) then
  if pm_r32 ((8 * v7) + v5) then
  if 0 ≤ ((8 * v7) + v5) ∧ ((8 * v7) + v5) < 64 then
  if (I 92 ((8 * v7) + v5)) = 0 then
  if pm_r32 (v7 + 1) then
  f_M_read_236 X v4 v5 1 (v7 + 1) I
  else none
  else if pm_r32 (v7 + 1) then
  f_M_read_236 X v4 v5 0 (v7 + 1) I
  else none
  else none
  else none
  else none
  else if pm_r32 (v7 + 1) then
  f_M_read_236 X v4 v5 0 (v7 + 1) I
  else none
  else none
  else none
  else none
  else if pm_r32 (v7 + 1) then
  f_M_read_236 X v4 v5 1 (v7 + 1) I
  else none
  else if v6 = 0 then
  if pm_r32 ((-300) - v5) then
  some (((-300) - v5), I)
  else none
  else if pm_r32 (v5 + 1) then
  f_M_read_223 X v4 (v5 + 1) I
  else none := (pm_seg pm_T_ct (pm_env X) [0, 71, 173, 223, 236, 314, 324, 334, 432] 30 101 1 236 [some (.inr (.inr 77)), none, none, none, some (.inl v4), some (.inl v5), some (.inl v6), some (.inl v7)] [] I).trans rfl
set_option maxRecDepth 100000 in
theorem e_M_read_314 (X : pm_XT) (v4 : Int) (v5 : Int) (I : pm_I) : f_M_read_314 X v4 v5 I =
  if v5 < v4 then
  f_M_read_324 X v4 v5 0 I
  else f_M_read_432 X v4 0 I := (pm_seg pm_T_ct (pm_env X) [0, 71, 173, 223, 236, 314, 324, 334, 432] 7 101 1 314 [some (.inr (.inr 77)), none, none, none, some (.inl v4), some (.inl v5), none, none] [] I).trans rfl
set_option maxRecDepth 100000 in
theorem e_M_read_324 (X : pm_XT) (v4 : Int) (v5 : Int) (v6 : Int) (I : pm_I) : f_M_read_324 X v4 v5 v6 I =
  if v6 < v4 then
  f_M_read_334 X v4 v5 v6 0 I
  else if pm_r32 (v5 + 1) then
  f_M_read_314 X v4 (v5 + 1) I
  else none := (pm_seg pm_T_ct (pm_env X) [0, 71, 173, 223, 236, 314, 324, 334, 432] 7 101 1 324 [some (.inr (.inr 77)), none, none, none, some (.inl v4), some (.inl v5), some (.inl v6), none] [] I).trans rfl
set_option maxRecDepth 100000 in
theorem e_M_read_334 (X : pm_XT) (v4 : Int) (v5 : Int) (v6 : Int) (v7 : Int) (I : pm_I) : f_M_read_334 X v4 v5 v6 v7 I =
  if v7 < v4 then
  if pm_r32 (8 * v5) then
  if pm_r32 ((8 * v5) + v6) then
  if 0 ≤ ((8 * v5) + v6) ∧ ((8 * v5) + v6) < 64 then
  if pm_r32 (8 * (I 92 ((8 * v5) + v6))) then
  if pm_r32 ((8 * (I 92 ((8 * v5) + v6))) + v7) then
  if 0 ≤ ((8 * (I 92 ((8 * v5) + v6))) + v7) ∧ ((8 * (I 92 ((8 * v5) + v6))) + v7) < 64 then
  if pm_r32 (8 * v5) then
  if pm_r32 (8 * v6) then
  if pm_r32 ((8 * v6) + v7) then
  if 0 ≤ ((8 * v6) + v7) ∧ ((8 * v6) + v7) < 64 then
  if pm_r32 ((8 * v5) + (I 92 ((8 * v6) + v7))) then
  if 0 ≤ ((8 * v5) + (I 92 ((8 * v6) + v7))) ∧ ((8 * v5) + (I 92 ((8 * v6) + v7))) < 64 then
  if (I 92 ((8 * (I 92 ((8 * v5) + v6))) + v7)) = (I 92 ((8 * v5) + (I 92 ((8 * v6) + v7)))) then
  if pm_r32 (v7 + 1) then
  f_M_read_334 X v4 v5 v6 (v7 + 1) I
  else none
  else if pm_r32 (64 * v5) then
  if pm_r32 ((-1000) - (64 * v5)) then
  if pm_r32 (8 * v6) then
  if pm_r32 (((-1000) - (64 * v5)) - (8 * v6)) then
  if pm_r32 ((((-1000) - (64 * v5)) - (8 * v6)) - v7) then
  some (((((-1000) - (64 * v5)) - (8 * v6)) - v7), I)
  else none
  else none
  else none
  else none
  else none
  else none
  else none
  else none
  else none
  else none
  else none
  else none
  else none
  else none
  else none
  else none
  else none
  else if pm_r32 (v6 + 1) then
  f_M_read_324 X v4 v5 (v6 + 1) I
  else none := (pm_seg pm_T_ct (pm_env X) [0, 71, 173, 223, 236, 314, 324, 334, 432] 47 101 1 334 [some (.inr (.inr 77)), none, none, none, some (.inl v4), some (.inl v5), some (.inl v6), some (.inl v7)] [] I).trans rfl
set_option maxRecDepth 100000 in
theorem e_M_read_432 (X : pm_XT) (v4 : Int) (v5 : Int) (I : pm_I) : f_M_read_432 X v4 v5 I =
  if v5 < 64 then
  if 0 ≤ v5 ∧ v5 < 64 then
  if 0 ≤ v5 ∧ v5 < 64 then
  if pm_r32 (v5 + 1) then
  f_M_read_432 X v4 (v5 + 1) (pm_up I 78 v5 (I 92 v5))
  else none
  else none
  else none
  else (f_M_begin X v4 I).bind (fun x1 =>
  some (v4, x1.2)) := (pm_seg pm_T_ct (pm_env X) [0, 71, 173, 223, 236, 314, 324, 334, 432] 15 101 1 432 [some (.inr (.inr 77)), none, none, none, some (.inl v4), some (.inl v5), none, none] [] I).trans rfl
set_option maxRecDepth 100000 in
theorem e_M_times (X : pm_XT) (v1 : Int) (v2 : Int) (I : pm_I) : f_M_times X v1 v2 I =
  (f_M_isTurn X v1 I).bind (fun x1 =>
  if x1.1 = 0 then
  some ((-1), x1.2)
  else (f_M_isTurn X v2 x1.2).bind (fun x2 =>
  if x2.1 = 0 then
  some ((-1), x2.2)
  else (f_M_product X v1 v2 x2.2).bind (fun x3 =>
  some (x3.1, x3.2)))) := (pm_seg pm_T_ct (pm_env X) [0] 15 102 2 0 [some (.inr (.inr 77)), some (.inl v1), some (.inl v2)] [] I).trans rfl
set_option maxRecDepth 100000 in
theorem e_M_classOf (X : pm_XT) (v1 : Int) (I : pm_I) : f_M_classOf X v1 I =
  f_M_classOf_4 X v1 v1 0 I := (pm_seg pm_T_ct (pm_env X) [0, 4] 6 103 2 0 [some (.inr (.inr 77)), some (.inl v1), none, none, none] [] I).trans rfl
set_option maxRecDepth 100000 in
theorem e_M_classOf_4 (X : pm_XT) (v1 : Int) (v2 : Int) (v3 : Int) (I : pm_I) : f_M_classOf_4 X v1 v2 v3 I =
  if v3 < (I 77 0) then
  (f_M_product X v3 v1 I).bind (fun x1 =>
  (f_M_backOf X v3 x1.2).bind (fun x2 =>
  (f_M_product X x1.1 x2.1 x2.2).bind (fun x3 =>
  if x3.1 < v2 then
  if pm_r32 (v3 + 1) then
  f_M_classOf_4 X v1 x3.1 (v3 + 1) x3.2
  else none
  else if pm_r32 (v3 + 1) then
  f_M_classOf_4 X v1 v2 (v3 + 1) x3.2
  else none)))
  else some (v2, I) := (pm_seg pm_T_ct (pm_env X) [0, 4] 24 103 2 4 [some (.inr (.inr 77)), some (.inl v1), some (.inl v2), some (.inl v3), none] [] I).trans rfl
set_option maxRecDepth 100000 in
theorem e_M_alikeWith (X : pm_XT) (v1 : Int) (I : pm_I) : f_M_alikeWith X v1 I =
  f_M_alikeWith_4 X v1 0 0 I := (pm_seg pm_T_ct (pm_env X) [0, 4] 6 104 1 0 [some (.inr (.inr 77)), some (.inl v1), none, none] [] I).trans rfl
set_option maxRecDepth 100000 in
theorem e_M_alikeWith_4 (X : pm_XT) (v1 : Int) (v2 : Int) (v3 : Int) (I : pm_I) : f_M_alikeWith_4 X v1 v2 v3 I =
  if v3 < (I 77 0) then
  (f_M_product X v1 v3 I).bind (fun x1 =>
  (f_M_product X v3 v1 x1.2).bind (fun x2 =>
  if x1.1 = x2.1 then
  if pm_r32 (v2 + 1) then
  if pm_r32 (v3 + 1) then
  f_M_alikeWith_4 X v1 (v2 + 1) (v3 + 1) x2.2
  else none
  else none
  else if pm_r32 (v2 + 0) then
  if pm_r32 (v3 + 1) then
  f_M_alikeWith_4 X v1 (v2 + 0) (v3 + 1) x2.2
  else none
  else none))
  else some (v2, I) := (pm_seg pm_T_ct (pm_env X) [0, 4] 22 104 1 4 [some (.inr (.inr 77)), some (.inl v1), some (.inl v2), some (.inl v3)] [] I).trans rfl
set_option maxRecDepth 100000 in
theorem e_M_turn (X : pm_XT) (v1 : Int) (v2 : Int) (I : pm_I) : f_M_turn X v1 v2 I =
  (f_M_isTurn X v1 I).bind (fun x1 =>
  if x1.1 = 0 then
  some ((-1), x1.2)
  else (f_M_in X v2 0 5 x1.2).bind (fun x2 =>
  if x2.1 = 0 then
  some ((-1), x2.2)
  else if v2 = 0 then
  (f_M_backOf X v1 x2.2).bind (fun x3 =>
  some (x3.1, x3.2))
  else if v2 = 1 then
  f_M_turn_71 X v1 1 v1 x2.2
  else if v2 = 2 then
  (f_M_classOf X v1 x2.2).bind (fun x4 =>
  some (x4.1, x4.2))
  else if v2 = 3 then
  f_M_turn_102 X v1 0 0 x2.2
  else if v2 = 4 then
  if 0 ≤ v1 ∧ v1 < 8 then
  some ((x2.2 79 v1), x2.2)
  else none
  else (f_M_alikeWith X v1 x2.2).bind (fun x5 =>
  some (x5.1, x5.2)))) := (pm_seg pm_T_ct (pm_env X) [0, 71, 102] 20 105 3 0 [some (.inr (.inr 77)), some (.inl v1), some (.inl v2), none, none] [] I).trans rfl
set_option maxRecDepth 100000 in
theorem e_M_turn_71 (X : pm_XT) (v1 : Int) (v3 : Int) (v4 : Int) (I : pm_I) : f_M_turn_71 X v1 v3 v4 I =
  if v4 = 0 then
  some (v3, I)
  else (f_M_product X v4 v1 I).bind (fun x1 =>
  if pm_r32 (v3 + 1) then
  f_M_turn_71 X v1 (v3 + 1) x1.1 x1.2
  else none) := (pm_seg pm_T_ct (pm_env X) [0, 71, 102] 11 105 3 71 [some (.inr (.inr 77)), some (.inl v1), none, some (.inl v3), some (.inl v4)] [] I).trans rfl
set_option maxRecDepth 100000 in
theorem e_M_turn_102 (X : pm_XT) (v1 : Int) (v3 : Int) (v4 : Int) (I : pm_I) : f_M_turn_102 X v1 v3 v4 I =
  if v4 < (I 77 0) then
  (f_M_classOf X v4 I).bind (fun x1 =>
  (f_M_classOf X v1 x1.2).bind (fun x2 =>
  if x1.1 = x2.1 then
  if pm_r32 (v3 + 1) then
  if pm_r32 (v4 + 1) then
  f_M_turn_102 X v1 (v3 + 1) (v4 + 1) x2.2
  else none
  else none
  else if pm_r32 (v3 + 0) then
  if pm_r32 (v4 + 1) then
  f_M_turn_102 X v1 (v3 + 0) (v4 + 1) x2.2
  else none
  else none))
  else some (v3, I) := (pm_seg pm_T_ct (pm_env X) [0, 71, 102] 20 105 3 102 [some (.inr (.inr 77)), some (.inl v1), none, some (.inl v3), some (.inl v4)] [] I).trans rfl
set_option maxRecDepth 100000 in
theorem e_M_about (X : pm_XT) (v1 : Int) (I : pm_I) : f_M_about X v1 I =
  (f_M_in X v1 0 4 I).bind (fun x1 =>
  if x1.1 = 0 then
  some ((-1), x1.2)
  else f_M_about_24 X v1 0 0 0 0 x1.2) := (pm_seg pm_T_ct (pm_env X) [0, 24] 16 106 3 0 [some (.inr (.inr 77)), some (.inl v1), none, none, none, none] [] I).trans rfl
set_option maxRecDepth 100000 in
theorem e_M_about_24 (X : pm_XT) (v1 : Int) (v2 : Int) (v3 : Int) (v4 : Int) (v5 : Int) (I : pm_I) : f_M_about_24 X v1 v2 v3 v4 v5 I =
  if v5 < (I 77 0) then
  (f_M_classOf X v5 I).bind (fun x1 =>
  if x1.1 = v5 then
  if pm_r32 (v2 + 1) then
  (f_M_alikeWith X v5 x1.2).bind (fun x2 =>
  if x2.1 = (x2.2 77 0) then
  if pm_r32 (v3 + 1) then
  (f_M_alikeWith X v5 x2.2).bind (fun x3 =>
  if pm_r32 (v4 + x3.1) then
  if pm_r32 (v5 + 1) then
  f_M_about_24 X v1 (v2 + 1) (v3 + 1) (v4 + x3.1) (v5 + 1) x3.2
  else none
  else none)
  else none
  else if pm_r32 (v3 + 0) then
  (f_M_alikeWith X v5 x2.2).bind (fun x4 =>
  if pm_r32 (v4 + x4.1) then
  if pm_r32 (v5 + 1) then
  f_M_about_24 X v1 (v2 + 1) (v3 + 0) (v4 + x4.1) (v5 + 1) x4.2
  else none
  else none)
  else none)
  else none
  else if pm_r32 (v2 + 0) then
  (f_M_alikeWith X v5 x1.2).bind (fun x5 =>
  if x5.1 = (x5.2 77 0) then
  if pm_r32 (v3 + 1) then
  (f_M_alikeWith X v5 x5.2).bind (fun x6 =>
  if pm_r32 (v4 + x6.1) then
  if pm_r32 (v5 + 1) then
  f_M_about_24 X v1 (v2 + 0) (v3 + 1) (v4 + x6.1) (v5 + 1) x6.2
  else none
  else none)
  else none
  else if pm_r32 (v3 + 0) then
  (f_M_alikeWith X v5 x5.2).bind (fun x7 =>
  if pm_r32 (v4 + x7.1) then
  if pm_r32 (v5 + 1) then
  f_M_about_24 X v1 (v2 + 0) (v3 + 0) (v4 + x7.1) (v5 + 1) x7.2
  else none
  else none)
  else none)
  else none)
  else if v1 = 0 then
  some ((I 77 0), I)
  else if v1 = 1 then
  some (v2, I)
  else if v1 = 2 then
  some (v3, I)
  else if v1 = 3 then
  some (v4, I)
  else if v3 = (I 77 0) then
  some (1, I)
  else some (0, I) := (pm_seg pm_T_ct (pm_env X) [0, 24] 35 106 3 24 [some (.inr (.inr 77)), some (.inl v1), some (.inl v2), some (.inl v3), some (.inl v4), some (.inl v5)] [] I).trans rfl
set_option maxRecDepth 100000 in
theorem e_M_worth (X : pm_XT) (v1 : Int) (v2 : Int) (I : pm_I) : f_M_worth X v1 v2 I =
  (f_M_isTurn X v1 I).bind (fun x1 =>
  if x1.1 = 0 then
  some ((-1), x1.2)
  else (f_M_in X v2 0 9 x1.2).bind (fun x2 =>
  if x2.1 = 0 then
  some ((-1), x2.2)
  else if 0 ≤ v1 ∧ v1 < 8 then
  (f_M_classOf X v1 x2.2).bind (fun x3 =>
  f_M_worth_39 X v2 (x2.2 79 v1) x3.1 0 x3.2)
  else none)) := (pm_seg pm_T_ct (pm_env X) [0, 39] 23 107 3 0 [some (.inr (.inr 77)), some (.inl v1), some (.inl v2), none, none, none] [] I).trans rfl
set_option maxRecDepth 100000 in
theorem e_M_worth_39 (X : pm_XT) (v2 : Int) (v3 : Int) (v4 : Int) (v5 : Int) (I : pm_I) : f_M_worth_39 X v2 v3 v4 v5 I =
  if v5 < (I 77 0) then
  (f_M_classOf X v5 I).bind (fun x1 =>
  if x1.1 = v4 then
  if 0 ≤ v5 ∧ v5 < 8 then
  if pm_r32 (v5 + 1) then
  f_M_worth_39 X v2 v3 v4 (v5 + 1) (pm_up x1.2 79 v5 v2)
  else none
  else none
  else if 0 ≤ v5 ∧ v5 < 8 then
  if 0 ≤ v5 ∧ v5 < 8 then
  if pm_r32 (v5 + 1) then
  f_M_worth_39 X v2 v3 v4 (v5 + 1) (pm_up x1.2 79 v5 (x1.2 79 v5))
  else none
  else none
  else none)
  else some (v3, I) := (pm_seg pm_T_ct (pm_env X) [0, 39] 21 107 3 39 [some (.inr (.inr 77)), none, some (.inl v2), some (.inl v3), some (.inl v4), some (.inl v5)] [] I).trans rfl
set_option maxRecDepth 100000 in
theorem e_M_isLine (X : pm_XT) (v1 : Int) (I : pm_I) : f_M_isLine X v1 I =
  if pm_r32 ((I 77 4) - 1) then
  (f_M_in X v1 0 ((I 77 4) - 1) I).bind (fun x1 =>
  if x1.1 = 0 ∨ x1.1 = 1 then some (x1.1, x1.2) else none)
  else none := (pm_seg pm_T_ct (pm_env X) [0] 11 108 1 0 [some (.inr (.inr 77)), some (.inl v1)] [] I).trans rfl
set_option maxRecDepth 100000 in
theorem e_M_isWalk (X : pm_XT) (v1 : Int) (I : pm_I) : f_M_isWalk X v1 I =
  if pm_r32 ((I 77 8) - 1) then
  (f_M_in X v1 0 ((I 77 8) - 1) I).bind (fun x1 =>
  if x1.1 = 0 ∨ x1.1 = 1 then some (x1.1, x1.2) else none)
  else none := (pm_seg pm_T_ct (pm_env X) [0] 11 109 1 0 [some (.inr (.inr 77)), some (.inl v1)] [] I).trans rfl
set_option maxRecDepth 100000 in
theorem e_M_isPoint (X : pm_XT) (v1 : Int) (I : pm_I) : f_M_isPoint X v1 I =
  if pm_r32 ((I 77 3) - 1) then
  (f_M_in X v1 0 ((I 77 3) - 1) I).bind (fun x1 =>
  if x1.1 = 0 ∨ x1.1 = 1 then some (x1.1, x1.2) else none)
  else none := (pm_seg pm_T_ct (pm_env X) [0] 11 110 1 0 [some (.inr (.inr 77)), some (.inl v1)] [] I).trans rfl
set_option maxRecDepth 100000 in
theorem e_M_point (X : pm_XT)  (I : pm_I) : f_M_point X  I =
  if (I 77 3) = 6 then
  some ((-3), I)
  else if pm_r32 ((I 77 3) + 1) then
  if pm_r32 (((pm_up I 77 3 ((I 77 3) + 1)) 77 3) - 1) then
  some ((((pm_up I 77 3 ((I 77 3) + 1)) 77 3) - 1), (pm_up I 77 3 ((I 77 3) + 1)))
  else none
  else none := (pm_seg pm_T_ct (pm_env X) [0] 16 111 0 0 [some (.inr (.inr 77))] [] I).trans rfl
set_option maxRecDepth 100000 in
theorem e_M_line (X : pm_XT) (v1 : Int) (v2 : Int) (I : pm_I) : f_M_line X v1 v2 I =
  (f_M_isPoint X v1 I).bind (fun x1 =>
  if x1.1 = 0 then
  some ((-1), x1.2)
  else (f_M_isPoint X v2 x1.2).bind (fun x2 =>
  if x2.1 = 0 then
  some ((-1), x2.2)
  else if (x2.2 77 4) = 10 then
  some ((-3), x2.2)
  else if 0 ≤ (x2.2 77 4) ∧ (x2.2 77 4) < 10 then
  if 0 ≤ ((pm_up x2.2 80 (x2.2 77 4) v1) 77 4) ∧ ((pm_up x2.2 80 (x2.2 77 4) v1) 77 4) < 10 then
  if 0 ≤ ((pm_up (pm_up x2.2 80 (x2.2 77 4) v1) 81 ((pm_up x2.2 80 (x2.2 77 4) v1) 77 4) v2) 77 4) ∧ ((pm_up (pm_up x2.2 80 (x2.2 77 4) v1) 81 ((pm_up x2.2 80 (x2.2 77 4) v1) 77 4) v2) 77 4) < 10 then
  if pm_r32 (((pm_up (pm_up (pm_up x2.2 80 (x2.2 77 4) v1) 81 ((pm_up x2.2 80 (x2.2 77 4) v1) 77 4) v2) 82 ((pm_up (pm_up x2.2 80 (x2.2 77 4) v1) 81 ((pm_up x2.2 80 (x2.2 77 4) v1) 77 4) v2) 77 4) 0) 77 4) + 1) then
  if pm_r32 (((pm_up (pm_up (pm_up (pm_up x2.2 80 (x2.2 77 4) v1) 81 ((pm_up x2.2 80 (x2.2 77 4) v1) 77 4) v2) 82 ((pm_up (pm_up x2.2 80 (x2.2 77 4) v1) 81 ((pm_up x2.2 80 (x2.2 77 4) v1) 77 4) v2) 77 4) 0) 77 4 (((pm_up (pm_up (pm_up x2.2 80 (x2.2 77 4) v1) 81 ((pm_up x2.2 80 (x2.2 77 4) v1) 77 4) v2) 82 ((pm_up (pm_up x2.2 80 (x2.2 77 4) v1) 81 ((pm_up x2.2 80 (x2.2 77 4) v1) 77 4) v2) 77 4) 0) 77 4) + 1)) 77 4) - 1) then
  some ((((pm_up (pm_up (pm_up (pm_up x2.2 80 (x2.2 77 4) v1) 81 ((pm_up x2.2 80 (x2.2 77 4) v1) 77 4) v2) 82 ((pm_up (pm_up x2.2 80 (x2.2 77 4) v1) 81 ((pm_up x2.2 80 (x2.2 77 4) v1) 77 4) v2) 77 4) 0) 77 4 (((pm_up (pm_up (pm_up x2.2 80 (x2.2 77 4) v1) 81 ((pm_up x2.2 80 (x2.2 77 4) v1) 77 4) v2) 82 ((pm_up (pm_up x2.2 80 (x2.2 77 4) v1) 81 ((pm_up x2.2 80 (x2.2 77 4) v1) 77 4) v2) 77 4) 0) 77 4) + 1)) 77 4) - 1), (pm_up (pm_up (pm_up (pm_up x2.2 80 (x2.2 77 4) v1) 81 ((pm_up x2.2 80 (x2.2 77 4) v1) 77 4) v2) 82 ((pm_up (pm_up x2.2 80 (x2.2 77 4) v1) 81 ((pm_up x2.2 80 (x2.2 77 4) v1) 77 4) v2) 77 4) 0) 77 4 (((pm_up (pm_up (pm_up x2.2 80 (x2.2 77 4) v1) 81 ((pm_up x2.2 80 (x2.2 77 4) v1) 77 4) v2) 82 ((pm_up (pm_up x2.2 80 (x2.2 77 4) v1) 81 ((pm_up x2.2 80 (x2.2 77 4) v1) 77 4) v2) 77 4) 0) 77 4) + 1)))
  else none
  else none
  else none
  else none
  else none)) := (pm_seg pm_T_ct (pm_env X) [0] 42 112 2 0 [some (.inr (.inr 77)), some (.inl v1), some (.inl v2)] [] I).trans rfl
set_option maxRecDepth 100000 in
theorem e_M_walk (X : pm_XT) (v1 : Int) (I : pm_I) : f_M_walk X v1 I =
  (f_M_isPoint X v1 I).bind (fun x1 =>
  if x1.1 = 0 then
  some ((-1), x1.2)
  else if (x1.2 77 8) = 8 then
  some ((-3), x1.2)
  else if 0 ≤ (x1.2 77 8) ∧ (x1.2 77 8) < 8 then
  if 0 ≤ ((pm_up x1.2 83 (x1.2 77 8) v1) 77 8) ∧ ((pm_up x1.2 83 (x1.2 77 8) v1) 77 8) < 8 then
  if 0 ≤ ((pm_up (pm_up x1.2 83 (x1.2 77 8) v1) 84 ((pm_up x1.2 83 (x1.2 77 8) v1) 77 8) 0) 77 8) ∧ ((pm_up (pm_up x1.2 83 (x1.2 77 8) v1) 84 ((pm_up x1.2 83 (x1.2 77 8) v1) 77 8) 0) 77 8) < 8 then
  if pm_r32 (((pm_up (pm_up (pm_up x1.2 83 (x1.2 77 8) v1) 84 ((pm_up x1.2 83 (x1.2 77 8) v1) 77 8) 0) 87 ((pm_up (pm_up x1.2 83 (x1.2 77 8) v1) 84 ((pm_up x1.2 83 (x1.2 77 8) v1) 77 8) 0) 77 8) 1) 77 8) + 1) then
  if pm_r32 (((pm_up (pm_up (pm_up (pm_up x1.2 83 (x1.2 77 8) v1) 84 ((pm_up x1.2 83 (x1.2 77 8) v1) 77 8) 0) 87 ((pm_up (pm_up x1.2 83 (x1.2 77 8) v1) 84 ((pm_up x1.2 83 (x1.2 77 8) v1) 77 8) 0) 77 8) 1) 77 8 (((pm_up (pm_up (pm_up x1.2 83 (x1.2 77 8) v1) 84 ((pm_up x1.2 83 (x1.2 77 8) v1) 77 8) 0) 87 ((pm_up (pm_up x1.2 83 (x1.2 77 8) v1) 84 ((pm_up x1.2 83 (x1.2 77 8) v1) 77 8) 0) 77 8) 1) 77 8) + 1)) 77 8) - 1) then
  some ((((pm_up (pm_up (pm_up (pm_up x1.2 83 (x1.2 77 8) v1) 84 ((pm_up x1.2 83 (x1.2 77 8) v1) 77 8) 0) 87 ((pm_up (pm_up x1.2 83 (x1.2 77 8) v1) 84 ((pm_up x1.2 83 (x1.2 77 8) v1) 77 8) 0) 77 8) 1) 77 8 (((pm_up (pm_up (pm_up x1.2 83 (x1.2 77 8) v1) 84 ((pm_up x1.2 83 (x1.2 77 8) v1) 77 8) 0) 87 ((pm_up (pm_up x1.2 83 (x1.2 77 8) v1) 84 ((pm_up x1.2 83 (x1.2 77 8) v1) 77 8) 0) 77 8) 1) 77 8) + 1)) 77 8) - 1), (pm_up (pm_up (pm_up (pm_up x1.2 83 (x1.2 77 8) v1) 84 ((pm_up x1.2 83 (x1.2 77 8) v1) 77 8) 0) 87 ((pm_up (pm_up x1.2 83 (x1.2 77 8) v1) 84 ((pm_up x1.2 83 (x1.2 77 8) v1) 77 8) 0) 77 8) 1) 77 8 (((pm_up (pm_up (pm_up x1.2 83 (x1.2 77 8) v1) 84 ((pm_up x1.2 83 (x1.2 77 8) v1) 77 8) 0) 87 ((pm_up (pm_up x1.2 83 (x1.2 77 8) v1) 84 ((pm_up x1.2 83 (x1.2 77 8) v1) 77 8) 0) 77 8) 1) 77 8) + 1)))
  else none
  else none
  else none
  else none
  else none) := (pm_seg pm_T_ct (pm_env X) [0] 38 113 2 0 [some (.inr (.inr 77)), some (.inl v1)] [] I).trans rfl
set_option maxRecDepth 100000 in
theorem e_M_endOf (X : pm_XT) (v1 : Int) (I : pm_I) : f_M_endOf X v1 I =
  if 0 ≤ v1 ∧ v1 < 8 then
  if (I 84 v1) = 0 then
  if 0 ≤ v1 ∧ v1 < 8 then
  some ((I 83 v1), I)
  else none
  else if pm_r32 (6 * v1) then
  if pm_r32 ((6 * v1) + (I 84 v1)) then
  if pm_r32 (((6 * v1) + (I 84 v1)) - 1) then
  if 0 ≤ (((6 * v1) + (I 84 v1)) - 1) ∧ (((6 * v1) + (I 84 v1)) - 1) < 48 then
  if (I 86 (((6 * v1) + (I 84 v1)) - 1)) = 0 then
  if 0 ≤ (((6 * v1) + (I 84 v1)) - 1) ∧ (((6 * v1) + (I 84 v1)) - 1) < 48 then
  if 0 ≤ (I 85 (((6 * v1) + (I 84 v1)) - 1)) ∧ (I 85 (((6 * v1) + (I 84 v1)) - 1)) < 10 then
  some ((I 81 (I 85 (((6 * v1) + (I 84 v1)) - 1))), I)
  else none
  else none
  else if 0 ≤ (((6 * v1) + (I 84 v1)) - 1) ∧ (((6 * v1) + (I 84 v1)) - 1) < 48 then
  if 0 ≤ (I 85 (((6 * v1) + (I 84 v1)) - 1)) ∧ (I 85 (((6 * v1) + (I 84 v1)) - 1)) < 10 then
  some ((I 80 (I 85 (((6 * v1) + (I 84 v1)) - 1))), I)
  else none
  else none
  else none
  else none
  else none
  else none
  else none := (pm_seg pm_T_ct (pm_env X) [0] 30 114 0 0 [some (.inr (.inr 77)), some (.inl v1), none, none] [] I).trans rfl
set_option maxRecDepth 100000 in
theorem e_M_step (X : pm_XT) (v1 : Int) (v2 : Int) (v3 : Int) (I : pm_I) : f_M_step X v1 v2 v3 I =
  (f_M_isWalk X v1 I).bind (fun x1 =>
  if x1.1 = 0 then
  some ((-1), x1.2)
  else (f_M_isLine X v2 x1.2).bind (fun x2 =>
  if x2.1 = 0 then
  some ((-1), x2.2)
  else if v3 = 0 then
  if 0 ≤ v2 ∧ v2 < 10 then
  (f_M_endOf X v1 x2.2).bind (fun x3 =>
  if (x2.2 80 v2) = x3.1 then
  if 0 ≤ v1 ∧ v1 < 8 then
  if (x3.2 84 v1) = 6 then
  some ((-3), x3.2)
  else if pm_r32 (6 * v1) then
  if 0 ≤ v1 ∧ v1 < 8 then
  if pm_r32 ((6 * v1) + (x3.2 84 v1)) then
  if 0 ≤ ((6 * v1) + (x3.2 84 v1)) ∧ ((6 * v1) + (x3.2 84 v1)) < 48 then
  if pm_r32 (6 * v1) then
  if 0 ≤ v1 ∧ v1 < 8 then
  if pm_r32 ((6 * v1) + ((pm_up x3.2 85 ((6 * v1) + (x3.2 84 v1)) v2) 84 v1)) then
  if 0 ≤ ((6 * v1) + ((pm_up x3.2 85 ((6 * v1) + (x3.2 84 v1)) v2) 84 v1)) ∧ ((6 * v1) + ((pm_up x3.2 85 ((6 * v1) + (x3.2 84 v1)) v2) 84 v1)) < 48 then
  if v3 = 0 ∨ v3 = 1 then
  if 0 ≤ v1 ∧ v1 < 8 then
  if pm_r32 (((pm_up (pm_up x3.2 85 ((6 * v1) + (x3.2 84 v1)) v2) 86 ((6 * v1) + ((pm_up x3.2 85 ((6 * v1) + (x3.2 84 v1)) v2) 84 v1)) v3) 84 v1) + 1) then
  if 0 ≤ v1 ∧ v1 < 8 then
  if 0 ≤ v1 ∧ v1 < 8 then
  some (((pm_up (pm_up (pm_up x3.2 85 ((6 * v1) + (x3.2 84 v1)) v2) 86 ((6 * v1) + ((pm_up x3.2 85 ((6 * v1) + (x3.2 84 v1)) v2) 84 v1)) v3) 84 v1 (((pm_up (pm_up x3.2 85 ((6 * v1) + (x3.2 84 v1)) v2) 86 ((6 * v1) + ((pm_up x3.2 85 ((6 * v1) + (x3.2 84 v1)) v2) 84 v1)) v3) 84 v1) + 1)) 84 v1), (pm_up (pm_up (pm_up x3.2 85 ((6 * v1) + (x3.2 84 v1)) v2) 86 ((6 * v1) + ((pm_up x3.2 85 ((6 * v1) + (x3.2 84 v1)) v2) 84 v1)) v3) 84 v1 (((pm_up (pm_up x3.2 85 ((6 * v1) + (x3.2 84 v1)) v2) 86 ((6 * v1) + ((pm_up x3.2 85 ((6 * v1) + (x3.2 84 v1)) v2) 84 v1)) v3) 84 v1) + 1)))
  else none
  else none
  else none
  else none
  else none
  else none
  else none
  else none
  else none
  else none
  else none
  else none
  else none
  else none
  else some ((-2), x3.2))
  else none
  else if 0 ≤ v2 ∧ v2 < 10 then
  (f_M_endOf X v1 x2.2).bind (fun x4 =>
  if (x2.2 81 v2) = x4.1 then
  if 0 ≤ v1 ∧ v1 < 8 then
  if (x4.2 84 v1) = 6 then
  some ((-3), x4.2)
  else if pm_r32 (6 * v1) then
  if 0 ≤ v1 ∧ v1 < 8 then
  if pm_r32 ((6 * v1) + (x4.2 84 v1)) then
  if 0 ≤ ((6 * v1) + (x4.2 84 v1)) ∧ ((6 * v1) + (x4.2 84 v1)) < 48 then
  if pm_r32 (6 * v1) then
  if 0 ≤ v1 ∧ v1 < 8 then
  if pm_r32 ((6 * v1) + ((pm_up x4.2 85 ((6 * v1) + (x4.2 84 v1)) v2) 84 v1)) then
  if 0 ≤ ((6 * v1) + ((pm_up x4.2 85 ((6 * v1) + (x4.2 84 v1)) v2) 84 v1)) ∧ ((6 * v1) + ((pm_up x4.2 85 ((6 * v1) + (x4.2 84 v1)) v2) 84 v1)) < 48 then
  if v3 = 0 ∨ v3 = 1 then
  if 0 ≤ v1 ∧ v1 < 8 then
  if pm_r32 (((pm_up (pm_up x4.2 85 ((6 * v1) + (x4.2 84 v1)) v2) 86 ((6 * v1) + ((pm_up x4.2 85 ((6 * v1) + (x4.2 84 v1)) v2) 84 v1)) v3) 84 v1) + 1) then
  if 0 ≤ v1 ∧ v1 < 8 then
  if 0 ≤ v1 ∧ v1 < 8 then
  some (((pm_up (pm_up (pm_up x4.2 85 ((6 * v1) + (x4.2 84 v1)) v2) 86 ((6 * v1) + ((pm_up x4.2 85 ((6 * v1) + (x4.2 84 v1)) v2) 84 v1)) v3) 84 v1 (((pm_up (pm_up x4.2 85 ((6 * v1) + (x4.2 84 v1)) v2) 86 ((6 * v1) + ((pm_up x4.2 85 ((6 * v1) + (x4.2 84 v1)) v2) 84 v1)) v3) 84 v1) + 1)) 84 v1), (pm_up (pm_up (pm_up x4.2 85 ((6 * v1) + (x4.2 84 v1)) v2) 86 ((6 * v1) + ((pm_up x4.2 85 ((6 * v1) + (x4.2 84 v1)) v2) 84 v1)) v3) 84 v1 (((pm_up (pm_up x4.2 85 ((6 * v1) + (x4.2 84 v1)) v2) 86 ((6 * v1) + ((pm_up x4.2 85 ((6 * v1) + (x4.2 84 v1)) v2) 84 v1)) v3) 84 v1) + 1)))
  else none
  else none
  else none
  else none
  else none
  else none
  else none
  else none
  else none
  else none
  else none
  else none
  else none
  else none
  else some ((-2), x4.2))
  else none)) := (pm_seg pm_T_ct (pm_env X) [0] 63 115 2 0 [some (.inr (.inr 77)), some (.inl v1), some (.inl v2), some (.inl v3)] [] I).trans rfl
set_option maxRecDepth 100000 in
theorem e_M_counts (X : pm_XT) (v1 : Int) (v2 : Int) (I : pm_I) : f_M_counts X v1 v2 I =
  (f_M_isWalk X v1 I).bind (fun x1 =>
  if x1.1 = 0 then
  some ((-1), x1.2)
  else if 0 ≤ v1 ∧ v1 < 8 then
  if (x1.2 87 v1) = 0 then
  if 0 ≤ v1 ∧ v1 < 8 then
  if v2 = 0 ∨ v2 = 1 then
  some (0, (pm_up x1.2 87 v1 v2))
  else none
  else none
  else if 0 ≤ v1 ∧ v1 < 8 then
  if v2 = 0 ∨ v2 = 1 then
  some (1, (pm_up x1.2 87 v1 v2))
  else none
  else none
  else none) := (pm_seg pm_T_ct (pm_env X) [0] 20 116 2 0 [some (.inr (.inr 77)), some (.inl v1), some (.inl v2), none] [] I).trans rfl
set_option maxRecDepth 100000 in
theorem e_M_isClosed (X : pm_XT) (v1 : Int) (I : pm_I) : f_M_isClosed X v1 I =
  if 0 ≤ v1 ∧ v1 < 8 then
  if 0 < (I 84 v1) then
  (f_M_endOf X v1 I).bind (fun x1 =>
  if 0 ≤ v1 ∧ v1 < 8 then
  if x1.1 = (x1.2 83 v1) then
  some (1, x1.2)
  else some (0, x1.2)
  else none)
  else some (0, I)
  else none := (pm_seg pm_T_ct (pm_env X) [0] 17 117 1 0 [some (.inr (.inr 77)), some (.inl v1)] [] I).trans rfl
set_option maxRecDepth 100000 in
theorem e_M_takeLines (X : pm_XT)  (I : pm_I) : f_M_takeLines X  I =
  f_M_takeLines_2 X 0 I := (pm_seg pm_T_ct (pm_env X) [0, 2] 4 118 0 0 [some (.inr (.inr 77)), none] [] I).trans rfl
set_option maxRecDepth 100000 in
theorem e_M_takeLines_2 (X : pm_XT) (v1 : Int) (I : pm_I) : f_M_takeLines_2 X v1 I =
  if v1 < 10 then
  if 0 ≤ v1 ∧ v1 < 10 then
  if 0 ≤ v1 ∧ v1 < 10 then
  if pm_r32 (v1 + 1) then
  f_M_takeLines_2 X (v1 + 1) (pm_up I 93 v1 (I 82 v1))
  else none
  else none
  else none
  else some (0, I) := (pm_seg pm_T_ct (pm_env X) [0, 2] 15 118 0 2 [some (.inr (.inr 77)), some (.inl v1)] [] I).trans rfl
set_option maxRecDepth 100000 in
theorem e_M_turnOf (X : pm_XT) (v1 : Int) (I : pm_I) : f_M_turnOf X v1 I =
  if pm_r32 (6 * v1) then
  f_M_turnOf_7 X v1 0 (6 * v1) I
  else none := (pm_seg pm_T_ct (pm_env X) [0, 7] 8 119 1 0 [some (.inr (.inr 77)), some (.inl v1), none, none, none] [] I).trans rfl
set_option maxRecDepth 100000 in
theorem e_M_turnOf_7 (X : pm_XT) (v1 : Int) (v2 : Int) (v3 : Int) (I : pm_I) : f_M_turnOf_7 X v1 v2 v3 I =
  if pm_r32 (6 * v1) then
  if 0 ≤ v1 ∧ v1 < 8 then
  if pm_r32 ((6 * v1) + (I 84 v1)) then
  if v3 < ((6 * v1) + (I 84 v1)) then
  if 0 ≤ v3 ∧ v3 < 48 then
  if 0 ≤ (I 85 v3) ∧ (I 85 v3) < 10 then
  if 0 ≤ v3 ∧ v3 < 48 then
  if (I 86 v3) = 0 then
  (f_M_product X v2 (I 93 (I 85 v3)) I).bind (fun x1 =>
  if pm_r32 (v3 + 1) then
  f_M_turnOf_7 X v1 x1.1 (v3 + 1) x1.2
  else none)
  else if 0 ≤ (I 93 (I 85 v3)) ∧ (I 93 (I 85 v3)) < 8 then
  (f_M_product X v2 (I 94 (I 93 (I 85 v3))) I).bind (fun x2 =>
  if pm_r32 (v3 + 1) then
  f_M_turnOf_7 X v1 x2.1 (v3 + 1) x2.2
  else none)
  else none
  else none
  else none
  else none
  else some (v2, I)
  else none
  else none
  else none := (pm_seg pm_T_ct (pm_env X) [0, 7] 36 119 1 7 [some (.inr (.inr 77)), some (.inl v1), some (.inl v2), some (.inl v3), none] [] I).trans rfl
set_option maxRecDepth 100000 in
theorem e_M_layBacks (X : pm_XT)  (I : pm_I) : f_M_layBacks X  I =
  f_M_layBacks_2 X 0 I := (pm_seg pm_T_ct (pm_env X) [0, 2] 4 120 2 0 [some (.inr (.inr 77)), none] [] I).trans rfl
set_option maxRecDepth 100000 in
theorem e_M_layBacks_2 (X : pm_XT) (v1 : Int) (I : pm_I) : f_M_layBacks_2 X v1 I =
  if v1 < (I 77 0) then
  (f_M_backOf X v1 I).bind (fun x1 =>
  if 0 ≤ v1 ∧ v1 < 8 then
  if pm_r32 (v1 + 1) then
  f_M_layBacks_2 X (v1 + 1) (pm_up x1.2 94 v1 x1.1)
  else none
  else none)
  else some (0, I) := (pm_seg pm_T_ct (pm_env X) [0, 2] 15 120 2 2 [some (.inr (.inr 77)), some (.inl v1)] [] I).trans rfl
set_option maxRecDepth 100000 in
theorem e_M_told (X : pm_XT) (v1 : Int) (v2 : Int) (I : pm_I) : f_M_told X v1 v2 I =
  (f_M_isWalk X v1 I).bind (fun x1 =>
  if x1.1 = 0 then
  some ((-1), x1.2)
  else (f_M_in X v2 0 4 x1.2).bind (fun x2 =>
  if x2.1 = 0 then
  some ((-1), x2.2)
  else (f_M_layBacks X x2.2).bind (fun x3 =>
  (f_M_takeLines X x3.2).bind (fun x4 =>
  if v2 = 0 then
  if 0 ≤ v1 ∧ v1 < 8 then
  some ((x4.2 84 v1), x4.2)
  else none
  else if v2 = 1 then
  (f_M_endOf X v1 x4.2).bind (fun x5 =>
  some (x5.1, x5.2))
  else if v2 = 2 then
  (f_M_isClosed X v1 x4.2).bind (fun x6 =>
  if x6.1 = 0 then
  some (0, x6.2)
  else some (1, x6.2))
  else if v2 = 3 then
  (f_M_turnOf X v1 x4.2).bind (fun x7 =>
  some (x7.1, x7.2))
  else if 0 ≤ v1 ∧ v1 < 8 then
  if (x4.2 87 v1) = 0 then
  some (0, x4.2)
  else some (1, x4.2)
  else none)))) := (pm_seg pm_T_ct (pm_env X) [0] 34 121 3 0 [some (.inr (.inr 77)), some (.inl v1), some (.inl v2)] [] I).trans rfl
set_option maxRecDepth 100000 in
theorem e_M_drop (X : pm_XT)  (I : pm_I) : f_M_drop X  I =
  if (I 77 8) = 0 then
  some ((-4), I)
  else if pm_r32 ((I 77 8) - 1) then
  some (((pm_up I 77 8 ((I 77 8) - 1)) 77 8), (pm_up I 77 8 ((I 77 8) - 1)))
  else none := (pm_seg pm_T_ct (pm_env X) [0] 13 122 0 0 [some (.inr (.inr 77))] [] I).trans rfl
set_option maxRecDepth 100000 in
theorem e_M_record (X : pm_XT)  (I : pm_I) : f_M_record X  I =
  if (I 77 14) = 8 then
  f_M_record_12 X 10 I
  else f_M_record_51 X 0 I := (pm_seg pm_T_ct (pm_env X) [0, 12, 51] 8 123 0 0 [some (.inr (.inr 77)), none] [] I).trans rfl
set_option maxRecDepth 100000 in
theorem e_M_record_12 (X : pm_XT) (v1 : Int) (I : pm_I) : f_M_record_12 X v1 I =
  if v1 < 80 then
  if pm_r32 (v1 - 10) then
  if 0 ≤ v1 ∧ v1 < 80 then
  if 0 ≤ (v1 - 10) ∧ (v1 - 10) < 80 then
  if pm_r32 (v1 + 1) then
  f_M_record_12 X (v1 + 1) (pm_up I 88 (v1 - 10) (I 88 v1))
  else none
  else none
  else none
  else none
  else if pm_r32 ((I 77 14) - 1) then
  f_M_record_51 X 0 (pm_up I 77 14 ((I 77 14) - 1))
  else none := (pm_seg pm_T_ct (pm_env X) [0, 12, 51] 17 123 0 12 [some (.inr (.inr 77)), some (.inl v1)] [] I).trans rfl
set_option maxRecDepth 100000 in
theorem e_M_record_51 (X : pm_XT) (v1 : Int) (I : pm_I) : f_M_record_51 X v1 I =
  if v1 < 10 then
  if pm_r32 (10 * (I 77 14)) then
  if pm_r32 ((10 * (I 77 14)) + v1) then
  if 0 ≤ v1 ∧ v1 < 10 then
  if 0 ≤ ((10 * (I 77 14)) + v1) ∧ ((10 * (I 77 14)) + v1) < 80 then
  if pm_r32 (v1 + 1) then
  f_M_record_51 X (v1 + 1) (pm_up I 88 ((10 * (I 77 14)) + v1) (I 82 v1))
  else none
  else none
  else none
  else none
  else none
  else if pm_r32 ((I 77 14) + 1) then
  some (0, (pm_up I 77 14 ((I 77 14) + 1)))
  else none := (pm_seg pm_T_ct (pm_env X) [0, 12, 51] 20 123 0 51 [some (.inr (.inr 77)), some (.inl v1)] [] I).trans rfl
set_option maxRecDepth 100000 in
theorem e_M_undo (X : pm_XT)  (I : pm_I) : f_M_undo X  I =
  if (I 77 14) = 0 then
  some ((-4), I)
  else if pm_r32 ((I 77 14) - 1) then
  f_M_undo_22 X 0 (pm_up I 77 14 ((I 77 14) - 1))
  else none := (pm_seg pm_T_ct (pm_env X) [0, 22] 13 124 0 0 [some (.inr (.inr 77)), none] [] I).trans rfl
set_option maxRecDepth 100000 in
theorem e_M_undo_22 (X : pm_XT) (v1 : Int) (I : pm_I) : f_M_undo_22 X v1 I =
  if v1 < 10 then
  if pm_r32 (10 * (I 77 14)) then
  if pm_r32 ((10 * (I 77 14)) + v1) then
  if 0 ≤ ((10 * (I 77 14)) + v1) ∧ ((10 * (I 77 14)) + v1) < 80 then
  if 0 ≤ v1 ∧ v1 < 10 then
  if pm_r32 (v1 + 1) then
  f_M_undo_22 X (v1 + 1) (pm_up I 82 v1 (I 88 ((10 * (I 77 14)) + v1)))
  else none
  else none
  else none
  else none
  else none
  else some ((I 77 14), I) := (pm_seg pm_T_ct (pm_env X) [0, 22] 20 124 0 22 [some (.inr (.inr 77)), some (.inl v1)] [] I).trans rfl
set_option maxRecDepth 100000 in
theorem e_M_set (X : pm_XT) (v1 : Int) (v2 : Int) (I : pm_I) : f_M_set X v1 v2 I =
  (f_M_isLine X v1 I).bind (fun x1 =>
  if x1.1 = 0 then
  some ((-1), x1.2)
  else (f_M_isTurn X v2 x1.2).bind (fun x2 =>
  if x2.1 = 0 then
  some ((-1), x2.2)
  else (f_M_record X x2.2).bind (fun x3 =>
  if 0 ≤ v1 ∧ v1 < 10 then
  if 0 ≤ v1 ∧ v1 < 10 then
  some ((x3.2 82 v1), (pm_up x3.2 82 v1 v2))
  else none
  else none))) := (pm_seg pm_T_ct (pm_env X) [0] 23 125 2 0 [some (.inr (.inr 77)), some (.inl v1), some (.inl v2), none] [] I).trans rfl
set_option maxRecDepth 100000 in
theorem e_M_at (X : pm_XT) (v1 : Int) (I : pm_I) : f_M_at X v1 I =
  (f_M_isLine X v1 I).bind (fun x1 =>
  if x1.1 = 0 then
  some ((-1), x1.2)
  else if 0 ≤ v1 ∧ v1 < 10 then
  some ((x1.2 82 v1), x1.2)
  else none) := (pm_seg pm_T_ct (pm_env X) [0] 11 126 2 0 [some (.inr (.inr 77)), some (.inl v1)] [] I).trans rfl
set_option maxRecDepth 100000 in
theorem e_M_weightOf (X : pm_XT)  (I : pm_I) : f_M_weightOf X  I =
  f_M_weightOf_4 X 1 0 I := (pm_seg pm_T_ct (pm_env X) [0, 4] 6 127 2 0 [some (.inr (.inr 77)), none, none, none] [] I).trans rfl
set_option maxRecDepth 100000 in
theorem e_M_weightOf_4 (X : pm_XT) (w1 : Int) (v3 : Int) (I : pm_I) : f_M_weightOf_4 X w1 v3 I =
  if v3 < (I 77 8) then
  if 0 ≤ v3 ∧ v3 < 8 then
  if (I 87 v3) = 0 then
  if pm_r32 (v3 + 1) then
  f_M_weightOf_4 X (pm_w64 (w1 * 1)) (v3 + 1) I
  else none
  else (f_M_isClosed X v3 I).bind (fun x1 =>
  if x1.1 = 0 then
  if pm_r32 (v3 + 1) then
  f_M_weightOf_4 X (pm_w64 (w1 * 1)) (v3 + 1) x1.2
  else none
  else (f_M_turnOf X v3 x1.2).bind (fun x2 =>
  if 0 ≤ x2.1 ∧ x2.1 < 8 then
  if pm_r32 (v3 + 1) then
  f_M_weightOf_4 X (pm_w64 (w1 * (x2.2 79 x2.1))) (v3 + 1) x2.2
  else none
  else none))
  else none
  else some (w1, I) := (pm_seg pm_T_ct (pm_env X) [0, 4] 28 127 2 4 [some (.inr (.inr 77)), some (.inr (.inl w1)), none, some (.inl v3)] [] I).trans rfl
set_option maxRecDepth 100000 in
theorem e_M_weight (X : pm_XT)  (I : pm_I) : f_M_weight X  I =
  (f_M_layBacks X I).bind (fun x1 =>
  (f_M_takeLines X x1.2).bind (fun x2 =>
  (f_M_weightOf X x2.2).bind (fun x3 =>
  some (x3.1, x3.2)))) := (pm_seg pm_T_ct (pm_env X) [0] 8 128 3 0 [some (.inr (.inr 77))] [] I).trans rfl
set_option maxRecDepth 100000 in
theorem e_M_turned (X : pm_XT)  (I : pm_I) : f_M_turned X  I =
  (f_M_layBacks X I).bind (fun x1 =>
  f_M_turned_8 X 0 0 x1.2) := (pm_seg pm_T_ct (pm_env X) [0, 8] 8 129 3 0 [some (.inr (.inr 77)), none, none, none] [] I).trans rfl
set_option maxRecDepth 100000 in
theorem e_M_turned_8 (X : pm_XT) (v1 : Int) (v2 : Int) (I : pm_I) : f_M_turned_8 X v1 v2 I =
  if v2 < (I 77 4) then
  if 0 ≤ v2 ∧ v2 < 10 then
  if 0 ≤ (I 80 v2) ∧ (I 80 v2) < 6 then
  if 0 ≤ v2 ∧ v2 < 10 then
  (f_M_product X (I 95 (I 80 v2)) (I 82 v2) I).bind (fun x1 =>
  if 0 ≤ v2 ∧ v2 < 10 then
  if 0 ≤ (x1.2 81 v2) ∧ (x1.2 81 v2) < 6 then
  if 0 ≤ (x1.2 95 (x1.2 81 v2)) ∧ (x1.2 95 (x1.2 81 v2)) < 8 then
  (f_M_product X x1.1 (x1.2 94 (x1.2 95 (x1.2 81 v2))) x1.2).bind (fun x2 =>
  if 0 ≤ v2 ∧ v2 < 10 then
  if x2.1 = (x2.2 82 v2) then
  if pm_r32 (v1 + 0) then
  if 0 ≤ v2 ∧ v2 < 10 then
  if pm_r32 (v2 + 1) then
  f_M_turned_8 X (v1 + 0) (v2 + 1) (pm_up x2.2 82 v2 x2.1)
  else none
  else none
  else none
  else if pm_r32 (v1 + 1) then
  if 0 ≤ v2 ∧ v2 < 10 then
  if pm_r32 (v2 + 1) then
  f_M_turned_8 X (v1 + 1) (v2 + 1) (pm_up x2.2 82 v2 x2.1)
  else none
  else none
  else none
  else none)
  else none
  else none
  else none)
  else none
  else none
  else none
  else some (v1, I) := (pm_seg pm_T_ct (pm_env X) [0, 8] 50 129 3 8 [some (.inr (.inr 77)), some (.inl v1), some (.inl v2), none] [] I).trans rfl
set_option maxRecDepth 100000 in
theorem e_M_twist (X : pm_XT) (v1 : Int) (v2 : Int) (I : pm_I) : f_M_twist X v1 v2 I =
  (f_M_isPoint X v1 I).bind (fun x1 =>
  if x1.1 = 0 then
  some ((-1), x1.2)
  else (f_M_isTurn X v2 x1.2).bind (fun x2 =>
  if x2.1 = 0 then
  some ((-1), x2.2)
  else (f_M_record X x2.2).bind (fun x3 =>
  f_M_twist_24 X v1 v2 0 x3.2))) := (pm_seg pm_T_ct (pm_env X) [0, 24] 14 130 4 0 [some (.inr (.inr 77)), some (.inl v1), some (.inl v2), none] [] I).trans rfl
set_option maxRecDepth 100000 in
theorem e_M_twist_24 (X : pm_XT) (v1 : Int) (v2 : Int) (v3 : Int) (I : pm_I) : f_M_twist_24 X v1 v2 v3 I =
  if v3 < 6 then
  if v3 = v1 then
  if 0 ≤ v3 ∧ v3 < 6 then
  if pm_r32 (v3 + 1) then
  f_M_twist_24 X v1 v2 (v3 + 1) (pm_up I 95 v3 v2)
  else none
  else none
  else if 0 ≤ v3 ∧ v3 < 6 then
  if pm_r32 (v3 + 1) then
  f_M_twist_24 X v1 v2 (v3 + 1) (pm_up I 95 v3 0)
  else none
  else none
  else (f_M_turned X I).bind (fun x1 =>
  some (x1.1, x1.2)) := (pm_seg pm_T_ct (pm_env X) [0, 24] 16 130 4 24 [some (.inr (.inr 77)), some (.inl v1), some (.inl v2), some (.inl v3)] [] I).trans rfl
set_option maxRecDepth 100000 in
theorem e_M_layTree (X : pm_XT)  (I : pm_I) : f_M_layTree X  I =
  f_M_layTree_4 X 0 0 I := (pm_seg pm_T_ct (pm_env X) [0, 4, 25, 92] 6 131 0 0 [some (.inr (.inr 77)), none, none, none, none, none] [] I).trans rfl
set_option maxRecDepth 100000 in
theorem e_M_layTree_4 (X : pm_XT) (v1 : Int) (v2 : Int) (I : pm_I) : f_M_layTree_4 X v1 v2 I =
  if v2 < 6 then
  if 0 ≤ v2 ∧ v2 < 6 then
  if pm_r32 (v2 + 1) then
  f_M_layTree_4 X v1 (v2 + 1) (pm_up I 96 v2 v2)
  else none
  else none
  else f_M_layTree_25 X v1 0 I := (pm_seg pm_T_ct (pm_env X) [0, 4, 25, 92] 12 131 0 4 [some (.inr (.inr 77)), some (.inl v1), some (.inl v2), none, none, none] [] I).trans rfl
set_option maxRecDepth 100000 in
theorem e_M_layTree_25 (X : pm_XT) (v1 : Int) (v2 : Int) (I : pm_I) : f_M_layTree_25 X v1 v2 I =
  if v2 < (I 77 4) then
  if 0 ≤ v2 ∧ v2 < 10 then
  if 0 ≤ (I 80 v2) ∧ (I 80 v2) < 6 then
  if 0 ≤ v2 ∧ v2 < 10 then
  if 0 ≤ (I 81 v2) ∧ (I 81 v2) < 6 then
  if (I 96 (I 80 v2)) = (I 96 (I 81 v2)) then
  if 0 ≤ v2 ∧ v2 < 10 then
  if (I 96 (I 80 v2)) = (I 96 (I 81 v2)) then
  if pm_r32 (v1 + 0) then
  f_M_layTree_92 X (v1 + 0) v2 (I 96 (I 80 v2)) (I 96 (I 81 v2)) 0 (pm_up I 97 v2 0)
  else none
  else if pm_r32 (v1 + 1) then
  f_M_layTree_92 X (v1 + 1) v2 (I 96 (I 80 v2)) (I 96 (I 81 v2)) 0 (pm_up I 97 v2 0)
  else none
  else none
  else if 0 ≤ v2 ∧ v2 < 10 then
  if (I 96 (I 80 v2)) = (I 96 (I 81 v2)) then
  if pm_r32 (v1 + 0) then
  f_M_layTree_92 X (v1 + 0) v2 (I 96 (I 80 v2)) (I 96 (I 81 v2)) 0 (pm_up I 97 v2 1)
  else none
  else if pm_r32 (v1 + 1) then
  f_M_layTree_92 X (v1 + 1) v2 (I 96 (I 80 v2)) (I 96 (I 81 v2)) 0 (pm_up I 97 v2 1)
  else none
  else none
  else none
  else none
  else none
  else none
  else some (v1, I) := (pm_seg pm_T_ct (pm_env X) [0, 4, 25, 92] 41 131 0 25 [some (.inr (.inr 77)), some (.inl v1), some (.inl v2), none, none, none] [] I).trans rfl
set_option maxRecDepth 100000 in
theorem e_M_layTree_92 (X : pm_XT) (v1 : Int) (v2 : Int) (v3 : Int) (v4 : Int) (v5 : Int) (I : pm_I) : f_M_layTree_92 X v1 v2 v3 v4 v5 I =
  if v5 < 6 then
  if 0 ≤ v5 ∧ v5 < 6 then
  if (I 96 v5) = v3 then
  if v3 < v4 then
  if 0 ≤ v5 ∧ v5 < 6 then
  if pm_r32 (v5 + 1) then
  f_M_layTree_92 X v1 v2 v3 v4 (v5 + 1) (pm_up I 96 v5 v3)
  else none
  else none
  else if 0 ≤ v5 ∧ v5 < 6 then
  if pm_r32 (v5 + 1) then
  f_M_layTree_92 X v1 v2 v3 v4 (v5 + 1) (pm_up I 96 v5 v4)
  else none
  else none
  else if 0 ≤ v5 ∧ v5 < 6 then
  if (I 96 v5) = v4 then
  if v3 < v4 then
  if 0 ≤ v5 ∧ v5 < 6 then
  if pm_r32 (v5 + 1) then
  f_M_layTree_92 X v1 v2 v3 v4 (v5 + 1) (pm_up I 96 v5 v3)
  else none
  else none
  else if 0 ≤ v5 ∧ v5 < 6 then
  if pm_r32 (v5 + 1) then
  f_M_layTree_92 X v1 v2 v3 v4 (v5 + 1) (pm_up I 96 v5 v4)
  else none
  else none
  else if 0 ≤ v5 ∧ v5 < 6 then
  if 0 ≤ v5 ∧ v5 < 6 then
  if pm_r32 (v5 + 1) then
  f_M_layTree_92 X v1 v2 v3 v4 (v5 + 1) (pm_up I 96 v5 (I 96 v5))
  else none
  else none
  else none
  else none
  else none
  else if pm_r32 (v2 + 1) then
  f_M_layTree_25 X v1 (v2 + 1) I
  else none := (pm_seg pm_T_ct (pm_env X) [0, 4, 25, 92] 28 131 0 92 [some (.inr (.inr 77)), some (.inl v1), some (.inl v2), some (.inl v3), some (.inl v4), some (.inl v5)] [] I).trans rfl
set_option maxRecDepth 100000 in
theorem e_M_still (X : pm_XT)  (I : pm_I) : f_M_still X  I =
  (f_M_record X I).bind (fun x1 =>
  (f_M_layBacks X x1.2).bind (fun x2 =>
  (f_M_layTree X x2.2).bind (fun x3 =>
  f_M_still_20 X x3.1 0 x3.2))) := (pm_seg pm_T_ct (pm_env X) [0, 20, 59, 68] 14 132 4 0 [some (.inr (.inr 77)), none, none, none, none, none, none] [] I).trans rfl
set_option maxRecDepth 100000 in
theorem e_M_still_20 (X : pm_XT) (v1 : Int) (v3 : Int) (I : pm_I) : f_M_still_20 X v1 v3 I =
  if v3 < 6 then
  if 0 ≤ v3 ∧ v3 < 6 then
  if (I 96 v3) = v3 then
  if 0 ≤ v3 ∧ v3 < 6 then
  if 0 ≤ v3 ∧ v3 < 6 then
  if pm_r32 (v3 + 1) then
  f_M_still_20 X v1 (v3 + 1) (pm_up (pm_up I 98 v3 1) 95 v3 0)
  else none
  else none
  else none
  else if 0 ≤ v3 ∧ v3 < 6 then
  if 0 ≤ v3 ∧ v3 < 6 then
  if pm_r32 (v3 + 1) then
  f_M_still_20 X v1 (v3 + 1) (pm_up (pm_up I 98 v3 0) 95 v3 0)
  else none
  else none
  else none
  else none
  else f_M_still_59 X v1 0 I := (pm_seg pm_T_ct (pm_env X) [0, 20, 59, 68] 23 132 4 20 [some (.inr (.inr 77)), some (.inl v1), some (.inr (.inr 98)), some (.inl v3), none, none, none] [] I).trans rfl
set_option maxRecDepth 100000 in
theorem e_M_still_59 (X : pm_XT) (v1 : Int) (v3 : Int) (I : pm_I) : f_M_still_59 X v1 v3 I =
  if v3 < 6 then
  f_M_still_68 X v1 v3 0 I
  else if v1 < 0 then
  some ((-1), I)
  else (f_M_turned X I).bind (fun x1 =>
  some (x1.1, x1.2)) := (pm_seg pm_T_ct (pm_env X) [0, 20, 59, 68] 9 132 4 59 [some (.inr (.inr 77)), some (.inl v1), some (.inr (.inr 98)), some (.inl v3), none, none, none] [] I).trans rfl
set_option maxRecDepth 100000 in
theorem e_M_still_68 (X : pm_XT) (v1 : Int) (v3 : Int) (v4 : Int) (I : pm_I) : f_M_still_68 X v1 v3 v4 I =
  if v4 < (I 77 4) then
  if 0 ≤ v4 ∧ v4 < 10 then
  if 0 ≤ v4 ∧ v4 < 10 then
  if 0 ≤ v4 ∧ v4 < 10 then
  if (I 97 v4) = 0 then
  if pm_r32 (v4 + 1) then
  f_M_still_68 X v1 v3 (v4 + 1) I
  else none
  else if 0 ≤ (I 80 v4) ∧ (I 80 v4) < 6 then
  if 0 ≤ (I 81 v4) ∧ (I 81 v4) < 6 then
  if (I 98 (I 80 v4)) = (I 98 (I 81 v4)) then
  if pm_r32 (v4 + 1) then
  f_M_still_68 X v1 v3 (v4 + 1) I
  else none
  else if 0 ≤ (I 80 v4) ∧ (I 80 v4) < 6 then
  if (I 98 (I 80 v4)) = 0 then
  if 0 ≤ (I 81 v4) ∧ (I 81 v4) < 6 then
  if 0 ≤ v4 ∧ v4 < 10 then
  if 0 ≤ (I 82 v4) ∧ (I 82 v4) < 8 then
  (f_M_product X (I 95 (I 81 v4)) (I 94 (I 82 v4)) I).bind (fun x1 =>
  if 0 ≤ (I 80 v4) ∧ (I 80 v4) < 6 then
  if 0 ≤ (I 80 v4) ∧ (I 80 v4) < 6 then
  if pm_r32 (v4 + 1) then
  f_M_still_68 X v1 v3 (v4 + 1) (pm_up (pm_up x1.2 95 (I 80 v4) x1.1) 98 (I 80 v4) 1)
  else none
  else none
  else none)
  else none
  else none
  else none
  else if 0 ≤ (I 80 v4) ∧ (I 80 v4) < 6 then
  if 0 ≤ v4 ∧ v4 < 10 then
  (f_M_product X (I 95 (I 80 v4)) (I 82 v4) I).bind (fun x2 =>
  if 0 ≤ (I 81 v4) ∧ (I 81 v4) < 6 then
  if 0 ≤ (I 81 v4) ∧ (I 81 v4) < 6 then
  if pm_r32 (v4 + 1) then
  f_M_still_68 X v1 v3 (v4 + 1) (pm_up (pm_up x2.2 95 (I 81 v4) x2.1) 98 (I 81 v4) 1)
  else none
  else none
  else none)
  else none
  else none
  else none
  else none
  else none
  else none
  else none
  else none
  else if pm_r32 (v3 + 1) then
  f_M_still_59 X v1 (v3 + 1) I
  else none := (pm_seg pm_T_ct (pm_env X) [0, 20, 59, 68] 55 132 4 68 [some (.inr (.inr 77)), some (.inl v1), some (.inr (.inr 98)), some (.inl v3), some (.inl v4), none, none] [] I).trans rfl
set_option maxRecDepth 100000 in
theorem e_M_tree (X : pm_XT) (v1 : Int) (I : pm_I) : f_M_tree X v1 I =
  (f_M_isLine X v1 I).bind (fun x1 =>
  if x1.1 = 0 then
  some ((-1), x1.2)
  else (f_M_layTree X x1.2).bind (fun x2 =>
  if x2.1 < 0 then
  some (0, x2.2)
  else if 0 ≤ v1 ∧ v1 < 10 then
  if (x2.2 97 v1) = 0 then
  some (0, x2.2)
  else some (1, x2.2)
  else none)) := (pm_seg pm_T_ct (pm_env X) [0] 18 133 2 0 [some (.inr (.inr 77)), some (.inl v1), none] [] I).trans rfl
set_option maxRecDepth 100000 in
theorem e_M_power (X : pm_XT) (v1 : Int) (I : pm_I) : f_M_power X v1 I =
  f_M_power_5 X v1 1 0 I := (pm_seg pm_T_ct (pm_env X) [0, 5] 6 134 0 0 [some (.inr (.inr 77)), some (.inl v1), none, none, none] [] I).trans rfl
set_option maxRecDepth 100000 in
theorem e_M_power_5 (X : pm_XT) (v1 : Int) (w2 : Int) (v4 : Int) (I : pm_I) : f_M_power_5 X v1 w2 v4 I =
  if v4 < v1 then
  if pm_r32 (v4 + 1) then
  f_M_power_5 X v1 (pm_w64 (w2 * (I 77 0))) (v4 + 1) I
  else none
  else some (w2, I) := (pm_seg pm_T_ct (pm_env X) [0, 5] 13 134 0 5 [some (.inr (.inr 77)), some (.inl v1), some (.inr (.inl w2)), none, some (.inl v4)] [] I).trans rfl
set_option maxRecDepth 100000 in
theorem e_M_isFlat (X : pm_XT)  (I : pm_I) : f_M_isFlat X  I =
  f_M_isFlat_4 X 1 0 I := (pm_seg pm_T_ct (pm_env X) [0, 4] 6 135 2 0 [some (.inr (.inr 77)), none, none] [] I).trans rfl
set_option maxRecDepth 100000 in
theorem e_M_isFlat_4 (X : pm_XT) (v1 : Int) (v2 : Int) (I : pm_I) : f_M_isFlat_4 X v1 v2 I =
  if v2 < (I 77 8) then
  if v1 = 0 then
  if pm_r32 (v2 + 1) then
  f_M_isFlat_4 X 0 (v2 + 1) I
  else none
  else if 0 ≤ v2 ∧ v2 < 8 then
  if (I 87 v2) = 0 then
  if pm_r32 (v2 + 1) then
  f_M_isFlat_4 X 1 (v2 + 1) I
  else none
  else (f_M_isClosed X v2 I).bind (fun x1 =>
  if x1.1 = 0 then
  if pm_r32 (v2 + 1) then
  f_M_isFlat_4 X 1 (v2 + 1) x1.2
  else none
  else (f_M_turnOf X v2 x1.2).bind (fun x2 =>
  if x2.1 = 0 then
  if pm_r32 (v2 + 1) then
  f_M_isFlat_4 X 1 (v2 + 1) x2.2
  else none
  else if pm_r32 (v2 + 1) then
  f_M_isFlat_4 X 0 (v2 + 1) x2.2
  else none))
  else none
  else if v1 = 0 ∨ v1 = 1 then some (v1, I) else none := (pm_seg pm_T_ct (pm_env X) [0, 4] 26 135 2 4 [some (.inr (.inr 77)), some (.inl v1), some (.inl v2)] [] I).trans rfl
set_option maxRecDepth 100000 in
theorem e_M_summed (X : pm_XT) (v1 : Int) (v2 : Int) (v3 : Int) (I : pm_I) : f_M_summed X v1 v2 v3 I =
  (f_M_layTree X I).bind (fun x1 =>
  (f_M_layBacks X x1.2).bind (fun x2 =>
  if pm_r32 ((x2.2 77 4) - x1.1) then
  (f_M_power X ((x2.2 77 4) - x1.1) x2.2).bind (fun x3 =>
  if 40000 < x3.1 then
  some ((-6), x3.2)
  else if x3.1 = 40000 then
  f_M_summed_45 X v1 v2 v3 x1.1 x3.1 0 x3.2
  else f_M_summed_45 X v1 v2 v3 x1.1 x3.1 0 x3.2)
  else none)) := (pm_seg pm_T_ct (pm_env X) [0, 45, 77, 93] 23 136 3 0 [some (.inr (.inr 77)), some (.inl v1), some (.inl v2), some (.inl v3), none, none, none, none, none, none, none, none, none] [] I).trans rfl
set_option maxRecDepth 100000 in
theorem e_M_summed_45 (X : pm_XT) (v1 : Int) (v2 : Int) (v3 : Int) (v4 : Int) (w5 : Int) (v8 : Int) (I : pm_I) : f_M_summed_45 X v1 v2 v3 v4 w5 v8 I =
  if v8 < (I 77 0) then
  (f_M_classOf X v8 I).bind (fun x1 =>
  if 0 ≤ v8 ∧ v8 < 8 then
  if pm_r32 (v8 + 1) then
  f_M_summed_45 X v1 v2 v3 v4 w5 (v8 + 1) (pm_up x1.2 99 v8 x1.1)
  else none
  else none)
  else f_M_summed_77 X v1 v2 v3 v4 w5 0 0 I := (pm_seg pm_T_ct (pm_env X) [0, 45, 77, 93] 14 136 3 45 [some (.inr (.inr 77)), some (.inl v1), some (.inl v2), some (.inl v3), some (.inl v4), some (.inr (.inl w5)), none, some (.inr (.inr 99)), some (.inl v8), none, none, none, none] [] I).trans rfl
set_option maxRecDepth 100000 in
theorem e_M_summed_77 (X : pm_XT) (v1 : Int) (v2 : Int) (v3 : Int) (v4 : Int) (w5 : Int) (w8 : Int) (v10 : Int) (I : pm_I) : f_M_summed_77 X v1 v2 v3 v4 w5 w8 v10 I =
  if w5 < v10 then
  (f_M_power X v4 I).bind (fun x1 =>
  some ((pm_w64 (w8 * x1.1)), x1.2))
  else if v10 = w5 then
  (f_M_power X v4 I).bind (fun x2 =>
  some ((pm_w64 (w8 * x2.1)), x2.2))
  else f_M_summed_93 X v1 v2 v3 v4 w5 w8 v10 v10 0 I := (pm_seg pm_T_ct (pm_env X) [0, 45, 77, 93] 12 136 3 77 [some (.inr (.inr 77)), some (.inl v1), some (.inl v2), some (.inl v3), some (.inl v4), some (.inr (.inl w5)), none, some (.inr (.inr 99)), some (.inr (.inl w8)), none, some (.inl v10), none, none] [] I).trans rfl
set_option maxRecDepth 100000 in
theorem e_M_summed_93 (X : pm_XT) (v1 : Int) (v2 : Int) (v3 : Int) (v4 : Int) (w5 : Int) (w8 : Int) (v10 : Int) (v11 : Int) (v12 : Int) (I : pm_I) : f_M_summed_93 X v1 v2 v3 v4 w5 w8 v10 v11 v12 I =
  if v12 < (I 77 4) then
  if 0 ≤ v12 ∧ v12 < 10 then
  if (I 97 v12) = 0 then
  if 0 ≤ (v11 : Int) ∧ 0 < ((I 77 0) : Int) then
  if 0 ≤ v12 ∧ v12 < 10 then
  if 0 ≤ v12 ∧ v12 < 10 then
  if ((pm_up I 93 v12 (v11 % (I 77 0))) 97 v12) = 0 then
  if 0 ≤ (v11 : Int) ∧ 0 < (((pm_up I 93 v12 (v11 % (I 77 0))) 77 0) : Int) then
  if pm_r32 (v12 + 1) then
  f_M_summed_93 X v1 v2 v3 v4 w5 w8 v10 (v11 / ((pm_up I 93 v12 (v11 % (I 77 0))) 77 0)) (v12 + 1) (pm_up I 93 v12 (v11 % (I 77 0)))
  else none
  else none
  else if 0 ≤ (v11 : Int) ∧ 0 < (1 : Int) then
  if pm_r32 (v12 + 1) then
  f_M_summed_93 X v1 v2 v3 v4 w5 w8 v10 (v11 / 1) (v12 + 1) (pm_up I 93 v12 (v11 % (I 77 0)))
  else none
  else none
  else none
  else none
  else none
  else if 0 ≤ v12 ∧ v12 < 10 then
  if 0 ≤ v12 ∧ v12 < 10 then
  if ((pm_up I 93 v12 0) 97 v12) = 0 then
  if 0 ≤ (v11 : Int) ∧ 0 < (((pm_up I 93 v12 0) 77 0) : Int) then
  if pm_r32 (v12 + 1) then
  f_M_summed_93 X v1 v2 v3 v4 w5 w8 v10 (v11 / ((pm_up I 93 v12 0) 77 0)) (v12 + 1) (pm_up I 93 v12 0)
  else none
  else none
  else if 0 ≤ (v11 : Int) ∧ 0 < (1 : Int) then
  if pm_r32 (v12 + 1) then
  f_M_summed_93 X v1 v2 v3 v4 w5 w8 v10 (v11 / 1) (v12 + 1) (pm_up I 93 v12 0)
  else none
  else none
  else none
  else none
  else none
  else if v1 = 2 then
  (f_M_isFlat X I).bind (fun x1 =>
  if x1.1 = 0 then
  if pm_r32 (v10 + 1) then
  f_M_summed_77 X v1 v2 v3 v4 w5 (pm_w64 (w8 + 0)) (v10 + 1) x1.2
  else none
  else if pm_r32 (v10 + 1) then
  f_M_summed_77 X v1 v2 v3 v4 w5 (pm_w64 (w8 + 1)) (v10 + 1) x1.2
  else none)
  else if v1 = 0 then
  (f_M_weightOf X I).bind (fun x2 =>
  if pm_r32 (v10 + 1) then
  f_M_summed_77 X v1 v2 v3 v4 w5 (pm_w64 (w8 + x2.1)) (v10 + 1) x2.2
  else none)
  else (f_M_turnOf X v2 I).bind (fun x3 =>
  if 0 ≤ x3.1 ∧ x3.1 < 8 then
  if (x3.2 99 x3.1) = v3 then
  (f_M_weightOf X x3.2).bind (fun x4 =>
  if pm_r32 (v10 + 1) then
  f_M_summed_77 X v1 v2 v3 v4 w5 (pm_w64 (w8 + x4.1)) (v10 + 1) x4.2
  else none)
  else if pm_r32 (v10 + 1) then
  f_M_summed_77 X v1 v2 v3 v4 w5 w8 (v10 + 1) x3.2
  else none
  else none) := (pm_seg pm_T_ct (pm_env X) [0, 45, 77, 93] 31 136 3 93 [some (.inr (.inr 77)), some (.inl v1), some (.inl v2), some (.inl v3), some (.inl v4), some (.inr (.inl w5)), none, some (.inr (.inr 99)), some (.inr (.inl w8)), none, some (.inl v10), some (.inl v11), some (.inl v12)] [] I).trans rfl
set_option maxRecDepth 100000 in
theorem e_M_sum (X : pm_XT)  (I : pm_I) : f_M_sum X  I =
  (f_M_summed X 0 0 0 I).bind (fun x1 =>
  some (x1.1, x1.2)) := (pm_seg pm_T_ct (pm_env X) [0] 7 137 4 0 [some (.inr (.inr 77))] [] I).trans rfl
set_option maxRecDepth 100000 in
theorem e_M_canSum (X : pm_XT) (v1 : Int) (v2 : Int) (I : pm_I) : f_M_canSum X v1 v2 I =
  (f_M_isWalk X v1 I).bind (fun x1 =>
  if x1.1 = 0 then
  some (0, x1.2)
  else (f_M_isTurn X v2 x1.2).bind (fun x2 =>
  if x2.1 = 0 then
  some (0, x2.2)
  else (f_M_isClosed X v1 x2.2).bind (fun x3 =>
  if x3.1 = 0 then
  some (0, x3.2)
  else some (1, x3.2)))) := (pm_seg pm_T_ct (pm_env X) [0] 16 138 2 0 [some (.inr (.inr 77)), some (.inl v1), some (.inl v2)] [] I).trans rfl
set_option maxRecDepth 100000 in
theorem e_M_sumBy (X : pm_XT) (v1 : Int) (v2 : Int) (I : pm_I) : f_M_sumBy X v1 v2 I =
  (f_M_canSum X v1 v2 I).bind (fun x1 =>
  if x1.1 = 0 then
  some ((-1), x1.2)
  else (f_M_classOf X v2 x1.2).bind (fun x2 =>
  (f_M_summed X 1 v1 x2.1 x2.2).bind (fun x3 =>
  some (x3.1, x3.2)))) := (pm_seg pm_T_ct (pm_env X) [0] 15 139 4 0 [some (.inr (.inr 77)), some (.inl v1), some (.inl v2)] [] I).trans rfl
set_option maxRecDepth 100000 in
theorem e_M_mean (X : pm_XT) (v1 : Int) (v2 : Int) (v3 : Int) (I : pm_I) : f_M_mean X v1 v2 v3 I =
  (f_M_canSum X v1 v2 I).bind (fun x1 =>
  if x1.1 = 0 then
  some ((-1), x1.2)
  else (f_M_in X v3 0 1 x1.2).bind (fun x2 =>
  if x2.1 = 0 then
  some ((-1), x2.2)
  else (f_M_summed X 0 0 0 x2.2).bind (fun x3 =>
  if (-6) < x3.1 then
  if 0 < x3.1 then
  (f_M_classOf X v2 x3.2).bind (fun x4 =>
  (f_M_summed X 1 v1 x4.1 x4.2).bind (fun x5 =>
  f_M_mean_77 X v3 x3.1 x5.1 x5.1 x3.1 x5.2))
  else if x3.1 = 0 then
  some ((-2), x3.2)
  else (f_M_classOf X v2 x3.2).bind (fun x6 =>
  (f_M_summed X 1 v1 x6.1 x6.2).bind (fun x7 =>
  f_M_mean_77 X v3 x3.1 x7.1 x7.1 x3.1 x7.2))
  else if x3.1 = (-6) then
  some ((-6), x3.2)
  else if 0 < x3.1 then
  (f_M_classOf X v2 x3.2).bind (fun x8 =>
  (f_M_summed X 1 v1 x8.1 x8.2).bind (fun x9 =>
  f_M_mean_77 X v3 x3.1 x9.1 x9.1 x3.1 x9.2))
  else if x3.1 = 0 then
  some ((-2), x3.2)
  else (f_M_classOf X v2 x3.2).bind (fun x10 =>
  (f_M_summed X 1 v1 x10.1 x10.2).bind (fun x11 =>
  f_M_mean_77 X v3 x3.1 x11.1 x11.1 x3.1 x11.2))))) := (pm_seg pm_T_ct (pm_env X) [0, 77] 39 140 4 0 [some (.inr (.inr 77)), some (.inl v1), some (.inl v2), some (.inl v3), none, none, none, none, none, none, none, none, none, none] [] I).trans rfl
set_option maxRecDepth 100000 in
theorem e_M_mean_77 (X : pm_XT) (v3 : Int) (w4 : Int) (w6 : Int) (w8 : Int) (w10 : Int) (I : pm_I) : f_M_mean_77 X v3 w4 w6 w8 w10 I =
  if 0 < w10 then
  if 0 ≤ (w8 : Int) ∧ 0 < (w10 : Int) then
  f_M_mean_77 X v3 w4 w6 w10 (w8 % w10) I
  else none
  else if w10 = 0 then
  if v3 = 0 then
  if 0 ≤ (w6 : Int) ∧ 0 < (w8 : Int) then
  some ((w6 / w8), I)
  else none
  else if 0 ≤ (w4 : Int) ∧ 0 < (w8 : Int) then
  some ((w4 / w8), I)
  else none
  else if 0 ≤ (w8 : Int) ∧ 0 < (w10 : Int) then
  f_M_mean_77 X v3 w4 w6 w10 (w8 % w10) I
  else none := (pm_seg pm_T_ct (pm_env X) [0, 77] 15 140 4 77 [none, none, none, some (.inl v3), some (.inr (.inl w4)), none, some (.inr (.inl w6)), none, some (.inr (.inl w8)), none, some (.inr (.inl w10)), none, none, none] [] I).trans rfl
set_option maxRecDepth 100000 in
theorem e_M_flat (X : pm_XT)  (I : pm_I) : f_M_flat X  I =
  (f_M_summed X 2 0 0 I).bind (fun x1 =>
  some (x1.1, x1.2)) := (pm_seg pm_T_ct (pm_env X) [0] 7 141 4 0 [some (.inr (.inr 77))] [] I).trans rfl
set_option maxRecDepth 100000 in
theorem e_M_fill (X : pm_XT) (v1 : Int) (v2 : Int) (v3 : Int) (I : pm_I) : f_M_fill X v1 v2 v3 I =
  (f_M_in X v1 0 3 I).bind (fun x1 =>
  if x1.1 = 0 then
  some ((-1), x1.2)
  else (f_M_in X v2 0 2 x1.2).bind (fun x2 =>
  if x2.1 = 0 then
  some ((-1), x2.2)
  else if 0 ≤ v1 ∧ v1 < 4 then
  if (x2.2 89 v1) = v2 then
  f_M_fill_58 X v1 v3 0 x2.2
  else if 0 ≤ v1 ∧ v1 < 4 then
  if (x2.2 89 v1) = (-4) then
  some ((-11), x2.2)
  else some ((-13), x2.2)
  else none
  else none)) := (pm_seg pm_T_ct (pm_env X) [0, 58, 131] 28 142 2 0 [some (.inr (.inr 77)), some (.inl v1), some (.inl v2), some (.inl v3), none, none, none] [] I).trans rfl
set_option maxRecDepth 100000 in
theorem e_M_fill_58 (X : pm_XT) (v1 : Int) (v3 : Int) (v4 : Int) (I : pm_I) : f_M_fill_58 X v1 v3 v4 I =
  if v4 < (I 77 4) then
  if 0 ≤ v1 ∧ v1 < 4 then
  if pm_r32 ((I 90 v1) - 1) then
  (f_M_in X (pm_w64 (v3 + v4)) 0 ((I 90 v1) - 1) I).bind (fun x1 =>
  if x1.1 = 0 then
  some ((-12), x1.2)
  else if pm_r32 (64 * v1) then
  if pm_r32 ((64 * v1) + v3) then
  if pm_r32 (((64 * v1) + v3) + v4) then
  if 0 ≤ (((64 * v1) + v3) + v4) ∧ (((64 * v1) + v3) + v4) < 256 then
  (f_M_isTurn X (x1.2 91 (((64 * v1) + v3) + v4)) x1.2).bind (fun x2 =>
  if x2.1 = 0 then
  if pm_r32 ((-20) - v4) then
  some (((-20) - v4), x2.2)
  else none
  else if pm_r32 (v4 + 1) then
  f_M_fill_58 X v1 v3 (v4 + 1) x2.2
  else none)
  else none
  else none
  else none
  else none)
  else none
  else none
  else f_M_fill_131 X v1 v3 0 0 I := (pm_seg pm_T_ct (pm_env X) [0, 58, 131] 37 142 2 58 [some (.inr (.inr 77)), some (.inl v1), none, some (.inl v3), some (.inl v4), none, none] [] I).trans rfl
set_option maxRecDepth 100000 in
theorem e_M_fill_131 (X : pm_XT) (v1 : Int) (v3 : Int) (v4 : Int) (v5 : Int) (I : pm_I) : f_M_fill_131 X v1 v3 v4 v5 I =
  if v5 < (I 77 4) then
  if pm_r32 (64 * v1) then
  if pm_r32 ((64 * v1) + v3) then
  if pm_r32 (((64 * v1) + v3) + v5) then
  if 0 ≤ (((64 * v1) + v3) + v5) ∧ (((64 * v1) + v3) + v5) < 256 then
  if 0 ≤ v5 ∧ v5 < 10 then
  if (I 82 v5) = (I 91 (((64 * v1) + v3) + v5)) then
  if pm_r32 (v5 + 1) then
  f_M_fill_131 X v1 v3 v4 (v5 + 1) I
  else none
  else (f_M_record X I).bind (fun x1 =>
  if 0 ≤ v5 ∧ v5 < 10 then
  if pm_r32 (v4 + 1) then
  if pm_r32 (v5 + 1) then
  f_M_fill_131 X v1 v3 (v4 + 1) (v5 + 1) (pm_up x1.2 82 v5 (I 91 (((64 * v1) + v3) + v5)))
  else none
  else none
  else none)
  else none
  else none
  else none
  else none
  else none
  else some (v4, I) := (pm_seg pm_T_ct (pm_env X) [0, 58, 131] 33 142 2 131 [some (.inr (.inr 77)), some (.inl v1), none, some (.inl v3), some (.inl v4), some (.inl v5), none] [] I).trans rfl
set_option maxRecDepth 100000 in
theorem e_M_many (X : pm_XT) (v1 : Int) (I : pm_I) : f_M_many X v1 I =
  (f_M_in X v1 0 7 I).bind (fun x1 =>
  if x1.1 = 0 then
  some ((-1), x1.2)
  else (f_M_layTree X x1.2).bind (fun x2 =>
  f_M_many_24 X v1 x2.1 0 0 x2.2)) := (pm_seg pm_T_ct (pm_env X) [0, 24] 15 143 2 0 [some (.inr (.inr 77)), some (.inl v1), none, none, none] [] I).trans rfl
set_option maxRecDepth 100000 in
theorem e_M_many_24 (X : pm_XT) (v1 : Int) (v2 : Int) (v3 : Int) (v4 : Int) (I : pm_I) : f_M_many_24 X v1 v2 v3 v4 I =
  if v4 < (I 77 8) then
  if 0 ≤ v4 ∧ v4 < 8 then
  if (I 87 v4) = 0 then
  if pm_r32 (v3 + 0) then
  if pm_r32 (v4 + 1) then
  f_M_many_24 X v1 v2 (v3 + 0) (v4 + 1) I
  else none
  else none
  else (f_M_isClosed X v4 I).bind (fun x1 =>
  if x1.1 = 0 then
  if pm_r32 (v3 + 0) then
  if pm_r32 (v4 + 1) then
  f_M_many_24 X v1 v2 (v3 + 0) (v4 + 1) x1.2
  else none
  else none
  else if pm_r32 (v3 + 1) then
  if pm_r32 (v4 + 1) then
  f_M_many_24 X v1 v2 (v3 + 1) (v4 + 1) x1.2
  else none
  else none)
  else none
  else if v1 = 0 then
  some ((I 77 3), I)
  else if v1 = 1 then
  some ((I 77 4), I)
  else if v1 = 2 then
  some ((I 77 8), I)
  else if v1 = 3 then
  some (v3, I)
  else if v1 = 4 then
  if pm_r32 ((I 77 3) - v2) then
  some (((I 77 3) - v2), I)
  else none
  else if v1 = 5 then
  some (v2, I)
  else if v1 = 6 then
  some ((I 77 14), I)
  else if (I 89 0) = (-4) then
  some ((-4), I)
  else some ((I 90 0), I) := (pm_seg pm_T_ct (pm_env X) [0, 24] 22 143 2 24 [some (.inr (.inr 77)), some (.inl v1), some (.inl v2), some (.inl v3), some (.inl v4)] [] I).trans rfl
end
