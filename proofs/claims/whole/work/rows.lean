section
-- ===== PART A: goes FIRST, ahead of the names: the tables' words, and 'selects' of the private methods out of them =====
/-- a private method of a class that the tables say can be made, by its rows of tables_1 -/
def lw_okq (q : MethodName × Nat) : Prop := (q.1.cls ≠ "java/lang/invoke/MethodHandle" ∧ q.1.cls ≠ "java/lang/invoke/VarHandle") ∧ Cond.instantiable q.1.cls q.2 ∈ tables_1 ∧ Cond.privateMethod q.1 ∈ tables_1 ∧ Cond.instanceMethod q.1 ∈ tables_1
theorem lw_p0 : lw_okq (⟨"TurnBoards$Group", "findBack", "(I)I"⟩, 6) := ⟨⟨by decide +kernel, by decide +kernel⟩, List.mem_of_getElem? (i := 20) (by decide +kernel), List.mem_of_getElem? (i := 37) (by decide +kernel), List.mem_of_getElem? (i := 38) (by decide +kernel)⟩
theorem lw_p1 : lw_okq (⟨"TurnBoards$Group", "findClass", "(I)I"⟩, 6) := ⟨⟨by decide +kernel, by decide +kernel⟩, List.mem_of_getElem? (i := 20) (by decide +kernel), List.mem_of_getElem? (i := 45) (by decide +kernel), List.mem_of_getElem? (i := 46) (by decide +kernel)⟩
theorem lw_p2 : lw_okq (⟨"TurnBoards", "takeDraft", "(I)I"⟩, 7) := ⟨⟨by decide +kernel, by decide +kernel⟩, List.mem_of_getElem? (i := 12) (by decide +kernel), List.mem_of_getElem? (i := 252) (by decide +kernel), List.mem_of_getElem? (i := 253) (by decide +kernel)⟩
theorem lw_p3 : lw_okq (⟨"TurnBoards", "draftFrom", "(LTurnBoards$Sheet;II)I"⟩, 7) := ⟨⟨by decide +kernel, by decide +kernel⟩, List.mem_of_getElem? (i := 12) (by decide +kernel), List.mem_of_getElem? (i := 289) (by decide +kernel), List.mem_of_getElem? (i := 290) (by decide +kernel)⟩
theorem lw_p4 : lw_okq (⟨"TurnBoards$Group", "drafted", "(II)I"⟩, 6) := ⟨⟨by decide +kernel, by decide +kernel⟩, List.mem_of_getElem? (i := 20) (by decide +kernel), List.mem_of_getElem? (i := 301) (by decide +kernel), List.mem_of_getElem? (i := 302) (by decide +kernel)⟩
theorem lw_p5 : lw_okq (⟨"TurnBoards$Group", "draftHasBack", "(II)Z"⟩, 6) := ⟨⟨by decide +kernel, by decide +kernel⟩, List.mem_of_getElem? (i := 20) (by decide +kernel), List.mem_of_getElem? (i := 305) (by decide +kernel), List.mem_of_getElem? (i := 306) (by decide +kernel)⟩
theorem lw_p6 : lw_okq (⟨"TurnBoards$Group", "draftJoinFault", "(I)I"⟩, 6) := ⟨⟨by decide +kernel, by decide +kernel⟩, List.mem_of_getElem? (i := 20) (by decide +kernel), List.mem_of_getElem? (i := 309) (by decide +kernel), List.mem_of_getElem? (i := 310) (by decide +kernel)⟩
theorem lw_p7 : lw_okq (⟨"TurnBoards", "isTurn", "(I)Z"⟩, 7) := ⟨⟨by decide +kernel, by decide +kernel⟩, List.mem_of_getElem? (i := 12) (by decide +kernel), List.mem_of_getElem? (i := 317) (by decide +kernel), List.mem_of_getElem? (i := 318) (by decide +kernel)⟩
theorem lw_p8 : lw_okq (⟨"TurnBoards", "isPoint", "(I)Z"⟩, 7) := ⟨⟨by decide +kernel, by decide +kernel⟩, List.mem_of_getElem? (i := 12) (by decide +kernel), List.mem_of_getElem? (i := 375) (by decide +kernel), List.mem_of_getElem? (i := 376) (by decide +kernel)⟩
theorem lw_p9 : lw_okq (⟨"TurnBoards$Board", "joinParts", "(II)V"⟩, 10) := ⟨⟨by decide +kernel, by decide +kernel⟩, List.mem_of_getElem? (i := 82) (by decide +kernel), List.mem_of_getElem? (i := 383) (by decide +kernel), List.mem_of_getElem? (i := 384) (by decide +kernel)⟩
theorem lw_p10 : lw_okq (⟨"TurnBoards", "isWalk", "(I)Z"⟩, 7) := ⟨⟨by decide +kernel, by decide +kernel⟩, List.mem_of_getElem? (i := 12) (by decide +kernel), List.mem_of_getElem? (i := 400) (by decide +kernel), List.mem_of_getElem? (i := 401) (by decide +kernel)⟩
theorem lw_p11 : lw_okq (⟨"TurnBoards", "isLine", "(I)Z"⟩, 7) := ⟨⟨by decide +kernel, by decide +kernel⟩, List.mem_of_getElem? (i := 12) (by decide +kernel), List.mem_of_getElem? (i := 404) (by decide +kernel), List.mem_of_getElem? (i := 405) (by decide +kernel)⟩
theorem lw_p12 : lw_okq (⟨"TurnBoards$Board", "reachAlong", "(ILTurnBoards$Group;)V"⟩, 10) := ⟨⟨by decide +kernel, by decide +kernel⟩, List.mem_of_getElem? (i := 82) (by decide +kernel), List.mem_of_getElem? (i := 477) (by decide +kernel), List.mem_of_getElem? (i := 478) (by decide +kernel)⟩
theorem lw_p13 : lw_okq (⟨"TurnBoards", "isSpent", "()Z"⟩, 7) := ⟨⟨by decide +kernel, by decide +kernel⟩, List.mem_of_getElem? (i := 12) (by decide +kernel), List.mem_of_getElem? (i := 497) (by decide +kernel), List.mem_of_getElem? (i := 498) (by decide +kernel)⟩
theorem lw_p14 : lw_okq (⟨"TurnBoards", "sumOfWeights", "()J"⟩, 7) := ⟨⟨by decide +kernel, by decide +kernel⟩, List.mem_of_getElem? (i := 12) (by decide +kernel), List.mem_of_getElem? (i := 503) (by decide +kernel), List.mem_of_getElem? (i := 504) (by decide +kernel)⟩
theorem lw_p15 : lw_okq (⟨"TurnBoards", "lookForWeights", "()V"⟩, 7) := ⟨⟨by decide +kernel, by decide +kernel⟩, List.mem_of_getElem? (i := 12) (by decide +kernel), List.mem_of_getElem? (i := 511) (by decide +kernel), List.mem_of_getElem? (i := 512) (by decide +kernel)⟩
def lw_privs_1 : List (MethodName × Nat) := [(⟨"TurnBoards$Group", "findBack", "(I)I"⟩, 6), (⟨"TurnBoards$Group", "findClass", "(I)I"⟩, 6), (⟨"TurnBoards", "takeDraft", "(I)I"⟩, 7), (⟨"TurnBoards", "draftFrom", "(LTurnBoards$Sheet;II)I"⟩, 7), (⟨"TurnBoards$Group", "drafted", "(II)I"⟩, 6), (⟨"TurnBoards$Group", "draftHasBack", "(II)Z"⟩, 6), (⟨"TurnBoards$Group", "draftJoinFault", "(I)I"⟩, 6), (⟨"TurnBoards", "isTurn", "(I)Z"⟩, 7), (⟨"TurnBoards", "isPoint", "(I)Z"⟩, 7), (⟨"TurnBoards$Board", "joinParts", "(II)V"⟩, 10), (⟨"TurnBoards", "isWalk", "(I)Z"⟩, 7), (⟨"TurnBoards", "isLine", "(I)Z"⟩, 7), (⟨"TurnBoards$Board", "reachAlong", "(ILTurnBoards$Group;)V"⟩, 10), (⟨"TurnBoards", "isSpent", "()Z"⟩, 7), (⟨"TurnBoards", "sumOfWeights", "()J"⟩, 7), (⟨"TurnBoards", "lookForWeights", "()V"⟩, 7)]
theorem lw_r1 : ∀ q ∈ lw_privs_1, lw_okq q := List.forall_mem_cons.mpr ⟨lw_p0, List.forall_mem_cons.mpr ⟨lw_p1, List.forall_mem_cons.mpr ⟨lw_p2, List.forall_mem_cons.mpr ⟨lw_p3, List.forall_mem_cons.mpr ⟨lw_p4, List.forall_mem_cons.mpr ⟨lw_p5, List.forall_mem_cons.mpr ⟨lw_p6, List.forall_mem_cons.mpr ⟨lw_p7, List.forall_mem_cons.mpr ⟨lw_p8, List.forall_mem_cons.mpr ⟨lw_p9, List.forall_mem_cons.mpr ⟨lw_p10, List.forall_mem_cons.mpr ⟨lw_p11, List.forall_mem_cons.mpr ⟨lw_p12, List.forall_mem_cons.mpr ⟨lw_p13, List.forall_mem_cons.mpr ⟨lw_p14, List.forall_mem_cons.mpr ⟨lw_p15, fun _ h => absurd h List.not_mem_nil⟩⟩⟩⟩⟩⟩⟩⟩⟩⟩⟩⟩⟩⟩⟩⟩
theorem lw_p16 : lw_okq (⟨"TurnBoards", "sumLooked", "()J"⟩, 7) := ⟨⟨by decide +kernel, by decide +kernel⟩, List.mem_of_getElem? (i := 12) (by decide +kernel), List.mem_of_getElem? (i := 519) (by decide +kernel), List.mem_of_getElem? (i := 520) (by decide +kernel)⟩
theorem lw_p17 : lw_okq (⟨"TurnBoards$Sums", "factorBehind", "(I[LTurnBoards$Walk;LTurnBoards$Group;)J"⟩, 6) := ⟨⟨by decide +kernel, by decide +kernel⟩, List.mem_of_getElem? (i := 151) (by decide +kernel), List.mem_of_getElem? (i := 537) (by decide +kernel), List.mem_of_getElem? (i := 538) (by decide +kernel)⟩
theorem lw_p18 : lw_okq (⟨"TurnBoards", "isClosedWalk", "(I)Z"⟩, 7) := ⟨⟨by decide +kernel, by decide +kernel⟩, List.mem_of_getElem? (i := 12) (by decide +kernel), List.mem_of_getElem? (i := 547) (by decide +kernel), List.mem_of_getElem? (i := 548) (by decide +kernel)⟩
theorem lw_p19 : lw_okq (⟨"TurnBoards", "sumHeld", "(II)J"⟩, 7) := ⟨⟨by decide +kernel, by decide +kernel⟩, List.mem_of_getElem? (i := 12) (by decide +kernel), List.mem_of_getElem? (i := 552) (by decide +kernel), List.mem_of_getElem? (i := 553) (by decide +kernel)⟩
theorem lw_p20 : lw_okq (⟨"TurnBoards", "linesFault", "(LTurnBoards$Sheet;I)I"⟩, 7) := ⟨⟨by decide +kernel, by decide +kernel⟩, List.mem_of_getElem? (i := 12) (by decide +kernel), List.mem_of_getElem? (i := 596) (by decide +kernel), List.mem_of_getElem? (i := 597) (by decide +kernel)⟩
theorem lw_p21 : lw_okq (⟨"TurnBoards", "fillLines", "(LTurnBoards$Sheet;I)I"⟩, 7) := ⟨⟨by decide +kernel, by decide +kernel⟩, List.mem_of_getElem? (i := 12) (by decide +kernel), List.mem_of_getElem? (i := 600) (by decide +kernel), List.mem_of_getElem? (i := 601) (by decide +kernel)⟩
theorem lw_p22 : lw_okq (⟨"TurnBoards", "walksThatWeigh", "()I"⟩, 7) := ⟨⟨by decide +kernel, by decide +kernel⟩, List.mem_of_getElem? (i := 12) (by decide +kernel), List.mem_of_getElem? (i := 608) (by decide +kernel), List.mem_of_getElem? (i := 609) (by decide +kernel)⟩
theorem lw_p23 : lw_okq (⟨"TurnBoardsModel", "begin", "(I)V"⟩, 27) := ⟨⟨by decide +kernel, by decide +kernel⟩, List.mem_of_getElem? (i := 612) (by decide +kernel), List.mem_of_getElem? (i := 711) (by decide +kernel), List.mem_of_getElem? (i := 712) (by decide +kernel)⟩
theorem lw_p24 : lw_okq (⟨"TurnBoardsModel", "isTurn", "(I)Z"⟩, 27) := ⟨⟨by decide +kernel, by decide +kernel⟩, List.mem_of_getElem? (i := 612) (by decide +kernel), List.mem_of_getElem? (i := 733) (by decide +kernel), List.mem_of_getElem? (i := 734) (by decide +kernel)⟩
theorem lw_p25 : lw_okq (⟨"TurnBoardsModel", "product", "(II)I"⟩, 27) := ⟨⟨by decide +kernel, by decide +kernel⟩, List.mem_of_getElem? (i := 612) (by decide +kernel), List.mem_of_getElem? (i := 737) (by decide +kernel), List.mem_of_getElem? (i := 738) (by decide +kernel)⟩
theorem lw_p26 : lw_okq (⟨"TurnBoardsModel", "backOf", "(I)I"⟩, 27) := ⟨⟨by decide +kernel, by decide +kernel⟩, List.mem_of_getElem? (i := 612) (by decide +kernel), List.mem_of_getElem? (i := 746) (by decide +kernel), List.mem_of_getElem? (i := 747) (by decide +kernel)⟩
theorem lw_p27 : lw_okq (⟨"TurnBoardsModel", "classOf", "(I)I"⟩, 27) := ⟨⟨by decide +kernel, by decide +kernel⟩, List.mem_of_getElem? (i := 612) (by decide +kernel), List.mem_of_getElem? (i := 750) (by decide +kernel), List.mem_of_getElem? (i := 751) (by decide +kernel)⟩
theorem lw_p28 : lw_okq (⟨"TurnBoardsModel", "alikeWith", "(I)I"⟩, 27) := ⟨⟨by decide +kernel, by decide +kernel⟩, List.mem_of_getElem? (i := 612) (by decide +kernel), List.mem_of_getElem? (i := 754) (by decide +kernel), List.mem_of_getElem? (i := 755) (by decide +kernel)⟩
theorem lw_p29 : lw_okq (⟨"TurnBoardsModel", "isPoint", "(I)Z"⟩, 27) := ⟨⟨by decide +kernel, by decide +kernel⟩, List.mem_of_getElem? (i := 612) (by decide +kernel), List.mem_of_getElem? (i := 776) (by decide +kernel), List.mem_of_getElem? (i := 777) (by decide +kernel)⟩
theorem lw_p30 : lw_okq (⟨"TurnBoardsModel", "isWalk", "(I)Z"⟩, 27) := ⟨⟨by decide +kernel, by decide +kernel⟩, List.mem_of_getElem? (i := 612) (by decide +kernel), List.mem_of_getElem? (i := 788) (by decide +kernel), List.mem_of_getElem? (i := 789) (by decide +kernel)⟩
theorem lw_p31 : lw_okq (⟨"TurnBoardsModel", "isLine", "(I)Z"⟩, 27) := ⟨⟨by decide +kernel, by decide +kernel⟩, List.mem_of_getElem? (i := 612) (by decide +kernel), List.mem_of_getElem? (i := 792) (by decide +kernel), List.mem_of_getElem? (i := 793) (by decide +kernel)⟩
def lw_privs_2 : List (MethodName × Nat) := [(⟨"TurnBoards", "sumLooked", "()J"⟩, 7), (⟨"TurnBoards$Sums", "factorBehind", "(I[LTurnBoards$Walk;LTurnBoards$Group;)J"⟩, 6), (⟨"TurnBoards", "isClosedWalk", "(I)Z"⟩, 7), (⟨"TurnBoards", "sumHeld", "(II)J"⟩, 7), (⟨"TurnBoards", "linesFault", "(LTurnBoards$Sheet;I)I"⟩, 7), (⟨"TurnBoards", "fillLines", "(LTurnBoards$Sheet;I)I"⟩, 7), (⟨"TurnBoards", "walksThatWeigh", "()I"⟩, 7), (⟨"TurnBoardsModel", "begin", "(I)V"⟩, 27), (⟨"TurnBoardsModel", "isTurn", "(I)Z"⟩, 27), (⟨"TurnBoardsModel", "product", "(II)I"⟩, 27), (⟨"TurnBoardsModel", "backOf", "(I)I"⟩, 27), (⟨"TurnBoardsModel", "classOf", "(I)I"⟩, 27), (⟨"TurnBoardsModel", "alikeWith", "(I)I"⟩, 27), (⟨"TurnBoardsModel", "isPoint", "(I)Z"⟩, 27), (⟨"TurnBoardsModel", "isWalk", "(I)Z"⟩, 27), (⟨"TurnBoardsModel", "isLine", "(I)Z"⟩, 27)]
theorem lw_r2 : ∀ q ∈ lw_privs_2, lw_okq q := List.forall_mem_cons.mpr ⟨lw_p16, List.forall_mem_cons.mpr ⟨lw_p17, List.forall_mem_cons.mpr ⟨lw_p18, List.forall_mem_cons.mpr ⟨lw_p19, List.forall_mem_cons.mpr ⟨lw_p20, List.forall_mem_cons.mpr ⟨lw_p21, List.forall_mem_cons.mpr ⟨lw_p22, List.forall_mem_cons.mpr ⟨lw_p23, List.forall_mem_cons.mpr ⟨lw_p24, List.forall_mem_cons.mpr ⟨lw_p25, List.forall_mem_cons.mpr ⟨lw_p26, List.forall_mem_cons.mpr ⟨lw_p27, List.forall_mem_cons.mpr ⟨lw_p28, List.forall_mem_cons.mpr ⟨lw_p29, List.forall_mem_cons.mpr ⟨lw_p30, List.forall_mem_cons.mpr ⟨lw_p31, fun _ h => absurd h List.not_mem_nil⟩⟩⟩⟩⟩⟩⟩⟩⟩⟩⟩⟩⟩⟩⟩⟩
theorem lw_p32 : lw_okq (⟨"TurnBoardsModel", "endOf", "(I)I"⟩, 27) := ⟨⟨by decide +kernel, by decide +kernel⟩, List.mem_of_getElem? (i := 612) (by decide +kernel), List.mem_of_getElem? (i := 796) (by decide +kernel), List.mem_of_getElem? (i := 797) (by decide +kernel)⟩
theorem lw_p33 : lw_okq (⟨"TurnBoardsModel", "layBacks", "()V"⟩, 27) := ⟨⟨by decide +kernel, by decide +kernel⟩, List.mem_of_getElem? (i := 612) (by decide +kernel), List.mem_of_getElem? (i := 808) (by decide +kernel), List.mem_of_getElem? (i := 809) (by decide +kernel)⟩
theorem lw_p34 : lw_okq (⟨"TurnBoardsModel", "takeLines", "()V"⟩, 27) := ⟨⟨by decide +kernel, by decide +kernel⟩, List.mem_of_getElem? (i := 612) (by decide +kernel), List.mem_of_getElem? (i := 812) (by decide +kernel), List.mem_of_getElem? (i := 813) (by decide +kernel)⟩
theorem lw_p35 : lw_okq (⟨"TurnBoardsModel", "isClosed", "(I)Z"⟩, 27) := ⟨⟨by decide +kernel, by decide +kernel⟩, List.mem_of_getElem? (i := 612) (by decide +kernel), List.mem_of_getElem? (i := 816) (by decide +kernel), List.mem_of_getElem? (i := 817) (by decide +kernel)⟩
theorem lw_p36 : lw_okq (⟨"TurnBoardsModel", "turnOf", "(I)I"⟩, 27) := ⟨⟨by decide +kernel, by decide +kernel⟩, List.mem_of_getElem? (i := 612) (by decide +kernel), List.mem_of_getElem? (i := 820) (by decide +kernel), List.mem_of_getElem? (i := 821) (by decide +kernel)⟩
theorem lw_p37 : lw_okq (⟨"TurnBoardsModel", "record", "()V"⟩, 27) := ⟨⟨by decide +kernel, by decide +kernel⟩, List.mem_of_getElem? (i := 612) (by decide +kernel), List.mem_of_getElem? (i := 836) (by decide +kernel), List.mem_of_getElem? (i := 837) (by decide +kernel)⟩
theorem lw_p38 : lw_okq (⟨"TurnBoardsModel", "weightOf", "()J"⟩, 27) := ⟨⟨by decide +kernel, by decide +kernel⟩, List.mem_of_getElem? (i := 612) (by decide +kernel), List.mem_of_getElem? (i := 848) (by decide +kernel), List.mem_of_getElem? (i := 849) (by decide +kernel)⟩
theorem lw_p39 : lw_okq (⟨"TurnBoardsModel", "turned", "()I"⟩, 27) := ⟨⟨by decide +kernel, by decide +kernel⟩, List.mem_of_getElem? (i := 612) (by decide +kernel), List.mem_of_getElem? (i := 856) (by decide +kernel), List.mem_of_getElem? (i := 857) (by decide +kernel)⟩
theorem lw_p40 : lw_okq (⟨"TurnBoardsModel", "layTree", "()I"⟩, 27) := ⟨⟨by decide +kernel, by decide +kernel⟩, List.mem_of_getElem? (i := 612) (by decide +kernel), List.mem_of_getElem? (i := 864) (by decide +kernel), List.mem_of_getElem? (i := 865) (by decide +kernel)⟩
theorem lw_p41 : lw_okq (⟨"TurnBoardsModel", "summed", "(III)J"⟩, 27) := ⟨⟨by decide +kernel, by decide +kernel⟩, List.mem_of_getElem? (i := 612) (by decide +kernel), List.mem_of_getElem? (i := 876) (by decide +kernel), List.mem_of_getElem? (i := 877) (by decide +kernel)⟩
theorem lw_p42 : lw_okq (⟨"TurnBoardsModel", "power", "(I)J"⟩, 27) := ⟨⟨by decide +kernel, by decide +kernel⟩, List.mem_of_getElem? (i := 612) (by decide +kernel), List.mem_of_getElem? (i := 880) (by decide +kernel), List.mem_of_getElem? (i := 881) (by decide +kernel)⟩
theorem lw_p43 : lw_okq (⟨"TurnBoardsModel", "isFlat", "()Z"⟩, 27) := ⟨⟨by decide +kernel, by decide +kernel⟩, List.mem_of_getElem? (i := 612) (by decide +kernel), List.mem_of_getElem? (i := 886) (by decide +kernel), List.mem_of_getElem? (i := 887) (by decide +kernel)⟩
theorem lw_p44 : lw_okq (⟨"TurnBoardsModel", "canSum", "(II)Z"⟩, 27) := ⟨⟨by decide +kernel, by decide +kernel⟩, List.mem_of_getElem? (i := 612) (by decide +kernel), List.mem_of_getElem? (i := 894) (by decide +kernel), List.mem_of_getElem? (i := 895) (by decide +kernel)⟩
def lw_privs_3 : List (MethodName × Nat) := [(⟨"TurnBoardsModel", "endOf", "(I)I"⟩, 27), (⟨"TurnBoardsModel", "layBacks", "()V"⟩, 27), (⟨"TurnBoardsModel", "takeLines", "()V"⟩, 27), (⟨"TurnBoardsModel", "isClosed", "(I)Z"⟩, 27), (⟨"TurnBoardsModel", "turnOf", "(I)I"⟩, 27), (⟨"TurnBoardsModel", "record", "()V"⟩, 27), (⟨"TurnBoardsModel", "weightOf", "()J"⟩, 27), (⟨"TurnBoardsModel", "turned", "()I"⟩, 27), (⟨"TurnBoardsModel", "layTree", "()I"⟩, 27), (⟨"TurnBoardsModel", "summed", "(III)J"⟩, 27), (⟨"TurnBoardsModel", "power", "(I)J"⟩, 27), (⟨"TurnBoardsModel", "isFlat", "()Z"⟩, 27), (⟨"TurnBoardsModel", "canSum", "(II)Z"⟩, 27)]
theorem lw_r3 : ∀ q ∈ lw_privs_3, lw_okq q := List.forall_mem_cons.mpr ⟨lw_p32, List.forall_mem_cons.mpr ⟨lw_p33, List.forall_mem_cons.mpr ⟨lw_p34, List.forall_mem_cons.mpr ⟨lw_p35, List.forall_mem_cons.mpr ⟨lw_p36, List.forall_mem_cons.mpr ⟨lw_p37, List.forall_mem_cons.mpr ⟨lw_p38, List.forall_mem_cons.mpr ⟨lw_p39, List.forall_mem_cons.mpr ⟨lw_p40, List.forall_mem_cons.mpr ⟨lw_p41, List.forall_mem_cons.mpr ⟨lw_p42, List.forall_mem_cons.mpr ⟨lw_p43, List.forall_mem_cons.mpr ⟨lw_p44, fun _ h => absurd h List.not_mem_nil⟩⟩⟩⟩⟩⟩⟩⟩⟩⟩⟩⟩⟩
def lw_privs : List (MethodName × Nat) := lw_privs_1 ++ (lw_privs_2 ++ (lw_privs_3))
def lw_tbl : List Cond := k2_sels lw_privs ++ tables_1
theorem lw_privs_ok : ∀ q ∈ lw_privs, lw_okq q := by
  show ∀ q ∈ lw_privs_1 ++ (lw_privs_2 ++ (lw_privs_3)), lw_okq q
  exact List.forall_mem_append.mpr ⟨lw_r1, List.forall_mem_append.mpr ⟨lw_r2, lw_r3⟩⟩
end
section
/-! THE PURE MACHINE: what an instruction does, over a heap of numbers; a method is a table from places of its code to what is done there. -/
/-- a value: an int, a long, a reference (0 none, 1 the row of units, 2 the script, from 3 on the cells) -/
abbrev pm_V : Type := Int ⊕ (Int ⊕ Nat)
/-- the numbers of the heap: cell, place -/
abbrev pm_I : Type := Nat → Int → Int
abbrev pm_L : Type := List (Option pm_V)
/-- kinds, lengths, references, the rows that stand outside -/
abbrev pm_E : Type := (Nat → Nat) × (Nat → Int) × (Nat → Nat → Nat) × (Nat → Int → Int)
abbrev pm_O : Type := Option (Int × pm_I)
/-- method, rank, place, locals, stack, heap -/
abbrev pm_G : Type := Nat → Nat → Nat → pm_L → List pm_V → pm_I → pm_O
abbrev pm_S : Type := pm_E → pm_G → Nat → Nat → pm_L → List pm_V → pm_I → pm_O
abbrev pm_r32 (x : Int) : Prop := -2147483648 ≤ x ∧ x ≤ 2147483647
abbrev pm_r64 (x : Int) : Prop := -9223372036854775808 ≤ x ∧ x ≤ 9223372036854775807
def pm_w64 (x : Int) : Int := Int.bmod x 18446744073709551616
def pm_up (I : pm_I) (r : Nat) (k v : Int) : pm_I := fun a b => if a = r ∧ b = k then v else I a b
def pm_cp (I : pm_I) (q : Nat) (sp : Int) (r : Nat) (dp n : Int) : pm_I := fun a b => if a = r ∧ dp ≤ b ∧ b < dp + n then I q (sp + (b - dp)) else I a b
def pm_at : pm_L → Nat → Option pm_V
  | [], _ => none
  | a :: _, 0 => a
  | _ :: t, n + 1 => pm_at t n
def pm_lg : Option pm_V → Bool
  | some (.inr (.inl _)) => true
  | _ => false
def pm_st1 : pm_L → Nat → pm_V → pm_L
  | [], _, _ => []
  | _ :: t, 0, v => some v :: t
  | a :: t, n + 1, v => (bif (Nat.beq n 0 && pm_lg a) then none else a) :: pm_st1 t n v
def pm_cl0 : pm_L → pm_L
  | [] => []
  | _ :: t => none :: t
def pm_st2 : pm_L → Nat → pm_V → pm_L
  | [], _, _ => []
  | _ :: t, 0, v => some v :: pm_cl0 t
  | a :: t, n + 1, v => (bif (Nat.beq n 0 && pm_lg a) then none else a) :: pm_st2 t n v
def pm_wd : List pm_V → Nat
  | [] => 0
  | .inr (.inl _) :: t => 2 + pm_wd t
  | _ :: t => 1 + pm_wd t
/-- n values off the stack: the lowest first, and the rest -/
def pm_pop : Nat → List pm_V → List pm_V → Option (List pm_V × List pm_V)
  | 0, sk, av => some (av, sk)
  | n + 1, v :: sk, av => pm_pop n sk (v :: av)
  | _ + 1, [], _ => none
def pm_pad : Nat → pm_L
  | 0 => []
  | n + 1 => none :: pm_pad n
/-- the locals at a method's entry: n places are left for those that are not arguments -/
def pm_ent : List pm_V → Nat → pm_L
  | [], n => pm_pad n
  | .inr (.inl x) :: t, n => some (.inr (.inl x)) :: none :: pm_ent t n
  | v :: t, n => some v :: pm_ent t n
def pm_ret (rt : Nat) (x : Int) (sk : List pm_V) : List pm_V := match rt with
  | 0 => sk
  | 1 => .inl x :: sk
  | _ => .inr (.inl x) :: sk
/-- is the receiver of a kind (99: there is none) -/
def pm_rc (env : pm_E) (ci : Nat) (av : List pm_V) : Bool := bif Nat.beq ci 99 then true else match av with
  | .inr (.inr r) :: _ => Nat.beq (env.1 r) ci
  | _ => false
def s_bad : pm_S := fun _ _ _ _ _ _ _ => none
def s_push (n : Int) (nx : Nat) : pm_S := fun _ G y d lo sk I => G y d nx lo (.inl n :: sk) I
def s_lpush (n : Int) (nx : Nat) : pm_S := fun _ G y d lo sk I => G y d nx lo (.inr (.inl n) :: sk) I
def s_iload (i nx : Nat) : pm_S := fun _ G y d lo sk I => match pm_at lo i with
  | some (.inl n) => G y d nx lo (.inl n :: sk) I
  | _ => none
def s_lload (i nx : Nat) : pm_S := fun _ G y d lo sk I => match pm_at lo i with
  | some (.inr (.inl n)) => G y d nx lo (.inr (.inl n) :: sk) I
  | _ => none
def s_aload (i nx : Nat) : pm_S := fun _ G y d lo sk I => match pm_at lo i with
  | some (.inr (.inr n)) => G y d nx lo (.inr (.inr n) :: sk) I
  | _ => none
def s_istore (i nx : Nat) : pm_S := fun _ G y d lo sk I => match sk with
  | .inl n :: r => G y d nx (pm_st1 lo i (.inl n)) r I
  | _ => none
def s_lstore (i nx : Nat) : pm_S := fun _ G y d lo sk I => match sk with
  | .inr (.inl n) :: r => G y d nx (pm_st2 lo i (.inr (.inl n))) r I
  | _ => none
def s_astore (i nx : Nat) : pm_S := fun _ G y d lo sk I => match sk with
  | .inr (.inr n) :: r => G y d nx (pm_st1 lo i (.inr (.inr n))) r I
  | _ => none
def s_iinc (i : Nat) (k : Int) (nx : Nat) : pm_S := fun _ G y d lo sk I => match pm_at lo i with
  | some (.inl n) => if pm_r32 (n + k) then G y d nx (pm_st1 lo i (.inl (n + k))) sk I else none
  | _ => none
def s_iadd (nx : Nat) : pm_S := fun _ G y d lo sk I => match sk with
  | .inl b :: .inl a :: r => if pm_r32 (a + b) then G y d nx lo (.inl (a + b) :: r) I else none
  | _ => none
def s_isub (nx : Nat) : pm_S := fun _ G y d lo sk I => match sk with
  | .inl b :: .inl a :: r => if pm_r32 (a - b) then G y d nx lo (.inl (a - b) :: r) I else none
  | _ => none
def s_imul (nx : Nat) : pm_S := fun _ G y d lo sk I => match sk with
  | .inl b :: .inl a :: r => if pm_r32 (a * b) then G y d nx lo (.inl (a * b) :: r) I else none
  | _ => none
def s_idiv (nx : Nat) : pm_S := fun _ G y d lo sk I => match sk with
  | .inl b :: .inl a :: r => if 0 ≤ a ∧ 0 < b then G y d nx lo (.inl (a / b) :: r) I else none
  | _ => none
def s_irem (nx : Nat) : pm_S := fun _ G y d lo sk I => match sk with
  | .inl b :: .inl a :: r => if 0 ≤ a ∧ 0 < b then G y d nx lo (.inl (a % b) :: r) I else none
  | _ => none
def pm_and (a b : Int) : Int := (Int32.ofInt a &&& Int32.ofInt b).toInt
def pm_xor (a b : Int) : Int := (Int32.ofInt a ^^^ Int32.ofInt b).toInt
def pm_shl (a b : Int) : Int := (Int32.ofInt a <<< (Int32.ofInt b &&& 31)).toInt
def pm_shr (a b : Int) : Int := (Int32.ofInt a >>> (Int32.ofInt b &&& 31)).toInt
def pm_i2b (a : Int) : Int := (Int32.ofInt a).toInt8.toInt32.toInt
def pm_i2s (a : Int) : Int := (Int32.ofInt a).toInt16.toInt32.toInt
def s_iand (nx : Nat) : pm_S := fun _ G y d lo sk I => match sk with
  | .inl b :: .inl a :: r => G y d nx lo (.inl (pm_and a b) :: r) I
  | _ => none
def s_ixor (nx : Nat) : pm_S := fun _ G y d lo sk I => match sk with
  | .inl b :: .inl a :: r => G y d nx lo (.inl (pm_xor a b) :: r) I
  | _ => none
def s_ishl (nx : Nat) : pm_S := fun _ G y d lo sk I => match sk with
  | .inl b :: .inl a :: r => G y d nx lo (.inl (pm_shl a b) :: r) I
  | _ => none
def s_ishr (nx : Nat) : pm_S := fun _ G y d lo sk I => match sk with
  | .inl b :: .inl a :: r => G y d nx lo (.inl (pm_shr a b) :: r) I
  | _ => none
def s_i2b (nx : Nat) : pm_S := fun _ G y d lo sk I => match sk with
  | .inl a :: r => G y d nx lo (.inl (pm_i2b a) :: r) I
  | _ => none
def s_i2s (nx : Nat) : pm_S := fun _ G y d lo sk I => match sk with
  | .inl a :: r => G y d nx lo (.inl (pm_i2s a) :: r) I
  | _ => none
def s_i2l (nx : Nat) : pm_S := fun _ G y d lo sk I => match sk with
  | .inl a :: r => G y d nx lo (.inr (.inl a) :: r) I
  | _ => none
def s_ladd (nx : Nat) : pm_S := fun _ G y d lo sk I => match sk with
  | .inr (.inl b) :: .inr (.inl a) :: r => G y d nx lo (.inr (.inl (pm_w64 (a + b))) :: r) I
  | _ => none
def s_lmul (nx : Nat) : pm_S := fun _ G y d lo sk I => match sk with
  | .inr (.inl b) :: .inr (.inl a) :: r => G y d nx lo (.inr (.inl (pm_w64 (a * b))) :: r) I
  | _ => none
def s_ldiv (nx : Nat) : pm_S := fun _ G y d lo sk I => match sk with
  | .inr (.inl b) :: .inr (.inl a) :: r => if 0 ≤ a ∧ 0 < b then G y d nx lo (.inr (.inl (a / b)) :: r) I else none
  | _ => none
def s_lrem (nx : Nat) : pm_S := fun _ G y d lo sk I => match sk with
  | .inr (.inl b) :: .inr (.inl a) :: r => if 0 ≤ a ∧ 0 < b then G y d nx lo (.inr (.inl (a % b)) :: r) I else none
  | _ => none
def s_lcmp (nx : Nat) : pm_S := fun _ G y d lo sk I => match sk with
  | .inr (.inl b) :: .inr (.inl a) :: r => if b < a then G y d nx lo (.inl 1 :: r) I else if a = b then G y d nx lo (.inl 0 :: r) I else G y d nx lo (.inl (-1) :: r) I
  | _ => none
def s_dup (nx : Nat) : pm_S := fun _ G y d lo sk I => match sk with
  | .inl a :: r => G y d nx lo (.inl a :: .inl a :: r) I
  | .inr (.inr a) :: r => G y d nx lo (.inr (.inr a) :: .inr (.inr a) :: r) I
  | _ => none
def s_dup2 (nx : Nat) : pm_S := fun _ G y d lo sk I => match sk with
  | .inl a :: .inr (.inr b) :: r => G y d nx lo (.inl a :: .inr (.inr b) :: .inl a :: .inr (.inr b) :: r) I
  | _ => none
def s_ifeq (tg nx : Nat) : pm_S := fun _ G y d lo sk I => match sk with
  | .inl a :: r => if a = 0 then G y d tg lo r I else G y d nx lo r I
  | _ => none
def s_ifne (tg nx : Nat) : pm_S := fun _ G y d lo sk I => match sk with
  | .inl a :: r => if a = 0 then G y d nx lo r I else G y d tg lo r I
  | _ => none
def s_iflt (tg nx : Nat) : pm_S := fun _ G y d lo sk I => match sk with
  | .inl a :: r => if a < 0 then G y d tg lo r I else G y d nx lo r I
  | _ => none
def s_ifge (tg nx : Nat) : pm_S := fun _ G y d lo sk I => match sk with
  | .inl a :: r => if a < 0 then G y d nx lo r I else G y d tg lo r I
  | _ => none
def s_ifgt (tg nx : Nat) : pm_S := fun _ G y d lo sk I => match sk with
  | .inl a :: r => if 0 < a then G y d tg lo r I else G y d nx lo r I
  | _ => none
def s_ifle (tg nx : Nat) : pm_S := fun _ G y d lo sk I => match sk with
  | .inl a :: r => if 0 < a then G y d nx lo r I else G y d tg lo r I
  | _ => none
def s_ceq (tg nx : Nat) : pm_S := fun _ G y d lo sk I => match sk with
  | .inl b :: .inl a :: r => if a = b then G y d tg lo r I else G y d nx lo r I
  | _ => none
def s_cne (tg nx : Nat) : pm_S := fun _ G y d lo sk I => match sk with
  | .inl b :: .inl a :: r => if a = b then G y d nx lo r I else G y d tg lo r I
  | _ => none
def s_clt (tg nx : Nat) : pm_S := fun _ G y d lo sk I => match sk with
  | .inl b :: .inl a :: r => if a < b then G y d tg lo r I else G y d nx lo r I
  | _ => none
def s_cge (tg nx : Nat) : pm_S := fun _ G y d lo sk I => match sk with
  | .inl b :: .inl a :: r => if a < b then G y d nx lo r I else G y d tg lo r I
  | _ => none
def s_cgt (tg nx : Nat) : pm_S := fun _ G y d lo sk I => match sk with
  | .inl b :: .inl a :: r => if b < a then G y d tg lo r I else G y d nx lo r I
  | _ => none
def s_cle (tg nx : Nat) : pm_S := fun _ G y d lo sk I => match sk with
  | .inl b :: .inl a :: r => if b < a then G y d nx lo r I else G y d tg lo r I
  | _ => none
def s_goto (tg : Nat) : pm_S := fun _ G y d lo sk I => G y d tg lo sk I
def pm_swt (x : Int) (df : Nat) (k : Nat → pm_O) : List (Int × Nat) → pm_O
  | [] => k df
  | (c, t) :: ts => if x = c then k t else pm_swt x df k ts
def s_switch (ts : List (Int × Nat)) (df : Nat) : pm_S := fun _ G y d lo sk I => match sk with
  | .inl x :: r => pm_swt x df (fun t => G y d t lo r I) ts
  | _ => none
def s_getI (ci : Nat) (k : Int) (nx : Nat) : pm_S := fun env G y d lo sk I => match sk with
  | .inr (.inr r) :: t => bif Nat.beq (env.1 r) ci then G y d nx lo (.inl (I r k) :: t) I else none
  | _ => none
def s_getR (ci : Nat) (k : Nat) (nx : Nat) : pm_S := fun env G y d lo sk I => match sk with
  | .inr (.inr r) :: t => bif Nat.beq (env.1 r) ci then G y d nx lo (.inr (.inr (env.2.2.1 r k)) :: t) I else none
  | _ => none
def s_putI (ci : Nat) (k : Int) (nx : Nat) : pm_S := fun env G y d lo sk I => match sk with
  | .inl v :: .inr (.inr r) :: t => bif Nat.beq (env.1 r) ci then G y d nx lo t (pm_up I r k v) else none
  | _ => none
def s_putZ (ci : Nat) (k : Int) (nx : Nat) : pm_S := fun env G y d lo sk I => match sk with
  | .inl v :: .inr (.inr r) :: t => bif Nat.beq (env.1 r) ci then (if v = 0 ∨ v = 1 then G y d nx lo t (pm_up I r k v) else none) else none
  | _ => none
def s_units (nx : Nat) : pm_S := fun _ G y d lo sk I => G y d nx lo (.inr (.inr 1) :: sk) I
def s_iald (nx : Nat) : pm_S := fun env G y d lo sk I => match sk with
  | .inl i :: .inr (.inr r) :: t => bif Nat.beq (env.1 r) 8 then (if 0 ≤ i ∧ i < env.2.1 r then G y d nx lo (.inl (I r i) :: t) I else none)
      else bif Nat.beq (env.1 r) 50 then (if 0 ≤ i ∧ i < env.2.1 r then G y d nx lo (.inl (env.2.2.2 r i) :: t) I else none) else none
  | _ => none
def s_zald (nx : Nat) : pm_S := fun env G y d lo sk I => match sk with
  | .inl i :: .inr (.inr r) :: t => bif Nat.beq (env.1 r) 9 then (if 0 ≤ i ∧ i < env.2.1 r then G y d nx lo (.inl (I r i) :: t) I else none) else none
  | _ => none
def s_aald (nx : Nat) : pm_S := fun env G y d lo sk I => match sk with
  | .inl i :: .inr (.inr r) :: t => bif Nat.ble 10 (env.1 r) && Nat.ble (env.1 r) 12 then (if 0 ≤ i ∧ i < env.2.1 r then G y d nx lo (.inr (.inr (env.2.2.1 r i.toNat)) :: t) I else none) else none
  | _ => none
def s_iast (nx : Nat) : pm_S := fun env G y d lo sk I => match sk with
  | .inl v :: .inl i :: .inr (.inr r) :: t => bif Nat.beq (env.1 r) 8 then (if 0 ≤ i ∧ i < env.2.1 r then G y d nx lo t (pm_up I r i v) else none) else none
  | _ => none
def s_zast (nx : Nat) : pm_S := fun env G y d lo sk I => match sk with
  | .inl v :: .inl i :: .inr (.inr r) :: t => bif Nat.beq (env.1 r) 9 then (if 0 ≤ i ∧ i < env.2.1 r then (if v = 0 ∨ v = 1 then G y d nx lo t (pm_up I r i v) else none) else none) else none
  | _ => none
def s_alen (nx : Nat) : pm_S := fun env G y d lo sk I => match sk with
  | .inr (.inr r) :: t => bif Nat.beq (env.1 r) 8 || Nat.beq (env.1 r) 50 then G y d nx lo (.inl (env.2.1 r) :: t) I else none
  | _ => none
def s_min (nx : Nat) : pm_S := fun _ G y d lo sk I => match sk with
  | .inl b :: .inl a :: t => bif Nat.ble 1 d && Nat.ble (pm_wd t) 8 then G y d nx lo (.inl (min a b) :: t) I else none
  | _ => none
def s_max (nx : Nat) : pm_S := fun _ G y d lo sk I => match sk with
  | .inl b :: .inl a :: t => bif Nat.ble 1 d && Nat.ble (pm_wd t) 8 then G y d nx lo (.inl (max a b) :: t) I else none
  | _ => none
def s_copy (nx : Nat) : pm_S := fun env G y d lo sk I => match sk with
  | .inl n :: .inl dp :: .inr (.inr r) :: .inl sp :: .inr (.inr q) :: t => bif Nat.ble 1 d && Nat.ble (pm_wd t) 8 && Nat.beq (env.1 r) 8 && Nat.beq (env.1 q) 8 then
      (if 0 ≤ sp ∧ 0 ≤ dp ∧ 0 ≤ n then (if sp + n ≤ env.2.1 q then (if dp + n ≤ env.2.1 r then G y d nx lo t (pm_cp I q sp r dp n) else none) else none) else none) else none
  | _ => none
/-- a call: the method, its arguments' number, their words, its other locals, its receiver's kind, what it answers (0 nothing, 1 an int, 2 a long), its rank -/
def s_call (m n w nl rc rt : Nat) (rk : List pm_V → Nat) (nx : Nat) : pm_S := fun env G y d lo sk I => match pm_pop n sk [] with
  | some (av, t) => bif pm_rc env rc av then (bif Nat.blt (rk av) d && Nat.ble (pm_wd t) 8 && Nat.beq (pm_wd av) w then (G m (rk av) 0 (pm_ent av nl) [] I).bind (fun x => G y d nx lo (pm_ret rt x.1 t) x.2) else none) else none
  | none => none
def s_iret : pm_S := fun _ _ _ _ _ sk I => match sk with
  | [.inl v] => some (v, I)
  | _ => none
def s_zret : pm_S := fun _ _ _ _ _ sk I => match sk with
  | [.inl v] => if v = 0 ∨ v = 1 then some (v, I) else none
  | _ => none
def s_lret : pm_S := fun _ _ _ _ _ sk I => match sk with
  | [.inr (.inl v)] => some (v, I)
  | _ => none
def s_vret : pm_S := fun _ _ _ _ _ sk I => match sk with
  | [] => some (0, I)
  | _ => none
/-! tables -/
def pm_tn (p : Nat) (a b : Nat → pm_S) : Nat → pm_S := fun pc => bif Nat.ble p pc then b pc else a pc
def pm_tl (p : Nat) (s : pm_S) : Nat → pm_S := fun pc => bif Nat.beq pc p then s else s_bad
/-! a chain of machines, and its limit -/
def pm_run (T : Nat → Nat → pm_S) (env : pm_E) : Nat → pm_G
  | 0 => fun _ _ _ _ _ _ => none
  | n + 1 => fun y d pc lo sk I => T y pc env (pm_run T env n) y d lo sk I
def pm_le (F G : pm_G) : Prop := ∀ y d pc lo sk I r, F y d pc lo sk I = some r → G y d pc lo sk I = some r
/-- what s does at a limit it does at a member of the chain, and so back -/
def pm_Ct (s : pm_S) : Prop := ∀ (env : pm_E) (F : Nat → pm_G) (G : pm_G), (∀ i j, i ≤ j → pm_le (F i) (F j)) → (∀ y d pc lo sk I r, G y d pc lo sk I = some r ↔ ∃ n, F n y d pc lo sk I = some r) →
  ∀ y d lo sk I r, s env G y d lo sk I = some r ↔ ∃ n, s env (F n) y d lo sk I = some r
end
section
/-! every instruction is of one of three kinds, a call aside: so the limit does what the chain does -/
def pm_T1 (f : pm_G → pm_O) : Prop := (∀ G, f G = none) ∨ (∃ r, ∀ G, f G = some r) ∨ ∃ y d pc lo sk I, ∀ G, f G = G y d pc lo sk I
theorem pm_T1_none : pm_T1 (fun _ => none) := Or.inl (fun _ => rfl)
theorem pm_T1_some {r : Int × pm_I} : pm_T1 (fun _ => some r) := Or.inr (Or.inl ⟨r, fun _ => rfl⟩)
theorem pm_T1_go {y d pc : Nat} {lo : pm_L} {sk : List pm_V} {I : pm_I} : pm_T1 (fun G => G y d pc lo sk I) := Or.inr (Or.inr ⟨y, d, pc, lo, sk, I, fun _ => rfl⟩)
theorem pm_T1_ite {c : Prop} {h : Decidable c} {a b : pm_G → pm_O} (ha : pm_T1 a) (hb : pm_T1 b) : pm_T1 (fun G => @ite pm_O c h (a G) (b G)) := by
  by_cases hc : c
  · simpa only [if_pos hc] using ha
  · simpa only [if_neg hc] using hb
theorem pm_T1_cond {c : Bool} {a b : pm_G → pm_O} (ha : pm_T1 a) (hb : pm_T1 b) : pm_T1 (fun G => bif c then a G else b G) := by
  cases c
  · exact hb
  · exact ha
theorem pm_Ct_of {s : pm_S} (h : ∀ env y d lo sk I, pm_T1 (fun G => s env G y d lo sk I)) : pm_Ct s := by
  intro env F G hF hG y d lo sk I r
  rcases h env y d lo sk I with h | ⟨r0, h⟩ | ⟨y', d', pc', lo', sk', I', h⟩
  · have h1 : ∀ G, s env G y d lo sk I = none := h
    simp [h1]
  · have h1 : ∀ G, s env G y d lo sk I = some r0 := h
    simp [h1]
  · have h1 : ∀ G, s env G y d lo sk I = G y' d' pc' lo' sk' I' := h
    simp only [h1]
    exact hG _ _ _ _ _ _ _

theorem ct_push (n : Int) (nx : Nat) : pm_Ct (s_push n nx) := pm_Ct_of (fun env y d lo sk I => by
  unfold s_push
  first | exact pm_T1_go | exact pm_T1_none | exact pm_T1_some | skip
  all_goals split
  all_goals (repeat' (first | exact pm_T1_go | exact pm_T1_none | exact pm_T1_some | apply pm_T1_cond | apply pm_T1_ite)))

theorem ct_lpush (n : Int) (nx : Nat) : pm_Ct (s_lpush n nx) := pm_Ct_of (fun env y d lo sk I => by
  unfold s_lpush
  first | exact pm_T1_go | exact pm_T1_none | exact pm_T1_some | skip
  all_goals split
  all_goals (repeat' (first | exact pm_T1_go | exact pm_T1_none | exact pm_T1_some | apply pm_T1_cond | apply pm_T1_ite)))

theorem ct_iload (i nx : Nat) : pm_Ct (s_iload i nx) := pm_Ct_of (fun env y d lo sk I => by
  unfold s_iload
  first | exact pm_T1_go | exact pm_T1_none | exact pm_T1_some | skip
  all_goals split
  all_goals (repeat' (first | exact pm_T1_go | exact pm_T1_none | exact pm_T1_some | apply pm_T1_cond | apply pm_T1_ite)))

theorem ct_lload (i nx : Nat) : pm_Ct (s_lload i nx) := pm_Ct_of (fun env y d lo sk I => by
  unfold s_lload
  first | exact pm_T1_go | exact pm_T1_none | exact pm_T1_some | skip
  all_goals split
  all_goals (repeat' (first | exact pm_T1_go | exact pm_T1_none | exact pm_T1_some | apply pm_T1_cond | apply pm_T1_ite)))

theorem ct_aload (i nx : Nat) : pm_Ct (s_aload i nx) := pm_Ct_of (fun env y d lo sk I => by
  unfold s_aload
  first | exact pm_T1_go | exact pm_T1_none | exact pm_T1_some | skip
  all_goals split
  all_goals (repeat' (first | exact pm_T1_go | exact pm_T1_none | exact pm_T1_some | apply pm_T1_cond | apply pm_T1_ite)))

theorem ct_istore (i nx : Nat) : pm_Ct (s_istore i nx) := pm_Ct_of (fun env y d lo sk I => by
  unfold s_istore
  first | exact pm_T1_go | exact pm_T1_none | exact pm_T1_some | skip
  all_goals split
  all_goals (repeat' (first | exact pm_T1_go | exact pm_T1_none | exact pm_T1_some | apply pm_T1_cond | apply pm_T1_ite)))

theorem ct_lstore (i nx : Nat) : pm_Ct (s_lstore i nx) := pm_Ct_of (fun env y d lo sk I => by
  unfold s_lstore
  first | exact pm_T1_go | exact pm_T1_none | exact pm_T1_some | skip
  all_goals split
  all_goals (repeat' (first | exact pm_T1_go | exact pm_T1_none | exact pm_T1_some | apply pm_T1_cond | apply pm_T1_ite)))

theorem ct_astore (i nx : Nat) : pm_Ct (s_astore i nx) := pm_Ct_of (fun env y d lo sk I => by
  unfold s_astore
  first | exact pm_T1_go | exact pm_T1_none | exact pm_T1_some | skip
  all_goals split
  all_goals (repeat' (first | exact pm_T1_go | exact pm_T1_none | exact pm_T1_some | apply pm_T1_cond | apply pm_T1_ite)))

theorem ct_iinc (i : Nat) (k : Int) (nx : Nat) : pm_Ct (s_iinc i k nx) := pm_Ct_of (fun env y d lo sk I => by
  unfold s_iinc
  first | exact pm_T1_go | exact pm_T1_none | exact pm_T1_some | skip
  all_goals split
  all_goals (repeat' (first | exact pm_T1_go | exact pm_T1_none | exact pm_T1_some | apply pm_T1_cond | apply pm_T1_ite)))

theorem ct_iadd (nx : Nat) : pm_Ct (s_iadd nx) := pm_Ct_of (fun env y d lo sk I => by
  unfold s_iadd
  first | exact pm_T1_go | exact pm_T1_none | exact pm_T1_some | skip
  all_goals split
  all_goals (repeat' (first | exact pm_T1_go | exact pm_T1_none | exact pm_T1_some | apply pm_T1_cond | apply pm_T1_ite)))

theorem ct_isub (nx : Nat) : pm_Ct (s_isub nx) := pm_Ct_of (fun env y d lo sk I => by
  unfold s_isub
  first | exact pm_T1_go | exact pm_T1_none | exact pm_T1_some | skip
  all_goals split
  all_goals (repeat' (first | exact pm_T1_go | exact pm_T1_none | exact pm_T1_some | apply pm_T1_cond | apply pm_T1_ite)))

theorem ct_imul (nx : Nat) : pm_Ct (s_imul nx) := pm_Ct_of (fun env y d lo sk I => by
  unfold s_imul
  first | exact pm_T1_go | exact pm_T1_none | exact pm_T1_some | skip
  all_goals split
  all_goals (repeat' (first | exact pm_T1_go | exact pm_T1_none | exact pm_T1_some | apply pm_T1_cond | apply pm_T1_ite)))

theorem ct_idiv (nx : Nat) : pm_Ct (s_idiv nx) := pm_Ct_of (fun env y d lo sk I => by
  unfold s_idiv
  first | exact pm_T1_go | exact pm_T1_none | exact pm_T1_some | skip
  all_goals split
  all_goals (repeat' (first | exact pm_T1_go | exact pm_T1_none | exact pm_T1_some | apply pm_T1_cond | apply pm_T1_ite)))

theorem ct_irem (nx : Nat) : pm_Ct (s_irem nx) := pm_Ct_of (fun env y d lo sk I => by
  unfold s_irem
  first | exact pm_T1_go | exact pm_T1_none | exact pm_T1_some | skip
  all_goals split
  all_goals (repeat' (first | exact pm_T1_go | exact pm_T1_none | exact pm_T1_some | apply pm_T1_cond | apply pm_T1_ite)))

theorem ct_iand (nx : Nat) : pm_Ct (s_iand nx) := pm_Ct_of (fun env y d lo sk I => by
  unfold s_iand
  first | exact pm_T1_go | exact pm_T1_none | exact pm_T1_some | skip
  all_goals split
  all_goals (repeat' (first | exact pm_T1_go | exact pm_T1_none | exact pm_T1_some | apply pm_T1_cond | apply pm_T1_ite)))

theorem ct_ixor (nx : Nat) : pm_Ct (s_ixor nx) := pm_Ct_of (fun env y d lo sk I => by
  unfold s_ixor
  first | exact pm_T1_go | exact pm_T1_none | exact pm_T1_some | skip
  all_goals split
  all_goals (repeat' (first | exact pm_T1_go | exact pm_T1_none | exact pm_T1_some | apply pm_T1_cond | apply pm_T1_ite)))

theorem ct_ishl (nx : Nat) : pm_Ct (s_ishl nx) := pm_Ct_of (fun env y d lo sk I => by
  unfold s_ishl
  first | exact pm_T1_go | exact pm_T1_none | exact pm_T1_some | skip
  all_goals split
  all_goals (repeat' (first | exact pm_T1_go | exact pm_T1_none | exact pm_T1_some | apply pm_T1_cond | apply pm_T1_ite)))

theorem ct_ishr (nx : Nat) : pm_Ct (s_ishr nx) := pm_Ct_of (fun env y d lo sk I => by
  unfold s_ishr
  first | exact pm_T1_go | exact pm_T1_none | exact pm_T1_some | skip
  all_goals split
  all_goals (repeat' (first | exact pm_T1_go | exact pm_T1_none | exact pm_T1_some | apply pm_T1_cond | apply pm_T1_ite)))

theorem ct_i2b (nx : Nat) : pm_Ct (s_i2b nx) := pm_Ct_of (fun env y d lo sk I => by
  unfold s_i2b
  first | exact pm_T1_go | exact pm_T1_none | exact pm_T1_some | skip
  all_goals split
  all_goals (repeat' (first | exact pm_T1_go | exact pm_T1_none | exact pm_T1_some | apply pm_T1_cond | apply pm_T1_ite)))

theorem ct_i2s (nx : Nat) : pm_Ct (s_i2s nx) := pm_Ct_of (fun env y d lo sk I => by
  unfold s_i2s
  first | exact pm_T1_go | exact pm_T1_none | exact pm_T1_some | skip
  all_goals split
  all_goals (repeat' (first | exact pm_T1_go | exact pm_T1_none | exact pm_T1_some | apply pm_T1_cond | apply pm_T1_ite)))

theorem ct_i2l (nx : Nat) : pm_Ct (s_i2l nx) := pm_Ct_of (fun env y d lo sk I => by
  unfold s_i2l
  first | exact pm_T1_go | exact pm_T1_none | exact pm_T1_some | skip
  all_goals split
  all_goals (repeat' (first | exact pm_T1_go | exact pm_T1_none | exact pm_T1_some | apply pm_T1_cond | apply pm_T1_ite)))

theorem ct_ladd (nx : Nat) : pm_Ct (s_ladd nx) := pm_Ct_of (fun env y d lo sk I => by
  unfold s_ladd
  first | exact pm_T1_go | exact pm_T1_none | exact pm_T1_some | skip
  all_goals split
  all_goals (repeat' (first | exact pm_T1_go | exact pm_T1_none | exact pm_T1_some | apply pm_T1_cond | apply pm_T1_ite)))

theorem ct_lmul (nx : Nat) : pm_Ct (s_lmul nx) := pm_Ct_of (fun env y d lo sk I => by
  unfold s_lmul
  first | exact pm_T1_go | exact pm_T1_none | exact pm_T1_some | skip
  all_goals split
  all_goals (repeat' (first | exact pm_T1_go | exact pm_T1_none | exact pm_T1_some | apply pm_T1_cond | apply pm_T1_ite)))

theorem ct_ldiv (nx : Nat) : pm_Ct (s_ldiv nx) := pm_Ct_of (fun env y d lo sk I => by
  unfold s_ldiv
  first | exact pm_T1_go | exact pm_T1_none | exact pm_T1_some | skip
  all_goals split
  all_goals (repeat' (first | exact pm_T1_go | exact pm_T1_none | exact pm_T1_some | apply pm_T1_cond | apply pm_T1_ite)))

theorem ct_lrem (nx : Nat) : pm_Ct (s_lrem nx) := pm_Ct_of (fun env y d lo sk I => by
  unfold s_lrem
  first | exact pm_T1_go | exact pm_T1_none | exact pm_T1_some | skip
  all_goals split
  all_goals (repeat' (first | exact pm_T1_go | exact pm_T1_none | exact pm_T1_some | apply pm_T1_cond | apply pm_T1_ite)))

theorem ct_lcmp (nx : Nat) : pm_Ct (s_lcmp nx) := pm_Ct_of (fun env y d lo sk I => by
  unfold s_lcmp
  first | exact pm_T1_go | exact pm_T1_none | exact pm_T1_some | skip
  all_goals split
  all_goals (repeat' (first | exact pm_T1_go | exact pm_T1_none | exact pm_T1_some | apply pm_T1_cond | apply pm_T1_ite)))

theorem ct_dup (nx : Nat) : pm_Ct (s_dup nx) := pm_Ct_of (fun env y d lo sk I => by
  unfold s_dup
  first | exact pm_T1_go | exact pm_T1_none | exact pm_T1_some | skip
  all_goals split
  all_goals (repeat' (first | exact pm_T1_go | exact pm_T1_none | exact pm_T1_some | apply pm_T1_cond | apply pm_T1_ite)))

theorem ct_dup2 (nx : Nat) : pm_Ct (s_dup2 nx) := pm_Ct_of (fun env y d lo sk I => by
  unfold s_dup2
  first | exact pm_T1_go | exact pm_T1_none | exact pm_T1_some | skip
  all_goals split
  all_goals (repeat' (first | exact pm_T1_go | exact pm_T1_none | exact pm_T1_some | apply pm_T1_cond | apply pm_T1_ite)))

theorem ct_units (nx : Nat) : pm_Ct (s_units nx) := pm_Ct_of (fun env y d lo sk I => by
  unfold s_units
  first | exact pm_T1_go | exact pm_T1_none | exact pm_T1_some | skip
  all_goals split
  all_goals (repeat' (first | exact pm_T1_go | exact pm_T1_none | exact pm_T1_some | apply pm_T1_cond | apply pm_T1_ite)))

theorem ct_iald (nx : Nat) : pm_Ct (s_iald nx) := pm_Ct_of (fun env y d lo sk I => by
  unfold s_iald
  first | exact pm_T1_go | exact pm_T1_none | exact pm_T1_some | skip
  all_goals split
  all_goals (repeat' (first | exact pm_T1_go | exact pm_T1_none | exact pm_T1_some | apply pm_T1_cond | apply pm_T1_ite)))

theorem ct_zald (nx : Nat) : pm_Ct (s_zald nx) := pm_Ct_of (fun env y d lo sk I => by
  unfold s_zald
  first | exact pm_T1_go | exact pm_T1_none | exact pm_T1_some | skip
  all_goals split
  all_goals (repeat' (first | exact pm_T1_go | exact pm_T1_none | exact pm_T1_some | apply pm_T1_cond | apply pm_T1_ite)))

theorem ct_aald (nx : Nat) : pm_Ct (s_aald nx) := pm_Ct_of (fun env y d lo sk I => by
  unfold s_aald
  first | exact pm_T1_go | exact pm_T1_none | exact pm_T1_some | skip
  all_goals split
  all_goals (repeat' (first | exact pm_T1_go | exact pm_T1_none | exact pm_T1_some | apply pm_T1_cond | apply pm_T1_ite)))

theorem ct_iast (nx : Nat) : pm_Ct (s_iast nx) := pm_Ct_of (fun env y d lo sk I => by
  unfold s_iast
  first | exact pm_T1_go | exact pm_T1_none | exact pm_T1_some | skip
  all_goals split
  all_goals (repeat' (first | exact pm_T1_go | exact pm_T1_none | exact pm_T1_some | apply pm_T1_cond | apply pm_T1_ite)))

theorem ct_zast (nx : Nat) : pm_Ct (s_zast nx) := pm_Ct_of (fun env y d lo sk I => by
  unfold s_zast
  first | exact pm_T1_go | exact pm_T1_none | exact pm_T1_some | skip
  all_goals split
  all_goals (repeat' (first | exact pm_T1_go | exact pm_T1_none | exact pm_T1_some | apply pm_T1_cond | apply pm_T1_ite)))

theorem ct_alen (nx : Nat) : pm_Ct (s_alen nx) := pm_Ct_of (fun env y d lo sk I => by
  unfold s_alen
  first | exact pm_T1_go | exact pm_T1_none | exact pm_T1_some | skip
  all_goals split
  all_goals (repeat' (first | exact pm_T1_go | exact pm_T1_none | exact pm_T1_some | apply pm_T1_cond | apply pm_T1_ite)))

theorem ct_min (nx : Nat) : pm_Ct (s_min nx) := pm_Ct_of (fun env y d lo sk I => by
  unfold s_min
  first | exact pm_T1_go | exact pm_T1_none | exact pm_T1_some | skip
  all_goals split
  all_goals (repeat' (first | exact pm_T1_go | exact pm_T1_none | exact pm_T1_some | apply pm_T1_cond | apply pm_T1_ite)))

theorem ct_max (nx : Nat) : pm_Ct (s_max nx) := pm_Ct_of (fun env y d lo sk I => by
  unfold s_max
  first | exact pm_T1_go | exact pm_T1_none | exact pm_T1_some | skip
  all_goals split
  all_goals (repeat' (first | exact pm_T1_go | exact pm_T1_none | exact pm_T1_some | apply pm_T1_cond | apply pm_T1_ite)))

theorem ct_copy (nx : Nat) : pm_Ct (s_copy nx) := pm_Ct_of (fun env y d lo sk I => by
  unfold s_copy
  first | exact pm_T1_go | exact pm_T1_none | exact pm_T1_some | skip
  all_goals split
  all_goals (repeat' (first | exact pm_T1_go | exact pm_T1_none | exact pm_T1_some | apply pm_T1_cond | apply pm_T1_ite)))

theorem ct_ifeq (tg nx : Nat) : pm_Ct (s_ifeq tg nx) := pm_Ct_of (fun env y d lo sk I => by
  unfold s_ifeq
  first | exact pm_T1_go | exact pm_T1_none | exact pm_T1_some | skip
  all_goals split
  all_goals (repeat' (first | exact pm_T1_go | exact pm_T1_none | exact pm_T1_some | apply pm_T1_cond | apply pm_T1_ite)))

theorem ct_ifne (tg nx : Nat) : pm_Ct (s_ifne tg nx) := pm_Ct_of (fun env y d lo sk I => by
  unfold s_ifne
  first | exact pm_T1_go | exact pm_T1_none | exact pm_T1_some | skip
  all_goals split
  all_goals (repeat' (first | exact pm_T1_go | exact pm_T1_none | exact pm_T1_some | apply pm_T1_cond | apply pm_T1_ite)))

theorem ct_iflt (tg nx : Nat) : pm_Ct (s_iflt tg nx) := pm_Ct_of (fun env y d lo sk I => by
  unfold s_iflt
  first | exact pm_T1_go | exact pm_T1_none | exact pm_T1_some | skip
  all_goals split
  all_goals (repeat' (first | exact pm_T1_go | exact pm_T1_none | exact pm_T1_some | apply pm_T1_cond | apply pm_T1_ite)))

theorem ct_ifge (tg nx : Nat) : pm_Ct (s_ifge tg nx) := pm_Ct_of (fun env y d lo sk I => by
  unfold s_ifge
  first | exact pm_T1_go | exact pm_T1_none | exact pm_T1_some | skip
  all_goals split
  all_goals (repeat' (first | exact pm_T1_go | exact pm_T1_none | exact pm_T1_some | apply pm_T1_cond | apply pm_T1_ite)))

theorem ct_ifgt (tg nx : Nat) : pm_Ct (s_ifgt tg nx) := pm_Ct_of (fun env y d lo sk I => by
  unfold s_ifgt
  first | exact pm_T1_go | exact pm_T1_none | exact pm_T1_some | skip
  all_goals split
  all_goals (repeat' (first | exact pm_T1_go | exact pm_T1_none | exact pm_T1_some | apply pm_T1_cond | apply pm_T1_ite)))

theorem ct_ifle (tg nx : Nat) : pm_Ct (s_ifle tg nx) := pm_Ct_of (fun env y d lo sk I => by
  unfold s_ifle
  first | exact pm_T1_go | exact pm_T1_none | exact pm_T1_some | skip
  all_goals split
  all_goals (repeat' (first | exact pm_T1_go | exact pm_T1_none | exact pm_T1_some | apply pm_T1_cond | apply pm_T1_ite)))

theorem ct_ceq (tg nx : Nat) : pm_Ct (s_ceq tg nx) := pm_Ct_of (fun env y d lo sk I => by
  unfold s_ceq
  first | exact pm_T1_go | exact pm_T1_none | exact pm_T1_some | skip
  all_goals split
  all_goals (repeat' (first | exact pm_T1_go | exact pm_T1_none | exact pm_T1_some | apply pm_T1_cond | apply pm_T1_ite)))

theorem ct_cne (tg nx : Nat) : pm_Ct (s_cne tg nx) := pm_Ct_of (fun env y d lo sk I => by
  unfold s_cne
  first | exact pm_T1_go | exact pm_T1_none | exact pm_T1_some | skip
  all_goals split
  all_goals (repeat' (first | exact pm_T1_go | exact pm_T1_none | exact pm_T1_some | apply pm_T1_cond | apply pm_T1_ite)))

theorem ct_clt (tg nx : Nat) : pm_Ct (s_clt tg nx) := pm_Ct_of (fun env y d lo sk I => by
  unfold s_clt
  first | exact pm_T1_go | exact pm_T1_none | exact pm_T1_some | skip
  all_goals split
  all_goals (repeat' (first | exact pm_T1_go | exact pm_T1_none | exact pm_T1_some | apply pm_T1_cond | apply pm_T1_ite)))

theorem ct_cge (tg nx : Nat) : pm_Ct (s_cge tg nx) := pm_Ct_of (fun env y d lo sk I => by
  unfold s_cge
  first | exact pm_T1_go | exact pm_T1_none | exact pm_T1_some | skip
  all_goals split
  all_goals (repeat' (first | exact pm_T1_go | exact pm_T1_none | exact pm_T1_some | apply pm_T1_cond | apply pm_T1_ite)))

theorem ct_cgt (tg nx : Nat) : pm_Ct (s_cgt tg nx) := pm_Ct_of (fun env y d lo sk I => by
  unfold s_cgt
  first | exact pm_T1_go | exact pm_T1_none | exact pm_T1_some | skip
  all_goals split
  all_goals (repeat' (first | exact pm_T1_go | exact pm_T1_none | exact pm_T1_some | apply pm_T1_cond | apply pm_T1_ite)))

theorem ct_cle (tg nx : Nat) : pm_Ct (s_cle tg nx) := pm_Ct_of (fun env y d lo sk I => by
  unfold s_cle
  first | exact pm_T1_go | exact pm_T1_none | exact pm_T1_some | skip
  all_goals split
  all_goals (repeat' (first | exact pm_T1_go | exact pm_T1_none | exact pm_T1_some | apply pm_T1_cond | apply pm_T1_ite)))

theorem ct_goto (tg : Nat) : pm_Ct (s_goto tg) := pm_Ct_of (fun env y d lo sk I => by
  unfold s_goto
  first | exact pm_T1_go | exact pm_T1_none | exact pm_T1_some | skip
  all_goals split
  all_goals (repeat' (first | exact pm_T1_go | exact pm_T1_none | exact pm_T1_some | apply pm_T1_cond | apply pm_T1_ite)))

theorem ct_getI (ci : Nat) (k : Int) (nx : Nat) : pm_Ct (s_getI ci k nx) := pm_Ct_of (fun env y d lo sk I => by
  unfold s_getI
  first | exact pm_T1_go | exact pm_T1_none | exact pm_T1_some | skip
  all_goals split
  all_goals (repeat' (first | exact pm_T1_go | exact pm_T1_none | exact pm_T1_some | apply pm_T1_cond | apply pm_T1_ite)))

theorem ct_getR (ci k nx : Nat) : pm_Ct (s_getR ci k nx) := pm_Ct_of (fun env y d lo sk I => by
  unfold s_getR
  first | exact pm_T1_go | exact pm_T1_none | exact pm_T1_some | skip
  all_goals split
  all_goals (repeat' (first | exact pm_T1_go | exact pm_T1_none | exact pm_T1_some | apply pm_T1_cond | apply pm_T1_ite)))

theorem ct_putI (ci : Nat) (k : Int) (nx : Nat) : pm_Ct (s_putI ci k nx) := pm_Ct_of (fun env y d lo sk I => by
  unfold s_putI
  first | exact pm_T1_go | exact pm_T1_none | exact pm_T1_some | skip
  all_goals split
  all_goals (repeat' (first | exact pm_T1_go | exact pm_T1_none | exact pm_T1_some | apply pm_T1_cond | apply pm_T1_ite)))

theorem ct_putZ (ci : Nat) (k : Int) (nx : Nat) : pm_Ct (s_putZ ci k nx) := pm_Ct_of (fun env y d lo sk I => by
  unfold s_putZ
  first | exact pm_T1_go | exact pm_T1_none | exact pm_T1_some | skip
  all_goals split
  all_goals (repeat' (first | exact pm_T1_go | exact pm_T1_none | exact pm_T1_some | apply pm_T1_cond | apply pm_T1_ite)))

theorem ct_bad  : pm_Ct (s_bad) := pm_Ct_of (fun env y d lo sk I => by
  unfold s_bad
  first | exact pm_T1_go | exact pm_T1_none | exact pm_T1_some | skip
  all_goals split
  all_goals (repeat' (first | exact pm_T1_go | exact pm_T1_none | exact pm_T1_some | apply pm_T1_cond | apply pm_T1_ite)))

theorem ct_iret  : pm_Ct (s_iret) := pm_Ct_of (fun env y d lo sk I => by
  unfold s_iret
  first | exact pm_T1_go | exact pm_T1_none | exact pm_T1_some | skip
  all_goals split
  all_goals (repeat' (first | exact pm_T1_go | exact pm_T1_none | exact pm_T1_some | apply pm_T1_cond | apply pm_T1_ite)))

theorem ct_zret  : pm_Ct (s_zret) := pm_Ct_of (fun env y d lo sk I => by
  unfold s_zret
  first | exact pm_T1_go | exact pm_T1_none | exact pm_T1_some | skip
  all_goals split
  all_goals (repeat' (first | exact pm_T1_go | exact pm_T1_none | exact pm_T1_some | apply pm_T1_cond | apply pm_T1_ite)))

theorem ct_lret  : pm_Ct (s_lret) := pm_Ct_of (fun env y d lo sk I => by
  unfold s_lret
  first | exact pm_T1_go | exact pm_T1_none | exact pm_T1_some | skip
  all_goals split
  all_goals (repeat' (first | exact pm_T1_go | exact pm_T1_none | exact pm_T1_some | apply pm_T1_cond | apply pm_T1_ite)))

theorem ct_vret  : pm_Ct (s_vret) := pm_Ct_of (fun env y d lo sk I => by
  unfold s_vret
  first | exact pm_T1_go | exact pm_T1_none | exact pm_T1_some | skip
  all_goals split
  all_goals (repeat' (first | exact pm_T1_go | exact pm_T1_none | exact pm_T1_some | apply pm_T1_cond | apply pm_T1_ite)))

theorem pm_T1_swt {x : Int} {df : Nat} {k : pm_G → Nat → pm_O} (hk : ∀ t, pm_T1 (fun G => k G t)) : ∀ ts : List (Int × Nat), pm_T1 (fun G => pm_swt x df (k G) ts)
  | [] => hk df
  | (c, t) :: ts => pm_T1_ite (hk t) (pm_T1_swt hk ts)
theorem ct_switch (ts : List (Int × Nat)) (df : Nat) : pm_Ct (s_switch ts df) := pm_Ct_of (fun env y d lo sk I => by
  unfold s_switch
  split
  · exact pm_T1_swt (fun t => pm_T1_go) ts
  · exact pm_T1_none)
theorem ct_call (m n w nl rc rt : Nat) (rk : List pm_V → Nat) (nx : Nat) : pm_Ct (s_call m n w nl rc rt rk nx) := by
  intro env F G hF hG y d lo sk I r
  unfold s_call
  cases pm_pop n sk [] with
  | none => simp
  | some q =>
    obtain ⟨av, t⟩ := q
    dsimp only
    cases pm_rc env rc av with
    | false => simp
    | true =>
      cases (Nat.blt (rk av) d && Nat.ble (pm_wd t) 8 && Nat.beq (pm_wd av) w) with
      | false => simp
      | true =>
        dsimp only [cond_true]
        constructor
        · intro h
          obtain ⟨x, h1, h2⟩ := Option.bind_eq_some_iff.mp h
          obtain ⟨i, hi⟩ := (hG _ _ _ _ _ _ _).mp h1
          obtain ⟨j, hj⟩ := (hG _ _ _ _ _ _ _).mp h2
          refine ⟨max i j, Option.bind_eq_some_iff.mpr ⟨x, hF i _ (Nat.le_max_left i j) _ _ _ _ _ _ _ hi, hF j _ (Nat.le_max_right i j) _ _ _ _ _ _ _ hj⟩⟩
        · rintro ⟨i, h⟩
          obtain ⟨x, h1, h2⟩ := Option.bind_eq_some_iff.mp h
          exact Option.bind_eq_some_iff.mpr ⟨x, (hG _ _ _ _ _ _ _).mpr ⟨i, h1⟩, (hG _ _ _ _ _ _ _).mpr ⟨i, h2⟩⟩
theorem ct_tn {p : Nat} {a b : Nat → pm_S} (ha : ∀ pc, pm_Ct (a pc)) (hb : ∀ pc, pm_Ct (b pc)) (pc : Nat) : pm_Ct (pm_tn p a b pc) := by
  unfold pm_tn
  cases Nat.ble p pc with
  | false => exact ha pc
  | true => exact hb pc
theorem ct_tl {p : Nat} {s : pm_S} (h : pm_Ct s) (pc : Nat) : pm_Ct (pm_tl p s pc) := by
  unfold pm_tl
  cases Nat.beq pc p with
  | false => exact ct_bad
  | true => exact h
section PMLIM
variable {T : Nat → Nat → pm_S} (hT : ∀ y pc, pm_Ct (T y pc)) (env : pm_E)
/-- more steps, no other answer -/
theorem pm_mono1 (hT : ∀ y pc, pm_Ct (T y pc)) (env : pm_E) : ∀ n, pm_le (pm_run T env n) (pm_run T env (n + 1))
  | 0 => fun _ _ _ _ _ _ _ h => by cases h
  | n + 1 => fun y d pc lo sk I r h => by
    have ih := pm_mono1 hT env n
    have h1 : T y pc env (pm_run T env n) y d lo sk I = some r := h
    show T y pc env (pm_run T env (n + 1)) y d lo sk I = some r
    refine (hT y pc env (fun i => if i = 0 then pm_run T env n else pm_run T env (n + 1)) (pm_run T env (n + 1)) ?_ ?_ y d lo sk I r).mpr ⟨0, by simpa using h1⟩
    · intro i j hij
      by_cases hi : i = 0
      · by_cases hj : j = 0
        · simp only [hi, hj]; exact fun _ _ _ _ _ _ _ q => q
        · simp only [hi, hj, if_true, if_false]; exact ih
      · have hj : ¬ j = 0 := by omega
        simp only [hi, hj, if_false]; exact fun _ _ _ _ _ _ _ q => q
    · intro y d pc lo sk I r
      constructor
      · intro q; exact ⟨1, by simpa using q⟩
      · rintro ⟨i, q⟩
        by_cases hi : i = 0
        · simp only [hi, if_true] at q; exact ih _ _ _ _ _ _ _ q
        · simp only [hi, if_false] at q; exact q
theorem pm_mono (hT : ∀ y pc, pm_Ct (T y pc)) (env : pm_E) (i j : Nat) (h : i ≤ j) : pm_le (pm_run T env i) (pm_run T env j) := by
  induction j with
  | zero => rw [show i = 0 by omega]; exact fun _ _ _ _ _ _ _ q => q
  | succ j ih =>
    by_cases e : i = j + 1
    · subst e; exact fun _ _ _ _ _ _ _ q => q
    · exact fun y d pc lo sk I r q => pm_mono1 hT env j _ _ _ _ _ _ _ (ih (by omega) _ _ _ _ _ _ _ q)
noncomputable def pm_lim (F : Nat → pm_O) : pm_O := @dite pm_O (∃ r n, F n = some r) (Classical.propDecidable _) (fun h => some h.choose) (fun _ => none)
theorem pm_lim_iff {F : Nat → pm_O} (hF : ∀ i j r, i ≤ j → F i = some r → F j = some r) (r : Int × pm_I) : pm_lim F = some r ↔ ∃ n, F n = some r := by
  unfold pm_lim
  by_cases h : ∃ r n, F n = some r
  · rw [dif_pos h]
    obtain ⟨n, hn⟩ := h.choose_spec
    constructor
    · intro e
      exact ⟨n, by rw [hn]; exact e⟩
    · rintro ⟨k, hk⟩
      rcases Nat.le_total n k with q | q
      · rw [hF n k _ q hn] at hk; exact hk
      · rw [hF k n _ q hk] at hn; exact hn.symm
  · rw [dif_neg h]
    constructor
    · intro e; cases e
    · rintro ⟨k, hk⟩; exact absurd ⟨r, k, hk⟩ h
/-- the machine without a count of steps -/
noncomputable def pm_X (T : Nat → Nat → pm_S) (env : pm_E) : pm_G := fun y d pc lo sk I => pm_lim (fun n => pm_run T env n y d pc lo sk I)
theorem pm_X_iff {T : Nat → Nat → pm_S} (hT : ∀ y pc, pm_Ct (T y pc)) (env : pm_E) (y d pc : Nat) (lo : pm_L) (sk : List pm_V) (I : pm_I) (r : Int × pm_I) : pm_X T env y d pc lo sk I = some r ↔ ∃ n, pm_run T env n y d pc lo sk I = some r :=
  pm_lim_iff (fun i j r h q => pm_mono hT env i j h _ _ _ _ _ _ _ q) r
/-- one step of it -/
theorem pm_X_step {T : Nat → Nat → pm_S} (hT : ∀ y pc, pm_Ct (T y pc)) (env : pm_E) (y d pc : Nat) (lo : pm_L) (sk : List pm_V) (I : pm_I) : pm_X T env y d pc lo sk I = T y pc env (pm_X T env) y d lo sk I := by
  apply Option.ext
  intro r
  rw [hT y pc env (pm_run T env) (pm_X T env) (pm_mono hT env) (fun y d pc lo sk I r => pm_X_iff hT env y d pc lo sk I r), pm_X_iff hT]
  constructor
  · rintro ⟨n, h⟩
    cases n with
    | zero => cases h
    | succ n => exact ⟨n, h⟩
  · rintro ⟨n, h⟩
    exact ⟨n + 1, h⟩
/-- a stretch of a method y0, up to the places cs -/
noncomputable def pm_U (T : Nat → Nat → pm_S) (env : pm_E) (y0 : Nat) (cs : List Nat) : Nat → pm_G
  | 0 => pm_X T env
  | n + 1 => fun y d pc lo sk I => bif Nat.beq y y0 && !(cs.any (fun c => Nat.beq c pc)) then T y pc env (pm_U T env y0 cs n) y d lo sk I else pm_X T env y d pc lo sk I
theorem pm_U_eq {T : Nat → Nat → pm_S} (hT : ∀ y pc, pm_Ct (T y pc)) (env : pm_E) (y0 : Nat) (cs : List Nat) : ∀ n, pm_U T env y0 cs n = pm_X T env
  | 0 => rfl
  | n + 1 => by
    funext y d pc lo sk I
    unfold pm_U
    rw [pm_U_eq hT env y0 cs n]
    cases (Nat.beq y y0 && !(cs.any (fun c => Nat.beq c pc))) with
    | true => exact (pm_X_step hT env y d pc lo sk I).symm
    | false => rfl
theorem pm_seg {T : Nat → Nat → pm_S} (hT : ∀ y pc, pm_Ct (T y pc)) (env : pm_E) (cs : List Nat) (n : Nat) (y d pc : Nat) (lo : pm_L) (sk : List pm_V) (I : pm_I) : pm_X T env y d pc lo sk I = T y pc env (pm_U T env y cs n) y d lo sk I := by
  rw [pm_U_eq hT]
  exact pm_X_step hT env y d pc lo sk I
end PMLIM
end
section
/-- the locals that are not live at a place fall away on the way there -/
def pm_msk : List Bool → pm_L → pm_L
  | b :: bs, a :: t => (bif b then a else none) :: pm_msk bs t
  | _, t => t
def s_K (h : Nat) (ks : List Bool) (s : pm_S) : pm_S := fun env G y d lo sk I => s env (fun y' d' pc' lo' sk' I' => bif Nat.beq pc' h then G y' d' pc' (pm_msk ks lo') sk' I' else G y' d' pc' lo' sk' I') y d lo sk I
theorem ct_K {h : Nat} {ks : List Bool} {s : pm_S} (hs : pm_Ct s) : pm_Ct (s_K h ks s) := by
  intro env F G hF hG y d lo sk I r
  refine hs env (fun n y' d' pc' lo' sk' I' => bif Nat.beq pc' h then F n y' d' pc' (pm_msk ks lo') sk' I' else F n y' d' pc' lo' sk' I') _ ?_ ?_ y d lo sk I r
  · intro i j hij y' d' pc' lo' sk' I' r'
    dsimp only
    cases Nat.beq pc' h with
    | true => exact hF i j hij _ _ _ _ _ _ _
    | false => exact hF i j hij _ _ _ _ _ _ _
  · intro y' d' pc' lo' sk' I' r'
    cases Nat.beq pc' h with
    | true => exact hG _ _ _ _ _ _ _
    | false => exact hG _ _ _ _ _ _ _
/-! the cells, once all is made -/
def pm_kd : Nat → Nat := fun r => bif Nat.ble 100 r then 99 else (bif Nat.ble 37 r then (bif Nat.ble 59 r then (bif Nat.ble 74 r then (bif Nat.ble 86 r then (bif Nat.ble 97 r then (bif Nat.ble 99 r then 8 else 9) else (bif Nat.ble 88 r then 8 else 9)) else (bif Nat.ble 77 r then (bif Nat.ble 78 r then 8 else 7) else (bif Nat.ble 76 r then 8 else 9))) else (bif Nat.ble 62 r then (bif Nat.ble 64 r then (bif Nat.ble 65 r then 8 else 12) else (bif Nat.ble 63 r then 9 else 4)) else (bif Nat.ble 60 r then (bif Nat.ble 61 r then 8 else 3) else 8))) else (bif Nat.ble 44 r then (bif Nat.ble 55 r then (bif Nat.ble 57 r then (bif Nat.ble 58 r then 3 else 8) else (bif Nat.ble 56 r then 3 else 8)) else (bif Nat.ble 53 r then (bif Nat.ble 54 r then 3 else 10) else (bif Nat.ble 45 r then 8 else 12))) else (bif Nat.ble 40 r then (bif Nat.ble 42 r then (bif Nat.ble 43 r then 0 else 9) else (bif Nat.ble 41 r then 8 else 5)) else (bif Nat.ble 38 r then (bif Nat.ble 39 r then 9 else 8) else 5)))) else (bif Nat.ble 22 r then (bif Nat.ble 29 r then (bif Nat.ble 33 r then (bif Nat.ble 35 r then (bif Nat.ble 36 r then 9 else 8) else (bif Nat.ble 34 r then 5 else 9)) else (bif Nat.ble 31 r then (bif Nat.ble 32 r then 8 else 5) else (bif Nat.ble 30 r then 9 else 8))) else (bif Nat.ble 25 r then (bif Nat.ble 27 r then (bif Nat.ble 28 r then 5 else 9) else (bif Nat.ble 26 r then 8 else 5)) else (bif Nat.ble 23 r then (bif Nat.ble 24 r then 9 else 8) else 5))) else (bif Nat.ble 14 r then (bif Nat.ble 18 r then (bif Nat.ble 20 r then (bif Nat.ble 21 r then 9 else 8) else (bif Nat.ble 19 r then 5 else 11)) else (bif Nat.ble 15 r then (bif Nat.ble 17 r then 9 else 8) else 9)) else (bif Nat.ble 4 r then (bif Nat.ble 10 r then (bif Nat.ble 11 r then 8 else 1) else (bif Nat.ble 5 r then 8 else 2)) else (bif Nat.ble 1 r then (bif Nat.ble 3 r then 6 else 50) else 99)))))
def pm_ln (XL : Int) : Nat → Int := fun r => bif Nat.ble 100 r then 0 else (bif Nat.ble 53 r then (bif Nat.ble 79 r then (bif Nat.ble 91 r then (bif Nat.ble 95 r then (bif Nat.ble 98 r then (bif Nat.ble 99 r then 8 else 6) else (bif Nat.ble 97 r then 10 else 6)) else (bif Nat.ble 93 r then (bif Nat.ble 94 r then 8 else 10) else (bif Nat.ble 92 r then 64 else 256))) else (bif Nat.ble 85 r then (bif Nat.ble 88 r then (bif Nat.ble 89 r then 4 else 80) else (bif Nat.ble 87 r then 8 else 48)) else (bif Nat.ble 80 r then (bif Nat.ble 83 r then 8 else 10) else 8))) else (bif Nat.ble 60 r then (bif Nat.ble 63 r then (bif Nat.ble 77 r then (bif Nat.ble 78 r then 64 else 0) else (bif Nat.ble 74 r then 10 else 8)) else (bif Nat.ble 61 r then (bif Nat.ble 62 r then 0 else 64) else 0)) else (bif Nat.ble 56 r then (bif Nat.ble 58 r then (bif Nat.ble 59 r then 64 else 0) else (bif Nat.ble 57 r then 64 else 0)) else (bif Nat.ble 54 r then (bif Nat.ble 55 r then 64 else 0) else 4)))) else (bif Nat.ble 25 r then (bif Nat.ble 35 r then (bif Nat.ble 41 r then (bif Nat.ble 44 r then (bif Nat.ble 45 r then 10 else 8) else (bif Nat.ble 43 r then 0 else 6)) else (bif Nat.ble 38 r then (bif Nat.ble 40 r then 0 else 6) else (bif Nat.ble 37 r then 0 else 6))) else (bif Nat.ble 29 r then (bif Nat.ble 32 r then (bif Nat.ble 34 r then 0 else 6) else (bif Nat.ble 31 r then 0 else 6)) else (bif Nat.ble 26 r then (bif Nat.ble 28 r then 0 else 6) else 0))) else (bif Nat.ble 11 r then (bif Nat.ble 19 r then (bif Nat.ble 22 r then (bif Nat.ble 23 r then 6 else 0) else (bif Nat.ble 20 r then 6 else 0)) else (bif Nat.ble 15 r then (bif Nat.ble 18 r then 8 else 6) else 10)) else (bif Nat.ble 3 r then (bif Nat.ble 7 r then (bif Nat.ble 10 r then 0 else 8) else (bif Nat.ble 5 r then 64 else 0)) else (bif Nat.ble 1 r then (bif Nat.ble 2 r then XL else 16) else 0)))))
def pm_R : Nat → Nat → Nat := fun r k => bif Nat.ble 100 r then 0 else (bif Nat.ble 38 r then (bif Nat.ble 57 r then (bif Nat.ble 62 r then (bif Nat.ble 65 r then (bif Nat.ble 77 r then (bif Nat.ble 78 r then 0 else (bif Nat.ble 27 k then 0 else (bif Nat.ble 13 k then (bif Nat.ble 20 k then (bif Nat.ble 23 k then (bif Nat.ble 25 k then (bif Nat.ble 26 k then 99 else 98) else (bif Nat.ble 24 k then 97 else 96)) else (bif Nat.ble 21 k then (bif Nat.ble 22 k then 95 else 94) else 93)) else (bif Nat.ble 16 k then (bif Nat.ble 18 k then (bif Nat.ble 19 k then 92 else 91) else (bif Nat.ble 17 k then 90 else 89)) else (bif Nat.ble 14 k then (bif Nat.ble 15 k then 88 else 0) else 87))) else (bif Nat.ble 6 k then (bif Nat.ble 9 k then (bif Nat.ble 11 k then (bif Nat.ble 12 k then 86 else 85) else (bif Nat.ble 10 k then 84 else 83)) else (bif Nat.ble 7 k then (bif Nat.ble 8 k then 0 else 82) else 81)) else (bif Nat.ble 3 k then (bif Nat.ble 4 k then (bif Nat.ble 5 k then 80 else 0) else 0) else (bif Nat.ble 1 k then (bif Nat.ble 2 k then 79 else 78) else 0)))))) else 0) else (bif Nat.ble 63 r then (bif Nat.ble 64 r then (bif Nat.ble 8 k then 0 else 65 + k) else 0) else (bif Nat.ble 6 k then 0 else (bif Nat.ble 3 k then (bif Nat.ble 4 k then (bif Nat.ble 5 k then 76 else 75) else 74) else (bif Nat.ble 1 k then (bif Nat.ble 2 k then 73 else 64) else 63))))) else (bif Nat.ble 59 r then (bif Nat.ble 60 r then (bif Nat.ble 61 r then 0 else (bif Nat.ble 4 k then 0 else (bif Nat.ble 2 k then (bif Nat.ble 3 k then 61 else 0) else (bif Nat.ble 1 k then 0 else 0)))) else 0) else (bif Nat.ble 58 r then (bif Nat.ble 4 k then 0 else (bif Nat.ble 2 k then (bif Nat.ble 3 k then 59 else 0) else (bif Nat.ble 1 k then 0 else 0))) else 0))) else (bif Nat.ble 45 r then (bif Nat.ble 54 r then (bif Nat.ble 55 r then (bif Nat.ble 56 r then (bif Nat.ble 4 k then 0 else (bif Nat.ble 2 k then (bif Nat.ble 3 k then 57 else 0) else (bif Nat.ble 1 k then 0 else 0))) else 0) else (bif Nat.ble 4 k then 0 else (bif Nat.ble 2 k then (bif Nat.ble 3 k then 55 else 0) else (bif Nat.ble 1 k then 0 else 0)))) else (bif Nat.ble 53 r then (bif Nat.ble 4 k then 0 else 54 + 2 * k) else 0)) else (bif Nat.ble 41 r then (bif Nat.ble 43 r then (bif Nat.ble 44 r then (bif Nat.ble 8 k then 0 else 45 + k) else (bif Nat.ble 3 k then 0 else (bif Nat.ble 1 k then (bif Nat.ble 2 k then 44 else 0) else 0))) else 0) else (bif Nat.ble 40 r then (bif Nat.ble 6 k then 0 else (bif Nat.ble 3 k then (bif Nat.ble 4 k then (bif Nat.ble 5 k then 42 else 41) else 0) else (bif Nat.ble 1 k then (bif Nat.ble 2 k then 0 else 0) else 0))) else 0)))) else (bif Nat.ble 23 r then (bif Nat.ble 31 r then (bif Nat.ble 34 r then (bif Nat.ble 35 r then (bif Nat.ble 37 r then (bif Nat.ble 6 k then 0 else (bif Nat.ble 3 k then (bif Nat.ble 4 k then (bif Nat.ble 5 k then 39 else 38) else 0) else (bif Nat.ble 1 k then (bif Nat.ble 2 k then 0 else 0) else 0))) else 0) else (bif Nat.ble 6 k then 0 else (bif Nat.ble 3 k then (bif Nat.ble 4 k then (bif Nat.ble 5 k then 36 else 35) else 0) else (bif Nat.ble 1 k then (bif Nat.ble 2 k then 0 else 0) else 0)))) else (bif Nat.ble 32 r then 0 else (bif Nat.ble 6 k then 0 else (bif Nat.ble 3 k then (bif Nat.ble 4 k then (bif Nat.ble 5 k then 33 else 32) else 0) else (bif Nat.ble 1 k then (bif Nat.ble 2 k then 0 else 0) else 0))))) else (bif Nat.ble 26 r then (bif Nat.ble 28 r then (bif Nat.ble 29 r then 0 else (bif Nat.ble 6 k then 0 else (bif Nat.ble 3 k then (bif Nat.ble 4 k then (bif Nat.ble 5 k then 30 else 29) else 0) else (bif Nat.ble 1 k then (bif Nat.ble 2 k then 0 else 0) else 0)))) else 0) else (bif Nat.ble 25 r then (bif Nat.ble 6 k then 0 else (bif Nat.ble 3 k then (bif Nat.ble 4 k then (bif Nat.ble 5 k then 27 else 26) else 0) else (bif Nat.ble 1 k then (bif Nat.ble 2 k then 0 else 0) else 0))) else 0))) else (bif Nat.ble 11 r then (bif Nat.ble 19 r then (bif Nat.ble 20 r then (bif Nat.ble 22 r then (bif Nat.ble 6 k then 0 else (bif Nat.ble 3 k then (bif Nat.ble 4 k then (bif Nat.ble 5 k then 24 else 23) else 0) else (bif Nat.ble 1 k then (bif Nat.ble 2 k then 0 else 0) else 0))) else 0) else (bif Nat.ble 6 k then 0 else (bif Nat.ble 3 k then (bif Nat.ble 4 k then (bif Nat.ble 5 k then 21 else 20) else 0) else (bif Nat.ble 1 k then (bif Nat.ble 2 k then 0 else 0) else 0)))) else (bif Nat.ble 18 r then (bif Nat.ble 8 k then 0 else 19 + 3 * k) else 0)) else (bif Nat.ble 4 r then (bif Nat.ble 5 r then (bif Nat.ble 10 r then (bif Nat.ble 10 k then 0 else (bif Nat.ble 5 k then (bif Nat.ble 7 k then (bif Nat.ble 8 k then (bif Nat.ble 9 k then 17 else 16) else 15) else (bif Nat.ble 6 k then 14 else 13)) else (bif Nat.ble 2 k then (bif Nat.ble 3 k then (bif Nat.ble 4 k then 12 else 11) else 0) else (bif Nat.ble 1 k then 0 else 0)))) else 0) else (bif Nat.ble 6 k then 0 else (bif Nat.ble 3 k then (bif Nat.ble 4 k then (bif Nat.ble 5 k then 9 else 8) else 7) else (bif Nat.ble 1 k then (bif Nat.ble 2 k then 6 else 5) else 0)))) else (bif Nat.ble 3 r then (bif Nat.ble 7 k then 0 else (bif Nat.ble 3 k then (bif Nat.ble 5 k then (bif Nat.ble 6 k then 62 else 53) else (bif Nat.ble 4 k then 43 else 0)) else (bif Nat.ble 1 k then (bif Nat.ble 2 k then 18 else 10) else 4))) else 0)))))
def pm_units (i : Int) : Int := [0, 1, 2, 3, 1, 4, 3, 6, 2, 7, 4, 1, 3, 2, 5, 4].getD i.toNat 0
def pm_xv (X : Int → Int) : Nat → Int → Int := fun r i => bif Nat.beq r 1 then pm_units i else X i
/-- the script: what it holds, how long it is -/
abbrev pm_XT : Type := (Int → Int) × Int
def pm_env (X : pm_XT) : pm_E := (pm_kd, pm_ln X.2, pm_R, pm_xv X.1)
def pm_rkS (av : List pm_V) : Nat := match av with
  | .inl a :: _ => 3 + (10 - a).toNat
  | _ => 13
end
section
def RX0 : String := "TurnBoards$Acts"
def TX0 : u_T := fun k => match k with
  | 0 => ("TurnBoards$Acts", "kept", "I", false)
  | 1 => ("TurnBoards$Acts", "next", "I", false)
  | _ => ("TurnBoards$Acts", "rows", "[[I", true)
def tyX0 : Nat → FieldType := fun k => match k with
  | 0 => .int
  | 1 => .int
  | _ => .array (.array .int)
theorem nmX0 : ∀ a, a < 3 → ∀ b, b < 3 → a ≠ b → (TX0 a).2.1 ≠ (TX0 b).2.1 := by decide +kernel
theorem tyX0_ok : ∀ k, k < 3 → parseFieldDescriptor (TX0 k).2.2.1 = some (tyX0 k) := by decide +kernel
def RX1 : String := "TurnBoards$Board"
def TX1 : u_T := fun k => match k with
  | 0 => ("TurnBoards$Board", "points", "I", false)
  | 1 => ("TurnBoards$Board", "lines", "I", false)
  | 2 => ("TurnBoards$Board", "treeLines", "I", false)
  | 3 => ("TurnBoards$Board", "froms", "[I", true)
  | 4 => ("TurnBoards$Board", "tos", "[I", true)
  | 5 => ("TurnBoards$Board", "turns", "[I", true)
  | 6 => ("TurnBoards$Board", "inTree", "[Z", true)
  | 7 => ("TurnBoards$Board", "leasts", "[I", true)
  | 8 => ("TurnBoards$Board", "shifts", "[I", true)
  | _ => ("TurnBoards$Board", "reached", "[Z", true)
def tyX1 : Nat → FieldType := fun k => match k with
  | 0 => .int
  | 1 => .int
  | 2 => .int
  | 3 => .array .int
  | 4 => .array .int
  | 5 => .array .int
  | 6 => .array .boolean
  | 7 => .array .int
  | 8 => .array .int
  | _ => .array .boolean
theorem nmX1 : ∀ a, a < 10 → ∀ b, b < 10 → a ≠ b → (TX1 a).2.1 ≠ (TX1 b).2.1 := by decide +kernel
theorem tyX1_ok : ∀ k, k < 10 → parseFieldDescriptor (TX1 k).2.2.1 = some (tyX1 k) := by decide +kernel
def RX2 : String := "TurnBoards$Group"
def TX2 : u_T := fun k => match k with
  | 0 => ("TurnBoards$Group", "size", "I", false)
  | 1 => ("TurnBoards$Group", "draft", "[I", true)
  | 2 => ("TurnBoards$Group", "products", "[I", true)
  | 3 => ("TurnBoards$Group", "backs", "[I", true)
  | 4 => ("TurnBoards$Group", "classes", "[I", true)
  | _ => ("TurnBoards$Group", "worths", "[I", true)
def tyX2 : Nat → FieldType := fun k => match k with
  | 0 => .int
  | 1 => .array .int
  | 2 => .array .int
  | 3 => .array .int
  | 4 => .array .int
  | _ => .array .int
theorem nmX2 : ∀ a, a < 6 → ∀ b, b < 6 → a ≠ b → (TX2 a).2.1 ≠ (TX2 b).2.1 := by decide +kernel
theorem tyX2_ok : ∀ k, k < 6 → parseFieldDescriptor (TX2 k).2.2.1 = some (tyX2 k) := by decide +kernel
def RX3 : String := "TurnBoards$Sheet"
def TX3 : u_T := fun k => match k with
  | 0 => ("TurnBoards$Sheet", "made", "Z", false)
  | 1 => ("TurnBoards$Sheet", "size", "I", false)
  | 2 => ("TurnBoards$Sheet", "lane", "I", false)
  | _ => ("TurnBoards$Sheet", "cells", "[I", true)
def tyX3 : Nat → FieldType := fun k => match k with
  | 0 => .boolean
  | 1 => .int
  | 2 => .int
  | _ => .array .int
theorem nmX3 : ∀ a, a < 4 → ∀ b, b < 4 → a ≠ b → (TX3 a).2.1 ≠ (TX3 b).2.1 := by decide +kernel
theorem tyX3_ok : ∀ k, k < 4 → parseFieldDescriptor (TX3 k).2.2.1 = some (tyX3 k) := by decide +kernel
def RX4 : String := "TurnBoards$Sums"
def TX4 : u_T := fun k => match k with
  | 0 => ("TurnBoards$Sums", "looked", "[Z", true)
  | 1 => ("TurnBoards$Sums", "factors", "[[I", true)
  | 2 => ("TurnBoards$Sums", "lasts", "[I", true)
  | 3 => ("TurnBoards$Sums", "used", "[Z", true)
  | 4 => ("TurnBoards$Sums", "fixed", "[Z", true)
  | _ => ("TurnBoards$Sums", "turns", "[I", true)
def tyX4 : Nat → FieldType := fun k => match k with
  | 0 => .array .boolean
  | 1 => .array (.array .int)
  | 2 => .array .int
  | 3 => .array .boolean
  | 4 => .array .boolean
  | _ => .array .int
theorem nmX4 : ∀ a, a < 6 → ∀ b, b < 6 → a ≠ b → (TX4 a).2.1 ≠ (TX4 b).2.1 := by decide +kernel
theorem tyX4_ok : ∀ k, k < 6 → parseFieldDescriptor (TX4 k).2.2.1 = some (tyX4 k) := by decide +kernel
def RX5 : String := "TurnBoards$Walk"
def TX5 : u_T := fun k => match k with
  | 0 => ("TurnBoards$Walk", "start", "I", false)
  | 1 => ("TurnBoards$Walk", "end", "I", false)
  | 2 => ("TurnBoards$Walk", "steps", "I", false)
  | 3 => ("TurnBoards$Walk", "counted", "Z", false)
  | 4 => ("TurnBoards$Walk", "lines", "[I", true)
  | _ => ("TurnBoards$Walk", "backs", "[Z", true)
def tyX5 : Nat → FieldType := fun k => match k with
  | 0 => .int
  | 1 => .int
  | 2 => .int
  | 3 => .boolean
  | 4 => .array .int
  | _ => .array .boolean
theorem nmX5 : ∀ a, a < 6 → ∀ b, b < 6 → a ≠ b → (TX5 a).2.1 ≠ (TX5 b).2.1 := by decide +kernel
theorem tyX5_ok : ∀ k, k < 6 → parseFieldDescriptor (TX5 k).2.2.1 = some (tyX5 k) := by decide +kernel
def RX6 : String := "TurnBoards"
def TX6 : u_T := fun k => match k with
  | 0 => ("TurnBoards", "theGroup", "LTurnBoards$Group;", true)
  | 1 => ("TurnBoards", "theBoard", "LTurnBoards$Board;", true)
  | 2 => ("TurnBoards", "theWalks", "[LTurnBoards$Walk;", true)
  | 3 => ("TurnBoards", "walksMade", "I", false)
  | 4 => ("TurnBoards", "theActs", "LTurnBoards$Acts;", true)
  | 5 => ("TurnBoards", "theSheets", "[LTurnBoards$Sheet;", true)
  | _ => ("TurnBoards", "theSums", "LTurnBoards$Sums;", true)
def tyX6 : Nat → FieldType := fun k => match k with
  | 0 => .object "TurnBoards$Group"
  | 1 => .object "TurnBoards$Board"
  | 2 => .array (.object "TurnBoards$Walk")
  | 3 => .int
  | 4 => .object "TurnBoards$Acts"
  | 5 => .array (.object "TurnBoards$Sheet")
  | _ => .object "TurnBoards$Sums"
theorem nmX6 : ∀ a, a < 7 → ∀ b, b < 7 → a ≠ b → (TX6 a).2.1 ≠ (TX6 b).2.1 := by decide +kernel
theorem tyX6_ok : ∀ k, k < 7 → parseFieldDescriptor (TX6 k).2.2.1 = some (tyX6 k) := by decide +kernel
def RX7 : String := "TurnBoardsModel"
def TX7 : u_T := fun k => match k with
  | 0 => ("TurnBoardsModel", "size", "I", false)
  | 1 => ("TurnBoardsModel", "table", "[I", true)
  | 2 => ("TurnBoardsModel", "worths", "[I", true)
  | 3 => ("TurnBoardsModel", "points", "I", false)
  | 4 => ("TurnBoardsModel", "lines", "I", false)
  | 5 => ("TurnBoardsModel", "froms", "[I", true)
  | 6 => ("TurnBoardsModel", "tos", "[I", true)
  | 7 => ("TurnBoardsModel", "turns", "[I", true)
  | 8 => ("TurnBoardsModel", "walks", "I", false)
  | 9 => ("TurnBoardsModel", "begins", "[I", true)
  | 10 => ("TurnBoardsModel", "stepMany", "[I", true)
  | 11 => ("TurnBoardsModel", "stepLine", "[I", true)
  | 12 => ("TurnBoardsModel", "stepBack", "[Z", true)
  | 13 => ("TurnBoardsModel", "isCounted", "[Z", true)
  | 14 => ("TurnBoardsModel", "acts", "I", false)
  | 15 => ("TurnBoardsModel", "actTurns", "[I", true)
  | 16 => ("TurnBoardsModel", "lanes", "[I", true)
  | 17 => ("TurnBoardsModel", "lengths", "[I", true)
  | 18 => ("TurnBoardsModel", "cells", "[I", true)
  | 19 => ("TurnBoardsModel", "tried", "[I", true)
  | 20 => ("TurnBoardsModel", "way", "[I", true)
  | 21 => ("TurnBoardsModel", "backs", "[I", true)
  | 22 => ("TurnBoardsModel", "by", "[I", true)
  | 23 => ("TurnBoardsModel", "partOf", "[I", true)
  | 24 => ("TurnBoardsModel", "isTree", "[Z", true)
  | 25 => ("TurnBoardsModel", "isKnown", "[Z", true)
  | _ => ("TurnBoardsModel", "kinOf", "[I", true)
def tyX7 : Nat → FieldType := fun k => match k with
  | 0 => .int
  | 1 => .array .int
  | 2 => .array .int
  | 3 => .int
  | 4 => .int
  | 5 => .array .int
  | 6 => .array .int
  | 7 => .array .int
  | 8 => .int
  | 9 => .array .int
  | 10 => .array .int
  | 11 => .array .int
  | 12 => .array .boolean
  | 13 => .array .boolean
  | 14 => .int
  | 15 => .array .int
  | 16 => .array .int
  | 17 => .array .int
  | 18 => .array .int
  | 19 => .array .int
  | 20 => .array .int
  | 21 => .array .int
  | 22 => .array .int
  | 23 => .array .int
  | 24 => .array .boolean
  | 25 => .array .boolean
  | _ => .array .int
theorem nmX7 : ∀ a, a < 27 → ∀ b, b < 27 → a ≠ b → (TX7 a).2.1 ≠ (TX7 b).2.1 := by decide +kernel
theorem tyX7_ok : ∀ k, k < 27 → parseFieldDescriptor (TX7 k).2.2.1 = some (tyX7 k) := by decide +kernel
abbrev vwCl : List vw_C := [(RX0, TX0, 3), (RX1, TX1, 10), (RX2, TX2, 6), (RX3, TX3, 4), (RX4, TX4, 6), (RX5, TX5, 6), (RX6, TX6, 7), (RX7, TX7, 27)]
/-- a method: its name, its code, its locals, what it answers -/
def pm_md : Nat → MethodName × ByteArray × Nat × Option FieldType := fun y => (bif Nat.ble 72 y then (bif Nat.ble 108 y then (bif Nat.ble 126 y then (bif Nat.ble 135 y then (bif Nat.ble 140 y then (bif Nat.ble 142 y then (bif Nat.ble 143 y then (bif Nat.ble 144 y then (⟨"TurnBoardsLaw", "law", "([I)Z"⟩, code, 4, (some .boolean)) else (⟨"TurnBoardsModel", "many", "(I)I"⟩, prog_9_method_54_code, 5, (some .int))) else (⟨"TurnBoardsModel", "fill", "(III)I"⟩, prog_9_method_53_code, 7, (some .int))) else (bif Nat.ble 141 y then (⟨"TurnBoardsModel", "flat", "()J"⟩, prog_9_method_52_code, 1, (some .long)) else (⟨"TurnBoardsModel", "mean", "(III)J"⟩, prog_9_method_51_code, 14, (some .long)))) else (bif Nat.ble 137 y then (bif Nat.ble 138 y then (bif Nat.ble 139 y then (⟨"TurnBoardsModel", "sumBy", "(II)J"⟩, prog_9_method_50_code, 3, (some .long)) else (⟨"TurnBoardsModel", "canSum", "(II)Z"⟩, prog_9_method_49_code, 3, (some .boolean))) else (⟨"TurnBoardsModel", "sum", "()J"⟩, prog_9_method_48_code, 1, (some .long))) else (bif Nat.ble 136 y then (⟨"TurnBoardsModel", "summed", "(III)J"⟩, prog_9_method_47_code, 13, (some .long)) else (⟨"TurnBoardsModel", "isFlat", "()Z"⟩, prog_9_method_46_code, 3, (some .boolean))))) else (bif Nat.ble 130 y then (bif Nat.ble 132 y then (bif Nat.ble 133 y then (bif Nat.ble 134 y then (⟨"TurnBoardsModel", "power", "(I)J"⟩, prog_9_method_45_code, 5, (some .long)) else (⟨"TurnBoardsModel", "tree", "(I)I"⟩, prog_9_method_44_code, 3, (some .int))) else (⟨"TurnBoardsModel", "still", "()I"⟩, prog_9_method_43_code, 7, (some .int))) else (bif Nat.ble 131 y then (⟨"TurnBoardsModel", "layTree", "()I"⟩, prog_9_method_42_code, 6, (some .int)) else (⟨"TurnBoardsModel", "twist", "(II)I"⟩, prog_9_method_41_code, 4, (some .int)))) else (bif Nat.ble 128 y then (bif Nat.ble 129 y then (⟨"TurnBoardsModel", "turned", "()I"⟩, prog_9_method_40_code, 4, (some .int)) else (⟨"TurnBoardsModel", "weight", "()J"⟩, prog_9_method_39_code, 1, (some .long))) else (bif Nat.ble 127 y then (⟨"TurnBoardsModel", "weightOf", "()J"⟩, prog_9_method_38_code, 4, (some .long)) else (⟨"TurnBoardsModel", "at", "(I)I"⟩, prog_9_method_37_code, 2, (some .int)))))) else (bif Nat.ble 117 y then (bif Nat.ble 121 y then (bif Nat.ble 123 y then (bif Nat.ble 124 y then (bif Nat.ble 125 y then (⟨"TurnBoardsModel", "set", "(II)I"⟩, prog_9_method_36_code, 4, (some .int)) else (⟨"TurnBoardsModel", "undo", "()I"⟩, prog_9_method_35_code, 2, (some .int))) else (⟨"TurnBoardsModel", "record", "()V"⟩, prog_9_method_34_code, 2, none)) else (bif Nat.ble 122 y then (⟨"TurnBoardsModel", "drop", "()I"⟩, prog_9_method_33_code, 1, (some .int)) else (⟨"TurnBoardsModel", "told", "(II)I"⟩, prog_9_method_32_code, 3, (some .int)))) else (bif Nat.ble 119 y then (bif Nat.ble 120 y then (⟨"TurnBoardsModel", "layBacks", "()V"⟩, prog_9_method_31_code, 2, none) else (⟨"TurnBoardsModel", "turnOf", "(I)I"⟩, prog_9_method_30_code, 5, (some .int))) else (bif Nat.ble 118 y then (⟨"TurnBoardsModel", "takeLines", "()V"⟩, prog_9_method_29_code, 2, none) else (⟨"TurnBoardsModel", "isClosed", "(I)Z"⟩, prog_9_method_28_code, 2, (some .boolean))))) else (bif Nat.ble 112 y then (bif Nat.ble 114 y then (bif Nat.ble 115 y then (bif Nat.ble 116 y then (⟨"TurnBoardsModel", "counts", "(IZ)I"⟩, prog_9_method_27_code, 4, (some .int)) else (⟨"TurnBoardsModel", "step", "(IIZ)I"⟩, prog_9_method_26_code, 4, (some .int))) else (⟨"TurnBoardsModel", "endOf", "(I)I"⟩, prog_9_method_25_code, 4, (some .int))) else (bif Nat.ble 113 y then (⟨"TurnBoardsModel", "walk", "(I)I"⟩, prog_9_method_24_code, 2, (some .int)) else (⟨"TurnBoardsModel", "line", "(II)I"⟩, prog_9_method_23_code, 3, (some .int)))) else (bif Nat.ble 110 y then (bif Nat.ble 111 y then (⟨"TurnBoardsModel", "point", "()I"⟩, prog_9_method_22_code, 1, (some .int)) else (⟨"TurnBoardsModel", "isPoint", "(I)Z"⟩, prog_9_method_21_code, 2, (some .boolean))) else (bif Nat.ble 109 y then (⟨"TurnBoardsModel", "isWalk", "(I)Z"⟩, prog_9_method_20_code, 2, (some .boolean)) else (⟨"TurnBoardsModel", "isLine", "(I)Z"⟩, prog_9_method_19_code, 2, (some .boolean))))))) else (bif Nat.ble 90 y then (bif Nat.ble 99 y then (bif Nat.ble 103 y then (bif Nat.ble 105 y then (bif Nat.ble 106 y then (bif Nat.ble 107 y then (⟨"TurnBoardsModel", "worth", "(II)I"⟩, prog_9_method_18_code, 6, (some .int)) else (⟨"TurnBoardsModel", "about", "(I)I"⟩, prog_9_method_17_code, 6, (some .int))) else (⟨"TurnBoardsModel", "turn", "(II)I"⟩, prog_9_method_16_code, 5, (some .int))) else (bif Nat.ble 104 y then (⟨"TurnBoardsModel", "alikeWith", "(I)I"⟩, prog_9_method_15_code, 4, (some .int)) else (⟨"TurnBoardsModel", "classOf", "(I)I"⟩, prog_9_method_14_code, 5, (some .int)))) else (bif Nat.ble 101 y then (bif Nat.ble 102 y then (⟨"TurnBoardsModel", "times", "(II)I"⟩, prog_9_method_13_code, 3, (some .int)) else (⟨"TurnBoardsModel", "read", "(IIII)I"⟩, prog_9_method_12_code, 8, (some .int))) else (bif Nat.ble 100 y then (⟨"TurnBoardsModel", "lay", "(III)I"⟩, prog_9_method_11_code, 4, (some .int)) else (⟨"TurnBoardsModel", "sheet", "(III)I"⟩, prog_9_method_10_code, 5, (some .int))))) else (bif Nat.ble 94 y then (bif Nat.ble 96 y then (bif Nat.ble 97 y then (bif Nat.ble 98 y then (⟨"TurnBoardsModel", "group", "(II)I"⟩, prog_9_method_9_code, 9, (some .int)) else (⟨"TurnBoardsModel", "crossed", "(II)I"⟩, prog_9_method_8_code, 6, (some .int))) else (⟨"TurnBoardsModel", "begin", "(I)V"⟩, prog_9_method_7_code, 3, none)) else (bif Nat.ble 95 y then (⟨"TurnBoardsModel", "backOf", "(I)I"⟩, prog_9_method_6_code, 3, (some .int)) else (⟨"TurnBoardsModel", "product", "(II)I"⟩, prog_9_method_5_code, 3, (some .int)))) else (bif Nat.ble 92 y then (bif Nat.ble 93 y then (⟨"TurnBoardsModel", "isTurn", "(I)Z"⟩, prog_9_method_4_code, 2, (some .boolean)) else (⟨"TurnBoardsModel", "in", "(JJJ)Z"⟩, prog_9_method_3_code, 6, (some .boolean))) else (bif Nat.ble 91 y then (⟨"TurnBoards", "fillLines", "(LTurnBoards$Sheet;I)I"⟩, prog_1_method_47_code, 6, (some .int)) else (⟨"TurnBoards", "linesFault", "(LTurnBoards$Sheet;I)I"⟩, prog_1_method_46_code, 4, (some .int)))))) else (bif Nat.ble 81 y then (bif Nat.ble 85 y then (bif Nat.ble 87 y then (bif Nat.ble 88 y then (bif Nat.ble 89 y then (⟨"TurnBoards", "commonDivisor", "(JJ)J"⟩, prog_1_method_45_code, 11, (some .long)) else (⟨"TurnBoards", "sumLooked", "()J"⟩, prog_1_method_44_code, 1, (some .long))) else (⟨"TurnBoards", "lookForWeights", "()V"⟩, prog_1_method_43_code, 2, none)) else (bif Nat.ble 86 y then (⟨"TurnBoards", "sumHeld", "(II)J"⟩, prog_1_method_42_code, 3, (some .long)) else (⟨"TurnBoards", "sumOfWeights", "()J"⟩, prog_1_method_41_code, 1, (some .long)))) else (bif Nat.ble 83 y then (bif Nat.ble 84 y then (⟨"TurnBoards", "isSpent", "()Z"⟩, prog_1_method_40_code, 4, (some .boolean)) else (⟨"TurnBoards", "draftFrom", "(LTurnBoards$Sheet;II)I"⟩, prog_1_method_39_code, 8, (some .int))) else (bif Nat.ble 82 y then (⟨"TurnBoards", "takeDraft", "(I)I"⟩, prog_1_method_38_code, 2, (some .int)) else (⟨"TurnBoards", "walksThatWeigh", "()I"⟩, prog_1_method_37_code, 3, (some .int))))) else (bif Nat.ble 76 y then (bif Nat.ble 78 y then (bif Nat.ble 79 y then (bif Nat.ble 80 y then (⟨"TurnBoards", "isLane", "(I)Z"⟩, prog_1_method_36_code, 1, (some .boolean)) else (⟨"TurnBoards", "isSheet", "(I)Z"⟩, prog_1_method_35_code, 1, (some .boolean))) else (⟨"TurnBoards", "isClosedWalk", "(I)Z"⟩, prog_1_method_34_code, 2, (some .boolean))) else (bif Nat.ble 77 y then (⟨"TurnBoards", "isWalk", "(I)Z"⟩, prog_1_method_33_code, 2, (some .boolean)) else (⟨"TurnBoards", "isLine", "(I)Z"⟩, prog_1_method_32_code, 2, (some .boolean)))) else (bif Nat.ble 74 y then (bif Nat.ble 75 y then (⟨"TurnBoards", "isPoint", "(I)Z"⟩, prog_1_method_31_code, 2, (some .boolean)) else (⟨"TurnBoards", "isTurn", "(I)Z"⟩, prog_1_method_30_code, 2, (some .boolean))) else (bif Nat.ble 73 y then (⟨"TurnBoards", "many", "(I)I"⟩, prog_1_method_29_code, 2, (some .int)) else (⟨"TurnBoards", "fill", "(III)I"⟩, prog_1_method_28_code, 6, (some .int)))))))) else (bif Nat.ble 36 y then (bif Nat.ble 54 y then (bif Nat.ble 63 y then (bif Nat.ble 67 y then (bif Nat.ble 69 y then (bif Nat.ble 70 y then (bif Nat.ble 71 y then (⟨"TurnBoards", "lay", "(III)I"⟩, prog_1_method_27_code, 5, (some .int)) else (⟨"TurnBoards", "sheet", "(III)I"⟩, prog_1_method_26_code, 4, (some .int))) else (⟨"TurnBoards", "flat", "()J"⟩, prog_1_method_25_code, 2, (some .long))) else (bif Nat.ble 68 y then (⟨"TurnBoards", "mean", "(III)J"⟩, prog_1_method_24_code, 10, (some .long)) else (⟨"TurnBoards", "sumBy", "(II)J"⟩, prog_1_method_23_code, 3, (some .long)))) else (bif Nat.ble 65 y then (bif Nat.ble 66 y then (⟨"TurnBoards", "sum", "()J"⟩, prog_1_method_22_code, 1, (some .long)) else (⟨"TurnBoards", "tree", "(I)I"⟩, prog_1_method_21_code, 2, (some .int))) else (bif Nat.ble 64 y then (⟨"TurnBoards", "undo", "()I"⟩, prog_1_method_20_code, 1, (some .int)) else (⟨"TurnBoards", "still", "()I"⟩, prog_1_method_19_code, 1, (some .int))))) else (bif Nat.ble 58 y then (bif Nat.ble 60 y then (bif Nat.ble 61 y then (bif Nat.ble 62 y then (⟨"TurnBoards", "twist", "(II)I"⟩, prog_1_method_18_code, 3, (some .int)) else (⟨"TurnBoards", "weight", "()J"⟩, prog_1_method_17_code, 4, (some .long))) else (⟨"TurnBoards", "at", "(I)I"⟩, prog_1_method_16_code, 2, (some .int))) else (bif Nat.ble 59 y then (⟨"TurnBoards", "set", "(II)I"⟩, prog_1_method_15_code, 4, (some .int)) else (⟨"TurnBoards", "drop", "()I"⟩, prog_1_method_14_code, 1, (some .int)))) else (bif Nat.ble 56 y then (bif Nat.ble 57 y then (⟨"TurnBoards", "told", "(II)I"⟩, prog_1_method_13_code, 4, (some .int)) else (⟨"TurnBoards", "counts", "(IZ)I"⟩, prog_1_method_12_code, 4, (some .int))) else (bif Nat.ble 55 y then (⟨"TurnBoards", "step", "(IIZ)I"⟩, prog_1_method_11_code, 7, (some .int)) else (⟨"TurnBoards", "walk", "(I)I"⟩, prog_1_method_10_code, 2, (some .int)))))) else (bif Nat.ble 45 y then (bif Nat.ble 49 y then (bif Nat.ble 51 y then (bif Nat.ble 52 y then (bif Nat.ble 53 y then (⟨"TurnBoards", "line", "(II)I"⟩, prog_1_method_9_code, 3, (some .int)) else (⟨"TurnBoards", "point", "()I"⟩, prog_1_method_8_code, 1, (some .int))) else (⟨"TurnBoards", "worth", "(II)I"⟩, prog_1_method_7_code, 4, (some .int))) else (bif Nat.ble 50 y then (⟨"TurnBoards", "about", "(I)I"⟩, prog_1_method_6_code, 2, (some .int)) else (⟨"TurnBoards", "turn", "(II)I"⟩, prog_1_method_5_code, 3, (some .int)))) else (bif Nat.ble 47 y then (bif Nat.ble 48 y then (⟨"TurnBoards", "times", "(II)I"⟩, prog_1_method_4_code, 3, (some .int)) else (⟨"TurnBoards", "read", "(IIII)I"⟩, prog_1_method_3_code, 6, (some .int))) else (bif Nat.ble 46 y then (⟨"TurnBoards", "group", "(II)I"⟩, prog_1_method_2_code, 3, (some .int)) else (⟨"TurnBoards$Walk", "markLines", "([Z)I"⟩, prog_7_method_7_code, 4, (some .int))))) else (bif Nat.ble 40 y then (bif Nat.ble 42 y then (bif Nat.ble 43 y then (bif Nat.ble 44 y then (⟨"TurnBoards$Walk", "turnWith", "([ILTurnBoards$Group;)I"⟩, prog_7_method_6_code, 6, (some .int)) else (⟨"TurnBoards$Walk", "weighs", "()Z"⟩, prog_7_method_5_code, 1, (some .boolean))) else (⟨"TurnBoards$Walk", "isClosed", "()Z"⟩, prog_7_method_4_code, 1, (some .boolean))) else (bif Nat.ble 41 y then (⟨"TurnBoards$Walk", "go", "(IZI)V"⟩, prog_7_method_3_code, 4, none) else (⟨"TurnBoards$Walk", "begin", "(I)V"⟩, prog_7_method_2_code, 2, none))) else (bif Nat.ble 38 y then (bif Nat.ble 39 y then (⟨"TurnBoards$Sums", "factorBehind", "(I[LTurnBoards$Walk;LTurnBoards$Group;)J"⟩, prog_6_method_8_code, 7, (some .long)) else (⟨"TurnBoards$Sums", "sumFrom", "(IJLTurnBoards$Sums;[LTurnBoards$Walk;ILTurnBoards$Group;)J"⟩, prog_6_method_7_code, 13, (some .long))) else (bif Nat.ble 37 y then (⟨"TurnBoards$Sums", "markLines", "([LTurnBoards$Walk;LTurnBoards$Board;)V"⟩, prog_6_method_6_code, 4, none) else (⟨"TurnBoards$Sums", "lookForStill", "(I)V"⟩, prog_6_method_5_code, 3, none)))))) else (bif Nat.ble 18 y then (bif Nat.ble 27 y then (bif Nat.ble 31 y then (bif Nat.ble 33 y then (bif Nat.ble 34 y then (bif Nat.ble 35 y then (⟨"TurnBoards$Sums", "lookForClass", "(IILTurnBoards$Group;)V"⟩, prog_6_method_4_code, 5, none) else (⟨"TurnBoards$Sums", "lookForWorth", "(ILTurnBoards$Group;)V"⟩, prog_6_method_3_code, 4, none)) else (⟨"TurnBoards$Sums", "clear", "()V"⟩, prog_6_method_2_code, 3, none)) else (bif Nat.ble 32 y then (⟨"TurnBoards$Sheet", "put", "(II)V"⟩, prog_5_method_5_code, 3, none) else (⟨"TurnBoards$Sheet", "faultAs", "(I)I"⟩, prog_5_method_4_code, 2, (some .int)))) else (bif Nat.ble 29 y then (bif Nat.ble 30 y then (⟨"TurnBoards$Sheet", "hasCell", "(I)Z"⟩, prog_5_method_3_code, 2, (some .boolean)) else (⟨"TurnBoards$Sheet", "renew", "(II)V"⟩, prog_5_method_2_code, 4, none)) else (bif Nat.ble 28 y then (⟨"TurnBoards$Group", "giveWorth", "(II)V"⟩, prog_4_method_19_code, 4, none) else (⟨"TurnBoards$Group", "alikePairs", "()I"⟩, prog_4_method_18_code, 3, (some .int))))) else (bif Nat.ble 22 y then (bif Nat.ble 24 y then (bif Nat.ble 25 y then (bif Nat.ble 26 y then (⟨"TurnBoards$Group", "alikeWithAll", "()I"⟩, prog_4_method_17_code, 3, (some .int)) else (⟨"TurnBoards$Group", "alikeWith", "(I)I"⟩, prog_4_method_16_code, 4, (some .int))) else (⟨"TurnBoards$Group", "classesMany", "()I"⟩, prog_4_method_15_code, 3, (some .int))) else (bif Nat.ble 23 y then (⟨"TurnBoards$Group", "classSize", "(I)I"⟩, prog_4_method_14_code, 4, (some .int)) else (⟨"TurnBoards$Group", "orderOf", "(I)I"⟩, prog_4_method_13_code, 4, (some .int)))) else (bif Nat.ble 20 y then (bif Nat.ble 21 y then (⟨"TurnBoards$Group", "findClass", "(I)I"⟩, prog_4_method_12_code, 4, (some .int)) else (⟨"TurnBoards$Group", "findBack", "(I)I"⟩, prog_4_method_11_code, 3, (some .int))) else (bif Nat.ble 19 y then (⟨"TurnBoards$Group", "product", "(II)I"⟩, prog_4_method_10_code, 3, (some .int)) else (⟨"TurnBoards$Group", "adopt", "(I)V"⟩, prog_4_method_9_code, 3, none))))) else (bif Nat.ble 9 y then (bif Nat.ble 13 y then (bif Nat.ble 15 y then (bif Nat.ble 16 y then (bif Nat.ble 17 y then (⟨"TurnBoards$Group", "draftJoinFault", "(I)I"⟩, prog_4_method_8_code, 5, (some .int)) else (⟨"TurnBoards$Group", "draftHasBack", "(II)Z"⟩, prog_4_method_7_code, 4, (some .boolean))) else (⟨"TurnBoards$Group", "drafted", "(II)I"⟩, prog_4_method_6_code, 3, (some .int))) else (bif Nat.ble 14 y then (⟨"TurnBoards$Group", "draftFault", "(I)I"⟩, prog_4_method_5_code, 3, (some .int)) else (⟨"TurnBoards$Group", "draftCrossed", "()V"⟩, prog_4_method_4_code, 4, none))) else (bif Nat.ble 11 y then (bif Nat.ble 12 y then (⟨"TurnBoards$Group", "draftFlips", "(I)V"⟩, prog_4_method_3_code, 6, none) else (⟨"TurnBoards$Group", "draftRing", "(I)V"⟩, prog_4_method_2_code, 4, none)) else (bif Nat.ble 10 y then (⟨"TurnBoards$Board", "turnPoints", "(LTurnBoards$Group;)I"⟩, prog_3_method_9_code, 6, (some .int)) else (⟨"TurnBoards$Board", "reachAlong", "(ILTurnBoards$Group;)V"⟩, prog_3_method_8_code, 6, none)))) else (bif Nat.ble 4 y then (bif Nat.ble 6 y then (bif Nat.ble 7 y then (bif Nat.ble 8 y then (⟨"TurnBoards$Board", "shiftToStill", "(LTurnBoards$Group;)V"⟩, prog_3_method_7_code, 4, none) else (⟨"TurnBoards$Board", "shiftOnly", "(II)V"⟩, prog_3_method_6_code, 4, none)) else (⟨"TurnBoards$Board", "clearTurns", "()V"⟩, prog_3_method_5_code, 2, none)) else (bif Nat.ble 5 y then (⟨"TurnBoards$Board", "joinParts", "(II)V"⟩, prog_3_method_4_code, 5, none) else (⟨"TurnBoards$Board", "addLine", "(II)I"⟩, prog_3_method_3_code, 3, (some .int)))) else (bif Nat.ble 2 y then (bif Nat.ble 3 y then (⟨"TurnBoards$Board", "addPoint", "()I"⟩, prog_3_method_2_code, 1, (some .int)) else (⟨"TurnBoards$Acts", "forget", "()V"⟩, prog_2_method_4_code, 1, none)) else (bif Nat.ble 1 y then (⟨"TurnBoards$Acts", "giveBack", "([I)Z"⟩, prog_2_method_3_code, 2, (some .boolean)) else (⟨"TurnBoards$Acts", "keep", "([I)V"⟩, prog_2_method_2_code, 2, none))))))))
abbrev pm_nm (y : Nat) : MethodName := (pm_md y).1
abbrev pm_cc (y : Nat) : ByteArray := (pm_md y).2.1
abbrev pm_nl (y : Nat) : Nat := (pm_md y).2.2.1
abbrev pm_rty (y : Nat) : Option FieldType := (pm_md y).2.2.2
def pm_rs : Nat → List Bool := fun c => (bif Nat.ble 4 c then (bif Nat.ble 6 c then (bif Nat.ble 7 c then [false, true, true, false, false, true, true, true, false, true, true, true, true, true, false, true, true, true, true, true, true, true, true, true, true, true, true] else [true, true, true, false, true, true, true]) else (bif Nat.ble 5 c then [false, false, false, false, true, true] else [true, true, true, true, true, true])) else (bif Nat.ble 2 c then (bif Nat.ble 3 c then [false, false, false, true] else [false, true, true, true, true, true]) else (bif Nat.ble 1 c then [false, false, false, true, true, true, true, true, true, true] else [false, false, true])))
/-- the tables' words that hold at every later state too -/
def pm_TB : List Cond := lw_tbl.filter goodWord
theorem pm_TB_good : ∀ w ∈ pm_TB, (w.onTables && w.keeps) = true ∨ ∃ ty, w = .arrayClass ty := fun w h => good_of_word (List.mem_filter.mp h).2
theorem pm_TB_at {w : Cond} (n : Nat) (h : lw_tbl[n]? = some w) (hg : goodWord w = true) : w ∈ pm_TB := List.mem_filter.mpr ⟨List.mem_of_getElem? h, hg⟩
end
section
/-! WHAT THE PURE MACHINE HAS TO DO WITH THE MACHINE -/
theorem pm_toInt {a : Int} (h : pm_r32 a) : (Int32.ofInt a).toInt = a := Int32.toInt_ofInt_of_le (by omega) (by omega)
theorem pm_toInt64 {a : Int} (h : pm_r64 a) : (Int64.ofInt a).toInt = a := Int64.toInt_ofInt_of_le (by omega) (by omega)
theorem pm_w64_of (a : Int) : Int64.ofInt (pm_w64 a) = Int64.ofInt a := by
  apply Int64.toInt_inj.mp
  rw [Int64.toInt_ofInt, Int64.toInt_ofInt]
  unfold pm_w64
  exact Int.bmod_bmod
theorem pm_i2l_of {a : Int} (h : pm_r32 a) : (Int32.ofInt a).toInt64 = Int64.ofInt a := by
  apply Int64.toInt_inj.mp
  rw [Int32.toInt_toInt64, pm_toInt h, pm_toInt64 (by omega)]
theorem pm_w64_r (a : Int) : pm_r64 (pm_w64 a) := by
  unfold pm_w64 pm_r64
  have h1 := Int.le_bmod (x := a) (m := 18446744073709551616) (by decide)
  have h2 := Int.bmod_lt (x := a) (m := 18446744073709551616) (by decide)
  omega
theorem pm_clamp {a : Int} (h : pm_r32 a) : (Int32.ofInt a).toNatClampNeg = a.toNat := by
  rw [← Int32.toNat_toInt, pm_toInt h]
theorem pm_lt {a b : Int} (ha : pm_r32 a) (hb : pm_r32 b) : Int32.ofInt a < Int32.ofInt b ↔ a < b := by
  rw [Int32.lt_iff_toInt_lt, pm_toInt ha, pm_toInt hb]
theorem pm_lt0 {a : Int} (ha : pm_r32 a) : Int32.ofInt a < 0 ↔ a < 0 := pm_lt (b := 0) ha (by omega)
theorem pm_gt0 {a : Int} (ha : pm_r32 a) : 0 < Int32.ofInt a ↔ 0 < a := pm_lt (a := 0) (by omega) ha
theorem pm_eq {a b : Int} (ha : pm_r32 a) (hb : pm_r32 b) : Int32.ofInt a = Int32.ofInt b ↔ a = b := by
  rw [← Int32.toInt_inj, pm_toInt ha, pm_toInt hb]
theorem pm_eq0 {a : Int} (ha : pm_r32 a) : Int32.ofInt a = 0 ↔ a = 0 := pm_eq (b := 0) ha (by omega)
theorem pm_in {i : Int} {n : Int} (hi : pm_r32 i) (h : 0 ≤ i ∧ i < n) : vp_in (Int32.ofInt i) n.toNat := by
  unfold vp_in
  rw [pm_lt0 hi, pm_clamp hi]
  omega
theorem pm_tdiv {a b : Int} (ha : 0 ≤ a) (hb : 0 < b) : a.tdiv b = a / b := Int.tdiv_eq_ediv_of_nonneg ha
theorem pm_idiv {a b : Int} (ha : pm_r32 a) (hb : pm_r32 b) (h : 0 ≤ a ∧ 0 < b) : Int32.ofInt a / Int32.ofInt b = Int32.ofInt (a / b) := by
  rw [← pm_tdiv h.1 h.2]
  exact (Int32.ofInt_tdiv ha.1 ha.2 hb.1 hb.2).symm
theorem pm_irem {a b : Int} (ha : pm_r32 a) (hb : pm_r32 b) (h : 0 ≤ a ∧ 0 < b) : Int32.ofInt a - Int32.ofInt a / Int32.ofInt b * Int32.ofInt b = Int32.ofInt (a % b) := by
  rw [pm_idiv ha hb h, ← Int32.ofInt_mul, ← Int32.ofInt_sub, Int.emod_def, Int.mul_comm (a / b) b]
theorem pm_ldiv {a b : Int} (ha : pm_r64 a) (hb : pm_r64 b) (h : 0 ≤ a ∧ 0 < b) : Int64.ofInt a / Int64.ofInt b = Int64.ofInt (a / b) := by
  rw [← pm_tdiv h.1 h.2]
  exact (Int64.ofInt_tdiv ha.1 ha.2 hb.1 hb.2).symm
theorem pm_lrem {a b : Int} (ha : pm_r64 a) (hb : pm_r64 b) (h : 0 ≤ a ∧ 0 < b) : Int64.ofInt a - Int64.ofInt a / Int64.ofInt b * Int64.ofInt b = Int64.ofInt (a % b) := by
  rw [pm_ldiv ha hb h, ← Int64.ofInt_mul, ← Int64.ofInt_sub, Int.emod_def, Int.mul_comm (a / b) b]
theorem pm_div_r {a b : Int} (h : 0 ≤ a ∧ 0 < b) : 0 ≤ a / b ∧ a / b ≤ a := ⟨Int.ediv_nonneg h.1 (by omega), Int.ediv_le_self b h.1⟩
theorem pm_mod_r {a b : Int} (h : 0 ≤ a ∧ 0 < b) : 0 ≤ a % b ∧ a % b < b := ⟨Int.emod_nonneg a (by omega), Int.emod_lt_of_pos a h.2⟩
theorem pm_toI (x : Int32) : Int32.ofInt x.toInt = x := Int32.ofInt_toInt x
theorem pm_toI_r (x : Int32) : pm_r32 x.toInt := ⟨Int32.le_toInt x, by have := Int32.toInt_lt x; omega⟩
/-- the world: the classes' numbers, those of the arrays' classes, the addresses, where the new cells begin, how many there are -/
abbrev pm_TH : Type := va_G × (ClassId × ClassId × ClassId × ClassId × ClassId) × (Nat → Nat) × Nat × Nat
abbrev pm_D (θ : pm_TH) : va_G := θ.1
abbrev pm_as (θ : pm_TH) : Nat → Nat := θ.2.2.1
abbrev pm_bs (θ : pm_TH) : Nat := θ.2.2.2.1
abbrev pm_nn (θ : pm_TH) : Nat := θ.2.2.2.2
abbrev pm_tys (θ : pm_TH) : List (ClassId × FieldType) := [(θ.2.1.1, .int), (θ.2.1.2.1, .boolean), (θ.2.1.2.2.1, .object RX3), (θ.2.1.2.2.2.1, .object RX5), (θ.2.1.2.2.2.2, .array .int)]
abbrev pm_A (θ : pm_TH) : Nat → Prop := fun q => pm_bs θ ≤ q
def pm_ra (θ : pm_TH) (q : Nat) : Option Nat := if q = 0 then none else some (pm_as θ q)
def pm_tv (θ : pm_TH) : pm_V → Value
  | .inl n => .int (Int32.ofInt n)
  | .inr (.inl x) => .long (Int64.ofInt x)
  | .inr (.inr q) => va_rf (pm_ra θ q)
def pm_ok : pm_V → Prop
  | .inl n => pm_r32 n
  | .inr (.inl x) => pm_r64 x
  | .inr (.inr _) => True
theorem pm_tv_ref (θ : pm_TH) {q : Nat} (h : q ≠ 0) : pm_tv θ (.inr (.inr q)) = .ref (pm_as θ q) := by
  simp [pm_tv, pm_ra, h, va_rf]
def pm_fl (θ : pm_TH) (env : pm_E) (I : pm_I) (r : Nat) : List Value := (pm_rs (env.1 r)).mapIdx (fun j b => bif b then va_rf (pm_ra θ (env.2.2.1 r j)) else .int (Int32.ofInt (I r j)))
def pm_cell (θ : pm_TH) (env : pm_E) (I : pm_I) (r : Nat) : va_E :=
  if env.1 r = 8 then .inl (θ.2.1.1, (env.2.1 r).toNat, .inl (fun j => Int32.ofInt (I r j)))
  else if env.1 r = 9 then .inl (θ.2.1.2.1, (env.2.1 r).toNat, .inl (fun j => Int32.ofInt (I r j)))
  else if env.1 r = 10 then .inl (θ.2.1.2.2.1, (env.2.1 r).toNat, .inr (.inr (.inr (.inr (fun j => pm_ra θ (env.2.2.1 r j))))))
  else if env.1 r = 11 then .inl (θ.2.1.2.2.2.1, (env.2.1 r).toNat, .inr (.inr (.inr (.inr (fun j => pm_ra θ (env.2.2.1 r j))))))
  else if env.1 r = 12 then .inl (θ.2.1.2.2.2.2, (env.2.1 r).toNat, .inr (.inr (.inr (.inr (fun j => pm_ra θ (env.2.2.1 r j))))))
  else .inr (env.1 r, pm_fl θ env I r)
def pm_ws (θ : pm_TH) (env : pm_E) (I : pm_I) : va_W := (List.range (pm_nn θ)).map (fun i => (pm_as θ (i + 3), pm_cell θ env I (i + 3)))
theorem pm_ws_at (θ : pm_TH) (env : pm_E) (I : pm_I) {r : Nat} (h : 3 ≤ r ∧ r < pm_nn θ + 3) : (pm_ws θ env I)[r - 3]? = some (pm_as θ r, pm_cell θ env I r) := by
  unfold pm_ws
  rw [List.getElem?_map, List.getElem?_range (by omega)]
  simp only [Option.map_some, show r - 3 + 3 = r by omega]
theorem pm_cell_off (θ : pm_TH) (env : pm_E) {I I' : pm_I} {r : Nat} (h : ∀ j, I' r j = I r j) : pm_cell θ env I' r = pm_cell θ env I r := by
  simp only [pm_cell, pm_fl, h]
theorem pm_ws_set (θ : pm_TH) (env : pm_E) {I I' : pm_I} {r : Nat} {e : va_E} (h : 3 ≤ r ∧ r < pm_nn θ + 3) (ho : ∀ q, q ≠ r → ∀ j, I' q j = I q j) (he : pm_cell θ env I' r = e) : (pm_ws θ env I).set (r - 3) (pm_as θ r, e) = pm_ws θ env I' := by
  apply List.ext_getElem?
  intro k
  by_cases hk : k = r - 3
  · subst hk
    rw [pm_ws_at θ env I' h, List.getElem?_set_self (by unfold pm_ws; rw [List.length_map, List.length_range]; omega), he]
  · rw [List.getElem?_set_ne (fun q => hk q.symm)]
    unfold pm_ws
    rw [List.getElem?_map, List.getElem?_map]
    by_cases hn : k < pm_nn θ
    · rw [List.getElem?_range hn]
      simp only [Option.map_some]
      rw [pm_cell_off θ env (ho (k + 3) (by omega))]
    · rw [List.getElem?_eq_none (by rw [List.length_range]; omega)]
      rfl
def pm_PR (θ : pm_TH) (env : pm_E) (I : pm_I) (H : Heap) : Prop := va_P (pm_D θ) vwCl (pm_ws θ env I) H ∧ va_D (pm_A θ) (pm_ws θ env I) ∧ ∀ r j, pm_r32 (I r j)
/-- the kinds are told of cells alone; lengths and what stands outside are ints -/
def pm_EW (θ : pm_TH) (env : pm_E) : Prop := (∀ r, env.1 r ≤ 12 → 3 ≤ r ∧ r < pm_nn θ + 3) ∧ (∀ r, pm_r32 (env.2.1 r) ∧ 0 ≤ env.2.1 r) ∧ (∀ r, env.1 r = 50 → r ≠ 0) ∧ ∀ r j, env.1 r = 50 → pm_r32 (env.2.2.2 r j)
/-- what stands outside the world -/
def pm_XC (θ : pm_TH) (env : pm_E) (s : State) (H : Heap) : Prop := (∀ r, env.1 r = 50 → pm_as θ r < pm_bs θ ∧ va_X (pm_as θ r) (env.2.1 r).toNat (fun j => Int32.ofInt (env.2.2.2 r j)) s H) ∧ va_Z RX2 "UNITS" "[I" (.ref (pm_as θ 1)) (pm_A θ) s H ∧ va_Nw (.methodLinkNest RX6 304 ⟨RX4, "sumFrom", "(IJLTurnBoards$Sums;[LTurnBoards$Walk;ILTurnBoards$Group;)J"⟩ "TurnBoards") s
theorem pm_XC.moved {θ : pm_TH} {env : pm_E} {s U : State} {H : Heap} (hW : s.WarmedH U.vm) (h : pm_XC θ env s H) : pm_XC θ env U H := ⟨fun r hr => ⟨(h.1 r hr).1, (h.1 r hr).2.moved hW.alike⟩, h.2.1.moved hW.alike, h.2.2.warmM hW⟩
theorem pm_XC.kept {θ : pm_TH} {env : pm_E} {s : State} {H H1 : Heap} {locs : List Loc} (hb : pm_bs θ ≤ H.size) (hS : va_S (pm_A θ) H H1 locs) (h : pm_XC θ env s H) : pm_XC θ env s H1 :=
  ⟨fun r hr => ⟨(h.1 r hr).1, (h.1 r hr).2.kept (hS.2.1 _ (Nat.lt_of_lt_of_le (h.1 r hr).1 hb) (fun q => absurd (h.1 r hr).1 (Nat.not_lt.mpr q)))⟩, h.2.1.kept (fun a ha hq => hS.2.1 a ha hq), h.2.2⟩
def pm_en (θ : pm_TH) (lo : pm_L) : List (Nat × Value) := (List.range lo.length).filterMap (fun j => (pm_at lo j).map (fun v => (j, pm_tv θ v)))
theorem pm_at_lt : ∀ {lo : pm_L} {j : Nat} {v : pm_V}, pm_at lo j = some v → j < lo.length
  | [], _, _, h => by cases h
  | a :: t, 0, _, _ => by simp
  | a :: t, n + 1, v, h => by
    have := pm_at_lt (lo := t) (j := n) (v := v) h
    simp; omega
theorem pm_en_mem {θ : pm_TH} {lo : pm_L} {q : Nat × Value} : q ∈ pm_en θ lo ↔ ∃ v, pm_at lo q.1 = some v ∧ q.2 = pm_tv θ v := by
  unfold pm_en
  rw [List.mem_filterMap]
  constructor
  · rintro ⟨j, -, h⟩
    obtain ⟨v, h1, h2⟩ := Option.map_eq_some_iff.mp h
    subst h2
    exact ⟨v, h1, rfl⟩
  · rintro ⟨v, h1, h2⟩
    refine ⟨q.1, List.mem_range.mpr (pm_at_lt h1), ?_⟩
    rw [h1, Option.map_some, ← h2]
def pm_LR (θ : pm_TH) (lo : pm_L) (ls : Array Slot) (nL : Nat) : Prop := lv_has ls nL (pm_en θ lo) ∧ ∀ j v, pm_at lo j = some v → pm_ok v
theorem pm_LR.get {θ : pm_TH} {lo : pm_L} {ls : Array Slot} {nL : Nat} (h : pm_LR θ lo ls nL) {j : Nat} {v : pm_V} (hv : pm_at lo j = some v) : ls[j]? = some (.val (pm_tv θ v)) := h.1.2.2 (j, pm_tv θ v) (pm_en_mem.mpr ⟨v, hv, rfl⟩)
theorem pm_LR.mono {θ : pm_TH} {lo lo' : pm_L} {ls : Array Slot} {nL : Nat} (h : pm_LR θ lo ls nL) (hs : ∀ j v, pm_at lo' j = some v → pm_at lo j = some v) : pm_LR θ lo' ls nL :=
  ⟨⟨h.1.1, h.1.2.1, fun q hq => by
    obtain ⟨v, h1, h2⟩ := pm_en_mem.mp hq
    rw [h2]
    exact h.get (hs _ _ h1)⟩, fun j v hv => h.2 j v (hs j v hv)⟩
theorem pm_st1_at : ∀ {lo : pm_L} {i j : Nat} {v u : pm_V}, pm_at (pm_st1 lo i v) j = some u → (j = i ∧ u = v) ∨ (j ≠ i ∧ pm_at lo j = some u ∧ ¬ (j + 1 = i ∧ pm_lg (some u) = true))
  | [], _, _, _, _, h => by cases h
  | a :: t, 0, 0, v, u, h => by cases h; exact Or.inl ⟨rfl, rfl⟩
  | a :: t, 0, j + 1, v, u, h => Or.inr ⟨by omega, h, by omega⟩
  | a :: t, n + 1, 0, v, u, h => by
    have h1 : (bif (Nat.beq n 0 && pm_lg a) then none else a) = some u := h
    cases hc : (Nat.beq n 0 && pm_lg a) with
    | true => rw [hc] at h1; cases h1
    | false =>
      rw [hc] at h1
      have h2 : a = some u := h1
      subst h2
      refine Or.inr ⟨by omega, rfl, fun q => ?_⟩
      have : n = 0 := by omega
      subst this
      rw [q.2] at hc
      cases hc
  | a :: t, n + 1, j + 1, v, u, h => by
    have h1 : pm_at (pm_st1 t n v) j = some u := h
    rcases pm_st1_at h1 with ⟨e1, e2⟩ | ⟨e1, e2, e3⟩
    · exact Or.inl ⟨by omega, e2⟩
    · exact Or.inr ⟨by omega, e2, fun q => e3 ⟨by omega, q.2⟩⟩
theorem pm_cl0_at {t : pm_L} {j : Nat} {u : pm_V} (h : pm_at (pm_cl0 t) j = some u) : j ≠ 0 ∧ pm_at t j = some u := by
  cases t with
  | nil => cases h
  | cons a t =>
    cases j with
    | zero => cases h
    | succ j => exact ⟨by omega, h⟩
theorem pm_st2_at : ∀ {lo : pm_L} {i j : Nat} {v u : pm_V}, pm_at (pm_st2 lo i v) j = some u → (j = i ∧ u = v) ∨ (j ≠ i ∧ j ≠ i + 1 ∧ pm_at lo j = some u ∧ ¬ (j + 1 = i ∧ pm_lg (some u) = true))
  | [], _, _, _, _, h => by cases h
  | a :: t, 0, 0, v, u, h => by cases h; exact Or.inl ⟨rfl, rfl⟩
  | a :: t, 0, j + 1, v, u, h => by
    obtain ⟨h1, h2⟩ := pm_cl0_at (t := t) (j := j) h
    exact Or.inr ⟨by omega, by omega, h2, by omega⟩
  | a :: t, n + 1, 0, v, u, h => by
    have h1 : (bif (Nat.beq n 0 && pm_lg a) then none else a) = some u := h
    cases hc : (Nat.beq n 0 && pm_lg a) with
    | true => rw [hc] at h1; cases h1
    | false =>
      rw [hc] at h1
      have h2 : a = some u := h1
      subst h2
      refine Or.inr ⟨by omega, by omega, rfl, fun q => ?_⟩
      have : n = 0 := by omega
      subst this
      rw [q.2] at hc
      cases hc
  | a :: t, n + 1, j + 1, v, u, h => by
    have h1 : pm_at (pm_st2 t n v) j = some u := h
    rcases pm_st2_at h1 with ⟨e1, e2⟩ | ⟨e1, e4, e2, e3⟩
    · exact Or.inl ⟨by omega, e2⟩
    · exact Or.inr ⟨by omega, by omega, e2, fun q => e3 ⟨by omega, q.2⟩⟩
theorem pm_cat (θ : pm_TH) (v : pm_V) : ((pm_tv θ v).category == 2) = pm_lg (some v) := by
  rcases v with n | x | q
  · rfl
  · rfl
  · simp only [pm_tv, pm_ra, pm_lg]
    by_cases h : q = 0 <;> simp [h, va_rf, Value.category]
theorem pm_LR.st1 {θ : pm_TH} {lo : pm_L} {ls ls2 : Array Slot} {nL i : Nat} {v : pm_V} (h : pm_LR θ lo ls nL) (hv : pm_ok v) (hh : lv_has ls2 nL ((i, pm_tv θ v) :: (pm_en θ lo).filter (fun q => !(q.1 == i) && !(q.1 + 1 == i && q.2.category == 2)))) : pm_LR θ (pm_st1 lo i v) ls2 nL := by
  refine ⟨⟨hh.1, hh.2.1, fun q hq => ?_⟩, fun j u hu => ?_⟩
  · obtain ⟨u, h1, h2⟩ := pm_en_mem.mp hq
    refine hh.2.2 q ?_
    rcases pm_st1_at h1 with ⟨e1, e2⟩ | ⟨e1, e2, e3⟩
    · subst e2
      rw [← e1, ← h2]
      exact List.mem_cons_self
    · refine List.mem_cons_of_mem _ (List.mem_filter.mpr ⟨pm_en_mem.mpr ⟨u, e2, h2⟩, ?_⟩)
      rw [h2, pm_cat]
      simp only [Bool.and_eq_true, Bool.not_eq_true', beq_eq_false_iff_ne, ne_eq, Bool.and_eq_false_iff, beq_eq_false_iff_ne]
      refine ⟨e1, ?_⟩
      by_cases q1 : q.1 + 1 = i
      · exact Or.inr (by cases hc : pm_lg (some u) with | true => exact absurd ⟨q1, hc⟩ e3 | false => rfl)
      · exact Or.inl q1
  · rcases pm_st1_at hu with ⟨e1, e2⟩ | ⟨e1, e2, e3⟩
    · rw [e2]; exact hv
    · exact h.2 _ _ e2
theorem pm_LR.st2 {θ : pm_TH} {lo : pm_L} {ls ls2 : Array Slot} {nL i : Nat} {v : pm_V} (h : pm_LR θ lo ls nL) (hv : pm_ok v) (hh : lv_has ls2 nL ((i, pm_tv θ v) :: (pm_en θ lo).filter (fun q => !(q.1 == i) && (!(q.1 == i + 1) && !(q.1 + 1 == i && q.2.category == 2))))) : pm_LR θ (pm_st2 lo i v) ls2 nL := by
  refine ⟨⟨hh.1, hh.2.1, fun q hq => ?_⟩, fun j u hu => ?_⟩
  · obtain ⟨u, h1, h2⟩ := pm_en_mem.mp hq
    refine hh.2.2 q ?_
    rcases pm_st2_at h1 with ⟨e1, e2⟩ | ⟨e1, e4, e2, e3⟩
    · subst e2
      rw [← e1, ← h2]
      exact List.mem_cons_self
    · refine List.mem_cons_of_mem _ (List.mem_filter.mpr ⟨pm_en_mem.mpr ⟨u, e2, h2⟩, ?_⟩)
      rw [h2, pm_cat]
      simp only [Bool.and_eq_true, Bool.not_eq_true', beq_eq_false_iff_ne, ne_eq, Bool.and_eq_false_iff, beq_eq_false_iff_ne]
      refine ⟨e1, e4, ?_⟩
      by_cases q1 : q.1 + 1 = i
      · exact Or.inr (by cases hc : pm_lg (some u) with | true => exact absurd ⟨q1, hc⟩ e3 | false => rfl)
      · exact Or.inl q1
  · rcases pm_st2_at hu with ⟨e1, e2⟩ | ⟨e1, e4, e2, e3⟩
    · rw [e2]; exact hv
    · exact h.2 _ _ e2
theorem pm_msk_at : ∀ {bs : List Bool} {lo : pm_L} {j : Nat} {v : pm_V}, pm_at (pm_msk bs lo) j = some v → pm_at lo j = some v
  | [], _, _, _, h => h
  | _ :: _, [], _, _, h => h
  | true :: _, _ :: _, 0, _, h => h
  | false :: _, _ :: _, 0, _, h => by cases h
  | _ :: bs, _ :: t, j + 1, _, h => pm_msk_at (bs := bs) (lo := t) (j := j) h
end
section
/-! EACH INSTRUCTION OF THE PURE MACHINE IS THE MACHINE'S -/
def pm_rok (y : Nat) (r : Int) : Prop := match pm_rty y with
  | some .boolean => r = 0 ∨ r = 1
  | some .long => pm_r64 r
  | _ => pm_r32 r
def pm_rv (y : Nat) (r : Int) : List Value := match pm_rty y with
  | none => []
  | some .long => [.long (Int64.ofInt r)]
  | some _ => [.int (Int32.ofInt r)]
abbrev pm_Cx (θ : pm_TH) (env : pm_E) (y d : Nat) (p : Program) (RM : Room) (s : State) (m : MethodId) (args : Array Value) (c : Code) (cells slots : Nat) : Prop :=
  p.tables.exec = Jvm.exec ∧ c.code = pm_cc y ∧ c.maxLocals = pm_nl y ∧ (∀ w ∈ pm_TB, w.before args s = true) ∧ s.vm.findClass (pm_nm y).cls = some m.cls ∧ va_K (pm_D θ) vwCl (pm_tys θ) s ∧ (d ≤ RM.frames ∧ 60 * d ≤ RM.locals) ∧ (cells ≤ RM.cells ∧ slots ≤ RM.slots) ∧ pm_bs θ ≤ s.heap.size ∧ pm_XC θ env s s.heap
/-- the way back of a method -/
def pm_RH (θ : pm_TH) (l : Launch) (env : pm_E) (y : Nat) (res : Int × pm_I) (p : Program) (e : Env) (RM : Room) (s : State) (m : MethodId) (args : Array Value) (below : List Frame) (meth : Method) (c : Code) (cells slots : Nat) (Q : State → Prop) : Prop :=
  ∀ (pc : Nat) (ls : Array Slot) (H : Heap) (locs : List Loc), pm_PR θ env res.2 H → va_S (pm_A θ) s.heap H locs → pm_rok y res.1 → decode (pm_cc y) pc = .ok (match pm_rty y with | none => .return_ | some .long => .lreturn | some _ => .ireturn, 1) →
    W p l e RM s m args below meth c H locs cells slots Q (F0 m pc ls (pm_rv y res.1))
def pm_W (θ : pm_TH) (l : Launch) (env : pm_E) (y d pc : Nat) (lo : pm_L) (sk : List pm_V) (I : pm_I) (res : Int × pm_I) : Prop :=
  ∀ (p : Program) (e : Env) (RM : Room) (s : State) (m : MethodId) (args : Array Value) (below : List Frame) (meth : Method) (c : Code) (cells slots : Nat) (Q : State → Prop), pm_Cx θ env y d p RM s m args c cells slots →
    ∀ (H : Heap) (locs : List Loc) (ls : Array Slot), pm_PR θ env I H → va_S (pm_A θ) s.heap H locs → pm_LR θ lo ls (pm_nl y) → (∀ v ∈ sk, pm_ok v) → pm_RH θ l env y res p e RM s m args below meth c cells slots Q →
      W p l e RM s m args below meth c H locs cells slots Q (F0 m pc ls (sk.map (pm_tv θ)))
def pm_Gd (θ : pm_TH) (l : Launch) (env : pm_E) (G : pm_G) : Prop := ∀ y d pc lo sk I res, G y d pc lo sk I = some res → pm_W θ l env y d pc lo sk I res
def pm_Sd (θ : pm_TH) (l : Launch) (env : pm_E) (y pc : Nat) (σ : pm_S) : Prop := ∀ G, pm_Gd θ l env G → ∀ d lo sk I res, σ env G y d lo sk I = some res → pm_W θ l env y d pc lo sk I res
theorem pm_okc {v : pm_V} {sk : List pm_V} (h : pm_ok v) (hs : ∀ u ∈ sk, pm_ok u) : ∀ u ∈ v :: sk, pm_ok u := List.forall_mem_cons.mpr ⟨h, hs⟩
section ROWS
variable {θ : pm_TH} {l : Launch} {env : pm_E} {y pc nx tg : Nat}
theorem k_bad : pm_Sd θ l env y pc s_bad := fun _ _ _ _ _ _ _ h => by cases h
theorem k_K {h : Nat} {ks : List Bool} {σ : pm_S} (hs : pm_Sd θ l env y pc σ) : pm_Sd θ l env y pc (s_K h ks σ) := by
  intro G hG d lo sk I res hr
  refine hs _ ?_ d lo sk I res hr
  intro y' d' pc' lo' sk' I' res' h'
  dsimp only at h'
  cases hc : Nat.beq pc' h with
  | false => rw [hc] at h'; exact hG _ _ _ _ _ _ _ h'
  | true =>
    rw [hc] at h'
    intro p e RM s m args below meth c cells slots Q C H locs ls hP hS hL hk hR
    exact hG _ _ _ _ _ _ _ h' p e RM s m args below meth c cells slots Q C H locs ls hP hS (hL.mono (fun _ _ => pm_msk_at)) hk hR
theorem k_iconst {n : Int} (hd : decode (pm_cc y) pc = .ok (.iconst n, 1)) (hn : pc + 1 = nx) (hr : pm_r32 n) : pm_Sd θ l env y pc (s_push n nx) := by
  intro G hG d lo sk I res h
  subst hn
  intro p e RM s m args below meth c cells slots Q C H locs ls hP hS hL hk hR
  exact lv_iconst C.1 C.2.1 hd rfl (hG _ _ _ _ _ _ _ h p e RM s m args below meth c cells slots Q C H locs ls hP hS hL (pm_okc hr hk) hR)
theorem k_bipush {n : Int} (hd : decode (pm_cc y) pc = .ok (.bipush n, 2)) (hn : pc + 2 = nx) (hr : pm_r32 n) (hv : (Int8.ofInt n).toInt32 = Int32.ofInt n) : pm_Sd θ l env y pc (s_push n nx) := by
  intro G hG d lo sk I res h
  subst hn
  intro p e RM s m args below meth c cells slots Q C H locs ls hP hS hL hk hR
  exact lv_bipush C.1 C.2.1 hd hv (hG _ _ _ _ _ _ _ h p e RM s m args below meth c cells slots Q C H locs ls hP hS hL (pm_okc hr hk) hR)
theorem k_sipush {n : Int} (hd : decode (pm_cc y) pc = .ok (.sipush n, 3)) (hn : pc + 3 = nx) (hr : pm_r32 n) (hv : (Int16.ofInt n).toInt32 = Int32.ofInt n) : pm_Sd θ l env y pc (s_push n nx) := by
  intro G hG d lo sk I res h
  subst hn
  intro p e RM s m args below meth c cells slots Q C H locs ls hP hS hL hk hR
  exact lv_sipush C.1 C.2.1 hd hv (hG _ _ _ _ _ _ _ h p e RM s m args below meth c cells slots Q C H locs ls hP hS hL (pm_okc hr hk) hR)
theorem k_lconst {n : Fin 2} {v : Int} (hd : decode (pm_cc y) pc = .ok (.lconst n, 1)) (hn : pc + 1 = nx) (hv : Int64.ofNat (n : Nat) = Int64.ofInt v) (hr : pm_r64 v) : pm_Sd θ l env y pc (s_lpush v nx) := by
  intro G hG d lo sk I res h
  subst hn
  intro p e RM s m args below meth c cells slots Q C H locs ls hP hS hL hk hR
  exact lv_lconst C.1 C.2.1 hd hv (hG _ _ _ _ _ _ _ h p e RM s m args below meth c cells slots Q C H locs ls hP hS hL (pm_okc (v := .inr (.inl v)) hr hk) hR)
theorem k_ldc2 {idx : Nat} {v : Int} (hd : decode (pm_cc y) pc = .ok (.ldc2_w idx, 3)) (hn : pc + 3 = nx) (hw : Cond.constantLong (pm_nm y).cls idx (Int64.ofInt v) ∈ pm_TB) (hr : pm_r64 v) : pm_Sd θ l env y pc (s_lpush v nx) := by
  intro G hG d lo sk I res h
  subst hn
  intro p e RM s m args below meth c cells slots Q C H locs ls hP hS hL hk hR
  exact lv_ldc2 C.1 C.2.1 C.2.2.2.2.1 (C.2.2.2.1 _ hw) hd (hG _ _ _ _ _ _ _ h p e RM s m args below meth c cells slots Q C H locs ls hP hS hL (pm_okc (v := .inr (.inl v)) hr hk) hR)
theorem k_iload_n {k : Fin 4} {i : Nat} (hd : decode (pm_cc y) pc = .ok (.iload_n k, 1)) (hi : (k : Nat) = i) (hn : pc + 1 = nx) : pm_Sd θ l env y pc (s_iload i nx) := by
  intro G hG d lo sk I res h
  subst hn
  unfold s_iload at h
  split at h
  · rename_i n hv
    intro p e RM s m args below meth c cells slots Q C H locs ls hP hS hL hk hR
    exact lv_iload_n C.1 C.2.1 hd hi (hL.get hv) (hG _ _ _ _ _ _ _ h p e RM s m args below meth c cells slots Q C H locs ls hP hS hL (pm_okc (hL.2 _ _ hv) hk) hR)
  · cases h
theorem k_iload {i : Nat} (hd : decode (pm_cc y) pc = .ok (.iload i, 2)) (hn : pc + 2 = nx) : pm_Sd θ l env y pc (s_iload i nx) := by
  intro G hG d lo sk I res h
  subst hn
  unfold s_iload at h
  split at h
  · rename_i n hv
    intro p e RM s m args below meth c cells slots Q C H locs ls hP hS hL hk hR
    exact lv_iload C.1 C.2.1 hd (hL.get hv) (hG _ _ _ _ _ _ _ h p e RM s m args below meth c cells slots Q C H locs ls hP hS hL (pm_okc (hL.2 _ _ hv) hk) hR)
  · cases h
theorem k_lload_n {k : Fin 4} {i : Nat} (hd : decode (pm_cc y) pc = .ok (.lload_n k, 1)) (hi : (k : Nat) = i) (hn : pc + 1 = nx) : pm_Sd θ l env y pc (s_lload i nx) := by
  intro G hG d lo sk I res h
  subst hn
  unfold s_lload at h
  split at h
  · rename_i n hv
    intro p e RM s m args below meth c cells slots Q C H locs ls hP hS hL hk hR
    exact lv_lload_n C.1 C.2.1 hd hi (hL.get hv) (hG _ _ _ _ _ _ _ h p e RM s m args below meth c cells slots Q C H locs ls hP hS hL (pm_okc (hL.2 _ _ hv) hk) hR)
  · cases h
theorem k_lload {i : Nat} (hd : decode (pm_cc y) pc = .ok (.lload i, 2)) (hn : pc + 2 = nx) : pm_Sd θ l env y pc (s_lload i nx) := by
  intro G hG d lo sk I res h
  subst hn
  unfold s_lload at h
  split at h
  · rename_i n hv
    intro p e RM s m args below meth c cells slots Q C H locs ls hP hS hL hk hR
    exact lv_lload C.1 C.2.1 hd (hL.get hv) (hG _ _ _ _ _ _ _ h p e RM s m args below meth c cells slots Q C H locs ls hP hS hL (pm_okc (hL.2 _ _ hv) hk) hR)
  · cases h
theorem k_aload_n {k : Fin 4} {i : Nat} (hd : decode (pm_cc y) pc = .ok (.aload_n k, 1)) (hi : (k : Nat) = i) (hn : pc + 1 = nx) : pm_Sd θ l env y pc (s_aload i nx) := by
  intro G hG d lo sk I res h
  subst hn
  unfold s_aload at h
  split at h
  · rename_i n hv
    intro p e RM s m args below meth c cells slots Q C H locs ls hP hS hL hk hR
    have g := hL.get hv
    have kk := hG _ _ _ _ _ _ _ h p e RM s m args below meth c cells slots Q C H locs ls hP hS hL (pm_okc (v := .inr (.inr n)) trivial hk) hR
    cases hn : pm_ra θ n with
    | none =>
      have e1 : pm_tv θ (.inr (.inr n)) = .null := by simp only [pm_tv, hn, va_rf]
      rw [e1] at g
      rw [List.map_cons, e1] at kk
      exact lv_aload_nN C.1 C.2.1 hd hi g kk
    | some a =>
      have e1 : pm_tv θ (.inr (.inr n)) = .ref a := by simp only [pm_tv, hn, va_rf]
      rw [e1] at g
      rw [List.map_cons, e1] at kk
      exact lv_aload_n C.1 C.2.1 hd hi g kk
  · cases h
theorem k_aload {i : Nat} (hd : decode (pm_cc y) pc = .ok (.aload i, 2)) (hn : pc + 2 = nx) : pm_Sd θ l env y pc (s_aload i nx) := by
  intro G hG d lo sk I res h
  subst hn
  unfold s_aload at h
  split at h
  · rename_i n hv
    intro p e RM s m args below meth c cells slots Q C H locs ls hP hS hL hk hR
    have g := hL.get hv
    have kk := hG _ _ _ _ _ _ _ h p e RM s m args below meth c cells slots Q C H locs ls hP hS hL (pm_okc (v := .inr (.inr n)) trivial hk) hR
    cases hn : pm_ra θ n with
    | none =>
      have e1 : pm_tv θ (.inr (.inr n)) = .null := by simp only [pm_tv, hn, va_rf]
      rw [e1] at g
      rw [List.map_cons, e1] at kk
      exact lv_aloadN C.1 C.2.1 hd g kk
    | some a =>
      have e1 : pm_tv θ (.inr (.inr n)) = .ref a := by simp only [pm_tv, hn, va_rf]
      rw [e1] at g
      rw [List.map_cons, e1] at kk
      exact lv_aload C.1 C.2.1 hd g kk
  · cases h
theorem k_istore_n {k : Fin 4} {i : Nat} (hd : decode (pm_cc y) pc = .ok (.istore_n k, 1)) (hi : (k : Nat) = i) (hn : pc + 1 = nx) (hm : i < pm_nl y) : pm_Sd θ l env y pc (s_istore i nx) := by
  intro G hG d lo sk I res h
  subst hn
  unfold s_istore at h
  split at h
  · rename_i n r
    intro p e RM s m args below meth c cells slots Q C H locs ls hP hS hL hk hR
    exact lv_istore_n C.1 C.2.1 hd hi hL.1 hm rfl (fun ls' hh => hG _ _ _ _ _ _ _ h p e RM s m args below meth c cells slots Q C H locs ls' hP hS (hL.st1 (v := .inl n) (hk (.inl n) List.mem_cons_self) hh) (fun u hu => hk u (List.mem_cons_of_mem _ hu)) hR)
  · cases h
theorem k_istore {i : Nat} (hd : decode (pm_cc y) pc = .ok (.istore i, 2)) (hn : pc + 2 = nx) (hm : i < pm_nl y) : pm_Sd θ l env y pc (s_istore i nx) := by
  intro G hG d lo sk I res h
  subst hn
  unfold s_istore at h
  split at h
  · rename_i n r
    intro p e RM s m args below meth c cells slots Q C H locs ls hP hS hL hk hR
    exact lv_istore C.1 C.2.1 hd hL.1 hm rfl (fun ls' hh => hG _ _ _ _ _ _ _ h p e RM s m args below meth c cells slots Q C H locs ls' hP hS (hL.st1 (v := .inl n) (hk (.inl n) List.mem_cons_self) hh) (fun u hu => hk u (List.mem_cons_of_mem _ hu)) hR)
  · cases h
theorem k_lstore_n {k : Fin 4} {i : Nat} (hd : decode (pm_cc y) pc = .ok (.lstore_n k, 1)) (hi : (k : Nat) = i) (hn : pc + 1 = nx) (hm : i + 1 < pm_nl y) : pm_Sd θ l env y pc (s_lstore i nx) := by
  intro G hG d lo sk I res h
  subst hn
  unfold s_lstore at h
  split at h
  · rename_i n r
    intro p e RM s m args below meth c cells slots Q C H locs ls hP hS hL hk hR
    exact lv_lstore_n C.1 C.2.1 hd hi hL.1 hm rfl (fun ls' hh => hG _ _ _ _ _ _ _ h p e RM s m args below meth c cells slots Q C H locs ls' hP hS (hL.st2 (v := .inr (.inl n)) (hk (.inr (.inl n)) List.mem_cons_self) hh) (fun u hu => hk u (List.mem_cons_of_mem _ hu)) hR)
  · cases h
theorem k_lstore {i : Nat} (hd : decode (pm_cc y) pc = .ok (.lstore i, 2)) (hn : pc + 2 = nx) (hm : i + 1 < pm_nl y) : pm_Sd θ l env y pc (s_lstore i nx) := by
  intro G hG d lo sk I res h
  subst hn
  unfold s_lstore at h
  split at h
  · rename_i n r
    intro p e RM s m args below meth c cells slots Q C H locs ls hP hS hL hk hR
    exact lv_lstore C.1 C.2.1 hd hL.1 hm rfl (fun ls' hh => hG _ _ _ _ _ _ _ h p e RM s m args below meth c cells slots Q C H locs ls' hP hS (hL.st2 (v := .inr (.inl n)) (hk (.inr (.inl n)) List.mem_cons_self) hh) (fun u hu => hk u (List.mem_cons_of_mem _ hu)) hR)
  · cases h
theorem k_astore_n {k : Fin 4} {i : Nat} (hd : decode (pm_cc y) pc = .ok (.astore_n k, 1)) (hi : (k : Nat) = i) (hn : pc + 1 = nx) (hm : i < pm_nl y) : pm_Sd θ l env y pc (s_astore i nx) := by
  intro G hG d lo sk I res h
  subst hn
  unfold s_astore at h
  split at h
  · rename_i n r
    intro p e RM s m args below meth c cells slots Q C H locs ls hP hS hL hk hR
    have kk := fun ls' hL' => hG _ _ _ _ _ _ _ h p e RM s m args below meth c cells slots Q C H locs ls' hP hS hL' (fun u hu => hk u (List.mem_cons_of_mem _ hu)) hR
    cases hn : pm_ra θ n with
    | none =>
      have e1 : pm_tv θ (.inr (.inr n)) = .null := by simp only [pm_tv, hn, va_rf]
      rw [List.map_cons, e1]
      exact lv_astore_nN C.1 C.2.1 hd hi hL.1 hm rfl (fun ls' hh => kk ls' (hL.st1 (v := .inr (.inr n)) trivial (by rw [e1]; exact hh)))
    | some a =>
      have e1 : pm_tv θ (.inr (.inr n)) = .ref a := by simp only [pm_tv, hn, va_rf]
      rw [List.map_cons, e1]
      exact lv_astore_n C.1 C.2.1 hd hi hL.1 hm rfl (fun ls' hh => kk ls' (hL.st1 (v := .inr (.inr n)) trivial (by rw [e1]; exact hh)))
  · cases h
theorem k_astore {i : Nat} (hd : decode (pm_cc y) pc = .ok (.astore i, 2)) (hn : pc + 2 = nx) (hm : i < pm_nl y) : pm_Sd θ l env y pc (s_astore i nx) := by
  intro G hG d lo sk I res h
  subst hn
  unfold s_astore at h
  split at h
  · rename_i n r
    intro p e RM s m args below meth c cells slots Q C H locs ls hP hS hL hk hR
    have kk := fun ls' hL' => hG _ _ _ _ _ _ _ h p e RM s m args below meth c cells slots Q C H locs ls' hP hS hL' (fun u hu => hk u (List.mem_cons_of_mem _ hu)) hR
    cases hn : pm_ra θ n with
    | none =>
      have e1 : pm_tv θ (.inr (.inr n)) = .null := by simp only [pm_tv, hn, va_rf]
      rw [List.map_cons, e1]
      exact lv_astoreN C.1 C.2.1 hd hL.1 hm rfl (fun ls' hh => kk ls' (hL.st1 (v := .inr (.inr n)) trivial (by rw [e1]; exact hh)))
    | some a =>
      have e1 : pm_tv θ (.inr (.inr n)) = .ref a := by simp only [pm_tv, hn, va_rf]
      rw [List.map_cons, e1]
      exact lv_astore C.1 C.2.1 hd hL.1 hm rfl (fun ls' hh => kk ls' (hL.st1 (v := .inr (.inr n)) trivial (by rw [e1]; exact hh)))
  · cases h
theorem k_iinc {i : Nat} {k : Int} (hd : decode (pm_cc y) pc = .ok (.iinc i k, 3)) (hn : pc + 3 = nx) (hm : i < pm_nl y) : pm_Sd θ l env y pc (s_iinc i k nx) := by
  intro G hG d lo sk I res h
  subst hn
  unfold s_iinc at h
  split at h
  · rename_i n hv
    split at h
    · rename_i hr
      intro p e RM s m args below meth c cells slots Q C H locs ls hP hS hL hk hR
      obtain ⟨q, hq⟩ := List.getElem?_of_mem (pm_en_mem (θ := θ) (q := (i, pm_tv θ (.inl n))).mpr ⟨_, hv, rfl⟩)
      exact lv_iinc C.1 C.2.1 hd hL.1 hq (Int32.ofInt_add n k).symm hm rfl (fun ls' hh => hG _ _ _ _ _ _ _ h p e RM s m args below meth c cells slots Q C H locs ls' hP hS (hL.st1 (v := .inl (n + k)) hr hh) hk hR)
    · cases h
  · cases h
theorem k_iadd (hd : decode (pm_cc y) pc = .ok (.iadd, 1)) (hn : pc + 1 = nx) : pm_Sd θ l env y pc (s_iadd nx) := by
  intro G hG d lo sk I res h
  subst hn
  unfold s_iadd at h
  split at h
  · rename_i b a r
    split at h
    · rename_i hr
      intro p e RM s m args below meth c cells slots Q C H locs ls hP hS hL hk hR
      have hb : pm_ok (.inl b) := hk _ List.mem_cons_self
      have ha : pm_ok (.inl a) := hk _ (List.mem_cons_of_mem _ List.mem_cons_self)
      have hk : ∀ u ∈ r, pm_ok u := fun u hu => hk u (List.mem_cons_of_mem _ (List.mem_cons_of_mem _ hu))
      have kk := hG _ _ _ _ _ _ _ h p e RM s m args below meth c cells slots Q C H locs ls hP hS hL (pm_okc (v := .inl (a + b)) (hr) hk) hR
      refine lv_iadd C.1 C.2.1 hd ?_
      rw [← Int32.ofInt_add]
      exact kk
    · cases h
  · cases h
theorem k_isub (hd : decode (pm_cc y) pc = .ok (.isub, 1)) (hn : pc + 1 = nx) : pm_Sd θ l env y pc (s_isub nx) := by
  intro G hG d lo sk I res h
  subst hn
  unfold s_isub at h
  split at h
  · rename_i b a r
    split at h
    · rename_i hr
      intro p e RM s m args below meth c cells slots Q C H locs ls hP hS hL hk hR
      have hb : pm_ok (.inl b) := hk _ List.mem_cons_self
      have ha : pm_ok (.inl a) := hk _ (List.mem_cons_of_mem _ List.mem_cons_self)
      have hk : ∀ u ∈ r, pm_ok u := fun u hu => hk u (List.mem_cons_of_mem _ (List.mem_cons_of_mem _ hu))
      have kk := hG _ _ _ _ _ _ _ h p e RM s m args below meth c cells slots Q C H locs ls hP hS hL (pm_okc (v := .inl (a - b)) (hr) hk) hR
      refine lv_isub C.1 C.2.1 hd ?_
      rw [← Int32.ofInt_sub]
      exact kk
    · cases h
  · cases h
theorem k_imul (hd : decode (pm_cc y) pc = .ok (.imul, 1)) (hn : pc + 1 = nx) : pm_Sd θ l env y pc (s_imul nx) := by
  intro G hG d lo sk I res h
  subst hn
  unfold s_imul at h
  split at h
  · rename_i b a r
    split at h
    · rename_i hr
      intro p e RM s m args below meth c cells slots Q C H locs ls hP hS hL hk hR
      have hb : pm_ok (.inl b) := hk _ List.mem_cons_self
      have ha : pm_ok (.inl a) := hk _ (List.mem_cons_of_mem _ List.mem_cons_self)
      have hk : ∀ u ∈ r, pm_ok u := fun u hu => hk u (List.mem_cons_of_mem _ (List.mem_cons_of_mem _ hu))
      have kk := hG _ _ _ _ _ _ _ h p e RM s m args below meth c cells slots Q C H locs ls hP hS hL (pm_okc (v := .inl (a * b)) (hr) hk) hR
      refine lv_imul C.1 C.2.1 hd ?_
      rw [← Int32.ofInt_mul]
      exact kk
    · cases h
  · cases h
theorem k_idiv (hd : decode (pm_cc y) pc = .ok (.idiv, 1)) (hn : pc + 1 = nx) : pm_Sd θ l env y pc (s_idiv nx) := by
  intro G hG d lo sk I res h
  subst hn
  unfold s_idiv at h
  split at h
  · rename_i b a r
    split at h
    · rename_i hr
      intro p e RM s m args below meth c cells slots Q C H locs ls hP hS hL hk hR
      have hb : pm_ok (.inl b) := hk _ List.mem_cons_self
      have ha : pm_ok (.inl a) := hk _ (List.mem_cons_of_mem _ List.mem_cons_self)
      have hk : ∀ u ∈ r, pm_ok u := fun u hu => hk u (List.mem_cons_of_mem _ (List.mem_cons_of_mem _ hu))
      have kk := hG _ _ _ _ _ _ _ h p e RM s m args below meth c cells slots Q C H locs ls hP hS hL (pm_okc (v := .inl (a / b)) (by have := pm_div_r hr; have h9 : pm_r32 a := ha; exact ⟨by omega, by omega⟩) hk) hR
      refine lv_idiv C.1 C.2.1 hd (fun q => by have := (pm_eq0 hb).mp q; omega) ?_
      rw [pm_idiv ha hb hr]
      exact kk
    · cases h
  · cases h
theorem k_irem (hd : decode (pm_cc y) pc = .ok (.irem, 1)) (hn : pc + 1 = nx) : pm_Sd θ l env y pc (s_irem nx) := by
  intro G hG d lo sk I res h
  subst hn
  unfold s_irem at h
  split at h
  · rename_i b a r
    split at h
    · rename_i hr
      intro p e RM s m args below meth c cells slots Q C H locs ls hP hS hL hk hR
      have hb : pm_ok (.inl b) := hk _ List.mem_cons_self
      have ha : pm_ok (.inl a) := hk _ (List.mem_cons_of_mem _ List.mem_cons_self)
      have hk : ∀ u ∈ r, pm_ok u := fun u hu => hk u (List.mem_cons_of_mem _ (List.mem_cons_of_mem _ hu))
      have kk := hG _ _ _ _ _ _ _ h p e RM s m args below meth c cells slots Q C H locs ls hP hS hL (pm_okc (v := .inl (a % b)) (by have := pm_mod_r hr; have h9 : pm_r32 b := hb; exact ⟨by omega, by omega⟩) hk) hR
      refine lv_irem C.1 C.2.1 hd (fun q => by have := (pm_eq0 hb).mp q; omega) ?_
      rw [pm_irem ha hb hr]
      exact kk
    · cases h
  · cases h
theorem k_iand (hd : decode (pm_cc y) pc = .ok (.iand, 1)) (hn : pc + 1 = nx) : pm_Sd θ l env y pc (s_iand nx) := by
  intro G hG d lo sk I res h
  subst hn
  unfold s_iand at h
  split at h
  · rename_i b a r
    intro p e RM s m args below meth c cells slots Q C H locs ls hP hS hL hk hR
    have hb : pm_ok (.inl b) := hk _ List.mem_cons_self
    have ha : pm_ok (.inl a) := hk _ (List.mem_cons_of_mem _ List.mem_cons_self)
    have hk : ∀ u ∈ r, pm_ok u := fun u hu => hk u (List.mem_cons_of_mem _ (List.mem_cons_of_mem _ hu))
    have kk := hG _ _ _ _ _ _ _ h p e RM s m args below meth c cells slots Q C H locs ls hP hS hL (pm_okc (v := .inl (pm_and a b)) (pm_toI_r _) hk) hR
    refine lv_iand C.1 C.2.1 hd ?_
    rw [← pm_toI (Int32.ofInt a &&& Int32.ofInt b)]
    exact kk
  · cases h
theorem k_ixor (hd : decode (pm_cc y) pc = .ok (.ixor, 1)) (hn : pc + 1 = nx) : pm_Sd θ l env y pc (s_ixor nx) := by
  intro G hG d lo sk I res h
  subst hn
  unfold s_ixor at h
  split at h
  · rename_i b a r
    intro p e RM s m args below meth c cells slots Q C H locs ls hP hS hL hk hR
    have hb : pm_ok (.inl b) := hk _ List.mem_cons_self
    have ha : pm_ok (.inl a) := hk _ (List.mem_cons_of_mem _ List.mem_cons_self)
    have hk : ∀ u ∈ r, pm_ok u := fun u hu => hk u (List.mem_cons_of_mem _ (List.mem_cons_of_mem _ hu))
    have kk := hG _ _ _ _ _ _ _ h p e RM s m args below meth c cells slots Q C H locs ls hP hS hL (pm_okc (v := .inl (pm_xor a b)) (pm_toI_r _) hk) hR
    refine lv_ixor C.1 C.2.1 hd ?_
    rw [← pm_toI (Int32.ofInt a ^^^ Int32.ofInt b)]
    exact kk
  · cases h
theorem k_ishl (hd : decode (pm_cc y) pc = .ok (.ishl, 1)) (hn : pc + 1 = nx) : pm_Sd θ l env y pc (s_ishl nx) := by
  intro G hG d lo sk I res h
  subst hn
  unfold s_ishl at h
  split at h
  · rename_i b a r
    intro p e RM s m args below meth c cells slots Q C H locs ls hP hS hL hk hR
    have hb : pm_ok (.inl b) := hk _ List.mem_cons_self
    have ha : pm_ok (.inl a) := hk _ (List.mem_cons_of_mem _ List.mem_cons_self)
    have hk : ∀ u ∈ r, pm_ok u := fun u hu => hk u (List.mem_cons_of_mem _ (List.mem_cons_of_mem _ hu))
    have kk := hG _ _ _ _ _ _ _ h p e RM s m args below meth c cells slots Q C H locs ls hP hS hL (pm_okc (v := .inl (pm_shl a b)) (pm_toI_r _) hk) hR
    refine lv_ishl C.1 C.2.1 hd ?_
    rw [← pm_toI (Int32.ofInt a <<< (Int32.ofInt b &&& 31))]
    exact kk
  · cases h
theorem k_ishr (hd : decode (pm_cc y) pc = .ok (.ishr, 1)) (hn : pc + 1 = nx) : pm_Sd θ l env y pc (s_ishr nx) := by
  intro G hG d lo sk I res h
  subst hn
  unfold s_ishr at h
  split at h
  · rename_i b a r
    intro p e RM s m args below meth c cells slots Q C H locs ls hP hS hL hk hR
    have hb : pm_ok (.inl b) := hk _ List.mem_cons_self
    have ha : pm_ok (.inl a) := hk _ (List.mem_cons_of_mem _ List.mem_cons_self)
    have hk : ∀ u ∈ r, pm_ok u := fun u hu => hk u (List.mem_cons_of_mem _ (List.mem_cons_of_mem _ hu))
    have kk := hG _ _ _ _ _ _ _ h p e RM s m args below meth c cells slots Q C H locs ls hP hS hL (pm_okc (v := .inl (pm_shr a b)) (pm_toI_r _) hk) hR
    refine lv_ishr C.1 C.2.1 hd ?_
    rw [← pm_toI (Int32.ofInt a >>> (Int32.ofInt b &&& 31))]
    exact kk
  · cases h
theorem k_i2b (hd : decode (pm_cc y) pc = .ok (.i2b, 1)) (hn : pc + 1 = nx) : pm_Sd θ l env y pc (s_i2b nx) := by
  intro G hG d lo sk I res h
  subst hn
  unfold s_i2b at h
  split at h
  · rename_i a r
    intro p e RM s m args below meth c cells slots Q C H locs ls hP hS hL hk hR
    exact lv_i2b C.1 C.2.1 hd (pm_toI _).symm (hG _ _ _ _ _ _ _ h p e RM s m args below meth c cells slots Q C H locs ls hP hS hL (pm_okc (v := .inl (pm_i2b a)) (pm_toI_r _) (fun u hu => hk u (List.mem_cons_of_mem _ hu))) hR)
  · cases h
theorem k_i2s (hd : decode (pm_cc y) pc = .ok (.i2s, 1)) (hn : pc + 1 = nx) : pm_Sd θ l env y pc (s_i2s nx) := by
  intro G hG d lo sk I res h
  subst hn
  unfold s_i2s at h
  split at h
  · rename_i a r
    intro p e RM s m args below meth c cells slots Q C H locs ls hP hS hL hk hR
    exact lv_i2s C.1 C.2.1 hd (pm_toI _).symm (hG _ _ _ _ _ _ _ h p e RM s m args below meth c cells slots Q C H locs ls hP hS hL (pm_okc (v := .inl (pm_i2s a)) (pm_toI_r _) (fun u hu => hk u (List.mem_cons_of_mem _ hu))) hR)
  · cases h
theorem k_i2l (hd : decode (pm_cc y) pc = .ok (.i2l, 1)) (hn : pc + 1 = nx) : pm_Sd θ l env y pc (s_i2l nx) := by
  intro G hG d lo sk I res h
  subst hn
  unfold s_i2l at h
  split at h
  · rename_i a r
    intro p e RM s m args below meth c cells slots Q C H locs ls hP hS hL hk hR
    have ha : pm_r32 a := hk (.inl a) List.mem_cons_self
    exact lv_i2l C.1 C.2.1 hd (pm_i2l_of ha) (hG _ _ _ _ _ _ _ h p e RM s m args below meth c cells slots Q C H locs ls hP hS hL (pm_okc (v := .inr (.inl a)) (show pm_r64 a by omega) (fun u hu => hk u (List.mem_cons_of_mem _ hu))) hR)
  · cases h
theorem pm_ne64 {b : Int} (hb : pm_r64 b) (h : 0 < b) : ¬ Int64.ofInt b = 0 := by
  intro q
  have h0 : (Int64.ofInt b).toInt = 0 := by rw [q]; rfl
  rw [pm_toInt64 hb] at h0
  omega
theorem k_ladd (hd : decode (pm_cc y) pc = .ok (.ladd, 1)) (hn : pc + 1 = nx) : pm_Sd θ l env y pc (s_ladd nx) := by
  intro G hG d lo sk I res h
  subst hn
  unfold s_ladd at h
  split at h
  · rename_i b a r
    intro p e RM s m args below meth c cells slots Q C H locs ls hP hS hL hk hR
    have hb : pm_ok (.inr (.inl b)) := hk _ List.mem_cons_self
    have ha : pm_ok (.inr (.inl a)) := hk _ (List.mem_cons_of_mem _ List.mem_cons_self)
    have hk : ∀ u ∈ r, pm_ok u := fun u hu => hk u (List.mem_cons_of_mem _ (List.mem_cons_of_mem _ hu))
    have kk := hG _ _ _ _ _ _ _ h p e RM s m args below meth c cells slots Q C H locs ls hP hS hL (pm_okc (v := .inr (.inl (pm_w64 (a + b)))) (pm_w64_r _) hk) hR
    refine lv_ladd C.1 C.2.1 hd ?_
    rw [← Int64.ofInt_add, ← pm_w64_of]
    exact kk
  · cases h
theorem k_lmul (hd : decode (pm_cc y) pc = .ok (.lmul, 1)) (hn : pc + 1 = nx) : pm_Sd θ l env y pc (s_lmul nx) := by
  intro G hG d lo sk I res h
  subst hn
  unfold s_lmul at h
  split at h
  · rename_i b a r
    intro p e RM s m args below meth c cells slots Q C H locs ls hP hS hL hk hR
    have hb : pm_ok (.inr (.inl b)) := hk _ List.mem_cons_self
    have ha : pm_ok (.inr (.inl a)) := hk _ (List.mem_cons_of_mem _ List.mem_cons_self)
    have hk : ∀ u ∈ r, pm_ok u := fun u hu => hk u (List.mem_cons_of_mem _ (List.mem_cons_of_mem _ hu))
    have kk := hG _ _ _ _ _ _ _ h p e RM s m args below meth c cells slots Q C H locs ls hP hS hL (pm_okc (v := .inr (.inl (pm_w64 (a * b)))) (pm_w64_r _) hk) hR
    refine lv_lmul C.1 C.2.1 hd ?_
    rw [← Int64.ofInt_mul, ← pm_w64_of]
    exact kk
  · cases h
theorem k_ldiv (hd : decode (pm_cc y) pc = .ok (.ldiv, 1)) (hn : pc + 1 = nx) : pm_Sd θ l env y pc (s_ldiv nx) := by
  intro G hG d lo sk I res h
  subst hn
  unfold s_ldiv at h
  split at h
  · rename_i b a r
    split at h
    · rename_i hr
      intro p e RM s m args below meth c cells slots Q C H locs ls hP hS hL hk hR
      have hb : pm_ok (.inr (.inl b)) := hk _ List.mem_cons_self
      have ha : pm_ok (.inr (.inl a)) := hk _ (List.mem_cons_of_mem _ List.mem_cons_self)
      have hk : ∀ u ∈ r, pm_ok u := fun u hu => hk u (List.mem_cons_of_mem _ (List.mem_cons_of_mem _ hu))
      have kk := hG _ _ _ _ _ _ _ h p e RM s m args below meth c cells slots Q C H locs ls hP hS hL (pm_okc (v := .inr (.inl (a / b))) (by have := pm_div_r hr; have h9 : pm_r64 a := ha; exact ⟨by omega, by omega⟩) hk) hR
      refine lv_ldiv C.1 C.2.1 hd (pm_ne64 hb hr.2) ?_
      rw [pm_ldiv ha hb hr]
      exact kk
    · cases h
  · cases h
theorem k_lrem (hd : decode (pm_cc y) pc = .ok (.lrem, 1)) (hn : pc + 1 = nx) : pm_Sd θ l env y pc (s_lrem nx) := by
  intro G hG d lo sk I res h
  subst hn
  unfold s_lrem at h
  split at h
  · rename_i b a r
    split at h
    · rename_i hr
      intro p e RM s m args below meth c cells slots Q C H locs ls hP hS hL hk hR
      have hb : pm_ok (.inr (.inl b)) := hk _ List.mem_cons_self
      have ha : pm_ok (.inr (.inl a)) := hk _ (List.mem_cons_of_mem _ List.mem_cons_self)
      have hk : ∀ u ∈ r, pm_ok u := fun u hu => hk u (List.mem_cons_of_mem _ (List.mem_cons_of_mem _ hu))
      have kk := hG _ _ _ _ _ _ _ h p e RM s m args below meth c cells slots Q C H locs ls hP hS hL (pm_okc (v := .inr (.inl (a % b))) (by have := pm_mod_r hr; have h9 : pm_r64 b := hb; exact ⟨by omega, by omega⟩) hk) hR
      refine lv_lrem C.1 C.2.1 hd (pm_ne64 hb hr.2) ?_
      rw [pm_lrem ha hb hr]
      exact kk
    · cases h
  · cases h
theorem pm_lcmp {a b : Int} (ha : pm_r64 a) (hb : pm_r64 b) : lg_cmp (Int64.ofInt a) (Int64.ofInt b) = Int32.ofInt (if b < a then 1 else if a = b then 0 else -1) := by
  unfold lg_cmp
  have e1 : (Int64.ofInt a > Int64.ofInt b) ↔ b < a := by
    show Int64.ofInt b < Int64.ofInt a ↔ _
    rw [Int64.lt_iff_toInt_lt, pm_toInt64 ha, pm_toInt64 hb]
  have e2 : (Int64.ofInt a = Int64.ofInt b) ↔ a = b := by rw [← Int64.toInt_inj, pm_toInt64 ha, pm_toInt64 hb]
  by_cases h1 : b < a
  · rw [if_pos (e1.mpr h1), if_pos h1]; rfl
  · rw [if_neg (fun q => h1 (e1.mp q)), if_neg h1]
    by_cases h2 : a = b
    · rw [if_pos (e2.mpr h2), if_pos h2]; rfl
    · rw [if_neg (fun q => h2 (e2.mp q)), if_neg h2]; rfl
theorem k_lcmp (hd : decode (pm_cc y) pc = .ok (.lcmp, 1)) (hn : pc + 1 = nx) : pm_Sd θ l env y pc (s_lcmp nx) := by
  intro G hG d lo sk I res h
  subst hn
  unfold s_lcmp at h
  split at h
  · rename_i b a r
    intro p e RM s m args below meth c cells slots Q C H locs ls hP hS hL hk hR
    have hb : pm_r64 b := hk (.inr (.inl b)) List.mem_cons_self
    have ha : pm_r64 a := hk (.inr (.inl a)) (List.mem_cons_of_mem _ List.mem_cons_self)
    have hk : ∀ u ∈ r, pm_ok u := fun u hu => hk u (List.mem_cons_of_mem _ (List.mem_cons_of_mem _ hu))
    refine W.lcmp C.1 C.2.1 hd ?_
    rw [pm_lcmp ha hb]
    by_cases h1 : b < a
    · rw [if_pos h1] at h ⊢
      exact hG _ _ _ _ _ _ _ h p e RM s m args below meth c cells slots Q C H locs ls hP hS hL (pm_okc (v := .inl 1) (show pm_r32 1 by decide) hk) hR
    · rw [if_neg h1] at h ⊢
      by_cases h2 : a = b
      · rw [if_pos h2] at h ⊢
        exact hG _ _ _ _ _ _ _ h p e RM s m args below meth c cells slots Q C H locs ls hP hS hL (pm_okc (v := .inl 0) (show pm_r32 0 by decide) hk) hR
      · rw [if_neg h2] at h ⊢
        exact hG _ _ _ _ _ _ _ h p e RM s m args below meth c cells slots Q C H locs ls hP hS hL (pm_okc (v := .inl (-1)) (show pm_r32 (-1) by decide) hk) hR
  · cases h
theorem k_dup (hd : decode (pm_cc y) pc = .ok (.dup, 1)) (hn : pc + 1 = nx) : pm_Sd θ l env y pc (s_dup nx) := by
  intro G hG d lo sk I res h
  subst hn
  unfold s_dup at h
  split at h
  · rename_i a r
    intro p e RM s m args below meth c cells slots Q C H locs ls hP hS hL hk hR
    exact lv_dup C.1 C.2.1 hd rfl (hG _ _ _ _ _ _ _ h p e RM s m args below meth c cells slots Q C H locs ls hP hS hL (pm_okc (hk _ List.mem_cons_self) hk) hR)
  · rename_i a r
    intro p e RM s m args below meth c cells slots Q C H locs ls hP hS hL hk hR
    refine lv_dup C.1 C.2.1 hd ?_ (hG _ _ _ _ _ _ _ h p e RM s m args below meth c cells slots Q C H locs ls hP hS hL (pm_okc (v := .inr (.inr a)) trivial hk) hR)
    show (va_rf (pm_ra θ a)).category = 1
    cases pm_ra θ a <;> rfl
  · cases h
theorem k_dup2 (hd : decode (pm_cc y) pc = .ok (.dup2, 1)) (hn : pc + 1 = nx) : pm_Sd θ l env y pc (s_dup2 nx) := by
  intro G hG d lo sk I res h
  subst hn
  unfold s_dup2 at h
  split at h
  · rename_i a b r
    intro p e RM s m args below meth c cells slots Q C H locs ls hP hS hL hk hR
    refine lv_dup2_11 C.1 C.2.1 hd rfl ?_ (hG _ _ _ _ _ _ _ h p e RM s m args below meth c cells slots Q C H locs ls hP hS hL (pm_okc (hk _ List.mem_cons_self) (pm_okc (v := .inr (.inr b)) trivial hk)) hR)
    show (va_rf (pm_ra θ b)).category = 1
    cases pm_ra θ b <;> rfl
  · cases h
theorem k_ifeq {off : Int} (hd : decode (pm_cc y) pc = .ok (.ifCond .eq off, 3)) (ht : (pc : Int) + off = (tg : Int)) (hn : pc + 3 = nx) : pm_Sd θ l env y pc (s_ifeq tg nx) := by
  intro G hG d lo sk I res h
  subst hn
  unfold s_ifeq at h
  split at h
  · rename_i a r
    intro p e RM s m args below meth c cells slots Q C H locs ls hP hS hL hk hR
    have ha : pm_r32 a := hk (.inl a) List.mem_cons_self
    have hk : ∀ u ∈ r, pm_ok u := fun u hu => hk u (List.mem_cons_of_mem _ hu)
    refine lv_if_eq C.1 C.2.1 hd ht (fun q => ?_) (fun q => ?_)
    · rw [if_pos ((pm_eq0 ha).mp q)] at h
      exact hG _ _ _ _ _ _ _ h p e RM s m args below meth c cells slots Q C H locs ls hP hS hL hk hR
    · rw [if_neg (fun z => q ((pm_eq0 ha).mpr z))] at h
      exact hG _ _ _ _ _ _ _ h p e RM s m args below meth c cells slots Q C H locs ls hP hS hL hk hR
  · cases h
theorem k_ifne {off : Int} (hd : decode (pm_cc y) pc = .ok (.ifCond .ne off, 3)) (ht : (pc : Int) + off = (tg : Int)) (hn : pc + 3 = nx) : pm_Sd θ l env y pc (s_ifne tg nx) := by
  intro G hG d lo sk I res h
  subst hn
  unfold s_ifne at h
  split at h
  · rename_i a r
    intro p e RM s m args below meth c cells slots Q C H locs ls hP hS hL hk hR
    have ha : pm_r32 a := hk (.inl a) List.mem_cons_self
    have hk : ∀ u ∈ r, pm_ok u := fun u hu => hk u (List.mem_cons_of_mem _ hu)
    refine lv_if_ne C.1 C.2.1 hd ht (fun q => ?_) (fun q => ?_)
    · have z : ¬ a = 0 := fun z => q ((pm_eq0 ha).mpr z)
      rw [if_neg z] at h
      exact hG _ _ _ _ _ _ _ h p e RM s m args below meth c cells slots Q C H locs ls hP hS hL hk hR
    · have z : a = 0 := by first | exact (pm_eq0 ha).mp q | exact (pm_eq0 ha).mp (Decidable.not_not.mp q)
      rw [if_pos z] at h
      exact hG _ _ _ _ _ _ _ h p e RM s m args below meth c cells slots Q C H locs ls hP hS hL hk hR
  · cases h
theorem k_iflt {off : Int} (hd : decode (pm_cc y) pc = .ok (.ifCond .lt off, 3)) (ht : (pc : Int) + off = (tg : Int)) (hn : pc + 3 = nx) : pm_Sd θ l env y pc (s_iflt tg nx) := by
  intro G hG d lo sk I res h
  subst hn
  unfold s_iflt at h
  split at h
  · rename_i a r
    intro p e RM s m args below meth c cells slots Q C H locs ls hP hS hL hk hR
    have ha : pm_r32 a := hk (.inl a) List.mem_cons_self
    have hk : ∀ u ∈ r, pm_ok u := fun u hu => hk u (List.mem_cons_of_mem _ hu)
    refine lv_if_lt C.1 C.2.1 hd ht (fun q => ?_) (fun q => ?_)
    · rw [if_pos ((pm_lt0 ha).mp q)] at h
      exact hG _ _ _ _ _ _ _ h p e RM s m args below meth c cells slots Q C H locs ls hP hS hL hk hR
    · rw [if_neg (fun z => q ((pm_lt0 ha).mpr z))] at h
      exact hG _ _ _ _ _ _ _ h p e RM s m args below meth c cells slots Q C H locs ls hP hS hL hk hR
  · cases h
theorem k_ifge {off : Int} (hd : decode (pm_cc y) pc = .ok (.ifCond .ge off, 3)) (ht : (pc : Int) + off = (tg : Int)) (hn : pc + 3 = nx) : pm_Sd θ l env y pc (s_ifge tg nx) := by
  intro G hG d lo sk I res h
  subst hn
  unfold s_ifge at h
  split at h
  · rename_i a r
    intro p e RM s m args below meth c cells slots Q C H locs ls hP hS hL hk hR
    have ha : pm_r32 a := hk (.inl a) List.mem_cons_self
    have hk : ∀ u ∈ r, pm_ok u := fun u hu => hk u (List.mem_cons_of_mem _ hu)
    refine lv_if_ge C.1 C.2.1 hd ht (fun q => ?_) (fun q => ?_)
    · have z : ¬ a < 0 := fun z => by first | exact absurd ((pm_lt0 ha).mpr z) (Int32.not_lt.mpr q) | exact absurd ((pm_lt0 ha).mpr z) q
      rw [if_neg z] at h
      exact hG _ _ _ _ _ _ _ h p e RM s m args below meth c cells slots Q C H locs ls hP hS hL hk hR
    · have z : a < 0 := by first | exact (pm_lt0 ha).mp (Int32.not_le.mp q) | exact (pm_lt0 ha).mp (Decidable.not_not.mp q) | exact (pm_lt0 ha).mp q
      rw [if_pos z] at h
      exact hG _ _ _ _ _ _ _ h p e RM s m args below meth c cells slots Q C H locs ls hP hS hL hk hR
  · cases h
theorem k_ifgt {off : Int} (hd : decode (pm_cc y) pc = .ok (.ifCond .gt off, 3)) (ht : (pc : Int) + off = (tg : Int)) (hn : pc + 3 = nx) : pm_Sd θ l env y pc (s_ifgt tg nx) := by
  intro G hG d lo sk I res h
  subst hn
  unfold s_ifgt at h
  split at h
  · rename_i a r
    intro p e RM s m args below meth c cells slots Q C H locs ls hP hS hL hk hR
    have ha : pm_r32 a := hk (.inl a) List.mem_cons_self
    have hk : ∀ u ∈ r, pm_ok u := fun u hu => hk u (List.mem_cons_of_mem _ hu)
    refine lv_if_gt C.1 C.2.1 hd ht (fun q => ?_) (fun q => ?_)
    · rw [if_pos ((pm_gt0 ha).mp q)] at h
      exact hG _ _ _ _ _ _ _ h p e RM s m args below meth c cells slots Q C H locs ls hP hS hL hk hR
    · rw [if_neg (fun z => q ((pm_gt0 ha).mpr z))] at h
      exact hG _ _ _ _ _ _ _ h p e RM s m args below meth c cells slots Q C H locs ls hP hS hL hk hR
  · cases h
theorem k_ifle {off : Int} (hd : decode (pm_cc y) pc = .ok (.ifCond .le off, 3)) (ht : (pc : Int) + off = (tg : Int)) (hn : pc + 3 = nx) : pm_Sd θ l env y pc (s_ifle tg nx) := by
  intro G hG d lo sk I res h
  subst hn
  unfold s_ifle at h
  split at h
  · rename_i a r
    intro p e RM s m args below meth c cells slots Q C H locs ls hP hS hL hk hR
    have ha : pm_r32 a := hk (.inl a) List.mem_cons_self
    have hk : ∀ u ∈ r, pm_ok u := fun u hu => hk u (List.mem_cons_of_mem _ hu)
    refine lv_if_le C.1 C.2.1 hd ht (fun q => ?_) (fun q => ?_)
    · have z : ¬ 0 < a := fun z => by first | exact absurd ((pm_gt0 ha).mpr z) (Int32.not_lt.mpr q) | exact absurd ((pm_gt0 ha).mpr z) q
      rw [if_neg z] at h
      exact hG _ _ _ _ _ _ _ h p e RM s m args below meth c cells slots Q C H locs ls hP hS hL hk hR
    · have z : 0 < a := by first | exact (pm_gt0 ha).mp (Int32.not_le.mp q) | exact (pm_gt0 ha).mp (Decidable.not_not.mp q) | exact (pm_gt0 ha).mp q
      rw [if_pos z] at h
      exact hG _ _ _ _ _ _ _ h p e RM s m args below meth c cells slots Q C H locs ls hP hS hL hk hR
  · cases h
theorem k_ceq {off : Int} (hd : decode (pm_cc y) pc = .ok (.if_icmp .eq off, 3)) (ht : (pc : Int) + off = (tg : Int)) (hn : pc + 3 = nx) : pm_Sd θ l env y pc (s_ceq tg nx) := by
  intro G hG d lo sk I res h
  subst hn
  unfold s_ceq at h
  split at h
  · rename_i b a r
    intro p e RM s m args below meth c cells slots Q C H locs ls hP hS hL hk hR
    have hb : pm_r32 b := hk (.inl b) List.mem_cons_self
    have ha : pm_r32 a := hk (.inl a) (List.mem_cons_of_mem _ List.mem_cons_self)
    have hk : ∀ u ∈ r, pm_ok u := fun u hu => hk u (List.mem_cons_of_mem _ (List.mem_cons_of_mem _ hu))
    refine lv_icmp_eq C.1 C.2.1 hd ht (fun q => ?_) (fun q => ?_)
    · rw [if_pos ((pm_eq ha hb).mp q)] at h
      exact hG _ _ _ _ _ _ _ h p e RM s m args below meth c cells slots Q C H locs ls hP hS hL hk hR
    · rw [if_neg (fun z => q ((pm_eq ha hb).mpr z))] at h
      exact hG _ _ _ _ _ _ _ h p e RM s m args below meth c cells slots Q C H locs ls hP hS hL hk hR
  · cases h
theorem k_cne {off : Int} (hd : decode (pm_cc y) pc = .ok (.if_icmp .ne off, 3)) (ht : (pc : Int) + off = (tg : Int)) (hn : pc + 3 = nx) : pm_Sd θ l env y pc (s_cne tg nx) := by
  intro G hG d lo sk I res h
  subst hn
  unfold s_cne at h
  split at h
  · rename_i b a r
    intro p e RM s m args below meth c cells slots Q C H locs ls hP hS hL hk hR
    have hb : pm_r32 b := hk (.inl b) List.mem_cons_self
    have ha : pm_r32 a := hk (.inl a) (List.mem_cons_of_mem _ List.mem_cons_self)
    have hk : ∀ u ∈ r, pm_ok u := fun u hu => hk u (List.mem_cons_of_mem _ (List.mem_cons_of_mem _ hu))
    refine lv_icmp_ne C.1 C.2.1 hd ht (fun q => ?_) (fun q => ?_)
    · have z : ¬ a = b := fun z => q ((pm_eq ha hb).mpr z)
      rw [if_neg z] at h
      exact hG _ _ _ _ _ _ _ h p e RM s m args below meth c cells slots Q C H locs ls hP hS hL hk hR
    · have z : a = b := by first | exact (pm_eq ha hb).mp q | exact (pm_eq ha hb).mp (Decidable.not_not.mp q)
      rw [if_pos z] at h
      exact hG _ _ _ _ _ _ _ h p e RM s m args below meth c cells slots Q C H locs ls hP hS hL hk hR
  · cases h
theorem k_clt {off : Int} (hd : decode (pm_cc y) pc = .ok (.if_icmp .lt off, 3)) (ht : (pc : Int) + off = (tg : Int)) (hn : pc + 3 = nx) : pm_Sd θ l env y pc (s_clt tg nx) := by
  intro G hG d lo sk I res h
  subst hn
  unfold s_clt at h
  split at h
  · rename_i b a r
    intro p e RM s m args below meth c cells slots Q C H locs ls hP hS hL hk hR
    have hb : pm_r32 b := hk (.inl b) List.mem_cons_self
    have ha : pm_r32 a := hk (.inl a) (List.mem_cons_of_mem _ List.mem_cons_self)
    have hk : ∀ u ∈ r, pm_ok u := fun u hu => hk u (List.mem_cons_of_mem _ (List.mem_cons_of_mem _ hu))
    refine lv_icmp_lt C.1 C.2.1 hd ht (fun q => ?_) (fun q => ?_)
    · rw [if_pos ((pm_lt ha hb).mp q)] at h
      exact hG _ _ _ _ _ _ _ h p e RM s m args below meth c cells slots Q C H locs ls hP hS hL hk hR
    · rw [if_neg (fun z => q ((pm_lt ha hb).mpr z))] at h
      exact hG _ _ _ _ _ _ _ h p e RM s m args below meth c cells slots Q C H locs ls hP hS hL hk hR
  · cases h
theorem k_cge {off : Int} (hd : decode (pm_cc y) pc = .ok (.if_icmp .ge off, 3)) (ht : (pc : Int) + off = (tg : Int)) (hn : pc + 3 = nx) : pm_Sd θ l env y pc (s_cge tg nx) := by
  intro G hG d lo sk I res h
  subst hn
  unfold s_cge at h
  split at h
  · rename_i b a r
    intro p e RM s m args below meth c cells slots Q C H locs ls hP hS hL hk hR
    have hb : pm_r32 b := hk (.inl b) List.mem_cons_self
    have ha : pm_r32 a := hk (.inl a) (List.mem_cons_of_mem _ List.mem_cons_self)
    have hk : ∀ u ∈ r, pm_ok u := fun u hu => hk u (List.mem_cons_of_mem _ (List.mem_cons_of_mem _ hu))
    refine lv_icmp_ge C.1 C.2.1 hd ht (fun q => ?_) (fun q => ?_)
    · have z : ¬ a < b := fun z => by first | exact absurd ((pm_lt ha hb).mpr z) (Int32.not_lt.mpr q) | exact absurd ((pm_lt ha hb).mpr z) q
      rw [if_neg z] at h
      exact hG _ _ _ _ _ _ _ h p e RM s m args below meth c cells slots Q C H locs ls hP hS hL hk hR
    · have z : a < b := by first | exact (pm_lt ha hb).mp (Int32.not_le.mp q) | exact (pm_lt ha hb).mp (Decidable.not_not.mp q) | exact (pm_lt ha hb).mp q
      rw [if_pos z] at h
      exact hG _ _ _ _ _ _ _ h p e RM s m args below meth c cells slots Q C H locs ls hP hS hL hk hR
  · cases h
theorem k_cgt {off : Int} (hd : decode (pm_cc y) pc = .ok (.if_icmp .gt off, 3)) (ht : (pc : Int) + off = (tg : Int)) (hn : pc + 3 = nx) : pm_Sd θ l env y pc (s_cgt tg nx) := by
  intro G hG d lo sk I res h
  subst hn
  unfold s_cgt at h
  split at h
  · rename_i b a r
    intro p e RM s m args below meth c cells slots Q C H locs ls hP hS hL hk hR
    have hb : pm_r32 b := hk (.inl b) List.mem_cons_self
    have ha : pm_r32 a := hk (.inl a) (List.mem_cons_of_mem _ List.mem_cons_self)
    have hk : ∀ u ∈ r, pm_ok u := fun u hu => hk u (List.mem_cons_of_mem _ (List.mem_cons_of_mem _ hu))
    refine lv_icmp_gt C.1 C.2.1 hd ht (fun q => ?_) (fun q => ?_)
    · rw [if_pos ((pm_lt hb ha).mp q)] at h
      exact hG _ _ _ _ _ _ _ h p e RM s m args below meth c cells slots Q C H locs ls hP hS hL hk hR
    · rw [if_neg (fun z => q ((pm_lt hb ha).mpr z))] at h
      exact hG _ _ _ _ _ _ _ h p e RM s m args below meth c cells slots Q C H locs ls hP hS hL hk hR
  · cases h
theorem k_cle {off : Int} (hd : decode (pm_cc y) pc = .ok (.if_icmp .le off, 3)) (ht : (pc : Int) + off = (tg : Int)) (hn : pc + 3 = nx) : pm_Sd θ l env y pc (s_cle tg nx) := by
  intro G hG d lo sk I res h
  subst hn
  unfold s_cle at h
  split at h
  · rename_i b a r
    intro p e RM s m args below meth c cells slots Q C H locs ls hP hS hL hk hR
    have hb : pm_r32 b := hk (.inl b) List.mem_cons_self
    have ha : pm_r32 a := hk (.inl a) (List.mem_cons_of_mem _ List.mem_cons_self)
    have hk : ∀ u ∈ r, pm_ok u := fun u hu => hk u (List.mem_cons_of_mem _ (List.mem_cons_of_mem _ hu))
    refine lv_icmp_le C.1 C.2.1 hd ht (fun q => ?_) (fun q => ?_)
    · have z : ¬ b < a := fun z => by first | exact absurd ((pm_lt hb ha).mpr z) (Int32.not_lt.mpr q) | exact absurd ((pm_lt hb ha).mpr z) q
      rw [if_neg z] at h
      exact hG _ _ _ _ _ _ _ h p e RM s m args below meth c cells slots Q C H locs ls hP hS hL hk hR
    · have z : b < a := by first | exact (pm_lt hb ha).mp (Int32.not_le.mp q) | exact (pm_lt hb ha).mp (Decidable.not_not.mp q) | exact (pm_lt hb ha).mp q
      rw [if_pos z] at h
      exact hG _ _ _ _ _ _ _ h p e RM s m args below meth c cells slots Q C H locs ls hP hS hL hk hR
  · cases h
theorem k_goto {off : Int} (hd : decode (pm_cc y) pc = .ok (.goto off, 3)) (ht : (pc : Int) + off = (tg : Int)) : pm_Sd θ l env y pc (s_goto tg) := by
  intro G hG d lo sk I res h
  intro p e RM s m args below meth c cells slots Q C H locs ls hP hS hL hk hR
  exact lv_goto C.1 C.2.1 hd ht (hG _ _ _ _ _ _ _ h p e RM s m args below meth c cells slots Q C H locs ls hP hS hL hk hR)
theorem pm_swt_spec {x : Int} {df : Nat} {K : Nat → pm_O} {res : Int × pm_I} : ∀ {ts : List (Int × Nat)}, pm_swt x df K ts = some res → (∃ t, (x, t) ∈ ts ∧ K t = some res) ∨ ((∀ q ∈ ts, x ≠ q.1) ∧ K df = some res)
  | [], h => Or.inr ⟨fun _ q => absurd q List.not_mem_nil, h⟩
  | (c, t) :: ts, h => by
    unfold pm_swt at h
    by_cases hc : x = c
    · rw [if_pos hc] at h
      subst hc
      exact Or.inl ⟨t, List.mem_cons_self, h⟩
    · rw [if_neg hc] at h
      rcases pm_swt_spec h with ⟨t', h1, h2⟩ | ⟨h1, h2⟩
      · exact Or.inl ⟨t', List.mem_cons_of_mem _ h1, h2⟩
      · exact Or.inr ⟨List.forall_mem_cons.mpr ⟨hc, h1⟩, h2⟩
theorem k_switch {df lo0 hi : Int} {offs : Array Int} {len : Nat} {ts : List (Int × Nat)} (hd : decode (pm_cc y) pc = .ok (.tableswitch df lo0 hi offs, len)) (ht : (pc : Int) + df = (tg : Int)) (h1 : ∀ q ∈ ts, ¬ q.1 < lo0 ∧ ¬ hi < q.1 ∧ (offs[(q.1 - lo0).toNat]?).map (fun o => (pc : Int) + o) = some (q.2 : Int)) (h2 : ∀ k < (hi - lo0 + 1).toNat, ∃ q ∈ ts, q.1 = lo0 + (k : Int)) : pm_Sd θ l env y pc (s_switch ts tg) := by
  intro G hG d lo sk I res h
  unfold s_switch at h
  split at h
  · rename_i x r
    intro p e RM s m args below meth c cells slots Q C H locs ls hP hS hL hk hR
    have hx : pm_r32 x := hk (.inl x) List.mem_cons_self
    have hk : ∀ u ∈ r, pm_ok u := fun u hu => hk u (List.mem_cons_of_mem _ hu)
    rcases pm_swt_spec h with ⟨t, g1, h⟩ | ⟨g1, h⟩
    · obtain ⟨a1, a2, a3⟩ := h1 _ g1
      obtain ⟨off, b1, b2⟩ := Option.map_eq_some_iff.mp a3
      have e0 := pm_toInt hx
      refine lv_tableIn C.1 C.2.1 hd (x := Int32.ofInt x) (off := off) (tgt := t) ?_ ?_ ?_ b2 (hG _ _ _ _ _ _ _ h p e RM s m args below meth c cells slots Q C H locs ls hP hS hL hk hR)
      · rw [e0]; exact a1
      · rw [e0]; exact a2
      · rw [e0]; exact b1
    · refine lv_tableOut C.1 C.2.1 hd (x := Int32.ofInt x) ?_ ht (hG _ _ _ _ _ _ _ h p e RM s m args below meth c cells slots Q C H locs ls hP hS hL hk hR)
      rw [pm_toInt hx]
      by_cases q1 : x < lo0
      · exact Or.inl q1
      · by_cases q2 : hi < x
        · exact Or.inr q2
        · obtain ⟨q, q3, q4⟩ := h2 (x - lo0).toNat (by omega)
          exact absurd (by omega) (g1 q q3)
  · cases h
theorem k_iret (hd : decode (pm_cc y) pc = .ok (.ireturn, 1)) (hy : pm_rty y = some .int) : pm_Sd θ l env y pc s_iret := by
  intro G hG d lo sk I res h
  unfold s_iret at h
  split at h
  · rename_i v
    cases h
    intro p e RM s m args below meth c cells slots Q C H locs ls hP hS hL hk hR
    have kk := hR pc ls H locs hP hS (by unfold pm_rok; rw [hy]; exact hk (.inl v) List.mem_cons_self) (by rw [hy]; exact hd)
    unfold pm_rv at kk
    rw [hy] at kk
    exact kk
  · cases h
theorem k_zret (hd : decode (pm_cc y) pc = .ok (.ireturn, 1)) (hy : pm_rty y = some .boolean) : pm_Sd θ l env y pc s_zret := by
  intro G hG d lo sk I res h
  unfold s_zret at h
  split at h
  · rename_i v
    split at h
    · rename_i hv
      cases h
      intro p e RM s m args below meth c cells slots Q C H locs ls hP hS hL hk hR
      have kk := hR pc ls H locs hP hS (by unfold pm_rok; rw [hy]; exact hv) (by rw [hy]; exact hd)
      unfold pm_rv at kk
      rw [hy] at kk
      exact kk
    · cases h
  · cases h
theorem k_lret (hd : decode (pm_cc y) pc = .ok (.lreturn, 1)) (hy : pm_rty y = some .long) : pm_Sd θ l env y pc s_lret := by
  intro G hG d lo sk I res h
  unfold s_lret at h
  split at h
  · rename_i v
    cases h
    intro p e RM s m args below meth c cells slots Q C H locs ls hP hS hL hk hR
    have kk := hR pc ls H locs hP hS (by unfold pm_rok; rw [hy]; exact hk (.inr (.inl v)) List.mem_cons_self) (by rw [hy]; exact hd)
    unfold pm_rv at kk
    rw [hy] at kk
    exact kk
  · cases h
theorem k_vret (hd : decode (pm_cc y) pc = .ok (.return_, 1)) (hy : pm_rty y = none) : pm_Sd θ l env y pc s_vret := by
  intro G hG d lo sk I res h
  unfold s_vret at h
  split at h
  · cases h
    intro p e RM s m args below meth c cells slots Q C H locs ls hP hS hL hk hR
    have kk := hR pc ls H locs hP hS (by unfold pm_rok; rw [hy]; show pm_r32 0; decide) (by rw [hy]; exact hd)
    unfold pm_rv at kk
    rw [hy] at kk
    exact kk
  · cases h
end ROWS
end
section
/-! THE HEAP'S INSTRUCTIONS -/
def pm_FL (own : String) (idx ci k : Nat) : Prop := ∃ (C : String) (T : u_T) (N : Nat), vwCl[ci]? = some (C, T, N) ∧ k < N ∧ (∀ w ∈ u_ws C T N, w ∈ pm_TB) ∧ Cond.fieldLink own idx (T k).1 (T k).2.1 (T k).2.2.1 ∈ pm_TB
def pm_FP (own : String) (idx ci k : Nat) (ty : FieldType) : Prop := ∃ (C : String) (T : u_T) (N : Nat) (ty0 : Nat → FieldType), vwCl[ci]? = some (C, T, N) ∧ k < N ∧ (∀ w ∈ u_ws C T N, w ∈ pm_TB) ∧ Cond.fieldLink own idx (T k).1 (T k).2.1 (T k).2.2.1 ∈ pm_TB ∧
  (∀ k, k < N → parseFieldDescriptor (T k).2.2.1 = some (ty0 k)) ∧ (∀ a, a < N → ∀ b, b < N → a ≠ b → (T a).2.1 ≠ (T b).2.1) ∧ (T k).2.2.2 = false ∧ parseFieldDescriptor (T k).2.2.1 = some ty
theorem pm_cast {i : Int} (h : 0 ≤ i) (hr : pm_r32 i) : (((Int32.ofInt i).toNatClampNeg : Nat) : Int) = i := by
  rw [pm_clamp hr]
  omega
section MEM
variable {θ : pm_TH} {l : Launch} {env : pm_E} {y pc nx tg : Nat}
theorem pm_obj {I : pm_I} {r ci : Nat} (hE : pm_EW θ env) (h : Nat.beq (env.1 r) ci = true) (hc : ci < 8) : r ≠ 0 ∧ (3 ≤ r ∧ r < pm_nn θ + 3) ∧ (pm_ws θ env I)[r - 3]? = some (pm_as θ r, .inr (ci, pm_fl θ env I r)) := by
  have e := Nat.eq_of_beq_eq_true h
  have b := hE.1 r (by omega)
  refine ⟨by omega, b, ?_⟩
  rw [pm_ws_at θ env I b]
  unfold pm_cell
  rw [if_neg (by omega), if_neg (by omega), if_neg (by omega), if_neg (by omega), if_neg (by omega), e]
theorem pm_arI {I : pm_I} {r : Nat} (hE : pm_EW θ env) (h : Nat.beq (env.1 r) 8 = true) : r ≠ 0 ∧ (3 ≤ r ∧ r < pm_nn θ + 3) ∧ (pm_ws θ env I)[r - 3]? = some (pm_as θ r, .inl (θ.2.1.1, (env.2.1 r).toNat, .inl (fun j => Int32.ofInt (I r j)))) := by
  have e := Nat.eq_of_beq_eq_true h
  have b := hE.1 r (by omega)
  refine ⟨by omega, b, ?_⟩
  rw [pm_ws_at θ env I b]
  unfold pm_cell
  rw [if_pos e]
theorem pm_arZ {I : pm_I} {r : Nat} (hE : pm_EW θ env) (h : Nat.beq (env.1 r) 9 = true) : r ≠ 0 ∧ (3 ≤ r ∧ r < pm_nn θ + 3) ∧ (pm_ws θ env I)[r - 3]? = some (pm_as θ r, .inl (θ.2.1.2.1, (env.2.1 r).toNat, .inl (fun j => Int32.ofInt (I r j)))) := by
  have e := Nat.eq_of_beq_eq_true h
  have b := hE.1 r (by omega)
  refine ⟨by omega, b, ?_⟩
  rw [pm_ws_at θ env I b]
  unfold pm_cell
  rw [if_neg (by omega), if_pos e]
theorem pm_flI {I : pm_I} {r ci k : Nat} (h : Nat.beq (env.1 r) ci = true) (hk : (pm_rs ci)[k]? = some false) : (pm_fl θ env I r)[k]? = some (.int (Int32.ofInt (I r k))) := by
  have e := Nat.eq_of_beq_eq_true h
  unfold pm_fl
  rw [List.getElem?_mapIdx, e, hk]
  rfl
theorem pm_flR {I : pm_I} {r ci k : Nat} (h : Nat.beq (env.1 r) ci = true) (hk : (pm_rs ci)[k]? = some true) : (pm_fl θ env I r)[k]? = some (pm_tv θ (.inr (.inr (env.2.2.1 r k)))) := by
  have e := Nat.eq_of_beq_eq_true h
  unfold pm_fl
  rw [List.getElem?_mapIdx, e, hk]
  rfl
theorem pm_fl_up {I : pm_I} {r ci k : Nat} {v : Int} (h : Nat.beq (env.1 r) ci = true) (hk : (pm_rs ci)[k]? = some false) : pm_fl θ env (pm_up I r k v) r = (pm_fl θ env I r).set k (.int (Int32.ofInt v)) := by
  have e := Nat.eq_of_beq_eq_true h
  apply List.ext_getElem?
  intro j
  have hl : k < (pm_fl θ env I r).length := by
    unfold pm_fl
    rw [List.length_mapIdx, e]
    exact (List.getElem?_eq_some_iff.mp hk).1
  by_cases hj : j = k
  · subst hj
    rw [List.getElem?_set_self hl, pm_flI (ci := ci) h hk]
    simp [pm_up]
  · rw [List.getElem?_set_ne (fun q => hj q.symm)]
    unfold pm_fl
    rw [List.getElem?_mapIdx, List.getElem?_mapIdx]
    congr 1
    funext b
    have : ¬ ((j : Int) = (k : Int)) := by omega
    simp [pm_up, this]
theorem pm_up_off {I : pm_I} {r : Nat} {k v : Int} : ∀ q, q ≠ r → ∀ j, pm_up I r k v q j = I q j := fun q hq j => by simp [pm_up, hq]
theorem pm_up_r {I : pm_I} {r : Nat} {k v : Int} (h : ∀ r j, pm_r32 (I r j)) (hv : pm_r32 v) : ∀ q j, pm_r32 (pm_up I r k v q j) := fun q j => by
  unfold pm_up
  split
  · exact hv
  · exact h q j
theorem pm_cell_obj {I : pm_I} {r ci : Nat} (h : Nat.beq (env.1 r) ci = true) (hc : ci < 8) : pm_cell θ env I r = .inr (ci, pm_fl θ env I r) := by
  have e := Nat.eq_of_beq_eq_true h
  unfold pm_cell
  rw [if_neg (by omega), if_neg (by omega), if_neg (by omega), if_neg (by omega), if_neg (by omega), e]
theorem pm_upd {I : pm_I} {r : Nat} {i v : Int} (h0 : 0 ≤ i) (hr : pm_r32 i) : (fun j : Nat => Int32.ofInt (pm_up I r i v r j)) = upd (fun j => Int32.ofInt (I r j)) (Int32.ofInt i).toNatClampNeg (Int32.ofInt v) := by
  funext j
  have e := pm_cast h0 hr
  unfold upd pm_up
  by_cases hj : j = (Int32.ofInt i).toNatClampNeg
  · rw [if_pos ⟨rfl, by rw [hj]; exact e⟩, if_pos hj]
  · rw [if_neg (fun q => hj (by omega)), if_neg hj]
theorem k_getI {idx ci k : Nat} {k' : Int} (hE : pm_EW θ env) (hd : decode (pm_cc y) pc = .ok (.getfield idx, 3)) (hn : pc + 3 = nx) (hF : pm_FL (pm_nm y).cls idx ci k) (hc : ci < 8) (hs : (pm_rs ci)[k]? = some false) (hk' : (k : Int) = k') : pm_Sd θ l env y pc (s_getI ci k' nx) := by
  intro G hG d lo sk I res h
  subst hn; subst hk'
  unfold s_getI at h
  split at h
  · rename_i r t
    cases hb : Nat.beq (env.1 r) ci with
    | false => rw [hb] at h; cases h
    | true =>
      rw [hb] at h
      intro p e RM s m args below meth c cells slots Q C H locs ls hP hS hL hk hR
      obtain ⟨Cn, T, N, f1, f2, f3, f4⟩ := hF
      obtain ⟨r0, -, he⟩ := pm_obj (I := I) hE hb hc
      rw [List.map_cons, pm_tv_ref θ r0]
      exact va_get (D := pm_D θ) (cl := vwCl) (ci := ci) (T := T) (C := Cn) (N := N) C.1 C.2.1 C.2.2.2.1 f3 C.2.2.2.2.1 C.2.2.2.2.2.1 hP.1 (r - 3) he f1 k f2 (C.2.2.2.1 _ f4) (fun _ h9 => h9) (pm_flI hb hs) hd (hG _ _ _ _ _ _ _ h p e RM s m args below meth c cells slots Q C H locs ls hP hS hL (pm_okc (v := .inl (I r k)) (hP.2.2 r k) (fun u hu => hk u (List.mem_cons_of_mem _ hu))) hR)
  · cases h
theorem k_getR {idx ci k : Nat} (hE : pm_EW θ env) (hd : decode (pm_cc y) pc = .ok (.getfield idx, 3)) (hn : pc + 3 = nx) (hF : pm_FL (pm_nm y).cls idx ci k) (hc : ci < 8) (hs : (pm_rs ci)[k]? = some true) : pm_Sd θ l env y pc (s_getR ci k nx) := by
  intro G hG d lo sk I res h
  subst hn
  unfold s_getR at h
  split at h
  · rename_i r t
    cases hb : Nat.beq (env.1 r) ci with
    | false => rw [hb] at h; cases h
    | true =>
      rw [hb] at h
      intro p e RM s m args below meth c cells slots Q C H locs ls hP hS hL hk hR
      obtain ⟨Cn, T, N, f1, f2, f3, f4⟩ := hF
      obtain ⟨r0, -, he⟩ := pm_obj (I := I) hE hb hc
      rw [List.map_cons, pm_tv_ref θ r0]
      exact va_get (D := pm_D θ) (cl := vwCl) (ci := ci) (T := T) (C := Cn) (N := N) C.1 C.2.1 C.2.2.2.1 f3 C.2.2.2.2.1 C.2.2.2.2.2.1 hP.1 (r - 3) he f1 k f2 (C.2.2.2.1 _ f4) (fun _ h9 => h9) (pm_flR hb hs) hd (hG _ _ _ _ _ _ _ h p e RM s m args below meth c cells slots Q C H locs ls hP hS hL (pm_okc (v := .inr (.inr (env.2.2.1 r k))) trivial (fun u hu => hk u (List.mem_cons_of_mem _ hu))) hR)
  · cases h
theorem k_putI {idx ci k : Nat} {k' : Int} (hE : pm_EW θ env) (hd : decode (pm_cc y) pc = .ok (.putfield idx, 3)) (hn : pc + 3 = nx) (hF : pm_FP (pm_nm y).cls idx ci k .int) (hc : ci < 8) (hs : (pm_rs ci)[k]? = some false) (hk' : (k : Int) = k') : pm_Sd θ l env y pc (s_putI ci k' nx) := by
  intro G hG d lo sk I res h
  subst hn; subst hk'
  unfold s_putI at h
  split at h
  · rename_i v r t
    cases hb : Nat.beq (env.1 r) ci with
    | false => rw [hb] at h; cases h
    | true =>
      rw [hb] at h
      dsimp only [cond_true] at h
      intro p e RM s m args below meth c cells slots Q C H locs ls hP hS hL hk hR
      obtain ⟨Cn, T, N, ty0, f1, f2, f3, f4, f5, f6, f7, f8⟩ := hF
      obtain ⟨r0, rb, he⟩ := pm_obj (I := I) hE hb hc
      have hv : pm_r32 v := hk (.inl v) List.mem_cons_self
      rw [List.map_cons, List.map_cons, pm_tv_ref θ r0]
      refine va_put (D := pm_D θ) (cl := vwCl) (ci := ci) (v := .int (Int32.ofInt v)) (ty := .int) (T := T) (C := Cn) (N := N) C.1 C.2.1 C.2.2.2.1 f3 ty0 f5 f6 C.2.2.2.2.1 C.2.2.2.2.2.1 hP.1 hP.2.1 hS (r - 3) he f1 k f2 (C.2.2.2.1 _ f4) (fun _ h9 => h9) f7 f8 rfl rfl ?_ hd (fun H1 locs1 g1 g2 g3 => ?_)
      · exact (List.getElem?_eq_some_iff.mp (pm_flI (θ := θ) (I := I) hb hs)).1
      · rw [pm_ws_set θ env (I' := pm_up I r k v) rb pm_up_off (by rw [pm_cell_obj hb hc, pm_fl_up hb hs])] at g1 g2
        exact hG _ _ _ _ _ _ _ h p e RM s m args below meth c cells slots Q C H1 locs1 ls ⟨g1, g2, pm_up_r hP.2.2 hv⟩ g3 hL (fun u hu => hk u (List.mem_cons_of_mem _ (List.mem_cons_of_mem _ hu))) hR
  · cases h
theorem k_putZ {idx ci k : Nat} {k' : Int} (hE : pm_EW θ env) (hd : decode (pm_cc y) pc = .ok (.putfield idx, 3)) (hn : pc + 3 = nx) (hF : pm_FP (pm_nm y).cls idx ci k .boolean) (hc : ci < 8) (hs : (pm_rs ci)[k]? = some false) (hk' : (k : Int) = k') : pm_Sd θ l env y pc (s_putZ ci k' nx) := by
  intro G hG d lo sk I res h
  subst hn; subst hk'
  unfold s_putZ at h
  split at h
  · rename_i v r t
    cases hb : Nat.beq (env.1 r) ci with
    | false => rw [hb] at h; cases h
    | true =>
      rw [hb] at h
      dsimp only [cond_true] at h
      split at h
      · rename_i hz
        intro p e RM s m args below meth c cells slots Q C H locs ls hP hS hL hk hR
        obtain ⟨Cn, T, N, ty0, f1, f2, f3, f4, f5, f6, f7, f8⟩ := hF
        obtain ⟨r0, rb, he⟩ := pm_obj (I := I) hE hb hc
        have hv : pm_r32 v := hk (.inl v) List.mem_cons_self
        rw [List.map_cons, List.map_cons, pm_tv_ref θ r0]
        refine va_put (D := pm_D θ) (cl := vwCl) (ci := ci) (v := .int (Int32.ofInt v)) (ty := .boolean) (T := T) (C := Cn) (N := N) C.1 C.2.1 C.2.2.2.1 f3 ty0 f5 f6 C.2.2.2.2.1 C.2.2.2.2.2.1 hP.1 hP.2.1 hS (r - 3) he f1 k f2 (C.2.2.2.1 _ f4) (fun _ h9 => h9) f7 f8 (by rcases hz with q | q <;> subst q <;> rfl) (by rcases hz with q | q <;> subst q <;> rfl) ?_ hd (fun H1 locs1 g1 g2 g3 => ?_)
        · exact (List.getElem?_eq_some_iff.mp (pm_flI (θ := θ) (I := I) hb hs)).1
        · rw [pm_ws_set θ env (I' := pm_up I r k v) rb pm_up_off (by rw [pm_cell_obj hb hc, pm_fl_up hb hs])] at g1 g2
          exact hG _ _ _ _ _ _ _ h p e RM s m args below meth c cells slots Q C H1 locs1 ls ⟨g1, g2, pm_up_r hP.2.2 hv⟩ g3 hL (fun u hu => hk u (List.mem_cons_of_mem _ (List.mem_cons_of_mem _ hu))) hR
      · cases h
  · cases h
theorem k_iald (hE : pm_EW θ env) (hd : decode (pm_cc y) pc = .ok (.iaload, 1)) (hn : pc + 1 = nx) : pm_Sd θ l env y pc (s_iald nx) := by
  intro G hG d lo sk I res h
  subst hn
  unfold s_iald at h
  split at h
  · rename_i i r t
    cases hb : Nat.beq (env.1 r) 8 with
    | true =>
      rw [hb] at h
      dsimp only [cond_true] at h
      split at h
      · rename_i hi
        intro p e RM s m args below meth c cells slots Q C H locs ls hP hS hL hk hR
        have hr : pm_r32 i := hk (.inl i) List.mem_cons_self
        obtain ⟨r0, rb, he⟩ := pm_arI (I := I) hE hb
        rw [List.map_cons, List.map_cons, pm_tv_ref θ r0]
        refine va_iald (D := pm_D θ) (cl := vwCl) (tys := pm_tys θ) C.1 C.2.1 C.2.2.2.2.2.1 hP.1 (r - 3) 0 he rfl (pm_in hr hi) hd ?_
        rw [pm_cast hi.1 hr]
        exact hG _ _ _ _ _ _ _ h p e RM s m args below meth c cells slots Q C H locs ls hP hS hL (pm_okc (v := .inl (I r i)) (hP.2.2 r i) (fun u hu => hk u (List.mem_cons_of_mem _ (List.mem_cons_of_mem _ hu)))) hR
      · cases h
    | false =>
      rw [hb] at h
      dsimp only [cond_false] at h
      cases hb2 : Nat.beq (env.1 r) 50 with
      | false => rw [hb2] at h; cases h
      | true =>
        rw [hb2] at h
        dsimp only [cond_true] at h
        split at h
        · rename_i hi
          intro p e RM s m args below meth c cells slots Q C H locs ls hP hS hL hk hR
          have hr : pm_r32 i := hk (.inl i) List.mem_cons_self
          have e5 := Nat.eq_of_beq_eq_true hb2
          have r0 := hE.2.2.1 r e5
          obtain ⟨x1, x2⟩ := C.2.2.2.2.2.2.2.2.2.1 r e5
          rw [List.map_cons, List.map_cons, pm_tv_ref θ r0]
          refine va_sld C.1 C.2.1 x2 (Nat.lt_of_lt_of_le x1 C.2.2.2.2.2.2.2.2.1) (fun q => absurd x1 (Nat.not_lt.mpr q)) hS (pm_in hr hi) hd ?_
          rw [pm_cast hi.1 hr]
          exact hG _ _ _ _ _ _ _ h p e RM s m args below meth c cells slots Q C H locs ls hP hS hL (pm_okc (v := .inl (env.2.2.2 r i)) (hE.2.2.2 r i e5) (fun u hu => hk u (List.mem_cons_of_mem _ (List.mem_cons_of_mem _ hu)))) hR
        · cases h
  · cases h
theorem k_zald (hE : pm_EW θ env) (hd : decode (pm_cc y) pc = .ok (.baload, 1)) (hn : pc + 1 = nx) : pm_Sd θ l env y pc (s_zald nx) := by
  intro G hG d lo sk I res h
  subst hn
  unfold s_zald at h
  split at h
  · rename_i i r t
    cases hb : Nat.beq (env.1 r) 9 with
    | false => rw [hb] at h; cases h
    | true =>
      rw [hb] at h
      dsimp only [cond_true] at h
      split at h
      · rename_i hi
        intro p e RM s m args below meth c cells slots Q C H locs ls hP hS hL hk hR
        have hr : pm_r32 i := hk (.inl i) List.mem_cons_self
        obtain ⟨r0, rb, he⟩ := pm_arZ (I := I) hE hb
        rw [List.map_cons, List.map_cons, pm_tv_ref θ r0]
        refine va_zald (D := pm_D θ) (cl := vwCl) (tys := pm_tys θ) C.1 C.2.1 C.2.2.2.2.2.1 hP.1 (r - 3) 1 he rfl (pm_in hr hi) hd ?_
        rw [pm_cast hi.1 hr]
        exact hG _ _ _ _ _ _ _ h p e RM s m args below meth c cells slots Q C H locs ls hP hS hL (pm_okc (v := .inl (I r i)) (hP.2.2 r i) (fun u hu => hk u (List.mem_cons_of_mem _ (List.mem_cons_of_mem _ hu)))) hR
      · cases h
  · cases h
theorem pm_aldT {p : Program} {e : Env} {R : Room} {s : State} {m : MethodId} {args : Array Value} {below : List Frame} {meth : Method} {c : Code} {H : Heap} {locs : List Loc} {cells slots : Nat} {Q : State → Prop} {cc : ByteArray} {pc : Nat} {ls : Array Slot} {rest : List Value} {D : va_G} {cl : List vw_C} {a : Nat} {tys : List (ClassId × FieldType)} {ws : va_W} (hexec : p.tables.exec = Jvm.exec) (hb : c.code = cc) (hK : va_K D cl tys s) (hP : va_P D cl ws H) (q0 t0 : Nat) {cA : ClassId} {ty : FieldType} (hty : ty.isReference = true) {n : Nat} {f : Nat → Option Nat} (ha : ws[q0]? = some (a, .inl (cA, n, .inr (.inr (.inr (.inr f)))))) (ht : tys[t0]? = some (cA, ty)) {i : Int32} (hin : vp_in i n) (hdg : decode cc pc = .ok (.aaload, 1))
    (kk : W p l e R s m args below meth c H locs cells slots Q (F0 m (pc + 1) ls (va_rf (f i.toNatClampNeg) :: rest))) : W p l e R s m args below meth c H locs cells slots Q (F0 m pc ls (.int i :: .ref a :: rest)) := by
  have hlt : i.toNatClampNeg < n := Nat.not_le.mp fun q => hin (Or.inr q)
  exact W.aald (v := va_rf (f i.toNatClampNeg)) (ty := ty) hexec hb (hP q0 _ ha) ((hK.2 t0 _ ht).1 n (fun j => va_rf (f j))) hty (fun q => by cases q) (by show ¬ (i < 0 ∨ (arrV _ _ _).slots.size ≤ _); rw [arrV_size]; exact hin) (by show (arrV _ _ _).slots[_]? = _; rw [arrV_read _ _ hlt]) rfl rfl hdg kk
theorem k_aald (hE : pm_EW θ env) (hd : decode (pm_cc y) pc = .ok (.aaload, 1)) (hn : pc + 1 = nx) : pm_Sd θ l env y pc (s_aald nx) := by
  intro G hG d lo sk I res h
  subst hn
  unfold s_aald at h
  split at h
  · rename_i i r t
    cases hb : (Nat.ble 10 (env.1 r) && Nat.ble (env.1 r) 12) with
    | false => rw [hb] at h; cases h
    | true =>
      rw [hb] at h
      dsimp only [cond_true] at h
      split at h
      · rename_i hi
        intro p e RM s m args below meth c cells slots Q C H locs ls hP hS hL hk hR
        have hr : pm_r32 i := hk (.inl i) List.mem_cons_self
        rw [Bool.and_eq_true] at hb
        have b1 := Nat.le_of_ble_eq_true hb.1
        have b2 := Nat.le_of_ble_eq_true hb.2
        have rb := hE.1 r (by omega)
        have he := pm_ws_at θ env I rb
        have kk := hG _ _ _ _ _ _ _ h p e RM s m args below meth c cells slots Q C H locs ls hP hS hL (pm_okc (v := .inr (.inr (env.2.2.1 r i.toNat))) trivial (fun u hu => hk u (List.mem_cons_of_mem _ (List.mem_cons_of_mem _ hu)))) hR
        rw [List.map_cons, List.map_cons, pm_tv_ref θ (show r ≠ 0 by omega)]
        have q3 : env.1 r = 10 ∨ env.1 r = 11 ∨ env.1 r = 12 := by omega
        unfold pm_cell at he
        rw [← pm_clamp hr] at kk
        rcases q3 with q3 | q3 | q3
        · rw [if_neg (by omega), if_neg (by omega), if_pos q3] at he
          exact pm_aldT (D := pm_D θ) (cl := vwCl) (tys := pm_tys θ) C.1 C.2.1 C.2.2.2.2.2.1 hP.1 (r - 3) 2 rfl he rfl (pm_in hr hi) hd kk
        · rw [if_neg (by omega), if_neg (by omega), if_neg (by omega), if_pos q3] at he
          exact pm_aldT (D := pm_D θ) (cl := vwCl) (tys := pm_tys θ) C.1 C.2.1 C.2.2.2.2.2.1 hP.1 (r - 3) 3 rfl he rfl (pm_in hr hi) hd kk
        · rw [if_neg (by omega), if_neg (by omega), if_neg (by omega), if_neg (by omega), if_pos q3] at he
          exact pm_aldT (D := pm_D θ) (cl := vwCl) (tys := pm_tys θ) C.1 C.2.1 C.2.2.2.2.2.1 hP.1 (r - 3) 4 rfl he rfl (pm_in hr hi) hd kk
      · cases h
  · cases h
theorem k_iast (hE : pm_EW θ env) (hd : decode (pm_cc y) pc = .ok (.iastore, 1)) (hn : pc + 1 = nx) : pm_Sd θ l env y pc (s_iast nx) := by
  intro G hG d lo sk I res h
  subst hn
  unfold s_iast at h
  split at h
  · rename_i v i r t
    cases hb : Nat.beq (env.1 r) 8 with
    | false => rw [hb] at h; cases h
    | true =>
      rw [hb] at h
      dsimp only [cond_true] at h
      split at h
      · rename_i hi
        intro p e RM s m args below meth c cells slots Q C H locs ls hP hS hL hk hR
        have hr : pm_r32 i := hk (.inl i) (List.mem_cons_of_mem _ List.mem_cons_self)
        have hv : pm_r32 v := hk (.inl v) List.mem_cons_self
        obtain ⟨r0, rb, he⟩ := pm_arI (I := I) hE hb
        rw [List.map_cons, List.map_cons, List.map_cons, pm_tv_ref θ r0]
        refine va_iast (D := pm_D θ) (cl := vwCl) (tys := pm_tys θ) C.1 C.2.1 C.2.2.2.2.2.1 hP.1 hP.2.1 hS (r - 3) 0 he rfl (pm_in hr hi) hd (fun H1 locs1 g1 g2 g3 => ?_)
        rw [pm_ws_set θ env (I' := pm_up I r i v) rb pm_up_off (by unfold pm_cell; rw [if_pos (Nat.eq_of_beq_eq_true hb), pm_upd hi.1 hr])] at g1 g2
        exact hG _ _ _ _ _ _ _ h p e RM s m args below meth c cells slots Q C H1 locs1 ls ⟨g1, g2, pm_up_r hP.2.2 hv⟩ g3 hL (fun u hu => hk u (List.mem_cons_of_mem _ (List.mem_cons_of_mem _ (List.mem_cons_of_mem _ hu)))) hR
      · cases h
  · cases h
theorem k_zast (hE : pm_EW θ env) (hd : decode (pm_cc y) pc = .ok (.bastore, 1)) (hn : pc + 1 = nx) : pm_Sd θ l env y pc (s_zast nx) := by
  intro G hG d lo sk I res h
  subst hn
  unfold s_zast at h
  split at h
  · rename_i v i r t
    cases hb : Nat.beq (env.1 r) 9 with
    | false => rw [hb] at h; cases h
    | true =>
      rw [hb] at h
      dsimp only [cond_true] at h
      split at h
      · rename_i hi
        split at h
        · rename_i hz
          intro p e RM s m args below meth c cells slots Q C H locs ls hP hS hL hk hR
          have hr : pm_r32 i := hk (.inl i) (List.mem_cons_of_mem _ List.mem_cons_self)
          have hv : pm_r32 v := hk (.inl v) List.mem_cons_self
          obtain ⟨r0, rb, he⟩ := pm_arZ (I := I) hE hb
          rw [List.map_cons, List.map_cons, List.map_cons, pm_tv_ref θ r0]
          refine va_zast (D := pm_D θ) (cl := vwCl) (tys := pm_tys θ) (x := Int32.ofInt v) C.1 C.2.1 C.2.2.2.2.2.1 hP.1 hP.2.1 hS (r - 3) 1 he rfl (pm_in hr hi) hd (fun H1 locs1 g1 g2 g3 => ?_)
          have en : vp_nar .boolean (Int32.ofInt v) = Int32.ofInt v := by rcases hz with q | q <;> subst q <;> rfl
          rw [en] at g1 g2
          rw [pm_ws_set θ env (I' := pm_up I r i v) rb pm_up_off (by unfold pm_cell; rw [if_neg (by have := Nat.eq_of_beq_eq_true hb; omega), if_pos (Nat.eq_of_beq_eq_true hb), pm_upd hi.1 hr])] at g1 g2
          exact hG _ _ _ _ _ _ _ h p e RM s m args below meth c cells slots Q C H1 locs1 ls ⟨g1, g2, pm_up_r hP.2.2 hv⟩ g3 hL (fun u hu => hk u (List.mem_cons_of_mem _ (List.mem_cons_of_mem _ (List.mem_cons_of_mem _ hu)))) hR
        · cases h
      · cases h
  · cases h
theorem pm_ofNat {n : Int} (h : 0 ≤ n) : Int32.ofNat n.toNat = Int32.ofInt n := by
  have e : Int32.ofInt ((n.toNat : Nat) : Int) = Int32.ofNat n.toNat := by first | exact Int32.ofInt_eq_ofNat | exact (Int32.ofInt_eq_ofNat _) | exact?
  rw [← e]
  congr 1
  omega
theorem k_alen (hE : pm_EW θ env) (hd : decode (pm_cc y) pc = .ok (.arraylength, 1)) (hn : pc + 1 = nx) : pm_Sd θ l env y pc (s_alen nx) := by
  intro G hG d lo sk I res h
  subst hn
  unfold s_alen at h
  split at h
  · rename_i r t
    cases hb : Nat.beq (env.1 r) 8 with
    | true =>
      rw [hb] at h
      intro p e RM s m args below meth c cells slots Q C H locs ls hP hS hL hk hR
      obtain ⟨r0, rb, he⟩ := pm_arI (I := I) hE hb
      rw [List.map_cons, pm_tv_ref θ r0]
      exact va_alen (D := pm_D θ) (cl := vwCl) (tys := pm_tys θ) C.1 C.2.1 C.2.2.2.2.2.1 hP.1 (r - 3) 0 he rfl (pm_ofNat (hE.2.1 r).2) hd (hG _ _ _ _ _ _ _ h p e RM s m args below meth c cells slots Q C H locs ls hP hS hL (pm_okc (v := .inl (env.2.1 r)) (hE.2.1 r).1 (fun u hu => hk u (List.mem_cons_of_mem _ hu))) hR)
    | false =>
      rw [hb] at h
      cases hb2 : Nat.beq (env.1 r) 50 with
      | false => rw [hb2] at h; cases h
      | true =>
        rw [hb2] at h
        intro p e RM s m args below meth c cells slots Q C H locs ls hP hS hL hk hR
        have e5 := Nat.eq_of_beq_eq_true hb2
        have r0 := hE.2.2.1 r e5
        obtain ⟨x1, x2⟩ := C.2.2.2.2.2.2.2.2.2.1 r e5
        rw [List.map_cons, pm_tv_ref θ r0]
        refine va_slen C.1 C.2.1 x2 (Nat.lt_of_lt_of_le x1 C.2.2.2.2.2.2.2.2.1) (fun q => absurd x1 (Nat.not_lt.mpr q)) hS hd ?_
        rw [pm_ofNat (hE.2.1 r).2]
        exact hG _ _ _ _ _ _ _ h p e RM s m args below meth c cells slots Q C H locs ls hP hS hL (pm_okc (v := .inl (env.2.1 r)) (hE.2.1 r).1 (fun u hu => hk u (List.mem_cons_of_mem _ hu))) hR
  · cases h
theorem k_units {idx : Nat} (hd : decode (pm_cc y) pc = .ok (.getstatic idx, 3)) (hn : pc + 3 = nx) (hw : Cond.fieldLink (pm_nm y).cls idx RX2 "UNITS" "[I" ∈ pm_TB) : pm_Sd θ l env y pc (s_units nx) := by
  intro G hG d lo sk I res h
  subst hn
  intro p e RM s m args below meth c cells slots Q C H locs ls hP hS hL hk hR
  refine va_gets C.1 C.2.1 C.2.2.2.2.2.2.2.2.2.2.1 hS C.2.2.2.2.1 (C.2.2.2.1 _ hw) (fun _ h9 => h9) hd ?_
  exact hG _ _ _ _ _ _ _ h p e RM s m args below meth c cells slots Q C H locs ls hP hS hL (pm_okc (v := .inr (.inr 1)) trivial hk) hR
end MEM
end
section
/-! CALLS -/
theorem pm_wd_tv (θ : pm_TH) : ∀ sk : List pm_V, ((sk.map (pm_tv θ)).map fun v => v.category).sum = pm_wd sk
  | [] => rfl
  | .inl n :: t => by
    rw [List.map_cons, List.map_cons, List.sum_cons, pm_wd_tv θ t]
    rfl
  | .inr (.inl x) :: t => by
    rw [List.map_cons, List.map_cons, List.sum_cons, pm_wd_tv θ t]
    rfl
  | .inr (.inr q) :: t => by
    rw [List.map_cons, List.map_cons, List.sum_cons, pm_wd_tv θ t]
    have e : (pm_tv θ (.inr (.inr q))).category = 1 := by
      show (va_rf (pm_ra θ q)).category = 1
      cases pm_ra θ q <;> rfl
    rw [e]
    rfl
theorem pm_pop_spec : ∀ {n : Nat} {sk av : List pm_V} {q : List pm_V × List pm_V}, pm_pop n sk av = some q → ∃ us, q.1 = us ++ av ∧ us.length = n ∧ sk = us.reverse ++ q.2
  | 0, sk, av, q, h => by cases h; exact ⟨[], rfl, rfl, rfl⟩
  | n + 1, v :: sk, av, q, h => by
    obtain ⟨us, h1, h2, h3⟩ := pm_pop_spec (n := n) (sk := sk) (av := v :: av) h
    exact ⟨us ++ [v], by rw [h1]; simp, by simp [h2], by rw [h3]; simp⟩
  | n + 1, [], av, q, h => by cases h
theorem pm_ent_at (θ : pm_TH) : ∀ {av : List pm_V} {nl k j : Nat} {v : pm_V}, pm_at (pm_ent av nl) j = some v → (k + j, pm_tv θ v) ∈ lv_args k (av.map (pm_tv θ)) ∧ v ∈ av
  | [], nl, k, j, v, h => by
    exfalso
    have : ∀ (nl j : Nat), pm_at (pm_pad nl) j = none := by
      intro nl
      induction nl with
      | zero => intro j; rfl
      | succ nl ih => intro j; cases j with
        | zero => rfl
        | succ j => exact ih j
    unfold pm_ent at h
    rw [this] at h
    cases h
  | .inl n :: t, nl, k, 0, v, h => by
    cases h
    exact ⟨List.mem_cons_self, List.mem_cons_self⟩
  | .inl n :: t, nl, k, j + 1, v, h => by
    obtain ⟨h1, h2⟩ := pm_ent_at θ (av := t) (nl := nl) (k := k + 1) (j := j) h
    refine ⟨List.mem_cons_of_mem _ ?_, List.mem_cons_of_mem _ h2⟩
    show (k + (j + 1), _) ∈ lv_args (k + 1) _
    rw [show k + (j + 1) = k + 1 + j by omega]
    exact h1
  | .inr (.inl x) :: t, nl, k, 0, v, h => by
    cases h
    exact ⟨List.mem_cons_self, List.mem_cons_self⟩
  | .inr (.inl x) :: t, nl, k, 1, v, h => by cases h
  | .inr (.inl x) :: t, nl, k, j + 2, v, h => by
    obtain ⟨h1, h2⟩ := pm_ent_at θ (av := t) (nl := nl) (k := k + 2) (j := j) h
    refine ⟨List.mem_cons_of_mem _ ?_, List.mem_cons_of_mem _ h2⟩
    show (k + (j + 2), _) ∈ lv_args (k + 2) _
    rw [show k + (j + 2) = k + 2 + j by omega]
    exact h1
  | .inr (.inr q) :: t, nl, k, 0, v, h => by
    cases h
    exact ⟨List.mem_cons_self, List.mem_cons_self⟩
  | .inr (.inr q) :: t, nl, k, j + 1, v, h => by
    obtain ⟨h1, h2⟩ := pm_ent_at θ (av := t) (nl := nl) (k := k + 1) (j := j) h
    refine ⟨List.mem_cons_of_mem _ ?_, List.mem_cons_of_mem _ h2⟩
    have e : (pm_tv θ (.inr (.inr q))).category = 1 := by
      show (va_rf (pm_ra θ q)).category = 1
      cases pm_ra θ q <;> rfl
    show (k + (j + 1), _) ∈ lv_args (if (pm_tv θ (.inr (.inr q))).category = 2 then k + 2 else k + 1) _
    rw [e, if_neg (by decide), show k + (j + 1) = k + 1 + j by omega]
    exact h1
theorem pm_sl_len (θ : pm_TH) : ∀ av : List pm_V, (lg_sl (av.map (pm_tv θ))).length = pm_wd av
  | [] => rfl
  | .inl n :: t => by
    show ([_] ++ lg_sl (t.map (pm_tv θ))).length = 1 + _
    rw [List.length_append, pm_sl_len θ t]; rfl
  | .inr (.inl x) :: t => by
    show ([_, _] ++ lg_sl (t.map (pm_tv θ))).length = 2 + _
    rw [List.length_append, pm_sl_len θ t]; rfl
  | .inr (.inr q) :: t => by
    have e : (pm_tv θ (.inr (.inr q))).category = 1 := by
      show (va_rf (pm_ra θ q)).category = 1
      cases pm_ra θ q <;> rfl
    show ((if (pm_tv θ (.inr (.inr q))).category = 2 then [Slot.val (pm_tv θ (.inr (.inr q))), Slot.second] else [Slot.val (pm_tv θ (.inr (.inr q)))]) ++ lg_sl (t.map (pm_tv θ))).length = 1 + _
    rw [e, if_neg (by decide), List.length_append, pm_sl_len θ t]; rfl
/-- what a method answers -/
def pm_ro (y : Nat) (r : Int) : Option Value := match pm_rty y with
  | none => none
  | some .long => some (.long (Int64.ofInt r))
  | some _ => some (.int (Int32.ofInt r))
def pm_Pc (θ : pm_TH) (env : pm_E) (av : List pm_V) (I : pm_I) : Array Value → State → Prop := fun a U => a = (av.map (pm_tv θ)).toArray ∧ pm_PR θ env I U.heap ∧ va_K (pm_D θ) vwCl (pm_tys θ) U ∧ pm_bs θ ≤ U.heap.size ∧ pm_XC θ env U U.heap
def pm_Qc (θ : pm_TH) (env : pm_E) (y : Nat) (res : Int × pm_I) : Array Value → State → Outcome → State → Prop := fun _ st oc t => oc = .returned (pm_ro y res.1) ∧ pm_rok y res.1 ∧ pm_PR θ env res.2 t.heap ∧ va_F (pm_A θ) st t
def pm_rm (d : Nat) : Room := { frames := d, cells := 0, slots := 0, locals := 60 * d }
def pm_wy (y : Nat) : List Cond := Cond.code (pm_nm y) (pm_cc y) (pm_nl y) (pm_rty y) :: pm_TB
theorem pm_blind {θ : pm_TH} {env : pm_E} {av : List pm_V} {I : pm_I} : FrameBlind (pm_Pc θ env av I) := fun a U g mk q => by
  obtain ⟨q0, qP, qK, qs, qX⟩ := q
  refine ⟨q0, qP, va_K.moved (u := U) (U := U.calling g mk a) (Vm.Alike.refl U.vm) qK, qs, ?_⟩
  exact ⟨fun r hr => ⟨(qX.1 r hr).1, va_X.moved (u := U) (U := U.calling g mk a) (Vm.Alike.refl U.vm) (qX.1 r hr).2⟩, va_Z.moved (u := U) (U := U.calling g mk a) (Vm.Alike.refl U.vm) qX.2.1, va_Nw.same rfl (U := U.calling g mk a) rfl qX.2.2⟩
/-- the kinds of answers that there are here -/
def pm_rtG (y : Nat) : Prop := pm_rty y = none ∨ pm_rty y = some .int ∨ pm_rty y = some .boolean ∨ pm_rty y = some .long
theorem pm_Met {θ : pm_TH} {l : Launch} {env : pm_E} {y d nl w : Nat} {av : List pm_V} {I : pm_I} {res : Int × pm_I} (h : pm_W θ l env y d 0 (pm_ent av nl) [] I res) (hp : plainName (pm_nm y).cls = true) (hw : pm_wd av = w) (hn : w + nl = pm_nl y) (hg : pm_rtG y) (hv : ∀ v ∈ av, pm_ok v) :
    Met l (pm_nm y) (pm_wy y) (pm_rm d) (pm_Pc θ env av I) (pm_Qc θ env y res) 0 0 (pm_A θ) := by
  refine Met.ofW (cc := pm_cc y) (maxL := pm_nl y) (ret := pm_rty y) hp rfl ?_
  intro p e s m args below meth c s₁ B hml hv0
  obtain ⟨rfl, qP, qK, qs, qX⟩ := hv0
  have hx := B.exec
  have hb := B.bytes
  have hr := B.returns
  have hts := atoms_spec (ws := pm_wy y) B.pre
  have hown : s.vm.findClass (pm_nm y).cls = some m.cls := findClass_of_methodNamed B.named
  have hlocks := B.notSynchronized
  have hl := lv_entry (av.map (pm_tv θ)) (n := pm_nl y) (by rw [pm_sl_len]; omega)
  rw [lg_entry_eq]
  generalize (lg_sl (av.map (pm_tv θ)) ++ List.replicate (pm_nl y - (lg_sl (av.map (pm_tv θ))).length) Slot.unset).toArray = ls at hl ⊢
  have hL : pm_LR θ (pm_ent av nl) ls (pm_nl y) := ⟨⟨hl.1, hl.2.1, fun q hq => by
    obtain ⟨v, h1, h2⟩ := pm_en_mem.mp hq
    have h3 := (pm_ent_at θ (k := 0) h1).1
    rw [Nat.zero_add, ← h2] at h3
    exact hl.2.2 q h3⟩, fun j v hj => hv v (pm_ent_at θ (k := 0) hj).2⟩
  refine h p e (pm_rm d) s m _ below meth c 0 0 _ ⟨hx, hb, hml, fun w hw => hts w (List.mem_cons_of_mem _ hw), hown, qK, ⟨Nat.le_refl _, Nat.le_refl _⟩, ⟨Nat.le_refl _, Nat.le_refl _⟩, qs, qX⟩ s.heap [] ls qP va_S.rf hL (fun v hv => by cases hv) ?_
  intro pc ls' H locs kP kS kr kd
  have hq : ∀ t : State, t.heap = H → pm_Qc θ env y res ((av.map (pm_tv θ)).toArray) s (.returned (pm_ro y res.1)) t := fun t ht => ⟨rfl, kr, by rw [ht]; exact kP, kS.F ht⟩
  unfold pm_rv
  unfold pm_ro at hq
  rcases hg with g | g | g | g
  · rw [g] at kd hq hr ⊢
    exact W.vret hx hb hr (fun t ht _ => hq t ht) kS.2.2 kd
  · rw [g] at kd hq hr ⊢
    exact W.iret hx hb hr (fun t ht _ => hq t ht) kS.2.2 kd
  · rw [g] at kd hq hr ⊢
    refine W.zret hx hb hr ?_ (fun t ht _ => hq t ht) kS.2.2 kd
    unfold pm_rok at kr
    rw [g] at kr
    have kr : res.1 = 0 ∨ res.1 = 1 := kr
    rcases kr with q | q <;> rw [q] <;> rfl
  · rw [g] at kd hq hr ⊢
    exact W.lret hx hb hr (fun t ht _ => hq t ht) kS.2.2 kd
theorem pm_good : ∀ y, Cond.code (pm_nm y) (pm_cc y) (pm_nl y) (pm_rty y) ∈ pm_TB → GoodIn pm_TB (pm_wy y) := fun y h w hw => by
  rcases List.mem_cons.mp hw with e | e
  · subst e; exact ⟨h, pm_TB_good _ h⟩
  · exact ⟨e, pm_TB_good _ e⟩
/-- behind a call -/
theorem pm_back {θ : pm_TH} {l : Launch} {env : pm_E} {y' : Nat} {res : Int × pm_I} {p : Program} {e : Env} {RM : Room} {s : State} {m : MethodId} {args : Array Value} {below : List Frame} {meth : Method} {c : Code} {H : Heap} {locs : List Loc} {cells slots : Nat} {Q : State → Prop} {pc : Nat} {ls : Array Slot} {st0 rest : List Value} {a : Array Value}
    (hr : va_Run p l e RM s m args below meth c H locs cells slots 0 0 (F0 m pc ls st0) rest (pm_Qc θ env y' res a) (pm_A θ)) (hS : va_S (pm_A θ) s.heap H locs)
    (kk : ∀ (H1 : Heap) (locs1 : List Loc), pm_rok y' res.1 → pm_PR θ env res.2 H1 → va_S (pm_A θ) s.heap H1 locs1 → W p l e RM s m args below meth c H1 locs1 cells slots Q (F0 m (pc + 3) ls ((pm_ro y' res.1).toList ++ rest))) : W p l e RM s m args below meth c H locs cells slots Q (F0 m pc ls st0) := by
  intro T hT X
  obtain ⟨v, st₀, t, T', L, h0, X', hL, e1, e2, ⟨hv, hk, hp, hz, hf⟩, st⟩ := hr T hT X
  cases hv
  rw [h0] at hz hf
  obtain ⟨t2, a1, b1⟩ := kk T'.heap (locs ++ L) hk (by rw [e1]; exact hp)
    ⟨Nat.le_trans hS.1 (by rw [e1]; exact hz), fun q h1 h2 => by rw [e1, hf q (Nat.lt_of_lt_of_le h1 hS.1) h2]; exact hS.2.1 q h1 h2, fun q hq => by
      rcases List.mem_append.mp hq with h | h
      · exact hS.2.2 q h
      · exact hL q h⟩ T' rfl X'
  exact ⟨t2, st t2 a1, b1⟩
theorem pm_pre {θ : pm_TH} {env : pm_E} {av : List pm_V} {I : pm_I} {s U : State} {H : Heap} {locs : List Loc} (hU : U.heap = H) (hW : s.WarmedH U.vm) (hP : pm_PR θ env I H) (hK : va_K (pm_D θ) vwCl (pm_tys θ) s) (hs : pm_bs θ ≤ s.heap.size) (hX : pm_XC θ env s s.heap) (hS : va_S (pm_A θ) s.heap H locs) : pm_Pc θ env av I (av.map (pm_tv θ)).toArray U :=
  ⟨rfl, by rw [hU]; exact hP, va_K.moved hW.alike hK, by rw [hU]; exact Nat.le_trans hs hS.1, by rw [hU]; exact (hX.kept hs hS).moved hW⟩
theorem pm_ret_st (θ : pm_TH) {y' rt : Nat} (hrt : (rt = 0 ∧ pm_rty y' = none) ∨ (rt = 1 ∧ (pm_rty y' = some .int ∨ pm_rty y' = some .boolean)) ∨ (rt = 2 ∧ pm_rty y' = some .long)) (x : Int) (t : List pm_V) : (pm_ro y' x).toList ++ t.map (pm_tv θ) = (pm_ret rt x t).map (pm_tv θ) ∧ (pm_rok y' x → (∀ u ∈ t, pm_ok u) → ∀ u ∈ pm_ret rt x t, pm_ok u) := by
  unfold pm_ro pm_rok
  rcases hrt with ⟨rfl, h⟩ | ⟨rfl, h | h⟩ | ⟨rfl, h⟩ <;> rw [h]
  · exact ⟨rfl, fun _ k => k⟩
  · exact ⟨rfl, fun q k => pm_okc (v := .inl x) q k⟩
  · refine ⟨rfl, fun q k => pm_okc (v := .inl x) ?_ k⟩
    show pm_r32 x
    have q : x = 0 ∨ x = 1 := q
    omega
  · exact ⟨rfl, fun q k => pm_okc (v := .inr (.inl x)) q k⟩
/-- what is said of a method that is called: its kind of answer, its words, its arguments -/
def pm_MF (y n w nl rt : Nat) : Prop := plainName (pm_nm y).cls = true ∧ w + nl = pm_nl y ∧ pm_nl y ≤ 40 ∧ Cond.code (pm_nm y) (pm_cc y) (pm_nl y) (pm_rty y) ∈ pm_TB ∧ Cond.initialized (pm_nm y).cls ∈ pm_TB ∧ ((rt = 0 ∧ pm_rty y = none) ∨ (rt = 1 ∧ (pm_rty y = some .int ∨ pm_rty y = some .boolean)) ∨ (rt = 2 ∧ pm_rty y = some .long)) ∧
  (pm_nm y).cls ≠ "java/lang/invoke/MethodHandle" ∧ (pm_nm y).cls ≠ "java/lang/invoke/VarHandle" ∧ (parseMethodDescriptor (pm_nm y).desc).map (fun d => d.parameters.length) = some n
theorem pm_MF.g {y n w nl rt : Nat} (h : pm_MF y n w nl rt) : pm_rtG y := by
  rcases h.2.2.2.2.2.1 with ⟨-, q⟩ | ⟨-, q | q⟩ | ⟨-, q⟩
  · exact Or.inl q
  · exact Or.inr (Or.inl q)
  · exact Or.inr (Or.inr (Or.inl q))
  · exact Or.inr (Or.inr (Or.inr q))
section CALLS
variable {θ : pm_TH} {l : Launch} {env : pm_E} {y pc nx tg : Nat}
theorem pm_recv {I : pm_I} {r ci : Nat} {H : Heap} {s : State} {Cn : String} {T : u_T} {N : Nat} (hE : pm_EW θ env) (hP : pm_PR θ env I H) (hK : va_K (pm_D θ) vwCl (pm_tys θ) s) (h : Nat.beq (env.1 r) ci = true) (hc : ci < 8) (f1 : vwCl[ci]? = some (Cn, T, N)) : ∃ cellB : Cell, H[pm_as θ r]? = some cellB ∧ cellB.vm.isStatics = false ∧ s.vm.findClass Cn = some cellB.cls := by
  obtain ⟨r0, rb, he⟩ := pm_obj (I := I) hE h hc
  obtain ⟨q, hq, cell, h1, h2, h3, h4⟩ := hP.1 _ _ he
  have e9 : (Cn, T, N) = q := Option.some.inj (f1.symm.trans hq)
  subst e9
  have hKc := hK.1 ci _ f1
  exact ⟨cell, h1, by rw [h3]; rfl, by rw [h2]; exact hKc.2.1⟩
theorem k_callS {y' n w nl rc rt idx : Nat} {rk : List pm_V → Nat} (hd : decode (pm_cc y) pc = .ok (.invokestatic idx, 3)) (hn : pc + 3 = nx) (hM : pm_MF y' n w nl rt) (hl : Cond.methodLink (pm_nm y).cls idx (pm_nm y') ∈ pm_TB) (hst : Cond.static (pm_nm y') ∈ pm_TB) : pm_Sd θ l env y pc (s_call y' n w nl rc rt rk nx) := by
  intro G hG d lo sk I res h
  subst hn
  unfold s_call at h
  cases hp : pm_pop n sk [] with
  | none => rw [hp] at h; cases h
  | some q =>
    obtain ⟨av, t⟩ := q
    rw [hp] at h
    dsimp only at h
    obtain ⟨us, u1, u2, u3⟩ := pm_pop_spec hp
    rw [List.append_nil] at u1
    have u1 : av = us := u1
    subst u1
    have u3 : sk = av.reverse ++ t := u3
    cases hrc : pm_rc env rc av with
    | false => rw [hrc] at h; cases h
    | true =>
      rw [hrc] at h
      dsimp only [cond_true] at h
      cases hcc : (Nat.blt (rk av) d && Nat.ble (pm_wd t) 8 && Nat.beq (pm_wd av) w) with
      | false => rw [hcc] at h; cases h
      | true =>
        rw [hcc] at h
        dsimp only [cond_true] at h
        rw [Bool.and_eq_true, Bool.and_eq_true] at hcc
        obtain ⟨⟨c1, c2⟩, c3⟩ := hcc
        have c1 : rk av < d := Nat.le_of_ble_eq_true c1
        have c2 := Nat.le_of_ble_eq_true c2
        have c3 := Nat.eq_of_beq_eq_true c3
        obtain ⟨x, x1, x2⟩ := Option.bind_eq_some_iff.mp h
        intro p e RM s m args below meth c cells slots Q C H locs ls hP hS hL hk hR
        obtain ⟨m1, m2, m3, m4, m5, m6, m7, m8, m9⟩ := id hM
        have hkv : ∀ v ∈ av, pm_ok v := fun v hv => hk v (by rw [u3]; exact List.mem_append_left _ (List.mem_reverse.mpr hv))
        have hkt : ∀ v ∈ t, pm_ok v := fun v hv => hk v (by rw [u3]; exact List.mem_append_right _ hv)
        have Mt := pm_Met (hG _ _ _ _ _ _ _ x1) m1 c3 m2 hM.g hkv
        obtain ⟨rs1, rs2⟩ := pm_ret_st θ m6 x.1 t
        have R1 : (pm_rm (rk av)).frames + 1 ≤ RM.frames ∧ 8 + (pm_nl y' + 11) + (pm_rm (rk av)).locals ≤ RM.locals := by
          have z1 := C.2.2.2.2.2.2.1.1
          have z2 := C.2.2.2.2.2.2.1.2
          unfold pm_rm
          dsimp only
          omega
        have hroom : ((t.map (pm_tv θ)).map fun v => v.category).sum ≤ 8 := by rw [pm_wd_tv]; exact c2
        have hsk : sk.map (pm_tv θ) = (av.map (pm_tv θ)).reverse ++ t.map (pm_tv θ) := by rw [u3, List.map_append, List.map_reverse]
        have kk : ∀ (H1 : Heap) (locs1 : List Loc), pm_rok y' x.1 → pm_PR θ env x.2 H1 → va_S (pm_A θ) s.heap H1 locs1 → W p l e RM s m args below meth c H1 locs1 cells slots Q (F0 m (pc + 3) ls ((pm_ro y' x.1).toList ++ t.map (pm_tv θ))) := fun H1 locs1 k1 k2 k3 => by
          rw [rs1]
          exact hG _ _ _ _ _ _ _ x2 p e RM s m args below meth c cells slots Q C H1 locs1 ls k2 k3 hL (rs2 k1 hkt) hR
        have hGd := pm_good y' m4
        have hfit : cells + 0 ≤ RM.cells ∧ slots + 0 ≤ RM.slots := C.2.2.2.2.2.2.2.1
        have hpre : ∀ U : State, U.heap = H → s.WarmedH U.vm → pm_Pc θ env av I (av.map (pm_tv θ)).toArray U := fun U hU hW => pm_pre hU hW hP C.2.2.2.2.2.1 C.2.2.2.2.2.2.2.2.1 C.2.2.2.2.2.2.2.2.2 hS
        rw [hsk]
        exact pm_back (va_runS (As := av.map (pm_tv θ)) (rest := t.map (pm_tv θ)) (n := n) ⟨C.1, C.2.1, C.2.2.1, C.2.2.2.2.1, C.2.2.2.1⟩ Mt ⟨callB_of n C.2.2.2.1 hGd rfl rfl rfl (C.2.2.2.1 _ m5) (C.2.2.2.1 _ hl) ⟨m7, m8, m9⟩ R1, C.2.2.2.1 _ hst⟩ ⟨pm_blind, hpre⟩ rfl (by rw [List.length_map]; exact u2) hL.1.1 rfl (lv_room hroom) hd hfit) hS kk
theorem k_callN {y' n w nl rc rt idx : Nat} {rk : List pm_V → Nat} (hd : decode (pm_cc y) pc = .ok (.invokestatic idx, 3)) (hn : pc + 3 = nx) (hM : pm_MF y' n w nl rt) (hl : (pm_nm y).cls = RX6 ∧ idx = 304 ∧ pm_nm y' = ⟨RX4, "sumFrom", "(IJLTurnBoards$Sums;[LTurnBoards$Walk;ILTurnBoards$Group;)J"⟩) (hst : Cond.static (pm_nm y') ∈ pm_TB) : pm_Sd θ l env y pc (s_call y' n w nl rc rt rk nx) := by
  intro G hG d lo sk I res h
  subst hn
  unfold s_call at h
  cases hp : pm_pop n sk [] with
  | none => rw [hp] at h; cases h
  | some q =>
    obtain ⟨av, t⟩ := q
    rw [hp] at h
    dsimp only at h
    obtain ⟨us, u1, u2, u3⟩ := pm_pop_spec hp
    rw [List.append_nil] at u1
    have u1 : av = us := u1
    subst u1
    have u3 : sk = av.reverse ++ t := u3
    cases hrc : pm_rc env rc av with
    | false => rw [hrc] at h; cases h
    | true =>
      rw [hrc] at h
      dsimp only [cond_true] at h
      cases hcc : (Nat.blt (rk av) d && Nat.ble (pm_wd t) 8 && Nat.beq (pm_wd av) w) with
      | false => rw [hcc] at h; cases h
      | true =>
        rw [hcc] at h
        dsimp only [cond_true] at h
        rw [Bool.and_eq_true, Bool.and_eq_true] at hcc
        obtain ⟨⟨c1, c2⟩, c3⟩ := hcc
        have c1 : rk av < d := Nat.le_of_ble_eq_true c1
        have c2 := Nat.le_of_ble_eq_true c2
        have c3 := Nat.eq_of_beq_eq_true c3
        obtain ⟨x, x1, x2⟩ := Option.bind_eq_some_iff.mp h
        intro p e RM s m args below meth c cells slots Q C H locs ls hP hS hL hk hR
        obtain ⟨m1, m2, m3, m4, m5, m6, m7, m8, m9⟩ := id hM
        have hkv : ∀ v ∈ av, pm_ok v := fun v hv => hk v (by rw [u3]; exact List.mem_append_left _ (List.mem_reverse.mpr hv))
        have hkt : ∀ v ∈ t, pm_ok v := fun v hv => hk v (by rw [u3]; exact List.mem_append_right _ hv)
        have Mt := pm_Met (hG _ _ _ _ _ _ _ x1) m1 c3 m2 hM.g hkv
        obtain ⟨rs1, rs2⟩ := pm_ret_st θ m6 x.1 t
        have R1 : (pm_rm (rk av)).frames + 1 ≤ RM.frames ∧ 8 + (pm_nl y' + 11) + (pm_rm (rk av)).locals ≤ RM.locals := by
          have z1 := C.2.2.2.2.2.2.1.1
          have z2 := C.2.2.2.2.2.2.1.2
          unfold pm_rm
          dsimp only
          omega
        have hroom : ((t.map (pm_tv θ)).map fun v => v.category).sum ≤ 8 := by rw [pm_wd_tv]; exact c2
        have hsk : sk.map (pm_tv θ) = (av.map (pm_tv θ)).reverse ++ t.map (pm_tv θ) := by rw [u3, List.map_append, List.map_reverse]
        have kk : ∀ (H1 : Heap) (locs1 : List Loc), pm_rok y' x.1 → pm_PR θ env x.2 H1 → va_S (pm_A θ) s.heap H1 locs1 → W p l e RM s m args below meth c H1 locs1 cells slots Q (F0 m (pc + 3) ls ((pm_ro y' x.1).toList ++ t.map (pm_tv θ))) := fun H1 locs1 k1 k2 k3 => by
          rw [rs1]
          exact hG _ _ _ _ _ _ _ x2 p e RM s m args below meth c cells slots Q C H1 locs1 ls k2 k3 hL (rs2 k1 hkt) hR
        have hGd := pm_good y' m4
        have hfit : cells + 0 ≤ RM.cells ∧ slots + 0 ≤ RM.slots := C.2.2.2.2.2.2.2.1
        have hpre : ∀ U : State, U.heap = H → s.WarmedH U.vm → pm_Pc θ env av I (av.map (pm_tv θ)).toArray U := fun U hU hW => pm_pre hU hW hP C.2.2.2.2.2.1 C.2.2.2.2.2.2.2.2.1 C.2.2.2.2.2.2.2.2.2 hS
        rw [hsk]
        have hN : va_Nw (.methodLinkNest (pm_nm y).cls idx (pm_nm y') "TurnBoards") s := by
          rw [hl.1, hl.2.1, hl.2.2]
          exact C.2.2.2.2.2.2.2.2.2.2.2
        exact pm_back (va_runSN (As := av.map (pm_tv θ)) (rest := t.map (pm_tv θ)) (n := n) ⟨C.1, C.2.1, C.2.2.1, C.2.2.2.2.1, C.2.2.2.1⟩ Mt ⟨va_cnB n C.2.2.2.1 hGd rfl rfl rfl hN (C.2.2.2.1 _ m5) ⟨m7, m8, m9⟩ R1, C.2.2.2.1 _ hst, trivial⟩ ⟨pm_blind, hpre⟩ rfl (by rw [List.length_map]; exact u2) hL.1.1 rfl (lv_room hroom) hd hfit) hS kk
theorem k_callV {y' n w nl rc rt idx n1 : Nat} {rk : List pm_V → Nat} (hE : pm_EW θ env) (hd : decode (pm_cc y) pc = .ok (.invokevirtual idx, 3)) (hn : pc + 3 = nx) (hM : pm_MF y' n1 w nl rt) (hn1 : n = n1 + 1) (hl : Cond.methodLink (pm_nm y).cls idx (pm_nm y') ∈ pm_TB) (hi : Cond.instanceMethod (pm_nm y') ∈ pm_TB) (hse : Cond.selects (pm_nm y').cls (pm_nm y') (pm_nm y') ∈ pm_TB) (hrc8 : rc < 8) (hcl : (vwCl[rc]?).map (fun q => q.1) = some (pm_nm y').cls) : pm_Sd θ l env y pc (s_call y' n w nl rc rt rk nx) := by
  intro G hG d lo sk I res h
  subst hn
  unfold s_call at h
  cases hp : pm_pop n sk [] with
  | none => rw [hp] at h; cases h
  | some q =>
    obtain ⟨av, t⟩ := q
    rw [hp] at h
    dsimp only at h
    obtain ⟨us, u1, u2, u3⟩ := pm_pop_spec hp
    rw [List.append_nil] at u1
    have u1 : av = us := u1
    subst u1
    have u3 : sk = av.reverse ++ t := u3
    cases hrc : pm_rc env rc av with
    | false => rw [hrc] at h; cases h
    | true =>
      rw [hrc] at h
      dsimp only [cond_true] at h
      cases hcc : (Nat.blt (rk av) d && Nat.ble (pm_wd t) 8 && Nat.beq (pm_wd av) w) with
      | false => rw [hcc] at h; cases h
      | true =>
        rw [hcc] at h
        dsimp only [cond_true] at h
        rw [Bool.and_eq_true, Bool.and_eq_true] at hcc
        obtain ⟨⟨c1, c2⟩, c3⟩ := hcc
        have c1 : rk av < d := Nat.le_of_ble_eq_true c1
        have c2 := Nat.le_of_ble_eq_true c2
        have c3 := Nat.eq_of_beq_eq_true c3
        obtain ⟨x, x1, x2⟩ := Option.bind_eq_some_iff.mp h
        intro p e RM s m args below meth c cells slots Q C H locs ls hP hS hL hk hR
        obtain ⟨m1, m2, m3, m4, m5, m6, m7, m8, m9⟩ := id hM
        have hkv : ∀ v ∈ av, pm_ok v := fun v hv => hk v (by rw [u3]; exact List.mem_append_left _ (List.mem_reverse.mpr hv))
        have hkt : ∀ v ∈ t, pm_ok v := fun v hv => hk v (by rw [u3]; exact List.mem_append_right _ hv)
        have Mt := pm_Met (hG _ _ _ _ _ _ _ x1) m1 c3 m2 hM.g hkv
        obtain ⟨rs1, rs2⟩ := pm_ret_st θ m6 x.1 t
        have R1 : (pm_rm (rk av)).frames + 1 ≤ RM.frames ∧ 8 + (pm_nl y' + 11) + (pm_rm (rk av)).locals ≤ RM.locals := by
          have z1 := C.2.2.2.2.2.2.1.1
          have z2 := C.2.2.2.2.2.2.1.2
          unfold pm_rm
          dsimp only
          omega
        have hroom : ((t.map (pm_tv θ)).map fun v => v.category).sum ≤ 8 := by rw [pm_wd_tv]; exact c2
        have hsk : sk.map (pm_tv θ) = (av.map (pm_tv θ)).reverse ++ t.map (pm_tv θ) := by rw [u3, List.map_append, List.map_reverse]
        have kk : ∀ (H1 : Heap) (locs1 : List Loc), pm_rok y' x.1 → pm_PR θ env x.2 H1 → va_S (pm_A θ) s.heap H1 locs1 → W p l e RM s m args below meth c H1 locs1 cells slots Q (F0 m (pc + 3) ls ((pm_ro y' x.1).toList ++ t.map (pm_tv θ))) := fun H1 locs1 k1 k2 k3 => by
          rw [rs1]
          exact hG _ _ _ _ _ _ _ x2 p e RM s m args below meth c cells slots Q C H1 locs1 ls k2 k3 hL (rs2 k1 hkt) hR
        have hGd := pm_good y' m4
        have hfit : cells + 0 ≤ RM.cells ∧ slots + 0 ≤ RM.slots := C.2.2.2.2.2.2.2.1
        have hpre : ∀ U : State, U.heap = H → s.WarmedH U.vm → pm_Pc θ env av I (av.map (pm_tv θ)).toArray U := fun U hU hW => pm_pre hU hW hP C.2.2.2.2.2.1 C.2.2.2.2.2.2.2.2.1 C.2.2.2.2.2.2.2.2.2 hS
        cases av with
        | nil => rw [hn1] at u2; cases u2
        | cons v0 As =>
          have hrc2 := hrc
          unfold pm_rc at hrc2
          rw [show Nat.beq rc 99 = false from by cases hz : Nat.beq rc 99 with | false => rfl | true => have := Nat.eq_of_beq_eq_true hz; omega] at hrc2
          dsimp only [cond_false] at hrc2
          rcases v0 with z | z | r
          · cases hrc2
          · cases hrc2
          · have hrc2 : Nat.beq (env.1 r) rc = true := hrc2
            obtain ⟨⟨Cn, T, N⟩, f1, f2⟩ := Option.map_eq_some_iff.mp hcl
            have f2 : Cn = (pm_nm y').cls := f2
            obtain ⟨r0, -, -⟩ := pm_obj (I := I) hE hrc2 hrc8
            have hrv := pm_recv hE hP C.2.2.2.2.2.1 hrc2 hrc8 f1
            rw [f2] at hrv
            have e1 : ((Sum.inr (Sum.inr r) :: As : List pm_V).map (pm_tv θ)) = .ref (pm_as θ r) :: As.map (pm_tv θ) := by rw [List.map_cons, pm_tv_ref θ r0]
            rw [e1] at hsk hpre
            rw [List.reverse_cons, List.append_assoc] at hsk
            rw [hsk]
            exact pm_back (va_runV (C := (pm_nm y').cls) (b := pm_as θ r) (As := As.map (pm_tv θ)) (rest := t.map (pm_tv θ)) (n := n1) ⟨C.1, C.2.1, C.2.2.1, C.2.2.2.2.1, C.2.2.2.1⟩ Mt ⟨callB_of n1 C.2.2.2.1 hGd rfl rfl rfl (C.2.2.2.1 _ m5) (C.2.2.2.1 _ hl) ⟨m7, m8, m9⟩ R1, C.2.2.2.1 _ hi, C.2.2.2.1 _ hse⟩ ⟨pm_blind, hrv, hpre⟩ rfl (by rw [List.length_map]; rw [hn1] at u2; exact Nat.succ.inj u2) hL.1.1 rfl (lv_room hroom) hd hfit) hS kk
theorem k_min {idx : Nat} (hd : decode (pm_cc y) pc = .ok (.invokestatic idx, 3)) (hn : pc + 3 = nx) (hl : Cond.methodLink (pm_nm y).cls idx Lib.Math.min.name ∈ pm_TB) (hst : Cond.static Lib.Math.min.name ∈ pm_TB) (hin : Cond.initialized "java/lang/Math" ∈ pm_TB) (hco : Cond.code Lib.Math.min.name Lib.Math.min.code 2 (some .int) ∈ pm_TB) : pm_Sd θ l env y pc (s_min nx) := by
  intro G hG d lo sk I res h
  subst hn
  unfold s_min at h
  split at h
  · rename_i b a t
    cases hcc : (Nat.ble 1 d && Nat.ble (pm_wd t) 8) with
    | false => rw [hcc] at h; cases h
    | true =>
      rw [hcc] at h
      rw [Bool.and_eq_true] at hcc
      have c1 := Nat.le_of_ble_eq_true hcc.1
      have c2 := Nat.le_of_ble_eq_true hcc.2
      intro p e RM s m args below meth c cells slots Q C H locs ls hP hS hL hk hR
      have hb : pm_r32 b := hk (.inl b) List.mem_cons_self
      have ha : pm_r32 a := hk (.inl a) (List.mem_cons_of_mem _ List.mem_cons_self)
      have z1 := C.2.2.2.2.2.2.1.1
      have z2 := C.2.2.2.2.2.2.1.2
      have hroom : ((t.map (pm_tv θ)).map fun v => v.category).sum ≤ 8 := by rw [pm_wd_tv]; exact c2
      refine va_mmin (x := Int32.ofInt a) (y := Int32.ofInt b) C.1 C.2.1 (C.2.2.1.trans hL.1.1.symm) C.2.2.2.2.1 (C.2.2.2.1 _ hl) (C.2.2.2.1 _ hst) (C.2.2.2.1 _ hin) (C.2.2.2.1 _ hco) (by omega) (by omega) C.2.2.2.2.2.2.2.1.1 C.2.2.2.2.2.2.2.1.2 hd ?_
      have ev : (if Int32.ofInt b < Int32.ofInt a then Int32.ofInt b else Int32.ofInt a) = Int32.ofInt (min a b) := by
        by_cases q : b < a
        · rw [if_pos ((pm_lt hb ha).mpr q)]
          congr 1
          omega
        · rw [if_neg (fun z => q ((pm_lt hb ha).mp z))]
          congr 1
          omega
      rw [ev]
      exact hG _ _ _ _ _ _ _ h p e RM s m args below meth c cells slots Q C H locs ls hP hS hL (pm_okc (v := .inl (min a b)) (show pm_r32 (min a b) by omega) (fun u hu => hk u (List.mem_cons_of_mem _ (List.mem_cons_of_mem _ hu)))) hR
  · cases h
theorem k_max {idx : Nat} (hd : decode (pm_cc y) pc = .ok (.invokestatic idx, 3)) (hn : pc + 3 = nx) (hl : Cond.methodLink (pm_nm y).cls idx Lib.Math.max.name ∈ pm_TB) (hst : Cond.static Lib.Math.max.name ∈ pm_TB) (hin : Cond.initialized "java/lang/Math" ∈ pm_TB) (hco : Cond.code Lib.Math.max.name Lib.Math.max.code 2 (some .int) ∈ pm_TB) : pm_Sd θ l env y pc (s_max nx) := by
  intro G hG d lo sk I res h
  subst hn
  unfold s_max at h
  split at h
  · rename_i b a t
    cases hcc : (Nat.ble 1 d && Nat.ble (pm_wd t) 8) with
    | false => rw [hcc] at h; cases h
    | true =>
      rw [hcc] at h
      rw [Bool.and_eq_true] at hcc
      have c1 := Nat.le_of_ble_eq_true hcc.1
      have c2 := Nat.le_of_ble_eq_true hcc.2
      intro p e RM s m args below meth c cells slots Q C H locs ls hP hS hL hk hR
      have hb : pm_r32 b := hk (.inl b) List.mem_cons_self
      have ha : pm_r32 a := hk (.inl a) (List.mem_cons_of_mem _ List.mem_cons_self)
      have z1 := C.2.2.2.2.2.2.1.1
      have z2 := C.2.2.2.2.2.2.1.2
      have hroom : ((t.map (pm_tv θ)).map fun v => v.category).sum ≤ 8 := by rw [pm_wd_tv]; exact c2
      refine va_mmax (x := Int32.ofInt a) (y := Int32.ofInt b) C.1 C.2.1 (C.2.2.1.trans hL.1.1.symm) C.2.2.2.2.1 (C.2.2.2.1 _ hl) (C.2.2.2.1 _ hst) (C.2.2.2.1 _ hin) (C.2.2.2.1 _ hco) (by omega) (by omega) C.2.2.2.2.2.2.2.1.1 C.2.2.2.2.2.2.2.1.2 hd ?_
      have ev : (if Int32.ofInt a < Int32.ofInt b then Int32.ofInt b else Int32.ofInt a) = Int32.ofInt (max a b) := by
        by_cases q : a < b
        · rw [if_pos ((pm_lt ha hb).mpr q)]
          congr 1
          omega
        · rw [if_neg (fun z => q ((pm_lt ha hb).mp z))]
          congr 1
          omega
      rw [ev]
      exact hG _ _ _ _ _ _ _ h p e RM s m args below meth c cells slots Q C H locs ls hP hS hL (pm_okc (v := .inl (max a b)) (show pm_r32 (max a b) by omega) (fun u hu => hk u (List.mem_cons_of_mem _ (List.mem_cons_of_mem _ hu)))) hR
  · cases h
theorem k_copy {idx : Nat} (hE : pm_EW θ env) (hd : decode (pm_cc y) pc = .ok (.invokestatic idx, 3)) (hn : pc + 3 = nx) (hl : Cond.methodLink (pm_nm y).cls idx arraycopyName ∈ pm_TB) (hna : Cond.native arraycopyName ∈ pm_TB) (hst : Cond.static arraycopyName ∈ pm_TB) (hin : Cond.initialized "java/lang/System" ∈ pm_TB) : pm_Sd θ l env y pc (s_copy nx) := by
  intro G hG d lo sk I res h
  subst hn
  unfold s_copy at h
  split at h
  · rename_i n dp r sp q t
    cases hcc : (Nat.ble 1 d && Nat.ble (pm_wd t) 8 && Nat.beq (env.1 r) 8 && Nat.beq (env.1 q) 8) with
    | false => rw [hcc] at h; cases h
    | true =>
      rw [hcc] at h
      dsimp only [cond_true] at h
      rw [Bool.and_eq_true, Bool.and_eq_true, Bool.and_eq_true] at hcc
      obtain ⟨⟨⟨c1, c2⟩, c3⟩, c4⟩ := hcc
      have c1 := Nat.le_of_ble_eq_true c1
      have c2 := Nat.le_of_ble_eq_true c2
      split at h
      · rename_i g0
        split at h
        · rename_i g1
          split at h
          · rename_i g2
            intro p e RM s m args below meth c cells slots Q C H locs ls hP hS hL hk hR
            have k1 : pm_r32 n := hk (.inl n) (by simp)
            have k2 : pm_r32 dp := hk (.inl dp) (by simp)
            have k3 : pm_r32 sp := hk (.inl sp) (by simp)
            have hkt : ∀ v ∈ t, pm_ok v := fun v hv => hk v (by simp [hv])
            have z1 := C.2.2.2.2.2.2.1.1
            have z2 := C.2.2.2.2.2.2.1.2
            have hroom : ((t.map (pm_tv θ)).map fun v => v.category).sum ≤ 8 := by rw [pm_wd_tv]; exact c2
            have hnf : nativeFrameWords "java/lang/System" "arraycopy" 5 + 11 ≤ 52 := by decide +kernel
            obtain ⟨r0, rb, he⟩ := pm_arI (I := I) hE c3
            obtain ⟨q0, qb, hf⟩ := pm_arI (I := I) hE c4
            have l1 := (hE.2.1 r).2
            have l2 := (hE.2.1 q).2
            simp only [List.map_cons, pm_tv_ref θ r0, pm_tv_ref θ q0]
            refine va_copyi (D := pm_D θ) (cl := vwCl) (tys := pm_tys θ) (ty := .int) (sp := Int32.ofInt sp) (dp := Int32.ofInt dp) (n := Int32.ofInt n) C.1 C.2.1 (C.2.2.1.trans hL.1.1.symm) C.2.2.2.2.1 (C.2.2.2.1 _ hl) (C.2.2.2.1 _ hna) (C.2.2.2.1 _ hst) (C.2.2.2.1 _ hin) C.2.2.2.2.2.1 hP.1 hP.2.1 hS (q - 3) (r - 3) 0 0 hf he rfl rfl rfl (by rw [pm_lt0 k3]; omega) (by rw [pm_lt0 k2]; omega) (by rw [pm_lt0 k1]; omega) (by rw [pm_clamp k3, pm_clamp k1]; omega) (by rw [pm_clamp k2, pm_clamp k1]; omega) (fun _ _ => rfl) (by omega) (by omega) hd (fun H1 locs1 a1 a2 a3 => ?_)
            have hoff : ∀ z, z ≠ r → ∀ j, pm_cp I q sp r dp n z j = I z j := fun z hz j => by simp [pm_cp, hz]
            have hcell : pm_cell θ env (pm_cp I q sp r dp n) r = .inl (θ.2.1.1, (env.2.1 r).toNat, .inl (va_cpy (fun j => Int32.ofInt (I q j)) (fun j => Int32.ofInt (I r j)) (Int32.ofInt sp).toNatClampNeg (Int32.ofInt dp).toNatClampNeg (Int32.ofInt n).toNatClampNeg)) := by
              unfold pm_cell
              rw [if_pos (Nat.eq_of_beq_eq_true c3)]
              congr 3
              congr 1
              funext j
              rw [pm_clamp k1, pm_clamp k2, pm_clamp k3]
              unfold va_cpy pm_cp
              by_cases hj : dp.toNat ≤ j ∧ j < dp.toNat + n.toNat
              · rw [if_pos hj, if_pos ⟨rfl, by omega, by omega⟩]
                congr 2
                omega
              · rw [if_neg hj, if_neg (fun z => hj (by omega))]
            rw [pm_ws_set θ env (I' := pm_cp I q sp r dp n) rb hoff hcell] at a1 a2
            refine hG _ _ _ _ _ _ _ h p e RM s m args below meth c cells slots Q C H1 locs1 ls ⟨a1, a2, fun z j => ?_⟩ a3 hL hkt hR
            unfold pm_cp
            split
            · exact hP.2.2 _ _
            · exact hP.2.2 _ _
          · cases h
        · cases h
      · cases h
  · cases h
end CALLS
end
