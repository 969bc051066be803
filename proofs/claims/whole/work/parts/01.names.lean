-- ===== PART A: goes FIRST, ahead of the names: the tables' words, and 'selects' of the private methods out of them =====
/-- a private method of a class that the tables say can be made, by its rows of tables_1 -/
def lw_okq (q : MethodName × Nat) : Prop := (q.1.cls ≠ "java/lang/invoke/MethodHandle" ∧ q.1.cls ≠ "java/lang/invoke/VarHandle") ∧ Cond.instantiable q.1.cls q.2 ∈ tables_1 ∧ Cond.privateMethod q.1 ∈ tables_1 ∧ Cond.instanceMethod q.1 ∈ tables_1
theorem lw_p0 : lw_okq (⟨"OneStair$Text", "skipBlanks", "()V"⟩, 5) := ⟨⟨by decide +kernel, by decide +kernel⟩, List.mem_of_getElem? (i := 140) (by decide +kernel), List.mem_of_getElem? (i := 299) (by decide +kernel), List.mem_of_getElem? (i := 300) (by decide +kernel)⟩
theorem lw_p1 : lw_okq (⟨"OneStair$Text", "readEntry", "(LOneStair$Tower;)V"⟩, 5) := ⟨⟨by decide +kernel, by decide +kernel⟩, List.mem_of_getElem? (i := 140) (by decide +kernel), List.mem_of_getElem? (i := 303) (by decide +kernel), List.mem_of_getElem? (i := 304) (by decide +kernel)⟩
theorem lw_p2 : lw_okq (⟨"OneStair$Text", "takeName", "()V"⟩, 5) := ⟨⟨by decide +kernel, by decide +kernel⟩, List.mem_of_getElem? (i := 140) (by decide +kernel), List.mem_of_getElem? (i := 307) (by decide +kernel), List.mem_of_getElem? (i := 308) (by decide +kernel)⟩
theorem lw_p3 : lw_okq (⟨"OneStair$Text", "nameIs", "(Ljava/lang/String;)Z"⟩, 5) := ⟨⟨by decide +kernel, by decide +kernel⟩, List.mem_of_getElem? (i := 140) (by decide +kernel), List.mem_of_getElem? (i := 312) (by decide +kernel), List.mem_of_getElem? (i := 313) (by decide +kernel)⟩
theorem lw_p4 : lw_okq (⟨"OneStair$Text", "readHat", "(LOneStair$Tower;)V"⟩, 5) := ⟨⟨by decide +kernel, by decide +kernel⟩, List.mem_of_getElem? (i := 140) (by decide +kernel), List.mem_of_getElem? (i := 364) (by decide +kernel), List.mem_of_getElem? (i := 365) (by decide +kernel)⟩
theorem lw_p5 : lw_okq (⟨"OneStair$Text", "number", "(II)I"⟩, 5) := ⟨⟨by decide +kernel, by decide +kernel⟩, List.mem_of_getElem? (i := 140) (by decide +kernel), List.mem_of_getElem? (i := 368) (by decide +kernel), List.mem_of_getElem? (i := 369) (by decide +kernel)⟩
theorem lw_p6 : lw_okq (⟨"OneStair$Text", "word", "(Ljava/lang/String;)V"⟩, 5) := ⟨⟨by decide +kernel, by decide +kernel⟩, List.mem_of_getElem? (i := 140) (by decide +kernel), List.mem_of_getElem? (i := 374) (by decide +kernel), List.mem_of_getElem? (i := 375) (by decide +kernel)⟩
theorem lw_p7 : lw_okq (⟨"OneStair$Text", "semicolon", "()V"⟩, 5) := ⟨⟨by decide +kernel, by decide +kernel⟩, List.mem_of_getElem? (i := 140) (by decide +kernel), List.mem_of_getElem? (i := 379) (by decide +kernel), List.mem_of_getElem? (i := 380) (by decide +kernel)⟩
theorem lw_p8 : lw_okq (⟨"OneStair$Text", "semicolonIsNext", "()Z"⟩, 5) := ⟨⟨by decide +kernel, by decide +kernel⟩, List.mem_of_getElem? (i := 140) (by decide +kernel), List.mem_of_getElem? (i := 383) (by decide +kernel), List.mem_of_getElem? (i := 384) (by decide +kernel)⟩
theorem lw_p9 : lw_okq (⟨"OneStair$Text", "readRoom", "(LOneStair$Tower;)V"⟩, 5) := ⟨⟨by decide +kernel, by decide +kernel⟩, List.mem_of_getElem? (i := 140) (by decide +kernel), List.mem_of_getElem? (i := 392) (by decide +kernel), List.mem_of_getElem? (i := 393) (by decide +kernel)⟩
theorem lw_p10 : lw_okq (⟨"OneStair$Text", "kindNamed", "()I"⟩, 5) := ⟨⟨by decide +kernel, by decide +kernel⟩, List.mem_of_getElem? (i := 140) (by decide +kernel), List.mem_of_getElem? (i := 396) (by decide +kernel), List.mem_of_getElem? (i := 397) (by decide +kernel)⟩
theorem lw_p11 : lw_okq (⟨"OneStair$Text", "readPerson", "(LOneStair$Tower;I)V"⟩, 5) := ⟨⟨by decide +kernel, by decide +kernel⟩, List.mem_of_getElem? (i := 140) (by decide +kernel), List.mem_of_getElem? (i := 406) (by decide +kernel), List.mem_of_getElem? (i := 407) (by decide +kernel)⟩
theorem lw_p12 : lw_okq (⟨"OneStair$Stair", "lineUp", "(I)V"⟩, 9) := ⟨⟨by decide +kernel, by decide +kernel⟩, List.mem_of_getElem? (i := 104) (by decide +kernel), List.mem_of_getElem? (i := 515) (by decide +kernel), List.mem_of_getElem? (i := 516) (by decide +kernel)⟩
theorem lw_p13 : lw_okq (⟨"OneStair$Stair", "go", "(LOneStair$Tower;I)V"⟩, 9) := ⟨⟨by decide +kernel, by decide +kernel⟩, List.mem_of_getElem? (i := 104) (by decide +kernel), List.mem_of_getElem? (i := 524) (by decide +kernel), List.mem_of_getElem? (i := 525) (by decide +kernel)⟩
theorem lw_p14 : lw_okq (⟨"OneStair$Stair", "enters", "(LOneStair$Tower;I)Z"⟩, 9) := ⟨⟨by decide +kernel, by decide +kernel⟩, List.mem_of_getElem? (i := 104) (by decide +kernel), List.mem_of_getElem? (i := 531) (by decide +kernel), List.mem_of_getElem? (i := 532) (by decide +kernel)⟩
theorem lw_p15 : lw_okq (⟨"OneStair$Stair", "step", "(LOneStair$Tower;I)V"⟩, 9) := ⟨⟨by decide +kernel, by decide +kernel⟩, List.mem_of_getElem? (i := 104) (by decide +kernel), List.mem_of_getElem? (i := 538) (by decide +kernel), List.mem_of_getElem? (i := 539) (by decide +kernel)⟩
def lw_privs_1 : List (MethodName × Nat) := [(⟨"OneStair$Text", "skipBlanks", "()V"⟩, 5), (⟨"OneStair$Text", "readEntry", "(LOneStair$Tower;)V"⟩, 5), (⟨"OneStair$Text", "takeName", "()V"⟩, 5), (⟨"OneStair$Text", "nameIs", "(Ljava/lang/String;)Z"⟩, 5), (⟨"OneStair$Text", "readHat", "(LOneStair$Tower;)V"⟩, 5), (⟨"OneStair$Text", "number", "(II)I"⟩, 5), (⟨"OneStair$Text", "word", "(Ljava/lang/String;)V"⟩, 5), (⟨"OneStair$Text", "semicolon", "()V"⟩, 5), (⟨"OneStair$Text", "semicolonIsNext", "()Z"⟩, 5), (⟨"OneStair$Text", "readRoom", "(LOneStair$Tower;)V"⟩, 5), (⟨"OneStair$Text", "kindNamed", "()I"⟩, 5), (⟨"OneStair$Text", "readPerson", "(LOneStair$Tower;I)V"⟩, 5), (⟨"OneStair$Stair", "lineUp", "(I)V"⟩, 9), (⟨"OneStair$Stair", "go", "(LOneStair$Tower;I)V"⟩, 9), (⟨"OneStair$Stair", "enters", "(LOneStair$Tower;I)Z"⟩, 9), (⟨"OneStair$Stair", "step", "(LOneStair$Tower;I)V"⟩, 9)]
theorem lw_r1 : ∀ q ∈ lw_privs_1, lw_okq q := List.forall_mem_cons.mpr ⟨lw_p0, List.forall_mem_cons.mpr ⟨lw_p1, List.forall_mem_cons.mpr ⟨lw_p2, List.forall_mem_cons.mpr ⟨lw_p3, List.forall_mem_cons.mpr ⟨lw_p4, List.forall_mem_cons.mpr ⟨lw_p5, List.forall_mem_cons.mpr ⟨lw_p6, List.forall_mem_cons.mpr ⟨lw_p7, List.forall_mem_cons.mpr ⟨lw_p8, List.forall_mem_cons.mpr ⟨lw_p9, List.forall_mem_cons.mpr ⟨lw_p10, List.forall_mem_cons.mpr ⟨lw_p11, List.forall_mem_cons.mpr ⟨lw_p12, List.forall_mem_cons.mpr ⟨lw_p13, List.forall_mem_cons.mpr ⟨lw_p14, List.forall_mem_cons.mpr ⟨lw_p15, fun _ h => absurd h List.not_mem_nil⟩⟩⟩⟩⟩⟩⟩⟩⟩⟩⟩⟩⟩⟩⟩⟩
theorem lw_p16 : lw_okq (⟨"OneStair", "tryToTheEnd", "()V"⟩, 12) := ⟨⟨by decide +kernel, by decide +kernel⟩, List.mem_of_getElem? (i := 18) (by decide +kernel), List.mem_of_getElem? (i := 553) (by decide +kernel), List.mem_of_getElem? (i := 554) (by decide +kernel)⟩
theorem lw_p17 : lw_okq (⟨"OneStair", "arrivesBy", "(III)Z"⟩, 12) := ⟨⟨by decide +kernel, by decide +kernel⟩, List.mem_of_getElem? (i := 18) (by decide +kernel), List.mem_of_getElem? (i := 596) (by decide +kernel), List.mem_of_getElem? (i := 597) (by decide +kernel)⟩
theorem lw_p18 : lw_okq (⟨"OneStair", "latestWithSwap", "(III)I"⟩, 12) := ⟨⟨by decide +kernel, by decide +kernel⟩, List.mem_of_getElem? (i := 18) (by decide +kernel), List.mem_of_getElem? (i := 604) (by decide +kernel), List.mem_of_getElem? (i := 605) (by decide +kernel)⟩
theorem lw_p19 : lw_okq (⟨"OneStair", "rentOfFloor", "(I)I"⟩, 12) := ⟨⟨by decide +kernel, by decide +kernel⟩, List.mem_of_getElem? (i := 18) (by decide +kernel), List.mem_of_getElem? (i := 624) (by decide +kernel), List.mem_of_getElem? (i := 625) (by decide +kernel)⟩
theorem lw_p20 : lw_okq (⟨"OneStair", "passAndTell", "([I)V"⟩, 12) := ⟨⟨by decide +kernel, by decide +kernel⟩, List.mem_of_getElem? (i := 18) (by decide +kernel), List.mem_of_getElem? (i := 645) (by decide +kernel), List.mem_of_getElem? (i := 646) (by decide +kernel)⟩
theorem lw_p21 : lw_okq (⟨"OneStair", "isInRows", "(II)Z"⟩, 12) := ⟨⟨by decide +kernel, by decide +kernel⟩, List.mem_of_getElem? (i := 18) (by decide +kernel), List.mem_of_getElem? (i := 661) (by decide +kernel), List.mem_of_getElem? (i := 662) (by decide +kernel)⟩
theorem lw_p22 : lw_okq (⟨"OneStair", "isRight", "([I)Z"⟩, 12) := ⟨⟨by decide +kernel, by decide +kernel⟩, List.mem_of_getElem? (i := 18) (by decide +kernel), List.mem_of_getElem? (i := 673) (by decide +kernel), List.mem_of_getElem? (i := 674) (by decide +kernel)⟩
theorem lw_p23 : lw_okq (⟨"OneStair", "personOn", "(I)I"⟩, 12) := ⟨⟨by decide +kernel, by decide +kernel⟩, List.mem_of_getElem? (i := 18) (by decide +kernel), List.mem_of_getElem? (i := 731) (by decide +kernel), List.mem_of_getElem? (i := 732) (by decide +kernel)⟩
theorem lw_p24 : lw_okq (⟨"OneStair$Actor", "climbs", "(I)I"⟩, 6) := ⟨⟨by decide +kernel, by decide +kernel⟩, List.mem_of_getElem? (i := 170) (by decide +kernel), List.mem_of_getElem? (i := 756) (by decide +kernel), List.mem_of_getElem? (i := 757) (by decide +kernel)⟩
theorem lw_p25 : lw_okq (⟨"OneStair$Actor", "begin", "(I)V"⟩, 6) := ⟨⟨by decide +kernel, by decide +kernel⟩, List.mem_of_getElem? (i := 170) (by decide +kernel), List.mem_of_getElem? (i := 760) (by decide +kernel), List.mem_of_getElem? (i := 761) (by decide +kernel)⟩
theorem lw_p26 : lw_okq (⟨"OneStair$Actor", "yields", "(I)I"⟩, 6) := ⟨⟨by decide +kernel, by decide +kernel⟩, List.mem_of_getElem? (i := 170) (by decide +kernel), List.mem_of_getElem? (i := 764) (by decide +kernel), List.mem_of_getElem? (i := 765) (by decide +kernel)⟩
theorem lw_p27 : lw_okq (⟨"OneStair$Actor", "shares", "(I)I"⟩, 6) := ⟨⟨by decide +kernel, by decide +kernel⟩, List.mem_of_getElem? (i := 170) (by decide +kernel), List.mem_of_getElem? (i := 768) (by decide +kernel), List.mem_of_getElem? (i := 769) (by decide +kernel)⟩
theorem lw_p28 : lw_okq (⟨"OneStair$Actor", "partOf", "(I)I"⟩, 6) := ⟨⟨by decide +kernel, by decide +kernel⟩, List.mem_of_getElem? (i := 170) (by decide +kernel), List.mem_of_getElem? (i := 772) (by decide +kernel), List.mem_of_getElem? (i := 773) (by decide +kernel)⟩
theorem lw_p29 : lw_okq (⟨"OneStair$Actor", "tells", "(I)I"⟩, 6) := ⟨⟨by decide +kernel, by decide +kernel⟩, List.mem_of_getElem? (i := 170) (by decide +kernel), List.mem_of_getElem? (i := 776) (by decide +kernel), List.mem_of_getElem? (i := 777) (by decide +kernel)⟩
theorem lw_p30 : lw_okq (⟨"OneStairModel", "advance", "()V"⟩, 53) := ⟨⟨by decide +kernel, by decide +kernel⟩, List.mem_of_getElem? (i := 802) (by decide +kernel), List.mem_of_getElem? (i := 981) (by decide +kernel), List.mem_of_getElem? (i := 982) (by decide +kernel)⟩
theorem lw_p31 : lw_okq (⟨"OneStairModel", "byteAt", "(I)I"⟩, 53) := ⟨⟨by decide +kernel, by decide +kernel⟩, List.mem_of_getElem? (i := 802) (by decide +kernel), List.mem_of_getElem? (i := 985) (by decide +kernel), List.mem_of_getElem? (i := 986) (by decide +kernel)⟩
def lw_privs_2 : List (MethodName × Nat) := [(⟨"OneStair", "tryToTheEnd", "()V"⟩, 12), (⟨"OneStair", "arrivesBy", "(III)Z"⟩, 12), (⟨"OneStair", "latestWithSwap", "(III)I"⟩, 12), (⟨"OneStair", "rentOfFloor", "(I)I"⟩, 12), (⟨"OneStair", "passAndTell", "([I)V"⟩, 12), (⟨"OneStair", "isInRows", "(II)Z"⟩, 12), (⟨"OneStair", "isRight", "([I)Z"⟩, 12), (⟨"OneStair", "personOn", "(I)I"⟩, 12), (⟨"OneStair$Actor", "climbs", "(I)I"⟩, 6), (⟨"OneStair$Actor", "begin", "(I)V"⟩, 6), (⟨"OneStair$Actor", "yields", "(I)I"⟩, 6), (⟨"OneStair$Actor", "shares", "(I)I"⟩, 6), (⟨"OneStair$Actor", "partOf", "(I)I"⟩, 6), (⟨"OneStair$Actor", "tells", "(I)I"⟩, 6), (⟨"OneStairModel", "advance", "()V"⟩, 53), (⟨"OneStairModel", "byteAt", "(I)I"⟩, 53)]
theorem lw_r2 : ∀ q ∈ lw_privs_2, lw_okq q := List.forall_mem_cons.mpr ⟨lw_p16, List.forall_mem_cons.mpr ⟨lw_p17, List.forall_mem_cons.mpr ⟨lw_p18, List.forall_mem_cons.mpr ⟨lw_p19, List.forall_mem_cons.mpr ⟨lw_p20, List.forall_mem_cons.mpr ⟨lw_p21, List.forall_mem_cons.mpr ⟨lw_p22, List.forall_mem_cons.mpr ⟨lw_p23, List.forall_mem_cons.mpr ⟨lw_p24, List.forall_mem_cons.mpr ⟨lw_p25, List.forall_mem_cons.mpr ⟨lw_p26, List.forall_mem_cons.mpr ⟨lw_p27, List.forall_mem_cons.mpr ⟨lw_p28, List.forall_mem_cons.mpr ⟨lw_p29, List.forall_mem_cons.mpr ⟨lw_p30, List.forall_mem_cons.mpr ⟨lw_p31, fun _ h => absurd h List.not_mem_nil⟩⟩⟩⟩⟩⟩⟩⟩⟩⟩⟩⟩⟩⟩⟩⟩
theorem lw_p32 : lw_okq (⟨"OneStairModel", "wantClause", "()V"⟩, 53) := ⟨⟨by decide +kernel, by decide +kernel⟩, List.mem_of_getElem? (i := 802) (by decide +kernel), List.mem_of_getElem? (i := 998) (by decide +kernel), List.mem_of_getElem? (i := 999) (by decide +kernel)⟩
theorem lw_p33 : lw_okq (⟨"OneStairModel", "kindHere", "()I"⟩, 53) := ⟨⟨by decide +kernel, by decide +kernel⟩, List.mem_of_getElem? (i := 802) (by decide +kernel), List.mem_of_getElem? (i := 1002) (by decide +kernel), List.mem_of_getElem? (i := 1003) (by decide +kernel)⟩
theorem lw_p34 : lw_okq (⟨"OneStairModel", "isWord", "(J)Z"⟩, 53) := ⟨⟨by decide +kernel, by decide +kernel⟩, List.mem_of_getElem? (i := 802) (by decide +kernel), List.mem_of_getElem? (i := 1007) (by decide +kernel), List.mem_of_getElem? (i := 1008) (by decide +kernel)⟩
theorem lw_p35 : lw_okq (⟨"OneStairModel", "wantPerson", "(I)V"⟩, 53) := ⟨⟨by decide +kernel, by decide +kernel⟩, List.mem_of_getElem? (i := 802) (by decide +kernel), List.mem_of_getElem? (i := 1016) (by decide +kernel), List.mem_of_getElem? (i := 1017) (by decide +kernel)⟩
theorem lw_p36 : lw_okq (⟨"OneStairModel", "wantNumber", "(II)I"⟩, 53) := ⟨⟨by decide +kernel, by decide +kernel⟩, List.mem_of_getElem? (i := 802) (by decide +kernel), List.mem_of_getElem? (i := 1020) (by decide +kernel), List.mem_of_getElem? (i := 1021) (by decide +kernel)⟩
theorem lw_p37 : lw_okq (⟨"OneStairModel", "wantWord", "(J)V"⟩, 53) := ⟨⟨by decide +kernel, by decide +kernel⟩, List.mem_of_getElem? (i := 802) (by decide +kernel), List.mem_of_getElem? (i := 1025) (by decide +kernel), List.mem_of_getElem? (i := 1026) (by decide +kernel)⟩
theorem lw_p38 : lw_okq (⟨"OneStairModel", "wantEnd", "()V"⟩, 53) := ⟨⟨by decide +kernel, by decide +kernel⟩, List.mem_of_getElem? (i := 802) (by decide +kernel), List.mem_of_getElem? (i := 1031) (by decide +kernel), List.mem_of_getElem? (i := 1032) (by decide +kernel)⟩
theorem lw_p39 : lw_okq (⟨"OneStairModel", "isMark", "(I)Z"⟩, 53) := ⟨⟨by decide +kernel, by decide +kernel⟩, List.mem_of_getElem? (i := 802) (by decide +kernel), List.mem_of_getElem? (i := 1035) (by decide +kernel), List.mem_of_getElem? (i := 1036) (by decide +kernel)⟩
theorem lw_p40 : lw_okq (⟨"OneStairModel", "wantHat", "()V"⟩, 53) := ⟨⟨by decide +kernel, by decide +kernel⟩, List.mem_of_getElem? (i := 802) (by decide +kernel), List.mem_of_getElem? (i := 1040) (by decide +kernel), List.mem_of_getElem? (i := 1041) (by decide +kernel)⟩
theorem lw_p41 : lw_okq (⟨"OneStairModel", "turnsInto", "()V"⟩, 53) := ⟨⟨by decide +kernel, by decide +kernel⟩, List.mem_of_getElem? (i := 802) (by decide +kernel), List.mem_of_getElem? (i := 1046) (by decide +kernel), List.mem_of_getElem? (i := 1047) (by decide +kernel)⟩
theorem lw_p42 : lw_okq (⟨"OneStairModel", "addHat", "(III)V"⟩, 53) := ⟨⟨by decide +kernel, by decide +kernel⟩, List.mem_of_getElem? (i := 802) (by decide +kernel), List.mem_of_getElem? (i := 1064) (by decide +kernel), List.mem_of_getElem? (i := 1065) (by decide +kernel)⟩
theorem lw_p43 : lw_okq (⟨"OneStairModel", "isClosed", "(II)Z"⟩, 53) := ⟨⟨by decide +kernel, by decide +kernel⟩, List.mem_of_getElem? (i := 802) (by decide +kernel), List.mem_of_getElem? (i := 1079) (by decide +kernel), List.mem_of_getElem? (i := 1080) (by decide +kernel)⟩
theorem lw_p44 : lw_okq (⟨"OneStairModel", "isPerson", "(I)Z"⟩, 53) := ⟨⟨by decide +kernel, by decide +kernel⟩, List.mem_of_getElem? (i := 802) (by decide +kernel), List.mem_of_getElem? (i := 1097) (by decide +kernel), List.mem_of_getElem? (i := 1098) (by decide +kernel)⟩
theorem lw_p45 : lw_okq (⟨"OneStairModel", "takes", "(I)I"⟩, 53) := ⟨⟨by decide +kernel, by decide +kernel⟩, List.mem_of_getElem? (i := 802) (by decide +kernel), List.mem_of_getElem? (i := 1104) (by decide +kernel), List.mem_of_getElem? (i := 1105) (by decide +kernel)⟩
theorem lw_p46 : lw_okq (⟨"OneStairModel", "rank", "(I)I"⟩, 53) := ⟨⟨by decide +kernel, by decide +kernel⟩, List.mem_of_getElem? (i := 802) (by decide +kernel), List.mem_of_getElem? (i := 1108) (by decide +kernel), List.mem_of_getElem? (i := 1109) (by decide +kernel)⟩
theorem lw_p47 : lw_okq (⟨"OneStairModel", "setsOut", "(II)V"⟩, 53) := ⟨⟨by decide +kernel, by decide +kernel⟩, List.mem_of_getElem? (i := 802) (by decide +kernel), List.mem_of_getElem? (i := 1120) (by decide +kernel), List.mem_of_getElem? (i := 1121) (by decide +kernel)⟩
def lw_privs_3 : List (MethodName × Nat) := [(⟨"OneStairModel", "wantClause", "()V"⟩, 53), (⟨"OneStairModel", "kindHere", "()I"⟩, 53), (⟨"OneStairModel", "isWord", "(J)Z"⟩, 53), (⟨"OneStairModel", "wantPerson", "(I)V"⟩, 53), (⟨"OneStairModel", "wantNumber", "(II)I"⟩, 53), (⟨"OneStairModel", "wantWord", "(J)V"⟩, 53), (⟨"OneStairModel", "wantEnd", "()V"⟩, 53), (⟨"OneStairModel", "isMark", "(I)Z"⟩, 53), (⟨"OneStairModel", "wantHat", "()V"⟩, 53), (⟨"OneStairModel", "turnsInto", "()V"⟩, 53), (⟨"OneStairModel", "addHat", "(III)V"⟩, 53), (⟨"OneStairModel", "isClosed", "(II)Z"⟩, 53), (⟨"OneStairModel", "isPerson", "(I)Z"⟩, 53), (⟨"OneStairModel", "takes", "(I)I"⟩, 53), (⟨"OneStairModel", "rank", "(I)I"⟩, 53), (⟨"OneStairModel", "setsOut", "(II)V"⟩, 53)]
theorem lw_r3 : ∀ q ∈ lw_privs_3, lw_okq q := List.forall_mem_cons.mpr ⟨lw_p32, List.forall_mem_cons.mpr ⟨lw_p33, List.forall_mem_cons.mpr ⟨lw_p34, List.forall_mem_cons.mpr ⟨lw_p35, List.forall_mem_cons.mpr ⟨lw_p36, List.forall_mem_cons.mpr ⟨lw_p37, List.forall_mem_cons.mpr ⟨lw_p38, List.forall_mem_cons.mpr ⟨lw_p39, List.forall_mem_cons.mpr ⟨lw_p40, List.forall_mem_cons.mpr ⟨lw_p41, List.forall_mem_cons.mpr ⟨lw_p42, List.forall_mem_cons.mpr ⟨lw_p43, List.forall_mem_cons.mpr ⟨lw_p44, List.forall_mem_cons.mpr ⟨lw_p45, List.forall_mem_cons.mpr ⟨lw_p46, List.forall_mem_cons.mpr ⟨lw_p47, fun _ h => absurd h List.not_mem_nil⟩⟩⟩⟩⟩⟩⟩⟩⟩⟩⟩⟩⟩⟩⟩⟩
theorem lw_p48 : lw_okq (⟨"OneStairModel", "becomes", "(II)V"⟩, 53) := ⟨⟨by decide +kernel, by decide +kernel⟩, List.mem_of_getElem? (i := 802) (by decide +kernel), List.mem_of_getElem? (i := 1124) (by decide +kernel), List.mem_of_getElem? (i := 1125) (by decide +kernel)⟩
theorem lw_p49 : lw_okq (⟨"OneStairModel", "go", "(I)V"⟩, 53) := ⟨⟨by decide +kernel, by decide +kernel⟩, List.mem_of_getElem? (i := 802) (by decide +kernel), List.mem_of_getElem? (i := 1140) (by decide +kernel), List.mem_of_getElem? (i := 1141) (by decide +kernel)⟩
theorem lw_p50 : lw_okq (⟨"OneStairModel", "its", "(I)I"⟩, 53) := ⟨⟨by decide +kernel, by decide +kernel⟩, List.mem_of_getElem? (i := 802) (by decide +kernel), List.mem_of_getElem? (i := 1144) (by decide +kernel), List.mem_of_getElem? (i := 1145) (by decide +kernel)⟩
theorem lw_p51 : lw_okq (⟨"OneStairModel", "minuteGoes", "()V"⟩, 53) := ⟨⟨by decide +kernel, by decide +kernel⟩, List.mem_of_getElem? (i := 802) (by decide +kernel), List.mem_of_getElem? (i := 1148) (by decide +kernel), List.mem_of_getElem? (i := 1149) (by decide +kernel)⟩
theorem lw_p52 : lw_okq (⟨"OneStairModel", "goes", "(I)V"⟩, 53) := ⟨⟨by decide +kernel, by decide +kernel⟩, List.mem_of_getElem? (i := 802) (by decide +kernel), List.mem_of_getElem? (i := 1152) (by decide +kernel), List.mem_of_getElem? (i := 1153) (by decide +kernel)⟩
theorem lw_p53 : lw_okq (⟨"OneStairModel", "isThere", "(I)Z"⟩, 53) := ⟨⟨by decide +kernel, by decide +kernel⟩, List.mem_of_getElem? (i := 802) (by decide +kernel), List.mem_of_getElem? (i := 1156) (by decide +kernel), List.mem_of_getElem? (i := 1157) (by decide +kernel)⟩
theorem lw_p54 : lw_okq (⟨"OneStairModel", "mayGo", "(I)I"⟩, 53) := ⟨⟨by decide +kernel, by decide +kernel⟩, List.mem_of_getElem? (i := 802) (by decide +kernel), List.mem_of_getElem? (i := 1160) (by decide +kernel), List.mem_of_getElem? (i := 1161) (by decide +kernel)⟩
theorem lw_p55 : lw_okq (⟨"OneStairModel", "steps", "(II)Z"⟩, 53) := ⟨⟨by decide +kernel, by decide +kernel⟩, List.mem_of_getElem? (i := 802) (by decide +kernel), List.mem_of_getElem? (i := 1164) (by decide +kernel), List.mem_of_getElem? (i := 1165) (by decide +kernel)⟩
theorem lw_p56 : lw_okq (⟨"OneStairModel", "tries", "()V"⟩, 53) := ⟨⟨by decide +kernel, by decide +kernel⟩, List.mem_of_getElem? (i := 802) (by decide +kernel), List.mem_of_getElem? (i := 1176) (by decide +kernel), List.mem_of_getElem? (i := 1177) (by decide +kernel)⟩
theorem lw_p57 : lw_okq (⟨"OneStairModel", "lends", "()V"⟩, 53) := ⟨⟨by decide +kernel, by decide +kernel⟩, List.mem_of_getElem? (i := 802) (by decide +kernel), List.mem_of_getElem? (i := 1180) (by decide +kernel), List.mem_of_getElem? (i := 1181) (by decide +kernel)⟩
theorem lw_p58 : lw_okq (⟨"OneStairModel", "ends", "()V"⟩, 53) := ⟨⟨by decide +kernel, by decide +kernel⟩, List.mem_of_getElem? (i := 802) (by decide +kernel), List.mem_of_getElem? (i := 1184) (by decide +kernel), List.mem_of_getElem? (i := 1185) (by decide +kernel)⟩
theorem lw_p59 : lw_okq (⟨"OneStairModel", "whenThen", "(I)I"⟩, 53) := ⟨⟨by decide +kernel, by decide +kernel⟩, List.mem_of_getElem? (i := 802) (by decide +kernel), List.mem_of_getElem? (i := 1188) (by decide +kernel), List.mem_of_getElem? (i := 1189) (by decide +kernel)⟩
theorem lw_p60 : lw_okq (⟨"OneStairModel", "lastThen", "()I"⟩, 53) := ⟨⟨by decide +kernel, by decide +kernel⟩, List.mem_of_getElem? (i := 802) (by decide +kernel), List.mem_of_getElem? (i := 1196) (by decide +kernel), List.mem_of_getElem? (i := 1197) (by decide +kernel)⟩
theorem lw_p61 : lw_okq (⟨"OneStairModel", "rentOf", "(I)I"⟩, 53) := ⟨⟨by decide +kernel, by decide +kernel⟩, List.mem_of_getElem? (i := 802) (by decide +kernel), List.mem_of_getElem? (i := 1236) (by decide +kernel), List.mem_of_getElem? (i := 1237) (by decide +kernel)⟩
theorem lw_p62 : lw_okq (⟨"OneStairModel", "findRows", "(I)V"⟩, 53) := ⟨⟨by decide +kernel, by decide +kernel⟩, List.mem_of_getElem? (i := 802) (by decide +kernel), List.mem_of_getElem? (i := 1257) (by decide +kernel), List.mem_of_getElem? (i := 1258) (by decide +kernel)⟩
theorem lw_p63 : lw_okq (⟨"OneStairModel", "isRow", "(II)Z"⟩, 53) := ⟨⟨by decide +kernel, by decide +kernel⟩, List.mem_of_getElem? (i := 802) (by decide +kernel), List.mem_of_getElem? (i := 1265) (by decide +kernel), List.mem_of_getElem? (i := 1266) (by decide +kernel)⟩
def lw_privs_4 : List (MethodName × Nat) := [(⟨"OneStairModel", "becomes", "(II)V"⟩, 53), (⟨"OneStairModel", "go", "(I)V"⟩, 53), (⟨"OneStairModel", "its", "(I)I"⟩, 53), (⟨"OneStairModel", "minuteGoes", "()V"⟩, 53), (⟨"OneStairModel", "goes", "(I)V"⟩, 53), (⟨"OneStairModel", "isThere", "(I)Z"⟩, 53), (⟨"OneStairModel", "mayGo", "(I)I"⟩, 53), (⟨"OneStairModel", "steps", "(II)Z"⟩, 53), (⟨"OneStairModel", "tries", "()V"⟩, 53), (⟨"OneStairModel", "lends", "()V"⟩, 53), (⟨"OneStairModel", "ends", "()V"⟩, 53), (⟨"OneStairModel", "whenThen", "(I)I"⟩, 53), (⟨"OneStairModel", "lastThen", "()I"⟩, 53), (⟨"OneStairModel", "rentOf", "(I)I"⟩, 53), (⟨"OneStairModel", "findRows", "(I)V"⟩, 53), (⟨"OneStairModel", "isRow", "(II)Z"⟩, 53)]
theorem lw_r4 : ∀ q ∈ lw_privs_4, lw_okq q := List.forall_mem_cons.mpr ⟨lw_p48, List.forall_mem_cons.mpr ⟨lw_p49, List.forall_mem_cons.mpr ⟨lw_p50, List.forall_mem_cons.mpr ⟨lw_p51, List.forall_mem_cons.mpr ⟨lw_p52, List.forall_mem_cons.mpr ⟨lw_p53, List.forall_mem_cons.mpr ⟨lw_p54, List.forall_mem_cons.mpr ⟨lw_p55, List.forall_mem_cons.mpr ⟨lw_p56, List.forall_mem_cons.mpr ⟨lw_p57, List.forall_mem_cons.mpr ⟨lw_p58, List.forall_mem_cons.mpr ⟨lw_p59, List.forall_mem_cons.mpr ⟨lw_p60, List.forall_mem_cons.mpr ⟨lw_p61, List.forall_mem_cons.mpr ⟨lw_p62, List.forall_mem_cons.mpr ⟨lw_p63, fun _ h => absurd h List.not_mem_nil⟩⟩⟩⟩⟩⟩⟩⟩⟩⟩⟩⟩⟩⟩⟩⟩
theorem lw_p64 : lw_okq (⟨"OneStairModel", "lacksSort", "(II)I"⟩, 53) := ⟨⟨by decide +kernel, by decide +kernel⟩, List.mem_of_getElem? (i := 802) (by decide +kernel), List.mem_of_getElem? (i := 1284) (by decide +kernel), List.mem_of_getElem? (i := 1285) (by decide +kernel)⟩
theorem lw_p65 : lw_okq (⟨"OneStairModel", "isHeld", "(II)Z"⟩, 53) := ⟨⟨by decide +kernel, by decide +kernel⟩, List.mem_of_getElem? (i := 802) (by decide +kernel), List.mem_of_getElem? (i := 1305) (by decide +kernel), List.mem_of_getElem? (i := 1306) (by decide +kernel)⟩
theorem lw_p66 : lw_okq (⟨"OneStairModel", "kindOn", "(I)I"⟩, 53) := ⟨⟨by decide +kernel, by decide +kernel⟩, List.mem_of_getElem? (i := 802) (by decide +kernel), List.mem_of_getElem? (i := 1313) (by decide +kernel), List.mem_of_getElem? (i := 1314) (by decide +kernel)⟩
theorem lw_p67 : lw_okq (⟨"OneStairModel", "climbsIt", "(I)I"⟩, 53) := ⟨⟨by decide +kernel, by decide +kernel⟩, List.mem_of_getElem? (i := 802) (by decide +kernel), List.mem_of_getElem? (i := 1324) (by decide +kernel), List.mem_of_getElem? (i := 1325) (by decide +kernel)⟩
theorem lw_p68 : lw_okq (⟨"OneStairModel", "runnerClimbs", "(I)I"⟩, 53) := ⟨⟨by decide +kernel, by decide +kernel⟩, List.mem_of_getElem? (i := 802) (by decide +kernel), List.mem_of_getElem? (i := 1328) (by decide +kernel), List.mem_of_getElem? (i := 1329) (by decide +kernel)⟩
theorem lw_p69 : lw_okq (⟨"OneStairModel", "ran", "(I)V"⟩, 53) := ⟨⟨by decide +kernel, by decide +kernel⟩, List.mem_of_getElem? (i := 802) (by decide +kernel), List.mem_of_getElem? (i := 1332) (by decide +kernel), List.mem_of_getElem? (i := 1333) (by decide +kernel)⟩
theorem lw_p70 : lw_okq (⟨"OneStairModel", "plainClimbs", "(I)I"⟩, 53) := ⟨⟨by decide +kernel, by decide +kernel⟩, List.mem_of_getElem? (i := 802) (by decide +kernel), List.mem_of_getElem? (i := 1336) (by decide +kernel), List.mem_of_getElem? (i := 1337) (by decide +kernel)⟩
theorem lw_p71 : lw_okq (⟨"OneStairModel", "yieldsIt", "(I)I"⟩, 53) := ⟨⟨by decide +kernel, by decide +kernel⟩, List.mem_of_getElem? (i := 802) (by decide +kernel), List.mem_of_getElem? (i := 1340) (by decide +kernel), List.mem_of_getElem? (i := 1341) (by decide +kernel)⟩
theorem lw_p72 : lw_okq (⟨"OneStairModel", "plainYields", "(I)I"⟩, 53) := ⟨⟨by decide +kernel, by decide +kernel⟩, List.mem_of_getElem? (i := 802) (by decide +kernel), List.mem_of_getElem? (i := 1344) (by decide +kernel), List.mem_of_getElem? (i := 1345) (by decide +kernel)⟩
theorem lw_p73 : lw_okq (⟨"OneStairModel", "sharesIt", "(I)I"⟩, 53) := ⟨⟨by decide +kernel, by decide +kernel⟩, List.mem_of_getElem? (i := 802) (by decide +kernel), List.mem_of_getElem? (i := 1348) (by decide +kernel), List.mem_of_getElem? (i := 1349) (by decide +kernel)⟩
theorem lw_p74 : lw_okq (⟨"OneStairModel", "plainShares", "(I)I"⟩, 53) := ⟨⟨by decide +kernel, by decide +kernel⟩, List.mem_of_getElem? (i := 802) (by decide +kernel), List.mem_of_getElem? (i := 1352) (by decide +kernel), List.mem_of_getElem? (i := 1353) (by decide +kernel)⟩
theorem lw_p75 : lw_okq (⟨"OneStairModel", "tellsIt", "(I)I"⟩, 53) := ⟨⟨by decide +kernel, by decide +kernel⟩, List.mem_of_getElem? (i := 802) (by decide +kernel), List.mem_of_getElem? (i := 1356) (by decide +kernel), List.mem_of_getElem? (i := 1357) (by decide +kernel)⟩
theorem lw_p76 : lw_okq (⟨"OneStairModel", "plainTells", "(I)I"⟩, 53) := ⟨⟨by decide +kernel, by decide +kernel⟩, List.mem_of_getElem? (i := 802) (by decide +kernel), List.mem_of_getElem? (i := 1360) (by decide +kernel), List.mem_of_getElem? (i := 1361) (by decide +kernel)⟩
theorem lw_p77 : lw_okq (⟨"OneStairModel", "moveAll", "(Z)V"⟩, 53) := ⟨⟨by decide +kernel, by decide +kernel⟩, List.mem_of_getElem? (i := 802) (by decide +kernel), List.mem_of_getElem? (i := 1376) (by decide +kernel), List.mem_of_getElem? (i := 1377) (by decide +kernel)⟩
theorem lw_p78 : lw_okq (⟨"OneStairModel", "moveRow", "([IIZ)V"⟩, 53) := ⟨⟨by decide +kernel, by decide +kernel⟩, List.mem_of_getElem? (i := 802) (by decide +kernel), List.mem_of_getElem? (i := 1380) (by decide +kernel), List.mem_of_getElem? (i := 1381) (by decide +kernel)⟩
def lw_privs_5 : List (MethodName × Nat) := [(⟨"OneStairModel", "lacksSort", "(II)I"⟩, 53), (⟨"OneStairModel", "isHeld", "(II)Z"⟩, 53), (⟨"OneStairModel", "kindOn", "(I)I"⟩, 53), (⟨"OneStairModel", "climbsIt", "(I)I"⟩, 53), (⟨"OneStairModel", "runnerClimbs", "(I)I"⟩, 53), (⟨"OneStairModel", "ran", "(I)V"⟩, 53), (⟨"OneStairModel", "plainClimbs", "(I)I"⟩, 53), (⟨"OneStairModel", "yieldsIt", "(I)I"⟩, 53), (⟨"OneStairModel", "plainYields", "(I)I"⟩, 53), (⟨"OneStairModel", "sharesIt", "(I)I"⟩, 53), (⟨"OneStairModel", "plainShares", "(I)I"⟩, 53), (⟨"OneStairModel", "tellsIt", "(I)I"⟩, 53), (⟨"OneStairModel", "plainTells", "(I)I"⟩, 53), (⟨"OneStairModel", "moveAll", "(Z)V"⟩, 53), (⟨"OneStairModel", "moveRow", "([IIZ)V"⟩, 53)]
theorem lw_r5 : ∀ q ∈ lw_privs_5, lw_okq q := List.forall_mem_cons.mpr ⟨lw_p64, List.forall_mem_cons.mpr ⟨lw_p65, List.forall_mem_cons.mpr ⟨lw_p66, List.forall_mem_cons.mpr ⟨lw_p67, List.forall_mem_cons.mpr ⟨lw_p68, List.forall_mem_cons.mpr ⟨lw_p69, List.forall_mem_cons.mpr ⟨lw_p70, List.forall_mem_cons.mpr ⟨lw_p71, List.forall_mem_cons.mpr ⟨lw_p72, List.forall_mem_cons.mpr ⟨lw_p73, List.forall_mem_cons.mpr ⟨lw_p74, List.forall_mem_cons.mpr ⟨lw_p75, List.forall_mem_cons.mpr ⟨lw_p76, List.forall_mem_cons.mpr ⟨lw_p77, List.forall_mem_cons.mpr ⟨lw_p78, fun _ h => absurd h List.not_mem_nil⟩⟩⟩⟩⟩⟩⟩⟩⟩⟩⟩⟩⟩⟩⟩
def lw_privs : List (MethodName × Nat) := lw_privs_1 ++ (lw_privs_2 ++ (lw_privs_3 ++ (lw_privs_4 ++ (lw_privs_5))))
def lw_tbl : List Cond := k2_sels lw_privs ++ tables_1
theorem lw_privs_ok : ∀ q ∈ lw_privs, lw_okq q := by
  show ∀ q ∈ lw_privs_1 ++ (lw_privs_2 ++ (lw_privs_3 ++ (lw_privs_4 ++ (lw_privs_5)))), lw_okq q
  exact List.forall_mem_append.mpr ⟨lw_r1, List.forall_mem_append.mpr ⟨lw_r2, List.forall_mem_append.mpr ⟨lw_r3, List.forall_mem_append.mpr ⟨lw_r4, lw_r5⟩⟩⟩⟩
def RX0 : String := "OneStair$Actor"
def TX0 : u_T := fun k => match k with
  | 0 => ("OneStair$Actor", "kind", "I", false)
  | 1 => ("OneStair$Actor", "n", "I", false)
  | 2 => ("OneStair$Actor", "a", "I", false)
  | 3 => ("OneStair$Actor", "bodies", "[I", true)
  | 4 => ("OneStair$Actor", "bodyCount", "I", false)
  | _ => ("OneStair$Actor", "parted", "Z", false)
def tyX0 : Nat → FieldType := fun k => match k with
  | 0 => .int
  | 1 => .int
  | 2 => .int
  | 3 => .array .int
  | 4 => .int
  | _ => .boolean
abbrev wsX00 : List Cond := u_ws RX0 TX0 6
theorem nmX0 : ∀ a, a < 6 → ∀ b, b < 6 → a ≠ b → (TX0 a).2.1 ≠ (TX0 b).2.1 := by decide +kernel
theorem tyX0_ok : ∀ k, k < 6 → parseFieldDescriptor (TX0 k).2.2.1 = some (tyX0 k) := by decide +kernel
abbrev cX0_init : ByteArray := prog_2_method_1_code
def yX0_init : MethodName := ⟨RX0, "<init>", "()V"⟩
abbrev cX0_forget : ByteArray := prog_2_method_2_code
def yX0_forget : MethodName := ⟨RX0, "forget", "()V"⟩
abbrev cX0_play : ByteArray := prog_2_method_3_code
def yX0_play : MethodName := ⟨RX0, "play", "(III)V"⟩
abbrev cX0_perform : ByteArray := prog_2_method_4_code
def yX0_perform : MethodName := ⟨RX0, "perform", "(II)I"⟩
abbrev cX0_begin : ByteArray := prog_2_method_5_code
def yX0_begin : MethodName := ⟨RX0, "begin", "(I)V"⟩
abbrev cX0_climbs : ByteArray := prog_2_method_6_code
def yX0_climbs : MethodName := ⟨RX0, "climbs", "(I)I"⟩
abbrev cX0_yields : ByteArray := prog_2_method_7_code
def yX0_yields : MethodName := ⟨RX0, "yields", "(I)I"⟩
abbrev cX0_shares : ByteArray := prog_2_method_8_code
def yX0_shares : MethodName := ⟨RX0, "shares", "(I)I"⟩
abbrev cX0_tells : ByteArray := prog_2_method_9_code
def yX0_tells : MethodName := ⟨RX0, "tells", "(I)I"⟩
abbrev cX0_partOf : ByteArray := prog_2_method_10_code
def yX0_partOf : MethodName := ⟨RX0, "partOf", "(I)I"⟩
def RX1 : String := "OneStair$Kind"
def TX1 : u_T := fun k => match k with
  | _ => ("", "", "", false)
def tyX1 : Nat → FieldType := fun k => match k with
  | _ => .int
abbrev wsX10 : List Cond := u_ws RX1 TX1 0
theorem nmX1 : ∀ a, a < 0 → ∀ b, b < 0 → a ≠ b → (TX1 a).2.1 ≠ (TX1 b).2.1 := by decide +kernel
theorem tyX1_ok : ∀ k, k < 0 → parseFieldDescriptor (TX1 k).2.2.1 = some (tyX1 k) := by decide +kernel
abbrev cX1_takes : ByteArray := prog_3_method_2_code
def yX1_takes : MethodName := ⟨RX1, "takes", "(II)I"⟩
abbrev cX1_rank : ByteArray := prog_3_method_3_code
def yX1_rank : MethodName := ⟨RX1, "rank", "(II)I"⟩
abbrev cX1_steps : ByteArray := prog_3_method_4_code
def yX1_steps : MethodName := ⟨RX1, "steps", "(III)I"⟩
abbrev cX1_goesByHalves : ByteArray := prog_3_method_5_code
def yX1_goesByHalves : MethodName := ⟨RX1, "goesByHalves", "(I)Z"⟩
abbrev cX1_isOrIsUnder : ByteArray := prog_3_method_6_code
def yX1_isOrIsUnder : MethodName := ⟨RX1, "isOrIsUnder", "(II)Z"⟩
def RX2 : String := "OneStair$Sheet"
def TX2 : u_T := fun k => match k with
  | 0 => ("OneStair$Sheet", "sort", "I", false)
  | 1 => ("OneStair$Sheet", "length", "I", false)
  | _ => ("OneStair$Sheet", "items", "[I", true)
def tyX2 : Nat → FieldType := fun k => match k with
  | 0 => .int
  | 1 => .int
  | _ => .array .int
abbrev wsX20 : List Cond := u_ws RX2 TX2 3
theorem nmX2 : ∀ a, a < 3 → ∀ b, b < 3 → a ≠ b → (TX2 a).2.1 ≠ (TX2 b).2.1 := by decide +kernel
theorem tyX2_ok : ∀ k, k < 3 → parseFieldDescriptor (TX2 k).2.2.1 = some (tyX2 k) := by decide +kernel
abbrev cX2_init : ByteArray := prog_4_method_1_code
def yX2_init : MethodName := ⟨RX2, "<init>", "()V"⟩
abbrev cX2_renew : ByteArray := prog_4_method_2_code
def yX2_renew : MethodName := ⟨RX2, "renew", "(II)V"⟩
abbrev cX2_narrowed : ByteArray := prog_4_method_3_code
def yX2_narrowed : MethodName := ⟨RX2, "narrowed", "(I)I"⟩
def RX3 : String := "OneStair$Shelf"
def TX3 : u_T := fun k => match k with
  | 0 => ("OneStair$Shelf", "what", "I", false)
  | 1 => ("OneStair$Shelf", "number", "I", false)
  | 2 => ("OneStair$Shelf", "sort", "I", false)
  | _ => ("OneStair$Shelf", "length", "I", false)
def tyX3 : Nat → FieldType := fun k => match k with
  | 0 => .int
  | 1 => .int
  | 2 => .int
  | _ => .int
abbrev wsX30 : List Cond := u_ws RX3 TX3 4
theorem nmX3 : ∀ a, a < 4 → ∀ b, b < 4 → a ≠ b → (TX3 a).2.1 ≠ (TX3 b).2.1 := by decide +kernel
theorem tyX3_ok : ∀ k, k < 4 → parseFieldDescriptor (TX3 k).2.2.1 = some (tyX3 k) := by decide +kernel
abbrev cX3_init : ByteArray := prog_5_method_1_code
def yX3_init : MethodName := ⟨RX3, "<init>", "()V"⟩
abbrev cX3_holdNothing : ByteArray := prog_5_method_2_code
def yX3_holdNothing : MethodName := ⟨RX3, "holdNothing", "()V"⟩
abbrev cX3_holdPerson : ByteArray := prog_5_method_3_code
def yX3_holdPerson : MethodName := ⟨RX3, "holdPerson", "(I)V"⟩
abbrev cX3_holdRowOf : ByteArray := prog_5_method_4_code
def yX3_holdRowOf : MethodName := ⟨RX3, "holdRowOf", "(LOneStair$Sheet;)V"⟩
def RX4 : String := "OneStair$Stair"
def TX4 : u_T := fun k => match k with
  | 0 => ("OneStair$Stair", "order", "[I", true)
  | 1 => ("OneStair$Stair", "rank", "[I", true)
  | 2 => ("OneStair$Stair", "takes", "[I", true)
  | 3 => ("OneStair$Stair", "waits", "[I", true)
  | 4 => ("OneStair$Stair", "usedUp", "[I", true)
  | 5 => ("OneStair$Stair", "usedDown", "[I", true)
  | 6 => ("OneStair$Stair", "mostUsed", "[I", true)
  | 7 => ("OneStair$Stair", "closed", "I", false)
  | _ => ("OneStair$Stair", "onTheWay", "I", false)
def tyX4 : Nat → FieldType := fun k => match k with
  | 0 => .array .int
  | 1 => .array .int
  | 2 => .array .int
  | 3 => .array .int
  | 4 => .array .int
  | 5 => .array .int
  | 6 => .array .int
  | 7 => .int
  | _ => .int
abbrev wsX40 : List Cond := u_ws RX4 TX4 9
theorem nmX4 : ∀ a, a < 9 → ∀ b, b < 9 → a ≠ b → (TX4 a).2.1 ≠ (TX4 b).2.1 := by decide +kernel
theorem tyX4_ok : ∀ k, k < 9 → parseFieldDescriptor (TX4 k).2.2.1 = some (tyX4 k) := by decide +kernel
abbrev cX4_init : ByteArray := prog_6_method_1_code
def yX4_init : MethodName := ⟨RX4, "<init>", "()V"⟩
abbrev cX4_ready : ByteArray := prog_6_method_2_code
def yX4_ready : MethodName := ⟨RX4, "ready", "(LOneStair$Tower;)V"⟩
abbrev cX4_lineUp : ByteArray := prog_6_method_3_code
def yX4_lineUp : MethodName := ⟨RX4, "lineUp", "(I)V"⟩
abbrev cX4_tryUntil : ByteArray := prog_6_method_4_code
def yX4_tryUntil : MethodName := ⟨RX4, "tryUntil", "(LOneStair$Tower;I)V"⟩
abbrev cX4_pass : ByteArray := prog_6_method_5_code
def yX4_pass : MethodName := ⟨RX4, "pass", "(LOneStair$Tower;)V"⟩
abbrev cX4_go : ByteArray := prog_6_method_6_code
def yX4_go : MethodName := ⟨RX4, "go", "(LOneStair$Tower;I)V"⟩
abbrev cX4_enters : ByteArray := prog_6_method_7_code
def yX4_enters : MethodName := ⟨RX4, "enters", "(LOneStair$Tower;I)Z"⟩
abbrev cX4_step : ByteArray := prog_6_method_8_code
def yX4_step : MethodName := ⟨RX4, "step", "(LOneStair$Tower;I)V"⟩
def RX5 : String := "OneStair$Text"
def TX5 : u_T := fun k => match k with
  | 0 => ("OneStair$Text", "bytes", "[B", true)
  | 1 => ("OneStair$Text", "length", "I", false)
  | 2 => ("OneStair$Text", "place", "I", false)
  | 3 => ("OneStair$Text", "tokenStart", "I", false)
  | _ => ("OneStair$Text", "fault", "I", false)
def tyX5 : Nat → FieldType := fun k => match k with
  | 0 => .array .byte
  | 1 => .int
  | 2 => .int
  | 3 => .int
  | _ => .int
abbrev wsX50 : List Cond := u_ws RX5 TX5 5
theorem nmX5 : ∀ a, a < 5 → ∀ b, b < 5 → a ≠ b → (TX5 a).2.1 ≠ (TX5 b).2.1 := by decide +kernel
theorem tyX5_ok : ∀ k, k < 5 → parseFieldDescriptor (TX5 k).2.2.1 = some (tyX5 k) := by decide +kernel
abbrev cX5_init : ByteArray := prog_7_method_1_code
def yX5_init : MethodName := ⟨RX5, "<init>", "()V"⟩
abbrev cX5_add : ByteArray := prog_7_method_2_code
def yX5_add : MethodName := ⟨RX5, "add", "(B)V"⟩
abbrev cX5_useUp : ByteArray := prog_7_method_3_code
def yX5_useUp : MethodName := ⟨RX5, "useUp", "()V"⟩
abbrev cX5_readInto : ByteArray := prog_7_method_4_code
def yX5_readInto : MethodName := ⟨RX5, "readInto", "(LOneStair$Tower;)I"⟩
abbrev cX5_readEntry : ByteArray := prog_7_method_5_code
def yX5_readEntry : MethodName := ⟨RX5, "readEntry", "(LOneStair$Tower;)V"⟩
abbrev cX5_kindNamed : ByteArray := prog_7_method_6_code
def yX5_kindNamed : MethodName := ⟨RX5, "kindNamed", "()I"⟩
abbrev cX5_readPerson : ByteArray := prog_7_method_7_code
def yX5_readPerson : MethodName := ⟨RX5, "readPerson", "(LOneStair$Tower;I)V"⟩
abbrev cX5_readHat : ByteArray := prog_7_method_8_code
def yX5_readHat : MethodName := ⟨RX5, "readHat", "(LOneStair$Tower;)V"⟩
abbrev cX5_readRoom : ByteArray := prog_7_method_9_code
def yX5_readRoom : MethodName := ⟨RX5, "readRoom", "(LOneStair$Tower;)V"⟩
abbrev cX5_skipBlanks : ByteArray := prog_7_method_10_code
def yX5_skipBlanks : MethodName := ⟨RX5, "skipBlanks", "()V"⟩
abbrev cX5_takeName : ByteArray := prog_7_method_11_code
def yX5_takeName : MethodName := ⟨RX5, "takeName", "()V"⟩
abbrev cX5_nameIs : ByteArray := prog_7_method_12_code
def yX5_nameIs : MethodName := ⟨RX5, "nameIs", "(Ljava/lang/String;)Z"⟩
abbrev cX5_word : ByteArray := prog_7_method_13_code
def yX5_word : MethodName := ⟨RX5, "word", "(Ljava/lang/String;)V"⟩
abbrev cX5_number : ByteArray := prog_7_method_14_code
def yX5_number : MethodName := ⟨RX5, "number", "(II)I"⟩
abbrev cX5_semicolonIsNext : ByteArray := prog_7_method_15_code
def yX5_semicolonIsNext : MethodName := ⟨RX5, "semicolonIsNext", "()Z"⟩
abbrev cX5_semicolon : ByteArray := prog_7_method_16_code
def yX5_semicolon : MethodName := ⟨RX5, "semicolon", "()V"⟩
def RX6 : String := "OneStair$Tower"
def TX6 : u_T := fun k => match k with
  | 0 => ("OneStair$Tower", "count", "I", false)
  | 1 => ("OneStair$Tower", "kind", "[I", true)
  | 2 => ("OneStair$Tower", "a", "[I", true)
  | 3 => ("OneStair$Tower", "floor", "[I", true)
  | 4 => ("OneStair$Tower", "goal", "[I", true)
  | 5 => ("OneStair$Tower", "start", "[I", true)
  | 6 => ("OneStair$Tower", "half", "[I", true)
  | 7 => ("OneStair$Tower", "arrived", "[I", true)
  | 8 => ("OneStair$Tower", "hats", "I", false)
  | 9 => ("OneStair$Tower", "hatFlight", "[I", true)
  | 10 => ("OneStair$Tower", "hatFrom", "[I", true)
  | 11 => ("OneStair$Tower", "hatLength", "[I", true)
  | 12 => ("OneStair$Tower", "room", "I", false)
  | 13 => ("OneStair$Tower", "minute", "I", false)
  | _ => ("OneStair$Tower", "z", "I", false)
def tyX6 : Nat → FieldType := fun k => match k with
  | 0 => .int
  | 1 => .array .int
  | 2 => .array .int
  | 3 => .array .int
  | 4 => .array .int
  | 5 => .array .int
  | 6 => .array .int
  | 7 => .array .int
  | 8 => .int
  | 9 => .array .int
  | 10 => .array .int
  | 11 => .array .int
  | 12 => .int
  | 13 => .int
  | _ => .int
abbrev wsX60 : List Cond := u_ws RX6 TX6 15
theorem nmX6 : ∀ a, a < 15 → ∀ b, b < 15 → a ≠ b → (TX6 a).2.1 ≠ (TX6 b).2.1 := by decide +kernel
theorem tyX6_ok : ∀ k, k < 15 → parseFieldDescriptor (TX6 k).2.2.1 = some (tyX6 k) := by decide +kernel
abbrev cX6_init : ByteArray := prog_8_method_1_code
def yX6_init : MethodName := ⟨RX6, "<init>", "()V"⟩
abbrev cX6_has : ByteArray := prog_8_method_2_code
def yX6_has : MethodName := ⟨RX6, "has", "(I)Z"⟩
abbrev cX6_clear : ByteArray := prog_8_method_3_code
def yX6_clear : MethodName := ⟨RX6, "clear", "()V"⟩
abbrev cX6_become : ByteArray := prog_8_method_4_code
def yX6_become : MethodName := ⟨RX6, "become", "(LOneStair$Tower;)V"⟩
abbrev cX6_addPerson : ByteArray := prog_8_method_5_code
def yX6_addPerson : MethodName := ⟨RX6, "addPerson", "(IIIII)V"⟩
abbrev cX6_send : ByteArray := prog_8_method_6_code
def yX6_send : MethodName := ⟨RX6, "send", "(III)V"⟩
abbrev cX6_addHat : ByteArray := prog_8_method_7_code
def yX6_addHat : MethodName := ⟨RX6, "addHat", "(III)V"⟩
abbrev cX6_removeHat : ByteArray := prog_8_method_8_code
def yX6_removeHat : MethodName := ⟨RX6, "removeHat", "(I)V"⟩
abbrev cX6_closedFlights : ByteArray := prog_8_method_9_code
def yX6_closedFlights : MethodName := ⟨RX6, "closedFlights", "(I)I"⟩
abbrev cX6_arrivedSet : ByteArray := prog_8_method_10_code
def yX6_arrivedSet : MethodName := ⟨RX6, "arrivedSet", "()I"⟩
abbrev cX6_floorSum : ByteArray := prog_8_method_11_code
def yX6_floorSum : MethodName := ⟨RX6, "floorSum", "()I"⟩
abbrev cX6_peopleOn : ByteArray := prog_8_method_12_code
def yX6_peopleOn : MethodName := ⟨RX6, "peopleOn", "(I)I"⟩
abbrev cX6_latestArrival : ByteArray := prog_8_method_13_code
def yX6_latestArrival : MethodName := ⟨RX6, "latestArrival", "()I"⟩
abbrev cX6_allArrivedBy : ByteArray := prog_8_method_14_code
def yX6_allArrivedBy : MethodName := ⟨RX6, "allArrivedBy", "(I)Z"⟩
def RX7 : String := "OneStair"
def TX7 : u_T := fun k => match k with
  | 0 => ("OneStair", "now", "LOneStair$Tower;", true)
  | 1 => ("OneStair", "trial", "LOneStair$Tower;", true)
  | 2 => ("OneStair", "kept", "LOneStair$Tower;", true)
  | 3 => ("OneStair", "anyKept", "Z", false)
  | 4 => ("OneStair", "stair", "LOneStair$Stair;", true)
  | 5 => ("OneStair", "tape", "LOneStair$Text;", true)
  | 6 => ("OneStair", "rows", "[[I", true)
  | 7 => ("OneStair", "rightRow", "[I", true)
  | 8 => ("OneStair", "rowCount", "I", false)
  | 9 => ("OneStair", "sheets", "[LOneStair$Sheet;", true)
  | 10 => ("OneStair", "shelves", "[LOneStair$Shelf;", true)
  | _ => ("OneStair", "actor", "LOneStair$Actor;", true)
def tyX7 : Nat → FieldType := fun k => match k with
  | 0 => .object "OneStair$Tower"
  | 1 => .object "OneStair$Tower"
  | 2 => .object "OneStair$Tower"
  | 3 => .boolean
  | 4 => .object "OneStair$Stair"
  | 5 => .object "OneStair$Text"
  | 6 => .array (.array .int)
  | 7 => .array .int
  | 8 => .int
  | 9 => .array (.object "OneStair$Sheet")
  | 10 => .array (.object "OneStair$Shelf")
  | _ => .object "OneStair$Actor"
abbrev wsX70 : List Cond := u_ws RX7 TX7 12
theorem nmX7 : ∀ a, a < 12 → ∀ b, b < 12 → a ≠ b → (TX7 a).2.1 ≠ (TX7 b).2.1 := by decide +kernel
theorem tyX7_ok : ∀ k, k < 12 → parseFieldDescriptor (TX7 k).2.2.1 = some (tyX7 k) := by decide +kernel
abbrev cX7_init : ByteArray := prog_1_method_1_code
def yX7_init : MethodName := ⟨RX7, "<init>", "()V"⟩
abbrev cX7_feed : ByteArray := prog_1_method_2_code
def yX7_feed : MethodName := ⟨RX7, "feed", "(JI)I"⟩
abbrev cX7_tower : ByteArray := prog_1_method_3_code
def yX7_tower : MethodName := ⟨RX7, "tower", "()I"⟩
abbrev cX7_room : ByteArray := prog_1_method_4_code
def yX7_room : MethodName := ⟨RX7, "room", "(I)I"⟩
abbrev cX7_hat : ByteArray := prog_1_method_5_code
def yX7_hat : MethodName := ⟨RX7, "hat", "(III)I"⟩
abbrev cX7_sweep : ByteArray := prog_1_method_6_code
def yX7_sweep : MethodName := ⟨RX7, "sweep", "(I)I"⟩
abbrev cX7_closed : ByteArray := prog_1_method_7_code
def yX7_closed : MethodName := ⟨RX7, "closed", "(II)I"⟩
abbrev cX7_person : ByteArray := prog_1_method_8_code
def yX7_person : MethodName := ⟨RX7, "person", "(IIII)I"⟩
abbrev cX7_personOf : ByteArray := prog_1_method_9_code
def yX7_personOf : MethodName := ⟨RX7, "personOf", "(II)I"⟩
abbrev cX7_mind : ByteArray := prog_1_method_10_code
def yX7_mind : MethodName := ⟨RX7, "mind", "(III)I"⟩
abbrev cX7_sends : ByteArray := prog_1_method_11_code
def yX7_sends : MethodName := ⟨RX7, "sends", "(III)I"⟩
abbrev cX7_stand : ByteArray := prog_1_method_12_code
def yX7_stand : MethodName := ⟨RX7, "stand", "(II)I"⟩
abbrev cX7_minute : ByteArray := prog_1_method_13_code
def yX7_minute : MethodName := ⟨RX7, "minute", "()I"⟩
abbrev cX7_minutes : ByteArray := prog_1_method_14_code
def yX7_minutes : MethodName := ⟨RX7, "minutes", "(I)I"⟩
abbrev cX7_clock : ByteArray := prog_1_method_15_code
def yX7_clock : MethodName := ⟨RX7, "clock", "(I)I"⟩
abbrev cX7_when : ByteArray := prog_1_method_16_code
def yX7_when : MethodName := ⟨RX7, "when", "(I)I"⟩
abbrev cX7_last : ByteArray := prog_1_method_17_code
def yX7_last : MethodName := ⟨RX7, "last", "()I"⟩
abbrev cX7_waited : ByteArray := prog_1_method_18_code
def yX7_waited : MethodName := ⟨RX7, "waited", "(I)I"⟩
abbrev cX7_crowd : ByteArray := prog_1_method_19_code
def yX7_crowd : MethodName := ⟨RX7, "crowd", "(I)I"⟩
abbrev cX7_there : ByteArray := prog_1_method_20_code
def yX7_there : MethodName := ⟨RX7, "there", "(II)I"⟩
abbrev cX7_drill : ByteArray := prog_1_method_21_code
def yX7_drill : MethodName := ⟨RX7, "drill", "()I"⟩
abbrev cX7_early : ByteArray := prog_1_method_22_code
def yX7_early : MethodName := ⟨RX7, "early", "(II)I"⟩
abbrev cX7_swap : ByteArray := prog_1_method_23_code
def yX7_swap : MethodName := ⟨RX7, "swap", "()I"⟩
abbrev cX7_enough : ByteArray := prog_1_method_24_code
def yX7_enough : MethodName := ⟨RX7, "enough", "(I)I"⟩
abbrev cX7_worst : ByteArray := prog_1_method_25_code
def yX7_worst : MethodName := ⟨RX7, "worst", "(I)I"⟩
abbrev cX7_rent : ByteArray := prog_1_method_26_code
def yX7_rent : MethodName := ⟨RX7, "rent", "(I)I"⟩
abbrev cX7_cheapest : ByteArray := prog_1_method_27_code
def yX7_cheapest : MethodName := ⟨RX7, "cheapest", "()I"⟩
abbrev cX7_seed : ByteArray := prog_1_method_28_code
def yX7_seed : MethodName := ⟨RX7, "seed", "(I)I"⟩
abbrev cX7_lot : ByteArray := prog_1_method_29_code
def yX7_lot : MethodName := ⟨RX7, "lot", "(I)I"⟩
abbrev cX7_prove : ByteArray := prog_1_method_30_code
def yX7_prove : MethodName := ⟨RX7, "prove", "(I)I"⟩
abbrev cX7_row : ByteArray := prog_1_method_31_code
def yX7_row : MethodName := ⟨RX7, "row", "(II)I"⟩
abbrev cX7_alterRow : ByteArray := prog_1_method_32_code
def yX7_alterRow : MethodName := ⟨RX7, "alterRow", "(III)I"⟩
abbrev cX7_judge : ByteArray := prog_1_method_33_code
def yX7_judge : MethodName := ⟨RX7, "judge", "()I"⟩
abbrev cX7_starts : ByteArray := prog_1_method_34_code
def yX7_starts : MethodName := ⟨RX7, "starts", "(IIII)I"⟩
abbrev cX7_sheet : ByteArray := prog_1_method_35_code
def yX7_sheet : MethodName := ⟨RX7, "sheet", "(III)I"⟩
abbrev cX7_put : ByteArray := prog_1_method_36_code
def yX7_put : MethodName := ⟨RX7, "put", "(III)I"⟩
abbrev cX7_item : ByteArray := prog_1_method_37_code
def yX7_item : MethodName := ⟨RX7, "item", "(III)I"⟩
abbrev cX7_shelf : ByteArray := prog_1_method_38_code
def yX7_shelf : MethodName := ⟨RX7, "shelf", "(III)I"⟩
abbrev cX7_taken : ByteArray := prog_1_method_39_code
def yX7_taken : MethodName := ⟨RX7, "taken", "(II)I"⟩
abbrev cX7_act : ByteArray := prog_1_method_40_code
def yX7_act : MethodName := ⟨RX7, "act", "(III)I"⟩
abbrev cX7_trace : ByteArray := prog_1_method_41_code
def yX7_trace : MethodName := ⟨RX7, "trace", "(I)I"⟩
abbrev cX7_many : ByteArray := prog_1_method_42_code
def yX7_many : MethodName := ⟨RX7, "many", "(I)I"⟩
abbrev cX7_keep : ByteArray := prog_1_method_43_code
def yX7_keep : MethodName := ⟨RX7, "keep", "()I"⟩
abbrev cX7_again : ByteArray := prog_1_method_44_code
def yX7_again : MethodName := ⟨RX7, "again", "()I"⟩
abbrev cX7_within : ByteArray := prog_1_method_45_code
def yX7_within : MethodName := ⟨RX7, "within", "(III)Z"⟩
abbrev cX7_isFloor : ByteArray := prog_1_method_46_code
def yX7_isFloor : MethodName := ⟨RX7, "isFloor", "(I)Z"⟩
abbrev cX7_isFlight : ByteArray := prog_1_method_47_code
def yX7_isFlight : MethodName := ⟨RX7, "isFlight", "(I)Z"⟩
abbrev cX7_isKind : ByteArray := prog_1_method_48_code
def yX7_isKind : MethodName := ⟨RX7, "isKind", "(I)Z"⟩
abbrev cX7_isSheet : ByteArray := prog_1_method_49_code
def yX7_isSheet : MethodName := ⟨RX7, "isSheet", "(I)Z"⟩
abbrev cX7_isShelf : ByteArray := prog_1_method_50_code
def yX7_isShelf : MethodName := ⟨RX7, "isShelf", "(I)Z"⟩
abbrev cX7_isSort : ByteArray := prog_1_method_51_code
def yX7_isSort : MethodName := ⟨RX7, "isSort", "(I)Z"⟩
abbrev cX7_isInRows : ByteArray := prog_1_method_52_code
def yX7_isInRows : MethodName := ⟨RX7, "isInRows", "(II)Z"⟩
abbrev cX7_tryToTheEnd : ByteArray := prog_1_method_53_code
def yX7_tryToTheEnd : MethodName := ⟨RX7, "tryToTheEnd", "()V"⟩
abbrev cX7_arrivesBy : ByteArray := prog_1_method_54_code
def yX7_arrivesBy : MethodName := ⟨RX7, "arrivesBy", "(III)Z"⟩
abbrev cX7_latestWithSwap : ByteArray := prog_1_method_55_code
def yX7_latestWithSwap : MethodName := ⟨RX7, "latestWithSwap", "(III)I"⟩
abbrev cX7_rentOfFloor : ByteArray := prog_1_method_56_code
def yX7_rentOfFloor : MethodName := ⟨RX7, "rentOfFloor", "(I)I"⟩
abbrev cX7_passAndTell : ByteArray := prog_1_method_57_code
def yX7_passAndTell : MethodName := ⟨RX7, "passAndTell", "([I)V"⟩
abbrev cX7_isRight : ByteArray := prog_1_method_58_code
def yX7_isRight : MethodName := ⟨RX7, "isRight", "([I)Z"⟩
abbrev cX7_personOn : ByteArray := prog_1_method_59_code
def yX7_personOn : MethodName := ⟨RX7, "personOn", "(I)I"⟩
def RX8 : String := "OneStairModel"
def TX8 : u_T := fun k => match k with
  | 0 => ("OneStairModel", "room", "I", false)
  | 1 => ("OneStairModel", "hats", "I", false)
  | 2 => ("OneStairModel", "flights", "[I", true)
  | 3 => ("OneStairModel", "froms", "[I", true)
  | 4 => ("OneStairModel", "longs", "[I", true)
  | 5 => ("OneStairModel", "people", "I", false)
  | 6 => ("OneStairModel", "kinds", "[I", true)
  | 7 => ("OneStairModel", "own", "[I", true)
  | 8 => ("OneStairModel", "row", "[I", true)
  | 9 => ("OneStairModel", "at", "I", false)
  | 10 => ("OneStairModel", "z", "I", false)
  | 11 => ("OneStairModel", "tape", "[I", true)
  | 12 => ("OneStairModel", "tapeMany", "I", false)
  | 13 => ("OneStairModel", "sort", "I", false)
  | 14 => ("OneStairModel", "begins", "I", false)
  | 15 => ("OneStairModel", "tokenEnds", "I", false)
  | 16 => ("OneStairModel", "word", "J", false)
  | 17 => ("OneStairModel", "value", "I", false)
  | 18 => ("OneStairModel", "good", "Z", false)
  | 19 => ("OneStairModel", "freshPeople", "I", false)
  | 20 => ("OneStairModel", "freshHats", "I", false)
  | 21 => ("OneStairModel", "freshRoom", "I", false)
  | 22 => ("OneStairModel", "freshKinds", "[I", true)
  | 23 => ("OneStairModel", "freshOwn", "[I", true)
  | 24 => ("OneStairModel", "freshFloors", "[I", true)
  | 25 => ("OneStairModel", "freshGoals", "[I", true)
  | 26 => ("OneStairModel", "freshStarts", "[I", true)
  | 27 => ("OneStairModel", "freshFlights", "[I", true)
  | 28 => ("OneStairModel", "freshFroms", "[I", true)
  | 29 => ("OneStairModel", "freshLongs", "[I", true)
  | 30 => ("OneStairModel", "lanes", "[I", true)
  | 31 => ("OneStairModel", "crowds", "[I", true)
  | 32 => ("OneStairModel", "waits", "[I", true)
  | 33 => ("OneStairModel", "rows", "[I", true)
  | 34 => ("OneStairModel", "must", "[I", true)
  | 35 => ("OneStairModel", "rowMany", "I", false)
  | 36 => ("OneStairModel", "mustMany", "I", false)
  | 37 => ("OneStairModel", "sorts", "[I", true)
  | 38 => ("OneStairModel", "sizes", "[I", true)
  | 39 => ("OneStairModel", "sheets", "[J", true)
  | 40 => ("OneStairModel", "held", "[I", true)
  | 41 => ("OneStairModel", "heldNumber", "[I", true)
  | 42 => ("OneStairModel", "heldSize", "[I", true)
  | 43 => ("OneStairModel", "kind", "I", false)
  | 44 => ("OneStairModel", "number", "I", false)
  | 45 => ("OneStairModel", "ownA", "I", false)
  | 46 => ("OneStairModel", "traced", "[I", true)
  | 47 => ("OneStairModel", "bodies", "I", false)
  | 48 => ("OneStairModel", "isParted", "Z", false)
  | 49 => ("OneStairModel", "isKept", "Z", false)
  | 50 => ("OneStairModel", "keptRow", "[I", true)
  | 51 => ("OneStairModel", "movedTo", "I", false)
  | _ => ("OneStairModel", "single", "[I", true)
def tyX8 : Nat → FieldType := fun k => match k with
  | 0 => .int
  | 1 => .int
  | 2 => .array .int
  | 3 => .array .int
  | 4 => .array .int
  | 5 => .int
  | 6 => .array .int
  | 7 => .array .int
  | 8 => .array .int
  | 9 => .int
  | 10 => .int
  | 11 => .array .int
  | 12 => .int
  | 13 => .int
  | 14 => .int
  | 15 => .int
  | 16 => .long
  | 17 => .int
  | 18 => .boolean
  | 19 => .int
  | 20 => .int
  | 21 => .int
  | 22 => .array .int
  | 23 => .array .int
  | 24 => .array .int
  | 25 => .array .int
  | 26 => .array .int
  | 27 => .array .int
  | 28 => .array .int
  | 29 => .array .int
  | 30 => .array .int
  | 31 => .array .int
  | 32 => .array .int
  | 33 => .array .int
  | 34 => .array .int
  | 35 => .int
  | 36 => .int
  | 37 => .array .int
  | 38 => .array .int
  | 39 => .array .long
  | 40 => .array .int
  | 41 => .array .int
  | 42 => .array .int
  | 43 => .int
  | 44 => .int
  | 45 => .int
  | 46 => .array .int
  | 47 => .int
  | 48 => .boolean
  | 49 => .boolean
  | 50 => .array .int
  | 51 => .int
  | _ => .array .int
abbrev wsX80 : List Cond := u_ws RX8 TX8 53
theorem nmX8 : ∀ a, a < 53 → ∀ b, b < 53 → a ≠ b → (TX8 a).2.1 ≠ (TX8 b).2.1 := by decide +kernel
theorem tyX8_ok : ∀ k, k < 53 → parseFieldDescriptor (TX8 k).2.2.1 = some (tyX8 k) := by decide +kernel
abbrev cX8_init : ByteArray := prog_10_method_1_code
def yX8_init : MethodName := ⟨RX8, "<init>", "()V"⟩
abbrev cX8_in : ByteArray := prog_10_method_2_code
def yX8_in : MethodName := ⟨RX8, "in", "(III)Z"⟩
abbrev cX8_isPerson : ByteArray := prog_10_method_3_code
def yX8_isPerson : MethodName := ⟨RX8, "isPerson", "(I)Z"⟩
abbrev cX8_isFloor : ByteArray := prog_10_method_4_code
def yX8_isFloor : MethodName := ⟨RX8, "isFloor", "(I)Z"⟩
abbrev cX8_isFlight : ByteArray := prog_10_method_5_code
def yX8_isFlight : MethodName := ⟨RX8, "isFlight", "(I)Z"⟩
abbrev cX8_isStart : ByteArray := prog_10_method_6_code
def yX8_isStart : MethodName := ⟨RX8, "isStart", "(I)Z"⟩
abbrev cX8_isMinute : ByteArray := prog_10_method_7_code
def yX8_isMinute : MethodName := ⟨RX8, "isMinute", "(I)Z"⟩
abbrev cX8_isKind : ByteArray := prog_10_method_8_code
def yX8_isKind : MethodName := ⟨RX8, "isKind", "(II)Z"⟩
abbrev cX8_its : ByteArray := prog_10_method_9_code
def yX8_its : MethodName := ⟨RX8, "its", "(I)I"⟩
abbrev cX8_becomes : ByteArray := prog_10_method_10_code
def yX8_becomes : MethodName := ⟨RX8, "becomes", "(II)V"⟩
abbrev cX8_feed : ByteArray := prog_10_method_11_code
def yX8_feed : MethodName := ⟨RX8, "feed", "(JI)I"⟩
abbrev cX8_byteAt : ByteArray := prog_10_method_12_code
def yX8_byteAt : MethodName := ⟨RX8, "byteAt", "(I)I"⟩
abbrev cX8_isLetter : ByteArray := prog_10_method_13_code
def yX8_isLetter : MethodName := ⟨RX8, "isLetter", "(I)Z"⟩
abbrev cX8_isDigit : ByteArray := prog_10_method_14_code
def yX8_isDigit : MethodName := ⟨RX8, "isDigit", "(I)Z"⟩
abbrev cX8_advance : ByteArray := prog_10_method_15_code
def yX8_advance : MethodName := ⟨RX8, "advance", "()V"⟩
abbrev cX8_isWord : ByteArray := prog_10_method_16_code
def yX8_isWord : MethodName := ⟨RX8, "isWord", "(J)Z"⟩
abbrev cX8_isMark : ByteArray := prog_10_method_17_code
def yX8_isMark : MethodName := ⟨RX8, "isMark", "(I)Z"⟩
abbrev cX8_kindHere : ByteArray := prog_10_method_18_code
def yX8_kindHere : MethodName := ⟨RX8, "kindHere", "()I"⟩
abbrev cX8_wantNumber : ByteArray := prog_10_method_19_code
def yX8_wantNumber : MethodName := ⟨RX8, "wantNumber", "(II)I"⟩
abbrev cX8_wantWord : ByteArray := prog_10_method_20_code
def yX8_wantWord : MethodName := ⟨RX8, "wantWord", "(J)V"⟩
abbrev cX8_wantEnd : ByteArray := prog_10_method_21_code
def yX8_wantEnd : MethodName := ⟨RX8, "wantEnd", "()V"⟩
abbrev cX8_wantPerson : ByteArray := prog_10_method_22_code
def yX8_wantPerson : MethodName := ⟨RX8, "wantPerson", "(I)V"⟩
abbrev cX8_wantHat : ByteArray := prog_10_method_23_code
def yX8_wantHat : MethodName := ⟨RX8, "wantHat", "()V"⟩
abbrev cX8_wantClause : ByteArray := prog_10_method_24_code
def yX8_wantClause : MethodName := ⟨RX8, "wantClause", "()V"⟩
abbrev cX8_tower : ByteArray := prog_10_method_25_code
def yX8_tower : MethodName := ⟨RX8, "tower", "()I"⟩
abbrev cX8_turnsInto : ByteArray := prog_10_method_26_code
def yX8_turnsInto : MethodName := ⟨RX8, "turnsInto", "()V"⟩
abbrev cX8_room : ByteArray := prog_10_method_27_code
def yX8_room : MethodName := ⟨RX8, "room", "(I)I"⟩
abbrev cX8_addHat : ByteArray := prog_10_method_28_code
def yX8_addHat : MethodName := ⟨RX8, "addHat", "(III)V"⟩
abbrev cX8_hat : ByteArray := prog_10_method_29_code
def yX8_hat : MethodName := ⟨RX8, "hat", "(III)I"⟩
abbrev cX8_sweep : ByteArray := prog_10_method_30_code
def yX8_sweep : MethodName := ⟨RX8, "sweep", "(I)I"⟩
abbrev cX8_isClosed : ByteArray := prog_10_method_31_code
def yX8_isClosed : MethodName := ⟨RX8, "isClosed", "(II)Z"⟩
abbrev cX8_closed : ByteArray := prog_10_method_32_code
def yX8_closed : MethodName := ⟨RX8, "closed", "(II)I"⟩
abbrev cX8_person : ByteArray := prog_10_method_33_code
def yX8_person : MethodName := ⟨RX8, "person", "(IIII)I"⟩
abbrev cX8_takes : ByteArray := prog_10_method_34_code
def yX8_takes : MethodName := ⟨RX8, "takes", "(I)I"⟩
abbrev cX8_rank : ByteArray := prog_10_method_35_code
def yX8_rank : MethodName := ⟨RX8, "rank", "(I)I"⟩
abbrev cX8_orNot : ByteArray := prog_10_method_36_code
def yX8_orNot : MethodName := ⟨RX8, "orNot", "(I)I"⟩
abbrev cX8_personOf : ByteArray := prog_10_method_37_code
def yX8_personOf : MethodName := ⟨RX8, "personOf", "(II)I"⟩
abbrev cX8_mind : ByteArray := prog_10_method_38_code
def yX8_mind : MethodName := ⟨RX8, "mind", "(III)I"⟩
abbrev cX8_setsOut : ByteArray := prog_10_method_39_code
def yX8_setsOut : MethodName := ⟨RX8, "setsOut", "(II)V"⟩
abbrev cX8_sends : ByteArray := prog_10_method_40_code
def yX8_sends : MethodName := ⟨RX8, "sends", "(III)I"⟩
abbrev cX8_stand : ByteArray := prog_10_method_41_code
def yX8_stand : MethodName := ⟨RX8, "stand", "(II)I"⟩
abbrev cX8_minute : ByteArray := prog_10_method_42_code
def yX8_minute : MethodName := ⟨RX8, "minute", "()I"⟩
abbrev cX8_mayGo : ByteArray := prog_10_method_43_code
def yX8_mayGo : MethodName := ⟨RX8, "mayGo", "(I)I"⟩
abbrev cX8_steps : ByteArray := prog_10_method_44_code
def yX8_steps : MethodName := ⟨RX8, "steps", "(II)Z"⟩
abbrev cX8_isThere : ByteArray := prog_10_method_45_code
def yX8_isThere : MethodName := ⟨RX8, "isThere", "(I)Z"⟩
abbrev cX8_goes : ByteArray := prog_10_method_46_code
def yX8_goes : MethodName := ⟨RX8, "goes", "(I)V"⟩
abbrev cX8_minuteGoes : ByteArray := prog_10_method_47_code
def yX8_minuteGoes : MethodName := ⟨RX8, "minuteGoes", "()V"⟩
abbrev cX8_go : ByteArray := prog_10_method_48_code
def yX8_go : MethodName := ⟨RX8, "go", "(I)V"⟩
abbrev cX8_minutes : ByteArray := prog_10_method_49_code
def yX8_minutes : MethodName := ⟨RX8, "minutes", "(I)I"⟩
abbrev cX8_clock : ByteArray := prog_10_method_50_code
def yX8_clock : MethodName := ⟨RX8, "clock", "(I)I"⟩
abbrev cX8_lends : ByteArray := prog_10_method_51_code
def yX8_lends : MethodName := ⟨RX8, "lends", "()V"⟩
abbrev cX8_ends : ByteArray := prog_10_method_52_code
def yX8_ends : MethodName := ⟨RX8, "ends", "()V"⟩
abbrev cX8_tries : ByteArray := prog_10_method_53_code
def yX8_tries : MethodName := ⟨RX8, "tries", "()V"⟩
abbrev cX8_whenThen : ByteArray := prog_10_method_54_code
def yX8_whenThen : MethodName := ⟨RX8, "whenThen", "(I)I"⟩
abbrev cX8_lastThen : ByteArray := prog_10_method_55_code
def yX8_lastThen : MethodName := ⟨RX8, "lastThen", "()I"⟩
abbrev cX8_when : ByteArray := prog_10_method_56_code
def yX8_when : MethodName := ⟨RX8, "when", "(I)I"⟩
abbrev cX8_last : ByteArray := prog_10_method_57_code
def yX8_last : MethodName := ⟨RX8, "last", "()I"⟩
abbrev cX8_waited : ByteArray := prog_10_method_58_code
def yX8_waited : MethodName := ⟨RX8, "waited", "(I)I"⟩
abbrev cX8_crowd : ByteArray := prog_10_method_59_code
def yX8_crowd : MethodName := ⟨RX8, "crowd", "(I)I"⟩
abbrev cX8_there : ByteArray := prog_10_method_60_code
def yX8_there : MethodName := ⟨RX8, "there", "(II)I"⟩
abbrev cX8_drill : ByteArray := prog_10_method_61_code
def yX8_drill : MethodName := ⟨RX8, "drill", "()I"⟩
abbrev cX8_early : ByteArray := prog_10_method_62_code
def yX8_early : MethodName := ⟨RX8, "early", "(II)I"⟩
abbrev cX8_swap : ByteArray := prog_10_method_63_code
def yX8_swap : MethodName := ⟨RX8, "swap", "()I"⟩
abbrev cX8_enough : ByteArray := prog_10_method_64_code
def yX8_enough : MethodName := ⟨RX8, "enough", "(I)I"⟩
abbrev cX8_worst : ByteArray := prog_10_method_65_code
def yX8_worst : MethodName := ⟨RX8, "worst", "(I)I"⟩
abbrev cX8_rentOf : ByteArray := prog_10_method_66_code
def yX8_rentOf : MethodName := ⟨RX8, "rentOf", "(I)I"⟩
abbrev cX8_rent : ByteArray := prog_10_method_67_code
def yX8_rent : MethodName := ⟨RX8, "rent", "(I)I"⟩
abbrev cX8_cheapest : ByteArray := prog_10_method_68_code
def yX8_cheapest : MethodName := ⟨RX8, "cheapest", "()I"⟩
abbrev cX8_seed : ByteArray := prog_10_method_69_code
def yX8_seed : MethodName := ⟨RX8, "seed", "(I)I"⟩
abbrev cX8_lot : ByteArray := prog_10_method_70_code
def yX8_lot : MethodName := ⟨RX8, "lot", "(I)I"⟩
abbrev cX8_findRows : ByteArray := prog_10_method_71_code
def yX8_findRows : MethodName := ⟨RX8, "findRows", "(I)V"⟩
abbrev cX8_prove : ByteArray := prog_10_method_72_code
def yX8_prove : MethodName := ⟨RX8, "prove", "(I)I"⟩
abbrev cX8_isRow : ByteArray := prog_10_method_73_code
def yX8_isRow : MethodName := ⟨RX8, "isRow", "(II)Z"⟩
abbrev cX8_row : ByteArray := prog_10_method_74_code
def yX8_row : MethodName := ⟨RX8, "row", "(II)I"⟩
abbrev cX8_alterRow : ByteArray := prog_10_method_75_code
def yX8_alterRow : MethodName := ⟨RX8, "alterRow", "(III)I"⟩
abbrev cX8_judge : ByteArray := prog_10_method_76_code
def yX8_judge : MethodName := ⟨RX8, "judge", "()I"⟩
abbrev cX8_starts : ByteArray := prog_10_method_77_code
def yX8_starts : MethodName := ⟨RX8, "starts", "(IIII)I"⟩
abbrev cX8_isShelf : ByteArray := prog_10_method_78_code
def yX8_isShelf : MethodName := ⟨RX8, "isShelf", "(I)Z"⟩
abbrev cX8_sheet : ByteArray := prog_10_method_79_code
def yX8_sheet : MethodName := ⟨RX8, "sheet", "(III)I"⟩
abbrev cX8_put : ByteArray := prog_10_method_80_code
def yX8_put : MethodName := ⟨RX8, "put", "(III)I"⟩
abbrev cX8_lacksSort : ByteArray := prog_10_method_81_code
def yX8_lacksSort : MethodName := ⟨RX8, "lacksSort", "(II)I"⟩
abbrev cX8_item : ByteArray := prog_10_method_82_code
def yX8_item : MethodName := ⟨RX8, "item", "(III)I"⟩
abbrev cX8_isHeld : ByteArray := prog_10_method_83_code
def yX8_isHeld : MethodName := ⟨RX8, "isHeld", "(II)Z"⟩
abbrev cX8_shelf : ByteArray := prog_10_method_84_code
def yX8_shelf : MethodName := ⟨RX8, "shelf", "(III)I"⟩
abbrev cX8_kindOn : ByteArray := prog_10_method_85_code
def yX8_kindOn : MethodName := ⟨RX8, "kindOn", "(I)I"⟩
abbrev cX8_isUnder : ByteArray := prog_10_method_86_code
def yX8_isUnder : MethodName := ⟨RX8, "isUnder", "(II)Z"⟩
abbrev cX8_taken : ByteArray := prog_10_method_87_code
def yX8_taken : MethodName := ⟨RX8, "taken", "(II)I"⟩
abbrev cX8_ran : ByteArray := prog_10_method_88_code
def yX8_ran : MethodName := ⟨RX8, "ran", "(I)V"⟩
abbrev cX8_plainClimbs : ByteArray := prog_10_method_89_code
def yX8_plainClimbs : MethodName := ⟨RX8, "plainClimbs", "(I)I"⟩
abbrev cX8_runnerClimbs : ByteArray := prog_10_method_90_code
def yX8_runnerClimbs : MethodName := ⟨RX8, "runnerClimbs", "(I)I"⟩
abbrev cX8_climbsIt : ByteArray := prog_10_method_91_code
def yX8_climbsIt : MethodName := ⟨RX8, "climbsIt", "(I)I"⟩
abbrev cX8_plainYields : ByteArray := prog_10_method_92_code
def yX8_plainYields : MethodName := ⟨RX8, "plainYields", "(I)I"⟩
abbrev cX8_yieldsIt : ByteArray := prog_10_method_93_code
def yX8_yieldsIt : MethodName := ⟨RX8, "yieldsIt", "(I)I"⟩
abbrev cX8_plainShares : ByteArray := prog_10_method_94_code
def yX8_plainShares : MethodName := ⟨RX8, "plainShares", "(I)I"⟩
abbrev cX8_sharesIt : ByteArray := prog_10_method_95_code
def yX8_sharesIt : MethodName := ⟨RX8, "sharesIt", "(I)I"⟩
abbrev cX8_plainTells : ByteArray := prog_10_method_96_code
def yX8_plainTells : MethodName := ⟨RX8, "plainTells", "(I)I"⟩
abbrev cX8_tellsIt : ByteArray := prog_10_method_97_code
def yX8_tellsIt : MethodName := ⟨RX8, "tellsIt", "(I)I"⟩
abbrev cX8_act : ByteArray := prog_10_method_98_code
def yX8_act : MethodName := ⟨RX8, "act", "(III)I"⟩
abbrev cX8_trace : ByteArray := prog_10_method_99_code
def yX8_trace : MethodName := ⟨RX8, "trace", "(I)I"⟩
abbrev cX8_many : ByteArray := prog_10_method_100_code
def yX8_many : MethodName := ⟨RX8, "many", "(I)I"⟩
abbrev cX8_moveRow : ByteArray := prog_10_method_101_code
def yX8_moveRow : MethodName := ⟨RX8, "moveRow", "([IIZ)V"⟩
abbrev cX8_moveAll : ByteArray := prog_10_method_102_code
def yX8_moveAll : MethodName := ⟨RX8, "moveAll", "(Z)V"⟩
abbrev cX8_keep : ByteArray := prog_10_method_103_code
def yX8_keep : MethodName := ⟨RX8, "keep", "()I"⟩
abbrev cX8_again : ByteArray := prog_10_method_104_code
def yX8_again : MethodName := ⟨RX8, "again", "()I"⟩
def RJ6 : String := "java/lang/Integer"
def TJ6 : u_T := fun k => match k with
  | _ => ("", "", "", false)
def tyJ6 : Nat → FieldType := fun k => match k with
  | _ => .int
abbrev wsJ60 : List Cond := u_ws RJ6 TJ6 0
theorem nmJ6 : ∀ a, a < 0 → ∀ b, b < 0 → a ≠ b → (TJ6 a).2.1 ≠ (TJ6 b).2.1 := by decide +kernel
theorem tyJ6_ok : ∀ k, k < 0 → parseFieldDescriptor (TJ6 k).2.2.1 = some (tyJ6 k) := by decide +kernel
abbrev cJ6_bitCount_0f7a4 : ByteArray := prog_11_method_49_code
def yJ6_bitCount_0f7a4 : MethodName := ⟨RJ6, "bitCount", "(I)I"⟩
def RJ9 : String := "java/lang/Math"
def TJ9 : u_T := fun k => match k with
  | _ => ("", "", "", false)
def tyJ9 : Nat → FieldType := fun k => match k with
  | _ => .int
abbrev wsJ90 : List Cond := u_ws RJ9 TJ9 0
theorem nmJ9 : ∀ a, a < 0 → ∀ b, b < 0 → a ≠ b → (TJ9 a).2.1 ≠ (TJ9 b).2.1 := by decide +kernel
theorem tyJ9_ok : ∀ k, k < 0 → parseFieldDescriptor (TJ9 k).2.2.1 = some (tyJ9 k) := by decide +kernel
abbrev cJ9_max_7cf53 : ByteArray := prog_12_method_65_code
def yJ9_max_7cf53 : MethodName := ⟨RJ9, "max", "(II)I"⟩
abbrev cJ9_min_7cf53 : ByteArray := prog_12_method_69_code
def yJ9_min_7cf53 : MethodName := ⟨RJ9, "min", "(II)I"⟩
def RJ0 : String := "java/lang/String"
def TJ0 : u_T := fun k => match k with
  | _ => ("", "", "", false)
def tyJ0 : Nat → FieldType := fun k => match k with
  | _ => .int
abbrev wsJ00 : List Cond := u_ws RJ0 TJ0 0
theorem nmJ0 : ∀ a, a < 0 → ∀ b, b < 0 → a ≠ b → (TJ0 a).2.1 ≠ (TJ0 b).2.1 := by decide +kernel
theorem tyJ0_ok : ∀ k, k < 0 → parseFieldDescriptor (TJ0 k).2.2.1 = some (tyJ0 k) := by decide +kernel
abbrev cJ0_length_8abf5 : ByteArray := prog_13_method_54_code
def yJ0_length_8abf5 : MethodName := ⟨RJ0, "length", "()I"⟩
abbrev cJ0_charAt_5068e : ByteArray := prog_13_method_56_code
def yJ0_charAt_5068e : MethodName := ⟨RJ0, "charAt", "(I)C"⟩
abbrev cJ0_coder_7d493 : ByteArray := prog_13_method_152_code
def yJ0_coder_7d493 : MethodName := ⟨RJ0, "coder", "()B"⟩
abbrev cJ0_isLatin1_aae02 : ByteArray := prog_13_method_154_code
def yJ0_isLatin1_aae02 : MethodName := ⟨RJ0, "isLatin1", "()Z"⟩
abbrev cJ0_checkIndex_df160 : ByteArray := prog_13_method_155_code
def yJ0_checkIndex_df160 : MethodName := ⟨RJ0, "checkIndex", "(II)V"⟩
def RJ1 : String := "java/lang/StringLatin1"
def TJ1 : u_T := fun k => match k with
  | _ => ("", "", "", false)
def tyJ1 : Nat → FieldType := fun k => match k with
  | _ => .int
abbrev wsJ10 : List Cond := u_ws RJ1 TJ1 0
theorem nmJ1 : ∀ a, a < 0 → ∀ b, b < 0 → a ≠ b → (TJ1 a).2.1 ≠ (TJ1 b).2.1 := by decide +kernel
theorem tyJ1_ok : ∀ k, k < 0 → parseFieldDescriptor (TJ1 k).2.2.1 = some (tyJ1 k) := by decide +kernel
abbrev cJ1_charAt_3b067 : ByteArray := prog_14_method_2_code
def yJ1_charAt_3b067 : MethodName := ⟨RJ1, "charAt", "([BI)C"⟩
def RJ2 : String := "java/lang/StringUTF16"
def TJ2 : u_T := fun k => match k with
  | _ => ("", "", "", false)
def tyJ2 : Nat → FieldType := fun k => match k with
  | _ => .int
abbrev wsJ20 : List Cond := u_ws RJ2 TJ2 0
theorem nmJ2 : ∀ a, a < 0 → ∀ b, b < 0 → a ≠ b → (TJ2 a).2.1 ≠ (TJ2 b).2.1 := by decide +kernel
theorem tyJ2_ok : ∀ k, k < 0 → parseFieldDescriptor (TJ2 k).2.2.1 = some (tyJ2 k) := by decide +kernel
abbrev cJ2_getChar_3b067 : ByteArray := prog_15_method_5_code
def yJ2_getChar_3b067 : MethodName := ⟨RJ2, "getChar", "([BI)C"⟩
abbrev cJ2_length_9d52b : ByteArray := prog_15_method_6_code
def yJ2_length_9d52b : MethodName := ⟨RJ2, "length", "([B)I"⟩
abbrev cJ2_charAt_3b067 : ByteArray := prog_15_method_83_code
def yJ2_charAt_3b067 : MethodName := ⟨RJ2, "charAt", "([BI)C"⟩
abbrev cJ2_checkIndex_2214a : ByteArray := prog_15_method_91_code
def yJ2_checkIndex_2214a : MethodName := ⟨RJ2, "checkIndex", "(I[B)V"⟩
def RJ10 : String := "java/lang/System"
def TJ10 : u_T := fun k => match k with
  | _ => ("", "", "", false)
def tyJ10 : Nat → FieldType := fun k => match k with
  | _ => .int
abbrev wsJ100 : List Cond := u_ws RJ10 TJ10 0
theorem nmJ10 : ∀ a, a < 0 → ∀ b, b < 0 → a ≠ b → (TJ10 a).2.1 ≠ (TJ10 b).2.1 := by decide +kernel
theorem tyJ10_ok : ∀ k, k < 0 → parseFieldDescriptor (TJ10 k).2.2.1 = some (tyJ10 k) := by decide +kernel
def RJ3 : String := "jdk/internal/util/Preconditions"
def TJ3 : u_T := fun k => match k with
  | _ => ("", "", "", false)
def tyJ3 : Nat → FieldType := fun k => match k with
  | _ => .int
abbrev wsJ30 : List Cond := u_ws RJ3 TJ3 0
theorem nmJ3 : ∀ a, a < 0 → ∀ b, b < 0 → a ≠ b → (TJ3 a).2.1 ≠ (TJ3 b).2.1 := by decide +kernel
theorem tyJ3_ok : ∀ k, k < 0 → parseFieldDescriptor (TJ3 k).2.2.1 = some (tyJ3 k) := by decide +kernel
abbrev cJ3_checkIndex_8e157 : ByteArray := prog_17_method_11_code
def yJ3_checkIndex_8e157 : MethodName := ⟨RJ3, "checkIndex", "(IILjava/util/function/BiFunction;)I"⟩
def RL : String := "OneStairLaw"
abbrev cL_law : ByteArray := code
def yL_law : MethodName := ⟨RL, "law", "([I)Z"⟩
abbrev vwCl : List vw_C := [(RX0, TX0, 6), (RX2, TX2, 3), (RX3, TX3, 4), (RX4, TX4, 9), (RX5, TX5, 5), (RX6, TX6, 15), (RX7, TX7, 12), (RX8, TX8, 53)]
