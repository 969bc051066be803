section
-- ===== PART A: goes FIRST, ahead of the names: the tables' words, and 'selects' of the private methods out of them =====
/-- a private method of a class that the tables say can be made, by its rows of tables_1 -/
def lw_okq (q : MethodName × Nat) : Prop := (q.1.cls ≠ "java/lang/invoke/MethodHandle" ∧ q.1.cls ≠ "java/lang/invoke/VarHandle") ∧ Cond.instantiable q.1.cls q.2 ∈ tables_1 ∧ Cond.privateMethod q.1 ∈ tables_1 ∧ Cond.instanceMethod q.1 ∈ tables_1
theorem lw_p0 : lw_okq (⟨"OneStair$Text", "skipBlanks", "()V"⟩, 5) := ⟨⟨by decide +kernel, by decide +kernel⟩, List.mem_of_getElem? (i := 140) (by decide +kernel), List.mem_of_getElem? (i := 299) (by decide +kernel), List.mem_of_getElem? (i := 300) (by decide +kernel)⟩
theorem lw_p1 : lw_okq (⟨"OneStair$Text", "readEntry", "(LOneStair$Tower;)V"⟩, 5) := ⟨⟨by decide +kernel, by decide +kernel⟩, List.mem_of_getElem? (i := 140) (by decide +kernel), List.mem_of_getElem? (i := 303) (by decide +kernel), List.mem_of_getElem? (i := 304) (by decide +kernel)⟩
theorem lw_p2 : lw_okq (⟨"OneStair$Text", "takeName", "()V"⟩, 5) := ⟨⟨by decide +kernel, by decide +kernel⟩, List.mem_of_getElem? (i := 140) (by decide +kernel), List.mem_of_getElem? (i := 307) (by decide +kernel), List.mem_of_getElem? (i := 308) (by decide +kernel)⟩
theorem lw_p3 : lw_okq (⟨"OneStair$Text", "nameIs", "(Ljava/lang/String;)Z"⟩, 5) := ⟨⟨by decide +kernel, by decide +kernel⟩, List.mem_of_getElem? (i := 140) (by decide +kernel), List.mem_of_getElem? (i := 312) (by decide +kernel), List.mem_of_getElem? (i := 313) (by decide +kernel)⟩
theorem lw_p4 : lw_okq (⟨"OneStair$Text", "readHat", "(LOneStair$Tower;)V"⟩, 5) := ⟨⟨by decide +kernel, by decide +kernel⟩, List.mem_of_getElem? (i := 140) (by decide +kernel), List.mem_of_getElem? (i := 364) (by decide +kernel), List.mem_of_getElem? (i := 365) (by decide +kernel)⟩
theorem lw_p5 : lw_okq (⟨"OneStair$Text", "number", "(II)I"⟩, 5) := ⟨⟨by decide +kernel, by decide +kernel⟩, List.mem_of_getElem? (i := 140) (by decide +kernel), List.mem_of_getElem? (i := 368) (by decide +kernel), List.mem_of_getElem? (i := 369) (by decide +kernel)⟩
theorem lw_p6 : lw_okq (⟨"OneStair$Text", "word", "(Ljava/lang/String;)V"⟩, 5) := ⟨⟨by decide +kernel, by decide +kernel⟩, List.mem_of_getElem? (i := 140) (by decide +kernel), List.mem_of_getElem? (i := 374) (by decide +kernel), List.mem_of_getElem? (i := 375) (by decide +kernel)⟩
theorem lw_p7 : lw_okq (⟨"OneStair$Text", "semicolon", "()V"⟩, 5) := ⟨⟨by decide +kernel, by decide +kernel⟩, List.mem_of_getElem? (i := 140) (by decide +kernel), List.mem_of_getElem? (i := 379) (by decide +kernel), List.mem_of_getElem? (i := 380) (by decide +kernel)⟩
theorem lw_p8 : lw_okq (⟨"OneStair$Text", "semicolonIsNext", "()Z"⟩, 5) := ⟨⟨by decide +kernel, by decide +kernel⟩, List.mem_of_getElem? (i := 140) (by decide +kernel), List.mem_of_getElem? (i := 383) (by decide +kernel), List.mem_of_getElem? (i := 384) (by decide +kernel)⟩
theorem lw_p9 : lw_okq (⟨"OneStair$Text", "readRoom", "(LOneStair$Tower;)V"⟩, 5) := ⟨⟨by decide +kernel, by decide +kernel⟩, List.mem_of_getElem? (i := 140) (by decide +kernel), List.mem_of_getElem? (i := 392) (by decide +kernel), List.mem_of_getElem? (i := 393) (by decide +kernel)⟩
theorem lw_p10 : lw_okq (⟨"OneStair$Text", "kindNamed", "()I"⟩, 5) := ⟨⟨by decide +kernel, by decide +kernel⟩, List.mem_of_getElem? (i := 140) (by decide +kernel), List.mem_of_getElem? (i := 396) (by decide +kernel), List.mem_of_getElem? (i := 397) (by decide +kernel)⟩
theorem lw_p11 : lw_okq (⟨"OneStair$Text", "readPerson", "(LOneStair$Tower;I)V"⟩, 5) := ⟨⟨by decide +kernel, by decide +kernel⟩, List.mem_of_getElem? (i := 140) (by decide +kernel), List.mem_of_getElem? (i := 406) (by decide +kernel), List.mem_of_getElem? (i := 407) (by decide +kernel)⟩
theorem lw_p12 : lw_okq (⟨"OneStair$Stair", "lineUp", "(I)V"⟩, 9) := ⟨⟨by decide +kernel, by decide +kernel⟩, List.mem_of_getElem? (i := 104) (by decide +kernel), List.mem_of_getElem? (i := 515) (by decide +kernel), List.mem_of_getElem? (i := 516) (by decide +kernel)⟩
theorem lw_p13 : lw_okq (⟨"OneStair$Stair", "go", "(LOneStair$Tower;I)V"⟩, 9) := ⟨⟨by decide +kernel, by decide +kernel⟩, List.mem_of_getElem? (i := 104) (by decide +kernel), List.mem_of_getElem? (i := 524) (by decide +kernel), List.mem_of_getElem? (i := 525) (by decide +kernel)⟩
theorem lw_p14 : lw_okq (⟨"OneStair$Stair", "enters", "(LOneStair$Tower;I)Z"⟩, 9) := ⟨⟨by decide +kernel, by decide +kernel⟩, List.mem_of_getElem? (i := 104) (by decide +kernel), List.mem_of_getElem? (i := 531) (by decide +kernel), List.mem_of_getElem? (i := 532) (by decide +kernel)⟩
theorem lw_p15 : lw_okq (⟨"OneStair$Stair", "step", "(LOneStair$Tower;I)V"⟩, 9) := ⟨⟨by decide +kernel, by decide +kernel⟩, List.mem_of_getElem? (i := 104) (by decide +kernel), List.mem_of_getElem? (i := 538) (by decide +kernel), List.mem_of_getElem? (i := 539) (by decide +kernel)⟩
def lw_privs_1 : List (MethodName × Nat) := [(⟨"OneStair$Text", "skipBlanks", "()V"⟩, 5), (⟨"OneStair$Text", "readEntry", "(LOneStair$Tower;)V"⟩, 5), (⟨"OneStair$Text", "takeName", "()V"⟩, 5), (⟨"OneStair$Text", "nameIs", "(Ljava/lang/String;)Z"⟩, 5), (⟨"OneStair$Text", "readHat", "(LOneStair$Tower;)V"⟩, 5), (⟨"OneStair$Text", "number", "(II)I"⟩, 5), (⟨"OneStair$Text", "word", "(Ljava/lang/String;)V"⟩, 5), (⟨"OneStair$Text", "semicolon", "()V"⟩, 5), (⟨"OneStair$Text", "semicolonIsNext", "()Z"⟩, 5), (⟨"OneStair$Text", "readRoom", "(LOneStair$Tower;)V"⟩, 5), (⟨"OneStair$Text", "kindNamed", "()I"⟩, 5), (⟨"OneStair$Text", "readPerson", "(LOneStair$Tower;I)V"⟩, 5), (⟨"OneStair$Stair", "lineUp", "(I)V"⟩, 9), (⟨"OneStair$Stair", "go", "(LOneStair$Tower;I)V"⟩, 9), (⟨"OneStair$Stair", "enters", "(LOneStair$Tower;I)Z"⟩, 9), (⟨"OneStair$Stair", "step", "(LOneStair$Tower;I)V"⟩, 9)]
theorem lw_r1 : ∀ q ∈ lw_privs_1, lw_okq q := List.forall_mem_cons.mpr ⟨lw_p0, List.forall_mem_cons.mpr ⟨lw_p1, List.forall_mem_cons.mpr ⟨lw_p2, List.forall_mem_cons.mpr ⟨lw_p3, List.forall_mem_cons.mpr ⟨lw_p4, List.forall_mem_cons.mpr ⟨lw_p5, List.forall_mem_cons.mpr ⟨lw_p6, List.forall_mem_cons.mpr ⟨lw_p7, List.forall_mem_cons.mpr ⟨lw_p8, List.forall_mem_cons.mpr ⟨lw_p9, List.forall_mem_cons.mpr ⟨lw_p10, List.forall_mem_cons.mpr ⟨lw_p11, List.forall_mem_cons.mpr ⟨lw_p12, List.forall_mem_cons.mpr ⟨lw_p13, List.forall_mem_cons.mpr ⟨lw_p14, List.forall_mem_cons.mpr ⟨lw_p15, fun _ h => absurd h List.not_mem_nil⟩⟩⟩⟩⟩⟩⟩⟩⟩⟩⟩⟩⟩⟩⟩⟩
theorem lw_p16 : lw_okq (⟨"OneStair", "tryToTheEnd", "()V"⟩, 12) := ⟨⟨by decide +kernel, by decide +kernel⟩, List.mem_of_getElem? (i := 18) (by decide +kernel), List.mem_of_getElem? (i := 553) (by decide +kernel), List.mem_of_getElem? (i := 554) (by decide +kernel)⟩
theorem lw_p17 : lw_okq (⟨"OneStair", "arrivesBy", "(III)Z"⟩, 12) := ⟨⟨by decide +kernel, by decide +kernel⟩, List.mem_of_getElem? (i := 18) (by decide +kernel), List.mem_of_getElem? (i := 596) (by decide +kernel), List.mem_of_getElem? (i := 597) (by decide +kernel)⟩
theorem lw_p18 : lw_okq (⟨"OneStair", "latestWithSwap", "(III)I"⟩, 12) := ⟨⟨by decide +kernel, by decide +kernel⟩, List.mem_of_getElem? (i := 18) (by decide +kernel), List.mem_of_getElem? (i := 604) (by decide +kernel), List.mem_of_getElem? (i := 605) (by decide +kernel)⟩
theorem lw_p19 : lw_okq (⟨"OneStair", "rentOfFloor", "(I)I"⟩, 12) := ⟨⟨by decide +kernel, by decide +kernel⟩, List.mem_of_getElem? (i := 18) (by decide +kernel), List.mem_of_getElem? (i := 624) (by decide +kernel), List.mem_of_getElem? (i := 625) (by decide +kernel)⟩
theorem lw_p20 : lw_okq (⟨"OneStair", "passAndTell", "([I)V"⟩, 12) := ⟨⟨by decide +kernel, by decide +kernel⟩, List.mem_of_getElem? (i := 18) (by decide +kernel), List.mem_of_getElem? (i := 645) (by decide +kernel), List.mem_of_getElem? (i := 646) (by decide +kernel)⟩
theorem lw_p21 : lw_okq (⟨"OneStair", "isInRows", "(II)Z"⟩, 12) := ⟨⟨by decide +kernel, by decide +kernel⟩, List.mem_of_getElem? (i := 18) (by decide +kernel), List.mem_of_getElem? (i := 661) (by decide +kernel), List.mem_of_getElem? (i := 662) (by decide +kernel)⟩
theorem lw_p22 : lw_okq (⟨"OneStair", "isRight", "([I)Z"⟩, 12) := ⟨⟨by decide +kernel, by decide +kernel⟩, List.mem_of_getElem? (i := 18) (by decide +kernel), List.mem_of_getElem? (i := 673) (by decide +kernel), List.mem_of_getElem? (i := 674) (by decide +kernel)⟩
theorem lw_p23 : lw_okq (⟨"OneStair", "personOn", "(I)I"⟩, 12) := ⟨⟨by decide +kernel, by decide +kernel⟩, List.mem_of_getElem? (i := 18) (by decide +kernel), List.mem_of_getElem? (i := 731) (by decide +kernel), List.mem_of_getElem? (i := 732) (by decide +kernel)⟩
theorem lw_p24 : lw_okq (⟨"OneStair$Actor", "climbs", "(I)I"⟩, 6) := ⟨⟨by decide +kernel, by decide +kernel⟩, List.mem_of_getElem? (i := 170) (by decide +kernel), List.mem_of_getElem? (i := 756) (by decide +kernel), List.mem_of_getElem? (i := 757) (by decide +kernel)⟩
theorem lw_p25 : lw_okq (⟨"OneStair$Actor", "begin", "(I)V"⟩, 6) := ⟨⟨by decide +kernel, by decide +kernel⟩, List.mem_of_getElem? (i := 170) (by decide +kernel), List.mem_of_getElem? (i := 760) (by decide +kernel), List.mem_of_getElem? (i := 761) (by decide +kernel)⟩
theorem lw_p26 : lw_okq (⟨"OneStair$Actor", "yields", "(I)I"⟩, 6) := ⟨⟨by decide +kernel, by decide +kernel⟩, List.mem_of_getElem? (i := 170) (by decide +kernel), List.mem_of_getElem? (i := 764) (by decide +kernel), List.mem_of_getElem? (i := 765) (by decide +kernel)⟩
theorem lw_p27 : lw_okq (⟨"OneStair$Actor", "shares", "(I)I"⟩, 6) := ⟨⟨by decide +kernel, by decide +kernel⟩, List.mem_of_getElem? (i := 170) (by decide +kernel), List.mem_of_getElem? (i := 768) (by decide +kernel), List.mem_of_getElem? (i := 769) (by decide +kernel)⟩
theorem lw_p28 : lw_okq (⟨"OneStair$Actor", "partOf", "(I)I"⟩, 6) := ⟨⟨by decide +kernel, by decide +kernel⟩, List.mem_of_getElem? (i := 170) (by decide +kernel), List.mem_of_getElem? (i := 772) (by decide +kernel), List.mem_of_getElem? (i := 773) (by decide +kernel)⟩
theorem lw_p29 : lw_okq (⟨"OneStair$Actor", "tells", "(I)I"⟩, 6) := ⟨⟨by decide +kernel, by decide +kernel⟩, List.mem_of_getElem? (i := 170) (by decide +kernel), List.mem_of_getElem? (i := 776) (by decide +kernel), List.mem_of_getElem? (i := 777) (by decide +kernel)⟩
theorem lw_p30 : lw_okq (⟨"OneStairModel", "advance", "()V"⟩, 53) := ⟨⟨by decide +kernel, by decide +kernel⟩, List.mem_of_getElem? (i := 802) (by decide +kernel), List.mem_of_getElem? (i := 981) (by decide +kernel), List.mem_of_getElem? (i := 982) (by decide +kernel)⟩
theorem lw_p31 : lw_okq (⟨"OneStairModel", "byteAt", "(I)I"⟩, 53) := ⟨⟨by decide +kernel, by decide +kernel⟩, List.mem_of_getElem? (i := 802) (by decide +kernel), List.mem_of_getElem? (i := 985) (by decide +kernel), List.mem_of_getElem? (i := 986) (by decide +kernel)⟩
def lw_privs_2 : List (MethodName × Nat) := [(⟨"OneStair", "tryToTheEnd", "()V"⟩, 12), (⟨"OneStair", "arrivesBy", "(III)Z"⟩, 12), (⟨"OneStair", "latestWithSwap", "(III)I"⟩, 12), (⟨"OneStair", "rentOfFloor", "(I)I"⟩, 12), (⟨"OneStair", "passAndTell", "([I)V"⟩, 12), (⟨"OneStair", "isInRows", "(II)Z"⟩, 12), (⟨"OneStair", "isRight", "([I)Z"⟩, 12), (⟨"OneStair", "personOn", "(I)I"⟩, 12), (⟨"OneStair$Actor", "climbs", "(I)I"⟩, 6), (⟨"OneStair$Actor", "begin", "(I)V"⟩, 6), (⟨"OneStair$Actor", "yields", "(I)I"⟩, 6), (⟨"OneStair$Actor", "shares", "(I)I"⟩, 6), (⟨"OneStair$Actor", "partOf", "(I)I"⟩, 6), (⟨"OneStair$Actor", "tells", "(I)I"⟩, 6), (⟨"OneStairModel", "advance", "()V"⟩, 53), (⟨"OneStairModel", "byteAt", "(I)I"⟩, 53)]
theorem lw_r2 : ∀ q ∈ lw_privs_2, lw_okq q := List.forall_mem_cons.mpr ⟨lw_p16, List.forall_mem_cons.mpr ⟨lw_p17, List.forall_mem_cons.mpr ⟨lw_p18, List.forall_mem_cons.mpr ⟨lw_p19, List.forall_mem_cons.mpr ⟨lw_p20, List.forall_mem_cons.mpr ⟨lw_p21, List.forall_mem_cons.mpr ⟨lw_p22, List.forall_mem_cons.mpr ⟨lw_p23, List.forall_mem_cons.mpr ⟨lw_p24, List.forall_mem_cons.mpr ⟨lw_p25, List.forall_mem_cons.mpr ⟨lw_p26, List.forall_mem_cons.mpr ⟨lw_p27, List.forall_mem_cons.mpr ⟨lw_p28, List.forall_mem_cons.mpr ⟨lw_p29, List.forall_mem_cons.mpr ⟨lw_p30, List.forall_mem_cons.mpr ⟨lw_p31, fun _ h => absurd h List.not_mem_nil⟩⟩⟩⟩⟩⟩⟩⟩⟩⟩⟩⟩⟩⟩⟩⟩
theorem lw_p32 : lw_okq (⟨"OneStairModel", "wantClause", "()V"⟩, 53) := ⟨⟨by decide +kernel, by decide +kernel⟩, List.mem_of_getElem? (i := 802) (by decide +kernel), List.mem_of_getElem? (i := 998) (by decide +kernel), List.mem_of_getElem? (i := 999) (by decide +kernel)⟩
theorem lw_p33 : lw_okq (⟨"OneStairModel", "kindHere", "()I"⟩, 53) := ⟨⟨by decide +kernel, by decide +kernel⟩, List.mem_of_getElem? (i := 802) (by decide +kernel), List.mem_of_getElem? (i := 1002) (by decide +kernel), List.mem_of_getElem? (i := 1003) (by decide +kernel)⟩
theorem lw_p34 : lw_okq (⟨"OneStairModel", "isWord", "(J)Z"⟩, 53) := ⟨⟨by decide +kernel, by decide +kernel⟩, List.mem_of_getElem? (i := 802) (by decide +kernel), List.mem_of_getElem? (i := 1007) (by decide +kernel), List.mem_of_getElem? (i := 1008) (by decide +kernel)⟩
theorem lw_p35 : lw_okq (⟨"OneStairModel", "wantPerson", "(I)V"⟩, 53) := ⟨⟨by decide +kernel, by decide +kernel⟩, List.mem_of_getElem? (i := 802) (by decide +kernel), List.mem_of_getElem? (i := 1016) (by decide +kernel), List.mem_of_getElem? (i := 1017) (by decide +kernel)⟩
theorem lw_p36 : lw_okq (⟨"OneStairModel", "wantNumber", "(II)I"⟩, 53) := ⟨⟨by decide +kernel, by decide +kernel⟩, List.mem_of_getElem? (i := 802) (by decide +kernel), List.mem_of_getElem? (i := 1020) (by decide +kernel), List.mem_of_getElem? (i := 1021) (by decide +kernel)⟩
theorem lw_p37 : lw_okq (⟨"OneStairModel", "wantWord", "(J)V"⟩, 53) := ⟨⟨by decide +kernel, by decide +kernel⟩, List.mem_of_getElem? (i := 802) (by decide +kernel), List.mem_of_getElem? (i := 1025) (by decide +kernel), List.mem_of_getElem? (i := 1026) (by decide +kernel)⟩
theorem lw_p38 : lw_okq (⟨"OneStairModel", "wantEnd", "()V"⟩, 53) := ⟨⟨by decide +kernel, by decide +kernel⟩, List.mem_of_getElem? (i := 802) (by decide +kernel), List.mem_of_getElem? (i := 1031) (by decide +kernel), List.mem_of_getElem? (i := 1032) (by decide +kernel)⟩
theorem lw_p39 : lw_okq (⟨"OneStairModel", "isMark", "(I)Z"⟩, 53) := ⟨⟨by decide +kernel, by decide +kernel⟩, List.mem_of_getElem? (i := 802) (by decide +kernel), List.mem_of_getElem? (i := 1035) (by decide +kernel), List.mem_of_getElem? (i := 1036) (by decide +kernel)⟩
theorem lw_p40 : lw_okq (⟨"OneStairModel", "wantHat", "()V"⟩, 53) := ⟨⟨by decide +kernel, by decide +kernel⟩, List.mem_of_getElem? (i := 802) (by decide +kernel), List.mem_of_getElem? (i := 1040) (by decide +kernel), List.mem_of_getElem? (i := 1041) (by decide +kernel)⟩
theorem lw_p41 : lw_okq (⟨"OneStairModel", "turnsInto", "()V"⟩, 53) := ⟨⟨by decide +kernel, by decide +kernel⟩, List.mem_of_getElem? (i := 802) (by decide +kernel), List.mem_of_getElem? (i := 1046) (by decide +kernel), List.mem_of_getElem? (i := 1047) (by decide +kernel)⟩
theorem lw_p42 : lw_okq (⟨"OneStairModel", "addHat", "(III)V"⟩, 53) := ⟨⟨by decide +kernel, by decide +kernel⟩, List.mem_of_getElem? (i := 802) (by decide +kernel), List.mem_of_getElem? (i := 1064) (by decide +kernel), List.mem_of_getElem? (i := 1065) (by decide +kernel)⟩
theorem lw_p43 : lw_okq (⟨"OneStairModel", "isClosed", "(II)Z"⟩, 53) := ⟨⟨by decide +kernel, by decide +kernel⟩, List.mem_of_getElem? (i := 802) (by decide +kernel), List.mem_of_getElem? (i := 1079) (by decide +kernel), List.mem_of_getElem? (i := 1080) (by decide +kernel)⟩
theorem lw_p44 : lw_okq (⟨"OneStairModel", "isPerson", "(I)Z"⟩, 53) := ⟨⟨by decide +kernel, by decide +kernel⟩, List.mem_of_getElem? (i := 802) (by decide +kernel), List.mem_of_getElem? (i := 1097) (by decide +kernel), List.mem_of_getElem? (i := 1098) (by decide +kernel)⟩
theorem lw_p45 : lw_okq (⟨"OneStairModel", "takes", "(I)I"⟩, 53) := ⟨⟨by decide +kernel, by decide +kernel⟩, List.mem_of_getElem? (i := 802) (by decide +kernel), List.mem_of_getElem? (i := 1104) (by decide +kernel), List.mem_of_getElem? (i := 1105) (by decide +kernel)⟩
theorem lw_p46 : lw_okq (⟨"OneStairModel", "rank", "(I)I"⟩, 53) := ⟨⟨by decide +kernel, by decide +kernel⟩, List.mem_of_getElem? (i := 802) (by decide +kernel), List.mem_of_getElem? (i := 1108) (by decide +kernel), List.mem_of_getElem? (i := 1109) (by decide +kernel)⟩
theorem lw_p47 : lw_okq (⟨"OneStairModel", "setsOut", "(II)V"⟩, 53) := ⟨⟨by decide +kernel, by decide +kernel⟩, List.mem_of_getElem? (i := 802) (by decide +kernel), List.mem_of_getElem? (i := 1120) (by decide +kernel), List.mem_of_getElem? (i := 1121) (by decide +kernel)⟩
def lw_privs_3 : List (MethodName × Nat) := [(⟨"OneStairModel", "wantClause", "()V"⟩, 53), (⟨"OneStairModel", "kindHere", "()I"⟩, 53), (⟨"OneStairModel", "isWord", "(J)Z"⟩, 53), (⟨"OneStairModel", "wantPerson", "(I)V"⟩, 53), (⟨"OneStairModel", "wantNumber", "(II)I"⟩, 53), (⟨"OneStairModel", "wantWord", "(J)V"⟩, 53), (⟨"OneStairModel", "wantEnd", "()V"⟩, 53), (⟨"OneStairModel", "isMark", "(I)Z"⟩, 53), (⟨"OneStairModel", "wantHat", "()V"⟩, 53), (⟨"OneStairModel", "turnsInto", "()V"⟩, 53), (⟨"OneStairModel", "addHat", "(III)V"⟩, 53), (⟨"OneStairModel", "isClosed", "(II)Z"⟩, 53), (⟨"OneStairModel", "isPerson", "(I)Z"⟩, 53), (⟨"OneStairModel", "takes", "(I)I"⟩, 53), (⟨"OneStairModel", "rank", "(I)I"⟩, 53), (⟨"OneStairModel", "setsOut", "(II)V"⟩, 53)]
theorem lw_r3 : ∀ q ∈ lw_privs_3, lw_okq q := List.forall_mem_cons.mpr ⟨lw_p32, List.forall_mem_cons.mpr ⟨lw_p33, List.forall_mem_cons.mpr ⟨lw_p34, List.forall_mem_cons.mpr ⟨lw_p35, List.forall_mem_cons.mpr ⟨lw_p36, List.forall_mem_cons.mpr ⟨lw_p37, List.forall_mem_cons.mpr ⟨lw_p38, List.forall_mem_cons.mpr ⟨lw_p39, List.forall_mem_cons.mpr ⟨lw_p40, List.forall_mem_cons.mpr ⟨lw_p41, List.forall_mem_cons.mpr ⟨lw_p42, List.forall_mem_cons.mpr ⟨lw_p43, List.forall_mem_cons.mpr ⟨lw_p44, List.forall_mem_cons.mpr ⟨lw_p45, List.forall_mem_cons.mpr ⟨lw_p46, List.forall_mem_cons.mpr ⟨lw_p47, fun _ h => absurd h List.not_mem_nil⟩⟩⟩⟩⟩⟩⟩⟩⟩⟩⟩⟩⟩⟩⟩⟩
theorem lw_p48 : lw_okq (⟨"OneStairModel", "becomes", "(II)V"⟩, 53) := ⟨⟨by decide +kernel, by decide +kernel⟩, List.mem_of_getElem? (i := 802) (by decide +kernel), List.mem_of_getElem? (i := 1124) (by decide +kernel), List.mem_of_getElem? (i := 1125) (by decide +kernel)⟩
theorem lw_p49 : lw_okq (⟨"OneStairModel", "go", "(I)V"⟩, 53) := ⟨⟨by decide +kernel, by decide +kernel⟩, List.mem_of_getElem? (i := 802) (by decide +kernel), List.mem_of_getElem? (i := 1140) (by decide +kernel), List.mem_of_getElem? (i := 1141) (by decide +kernel)⟩
theorem lw_p50 : lw_okq (⟨"OneStairModel", "its", "(I)I"⟩, 53) := ⟨⟨by decide +kernel, by decide +kernel⟩, List.mem_of_getElem? (i := 802) (by decide +kernel), List.mem_of_getElem? (i := 1144) (by decide +kernel), List.mem_of_getElem? (i := 1145) (by decide +kernel)⟩
theorem lw_p51 : lw_okq (⟨"OneStairModel", "minuteGoes", "()V"⟩, 53) := ⟨⟨by decide +kernel, by decide +kernel⟩, List.mem_of_getElem? (i := 802) (by decide +kernel), List.mem_of_getElem? (i := 1148) (by decide +kernel), List.mem_of_getElem? (i := 1149) (by decide +kernel)⟩
theorem lw_p52 : lw_okq (⟨"OneStairModel", "goes", "(I)V"⟩, 53) := ⟨⟨by decide +kernel, by decide +kernel⟩, List.mem_of_getElem? (i := 802) (by decide +kernel), List.mem_of_getElem? (i := 1152) (by decide +kernel), List.mem_of_getElem? (i := 1153) (by decide +kernel)⟩
theorem lw_p53 : lw_okq (⟨"OneStairModel", "isThere", "(I)Z"⟩, 53) := ⟨⟨by decide +kernel, by decide +kernel⟩, List.mem_of_getElem? (i := 802) (by decide +kernel), List.mem_of_getElem? (i := 1156) (by decide +kernel), List.mem_of_getElem? (i := 1157) (by decide +kernel)⟩
theorem lw_p54 : lw_okq (⟨"OneStairModel", "mayGo", "(I)I"⟩, 53) := ⟨⟨by decide +kernel, by decide +kernel⟩, List.mem_of_getElem? (i := 802) (by decide +kernel), List.mem_of_getElem? (i := 1160) (by decide +kernel), List.mem_of_getElem? (i := 1161) (by decide +kernel)⟩
theorem lw_p55 : lw_okq (⟨"OneStairModel", "steps", "(II)Z"⟩, 53) := ⟨⟨by decide +kernel, by decide +kernel⟩, List.mem_of_getElem? (i := 802) (by decide +kernel), List.mem_of_getElem? (i := 1164) (by decide +kernel), List.mem_of_getElem? (i := 1165) (by decide +kernel)⟩
theorem lw_p56 : lw_okq (⟨"OneStairModel", "tries", "()V"⟩, 53) := ⟨⟨by decide +kernel, by decide +kernel⟩, List.mem_of_getElem? (i := 802) (by decide +kernel), List.mem_of_getElem? (i := 1176) (by decide +kernel), List.mem_of_getElem? (i := 1177) (by decide +kernel)⟩
theorem lw_p57 : lw_okq (⟨"OneStairModel", "lends", "()V"⟩, 53) := ⟨⟨by decide +kernel, by decide +kernel⟩, List.mem_of_getElem? (i := 802) (by decide +kernel), List.mem_of_getElem? (i := 1180) (by decide +kernel), List.mem_of_getElem? (i := 1181) (by decide +kernel)⟩
theorem lw_p58 : lw_okq (⟨"OneStairModel", "ends", "()V"⟩, 53) := ⟨⟨by decide +kernel, by decide +kernel⟩, List.mem_of_getElem? (i := 802) (by decide +kernel), List.mem_of_getElem? (i := 1184) (by decide +kernel), List.mem_of_getElem? (i := 1185) (by decide +kernel)⟩
theorem lw_p59 : lw_okq (⟨"OneStairModel", "whenThen", "(I)I"⟩, 53) := ⟨⟨by decide +kernel, by decide +kernel⟩, List.mem_of_getElem? (i := 802) (by decide +kernel), List.mem_of_getElem? (i := 1188) (by decide +kernel), List.mem_of_getElem? (i := 1189) (by decide +kernel)⟩
theorem lw_p60 : lw_okq (⟨"OneStairModel", "lastThen", "()I"⟩, 53) := ⟨⟨by decide +kernel, by decide +kernel⟩, List.mem_of_getElem? (i := 802) (by decide +kernel), List.mem_of_getElem? (i := 1196) (by decide +kernel), List.mem_of_getElem? (i := 1197) (by decide +kernel)⟩
theorem lw_p61 : lw_okq (⟨"OneStairModel", "rentOf", "(I)I"⟩, 53) := ⟨⟨by decide +kernel, by decide +kernel⟩, List.mem_of_getElem? (i := 802) (by decide +kernel), List.mem_of_getElem? (i := 1236) (by decide +kernel), List.mem_of_getElem? (i := 1237) (by decide +kernel)⟩
theorem lw_p62 : lw_okq (⟨"OneStairModel", "findRows", "(I)V"⟩, 53) := ⟨⟨by decide +kernel, by decide +kernel⟩, List.mem_of_getElem? (i := 802) (by decide +kernel), List.mem_of_getElem? (i := 1257) (by decide +kernel), List.mem_of_getElem? (i := 1258) (by decide +kernel)⟩
theorem lw_p63 : lw_okq (⟨"OneStairModel", "isRow", "(II)Z"⟩, 53) := ⟨⟨by decide +kernel, by decide +kernel⟩, List.mem_of_getElem? (i := 802) (by decide +kernel), List.mem_of_getElem? (i := 1265) (by decide +kernel), List.mem_of_getElem? (i := 1266) (by decide +kernel)⟩
def lw_privs_4 : List (MethodName × Nat) := [(⟨"OneStairModel", "becomes", "(II)V"⟩, 53), (⟨"OneStairModel", "go", "(I)V"⟩, 53), (⟨"OneStairModel", "its", "(I)I"⟩, 53), (⟨"OneStairModel", "minuteGoes", "()V"⟩, 53), (⟨"OneStairModel", "goes", "(I)V"⟩, 53), (⟨"OneStairModel", "isThere", "(I)Z"⟩, 53), (⟨"OneStairModel", "mayGo", "(I)I"⟩, 53), (⟨"OneStairModel", "steps", "(II)Z"⟩, 53), (⟨"OneStairModel", "tries", "()V"⟩, 53), (⟨"OneStairModel", "lends", "()V"⟩, 53), (⟨"OneStairModel", "ends", "()V"⟩, 53), (⟨"OneStairModel", "whenThen", "(I)I"⟩, 53), (⟨"OneStairModel", "lastThen", "()I"⟩, 53), (⟨"OneStairModel", "rentOf", "(I)I"⟩, 53), (⟨"OneStairModel", "findRows", "(I)V"⟩, 53), (⟨"OneStairModel", "isRow", "(II)Z"⟩, 53)]
theorem lw_r4 : ∀ q ∈ lw_privs_4, lw_okq q := List.forall_mem_cons.mpr ⟨lw_p48, List.forall_mem_cons.mpr ⟨lw_p49, List.forall_mem_cons.mpr ⟨lw_p50, List.forall_mem_cons.mpr ⟨lw_p51, List.forall_mem_cons.mpr ⟨lw_p52, List.forall_mem_cons.mpr ⟨lw_p53, List.forall_mem_cons.mpr ⟨lw_p54, List.forall_mem_cons.mpr ⟨lw_p55, List.forall_mem_cons.mpr ⟨lw_p56, List.forall_mem_cons.mpr ⟨lw_p57, List.forall_mem_cons.mpr ⟨lw_p58, List.forall_mem_cons.mpr ⟨lw_p59, List.forall_mem_cons.mpr ⟨lw_p60, List.forall_mem_cons.mpr ⟨lw_p61, List.forall_mem_cons.mpr ⟨lw_p62, List.forall_mem_cons.mpr ⟨lw_p63, fun _ h => absurd h List.not_mem_nil⟩⟩⟩⟩⟩⟩⟩⟩⟩⟩⟩⟩⟩⟩⟩⟩
theorem lw_p64 : lw_okq (⟨"OneStairModel", "lacksSort", "(II)I"⟩, 53) := ⟨⟨by decide +kernel, by decide +kernel⟩, List.mem_of_getElem? (i := 802) (by decide +kernel), List.mem_of_getElem? (i := 1284) (by decide +kernel), List.mem_of_getElem? (i := 1285) (by decide +kernel)⟩
theorem lw_p65 : lw_okq (⟨"OneStairModel", "isHeld", "(II)Z"⟩, 53) := ⟨⟨by decide +kernel, by decide +kernel⟩, List.mem_of_getElem? (i := 802) (by decide +kernel), List.mem_of_getElem? (i := 1305) (by decide +kernel), List.mem_of_getElem? (i := 1306) (by decide +kernel)⟩
theorem lw_p66 : lw_okq (⟨"OneStairModel", "kindOn", "(I)I"⟩, 53) := ⟨⟨by decide +kernel, by decide +kernel⟩, List.mem_of_getElem? (i := 802) (by decide +kernel), List.mem_of_getElem? (i := 1313) (by decide +kernel), List.mem_of_getElem? (i := 1314) (by decide +kernel)⟩
theorem lw_p67 : lw_okq (⟨"OneStairModel", "climbsIt", "(I)I"⟩, 53) := ⟨⟨by decide +kernel, by decide +kernel⟩, List.mem_of_getElem? (i := 802) (by decide +kernel), List.mem_of_getElem? (i := 1324) (by decide +kernel), List.mem_of_getElem? (i := 1325) (by decide +kernel)⟩
theorem lw_p68 : lw_okq (⟨"OneStairModel", "runnerClimbs", "(I)I"⟩, 53) := ⟨⟨by decide +kernel, by decide +kernel⟩, List.mem_of_getElem? (i := 802) (by decide +kernel), List.mem_of_getElem? (i := 1328) (by decide +kernel), List.mem_of_getElem? (i := 1329) (by decide +kernel)⟩
theorem lw_p69 : lw_okq (⟨"OneStairModel", "ran", "(I)V"⟩, 53) := ⟨⟨by decide +kernel, by decide +kernel⟩, List.mem_of_getElem? (i := 802) (by decide +kernel), List.mem_of_getElem? (i := 1332) (by decide +kernel), List.mem_of_getElem? (i := 1333) (by decide +kernel)⟩
theorem lw_p70 : lw_okq (⟨"OneStairModel", "plainClimbs", "(I)I"⟩, 53) := ⟨⟨by decide +kernel, by decide +kernel⟩, List.mem_of_getElem? (i := 802) (by decide +kernel), List.mem_of_getElem? (i := 1336) (by decide +kernel), List.mem_of_getElem? (i := 1337) (by decide +kernel)⟩
theorem lw_p71 : lw_okq (⟨"OneStairModel", "yieldsIt", "(I)I"⟩, 53) := ⟨⟨by decide +kernel, by decide +kernel⟩, List.mem_of_getElem? (i := 802) (by decide +kernel), List.mem_of_getElem? (i := 1340) (by decide +kernel), List.mem_of_getElem? (i := 1341) (by decide +kernel)⟩
theorem lw_p72 : lw_okq (⟨"OneStairModel", "plainYields", "(I)I"⟩, 53) := ⟨⟨by decide +kernel, by decide +kernel⟩, List.mem_of_getElem? (i := 802) (by decide +kernel), List.mem_of_getElem? (i := 1344) (by decide +kernel), List.mem_of_getElem? (i := 1345) (by decide +kernel)⟩
theorem lw_p73 : lw_okq (⟨"OneStairModel", "sharesIt", "(I)I"⟩, 53) := ⟨⟨by decide +kernel, by decide +kernel⟩, List.mem_of_getElem? (i := 802) (by decide +kernel), List.mem_of_getElem? (i := 1348) (by decide +kernel), List.mem_of_getElem? (i := 1349) (by decide +kernel)⟩
theorem lw_p74 : lw_okq (⟨"OneStairModel", "plainShares", "(I)I"⟩, 53) := ⟨⟨by decide +kernel, by decide +kernel⟩, List.mem_of_getElem? (i := 802) (by decide +kernel), List.mem_of_getElem? (i := 1352) (by decide +kernel), List.mem_of_getElem? (i := 1353) (by decide +kernel)⟩
theorem lw_p75 : lw_okq (⟨"OneStairModel", "tellsIt", "(I)I"⟩, 53) := ⟨⟨by decide +kernel, by decide +kernel⟩, List.mem_of_getElem? (i := 802) (by decide +kernel), List.mem_of_getElem? (i := 1356) (by decide +kernel), List.mem_of_getElem? (i := 1357) (by decide +kernel)⟩
theorem lw_p76 : lw_okq (⟨"OneStairModel", "plainTells", "(I)I"⟩, 53) := ⟨⟨by decide +kernel, by decide +kernel⟩, List.mem_of_getElem? (i := 802) (by decide +kernel), List.mem_of_getElem? (i := 1360) (by decide +kernel), List.mem_of_getElem? (i := 1361) (by decide +kernel)⟩
theorem lw_p77 : lw_okq (⟨"OneStairModel", "moveAll", "(Z)V"⟩, 53) := ⟨⟨by decide +kernel, by decide +kernel⟩, List.mem_of_getElem? (i := 802) (by decide +kernel), List.mem_of_getElem? (i := 1376) (by decide +kernel), List.mem_of_getElem? (i := 1377) (by decide +kernel)⟩
theorem lw_p78 : lw_okq (⟨"OneStairModel", "moveRow", "([IIZ)V"⟩, 53) := ⟨⟨by decide +kernel, by decide +kernel⟩, List.mem_of_getElem? (i := 802) (by decide +kernel), List.mem_of_getElem? (i := 1380) (by decide +kernel), List.mem_of_getElem? (i := 1381) (by decide +kernel)⟩
def lw_privs_5 : List (MethodName × Nat) := [(⟨"OneStairModel", "lacksSort", "(II)I"⟩, 53), (⟨"OneStairModel", "isHeld", "(II)Z"⟩, 53), (⟨"OneStairModel", "kindOn", "(I)I"⟩, 53), (⟨"OneStairModel", "climbsIt", "(I)I"⟩, 53), (⟨"OneStairModel", "runnerClimbs", "(I)I"⟩, 53), (⟨"OneStairModel", "ran", "(I)V"⟩, 53), (⟨"OneStairModel", "plainClimbs", "(I)I"⟩, 53), (⟨"OneStairModel", "yieldsIt", "(I)I"⟩, 53), (⟨"OneStairModel", "plainYields", "(I)I"⟩, 53), (⟨"OneStairModel", "sharesIt", "(I)I"⟩, 53), (⟨"OneStairModel", "plainShares", "(I)I"⟩, 53), (⟨"OneStairModel", "tellsIt", "(I)I"⟩, 53), (⟨"OneStairModel", "plainTells", "(I)I"⟩, 53), (⟨"OneStairModel", "moveAll", "(Z)V"⟩, 53), (⟨"OneStairModel", "moveRow", "([IIZ)V"⟩, 53)]
theorem lw_r5 : ∀ q ∈ lw_privs_5, lw_okq q := List.forall_mem_cons.mpr ⟨lw_p64, List.forall_mem_cons.mpr ⟨lw_p65, List.forall_mem_cons.mpr ⟨lw_p66, List.forall_mem_cons.mpr ⟨lw_p67, List.forall_mem_cons.mpr ⟨lw_p68, List.forall_mem_cons.mpr ⟨lw_p69, List.forall_mem_cons.mpr ⟨lw_p70, List.forall_mem_cons.mpr ⟨lw_p71, List.forall_mem_cons.mpr ⟨lw_p72, List.forall_mem_cons.mpr ⟨lw_p73, List.forall_mem_cons.mpr ⟨lw_p74, List.forall_mem_cons.mpr ⟨lw_p75, List.forall_mem_cons.mpr ⟨lw_p76, List.forall_mem_cons.mpr ⟨lw_p77, List.forall_mem_cons.mpr ⟨lw_p78, fun _ h => absurd h List.not_mem_nil⟩⟩⟩⟩⟩⟩⟩⟩⟩⟩⟩⟩⟩⟩⟩
def lw_privs : List (MethodName × Nat) := lw_privs_1 ++ (lw_privs_2 ++ (lw_privs_3 ++ (lw_privs_4 ++ (lw_privs_5))))
def lw_tbl : List Cond := k2_sels lw_privs ++ tables_1
theorem lw_privs_ok : ∀ q ∈ lw_privs, lw_okq q := by
  show ∀ q ∈ lw_privs_1 ++ (lw_privs_2 ++ (lw_privs_3 ++ (lw_privs_4 ++ (lw_privs_5)))), lw_okq q
  exact List.forall_mem_append.mpr ⟨lw_r1, List.forall_mem_append.mpr ⟨lw_r2, List.forall_mem_append.mpr ⟨lw_r3, List.forall_mem_append.mpr ⟨lw_r4, lw_r5⟩⟩⟩⟩
def RX0 : String := "OneStair$Actor"
def TX0 : u_T := fun k => match k with
  | 0 => ("OneStair$Actor", "kind", "I", false)
  | 1 => ("OneStair$Actor", "n", "I", false)
  | 2 => ("OneStair$Actor", "a", "I", false)
  | 3 => ("OneStair$Actor", "bodies", "[I", true)
  | 4 => ("OneStair$Actor", "bodyCount", "I", false)
  | _ => ("OneStair$Actor", "parted", "Z", false)
def tyX0 : Nat → FieldType := fun k => match k with
  | 0 => .int
  | 1 => .int
  | 2 => .int
  | 3 => .array .int
  | 4 => .int
  | _ => .boolean
abbrev wsX00 : List Cond := u_ws RX0 TX0 6
theorem nmX0 : ∀ a, a < 6 → ∀ b, b < 6 → a ≠ b → (TX0 a).2.1 ≠ (TX0 b).2.1 := by decide +kernel
theorem tyX0_ok : ∀ k, k < 6 → parseFieldDescriptor (TX0 k).2.2.1 = some (tyX0 k) := by decide +kernel
abbrev cX0_init : ByteArray := prog_2_method_1_code
def yX0_init : MethodName := ⟨RX0, "<init>", "()V"⟩
abbrev cX0_forget : ByteArray := prog_2_method_2_code
def yX0_forget : MethodName := ⟨RX0, "forget", "()V"⟩
abbrev cX0_play : ByteArray := prog_2_method_3_code
def yX0_play : MethodName := ⟨RX0, "play", "(III)V"⟩
abbrev cX0_perform : ByteArray := prog_2_method_4_code
def yX0_perform : MethodName := ⟨RX0, "perform", "(II)I"⟩
abbrev cX0_begin : ByteArray := prog_2_method_5_code
def yX0_begin : MethodName := ⟨RX0, "begin", "(I)V"⟩
abbrev cX0_climbs : ByteArray := prog_2_method_6_code
def yX0_climbs : MethodName := ⟨RX0, "climbs", "(I)I"⟩
abbrev cX0_yields : ByteArray := prog_2_method_7_code
def yX0_yields : MethodName := ⟨RX0, "yields", "(I)I"⟩
abbrev cX0_shares : ByteArray := prog_2_method_8_code
def yX0_shares : MethodName := ⟨RX0, "shares", "(I)I"⟩
abbrev cX0_tells : ByteArray := prog_2_method_9_code
def yX0_tells : MethodName := ⟨RX0, "tells", "(I)I"⟩
abbrev cX0_partOf : ByteArray := prog_2_method_10_code
def yX0_partOf : MethodName := ⟨RX0, "partOf", "(I)I"⟩
def RX1 : String := "OneStair$Kind"
def TX1 : u_T := fun k => match k with
  | _ => ("", "", "", false)
def tyX1 : Nat → FieldType := fun k => match k with
  | _ => .int
abbrev wsX10 : List Cond := u_ws RX1 TX1 0
theorem nmX1 : ∀ a, a < 0 → ∀ b, b < 0 → a ≠ b → (TX1 a).2.1 ≠ (TX1 b).2.1 := by decide +kernel
theorem tyX1_ok : ∀ k, k < 0 → parseFieldDescriptor (TX1 k).2.2.1 = some (tyX1 k) := by decide +kernel
abbrev cX1_takes : ByteArray := prog_3_method_2_code
def yX1_takes : MethodName := ⟨RX1, "takes", "(II)I"⟩
abbrev cX1_rank : ByteArray := prog_3_method_3_code
def yX1_rank : MethodName := ⟨RX1, "rank", "(II)I"⟩
abbrev cX1_steps : ByteArray := prog_3_method_4_code
def yX1_steps : MethodName := ⟨RX1, "steps", "(III)I"⟩
abbrev cX1_goesByHalves : ByteArray := prog_3_method_5_code
def yX1_goesByHalves : MethodName := ⟨RX1, "goesByHalves", "(I)Z"⟩
abbrev cX1_isOrIsUnder : ByteArray := prog_3_method_6_code
def yX1_isOrIsUnder : MethodName := ⟨RX1, "isOrIsUnder", "(II)Z"⟩
def RX2 : String := "OneStair$Sheet"
def TX2 : u_T := fun k => match k with
  | 0 => ("OneStair$Sheet", "sort", "I", false)
  | 1 => ("OneStair$Sheet", "length", "I", false)
  | _ => ("OneStair$Sheet", "items", "[I", true)
def tyX2 : Nat → FieldType := fun k => match k with
  | 0 => .int
  | 1 => .int
  | _ => .array .int
abbrev wsX20 : List Cond := u_ws RX2 TX2 3
theorem nmX2 : ∀ a, a < 3 → ∀ b, b < 3 → a ≠ b → (TX2 a).2.1 ≠ (TX2 b).2.1 := by decide +kernel
theorem tyX2_ok : ∀ k, k < 3 → parseFieldDescriptor (TX2 k).2.2.1 = some (tyX2 k) := by decide +kernel
abbrev cX2_init : ByteArray := prog_4_method_1_code
def yX2_init : MethodName := ⟨RX2, "<init>", "()V"⟩
abbrev cX2_renew : ByteArray := prog_4_method_2_code
def yX2_renew : MethodName := ⟨RX2, "renew", "(II)V"⟩
abbrev cX2_narrowed : ByteArray := prog_4_method_3_code
def yX2_narrowed : MethodName := ⟨RX2, "narrowed", "(I)I"⟩
def RX3 : String := "OneStair$Shelf"
def TX3 : u_T := fun k => match k with
  | 0 => ("OneStair$Shelf", "what", "I", false)
  | 1 => ("OneStair$Shelf", "number", "I", false)
  | 2 => ("OneStair$Shelf", "sort", "I", false)
  | _ => ("OneStair$Shelf", "length", "I", false)
def tyX3 : Nat → FieldType := fun k => match k with
  | 0 => .int
  | 1 => .int
  | 2 => .int
  | _ => .int
abbrev wsX30 : List Cond := u_ws RX3 TX3 4
theorem nmX3 : ∀ a, a < 4 → ∀ b, b < 4 → a ≠ b → (TX3 a).2.1 ≠ (TX3 b).2.1 := by decide +kernel
theorem tyX3_ok : ∀ k, k < 4 → parseFieldDescriptor (TX3 k).2.2.1 = some (tyX3 k) := by decide +kernel
abbrev cX3_init : ByteArray := prog_5_method_1_code
def yX3_init : MethodName := ⟨RX3, "<init>", "()V"⟩
abbrev cX3_holdNothing : ByteArray := prog_5_method_2_code
def yX3_holdNothing : MethodName := ⟨RX3, "holdNothing", "()V"⟩
abbrev cX3_holdPerson : ByteArray := prog_5_method_3_code
def yX3_holdPerson : MethodName := ⟨RX3, "holdPerson", "(I)V"⟩
abbrev cX3_holdRowOf : ByteArray := prog_5_method_4_code
def yX3_holdRowOf : MethodName := ⟨RX3, "holdRowOf", "(LOneStair$Sheet;)V"⟩
def RX4 : String := "OneStair$Stair"
def TX4 : u_T := fun k => match k with
  | 0 => ("OneStair$Stair", "order", "[I", true)
  | 1 => ("OneStair$Stair", "rank", "[I", true)
  | 2 => ("OneStair$Stair", "takes", "[I", true)
  | 3 => ("OneStair$Stair", "waits", "[I", true)
  | 4 => ("OneStair$Stair", "usedUp", "[I", true)
  | 5 => ("OneStair$Stair", "usedDown", "[I", true)
  | 6 => ("OneStair$Stair", "mostUsed", "[I", true)
  | 7 => ("OneStair$Stair", "closed", "I", false)
  | _ => ("OneStair$Stair", "onTheWay", "I", false)
def tyX4 : Nat → FieldType := fun k => match k with
  | 0 => .array .int
  | 1 => .array .int
  | 2 => .array .int
  | 3 => .array .int
  | 4 => .array .int
  | 5 => .array .int
  | 6 => .array .int
  | 7 => .int
  | _ => .int
abbrev wsX40 : List Cond := u_ws RX4 TX4 9
theorem nmX4 : ∀ a, a < 9 → ∀ b, b < 9 → a ≠ b → (TX4 a).2.1 ≠ (TX4 b).2.1 := by decide +kernel
theorem tyX4_ok : ∀ k, k < 9 → parseFieldDescriptor (TX4 k).2.2.1 = some (tyX4 k) := by decide +kernel
abbrev cX4_init : ByteArray := prog_6_method_1_code
def yX4_init : MethodName := ⟨RX4, "<init>", "()V"⟩
abbrev cX4_ready : ByteArray := prog_6_method_2_code
def yX4_ready : MethodName := ⟨RX4, "ready", "(LOneStair$Tower;)V"⟩
abbrev cX4_lineUp : ByteArray := prog_6_method_3_code
def yX4_lineUp : MethodName := ⟨RX4, "lineUp", "(I)V"⟩
abbrev cX4_tryUntil : ByteArray := prog_6_method_4_code
def yX4_tryUntil : MethodName := ⟨RX4, "tryUntil", "(LOneStair$Tower;I)V"⟩
abbrev cX4_pass : ByteArray := prog_6_method_5_code
def yX4_pass : MethodName := ⟨RX4, "pass", "(LOneStair$Tower;)V"⟩
abbrev cX4_go : ByteArray := prog_6_method_6_code
def yX4_go : MethodName := ⟨RX4, "go", "(LOneStair$Tower;I)V"⟩
abbrev cX4_enters : ByteArray := prog_6_method_7_code
def yX4_enters : MethodName := ⟨RX4, "enters", "(LOneStair$Tower;I)Z"⟩
abbrev cX4_step : ByteArray := prog_6_method_8_code
def yX4_step : MethodName := ⟨RX4, "step", "(LOneStair$Tower;I)V"⟩
def RX5 : String := "OneStair$Text"
def TX5 : u_T := fun k => match k with
  | 0 => ("OneStair$Text", "bytes", "[B", true)
  | 1 => ("OneStair$Text", "length", "I", false)
  | 2 => ("OneStair$Text", "place", "I", false)
  | 3 => ("OneStair$Text", "tokenStart", "I", false)
  | _ => ("OneStair$Text", "fault", "I", false)
def tyX5 : Nat → FieldType := fun k => match k with
  | 0 => .array .byte
  | 1 => .int
  | 2 => .int
  | 3 => .int
  | _ => .int
abbrev wsX50 : List Cond := u_ws RX5 TX5 5
theorem nmX5 : ∀ a, a < 5 → ∀ b, b < 5 → a ≠ b → (TX5 a).2.1 ≠ (TX5 b).2.1 := by decide +kernel
theorem tyX5_ok : ∀ k, k < 5 → parseFieldDescriptor (TX5 k).2.2.1 = some (tyX5 k) := by decide +kernel
abbrev cX5_init : ByteArray := prog_7_method_1_code
def yX5_init : MethodName := ⟨RX5, "<init>", "()V"⟩
abbrev cX5_add : ByteArray := prog_7_method_2_code
def yX5_add : MethodName := ⟨RX5, "add", "(B)V"⟩
abbrev cX5_useUp : ByteArray := prog_7_method_3_code
def yX5_useUp : MethodName := ⟨RX5, "useUp", "()V"⟩
abbrev cX5_readInto : ByteArray := prog_7_method_4_code
def yX5_readInto : MethodName := ⟨RX5, "readInto", "(LOneStair$Tower;)I"⟩
abbrev cX5_readEntry : ByteArray := prog_7_method_5_code
def yX5_readEntry : MethodName := ⟨RX5, "readEntry", "(LOneStair$Tower;)V"⟩
abbrev cX5_kindNamed : ByteArray := prog_7_method_6_code
def yX5_kindNamed : MethodName := ⟨RX5, "kindNamed", "()I"⟩
abbrev cX5_readPerson : ByteArray := prog_7_method_7_code
def yX5_readPerson : MethodName := ⟨RX5, "readPerson", "(LOneStair$Tower;I)V"⟩
abbrev cX5_readHat : ByteArray := prog_7_method_8_code
def yX5_readHat : MethodName := ⟨RX5, "readHat", "(LOneStair$Tower;)V"⟩
abbrev cX5_readRoom : ByteArray := prog_7_method_9_code
def yX5_readRoom : MethodName := ⟨RX5, "readRoom", "(LOneStair$Tower;)V"⟩
abbrev cX5_skipBlanks : ByteArray := prog_7_method_10_code
def yX5_skipBlanks : MethodName := ⟨RX5, "skipBlanks", "()V"⟩
abbrev cX5_takeName : ByteArray := prog_7_method_11_code
def yX5_takeName : MethodName := ⟨RX5, "takeName", "()V"⟩
abbrev cX5_nameIs : ByteArray := prog_7_method_12_code
def yX5_nameIs : MethodName := ⟨RX5, "nameIs", "(Ljava/lang/String;)Z"⟩
abbrev cX5_word : ByteArray := prog_7_method_13_code
def yX5_word : MethodName := ⟨RX5, "word", "(Ljava/lang/String;)V"⟩
abbrev cX5_number : ByteArray := prog_7_method_14_code
def yX5_number : MethodName := ⟨RX5, "number", "(II)I"⟩
abbrev cX5_semicolonIsNext : ByteArray := prog_7_method_15_code
def yX5_semicolonIsNext : MethodName := ⟨RX5, "semicolonIsNext", "()Z"⟩
abbrev cX5_semicolon : ByteArray := prog_7_method_16_code
def yX5_semicolon : MethodName := ⟨RX5, "semicolon", "()V"⟩
def RX6 : String := "OneStair$Tower"
def TX6 : u_T := fun k => match k with
  | 0 => ("OneStair$Tower", "count", "I", false)
  | 1 => ("OneStair$Tower", "kind", "[I", true)
  | 2 => ("OneStair$Tower", "a", "[I", true)
  | 3 => ("OneStair$Tower", "floor", "[I", true)
  | 4 => ("OneStair$Tower", "goal", "[I", true)
  | 5 => ("OneStair$Tower", "start", "[I", true)
  | 6 => ("OneStair$Tower", "half", "[I", true)
  | 7 => ("OneStair$Tower", "arrived", "[I", true)
  | 8 => ("OneStair$Tower", "hats", "I", false)
  | 9 => ("OneStair$Tower", "hatFlight", "[I", true)
  | 10 => ("OneStair$Tower", "hatFrom", "[I", true)
  | 11 => ("OneStair$Tower", "hatLength", "[I", true)
  | 12 => ("OneStair$Tower", "room", "I", false)
  | 13 => ("OneStair$Tower", "minute", "I", false)
  | _ => ("OneStair$Tower", "z", "I", false)
def tyX6 : Nat → FieldType := fun k => match k with
  | 0 => .int
  | 1 => .array .int
  | 2 => .array .int
  | 3 => .array .int
  | 4 => .array .int
  | 5 => .array .int
  | 6 => .array .int
  | 7 => .array .int
  | 8 => .int
  | 9 => .array .int
  | 10 => .array .int
  | 11 => .array .int
  | 12 => .int
  | 13 => .int
  | _ => .int
abbrev wsX60 : List Cond := u_ws RX6 TX6 15
theorem nmX6 : ∀ a, a < 15 → ∀ b, b < 15 → a ≠ b → (TX6 a).2.1 ≠ (TX6 b).2.1 := by decide +kernel
theorem tyX6_ok : ∀ k, k < 15 → parseFieldDescriptor (TX6 k).2.2.1 = some (tyX6 k) := by decide +kernel
abbrev cX6_init : ByteArray := prog_8_method_1_code
def yX6_init : MethodName := ⟨RX6, "<init>", "()V"⟩
abbrev cX6_has : ByteArray := prog_8_method_2_code
def yX6_has : MethodName := ⟨RX6, "has", "(I)Z"⟩
abbrev cX6_clear : ByteArray := prog_8_method_3_code
def yX6_clear : MethodName := ⟨RX6, "clear", "()V"⟩
abbrev cX6_become : ByteArray := prog_8_method_4_code
def yX6_become : MethodName := ⟨RX6, "become", "(LOneStair$Tower;)V"⟩
abbrev cX6_addPerson : ByteArray := prog_8_method_5_code
def yX6_addPerson : MethodName := ⟨RX6, "addPerson", "(IIIII)V"⟩
abbrev cX6_send : ByteArray := prog_8_method_6_code
def yX6_send : MethodName := ⟨RX6, "send", "(III)V"⟩
abbrev cX6_addHat : ByteArray := prog_8_method_7_code
def yX6_addHat : MethodName := ⟨RX6, "addHat", "(III)V"⟩
abbrev cX6_removeHat : ByteArray := prog_8_method_8_code
def yX6_removeHat : MethodName := ⟨RX6, "removeHat", "(I)V"⟩
abbrev cX6_closedFlights : ByteArray := prog_8_method_9_code
def yX6_closedFlights : MethodName := ⟨RX6, "closedFlights", "(I)I"⟩
abbrev cX6_arrivedSet : ByteArray := prog_8_method_10_code
def yX6_arrivedSet : MethodName := ⟨RX6, "arrivedSet", "()I"⟩
abbrev cX6_floorSum : ByteArray := prog_8_method_11_code
def yX6_floorSum : MethodName := ⟨RX6, "floorSum", "()I"⟩
abbrev cX6_peopleOn : ByteArray := prog_8_method_12_code
def yX6_peopleOn : MethodName := ⟨RX6, "peopleOn", "(I)I"⟩
abbrev cX6_latestArrival : ByteArray := prog_8_method_13_code
def yX6_latestArrival : MethodName := ⟨RX6, "latestArrival", "()I"⟩
abbrev cX6_allArrivedBy : ByteArray := prog_8_method_14_code
def yX6_allArrivedBy : MethodName := ⟨RX6, "allArrivedBy", "(I)Z"⟩
def RX7 : String := "OneStair"
def TX7 : u_T := fun k => match k with
  | 0 => ("OneStair", "now", "LOneStair$Tower;", true)
  | 1 => ("OneStair", "trial", "LOneStair$Tower;", true)
  | 2 => ("OneStair", "kept", "LOneStair$Tower;", true)
  | 3 => ("OneStair", "anyKept", "Z", false)
  | 4 => ("OneStair", "stair", "LOneStair$Stair;", true)
  | 5 => ("OneStair", "tape", "LOneStair$Text;", true)
  | 6 => ("OneStair", "rows", "[[I", true)
  | 7 => ("OneStair", "rightRow", "[I", true)
  | 8 => ("OneStair", "rowCount", "I", false)
  | 9 => ("OneStair", "sheets", "[LOneStair$Sheet;", true)
  | 10 => ("OneStair", "shelves", "[LOneStair$Shelf;", true)
  | _ => ("OneStair", "actor", "LOneStair$Actor;", true)
def tyX7 : Nat → FieldType := fun k => match k with
  | 0 => .object "OneStair$Tower"
  | 1 => .object "OneStair$Tower"
  | 2 => .object "OneStair$Tower"
  | 3 => .boolean
  | 4 => .object "OneStair$Stair"
  | 5 => .object "OneStair$Text"
  | 6 => .array (.array .int)
  | 7 => .array .int
  | 8 => .int
  | 9 => .array (.object "OneStair$Sheet")
  | 10 => .array (.object "OneStair$Shelf")
  | _ => .object "OneStair$Actor"
abbrev wsX70 : List Cond := u_ws RX7 TX7 12
theorem nmX7 : ∀ a, a < 12 → ∀ b, b < 12 → a ≠ b → (TX7 a).2.1 ≠ (TX7 b).2.1 := by decide +kernel
theorem tyX7_ok : ∀ k, k < 12 → parseFieldDescriptor (TX7 k).2.2.1 = some (tyX7 k) := by decide +kernel
abbrev cX7_init : ByteArray := prog_1_method_1_code
def yX7_init : MethodName := ⟨RX7, "<init>", "()V"⟩
abbrev cX7_feed : ByteArray := prog_1_method_2_code
def yX7_feed : MethodName := ⟨RX7, "feed", "(JI)I"⟩
abbrev cX7_tower : ByteArray := prog_1_method_3_code
def yX7_tower : MethodName := ⟨RX7, "tower", "()I"⟩
abbrev cX7_room : ByteArray := prog_1_method_4_code
def yX7_room : MethodName := ⟨RX7, "room", "(I)I"⟩
abbrev cX7_hat : ByteArray := prog_1_method_5_code
def yX7_hat : MethodName := ⟨RX7, "hat", "(III)I"⟩
abbrev cX7_sweep : ByteArray := prog_1_method_6_code
def yX7_sweep : MethodName := ⟨RX7, "sweep", "(I)I"⟩
abbrev cX7_closed : ByteArray := prog_1_method_7_code
def yX7_closed : MethodName := ⟨RX7, "closed", "(II)I"⟩
abbrev cX7_person : ByteArray := prog_1_method_8_code
def yX7_person : MethodName := ⟨RX7, "person", "(IIII)I"⟩
abbrev cX7_personOf : ByteArray := prog_1_method_9_code
def yX7_personOf : MethodName := ⟨RX7, "personOf", "(II)I"⟩
abbrev cX7_mind : ByteArray := prog_1_method_10_code
def yX7_mind : MethodName := ⟨RX7, "mind", "(III)I"⟩
abbrev cX7_sends : ByteArray := prog_1_method_11_code
def yX7_sends : MethodName := ⟨RX7, "sends", "(III)I"⟩
abbrev cX7_stand : ByteArray := prog_1_method_12_code
def yX7_stand : MethodName := ⟨RX7, "stand", "(II)I"⟩
abbrev cX7_minute : ByteArray := prog_1_method_13_code
def yX7_minute : MethodName := ⟨RX7, "minute", "()I"⟩
abbrev cX7_minutes : ByteArray := prog_1_method_14_code
def yX7_minutes : MethodName := ⟨RX7, "minutes", "(I)I"⟩
abbrev cX7_clock : ByteArray := prog_1_method_15_code
def yX7_clock : MethodName := ⟨RX7, "clock", "(I)I"⟩
abbrev cX7_when : ByteArray := prog_1_method_16_code
def yX7_when : MethodName := ⟨RX7, "when", "(I)I"⟩
abbrev cX7_last : ByteArray := prog_1_method_17_code
def yX7_last : MethodName := ⟨RX7, "last", "()I"⟩
abbrev cX7_waited : ByteArray := prog_1_method_18_code
def yX7_waited : MethodName := ⟨RX7, "waited", "(I)I"⟩
abbrev cX7_crowd : ByteArray := prog_1_method_19_code
def yX7_crowd : MethodName := ⟨RX7, "crowd", "(I)I"⟩
abbrev cX7_there : ByteArray := prog_1_method_20_code
def yX7_there : MethodName := ⟨RX7, "there", "(II)I"⟩
abbrev cX7_drill : ByteArray := prog_1_method_21_code
def yX7_drill : MethodName := ⟨RX7, "drill", "()I"⟩
abbrev cX7_early : ByteArray := prog_1_method_22_code
def yX7_early : MethodName := ⟨RX7, "early", "(II)I"⟩
abbrev cX7_swap : ByteArray := prog_1_method_23_code
def yX7_swap : MethodName := ⟨RX7, "swap", "()I"⟩
abbrev cX7_enough : ByteArray := prog_1_method_24_code
def yX7_enough : MethodName := ⟨RX7, "enough", "(I)I"⟩
abbrev cX7_worst : ByteArray := prog_1_method_25_code
def yX7_worst : MethodName := ⟨RX7, "worst", "(I)I"⟩
abbrev cX7_rent : ByteArray := prog_1_method_26_code
def yX7_rent : MethodName := ⟨RX7, "rent", "(I)I"⟩
abbrev cX7_cheapest : ByteArray := prog_1_method_27_code
def yX7_cheapest : MethodName := ⟨RX7, "cheapest", "()I"⟩
abbrev cX7_seed : ByteArray := prog_1_method_28_code
def yX7_seed : MethodName := ⟨RX7, "seed", "(I)I"⟩
abbrev cX7_lot : ByteArray := prog_1_method_29_code
def yX7_lot : MethodName := ⟨RX7, "lot", "(I)I"⟩
abbrev cX7_prove : ByteArray := prog_1_method_30_code
def yX7_prove : MethodName := ⟨RX7, "prove", "(I)I"⟩
abbrev cX7_row : ByteArray := prog_1_method_31_code
def yX7_row : MethodName := ⟨RX7, "row", "(II)I"⟩
abbrev cX7_alterRow : ByteArray := prog_1_method_32_code
def yX7_alterRow : MethodName := ⟨RX7, "alterRow", "(III)I"⟩
abbrev cX7_judge : ByteArray := prog_1_method_33_code
def yX7_judge : MethodName := ⟨RX7, "judge", "()I"⟩
abbrev cX7_starts : ByteArray := prog_1_method_34_code
def yX7_starts : MethodName := ⟨RX7, "starts", "(IIII)I"⟩
abbrev cX7_sheet : ByteArray := prog_1_method_35_code
def yX7_sheet : MethodName := ⟨RX7, "sheet", "(III)I"⟩
abbrev cX7_put : ByteArray := prog_1_method_36_code
def yX7_put : MethodName := ⟨RX7, "put", "(III)I"⟩
abbrev cX7_item : ByteArray := prog_1_method_37_code
def yX7_item : MethodName := ⟨RX7, "item", "(III)I"⟩
abbrev cX7_shelf : ByteArray := prog_1_method_38_code
def yX7_shelf : MethodName := ⟨RX7, "shelf", "(III)I"⟩
abbrev cX7_taken : ByteArray := prog_1_method_39_code
def yX7_taken : MethodName := ⟨RX7, "taken", "(II)I"⟩
abbrev cX7_act : ByteArray := prog_1_method_40_code
def yX7_act : MethodName := ⟨RX7, "act", "(III)I"⟩
abbrev cX7_trace : ByteArray := prog_1_method_41_code
def yX7_trace : MethodName := ⟨RX7, "trace", "(I)I"⟩
abbrev cX7_many : ByteArray := prog_1_method_42_code
def yX7_many : MethodName := ⟨RX7, "many", "(I)I"⟩
abbrev cX7_keep : ByteArray := prog_1_method_43_code
def yX7_keep : MethodName := ⟨RX7, "keep", "()I"⟩
abbrev cX7_again : ByteArray := prog_1_method_44_code
def yX7_again : MethodName := ⟨RX7, "again", "()I"⟩
abbrev cX7_within : ByteArray := prog_1_method_45_code
def yX7_within : MethodName := ⟨RX7, "within", "(III)Z"⟩
abbrev cX7_isFloor : ByteArray := prog_1_method_46_code
def yX7_isFloor : MethodName := ⟨RX7, "isFloor", "(I)Z"⟩
abbrev cX7_isFlight : ByteArray := prog_1_method_47_code
def yX7_isFlight : MethodName := ⟨RX7, "isFlight", "(I)Z"⟩
abbrev cX7_isKind : ByteArray := prog_1_method_48_code
def yX7_isKind : MethodName := ⟨RX7, "isKind", "(I)Z"⟩
abbrev cX7_isSheet : ByteArray := prog_1_method_49_code
def yX7_isSheet : MethodName := ⟨RX7, "isSheet", "(I)Z"⟩
abbrev cX7_isShelf : ByteArray := prog_1_method_50_code
def yX7_isShelf : MethodName := ⟨RX7, "isShelf", "(I)Z"⟩
abbrev cX7_isSort : ByteArray := prog_1_method_51_code
def yX7_isSort : MethodName := ⟨RX7, "isSort", "(I)Z"⟩
abbrev cX7_isInRows : ByteArray := prog_1_method_52_code
def yX7_isInRows : MethodName := ⟨RX7, "isInRows", "(II)Z"⟩
abbrev cX7_tryToTheEnd : ByteArray := prog_1_method_53_code
def yX7_tryToTheEnd : MethodName := ⟨RX7, "tryToTheEnd", "()V"⟩
abbrev cX7_arrivesBy : ByteArray := prog_1_method_54_code
def yX7_arrivesBy : MethodName := ⟨RX7, "arrivesBy", "(III)Z"⟩
abbrev cX7_latestWithSwap : ByteArray := prog_1_method_55_code
def yX7_latestWithSwap : MethodName := ⟨RX7, "latestWithSwap", "(III)I"⟩
abbrev cX7_rentOfFloor : ByteArray := prog_1_method_56_code
def yX7_rentOfFloor : MethodName := ⟨RX7, "rentOfFloor", "(I)I"⟩
abbrev cX7_passAndTell : ByteArray := prog_1_method_57_code
def yX7_passAndTell : MethodName := ⟨RX7, "passAndTell", "([I)V"⟩
abbrev cX7_isRight : ByteArray := prog_1_method_58_code
def yX7_isRight : MethodName := ⟨RX7, "isRight", "([I)Z"⟩
abbrev cX7_personOn : ByteArray := prog_1_method_59_code
def yX7_personOn : MethodName := ⟨RX7, "personOn", "(I)I"⟩
def RX8 : String := "OneStairModel"
def TX8 : u_T := fun k => match k with
  | 0 => ("OneStairModel", "room", "I", false)
  | 1 => ("OneStairModel", "hats", "I", false)
  | 2 => ("OneStairModel", "flights", "[I", true)
  | 3 => ("OneStairModel", "froms", "[I", true)
  | 4 => ("OneStairModel", "longs", "[I", true)
  | 5 => ("OneStairModel", "people", "I", false)
  | 6 => ("OneStairModel", "kinds", "[I", true)
  | 7 => ("OneStairModel", "own", "[I", true)
  | 8 => ("OneStairModel", "row", "[I", true)
  | 9 => ("OneStairModel", "at", "I", false)
  | 10 => ("OneStairModel", "z", "I", false)
  | 11 => ("OneStairModel", "tape", "[I", true)
  | 12 => ("OneStairModel", "tapeMany", "I", false)
  | 13 => ("OneStairModel", "sort", "I", false)
  | 14 => ("OneStairModel", "begins", "I", false)
  | 15 => ("OneStairModel", "tokenEnds", "I", false)
  | 16 => ("OneStairModel", "word", "J", false)
  | 17 => ("OneStairModel", "value", "I", false)
  | 18 => ("OneStairModel", "good", "Z", false)
  | 19 => ("OneStairModel", "freshPeople", "I", false)
  | 20 => ("OneStairModel", "freshHats", "I", false)
  | 21 => ("OneStairModel", "freshRoom", "I", false)
  | 22 => ("OneStairModel", "freshKinds", "[I", true)
  | 23 => ("OneStairModel", "freshOwn", "[I", true)
  | 24 => ("OneStairModel", "freshFloors", "[I", true)
  | 25 => ("OneStairModel", "freshGoals", "[I", true)
  | 26 => ("OneStairModel", "freshStarts", "[I", true)
  | 27 => ("OneStairModel", "freshFlights", "[I", true)
  | 28 => ("OneStairModel", "freshFroms", "[I", true)
  | 29 => ("OneStairModel", "freshLongs", "[I", true)
  | 30 => ("OneStairModel", "lanes", "[I", true)
  | 31 => ("OneStairModel", "crowds", "[I", true)
  | 32 => ("OneStairModel", "waits", "[I", true)
  | 33 => ("OneStairModel", "rows", "[I", true)
  | 34 => ("OneStairModel", "must", "[I", true)
  | 35 => ("OneStairModel", "rowMany", "I", false)
  | 36 => ("OneStairModel", "mustMany", "I", false)
  | 37 => ("OneStairModel", "sorts", "[I", true)
  | 38 => ("OneStairModel", "sizes", "[I", true)
  | 39 => ("OneStairModel", "sheets", "[J", true)
  | 40 => ("OneStairModel", "held", "[I", true)
  | 41 => ("OneStairModel", "heldNumber", "[I", true)
  | 42 => ("OneStairModel", "heldSize", "[I", true)
  | 43 => ("OneStairModel", "kind", "I", false)
  | 44 => ("OneStairModel", "number", "I", false)
  | 45 => ("OneStairModel", "ownA", "I", false)
  | 46 => ("OneStairModel", "traced", "[I", true)
  | 47 => ("OneStairModel", "bodies", "I", false)
  | 48 => ("OneStairModel", "isParted", "Z", false)
  | 49 => ("OneStairModel", "isKept", "Z", false)
  | 50 => ("OneStairModel", "keptRow", "[I", true)
  | 51 => ("OneStairModel", "movedTo", "I", false)
  | _ => ("OneStairModel", "single", "[I", true)
def tyX8 : Nat → FieldType := fun k => match k with
  | 0 => .int
  | 1 => .int
  | 2 => .array .int
  | 3 => .array .int
  | 4 => .array .int
  | 5 => .int
  | 6 => .array .int
  | 7 => .array .int
  | 8 => .array .int
  | 9 => .int
  | 10 => .int
  | 11 => .array .int
  | 12 => .int
  | 13 => .int
  | 14 => .int
  | 15 => .int
  | 16 => .long
  | 17 => .int
  | 18 => .boolean
  | 19 => .int
  | 20 => .int
  | 21 => .int
  | 22 => .array .int
  | 23 => .array .int
  | 24 => .array .int
  | 25 => .array .int
  | 26 => .array .int
  | 27 => .array .int
  | 28 => .array .int
  | 29 => .array .int
  | 30 => .array .int
  | 31 => .array .int
  | 32 => .array .int
  | 33 => .array .int
  | 34 => .array .int
  | 35 => .int
  | 36 => .int
  | 37 => .array .int
  | 38 => .array .int
  | 39 => .array .long
  | 40 => .array .int
  | 41 => .array .int
  | 42 => .array .int
  | 43 => .int
  | 44 => .int
  | 45 => .int
  | 46 => .array .int
  | 47 => .int
  | 48 => .boolean
  | 49 => .boolean
  | 50 => .array .int
  | 51 => .int
  | _ => .array .int
abbrev wsX80 : List Cond := u_ws RX8 TX8 53
theorem nmX8 : ∀ a, a < 53 → ∀ b, b < 53 → a ≠ b → (TX8 a).2.1 ≠ (TX8 b).2.1 := by decide +kernel
theorem tyX8_ok : ∀ k, k < 53 → parseFieldDescriptor (TX8 k).2.2.1 = some (tyX8 k) := by decide +kernel
abbrev cX8_init : ByteArray := prog_10_method_1_code
def yX8_init : MethodName := ⟨RX8, "<init>", "()V"⟩
abbrev cX8_in : ByteArray := prog_10_method_2_code
def yX8_in : MethodName := ⟨RX8, "in", "(III)Z"⟩
abbrev cX8_isPerson : ByteArray := prog_10_method_3_code
def yX8_isPerson : MethodName := ⟨RX8, "isPerson", "(I)Z"⟩
abbrev cX8_isFloor : ByteArray := prog_10_method_4_code
def yX8_isFloor : MethodName := ⟨RX8, "isFloor", "(I)Z"⟩
abbrev cX8_isFlight : ByteArray := prog_10_method_5_code
def yX8_isFlight : MethodName := ⟨RX8, "isFlight", "(I)Z"⟩
abbrev cX8_isStart : ByteArray := prog_10_method_6_code
def yX8_isStart : MethodName := ⟨RX8, "isStart", "(I)Z"⟩
abbrev cX8_isMinute : ByteArray := prog_10_method_7_code
def yX8_isMinute : MethodName := ⟨RX8, "isMinute", "(I)Z"⟩
abbrev cX8_isKind : ByteArray := prog_10_method_8_code
def yX8_isKind : MethodName := ⟨RX8, "isKind", "(II)Z"⟩
abbrev cX8_its : ByteArray := prog_10_method_9_code
def yX8_its : MethodName := ⟨RX8, "its", "(I)I"⟩
abbrev cX8_becomes : ByteArray := prog_10_method_10_code
def yX8_becomes : MethodName := ⟨RX8, "becomes", "(II)V"⟩
abbrev cX8_feed : ByteArray := prog_10_method_11_code
def yX8_feed : MethodName := ⟨RX8, "feed", "(JI)I"⟩
abbrev cX8_byteAt : ByteArray := prog_10_method_12_code
def yX8_byteAt : MethodName := ⟨RX8, "byteAt", "(I)I"⟩
abbrev cX8_isLetter : ByteArray := prog_10_method_13_code
def yX8_isLetter : MethodName := ⟨RX8, "isLetter", "(I)Z"⟩
abbrev cX8_isDigit : ByteArray := prog_10_method_14_code
def yX8_isDigit : MethodName := ⟨RX8, "isDigit", "(I)Z"⟩
abbrev cX8_advance : ByteArray := prog_10_method_15_code
def yX8_advance : MethodName := ⟨RX8, "advance", "()V"⟩
abbrev cX8_isWord : ByteArray := prog_10_method_16_code
def yX8_isWord : MethodName := ⟨RX8, "isWord", "(J)Z"⟩
abbrev cX8_isMark : ByteArray := prog_10_method_17_code
def yX8_isMark : MethodName := ⟨RX8, "isMark", "(I)Z"⟩
abbrev cX8_kindHere : ByteArray := prog_10_method_18_code
def yX8_kindHere : MethodName := ⟨RX8, "kindHere", "()I"⟩
abbrev cX8_wantNumber : ByteArray := prog_10_method_19_code
def yX8_wantNumber : MethodName := ⟨RX8, "wantNumber", "(II)I"⟩
abbrev cX8_wantWord : ByteArray := prog_10_method_20_code
def yX8_wantWord : MethodName := ⟨RX8, "wantWord", "(J)V"⟩
abbrev cX8_wantEnd : ByteArray := prog_10_method_21_code
def yX8_wantEnd : MethodName := ⟨RX8, "wantEnd", "()V"⟩
abbrev cX8_wantPerson : ByteArray := prog_10_method_22_code
def yX8_wantPerson : MethodName := ⟨RX8, "wantPerson", "(I)V"⟩
abbrev cX8_wantHat : ByteArray := prog_10_method_23_code
def yX8_wantHat : MethodName := ⟨RX8, "wantHat", "()V"⟩
abbrev cX8_wantClause : ByteArray := prog_10_method_24_code
def yX8_wantClause : MethodName := ⟨RX8, "wantClause", "()V"⟩
abbrev cX8_tower : ByteArray := prog_10_method_25_code
def yX8_tower : MethodName := ⟨RX8, "tower", "()I"⟩
abbrev cX8_turnsInto : ByteArray := prog_10_method_26_code
def yX8_turnsInto : MethodName := ⟨RX8, "turnsInto", "()V"⟩
abbrev cX8_room : ByteArray := prog_10_method_27_code
def yX8_room : MethodName := ⟨RX8, "room", "(I)I"⟩
abbrev cX8_addHat : ByteArray := prog_10_method_28_code
def yX8_addHat : MethodName := ⟨RX8, "addHat", "(III)V"⟩
abbrev cX8_hat : ByteArray := prog_10_method_29_code
def yX8_hat : MethodName := ⟨RX8, "hat", "(III)I"⟩
abbrev cX8_sweep : ByteArray := prog_10_method_30_code
def yX8_sweep : MethodName := ⟨RX8, "sweep", "(I)I"⟩
abbrev cX8_isClosed : ByteArray := prog_10_method_31_code
def yX8_isClosed : MethodName := ⟨RX8, "isClosed", "(II)Z"⟩
abbrev cX8_closed : ByteArray := prog_10_method_32_code
def yX8_closed : MethodName := ⟨RX8, "closed", "(II)I"⟩
abbrev cX8_person : ByteArray := prog_10_method_33_code
def yX8_person : MethodName := ⟨RX8, "person", "(IIII)I"⟩
abbrev cX8_takes : ByteArray := prog_10_method_34_code
def yX8_takes : MethodName := ⟨RX8, "takes", "(I)I"⟩
abbrev cX8_rank : ByteArray := prog_10_method_35_code
def yX8_rank : MethodName := ⟨RX8, "rank", "(I)I"⟩
abbrev cX8_orNot : ByteArray := prog_10_method_36_code
def yX8_orNot : MethodName := ⟨RX8, "orNot", "(I)I"⟩
abbrev cX8_personOf : ByteArray := prog_10_method_37_code
def yX8_personOf : MethodName := ⟨RX8, "personOf", "(II)I"⟩
abbrev cX8_mind : ByteArray := prog_10_method_38_code
def yX8_mind : MethodName := ⟨RX8, "mind", "(III)I"⟩
abbrev cX8_setsOut : ByteArray := prog_10_method_39_code
def yX8_setsOut : MethodName := ⟨RX8, "setsOut", "(II)V"⟩
abbrev cX8_sends : ByteArray := prog_10_method_40_code
def yX8_sends : MethodName := ⟨RX8, "sends", "(III)I"⟩
abbrev cX8_stand : ByteArray := prog_10_method_41_code
def yX8_stand : MethodName := ⟨RX8, "stand", "(II)I"⟩
abbrev cX8_minute : ByteArray := prog_10_method_42_code
def yX8_minute : MethodName := ⟨RX8, "minute", "()I"⟩
abbrev cX8_mayGo : ByteArray := prog_10_method_43_code
def yX8_mayGo : MethodName := ⟨RX8, "mayGo", "(I)I"⟩
abbrev cX8_steps : ByteArray := prog_10_method_44_code
def yX8_steps : MethodName := ⟨RX8, "steps", "(II)Z"⟩
abbrev cX8_isThere : ByteArray := prog_10_method_45_code
def yX8_isThere : MethodName := ⟨RX8, "isThere", "(I)Z"⟩
abbrev cX8_goes : ByteArray := prog_10_method_46_code
def yX8_goes : MethodName := ⟨RX8, "goes", "(I)V"⟩
abbrev cX8_minuteGoes : ByteArray := prog_10_method_47_code
def yX8_minuteGoes : MethodName := ⟨RX8, "minuteGoes", "()V"⟩
abbrev cX8_go : ByteArray := prog_10_method_48_code
def yX8_go : MethodName := ⟨RX8, "go", "(I)V"⟩
abbrev cX8_minutes : ByteArray := prog_10_method_49_code
def yX8_minutes : MethodName := ⟨RX8, "minutes", "(I)I"⟩
abbrev cX8_clock : ByteArray := prog_10_method_50_code
def yX8_clock : MethodName := ⟨RX8, "clock", "(I)I"⟩
abbrev cX8_lends : ByteArray := prog_10_method_51_code
def yX8_lends : MethodName := ⟨RX8, "lends", "()V"⟩
abbrev cX8_ends : ByteArray := prog_10_method_52_code
def yX8_ends : MethodName := ⟨RX8, "ends", "()V"⟩
abbrev cX8_tries : ByteArray := prog_10_method_53_code
def yX8_tries : MethodName := ⟨RX8, "tries", "()V"⟩
abbrev cX8_whenThen : ByteArray := prog_10_method_54_code
def yX8_whenThen : MethodName := ⟨RX8, "whenThen", "(I)I"⟩
abbrev cX8_lastThen : ByteArray := prog_10_method_55_code
def yX8_lastThen : MethodName := ⟨RX8, "lastThen", "()I"⟩
abbrev cX8_when : ByteArray := prog_10_method_56_code
def yX8_when : MethodName := ⟨RX8, "when", "(I)I"⟩
abbrev cX8_last : ByteArray := prog_10_method_57_code
def yX8_last : MethodName := ⟨RX8, "last", "()I"⟩
abbrev cX8_waited : ByteArray := prog_10_method_58_code
def yX8_waited : MethodName := ⟨RX8, "waited", "(I)I"⟩
abbrev cX8_crowd : ByteArray := prog_10_method_59_code
def yX8_crowd : MethodName := ⟨RX8, "crowd", "(I)I"⟩
abbrev cX8_there : ByteArray := prog_10_method_60_code
def yX8_there : MethodName := ⟨RX8, "there", "(II)I"⟩
abbrev cX8_drill : ByteArray := prog_10_method_61_code
def yX8_drill : MethodName := ⟨RX8, "drill", "()I"⟩
abbrev cX8_early : ByteArray := prog_10_method_62_code
def yX8_early : MethodName := ⟨RX8, "early", "(II)I"⟩
abbrev cX8_swap : ByteArray := prog_10_method_63_code
def yX8_swap : MethodName := ⟨RX8, "swap", "()I"⟩
abbrev cX8_enough : ByteArray := prog_10_method_64_code
def yX8_enough : MethodName := ⟨RX8, "enough", "(I)I"⟩
abbrev cX8_worst : ByteArray := prog_10_method_65_code
def yX8_worst : MethodName := ⟨RX8, "worst", "(I)I"⟩
abbrev cX8_rentOf : ByteArray := prog_10_method_66_code
def yX8_rentOf : MethodName := ⟨RX8, "rentOf", "(I)I"⟩
abbrev cX8_rent : ByteArray := prog_10_method_67_code
def yX8_rent : MethodName := ⟨RX8, "rent", "(I)I"⟩
abbrev cX8_cheapest : ByteArray := prog_10_method_68_code
def yX8_cheapest : MethodName := ⟨RX8, "cheapest", "()I"⟩
abbrev cX8_seed : ByteArray := prog_10_method_69_code
def yX8_seed : MethodName := ⟨RX8, "seed", "(I)I"⟩
abbrev cX8_lot : ByteArray := prog_10_method_70_code
def yX8_lot : MethodName := ⟨RX8, "lot", "(I)I"⟩
abbrev cX8_findRows : ByteArray := prog_10_method_71_code
def yX8_findRows : MethodName := ⟨RX8, "findRows", "(I)V"⟩
abbrev cX8_prove : ByteArray := prog_10_method_72_code
def yX8_prove : MethodName := ⟨RX8, "prove", "(I)I"⟩
abbrev cX8_isRow : ByteArray := prog_10_method_73_code
def yX8_isRow : MethodName := ⟨RX8, "isRow", "(II)Z"⟩
abbrev cX8_row : ByteArray := prog_10_method_74_code
def yX8_row : MethodName := ⟨RX8, "row", "(II)I"⟩
abbrev cX8_alterRow : ByteArray := prog_10_method_75_code
def yX8_alterRow : MethodName := ⟨RX8, "alterRow", "(III)I"⟩
abbrev cX8_judge : ByteArray := prog_10_method_76_code
def yX8_judge : MethodName := ⟨RX8, "judge", "()I"⟩
abbrev cX8_starts : ByteArray := prog_10_method_77_code
def yX8_starts : MethodName := ⟨RX8, "starts", "(IIII)I"⟩
abbrev cX8_isShelf : ByteArray := prog_10_method_78_code
def yX8_isShelf : MethodName := ⟨RX8, "isShelf", "(I)Z"⟩
abbrev cX8_sheet : ByteArray := prog_10_method_79_code
def yX8_sheet : MethodName := ⟨RX8, "sheet", "(III)I"⟩
abbrev cX8_put : ByteArray := prog_10_method_80_code
def yX8_put : MethodName := ⟨RX8, "put", "(III)I"⟩
abbrev cX8_lacksSort : ByteArray := prog_10_method_81_code
def yX8_lacksSort : MethodName := ⟨RX8, "lacksSort", "(II)I"⟩
abbrev cX8_item : ByteArray := prog_10_method_82_code
def yX8_item : MethodName := ⟨RX8, "item", "(III)I"⟩
abbrev cX8_isHeld : ByteArray := prog_10_method_83_code
def yX8_isHeld : MethodName := ⟨RX8, "isHeld", "(II)Z"⟩
abbrev cX8_shelf : ByteArray := prog_10_method_84_code
def yX8_shelf : MethodName := ⟨RX8, "shelf", "(III)I"⟩
abbrev cX8_kindOn : ByteArray := prog_10_method_85_code
def yX8_kindOn : MethodName := ⟨RX8, "kindOn", "(I)I"⟩
abbrev cX8_isUnder : ByteArray := prog_10_method_86_code
def yX8_isUnder : MethodName := ⟨RX8, "isUnder", "(II)Z"⟩
abbrev cX8_taken : ByteArray := prog_10_method_87_code
def yX8_taken : MethodName := ⟨RX8, "taken", "(II)I"⟩
abbrev cX8_ran : ByteArray := prog_10_method_88_code
def yX8_ran : MethodName := ⟨RX8, "ran", "(I)V"⟩
abbrev cX8_plainClimbs : ByteArray := prog_10_method_89_code
def yX8_plainClimbs : MethodName := ⟨RX8, "plainClimbs", "(I)I"⟩
abbrev cX8_runnerClimbs : ByteArray := prog_10_method_90_code
def yX8_runnerClimbs : MethodName := ⟨RX8, "runnerClimbs", "(I)I"⟩
abbrev cX8_climbsIt : ByteArray := prog_10_method_91_code
def yX8_climbsIt : MethodName := ⟨RX8, "climbsIt", "(I)I"⟩
abbrev cX8_plainYields : ByteArray := prog_10_method_92_code
def yX8_plainYields : MethodName := ⟨RX8, "plainYields", "(I)I"⟩
abbrev cX8_yieldsIt : ByteArray := prog_10_method_93_code
def yX8_yieldsIt : MethodName := ⟨RX8, "yieldsIt", "(I)I"⟩
abbrev cX8_plainShares : ByteArray := prog_10_method_94_code
def yX8_plainShares : MethodName := ⟨RX8, "plainShares", "(I)I"⟩
abbrev cX8_sharesIt : ByteArray := prog_10_method_95_code
def yX8_sharesIt : MethodName := ⟨RX8, "sharesIt", "(I)I"⟩
abbrev cX8_plainTells : ByteArray := prog_10_method_96_code
def yX8_plainTells : MethodName := ⟨RX8, "plainTells", "(I)I"⟩
abbrev cX8_tellsIt : ByteArray := prog_10_method_97_code
def yX8_tellsIt : MethodName := ⟨RX8, "tellsIt", "(I)I"⟩
abbrev cX8_act : ByteArray := prog_10_method_98_code
def yX8_act : MethodName := ⟨RX8, "act", "(III)I"⟩
abbrev cX8_trace : ByteArray := prog_10_method_99_code
def yX8_trace : MethodName := ⟨RX8, "trace", "(I)I"⟩
abbrev cX8_many : ByteArray := prog_10_method_100_code
def yX8_many : MethodName := ⟨RX8, "many", "(I)I"⟩
abbrev cX8_moveRow : ByteArray := prog_10_method_101_code
def yX8_moveRow : MethodName := ⟨RX8, "moveRow", "([IIZ)V"⟩
abbrev cX8_moveAll : ByteArray := prog_10_method_102_code
def yX8_moveAll : MethodName := ⟨RX8, "moveAll", "(Z)V"⟩
abbrev cX8_keep : ByteArray := prog_10_method_103_code
def yX8_keep : MethodName := ⟨RX8, "keep", "()I"⟩
abbrev cX8_again : ByteArray := prog_10_method_104_code
def yX8_again : MethodName := ⟨RX8, "again", "()I"⟩
def RJ6 : String := "java/lang/Integer"
def TJ6 : u_T := fun k => match k with
  | _ => ("", "", "", false)
def tyJ6 : Nat → FieldType := fun k => match k with
  | _ => .int
abbrev wsJ60 : List Cond := u_ws RJ6 TJ6 0
theorem nmJ6 : ∀ a, a < 0 → ∀ b, b < 0 → a ≠ b → (TJ6 a).2.1 ≠ (TJ6 b).2.1 := by decide +kernel
theorem tyJ6_ok : ∀ k, k < 0 → parseFieldDescriptor (TJ6 k).2.2.1 = some (tyJ6 k) := by decide +kernel
abbrev cJ6_bitCount_0f7a4 : ByteArray := prog_11_method_49_code
def yJ6_bitCount_0f7a4 : MethodName := ⟨RJ6, "bitCount", "(I)I"⟩
def RJ9 : String := "java/lang/Math"
def TJ9 : u_T := fun k => match k with
  | _ => ("", "", "", false)
def tyJ9 : Nat → FieldType := fun k => match k with
  | _ => .int
abbrev wsJ90 : List Cond := u_ws RJ9 TJ9 0
theorem nmJ9 : ∀ a, a < 0 → ∀ b, b < 0 → a ≠ b → (TJ9 a).2.1 ≠ (TJ9 b).2.1 := by decide +kernel
theorem tyJ9_ok : ∀ k, k < 0 → parseFieldDescriptor (TJ9 k).2.2.1 = some (tyJ9 k) := by decide +kernel
abbrev cJ9_max_7cf53 : ByteArray := prog_12_method_65_code
def yJ9_max_7cf53 : MethodName := ⟨RJ9, "max", "(II)I"⟩
abbrev cJ9_min_7cf53 : ByteArray := prog_12_method_69_code
def yJ9_min_7cf53 : MethodName := ⟨RJ9, "min", "(II)I"⟩
def RJ0 : String := "java/lang/String"
def TJ0 : u_T := fun k => match k with
  | _ => ("", "", "", false)
def tyJ0 : Nat → FieldType := fun k => match k with
  | _ => .int
abbrev wsJ00 : List Cond := u_ws RJ0 TJ0 0
theorem nmJ0 : ∀ a, a < 0 → ∀ b, b < 0 → a ≠ b → (TJ0 a).2.1 ≠ (TJ0 b).2.1 := by decide +kernel
theorem tyJ0_ok : ∀ k, k < 0 → parseFieldDescriptor (TJ0 k).2.2.1 = some (tyJ0 k) := by decide +kernel
abbrev cJ0_length_8abf5 : ByteArray := prog_13_method_54_code
def yJ0_length_8abf5 : MethodName := ⟨RJ0, "length", "()I"⟩
abbrev cJ0_charAt_5068e : ByteArray := prog_13_method_56_code
def yJ0_charAt_5068e : MethodName := ⟨RJ0, "charAt", "(I)C"⟩
abbrev cJ0_coder_7d493 : ByteArray := prog_13_method_152_code
def yJ0_coder_7d493 : MethodName := ⟨RJ0, "coder", "()B"⟩
abbrev cJ0_isLatin1_aae02 : ByteArray := prog_13_method_154_code
def yJ0_isLatin1_aae02 : MethodName := ⟨RJ0, "isLatin1", "()Z"⟩
abbrev cJ0_checkIndex_df160 : ByteArray := prog_13_method_155_code
def yJ0_checkIndex_df160 : MethodName := ⟨RJ0, "checkIndex", "(II)V"⟩
def RJ1 : String := "java/lang/StringLatin1"
def TJ1 : u_T := fun k => match k with
  | _ => ("", "", "", false)
def tyJ1 : Nat → FieldType := fun k => match k with
  | _ => .int
abbrev wsJ10 : List Cond := u_ws RJ1 TJ1 0
theorem nmJ1 : ∀ a, a < 0 → ∀ b, b < 0 → a ≠ b → (TJ1 a).2.1 ≠ (TJ1 b).2.1 := by decide +kernel
theorem tyJ1_ok : ∀ k, k < 0 → parseFieldDescriptor (TJ1 k).2.2.1 = some (tyJ1 k) := by decide +kernel
abbrev cJ1_charAt_3b067 : ByteArray := prog_14_method_2_code
def yJ1_charAt_3b067 : MethodName := ⟨RJ1, "charAt", "([BI)C"⟩
def RJ2 : String := "java/lang/StringUTF16"
def TJ2 : u_T := fun k => match k with
  | _ => ("", "", "", false)
def tyJ2 : Nat → FieldType := fun k => match k with
  | _ => .int
abbrev wsJ20 : List Cond := u_ws RJ2 TJ2 0
theorem nmJ2 : ∀ a, a < 0 → ∀ b, b < 0 → a ≠ b → (TJ2 a).2.1 ≠ (TJ2 b).2.1 := by decide +kernel
theorem tyJ2_ok : ∀ k, k < 0 → parseFieldDescriptor (TJ2 k).2.2.1 = some (tyJ2 k) := by decide +kernel
abbrev cJ2_getChar_3b067 : ByteArray := prog_15_method_5_code
def yJ2_getChar_3b067 : MethodName := ⟨RJ2, "getChar", "([BI)C"⟩
abbrev cJ2_length_9d52b : ByteArray := prog_15_method_6_code
def yJ2_length_9d52b : MethodName := ⟨RJ2, "length", "([B)I"⟩
abbrev cJ2_charAt_3b067 : ByteArray := prog_15_method_83_code
def yJ2_charAt_3b067 : MethodName := ⟨RJ2, "charAt", "([BI)C"⟩
abbrev cJ2_checkIndex_2214a : ByteArray := prog_15_method_91_code
def yJ2_checkIndex_2214a : MethodName := ⟨RJ2, "checkIndex", "(I[B)V"⟩
def RJ10 : String := "java/lang/System"
def TJ10 : u_T := fun k => match k with
  | _ => ("", "", "", false)
def tyJ10 : Nat → FieldType := fun k => match k with
  | _ => .int
abbrev wsJ100 : List Cond := u_ws RJ10 TJ10 0
theorem nmJ10 : ∀ a, a < 0 → ∀ b, b < 0 → a ≠ b → (TJ10 a).2.1 ≠ (TJ10 b).2.1 := by decide +kernel
theorem tyJ10_ok : ∀ k, k < 0 → parseFieldDescriptor (TJ10 k).2.2.1 = some (tyJ10 k) := by decide +kernel
def RJ3 : String := "jdk/internal/util/Preconditions"
def TJ3 : u_T := fun k => match k with
  | _ => ("", "", "", false)
def tyJ3 : Nat → FieldType := fun k => match k with
  | _ => .int
abbrev wsJ30 : List Cond := u_ws RJ3 TJ3 0
theorem nmJ3 : ∀ a, a < 0 → ∀ b, b < 0 → a ≠ b → (TJ3 a).2.1 ≠ (TJ3 b).2.1 := by decide +kernel
theorem tyJ3_ok : ∀ k, k < 0 → parseFieldDescriptor (TJ3 k).2.2.1 = some (tyJ3 k) := by decide +kernel
abbrev cJ3_checkIndex_8e157 : ByteArray := prog_17_method_11_code
def yJ3_checkIndex_8e157 : MethodName := ⟨RJ3, "checkIndex", "(IILjava/util/function/BiFunction;)I"⟩
def RL : String := "OneStairLaw"
abbrev cL_law : ByteArray := code
def yL_law : MethodName := ⟨RL, "law", "([I)Z"⟩
abbrev vwCl : List vw_C := [(RX0, TX0, 6), (RX2, TX2, 3), (RX3, TX3, 4), (RX4, TX4, 9), (RX5, TX5, 5), (RX6, TX6, 15), (RX7, TX7, 12), (RX8, TX8, 53)]
end
section
/-! written by program (wip/whole/gen02.py): shapes of the cells, methods in the short form, link tables -/
abbrev AE : Type := Nat × Nat × Int × List Int
abbrev Mrec : Type := Nat × MethodName × ByteArray × Nat × Option FieldType × List AE
def shl : List (Nat × Nat × List Nat) := [(0, 6, [4, 15, 26, 2, 37, 45, 47, 68, 0, 69, 78, 83]), (0, 5, [0, 5, 6, 7, 8, 9, 10, 11, 0, 12, 13, 14, 0, 0, 0]), (1, 8, []), (1, 8, []), (1, 8, []), (1, 8, []), (1, 8, []), (1, 8, []), (1, 8, []), (1, 4, []), (1, 4, []), (1, 4, []), (0, 5, [0, 16, 17, 18, 19, 20, 21, 22, 0, 23, 24, 25, 0, 0, 0]), (1, 8, []), (1, 8, []), (1, 8, []), (1, 8, []), (1, 8, []), (1, 8, []), (1, 8, []), (1, 4, []), (1, 4, []), (1, 4, []), (0, 5, [0, 27, 28, 29, 30, 31, 32, 33, 0, 34, 35, 36, 0, 0, 0]), (1, 8, []), (1, 8, []), (1, 8, []), (1, 8, []), (1, 8, []), (1, 8, []), (1, 8, []), (1, 4, []), (1, 4, []), (1, 4, []), (0, 3, [38, 39, 40, 41, 42, 43, 44, 0, 0]), (1, 8, []), (1, 8, []), (1, 8, []), (1, 8, []), (1, 9, []), (1, 9, []), (1, 9, []), (0, 4, [46, 0, 0, 0, 0]), (2, 240, []), (6, 20, [45, 1]), (1, 3, []), (1, 3, []), (1, 3, []), (1, 3, []), (1, 3, []), (1, 3, []), (1, 3, []), (1, 3, []), (1, 3, []), (1, 3, []), (1, 3, []), (1, 3, []), (1, 3, []), (1, 3, []), (1, 3, []), (1, 3, []), (1, 3, []), (1, 3, []), (1, 3, []), (1, 3, []), (1, 3, []), (4, 4, [67, 2]), (0, 1, [0, 0, 71]), (1, 40, []), (0, 1, [0, 0, 73]), (1, 40, []), (0, 1, [0, 0, 75]), (1, 40, []), (0, 1, [0, 0, 77]), (1, 40, []), (5, 4, [76, 1]), (0, 2, [0, 0, 0, 0]), (0, 2, [0, 0, 0, 0]), (0, 2, [0, 0, 0, 0]), (0, 2, [0, 0, 0, 0]), (0, 0, [0, 0, 0, 84, 0, 2]), (1, 30, []), (0, 7, [0, 0, 86, 87, 88, 0, 89, 90, 91, 0, 0, 92, 0, 0, 0, 0, 1, 0, 2, 0, 0, 0, 93, 94, 95, 96, 97, 98, 99, 100, 101, 102, 103, 104, 105, 0, 0, 106, 107, 108, 109, 110, 111, 0, 0, 0, 112, 0, 2, 2, 113, 0, 114]), (1, 5, []), (1, 5, []), (1, 5, []), (1, 8, []), (1, 8, []), (1, 82, []), (1, 240, []), (1, 8, []), (1, 8, []), (1, 8, []), (1, 8, []), (1, 8, []), (1, 4, []), (1, 4, []), (1, 4, []), (1, 18, []), (1, 9, []), (1, 8, []), (1, 60, []), (1, 60, []), (1, 4, []), (1, 4, []), (3, 160, []), (1, 4, []), (1, 4, []), (1, 4, []), (1, 30, []), (1, 80, []), (1, 4, [])]
def nO : Nat := 112
def clsN : Nat → String := fun k => match k with
  | 0 => RX0
  | 1 => RX1
  | 2 => RX2
  | 3 => RX3
  | 4 => RX4
  | 5 => RX5
  | 6 => RX6
  | 7 => RX7
  | 8 => RX8
  | 9 => RJ6
  | 10 => RJ9
  | 11 => RJ0
  | _ => RJ1
def strI : List Nat := [40, 96, 108, 49, 62, 64, 66, 68, 70, 72, 84, 90]
def strT : List String := ["hat", "at", "for", "room", "clerk", "limper", "runner", "chief", "porter", "boy", "from", "to"]
def strB : List (List Int32) := [[104, 97, 116], [97, 116], [102, 111, 114], [114, 111, 111, 109], [99, 108, 101, 114, 107], [108, 105, 109, 112, 101, 114], [114, 117, 110, 110, 101, 114], [99, 104, 105, 101, 102], [112, 111, 114, 116, 101, 114], [98, 111, 121], [102, 114, 111, 109], [116, 111]]
def strN : List Nat := [3, 2, 3, 4, 5, 6, 6, 5, 6, 3, 4, 2]
def k0_0 : List AE := (0, 5, 0, []) :: (1, 0, 0, []) :: (2, 40, 0, [4]) :: (5, 5, 0, []) :: (6, 0, 0, []) :: (7, 40, 0, [5]) :: (10, 54, 0, []) :: []
def k1_0 : List AE := (0, 5, 0, []) :: (1, 3, 1, []) :: (2, 40, 0, [0]) :: (5, 5, 0, []) :: (6, 3, 2, []) :: (7, 40, 0, [1]) :: (10, 5, 0, []) :: (11, 3, 3, []) :: (12, 40, 0, [2]) :: (15, 54, 0, []) :: []
def k2_83 : List AE := (83, 52, 0, []) :: []
def k2_82 : List AE := (82, 3, 3, []) :: k2_83
def k2_70 : List AE := (70, 5, 0, []) :: (71, 39, 0, [5]) :: (74, 60, 82, []) :: (77, 0, (-15), []) :: (79, 36, 83, []) :: k2_82
def k2_68 : List AE := (68, 0, 0, []) :: (69, 52, 0, []) :: k2_70
def k2_59 : List AE := (59, 5, 0, []) :: (60, 3, 2, []) :: (61, 49, 7, [1, 0]) :: (64, 6, 3, []) :: (65, 36, 70, []) :: k2_68
def k2_50 : List AE := (50, 5, 0, []) :: (51, 3, 2, []) :: (52, 49, 6, [1, 0]) :: (55, 6, 3, []) :: (56, 36, 70, []) :: k2_59
def k2_41 : List AE := (41, 5, 0, []) :: (42, 3, 2, []) :: (43, 49, 5, [1, 0]) :: (46, 6, 3, []) :: (47, 36, 70, []) :: k2_50
def k2_32 : List AE := (32, 5, 0, []) :: (33, 3, 2, []) :: (34, 49, 4, [1, 0]) :: (37, 6, 3, []) :: (38, 36, 70, []) :: k2_41
def k2_0 : List AE := (0, 3, 1, []) :: (1, 37, 68, [0, 32, 41, 50, 59]) :: k2_32
def k3_36 : List AE := (36, 54, 0, []) :: []
def k3_0 : List AE := (0, 5, 0, []) :: (1, 39, 0, [5]) :: (4, 61, 36, []) :: (7, 5, 0, []) :: (8, 39, 0, [4]) :: (11, 0, 30, []) :: (13, 73, 36, []) :: (16, 5, 0, []) :: (17, 39, 0, [3]) :: (20, 5, 0, []) :: (21, 39, 0, [4]) :: (24, 3, 1, []) :: (25, 42, 0, []) :: (26, 5, 0, []) :: (27, 32, 0, []) :: (28, 39, 0, [4]) :: (31, 0, 1, []) :: (32, 10, 0, []) :: (33, 40, 0, [4]) :: k3_36
def k4_106 : List AE := (106, 5, 0, []) :: (107, 0, 10, []) :: (109, 49, 3, [1, 0]) :: (112, 3, 1, []) :: (113, 5, 0, []) :: (114, 39, 0, [1]) :: (117, 10, 0, []) :: (118, 52, 0, []) :: []
def k4_82 : List AE := (82, 5, 0, []) :: (83, 0, 51, []) :: (85, 49, 3, [1, 0]) :: (88, 5, 0, []) :: (89, 0, 10, []) :: (91, 49, 3, [1, 0]) :: (94, 3, 1, []) :: (95, 5, 0, []) :: (96, 39, 0, [1]) :: (99, 10, 0, []) :: (100, 5, 0, []) :: (101, 39, 0, [1]) :: (104, 11, 0, []) :: (105, 52, 0, []) :: k4_106
def k4_53 : List AE := (53, 5, 0, []) :: (54, 0, 40, []) :: (56, 49, 3, [1, 0]) :: (59, 5, 0, []) :: (60, 0, 30, []) :: (62, 49, 3, [1, 0]) :: (65, 5, 0, []) :: (66, 0, 10, []) :: (68, 49, 3, [1, 0]) :: (71, 0, 0, []) :: (72, 3, 1, []) :: (73, 5, 0, []) :: (74, 39, 0, [1]) :: (77, 10, 0, []) :: (78, 0, 3, []) :: (79, 12, 0, []) :: (80, 11, 0, []) :: (81, 52, 0, []) :: k4_82
def k4_32 : List AE := (32, 5, 0, []) :: (33, 0, 30, []) :: (35, 49, 3, [1, 0]) :: (38, 5, 0, []) :: (39, 0, 10, []) :: (41, 49, 3, [1, 0]) :: (44, 3, 1, []) :: (45, 5, 0, []) :: (46, 39, 0, [1]) :: (49, 10, 0, []) :: (50, 0, 3, []) :: (51, 12, 0, []) :: (52, 52, 0, []) :: k4_53
def k4_0 : List AE := (0, 5, 0, []) :: (1, 39, 0, [0]) :: (4, 37, 106, [2, 32, 53, 82]) :: k4_32
def k5_90 : List AE := (90, 5, 0, []) :: (91, 0, 11, []) :: (93, 49, 3, [1, 0]) :: (96, 5, 0, []) :: (97, 3, 1, []) :: (98, 49, 4, [1, 0]) :: (101, 0, 2, []) :: (102, 12, 0, []) :: (103, 52, 0, []) :: []
def k5_61 : List AE := (61, 5, 0, []) :: (62, 0, 41, []) :: (64, 49, 3, [1, 0]) :: (67, 5, 0, []) :: (68, 0, 11, []) :: (70, 49, 3, [1, 0]) :: (73, 5, 0, []) :: (74, 3, 1, []) :: (75, 49, 4, [1, 0]) :: (78, 0, 2, []) :: (79, 12, 0, []) :: (80, 5, 0, []) :: (81, 5, 0, []) :: (82, 39, 0, [1]) :: (85, 49, 4, [1, 0]) :: (88, 10, 0, []) :: (89, 52, 0, []) :: k5_90
def k5_36 : List AE := (36, 5, 0, []) :: (37, 0, 20, []) :: (39, 49, 3, [1, 0]) :: (42, 5, 0, []) :: (43, 0, 11, []) :: (45, 49, 3, [1, 0]) :: (48, 5, 0, []) :: (49, 3, 1, []) :: (50, 49, 4, [1, 0]) :: (53, 0, 2, []) :: (54, 12, 0, []) :: (55, 5, 0, []) :: (56, 39, 0, [2]) :: (59, 11, 0, []) :: (60, 52, 0, []) :: k5_61
def k5_0 : List AE := (0, 5, 0, []) :: (1, 39, 0, [0]) :: (4, 37, 90, [1, 36, 90, 61, 36]) :: k5_36
def k6_81 : List AE := (81, 5, 0, []) :: (82, 0, 12, []) :: (84, 49, 3, [1, 0]) :: (87, 5, 0, []) :: (88, 3, 1, []) :: (89, 49, 8, [1, 0]) :: (92, 52, 0, []) :: []
def k6_54 : List AE := (54, 5, 0, []) :: (55, 0, 61, []) :: (57, 49, 3, [1, 0]) :: (60, 5, 0, []) :: (61, 0, 12, []) :: (63, 49, 3, [1, 0]) :: (66, 5, 0, []) :: (67, 3, 1, []) :: (68, 49, 8, [1, 0]) :: (71, 5, 0, []) :: (72, 5, 0, []) :: (73, 39, 0, [2]) :: (76, 49, 4, [1, 0]) :: (79, 10, 0, []) :: (80, 52, 0, []) :: k6_81
def k6_32 : List AE := (32, 5, 0, []) :: (33, 0, 50, []) :: (35, 49, 3, [1, 0]) :: (38, 5, 0, []) :: (39, 0, 12, []) :: (41, 49, 3, [1, 0]) :: (44, 5, 0, []) :: (45, 3, 1, []) :: (46, 0, 2, []) :: (47, 10, 0, []) :: (48, 49, 8, [1, 0]) :: (51, 0, 1, []) :: (52, 17, 0, []) :: (53, 52, 0, []) :: k6_54
def k6_0 : List AE := (0, 5, 0, []) :: (1, 39, 0, [0]) :: (4, 38, 81, [4, 32, 5, 54]) :: k6_32
def k7_93 : List AE := (93, 5, 0, []) :: (94, 0, 13, []) :: (96, 49, 3, [1, 0]) :: (99, 5, 0, []) :: (100, 3, 1, []) :: (101, 49, 5, [1, 0]) :: (104, 5, 0, []) :: (105, 39, 0, [2]) :: (108, 17, 0, []) :: (109, 52, 0, []) :: []
def k7_68 : List AE := (68, 5, 0, []) :: (69, 0, 60, []) :: (71, 49, 3, [1, 0]) :: (74, 5, 0, []) :: (75, 0, 13, []) :: (77, 49, 3, [1, 0]) :: (80, 5, 0, []) :: (81, 3, 1, []) :: (82, 49, 5, [1, 0]) :: (85, 5, 0, []) :: (86, 39, 0, [2]) :: (89, 17, 0, []) :: (90, 0, 2, []) :: (91, 12, 0, []) :: (92, 52, 0, []) :: k7_93
def k7_36 : List AE := (36, 5, 0, []) :: (37, 0, 31, []) :: (39, 49, 3, [1, 0]) :: (42, 5, 0, []) :: (43, 0, 13, []) :: (45, 49, 3, [1, 0]) :: (48, 5, 0, []) :: (49, 3, 1, []) :: (50, 49, 5, [1, 0]) :: (53, 5, 0, []) :: (54, 39, 0, [2]) :: (57, 17, 0, []) :: (58, 5, 0, []) :: (59, 5, 0, []) :: (60, 39, 0, [1]) :: (63, 49, 6, [1, 0]) :: (66, 10, 0, []) :: (67, 52, 0, []) :: k7_68
def k7_0 : List AE := (0, 5, 0, []) :: (1, 39, 0, [0]) :: (4, 37, 93, [2, 36, 36, 93, 68]) :: k7_36
def k8_18 : List AE := (18, 3, 1, []) :: (19, 5, 0, []) :: (20, 39, 0, [2]) :: (23, 5, 0, []) :: (24, 39, 0, [1]) :: (27, 11, 0, []) :: (28, 13, 0, []) :: (29, 52, 0, []) :: []
def k8_0 : List AE := (0, 5, 0, []) :: (1, 39, 0, [2]) :: (4, 5, 0, []) :: (5, 39, 0, [1]) :: (8, 71, 18, []) :: (11, 5, 0, []) :: (12, 0, 1, []) :: (13, 40, 0, [5]) :: (16, 0, 0, []) :: (17, 52, 0, []) :: k8_18
def k9_41 : List AE := (41, 0, 1, []) :: (42, 52, 0, []) :: []
def k9_39 : List AE := (39, 0, 0, []) :: (40, 52, 0, []) :: k9_41
def k9_38 : List AE := (38, 52, 0, []) :: k9_39
def k9_37 : List AE := (37, 0, 1, []) :: k9_38
def k9_28 : List AE := (28, 3, 1, []) :: (29, 0, 5, []) :: (30, 72, 37, []) :: (33, 0, 2, []) :: (34, 36, 38, []) :: k9_37
def k9_0 : List AE := (0, 3, 0, []) :: (1, 38, 41, [4, 28, 5, 39]) :: k9_28
def k10_50 : List AE := (50, 0, 5, []) :: (51, 52, 0, []) :: []
def k10_46 : List AE := (46, 0, 5, []) :: (47, 3, 1, []) :: (48, 10, 0, []) :: (49, 52, 0, []) :: k10_50
def k10_44 : List AE := (44, 0, 0, []) :: (45, 52, 0, []) :: k10_46
def k10_42 : List AE := (42, 0, 4, []) :: (43, 52, 0, []) :: k10_44
def k10_39 : List AE := (39, 0, 6, []) :: (41, 52, 0, []) :: k10_42
def k10_36 : List AE := (36, 0, 7, []) :: (38, 52, 0, []) :: k10_39
def k10_0 : List AE := (0, 3, 0, []) :: (1, 37, 50, [1, 36, 42, 44, 39, 46]) :: k10_36
def k11_57 : List AE := (57, 0, 1, []) :: (58, 52, 0, []) :: []
def k11_56 : List AE := (56, 52, 0, []) :: k11_57
def k11_55 : List AE := (55, 0, 1, []) :: k11_56
def k11_43 : List AE := (43, 3, 2, []) :: (44, 3, 1, []) :: (45, 10, 0, []) :: (46, 0, 4, []) :: (47, 14, 0, []) :: (48, 61, 55, []) :: (51, 0, 0, []) :: (52, 36, 56, []) :: k11_55
def k11_42 : List AE := (42, 52, 0, []) :: k11_43
def k11_41 : List AE := (41, 0, 1, []) :: k11_42
def k11_32 : List AE := (32, 3, 1, []) :: (33, 3, 2, []) :: (34, 73, 41, []) :: (37, 0, 2, []) :: (38, 36, 42, []) :: k11_41
def k11_0 : List AE := (0, 3, 0, []) :: (1, 37, 57, [2, 32, 32, 57, 43]) :: k11_32
def k12_15 : List AE := (15, 53, 0, []) :: []
def k12_14 : List AE := (14, 0, 0, []) :: k12_15
def k12_10 : List AE := (10, 0, 1, []) :: (11, 36, 15, []) :: k12_14
def k12_0 : List AE := (0, 3, 0, []) :: (1, 0, 1, []) :: (2, 70, 10, []) :: (5, 3, 0, []) :: (6, 0, 4, []) :: (7, 71, 14, []) :: k12_10
def k13_32 : List AE := (32, 0, 0, []) :: (33, 53, 0, []) :: []
def k13_20 : List AE := (20, 2, 2000, []) :: (23, 3, 2, []) :: (24, 41, 0, []) :: (25, 6, 2, []) :: (26, 9, 3, [1]) :: (29, 36, 4, []) :: k13_32
def k13_4 : List AE := (4, 3, 3, []) :: (5, 0, 3, []) :: (6, 73, 32, []) :: (9, 3, 2, []) :: (10, 62, 32, []) :: (13, 3, 2, []) :: (14, 3, 1, []) :: (15, 71, 20, []) :: (18, 0, 1, []) :: (19, 53, 0, []) :: k13_20
def k13_0 : List AE := (0, 3, 0, []) :: (1, 6, 2, []) :: (2, 0, 0, []) :: (3, 6, 3, []) :: k13_4
def k14_31 : List AE := (31, 54, 0, []) :: []
def k14_12 : List AE := (12, 3, 3, []) :: (13, 0, 40, []) :: (15, 73, 31, []) :: (18, 5, 0, []) :: (19, 39, 1, [2]) :: (22, 3, 3, []) :: (23, 0, 0, []) :: (24, 42, 0, []) :: (25, 9, 3, [1]) :: (28, 36, 12, []) :: k14_31
def k14_0 : List AE := (0, 5, 0, []) :: (1, 3, 1, []) :: (2, 40, 1, [0]) :: (5, 5, 0, []) :: (6, 3, 2, []) :: (7, 40, 1, [1]) :: (10, 0, 0, []) :: (11, 6, 3, []) :: k14_12
def k15_24 : List AE := (24, 52, 0, []) :: []
def k15_23 : List AE := (23, 3, 1, []) :: k15_24
def k15_10 : List AE := (10, 5, 0, []) :: (11, 39, 1, [0]) :: (14, 0, 1, []) :: (15, 71, 23, []) :: (18, 3, 1, []) :: (19, 31, 0, []) :: (20, 36, 24, []) :: k15_23
def k15_0 : List AE := (0, 5, 0, []) :: (1, 39, 1, [0]) :: (4, 61, 10, []) :: (7, 3, 1, []) :: (8, 30, 0, []) :: (9, 52, 0, []) :: k15_10
def k16_0 : List AE := (0, 5, 0, []) :: (1, 0, 2, []) :: (2, 40, 2, [0]) :: (5, 54, 0, []) :: []
def k17_0 : List AE := (0, 5, 0, []) :: (1, 0, 0, []) :: (2, 40, 2, [0]) :: (5, 5, 0, []) :: (6, 3, 1, []) :: (7, 40, 2, [1]) :: (10, 54, 0, []) :: []
def k18_14 : List AE := (14, 40, 2, [0]) :: (17, 5, 0, []) :: (18, 5, 1, []) :: (19, 39, 1, [0]) :: (22, 40, 2, [2]) :: (25, 5, 0, []) :: (26, 5, 1, []) :: (27, 39, 1, [1]) :: (30, 40, 2, [3]) :: (33, 54, 0, []) :: []
def k18_13 : List AE := (13, 0, 1, []) :: k18_14
def k18_0 : List AE := (0, 5, 0, []) :: (1, 5, 1, []) :: (2, 39, 1, [0]) :: (5, 0, (-1), []) :: (6, 71, 13, []) :: (9, 0, 2, []) :: (10, 36, 14, []) :: k18_13
def k19_117 : List AE := (117, 54, 0, []) :: []
def k19_98 : List AE := (98, 3, 2, []) :: (99, 0, 9, []) :: (101, 73, 117, []) :: (104, 5, 0, []) :: (105, 39, 3, [6]) :: (108, 3, 2, []) :: (109, 0, 0, []) :: (110, 42, 0, []) :: (111, 9, 2, [1]) :: (114, 36, 98, []) :: k19_117
def k19_96 : List AE := (96, 0, 0, []) :: (97, 6, 2, []) :: k19_98
def k19_90 : List AE := (90, 9, 2, [1]) :: (93, 36, 7, []) :: k19_96
def k19_7 : List AE := (7, 3, 2, []) :: (8, 5, 1, []) :: (9, 39, 5, [0]) :: (12, 73, 96, []) :: (15, 5, 0, []) :: (16, 39, 3, [1]) :: (19, 3, 2, []) :: (20, 5, 1, []) :: (21, 39, 5, [1]) :: (24, 3, 2, []) :: (25, 41, 0, []) :: (26, 5, 1, []) :: (27, 39, 5, [2]) :: (30, 3, 2, []) :: (31, 41, 0, []) :: (32, 48, 10, [2]) :: (35, 42, 0, []) :: (36, 5, 0, []) :: (37, 39, 3, [2]) :: (40, 3, 2, []) :: (41, 5, 1, []) :: (42, 39, 5, [1]) :: (45, 3, 2, []) :: (46, 41, 0, []) :: (47, 5, 1, []) :: (48, 39, 5, [2]) :: (51, 3, 2, []) :: (52, 41, 0, []) :: (53, 48, 9, [2]) :: (56, 42, 0, []) :: (57, 5, 0, []) :: (58, 39, 3, [3]) :: (61, 3, 2, []) :: (62, 0, 0, []) :: (63, 42, 0, []) :: (64, 5, 0, []) :: (65, 3, 2, []) :: (66, 49, 20, [1, 3]) :: (69, 5, 1, []) :: (70, 39, 5, [7]) :: (73, 3, 2, []) :: (74, 41, 0, []) :: (75, 0, (-9), []) :: (77, 71, 90, []) :: (80, 5, 0, []) :: (81, 32, 0, []) :: (82, 39, 3, [8]) :: (85, 0, 1, []) :: (86, 10, 0, []) :: (87, 40, 3, [8]) :: k19_90
def k19_0 : List AE := (0, 5, 0, []) :: (1, 0, 0, []) :: (2, 40, 3, [8]) :: (5, 0, 0, []) :: (6, 6, 2, []) :: k19_7
def k20_48 : List AE := (48, 5, 0, []) :: (49, 39, 3, [0]) :: (52, 3, 2, []) :: (53, 3, 1, []) :: (54, 42, 0, []) :: (55, 54, 0, []) :: []
def k20_2 : List AE := (2, 3, 2, []) :: (3, 65, 48, []) :: (6, 5, 0, []) :: (7, 39, 3, [1]) :: (10, 5, 0, []) :: (11, 39, 3, [0]) :: (14, 3, 2, []) :: (15, 0, 1, []) :: (16, 11, 0, []) :: (17, 41, 0, []) :: (18, 41, 0, []) :: (19, 5, 0, []) :: (20, 39, 3, [1]) :: (23, 3, 1, []) :: (24, 41, 0, []) :: (25, 75, 48, []) :: (28, 5, 0, []) :: (29, 39, 3, [0]) :: (32, 3, 2, []) :: (33, 5, 0, []) :: (34, 39, 3, [0]) :: (37, 3, 2, []) :: (38, 0, 1, []) :: (39, 11, 0, []) :: (40, 41, 0, []) :: (41, 42, 0, []) :: (42, 9, 2, [(-1)]) :: (45, 36, 2, []) :: k20_48
def k20_0 : List AE := (0, 3, 1, []) :: (1, 6, 2, []) :: k20_2
def k21_33 : List AE := (33, 54, 0, []) :: []
def k21_10 : List AE := (10, 3, 3, []) :: (11, 3, 2, []) :: (12, 73, 33, []) :: (15, 5, 0, []) :: (16, 39, 3, [8]) :: (19, 65, 33, []) :: (22, 5, 0, []) :: (23, 5, 1, []) :: (24, 49, 22, [1, 3]) :: (27, 9, 3, [1]) :: (30, 36, 10, []) :: k21_33
def k21_0 : List AE := (0, 5, 0, []) :: (1, 5, 1, []) :: (2, 49, 19, [1, 3]) :: (5, 5, 1, []) :: (6, 39, 5, [13]) :: (9, 6, 3, []) :: k21_10
def k22_93 : List AE := (93, 5, 1, []) :: (94, 32, 0, []) :: (95, 39, 5, [13]) :: (98, 0, 1, []) :: (99, 10, 0, []) :: (100, 40, 5, [13]) :: (103, 54, 0, []) :: []
def k22_87 : List AE := (87, 9, 2, [1]) :: (90, 36, 42, []) :: k22_93
def k22_42 : List AE := (42, 3, 2, []) :: (43, 5, 1, []) :: (44, 39, 5, [0]) :: (47, 73, 93, []) :: (50, 5, 0, []) :: (51, 39, 3, [0]) :: (54, 3, 2, []) :: (55, 41, 0, []) :: (56, 6, 3, []) :: (57, 5, 1, []) :: (58, 39, 5, [7]) :: (61, 3, 3, []) :: (62, 41, 0, []) :: (63, 0, (-9), []) :: (65, 71, 87, []) :: (68, 5, 1, []) :: (69, 39, 5, [5]) :: (72, 3, 3, []) :: (73, 41, 0, []) :: (74, 5, 1, []) :: (75, 39, 5, [13]) :: (78, 74, 87, []) :: (81, 5, 0, []) :: (82, 5, 1, []) :: (83, 3, 3, []) :: (84, 49, 23, [2, 3]) :: k22_87
def k22_40 : List AE := (40, 0, 0, []) :: (41, 6, 2, []) :: k22_42
def k22_14 : List AE := (14, 3, 2, []) :: (15, 0, 9, []) :: (17, 73, 40, []) :: (20, 5, 0, []) :: (21, 39, 3, [4]) :: (24, 3, 2, []) :: (25, 0, 0, []) :: (26, 42, 0, []) :: (27, 5, 0, []) :: (28, 39, 3, [5]) :: (31, 3, 2, []) :: (32, 0, 0, []) :: (33, 42, 0, []) :: (34, 9, 2, [1]) :: (37, 36, 14, []) :: k22_40
def k22_0 : List AE := (0, 5, 0, []) :: (1, 5, 1, []) :: (2, 5, 1, []) :: (3, 39, 5, [13]) :: (6, 49, 48, [1, 5]) :: (9, 40, 3, [7]) :: (12, 0, 0, []) :: (13, 6, 2, []) :: k22_14
def k23_130 : List AE := (130, 54, 0, []) :: []
def k23_95 : List AE := (95, 5, 1, []) :: (96, 39, 5, [3]) :: (99, 3, 2, []) :: (100, 41, 0, []) :: (101, 5, 1, []) :: (102, 39, 5, [4]) :: (105, 3, 2, []) :: (106, 41, 0, []) :: (107, 71, 130, []) :: (110, 5, 1, []) :: (111, 39, 5, [7]) :: (114, 3, 2, []) :: (115, 5, 1, []) :: (116, 39, 5, [13]) :: (119, 42, 0, []) :: (120, 5, 0, []) :: (121, 32, 0, []) :: (122, 39, 3, [8]) :: (125, 0, 1, []) :: (126, 11, 0, []) :: (127, 40, 3, [8]) :: k23_130
def k23_80 : List AE := (80, 3, 4, []) :: (82, 61, 95, []) :: (85, 5, 0, []) :: (86, 39, 3, [3]) :: (89, 3, 2, []) :: (90, 33, 0, []) :: (91, 41, 0, []) :: (92, 0, 1, []) :: (93, 10, 0, []) :: (94, 42, 0, []) :: k23_95
def k23_38 : List AE := (38, 3, 4, []) :: (40, 3, 3, []) :: (41, 73, 80, []) :: (44, 5, 1, []) :: (45, 39, 5, [3]) :: (48, 3, 2, []) :: (49, 41, 0, []) :: (50, 5, 1, []) :: (51, 39, 5, [4]) :: (54, 3, 2, []) :: (55, 41, 0, []) :: (56, 70, 80, []) :: (59, 5, 0, []) :: (60, 5, 1, []) :: (61, 3, 2, []) :: (62, 49, 24, [2, 3]) :: (65, 60, 80, []) :: (68, 5, 0, []) :: (69, 5, 1, []) :: (70, 3, 2, []) :: (71, 49, 25, [2, 3]) :: (74, 9, 4, [1]) :: (77, 36, 38, []) :: k23_80
def k23_0 : List AE := (0, 5, 1, []) :: (1, 39, 5, [3]) :: (4, 3, 2, []) :: (5, 41, 0, []) :: (6, 5, 1, []) :: (7, 39, 5, [4]) :: (10, 3, 2, []) :: (11, 41, 0, []) :: (12, 70, 95, []) :: (15, 5, 1, []) :: (16, 39, 5, [1]) :: (19, 3, 2, []) :: (20, 41, 0, []) :: (21, 5, 1, []) :: (22, 39, 5, [2]) :: (25, 3, 2, []) :: (26, 41, 0, []) :: (27, 5, 1, []) :: (28, 39, 5, [13]) :: (31, 48, 11, [3]) :: (34, 6, 3, []) :: (35, 0, 0, []) :: (36, 6, 4, []) :: k23_38
def k24_107 : List AE := (107, 5, 5, []) :: (109, 3, 4, []) :: (111, 33, 0, []) :: (112, 41, 0, []) :: (113, 5, 0, []) :: (114, 39, 3, [2]) :: (117, 3, 2, []) :: (118, 41, 0, []) :: (119, 10, 0, []) :: (120, 42, 0, []) :: (121, 5, 0, []) :: (122, 39, 3, [6]) :: (125, 3, 4, []) :: (127, 5, 0, []) :: (128, 39, 3, [6]) :: (131, 3, 4, []) :: (133, 41, 0, []) :: (134, 5, 5, []) :: (136, 3, 4, []) :: (138, 41, 0, []) :: (139, 55, 0, []) :: (142, 42, 0, []) :: (143, 0, 1, []) :: (144, 53, 0, []) :: []
def k24_105 : List AE := (105, 0, 0, []) :: (106, 53, 0, []) :: k24_107
def k24_59 : List AE := (59, 8, 5, []) :: (61, 3, 4, []) :: (63, 62, 105, []) :: (66, 3, 4, []) :: (68, 0, 9, []) :: (70, 73, 105, []) :: (73, 5, 0, []) :: (74, 39, 3, [7]) :: (77, 3, 4, []) :: (79, 19, 0, []) :: (80, 0, 1, []) :: (81, 15, 0, []) :: (82, 0, 1, []) :: (83, 70, 105, []) :: (86, 5, 5, []) :: (88, 3, 4, []) :: (90, 41, 0, []) :: (91, 5, 0, []) :: (92, 39, 3, [2]) :: (95, 3, 2, []) :: (96, 41, 0, []) :: (97, 10, 0, []) :: (98, 5, 1, []) :: (99, 39, 5, [12]) :: (102, 75, 107, []) :: k24_105
def k24_55 : List AE := (55, 5, 0, []) :: (56, 39, 3, [5]) :: k24_59
def k24_42 : List AE := (42, 6, 4, []) :: (44, 3, 3, []) :: (45, 60, 55, []) :: (48, 5, 0, []) :: (49, 39, 3, [4]) :: (52, 36, 59, []) :: k24_55
def k24_34 : List AE := (34, 5, 1, []) :: (35, 39, 5, [3]) :: (38, 3, 2, []) :: (39, 41, 0, []) :: (40, 0, 1, []) :: (41, 11, 0, []) :: k24_42
def k24_20 : List AE := (20, 6, 3, []) :: (21, 3, 3, []) :: (22, 60, 34, []) :: (25, 5, 1, []) :: (26, 39, 5, [3]) :: (29, 3, 2, []) :: (30, 41, 0, []) :: (31, 36, 42, []) :: k24_34
def k24_19 : List AE := (19, 0, 0, []) :: k24_20
def k24_0 : List AE := (0, 5, 1, []) :: (1, 39, 5, [4]) :: (4, 3, 2, []) :: (5, 41, 0, []) :: (6, 5, 1, []) :: (7, 39, 5, [3]) :: (10, 3, 2, []) :: (11, 41, 0, []) :: (12, 75, 19, []) :: (15, 0, 1, []) :: (16, 36, 20, []) :: k24_19
def k25_63 : List AE := (63, 10, 0, []) :: (64, 42, 0, []) :: (65, 54, 0, []) :: []
def k25_62 : List AE := (62, 0, (-1), []) :: k25_63
def k25_29 : List AE := (29, 5, 1, []) :: (30, 39, 5, [6]) :: (33, 3, 2, []) :: (34, 0, 0, []) :: (35, 42, 0, []) :: (36, 5, 1, []) :: (37, 39, 5, [3]) :: (40, 3, 2, []) :: (41, 33, 0, []) :: (42, 41, 0, []) :: (43, 5, 1, []) :: (44, 39, 5, [4]) :: (47, 3, 2, []) :: (48, 41, 0, []) :: (49, 5, 1, []) :: (50, 39, 5, [3]) :: (53, 3, 2, []) :: (54, 41, 0, []) :: (55, 75, 62, []) :: (58, 0, 1, []) :: (59, 36, 63, []) :: k25_62
def k25_0 : List AE := (0, 5, 1, []) :: (1, 39, 5, [1]) :: (4, 3, 2, []) :: (5, 41, 0, []) :: (6, 48, 12, [1]) :: (9, 60, 29, []) :: (12, 5, 1, []) :: (13, 39, 5, [6]) :: (16, 3, 2, []) :: (17, 41, 0, []) :: (18, 61, 29, []) :: (21, 5, 1, []) :: (22, 39, 5, [6]) :: (25, 3, 2, []) :: (26, 0, 1, []) :: (27, 42, 0, []) :: (28, 54, 0, []) :: k25_29
def k26_30 : List AE := (30, 54, 0, []) :: []
def k26_0 : List AE := (0, 5, 0, []) :: (1, 39, 4, [1]) :: (4, 0, 240, []) :: (7, 73, 30, []) :: (10, 5, 0, []) :: (11, 39, 4, [0]) :: (14, 5, 0, []) :: (15, 39, 4, [1]) :: (18, 3, 1, []) :: (19, 44, 0, []) :: (20, 5, 0, []) :: (21, 32, 0, []) :: (22, 39, 4, [1]) :: (25, 0, 1, []) :: (26, 10, 0, []) :: (27, 40, 4, [1]) :: k26_30
def k27_0 : List AE := (0, 5, 0, []) :: (1, 0, 0, []) :: (2, 40, 4, [1]) :: (5, 54, 0, []) :: []
def k28_60 : List AE := (60, 5, 0, []) :: (61, 39, 4, [4]) :: (64, 52, 0, []) :: []
def k28_49 : List AE := (49, 5, 0, []) :: (50, 5, 1, []) :: (51, 49, 29, [1, 4]) :: (54, 9, 2, [1]) :: (57, 36, 16, []) :: k28_60
def k28_16 : List AE := (16, 3, 2, []) :: (17, 0, 240, []) :: (20, 73, 60, []) :: (23, 5, 0, []) :: (24, 39, 4, [4]) :: (27, 0, (-1), []) :: (28, 71, 60, []) :: (31, 5, 0, []) :: (32, 49, 34, [0, 4]) :: (35, 5, 0, []) :: (36, 39, 4, [2]) :: (39, 5, 0, []) :: (40, 39, 4, [1]) :: (43, 72, 49, []) :: (46, 36, 60, []) :: k28_49
def k28_0 : List AE := (0, 5, 1, []) :: (1, 49, 42, [0, 5]) :: (4, 5, 0, []) :: (5, 0, 0, []) :: (6, 40, 4, [2]) :: (9, 5, 0, []) :: (10, 0, (-1), []) :: (11, 40, 4, [4]) :: (14, 0, 0, []) :: (15, 6, 2, []) :: k28_16
def k29_47 : List AE := (47, 54, 0, []) :: []
def k29_38 : List AE := (38, 5, 0, []) :: (39, 5, 1, []) :: (40, 5, 0, []) :: (41, 49, 30, [0, 4]) :: (44, 49, 31, [2, 4]) :: k29_47
def k29_21 : List AE := (21, 5, 0, []) :: (22, 2, 1003, []) :: (24, 49, 36, [1, 4]) :: (27, 60, 38, []) :: (30, 5, 0, []) :: (31, 5, 1, []) :: (32, 49, 33, [1, 4]) :: (35, 36, 47, []) :: k29_38
def k29_0 : List AE := (0, 5, 0, []) :: (1, 49, 35, [0, 4]) :: (4, 5, 0, []) :: (5, 2, 1000, []) :: (7, 49, 36, [1, 4]) :: (10, 60, 21, []) :: (13, 5, 0, []) :: (14, 5, 1, []) :: (15, 49, 32, [1, 4]) :: (18, 36, 47, []) :: k29_21
def k30_70 : List AE := (70, 52, 0, []) :: []
def k30_68 : List AE := (68, 0, (-3), []) :: k30_70
def k30_55 : List AE := (55, 5, 0, []) :: (56, 2, 1009, []) :: (58, 49, 36, [1, 4]) :: (61, 60, 68, []) :: (64, 0, 5, []) :: (65, 36, 70, []) :: k30_68
def k30_44 : List AE := (44, 5, 0, []) :: (45, 2, 1008, []) :: (47, 49, 36, [1, 4]) :: (50, 60, 55, []) :: (53, 0, 4, []) :: (54, 52, 0, []) :: k30_55
def k30_33 : List AE := (33, 5, 0, []) :: (34, 2, 1007, []) :: (36, 49, 36, [1, 4]) :: (39, 60, 44, []) :: (42, 0, 3, []) :: (43, 52, 0, []) :: k30_44
def k30_22 : List AE := (22, 5, 0, []) :: (23, 2, 1006, []) :: (25, 49, 36, [1, 4]) :: (28, 60, 33, []) :: (31, 0, 2, []) :: (32, 52, 0, []) :: k30_33
def k30_11 : List AE := (11, 5, 0, []) :: (12, 2, 1005, []) :: (14, 49, 36, [1, 4]) :: (17, 60, 22, []) :: (20, 0, 1, []) :: (21, 52, 0, []) :: k30_22
def k30_0 : List AE := (0, 5, 0, []) :: (1, 2, 1004, []) :: (3, 49, 36, [1, 4]) :: (6, 60, 11, []) :: (9, 0, 0, []) :: (10, 52, 0, []) :: k30_11
def k31_111 : List AE := (111, 54, 0, []) :: []
def k31_87 : List AE := (87, 5, 0, []) :: (88, 49, 40, [0, 4]) :: (91, 5, 0, []) :: (92, 39, 4, [4]) :: (95, 0, (-1), []) :: (96, 71, 111, []) :: (99, 5, 1, []) :: (100, 3, 2, []) :: (101, 3, 3, []) :: (102, 3, 4, []) :: (104, 3, 5, []) :: (106, 3, 6, []) :: (108, 49, 44, [5, 5]) :: k31_111
def k31_24 : List AE := (24, 5, 0, []) :: (25, 0, 0, []) :: (26, 0, 9, []) :: (28, 49, 38, [2, 4]) :: (31, 6, 3, []) :: (32, 5, 0, []) :: (33, 2, 1010, []) :: (35, 49, 37, [1, 4]) :: (38, 5, 0, []) :: (39, 0, 0, []) :: (40, 0, 9, []) :: (42, 49, 38, [2, 4]) :: (45, 6, 4, []) :: (47, 5, 0, []) :: (48, 2, 1011, []) :: (50, 49, 37, [1, 4]) :: (53, 5, 0, []) :: (54, 0, 0, []) :: (55, 0, 9, []) :: (57, 49, 38, [2, 4]) :: (60, 6, 5, []) :: (62, 0, 0, []) :: (63, 6, 6, []) :: (65, 5, 0, []) :: (66, 49, 39, [0, 4]) :: (69, 61, 87, []) :: (72, 5, 0, []) :: (73, 2, 1001, []) :: (75, 49, 37, [1, 4]) :: (78, 5, 0, []) :: (79, 0, 0, []) :: (80, 0, 99, []) :: (82, 49, 38, [2, 4]) :: (85, 6, 6, []) :: k31_87
def k31_15 : List AE := (15, 5, 0, []) :: (16, 5, 0, []) :: (17, 39, 4, [3]) :: (20, 40, 4, [4]) :: (23, 54, 0, []) :: k31_24
def k31_0 : List AE := (0, 3, 2, []) :: (1, 0, (-3), []) :: (3, 70, 15, []) :: (6, 5, 1, []) :: (7, 39, 5, [0]) :: (10, 0, 8, []) :: (12, 72, 24, []) :: k31_15
def k32_74 : List AE := (74, 54, 0, []) :: []
def k32_17 : List AE := (17, 5, 0, []) :: (18, 0, 0, []) :: (19, 0, 8, []) :: (21, 49, 38, [2, 4]) :: (24, 6, 2, []) :: (25, 5, 0, []) :: (26, 2, 1001, []) :: (28, 49, 37, [1, 4]) :: (31, 5, 0, []) :: (32, 0, 0, []) :: (33, 0, 99, []) :: (35, 49, 38, [2, 4]) :: (38, 6, 3, []) :: (39, 5, 0, []) :: (40, 2, 1002, []) :: (42, 49, 37, [1, 4]) :: (45, 5, 0, []) :: (46, 0, 1, []) :: (47, 0, 30, []) :: (49, 49, 38, [2, 4]) :: (52, 6, 4, []) :: (54, 5, 0, []) :: (55, 49, 40, [0, 4]) :: (58, 5, 0, []) :: (59, 39, 4, [4]) :: (62, 0, (-1), []) :: (63, 71, 74, []) :: (66, 5, 1, []) :: (67, 3, 2, []) :: (68, 3, 3, []) :: (69, 3, 4, []) :: (71, 49, 46, [3, 5]) :: k32_74
def k32_0 : List AE := (0, 5, 1, []) :: (1, 39, 5, [8]) :: (4, 0, 4, []) :: (5, 72, 17, []) :: (8, 5, 0, []) :: (9, 5, 0, []) :: (10, 39, 4, [3]) :: (13, 40, 4, [4]) :: (16, 54, 0, []) :: k32_17
def k33_25 : List AE := (25, 54, 0, []) :: []
def k33_0 : List AE := (0, 5, 0, []) :: (1, 0, 1, []) :: (2, 0, 9, []) :: (4, 49, 38, [2, 4]) :: (7, 6, 2, []) :: (8, 5, 0, []) :: (9, 49, 40, [0, 4]) :: (12, 5, 0, []) :: (13, 39, 4, [4]) :: (16, 0, (-1), []) :: (17, 71, 25, []) :: (20, 5, 1, []) :: (21, 3, 2, []) :: (22, 40, 5, [12]) :: k33_25
def k34_38 : List AE := (38, 54, 0, []) :: []
def k34_0 : List AE := (0, 5, 0, []) :: (1, 39, 4, [2]) :: (4, 5, 0, []) :: (5, 39, 4, [1]) :: (8, 73, 38, []) :: (11, 5, 0, []) :: (12, 39, 4, [0]) :: (15, 5, 0, []) :: (16, 39, 4, [2]) :: (19, 43, 0, []) :: (20, 0, 32, []) :: (22, 71, 38, []) :: (25, 5, 0, []) :: (26, 32, 0, []) :: (27, 39, 4, [2]) :: (30, 0, 1, []) :: (31, 10, 0, []) :: (32, 40, 4, [2]) :: (35, 36, 0, []) :: k34_38
def k35_64 : List AE := (64, 54, 0, []) :: []
def k35_12 : List AE := (12, 5, 0, []) :: (13, 39, 4, [2]) :: (16, 5, 0, []) :: (17, 39, 4, [1]) :: (20, 73, 64, []) :: (23, 5, 0, []) :: (24, 39, 4, [0]) :: (27, 5, 0, []) :: (28, 39, 4, [2]) :: (31, 43, 0, []) :: (32, 0, 97, []) :: (34, 72, 64, []) :: (37, 5, 0, []) :: (38, 39, 4, [0]) :: (41, 5, 0, []) :: (42, 39, 4, [2]) :: (45, 43, 0, []) :: (46, 0, 122, []) :: (48, 74, 64, []) :: (51, 5, 0, []) :: (52, 32, 0, []) :: (53, 39, 4, [2]) :: (56, 0, 1, []) :: (57, 10, 0, []) :: (58, 40, 4, [2]) :: (61, 36, 12, []) :: k35_64
def k35_0 : List AE := (0, 5, 0, []) :: (1, 49, 34, [0, 4]) :: (4, 5, 0, []) :: (5, 5, 0, []) :: (6, 39, 4, [2]) :: (9, 40, 4, [3]) :: k35_12
def k36_55 : List AE := (55, 0, 1, []) :: (56, 53, 0, []) :: []
def k36_49 : List AE := (49, 9, 2, [1]) :: (52, 36, 20, []) :: k36_55
def k36_20 : List AE := (20, 3, 2, []) :: (21, 5, 1, []) :: (22, 50, 216, [0]) :: (25, 73, 55, []) :: (28, 5, 0, []) :: (29, 39, 4, [0]) :: (32, 5, 0, []) :: (33, 39, 4, [3]) :: (36, 3, 2, []) :: (37, 10, 0, []) :: (38, 43, 0, []) :: (39, 5, 1, []) :: (40, 3, 2, []) :: (41, 50, 217, [1]) :: (44, 70, 49, []) :: (47, 0, 0, []) :: (48, 53, 0, []) :: k36_49
def k36_18 : List AE := (18, 0, 0, []) :: (19, 6, 2, []) :: k36_20
def k36_0 : List AE := (0, 5, 0, []) :: (1, 39, 4, [2]) :: (4, 5, 0, []) :: (5, 39, 4, [3]) :: (8, 11, 0, []) :: (9, 5, 1, []) :: (10, 50, 216, [0]) :: (13, 70, 18, []) :: (16, 0, 0, []) :: (17, 53, 0, []) :: k36_18
def k37_29 : List AE := (29, 54, 0, []) :: []
def k37_9 : List AE := (9, 5, 0, []) :: (10, 49, 35, [0, 4]) :: (13, 5, 0, []) :: (14, 5, 1, []) :: (15, 49, 36, [1, 4]) :: (18, 61, 29, []) :: (21, 5, 0, []) :: (22, 5, 0, []) :: (23, 39, 4, [3]) :: (26, 40, 4, [4]) :: k37_29
def k37_0 : List AE := (0, 5, 0, []) :: (1, 39, 4, [4]) :: (4, 0, (-1), []) :: (5, 70, 9, []) :: (8, 54, 0, []) :: k37_9
def k38_134 : List AE := (134, 3, 3, []) :: (135, 52, 0, []) :: []
def k38_126 : List AE := (126, 5, 0, []) :: (127, 5, 0, []) :: (128, 39, 4, [3]) :: (131, 40, 4, [4]) :: k38_134
def k38_94 : List AE := (94, 5, 0, []) :: (95, 39, 4, [2]) :: (98, 5, 0, []) :: (99, 39, 4, [3]) :: (102, 11, 0, []) :: (103, 6, 4, []) :: (105, 3, 4, []) :: (107, 0, 1, []) :: (108, 72, 126, []) :: (111, 3, 4, []) :: (113, 0, 2, []) :: (114, 74, 126, []) :: (117, 3, 3, []) :: (118, 3, 1, []) :: (119, 3, 2, []) :: (120, 48, 97, [3]) :: (123, 61, 134, []) :: k38_126
def k38_24 : List AE := (24, 5, 0, []) :: (25, 39, 4, [2]) :: (28, 5, 0, []) :: (29, 39, 4, [1]) :: (32, 73, 94, []) :: (35, 5, 0, []) :: (36, 39, 4, [0]) :: (39, 5, 0, []) :: (40, 39, 4, [2]) :: (43, 43, 0, []) :: (44, 0, 48, []) :: (46, 72, 94, []) :: (49, 5, 0, []) :: (50, 39, 4, [0]) :: (53, 5, 0, []) :: (54, 39, 4, [2]) :: (57, 43, 0, []) :: (58, 0, 57, []) :: (60, 74, 94, []) :: (63, 3, 3, []) :: (64, 0, 10, []) :: (66, 12, 0, []) :: (67, 5, 0, []) :: (68, 39, 4, [0]) :: (71, 5, 0, []) :: (72, 39, 4, [2]) :: (75, 43, 0, []) :: (76, 10, 0, []) :: (77, 0, 48, []) :: (79, 11, 0, []) :: (80, 6, 3, []) :: (81, 5, 0, []) :: (82, 32, 0, []) :: (83, 39, 4, [2]) :: (86, 0, 1, []) :: (87, 10, 0, []) :: (88, 40, 4, [2]) :: (91, 36, 24, []) :: k38_94
def k38_10 : List AE := (10, 5, 0, []) :: (11, 49, 34, [0, 4]) :: (14, 5, 0, []) :: (15, 5, 0, []) :: (16, 39, 4, [2]) :: (19, 40, 4, [3]) :: (22, 0, 0, []) :: (23, 6, 3, []) :: k38_24
def k38_0 : List AE := (0, 5, 0, []) :: (1, 39, 4, [4]) :: (4, 0, (-1), []) :: (5, 70, 10, []) :: (8, 0, 0, []) :: (9, 52, 0, []) :: k38_10
def k39_34 : List AE := (34, 53, 0, []) :: []
def k39_33 : List AE := (33, 0, 0, []) :: k39_34
def k39_0 : List AE := (0, 5, 0, []) :: (1, 49, 34, [0, 4]) :: (4, 5, 0, []) :: (5, 39, 4, [2]) :: (8, 5, 0, []) :: (9, 39, 4, [1]) :: (12, 73, 33, []) :: (15, 5, 0, []) :: (16, 39, 4, [0]) :: (19, 5, 0, []) :: (20, 39, 4, [2]) :: (23, 43, 0, []) :: (24, 0, 59, []) :: (26, 71, 33, []) :: (29, 0, 1, []) :: (30, 36, 34, []) :: k39_33
def k40_37 : List AE := (37, 54, 0, []) :: []
def k40_29 : List AE := (29, 5, 0, []) :: (30, 5, 0, []) :: (31, 39, 4, [2]) :: (34, 40, 4, [4]) :: k40_37
def k40_9 : List AE := (9, 5, 0, []) :: (10, 49, 39, [0, 4]) :: (13, 60, 29, []) :: (16, 5, 0, []) :: (17, 32, 0, []) :: (18, 39, 4, [2]) :: (21, 0, 1, []) :: (22, 10, 0, []) :: (23, 40, 4, [2]) :: (26, 36, 37, []) :: k40_29
def k40_0 : List AE := (0, 5, 0, []) :: (1, 39, 4, [4]) :: (4, 0, (-1), []) :: (5, 70, 9, []) :: (8, 54, 0, []) :: k40_9
def k41_0 : List AE := (0, 3, 1, []) :: (1, 0, 0, []) :: (2, 5, 0, []) :: (3, 39, 5, [0]) :: (6, 0, 1, []) :: (7, 11, 0, []) :: (8, 48, 97, [3]) :: (11, 53, 0, []) :: []
def k42_0 : List AE := (0, 5, 0, []) :: (1, 0, 0, []) :: (2, 40, 5, [0]) :: (5, 5, 0, []) :: (6, 0, 0, []) :: (7, 40, 5, [8]) :: (10, 5, 0, []) :: (11, 0, 2, []) :: (12, 40, 5, [12]) :: (15, 5, 0, []) :: (16, 0, 0, []) :: (17, 40, 5, [13]) :: (20, 54, 0, []) :: []
def k43_0 : List AE := (0, 5, 0, []) :: (1, 5, 1, []) :: (2, 39, 5, [0]) :: (5, 40, 5, [0]) :: (8, 5, 1, []) :: (9, 39, 5, [1]) :: (12, 0, 0, []) :: (13, 5, 0, []) :: (14, 39, 5, [1]) :: (17, 0, 0, []) :: (18, 5, 0, []) :: (19, 39, 5, [0]) :: (22, 51, 0, []) :: (25, 5, 1, []) :: (26, 39, 5, [2]) :: (29, 0, 0, []) :: (30, 5, 0, []) :: (31, 39, 5, [2]) :: (34, 0, 0, []) :: (35, 5, 0, []) :: (36, 39, 5, [0]) :: (39, 51, 0, []) :: (42, 5, 1, []) :: (43, 39, 5, [3]) :: (46, 0, 0, []) :: (47, 5, 0, []) :: (48, 39, 5, [3]) :: (51, 0, 0, []) :: (52, 5, 0, []) :: (53, 39, 5, [0]) :: (56, 51, 0, []) :: (59, 5, 1, []) :: (60, 39, 5, [4]) :: (63, 0, 0, []) :: (64, 5, 0, []) :: (65, 39, 5, [4]) :: (68, 0, 0, []) :: (69, 5, 0, []) :: (70, 39, 5, [0]) :: (73, 51, 0, []) :: (76, 5, 1, []) :: (77, 39, 5, [5]) :: (80, 0, 0, []) :: (81, 5, 0, []) :: (82, 39, 5, [5]) :: (85, 0, 0, []) :: (86, 5, 0, []) :: (87, 39, 5, [0]) :: (90, 51, 0, []) :: (93, 5, 1, []) :: (94, 39, 5, [6]) :: (97, 0, 0, []) :: (98, 5, 0, []) :: (99, 39, 5, [6]) :: (102, 0, 0, []) :: (103, 5, 0, []) :: (104, 39, 5, [0]) :: (107, 51, 0, []) :: (110, 5, 1, []) :: (111, 39, 5, [7]) :: (114, 0, 0, []) :: (115, 5, 0, []) :: (116, 39, 5, [7]) :: (119, 0, 0, []) :: (120, 5, 0, []) :: (121, 39, 5, [0]) :: (124, 51, 0, []) :: (127, 5, 0, []) :: (128, 5, 1, []) :: (129, 39, 5, [8]) :: (132, 40, 5, [8]) :: (135, 5, 1, []) :: (136, 39, 5, [9]) :: (139, 0, 0, []) :: (140, 5, 0, []) :: (141, 39, 5, [9]) :: (144, 0, 0, []) :: (145, 5, 0, []) :: (146, 39, 5, [8]) :: (149, 51, 0, []) :: (152, 5, 1, []) :: (153, 39, 5, [10]) :: (156, 0, 0, []) :: (157, 5, 0, []) :: (158, 39, 5, [10]) :: (161, 0, 0, []) :: (162, 5, 0, []) :: (163, 39, 5, [8]) :: (166, 51, 0, []) :: (169, 5, 1, []) :: (170, 39, 5, [11]) :: (173, 0, 0, []) :: (174, 5, 0, []) :: (175, 39, 5, [11]) :: (178, 0, 0, []) :: (179, 5, 0, []) :: (180, 39, 5, [8]) :: (183, 51, 0, []) :: (186, 5, 0, []) :: (187, 5, 1, []) :: (188, 39, 5, [12]) :: (191, 40, 5, [12]) :: (194, 5, 0, []) :: (195, 5, 1, []) :: (196, 39, 5, [13]) :: (199, 40, 5, [13]) :: (202, 5, 0, []) :: (203, 5, 1, []) :: (204, 39, 5, [14]) :: (207, 40, 5, [14]) :: (210, 54, 0, []) :: []
def k44_10 : List AE := (10, 5, 0, []) :: (11, 39, 5, [0]) :: (14, 6, 6, []) :: (16, 5, 0, []) :: (17, 32, 0, []) :: (18, 39, 5, [0]) :: (21, 0, 1, []) :: (22, 10, 0, []) :: (23, 40, 5, [0]) :: (26, 5, 0, []) :: (27, 39, 5, [1]) :: (30, 3, 6, []) :: (32, 3, 1, []) :: (33, 42, 0, []) :: (34, 5, 0, []) :: (35, 39, 5, [2]) :: (38, 3, 6, []) :: (40, 3, 2, []) :: (41, 42, 0, []) :: (42, 5, 0, []) :: (43, 39, 5, [3]) :: (46, 3, 6, []) :: (48, 3, 3, []) :: (49, 42, 0, []) :: (50, 5, 0, []) :: (51, 3, 6, []) :: (53, 3, 4, []) :: (55, 3, 5, []) :: (57, 49, 45, [3, 5]) :: (60, 54, 0, []) :: []
def k44_0 : List AE := (0, 5, 0, []) :: (1, 39, 5, [0]) :: (4, 0, 8, []) :: (6, 72, 10, []) :: (9, 54, 0, []) :: k44_10
def k45_0 : List AE := (0, 5, 0, []) :: (1, 39, 5, [4]) :: (4, 3, 1, []) :: (5, 3, 2, []) :: (6, 42, 0, []) :: (7, 5, 0, []) :: (8, 39, 5, [5]) :: (11, 3, 1, []) :: (12, 3, 3, []) :: (13, 42, 0, []) :: (14, 5, 0, []) :: (15, 39, 5, [6]) :: (18, 3, 1, []) :: (19, 0, 0, []) :: (20, 42, 0, []) :: (21, 5, 0, []) :: (22, 39, 5, [7]) :: (25, 3, 1, []) :: (26, 0, (-9), []) :: (28, 42, 0, []) :: (29, 54, 0, []) :: []
def k46_9 : List AE := (9, 5, 0, []) :: (10, 39, 5, [9]) :: (13, 5, 0, []) :: (14, 39, 5, [8]) :: (17, 3, 1, []) :: (18, 42, 0, []) :: (19, 5, 0, []) :: (20, 39, 5, [10]) :: (23, 5, 0, []) :: (24, 39, 5, [8]) :: (27, 3, 2, []) :: (28, 42, 0, []) :: (29, 5, 0, []) :: (30, 39, 5, [11]) :: (33, 5, 0, []) :: (34, 39, 5, [8]) :: (37, 3, 3, []) :: (38, 42, 0, []) :: (39, 5, 0, []) :: (40, 32, 0, []) :: (41, 39, 5, [8]) :: (44, 0, 1, []) :: (45, 10, 0, []) :: (46, 40, 5, [8]) :: (49, 54, 0, []) :: []
def k46_0 : List AE := (0, 5, 0, []) :: (1, 39, 5, [8]) :: (4, 0, 4, []) :: (5, 72, 9, []) :: (8, 54, 0, []) :: k46_9
def k47_68 : List AE := (68, 54, 0, []) :: []
def k47_12 : List AE := (12, 3, 2, []) :: (13, 5, 0, []) :: (14, 39, 5, [8]) :: (17, 73, 68, []) :: (20, 5, 0, []) :: (21, 39, 5, [9]) :: (24, 3, 2, []) :: (25, 5, 0, []) :: (26, 39, 5, [9]) :: (29, 3, 2, []) :: (30, 0, 1, []) :: (31, 10, 0, []) :: (32, 41, 0, []) :: (33, 42, 0, []) :: (34, 5, 0, []) :: (35, 39, 5, [10]) :: (38, 3, 2, []) :: (39, 5, 0, []) :: (40, 39, 5, [10]) :: (43, 3, 2, []) :: (44, 0, 1, []) :: (45, 10, 0, []) :: (46, 41, 0, []) :: (47, 42, 0, []) :: (48, 5, 0, []) :: (49, 39, 5, [11]) :: (52, 3, 2, []) :: (53, 5, 0, []) :: (54, 39, 5, [11]) :: (57, 3, 2, []) :: (58, 0, 1, []) :: (59, 10, 0, []) :: (60, 41, 0, []) :: (61, 42, 0, []) :: (62, 9, 2, [1]) :: (65, 36, 12, []) :: k47_68
def k47_0 : List AE := (0, 5, 0, []) :: (1, 32, 0, []) :: (2, 39, 5, [8]) :: (5, 0, 1, []) :: (6, 11, 0, []) :: (7, 40, 5, [8]) :: (10, 3, 1, []) :: (11, 6, 2, []) :: k47_12
def k48_56 : List AE := (56, 3, 2, []) :: (57, 52, 0, []) :: []
def k48_50 : List AE := (50, 9, 3, [1]) :: (53, 36, 4, []) :: k48_56
def k48_4 : List AE := (4, 3, 3, []) :: (5, 5, 0, []) :: (6, 39, 5, [8]) :: (9, 73, 56, []) :: (12, 3, 1, []) :: (13, 5, 0, []) :: (14, 39, 5, [10]) :: (17, 3, 3, []) :: (18, 41, 0, []) :: (19, 72, 50, []) :: (22, 3, 1, []) :: (23, 5, 0, []) :: (24, 39, 5, [10]) :: (27, 3, 3, []) :: (28, 41, 0, []) :: (29, 5, 0, []) :: (30, 39, 5, [11]) :: (33, 3, 3, []) :: (34, 41, 0, []) :: (35, 10, 0, []) :: (36, 73, 50, []) :: (39, 3, 2, []) :: (40, 0, 1, []) :: (41, 5, 0, []) :: (42, 39, 5, [9]) :: (45, 3, 3, []) :: (46, 41, 0, []) :: (47, 18, 0, []) :: (48, 16, 0, []) :: (49, 6, 2, []) :: k48_50
def k48_0 : List AE := (0, 0, 0, []) :: (1, 6, 2, []) :: (2, 0, 0, []) :: (3, 6, 3, []) :: k48_4
def k49_35 : List AE := (35, 3, 1, []) :: (36, 52, 0, []) :: []
def k49_29 : List AE := (29, 9, 2, [1]) :: (32, 36, 4, []) :: k49_35
def k49_4 : List AE := (4, 3, 2, []) :: (5, 5, 0, []) :: (6, 39, 5, [0]) :: (9, 73, 35, []) :: (12, 5, 0, []) :: (13, 39, 5, [7]) :: (16, 3, 2, []) :: (17, 41, 0, []) :: (18, 0, (-9), []) :: (20, 70, 29, []) :: (23, 3, 1, []) :: (24, 0, 1, []) :: (25, 3, 2, []) :: (26, 18, 0, []) :: (27, 16, 0, []) :: (28, 6, 1, []) :: k49_29
def k49_0 : List AE := (0, 0, 0, []) :: (1, 6, 1, []) :: (2, 0, 0, []) :: (3, 6, 2, []) :: k49_4
def k50_27 : List AE := (27, 3, 1, []) :: (28, 52, 0, []) :: []
def k50_4 : List AE := (4, 3, 2, []) :: (5, 5, 0, []) :: (6, 39, 5, [0]) :: (9, 73, 27, []) :: (12, 3, 1, []) :: (13, 5, 0, []) :: (14, 39, 5, [3]) :: (17, 3, 2, []) :: (18, 41, 0, []) :: (19, 10, 0, []) :: (20, 6, 1, []) :: (21, 9, 2, [1]) :: (24, 36, 4, []) :: k50_27
def k50_0 : List AE := (0, 0, 0, []) :: (1, 6, 1, []) :: (2, 0, 0, []) :: (3, 6, 2, []) :: k50_4
def k51_31 : List AE := (31, 3, 2, []) :: (32, 52, 0, []) :: []
def k51_25 : List AE := (25, 9, 3, [1]) :: (28, 36, 4, []) :: k51_31
def k51_4 : List AE := (4, 3, 3, []) :: (5, 5, 0, []) :: (6, 39, 5, [0]) :: (9, 73, 31, []) :: (12, 5, 0, []) :: (13, 39, 5, [3]) :: (16, 3, 3, []) :: (17, 41, 0, []) :: (18, 3, 1, []) :: (19, 71, 25, []) :: (22, 9, 2, [1]) :: k51_25
def k51_0 : List AE := (0, 0, 0, []) :: (1, 6, 2, []) :: (2, 0, 0, []) :: (3, 6, 3, []) :: k51_4
def k52_44 : List AE := (44, 3, 1, []) :: (45, 52, 0, []) :: []
def k52_27 : List AE := (27, 3, 1, []) :: (28, 5, 0, []) :: (29, 39, 5, [7]) :: (32, 3, 2, []) :: (33, 41, 0, []) :: (34, 55, 0, []) :: (37, 6, 1, []) :: (38, 9, 2, [1]) :: (41, 36, 5, []) :: k52_44
def k52_5 : List AE := (5, 3, 2, []) :: (6, 5, 0, []) :: (7, 39, 5, [0]) :: (10, 73, 44, []) :: (13, 5, 0, []) :: (14, 39, 5, [7]) :: (17, 3, 2, []) :: (18, 41, 0, []) :: (19, 0, (-9), []) :: (21, 71, 27, []) :: (24, 0, (-3), []) :: (26, 52, 0, []) :: k52_27
def k52_0 : List AE := (0, 0, (-3), []) :: (2, 6, 1, []) :: (3, 0, 0, []) :: (4, 6, 2, []) :: k52_5
def k53_39 : List AE := (39, 0, 1, []) :: (40, 53, 0, []) :: []
def k53_33 : List AE := (33, 9, 2, [1]) :: (36, 36, 2, []) :: k53_39
def k53_31 : List AE := (31, 0, 0, []) :: (32, 53, 0, []) :: k53_33
def k53_2 : List AE := (2, 3, 2, []) :: (3, 5, 0, []) :: (4, 39, 5, [0]) :: (7, 73, 39, []) :: (10, 5, 0, []) :: (11, 39, 5, [7]) :: (14, 3, 2, []) :: (15, 41, 0, []) :: (16, 0, (-9), []) :: (18, 70, 31, []) :: (21, 5, 0, []) :: (22, 39, 5, [7]) :: (25, 3, 2, []) :: (26, 41, 0, []) :: (27, 3, 1, []) :: (28, 75, 33, []) :: k53_31
def k53_0 : List AE := (0, 0, 0, []) :: (1, 6, 2, []) :: k53_2
def k54_61 : List AE := (61, 5, 0, []) :: (62, 39, 6, [5]) :: (65, 39, 4, [1]) :: (68, 52, 0, []) :: []
def k54_33 : List AE := (33, 3, 4, []) :: (35, 3, 3, []) :: (36, 73, 61, []) :: (39, 5, 0, []) :: (40, 39, 6, [5]) :: (43, 4, 1, []) :: (44, 0, 8, []) :: (46, 3, 4, []) :: (48, 12, 0, []) :: (49, 26, 0, []) :: (50, 29, 0, []) :: (51, 30, 0, []) :: (52, 49, 26, [1, 4]) :: (55, 9, 4, [1]) :: (58, 36, 33, []) :: k54_61
def k54_30 : List AE := (30, 0, 0, []) :: (31, 6, 4, []) :: k54_33
def k54_12 : List AE := (12, 5, 0, []) :: (13, 39, 6, [5]) :: (16, 39, 4, [1]) :: (19, 3, 3, []) :: (20, 10, 0, []) :: (21, 0, 240, []) :: (24, 75, 30, []) :: (27, 0, (-2), []) :: (29, 52, 0, []) :: k54_30
def k54_0 : List AE := (0, 3, 3, []) :: (1, 0, 1, []) :: (2, 0, 8, []) :: (4, 48, 97, [3]) :: (7, 61, 12, []) :: (10, 0, (-1), []) :: (11, 52, 0, []) :: k54_12
def k55_29 : List AE := (29, 5, 0, []) :: (30, 39, 6, [1]) :: (33, 5, 0, []) :: (34, 39, 6, [0]) :: (37, 39, 5, [14]) :: (40, 40, 5, [14]) :: (43, 5, 0, []) :: (44, 39, 6, [0]) :: (47, 5, 0, []) :: (48, 39, 6, [1]) :: (51, 49, 43, [1, 5]) :: (54, 5, 0, []) :: (55, 0, 0, []) :: (56, 40, 6, [8]) :: (59, 5, 0, []) :: (60, 39, 6, [0]) :: (63, 39, 5, [0]) :: (66, 52, 0, []) :: []
def k55_0 : List AE := (0, 5, 0, []) :: (1, 39, 6, [5]) :: (4, 5, 0, []) :: (5, 39, 6, [1]) :: (8, 49, 28, [1, 4]) :: (11, 6, 1, []) :: (12, 5, 0, []) :: (13, 39, 6, [5]) :: (16, 49, 27, [0, 4]) :: (19, 3, 1, []) :: (20, 0, (-1), []) :: (21, 70, 29, []) :: (24, 0, (-100), []) :: (26, 3, 1, []) :: (27, 11, 0, []) :: (28, 52, 0, []) :: k55_29
def k56_12 : List AE := (12, 5, 0, []) :: (13, 39, 6, [0]) :: (16, 39, 5, [12]) :: (19, 6, 2, []) :: (20, 5, 0, []) :: (21, 39, 6, [0]) :: (24, 3, 1, []) :: (25, 40, 5, [12]) :: (28, 3, 2, []) :: (29, 52, 0, []) :: []
def k56_0 : List AE := (0, 3, 1, []) :: (1, 0, 1, []) :: (2, 0, 9, []) :: (4, 48, 97, [3]) :: (7, 61, 12, []) :: (10, 0, (-1), []) :: (11, 52, 0, []) :: k56_12
def k57_43 : List AE := (43, 5, 0, []) :: (44, 39, 6, [0]) :: (47, 3, 1, []) :: (48, 3, 2, []) :: (49, 3, 3, []) :: (50, 49, 46, [3, 5]) :: (53, 5, 0, []) :: (54, 39, 6, [0]) :: (57, 39, 5, [8]) :: (60, 52, 0, []) :: []
def k57_29 : List AE := (29, 5, 0, []) :: (30, 39, 6, [0]) :: (33, 39, 5, [8]) :: (36, 0, 4, []) :: (37, 72, 43, []) :: (40, 0, (-2), []) :: (42, 52, 0, []) :: k57_43
def k57_27 : List AE := (27, 0, (-1), []) :: (28, 52, 0, []) :: k57_29
def k57_0 : List AE := (0, 3, 1, []) :: (1, 48, 99, [1]) :: (4, 60, 27, []) :: (7, 3, 2, []) :: (8, 0, 0, []) :: (9, 0, 99, []) :: (11, 48, 97, [3]) :: (14, 60, 27, []) :: (17, 3, 3, []) :: (18, 0, 1, []) :: (19, 0, 30, []) :: (21, 48, 97, [3]) :: (24, 61, 29, []) :: k57_27
def k58_19 : List AE := (19, 5, 0, []) :: (20, 39, 6, [0]) :: (23, 3, 1, []) :: (24, 49, 47, [1, 5]) :: (27, 5, 0, []) :: (28, 39, 6, [0]) :: (31, 39, 5, [8]) :: (34, 52, 0, []) :: []
def k58_0 : List AE := (0, 3, 1, []) :: (1, 0, 0, []) :: (2, 5, 0, []) :: (3, 39, 6, [0]) :: (6, 39, 5, [8]) :: (9, 0, 1, []) :: (10, 11, 0, []) :: (11, 48, 97, [3]) :: (14, 61, 19, []) :: (17, 0, (-1), []) :: (18, 52, 0, []) :: k58_19
def k59_19 : List AE := (19, 5, 0, []) :: (20, 39, 6, [0]) :: (23, 3, 2, []) :: (24, 49, 48, [1, 5]) :: (27, 3, 1, []) :: (28, 19, 0, []) :: (29, 0, 1, []) :: (30, 15, 0, []) :: (31, 52, 0, []) :: []
def k59_17 : List AE := (17, 0, (-1), []) :: (18, 52, 0, []) :: k59_19
def k59_0 : List AE := (0, 3, 1, []) :: (1, 48, 99, [1]) :: (4, 60, 17, []) :: (7, 3, 2, []) :: (8, 0, 0, []) :: (9, 0, 119, []) :: (11, 48, 97, [3]) :: (14, 61, 19, []) :: k59_17
def k60_49 : List AE := (49, 5, 0, []) :: (50, 39, 6, [0]) :: (53, 3, 1, []) :: (54, 3, 2, []) :: (55, 3, 3, []) :: (56, 3, 4, []) :: (58, 5, 0, []) :: (59, 39, 6, [0]) :: (62, 39, 5, [13]) :: (65, 0, 99, []) :: (67, 56, 0, []) :: (70, 49, 44, [5, 5]) :: (73, 5, 0, []) :: (74, 39, 6, [0]) :: (77, 39, 5, [0]) :: (80, 0, 1, []) :: (81, 11, 0, []) :: (82, 52, 0, []) :: []
def k60_34 : List AE := (34, 5, 0, []) :: (35, 39, 6, [0]) :: (38, 39, 5, [0]) :: (41, 0, 8, []) :: (43, 72, 49, []) :: (46, 0, (-2), []) :: (48, 52, 0, []) :: k60_49
def k60_32 : List AE := (32, 0, (-1), []) :: (33, 52, 0, []) :: k60_34
def k60_0 : List AE := (0, 3, 1, []) :: (1, 48, 100, [1]) :: (4, 60, 32, []) :: (7, 3, 2, []) :: (8, 0, 0, []) :: (9, 0, 9, []) :: (11, 48, 97, [3]) :: (14, 60, 32, []) :: (17, 3, 3, []) :: (18, 48, 98, [1]) :: (21, 60, 32, []) :: (24, 3, 4, []) :: (26, 48, 98, [1]) :: (29, 61, 34, []) :: k60_32
def k61_178 : List AE := (178, 0, (-1), []) :: (179, 52, 0, []) :: []
def k61_156 : List AE := (156, 5, 0, []) :: (157, 39, 6, [0]) :: (160, 39, 5, [1]) :: (163, 3, 1, []) :: (164, 41, 0, []) :: (165, 5, 0, []) :: (166, 39, 6, [0]) :: (169, 39, 5, [2]) :: (172, 3, 1, []) :: (173, 41, 0, []) :: (174, 48, 10, [2]) :: (177, 52, 0, []) :: k61_178
def k61_134 : List AE := (134, 5, 0, []) :: (135, 39, 6, [0]) :: (138, 39, 5, [1]) :: (141, 3, 1, []) :: (142, 41, 0, []) :: (143, 5, 0, []) :: (144, 39, 6, [0]) :: (147, 39, 5, [2]) :: (150, 3, 1, []) :: (151, 41, 0, []) :: (152, 48, 9, [2]) :: (155, 52, 0, []) :: k61_156
def k61_124 : List AE := (124, 5, 0, []) :: (125, 39, 6, [0]) :: (128, 39, 5, [7]) :: (131, 3, 1, []) :: (132, 41, 0, []) :: (133, 52, 0, []) :: k61_134
def k61_114 : List AE := (114, 5, 0, []) :: (115, 39, 6, [0]) :: (118, 39, 5, [6]) :: (121, 3, 1, []) :: (122, 41, 0, []) :: (123, 52, 0, []) :: k61_124
def k61_104 : List AE := (104, 5, 0, []) :: (105, 39, 6, [0]) :: (108, 39, 5, [5]) :: (111, 3, 1, []) :: (112, 41, 0, []) :: (113, 52, 0, []) :: k61_114
def k61_94 : List AE := (94, 5, 0, []) :: (95, 39, 6, [0]) :: (98, 39, 5, [4]) :: (101, 3, 1, []) :: (102, 41, 0, []) :: (103, 52, 0, []) :: k61_104
def k61_84 : List AE := (84, 5, 0, []) :: (85, 39, 6, [0]) :: (88, 39, 5, [3]) :: (91, 3, 1, []) :: (92, 41, 0, []) :: (93, 52, 0, []) :: k61_94
def k61_74 : List AE := (74, 5, 0, []) :: (75, 39, 6, [0]) :: (78, 39, 5, [2]) :: (81, 3, 1, []) :: (82, 41, 0, []) :: (83, 52, 0, []) :: k61_84
def k61_64 : List AE := (64, 5, 0, []) :: (65, 39, 6, [0]) :: (68, 39, 5, [1]) :: (71, 3, 1, []) :: (72, 41, 0, []) :: (73, 52, 0, []) :: k61_74
def k61_13 : List AE := (13, 3, 2, []) :: (14, 37, 178, [0, 64, 74, 84, 94, 104, 114, 124, 134, 156]) :: k61_64
def k61_0 : List AE := (0, 5, 0, []) :: (1, 39, 6, [0]) :: (4, 3, 1, []) :: (5, 49, 41, [1, 5]) :: (8, 61, 13, []) :: (11, 0, (-1), []) :: (12, 52, 0, []) :: k61_13
def k62_30 : List AE := (30, 5, 0, []) :: (31, 39, 6, [0]) :: (34, 39, 5, [1]) :: (37, 3, 1, []) :: (38, 41, 0, []) :: (39, 6, 4, []) :: (41, 5, 0, []) :: (42, 39, 6, [0]) :: (45, 39, 5, [1]) :: (48, 3, 1, []) :: (49, 3, 2, []) :: (50, 42, 0, []) :: (51, 5, 0, []) :: (52, 39, 6, [0]) :: (55, 39, 5, [2]) :: (58, 3, 1, []) :: (59, 3, 3, []) :: (60, 42, 0, []) :: (61, 5, 0, []) :: (62, 39, 6, [0]) :: (65, 39, 5, [6]) :: (68, 3, 1, []) :: (69, 0, 0, []) :: (70, 42, 0, []) :: (71, 3, 4, []) :: (73, 52, 0, []) :: []
def k62_28 : List AE := (28, 0, (-1), []) :: (29, 52, 0, []) :: k62_30
def k62_0 : List AE := (0, 5, 0, []) :: (1, 39, 6, [0]) :: (4, 3, 1, []) :: (5, 49, 41, [1, 5]) :: (8, 60, 28, []) :: (11, 3, 2, []) :: (12, 48, 100, [1]) :: (15, 60, 28, []) :: (18, 3, 3, []) :: (19, 0, 0, []) :: (20, 0, 9, []) :: (22, 48, 97, [3]) :: (25, 61, 30, []) :: k62_28
def k63_30 : List AE := (30, 5, 0, []) :: (31, 39, 6, [0]) :: (34, 39, 5, [4]) :: (37, 3, 1, []) :: (38, 41, 0, []) :: (39, 6, 4, []) :: (41, 5, 0, []) :: (42, 39, 6, [0]) :: (45, 3, 1, []) :: (46, 3, 2, []) :: (47, 3, 3, []) :: (48, 49, 45, [3, 5]) :: (51, 3, 4, []) :: (53, 52, 0, []) :: []
def k63_28 : List AE := (28, 0, (-1), []) :: (29, 52, 0, []) :: k63_30
def k63_0 : List AE := (0, 5, 0, []) :: (1, 39, 6, [0]) :: (4, 3, 1, []) :: (5, 49, 41, [1, 5]) :: (8, 60, 28, []) :: (11, 3, 2, []) :: (12, 48, 98, [1]) :: (15, 60, 28, []) :: (18, 3, 3, []) :: (19, 0, 0, []) :: (20, 0, 99, []) :: (22, 48, 97, [3]) :: (25, 61, 30, []) :: k63_28
def k64_20 : List AE := (20, 5, 0, []) :: (21, 39, 6, [0]) :: (24, 39, 5, [3]) :: (27, 3, 1, []) :: (28, 41, 0, []) :: (29, 6, 3, []) :: (30, 5, 0, []) :: (31, 39, 6, [0]) :: (34, 39, 5, [3]) :: (37, 3, 1, []) :: (38, 3, 2, []) :: (39, 42, 0, []) :: (40, 5, 0, []) :: (41, 39, 6, [0]) :: (44, 39, 5, [6]) :: (47, 3, 1, []) :: (48, 0, 0, []) :: (49, 42, 0, []) :: (50, 3, 3, []) :: (51, 52, 0, []) :: []
def k64_18 : List AE := (18, 0, (-1), []) :: (19, 52, 0, []) :: k64_20
def k64_0 : List AE := (0, 5, 0, []) :: (1, 39, 6, [0]) :: (4, 3, 1, []) :: (5, 49, 41, [1, 5]) :: (8, 60, 18, []) :: (11, 3, 2, []) :: (12, 48, 98, [1]) :: (15, 61, 20, []) :: k64_18
def k65_0 : List AE := (0, 5, 0, []) :: (1, 39, 6, [0]) :: (4, 39, 5, [13]) :: (7, 52, 0, []) :: []
def k66_59 : List AE := (59, 5, 0, []) :: (60, 39, 6, [0]) :: (63, 39, 5, [13]) :: (66, 52, 0, []) :: []
def k66_25 : List AE := (25, 3, 2, []) :: (26, 3, 1, []) :: (27, 73, 59, []) :: (30, 5, 0, []) :: (31, 39, 6, [0]) :: (34, 39, 5, [13]) :: (37, 0, 120, []) :: (39, 73, 59, []) :: (42, 5, 0, []) :: (43, 39, 6, [4]) :: (46, 5, 0, []) :: (47, 39, 6, [0]) :: (50, 49, 22, [1, 3]) :: (53, 9, 2, [1]) :: (56, 36, 25, []) :: k66_59
def k66_12 : List AE := (12, 5, 0, []) :: (13, 39, 6, [4]) :: (16, 5, 0, []) :: (17, 39, 6, [0]) :: (20, 49, 19, [1, 3]) :: (23, 0, 0, []) :: (24, 6, 2, []) :: k66_25
def k66_0 : List AE := (0, 3, 1, []) :: (1, 0, 0, []) :: (2, 0, 60, []) :: (4, 48, 97, [3]) :: (7, 61, 12, []) :: (10, 0, (-1), []) :: (11, 52, 0, []) :: k66_12
def k67_12 : List AE := (12, 5, 0, []) :: (13, 39, 6, [0]) :: (16, 39, 5, [13]) :: (19, 6, 2, []) :: (20, 5, 0, []) :: (21, 39, 6, [0]) :: (24, 3, 1, []) :: (25, 40, 5, [13]) :: (28, 3, 2, []) :: (29, 52, 0, []) :: []
def k67_0 : List AE := (0, 3, 1, []) :: (1, 0, 0, []) :: (2, 0, 120, []) :: (4, 48, 97, [3]) :: (7, 61, 12, []) :: (10, 0, (-1), []) :: (11, 52, 0, []) :: k67_12
def k68_39 : List AE := (39, 52, 0, []) :: []
def k68_38 : List AE := (38, 3, 2, []) :: k68_39
def k68_13 : List AE := (13, 5, 0, []) :: (14, 49, 105, [0, 6]) :: (17, 5, 0, []) :: (18, 39, 6, [1]) :: (21, 39, 5, [7]) :: (24, 3, 1, []) :: (25, 41, 0, []) :: (26, 6, 2, []) :: (27, 3, 2, []) :: (28, 0, (-9), []) :: (30, 71, 38, []) :: (33, 0, (-3), []) :: (35, 36, 39, []) :: k68_38
def k68_0 : List AE := (0, 5, 0, []) :: (1, 39, 6, [0]) :: (4, 3, 1, []) :: (5, 49, 41, [1, 5]) :: (8, 61, 13, []) :: (11, 0, (-1), []) :: (12, 52, 0, []) :: k68_13
def k69_0 : List AE := (0, 5, 0, []) :: (1, 49, 105, [0, 6]) :: (4, 5, 0, []) :: (5, 39, 6, [1]) :: (8, 49, 52, [0, 5]) :: (11, 52, 0, []) :: []
def k70_13 : List AE := (13, 5, 0, []) :: (14, 49, 105, [0, 6]) :: (17, 5, 0, []) :: (18, 39, 6, [4]) :: (21, 39, 3, [3]) :: (24, 3, 1, []) :: (25, 41, 0, []) :: (26, 52, 0, []) :: []
def k70_0 : List AE := (0, 5, 0, []) :: (1, 39, 6, [0]) :: (4, 3, 1, []) :: (5, 49, 41, [1, 5]) :: (8, 61, 13, []) :: (11, 0, (-1), []) :: (12, 52, 0, []) :: k70_13
def k71_9 : List AE := (9, 5, 0, []) :: (10, 49, 105, [0, 6]) :: (13, 5, 0, []) :: (14, 39, 6, [4]) :: (17, 39, 3, [6]) :: (20, 3, 1, []) :: (21, 41, 0, []) :: (22, 52, 0, []) :: []
def k71_0 : List AE := (0, 3, 1, []) :: (1, 48, 99, [1]) :: (4, 61, 9, []) :: (7, 0, (-1), []) :: (8, 52, 0, []) :: k71_9
def k72_25 : List AE := (25, 5, 0, []) :: (26, 39, 6, [1]) :: (29, 5, 0, []) :: (30, 39, 6, [0]) :: (33, 49, 43, [1, 5]) :: (36, 5, 0, []) :: (37, 39, 6, [4]) :: (40, 5, 0, []) :: (41, 39, 6, [1]) :: (44, 3, 2, []) :: (45, 0, 1, []) :: (46, 10, 0, []) :: (47, 49, 21, [2, 3]) :: (50, 5, 0, []) :: (51, 39, 6, [1]) :: (54, 3, 1, []) :: (55, 49, 51, [1, 5]) :: (58, 52, 0, []) :: []
def k72_23 : List AE := (23, 0, (-1), []) :: (24, 52, 0, []) :: k72_25
def k72_0 : List AE := (0, 3, 1, []) :: (1, 48, 98, [1]) :: (4, 60, 23, []) :: (7, 3, 2, []) :: (8, 5, 0, []) :: (9, 39, 6, [0]) :: (12, 39, 5, [13]) :: (15, 0, 119, []) :: (17, 48, 97, [3]) :: (20, 61, 25, []) :: k72_23
def k73_89 : List AE := (89, 52, 0, []) :: []
def k73_78 : List AE := (78, 3, 1, []) :: (79, 5, 0, []) :: (80, 39, 6, [0]) :: (83, 39, 5, [13]) :: (86, 11, 0, []) :: (87, 0, 1, []) :: (88, 10, 0, []) :: k73_89
def k73_46 : List AE := (46, 5, 0, []) :: (47, 39, 6, [4]) :: (50, 5, 0, []) :: (51, 39, 6, [1]) :: (54, 0, 120, []) :: (56, 49, 21, [2, 3]) :: (59, 5, 0, []) :: (60, 39, 6, [1]) :: (63, 49, 52, [0, 5]) :: (66, 6, 1, []) :: (67, 3, 1, []) :: (68, 0, (-3), []) :: (70, 71, 78, []) :: (73, 0, (-3), []) :: (75, 36, 89, []) :: k73_78
def k73_13 : List AE := (13, 3, 1, []) :: (14, 5, 0, []) :: (15, 39, 6, [1]) :: (18, 39, 5, [0]) :: (21, 73, 46, []) :: (24, 5, 0, []) :: (25, 39, 6, [1]) :: (28, 3, 1, []) :: (29, 0, 0, []) :: (30, 5, 0, []) :: (31, 39, 6, [0]) :: (34, 39, 5, [13]) :: (37, 49, 45, [3, 5]) :: (40, 9, 1, [1]) :: (43, 36, 13, []) :: k73_46
def k73_0 : List AE := (0, 5, 0, []) :: (1, 39, 6, [1]) :: (4, 5, 0, []) :: (5, 39, 6, [0]) :: (8, 49, 43, [1, 5]) :: (11, 0, 0, []) :: (12, 6, 1, []) :: k73_13
def k74_100 : List AE := (100, 3, 3, []) :: (101, 52, 0, []) :: []
def k74_97 : List AE := (97, 36, 58, []) :: k74_100
def k74_91 : List AE := (91, 3, 5, []) :: (93, 0, 1, []) :: (94, 11, 0, []) :: (95, 6, 4, []) :: k74_97
def k74_58 : List AE := (58, 3, 3, []) :: (59, 3, 4, []) :: (61, 73, 100, []) :: (64, 3, 3, []) :: (65, 3, 4, []) :: (67, 10, 0, []) :: (68, 0, 1, []) :: (69, 10, 0, []) :: (70, 0, 2, []) :: (71, 13, 0, []) :: (72, 6, 5, []) :: (74, 5, 0, []) :: (75, 3, 2, []) :: (76, 3, 1, []) :: (77, 3, 5, []) :: (79, 49, 106, [3, 6]) :: (82, 60, 91, []) :: (85, 3, 5, []) :: (87, 6, 3, []) :: (88, 36, 97, []) :: k74_91
def k74_55 : List AE := (55, 0, (-3), []) :: (57, 52, 0, []) :: k74_58
def k74_23 : List AE := (23, 5, 0, []) :: (24, 39, 6, [0]) :: (27, 39, 5, [13]) :: (30, 6, 3, []) :: (31, 0, 99, []) :: (33, 3, 2, []) :: (34, 56, 0, []) :: (37, 6, 4, []) :: (39, 3, 3, []) :: (40, 3, 4, []) :: (42, 74, 55, []) :: (45, 5, 0, []) :: (46, 3, 2, []) :: (47, 3, 1, []) :: (48, 3, 3, []) :: (49, 49, 106, [3, 6]) :: (52, 61, 58, []) :: k74_55
def k74_21 : List AE := (21, 0, (-1), []) :: (22, 52, 0, []) :: k74_23
def k74_0 : List AE := (0, 5, 0, []) :: (1, 39, 6, [0]) :: (4, 3, 1, []) :: (5, 49, 41, [1, 5]) :: (8, 60, 21, []) :: (11, 3, 2, []) :: (12, 0, 0, []) :: (13, 0, 119, []) :: (15, 48, 97, [3]) :: (18, 61, 23, []) :: k74_21
def k75_114 : List AE := (114, 3, 1, []) :: (115, 52, 0, []) :: []
def k75_108 : List AE := (108, 9, 3, [1]) :: (111, 36, 8, []) :: k75_114
def k75_102 : List AE := (102, 9, 4, [1]) :: (105, 36, 24, []) :: k75_108
def k75_68 : List AE := (68, 5, 0, []) :: (69, 3, 3, []) :: (70, 3, 4, []) :: (72, 3, 2, []) :: (73, 49, 107, [3, 6]) :: (76, 6, 5, []) :: (78, 3, 5, []) :: (80, 0, (-3), []) :: (82, 70, 102, []) :: (85, 3, 5, []) :: (87, 3, 2, []) :: (88, 73, 102, []) :: (91, 3, 5, []) :: (93, 6, 2, []) :: (94, 0, 10, []) :: (96, 3, 3, []) :: (97, 12, 0, []) :: (98, 3, 4, []) :: (100, 10, 0, []) :: (101, 6, 1, []) :: k75_102
def k75_24 : List AE := (24, 3, 4, []) :: (26, 5, 0, []) :: (27, 39, 6, [0]) :: (30, 39, 5, [0]) :: (33, 73, 108, []) :: (36, 5, 0, []) :: (37, 39, 6, [0]) :: (40, 39, 5, [7]) :: (43, 3, 3, []) :: (44, 41, 0, []) :: (45, 0, (-9), []) :: (47, 71, 102, []) :: (50, 5, 0, []) :: (51, 39, 6, [0]) :: (54, 39, 5, [7]) :: (57, 3, 4, []) :: (59, 41, 0, []) :: (60, 0, (-9), []) :: (62, 70, 68, []) :: (65, 36, 102, []) :: k75_68
def k75_8 : List AE := (8, 3, 3, []) :: (9, 5, 0, []) :: (10, 39, 6, [0]) :: (13, 39, 5, [0]) :: (16, 73, 114, []) :: (19, 3, 3, []) :: (20, 0, 1, []) :: (21, 10, 0, []) :: (22, 6, 4, []) :: k75_24
def k75_0 : List AE := (0, 0, (-3), []) :: (2, 6, 1, []) :: (3, 0, 120, []) :: (5, 6, 2, []) :: (6, 0, 0, []) :: (7, 6, 3, []) :: k75_8
def k76_72 : List AE := (72, 0, (-3), []) :: (74, 52, 0, []) :: []
def k76_66 : List AE := (66, 9, 2, [1]) :: (69, 36, 14, []) :: k76_72
def k76_14 : List AE := (14, 3, 2, []) :: (15, 0, 9, []) :: (17, 74, 72, []) :: (20, 5, 0, []) :: (21, 39, 6, [1]) :: (24, 5, 0, []) :: (25, 39, 6, [0]) :: (28, 49, 43, [1, 5]) :: (31, 5, 0, []) :: (32, 39, 6, [1]) :: (35, 3, 2, []) :: (36, 40, 5, [12]) :: (39, 5, 0, []) :: (40, 39, 6, [4]) :: (43, 5, 0, []) :: (44, 39, 6, [1]) :: (47, 3, 1, []) :: (48, 0, 1, []) :: (49, 10, 0, []) :: (50, 49, 21, [2, 3]) :: (53, 5, 0, []) :: (54, 39, 6, [1]) :: (57, 3, 1, []) :: (58, 49, 53, [1, 5]) :: (61, 60, 66, []) :: (64, 3, 2, []) :: (65, 52, 0, []) :: k76_66
def k76_12 : List AE := (12, 0, 1, []) :: (13, 6, 2, []) :: k76_14
def k76_0 : List AE := (0, 3, 1, []) :: (1, 0, 0, []) :: (2, 0, 119, []) :: (4, 48, 97, [3]) :: (7, 61, 12, []) :: (10, 0, (-1), []) :: (11, 52, 0, []) :: k76_12
def k77_135 : List AE := (135, 3, 2, []) :: (136, 52, 0, []) :: []
def k77_129 : List AE := (129, 9, 4, [1]) :: (132, 36, 48, []) :: k77_135
def k77_117 : List AE := (117, 3, 5, []) :: (119, 3, 3, []) :: (120, 75, 129, []) :: (123, 3, 5, []) :: (125, 6, 3, []) :: (126, 3, 4, []) :: (128, 6, 2, []) :: k77_129
def k77_48 : List AE := (48, 3, 4, []) :: (50, 0, 9, []) :: (52, 73, 135, []) :: (55, 5, 0, []) :: (56, 39, 6, [1]) :: (59, 5, 0, []) :: (60, 39, 6, [0]) :: (63, 49, 43, [1, 5]) :: (66, 5, 0, []) :: (67, 39, 6, [1]) :: (70, 3, 4, []) :: (72, 5, 0, []) :: (73, 39, 6, [0]) :: (76, 39, 5, [13]) :: (79, 3, 1, []) :: (80, 49, 46, [3, 5]) :: (83, 5, 0, []) :: (84, 39, 6, [4]) :: (87, 5, 0, []) :: (88, 39, 6, [1]) :: (91, 0, 120, []) :: (93, 49, 21, [2, 3]) :: (96, 5, 0, []) :: (97, 39, 6, [1]) :: (100, 49, 52, [0, 5]) :: (103, 6, 5, []) :: (105, 3, 5, []) :: (107, 0, (-3), []) :: (109, 71, 117, []) :: (112, 0, 999, []) :: (115, 6, 5, []) :: k77_117
def k77_41 : List AE := (41, 0, 0, []) :: (42, 6, 2, []) :: (43, 0, (-1), []) :: (44, 6, 3, []) :: (45, 0, 0, []) :: (46, 6, 4, []) :: k77_48
def k77_26 : List AE := (26, 5, 0, []) :: (27, 39, 6, [0]) :: (30, 39, 5, [13]) :: (33, 0, 99, []) :: (35, 75, 41, []) :: (38, 0, (-4), []) :: (40, 52, 0, []) :: k77_41
def k77_12 : List AE := (12, 5, 0, []) :: (13, 39, 6, [0]) :: (16, 39, 5, [8]) :: (19, 0, 4, []) :: (20, 72, 26, []) :: (23, 0, (-2), []) :: (25, 52, 0, []) :: k77_26
def k77_0 : List AE := (0, 3, 1, []) :: (1, 0, 1, []) :: (2, 0, 30, []) :: (4, 48, 97, [3]) :: (7, 61, 12, []) :: (10, 0, (-1), []) :: (11, 52, 0, []) :: k77_12
def k78_16 : List AE := (16, 52, 0, []) :: []
def k78_15 : List AE := (15, 0, (-1), []) :: k78_16
def k78_0 : List AE := (0, 3, 1, []) :: (1, 48, 98, [1]) :: (4, 60, 15, []) :: (7, 5, 0, []) :: (8, 3, 1, []) :: (9, 49, 108, [1, 6]) :: (12, 36, 16, []) :: k78_15
def k79_40 : List AE := (40, 3, 1, []) :: (41, 52, 0, []) :: []
def k79_34 : List AE := (34, 9, 3, [1]) :: (37, 36, 10, []) :: k79_40
def k79_10 : List AE := (10, 3, 3, []) :: (11, 0, 9, []) :: (13, 74, 40, []) :: (16, 5, 0, []) :: (17, 3, 3, []) :: (18, 49, 108, [1, 6]) :: (21, 6, 4, []) :: (23, 3, 4, []) :: (25, 3, 2, []) :: (26, 73, 34, []) :: (29, 3, 4, []) :: (31, 6, 2, []) :: (32, 3, 3, []) :: (33, 6, 1, []) :: k79_34
def k79_0 : List AE := (0, 0, 0, []) :: (1, 6, 1, []) :: (2, 5, 0, []) :: (3, 0, 0, []) :: (4, 49, 108, [1, 6]) :: (7, 6, 2, []) :: (8, 0, 1, []) :: (9, 6, 3, []) :: k79_10
def k80_0 : List AE := (0, 5, 0, []) :: (1, 39, 6, [0]) :: (4, 39, 5, [14]) :: (7, 6, 2, []) :: (8, 5, 0, []) :: (9, 39, 6, [0]) :: (12, 3, 1, []) :: (13, 40, 5, [14]) :: (16, 3, 2, []) :: (17, 52, 0, []) :: []
def k81_13 : List AE := (13, 5, 0, []) :: (14, 39, 6, [0]) :: (17, 5, 0, []) :: (18, 39, 6, [0]) :: (21, 39, 5, [14]) :: (24, 0, 1103515245, []) :: (26, 12, 0, []) :: (27, 0, 12345, []) :: (30, 10, 0, []) :: (31, 40, 5, [14]) :: (34, 5, 0, []) :: (35, 39, 6, [0]) :: (38, 39, 5, [5]) :: (41, 3, 1, []) :: (42, 5, 0, []) :: (43, 39, 6, [0]) :: (46, 39, 5, [14]) :: (49, 0, 16, []) :: (51, 20, 0, []) :: (52, 0, 100, []) :: (54, 14, 0, []) :: (55, 42, 0, []) :: (56, 5, 0, []) :: (57, 39, 6, [0]) :: (60, 39, 5, [5]) :: (63, 3, 1, []) :: (64, 41, 0, []) :: (65, 52, 0, []) :: []
def k81_0 : List AE := (0, 5, 0, []) :: (1, 39, 6, [0]) :: (4, 3, 1, []) :: (5, 49, 41, [1, 5]) :: (8, 61, 13, []) :: (11, 0, (-1), []) :: (12, 52, 0, []) :: k81_13
def k82_78 : List AE := (78, 5, 0, []) :: (79, 39, 6, [8]) :: (82, 52, 0, []) :: []
def k82_54 : List AE := (54, 3, 2, []) :: (55, 5, 0, []) :: (56, 39, 6, [8]) :: (59, 73, 78, []) :: (62, 5, 0, []) :: (63, 5, 0, []) :: (64, 39, 6, [6]) :: (67, 3, 2, []) :: (68, 47, 0, []) :: (69, 49, 109, [1, 6]) :: (72, 9, 2, [1]) :: (75, 36, 54, []) :: k82_78
def k82_12 : List AE := (12, 5, 0, []) :: (13, 39, 6, [1]) :: (16, 5, 0, []) :: (17, 39, 6, [0]) :: (20, 49, 43, [1, 5]) :: (23, 5, 0, []) :: (24, 39, 6, [4]) :: (27, 5, 0, []) :: (28, 39, 6, [1]) :: (31, 49, 19, [1, 3]) :: (34, 5, 0, []) :: (35, 3, 1, []) :: (36, 0, 120, []) :: (38, 5, 0, []) :: (39, 39, 6, [0]) :: (42, 39, 5, [13]) :: (45, 11, 0, []) :: (46, 56, 0, []) :: (49, 40, 6, [8]) :: (52, 0, 0, []) :: (53, 6, 2, []) :: k82_54
def k82_0 : List AE := (0, 3, 1, []) :: (1, 0, 1, []) :: (2, 0, 20, []) :: (4, 48, 97, [3]) :: (7, 61, 12, []) :: (10, 0, (-1), []) :: (11, 52, 0, []) :: k82_12
def k83_22 : List AE := (22, 52, 0, []) :: []
def k83_20 : List AE := (20, 0, (-9), []) :: k83_22
def k83_0 : List AE := (0, 5, 0, []) :: (1, 3, 1, []) :: (2, 3, 2, []) :: (3, 49, 104, [2, 6]) :: (6, 60, 20, []) :: (9, 5, 0, []) :: (10, 39, 6, [6]) :: (13, 3, 1, []) :: (14, 47, 0, []) :: (15, 3, 2, []) :: (16, 41, 0, []) :: (17, 36, 22, []) :: k83_20
def k84_12 : List AE := (12, 5, 0, []) :: (13, 39, 6, [6]) :: (16, 3, 1, []) :: (17, 47, 0, []) :: (18, 3, 2, []) :: (19, 41, 0, []) :: (20, 6, 4, []) :: (22, 5, 0, []) :: (23, 39, 6, [6]) :: (26, 3, 1, []) :: (27, 47, 0, []) :: (28, 3, 2, []) :: (29, 3, 3, []) :: (30, 42, 0, []) :: (31, 3, 4, []) :: (33, 52, 0, []) :: []
def k84_0 : List AE := (0, 5, 0, []) :: (1, 3, 1, []) :: (2, 3, 2, []) :: (3, 49, 104, [2, 6]) :: (6, 61, 12, []) :: (9, 0, (-9), []) :: (11, 52, 0, []) :: k84_12
def k85_79 : List AE := (79, 0, 0, []) :: (80, 52, 0, []) :: []
def k85_73 : List AE := (73, 9, 1, [1]) :: (76, 36, 24, []) :: k85_79
def k85_48 : List AE := (48, 5, 0, []) :: (49, 5, 0, []) :: (50, 39, 6, [7]) :: (53, 49, 109, [1, 6]) :: (56, 5, 0, []) :: (57, 5, 0, []) :: (58, 39, 6, [6]) :: (61, 3, 1, []) :: (62, 47, 0, []) :: (63, 49, 110, [1, 6]) :: (66, 61, 73, []) :: (69, 3, 1, []) :: (70, 0, 1, []) :: (71, 10, 0, []) :: (72, 52, 0, []) :: k85_73
def k85_24 : List AE := (24, 3, 1, []) :: (25, 5, 0, []) :: (26, 39, 6, [8]) :: (29, 73, 79, []) :: (32, 5, 0, []) :: (33, 39, 6, [1]) :: (36, 39, 5, [13]) :: (39, 0, 120, []) :: (41, 72, 48, []) :: (44, 3, 1, []) :: (45, 0, 1, []) :: (46, 10, 0, []) :: (47, 52, 0, []) :: k85_48
def k85_0 : List AE := (0, 5, 0, []) :: (1, 39, 6, [1]) :: (4, 5, 0, []) :: (5, 39, 6, [0]) :: (8, 49, 43, [1, 5]) :: (11, 5, 0, []) :: (12, 39, 6, [4]) :: (15, 5, 0, []) :: (16, 39, 6, [1]) :: (19, 49, 19, [1, 3]) :: (22, 0, 0, []) :: (23, 6, 1, []) :: k85_24
def k86_143 : List AE := (143, 3, 4, []) :: (145, 52, 0, []) :: []
def k86_99 : List AE := (99, 3, 6, []) :: (101, 3, 4, []) :: (103, 73, 143, []) :: (106, 5, 0, []) :: (107, 39, 6, [0]) :: (110, 39, 5, [5]) :: (113, 3, 3, []) :: (114, 3, 6, []) :: (116, 10, 0, []) :: (117, 0, 0, []) :: (118, 0, 99, []) :: (120, 5, 5, []) :: (122, 39, 1, [2]) :: (125, 3, 2, []) :: (126, 3, 6, []) :: (128, 10, 0, []) :: (129, 41, 0, []) :: (130, 56, 0, []) :: (133, 55, 0, []) :: (136, 42, 0, []) :: (137, 9, 6, [1]) :: (140, 36, 99, []) :: k86_143
def k86_96 : List AE := (96, 0, 0, []) :: (97, 6, 6, []) :: k86_99
def k86_77 : List AE := (77, 3, 2, []) :: (78, 0, 0, []) :: (79, 5, 5, []) :: (81, 39, 1, [1]) :: (84, 3, 4, []) :: (86, 11, 0, []) :: (87, 48, 97, [3]) :: (90, 61, 96, []) :: (93, 0, (-12), []) :: (95, 52, 0, []) :: k86_96
def k86_65 : List AE := (65, 5, 5, []) :: (67, 39, 1, [0]) :: (70, 0, 1, []) :: (71, 70, 77, []) :: (74, 0, (-13), []) :: (76, 52, 0, []) :: k86_77
def k86_45 : List AE := (45, 5, 0, []) :: (46, 39, 6, [9]) :: (49, 3, 1, []) :: (50, 47, 0, []) :: (51, 8, 5, []) :: (53, 5, 5, []) :: (55, 39, 1, [0]) :: (58, 0, (-1), []) :: (59, 71, 65, []) :: (62, 0, (-11), []) :: (64, 52, 0, []) :: k86_65
def k86_43 : List AE := (43, 0, (-1), []) :: (44, 52, 0, []) :: k86_45
def k86_0 : List AE := (0, 3, 1, []) :: (1, 48, 101, [1]) :: (4, 60, 43, []) :: (7, 5, 0, []) :: (8, 39, 6, [0]) :: (11, 3, 3, []) :: (12, 49, 41, [1, 5]) :: (15, 60, 43, []) :: (18, 3, 4, []) :: (20, 0, 0, []) :: (21, 0, 8, []) :: (23, 48, 97, [3]) :: (26, 60, 43, []) :: (29, 3, 3, []) :: (30, 3, 4, []) :: (32, 10, 0, []) :: (33, 5, 0, []) :: (34, 39, 6, [0]) :: (37, 39, 5, [0]) :: (40, 75, 45, []) :: k86_43
def k87_51 : List AE := (51, 5, 0, []) :: (52, 39, 6, [9]) :: (55, 3, 1, []) :: (56, 47, 0, []) :: (57, 3, 2, []) :: (58, 3, 3, []) :: (59, 49, 14, [2, 1]) :: (62, 0, 1, []) :: (63, 52, 0, []) :: []
def k87_44 : List AE := (44, 3, 3, []) :: (45, 63, 51, []) :: (48, 0, (-14), []) :: (50, 52, 0, []) :: k87_51
def k87_36 : List AE := (36, 3, 3, []) :: (37, 0, 40, []) :: (39, 75, 44, []) :: (42, 0, (-1), []) :: (43, 52, 0, []) :: k87_44
def k87_18 : List AE := (18, 3, 2, []) :: (19, 0, (-1), []) :: (20, 71, 36, []) :: (23, 5, 0, []) :: (24, 39, 6, [9]) :: (27, 3, 1, []) :: (28, 47, 0, []) :: (29, 0, (-1), []) :: (30, 0, 0, []) :: (31, 49, 14, [2, 1]) :: (34, 0, 1, []) :: (35, 52, 0, []) :: k87_36
def k87_16 : List AE := (16, 0, (-1), []) :: (17, 52, 0, []) :: k87_18
def k87_0 : List AE := (0, 3, 1, []) :: (1, 48, 101, [1]) :: (4, 60, 16, []) :: (7, 3, 2, []) :: (8, 0, (-1), []) :: (9, 0, 3, []) :: (10, 48, 97, [3]) :: (13, 61, 18, []) :: k87_16
def k88_47 : List AE := (47, 5, 4, []) :: (49, 39, 1, [2]) :: (52, 3, 2, []) :: (53, 5, 4, []) :: (55, 3, 3, []) :: (56, 49, 15, [1, 1]) :: (59, 42, 0, []) :: (60, 0, 1, []) :: (61, 52, 0, []) :: []
def k88_29 : List AE := (29, 3, 2, []) :: (30, 0, 0, []) :: (31, 5, 4, []) :: (33, 39, 1, [1]) :: (36, 0, 1, []) :: (37, 11, 0, []) :: (38, 48, 97, [3]) :: (41, 61, 47, []) :: (44, 0, (-12), []) :: (46, 52, 0, []) :: k88_47
def k88_9 : List AE := (9, 5, 0, []) :: (10, 39, 6, [9]) :: (13, 3, 1, []) :: (14, 47, 0, []) :: (15, 8, 4, []) :: (17, 5, 4, []) :: (19, 39, 1, [0]) :: (22, 0, (-1), []) :: (23, 71, 29, []) :: (26, 0, (-11), []) :: (28, 52, 0, []) :: k88_29
def k88_0 : List AE := (0, 3, 1, []) :: (1, 48, 101, [1]) :: (4, 61, 9, []) :: (7, 0, (-1), []) :: (8, 52, 0, []) :: k88_9
def k89_66 : List AE := (66, 5, 4, []) :: (68, 39, 1, [2]) :: (71, 3, 3, []) :: (72, 41, 0, []) :: (73, 52, 0, []) :: []
def k89_48 : List AE := (48, 3, 3, []) :: (49, 0, 0, []) :: (50, 5, 4, []) :: (52, 39, 1, [1]) :: (55, 0, 1, []) :: (56, 11, 0, []) :: (57, 48, 97, [3]) :: (60, 61, 66, []) :: (63, 0, (-12), []) :: (65, 52, 0, []) :: k89_66
def k89_36 : List AE := (36, 5, 4, []) :: (38, 39, 1, [0]) :: (41, 3, 2, []) :: (42, 70, 48, []) :: (45, 0, (-13), []) :: (47, 52, 0, []) :: k89_48
def k89_16 : List AE := (16, 5, 0, []) :: (17, 39, 6, [9]) :: (20, 3, 1, []) :: (21, 47, 0, []) :: (22, 8, 4, []) :: (24, 5, 4, []) :: (26, 39, 1, [0]) :: (29, 0, (-1), []) :: (30, 71, 36, []) :: (33, 0, (-11), []) :: (35, 52, 0, []) :: k89_36
def k89_14 : List AE := (14, 0, (-1), []) :: (15, 52, 0, []) :: k89_16
def k89_0 : List AE := (0, 3, 1, []) :: (1, 48, 101, [1]) :: (4, 60, 14, []) :: (7, 3, 2, []) :: (8, 48, 103, [1]) :: (11, 61, 16, []) :: k89_14
def k90_98 : List AE := (98, 0, (-1), []) :: (99, 52, 0, []) :: []
def k90_87 : List AE := (87, 5, 0, []) :: (88, 39, 6, [10]) :: (91, 3, 1, []) :: (92, 47, 0, []) :: (93, 49, 16, [0, 2]) :: (96, 0, 1, []) :: (97, 52, 0, []) :: k90_98
def k90_70 : List AE := (70, 5, 0, []) :: (71, 39, 6, [10]) :: (74, 3, 1, []) :: (75, 47, 0, []) :: (76, 5, 0, []) :: (77, 39, 6, [9]) :: (80, 3, 3, []) :: (81, 47, 0, []) :: (82, 49, 18, [1, 2]) :: (85, 0, 1, []) :: (86, 52, 0, []) :: k90_87
def k90_61 : List AE := (61, 3, 3, []) :: (62, 48, 101, [1]) :: (65, 61, 70, []) :: (68, 0, (-1), []) :: (69, 52, 0, []) :: k90_70
def k90_49 : List AE := (49, 5, 0, []) :: (50, 39, 6, [10]) :: (53, 3, 1, []) :: (54, 47, 0, []) :: (55, 3, 3, []) :: (56, 49, 17, [1, 2]) :: (59, 0, 1, []) :: (60, 52, 0, []) :: k90_61
def k90_36 : List AE := (36, 5, 0, []) :: (37, 39, 6, [0]) :: (40, 3, 3, []) :: (41, 49, 41, [1, 5]) :: (44, 61, 49, []) :: (47, 0, (-1), []) :: (48, 52, 0, []) :: k90_49
def k90_9 : List AE := (9, 3, 2, []) :: (10, 37, 98, [0, 36, 61, 87]) :: k90_36
def k90_0 : List AE := (0, 3, 1, []) :: (1, 48, 102, [1]) :: (4, 61, 9, []) :: (7, 0, (-1), []) :: (8, 52, 0, []) :: k90_9
def k91_117 : List AE := (117, 52, 0, []) :: []
def k91_115 : List AE := (115, 0, (-13), []) :: k91_117
def k91_89 : List AE := (89, 3, 3, []) :: (90, 61, 115, []) :: (93, 5, 0, []) :: (94, 39, 6, [0]) :: (97, 39, 5, [1]) :: (100, 3, 5, []) :: (102, 41, 0, []) :: (103, 3, 2, []) :: (104, 48, 13, [2]) :: (107, 60, 115, []) :: (110, 3, 5, []) :: (112, 36, 117, []) :: k91_115
def k91_72 : List AE := (72, 5, 0, []) :: (73, 3, 1, []) :: (74, 49, 111, [1, 6]) :: (77, 6, 5, []) :: (79, 3, 5, []) :: (81, 0, (-3), []) :: (83, 71, 89, []) :: (86, 0, (-11), []) :: (88, 52, 0, []) :: k91_89
def k91_71 : List AE := (71, 52, 0, []) :: k91_72
def k91_69 : List AE := (69, 0, (-13), []) :: k91_71
def k91_28 : List AE := (28, 5, 0, []) :: (29, 39, 6, [10]) :: (32, 3, 1, []) :: (33, 47, 0, []) :: (34, 8, 4, []) :: (36, 5, 4, []) :: (38, 39, 2, [0]) :: (41, 0, 1, []) :: (42, 71, 72, []) :: (45, 3, 3, []) :: (46, 60, 69, []) :: (49, 5, 4, []) :: (51, 39, 2, [2]) :: (54, 3, 2, []) :: (55, 0, 10, []) :: (57, 11, 0, []) :: (58, 71, 69, []) :: (61, 5, 4, []) :: (63, 39, 2, [3]) :: (66, 36, 71, []) :: k91_69
def k91_26 : List AE := (26, 0, (-1), []) :: (27, 52, 0, []) :: k91_28
def k91_0 : List AE := (0, 3, 2, []) :: (1, 0, 10, []) :: (3, 11, 0, []) :: (4, 48, 103, [1]) :: (7, 6, 3, []) :: (8, 3, 1, []) :: (9, 48, 102, [1]) :: (12, 60, 26, []) :: (15, 3, 2, []) :: (16, 48, 100, [1]) :: (19, 61, 28, []) :: (22, 3, 3, []) :: (23, 61, 28, []) :: k91_26
def k92_23 : List AE := (23, 5, 0, []) :: (24, 39, 6, [11]) :: (27, 5, 0, []) :: (28, 39, 6, [0]) :: (31, 39, 5, [1]) :: (34, 3, 4, []) :: (36, 41, 0, []) :: (37, 3, 4, []) :: (39, 5, 0, []) :: (40, 39, 6, [0]) :: (43, 39, 5, [2]) :: (46, 3, 4, []) :: (48, 41, 0, []) :: (49, 49, 1, [3, 0]) :: (52, 5, 0, []) :: (53, 39, 6, [11]) :: (56, 3, 2, []) :: (57, 3, 3, []) :: (58, 49, 2, [2, 0]) :: (61, 52, 0, []) :: []
def k92_0 : List AE := (0, 5, 0, []) :: (1, 39, 6, [11]) :: (4, 49, 0, [0, 0]) :: (7, 5, 0, []) :: (8, 3, 1, []) :: (9, 49, 111, [1, 6]) :: (12, 6, 4, []) :: (14, 3, 4, []) :: (16, 0, (-3), []) :: (18, 71, 23, []) :: (21, 0, 0, []) :: (22, 52, 0, []) :: k92_23
def k93_31 : List AE := (31, 52, 0, []) :: []
def k93_29 : List AE := (29, 0, (-3), []) :: k93_31
def k93_0 : List AE := (0, 3, 1, []) :: (1, 0, 0, []) :: (2, 5, 0, []) :: (3, 39, 6, [11]) :: (6, 39, 0, [4]) :: (9, 0, 1, []) :: (10, 11, 0, []) :: (11, 48, 97, [3]) :: (14, 60, 29, []) :: (17, 5, 0, []) :: (18, 39, 6, [11]) :: (21, 39, 0, [3]) :: (24, 3, 1, []) :: (25, 41, 0, []) :: (26, 36, 31, []) :: k93_29
def k94_88 : List AE := (88, 0, (-1), []) :: (89, 52, 0, []) :: []
def k94_80 : List AE := (80, 5, 0, []) :: (81, 39, 6, [11]) :: (84, 39, 0, [4]) :: (87, 52, 0, []) :: k94_88
def k94_72 : List AE := (72, 5, 0, []) :: (73, 39, 6, [5]) :: (76, 39, 4, [1]) :: (79, 52, 0, []) :: k94_80
def k94_67 : List AE := (67, 5, 0, []) :: (68, 39, 6, [8]) :: (71, 52, 0, []) :: k94_72
def k94_56 : List AE := (56, 5, 0, []) :: (57, 39, 6, [0]) :: (60, 49, 49, [0, 5]) :: (63, 48, 215, [1]) :: (66, 52, 0, []) :: k94_67
def k94_48 : List AE := (48, 5, 0, []) :: (49, 39, 6, [0]) :: (52, 39, 5, [8]) :: (55, 52, 0, []) :: k94_56
def k94_40 : List AE := (40, 5, 0, []) :: (41, 39, 6, [0]) :: (44, 39, 5, [0]) :: (47, 52, 0, []) :: k94_48
def k94_0 : List AE := (0, 3, 1, []) :: (1, 37, 88, [0, 40, 48, 56, 67, 72, 80]) :: k94_40
def k95_0 : List AE := (0, 5, 0, []) :: (1, 39, 6, [2]) :: (4, 5, 0, []) :: (5, 39, 6, [0]) :: (8, 49, 43, [1, 5]) :: (11, 5, 0, []) :: (12, 0, 1, []) :: (13, 40, 6, [3]) :: (16, 0, 1, []) :: (17, 52, 0, []) :: []
def k96_10 : List AE := (10, 5, 0, []) :: (11, 39, 6, [0]) :: (14, 5, 0, []) :: (15, 39, 6, [2]) :: (18, 49, 43, [1, 5]) :: (21, 5, 0, []) :: (22, 39, 6, [0]) :: (25, 39, 5, [13]) :: (28, 52, 0, []) :: []
def k96_0 : List AE := (0, 5, 0, []) :: (1, 39, 6, [3]) :: (4, 61, 10, []) :: (7, 0, (-3), []) :: (9, 52, 0, []) :: k96_10
def k97_15 : List AE := (15, 53, 0, []) :: []
def k97_14 : List AE := (14, 0, 0, []) :: k97_15
def k97_0 : List AE := (0, 3, 0, []) :: (1, 3, 1, []) :: (2, 72, 14, []) :: (5, 3, 0, []) :: (6, 3, 2, []) :: (7, 74, 14, []) :: (10, 0, 1, []) :: (11, 36, 15, []) :: k97_14
def k98_0 : List AE := (0, 3, 0, []) :: (1, 0, 0, []) :: (2, 0, 9, []) :: (4, 48, 97, [3]) :: (7, 53, 0, []) :: []
def k99_0 : List AE := (0, 3, 0, []) :: (1, 0, 0, []) :: (2, 0, 8, []) :: (4, 48, 97, [3]) :: (7, 53, 0, []) :: []
def k100_0 : List AE := (0, 3, 0, []) :: (1, 0, 0, []) :: (2, 0, 5, []) :: (3, 48, 97, [3]) :: (6, 53, 0, []) :: []
def k101_0 : List AE := (0, 3, 0, []) :: (1, 0, 0, []) :: (2, 0, 3, []) :: (3, 48, 97, [3]) :: (6, 53, 0, []) :: []
def k102_0 : List AE := (0, 3, 0, []) :: (1, 0, 0, []) :: (2, 0, 3, []) :: (3, 48, 97, [3]) :: (6, 53, 0, []) :: []
def k103_0 : List AE := (0, 3, 0, []) :: (1, 0, 0, []) :: (2, 0, 3, []) :: (3, 48, 97, [3]) :: (6, 53, 0, []) :: []
def k104_28 : List AE := (28, 53, 0, []) :: []
def k104_27 : List AE := (27, 0, 0, []) :: k104_28
def k104_0 : List AE := (0, 3, 1, []) :: (1, 0, 0, []) :: (2, 5, 0, []) :: (3, 39, 6, [8]) :: (6, 0, 1, []) :: (7, 11, 0, []) :: (8, 48, 97, [3]) :: (11, 60, 27, []) :: (14, 3, 2, []) :: (15, 0, 0, []) :: (16, 0, 2, []) :: (17, 48, 97, [3]) :: (20, 60, 27, []) :: (23, 0, 1, []) :: (24, 36, 28, []) :: k104_27
def k105_0 : List AE := (0, 5, 0, []) :: (1, 39, 6, [1]) :: (4, 5, 0, []) :: (5, 39, 6, [0]) :: (8, 49, 43, [1, 5]) :: (11, 5, 0, []) :: (12, 39, 6, [4]) :: (15, 5, 0, []) :: (16, 39, 6, [1]) :: (19, 0, 120, []) :: (21, 49, 21, [2, 3]) :: (24, 54, 0, []) :: []
def k106_62 : List AE := (62, 53, 0, []) :: []
def k106_61 : List AE := (61, 0, 0, []) :: k106_62
def k106_0 : List AE := (0, 5, 0, []) :: (1, 39, 6, [1]) :: (4, 5, 0, []) :: (5, 39, 6, [0]) :: (8, 49, 43, [1, 5]) :: (11, 5, 0, []) :: (12, 39, 6, [1]) :: (15, 3, 2, []) :: (16, 5, 0, []) :: (17, 39, 6, [0]) :: (20, 39, 5, [4]) :: (23, 3, 2, []) :: (24, 41, 0, []) :: (25, 3, 3, []) :: (26, 49, 45, [3, 5]) :: (29, 5, 0, []) :: (30, 39, 6, [4]) :: (33, 5, 0, []) :: (34, 39, 6, [1]) :: (37, 3, 1, []) :: (38, 0, 1, []) :: (39, 10, 0, []) :: (40, 49, 21, [2, 3]) :: (43, 5, 0, []) :: (44, 39, 6, [1]) :: (47, 39, 5, [7]) :: (50, 3, 2, []) :: (51, 41, 0, []) :: (52, 0, (-9), []) :: (54, 70, 61, []) :: (57, 0, 1, []) :: (58, 36, 62, []) :: k106_61
def k107_0 : List AE := (0, 5, 0, []) :: (1, 39, 6, [1]) :: (4, 5, 0, []) :: (5, 39, 6, [0]) :: (8, 49, 43, [1, 5]) :: (11, 5, 0, []) :: (12, 39, 6, [1]) :: (15, 3, 1, []) :: (16, 5, 0, []) :: (17, 39, 6, [0]) :: (20, 39, 5, [4]) :: (23, 3, 2, []) :: (24, 41, 0, []) :: (25, 5, 0, []) :: (26, 39, 6, [0]) :: (29, 39, 5, [5]) :: (32, 3, 1, []) :: (33, 41, 0, []) :: (34, 49, 45, [3, 5]) :: (37, 5, 0, []) :: (38, 39, 6, [1]) :: (41, 3, 2, []) :: (42, 5, 0, []) :: (43, 39, 6, [0]) :: (46, 39, 5, [4]) :: (49, 3, 1, []) :: (50, 41, 0, []) :: (51, 5, 0, []) :: (52, 39, 6, [0]) :: (55, 39, 5, [5]) :: (58, 3, 2, []) :: (59, 41, 0, []) :: (60, 49, 45, [3, 5]) :: (63, 5, 0, []) :: (64, 39, 6, [4]) :: (67, 5, 0, []) :: (68, 39, 6, [1]) :: (71, 3, 3, []) :: (72, 49, 21, [2, 3]) :: (75, 5, 0, []) :: (76, 39, 6, [1]) :: (79, 49, 52, [0, 5]) :: (82, 52, 0, []) :: []
def k108_136 : List AE := (136, 3, 2, []) :: (137, 52, 0, []) :: []
def k108_128 : List AE := (128, 10, 0, []) :: (129, 6, 2, []) :: (130, 9, 3, [1]) :: (133, 36, 65, []) :: k108_136
def k108_109 : List AE := (109, 5, 0, []) :: (110, 39, 6, [1]) :: (113, 39, 5, [7]) :: (116, 3, 3, []) :: (117, 41, 0, []) :: (118, 5, 0, []) :: (119, 39, 6, [1]) :: (122, 39, 5, [5]) :: (125, 3, 3, []) :: (126, 41, 0, []) :: (127, 11, 0, []) :: k108_128
def k108_95 : List AE := (95, 6, 4, []) :: (97, 3, 2, []) :: (98, 3, 4, []) :: (100, 60, 109, []) :: (103, 0, 200, []) :: (106, 36, 128, []) :: k108_109
def k108_94 : List AE := (94, 0, 0, []) :: k108_95
def k108_65 : List AE := (65, 3, 3, []) :: (66, 5, 0, []) :: (67, 39, 6, [1]) :: (70, 39, 5, [0]) :: (73, 73, 136, []) :: (76, 5, 0, []) :: (77, 39, 6, [1]) :: (80, 39, 5, [7]) :: (83, 3, 3, []) :: (84, 41, 0, []) :: (85, 0, (-9), []) :: (87, 71, 94, []) :: (90, 0, 1, []) :: (91, 36, 95, []) :: k108_94
def k108_48 : List AE := (48, 5, 0, []) :: (49, 39, 6, [4]) :: (52, 5, 0, []) :: (53, 39, 6, [1]) :: (56, 0, 120, []) :: (58, 49, 21, [2, 3]) :: (61, 0, 0, []) :: (62, 6, 2, []) :: (63, 0, 0, []) :: (64, 6, 3, []) :: k108_65
def k108_13 : List AE := (13, 3, 2, []) :: (14, 5, 0, []) :: (15, 39, 6, [1]) :: (18, 39, 5, [0]) :: (21, 73, 48, []) :: (24, 5, 0, []) :: (25, 39, 6, [1]) :: (28, 3, 2, []) :: (29, 3, 1, []) :: (30, 5, 0, []) :: (31, 39, 6, [0]) :: (34, 39, 5, [5]) :: (37, 3, 2, []) :: (38, 41, 0, []) :: (39, 49, 45, [3, 5]) :: (42, 9, 2, [1]) :: (45, 36, 13, []) :: k108_48
def k108_0 : List AE := (0, 5, 0, []) :: (1, 39, 6, [1]) :: (4, 5, 0, []) :: (5, 39, 6, [0]) :: (8, 49, 43, [1, 5]) :: (11, 0, 0, []) :: (12, 6, 2, []) :: k108_13
def k109_0 : List AE := (0, 5, 1, []) :: (1, 0, 0, []) :: (2, 5, 0, []) :: (3, 39, 6, [1]) :: (6, 39, 5, [13]) :: (9, 42, 0, []) :: (10, 5, 0, []) :: (11, 39, 6, [4]) :: (14, 5, 0, []) :: (15, 39, 6, [1]) :: (18, 49, 22, [1, 3]) :: (21, 5, 1, []) :: (22, 0, 1, []) :: (23, 5, 0, []) :: (24, 39, 6, [1]) :: (27, 49, 49, [0, 5]) :: (30, 42, 0, []) :: (31, 5, 1, []) :: (32, 0, 2, []) :: (33, 5, 0, []) :: (34, 39, 6, [1]) :: (37, 49, 50, [0, 5]) :: (40, 42, 0, []) :: (41, 54, 0, []) :: []
def k110_27 : List AE := (27, 0, 1, []) :: (28, 53, 0, []) :: []
def k110_21 : List AE := (21, 9, 2, [1]) :: (24, 36, 2, []) :: k110_27
def k110_2 : List AE := (2, 3, 2, []) :: (3, 0, 3, []) :: (4, 73, 27, []) :: (7, 5, 1, []) :: (8, 3, 2, []) :: (9, 41, 0, []) :: (10, 5, 0, []) :: (11, 39, 6, [7]) :: (14, 3, 2, []) :: (15, 41, 0, []) :: (16, 70, 21, []) :: (19, 0, 0, []) :: (20, 53, 0, []) :: k110_21
def k110_0 : List AE := (0, 0, 0, []) :: (1, 6, 2, []) :: k110_2
def k111_49 : List AE := (49, 52, 0, []) :: []
def k111_47 : List AE := (47, 0, (-3), []) :: k111_49
def k111_22 : List AE := (22, 5, 0, []) :: (23, 39, 6, [10]) :: (26, 3, 1, []) :: (27, 47, 0, []) :: (28, 39, 2, [1]) :: (31, 6, 2, []) :: (32, 5, 0, []) :: (33, 39, 6, [0]) :: (36, 3, 2, []) :: (37, 49, 41, [1, 5]) :: (40, 60, 47, []) :: (43, 3, 2, []) :: (44, 36, 49, []) :: k111_47
def k111_19 : List AE := (19, 0, (-3), []) :: (21, 52, 0, []) :: k111_22
def k111_0 : List AE := (0, 3, 1, []) :: (1, 48, 102, [1]) :: (4, 60, 19, []) :: (7, 5, 0, []) :: (8, 39, 6, [10]) :: (11, 3, 1, []) :: (12, 47, 0, []) :: (13, 39, 2, [0]) :: (16, 60, 22, []) :: k111_19
def k112_15 : List AE := (15, 53, 0, []) :: []
def k112_14 : List AE := (14, 0, 0, []) :: k112_15
def k112_0 : List AE := (0, 3, 0, []) :: (1, 3, 1, []) :: (2, 72, 14, []) :: (5, 3, 0, []) :: (6, 3, 2, []) :: (7, 74, 14, []) :: (10, 0, 1, []) :: (11, 36, 15, []) :: k112_14
def k113_0 : List AE := (0, 3, 1, []) :: (1, 0, 0, []) :: (2, 5, 0, []) :: (3, 39, 7, [5]) :: (6, 0, 1, []) :: (7, 11, 0, []) :: (8, 48, 112, [3]) :: (11, 53, 0, []) :: []
def k114_0 : List AE := (0, 3, 0, []) :: (1, 0, 0, []) :: (2, 0, 9, []) :: (4, 48, 112, [3]) :: (7, 53, 0, []) :: []
def k115_0 : List AE := (0, 3, 0, []) :: (1, 0, 0, []) :: (2, 0, 8, []) :: (4, 48, 112, [3]) :: (7, 53, 0, []) :: []
def k116_0 : List AE := (0, 3, 0, []) :: (1, 0, 0, []) :: (2, 0, 99, []) :: (4, 48, 112, [3]) :: (7, 53, 0, []) :: []
def k117_0 : List AE := (0, 3, 0, []) :: (1, 0, 0, []) :: (2, 0, 119, []) :: (4, 48, 112, [3]) :: (7, 53, 0, []) :: []
def k118_24 : List AE := (24, 53, 0, []) :: []
def k118_23 : List AE := (23, 0, 0, []) :: k118_24
def k118_0 : List AE := (0, 3, 0, []) :: (1, 0, 0, []) :: (2, 0, 5, []) :: (3, 48, 112, [3]) :: (6, 60, 23, []) :: (9, 3, 1, []) :: (10, 0, 0, []) :: (11, 0, 9, []) :: (13, 48, 112, [3]) :: (16, 60, 23, []) :: (19, 0, 1, []) :: (20, 36, 24, []) :: k118_23
def k119_0 : List AE := (0, 5, 0, []) :: (1, 39, 7, [8]) :: (4, 5, 0, []) :: (5, 39, 7, [9]) :: (8, 3, 1, []) :: (9, 10, 0, []) :: (10, 41, 0, []) :: (11, 52, 0, []) :: []
def k120_0 : List AE := (0, 5, 0, []) :: (1, 39, 7, [8]) :: (4, 5, 0, []) :: (5, 39, 7, [9]) :: (8, 3, 1, []) :: (9, 10, 0, []) :: (10, 3, 2, []) :: (11, 42, 0, []) :: (12, 54, 0, []) :: []
def k121_73 : List AE := (73, 5, 0, []) :: (74, 39, 7, [12]) :: (77, 52, 0, []) :: []
def k121_30 : List AE := (30, 3, 4, []) :: (32, 3, 3, []) :: (33, 73, 73, []) :: (36, 5, 0, []) :: (37, 39, 7, [11]) :: (40, 5, 0, []) :: (41, 39, 7, [12]) :: (44, 4, 1, []) :: (45, 0, 8, []) :: (47, 3, 4, []) :: (49, 12, 0, []) :: (50, 25, 0, []) :: (51, 1, 255, []) :: (54, 24, 0, []) :: (55, 29, 0, []) :: (56, 42, 0, []) :: (57, 5, 0, []) :: (58, 32, 0, []) :: (59, 39, 7, [12]) :: (62, 0, 1, []) :: (63, 10, 0, []) :: (64, 40, 7, [12]) :: (67, 9, 4, [1]) :: (70, 36, 30, []) :: k121_73
def k121_27 : List AE := (27, 0, 0, []) :: (28, 6, 4, []) :: k121_30
def k121_12 : List AE := (12, 5, 0, []) :: (13, 39, 7, [12]) :: (16, 3, 3, []) :: (17, 10, 0, []) :: (18, 0, 240, []) :: (21, 75, 27, []) :: (24, 0, (-2), []) :: (26, 52, 0, []) :: k121_27
def k121_0 : List AE := (0, 3, 3, []) :: (1, 0, 1, []) :: (2, 0, 8, []) :: (4, 48, 112, [3]) :: (7, 61, 12, []) :: (10, 0, (-1), []) :: (11, 52, 0, []) :: k121_12
def k122_18 : List AE := (18, 52, 0, []) :: []
def k122_17 : List AE := (17, 0, (-1), []) :: k122_18
def k122_0 : List AE := (0, 3, 1, []) :: (1, 5, 0, []) :: (2, 39, 7, [12]) :: (5, 73, 17, []) :: (8, 5, 0, []) :: (9, 39, 7, [11]) :: (12, 3, 1, []) :: (13, 41, 0, []) :: (14, 36, 18, []) :: k122_17
def k123_0 : List AE := (0, 3, 0, []) :: (1, 0, 97, []) :: (3, 0, 122, []) :: (5, 48, 112, [3]) :: (8, 53, 0, []) :: []
def k124_0 : List AE := (0, 3, 0, []) :: (1, 0, 48, []) :: (3, 0, 57, []) :: (5, 48, 112, [3]) :: (8, 53, 0, []) :: []
def k125_282 : List AE := (282, 54, 0, []) :: []
def k125_266 : List AE := (266, 40, 7, [17]) :: (269, 5, 0, []) :: (270, 32, 0, []) :: (271, 39, 7, [15]) :: (274, 0, 1, []) :: (275, 10, 0, []) :: (276, 40, 7, [15]) :: (279, 36, 207, []) :: k125_282
def k125_265 : List AE := (265, 0, (-1), []) :: k125_266
def k125_207 : List AE := (207, 5, 0, []) :: (208, 39, 7, [13]) :: (211, 0, 2, []) :: (212, 71, 282, []) :: (215, 5, 0, []) :: (216, 5, 0, []) :: (217, 39, 7, [15]) :: (220, 49, 122, [1, 7]) :: (223, 48, 124, [1]) :: (226, 60, 282, []) :: (229, 5, 0, []) :: (230, 5, 0, []) :: (231, 39, 7, [15]) :: (234, 5, 0, []) :: (235, 39, 7, [14]) :: (238, 11, 0, []) :: (239, 0, 2, []) :: (240, 73, 265, []) :: (243, 0, 10, []) :: (245, 5, 0, []) :: (246, 39, 7, [17]) :: (249, 12, 0, []) :: (250, 5, 0, []) :: (251, 5, 0, []) :: (252, 39, 7, [15]) :: (255, 49, 122, [1, 7]) :: (258, 10, 0, []) :: (259, 0, 48, []) :: (261, 11, 0, []) :: (262, 36, 266, []) :: k125_265
def k125_191 : List AE := (191, 40, 7, [16]) :: (194, 5, 0, []) :: (195, 32, 0, []) :: (196, 39, 7, [15]) :: (199, 0, 1, []) :: (200, 10, 0, []) :: (201, 40, 7, [15]) :: (204, 36, 126, []) :: k125_207
def k125_188 : List AE := (188, 1, (-1), []) :: k125_191
def k125_126 : List AE := (126, 5, 0, []) :: (127, 39, 7, [13]) :: (130, 0, 1, []) :: (131, 71, 207, []) :: (134, 5, 0, []) :: (135, 5, 0, []) :: (136, 39, 7, [15]) :: (139, 49, 122, [1, 7]) :: (142, 48, 123, [1]) :: (145, 60, 207, []) :: (148, 5, 0, []) :: (149, 5, 0, []) :: (150, 39, 7, [15]) :: (153, 5, 0, []) :: (154, 39, 7, [14]) :: (157, 11, 0, []) :: (158, 0, 8, []) :: (160, 73, 188, []) :: (163, 1, 27, []) :: (166, 5, 0, []) :: (167, 39, 7, [16]) :: (170, 23, 0, []) :: (171, 5, 0, []) :: (172, 5, 0, []) :: (173, 39, 7, [15]) :: (176, 49, 122, [1, 7]) :: (179, 28, 0, []) :: (180, 21, 0, []) :: (181, 1, 96, []) :: (184, 22, 0, []) :: (185, 36, 191, []) :: k125_188
def k125_105 : List AE := (105, 40, 7, [17]) :: (108, 5, 0, []) :: (109, 39, 7, [13]) :: (112, 0, 3, []) :: (113, 71, 126, []) :: (116, 5, 0, []) :: (117, 32, 0, []) :: (118, 39, 7, [15]) :: (121, 0, 1, []) :: (122, 10, 0, []) :: (123, 40, 7, [15]) :: k125_126
def k125_104 : List AE := (104, 3, 1, []) :: k125_105
def k125_83 : List AE := (83, 40, 7, [13]) :: (86, 5, 0, []) :: (87, 1, 0, []) :: (88, 40, 7, [16]) :: (91, 5, 0, []) :: (92, 5, 0, []) :: (93, 39, 7, [13]) :: (96, 0, 2, []) :: (97, 71, 104, []) :: (100, 0, 0, []) :: (101, 36, 105, []) :: k125_104
def k125_82 : List AE := (82, 0, 3, []) :: k125_83
def k125_71 : List AE := (71, 3, 1, []) :: (72, 48, 124, [1]) :: (75, 60, 82, []) :: (78, 0, 2, []) :: (79, 36, 83, []) :: k125_82
def k125_60 : List AE := (60, 3, 1, []) :: (61, 48, 123, [1]) :: (64, 60, 71, []) :: (67, 0, 1, []) :: (68, 36, 83, []) :: k125_71
def k125_34 : List AE := (34, 5, 0, []) :: (35, 5, 0, []) :: (36, 39, 7, [14]) :: (39, 40, 7, [15]) :: (42, 5, 0, []) :: (43, 5, 0, []) :: (44, 39, 7, [14]) :: (47, 49, 122, [1, 7]) :: (50, 6, 1, []) :: (51, 5, 0, []) :: (52, 3, 1, []) :: (53, 63, 60, []) :: (56, 0, 0, []) :: (57, 36, 83, []) :: k125_60
def k125_8 : List AE := (8, 5, 0, []) :: (9, 5, 0, []) :: (10, 39, 7, [14]) :: (13, 49, 122, [1, 7]) :: (16, 0, 32, []) :: (18, 71, 34, []) :: (21, 5, 0, []) :: (22, 32, 0, []) :: (23, 39, 7, [14]) :: (26, 0, 1, []) :: (27, 10, 0, []) :: (28, 40, 7, [14]) :: (31, 36, 8, []) :: k125_34
def k125_0 : List AE := (0, 5, 0, []) :: (1, 5, 0, []) :: (2, 39, 7, [15]) :: (5, 40, 7, [14]) :: k125_8
def k126_22 : List AE := (22, 53, 0, []) :: []
def k126_21 : List AE := (21, 0, 0, []) :: k126_22
def k126_0 : List AE := (0, 5, 0, []) :: (1, 39, 7, [13]) :: (4, 0, 1, []) :: (5, 71, 21, []) :: (8, 5, 0, []) :: (9, 39, 7, [16]) :: (12, 4, 1, []) :: (13, 27, 0, []) :: (14, 61, 21, []) :: (17, 0, 1, []) :: (18, 36, 22, []) :: k126_21
def k127_21 : List AE := (21, 53, 0, []) :: []
def k127_20 : List AE := (20, 0, 0, []) :: k127_21
def k127_0 : List AE := (0, 5, 0, []) :: (1, 39, 7, [13]) :: (4, 0, 3, []) :: (5, 71, 20, []) :: (8, 5, 0, []) :: (9, 39, 7, [17]) :: (12, 3, 1, []) :: (13, 71, 20, []) :: (16, 0, 1, []) :: (17, 36, 21, []) :: k127_20
def k128_85 : List AE := (85, 52, 0, []) :: []
def k128_84 : List AE := (84, 0, (-1), []) :: k128_85
def k128_70 : List AE := (70, 5, 0, []) :: (71, 1, 1888, []) :: (74, 49, 126, [1, 7]) :: (77, 60, 84, []) :: (80, 0, 5, []) :: (81, 36, 85, []) :: k128_84
def k128_56 : List AE := (56, 5, 0, []) :: (57, 1, 237923154, []) :: (60, 49, 126, [1, 7]) :: (63, 60, 70, []) :: (66, 0, 4, []) :: (67, 36, 85, []) :: k128_70
def k128_42 : List AE := (42, 5, 0, []) :: (43, 1, 1758489, []) :: (46, 49, 126, [1, 7]) :: (49, 60, 56, []) :: (52, 0, 3, []) :: (53, 36, 85, []) :: k128_56
def k128_28 : List AE := (28, 5, 0, []) :: (29, 1, 269726508, []) :: (32, 49, 126, [1, 7]) :: (35, 60, 42, []) :: (38, 0, 2, []) :: (39, 36, 85, []) :: k128_42
def k128_14 : List AE := (14, 5, 0, []) :: (15, 1, 177237549, []) :: (18, 49, 126, [1, 7]) :: (21, 60, 28, []) :: (24, 0, 1, []) :: (25, 36, 85, []) :: k128_28
def k128_0 : List AE := (0, 5, 0, []) :: (1, 1, 1834661, []) :: (4, 49, 126, [1, 7]) :: (7, 60, 14, []) :: (10, 0, 0, []) :: (11, 36, 85, []) :: k128_14
def k129_49 : List AE := (49, 3, 3, []) :: (50, 52, 0, []) :: []
def k129_35 : List AE := (35, 40, 7, [18]) :: (38, 5, 0, []) :: (39, 39, 7, [18]) :: (42, 60, 49, []) :: (45, 5, 0, []) :: (46, 49, 125, [0, 7]) :: k129_49
def k129_34 : List AE := (34, 0, 0, []) :: k129_35
def k129_0 : List AE := (0, 5, 0, []) :: (1, 39, 7, [17]) :: (4, 6, 3, []) :: (5, 5, 0, []) :: (6, 5, 0, []) :: (7, 39, 7, [18]) :: (10, 60, 34, []) :: (13, 5, 0, []) :: (14, 39, 7, [13]) :: (17, 0, 2, []) :: (18, 71, 34, []) :: (21, 3, 3, []) :: (22, 3, 1, []) :: (23, 3, 2, []) :: (24, 48, 112, [3]) :: (27, 60, 34, []) :: (30, 0, 1, []) :: (31, 36, 35, []) :: k129_34
def k130_35 : List AE := (35, 54, 0, []) :: []
def k130_21 : List AE := (21, 40, 7, [18]) :: (24, 5, 0, []) :: (25, 39, 7, [18]) :: (28, 60, 35, []) :: (31, 5, 0, []) :: (32, 49, 125, [0, 7]) :: k130_35
def k130_20 : List AE := (20, 0, 0, []) :: k130_21
def k130_0 : List AE := (0, 5, 0, []) :: (1, 5, 0, []) :: (2, 39, 7, [18]) :: (5, 60, 20, []) :: (8, 5, 0, []) :: (9, 4, 1, []) :: (10, 49, 126, [1, 7]) :: (13, 60, 20, []) :: (16, 0, 1, []) :: (17, 36, 21, []) :: k130_20
def k131_36 : List AE := (36, 54, 0, []) :: []
def k131_22 : List AE := (22, 40, 7, [18]) :: (25, 5, 0, []) :: (26, 39, 7, [18]) :: (29, 60, 36, []) :: (32, 5, 0, []) :: (33, 49, 125, [0, 7]) :: k131_36
def k131_21 : List AE := (21, 0, 0, []) :: k131_22
def k131_0 : List AE := (0, 5, 0, []) :: (1, 5, 0, []) :: (2, 39, 7, [18]) :: (5, 60, 21, []) :: (8, 5, 0, []) :: (9, 0, 59, []) :: (11, 49, 127, [1, 7]) :: (14, 60, 21, []) :: (17, 0, 1, []) :: (18, 36, 22, []) :: k131_21
def k132_174 : List AE := (174, 54, 0, []) :: []
def k132_101 : List AE := (101, 5, 0, []) :: (102, 49, 131, [0, 7]) :: (105, 5, 0, []) :: (106, 39, 7, [18]) :: (109, 60, 174, []) :: (112, 5, 0, []) :: (113, 39, 7, [22]) :: (116, 5, 0, []) :: (117, 39, 7, [19]) :: (120, 3, 1, []) :: (121, 42, 0, []) :: (122, 5, 0, []) :: (123, 39, 7, [23]) :: (126, 5, 0, []) :: (127, 39, 7, [19]) :: (130, 3, 2, []) :: (131, 42, 0, []) :: (132, 5, 0, []) :: (133, 39, 7, [24]) :: (136, 5, 0, []) :: (137, 39, 7, [19]) :: (140, 3, 3, []) :: (141, 42, 0, []) :: (142, 5, 0, []) :: (143, 39, 7, [25]) :: (146, 5, 0, []) :: (147, 39, 7, [19]) :: (150, 3, 4, []) :: (152, 42, 0, []) :: (153, 5, 0, []) :: (154, 39, 7, [26]) :: (157, 5, 0, []) :: (158, 39, 7, [19]) :: (161, 3, 5, []) :: (163, 42, 0, []) :: (164, 5, 0, []) :: (165, 32, 0, []) :: (166, 39, 7, [19]) :: (169, 0, 1, []) :: (170, 10, 0, []) :: (171, 40, 7, [19]) :: k132_174
def k132_29 : List AE := (29, 5, 0, []) :: (30, 0, 0, []) :: (31, 0, 9, []) :: (33, 49, 129, [2, 7]) :: (36, 6, 2, []) :: (37, 5, 0, []) :: (38, 1, 131638, []) :: (41, 49, 130, [1, 7]) :: (44, 5, 0, []) :: (45, 0, 0, []) :: (46, 0, 9, []) :: (48, 49, 129, [2, 7]) :: (51, 6, 3, []) :: (52, 5, 0, []) :: (53, 1, 555, []) :: (56, 49, 130, [1, 7]) :: (59, 5, 0, []) :: (60, 0, 0, []) :: (61, 0, 9, []) :: (63, 49, 129, [2, 7]) :: (66, 6, 4, []) :: (68, 0, 0, []) :: (69, 6, 5, []) :: (71, 5, 0, []) :: (72, 39, 7, [18]) :: (75, 60, 101, []) :: (78, 5, 0, []) :: (79, 1, 47, []) :: (82, 49, 126, [1, 7]) :: (85, 60, 101, []) :: (88, 5, 0, []) :: (89, 49, 125, [0, 7]) :: (92, 5, 0, []) :: (93, 0, 0, []) :: (94, 0, 99, []) :: (96, 49, 129, [2, 7]) :: (99, 6, 5, []) :: k132_101
def k132_15 : List AE := (15, 40, 7, [18]) :: (18, 5, 0, []) :: (19, 39, 7, [18]) :: (22, 60, 29, []) :: (25, 5, 0, []) :: (26, 49, 125, [0, 7]) :: k132_29
def k132_14 : List AE := (14, 0, 0, []) :: k132_15
def k132_0 : List AE := (0, 5, 0, []) :: (1, 5, 0, []) :: (2, 39, 7, [19]) :: (5, 0, 8, []) :: (7, 73, 14, []) :: (10, 0, 1, []) :: (11, 36, 15, []) :: k132_14
def k133_117 : List AE := (117, 54, 0, []) :: []
def k133_28 : List AE := (28, 5, 0, []) :: (29, 0, 0, []) :: (30, 0, 8, []) :: (32, 49, 129, [2, 7]) :: (35, 6, 1, []) :: (36, 5, 0, []) :: (37, 1, 47, []) :: (40, 49, 130, [1, 7]) :: (43, 5, 0, []) :: (44, 0, 0, []) :: (45, 0, 99, []) :: (47, 49, 129, [2, 7]) :: (50, 6, 2, []) :: (51, 5, 0, []) :: (52, 1, 4797, []) :: (55, 49, 130, [1, 7]) :: (58, 5, 0, []) :: (59, 0, 1, []) :: (60, 0, 30, []) :: (62, 49, 129, [2, 7]) :: (65, 6, 3, []) :: (66, 5, 0, []) :: (67, 49, 131, [0, 7]) :: (70, 5, 0, []) :: (71, 39, 7, [18]) :: (74, 60, 117, []) :: (77, 5, 0, []) :: (78, 39, 7, [27]) :: (81, 5, 0, []) :: (82, 39, 7, [20]) :: (85, 3, 1, []) :: (86, 42, 0, []) :: (87, 5, 0, []) :: (88, 39, 7, [28]) :: (91, 5, 0, []) :: (92, 39, 7, [20]) :: (95, 3, 2, []) :: (96, 42, 0, []) :: (97, 5, 0, []) :: (98, 39, 7, [29]) :: (101, 5, 0, []) :: (102, 39, 7, [20]) :: (105, 3, 3, []) :: (106, 42, 0, []) :: (107, 5, 0, []) :: (108, 32, 0, []) :: (109, 39, 7, [20]) :: (112, 0, 1, []) :: (113, 10, 0, []) :: (114, 40, 7, [20]) :: k133_117
def k133_14 : List AE := (14, 40, 7, [18]) :: (17, 5, 0, []) :: (18, 39, 7, [18]) :: (21, 60, 28, []) :: (24, 5, 0, []) :: (25, 49, 125, [0, 7]) :: k133_28
def k133_13 : List AE := (13, 0, 0, []) :: k133_14
def k133_0 : List AE := (0, 5, 0, []) :: (1, 5, 0, []) :: (2, 39, 7, [20]) :: (5, 0, 4, []) :: (6, 73, 13, []) :: (9, 0, 1, []) :: (10, 36, 14, []) :: k133_13
def k134_72 : List AE := (72, 54, 0, []) :: []
def k134_67 : List AE := (67, 5, 0, []) :: (68, 0, 0, []) :: (69, 40, 7, [18]) :: k134_72
def k134_35 : List AE := (35, 5, 0, []) :: (36, 1, 365647, []) :: (39, 49, 126, [1, 7]) :: (42, 60, 67, []) :: (45, 5, 0, []) :: (46, 49, 125, [0, 7]) :: (49, 5, 0, []) :: (50, 5, 0, []) :: (51, 0, 1, []) :: (52, 0, 9, []) :: (54, 49, 129, [2, 7]) :: (57, 40, 7, [21]) :: (60, 5, 0, []) :: (61, 49, 131, [0, 7]) :: (64, 36, 72, []) :: k134_67
def k134_18 : List AE := (18, 5, 0, []) :: (19, 1, 5879, []) :: (22, 49, 126, [1, 7]) :: (25, 60, 35, []) :: (28, 5, 0, []) :: (29, 49, 133, [0, 7]) :: (32, 36, 72, []) :: k134_35
def k134_0 : List AE := (0, 5, 0, []) :: (1, 49, 128, [0, 7]) :: (4, 62, 18, []) :: (7, 5, 0, []) :: (8, 5, 0, []) :: (9, 49, 128, [0, 7]) :: (12, 49, 132, [1, 7]) :: (15, 36, 72, []) :: k134_18
def k135_70 : List AE := (70, 5, 0, []) :: (71, 49, 136, [0, 7]) :: (74, 5, 0, []) :: (75, 0, 0, []) :: (76, 40, 7, [35]) :: (79, 5, 0, []) :: (80, 39, 7, [5]) :: (83, 52, 0, []) :: []
def k135_50 : List AE := (50, 5, 0, []) :: (51, 0, 0, []) :: (52, 40, 7, [12]) :: (55, 5, 0, []) :: (56, 39, 7, [18]) :: (59, 61, 70, []) :: (62, 0, (-100), []) :: (64, 5, 0, []) :: (65, 39, 7, [14]) :: (68, 11, 0, []) :: (69, 52, 0, []) :: k135_70
def k135_29 : List AE := (29, 5, 0, []) :: (30, 39, 7, [18]) :: (33, 60, 50, []) :: (36, 5, 0, []) :: (37, 39, 7, [13]) :: (40, 60, 50, []) :: (43, 5, 0, []) :: (44, 49, 134, [0, 7]) :: (47, 36, 29, []) :: k135_50
def k135_0 : List AE := (0, 5, 0, []) :: (1, 0, 0, []) :: (2, 40, 7, [15]) :: (5, 5, 0, []) :: (6, 0, 1, []) :: (7, 40, 7, [18]) :: (10, 5, 0, []) :: (11, 0, 0, []) :: (12, 40, 7, [19]) :: (15, 5, 0, []) :: (16, 0, 0, []) :: (17, 40, 7, [20]) :: (20, 5, 0, []) :: (21, 0, 2, []) :: (22, 40, 7, [21]) :: (25, 5, 0, []) :: (26, 49, 125, [0, 7]) :: k135_29
def k136_182 : List AE := (182, 54, 0, []) :: []
def k136_82 : List AE := (82, 3, 1, []) :: (83, 0, 8, []) :: (85, 73, 182, []) :: (88, 5, 0, []) :: (89, 39, 7, [6]) :: (92, 3, 1, []) :: (93, 5, 0, []) :: (94, 39, 7, [22]) :: (97, 3, 1, []) :: (98, 41, 0, []) :: (99, 42, 0, []) :: (100, 5, 0, []) :: (101, 39, 7, [7]) :: (104, 3, 1, []) :: (105, 5, 0, []) :: (106, 39, 7, [23]) :: (109, 3, 1, []) :: (110, 41, 0, []) :: (111, 42, 0, []) :: (112, 5, 0, []) :: (113, 39, 7, [8]) :: (116, 0, 1, []) :: (117, 3, 1, []) :: (118, 10, 0, []) :: (119, 5, 0, []) :: (120, 39, 7, [24]) :: (123, 3, 1, []) :: (124, 41, 0, []) :: (125, 42, 0, []) :: (126, 5, 0, []) :: (127, 39, 7, [8]) :: (130, 0, 9, []) :: (132, 3, 1, []) :: (133, 10, 0, []) :: (134, 5, 0, []) :: (135, 39, 7, [25]) :: (138, 3, 1, []) :: (139, 41, 0, []) :: (140, 42, 0, []) :: (141, 5, 0, []) :: (142, 39, 7, [8]) :: (145, 0, 17, []) :: (147, 3, 1, []) :: (148, 10, 0, []) :: (149, 5, 0, []) :: (150, 39, 7, [26]) :: (153, 3, 1, []) :: (154, 41, 0, []) :: (155, 42, 0, []) :: (156, 5, 0, []) :: (157, 39, 7, [8]) :: (160, 0, 25, []) :: (162, 3, 1, []) :: (163, 10, 0, []) :: (164, 0, 0, []) :: (165, 42, 0, []) :: (166, 5, 0, []) :: (167, 39, 7, [8]) :: (170, 0, 33, []) :: (172, 3, 1, []) :: (173, 10, 0, []) :: (174, 0, (-1), []) :: (175, 42, 0, []) :: (176, 9, 1, [1]) :: (179, 36, 82, []) :: k136_182
def k136_65 : List AE := (65, 5, 0, []) :: (66, 5, 0, []) :: (67, 39, 7, [19]) :: (70, 40, 7, [5]) :: (73, 5, 0, []) :: (74, 39, 7, [8]) :: (77, 0, 0, []) :: (78, 0, 0, []) :: (79, 42, 0, []) :: (80, 0, 0, []) :: (81, 6, 1, []) :: k136_82
def k136_18 : List AE := (18, 3, 1, []) :: (19, 0, 4, []) :: (20, 73, 65, []) :: (23, 5, 0, []) :: (24, 39, 7, [2]) :: (27, 3, 1, []) :: (28, 5, 0, []) :: (29, 39, 7, [27]) :: (32, 3, 1, []) :: (33, 41, 0, []) :: (34, 42, 0, []) :: (35, 5, 0, []) :: (36, 39, 7, [3]) :: (39, 3, 1, []) :: (40, 5, 0, []) :: (41, 39, 7, [28]) :: (44, 3, 1, []) :: (45, 41, 0, []) :: (46, 42, 0, []) :: (47, 5, 0, []) :: (48, 39, 7, [4]) :: (51, 3, 1, []) :: (52, 5, 0, []) :: (53, 39, 7, [29]) :: (56, 3, 1, []) :: (57, 41, 0, []) :: (58, 42, 0, []) :: (59, 9, 1, [1]) :: (62, 36, 18, []) :: k136_65
def k136_0 : List AE := (0, 5, 0, []) :: (1, 5, 0, []) :: (2, 39, 7, [21]) :: (5, 40, 7, [0]) :: (8, 5, 0, []) :: (9, 5, 0, []) :: (10, 39, 7, [20]) :: (13, 40, 7, [1]) :: (16, 0, 0, []) :: (17, 6, 1, []) :: k136_18
def k137_12 : List AE := (12, 5, 0, []) :: (13, 39, 7, [0]) :: (16, 6, 2, []) :: (17, 5, 0, []) :: (18, 3, 1, []) :: (19, 40, 7, [0]) :: (22, 3, 2, []) :: (23, 52, 0, []) :: []
def k137_0 : List AE := (0, 3, 1, []) :: (1, 0, 1, []) :: (2, 0, 9, []) :: (4, 48, 112, [3]) :: (7, 61, 12, []) :: (10, 0, (-1), []) :: (11, 52, 0, []) :: k137_12
def k138_0 : List AE := (0, 5, 0, []) :: (1, 39, 7, [2]) :: (4, 5, 0, []) :: (5, 39, 7, [1]) :: (8, 3, 1, []) :: (9, 42, 0, []) :: (10, 5, 0, []) :: (11, 39, 7, [3]) :: (14, 5, 0, []) :: (15, 39, 7, [1]) :: (18, 3, 2, []) :: (19, 42, 0, []) :: (20, 5, 0, []) :: (21, 39, 7, [4]) :: (24, 5, 0, []) :: (25, 39, 7, [1]) :: (28, 3, 3, []) :: (29, 42, 0, []) :: (30, 5, 0, []) :: (31, 32, 0, []) :: (32, 39, 7, [1]) :: (35, 0, 1, []) :: (36, 10, 0, []) :: (37, 40, 7, [1]) :: (40, 54, 0, []) :: []
def k139_37 : List AE := (37, 5, 0, []) :: (38, 3, 1, []) :: (39, 3, 2, []) :: (40, 3, 3, []) :: (41, 49, 138, [3, 7]) :: (44, 5, 0, []) :: (45, 39, 7, [1]) :: (48, 52, 0, []) :: []
def k139_26 : List AE := (26, 5, 0, []) :: (27, 39, 7, [1]) :: (30, 0, 4, []) :: (31, 71, 37, []) :: (34, 0, (-2), []) :: (36, 52, 0, []) :: k139_37
def k139_24 : List AE := (24, 0, (-1), []) :: (25, 52, 0, []) :: k139_26
def k139_0 : List AE := (0, 3, 1, []) :: (1, 48, 115, [1]) :: (4, 60, 24, []) :: (7, 3, 2, []) :: (8, 48, 116, [1]) :: (11, 60, 24, []) :: (14, 3, 3, []) :: (15, 0, 1, []) :: (16, 0, 30, []) :: (18, 48, 112, [3]) :: (21, 61, 26, []) :: k139_24
def k140_84 : List AE := (84, 5, 0, []) :: (85, 39, 7, [1]) :: (88, 52, 0, []) :: []
def k140_28 : List AE := (28, 3, 2, []) :: (29, 5, 0, []) :: (30, 39, 7, [1]) :: (33, 73, 84, []) :: (36, 5, 0, []) :: (37, 39, 7, [2]) :: (40, 3, 2, []) :: (41, 5, 0, []) :: (42, 39, 7, [2]) :: (45, 3, 2, []) :: (46, 0, 1, []) :: (47, 10, 0, []) :: (48, 41, 0, []) :: (49, 42, 0, []) :: (50, 5, 0, []) :: (51, 39, 7, [3]) :: (54, 3, 2, []) :: (55, 5, 0, []) :: (56, 39, 7, [3]) :: (59, 3, 2, []) :: (60, 0, 1, []) :: (61, 10, 0, []) :: (62, 41, 0, []) :: (63, 42, 0, []) :: (64, 5, 0, []) :: (65, 39, 7, [4]) :: (68, 3, 2, []) :: (69, 5, 0, []) :: (70, 39, 7, [4]) :: (73, 3, 2, []) :: (74, 0, 1, []) :: (75, 10, 0, []) :: (76, 41, 0, []) :: (77, 42, 0, []) :: (78, 9, 2, [1]) :: (81, 36, 28, []) :: k140_84
def k140_16 : List AE := (16, 5, 0, []) :: (17, 32, 0, []) :: (18, 39, 7, [1]) :: (21, 0, 1, []) :: (22, 11, 0, []) :: (23, 40, 7, [1]) :: (26, 3, 1, []) :: (27, 6, 2, []) :: k140_28
def k140_0 : List AE := (0, 3, 1, []) :: (1, 0, 0, []) :: (2, 5, 0, []) :: (3, 39, 7, [1]) :: (6, 0, 1, []) :: (7, 11, 0, []) :: (8, 48, 112, [3]) :: (11, 61, 16, []) :: (14, 0, (-1), []) :: (15, 52, 0, []) :: k140_16
def k141_72 : List AE := (72, 3, 3, []) :: (73, 53, 0, []) :: []
def k141_65 : List AE := (65, 6, 3, []) :: (66, 9, 4, [1]) :: (69, 36, 5, []) :: k141_72
def k141_64 : List AE := (64, 0, 0, []) :: k141_65
def k141_60 : List AE := (60, 0, 1, []) :: (61, 36, 65, []) :: k141_64
def k141_5 : List AE := (5, 3, 4, []) :: (7, 5, 0, []) :: (8, 39, 7, [1]) :: (11, 73, 72, []) :: (14, 3, 3, []) :: (15, 61, 60, []) :: (18, 5, 0, []) :: (19, 39, 7, [2]) :: (22, 3, 4, []) :: (24, 41, 0, []) :: (25, 3, 1, []) :: (26, 71, 64, []) :: (29, 3, 2, []) :: (30, 5, 0, []) :: (31, 39, 7, [3]) :: (34, 3, 4, []) :: (36, 41, 0, []) :: (37, 5, 0, []) :: (38, 39, 7, [3]) :: (41, 3, 4, []) :: (43, 41, 0, []) :: (44, 5, 0, []) :: (45, 39, 7, [4]) :: (48, 3, 4, []) :: (50, 41, 0, []) :: (51, 10, 0, []) :: (52, 0, 1, []) :: (53, 11, 0, []) :: (54, 48, 112, [3]) :: (57, 60, 64, []) :: k141_60
def k141_0 : List AE := (0, 0, 0, []) :: (1, 6, 3, []) :: (2, 0, 0, []) :: (3, 6, 4, []) :: k141_5
def k142_30 : List AE := (30, 52, 0, []) :: []
def k142_29 : List AE := (29, 0, 0, []) :: k142_30
def k142_16 : List AE := (16, 5, 0, []) :: (17, 3, 1, []) :: (18, 3, 2, []) :: (19, 49, 141, [2, 7]) :: (22, 60, 29, []) :: (25, 0, 1, []) :: (26, 36, 30, []) :: k142_29
def k142_14 : List AE := (14, 0, (-1), []) :: (15, 52, 0, []) :: k142_16
def k142_0 : List AE := (0, 3, 1, []) :: (1, 48, 115, [1]) :: (4, 60, 14, []) :: (7, 3, 2, []) :: (8, 48, 117, [1]) :: (11, 61, 16, []) :: k142_14
def k143_116 : List AE := (116, 42, 0, []) :: (117, 5, 0, []) :: (118, 39, 7, [8]) :: (121, 0, 25, []) :: (123, 5, 0, []) :: (124, 39, 7, [5]) :: (127, 10, 0, []) :: (128, 0, 0, []) :: (129, 42, 0, []) :: (130, 5, 0, []) :: (131, 39, 7, [8]) :: (134, 0, 33, []) :: (136, 5, 0, []) :: (137, 39, 7, [5]) :: (140, 10, 0, []) :: (141, 0, (-1), []) :: (142, 42, 0, []) :: (143, 5, 0, []) :: (144, 32, 0, []) :: (145, 39, 7, [5]) :: (148, 0, 1, []) :: (149, 10, 0, []) :: (150, 40, 7, [5]) :: (153, 5, 0, []) :: (154, 39, 7, [5]) :: (157, 0, 1, []) :: (158, 11, 0, []) :: (159, 52, 0, []) :: []
def k143_110 : List AE := (110, 5, 0, []) :: (111, 39, 7, [8]) :: (114, 0, 0, []) :: (115, 41, 0, []) :: k143_116
def k143_37 : List AE := (37, 5, 0, []) :: (38, 39, 7, [6]) :: (41, 5, 0, []) :: (42, 39, 7, [5]) :: (45, 3, 1, []) :: (46, 42, 0, []) :: (47, 5, 0, []) :: (48, 39, 7, [7]) :: (51, 5, 0, []) :: (52, 39, 7, [5]) :: (55, 3, 2, []) :: (56, 42, 0, []) :: (57, 5, 0, []) :: (58, 39, 7, [8]) :: (61, 0, 1, []) :: (62, 5, 0, []) :: (63, 39, 7, [5]) :: (66, 10, 0, []) :: (67, 3, 3, []) :: (68, 42, 0, []) :: (69, 5, 0, []) :: (70, 39, 7, [8]) :: (73, 0, 9, []) :: (75, 5, 0, []) :: (76, 39, 7, [5]) :: (79, 10, 0, []) :: (80, 3, 4, []) :: (82, 42, 0, []) :: (83, 5, 0, []) :: (84, 39, 7, [8]) :: (87, 0, 17, []) :: (89, 5, 0, []) :: (90, 39, 7, [5]) :: (93, 10, 0, []) :: (94, 5, 0, []) :: (95, 39, 7, [8]) :: (98, 0, 0, []) :: (99, 41, 0, []) :: (100, 0, 99, []) :: (102, 75, 110, []) :: (105, 0, 99, []) :: (107, 36, 116, []) :: k143_110
def k143_25 : List AE := (25, 5, 0, []) :: (26, 39, 7, [5]) :: (29, 0, 8, []) :: (31, 71, 37, []) :: (34, 0, (-2), []) :: (36, 52, 0, []) :: k143_37
def k143_23 : List AE := (23, 0, (-1), []) :: (24, 52, 0, []) :: k143_25
def k143_0 : List AE := (0, 3, 1, []) :: (1, 3, 2, []) :: (2, 48, 118, [2]) :: (5, 60, 23, []) :: (8, 3, 3, []) :: (9, 48, 114, [1]) :: (12, 60, 23, []) :: (15, 3, 4, []) :: (17, 48, 114, [1]) :: (20, 61, 25, []) :: k143_23
def k144_39 : List AE := (39, 52, 0, []) :: []
def k144_38 : List AE := (38, 0, 1, []) :: k144_39
def k144_14 : List AE := (14, 5, 0, []) :: (15, 39, 7, [6]) :: (18, 3, 1, []) :: (19, 41, 0, []) :: (20, 0, 4, []) :: (21, 71, 38, []) :: (24, 5, 0, []) :: (25, 39, 7, [7]) :: (28, 3, 1, []) :: (29, 41, 0, []) :: (30, 0, 5, []) :: (31, 72, 38, []) :: (34, 0, 2, []) :: (35, 36, 39, []) :: k144_38
def k144_0 : List AE := (0, 5, 0, []) :: (1, 39, 7, [6]) :: (4, 3, 1, []) :: (5, 41, 0, []) :: (6, 0, 5, []) :: (7, 71, 14, []) :: (10, 0, 0, []) :: (11, 36, 39, []) :: k144_14
def k145_59 : List AE := (59, 0, 5, []) :: (60, 52, 0, []) :: []
def k145_50 : List AE := (50, 0, 5, []) :: (51, 5, 0, []) :: (52, 39, 7, [7]) :: (55, 3, 1, []) :: (56, 41, 0, []) :: (57, 10, 0, []) :: (58, 52, 0, []) :: k145_59
def k145_48 : List AE := (48, 0, 0, []) :: (49, 52, 0, []) :: k145_50
def k145_46 : List AE := (46, 0, 4, []) :: (47, 52, 0, []) :: k145_48
def k145_43 : List AE := (43, 0, 6, []) :: (45, 52, 0, []) :: k145_46
def k145_40 : List AE := (40, 0, 7, []) :: (42, 52, 0, []) :: k145_43
def k145_0 : List AE := (0, 5, 0, []) :: (1, 39, 7, [6]) :: (4, 3, 1, []) :: (5, 41, 0, []) :: (6, 37, 59, [1, 40, 46, 48, 43, 50]) :: k145_40
def k146_10 : List AE := (10, 52, 0, []) :: []
def k146_9 : List AE := (9, 3, 0, []) :: k146_10
def k146_0 : List AE := (0, 3, 0, []) :: (1, 63, 9, []) :: (4, 0, (-9), []) :: (6, 36, 10, []) :: k146_9
def k147_140 : List AE := (140, 5, 0, []) :: (141, 3, 1, []) :: (142, 49, 145, [1, 7]) :: (145, 52, 0, []) :: []
def k147_134 : List AE := (134, 5, 0, []) :: (135, 3, 1, []) :: (136, 49, 144, [1, 7]) :: (139, 52, 0, []) :: k147_140
def k147_121 : List AE := (121, 5, 0, []) :: (122, 39, 7, [8]) :: (125, 0, 33, []) :: (127, 3, 1, []) :: (128, 10, 0, []) :: (129, 41, 0, []) :: (130, 48, 146, [1]) :: (133, 52, 0, []) :: k147_134
def k147_111 : List AE := (111, 5, 0, []) :: (112, 39, 7, [8]) :: (115, 0, 25, []) :: (117, 3, 1, []) :: (118, 10, 0, []) :: (119, 41, 0, []) :: (120, 52, 0, []) :: k147_121
def k147_101 : List AE := (101, 5, 0, []) :: (102, 39, 7, [8]) :: (105, 0, 17, []) :: (107, 3, 1, []) :: (108, 10, 0, []) :: (109, 41, 0, []) :: (110, 52, 0, []) :: k147_111
def k147_91 : List AE := (91, 5, 0, []) :: (92, 39, 7, [8]) :: (95, 0, 9, []) :: (97, 3, 1, []) :: (98, 10, 0, []) :: (99, 41, 0, []) :: (100, 52, 0, []) :: k147_101
def k147_82 : List AE := (82, 5, 0, []) :: (83, 39, 7, [8]) :: (86, 0, 1, []) :: (87, 3, 1, []) :: (88, 10, 0, []) :: (89, 41, 0, []) :: (90, 52, 0, []) :: k147_91
def k147_75 : List AE := (75, 5, 0, []) :: (76, 39, 7, [7]) :: (79, 3, 1, []) :: (80, 41, 0, []) :: (81, 52, 0, []) :: k147_82
def k147_68 : List AE := (68, 5, 0, []) :: (69, 39, 7, [6]) :: (72, 3, 1, []) :: (73, 41, 0, []) :: (74, 52, 0, []) :: k147_75
def k147_20 : List AE := (20, 3, 2, []) :: (21, 37, 140, [0, 68, 75, 82, 91, 101, 111, 121, 134]) :: k147_68
def k147_18 : List AE := (18, 0, (-1), []) :: (19, 52, 0, []) :: k147_20
def k147_0 : List AE := (0, 5, 0, []) :: (1, 3, 1, []) :: (2, 49, 113, [1, 7]) :: (5, 60, 18, []) :: (8, 3, 2, []) :: (9, 0, 0, []) :: (10, 0, 8, []) :: (12, 48, 112, [3]) :: (15, 61, 20, []) :: k147_18
def k148_18 : List AE := (18, 5, 0, []) :: (19, 39, 7, [6]) :: (22, 3, 1, []) :: (23, 41, 0, []) :: (24, 6, 4, []) :: (26, 5, 0, []) :: (27, 39, 7, [6]) :: (30, 3, 1, []) :: (31, 3, 2, []) :: (32, 42, 0, []) :: (33, 5, 0, []) :: (34, 39, 7, [7]) :: (37, 3, 1, []) :: (38, 3, 3, []) :: (39, 42, 0, []) :: (40, 5, 0, []) :: (41, 39, 7, [8]) :: (44, 0, 25, []) :: (46, 3, 1, []) :: (47, 10, 0, []) :: (48, 0, 0, []) :: (49, 42, 0, []) :: (50, 3, 4, []) :: (52, 52, 0, []) :: []
def k148_16 : List AE := (16, 0, (-1), []) :: (17, 52, 0, []) :: k148_18
def k148_0 : List AE := (0, 5, 0, []) :: (1, 3, 1, []) :: (2, 49, 113, [1, 7]) :: (5, 60, 16, []) :: (8, 3, 2, []) :: (9, 3, 3, []) :: (10, 48, 118, [2]) :: (13, 61, 18, []) :: k148_16
def k149_0 : List AE := (0, 5, 0, []) :: (1, 0, 9, []) :: (3, 3, 1, []) :: (4, 10, 0, []) :: (5, 3, 2, []) :: (6, 49, 120, [2, 7]) :: (9, 5, 0, []) :: (10, 0, 25, []) :: (12, 3, 1, []) :: (13, 10, 0, []) :: (14, 0, 0, []) :: (15, 49, 120, [2, 7]) :: (18, 5, 0, []) :: (19, 0, 33, []) :: (21, 3, 1, []) :: (22, 10, 0, []) :: (23, 0, (-1), []) :: (24, 49, 120, [2, 7]) :: (27, 54, 0, []) :: []
def k150_24 : List AE := (24, 5, 0, []) :: (25, 39, 7, [8]) :: (28, 0, 9, []) :: (30, 3, 1, []) :: (31, 10, 0, []) :: (32, 41, 0, []) :: (33, 6, 4, []) :: (35, 5, 0, []) :: (36, 3, 1, []) :: (37, 3, 2, []) :: (38, 49, 149, [2, 7]) :: (41, 5, 0, []) :: (42, 39, 7, [8]) :: (45, 0, 17, []) :: (47, 3, 1, []) :: (48, 10, 0, []) :: (49, 3, 3, []) :: (50, 42, 0, []) :: (51, 3, 4, []) :: (53, 52, 0, []) :: []
def k150_22 : List AE := (22, 0, (-1), []) :: (23, 52, 0, []) :: k150_24
def k150_0 : List AE := (0, 5, 0, []) :: (1, 3, 1, []) :: (2, 49, 113, [1, 7]) :: (5, 60, 22, []) :: (8, 3, 2, []) :: (9, 48, 114, [1]) :: (12, 60, 22, []) :: (15, 3, 3, []) :: (16, 48, 116, [1]) :: (19, 61, 24, []) :: k150_22
def k151_17 : List AE := (17, 5, 0, []) :: (18, 39, 7, [8]) :: (21, 0, 1, []) :: (22, 3, 1, []) :: (23, 10, 0, []) :: (24, 41, 0, []) :: (25, 6, 3, []) :: (26, 5, 0, []) :: (27, 39, 7, [8]) :: (30, 0, 1, []) :: (31, 3, 1, []) :: (32, 10, 0, []) :: (33, 3, 2, []) :: (34, 42, 0, []) :: (35, 5, 0, []) :: (36, 39, 7, [8]) :: (39, 0, 25, []) :: (41, 3, 1, []) :: (42, 10, 0, []) :: (43, 0, 0, []) :: (44, 42, 0, []) :: (45, 3, 3, []) :: (46, 52, 0, []) :: []
def k151_15 : List AE := (15, 0, (-1), []) :: (16, 52, 0, []) :: k151_17
def k151_0 : List AE := (0, 5, 0, []) :: (1, 3, 1, []) :: (2, 49, 113, [1, 7]) :: (5, 60, 15, []) :: (8, 3, 2, []) :: (9, 48, 114, [1]) :: (12, 61, 17, []) :: k151_15
def k152_0 : List AE := (0, 5, 0, []) :: (1, 39, 7, [8]) :: (4, 0, 0, []) :: (5, 41, 0, []) :: (6, 52, 0, []) :: []
def k153_85 : List AE := (85, 0, 2, []) :: (86, 52, 0, []) :: []
def k153_84 : List AE := (84, 52, 0, []) :: k153_85
def k153_83 : List AE := (83, 0, 2, []) :: k153_84
def k153_66 : List AE := (66, 3, 2, []) :: (67, 5, 0, []) :: (68, 39, 7, [7]) :: (71, 3, 1, []) :: (72, 41, 0, []) :: (73, 10, 0, []) :: (74, 0, 4, []) :: (75, 14, 0, []) :: (76, 61, 83, []) :: (79, 0, 0, []) :: (80, 36, 84, []) :: k153_83
def k153_65 : List AE := (65, 52, 0, []) :: k153_66
def k153_64 : List AE := (64, 0, 2, []) :: k153_65
def k153_50 : List AE := (50, 5, 0, []) :: (51, 39, 7, [7]) :: (54, 3, 1, []) :: (55, 41, 0, []) :: (56, 3, 2, []) :: (57, 73, 64, []) :: (60, 0, 4, []) :: (61, 36, 65, []) :: k153_64
def k153_48 : List AE := (48, 0, 1, []) :: (49, 52, 0, []) :: k153_50
def k153_0 : List AE := (0, 5, 0, []) :: (1, 0, 0, []) :: (2, 49, 119, [1, 7]) :: (5, 6, 2, []) :: (6, 5, 0, []) :: (7, 39, 7, [6]) :: (10, 3, 1, []) :: (11, 41, 0, []) :: (12, 37, 85, [1, 48, 50, 50, 48, 66]) :: k153_48
def k154_211 : List AE := (211, 10, 0, []) :: (212, 49, 120, [2, 7]) :: (215, 0, 1, []) :: (216, 53, 0, []) :: []
def k154_210 : List AE := (210, 0, (-1), []) :: k154_211
def k154_202 : List AE := (202, 3, 3, []) :: (203, 60, 210, []) :: (206, 0, 1, []) :: (207, 36, 211, []) :: k154_210
def k154_156 : List AE := (156, 42, 0, []) :: (157, 5, 0, []) :: (158, 0, 25, []) :: (160, 3, 1, []) :: (161, 10, 0, []) :: (162, 49, 119, [1, 7]) :: (165, 3, 2, []) :: (166, 10, 0, []) :: (167, 6, 6, []) :: (169, 5, 0, []) :: (170, 0, 25, []) :: (172, 3, 1, []) :: (173, 10, 0, []) :: (174, 3, 6, []) :: (176, 0, 2, []) :: (177, 14, 0, []) :: (178, 49, 120, [2, 7]) :: (181, 5, 0, []) :: (182, 0, 1, []) :: (183, 3, 1, []) :: (184, 10, 0, []) :: (185, 5, 0, []) :: (186, 0, 1, []) :: (187, 3, 1, []) :: (188, 10, 0, []) :: (189, 49, 119, [1, 7]) :: (192, 3, 6, []) :: (194, 0, 2, []) :: (195, 73, 202, []) :: (198, 0, 0, []) :: (199, 36, 211, []) :: k154_202
def k154_149 : List AE := (149, 5, 0, []) :: (150, 39, 7, [31]) :: (153, 3, 4, []) :: (155, 41, 0, []) :: k154_156
def k154_101 : List AE := (101, 5, 0, []) :: (102, 39, 7, [30]) :: (105, 3, 5, []) :: (107, 33, 0, []) :: (108, 41, 0, []) :: (109, 5, 0, []) :: (110, 3, 1, []) :: (111, 49, 144, [1, 7]) :: (114, 10, 0, []) :: (115, 42, 0, []) :: (116, 5, 0, []) :: (117, 39, 7, [31]) :: (120, 3, 4, []) :: (122, 5, 0, []) :: (123, 39, 7, [30]) :: (126, 3, 5, []) :: (128, 41, 0, []) :: (129, 5, 0, []) :: (130, 39, 7, [31]) :: (133, 3, 4, []) :: (135, 41, 0, []) :: (136, 75, 149, []) :: (139, 5, 0, []) :: (140, 39, 7, [30]) :: (143, 3, 5, []) :: (145, 41, 0, []) :: (146, 36, 156, []) :: k154_149
def k154_99 : List AE := (99, 0, 0, []) :: (100, 53, 0, []) :: k154_101
def k154_63 : List AE := (63, 6, 5, []) :: (65, 5, 0, []) :: (66, 3, 4, []) :: (68, 5, 0, []) :: (69, 0, 0, []) :: (70, 49, 119, [1, 7]) :: (73, 49, 141, [2, 7]) :: (76, 61, 99, []) :: (79, 5, 0, []) :: (80, 39, 7, [30]) :: (83, 3, 5, []) :: (85, 41, 0, []) :: (86, 5, 0, []) :: (87, 3, 1, []) :: (88, 49, 144, [1, 7]) :: (91, 10, 0, []) :: (92, 5, 0, []) :: (93, 39, 7, [0]) :: (96, 75, 101, []) :: k154_99
def k154_58 : List AE := (58, 0, 9, []) :: (60, 3, 4, []) :: (62, 10, 0, []) :: k154_63
def k154_47 : List AE := (47, 6, 4, []) :: (49, 3, 3, []) :: (50, 60, 58, []) :: (53, 3, 4, []) :: (55, 36, 63, []) :: k154_58
def k154_38 : List AE := (38, 5, 0, []) :: (39, 0, 1, []) :: (40, 3, 1, []) :: (41, 10, 0, []) :: (42, 49, 119, [1, 7]) :: (45, 0, 1, []) :: (46, 11, 0, []) :: k154_47
def k154_23 : List AE := (23, 6, 3, []) :: (24, 3, 3, []) :: (25, 60, 38, []) :: (28, 5, 0, []) :: (29, 0, 1, []) :: (30, 3, 1, []) :: (31, 10, 0, []) :: (32, 49, 119, [1, 7]) :: (35, 36, 47, []) :: k154_38
def k154_22 : List AE := (22, 0, 0, []) :: k154_23
def k154_0 : List AE := (0, 5, 0, []) :: (1, 0, 1, []) :: (2, 3, 1, []) :: (3, 10, 0, []) :: (4, 49, 119, [1, 7]) :: (7, 5, 0, []) :: (8, 0, 9, []) :: (10, 3, 1, []) :: (11, 10, 0, []) :: (12, 49, 119, [1, 7]) :: (15, 73, 22, []) :: (18, 0, 1, []) :: (19, 36, 23, []) :: k154_22
def k155_23 : List AE := (23, 53, 0, []) :: []
def k155_22 : List AE := (22, 0, 0, []) :: k155_23
def k155_0 : List AE := (0, 5, 0, []) :: (1, 0, 1, []) :: (2, 3, 1, []) :: (3, 10, 0, []) :: (4, 49, 119, [1, 7]) :: (7, 5, 0, []) :: (8, 0, 9, []) :: (10, 3, 1, []) :: (11, 10, 0, []) :: (12, 49, 119, [1, 7]) :: (15, 71, 22, []) :: (18, 0, 1, []) :: (19, 36, 23, []) :: k155_22
def k156_102 : List AE := (102, 54, 0, []) :: []
def k156_79 : List AE := (79, 10, 0, []) :: (80, 42, 0, []) :: (81, 5, 0, []) :: (82, 3, 1, []) :: (83, 49, 155, [1, 7]) :: (86, 60, 102, []) :: (89, 5, 0, []) :: (90, 0, 33, []) :: (92, 3, 1, []) :: (93, 10, 0, []) :: (94, 5, 0, []) :: (95, 0, 0, []) :: (96, 49, 119, [1, 7]) :: (99, 49, 120, [2, 7]) :: k156_102
def k156_78 : List AE := (78, 0, 0, []) :: k156_79
def k156_63 : List AE := (63, 5, 0, []) :: (64, 39, 7, [32]) :: (67, 3, 1, []) :: (68, 33, 0, []) :: (69, 41, 0, []) :: (70, 3, 2, []) :: (71, 60, 78, []) :: (74, 0, 1, []) :: (75, 36, 79, []) :: k156_78
def k156_58 : List AE := (58, 0, 0, []) :: (59, 6, 3, []) :: (60, 36, 20, []) :: k156_63
def k156_44 : List AE := (44, 49, 154, [2, 7]) :: (47, 60, 58, []) :: (50, 0, 0, []) :: (51, 6, 2, []) :: (52, 9, 3, [(-2)]) :: (55, 36, 20, []) :: k156_58
def k156_43 : List AE := (43, 0, 2, []) :: k156_44
def k156_20 : List AE := (20, 3, 3, []) :: (21, 65, 63, []) :: (24, 5, 0, []) :: (25, 3, 1, []) :: (26, 49, 155, [1, 7]) :: (29, 61, 63, []) :: (32, 5, 0, []) :: (33, 3, 1, []) :: (34, 3, 3, []) :: (35, 0, 1, []) :: (36, 71, 43, []) :: (39, 0, 1, []) :: (40, 36, 44, []) :: k156_43
def k156_13 : List AE := (13, 6, 2, []) :: (14, 5, 0, []) :: (15, 3, 1, []) :: (16, 49, 153, [1, 7]) :: (19, 6, 3, []) :: k156_20
def k156_12 : List AE := (12, 0, 0, []) :: k156_13
def k156_0 : List AE := (0, 5, 0, []) :: (1, 3, 1, []) :: (2, 49, 155, [1, 7]) :: (5, 61, 12, []) :: (8, 0, 1, []) :: (9, 36, 13, []) :: k156_12
def k157_92 : List AE := (92, 5, 0, []) :: (93, 0, 0, []) :: (94, 5, 0, []) :: (95, 0, 0, []) :: (96, 49, 119, [1, 7]) :: (99, 0, 1, []) :: (100, 10, 0, []) :: (101, 49, 120, [2, 7]) :: (104, 54, 0, []) :: []
def k157_86 : List AE := (86, 9, 1, [1]) :: (89, 36, 23, []) :: k157_92
def k157_80 : List AE := (80, 9, 2, [1]) :: (83, 36, 31, []) :: k157_86
def k157_31 : List AE := (31, 3, 2, []) :: (32, 5, 0, []) :: (33, 39, 7, [5]) :: (36, 73, 86, []) :: (39, 5, 0, []) :: (40, 3, 2, []) :: (41, 49, 145, [1, 7]) :: (44, 3, 1, []) :: (45, 71, 80, []) :: (48, 5, 0, []) :: (49, 0, 33, []) :: (51, 3, 2, []) :: (52, 10, 0, []) :: (53, 49, 119, [1, 7]) :: (56, 63, 80, []) :: (59, 5, 0, []) :: (60, 0, 17, []) :: (62, 3, 2, []) :: (63, 10, 0, []) :: (64, 49, 119, [1, 7]) :: (67, 5, 0, []) :: (68, 0, 0, []) :: (69, 49, 119, [1, 7]) :: (72, 74, 80, []) :: (75, 5, 0, []) :: (76, 3, 2, []) :: (77, 49, 156, [1, 7]) :: k157_80
def k157_23 : List AE := (23, 3, 1, []) :: (24, 0, 15, []) :: (26, 73, 92, []) :: (29, 0, 0, []) :: (30, 6, 2, []) :: k157_31
def k157_21 : List AE := (21, 0, 0, []) :: (22, 6, 1, []) :: k157_23
def k157_2 : List AE := (2, 3, 1, []) :: (3, 0, 18, []) :: (5, 73, 21, []) :: (8, 5, 0, []) :: (9, 39, 7, [30]) :: (12, 3, 1, []) :: (13, 0, 0, []) :: (14, 42, 0, []) :: (15, 9, 1, [1]) :: (18, 36, 2, []) :: k157_21
def k157_0 : List AE := (0, 0, 0, []) :: (1, 6, 1, []) :: k157_2
def k158_27 : List AE := (27, 54, 0, []) :: []
def k158_2 : List AE := (2, 3, 2, []) :: (3, 3, 1, []) :: (4, 73, 27, []) :: (7, 5, 0, []) :: (8, 0, 0, []) :: (9, 49, 119, [1, 7]) :: (12, 0, 120, []) :: (14, 73, 27, []) :: (17, 5, 0, []) :: (18, 49, 157, [0, 7]) :: (21, 9, 2, [1]) :: (24, 36, 2, []) :: k158_27
def k158_0 : List AE := (0, 0, 0, []) :: (1, 6, 2, []) :: k158_2
def k159_12 : List AE := (12, 5, 0, []) :: (13, 3, 1, []) :: (14, 49, 158, [1, 7]) :: (17, 5, 0, []) :: (18, 39, 7, [8]) :: (21, 0, 0, []) :: (22, 41, 0, []) :: (23, 52, 0, []) :: []
def k159_0 : List AE := (0, 3, 1, []) :: (1, 0, 0, []) :: (2, 0, 60, []) :: (4, 48, 112, [3]) :: (7, 61, 12, []) :: (10, 0, (-1), []) :: (11, 52, 0, []) :: k159_12
def k160_12 : List AE := (12, 5, 0, []) :: (13, 39, 7, [8]) :: (16, 0, 0, []) :: (17, 41, 0, []) :: (18, 6, 2, []) :: (19, 5, 0, []) :: (20, 39, 7, [8]) :: (23, 0, 0, []) :: (24, 3, 1, []) :: (25, 42, 0, []) :: (26, 3, 2, []) :: (27, 52, 0, []) :: []
def k160_0 : List AE := (0, 3, 1, []) :: (1, 0, 0, []) :: (2, 0, 120, []) :: (4, 48, 112, [3]) :: (7, 61, 12, []) :: (10, 0, (-1), []) :: (11, 52, 0, []) :: k160_12
def k161_82 : List AE := (82, 54, 0, []) :: []
def k161_63 : List AE := (63, 3, 1, []) :: (64, 0, 8, []) :: (66, 73, 82, []) :: (69, 5, 0, []) :: (70, 39, 7, [32]) :: (73, 3, 1, []) :: (74, 0, 0, []) :: (75, 42, 0, []) :: (76, 9, 1, [1]) :: (79, 36, 63, []) :: k161_82
def k161_61 : List AE := (61, 0, 0, []) :: (62, 6, 1, []) :: k161_63
def k161_42 : List AE := (42, 3, 1, []) :: (43, 0, 9, []) :: (45, 73, 61, []) :: (48, 5, 0, []) :: (49, 39, 7, [31]) :: (52, 3, 1, []) :: (53, 0, 0, []) :: (54, 42, 0, []) :: (55, 9, 1, [1]) :: (58, 36, 42, []) :: k161_61
def k161_34 : List AE := (34, 5, 0, []) :: (35, 0, 41, []) :: (37, 40, 7, [9]) :: (40, 0, 0, []) :: (41, 6, 1, []) :: k161_42
def k161_7 : List AE := (7, 3, 1, []) :: (8, 0, 41, []) :: (10, 73, 34, []) :: (13, 5, 0, []) :: (14, 39, 7, [8]) :: (17, 0, 41, []) :: (19, 3, 1, []) :: (20, 10, 0, []) :: (21, 5, 0, []) :: (22, 39, 7, [8]) :: (25, 3, 1, []) :: (26, 41, 0, []) :: (27, 42, 0, []) :: (28, 9, 1, [1]) :: (31, 36, 7, []) :: k161_34
def k161_0 : List AE := (0, 5, 0, []) :: (1, 0, 0, []) :: (2, 40, 7, [9]) :: (5, 0, 0, []) :: (6, 6, 1, []) :: k161_7
def k162_0 : List AE := (0, 5, 0, []) :: (1, 0, 120, []) :: (3, 49, 158, [1, 7]) :: (6, 5, 0, []) :: (7, 0, 0, []) :: (8, 40, 7, [9]) :: (11, 54, 0, []) :: []
def k163_0 : List AE := (0, 5, 0, []) :: (1, 49, 161, [0, 7]) :: (4, 5, 0, []) :: (5, 49, 162, [0, 7]) :: (8, 54, 0, []) :: []
def k164_0 : List AE := (0, 5, 0, []) :: (1, 39, 7, [8]) :: (4, 0, 74, []) :: (6, 3, 1, []) :: (7, 10, 0, []) :: (8, 41, 0, []) :: (9, 52, 0, []) :: []
def k165_78 : List AE := (78, 52, 0, []) :: []
def k165_76 : List AE := (76, 0, (-3), []) :: k165_78
def k165_68 : List AE := (68, 3, 2, []) :: (69, 60, 76, []) :: (72, 3, 1, []) :: (73, 36, 78, []) :: k165_76
def k165_61 : List AE := (61, 6, 1, []) :: (62, 9, 3, [1]) :: (65, 36, 17, []) :: k165_68
def k165_60 : List AE := (60, 3, 1, []) :: k165_61
def k165_42 : List AE := (42, 6, 2, []) :: (43, 5, 0, []) :: (44, 3, 3, []) :: (45, 49, 164, [1, 7]) :: (48, 3, 1, []) :: (49, 75, 60, []) :: (52, 5, 0, []) :: (53, 3, 3, []) :: (54, 49, 164, [1, 7]) :: (57, 36, 61, []) :: k165_60
def k165_41 : List AE := (41, 0, 0, []) :: k165_42
def k165_17 : List AE := (17, 3, 3, []) :: (18, 5, 0, []) :: (19, 39, 7, [5]) :: (22, 73, 68, []) :: (25, 3, 2, []) :: (26, 60, 41, []) :: (29, 5, 0, []) :: (30, 3, 3, []) :: (31, 49, 164, [1, 7]) :: (34, 62, 41, []) :: (37, 0, 1, []) :: (38, 36, 42, []) :: k165_41
def k165_14 : List AE := (14, 6, 2, []) :: (15, 0, 0, []) :: (16, 6, 3, []) :: k165_17
def k165_13 : List AE := (13, 0, 0, []) :: k165_14
def k165_0 : List AE := (0, 0, (-1), []) :: (1, 6, 1, []) :: (2, 5, 0, []) :: (3, 39, 7, [5]) :: (6, 65, 13, []) :: (9, 0, 1, []) :: (10, 36, 14, []) :: k165_13
def k166_32 : List AE := (32, 52, 0, []) :: []
def k166_27 : List AE := (27, 5, 0, []) :: (28, 3, 1, []) :: (29, 49, 164, [1, 7]) :: k166_32
def k166_10 : List AE := (10, 5, 0, []) :: (11, 49, 163, [0, 7]) :: (14, 5, 0, []) :: (15, 3, 1, []) :: (16, 49, 164, [1, 7]) :: (19, 63, 27, []) :: (22, 0, (-3), []) :: (24, 36, 32, []) :: k166_27
def k166_0 : List AE := (0, 5, 0, []) :: (1, 3, 1, []) :: (2, 49, 113, [1, 7]) :: (5, 61, 10, []) :: (8, 0, (-1), []) :: (9, 52, 0, []) :: k166_10
def k167_0 : List AE := (0, 5, 0, []) :: (1, 49, 163, [0, 7]) :: (4, 5, 0, []) :: (5, 49, 165, [0, 7]) :: (8, 52, 0, []) :: []
def k168_10 : List AE := (10, 5, 0, []) :: (11, 49, 163, [0, 7]) :: (14, 5, 0, []) :: (15, 39, 7, [32]) :: (18, 3, 1, []) :: (19, 41, 0, []) :: (20, 52, 0, []) :: []
def k168_0 : List AE := (0, 5, 0, []) :: (1, 3, 1, []) :: (2, 49, 113, [1, 7]) :: (5, 61, 10, []) :: (8, 0, (-1), []) :: (9, 52, 0, []) :: k168_10
def k169_9 : List AE := (9, 5, 0, []) :: (10, 49, 163, [0, 7]) :: (13, 5, 0, []) :: (14, 39, 7, [31]) :: (17, 3, 1, []) :: (18, 41, 0, []) :: (19, 52, 0, []) :: []
def k169_0 : List AE := (0, 3, 1, []) :: (1, 48, 115, [1]) :: (4, 61, 9, []) :: (7, 0, (-1), []) :: (8, 52, 0, []) :: k169_9
def k170_82 : List AE := (82, 5, 0, []) :: (83, 0, 0, []) :: (84, 40, 7, [9]) :: (87, 3, 3, []) :: (88, 52, 0, []) :: []
def k170_74 : List AE := (74, 10, 0, []) :: (75, 6, 3, []) :: (76, 9, 4, [1]) :: (79, 36, 47, []) :: k170_82
def k170_73 : List AE := (73, 0, 0, []) :: k170_74
def k170_47 : List AE := (47, 3, 4, []) :: (49, 5, 0, []) :: (50, 39, 7, [5]) :: (53, 73, 82, []) :: (56, 3, 3, []) :: (57, 5, 0, []) :: (58, 0, 1, []) :: (59, 3, 4, []) :: (61, 10, 0, []) :: (62, 49, 119, [1, 7]) :: (65, 3, 1, []) :: (66, 71, 73, []) :: (69, 0, 1, []) :: (70, 36, 74, []) :: k170_73
def k170_24 : List AE := (24, 5, 0, []) :: (25, 49, 161, [0, 7]) :: (28, 5, 0, []) :: (29, 3, 2, []) :: (30, 0, 1, []) :: (31, 10, 0, []) :: (32, 5, 0, []) :: (33, 39, 7, [8]) :: (36, 0, 0, []) :: (37, 41, 0, []) :: (38, 11, 0, []) :: (39, 49, 158, [1, 7]) :: (42, 0, 0, []) :: (43, 6, 3, []) :: (44, 0, 0, []) :: (45, 6, 4, []) :: k170_47
def k170_22 : List AE := (22, 0, (-1), []) :: (23, 52, 0, []) :: k170_24
def k170_0 : List AE := (0, 3, 1, []) :: (1, 48, 114, [1]) :: (4, 60, 22, []) :: (7, 3, 2, []) :: (8, 5, 0, []) :: (9, 39, 7, [8]) :: (12, 0, 0, []) :: (13, 41, 0, []) :: (14, 0, 119, []) :: (16, 48, 112, [3]) :: (19, 61, 24, []) :: k170_22
def k171_68 : List AE := (68, 52, 0, []) :: []
def k171_58 : List AE := (58, 3, 1, []) :: (59, 5, 0, []) :: (60, 39, 7, [8]) :: (63, 0, 0, []) :: (64, 41, 0, []) :: (65, 11, 0, []) :: (66, 0, 1, []) :: (67, 10, 0, []) :: k171_68
def k171_40 : List AE := (40, 5, 0, []) :: (41, 49, 162, [0, 7]) :: (44, 5, 0, []) :: (45, 49, 165, [0, 7]) :: (48, 6, 1, []) :: (49, 3, 1, []) :: (50, 63, 58, []) :: (53, 0, (-3), []) :: (55, 36, 68, []) :: k171_58
def k171_6 : List AE := (6, 3, 1, []) :: (7, 5, 0, []) :: (8, 39, 7, [5]) :: (11, 73, 40, []) :: (14, 5, 0, []) :: (15, 3, 1, []) :: (16, 0, 0, []) :: (17, 49, 149, [2, 7]) :: (20, 5, 0, []) :: (21, 0, 17, []) :: (23, 3, 1, []) :: (24, 10, 0, []) :: (25, 5, 0, []) :: (26, 39, 7, [8]) :: (29, 0, 0, []) :: (30, 41, 0, []) :: (31, 49, 120, [2, 7]) :: (34, 9, 1, [1]) :: (37, 36, 6, []) :: k171_40
def k171_0 : List AE := (0, 5, 0, []) :: (1, 49, 161, [0, 7]) :: (4, 0, 0, []) :: (5, 6, 1, []) :: k171_6
def k172_81 : List AE := (81, 0, (-3), []) :: (83, 52, 0, []) :: []
def k172_75 : List AE := (75, 9, 3, [(-1)]) :: (78, 36, 20, []) :: k172_81
def k172_20 : List AE := (20, 3, 3, []) :: (21, 5, 0, []) :: (22, 39, 7, [8]) :: (25, 0, 0, []) :: (26, 41, 0, []) :: (27, 72, 81, []) :: (30, 5, 0, []) :: (31, 49, 161, [0, 7]) :: (34, 5, 0, []) :: (35, 3, 1, []) :: (36, 5, 0, []) :: (37, 0, 9, []) :: (39, 3, 1, []) :: (40, 10, 0, []) :: (41, 49, 119, [1, 7]) :: (44, 49, 149, [2, 7]) :: (47, 5, 0, []) :: (48, 0, 17, []) :: (50, 3, 1, []) :: (51, 10, 0, []) :: (52, 3, 3, []) :: (53, 49, 120, [2, 7]) :: (56, 5, 0, []) :: (57, 49, 162, [0, 7]) :: (60, 5, 0, []) :: (61, 3, 1, []) :: (62, 49, 164, [1, 7]) :: (65, 0, 0, []) :: (66, 3, 2, []) :: (67, 48, 112, [3]) :: (70, 60, 75, []) :: (73, 3, 3, []) :: (74, 52, 0, []) :: k172_75
def k172_17 : List AE := (17, 0, 99, []) :: (19, 6, 3, []) :: k172_20
def k172_15 : List AE := (15, 0, (-1), []) :: (16, 52, 0, []) :: k172_17
def k172_0 : List AE := (0, 5, 0, []) :: (1, 3, 1, []) :: (2, 49, 113, [1, 7]) :: (5, 60, 15, []) :: (8, 3, 2, []) :: (9, 48, 117, [1]) :: (12, 61, 17, []) :: k172_15
def k173_146 : List AE := (146, 3, 1, []) :: (147, 52, 0, []) :: []
def k173_140 : List AE := (140, 9, 3, [1]) :: (143, 36, 7, []) :: k173_146
def k173_128 : List AE := (128, 0, 10, []) :: (130, 3, 4, []) :: (132, 12, 0, []) :: (133, 3, 5, []) :: (135, 10, 0, []) :: (136, 6, 1, []) :: (137, 3, 6, []) :: (139, 6, 2, []) :: k173_140
def k173_7 : List AE := (7, 3, 3, []) :: (8, 0, 64, []) :: (10, 73, 146, []) :: (13, 3, 3, []) :: (14, 0, 8, []) :: (16, 13, 0, []) :: (17, 6, 4, []) :: (19, 3, 3, []) :: (20, 0, 8, []) :: (22, 14, 0, []) :: (23, 6, 5, []) :: (25, 3, 4, []) :: (27, 3, 5, []) :: (29, 73, 140, []) :: (32, 5, 0, []) :: (33, 3, 5, []) :: (35, 49, 113, [1, 7]) :: (38, 60, 140, []) :: (41, 5, 0, []) :: (42, 39, 7, [8]) :: (45, 0, 33, []) :: (47, 3, 4, []) :: (49, 10, 0, []) :: (50, 41, 0, []) :: (51, 63, 140, []) :: (54, 5, 0, []) :: (55, 39, 7, [8]) :: (58, 0, 33, []) :: (60, 3, 5, []) :: (62, 10, 0, []) :: (63, 41, 0, []) :: (64, 63, 140, []) :: (67, 5, 0, []) :: (68, 49, 161, [0, 7]) :: (71, 5, 0, []) :: (72, 3, 4, []) :: (74, 5, 0, []) :: (75, 39, 7, [8]) :: (78, 0, 9, []) :: (80, 3, 5, []) :: (82, 10, 0, []) :: (83, 41, 0, []) :: (84, 49, 149, [2, 7]) :: (87, 5, 0, []) :: (88, 3, 5, []) :: (90, 5, 0, []) :: (91, 39, 7, [8]) :: (94, 0, 9, []) :: (96, 3, 4, []) :: (98, 10, 0, []) :: (99, 41, 0, []) :: (100, 49, 149, [2, 7]) :: (103, 5, 0, []) :: (104, 49, 162, [0, 7]) :: (107, 5, 0, []) :: (108, 49, 165, [0, 7]) :: (111, 6, 6, []) :: (113, 3, 6, []) :: (115, 62, 140, []) :: (118, 3, 1, []) :: (119, 62, 128, []) :: (122, 3, 6, []) :: (124, 3, 2, []) :: (125, 73, 140, []) :: k173_128
def k173_0 : List AE := (0, 0, (-3), []) :: (2, 6, 1, []) :: (3, 0, 0, []) :: (4, 6, 2, []) :: (5, 0, 0, []) :: (6, 6, 3, []) :: k173_7
def k174_101 : List AE := (101, 5, 0, []) :: (102, 3, 2, []) :: (103, 40, 7, [0]) :: (106, 3, 3, []) :: (107, 52, 0, []) :: []
def k174_94 : List AE := (94, 6, 3, []) :: (95, 9, 4, [(-1)]) :: (98, 36, 21, []) :: k174_101
def k174_93 : List AE := (93, 3, 3, []) :: k174_94
def k174_83 : List AE := (83, 3, 5, []) :: (85, 60, 93, []) :: (88, 3, 4, []) :: (90, 36, 94, []) :: k174_93
def k174_75 : List AE := (75, 6, 5, []) :: (77, 9, 6, [1]) :: (80, 36, 42, []) :: k174_83
def k174_74 : List AE := (74, 0, 0, []) :: k174_75
def k174_42 : List AE := (42, 3, 6, []) :: (44, 5, 0, []) :: (45, 39, 7, [5]) :: (48, 73, 83, []) :: (51, 3, 5, []) :: (53, 60, 74, []) :: (56, 5, 0, []) :: (57, 3, 6, []) :: (59, 49, 164, [1, 7]) :: (62, 0, 0, []) :: (63, 3, 1, []) :: (64, 48, 112, [3]) :: (67, 60, 74, []) :: (70, 0, 1, []) :: (71, 36, 75, []) :: k174_74
def k174_21 : List AE := (21, 3, 4, []) :: (23, 65, 101, []) :: (26, 5, 0, []) :: (27, 3, 4, []) :: (29, 40, 7, [0]) :: (32, 5, 0, []) :: (33, 49, 163, [0, 7]) :: (36, 0, 1, []) :: (37, 6, 5, []) :: (39, 0, 0, []) :: (40, 6, 6, []) :: k174_42
def k174_9 : List AE := (9, 5, 0, []) :: (10, 39, 7, [0]) :: (13, 6, 2, []) :: (14, 0, (-3), []) :: (16, 6, 3, []) :: (17, 0, 9, []) :: (19, 6, 4, []) :: k174_21
def k174_0 : List AE := (0, 3, 1, []) :: (1, 48, 117, [1]) :: (4, 61, 9, []) :: (7, 0, (-1), []) :: (8, 52, 0, []) :: k174_9
def k175_129 : List AE := (129, 3, 2, []) :: (130, 52, 0, []) :: []
def k175_122 : List AE := (122, 6, 3, []) :: (123, 9, 4, [1]) :: (126, 36, 44, []) :: k175_129
def k175_121 : List AE := (121, 3, 3, []) :: k175_122
def k175_109 : List AE := (109, 6, 2, []) :: (110, 3, 5, []) :: (112, 3, 3, []) :: (113, 75, 121, []) :: (116, 3, 5, []) :: (118, 36, 122, []) :: k175_121
def k175_108 : List AE := (108, 3, 2, []) :: k175_109
def k175_85 : List AE := (85, 6, 5, []) :: (87, 5, 0, []) :: (88, 32, 0, []) :: (89, 39, 7, [1]) :: (92, 0, 1, []) :: (93, 11, 0, []) :: (94, 40, 7, [1]) :: (97, 3, 5, []) :: (99, 3, 3, []) :: (100, 75, 108, []) :: (103, 3, 4, []) :: (105, 36, 109, []) :: k175_108
def k175_81 : List AE := (81, 5, 0, []) :: (82, 49, 165, [0, 7]) :: k175_85
def k175_44 : List AE := (44, 3, 4, []) :: (46, 0, 9, []) :: (48, 73, 129, []) :: (51, 5, 0, []) :: (52, 3, 4, []) :: (54, 5, 0, []) :: (55, 39, 7, [8]) :: (58, 0, 0, []) :: (59, 41, 0, []) :: (60, 3, 1, []) :: (61, 49, 138, [3, 7]) :: (64, 5, 0, []) :: (65, 49, 163, [0, 7]) :: (68, 5, 0, []) :: (69, 49, 165, [0, 7]) :: (72, 63, 81, []) :: (75, 0, 999, []) :: (78, 36, 85, []) :: k175_81
def k175_37 : List AE := (37, 0, 0, []) :: (38, 6, 2, []) :: (39, 0, (-1), []) :: (40, 6, 3, []) :: (41, 0, 0, []) :: (42, 6, 4, []) :: k175_44
def k175_23 : List AE := (23, 5, 0, []) :: (24, 39, 7, [8]) :: (27, 0, 0, []) :: (28, 41, 0, []) :: (29, 0, 99, []) :: (31, 75, 37, []) :: (34, 0, (-4), []) :: (36, 52, 0, []) :: k175_37
def k175_12 : List AE := (12, 5, 0, []) :: (13, 39, 7, [1]) :: (16, 0, 4, []) :: (17, 71, 23, []) :: (20, 0, (-2), []) :: (22, 52, 0, []) :: k175_23
def k175_0 : List AE := (0, 3, 1, []) :: (1, 0, 1, []) :: (2, 0, 30, []) :: (4, 48, 112, [3]) :: (7, 61, 12, []) :: (10, 0, (-1), []) :: (11, 52, 0, []) :: k175_12
def k176_80 : List AE := (80, 3, 2, []) :: (81, 52, 0, []) :: []
def k176_72 : List AE := (72, 10, 0, []) :: (73, 6, 2, []) :: (74, 9, 3, [1]) :: (77, 36, 34, []) :: k176_80
def k176_57 : List AE := (57, 5, 0, []) :: (58, 3, 3, []) :: (59, 49, 164, [1, 7]) :: (62, 5, 0, []) :: (63, 39, 7, [8]) :: (66, 0, 17, []) :: (68, 3, 3, []) :: (69, 10, 0, []) :: (70, 41, 0, []) :: (71, 11, 0, []) :: k176_72
def k176_34 : List AE := (34, 3, 3, []) :: (35, 5, 0, []) :: (36, 39, 7, [5]) :: (39, 73, 80, []) :: (42, 3, 2, []) :: (43, 5, 0, []) :: (44, 3, 3, []) :: (45, 49, 164, [1, 7]) :: (48, 63, 57, []) :: (51, 0, 200, []) :: (54, 36, 72, []) :: k176_57
def k176_26 : List AE := (26, 5, 0, []) :: (27, 49, 162, [0, 7]) :: (30, 0, 0, []) :: (31, 6, 2, []) :: (32, 0, 0, []) :: (33, 6, 3, []) :: k176_34
def k176_6 : List AE := (6, 3, 2, []) :: (7, 5, 0, []) :: (8, 39, 7, [5]) :: (11, 73, 26, []) :: (14, 5, 0, []) :: (15, 3, 2, []) :: (16, 3, 1, []) :: (17, 49, 149, [2, 7]) :: (20, 9, 2, [1]) :: (23, 36, 6, []) :: k176_26
def k176_0 : List AE := (0, 5, 0, []) :: (1, 49, 161, [0, 7]) :: (4, 0, 0, []) :: (5, 6, 2, []) :: k176_6
def k177_16 : List AE := (16, 52, 0, []) :: []
def k177_15 : List AE := (15, 0, (-1), []) :: k177_16
def k177_0 : List AE := (0, 3, 1, []) :: (1, 48, 114, [1]) :: (4, 60, 15, []) :: (7, 5, 0, []) :: (8, 3, 1, []) :: (9, 49, 176, [1, 7]) :: (12, 36, 16, []) :: k177_15
def k178_54 : List AE := (54, 3, 1, []) :: (55, 52, 0, []) :: []
def k178_47 : List AE := (47, 6, 2, []) :: (48, 9, 3, [1]) :: (51, 36, 10, []) :: k178_54
def k178_46 : List AE := (46, 3, 2, []) :: k178_47
def k178_34 : List AE := (34, 6, 1, []) :: (35, 3, 4, []) :: (37, 3, 2, []) :: (38, 73, 46, []) :: (41, 3, 4, []) :: (43, 36, 47, []) :: k178_46
def k178_33 : List AE := (33, 3, 1, []) :: k178_34
def k178_10 : List AE := (10, 3, 3, []) :: (11, 0, 10, []) :: (13, 73, 54, []) :: (16, 5, 0, []) :: (17, 3, 3, []) :: (18, 49, 176, [1, 7]) :: (21, 6, 4, []) :: (23, 3, 4, []) :: (25, 3, 2, []) :: (26, 73, 33, []) :: (29, 3, 3, []) :: (30, 36, 34, []) :: k178_33
def k178_0 : List AE := (0, 0, 0, []) :: (1, 6, 1, []) :: (2, 5, 0, []) :: (3, 0, 0, []) :: (4, 49, 176, [1, 7]) :: (7, 6, 2, []) :: (8, 0, 1, []) :: (9, 6, 3, []) :: k178_10
def k179_0 : List AE := (0, 5, 0, []) :: (1, 39, 7, [10]) :: (4, 6, 2, []) :: (5, 5, 0, []) :: (6, 3, 1, []) :: (7, 40, 7, [10]) :: (10, 3, 2, []) :: (11, 52, 0, []) :: []
def k180_10 : List AE := (10, 5, 0, []) :: (11, 5, 0, []) :: (12, 39, 7, [10]) :: (15, 0, 1103515245, []) :: (18, 12, 0, []) :: (19, 0, 12345, []) :: (22, 10, 0, []) :: (23, 40, 7, [10]) :: (26, 5, 0, []) :: (27, 39, 7, [8]) :: (30, 0, 17, []) :: (32, 3, 1, []) :: (33, 10, 0, []) :: (34, 5, 0, []) :: (35, 39, 7, [10]) :: (38, 0, 16, []) :: (40, 20, 0, []) :: (41, 0, 100, []) :: (43, 14, 0, []) :: (44, 42, 0, []) :: (45, 5, 0, []) :: (46, 39, 7, [8]) :: (49, 0, 17, []) :: (51, 3, 1, []) :: (52, 10, 0, []) :: (53, 41, 0, []) :: (54, 52, 0, []) :: []
def k180_0 : List AE := (0, 5, 0, []) :: (1, 3, 1, []) :: (2, 49, 113, [1, 7]) :: (5, 61, 10, []) :: (8, 0, (-1), []) :: (9, 52, 0, []) :: k180_10
def k181_145 : List AE := (145, 5, 0, []) :: (146, 0, 0, []) :: (147, 40, 7, [9]) :: (150, 54, 0, []) :: []
def k181_104 : List AE := (104, 5, 0, []) :: (105, 39, 7, [34]) :: (108, 0, 3, []) :: (109, 5, 0, []) :: (110, 39, 7, [36]) :: (113, 12, 0, []) :: (114, 0, 1, []) :: (115, 10, 0, []) :: (116, 3, 2, []) :: (117, 42, 0, []) :: (118, 5, 0, []) :: (119, 39, 7, [34]) :: (122, 0, 3, []) :: (123, 5, 0, []) :: (124, 39, 7, [36]) :: (127, 12, 0, []) :: (128, 0, 2, []) :: (129, 10, 0, []) :: (130, 3, 3, []) :: (131, 42, 0, []) :: (132, 5, 0, []) :: (133, 32, 0, []) :: (134, 39, 7, [36]) :: (137, 0, 1, []) :: (138, 10, 0, []) :: (139, 40, 7, [36]) :: (142, 36, 9, []) :: k181_145
def k181_85 : List AE := (85, 16, 0, []) :: (86, 6, 2, []) :: (87, 3, 3, []) :: (88, 5, 0, []) :: (89, 0, 1, []) :: (90, 3, 4, []) :: (92, 10, 0, []) :: (93, 49, 119, [1, 7]) :: (96, 10, 0, []) :: (97, 6, 3, []) :: (98, 9, 4, [1]) :: (101, 36, 55, []) :: k181_104
def k181_81 : List AE := (81, 0, 1, []) :: (82, 3, 4, []) :: (84, 18, 0, []) :: k181_85
def k181_55 : List AE := (55, 3, 4, []) :: (57, 5, 0, []) :: (58, 39, 7, [5]) :: (61, 73, 104, []) :: (64, 3, 2, []) :: (65, 5, 0, []) :: (66, 0, 33, []) :: (68, 3, 4, []) :: (70, 10, 0, []) :: (71, 49, 119, [1, 7]) :: (74, 63, 81, []) :: (77, 0, 0, []) :: (78, 36, 85, []) :: k181_81
def k181_9 : List AE := (9, 5, 0, []) :: (10, 39, 7, [36]) :: (13, 3, 1, []) :: (14, 73, 145, []) :: (17, 5, 0, []) :: (18, 0, 0, []) :: (19, 49, 119, [1, 7]) :: (22, 0, 120, []) :: (24, 73, 145, []) :: (27, 5, 0, []) :: (28, 39, 7, [34]) :: (31, 0, 3, []) :: (32, 5, 0, []) :: (33, 39, 7, [36]) :: (36, 12, 0, []) :: (37, 5, 0, []) :: (38, 0, 0, []) :: (39, 49, 119, [1, 7]) :: (42, 42, 0, []) :: (43, 5, 0, []) :: (44, 0, 1, []) :: (45, 49, 158, [1, 7]) :: (48, 0, 0, []) :: (49, 6, 2, []) :: (50, 0, 0, []) :: (51, 6, 3, []) :: (52, 0, 0, []) :: (53, 6, 4, []) :: k181_55
def k181_0 : List AE := (0, 5, 0, []) :: (1, 49, 161, [0, 7]) :: (4, 5, 0, []) :: (5, 0, 0, []) :: (6, 40, 7, [36]) :: k181_9
def k182_55 : List AE := (55, 5, 0, []) :: (56, 39, 7, [35]) :: (59, 52, 0, []) :: []
def k182_27 : List AE := (27, 3, 2, []) :: (28, 0, 3, []) :: (29, 5, 0, []) :: (30, 39, 7, [35]) :: (33, 12, 0, []) :: (34, 73, 55, []) :: (37, 5, 0, []) :: (38, 39, 7, [33]) :: (41, 3, 2, []) :: (42, 5, 0, []) :: (43, 39, 7, [34]) :: (46, 3, 2, []) :: (47, 41, 0, []) :: (48, 42, 0, []) :: (49, 9, 2, [1]) :: (52, 36, 27, []) :: k182_55
def k182_12 : List AE := (12, 5, 0, []) :: (13, 3, 1, []) :: (14, 49, 181, [1, 7]) :: (17, 5, 0, []) :: (18, 5, 0, []) :: (19, 39, 7, [36]) :: (22, 40, 7, [35]) :: (25, 0, 0, []) :: (26, 6, 2, []) :: k182_27
def k182_0 : List AE := (0, 3, 1, []) :: (1, 0, 1, []) :: (2, 0, 20, []) :: (4, 48, 112, [3]) :: (7, 61, 12, []) :: (10, 0, (-1), []) :: (11, 52, 0, []) :: k182_12
def k183_28 : List AE := (28, 53, 0, []) :: []
def k183_27 : List AE := (27, 0, 0, []) :: k183_28
def k183_0 : List AE := (0, 3, 1, []) :: (1, 0, 0, []) :: (2, 5, 0, []) :: (3, 39, 7, [35]) :: (6, 0, 1, []) :: (7, 11, 0, []) :: (8, 48, 112, [3]) :: (11, 60, 27, []) :: (14, 3, 2, []) :: (15, 0, 0, []) :: (16, 0, 2, []) :: (17, 48, 112, [3]) :: (20, 60, 27, []) :: (23, 0, 1, []) :: (24, 36, 28, []) :: k183_27
def k184_24 : List AE := (24, 52, 0, []) :: []
def k184_22 : List AE := (22, 0, (-9), []) :: k184_24
def k184_0 : List AE := (0, 5, 0, []) :: (1, 3, 1, []) :: (2, 3, 2, []) :: (3, 49, 183, [2, 7]) :: (6, 60, 22, []) :: (9, 5, 0, []) :: (10, 39, 7, [33]) :: (13, 0, 3, []) :: (14, 3, 1, []) :: (15, 12, 0, []) :: (16, 3, 2, []) :: (17, 10, 0, []) :: (18, 41, 0, []) :: (19, 36, 24, []) :: k184_22
def k185_12 : List AE := (12, 5, 0, []) :: (13, 39, 7, [33]) :: (16, 0, 3, []) :: (17, 3, 1, []) :: (18, 12, 0, []) :: (19, 3, 2, []) :: (20, 10, 0, []) :: (21, 41, 0, []) :: (22, 6, 4, []) :: (24, 5, 0, []) :: (25, 39, 7, [33]) :: (28, 0, 3, []) :: (29, 3, 1, []) :: (30, 12, 0, []) :: (31, 3, 2, []) :: (32, 10, 0, []) :: (33, 3, 3, []) :: (34, 42, 0, []) :: (35, 3, 4, []) :: (37, 52, 0, []) :: []
def k185_0 : List AE := (0, 5, 0, []) :: (1, 3, 1, []) :: (2, 3, 2, []) :: (3, 49, 183, [2, 7]) :: (6, 61, 12, []) :: (9, 0, (-9), []) :: (11, 52, 0, []) :: k185_12
def k186_92 : List AE := (92, 0, 0, []) :: (93, 52, 0, []) :: []
def k186_86 : List AE := (86, 9, 1, [1]) :: (89, 36, 10, []) :: k186_92
def k186_78 : List AE := (78, 3, 2, []) :: (79, 61, 86, []) :: (82, 3, 1, []) :: (83, 0, 1, []) :: (84, 10, 0, []) :: (85, 52, 0, []) :: k186_86
def k186_71 : List AE := (71, 6, 2, []) :: (72, 9, 3, [1]) :: (75, 36, 34, []) :: k186_78
def k186_70 : List AE := (70, 0, 0, []) :: k186_71
def k186_34 : List AE := (34, 3, 3, []) :: (35, 0, 3, []) :: (36, 73, 78, []) :: (39, 3, 2, []) :: (40, 60, 78, []) :: (43, 5, 0, []) :: (44, 39, 7, [33]) :: (47, 0, 3, []) :: (48, 3, 1, []) :: (49, 12, 0, []) :: (50, 3, 3, []) :: (51, 10, 0, []) :: (52, 41, 0, []) :: (53, 5, 0, []) :: (54, 39, 7, [34]) :: (57, 0, 3, []) :: (58, 3, 1, []) :: (59, 12, 0, []) :: (60, 3, 3, []) :: (61, 10, 0, []) :: (62, 41, 0, []) :: (63, 71, 70, []) :: (66, 0, 1, []) :: (67, 36, 71, []) :: k186_70
def k186_31 : List AE := (31, 6, 2, []) :: (32, 0, 0, []) :: (33, 6, 3, []) :: k186_34
def k186_30 : List AE := (30, 0, 0, []) :: k186_31
def k186_10 : List AE := (10, 3, 1, []) :: (11, 5, 0, []) :: (12, 39, 7, [35]) :: (15, 73, 92, []) :: (18, 3, 1, []) :: (19, 5, 0, []) :: (20, 39, 7, [36]) :: (23, 73, 30, []) :: (26, 0, 1, []) :: (27, 36, 31, []) :: k186_30
def k186_0 : List AE := (0, 5, 0, []) :: (1, 5, 0, []) :: (2, 39, 7, [35]) :: (5, 49, 181, [1, 7]) :: (8, 0, 0, []) :: (9, 6, 1, []) :: k186_10
def k187_147 : List AE := (147, 3, 4, []) :: (149, 52, 0, []) :: []
def k187_140 : List AE := (140, 42, 0, []) :: (141, 9, 6, [1]) :: (144, 36, 78, []) :: k187_147
def k187_137 : List AE := (137, 4, 7, []) :: (139, 29, 0, []) :: k187_140
def k187_123 : List AE := (123, 4, 7, []) :: (125, 1, 99, []) :: (128, 27, 0, []) :: (129, 65, 137, []) :: (132, 0, 99, []) :: (134, 36, 140, []) :: k187_137
def k187_78 : List AE := (78, 3, 6, []) :: (80, 3, 4, []) :: (82, 73, 147, []) :: (85, 5, 0, []) :: (86, 39, 7, [39]) :: (89, 0, 40, []) :: (91, 3, 1, []) :: (92, 12, 0, []) :: (93, 3, 2, []) :: (94, 10, 0, []) :: (95, 3, 6, []) :: (97, 10, 0, []) :: (98, 45, 0, []) :: (99, 7, 7, []) :: (101, 5, 0, []) :: (102, 39, 7, [8]) :: (105, 0, 17, []) :: (107, 3, 3, []) :: (108, 10, 0, []) :: (109, 3, 6, []) :: (111, 10, 0, []) :: (112, 4, 7, []) :: (114, 1, 0, []) :: (115, 27, 0, []) :: (116, 63, 123, []) :: (119, 0, 0, []) :: (120, 36, 140, []) :: k187_123
def k187_75 : List AE := (75, 0, 0, []) :: (76, 6, 6, []) :: k187_78
def k187_72 : List AE := (72, 0, (-12), []) :: (74, 52, 0, []) :: k187_75
def k187_55 : List AE := (55, 3, 2, []) :: (56, 62, 72, []) :: (59, 3, 2, []) :: (60, 5, 0, []) :: (61, 39, 7, [38]) :: (64, 3, 1, []) :: (65, 41, 0, []) :: (66, 3, 4, []) :: (68, 11, 0, []) :: (69, 75, 75, []) :: k187_72
def k187_39 : List AE := (39, 5, 0, []) :: (40, 3, 1, []) :: (41, 0, 1, []) :: (42, 49, 191, [2, 7]) :: (45, 6, 5, []) :: (47, 3, 5, []) :: (49, 60, 55, []) :: (52, 3, 5, []) :: (54, 52, 0, []) :: k187_55
def k187_37 : List AE := (37, 0, (-1), []) :: (38, 52, 0, []) :: k187_39
def k187_0 : List AE := (0, 3, 1, []) :: (1, 48, 188, [1]) :: (4, 60, 37, []) :: (7, 5, 0, []) :: (8, 3, 3, []) :: (9, 49, 113, [1, 7]) :: (12, 60, 37, []) :: (15, 3, 4, []) :: (17, 0, 0, []) :: (18, 0, 8, []) :: (20, 48, 112, [3]) :: (23, 60, 37, []) :: (26, 3, 3, []) :: (27, 3, 4, []) :: (29, 10, 0, []) :: (30, 5, 0, []) :: (31, 39, 7, [5]) :: (34, 75, 39, []) :: k187_37
def k188_0 : List AE := (0, 3, 0, []) :: (1, 0, 0, []) :: (2, 0, 3, []) :: (3, 48, 112, [3]) :: (6, 53, 0, []) :: []
def k189_90 : List AE := (90, 0, 1, []) :: (91, 52, 0, []) :: []
def k189_64 : List AE := (64, 3, 4, []) :: (66, 0, 40, []) :: (68, 73, 90, []) :: (71, 5, 0, []) :: (72, 39, 7, [39]) :: (75, 0, 40, []) :: (77, 3, 1, []) :: (78, 12, 0, []) :: (79, 3, 4, []) :: (81, 10, 0, []) :: (82, 1, 0, []) :: (83, 46, 0, []) :: (84, 9, 4, [1]) :: (87, 36, 64, []) :: k189_90
def k189_60 : List AE := (60, 42, 0, []) :: (61, 0, 0, []) :: (62, 6, 4, []) :: k189_64
def k189_59 : List AE := (59, 3, 3, []) :: k189_60
def k189_39 : List AE := (39, 5, 0, []) :: (40, 39, 7, [37]) :: (43, 3, 1, []) :: (44, 3, 2, []) :: (45, 42, 0, []) :: (46, 5, 0, []) :: (47, 39, 7, [38]) :: (50, 3, 1, []) :: (51, 3, 2, []) :: (52, 63, 59, []) :: (55, 0, 0, []) :: (56, 36, 60, []) :: k189_59
def k189_28 : List AE := (28, 3, 2, []) :: (29, 62, 39, []) :: (32, 3, 3, []) :: (33, 63, 39, []) :: (36, 0, (-14), []) :: (38, 52, 0, []) :: k189_39
def k189_26 : List AE := (26, 0, (-1), []) :: (27, 52, 0, []) :: k189_28
def k189_0 : List AE := (0, 3, 1, []) :: (1, 48, 188, [1]) :: (4, 60, 26, []) :: (7, 3, 2, []) :: (8, 0, (-1), []) :: (9, 0, 3, []) :: (10, 48, 112, [3]) :: (13, 60, 26, []) :: (16, 3, 2, []) :: (17, 62, 28, []) :: (20, 3, 3, []) :: (21, 0, 40, []) :: (23, 75, 28, []) :: k189_26
def k190_83 : List AE := (83, 46, 0, []) :: (84, 0, 1, []) :: (85, 52, 0, []) :: []
def k190_81 : List AE := (81, 3, 3, []) :: (82, 28, 0, []) :: k190_83
def k190_65 : List AE := (65, 5, 0, []) :: (66, 39, 7, [37]) :: (69, 3, 1, []) :: (70, 41, 0, []) :: (71, 0, 1, []) :: (72, 71, 81, []) :: (75, 3, 3, []) :: (76, 31, 0, []) :: (77, 28, 0, []) :: (78, 36, 83, []) :: k190_81
def k190_40 : List AE := (40, 5, 0, []) :: (41, 39, 7, [39]) :: (44, 0, 40, []) :: (46, 3, 1, []) :: (47, 12, 0, []) :: (48, 3, 2, []) :: (49, 10, 0, []) :: (50, 5, 0, []) :: (51, 39, 7, [37]) :: (54, 3, 1, []) :: (55, 41, 0, []) :: (56, 61, 65, []) :: (59, 3, 3, []) :: (60, 30, 0, []) :: (61, 28, 0, []) :: (62, 36, 83, []) :: k190_65
def k190_21 : List AE := (21, 3, 2, []) :: (22, 0, 0, []) :: (23, 5, 0, []) :: (24, 39, 7, [38]) :: (27, 3, 1, []) :: (28, 41, 0, []) :: (29, 0, 1, []) :: (30, 11, 0, []) :: (31, 48, 112, [3]) :: (34, 61, 40, []) :: (37, 0, (-12), []) :: (39, 52, 0, []) :: k190_40
def k190_9 : List AE := (9, 5, 0, []) :: (10, 39, 7, [37]) :: (13, 3, 1, []) :: (14, 41, 0, []) :: (15, 63, 21, []) :: (18, 0, (-11), []) :: (20, 52, 0, []) :: k190_21
def k190_0 : List AE := (0, 3, 1, []) :: (1, 48, 188, [1]) :: (4, 61, 9, []) :: (7, 0, (-1), []) :: (8, 52, 0, []) :: k190_9
def k191_30 : List AE := (30, 52, 0, []) :: []
def k191_29 : List AE := (29, 0, 0, []) :: k191_30
def k191_14 : List AE := (14, 5, 0, []) :: (15, 39, 7, [37]) :: (18, 3, 1, []) :: (19, 41, 0, []) :: (20, 3, 2, []) :: (21, 70, 29, []) :: (24, 0, (-13), []) :: (26, 36, 30, []) :: k191_29
def k191_0 : List AE := (0, 5, 0, []) :: (1, 39, 7, [37]) :: (4, 3, 1, []) :: (5, 41, 0, []) :: (6, 63, 14, []) :: (9, 0, (-11), []) :: (11, 36, 30, []) :: k191_14
def k192_67 : List AE := (67, 52, 0, []) :: []
def k192_65 : List AE := (65, 0, (-12), []) :: k192_67
def k192_34 : List AE := (34, 3, 3, []) :: (35, 0, 0, []) :: (36, 5, 0, []) :: (37, 39, 7, [38]) :: (40, 3, 1, []) :: (41, 41, 0, []) :: (42, 0, 1, []) :: (43, 11, 0, []) :: (44, 48, 112, [3]) :: (47, 60, 65, []) :: (50, 5, 0, []) :: (51, 39, 7, [39]) :: (54, 0, 40, []) :: (56, 3, 1, []) :: (57, 12, 0, []) :: (58, 3, 3, []) :: (59, 10, 0, []) :: (60, 45, 0, []) :: (61, 29, 0, []) :: (62, 36, 67, []) :: k192_65
def k192_18 : List AE := (18, 5, 0, []) :: (19, 3, 1, []) :: (20, 3, 2, []) :: (21, 49, 191, [2, 7]) :: (24, 6, 4, []) :: (26, 3, 4, []) :: (28, 60, 34, []) :: (31, 3, 4, []) :: (33, 52, 0, []) :: k192_34
def k192_16 : List AE := (16, 0, (-1), []) :: (17, 52, 0, []) :: k192_18
def k192_0 : List AE := (0, 3, 1, []) :: (1, 48, 188, [1]) :: (4, 60, 16, []) :: (7, 3, 2, []) :: (8, 0, 0, []) :: (9, 0, 3, []) :: (10, 48, 112, [3]) :: (13, 61, 18, []) :: k192_16
def k193_34 : List AE := (34, 53, 0, []) :: []
def k193_33 : List AE := (33, 0, 0, []) :: k193_34
def k193_24 : List AE := (24, 3, 1, []) :: (25, 0, 2, []) :: (26, 71, 33, []) :: (29, 0, 1, []) :: (30, 36, 34, []) :: k193_33
def k193_12 : List AE := (12, 3, 1, []) :: (13, 0, 1, []) :: (14, 71, 24, []) :: (17, 3, 2, []) :: (18, 48, 188, [1]) :: (21, 36, 34, []) :: k193_24
def k193_0 : List AE := (0, 3, 1, []) :: (1, 61, 12, []) :: (4, 5, 0, []) :: (5, 3, 2, []) :: (6, 49, 113, [1, 7]) :: (9, 36, 34, []) :: k193_12
def k194_89 : List AE := (89, 42, 0, []) :: (90, 0, 1, []) :: (91, 52, 0, []) :: []
def k194_88 : List AE := (88, 0, 0, []) :: k194_89
def k194_68 : List AE := (68, 42, 0, []) :: (69, 5, 0, []) :: (70, 39, 7, [42]) :: (73, 3, 1, []) :: (74, 3, 2, []) :: (75, 0, 1, []) :: (76, 71, 88, []) :: (79, 5, 0, []) :: (80, 39, 7, [38]) :: (83, 3, 3, []) :: (84, 41, 0, []) :: (85, 36, 89, []) :: k194_88
def k194_67 : List AE := (67, 3, 3, []) :: k194_68
def k194_47 : List AE := (47, 42, 0, []) :: (48, 5, 0, []) :: (49, 39, 7, [41]) :: (52, 3, 1, []) :: (53, 3, 2, []) :: (54, 0, 1, []) :: (55, 71, 67, []) :: (58, 5, 0, []) :: (59, 39, 7, [37]) :: (62, 3, 3, []) :: (63, 41, 0, []) :: (64, 36, 68, []) :: k194_67
def k194_46 : List AE := (46, 3, 2, []) :: k194_47
def k194_42 : List AE := (42, 0, (-1), []) :: (43, 36, 47, []) :: k194_46
def k194_18 : List AE := (18, 5, 0, []) :: (19, 39, 7, [40]) :: (22, 3, 1, []) :: (23, 3, 2, []) :: (24, 0, 2, []) :: (25, 70, 42, []) :: (28, 3, 2, []) :: (29, 0, 1, []) :: (30, 71, 46, []) :: (33, 5, 0, []) :: (34, 39, 7, [37]) :: (37, 3, 3, []) :: (38, 41, 0, []) :: (39, 63, 46, []) :: k194_42
def k194_16 : List AE := (16, 0, (-1), []) :: (17, 52, 0, []) :: k194_18
def k194_0 : List AE := (0, 3, 1, []) :: (1, 48, 188, [1]) :: (4, 60, 16, []) :: (7, 5, 0, []) :: (8, 3, 2, []) :: (9, 3, 3, []) :: (10, 49, 193, [2, 7]) :: (13, 61, 18, []) :: k194_16
def k195_53 : List AE := (53, 52, 0, []) :: []
def k195_52 : List AE := (52, 0, (-1), []) :: k195_53
def k195_25 : List AE := (25, 5, 0, []) :: (26, 5, 0, []) :: (27, 39, 7, [41]) :: (30, 3, 1, []) :: (31, 41, 0, []) :: (32, 49, 113, [1, 7]) :: (35, 60, 52, []) :: (38, 5, 0, []) :: (39, 39, 7, [6]) :: (42, 5, 0, []) :: (43, 39, 7, [41]) :: (46, 3, 1, []) :: (47, 41, 0, []) :: (48, 41, 0, []) :: (49, 36, 53, []) :: k195_52
def k195_24 : List AE := (24, 52, 0, []) :: k195_25
def k195_22 : List AE := (22, 0, 9, []) :: k195_24
def k195_0 : List AE := (0, 5, 0, []) :: (1, 39, 7, [40]) :: (4, 3, 1, []) :: (5, 41, 0, []) :: (6, 60, 25, []) :: (9, 5, 0, []) :: (10, 39, 7, [40]) :: (13, 3, 1, []) :: (14, 41, 0, []) :: (15, 63, 22, []) :: (18, 0, (-1), []) :: (19, 36, 24, []) :: k195_22
def k196_34 : List AE := (34, 53, 0, []) :: []
def k196_33 : List AE := (33, 0, 0, []) :: k196_34
def k196_29 : List AE := (29, 0, 1, []) :: (30, 36, 34, []) :: k196_33
def k196_19 : List AE := (19, 3, 1, []) :: (20, 0, 2, []) :: (21, 71, 33, []) :: (24, 3, 0, []) :: (25, 0, 3, []) :: (26, 71, 33, []) :: k196_29
def k196_0 : List AE := (0, 3, 1, []) :: (1, 60, 29, []) :: (4, 3, 1, []) :: (5, 3, 0, []) :: (6, 70, 29, []) :: (9, 3, 1, []) :: (10, 0, 1, []) :: (11, 71, 19, []) :: (14, 3, 0, []) :: (15, 0, 4, []) :: (16, 70, 29, []) :: k196_19
def k197_98 : List AE := (98, 52, 0, []) :: []
def k197_96 : List AE := (96, 0, (-13), []) :: k197_98
def k197_73 : List AE := (73, 3, 2, []) :: (74, 0, 10, []) :: (76, 73, 96, []) :: (79, 3, 3, []) :: (80, 3, 2, []) :: (81, 48, 196, [2]) :: (84, 60, 96, []) :: (87, 5, 0, []) :: (88, 39, 7, [41]) :: (91, 3, 1, []) :: (92, 41, 0, []) :: (93, 36, 98, []) :: k197_96
def k197_72 : List AE := (72, 52, 0, []) :: k197_73
def k197_70 : List AE := (70, 0, (-13), []) :: k197_72
def k197_42 : List AE := (42, 3, 3, []) :: (43, 0, 9, []) :: (45, 71, 73, []) :: (48, 3, 2, []) :: (49, 0, 10, []) :: (51, 5, 0, []) :: (52, 39, 7, [41]) :: (55, 3, 1, []) :: (56, 41, 0, []) :: (57, 10, 0, []) :: (58, 71, 70, []) :: (61, 5, 0, []) :: (62, 39, 7, [42]) :: (65, 3, 1, []) :: (66, 41, 0, []) :: (67, 36, 72, []) :: k197_70
def k197_29 : List AE := (29, 5, 0, []) :: (30, 3, 1, []) :: (31, 49, 195, [1, 7]) :: (34, 6, 3, []) :: (35, 3, 3, []) :: (36, 63, 42, []) :: (39, 0, (-11), []) :: (41, 52, 0, []) :: k197_42
def k197_27 : List AE := (27, 0, (-1), []) :: (28, 52, 0, []) :: k197_29
def k197_0 : List AE := (0, 3, 1, []) :: (1, 48, 188, [1]) :: (4, 60, 27, []) :: (7, 3, 2, []) :: (8, 0, 0, []) :: (9, 0, 5, []) :: (10, 48, 112, [3]) :: (13, 61, 29, []) :: (16, 3, 2, []) :: (17, 0, 10, []) :: (19, 0, 13, []) :: (21, 48, 112, [3]) :: (24, 61, 29, []) :: k197_27
def k198_29 : List AE := (29, 54, 0, []) :: []
def k198_0 : List AE := (0, 5, 0, []) :: (1, 39, 7, [47]) :: (4, 0, 30, []) :: (6, 73, 29, []) :: (9, 5, 0, []) :: (10, 39, 7, [46]) :: (13, 5, 0, []) :: (14, 39, 7, [47]) :: (17, 3, 1, []) :: (18, 42, 0, []) :: (19, 5, 0, []) :: (20, 32, 0, []) :: (21, 39, 7, [47]) :: (24, 0, 1, []) :: (25, 10, 0, []) :: (26, 40, 7, [47]) :: k198_29
def k199_0 : List AE := (0, 5, 0, []) :: (1, 0, 10, []) :: (3, 49, 198, [1, 7]) :: (6, 3, 1, []) :: (7, 5, 0, []) :: (8, 39, 7, [44]) :: (11, 10, 0, []) :: (12, 52, 0, []) :: []
def k200_0 : List AE := (0, 5, 0, []) :: (1, 0, 30, []) :: (3, 49, 198, [1, 7]) :: (6, 5, 0, []) :: (7, 3, 1, []) :: (8, 49, 199, [1, 7]) :: (11, 0, 3, []) :: (12, 12, 0, []) :: (13, 52, 0, []) :: []
def k201_69 : List AE := (69, 5, 0, []) :: (70, 3, 1, []) :: (71, 49, 199, [1, 7]) :: (74, 52, 0, []) :: []
def k201_52 : List AE := (52, 5, 0, []) :: (53, 0, 51, []) :: (55, 49, 198, [1, 7]) :: (58, 5, 0, []) :: (59, 3, 1, []) :: (60, 49, 199, [1, 7]) :: (63, 5, 0, []) :: (64, 39, 7, [44]) :: (67, 11, 0, []) :: (68, 52, 0, []) :: k201_69
def k201_38 : List AE := (38, 5, 0, []) :: (39, 0, 40, []) :: (41, 49, 198, [1, 7]) :: (44, 0, 0, []) :: (45, 5, 0, []) :: (46, 3, 1, []) :: (47, 49, 200, [1, 7]) :: (50, 11, 0, []) :: (51, 52, 0, []) :: k201_52
def k201_32 : List AE := (32, 5, 0, []) :: (33, 3, 1, []) :: (34, 49, 200, [1, 7]) :: (37, 52, 0, []) :: k201_38
def k201_0 : List AE := (0, 5, 0, []) :: (1, 39, 7, [43]) :: (4, 37, 69, [2, 32, 38, 52]) :: k201_32
def k202_0 : List AE := (0, 5, 0, []) :: (1, 0, 11, []) :: (3, 49, 198, [1, 7]) :: (6, 5, 0, []) :: (7, 3, 1, []) :: (8, 49, 201, [1, 7]) :: (11, 0, 2, []) :: (12, 12, 0, []) :: (13, 52, 0, []) :: []
def k203_64 : List AE := (64, 5, 0, []) :: (65, 3, 1, []) :: (66, 49, 202, [1, 7]) :: (69, 52, 0, []) :: []
def k203_33 : List AE := (33, 5, 0, []) :: (34, 39, 7, [43]) :: (37, 0, 3, []) :: (38, 71, 64, []) :: (41, 5, 0, []) :: (42, 0, 41, []) :: (44, 49, 198, [1, 7]) :: (47, 5, 0, []) :: (48, 3, 1, []) :: (49, 49, 202, [1, 7]) :: (52, 6, 2, []) :: (53, 3, 2, []) :: (54, 5, 0, []) :: (55, 5, 0, []) :: (56, 39, 7, [44]) :: (59, 49, 201, [1, 7]) :: (62, 10, 0, []) :: (63, 52, 0, []) :: k203_64
def k203_16 : List AE := (16, 5, 0, []) :: (17, 0, 20, []) :: (19, 49, 198, [1, 7]) :: (22, 5, 0, []) :: (23, 3, 1, []) :: (24, 49, 202, [1, 7]) :: (27, 5, 0, []) :: (28, 39, 7, [45]) :: (31, 11, 0, []) :: (32, 52, 0, []) :: k203_33
def k203_0 : List AE := (0, 5, 0, []) :: (1, 39, 7, [43]) :: (4, 0, 1, []) :: (5, 70, 16, []) :: (8, 5, 0, []) :: (9, 39, 7, [43]) :: (12, 0, 4, []) :: (13, 71, 33, []) :: k203_16
def k204_24 : List AE := (24, 3, 1, []) :: (25, 5, 0, []) :: (26, 39, 7, [45]) :: (29, 5, 0, []) :: (30, 39, 7, [44]) :: (33, 11, 0, []) :: (34, 13, 0, []) :: (35, 52, 0, []) :: []
def k204_0 : List AE := (0, 5, 0, []) :: (1, 0, 12, []) :: (3, 49, 198, [1, 7]) :: (6, 5, 0, []) :: (7, 39, 7, [45]) :: (10, 5, 0, []) :: (11, 39, 7, [44]) :: (14, 71, 24, []) :: (17, 5, 0, []) :: (18, 0, 1, []) :: (19, 40, 7, [48]) :: (22, 0, 0, []) :: (23, 52, 0, []) :: k204_24
def k205_66 : List AE := (66, 5, 0, []) :: (67, 3, 1, []) :: (68, 49, 204, [1, 7]) :: (71, 52, 0, []) :: []
def k205_65 : List AE := (65, 52, 0, []) :: k205_66
def k205_55 : List AE := (55, 3, 2, []) :: (56, 5, 0, []) :: (57, 5, 0, []) :: (58, 39, 7, [45]) :: (61, 49, 201, [1, 7]) :: (64, 10, 0, []) :: k205_65
def k205_24 : List AE := (24, 5, 0, []) :: (25, 39, 7, [43]) :: (28, 0, 5, []) :: (29, 71, 66, []) :: (32, 5, 0, []) :: (33, 0, 61, []) :: (35, 49, 198, [1, 7]) :: (38, 5, 0, []) :: (39, 3, 1, []) :: (40, 49, 204, [1, 7]) :: (43, 6, 2, []) :: (44, 5, 0, []) :: (45, 39, 7, [48]) :: (48, 60, 55, []) :: (51, 0, 0, []) :: (52, 36, 65, []) :: k205_55
def k205_0 : List AE := (0, 5, 0, []) :: (1, 39, 7, [43]) :: (4, 0, 4, []) :: (5, 71, 24, []) :: (8, 5, 0, []) :: (9, 0, 50, []) :: (11, 49, 198, [1, 7]) :: (14, 5, 0, []) :: (15, 3, 1, []) :: (16, 0, 2, []) :: (17, 10, 0, []) :: (18, 49, 204, [1, 7]) :: (21, 0, 1, []) :: (22, 17, 0, []) :: (23, 52, 0, []) :: k205_24
def k206_0 : List AE := (0, 5, 0, []) :: (1, 0, 13, []) :: (3, 49, 198, [1, 7]) :: (6, 5, 0, []) :: (7, 3, 1, []) :: (8, 49, 203, [1, 7]) :: (11, 5, 0, []) :: (12, 39, 7, [45]) :: (15, 17, 0, []) :: (16, 52, 0, []) :: []
def k207_61 : List AE := (61, 5, 0, []) :: (62, 3, 1, []) :: (63, 49, 206, [1, 7]) :: (66, 52, 0, []) :: []
def k207_39 : List AE := (39, 5, 0, []) :: (40, 39, 7, [43]) :: (43, 0, 5, []) :: (44, 71, 61, []) :: (47, 5, 0, []) :: (48, 0, 60, []) :: (50, 49, 198, [1, 7]) :: (53, 5, 0, []) :: (54, 3, 1, []) :: (55, 49, 206, [1, 7]) :: (58, 0, 2, []) :: (59, 12, 0, []) :: (60, 52, 0, []) :: k207_61
def k207_16 : List AE := (16, 5, 0, []) :: (17, 0, 31, []) :: (19, 49, 198, [1, 7]) :: (22, 5, 0, []) :: (23, 3, 1, []) :: (24, 49, 206, [1, 7]) :: (27, 6, 2, []) :: (28, 3, 2, []) :: (29, 5, 0, []) :: (30, 5, 0, []) :: (31, 39, 7, [44]) :: (34, 49, 205, [1, 7]) :: (37, 10, 0, []) :: (38, 52, 0, []) :: k207_39
def k207_0 : List AE := (0, 5, 0, []) :: (1, 39, 7, [43]) :: (4, 0, 2, []) :: (5, 70, 16, []) :: (8, 5, 0, []) :: (9, 39, 7, [43]) :: (12, 0, 3, []) :: (13, 71, 39, []) :: k207_16
def k208_137 : List AE := (137, 52, 0, []) :: []
def k208_135 : List AE := (135, 3, 5, []) :: k208_137
def k208_121 : List AE := (121, 6, 5, []) :: (123, 5, 0, []) :: (124, 39, 7, [48]) :: (127, 60, 135, []) :: (130, 0, (-15), []) :: (132, 36, 137, []) :: k208_135
def k208_116 : List AE := (116, 5, 0, []) :: (117, 3, 3, []) :: (118, 49, 207, [1, 7]) :: k208_121
def k208_103 : List AE := (103, 3, 2, []) :: (104, 0, 2, []) :: (105, 71, 116, []) :: (108, 5, 0, []) :: (109, 3, 3, []) :: (110, 49, 205, [1, 7]) :: (113, 36, 121, []) :: k208_116
def k208_90 : List AE := (90, 3, 2, []) :: (91, 0, 1, []) :: (92, 71, 103, []) :: (95, 5, 0, []) :: (96, 3, 3, []) :: (97, 49, 203, [1, 7]) :: (100, 36, 121, []) :: k208_103
def k208_44 : List AE := (44, 5, 0, []) :: (45, 3, 4, []) :: (47, 40, 7, [43]) :: (50, 5, 0, []) :: (51, 5, 0, []) :: (52, 39, 7, [41]) :: (55, 3, 1, []) :: (56, 41, 0, []) :: (57, 40, 7, [44]) :: (60, 5, 0, []) :: (61, 5, 0, []) :: (62, 39, 7, [7]) :: (65, 5, 0, []) :: (66, 39, 7, [44]) :: (69, 41, 0, []) :: (70, 40, 7, [45]) :: (73, 5, 0, []) :: (74, 0, 0, []) :: (75, 40, 7, [48]) :: (78, 3, 2, []) :: (79, 61, 90, []) :: (82, 5, 0, []) :: (83, 3, 3, []) :: (84, 49, 201, [1, 7]) :: (87, 36, 121, []) :: k208_90
def k208_42 : List AE := (42, 0, 0, []) :: (43, 52, 0, []) :: k208_44
def k208_21 : List AE := (21, 6, 4, []) :: (23, 3, 2, []) :: (24, 0, 0, []) :: (25, 0, 3, []) :: (26, 48, 112, [3]) :: (29, 60, 42, []) :: (32, 3, 4, []) :: (34, 0, 0, []) :: (35, 0, 5, []) :: (36, 48, 112, [3]) :: (39, 61, 44, []) :: k208_42
def k208_20 : List AE := (20, 0, (-1), []) :: k208_21
def k208_0 : List AE := (0, 5, 0, []) :: (1, 0, 0, []) :: (2, 40, 7, [47]) :: (5, 3, 1, []) :: (6, 48, 188, [1]) :: (9, 60, 20, []) :: (12, 5, 0, []) :: (13, 3, 1, []) :: (14, 49, 195, [1, 7]) :: (17, 36, 21, []) :: k208_20
def k209_25 : List AE := (25, 52, 0, []) :: []
def k209_23 : List AE := (23, 0, (-3), []) :: k209_25
def k209_0 : List AE := (0, 3, 1, []) :: (1, 0, 0, []) :: (2, 5, 0, []) :: (3, 39, 7, [47]) :: (6, 0, 1, []) :: (7, 11, 0, []) :: (8, 48, 112, [3]) :: (11, 60, 23, []) :: (14, 5, 0, []) :: (15, 39, 7, [46]) :: (18, 3, 1, []) :: (19, 41, 0, []) :: (20, 36, 25, []) :: k209_23
def k210_103 : List AE := (103, 0, (-1), []) :: (104, 52, 0, []) :: []
def k210_98 : List AE := (98, 5, 0, []) :: (99, 39, 7, [47]) :: (102, 52, 0, []) :: k210_103
def k210_93 : List AE := (93, 5, 0, []) :: (94, 39, 7, [12]) :: (97, 52, 0, []) :: k210_98
def k210_88 : List AE := (88, 5, 0, []) :: (89, 39, 7, [35]) :: (92, 52, 0, []) :: k210_93
def k210_86 : List AE := (86, 3, 2, []) :: (87, 52, 0, []) :: k210_88
def k210_78 : List AE := (78, 10, 0, []) :: (79, 6, 2, []) :: (80, 9, 3, [1]) :: (83, 36, 52, []) :: k210_86
def k210_77 : List AE := (77, 0, 1, []) :: k210_78
def k210_52 : List AE := (52, 3, 3, []) :: (53, 5, 0, []) :: (54, 39, 7, [5]) :: (57, 73, 86, []) :: (60, 3, 2, []) :: (61, 5, 0, []) :: (62, 39, 7, [8]) :: (65, 0, 33, []) :: (67, 3, 3, []) :: (68, 10, 0, []) :: (69, 41, 0, []) :: (70, 63, 77, []) :: (73, 0, 0, []) :: (74, 36, 78, []) :: k210_77
def k210_50 : List AE := (50, 0, 0, []) :: (51, 6, 3, []) :: k210_52
def k210_45 : List AE := (45, 5, 0, []) :: (46, 39, 7, [1]) :: (49, 52, 0, []) :: k210_50
def k210_40 : List AE := (40, 5, 0, []) :: (41, 39, 7, [5]) :: (44, 52, 0, []) :: k210_45
def k210_0 : List AE := (0, 0, 0, []) :: (1, 6, 2, []) :: (2, 3, 1, []) :: (3, 37, 103, [0, 40, 45, 50, 88, 93, 98]) :: k210_40
def k211_58 : List AE := (58, 54, 0, []) :: []
def k211_42 : List AE := (42, 5, 0, []) :: (43, 32, 0, []) :: (44, 39, 7, [51]) :: (47, 0, 1, []) :: (48, 10, 0, []) :: (49, 40, 7, [51]) :: (52, 9, 4, [1]) :: (55, 36, 3, []) :: k211_58
def k211_29 : List AE := (29, 5, 1, []) :: (30, 3, 4, []) :: (32, 5, 0, []) :: (33, 39, 7, [50]) :: (36, 5, 0, []) :: (37, 39, 7, [51]) :: (40, 41, 0, []) :: (41, 42, 0, []) :: k211_42
def k211_3 : List AE := (3, 3, 4, []) :: (5, 3, 2, []) :: (6, 73, 58, []) :: (9, 3, 3, []) :: (10, 60, 29, []) :: (13, 5, 0, []) :: (14, 39, 7, [50]) :: (17, 5, 0, []) :: (18, 39, 7, [51]) :: (21, 5, 1, []) :: (22, 3, 4, []) :: (24, 41, 0, []) :: (25, 42, 0, []) :: (26, 36, 42, []) :: k211_29
def k211_0 : List AE := (0, 0, 0, []) :: (1, 6, 4, []) :: k211_3
def k212_0 : List AE := (0, 5, 0, []) :: (1, 0, 0, []) :: (2, 40, 7, [51]) :: (5, 5, 0, []) :: (6, 39, 7, [52]) :: (9, 0, 0, []) :: (10, 5, 0, []) :: (11, 39, 7, [5]) :: (14, 42, 0, []) :: (15, 5, 0, []) :: (16, 39, 7, [52]) :: (19, 0, 1, []) :: (20, 5, 0, []) :: (21, 39, 7, [1]) :: (24, 42, 0, []) :: (25, 5, 0, []) :: (26, 39, 7, [52]) :: (29, 0, 2, []) :: (30, 5, 0, []) :: (31, 39, 7, [0]) :: (34, 42, 0, []) :: (35, 5, 0, []) :: (36, 39, 7, [52]) :: (39, 0, 3, []) :: (40, 5, 0, []) :: (41, 39, 7, [10]) :: (44, 42, 0, []) :: (45, 5, 0, []) :: (46, 5, 0, []) :: (47, 39, 7, [52]) :: (50, 0, 4, []) :: (51, 3, 1, []) :: (52, 49, 211, [3, 7]) :: (55, 5, 0, []) :: (56, 5, 0, []) :: (57, 39, 7, [2]) :: (60, 0, 4, []) :: (61, 3, 1, []) :: (62, 49, 211, [3, 7]) :: (65, 5, 0, []) :: (66, 5, 0, []) :: (67, 39, 7, [3]) :: (70, 0, 4, []) :: (71, 3, 1, []) :: (72, 49, 211, [3, 7]) :: (75, 5, 0, []) :: (76, 5, 0, []) :: (77, 39, 7, [4]) :: (80, 0, 4, []) :: (81, 3, 1, []) :: (82, 49, 211, [3, 7]) :: (85, 5, 0, []) :: (86, 5, 0, []) :: (87, 39, 7, [6]) :: (90, 0, 8, []) :: (92, 3, 1, []) :: (93, 49, 211, [3, 7]) :: (96, 5, 0, []) :: (97, 5, 0, []) :: (98, 39, 7, [7]) :: (101, 0, 8, []) :: (103, 3, 1, []) :: (104, 49, 211, [3, 7]) :: (107, 5, 0, []) :: (108, 5, 0, []) :: (109, 39, 7, [8]) :: (112, 0, 41, []) :: (114, 3, 1, []) :: (115, 49, 211, [3, 7]) :: (118, 54, 0, []) :: []
def k213_0 : List AE := (0, 5, 0, []) :: (1, 0, 1, []) :: (2, 49, 212, [1, 7]) :: (5, 5, 0, []) :: (6, 0, 1, []) :: (7, 40, 7, [49]) :: (10, 0, 1, []) :: (11, 52, 0, []) :: []
def k214_10 : List AE := (10, 5, 0, []) :: (11, 0, 0, []) :: (12, 49, 212, [1, 7]) :: (15, 5, 0, []) :: (16, 5, 0, []) :: (17, 39, 7, [52]) :: (20, 0, 0, []) :: (21, 41, 0, []) :: (22, 40, 7, [5]) :: (25, 5, 0, []) :: (26, 5, 0, []) :: (27, 39, 7, [52]) :: (30, 0, 1, []) :: (31, 41, 0, []) :: (32, 40, 7, [1]) :: (35, 5, 0, []) :: (36, 5, 0, []) :: (37, 39, 7, [52]) :: (40, 0, 2, []) :: (41, 41, 0, []) :: (42, 40, 7, [0]) :: (45, 5, 0, []) :: (46, 5, 0, []) :: (47, 39, 7, [52]) :: (50, 0, 3, []) :: (51, 41, 0, []) :: (52, 40, 7, [10]) :: (55, 5, 0, []) :: (56, 39, 7, [8]) :: (59, 0, 0, []) :: (60, 41, 0, []) :: (61, 52, 0, []) :: []
def k214_0 : List AE := (0, 5, 0, []) :: (1, 39, 7, [49]) :: (4, 61, 10, []) :: (7, 0, (-3), []) :: (9, 52, 0, []) :: k214_10
def k215_0 : List AE := (0, 3, 0, []) :: (1, 3, 0, []) :: (2, 0, 1, []) :: (3, 20, 0, []) :: (4, 0, 1431655765, []) :: (7, 15, 0, []) :: (8, 11, 0, []) :: (9, 6, 0, []) :: (10, 3, 0, []) :: (11, 0, 858993459, []) :: (14, 15, 0, []) :: (15, 3, 0, []) :: (16, 0, 2, []) :: (17, 20, 0, []) :: (18, 0, 858993459, []) :: (21, 15, 0, []) :: (22, 10, 0, []) :: (23, 6, 0, []) :: (24, 3, 0, []) :: (25, 3, 0, []) :: (26, 0, 4, []) :: (27, 20, 0, []) :: (28, 10, 0, []) :: (29, 0, 252645135, []) :: (32, 15, 0, []) :: (33, 6, 0, []) :: (34, 3, 0, []) :: (35, 3, 0, []) :: (36, 0, 8, []) :: (38, 20, 0, []) :: (39, 10, 0, []) :: (40, 6, 0, []) :: (41, 3, 0, []) :: (42, 3, 0, []) :: (43, 0, 16, []) :: (45, 20, 0, []) :: (46, 10, 0, []) :: (47, 6, 0, []) :: (48, 3, 0, []) :: (49, 0, 63, []) :: (51, 15, 0, []) :: (52, 52, 0, []) :: []
def mtab : List Mrec := [
  (0, yX0_forget, cX0_forget, 1, none, k0_0),
  (0, yX0_play, cX0_play, 4, none, k1_0),
  (0, yX0_perform, cX0_perform, 4, (some .int), k2_0),
  (0, yX0_begin, cX0_begin, 2, none, k3_0),
  (0, yX0_climbs, cX0_climbs, 2, (some .int), k4_0),
  (0, yX0_yields, cX0_yields, 2, (some .int), k5_0),
  (0, yX0_shares, cX0_shares, 2, (some .int), k6_0),
  (0, yX0_tells, cX0_tells, 2, (some .int), k7_0),
  (0, yX0_partOf, cX0_partOf, 2, (some .int), k8_0),
  (1, yX1_takes, cX1_takes, 2, (some .int), k9_0),
  (1, yX1_rank, cX1_rank, 2, (some .int), k10_0),
  (1, yX1_steps, cX1_steps, 3, (some .int), k11_0),
  (1, yX1_goesByHalves, cX1_goesByHalves, 1, (some .boolean), k12_0),
  (1, yX1_isOrIsUnder, cX1_isOrIsUnder, 4, (some .boolean), k13_0),
  (2, yX2_renew, cX2_renew, 4, none, k14_0),
  (2, yX2_narrowed, cX2_narrowed, 2, (some .int), k15_0),
  (3, yX3_holdNothing, cX3_holdNothing, 1, none, k16_0),
  (3, yX3_holdPerson, cX3_holdPerson, 2, none, k17_0),
  (3, yX3_holdRowOf, cX3_holdRowOf, 2, none, k18_0),
  (4, yX4_ready, cX4_ready, 3, none, k19_0),
  (4, yX4_lineUp, cX4_lineUp, 3, none, k20_0),
  (4, yX4_tryUntil, cX4_tryUntil, 4, none, k21_0),
  (4, yX4_pass, cX4_pass, 4, none, k22_0),
  (4, yX4_go, cX4_go, 5, none, k23_0),
  (4, yX4_enters, cX4_enters, 6, (some .boolean), k24_0),
  (4, yX4_step, cX4_step, 3, none, k25_0),
  (5, yX5_add, cX5_add, 2, none, k26_0),
  (5, yX5_useUp, cX5_useUp, 1, none, k27_0),
  (5, yX5_readInto, cX5_readInto, 3, (some .int), k28_0),
  (5, yX5_readEntry, cX5_readEntry, 2, none, k29_0),
  (5, yX5_kindNamed, cX5_kindNamed, 1, (some .int), k30_0),
  (5, yX5_readPerson, cX5_readPerson, 7, none, k31_0),
  (5, yX5_readHat, cX5_readHat, 5, none, k32_0),
  (5, yX5_readRoom, cX5_readRoom, 3, none, k33_0),
  (5, yX5_skipBlanks, cX5_skipBlanks, 1, none, k34_0),
  (5, yX5_takeName, cX5_takeName, 1, none, k35_0),
  (5, yX5_nameIs, cX5_nameIs, 3, (some .boolean), k36_0),
  (5, yX5_word, cX5_word, 2, none, k37_0),
  (5, yX5_number, cX5_number, 5, (some .int), k38_0),
  (5, yX5_semicolonIsNext, cX5_semicolonIsNext, 1, (some .boolean), k39_0),
  (5, yX5_semicolon, cX5_semicolon, 1, none, k40_0),
  (6, yX6_has, cX6_has, 2, (some .boolean), k41_0),
  (6, yX6_clear, cX6_clear, 1, none, k42_0),
  (6, yX6_become, cX6_become, 2, none, k43_0),
  (6, yX6_addPerson, cX6_addPerson, 7, none, k44_0),
  (6, yX6_send, cX6_send, 4, none, k45_0),
  (6, yX6_addHat, cX6_addHat, 4, none, k46_0),
  (6, yX6_removeHat, cX6_removeHat, 3, none, k47_0),
  (6, yX6_closedFlights, cX6_closedFlights, 4, (some .int), k48_0),
  (6, yX6_arrivedSet, cX6_arrivedSet, 3, (some .int), k49_0),
  (6, yX6_floorSum, cX6_floorSum, 3, (some .int), k50_0),
  (6, yX6_peopleOn, cX6_peopleOn, 4, (some .int), k51_0),
  (6, yX6_latestArrival, cX6_latestArrival, 3, (some .int), k52_0),
  (6, yX6_allArrivedBy, cX6_allArrivedBy, 3, (some .boolean), k53_0),
  (7, yX7_feed, cX7_feed, 5, (some .int), k54_0),
  (7, yX7_tower, cX7_tower, 2, (some .int), k55_0),
  (7, yX7_room, cX7_room, 3, (some .int), k56_0),
  (7, yX7_hat, cX7_hat, 4, (some .int), k57_0),
  (7, yX7_sweep, cX7_sweep, 2, (some .int), k58_0),
  (7, yX7_closed, cX7_closed, 3, (some .int), k59_0),
  (7, yX7_person, cX7_person, 5, (some .int), k60_0),
  (7, yX7_personOf, cX7_personOf, 3, (some .int), k61_0),
  (7, yX7_mind, cX7_mind, 5, (some .int), k62_0),
  (7, yX7_sends, cX7_sends, 5, (some .int), k63_0),
  (7, yX7_stand, cX7_stand, 4, (some .int), k64_0),
  (7, yX7_minute, cX7_minute, 1, (some .int), k65_0),
  (7, yX7_minutes, cX7_minutes, 3, (some .int), k66_0),
  (7, yX7_clock, cX7_clock, 3, (some .int), k67_0),
  (7, yX7_when, cX7_when, 3, (some .int), k68_0),
  (7, yX7_last, cX7_last, 1, (some .int), k69_0),
  (7, yX7_waited, cX7_waited, 2, (some .int), k70_0),
  (7, yX7_crowd, cX7_crowd, 2, (some .int), k71_0),
  (7, yX7_there, cX7_there, 3, (some .int), k72_0),
  (7, yX7_drill, cX7_drill, 2, (some .int), k73_0),
  (7, yX7_early, cX7_early, 6, (some .int), k74_0),
  (7, yX7_swap, cX7_swap, 6, (some .int), k75_0),
  (7, yX7_enough, cX7_enough, 3, (some .int), k76_0),
  (7, yX7_worst, cX7_worst, 6, (some .int), k77_0),
  (7, yX7_rent, cX7_rent, 2, (some .int), k78_0),
  (7, yX7_cheapest, cX7_cheapest, 5, (some .int), k79_0),
  (7, yX7_seed, cX7_seed, 3, (some .int), k80_0),
  (7, yX7_lot, cX7_lot, 2, (some .int), k81_0),
  (7, yX7_prove, cX7_prove, 3, (some .int), k82_0),
  (7, yX7_row, cX7_row, 3, (some .int), k83_0),
  (7, yX7_alterRow, cX7_alterRow, 5, (some .int), k84_0),
  (7, yX7_judge, cX7_judge, 2, (some .int), k85_0),
  (7, yX7_starts, cX7_starts, 7, (some .int), k86_0),
  (7, yX7_sheet, cX7_sheet, 4, (some .int), k87_0),
  (7, yX7_put, cX7_put, 5, (some .int), k88_0),
  (7, yX7_item, cX7_item, 5, (some .int), k89_0),
  (7, yX7_shelf, cX7_shelf, 4, (some .int), k90_0),
  (7, yX7_taken, cX7_taken, 6, (some .int), k91_0),
  (7, yX7_act, cX7_act, 5, (some .int), k92_0),
  (7, yX7_trace, cX7_trace, 2, (some .int), k93_0),
  (7, yX7_many, cX7_many, 2, (some .int), k94_0),
  (7, yX7_keep, cX7_keep, 1, (some .int), k95_0),
  (7, yX7_again, cX7_again, 1, (some .int), k96_0),
  (7, yX7_within, cX7_within, 3, (some .boolean), k97_0),
  (7, yX7_isFloor, cX7_isFloor, 1, (some .boolean), k98_0),
  (7, yX7_isFlight, cX7_isFlight, 1, (some .boolean), k99_0),
  (7, yX7_isKind, cX7_isKind, 1, (some .boolean), k100_0),
  (7, yX7_isSheet, cX7_isSheet, 1, (some .boolean), k101_0),
  (7, yX7_isShelf, cX7_isShelf, 1, (some .boolean), k102_0),
  (7, yX7_isSort, cX7_isSort, 1, (some .boolean), k103_0),
  (7, yX7_isInRows, cX7_isInRows, 3, (some .boolean), k104_0),
  (7, yX7_tryToTheEnd, cX7_tryToTheEnd, 1, none, k105_0),
  (7, yX7_arrivesBy, cX7_arrivesBy, 4, (some .boolean), k106_0),
  (7, yX7_latestWithSwap, cX7_latestWithSwap, 4, (some .int), k107_0),
  (7, yX7_rentOfFloor, cX7_rentOfFloor, 5, (some .int), k108_0),
  (7, yX7_passAndTell, cX7_passAndTell, 2, none, k109_0),
  (7, yX7_isRight, cX7_isRight, 3, (some .boolean), k110_0),
  (7, yX7_personOn, cX7_personOn, 3, (some .int), k111_0),
  (8, yX8_in, cX8_in, 3, (some .boolean), k112_0),
  (8, yX8_isPerson, cX8_isPerson, 2, (some .boolean), k113_0),
  (8, yX8_isFloor, cX8_isFloor, 1, (some .boolean), k114_0),
  (8, yX8_isFlight, cX8_isFlight, 1, (some .boolean), k115_0),
  (8, yX8_isStart, cX8_isStart, 1, (some .boolean), k116_0),
  (8, yX8_isMinute, cX8_isMinute, 1, (some .boolean), k117_0),
  (8, yX8_isKind, cX8_isKind, 2, (some .boolean), k118_0),
  (8, yX8_its, cX8_its, 2, (some .int), k119_0),
  (8, yX8_becomes, cX8_becomes, 3, none, k120_0),
  (8, yX8_feed, cX8_feed, 5, (some .int), k121_0),
  (8, yX8_byteAt, cX8_byteAt, 2, (some .int), k122_0),
  (8, yX8_isLetter, cX8_isLetter, 1, (some .boolean), k123_0),
  (8, yX8_isDigit, cX8_isDigit, 1, (some .boolean), k124_0),
  (8, yX8_advance, cX8_advance, 2, none, k125_0),
  (8, yX8_isWord, cX8_isWord, 3, (some .boolean), k126_0),
  (8, yX8_isMark, cX8_isMark, 2, (some .boolean), k127_0),
  (8, yX8_kindHere, cX8_kindHere, 1, (some .int), k128_0),
  (8, yX8_wantNumber, cX8_wantNumber, 4, (some .int), k129_0),
  (8, yX8_wantWord, cX8_wantWord, 3, none, k130_0),
  (8, yX8_wantEnd, cX8_wantEnd, 1, none, k131_0),
  (8, yX8_wantPerson, cX8_wantPerson, 6, none, k132_0),
  (8, yX8_wantHat, cX8_wantHat, 4, none, k133_0),
  (8, yX8_wantClause, cX8_wantClause, 1, none, k134_0),
  (8, yX8_tower, cX8_tower, 1, (some .int), k135_0),
  (8, yX8_turnsInto, cX8_turnsInto, 2, none, k136_0),
  (8, yX8_room, cX8_room, 3, (some .int), k137_0),
  (8, yX8_addHat, cX8_addHat, 4, none, k138_0),
  (8, yX8_hat, cX8_hat, 4, (some .int), k139_0),
  (8, yX8_sweep, cX8_sweep, 3, (some .int), k140_0),
  (8, yX8_isClosed, cX8_isClosed, 5, (some .boolean), k141_0),
  (8, yX8_closed, cX8_closed, 3, (some .int), k142_0),
  (8, yX8_person, cX8_person, 5, (some .int), k143_0),
  (8, yX8_takes, cX8_takes, 2, (some .int), k144_0),
  (8, yX8_rank, cX8_rank, 2, (some .int), k145_0),
  (8, yX8_orNot, cX8_orNot, 1, (some .int), k146_0),
  (8, yX8_personOf, cX8_personOf, 3, (some .int), k147_0),
  (8, yX8_mind, cX8_mind, 5, (some .int), k148_0),
  (8, yX8_setsOut, cX8_setsOut, 3, none, k149_0),
  (8, yX8_sends, cX8_sends, 5, (some .int), k150_0),
  (8, yX8_stand, cX8_stand, 4, (some .int), k151_0),
  (8, yX8_minute, cX8_minute, 1, (some .int), k152_0),
  (8, yX8_mayGo, cX8_mayGo, 3, (some .int), k153_0),
  (8, yX8_steps, cX8_steps, 7, (some .boolean), k154_0),
  (8, yX8_isThere, cX8_isThere, 2, (some .boolean), k155_0),
  (8, yX8_goes, cX8_goes, 4, none, k156_0),
  (8, yX8_minuteGoes, cX8_minuteGoes, 3, none, k157_0),
  (8, yX8_go, cX8_go, 3, none, k158_0),
  (8, yX8_minutes, cX8_minutes, 2, (some .int), k159_0),
  (8, yX8_clock, cX8_clock, 3, (some .int), k160_0),
  (8, yX8_lends, cX8_lends, 2, none, k161_0),
  (8, yX8_ends, cX8_ends, 1, none, k162_0),
  (8, yX8_tries, cX8_tries, 1, none, k163_0),
  (8, yX8_whenThen, cX8_whenThen, 2, (some .int), k164_0),
  (8, yX8_lastThen, cX8_lastThen, 4, (some .int), k165_0),
  (8, yX8_when, cX8_when, 2, (some .int), k166_0),
  (8, yX8_last, cX8_last, 1, (some .int), k167_0),
  (8, yX8_waited, cX8_waited, 2, (some .int), k168_0),
  (8, yX8_crowd, cX8_crowd, 2, (some .int), k169_0),
  (8, yX8_there, cX8_there, 5, (some .int), k170_0),
  (8, yX8_drill, cX8_drill, 2, (some .int), k171_0),
  (8, yX8_early, cX8_early, 4, (some .int), k172_0),
  (8, yX8_swap, cX8_swap, 7, (some .int), k173_0),
  (8, yX8_enough, cX8_enough, 7, (some .int), k174_0),
  (8, yX8_worst, cX8_worst, 6, (some .int), k175_0),
  (8, yX8_rentOf, cX8_rentOf, 4, (some .int), k176_0),
  (8, yX8_rent, cX8_rent, 2, (some .int), k177_0),
  (8, yX8_cheapest, cX8_cheapest, 5, (some .int), k178_0),
  (8, yX8_seed, cX8_seed, 3, (some .int), k179_0),
  (8, yX8_lot, cX8_lot, 2, (some .int), k180_0),
  (8, yX8_findRows, cX8_findRows, 5, none, k181_0),
  (8, yX8_prove, cX8_prove, 3, (some .int), k182_0),
  (8, yX8_isRow, cX8_isRow, 3, (some .boolean), k183_0),
  (8, yX8_row, cX8_row, 3, (some .int), k184_0),
  (8, yX8_alterRow, cX8_alterRow, 5, (some .int), k185_0),
  (8, yX8_judge, cX8_judge, 4, (some .int), k186_0),
  (8, yX8_starts, cX8_starts, 9, (some .int), k187_0),
  (8, yX8_isShelf, cX8_isShelf, 1, (some .boolean), k188_0),
  (8, yX8_sheet, cX8_sheet, 5, (some .int), k189_0),
  (8, yX8_put, cX8_put, 4, (some .int), k190_0),
  (8, yX8_lacksSort, cX8_lacksSort, 3, (some .int), k191_0),
  (8, yX8_item, cX8_item, 5, (some .int), k192_0),
  (8, yX8_isHeld, cX8_isHeld, 3, (some .boolean), k193_0),
  (8, yX8_shelf, cX8_shelf, 4, (some .int), k194_0),
  (8, yX8_kindOn, cX8_kindOn, 2, (some .int), k195_0),
  (8, yX8_isUnder, cX8_isUnder, 2, (some .boolean), k196_0),
  (8, yX8_taken, cX8_taken, 4, (some .int), k197_0),
  (8, yX8_ran, cX8_ran, 2, none, k198_0),
  (8, yX8_plainClimbs, cX8_plainClimbs, 2, (some .int), k199_0),
  (8, yX8_runnerClimbs, cX8_runnerClimbs, 2, (some .int), k200_0),
  (8, yX8_climbsIt, cX8_climbsIt, 2, (some .int), k201_0),
  (8, yX8_plainYields, cX8_plainYields, 2, (some .int), k202_0),
  (8, yX8_yieldsIt, cX8_yieldsIt, 3, (some .int), k203_0),
  (8, yX8_plainShares, cX8_plainShares, 2, (some .int), k204_0),
  (8, yX8_sharesIt, cX8_sharesIt, 3, (some .int), k205_0),
  (8, yX8_plainTells, cX8_plainTells, 2, (some .int), k206_0),
  (8, yX8_tellsIt, cX8_tellsIt, 3, (some .int), k207_0),
  (8, yX8_act, cX8_act, 6, (some .int), k208_0),
  (8, yX8_trace, cX8_trace, 2, (some .int), k209_0),
  (8, yX8_many, cX8_many, 4, (some .int), k210_0),
  (8, yX8_moveRow, cX8_moveRow, 5, none, k211_0),
  (8, yX8_moveAll, cX8_moveAll, 2, none, k212_0),
  (8, yX8_keep, cX8_keep, 1, (some .int), k213_0),
  (8, yX8_again, cX8_again, 1, (some .int), k214_0),
  (9, yJ6_bitCount_0f7a4, cJ6_bitCount_0f7a4, 1, (some .int), k215_0),
  (11, yJ0_length_8abf5, cJ0_length_8abf5, 1, (some .int), []),
  (11, yJ0_charAt_5068e, cJ0_charAt_5068e, 2, (some .char), [])
]
def nM : Nat := 218
def mcode (i : Nat) : List AE := (mtab.getD i (0, yX1_takes, cX1_takes, 0, none, [])).2.2.2.2.2
def fldT : List (Nat × Nat × Nat × Nat × Bool) := [(0, 15, 0, 4, false), (0, 19, 0, 5, false), (0, 23, 0, 0, false), (0, 26, 0, 1, false), (0, 29, 0, 2, false), (0, 9, 0, 3, false), (2, 9, 1, 0, false), (2, 19, 1, 1, false), (2, 15, 1, 2, false), (3, 9, 2, 0, false), (3, 15, 2, 1, false), (3, 18, 1, 0, true), (3, 23, 2, 2, false), (3, 24, 1, 1, true), (3, 27, 2, 3, false), (4, 33, 3, 8, false), (4, 37, 5, 0, true), (4, 15, 3, 1, false), (4, 42, 5, 1, true), (4, 45, 5, 2, true), (4, 18, 3, 2, false), (4, 21, 3, 3, false), (4, 59, 5, 7, true), (4, 30, 3, 6, false), (4, 9, 3, 0, false), (4, 66, 5, 13, true), (4, 76, 3, 7, false), (4, 24, 3, 4, false), (4, 27, 3, 5, false), (4, 79, 5, 5, true), (4, 86, 5, 3, true), (4, 89, 5, 4, true), (4, 103, 5, 12, true), (4, 115, 5, 6, true), (5, 15, 4, 1, false), (5, 9, 4, 0, false), (5, 24, 4, 2, false), (5, 27, 4, 4, false), (5, 74, 5, 0, true), (5, 77, 4, 3, false), (5, 105, 5, 8, true), (5, 114, 5, 12, true), (6, 49, 5, 0, false), (6, 56, 5, 8, false), (6, 42, 5, 12, false), (6, 59, 5, 13, false), (6, 9, 5, 1, false), (6, 15, 5, 2, false), (6, 18, 5, 3, false), (6, 21, 5, 4, false), (6, 24, 5, 5, false), (6, 27, 5, 6, false), (6, 30, 5, 7, false), (6, 33, 5, 9, false), (6, 36, 5, 10, false), (6, 39, 5, 11, false), (6, 46, 5, 14, false), (7, 32, 6, 5, false), (7, 70, 4, 1, true), (7, 16, 6, 1, false), (7, 10, 6, 0, false), (7, 85, 5, 14, true), (7, 92, 6, 8, false), (7, 95, 5, 0, true), (7, 98, 5, 12, true), (7, 105, 5, 8, true), (7, 126, 5, 13, true), (7, 142, 5, 1, true), (7, 145, 5, 2, true), (7, 148, 5, 3, true), (7, 151, 5, 4, true), (7, 154, 5, 5, true), (7, 157, 5, 6, true), (7, 160, 5, 7, true), (7, 25, 6, 4, false), (7, 187, 3, 3, true), (7, 190, 3, 6, true), (7, 38, 6, 6, false), (7, 41, 6, 7, false), (7, 47, 6, 9, false), (7, 229, 1, 0, true), (7, 232, 1, 1, true), (7, 233, 1, 2, true), (7, 53, 6, 10, false), (7, 262, 2, 0, true), (7, 265, 2, 2, true), (7, 266, 2, 3, true), (7, 60, 6, 11, false), (7, 282, 0, 4, true), (7, 285, 0, 3, true), (7, 19, 6, 2, false), (7, 296, 6, 3, false), (7, 303, 2, 1, true), (8, 105, 7, 5, false), (8, 29, 7, 8, false), (8, 112, 7, 9, false), (8, 115, 7, 12, false), (8, 35, 7, 11, false), (8, 120, 7, 15, false), (8, 123, 7, 14, false), (8, 137, 7, 13, false), (8, 140, 7, 16, false), (8, 144, 7, 17, false), (8, 169, 7, 18, false), (8, 179, 7, 19, false), (8, 38, 7, 22, false), (8, 41, 7, 23, false), (8, 44, 7, 24, false), (8, 47, 7, 25, false), (8, 50, 7, 26, false), (8, 199, 7, 20, false), (8, 53, 7, 27, false), (8, 56, 7, 28, false), (8, 59, 7, 29, false), (8, 219, 7, 21, false), (8, 228, 7, 35, false), (8, 7, 7, 0, false), (8, 231, 7, 1, false), (8, 13, 7, 2, false), (8, 17, 7, 3, false), (8, 20, 7, 4, false), (8, 23, 7, 6, false), (8, 26, 7, 7, false), (8, 62, 7, 30, false), (8, 65, 7, 31, false), (8, 68, 7, 32, false), (8, 32, 7, 10, false), (8, 316, 7, 36, false), (8, 74, 7, 34, false), (8, 71, 7, 33, false), (8, 80, 7, 38, false), (8, 83, 7, 39, false), (8, 77, 7, 37, false), (8, 87, 7, 40, false), (8, 90, 7, 41, false), (8, 93, 7, 42, false), (8, 342, 7, 47, false), (8, 96, 7, 46, false), (8, 348, 7, 44, false), (8, 354, 7, 43, false), (8, 366, 7, 45, false), (8, 369, 7, 48, false), (8, 99, 7, 50, false), (8, 387, 7, 51, false), (8, 102, 7, 52, false), (8, 398, 7, 49, false)]
def mthT : List (Nat × Nat × Nat × Bool) := [(0, 32, 4, false), (0, 36, 5, false), (0, 39, 6, false), (0, 42, 7, false), (0, 45, 3, false), (0, 49, 8, false), (4, 48, 10, false), (4, 53, 9, false), (4, 55, 20, false), (4, 62, 19, false), (4, 69, 22, false), (4, 72, 48, false), (4, 82, 23, false), (4, 92, 11, false), (4, 96, 24, false), (4, 100, 25, false), (4, 111, 12, false), (5, 19, 42, false), (5, 30, 34, false), (5, 33, 29, false), (5, 37, 35, false), (5, 42, 36, false), (5, 46, 32, false), (5, 51, 33, false), (5, 54, 30, false), (5, 58, 31, false), (5, 80, 38, false), (5, 86, 37, false), (5, 92, 39, false), (5, 98, 40, false), (5, 101, 44, false), (5, 110, 46, false), (5, 116, 216, false), (5, 120, 217, false), (5, 124, 97, true), (6, 52, 97, true), (6, 68, 45, false), (7, 66, 97, false), (7, 74, 26, false), (7, 78, 28, false), (7, 82, 27, false), (7, 88, 43, false), (7, 101, 99, false), (7, 108, 46, false), (7, 112, 47, false), (7, 116, 48, false), (7, 120, 100, false), (7, 123, 98, false), (7, 135, 44, false), (7, 139, 41, false), (7, 163, 9, false), (7, 168, 10, false), (7, 171, 45, false), (7, 174, 19, false), (7, 177, 22, false), (7, 180, 105, false), (7, 183, 52, false), (7, 193, 21, false), (7, 197, 51, false), (7, 200, 106, false), (7, 203, 107, false), (7, 207, 53, false), (7, 210, 108, false), (7, 214, 109, false), (7, 218, 104, false), (7, 222, 110, false), (7, 226, 101, false), (7, 239, 14, false), (7, 243, 15, false), (7, 246, 103, false), (7, 249, 102, false), (7, 252, 17, false), (7, 255, 18, false), (7, 259, 16, false), (7, 267, 111, false), (7, 270, 13, false), (7, 273, 0, false), (7, 276, 1, false), (7, 279, 2, false), (7, 288, 49, false), (7, 291, 215, false), (7, 300, 50, false), (8, 108, 112, false), (8, 126, 122, false), (8, 130, 123, false), (8, 134, 124, false), (8, 155, 126, false), (8, 173, 125, false), (8, 176, 127, false), (8, 182, 129, false), (8, 188, 130, false), (8, 196, 131, false), (8, 204, 128, false), (8, 208, 132, false), (8, 214, 133, false), (8, 222, 134, false), (8, 225, 136, false), (8, 234, 115, false), (8, 237, 116, false), (8, 240, 138, false), (8, 244, 117, false), (8, 247, 141, false), (8, 251, 118, false), (8, 254, 114, false), (8, 257, 113, false), (8, 260, 146, false), (8, 263, 144, false), (8, 266, 145, false), (8, 269, 120, false), (8, 273, 149, false), (8, 276, 119, false), (8, 279, 155, false), (8, 282, 153, false), (8, 285, 154, false), (8, 288, 156, false), (8, 291, 157, false), (8, 294, 158, false), (8, 297, 161, false), (8, 300, 162, false), (8, 303, 164, false), (8, 306, 163, false), (8, 309, 165, false), (8, 312, 176, false), (8, 319, 181, false), (8, 322, 183, false), (8, 325, 188, false), (8, 328, 191, false), (8, 333, 193, false), (8, 336, 195, false), (8, 339, 196, false), (8, 345, 198, false), (8, 351, 199, false), (8, 357, 200, false), (8, 360, 201, false), (8, 363, 202, false), (8, 372, 204, false), (8, 375, 203, false), (8, 378, 206, false), (8, 381, 205, false), (8, 384, 207, false), (8, 390, 211, false), (8, 394, 212, false)]
def cstT : List (Nat × Nat × Int) := [(7, 213, 1103515245), (8, 315, 1103515245), (9, 265, 1431655765), (9, 266, 858993459), (9, 267, 252645135)]
def cslT : List (Nat × Nat × Int) := [(8, 118, 255), (8, 147, 27), (8, 149, 96), (8, 151, (-1)), (8, 153, 1834661), (8, 159, 177237549), (8, 161, 269726508), (8, 163, 1758489), (8, 165, 237923154), (8, 167, 1888), (8, 186, 131638), (8, 192, 555), (8, 194, 47), (8, 202, 4797), (8, 212, 5879), (8, 217, 365647), (8, 331, 99)]
def mmxT : List (Nat × Nat × Bool) := [(4, 106, true), (6, 72, true), (7, 129, false), (7, 236, true)]
def fldP : List Nat := [259, 261, 254, 255, 256, 257, 280, 283, 286, 300, 302, 281, 304, 284, 306, 198, 111, 189, 115, 118, 190, 191, 133, 195, 188, 146, 197, 193, 194, 127, 121, 124, 143, 130, 225, 224, 227, 229, 113, 228, 137, 144, 110, 135, 141, 145, 114, 117, 120, 123, 126, 129, 132, 138, 139, 140, 148, 322, 226, 318, 317, 149, 325, 112, 142, 136, 147, 116, 119, 122, 125, 128, 131, 134, 321, 192, 196, 323, 324, 326, 282, 285, 287, 327, 301, 305, 307, 328, 260, 258, 319, 320, 303, 891, 894, 895, 898, 897, 901, 900, 899, 902, 903, 904, 905, 908, 909, 910, 911, 912, 906, 913, 914, 915, 907, 921, 886, 887, 888, 889, 890, 892, 893, 916, 917, 918, 896, 922, 920, 919, 924, 925, 923, 926, 927, 928, 933, 932, 930, 929, 931, 934, 936, 937, 938, 935]
def mthP : List Nat := [834, 842, 846, 854, 838, 850, 591, 592, 593, 639, 640, 601, 602, 606, 609, 616, 620, 373, 377, 381, 385, 390, 442, 470, 474, 484, 446, 452, 461, 457, 490, 465, 394, 404, 450, 559, 494, 358, 361, 369, 498, 502, 517, 520, 525, 533, 541, 544, 550, 555, 560, 563, 574, 587, 597, 631, 645, 635, 662, 674, 682, 690, 702, 723, 739, 751, 759, 767, 775, 783, 790, 793, 797, 801, 809, 813, 822, 826, 830, 727, 866, 731, 1051, 1063, 1067, 1070, 1085, 1059, 1113, 1098, 1103, 1109, 1080, 1094, 1118, 1076, 1124, 1136, 1139, 1142, 1154, 1157, 1165, 1168, 1175, 1179, 1182, 1186, 1202, 1198, 1222, 1234, 1238, 1242, 1230, 1226, 1218, 1258, 1262, 1266, 1254, 1274, 1314, 1335, 1343, 1359, 1362, 1383, 1391, 1395, 1410, 1414, 1406, 1402, 1422, 1430, 1418, 1438, 1426, 1434, 1458, 1454]
def codP : List Nat := [825, 829, 833, 841, 837, 845, 849, 857, 853, 562, 565, 608, 622, 815, 770, 778, 804, 796, 800, 590, 596, 638, 600, 605, 612, 619, 364, 501, 372, 384, 477, 487, 445, 473, 380, 388, 393, 455, 449, 464, 460, 558, 376, 505, 493, 497, 468, 528, 536, 730, 734, 665, 648, 693, 357, 368, 512, 516, 524, 532, 540, 554, 569, 573, 578, 582, 586, 626, 630, 644, 653, 657, 661, 669, 673, 681, 689, 697, 701, 709, 713, 717, 722, 738, 746, 750, 758, 766, 774, 782, 789, 808, 821, 861, 865, 875, 879, 360, 546, 519, 543, 761, 792, 785, 742, 634, 677, 685, 705, 726, 754, 812, 1053, 1178, 1170, 1138, 1141, 1156, 1167, 1225, 1205, 1050, 1066, 1069, 1072, 1062, 1088, 1116, 1083, 1101, 1106, 1112, 1097, 1121, 1079, 1058, 1127, 1131, 1145, 1135, 1149, 1160, 1153, 1164, 1185, 1189, 1181, 1174, 1193, 1201, 1197, 1209, 1213, 1241, 1245, 1237, 1233, 1229, 1221, 1217, 1249, 1261, 1265, 1257, 1269, 1277, 1253, 1273, 1281, 1285, 1289, 1293, 1297, 1301, 1305, 1309, 1317, 1313, 1321, 1325, 1329, 1338, 1334, 1346, 1342, 1350, 1354, 1358, 1361, 1370, 1374, 1365, 1378, 1386, 1382, 1394, 1397, 1390, 1413, 1417, 1409, 1405, 1425, 1421, 1433, 1429, 1441, 1437, 1401, 1445, 1449, 1461, 1457, 1453, 1465, 868, 397, 407]
def iniP : List Nat := [84, 84, 84, 84, 84, 84, 84, 84, 84, 94, 94, 94, 94, 94, 85, 85, 86, 86, 86, 82, 82, 82, 82, 82, 82, 82, 83, 83, 83, 83, 83, 83, 83, 83, 83, 83, 83, 83, 83, 83, 83, 81, 81, 81, 81, 81, 81, 81, 81, 81, 81, 81, 81, 81, 80, 80, 80, 80, 80, 80, 80, 80, 80, 80, 80, 80, 80, 80, 80, 80, 80, 80, 80, 80, 80, 80, 80, 80, 80, 80, 80, 80, 80, 80, 80, 80, 80, 80, 80, 80, 80, 80, 80, 80, 80, 80, 80, 80, 80, 80, 80, 80, 80, 80, 80, 80, 80, 80, 80, 80, 80, 80, 87, 87, 87, 87, 87, 87, 87, 87, 87, 87, 87, 87, 87, 87, 87, 87, 87, 87, 87, 87, 87, 87, 87, 87, 87, 87, 87, 87, 87, 87, 87, 87, 87, 87, 87, 87, 87, 87, 87, 87, 87, 87, 87, 87, 87, 87, 87, 87, 87, 87, 87, 87, 87, 87, 87, 87, 87, 87, 87, 87, 87, 87, 87, 87, 87, 87, 87, 87, 87, 87, 87, 87, 87, 87, 87, 87, 87, 87, 87, 87, 87, 87, 87, 87, 87, 87, 87, 87, 87, 87, 87, 87, 87, 87, 87, 87, 87, 87, 87, 87, 87, 87, 87, 95, 88, 88]
def kndP : List Nat := [823, 827, 831, 840, 836, 844, 848, 856, 852, 561, 564, 607, 621, 814, 768, 776, 802, 794, 798, 588, 595, 636, 598, 604, 611, 618, 362, 499, 370, 383, 476, 486, 444, 472, 379, 387, 392, 454, 448, 463, 459, 556, 374, 503, 491, 495, 466, 526, 534, 728, 732, 663, 646, 691, 355, 366, 510, 514, 522, 530, 538, 552, 567, 571, 576, 580, 584, 624, 628, 642, 651, 655, 659, 667, 671, 679, 687, 695, 699, 707, 711, 715, 720, 736, 744, 748, 756, 764, 772, 780, 787, 806, 819, 859, 863, 873, 877, 359, 545, 518, 542, 760, 791, 784, 741, 633, 676, 684, 704, 725, 753, 811, 1052, 1177, 1169, 1137, 1140, 1155, 1166, 1224, 1204, 1048, 1065, 1068, 1071, 1061, 1087, 1115, 1082, 1100, 1105, 1111, 1096, 1120, 1078, 1056, 1126, 1129, 1144, 1133, 1147, 1159, 1151, 1162, 1184, 1188, 1180, 1172, 1191, 1200, 1195, 1207, 1211, 1240, 1244, 1236, 1232, 1228, 1220, 1215, 1247, 1260, 1264, 1256, 1268, 1276, 1251, 1271, 1279, 1283, 1287, 1291, 1295, 1299, 1303, 1307, 1316, 1311, 1319, 1323, 1327, 1337, 1332, 1345, 1340, 1348, 1352, 1356, 1360, 1368, 1372, 1364, 1376, 1385, 1380, 1393, 1396, 1388, 1412, 1416, 1408, 1404, 1424, 1420, 1432, 1428, 1440, 1436, 1399, 1443, 1447, 1460, 1456, 1451, 1463, 867, 395, 405]
def selP : List Nat := [824, 828, 832, 25, 24, 26, 27, 29, 28, 0, 0, 0, 0, 0, 769, 777, 803, 795, 799, 589, 12, 637, 599, 13, 14, 15, 363, 500, 371, 1, 10, 11, 4, 9, 0, 2, 3, 6, 5, 8, 7, 557, 375, 504, 492, 496, 467, 527, 535, 729, 733, 664, 647, 692, 356, 367, 511, 515, 523, 531, 539, 553, 568, 572, 577, 581, 585, 625, 629, 643, 652, 656, 660, 668, 672, 680, 688, 696, 700, 708, 712, 716, 721, 737, 745, 749, 757, 765, 773, 781, 788, 807, 820, 860, 864, 874, 878, 0, 0, 0, 0, 0, 0, 0, 21, 16, 17, 18, 19, 20, 22, 23, 0, 44, 0, 0, 0, 0, 0, 50, 48, 1049, 31, 0, 0, 30, 34, 39, 33, 36, 37, 38, 35, 40, 32, 1057, 41, 1130, 42, 1134, 1148, 43, 1152, 1163, 45, 46, 0, 1173, 1192, 47, 1196, 1208, 1212, 54, 55, 53, 52, 51, 49, 1216, 1248, 57, 58, 56, 59, 60, 1252, 1272, 1280, 1284, 1288, 1292, 1296, 1300, 1304, 1308, 61, 1312, 1320, 1324, 1328, 62, 1333, 63, 1341, 1349, 1353, 1357, 0, 1369, 1373, 64, 1377, 65, 1381, 66, 0, 1389, 69, 70, 68, 67, 72, 71, 74, 73, 76, 75, 1400, 1444, 1448, 78, 77, 1452, 1464, 0, 396, 406]
def stF : List Bool := [false, false, false, false, false, false, false, false, false, true, true, true, true, true, false, false, false, false, false, false, false, false, false, false, false, false, false, false, false, false, false, false, false, false, false, false, false, false, false, false, false, false, false, false, false, false, false, false, false, false, false, false, false, false, false, false, false, false, false, false, false, false, false, false, false, false, false, false, false, false, false, false, false, false, false, false, false, false, false, false, false, false, false, false, false, false, false, false, false, false, false, false, false, false, false, false, false, true, true, true, true, true, true, true, false, false, false, false, false, false, false, false, true, false, true, true, true, true, true, false, false, false, false, true, true, false, false, false, false, false, false, false, false, false, false, false, false, false, false, false, false, false, false, false, false, false, true, false, false, false, false, false, false, false, false, false, false, false, false, false, false, false, false, false, false, false, false, false, false, false, false, false, false, false, false, false, false, false, false, false, false, false, false, false, false, false, false, false, true, false, false, false, false, false, false, false, true, false, false, false, false, false, false, false, false, false, false, false, false, false, false, false, false, false, false, true, false, false]
def acpyI : Nat := 62
def abvI : Nat := 11
end
section
/-! THE SHORT MACHINE: numbers are integers, references are cells' numbers; a step is a Prop (what must hold for the rest) -/
abbrev AV : Type := Int ⊕ (Int ⊕ Nat)
def vI (z : Int) : AV := .inl z
def vL (z : Int) : AV := .inr (.inl z)
def vR (k : Nat) : AV := .inr (.inr k)
abbrev AH : Type := Nat → Nat → Int
abbrev LcT : Type := List (Option AV)
def w32 (z : Int) : Int := (Int32.ofInt z).toInt
def w64 (z : Int) : Int := (Int64.ofInt z).toInt
def w8 (z : Int) : Int := (Int32.ofInt z).toInt8.toInt
def w16 (z : Int) : Int := (Int32.ofInt z).toInt16.toInt
def d32 (a b : Int) : Int := (Int32.ofInt a / Int32.ofInt b).toInt
def m32 (a b : Int) : Int := (Int32.ofInt a - Int32.ofInt a / Int32.ofInt b * Int32.ofInt b).toInt
def and32 (a b : Int) : Int := (Int32.ofInt a &&& Int32.ofInt b).toInt
def or32 (a b : Int) : Int := (Int32.ofInt a ||| Int32.ofInt b).toInt
def xor32 (a b : Int) : Int := (Int32.ofInt a ^^^ Int32.ofInt b).toInt
def shl32 (a b : Int) : Int := (Int32.ofInt a <<< (Int32.ofInt b &&& 31)).toInt
def shr32 (a b : Int) : Int := (Int32.ofInt a >>> (Int32.ofInt b &&& 31)).toInt
def ushr32 (a b : Int) : Int := ((Int32.ofInt a).toUInt32 >>> ((Int32.ofInt b).toUInt32 &&& Int32.toUInt32 31)).toInt32.toInt
def and64 (a b : Int) : Int := (Int64.ofInt a &&& Int64.ofInt b).toInt
def shr64 (a b : Int) : Int := (Int64.ofInt a >>> ((Int32.ofInt b).toInt64 &&& 63)).toInt
def ushr64 (a b : Int) : Int := ((Int64.ofInt a).toUInt64 >>> ((Int32.ofInt b).toInt64.toUInt64 &&& Int64.toUInt64 63)).toInt64.toInt
def l2i32 (a : Int) : Int := (Int64.ofInt a).toInt32.toInt
def cmp64 (a b : Int) : Int := if a > b then 1 else if a = b then 0 else -1
/-- one slot of one cell becomes v -/
def hu (h : AH) (k i : Nat) (v : Int) : AH := fun k' i' => if k' = k ∧ i' = i then v else h k' i'
/-- arraycopy -/
def hcpy (h : AH) (k0 k1 sp dp n : Nat) : AH := fun k i => if k = k1 ∧ dp ≤ i ∧ i < dp + n then h k0 (sp + (i - dp)) else h k i
def sh (k : Nat) : Nat × Nat × List Nat := if k = 2000 then (7, 6, []) else shl.getD k (9, 0, [])
def aboveF : Nat → Int := fun i => ([-1, 0, 0, 2, 1, 0] : List Int).getD i 0
def fv (h : AH) (k j c : Nat) : AV := match c with
  | 0 => vI (h k j)
  | 1 => vL (h k j)
  | 2 => vI (h k j)
  | t + 3 => vR t
def lget (ls : LcT) (i : Nat) : Option AV := match ls[i]? with
  | some (some v) => some v
  | _ => none
def stOK (ls : LcT) (i : Nat) : Bool := match i with
  | 0 => true
  | j + 1 => match ls[j]? with
    | some (some (.inr (.inl _))) => false
    | _ => true
def onI (st : List AV) (F : Int → List AV → Prop) : Prop := match st with
  | .inl a :: r => F a r
  | _ => False
def onL (st : List AV) (F : Int → List AV → Prop) : Prop := match st with
  | .inr (.inl a) :: r => F a r
  | _ => False
def onR (st : List AV) (F : Nat → List AV → Prop) : Prop := match st with
  | .inr (.inr a) :: r => F a r
  | _ => False
def swT (K : Int → Prop) (a lo : Int) : List Int → Prop
  | [] => True
  | t :: ts => (a = lo → K t) ∧ swT K a (lo + 1) ts
def lkT (K : Int → Prop) (a dflt : Int) : List Int → Prop
  | [] => K dflt
  | [_] => K dflt
  | k :: t :: r => (a = k → K t) ∧ (¬ a = k → lkT K a dflt r)
/-- a step; N: what must hold behind it, K: at a place jumped to, CR: a call, Q: an end -/
def stp (CR : Nat → List AV → AH → (Option AV → AH → Prop) → Prop) (Q : Option AV → AH → Prop) (K : Nat → LcT → List AV → AH → Prop) (op : Nat) (x : Int) (ys : List Int) (ls : LcT) (st : List AV) (h : AH) (N : LcT → List AV → AH → Prop) : Prop :=
  match op with
  | 0 => N ls (vI x :: st) h
  | 1 => N ls (vL x :: st) h
  | 2 => N ls (vR x.toNat :: st) h
  | 3 => match lget ls x.toNat with
    | some (.inl z) => N ls (vI z :: st) h
    | _ => False
  | 4 => match lget ls x.toNat with
    | some (.inr (.inl z)) => N ls (vL z :: st) h
    | _ => False
  | 5 => match lget ls x.toNat with
    | some (.inr (.inr z)) => N ls (vR z :: st) h
    | _ => False
  | 6 => onI st fun z r => (stOK ls x.toNat = true ∧ x.toNat < ls.length) ∧ N (ls.set x.toNat (some (vI z))) r h
  | 7 => onL st fun z r => (stOK ls x.toNat = true ∧ x.toNat + 1 < ls.length) ∧ N ((ls.set x.toNat (some (vL z))).set (x.toNat + 1) none) r h
  | 8 => onR st fun z r => (stOK ls x.toNat = true ∧ x.toNat < ls.length) ∧ N (ls.set x.toNat (some (vR z))) r h
  | 9 => match lget ls x.toNat with
    | some (.inl z) => N (ls.set x.toNat (some (vI (w32 (z + ys.headD 0))))) st h
    | _ => False
  | 10 => onI st fun b r => onI r fun a r => N ls (vI (w32 (a + b)) :: r) h
  | 11 => onI st fun b r => onI r fun a r => N ls (vI (w32 (a - b)) :: r) h
  | 12 => onI st fun b r => onI r fun a r => N ls (vI (w32 (a * b)) :: r) h
  | 13 => onI st fun b r => onI r fun a r => b ≠ 0 ∧ N ls (vI (d32 a b) :: r) h
  | 14 => onI st fun b r => onI r fun a r => b ≠ 0 ∧ N ls (vI (m32 a b) :: r) h
  | 15 => onI st fun b r => onI r fun a r => N ls (vI (and32 a b) :: r) h
  | 16 => onI st fun b r => onI r fun a r => N ls (vI (or32 a b) :: r) h
  | 17 => onI st fun b r => onI r fun a r => N ls (vI (xor32 a b) :: r) h
  | 18 => onI st fun b r => onI r fun a r => N ls (vI (shl32 a b) :: r) h
  | 19 => onI st fun b r => onI r fun a r => N ls (vI (shr32 a b) :: r) h
  | 20 => onI st fun b r => onI r fun a r => N ls (vI (ushr32 a b) :: r) h
  | 21 => onL st fun b r => onL r fun a r => N ls (vL (w64 (a + b)) :: r) h
  | 22 => onL st fun b r => onL r fun a r => N ls (vL (w64 (a - b)) :: r) h
  | 23 => onL st fun b r => onL r fun a r => N ls (vL (w64 (a * b)) :: r) h
  | 24 => onL st fun b r => onL r fun a r => N ls (vL (and64 a b) :: r) h
  | 25 => onI st fun b r => onL r fun a r => N ls (vL (shr64 a b) :: r) h
  | 26 => onI st fun b r => onL r fun a r => N ls (vL (ushr64 a b) :: r) h
  | 27 => onL st fun b r => onL r fun a r => N ls (vI (cmp64 a b) :: r) h
  | 28 => onI st fun a r => N ls (vL a :: r) h
  | 29 => onL st fun a r => N ls (vI (l2i32 a) :: r) h
  | 30 => onI st fun a r => N ls (vI (w8 a) :: r) h
  | 31 => onI st fun a r => N ls (vI (w16 a) :: r) h
  | 32 => match st with
    | .inr (.inl _) :: _ => False
    | v :: r => N ls (v :: v :: r) h
    | _ => False
  | 33 => match st with
    | .inl a :: .inr (.inr b) :: r => N ls (vI a :: vR b :: vI a :: vR b :: r) h
    | _ => False
  | 36 => K x.toNat ls st h
  | 37 => onI st fun a r => ((a < ys.headD 0 ∨ ys.headD 0 + (ys.length - 1 : Nat) ≤ a) → K x.toNat ls r h) ∧ swT (fun t => K t.toNat ls r h) a (ys.headD 0) ys.tail
  | 38 => onI st fun a r => lkT (fun t => K t.toNat ls r h) a x ys
  | 39 => onR st fun k r => ((sh k).1 = 0 ∧ (sh k).2.1 = x.toNat) ∧ N ls (fv h k (ys.headD 0).toNat ((sh k).2.2.getD (ys.headD 0).toNat 0) :: r) h
  | 40 => match st with
    | v :: .inr (.inr k) :: r => ((sh k).1 = 0 ∧ (sh k).2.1 = x.toNat) ∧ match (sh k).2.2.getD (ys.headD 0).toNat 9, v with
      | 0, .inl z => N ls r (hu h k (ys.headD 0).toNat z)
      | 1, .inr (.inl z) => N ls r (hu h k (ys.headD 0).toNat z)
      | 2, .inl z => (z = 0 ∨ z = 1) ∧ N ls r (hu h k (ys.headD 0).toNat z)
      | _, _ => False
    | _ => False
  | 41 => onI st fun j r => onR r fun k r => ((sh k).1 = 1 ∧ (0 ≤ j ∧ j < (sh k).2.1) ∧ N ls (vI (h k j.toNat) :: r) h) ∨ ((sh k).1 = 7 ∧ (0 ≤ j ∧ j < 6) ∧ k = 2000 ∧ N ls (vI (aboveF j.toNat) :: r) h)
  | 42 => onI st fun z r => onI r fun j r => onR r fun k r => (sh k).1 = 1 ∧ (0 ≤ j ∧ j < (sh k).2.1) ∧ N ls r (hu h k j.toNat z)
  | 43 => onI st fun j r => onR r fun k r => (sh k).1 = 2 ∧ (0 ≤ j ∧ j < (sh k).2.1) ∧ N ls (vI (h k j.toNat) :: r) h
  | 44 => onI st fun z r => onI r fun j r => onR r fun k r => (sh k).1 = 2 ∧ (0 ≤ j ∧ j < (sh k).2.1) ∧ N ls r (hu h k j.toNat (w8 z))
  | 45 => onI st fun j r => onR r fun k r => (sh k).1 = 3 ∧ (0 ≤ j ∧ j < (sh k).2.1) ∧ N ls (vL (h k j.toNat) :: r) h
  | 46 => onL st fun z r => onI r fun j r => onR r fun k r => (sh k).1 = 3 ∧ (0 ≤ j ∧ j < (sh k).2.1) ∧ N ls r (hu h k j.toNat z)
  | 47 => onI st fun j r => onR r fun k r => (4 ≤ (sh k).1 ∧ (sh k).1 ≤ 6) ∧ (0 ≤ j ∧ j < (sh k).2.1) ∧ N ls (vR ((sh k).2.2.getD 0 0 + (sh k).2.2.getD 1 0 * j.toNat) :: r) h
  | 48 => (st.length ≤ 4 + (ys.headD 0).toNat ∧ (ys.headD 0).toNat ≤ st.length) ∧ ∃ P, CR x.toNat (st.take (ys.headD 0).toNat).reverse h P ∧ ∀ r h', P r h' → N ls (r.toList ++ st.drop (ys.headD 0).toNat) h'
  | 49 => (st.length ≤ 5 + (ys.headD 0).toNat ∧ (ys.headD 0).toNat + 1 ≤ st.length) ∧ onR (st.drop (ys.headD 0).toNat) fun k r => ((sh k).1 = 0 ∧ (sh k).2.1 = (ys.getD 1 0).toNat) ∧ ∃ P, CR x.toNat (vR k :: (st.take (ys.headD 0).toNat).reverse) h P ∧ ∀ r' h', P r' h' → N ls (r'.toList ++ r) h'
  | 50 => (st.length ≤ 5 + (ys.headD 0).toNat ∧ (ys.headD 0).toNat + 1 ≤ st.length) ∧ onR (st.drop (ys.headD 0).toNat) fun k r => (1000 ≤ k ∧ k < 1012) ∧ ∃ P, CR x.toNat (vR k :: (st.take (ys.headD 0).toNat).reverse) h P ∧ ∀ r' h', P r' h' → N ls (r'.toList ++ r) h'
  | 51 => onI st fun n r => onI r fun dp r => onR r fun k1 r => onI r fun sp r => onR r fun k0 r => ((sh k0).1 = 1 ∧ (sh k1).1 = 1 ∧ r.length ≤ 4) ∧ (0 ≤ sp ∧ 0 ≤ dp ∧ 0 ≤ n ∧ sp + n ≤ (sh k0).2.1 ∧ dp + n ≤ (sh k1).2.1) ∧ N ls r (hcpy h k0 k1 sp.toNat dp.toNat n.toNat)
  | 55 => onI st fun b r => onI r fun a r => r.length ≤ 4 ∧ N ls (vI (max a b) :: r) h
  | 56 => onI st fun b r => onI r fun a r => r.length ≤ 4 ∧ N ls (vI (min a b) :: r) h
  | 52 => match st with
    | [.inl z] => Q (some (vI z)) h
    | _ => False
  | 53 => match st with
    | [.inl z] => (z = 0 ∨ z = 1) ∧ Q (some (vI z)) h
    | _ => False
  | 54 => match st with
    | [] => Q none h
    | _ => False
  | 60 => onI st fun a r => (a = 0 → K x.toNat ls r h) ∧ (¬ a = 0 → N ls r h)
  | 61 => onI st fun a r => (¬ a = 0 → K x.toNat ls r h) ∧ (a = 0 → N ls r h)
  | 62 => onI st fun a r => (a < 0 → K x.toNat ls r h) ∧ (¬ a < 0 → N ls r h)
  | 63 => onI st fun a r => (¬ a < 0 → K x.toNat ls r h) ∧ (a < 0 → N ls r h)
  | 64 => onI st fun a r => (0 < a → K x.toNat ls r h) ∧ (¬ 0 < a → N ls r h)
  | 65 => onI st fun a r => (¬ 0 < a → K x.toNat ls r h) ∧ (0 < a → N ls r h)
  | 70 => onI st fun b r => onI r fun a r => (a = b → K x.toNat ls r h) ∧ (¬ a = b → N ls r h)
  | 71 => onI st fun b r => onI r fun a r => (¬ a = b → K x.toNat ls r h) ∧ (a = b → N ls r h)
  | 72 => onI st fun b r => onI r fun a r => (a < b → K x.toNat ls r h) ∧ (¬ a < b → N ls r h)
  | 73 => onI st fun b r => onI r fun a r => (¬ a < b → K x.toNat ls r h) ∧ (a < b → N ls r h)
  | 74 => onI st fun b r => onI r fun a r => (b < a → K x.toNat ls r h) ∧ (¬ b < a → N ls r h)
  | 75 => onI st fun b r => onI r fun a r => (¬ b < a → K x.toNat ls r h) ∧ (b < a → N ls r h)
  | _ => False
def run1 (CR : Nat → List AV → AH → (Option AV → AH → Prop) → Prop) (Q : Option AV → AH → Prop) (K : Nat → LcT → List AV → AH → Prop) : List AE → LcT → List AV → AH → Prop
  | [] => fun _ _ _ => False
  | c :: cs => fun ls st h => stp CR Q K c.2.1 c.2.2.1 c.2.2.2 ls st h (run1 CR Q K cs)
def dropTo (n : Nat) : List AE → List AE
  | [] => []
  | e :: es => if e.1 = n then e :: es else dropTo n es
/-- the short form of an instruction -/
def fldAt (own i : Nat) : Option (Nat × Nat) := (fldT.find? (fun e => e.1 == own && e.2.1 == i)).map (fun e => (e.2.2.1, e.2.2.2.1))
def mthAt (own i : Nat) : Option Nat := (mthT.find? (fun e => e.1 == own && e.2.1 == i)).map (fun e => e.2.2.1)
def cstAt (own i : Nat) : Option Int := (cstT.find? (fun e => e.1 == own && e.2.1 == i)).map (fun e => e.2.2)
def cslAt (own i : Nat) : Option Int := (cslT.find? (fun e => e.1 == own && e.2.1 == i)).map (fun e => e.2.2)
def mrec (i : Nat) : Mrec := mtab.getD i (0, yX1_takes, cX1_takes, 0, none, [])
def vwOf (own : Nat) : Nat := ([0, 99, 1, 2, 3, 4, 5, 6, 7, 99, 99, 99, 99] : List Nat).getD own 99
def ccode : Jvm.ClassFile.Cond → Nat
  | .eq => 0
  | .ne => 1
  | .lt => 2
  | .ge => 3
  | .gt => 4
  | .le => 5
def npar (y : MethodName) : Option Nat := (parseMethodDescriptor y.desc).map (fun d => d.parameters.length)
def enc (own : Nat) (rk : Option FieldType) (pc : Nat) : Instr → Option (Nat × Int × List Int)
  | .iconst n => if -128 ≤ n ∧ n ≤ 127 then some (0, n, []) else none
  | .bipush n => if -128 ≤ n ∧ n ≤ 127 then some (0, n, []) else none
  | .sipush n => if -32768 ≤ n ∧ n ≤ 32767 then some (0, n, []) else none
  | .ldc i => if own = 5 ∧ i ∈ strI then some (2, 1000 + (strI.idxOf i : Int), []) else (cstAt own i).map (fun v => (0, v, []))
  | .ldc_w i => (cstAt own i).map (fun v => (0, v, []))
  | .ldc2_w i => (cslAt own i).map (fun v => (1, v, []))
  | .lconst n => some (1, n.val, [])
  | .iload i => some (3, i, [])
  | .iload_n i => some (3, i.val, [])
  | .lload i => some (4, i, [])
  | .lload_n i => some (4, i.val, [])
  | .aload i => some (5, i, [])
  | .aload_n i => some (5, i.val, [])
  | .istore i => some (6, i, [])
  | .istore_n i => some (6, i.val, [])
  | .lstore i => some (7, i, [])
  | .lstore_n i => some (7, i.val, [])
  | .astore i => some (8, i, [])
  | .astore_n i => some (8, i.val, [])
  | .iinc i n => some (9, i, [n])
  | .iadd => some (10, 0, [])
  | .isub => some (11, 0, [])
  | .imul => some (12, 0, [])
  | .idiv => some (13, 0, [])
  | .irem => some (14, 0, [])
  | .iand => some (15, 0, [])
  | .ior => some (16, 0, [])
  | .ixor => some (17, 0, [])
  | .ishl => some (18, 0, [])
  | .ishr => some (19, 0, [])
  | .iushr => some (20, 0, [])
  | .ladd => some (21, 0, [])
  | .lsub => some (22, 0, [])
  | .lmul => some (23, 0, [])
  | .land => some (24, 0, [])
  | .lshr => some (25, 0, [])
  | .lushr => some (26, 0, [])
  | .lcmp => some (27, 0, [])
  | .i2l => some (28, 0, [])
  | .l2i => some (29, 0, [])
  | .i2b => some (30, 0, [])
  | .i2s => some (31, 0, [])
  | .dup => some (32, 0, [])
  | .dup2 => some (33, 0, [])
  | .goto o => if 0 ≤ (pc : Int) + o then some (36, pc + o, []) else none
  | .tableswitch d lo hi os => if 0 ≤ (pc : Int) + d ∧ os.toList.all (fun o => decide (0 ≤ (pc : Int) + o)) = true ∧ hi = lo + os.size - 1 then some (37, pc + d, lo :: os.toList.map (fun o => pc + o)) else none
  | .lookupswitch d ps => if 0 ≤ (pc : Int) + d ∧ ps.toList.all (fun o => decide (0 ≤ (pc : Int) + o.2)) = true ∧ (ps.toList.zip (ps.toList.drop 1)).all (fun (a, next) => a.1 < next.1) = true then some (38, pc + d, ps.toList.flatMap (fun o => [o.1, pc + o.2])) else none
  | .getfield i => (fldAt own i).map (fun f => (39, (f.1 : Int), [(f.2 : Int)]))
  | .putfield i => (fldAt own i).map (fun f => (40, (f.1 : Int), [(f.2 : Int)]))
  | .getstatic i => if own = 1 ∧ i = abvI then some (2, 2000, []) else none
  | .iaload => some (41, 0, [])
  | .iastore => some (42, 0, [])
  | .baload => some (43, 0, [])
  | .bastore => some (44, 0, [])
  | .laload => some (45, 0, [])
  | .lastore => some (46, 0, [])
  | .aaload => some (47, 0, [])
  | .invokestatic i => if own = 6 ∧ i = acpyI then some (51, 0, []) else if (own, i, true) ∈ mmxT then some (55, 0, []) else if (own, i, false) ∈ mmxT then some (56, 0, []) else (mthAt own i).bind (fun m => (npar (mrec m).2.1).map (fun n => (48, (m : Int), [(n : Int)])))
  | .invokevirtual i => (mthAt own i).bind (fun m => (npar (mrec m).2.1).map (fun n => if (mrec m).1 = 11 then (50, (m : Int), [(n : Int)]) else (49, (m : Int), [(n : Int), (vwOf (mrec m).1 : Int)])))
  | .ireturn => if rk = some .int then some (52, 0, []) else if rk = some .boolean then some (53, 0, []) else none
  | .return_ => if rk = none then some (54, 0, []) else none
  | .ifCond c o => if 0 ≤ (pc : Int) + o then some (60 + ccode c, pc + o, []) else none
  | .if_icmp c o => if 0 ≤ (pc : Int) + o then some (70 + ccode c, pc + o, []) else none
  | _ => none
def lenOK : Instr → Nat → Bool
  | .tableswitch _ _ _ _, _ => true
  | .lookupswitch _ _, _ => true
  | .bipush _, n => n == 2
  | .ldc _, n => n == 2
  | .iload _, n => n == 2
  | .lload _, n => n == 2
  | .aload _, n => n == 2
  | .istore _, n => n == 2
  | .lstore _, n => n == 2
  | .astore _, n => n == 2
  | .sipush _, n => n == 3
  | .ldc_w _, n => n == 3
  | .ldc2_w _, n => n == 3
  | .iinc _ _, n => n == 3
  | .goto _, n => n == 3
  | .getfield _, n => n == 3
  | .putfield _, n => n == 3
  | .getstatic _, n => n == 3
  | .invokestatic _, n => n == 3
  | .invokevirtual _, n => n == 3
  | .ifCond _ _, n => n == 3
  | .if_icmp _ _, n => n == 3
  | _, n => n == 1
/-- each entry is the short form of what stands there, and the next entry is the next instruction -/
def okC (own : Nat) (b : ByteArray) (rk : Option FieldType) : List AE → Bool
  | [] => true
  | e :: es => (match decode b e.1 with
    | .ok (i, n) => decide (enc own rk e.1 i = some e.2) && lenOK i n && (match es with
      | [] => true
      | e2 :: _ => decide (e2.1 = e.1 + n))
    | _ => false) && okC own b rk es
def okM (i : Nat) : Bool := okC (mrec i).1 (mrec i).2.2.1 (mrec i).2.2.2.2.1 (mrec i).2.2.2.2.2 && decide ((mrec i).2.2.2.1 ≤ 20) && plainName (mrec i).2.1.cls && decide (clsN (mrec i).1 = (mrec i).2.1.cls)
end
section
/-! WHAT THE SHORT MACHINE SAYS OF THE MACHINE -/
abbrev GD : Type := va_G × (Nat → Nat) × (Nat → ClassId)
def rv (G : GD) : AV → Value
  | .inl z => .int (Int32.ofInt z)
  | .inr (.inl z) => .long (Int64.ofInt z)
  | .inr (.inr k) => .ref (G.2.1 k)
def R32 (z : Int) : Prop := -2147483648 ≤ z ∧ z ≤ 2147483647
def R64 (z : Int) : Prop := -9223372036854775808 ≤ z ∧ z ≤ 9223372036854775807
def avOk : AV → Prop
  | .inl z => R32 z
  | .inr (.inl z) => R64 z
  | .inr (.inr _) => True
def slOk (k i : Nat) (z : Int) : Prop :=
  if (sh k).1 = 2 then -128 ≤ z ∧ z ≤ 127
  else if (sh k).1 = 3 ∨ ((sh k).1 = 0 ∧ (sh k).2.2.getD i 0 = 1) then R64 z
  else if (sh k).1 = 0 ∧ (sh k).2.2.getD i 0 = 2 then z = 0 ∨ z = 1 else R32 z
def Hok (h : AH) : Prop := ∀ k i, slOk k i (h k i)
def tysG (G : GD) : List (ClassId × FieldType) := [(G.2.2 1, .int), (G.2.2 2, .byte), (G.2.2 3, .long), (G.2.2 4, .object RX2), (G.2.2 5, .object RX3), (G.2.2 6, .array .int)]
def cellG (G : GD) (h : AH) (k : Nat) : va_E :=
  match (sh k).1 with
  | 0 => .inr ((sh k).2.1, (sh k).2.2.mapIdx (fun i c => rv G (fv h k i c)))
  | 1 => .inl (G.2.2 1, (sh k).2.1, .inl (fun i => Int32.ofInt (h k i)))
  | 2 => .inl (G.2.2 2, (sh k).2.1, .inl (fun i => Int32.ofInt (h k i)))
  | 3 => .inl (G.2.2 3, (sh k).2.1, .inr (.inl (fun i => Int64.ofInt (h k i))))
  | t => .inl (G.2.2 t, (sh k).2.1, .inr (.inr (.inr (.inr (fun i => if i < (sh k).2.1 then some (G.2.1 ((sh k).2.2.getD 0 0 + (sh k).2.2.getD 1 0 * i)) else none)))))
def wsG (G : GD) (h : AH) : va_W := (List.range nO).map (fun k => (G.2.1 k, cellG G h k))
def AG (G : GD) : Nat → Prop := fun q => ∃ k, k < nO ∧ q = G.2.1 k
def fldW (e : Nat × Nat × Nat × Nat × Bool) : Cond :=
  let q := vwCl.getD e.2.2.1 ("", TX1, 0)
  let t := q.2.1 e.2.2.2.1
  if e.2.2.2.2 then .fieldLinkNest (clsN e.1) e.2.1 q.1 t.2.1 t.2.2.1 "OneStair" else .fieldLink (clsN e.1) e.2.1 q.1 t.2.1 t.2.2.1
def mthW (e : Nat × Nat × Nat × Bool) : Cond := if e.2.2.2 then .methodLinkNest (clsN e.1) e.2.1 (mrec e.2.2.1).2.1 "OneStair" else .methodLink (clsN e.1) e.2.1 (mrec e.2.2.1).2.1
def codW (i : Nat) : Cond := .code (mrec i).2.1 (mrec i).2.2.1 (mrec i).2.2.2.1 (mrec i).2.2.2.2.1
def wG : List Cond := lw_tbl.filter goodWord
def EnvG (G : GD) (U : State) : Prop :=
  (∀ i j, i < nO → j < nO → G.2.1 i = G.2.1 j → i = j) ∧ va_K G.1 vwCl (tysG G) U ∧ (∀ e ∈ fldT, e.2.2.2.2 = true → va_Nw (fldW e) U) ∧ (∀ e ∈ mthT, e.2.2.2 = true → va_Nw (mthW e) U) ∧
  (∀ j, j < 12 → vk_R RX5 (strI.getD j 0) (strT.getD j "") (G.2.1 (1000 + j)) U)
def ExtG (G : GD) (U : State) (H : Heap) : Prop :=
  vk_S 12 strN strB (fun j => G.2.1 (1000 + j)) (fun j => G.2.1 (1100 + j)) (AG G) U H ∧ va_Z RX1 "ABOVE" "[I" (.ref (G.2.1 2000)) (AG G) U H ∧
  va_T .int (G.2.1 2000) 6 (fun j => .int (Int32.ofInt (aboveF j))) (AG G) U H ∧ va_Z "java/lang/String" "COMPACT_STRINGS" "Z" (.int 1) (AG G) U H
def rmD (d : Nat) : Room := { frames := d + 1, cells := 0, slots := 0, locals := 40 * (d + 1) }
def CtxG (G : GD) (i : Nat) (p : Program) (s : State) (m : MethodId) (args : Array Value) (meth : Method) (c : Code) : Prop :=
  p.tables.exec = Jvm.exec ∧ c.code = (mrec i).2.2.1 ∧ meth.sig.returnType = (mrec i).2.2.2.2.1 ∧ c.maxLocals = (mrec i).2.2.2.1 ∧ s.vm.findClass (clsN (mrec i).1) = some m.cls ∧
  (∀ w ∈ wG, w.before args s = true) ∧ meth.locks = false ∧ EnvG G s ∧ ExtG G s s.heap
def prs (G : GD) (ls : LcT) : List (Nat × Value) := ls.zipIdx.filterMap (fun q => q.1.map (fun v => (q.2, rv G v)))
def QcG (G : GD) (P : Option AV → AH → Prop) : Array Value → State → Outcome → State → Prop := fun _ st oc t =>
  (∃ (r : Option AV) (h' : AH), oc = .returned (r.map (rv G)) ∧ P r h' ∧ (∀ v, r = some v → avOk v) ∧ va_P G.1 vwCl (wsG G h') t.heap ∧ Hok h') ∧ va_F (AG G) st t
def PcG (G : GD) (as : List AV) (h : AH) : Array Value → State → Prop := va_Pc (as.map (rv G)) (fun U => va_P G.1 vwCl (wsG G h) U.heap ∧ Hok h ∧ EnvG G U ∧ ExtG G U U.heap)
/-- method i, called with as where the numbers are h: it ends, its answer r and the numbers h' behind it are such that P r h' -/
def CallR (G : GD) (l : Launch) (d i : Nat) (as : List AV) (h : AH) (P : Option AV → AH → Prop) : Prop :=
  (∀ v ∈ as, avOk v) → Hok h → Met l (mrec i).2.1 (codW i :: wG) (rmD d) (PcG G as h) (QcG G P) 0 0 (AG G)
/-- the machine in method i at pc, with these locals, stack, numbers, comes to an end with Q -/
def Wp (G : GD) (l : Launch) (i d pc : Nat) (ls : LcT) (st : List AV) (h : AH) (Q : Option AV → AH → Prop) : Prop :=
  ∀ (p : Program) (e : Env) (s : State) (m : MethodId) (args : Array Value) (below : List Frame) (meth : Method) (c : Code) (H : Heap) (locs : List Loc) (la : Array Slot),
    CtxG G i p s m args meth c → va_S (AG G) s.heap H locs → va_P G.1 vwCl (wsG G h) H → Hok h → (lv_has la (mrec i).2.2.2.1 (prs G ls) ∧ ls.length = (mrec i).2.2.2.1 ∧ ∀ v, some v ∈ ls → avOk v) → (∀ v ∈ st, avOk v) →
    W p l e (rmD d) s m args below meth c H locs 0 0 (MQ below (QcG G Q) args s 0 0 (AG G)) (F0 m pc la (st.map (rv G)))
-- numbers
theorem w32_ok (z : Int) : R32 (w32 z) := by
  have h1 := Int32.toInt_lt (Int32.ofInt z)
  have h2 := Int32.le_toInt (Int32.ofInt z)
  unfold R32 w32; omega
theorem i32_ok (x : Int32) : R32 x.toInt := by
  have h1 := Int32.toInt_lt x
  have h2 := Int32.le_toInt x
  unfold R32; omega
theorem i64_ok (x : Int64) : R64 x.toInt := by
  have h1 := Int64.toInt_lt x
  have h2 := Int64.le_toInt x
  unfold R64; omega
theorem w32_id {z : Int} (h : -2147483648 ≤ z) (h2 : z ≤ 2147483647) : w32 z = z := Int32.toInt_ofInt_of_le (by omega) (by omega)
theorem of32 {z : Int} (h : R32 z) : (Int32.ofInt z).toInt = z := w32_id h.1 h.2
theorem w64_id {z : Int} (h : -9223372036854775808 ≤ z) (h2 : z ≤ 9223372036854775807) : w64 z = z := Int64.toInt_ofInt_of_le (by omega) (by omega)
theorem of64 {z : Int} (h : R64 z) : (Int64.ofInt z).toInt = z := w64_id h.1 h.2
theorem rv_i (G : GD) (x : Int32) : rv G (vI x.toInt) = .int x := by simp [rv, vI]
theorem rv_l (G : GD) (x : Int64) : rv G (vL x.toInt) = .long x := by simp [rv, vL]
theorem eq32 {a b : Int} (ha : R32 a) (hb : R32 b) : Int32.ofInt a = Int32.ofInt b ↔ a = b := by
  rw [← Int32.toInt_inj, of32 ha, of32 hb]
theorem lt32 {a b : Int} (ha : R32 a) (hb : R32 b) : Int32.ofInt a < Int32.ofInt b ↔ a < b := by
  rw [Int32.lt_iff_toInt_lt, of32 ha, of32 hb]
theorem zero32 : (0 : Int32) = Int32.ofInt 0 := by decide
theorem r32_0 : R32 0 := by unfold R32; omega
theorem vpin {j : Int} {n : Nat} (hj : R32 j) (h0 : 0 ≤ j) (hn : j < n) : vp_in (Int32.ofInt j) n := by
  rw [vp_in_iff, of32 hj]; exact ⟨h0, hn⟩
theorem clamp {j : Int} (hj : R32 j) : (Int32.ofInt j).toNatClampNeg = j.toNat := by
  show (Int32.ofInt j).toInt.toNat = _
  rw [of32 hj]
-- the cells
theorem sh_out {k : Nat} (h : nO ≤ k) : 7 ≤ (sh k).1 := by
  unfold sh
  by_cases h2 : k = 2000
  · rw [if_pos h2]; exact Nat.le_refl 7
  · rw [if_neg h2, List.getD_eq_getElem?_getD, List.getElem?_eq_none (show shl.length ≤ k from Nat.le_trans (by decide) h)]
    show 7 ≤ 9; omega
theorem sh_lt {k : Nat} (h : (sh k).1 ≤ 6) : k < nO := Nat.lt_of_not_le fun h2 => by have := sh_out h2; omega
theorem wsG_at (G : GD) (h : AH) {k : Nat} (hk : k < nO) : (wsG G h)[k]? = some (G.2.1 k, cellG G h k) := by
  simp [wsG, List.getElem?_range hk]
theorem cellG_congr (G : GD) {h h' : AH} {k : Nat} (e : h k = h' k) : cellG G h k = cellG G h' k := by
  have e2 : ∀ i c, fv h k i c = fv h' k i c := by intro i c; unfold fv; split <;> simp [e]
  unfold cellG
  simp only [e2, e]
theorem wsG_set (G : GD) {h h' : AH} {k : Nat} (e : ∀ j, j ≠ k → h' j = h j) : wsG G h' = (wsG G h).set k (G.2.1 k, cellG G h' k) := by
  apply List.ext_getElem?
  intro i
  by_cases hi : i < nO
  · rw [wsG_at G h' hi]
    by_cases hik : i = k
    · subst hik
      rw [List.getElem?_set_self (by simp [wsG]; exact hi)]
    · rw [List.getElem?_set_ne (Ne.symm hik), wsG_at G h hi, cellG_congr G (e i hik)]
  · rw [List.getElem?_eq_none (by simp [wsG]; omega), List.getElem?_eq_none (by simp [wsG]; omega)]
theorem wsG_D {G : GD} (h : AH) (hi : ∀ i j, i < nO → j < nO → G.2.1 i = G.2.1 j → i = j) : va_D (AG G) (wsG G h) := by
  have key : ∀ (k : Nat) (q : Nat × va_E), (wsG G h)[k]? = some q → k < nO ∧ q.1 = G.2.1 k := by
    intro k q hq
    by_cases hk : k < nO
    · rw [wsG_at G h hk] at hq
      cases hq
      exact ⟨hk, rfl⟩
    · rw [List.getElem?_eq_none (by simp [wsG]; omega)] at hq
      cases hq
  refine ⟨fun i j p q h1 h2 h3 => ?_, fun k q hq => ?_⟩
  · obtain ⟨a1, a2⟩ := key i p h1
    obtain ⟨b1, b2⟩ := key j q h2
    exact hi i j a1 b1 (by rw [← a2, ← b2, h3])
  · obtain ⟨a1, a2⟩ := key k q hq
    exact ⟨k, a1, a2⟩
theorem hu_ne {h : AH} {k i : Nat} {v : Int} {j : Nat} (e : j ≠ k) : hu h k i v j = h j := by
  funext i'; simp [hu, e]
theorem hu_at (h : AH) (k i : Nat) (v : Int) (i' : Nat) : hu h k i v k i' = if i' = i then v else h k i' := by simp [hu]
theorem Hok.put {h : AH} (H : Hok h) {k i : Nat} {v : Int} (hv : slOk k i v) : Hok (hu h k i v) := by
  intro k' i'
  by_cases e : k' = k ∧ i' = i
  · obtain ⟨rfl, rfl⟩ := e
    simp [hu]; exact hv
  · simp [hu, e]; exact H k' i'
-- locals
theorem prs_mem {G : GD} {ls : LcT} {i : Nat} {v : AV} (h : ls[i]? = some (some v)) : (i, rv G v) ∈ prs G ls := by
  refine List.mem_filterMap.mpr ⟨(some v, i), ?_, rfl⟩
  rw [List.mem_zipIdx_iff_getElem?]
  simpa using h
theorem prs_of {G : GD} {ls : LcT} {q : Nat × Value} (h : q ∈ prs G ls) : ∃ v, ls[q.1]? = some (some v) ∧ q.2 = rv G v := by
  obtain ⟨⟨o, i⟩, h1, h2⟩ := List.mem_filterMap.mp h
  rw [List.mem_zipIdx_iff_getElem?] at h1
  cases o with
  | none => cases h2
  | some v => cases h2; exact ⟨v, by simpa using h1, rfl⟩
theorem lget_some {ls : LcT} {i : Nat} {v : AV} (h : lget ls i = some v) : ls[i]? = some (some v) := by
  unfold lget at h
  split at h
  · next w hw => cases h; exact hw
  · cases h
end
section
section INS
variable {G : GD} {l : Launch} {i d pc : Nat} {ls : LcT} {st : List AV} {h : AH} {Q : Option AV → AH → Prop}
theorem okc {v : AV} {st : List AV} (h : avOk v) (hs : ∀ w ∈ st, avOk w) : ∀ w ∈ v :: st, avOk w := fun w hw => by
  rcases List.mem_cons.mp hw with rfl | h2
  · exact h
  · exact hs w h2
theorem okt {v : AV} {st : List AV} (hs : ∀ w ∈ v :: st, avOk w) : ∀ w ∈ st, avOk w := fun w hw => hs w (List.mem_cons_of_mem _ hw)
theorem okh {v : AV} {st : List AV} (hs : ∀ w ∈ v :: st, avOk w) : avOk v := hs v List.mem_cons_self
theorem wp_iconst {x : Int} (hd : decode (mrec i).2.2.1 pc = .ok (.iconst x, 1)) (hx : R32 x) (k : Wp G l i d (pc + 1) ls (vI x :: st) h Q) : Wp G l i d pc ls (st) h Q := by
  intro p e s m args below meth c H locs la C hS hP hO hl hst
  refine lv_iconst C.1 C.2.1 hd rfl ?_
  exact k p e s m args below meth c H locs la C hS hP hO hl (okc hx hst)
theorem wp_bipush {x : Int} (hd : decode (mrec i).2.2.1 pc = .ok (.bipush x, 2)) (hx : -128 ≤ x ∧ x ≤ 127) (k : Wp G l i d (pc + 2) ls (vI x :: st) h Q) : Wp G l i d pc ls (st) h Q := by
  intro p e s m args below meth c H locs la C hS hP hO hl hst
  refine lv_bipush C.1 C.2.1 hd ?_ (k p e s m args below meth c H locs la C hS hP hO hl (okc (show R32 x by unfold R32; omega) hst))
  apply Int32.toInt_inj.mp
  rw [Int8.toInt_toInt32, Int8.toInt_ofInt_of_le (by omega) (by omega), of32 (by unfold R32; omega)]
theorem wp_sipush {x : Int} (hd : decode (mrec i).2.2.1 pc = .ok (.sipush x, 3)) (hx : -32768 ≤ x ∧ x ≤ 32767) (k : Wp G l i d (pc + 3) ls (vI x :: st) h Q) : Wp G l i d pc ls (st) h Q := by
  intro p e s m args below meth c H locs la C hS hP hO hl hst
  refine lv_sipush C.1 C.2.1 hd ?_ (k p e s m args below meth c H locs la C hS hP hO hl (okc (show R32 x by unfold R32; omega) hst))
  apply Int32.toInt_inj.mp
  rw [Int16.toInt_toInt32, Int16.toInt_ofInt_of_le (by omega) (by omega), of32 (by unfold R32; omega)]
theorem wp_lconst {x : Fin 2} (hd : decode (mrec i).2.2.1 pc = .ok (.lconst x, 1)) (k : Wp G l i d (pc + 1) ls (vL (x.val : Int) :: st) h Q) : Wp G l i d pc ls (st) h Q := by
  intro p e s m args below meth c H locs la C hS hP hO hl hst
  refine lv_lconst C.1 C.2.1 hd ?_ (k p e s m args below meth c H locs la C hS hP hO hl (okc (show R64 (x.val : Int) by have := x.isLt; unfold R64; omega) hst))
  match x with
  | 0 => decide
  | 1 => decide
theorem wp_iload {j : Nat} {z : Int} (hd : decode (mrec i).2.2.1 pc = .ok (.iload j, 2)) (hg : lget ls j = some (vI z)) (k : Wp G l i d (pc + 2) ls (vI z :: st) h Q) : Wp G l i d pc ls (st) h Q := by
  intro p e s m args below meth c H locs la C hS hP hO hl hst
  have e9 := lget_some hg
  refine lv_iload C.1 C.2.1 hd (hl.1.2.2 _ (prs_mem (G := G) e9)) ?_
  exact k p e s m args below meth c H locs la C hS hP hO hl (okc (hl.2.2 _ (List.mem_of_getElem? e9)) hst)
theorem wp_iload_n {j : Fin 4} {z : Int} (hd : decode (mrec i).2.2.1 pc = .ok (.iload_n j, 1)) (hg : lget ls j.val = some (vI z)) (k : Wp G l i d (pc + 1) ls (vI z :: st) h Q) : Wp G l i d pc ls (st) h Q := by
  intro p e s m args below meth c H locs la C hS hP hO hl hst
  have e9 := lget_some hg
  refine lv_iload_n C.1 C.2.1 hd rfl (hl.1.2.2 _ (prs_mem (G := G) e9)) ?_
  exact k p e s m args below meth c H locs la C hS hP hO hl (okc (hl.2.2 _ (List.mem_of_getElem? e9)) hst)
theorem wp_lload {j : Nat} {z : Int} (hd : decode (mrec i).2.2.1 pc = .ok (.lload j, 2)) (hg : lget ls j = some (vL z)) (k : Wp G l i d (pc + 2) ls (vL z :: st) h Q) : Wp G l i d pc ls (st) h Q := by
  intro p e s m args below meth c H locs la C hS hP hO hl hst
  have e9 := lget_some hg
  refine lv_lload C.1 C.2.1 hd (hl.1.2.2 _ (prs_mem (G := G) e9)) ?_
  exact k p e s m args below meth c H locs la C hS hP hO hl (okc (hl.2.2 _ (List.mem_of_getElem? e9)) hst)
theorem wp_lload_n {j : Fin 4} {z : Int} (hd : decode (mrec i).2.2.1 pc = .ok (.lload_n j, 1)) (hg : lget ls j.val = some (vL z)) (k : Wp G l i d (pc + 1) ls (vL z :: st) h Q) : Wp G l i d pc ls (st) h Q := by
  intro p e s m args below meth c H locs la C hS hP hO hl hst
  have e9 := lget_some hg
  refine lv_lload_n C.1 C.2.1 hd rfl (hl.1.2.2 _ (prs_mem (G := G) e9)) ?_
  exact k p e s m args below meth c H locs la C hS hP hO hl (okc (hl.2.2 _ (List.mem_of_getElem? e9)) hst)
theorem wp_aload {j : Nat} {z : Nat} (hd : decode (mrec i).2.2.1 pc = .ok (.aload j, 2)) (hg : lget ls j = some (vR z)) (k : Wp G l i d (pc + 2) ls (vR z :: st) h Q) : Wp G l i d pc ls (st) h Q := by
  intro p e s m args below meth c H locs la C hS hP hO hl hst
  have e9 := lget_some hg
  refine lv_aload C.1 C.2.1 hd (hl.1.2.2 _ (prs_mem (G := G) e9)) ?_
  exact k p e s m args below meth c H locs la C hS hP hO hl (okc (hl.2.2 _ (List.mem_of_getElem? e9)) hst)
theorem wp_aload_n {j : Fin 4} {z : Nat} (hd : decode (mrec i).2.2.1 pc = .ok (.aload_n j, 1)) (hg : lget ls j.val = some (vR z)) (k : Wp G l i d (pc + 1) ls (vR z :: st) h Q) : Wp G l i d pc ls (st) h Q := by
  intro p e s m args below meth c H locs la C hS hP hO hl hst
  have e9 := lget_some hg
  refine lv_aload_n C.1 C.2.1 hd rfl (hl.1.2.2 _ (prs_mem (G := G) e9)) ?_
  exact k p e s m args below meth c H locs la C hS hP hO hl (okc (hl.2.2 _ (List.mem_of_getElem? e9)) hst)
theorem wp_iadd {a b : Int} (hd : decode (mrec i).2.2.1 pc = .ok (.iadd, 1)) (k : Wp G l i d (pc + 1) ls (vI (w32 (a + b)) :: st) h Q) : Wp G l i d pc ls (vI b :: vI a :: st) h Q := by
  intro p e s m args below meth c H locs la C hS hP hO hl hst
  refine lv_iadd C.1 C.2.1 hd ?_
  rw [show (Int32.ofInt a + Int32.ofInt b) = Int32.ofInt (w32 (a + b)) from by simp only [w32, Int32.ofInt_toInt, Int32.ofInt_add, Int32.ofInt_sub, Int32.ofInt_mul]]
  exact k p e s m args below meth c H locs la C hS hP hO hl (okc (show avOk (vI (w32 (a + b))) from i32_ok _) (okt (okt hst)))
theorem wp_isub {a b : Int} (hd : decode (mrec i).2.2.1 pc = .ok (.isub, 1)) (k : Wp G l i d (pc + 1) ls (vI (w32 (a - b)) :: st) h Q) : Wp G l i d pc ls (vI b :: vI a :: st) h Q := by
  intro p e s m args below meth c H locs la C hS hP hO hl hst
  refine lv_isub C.1 C.2.1 hd ?_
  rw [show (Int32.ofInt a - Int32.ofInt b) = Int32.ofInt (w32 (a - b)) from by simp only [w32, Int32.ofInt_toInt, Int32.ofInt_add, Int32.ofInt_sub, Int32.ofInt_mul]]
  exact k p e s m args below meth c H locs la C hS hP hO hl (okc (show avOk (vI (w32 (a - b))) from i32_ok _) (okt (okt hst)))
theorem wp_imul {a b : Int} (hd : decode (mrec i).2.2.1 pc = .ok (.imul, 1)) (k : Wp G l i d (pc + 1) ls (vI (w32 (a * b)) :: st) h Q) : Wp G l i d pc ls (vI b :: vI a :: st) h Q := by
  intro p e s m args below meth c H locs la C hS hP hO hl hst
  refine lv_imul C.1 C.2.1 hd ?_
  rw [show (Int32.ofInt a * Int32.ofInt b) = Int32.ofInt (w32 (a * b)) from by simp only [w32, Int32.ofInt_toInt, Int32.ofInt_add, Int32.ofInt_sub, Int32.ofInt_mul]]
  exact k p e s m args below meth c H locs la C hS hP hO hl (okc (show avOk (vI (w32 (a * b))) from i32_ok _) (okt (okt hst)))
theorem wp_iand {a b : Int} (hd : decode (mrec i).2.2.1 pc = .ok (.iand, 1)) (k : Wp G l i d (pc + 1) ls (vI (and32 a b) :: st) h Q) : Wp G l i d pc ls (vI b :: vI a :: st) h Q := by
  intro p e s m args below meth c H locs la C hS hP hO hl hst
  refine lv_iand C.1 C.2.1 hd ?_
  rw [show (Int32.ofInt a &&& Int32.ofInt b) = Int32.ofInt (and32 a b) from by simp only [and32, Int32.ofInt_toInt, Int32.ofInt_add, Int32.ofInt_sub, Int32.ofInt_mul]]
  exact k p e s m args below meth c H locs la C hS hP hO hl (okc (show avOk (vI (and32 a b)) from i32_ok _) (okt (okt hst)))
theorem wp_ior {a b : Int} (hd : decode (mrec i).2.2.1 pc = .ok (.ior, 1)) (k : Wp G l i d (pc + 1) ls (vI (or32 a b) :: st) h Q) : Wp G l i d pc ls (vI b :: vI a :: st) h Q := by
  intro p e s m args below meth c H locs la C hS hP hO hl hst
  refine lv_ior C.1 C.2.1 hd ?_
  rw [show (Int32.ofInt a ||| Int32.ofInt b) = Int32.ofInt (or32 a b) from by simp only [or32, Int32.ofInt_toInt, Int32.ofInt_add, Int32.ofInt_sub, Int32.ofInt_mul]]
  exact k p e s m args below meth c H locs la C hS hP hO hl (okc (show avOk (vI (or32 a b)) from i32_ok _) (okt (okt hst)))
theorem wp_ixor {a b : Int} (hd : decode (mrec i).2.2.1 pc = .ok (.ixor, 1)) (k : Wp G l i d (pc + 1) ls (vI (xor32 a b) :: st) h Q) : Wp G l i d pc ls (vI b :: vI a :: st) h Q := by
  intro p e s m args below meth c H locs la C hS hP hO hl hst
  refine lv_ixor C.1 C.2.1 hd ?_
  rw [show (Int32.ofInt a ^^^ Int32.ofInt b) = Int32.ofInt (xor32 a b) from by simp only [xor32, Int32.ofInt_toInt, Int32.ofInt_add, Int32.ofInt_sub, Int32.ofInt_mul]]
  exact k p e s m args below meth c H locs la C hS hP hO hl (okc (show avOk (vI (xor32 a b)) from i32_ok _) (okt (okt hst)))
theorem wp_ishl {a b : Int} (hd : decode (mrec i).2.2.1 pc = .ok (.ishl, 1)) (k : Wp G l i d (pc + 1) ls (vI (shl32 a b) :: st) h Q) : Wp G l i d pc ls (vI b :: vI a :: st) h Q := by
  intro p e s m args below meth c H locs la C hS hP hO hl hst
  refine lv_ishl C.1 C.2.1 hd ?_
  rw [show (Int32.ofInt a <<< (Int32.ofInt b &&& 31)) = Int32.ofInt (shl32 a b) from by simp only [shl32, Int32.ofInt_toInt, Int32.ofInt_add, Int32.ofInt_sub, Int32.ofInt_mul]]
  exact k p e s m args below meth c H locs la C hS hP hO hl (okc (show avOk (vI (shl32 a b)) from i32_ok _) (okt (okt hst)))
theorem wp_ishr {a b : Int} (hd : decode (mrec i).2.2.1 pc = .ok (.ishr, 1)) (k : Wp G l i d (pc + 1) ls (vI (shr32 a b) :: st) h Q) : Wp G l i d pc ls (vI b :: vI a :: st) h Q := by
  intro p e s m args below meth c H locs la C hS hP hO hl hst
  refine lv_ishr C.1 C.2.1 hd ?_
  rw [show (Int32.ofInt a >>> (Int32.ofInt b &&& 31)) = Int32.ofInt (shr32 a b) from by simp only [shr32, Int32.ofInt_toInt, Int32.ofInt_add, Int32.ofInt_sub, Int32.ofInt_mul]]
  exact k p e s m args below meth c H locs la C hS hP hO hl (okc (show avOk (vI (shr32 a b)) from i32_ok _) (okt (okt hst)))
theorem wp_iushr {a b : Int} (hd : decode (mrec i).2.2.1 pc = .ok (.iushr, 1)) (k : Wp G l i d (pc + 1) ls (vI (ushr32 a b) :: st) h Q) : Wp G l i d pc ls (vI b :: vI a :: st) h Q := by
  intro p e s m args below meth c H locs la C hS hP hO hl hst
  refine lv_iushr (v := Int32.ofInt (ushr32 a b)) C.1 C.2.1 hd (by simp [ushr32]) ?_
  exact k p e s m args below meth c H locs la C hS hP hO hl (okc (show avOk (vI (ushr32 a b)) from i32_ok _) (okt (okt hst)))
theorem wp_idiv {a b : Int} (hd : decode (mrec i).2.2.1 pc = .ok (.idiv, 1)) (hne : b ≠ 0) (k : Wp G l i d (pc + 1) ls (vI (d32 a b) :: st) h Q) : Wp G l i d pc ls (vI b :: vI a :: st) h Q := by
  intro p e s m args below meth c H locs la C hS hP hO hl hst
  have hb : ¬ Int32.ofInt b = 0 := by rw [zero32, eq32 (okh hst) r32_0]; exact hne
  refine lv_idiv C.1 C.2.1 hd hb ?_
  rw [show (Int32.ofInt a / Int32.ofInt b) = Int32.ofInt (d32 a b) from by simp only [d32, Int32.ofInt_toInt]]
  exact k p e s m args below meth c H locs la C hS hP hO hl (okc (show avOk (vI (d32 a b)) from i32_ok _) (okt (okt hst)))
theorem wp_irem {a b : Int} (hd : decode (mrec i).2.2.1 pc = .ok (.irem, 1)) (hne : b ≠ 0) (k : Wp G l i d (pc + 1) ls (vI (m32 a b) :: st) h Q) : Wp G l i d pc ls (vI b :: vI a :: st) h Q := by
  intro p e s m args below meth c H locs la C hS hP hO hl hst
  have hb : ¬ Int32.ofInt b = 0 := by rw [zero32, eq32 (okh hst) r32_0]; exact hne
  refine lv_irem C.1 C.2.1 hd hb ?_
  rw [show (Int32.ofInt a - Int32.ofInt a / Int32.ofInt b * Int32.ofInt b) = Int32.ofInt (m32 a b) from by simp only [m32, Int32.ofInt_toInt]]
  exact k p e s m args below meth c H locs la C hS hP hO hl (okc (show avOk (vI (m32 a b)) from i32_ok _) (okt (okt hst)))
theorem wp_ladd {a b : Int} (hd : decode (mrec i).2.2.1 pc = .ok (.ladd, 1)) (k : Wp G l i d (pc + 1) ls (vL (w64 (a + b)) :: st) h Q) : Wp G l i d pc ls (vL b :: vL a :: st) h Q := by
  intro p e s m args below meth c H locs la C hS hP hO hl hst
  refine lv_ladd C.1 C.2.1 hd ?_
  rw [show (Int64.ofInt a + Int64.ofInt b) = Int64.ofInt (w64 (a + b)) from by simp only [w64, Int64.ofInt_toInt, Int64.ofInt_add, Int64.ofInt_sub, Int64.ofInt_mul]]
  exact k p e s m args below meth c H locs la C hS hP hO hl (okc (show avOk (vL (w64 (a + b))) from i64_ok _) (okt (okt hst)))
theorem wp_lsub {a b : Int} (hd : decode (mrec i).2.2.1 pc = .ok (.lsub, 1)) (k : Wp G l i d (pc + 1) ls (vL (w64 (a - b)) :: st) h Q) : Wp G l i d pc ls (vL b :: vL a :: st) h Q := by
  intro p e s m args below meth c H locs la C hS hP hO hl hst
  refine lv_lsub C.1 C.2.1 hd ?_
  rw [show (Int64.ofInt a - Int64.ofInt b) = Int64.ofInt (w64 (a - b)) from by simp only [w64, Int64.ofInt_toInt, Int64.ofInt_add, Int64.ofInt_sub, Int64.ofInt_mul]]
  exact k p e s m args below meth c H locs la C hS hP hO hl (okc (show avOk (vL (w64 (a - b))) from i64_ok _) (okt (okt hst)))
theorem wp_lmul {a b : Int} (hd : decode (mrec i).2.2.1 pc = .ok (.lmul, 1)) (k : Wp G l i d (pc + 1) ls (vL (w64 (a * b)) :: st) h Q) : Wp G l i d pc ls (vL b :: vL a :: st) h Q := by
  intro p e s m args below meth c H locs la C hS hP hO hl hst
  refine lv_lmul C.1 C.2.1 hd ?_
  rw [show (Int64.ofInt a * Int64.ofInt b) = Int64.ofInt (w64 (a * b)) from by simp only [w64, Int64.ofInt_toInt, Int64.ofInt_add, Int64.ofInt_sub, Int64.ofInt_mul]]
  exact k p e s m args below meth c H locs la C hS hP hO hl (okc (show avOk (vL (w64 (a * b))) from i64_ok _) (okt (okt hst)))
theorem wp_land {a b : Int} (hd : decode (mrec i).2.2.1 pc = .ok (.land, 1)) (k : Wp G l i d (pc + 1) ls (vL (and64 a b) :: st) h Q) : Wp G l i d pc ls (vL b :: vL a :: st) h Q := by
  intro p e s m args below meth c H locs la C hS hP hO hl hst
  refine lv_land C.1 C.2.1 hd ?_
  rw [show (Int64.ofInt a &&& Int64.ofInt b) = Int64.ofInt (and64 a b) from by simp only [and64, Int64.ofInt_toInt, Int64.ofInt_add, Int64.ofInt_sub, Int64.ofInt_mul]]
  exact k p e s m args below meth c H locs la C hS hP hO hl (okc (show avOk (vL (and64 a b)) from i64_ok _) (okt (okt hst)))
theorem wp_lshr {a b : Int} (hd : decode (mrec i).2.2.1 pc = .ok (.lshr, 1)) (k : Wp G l i d (pc + 1) ls (vL (shr64 a b) :: st) h Q) : Wp G l i d pc ls (vI b :: vL a :: st) h Q := by
  intro p e s m args below meth c H locs la C hS hP hO hl hst
  refine lv_lshr (v := Int64.ofInt (shr64 a b)) C.1 C.2.1 hd (by simp [shr64]) ?_
  exact k p e s m args below meth c H locs la C hS hP hO hl (okc (show avOk (vL (shr64 a b)) from i64_ok _) (okt (okt hst)))
theorem wp_lushr {a b : Int} (hd : decode (mrec i).2.2.1 pc = .ok (.lushr, 1)) (k : Wp G l i d (pc + 1) ls (vL (ushr64 a b) :: st) h Q) : Wp G l i d pc ls (vI b :: vL a :: st) h Q := by
  intro p e s m args below meth c H locs la C hS hP hO hl hst
  refine lv_lushr (v := Int64.ofInt (ushr64 a b)) C.1 C.2.1 hd (by simp [ushr64]) ?_
  exact k p e s m args below meth c H locs la C hS hP hO hl (okc (show avOk (vL (ushr64 a b)) from i64_ok _) (okt (okt hst)))
theorem cmp64_eq {a b : Int} (ha : R64 a) (hb : R64 b) : lg_cmp (Int64.ofInt a) (Int64.ofInt b) = Int32.ofInt (cmp64 a b) := by
  have h1 : Int64.ofInt a > Int64.ofInt b ↔ a > b := by
    show Int64.ofInt b < Int64.ofInt a ↔ _
    rw [Int64.lt_iff_toInt_lt, of64 ha, of64 hb]
  have h2 : Int64.ofInt a = Int64.ofInt b ↔ a = b := by rw [← Int64.toInt_inj, of64 ha, of64 hb]
  unfold lg_cmp cmp64
  by_cases c1 : a > b
  · rw [if_pos (h1.mpr c1), if_pos c1]; decide
  · rw [if_neg (fun z => c1 (h1.mp z)), if_neg c1]
    by_cases c2 : a = b
    · rw [if_pos (h2.mpr c2), if_pos c2]; decide
    · rw [if_neg (fun z => c2 (h2.mp z)), if_neg c2]; decide
theorem cmp64_ok (a b : Int) : R32 (cmp64 a b) := by unfold cmp64 R32; split <;> (try split) <;> omega
theorem wp_lcmp {a b : Int} (hd : decode (mrec i).2.2.1 pc = .ok (.lcmp, 1)) (k : Wp G l i d (pc + 1) ls (vI (cmp64 a b) :: st) h Q) : Wp G l i d pc ls (vL b :: vL a :: st) h Q := by
  intro p e s m args below meth c H locs la C hS hP hO hl hst
  refine W.lcmp C.1 C.2.1 hd ?_
  rw [cmp64_eq (okh (okt hst)) (okh hst)]
  exact k p e s m args below meth c H locs la C hS hP hO hl (okc (show avOk (vI (cmp64 a b)) from cmp64_ok _ _) (okt (okt hst)))
theorem wp_i2l {a : Int} (hd : decode (mrec i).2.2.1 pc = .ok (.i2l, 1)) (k : Wp G l i d (pc + 1) ls (vL a :: st) h Q) : Wp G l i d pc ls (vI a :: st) h Q := by
  intro p e s m args below meth c H locs la C hS hP hO hl hst
  have ha : R32 a := okh hst
  have ha2 : R64 a := by unfold R32 at ha; unfold R64; omega
  refine lv_i2l (v := Int64.ofInt a) C.1 C.2.1 hd ?_ (k p e s m args below meth c H locs la C hS hP hO hl (okc (show avOk (vL a) from ha2) (okt hst)))
  apply Int64.toInt_inj.mp
  rw [Int32.toInt_toInt64, of32 ha, of64 ha2]
theorem wp_l2i {a : Int} (hd : decode (mrec i).2.2.1 pc = .ok (.l2i, 1)) (k : Wp G l i d (pc + 1) ls (vI (l2i32 a) :: st) h Q) : Wp G l i d pc ls (vL a :: st) h Q := by
  intro p e s m args below meth c H locs la C hS hP hO hl hst
  refine lv_l2i (v := Int32.ofInt (l2i32 a)) C.1 C.2.1 hd (by simp only [l2i32, Int32.ofInt_toInt]) (k p e s m args below meth c H locs la C hS hP hO hl (okc (show avOk (vI (l2i32 a)) from i32_ok _) (okt hst)))
theorem wp_i2b {a : Int} (hd : decode (mrec i).2.2.1 pc = .ok (.i2b, 1)) (k : Wp G l i d (pc + 1) ls (vI (w8 a) :: st) h Q) : Wp G l i d pc ls (vI a :: st) h Q := by
  intro p e s m args below meth c H locs la C hS hP hO hl hst
  have hk : R32 (w8 a) := by
    have h1 := Int8.toInt_lt (Int32.ofInt a).toInt8
    have h2 := Int8.le_toInt (Int32.ofInt a).toInt8
    unfold R32 w8; omega
  refine lv_i2b (v := Int32.ofInt (w8 a)) C.1 C.2.1 hd ?_ (k p e s m args below meth c H locs la C hS hP hO hl (okc (show avOk (vI (w8 a)) from hk) (okt hst)))
  apply Int32.toInt_inj.mp
  rw [Int8.toInt_toInt32, of32 hk]; rfl
theorem wp_i2s {a : Int} (hd : decode (mrec i).2.2.1 pc = .ok (.i2s, 1)) (k : Wp G l i d (pc + 1) ls (vI (w16 a) :: st) h Q) : Wp G l i d pc ls (vI a :: st) h Q := by
  intro p e s m args below meth c H locs la C hS hP hO hl hst
  have hk : R32 (w16 a) := by
    have h1 := Int16.toInt_lt (Int32.ofInt a).toInt16
    have h2 := Int16.le_toInt (Int32.ofInt a).toInt16
    unfold R32 w16; omega
  refine lv_i2s (v := Int32.ofInt (w16 a)) C.1 C.2.1 hd ?_ (k p e s m args below meth c H locs la C hS hP hO hl (okc (show avOk (vI (w16 a)) from hk) (okt hst)))
  apply Int32.toInt_inj.mp
  rw [Int16.toInt_toInt32, of32 hk]; rfl
theorem wp_dup_I {z : Int} (hd : decode (mrec i).2.2.1 pc = .ok (.dup, 1)) (k : Wp G l i d (pc + 1) ls (vI z :: vI z :: st) h Q) : Wp G l i d pc ls (vI z :: st) h Q := by
  intro p e s m args below meth c H locs la C hS hP hO hl hst
  refine lv_dup C.1 C.2.1 hd rfl ?_
  exact k p e s m args below meth c H locs la C hS hP hO hl (okc (okh hst) hst)
theorem wp_dup_R {z : Nat} (hd : decode (mrec i).2.2.1 pc = .ok (.dup, 1)) (k : Wp G l i d (pc + 1) ls (vR z :: vR z :: st) h Q) : Wp G l i d pc ls (vR z :: st) h Q := by
  intro p e s m args below meth c H locs la C hS hP hO hl hst
  refine lv_dup C.1 C.2.1 hd rfl ?_
  exact k p e s m args below meth c H locs la C hS hP hO hl (okc (okh hst) hst)
theorem wp_dup2 {a : Int} {b : Nat} (hd : decode (mrec i).2.2.1 pc = .ok (.dup2, 1)) (k : Wp G l i d (pc + 1) ls (vI a :: vR b :: vI a :: vR b :: st) h Q) : Wp G l i d pc ls (vI a :: vR b :: st) h Q := by
  intro p e s m args below meth c H locs la C hS hP hO hl hst
  refine lv_dup2_11 C.1 C.2.1 hd rfl rfl ?_
  exact k p e s m args below meth c H locs la C hS hP hO hl (okc (okh hst) (okc (okh (okt hst)) hst))
theorem prs_set1 {G : GD} {ls : LcT} {j : Nat} {v : AV} (hv : (rv G v).category = 1) (hok : stOK ls j = true) (hj : j < ls.length) : ∀ q ∈ prs G (ls.set j (some v)), q ∈ (j, rv G v) :: (prs G ls).filter (fun q => !(q.1 == j) && !(q.1 + 1 == j && q.2.category == 2)) := by
  intro q hq
  obtain ⟨u, h1, h2⟩ := prs_of hq
  by_cases e : q.1 = j
  · rw [e, List.getElem?_set_self hj] at h1
    cases h1
    obtain ⟨q1, q2⟩ := q
    cases e
    cases h2
    exact List.mem_cons_self
  · rw [List.getElem?_set_ne (Ne.symm e)] at h1
    have hm : q ∈ prs G ls := by
      obtain ⟨q1, q2⟩ := q
      cases h2
      exact prs_mem h1
    refine List.mem_cons_of_mem _ (List.mem_filter.mpr ⟨hm, ?_⟩)
    have hc : ¬ (q.1 + 1 = j ∧ q.2.category = 2) := by
      rintro ⟨rfl, hc⟩
      unfold stOK at hok
      simp only [h1] at hok
      rw [h2] at hc
      match u, hok, hc with
      | .inl z, _, hc => exact absurd hc (by simp [rv, Value.category])
      | .inr (.inr z), _, hc => exact absurd hc (by simp [rv, Value.category])
      | .inr (.inl z), hok, _ => simp at hok
    by_cases c1 : q.1 + 1 = j
    · have c2 : ¬ q.2.category = 2 := fun z => hc ⟨c1, z⟩
      simp [e, c1, c2]
    · simp [e, c1]
theorem sub_has {la : Array Slot} {n : Nat} {l l' : List (Nat × Value)} (h : lv_has la n l) (hs : ∀ q ∈ l', q ∈ l) : lv_has la n l' := ⟨h.1, h.2.1, fun q hq => h.2.2 q (hs q hq)⟩
theorem set_ok {ls : LcT} {j : Nat} {v : AV} (hs : ∀ v, some v ∈ ls → avOk v) (hv : avOk v) : ∀ u, some u ∈ ls.set j (some v) → avOk u := fun u hu => by
  rcases List.mem_or_eq_of_mem_set hu with h | h
  · exact hs u h
  · cases h; exact hv
theorem wp_istore {j : Nat} {z : Int} (hd : decode (mrec i).2.2.1 pc = .ok (.istore j, 2)) (ho : stOK ls j = true ∧ j < ls.length) (k : Wp G l i d (pc + 2) (ls.set j (some (vI z))) st h Q) : Wp G l i d pc ls (vI z :: st) h Q := by
  intro p e s m args below meth c H locs la C hS hP hO hl hst
  refine lv_istore C.1 C.2.1 hd hl.1 (by rw [← hl.2.1]; exact ho.2) rfl fun la' hl' => ?_
  exact k p e s m args below meth c H locs la' C hS hP hO ⟨sub_has hl' (prs_set1 rfl ho.1 ho.2), by simpa using hl.2.1, set_ok hl.2.2 (okh hst)⟩ (okt hst)
theorem wp_istore_n {j : Fin 4} {z : Int} (hd : decode (mrec i).2.2.1 pc = .ok (.istore_n j, 1)) (ho : stOK ls j.val = true ∧ j.val < ls.length) (k : Wp G l i d (pc + 1) (ls.set j.val (some (vI z))) st h Q) : Wp G l i d pc ls (vI z :: st) h Q := by
  intro p e s m args below meth c H locs la C hS hP hO hl hst
  refine lv_istore_n C.1 C.2.1 hd rfl hl.1 (by rw [← hl.2.1]; exact ho.2) rfl fun la' hl' => ?_
  exact k p e s m args below meth c H locs la' C hS hP hO ⟨sub_has hl' (prs_set1 rfl ho.1 ho.2), by simpa using hl.2.1, set_ok hl.2.2 (okh hst)⟩ (okt hst)
theorem wp_astore {j : Nat} {z : Nat} (hd : decode (mrec i).2.2.1 pc = .ok (.astore j, 2)) (ho : stOK ls j = true ∧ j < ls.length) (k : Wp G l i d (pc + 2) (ls.set j (some (vR z))) st h Q) : Wp G l i d pc ls (vR z :: st) h Q := by
  intro p e s m args below meth c H locs la C hS hP hO hl hst
  refine lv_astore C.1 C.2.1 hd hl.1 (by rw [← hl.2.1]; exact ho.2) rfl fun la' hl' => ?_
  exact k p e s m args below meth c H locs la' C hS hP hO ⟨sub_has hl' (prs_set1 rfl ho.1 ho.2), by simpa using hl.2.1, set_ok hl.2.2 (okh hst)⟩ (okt hst)
theorem wp_astore_n {j : Fin 4} {z : Nat} (hd : decode (mrec i).2.2.1 pc = .ok (.astore_n j, 1)) (ho : stOK ls j.val = true ∧ j.val < ls.length) (k : Wp G l i d (pc + 1) (ls.set j.val (some (vR z))) st h Q) : Wp G l i d pc ls (vR z :: st) h Q := by
  intro p e s m args below meth c H locs la C hS hP hO hl hst
  refine lv_astore_n C.1 C.2.1 hd rfl hl.1 (by rw [← hl.2.1]; exact ho.2) rfl fun la' hl' => ?_
  exact k p e s m args below meth c H locs la' C hS hP hO ⟨sub_has hl' (prs_set1 rfl ho.1 ho.2), by simpa using hl.2.1, set_ok hl.2.2 (okh hst)⟩ (okt hst)
theorem prs_set2 {G : GD} {ls : LcT} {j : Nat} {v : AV} (hok : stOK ls j = true) (hj : j + 1 < ls.length) : ∀ q ∈ prs G ((ls.set j (some v)).set (j + 1) none), q ∈ (j, rv G v) :: (prs G ls).filter (fun q => !(q.1 == j) && (!(q.1 == j + 1) && !(q.1 + 1 == j && q.2.category == 2))) := by
  intro q hq
  obtain ⟨u, h1, h2⟩ := prs_of hq
  by_cases e2 : q.1 = j + 1
  · rw [e2, List.getElem?_set_self (by simpa using hj)] at h1
    cases h1
  rw [List.getElem?_set_ne (Ne.symm e2)] at h1
  by_cases e : q.1 = j
  · rw [e, List.getElem?_set_self (by omega)] at h1
    cases h1
    obtain ⟨q1, q2⟩ := q
    cases e
    cases h2
    exact List.mem_cons_self
  · rw [List.getElem?_set_ne (Ne.symm e)] at h1
    have hm : q ∈ prs G ls := by
      obtain ⟨q1, q2⟩ := q
      cases h2
      exact prs_mem h1
    refine List.mem_cons_of_mem _ (List.mem_filter.mpr ⟨hm, ?_⟩)
    have hc : ¬ (q.1 + 1 = j ∧ q.2.category = 2) := by
      rintro ⟨rfl, hc⟩
      unfold stOK at hok
      simp only [h1] at hok
      rw [h2] at hc
      match u, hok, hc with
      | .inl z, _, hc => exact absurd hc (by simp [rv, Value.category])
      | .inr (.inr z), _, hc => exact absurd hc (by simp [rv, Value.category])
      | .inr (.inl z), hok, _ => simp at hok
    by_cases c1 : q.1 + 1 = j
    · have c2 : ¬ q.2.category = 2 := fun z => hc ⟨c1, z⟩
      simp [e, e2, c1, c2]
    · simp [e, e2, c1]
theorem wp_lstore {j : Nat} {z : Int} (hd : decode (mrec i).2.2.1 pc = .ok (.lstore j, 2)) (ho : stOK ls j = true ∧ j + 1 < ls.length) (k : Wp G l i d (pc + 2) ((ls.set j (some (vL z))).set (j + 1) none) st h Q) : Wp G l i d pc ls (vL z :: st) h Q := by
  intro p e s m args below meth c H locs la C hS hP hO hl hst
  refine lv_lstore C.1 C.2.1 hd hl.1 (by rw [← hl.2.1]; exact ho.2) rfl fun la' hl' => ?_
  refine k p e s m args below meth c H locs la' C hS hP hO ⟨sub_has hl' (prs_set2 ho.1 ho.2), by simpa using hl.2.1, fun u hu => ?_⟩ (okt hst)
  rcases List.mem_or_eq_of_mem_set hu with h9 | h9
  · exact set_ok hl.2.2 (okh hst) u h9
  · cases h9
theorem wp_lstore_n {j : Fin 4} {z : Int} (hd : decode (mrec i).2.2.1 pc = .ok (.lstore_n j, 1)) (ho : stOK ls j.val = true ∧ j.val + 1 < ls.length) (k : Wp G l i d (pc + 1) ((ls.set j.val (some (vL z))).set (j.val + 1) none) st h Q) : Wp G l i d pc ls (vL z :: st) h Q := by
  intro p e s m args below meth c H locs la C hS hP hO hl hst
  refine lv_lstore_n C.1 C.2.1 hd rfl hl.1 (by rw [← hl.2.1]; exact ho.2) rfl fun la' hl' => ?_
  refine k p e s m args below meth c H locs la' C hS hP hO ⟨sub_has hl' (prs_set2 ho.1 ho.2), by simpa using hl.2.1, fun u hu => ?_⟩ (okt hst)
  rcases List.mem_or_eq_of_mem_set hu with h9 | h9
  · exact set_ok hl.2.2 (okh hst) u h9
  · cases h9
theorem stOK_int {ls : LcT} {j : Nat} {la : Array Slot} {n : Nat} {G : GD} {v : AV} (hl : lv_has la n (prs G ls)) (hg : ls[j]? = some (some v)) : stOK ls j = true := by
  unfold stOK
  match j, hg with
  | 0, _ => rfl
  | j + 1, hg =>
    cases e : ls[j]? with
    | none => simp [e]
    | some o =>
      match o, e with
      | none, e => simp [e]
      | some (.inl z), e => simp [e]
      | some (.inr (.inr z)), e => simp [e]
      | some (.inr (.inl z)), e =>
        exfalso
        have h1 := hl.2.2 _ (prs_mem (G := G) e)
        have h2 := hl.2.2 _ (prs_mem (G := G) hg)
        have h3 := hl.2.1.1 j _ h1 rfl
        rw [h3] at h2
        cases h2
theorem wp_iinc {j : Nat} {n z : Int} (hd : decode (mrec i).2.2.1 pc = .ok (.iinc j n, 3)) (hg : lget ls j = some (vI z)) (k : Wp G l i d (pc + 3) (ls.set j (some (vI (w32 (z + n))))) st h Q) : Wp G l i d pc ls st h Q := by
  intro p e s m args below meth c H locs la C hS hP hO hl hst
  have e9 := lget_some hg
  obtain ⟨kk, hk9⟩ := List.getElem?_of_mem (prs_mem (G := G) e9)
  have hj : j < ls.length := (List.getElem?_eq_some_iff.mp e9).1
  refine lv_iinc (v := Int32.ofInt (w32 (z + n))) C.1 C.2.1 hd hl.1 (k := kk) hk9 (by simp only [w32, Int32.ofInt_toInt, Int32.ofInt_add]) (by rw [← hl.2.1]; exact hj) rfl fun la' hl' => ?_
  exact k p e s m args below meth c H locs la' C hS hP hO ⟨sub_has hl' (prs_set1 (v := vI (w32 (z + n))) rfl (stOK_int hl.1 e9) hj), by simpa using hl.2.1, set_ok hl.2.2 (show avOk (vI (w32 (z + n))) from w32_ok _)⟩ hst
theorem wp_goto {t : Nat} {o : Int} (hd : decode (mrec i).2.2.1 pc = .ok (.goto o, 3)) (ht : (pc : Int) + o = (t : Int)) (k : Wp G l i d t ls st h Q) : Wp G l i d pc ls st h Q := by
  intro p e s m args below meth c H locs la C hS hP hO hl hst
  exact lv_goto C.1 C.2.1 hd ht (k p e s m args below meth c H locs la C hS hP hO hl hst)
theorem wp_if_eq {a : Int} {t : Nat} {o : Int} (hd : decode (mrec i).2.2.1 pc = .ok (.ifCond .eq o, 3)) (ht : (pc : Int) + o = (t : Int)) (kt : a = 0 → Wp G l i d t ls st h Q) (kf : ¬ a = 0 → Wp G l i d (pc + 3) ls st h Q) : Wp G l i d pc ls (vI a :: st) h Q := by
  intro p e s m args below meth c H locs la C hS hP hO hl hst
  have ha : R32 a := okh hst
  have hb : R32 0 := r32_0
  have e1 := eq32 ha hb
  have e2 := lt32 ha hb
  have e3 := lt32 hb ha
  rw [← zero32] at e1 e2 e3
  refine lv_if_eq C.1 C.2.1 hd ht (fun hc => kt ?_ p e s m args below meth c H locs la C hS hP hO hl (okt hst)) (fun hc => kf ?_ p e s m args below meth c H locs la C hS hP hO hl (okt hst))
  all_goals (simp only [Int32.not_lt, Int32.not_le, Int32.le_iff_toInt_le, Int32.lt_iff_toInt_lt, ge_iff_le, gt_iff_lt, of32 ha, of32 hb, Int32.toInt_zero, e1] at hc; omega)
theorem wp_icmp_eq {a b : Int} {t : Nat} {o : Int} (hd : decode (mrec i).2.2.1 pc = .ok (.if_icmp .eq o, 3)) (ht : (pc : Int) + o = (t : Int)) (kt : a = b → Wp G l i d t ls st h Q) (kf : ¬ a = b → Wp G l i d (pc + 3) ls st h Q) : Wp G l i d pc ls (vI b :: vI a :: st) h Q := by
  intro p e s m args below meth c H locs la C hS hP hO hl hst
  have ha : R32 a := okh (okt hst)
  have hb : R32 b := okh hst
  have e1 := eq32 ha hb
  have e2 := lt32 ha hb
  have e3 := lt32 hb ha
  skip
  refine lv_icmp_eq C.1 C.2.1 hd ht (fun hc => kt ?_ p e s m args below meth c H locs la C hS hP hO hl (okt (okt hst))) (fun hc => kf ?_ p e s m args below meth c H locs la C hS hP hO hl (okt (okt hst)))
  all_goals (simp only [Int32.not_lt, Int32.not_le, Int32.le_iff_toInt_le, Int32.lt_iff_toInt_lt, ge_iff_le, gt_iff_lt, of32 ha, of32 hb, Int32.toInt_zero, e1] at hc; omega)
theorem wp_if_ne {a : Int} {t : Nat} {o : Int} (hd : decode (mrec i).2.2.1 pc = .ok (.ifCond .ne o, 3)) (ht : (pc : Int) + o = (t : Int)) (kt : ¬ a = 0 → Wp G l i d t ls st h Q) (kf : a = 0 → Wp G l i d (pc + 3) ls st h Q) : Wp G l i d pc ls (vI a :: st) h Q := by
  intro p e s m args below meth c H locs la C hS hP hO hl hst
  have ha : R32 a := okh hst
  have hb : R32 0 := r32_0
  have e1 := eq32 ha hb
  have e2 := lt32 ha hb
  have e3 := lt32 hb ha
  rw [← zero32] at e1 e2 e3
  refine lv_if_ne C.1 C.2.1 hd ht (fun hc => kt ?_ p e s m args below meth c H locs la C hS hP hO hl (okt hst)) (fun hc => kf ?_ p e s m args below meth c H locs la C hS hP hO hl (okt hst))
  all_goals (simp only [Int32.not_lt, Int32.not_le, Int32.le_iff_toInt_le, Int32.lt_iff_toInt_lt, ge_iff_le, gt_iff_lt, of32 ha, of32 hb, Int32.toInt_zero, e1] at hc; omega)
theorem wp_icmp_ne {a b : Int} {t : Nat} {o : Int} (hd : decode (mrec i).2.2.1 pc = .ok (.if_icmp .ne o, 3)) (ht : (pc : Int) + o = (t : Int)) (kt : ¬ a = b → Wp G l i d t ls st h Q) (kf : a = b → Wp G l i d (pc + 3) ls st h Q) : Wp G l i d pc ls (vI b :: vI a :: st) h Q := by
  intro p e s m args below meth c H locs la C hS hP hO hl hst
  have ha : R32 a := okh (okt hst)
  have hb : R32 b := okh hst
  have e1 := eq32 ha hb
  have e2 := lt32 ha hb
  have e3 := lt32 hb ha
  skip
  refine lv_icmp_ne C.1 C.2.1 hd ht (fun hc => kt ?_ p e s m args below meth c H locs la C hS hP hO hl (okt (okt hst))) (fun hc => kf ?_ p e s m args below meth c H locs la C hS hP hO hl (okt (okt hst)))
  all_goals (simp only [Int32.not_lt, Int32.not_le, Int32.le_iff_toInt_le, Int32.lt_iff_toInt_lt, ge_iff_le, gt_iff_lt, of32 ha, of32 hb, Int32.toInt_zero, e1] at hc; omega)
theorem wp_if_lt {a : Int} {t : Nat} {o : Int} (hd : decode (mrec i).2.2.1 pc = .ok (.ifCond .lt o, 3)) (ht : (pc : Int) + o = (t : Int)) (kt : a < 0 → Wp G l i d t ls st h Q) (kf : ¬ a < 0 → Wp G l i d (pc + 3) ls st h Q) : Wp G l i d pc ls (vI a :: st) h Q := by
  intro p e s m args below meth c H locs la C hS hP hO hl hst
  have ha : R32 a := okh hst
  have hb : R32 0 := r32_0
  have e1 := eq32 ha hb
  have e2 := lt32 ha hb
  have e3 := lt32 hb ha
  rw [← zero32] at e1 e2 e3
  refine lv_if_lt C.1 C.2.1 hd ht (fun hc => kt ?_ p e s m args below meth c H locs la C hS hP hO hl (okt hst)) (fun hc => kf ?_ p e s m args below meth c H locs la C hS hP hO hl (okt hst))
  all_goals (simp only [Int32.not_lt, Int32.not_le, Int32.le_iff_toInt_le, Int32.lt_iff_toInt_lt, ge_iff_le, gt_iff_lt, of32 ha, of32 hb, Int32.toInt_zero, e1] at hc; omega)
theorem wp_icmp_lt {a b : Int} {t : Nat} {o : Int} (hd : decode (mrec i).2.2.1 pc = .ok (.if_icmp .lt o, 3)) (ht : (pc : Int) + o = (t : Int)) (kt : a < b → Wp G l i d t ls st h Q) (kf : ¬ a < b → Wp G l i d (pc + 3) ls st h Q) : Wp G l i d pc ls (vI b :: vI a :: st) h Q := by
  intro p e s m args below meth c H locs la C hS hP hO hl hst
  have ha : R32 a := okh (okt hst)
  have hb : R32 b := okh hst
  have e1 := eq32 ha hb
  have e2 := lt32 ha hb
  have e3 := lt32 hb ha
  skip
  refine lv_icmp_lt C.1 C.2.1 hd ht (fun hc => kt ?_ p e s m args below meth c H locs la C hS hP hO hl (okt (okt hst))) (fun hc => kf ?_ p e s m args below meth c H locs la C hS hP hO hl (okt (okt hst)))
  all_goals (simp only [Int32.not_lt, Int32.not_le, Int32.le_iff_toInt_le, Int32.lt_iff_toInt_lt, ge_iff_le, gt_iff_lt, of32 ha, of32 hb, Int32.toInt_zero, e1] at hc; omega)
theorem wp_if_ge {a : Int} {t : Nat} {o : Int} (hd : decode (mrec i).2.2.1 pc = .ok (.ifCond .ge o, 3)) (ht : (pc : Int) + o = (t : Int)) (kt : ¬ a < 0 → Wp G l i d t ls st h Q) (kf : a < 0 → Wp G l i d (pc + 3) ls st h Q) : Wp G l i d pc ls (vI a :: st) h Q := by
  intro p e s m args below meth c H locs la C hS hP hO hl hst
  have ha : R32 a := okh hst
  have hb : R32 0 := r32_0
  have e1 := eq32 ha hb
  have e2 := lt32 ha hb
  have e3 := lt32 hb ha
  rw [← zero32] at e1 e2 e3
  refine lv_if_ge C.1 C.2.1 hd ht (fun hc => kt ?_ p e s m args below meth c H locs la C hS hP hO hl (okt hst)) (fun hc => kf ?_ p e s m args below meth c H locs la C hS hP hO hl (okt hst))
  all_goals (simp only [Int32.not_lt, Int32.not_le, Int32.le_iff_toInt_le, Int32.lt_iff_toInt_lt, ge_iff_le, gt_iff_lt, of32 ha, of32 hb, Int32.toInt_zero, e1] at hc; omega)
theorem wp_icmp_ge {a b : Int} {t : Nat} {o : Int} (hd : decode (mrec i).2.2.1 pc = .ok (.if_icmp .ge o, 3)) (ht : (pc : Int) + o = (t : Int)) (kt : ¬ a < b → Wp G l i d t ls st h Q) (kf : a < b → Wp G l i d (pc + 3) ls st h Q) : Wp G l i d pc ls (vI b :: vI a :: st) h Q := by
  intro p e s m args below meth c H locs la C hS hP hO hl hst
  have ha : R32 a := okh (okt hst)
  have hb : R32 b := okh hst
  have e1 := eq32 ha hb
  have e2 := lt32 ha hb
  have e3 := lt32 hb ha
  skip
  refine lv_icmp_ge C.1 C.2.1 hd ht (fun hc => kt ?_ p e s m args below meth c H locs la C hS hP hO hl (okt (okt hst))) (fun hc => kf ?_ p e s m args below meth c H locs la C hS hP hO hl (okt (okt hst)))
  all_goals (simp only [Int32.not_lt, Int32.not_le, Int32.le_iff_toInt_le, Int32.lt_iff_toInt_lt, ge_iff_le, gt_iff_lt, of32 ha, of32 hb, Int32.toInt_zero, e1] at hc; omega)
theorem wp_if_gt {a : Int} {t : Nat} {o : Int} (hd : decode (mrec i).2.2.1 pc = .ok (.ifCond .gt o, 3)) (ht : (pc : Int) + o = (t : Int)) (kt : 0 < a → Wp G l i d t ls st h Q) (kf : ¬ 0 < a → Wp G l i d (pc + 3) ls st h Q) : Wp G l i d pc ls (vI a :: st) h Q := by
  intro p e s m args below meth c H locs la C hS hP hO hl hst
  have ha : R32 a := okh hst
  have hb : R32 0 := r32_0
  have e1 := eq32 ha hb
  have e2 := lt32 ha hb
  have e3 := lt32 hb ha
  rw [← zero32] at e1 e2 e3
  refine lv_if_gt C.1 C.2.1 hd ht (fun hc => kt ?_ p e s m args below meth c H locs la C hS hP hO hl (okt hst)) (fun hc => kf ?_ p e s m args below meth c H locs la C hS hP hO hl (okt hst))
  all_goals (simp only [Int32.not_lt, Int32.not_le, Int32.le_iff_toInt_le, Int32.lt_iff_toInt_lt, ge_iff_le, gt_iff_lt, of32 ha, of32 hb, Int32.toInt_zero, e1] at hc; omega)
theorem wp_icmp_gt {a b : Int} {t : Nat} {o : Int} (hd : decode (mrec i).2.2.1 pc = .ok (.if_icmp .gt o, 3)) (ht : (pc : Int) + o = (t : Int)) (kt : b < a → Wp G l i d t ls st h Q) (kf : ¬ b < a → Wp G l i d (pc + 3) ls st h Q) : Wp G l i d pc ls (vI b :: vI a :: st) h Q := by
  intro p e s m args below meth c H locs la C hS hP hO hl hst
  have ha : R32 a := okh (okt hst)
  have hb : R32 b := okh hst
  have e1 := eq32 ha hb
  have e2 := lt32 ha hb
  have e3 := lt32 hb ha
  skip
  refine lv_icmp_gt C.1 C.2.1 hd ht (fun hc => kt ?_ p e s m args below meth c H locs la C hS hP hO hl (okt (okt hst))) (fun hc => kf ?_ p e s m args below meth c H locs la C hS hP hO hl (okt (okt hst)))
  all_goals (simp only [Int32.not_lt, Int32.not_le, Int32.le_iff_toInt_le, Int32.lt_iff_toInt_lt, ge_iff_le, gt_iff_lt, of32 ha, of32 hb, Int32.toInt_zero, e1] at hc; omega)
theorem wp_if_le {a : Int} {t : Nat} {o : Int} (hd : decode (mrec i).2.2.1 pc = .ok (.ifCond .le o, 3)) (ht : (pc : Int) + o = (t : Int)) (kt : ¬ 0 < a → Wp G l i d t ls st h Q) (kf : 0 < a → Wp G l i d (pc + 3) ls st h Q) : Wp G l i d pc ls (vI a :: st) h Q := by
  intro p e s m args below meth c H locs la C hS hP hO hl hst
  have ha : R32 a := okh hst
  have hb : R32 0 := r32_0
  have e1 := eq32 ha hb
  have e2 := lt32 ha hb
  have e3 := lt32 hb ha
  rw [← zero32] at e1 e2 e3
  refine lv_if_le C.1 C.2.1 hd ht (fun hc => kt ?_ p e s m args below meth c H locs la C hS hP hO hl (okt hst)) (fun hc => kf ?_ p e s m args below meth c H locs la C hS hP hO hl (okt hst))
  all_goals (simp only [Int32.not_lt, Int32.not_le, Int32.le_iff_toInt_le, Int32.lt_iff_toInt_lt, ge_iff_le, gt_iff_lt, of32 ha, of32 hb, Int32.toInt_zero, e1] at hc; omega)
theorem wp_icmp_le {a b : Int} {t : Nat} {o : Int} (hd : decode (mrec i).2.2.1 pc = .ok (.if_icmp .le o, 3)) (ht : (pc : Int) + o = (t : Int)) (kt : ¬ b < a → Wp G l i d t ls st h Q) (kf : b < a → Wp G l i d (pc + 3) ls st h Q) : Wp G l i d pc ls (vI b :: vI a :: st) h Q := by
  intro p e s m args below meth c H locs la C hS hP hO hl hst
  have ha : R32 a := okh (okt hst)
  have hb : R32 b := okh hst
  have e1 := eq32 ha hb
  have e2 := lt32 ha hb
  have e3 := lt32 hb ha
  skip
  refine lv_icmp_le C.1 C.2.1 hd ht (fun hc => kt ?_ p e s m args below meth c H locs la C hS hP hO hl (okt (okt hst))) (fun hc => kf ?_ p e s m args below meth c H locs la C hS hP hO hl (okt (okt hst)))
  all_goals (simp only [Int32.not_lt, Int32.not_le, Int32.le_iff_toInt_le, Int32.lt_iff_toInt_lt, ge_iff_le, gt_iff_lt, of32 ha, of32 hb, Int32.toInt_zero, e1] at hc; omega)
end INS
end
section
/-! what the tables say, decided by program -/
theorem wG_of {w : Cond} (h : w ∈ lw_tbl) (g : goodWord w = true) : w ∈ wG := List.mem_filter.mpr ⟨h, g⟩
def inT (p : Nat) (w : Cond) : Bool := decide (lw_tbl[p]? = some w)
theorem inT_in {p : Nat} {w : Cond} (h : inT p w = true) : w ∈ lw_tbl := List.mem_of_getElem? (of_decide_eq_true h)
theorem zip_in {α : Type} {f : α → Cond} {l : List α} {ps : List Nat} (hl : l.length = ps.length) (h : (l.zip ps).all (fun q => inT q.2 (f q.1)) = true) : ∀ e ∈ l, f e ∈ lw_tbl := by
  intro e he
  obtain ⟨i, hi⟩ := List.getElem?_of_mem he
  have hlt := (List.getElem?_eq_some_iff.mp hi).1
  have hp : ps[i]? = some (ps[i]'(by omega)) := List.getElem?_eq_getElem _
  have hz : (l.zip ps)[i]? = some (e, ps[i]'(by omega)) := by rw [List.getElem?_zip_eq_some]; exact ⟨hi, hp⟩
  exact inT_in (List.all_eq_true.mp h _ (List.mem_of_getElem? hz))
theorem fld_in : ∀ e ∈ fldT, fldW e ∈ lw_tbl := zip_in (ps := fldP) (by decide +kernel) (by decide +kernel)
theorem mth_in : ∀ e ∈ mthT, mthW e ∈ lw_tbl := zip_in (ps := mthP) (by decide +kernel) (by decide +kernel)
set_option maxRecDepth 100000 in
set_option maxHeartbeats 4000000 in
theorem cod_eq : (List.range nM).map codW = codP.filterMap (fun i => lw_tbl[i]?) := rfl
theorem cod_in {i : Nat} (h : i < nM) : codW i ∈ wG := by
  refine wG_of ?_ rfl
  have h1 : codW i ∈ (List.range nM).map codW := List.mem_map.mpr ⟨i, List.mem_range.mpr h, rfl⟩
  rw [cod_eq] at h1
  obtain ⟨p, -, hp⟩ := List.mem_filterMap.mp h1
  exact List.mem_of_getElem? hp
/-- a field link's class, slot and class's size; what a slot may hold -/
theorem fld_ok : ∀ e ∈ fldT, e.2.2.1 < 8 ∧ e.2.2.2.1 < (vwCl.getD e.2.2.1 ("", TX1, 0)).2.2 := by decide +kernel
theorem cl_ok : ∀ ci, ci < 8 → ∀ j, j < (vwCl.getD ci ("", TX1, 0)).2.2 → ((vwCl.getD ci ("", TX1, 0)).2.1 j).1 = (vwCl.getD ci ("", TX1, 0)).1 := by decide +kernel
theorem cl_lay : ∀ ci, ci < 8 → ∀ w ∈ u_ws (vwCl.getD ci ("", TX1, 0)).1 (vwCl.getD ci ("", TX1, 0)).2.1 (vwCl.getD ci ("", TX1, 0)).2.2, w ∈ lw_tbl ∧ goodWord w = true := by decide +kernel
theorem cl_nm : ∀ ci, ci < 8 → ∀ a, a < (vwCl.getD ci ("", TX1, 0)).2.2 → ∀ b, b < (vwCl.getD ci ("", TX1, 0)).2.2 → a ≠ b → ((vwCl.getD ci ("", TX1, 0)).2.1 a).2.1 ≠ ((vwCl.getD ci ("", TX1, 0)).2.1 b).2.1 := by decide +kernel
def tyCl (ci j : Nat) : FieldType := (parseFieldDescriptor ((vwCl.getD ci ("", TX1, 0)).2.1 j).2.2.1).getD .int
theorem cl_ty : ∀ ci, ci < 8 → ∀ j, j < (vwCl.getD ci ("", TX1, 0)).2.2 → parseFieldDescriptor ((vwCl.getD ci ("", TX1, 0)).2.1 j).2.2.1 = some (tyCl ci j) := by decide +kernel
def shB (k : Nat) : Bool := decide ((sh k).1 ≠ 0) || (decide ((sh k).2.1 < 8) && decide ((sh k).2.2.length = (vwCl.getD (sh k).2.1 ("", TX1, 0)).2.2) && (List.range (sh k).2.2.length).all (fun j =>
    (decide ((sh k).2.2.getD j 9 ≠ 0) || (decide (tyCl (sh k).2.1 j = .int) && decide (((vwCl.getD (sh k).2.1 ("", TX1, 0)).2.1 j).2.2.2 = false))) &&
    (decide ((sh k).2.2.getD j 9 ≠ 1) || (decide (tyCl (sh k).2.1 j = .long) && decide (((vwCl.getD (sh k).2.1 ("", TX1, 0)).2.1 j).2.2.2 = false))) &&
    (decide ((sh k).2.2.getD j 9 ≠ 2) || (decide (tyCl (sh k).2.1 j = .boolean) && decide (((vwCl.getD (sh k).2.1 ("", TX1, 0)).2.1 j).2.2.2 = false)))))
theorem shB_ok : (List.range nO).all shB = true := by decide +kernel
theorem sh_ok {k : Nat} (h : (sh k).1 = 0) : (sh k).2.1 < 8 ∧ (sh k).2.2.length = (vwCl.getD (sh k).2.1 ("", TX1, 0)).2.2 ∧ ∀ j, j < (sh k).2.2.length →
    ((sh k).2.2.getD j 9 = 0 → tyCl (sh k).2.1 j = .int ∧ ((vwCl.getD (sh k).2.1 ("", TX1, 0)).2.1 j).2.2.2 = false) ∧
    ((sh k).2.2.getD j 9 = 1 → tyCl (sh k).2.1 j = .long ∧ ((vwCl.getD (sh k).2.1 ("", TX1, 0)).2.1 j).2.2.2 = false) ∧
    ((sh k).2.2.getD j 9 = 2 → tyCl (sh k).2.1 j = .boolean ∧ ((vwCl.getD (sh k).2.1 ("", TX1, 0)).2.1 j).2.2.2 = false) := by
  have h1 := List.all_eq_true.mp shB_ok k (List.mem_range.mpr (sh_lt (by omega)))
  simp only [shB, Bool.or_eq_true, Bool.and_eq_true, decide_eq_true_eq, List.all_eq_true, List.mem_range] at h1
  rcases h1 with h1 | ⟨⟨h1, h2⟩, h3⟩
  · exact absurd h h1
  · refine ⟨h1, h2, fun j hj => ?_⟩
    obtain ⟨⟨a, b⟩, c⟩ := h3 j hj
    exact ⟨fun z => a.resolve_left (fun q => q z), fun z => b.resolve_left (fun q => q z), fun z => c.resolve_left (fun q => q z)⟩
/-- methods: static ones, and those that are called on an object -/
def mOk (m : Nat) : Bool := decide ((mrec m).2.1.cls ≠ "java/lang/invoke/MethodHandle") && decide ((mrec m).2.1.cls ≠ "java/lang/invoke/VarHandle") && decide (clsN (mrec m).1 = (mrec m).2.1.cls) && decide ((mrec m).2.2.2.1 ≤ 20) && (decide ((mrec m).1 = 11) || stF.getD m false || (decide (vwOf (mrec m).1 < 8) && decide ((vwCl.getD (vwOf (mrec m).1) ("", TX1, 0)).1 = (mrec m).2.1.cls)))
theorem mth_ok0 : (List.range nM).all mOk = true := by decide +kernel
theorem mth_ok {m : Nat} (h : m < nM) : mOk m = true := List.all_eq_true.mp mth_ok0 m (List.mem_range.mpr h)
theorem ini_in0 : ∀ e ∈ List.range nM, Cond.initialized (mrec e).2.1.cls ∈ lw_tbl := zip_in (f := fun m => Cond.initialized (mrec m).2.1.cls) (ps := iniP) (by decide +kernel) (by decide +kernel)
theorem knd_in0 : ∀ e ∈ List.range nM, (if stF.getD e false then Cond.static (mrec e).2.1 else Cond.instanceMethod (mrec e).2.1) ∈ lw_tbl := zip_in (f := fun e => if stF.getD e false then Cond.static (mrec e).2.1 else Cond.instanceMethod (mrec e).2.1) (ps := kndP) (by decide +kernel) (by decide +kernel)
theorem sel_in0 : ∀ e ∈ List.range nM, (if stF.getD e false then lw_tbl.getD 0 .returned else Cond.selects (mrec e).2.1.cls (mrec e).2.1 (mrec e).2.1) ∈ lw_tbl := zip_in (f := fun e => if stF.getD e false then lw_tbl.getD 0 .returned else Cond.selects (mrec e).2.1.cls (mrec e).2.1 (mrec e).2.1) (ps := selP) (by decide +kernel) (by decide +kernel)
theorem cst_in : ∀ e ∈ cstT, Cond.constant (clsN e.1) e.2.1 (Int32.ofInt e.2.2) ∈ lw_tbl ∧ (-2147483648 ≤ e.2.2 ∧ e.2.2 ≤ 2147483647) := by decide +kernel
theorem csl_in : ∀ e ∈ cslT, Cond.constantLong (clsN e.1) e.2.1 (Int64.ofInt e.2.2) ∈ lw_tbl ∧ (-9223372036854775808 ≤ e.2.2 ∧ e.2.2 ≤ 9223372036854775807) := by decide +kernel
def mmName (b : Bool) : MethodName := if b then Lib.Math.max.name else Lib.Math.min.name
theorem mmx_in : ∀ e ∈ mmxT, Cond.methodLink (clsN e.1) e.2.1 (mmName e.2.2) ∈ lw_tbl := by decide +kernel
theorem mmx_st : ∀ b : Bool, Cond.static (mmName b) ∈ lw_tbl := by decide +kernel
theorem mmx_cd : Cond.code Lib.Math.max.name Lib.Math.max.code 2 (some .int) ∈ lw_tbl ∧ Cond.code Lib.Math.min.name Lib.Math.min.code 2 (some .int) ∈ lw_tbl ∧ Cond.initialized "java/lang/Math" ∈ lw_tbl := by decide +kernel
theorem acp_in : Cond.methodLink (clsN 6) acpyI arraycopyName ∈ lw_tbl ∧ Cond.native arraycopyName ∈ lw_tbl ∧ Cond.static arraycopyName ∈ lw_tbl ∧ Cond.initialized "java/lang/System" ∈ lw_tbl := by decide +kernel
theorem abv_in : Cond.fieldLink (clsN 1) abvI RX1 "ABOVE" "[I" ∈ lw_tbl := by decide +kernel
end
section
section HEAP
variable {G : GD} {l : Launch} {i d pc : Nat} {ls : LcT} {st : List AV} {h : AH} {Q : Option AV → AH → Prop}
theorem cellG_0 {k : Nat} (e : (sh k).1 = 0) : cellG G h k = .inr ((sh k).2.1, (sh k).2.2.mapIdx (fun i c => rv G (fv h k i c))) := by unfold cellG; rw [e]; rfl
theorem cellG_1 {k : Nat} (e : (sh k).1 = 1) : cellG G h k = .inl (G.2.2 1, (sh k).2.1, .inl (fun i => Int32.ofInt (h k i))) := by unfold cellG; rw [e]; rfl
theorem cellG_2 {k : Nat} (e : (sh k).1 = 2) : cellG G h k = .inl (G.2.2 2, (sh k).2.1, .inl (fun i => Int32.ofInt (h k i))) := by unfold cellG; rw [e]; rfl
theorem cellG_3 {k : Nat} (e : (sh k).1 = 3) : cellG G h k = .inl (G.2.2 3, (sh k).2.1, .inr (.inl (fun i => Int64.ofInt (h k i)))) := by unfold cellG; rw [e]; rfl
theorem cellG_q {k t : Nat} (e : (sh k).1 = t) (ht : 4 ≤ t) : cellG G h k = .inl (G.2.2 t, (sh k).2.1, .inr (.inr (.inr (.inr (fun i => if i < (sh k).2.1 then some (G.2.1 ((sh k).2.2.getD 0 0 + (sh k).2.2.getD 1 0 * i)) else none))))) := by
  unfold cellG
  rw [e]
  match t, ht with
  | n + 4, _ => rfl
theorem vwAt {ci : Nat} (h : ci < 8) : vwCl[ci]? = some (vwCl.getD ci ("", TX1, 0)) := by
  rw [List.getD_eq_getElem?_getD, List.getElem?_eq_getElem (show ci < vwCl.length from h)]; rfl
theorem fldAt_spec {own j ci k : Nat} (h : fldAt own j = some (ci, k)) : ∃ b : Bool, (own, j, ci, k, b) ∈ fldT := by
  unfold fldAt at h
  cases e : fldT.find? (fun e => e.1 == own && e.2.1 == j) with
  | none => rw [e] at h; cases h
  | some x =>
    rw [e] at h
    have hm := List.mem_of_find?_eq_some e
    have hp := List.find?_some e
    obtain ⟨x1, x2, x3, x4, x5⟩ := x
    simp only [Option.map_some, Option.some.injEq, Prod.mk.injEq] at h
    simp only [Bool.and_eq_true, beq_iff_eq] at hp
    obtain ⟨h1, h2⟩ := h
    obtain ⟨h3, h4⟩ := hp
    exact ⟨x5, by rw [← h1, ← h2, ← h3, ← h4]; exact hm⟩
theorem getD_cons {kds : List Nat} {j : Nat} (hj : j < kds.length) (z : Nat) : kds[j]? = some (kds.getD j z) := by
  rw [List.getD_eq_getElem?_getD, List.getElem?_eq_getElem hj]; rfl
theorem fv_ok (hO : Hok h) {k j : Nat} (e : (sh k).1 = 0) : avOk (fv h k j ((sh k).2.2.getD j 0)) := by
  have h1 := hO k j
  unfold slOk at h1
  rw [if_neg (by omega)] at h1
  generalize (sh k).2.2.getD j 0 = c at h1 ⊢
  match c, h1 with
  | 0, h1 =>
    have h2 : R32 (h k j) := by simpa [e] using h1
    exact h2
  | 1, h1 =>
    have h2 : R64 (h k j) := by simpa [e] using h1
    exact h2
  | 2, h1 =>
    have h2 : h k j = 0 ∨ h k j = 1 := by simpa [e] using h1
    show R32 (h k j)
    unfold R32; omega
  | t + 3, _ => trivial
theorem laysIn {ci : Nat} (h : ci < 8) : ∀ w ∈ u_ws (vwCl.getD ci ("", TX1, 0)).1 (vwCl.getD ci ("", TX1, 0)).2.1 (vwCl.getD ci ("", TX1, 0)).2.2, w ∈ wG := fun w hw => wG_of (cl_lay ci h w hw).1 (cl_lay ci h w hw).2
theorem wp_getf {x k ci j : Nat} (hd : decode (mrec i).2.2.1 pc = .ok (.getfield x, 3)) (hf : fldAt (mrec i).1 x = some (ci, j)) (hk : (sh k).1 = 0 ∧ (sh k).2.1 = ci)
    (kk : Wp G l i d (pc + 3) ls (fv h k j ((sh k).2.2.getD j 0) :: st) h Q) : Wp G l i d pc ls (vR k :: st) h Q := by
  intro p e s m args below meth c H locs la C hS hP hO hl hst
  obtain ⟨b, hm⟩ := fldAt_spec hf
  obtain ⟨hc8, hjN⟩ := fld_ok _ hm
  obtain ⟨hx, hb, -, -, hown, hts, -, ⟨-, hK, hN, -, -⟩, -⟩ := id C
  obtain ⟨s1, s2, -⟩ := sh_ok hk.1
  have hat : (wsG G h)[k]? = some (G.2.1 k, .inr (ci, (sh k).2.2.mapIdx (fun i c => rv G (fv h k i c)))) := by
    rw [wsG_at G h (sh_lt (by omega)), cellG_0 hk.1, hk.2]
  have hjl : j < (sh k).2.2.length := by rw [s2, hk.2]; exact hjN
  have hv : ((sh k).2.2.mapIdx (fun i c => rv G (fv h k i c)))[j]? = some (rv G (fv h k j ((sh k).2.2.getD j 0))) := by
    rw [List.getElem?_mapIdx, getD_cons hjl 0]; rfl
  have hd1 := cl_ok ci hc8 j hjN
  have K := kk p e s m args below meth c H locs la C hS hP hO hl (okc (fv_ok hO hk.1) (okt hst))
  cases b with
  | false =>
    have hw : (Cond.fieldLink (clsN (mrec i).1) x (vwCl.getD ci ("", TX1, 0)).1 ((vwCl.getD ci ("", TX1, 0)).2.1 j).2.1 ((vwCl.getD ci ("", TX1, 0)).2.1 j).2.2.1).before args s = true := hts _ (wG_of (fld_in _ hm) rfl)
    exact va_get (ws := wsG G h) (a := G.2.1 k) hx hb hts (laysIn hc8) hown hK hP k hat (vwAt hc8) j hjN hw (fun y hy => by rw [← hd1]; exact hy) hv hd K
  | true =>
    have hw := va_Nw.use (A := args) (w := .fieldLinkNest (clsN (mrec i).1) x (vwCl.getD ci ("", TX1, 0)).1 ((vwCl.getD ci ("", TX1, 0)).2.1 j).2.1 ((vwCl.getD ci ("", TX1, 0)).2.1 j).2.2.1 "OneStair") rfl (hN _ hm rfl)
    exact va_getN (ws := wsG G h) (a := G.2.1 k) hx hb hts (laysIn hc8) hown hK hP k hat (vwAt hc8) j hjN hw (fun y hy => by rw [← hd1]; exact hy) hv hd K
theorem map_set {k j : Nat} {z : Int} {v : Value} (hv : rv G (fv (hu h k j z) k j ((sh k).2.2.getD j 0)) = v) (hj : j < (sh k).2.2.length) :
    ((sh k).2.2.mapIdx (fun i c => rv G (fv h k i c))).set j v = (sh k).2.2.mapIdx (fun i c => rv G (fv (hu h k j z) k i c)) := by
  apply List.ext_getElem?
  intro a
  by_cases e : a = j
  · subst e
    rw [List.getElem?_set_self (by simpa using hj), List.getElem?_mapIdx, getD_cons hj 0]
    exact congrArg some hv.symm
  · rw [List.getElem?_set_ne (Ne.symm e), List.getElem?_mapIdx, List.getElem?_mapIdx]
    have : ∀ c, fv (hu h k j z) k a c = fv h k a c := fun c => by unfold fv; split <;> simp [hu, e]
    simp only [this]
theorem wp_putf {x k ci j : Nat} {z : Int} {v : AV} (hd : decode (mrec i).2.2.1 pc = .ok (.putfield x, 3)) (hf : fldAt (mrec i).1 x = some (ci, j)) (hk : (sh k).1 = 0 ∧ (sh k).2.1 = ci)
    (hv : ((sh k).2.2.getD j 9 = 0 ∧ v = vI z) ∨ ((sh k).2.2.getD j 9 = 1 ∧ v = vL z) ∨ ((sh k).2.2.getD j 9 = 2 ∧ v = vI z ∧ (z = 0 ∨ z = 1)))
    (kk : Wp G l i d (pc + 3) ls st (hu h k j z) Q) : Wp G l i d pc ls (v :: vR k :: st) h Q := by
  intro p e s m args below meth c H locs la C hS hP hO hl hst
  obtain ⟨b, hm⟩ := fldAt_spec hf
  obtain ⟨hc8, hjN⟩ := fld_ok _ hm
  obtain ⟨hx, hb, -, -, hown, hts, -, ⟨hin, hK, hN, -, -⟩, -⟩ := id C
  obtain ⟨s1, s2, s3⟩ := sh_ok hk.1
  have hat : (wsG G h)[k]? = some (G.2.1 k, .inr (ci, (sh k).2.2.mapIdx (fun i c => rv G (fv h k i c)))) := by
    rw [wsG_at G h (sh_lt (by omega)), cellG_0 hk.1, hk.2]
  have hjl : j < (sh k).2.2.length := by rw [s2, hk.2]; exact hjN
  obtain ⟨t0, t1, t2⟩ := s3 j hjl
  have hg : (sh k).2.2.getD j 9 = (sh k).2.2.getD j 0 := by
    have h1 := getD_cons hjl 9
    rw [getD_cons hjl 0] at h1
    exact (Option.some.inj h1).symm
  rw [hk.2] at t0 t1 t2
  have hd1 := cl_ok ci hc8 j hjN
  have hty := cl_ty ci hc8 j hjN
  have hsl : slOk k j z ∧ rv G (fv (hu h k j z) k j ((sh k).2.2.getD j 0)) = rv G v ∧ ((vwCl.getD ci ("", TX1, 0)).2.1 j).2.2.2 = false ∧ narrow (tyCl ci j) (rv G v) = rv G v ∧ fits (tyCl ci j) (rv G v) = true := by
    rcases hv with ⟨g, rfl⟩ | ⟨g, rfl⟩ | ⟨g, rfl, hz⟩
    · have hr : R32 z := okh hst
      rw [hg] at g
      refine ⟨by unfold slOk; rw [hk.1, g]; simp; exact hr, by rw [g]; show rv G (vI (hu h k j z k j)) = _; simp [hu], (t0 (hg.trans g)).2, ?_, ?_⟩
      · rw [(t0 (hg.trans g)).1]; rfl
      · rw [(t0 (hg.trans g)).1]; rfl
    · have hr : R64 z := okh hst
      rw [hg] at g
      refine ⟨by unfold slOk; rw [hk.1, g]; simp; exact hr, by rw [g]; show rv G (vL (hu h k j z k j)) = _; simp [hu], (t1 (hg.trans g)).2, ?_, ?_⟩
      · rw [(t1 (hg.trans g)).1]; rfl
      · rw [(t1 (hg.trans g)).1]; rfl
    · rw [hg] at g
      refine ⟨by unfold slOk; rw [hk.1, g]; simp; exact hz, by rw [g]; show rv G (vI (hu h k j z k j)) = _; simp [hu], (t2 (hg.trans g)).2, ?_, ?_⟩
      · rw [(t2 (hg.trans g)).1]
        rcases hz with rfl | rfl
        · exact (by decide : narrow .boolean (.int (Int32.ofInt 0)) = .int (Int32.ofInt 0))
        · exact (by decide : narrow .boolean (.int (Int32.ofInt 1)) = .int (Int32.ofInt 1))
      · rw [(t2 (hg.trans g)).1]
        rcases hz with rfl | rfl
        · exact (by decide : fits .boolean (.int (Int32.ofInt 0)) = true)
        · exact (by decide : fits .boolean (.int (Int32.ofInt 1)) = true)
  obtain ⟨hs1, hs2, hs3, hs4, hs5⟩ := hsl
  have key : ∀ (H1 : Heap) (locs1 : List Loc), va_P G.1 vwCl ((wsG G h).set k (G.2.1 k, .inr (ci, ((sh k).2.2.mapIdx (fun i c => rv G (fv h k i c))).set j (rv G v)))) H1 → va_D (AG G) ((wsG G h).set k (G.2.1 k, .inr (ci, ((sh k).2.2.mapIdx (fun i c => rv G (fv h k i c))).set j (rv G v)))) → va_S (AG G) s.heap H1 locs1 → W p l e (rmD d) s m args below meth c H1 locs1 0 0 (MQ below (QcG G Q) args s 0 0 (AG G)) (F0 m (pc + 3) la (st.map (rv G))) := by
    intro H1 locs1 hP1 _ hS1
    refine kk p e s m args below meth c H1 locs1 la C hS1 ?_ (hO.put hs1) hl (okt (okt hst))
    rw [wsG_set G (h := h) (k := k) (fun a ha => hu_ne ha), cellG_0 hk.1, hk.2, ← map_set hs2 hjl]
    exact hP1
  cases b with
  | false =>
    have hw : (Cond.fieldLink (clsN (mrec i).1) x (vwCl.getD ci ("", TX1, 0)).1 ((vwCl.getD ci ("", TX1, 0)).2.1 j).2.1 ((vwCl.getD ci ("", TX1, 0)).2.1 j).2.2.1).before args s = true := hts _ (wG_of (fld_in _ hm) rfl)
    exact va_put (ws := wsG G h) (a := G.2.1 k) hx hb hts (laysIn hc8) (tyCl ci) (cl_ty ci hc8) (cl_nm ci hc8) hown hK hP (wsG_D h hin) hS k hat (vwAt hc8) j hjN hw (fun y hy => by rw [← hd1]; exact hy) hs3 hty hs4 hs5 (by simpa using hjl) hd key
  | true =>
    have hw := va_Nw.use (A := args) (w := .fieldLinkNest (clsN (mrec i).1) x (vwCl.getD ci ("", TX1, 0)).1 ((vwCl.getD ci ("", TX1, 0)).2.1 j).2.1 ((vwCl.getD ci ("", TX1, 0)).2.1 j).2.2.1 "OneStair") rfl (hN _ hm rfl)
    exact va_putN (ws := wsG G h) (a := G.2.1 k) hx hb hts (laysIn hc8) (tyCl ci) (cl_ty ci hc8) (cl_nm ci hc8) hown hK hP (wsG_D h hin) hS k hat (vwAt hc8) j hjN hw (fun y hy => by rw [← hd1]; exact hy) hs3 hty hs4 hs5 (by simpa using hjl) hd key
-- arrays
theorem slOk_1 (hO : Hok h) {k j : Nat} (e : (sh k).1 = 1) : R32 (h k j) := by
  have h1 := hO k j
  unfold slOk at h1
  simpa [e] using h1
theorem slOk_2 (hO : Hok h) {k j : Nat} (e : (sh k).1 = 2) : -128 ≤ h k j ∧ h k j ≤ 127 := by
  have h1 := hO k j
  unfold slOk at h1
  simpa [e] using h1
theorem slOk_3 (hO : Hok h) {k j : Nat} (e : (sh k).1 = 3) : R64 (h k j) := by
  have h1 := hO k j
  unfold slOk at h1
  simpa [e] using h1
theorem wp_iald {k : Nat} {j : Int} (hd : decode (mrec i).2.2.1 pc = .ok (.iaload, 1)) (hk : (sh k).1 = 1) (hj : 0 ≤ j ∧ j < (sh k).2.1) (kk : Wp G l i d (pc + 1) ls (vI (h k j.toNat) :: st) h Q) : Wp G l i d pc ls (vI j :: vR k :: st) h Q := by
  intro p e s m args below meth c H locs la C hS hP hO hl hst
  have hr : R32 j := okh hst
  have hat : (wsG G h)[k]? = some (G.2.1 k, .inl (G.2.2 1, (sh k).2.1, .inl (fun i => Int32.ofInt (h k i)))) := by rw [wsG_at G h (sh_lt (by omega)), cellG_1 hk]
  have K := kk p e s m args below meth c H locs la C hS hP hO hl (okc (show avOk (vI (h k j.toNat)) from slOk_1 hO hk) (okt (okt hst)))
  refine va_iald (ws := wsG G h) (a := G.2.1 k) C.1 C.2.1 C.2.2.2.2.2.2.2.1.2.1 hP k 0 hat rfl (vpin hr hj.1 hj.2) hd ?_
  rw [clamp hr]
  exact K
theorem wp_bald {k : Nat} {j : Int} (hd : decode (mrec i).2.2.1 pc = .ok (.baload, 1)) (hk : (sh k).1 = 2) (hj : 0 ≤ j ∧ j < (sh k).2.1) (kk : Wp G l i d (pc + 1) ls (vI (h k j.toNat) :: st) h Q) : Wp G l i d pc ls (vI j :: vR k :: st) h Q := by
  intro p e s m args below meth c H locs la C hS hP hO hl hst
  have hr : R32 j := okh hst
  have hat : (wsG G h)[k]? = some (G.2.1 k, .inl (G.2.2 2, (sh k).2.1, .inl (fun i => Int32.ofInt (h k i)))) := by rw [wsG_at G h (sh_lt (by omega)), cellG_2 hk]
  have hb2 := slOk_2 hO (j := j.toNat) hk
  have K := kk p e s m args below meth c H locs la C hS hP hO hl (okc (show R32 (h k j.toNat) by unfold R32; omega) (okt (okt hst)))
  refine va_bald (ws := wsG G h) (a := G.2.1 k) C.1 C.2.1 C.2.2.2.2.2.2.2.1.2.1 hP k 1 hat rfl (vpin hr hj.1 hj.2) hd ?_
  rw [clamp hr]
  exact K
theorem wp_lald {k : Nat} {j : Int} (hd : decode (mrec i).2.2.1 pc = .ok (.laload, 1)) (hk : (sh k).1 = 3) (hj : 0 ≤ j ∧ j < (sh k).2.1) (kk : Wp G l i d (pc + 1) ls (vL (h k j.toNat) :: st) h Q) : Wp G l i d pc ls (vI j :: vR k :: st) h Q := by
  intro p e s m args below meth c H locs la C hS hP hO hl hst
  have hr : R32 j := okh hst
  have hat : (wsG G h)[k]? = some (G.2.1 k, .inl (G.2.2 3, (sh k).2.1, .inr (.inl (fun i => Int64.ofInt (h k i))))) := by rw [wsG_at G h (sh_lt (by omega)), cellG_3 hk]
  have K := kk p e s m args below meth c H locs la C hS hP hO hl (okc (show avOk (vL (h k j.toNat)) from slOk_3 hO hk) (okt (okt hst)))
  refine va_lald (ws := wsG G h) (a := G.2.1 k) C.1 C.2.1 C.2.2.2.2.2.2.2.1.2.1 hP k 2 hat rfl (vpin hr hj.1 hj.2) hd ?_
  rw [clamp hr]
  exact K
theorem wp_iast {k : Nat} {j z : Int} (hd : decode (mrec i).2.2.1 pc = .ok (.iastore, 1)) (hk : (sh k).1 = 1) (hj : 0 ≤ j ∧ j < (sh k).2.1) (kk : Wp G l i d (pc + 1) ls st (hu h k j.toNat z) Q) : Wp G l i d pc ls (vI z :: vI j :: vR k :: st) h Q := by
  intro p e s m args below meth c H locs la C hS hP hO hl hst
  have hz : R32 z := okh hst
  have hr : R32 j := okh (okt hst)
  have hat : (wsG G h)[k]? = some (G.2.1 k, .inl (G.2.2 1, (sh k).2.1, .inl (fun i => Int32.ofInt (h k i)))) := by rw [wsG_at G h (sh_lt (by omega)), cellG_1 hk]
  refine va_iast (ws := wsG G h) (a := G.2.1 k) C.1 C.2.1 C.2.2.2.2.2.2.2.1.2.1 hP (wsG_D h C.2.2.2.2.2.2.2.1.1) hS k 0 hat rfl (vpin hr hj.1 hj.2) hd fun H1 locs1 hP1 _ hS1 => ?_
  refine kk p e s m args below meth c H1 locs1 la C hS1 ?_ (hO.put (by unfold slOk; simp [hk]; exact hz)) hl (okt (okt (okt hst)))
  rw [wsG_set G (h := h) (k := k) (fun a ha => hu_ne ha), cellG_1 hk]
  have e9 : (fun a => Int32.ofInt (hu h k j.toNat z k a)) = upd (fun a => Int32.ofInt (h k a)) (Int32.ofInt j).toNatClampNeg (Int32.ofInt z) := by
    funext a
    rw [clamp hr, hu_at]
    unfold upd
    split <;> rfl
  rw [e9]
  exact hP1
theorem wp_bast {k : Nat} {j z : Int} (hd : decode (mrec i).2.2.1 pc = .ok (.bastore, 1)) (hk : (sh k).1 = 2) (hj : 0 ≤ j ∧ j < (sh k).2.1) (kk : Wp G l i d (pc + 1) ls st (hu h k j.toNat (w8 z)) Q) : Wp G l i d pc ls (vI z :: vI j :: vR k :: st) h Q := by
  intro p e s m args below meth c H locs la C hS hP hO hl hst
  have hz : R32 z := okh hst
  have hr : R32 j := okh (okt hst)
  have h8 : -128 ≤ w8 z ∧ w8 z ≤ 127 := by
    have h1 := Int8.toInt_lt (Int32.ofInt z).toInt8
    have h2 := Int8.le_toInt (Int32.ofInt z).toInt8
    unfold w8; omega
  have hat : (wsG G h)[k]? = some (G.2.1 k, .inl (G.2.2 2, (sh k).2.1, .inl (fun i => Int32.ofInt (h k i)))) := by rw [wsG_at G h (sh_lt (by omega)), cellG_2 hk]
  refine va_bast (ws := wsG G h) (a := G.2.1 k) C.1 C.2.1 C.2.2.2.2.2.2.2.1.2.1 hP (wsG_D h C.2.2.2.2.2.2.2.1.1) hS k 1 hat rfl (vpin hr hj.1 hj.2) hd fun H1 locs1 hP1 _ hS1 => ?_
  refine kk p e s m args below meth c H1 locs1 la C hS1 ?_ (hO.put (by unfold slOk; simp [hk]; exact h8)) hl (okt (okt (okt hst)))
  rw [wsG_set G (h := h) (k := k) (fun a ha => hu_ne ha), cellG_2 hk]
  have e9 : (fun a => Int32.ofInt (hu h k j.toNat (w8 z) k a)) = upd (fun a => Int32.ofInt (h k a)) (Int32.ofInt j).toNatClampNeg (vp_nar .byte (Int32.ofInt z)) := by
    funext a
    rw [clamp hr, hu_at, vp_nar_byte]
    unfold upd
    split
    · apply Int32.toInt_inj.mp
      rw [Int8.toInt_toInt32, of32 (by unfold R32; omega)]; rfl
    · rfl
  rw [e9]
  exact hP1
theorem wp_last {k : Nat} {j z : Int} (hd : decode (mrec i).2.2.1 pc = .ok (.lastore, 1)) (hk : (sh k).1 = 3) (hj : 0 ≤ j ∧ j < (sh k).2.1) (kk : Wp G l i d (pc + 1) ls st (hu h k j.toNat z) Q) : Wp G l i d pc ls (vL z :: vI j :: vR k :: st) h Q := by
  intro p e s m args below meth c H locs la C hS hP hO hl hst
  have hz : R64 z := okh hst
  have hr : R32 j := okh (okt hst)
  have hat : (wsG G h)[k]? = some (G.2.1 k, .inl (G.2.2 3, (sh k).2.1, .inr (.inl (fun i => Int64.ofInt (h k i))))) := by rw [wsG_at G h (sh_lt (by omega)), cellG_3 hk]
  refine va_last (ws := wsG G h) (a := G.2.1 k) C.1 C.2.1 C.2.2.2.2.2.2.2.1.2.1 hP (wsG_D h C.2.2.2.2.2.2.2.1.1) hS k 2 hat rfl (vpin hr hj.1 hj.2) hd fun H1 locs1 hP1 _ hS1 => ?_
  refine kk p e s m args below meth c H1 locs1 la C hS1 ?_ (hO.put (by unfold slOk; simp [hk]; exact hz)) hl (okt (okt (okt hst)))
  rw [wsG_set G (h := h) (k := k) (fun a ha => hu_ne ha), cellG_3 hk]
  have e9 : (fun a => Int64.ofInt (hu h k j.toNat z k a)) = vp_updL (fun a => Int64.ofInt (h k a)) (Int32.ofInt j).toNatClampNeg (Int64.ofInt z) := by
    funext a
    rw [clamp hr, hu_at]
    unfold vp_updL
    split <;> rfl
  rw [e9]
  exact hP1
theorem wp_aald {k : Nat} {j : Int} (hd : decode (mrec i).2.2.1 pc = .ok (.aaload, 1)) (hk : 4 ≤ (sh k).1 ∧ (sh k).1 ≤ 6) (hj : 0 ≤ j ∧ j < (sh k).2.1) (kk : Wp G l i d (pc + 1) ls (vR ((sh k).2.2.getD 0 0 + (sh k).2.2.getD 1 0 * j.toNat) :: st) h Q) : Wp G l i d pc ls (vI j :: vR k :: st) h Q := by
  intro p e s m args below meth c H locs la C hS hP hO hl hst
  have hr : R32 j := okh hst
  have hat : (wsG G h)[k]? = some (G.2.1 k, .inl (G.2.2 (sh k).1, (sh k).2.1, .inr (.inr (.inr (.inr (fun i => if i < (sh k).2.1 then some (G.2.1 ((sh k).2.2.getD 0 0 + (sh k).2.2.getD 1 0 * i)) else none)))))) := by rw [wsG_at G h (sh_lt (by omega)), cellG_q rfl hk.1]
  have K := kk p e s m args below meth c H locs la C hS hP hO hl (okc trivial (okt (okt hst)))
  have hin := vpin hr hj.1 hj.2
  have hlt : (Int32.ofInt j).toNatClampNeg < (sh k).2.1 := Nat.not_le.mp fun q => hin (Or.inr q)
  obtain ⟨ty, hty, hprim⟩ : ∃ ty, ArrOfT s (G.2.2 (sh k).1) ty ∧ refKind ty = true := by
    have hK := C.2.2.2.2.2.2.2.1.2.1
    rcases (show (sh k).1 = 4 ∨ (sh k).1 = 5 ∨ (sh k).1 = 6 by omega) with e | e | e
    · rw [e]; exact ⟨_, (hK.2 3 _ rfl).1, rfl⟩
    · rw [e]; exact ⟨_, (hK.2 4 _ rfl).1, rfl⟩
    · rw [e]; exact ⟨_, (hK.2 5 _ rfl).1, rfl⟩
  refine W.aald (v := va_rf (if (Int32.ofInt j).toNatClampNeg < (sh k).2.1 then some (G.2.1 ((sh k).2.2.getD 0 0 + (sh k).2.2.getD 1 0 * (Int32.ofInt j).toNatClampNeg)) else none)) (ty := ty) C.1 C.2.1 (hP k _ hat) (hty (sh k).2.1 (fun j => va_rf (if j < (sh k).2.1 then some (G.2.1 ((sh k).2.2.getD 0 0 + (sh k).2.2.getD 1 0 * j)) else none))) hprim (fun q => by cases q) (by show ¬ (_ < 0 ∨ (arrV _ _ _).slots.size ≤ _); rw [arrV_size]; exact hin) (by show (arrV _ _ _).slots[_]? = _; rw [arrV_read _ _ hlt]) rfl rfl hd ?_
  rw [if_pos hlt, clamp hr]
  exact K
theorem wp_abv {j : Int} (hd : decode (mrec i).2.2.1 pc = .ok (.iaload, 1)) (hj : 0 ≤ j ∧ j < 6) (kk : Wp G l i d (pc + 1) ls (vI (aboveF j.toNat) :: st) h Q) : Wp G l i d pc ls (vI j :: vR 2000 :: st) h Q := by
  intro p e s m args below meth c H locs la C hS hP hO hl hst
  have hr : R32 j := okh hst
  have ha : R32 (aboveF j.toNat) := by
    have h6 : j.toNat < 6 := by omega
    generalize j.toNat = n at h6
    match n, h6 with
    | 0, _ | 1, _ | 2, _ | 3, _ | 4, _ | 5, _ => unfold R32 aboveF; simp
  have K := kk p e s m args below meth c H locs la C hS hP hO hl (okc ha (okt (okt hst)))
  refine va_ti C.1 C.2.1 C.2.2.2.2.2.2.2.2.2.2.1 hS (vpin hr hj.1 (by omega)) (v := .int (Int32.ofInt (aboveF j.toNat))) ?_ hd K
  rw [clamp hr]
theorem wp_gets (hd : decode (mrec i).2.2.1 pc = .ok (.getstatic abvI, 3)) (ho : (mrec i).1 = 1) (kk : Wp G l i d (pc + 3) ls (vR 2000 :: st) h Q) : Wp G l i d pc ls st h Q := by
  intro p e s m args below meth c H locs la C hS hP hO hl hst
  have K := kk p e s m args below meth c H locs la C hS hP hO hl (okc trivial hst)
  have hw : (Cond.fieldLink (clsN (mrec i).1) abvI RX1 "ABOVE" "[I").before args s = true := by
    rw [ho]; exact C.2.2.2.2.2.1 _ (wG_of abv_in rfl)
  exact va_gets C.1 C.2.1 C.2.2.2.2.2.2.2.2.2.1 hS C.2.2.2.2.1 hw (fun y hy => hy) hd K
-- constants
theorem wp_ldc {x : Nat} {z : Int} (hd : decode (mrec i).2.2.1 pc = .ok (.ldc x, 2)) (hc : ((mrec i).1, x, z) ∈ cstT) (kk : Wp G l i d (pc + 2) ls (vI z :: st) h Q) : Wp G l i d pc ls st h Q := by
  intro p e s m args below meth c H locs la C hS hP hO hl hst
  obtain ⟨h1, h2⟩ := cst_in _ hc
  exact lv_ldc C.1 C.2.1 C.2.2.2.2.1 (C.2.2.2.2.2.1 _ (wG_of h1 rfl)) hd (kk p e s m args below meth c H locs la C hS hP hO hl (okc (show R32 z from h2) hst))
theorem wp_ldcw {x : Nat} {z : Int} (hd : decode (mrec i).2.2.1 pc = .ok (.ldc_w x, 3)) (hc : ((mrec i).1, x, z) ∈ cstT) (kk : Wp G l i d (pc + 3) ls (vI z :: st) h Q) : Wp G l i d pc ls st h Q := by
  intro p e s m args below meth c H locs la C hS hP hO hl hst
  obtain ⟨h1, h2⟩ := cst_in _ hc
  exact lv_ldcw C.1 C.2.1 C.2.2.2.2.1 (C.2.2.2.2.2.1 _ (wG_of h1 rfl)) hd (kk p e s m args below meth c H locs la C hS hP hO hl (okc (show R32 z from h2) hst))
theorem wp_ldc2 {x : Nat} {z : Int} (hd : decode (mrec i).2.2.1 pc = .ok (.ldc2_w x, 3)) (hc : ((mrec i).1, x, z) ∈ cslT) (kk : Wp G l i d (pc + 3) ls (vL z :: st) h Q) : Wp G l i d pc ls st h Q := by
  intro p e s m args below meth c H locs la C hS hP hO hl hst
  obtain ⟨h1, h2⟩ := csl_in _ hc
  exact lv_ldc2 C.1 C.2.1 C.2.2.2.2.1 (C.2.2.2.2.2.1 _ (wG_of h1 rfl)) hd (kk p e s m args below meth c H locs la C hS hP hO hl (okc (show R64 z from h2) hst))
theorem wp_ldcS {x j : Nat} (hd : decode (mrec i).2.2.1 pc = .ok (.ldc x, 2)) (ho : (mrec i).1 = 5) (hj : j < 12) (hx : strI.getD j 0 = x) (kk : Wp G l i d (pc + 2) ls (vR (1000 + j) :: st) h Q) : Wp G l i d pc ls st h Q := by
  intro p e s m args below meth c H locs la C hS hP hO hl hst
  have hz := C.2.2.2.2.2.2.2.1.2.2.2.2 j hj
  rw [hx] at hz
  have hown := C.2.2.2.2.1
  rw [ho] at hown
  exact va_ldcS C.1 C.2.1 hown hz hd (kk p e s m args below meth c H locs la C hS hP hO hl (okc trivial hst))
end HEAP
end
section
section CALL
variable {G : GD} {l : Launch} {i d pc : Nat} {ls : LcT} {st : List AV} {h : AH} {Q : Option AV → AH → Prop}
theorem cat_le (G : GD) : ∀ st : List AV, ((st.map (rv G)).map fun v => v.category).sum ≤ 2 * st.length
  | [] => by simp
  | v :: r => by
    have h1 := cat_le G r
    have h2 : (rv G v).category ≤ 2 := by rcases lv_cat (rv G v) with h | h <;> omega
    simp only [List.map_cons, List.sum_cons, List.length_cons]
    omega
theorem wp_acpy {k0 k1 : Nat} {sp dp n : Int} (hd : decode (mrec i).2.2.1 pc = .ok (.invokestatic acpyI, 3)) (ho : (mrec i).1 = 6) (hk : (sh k0).1 = 1 ∧ (sh k1).1 = 1 ∧ st.length ≤ 4) (hb : 0 ≤ sp ∧ 0 ≤ dp ∧ 0 ≤ n ∧ sp + n ≤ (sh k0).2.1 ∧ dp + n ≤ (sh k1).2.1)
    (kk : Wp G l i d (pc + 3) ls st (hcpy h k0 k1 sp.toNat dp.toNat n.toNat) Q) : Wp G l i d pc ls (vI n :: vI dp :: vR k1 :: vI sp :: vR k0 :: st) h Q := by
  intro p e s m args below meth c H locs la C hS hP hO hl hst
  obtain ⟨hx, hbb, -, hml, hown, hts, -, ⟨hin, hK, -, -, -⟩, -⟩ := id C
  have hn : R32 n := okh hst
  have hdp : R32 dp := okh (okt hst)
  have hsp : R32 sp := okh (okt (okt (okt hst)))
  rw [ho] at hown
  have a0 : (wsG G h)[k0]? = some (G.2.1 k0, .inl (G.2.2 1, (sh k0).2.1, .inl (fun i => Int32.ofInt (h k0 i)))) := by rw [wsG_at G h (sh_lt (by omega)), cellG_1 hk.1]
  have a1 : (wsG G h)[k1]? = some (G.2.1 k1, .inl (G.2.2 1, (sh k1).2.1, .inl (fun i => Int32.ofInt (h k1 i)))) := by rw [wsG_at G h (sh_lt (by omega)), cellG_1 hk.2.1]
  have nn : ∀ {z : Int}, R32 z → 0 ≤ z → ¬ Int32.ofInt z < 0 := fun hz h0 => by rw [zero32, lt32 hz r32_0]; omega
  have hc := cat_le G st
  refine va_copyi (ws := wsG G h) hx hbb (hml.trans hl.1.1.symm) hown (hts _ (wG_of acp_in.1 rfl)) (hts _ (wG_of acp_in.2.1 rfl)) (hts _ (wG_of acp_in.2.2.1 rfl)) (hts _ (wG_of acp_in.2.2.2 rfl)) hK hP (wsG_D h hin) hS k0 k1 0 0 a0 a1 rfl rfl rfl (nn hsp hb.1) (nn hdp hb.2.1) (nn hn hb.2.2.1) (by rw [clamp hsp, clamp hn]; omega) (by rw [clamp hdp, clamp hn]; omega) (fun _ _ => rfl) (show 1 ≤ d + 1 by omega) (by
    show _ ≤ 40 * (d + 1)
    have hf : nativeFrameWords "java/lang/System" "arraycopy" 5 + 11 ≤ 32 := by decide
    omega) hd fun H1 locs1 hP1 _ hS1 => ?_
  refine kk p e s m args below meth c H1 locs1 la C hS1 ?_ ?_ hl (okt (okt (okt (okt (okt hst)))))
  · rw [wsG_set G (h := h) (k := k1) (fun a ha => by funext b; simp [hcpy, ha]), cellG_1 hk.2.1]
    have e9 : (fun a => Int32.ofInt (hcpy h k0 k1 sp.toNat dp.toNat n.toNat k1 a)) = va_cpy (fun a => Int32.ofInt (h k0 a)) (fun a => Int32.ofInt (h k1 a)) (Int32.ofInt sp).toNatClampNeg (Int32.ofInt dp).toNatClampNeg (Int32.ofInt n).toNatClampNeg := by
      funext a
      rw [clamp hsp, clamp hdp, clamp hn]
      unfold va_cpy hcpy
      by_cases q : dp.toNat ≤ a ∧ a < dp.toNat + n.toNat
      · rw [if_pos ⟨rfl, q⟩, if_pos q]
      · rw [if_neg (fun z => q z.2), if_neg q]
    rw [e9]
    exact hP1
  · intro a b
    unfold hcpy
    split
    · next q =>
      obtain ⟨rfl, -⟩ := q
      have := slOk_1 hO (j := sp.toNat + (b - dp.toNat)) hk.1
      unfold slOk
      rw [hk.2.1]
      simp
      exact this
    · exact hO a b
theorem max32 {a b : Int} (ha : R32 a) (hb : R32 b) : (if Int32.ofInt a < Int32.ofInt b then Int32.ofInt b else Int32.ofInt a) = Int32.ofInt (max a b) := by
  by_cases q : a < b
  · rw [if_pos ((lt32 ha hb).mpr q), show max a b = b by omega]
  · rw [if_neg (fun z => q ((lt32 ha hb).mp z)), show max a b = a by omega]
theorem min32 {a b : Int} (ha : R32 a) (hb : R32 b) : (if Int32.ofInt b < Int32.ofInt a then Int32.ofInt b else Int32.ofInt a) = Int32.ofInt (min a b) := by
  by_cases q : b < a
  · rw [if_pos ((lt32 hb ha).mpr q), show min a b = b by omega]
  · rw [if_neg (fun z => q ((lt32 hb ha).mp z)), show min a b = a by omega]
theorem wp_max {x : Nat} {a b : Int} (hd : decode (mrec i).2.2.1 pc = .ok (.invokestatic x, 3)) (hx : ((mrec i).1, x, true) ∈ mmxT) (hr : st.length ≤ 4) (kk : Wp G l i d (pc + 3) ls (vI (max a b) :: st) h Q) : Wp G l i d pc ls (vI b :: vI a :: st) h Q := by
  intro p e s m args below meth c H locs la C hS hP hO hl hst
  obtain ⟨hx0, hbb, -, hml, hown, hts, -⟩ := id C
  have hb : R32 b := okh hst
  have ha : R32 a := okh (okt hst)
  have hc := cat_le G st
  have hm : R32 (max a b) := by unfold R32 at *; omega
  refine va_mmax hx0 hbb (hml.trans hl.1.1.symm) hown (hts _ (wG_of (mmx_in _ hx) rfl)) (hts _ (wG_of (mmx_st true) rfl)) (hts _ (wG_of mmx_cd.2.2 rfl)) (hts _ (wG_of mmx_cd.1 rfl)) (show 1 ≤ d + 1 by omega) (by show _ ≤ 40 * (d + 1); omega) (Nat.le_refl 0) (Nat.le_refl 0) hd ?_
  rw [max32 ha hb]
  exact kk p e s m args below meth c H locs la C hS hP hO hl (okc (show avOk (vI (max a b)) from hm) (okt (okt hst)))
theorem wp_min {x : Nat} {a b : Int} (hd : decode (mrec i).2.2.1 pc = .ok (.invokestatic x, 3)) (hx : ((mrec i).1, x, false) ∈ mmxT) (hr : st.length ≤ 4) (kk : Wp G l i d (pc + 3) ls (vI (min a b) :: st) h Q) : Wp G l i d pc ls (vI b :: vI a :: st) h Q := by
  intro p e s m args below meth c H locs la C hS hP hO hl hst
  obtain ⟨hx0, hbb, -, hml, hown, hts, -⟩ := id C
  have hb : R32 b := okh hst
  have ha : R32 a := okh (okt hst)
  have hc := cat_le G st
  have hm : R32 (min a b) := by unfold R32 at *; omega
  refine va_mmin hx0 hbb (hml.trans hl.1.1.symm) hown (hts _ (wG_of (mmx_in _ hx) rfl)) (hts _ (wG_of (mmx_st false) rfl)) (hts _ (wG_of mmx_cd.2.2 rfl)) (hts _ (wG_of mmx_cd.2.1 rfl)) (show 1 ≤ d + 1 by omega) (by show _ ≤ 40 * (d + 1); omega) (Nat.le_refl 0) (Nat.le_refl 0) hd ?_
  rw [min32 ha hb]
  exact kk p e s m args below meth c H locs la C hS hP hO hl (okc (show avOk (vI (min a b)) from hm) (okt (okt hst)))
-- switches
theorem swT_get {K : Int → Prop} {a : Int} : ∀ (ts : List Int) (lo : Int), swT K a lo ts → ∀ (j : Nat) (t : Int), ts[j]? = some t → a = lo + j → K t
  | [], _, _, j, t, ht, _ => by simp at ht
  | u :: ts, lo, hs, 0, t, ht, ha => by
    simp at ht
    subst ht
    exact hs.1 (by omega)
  | u :: ts, lo, hs, j + 1, t, ht, ha => swT_get ts (lo + 1) hs.2 j t (by simpa using ht) (by omega)
theorem wp_tsw {dflt lo hi : Int} {os : Array Int} {n : Nat} {a : Int} (hd : decode (mrec i).2.2.1 pc = .ok (.tableswitch dflt lo hi os, n)) (h0 : 0 ≤ (pc : Int) + dflt) (h1 : os.toList.all (fun o => decide (0 ≤ (pc : Int) + o)) = true) (h2 : hi = lo + os.size - 1)
    (kd : (a < lo ∨ lo + os.size ≤ a) → Wp G l i d ((pc : Int) + dflt).toNat ls st h Q) (ks : swT (fun t => Wp G l i d t.toNat ls st h Q) a lo (os.toList.map (fun o => (pc : Int) + o))) : Wp G l i d pc ls (vI a :: st) h Q := by
  intro p e s m args below meth c H locs la C hS hP hO hl hst
  have ha : R32 a := okh hst
  by_cases hc : a < lo ∨ lo + os.size ≤ a
  · exact lv_tableOut C.1 C.2.1 hd (by rw [of32 ha]; omega) (show (pc : Int) + dflt = ((((pc : Int) + dflt).toNat : Nat) : Int) by omega) (kd hc p e s m args below meth c H locs la C hS hP hO hl (okt hst))
  · have hlt : (a - lo).toNat < os.size := by omega
    have hj : os[(a - lo).toNat]? = some (os[(a - lo).toNat]) := Array.getElem?_eq_getElem hlt
    have hp : 0 ≤ (pc : Int) + os[(a - lo).toNat] := of_decide_eq_true (List.all_eq_true.mp h1 _ (by simp))
    have hk := swT_get _ _ ks (a - lo).toNat ((pc : Int) + os[(a - lo).toNat]) (by rw [List.getElem?_map, Array.getElem?_toList, hj]; rfl) (by omega)
    exact lv_tableIn C.1 C.2.1 hd (by rw [of32 ha]; omega) (by rw [of32 ha]; omega) (by rw [of32 ha]; exact hj) (show (pc : Int) + os[(a - lo).toNat] = ((((pc : Int) + os[(a - lo).toNat]).toNat : Nat) : Int) by omega) (hk p e s m args below meth c H locs la C hS hP hO hl (okt hst))
theorem lkT_get {K : Int → Prop} {a dflt : Int} {pc : Nat} : ∀ (ps : List (Int × Int)), lkT K a ((pc : Int) + dflt) (ps.flatMap (fun o => [o.1, (pc : Int) + o.2])) → K ((pc : Int) + Op.lookupswitch.offset ps dflt a)
  | [], hs => hs
  | q :: ps, hs => by
    have hs' : (a = q.1 → K ((pc : Int) + q.2)) ∧ (¬ a = q.1 → lkT K a ((pc : Int) + dflt) (ps.flatMap (fun o => [o.1, (pc : Int) + o.2]))) := hs
    obtain ⟨q1, q2⟩ := q
    by_cases e : a = q1
    · have h1 := hs'.1 e
      rw [Op.lookupswitch.offset_cons, if_pos e.symm]
      exact h1
    · rw [Op.lookupswitch.offset_cons, if_neg (fun z => e z.symm)]
      exact lkT_get ps (hs'.2 e)
theorem lkT_pos {pc : Nat} {dflt a : Int} (h0 : 0 ≤ (pc : Int) + dflt) : ∀ (ps : List (Int × Int)), (ps.all (fun o => decide (0 ≤ (pc : Int) + o.2)) = true) → 0 ≤ (pc : Int) + Op.lookupswitch.offset ps dflt a
  | [], _ => h0
  | (q1, q2) :: ps, h => by
    rw [List.all_cons, Bool.and_eq_true] at h
    rw [Op.lookupswitch.offset_cons]
    split
    · exact of_decide_eq_true h.1
    · exact lkT_pos h0 ps h.2
theorem wp_lsw {dflt : Int} {ps : Array (Int × Int)} {n : Nat} {a : Int} (hd : decode (mrec i).2.2.1 pc = .ok (.lookupswitch dflt ps, n)) (h0 : 0 ≤ (pc : Int) + dflt) (h1 : ps.toList.all (fun o => decide (0 ≤ (pc : Int) + o.2)) = true) (h2 : (ps.toList.zip (ps.toList.drop 1)).all (fun (a, next) => a.1 < next.1) = true)
    (ks : lkT (fun t => Wp G l i d t.toNat ls st h Q) a ((pc : Int) + dflt) (ps.toList.flatMap (fun o => [o.1, (pc : Int) + o.2]))) : Wp G l i d pc ls (vI a :: st) h Q := by
  intro p e s m args below meth c H locs la C hS hP hO hl hst
  have ha : R32 a := okh hst
  have hk := lkT_get _ ks
  have hp := lkT_pos (a := a) h0 _ h1
  exact lv_lookup C.1 C.2.1 hd h2 (by rw [of32 ha]) (show (pc : Int) + Op.lookupswitch.offset ps.toList dflt a = ((((pc : Int) + Op.lookupswitch.offset ps.toList dflt a).toNat : Nat) : Int) by omega) (hk p e s m args below meth c H locs la C hS hP hO hl (okt hst))
-- returns
theorem wp_iret {z : Int} (hd : decode (mrec i).2.2.1 pc = .ok (.ireturn, 1)) (hr : (mrec i).2.2.2.2.1 = some .int) (hq : Q (some (vI z)) h) : Wp G l i d pc ls [vI z] h Q := by
  intro p e s m args below meth c H locs la C hS hP hO hl hst
  exact W.iret (v := Int32.ofInt z) C.1 C.2.1 (C.2.2.1.trans hr) (fun t ht hW => ⟨⟨some (vI z), h, rfl, hq, fun v hv => by cases hv; exact okh hst, by rw [ht]; exact hP, hO⟩, hS.F ht⟩) hS.2.2 hd C.2.2.2.2.2.2.1
theorem wp_zret {z : Int} (hd : decode (mrec i).2.2.1 pc = .ok (.ireturn, 1)) (hr : (mrec i).2.2.2.2.1 = some .boolean) (hz : z = 0 ∨ z = 1) (hq : Q (some (vI z)) h) : Wp G l i d pc ls [vI z] h Q := by
  intro p e s m args below meth c H locs la C hS hP hO hl hst
  have hn : narrow .boolean (.int (Int32.ofInt z)) = .int (Int32.ofInt z) := by
    rcases hz with rfl | rfl
    · decide
    · decide
  exact W.zret (v := Int32.ofInt z) C.1 C.2.1 (C.2.2.1.trans hr) hn (fun t ht hW => ⟨⟨some (vI z), h, rfl, hq, fun v hv => by cases hv; exact okh hst, by rw [ht]; exact hP, hO⟩, hS.F ht⟩) hS.2.2 hd C.2.2.2.2.2.2.1
theorem wp_vret (hd : decode (mrec i).2.2.1 pc = .ok (.return_, 1)) (hr : (mrec i).2.2.2.2.1 = none) (hq : Q none h) : Wp G l i d pc ls [] h Q := by
  intro p e s m args below meth c H locs la C hS hP hO hl hst
  exact W.vret C.1 C.2.1 (C.2.2.1.trans hr) (fun t ht hW => ⟨⟨none, h, rfl, hq, fun v hv => (by cases hv), by rw [ht]; exact hP, hO⟩, hS.F ht⟩) hS.2.2 hd C.2.2.2.2.2.2.1
-- calls
theorem fldW_nest {e : Nat × Nat × Nat × Nat × Bool} (he : e.2.2.2.2 = true) : ∃ a n b c f, fldW e = .fieldLinkNest a n b c f "OneStair" := by
  unfold fldW; simp only [he]; exact ⟨_, _, _, _, _, rfl⟩
theorem mthW_nest {e : Nat × Nat × Nat × Bool} (he : e.2.2.2 = true) : mthW e = .methodLinkNest (clsN e.1) e.2.1 (mrec e.2.2.1).2.1 "OneStair" := by
  unfold mthW; simp only [he]; rfl
theorem EnvG.same {u U : State} (hv : u.vm = U.vm) (hE : EnvG G u) : EnvG G U := by
  obtain ⟨h1, h2, h3, h4, h5⟩ := hE
  refine ⟨h1, va_K.moved (by rw [hv]; exact Vm.Alike.refl _) h2, fun e he hn => ?_, fun e he hn => ?_, fun j hj => vk_R.same hv.symm (h5 j hj)⟩
  · have hw := h3 e he hn
    obtain ⟨a, n, b, c, f, e9⟩ := fldW_nest hn
    rw [e9] at hw ⊢
    exact va_Nw.same rfl hv hw
  · have hw := h4 e he hn
    rw [mthW_nest hn] at hw ⊢
    exact va_Nw.same rfl hv hw
theorem EnvG.warm {s U : State} (hW : s.WarmedH U.vm) (hE : EnvG G s) : EnvG G U := by
  obtain ⟨h1, h2, h3, h4, h5⟩ := hE
  refine ⟨h1, va_K.moved hW.alike h2, fun e he hn => ?_, fun e he hn => ?_, fun j hj => vk_R.warm hW (h5 j hj)⟩
  · have hw := h3 e he hn
    obtain ⟨a, n, b, c, f, e9⟩ := fldW_nest hn
    rw [e9] at hw ⊢
    exact va_Nw.warmF hW hw
  · have hw := h4 e he hn
    rw [mthW_nest hn] at hw ⊢
    exact va_Nw.warmM hW hw
theorem ExtG.moved {u U : State} {H : Heap} (hvm : u.vm.Alike U.vm) (hE : ExtG G u H) : ExtG G U H := ⟨vk_S.moved hvm hE.1, va_Z.moved hvm hE.2.1, va_T.moved hvm hE.2.2.1, va_Z.moved hvm hE.2.2.2⟩
theorem ExtG.kept {U : State} {H H1 : Heap} (hE : ExtG G U H) (hq : ∀ a : Nat, a < H.size → ¬ AG G a → H1[a]? = H[a]?) : ExtG G U H1 := ⟨vk_S.kept hE.1 hq, va_Z.kept hE.2.1 hq, va_T.kept hE.2.2.1 hq, va_Z.kept hE.2.2.2 hq⟩
theorem PcG.blind {as : List AV} : FrameBlind (PcG G as h) := by
  intro a U g mk q
  obtain ⟨q0, qP, qO, qE, qX⟩ := q
  exact ⟨q0, qP, qO, EnvG.same (u := U) (U := U.calling g mk a) rfl qE, ExtG.moved (u := U) (U := U.calling g mk a) (Vm.Alike.refl U.vm) qX⟩
theorem PcG.at {as : List AV} {s : State} {H : Heap} {locs : List Loc} (hP : va_P G.1 vwCl (wsG G h) H) (hO : Hok h) (hE : EnvG G s) (hX : ExtG G s s.heap) (hS : va_S (AG G) s.heap H locs) : ∀ U : State, U.heap = H → s.WarmedH U.vm → PcG G as h (as.map (rv G)).toArray U := by
  intro U hU hW
  refine ⟨rfl, by rw [hU]; exact hP, hO, hE.warm hW, ?_⟩
  rw [hU]
  exact (hX.kept hS.2.1).moved hW.alike
theorem goodG {m : Nat} (hm : m < nM) : GoodIn wG (codW m :: wG) := by
  intro w hw
  have h1 : w ∈ wG := by
    rcases List.mem_cons.mp hw with rfl | h
    · exact cod_in hm
    · exact h
  exact ⟨h1, good_of_word (List.mem_filter.mp h1).2⟩
theorem callG {p : Program} {e : Env} {R : Room} {s : State} {m : MethodId} {args : Array Value} {below : List Frame} {meth : Method} {c : Code} {H : Heap} {locs : List Loc} {la : Array Slot} {st0 rest : List Value} {a : Array Value} {QQ : State → Prop} {P : Option AV → AH → Prop}
    (hr : va_Run p l e R s m args below meth c H locs 0 0 0 0 (F0 m pc la st0) rest (QcG G P a) (AG G)) (hS : va_S (AG G) s.heap H locs)
    (kk : ∀ (r : Option AV) (h' : AH) (H1 : Heap) (locs1 : List Loc), P r h' → (∀ v, r = some v → avOk v) → va_P G.1 vwCl (wsG G h') H1 → Hok h' → va_S (AG G) s.heap H1 locs1 → W p l e R s m args below meth c H1 locs1 0 0 QQ (F0 m (pc + 3) la ((r.map (rv G)).toList ++ rest))) : W p l e R s m args below meth c H locs 0 0 QQ (F0 m pc la st0) := by
  intro T hT X
  obtain ⟨v, st₀, t, T', L, h0, X', hL, e1, e2, ⟨⟨r, h', hv, hp, hr', hP', hO'⟩, hz, hk⟩, stp9⟩ := hr T hT X
  cases hv
  rw [h0] at hz hk
  obtain ⟨t2, a1, b1⟩ := kk r h' T'.heap (locs ++ L) hp hr' (by rw [e1]; exact hP') hO'
    ⟨Nat.le_trans hS.1 (by rw [e1]; exact hz), fun q h1 h2 => by rw [e1, hk q (Nat.lt_of_lt_of_le h1 hS.1) h2]; exact hS.2.1 q h1 h2, fun q hq => by
      rcases List.mem_append.mp hq with h | h
      · exact hS.2.2 q h
      · exact hL q h⟩ T' rfl X'
  exact ⟨t2, stp9 t2 a1, b1⟩
theorem mthAt_spec {own j m : Nat} (h : mthAt own j = some m) : ∃ b : Bool, (own, j, m, b) ∈ mthT := by
  unfold mthAt at h
  cases e : mthT.find? (fun e => e.1 == own && e.2.1 == j) with
  | none => rw [e] at h; cases h
  | some x =>
    rw [e] at h
    have hm := List.mem_of_find?_eq_some e
    have hp := List.find?_some e
    obtain ⟨x1, x2, x3, x4⟩ := x
    simp only [Option.map_some, Option.some.injEq] at h
    simp only [Bool.and_eq_true, beq_iff_eq] at hp
    obtain ⟨h3, h4⟩ := hp
    exact ⟨x4, by rw [← h, ← h3, ← h4]; exact hm⟩
theorem mthT_lt : ∀ e ∈ mthT, e.2.2.1 < nM ∧ (e.2.2.2 = true → stF.getD e.2.2.1 false = true) := by decide +kernel
theorem rmD_fit {d d' n : Nat} (h : d' < d) (hn : n ≤ 20) : (rmD d').frames + 1 ≤ (rmD d).frames ∧ 8 + (n + 11) + (rmD d').locals ≤ (rmD d).locals := by
  show d' + 1 + 1 ≤ d + 1 ∧ 8 + (n + 11) + 40 * (d' + 1) ≤ 40 * (d + 1)
  omega
theorem mOk_spec {m : Nat} (h : m < nM) : ((mrec m).2.1.cls ≠ "java/lang/invoke/MethodHandle" ∧ (mrec m).2.1.cls ≠ "java/lang/invoke/VarHandle") ∧ clsN (mrec m).1 = (mrec m).2.1.cls ∧ (mrec m).2.2.2.1 ≤ 20 ∧ ((mrec m).1 = 11 ∨ stF.getD m false = true ∨ (vwOf (mrec m).1 < 8 ∧ (vwCl.getD (vwOf (mrec m).1) ("", TX1, 0)).1 = (mrec m).2.1.cls)) := by
  have h1 := mth_ok h
  simp only [mOk, Bool.and_eq_true, Bool.or_eq_true, decide_eq_true_eq] at h1
  obtain ⟨⟨⟨⟨a, b⟩, c⟩, d⟩, e⟩ := h1
  refine ⟨⟨a, b⟩, c, d, ?_⟩
  rcases e with (e | e) | e
  · exact Or.inl e
  · exact Or.inr (Or.inl e)
  · exact Or.inr (Or.inr e)
theorem wp_calls {x m n d' : Nat} {P : Option AV → AH → Prop} {as : List AV} (hd : decode (mrec i).2.2.1 pc = .ok (.invokestatic x, 3)) (hm : mthAt (mrec i).1 x = some m) (hn : npar (mrec m).2.1 = some n) (hs : stF.getD m false = true) (hl4 : st.length ≤ 4) (has : as.length = n) (hd' : d' < d) (hc : CallR G l d' m as h P)
    (kk : ∀ r h', P r h' → Wp G l i d (pc + 3) ls (r.toList ++ st) h' Q) : Wp G l i d pc ls (as.reverse ++ st) h Q := by
  intro p e s mm args below meth c H locs la C hS hP hO hl hst
  obtain ⟨b, hmt⟩ := mthAt_spec hm
  obtain ⟨hlt, -⟩ := mthT_lt _ hmt
  obtain ⟨hx, hbb, -, hml, hown, hts, -, hE, hX⟩ := id C
  obtain ⟨hy, hcl, hmx, -⟩ := mOk_spec hlt
  have hok : ∀ v ∈ as, avOk v := fun v hv => hst v (List.mem_append_left _ (List.mem_reverse.mpr hv))
  have hM := hc hok hO
  have hini : (Cond.initialized (mrec m).2.1.cls).before args s = true := hts _ (wG_of (ini_in0 m (List.mem_range.mpr hlt)) rfl)
  have hstat : (Cond.static (mrec m).2.1).before args s = true := by
    have := knd_in0 m (List.mem_range.mpr hlt)
    rw [if_pos hs] at this
    exact hts _ (wG_of this rfl)
  have hcat := cat_le G st
  have hstk : (F0 mm pc la ((as.reverse ++ st).map (rv G))).stack = (as.map (rv G)).reverse ++ st.map (rv G) := by
    show (as.reverse ++ st).map (rv G) = _
    rw [List.map_append, List.map_reverse]
  have cont : ∀ (r : Option AV) (h' : AH) (H1 : Heap) (locs1 : List Loc), P r h' → (∀ v, r = some v → avOk v) → va_P G.1 vwCl (wsG G h') H1 → Hok h' → va_S (AG G) s.heap H1 locs1 → W p l e (rmD d) s mm args below meth c H1 locs1 0 0 (MQ below (QcG G Q) args s 0 0 (AG G)) (F0 mm (pc + 3) la ((r.map (rv G)).toList ++ st.map (rv G))) := by
    intro r h' H1 locs1 hp hr hP1 hO1 hS1
    have K := kk r h' hp p e s mm args below meth c H1 locs1 la C hS1 hP1 hO1 hl (fun v hv => by
      rcases List.mem_append.mp hv with h9 | h9
      · exact hr v (by cases r <;> simp_all)
      · exact hst v (List.mem_append_right _ h9))
    have e9 : (r.toList ++ st).map (rv G) = (r.map (rv G)).toList ++ st.map (rv G) := by cases r <;> simp
    rw [e9] at K
    exact K
  cases b with
  | false =>
    have hlink : (Cond.methodLink (clsN (mrec i).1) x (mrec m).2.1).before args s = true := hts _ (wG_of (mth_in _ hmt) rfl)
    exact callG (va_runS (Ts := wG) (nL := (mrec i).2.2.2.1) ⟨hx, hbb, hml, hown, hts⟩ hM ⟨callB_of n hts (goodG hlt) rfl rfl rfl hini hlink ⟨hy.1, hy.2, hn⟩ (rmD_fit hd' hmx), hstat⟩ ⟨PcG.blind, PcG.at hP hO hE hX hS⟩ rfl (by simpa using has) hl.1.1 hstk (lv_room (by omega)) hd ⟨Nat.zero_le _, Nat.zero_le _⟩) hS cont
  | true =>
    have hnw := hE.2.2.2.1 _ hmt rfl
    rw [mthW_nest rfl] at hnw
    exact callG (va_runSN (Ts := wG) (nL := (mrec i).2.2.2.1) ⟨hx, hbb, hml, hown, hts⟩ hM ⟨va_cnB n hts (goodG hlt) rfl rfl rfl hnw hini ⟨hy.1, hy.2, hn⟩ (rmD_fit hd' hmx), hstat, trivial⟩ ⟨PcG.blind, PcG.at hP hO hE hX hS⟩ rfl (by simpa using has) hl.1.1 hstk (lv_room (by omega)) hd ⟨Nat.zero_le _, Nat.zero_le _⟩) hS cont
theorem wp_callv {x m n d' k : Nat} {P : Option AV → AH → Prop} {as : List AV} (hd : decode (mrec i).2.2.1 pc = .ok (.invokevirtual x, 3)) (hm : mthAt (mrec i).1 x = some m) (hn : npar (mrec m).2.1 = some n) (hs : stF.getD m false = false) (hl4 : st.length ≤ 4) (has : as.length = n) (hd' : d' < d)
    (hk : ((mrec m).1 = 11 ∧ 1000 ≤ k ∧ k < 1012) ∨ ((mrec m).1 ≠ 11 ∧ (sh k).1 = 0 ∧ (sh k).2.1 = vwOf (mrec m).1)) (hc : CallR G l d' m (vR k :: as) h P)
    (kk : ∀ r h', P r h' → Wp G l i d (pc + 3) ls (r.toList ++ st) h' Q) : Wp G l i d pc ls (as.reverse ++ vR k :: st) h Q := by
  intro p e s mm args below meth c H locs la C hS hP hO hl hst
  obtain ⟨b, hmt⟩ := mthAt_spec hm
  obtain ⟨hlt, hnest⟩ := mthT_lt _ hmt
  have hb : b = false := by
    cases b with
    | false => rfl
    | true => rw [hnest rfl] at hs; cases hs
  subst hb
  obtain ⟨hx, hbb, -, hml, hown, hts, -, hE, hX⟩ := id C
  obtain ⟨hy, hcl, hmx, hrest⟩ := mOk_spec hlt
  have hok : ∀ v ∈ vR k :: as, avOk v := okc trivial (fun v hv => hst v (List.mem_append_left _ (List.mem_reverse.mpr hv)))
  have hM := hc hok hO
  have hini : (Cond.initialized (mrec m).2.1.cls).before args s = true := hts _ (wG_of (ini_in0 m (List.mem_range.mpr hlt)) rfl)
  have hinst : (Cond.instanceMethod (mrec m).2.1).before args s = true := by
    have := knd_in0 m (List.mem_range.mpr hlt)
    rw [if_neg (by rw [hs]; decide)] at this
    exact hts _ (wG_of this rfl)
  have hsel : (Cond.selects (mrec m).2.1.cls (mrec m).2.1 (mrec m).2.1).before args s = true := by
    have := sel_in0 m (List.mem_range.mpr hlt)
    rw [if_neg (by rw [hs]; decide)] at this
    exact hts _ (wG_of this rfl)
  have hrecv : ∃ cellB : Cell, H[G.2.1 k]? = some cellB ∧ cellB.vm.isStatics = false ∧ s.vm.findClass (mrec m).2.1.cls = some cellB.cls := by
    rcases hk with ⟨h11, k1, k2⟩ | ⟨h11, k1, k2⟩
    · have := vk_recv (i := k - 1000) hX.1 (by omega) hS
      rw [show 1000 + (k - 1000) = k by omega] at this
      rw [← hcl, h11]
      exact this
    · rcases hrest with h | h | ⟨h8, hcls⟩
      · exact absurd h h11
      · rw [hs] at h; cases h
      · have hat : (wsG G h)[k]? = some (G.2.1 k, .inr ((sh k).2.1, (sh k).2.2.mapIdx (fun i c => rv G (fv h k i c)))) := by
          rw [wsG_at G h (sh_lt (by omega)), cellG_0 k1]
        rw [k2] at hat
        have := va_recv hE.2.1 hP (vwAt h8) hat
        rw [hcls] at this
        exact this
  have hcat := cat_le G st
  have hstk : (F0 mm pc la ((as.reverse ++ vR k :: st).map (rv G))).stack = (as.map (rv G)).reverse ++ Value.ref (G.2.1 k) :: st.map (rv G) := by
    show (as.reverse ++ vR k :: st).map (rv G) = _
    rw [List.map_append, List.map_reverse]
    rfl
  have hlink : (Cond.methodLink (clsN (mrec i).1) x (mrec m).2.1).before args s = true := hts _ (wG_of (mth_in _ hmt) rfl)
  refine callG (va_runV (Ts := wG) (nL := (mrec i).2.2.2.1) (C := (mrec m).2.1.cls) (b := G.2.1 k) (As := as.map (rv G)) ⟨hx, hbb, hml, hown, hts⟩ hM ⟨callB_of n hts (goodG hlt) rfl rfl rfl hini hlink ⟨hy.1, hy.2, hn⟩ (rmD_fit hd' hmx), hinst, hsel⟩ ⟨PcG.blind, hrecv, fun U hU hW => PcG.at (as := vR k :: as) hP hO hE hX hS U hU hW⟩ rfl (by simpa using has) hl.1.1 hstk (lv_room (by omega)) hd ⟨Nat.zero_le _, Nat.zero_le _⟩) hS ?_
  intro r h' H1 locs1 hp hr hP1 hO1 hS1
  have K := kk r h' hp p e s mm args below meth c H1 locs1 la C hS1 hP1 hO1 hl (fun v hv => by
    rcases List.mem_append.mp hv with h9 | h9
    · exact hr v (by cases r <;> simp_all)
    · exact hst v (List.mem_append_right _ (List.mem_cons_of_mem _ h9)))
  have e9 : (r.toList ++ st).map (rv G) = (r.map (rv G)).toList ++ st.map (rv G) := by cases r <;> simp
  rw [e9] at K
  exact K
end CALL
end
section
section SOUND
variable {G : GD} {l : Launch} {i d pc : Nat} {ls : LcT} {st : List AV} {h : AH} {Q : Option AV → AH → Prop}
def CRd (G : GD) (l : Launch) (d : Nat) : Nat → List AV → AH → (Option AV → AH → Prop) → Prop := fun m as h P => ∃ d', d' < d ∧ CallR G l d' m as h P
theorem onI_ex {st : List AV} {F : Int → List AV → Prop} (h : onI st F) : ∃ a r, st = vI a :: r ∧ F a r := by
  match st, h with
  | .inl a :: r, h => exact ⟨a, r, rfl, h⟩
theorem onL_ex {st : List AV} {F : Int → List AV → Prop} (h : onL st F) : ∃ a r, st = vL a :: r ∧ F a r := by
  match st, h with
  | .inr (.inl a) :: r, h => exact ⟨a, r, rfl, h⟩
theorem onR_ex {st : List AV} {F : Nat → List AV → Prop} (h : onR st F) : ∃ a r, st = vR a :: r ∧ F a r := by
  match st, h with
  | .inr (.inr a) :: r, h => exact ⟨a, r, rfl, h⟩
theorem cstAt_spec {own j : Nat} {v : Int} (h : cstAt own j = some v) : (own, j, v) ∈ cstT := by
  unfold cstAt at h
  cases e : cstT.find? (fun e => e.1 == own && e.2.1 == j) with
  | none => rw [e] at h; cases h
  | some x =>
    rw [e] at h
    have hm := List.mem_of_find?_eq_some e
    have hp := List.find?_some e
    obtain ⟨x1, x2, x3⟩ := x
    simp only [Option.map_some, Option.some.injEq] at h
    simp only [Bool.and_eq_true, beq_iff_eq] at hp
    obtain ⟨h3, h4⟩ := hp
    rw [← h, ← h3, ← h4]; exact hm
theorem cslAt_spec {own j : Nat} {v : Int} (h : cslAt own j = some v) : (own, j, v) ∈ cslT := by
  unfold cslAt at h
  cases e : cslT.find? (fun e => e.1 == own && e.2.1 == j) with
  | none => rw [e] at h; cases h
  | some x =>
    rw [e] at h
    have hm := List.mem_of_find?_eq_some e
    have hp := List.find?_some e
    obtain ⟨x1, x2, x3⟩ := x
    simp only [Option.map_some, Option.some.injEq] at h
    simp only [Bool.and_eq_true, beq_iff_eq] at hp
    obtain ⟨h3, h4⟩ := hp
    rw [← h, ← h3, ← h4]; exact hm
theorem str_at : ∀ x ∈ strI, strI.idxOf x < 12 ∧ strI.getD (strI.idxOf x) 0 = x := by decide +kernel
theorem lgi {o : Option AV} {F : Int → Prop} (h : match o with | some (.inl z) => F z | _ => False) : ∃ z, o = some (vI z) ∧ F z := by
  match o, h with
  | some (.inl z), h => exact ⟨z, rfl, h⟩
theorem lgl {o : Option AV} {F : Int → Prop} (h : match o with | some (.inr (.inl z)) => F z | _ => False) : ∃ z, o = some (vL z) ∧ F z := by
  match o, h with
  | some (.inr (.inl z)), h => exact ⟨z, rfl, h⟩
theorem lgr {o : Option AV} {F : Nat → Prop} (h : match o with | some (.inr (.inr z)) => F z | _ => False) : ∃ z, o = some (vR z) ∧ F z := by
  match o, h with
  | some (.inr (.inr z)), h => exact ⟨z, rfl, h⟩
/-- the table of kinds says of a method that is called on an object that it isn't static -/
theorem mthT_kind : ∀ e ∈ mthT, ((mrec e.2.2.1).1 = 11 → stF.getD e.2.2.1 false = false) := by decide +kernel
set_option maxHeartbeats 4000000 in
theorem stp_sound {K : Nat → LcT → List AV → AH → Prop} {N : LcT → List AV → AH → Prop} {raw : Instr} {n op : Nat} {x : Int} {ys : List Int} (hd : decode (mrec i).2.2.1 pc = .ok (raw, n)) (hn : lenOK raw n = true) (he : enc (mrec i).1 (mrec i).2.2.2.2.1 pc raw = some (op, x, ys))
    (hsv : ∀ m, (∃ x, raw = .invokestatic x ∧ mthAt (mrec i).1 x = some m) → stF.getD m false = true) (hvv : ∀ m, (∃ x, raw = .invokevirtual x ∧ mthAt (mrec i).1 x = some m) → stF.getD m false = false)
    (hK : ∀ t ls st h, K t ls st h → Wp G l i d t ls st h Q) (hN : ∀ ls st h, N ls st h → Wp G l i d (pc + n) ls st h Q) (hs : stp (CRd G l d) Q K op x ys ls st h N) : Wp G l i d pc ls st h Q := by
  cases raw with
  | iconst z =>
    cases beq_iff_eq.mp hn
    simp only [enc] at he
    split at he
    · next hz =>
      cases he
      exact wp_iconst hd (by unfold R32; omega) (hN _ _ _ hs)
    · cases he
  | bipush z =>
    cases beq_iff_eq.mp hn
    simp only [enc] at he
    split at he
    · next hz =>
      cases he
      exact wp_bipush hd hz (hN _ _ _ hs)
    · cases he
  | sipush z =>
    cases beq_iff_eq.mp hn
    simp only [enc] at he
    split at he
    · next hz =>
      cases he
      exact wp_sipush hd hz (hN _ _ _ hs)
    · cases he
  | ldc z =>
    cases beq_iff_eq.mp hn
    simp only [enc] at he
    split at he
    · next hz =>
      cases he
      obtain ⟨h1, h2⟩ := str_at z hz.2
      refine wp_ldcS hd hz.1 h1 h2 (hN _ _ _ ?_)
      have e9 : ((1000 : Int) + (strI.idxOf z : Int)).toNat = 1000 + strI.idxOf z := by omega
      have hs' : N ls (vR ((1000 : Int) + (strI.idxOf z : Int)).toNat :: st) h := hs
      rw [e9] at hs'
      exact hs'
    · cases hc : cstAt (mrec i).1 z with
      | none => rw [hc] at he; cases he
      | some v =>
        rw [hc] at he
        cases he
        exact wp_ldc hd (cstAt_spec hc) (hN _ _ _ hs)
  | ldc_w z =>
    cases beq_iff_eq.mp hn
    simp only [enc] at he
    cases hc : cstAt (mrec i).1 z with
    | none => rw [hc] at he; cases he
    | some v =>
      rw [hc] at he
      cases he
      exact wp_ldcw hd (cstAt_spec hc) (hN _ _ _ hs)
  | ldc2_w z =>
    cases beq_iff_eq.mp hn
    simp only [enc] at he
    cases hc : cslAt (mrec i).1 z with
    | none => rw [hc] at he; cases he
    | some v =>
      rw [hc] at he
      cases he
      exact wp_ldc2 hd (cslAt_spec hc) (hN _ _ _ hs)
  | lconst z => cases beq_iff_eq.mp hn; cases he; exact wp_lconst hd (hN _ _ _ hs)
  | iload j => cases beq_iff_eq.mp hn; cases he; obtain ⟨z, hz, hs⟩ := lgi hs; exact wp_iload hd hz (hN _ _ _ hs)
  | iload_n j => cases beq_iff_eq.mp hn; cases he; obtain ⟨z, hz, hs⟩ := lgi hs; exact wp_iload_n hd hz (hN _ _ _ hs)
  | lload j => cases beq_iff_eq.mp hn; cases he; obtain ⟨z, hz, hs⟩ := lgl hs; exact wp_lload hd hz (hN _ _ _ hs)
  | lload_n j => cases beq_iff_eq.mp hn; cases he; obtain ⟨z, hz, hs⟩ := lgl hs; exact wp_lload_n hd hz (hN _ _ _ hs)
  | aload j => cases beq_iff_eq.mp hn; cases he; obtain ⟨z, hz, hs⟩ := lgr hs; exact wp_aload hd hz (hN _ _ _ hs)
  | aload_n j => cases beq_iff_eq.mp hn; cases he; obtain ⟨z, hz, hs⟩ := lgr hs; exact wp_aload_n hd hz (hN _ _ _ hs)
  | istore j => cases beq_iff_eq.mp hn; cases he; obtain ⟨z, r, rfl, ho, hs⟩ := onI_ex hs; exact wp_istore hd ho (hN _ _ _ hs)
  | istore_n j => cases beq_iff_eq.mp hn; cases he; obtain ⟨z, r, rfl, ho, hs⟩ := onI_ex hs; exact wp_istore_n hd ho (hN _ _ _ hs)
  | lstore j => cases beq_iff_eq.mp hn; cases he; obtain ⟨z, r, rfl, ho, hs⟩ := onL_ex hs; exact wp_lstore hd ho (hN _ _ _ hs)
  | lstore_n j => cases beq_iff_eq.mp hn; cases he; obtain ⟨z, r, rfl, ho, hs⟩ := onL_ex hs; exact wp_lstore_n hd ho (hN _ _ _ hs)
  | astore j => cases beq_iff_eq.mp hn; cases he; obtain ⟨z, r, rfl, ho, hs⟩ := onR_ex hs; exact wp_astore hd ho (hN _ _ _ hs)
  | astore_n j => cases beq_iff_eq.mp hn; cases he; obtain ⟨z, r, rfl, ho, hs⟩ := onR_ex hs; exact wp_astore_n hd ho (hN _ _ _ hs)
  | iinc j z => cases beq_iff_eq.mp hn; cases he; obtain ⟨z, hz, hs⟩ := lgi hs; exact wp_iinc hd hz (hN _ _ _ hs)
  | iadd => cases beq_iff_eq.mp hn; cases he; obtain ⟨b, r, rfl, hs⟩ := onI_ex hs; obtain ⟨a, r, rfl, hs⟩ := onI_ex hs; exact wp_iadd hd (hN _ _ _ hs)
  | isub => cases beq_iff_eq.mp hn; cases he; obtain ⟨b, r, rfl, hs⟩ := onI_ex hs; obtain ⟨a, r, rfl, hs⟩ := onI_ex hs; exact wp_isub hd (hN _ _ _ hs)
  | imul => cases beq_iff_eq.mp hn; cases he; obtain ⟨b, r, rfl, hs⟩ := onI_ex hs; obtain ⟨a, r, rfl, hs⟩ := onI_ex hs; exact wp_imul hd (hN _ _ _ hs)
  | idiv => cases beq_iff_eq.mp hn; cases he; obtain ⟨b, r, rfl, hs⟩ := onI_ex hs; obtain ⟨a, r, rfl, hz, hs⟩ := onI_ex hs; exact wp_idiv hd hz (hN _ _ _ hs)
  | irem => cases beq_iff_eq.mp hn; cases he; obtain ⟨b, r, rfl, hs⟩ := onI_ex hs; obtain ⟨a, r, rfl, hz, hs⟩ := onI_ex hs; exact wp_irem hd hz (hN _ _ _ hs)
  | iand => cases beq_iff_eq.mp hn; cases he; obtain ⟨b, r, rfl, hs⟩ := onI_ex hs; obtain ⟨a, r, rfl, hs⟩ := onI_ex hs; exact wp_iand hd (hN _ _ _ hs)
  | ior => cases beq_iff_eq.mp hn; cases he; obtain ⟨b, r, rfl, hs⟩ := onI_ex hs; obtain ⟨a, r, rfl, hs⟩ := onI_ex hs; exact wp_ior hd (hN _ _ _ hs)
  | ixor => cases beq_iff_eq.mp hn; cases he; obtain ⟨b, r, rfl, hs⟩ := onI_ex hs; obtain ⟨a, r, rfl, hs⟩ := onI_ex hs; exact wp_ixor hd (hN _ _ _ hs)
  | ishl => cases beq_iff_eq.mp hn; cases he; obtain ⟨b, r, rfl, hs⟩ := onI_ex hs; obtain ⟨a, r, rfl, hs⟩ := onI_ex hs; exact wp_ishl hd (hN _ _ _ hs)
  | ishr => cases beq_iff_eq.mp hn; cases he; obtain ⟨b, r, rfl, hs⟩ := onI_ex hs; obtain ⟨a, r, rfl, hs⟩ := onI_ex hs; exact wp_ishr hd (hN _ _ _ hs)
  | iushr => cases beq_iff_eq.mp hn; cases he; obtain ⟨b, r, rfl, hs⟩ := onI_ex hs; obtain ⟨a, r, rfl, hs⟩ := onI_ex hs; exact wp_iushr hd (hN _ _ _ hs)
  | ladd => cases beq_iff_eq.mp hn; cases he; obtain ⟨b, r, rfl, hs⟩ := onL_ex hs; obtain ⟨a, r, rfl, hs⟩ := onL_ex hs; exact wp_ladd hd (hN _ _ _ hs)
  | lsub => cases beq_iff_eq.mp hn; cases he; obtain ⟨b, r, rfl, hs⟩ := onL_ex hs; obtain ⟨a, r, rfl, hs⟩ := onL_ex hs; exact wp_lsub hd (hN _ _ _ hs)
  | lmul => cases beq_iff_eq.mp hn; cases he; obtain ⟨b, r, rfl, hs⟩ := onL_ex hs; obtain ⟨a, r, rfl, hs⟩ := onL_ex hs; exact wp_lmul hd (hN _ _ _ hs)
  | land => cases beq_iff_eq.mp hn; cases he; obtain ⟨b, r, rfl, hs⟩ := onL_ex hs; obtain ⟨a, r, rfl, hs⟩ := onL_ex hs; exact wp_land hd (hN _ _ _ hs)
  | lshr => cases beq_iff_eq.mp hn; cases he; obtain ⟨b, r, rfl, hs⟩ := onI_ex hs; obtain ⟨a, r, rfl, hs⟩ := onL_ex hs; exact wp_lshr hd (hN _ _ _ hs)
  | lushr => cases beq_iff_eq.mp hn; cases he; obtain ⟨b, r, rfl, hs⟩ := onI_ex hs; obtain ⟨a, r, rfl, hs⟩ := onL_ex hs; exact wp_lushr hd (hN _ _ _ hs)
  | lcmp => cases beq_iff_eq.mp hn; cases he; obtain ⟨b, r, rfl, hs⟩ := onL_ex hs; obtain ⟨a, r, rfl, hs⟩ := onL_ex hs; exact wp_lcmp hd (hN _ _ _ hs)
  | i2l => cases beq_iff_eq.mp hn; cases he; obtain ⟨a, r, rfl, hs⟩ := onI_ex hs; exact wp_i2l hd (hN _ _ _ hs)
  | l2i => cases beq_iff_eq.mp hn; cases he; obtain ⟨a, r, rfl, hs⟩ := onL_ex hs; exact wp_l2i hd (hN _ _ _ hs)
  | i2b => cases beq_iff_eq.mp hn; cases he; obtain ⟨a, r, rfl, hs⟩ := onI_ex hs; exact wp_i2b hd (hN _ _ _ hs)
  | i2s => cases beq_iff_eq.mp hn; cases he; obtain ⟨a, r, rfl, hs⟩ := onI_ex hs; exact wp_i2s hd (hN _ _ _ hs)
  | dup =>
    cases beq_iff_eq.mp hn
    cases he
    match st, hs with
    | .inl a :: r, hs => exact wp_dup_I hd (hN _ _ _ hs)
    | .inr (.inr a) :: r, hs => exact wp_dup_R hd (hN _ _ _ hs)
  | dup2 =>
    cases beq_iff_eq.mp hn
    cases he
    match st, hs with
    | .inl a :: .inr (.inr b) :: r, hs => exact wp_dup2 hd (hN _ _ _ hs)
  | goto o =>
    cases beq_iff_eq.mp hn
    simp only [enc] at he
    split at he
    · next hz => cases he; exact wp_goto hd (show (pc : Int) + o = ((((pc : Int) + o).toNat : Nat) : Int) by omega) (hK _ _ _ _ hs)
    · cases he
  | tableswitch dd lo hi os =>
    simp only [enc] at he
    split at he
    · next hz =>
      cases he
      obtain ⟨a, r, rfl, h1, h2⟩ := onI_ex hs
      refine wp_tsw hd hz.1 hz.2.1 hz.2.2 (fun hc => hK _ _ _ _ (h1 ?_)) ?_
      · simpa using hc
      · have mono : ∀ (ts : List Int) (lo : Int), swT (fun t => K t.toNat ls r h) a lo ts → swT (fun t => Wp G l i d t.toNat ls r h Q) a lo ts := by
          intro ts
          induction ts with
          | nil => intro lo _; trivial
          | cons t ts ih => intro lo hh; exact ⟨fun q => hK _ _ _ _ (hh.1 q), ih _ hh.2⟩
        exact mono _ _ h2
    · cases he
  | lookupswitch dd ps =>
    simp only [enc] at he
    split at he
    · next hz =>
      cases he
      obtain ⟨a, r, rfl, h2⟩ := onI_ex hs
      refine wp_lsw hd hz.1 hz.2.1 hz.2.2 ?_
      have mono : ∀ (ts : List (Int × Int)) , lkT (fun t => K t.toNat ls r h) a ((pc : Int) + dd) (ts.flatMap (fun o => [o.1, (pc : Int) + o.2])) → lkT (fun t => Wp G l i d t.toNat ls r h Q) a ((pc : Int) + dd) (ts.flatMap (fun o => [o.1, (pc : Int) + o.2])) := by
        intro ts
        induction ts with
        | nil => intro hh; exact hK _ _ _ _ hh
        | cons t ts ih =>
          intro hh
          have hh' : (a = t.1 → K ((pc : Int) + t.2).toNat ls r h) ∧ (¬ a = t.1 → lkT (fun t => K t.toNat ls r h) a ((pc : Int) + dd) (ts.flatMap (fun o => [o.1, (pc : Int) + o.2]))) := hh
          exact ⟨fun q => hK _ _ _ _ (hh'.1 q), fun q => ih (hh'.2 q)⟩
      exact mono _ h2
    · cases he
  | getfield z =>
    cases beq_iff_eq.mp hn
    simp only [enc] at he
    cases hf : fldAt (mrec i).1 z with
    | none => rw [hf] at he; cases he
    | some f =>
      rw [hf] at he
      cases he
      obtain ⟨k, r, rfl, hk, hs⟩ := onR_ex hs
      exact wp_getf hd hf hk (hN _ _ _ hs)
  | putfield z =>
    cases beq_iff_eq.mp hn
    simp only [enc] at he
    cases hf : fldAt (mrec i).1 z with
    | none => rw [hf] at he; cases he
    | some f =>
      rw [hf] at he
      cases he
      match st, hs with
      | v :: .inr (.inr k) :: r, hs =>
        obtain ⟨hk, hs⟩ := hs
        have e1 : ((([(f.2 : Int)] : List Int).headD 0).toNat) = f.2 := rfl
        rw [e1] at hs
        split at hs
        · next e9 => exact wp_putf hd hf hk (Or.inl ⟨e9, rfl⟩) (hN _ _ _ hs)
        · next e9 => exact wp_putf hd hf hk (Or.inr (Or.inl ⟨e9, rfl⟩)) (hN _ _ _ hs)
        · next e9 => exact wp_putf hd hf hk (Or.inr (Or.inr ⟨e9, rfl, hs.1⟩)) (hN _ _ _ hs.2)
        · exact hs.elim
  | getstatic z =>
    cases beq_iff_eq.mp hn
    simp only [enc] at he
    split at he
    · next hz =>
      cases he
      obtain ⟨h1, rfl⟩ := hz
      exact wp_gets hd h1 (hN _ _ _ hs)
    · cases he
  | iaload =>
    cases beq_iff_eq.mp hn
    cases he
    obtain ⟨j, r, rfl, hs⟩ := onI_ex hs
    obtain ⟨k, r, rfl, hs⟩ := onR_ex hs
    rcases hs with ⟨h1, h2, h3⟩ | ⟨h1, h2, h4, h3⟩
    · exact wp_iald hd h1 h2 (hN _ _ _ h3)
    · subst h4
      exact wp_abv hd h2 (hN _ _ _ h3)
  | iastore =>
    cases beq_iff_eq.mp hn
    cases he
    obtain ⟨z, r, rfl, hs⟩ := onI_ex hs
    obtain ⟨j, r, rfl, hs⟩ := onI_ex hs
    obtain ⟨k, r, rfl, h1, h2, hs⟩ := onR_ex hs
    exact wp_iast hd h1 h2 (hN _ _ _ hs)
  | baload =>
    cases beq_iff_eq.mp hn
    cases he
    obtain ⟨j, r, rfl, hs⟩ := onI_ex hs
    obtain ⟨k, r, rfl, h1, h2, hs⟩ := onR_ex hs
    exact wp_bald hd h1 h2 (hN _ _ _ hs)
  | bastore =>
    cases beq_iff_eq.mp hn
    cases he
    obtain ⟨z, r, rfl, hs⟩ := onI_ex hs
    obtain ⟨j, r, rfl, hs⟩ := onI_ex hs
    obtain ⟨k, r, rfl, h1, h2, hs⟩ := onR_ex hs
    exact wp_bast hd h1 h2 (hN _ _ _ hs)
  | laload =>
    cases beq_iff_eq.mp hn
    cases he
    obtain ⟨j, r, rfl, hs⟩ := onI_ex hs
    obtain ⟨k, r, rfl, h1, h2, hs⟩ := onR_ex hs
    exact wp_lald hd h1 h2 (hN _ _ _ hs)
  | lastore =>
    cases beq_iff_eq.mp hn
    cases he
    obtain ⟨z, r, rfl, hs⟩ := onL_ex hs
    obtain ⟨j, r, rfl, hs⟩ := onI_ex hs
    obtain ⟨k, r, rfl, h1, h2, hs⟩ := onR_ex hs
    exact wp_last hd h1 h2 (hN _ _ _ hs)
  | aaload =>
    cases beq_iff_eq.mp hn
    cases he
    obtain ⟨j, r, rfl, hs⟩ := onI_ex hs
    obtain ⟨k, r, rfl, h1, h2, hs⟩ := onR_ex hs
    exact wp_aald hd h1 h2 (hN _ _ _ hs)
  | ireturn =>
    cases beq_iff_eq.mp hn
    simp only [enc] at he
    split at he
    · next hr =>
      cases he
      match st, hs with
      | [.inl z], hs => exact wp_iret hd hr hs
    · split at he
      · next hr =>
        cases he
        match st, hs with
        | [.inl z], hs => exact wp_zret hd hr hs.1 hs.2
      · cases he
  | return_ =>
    cases beq_iff_eq.mp hn
    simp only [enc] at he
    split at he
    · next hr =>
      cases he
      match st, hs with
      | [], hs => exact wp_vret hd hr hs
    · cases he
  | ifCond c o =>
    cases beq_iff_eq.mp hn
    simp only [enc] at he
    split at he
    · next hz =>
      cases he
      have ht : (pc : Int) + o = ((((pc : Int) + o).toNat : Nat) : Int) := by omega
      cases c
      · obtain ⟨a, r, rfl, h1, h2⟩ := onI_ex (show onI st _ from hs); exact wp_if_eq hd ht (fun q => hK _ _ _ _ (h1 q)) (fun q => hN _ _ _ (h2 q))
      · obtain ⟨a, r, rfl, h1, h2⟩ := onI_ex (show onI st _ from hs); exact wp_if_ne hd ht (fun q => hK _ _ _ _ (h1 q)) (fun q => hN _ _ _ (h2 q))
      · obtain ⟨a, r, rfl, h1, h2⟩ := onI_ex (show onI st _ from hs); exact wp_if_lt hd ht (fun q => hK _ _ _ _ (h1 q)) (fun q => hN _ _ _ (h2 q))
      · obtain ⟨a, r, rfl, h1, h2⟩ := onI_ex (show onI st _ from hs); exact wp_if_ge hd ht (fun q => hK _ _ _ _ (h1 q)) (fun q => hN _ _ _ (h2 q))
      · obtain ⟨a, r, rfl, h1, h2⟩ := onI_ex (show onI st _ from hs); exact wp_if_gt hd ht (fun q => hK _ _ _ _ (h1 q)) (fun q => hN _ _ _ (h2 q))
      · obtain ⟨a, r, rfl, h1, h2⟩ := onI_ex (show onI st _ from hs); exact wp_if_le hd ht (fun q => hK _ _ _ _ (h1 q)) (fun q => hN _ _ _ (h2 q))
    · cases he
  | if_icmp c o =>
    cases beq_iff_eq.mp hn
    simp only [enc] at he
    split at he
    · next hz =>
      cases he
      have ht : (pc : Int) + o = ((((pc : Int) + o).toNat : Nat) : Int) := by omega
      cases c
      · obtain ⟨b, r, rfl, hs⟩ := onI_ex (show onI st _ from hs); obtain ⟨a, r, rfl, h1, h2⟩ := onI_ex hs; exact wp_icmp_eq hd ht (fun q => hK _ _ _ _ (h1 q)) (fun q => hN _ _ _ (h2 q))
      · obtain ⟨b, r, rfl, hs⟩ := onI_ex (show onI st _ from hs); obtain ⟨a, r, rfl, h1, h2⟩ := onI_ex hs; exact wp_icmp_ne hd ht (fun q => hK _ _ _ _ (h1 q)) (fun q => hN _ _ _ (h2 q))
      · obtain ⟨b, r, rfl, hs⟩ := onI_ex (show onI st _ from hs); obtain ⟨a, r, rfl, h1, h2⟩ := onI_ex hs; exact wp_icmp_lt hd ht (fun q => hK _ _ _ _ (h1 q)) (fun q => hN _ _ _ (h2 q))
      · obtain ⟨b, r, rfl, hs⟩ := onI_ex (show onI st _ from hs); obtain ⟨a, r, rfl, h1, h2⟩ := onI_ex hs; exact wp_icmp_ge hd ht (fun q => hK _ _ _ _ (h1 q)) (fun q => hN _ _ _ (h2 q))
      · obtain ⟨b, r, rfl, hs⟩ := onI_ex (show onI st _ from hs); obtain ⟨a, r, rfl, h1, h2⟩ := onI_ex hs; exact wp_icmp_gt hd ht (fun q => hK _ _ _ _ (h1 q)) (fun q => hN _ _ _ (h2 q))
      · obtain ⟨b, r, rfl, hs⟩ := onI_ex (show onI st _ from hs); obtain ⟨a, r, rfl, h1, h2⟩ := onI_ex hs; exact wp_icmp_le hd ht (fun q => hK _ _ _ _ (h1 q)) (fun q => hN _ _ _ (h2 q))
    · cases he
  | invokestatic z =>
    cases beq_iff_eq.mp hn
    simp only [enc] at he
    split at he
    · next hz =>
      cases he
      obtain ⟨h1, rfl⟩ := hz
      obtain ⟨n9, r, rfl, hs⟩ := onI_ex hs
      obtain ⟨dp, r, rfl, hs⟩ := onI_ex hs
      obtain ⟨k1, r, rfl, hs⟩ := onR_ex hs
      obtain ⟨sp, r, rfl, hs⟩ := onI_ex hs
      obtain ⟨k0, r, rfl, h2, h3, hs⟩ := onR_ex hs
      exact wp_acpy hd h1 h2 h3 (hN _ _ _ hs)
    · split at he
      · next hz =>
        cases he
        obtain ⟨b, r, rfl, hs⟩ := onI_ex hs
        obtain ⟨a, r, rfl, h4, hs⟩ := onI_ex hs
        exact wp_max hd hz h4 (hN _ _ _ hs)
      · split at he
        · next hz =>
          cases he
          obtain ⟨b, r, rfl, hs⟩ := onI_ex hs
          obtain ⟨a, r, rfl, h4, hs⟩ := onI_ex hs
          exact wp_min hd hz h4 (hN _ _ _ hs)
        · cases hm : mthAt (mrec i).1 z with
          | none => rw [hm] at he; cases he
          | some m =>
            rw [hm] at he
            cases hnp : npar (mrec m).2.1 with
            | none => simp [hnp] at he
            | some np =>
              simp only [hnp, Option.bind_some, Option.map_some, Option.some.injEq, Prod.mk.injEq] at he
              obtain ⟨rfl, rfl, rfl⟩ := he
              obtain ⟨⟨h4, h5⟩, P, ⟨d', hd', hc⟩, hs⟩ := hs
              have e1 : ((([(np : Int)] : List Int).headD 0).toNat) = np := rfl
              rw [e1] at h4 h5 hc hs
              have key := wp_calls (G := G) (l := l) (d := d) (ls := ls) (st := st.drop np) (Q := Q) hd hm hnp (hsv m ⟨z, rfl, hm⟩) (by rw [List.length_drop]; omega) (as := (st.take np).reverse) (by rw [List.length_reverse, List.length_take]; omega) hd' hc (fun r h' hp => hN _ _ _ (hs r h' hp))
              rw [List.reverse_reverse, List.take_append_drop] at key
              exact key
  | invokevirtual z =>
    cases beq_iff_eq.mp hn
    simp only [enc] at he
    cases hm : mthAt (mrec i).1 z with
    | none => rw [hm] at he; cases he
    | some m =>
      rw [hm] at he
      cases hnp : npar (mrec m).2.1 with
      | none => simp [hnp] at he
      | some np =>
        simp only [hnp, Option.bind_some, Option.map_some, Option.some.injEq] at he
        split at he
        · next h11 =>
          cases he
          obtain ⟨⟨h4, h5⟩, hs⟩ := hs
          obtain ⟨k, r, hk, hk2, P, ⟨d', hd', hc⟩, hs⟩ := onR_ex hs
          have e1 : ((([(np : Int)] : List Int).headD 0).toNat) = np := rfl
          rw [e1] at h4 h5 hc hk
          have hlen : (st.drop np).length = r.length + 1 := by rw [hk]; rfl
          rw [List.length_drop] at hlen
          have key := wp_callv (G := G) (l := l) (d := d) (ls := ls) (st := r) (Q := Q) hd hm hnp (hvv m ⟨z, rfl, hm⟩) (by omega) (as := (st.take np).reverse) (by rw [List.length_reverse, List.length_take]; omega) hd' (Or.inl ⟨h11, hk2.1, hk2.2⟩) hc (fun r h' hp => hN _ _ _ (hs r h' hp))
          rw [List.reverse_reverse, ← hk, List.take_append_drop] at key
          exact key
        · next h11 =>
          cases he
          obtain ⟨⟨h4, h5⟩, hs⟩ := hs
          obtain ⟨k, r, hk, hk2, P, ⟨d', hd', hc⟩, hs⟩ := onR_ex hs
          have e1 : ((([(np : Int), (vwOf (mrec m).1 : Int)] : List Int).headD 0).toNat) = np := rfl
          rw [e1] at h4 h5 hc hk
          have hlen : (st.drop np).length = r.length + 1 := by rw [hk]; rfl
          rw [List.length_drop] at hlen
          have key := wp_callv (G := G) (l := l) (d := d) (ls := ls) (st := r) (Q := Q) hd hm hnp (hvv m ⟨z, rfl, hm⟩) (by omega) (as := (st.take np).reverse) (by rw [List.length_reverse, List.length_take]; omega) hd' (Or.inr ⟨h11, hk2.1, hk2.2⟩) hc (fun r h' hp => hN _ _ _ (hs r h' hp))
          rw [List.reverse_reverse, ← hk, List.take_append_drop] at key
          exact key
  | _ => simp [enc] at he
end SOUND
end
section
section RUN
variable {G : GD} {l : Launch} {i d pc : Nat} {ls : LcT} {st : List AV} {h : AH} {Q : Option AV → AH → Prop}
def okS (cs : List AE) : Bool := cs.all (fun e => if e.2.1 = 48 then stF.getD e.2.2.1.toNat false else if e.2.1 = 49 ∨ e.2.1 = 50 then !(stF.getD e.2.2.1.toNat true) else true)
theorem mth_acp : mthAt 6 acpyI = none := by decide +kernel
theorem mth_mmx : ∀ e ∈ mmxT, mthAt e.1 e.2.1 = none := by decide +kernel
theorem run_sound {K : Nat → LcT → List AV → AH → Prop} (hK : ∀ t ls st h, K t ls st h → Wp G l i d t ls st h Q) : ∀ (cs : List AE), okC (mrec i).1 (mrec i).2.2.1 (mrec i).2.2.2.2.1 cs = true → okS cs = true → ∀ ls st h, run1 (CRd G l d) Q K cs ls st h → Wp G l i d ((cs.head?.map (fun e => e.1)).getD 0) ls st h Q
  | [], _, _, ls, st, h, hr => hr.elim
  | e :: es, hok, hks, ls, st, h, hr => by
    obtain ⟨pc, op, x, ys⟩ := e
    simp only [okC, Bool.and_eq_true] at hok
    obtain ⟨h1, h2⟩ := hok
    cases hdec : decode (mrec i).2.2.1 pc with
    | error z => rw [hdec] at h1; cases h1
    | ok r =>
      obtain ⟨raw, n⟩ := r
      rw [hdec] at h1
      simp only [Bool.and_eq_true, decide_eq_true_eq] at h1
      obtain ⟨⟨he, hln⟩, hnx⟩ := h1
      simp only [okS, List.all_cons, Bool.and_eq_true] at hks
      obtain ⟨hk1, hk2⟩ := hks
      refine stp_sound (N := run1 (CRd G l d) Q K es) hdec hln he ?_ ?_ hK ?_ hr
      · rintro m ⟨z, rfl, hm⟩
        simp only [enc] at he
        split at he
        · next hz => rw [hz.1, hz.2, mth_acp] at hm; cases hm
        · split at he
          · next hz => have := mth_mmx _ hz; rw [this] at hm; cases hm
          · split at he
            · next hz => have := mth_mmx _ hz; rw [this] at hm; cases hm
            · rw [hm] at he
              cases hnp : npar (mrec m).2.1 with
              | none => simp [hnp] at he
              | some np =>
                simp only [hnp, Option.bind_some, Option.map_some, Option.some.injEq, Prod.mk.injEq] at he
                obtain ⟨rfl, rfl, rfl⟩ := he
                simpa using hk1
      · rintro m ⟨z, rfl, hm⟩
        simp only [enc] at he
        rw [hm] at he
        cases hnp : npar (mrec m).2.1 with
        | none => simp [hnp] at he
        | some np =>
          simp only [hnp, Option.bind_some, Option.map_some, Option.some.injEq] at he
          have key : stF.getD m true = false := by
            split at he
            · cases he; simpa using hk1
            · cases he; simpa using hk1
          have hlt : m < stF.length := by
            obtain ⟨b, hb⟩ := mthAt_spec hm
            exact (mthT_lt _ hb).1
          rw [List.getD_eq_getElem?_getD, List.getElem?_eq_getElem hlt] at key ⊢
          exact key
      · intro ls' st' h' hr'
        match es, hnx, h2, hk2, hr' with
        | e2 :: es, hnx, h2, hk2, hr' =>
          have hnx : e2.1 = pc + n := of_decide_eq_true hnx
          have ih := run_sound hK (e2 :: es) h2 hk2 ls' st' h' hr'
          have e9 : (((e2 :: es).head?.map (fun e => e.1)).getD 0) = pc + n := hnx
          rw [e9] at ih
          exact ih
theorem okC_drop {own : Nat} {b : ByteArray} {rk : Option FieldType} {n : Nat} : ∀ {cs : List AE}, okC own b rk cs = true → okC own b rk (dropTo n cs) = true
  | [], h => h
  | e :: es, h => by
    unfold dropTo
    split
    · exact h
    · simp only [okC, Bool.and_eq_true] at h
      exact okC_drop h.2
theorem okS_drop {n : Nat} : ∀ {cs : List AE}, okS cs = true → okS (dropTo n cs) = true
  | [], h => h
  | e :: es, h => by
    unfold dropTo
    split
    · exact h
    · simp only [okS, List.all_cons, Bool.and_eq_true] at h
      exact okS_drop (show okS es = true from h.2)
theorem drop_hd {n : Nat} : ∀ {cs : List AE} {e : AE} {es : List AE}, dropTo n cs = e :: es → e.1 = n
  | [], e, es, h => by cases h
  | c :: cs, e, es, h => by
    unfold dropTo at h
    split at h
    · next q => cases h; exact q
    · exact drop_hd h
def okR (i : Nat) : Bool := okM i && okS (mcode i)
/-- a run from pc on: what it comes to, jumps as goals of their own -/
theorem Wp.at {cs : List AE} (hok : okR i = true) (hq : dropTo pc (mcode i) = cs) (hr : run1 (CRd G l d) Q (fun t ls st h => Wp G l i d t ls st h Q) cs ls st h) : Wp G l i d pc ls st h Q := by
  simp only [okR, okM, Bool.and_eq_true] at hok
  obtain ⟨⟨⟨⟨h1, -⟩, -⟩, -⟩, h2⟩ := hok
  have a1 := okC_drop (n := pc) h1
  have a2 := okS_drop (n := pc) h2
  have e0 : (mrec i).2.2.2.2.2 = mcode i := rfl
  rw [e0, hq] at a1
  rw [hq] at a2
  have key := run_sound (fun _ _ _ _ q => q) cs a1 a2 ls st h hr
  match cs, hq, key, hr with
  | e :: es, hq, key, _ =>
    have e9 : (((e :: es).head?.map (fun e => e.1)).getD 0) = pc := drop_hd hq
    rw [e9] at key
    exact key
def lcA : List AV → LcT
  | [] => []
  | .inr (.inl z) :: vs => some (vL z) :: none :: lcA vs
  | v :: vs => some v :: lcA vs
def ls0 (n : Nat) (as : List AV) : LcT := lcA as ++ List.replicate (n - (lcA as).length) none
theorem lcA_len (G : GD) : ∀ as : List AV, (lg_sl (as.map (rv G))).length = (lcA as).length
  | [] => rfl
  | .inl z :: vs => by
    have := lcA_len G vs
    simp only [lg_sl, List.map_cons, List.flatMap_cons, List.length_append, lcA, List.length_cons] at this ⊢
    rw [this]; simp [rv, Value.category]; omega
  | .inr (.inr z) :: vs => by
    have := lcA_len G vs
    simp only [lg_sl, List.map_cons, List.flatMap_cons, List.length_append, lcA, List.length_cons] at this ⊢
    rw [this]; simp [rv, Value.category]; omega
  | .inr (.inl z) :: vs => by
    have := lcA_len G vs
    simp only [lg_sl, List.map_cons, List.flatMap_cons, List.length_append, lcA, List.length_cons] at this ⊢
    rw [this]; simp [rv, Value.category]; omega
theorem lcA_mem (G : GD) : ∀ (as : List AV) (k j : Nat) (v : AV), (lcA as)[j]? = some (some v) → (k + j, rv G v) ∈ lv_args k (as.map (rv G)) ∧ v ∈ as
  | [], k, j, v, h => by simp [lcA] at h
  | .inr (.inl z) :: vs, k, 0, v, h => by
    simp [lcA] at h
    subst h
    exact ⟨List.mem_cons_self, List.mem_cons_self⟩
  | .inr (.inl z) :: vs, k, 1, v, h => by simp [lcA] at h
  | .inr (.inl z) :: vs, k, j + 2, v, h => by
    have h1 : (lcA vs)[j]? = some (some v) := by simpa [lcA] using h
    obtain ⟨a, b⟩ := lcA_mem G vs (k + 2) j v h1
    refine ⟨List.mem_cons_of_mem _ ?_, List.mem_cons_of_mem _ b⟩
    rw [show k + (j + 2) = k + 2 + j by omega]
    exact a
  | .inl z :: vs, k, 0, v, h => by
    simp [lcA] at h
    subst h
    exact ⟨List.mem_cons_self, List.mem_cons_self⟩
  | .inl z :: vs, k, j + 1, v, h => by
    have h1 : (lcA vs)[j]? = some (some v) := by simpa [lcA] using h
    obtain ⟨a, b⟩ := lcA_mem G vs (k + 1) j v h1
    refine ⟨List.mem_cons_of_mem _ ?_, List.mem_cons_of_mem _ b⟩
    rw [show k + (j + 1) = k + 1 + j by omega]
    exact a
  | .inr (.inr z) :: vs, k, 0, v, h => by
    simp [lcA] at h
    subst h
    exact ⟨List.mem_cons_self, List.mem_cons_self⟩
  | .inr (.inr z) :: vs, k, j + 1, v, h => by
    have h1 : (lcA vs)[j]? = some (some v) := by simpa [lcA] using h
    obtain ⟨a, b⟩ := lcA_mem G vs (k + 1) j v h1
    refine ⟨List.mem_cons_of_mem _ ?_, List.mem_cons_of_mem _ b⟩
    rw [show k + (j + 1) = k + 1 + j by omega]
    exact a
theorem ls0_mem {n : Nat} {as : List AV} {j : Nat} {v : AV} (h : (ls0 n as)[j]? = some (some v)) : (lcA as)[j]? = some (some v) := by
  unfold ls0 at h
  by_cases hj : j < (lcA as).length
  · rw [List.getElem?_append_left hj] at h; exact h
  · rw [List.getElem?_append_right (by omega), List.getElem?_replicate] at h
    split at h <;> cases h
/-- a contract out of a run from the method's begin -/
theorem CallR.of {as : List AV} {P : Option AV → AH → Prop} (hok : okR i = true) (hl : (lcA as).length ≤ (mrec i).2.2.2.1) (hls : ls0 (mrec i).2.2.2.1 as = ls) (body : (∀ v ∈ as, avOk v) → Hok h → Wp G l i d 0 ls [] h P) : CallR G l d i as h P := by
  intro hv hO
  have hok2 := hok
  simp only [okR, okM, Bool.and_eq_true, decide_eq_true_eq] at hok2
  obtain ⟨⟨⟨⟨-, -⟩, hpl⟩, hcl⟩, -⟩ := hok2
  refine Met.ofW (cc := (mrec i).2.2.1) (maxL := (mrec i).2.2.2.1) (ret := (mrec i).2.2.2.2.1) hpl rfl ?_
  intro p e s m args below meth c s₁ B hml hp
  obtain ⟨rfl, hP, hO, hE, hX⟩ := hp
  have hts := atoms_spec (ws := codW i :: wG) B.pre
  have hown : s.vm.findClass (mrec i).2.1.cls = some m.cls := findClass_of_methodNamed B.named
  have hent := lv_entry (as.map (rv G)) (n := (mrec i).2.2.2.1) (by rw [lcA_len]; exact hl)
  rw [lg_entry_eq]
  generalize (lg_sl (as.map (rv G)) ++ List.replicate ((mrec i).2.2.2.1 - (lg_sl (as.map (rv G))).length) Slot.unset).toArray = la at hent ⊢
  refine body hv hO p e s m _ below meth c s.heap [] la ⟨B.exec, B.bytes, B.returns, hml, by rw [hcl]; exact hown, fun w hw => hts w (List.mem_cons_of_mem _ hw), B.notSynchronized, hE, hX⟩ va_S.rf hP hO ⟨sub_has hent ?_, ?_, ?_⟩ (fun v hv => by cases hv)
  · intro q hq
    obtain ⟨v, h1, h2⟩ := prs_of hq
    rw [← hls] at h1
    have := (lcA_mem G as 0 q.1 v (ls0_mem h1)).1
    rw [Nat.zero_add] at this
    obtain ⟨q1, q2⟩ := q
    cases h2
    exact this
  · rw [← hls]
    unfold ls0
    rw [List.length_append, List.length_replicate]
    omega
  · intro v hm
    rw [← hls] at hm
    obtain ⟨j, hj⟩ := List.getElem?_of_mem hm
    exact hv v (lcA_mem G as 0 j v (ls0_mem hj)).2
theorem CallR.imp {as : List AV} {P P' : Option AV → AH → Prop} (hc : CallR G l d i as h P) (hi : ∀ r h', P r h' → P' r h') : CallR G l d i as h P' := by
  intro hv hO
  have hM := hc hv hO
  unfold Met at hM ⊢
  intro p e ha hc' hk s m args below hf hfit hheap happ
  obtain ⟨k, o, h1, h2, h3, ⟨⟨⟨r, h', q1, q2, q3⟩, q4⟩, q5⟩⟩ := hM p e ha hc' hk s m args below hf hfit hheap happ
  exact ⟨k, o, h1, h2, h3, ⟨⟨⟨r, h', q1, hi r h' q2, q3⟩, q4⟩, q5⟩⟩
end RUN
section RL
variable {CR : Nat → List AV → AH → (Option AV → AH → Prop) → Prop} {Q : Option AV → AH → Prop} {K : Nat → LcT → List AV → AH → Prop}
def stK : Option AV → Bool
  | some (.inr (.inl _)) => false
  | _ => true
theorem stOK_eq {ls : LcT} {j : Nat} {a : Option AV} (h : ls[j]? = some a) : stOK ls (j + 1) = stK a := by
  unfold stOK stK
  simp only [h]
  match a with
  | none => rfl
  | some (.inl z) => rfl
  | some (.inr (.inr z)) => rfl
  | some (.inr (.inl z)) => rfl
theorem stK_n : stK none = true := rfl
theorem stK_i (z : Int) : stK (some (vI z)) = true := rfl
theorem stK_r (z : Nat) : stK (some (vR z)) = true := rfl
def pfI (c : Nat) (z : Int) (P : Prop) : Prop := match c with
  | 0 => P
  | 2 => (z = 0 ∨ z = 1) ∧ P
  | _ => False
theorem rl_0 (p : Nat) (cs : List AE) (h : AH) (ls : LcT) (st : List AV) (x : Int) (ys : List Int) : (run1 CR Q K ((p, 0, x, ys) :: cs) ls st h) = (run1 CR Q K cs ls (vI x :: st) h) := rfl
theorem rl_1 (p : Nat) (cs : List AE) (h : AH) (ls : LcT) (st : List AV) (x : Int) (ys : List Int) : (run1 CR Q K ((p, 1, x, ys) :: cs) ls st h) = (run1 CR Q K cs ls (vL x :: st) h) := rfl
theorem rl_2 (p : Nat) (cs : List AE) (h : AH) (ls : LcT) (st : List AV) (x : Int) (ys : List Int) : (run1 CR Q K ((p, 2, x, ys) :: cs) ls st h) = (run1 CR Q K cs ls (vR x.toNat :: st) h) := rfl
theorem rl_3 (p : Nat) (cs : List AE) (h : AH) (ls : LcT) (st : List AV) (z : Int) (ys : List Int) : (run1 CR Q K ((p, 3, 0, ys) :: cs) (some (vI z) :: ls) st h) = (run1 CR Q K cs (some (vI z) :: ls) (vI z :: st) h) := rfl
theorem rl_4 (p : Nat) (cs : List AE) (h : AH) (ls : LcT) (st : List AV) (z : Int) (ys : List Int) : (run1 CR Q K ((p, 4, 0, ys) :: cs) (some (vL z) :: ls) st h) = (run1 CR Q K cs (some (vL z) :: ls) (vL z :: st) h) := rfl
theorem rl_5 (p : Nat) (cs : List AE) (h : AH) (ls : LcT) (st : List AV) (z : Nat) (ys : List Int) : (run1 CR Q K ((p, 5, 0, ys) :: cs) (some (vR z) :: ls) st h) = (run1 CR Q K cs (some (vR z) :: ls) (vR z :: st) h) := rfl
theorem rl_6 (p : Nat) (cs : List AE) (h : AH) (ls : LcT) (st : List AV) (b : Option AV) (z : Int) (ys : List Int) : (run1 CR Q K ((p, 6, 0, ys) :: cs) (b :: ls) (vI z :: st) h) = (run1 CR Q K cs (some (vI z) :: ls) st h) := by
  apply propext
  constructor
  · intro q
    exact q.2
  · intro q
    exact ⟨⟨rfl, by show 0 < _; simp only [List.length_cons]; omega⟩, q⟩
theorem rl_7 (p : Nat) (cs : List AE) (h : AH) (ls : LcT) (st : List AV) (b : Option AV) (z : Nat) (ys : List Int) : (run1 CR Q K ((p, 8, 0, ys) :: cs) (b :: ls) (vR z :: st) h) = (run1 CR Q K cs (some (vR z) :: ls) st h) := by
  apply propext
  constructor
  · intro q
    exact q.2
  · intro q
    exact ⟨⟨rfl, by show 0 < _; simp only [List.length_cons]; omega⟩, q⟩
theorem rl_8 (p : Nat) (cs : List AE) (h : AH) (ls : LcT) (st : List AV) (z n : Int) : (run1 CR Q K ((p, 9, 0, [n]) :: cs) (some (vI z) :: ls) st h) = (run1 CR Q K cs (some (vI (w32 (z + n))) :: ls) st h) := rfl
theorem rl_9 (p : Nat) (cs : List AE) (h : AH) (ls : LcT) (st : List AV) (a0 : Option AV) (z : Int) (ys : List Int) : (run1 CR Q K ((p, 3, 1, ys) :: cs) (a0 :: some (vI z) :: ls) st h) = (run1 CR Q K cs (a0 :: some (vI z) :: ls) (vI z :: st) h) := rfl
theorem rl_10 (p : Nat) (cs : List AE) (h : AH) (ls : LcT) (st : List AV) (a0 : Option AV) (z : Int) (ys : List Int) : (run1 CR Q K ((p, 4, 1, ys) :: cs) (a0 :: some (vL z) :: ls) st h) = (run1 CR Q K cs (a0 :: some (vL z) :: ls) (vL z :: st) h) := rfl
theorem rl_11 (p : Nat) (cs : List AE) (h : AH) (ls : LcT) (st : List AV) (a0 : Option AV) (z : Nat) (ys : List Int) : (run1 CR Q K ((p, 5, 1, ys) :: cs) (a0 :: some (vR z) :: ls) st h) = (run1 CR Q K cs (a0 :: some (vR z) :: ls) (vR z :: st) h) := rfl
theorem rl_12 (p : Nat) (cs : List AE) (h : AH) (ls : LcT) (st : List AV) (a0 : Option AV) (b : Option AV) (z : Int) (ys : List Int) : (run1 CR Q K ((p, 6, 1, ys) :: cs) (a0 :: b :: ls) (vI z :: st) h) = ((stK a0 = true ∧ run1 CR Q K cs (a0 :: some (vI z) :: ls) st h)) := by
  apply propext
  have e9 := stOK_eq (j := 0) (a := a0) (show ((a0 :: b :: ls) : LcT)[0]? = some a0 from rfl)
  constructor
  · intro q
    exact ⟨e9.symm.trans q.1.1, q.2⟩
  · intro q
    exact ⟨⟨e9.trans q.1, by show 1 < _; simp only [List.length_cons]; omega⟩, q.2⟩
theorem rl_13 (p : Nat) (cs : List AE) (h : AH) (ls : LcT) (st : List AV) (a0 : Option AV) (b : Option AV) (z : Nat) (ys : List Int) : (run1 CR Q K ((p, 8, 1, ys) :: cs) (a0 :: b :: ls) (vR z :: st) h) = ((stK a0 = true ∧ run1 CR Q K cs (a0 :: some (vR z) :: ls) st h)) := by
  apply propext
  have e9 := stOK_eq (j := 0) (a := a0) (show ((a0 :: b :: ls) : LcT)[0]? = some a0 from rfl)
  constructor
  · intro q
    exact ⟨e9.symm.trans q.1.1, q.2⟩
  · intro q
    exact ⟨⟨e9.trans q.1, by show 1 < _; simp only [List.length_cons]; omega⟩, q.2⟩
theorem rl_14 (p : Nat) (cs : List AE) (h : AH) (ls : LcT) (st : List AV) (a0 : Option AV) (b b2 : Option AV) (z : Int) (ys : List Int) : (run1 CR Q K ((p, 7, 1, ys) :: cs) (a0 :: b :: b2 :: ls) (vL z :: st) h) = ((stK a0 = true ∧ run1 CR Q K cs (a0 :: some (vL z) :: none :: ls) st h)) := by
  apply propext
  have e9 := stOK_eq (j := 0) (a := a0) (show ((a0 :: b :: b2 :: ls) : LcT)[0]? = some a0 from rfl)
  constructor
  · intro q
    exact ⟨e9.symm.trans q.1.1, q.2⟩
  · intro q
    exact ⟨⟨e9.trans q.1, by show 1 + 1 < _; simp only [List.length_cons]; omega⟩, q.2⟩
theorem rl_15 (p : Nat) (cs : List AE) (h : AH) (ls : LcT) (st : List AV) (a0 : Option AV) (z n : Int) : (run1 CR Q K ((p, 9, 1, [n]) :: cs) (a0 :: some (vI z) :: ls) st h) = (run1 CR Q K cs (a0 :: some (vI (w32 (z + n))) :: ls) st h) := rfl
theorem rl_16 (p : Nat) (cs : List AE) (h : AH) (ls : LcT) (st : List AV) (a0 a1 : Option AV) (z : Int) (ys : List Int) : (run1 CR Q K ((p, 3, 2, ys) :: cs) (a0 :: a1 :: some (vI z) :: ls) st h) = (run1 CR Q K cs (a0 :: a1 :: some (vI z) :: ls) (vI z :: st) h) := rfl
theorem rl_17 (p : Nat) (cs : List AE) (h : AH) (ls : LcT) (st : List AV) (a0 a1 : Option AV) (z : Int) (ys : List Int) : (run1 CR Q K ((p, 4, 2, ys) :: cs) (a0 :: a1 :: some (vL z) :: ls) st h) = (run1 CR Q K cs (a0 :: a1 :: some (vL z) :: ls) (vL z :: st) h) := rfl
theorem rl_18 (p : Nat) (cs : List AE) (h : AH) (ls : LcT) (st : List AV) (a0 a1 : Option AV) (z : Nat) (ys : List Int) : (run1 CR Q K ((p, 5, 2, ys) :: cs) (a0 :: a1 :: some (vR z) :: ls) st h) = (run1 CR Q K cs (a0 :: a1 :: some (vR z) :: ls) (vR z :: st) h) := rfl
theorem rl_19 (p : Nat) (cs : List AE) (h : AH) (ls : LcT) (st : List AV) (a0 a1 : Option AV) (b : Option AV) (z : Int) (ys : List Int) : (run1 CR Q K ((p, 6, 2, ys) :: cs) (a0 :: a1 :: b :: ls) (vI z :: st) h) = ((stK a1 = true ∧ run1 CR Q K cs (a0 :: a1 :: some (vI z) :: ls) st h)) := by
  apply propext
  have e9 := stOK_eq (j := 1) (a := a1) (show ((a0 :: a1 :: b :: ls) : LcT)[1]? = some a1 from rfl)
  constructor
  · intro q
    exact ⟨e9.symm.trans q.1.1, q.2⟩
  · intro q
    exact ⟨⟨e9.trans q.1, by show 2 < _; simp only [List.length_cons]; omega⟩, q.2⟩
theorem rl_20 (p : Nat) (cs : List AE) (h : AH) (ls : LcT) (st : List AV) (a0 a1 : Option AV) (b : Option AV) (z : Nat) (ys : List Int) : (run1 CR Q K ((p, 8, 2, ys) :: cs) (a0 :: a1 :: b :: ls) (vR z :: st) h) = ((stK a1 = true ∧ run1 CR Q K cs (a0 :: a1 :: some (vR z) :: ls) st h)) := by
  apply propext
  have e9 := stOK_eq (j := 1) (a := a1) (show ((a0 :: a1 :: b :: ls) : LcT)[1]? = some a1 from rfl)
  constructor
  · intro q
    exact ⟨e9.symm.trans q.1.1, q.2⟩
  · intro q
    exact ⟨⟨e9.trans q.1, by show 2 < _; simp only [List.length_cons]; omega⟩, q.2⟩
theorem rl_21 (p : Nat) (cs : List AE) (h : AH) (ls : LcT) (st : List AV) (a0 a1 : Option AV) (b b2 : Option AV) (z : Int) (ys : List Int) : (run1 CR Q K ((p, 7, 2, ys) :: cs) (a0 :: a1 :: b :: b2 :: ls) (vL z :: st) h) = ((stK a1 = true ∧ run1 CR Q K cs (a0 :: a1 :: some (vL z) :: none :: ls) st h)) := by
  apply propext
  have e9 := stOK_eq (j := 1) (a := a1) (show ((a0 :: a1 :: b :: b2 :: ls) : LcT)[1]? = some a1 from rfl)
  constructor
  · intro q
    exact ⟨e9.symm.trans q.1.1, q.2⟩
  · intro q
    exact ⟨⟨e9.trans q.1, by show 2 + 1 < _; simp only [List.length_cons]; omega⟩, q.2⟩
theorem rl_22 (p : Nat) (cs : List AE) (h : AH) (ls : LcT) (st : List AV) (a0 a1 : Option AV) (z n : Int) : (run1 CR Q K ((p, 9, 2, [n]) :: cs) (a0 :: a1 :: some (vI z) :: ls) st h) = (run1 CR Q K cs (a0 :: a1 :: some (vI (w32 (z + n))) :: ls) st h) := rfl
theorem rl_23 (p : Nat) (cs : List AE) (h : AH) (ls : LcT) (st : List AV) (a0 a1 a2 : Option AV) (z : Int) (ys : List Int) : (run1 CR Q K ((p, 3, 3, ys) :: cs) (a0 :: a1 :: a2 :: some (vI z) :: ls) st h) = (run1 CR Q K cs (a0 :: a1 :: a2 :: some (vI z) :: ls) (vI z :: st) h) := rfl
theorem rl_24 (p : Nat) (cs : List AE) (h : AH) (ls : LcT) (st : List AV) (a0 a1 a2 : Option AV) (z : Int) (ys : List Int) : (run1 CR Q K ((p, 4, 3, ys) :: cs) (a0 :: a1 :: a2 :: some (vL z) :: ls) st h) = (run1 CR Q K cs (a0 :: a1 :: a2 :: some (vL z) :: ls) (vL z :: st) h) := rfl
theorem rl_25 (p : Nat) (cs : List AE) (h : AH) (ls : LcT) (st : List AV) (a0 a1 a2 : Option AV) (z : Nat) (ys : List Int) : (run1 CR Q K ((p, 5, 3, ys) :: cs) (a0 :: a1 :: a2 :: some (vR z) :: ls) st h) = (run1 CR Q K cs (a0 :: a1 :: a2 :: some (vR z) :: ls) (vR z :: st) h) := rfl
theorem rl_26 (p : Nat) (cs : List AE) (h : AH) (ls : LcT) (st : List AV) (a0 a1 a2 : Option AV) (b : Option AV) (z : Int) (ys : List Int) : (run1 CR Q K ((p, 6, 3, ys) :: cs) (a0 :: a1 :: a2 :: b :: ls) (vI z :: st) h) = ((stK a2 = true ∧ run1 CR Q K cs (a0 :: a1 :: a2 :: some (vI z) :: ls) st h)) := by
  apply propext
  have e9 := stOK_eq (j := 2) (a := a2) (show ((a0 :: a1 :: a2 :: b :: ls) : LcT)[2]? = some a2 from rfl)
  constructor
  · intro q
    exact ⟨e9.symm.trans q.1.1, q.2⟩
  · intro q
    exact ⟨⟨e9.trans q.1, by show 3 < _; simp only [List.length_cons]; omega⟩, q.2⟩
theorem rl_27 (p : Nat) (cs : List AE) (h : AH) (ls : LcT) (st : List AV) (a0 a1 a2 : Option AV) (b : Option AV) (z : Nat) (ys : List Int) : (run1 CR Q K ((p, 8, 3, ys) :: cs) (a0 :: a1 :: a2 :: b :: ls) (vR z :: st) h) = ((stK a2 = true ∧ run1 CR Q K cs (a0 :: a1 :: a2 :: some (vR z) :: ls) st h)) := by
  apply propext
  have e9 := stOK_eq (j := 2) (a := a2) (show ((a0 :: a1 :: a2 :: b :: ls) : LcT)[2]? = some a2 from rfl)
  constructor
  · intro q
    exact ⟨e9.symm.trans q.1.1, q.2⟩
  · intro q
    exact ⟨⟨e9.trans q.1, by show 3 < _; simp only [List.length_cons]; omega⟩, q.2⟩
theorem rl_28 (p : Nat) (cs : List AE) (h : AH) (ls : LcT) (st : List AV) (a0 a1 a2 : Option AV) (b b2 : Option AV) (z : Int) (ys : List Int) : (run1 CR Q K ((p, 7, 3, ys) :: cs) (a0 :: a1 :: a2 :: b :: b2 :: ls) (vL z :: st) h) = ((stK a2 = true ∧ run1 CR Q K cs (a0 :: a1 :: a2 :: some (vL z) :: none :: ls) st h)) := by
  apply propext
  have e9 := stOK_eq (j := 2) (a := a2) (show ((a0 :: a1 :: a2 :: b :: b2 :: ls) : LcT)[2]? = some a2 from rfl)
  constructor
  · intro q
    exact ⟨e9.symm.trans q.1.1, q.2⟩
  · intro q
    exact ⟨⟨e9.trans q.1, by show 3 + 1 < _; simp only [List.length_cons]; omega⟩, q.2⟩
theorem rl_29 (p : Nat) (cs : List AE) (h : AH) (ls : LcT) (st : List AV) (a0 a1 a2 : Option AV) (z n : Int) : (run1 CR Q K ((p, 9, 3, [n]) :: cs) (a0 :: a1 :: a2 :: some (vI z) :: ls) st h) = (run1 CR Q K cs (a0 :: a1 :: a2 :: some (vI (w32 (z + n))) :: ls) st h) := rfl
theorem rl_30 (p : Nat) (cs : List AE) (h : AH) (ls : LcT) (st : List AV) (a0 a1 a2 a3 : Option AV) (z : Int) (ys : List Int) : (run1 CR Q K ((p, 3, 4, ys) :: cs) (a0 :: a1 :: a2 :: a3 :: some (vI z) :: ls) st h) = (run1 CR Q K cs (a0 :: a1 :: a2 :: a3 :: some (vI z) :: ls) (vI z :: st) h) := rfl
theorem rl_31 (p : Nat) (cs : List AE) (h : AH) (ls : LcT) (st : List AV) (a0 a1 a2 a3 : Option AV) (z : Int) (ys : List Int) : (run1 CR Q K ((p, 4, 4, ys) :: cs) (a0 :: a1 :: a2 :: a3 :: some (vL z) :: ls) st h) = (run1 CR Q K cs (a0 :: a1 :: a2 :: a3 :: some (vL z) :: ls) (vL z :: st) h) := rfl
theorem rl_32 (p : Nat) (cs : List AE) (h : AH) (ls : LcT) (st : List AV) (a0 a1 a2 a3 : Option AV) (z : Nat) (ys : List Int) : (run1 CR Q K ((p, 5, 4, ys) :: cs) (a0 :: a1 :: a2 :: a3 :: some (vR z) :: ls) st h) = (run1 CR Q K cs (a0 :: a1 :: a2 :: a3 :: some (vR z) :: ls) (vR z :: st) h) := rfl
theorem rl_33 (p : Nat) (cs : List AE) (h : AH) (ls : LcT) (st : List AV) (a0 a1 a2 a3 : Option AV) (b : Option AV) (z : Int) (ys : List Int) : (run1 CR Q K ((p, 6, 4, ys) :: cs) (a0 :: a1 :: a2 :: a3 :: b :: ls) (vI z :: st) h) = ((stK a3 = true ∧ run1 CR Q K cs (a0 :: a1 :: a2 :: a3 :: some (vI z) :: ls) st h)) := by
  apply propext
  have e9 := stOK_eq (j := 3) (a := a3) (show ((a0 :: a1 :: a2 :: a3 :: b :: ls) : LcT)[3]? = some a3 from rfl)
  constructor
  · intro q
    exact ⟨e9.symm.trans q.1.1, q.2⟩
  · intro q
    exact ⟨⟨e9.trans q.1, by show 4 < _; simp only [List.length_cons]; omega⟩, q.2⟩
theorem rl_34 (p : Nat) (cs : List AE) (h : AH) (ls : LcT) (st : List AV) (a0 a1 a2 a3 : Option AV) (b : Option AV) (z : Nat) (ys : List Int) : (run1 CR Q K ((p, 8, 4, ys) :: cs) (a0 :: a1 :: a2 :: a3 :: b :: ls) (vR z :: st) h) = ((stK a3 = true ∧ run1 CR Q K cs (a0 :: a1 :: a2 :: a3 :: some (vR z) :: ls) st h)) := by
  apply propext
  have e9 := stOK_eq (j := 3) (a := a3) (show ((a0 :: a1 :: a2 :: a3 :: b :: ls) : LcT)[3]? = some a3 from rfl)
  constructor
  · intro q
    exact ⟨e9.symm.trans q.1.1, q.2⟩
  · intro q
    exact ⟨⟨e9.trans q.1, by show 4 < _; simp only [List.length_cons]; omega⟩, q.2⟩
theorem rl_35 (p : Nat) (cs : List AE) (h : AH) (ls : LcT) (st : List AV) (a0 a1 a2 a3 : Option AV) (b b2 : Option AV) (z : Int) (ys : List Int) : (run1 CR Q K ((p, 7, 4, ys) :: cs) (a0 :: a1 :: a2 :: a3 :: b :: b2 :: ls) (vL z :: st) h) = ((stK a3 = true ∧ run1 CR Q K cs (a0 :: a1 :: a2 :: a3 :: some (vL z) :: none :: ls) st h)) := by
  apply propext
  have e9 := stOK_eq (j := 3) (a := a3) (show ((a0 :: a1 :: a2 :: a3 :: b :: b2 :: ls) : LcT)[3]? = some a3 from rfl)
  constructor
  · intro q
    exact ⟨e9.symm.trans q.1.1, q.2⟩
  · intro q
    exact ⟨⟨e9.trans q.1, by show 4 + 1 < _; simp only [List.length_cons]; omega⟩, q.2⟩
theorem rl_36 (p : Nat) (cs : List AE) (h : AH) (ls : LcT) (st : List AV) (a0 a1 a2 a3 : Option AV) (z n : Int) : (run1 CR Q K ((p, 9, 4, [n]) :: cs) (a0 :: a1 :: a2 :: a3 :: some (vI z) :: ls) st h) = (run1 CR Q K cs (a0 :: a1 :: a2 :: a3 :: some (vI (w32 (z + n))) :: ls) st h) := rfl
theorem rl_37 (p : Nat) (cs : List AE) (h : AH) (ls : LcT) (st : List AV) (a0 a1 a2 a3 a4 : Option AV) (z : Int) (ys : List Int) : (run1 CR Q K ((p, 3, 5, ys) :: cs) (a0 :: a1 :: a2 :: a3 :: a4 :: some (vI z) :: ls) st h) = (run1 CR Q K cs (a0 :: a1 :: a2 :: a3 :: a4 :: some (vI z) :: ls) (vI z :: st) h) := rfl
theorem rl_38 (p : Nat) (cs : List AE) (h : AH) (ls : LcT) (st : List AV) (a0 a1 a2 a3 a4 : Option AV) (z : Int) (ys : List Int) : (run1 CR Q K ((p, 4, 5, ys) :: cs) (a0 :: a1 :: a2 :: a3 :: a4 :: some (vL z) :: ls) st h) = (run1 CR Q K cs (a0 :: a1 :: a2 :: a3 :: a4 :: some (vL z) :: ls) (vL z :: st) h) := rfl
theorem rl_39 (p : Nat) (cs : List AE) (h : AH) (ls : LcT) (st : List AV) (a0 a1 a2 a3 a4 : Option AV) (z : Nat) (ys : List Int) : (run1 CR Q K ((p, 5, 5, ys) :: cs) (a0 :: a1 :: a2 :: a3 :: a4 :: some (vR z) :: ls) st h) = (run1 CR Q K cs (a0 :: a1 :: a2 :: a3 :: a4 :: some (vR z) :: ls) (vR z :: st) h) := rfl
theorem rl_40 (p : Nat) (cs : List AE) (h : AH) (ls : LcT) (st : List AV) (a0 a1 a2 a3 a4 : Option AV) (b : Option AV) (z : Int) (ys : List Int) : (run1 CR Q K ((p, 6, 5, ys) :: cs) (a0 :: a1 :: a2 :: a3 :: a4 :: b :: ls) (vI z :: st) h) = ((stK a4 = true ∧ run1 CR Q K cs (a0 :: a1 :: a2 :: a3 :: a4 :: some (vI z) :: ls) st h)) := by
  apply propext
  have e9 := stOK_eq (j := 4) (a := a4) (show ((a0 :: a1 :: a2 :: a3 :: a4 :: b :: ls) : LcT)[4]? = some a4 from rfl)
  constructor
  · intro q
    exact ⟨e9.symm.trans q.1.1, q.2⟩
  · intro q
    exact ⟨⟨e9.trans q.1, by show 5 < _; simp only [List.length_cons]; omega⟩, q.2⟩
theorem rl_41 (p : Nat) (cs : List AE) (h : AH) (ls : LcT) (st : List AV) (a0 a1 a2 a3 a4 : Option AV) (b : Option AV) (z : Nat) (ys : List Int) : (run1 CR Q K ((p, 8, 5, ys) :: cs) (a0 :: a1 :: a2 :: a3 :: a4 :: b :: ls) (vR z :: st) h) = ((stK a4 = true ∧ run1 CR Q K cs (a0 :: a1 :: a2 :: a3 :: a4 :: some (vR z) :: ls) st h)) := by
  apply propext
  have e9 := stOK_eq (j := 4) (a := a4) (show ((a0 :: a1 :: a2 :: a3 :: a4 :: b :: ls) : LcT)[4]? = some a4 from rfl)
  constructor
  · intro q
    exact ⟨e9.symm.trans q.1.1, q.2⟩
  · intro q
    exact ⟨⟨e9.trans q.1, by show 5 < _; simp only [List.length_cons]; omega⟩, q.2⟩
theorem rl_42 (p : Nat) (cs : List AE) (h : AH) (ls : LcT) (st : List AV) (a0 a1 a2 a3 a4 : Option AV) (b b2 : Option AV) (z : Int) (ys : List Int) : (run1 CR Q K ((p, 7, 5, ys) :: cs) (a0 :: a1 :: a2 :: a3 :: a4 :: b :: b2 :: ls) (vL z :: st) h) = ((stK a4 = true ∧ run1 CR Q K cs (a0 :: a1 :: a2 :: a3 :: a4 :: some (vL z) :: none :: ls) st h)) := by
  apply propext
  have e9 := stOK_eq (j := 4) (a := a4) (show ((a0 :: a1 :: a2 :: a3 :: a4 :: b :: b2 :: ls) : LcT)[4]? = some a4 from rfl)
  constructor
  · intro q
    exact ⟨e9.symm.trans q.1.1, q.2⟩
  · intro q
    exact ⟨⟨e9.trans q.1, by show 5 + 1 < _; simp only [List.length_cons]; omega⟩, q.2⟩
theorem rl_43 (p : Nat) (cs : List AE) (h : AH) (ls : LcT) (st : List AV) (a0 a1 a2 a3 a4 : Option AV) (z n : Int) : (run1 CR Q K ((p, 9, 5, [n]) :: cs) (a0 :: a1 :: a2 :: a3 :: a4 :: some (vI z) :: ls) st h) = (run1 CR Q K cs (a0 :: a1 :: a2 :: a3 :: a4 :: some (vI (w32 (z + n))) :: ls) st h) := rfl
theorem rl_44 (p : Nat) (cs : List AE) (h : AH) (ls : LcT) (st : List AV) (a0 a1 a2 a3 a4 a5 : Option AV) (z : Int) (ys : List Int) : (run1 CR Q K ((p, 3, 6, ys) :: cs) (a0 :: a1 :: a2 :: a3 :: a4 :: a5 :: some (vI z) :: ls) st h) = (run1 CR Q K cs (a0 :: a1 :: a2 :: a3 :: a4 :: a5 :: some (vI z) :: ls) (vI z :: st) h) := rfl
theorem rl_45 (p : Nat) (cs : List AE) (h : AH) (ls : LcT) (st : List AV) (a0 a1 a2 a3 a4 a5 : Option AV) (z : Int) (ys : List Int) : (run1 CR Q K ((p, 4, 6, ys) :: cs) (a0 :: a1 :: a2 :: a3 :: a4 :: a5 :: some (vL z) :: ls) st h) = (run1 CR Q K cs (a0 :: a1 :: a2 :: a3 :: a4 :: a5 :: some (vL z) :: ls) (vL z :: st) h) := rfl
theorem rl_46 (p : Nat) (cs : List AE) (h : AH) (ls : LcT) (st : List AV) (a0 a1 a2 a3 a4 a5 : Option AV) (z : Nat) (ys : List Int) : (run1 CR Q K ((p, 5, 6, ys) :: cs) (a0 :: a1 :: a2 :: a3 :: a4 :: a5 :: some (vR z) :: ls) st h) = (run1 CR Q K cs (a0 :: a1 :: a2 :: a3 :: a4 :: a5 :: some (vR z) :: ls) (vR z :: st) h) := rfl
theorem rl_47 (p : Nat) (cs : List AE) (h : AH) (ls : LcT) (st : List AV) (a0 a1 a2 a3 a4 a5 : Option AV) (b : Option AV) (z : Int) (ys : List Int) : (run1 CR Q K ((p, 6, 6, ys) :: cs) (a0 :: a1 :: a2 :: a3 :: a4 :: a5 :: b :: ls) (vI z :: st) h) = ((stK a5 = true ∧ run1 CR Q K cs (a0 :: a1 :: a2 :: a3 :: a4 :: a5 :: some (vI z) :: ls) st h)) := by
  apply propext
  have e9 := stOK_eq (j := 5) (a := a5) (show ((a0 :: a1 :: a2 :: a3 :: a4 :: a5 :: b :: ls) : LcT)[5]? = some a5 from rfl)
  constructor
  · intro q
    exact ⟨e9.symm.trans q.1.1, q.2⟩
  · intro q
    exact ⟨⟨e9.trans q.1, by show 6 < _; simp only [List.length_cons]; omega⟩, q.2⟩
theorem rl_48 (p : Nat) (cs : List AE) (h : AH) (ls : LcT) (st : List AV) (a0 a1 a2 a3 a4 a5 : Option AV) (b : Option AV) (z : Nat) (ys : List Int) : (run1 CR Q K ((p, 8, 6, ys) :: cs) (a0 :: a1 :: a2 :: a3 :: a4 :: a5 :: b :: ls) (vR z :: st) h) = ((stK a5 = true ∧ run1 CR Q K cs (a0 :: a1 :: a2 :: a3 :: a4 :: a5 :: some (vR z) :: ls) st h)) := by
  apply propext
  have e9 := stOK_eq (j := 5) (a := a5) (show ((a0 :: a1 :: a2 :: a3 :: a4 :: a5 :: b :: ls) : LcT)[5]? = some a5 from rfl)
  constructor
  · intro q
    exact ⟨e9.symm.trans q.1.1, q.2⟩
  · intro q
    exact ⟨⟨e9.trans q.1, by show 6 < _; simp only [List.length_cons]; omega⟩, q.2⟩
theorem rl_49 (p : Nat) (cs : List AE) (h : AH) (ls : LcT) (st : List AV) (a0 a1 a2 a3 a4 a5 : Option AV) (b b2 : Option AV) (z : Int) (ys : List Int) : (run1 CR Q K ((p, 7, 6, ys) :: cs) (a0 :: a1 :: a2 :: a3 :: a4 :: a5 :: b :: b2 :: ls) (vL z :: st) h) = ((stK a5 = true ∧ run1 CR Q K cs (a0 :: a1 :: a2 :: a3 :: a4 :: a5 :: some (vL z) :: none :: ls) st h)) := by
  apply propext
  have e9 := stOK_eq (j := 5) (a := a5) (show ((a0 :: a1 :: a2 :: a3 :: a4 :: a5 :: b :: b2 :: ls) : LcT)[5]? = some a5 from rfl)
  constructor
  · intro q
    exact ⟨e9.symm.trans q.1.1, q.2⟩
  · intro q
    exact ⟨⟨e9.trans q.1, by show 6 + 1 < _; simp only [List.length_cons]; omega⟩, q.2⟩
theorem rl_50 (p : Nat) (cs : List AE) (h : AH) (ls : LcT) (st : List AV) (a0 a1 a2 a3 a4 a5 : Option AV) (z n : Int) : (run1 CR Q K ((p, 9, 6, [n]) :: cs) (a0 :: a1 :: a2 :: a3 :: a4 :: a5 :: some (vI z) :: ls) st h) = (run1 CR Q K cs (a0 :: a1 :: a2 :: a3 :: a4 :: a5 :: some (vI (w32 (z + n))) :: ls) st h) := rfl
theorem rl_51 (p : Nat) (cs : List AE) (h : AH) (ls : LcT) (st : List AV) (a0 a1 a2 a3 a4 a5 a6 : Option AV) (z : Int) (ys : List Int) : (run1 CR Q K ((p, 3, 7, ys) :: cs) (a0 :: a1 :: a2 :: a3 :: a4 :: a5 :: a6 :: some (vI z) :: ls) st h) = (run1 CR Q K cs (a0 :: a1 :: a2 :: a3 :: a4 :: a5 :: a6 :: some (vI z) :: ls) (vI z :: st) h) := rfl
theorem rl_52 (p : Nat) (cs : List AE) (h : AH) (ls : LcT) (st : List AV) (a0 a1 a2 a3 a4 a5 a6 : Option AV) (z : Int) (ys : List Int) : (run1 CR Q K ((p, 4, 7, ys) :: cs) (a0 :: a1 :: a2 :: a3 :: a4 :: a5 :: a6 :: some (vL z) :: ls) st h) = (run1 CR Q K cs (a0 :: a1 :: a2 :: a3 :: a4 :: a5 :: a6 :: some (vL z) :: ls) (vL z :: st) h) := rfl
theorem rl_53 (p : Nat) (cs : List AE) (h : AH) (ls : LcT) (st : List AV) (a0 a1 a2 a3 a4 a5 a6 : Option AV) (z : Nat) (ys : List Int) : (run1 CR Q K ((p, 5, 7, ys) :: cs) (a0 :: a1 :: a2 :: a3 :: a4 :: a5 :: a6 :: some (vR z) :: ls) st h) = (run1 CR Q K cs (a0 :: a1 :: a2 :: a3 :: a4 :: a5 :: a6 :: some (vR z) :: ls) (vR z :: st) h) := rfl
theorem rl_54 (p : Nat) (cs : List AE) (h : AH) (ls : LcT) (st : List AV) (a0 a1 a2 a3 a4 a5 a6 : Option AV) (b : Option AV) (z : Int) (ys : List Int) : (run1 CR Q K ((p, 6, 7, ys) :: cs) (a0 :: a1 :: a2 :: a3 :: a4 :: a5 :: a6 :: b :: ls) (vI z :: st) h) = ((stK a6 = true ∧ run1 CR Q K cs (a0 :: a1 :: a2 :: a3 :: a4 :: a5 :: a6 :: some (vI z) :: ls) st h)) := by
  apply propext
  have e9 := stOK_eq (j := 6) (a := a6) (show ((a0 :: a1 :: a2 :: a3 :: a4 :: a5 :: a6 :: b :: ls) : LcT)[6]? = some a6 from rfl)
  constructor
  · intro q
    exact ⟨e9.symm.trans q.1.1, q.2⟩
  · intro q
    exact ⟨⟨e9.trans q.1, by show 7 < _; simp only [List.length_cons]; omega⟩, q.2⟩
theorem rl_55 (p : Nat) (cs : List AE) (h : AH) (ls : LcT) (st : List AV) (a0 a1 a2 a3 a4 a5 a6 : Option AV) (b : Option AV) (z : Nat) (ys : List Int) : (run1 CR Q K ((p, 8, 7, ys) :: cs) (a0 :: a1 :: a2 :: a3 :: a4 :: a5 :: a6 :: b :: ls) (vR z :: st) h) = ((stK a6 = true ∧ run1 CR Q K cs (a0 :: a1 :: a2 :: a3 :: a4 :: a5 :: a6 :: some (vR z) :: ls) st h)) := by
  apply propext
  have e9 := stOK_eq (j := 6) (a := a6) (show ((a0 :: a1 :: a2 :: a3 :: a4 :: a5 :: a6 :: b :: ls) : LcT)[6]? = some a6 from rfl)
  constructor
  · intro q
    exact ⟨e9.symm.trans q.1.1, q.2⟩
  · intro q
    exact ⟨⟨e9.trans q.1, by show 7 < _; simp only [List.length_cons]; omega⟩, q.2⟩
theorem rl_56 (p : Nat) (cs : List AE) (h : AH) (ls : LcT) (st : List AV) (a0 a1 a2 a3 a4 a5 a6 : Option AV) (b b2 : Option AV) (z : Int) (ys : List Int) : (run1 CR Q K ((p, 7, 7, ys) :: cs) (a0 :: a1 :: a2 :: a3 :: a4 :: a5 :: a6 :: b :: b2 :: ls) (vL z :: st) h) = ((stK a6 = true ∧ run1 CR Q K cs (a0 :: a1 :: a2 :: a3 :: a4 :: a5 :: a6 :: some (vL z) :: none :: ls) st h)) := by
  apply propext
  have e9 := stOK_eq (j := 6) (a := a6) (show ((a0 :: a1 :: a2 :: a3 :: a4 :: a5 :: a6 :: b :: b2 :: ls) : LcT)[6]? = some a6 from rfl)
  constructor
  · intro q
    exact ⟨e9.symm.trans q.1.1, q.2⟩
  · intro q
    exact ⟨⟨e9.trans q.1, by show 7 + 1 < _; simp only [List.length_cons]; omega⟩, q.2⟩
theorem rl_57 (p : Nat) (cs : List AE) (h : AH) (ls : LcT) (st : List AV) (a0 a1 a2 a3 a4 a5 a6 : Option AV) (z n : Int) : (run1 CR Q K ((p, 9, 7, [n]) :: cs) (a0 :: a1 :: a2 :: a3 :: a4 :: a5 :: a6 :: some (vI z) :: ls) st h) = (run1 CR Q K cs (a0 :: a1 :: a2 :: a3 :: a4 :: a5 :: a6 :: some (vI (w32 (z + n))) :: ls) st h) := rfl
theorem rl_58 (p : Nat) (cs : List AE) (h : AH) (ls : LcT) (st : List AV) (a0 a1 a2 a3 a4 a5 a6 a7 : Option AV) (z : Int) (ys : List Int) : (run1 CR Q K ((p, 3, 8, ys) :: cs) (a0 :: a1 :: a2 :: a3 :: a4 :: a5 :: a6 :: a7 :: some (vI z) :: ls) st h) = (run1 CR Q K cs (a0 :: a1 :: a2 :: a3 :: a4 :: a5 :: a6 :: a7 :: some (vI z) :: ls) (vI z :: st) h) := rfl
theorem rl_59 (p : Nat) (cs : List AE) (h : AH) (ls : LcT) (st : List AV) (a0 a1 a2 a3 a4 a5 a6 a7 : Option AV) (z : Int) (ys : List Int) : (run1 CR Q K ((p, 4, 8, ys) :: cs) (a0 :: a1 :: a2 :: a3 :: a4 :: a5 :: a6 :: a7 :: some (vL z) :: ls) st h) = (run1 CR Q K cs (a0 :: a1 :: a2 :: a3 :: a4 :: a5 :: a6 :: a7 :: some (vL z) :: ls) (vL z :: st) h) := rfl
theorem rl_60 (p : Nat) (cs : List AE) (h : AH) (ls : LcT) (st : List AV) (a0 a1 a2 a3 a4 a5 a6 a7 : Option AV) (z : Nat) (ys : List Int) : (run1 CR Q K ((p, 5, 8, ys) :: cs) (a0 :: a1 :: a2 :: a3 :: a4 :: a5 :: a6 :: a7 :: some (vR z) :: ls) st h) = (run1 CR Q K cs (a0 :: a1 :: a2 :: a3 :: a4 :: a5 :: a6 :: a7 :: some (vR z) :: ls) (vR z :: st) h) := rfl
theorem rl_61 (p : Nat) (cs : List AE) (h : AH) (ls : LcT) (st : List AV) (a0 a1 a2 a3 a4 a5 a6 a7 : Option AV) (b : Option AV) (z : Int) (ys : List Int) : (run1 CR Q K ((p, 6, 8, ys) :: cs) (a0 :: a1 :: a2 :: a3 :: a4 :: a5 :: a6 :: a7 :: b :: ls) (vI z :: st) h) = ((stK a7 = true ∧ run1 CR Q K cs (a0 :: a1 :: a2 :: a3 :: a4 :: a5 :: a6 :: a7 :: some (vI z) :: ls) st h)) := by
  apply propext
  have e9 := stOK_eq (j := 7) (a := a7) (show ((a0 :: a1 :: a2 :: a3 :: a4 :: a5 :: a6 :: a7 :: b :: ls) : LcT)[7]? = some a7 from rfl)
  constructor
  · intro q
    exact ⟨e9.symm.trans q.1.1, q.2⟩
  · intro q
    exact ⟨⟨e9.trans q.1, by show 8 < _; simp only [List.length_cons]; omega⟩, q.2⟩
theorem rl_62 (p : Nat) (cs : List AE) (h : AH) (ls : LcT) (st : List AV) (a0 a1 a2 a3 a4 a5 a6 a7 : Option AV) (b : Option AV) (z : Nat) (ys : List Int) : (run1 CR Q K ((p, 8, 8, ys) :: cs) (a0 :: a1 :: a2 :: a3 :: a4 :: a5 :: a6 :: a7 :: b :: ls) (vR z :: st) h) = ((stK a7 = true ∧ run1 CR Q K cs (a0 :: a1 :: a2 :: a3 :: a4 :: a5 :: a6 :: a7 :: some (vR z) :: ls) st h)) := by
  apply propext
  have e9 := stOK_eq (j := 7) (a := a7) (show ((a0 :: a1 :: a2 :: a3 :: a4 :: a5 :: a6 :: a7 :: b :: ls) : LcT)[7]? = some a7 from rfl)
  constructor
  · intro q
    exact ⟨e9.symm.trans q.1.1, q.2⟩
  · intro q
    exact ⟨⟨e9.trans q.1, by show 8 < _; simp only [List.length_cons]; omega⟩, q.2⟩
theorem rl_63 (p : Nat) (cs : List AE) (h : AH) (ls : LcT) (st : List AV) (a0 a1 a2 a3 a4 a5 a6 a7 : Option AV) (b b2 : Option AV) (z : Int) (ys : List Int) : (run1 CR Q K ((p, 7, 8, ys) :: cs) (a0 :: a1 :: a2 :: a3 :: a4 :: a5 :: a6 :: a7 :: b :: b2 :: ls) (vL z :: st) h) = ((stK a7 = true ∧ run1 CR Q K cs (a0 :: a1 :: a2 :: a3 :: a4 :: a5 :: a6 :: a7 :: some (vL z) :: none :: ls) st h)) := by
  apply propext
  have e9 := stOK_eq (j := 7) (a := a7) (show ((a0 :: a1 :: a2 :: a3 :: a4 :: a5 :: a6 :: a7 :: b :: b2 :: ls) : LcT)[7]? = some a7 from rfl)
  constructor
  · intro q
    exact ⟨e9.symm.trans q.1.1, q.2⟩
  · intro q
    exact ⟨⟨e9.trans q.1, by show 8 + 1 < _; simp only [List.length_cons]; omega⟩, q.2⟩
theorem rl_64 (p : Nat) (cs : List AE) (h : AH) (ls : LcT) (st : List AV) (a0 a1 a2 a3 a4 a5 a6 a7 : Option AV) (z n : Int) : (run1 CR Q K ((p, 9, 8, [n]) :: cs) (a0 :: a1 :: a2 :: a3 :: a4 :: a5 :: a6 :: a7 :: some (vI z) :: ls) st h) = (run1 CR Q K cs (a0 :: a1 :: a2 :: a3 :: a4 :: a5 :: a6 :: a7 :: some (vI (w32 (z + n))) :: ls) st h) := rfl
theorem rl_65 (p : Nat) (cs : List AE) (h : AH) (ls : LcT) (st : List AV) (a0 a1 a2 a3 a4 a5 a6 a7 a8 : Option AV) (z : Int) (ys : List Int) : (run1 CR Q K ((p, 3, 9, ys) :: cs) (a0 :: a1 :: a2 :: a3 :: a4 :: a5 :: a6 :: a7 :: a8 :: some (vI z) :: ls) st h) = (run1 CR Q K cs (a0 :: a1 :: a2 :: a3 :: a4 :: a5 :: a6 :: a7 :: a8 :: some (vI z) :: ls) (vI z :: st) h) := rfl
theorem rl_66 (p : Nat) (cs : List AE) (h : AH) (ls : LcT) (st : List AV) (a0 a1 a2 a3 a4 a5 a6 a7 a8 : Option AV) (z : Int) (ys : List Int) : (run1 CR Q K ((p, 4, 9, ys) :: cs) (a0 :: a1 :: a2 :: a3 :: a4 :: a5 :: a6 :: a7 :: a8 :: some (vL z) :: ls) st h) = (run1 CR Q K cs (a0 :: a1 :: a2 :: a3 :: a4 :: a5 :: a6 :: a7 :: a8 :: some (vL z) :: ls) (vL z :: st) h) := rfl
theorem rl_67 (p : Nat) (cs : List AE) (h : AH) (ls : LcT) (st : List AV) (a0 a1 a2 a3 a4 a5 a6 a7 a8 : Option AV) (z : Nat) (ys : List Int) : (run1 CR Q K ((p, 5, 9, ys) :: cs) (a0 :: a1 :: a2 :: a3 :: a4 :: a5 :: a6 :: a7 :: a8 :: some (vR z) :: ls) st h) = (run1 CR Q K cs (a0 :: a1 :: a2 :: a3 :: a4 :: a5 :: a6 :: a7 :: a8 :: some (vR z) :: ls) (vR z :: st) h) := rfl
theorem rl_68 (p : Nat) (cs : List AE) (h : AH) (ls : LcT) (st : List AV) (a0 a1 a2 a3 a4 a5 a6 a7 a8 : Option AV) (b : Option AV) (z : Int) (ys : List Int) : (run1 CR Q K ((p, 6, 9, ys) :: cs) (a0 :: a1 :: a2 :: a3 :: a4 :: a5 :: a6 :: a7 :: a8 :: b :: ls) (vI z :: st) h) = ((stK a8 = true ∧ run1 CR Q K cs (a0 :: a1 :: a2 :: a3 :: a4 :: a5 :: a6 :: a7 :: a8 :: some (vI z) :: ls) st h)) := by
  apply propext
  have e9 := stOK_eq (j := 8) (a := a8) (show ((a0 :: a1 :: a2 :: a3 :: a4 :: a5 :: a6 :: a7 :: a8 :: b :: ls) : LcT)[8]? = some a8 from rfl)
  constructor
  · intro q
    exact ⟨e9.symm.trans q.1.1, q.2⟩
  · intro q
    exact ⟨⟨e9.trans q.1, by show 9 < _; simp only [List.length_cons]; omega⟩, q.2⟩
theorem rl_69 (p : Nat) (cs : List AE) (h : AH) (ls : LcT) (st : List AV) (a0 a1 a2 a3 a4 a5 a6 a7 a8 : Option AV) (b : Option AV) (z : Nat) (ys : List Int) : (run1 CR Q K ((p, 8, 9, ys) :: cs) (a0 :: a1 :: a2 :: a3 :: a4 :: a5 :: a6 :: a7 :: a8 :: b :: ls) (vR z :: st) h) = ((stK a8 = true ∧ run1 CR Q K cs (a0 :: a1 :: a2 :: a3 :: a4 :: a5 :: a6 :: a7 :: a8 :: some (vR z) :: ls) st h)) := by
  apply propext
  have e9 := stOK_eq (j := 8) (a := a8) (show ((a0 :: a1 :: a2 :: a3 :: a4 :: a5 :: a6 :: a7 :: a8 :: b :: ls) : LcT)[8]? = some a8 from rfl)
  constructor
  · intro q
    exact ⟨e9.symm.trans q.1.1, q.2⟩
  · intro q
    exact ⟨⟨e9.trans q.1, by show 9 < _; simp only [List.length_cons]; omega⟩, q.2⟩
theorem rl_70 (p : Nat) (cs : List AE) (h : AH) (ls : LcT) (st : List AV) (a0 a1 a2 a3 a4 a5 a6 a7 a8 : Option AV) (b b2 : Option AV) (z : Int) (ys : List Int) : (run1 CR Q K ((p, 7, 9, ys) :: cs) (a0 :: a1 :: a2 :: a3 :: a4 :: a5 :: a6 :: a7 :: a8 :: b :: b2 :: ls) (vL z :: st) h) = ((stK a8 = true ∧ run1 CR Q K cs (a0 :: a1 :: a2 :: a3 :: a4 :: a5 :: a6 :: a7 :: a8 :: some (vL z) :: none :: ls) st h)) := by
  apply propext
  have e9 := stOK_eq (j := 8) (a := a8) (show ((a0 :: a1 :: a2 :: a3 :: a4 :: a5 :: a6 :: a7 :: a8 :: b :: b2 :: ls) : LcT)[8]? = some a8 from rfl)
  constructor
  · intro q
    exact ⟨e9.symm.trans q.1.1, q.2⟩
  · intro q
    exact ⟨⟨e9.trans q.1, by show 9 + 1 < _; simp only [List.length_cons]; omega⟩, q.2⟩
theorem rl_71 (p : Nat) (cs : List AE) (h : AH) (ls : LcT) (st : List AV) (a0 a1 a2 a3 a4 a5 a6 a7 a8 : Option AV) (z n : Int) : (run1 CR Q K ((p, 9, 9, [n]) :: cs) (a0 :: a1 :: a2 :: a3 :: a4 :: a5 :: a6 :: a7 :: a8 :: some (vI z) :: ls) st h) = (run1 CR Q K cs (a0 :: a1 :: a2 :: a3 :: a4 :: a5 :: a6 :: a7 :: a8 :: some (vI (w32 (z + n))) :: ls) st h) := rfl
theorem rl_72 (p : Nat) (cs : List AE) (h : AH) (ls : LcT) (st : List AV) (a0 a1 a2 a3 a4 a5 a6 a7 a8 a9 : Option AV) (z : Int) (ys : List Int) : (run1 CR Q K ((p, 3, 10, ys) :: cs) (a0 :: a1 :: a2 :: a3 :: a4 :: a5 :: a6 :: a7 :: a8 :: a9 :: some (vI z) :: ls) st h) = (run1 CR Q K cs (a0 :: a1 :: a2 :: a3 :: a4 :: a5 :: a6 :: a7 :: a8 :: a9 :: some (vI z) :: ls) (vI z :: st) h) := rfl
theorem rl_73 (p : Nat) (cs : List AE) (h : AH) (ls : LcT) (st : List AV) (a0 a1 a2 a3 a4 a5 a6 a7 a8 a9 : Option AV) (z : Int) (ys : List Int) : (run1 CR Q K ((p, 4, 10, ys) :: cs) (a0 :: a1 :: a2 :: a3 :: a4 :: a5 :: a6 :: a7 :: a8 :: a9 :: some (vL z) :: ls) st h) = (run1 CR Q K cs (a0 :: a1 :: a2 :: a3 :: a4 :: a5 :: a6 :: a7 :: a8 :: a9 :: some (vL z) :: ls) (vL z :: st) h) := rfl
theorem rl_74 (p : Nat) (cs : List AE) (h : AH) (ls : LcT) (st : List AV) (a0 a1 a2 a3 a4 a5 a6 a7 a8 a9 : Option AV) (z : Nat) (ys : List Int) : (run1 CR Q K ((p, 5, 10, ys) :: cs) (a0 :: a1 :: a2 :: a3 :: a4 :: a5 :: a6 :: a7 :: a8 :: a9 :: some (vR z) :: ls) st h) = (run1 CR Q K cs (a0 :: a1 :: a2 :: a3 :: a4 :: a5 :: a6 :: a7 :: a8 :: a9 :: some (vR z) :: ls) (vR z :: st) h) := rfl
theorem rl_75 (p : Nat) (cs : List AE) (h : AH) (ls : LcT) (st : List AV) (a0 a1 a2 a3 a4 a5 a6 a7 a8 a9 : Option AV) (b : Option AV) (z : Int) (ys : List Int) : (run1 CR Q K ((p, 6, 10, ys) :: cs) (a0 :: a1 :: a2 :: a3 :: a4 :: a5 :: a6 :: a7 :: a8 :: a9 :: b :: ls) (vI z :: st) h) = ((stK a9 = true ∧ run1 CR Q K cs (a0 :: a1 :: a2 :: a3 :: a4 :: a5 :: a6 :: a7 :: a8 :: a9 :: some (vI z) :: ls) st h)) := by
  apply propext
  have e9 := stOK_eq (j := 9) (a := a9) (show ((a0 :: a1 :: a2 :: a3 :: a4 :: a5 :: a6 :: a7 :: a8 :: a9 :: b :: ls) : LcT)[9]? = some a9 from rfl)
  constructor
  · intro q
    exact ⟨e9.symm.trans q.1.1, q.2⟩
  · intro q
    exact ⟨⟨e9.trans q.1, by show 10 < _; simp only [List.length_cons]; omega⟩, q.2⟩
theorem rl_76 (p : Nat) (cs : List AE) (h : AH) (ls : LcT) (st : List AV) (a0 a1 a2 a3 a4 a5 a6 a7 a8 a9 : Option AV) (b : Option AV) (z : Nat) (ys : List Int) : (run1 CR Q K ((p, 8, 10, ys) :: cs) (a0 :: a1 :: a2 :: a3 :: a4 :: a5 :: a6 :: a7 :: a8 :: a9 :: b :: ls) (vR z :: st) h) = ((stK a9 = true ∧ run1 CR Q K cs (a0 :: a1 :: a2 :: a3 :: a4 :: a5 :: a6 :: a7 :: a8 :: a9 :: some (vR z) :: ls) st h)) := by
  apply propext
  have e9 := stOK_eq (j := 9) (a := a9) (show ((a0 :: a1 :: a2 :: a3 :: a4 :: a5 :: a6 :: a7 :: a8 :: a9 :: b :: ls) : LcT)[9]? = some a9 from rfl)
  constructor
  · intro q
    exact ⟨e9.symm.trans q.1.1, q.2⟩
  · intro q
    exact ⟨⟨e9.trans q.1, by show 10 < _; simp only [List.length_cons]; omega⟩, q.2⟩
theorem rl_77 (p : Nat) (cs : List AE) (h : AH) (ls : LcT) (st : List AV) (a0 a1 a2 a3 a4 a5 a6 a7 a8 a9 : Option AV) (b b2 : Option AV) (z : Int) (ys : List Int) : (run1 CR Q K ((p, 7, 10, ys) :: cs) (a0 :: a1 :: a2 :: a3 :: a4 :: a5 :: a6 :: a7 :: a8 :: a9 :: b :: b2 :: ls) (vL z :: st) h) = ((stK a9 = true ∧ run1 CR Q K cs (a0 :: a1 :: a2 :: a3 :: a4 :: a5 :: a6 :: a7 :: a8 :: a9 :: some (vL z) :: none :: ls) st h)) := by
  apply propext
  have e9 := stOK_eq (j := 9) (a := a9) (show ((a0 :: a1 :: a2 :: a3 :: a4 :: a5 :: a6 :: a7 :: a8 :: a9 :: b :: b2 :: ls) : LcT)[9]? = some a9 from rfl)
  constructor
  · intro q
    exact ⟨e9.symm.trans q.1.1, q.2⟩
  · intro q
    exact ⟨⟨e9.trans q.1, by show 10 + 1 < _; simp only [List.length_cons]; omega⟩, q.2⟩
theorem rl_78 (p : Nat) (cs : List AE) (h : AH) (ls : LcT) (st : List AV) (a0 a1 a2 a3 a4 a5 a6 a7 a8 a9 : Option AV) (z n : Int) : (run1 CR Q K ((p, 9, 10, [n]) :: cs) (a0 :: a1 :: a2 :: a3 :: a4 :: a5 :: a6 :: a7 :: a8 :: a9 :: some (vI z) :: ls) st h) = (run1 CR Q K cs (a0 :: a1 :: a2 :: a3 :: a4 :: a5 :: a6 :: a7 :: a8 :: a9 :: some (vI (w32 (z + n))) :: ls) st h) := rfl
theorem rl_79 (p : Nat) (cs : List AE) (h : AH) (ls : LcT) (st : List AV) (a0 a1 a2 a3 a4 a5 a6 a7 a8 a9 a10 : Option AV) (z : Int) (ys : List Int) : (run1 CR Q K ((p, 3, 11, ys) :: cs) (a0 :: a1 :: a2 :: a3 :: a4 :: a5 :: a6 :: a7 :: a8 :: a9 :: a10 :: some (vI z) :: ls) st h) = (run1 CR Q K cs (a0 :: a1 :: a2 :: a3 :: a4 :: a5 :: a6 :: a7 :: a8 :: a9 :: a10 :: some (vI z) :: ls) (vI z :: st) h) := rfl
theorem rl_80 (p : Nat) (cs : List AE) (h : AH) (ls : LcT) (st : List AV) (a0 a1 a2 a3 a4 a5 a6 a7 a8 a9 a10 : Option AV) (z : Int) (ys : List Int) : (run1 CR Q K ((p, 4, 11, ys) :: cs) (a0 :: a1 :: a2 :: a3 :: a4 :: a5 :: a6 :: a7 :: a8 :: a9 :: a10 :: some (vL z) :: ls) st h) = (run1 CR Q K cs (a0 :: a1 :: a2 :: a3 :: a4 :: a5 :: a6 :: a7 :: a8 :: a9 :: a10 :: some (vL z) :: ls) (vL z :: st) h) := rfl
theorem rl_81 (p : Nat) (cs : List AE) (h : AH) (ls : LcT) (st : List AV) (a0 a1 a2 a3 a4 a5 a6 a7 a8 a9 a10 : Option AV) (z : Nat) (ys : List Int) : (run1 CR Q K ((p, 5, 11, ys) :: cs) (a0 :: a1 :: a2 :: a3 :: a4 :: a5 :: a6 :: a7 :: a8 :: a9 :: a10 :: some (vR z) :: ls) st h) = (run1 CR Q K cs (a0 :: a1 :: a2 :: a3 :: a4 :: a5 :: a6 :: a7 :: a8 :: a9 :: a10 :: some (vR z) :: ls) (vR z :: st) h) := rfl
theorem rl_82 (p : Nat) (cs : List AE) (h : AH) (ls : LcT) (st : List AV) (a0 a1 a2 a3 a4 a5 a6 a7 a8 a9 a10 : Option AV) (b : Option AV) (z : Int) (ys : List Int) : (run1 CR Q K ((p, 6, 11, ys) :: cs) (a0 :: a1 :: a2 :: a3 :: a4 :: a5 :: a6 :: a7 :: a8 :: a9 :: a10 :: b :: ls) (vI z :: st) h) = ((stK a10 = true ∧ run1 CR Q K cs (a0 :: a1 :: a2 :: a3 :: a4 :: a5 :: a6 :: a7 :: a8 :: a9 :: a10 :: some (vI z) :: ls) st h)) := by
  apply propext
  have e9 := stOK_eq (j := 10) (a := a10) (show ((a0 :: a1 :: a2 :: a3 :: a4 :: a5 :: a6 :: a7 :: a8 :: a9 :: a10 :: b :: ls) : LcT)[10]? = some a10 from rfl)
  constructor
  · intro q
    exact ⟨e9.symm.trans q.1.1, q.2⟩
  · intro q
    exact ⟨⟨e9.trans q.1, by show 11 < _; simp only [List.length_cons]; omega⟩, q.2⟩
theorem rl_83 (p : Nat) (cs : List AE) (h : AH) (ls : LcT) (st : List AV) (a0 a1 a2 a3 a4 a5 a6 a7 a8 a9 a10 : Option AV) (b : Option AV) (z : Nat) (ys : List Int) : (run1 CR Q K ((p, 8, 11, ys) :: cs) (a0 :: a1 :: a2 :: a3 :: a4 :: a5 :: a6 :: a7 :: a8 :: a9 :: a10 :: b :: ls) (vR z :: st) h) = ((stK a10 = true ∧ run1 CR Q K cs (a0 :: a1 :: a2 :: a3 :: a4 :: a5 :: a6 :: a7 :: a8 :: a9 :: a10 :: some (vR z) :: ls) st h)) := by
  apply propext
  have e9 := stOK_eq (j := 10) (a := a10) (show ((a0 :: a1 :: a2 :: a3 :: a4 :: a5 :: a6 :: a7 :: a8 :: a9 :: a10 :: b :: ls) : LcT)[10]? = some a10 from rfl)
  constructor
  · intro q
    exact ⟨e9.symm.trans q.1.1, q.2⟩
  · intro q
    exact ⟨⟨e9.trans q.1, by show 11 < _; simp only [List.length_cons]; omega⟩, q.2⟩
theorem rl_84 (p : Nat) (cs : List AE) (h : AH) (ls : LcT) (st : List AV) (a0 a1 a2 a3 a4 a5 a6 a7 a8 a9 a10 : Option AV) (b b2 : Option AV) (z : Int) (ys : List Int) : (run1 CR Q K ((p, 7, 11, ys) :: cs) (a0 :: a1 :: a2 :: a3 :: a4 :: a5 :: a6 :: a7 :: a8 :: a9 :: a10 :: b :: b2 :: ls) (vL z :: st) h) = ((stK a10 = true ∧ run1 CR Q K cs (a0 :: a1 :: a2 :: a3 :: a4 :: a5 :: a6 :: a7 :: a8 :: a9 :: a10 :: some (vL z) :: none :: ls) st h)) := by
  apply propext
  have e9 := stOK_eq (j := 10) (a := a10) (show ((a0 :: a1 :: a2 :: a3 :: a4 :: a5 :: a6 :: a7 :: a8 :: a9 :: a10 :: b :: b2 :: ls) : LcT)[10]? = some a10 from rfl)
  constructor
  · intro q
    exact ⟨e9.symm.trans q.1.1, q.2⟩
  · intro q
    exact ⟨⟨e9.trans q.1, by show 11 + 1 < _; simp only [List.length_cons]; omega⟩, q.2⟩
theorem rl_85 (p : Nat) (cs : List AE) (h : AH) (ls : LcT) (st : List AV) (a0 a1 a2 a3 a4 a5 a6 a7 a8 a9 a10 : Option AV) (z n : Int) : (run1 CR Q K ((p, 9, 11, [n]) :: cs) (a0 :: a1 :: a2 :: a3 :: a4 :: a5 :: a6 :: a7 :: a8 :: a9 :: a10 :: some (vI z) :: ls) st h) = (run1 CR Q K cs (a0 :: a1 :: a2 :: a3 :: a4 :: a5 :: a6 :: a7 :: a8 :: a9 :: a10 :: some (vI (w32 (z + n))) :: ls) st h) := rfl
theorem rl_86 (p : Nat) (cs : List AE) (h : AH) (ls : LcT) (st : List AV) (a0 a1 a2 a3 a4 a5 a6 a7 a8 a9 a10 a11 : Option AV) (z : Int) (ys : List Int) : (run1 CR Q K ((p, 3, 12, ys) :: cs) (a0 :: a1 :: a2 :: a3 :: a4 :: a5 :: a6 :: a7 :: a8 :: a9 :: a10 :: a11 :: some (vI z) :: ls) st h) = (run1 CR Q K cs (a0 :: a1 :: a2 :: a3 :: a4 :: a5 :: a6 :: a7 :: a8 :: a9 :: a10 :: a11 :: some (vI z) :: ls) (vI z :: st) h) := rfl
theorem rl_87 (p : Nat) (cs : List AE) (h : AH) (ls : LcT) (st : List AV) (a0 a1 a2 a3 a4 a5 a6 a7 a8 a9 a10 a11 : Option AV) (z : Int) (ys : List Int) : (run1 CR Q K ((p, 4, 12, ys) :: cs) (a0 :: a1 :: a2 :: a3 :: a4 :: a5 :: a6 :: a7 :: a8 :: a9 :: a10 :: a11 :: some (vL z) :: ls) st h) = (run1 CR Q K cs (a0 :: a1 :: a2 :: a3 :: a4 :: a5 :: a6 :: a7 :: a8 :: a9 :: a10 :: a11 :: some (vL z) :: ls) (vL z :: st) h) := rfl
theorem rl_88 (p : Nat) (cs : List AE) (h : AH) (ls : LcT) (st : List AV) (a0 a1 a2 a3 a4 a5 a6 a7 a8 a9 a10 a11 : Option AV) (z : Nat) (ys : List Int) : (run1 CR Q K ((p, 5, 12, ys) :: cs) (a0 :: a1 :: a2 :: a3 :: a4 :: a5 :: a6 :: a7 :: a8 :: a9 :: a10 :: a11 :: some (vR z) :: ls) st h) = (run1 CR Q K cs (a0 :: a1 :: a2 :: a3 :: a4 :: a5 :: a6 :: a7 :: a8 :: a9 :: a10 :: a11 :: some (vR z) :: ls) (vR z :: st) h) := rfl
theorem rl_89 (p : Nat) (cs : List AE) (h : AH) (ls : LcT) (st : List AV) (a0 a1 a2 a3 a4 a5 a6 a7 a8 a9 a10 a11 : Option AV) (b : Option AV) (z : Int) (ys : List Int) : (run1 CR Q K ((p, 6, 12, ys) :: cs) (a0 :: a1 :: a2 :: a3 :: a4 :: a5 :: a6 :: a7 :: a8 :: a9 :: a10 :: a11 :: b :: ls) (vI z :: st) h) = ((stK a11 = true ∧ run1 CR Q K cs (a0 :: a1 :: a2 :: a3 :: a4 :: a5 :: a6 :: a7 :: a8 :: a9 :: a10 :: a11 :: some (vI z) :: ls) st h)) := by
  apply propext
  have e9 := stOK_eq (j := 11) (a := a11) (show ((a0 :: a1 :: a2 :: a3 :: a4 :: a5 :: a6 :: a7 :: a8 :: a9 :: a10 :: a11 :: b :: ls) : LcT)[11]? = some a11 from rfl)
  constructor
  · intro q
    exact ⟨e9.symm.trans q.1.1, q.2⟩
  · intro q
    exact ⟨⟨e9.trans q.1, by show 12 < _; simp only [List.length_cons]; omega⟩, q.2⟩
theorem rl_90 (p : Nat) (cs : List AE) (h : AH) (ls : LcT) (st : List AV) (a0 a1 a2 a3 a4 a5 a6 a7 a8 a9 a10 a11 : Option AV) (b : Option AV) (z : Nat) (ys : List Int) : (run1 CR Q K ((p, 8, 12, ys) :: cs) (a0 :: a1 :: a2 :: a3 :: a4 :: a5 :: a6 :: a7 :: a8 :: a9 :: a10 :: a11 :: b :: ls) (vR z :: st) h) = ((stK a11 = true ∧ run1 CR Q K cs (a0 :: a1 :: a2 :: a3 :: a4 :: a5 :: a6 :: a7 :: a8 :: a9 :: a10 :: a11 :: some (vR z) :: ls) st h)) := by
  apply propext
  have e9 := stOK_eq (j := 11) (a := a11) (show ((a0 :: a1 :: a2 :: a3 :: a4 :: a5 :: a6 :: a7 :: a8 :: a9 :: a10 :: a11 :: b :: ls) : LcT)[11]? = some a11 from rfl)
  constructor
  · intro q
    exact ⟨e9.symm.trans q.1.1, q.2⟩
  · intro q
    exact ⟨⟨e9.trans q.1, by show 12 < _; simp only [List.length_cons]; omega⟩, q.2⟩
theorem rl_91 (p : Nat) (cs : List AE) (h : AH) (ls : LcT) (st : List AV) (a0 a1 a2 a3 a4 a5 a6 a7 a8 a9 a10 a11 : Option AV) (b b2 : Option AV) (z : Int) (ys : List Int) : (run1 CR Q K ((p, 7, 12, ys) :: cs) (a0 :: a1 :: a2 :: a3 :: a4 :: a5 :: a6 :: a7 :: a8 :: a9 :: a10 :: a11 :: b :: b2 :: ls) (vL z :: st) h) = ((stK a11 = true ∧ run1 CR Q K cs (a0 :: a1 :: a2 :: a3 :: a4 :: a5 :: a6 :: a7 :: a8 :: a9 :: a10 :: a11 :: some (vL z) :: none :: ls) st h)) := by
  apply propext
  have e9 := stOK_eq (j := 11) (a := a11) (show ((a0 :: a1 :: a2 :: a3 :: a4 :: a5 :: a6 :: a7 :: a8 :: a9 :: a10 :: a11 :: b :: b2 :: ls) : LcT)[11]? = some a11 from rfl)
  constructor
  · intro q
    exact ⟨e9.symm.trans q.1.1, q.2⟩
  · intro q
    exact ⟨⟨e9.trans q.1, by show 12 + 1 < _; simp only [List.length_cons]; omega⟩, q.2⟩
theorem rl_92 (p : Nat) (cs : List AE) (h : AH) (ls : LcT) (st : List AV) (a0 a1 a2 a3 a4 a5 a6 a7 a8 a9 a10 a11 : Option AV) (z n : Int) : (run1 CR Q K ((p, 9, 12, [n]) :: cs) (a0 :: a1 :: a2 :: a3 :: a4 :: a5 :: a6 :: a7 :: a8 :: a9 :: a10 :: a11 :: some (vI z) :: ls) st h) = (run1 CR Q K cs (a0 :: a1 :: a2 :: a3 :: a4 :: a5 :: a6 :: a7 :: a8 :: a9 :: a10 :: a11 :: some (vI (w32 (z + n))) :: ls) st h) := rfl
theorem rl_93 (p : Nat) (cs : List AE) (h : AH) (ls : LcT) (st : List AV) (a0 a1 a2 a3 a4 a5 a6 a7 a8 a9 a10 a11 a12 : Option AV) (z : Int) (ys : List Int) : (run1 CR Q K ((p, 3, 13, ys) :: cs) (a0 :: a1 :: a2 :: a3 :: a4 :: a5 :: a6 :: a7 :: a8 :: a9 :: a10 :: a11 :: a12 :: some (vI z) :: ls) st h) = (run1 CR Q K cs (a0 :: a1 :: a2 :: a3 :: a4 :: a5 :: a6 :: a7 :: a8 :: a9 :: a10 :: a11 :: a12 :: some (vI z) :: ls) (vI z :: st) h) := rfl
theorem rl_94 (p : Nat) (cs : List AE) (h : AH) (ls : LcT) (st : List AV) (a0 a1 a2 a3 a4 a5 a6 a7 a8 a9 a10 a11 a12 : Option AV) (z : Int) (ys : List Int) : (run1 CR Q K ((p, 4, 13, ys) :: cs) (a0 :: a1 :: a2 :: a3 :: a4 :: a5 :: a6 :: a7 :: a8 :: a9 :: a10 :: a11 :: a12 :: some (vL z) :: ls) st h) = (run1 CR Q K cs (a0 :: a1 :: a2 :: a3 :: a4 :: a5 :: a6 :: a7 :: a8 :: a9 :: a10 :: a11 :: a12 :: some (vL z) :: ls) (vL z :: st) h) := rfl
theorem rl_95 (p : Nat) (cs : List AE) (h : AH) (ls : LcT) (st : List AV) (a0 a1 a2 a3 a4 a5 a6 a7 a8 a9 a10 a11 a12 : Option AV) (z : Nat) (ys : List Int) : (run1 CR Q K ((p, 5, 13, ys) :: cs) (a0 :: a1 :: a2 :: a3 :: a4 :: a5 :: a6 :: a7 :: a8 :: a9 :: a10 :: a11 :: a12 :: some (vR z) :: ls) st h) = (run1 CR Q K cs (a0 :: a1 :: a2 :: a3 :: a4 :: a5 :: a6 :: a7 :: a8 :: a9 :: a10 :: a11 :: a12 :: some (vR z) :: ls) (vR z :: st) h) := rfl
theorem rl_96 (p : Nat) (cs : List AE) (h : AH) (ls : LcT) (st : List AV) (a0 a1 a2 a3 a4 a5 a6 a7 a8 a9 a10 a11 a12 : Option AV) (b : Option AV) (z : Int) (ys : List Int) : (run1 CR Q K ((p, 6, 13, ys) :: cs) (a0 :: a1 :: a2 :: a3 :: a4 :: a5 :: a6 :: a7 :: a8 :: a9 :: a10 :: a11 :: a12 :: b :: ls) (vI z :: st) h) = ((stK a12 = true ∧ run1 CR Q K cs (a0 :: a1 :: a2 :: a3 :: a4 :: a5 :: a6 :: a7 :: a8 :: a9 :: a10 :: a11 :: a12 :: some (vI z) :: ls) st h)) := by
  apply propext
  have e9 := stOK_eq (j := 12) (a := a12) (show ((a0 :: a1 :: a2 :: a3 :: a4 :: a5 :: a6 :: a7 :: a8 :: a9 :: a10 :: a11 :: a12 :: b :: ls) : LcT)[12]? = some a12 from rfl)
  constructor
  · intro q
    exact ⟨e9.symm.trans q.1.1, q.2⟩
  · intro q
    exact ⟨⟨e9.trans q.1, by show 13 < _; simp only [List.length_cons]; omega⟩, q.2⟩
theorem rl_97 (p : Nat) (cs : List AE) (h : AH) (ls : LcT) (st : List AV) (a0 a1 a2 a3 a4 a5 a6 a7 a8 a9 a10 a11 a12 : Option AV) (b : Option AV) (z : Nat) (ys : List Int) : (run1 CR Q K ((p, 8, 13, ys) :: cs) (a0 :: a1 :: a2 :: a3 :: a4 :: a5 :: a6 :: a7 :: a8 :: a9 :: a10 :: a11 :: a12 :: b :: ls) (vR z :: st) h) = ((stK a12 = true ∧ run1 CR Q K cs (a0 :: a1 :: a2 :: a3 :: a4 :: a5 :: a6 :: a7 :: a8 :: a9 :: a10 :: a11 :: a12 :: some (vR z) :: ls) st h)) := by
  apply propext
  have e9 := stOK_eq (j := 12) (a := a12) (show ((a0 :: a1 :: a2 :: a3 :: a4 :: a5 :: a6 :: a7 :: a8 :: a9 :: a10 :: a11 :: a12 :: b :: ls) : LcT)[12]? = some a12 from rfl)
  constructor
  · intro q
    exact ⟨e9.symm.trans q.1.1, q.2⟩
  · intro q
    exact ⟨⟨e9.trans q.1, by show 13 < _; simp only [List.length_cons]; omega⟩, q.2⟩
theorem rl_98 (p : Nat) (cs : List AE) (h : AH) (ls : LcT) (st : List AV) (a0 a1 a2 a3 a4 a5 a6 a7 a8 a9 a10 a11 a12 : Option AV) (b b2 : Option AV) (z : Int) (ys : List Int) : (run1 CR Q K ((p, 7, 13, ys) :: cs) (a0 :: a1 :: a2 :: a3 :: a4 :: a5 :: a6 :: a7 :: a8 :: a9 :: a10 :: a11 :: a12 :: b :: b2 :: ls) (vL z :: st) h) = ((stK a12 = true ∧ run1 CR Q K cs (a0 :: a1 :: a2 :: a3 :: a4 :: a5 :: a6 :: a7 :: a8 :: a9 :: a10 :: a11 :: a12 :: some (vL z) :: none :: ls) st h)) := by
  apply propext
  have e9 := stOK_eq (j := 12) (a := a12) (show ((a0 :: a1 :: a2 :: a3 :: a4 :: a5 :: a6 :: a7 :: a8 :: a9 :: a10 :: a11 :: a12 :: b :: b2 :: ls) : LcT)[12]? = some a12 from rfl)
  constructor
  · intro q
    exact ⟨e9.symm.trans q.1.1, q.2⟩
  · intro q
    exact ⟨⟨e9.trans q.1, by show 13 + 1 < _; simp only [List.length_cons]; omega⟩, q.2⟩
theorem rl_99 (p : Nat) (cs : List AE) (h : AH) (ls : LcT) (st : List AV) (a0 a1 a2 a3 a4 a5 a6 a7 a8 a9 a10 a11 a12 : Option AV) (z n : Int) : (run1 CR Q K ((p, 9, 13, [n]) :: cs) (a0 :: a1 :: a2 :: a3 :: a4 :: a5 :: a6 :: a7 :: a8 :: a9 :: a10 :: a11 :: a12 :: some (vI z) :: ls) st h) = (run1 CR Q K cs (a0 :: a1 :: a2 :: a3 :: a4 :: a5 :: a6 :: a7 :: a8 :: a9 :: a10 :: a11 :: a12 :: some (vI (w32 (z + n))) :: ls) st h) := rfl
theorem rl_100 (p : Nat) (cs : List AE) (h : AH) (ls : LcT) (st : List AV) (a b x : Int) (ys : List Int) : (run1 CR Q K ((p, 10, x, ys) :: cs) ls (vI b :: vI a :: st) h) = (run1 CR Q K cs ls (vI (w32 (a + b)) :: st) h) := rfl
theorem rl_101 (p : Nat) (cs : List AE) (h : AH) (ls : LcT) (st : List AV) (a b x : Int) (ys : List Int) : (run1 CR Q K ((p, 11, x, ys) :: cs) ls (vI b :: vI a :: st) h) = (run1 CR Q K cs ls (vI (w32 (a - b)) :: st) h) := rfl
theorem rl_102 (p : Nat) (cs : List AE) (h : AH) (ls : LcT) (st : List AV) (a b x : Int) (ys : List Int) : (run1 CR Q K ((p, 12, x, ys) :: cs) ls (vI b :: vI a :: st) h) = (run1 CR Q K cs ls (vI (w32 (a * b)) :: st) h) := rfl
theorem rl_103 (p : Nat) (cs : List AE) (h : AH) (ls : LcT) (st : List AV) (a b x : Int) (ys : List Int) : (run1 CR Q K ((p, 15, x, ys) :: cs) ls (vI b :: vI a :: st) h) = (run1 CR Q K cs ls (vI (and32 a b) :: st) h) := rfl
theorem rl_104 (p : Nat) (cs : List AE) (h : AH) (ls : LcT) (st : List AV) (a b x : Int) (ys : List Int) : (run1 CR Q K ((p, 16, x, ys) :: cs) ls (vI b :: vI a :: st) h) = (run1 CR Q K cs ls (vI (or32 a b) :: st) h) := rfl
theorem rl_105 (p : Nat) (cs : List AE) (h : AH) (ls : LcT) (st : List AV) (a b x : Int) (ys : List Int) : (run1 CR Q K ((p, 17, x, ys) :: cs) ls (vI b :: vI a :: st) h) = (run1 CR Q K cs ls (vI (xor32 a b) :: st) h) := rfl
theorem rl_106 (p : Nat) (cs : List AE) (h : AH) (ls : LcT) (st : List AV) (a b x : Int) (ys : List Int) : (run1 CR Q K ((p, 18, x, ys) :: cs) ls (vI b :: vI a :: st) h) = (run1 CR Q K cs ls (vI (shl32 a b) :: st) h) := rfl
theorem rl_107 (p : Nat) (cs : List AE) (h : AH) (ls : LcT) (st : List AV) (a b x : Int) (ys : List Int) : (run1 CR Q K ((p, 19, x, ys) :: cs) ls (vI b :: vI a :: st) h) = (run1 CR Q K cs ls (vI (shr32 a b) :: st) h) := rfl
theorem rl_108 (p : Nat) (cs : List AE) (h : AH) (ls : LcT) (st : List AV) (a b x : Int) (ys : List Int) : (run1 CR Q K ((p, 20, x, ys) :: cs) ls (vI b :: vI a :: st) h) = (run1 CR Q K cs ls (vI (ushr32 a b) :: st) h) := rfl
theorem rl_109 (p : Nat) (cs : List AE) (h : AH) (ls : LcT) (st : List AV) (a b x : Int) (ys : List Int) : (run1 CR Q K ((p, 13, x, ys) :: cs) ls (vI b :: vI a :: st) h) = ((b ≠ 0 ∧ run1 CR Q K cs ls (vI (d32 a b) :: st) h)) := rfl
theorem rl_110 (p : Nat) (cs : List AE) (h : AH) (ls : LcT) (st : List AV) (a b x : Int) (ys : List Int) : (run1 CR Q K ((p, 14, x, ys) :: cs) ls (vI b :: vI a :: st) h) = ((b ≠ 0 ∧ run1 CR Q K cs ls (vI (m32 a b) :: st) h)) := rfl
theorem rl_111 (p : Nat) (cs : List AE) (h : AH) (ls : LcT) (st : List AV) (a b x : Int) (ys : List Int) : (run1 CR Q K ((p, 21, x, ys) :: cs) ls (vL b :: vL a :: st) h) = (run1 CR Q K cs ls (vL (w64 (a + b)) :: st) h) := rfl
theorem rl_112 (p : Nat) (cs : List AE) (h : AH) (ls : LcT) (st : List AV) (a b x : Int) (ys : List Int) : (run1 CR Q K ((p, 22, x, ys) :: cs) ls (vL b :: vL a :: st) h) = (run1 CR Q K cs ls (vL (w64 (a - b)) :: st) h) := rfl
theorem rl_113 (p : Nat) (cs : List AE) (h : AH) (ls : LcT) (st : List AV) (a b x : Int) (ys : List Int) : (run1 CR Q K ((p, 23, x, ys) :: cs) ls (vL b :: vL a :: st) h) = (run1 CR Q K cs ls (vL (w64 (a * b)) :: st) h) := rfl
theorem rl_114 (p : Nat) (cs : List AE) (h : AH) (ls : LcT) (st : List AV) (a b x : Int) (ys : List Int) : (run1 CR Q K ((p, 24, x, ys) :: cs) ls (vL b :: vL a :: st) h) = (run1 CR Q K cs ls (vL (and64 a b) :: st) h) := rfl
theorem rl_115 (p : Nat) (cs : List AE) (h : AH) (ls : LcT) (st : List AV) (a b x : Int) (ys : List Int) : (run1 CR Q K ((p, 27, x, ys) :: cs) ls (vL b :: vL a :: st) h) = (run1 CR Q K cs ls (vI (cmp64 a b) :: st) h) := rfl
theorem rl_116 (p : Nat) (cs : List AE) (h : AH) (ls : LcT) (st : List AV) (a b x : Int) (ys : List Int) : (run1 CR Q K ((p, 25, x, ys) :: cs) ls (vI b :: vL a :: st) h) = (run1 CR Q K cs ls (vL (shr64 a b) :: st) h) := rfl
theorem rl_117 (p : Nat) (cs : List AE) (h : AH) (ls : LcT) (st : List AV) (a b x : Int) (ys : List Int) : (run1 CR Q K ((p, 26, x, ys) :: cs) ls (vI b :: vL a :: st) h) = (run1 CR Q K cs ls (vL (ushr64 a b) :: st) h) := rfl
theorem rl_118 (p : Nat) (cs : List AE) (h : AH) (ls : LcT) (st : List AV) (a x : Int) (ys : List Int) : (run1 CR Q K ((p, 28, x, ys) :: cs) ls (vI a :: st) h) = (run1 CR Q K cs ls (vL a :: st) h) := rfl
theorem rl_119 (p : Nat) (cs : List AE) (h : AH) (ls : LcT) (st : List AV) (a x : Int) (ys : List Int) : (run1 CR Q K ((p, 29, x, ys) :: cs) ls (vL a :: st) h) = (run1 CR Q K cs ls (vI (l2i32 a) :: st) h) := rfl
theorem rl_120 (p : Nat) (cs : List AE) (h : AH) (ls : LcT) (st : List AV) (a x : Int) (ys : List Int) : (run1 CR Q K ((p, 30, x, ys) :: cs) ls (vI a :: st) h) = (run1 CR Q K cs ls (vI (w8 a) :: st) h) := rfl
theorem rl_121 (p : Nat) (cs : List AE) (h : AH) (ls : LcT) (st : List AV) (a x : Int) (ys : List Int) : (run1 CR Q K ((p, 31, x, ys) :: cs) ls (vI a :: st) h) = (run1 CR Q K cs ls (vI (w16 a) :: st) h) := rfl
theorem rl_122 (p : Nat) (cs : List AE) (h : AH) (ls : LcT) (st : List AV) (a x : Int) (ys : List Int) : (run1 CR Q K ((p, 32, x, ys) :: cs) ls (vI a :: st) h) = (run1 CR Q K cs ls (vI a :: vI a :: st) h) := rfl
theorem rl_123 (p : Nat) (cs : List AE) (h : AH) (ls : LcT) (st : List AV) (a : Nat) (x : Int) (ys : List Int) : (run1 CR Q K ((p, 32, x, ys) :: cs) ls (vR a :: st) h) = (run1 CR Q K cs ls (vR a :: vR a :: st) h) := rfl
theorem rl_124 (p : Nat) (cs : List AE) (h : AH) (ls : LcT) (st : List AV) (a x : Int) (b : Nat) (ys : List Int) : (run1 CR Q K ((p, 33, x, ys) :: cs) ls (vI a :: vR b :: st) h) = (run1 CR Q K cs ls (vI a :: vR b :: vI a :: vR b :: st) h) := rfl
theorem rl_125 (p : Nat) (cs : List AE) (h : AH) (ls : LcT) (st : List AV) (x : Int) (ys : List Int) : (run1 CR Q K ((p, 36, x, ys) :: cs) ls st h) = (K x.toNat ls st h) := rfl
theorem rl_126 (p : Nat) (cs : List AE) (h : AH) (ls : LcT) (st : List AV) (a x lo : Int) (ys : List Int) : (run1 CR Q K ((p, 37, x, (lo :: ys)) :: cs) ls (vI a :: st) h) = ((((a < lo ∨ lo + (ys.length : Nat) ≤ a) → K x.toNat ls st h) ∧ swT (fun t => K t.toNat ls st h) a lo ys)) := rfl
theorem rl_127 (p : Nat) (cs : List AE) (h : AH) (ls : LcT) (st : List AV) (a x : Int) (ys : List Int) : (run1 CR Q K ((p, 38, x, ys) :: cs) ls (vI a :: st) h) = (lkT (fun t => K t.toNat ls st h) a x ys) := rfl
theorem rl_128 (p : Nat) (cs : List AE) (h : AH) (ls : LcT) (st : List AV) (k : Nat) (x y : Int) : (run1 CR Q K ((p, 39, x, [y]) :: cs) ls (vR k :: st) h) = ((((sh k).1 = 0 ∧ (sh k).2.1 = x.toNat) ∧ run1 CR Q K cs ls (fv h k y.toNat ((sh k).2.2.getD y.toNat 0) :: st) h)) := rfl
theorem rl_129 (p : Nat) (cs : List AE) (h : AH) (ls : LcT) (st : List AV) (k : Nat) (z x y : Int) : (run1 CR Q K ((p, 40, x, [y]) :: cs) ls (vI z :: vR k :: st) h) = ((((sh k).1 = 0 ∧ (sh k).2.1 = x.toNat) ∧ pfI ((sh k).2.2.getD y.toNat 9) z (run1 CR Q K cs ls st (hu h k y.toNat z)))) := by
  show (_ ∧ (match (sh k).2.2.getD y.toNat 9, (Sum.inl z : AV) with | 0, .inl z => run1 CR Q K cs ls st (hu h k y.toNat z) | 1, .inr (.inl z) => run1 CR Q K cs ls st (hu h k y.toNat z) | 2, .inl z => (z = 0 ∨ z = 1) ∧ run1 CR Q K cs ls st (hu h k y.toNat z) | _, _ => False)) = _
  unfold pfI
  generalize (sh k).2.2.getD y.toNat 9 = c
  match c with
  | 0 => rfl
  | 1 => rfl
  | 2 => rfl
  | n + 3 => rfl
theorem rl_130 (p : Nat) (cs : List AE) (h : AH) (ls : LcT) (st : List AV) (k : Nat) (z x y : Int) : (run1 CR Q K ((p, 40, x, [y]) :: cs) ls (vL z :: vR k :: st) h) = ((((sh k).1 = 0 ∧ (sh k).2.1 = x.toNat) ∧ ((sh k).2.2.getD y.toNat 9 = 1 ∧ run1 CR Q K cs ls st (hu h k y.toNat z)))) := by
  show (_ ∧ (match (sh k).2.2.getD y.toNat 9, (Sum.inr (Sum.inl z) : AV) with | 0, .inl z => run1 CR Q K cs ls st (hu h k y.toNat z) | 1, .inr (.inl z) => run1 CR Q K cs ls st (hu h k y.toNat z) | 2, .inl z => (z = 0 ∨ z = 1) ∧ run1 CR Q K cs ls st (hu h k y.toNat z) | _, _ => False)) = _
  generalize (sh k).2.2.getD y.toNat 9 = c
  match c with
  | 0 => simp
  | 1 => simp
  | 2 => simp
  | n + 3 => simp
theorem rl_131 (p : Nat) (cs : List AE) (h : AH) (ls : LcT) (st : List AV) (k : Nat) (j x : Int) (ys : List Int) : (run1 CR Q K ((p, 41, x, ys) :: cs) ls (vI j :: vR k :: st) h) = ((((sh k).1 = 1 ∧ (0 ≤ j ∧ j < (sh k).2.1) ∧ run1 CR Q K cs ls (vI (h k j.toNat) :: st) h) ∨ ((sh k).1 = 7 ∧ (0 ≤ j ∧ j < 6) ∧ k = 2000 ∧ run1 CR Q K cs ls (vI (aboveF j.toNat) :: st) h))) := rfl
theorem rl_132 (p : Nat) (cs : List AE) (h : AH) (ls : LcT) (st : List AV) (k : Nat) (j x : Int) (ys : List Int) : (run1 CR Q K ((p, 43, x, ys) :: cs) ls (vI j :: vR k :: st) h) = (((sh k).1 = 2 ∧ (0 ≤ j ∧ j < (sh k).2.1) ∧ run1 CR Q K cs ls (vI (h k j.toNat) :: st) h)) := rfl
theorem rl_133 (p : Nat) (cs : List AE) (h : AH) (ls : LcT) (st : List AV) (k : Nat) (j x : Int) (ys : List Int) : (run1 CR Q K ((p, 45, x, ys) :: cs) ls (vI j :: vR k :: st) h) = (((sh k).1 = 3 ∧ (0 ≤ j ∧ j < (sh k).2.1) ∧ run1 CR Q K cs ls (vL (h k j.toNat) :: st) h)) := rfl
theorem rl_134 (p : Nat) (cs : List AE) (h : AH) (ls : LcT) (st : List AV) (k : Nat) (z j x : Int) (ys : List Int) : (run1 CR Q K ((p, 42, x, ys) :: cs) ls (vI z :: vI j :: vR k :: st) h) = (((sh k).1 = 1 ∧ (0 ≤ j ∧ j < (sh k).2.1) ∧ run1 CR Q K cs ls st (hu h k j.toNat z))) := rfl
theorem rl_135 (p : Nat) (cs : List AE) (h : AH) (ls : LcT) (st : List AV) (k : Nat) (z j x : Int) (ys : List Int) : (run1 CR Q K ((p, 44, x, ys) :: cs) ls (vI z :: vI j :: vR k :: st) h) = (((sh k).1 = 2 ∧ (0 ≤ j ∧ j < (sh k).2.1) ∧ run1 CR Q K cs ls st (hu h k j.toNat (w8 z)))) := rfl
theorem rl_136 (p : Nat) (cs : List AE) (h : AH) (ls : LcT) (st : List AV) (k : Nat) (z j x : Int) (ys : List Int) : (run1 CR Q K ((p, 46, x, ys) :: cs) ls (vL z :: vI j :: vR k :: st) h) = (((sh k).1 = 3 ∧ (0 ≤ j ∧ j < (sh k).2.1) ∧ run1 CR Q K cs ls st (hu h k j.toNat z))) := rfl
theorem rl_137 (p : Nat) (cs : List AE) (h : AH) (ls : LcT) (st : List AV) (k : Nat) (j x : Int) (ys : List Int) : (run1 CR Q K ((p, 47, x, ys) :: cs) ls (vI j :: vR k :: st) h) = (((4 ≤ (sh k).1 ∧ (sh k).1 ≤ 6) ∧ (0 ≤ j ∧ j < (sh k).2.1) ∧ run1 CR Q K cs ls (vR ((sh k).2.2.getD 0 0 + (sh k).2.2.getD 1 0 * j.toNat) :: st) h)) := rfl
theorem rl_138 (p : Nat) (cs : List AE) (h : AH) (ls : LcT) (st : List AV) (x : Int) : (run1 CR Q K ((p, 48, x, [0]) :: cs) ls (st) h) = ((st.length ≤ 4 ∧ ∃ P, CR x.toNat [] h P ∧ ∀ r h', P r h' → run1 CR Q K cs ls (r.toList ++ st) h')) := by
  apply propext
  constructor
  · intro q
    obtain ⟨⟨q1, q2⟩, q3⟩ := q
    refine ⟨?_, q3⟩
    replace q1 := (show _ ≤ 4 + 0 from q1)
    replace q2 := (show 0 ≤ _ from q2)
    try simp only [List.length_cons] at q1
    omega
  · intro q
    refine ⟨⟨?_, ?_⟩, q.2⟩
    · show _ ≤ 4 + 0
      try simp only [List.length_cons]
      have := q.1
      omega
    · show 0 ≤ _
      try simp only [List.length_cons]
      omega
theorem rl_139 (p : Nat) (cs : List AE) (h : AH) (ls : LcT) (st : List AV) (k : Nat) (x y : Int) : (run1 CR Q K ((p, 49, x, [0, y]) :: cs) ls (vR k :: st) h) = ((st.length ≤ 4 ∧ ((sh k).1 = 0 ∧ (sh k).2.1 = y.toNat) ∧ ∃ P, CR x.toNat (vR k :: []) h P ∧ ∀ r h', P r h' → run1 CR Q K cs ls (r.toList ++ st) h')) := by
  apply propext
  constructor
  · intro q
    obtain ⟨⟨q1, q2⟩, q3⟩ := q
    refine ⟨?_, q3⟩
    replace q1 := (show _ ≤ 5 + 0 from q1)
    try simp only [List.length_cons] at q1
    omega
  · intro q
    refine ⟨⟨?_, ?_⟩, q.2⟩
    · show _ ≤ 5 + 0
      try simp only [List.length_cons]
      have := q.1
      omega
    · show 0 + 1 ≤ _
      try simp only [List.length_cons]
      omega
theorem rl_140 (p : Nat) (cs : List AE) (h : AH) (ls : LcT) (st : List AV) (k : Nat) (x : Int) : (run1 CR Q K ((p, 50, x, [0]) :: cs) ls (vR k :: st) h) = ((st.length ≤ 4 ∧ (1000 ≤ k ∧ k < 1012) ∧ ∃ P, CR x.toNat (vR k :: []) h P ∧ ∀ r h', P r h' → run1 CR Q K cs ls (r.toList ++ st) h')) := by
  apply propext
  constructor
  · intro q
    obtain ⟨⟨q1, q2⟩, q3⟩ := q
    refine ⟨?_, q3⟩
    replace q1 := (show _ ≤ 5 + 0 from q1)
    try simp only [List.length_cons] at q1
    omega
  · intro q
    refine ⟨⟨?_, ?_⟩, q.2⟩
    · show _ ≤ 5 + 0
      try simp only [List.length_cons]
      have := q.1
      omega
    · show 0 + 1 ≤ _
      try simp only [List.length_cons]
      omega
theorem rl_141 (p : Nat) (cs : List AE) (h : AH) (ls : LcT) (st : List AV) (b0 : AV) (x : Int) : (run1 CR Q K ((p, 48, x, [1]) :: cs) ls (b0 :: st) h) = ((st.length ≤ 4 ∧ ∃ P, CR x.toNat [b0] h P ∧ ∀ r h', P r h' → run1 CR Q K cs ls (r.toList ++ st) h')) := by
  apply propext
  constructor
  · intro q
    obtain ⟨⟨q1, q2⟩, q3⟩ := q
    refine ⟨?_, q3⟩
    replace q1 := (show _ ≤ 4 + 1 from q1)
    replace q2 := (show 1 ≤ _ from q2)
    try simp only [List.length_cons] at q1
    omega
  · intro q
    refine ⟨⟨?_, ?_⟩, q.2⟩
    · show _ ≤ 4 + 1
      try simp only [List.length_cons]
      have := q.1
      omega
    · show 1 ≤ _
      try simp only [List.length_cons]
      omega
theorem rl_142 (p : Nat) (cs : List AE) (h : AH) (ls : LcT) (st : List AV) (b0 : AV) (k : Nat) (x y : Int) : (run1 CR Q K ((p, 49, x, [1, y]) :: cs) ls (b0 :: vR k :: st) h) = ((st.length ≤ 4 ∧ ((sh k).1 = 0 ∧ (sh k).2.1 = y.toNat) ∧ ∃ P, CR x.toNat (vR k :: [b0]) h P ∧ ∀ r h', P r h' → run1 CR Q K cs ls (r.toList ++ st) h')) := by
  apply propext
  constructor
  · intro q
    obtain ⟨⟨q1, q2⟩, q3⟩ := q
    refine ⟨?_, q3⟩
    replace q1 := (show _ ≤ 5 + 1 from q1)
    try simp only [List.length_cons] at q1
    omega
  · intro q
    refine ⟨⟨?_, ?_⟩, q.2⟩
    · show _ ≤ 5 + 1
      try simp only [List.length_cons]
      have := q.1
      omega
    · show 1 + 1 ≤ _
      try simp only [List.length_cons]
      omega
theorem rl_143 (p : Nat) (cs : List AE) (h : AH) (ls : LcT) (st : List AV) (b0 : AV) (k : Nat) (x : Int) : (run1 CR Q K ((p, 50, x, [1]) :: cs) ls (b0 :: vR k :: st) h) = ((st.length ≤ 4 ∧ (1000 ≤ k ∧ k < 1012) ∧ ∃ P, CR x.toNat (vR k :: [b0]) h P ∧ ∀ r h', P r h' → run1 CR Q K cs ls (r.toList ++ st) h')) := by
  apply propext
  constructor
  · intro q
    obtain ⟨⟨q1, q2⟩, q3⟩ := q
    refine ⟨?_, q3⟩
    replace q1 := (show _ ≤ 5 + 1 from q1)
    try simp only [List.length_cons] at q1
    omega
  · intro q
    refine ⟨⟨?_, ?_⟩, q.2⟩
    · show _ ≤ 5 + 1
      try simp only [List.length_cons]
      have := q.1
      omega
    · show 1 + 1 ≤ _
      try simp only [List.length_cons]
      omega
theorem rl_144 (p : Nat) (cs : List AE) (h : AH) (ls : LcT) (st : List AV) (b0 b1 : AV) (x : Int) : (run1 CR Q K ((p, 48, x, [2]) :: cs) ls (b1 :: b0 :: st) h) = ((st.length ≤ 4 ∧ ∃ P, CR x.toNat [b0, b1] h P ∧ ∀ r h', P r h' → run1 CR Q K cs ls (r.toList ++ st) h')) := by
  apply propext
  constructor
  · intro q
    obtain ⟨⟨q1, q2⟩, q3⟩ := q
    refine ⟨?_, q3⟩
    replace q1 := (show _ ≤ 4 + 2 from q1)
    replace q2 := (show 2 ≤ _ from q2)
    try simp only [List.length_cons] at q1
    omega
  · intro q
    refine ⟨⟨?_, ?_⟩, q.2⟩
    · show _ ≤ 4 + 2
      try simp only [List.length_cons]
      have := q.1
      omega
    · show 2 ≤ _
      try simp only [List.length_cons]
      omega
theorem rl_145 (p : Nat) (cs : List AE) (h : AH) (ls : LcT) (st : List AV) (b0 b1 : AV) (k : Nat) (x y : Int) : (run1 CR Q K ((p, 49, x, [2, y]) :: cs) ls (b1 :: b0 :: vR k :: st) h) = ((st.length ≤ 4 ∧ ((sh k).1 = 0 ∧ (sh k).2.1 = y.toNat) ∧ ∃ P, CR x.toNat (vR k :: [b0, b1]) h P ∧ ∀ r h', P r h' → run1 CR Q K cs ls (r.toList ++ st) h')) := by
  apply propext
  constructor
  · intro q
    obtain ⟨⟨q1, q2⟩, q3⟩ := q
    refine ⟨?_, q3⟩
    replace q1 := (show _ ≤ 5 + 2 from q1)
    try simp only [List.length_cons] at q1
    omega
  · intro q
    refine ⟨⟨?_, ?_⟩, q.2⟩
    · show _ ≤ 5 + 2
      try simp only [List.length_cons]
      have := q.1
      omega
    · show 2 + 1 ≤ _
      try simp only [List.length_cons]
      omega
theorem rl_146 (p : Nat) (cs : List AE) (h : AH) (ls : LcT) (st : List AV) (b0 b1 b2 : AV) (x : Int) : (run1 CR Q K ((p, 48, x, [3]) :: cs) ls (b2 :: b1 :: b0 :: st) h) = ((st.length ≤ 4 ∧ ∃ P, CR x.toNat [b0, b1, b2] h P ∧ ∀ r h', P r h' → run1 CR Q K cs ls (r.toList ++ st) h')) := by
  apply propext
  constructor
  · intro q
    obtain ⟨⟨q1, q2⟩, q3⟩ := q
    refine ⟨?_, q3⟩
    replace q1 := (show _ ≤ 4 + 3 from q1)
    replace q2 := (show 3 ≤ _ from q2)
    try simp only [List.length_cons] at q1
    omega
  · intro q
    refine ⟨⟨?_, ?_⟩, q.2⟩
    · show _ ≤ 4 + 3
      try simp only [List.length_cons]
      have := q.1
      omega
    · show 3 ≤ _
      try simp only [List.length_cons]
      omega
theorem rl_147 (p : Nat) (cs : List AE) (h : AH) (ls : LcT) (st : List AV) (b0 b1 b2 : AV) (k : Nat) (x y : Int) : (run1 CR Q K ((p, 49, x, [3, y]) :: cs) ls (b2 :: b1 :: b0 :: vR k :: st) h) = ((st.length ≤ 4 ∧ ((sh k).1 = 0 ∧ (sh k).2.1 = y.toNat) ∧ ∃ P, CR x.toNat (vR k :: [b0, b1, b2]) h P ∧ ∀ r h', P r h' → run1 CR Q K cs ls (r.toList ++ st) h')) := by
  apply propext
  constructor
  · intro q
    obtain ⟨⟨q1, q2⟩, q3⟩ := q
    refine ⟨?_, q3⟩
    replace q1 := (show _ ≤ 5 + 3 from q1)
    try simp only [List.length_cons] at q1
    omega
  · intro q
    refine ⟨⟨?_, ?_⟩, q.2⟩
    · show _ ≤ 5 + 3
      try simp only [List.length_cons]
      have := q.1
      omega
    · show 3 + 1 ≤ _
      try simp only [List.length_cons]
      omega
theorem rl_148 (p : Nat) (cs : List AE) (h : AH) (ls : LcT) (st : List AV) (b0 b1 b2 b3 : AV) (x : Int) : (run1 CR Q K ((p, 48, x, [4]) :: cs) ls (b3 :: b2 :: b1 :: b0 :: st) h) = ((st.length ≤ 4 ∧ ∃ P, CR x.toNat [b0, b1, b2, b3] h P ∧ ∀ r h', P r h' → run1 CR Q K cs ls (r.toList ++ st) h')) := by
  apply propext
  constructor
  · intro q
    obtain ⟨⟨q1, q2⟩, q3⟩ := q
    refine ⟨?_, q3⟩
    replace q1 := (show _ ≤ 4 + 4 from q1)
    replace q2 := (show 4 ≤ _ from q2)
    try simp only [List.length_cons] at q1
    omega
  · intro q
    refine ⟨⟨?_, ?_⟩, q.2⟩
    · show _ ≤ 4 + 4
      try simp only [List.length_cons]
      have := q.1
      omega
    · show 4 ≤ _
      try simp only [List.length_cons]
      omega
theorem rl_149 (p : Nat) (cs : List AE) (h : AH) (ls : LcT) (st : List AV) (b0 b1 b2 b3 : AV) (k : Nat) (x y : Int) : (run1 CR Q K ((p, 49, x, [4, y]) :: cs) ls (b3 :: b2 :: b1 :: b0 :: vR k :: st) h) = ((st.length ≤ 4 ∧ ((sh k).1 = 0 ∧ (sh k).2.1 = y.toNat) ∧ ∃ P, CR x.toNat (vR k :: [b0, b1, b2, b3]) h P ∧ ∀ r h', P r h' → run1 CR Q K cs ls (r.toList ++ st) h')) := by
  apply propext
  constructor
  · intro q
    obtain ⟨⟨q1, q2⟩, q3⟩ := q
    refine ⟨?_, q3⟩
    replace q1 := (show _ ≤ 5 + 4 from q1)
    try simp only [List.length_cons] at q1
    omega
  · intro q
    refine ⟨⟨?_, ?_⟩, q.2⟩
    · show _ ≤ 5 + 4
      try simp only [List.length_cons]
      have := q.1
      omega
    · show 4 + 1 ≤ _
      try simp only [List.length_cons]
      omega
theorem rl_150 (p : Nat) (cs : List AE) (h : AH) (ls : LcT) (st : List AV) (b0 b1 b2 b3 b4 : AV) (x : Int) : (run1 CR Q K ((p, 48, x, [5]) :: cs) ls (b4 :: b3 :: b2 :: b1 :: b0 :: st) h) = ((st.length ≤ 4 ∧ ∃ P, CR x.toNat [b0, b1, b2, b3, b4] h P ∧ ∀ r h', P r h' → run1 CR Q K cs ls (r.toList ++ st) h')) := by
  apply propext
  constructor
  · intro q
    obtain ⟨⟨q1, q2⟩, q3⟩ := q
    refine ⟨?_, q3⟩
    replace q1 := (show _ ≤ 4 + 5 from q1)
    replace q2 := (show 5 ≤ _ from q2)
    try simp only [List.length_cons] at q1
    omega
  · intro q
    refine ⟨⟨?_, ?_⟩, q.2⟩
    · show _ ≤ 4 + 5
      try simp only [List.length_cons]
      have := q.1
      omega
    · show 5 ≤ _
      try simp only [List.length_cons]
      omega
theorem rl_151 (p : Nat) (cs : List AE) (h : AH) (ls : LcT) (st : List AV) (b0 b1 b2 b3 b4 : AV) (k : Nat) (x y : Int) : (run1 CR Q K ((p, 49, x, [5, y]) :: cs) ls (b4 :: b3 :: b2 :: b1 :: b0 :: vR k :: st) h) = ((st.length ≤ 4 ∧ ((sh k).1 = 0 ∧ (sh k).2.1 = y.toNat) ∧ ∃ P, CR x.toNat (vR k :: [b0, b1, b2, b3, b4]) h P ∧ ∀ r h', P r h' → run1 CR Q K cs ls (r.toList ++ st) h')) := by
  apply propext
  constructor
  · intro q
    obtain ⟨⟨q1, q2⟩, q3⟩ := q
    refine ⟨?_, q3⟩
    replace q1 := (show _ ≤ 5 + 5 from q1)
    try simp only [List.length_cons] at q1
    omega
  · intro q
    refine ⟨⟨?_, ?_⟩, q.2⟩
    · show _ ≤ 5 + 5
      try simp only [List.length_cons]
      have := q.1
      omega
    · show 5 + 1 ≤ _
      try simp only [List.length_cons]
      omega
theorem rl_152 (p : Nat) (cs : List AE) (h : AH) (ls : LcT) (st : List AV) (k0 k1 : Nat) (sp dp n x : Int) (ys : List Int) : (run1 CR Q K ((p, 51, x, ys) :: cs) ls (vI n :: vI dp :: vR k1 :: vI sp :: vR k0 :: st) h) = ((((sh k0).1 = 1 ∧ (sh k1).1 = 1 ∧ st.length ≤ 4) ∧ (0 ≤ sp ∧ 0 ≤ dp ∧ 0 ≤ n ∧ sp + n ≤ (sh k0).2.1 ∧ dp + n ≤ (sh k1).2.1) ∧ run1 CR Q K cs ls st (hcpy h k0 k1 sp.toNat dp.toNat n.toNat))) := rfl
theorem rl_153 (p : Nat) (cs : List AE) (h : AH) (ls : LcT) (st : List AV) (a b x : Int) (ys : List Int) : (run1 CR Q K ((p, 55, x, ys) :: cs) ls (vI b :: vI a :: st) h) = ((st.length ≤ 4 ∧ run1 CR Q K cs ls (vI (max a b) :: st) h)) := rfl
theorem rl_154 (p : Nat) (cs : List AE) (h : AH) (ls : LcT) (st : List AV) (a b x : Int) (ys : List Int) : (run1 CR Q K ((p, 56, x, ys) :: cs) ls (vI b :: vI a :: st) h) = ((st.length ≤ 4 ∧ run1 CR Q K cs ls (vI (min a b) :: st) h)) := rfl
theorem rl_155 (p : Nat) (cs : List AE) (h : AH) (ls : LcT) (z x : Int) (ys : List Int) : (run1 CR Q K ((p, 52, x, ys) :: cs) ls [vI z] h) = (Q (some (vI z)) h) := rfl
theorem rl_156 (p : Nat) (cs : List AE) (h : AH) (ls : LcT) (z x : Int) (ys : List Int) : (run1 CR Q K ((p, 53, x, ys) :: cs) ls [vI z] h) = (((z = 0 ∨ z = 1) ∧ Q (some (vI z)) h)) := rfl
theorem rl_157 (p : Nat) (cs : List AE) (h : AH) (ls : LcT) (x : Int) (ys : List Int) : (run1 CR Q K ((p, 54, x, ys) :: cs) ls [] h) = (Q none h) := rfl
theorem rl_158 (p : Nat) (cs : List AE) (h : AH) (ls : LcT) (st : List AV) (a x : Int) (ys : List Int) : (run1 CR Q K ((p, 60, x, ys) :: cs) ls (vI a :: st) h) = (((a = 0 → K x.toNat ls st h) ∧ (¬ a = 0 → run1 CR Q K cs ls st h))) := rfl
theorem rl_159 (p : Nat) (cs : List AE) (h : AH) (ls : LcT) (st : List AV) (a x : Int) (ys : List Int) : (run1 CR Q K ((p, 61, x, ys) :: cs) ls (vI a :: st) h) = (((¬ a = 0 → K x.toNat ls st h) ∧ (a = 0 → run1 CR Q K cs ls st h))) := rfl
theorem rl_160 (p : Nat) (cs : List AE) (h : AH) (ls : LcT) (st : List AV) (a x : Int) (ys : List Int) : (run1 CR Q K ((p, 62, x, ys) :: cs) ls (vI a :: st) h) = (((a < 0 → K x.toNat ls st h) ∧ (¬ a < 0 → run1 CR Q K cs ls st h))) := rfl
theorem rl_161 (p : Nat) (cs : List AE) (h : AH) (ls : LcT) (st : List AV) (a x : Int) (ys : List Int) : (run1 CR Q K ((p, 63, x, ys) :: cs) ls (vI a :: st) h) = (((¬ a < 0 → K x.toNat ls st h) ∧ (a < 0 → run1 CR Q K cs ls st h))) := rfl
theorem rl_162 (p : Nat) (cs : List AE) (h : AH) (ls : LcT) (st : List AV) (a x : Int) (ys : List Int) : (run1 CR Q K ((p, 64, x, ys) :: cs) ls (vI a :: st) h) = (((0 < a → K x.toNat ls st h) ∧ (¬ 0 < a → run1 CR Q K cs ls st h))) := rfl
theorem rl_163 (p : Nat) (cs : List AE) (h : AH) (ls : LcT) (st : List AV) (a x : Int) (ys : List Int) : (run1 CR Q K ((p, 65, x, ys) :: cs) ls (vI a :: st) h) = (((¬ 0 < a → K x.toNat ls st h) ∧ (0 < a → run1 CR Q K cs ls st h))) := rfl
theorem rl_164 (p : Nat) (cs : List AE) (h : AH) (ls : LcT) (st : List AV) (a b x : Int) (ys : List Int) : (run1 CR Q K ((p, 70, x, ys) :: cs) ls (vI b :: vI a :: st) h) = (((a = b → K x.toNat ls st h) ∧ (¬ a = b → run1 CR Q K cs ls st h))) := rfl
theorem rl_165 (p : Nat) (cs : List AE) (h : AH) (ls : LcT) (st : List AV) (a b x : Int) (ys : List Int) : (run1 CR Q K ((p, 71, x, ys) :: cs) ls (vI b :: vI a :: st) h) = (((¬ a = b → K x.toNat ls st h) ∧ (a = b → run1 CR Q K cs ls st h))) := rfl
theorem rl_166 (p : Nat) (cs : List AE) (h : AH) (ls : LcT) (st : List AV) (a b x : Int) (ys : List Int) : (run1 CR Q K ((p, 72, x, ys) :: cs) ls (vI b :: vI a :: st) h) = (((a < b → K x.toNat ls st h) ∧ (¬ a < b → run1 CR Q K cs ls st h))) := rfl
theorem rl_167 (p : Nat) (cs : List AE) (h : AH) (ls : LcT) (st : List AV) (a b x : Int) (ys : List Int) : (run1 CR Q K ((p, 73, x, ys) :: cs) ls (vI b :: vI a :: st) h) = (((¬ a < b → K x.toNat ls st h) ∧ (a < b → run1 CR Q K cs ls st h))) := rfl
theorem rl_168 (p : Nat) (cs : List AE) (h : AH) (ls : LcT) (st : List AV) (a b x : Int) (ys : List Int) : (run1 CR Q K ((p, 74, x, ys) :: cs) ls (vI b :: vI a :: st) h) = (((b < a → K x.toNat ls st h) ∧ (¬ b < a → run1 CR Q K cs ls st h))) := rfl
theorem rl_169 (p : Nat) (cs : List AE) (h : AH) (ls : LcT) (st : List AV) (a b x : Int) (ys : List Int) : (run1 CR Q K ((p, 75, x, ys) :: cs) ls (vI b :: vI a :: st) h) = (((¬ b < a → K x.toNat ls st h) ∧ (b < a → run1 CR Q K cs ls st h))) := rfl
theorem sw_n (K : Int → Prop) (a lo : Int) : swT K a lo [] = True := rfl
theorem sw_c (K : Int → Prop) (a lo t : Int) (ts : List Int) : swT K a lo (t :: ts) = ((a = lo → K t) ∧ swT K a (lo + 1) ts) := rfl
theorem lk_n (K : Int → Prop) (a dd : Int) : lkT K a dd [] = K dd := rfl
theorem lk_c (K : Int → Prop) (a dd k t : Int) (ts : List Int) : lkT K a dd (k :: t :: ts) = ((a = k → K t) ∧ (¬ a = k → lkT K a dd ts)) := rfl
end RL
theorem rlA {CR : Nat → List AV → AH → (Option AV → AH → Prop) → Prop} {Q : Option AV → AH → Prop} {K : Nat → LcT → List AV → AH → Prop} : (∀ (p : Nat) (cs : List AE) (h : AH) (ls : LcT) (st : List AV) (x : Int) (ys : List Int), (run1 CR Q K ((p, 0, x, ys) :: cs) ls st h) = (run1 CR Q K cs ls (vI x :: st) h)) ∧ (∀ (p : Nat) (cs : List AE) (h : AH) (ls : LcT) (st : List AV) (x : Int) (ys : List Int), (run1 CR Q K ((p, 1, x, ys) :: cs) ls st h) = (run1 CR Q K cs ls (vL x :: st) h)) ∧ (∀ (p : Nat) (cs : List AE) (h : AH) (ls : LcT) (st : List AV) (x : Int) (ys : List Int), (run1 CR Q K ((p, 2, x, ys) :: cs) ls st h) = (run1 CR Q K cs ls (vR x.toNat :: st) h)) ∧ (∀ (p : Nat) (cs : List AE) (h : AH) (ls : LcT) (st : List AV) (z : Int) (ys : List Int), (run1 CR Q K ((p, 3, 0, ys) :: cs) (some (vI z) :: ls) st h) = (run1 CR Q K cs (some (vI z) :: ls) (vI z :: st) h)) ∧ (∀ (p : Nat) (cs : List AE) (h : AH) (ls : LcT) (st : List AV) (z : Int) (ys : List Int), (run1 CR Q K ((p, 4, 0, ys) :: cs) (some (vL z) :: ls) st h) = (run1 CR Q K cs (some (vL z) :: ls) (vL z :: st) h)) ∧ (∀ (p : Nat) (cs : List AE) (h : AH) (ls : LcT) (st : List AV) (z : Nat) (ys : List Int), (run1 CR Q K ((p, 5, 0, ys) :: cs) (some (vR z) :: ls) st h) = (run1 CR Q K cs (some (vR z) :: ls) (vR z :: st) h)) ∧ (∀ (p : Nat) (cs : List AE) (h : AH) (ls : LcT) (st : List AV) (b : Option AV) (z : Int) (ys : List Int), (run1 CR Q K ((p, 6, 0, ys) :: cs) (b :: ls) (vI z :: st) h) = (run1 CR Q K cs (some (vI z) :: ls) st h)) ∧ (∀ (p : Nat) (cs : List AE) (h : AH) (ls : LcT) (st : List AV) (b : Option AV) (z : Nat) (ys : List Int), (run1 CR Q K ((p, 8, 0, ys) :: cs) (b :: ls) (vR z :: st) h) = (run1 CR Q K cs (some (vR z) :: ls) st h)) ∧ (∀ (p : Nat) (cs : List AE) (h : AH) (ls : LcT) (st : List AV) (z n : Int), (run1 CR Q K ((p, 9, 0, [n]) :: cs) (some (vI z) :: ls) st h) = (run1 CR Q K cs (some (vI (w32 (z + n))) :: ls) st h)) ∧ (∀ (p : Nat) (cs : List AE) (h : AH) (ls : LcT) (st : List AV) (a0 : Option AV) (z : Int) (ys : List Int), (run1 CR Q K ((p, 3, 1, ys) :: cs) (a0 :: some (vI z) :: ls) st h) = (run1 CR Q K cs (a0 :: some (vI z) :: ls) (vI z :: st) h)) ∧ (∀ (p : Nat) (cs : List AE) (h : AH) (ls : LcT) (st : List AV) (a0 : Option AV) (z : Int) (ys : List Int), (run1 CR Q K ((p, 4, 1, ys) :: cs) (a0 :: some (vL z) :: ls) st h) = (run1 CR Q K cs (a0 :: some (vL z) :: ls) (vL z :: st) h)) ∧ (∀ (p : Nat) (cs : List AE) (h : AH) (ls : LcT) (st : List AV) (a0 : Option AV) (z : Nat) (ys : List Int), (run1 CR Q K ((p, 5, 1, ys) :: cs) (a0 :: some (vR z) :: ls) st h) = (run1 CR Q K cs (a0 :: some (vR z) :: ls) (vR z :: st) h)) ∧ (∀ (p : Nat) (cs : List AE) (h : AH) (ls : LcT) (st : List AV) (a0 : Option AV) (b : Option AV) (z : Int) (ys : List Int), (run1 CR Q K ((p, 6, 1, ys) :: cs) (a0 :: b :: ls) (vI z :: st) h) = ((stK a0 = true ∧ run1 CR Q K cs (a0 :: some (vI z) :: ls) st h))) ∧ (∀ (p : Nat) (cs : List AE) (h : AH) (ls : LcT) (st : List AV) (a0 : Option AV) (b : Option AV) (z : Nat) (ys : List Int), (run1 CR Q K ((p, 8, 1, ys) :: cs) (a0 :: b :: ls) (vR z :: st) h) = ((stK a0 = true ∧ run1 CR Q K cs (a0 :: some (vR z) :: ls) st h))) ∧ (∀ (p : Nat) (cs : List AE) (h : AH) (ls : LcT) (st : List AV) (a0 : Option AV) (b b2 : Option AV) (z : Int) (ys : List Int), (run1 CR Q K ((p, 7, 1, ys) :: cs) (a0 :: b :: b2 :: ls) (vL z :: st) h) = ((stK a0 = true ∧ run1 CR Q K cs (a0 :: some (vL z) :: none :: ls) st h))) ∧ (∀ (p : Nat) (cs : List AE) (h : AH) (ls : LcT) (st : List AV) (a0 : Option AV) (z n : Int), (run1 CR Q K ((p, 9, 1, [n]) :: cs) (a0 :: some (vI z) :: ls) st h) = (run1 CR Q K cs (a0 :: some (vI (w32 (z + n))) :: ls) st h)) ∧ (∀ (p : Nat) (cs : List AE) (h : AH) (ls : LcT) (st : List AV) (a0 a1 : Option AV) (z : Int) (ys : List Int), (run1 CR Q K ((p, 3, 2, ys) :: cs) (a0 :: a1 :: some (vI z) :: ls) st h) = (run1 CR Q K cs (a0 :: a1 :: some (vI z) :: ls) (vI z :: st) h)) ∧ (∀ (p : Nat) (cs : List AE) (h : AH) (ls : LcT) (st : List AV) (a0 a1 : Option AV) (z : Int) (ys : List Int), (run1 CR Q K ((p, 4, 2, ys) :: cs) (a0 :: a1 :: some (vL z) :: ls) st h) = (run1 CR Q K cs (a0 :: a1 :: some (vL z) :: ls) (vL z :: st) h)) ∧ (∀ (p : Nat) (cs : List AE) (h : AH) (ls : LcT) (st : List AV) (a0 a1 : Option AV) (z : Nat) (ys : List Int), (run1 CR Q K ((p, 5, 2, ys) :: cs) (a0 :: a1 :: some (vR z) :: ls) st h) = (run1 CR Q K cs (a0 :: a1 :: some (vR z) :: ls) (vR z :: st) h)) ∧ (∀ (p : Nat) (cs : List AE) (h : AH) (ls : LcT) (st : List AV) (a0 a1 : Option AV) (b : Option AV) (z : Int) (ys : List Int), (run1 CR Q K ((p, 6, 2, ys) :: cs) (a0 :: a1 :: b :: ls) (vI z :: st) h) = ((stK a1 = true ∧ run1 CR Q K cs (a0 :: a1 :: some (vI z) :: ls) st h))) ∧ (∀ (p : Nat) (cs : List AE) (h : AH) (ls : LcT) (st : List AV) (a0 a1 : Option AV) (b : Option AV) (z : Nat) (ys : List Int), (run1 CR Q K ((p, 8, 2, ys) :: cs) (a0 :: a1 :: b :: ls) (vR z :: st) h) = ((stK a1 = true ∧ run1 CR Q K cs (a0 :: a1 :: some (vR z) :: ls) st h))) ∧ (∀ (p : Nat) (cs : List AE) (h : AH) (ls : LcT) (st : List AV) (a0 a1 : Option AV) (b b2 : Option AV) (z : Int) (ys : List Int), (run1 CR Q K ((p, 7, 2, ys) :: cs) (a0 :: a1 :: b :: b2 :: ls) (vL z :: st) h) = ((stK a1 = true ∧ run1 CR Q K cs (a0 :: a1 :: some (vL z) :: none :: ls) st h))) ∧ (∀ (p : Nat) (cs : List AE) (h : AH) (ls : LcT) (st : List AV) (a0 a1 : Option AV) (z n : Int), (run1 CR Q K ((p, 9, 2, [n]) :: cs) (a0 :: a1 :: some (vI z) :: ls) st h) = (run1 CR Q K cs (a0 :: a1 :: some (vI (w32 (z + n))) :: ls) st h)) ∧ (∀ (p : Nat) (cs : List AE) (h : AH) (ls : LcT) (st : List AV) (a0 a1 a2 : Option AV) (z : Int) (ys : List Int), (run1 CR Q K ((p, 3, 3, ys) :: cs) (a0 :: a1 :: a2 :: some (vI z) :: ls) st h) = (run1 CR Q K cs (a0 :: a1 :: a2 :: some (vI z) :: ls) (vI z :: st) h)) ∧ (∀ (p : Nat) (cs : List AE) (h : AH) (ls : LcT) (st : List AV) (a0 a1 a2 : Option AV) (z : Int) (ys : List Int), (run1 CR Q K ((p, 4, 3, ys) :: cs) (a0 :: a1 :: a2 :: some (vL z) :: ls) st h) = (run1 CR Q K cs (a0 :: a1 :: a2 :: some (vL z) :: ls) (vL z :: st) h)) ∧ (∀ (p : Nat) (cs : List AE) (h : AH) (ls : LcT) (st : List AV) (a0 a1 a2 : Option AV) (z : Nat) (ys : List Int), (run1 CR Q K ((p, 5, 3, ys) :: cs) (a0 :: a1 :: a2 :: some (vR z) :: ls) st h) = (run1 CR Q K cs (a0 :: a1 :: a2 :: some (vR z) :: ls) (vR z :: st) h)) ∧ (∀ (p : Nat) (cs : List AE) (h : AH) (ls : LcT) (st : List AV) (a0 a1 a2 : Option AV) (b : Option AV) (z : Int) (ys : List Int), (run1 CR Q K ((p, 6, 3, ys) :: cs) (a0 :: a1 :: a2 :: b :: ls) (vI z :: st) h) = ((stK a2 = true ∧ run1 CR Q K cs (a0 :: a1 :: a2 :: some (vI z) :: ls) st h))) ∧ (∀ (p : Nat) (cs : List AE) (h : AH) (ls : LcT) (st : List AV) (a0 a1 a2 : Option AV) (b : Option AV) (z : Nat) (ys : List Int), (run1 CR Q K ((p, 8, 3, ys) :: cs) (a0 :: a1 :: a2 :: b :: ls) (vR z :: st) h) = ((stK a2 = true ∧ run1 CR Q K cs (a0 :: a1 :: a2 :: some (vR z) :: ls) st h))) ∧ (∀ (p : Nat) (cs : List AE) (h : AH) (ls : LcT) (st : List AV) (a0 a1 a2 : Option AV) (b b2 : Option AV) (z : Int) (ys : List Int), (run1 CR Q K ((p, 7, 3, ys) :: cs) (a0 :: a1 :: a2 :: b :: b2 :: ls) (vL z :: st) h) = ((stK a2 = true ∧ run1 CR Q K cs (a0 :: a1 :: a2 :: some (vL z) :: none :: ls) st h))) ∧ (∀ (p : Nat) (cs : List AE) (h : AH) (ls : LcT) (st : List AV) (a0 a1 a2 : Option AV) (z n : Int), (run1 CR Q K ((p, 9, 3, [n]) :: cs) (a0 :: a1 :: a2 :: some (vI z) :: ls) st h) = (run1 CR Q K cs (a0 :: a1 :: a2 :: some (vI (w32 (z + n))) :: ls) st h)) ∧ (∀ (p : Nat) (cs : List AE) (h : AH) (ls : LcT) (st : List AV) (a0 a1 a2 a3 : Option AV) (z : Int) (ys : List Int), (run1 CR Q K ((p, 3, 4, ys) :: cs) (a0 :: a1 :: a2 :: a3 :: some (vI z) :: ls) st h) = (run1 CR Q K cs (a0 :: a1 :: a2 :: a3 :: some (vI z) :: ls) (vI z :: st) h)) ∧ (∀ (p : Nat) (cs : List AE) (h : AH) (ls : LcT) (st : List AV) (a0 a1 a2 a3 : Option AV) (z : Int) (ys : List Int), (run1 CR Q K ((p, 4, 4, ys) :: cs) (a0 :: a1 :: a2 :: a3 :: some (vL z) :: ls) st h) = (run1 CR Q K cs (a0 :: a1 :: a2 :: a3 :: some (vL z) :: ls) (vL z :: st) h)) ∧ (∀ (p : Nat) (cs : List AE) (h : AH) (ls : LcT) (st : List AV) (a0 a1 a2 a3 : Option AV) (z : Nat) (ys : List Int), (run1 CR Q K ((p, 5, 4, ys) :: cs) (a0 :: a1 :: a2 :: a3 :: some (vR z) :: ls) st h) = (run1 CR Q K cs (a0 :: a1 :: a2 :: a3 :: some (vR z) :: ls) (vR z :: st) h)) ∧ (∀ (p : Nat) (cs : List AE) (h : AH) (ls : LcT) (st : List AV) (a0 a1 a2 a3 : Option AV) (b : Option AV) (z : Int) (ys : List Int), (run1 CR Q K ((p, 6, 4, ys) :: cs) (a0 :: a1 :: a2 :: a3 :: b :: ls) (vI z :: st) h) = ((stK a3 = true ∧ run1 CR Q K cs (a0 :: a1 :: a2 :: a3 :: some (vI z) :: ls) st h))) ∧ (∀ (p : Nat) (cs : List AE) (h : AH) (ls : LcT) (st : List AV) (a0 a1 a2 a3 : Option AV) (b : Option AV) (z : Nat) (ys : List Int), (run1 CR Q K ((p, 8, 4, ys) :: cs) (a0 :: a1 :: a2 :: a3 :: b :: ls) (vR z :: st) h) = ((stK a3 = true ∧ run1 CR Q K cs (a0 :: a1 :: a2 :: a3 :: some (vR z) :: ls) st h))) ∧ (∀ (p : Nat) (cs : List AE) (h : AH) (ls : LcT) (st : List AV) (a0 a1 a2 a3 : Option AV) (b b2 : Option AV) (z : Int) (ys : List Int), (run1 CR Q K ((p, 7, 4, ys) :: cs) (a0 :: a1 :: a2 :: a3 :: b :: b2 :: ls) (vL z :: st) h) = ((stK a3 = true ∧ run1 CR Q K cs (a0 :: a1 :: a2 :: a3 :: some (vL z) :: none :: ls) st h))) ∧ (∀ (p : Nat) (cs : List AE) (h : AH) (ls : LcT) (st : List AV) (a0 a1 a2 a3 : Option AV) (z n : Int), (run1 CR Q K ((p, 9, 4, [n]) :: cs) (a0 :: a1 :: a2 :: a3 :: some (vI z) :: ls) st h) = (run1 CR Q K cs (a0 :: a1 :: a2 :: a3 :: some (vI (w32 (z + n))) :: ls) st h)) ∧ (∀ (p : Nat) (cs : List AE) (h : AH) (ls : LcT) (st : List AV) (a0 a1 a2 a3 a4 : Option AV) (z : Int) (ys : List Int), (run1 CR Q K ((p, 3, 5, ys) :: cs) (a0 :: a1 :: a2 :: a3 :: a4 :: some (vI z) :: ls) st h) = (run1 CR Q K cs (a0 :: a1 :: a2 :: a3 :: a4 :: some (vI z) :: ls) (vI z :: st) h)) ∧ (∀ (p : Nat) (cs : List AE) (h : AH) (ls : LcT) (st : List AV) (a0 a1 a2 a3 a4 : Option AV) (z : Int) (ys : List Int), (run1 CR Q K ((p, 4, 5, ys) :: cs) (a0 :: a1 :: a2 :: a3 :: a4 :: some (vL z) :: ls) st h) = (run1 CR Q K cs (a0 :: a1 :: a2 :: a3 :: a4 :: some (vL z) :: ls) (vL z :: st) h)) ∧ (∀ (p : Nat) (cs : List AE) (h : AH) (ls : LcT) (st : List AV) (a0 a1 a2 a3 a4 : Option AV) (z : Nat) (ys : List Int), (run1 CR Q K ((p, 5, 5, ys) :: cs) (a0 :: a1 :: a2 :: a3 :: a4 :: some (vR z) :: ls) st h) = (run1 CR Q K cs (a0 :: a1 :: a2 :: a3 :: a4 :: some (vR z) :: ls) (vR z :: st) h)) ∧ (∀ (p : Nat) (cs : List AE) (h : AH) (ls : LcT) (st : List AV) (a0 a1 a2 a3 a4 : Option AV) (b : Option AV) (z : Int) (ys : List Int), (run1 CR Q K ((p, 6, 5, ys) :: cs) (a0 :: a1 :: a2 :: a3 :: a4 :: b :: ls) (vI z :: st) h) = ((stK a4 = true ∧ run1 CR Q K cs (a0 :: a1 :: a2 :: a3 :: a4 :: some (vI z) :: ls) st h))) ∧ (∀ (p : Nat) (cs : List AE) (h : AH) (ls : LcT) (st : List AV) (a0 a1 a2 a3 a4 : Option AV) (b : Option AV) (z : Nat) (ys : List Int), (run1 CR Q K ((p, 8, 5, ys) :: cs) (a0 :: a1 :: a2 :: a3 :: a4 :: b :: ls) (vR z :: st) h) = ((stK a4 = true ∧ run1 CR Q K cs (a0 :: a1 :: a2 :: a3 :: a4 :: some (vR z) :: ls) st h))) ∧ (∀ (p : Nat) (cs : List AE) (h : AH) (ls : LcT) (st : List AV) (a0 a1 a2 a3 a4 : Option AV) (b b2 : Option AV) (z : Int) (ys : List Int), (run1 CR Q K ((p, 7, 5, ys) :: cs) (a0 :: a1 :: a2 :: a3 :: a4 :: b :: b2 :: ls) (vL z :: st) h) = ((stK a4 = true ∧ run1 CR Q K cs (a0 :: a1 :: a2 :: a3 :: a4 :: some (vL z) :: none :: ls) st h))) ∧ (∀ (p : Nat) (cs : List AE) (h : AH) (ls : LcT) (st : List AV) (a0 a1 a2 a3 a4 : Option AV) (z n : Int), (run1 CR Q K ((p, 9, 5, [n]) :: cs) (a0 :: a1 :: a2 :: a3 :: a4 :: some (vI z) :: ls) st h) = (run1 CR Q K cs (a0 :: a1 :: a2 :: a3 :: a4 :: some (vI (w32 (z + n))) :: ls) st h)) ∧ (∀ (p : Nat) (cs : List AE) (h : AH) (ls : LcT) (st : List AV) (a0 a1 a2 a3 a4 a5 : Option AV) (z : Int) (ys : List Int), (run1 CR Q K ((p, 3, 6, ys) :: cs) (a0 :: a1 :: a2 :: a3 :: a4 :: a5 :: some (vI z) :: ls) st h) = (run1 CR Q K cs (a0 :: a1 :: a2 :: a3 :: a4 :: a5 :: some (vI z) :: ls) (vI z :: st) h)) ∧ (∀ (p : Nat) (cs : List AE) (h : AH) (ls : LcT) (st : List AV) (a0 a1 a2 a3 a4 a5 : Option AV) (z : Int) (ys : List Int), (run1 CR Q K ((p, 4, 6, ys) :: cs) (a0 :: a1 :: a2 :: a3 :: a4 :: a5 :: some (vL z) :: ls) st h) = (run1 CR Q K cs (a0 :: a1 :: a2 :: a3 :: a4 :: a5 :: some (vL z) :: ls) (vL z :: st) h)) ∧ (∀ (p : Nat) (cs : List AE) (h : AH) (ls : LcT) (st : List AV) (a0 a1 a2 a3 a4 a5 : Option AV) (z : Nat) (ys : List Int), (run1 CR Q K ((p, 5, 6, ys) :: cs) (a0 :: a1 :: a2 :: a3 :: a4 :: a5 :: some (vR z) :: ls) st h) = (run1 CR Q K cs (a0 :: a1 :: a2 :: a3 :: a4 :: a5 :: some (vR z) :: ls) (vR z :: st) h)) ∧ (∀ (p : Nat) (cs : List AE) (h : AH) (ls : LcT) (st : List AV) (a0 a1 a2 a3 a4 a5 : Option AV) (b : Option AV) (z : Int) (ys : List Int), (run1 CR Q K ((p, 6, 6, ys) :: cs) (a0 :: a1 :: a2 :: a3 :: a4 :: a5 :: b :: ls) (vI z :: st) h) = ((stK a5 = true ∧ run1 CR Q K cs (a0 :: a1 :: a2 :: a3 :: a4 :: a5 :: some (vI z) :: ls) st h))) ∧ (∀ (p : Nat) (cs : List AE) (h : AH) (ls : LcT) (st : List AV) (a0 a1 a2 a3 a4 a5 : Option AV) (b : Option AV) (z : Nat) (ys : List Int), (run1 CR Q K ((p, 8, 6, ys) :: cs) (a0 :: a1 :: a2 :: a3 :: a4 :: a5 :: b :: ls) (vR z :: st) h) = ((stK a5 = true ∧ run1 CR Q K cs (a0 :: a1 :: a2 :: a3 :: a4 :: a5 :: some (vR z) :: ls) st h))) ∧ (∀ (p : Nat) (cs : List AE) (h : AH) (ls : LcT) (st : List AV) (a0 a1 a2 a3 a4 a5 : Option AV) (b b2 : Option AV) (z : Int) (ys : List Int), (run1 CR Q K ((p, 7, 6, ys) :: cs) (a0 :: a1 :: a2 :: a3 :: a4 :: a5 :: b :: b2 :: ls) (vL z :: st) h) = ((stK a5 = true ∧ run1 CR Q K cs (a0 :: a1 :: a2 :: a3 :: a4 :: a5 :: some (vL z) :: none :: ls) st h))) ∧ (∀ (p : Nat) (cs : List AE) (h : AH) (ls : LcT) (st : List AV) (a0 a1 a2 a3 a4 a5 : Option AV) (z n : Int), (run1 CR Q K ((p, 9, 6, [n]) :: cs) (a0 :: a1 :: a2 :: a3 :: a4 :: a5 :: some (vI z) :: ls) st h) = (run1 CR Q K cs (a0 :: a1 :: a2 :: a3 :: a4 :: a5 :: some (vI (w32 (z + n))) :: ls) st h)) ∧ (∀ (p : Nat) (cs : List AE) (h : AH) (ls : LcT) (st : List AV) (a0 a1 a2 a3 a4 a5 a6 : Option AV) (z : Int) (ys : List Int), (run1 CR Q K ((p, 3, 7, ys) :: cs) (a0 :: a1 :: a2 :: a3 :: a4 :: a5 :: a6 :: some (vI z) :: ls) st h) = (run1 CR Q K cs (a0 :: a1 :: a2 :: a3 :: a4 :: a5 :: a6 :: some (vI z) :: ls) (vI z :: st) h)) ∧ (∀ (p : Nat) (cs : List AE) (h : AH) (ls : LcT) (st : List AV) (a0 a1 a2 a3 a4 a5 a6 : Option AV) (z : Int) (ys : List Int), (run1 CR Q K ((p, 4, 7, ys) :: cs) (a0 :: a1 :: a2 :: a3 :: a4 :: a5 :: a6 :: some (vL z) :: ls) st h) = (run1 CR Q K cs (a0 :: a1 :: a2 :: a3 :: a4 :: a5 :: a6 :: some (vL z) :: ls) (vL z :: st) h)) ∧ (∀ (p : Nat) (cs : List AE) (h : AH) (ls : LcT) (st : List AV) (a0 a1 a2 a3 a4 a5 a6 : Option AV) (z : Nat) (ys : List Int), (run1 CR Q K ((p, 5, 7, ys) :: cs) (a0 :: a1 :: a2 :: a3 :: a4 :: a5 :: a6 :: some (vR z) :: ls) st h) = (run1 CR Q K cs (a0 :: a1 :: a2 :: a3 :: a4 :: a5 :: a6 :: some (vR z) :: ls) (vR z :: st) h)) ∧ (∀ (p : Nat) (cs : List AE) (h : AH) (ls : LcT) (st : List AV) (a0 a1 a2 a3 a4 a5 a6 : Option AV) (b : Option AV) (z : Int) (ys : List Int), (run1 CR Q K ((p, 6, 7, ys) :: cs) (a0 :: a1 :: a2 :: a3 :: a4 :: a5 :: a6 :: b :: ls) (vI z :: st) h) = ((stK a6 = true ∧ run1 CR Q K cs (a0 :: a1 :: a2 :: a3 :: a4 :: a5 :: a6 :: some (vI z) :: ls) st h))) ∧ (∀ (p : Nat) (cs : List AE) (h : AH) (ls : LcT) (st : List AV) (a0 a1 a2 a3 a4 a5 a6 : Option AV) (b : Option AV) (z : Nat) (ys : List Int), (run1 CR Q K ((p, 8, 7, ys) :: cs) (a0 :: a1 :: a2 :: a3 :: a4 :: a5 :: a6 :: b :: ls) (vR z :: st) h) = ((stK a6 = true ∧ run1 CR Q K cs (a0 :: a1 :: a2 :: a3 :: a4 :: a5 :: a6 :: some (vR z) :: ls) st h))) ∧ (∀ (p : Nat) (cs : List AE) (h : AH) (ls : LcT) (st : List AV) (a0 a1 a2 a3 a4 a5 a6 : Option AV) (b b2 : Option AV) (z : Int) (ys : List Int), (run1 CR Q K ((p, 7, 7, ys) :: cs) (a0 :: a1 :: a2 :: a3 :: a4 :: a5 :: a6 :: b :: b2 :: ls) (vL z :: st) h) = ((stK a6 = true ∧ run1 CR Q K cs (a0 :: a1 :: a2 :: a3 :: a4 :: a5 :: a6 :: some (vL z) :: none :: ls) st h))) ∧ (∀ (p : Nat) (cs : List AE) (h : AH) (ls : LcT) (st : List AV) (a0 a1 a2 a3 a4 a5 a6 : Option AV) (z n : Int), (run1 CR Q K ((p, 9, 7, [n]) :: cs) (a0 :: a1 :: a2 :: a3 :: a4 :: a5 :: a6 :: some (vI z) :: ls) st h) = (run1 CR Q K cs (a0 :: a1 :: a2 :: a3 :: a4 :: a5 :: a6 :: some (vI (w32 (z + n))) :: ls) st h)) ∧ (∀ (p : Nat) (cs : List AE) (h : AH) (ls : LcT) (st : List AV) (a0 a1 a2 a3 a4 a5 a6 a7 : Option AV) (z : Int) (ys : List Int), (run1 CR Q K ((p, 3, 8, ys) :: cs) (a0 :: a1 :: a2 :: a3 :: a4 :: a5 :: a6 :: a7 :: some (vI z) :: ls) st h) = (run1 CR Q K cs (a0 :: a1 :: a2 :: a3 :: a4 :: a5 :: a6 :: a7 :: some (vI z) :: ls) (vI z :: st) h)) ∧ (∀ (p : Nat) (cs : List AE) (h : AH) (ls : LcT) (st : List AV) (a0 a1 a2 a3 a4 a5 a6 a7 : Option AV) (z : Int) (ys : List Int), (run1 CR Q K ((p, 4, 8, ys) :: cs) (a0 :: a1 :: a2 :: a3 :: a4 :: a5 :: a6 :: a7 :: some (vL z) :: ls) st h) = (run1 CR Q K cs (a0 :: a1 :: a2 :: a3 :: a4 :: a5 :: a6 :: a7 :: some (vL z) :: ls) (vL z :: st) h)) ∧ (∀ (p : Nat) (cs : List AE) (h : AH) (ls : LcT) (st : List AV) (a0 a1 a2 a3 a4 a5 a6 a7 : Option AV) (z : Nat) (ys : List Int), (run1 CR Q K ((p, 5, 8, ys) :: cs) (a0 :: a1 :: a2 :: a3 :: a4 :: a5 :: a6 :: a7 :: some (vR z) :: ls) st h) = (run1 CR Q K cs (a0 :: a1 :: a2 :: a3 :: a4 :: a5 :: a6 :: a7 :: some (vR z) :: ls) (vR z :: st) h)) ∧ (∀ (p : Nat) (cs : List AE) (h : AH) (ls : LcT) (st : List AV) (a0 a1 a2 a3 a4 a5 a6 a7 : Option AV) (b : Option AV) (z : Int) (ys : List Int), (run1 CR Q K ((p, 6, 8, ys) :: cs) (a0 :: a1 :: a2 :: a3 :: a4 :: a5 :: a6 :: a7 :: b :: ls) (vI z :: st) h) = ((stK a7 = true ∧ run1 CR Q K cs (a0 :: a1 :: a2 :: a3 :: a4 :: a5 :: a6 :: a7 :: some (vI z) :: ls) st h))) ∧ (∀ (p : Nat) (cs : List AE) (h : AH) (ls : LcT) (st : List AV) (a0 a1 a2 a3 a4 a5 a6 a7 : Option AV) (b : Option AV) (z : Nat) (ys : List Int), (run1 CR Q K ((p, 8, 8, ys) :: cs) (a0 :: a1 :: a2 :: a3 :: a4 :: a5 :: a6 :: a7 :: b :: ls) (vR z :: st) h) = ((stK a7 = true ∧ run1 CR Q K cs (a0 :: a1 :: a2 :: a3 :: a4 :: a5 :: a6 :: a7 :: some (vR z) :: ls) st h))) ∧ (∀ (p : Nat) (cs : List AE) (h : AH) (ls : LcT) (st : List AV) (a0 a1 a2 a3 a4 a5 a6 a7 : Option AV) (b b2 : Option AV) (z : Int) (ys : List Int), (run1 CR Q K ((p, 7, 8, ys) :: cs) (a0 :: a1 :: a2 :: a3 :: a4 :: a5 :: a6 :: a7 :: b :: b2 :: ls) (vL z :: st) h) = ((stK a7 = true ∧ run1 CR Q K cs (a0 :: a1 :: a2 :: a3 :: a4 :: a5 :: a6 :: a7 :: some (vL z) :: none :: ls) st h))) ∧ (∀ (p : Nat) (cs : List AE) (h : AH) (ls : LcT) (st : List AV) (a0 a1 a2 a3 a4 a5 a6 a7 : Option AV) (z n : Int), (run1 CR Q K ((p, 9, 8, [n]) :: cs) (a0 :: a1 :: a2 :: a3 :: a4 :: a5 :: a6 :: a7 :: some (vI z) :: ls) st h) = (run1 CR Q K cs (a0 :: a1 :: a2 :: a3 :: a4 :: a5 :: a6 :: a7 :: some (vI (w32 (z + n))) :: ls) st h)) ∧ (∀ (p : Nat) (cs : List AE) (h : AH) (ls : LcT) (st : List AV) (a0 a1 a2 a3 a4 a5 a6 a7 a8 : Option AV) (z : Int) (ys : List Int), (run1 CR Q K ((p, 3, 9, ys) :: cs) (a0 :: a1 :: a2 :: a3 :: a4 :: a5 :: a6 :: a7 :: a8 :: some (vI z) :: ls) st h) = (run1 CR Q K cs (a0 :: a1 :: a2 :: a3 :: a4 :: a5 :: a6 :: a7 :: a8 :: some (vI z) :: ls) (vI z :: st) h)) ∧ (∀ (p : Nat) (cs : List AE) (h : AH) (ls : LcT) (st : List AV) (a0 a1 a2 a3 a4 a5 a6 a7 a8 : Option AV) (z : Int) (ys : List Int), (run1 CR Q K ((p, 4, 9, ys) :: cs) (a0 :: a1 :: a2 :: a3 :: a4 :: a5 :: a6 :: a7 :: a8 :: some (vL z) :: ls) st h) = (run1 CR Q K cs (a0 :: a1 :: a2 :: a3 :: a4 :: a5 :: a6 :: a7 :: a8 :: some (vL z) :: ls) (vL z :: st) h)) ∧ (∀ (p : Nat) (cs : List AE) (h : AH) (ls : LcT) (st : List AV) (a0 a1 a2 a3 a4 a5 a6 a7 a8 : Option AV) (z : Nat) (ys : List Int), (run1 CR Q K ((p, 5, 9, ys) :: cs) (a0 :: a1 :: a2 :: a3 :: a4 :: a5 :: a6 :: a7 :: a8 :: some (vR z) :: ls) st h) = (run1 CR Q K cs (a0 :: a1 :: a2 :: a3 :: a4 :: a5 :: a6 :: a7 :: a8 :: some (vR z) :: ls) (vR z :: st) h)) ∧ (∀ (p : Nat) (cs : List AE) (h : AH) (ls : LcT) (st : List AV) (a0 a1 a2 a3 a4 a5 a6 a7 a8 : Option AV) (b : Option AV) (z : Int) (ys : List Int), (run1 CR Q K ((p, 6, 9, ys) :: cs) (a0 :: a1 :: a2 :: a3 :: a4 :: a5 :: a6 :: a7 :: a8 :: b :: ls) (vI z :: st) h) = ((stK a8 = true ∧ run1 CR Q K cs (a0 :: a1 :: a2 :: a3 :: a4 :: a5 :: a6 :: a7 :: a8 :: some (vI z) :: ls) st h))) ∧ (∀ (p : Nat) (cs : List AE) (h : AH) (ls : LcT) (st : List AV) (a0 a1 a2 a3 a4 a5 a6 a7 a8 : Option AV) (b : Option AV) (z : Nat) (ys : List Int), (run1 CR Q K ((p, 8, 9, ys) :: cs) (a0 :: a1 :: a2 :: a3 :: a4 :: a5 :: a6 :: a7 :: a8 :: b :: ls) (vR z :: st) h) = ((stK a8 = true ∧ run1 CR Q K cs (a0 :: a1 :: a2 :: a3 :: a4 :: a5 :: a6 :: a7 :: a8 :: some (vR z) :: ls) st h))) ∧ (∀ (p : Nat) (cs : List AE) (h : AH) (ls : LcT) (st : List AV) (a0 a1 a2 a3 a4 a5 a6 a7 a8 : Option AV) (b b2 : Option AV) (z : Int) (ys : List Int), (run1 CR Q K ((p, 7, 9, ys) :: cs) (a0 :: a1 :: a2 :: a3 :: a4 :: a5 :: a6 :: a7 :: a8 :: b :: b2 :: ls) (vL z :: st) h) = ((stK a8 = true ∧ run1 CR Q K cs (a0 :: a1 :: a2 :: a3 :: a4 :: a5 :: a6 :: a7 :: a8 :: some (vL z) :: none :: ls) st h))) ∧ (∀ (p : Nat) (cs : List AE) (h : AH) (ls : LcT) (st : List AV) (a0 a1 a2 a3 a4 a5 a6 a7 a8 : Option AV) (z n : Int), (run1 CR Q K ((p, 9, 9, [n]) :: cs) (a0 :: a1 :: a2 :: a3 :: a4 :: a5 :: a6 :: a7 :: a8 :: some (vI z) :: ls) st h) = (run1 CR Q K cs (a0 :: a1 :: a2 :: a3 :: a4 :: a5 :: a6 :: a7 :: a8 :: some (vI (w32 (z + n))) :: ls) st h)) ∧ (∀ (p : Nat) (cs : List AE) (h : AH) (ls : LcT) (st : List AV) (a0 a1 a2 a3 a4 a5 a6 a7 a8 a9 : Option AV) (z : Int) (ys : List Int), (run1 CR Q K ((p, 3, 10, ys) :: cs) (a0 :: a1 :: a2 :: a3 :: a4 :: a5 :: a6 :: a7 :: a8 :: a9 :: some (vI z) :: ls) st h) = (run1 CR Q K cs (a0 :: a1 :: a2 :: a3 :: a4 :: a5 :: a6 :: a7 :: a8 :: a9 :: some (vI z) :: ls) (vI z :: st) h)) ∧ (∀ (p : Nat) (cs : List AE) (h : AH) (ls : LcT) (st : List AV) (a0 a1 a2 a3 a4 a5 a6 a7 a8 a9 : Option AV) (z : Int) (ys : List Int), (run1 CR Q K ((p, 4, 10, ys) :: cs) (a0 :: a1 :: a2 :: a3 :: a4 :: a5 :: a6 :: a7 :: a8 :: a9 :: some (vL z) :: ls) st h) = (run1 CR Q K cs (a0 :: a1 :: a2 :: a3 :: a4 :: a5 :: a6 :: a7 :: a8 :: a9 :: some (vL z) :: ls) (vL z :: st) h)) ∧ (∀ (p : Nat) (cs : List AE) (h : AH) (ls : LcT) (st : List AV) (a0 a1 a2 a3 a4 a5 a6 a7 a8 a9 : Option AV) (z : Nat) (ys : List Int), (run1 CR Q K ((p, 5, 10, ys) :: cs) (a0 :: a1 :: a2 :: a3 :: a4 :: a5 :: a6 :: a7 :: a8 :: a9 :: some (vR z) :: ls) st h) = (run1 CR Q K cs (a0 :: a1 :: a2 :: a3 :: a4 :: a5 :: a6 :: a7 :: a8 :: a9 :: some (vR z) :: ls) (vR z :: st) h)) ∧ (∀ (p : Nat) (cs : List AE) (h : AH) (ls : LcT) (st : List AV) (a0 a1 a2 a3 a4 a5 a6 a7 a8 a9 : Option AV) (b : Option AV) (z : Int) (ys : List Int), (run1 CR Q K ((p, 6, 10, ys) :: cs) (a0 :: a1 :: a2 :: a3 :: a4 :: a5 :: a6 :: a7 :: a8 :: a9 :: b :: ls) (vI z :: st) h) = ((stK a9 = true ∧ run1 CR Q K cs (a0 :: a1 :: a2 :: a3 :: a4 :: a5 :: a6 :: a7 :: a8 :: a9 :: some (vI z) :: ls) st h))) ∧ (∀ (p : Nat) (cs : List AE) (h : AH) (ls : LcT) (st : List AV) (a0 a1 a2 a3 a4 a5 a6 a7 a8 a9 : Option AV) (b : Option AV) (z : Nat) (ys : List Int), (run1 CR Q K ((p, 8, 10, ys) :: cs) (a0 :: a1 :: a2 :: a3 :: a4 :: a5 :: a6 :: a7 :: a8 :: a9 :: b :: ls) (vR z :: st) h) = ((stK a9 = true ∧ run1 CR Q K cs (a0 :: a1 :: a2 :: a3 :: a4 :: a5 :: a6 :: a7 :: a8 :: a9 :: some (vR z) :: ls) st h))) ∧ (∀ (p : Nat) (cs : List AE) (h : AH) (ls : LcT) (st : List AV) (a0 a1 a2 a3 a4 a5 a6 a7 a8 a9 : Option AV) (b b2 : Option AV) (z : Int) (ys : List Int), (run1 CR Q K ((p, 7, 10, ys) :: cs) (a0 :: a1 :: a2 :: a3 :: a4 :: a5 :: a6 :: a7 :: a8 :: a9 :: b :: b2 :: ls) (vL z :: st) h) = ((stK a9 = true ∧ run1 CR Q K cs (a0 :: a1 :: a2 :: a3 :: a4 :: a5 :: a6 :: a7 :: a8 :: a9 :: some (vL z) :: none :: ls) st h))) ∧ (∀ (p : Nat) (cs : List AE) (h : AH) (ls : LcT) (st : List AV) (a0 a1 a2 a3 a4 a5 a6 a7 a8 a9 : Option AV) (z n : Int), (run1 CR Q K ((p, 9, 10, [n]) :: cs) (a0 :: a1 :: a2 :: a3 :: a4 :: a5 :: a6 :: a7 :: a8 :: a9 :: some (vI z) :: ls) st h) = (run1 CR Q K cs (a0 :: a1 :: a2 :: a3 :: a4 :: a5 :: a6 :: a7 :: a8 :: a9 :: some (vI (w32 (z + n))) :: ls) st h)) ∧ (∀ (p : Nat) (cs : List AE) (h : AH) (ls : LcT) (st : List AV) (a0 a1 a2 a3 a4 a5 a6 a7 a8 a9 a10 : Option AV) (z : Int) (ys : List Int), (run1 CR Q K ((p, 3, 11, ys) :: cs) (a0 :: a1 :: a2 :: a3 :: a4 :: a5 :: a6 :: a7 :: a8 :: a9 :: a10 :: some (vI z) :: ls) st h) = (run1 CR Q K cs (a0 :: a1 :: a2 :: a3 :: a4 :: a5 :: a6 :: a7 :: a8 :: a9 :: a10 :: some (vI z) :: ls) (vI z :: st) h)) ∧ (∀ (p : Nat) (cs : List AE) (h : AH) (ls : LcT) (st : List AV) (a0 a1 a2 a3 a4 a5 a6 a7 a8 a9 a10 : Option AV) (z : Int) (ys : List Int), (run1 CR Q K ((p, 4, 11, ys) :: cs) (a0 :: a1 :: a2 :: a3 :: a4 :: a5 :: a6 :: a7 :: a8 :: a9 :: a10 :: some (vL z) :: ls) st h) = (run1 CR Q K cs (a0 :: a1 :: a2 :: a3 :: a4 :: a5 :: a6 :: a7 :: a8 :: a9 :: a10 :: some (vL z) :: ls) (vL z :: st) h)) ∧ (∀ (p : Nat) (cs : List AE) (h : AH) (ls : LcT) (st : List AV) (a0 a1 a2 a3 a4 a5 a6 a7 a8 a9 a10 : Option AV) (z : Nat) (ys : List Int), (run1 CR Q K ((p, 5, 11, ys) :: cs) (a0 :: a1 :: a2 :: a3 :: a4 :: a5 :: a6 :: a7 :: a8 :: a9 :: a10 :: some (vR z) :: ls) st h) = (run1 CR Q K cs (a0 :: a1 :: a2 :: a3 :: a4 :: a5 :: a6 :: a7 :: a8 :: a9 :: a10 :: some (vR z) :: ls) (vR z :: st) h)) ∧ (∀ (p : Nat) (cs : List AE) (h : AH) (ls : LcT) (st : List AV) (a0 a1 a2 a3 a4 a5 a6 a7 a8 a9 a10 : Option AV) (b : Option AV) (z : Int) (ys : List Int), (run1 CR Q K ((p, 6, 11, ys) :: cs) (a0 :: a1 :: a2 :: a3 :: a4 :: a5 :: a6 :: a7 :: a8 :: a9 :: a10 :: b :: ls) (vI z :: st) h) = ((stK a10 = true ∧ run1 CR Q K cs (a0 :: a1 :: a2 :: a3 :: a4 :: a5 :: a6 :: a7 :: a8 :: a9 :: a10 :: some (vI z) :: ls) st h))) ∧ (∀ (p : Nat) (cs : List AE) (h : AH) (ls : LcT) (st : List AV) (a0 a1 a2 a3 a4 a5 a6 a7 a8 a9 a10 : Option AV) (b : Option AV) (z : Nat) (ys : List Int), (run1 CR Q K ((p, 8, 11, ys) :: cs) (a0 :: a1 :: a2 :: a3 :: a4 :: a5 :: a6 :: a7 :: a8 :: a9 :: a10 :: b :: ls) (vR z :: st) h) = ((stK a10 = true ∧ run1 CR Q K cs (a0 :: a1 :: a2 :: a3 :: a4 :: a5 :: a6 :: a7 :: a8 :: a9 :: a10 :: some (vR z) :: ls) st h))) ∧ (∀ (p : Nat) (cs : List AE) (h : AH) (ls : LcT) (st : List AV) (a0 a1 a2 a3 a4 a5 a6 a7 a8 a9 a10 : Option AV) (b b2 : Option AV) (z : Int) (ys : List Int), (run1 CR Q K ((p, 7, 11, ys) :: cs) (a0 :: a1 :: a2 :: a3 :: a4 :: a5 :: a6 :: a7 :: a8 :: a9 :: a10 :: b :: b2 :: ls) (vL z :: st) h) = ((stK a10 = true ∧ run1 CR Q K cs (a0 :: a1 :: a2 :: a3 :: a4 :: a5 :: a6 :: a7 :: a8 :: a9 :: a10 :: some (vL z) :: none :: ls) st h))) ∧ (∀ (p : Nat) (cs : List AE) (h : AH) (ls : LcT) (st : List AV) (a0 a1 a2 a3 a4 a5 a6 a7 a8 a9 a10 : Option AV) (z n : Int), (run1 CR Q K ((p, 9, 11, [n]) :: cs) (a0 :: a1 :: a2 :: a3 :: a4 :: a5 :: a6 :: a7 :: a8 :: a9 :: a10 :: some (vI z) :: ls) st h) = (run1 CR Q K cs (a0 :: a1 :: a2 :: a3 :: a4 :: a5 :: a6 :: a7 :: a8 :: a9 :: a10 :: some (vI (w32 (z + n))) :: ls) st h)) ∧ (∀ (p : Nat) (cs : List AE) (h : AH) (ls : LcT) (st : List AV) (a0 a1 a2 a3 a4 a5 a6 a7 a8 a9 a10 a11 : Option AV) (z : Int) (ys : List Int), (run1 CR Q K ((p, 3, 12, ys) :: cs) (a0 :: a1 :: a2 :: a3 :: a4 :: a5 :: a6 :: a7 :: a8 :: a9 :: a10 :: a11 :: some (vI z) :: ls) st h) = (run1 CR Q K cs (a0 :: a1 :: a2 :: a3 :: a4 :: a5 :: a6 :: a7 :: a8 :: a9 :: a10 :: a11 :: some (vI z) :: ls) (vI z :: st) h)) ∧ (∀ (p : Nat) (cs : List AE) (h : AH) (ls : LcT) (st : List AV) (a0 a1 a2 a3 a4 a5 a6 a7 a8 a9 a10 a11 : Option AV) (z : Int) (ys : List Int), (run1 CR Q K ((p, 4, 12, ys) :: cs) (a0 :: a1 :: a2 :: a3 :: a4 :: a5 :: a6 :: a7 :: a8 :: a9 :: a10 :: a11 :: some (vL z) :: ls) st h) = (run1 CR Q K cs (a0 :: a1 :: a2 :: a3 :: a4 :: a5 :: a6 :: a7 :: a8 :: a9 :: a10 :: a11 :: some (vL z) :: ls) (vL z :: st) h)) ∧ (∀ (p : Nat) (cs : List AE) (h : AH) (ls : LcT) (st : List AV) (a0 a1 a2 a3 a4 a5 a6 a7 a8 a9 a10 a11 : Option AV) (z : Nat) (ys : List Int), (run1 CR Q K ((p, 5, 12, ys) :: cs) (a0 :: a1 :: a2 :: a3 :: a4 :: a5 :: a6 :: a7 :: a8 :: a9 :: a10 :: a11 :: some (vR z) :: ls) st h) = (run1 CR Q K cs (a0 :: a1 :: a2 :: a3 :: a4 :: a5 :: a6 :: a7 :: a8 :: a9 :: a10 :: a11 :: some (vR z) :: ls) (vR z :: st) h)) ∧ (∀ (p : Nat) (cs : List AE) (h : AH) (ls : LcT) (st : List AV) (a0 a1 a2 a3 a4 a5 a6 a7 a8 a9 a10 a11 : Option AV) (b : Option AV) (z : Int) (ys : List Int), (run1 CR Q K ((p, 6, 12, ys) :: cs) (a0 :: a1 :: a2 :: a3 :: a4 :: a5 :: a6 :: a7 :: a8 :: a9 :: a10 :: a11 :: b :: ls) (vI z :: st) h) = ((stK a11 = true ∧ run1 CR Q K cs (a0 :: a1 :: a2 :: a3 :: a4 :: a5 :: a6 :: a7 :: a8 :: a9 :: a10 :: a11 :: some (vI z) :: ls) st h))) ∧ (∀ (p : Nat) (cs : List AE) (h : AH) (ls : LcT) (st : List AV) (a0 a1 a2 a3 a4 a5 a6 a7 a8 a9 a10 a11 : Option AV) (b : Option AV) (z : Nat) (ys : List Int), (run1 CR Q K ((p, 8, 12, ys) :: cs) (a0 :: a1 :: a2 :: a3 :: a4 :: a5 :: a6 :: a7 :: a8 :: a9 :: a10 :: a11 :: b :: ls) (vR z :: st) h) = ((stK a11 = true ∧ run1 CR Q K cs (a0 :: a1 :: a2 :: a3 :: a4 :: a5 :: a6 :: a7 :: a8 :: a9 :: a10 :: a11 :: some (vR z) :: ls) st h))) ∧ (∀ (p : Nat) (cs : List AE) (h : AH) (ls : LcT) (st : List AV) (a0 a1 a2 a3 a4 a5 a6 a7 a8 a9 a10 a11 : Option AV) (b b2 : Option AV) (z : Int) (ys : List Int), (run1 CR Q K ((p, 7, 12, ys) :: cs) (a0 :: a1 :: a2 :: a3 :: a4 :: a5 :: a6 :: a7 :: a8 :: a9 :: a10 :: a11 :: b :: b2 :: ls) (vL z :: st) h) = ((stK a11 = true ∧ run1 CR Q K cs (a0 :: a1 :: a2 :: a3 :: a4 :: a5 :: a6 :: a7 :: a8 :: a9 :: a10 :: a11 :: some (vL z) :: none :: ls) st h))) ∧ (∀ (p : Nat) (cs : List AE) (h : AH) (ls : LcT) (st : List AV) (a0 a1 a2 a3 a4 a5 a6 a7 a8 a9 a10 a11 : Option AV) (z n : Int), (run1 CR Q K ((p, 9, 12, [n]) :: cs) (a0 :: a1 :: a2 :: a3 :: a4 :: a5 :: a6 :: a7 :: a8 :: a9 :: a10 :: a11 :: some (vI z) :: ls) st h) = (run1 CR Q K cs (a0 :: a1 :: a2 :: a3 :: a4 :: a5 :: a6 :: a7 :: a8 :: a9 :: a10 :: a11 :: some (vI (w32 (z + n))) :: ls) st h)) ∧ (∀ (p : Nat) (cs : List AE) (h : AH) (ls : LcT) (st : List AV) (a0 a1 a2 a3 a4 a5 a6 a7 a8 a9 a10 a11 a12 : Option AV) (z : Int) (ys : List Int), (run1 CR Q K ((p, 3, 13, ys) :: cs) (a0 :: a1 :: a2 :: a3 :: a4 :: a5 :: a6 :: a7 :: a8 :: a9 :: a10 :: a11 :: a12 :: some (vI z) :: ls) st h) = (run1 CR Q K cs (a0 :: a1 :: a2 :: a3 :: a4 :: a5 :: a6 :: a7 :: a8 :: a9 :: a10 :: a11 :: a12 :: some (vI z) :: ls) (vI z :: st) h)) ∧ (∀ (p : Nat) (cs : List AE) (h : AH) (ls : LcT) (st : List AV) (a0 a1 a2 a3 a4 a5 a6 a7 a8 a9 a10 a11 a12 : Option AV) (z : Int) (ys : List Int), (run1 CR Q K ((p, 4, 13, ys) :: cs) (a0 :: a1 :: a2 :: a3 :: a4 :: a5 :: a6 :: a7 :: a8 :: a9 :: a10 :: a11 :: a12 :: some (vL z) :: ls) st h) = (run1 CR Q K cs (a0 :: a1 :: a2 :: a3 :: a4 :: a5 :: a6 :: a7 :: a8 :: a9 :: a10 :: a11 :: a12 :: some (vL z) :: ls) (vL z :: st) h)) ∧ (∀ (p : Nat) (cs : List AE) (h : AH) (ls : LcT) (st : List AV) (a0 a1 a2 a3 a4 a5 a6 a7 a8 a9 a10 a11 a12 : Option AV) (z : Nat) (ys : List Int), (run1 CR Q K ((p, 5, 13, ys) :: cs) (a0 :: a1 :: a2 :: a3 :: a4 :: a5 :: a6 :: a7 :: a8 :: a9 :: a10 :: a11 :: a12 :: some (vR z) :: ls) st h) = (run1 CR Q K cs (a0 :: a1 :: a2 :: a3 :: a4 :: a5 :: a6 :: a7 :: a8 :: a9 :: a10 :: a11 :: a12 :: some (vR z) :: ls) (vR z :: st) h)) ∧ (∀ (p : Nat) (cs : List AE) (h : AH) (ls : LcT) (st : List AV) (a0 a1 a2 a3 a4 a5 a6 a7 a8 a9 a10 a11 a12 : Option AV) (b : Option AV) (z : Int) (ys : List Int), (run1 CR Q K ((p, 6, 13, ys) :: cs) (a0 :: a1 :: a2 :: a3 :: a4 :: a5 :: a6 :: a7 :: a8 :: a9 :: a10 :: a11 :: a12 :: b :: ls) (vI z :: st) h) = ((stK a12 = true ∧ run1 CR Q K cs (a0 :: a1 :: a2 :: a3 :: a4 :: a5 :: a6 :: a7 :: a8 :: a9 :: a10 :: a11 :: a12 :: some (vI z) :: ls) st h))) ∧ (∀ (p : Nat) (cs : List AE) (h : AH) (ls : LcT) (st : List AV) (a0 a1 a2 a3 a4 a5 a6 a7 a8 a9 a10 a11 a12 : Option AV) (b : Option AV) (z : Nat) (ys : List Int), (run1 CR Q K ((p, 8, 13, ys) :: cs) (a0 :: a1 :: a2 :: a3 :: a4 :: a5 :: a6 :: a7 :: a8 :: a9 :: a10 :: a11 :: a12 :: b :: ls) (vR z :: st) h) = ((stK a12 = true ∧ run1 CR Q K cs (a0 :: a1 :: a2 :: a3 :: a4 :: a5 :: a6 :: a7 :: a8 :: a9 :: a10 :: a11 :: a12 :: some (vR z) :: ls) st h))) ∧ (∀ (p : Nat) (cs : List AE) (h : AH) (ls : LcT) (st : List AV) (a0 a1 a2 a3 a4 a5 a6 a7 a8 a9 a10 a11 a12 : Option AV) (b b2 : Option AV) (z : Int) (ys : List Int), (run1 CR Q K ((p, 7, 13, ys) :: cs) (a0 :: a1 :: a2 :: a3 :: a4 :: a5 :: a6 :: a7 :: a8 :: a9 :: a10 :: a11 :: a12 :: b :: b2 :: ls) (vL z :: st) h) = ((stK a12 = true ∧ run1 CR Q K cs (a0 :: a1 :: a2 :: a3 :: a4 :: a5 :: a6 :: a7 :: a8 :: a9 :: a10 :: a11 :: a12 :: some (vL z) :: none :: ls) st h))) ∧ (∀ (p : Nat) (cs : List AE) (h : AH) (ls : LcT) (st : List AV) (a0 a1 a2 a3 a4 a5 a6 a7 a8 a9 a10 a11 a12 : Option AV) (z n : Int), (run1 CR Q K ((p, 9, 13, [n]) :: cs) (a0 :: a1 :: a2 :: a3 :: a4 :: a5 :: a6 :: a7 :: a8 :: a9 :: a10 :: a11 :: a12 :: some (vI z) :: ls) st h) = (run1 CR Q K cs (a0 :: a1 :: a2 :: a3 :: a4 :: a5 :: a6 :: a7 :: a8 :: a9 :: a10 :: a11 :: a12 :: some (vI (w32 (z + n))) :: ls) st h)) ∧ (∀ (p : Nat) (cs : List AE) (h : AH) (ls : LcT) (st : List AV) (a b x : Int) (ys : List Int), (run1 CR Q K ((p, 10, x, ys) :: cs) ls (vI b :: vI a :: st) h) = (run1 CR Q K cs ls (vI (w32 (a + b)) :: st) h)) ∧ (∀ (p : Nat) (cs : List AE) (h : AH) (ls : LcT) (st : List AV) (a b x : Int) (ys : List Int), (run1 CR Q K ((p, 11, x, ys) :: cs) ls (vI b :: vI a :: st) h) = (run1 CR Q K cs ls (vI (w32 (a - b)) :: st) h)) ∧ (∀ (p : Nat) (cs : List AE) (h : AH) (ls : LcT) (st : List AV) (a b x : Int) (ys : List Int), (run1 CR Q K ((p, 12, x, ys) :: cs) ls (vI b :: vI a :: st) h) = (run1 CR Q K cs ls (vI (w32 (a * b)) :: st) h)) ∧ (∀ (p : Nat) (cs : List AE) (h : AH) (ls : LcT) (st : List AV) (a b x : Int) (ys : List Int), (run1 CR Q K ((p, 15, x, ys) :: cs) ls (vI b :: vI a :: st) h) = (run1 CR Q K cs ls (vI (and32 a b) :: st) h)) ∧ (∀ (p : Nat) (cs : List AE) (h : AH) (ls : LcT) (st : List AV) (a b x : Int) (ys : List Int), (run1 CR Q K ((p, 16, x, ys) :: cs) ls (vI b :: vI a :: st) h) = (run1 CR Q K cs ls (vI (or32 a b) :: st) h)) ∧ (∀ (p : Nat) (cs : List AE) (h : AH) (ls : LcT) (st : List AV) (a b x : Int) (ys : List Int), (run1 CR Q K ((p, 17, x, ys) :: cs) ls (vI b :: vI a :: st) h) = (run1 CR Q K cs ls (vI (xor32 a b) :: st) h)) ∧ (∀ (p : Nat) (cs : List AE) (h : AH) (ls : LcT) (st : List AV) (a b x : Int) (ys : List Int), (run1 CR Q K ((p, 18, x, ys) :: cs) ls (vI b :: vI a :: st) h) = (run1 CR Q K cs ls (vI (shl32 a b) :: st) h)) ∧ (∀ (p : Nat) (cs : List AE) (h : AH) (ls : LcT) (st : List AV) (a b x : Int) (ys : List Int), (run1 CR Q K ((p, 19, x, ys) :: cs) ls (vI b :: vI a :: st) h) = (run1 CR Q K cs ls (vI (shr32 a b) :: st) h)) ∧ (∀ (p : Nat) (cs : List AE) (h : AH) (ls : LcT) (st : List AV) (a b x : Int) (ys : List Int), (run1 CR Q K ((p, 20, x, ys) :: cs) ls (vI b :: vI a :: st) h) = (run1 CR Q K cs ls (vI (ushr32 a b) :: st) h)) ∧ (∀ (p : Nat) (cs : List AE) (h : AH) (ls : LcT) (st : List AV) (a b x : Int) (ys : List Int), (run1 CR Q K ((p, 13, x, ys) :: cs) ls (vI b :: vI a :: st) h) = ((b ≠ 0 ∧ run1 CR Q K cs ls (vI (d32 a b) :: st) h))) ∧ (∀ (p : Nat) (cs : List AE) (h : AH) (ls : LcT) (st : List AV) (a b x : Int) (ys : List Int), (run1 CR Q K ((p, 14, x, ys) :: cs) ls (vI b :: vI a :: st) h) = ((b ≠ 0 ∧ run1 CR Q K cs ls (vI (m32 a b) :: st) h))) ∧ (∀ (p : Nat) (cs : List AE) (h : AH) (ls : LcT) (st : List AV) (a b x : Int) (ys : List Int), (run1 CR Q K ((p, 21, x, ys) :: cs) ls (vL b :: vL a :: st) h) = (run1 CR Q K cs ls (vL (w64 (a + b)) :: st) h)) ∧ (∀ (p : Nat) (cs : List AE) (h : AH) (ls : LcT) (st : List AV) (a b x : Int) (ys : List Int), (run1 CR Q K ((p, 22, x, ys) :: cs) ls (vL b :: vL a :: st) h) = (run1 CR Q K cs ls (vL (w64 (a - b)) :: st) h)) ∧ (∀ (p : Nat) (cs : List AE) (h : AH) (ls : LcT) (st : List AV) (a b x : Int) (ys : List Int), (run1 CR Q K ((p, 23, x, ys) :: cs) ls (vL b :: vL a :: st) h) = (run1 CR Q K cs ls (vL (w64 (a * b)) :: st) h)) ∧ (∀ (p : Nat) (cs : List AE) (h : AH) (ls : LcT) (st : List AV) (a b x : Int) (ys : List Int), (run1 CR Q K ((p, 24, x, ys) :: cs) ls (vL b :: vL a :: st) h) = (run1 CR Q K cs ls (vL (and64 a b) :: st) h)) ∧ (∀ (p : Nat) (cs : List AE) (h : AH) (ls : LcT) (st : List AV) (a b x : Int) (ys : List Int), (run1 CR Q K ((p, 27, x, ys) :: cs) ls (vL b :: vL a :: st) h) = (run1 CR Q K cs ls (vI (cmp64 a b) :: st) h)) ∧ (∀ (p : Nat) (cs : List AE) (h : AH) (ls : LcT) (st : List AV) (a b x : Int) (ys : List Int), (run1 CR Q K ((p, 25, x, ys) :: cs) ls (vI b :: vL a :: st) h) = (run1 CR Q K cs ls (vL (shr64 a b) :: st) h)) ∧ (∀ (p : Nat) (cs : List AE) (h : AH) (ls : LcT) (st : List AV) (a b x : Int) (ys : List Int), (run1 CR Q K ((p, 26, x, ys) :: cs) ls (vI b :: vL a :: st) h) = (run1 CR Q K cs ls (vL (ushr64 a b) :: st) h)) ∧ (∀ (p : Nat) (cs : List AE) (h : AH) (ls : LcT) (st : List AV) (a x : Int) (ys : List Int), (run1 CR Q K ((p, 28, x, ys) :: cs) ls (vI a :: st) h) = (run1 CR Q K cs ls (vL a :: st) h)) ∧ (∀ (p : Nat) (cs : List AE) (h : AH) (ls : LcT) (st : List AV) (a x : Int) (ys : List Int), (run1 CR Q K ((p, 29, x, ys) :: cs) ls (vL a :: st) h) = (run1 CR Q K cs ls (vI (l2i32 a) :: st) h)) ∧ (∀ (p : Nat) (cs : List AE) (h : AH) (ls : LcT) (st : List AV) (a x : Int) (ys : List Int), (run1 CR Q K ((p, 30, x, ys) :: cs) ls (vI a :: st) h) = (run1 CR Q K cs ls (vI (w8 a) :: st) h)) ∧ (∀ (p : Nat) (cs : List AE) (h : AH) (ls : LcT) (st : List AV) (a x : Int) (ys : List Int), (run1 CR Q K ((p, 31, x, ys) :: cs) ls (vI a :: st) h) = (run1 CR Q K cs ls (vI (w16 a) :: st) h)) ∧ (∀ (p : Nat) (cs : List AE) (h : AH) (ls : LcT) (st : List AV) (a x : Int) (ys : List Int), (run1 CR Q K ((p, 32, x, ys) :: cs) ls (vI a :: st) h) = (run1 CR Q K cs ls (vI a :: vI a :: st) h)) ∧ (∀ (p : Nat) (cs : List AE) (h : AH) (ls : LcT) (st : List AV) (a : Nat) (x : Int) (ys : List Int), (run1 CR Q K ((p, 32, x, ys) :: cs) ls (vR a :: st) h) = (run1 CR Q K cs ls (vR a :: vR a :: st) h)) ∧ (∀ (p : Nat) (cs : List AE) (h : AH) (ls : LcT) (st : List AV) (a x : Int) (b : Nat) (ys : List Int), (run1 CR Q K ((p, 33, x, ys) :: cs) ls (vI a :: vR b :: st) h) = (run1 CR Q K cs ls (vI a :: vR b :: vI a :: vR b :: st) h)) ∧ (∀ (p : Nat) (cs : List AE) (h : AH) (ls : LcT) (st : List AV) (x : Int) (ys : List Int), (run1 CR Q K ((p, 36, x, ys) :: cs) ls st h) = (K x.toNat ls st h)) ∧ (∀ (p : Nat) (cs : List AE) (h : AH) (ls : LcT) (st : List AV) (a x lo : Int) (ys : List Int), (run1 CR Q K ((p, 37, x, (lo :: ys)) :: cs) ls (vI a :: st) h) = ((((a < lo ∨ lo + (ys.length : Nat) ≤ a) → K x.toNat ls st h) ∧ swT (fun t => K t.toNat ls st h) a lo ys))) ∧ (∀ (p : Nat) (cs : List AE) (h : AH) (ls : LcT) (st : List AV) (a x : Int) (ys : List Int), (run1 CR Q K ((p, 38, x, ys) :: cs) ls (vI a :: st) h) = (lkT (fun t => K t.toNat ls st h) a x ys)) ∧ (∀ (p : Nat) (cs : List AE) (h : AH) (ls : LcT) (st : List AV) (k : Nat) (x y : Int), (run1 CR Q K ((p, 39, x, [y]) :: cs) ls (vR k :: st) h) = ((((sh k).1 = 0 ∧ (sh k).2.1 = x.toNat) ∧ run1 CR Q K cs ls (fv h k y.toNat ((sh k).2.2.getD y.toNat 0) :: st) h))) ∧ (∀ (p : Nat) (cs : List AE) (h : AH) (ls : LcT) (st : List AV) (k : Nat) (z x y : Int), (run1 CR Q K ((p, 40, x, [y]) :: cs) ls (vI z :: vR k :: st) h) = ((((sh k).1 = 0 ∧ (sh k).2.1 = x.toNat) ∧ pfI ((sh k).2.2.getD y.toNat 9) z (run1 CR Q K cs ls st (hu h k y.toNat z))))) ∧ (∀ (p : Nat) (cs : List AE) (h : AH) (ls : LcT) (st : List AV) (k : Nat) (z x y : Int), (run1 CR Q K ((p, 40, x, [y]) :: cs) ls (vL z :: vR k :: st) h) = ((((sh k).1 = 0 ∧ (sh k).2.1 = x.toNat) ∧ ((sh k).2.2.getD y.toNat 9 = 1 ∧ run1 CR Q K cs ls st (hu h k y.toNat z))))) ∧ (∀ (p : Nat) (cs : List AE) (h : AH) (ls : LcT) (st : List AV) (k : Nat) (j x : Int) (ys : List Int), (run1 CR Q K ((p, 41, x, ys) :: cs) ls (vI j :: vR k :: st) h) = ((((sh k).1 = 1 ∧ (0 ≤ j ∧ j < (sh k).2.1) ∧ run1 CR Q K cs ls (vI (h k j.toNat) :: st) h) ∨ ((sh k).1 = 7 ∧ (0 ≤ j ∧ j < 6) ∧ k = 2000 ∧ run1 CR Q K cs ls (vI (aboveF j.toNat) :: st) h)))) ∧ (∀ (p : Nat) (cs : List AE) (h : AH) (ls : LcT) (st : List AV) (k : Nat) (j x : Int) (ys : List Int), (run1 CR Q K ((p, 43, x, ys) :: cs) ls (vI j :: vR k :: st) h) = (((sh k).1 = 2 ∧ (0 ≤ j ∧ j < (sh k).2.1) ∧ run1 CR Q K cs ls (vI (h k j.toNat) :: st) h))) ∧ (∀ (p : Nat) (cs : List AE) (h : AH) (ls : LcT) (st : List AV) (k : Nat) (j x : Int) (ys : List Int), (run1 CR Q K ((p, 45, x, ys) :: cs) ls (vI j :: vR k :: st) h) = (((sh k).1 = 3 ∧ (0 ≤ j ∧ j < (sh k).2.1) ∧ run1 CR Q K cs ls (vL (h k j.toNat) :: st) h))) ∧ (∀ (p : Nat) (cs : List AE) (h : AH) (ls : LcT) (st : List AV) (k : Nat) (z j x : Int) (ys : List Int), (run1 CR Q K ((p, 42, x, ys) :: cs) ls (vI z :: vI j :: vR k :: st) h) = (((sh k).1 = 1 ∧ (0 ≤ j ∧ j < (sh k).2.1) ∧ run1 CR Q K cs ls st (hu h k j.toNat z)))) ∧ (∀ (p : Nat) (cs : List AE) (h : AH) (ls : LcT) (st : List AV) (k : Nat) (z j x : Int) (ys : List Int), (run1 CR Q K ((p, 44, x, ys) :: cs) ls (vI z :: vI j :: vR k :: st) h) = (((sh k).1 = 2 ∧ (0 ≤ j ∧ j < (sh k).2.1) ∧ run1 CR Q K cs ls st (hu h k j.toNat (w8 z))))) ∧ (∀ (p : Nat) (cs : List AE) (h : AH) (ls : LcT) (st : List AV) (k : Nat) (z j x : Int) (ys : List Int), (run1 CR Q K ((p, 46, x, ys) :: cs) ls (vL z :: vI j :: vR k :: st) h) = (((sh k).1 = 3 ∧ (0 ≤ j ∧ j < (sh k).2.1) ∧ run1 CR Q K cs ls st (hu h k j.toNat z)))) ∧ (∀ (p : Nat) (cs : List AE) (h : AH) (ls : LcT) (st : List AV) (k : Nat) (j x : Int) (ys : List Int), (run1 CR Q K ((p, 47, x, ys) :: cs) ls (vI j :: vR k :: st) h) = (((4 ≤ (sh k).1 ∧ (sh k).1 ≤ 6) ∧ (0 ≤ j ∧ j < (sh k).2.1) ∧ run1 CR Q K cs ls (vR ((sh k).2.2.getD 0 0 + (sh k).2.2.getD 1 0 * j.toNat) :: st) h))) ∧ (∀ (p : Nat) (cs : List AE) (h : AH) (ls : LcT) (st : List AV) (x : Int), (run1 CR Q K ((p, 48, x, [0]) :: cs) ls (st) h) = ((st.length ≤ 4 ∧ ∃ P, CR x.toNat [] h P ∧ ∀ r h', P r h' → run1 CR Q K cs ls (r.toList ++ st) h'))) ∧ (∀ (p : Nat) (cs : List AE) (h : AH) (ls : LcT) (st : List AV) (k : Nat) (x y : Int), (run1 CR Q K ((p, 49, x, [0, y]) :: cs) ls (vR k :: st) h) = ((st.length ≤ 4 ∧ ((sh k).1 = 0 ∧ (sh k).2.1 = y.toNat) ∧ ∃ P, CR x.toNat (vR k :: []) h P ∧ ∀ r h', P r h' → run1 CR Q K cs ls (r.toList ++ st) h'))) ∧ (∀ (p : Nat) (cs : List AE) (h : AH) (ls : LcT) (st : List AV) (k : Nat) (x : Int), (run1 CR Q K ((p, 50, x, [0]) :: cs) ls (vR k :: st) h) = ((st.length ≤ 4 ∧ (1000 ≤ k ∧ k < 1012) ∧ ∃ P, CR x.toNat (vR k :: []) h P ∧ ∀ r h', P r h' → run1 CR Q K cs ls (r.toList ++ st) h'))) ∧ (∀ (p : Nat) (cs : List AE) (h : AH) (ls : LcT) (st : List AV) (b0 : AV) (x : Int), (run1 CR Q K ((p, 48, x, [1]) :: cs) ls (b0 :: st) h) = ((st.length ≤ 4 ∧ ∃ P, CR x.toNat [b0] h P ∧ ∀ r h', P r h' → run1 CR Q K cs ls (r.toList ++ st) h'))) ∧ (∀ (p : Nat) (cs : List AE) (h : AH) (ls : LcT) (st : List AV) (b0 : AV) (k : Nat) (x y : Int), (run1 CR Q K ((p, 49, x, [1, y]) :: cs) ls (b0 :: vR k :: st) h) = ((st.length ≤ 4 ∧ ((sh k).1 = 0 ∧ (sh k).2.1 = y.toNat) ∧ ∃ P, CR x.toNat (vR k :: [b0]) h P ∧ ∀ r h', P r h' → run1 CR Q K cs ls (r.toList ++ st) h'))) ∧ (∀ (p : Nat) (cs : List AE) (h : AH) (ls : LcT) (st : List AV) (b0 : AV) (k : Nat) (x : Int), (run1 CR Q K ((p, 50, x, [1]) :: cs) ls (b0 :: vR k :: st) h) = ((st.length ≤ 4 ∧ (1000 ≤ k ∧ k < 1012) ∧ ∃ P, CR x.toNat (vR k :: [b0]) h P ∧ ∀ r h', P r h' → run1 CR Q K cs ls (r.toList ++ st) h'))) ∧ (∀ (p : Nat) (cs : List AE) (h : AH) (ls : LcT) (st : List AV) (b0 b1 : AV) (x : Int), (run1 CR Q K ((p, 48, x, [2]) :: cs) ls (b1 :: b0 :: st) h) = ((st.length ≤ 4 ∧ ∃ P, CR x.toNat [b0, b1] h P ∧ ∀ r h', P r h' → run1 CR Q K cs ls (r.toList ++ st) h'))) ∧ (∀ (p : Nat) (cs : List AE) (h : AH) (ls : LcT) (st : List AV) (b0 b1 : AV) (k : Nat) (x y : Int), (run1 CR Q K ((p, 49, x, [2, y]) :: cs) ls (b1 :: b0 :: vR k :: st) h) = ((st.length ≤ 4 ∧ ((sh k).1 = 0 ∧ (sh k).2.1 = y.toNat) ∧ ∃ P, CR x.toNat (vR k :: [b0, b1]) h P ∧ ∀ r h', P r h' → run1 CR Q K cs ls (r.toList ++ st) h'))) ∧ (∀ (p : Nat) (cs : List AE) (h : AH) (ls : LcT) (st : List AV) (b0 b1 b2 : AV) (x : Int), (run1 CR Q K ((p, 48, x, [3]) :: cs) ls (b2 :: b1 :: b0 :: st) h) = ((st.length ≤ 4 ∧ ∃ P, CR x.toNat [b0, b1, b2] h P ∧ ∀ r h', P r h' → run1 CR Q K cs ls (r.toList ++ st) h'))) ∧ (∀ (p : Nat) (cs : List AE) (h : AH) (ls : LcT) (st : List AV) (b0 b1 b2 : AV) (k : Nat) (x y : Int), (run1 CR Q K ((p, 49, x, [3, y]) :: cs) ls (b2 :: b1 :: b0 :: vR k :: st) h) = ((st.length ≤ 4 ∧ ((sh k).1 = 0 ∧ (sh k).2.1 = y.toNat) ∧ ∃ P, CR x.toNat (vR k :: [b0, b1, b2]) h P ∧ ∀ r h', P r h' → run1 CR Q K cs ls (r.toList ++ st) h'))) ∧ (∀ (p : Nat) (cs : List AE) (h : AH) (ls : LcT) (st : List AV) (b0 b1 b2 b3 : AV) (x : Int), (run1 CR Q K ((p, 48, x, [4]) :: cs) ls (b3 :: b2 :: b1 :: b0 :: st) h) = ((st.length ≤ 4 ∧ ∃ P, CR x.toNat [b0, b1, b2, b3] h P ∧ ∀ r h', P r h' → run1 CR Q K cs ls (r.toList ++ st) h'))) ∧ (∀ (p : Nat) (cs : List AE) (h : AH) (ls : LcT) (st : List AV) (b0 b1 b2 b3 : AV) (k : Nat) (x y : Int), (run1 CR Q K ((p, 49, x, [4, y]) :: cs) ls (b3 :: b2 :: b1 :: b0 :: vR k :: st) h) = ((st.length ≤ 4 ∧ ((sh k).1 = 0 ∧ (sh k).2.1 = y.toNat) ∧ ∃ P, CR x.toNat (vR k :: [b0, b1, b2, b3]) h P ∧ ∀ r h', P r h' → run1 CR Q K cs ls (r.toList ++ st) h'))) ∧ (∀ (p : Nat) (cs : List AE) (h : AH) (ls : LcT) (st : List AV) (b0 b1 b2 b3 b4 : AV) (x : Int), (run1 CR Q K ((p, 48, x, [5]) :: cs) ls (b4 :: b3 :: b2 :: b1 :: b0 :: st) h) = ((st.length ≤ 4 ∧ ∃ P, CR x.toNat [b0, b1, b2, b3, b4] h P ∧ ∀ r h', P r h' → run1 CR Q K cs ls (r.toList ++ st) h'))) ∧ (∀ (p : Nat) (cs : List AE) (h : AH) (ls : LcT) (st : List AV) (b0 b1 b2 b3 b4 : AV) (k : Nat) (x y : Int), (run1 CR Q K ((p, 49, x, [5, y]) :: cs) ls (b4 :: b3 :: b2 :: b1 :: b0 :: vR k :: st) h) = ((st.length ≤ 4 ∧ ((sh k).1 = 0 ∧ (sh k).2.1 = y.toNat) ∧ ∃ P, CR x.toNat (vR k :: [b0, b1, b2, b3, b4]) h P ∧ ∀ r h', P r h' → run1 CR Q K cs ls (r.toList ++ st) h'))) ∧ (∀ (p : Nat) (cs : List AE) (h : AH) (ls : LcT) (st : List AV) (k0 k1 : Nat) (sp dp n x : Int) (ys : List Int), (run1 CR Q K ((p, 51, x, ys) :: cs) ls (vI n :: vI dp :: vR k1 :: vI sp :: vR k0 :: st) h) = ((((sh k0).1 = 1 ∧ (sh k1).1 = 1 ∧ st.length ≤ 4) ∧ (0 ≤ sp ∧ 0 ≤ dp ∧ 0 ≤ n ∧ sp + n ≤ (sh k0).2.1 ∧ dp + n ≤ (sh k1).2.1) ∧ run1 CR Q K cs ls st (hcpy h k0 k1 sp.toNat dp.toNat n.toNat)))) ∧ (∀ (p : Nat) (cs : List AE) (h : AH) (ls : LcT) (st : List AV) (a b x : Int) (ys : List Int), (run1 CR Q K ((p, 55, x, ys) :: cs) ls (vI b :: vI a :: st) h) = ((st.length ≤ 4 ∧ run1 CR Q K cs ls (vI (max a b) :: st) h))) ∧ (∀ (p : Nat) (cs : List AE) (h : AH) (ls : LcT) (st : List AV) (a b x : Int) (ys : List Int), (run1 CR Q K ((p, 56, x, ys) :: cs) ls (vI b :: vI a :: st) h) = ((st.length ≤ 4 ∧ run1 CR Q K cs ls (vI (min a b) :: st) h))) ∧ (∀ (p : Nat) (cs : List AE) (h : AH) (ls : LcT) (z x : Int) (ys : List Int), (run1 CR Q K ((p, 52, x, ys) :: cs) ls [vI z] h) = (Q (some (vI z)) h)) ∧ (∀ (p : Nat) (cs : List AE) (h : AH) (ls : LcT) (z x : Int) (ys : List Int), (run1 CR Q K ((p, 53, x, ys) :: cs) ls [vI z] h) = (((z = 0 ∨ z = 1) ∧ Q (some (vI z)) h))) ∧ (∀ (p : Nat) (cs : List AE) (h : AH) (ls : LcT) (x : Int) (ys : List Int), (run1 CR Q K ((p, 54, x, ys) :: cs) ls [] h) = (Q none h)) ∧ (∀ (p : Nat) (cs : List AE) (h : AH) (ls : LcT) (st : List AV) (a x : Int) (ys : List Int), (run1 CR Q K ((p, 60, x, ys) :: cs) ls (vI a :: st) h) = (((a = 0 → K x.toNat ls st h) ∧ (¬ a = 0 → run1 CR Q K cs ls st h)))) ∧ (∀ (p : Nat) (cs : List AE) (h : AH) (ls : LcT) (st : List AV) (a x : Int) (ys : List Int), (run1 CR Q K ((p, 61, x, ys) :: cs) ls (vI a :: st) h) = (((¬ a = 0 → K x.toNat ls st h) ∧ (a = 0 → run1 CR Q K cs ls st h)))) ∧ (∀ (p : Nat) (cs : List AE) (h : AH) (ls : LcT) (st : List AV) (a x : Int) (ys : List Int), (run1 CR Q K ((p, 62, x, ys) :: cs) ls (vI a :: st) h) = (((a < 0 → K x.toNat ls st h) ∧ (¬ a < 0 → run1 CR Q K cs ls st h)))) ∧ (∀ (p : Nat) (cs : List AE) (h : AH) (ls : LcT) (st : List AV) (a x : Int) (ys : List Int), (run1 CR Q K ((p, 63, x, ys) :: cs) ls (vI a :: st) h) = (((¬ a < 0 → K x.toNat ls st h) ∧ (a < 0 → run1 CR Q K cs ls st h)))) ∧ (∀ (p : Nat) (cs : List AE) (h : AH) (ls : LcT) (st : List AV) (a x : Int) (ys : List Int), (run1 CR Q K ((p, 64, x, ys) :: cs) ls (vI a :: st) h) = (((0 < a → K x.toNat ls st h) ∧ (¬ 0 < a → run1 CR Q K cs ls st h)))) ∧ (∀ (p : Nat) (cs : List AE) (h : AH) (ls : LcT) (st : List AV) (a x : Int) (ys : List Int), (run1 CR Q K ((p, 65, x, ys) :: cs) ls (vI a :: st) h) = (((¬ 0 < a → K x.toNat ls st h) ∧ (0 < a → run1 CR Q K cs ls st h)))) ∧ (∀ (p : Nat) (cs : List AE) (h : AH) (ls : LcT) (st : List AV) (a b x : Int) (ys : List Int), (run1 CR Q K ((p, 70, x, ys) :: cs) ls (vI b :: vI a :: st) h) = (((a = b → K x.toNat ls st h) ∧ (¬ a = b → run1 CR Q K cs ls st h)))) ∧ (∀ (p : Nat) (cs : List AE) (h : AH) (ls : LcT) (st : List AV) (a b x : Int) (ys : List Int), (run1 CR Q K ((p, 71, x, ys) :: cs) ls (vI b :: vI a :: st) h) = (((¬ a = b → K x.toNat ls st h) ∧ (a = b → run1 CR Q K cs ls st h)))) ∧ (∀ (p : Nat) (cs : List AE) (h : AH) (ls : LcT) (st : List AV) (a b x : Int) (ys : List Int), (run1 CR Q K ((p, 72, x, ys) :: cs) ls (vI b :: vI a :: st) h) = (((a < b → K x.toNat ls st h) ∧ (¬ a < b → run1 CR Q K cs ls st h)))) ∧ (∀ (p : Nat) (cs : List AE) (h : AH) (ls : LcT) (st : List AV) (a b x : Int) (ys : List Int), (run1 CR Q K ((p, 73, x, ys) :: cs) ls (vI b :: vI a :: st) h) = (((¬ a < b → K x.toNat ls st h) ∧ (a < b → run1 CR Q K cs ls st h)))) ∧ (∀ (p : Nat) (cs : List AE) (h : AH) (ls : LcT) (st : List AV) (a b x : Int) (ys : List Int), (run1 CR Q K ((p, 74, x, ys) :: cs) ls (vI b :: vI a :: st) h) = (((b < a → K x.toNat ls st h) ∧ (¬ b < a → run1 CR Q K cs ls st h)))) ∧ (∀ (p : Nat) (cs : List AE) (h : AH) (ls : LcT) (st : List AV) (a b x : Int) (ys : List Int), (run1 CR Q K ((p, 75, x, ys) :: cs) ls (vI b :: vI a :: st) h) = (((¬ b < a → K x.toNat ls st h) ∧ (b < a → run1 CR Q K cs ls st h)))) := ⟨rl_0, rl_1, rl_2, rl_3, rl_4, rl_5, rl_6, rl_7, rl_8, rl_9, rl_10, rl_11, rl_12, rl_13, rl_14, rl_15, rl_16, rl_17, rl_18, rl_19, rl_20, rl_21, rl_22, rl_23, rl_24, rl_25, rl_26, rl_27, rl_28, rl_29, rl_30, rl_31, rl_32, rl_33, rl_34, rl_35, rl_36, rl_37, rl_38, rl_39, rl_40, rl_41, rl_42, rl_43, rl_44, rl_45, rl_46, rl_47, rl_48, rl_49, rl_50, rl_51, rl_52, rl_53, rl_54, rl_55, rl_56, rl_57, rl_58, rl_59, rl_60, rl_61, rl_62, rl_63, rl_64, rl_65, rl_66, rl_67, rl_68, rl_69, rl_70, rl_71, rl_72, rl_73, rl_74, rl_75, rl_76, rl_77, rl_78, rl_79, rl_80, rl_81, rl_82, rl_83, rl_84, rl_85, rl_86, rl_87, rl_88, rl_89, rl_90, rl_91, rl_92, rl_93, rl_94, rl_95, rl_96, rl_97, rl_98, rl_99, rl_100, rl_101, rl_102, rl_103, rl_104, rl_105, rl_106, rl_107, rl_108, rl_109, rl_110, rl_111, rl_112, rl_113, rl_114, rl_115, rl_116, rl_117, rl_118, rl_119, rl_120, rl_121, rl_122, rl_123, rl_124, rl_125, rl_126, rl_127, rl_128, rl_129, rl_130, rl_131, rl_132, rl_133, rl_134, rl_135, rl_136, rl_137, rl_138, rl_139, rl_140, rl_141, rl_142, rl_143, rl_144, rl_145, rl_146, rl_147, rl_148, rl_149, rl_150, rl_151, rl_152, rl_153, rl_154, rl_155, rl_156, rl_157, rl_158, rl_159, rl_160, rl_161, rl_162, rl_163, rl_164, rl_165, rl_166, rl_167, rl_168, rl_169⟩
end
section
theorem ok_0 : okR 0 = true := by decide +kernel
theorem ok_1 : okR 1 = true := by decide +kernel
theorem ok_2 : okR 2 = true := by decide +kernel
theorem ok_3 : okR 3 = true := by decide +kernel
theorem ok_4 : okR 4 = true := by decide +kernel
theorem ok_5 : okR 5 = true := by decide +kernel
theorem ok_6 : okR 6 = true := by decide +kernel
theorem ok_7 : okR 7 = true := by decide +kernel
theorem ok_8 : okR 8 = true := by decide +kernel
theorem ok_9 : okR 9 = true := by decide +kernel
theorem ok_10 : okR 10 = true := by decide +kernel
theorem ok_11 : okR 11 = true := by decide +kernel
theorem ok_12 : okR 12 = true := by decide +kernel
theorem ok_13 : okR 13 = true := by decide +kernel
theorem ok_14 : okR 14 = true := by decide +kernel
theorem ok_15 : okR 15 = true := by decide +kernel
theorem ok_16 : okR 16 = true := by decide +kernel
theorem ok_17 : okR 17 = true := by decide +kernel
theorem ok_18 : okR 18 = true := by decide +kernel
theorem ok_19 : okR 19 = true := by decide +kernel
theorem ok_20 : okR 20 = true := by decide +kernel
theorem ok_21 : okR 21 = true := by decide +kernel
theorem ok_22 : okR 22 = true := by decide +kernel
theorem ok_23 : okR 23 = true := by decide +kernel
theorem ok_24 : okR 24 = true := by decide +kernel
theorem ok_25 : okR 25 = true := by decide +kernel
theorem ok_26 : okR 26 = true := by decide +kernel
theorem ok_27 : okR 27 = true := by decide +kernel
theorem ok_28 : okR 28 = true := by decide +kernel
theorem ok_29 : okR 29 = true := by decide +kernel
theorem ok_30 : okR 30 = true := by decide +kernel
theorem ok_31 : okR 31 = true := by decide +kernel
theorem ok_32 : okR 32 = true := by decide +kernel
theorem ok_33 : okR 33 = true := by decide +kernel
theorem ok_34 : okR 34 = true := by decide +kernel
theorem ok_35 : okR 35 = true := by decide +kernel
theorem ok_36 : okR 36 = true := by decide +kernel
theorem ok_37 : okR 37 = true := by decide +kernel
theorem ok_38 : okR 38 = true := by decide +kernel
theorem ok_39 : okR 39 = true := by decide +kernel
theorem ok_40 : okR 40 = true := by decide +kernel
theorem ok_41 : okR 41 = true := by decide +kernel
theorem ok_42 : okR 42 = true := by decide +kernel
theorem ok_43 : okR 43 = true := by decide +kernel
theorem ok_44 : okR 44 = true := by decide +kernel
theorem ok_45 : okR 45 = true := by decide +kernel
theorem ok_46 : okR 46 = true := by decide +kernel
theorem ok_47 : okR 47 = true := by decide +kernel
theorem ok_48 : okR 48 = true := by decide +kernel
theorem ok_49 : okR 49 = true := by decide +kernel
theorem ok_50 : okR 50 = true := by decide +kernel
theorem ok_51 : okR 51 = true := by decide +kernel
theorem ok_52 : okR 52 = true := by decide +kernel
theorem ok_53 : okR 53 = true := by decide +kernel
theorem ok_54 : okR 54 = true := by decide +kernel
theorem ok_55 : okR 55 = true := by decide +kernel
theorem ok_56 : okR 56 = true := by decide +kernel
theorem ok_57 : okR 57 = true := by decide +kernel
theorem ok_58 : okR 58 = true := by decide +kernel
theorem ok_59 : okR 59 = true := by decide +kernel
theorem ok_60 : okR 60 = true := by decide +kernel
theorem ok_61 : okR 61 = true := by decide +kernel
theorem ok_62 : okR 62 = true := by decide +kernel
theorem ok_63 : okR 63 = true := by decide +kernel
theorem ok_64 : okR 64 = true := by decide +kernel
theorem ok_65 : okR 65 = true := by decide +kernel
theorem ok_66 : okR 66 = true := by decide +kernel
theorem ok_67 : okR 67 = true := by decide +kernel
theorem ok_68 : okR 68 = true := by decide +kernel
theorem ok_69 : okR 69 = true := by decide +kernel
theorem ok_70 : okR 70 = true := by decide +kernel
theorem ok_71 : okR 71 = true := by decide +kernel
theorem ok_72 : okR 72 = true := by decide +kernel
theorem ok_73 : okR 73 = true := by decide +kernel
theorem ok_74 : okR 74 = true := by decide +kernel
theorem ok_75 : okR 75 = true := by decide +kernel
theorem ok_76 : okR 76 = true := by decide +kernel
theorem ok_77 : okR 77 = true := by decide +kernel
theorem ok_78 : okR 78 = true := by decide +kernel
theorem ok_79 : okR 79 = true := by decide +kernel
theorem ok_80 : okR 80 = true := by decide +kernel
theorem ok_81 : okR 81 = true := by decide +kernel
theorem ok_82 : okR 82 = true := by decide +kernel
theorem ok_83 : okR 83 = true := by decide +kernel
theorem ok_84 : okR 84 = true := by decide +kernel
theorem ok_85 : okR 85 = true := by decide +kernel
theorem ok_86 : okR 86 = true := by decide +kernel
theorem ok_87 : okR 87 = true := by decide +kernel
theorem ok_88 : okR 88 = true := by decide +kernel
theorem ok_89 : okR 89 = true := by decide +kernel
theorem ok_90 : okR 90 = true := by decide +kernel
theorem ok_91 : okR 91 = true := by decide +kernel
theorem ok_92 : okR 92 = true := by decide +kernel
theorem ok_93 : okR 93 = true := by decide +kernel
theorem ok_94 : okR 94 = true := by decide +kernel
theorem ok_95 : okR 95 = true := by decide +kernel
theorem ok_96 : okR 96 = true := by decide +kernel
theorem ok_97 : okR 97 = true := by decide +kernel
theorem ok_98 : okR 98 = true := by decide +kernel
theorem ok_99 : okR 99 = true := by decide +kernel
theorem ok_100 : okR 100 = true := by decide +kernel
theorem ok_101 : okR 101 = true := by decide +kernel
theorem ok_102 : okR 102 = true := by decide +kernel
theorem ok_103 : okR 103 = true := by decide +kernel
theorem ok_104 : okR 104 = true := by decide +kernel
theorem ok_105 : okR 105 = true := by decide +kernel
theorem ok_106 : okR 106 = true := by decide +kernel
theorem ok_107 : okR 107 = true := by decide +kernel
theorem ok_108 : okR 108 = true := by decide +kernel
theorem ok_109 : okR 109 = true := by decide +kernel
theorem ok_110 : okR 110 = true := by decide +kernel
theorem ok_111 : okR 111 = true := by decide +kernel
theorem ok_112 : okR 112 = true := by decide +kernel
theorem ok_113 : okR 113 = true := by decide +kernel
theorem ok_114 : okR 114 = true := by decide +kernel
theorem ok_115 : okR 115 = true := by decide +kernel
theorem ok_116 : okR 116 = true := by decide +kernel
theorem ok_117 : okR 117 = true := by decide +kernel
theorem ok_118 : okR 118 = true := by decide +kernel
theorem ok_119 : okR 119 = true := by decide +kernel
theorem ok_120 : okR 120 = true := by decide +kernel
theorem ok_121 : okR 121 = true := by decide +kernel
theorem ok_122 : okR 122 = true := by decide +kernel
theorem ok_123 : okR 123 = true := by decide +kernel
theorem ok_124 : okR 124 = true := by decide +kernel
theorem ok_125 : okR 125 = true := by decide +kernel
theorem ok_126 : okR 126 = true := by decide +kernel
theorem ok_127 : okR 127 = true := by decide +kernel
theorem ok_128 : okR 128 = true := by decide +kernel
theorem ok_129 : okR 129 = true := by decide +kernel
theorem ok_130 : okR 130 = true := by decide +kernel
theorem ok_131 : okR 131 = true := by decide +kernel
theorem ok_132 : okR 132 = true := by decide +kernel
theorem ok_133 : okR 133 = true := by decide +kernel
theorem ok_134 : okR 134 = true := by decide +kernel
theorem ok_135 : okR 135 = true := by decide +kernel
theorem ok_136 : okR 136 = true := by decide +kernel
theorem ok_137 : okR 137 = true := by decide +kernel
theorem ok_138 : okR 138 = true := by decide +kernel
theorem ok_139 : okR 139 = true := by decide +kernel
theorem ok_140 : okR 140 = true := by decide +kernel
theorem ok_141 : okR 141 = true := by decide +kernel
theorem ok_142 : okR 142 = true := by decide +kernel
theorem ok_143 : okR 143 = true := by decide +kernel
theorem ok_144 : okR 144 = true := by decide +kernel
theorem ok_145 : okR 145 = true := by decide +kernel
theorem ok_146 : okR 146 = true := by decide +kernel
theorem ok_147 : okR 147 = true := by decide +kernel
theorem ok_148 : okR 148 = true := by decide +kernel
theorem ok_149 : okR 149 = true := by decide +kernel
theorem ok_150 : okR 150 = true := by decide +kernel
theorem ok_151 : okR 151 = true := by decide +kernel
theorem ok_152 : okR 152 = true := by decide +kernel
theorem ok_153 : okR 153 = true := by decide +kernel
theorem ok_154 : okR 154 = true := by decide +kernel
theorem ok_155 : okR 155 = true := by decide +kernel
theorem ok_156 : okR 156 = true := by decide +kernel
theorem ok_157 : okR 157 = true := by decide +kernel
theorem ok_158 : okR 158 = true := by decide +kernel
theorem ok_159 : okR 159 = true := by decide +kernel
theorem ok_160 : okR 160 = true := by decide +kernel
theorem ok_161 : okR 161 = true := by decide +kernel
theorem ok_162 : okR 162 = true := by decide +kernel
theorem ok_163 : okR 163 = true := by decide +kernel
theorem ok_164 : okR 164 = true := by decide +kernel
theorem ok_165 : okR 165 = true := by decide +kernel
theorem ok_166 : okR 166 = true := by decide +kernel
theorem ok_167 : okR 167 = true := by decide +kernel
theorem ok_168 : okR 168 = true := by decide +kernel
theorem ok_169 : okR 169 = true := by decide +kernel
theorem ok_170 : okR 170 = true := by decide +kernel
theorem ok_171 : okR 171 = true := by decide +kernel
theorem ok_172 : okR 172 = true := by decide +kernel
theorem ok_173 : okR 173 = true := by decide +kernel
theorem ok_174 : okR 174 = true := by decide +kernel
theorem ok_175 : okR 175 = true := by decide +kernel
theorem ok_176 : okR 176 = true := by decide +kernel
theorem ok_177 : okR 177 = true := by decide +kernel
theorem ok_178 : okR 178 = true := by decide +kernel
theorem ok_179 : okR 179 = true := by decide +kernel
theorem ok_180 : okR 180 = true := by decide +kernel
theorem ok_181 : okR 181 = true := by decide +kernel
theorem ok_182 : okR 182 = true := by decide +kernel
theorem ok_183 : okR 183 = true := by decide +kernel
theorem ok_184 : okR 184 = true := by decide +kernel
theorem ok_185 : okR 185 = true := by decide +kernel
theorem ok_186 : okR 186 = true := by decide +kernel
theorem ok_187 : okR 187 = true := by decide +kernel
theorem ok_188 : okR 188 = true := by decide +kernel
theorem ok_189 : okR 189 = true := by decide +kernel
theorem ok_190 : okR 190 = true := by decide +kernel
theorem ok_191 : okR 191 = true := by decide +kernel
theorem ok_192 : okR 192 = true := by decide +kernel
theorem ok_193 : okR 193 = true := by decide +kernel
theorem ok_194 : okR 194 = true := by decide +kernel
theorem ok_195 : okR 195 = true := by decide +kernel
theorem ok_196 : okR 196 = true := by decide +kernel
theorem ok_197 : okR 197 = true := by decide +kernel
theorem ok_198 : okR 198 = true := by decide +kernel
theorem ok_199 : okR 199 = true := by decide +kernel
theorem ok_200 : okR 200 = true := by decide +kernel
theorem ok_201 : okR 201 = true := by decide +kernel
theorem ok_202 : okR 202 = true := by decide +kernel
theorem ok_203 : okR 203 = true := by decide +kernel
theorem ok_204 : okR 204 = true := by decide +kernel
theorem ok_205 : okR 205 = true := by decide +kernel
theorem ok_206 : okR 206 = true := by decide +kernel
theorem ok_207 : okR 207 = true := by decide +kernel
theorem ok_208 : okR 208 = true := by decide +kernel
theorem ok_209 : okR 209 = true := by decide +kernel
theorem ok_210 : okR 210 = true := by decide +kernel
theorem ok_211 : okR 211 = true := by decide +kernel
theorem ok_212 : okR 212 = true := by decide +kernel
theorem ok_213 : okR 213 = true := by decide +kernel
theorem ok_214 : okR 214 = true := by decide +kernel
theorem ok_215 : okR 215 = true := by decide +kernel
set_option maxRecDepth 20000 in
theorem q0_0 : dropTo 0 (mcode 0) = k0_0 := rfl
set_option maxRecDepth 20000 in
theorem q1_0 : dropTo 0 (mcode 1) = k1_0 := rfl
set_option maxRecDepth 20000 in
theorem q2_0 : dropTo 0 (mcode 2) = k2_0 := rfl
set_option maxRecDepth 20000 in
theorem q2_32 : dropTo 32 (mcode 2) = k2_32 := rfl
set_option maxRecDepth 20000 in
theorem q2_41 : dropTo 41 (mcode 2) = k2_41 := rfl
set_option maxRecDepth 20000 in
theorem q2_50 : dropTo 50 (mcode 2) = k2_50 := rfl
set_option maxRecDepth 20000 in
theorem q2_59 : dropTo 59 (mcode 2) = k2_59 := rfl
set_option maxRecDepth 20000 in
theorem q2_68 : dropTo 68 (mcode 2) = k2_68 := rfl
set_option maxRecDepth 20000 in
theorem q2_70 : dropTo 70 (mcode 2) = k2_70 := rfl
set_option maxRecDepth 20000 in
theorem q2_82 : dropTo 82 (mcode 2) = k2_82 := rfl
set_option maxRecDepth 20000 in
theorem q2_83 : dropTo 83 (mcode 2) = k2_83 := rfl
set_option maxRecDepth 20000 in
theorem q3_0 : dropTo 0 (mcode 3) = k3_0 := rfl
set_option maxRecDepth 20000 in
theorem q3_36 : dropTo 36 (mcode 3) = k3_36 := rfl
set_option maxRecDepth 20000 in
theorem q4_0 : dropTo 0 (mcode 4) = k4_0 := rfl
set_option maxRecDepth 20000 in
theorem q4_32 : dropTo 32 (mcode 4) = k4_32 := rfl
set_option maxRecDepth 20000 in
theorem q4_53 : dropTo 53 (mcode 4) = k4_53 := rfl
set_option maxRecDepth 20000 in
theorem q4_82 : dropTo 82 (mcode 4) = k4_82 := rfl
set_option maxRecDepth 20000 in
theorem q4_106 : dropTo 106 (mcode 4) = k4_106 := rfl
set_option maxRecDepth 20000 in
theorem q5_0 : dropTo 0 (mcode 5) = k5_0 := rfl
set_option maxRecDepth 20000 in
theorem q5_36 : dropTo 36 (mcode 5) = k5_36 := rfl
set_option maxRecDepth 20000 in
theorem q5_61 : dropTo 61 (mcode 5) = k5_61 := rfl
set_option maxRecDepth 20000 in
theorem q5_90 : dropTo 90 (mcode 5) = k5_90 := rfl
set_option maxRecDepth 20000 in
theorem q6_0 : dropTo 0 (mcode 6) = k6_0 := rfl
set_option maxRecDepth 20000 in
theorem q6_32 : dropTo 32 (mcode 6) = k6_32 := rfl
set_option maxRecDepth 20000 in
theorem q6_54 : dropTo 54 (mcode 6) = k6_54 := rfl
set_option maxRecDepth 20000 in
theorem q6_81 : dropTo 81 (mcode 6) = k6_81 := rfl
set_option maxRecDepth 20000 in
theorem q7_0 : dropTo 0 (mcode 7) = k7_0 := rfl
set_option maxRecDepth 20000 in
theorem q7_36 : dropTo 36 (mcode 7) = k7_36 := rfl
set_option maxRecDepth 20000 in
theorem q7_68 : dropTo 68 (mcode 7) = k7_68 := rfl
set_option maxRecDepth 20000 in
theorem q7_93 : dropTo 93 (mcode 7) = k7_93 := rfl
set_option maxRecDepth 20000 in
theorem q8_0 : dropTo 0 (mcode 8) = k8_0 := rfl
set_option maxRecDepth 20000 in
theorem q8_18 : dropTo 18 (mcode 8) = k8_18 := rfl
set_option maxRecDepth 20000 in
theorem q9_0 : dropTo 0 (mcode 9) = k9_0 := rfl
set_option maxRecDepth 20000 in
theorem q9_28 : dropTo 28 (mcode 9) = k9_28 := rfl
set_option maxRecDepth 20000 in
theorem q9_37 : dropTo 37 (mcode 9) = k9_37 := rfl
set_option maxRecDepth 20000 in
theorem q9_38 : dropTo 38 (mcode 9) = k9_38 := rfl
set_option maxRecDepth 20000 in
theorem q9_39 : dropTo 39 (mcode 9) = k9_39 := rfl
set_option maxRecDepth 20000 in
theorem q9_41 : dropTo 41 (mcode 9) = k9_41 := rfl
set_option maxRecDepth 20000 in
theorem q10_0 : dropTo 0 (mcode 10) = k10_0 := rfl
set_option maxRecDepth 20000 in
theorem q10_36 : dropTo 36 (mcode 10) = k10_36 := rfl
set_option maxRecDepth 20000 in
theorem q10_39 : dropTo 39 (mcode 10) = k10_39 := rfl
set_option maxRecDepth 20000 in
theorem q10_42 : dropTo 42 (mcode 10) = k10_42 := rfl
set_option maxRecDepth 20000 in
theorem q10_44 : dropTo 44 (mcode 10) = k10_44 := rfl
set_option maxRecDepth 20000 in
theorem q10_46 : dropTo 46 (mcode 10) = k10_46 := rfl
set_option maxRecDepth 20000 in
theorem q10_50 : dropTo 50 (mcode 10) = k10_50 := rfl
set_option maxRecDepth 20000 in
theorem q11_0 : dropTo 0 (mcode 11) = k11_0 := rfl
set_option maxRecDepth 20000 in
theorem q11_32 : dropTo 32 (mcode 11) = k11_32 := rfl
set_option maxRecDepth 20000 in
theorem q11_41 : dropTo 41 (mcode 11) = k11_41 := rfl
set_option maxRecDepth 20000 in
theorem q11_42 : dropTo 42 (mcode 11) = k11_42 := rfl
set_option maxRecDepth 20000 in
theorem q11_43 : dropTo 43 (mcode 11) = k11_43 := rfl
set_option maxRecDepth 20000 in
theorem q11_55 : dropTo 55 (mcode 11) = k11_55 := rfl
set_option maxRecDepth 20000 in
theorem q11_56 : dropTo 56 (mcode 11) = k11_56 := rfl
set_option maxRecDepth 20000 in
theorem q11_57 : dropTo 57 (mcode 11) = k11_57 := rfl
set_option maxRecDepth 20000 in
theorem q12_0 : dropTo 0 (mcode 12) = k12_0 := rfl
set_option maxRecDepth 20000 in
theorem q12_10 : dropTo 10 (mcode 12) = k12_10 := rfl
set_option maxRecDepth 20000 in
theorem q12_14 : dropTo 14 (mcode 12) = k12_14 := rfl
set_option maxRecDepth 20000 in
theorem q12_15 : dropTo 15 (mcode 12) = k12_15 := rfl
set_option maxRecDepth 20000 in
theorem q13_0 : dropTo 0 (mcode 13) = k13_0 := rfl
set_option maxRecDepth 20000 in
theorem q13_4 : dropTo 4 (mcode 13) = k13_4 := rfl
set_option maxRecDepth 20000 in
theorem q13_20 : dropTo 20 (mcode 13) = k13_20 := rfl
set_option maxRecDepth 20000 in
theorem q13_32 : dropTo 32 (mcode 13) = k13_32 := rfl
set_option maxRecDepth 20000 in
theorem q14_0 : dropTo 0 (mcode 14) = k14_0 := rfl
set_option maxRecDepth 20000 in
theorem q14_12 : dropTo 12 (mcode 14) = k14_12 := rfl
set_option maxRecDepth 20000 in
theorem q14_31 : dropTo 31 (mcode 14) = k14_31 := rfl
set_option maxRecDepth 20000 in
theorem q15_0 : dropTo 0 (mcode 15) = k15_0 := rfl
set_option maxRecDepth 20000 in
theorem q15_10 : dropTo 10 (mcode 15) = k15_10 := rfl
set_option maxRecDepth 20000 in
theorem q15_23 : dropTo 23 (mcode 15) = k15_23 := rfl
set_option maxRecDepth 20000 in
theorem q15_24 : dropTo 24 (mcode 15) = k15_24 := rfl
set_option maxRecDepth 20000 in
theorem q16_0 : dropTo 0 (mcode 16) = k16_0 := rfl
set_option maxRecDepth 20000 in
theorem q17_0 : dropTo 0 (mcode 17) = k17_0 := rfl
set_option maxRecDepth 20000 in
theorem q18_0 : dropTo 0 (mcode 18) = k18_0 := rfl
set_option maxRecDepth 20000 in
theorem q18_13 : dropTo 13 (mcode 18) = k18_13 := rfl
set_option maxRecDepth 20000 in
theorem q18_14 : dropTo 14 (mcode 18) = k18_14 := rfl
set_option maxRecDepth 20000 in
theorem q19_0 : dropTo 0 (mcode 19) = k19_0 := rfl
set_option maxRecDepth 20000 in
theorem q19_7 : dropTo 7 (mcode 19) = k19_7 := rfl
set_option maxRecDepth 20000 in
theorem q19_90 : dropTo 90 (mcode 19) = k19_90 := rfl
set_option maxRecDepth 20000 in
theorem q19_96 : dropTo 96 (mcode 19) = k19_96 := rfl
set_option maxRecDepth 20000 in
theorem q19_98 : dropTo 98 (mcode 19) = k19_98 := rfl
set_option maxRecDepth 20000 in
theorem q19_117 : dropTo 117 (mcode 19) = k19_117 := rfl
set_option maxRecDepth 20000 in
theorem q20_0 : dropTo 0 (mcode 20) = k20_0 := rfl
set_option maxRecDepth 20000 in
theorem q20_2 : dropTo 2 (mcode 20) = k20_2 := rfl
set_option maxRecDepth 20000 in
theorem q20_48 : dropTo 48 (mcode 20) = k20_48 := rfl
set_option maxRecDepth 20000 in
theorem q21_0 : dropTo 0 (mcode 21) = k21_0 := rfl
set_option maxRecDepth 20000 in
theorem q21_10 : dropTo 10 (mcode 21) = k21_10 := rfl
set_option maxRecDepth 20000 in
theorem q21_33 : dropTo 33 (mcode 21) = k21_33 := rfl
set_option maxRecDepth 20000 in
theorem q22_0 : dropTo 0 (mcode 22) = k22_0 := rfl
set_option maxRecDepth 20000 in
theorem q22_14 : dropTo 14 (mcode 22) = k22_14 := rfl
set_option maxRecDepth 20000 in
theorem q22_40 : dropTo 40 (mcode 22) = k22_40 := rfl
set_option maxRecDepth 20000 in
theorem q22_42 : dropTo 42 (mcode 22) = k22_42 := rfl
set_option maxRecDepth 20000 in
theorem q22_87 : dropTo 87 (mcode 22) = k22_87 := rfl
set_option maxRecDepth 20000 in
theorem q22_93 : dropTo 93 (mcode 22) = k22_93 := rfl
set_option maxRecDepth 20000 in
theorem q23_0 : dropTo 0 (mcode 23) = k23_0 := rfl
set_option maxRecDepth 20000 in
theorem q23_38 : dropTo 38 (mcode 23) = k23_38 := rfl
set_option maxRecDepth 20000 in
theorem q23_80 : dropTo 80 (mcode 23) = k23_80 := rfl
set_option maxRecDepth 20000 in
theorem q23_95 : dropTo 95 (mcode 23) = k23_95 := rfl
set_option maxRecDepth 20000 in
theorem q23_130 : dropTo 130 (mcode 23) = k23_130 := rfl
set_option maxRecDepth 20000 in
theorem q24_0 : dropTo 0 (mcode 24) = k24_0 := rfl
set_option maxRecDepth 20000 in
theorem q24_19 : dropTo 19 (mcode 24) = k24_19 := rfl
set_option maxRecDepth 20000 in
theorem q24_20 : dropTo 20 (mcode 24) = k24_20 := rfl
set_option maxRecDepth 20000 in
theorem q24_34 : dropTo 34 (mcode 24) = k24_34 := rfl
set_option maxRecDepth 20000 in
theorem q24_42 : dropTo 42 (mcode 24) = k24_42 := rfl
set_option maxRecDepth 20000 in
theorem q24_55 : dropTo 55 (mcode 24) = k24_55 := rfl
set_option maxRecDepth 20000 in
theorem q24_59 : dropTo 59 (mcode 24) = k24_59 := rfl
set_option maxRecDepth 20000 in
theorem q24_105 : dropTo 105 (mcode 24) = k24_105 := rfl
set_option maxRecDepth 20000 in
theorem q24_107 : dropTo 107 (mcode 24) = k24_107 := rfl
set_option maxRecDepth 20000 in
theorem q25_0 : dropTo 0 (mcode 25) = k25_0 := rfl
set_option maxRecDepth 20000 in
theorem q25_29 : dropTo 29 (mcode 25) = k25_29 := rfl
set_option maxRecDepth 20000 in
theorem q25_62 : dropTo 62 (mcode 25) = k25_62 := rfl
set_option maxRecDepth 20000 in
theorem q25_63 : dropTo 63 (mcode 25) = k25_63 := rfl
set_option maxRecDepth 20000 in
theorem q26_0 : dropTo 0 (mcode 26) = k26_0 := rfl
set_option maxRecDepth 20000 in
theorem q26_30 : dropTo 30 (mcode 26) = k26_30 := rfl
set_option maxRecDepth 20000 in
theorem q27_0 : dropTo 0 (mcode 27) = k27_0 := rfl
set_option maxRecDepth 20000 in
theorem q28_0 : dropTo 0 (mcode 28) = k28_0 := rfl
set_option maxRecDepth 20000 in
theorem q28_16 : dropTo 16 (mcode 28) = k28_16 := rfl
set_option maxRecDepth 20000 in
theorem q28_49 : dropTo 49 (mcode 28) = k28_49 := rfl
set_option maxRecDepth 20000 in
theorem q28_60 : dropTo 60 (mcode 28) = k28_60 := rfl
set_option maxRecDepth 20000 in
theorem q29_0 : dropTo 0 (mcode 29) = k29_0 := rfl
set_option maxRecDepth 20000 in
theorem q29_21 : dropTo 21 (mcode 29) = k29_21 := rfl
set_option maxRecDepth 20000 in
theorem q29_38 : dropTo 38 (mcode 29) = k29_38 := rfl
set_option maxRecDepth 20000 in
theorem q29_47 : dropTo 47 (mcode 29) = k29_47 := rfl
set_option maxRecDepth 20000 in
theorem q30_0 : dropTo 0 (mcode 30) = k30_0 := rfl
set_option maxRecDepth 20000 in
theorem q30_11 : dropTo 11 (mcode 30) = k30_11 := rfl
set_option maxRecDepth 20000 in
theorem q30_22 : dropTo 22 (mcode 30) = k30_22 := rfl
set_option maxRecDepth 20000 in
theorem q30_33 : dropTo 33 (mcode 30) = k30_33 := rfl
set_option maxRecDepth 20000 in
theorem q30_44 : dropTo 44 (mcode 30) = k30_44 := rfl
set_option maxRecDepth 20000 in
theorem q30_55 : dropTo 55 (mcode 30) = k30_55 := rfl
set_option maxRecDepth 20000 in
theorem q30_68 : dropTo 68 (mcode 30) = k30_68 := rfl
set_option maxRecDepth 20000 in
theorem q30_70 : dropTo 70 (mcode 30) = k30_70 := rfl
set_option maxRecDepth 20000 in
theorem q31_0 : dropTo 0 (mcode 31) = k31_0 := rfl
set_option maxRecDepth 20000 in
theorem q31_15 : dropTo 15 (mcode 31) = k31_15 := rfl
set_option maxRecDepth 20000 in
theorem q31_24 : dropTo 24 (mcode 31) = k31_24 := rfl
set_option maxRecDepth 20000 in
theorem q31_87 : dropTo 87 (mcode 31) = k31_87 := rfl
set_option maxRecDepth 20000 in
theorem q31_111 : dropTo 111 (mcode 31) = k31_111 := rfl
set_option maxRecDepth 20000 in
theorem q32_0 : dropTo 0 (mcode 32) = k32_0 := rfl
set_option maxRecDepth 20000 in
theorem q32_17 : dropTo 17 (mcode 32) = k32_17 := rfl
set_option maxRecDepth 20000 in
theorem q32_74 : dropTo 74 (mcode 32) = k32_74 := rfl
set_option maxRecDepth 20000 in
theorem q33_0 : dropTo 0 (mcode 33) = k33_0 := rfl
set_option maxRecDepth 20000 in
theorem q33_25 : dropTo 25 (mcode 33) = k33_25 := rfl
set_option maxRecDepth 20000 in
theorem q34_0 : dropTo 0 (mcode 34) = k34_0 := rfl
set_option maxRecDepth 20000 in
theorem q34_38 : dropTo 38 (mcode 34) = k34_38 := rfl
set_option maxRecDepth 20000 in
theorem q35_0 : dropTo 0 (mcode 35) = k35_0 := rfl
set_option maxRecDepth 20000 in
theorem q35_12 : dropTo 12 (mcode 35) = k35_12 := rfl
set_option maxRecDepth 20000 in
theorem q35_64 : dropTo 64 (mcode 35) = k35_64 := rfl
set_option maxRecDepth 20000 in
theorem q36_0 : dropTo 0 (mcode 36) = k36_0 := rfl
set_option maxRecDepth 20000 in
theorem q36_18 : dropTo 18 (mcode 36) = k36_18 := rfl
set_option maxRecDepth 20000 in
theorem q36_20 : dropTo 20 (mcode 36) = k36_20 := rfl
set_option maxRecDepth 20000 in
theorem q36_49 : dropTo 49 (mcode 36) = k36_49 := rfl
set_option maxRecDepth 20000 in
theorem q36_55 : dropTo 55 (mcode 36) = k36_55 := rfl
set_option maxRecDepth 20000 in
theorem q37_0 : dropTo 0 (mcode 37) = k37_0 := rfl
set_option maxRecDepth 20000 in
theorem q37_9 : dropTo 9 (mcode 37) = k37_9 := rfl
set_option maxRecDepth 20000 in
theorem q37_29 : dropTo 29 (mcode 37) = k37_29 := rfl
set_option maxRecDepth 20000 in
theorem q38_0 : dropTo 0 (mcode 38) = k38_0 := rfl
set_option maxRecDepth 20000 in
theorem q38_10 : dropTo 10 (mcode 38) = k38_10 := rfl
set_option maxRecDepth 20000 in
theorem q38_24 : dropTo 24 (mcode 38) = k38_24 := rfl
set_option maxRecDepth 20000 in
theorem q38_94 : dropTo 94 (mcode 38) = k38_94 := rfl
set_option maxRecDepth 20000 in
theorem q38_126 : dropTo 126 (mcode 38) = k38_126 := rfl
set_option maxRecDepth 20000 in
theorem q38_134 : dropTo 134 (mcode 38) = k38_134 := rfl
set_option maxRecDepth 20000 in
theorem q39_0 : dropTo 0 (mcode 39) = k39_0 := rfl
set_option maxRecDepth 20000 in
theorem q39_33 : dropTo 33 (mcode 39) = k39_33 := rfl
set_option maxRecDepth 20000 in
theorem q39_34 : dropTo 34 (mcode 39) = k39_34 := rfl
set_option maxRecDepth 20000 in
theorem q40_0 : dropTo 0 (mcode 40) = k40_0 := rfl
set_option maxRecDepth 20000 in
theorem q40_9 : dropTo 9 (mcode 40) = k40_9 := rfl
set_option maxRecDepth 20000 in
theorem q40_29 : dropTo 29 (mcode 40) = k40_29 := rfl
set_option maxRecDepth 20000 in
theorem q40_37 : dropTo 37 (mcode 40) = k40_37 := rfl
set_option maxRecDepth 20000 in
theorem q41_0 : dropTo 0 (mcode 41) = k41_0 := rfl
set_option maxRecDepth 20000 in
theorem q42_0 : dropTo 0 (mcode 42) = k42_0 := rfl
set_option maxRecDepth 20000 in
theorem q43_0 : dropTo 0 (mcode 43) = k43_0 := rfl
set_option maxRecDepth 20000 in
theorem q44_0 : dropTo 0 (mcode 44) = k44_0 := rfl
set_option maxRecDepth 20000 in
theorem q44_10 : dropTo 10 (mcode 44) = k44_10 := rfl
set_option maxRecDepth 20000 in
theorem q45_0 : dropTo 0 (mcode 45) = k45_0 := rfl
set_option maxRecDepth 20000 in
theorem q46_0 : dropTo 0 (mcode 46) = k46_0 := rfl
set_option maxRecDepth 20000 in
theorem q46_9 : dropTo 9 (mcode 46) = k46_9 := rfl
set_option maxRecDepth 20000 in
theorem q47_0 : dropTo 0 (mcode 47) = k47_0 := rfl
set_option maxRecDepth 20000 in
theorem q47_12 : dropTo 12 (mcode 47) = k47_12 := rfl
set_option maxRecDepth 20000 in
theorem q47_68 : dropTo 68 (mcode 47) = k47_68 := rfl
set_option maxRecDepth 20000 in
theorem q48_0 : dropTo 0 (mcode 48) = k48_0 := rfl
set_option maxRecDepth 20000 in
theorem q48_4 : dropTo 4 (mcode 48) = k48_4 := rfl
set_option maxRecDepth 20000 in
theorem q48_50 : dropTo 50 (mcode 48) = k48_50 := rfl
set_option maxRecDepth 20000 in
theorem q48_56 : dropTo 56 (mcode 48) = k48_56 := rfl
set_option maxRecDepth 20000 in
theorem q49_0 : dropTo 0 (mcode 49) = k49_0 := rfl
set_option maxRecDepth 20000 in
theorem q49_4 : dropTo 4 (mcode 49) = k49_4 := rfl
set_option maxRecDepth 20000 in
theorem q49_29 : dropTo 29 (mcode 49) = k49_29 := rfl
set_option maxRecDepth 20000 in
theorem q49_35 : dropTo 35 (mcode 49) = k49_35 := rfl
set_option maxRecDepth 20000 in
theorem q50_0 : dropTo 0 (mcode 50) = k50_0 := rfl
set_option maxRecDepth 20000 in
theorem q50_4 : dropTo 4 (mcode 50) = k50_4 := rfl
set_option maxRecDepth 20000 in
theorem q50_27 : dropTo 27 (mcode 50) = k50_27 := rfl
set_option maxRecDepth 20000 in
theorem q51_0 : dropTo 0 (mcode 51) = k51_0 := rfl
set_option maxRecDepth 20000 in
theorem q51_4 : dropTo 4 (mcode 51) = k51_4 := rfl
set_option maxRecDepth 20000 in
theorem q51_25 : dropTo 25 (mcode 51) = k51_25 := rfl
set_option maxRecDepth 20000 in
theorem q51_31 : dropTo 31 (mcode 51) = k51_31 := rfl
set_option maxRecDepth 20000 in
theorem q52_0 : dropTo 0 (mcode 52) = k52_0 := rfl
set_option maxRecDepth 20000 in
theorem q52_5 : dropTo 5 (mcode 52) = k52_5 := rfl
set_option maxRecDepth 20000 in
theorem q52_27 : dropTo 27 (mcode 52) = k52_27 := rfl
set_option maxRecDepth 20000 in
theorem q52_44 : dropTo 44 (mcode 52) = k52_44 := rfl
set_option maxRecDepth 20000 in
theorem q53_0 : dropTo 0 (mcode 53) = k53_0 := rfl
set_option maxRecDepth 20000 in
theorem q53_2 : dropTo 2 (mcode 53) = k53_2 := rfl
set_option maxRecDepth 20000 in
theorem q53_31 : dropTo 31 (mcode 53) = k53_31 := rfl
set_option maxRecDepth 20000 in
theorem q53_33 : dropTo 33 (mcode 53) = k53_33 := rfl
set_option maxRecDepth 20000 in
theorem q53_39 : dropTo 39 (mcode 53) = k53_39 := rfl
set_option maxRecDepth 20000 in
theorem q54_0 : dropTo 0 (mcode 54) = k54_0 := rfl
set_option maxRecDepth 20000 in
theorem q54_12 : dropTo 12 (mcode 54) = k54_12 := rfl
set_option maxRecDepth 20000 in
theorem q54_30 : dropTo 30 (mcode 54) = k54_30 := rfl
set_option maxRecDepth 20000 in
theorem q54_33 : dropTo 33 (mcode 54) = k54_33 := rfl
set_option maxRecDepth 20000 in
theorem q54_61 : dropTo 61 (mcode 54) = k54_61 := rfl
set_option maxRecDepth 20000 in
theorem q55_0 : dropTo 0 (mcode 55) = k55_0 := rfl
set_option maxRecDepth 20000 in
theorem q55_29 : dropTo 29 (mcode 55) = k55_29 := rfl
set_option maxRecDepth 20000 in
theorem q56_0 : dropTo 0 (mcode 56) = k56_0 := rfl
set_option maxRecDepth 20000 in
theorem q56_12 : dropTo 12 (mcode 56) = k56_12 := rfl
set_option maxRecDepth 20000 in
theorem q57_0 : dropTo 0 (mcode 57) = k57_0 := rfl
set_option maxRecDepth 20000 in
theorem q57_27 : dropTo 27 (mcode 57) = k57_27 := rfl
set_option maxRecDepth 20000 in
theorem q57_29 : dropTo 29 (mcode 57) = k57_29 := rfl
set_option maxRecDepth 20000 in
theorem q57_43 : dropTo 43 (mcode 57) = k57_43 := rfl
set_option maxRecDepth 20000 in
theorem q58_0 : dropTo 0 (mcode 58) = k58_0 := rfl
set_option maxRecDepth 20000 in
theorem q58_19 : dropTo 19 (mcode 58) = k58_19 := rfl
set_option maxRecDepth 20000 in
theorem q59_0 : dropTo 0 (mcode 59) = k59_0 := rfl
set_option maxRecDepth 20000 in
theorem q59_17 : dropTo 17 (mcode 59) = k59_17 := rfl
set_option maxRecDepth 20000 in
theorem q59_19 : dropTo 19 (mcode 59) = k59_19 := rfl
set_option maxRecDepth 20000 in
theorem q60_0 : dropTo 0 (mcode 60) = k60_0 := rfl
set_option maxRecDepth 20000 in
theorem q60_32 : dropTo 32 (mcode 60) = k60_32 := rfl
set_option maxRecDepth 20000 in
theorem q60_34 : dropTo 34 (mcode 60) = k60_34 := rfl
set_option maxRecDepth 20000 in
theorem q60_49 : dropTo 49 (mcode 60) = k60_49 := rfl
set_option maxRecDepth 20000 in
theorem q61_0 : dropTo 0 (mcode 61) = k61_0 := rfl
set_option maxRecDepth 20000 in
theorem q61_13 : dropTo 13 (mcode 61) = k61_13 := rfl
set_option maxRecDepth 20000 in
theorem q61_64 : dropTo 64 (mcode 61) = k61_64 := rfl
set_option maxRecDepth 20000 in
theorem q61_74 : dropTo 74 (mcode 61) = k61_74 := rfl
set_option maxRecDepth 20000 in
theorem q61_84 : dropTo 84 (mcode 61) = k61_84 := rfl
set_option maxRecDepth 20000 in
theorem q61_94 : dropTo 94 (mcode 61) = k61_94 := rfl
set_option maxRecDepth 20000 in
theorem q61_104 : dropTo 104 (mcode 61) = k61_104 := rfl
set_option maxRecDepth 20000 in
theorem q61_114 : dropTo 114 (mcode 61) = k61_114 := rfl
set_option maxRecDepth 20000 in
theorem q61_124 : dropTo 124 (mcode 61) = k61_124 := rfl
set_option maxRecDepth 20000 in
theorem q61_134 : dropTo 134 (mcode 61) = k61_134 := rfl
set_option maxRecDepth 20000 in
theorem q61_156 : dropTo 156 (mcode 61) = k61_156 := rfl
set_option maxRecDepth 20000 in
theorem q61_178 : dropTo 178 (mcode 61) = k61_178 := rfl
set_option maxRecDepth 20000 in
theorem q62_0 : dropTo 0 (mcode 62) = k62_0 := rfl
set_option maxRecDepth 20000 in
theorem q62_28 : dropTo 28 (mcode 62) = k62_28 := rfl
set_option maxRecDepth 20000 in
theorem q62_30 : dropTo 30 (mcode 62) = k62_30 := rfl
set_option maxRecDepth 20000 in
theorem q63_0 : dropTo 0 (mcode 63) = k63_0 := rfl
set_option maxRecDepth 20000 in
theorem q63_28 : dropTo 28 (mcode 63) = k63_28 := rfl
set_option maxRecDepth 20000 in
theorem q63_30 : dropTo 30 (mcode 63) = k63_30 := rfl
set_option maxRecDepth 20000 in
theorem q64_0 : dropTo 0 (mcode 64) = k64_0 := rfl
set_option maxRecDepth 20000 in
theorem q64_18 : dropTo 18 (mcode 64) = k64_18 := rfl
set_option maxRecDepth 20000 in
theorem q64_20 : dropTo 20 (mcode 64) = k64_20 := rfl
set_option maxRecDepth 20000 in
theorem q65_0 : dropTo 0 (mcode 65) = k65_0 := rfl
set_option maxRecDepth 20000 in
theorem q66_0 : dropTo 0 (mcode 66) = k66_0 := rfl
set_option maxRecDepth 20000 in
theorem q66_12 : dropTo 12 (mcode 66) = k66_12 := rfl
set_option maxRecDepth 20000 in
theorem q66_25 : dropTo 25 (mcode 66) = k66_25 := rfl
set_option maxRecDepth 20000 in
theorem q66_59 : dropTo 59 (mcode 66) = k66_59 := rfl
set_option maxRecDepth 20000 in
theorem q67_0 : dropTo 0 (mcode 67) = k67_0 := rfl
set_option maxRecDepth 20000 in
theorem q67_12 : dropTo 12 (mcode 67) = k67_12 := rfl
set_option maxRecDepth 20000 in
theorem q68_0 : dropTo 0 (mcode 68) = k68_0 := rfl
set_option maxRecDepth 20000 in
theorem q68_13 : dropTo 13 (mcode 68) = k68_13 := rfl
set_option maxRecDepth 20000 in
theorem q68_38 : dropTo 38 (mcode 68) = k68_38 := rfl
set_option maxRecDepth 20000 in
theorem q68_39 : dropTo 39 (mcode 68) = k68_39 := rfl
set_option maxRecDepth 20000 in
theorem q69_0 : dropTo 0 (mcode 69) = k69_0 := rfl
set_option maxRecDepth 20000 in
theorem q70_0 : dropTo 0 (mcode 70) = k70_0 := rfl
set_option maxRecDepth 20000 in
theorem q70_13 : dropTo 13 (mcode 70) = k70_13 := rfl
set_option maxRecDepth 20000 in
theorem q71_0 : dropTo 0 (mcode 71) = k71_0 := rfl
set_option maxRecDepth 20000 in
theorem q71_9 : dropTo 9 (mcode 71) = k71_9 := rfl
set_option maxRecDepth 20000 in
theorem q72_0 : dropTo 0 (mcode 72) = k72_0 := rfl
set_option maxRecDepth 20000 in
theorem q72_23 : dropTo 23 (mcode 72) = k72_23 := rfl
set_option maxRecDepth 20000 in
theorem q72_25 : dropTo 25 (mcode 72) = k72_25 := rfl
set_option maxRecDepth 20000 in
theorem q73_0 : dropTo 0 (mcode 73) = k73_0 := rfl
set_option maxRecDepth 20000 in
theorem q73_13 : dropTo 13 (mcode 73) = k73_13 := rfl
set_option maxRecDepth 20000 in
theorem q73_46 : dropTo 46 (mcode 73) = k73_46 := rfl
set_option maxRecDepth 20000 in
theorem q73_78 : dropTo 78 (mcode 73) = k73_78 := rfl
set_option maxRecDepth 20000 in
theorem q73_89 : dropTo 89 (mcode 73) = k73_89 := rfl
set_option maxRecDepth 20000 in
theorem q74_0 : dropTo 0 (mcode 74) = k74_0 := rfl
set_option maxRecDepth 20000 in
theorem q74_21 : dropTo 21 (mcode 74) = k74_21 := rfl
set_option maxRecDepth 20000 in
theorem q74_23 : dropTo 23 (mcode 74) = k74_23 := rfl
set_option maxRecDepth 20000 in
theorem q74_55 : dropTo 55 (mcode 74) = k74_55 := rfl
set_option maxRecDepth 20000 in
theorem q74_58 : dropTo 58 (mcode 74) = k74_58 := rfl
set_option maxRecDepth 20000 in
theorem q74_91 : dropTo 91 (mcode 74) = k74_91 := rfl
set_option maxRecDepth 20000 in
theorem q74_97 : dropTo 97 (mcode 74) = k74_97 := rfl
set_option maxRecDepth 20000 in
theorem q74_100 : dropTo 100 (mcode 74) = k74_100 := rfl
set_option maxRecDepth 20000 in
theorem q75_0 : dropTo 0 (mcode 75) = k75_0 := rfl
set_option maxRecDepth 20000 in
theorem q75_8 : dropTo 8 (mcode 75) = k75_8 := rfl
set_option maxRecDepth 20000 in
theorem q75_24 : dropTo 24 (mcode 75) = k75_24 := rfl
set_option maxRecDepth 20000 in
theorem q75_68 : dropTo 68 (mcode 75) = k75_68 := rfl
set_option maxRecDepth 20000 in
theorem q75_102 : dropTo 102 (mcode 75) = k75_102 := rfl
set_option maxRecDepth 20000 in
theorem q75_108 : dropTo 108 (mcode 75) = k75_108 := rfl
set_option maxRecDepth 20000 in
theorem q75_114 : dropTo 114 (mcode 75) = k75_114 := rfl
set_option maxRecDepth 20000 in
theorem q76_0 : dropTo 0 (mcode 76) = k76_0 := rfl
set_option maxRecDepth 20000 in
theorem q76_12 : dropTo 12 (mcode 76) = k76_12 := rfl
set_option maxRecDepth 20000 in
theorem q76_14 : dropTo 14 (mcode 76) = k76_14 := rfl
set_option maxRecDepth 20000 in
theorem q76_66 : dropTo 66 (mcode 76) = k76_66 := rfl
set_option maxRecDepth 20000 in
theorem q76_72 : dropTo 72 (mcode 76) = k76_72 := rfl
set_option maxRecDepth 20000 in
theorem q77_0 : dropTo 0 (mcode 77) = k77_0 := rfl
set_option maxRecDepth 20000 in
theorem q77_12 : dropTo 12 (mcode 77) = k77_12 := rfl
set_option maxRecDepth 20000 in
theorem q77_26 : dropTo 26 (mcode 77) = k77_26 := rfl
set_option maxRecDepth 20000 in
theorem q77_41 : dropTo 41 (mcode 77) = k77_41 := rfl
set_option maxRecDepth 20000 in
theorem q77_48 : dropTo 48 (mcode 77) = k77_48 := rfl
set_option maxRecDepth 20000 in
theorem q77_117 : dropTo 117 (mcode 77) = k77_117 := rfl
set_option maxRecDepth 20000 in
theorem q77_129 : dropTo 129 (mcode 77) = k77_129 := rfl
set_option maxRecDepth 20000 in
theorem q77_135 : dropTo 135 (mcode 77) = k77_135 := rfl
set_option maxRecDepth 20000 in
theorem q78_0 : dropTo 0 (mcode 78) = k78_0 := rfl
set_option maxRecDepth 20000 in
theorem q78_15 : dropTo 15 (mcode 78) = k78_15 := rfl
set_option maxRecDepth 20000 in
theorem q78_16 : dropTo 16 (mcode 78) = k78_16 := rfl
set_option maxRecDepth 20000 in
theorem q79_0 : dropTo 0 (mcode 79) = k79_0 := rfl
set_option maxRecDepth 20000 in
theorem q79_10 : dropTo 10 (mcode 79) = k79_10 := rfl
set_option maxRecDepth 20000 in
theorem q79_34 : dropTo 34 (mcode 79) = k79_34 := rfl
set_option maxRecDepth 20000 in
theorem q79_40 : dropTo 40 (mcode 79) = k79_40 := rfl
set_option maxRecDepth 20000 in
theorem q80_0 : dropTo 0 (mcode 80) = k80_0 := rfl
set_option maxRecDepth 20000 in
theorem q81_0 : dropTo 0 (mcode 81) = k81_0 := rfl
set_option maxRecDepth 20000 in
theorem q81_13 : dropTo 13 (mcode 81) = k81_13 := rfl
set_option maxRecDepth 20000 in
theorem q82_0 : dropTo 0 (mcode 82) = k82_0 := rfl
set_option maxRecDepth 20000 in
theorem q82_12 : dropTo 12 (mcode 82) = k82_12 := rfl
set_option maxRecDepth 20000 in
theorem q82_54 : dropTo 54 (mcode 82) = k82_54 := rfl
set_option maxRecDepth 20000 in
theorem q82_78 : dropTo 78 (mcode 82) = k82_78 := rfl
set_option maxRecDepth 20000 in
theorem q83_0 : dropTo 0 (mcode 83) = k83_0 := rfl
set_option maxRecDepth 20000 in
theorem q83_20 : dropTo 20 (mcode 83) = k83_20 := rfl
set_option maxRecDepth 20000 in
theorem q83_22 : dropTo 22 (mcode 83) = k83_22 := rfl
set_option maxRecDepth 20000 in
theorem q84_0 : dropTo 0 (mcode 84) = k84_0 := rfl
set_option maxRecDepth 20000 in
theorem q84_12 : dropTo 12 (mcode 84) = k84_12 := rfl
set_option maxRecDepth 20000 in
theorem q85_0 : dropTo 0 (mcode 85) = k85_0 := rfl
set_option maxRecDepth 20000 in
theorem q85_24 : dropTo 24 (mcode 85) = k85_24 := rfl
set_option maxRecDepth 20000 in
theorem q85_48 : dropTo 48 (mcode 85) = k85_48 := rfl
set_option maxRecDepth 20000 in
theorem q85_73 : dropTo 73 (mcode 85) = k85_73 := rfl
set_option maxRecDepth 20000 in
theorem q85_79 : dropTo 79 (mcode 85) = k85_79 := rfl
set_option maxRecDepth 20000 in
theorem q86_0 : dropTo 0 (mcode 86) = k86_0 := rfl
set_option maxRecDepth 20000 in
theorem q86_43 : dropTo 43 (mcode 86) = k86_43 := rfl
set_option maxRecDepth 20000 in
theorem q86_45 : dropTo 45 (mcode 86) = k86_45 := rfl
set_option maxRecDepth 20000 in
theorem q86_65 : dropTo 65 (mcode 86) = k86_65 := rfl
set_option maxRecDepth 20000 in
theorem q86_77 : dropTo 77 (mcode 86) = k86_77 := rfl
set_option maxRecDepth 20000 in
theorem q86_96 : dropTo 96 (mcode 86) = k86_96 := rfl
set_option maxRecDepth 20000 in
theorem q86_99 : dropTo 99 (mcode 86) = k86_99 := rfl
set_option maxRecDepth 20000 in
theorem q86_143 : dropTo 143 (mcode 86) = k86_143 := rfl
set_option maxRecDepth 20000 in
theorem q87_0 : dropTo 0 (mcode 87) = k87_0 := rfl
set_option maxRecDepth 20000 in
theorem q87_16 : dropTo 16 (mcode 87) = k87_16 := rfl
set_option maxRecDepth 20000 in
theorem q87_18 : dropTo 18 (mcode 87) = k87_18 := rfl
set_option maxRecDepth 20000 in
theorem q87_36 : dropTo 36 (mcode 87) = k87_36 := rfl
set_option maxRecDepth 20000 in
theorem q87_44 : dropTo 44 (mcode 87) = k87_44 := rfl
set_option maxRecDepth 20000 in
theorem q87_51 : dropTo 51 (mcode 87) = k87_51 := rfl
set_option maxRecDepth 20000 in
theorem q88_0 : dropTo 0 (mcode 88) = k88_0 := rfl
set_option maxRecDepth 20000 in
theorem q88_9 : dropTo 9 (mcode 88) = k88_9 := rfl
set_option maxRecDepth 20000 in
theorem q88_29 : dropTo 29 (mcode 88) = k88_29 := rfl
set_option maxRecDepth 20000 in
theorem q88_47 : dropTo 47 (mcode 88) = k88_47 := rfl
set_option maxRecDepth 20000 in
theorem q89_0 : dropTo 0 (mcode 89) = k89_0 := rfl
set_option maxRecDepth 20000 in
theorem q89_14 : dropTo 14 (mcode 89) = k89_14 := rfl
set_option maxRecDepth 20000 in
theorem q89_16 : dropTo 16 (mcode 89) = k89_16 := rfl
set_option maxRecDepth 20000 in
theorem q89_36 : dropTo 36 (mcode 89) = k89_36 := rfl
set_option maxRecDepth 20000 in
theorem q89_48 : dropTo 48 (mcode 89) = k89_48 := rfl
set_option maxRecDepth 20000 in
theorem q89_66 : dropTo 66 (mcode 89) = k89_66 := rfl
set_option maxRecDepth 20000 in
theorem q90_0 : dropTo 0 (mcode 90) = k90_0 := rfl
set_option maxRecDepth 20000 in
theorem q90_9 : dropTo 9 (mcode 90) = k90_9 := rfl
set_option maxRecDepth 20000 in
theorem q90_36 : dropTo 36 (mcode 90) = k90_36 := rfl
set_option maxRecDepth 20000 in
theorem q90_49 : dropTo 49 (mcode 90) = k90_49 := rfl
set_option maxRecDepth 20000 in
theorem q90_61 : dropTo 61 (mcode 90) = k90_61 := rfl
set_option maxRecDepth 20000 in
theorem q90_70 : dropTo 70 (mcode 90) = k90_70 := rfl
set_option maxRecDepth 20000 in
theorem q90_87 : dropTo 87 (mcode 90) = k90_87 := rfl
set_option maxRecDepth 20000 in
theorem q90_98 : dropTo 98 (mcode 90) = k90_98 := rfl
set_option maxRecDepth 20000 in
theorem q91_0 : dropTo 0 (mcode 91) = k91_0 := rfl
set_option maxRecDepth 20000 in
theorem q91_26 : dropTo 26 (mcode 91) = k91_26 := rfl
set_option maxRecDepth 20000 in
theorem q91_28 : dropTo 28 (mcode 91) = k91_28 := rfl
set_option maxRecDepth 20000 in
theorem q91_69 : dropTo 69 (mcode 91) = k91_69 := rfl
set_option maxRecDepth 20000 in
theorem q91_71 : dropTo 71 (mcode 91) = k91_71 := rfl
set_option maxRecDepth 20000 in
theorem q91_72 : dropTo 72 (mcode 91) = k91_72 := rfl
set_option maxRecDepth 20000 in
theorem q91_89 : dropTo 89 (mcode 91) = k91_89 := rfl
set_option maxRecDepth 20000 in
theorem q91_115 : dropTo 115 (mcode 91) = k91_115 := rfl
set_option maxRecDepth 20000 in
theorem q91_117 : dropTo 117 (mcode 91) = k91_117 := rfl
set_option maxRecDepth 20000 in
theorem q92_0 : dropTo 0 (mcode 92) = k92_0 := rfl
set_option maxRecDepth 20000 in
theorem q92_23 : dropTo 23 (mcode 92) = k92_23 := rfl
set_option maxRecDepth 20000 in
theorem q93_0 : dropTo 0 (mcode 93) = k93_0 := rfl
set_option maxRecDepth 20000 in
theorem q93_29 : dropTo 29 (mcode 93) = k93_29 := rfl
set_option maxRecDepth 20000 in
theorem q93_31 : dropTo 31 (mcode 93) = k93_31 := rfl
set_option maxRecDepth 20000 in
theorem q94_0 : dropTo 0 (mcode 94) = k94_0 := rfl
set_option maxRecDepth 20000 in
theorem q94_40 : dropTo 40 (mcode 94) = k94_40 := rfl
set_option maxRecDepth 20000 in
theorem q94_48 : dropTo 48 (mcode 94) = k94_48 := rfl
set_option maxRecDepth 20000 in
theorem q94_56 : dropTo 56 (mcode 94) = k94_56 := rfl
set_option maxRecDepth 20000 in
theorem q94_67 : dropTo 67 (mcode 94) = k94_67 := rfl
set_option maxRecDepth 20000 in
theorem q94_72 : dropTo 72 (mcode 94) = k94_72 := rfl
set_option maxRecDepth 20000 in
theorem q94_80 : dropTo 80 (mcode 94) = k94_80 := rfl
set_option maxRecDepth 20000 in
theorem q94_88 : dropTo 88 (mcode 94) = k94_88 := rfl
set_option maxRecDepth 20000 in
theorem q95_0 : dropTo 0 (mcode 95) = k95_0 := rfl
set_option maxRecDepth 20000 in
theorem q96_0 : dropTo 0 (mcode 96) = k96_0 := rfl
set_option maxRecDepth 20000 in
theorem q96_10 : dropTo 10 (mcode 96) = k96_10 := rfl
set_option maxRecDepth 20000 in
theorem q97_0 : dropTo 0 (mcode 97) = k97_0 := rfl
set_option maxRecDepth 20000 in
theorem q97_14 : dropTo 14 (mcode 97) = k97_14 := rfl
set_option maxRecDepth 20000 in
theorem q97_15 : dropTo 15 (mcode 97) = k97_15 := rfl
set_option maxRecDepth 20000 in
theorem q98_0 : dropTo 0 (mcode 98) = k98_0 := rfl
set_option maxRecDepth 20000 in
theorem q99_0 : dropTo 0 (mcode 99) = k99_0 := rfl
set_option maxRecDepth 20000 in
theorem q100_0 : dropTo 0 (mcode 100) = k100_0 := rfl
set_option maxRecDepth 20000 in
theorem q101_0 : dropTo 0 (mcode 101) = k101_0 := rfl
set_option maxRecDepth 20000 in
theorem q102_0 : dropTo 0 (mcode 102) = k102_0 := rfl
set_option maxRecDepth 20000 in
theorem q103_0 : dropTo 0 (mcode 103) = k103_0 := rfl
set_option maxRecDepth 20000 in
theorem q104_0 : dropTo 0 (mcode 104) = k104_0 := rfl
set_option maxRecDepth 20000 in
theorem q104_27 : dropTo 27 (mcode 104) = k104_27 := rfl
set_option maxRecDepth 20000 in
theorem q104_28 : dropTo 28 (mcode 104) = k104_28 := rfl
set_option maxRecDepth 20000 in
theorem q105_0 : dropTo 0 (mcode 105) = k105_0 := rfl
set_option maxRecDepth 20000 in
theorem q106_0 : dropTo 0 (mcode 106) = k106_0 := rfl
set_option maxRecDepth 20000 in
theorem q106_61 : dropTo 61 (mcode 106) = k106_61 := rfl
set_option maxRecDepth 20000 in
theorem q106_62 : dropTo 62 (mcode 106) = k106_62 := rfl
set_option maxRecDepth 20000 in
theorem q107_0 : dropTo 0 (mcode 107) = k107_0 := rfl
set_option maxRecDepth 20000 in
theorem q108_0 : dropTo 0 (mcode 108) = k108_0 := rfl
set_option maxRecDepth 20000 in
theorem q108_13 : dropTo 13 (mcode 108) = k108_13 := rfl
set_option maxRecDepth 20000 in
theorem q108_48 : dropTo 48 (mcode 108) = k108_48 := rfl
set_option maxRecDepth 20000 in
theorem q108_65 : dropTo 65 (mcode 108) = k108_65 := rfl
set_option maxRecDepth 20000 in
theorem q108_94 : dropTo 94 (mcode 108) = k108_94 := rfl
set_option maxRecDepth 20000 in
theorem q108_95 : dropTo 95 (mcode 108) = k108_95 := rfl
set_option maxRecDepth 20000 in
theorem q108_109 : dropTo 109 (mcode 108) = k108_109 := rfl
set_option maxRecDepth 20000 in
theorem q108_128 : dropTo 128 (mcode 108) = k108_128 := rfl
set_option maxRecDepth 20000 in
theorem q108_136 : dropTo 136 (mcode 108) = k108_136 := rfl
set_option maxRecDepth 20000 in
theorem q109_0 : dropTo 0 (mcode 109) = k109_0 := rfl
set_option maxRecDepth 20000 in
theorem q110_0 : dropTo 0 (mcode 110) = k110_0 := rfl
set_option maxRecDepth 20000 in
theorem q110_2 : dropTo 2 (mcode 110) = k110_2 := rfl
set_option maxRecDepth 20000 in
theorem q110_21 : dropTo 21 (mcode 110) = k110_21 := rfl
set_option maxRecDepth 20000 in
theorem q110_27 : dropTo 27 (mcode 110) = k110_27 := rfl
set_option maxRecDepth 20000 in
theorem q111_0 : dropTo 0 (mcode 111) = k111_0 := rfl
set_option maxRecDepth 20000 in
theorem q111_19 : dropTo 19 (mcode 111) = k111_19 := rfl
set_option maxRecDepth 20000 in
theorem q111_22 : dropTo 22 (mcode 111) = k111_22 := rfl
set_option maxRecDepth 20000 in
theorem q111_47 : dropTo 47 (mcode 111) = k111_47 := rfl
set_option maxRecDepth 20000 in
theorem q111_49 : dropTo 49 (mcode 111) = k111_49 := rfl
set_option maxRecDepth 20000 in
theorem q112_0 : dropTo 0 (mcode 112) = k112_0 := rfl
set_option maxRecDepth 20000 in
theorem q112_14 : dropTo 14 (mcode 112) = k112_14 := rfl
set_option maxRecDepth 20000 in
theorem q112_15 : dropTo 15 (mcode 112) = k112_15 := rfl
set_option maxRecDepth 20000 in
theorem q113_0 : dropTo 0 (mcode 113) = k113_0 := rfl
set_option maxRecDepth 20000 in
theorem q114_0 : dropTo 0 (mcode 114) = k114_0 := rfl
set_option maxRecDepth 20000 in
theorem q115_0 : dropTo 0 (mcode 115) = k115_0 := rfl
set_option maxRecDepth 20000 in
theorem q116_0 : dropTo 0 (mcode 116) = k116_0 := rfl
set_option maxRecDepth 20000 in
theorem q117_0 : dropTo 0 (mcode 117) = k117_0 := rfl
set_option maxRecDepth 20000 in
theorem q118_0 : dropTo 0 (mcode 118) = k118_0 := rfl
set_option maxRecDepth 20000 in
theorem q118_23 : dropTo 23 (mcode 118) = k118_23 := rfl
set_option maxRecDepth 20000 in
theorem q118_24 : dropTo 24 (mcode 118) = k118_24 := rfl
set_option maxRecDepth 20000 in
theorem q119_0 : dropTo 0 (mcode 119) = k119_0 := rfl
set_option maxRecDepth 20000 in
theorem q120_0 : dropTo 0 (mcode 120) = k120_0 := rfl
set_option maxRecDepth 20000 in
theorem q121_0 : dropTo 0 (mcode 121) = k121_0 := rfl
set_option maxRecDepth 20000 in
theorem q121_12 : dropTo 12 (mcode 121) = k121_12 := rfl
set_option maxRecDepth 20000 in
theorem q121_27 : dropTo 27 (mcode 121) = k121_27 := rfl
set_option maxRecDepth 20000 in
theorem q121_30 : dropTo 30 (mcode 121) = k121_30 := rfl
set_option maxRecDepth 20000 in
theorem q121_73 : dropTo 73 (mcode 121) = k121_73 := rfl
set_option maxRecDepth 20000 in
theorem q122_0 : dropTo 0 (mcode 122) = k122_0 := rfl
set_option maxRecDepth 20000 in
theorem q122_17 : dropTo 17 (mcode 122) = k122_17 := rfl
set_option maxRecDepth 20000 in
theorem q122_18 : dropTo 18 (mcode 122) = k122_18 := rfl
set_option maxRecDepth 20000 in
theorem q123_0 : dropTo 0 (mcode 123) = k123_0 := rfl
set_option maxRecDepth 20000 in
theorem q124_0 : dropTo 0 (mcode 124) = k124_0 := rfl
set_option maxRecDepth 20000 in
theorem q125_0 : dropTo 0 (mcode 125) = k125_0 := rfl
set_option maxRecDepth 20000 in
theorem q125_8 : dropTo 8 (mcode 125) = k125_8 := rfl
set_option maxRecDepth 20000 in
theorem q125_34 : dropTo 34 (mcode 125) = k125_34 := rfl
set_option maxRecDepth 20000 in
theorem q125_60 : dropTo 60 (mcode 125) = k125_60 := rfl
set_option maxRecDepth 20000 in
theorem q125_71 : dropTo 71 (mcode 125) = k125_71 := rfl
set_option maxRecDepth 20000 in
theorem q125_82 : dropTo 82 (mcode 125) = k125_82 := rfl
set_option maxRecDepth 20000 in
theorem q125_83 : dropTo 83 (mcode 125) = k125_83 := rfl
set_option maxRecDepth 20000 in
theorem q125_104 : dropTo 104 (mcode 125) = k125_104 := rfl
set_option maxRecDepth 20000 in
theorem q125_105 : dropTo 105 (mcode 125) = k125_105 := rfl
set_option maxRecDepth 20000 in
theorem q125_126 : dropTo 126 (mcode 125) = k125_126 := rfl
set_option maxRecDepth 20000 in
theorem q125_188 : dropTo 188 (mcode 125) = k125_188 := rfl
set_option maxRecDepth 20000 in
theorem q125_191 : dropTo 191 (mcode 125) = k125_191 := rfl
set_option maxRecDepth 20000 in
theorem q125_207 : dropTo 207 (mcode 125) = k125_207 := rfl
set_option maxRecDepth 20000 in
theorem q125_265 : dropTo 265 (mcode 125) = k125_265 := rfl
set_option maxRecDepth 20000 in
theorem q125_266 : dropTo 266 (mcode 125) = k125_266 := rfl
set_option maxRecDepth 20000 in
theorem q125_282 : dropTo 282 (mcode 125) = k125_282 := rfl
set_option maxRecDepth 20000 in
theorem q126_0 : dropTo 0 (mcode 126) = k126_0 := rfl
set_option maxRecDepth 20000 in
theorem q126_21 : dropTo 21 (mcode 126) = k126_21 := rfl
set_option maxRecDepth 20000 in
theorem q126_22 : dropTo 22 (mcode 126) = k126_22 := rfl
set_option maxRecDepth 20000 in
theorem q127_0 : dropTo 0 (mcode 127) = k127_0 := rfl
set_option maxRecDepth 20000 in
theorem q127_20 : dropTo 20 (mcode 127) = k127_20 := rfl
set_option maxRecDepth 20000 in
theorem q127_21 : dropTo 21 (mcode 127) = k127_21 := rfl
set_option maxRecDepth 20000 in
theorem q128_0 : dropTo 0 (mcode 128) = k128_0 := rfl
set_option maxRecDepth 20000 in
theorem q128_14 : dropTo 14 (mcode 128) = k128_14 := rfl
set_option maxRecDepth 20000 in
theorem q128_28 : dropTo 28 (mcode 128) = k128_28 := rfl
set_option maxRecDepth 20000 in
theorem q128_42 : dropTo 42 (mcode 128) = k128_42 := rfl
set_option maxRecDepth 20000 in
theorem q128_56 : dropTo 56 (mcode 128) = k128_56 := rfl
set_option maxRecDepth 20000 in
theorem q128_70 : dropTo 70 (mcode 128) = k128_70 := rfl
set_option maxRecDepth 20000 in
theorem q128_84 : dropTo 84 (mcode 128) = k128_84 := rfl
set_option maxRecDepth 20000 in
theorem q128_85 : dropTo 85 (mcode 128) = k128_85 := rfl
set_option maxRecDepth 20000 in
theorem q129_0 : dropTo 0 (mcode 129) = k129_0 := rfl
set_option maxRecDepth 20000 in
theorem q129_34 : dropTo 34 (mcode 129) = k129_34 := rfl
set_option maxRecDepth 20000 in
theorem q129_35 : dropTo 35 (mcode 129) = k129_35 := rfl
set_option maxRecDepth 20000 in
theorem q129_49 : dropTo 49 (mcode 129) = k129_49 := rfl
set_option maxRecDepth 20000 in
theorem q130_0 : dropTo 0 (mcode 130) = k130_0 := rfl
set_option maxRecDepth 20000 in
theorem q130_20 : dropTo 20 (mcode 130) = k130_20 := rfl
set_option maxRecDepth 20000 in
theorem q130_21 : dropTo 21 (mcode 130) = k130_21 := rfl
set_option maxRecDepth 20000 in
theorem q130_35 : dropTo 35 (mcode 130) = k130_35 := rfl
set_option maxRecDepth 20000 in
theorem q131_0 : dropTo 0 (mcode 131) = k131_0 := rfl
set_option maxRecDepth 20000 in
theorem q131_21 : dropTo 21 (mcode 131) = k131_21 := rfl
set_option maxRecDepth 20000 in
theorem q131_22 : dropTo 22 (mcode 131) = k131_22 := rfl
set_option maxRecDepth 20000 in
theorem q131_36 : dropTo 36 (mcode 131) = k131_36 := rfl
set_option maxRecDepth 20000 in
theorem q132_0 : dropTo 0 (mcode 132) = k132_0 := rfl
set_option maxRecDepth 20000 in
theorem q132_14 : dropTo 14 (mcode 132) = k132_14 := rfl
set_option maxRecDepth 20000 in
theorem q132_15 : dropTo 15 (mcode 132) = k132_15 := rfl
set_option maxRecDepth 20000 in
theorem q132_29 : dropTo 29 (mcode 132) = k132_29 := rfl
set_option maxRecDepth 20000 in
theorem q132_101 : dropTo 101 (mcode 132) = k132_101 := rfl
set_option maxRecDepth 20000 in
theorem q132_174 : dropTo 174 (mcode 132) = k132_174 := rfl
set_option maxRecDepth 20000 in
theorem q133_0 : dropTo 0 (mcode 133) = k133_0 := rfl
set_option maxRecDepth 20000 in
theorem q133_13 : dropTo 13 (mcode 133) = k133_13 := rfl
set_option maxRecDepth 20000 in
theorem q133_14 : dropTo 14 (mcode 133) = k133_14 := rfl
set_option maxRecDepth 20000 in
theorem q133_28 : dropTo 28 (mcode 133) = k133_28 := rfl
set_option maxRecDepth 20000 in
theorem q133_117 : dropTo 117 (mcode 133) = k133_117 := rfl
set_option maxRecDepth 20000 in
theorem q134_0 : dropTo 0 (mcode 134) = k134_0 := rfl
set_option maxRecDepth 20000 in
theorem q134_18 : dropTo 18 (mcode 134) = k134_18 := rfl
set_option maxRecDepth 20000 in
theorem q134_35 : dropTo 35 (mcode 134) = k134_35 := rfl
set_option maxRecDepth 20000 in
theorem q134_67 : dropTo 67 (mcode 134) = k134_67 := rfl
set_option maxRecDepth 20000 in
theorem q134_72 : dropTo 72 (mcode 134) = k134_72 := rfl
set_option maxRecDepth 20000 in
theorem q135_0 : dropTo 0 (mcode 135) = k135_0 := rfl
set_option maxRecDepth 20000 in
theorem q135_29 : dropTo 29 (mcode 135) = k135_29 := rfl
set_option maxRecDepth 20000 in
theorem q135_50 : dropTo 50 (mcode 135) = k135_50 := rfl
set_option maxRecDepth 20000 in
theorem q135_70 : dropTo 70 (mcode 135) = k135_70 := rfl
set_option maxRecDepth 20000 in
theorem q136_0 : dropTo 0 (mcode 136) = k136_0 := rfl
set_option maxRecDepth 20000 in
theorem q136_18 : dropTo 18 (mcode 136) = k136_18 := rfl
set_option maxRecDepth 20000 in
theorem q136_65 : dropTo 65 (mcode 136) = k136_65 := rfl
set_option maxRecDepth 20000 in
theorem q136_82 : dropTo 82 (mcode 136) = k136_82 := rfl
set_option maxRecDepth 20000 in
theorem q136_182 : dropTo 182 (mcode 136) = k136_182 := rfl
set_option maxRecDepth 20000 in
theorem q137_0 : dropTo 0 (mcode 137) = k137_0 := rfl
set_option maxRecDepth 20000 in
theorem q137_12 : dropTo 12 (mcode 137) = k137_12 := rfl
set_option maxRecDepth 20000 in
theorem q138_0 : dropTo 0 (mcode 138) = k138_0 := rfl
set_option maxRecDepth 20000 in
theorem q139_0 : dropTo 0 (mcode 139) = k139_0 := rfl
set_option maxRecDepth 20000 in
theorem q139_24 : dropTo 24 (mcode 139) = k139_24 := rfl
set_option maxRecDepth 20000 in
theorem q139_26 : dropTo 26 (mcode 139) = k139_26 := rfl
set_option maxRecDepth 20000 in
theorem q139_37 : dropTo 37 (mcode 139) = k139_37 := rfl
set_option maxRecDepth 20000 in
theorem q140_0 : dropTo 0 (mcode 140) = k140_0 := rfl
set_option maxRecDepth 20000 in
theorem q140_16 : dropTo 16 (mcode 140) = k140_16 := rfl
set_option maxRecDepth 20000 in
theorem q140_28 : dropTo 28 (mcode 140) = k140_28 := rfl
set_option maxRecDepth 20000 in
theorem q140_84 : dropTo 84 (mcode 140) = k140_84 := rfl
set_option maxRecDepth 20000 in
theorem q141_0 : dropTo 0 (mcode 141) = k141_0 := rfl
set_option maxRecDepth 20000 in
theorem q141_5 : dropTo 5 (mcode 141) = k141_5 := rfl
set_option maxRecDepth 20000 in
theorem q141_60 : dropTo 60 (mcode 141) = k141_60 := rfl
set_option maxRecDepth 20000 in
theorem q141_64 : dropTo 64 (mcode 141) = k141_64 := rfl
set_option maxRecDepth 20000 in
theorem q141_65 : dropTo 65 (mcode 141) = k141_65 := rfl
set_option maxRecDepth 20000 in
theorem q141_72 : dropTo 72 (mcode 141) = k141_72 := rfl
set_option maxRecDepth 20000 in
theorem q142_0 : dropTo 0 (mcode 142) = k142_0 := rfl
set_option maxRecDepth 20000 in
theorem q142_14 : dropTo 14 (mcode 142) = k142_14 := rfl
set_option maxRecDepth 20000 in
theorem q142_16 : dropTo 16 (mcode 142) = k142_16 := rfl
set_option maxRecDepth 20000 in
theorem q142_29 : dropTo 29 (mcode 142) = k142_29 := rfl
set_option maxRecDepth 20000 in
theorem q142_30 : dropTo 30 (mcode 142) = k142_30 := rfl
set_option maxRecDepth 20000 in
theorem q143_0 : dropTo 0 (mcode 143) = k143_0 := rfl
set_option maxRecDepth 20000 in
theorem q143_23 : dropTo 23 (mcode 143) = k143_23 := rfl
set_option maxRecDepth 20000 in
theorem q143_25 : dropTo 25 (mcode 143) = k143_25 := rfl
set_option maxRecDepth 20000 in
theorem q143_37 : dropTo 37 (mcode 143) = k143_37 := rfl
set_option maxRecDepth 20000 in
theorem q143_110 : dropTo 110 (mcode 143) = k143_110 := rfl
set_option maxRecDepth 20000 in
theorem q143_116 : dropTo 116 (mcode 143) = k143_116 := rfl
set_option maxRecDepth 20000 in
theorem q144_0 : dropTo 0 (mcode 144) = k144_0 := rfl
set_option maxRecDepth 20000 in
theorem q144_14 : dropTo 14 (mcode 144) = k144_14 := rfl
set_option maxRecDepth 20000 in
theorem q144_38 : dropTo 38 (mcode 144) = k144_38 := rfl
set_option maxRecDepth 20000 in
theorem q144_39 : dropTo 39 (mcode 144) = k144_39 := rfl
set_option maxRecDepth 20000 in
theorem q145_0 : dropTo 0 (mcode 145) = k145_0 := rfl
set_option maxRecDepth 20000 in
theorem q145_40 : dropTo 40 (mcode 145) = k145_40 := rfl
set_option maxRecDepth 20000 in
theorem q145_43 : dropTo 43 (mcode 145) = k145_43 := rfl
set_option maxRecDepth 20000 in
theorem q145_46 : dropTo 46 (mcode 145) = k145_46 := rfl
set_option maxRecDepth 20000 in
theorem q145_48 : dropTo 48 (mcode 145) = k145_48 := rfl
set_option maxRecDepth 20000 in
theorem q145_50 : dropTo 50 (mcode 145) = k145_50 := rfl
set_option maxRecDepth 20000 in
theorem q145_59 : dropTo 59 (mcode 145) = k145_59 := rfl
set_option maxRecDepth 20000 in
theorem q146_0 : dropTo 0 (mcode 146) = k146_0 := rfl
set_option maxRecDepth 20000 in
theorem q146_9 : dropTo 9 (mcode 146) = k146_9 := rfl
set_option maxRecDepth 20000 in
theorem q146_10 : dropTo 10 (mcode 146) = k146_10 := rfl
set_option maxRecDepth 20000 in
theorem q147_0 : dropTo 0 (mcode 147) = k147_0 := rfl
set_option maxRecDepth 20000 in
theorem q147_18 : dropTo 18 (mcode 147) = k147_18 := rfl
set_option maxRecDepth 20000 in
theorem q147_20 : dropTo 20 (mcode 147) = k147_20 := rfl
set_option maxRecDepth 20000 in
theorem q147_68 : dropTo 68 (mcode 147) = k147_68 := rfl
set_option maxRecDepth 20000 in
theorem q147_75 : dropTo 75 (mcode 147) = k147_75 := rfl
set_option maxRecDepth 20000 in
theorem q147_82 : dropTo 82 (mcode 147) = k147_82 := rfl
set_option maxRecDepth 20000 in
theorem q147_91 : dropTo 91 (mcode 147) = k147_91 := rfl
set_option maxRecDepth 20000 in
theorem q147_101 : dropTo 101 (mcode 147) = k147_101 := rfl
set_option maxRecDepth 20000 in
theorem q147_111 : dropTo 111 (mcode 147) = k147_111 := rfl
set_option maxRecDepth 20000 in
theorem q147_121 : dropTo 121 (mcode 147) = k147_121 := rfl
set_option maxRecDepth 20000 in
theorem q147_134 : dropTo 134 (mcode 147) = k147_134 := rfl
set_option maxRecDepth 20000 in
theorem q147_140 : dropTo 140 (mcode 147) = k147_140 := rfl
set_option maxRecDepth 20000 in
theorem q148_0 : dropTo 0 (mcode 148) = k148_0 := rfl
set_option maxRecDepth 20000 in
theorem q148_16 : dropTo 16 (mcode 148) = k148_16 := rfl
set_option maxRecDepth 20000 in
theorem q148_18 : dropTo 18 (mcode 148) = k148_18 := rfl
set_option maxRecDepth 20000 in
theorem q149_0 : dropTo 0 (mcode 149) = k149_0 := rfl
set_option maxRecDepth 20000 in
theorem q150_0 : dropTo 0 (mcode 150) = k150_0 := rfl
set_option maxRecDepth 20000 in
theorem q150_22 : dropTo 22 (mcode 150) = k150_22 := rfl
set_option maxRecDepth 20000 in
theorem q150_24 : dropTo 24 (mcode 150) = k150_24 := rfl
set_option maxRecDepth 20000 in
theorem q151_0 : dropTo 0 (mcode 151) = k151_0 := rfl
set_option maxRecDepth 20000 in
theorem q151_15 : dropTo 15 (mcode 151) = k151_15 := rfl
set_option maxRecDepth 20000 in
theorem q151_17 : dropTo 17 (mcode 151) = k151_17 := rfl
set_option maxRecDepth 20000 in
theorem q152_0 : dropTo 0 (mcode 152) = k152_0 := rfl
set_option maxRecDepth 20000 in
theorem q153_0 : dropTo 0 (mcode 153) = k153_0 := rfl
set_option maxRecDepth 20000 in
theorem q153_48 : dropTo 48 (mcode 153) = k153_48 := rfl
set_option maxRecDepth 20000 in
theorem q153_50 : dropTo 50 (mcode 153) = k153_50 := rfl
set_option maxRecDepth 20000 in
theorem q153_64 : dropTo 64 (mcode 153) = k153_64 := rfl
set_option maxRecDepth 20000 in
theorem q153_65 : dropTo 65 (mcode 153) = k153_65 := rfl
set_option maxRecDepth 20000 in
theorem q153_66 : dropTo 66 (mcode 153) = k153_66 := rfl
set_option maxRecDepth 20000 in
theorem q153_83 : dropTo 83 (mcode 153) = k153_83 := rfl
set_option maxRecDepth 20000 in
theorem q153_84 : dropTo 84 (mcode 153) = k153_84 := rfl
set_option maxRecDepth 20000 in
theorem q153_85 : dropTo 85 (mcode 153) = k153_85 := rfl
set_option maxRecDepth 20000 in
theorem q154_0 : dropTo 0 (mcode 154) = k154_0 := rfl
set_option maxRecDepth 20000 in
theorem q154_22 : dropTo 22 (mcode 154) = k154_22 := rfl
set_option maxRecDepth 20000 in
theorem q154_23 : dropTo 23 (mcode 154) = k154_23 := rfl
set_option maxRecDepth 20000 in
theorem q154_38 : dropTo 38 (mcode 154) = k154_38 := rfl
set_option maxRecDepth 20000 in
theorem q154_47 : dropTo 47 (mcode 154) = k154_47 := rfl
set_option maxRecDepth 20000 in
theorem q154_58 : dropTo 58 (mcode 154) = k154_58 := rfl
set_option maxRecDepth 20000 in
theorem q154_63 : dropTo 63 (mcode 154) = k154_63 := rfl
set_option maxRecDepth 20000 in
theorem q154_99 : dropTo 99 (mcode 154) = k154_99 := rfl
set_option maxRecDepth 20000 in
theorem q154_101 : dropTo 101 (mcode 154) = k154_101 := rfl
set_option maxRecDepth 20000 in
theorem q154_149 : dropTo 149 (mcode 154) = k154_149 := rfl
set_option maxRecDepth 20000 in
theorem q154_156 : dropTo 156 (mcode 154) = k154_156 := rfl
set_option maxRecDepth 20000 in
theorem q154_202 : dropTo 202 (mcode 154) = k154_202 := rfl
set_option maxRecDepth 20000 in
theorem q154_210 : dropTo 210 (mcode 154) = k154_210 := rfl
set_option maxRecDepth 20000 in
theorem q154_211 : dropTo 211 (mcode 154) = k154_211 := rfl
set_option maxRecDepth 20000 in
theorem q155_0 : dropTo 0 (mcode 155) = k155_0 := rfl
set_option maxRecDepth 20000 in
theorem q155_22 : dropTo 22 (mcode 155) = k155_22 := rfl
set_option maxRecDepth 20000 in
theorem q155_23 : dropTo 23 (mcode 155) = k155_23 := rfl
set_option maxRecDepth 20000 in
theorem q156_0 : dropTo 0 (mcode 156) = k156_0 := rfl
set_option maxRecDepth 20000 in
theorem q156_12 : dropTo 12 (mcode 156) = k156_12 := rfl
set_option maxRecDepth 20000 in
theorem q156_13 : dropTo 13 (mcode 156) = k156_13 := rfl
set_option maxRecDepth 20000 in
theorem q156_20 : dropTo 20 (mcode 156) = k156_20 := rfl
set_option maxRecDepth 20000 in
theorem q156_43 : dropTo 43 (mcode 156) = k156_43 := rfl
set_option maxRecDepth 20000 in
theorem q156_44 : dropTo 44 (mcode 156) = k156_44 := rfl
set_option maxRecDepth 20000 in
theorem q156_58 : dropTo 58 (mcode 156) = k156_58 := rfl
set_option maxRecDepth 20000 in
theorem q156_63 : dropTo 63 (mcode 156) = k156_63 := rfl
set_option maxRecDepth 20000 in
theorem q156_78 : dropTo 78 (mcode 156) = k156_78 := rfl
set_option maxRecDepth 20000 in
theorem q156_79 : dropTo 79 (mcode 156) = k156_79 := rfl
set_option maxRecDepth 20000 in
theorem q156_102 : dropTo 102 (mcode 156) = k156_102 := rfl
set_option maxRecDepth 20000 in
theorem q157_0 : dropTo 0 (mcode 157) = k157_0 := rfl
set_option maxRecDepth 20000 in
theorem q157_2 : dropTo 2 (mcode 157) = k157_2 := rfl
set_option maxRecDepth 20000 in
theorem q157_21 : dropTo 21 (mcode 157) = k157_21 := rfl
set_option maxRecDepth 20000 in
theorem q157_23 : dropTo 23 (mcode 157) = k157_23 := rfl
set_option maxRecDepth 20000 in
theorem q157_31 : dropTo 31 (mcode 157) = k157_31 := rfl
set_option maxRecDepth 20000 in
theorem q157_80 : dropTo 80 (mcode 157) = k157_80 := rfl
set_option maxRecDepth 20000 in
theorem q157_86 : dropTo 86 (mcode 157) = k157_86 := rfl
set_option maxRecDepth 20000 in
theorem q157_92 : dropTo 92 (mcode 157) = k157_92 := rfl
set_option maxRecDepth 20000 in
theorem q158_0 : dropTo 0 (mcode 158) = k158_0 := rfl
set_option maxRecDepth 20000 in
theorem q158_2 : dropTo 2 (mcode 158) = k158_2 := rfl
set_option maxRecDepth 20000 in
theorem q158_27 : dropTo 27 (mcode 158) = k158_27 := rfl
set_option maxRecDepth 20000 in
theorem q159_0 : dropTo 0 (mcode 159) = k159_0 := rfl
set_option maxRecDepth 20000 in
theorem q159_12 : dropTo 12 (mcode 159) = k159_12 := rfl
set_option maxRecDepth 20000 in
theorem q160_0 : dropTo 0 (mcode 160) = k160_0 := rfl
set_option maxRecDepth 20000 in
theorem q160_12 : dropTo 12 (mcode 160) = k160_12 := rfl
set_option maxRecDepth 20000 in
theorem q161_0 : dropTo 0 (mcode 161) = k161_0 := rfl
set_option maxRecDepth 20000 in
theorem q161_7 : dropTo 7 (mcode 161) = k161_7 := rfl
set_option maxRecDepth 20000 in
theorem q161_34 : dropTo 34 (mcode 161) = k161_34 := rfl
set_option maxRecDepth 20000 in
theorem q161_42 : dropTo 42 (mcode 161) = k161_42 := rfl
set_option maxRecDepth 20000 in
theorem q161_61 : dropTo 61 (mcode 161) = k161_61 := rfl
set_option maxRecDepth 20000 in
theorem q161_63 : dropTo 63 (mcode 161) = k161_63 := rfl
set_option maxRecDepth 20000 in
theorem q161_82 : dropTo 82 (mcode 161) = k161_82 := rfl
set_option maxRecDepth 20000 in
theorem q162_0 : dropTo 0 (mcode 162) = k162_0 := rfl
set_option maxRecDepth 20000 in
theorem q163_0 : dropTo 0 (mcode 163) = k163_0 := rfl
set_option maxRecDepth 20000 in
theorem q164_0 : dropTo 0 (mcode 164) = k164_0 := rfl
set_option maxRecDepth 20000 in
theorem q165_0 : dropTo 0 (mcode 165) = k165_0 := rfl
set_option maxRecDepth 20000 in
theorem q165_13 : dropTo 13 (mcode 165) = k165_13 := rfl
set_option maxRecDepth 20000 in
theorem q165_14 : dropTo 14 (mcode 165) = k165_14 := rfl
set_option maxRecDepth 20000 in
theorem q165_17 : dropTo 17 (mcode 165) = k165_17 := rfl
set_option maxRecDepth 20000 in
theorem q165_41 : dropTo 41 (mcode 165) = k165_41 := rfl
set_option maxRecDepth 20000 in
theorem q165_42 : dropTo 42 (mcode 165) = k165_42 := rfl
set_option maxRecDepth 20000 in
theorem q165_60 : dropTo 60 (mcode 165) = k165_60 := rfl
set_option maxRecDepth 20000 in
theorem q165_61 : dropTo 61 (mcode 165) = k165_61 := rfl
set_option maxRecDepth 20000 in
theorem q165_68 : dropTo 68 (mcode 165) = k165_68 := rfl
set_option maxRecDepth 20000 in
theorem q165_76 : dropTo 76 (mcode 165) = k165_76 := rfl
set_option maxRecDepth 20000 in
theorem q165_78 : dropTo 78 (mcode 165) = k165_78 := rfl
set_option maxRecDepth 20000 in
theorem q166_0 : dropTo 0 (mcode 166) = k166_0 := rfl
set_option maxRecDepth 20000 in
theorem q166_10 : dropTo 10 (mcode 166) = k166_10 := rfl
set_option maxRecDepth 20000 in
theorem q166_27 : dropTo 27 (mcode 166) = k166_27 := rfl
set_option maxRecDepth 20000 in
theorem q166_32 : dropTo 32 (mcode 166) = k166_32 := rfl
set_option maxRecDepth 20000 in
theorem q167_0 : dropTo 0 (mcode 167) = k167_0 := rfl
set_option maxRecDepth 20000 in
theorem q168_0 : dropTo 0 (mcode 168) = k168_0 := rfl
set_option maxRecDepth 20000 in
theorem q168_10 : dropTo 10 (mcode 168) = k168_10 := rfl
set_option maxRecDepth 20000 in
theorem q169_0 : dropTo 0 (mcode 169) = k169_0 := rfl
set_option maxRecDepth 20000 in
theorem q169_9 : dropTo 9 (mcode 169) = k169_9 := rfl
set_option maxRecDepth 20000 in
theorem q170_0 : dropTo 0 (mcode 170) = k170_0 := rfl
set_option maxRecDepth 20000 in
theorem q170_22 : dropTo 22 (mcode 170) = k170_22 := rfl
set_option maxRecDepth 20000 in
theorem q170_24 : dropTo 24 (mcode 170) = k170_24 := rfl
set_option maxRecDepth 20000 in
theorem q170_47 : dropTo 47 (mcode 170) = k170_47 := rfl
set_option maxRecDepth 20000 in
theorem q170_73 : dropTo 73 (mcode 170) = k170_73 := rfl
set_option maxRecDepth 20000 in
theorem q170_74 : dropTo 74 (mcode 170) = k170_74 := rfl
set_option maxRecDepth 20000 in
theorem q170_82 : dropTo 82 (mcode 170) = k170_82 := rfl
set_option maxRecDepth 20000 in
theorem q171_0 : dropTo 0 (mcode 171) = k171_0 := rfl
set_option maxRecDepth 20000 in
theorem q171_6 : dropTo 6 (mcode 171) = k171_6 := rfl
set_option maxRecDepth 20000 in
theorem q171_40 : dropTo 40 (mcode 171) = k171_40 := rfl
set_option maxRecDepth 20000 in
theorem q171_58 : dropTo 58 (mcode 171) = k171_58 := rfl
set_option maxRecDepth 20000 in
theorem q171_68 : dropTo 68 (mcode 171) = k171_68 := rfl
set_option maxRecDepth 20000 in
theorem q172_0 : dropTo 0 (mcode 172) = k172_0 := rfl
set_option maxRecDepth 20000 in
theorem q172_15 : dropTo 15 (mcode 172) = k172_15 := rfl
set_option maxRecDepth 20000 in
theorem q172_17 : dropTo 17 (mcode 172) = k172_17 := rfl
set_option maxRecDepth 20000 in
theorem q172_20 : dropTo 20 (mcode 172) = k172_20 := rfl
set_option maxRecDepth 20000 in
theorem q172_75 : dropTo 75 (mcode 172) = k172_75 := rfl
set_option maxRecDepth 20000 in
theorem q172_81 : dropTo 81 (mcode 172) = k172_81 := rfl
set_option maxRecDepth 20000 in
theorem q173_0 : dropTo 0 (mcode 173) = k173_0 := rfl
set_option maxRecDepth 20000 in
theorem q173_7 : dropTo 7 (mcode 173) = k173_7 := rfl
set_option maxRecDepth 20000 in
theorem q173_128 : dropTo 128 (mcode 173) = k173_128 := rfl
set_option maxRecDepth 20000 in
theorem q173_140 : dropTo 140 (mcode 173) = k173_140 := rfl
set_option maxRecDepth 20000 in
theorem q173_146 : dropTo 146 (mcode 173) = k173_146 := rfl
set_option maxRecDepth 20000 in
theorem q174_0 : dropTo 0 (mcode 174) = k174_0 := rfl
set_option maxRecDepth 20000 in
theorem q174_9 : dropTo 9 (mcode 174) = k174_9 := rfl
set_option maxRecDepth 20000 in
theorem q174_21 : dropTo 21 (mcode 174) = k174_21 := rfl
set_option maxRecDepth 20000 in
theorem q174_42 : dropTo 42 (mcode 174) = k174_42 := rfl
set_option maxRecDepth 20000 in
theorem q174_74 : dropTo 74 (mcode 174) = k174_74 := rfl
set_option maxRecDepth 20000 in
theorem q174_75 : dropTo 75 (mcode 174) = k174_75 := rfl
set_option maxRecDepth 20000 in
theorem q174_83 : dropTo 83 (mcode 174) = k174_83 := rfl
set_option maxRecDepth 20000 in
theorem q174_93 : dropTo 93 (mcode 174) = k174_93 := rfl
set_option maxRecDepth 20000 in
theorem q174_94 : dropTo 94 (mcode 174) = k174_94 := rfl
set_option maxRecDepth 20000 in
theorem q174_101 : dropTo 101 (mcode 174) = k174_101 := rfl
set_option maxRecDepth 20000 in
theorem q175_0 : dropTo 0 (mcode 175) = k175_0 := rfl
set_option maxRecDepth 20000 in
theorem q175_12 : dropTo 12 (mcode 175) = k175_12 := rfl
set_option maxRecDepth 20000 in
theorem q175_23 : dropTo 23 (mcode 175) = k175_23 := rfl
set_option maxRecDepth 20000 in
theorem q175_37 : dropTo 37 (mcode 175) = k175_37 := rfl
set_option maxRecDepth 20000 in
theorem q175_44 : dropTo 44 (mcode 175) = k175_44 := rfl
set_option maxRecDepth 20000 in
theorem q175_81 : dropTo 81 (mcode 175) = k175_81 := rfl
set_option maxRecDepth 20000 in
theorem q175_85 : dropTo 85 (mcode 175) = k175_85 := rfl
set_option maxRecDepth 20000 in
theorem q175_108 : dropTo 108 (mcode 175) = k175_108 := rfl
set_option maxRecDepth 20000 in
theorem q175_109 : dropTo 109 (mcode 175) = k175_109 := rfl
set_option maxRecDepth 20000 in
theorem q175_121 : dropTo 121 (mcode 175) = k175_121 := rfl
set_option maxRecDepth 20000 in
theorem q175_122 : dropTo 122 (mcode 175) = k175_122 := rfl
set_option maxRecDepth 20000 in
theorem q175_129 : dropTo 129 (mcode 175) = k175_129 := rfl
set_option maxRecDepth 20000 in
theorem q176_0 : dropTo 0 (mcode 176) = k176_0 := rfl
set_option maxRecDepth 20000 in
theorem q176_6 : dropTo 6 (mcode 176) = k176_6 := rfl
set_option maxRecDepth 20000 in
theorem q176_26 : dropTo 26 (mcode 176) = k176_26 := rfl
set_option maxRecDepth 20000 in
theorem q176_34 : dropTo 34 (mcode 176) = k176_34 := rfl
set_option maxRecDepth 20000 in
theorem q176_57 : dropTo 57 (mcode 176) = k176_57 := rfl
set_option maxRecDepth 20000 in
theorem q176_72 : dropTo 72 (mcode 176) = k176_72 := rfl
set_option maxRecDepth 20000 in
theorem q176_80 : dropTo 80 (mcode 176) = k176_80 := rfl
set_option maxRecDepth 20000 in
theorem q177_0 : dropTo 0 (mcode 177) = k177_0 := rfl
set_option maxRecDepth 20000 in
theorem q177_15 : dropTo 15 (mcode 177) = k177_15 := rfl
set_option maxRecDepth 20000 in
theorem q177_16 : dropTo 16 (mcode 177) = k177_16 := rfl
set_option maxRecDepth 20000 in
theorem q178_0 : dropTo 0 (mcode 178) = k178_0 := rfl
set_option maxRecDepth 20000 in
theorem q178_10 : dropTo 10 (mcode 178) = k178_10 := rfl
set_option maxRecDepth 20000 in
theorem q178_33 : dropTo 33 (mcode 178) = k178_33 := rfl
set_option maxRecDepth 20000 in
theorem q178_34 : dropTo 34 (mcode 178) = k178_34 := rfl
set_option maxRecDepth 20000 in
theorem q178_46 : dropTo 46 (mcode 178) = k178_46 := rfl
set_option maxRecDepth 20000 in
theorem q178_47 : dropTo 47 (mcode 178) = k178_47 := rfl
set_option maxRecDepth 20000 in
theorem q178_54 : dropTo 54 (mcode 178) = k178_54 := rfl
set_option maxRecDepth 20000 in
theorem q179_0 : dropTo 0 (mcode 179) = k179_0 := rfl
set_option maxRecDepth 20000 in
theorem q180_0 : dropTo 0 (mcode 180) = k180_0 := rfl
set_option maxRecDepth 20000 in
theorem q180_10 : dropTo 10 (mcode 180) = k180_10 := rfl
set_option maxRecDepth 20000 in
theorem q181_0 : dropTo 0 (mcode 181) = k181_0 := rfl
set_option maxRecDepth 20000 in
theorem q181_9 : dropTo 9 (mcode 181) = k181_9 := rfl
set_option maxRecDepth 20000 in
theorem q181_55 : dropTo 55 (mcode 181) = k181_55 := rfl
set_option maxRecDepth 20000 in
theorem q181_81 : dropTo 81 (mcode 181) = k181_81 := rfl
set_option maxRecDepth 20000 in
theorem q181_85 : dropTo 85 (mcode 181) = k181_85 := rfl
set_option maxRecDepth 20000 in
theorem q181_104 : dropTo 104 (mcode 181) = k181_104 := rfl
set_option maxRecDepth 20000 in
theorem q181_145 : dropTo 145 (mcode 181) = k181_145 := rfl
set_option maxRecDepth 20000 in
theorem q182_0 : dropTo 0 (mcode 182) = k182_0 := rfl
set_option maxRecDepth 20000 in
theorem q182_12 : dropTo 12 (mcode 182) = k182_12 := rfl
set_option maxRecDepth 20000 in
theorem q182_27 : dropTo 27 (mcode 182) = k182_27 := rfl
set_option maxRecDepth 20000 in
theorem q182_55 : dropTo 55 (mcode 182) = k182_55 := rfl
set_option maxRecDepth 20000 in
theorem q183_0 : dropTo 0 (mcode 183) = k183_0 := rfl
set_option maxRecDepth 20000 in
theorem q183_27 : dropTo 27 (mcode 183) = k183_27 := rfl
set_option maxRecDepth 20000 in
theorem q183_28 : dropTo 28 (mcode 183) = k183_28 := rfl
set_option maxRecDepth 20000 in
theorem q184_0 : dropTo 0 (mcode 184) = k184_0 := rfl
set_option maxRecDepth 20000 in
theorem q184_22 : dropTo 22 (mcode 184) = k184_22 := rfl
set_option maxRecDepth 20000 in
theorem q184_24 : dropTo 24 (mcode 184) = k184_24 := rfl
set_option maxRecDepth 20000 in
theorem q185_0 : dropTo 0 (mcode 185) = k185_0 := rfl
set_option maxRecDepth 20000 in
theorem q185_12 : dropTo 12 (mcode 185) = k185_12 := rfl
set_option maxRecDepth 20000 in
theorem q186_0 : dropTo 0 (mcode 186) = k186_0 := rfl
set_option maxRecDepth 20000 in
theorem q186_10 : dropTo 10 (mcode 186) = k186_10 := rfl
set_option maxRecDepth 20000 in
theorem q186_30 : dropTo 30 (mcode 186) = k186_30 := rfl
set_option maxRecDepth 20000 in
theorem q186_31 : dropTo 31 (mcode 186) = k186_31 := rfl
set_option maxRecDepth 20000 in
theorem q186_34 : dropTo 34 (mcode 186) = k186_34 := rfl
set_option maxRecDepth 20000 in
theorem q186_70 : dropTo 70 (mcode 186) = k186_70 := rfl
set_option maxRecDepth 20000 in
theorem q186_71 : dropTo 71 (mcode 186) = k186_71 := rfl
set_option maxRecDepth 20000 in
theorem q186_78 : dropTo 78 (mcode 186) = k186_78 := rfl
set_option maxRecDepth 20000 in
theorem q186_86 : dropTo 86 (mcode 186) = k186_86 := rfl
set_option maxRecDepth 20000 in
theorem q186_92 : dropTo 92 (mcode 186) = k186_92 := rfl
set_option maxRecDepth 20000 in
theorem q187_0 : dropTo 0 (mcode 187) = k187_0 := rfl
set_option maxRecDepth 20000 in
theorem q187_37 : dropTo 37 (mcode 187) = k187_37 := rfl
set_option maxRecDepth 20000 in
theorem q187_39 : dropTo 39 (mcode 187) = k187_39 := rfl
set_option maxRecDepth 20000 in
theorem q187_55 : dropTo 55 (mcode 187) = k187_55 := rfl
set_option maxRecDepth 20000 in
theorem q187_72 : dropTo 72 (mcode 187) = k187_72 := rfl
set_option maxRecDepth 20000 in
theorem q187_75 : dropTo 75 (mcode 187) = k187_75 := rfl
set_option maxRecDepth 20000 in
theorem q187_78 : dropTo 78 (mcode 187) = k187_78 := rfl
set_option maxRecDepth 20000 in
theorem q187_123 : dropTo 123 (mcode 187) = k187_123 := rfl
set_option maxRecDepth 20000 in
theorem q187_137 : dropTo 137 (mcode 187) = k187_137 := rfl
set_option maxRecDepth 20000 in
theorem q187_140 : dropTo 140 (mcode 187) = k187_140 := rfl
set_option maxRecDepth 20000 in
theorem q187_147 : dropTo 147 (mcode 187) = k187_147 := rfl
set_option maxRecDepth 20000 in
theorem q188_0 : dropTo 0 (mcode 188) = k188_0 := rfl
set_option maxRecDepth 20000 in
theorem q189_0 : dropTo 0 (mcode 189) = k189_0 := rfl
set_option maxRecDepth 20000 in
theorem q189_26 : dropTo 26 (mcode 189) = k189_26 := rfl
set_option maxRecDepth 20000 in
theorem q189_28 : dropTo 28 (mcode 189) = k189_28 := rfl
set_option maxRecDepth 20000 in
theorem q189_39 : dropTo 39 (mcode 189) = k189_39 := rfl
set_option maxRecDepth 20000 in
theorem q189_59 : dropTo 59 (mcode 189) = k189_59 := rfl
set_option maxRecDepth 20000 in
theorem q189_60 : dropTo 60 (mcode 189) = k189_60 := rfl
set_option maxRecDepth 20000 in
theorem q189_64 : dropTo 64 (mcode 189) = k189_64 := rfl
set_option maxRecDepth 20000 in
theorem q189_90 : dropTo 90 (mcode 189) = k189_90 := rfl
set_option maxRecDepth 20000 in
theorem q190_0 : dropTo 0 (mcode 190) = k190_0 := rfl
set_option maxRecDepth 20000 in
theorem q190_9 : dropTo 9 (mcode 190) = k190_9 := rfl
set_option maxRecDepth 20000 in
theorem q190_21 : dropTo 21 (mcode 190) = k190_21 := rfl
set_option maxRecDepth 20000 in
theorem q190_40 : dropTo 40 (mcode 190) = k190_40 := rfl
set_option maxRecDepth 20000 in
theorem q190_65 : dropTo 65 (mcode 190) = k190_65 := rfl
set_option maxRecDepth 20000 in
theorem q190_81 : dropTo 81 (mcode 190) = k190_81 := rfl
set_option maxRecDepth 20000 in
theorem q190_83 : dropTo 83 (mcode 190) = k190_83 := rfl
set_option maxRecDepth 20000 in
theorem q191_0 : dropTo 0 (mcode 191) = k191_0 := rfl
set_option maxRecDepth 20000 in
theorem q191_14 : dropTo 14 (mcode 191) = k191_14 := rfl
set_option maxRecDepth 20000 in
theorem q191_29 : dropTo 29 (mcode 191) = k191_29 := rfl
set_option maxRecDepth 20000 in
theorem q191_30 : dropTo 30 (mcode 191) = k191_30 := rfl
set_option maxRecDepth 20000 in
theorem q192_0 : dropTo 0 (mcode 192) = k192_0 := rfl
set_option maxRecDepth 20000 in
theorem q192_16 : dropTo 16 (mcode 192) = k192_16 := rfl
set_option maxRecDepth 20000 in
theorem q192_18 : dropTo 18 (mcode 192) = k192_18 := rfl
set_option maxRecDepth 20000 in
theorem q192_34 : dropTo 34 (mcode 192) = k192_34 := rfl
set_option maxRecDepth 20000 in
theorem q192_65 : dropTo 65 (mcode 192) = k192_65 := rfl
set_option maxRecDepth 20000 in
theorem q192_67 : dropTo 67 (mcode 192) = k192_67 := rfl
set_option maxRecDepth 20000 in
theorem q193_0 : dropTo 0 (mcode 193) = k193_0 := rfl
set_option maxRecDepth 20000 in
theorem q193_12 : dropTo 12 (mcode 193) = k193_12 := rfl
set_option maxRecDepth 20000 in
theorem q193_24 : dropTo 24 (mcode 193) = k193_24 := rfl
set_option maxRecDepth 20000 in
theorem q193_33 : dropTo 33 (mcode 193) = k193_33 := rfl
set_option maxRecDepth 20000 in
theorem q193_34 : dropTo 34 (mcode 193) = k193_34 := rfl
set_option maxRecDepth 20000 in
theorem q194_0 : dropTo 0 (mcode 194) = k194_0 := rfl
set_option maxRecDepth 20000 in
theorem q194_16 : dropTo 16 (mcode 194) = k194_16 := rfl
set_option maxRecDepth 20000 in
theorem q194_18 : dropTo 18 (mcode 194) = k194_18 := rfl
set_option maxRecDepth 20000 in
theorem q194_42 : dropTo 42 (mcode 194) = k194_42 := rfl
set_option maxRecDepth 20000 in
theorem q194_46 : dropTo 46 (mcode 194) = k194_46 := rfl
set_option maxRecDepth 20000 in
theorem q194_47 : dropTo 47 (mcode 194) = k194_47 := rfl
set_option maxRecDepth 20000 in
theorem q194_67 : dropTo 67 (mcode 194) = k194_67 := rfl
set_option maxRecDepth 20000 in
theorem q194_68 : dropTo 68 (mcode 194) = k194_68 := rfl
set_option maxRecDepth 20000 in
theorem q194_88 : dropTo 88 (mcode 194) = k194_88 := rfl
set_option maxRecDepth 20000 in
theorem q194_89 : dropTo 89 (mcode 194) = k194_89 := rfl
set_option maxRecDepth 20000 in
theorem q195_0 : dropTo 0 (mcode 195) = k195_0 := rfl
set_option maxRecDepth 20000 in
theorem q195_22 : dropTo 22 (mcode 195) = k195_22 := rfl
set_option maxRecDepth 20000 in
theorem q195_24 : dropTo 24 (mcode 195) = k195_24 := rfl
set_option maxRecDepth 20000 in
theorem q195_25 : dropTo 25 (mcode 195) = k195_25 := rfl
set_option maxRecDepth 20000 in
theorem q195_52 : dropTo 52 (mcode 195) = k195_52 := rfl
set_option maxRecDepth 20000 in
theorem q195_53 : dropTo 53 (mcode 195) = k195_53 := rfl
set_option maxRecDepth 20000 in
theorem q196_0 : dropTo 0 (mcode 196) = k196_0 := rfl
set_option maxRecDepth 20000 in
theorem q196_19 : dropTo 19 (mcode 196) = k196_19 := rfl
set_option maxRecDepth 20000 in
theorem q196_29 : dropTo 29 (mcode 196) = k196_29 := rfl
set_option maxRecDepth 20000 in
theorem q196_33 : dropTo 33 (mcode 196) = k196_33 := rfl
set_option maxRecDepth 20000 in
theorem q196_34 : dropTo 34 (mcode 196) = k196_34 := rfl
set_option maxRecDepth 20000 in
theorem q197_0 : dropTo 0 (mcode 197) = k197_0 := rfl
set_option maxRecDepth 20000 in
theorem q197_27 : dropTo 27 (mcode 197) = k197_27 := rfl
set_option maxRecDepth 20000 in
theorem q197_29 : dropTo 29 (mcode 197) = k197_29 := rfl
set_option maxRecDepth 20000 in
theorem q197_42 : dropTo 42 (mcode 197) = k197_42 := rfl
set_option maxRecDepth 20000 in
theorem q197_70 : dropTo 70 (mcode 197) = k197_70 := rfl
set_option maxRecDepth 20000 in
theorem q197_72 : dropTo 72 (mcode 197) = k197_72 := rfl
set_option maxRecDepth 20000 in
theorem q197_73 : dropTo 73 (mcode 197) = k197_73 := rfl
set_option maxRecDepth 20000 in
theorem q197_96 : dropTo 96 (mcode 197) = k197_96 := rfl
set_option maxRecDepth 20000 in
theorem q197_98 : dropTo 98 (mcode 197) = k197_98 := rfl
set_option maxRecDepth 20000 in
theorem q198_0 : dropTo 0 (mcode 198) = k198_0 := rfl
set_option maxRecDepth 20000 in
theorem q198_29 : dropTo 29 (mcode 198) = k198_29 := rfl
set_option maxRecDepth 20000 in
theorem q199_0 : dropTo 0 (mcode 199) = k199_0 := rfl
set_option maxRecDepth 20000 in
theorem q200_0 : dropTo 0 (mcode 200) = k200_0 := rfl
set_option maxRecDepth 20000 in
theorem q201_0 : dropTo 0 (mcode 201) = k201_0 := rfl
set_option maxRecDepth 20000 in
theorem q201_32 : dropTo 32 (mcode 201) = k201_32 := rfl
set_option maxRecDepth 20000 in
theorem q201_38 : dropTo 38 (mcode 201) = k201_38 := rfl
set_option maxRecDepth 20000 in
theorem q201_52 : dropTo 52 (mcode 201) = k201_52 := rfl
set_option maxRecDepth 20000 in
theorem q201_69 : dropTo 69 (mcode 201) = k201_69 := rfl
set_option maxRecDepth 20000 in
theorem q202_0 : dropTo 0 (mcode 202) = k202_0 := rfl
set_option maxRecDepth 20000 in
theorem q203_0 : dropTo 0 (mcode 203) = k203_0 := rfl
set_option maxRecDepth 20000 in
theorem q203_16 : dropTo 16 (mcode 203) = k203_16 := rfl
set_option maxRecDepth 20000 in
theorem q203_33 : dropTo 33 (mcode 203) = k203_33 := rfl
set_option maxRecDepth 20000 in
theorem q203_64 : dropTo 64 (mcode 203) = k203_64 := rfl
set_option maxRecDepth 20000 in
theorem q204_0 : dropTo 0 (mcode 204) = k204_0 := rfl
set_option maxRecDepth 20000 in
theorem q204_24 : dropTo 24 (mcode 204) = k204_24 := rfl
set_option maxRecDepth 20000 in
theorem q205_0 : dropTo 0 (mcode 205) = k205_0 := rfl
set_option maxRecDepth 20000 in
theorem q205_24 : dropTo 24 (mcode 205) = k205_24 := rfl
set_option maxRecDepth 20000 in
theorem q205_55 : dropTo 55 (mcode 205) = k205_55 := rfl
set_option maxRecDepth 20000 in
theorem q205_65 : dropTo 65 (mcode 205) = k205_65 := rfl
set_option maxRecDepth 20000 in
theorem q205_66 : dropTo 66 (mcode 205) = k205_66 := rfl
set_option maxRecDepth 20000 in
theorem q206_0 : dropTo 0 (mcode 206) = k206_0 := rfl
set_option maxRecDepth 20000 in
theorem q207_0 : dropTo 0 (mcode 207) = k207_0 := rfl
set_option maxRecDepth 20000 in
theorem q207_16 : dropTo 16 (mcode 207) = k207_16 := rfl
set_option maxRecDepth 20000 in
theorem q207_39 : dropTo 39 (mcode 207) = k207_39 := rfl
set_option maxRecDepth 20000 in
theorem q207_61 : dropTo 61 (mcode 207) = k207_61 := rfl
set_option maxRecDepth 20000 in
theorem q208_0 : dropTo 0 (mcode 208) = k208_0 := rfl
set_option maxRecDepth 20000 in
theorem q208_20 : dropTo 20 (mcode 208) = k208_20 := rfl
set_option maxRecDepth 20000 in
theorem q208_21 : dropTo 21 (mcode 208) = k208_21 := rfl
set_option maxRecDepth 20000 in
theorem q208_42 : dropTo 42 (mcode 208) = k208_42 := rfl
set_option maxRecDepth 20000 in
theorem q208_44 : dropTo 44 (mcode 208) = k208_44 := rfl
set_option maxRecDepth 20000 in
theorem q208_90 : dropTo 90 (mcode 208) = k208_90 := rfl
set_option maxRecDepth 20000 in
theorem q208_103 : dropTo 103 (mcode 208) = k208_103 := rfl
set_option maxRecDepth 20000 in
theorem q208_116 : dropTo 116 (mcode 208) = k208_116 := rfl
set_option maxRecDepth 20000 in
theorem q208_121 : dropTo 121 (mcode 208) = k208_121 := rfl
set_option maxRecDepth 20000 in
theorem q208_135 : dropTo 135 (mcode 208) = k208_135 := rfl
set_option maxRecDepth 20000 in
theorem q208_137 : dropTo 137 (mcode 208) = k208_137 := rfl
set_option maxRecDepth 20000 in
theorem q209_0 : dropTo 0 (mcode 209) = k209_0 := rfl
set_option maxRecDepth 20000 in
theorem q209_23 : dropTo 23 (mcode 209) = k209_23 := rfl
set_option maxRecDepth 20000 in
theorem q209_25 : dropTo 25 (mcode 209) = k209_25 := rfl
set_option maxRecDepth 20000 in
theorem q210_0 : dropTo 0 (mcode 210) = k210_0 := rfl
set_option maxRecDepth 20000 in
theorem q210_40 : dropTo 40 (mcode 210) = k210_40 := rfl
set_option maxRecDepth 20000 in
theorem q210_45 : dropTo 45 (mcode 210) = k210_45 := rfl
set_option maxRecDepth 20000 in
theorem q210_50 : dropTo 50 (mcode 210) = k210_50 := rfl
set_option maxRecDepth 20000 in
theorem q210_52 : dropTo 52 (mcode 210) = k210_52 := rfl
set_option maxRecDepth 20000 in
theorem q210_77 : dropTo 77 (mcode 210) = k210_77 := rfl
set_option maxRecDepth 20000 in
theorem q210_78 : dropTo 78 (mcode 210) = k210_78 := rfl
set_option maxRecDepth 20000 in
theorem q210_86 : dropTo 86 (mcode 210) = k210_86 := rfl
set_option maxRecDepth 20000 in
theorem q210_88 : dropTo 88 (mcode 210) = k210_88 := rfl
set_option maxRecDepth 20000 in
theorem q210_93 : dropTo 93 (mcode 210) = k210_93 := rfl
set_option maxRecDepth 20000 in
theorem q210_98 : dropTo 98 (mcode 210) = k210_98 := rfl
set_option maxRecDepth 20000 in
theorem q210_103 : dropTo 103 (mcode 210) = k210_103 := rfl
set_option maxRecDepth 20000 in
theorem q211_0 : dropTo 0 (mcode 211) = k211_0 := rfl
set_option maxRecDepth 20000 in
theorem q211_3 : dropTo 3 (mcode 211) = k211_3 := rfl
set_option maxRecDepth 20000 in
theorem q211_29 : dropTo 29 (mcode 211) = k211_29 := rfl
set_option maxRecDepth 20000 in
theorem q211_42 : dropTo 42 (mcode 211) = k211_42 := rfl
set_option maxRecDepth 20000 in
theorem q211_58 : dropTo 58 (mcode 211) = k211_58 := rfl
set_option maxRecDepth 20000 in
theorem q212_0 : dropTo 0 (mcode 212) = k212_0 := rfl
set_option maxRecDepth 20000 in
theorem q213_0 : dropTo 0 (mcode 213) = k213_0 := rfl
set_option maxRecDepth 20000 in
theorem q214_0 : dropTo 0 (mcode 214) = k214_0 := rfl
set_option maxRecDepth 20000 in
theorem q214_10 : dropTo 10 (mcode 214) = k214_10 := rfl
set_option maxRecDepth 20000 in
theorem q215_0 : dropTo 0 (mcode 215) = k215_0 := rfl
end
section
theorem shA : sh 0 = (0, 6, [4, 15, 26, 2, 37, 45, 47, 68, 0, 69, 78, 83]) ∧ sh 1 = (0, 5, [0, 5, 6, 7, 8, 9, 10, 11, 0, 12, 13, 14, 0, 0, 0]) ∧ sh 2 = (1, 8, []) ∧ sh 3 = (1, 8, []) ∧ sh 4 = (1, 8, []) ∧ sh 5 = (1, 8, []) ∧ sh 6 = (1, 8, []) ∧ sh 7 = (1, 8, []) ∧ sh 8 = (1, 8, []) ∧ sh 9 = (1, 4, []) ∧ sh 10 = (1, 4, []) ∧ sh 11 = (1, 4, []) ∧ sh 12 = (0, 5, [0, 16, 17, 18, 19, 20, 21, 22, 0, 23, 24, 25, 0, 0, 0]) ∧ sh 13 = (1, 8, []) ∧ sh 14 = (1, 8, []) ∧ sh 15 = (1, 8, []) ∧ sh 16 = (1, 8, []) ∧ sh 17 = (1, 8, []) ∧ sh 18 = (1, 8, []) ∧ sh 19 = (1, 8, []) ∧ sh 20 = (1, 4, []) ∧ sh 21 = (1, 4, []) ∧ sh 22 = (1, 4, []) ∧ sh 23 = (0, 5, [0, 27, 28, 29, 30, 31, 32, 33, 0, 34, 35, 36, 0, 0, 0]) ∧ sh 24 = (1, 8, []) ∧ sh 25 = (1, 8, []) ∧ sh 26 = (1, 8, []) ∧ sh 27 = (1, 8, []) ∧ sh 28 = (1, 8, []) ∧ sh 29 = (1, 8, []) ∧ sh 30 = (1, 8, []) ∧ sh 31 = (1, 4, []) ∧ sh 32 = (1, 4, []) ∧ sh 33 = (1, 4, []) ∧ sh 34 = (0, 3, [38, 39, 40, 41, 42, 43, 44, 0, 0]) ∧ sh 35 = (1, 8, []) ∧ sh 36 = (1, 8, []) ∧ sh 37 = (1, 8, []) ∧ sh 38 = (1, 8, []) ∧ sh 39 = (1, 9, []) ∧ sh 40 = (1, 9, []) ∧ sh 41 = (1, 9, []) ∧ sh 42 = (0, 4, [46, 0, 0, 0, 0]) ∧ sh 43 = (2, 240, []) ∧ sh 44 = (6, 20, [45, 1]) ∧ sh 45 = (1, 3, []) ∧ sh 46 = (1, 3, []) ∧ sh 47 = (1, 3, []) ∧ sh 48 = (1, 3, []) ∧ sh 49 = (1, 3, []) ∧ sh 50 = (1, 3, []) ∧ sh 51 = (1, 3, []) ∧ sh 52 = (1, 3, []) ∧ sh 53 = (1, 3, []) ∧ sh 54 = (1, 3, []) ∧ sh 55 = (1, 3, []) ∧ sh 56 = (1, 3, []) ∧ sh 57 = (1, 3, []) ∧ sh 58 = (1, 3, []) ∧ sh 59 = (1, 3, []) ∧ sh 60 = (1, 3, []) ∧ sh 61 = (1, 3, []) ∧ sh 62 = (1, 3, []) ∧ sh 63 = (1, 3, []) ∧ sh 64 = (1, 3, []) ∧ sh 65 = (1, 3, []) ∧ sh 66 = (4, 4, [67, 2]) ∧ sh 67 = (0, 1, [0, 0, 71]) ∧ sh 68 = (1, 40, []) ∧ sh 69 = (0, 1, [0, 0, 73]) ∧ sh 70 = (1, 40, []) ∧ sh 71 = (0, 1, [0, 0, 75]) ∧ sh 72 = (1, 40, []) ∧ sh 73 = (0, 1, [0, 0, 77]) ∧ sh 74 = (1, 40, []) ∧ sh 75 = (5, 4, [76, 1]) ∧ sh 76 = (0, 2, [0, 0, 0, 0]) ∧ sh 77 = (0, 2, [0, 0, 0, 0]) ∧ sh 78 = (0, 2, [0, 0, 0, 0]) ∧ sh 79 = (0, 2, [0, 0, 0, 0]) ∧ sh 80 = (0, 0, [0, 0, 0, 84, 0, 2]) ∧ sh 81 = (1, 30, []) ∧ sh 82 = (0, 7, [0, 0, 86, 87, 88, 0, 89, 90, 91, 0, 0, 92, 0, 0, 0, 0, 1, 0, 2, 0, 0, 0, 93, 94, 95, 96, 97, 98, 99, 100, 101, 102, 103, 104, 105, 0, 0, 106, 107, 108, 109, 110, 111, 0, 0, 0, 112, 0, 2, 2, 113, 0, 114]) ∧ sh 83 = (1, 5, []) ∧ sh 84 = (1, 5, []) ∧ sh 85 = (1, 5, []) ∧ sh 86 = (1, 8, []) ∧ sh 87 = (1, 8, []) ∧ sh 88 = (1, 82, []) ∧ sh 89 = (1, 240, []) ∧ sh 90 = (1, 8, []) ∧ sh 91 = (1, 8, []) ∧ sh 92 = (1, 8, []) ∧ sh 93 = (1, 8, []) ∧ sh 94 = (1, 8, []) ∧ sh 95 = (1, 4, []) ∧ sh 96 = (1, 4, []) ∧ sh 97 = (1, 4, []) ∧ sh 98 = (1, 18, []) ∧ sh 99 = (1, 9, []) ∧ sh 100 = (1, 8, []) ∧ sh 101 = (1, 60, []) ∧ sh 102 = (1, 60, []) ∧ sh 103 = (1, 4, []) ∧ sh 104 = (1, 4, []) ∧ sh 105 = (3, 160, []) ∧ sh 106 = (1, 4, []) ∧ sh 107 = (1, 4, []) ∧ sh 108 = (1, 4, []) ∧ sh 109 = (1, 30, []) ∧ sh 110 = (1, 80, []) ∧ sh 111 = (1, 4, []) ∧ sh 2000 = (7, 6, []) := ⟨rfl, rfl, rfl, rfl, rfl, rfl, rfl, rfl, rfl, rfl, rfl, rfl, rfl, rfl, rfl, rfl, rfl, rfl, rfl, rfl, rfl, rfl, rfl, rfl, rfl, rfl, rfl, rfl, rfl, rfl, rfl, rfl, rfl, rfl, rfl, rfl, rfl, rfl, rfl, rfl, rfl, rfl, rfl, rfl, rfl, rfl, rfl, rfl, rfl, rfl, rfl, rfl, rfl, rfl, rfl, rfl, rfl, rfl, rfl, rfl, rfl, rfl, rfl, rfl, rfl, rfl, rfl, rfl, rfl, rfl, rfl, rfl, rfl, rfl, rfl, rfl, rfl, rfl, rfl, rfl, rfl, rfl, rfl, rfl, rfl, rfl, rfl, rfl, rfl, rfl, rfl, rfl, rfl, rfl, rfl, rfl, rfl, rfl, rfl, rfl, rfl, rfl, rfl, rfl, rfl, rfl, rfl, rfl, rfl, rfl, rfl, rfl, rfl⟩
theorem fv_0 (h : AH) (k j : Nat) : fv h k j 0 = vI (h k j) := rfl
theorem fv_1 (h : AH) (k j : Nat) : fv h k j 1 = vL (h k j) := rfl
theorem fv_2 (h : AH) (k j : Nat) : fv h k j 2 = vI (h k j) := rfl
theorem fv_r (h : AH) (k j t : Nat) : fv h k j (t + 3) = vR t := rfl
def elN (t : Nat) : List Nat → Bool
  | [] => false
  | a :: l => Nat.beq t a || elN t l
/-- the places jumped to are reckoned too, n deep, but for those of the list (heads of loops) -/
def KF (G : GD) (l : Launch) (i d : Nat) (Q : Option AV → AH → Prop) (hd : List Nat) : Nat → Nat → LcT → List AV → AH → Prop
  | 0, t, ls, st, h => Wp G l i d t ls st h Q
  | n + 1, t, ls, st, h => cond (elN t hd) (Wp G l i d t ls st h Q) (run1 (CRd G l d) Q (KF G l i d Q hd n) (dropTo t (mcode i)) ls st h)
theorem run1_mono {CR : Nat → List AV → AH → (Option AV → AH → Prop) → Prop} {Q : Option AV → AH → Prop} {G : GD} {l : Launch} {i d : Nat} {K : Nat → LcT → List AV → AH → Prop} (hok : okR i = true) (hK : ∀ t ls st h, K t ls st h → Wp G l i d t ls st h Q) {pc : Nat} {ls : LcT} {st : List AV} {h : AH} (hr : run1 (CRd G l d) Q K (dropTo pc (mcode i)) ls st h) : Wp G l i d pc ls st h Q := by
  have hok2 := hok
  simp only [okR, okM, Bool.and_eq_true] at hok2
  obtain ⟨⟨⟨⟨h1, -⟩, -⟩, -⟩, h2⟩ := hok2
  have a1 := okC_drop (n := pc) h1
  have a2 := okS_drop (n := pc) h2
  have key := run_sound hK (dropTo pc (mcode i)) a1 a2 ls st h hr
  generalize hq : dropTo pc (mcode i) = cs at key hr
  match cs, hq, key, hr with
  | e :: es, hq, key, _ =>
    have e9 : (((e :: es).head?.map (fun e => e.1)).getD 0) = pc := drop_hd hq
    rw [e9] at key
    exact key
theorem KF_sound {G : GD} {l : Launch} {i d : Nat} {Q : Option AV → AH → Prop} {hd : List Nat} (hok : okR i = true) : ∀ (n t : Nat) (ls : LcT) (st : List AV) (h : AH), KF G l i d Q hd n t ls st h → Wp G l i d t ls st h Q
  | 0, _, _, _, _, hk => hk
  | n + 1, t, ls, st, h, hk => by
    unfold KF at hk
    cases e : elN t hd with
    | true => rw [e] at hk; exact hk
    | false => rw [e] at hk; exact run1_mono (CR := CRd G l d) hok (KF_sound hok n) hk
theorem Wp.go {G : GD} {l : Launch} {i d pc : Nat} {ls : LcT} {st : List AV} {h : AH} {Q : Option AV → AH → Prop} (hd : List Nat) (n : Nat) (hok : okR i = true) (hr : run1 (CRd G l d) Q (KF G l i d Q hd n) (dropTo pc (mcode i)) ls st h) : Wp G l i d pc ls st h Q := run1_mono (CR := CRd G l d) hok (KF_sound hok n) hr
theorem KF_0 (G : GD) (l : Launch) (i d : Nat) (Q : Option AV → AH → Prop) (hd : List Nat) (t : Nat) (ls : LcT) (st : List AV) (h : AH) : KF G l i d Q hd 0 t ls st h = Wp G l i d t ls st h Q := rfl
theorem KF_s (G : GD) (l : Launch) (i d : Nat) (Q : Option AV → AH → Prop) (hd : List Nat) (n t : Nat) (ls : LcT) (st : List AV) (h : AH) : KF G l i d Q hd (n + 1) t ls st h = cond (elN t hd) (Wp G l i d t ls st h Q) (run1 (CRd G l d) Q (KF G l i d Q hd n) (dropTo t (mcode i)) ls st h) := rfl
theorem elN_n (t : Nat) : elN t [] = false := rfl
theorem elN_c (t a : Nat) (l : List Nat) : elN t (a :: l) = (Nat.beq t a || elN t l) := rfl
theorem toL_n (st : List AV) : (none : Option AV).toList ++ st = st := rfl
theorem toL_s (v : AV) (st : List AV) : (some v).toList ++ st = v :: st := rfl
theorem pf_0 (z : Int) (P : Prop) : pfI 0 z P = P := rfl
theorem pf_2 (z : Int) (P : Prop) : pfI 2 z P = ((z = 0 ∨ z = 1) ∧ P) := rfl
theorem CRd_eq (G : GD) (l : Launch) (d m : Nat) (as : List AV) (h : AH) (P : Option AV → AH → Prop) : CRd G l d m as h P = ∃ d', d' < d ∧ CallR G l d' m as h P := rfl
/-- what a call leaves: one answer, one heap -/
theorem ex_call {CR : (Option AV → AH → Prop) → Prop} {r0 : Option AV} {h0 : AH} {F : Option AV → AH → Prop} (hc : CR (fun r h => r = r0 ∧ h = h0)) (hf : F r0 h0) : ∃ P, CR P ∧ ∀ r h, P r h → F r h := ⟨_, hc, fun r h e => by rw [e.1, e.2]; exact hf⟩
def isT (t : Nat) : Prop := t = 1 ∨ t = 12 ∨ t = 23
theorem shT {t : Nat} (ht : isT t) : sh t = (0, 5, [0, t + 1 + 3, t + 2 + 3, t + 3 + 3, t + 4 + 3, t + 5 + 3, t + 6 + 3, t + 7 + 3, 0, t + 8 + 3, t + 9 + 3, t + 10 + 3, 0, 0, 0]) ∧ sh (t + 1) = (1, 8, []) ∧ sh (t + 2) = (1, 8, []) ∧ sh (t + 3) = (1, 8, []) ∧ sh (t + 4) = (1, 8, []) ∧ sh (t + 5) = (1, 8, []) ∧ sh (t + 6) = (1, 8, []) ∧ sh (t + 7) = (1, 8, []) ∧ sh (t + 8) = (1, 4, []) ∧ sh (t + 9) = (1, 4, []) ∧ sh (t + 10) = (1, 4, []) := by
  rcases ht with rfl | rfl | rfl <;> exact ⟨rfl, rfl, rfl, rfl, rfl, rfl, rfl, rfl, rfl, rfl, rfl⟩
theorem CRd.mk {G : GD} {l : Launch} {d d' m : Nat} {as : List AV} {h : AH} {P : Option AV → AH → Prop} (hd : d' < d) (hc : CallR G l d' m as h P) : CRd G l d m as h P := ⟨d', hd, hc⟩
/-- downwards: from the end of a loop to its begin -/
theorem down {X : Nat → Prop} (n : Nat) (hend : X n) (hstep : ∀ m, m < n → X (m + 1) → X m) : ∀ m, m ≤ n → X m := by
  intro m hm
  obtain ⟨k, rfl⟩ : ∃ k, n = m + k := ⟨n - m, by omega⟩
  clear hm
  induction k generalizing m with
  | zero => exact hend
  | succ k ih => exact hstep m (by omega) (ih (m + 1) (by rw [show m + 1 + k = m + (k + 1) by omega]; exact hend) (fun j hj => hstep j (by omega)))
def bi (c : Prop) [Decidable c] : Int := if c then 1 else 0
theorem bi_0 (c : Prop) [Decidable c] : (bi c = 0) = (¬ c) := by unfold bi; by_cases h : c <;> simp [h]
theorem bi_1 (c : Prop) [Decidable c] : (bi c = 1) = c := by unfold bi; by_cases h : c <;> simp [h]
theorem bi_01 (c : Prop) [Decidable c] : (bi c = 0 ∨ bi c = 1) = True := by unfold bi; by_cases h : c <;> simp [h]
theorem bi_t {c : Prop} [Decidable c] (h : c) : bi c = 1 := if_pos h
theorem bi_f {c : Prop} [Decidable c] (h : ¬ c) : bi c = 0 := if_neg h
theorem bi_r (c : Prop) [Decidable c] : 0 ≤ bi c ∧ bi c ≤ 1 := by unfold bi; by_cases h : c <;> simp [h]
theorem some_vI (a b : Int) : (some (vI a) = some (vI b)) = (a = b) := by simp [vI]
theorem call_of {G : GD} {l : Launch} {d d' m : Nat} {as : List AV} {h : AH} {r0 : Option AV} {h0 : AH} {F : Option AV → AH → Prop} (hd : d' < d) (hc : CallR G l d' m as h (fun r h' => r = r0 ∧ h' = h0)) (hf : F r0 h0) : ∃ P, CRd G l d m as h P ∧ ∀ r h', P r h' → F r h' := ⟨_, ⟨d', hd, hc⟩, fun r h' e => by rw [e.1, e.2]; exact hf⟩
theorem call_rel {G : GD} {l : Launch} {d d' m : Nat} {as : List AV} {h : AH} {P F : Option AV → AH → Prop} (hd : d' < d) (hc : CallR G l d' m as h P) (hf : ∀ r h', P r h' → F r h') : ∃ P, CRd G l d m as h P ∧ ∀ r h', P r h' → F r h' := ⟨P, ⟨d', hd, hc⟩, hf⟩
theorem hu_ap (h : AH) (k i : Nat) (v : Int) (k' i' : Nat) : hu h k i v k' i' = if k' = k ∧ i' = i then v else h k' i' := rfl
theorem cmp64_0 (a b : Int) : (cmp64 a b = 0) = (a = b) := by
  unfold cmp64
  by_cases c1 : a > b
  · rw [if_pos c1]; apply propext; constructor <;> intro h <;> omega
  · rw [if_neg c1]
    by_cases c2 : a = b
    · rw [if_pos c2]; simp [c2]
    · rw [if_neg c2]; apply propext; constructor <;> intro h <;> omega
theorem cmp64_lt (a b : Int) : (cmp64 a b < 0) = (a < b) := by
  unfold cmp64
  by_cases c1 : a > b
  · rw [if_pos c1]; apply propext; constructor <;> intro h <;> omega
  · rw [if_neg c1]
    by_cases c2 : a = b
    · rw [if_pos c2]; apply propext; constructor <;> intro h <;> omega
    · rw [if_neg c2]; apply propext; constructor <;> intro h <;> omega
theorem cmp64_gt (a b : Int) : (0 < cmp64 a b) = (b < a) := by
  unfold cmp64
  by_cases c1 : a > b
  · rw [if_pos c1]; apply propext; constructor <;> intro h <;> omega
  · rw [if_neg c1]
    by_cases c2 : a = b
    · rw [if_pos c2]; apply propext; constructor <;> intro h <;> omega
    · rw [if_neg c2]; apply propext; constructor <;> intro h <;> omega
/-- the first n turns of a counting loop -/
def forN (f : Nat → AH → AH) : Nat → AH → AH
  | 0, h => h
  | n + 1, h => f n (forN f n h)

section ENT
variable {G : GD} {l : Launch} {d : Nat} {h : AH} {P : Option AV → AH → Prop}
theorem in0 {a0 : Nat} (hd : List Nat) (n : Nat) (body : Hok h → run1 (CRd G l d) P (KF G l 0 d P hd n) (dropTo 0 (mcode 0)) [some (vR a0)] [] h) : CallR G l d 0 [vR a0] h P := CallR.of ok_0 (Nat.le_of_ble_eq_true rfl) rfl fun hv hO => Wp.go hd n ok_0 (body  hO)
theorem in1 {a0 : Nat} {a1 : Int} {a2 : Int} {a3 : Int} (hd : List Nat) (n : Nat) (body : R32 a1 → R32 a2 → R32 a3 → Hok h → run1 (CRd G l d) P (KF G l 1 d P hd n) (dropTo 0 (mcode 1)) [some (vR a0), some (vI a1), some (vI a2), some (vI a3)] [] h) : CallR G l d 1 [vR a0, vI a1, vI a2, vI a3] h P := CallR.of ok_1 (Nat.le_of_ble_eq_true rfl) rfl fun hv hO => Wp.go hd n ok_1 (body (hv (vI a1) (by simp)) (hv (vI a2) (by simp)) (hv (vI a3) (by simp)) hO)
theorem in2 {a0 : Nat} {a1 : Int} {a2 : Int} (hd : List Nat) (n : Nat) (body : R32 a1 → R32 a2 → Hok h → run1 (CRd G l d) P (KF G l 2 d P hd n) (dropTo 0 (mcode 2)) [some (vR a0), some (vI a1), some (vI a2), none] [] h) : CallR G l d 2 [vR a0, vI a1, vI a2] h P := CallR.of ok_2 (Nat.le_of_ble_eq_true rfl) rfl fun hv hO => Wp.go hd n ok_2 (body (hv (vI a1) (by simp)) (hv (vI a2) (by simp)) hO)
theorem in3 {a0 : Nat} {a1 : Int} (hd : List Nat) (n : Nat) (body : R32 a1 → Hok h → run1 (CRd G l d) P (KF G l 3 d P hd n) (dropTo 0 (mcode 3)) [some (vR a0), some (vI a1)] [] h) : CallR G l d 3 [vR a0, vI a1] h P := CallR.of ok_3 (Nat.le_of_ble_eq_true rfl) rfl fun hv hO => Wp.go hd n ok_3 (body (hv (vI a1) (by simp)) hO)
theorem in4 {a0 : Nat} {a1 : Int} (hd : List Nat) (n : Nat) (body : R32 a1 → Hok h → run1 (CRd G l d) P (KF G l 4 d P hd n) (dropTo 0 (mcode 4)) [some (vR a0), some (vI a1)] [] h) : CallR G l d 4 [vR a0, vI a1] h P := CallR.of ok_4 (Nat.le_of_ble_eq_true rfl) rfl fun hv hO => Wp.go hd n ok_4 (body (hv (vI a1) (by simp)) hO)
theorem in5 {a0 : Nat} {a1 : Int} (hd : List Nat) (n : Nat) (body : R32 a1 → Hok h → run1 (CRd G l d) P (KF G l 5 d P hd n) (dropTo 0 (mcode 5)) [some (vR a0), some (vI a1)] [] h) : CallR G l d 5 [vR a0, vI a1] h P := CallR.of ok_5 (Nat.le_of_ble_eq_true rfl) rfl fun hv hO => Wp.go hd n ok_5 (body (hv (vI a1) (by simp)) hO)
theorem in6 {a0 : Nat} {a1 : Int} (hd : List Nat) (n : Nat) (body : R32 a1 → Hok h → run1 (CRd G l d) P (KF G l 6 d P hd n) (dropTo 0 (mcode 6)) [some (vR a0), some (vI a1)] [] h) : CallR G l d 6 [vR a0, vI a1] h P := CallR.of ok_6 (Nat.le_of_ble_eq_true rfl) rfl fun hv hO => Wp.go hd n ok_6 (body (hv (vI a1) (by simp)) hO)
theorem in7 {a0 : Nat} {a1 : Int} (hd : List Nat) (n : Nat) (body : R32 a1 → Hok h → run1 (CRd G l d) P (KF G l 7 d P hd n) (dropTo 0 (mcode 7)) [some (vR a0), some (vI a1)] [] h) : CallR G l d 7 [vR a0, vI a1] h P := CallR.of ok_7 (Nat.le_of_ble_eq_true rfl) rfl fun hv hO => Wp.go hd n ok_7 (body (hv (vI a1) (by simp)) hO)
theorem in8 {a0 : Nat} {a1 : Int} (hd : List Nat) (n : Nat) (body : R32 a1 → Hok h → run1 (CRd G l d) P (KF G l 8 d P hd n) (dropTo 0 (mcode 8)) [some (vR a0), some (vI a1)] [] h) : CallR G l d 8 [vR a0, vI a1] h P := CallR.of ok_8 (Nat.le_of_ble_eq_true rfl) rfl fun hv hO => Wp.go hd n ok_8 (body (hv (vI a1) (by simp)) hO)
theorem in9 {a0 : Int} {a1 : Int} (hd : List Nat) (n : Nat) (body : R32 a0 → R32 a1 → Hok h → run1 (CRd G l d) P (KF G l 9 d P hd n) (dropTo 0 (mcode 9)) [some (vI a0), some (vI a1)] [] h) : CallR G l d 9 [vI a0, vI a1] h P := CallR.of ok_9 (Nat.le_of_ble_eq_true rfl) rfl fun hv hO => Wp.go hd n ok_9 (body (hv (vI a0) (by simp)) (hv (vI a1) (by simp)) hO)
theorem in10 {a0 : Int} {a1 : Int} (hd : List Nat) (n : Nat) (body : R32 a0 → R32 a1 → Hok h → run1 (CRd G l d) P (KF G l 10 d P hd n) (dropTo 0 (mcode 10)) [some (vI a0), some (vI a1)] [] h) : CallR G l d 10 [vI a0, vI a1] h P := CallR.of ok_10 (Nat.le_of_ble_eq_true rfl) rfl fun hv hO => Wp.go hd n ok_10 (body (hv (vI a0) (by simp)) (hv (vI a1) (by simp)) hO)
theorem in11 {a0 : Int} {a1 : Int} {a2 : Int} (hd : List Nat) (n : Nat) (body : R32 a0 → R32 a1 → R32 a2 → Hok h → run1 (CRd G l d) P (KF G l 11 d P hd n) (dropTo 0 (mcode 11)) [some (vI a0), some (vI a1), some (vI a2)] [] h) : CallR G l d 11 [vI a0, vI a1, vI a2] h P := CallR.of ok_11 (Nat.le_of_ble_eq_true rfl) rfl fun hv hO => Wp.go hd n ok_11 (body (hv (vI a0) (by simp)) (hv (vI a1) (by simp)) (hv (vI a2) (by simp)) hO)
theorem in12 {a0 : Int} (hd : List Nat) (n : Nat) (body : R32 a0 → Hok h → run1 (CRd G l d) P (KF G l 12 d P hd n) (dropTo 0 (mcode 12)) [some (vI a0)] [] h) : CallR G l d 12 [vI a0] h P := CallR.of ok_12 (Nat.le_of_ble_eq_true rfl) rfl fun hv hO => Wp.go hd n ok_12 (body (hv (vI a0) (by simp)) hO)
theorem in13 {a0 : Int} {a1 : Int} (hd : List Nat) (n : Nat) (body : R32 a0 → R32 a1 → Hok h → run1 (CRd G l d) P (KF G l 13 d P hd n) (dropTo 0 (mcode 13)) [some (vI a0), some (vI a1), none, none] [] h) : CallR G l d 13 [vI a0, vI a1] h P := CallR.of ok_13 (Nat.le_of_ble_eq_true rfl) rfl fun hv hO => Wp.go hd n ok_13 (body (hv (vI a0) (by simp)) (hv (vI a1) (by simp)) hO)
theorem in14 {a0 : Nat} {a1 : Int} {a2 : Int} (hd : List Nat) (n : Nat) (body : R32 a1 → R32 a2 → Hok h → run1 (CRd G l d) P (KF G l 14 d P hd n) (dropTo 0 (mcode 14)) [some (vR a0), some (vI a1), some (vI a2), none] [] h) : CallR G l d 14 [vR a0, vI a1, vI a2] h P := CallR.of ok_14 (Nat.le_of_ble_eq_true rfl) rfl fun hv hO => Wp.go hd n ok_14 (body (hv (vI a1) (by simp)) (hv (vI a2) (by simp)) hO)
theorem in15 {a0 : Nat} {a1 : Int} (hd : List Nat) (n : Nat) (body : R32 a1 → Hok h → run1 (CRd G l d) P (KF G l 15 d P hd n) (dropTo 0 (mcode 15)) [some (vR a0), some (vI a1)] [] h) : CallR G l d 15 [vR a0, vI a1] h P := CallR.of ok_15 (Nat.le_of_ble_eq_true rfl) rfl fun hv hO => Wp.go hd n ok_15 (body (hv (vI a1) (by simp)) hO)
theorem in16 {a0 : Nat} (hd : List Nat) (n : Nat) (body : Hok h → run1 (CRd G l d) P (KF G l 16 d P hd n) (dropTo 0 (mcode 16)) [some (vR a0)] [] h) : CallR G l d 16 [vR a0] h P := CallR.of ok_16 (Nat.le_of_ble_eq_true rfl) rfl fun hv hO => Wp.go hd n ok_16 (body  hO)
theorem in17 {a0 : Nat} {a1 : Int} (hd : List Nat) (n : Nat) (body : R32 a1 → Hok h → run1 (CRd G l d) P (KF G l 17 d P hd n) (dropTo 0 (mcode 17)) [some (vR a0), some (vI a1)] [] h) : CallR G l d 17 [vR a0, vI a1] h P := CallR.of ok_17 (Nat.le_of_ble_eq_true rfl) rfl fun hv hO => Wp.go hd n ok_17 (body (hv (vI a1) (by simp)) hO)
theorem in18 {a0 : Nat} {a1 : Nat} (hd : List Nat) (n : Nat) (body : Hok h → run1 (CRd G l d) P (KF G l 18 d P hd n) (dropTo 0 (mcode 18)) [some (vR a0), some (vR a1)] [] h) : CallR G l d 18 [vR a0, vR a1] h P := CallR.of ok_18 (Nat.le_of_ble_eq_true rfl) rfl fun hv hO => Wp.go hd n ok_18 (body  hO)
theorem in19 {a0 : Nat} {a1 : Nat} (hd : List Nat) (n : Nat) (body : Hok h → run1 (CRd G l d) P (KF G l 19 d P hd n) (dropTo 0 (mcode 19)) [some (vR a0), some (vR a1), none] [] h) : CallR G l d 19 [vR a0, vR a1] h P := CallR.of ok_19 (Nat.le_of_ble_eq_true rfl) rfl fun hv hO => Wp.go hd n ok_19 (body  hO)
theorem in20 {a0 : Nat} {a1 : Int} (hd : List Nat) (n : Nat) (body : R32 a1 → Hok h → run1 (CRd G l d) P (KF G l 20 d P hd n) (dropTo 0 (mcode 20)) [some (vR a0), some (vI a1), none] [] h) : CallR G l d 20 [vR a0, vI a1] h P := CallR.of ok_20 (Nat.le_of_ble_eq_true rfl) rfl fun hv hO => Wp.go hd n ok_20 (body (hv (vI a1) (by simp)) hO)
theorem in21 {a0 : Nat} {a1 : Nat} {a2 : Int} (hd : List Nat) (n : Nat) (body : R32 a2 → Hok h → run1 (CRd G l d) P (KF G l 21 d P hd n) (dropTo 0 (mcode 21)) [some (vR a0), some (vR a1), some (vI a2), none] [] h) : CallR G l d 21 [vR a0, vR a1, vI a2] h P := CallR.of ok_21 (Nat.le_of_ble_eq_true rfl) rfl fun hv hO => Wp.go hd n ok_21 (body (hv (vI a2) (by simp)) hO)
theorem in22 {a0 : Nat} {a1 : Nat} (hd : List Nat) (n : Nat) (body : Hok h → run1 (CRd G l d) P (KF G l 22 d P hd n) (dropTo 0 (mcode 22)) [some (vR a0), some (vR a1), none, none] [] h) : CallR G l d 22 [vR a0, vR a1] h P := CallR.of ok_22 (Nat.le_of_ble_eq_true rfl) rfl fun hv hO => Wp.go hd n ok_22 (body  hO)
theorem in23 {a0 : Nat} {a1 : Nat} {a2 : Int} (hd : List Nat) (n : Nat) (body : R32 a2 → Hok h → run1 (CRd G l d) P (KF G l 23 d P hd n) (dropTo 0 (mcode 23)) [some (vR a0), some (vR a1), some (vI a2), none, none] [] h) : CallR G l d 23 [vR a0, vR a1, vI a2] h P := CallR.of ok_23 (Nat.le_of_ble_eq_true rfl) rfl fun hv hO => Wp.go hd n ok_23 (body (hv (vI a2) (by simp)) hO)
theorem in24 {a0 : Nat} {a1 : Nat} {a2 : Int} (hd : List Nat) (n : Nat) (body : R32 a2 → Hok h → run1 (CRd G l d) P (KF G l 24 d P hd n) (dropTo 0 (mcode 24)) [some (vR a0), some (vR a1), some (vI a2), none, none, none] [] h) : CallR G l d 24 [vR a0, vR a1, vI a2] h P := CallR.of ok_24 (Nat.le_of_ble_eq_true rfl) rfl fun hv hO => Wp.go hd n ok_24 (body (hv (vI a2) (by simp)) hO)
theorem in25 {a0 : Nat} {a1 : Nat} {a2 : Int} (hd : List Nat) (n : Nat) (body : R32 a2 → Hok h → run1 (CRd G l d) P (KF G l 25 d P hd n) (dropTo 0 (mcode 25)) [some (vR a0), some (vR a1), some (vI a2)] [] h) : CallR G l d 25 [vR a0, vR a1, vI a2] h P := CallR.of ok_25 (Nat.le_of_ble_eq_true rfl) rfl fun hv hO => Wp.go hd n ok_25 (body (hv (vI a2) (by simp)) hO)
theorem in26 {a0 : Nat} {a1 : Int} (hd : List Nat) (n : Nat) (body : R32 a1 → Hok h → run1 (CRd G l d) P (KF G l 26 d P hd n) (dropTo 0 (mcode 26)) [some (vR a0), some (vI a1)] [] h) : CallR G l d 26 [vR a0, vI a1] h P := CallR.of ok_26 (Nat.le_of_ble_eq_true rfl) rfl fun hv hO => Wp.go hd n ok_26 (body (hv (vI a1) (by simp)) hO)
theorem in27 {a0 : Nat} (hd : List Nat) (n : Nat) (body : Hok h → run1 (CRd G l d) P (KF G l 27 d P hd n) (dropTo 0 (mcode 27)) [some (vR a0)] [] h) : CallR G l d 27 [vR a0] h P := CallR.of ok_27 (Nat.le_of_ble_eq_true rfl) rfl fun hv hO => Wp.go hd n ok_27 (body  hO)
theorem in28 {a0 : Nat} {a1 : Nat} (hd : List Nat) (n : Nat) (body : Hok h → run1 (CRd G l d) P (KF G l 28 d P hd n) (dropTo 0 (mcode 28)) [some (vR a0), some (vR a1), none] [] h) : CallR G l d 28 [vR a0, vR a1] h P := CallR.of ok_28 (Nat.le_of_ble_eq_true rfl) rfl fun hv hO => Wp.go hd n ok_28 (body  hO)
theorem in29 {a0 : Nat} {a1 : Nat} (hd : List Nat) (n : Nat) (body : Hok h → run1 (CRd G l d) P (KF G l 29 d P hd n) (dropTo 0 (mcode 29)) [some (vR a0), some (vR a1)] [] h) : CallR G l d 29 [vR a0, vR a1] h P := CallR.of ok_29 (Nat.le_of_ble_eq_true rfl) rfl fun hv hO => Wp.go hd n ok_29 (body  hO)
theorem in30 {a0 : Nat} (hd : List Nat) (n : Nat) (body : Hok h → run1 (CRd G l d) P (KF G l 30 d P hd n) (dropTo 0 (mcode 30)) [some (vR a0)] [] h) : CallR G l d 30 [vR a0] h P := CallR.of ok_30 (Nat.le_of_ble_eq_true rfl) rfl fun hv hO => Wp.go hd n ok_30 (body  hO)
theorem in31 {a0 : Nat} {a1 : Nat} {a2 : Int} (hd : List Nat) (n : Nat) (body : R32 a2 → Hok h → run1 (CRd G l d) P (KF G l 31 d P hd n) (dropTo 0 (mcode 31)) [some (vR a0), some (vR a1), some (vI a2), none, none, none, none] [] h) : CallR G l d 31 [vR a0, vR a1, vI a2] h P := CallR.of ok_31 (Nat.le_of_ble_eq_true rfl) rfl fun hv hO => Wp.go hd n ok_31 (body (hv (vI a2) (by simp)) hO)
theorem in32 {a0 : Nat} {a1 : Nat} (hd : List Nat) (n : Nat) (body : Hok h → run1 (CRd G l d) P (KF G l 32 d P hd n) (dropTo 0 (mcode 32)) [some (vR a0), some (vR a1), none, none, none] [] h) : CallR G l d 32 [vR a0, vR a1] h P := CallR.of ok_32 (Nat.le_of_ble_eq_true rfl) rfl fun hv hO => Wp.go hd n ok_32 (body  hO)
theorem in33 {a0 : Nat} {a1 : Nat} (hd : List Nat) (n : Nat) (body : Hok h → run1 (CRd G l d) P (KF G l 33 d P hd n) (dropTo 0 (mcode 33)) [some (vR a0), some (vR a1), none] [] h) : CallR G l d 33 [vR a0, vR a1] h P := CallR.of ok_33 (Nat.le_of_ble_eq_true rfl) rfl fun hv hO => Wp.go hd n ok_33 (body  hO)
theorem in34 {a0 : Nat} (hd : List Nat) (n : Nat) (body : Hok h → run1 (CRd G l d) P (KF G l 34 d P hd n) (dropTo 0 (mcode 34)) [some (vR a0)] [] h) : CallR G l d 34 [vR a0] h P := CallR.of ok_34 (Nat.le_of_ble_eq_true rfl) rfl fun hv hO => Wp.go hd n ok_34 (body  hO)
theorem in35 {a0 : Nat} (hd : List Nat) (n : Nat) (body : Hok h → run1 (CRd G l d) P (KF G l 35 d P hd n) (dropTo 0 (mcode 35)) [some (vR a0)] [] h) : CallR G l d 35 [vR a0] h P := CallR.of ok_35 (Nat.le_of_ble_eq_true rfl) rfl fun hv hO => Wp.go hd n ok_35 (body  hO)
theorem in36 {a0 : Nat} {a1 : Nat} (hd : List Nat) (n : Nat) (body : Hok h → run1 (CRd G l d) P (KF G l 36 d P hd n) (dropTo 0 (mcode 36)) [some (vR a0), some (vR a1), none] [] h) : CallR G l d 36 [vR a0, vR a1] h P := CallR.of ok_36 (Nat.le_of_ble_eq_true rfl) rfl fun hv hO => Wp.go hd n ok_36 (body  hO)
theorem in37 {a0 : Nat} {a1 : Nat} (hd : List Nat) (n : Nat) (body : Hok h → run1 (CRd G l d) P (KF G l 37 d P hd n) (dropTo 0 (mcode 37)) [some (vR a0), some (vR a1)] [] h) : CallR G l d 37 [vR a0, vR a1] h P := CallR.of ok_37 (Nat.le_of_ble_eq_true rfl) rfl fun hv hO => Wp.go hd n ok_37 (body  hO)
theorem in38 {a0 : Nat} {a1 : Int} {a2 : Int} (hd : List Nat) (n : Nat) (body : R32 a1 → R32 a2 → Hok h → run1 (CRd G l d) P (KF G l 38 d P hd n) (dropTo 0 (mcode 38)) [some (vR a0), some (vI a1), some (vI a2), none, none] [] h) : CallR G l d 38 [vR a0, vI a1, vI a2] h P := CallR.of ok_38 (Nat.le_of_ble_eq_true rfl) rfl fun hv hO => Wp.go hd n ok_38 (body (hv (vI a1) (by simp)) (hv (vI a2) (by simp)) hO)
theorem in39 {a0 : Nat} (hd : List Nat) (n : Nat) (body : Hok h → run1 (CRd G l d) P (KF G l 39 d P hd n) (dropTo 0 (mcode 39)) [some (vR a0)] [] h) : CallR G l d 39 [vR a0] h P := CallR.of ok_39 (Nat.le_of_ble_eq_true rfl) rfl fun hv hO => Wp.go hd n ok_39 (body  hO)
theorem in40 {a0 : Nat} (hd : List Nat) (n : Nat) (body : Hok h → run1 (CRd G l d) P (KF G l 40 d P hd n) (dropTo 0 (mcode 40)) [some (vR a0)] [] h) : CallR G l d 40 [vR a0] h P := CallR.of ok_40 (Nat.le_of_ble_eq_true rfl) rfl fun hv hO => Wp.go hd n ok_40 (body  hO)
theorem in41 {a0 : Nat} {a1 : Int} (hd : List Nat) (n : Nat) (body : R32 a1 → Hok h → run1 (CRd G l d) P (KF G l 41 d P hd n) (dropTo 0 (mcode 41)) [some (vR a0), some (vI a1)] [] h) : CallR G l d 41 [vR a0, vI a1] h P := CallR.of ok_41 (Nat.le_of_ble_eq_true rfl) rfl fun hv hO => Wp.go hd n ok_41 (body (hv (vI a1) (by simp)) hO)
theorem in42 {a0 : Nat} (hd : List Nat) (n : Nat) (body : Hok h → run1 (CRd G l d) P (KF G l 42 d P hd n) (dropTo 0 (mcode 42)) [some (vR a0)] [] h) : CallR G l d 42 [vR a0] h P := CallR.of ok_42 (Nat.le_of_ble_eq_true rfl) rfl fun hv hO => Wp.go hd n ok_42 (body  hO)
theorem in43 {a0 : Nat} {a1 : Nat} (hd : List Nat) (n : Nat) (body : Hok h → run1 (CRd G l d) P (KF G l 43 d P hd n) (dropTo 0 (mcode 43)) [some (vR a0), some (vR a1)] [] h) : CallR G l d 43 [vR a0, vR a1] h P := CallR.of ok_43 (Nat.le_of_ble_eq_true rfl) rfl fun hv hO => Wp.go hd n ok_43 (body  hO)
theorem in44 {a0 : Nat} {a1 : Int} {a2 : Int} {a3 : Int} {a4 : Int} {a5 : Int} (hd : List Nat) (n : Nat) (body : R32 a1 → R32 a2 → R32 a3 → R32 a4 → R32 a5 → Hok h → run1 (CRd G l d) P (KF G l 44 d P hd n) (dropTo 0 (mcode 44)) [some (vR a0), some (vI a1), some (vI a2), some (vI a3), some (vI a4), some (vI a5), none] [] h) : CallR G l d 44 [vR a0, vI a1, vI a2, vI a3, vI a4, vI a5] h P := CallR.of ok_44 (Nat.le_of_ble_eq_true rfl) rfl fun hv hO => Wp.go hd n ok_44 (body (hv (vI a1) (by simp)) (hv (vI a2) (by simp)) (hv (vI a3) (by simp)) (hv (vI a4) (by simp)) (hv (vI a5) (by simp)) hO)
theorem in45 {a0 : Nat} {a1 : Int} {a2 : Int} {a3 : Int} (hd : List Nat) (n : Nat) (body : R32 a1 → R32 a2 → R32 a3 → Hok h → run1 (CRd G l d) P (KF G l 45 d P hd n) (dropTo 0 (mcode 45)) [some (vR a0), some (vI a1), some (vI a2), some (vI a3)] [] h) : CallR G l d 45 [vR a0, vI a1, vI a2, vI a3] h P := CallR.of ok_45 (Nat.le_of_ble_eq_true rfl) rfl fun hv hO => Wp.go hd n ok_45 (body (hv (vI a1) (by simp)) (hv (vI a2) (by simp)) (hv (vI a3) (by simp)) hO)
theorem in46 {a0 : Nat} {a1 : Int} {a2 : Int} {a3 : Int} (hd : List Nat) (n : Nat) (body : R32 a1 → R32 a2 → R32 a3 → Hok h → run1 (CRd G l d) P (KF G l 46 d P hd n) (dropTo 0 (mcode 46)) [some (vR a0), some (vI a1), some (vI a2), some (vI a3)] [] h) : CallR G l d 46 [vR a0, vI a1, vI a2, vI a3] h P := CallR.of ok_46 (Nat.le_of_ble_eq_true rfl) rfl fun hv hO => Wp.go hd n ok_46 (body (hv (vI a1) (by simp)) (hv (vI a2) (by simp)) (hv (vI a3) (by simp)) hO)
theorem in47 {a0 : Nat} {a1 : Int} (hd : List Nat) (n : Nat) (body : R32 a1 → Hok h → run1 (CRd G l d) P (KF G l 47 d P hd n) (dropTo 0 (mcode 47)) [some (vR a0), some (vI a1), none] [] h) : CallR G l d 47 [vR a0, vI a1] h P := CallR.of ok_47 (Nat.le_of_ble_eq_true rfl) rfl fun hv hO => Wp.go hd n ok_47 (body (hv (vI a1) (by simp)) hO)
theorem in48 {a0 : Nat} {a1 : Int} (hd : List Nat) (n : Nat) (body : R32 a1 → Hok h → run1 (CRd G l d) P (KF G l 48 d P hd n) (dropTo 0 (mcode 48)) [some (vR a0), some (vI a1), none, none] [] h) : CallR G l d 48 [vR a0, vI a1] h P := CallR.of ok_48 (Nat.le_of_ble_eq_true rfl) rfl fun hv hO => Wp.go hd n ok_48 (body (hv (vI a1) (by simp)) hO)
theorem in49 {a0 : Nat} (hd : List Nat) (n : Nat) (body : Hok h → run1 (CRd G l d) P (KF G l 49 d P hd n) (dropTo 0 (mcode 49)) [some (vR a0), none, none] [] h) : CallR G l d 49 [vR a0] h P := CallR.of ok_49 (Nat.le_of_ble_eq_true rfl) rfl fun hv hO => Wp.go hd n ok_49 (body  hO)
theorem in50 {a0 : Nat} (hd : List Nat) (n : Nat) (body : Hok h → run1 (CRd G l d) P (KF G l 50 d P hd n) (dropTo 0 (mcode 50)) [some (vR a0), none, none] [] h) : CallR G l d 50 [vR a0] h P := CallR.of ok_50 (Nat.le_of_ble_eq_true rfl) rfl fun hv hO => Wp.go hd n ok_50 (body  hO)
theorem in51 {a0 : Nat} {a1 : Int} (hd : List Nat) (n : Nat) (body : R32 a1 → Hok h → run1 (CRd G l d) P (KF G l 51 d P hd n) (dropTo 0 (mcode 51)) [some (vR a0), some (vI a1), none, none] [] h) : CallR G l d 51 [vR a0, vI a1] h P := CallR.of ok_51 (Nat.le_of_ble_eq_true rfl) rfl fun hv hO => Wp.go hd n ok_51 (body (hv (vI a1) (by simp)) hO)
theorem in52 {a0 : Nat} (hd : List Nat) (n : Nat) (body : Hok h → run1 (CRd G l d) P (KF G l 52 d P hd n) (dropTo 0 (mcode 52)) [some (vR a0), none, none] [] h) : CallR G l d 52 [vR a0] h P := CallR.of ok_52 (Nat.le_of_ble_eq_true rfl) rfl fun hv hO => Wp.go hd n ok_52 (body  hO)
theorem in53 {a0 : Nat} {a1 : Int} (hd : List Nat) (n : Nat) (body : R32 a1 → Hok h → run1 (CRd G l d) P (KF G l 53 d P hd n) (dropTo 0 (mcode 53)) [some (vR a0), some (vI a1), none] [] h) : CallR G l d 53 [vR a0, vI a1] h P := CallR.of ok_53 (Nat.le_of_ble_eq_true rfl) rfl fun hv hO => Wp.go hd n ok_53 (body (hv (vI a1) (by simp)) hO)
theorem in54 {a0 : Nat} {a1 : Int} {a2 : Int} (hd : List Nat) (n : Nat) (body : R64 a1 → R32 a2 → Hok h → run1 (CRd G l d) P (KF G l 54 d P hd n) (dropTo 0 (mcode 54)) [some (vR a0), some (vL a1), none, some (vI a2), none] [] h) : CallR G l d 54 [vR a0, vL a1, vI a2] h P := CallR.of ok_54 (Nat.le_of_ble_eq_true rfl) rfl fun hv hO => Wp.go hd n ok_54 (body (hv (vL a1) (by simp)) (hv (vI a2) (by simp)) hO)
theorem in55 {a0 : Nat} (hd : List Nat) (n : Nat) (body : Hok h → run1 (CRd G l d) P (KF G l 55 d P hd n) (dropTo 0 (mcode 55)) [some (vR a0), none] [] h) : CallR G l d 55 [vR a0] h P := CallR.of ok_55 (Nat.le_of_ble_eq_true rfl) rfl fun hv hO => Wp.go hd n ok_55 (body  hO)
theorem in56 {a0 : Nat} {a1 : Int} (hd : List Nat) (n : Nat) (body : R32 a1 → Hok h → run1 (CRd G l d) P (KF G l 56 d P hd n) (dropTo 0 (mcode 56)) [some (vR a0), some (vI a1), none] [] h) : CallR G l d 56 [vR a0, vI a1] h P := CallR.of ok_56 (Nat.le_of_ble_eq_true rfl) rfl fun hv hO => Wp.go hd n ok_56 (body (hv (vI a1) (by simp)) hO)
theorem in57 {a0 : Nat} {a1 : Int} {a2 : Int} {a3 : Int} (hd : List Nat) (n : Nat) (body : R32 a1 → R32 a2 → R32 a3 → Hok h → run1 (CRd G l d) P (KF G l 57 d P hd n) (dropTo 0 (mcode 57)) [some (vR a0), some (vI a1), some (vI a2), some (vI a3)] [] h) : CallR G l d 57 [vR a0, vI a1, vI a2, vI a3] h P := CallR.of ok_57 (Nat.le_of_ble_eq_true rfl) rfl fun hv hO => Wp.go hd n ok_57 (body (hv (vI a1) (by simp)) (hv (vI a2) (by simp)) (hv (vI a3) (by simp)) hO)
theorem in58 {a0 : Nat} {a1 : Int} (hd : List Nat) (n : Nat) (body : R32 a1 → Hok h → run1 (CRd G l d) P (KF G l 58 d P hd n) (dropTo 0 (mcode 58)) [some (vR a0), some (vI a1)] [] h) : CallR G l d 58 [vR a0, vI a1] h P := CallR.of ok_58 (Nat.le_of_ble_eq_true rfl) rfl fun hv hO => Wp.go hd n ok_58 (body (hv (vI a1) (by simp)) hO)
theorem in59 {a0 : Nat} {a1 : Int} {a2 : Int} (hd : List Nat) (n : Nat) (body : R32 a1 → R32 a2 → Hok h → run1 (CRd G l d) P (KF G l 59 d P hd n) (dropTo 0 (mcode 59)) [some (vR a0), some (vI a1), some (vI a2)] [] h) : CallR G l d 59 [vR a0, vI a1, vI a2] h P := CallR.of ok_59 (Nat.le_of_ble_eq_true rfl) rfl fun hv hO => Wp.go hd n ok_59 (body (hv (vI a1) (by simp)) (hv (vI a2) (by simp)) hO)
theorem in60 {a0 : Nat} {a1 : Int} {a2 : Int} {a3 : Int} {a4 : Int} (hd : List Nat) (n : Nat) (body : R32 a1 → R32 a2 → R32 a3 → R32 a4 → Hok h → run1 (CRd G l d) P (KF G l 60 d P hd n) (dropTo 0 (mcode 60)) [some (vR a0), some (vI a1), some (vI a2), some (vI a3), some (vI a4)] [] h) : CallR G l d 60 [vR a0, vI a1, vI a2, vI a3, vI a4] h P := CallR.of ok_60 (Nat.le_of_ble_eq_true rfl) rfl fun hv hO => Wp.go hd n ok_60 (body (hv (vI a1) (by simp)) (hv (vI a2) (by simp)) (hv (vI a3) (by simp)) (hv (vI a4) (by simp)) hO)
theorem in61 {a0 : Nat} {a1 : Int} {a2 : Int} (hd : List Nat) (n : Nat) (body : R32 a1 → R32 a2 → Hok h → run1 (CRd G l d) P (KF G l 61 d P hd n) (dropTo 0 (mcode 61)) [some (vR a0), some (vI a1), some (vI a2)] [] h) : CallR G l d 61 [vR a0, vI a1, vI a2] h P := CallR.of ok_61 (Nat.le_of_ble_eq_true rfl) rfl fun hv hO => Wp.go hd n ok_61 (body (hv (vI a1) (by simp)) (hv (vI a2) (by simp)) hO)
theorem in62 {a0 : Nat} {a1 : Int} {a2 : Int} {a3 : Int} (hd : List Nat) (n : Nat) (body : R32 a1 → R32 a2 → R32 a3 → Hok h → run1 (CRd G l d) P (KF G l 62 d P hd n) (dropTo 0 (mcode 62)) [some (vR a0), some (vI a1), some (vI a2), some (vI a3), none] [] h) : CallR G l d 62 [vR a0, vI a1, vI a2, vI a3] h P := CallR.of ok_62 (Nat.le_of_ble_eq_true rfl) rfl fun hv hO => Wp.go hd n ok_62 (body (hv (vI a1) (by simp)) (hv (vI a2) (by simp)) (hv (vI a3) (by simp)) hO)
theorem in63 {a0 : Nat} {a1 : Int} {a2 : Int} {a3 : Int} (hd : List Nat) (n : Nat) (body : R32 a1 → R32 a2 → R32 a3 → Hok h → run1 (CRd G l d) P (KF G l 63 d P hd n) (dropTo 0 (mcode 63)) [some (vR a0), some (vI a1), some (vI a2), some (vI a3), none] [] h) : CallR G l d 63 [vR a0, vI a1, vI a2, vI a3] h P := CallR.of ok_63 (Nat.le_of_ble_eq_true rfl) rfl fun hv hO => Wp.go hd n ok_63 (body (hv (vI a1) (by simp)) (hv (vI a2) (by simp)) (hv (vI a3) (by simp)) hO)
theorem in64 {a0 : Nat} {a1 : Int} {a2 : Int} (hd : List Nat) (n : Nat) (body : R32 a1 → R32 a2 → Hok h → run1 (CRd G l d) P (KF G l 64 d P hd n) (dropTo 0 (mcode 64)) [some (vR a0), some (vI a1), some (vI a2), none] [] h) : CallR G l d 64 [vR a0, vI a1, vI a2] h P := CallR.of ok_64 (Nat.le_of_ble_eq_true rfl) rfl fun hv hO => Wp.go hd n ok_64 (body (hv (vI a1) (by simp)) (hv (vI a2) (by simp)) hO)
theorem in65 {a0 : Nat} (hd : List Nat) (n : Nat) (body : Hok h → run1 (CRd G l d) P (KF G l 65 d P hd n) (dropTo 0 (mcode 65)) [some (vR a0)] [] h) : CallR G l d 65 [vR a0] h P := CallR.of ok_65 (Nat.le_of_ble_eq_true rfl) rfl fun hv hO => Wp.go hd n ok_65 (body  hO)
theorem in66 {a0 : Nat} {a1 : Int} (hd : List Nat) (n : Nat) (body : R32 a1 → Hok h → run1 (CRd G l d) P (KF G l 66 d P hd n) (dropTo 0 (mcode 66)) [some (vR a0), some (vI a1), none] [] h) : CallR G l d 66 [vR a0, vI a1] h P := CallR.of ok_66 (Nat.le_of_ble_eq_true rfl) rfl fun hv hO => Wp.go hd n ok_66 (body (hv (vI a1) (by simp)) hO)
theorem in67 {a0 : Nat} {a1 : Int} (hd : List Nat) (n : Nat) (body : R32 a1 → Hok h → run1 (CRd G l d) P (KF G l 67 d P hd n) (dropTo 0 (mcode 67)) [some (vR a0), some (vI a1), none] [] h) : CallR G l d 67 [vR a0, vI a1] h P := CallR.of ok_67 (Nat.le_of_ble_eq_true rfl) rfl fun hv hO => Wp.go hd n ok_67 (body (hv (vI a1) (by simp)) hO)
theorem in68 {a0 : Nat} {a1 : Int} (hd : List Nat) (n : Nat) (body : R32 a1 → Hok h → run1 (CRd G l d) P (KF G l 68 d P hd n) (dropTo 0 (mcode 68)) [some (vR a0), some (vI a1), none] [] h) : CallR G l d 68 [vR a0, vI a1] h P := CallR.of ok_68 (Nat.le_of_ble_eq_true rfl) rfl fun hv hO => Wp.go hd n ok_68 (body (hv (vI a1) (by simp)) hO)
theorem in69 {a0 : Nat} (hd : List Nat) (n : Nat) (body : Hok h → run1 (CRd G l d) P (KF G l 69 d P hd n) (dropTo 0 (mcode 69)) [some (vR a0)] [] h) : CallR G l d 69 [vR a0] h P := CallR.of ok_69 (Nat.le_of_ble_eq_true rfl) rfl fun hv hO => Wp.go hd n ok_69 (body  hO)
theorem in70 {a0 : Nat} {a1 : Int} (hd : List Nat) (n : Nat) (body : R32 a1 → Hok h → run1 (CRd G l d) P (KF G l 70 d P hd n) (dropTo 0 (mcode 70)) [some (vR a0), some (vI a1)] [] h) : CallR G l d 70 [vR a0, vI a1] h P := CallR.of ok_70 (Nat.le_of_ble_eq_true rfl) rfl fun hv hO => Wp.go hd n ok_70 (body (hv (vI a1) (by simp)) hO)
theorem in71 {a0 : Nat} {a1 : Int} (hd : List Nat) (n : Nat) (body : R32 a1 → Hok h → run1 (CRd G l d) P (KF G l 71 d P hd n) (dropTo 0 (mcode 71)) [some (vR a0), some (vI a1)] [] h) : CallR G l d 71 [vR a0, vI a1] h P := CallR.of ok_71 (Nat.le_of_ble_eq_true rfl) rfl fun hv hO => Wp.go hd n ok_71 (body (hv (vI a1) (by simp)) hO)
theorem in72 {a0 : Nat} {a1 : Int} {a2 : Int} (hd : List Nat) (n : Nat) (body : R32 a1 → R32 a2 → Hok h → run1 (CRd G l d) P (KF G l 72 d P hd n) (dropTo 0 (mcode 72)) [some (vR a0), some (vI a1), some (vI a2)] [] h) : CallR G l d 72 [vR a0, vI a1, vI a2] h P := CallR.of ok_72 (Nat.le_of_ble_eq_true rfl) rfl fun hv hO => Wp.go hd n ok_72 (body (hv (vI a1) (by simp)) (hv (vI a2) (by simp)) hO)
theorem in73 {a0 : Nat} (hd : List Nat) (n : Nat) (body : Hok h → run1 (CRd G l d) P (KF G l 73 d P hd n) (dropTo 0 (mcode 73)) [some (vR a0), none] [] h) : CallR G l d 73 [vR a0] h P := CallR.of ok_73 (Nat.le_of_ble_eq_true rfl) rfl fun hv hO => Wp.go hd n ok_73 (body  hO)
theorem in74 {a0 : Nat} {a1 : Int} {a2 : Int} (hd : List Nat) (n : Nat) (body : R32 a1 → R32 a2 → Hok h → run1 (CRd G l d) P (KF G l 74 d P hd n) (dropTo 0 (mcode 74)) [some (vR a0), some (vI a1), some (vI a2), none, none, none] [] h) : CallR G l d 74 [vR a0, vI a1, vI a2] h P := CallR.of ok_74 (Nat.le_of_ble_eq_true rfl) rfl fun hv hO => Wp.go hd n ok_74 (body (hv (vI a1) (by simp)) (hv (vI a2) (by simp)) hO)
theorem in75 {a0 : Nat} (hd : List Nat) (n : Nat) (body : Hok h → run1 (CRd G l d) P (KF G l 75 d P hd n) (dropTo 0 (mcode 75)) [some (vR a0), none, none, none, none, none] [] h) : CallR G l d 75 [vR a0] h P := CallR.of ok_75 (Nat.le_of_ble_eq_true rfl) rfl fun hv hO => Wp.go hd n ok_75 (body  hO)
theorem in76 {a0 : Nat} {a1 : Int} (hd : List Nat) (n : Nat) (body : R32 a1 → Hok h → run1 (CRd G l d) P (KF G l 76 d P hd n) (dropTo 0 (mcode 76)) [some (vR a0), some (vI a1), none] [] h) : CallR G l d 76 [vR a0, vI a1] h P := CallR.of ok_76 (Nat.le_of_ble_eq_true rfl) rfl fun hv hO => Wp.go hd n ok_76 (body (hv (vI a1) (by simp)) hO)
theorem in77 {a0 : Nat} {a1 : Int} (hd : List Nat) (n : Nat) (body : R32 a1 → Hok h → run1 (CRd G l d) P (KF G l 77 d P hd n) (dropTo 0 (mcode 77)) [some (vR a0), some (vI a1), none, none, none, none] [] h) : CallR G l d 77 [vR a0, vI a1] h P := CallR.of ok_77 (Nat.le_of_ble_eq_true rfl) rfl fun hv hO => Wp.go hd n ok_77 (body (hv (vI a1) (by simp)) hO)
theorem in78 {a0 : Nat} {a1 : Int} (hd : List Nat) (n : Nat) (body : R32 a1 → Hok h → run1 (CRd G l d) P (KF G l 78 d P hd n) (dropTo 0 (mcode 78)) [some (vR a0), some (vI a1)] [] h) : CallR G l d 78 [vR a0, vI a1] h P := CallR.of ok_78 (Nat.le_of_ble_eq_true rfl) rfl fun hv hO => Wp.go hd n ok_78 (body (hv (vI a1) (by simp)) hO)
theorem in79 {a0 : Nat} (hd : List Nat) (n : Nat) (body : Hok h → run1 (CRd G l d) P (KF G l 79 d P hd n) (dropTo 0 (mcode 79)) [some (vR a0), none, none, none, none] [] h) : CallR G l d 79 [vR a0] h P := CallR.of ok_79 (Nat.le_of_ble_eq_true rfl) rfl fun hv hO => Wp.go hd n ok_79 (body  hO)
theorem in80 {a0 : Nat} {a1 : Int} (hd : List Nat) (n : Nat) (body : R32 a1 → Hok h → run1 (CRd G l d) P (KF G l 80 d P hd n) (dropTo 0 (mcode 80)) [some (vR a0), some (vI a1), none] [] h) : CallR G l d 80 [vR a0, vI a1] h P := CallR.of ok_80 (Nat.le_of_ble_eq_true rfl) rfl fun hv hO => Wp.go hd n ok_80 (body (hv (vI a1) (by simp)) hO)
theorem in81 {a0 : Nat} {a1 : Int} (hd : List Nat) (n : Nat) (body : R32 a1 → Hok h → run1 (CRd G l d) P (KF G l 81 d P hd n) (dropTo 0 (mcode 81)) [some (vR a0), some (vI a1)] [] h) : CallR G l d 81 [vR a0, vI a1] h P := CallR.of ok_81 (Nat.le_of_ble_eq_true rfl) rfl fun hv hO => Wp.go hd n ok_81 (body (hv (vI a1) (by simp)) hO)
theorem in82 {a0 : Nat} {a1 : Int} (hd : List Nat) (n : Nat) (body : R32 a1 → Hok h → run1 (CRd G l d) P (KF G l 82 d P hd n) (dropTo 0 (mcode 82)) [some (vR a0), some (vI a1), none] [] h) : CallR G l d 82 [vR a0, vI a1] h P := CallR.of ok_82 (Nat.le_of_ble_eq_true rfl) rfl fun hv hO => Wp.go hd n ok_82 (body (hv (vI a1) (by simp)) hO)
theorem in83 {a0 : Nat} {a1 : Int} {a2 : Int} (hd : List Nat) (n : Nat) (body : R32 a1 → R32 a2 → Hok h → run1 (CRd G l d) P (KF G l 83 d P hd n) (dropTo 0 (mcode 83)) [some (vR a0), some (vI a1), some (vI a2)] [] h) : CallR G l d 83 [vR a0, vI a1, vI a2] h P := CallR.of ok_83 (Nat.le_of_ble_eq_true rfl) rfl fun hv hO => Wp.go hd n ok_83 (body (hv (vI a1) (by simp)) (hv (vI a2) (by simp)) hO)
theorem in84 {a0 : Nat} {a1 : Int} {a2 : Int} {a3 : Int} (hd : List Nat) (n : Nat) (body : R32 a1 → R32 a2 → R32 a3 → Hok h → run1 (CRd G l d) P (KF G l 84 d P hd n) (dropTo 0 (mcode 84)) [some (vR a0), some (vI a1), some (vI a2), some (vI a3), none] [] h) : CallR G l d 84 [vR a0, vI a1, vI a2, vI a3] h P := CallR.of ok_84 (Nat.le_of_ble_eq_true rfl) rfl fun hv hO => Wp.go hd n ok_84 (body (hv (vI a1) (by simp)) (hv (vI a2) (by simp)) (hv (vI a3) (by simp)) hO)
theorem in85 {a0 : Nat} (hd : List Nat) (n : Nat) (body : Hok h → run1 (CRd G l d) P (KF G l 85 d P hd n) (dropTo 0 (mcode 85)) [some (vR a0), none] [] h) : CallR G l d 85 [vR a0] h P := CallR.of ok_85 (Nat.le_of_ble_eq_true rfl) rfl fun hv hO => Wp.go hd n ok_85 (body  hO)
theorem in86 {a0 : Nat} {a1 : Int} {a2 : Int} {a3 : Int} {a4 : Int} (hd : List Nat) (n : Nat) (body : R32 a1 → R32 a2 → R32 a3 → R32 a4 → Hok h → run1 (CRd G l d) P (KF G l 86 d P hd n) (dropTo 0 (mcode 86)) [some (vR a0), some (vI a1), some (vI a2), some (vI a3), some (vI a4), none, none] [] h) : CallR G l d 86 [vR a0, vI a1, vI a2, vI a3, vI a4] h P := CallR.of ok_86 (Nat.le_of_ble_eq_true rfl) rfl fun hv hO => Wp.go hd n ok_86 (body (hv (vI a1) (by simp)) (hv (vI a2) (by simp)) (hv (vI a3) (by simp)) (hv (vI a4) (by simp)) hO)
theorem in87 {a0 : Nat} {a1 : Int} {a2 : Int} {a3 : Int} (hd : List Nat) (n : Nat) (body : R32 a1 → R32 a2 → R32 a3 → Hok h → run1 (CRd G l d) P (KF G l 87 d P hd n) (dropTo 0 (mcode 87)) [some (vR a0), some (vI a1), some (vI a2), some (vI a3)] [] h) : CallR G l d 87 [vR a0, vI a1, vI a2, vI a3] h P := CallR.of ok_87 (Nat.le_of_ble_eq_true rfl) rfl fun hv hO => Wp.go hd n ok_87 (body (hv (vI a1) (by simp)) (hv (vI a2) (by simp)) (hv (vI a3) (by simp)) hO)
theorem in88 {a0 : Nat} {a1 : Int} {a2 : Int} {a3 : Int} (hd : List Nat) (n : Nat) (body : R32 a1 → R32 a2 → R32 a3 → Hok h → run1 (CRd G l d) P (KF G l 88 d P hd n) (dropTo 0 (mcode 88)) [some (vR a0), some (vI a1), some (vI a2), some (vI a3), none] [] h) : CallR G l d 88 [vR a0, vI a1, vI a2, vI a3] h P := CallR.of ok_88 (Nat.le_of_ble_eq_true rfl) rfl fun hv hO => Wp.go hd n ok_88 (body (hv (vI a1) (by simp)) (hv (vI a2) (by simp)) (hv (vI a3) (by simp)) hO)
theorem in89 {a0 : Nat} {a1 : Int} {a2 : Int} {a3 : Int} (hd : List Nat) (n : Nat) (body : R32 a1 → R32 a2 → R32 a3 → Hok h → run1 (CRd G l d) P (KF G l 89 d P hd n) (dropTo 0 (mcode 89)) [some (vR a0), some (vI a1), some (vI a2), some (vI a3), none] [] h) : CallR G l d 89 [vR a0, vI a1, vI a2, vI a3] h P := CallR.of ok_89 (Nat.le_of_ble_eq_true rfl) rfl fun hv hO => Wp.go hd n ok_89 (body (hv (vI a1) (by simp)) (hv (vI a2) (by simp)) (hv (vI a3) (by simp)) hO)
theorem in90 {a0 : Nat} {a1 : Int} {a2 : Int} {a3 : Int} (hd : List Nat) (n : Nat) (body : R32 a1 → R32 a2 → R32 a3 → Hok h → run1 (CRd G l d) P (KF G l 90 d P hd n) (dropTo 0 (mcode 90)) [some (vR a0), some (vI a1), some (vI a2), some (vI a3)] [] h) : CallR G l d 90 [vR a0, vI a1, vI a2, vI a3] h P := CallR.of ok_90 (Nat.le_of_ble_eq_true rfl) rfl fun hv hO => Wp.go hd n ok_90 (body (hv (vI a1) (by simp)) (hv (vI a2) (by simp)) (hv (vI a3) (by simp)) hO)
theorem in91 {a0 : Nat} {a1 : Int} {a2 : Int} (hd : List Nat) (n : Nat) (body : R32 a1 → R32 a2 → Hok h → run1 (CRd G l d) P (KF G l 91 d P hd n) (dropTo 0 (mcode 91)) [some (vR a0), some (vI a1), some (vI a2), none, none, none] [] h) : CallR G l d 91 [vR a0, vI a1, vI a2] h P := CallR.of ok_91 (Nat.le_of_ble_eq_true rfl) rfl fun hv hO => Wp.go hd n ok_91 (body (hv (vI a1) (by simp)) (hv (vI a2) (by simp)) hO)
theorem in92 {a0 : Nat} {a1 : Int} {a2 : Int} {a3 : Int} (hd : List Nat) (n : Nat) (body : R32 a1 → R32 a2 → R32 a3 → Hok h → run1 (CRd G l d) P (KF G l 92 d P hd n) (dropTo 0 (mcode 92)) [some (vR a0), some (vI a1), some (vI a2), some (vI a3), none] [] h) : CallR G l d 92 [vR a0, vI a1, vI a2, vI a3] h P := CallR.of ok_92 (Nat.le_of_ble_eq_true rfl) rfl fun hv hO => Wp.go hd n ok_92 (body (hv (vI a1) (by simp)) (hv (vI a2) (by simp)) (hv (vI a3) (by simp)) hO)
theorem in93 {a0 : Nat} {a1 : Int} (hd : List Nat) (n : Nat) (body : R32 a1 → Hok h → run1 (CRd G l d) P (KF G l 93 d P hd n) (dropTo 0 (mcode 93)) [some (vR a0), some (vI a1)] [] h) : CallR G l d 93 [vR a0, vI a1] h P := CallR.of ok_93 (Nat.le_of_ble_eq_true rfl) rfl fun hv hO => Wp.go hd n ok_93 (body (hv (vI a1) (by simp)) hO)
theorem in94 {a0 : Nat} {a1 : Int} (hd : List Nat) (n : Nat) (body : R32 a1 → Hok h → run1 (CRd G l d) P (KF G l 94 d P hd n) (dropTo 0 (mcode 94)) [some (vR a0), some (vI a1)] [] h) : CallR G l d 94 [vR a0, vI a1] h P := CallR.of ok_94 (Nat.le_of_ble_eq_true rfl) rfl fun hv hO => Wp.go hd n ok_94 (body (hv (vI a1) (by simp)) hO)
theorem in95 {a0 : Nat} (hd : List Nat) (n : Nat) (body : Hok h → run1 (CRd G l d) P (KF G l 95 d P hd n) (dropTo 0 (mcode 95)) [some (vR a0)] [] h) : CallR G l d 95 [vR a0] h P := CallR.of ok_95 (Nat.le_of_ble_eq_true rfl) rfl fun hv hO => Wp.go hd n ok_95 (body  hO)
theorem in96 {a0 : Nat} (hd : List Nat) (n : Nat) (body : Hok h → run1 (CRd G l d) P (KF G l 96 d P hd n) (dropTo 0 (mcode 96)) [some (vR a0)] [] h) : CallR G l d 96 [vR a0] h P := CallR.of ok_96 (Nat.le_of_ble_eq_true rfl) rfl fun hv hO => Wp.go hd n ok_96 (body  hO)
theorem in97 {a0 : Int} {a1 : Int} {a2 : Int} (hd : List Nat) (n : Nat) (body : R32 a0 → R32 a1 → R32 a2 → Hok h → run1 (CRd G l d) P (KF G l 97 d P hd n) (dropTo 0 (mcode 97)) [some (vI a0), some (vI a1), some (vI a2)] [] h) : CallR G l d 97 [vI a0, vI a1, vI a2] h P := CallR.of ok_97 (Nat.le_of_ble_eq_true rfl) rfl fun hv hO => Wp.go hd n ok_97 (body (hv (vI a0) (by simp)) (hv (vI a1) (by simp)) (hv (vI a2) (by simp)) hO)
theorem in98 {a0 : Int} (hd : List Nat) (n : Nat) (body : R32 a0 → Hok h → run1 (CRd G l d) P (KF G l 98 d P hd n) (dropTo 0 (mcode 98)) [some (vI a0)] [] h) : CallR G l d 98 [vI a0] h P := CallR.of ok_98 (Nat.le_of_ble_eq_true rfl) rfl fun hv hO => Wp.go hd n ok_98 (body (hv (vI a0) (by simp)) hO)
theorem in99 {a0 : Int} (hd : List Nat) (n : Nat) (body : R32 a0 → Hok h → run1 (CRd G l d) P (KF G l 99 d P hd n) (dropTo 0 (mcode 99)) [some (vI a0)] [] h) : CallR G l d 99 [vI a0] h P := CallR.of ok_99 (Nat.le_of_ble_eq_true rfl) rfl fun hv hO => Wp.go hd n ok_99 (body (hv (vI a0) (by simp)) hO)
theorem in100 {a0 : Int} (hd : List Nat) (n : Nat) (body : R32 a0 → Hok h → run1 (CRd G l d) P (KF G l 100 d P hd n) (dropTo 0 (mcode 100)) [some (vI a0)] [] h) : CallR G l d 100 [vI a0] h P := CallR.of ok_100 (Nat.le_of_ble_eq_true rfl) rfl fun hv hO => Wp.go hd n ok_100 (body (hv (vI a0) (by simp)) hO)
theorem in101 {a0 : Int} (hd : List Nat) (n : Nat) (body : R32 a0 → Hok h → run1 (CRd G l d) P (KF G l 101 d P hd n) (dropTo 0 (mcode 101)) [some (vI a0)] [] h) : CallR G l d 101 [vI a0] h P := CallR.of ok_101 (Nat.le_of_ble_eq_true rfl) rfl fun hv hO => Wp.go hd n ok_101 (body (hv (vI a0) (by simp)) hO)
theorem in102 {a0 : Int} (hd : List Nat) (n : Nat) (body : R32 a0 → Hok h → run1 (CRd G l d) P (KF G l 102 d P hd n) (dropTo 0 (mcode 102)) [some (vI a0)] [] h) : CallR G l d 102 [vI a0] h P := CallR.of ok_102 (Nat.le_of_ble_eq_true rfl) rfl fun hv hO => Wp.go hd n ok_102 (body (hv (vI a0) (by simp)) hO)
theorem in103 {a0 : Int} (hd : List Nat) (n : Nat) (body : R32 a0 → Hok h → run1 (CRd G l d) P (KF G l 103 d P hd n) (dropTo 0 (mcode 103)) [some (vI a0)] [] h) : CallR G l d 103 [vI a0] h P := CallR.of ok_103 (Nat.le_of_ble_eq_true rfl) rfl fun hv hO => Wp.go hd n ok_103 (body (hv (vI a0) (by simp)) hO)
theorem in104 {a0 : Nat} {a1 : Int} {a2 : Int} (hd : List Nat) (n : Nat) (body : R32 a1 → R32 a2 → Hok h → run1 (CRd G l d) P (KF G l 104 d P hd n) (dropTo 0 (mcode 104)) [some (vR a0), some (vI a1), some (vI a2)] [] h) : CallR G l d 104 [vR a0, vI a1, vI a2] h P := CallR.of ok_104 (Nat.le_of_ble_eq_true rfl) rfl fun hv hO => Wp.go hd n ok_104 (body (hv (vI a1) (by simp)) (hv (vI a2) (by simp)) hO)
theorem in105 {a0 : Nat} (hd : List Nat) (n : Nat) (body : Hok h → run1 (CRd G l d) P (KF G l 105 d P hd n) (dropTo 0 (mcode 105)) [some (vR a0)] [] h) : CallR G l d 105 [vR a0] h P := CallR.of ok_105 (Nat.le_of_ble_eq_true rfl) rfl fun hv hO => Wp.go hd n ok_105 (body  hO)
theorem in106 {a0 : Nat} {a1 : Int} {a2 : Int} {a3 : Int} (hd : List Nat) (n : Nat) (body : R32 a1 → R32 a2 → R32 a3 → Hok h → run1 (CRd G l d) P (KF G l 106 d P hd n) (dropTo 0 (mcode 106)) [some (vR a0), some (vI a1), some (vI a2), some (vI a3)] [] h) : CallR G l d 106 [vR a0, vI a1, vI a2, vI a3] h P := CallR.of ok_106 (Nat.le_of_ble_eq_true rfl) rfl fun hv hO => Wp.go hd n ok_106 (body (hv (vI a1) (by simp)) (hv (vI a2) (by simp)) (hv (vI a3) (by simp)) hO)
theorem in107 {a0 : Nat} {a1 : Int} {a2 : Int} {a3 : Int} (hd : List Nat) (n : Nat) (body : R32 a1 → R32 a2 → R32 a3 → Hok h → run1 (CRd G l d) P (KF G l 107 d P hd n) (dropTo 0 (mcode 107)) [some (vR a0), some (vI a1), some (vI a2), some (vI a3)] [] h) : CallR G l d 107 [vR a0, vI a1, vI a2, vI a3] h P := CallR.of ok_107 (Nat.le_of_ble_eq_true rfl) rfl fun hv hO => Wp.go hd n ok_107 (body (hv (vI a1) (by simp)) (hv (vI a2) (by simp)) (hv (vI a3) (by simp)) hO)
theorem in108 {a0 : Nat} {a1 : Int} (hd : List Nat) (n : Nat) (body : R32 a1 → Hok h → run1 (CRd G l d) P (KF G l 108 d P hd n) (dropTo 0 (mcode 108)) [some (vR a0), some (vI a1), none, none, none] [] h) : CallR G l d 108 [vR a0, vI a1] h P := CallR.of ok_108 (Nat.le_of_ble_eq_true rfl) rfl fun hv hO => Wp.go hd n ok_108 (body (hv (vI a1) (by simp)) hO)
theorem in109 {a0 : Nat} {a1 : Nat} (hd : List Nat) (n : Nat) (body : Hok h → run1 (CRd G l d) P (KF G l 109 d P hd n) (dropTo 0 (mcode 109)) [some (vR a0), some (vR a1)] [] h) : CallR G l d 109 [vR a0, vR a1] h P := CallR.of ok_109 (Nat.le_of_ble_eq_true rfl) rfl fun hv hO => Wp.go hd n ok_109 (body  hO)
theorem in110 {a0 : Nat} {a1 : Nat} (hd : List Nat) (n : Nat) (body : Hok h → run1 (CRd G l d) P (KF G l 110 d P hd n) (dropTo 0 (mcode 110)) [some (vR a0), some (vR a1), none] [] h) : CallR G l d 110 [vR a0, vR a1] h P := CallR.of ok_110 (Nat.le_of_ble_eq_true rfl) rfl fun hv hO => Wp.go hd n ok_110 (body  hO)
theorem in111 {a0 : Nat} {a1 : Int} (hd : List Nat) (n : Nat) (body : R32 a1 → Hok h → run1 (CRd G l d) P (KF G l 111 d P hd n) (dropTo 0 (mcode 111)) [some (vR a0), some (vI a1), none] [] h) : CallR G l d 111 [vR a0, vI a1] h P := CallR.of ok_111 (Nat.le_of_ble_eq_true rfl) rfl fun hv hO => Wp.go hd n ok_111 (body (hv (vI a1) (by simp)) hO)
theorem in112 {a0 : Int} {a1 : Int} {a2 : Int} (hd : List Nat) (n : Nat) (body : R32 a0 → R32 a1 → R32 a2 → Hok h → run1 (CRd G l d) P (KF G l 112 d P hd n) (dropTo 0 (mcode 112)) [some (vI a0), some (vI a1), some (vI a2)] [] h) : CallR G l d 112 [vI a0, vI a1, vI a2] h P := CallR.of ok_112 (Nat.le_of_ble_eq_true rfl) rfl fun hv hO => Wp.go hd n ok_112 (body (hv (vI a0) (by simp)) (hv (vI a1) (by simp)) (hv (vI a2) (by simp)) hO)
theorem in113 {a0 : Nat} {a1 : Int} (hd : List Nat) (n : Nat) (body : R32 a1 → Hok h → run1 (CRd G l d) P (KF G l 113 d P hd n) (dropTo 0 (mcode 113)) [some (vR a0), some (vI a1)] [] h) : CallR G l d 113 [vR a0, vI a1] h P := CallR.of ok_113 (Nat.le_of_ble_eq_true rfl) rfl fun hv hO => Wp.go hd n ok_113 (body (hv (vI a1) (by simp)) hO)
theorem in114 {a0 : Int} (hd : List Nat) (n : Nat) (body : R32 a0 → Hok h → run1 (CRd G l d) P (KF G l 114 d P hd n) (dropTo 0 (mcode 114)) [some (vI a0)] [] h) : CallR G l d 114 [vI a0] h P := CallR.of ok_114 (Nat.le_of_ble_eq_true rfl) rfl fun hv hO => Wp.go hd n ok_114 (body (hv (vI a0) (by simp)) hO)
theorem in115 {a0 : Int} (hd : List Nat) (n : Nat) (body : R32 a0 → Hok h → run1 (CRd G l d) P (KF G l 115 d P hd n) (dropTo 0 (mcode 115)) [some (vI a0)] [] h) : CallR G l d 115 [vI a0] h P := CallR.of ok_115 (Nat.le_of_ble_eq_true rfl) rfl fun hv hO => Wp.go hd n ok_115 (body (hv (vI a0) (by simp)) hO)
theorem in116 {a0 : Int} (hd : List Nat) (n : Nat) (body : R32 a0 → Hok h → run1 (CRd G l d) P (KF G l 116 d P hd n) (dropTo 0 (mcode 116)) [some (vI a0)] [] h) : CallR G l d 116 [vI a0] h P := CallR.of ok_116 (Nat.le_of_ble_eq_true rfl) rfl fun hv hO => Wp.go hd n ok_116 (body (hv (vI a0) (by simp)) hO)
theorem in117 {a0 : Int} (hd : List Nat) (n : Nat) (body : R32 a0 → Hok h → run1 (CRd G l d) P (KF G l 117 d P hd n) (dropTo 0 (mcode 117)) [some (vI a0)] [] h) : CallR G l d 117 [vI a0] h P := CallR.of ok_117 (Nat.le_of_ble_eq_true rfl) rfl fun hv hO => Wp.go hd n ok_117 (body (hv (vI a0) (by simp)) hO)
theorem in118 {a0 : Int} {a1 : Int} (hd : List Nat) (n : Nat) (body : R32 a0 → R32 a1 → Hok h → run1 (CRd G l d) P (KF G l 118 d P hd n) (dropTo 0 (mcode 118)) [some (vI a0), some (vI a1)] [] h) : CallR G l d 118 [vI a0, vI a1] h P := CallR.of ok_118 (Nat.le_of_ble_eq_true rfl) rfl fun hv hO => Wp.go hd n ok_118 (body (hv (vI a0) (by simp)) (hv (vI a1) (by simp)) hO)
theorem in119 {a0 : Nat} {a1 : Int} (hd : List Nat) (n : Nat) (body : R32 a1 → Hok h → run1 (CRd G l d) P (KF G l 119 d P hd n) (dropTo 0 (mcode 119)) [some (vR a0), some (vI a1)] [] h) : CallR G l d 119 [vR a0, vI a1] h P := CallR.of ok_119 (Nat.le_of_ble_eq_true rfl) rfl fun hv hO => Wp.go hd n ok_119 (body (hv (vI a1) (by simp)) hO)
theorem in120 {a0 : Nat} {a1 : Int} {a2 : Int} (hd : List Nat) (n : Nat) (body : R32 a1 → R32 a2 → Hok h → run1 (CRd G l d) P (KF G l 120 d P hd n) (dropTo 0 (mcode 120)) [some (vR a0), some (vI a1), some (vI a2)] [] h) : CallR G l d 120 [vR a0, vI a1, vI a2] h P := CallR.of ok_120 (Nat.le_of_ble_eq_true rfl) rfl fun hv hO => Wp.go hd n ok_120 (body (hv (vI a1) (by simp)) (hv (vI a2) (by simp)) hO)
theorem in121 {a0 : Nat} {a1 : Int} {a2 : Int} (hd : List Nat) (n : Nat) (body : R64 a1 → R32 a2 → Hok h → run1 (CRd G l d) P (KF G l 121 d P hd n) (dropTo 0 (mcode 121)) [some (vR a0), some (vL a1), none, some (vI a2), none] [] h) : CallR G l d 121 [vR a0, vL a1, vI a2] h P := CallR.of ok_121 (Nat.le_of_ble_eq_true rfl) rfl fun hv hO => Wp.go hd n ok_121 (body (hv (vL a1) (by simp)) (hv (vI a2) (by simp)) hO)
theorem in122 {a0 : Nat} {a1 : Int} (hd : List Nat) (n : Nat) (body : R32 a1 → Hok h → run1 (CRd G l d) P (KF G l 122 d P hd n) (dropTo 0 (mcode 122)) [some (vR a0), some (vI a1)] [] h) : CallR G l d 122 [vR a0, vI a1] h P := CallR.of ok_122 (Nat.le_of_ble_eq_true rfl) rfl fun hv hO => Wp.go hd n ok_122 (body (hv (vI a1) (by simp)) hO)
theorem in123 {a0 : Int} (hd : List Nat) (n : Nat) (body : R32 a0 → Hok h → run1 (CRd G l d) P (KF G l 123 d P hd n) (dropTo 0 (mcode 123)) [some (vI a0)] [] h) : CallR G l d 123 [vI a0] h P := CallR.of ok_123 (Nat.le_of_ble_eq_true rfl) rfl fun hv hO => Wp.go hd n ok_123 (body (hv (vI a0) (by simp)) hO)
theorem in124 {a0 : Int} (hd : List Nat) (n : Nat) (body : R32 a0 → Hok h → run1 (CRd G l d) P (KF G l 124 d P hd n) (dropTo 0 (mcode 124)) [some (vI a0)] [] h) : CallR G l d 124 [vI a0] h P := CallR.of ok_124 (Nat.le_of_ble_eq_true rfl) rfl fun hv hO => Wp.go hd n ok_124 (body (hv (vI a0) (by simp)) hO)
theorem in125 {a0 : Nat} (hd : List Nat) (n : Nat) (body : Hok h → run1 (CRd G l d) P (KF G l 125 d P hd n) (dropTo 0 (mcode 125)) [some (vR a0), none] [] h) : CallR G l d 125 [vR a0] h P := CallR.of ok_125 (Nat.le_of_ble_eq_true rfl) rfl fun hv hO => Wp.go hd n ok_125 (body  hO)
theorem in126 {a0 : Nat} {a1 : Int} (hd : List Nat) (n : Nat) (body : R64 a1 → Hok h → run1 (CRd G l d) P (KF G l 126 d P hd n) (dropTo 0 (mcode 126)) [some (vR a0), some (vL a1), none] [] h) : CallR G l d 126 [vR a0, vL a1] h P := CallR.of ok_126 (Nat.le_of_ble_eq_true rfl) rfl fun hv hO => Wp.go hd n ok_126 (body (hv (vL a1) (by simp)) hO)
theorem in127 {a0 : Nat} {a1 : Int} (hd : List Nat) (n : Nat) (body : R32 a1 → Hok h → run1 (CRd G l d) P (KF G l 127 d P hd n) (dropTo 0 (mcode 127)) [some (vR a0), some (vI a1)] [] h) : CallR G l d 127 [vR a0, vI a1] h P := CallR.of ok_127 (Nat.le_of_ble_eq_true rfl) rfl fun hv hO => Wp.go hd n ok_127 (body (hv (vI a1) (by simp)) hO)
theorem in128 {a0 : Nat} (hd : List Nat) (n : Nat) (body : Hok h → run1 (CRd G l d) P (KF G l 128 d P hd n) (dropTo 0 (mcode 128)) [some (vR a0)] [] h) : CallR G l d 128 [vR a0] h P := CallR.of ok_128 (Nat.le_of_ble_eq_true rfl) rfl fun hv hO => Wp.go hd n ok_128 (body  hO)
theorem in129 {a0 : Nat} {a1 : Int} {a2 : Int} (hd : List Nat) (n : Nat) (body : R32 a1 → R32 a2 → Hok h → run1 (CRd G l d) P (KF G l 129 d P hd n) (dropTo 0 (mcode 129)) [some (vR a0), some (vI a1), some (vI a2), none] [] h) : CallR G l d 129 [vR a0, vI a1, vI a2] h P := CallR.of ok_129 (Nat.le_of_ble_eq_true rfl) rfl fun hv hO => Wp.go hd n ok_129 (body (hv (vI a1) (by simp)) (hv (vI a2) (by simp)) hO)
theorem in130 {a0 : Nat} {a1 : Int} (hd : List Nat) (n : Nat) (body : R64 a1 → Hok h → run1 (CRd G l d) P (KF G l 130 d P hd n) (dropTo 0 (mcode 130)) [some (vR a0), some (vL a1), none] [] h) : CallR G l d 130 [vR a0, vL a1] h P := CallR.of ok_130 (Nat.le_of_ble_eq_true rfl) rfl fun hv hO => Wp.go hd n ok_130 (body (hv (vL a1) (by simp)) hO)
theorem in131 {a0 : Nat} (hd : List Nat) (n : Nat) (body : Hok h → run1 (CRd G l d) P (KF G l 131 d P hd n) (dropTo 0 (mcode 131)) [some (vR a0)] [] h) : CallR G l d 131 [vR a0] h P := CallR.of ok_131 (Nat.le_of_ble_eq_true rfl) rfl fun hv hO => Wp.go hd n ok_131 (body  hO)
theorem in132 {a0 : Nat} {a1 : Int} (hd : List Nat) (n : Nat) (body : R32 a1 → Hok h → run1 (CRd G l d) P (KF G l 132 d P hd n) (dropTo 0 (mcode 132)) [some (vR a0), some (vI a1), none, none, none, none] [] h) : CallR G l d 132 [vR a0, vI a1] h P := CallR.of ok_132 (Nat.le_of_ble_eq_true rfl) rfl fun hv hO => Wp.go hd n ok_132 (body (hv (vI a1) (by simp)) hO)
theorem in133 {a0 : Nat} (hd : List Nat) (n : Nat) (body : Hok h → run1 (CRd G l d) P (KF G l 133 d P hd n) (dropTo 0 (mcode 133)) [some (vR a0), none, none, none] [] h) : CallR G l d 133 [vR a0] h P := CallR.of ok_133 (Nat.le_of_ble_eq_true rfl) rfl fun hv hO => Wp.go hd n ok_133 (body  hO)
theorem in134 {a0 : Nat} (hd : List Nat) (n : Nat) (body : Hok h → run1 (CRd G l d) P (KF G l 134 d P hd n) (dropTo 0 (mcode 134)) [some (vR a0)] [] h) : CallR G l d 134 [vR a0] h P := CallR.of ok_134 (Nat.le_of_ble_eq_true rfl) rfl fun hv hO => Wp.go hd n ok_134 (body  hO)
theorem in135 {a0 : Nat} (hd : List Nat) (n : Nat) (body : Hok h → run1 (CRd G l d) P (KF G l 135 d P hd n) (dropTo 0 (mcode 135)) [some (vR a0)] [] h) : CallR G l d 135 [vR a0] h P := CallR.of ok_135 (Nat.le_of_ble_eq_true rfl) rfl fun hv hO => Wp.go hd n ok_135 (body  hO)
theorem in136 {a0 : Nat} (hd : List Nat) (n : Nat) (body : Hok h → run1 (CRd G l d) P (KF G l 136 d P hd n) (dropTo 0 (mcode 136)) [some (vR a0), none] [] h) : CallR G l d 136 [vR a0] h P := CallR.of ok_136 (Nat.le_of_ble_eq_true rfl) rfl fun hv hO => Wp.go hd n ok_136 (body  hO)
theorem in137 {a0 : Nat} {a1 : Int} (hd : List Nat) (n : Nat) (body : R32 a1 → Hok h → run1 (CRd G l d) P (KF G l 137 d P hd n) (dropTo 0 (mcode 137)) [some (vR a0), some (vI a1), none] [] h) : CallR G l d 137 [vR a0, vI a1] h P := CallR.of ok_137 (Nat.le_of_ble_eq_true rfl) rfl fun hv hO => Wp.go hd n ok_137 (body (hv (vI a1) (by simp)) hO)
theorem in138 {a0 : Nat} {a1 : Int} {a2 : Int} {a3 : Int} (hd : List Nat) (n : Nat) (body : R32 a1 → R32 a2 → R32 a3 → Hok h → run1 (CRd G l d) P (KF G l 138 d P hd n) (dropTo 0 (mcode 138)) [some (vR a0), some (vI a1), some (vI a2), some (vI a3)] [] h) : CallR G l d 138 [vR a0, vI a1, vI a2, vI a3] h P := CallR.of ok_138 (Nat.le_of_ble_eq_true rfl) rfl fun hv hO => Wp.go hd n ok_138 (body (hv (vI a1) (by simp)) (hv (vI a2) (by simp)) (hv (vI a3) (by simp)) hO)
theorem in139 {a0 : Nat} {a1 : Int} {a2 : Int} {a3 : Int} (hd : List Nat) (n : Nat) (body : R32 a1 → R32 a2 → R32 a3 → Hok h → run1 (CRd G l d) P (KF G l 139 d P hd n) (dropTo 0 (mcode 139)) [some (vR a0), some (vI a1), some (vI a2), some (vI a3)] [] h) : CallR G l d 139 [vR a0, vI a1, vI a2, vI a3] h P := CallR.of ok_139 (Nat.le_of_ble_eq_true rfl) rfl fun hv hO => Wp.go hd n ok_139 (body (hv (vI a1) (by simp)) (hv (vI a2) (by simp)) (hv (vI a3) (by simp)) hO)
theorem in140 {a0 : Nat} {a1 : Int} (hd : List Nat) (n : Nat) (body : R32 a1 → Hok h → run1 (CRd G l d) P (KF G l 140 d P hd n) (dropTo 0 (mcode 140)) [some (vR a0), some (vI a1), none] [] h) : CallR G l d 140 [vR a0, vI a1] h P := CallR.of ok_140 (Nat.le_of_ble_eq_true rfl) rfl fun hv hO => Wp.go hd n ok_140 (body (hv (vI a1) (by simp)) hO)
theorem in141 {a0 : Nat} {a1 : Int} {a2 : Int} (hd : List Nat) (n : Nat) (body : R32 a1 → R32 a2 → Hok h → run1 (CRd G l d) P (KF G l 141 d P hd n) (dropTo 0 (mcode 141)) [some (vR a0), some (vI a1), some (vI a2), none, none] [] h) : CallR G l d 141 [vR a0, vI a1, vI a2] h P := CallR.of ok_141 (Nat.le_of_ble_eq_true rfl) rfl fun hv hO => Wp.go hd n ok_141 (body (hv (vI a1) (by simp)) (hv (vI a2) (by simp)) hO)
theorem in142 {a0 : Nat} {a1 : Int} {a2 : Int} (hd : List Nat) (n : Nat) (body : R32 a1 → R32 a2 → Hok h → run1 (CRd G l d) P (KF G l 142 d P hd n) (dropTo 0 (mcode 142)) [some (vR a0), some (vI a1), some (vI a2)] [] h) : CallR G l d 142 [vR a0, vI a1, vI a2] h P := CallR.of ok_142 (Nat.le_of_ble_eq_true rfl) rfl fun hv hO => Wp.go hd n ok_142 (body (hv (vI a1) (by simp)) (hv (vI a2) (by simp)) hO)
theorem in143 {a0 : Nat} {a1 : Int} {a2 : Int} {a3 : Int} {a4 : Int} (hd : List Nat) (n : Nat) (body : R32 a1 → R32 a2 → R32 a3 → R32 a4 → Hok h → run1 (CRd G l d) P (KF G l 143 d P hd n) (dropTo 0 (mcode 143)) [some (vR a0), some (vI a1), some (vI a2), some (vI a3), some (vI a4)] [] h) : CallR G l d 143 [vR a0, vI a1, vI a2, vI a3, vI a4] h P := CallR.of ok_143 (Nat.le_of_ble_eq_true rfl) rfl fun hv hO => Wp.go hd n ok_143 (body (hv (vI a1) (by simp)) (hv (vI a2) (by simp)) (hv (vI a3) (by simp)) (hv (vI a4) (by simp)) hO)
theorem in144 {a0 : Nat} {a1 : Int} (hd : List Nat) (n : Nat) (body : R32 a1 → Hok h → run1 (CRd G l d) P (KF G l 144 d P hd n) (dropTo 0 (mcode 144)) [some (vR a0), some (vI a1)] [] h) : CallR G l d 144 [vR a0, vI a1] h P := CallR.of ok_144 (Nat.le_of_ble_eq_true rfl) rfl fun hv hO => Wp.go hd n ok_144 (body (hv (vI a1) (by simp)) hO)
theorem in145 {a0 : Nat} {a1 : Int} (hd : List Nat) (n : Nat) (body : R32 a1 → Hok h → run1 (CRd G l d) P (KF G l 145 d P hd n) (dropTo 0 (mcode 145)) [some (vR a0), some (vI a1)] [] h) : CallR G l d 145 [vR a0, vI a1] h P := CallR.of ok_145 (Nat.le_of_ble_eq_true rfl) rfl fun hv hO => Wp.go hd n ok_145 (body (hv (vI a1) (by simp)) hO)
theorem in146 {a0 : Int} (hd : List Nat) (n : Nat) (body : R32 a0 → Hok h → run1 (CRd G l d) P (KF G l 146 d P hd n) (dropTo 0 (mcode 146)) [some (vI a0)] [] h) : CallR G l d 146 [vI a0] h P := CallR.of ok_146 (Nat.le_of_ble_eq_true rfl) rfl fun hv hO => Wp.go hd n ok_146 (body (hv (vI a0) (by simp)) hO)
theorem in147 {a0 : Nat} {a1 : Int} {a2 : Int} (hd : List Nat) (n : Nat) (body : R32 a1 → R32 a2 → Hok h → run1 (CRd G l d) P (KF G l 147 d P hd n) (dropTo 0 (mcode 147)) [some (vR a0), some (vI a1), some (vI a2)] [] h) : CallR G l d 147 [vR a0, vI a1, vI a2] h P := CallR.of ok_147 (Nat.le_of_ble_eq_true rfl) rfl fun hv hO => Wp.go hd n ok_147 (body (hv (vI a1) (by simp)) (hv (vI a2) (by simp)) hO)
theorem in148 {a0 : Nat} {a1 : Int} {a2 : Int} {a3 : Int} (hd : List Nat) (n : Nat) (body : R32 a1 → R32 a2 → R32 a3 → Hok h → run1 (CRd G l d) P (KF G l 148 d P hd n) (dropTo 0 (mcode 148)) [some (vR a0), some (vI a1), some (vI a2), some (vI a3), none] [] h) : CallR G l d 148 [vR a0, vI a1, vI a2, vI a3] h P := CallR.of ok_148 (Nat.le_of_ble_eq_true rfl) rfl fun hv hO => Wp.go hd n ok_148 (body (hv (vI a1) (by simp)) (hv (vI a2) (by simp)) (hv (vI a3) (by simp)) hO)
theorem in149 {a0 : Nat} {a1 : Int} {a2 : Int} (hd : List Nat) (n : Nat) (body : R32 a1 → R32 a2 → Hok h → run1 (CRd G l d) P (KF G l 149 d P hd n) (dropTo 0 (mcode 149)) [some (vR a0), some (vI a1), some (vI a2)] [] h) : CallR G l d 149 [vR a0, vI a1, vI a2] h P := CallR.of ok_149 (Nat.le_of_ble_eq_true rfl) rfl fun hv hO => Wp.go hd n ok_149 (body (hv (vI a1) (by simp)) (hv (vI a2) (by simp)) hO)
theorem in150 {a0 : Nat} {a1 : Int} {a2 : Int} {a3 : Int} (hd : List Nat) (n : Nat) (body : R32 a1 → R32 a2 → R32 a3 → Hok h → run1 (CRd G l d) P (KF G l 150 d P hd n) (dropTo 0 (mcode 150)) [some (vR a0), some (vI a1), some (vI a2), some (vI a3), none] [] h) : CallR G l d 150 [vR a0, vI a1, vI a2, vI a3] h P := CallR.of ok_150 (Nat.le_of_ble_eq_true rfl) rfl fun hv hO => Wp.go hd n ok_150 (body (hv (vI a1) (by simp)) (hv (vI a2) (by simp)) (hv (vI a3) (by simp)) hO)
theorem in151 {a0 : Nat} {a1 : Int} {a2 : Int} (hd : List Nat) (n : Nat) (body : R32 a1 → R32 a2 → Hok h → run1 (CRd G l d) P (KF G l 151 d P hd n) (dropTo 0 (mcode 151)) [some (vR a0), some (vI a1), some (vI a2), none] [] h) : CallR G l d 151 [vR a0, vI a1, vI a2] h P := CallR.of ok_151 (Nat.le_of_ble_eq_true rfl) rfl fun hv hO => Wp.go hd n ok_151 (body (hv (vI a1) (by simp)) (hv (vI a2) (by simp)) hO)
theorem in152 {a0 : Nat} (hd : List Nat) (n : Nat) (body : Hok h → run1 (CRd G l d) P (KF G l 152 d P hd n) (dropTo 0 (mcode 152)) [some (vR a0)] [] h) : CallR G l d 152 [vR a0] h P := CallR.of ok_152 (Nat.le_of_ble_eq_true rfl) rfl fun hv hO => Wp.go hd n ok_152 (body  hO)
theorem in153 {a0 : Nat} {a1 : Int} (hd : List Nat) (n : Nat) (body : R32 a1 → Hok h → run1 (CRd G l d) P (KF G l 153 d P hd n) (dropTo 0 (mcode 153)) [some (vR a0), some (vI a1), none] [] h) : CallR G l d 153 [vR a0, vI a1] h P := CallR.of ok_153 (Nat.le_of_ble_eq_true rfl) rfl fun hv hO => Wp.go hd n ok_153 (body (hv (vI a1) (by simp)) hO)
theorem in154 {a0 : Nat} {a1 : Int} {a2 : Int} (hd : List Nat) (n : Nat) (body : R32 a1 → R32 a2 → Hok h → run1 (CRd G l d) P (KF G l 154 d P hd n) (dropTo 0 (mcode 154)) [some (vR a0), some (vI a1), some (vI a2), none, none, none, none] [] h) : CallR G l d 154 [vR a0, vI a1, vI a2] h P := CallR.of ok_154 (Nat.le_of_ble_eq_true rfl) rfl fun hv hO => Wp.go hd n ok_154 (body (hv (vI a1) (by simp)) (hv (vI a2) (by simp)) hO)
theorem in155 {a0 : Nat} {a1 : Int} (hd : List Nat) (n : Nat) (body : R32 a1 → Hok h → run1 (CRd G l d) P (KF G l 155 d P hd n) (dropTo 0 (mcode 155)) [some (vR a0), some (vI a1)] [] h) : CallR G l d 155 [vR a0, vI a1] h P := CallR.of ok_155 (Nat.le_of_ble_eq_true rfl) rfl fun hv hO => Wp.go hd n ok_155 (body (hv (vI a1) (by simp)) hO)
theorem in156 {a0 : Nat} {a1 : Int} (hd : List Nat) (n : Nat) (body : R32 a1 → Hok h → run1 (CRd G l d) P (KF G l 156 d P hd n) (dropTo 0 (mcode 156)) [some (vR a0), some (vI a1), none, none] [] h) : CallR G l d 156 [vR a0, vI a1] h P := CallR.of ok_156 (Nat.le_of_ble_eq_true rfl) rfl fun hv hO => Wp.go hd n ok_156 (body (hv (vI a1) (by simp)) hO)
theorem in157 {a0 : Nat} (hd : List Nat) (n : Nat) (body : Hok h → run1 (CRd G l d) P (KF G l 157 d P hd n) (dropTo 0 (mcode 157)) [some (vR a0), none, none] [] h) : CallR G l d 157 [vR a0] h P := CallR.of ok_157 (Nat.le_of_ble_eq_true rfl) rfl fun hv hO => Wp.go hd n ok_157 (body  hO)
theorem in158 {a0 : Nat} {a1 : Int} (hd : List Nat) (n : Nat) (body : R32 a1 → Hok h → run1 (CRd G l d) P (KF G l 158 d P hd n) (dropTo 0 (mcode 158)) [some (vR a0), some (vI a1), none] [] h) : CallR G l d 158 [vR a0, vI a1] h P := CallR.of ok_158 (Nat.le_of_ble_eq_true rfl) rfl fun hv hO => Wp.go hd n ok_158 (body (hv (vI a1) (by simp)) hO)
theorem in159 {a0 : Nat} {a1 : Int} (hd : List Nat) (n : Nat) (body : R32 a1 → Hok h → run1 (CRd G l d) P (KF G l 159 d P hd n) (dropTo 0 (mcode 159)) [some (vR a0), some (vI a1)] [] h) : CallR G l d 159 [vR a0, vI a1] h P := CallR.of ok_159 (Nat.le_of_ble_eq_true rfl) rfl fun hv hO => Wp.go hd n ok_159 (body (hv (vI a1) (by simp)) hO)
theorem in160 {a0 : Nat} {a1 : Int} (hd : List Nat) (n : Nat) (body : R32 a1 → Hok h → run1 (CRd G l d) P (KF G l 160 d P hd n) (dropTo 0 (mcode 160)) [some (vR a0), some (vI a1), none] [] h) : CallR G l d 160 [vR a0, vI a1] h P := CallR.of ok_160 (Nat.le_of_ble_eq_true rfl) rfl fun hv hO => Wp.go hd n ok_160 (body (hv (vI a1) (by simp)) hO)
theorem in161 {a0 : Nat} (hd : List Nat) (n : Nat) (body : Hok h → run1 (CRd G l d) P (KF G l 161 d P hd n) (dropTo 0 (mcode 161)) [some (vR a0), none] [] h) : CallR G l d 161 [vR a0] h P := CallR.of ok_161 (Nat.le_of_ble_eq_true rfl) rfl fun hv hO => Wp.go hd n ok_161 (body  hO)
theorem in162 {a0 : Nat} (hd : List Nat) (n : Nat) (body : Hok h → run1 (CRd G l d) P (KF G l 162 d P hd n) (dropTo 0 (mcode 162)) [some (vR a0)] [] h) : CallR G l d 162 [vR a0] h P := CallR.of ok_162 (Nat.le_of_ble_eq_true rfl) rfl fun hv hO => Wp.go hd n ok_162 (body  hO)
theorem in163 {a0 : Nat} (hd : List Nat) (n : Nat) (body : Hok h → run1 (CRd G l d) P (KF G l 163 d P hd n) (dropTo 0 (mcode 163)) [some (vR a0)] [] h) : CallR G l d 163 [vR a0] h P := CallR.of ok_163 (Nat.le_of_ble_eq_true rfl) rfl fun hv hO => Wp.go hd n ok_163 (body  hO)
theorem in164 {a0 : Nat} {a1 : Int} (hd : List Nat) (n : Nat) (body : R32 a1 → Hok h → run1 (CRd G l d) P (KF G l 164 d P hd n) (dropTo 0 (mcode 164)) [some (vR a0), some (vI a1)] [] h) : CallR G l d 164 [vR a0, vI a1] h P := CallR.of ok_164 (Nat.le_of_ble_eq_true rfl) rfl fun hv hO => Wp.go hd n ok_164 (body (hv (vI a1) (by simp)) hO)
theorem in165 {a0 : Nat} (hd : List Nat) (n : Nat) (body : Hok h → run1 (CRd G l d) P (KF G l 165 d P hd n) (dropTo 0 (mcode 165)) [some (vR a0), none, none, none] [] h) : CallR G l d 165 [vR a0] h P := CallR.of ok_165 (Nat.le_of_ble_eq_true rfl) rfl fun hv hO => Wp.go hd n ok_165 (body  hO)
theorem in166 {a0 : Nat} {a1 : Int} (hd : List Nat) (n : Nat) (body : R32 a1 → Hok h → run1 (CRd G l d) P (KF G l 166 d P hd n) (dropTo 0 (mcode 166)) [some (vR a0), some (vI a1)] [] h) : CallR G l d 166 [vR a0, vI a1] h P := CallR.of ok_166 (Nat.le_of_ble_eq_true rfl) rfl fun hv hO => Wp.go hd n ok_166 (body (hv (vI a1) (by simp)) hO)
theorem in167 {a0 : Nat} (hd : List Nat) (n : Nat) (body : Hok h → run1 (CRd G l d) P (KF G l 167 d P hd n) (dropTo 0 (mcode 167)) [some (vR a0)] [] h) : CallR G l d 167 [vR a0] h P := CallR.of ok_167 (Nat.le_of_ble_eq_true rfl) rfl fun hv hO => Wp.go hd n ok_167 (body  hO)
theorem in168 {a0 : Nat} {a1 : Int} (hd : List Nat) (n : Nat) (body : R32 a1 → Hok h → run1 (CRd G l d) P (KF G l 168 d P hd n) (dropTo 0 (mcode 168)) [some (vR a0), some (vI a1)] [] h) : CallR G l d 168 [vR a0, vI a1] h P := CallR.of ok_168 (Nat.le_of_ble_eq_true rfl) rfl fun hv hO => Wp.go hd n ok_168 (body (hv (vI a1) (by simp)) hO)
theorem in169 {a0 : Nat} {a1 : Int} (hd : List Nat) (n : Nat) (body : R32 a1 → Hok h → run1 (CRd G l d) P (KF G l 169 d P hd n) (dropTo 0 (mcode 169)) [some (vR a0), some (vI a1)] [] h) : CallR G l d 169 [vR a0, vI a1] h P := CallR.of ok_169 (Nat.le_of_ble_eq_true rfl) rfl fun hv hO => Wp.go hd n ok_169 (body (hv (vI a1) (by simp)) hO)
theorem in170 {a0 : Nat} {a1 : Int} {a2 : Int} (hd : List Nat) (n : Nat) (body : R32 a1 → R32 a2 → Hok h → run1 (CRd G l d) P (KF G l 170 d P hd n) (dropTo 0 (mcode 170)) [some (vR a0), some (vI a1), some (vI a2), none, none] [] h) : CallR G l d 170 [vR a0, vI a1, vI a2] h P := CallR.of ok_170 (Nat.le_of_ble_eq_true rfl) rfl fun hv hO => Wp.go hd n ok_170 (body (hv (vI a1) (by simp)) (hv (vI a2) (by simp)) hO)
theorem in171 {a0 : Nat} (hd : List Nat) (n : Nat) (body : Hok h → run1 (CRd G l d) P (KF G l 171 d P hd n) (dropTo 0 (mcode 171)) [some (vR a0), none] [] h) : CallR G l d 171 [vR a0] h P := CallR.of ok_171 (Nat.le_of_ble_eq_true rfl) rfl fun hv hO => Wp.go hd n ok_171 (body  hO)
theorem in172 {a0 : Nat} {a1 : Int} {a2 : Int} (hd : List Nat) (n : Nat) (body : R32 a1 → R32 a2 → Hok h → run1 (CRd G l d) P (KF G l 172 d P hd n) (dropTo 0 (mcode 172)) [some (vR a0), some (vI a1), some (vI a2), none] [] h) : CallR G l d 172 [vR a0, vI a1, vI a2] h P := CallR.of ok_172 (Nat.le_of_ble_eq_true rfl) rfl fun hv hO => Wp.go hd n ok_172 (body (hv (vI a1) (by simp)) (hv (vI a2) (by simp)) hO)
theorem in173 {a0 : Nat} (hd : List Nat) (n : Nat) (body : Hok h → run1 (CRd G l d) P (KF G l 173 d P hd n) (dropTo 0 (mcode 173)) [some (vR a0), none, none, none, none, none, none] [] h) : CallR G l d 173 [vR a0] h P := CallR.of ok_173 (Nat.le_of_ble_eq_true rfl) rfl fun hv hO => Wp.go hd n ok_173 (body  hO)
theorem in174 {a0 : Nat} {a1 : Int} (hd : List Nat) (n : Nat) (body : R32 a1 → Hok h → run1 (CRd G l d) P (KF G l 174 d P hd n) (dropTo 0 (mcode 174)) [some (vR a0), some (vI a1), none, none, none, none, none] [] h) : CallR G l d 174 [vR a0, vI a1] h P := CallR.of ok_174 (Nat.le_of_ble_eq_true rfl) rfl fun hv hO => Wp.go hd n ok_174 (body (hv (vI a1) (by simp)) hO)
theorem in175 {a0 : Nat} {a1 : Int} (hd : List Nat) (n : Nat) (body : R32 a1 → Hok h → run1 (CRd G l d) P (KF G l 175 d P hd n) (dropTo 0 (mcode 175)) [some (vR a0), some (vI a1), none, none, none, none] [] h) : CallR G l d 175 [vR a0, vI a1] h P := CallR.of ok_175 (Nat.le_of_ble_eq_true rfl) rfl fun hv hO => Wp.go hd n ok_175 (body (hv (vI a1) (by simp)) hO)
theorem in176 {a0 : Nat} {a1 : Int} (hd : List Nat) (n : Nat) (body : R32 a1 → Hok h → run1 (CRd G l d) P (KF G l 176 d P hd n) (dropTo 0 (mcode 176)) [some (vR a0), some (vI a1), none, none] [] h) : CallR G l d 176 [vR a0, vI a1] h P := CallR.of ok_176 (Nat.le_of_ble_eq_true rfl) rfl fun hv hO => Wp.go hd n ok_176 (body (hv (vI a1) (by simp)) hO)
theorem in177 {a0 : Nat} {a1 : Int} (hd : List Nat) (n : Nat) (body : R32 a1 → Hok h → run1 (CRd G l d) P (KF G l 177 d P hd n) (dropTo 0 (mcode 177)) [some (vR a0), some (vI a1)] [] h) : CallR G l d 177 [vR a0, vI a1] h P := CallR.of ok_177 (Nat.le_of_ble_eq_true rfl) rfl fun hv hO => Wp.go hd n ok_177 (body (hv (vI a1) (by simp)) hO)
theorem in178 {a0 : Nat} (hd : List Nat) (n : Nat) (body : Hok h → run1 (CRd G l d) P (KF G l 178 d P hd n) (dropTo 0 (mcode 178)) [some (vR a0), none, none, none, none] [] h) : CallR G l d 178 [vR a0] h P := CallR.of ok_178 (Nat.le_of_ble_eq_true rfl) rfl fun hv hO => Wp.go hd n ok_178 (body  hO)
theorem in179 {a0 : Nat} {a1 : Int} (hd : List Nat) (n : Nat) (body : R32 a1 → Hok h → run1 (CRd G l d) P (KF G l 179 d P hd n) (dropTo 0 (mcode 179)) [some (vR a0), some (vI a1), none] [] h) : CallR G l d 179 [vR a0, vI a1] h P := CallR.of ok_179 (Nat.le_of_ble_eq_true rfl) rfl fun hv hO => Wp.go hd n ok_179 (body (hv (vI a1) (by simp)) hO)
theorem in180 {a0 : Nat} {a1 : Int} (hd : List Nat) (n : Nat) (body : R32 a1 → Hok h → run1 (CRd G l d) P (KF G l 180 d P hd n) (dropTo 0 (mcode 180)) [some (vR a0), some (vI a1)] [] h) : CallR G l d 180 [vR a0, vI a1] h P := CallR.of ok_180 (Nat.le_of_ble_eq_true rfl) rfl fun hv hO => Wp.go hd n ok_180 (body (hv (vI a1) (by simp)) hO)
theorem in181 {a0 : Nat} {a1 : Int} (hd : List Nat) (n : Nat) (body : R32 a1 → Hok h → run1 (CRd G l d) P (KF G l 181 d P hd n) (dropTo 0 (mcode 181)) [some (vR a0), some (vI a1), none, none, none] [] h) : CallR G l d 181 [vR a0, vI a1] h P := CallR.of ok_181 (Nat.le_of_ble_eq_true rfl) rfl fun hv hO => Wp.go hd n ok_181 (body (hv (vI a1) (by simp)) hO)
theorem in182 {a0 : Nat} {a1 : Int} (hd : List Nat) (n : Nat) (body : R32 a1 → Hok h → run1 (CRd G l d) P (KF G l 182 d P hd n) (dropTo 0 (mcode 182)) [some (vR a0), some (vI a1), none] [] h) : CallR G l d 182 [vR a0, vI a1] h P := CallR.of ok_182 (Nat.le_of_ble_eq_true rfl) rfl fun hv hO => Wp.go hd n ok_182 (body (hv (vI a1) (by simp)) hO)
theorem in183 {a0 : Nat} {a1 : Int} {a2 : Int} (hd : List Nat) (n : Nat) (body : R32 a1 → R32 a2 → Hok h → run1 (CRd G l d) P (KF G l 183 d P hd n) (dropTo 0 (mcode 183)) [some (vR a0), some (vI a1), some (vI a2)] [] h) : CallR G l d 183 [vR a0, vI a1, vI a2] h P := CallR.of ok_183 (Nat.le_of_ble_eq_true rfl) rfl fun hv hO => Wp.go hd n ok_183 (body (hv (vI a1) (by simp)) (hv (vI a2) (by simp)) hO)
theorem in184 {a0 : Nat} {a1 : Int} {a2 : Int} (hd : List Nat) (n : Nat) (body : R32 a1 → R32 a2 → Hok h → run1 (CRd G l d) P (KF G l 184 d P hd n) (dropTo 0 (mcode 184)) [some (vR a0), some (vI a1), some (vI a2)] [] h) : CallR G l d 184 [vR a0, vI a1, vI a2] h P := CallR.of ok_184 (Nat.le_of_ble_eq_true rfl) rfl fun hv hO => Wp.go hd n ok_184 (body (hv (vI a1) (by simp)) (hv (vI a2) (by simp)) hO)
theorem in185 {a0 : Nat} {a1 : Int} {a2 : Int} {a3 : Int} (hd : List Nat) (n : Nat) (body : R32 a1 → R32 a2 → R32 a3 → Hok h → run1 (CRd G l d) P (KF G l 185 d P hd n) (dropTo 0 (mcode 185)) [some (vR a0), some (vI a1), some (vI a2), some (vI a3), none] [] h) : CallR G l d 185 [vR a0, vI a1, vI a2, vI a3] h P := CallR.of ok_185 (Nat.le_of_ble_eq_true rfl) rfl fun hv hO => Wp.go hd n ok_185 (body (hv (vI a1) (by simp)) (hv (vI a2) (by simp)) (hv (vI a3) (by simp)) hO)
theorem in186 {a0 : Nat} (hd : List Nat) (n : Nat) (body : Hok h → run1 (CRd G l d) P (KF G l 186 d P hd n) (dropTo 0 (mcode 186)) [some (vR a0), none, none, none] [] h) : CallR G l d 186 [vR a0] h P := CallR.of ok_186 (Nat.le_of_ble_eq_true rfl) rfl fun hv hO => Wp.go hd n ok_186 (body  hO)
theorem in187 {a0 : Nat} {a1 : Int} {a2 : Int} {a3 : Int} {a4 : Int} (hd : List Nat) (n : Nat) (body : R32 a1 → R32 a2 → R32 a3 → R32 a4 → Hok h → run1 (CRd G l d) P (KF G l 187 d P hd n) (dropTo 0 (mcode 187)) [some (vR a0), some (vI a1), some (vI a2), some (vI a3), some (vI a4), none, none, none, none] [] h) : CallR G l d 187 [vR a0, vI a1, vI a2, vI a3, vI a4] h P := CallR.of ok_187 (Nat.le_of_ble_eq_true rfl) rfl fun hv hO => Wp.go hd n ok_187 (body (hv (vI a1) (by simp)) (hv (vI a2) (by simp)) (hv (vI a3) (by simp)) (hv (vI a4) (by simp)) hO)
theorem in188 {a0 : Int} (hd : List Nat) (n : Nat) (body : R32 a0 → Hok h → run1 (CRd G l d) P (KF G l 188 d P hd n) (dropTo 0 (mcode 188)) [some (vI a0)] [] h) : CallR G l d 188 [vI a0] h P := CallR.of ok_188 (Nat.le_of_ble_eq_true rfl) rfl fun hv hO => Wp.go hd n ok_188 (body (hv (vI a0) (by simp)) hO)
theorem in189 {a0 : Nat} {a1 : Int} {a2 : Int} {a3 : Int} (hd : List Nat) (n : Nat) (body : R32 a1 → R32 a2 → R32 a3 → Hok h → run1 (CRd G l d) P (KF G l 189 d P hd n) (dropTo 0 (mcode 189)) [some (vR a0), some (vI a1), some (vI a2), some (vI a3), none] [] h) : CallR G l d 189 [vR a0, vI a1, vI a2, vI a3] h P := CallR.of ok_189 (Nat.le_of_ble_eq_true rfl) rfl fun hv hO => Wp.go hd n ok_189 (body (hv (vI a1) (by simp)) (hv (vI a2) (by simp)) (hv (vI a3) (by simp)) hO)
theorem in190 {a0 : Nat} {a1 : Int} {a2 : Int} {a3 : Int} (hd : List Nat) (n : Nat) (body : R32 a1 → R32 a2 → R32 a3 → Hok h → run1 (CRd G l d) P (KF G l 190 d P hd n) (dropTo 0 (mcode 190)) [some (vR a0), some (vI a1), some (vI a2), some (vI a3)] [] h) : CallR G l d 190 [vR a0, vI a1, vI a2, vI a3] h P := CallR.of ok_190 (Nat.le_of_ble_eq_true rfl) rfl fun hv hO => Wp.go hd n ok_190 (body (hv (vI a1) (by simp)) (hv (vI a2) (by simp)) (hv (vI a3) (by simp)) hO)
theorem in191 {a0 : Nat} {a1 : Int} {a2 : Int} (hd : List Nat) (n : Nat) (body : R32 a1 → R32 a2 → Hok h → run1 (CRd G l d) P (KF G l 191 d P hd n) (dropTo 0 (mcode 191)) [some (vR a0), some (vI a1), some (vI a2)] [] h) : CallR G l d 191 [vR a0, vI a1, vI a2] h P := CallR.of ok_191 (Nat.le_of_ble_eq_true rfl) rfl fun hv hO => Wp.go hd n ok_191 (body (hv (vI a1) (by simp)) (hv (vI a2) (by simp)) hO)
theorem in192 {a0 : Nat} {a1 : Int} {a2 : Int} {a3 : Int} (hd : List Nat) (n : Nat) (body : R32 a1 → R32 a2 → R32 a3 → Hok h → run1 (CRd G l d) P (KF G l 192 d P hd n) (dropTo 0 (mcode 192)) [some (vR a0), some (vI a1), some (vI a2), some (vI a3), none] [] h) : CallR G l d 192 [vR a0, vI a1, vI a2, vI a3] h P := CallR.of ok_192 (Nat.le_of_ble_eq_true rfl) rfl fun hv hO => Wp.go hd n ok_192 (body (hv (vI a1) (by simp)) (hv (vI a2) (by simp)) (hv (vI a3) (by simp)) hO)
theorem in193 {a0 : Nat} {a1 : Int} {a2 : Int} (hd : List Nat) (n : Nat) (body : R32 a1 → R32 a2 → Hok h → run1 (CRd G l d) P (KF G l 193 d P hd n) (dropTo 0 (mcode 193)) [some (vR a0), some (vI a1), some (vI a2)] [] h) : CallR G l d 193 [vR a0, vI a1, vI a2] h P := CallR.of ok_193 (Nat.le_of_ble_eq_true rfl) rfl fun hv hO => Wp.go hd n ok_193 (body (hv (vI a1) (by simp)) (hv (vI a2) (by simp)) hO)
theorem in194 {a0 : Nat} {a1 : Int} {a2 : Int} {a3 : Int} (hd : List Nat) (n : Nat) (body : R32 a1 → R32 a2 → R32 a3 → Hok h → run1 (CRd G l d) P (KF G l 194 d P hd n) (dropTo 0 (mcode 194)) [some (vR a0), some (vI a1), some (vI a2), some (vI a3)] [] h) : CallR G l d 194 [vR a0, vI a1, vI a2, vI a3] h P := CallR.of ok_194 (Nat.le_of_ble_eq_true rfl) rfl fun hv hO => Wp.go hd n ok_194 (body (hv (vI a1) (by simp)) (hv (vI a2) (by simp)) (hv (vI a3) (by simp)) hO)
theorem in195 {a0 : Nat} {a1 : Int} (hd : List Nat) (n : Nat) (body : R32 a1 → Hok h → run1 (CRd G l d) P (KF G l 195 d P hd n) (dropTo 0 (mcode 195)) [some (vR a0), some (vI a1)] [] h) : CallR G l d 195 [vR a0, vI a1] h P := CallR.of ok_195 (Nat.le_of_ble_eq_true rfl) rfl fun hv hO => Wp.go hd n ok_195 (body (hv (vI a1) (by simp)) hO)
theorem in196 {a0 : Int} {a1 : Int} (hd : List Nat) (n : Nat) (body : R32 a0 → R32 a1 → Hok h → run1 (CRd G l d) P (KF G l 196 d P hd n) (dropTo 0 (mcode 196)) [some (vI a0), some (vI a1)] [] h) : CallR G l d 196 [vI a0, vI a1] h P := CallR.of ok_196 (Nat.le_of_ble_eq_true rfl) rfl fun hv hO => Wp.go hd n ok_196 (body (hv (vI a0) (by simp)) (hv (vI a1) (by simp)) hO)
theorem in197 {a0 : Nat} {a1 : Int} {a2 : Int} (hd : List Nat) (n : Nat) (body : R32 a1 → R32 a2 → Hok h → run1 (CRd G l d) P (KF G l 197 d P hd n) (dropTo 0 (mcode 197)) [some (vR a0), some (vI a1), some (vI a2), none] [] h) : CallR G l d 197 [vR a0, vI a1, vI a2] h P := CallR.of ok_197 (Nat.le_of_ble_eq_true rfl) rfl fun hv hO => Wp.go hd n ok_197 (body (hv (vI a1) (by simp)) (hv (vI a2) (by simp)) hO)
theorem in198 {a0 : Nat} {a1 : Int} (hd : List Nat) (n : Nat) (body : R32 a1 → Hok h → run1 (CRd G l d) P (KF G l 198 d P hd n) (dropTo 0 (mcode 198)) [some (vR a0), some (vI a1)] [] h) : CallR G l d 198 [vR a0, vI a1] h P := CallR.of ok_198 (Nat.le_of_ble_eq_true rfl) rfl fun hv hO => Wp.go hd n ok_198 (body (hv (vI a1) (by simp)) hO)
theorem in199 {a0 : Nat} {a1 : Int} (hd : List Nat) (n : Nat) (body : R32 a1 → Hok h → run1 (CRd G l d) P (KF G l 199 d P hd n) (dropTo 0 (mcode 199)) [some (vR a0), some (vI a1)] [] h) : CallR G l d 199 [vR a0, vI a1] h P := CallR.of ok_199 (Nat.le_of_ble_eq_true rfl) rfl fun hv hO => Wp.go hd n ok_199 (body (hv (vI a1) (by simp)) hO)
theorem in200 {a0 : Nat} {a1 : Int} (hd : List Nat) (n : Nat) (body : R32 a1 → Hok h → run1 (CRd G l d) P (KF G l 200 d P hd n) (dropTo 0 (mcode 200)) [some (vR a0), some (vI a1)] [] h) : CallR G l d 200 [vR a0, vI a1] h P := CallR.of ok_200 (Nat.le_of_ble_eq_true rfl) rfl fun hv hO => Wp.go hd n ok_200 (body (hv (vI a1) (by simp)) hO)
theorem in201 {a0 : Nat} {a1 : Int} (hd : List Nat) (n : Nat) (body : R32 a1 → Hok h → run1 (CRd G l d) P (KF G l 201 d P hd n) (dropTo 0 (mcode 201)) [some (vR a0), some (vI a1)] [] h) : CallR G l d 201 [vR a0, vI a1] h P := CallR.of ok_201 (Nat.le_of_ble_eq_true rfl) rfl fun hv hO => Wp.go hd n ok_201 (body (hv (vI a1) (by simp)) hO)
theorem in202 {a0 : Nat} {a1 : Int} (hd : List Nat) (n : Nat) (body : R32 a1 → Hok h → run1 (CRd G l d) P (KF G l 202 d P hd n) (dropTo 0 (mcode 202)) [some (vR a0), some (vI a1)] [] h) : CallR G l d 202 [vR a0, vI a1] h P := CallR.of ok_202 (Nat.le_of_ble_eq_true rfl) rfl fun hv hO => Wp.go hd n ok_202 (body (hv (vI a1) (by simp)) hO)
theorem in203 {a0 : Nat} {a1 : Int} (hd : List Nat) (n : Nat) (body : R32 a1 → Hok h → run1 (CRd G l d) P (KF G l 203 d P hd n) (dropTo 0 (mcode 203)) [some (vR a0), some (vI a1), none] [] h) : CallR G l d 203 [vR a0, vI a1] h P := CallR.of ok_203 (Nat.le_of_ble_eq_true rfl) rfl fun hv hO => Wp.go hd n ok_203 (body (hv (vI a1) (by simp)) hO)
theorem in204 {a0 : Nat} {a1 : Int} (hd : List Nat) (n : Nat) (body : R32 a1 → Hok h → run1 (CRd G l d) P (KF G l 204 d P hd n) (dropTo 0 (mcode 204)) [some (vR a0), some (vI a1)] [] h) : CallR G l d 204 [vR a0, vI a1] h P := CallR.of ok_204 (Nat.le_of_ble_eq_true rfl) rfl fun hv hO => Wp.go hd n ok_204 (body (hv (vI a1) (by simp)) hO)
theorem in205 {a0 : Nat} {a1 : Int} (hd : List Nat) (n : Nat) (body : R32 a1 → Hok h → run1 (CRd G l d) P (KF G l 205 d P hd n) (dropTo 0 (mcode 205)) [some (vR a0), some (vI a1), none] [] h) : CallR G l d 205 [vR a0, vI a1] h P := CallR.of ok_205 (Nat.le_of_ble_eq_true rfl) rfl fun hv hO => Wp.go hd n ok_205 (body (hv (vI a1) (by simp)) hO)
theorem in206 {a0 : Nat} {a1 : Int} (hd : List Nat) (n : Nat) (body : R32 a1 → Hok h → run1 (CRd G l d) P (KF G l 206 d P hd n) (dropTo 0 (mcode 206)) [some (vR a0), some (vI a1)] [] h) : CallR G l d 206 [vR a0, vI a1] h P := CallR.of ok_206 (Nat.le_of_ble_eq_true rfl) rfl fun hv hO => Wp.go hd n ok_206 (body (hv (vI a1) (by simp)) hO)
theorem in207 {a0 : Nat} {a1 : Int} (hd : List Nat) (n : Nat) (body : R32 a1 → Hok h → run1 (CRd G l d) P (KF G l 207 d P hd n) (dropTo 0 (mcode 207)) [some (vR a0), some (vI a1), none] [] h) : CallR G l d 207 [vR a0, vI a1] h P := CallR.of ok_207 (Nat.le_of_ble_eq_true rfl) rfl fun hv hO => Wp.go hd n ok_207 (body (hv (vI a1) (by simp)) hO)
theorem in208 {a0 : Nat} {a1 : Int} {a2 : Int} {a3 : Int} (hd : List Nat) (n : Nat) (body : R32 a1 → R32 a2 → R32 a3 → Hok h → run1 (CRd G l d) P (KF G l 208 d P hd n) (dropTo 0 (mcode 208)) [some (vR a0), some (vI a1), some (vI a2), some (vI a3), none, none] [] h) : CallR G l d 208 [vR a0, vI a1, vI a2, vI a3] h P := CallR.of ok_208 (Nat.le_of_ble_eq_true rfl) rfl fun hv hO => Wp.go hd n ok_208 (body (hv (vI a1) (by simp)) (hv (vI a2) (by simp)) (hv (vI a3) (by simp)) hO)
theorem in209 {a0 : Nat} {a1 : Int} (hd : List Nat) (n : Nat) (body : R32 a1 → Hok h → run1 (CRd G l d) P (KF G l 209 d P hd n) (dropTo 0 (mcode 209)) [some (vR a0), some (vI a1)] [] h) : CallR G l d 209 [vR a0, vI a1] h P := CallR.of ok_209 (Nat.le_of_ble_eq_true rfl) rfl fun hv hO => Wp.go hd n ok_209 (body (hv (vI a1) (by simp)) hO)
theorem in210 {a0 : Nat} {a1 : Int} (hd : List Nat) (n : Nat) (body : R32 a1 → Hok h → run1 (CRd G l d) P (KF G l 210 d P hd n) (dropTo 0 (mcode 210)) [some (vR a0), some (vI a1), none, none] [] h) : CallR G l d 210 [vR a0, vI a1] h P := CallR.of ok_210 (Nat.le_of_ble_eq_true rfl) rfl fun hv hO => Wp.go hd n ok_210 (body (hv (vI a1) (by simp)) hO)
theorem in211 {a0 : Nat} {a1 : Nat} {a2 : Int} {a3 : Int} (hd : List Nat) (n : Nat) (body : R32 a2 → R32 a3 → Hok h → run1 (CRd G l d) P (KF G l 211 d P hd n) (dropTo 0 (mcode 211)) [some (vR a0), some (vR a1), some (vI a2), some (vI a3), none] [] h) : CallR G l d 211 [vR a0, vR a1, vI a2, vI a3] h P := CallR.of ok_211 (Nat.le_of_ble_eq_true rfl) rfl fun hv hO => Wp.go hd n ok_211 (body (hv (vI a2) (by simp)) (hv (vI a3) (by simp)) hO)
theorem in212 {a0 : Nat} {a1 : Int} (hd : List Nat) (n : Nat) (body : R32 a1 → Hok h → run1 (CRd G l d) P (KF G l 212 d P hd n) (dropTo 0 (mcode 212)) [some (vR a0), some (vI a1)] [] h) : CallR G l d 212 [vR a0, vI a1] h P := CallR.of ok_212 (Nat.le_of_ble_eq_true rfl) rfl fun hv hO => Wp.go hd n ok_212 (body (hv (vI a1) (by simp)) hO)
theorem in213 {a0 : Nat} (hd : List Nat) (n : Nat) (body : Hok h → run1 (CRd G l d) P (KF G l 213 d P hd n) (dropTo 0 (mcode 213)) [some (vR a0)] [] h) : CallR G l d 213 [vR a0] h P := CallR.of ok_213 (Nat.le_of_ble_eq_true rfl) rfl fun hv hO => Wp.go hd n ok_213 (body  hO)
theorem in214 {a0 : Nat} (hd : List Nat) (n : Nat) (body : Hok h → run1 (CRd G l d) P (KF G l 214 d P hd n) (dropTo 0 (mcode 214)) [some (vR a0)] [] h) : CallR G l d 214 [vR a0] h P := CallR.of ok_214 (Nat.le_of_ble_eq_true rfl) rfl fun hv hO => Wp.go hd n ok_214 (body  hO)
theorem in215 {a0 : Int} (hd : List Nat) (n : Nat) (body : R32 a0 → Hok h → run1 (CRd G l d) P (KF G l 215 d P hd n) (dropTo 0 (mcode 215)) [some (vI a0)] [] h) : CallR G l d 215 [vI a0] h P := CallR.of ok_215 (Nat.le_of_ble_eq_true rfl) rfl fun hv hO => Wp.go hd n ok_215 (body (hv (vI a0) (by simp)) hO)
end ENT
theorem c0 : dropTo 0 (mcode 0) = k0_0 ∧ k0_0 = (0, 5, 0, []) :: (1, 0, 0, []) :: (2, 40, 0, [4]) :: (5, 5, 0, []) :: (6, 0, 0, []) :: (7, 40, 0, [5]) :: (10, 54, 0, []) :: [] := ⟨q0_0, rfl⟩
theorem c1 : dropTo 0 (mcode 1) = k1_0 ∧ k1_0 = (0, 5, 0, []) :: (1, 3, 1, []) :: (2, 40, 0, [0]) :: (5, 5, 0, []) :: (6, 3, 2, []) :: (7, 40, 0, [1]) :: (10, 5, 0, []) :: (11, 3, 3, []) :: (12, 40, 0, [2]) :: (15, 54, 0, []) :: [] := ⟨q1_0, rfl⟩
theorem c2 : dropTo 0 (mcode 2) = k2_0 ∧ k2_0 = (0, 3, 1, []) :: (1, 37, 68, [0, 32, 41, 50, 59]) :: k2_32 ∧ dropTo 32 (mcode 2) = k2_32 ∧ k2_32 = (32, 5, 0, []) :: (33, 3, 2, []) :: (34, 49, 4, [1, 0]) :: (37, 6, 3, []) :: (38, 36, 70, []) :: k2_41 ∧ dropTo 41 (mcode 2) = k2_41 ∧ k2_41 = (41, 5, 0, []) :: (42, 3, 2, []) :: (43, 49, 5, [1, 0]) :: (46, 6, 3, []) :: (47, 36, 70, []) :: k2_50 ∧ dropTo 50 (mcode 2) = k2_50 ∧ k2_50 = (50, 5, 0, []) :: (51, 3, 2, []) :: (52, 49, 6, [1, 0]) :: (55, 6, 3, []) :: (56, 36, 70, []) :: k2_59 ∧ dropTo 59 (mcode 2) = k2_59 ∧ k2_59 = (59, 5, 0, []) :: (60, 3, 2, []) :: (61, 49, 7, [1, 0]) :: (64, 6, 3, []) :: (65, 36, 70, []) :: k2_68 ∧ dropTo 68 (mcode 2) = k2_68 ∧ k2_68 = (68, 0, 0, []) :: (69, 52, 0, []) :: k2_70 ∧ dropTo 70 (mcode 2) = k2_70 ∧ k2_70 = (70, 5, 0, []) :: (71, 39, 0, [5]) :: (74, 60, 82, []) :: (77, 0, (-15), []) :: (79, 36, 83, []) :: k2_82 ∧ dropTo 82 (mcode 2) = k2_82 ∧ k2_82 = (82, 3, 3, []) :: k2_83 ∧ dropTo 83 (mcode 2) = k2_83 ∧ k2_83 = (83, 52, 0, []) :: [] := ⟨q2_0, rfl, q2_32, rfl, q2_41, rfl, q2_50, rfl, q2_59, rfl, q2_68, rfl, q2_70, rfl, q2_82, rfl, q2_83, rfl⟩
theorem c3 : dropTo 0 (mcode 3) = k3_0 ∧ k3_0 = (0, 5, 0, []) :: (1, 39, 0, [5]) :: (4, 61, 36, []) :: (7, 5, 0, []) :: (8, 39, 0, [4]) :: (11, 0, 30, []) :: (13, 73, 36, []) :: (16, 5, 0, []) :: (17, 39, 0, [3]) :: (20, 5, 0, []) :: (21, 39, 0, [4]) :: (24, 3, 1, []) :: (25, 42, 0, []) :: (26, 5, 0, []) :: (27, 32, 0, []) :: (28, 39, 0, [4]) :: (31, 0, 1, []) :: (32, 10, 0, []) :: (33, 40, 0, [4]) :: k3_36 ∧ dropTo 36 (mcode 3) = k3_36 ∧ k3_36 = (36, 54, 0, []) :: [] := ⟨q3_0, rfl, q3_36, rfl⟩
theorem c4 : dropTo 0 (mcode 4) = k4_0 ∧ k4_0 = (0, 5, 0, []) :: (1, 39, 0, [0]) :: (4, 37, 106, [2, 32, 53, 82]) :: k4_32 ∧ dropTo 32 (mcode 4) = k4_32 ∧ k4_32 = (32, 5, 0, []) :: (33, 0, 30, []) :: (35, 49, 3, [1, 0]) :: (38, 5, 0, []) :: (39, 0, 10, []) :: (41, 49, 3, [1, 0]) :: (44, 3, 1, []) :: (45, 5, 0, []) :: (46, 39, 0, [1]) :: (49, 10, 0, []) :: (50, 0, 3, []) :: (51, 12, 0, []) :: (52, 52, 0, []) :: k4_53 ∧ dropTo 53 (mcode 4) = k4_53 ∧ k4_53 = (53, 5, 0, []) :: (54, 0, 40, []) :: (56, 49, 3, [1, 0]) :: (59, 5, 0, []) :: (60, 0, 30, []) :: (62, 49, 3, [1, 0]) :: (65, 5, 0, []) :: (66, 0, 10, []) :: (68, 49, 3, [1, 0]) :: (71, 0, 0, []) :: (72, 3, 1, []) :: (73, 5, 0, []) :: (74, 39, 0, [1]) :: (77, 10, 0, []) :: (78, 0, 3, []) :: (79, 12, 0, []) :: (80, 11, 0, []) :: (81, 52, 0, []) :: k4_82 ∧ dropTo 82 (mcode 4) = k4_82 ∧ k4_82 = (82, 5, 0, []) :: (83, 0, 51, []) :: (85, 49, 3, [1, 0]) :: (88, 5, 0, []) :: (89, 0, 10, []) :: (91, 49, 3, [1, 0]) :: (94, 3, 1, []) :: (95, 5, 0, []) :: (96, 39, 0, [1]) :: (99, 10, 0, []) :: (100, 5, 0, []) :: (101, 39, 0, [1]) :: (104, 11, 0, []) :: (105, 52, 0, []) :: k4_106 ∧ dropTo 106 (mcode 4) = k4_106 ∧ k4_106 = (106, 5, 0, []) :: (107, 0, 10, []) :: (109, 49, 3, [1, 0]) :: (112, 3, 1, []) :: (113, 5, 0, []) :: (114, 39, 0, [1]) :: (117, 10, 0, []) :: (118, 52, 0, []) :: [] := ⟨q4_0, rfl, q4_32, rfl, q4_53, rfl, q4_82, rfl, q4_106, rfl⟩
theorem c5 : dropTo 0 (mcode 5) = k5_0 ∧ k5_0 = (0, 5, 0, []) :: (1, 39, 0, [0]) :: (4, 37, 90, [1, 36, 90, 61, 36]) :: k5_36 ∧ dropTo 36 (mcode 5) = k5_36 ∧ k5_36 = (36, 5, 0, []) :: (37, 0, 20, []) :: (39, 49, 3, [1, 0]) :: (42, 5, 0, []) :: (43, 0, 11, []) :: (45, 49, 3, [1, 0]) :: (48, 5, 0, []) :: (49, 3, 1, []) :: (50, 49, 4, [1, 0]) :: (53, 0, 2, []) :: (54, 12, 0, []) :: (55, 5, 0, []) :: (56, 39, 0, [2]) :: (59, 11, 0, []) :: (60, 52, 0, []) :: k5_61 ∧ dropTo 61 (mcode 5) = k5_61 ∧ k5_61 = (61, 5, 0, []) :: (62, 0, 41, []) :: (64, 49, 3, [1, 0]) :: (67, 5, 0, []) :: (68, 0, 11, []) :: (70, 49, 3, [1, 0]) :: (73, 5, 0, []) :: (74, 3, 1, []) :: (75, 49, 4, [1, 0]) :: (78, 0, 2, []) :: (79, 12, 0, []) :: (80, 5, 0, []) :: (81, 5, 0, []) :: (82, 39, 0, [1]) :: (85, 49, 4, [1, 0]) :: (88, 10, 0, []) :: (89, 52, 0, []) :: k5_90 ∧ dropTo 90 (mcode 5) = k5_90 ∧ k5_90 = (90, 5, 0, []) :: (91, 0, 11, []) :: (93, 49, 3, [1, 0]) :: (96, 5, 0, []) :: (97, 3, 1, []) :: (98, 49, 4, [1, 0]) :: (101, 0, 2, []) :: (102, 12, 0, []) :: (103, 52, 0, []) :: [] := ⟨q5_0, rfl, q5_36, rfl, q5_61, rfl, q5_90, rfl⟩
theorem c6 : dropTo 0 (mcode 6) = k6_0 ∧ k6_0 = (0, 5, 0, []) :: (1, 39, 0, [0]) :: (4, 38, 81, [4, 32, 5, 54]) :: k6_32 ∧ dropTo 32 (mcode 6) = k6_32 ∧ k6_32 = (32, 5, 0, []) :: (33, 0, 50, []) :: (35, 49, 3, [1, 0]) :: (38, 5, 0, []) :: (39, 0, 12, []) :: (41, 49, 3, [1, 0]) :: (44, 5, 0, []) :: (45, 3, 1, []) :: (46, 0, 2, []) :: (47, 10, 0, []) :: (48, 49, 8, [1, 0]) :: (51, 0, 1, []) :: (52, 17, 0, []) :: (53, 52, 0, []) :: k6_54 ∧ dropTo 54 (mcode 6) = k6_54 ∧ k6_54 = (54, 5, 0, []) :: (55, 0, 61, []) :: (57, 49, 3, [1, 0]) :: (60, 5, 0, []) :: (61, 0, 12, []) :: (63, 49, 3, [1, 0]) :: (66, 5, 0, []) :: (67, 3, 1, []) :: (68, 49, 8, [1, 0]) :: (71, 5, 0, []) :: (72, 5, 0, []) :: (73, 39, 0, [2]) :: (76, 49, 4, [1, 0]) :: (79, 10, 0, []) :: (80, 52, 0, []) :: k6_81 ∧ dropTo 81 (mcode 6) = k6_81 ∧ k6_81 = (81, 5, 0, []) :: (82, 0, 12, []) :: (84, 49, 3, [1, 0]) :: (87, 5, 0, []) :: (88, 3, 1, []) :: (89, 49, 8, [1, 0]) :: (92, 52, 0, []) :: [] := ⟨q6_0, rfl, q6_32, rfl, q6_54, rfl, q6_81, rfl⟩
theorem c7 : dropTo 0 (mcode 7) = k7_0 ∧ k7_0 = (0, 5, 0, []) :: (1, 39, 0, [0]) :: (4, 37, 93, [2, 36, 36, 93, 68]) :: k7_36 ∧ dropTo 36 (mcode 7) = k7_36 ∧ k7_36 = (36, 5, 0, []) :: (37, 0, 31, []) :: (39, 49, 3, [1, 0]) :: (42, 5, 0, []) :: (43, 0, 13, []) :: (45, 49, 3, [1, 0]) :: (48, 5, 0, []) :: (49, 3, 1, []) :: (50, 49, 5, [1, 0]) :: (53, 5, 0, []) :: (54, 39, 0, [2]) :: (57, 17, 0, []) :: (58, 5, 0, []) :: (59, 5, 0, []) :: (60, 39, 0, [1]) :: (63, 49, 6, [1, 0]) :: (66, 10, 0, []) :: (67, 52, 0, []) :: k7_68 ∧ dropTo 68 (mcode 7) = k7_68 ∧ k7_68 = (68, 5, 0, []) :: (69, 0, 60, []) :: (71, 49, 3, [1, 0]) :: (74, 5, 0, []) :: (75, 0, 13, []) :: (77, 49, 3, [1, 0]) :: (80, 5, 0, []) :: (81, 3, 1, []) :: (82, 49, 5, [1, 0]) :: (85, 5, 0, []) :: (86, 39, 0, [2]) :: (89, 17, 0, []) :: (90, 0, 2, []) :: (91, 12, 0, []) :: (92, 52, 0, []) :: k7_93 ∧ dropTo 93 (mcode 7) = k7_93 ∧ k7_93 = (93, 5, 0, []) :: (94, 0, 13, []) :: (96, 49, 3, [1, 0]) :: (99, 5, 0, []) :: (100, 3, 1, []) :: (101, 49, 5, [1, 0]) :: (104, 5, 0, []) :: (105, 39, 0, [2]) :: (108, 17, 0, []) :: (109, 52, 0, []) :: [] := ⟨q7_0, rfl, q7_36, rfl, q7_68, rfl, q7_93, rfl⟩
theorem c8 : dropTo 0 (mcode 8) = k8_0 ∧ k8_0 = (0, 5, 0, []) :: (1, 39, 0, [2]) :: (4, 5, 0, []) :: (5, 39, 0, [1]) :: (8, 71, 18, []) :: (11, 5, 0, []) :: (12, 0, 1, []) :: (13, 40, 0, [5]) :: (16, 0, 0, []) :: (17, 52, 0, []) :: k8_18 ∧ dropTo 18 (mcode 8) = k8_18 ∧ k8_18 = (18, 3, 1, []) :: (19, 5, 0, []) :: (20, 39, 0, [2]) :: (23, 5, 0, []) :: (24, 39, 0, [1]) :: (27, 11, 0, []) :: (28, 13, 0, []) :: (29, 52, 0, []) :: [] := ⟨q8_0, rfl, q8_18, rfl⟩
theorem c9 : dropTo 0 (mcode 9) = k9_0 ∧ k9_0 = (0, 3, 0, []) :: (1, 38, 41, [4, 28, 5, 39]) :: k9_28 ∧ dropTo 28 (mcode 9) = k9_28 ∧ k9_28 = (28, 3, 1, []) :: (29, 0, 5, []) :: (30, 72, 37, []) :: (33, 0, 2, []) :: (34, 36, 38, []) :: k9_37 ∧ dropTo 37 (mcode 9) = k9_37 ∧ k9_37 = (37, 0, 1, []) :: k9_38 ∧ dropTo 38 (mcode 9) = k9_38 ∧ k9_38 = (38, 52, 0, []) :: k9_39 ∧ dropTo 39 (mcode 9) = k9_39 ∧ k9_39 = (39, 0, 0, []) :: (40, 52, 0, []) :: k9_41 ∧ dropTo 41 (mcode 9) = k9_41 ∧ k9_41 = (41, 0, 1, []) :: (42, 52, 0, []) :: [] := ⟨q9_0, rfl, q9_28, rfl, q9_37, rfl, q9_38, rfl, q9_39, rfl, q9_41, rfl⟩
theorem c10 : dropTo 0 (mcode 10) = k10_0 ∧ k10_0 = (0, 3, 0, []) :: (1, 37, 50, [1, 36, 42, 44, 39, 46]) :: k10_36 ∧ dropTo 36 (mcode 10) = k10_36 ∧ k10_36 = (36, 0, 7, []) :: (38, 52, 0, []) :: k10_39 ∧ dropTo 39 (mcode 10) = k10_39 ∧ k10_39 = (39, 0, 6, []) :: (41, 52, 0, []) :: k10_42 ∧ dropTo 42 (mcode 10) = k10_42 ∧ k10_42 = (42, 0, 4, []) :: (43, 52, 0, []) :: k10_44 ∧ dropTo 44 (mcode 10) = k10_44 ∧ k10_44 = (44, 0, 0, []) :: (45, 52, 0, []) :: k10_46 ∧ dropTo 46 (mcode 10) = k10_46 ∧ k10_46 = (46, 0, 5, []) :: (47, 3, 1, []) :: (48, 10, 0, []) :: (49, 52, 0, []) :: k10_50 ∧ dropTo 50 (mcode 10) = k10_50 ∧ k10_50 = (50, 0, 5, []) :: (51, 52, 0, []) :: [] := ⟨q10_0, rfl, q10_36, rfl, q10_39, rfl, q10_42, rfl, q10_44, rfl, q10_46, rfl, q10_50, rfl⟩
theorem c11 : dropTo 0 (mcode 11) = k11_0 ∧ k11_0 = (0, 3, 0, []) :: (1, 37, 57, [2, 32, 32, 57, 43]) :: k11_32 ∧ dropTo 32 (mcode 11) = k11_32 ∧ k11_32 = (32, 3, 1, []) :: (33, 3, 2, []) :: (34, 73, 41, []) :: (37, 0, 2, []) :: (38, 36, 42, []) :: k11_41 ∧ dropTo 41 (mcode 11) = k11_41 ∧ k11_41 = (41, 0, 1, []) :: k11_42 ∧ dropTo 42 (mcode 11) = k11_42 ∧ k11_42 = (42, 52, 0, []) :: k11_43 ∧ dropTo 43 (mcode 11) = k11_43 ∧ k11_43 = (43, 3, 2, []) :: (44, 3, 1, []) :: (45, 10, 0, []) :: (46, 0, 4, []) :: (47, 14, 0, []) :: (48, 61, 55, []) :: (51, 0, 0, []) :: (52, 36, 56, []) :: k11_55 ∧ dropTo 55 (mcode 11) = k11_55 ∧ k11_55 = (55, 0, 1, []) :: k11_56 ∧ dropTo 56 (mcode 11) = k11_56 ∧ k11_56 = (56, 52, 0, []) :: k11_57 ∧ dropTo 57 (mcode 11) = k11_57 ∧ k11_57 = (57, 0, 1, []) :: (58, 52, 0, []) :: [] := ⟨q11_0, rfl, q11_32, rfl, q11_41, rfl, q11_42, rfl, q11_43, rfl, q11_55, rfl, q11_56, rfl, q11_57, rfl⟩
theorem c12 : dropTo 0 (mcode 12) = k12_0 ∧ k12_0 = (0, 3, 0, []) :: (1, 0, 1, []) :: (2, 70, 10, []) :: (5, 3, 0, []) :: (6, 0, 4, []) :: (7, 71, 14, []) :: k12_10 ∧ dropTo 10 (mcode 12) = k12_10 ∧ k12_10 = (10, 0, 1, []) :: (11, 36, 15, []) :: k12_14 ∧ dropTo 14 (mcode 12) = k12_14 ∧ k12_14 = (14, 0, 0, []) :: k12_15 ∧ dropTo 15 (mcode 12) = k12_15 ∧ k12_15 = (15, 53, 0, []) :: [] := ⟨q12_0, rfl, q12_10, rfl, q12_14, rfl, q12_15, rfl⟩
theorem c13 : dropTo 0 (mcode 13) = k13_0 ∧ k13_0 = (0, 3, 0, []) :: (1, 6, 2, []) :: (2, 0, 0, []) :: (3, 6, 3, []) :: k13_4 ∧ dropTo 4 (mcode 13) = k13_4 ∧ k13_4 = (4, 3, 3, []) :: (5, 0, 3, []) :: (6, 73, 32, []) :: (9, 3, 2, []) :: (10, 62, 32, []) :: (13, 3, 2, []) :: (14, 3, 1, []) :: (15, 71, 20, []) :: (18, 0, 1, []) :: (19, 53, 0, []) :: k13_20 ∧ dropTo 20 (mcode 13) = k13_20 ∧ k13_20 = (20, 2, 2000, []) :: (23, 3, 2, []) :: (24, 41, 0, []) :: (25, 6, 2, []) :: (26, 9, 3, [1]) :: (29, 36, 4, []) :: k13_32 ∧ dropTo 32 (mcode 13) = k13_32 ∧ k13_32 = (32, 0, 0, []) :: (33, 53, 0, []) :: [] := ⟨q13_0, rfl, q13_4, rfl, q13_20, rfl, q13_32, rfl⟩
theorem c14 : dropTo 0 (mcode 14) = k14_0 ∧ k14_0 = (0, 5, 0, []) :: (1, 3, 1, []) :: (2, 40, 1, [0]) :: (5, 5, 0, []) :: (6, 3, 2, []) :: (7, 40, 1, [1]) :: (10, 0, 0, []) :: (11, 6, 3, []) :: k14_12 ∧ dropTo 12 (mcode 14) = k14_12 ∧ k14_12 = (12, 3, 3, []) :: (13, 0, 40, []) :: (15, 73, 31, []) :: (18, 5, 0, []) :: (19, 39, 1, [2]) :: (22, 3, 3, []) :: (23, 0, 0, []) :: (24, 42, 0, []) :: (25, 9, 3, [1]) :: (28, 36, 12, []) :: k14_31 ∧ dropTo 31 (mcode 14) = k14_31 ∧ k14_31 = (31, 54, 0, []) :: [] := ⟨q14_0, rfl, q14_12, rfl, q14_31, rfl⟩
theorem c15 : dropTo 0 (mcode 15) = k15_0 ∧ k15_0 = (0, 5, 0, []) :: (1, 39, 1, [0]) :: (4, 61, 10, []) :: (7, 3, 1, []) :: (8, 30, 0, []) :: (9, 52, 0, []) :: k15_10 ∧ dropTo 10 (mcode 15) = k15_10 ∧ k15_10 = (10, 5, 0, []) :: (11, 39, 1, [0]) :: (14, 0, 1, []) :: (15, 71, 23, []) :: (18, 3, 1, []) :: (19, 31, 0, []) :: (20, 36, 24, []) :: k15_23 ∧ dropTo 23 (mcode 15) = k15_23 ∧ k15_23 = (23, 3, 1, []) :: k15_24 ∧ dropTo 24 (mcode 15) = k15_24 ∧ k15_24 = (24, 52, 0, []) :: [] := ⟨q15_0, rfl, q15_10, rfl, q15_23, rfl, q15_24, rfl⟩
theorem c16 : dropTo 0 (mcode 16) = k16_0 ∧ k16_0 = (0, 5, 0, []) :: (1, 0, 2, []) :: (2, 40, 2, [0]) :: (5, 54, 0, []) :: [] := ⟨q16_0, rfl⟩
theorem c17 : dropTo 0 (mcode 17) = k17_0 ∧ k17_0 = (0, 5, 0, []) :: (1, 0, 0, []) :: (2, 40, 2, [0]) :: (5, 5, 0, []) :: (6, 3, 1, []) :: (7, 40, 2, [1]) :: (10, 54, 0, []) :: [] := ⟨q17_0, rfl⟩
theorem c18 : dropTo 0 (mcode 18) = k18_0 ∧ k18_0 = (0, 5, 0, []) :: (1, 5, 1, []) :: (2, 39, 1, [0]) :: (5, 0, (-1), []) :: (6, 71, 13, []) :: (9, 0, 2, []) :: (10, 36, 14, []) :: k18_13 ∧ dropTo 13 (mcode 18) = k18_13 ∧ k18_13 = (13, 0, 1, []) :: k18_14 ∧ dropTo 14 (mcode 18) = k18_14 ∧ k18_14 = (14, 40, 2, [0]) :: (17, 5, 0, []) :: (18, 5, 1, []) :: (19, 39, 1, [0]) :: (22, 40, 2, [2]) :: (25, 5, 0, []) :: (26, 5, 1, []) :: (27, 39, 1, [1]) :: (30, 40, 2, [3]) :: (33, 54, 0, []) :: [] := ⟨q18_0, rfl, q18_13, rfl, q18_14, rfl⟩
theorem c19 : dropTo 0 (mcode 19) = k19_0 ∧ k19_0 = (0, 5, 0, []) :: (1, 0, 0, []) :: (2, 40, 3, [8]) :: (5, 0, 0, []) :: (6, 6, 2, []) :: k19_7 ∧ dropTo 7 (mcode 19) = k19_7 ∧ k19_7 = (7, 3, 2, []) :: (8, 5, 1, []) :: (9, 39, 5, [0]) :: (12, 73, 96, []) :: (15, 5, 0, []) :: (16, 39, 3, [1]) :: (19, 3, 2, []) :: (20, 5, 1, []) :: (21, 39, 5, [1]) :: (24, 3, 2, []) :: (25, 41, 0, []) :: (26, 5, 1, []) :: (27, 39, 5, [2]) :: (30, 3, 2, []) :: (31, 41, 0, []) :: (32, 48, 10, [2]) :: (35, 42, 0, []) :: (36, 5, 0, []) :: (37, 39, 3, [2]) :: (40, 3, 2, []) :: (41, 5, 1, []) :: (42, 39, 5, [1]) :: (45, 3, 2, []) :: (46, 41, 0, []) :: (47, 5, 1, []) :: (48, 39, 5, [2]) :: (51, 3, 2, []) :: (52, 41, 0, []) :: (53, 48, 9, [2]) :: (56, 42, 0, []) :: (57, 5, 0, []) :: (58, 39, 3, [3]) :: (61, 3, 2, []) :: (62, 0, 0, []) :: (63, 42, 0, []) :: (64, 5, 0, []) :: (65, 3, 2, []) :: (66, 49, 20, [1, 3]) :: (69, 5, 1, []) :: (70, 39, 5, [7]) :: (73, 3, 2, []) :: (74, 41, 0, []) :: (75, 0, (-9), []) :: (77, 71, 90, []) :: (80, 5, 0, []) :: (81, 32, 0, []) :: (82, 39, 3, [8]) :: (85, 0, 1, []) :: (86, 10, 0, []) :: (87, 40, 3, [8]) :: k19_90 ∧ dropTo 90 (mcode 19) = k19_90 ∧ k19_90 = (90, 9, 2, [1]) :: (93, 36, 7, []) :: k19_96 ∧ dropTo 96 (mcode 19) = k19_96 ∧ k19_96 = (96, 0, 0, []) :: (97, 6, 2, []) :: k19_98 ∧ dropTo 98 (mcode 19) = k19_98 ∧ k19_98 = (98, 3, 2, []) :: (99, 0, 9, []) :: (101, 73, 117, []) :: (104, 5, 0, []) :: (105, 39, 3, [6]) :: (108, 3, 2, []) :: (109, 0, 0, []) :: (110, 42, 0, []) :: (111, 9, 2, [1]) :: (114, 36, 98, []) :: k19_117 ∧ dropTo 117 (mcode 19) = k19_117 ∧ k19_117 = (117, 54, 0, []) :: [] := ⟨q19_0, rfl, q19_7, rfl, q19_90, rfl, q19_96, rfl, q19_98, rfl, q19_117, rfl⟩
theorem c20 : dropTo 0 (mcode 20) = k20_0 ∧ k20_0 = (0, 3, 1, []) :: (1, 6, 2, []) :: k20_2 ∧ dropTo 2 (mcode 20) = k20_2 ∧ k20_2 = (2, 3, 2, []) :: (3, 65, 48, []) :: (6, 5, 0, []) :: (7, 39, 3, [1]) :: (10, 5, 0, []) :: (11, 39, 3, [0]) :: (14, 3, 2, []) :: (15, 0, 1, []) :: (16, 11, 0, []) :: (17, 41, 0, []) :: (18, 41, 0, []) :: (19, 5, 0, []) :: (20, 39, 3, [1]) :: (23, 3, 1, []) :: (24, 41, 0, []) :: (25, 75, 48, []) :: (28, 5, 0, []) :: (29, 39, 3, [0]) :: (32, 3, 2, []) :: (33, 5, 0, []) :: (34, 39, 3, [0]) :: (37, 3, 2, []) :: (38, 0, 1, []) :: (39, 11, 0, []) :: (40, 41, 0, []) :: (41, 42, 0, []) :: (42, 9, 2, [(-1)]) :: (45, 36, 2, []) :: k20_48 ∧ dropTo 48 (mcode 20) = k20_48 ∧ k20_48 = (48, 5, 0, []) :: (49, 39, 3, [0]) :: (52, 3, 2, []) :: (53, 3, 1, []) :: (54, 42, 0, []) :: (55, 54, 0, []) :: [] := ⟨q20_0, rfl, q20_2, rfl, q20_48, rfl⟩
theorem c21 : dropTo 0 (mcode 21) = k21_0 ∧ k21_0 = (0, 5, 0, []) :: (1, 5, 1, []) :: (2, 49, 19, [1, 3]) :: (5, 5, 1, []) :: (6, 39, 5, [13]) :: (9, 6, 3, []) :: k21_10 ∧ dropTo 10 (mcode 21) = k21_10 ∧ k21_10 = (10, 3, 3, []) :: (11, 3, 2, []) :: (12, 73, 33, []) :: (15, 5, 0, []) :: (16, 39, 3, [8]) :: (19, 65, 33, []) :: (22, 5, 0, []) :: (23, 5, 1, []) :: (24, 49, 22, [1, 3]) :: (27, 9, 3, [1]) :: (30, 36, 10, []) :: k21_33 ∧ dropTo 33 (mcode 21) = k21_33 ∧ k21_33 = (33, 54, 0, []) :: [] := ⟨q21_0, rfl, q21_10, rfl, q21_33, rfl⟩
theorem c22 : dropTo 0 (mcode 22) = k22_0 ∧ k22_0 = (0, 5, 0, []) :: (1, 5, 1, []) :: (2, 5, 1, []) :: (3, 39, 5, [13]) :: (6, 49, 48, [1, 5]) :: (9, 40, 3, [7]) :: (12, 0, 0, []) :: (13, 6, 2, []) :: k22_14 ∧ dropTo 14 (mcode 22) = k22_14 ∧ k22_14 = (14, 3, 2, []) :: (15, 0, 9, []) :: (17, 73, 40, []) :: (20, 5, 0, []) :: (21, 39, 3, [4]) :: (24, 3, 2, []) :: (25, 0, 0, []) :: (26, 42, 0, []) :: (27, 5, 0, []) :: (28, 39, 3, [5]) :: (31, 3, 2, []) :: (32, 0, 0, []) :: (33, 42, 0, []) :: (34, 9, 2, [1]) :: (37, 36, 14, []) :: k22_40 ∧ dropTo 40 (mcode 22) = k22_40 ∧ k22_40 = (40, 0, 0, []) :: (41, 6, 2, []) :: k22_42 ∧ dropTo 42 (mcode 22) = k22_42 ∧ k22_42 = (42, 3, 2, []) :: (43, 5, 1, []) :: (44, 39, 5, [0]) :: (47, 73, 93, []) :: (50, 5, 0, []) :: (51, 39, 3, [0]) :: (54, 3, 2, []) :: (55, 41, 0, []) :: (56, 6, 3, []) :: (57, 5, 1, []) :: (58, 39, 5, [7]) :: (61, 3, 3, []) :: (62, 41, 0, []) :: (63, 0, (-9), []) :: (65, 71, 87, []) :: (68, 5, 1, []) :: (69, 39, 5, [5]) :: (72, 3, 3, []) :: (73, 41, 0, []) :: (74, 5, 1, []) :: (75, 39, 5, [13]) :: (78, 74, 87, []) :: (81, 5, 0, []) :: (82, 5, 1, []) :: (83, 3, 3, []) :: (84, 49, 23, [2, 3]) :: k22_87 ∧ dropTo 87 (mcode 22) = k22_87 ∧ k22_87 = (87, 9, 2, [1]) :: (90, 36, 42, []) :: k22_93 ∧ dropTo 93 (mcode 22) = k22_93 ∧ k22_93 = (93, 5, 1, []) :: (94, 32, 0, []) :: (95, 39, 5, [13]) :: (98, 0, 1, []) :: (99, 10, 0, []) :: (100, 40, 5, [13]) :: (103, 54, 0, []) :: [] := ⟨q22_0, rfl, q22_14, rfl, q22_40, rfl, q22_42, rfl, q22_87, rfl, q22_93, rfl⟩
theorem c23 : dropTo 0 (mcode 23) = k23_0 ∧ k23_0 = (0, 5, 1, []) :: (1, 39, 5, [3]) :: (4, 3, 2, []) :: (5, 41, 0, []) :: (6, 5, 1, []) :: (7, 39, 5, [4]) :: (10, 3, 2, []) :: (11, 41, 0, []) :: (12, 70, 95, []) :: (15, 5, 1, []) :: (16, 39, 5, [1]) :: (19, 3, 2, []) :: (20, 41, 0, []) :: (21, 5, 1, []) :: (22, 39, 5, [2]) :: (25, 3, 2, []) :: (26, 41, 0, []) :: (27, 5, 1, []) :: (28, 39, 5, [13]) :: (31, 48, 11, [3]) :: (34, 6, 3, []) :: (35, 0, 0, []) :: (36, 6, 4, []) :: k23_38 ∧ dropTo 38 (mcode 23) = k23_38 ∧ k23_38 = (38, 3, 4, []) :: (40, 3, 3, []) :: (41, 73, 80, []) :: (44, 5, 1, []) :: (45, 39, 5, [3]) :: (48, 3, 2, []) :: (49, 41, 0, []) :: (50, 5, 1, []) :: (51, 39, 5, [4]) :: (54, 3, 2, []) :: (55, 41, 0, []) :: (56, 70, 80, []) :: (59, 5, 0, []) :: (60, 5, 1, []) :: (61, 3, 2, []) :: (62, 49, 24, [2, 3]) :: (65, 60, 80, []) :: (68, 5, 0, []) :: (69, 5, 1, []) :: (70, 3, 2, []) :: (71, 49, 25, [2, 3]) :: (74, 9, 4, [1]) :: (77, 36, 38, []) :: k23_80 ∧ dropTo 80 (mcode 23) = k23_80 ∧ k23_80 = (80, 3, 4, []) :: (82, 61, 95, []) :: (85, 5, 0, []) :: (86, 39, 3, [3]) :: (89, 3, 2, []) :: (90, 33, 0, []) :: (91, 41, 0, []) :: (92, 0, 1, []) :: (93, 10, 0, []) :: (94, 42, 0, []) :: k23_95 ∧ dropTo 95 (mcode 23) = k23_95 ∧ k23_95 = (95, 5, 1, []) :: (96, 39, 5, [3]) :: (99, 3, 2, []) :: (100, 41, 0, []) :: (101, 5, 1, []) :: (102, 39, 5, [4]) :: (105, 3, 2, []) :: (106, 41, 0, []) :: (107, 71, 130, []) :: (110, 5, 1, []) :: (111, 39, 5, [7]) :: (114, 3, 2, []) :: (115, 5, 1, []) :: (116, 39, 5, [13]) :: (119, 42, 0, []) :: (120, 5, 0, []) :: (121, 32, 0, []) :: (122, 39, 3, [8]) :: (125, 0, 1, []) :: (126, 11, 0, []) :: (127, 40, 3, [8]) :: k23_130 ∧ dropTo 130 (mcode 23) = k23_130 ∧ k23_130 = (130, 54, 0, []) :: [] := ⟨q23_0, rfl, q23_38, rfl, q23_80, rfl, q23_95, rfl, q23_130, rfl⟩
theorem c24 : dropTo 0 (mcode 24) = k24_0 ∧ k24_0 = (0, 5, 1, []) :: (1, 39, 5, [4]) :: (4, 3, 2, []) :: (5, 41, 0, []) :: (6, 5, 1, []) :: (7, 39, 5, [3]) :: (10, 3, 2, []) :: (11, 41, 0, []) :: (12, 75, 19, []) :: (15, 0, 1, []) :: (16, 36, 20, []) :: k24_19 ∧ dropTo 19 (mcode 24) = k24_19 ∧ k24_19 = (19, 0, 0, []) :: k24_20 ∧ dropTo 20 (mcode 24) = k24_20 ∧ k24_20 = (20, 6, 3, []) :: (21, 3, 3, []) :: (22, 60, 34, []) :: (25, 5, 1, []) :: (26, 39, 5, [3]) :: (29, 3, 2, []) :: (30, 41, 0, []) :: (31, 36, 42, []) :: k24_34 ∧ dropTo 34 (mcode 24) = k24_34 ∧ k24_34 = (34, 5, 1, []) :: (35, 39, 5, [3]) :: (38, 3, 2, []) :: (39, 41, 0, []) :: (40, 0, 1, []) :: (41, 11, 0, []) :: k24_42 ∧ dropTo 42 (mcode 24) = k24_42 ∧ k24_42 = (42, 6, 4, []) :: (44, 3, 3, []) :: (45, 60, 55, []) :: (48, 5, 0, []) :: (49, 39, 3, [4]) :: (52, 36, 59, []) :: k24_55 ∧ dropTo 55 (mcode 24) = k24_55 ∧ k24_55 = (55, 5, 0, []) :: (56, 39, 3, [5]) :: k24_59 ∧ dropTo 59 (mcode 24) = k24_59 ∧ k24_59 = (59, 8, 5, []) :: (61, 3, 4, []) :: (63, 62, 105, []) :: (66, 3, 4, []) :: (68, 0, 9, []) :: (70, 73, 105, []) :: (73, 5, 0, []) :: (74, 39, 3, [7]) :: (77, 3, 4, []) :: (79, 19, 0, []) :: (80, 0, 1, []) :: (81, 15, 0, []) :: (82, 0, 1, []) :: (83, 70, 105, []) :: (86, 5, 5, []) :: (88, 3, 4, []) :: (90, 41, 0, []) :: (91, 5, 0, []) :: (92, 39, 3, [2]) :: (95, 3, 2, []) :: (96, 41, 0, []) :: (97, 10, 0, []) :: (98, 5, 1, []) :: (99, 39, 5, [12]) :: (102, 75, 107, []) :: k24_105 ∧ dropTo 105 (mcode 24) = k24_105 ∧ k24_105 = (105, 0, 0, []) :: (106, 53, 0, []) :: k24_107 ∧ dropTo 107 (mcode 24) = k24_107 ∧ k24_107 = (107, 5, 5, []) :: (109, 3, 4, []) :: (111, 33, 0, []) :: (112, 41, 0, []) :: (113, 5, 0, []) :: (114, 39, 3, [2]) :: (117, 3, 2, []) :: (118, 41, 0, []) :: (119, 10, 0, []) :: (120, 42, 0, []) :: (121, 5, 0, []) :: (122, 39, 3, [6]) :: (125, 3, 4, []) :: (127, 5, 0, []) :: (128, 39, 3, [6]) :: (131, 3, 4, []) :: (133, 41, 0, []) :: (134, 5, 5, []) :: (136, 3, 4, []) :: (138, 41, 0, []) :: (139, 55, 0, []) :: (142, 42, 0, []) :: (143, 0, 1, []) :: (144, 53, 0, []) :: [] := ⟨q24_0, rfl, q24_19, rfl, q24_20, rfl, q24_34, rfl, q24_42, rfl, q24_55, rfl, q24_59, rfl, q24_105, rfl, q24_107, rfl⟩
theorem c25 : dropTo 0 (mcode 25) = k25_0 ∧ k25_0 = (0, 5, 1, []) :: (1, 39, 5, [1]) :: (4, 3, 2, []) :: (5, 41, 0, []) :: (6, 48, 12, [1]) :: (9, 60, 29, []) :: (12, 5, 1, []) :: (13, 39, 5, [6]) :: (16, 3, 2, []) :: (17, 41, 0, []) :: (18, 61, 29, []) :: (21, 5, 1, []) :: (22, 39, 5, [6]) :: (25, 3, 2, []) :: (26, 0, 1, []) :: (27, 42, 0, []) :: (28, 54, 0, []) :: k25_29 ∧ dropTo 29 (mcode 25) = k25_29 ∧ k25_29 = (29, 5, 1, []) :: (30, 39, 5, [6]) :: (33, 3, 2, []) :: (34, 0, 0, []) :: (35, 42, 0, []) :: (36, 5, 1, []) :: (37, 39, 5, [3]) :: (40, 3, 2, []) :: (41, 33, 0, []) :: (42, 41, 0, []) :: (43, 5, 1, []) :: (44, 39, 5, [4]) :: (47, 3, 2, []) :: (48, 41, 0, []) :: (49, 5, 1, []) :: (50, 39, 5, [3]) :: (53, 3, 2, []) :: (54, 41, 0, []) :: (55, 75, 62, []) :: (58, 0, 1, []) :: (59, 36, 63, []) :: k25_62 ∧ dropTo 62 (mcode 25) = k25_62 ∧ k25_62 = (62, 0, (-1), []) :: k25_63 ∧ dropTo 63 (mcode 25) = k25_63 ∧ k25_63 = (63, 10, 0, []) :: (64, 42, 0, []) :: (65, 54, 0, []) :: [] := ⟨q25_0, rfl, q25_29, rfl, q25_62, rfl, q25_63, rfl⟩
theorem c26 : dropTo 0 (mcode 26) = k26_0 ∧ k26_0 = (0, 5, 0, []) :: (1, 39, 4, [1]) :: (4, 0, 240, []) :: (7, 73, 30, []) :: (10, 5, 0, []) :: (11, 39, 4, [0]) :: (14, 5, 0, []) :: (15, 39, 4, [1]) :: (18, 3, 1, []) :: (19, 44, 0, []) :: (20, 5, 0, []) :: (21, 32, 0, []) :: (22, 39, 4, [1]) :: (25, 0, 1, []) :: (26, 10, 0, []) :: (27, 40, 4, [1]) :: k26_30 ∧ dropTo 30 (mcode 26) = k26_30 ∧ k26_30 = (30, 54, 0, []) :: [] := ⟨q26_0, rfl, q26_30, rfl⟩
theorem c27 : dropTo 0 (mcode 27) = k27_0 ∧ k27_0 = (0, 5, 0, []) :: (1, 0, 0, []) :: (2, 40, 4, [1]) :: (5, 54, 0, []) :: [] := ⟨q27_0, rfl⟩
theorem c28 : dropTo 0 (mcode 28) = k28_0 ∧ k28_0 = (0, 5, 1, []) :: (1, 49, 42, [0, 5]) :: (4, 5, 0, []) :: (5, 0, 0, []) :: (6, 40, 4, [2]) :: (9, 5, 0, []) :: (10, 0, (-1), []) :: (11, 40, 4, [4]) :: (14, 0, 0, []) :: (15, 6, 2, []) :: k28_16 ∧ dropTo 16 (mcode 28) = k28_16 ∧ k28_16 = (16, 3, 2, []) :: (17, 0, 240, []) :: (20, 73, 60, []) :: (23, 5, 0, []) :: (24, 39, 4, [4]) :: (27, 0, (-1), []) :: (28, 71, 60, []) :: (31, 5, 0, []) :: (32, 49, 34, [0, 4]) :: (35, 5, 0, []) :: (36, 39, 4, [2]) :: (39, 5, 0, []) :: (40, 39, 4, [1]) :: (43, 72, 49, []) :: (46, 36, 60, []) :: k28_49 ∧ dropTo 49 (mcode 28) = k28_49 ∧ k28_49 = (49, 5, 0, []) :: (50, 5, 1, []) :: (51, 49, 29, [1, 4]) :: (54, 9, 2, [1]) :: (57, 36, 16, []) :: k28_60 ∧ dropTo 60 (mcode 28) = k28_60 ∧ k28_60 = (60, 5, 0, []) :: (61, 39, 4, [4]) :: (64, 52, 0, []) :: [] := ⟨q28_0, rfl, q28_16, rfl, q28_49, rfl, q28_60, rfl⟩
theorem c29 : dropTo 0 (mcode 29) = k29_0 ∧ k29_0 = (0, 5, 0, []) :: (1, 49, 35, [0, 4]) :: (4, 5, 0, []) :: (5, 2, 1000, []) :: (7, 49, 36, [1, 4]) :: (10, 60, 21, []) :: (13, 5, 0, []) :: (14, 5, 1, []) :: (15, 49, 32, [1, 4]) :: (18, 36, 47, []) :: k29_21 ∧ dropTo 21 (mcode 29) = k29_21 ∧ k29_21 = (21, 5, 0, []) :: (22, 2, 1003, []) :: (24, 49, 36, [1, 4]) :: (27, 60, 38, []) :: (30, 5, 0, []) :: (31, 5, 1, []) :: (32, 49, 33, [1, 4]) :: (35, 36, 47, []) :: k29_38 ∧ dropTo 38 (mcode 29) = k29_38 ∧ k29_38 = (38, 5, 0, []) :: (39, 5, 1, []) :: (40, 5, 0, []) :: (41, 49, 30, [0, 4]) :: (44, 49, 31, [2, 4]) :: k29_47 ∧ dropTo 47 (mcode 29) = k29_47 ∧ k29_47 = (47, 54, 0, []) :: [] := ⟨q29_0, rfl, q29_21, rfl, q29_38, rfl, q29_47, rfl⟩
theorem c30 : dropTo 0 (mcode 30) = k30_0 ∧ k30_0 = (0, 5, 0, []) :: (1, 2, 1004, []) :: (3, 49, 36, [1, 4]) :: (6, 60, 11, []) :: (9, 0, 0, []) :: (10, 52, 0, []) :: k30_11 ∧ dropTo 11 (mcode 30) = k30_11 ∧ k30_11 = (11, 5, 0, []) :: (12, 2, 1005, []) :: (14, 49, 36, [1, 4]) :: (17, 60, 22, []) :: (20, 0, 1, []) :: (21, 52, 0, []) :: k30_22 ∧ dropTo 22 (mcode 30) = k30_22 ∧ k30_22 = (22, 5, 0, []) :: (23, 2, 1006, []) :: (25, 49, 36, [1, 4]) :: (28, 60, 33, []) :: (31, 0, 2, []) :: (32, 52, 0, []) :: k30_33 ∧ dropTo 33 (mcode 30) = k30_33 ∧ k30_33 = (33, 5, 0, []) :: (34, 2, 1007, []) :: (36, 49, 36, [1, 4]) :: (39, 60, 44, []) :: (42, 0, 3, []) :: (43, 52, 0, []) :: k30_44 ∧ dropTo 44 (mcode 30) = k30_44 ∧ k30_44 = (44, 5, 0, []) :: (45, 2, 1008, []) :: (47, 49, 36, [1, 4]) :: (50, 60, 55, []) :: (53, 0, 4, []) :: (54, 52, 0, []) :: k30_55 ∧ dropTo 55 (mcode 30) = k30_55 ∧ k30_55 = (55, 5, 0, []) :: (56, 2, 1009, []) :: (58, 49, 36, [1, 4]) :: (61, 60, 68, []) :: (64, 0, 5, []) :: (65, 36, 70, []) :: k30_68 ∧ dropTo 68 (mcode 30) = k30_68 ∧ k30_68 = (68, 0, (-3), []) :: k30_70 ∧ dropTo 70 (mcode 30) = k30_70 ∧ k30_70 = (70, 52, 0, []) :: [] := ⟨q30_0, rfl, q30_11, rfl, q30_22, rfl, q30_33, rfl, q30_44, rfl, q30_55, rfl, q30_68, rfl, q30_70, rfl⟩
theorem c31 : dropTo 0 (mcode 31) = k31_0 ∧ k31_0 = (0, 3, 2, []) :: (1, 0, (-3), []) :: (3, 70, 15, []) :: (6, 5, 1, []) :: (7, 39, 5, [0]) :: (10, 0, 8, []) :: (12, 72, 24, []) :: k31_15 ∧ dropTo 15 (mcode 31) = k31_15 ∧ k31_15 = (15, 5, 0, []) :: (16, 5, 0, []) :: (17, 39, 4, [3]) :: (20, 40, 4, [4]) :: (23, 54, 0, []) :: k31_24 ∧ dropTo 24 (mcode 31) = k31_24 ∧ k31_24 = (24, 5, 0, []) :: (25, 0, 0, []) :: (26, 0, 9, []) :: (28, 49, 38, [2, 4]) :: (31, 6, 3, []) :: (32, 5, 0, []) :: (33, 2, 1010, []) :: (35, 49, 37, [1, 4]) :: (38, 5, 0, []) :: (39, 0, 0, []) :: (40, 0, 9, []) :: (42, 49, 38, [2, 4]) :: (45, 6, 4, []) :: (47, 5, 0, []) :: (48, 2, 1011, []) :: (50, 49, 37, [1, 4]) :: (53, 5, 0, []) :: (54, 0, 0, []) :: (55, 0, 9, []) :: (57, 49, 38, [2, 4]) :: (60, 6, 5, []) :: (62, 0, 0, []) :: (63, 6, 6, []) :: (65, 5, 0, []) :: (66, 49, 39, [0, 4]) :: (69, 61, 87, []) :: (72, 5, 0, []) :: (73, 2, 1001, []) :: (75, 49, 37, [1, 4]) :: (78, 5, 0, []) :: (79, 0, 0, []) :: (80, 0, 99, []) :: (82, 49, 38, [2, 4]) :: (85, 6, 6, []) :: k31_87 ∧ dropTo 87 (mcode 31) = k31_87 ∧ k31_87 = (87, 5, 0, []) :: (88, 49, 40, [0, 4]) :: (91, 5, 0, []) :: (92, 39, 4, [4]) :: (95, 0, (-1), []) :: (96, 71, 111, []) :: (99, 5, 1, []) :: (100, 3, 2, []) :: (101, 3, 3, []) :: (102, 3, 4, []) :: (104, 3, 5, []) :: (106, 3, 6, []) :: (108, 49, 44, [5, 5]) :: k31_111 ∧ dropTo 111 (mcode 31) = k31_111 ∧ k31_111 = (111, 54, 0, []) :: [] := ⟨q31_0, rfl, q31_15, rfl, q31_24, rfl, q31_87, rfl, q31_111, rfl⟩
theorem c32 : dropTo 0 (mcode 32) = k32_0 ∧ k32_0 = (0, 5, 1, []) :: (1, 39, 5, [8]) :: (4, 0, 4, []) :: (5, 72, 17, []) :: (8, 5, 0, []) :: (9, 5, 0, []) :: (10, 39, 4, [3]) :: (13, 40, 4, [4]) :: (16, 54, 0, []) :: k32_17 ∧ dropTo 17 (mcode 32) = k32_17 ∧ k32_17 = (17, 5, 0, []) :: (18, 0, 0, []) :: (19, 0, 8, []) :: (21, 49, 38, [2, 4]) :: (24, 6, 2, []) :: (25, 5, 0, []) :: (26, 2, 1001, []) :: (28, 49, 37, [1, 4]) :: (31, 5, 0, []) :: (32, 0, 0, []) :: (33, 0, 99, []) :: (35, 49, 38, [2, 4]) :: (38, 6, 3, []) :: (39, 5, 0, []) :: (40, 2, 1002, []) :: (42, 49, 37, [1, 4]) :: (45, 5, 0, []) :: (46, 0, 1, []) :: (47, 0, 30, []) :: (49, 49, 38, [2, 4]) :: (52, 6, 4, []) :: (54, 5, 0, []) :: (55, 49, 40, [0, 4]) :: (58, 5, 0, []) :: (59, 39, 4, [4]) :: (62, 0, (-1), []) :: (63, 71, 74, []) :: (66, 5, 1, []) :: (67, 3, 2, []) :: (68, 3, 3, []) :: (69, 3, 4, []) :: (71, 49, 46, [3, 5]) :: k32_74 ∧ dropTo 74 (mcode 32) = k32_74 ∧ k32_74 = (74, 54, 0, []) :: [] := ⟨q32_0, rfl, q32_17, rfl, q32_74, rfl⟩
theorem c33 : dropTo 0 (mcode 33) = k33_0 ∧ k33_0 = (0, 5, 0, []) :: (1, 0, 1, []) :: (2, 0, 9, []) :: (4, 49, 38, [2, 4]) :: (7, 6, 2, []) :: (8, 5, 0, []) :: (9, 49, 40, [0, 4]) :: (12, 5, 0, []) :: (13, 39, 4, [4]) :: (16, 0, (-1), []) :: (17, 71, 25, []) :: (20, 5, 1, []) :: (21, 3, 2, []) :: (22, 40, 5, [12]) :: k33_25 ∧ dropTo 25 (mcode 33) = k33_25 ∧ k33_25 = (25, 54, 0, []) :: [] := ⟨q33_0, rfl, q33_25, rfl⟩
theorem c34 : dropTo 0 (mcode 34) = k34_0 ∧ k34_0 = (0, 5, 0, []) :: (1, 39, 4, [2]) :: (4, 5, 0, []) :: (5, 39, 4, [1]) :: (8, 73, 38, []) :: (11, 5, 0, []) :: (12, 39, 4, [0]) :: (15, 5, 0, []) :: (16, 39, 4, [2]) :: (19, 43, 0, []) :: (20, 0, 32, []) :: (22, 71, 38, []) :: (25, 5, 0, []) :: (26, 32, 0, []) :: (27, 39, 4, [2]) :: (30, 0, 1, []) :: (31, 10, 0, []) :: (32, 40, 4, [2]) :: (35, 36, 0, []) :: k34_38 ∧ dropTo 38 (mcode 34) = k34_38 ∧ k34_38 = (38, 54, 0, []) :: [] := ⟨q34_0, rfl, q34_38, rfl⟩
theorem c35 : dropTo 0 (mcode 35) = k35_0 ∧ k35_0 = (0, 5, 0, []) :: (1, 49, 34, [0, 4]) :: (4, 5, 0, []) :: (5, 5, 0, []) :: (6, 39, 4, [2]) :: (9, 40, 4, [3]) :: k35_12 ∧ dropTo 12 (mcode 35) = k35_12 ∧ k35_12 = (12, 5, 0, []) :: (13, 39, 4, [2]) :: (16, 5, 0, []) :: (17, 39, 4, [1]) :: (20, 73, 64, []) :: (23, 5, 0, []) :: (24, 39, 4, [0]) :: (27, 5, 0, []) :: (28, 39, 4, [2]) :: (31, 43, 0, []) :: (32, 0, 97, []) :: (34, 72, 64, []) :: (37, 5, 0, []) :: (38, 39, 4, [0]) :: (41, 5, 0, []) :: (42, 39, 4, [2]) :: (45, 43, 0, []) :: (46, 0, 122, []) :: (48, 74, 64, []) :: (51, 5, 0, []) :: (52, 32, 0, []) :: (53, 39, 4, [2]) :: (56, 0, 1, []) :: (57, 10, 0, []) :: (58, 40, 4, [2]) :: (61, 36, 12, []) :: k35_64 ∧ dropTo 64 (mcode 35) = k35_64 ∧ k35_64 = (64, 54, 0, []) :: [] := ⟨q35_0, rfl, q35_12, rfl, q35_64, rfl⟩
theorem c36 : dropTo 0 (mcode 36) = k36_0 ∧ k36_0 = (0, 5, 0, []) :: (1, 39, 4, [2]) :: (4, 5, 0, []) :: (5, 39, 4, [3]) :: (8, 11, 0, []) :: (9, 5, 1, []) :: (10, 50, 216, [0]) :: (13, 70, 18, []) :: (16, 0, 0, []) :: (17, 53, 0, []) :: k36_18 ∧ dropTo 18 (mcode 36) = k36_18 ∧ k36_18 = (18, 0, 0, []) :: (19, 6, 2, []) :: k36_20 ∧ dropTo 20 (mcode 36) = k36_20 ∧ k36_20 = (20, 3, 2, []) :: (21, 5, 1, []) :: (22, 50, 216, [0]) :: (25, 73, 55, []) :: (28, 5, 0, []) :: (29, 39, 4, [0]) :: (32, 5, 0, []) :: (33, 39, 4, [3]) :: (36, 3, 2, []) :: (37, 10, 0, []) :: (38, 43, 0, []) :: (39, 5, 1, []) :: (40, 3, 2, []) :: (41, 50, 217, [1]) :: (44, 70, 49, []) :: (47, 0, 0, []) :: (48, 53, 0, []) :: k36_49 ∧ dropTo 49 (mcode 36) = k36_49 ∧ k36_49 = (49, 9, 2, [1]) :: (52, 36, 20, []) :: k36_55 ∧ dropTo 55 (mcode 36) = k36_55 ∧ k36_55 = (55, 0, 1, []) :: (56, 53, 0, []) :: [] := ⟨q36_0, rfl, q36_18, rfl, q36_20, rfl, q36_49, rfl, q36_55, rfl⟩
theorem c37 : dropTo 0 (mcode 37) = k37_0 ∧ k37_0 = (0, 5, 0, []) :: (1, 39, 4, [4]) :: (4, 0, (-1), []) :: (5, 70, 9, []) :: (8, 54, 0, []) :: k37_9 ∧ dropTo 9 (mcode 37) = k37_9 ∧ k37_9 = (9, 5, 0, []) :: (10, 49, 35, [0, 4]) :: (13, 5, 0, []) :: (14, 5, 1, []) :: (15, 49, 36, [1, 4]) :: (18, 61, 29, []) :: (21, 5, 0, []) :: (22, 5, 0, []) :: (23, 39, 4, [3]) :: (26, 40, 4, [4]) :: k37_29 ∧ dropTo 29 (mcode 37) = k37_29 ∧ k37_29 = (29, 54, 0, []) :: [] := ⟨q37_0, rfl, q37_9, rfl, q37_29, rfl⟩
theorem c38 : dropTo 0 (mcode 38) = k38_0 ∧ k38_0 = (0, 5, 0, []) :: (1, 39, 4, [4]) :: (4, 0, (-1), []) :: (5, 70, 10, []) :: (8, 0, 0, []) :: (9, 52, 0, []) :: k38_10 ∧ dropTo 10 (mcode 38) = k38_10 ∧ k38_10 = (10, 5, 0, []) :: (11, 49, 34, [0, 4]) :: (14, 5, 0, []) :: (15, 5, 0, []) :: (16, 39, 4, [2]) :: (19, 40, 4, [3]) :: (22, 0, 0, []) :: (23, 6, 3, []) :: k38_24 ∧ dropTo 24 (mcode 38) = k38_24 ∧ k38_24 = (24, 5, 0, []) :: (25, 39, 4, [2]) :: (28, 5, 0, []) :: (29, 39, 4, [1]) :: (32, 73, 94, []) :: (35, 5, 0, []) :: (36, 39, 4, [0]) :: (39, 5, 0, []) :: (40, 39, 4, [2]) :: (43, 43, 0, []) :: (44, 0, 48, []) :: (46, 72, 94, []) :: (49, 5, 0, []) :: (50, 39, 4, [0]) :: (53, 5, 0, []) :: (54, 39, 4, [2]) :: (57, 43, 0, []) :: (58, 0, 57, []) :: (60, 74, 94, []) :: (63, 3, 3, []) :: (64, 0, 10, []) :: (66, 12, 0, []) :: (67, 5, 0, []) :: (68, 39, 4, [0]) :: (71, 5, 0, []) :: (72, 39, 4, [2]) :: (75, 43, 0, []) :: (76, 10, 0, []) :: (77, 0, 48, []) :: (79, 11, 0, []) :: (80, 6, 3, []) :: (81, 5, 0, []) :: (82, 32, 0, []) :: (83, 39, 4, [2]) :: (86, 0, 1, []) :: (87, 10, 0, []) :: (88, 40, 4, [2]) :: (91, 36, 24, []) :: k38_94 ∧ dropTo 94 (mcode 38) = k38_94 ∧ k38_94 = (94, 5, 0, []) :: (95, 39, 4, [2]) :: (98, 5, 0, []) :: (99, 39, 4, [3]) :: (102, 11, 0, []) :: (103, 6, 4, []) :: (105, 3, 4, []) :: (107, 0, 1, []) :: (108, 72, 126, []) :: (111, 3, 4, []) :: (113, 0, 2, []) :: (114, 74, 126, []) :: (117, 3, 3, []) :: (118, 3, 1, []) :: (119, 3, 2, []) :: (120, 48, 97, [3]) :: (123, 61, 134, []) :: k38_126 ∧ dropTo 126 (mcode 38) = k38_126 ∧ k38_126 = (126, 5, 0, []) :: (127, 5, 0, []) :: (128, 39, 4, [3]) :: (131, 40, 4, [4]) :: k38_134 ∧ dropTo 134 (mcode 38) = k38_134 ∧ k38_134 = (134, 3, 3, []) :: (135, 52, 0, []) :: [] := ⟨q38_0, rfl, q38_10, rfl, q38_24, rfl, q38_94, rfl, q38_126, rfl, q38_134, rfl⟩
theorem c39 : dropTo 0 (mcode 39) = k39_0 ∧ k39_0 = (0, 5, 0, []) :: (1, 49, 34, [0, 4]) :: (4, 5, 0, []) :: (5, 39, 4, [2]) :: (8, 5, 0, []) :: (9, 39, 4, [1]) :: (12, 73, 33, []) :: (15, 5, 0, []) :: (16, 39, 4, [0]) :: (19, 5, 0, []) :: (20, 39, 4, [2]) :: (23, 43, 0, []) :: (24, 0, 59, []) :: (26, 71, 33, []) :: (29, 0, 1, []) :: (30, 36, 34, []) :: k39_33 ∧ dropTo 33 (mcode 39) = k39_33 ∧ k39_33 = (33, 0, 0, []) :: k39_34 ∧ dropTo 34 (mcode 39) = k39_34 ∧ k39_34 = (34, 53, 0, []) :: [] := ⟨q39_0, rfl, q39_33, rfl, q39_34, rfl⟩
theorem c40 : dropTo 0 (mcode 40) = k40_0 ∧ k40_0 = (0, 5, 0, []) :: (1, 39, 4, [4]) :: (4, 0, (-1), []) :: (5, 70, 9, []) :: (8, 54, 0, []) :: k40_9 ∧ dropTo 9 (mcode 40) = k40_9 ∧ k40_9 = (9, 5, 0, []) :: (10, 49, 39, [0, 4]) :: (13, 60, 29, []) :: (16, 5, 0, []) :: (17, 32, 0, []) :: (18, 39, 4, [2]) :: (21, 0, 1, []) :: (22, 10, 0, []) :: (23, 40, 4, [2]) :: (26, 36, 37, []) :: k40_29 ∧ dropTo 29 (mcode 40) = k40_29 ∧ k40_29 = (29, 5, 0, []) :: (30, 5, 0, []) :: (31, 39, 4, [2]) :: (34, 40, 4, [4]) :: k40_37 ∧ dropTo 37 (mcode 40) = k40_37 ∧ k40_37 = (37, 54, 0, []) :: [] := ⟨q40_0, rfl, q40_9, rfl, q40_29, rfl, q40_37, rfl⟩
theorem c41 : dropTo 0 (mcode 41) = k41_0 ∧ k41_0 = (0, 3, 1, []) :: (1, 0, 0, []) :: (2, 5, 0, []) :: (3, 39, 5, [0]) :: (6, 0, 1, []) :: (7, 11, 0, []) :: (8, 48, 97, [3]) :: (11, 53, 0, []) :: [] := ⟨q41_0, rfl⟩
theorem c42 : dropTo 0 (mcode 42) = k42_0 ∧ k42_0 = (0, 5, 0, []) :: (1, 0, 0, []) :: (2, 40, 5, [0]) :: (5, 5, 0, []) :: (6, 0, 0, []) :: (7, 40, 5, [8]) :: (10, 5, 0, []) :: (11, 0, 2, []) :: (12, 40, 5, [12]) :: (15, 5, 0, []) :: (16, 0, 0, []) :: (17, 40, 5, [13]) :: (20, 54, 0, []) :: [] := ⟨q42_0, rfl⟩
theorem c43 : dropTo 0 (mcode 43) = k43_0 ∧ k43_0 = (0, 5, 0, []) :: (1, 5, 1, []) :: (2, 39, 5, [0]) :: (5, 40, 5, [0]) :: (8, 5, 1, []) :: (9, 39, 5, [1]) :: (12, 0, 0, []) :: (13, 5, 0, []) :: (14, 39, 5, [1]) :: (17, 0, 0, []) :: (18, 5, 0, []) :: (19, 39, 5, [0]) :: (22, 51, 0, []) :: (25, 5, 1, []) :: (26, 39, 5, [2]) :: (29, 0, 0, []) :: (30, 5, 0, []) :: (31, 39, 5, [2]) :: (34, 0, 0, []) :: (35, 5, 0, []) :: (36, 39, 5, [0]) :: (39, 51, 0, []) :: (42, 5, 1, []) :: (43, 39, 5, [3]) :: (46, 0, 0, []) :: (47, 5, 0, []) :: (48, 39, 5, [3]) :: (51, 0, 0, []) :: (52, 5, 0, []) :: (53, 39, 5, [0]) :: (56, 51, 0, []) :: (59, 5, 1, []) :: (60, 39, 5, [4]) :: (63, 0, 0, []) :: (64, 5, 0, []) :: (65, 39, 5, [4]) :: (68, 0, 0, []) :: (69, 5, 0, []) :: (70, 39, 5, [0]) :: (73, 51, 0, []) :: (76, 5, 1, []) :: (77, 39, 5, [5]) :: (80, 0, 0, []) :: (81, 5, 0, []) :: (82, 39, 5, [5]) :: (85, 0, 0, []) :: (86, 5, 0, []) :: (87, 39, 5, [0]) :: (90, 51, 0, []) :: (93, 5, 1, []) :: (94, 39, 5, [6]) :: (97, 0, 0, []) :: (98, 5, 0, []) :: (99, 39, 5, [6]) :: (102, 0, 0, []) :: (103, 5, 0, []) :: (104, 39, 5, [0]) :: (107, 51, 0, []) :: (110, 5, 1, []) :: (111, 39, 5, [7]) :: (114, 0, 0, []) :: (115, 5, 0, []) :: (116, 39, 5, [7]) :: (119, 0, 0, []) :: (120, 5, 0, []) :: (121, 39, 5, [0]) :: (124, 51, 0, []) :: (127, 5, 0, []) :: (128, 5, 1, []) :: (129, 39, 5, [8]) :: (132, 40, 5, [8]) :: (135, 5, 1, []) :: (136, 39, 5, [9]) :: (139, 0, 0, []) :: (140, 5, 0, []) :: (141, 39, 5, [9]) :: (144, 0, 0, []) :: (145, 5, 0, []) :: (146, 39, 5, [8]) :: (149, 51, 0, []) :: (152, 5, 1, []) :: (153, 39, 5, [10]) :: (156, 0, 0, []) :: (157, 5, 0, []) :: (158, 39, 5, [10]) :: (161, 0, 0, []) :: (162, 5, 0, []) :: (163, 39, 5, [8]) :: (166, 51, 0, []) :: (169, 5, 1, []) :: (170, 39, 5, [11]) :: (173, 0, 0, []) :: (174, 5, 0, []) :: (175, 39, 5, [11]) :: (178, 0, 0, []) :: (179, 5, 0, []) :: (180, 39, 5, [8]) :: (183, 51, 0, []) :: (186, 5, 0, []) :: (187, 5, 1, []) :: (188, 39, 5, [12]) :: (191, 40, 5, [12]) :: (194, 5, 0, []) :: (195, 5, 1, []) :: (196, 39, 5, [13]) :: (199, 40, 5, [13]) :: (202, 5, 0, []) :: (203, 5, 1, []) :: (204, 39, 5, [14]) :: (207, 40, 5, [14]) :: (210, 54, 0, []) :: [] := ⟨q43_0, rfl⟩
theorem c44 : dropTo 0 (mcode 44) = k44_0 ∧ k44_0 = (0, 5, 0, []) :: (1, 39, 5, [0]) :: (4, 0, 8, []) :: (6, 72, 10, []) :: (9, 54, 0, []) :: k44_10 ∧ dropTo 10 (mcode 44) = k44_10 ∧ k44_10 = (10, 5, 0, []) :: (11, 39, 5, [0]) :: (14, 6, 6, []) :: (16, 5, 0, []) :: (17, 32, 0, []) :: (18, 39, 5, [0]) :: (21, 0, 1, []) :: (22, 10, 0, []) :: (23, 40, 5, [0]) :: (26, 5, 0, []) :: (27, 39, 5, [1]) :: (30, 3, 6, []) :: (32, 3, 1, []) :: (33, 42, 0, []) :: (34, 5, 0, []) :: (35, 39, 5, [2]) :: (38, 3, 6, []) :: (40, 3, 2, []) :: (41, 42, 0, []) :: (42, 5, 0, []) :: (43, 39, 5, [3]) :: (46, 3, 6, []) :: (48, 3, 3, []) :: (49, 42, 0, []) :: (50, 5, 0, []) :: (51, 3, 6, []) :: (53, 3, 4, []) :: (55, 3, 5, []) :: (57, 49, 45, [3, 5]) :: (60, 54, 0, []) :: [] := ⟨q44_0, rfl, q44_10, rfl⟩
theorem c45 : dropTo 0 (mcode 45) = k45_0 ∧ k45_0 = (0, 5, 0, []) :: (1, 39, 5, [4]) :: (4, 3, 1, []) :: (5, 3, 2, []) :: (6, 42, 0, []) :: (7, 5, 0, []) :: (8, 39, 5, [5]) :: (11, 3, 1, []) :: (12, 3, 3, []) :: (13, 42, 0, []) :: (14, 5, 0, []) :: (15, 39, 5, [6]) :: (18, 3, 1, []) :: (19, 0, 0, []) :: (20, 42, 0, []) :: (21, 5, 0, []) :: (22, 39, 5, [7]) :: (25, 3, 1, []) :: (26, 0, (-9), []) :: (28, 42, 0, []) :: (29, 54, 0, []) :: [] := ⟨q45_0, rfl⟩
theorem c46 : dropTo 0 (mcode 46) = k46_0 ∧ k46_0 = (0, 5, 0, []) :: (1, 39, 5, [8]) :: (4, 0, 4, []) :: (5, 72, 9, []) :: (8, 54, 0, []) :: k46_9 ∧ dropTo 9 (mcode 46) = k46_9 ∧ k46_9 = (9, 5, 0, []) :: (10, 39, 5, [9]) :: (13, 5, 0, []) :: (14, 39, 5, [8]) :: (17, 3, 1, []) :: (18, 42, 0, []) :: (19, 5, 0, []) :: (20, 39, 5, [10]) :: (23, 5, 0, []) :: (24, 39, 5, [8]) :: (27, 3, 2, []) :: (28, 42, 0, []) :: (29, 5, 0, []) :: (30, 39, 5, [11]) :: (33, 5, 0, []) :: (34, 39, 5, [8]) :: (37, 3, 3, []) :: (38, 42, 0, []) :: (39, 5, 0, []) :: (40, 32, 0, []) :: (41, 39, 5, [8]) :: (44, 0, 1, []) :: (45, 10, 0, []) :: (46, 40, 5, [8]) :: (49, 54, 0, []) :: [] := ⟨q46_0, rfl, q46_9, rfl⟩
theorem c47 : dropTo 0 (mcode 47) = k47_0 ∧ k47_0 = (0, 5, 0, []) :: (1, 32, 0, []) :: (2, 39, 5, [8]) :: (5, 0, 1, []) :: (6, 11, 0, []) :: (7, 40, 5, [8]) :: (10, 3, 1, []) :: (11, 6, 2, []) :: k47_12 ∧ dropTo 12 (mcode 47) = k47_12 ∧ k47_12 = (12, 3, 2, []) :: (13, 5, 0, []) :: (14, 39, 5, [8]) :: (17, 73, 68, []) :: (20, 5, 0, []) :: (21, 39, 5, [9]) :: (24, 3, 2, []) :: (25, 5, 0, []) :: (26, 39, 5, [9]) :: (29, 3, 2, []) :: (30, 0, 1, []) :: (31, 10, 0, []) :: (32, 41, 0, []) :: (33, 42, 0, []) :: (34, 5, 0, []) :: (35, 39, 5, [10]) :: (38, 3, 2, []) :: (39, 5, 0, []) :: (40, 39, 5, [10]) :: (43, 3, 2, []) :: (44, 0, 1, []) :: (45, 10, 0, []) :: (46, 41, 0, []) :: (47, 42, 0, []) :: (48, 5, 0, []) :: (49, 39, 5, [11]) :: (52, 3, 2, []) :: (53, 5, 0, []) :: (54, 39, 5, [11]) :: (57, 3, 2, []) :: (58, 0, 1, []) :: (59, 10, 0, []) :: (60, 41, 0, []) :: (61, 42, 0, []) :: (62, 9, 2, [1]) :: (65, 36, 12, []) :: k47_68 ∧ dropTo 68 (mcode 47) = k47_68 ∧ k47_68 = (68, 54, 0, []) :: [] := ⟨q47_0, rfl, q47_12, rfl, q47_68, rfl⟩
theorem c48 : dropTo 0 (mcode 48) = k48_0 ∧ k48_0 = (0, 0, 0, []) :: (1, 6, 2, []) :: (2, 0, 0, []) :: (3, 6, 3, []) :: k48_4 ∧ dropTo 4 (mcode 48) = k48_4 ∧ k48_4 = (4, 3, 3, []) :: (5, 5, 0, []) :: (6, 39, 5, [8]) :: (9, 73, 56, []) :: (12, 3, 1, []) :: (13, 5, 0, []) :: (14, 39, 5, [10]) :: (17, 3, 3, []) :: (18, 41, 0, []) :: (19, 72, 50, []) :: (22, 3, 1, []) :: (23, 5, 0, []) :: (24, 39, 5, [10]) :: (27, 3, 3, []) :: (28, 41, 0, []) :: (29, 5, 0, []) :: (30, 39, 5, [11]) :: (33, 3, 3, []) :: (34, 41, 0, []) :: (35, 10, 0, []) :: (36, 73, 50, []) :: (39, 3, 2, []) :: (40, 0, 1, []) :: (41, 5, 0, []) :: (42, 39, 5, [9]) :: (45, 3, 3, []) :: (46, 41, 0, []) :: (47, 18, 0, []) :: (48, 16, 0, []) :: (49, 6, 2, []) :: k48_50 ∧ dropTo 50 (mcode 48) = k48_50 ∧ k48_50 = (50, 9, 3, [1]) :: (53, 36, 4, []) :: k48_56 ∧ dropTo 56 (mcode 48) = k48_56 ∧ k48_56 = (56, 3, 2, []) :: (57, 52, 0, []) :: [] := ⟨q48_0, rfl, q48_4, rfl, q48_50, rfl, q48_56, rfl⟩
theorem c49 : dropTo 0 (mcode 49) = k49_0 ∧ k49_0 = (0, 0, 0, []) :: (1, 6, 1, []) :: (2, 0, 0, []) :: (3, 6, 2, []) :: k49_4 ∧ dropTo 4 (mcode 49) = k49_4 ∧ k49_4 = (4, 3, 2, []) :: (5, 5, 0, []) :: (6, 39, 5, [0]) :: (9, 73, 35, []) :: (12, 5, 0, []) :: (13, 39, 5, [7]) :: (16, 3, 2, []) :: (17, 41, 0, []) :: (18, 0, (-9), []) :: (20, 70, 29, []) :: (23, 3, 1, []) :: (24, 0, 1, []) :: (25, 3, 2, []) :: (26, 18, 0, []) :: (27, 16, 0, []) :: (28, 6, 1, []) :: k49_29 ∧ dropTo 29 (mcode 49) = k49_29 ∧ k49_29 = (29, 9, 2, [1]) :: (32, 36, 4, []) :: k49_35 ∧ dropTo 35 (mcode 49) = k49_35 ∧ k49_35 = (35, 3, 1, []) :: (36, 52, 0, []) :: [] := ⟨q49_0, rfl, q49_4, rfl, q49_29, rfl, q49_35, rfl⟩
theorem c50 : dropTo 0 (mcode 50) = k50_0 ∧ k50_0 = (0, 0, 0, []) :: (1, 6, 1, []) :: (2, 0, 0, []) :: (3, 6, 2, []) :: k50_4 ∧ dropTo 4 (mcode 50) = k50_4 ∧ k50_4 = (4, 3, 2, []) :: (5, 5, 0, []) :: (6, 39, 5, [0]) :: (9, 73, 27, []) :: (12, 3, 1, []) :: (13, 5, 0, []) :: (14, 39, 5, [3]) :: (17, 3, 2, []) :: (18, 41, 0, []) :: (19, 10, 0, []) :: (20, 6, 1, []) :: (21, 9, 2, [1]) :: (24, 36, 4, []) :: k50_27 ∧ dropTo 27 (mcode 50) = k50_27 ∧ k50_27 = (27, 3, 1, []) :: (28, 52, 0, []) :: [] := ⟨q50_0, rfl, q50_4, rfl, q50_27, rfl⟩
theorem c51 : dropTo 0 (mcode 51) = k51_0 ∧ k51_0 = (0, 0, 0, []) :: (1, 6, 2, []) :: (2, 0, 0, []) :: (3, 6, 3, []) :: k51_4 ∧ dropTo 4 (mcode 51) = k51_4 ∧ k51_4 = (4, 3, 3, []) :: (5, 5, 0, []) :: (6, 39, 5, [0]) :: (9, 73, 31, []) :: (12, 5, 0, []) :: (13, 39, 5, [3]) :: (16, 3, 3, []) :: (17, 41, 0, []) :: (18, 3, 1, []) :: (19, 71, 25, []) :: (22, 9, 2, [1]) :: k51_25 ∧ dropTo 25 (mcode 51) = k51_25 ∧ k51_25 = (25, 9, 3, [1]) :: (28, 36, 4, []) :: k51_31 ∧ dropTo 31 (mcode 51) = k51_31 ∧ k51_31 = (31, 3, 2, []) :: (32, 52, 0, []) :: [] := ⟨q51_0, rfl, q51_4, rfl, q51_25, rfl, q51_31, rfl⟩
theorem c52 : dropTo 0 (mcode 52) = k52_0 ∧ k52_0 = (0, 0, (-3), []) :: (2, 6, 1, []) :: (3, 0, 0, []) :: (4, 6, 2, []) :: k52_5 ∧ dropTo 5 (mcode 52) = k52_5 ∧ k52_5 = (5, 3, 2, []) :: (6, 5, 0, []) :: (7, 39, 5, [0]) :: (10, 73, 44, []) :: (13, 5, 0, []) :: (14, 39, 5, [7]) :: (17, 3, 2, []) :: (18, 41, 0, []) :: (19, 0, (-9), []) :: (21, 71, 27, []) :: (24, 0, (-3), []) :: (26, 52, 0, []) :: k52_27 ∧ dropTo 27 (mcode 52) = k52_27 ∧ k52_27 = (27, 3, 1, []) :: (28, 5, 0, []) :: (29, 39, 5, [7]) :: (32, 3, 2, []) :: (33, 41, 0, []) :: (34, 55, 0, []) :: (37, 6, 1, []) :: (38, 9, 2, [1]) :: (41, 36, 5, []) :: k52_44 ∧ dropTo 44 (mcode 52) = k52_44 ∧ k52_44 = (44, 3, 1, []) :: (45, 52, 0, []) :: [] := ⟨q52_0, rfl, q52_5, rfl, q52_27, rfl, q52_44, rfl⟩
theorem c53 : dropTo 0 (mcode 53) = k53_0 ∧ k53_0 = (0, 0, 0, []) :: (1, 6, 2, []) :: k53_2 ∧ dropTo 2 (mcode 53) = k53_2 ∧ k53_2 = (2, 3, 2, []) :: (3, 5, 0, []) :: (4, 39, 5, [0]) :: (7, 73, 39, []) :: (10, 5, 0, []) :: (11, 39, 5, [7]) :: (14, 3, 2, []) :: (15, 41, 0, []) :: (16, 0, (-9), []) :: (18, 70, 31, []) :: (21, 5, 0, []) :: (22, 39, 5, [7]) :: (25, 3, 2, []) :: (26, 41, 0, []) :: (27, 3, 1, []) :: (28, 75, 33, []) :: k53_31 ∧ dropTo 31 (mcode 53) = k53_31 ∧ k53_31 = (31, 0, 0, []) :: (32, 53, 0, []) :: k53_33 ∧ dropTo 33 (mcode 53) = k53_33 ∧ k53_33 = (33, 9, 2, [1]) :: (36, 36, 2, []) :: k53_39 ∧ dropTo 39 (mcode 53) = k53_39 ∧ k53_39 = (39, 0, 1, []) :: (40, 53, 0, []) :: [] := ⟨q53_0, rfl, q53_2, rfl, q53_31, rfl, q53_33, rfl, q53_39, rfl⟩
theorem c54 : dropTo 0 (mcode 54) = k54_0 ∧ k54_0 = (0, 3, 3, []) :: (1, 0, 1, []) :: (2, 0, 8, []) :: (4, 48, 97, [3]) :: (7, 61, 12, []) :: (10, 0, (-1), []) :: (11, 52, 0, []) :: k54_12 ∧ dropTo 12 (mcode 54) = k54_12 ∧ k54_12 = (12, 5, 0, []) :: (13, 39, 6, [5]) :: (16, 39, 4, [1]) :: (19, 3, 3, []) :: (20, 10, 0, []) :: (21, 0, 240, []) :: (24, 75, 30, []) :: (27, 0, (-2), []) :: (29, 52, 0, []) :: k54_30 ∧ dropTo 30 (mcode 54) = k54_30 ∧ k54_30 = (30, 0, 0, []) :: (31, 6, 4, []) :: k54_33 ∧ dropTo 33 (mcode 54) = k54_33 ∧ k54_33 = (33, 3, 4, []) :: (35, 3, 3, []) :: (36, 73, 61, []) :: (39, 5, 0, []) :: (40, 39, 6, [5]) :: (43, 4, 1, []) :: (44, 0, 8, []) :: (46, 3, 4, []) :: (48, 12, 0, []) :: (49, 26, 0, []) :: (50, 29, 0, []) :: (51, 30, 0, []) :: (52, 49, 26, [1, 4]) :: (55, 9, 4, [1]) :: (58, 36, 33, []) :: k54_61 ∧ dropTo 61 (mcode 54) = k54_61 ∧ k54_61 = (61, 5, 0, []) :: (62, 39, 6, [5]) :: (65, 39, 4, [1]) :: (68, 52, 0, []) :: [] := ⟨q54_0, rfl, q54_12, rfl, q54_30, rfl, q54_33, rfl, q54_61, rfl⟩
theorem c55 : dropTo 0 (mcode 55) = k55_0 ∧ k55_0 = (0, 5, 0, []) :: (1, 39, 6, [5]) :: (4, 5, 0, []) :: (5, 39, 6, [1]) :: (8, 49, 28, [1, 4]) :: (11, 6, 1, []) :: (12, 5, 0, []) :: (13, 39, 6, [5]) :: (16, 49, 27, [0, 4]) :: (19, 3, 1, []) :: (20, 0, (-1), []) :: (21, 70, 29, []) :: (24, 0, (-100), []) :: (26, 3, 1, []) :: (27, 11, 0, []) :: (28, 52, 0, []) :: k55_29 ∧ dropTo 29 (mcode 55) = k55_29 ∧ k55_29 = (29, 5, 0, []) :: (30, 39, 6, [1]) :: (33, 5, 0, []) :: (34, 39, 6, [0]) :: (37, 39, 5, [14]) :: (40, 40, 5, [14]) :: (43, 5, 0, []) :: (44, 39, 6, [0]) :: (47, 5, 0, []) :: (48, 39, 6, [1]) :: (51, 49, 43, [1, 5]) :: (54, 5, 0, []) :: (55, 0, 0, []) :: (56, 40, 6, [8]) :: (59, 5, 0, []) :: (60, 39, 6, [0]) :: (63, 39, 5, [0]) :: (66, 52, 0, []) :: [] := ⟨q55_0, rfl, q55_29, rfl⟩
theorem c56 : dropTo 0 (mcode 56) = k56_0 ∧ k56_0 = (0, 3, 1, []) :: (1, 0, 1, []) :: (2, 0, 9, []) :: (4, 48, 97, [3]) :: (7, 61, 12, []) :: (10, 0, (-1), []) :: (11, 52, 0, []) :: k56_12 ∧ dropTo 12 (mcode 56) = k56_12 ∧ k56_12 = (12, 5, 0, []) :: (13, 39, 6, [0]) :: (16, 39, 5, [12]) :: (19, 6, 2, []) :: (20, 5, 0, []) :: (21, 39, 6, [0]) :: (24, 3, 1, []) :: (25, 40, 5, [12]) :: (28, 3, 2, []) :: (29, 52, 0, []) :: [] := ⟨q56_0, rfl, q56_12, rfl⟩
theorem c57 : dropTo 0 (mcode 57) = k57_0 ∧ k57_0 = (0, 3, 1, []) :: (1, 48, 99, [1]) :: (4, 60, 27, []) :: (7, 3, 2, []) :: (8, 0, 0, []) :: (9, 0, 99, []) :: (11, 48, 97, [3]) :: (14, 60, 27, []) :: (17, 3, 3, []) :: (18, 0, 1, []) :: (19, 0, 30, []) :: (21, 48, 97, [3]) :: (24, 61, 29, []) :: k57_27 ∧ dropTo 27 (mcode 57) = k57_27 ∧ k57_27 = (27, 0, (-1), []) :: (28, 52, 0, []) :: k57_29 ∧ dropTo 29 (mcode 57) = k57_29 ∧ k57_29 = (29, 5, 0, []) :: (30, 39, 6, [0]) :: (33, 39, 5, [8]) :: (36, 0, 4, []) :: (37, 72, 43, []) :: (40, 0, (-2), []) :: (42, 52, 0, []) :: k57_43 ∧ dropTo 43 (mcode 57) = k57_43 ∧ k57_43 = (43, 5, 0, []) :: (44, 39, 6, [0]) :: (47, 3, 1, []) :: (48, 3, 2, []) :: (49, 3, 3, []) :: (50, 49, 46, [3, 5]) :: (53, 5, 0, []) :: (54, 39, 6, [0]) :: (57, 39, 5, [8]) :: (60, 52, 0, []) :: [] := ⟨q57_0, rfl, q57_27, rfl, q57_29, rfl, q57_43, rfl⟩
theorem c58 : dropTo 0 (mcode 58) = k58_0 ∧ k58_0 = (0, 3, 1, []) :: (1, 0, 0, []) :: (2, 5, 0, []) :: (3, 39, 6, [0]) :: (6, 39, 5, [8]) :: (9, 0, 1, []) :: (10, 11, 0, []) :: (11, 48, 97, [3]) :: (14, 61, 19, []) :: (17, 0, (-1), []) :: (18, 52, 0, []) :: k58_19 ∧ dropTo 19 (mcode 58) = k58_19 ∧ k58_19 = (19, 5, 0, []) :: (20, 39, 6, [0]) :: (23, 3, 1, []) :: (24, 49, 47, [1, 5]) :: (27, 5, 0, []) :: (28, 39, 6, [0]) :: (31, 39, 5, [8]) :: (34, 52, 0, []) :: [] := ⟨q58_0, rfl, q58_19, rfl⟩
theorem c59 : dropTo 0 (mcode 59) = k59_0 ∧ k59_0 = (0, 3, 1, []) :: (1, 48, 99, [1]) :: (4, 60, 17, []) :: (7, 3, 2, []) :: (8, 0, 0, []) :: (9, 0, 119, []) :: (11, 48, 97, [3]) :: (14, 61, 19, []) :: k59_17 ∧ dropTo 17 (mcode 59) = k59_17 ∧ k59_17 = (17, 0, (-1), []) :: (18, 52, 0, []) :: k59_19 ∧ dropTo 19 (mcode 59) = k59_19 ∧ k59_19 = (19, 5, 0, []) :: (20, 39, 6, [0]) :: (23, 3, 2, []) :: (24, 49, 48, [1, 5]) :: (27, 3, 1, []) :: (28, 19, 0, []) :: (29, 0, 1, []) :: (30, 15, 0, []) :: (31, 52, 0, []) :: [] := ⟨q59_0, rfl, q59_17, rfl, q59_19, rfl⟩
theorem c60 : dropTo 0 (mcode 60) = k60_0 ∧ k60_0 = (0, 3, 1, []) :: (1, 48, 100, [1]) :: (4, 60, 32, []) :: (7, 3, 2, []) :: (8, 0, 0, []) :: (9, 0, 9, []) :: (11, 48, 97, [3]) :: (14, 60, 32, []) :: (17, 3, 3, []) :: (18, 48, 98, [1]) :: (21, 60, 32, []) :: (24, 3, 4, []) :: (26, 48, 98, [1]) :: (29, 61, 34, []) :: k60_32 ∧ dropTo 32 (mcode 60) = k60_32 ∧ k60_32 = (32, 0, (-1), []) :: (33, 52, 0, []) :: k60_34 ∧ dropTo 34 (mcode 60) = k60_34 ∧ k60_34 = (34, 5, 0, []) :: (35, 39, 6, [0]) :: (38, 39, 5, [0]) :: (41, 0, 8, []) :: (43, 72, 49, []) :: (46, 0, (-2), []) :: (48, 52, 0, []) :: k60_49 ∧ dropTo 49 (mcode 60) = k60_49 ∧ k60_49 = (49, 5, 0, []) :: (50, 39, 6, [0]) :: (53, 3, 1, []) :: (54, 3, 2, []) :: (55, 3, 3, []) :: (56, 3, 4, []) :: (58, 5, 0, []) :: (59, 39, 6, [0]) :: (62, 39, 5, [13]) :: (65, 0, 99, []) :: (67, 56, 0, []) :: (70, 49, 44, [5, 5]) :: (73, 5, 0, []) :: (74, 39, 6, [0]) :: (77, 39, 5, [0]) :: (80, 0, 1, []) :: (81, 11, 0, []) :: (82, 52, 0, []) :: [] := ⟨q60_0, rfl, q60_32, rfl, q60_34, rfl, q60_49, rfl⟩
theorem c61 : dropTo 0 (mcode 61) = k61_0 ∧ k61_0 = (0, 5, 0, []) :: (1, 39, 6, [0]) :: (4, 3, 1, []) :: (5, 49, 41, [1, 5]) :: (8, 61, 13, []) :: (11, 0, (-1), []) :: (12, 52, 0, []) :: k61_13 ∧ dropTo 13 (mcode 61) = k61_13 ∧ k61_13 = (13, 3, 2, []) :: (14, 37, 178, [0, 64, 74, 84, 94, 104, 114, 124, 134, 156]) :: k61_64 ∧ dropTo 64 (mcode 61) = k61_64 ∧ k61_64 = (64, 5, 0, []) :: (65, 39, 6, [0]) :: (68, 39, 5, [1]) :: (71, 3, 1, []) :: (72, 41, 0, []) :: (73, 52, 0, []) :: k61_74 ∧ dropTo 74 (mcode 61) = k61_74 ∧ k61_74 = (74, 5, 0, []) :: (75, 39, 6, [0]) :: (78, 39, 5, [2]) :: (81, 3, 1, []) :: (82, 41, 0, []) :: (83, 52, 0, []) :: k61_84 ∧ dropTo 84 (mcode 61) = k61_84 ∧ k61_84 = (84, 5, 0, []) :: (85, 39, 6, [0]) :: (88, 39, 5, [3]) :: (91, 3, 1, []) :: (92, 41, 0, []) :: (93, 52, 0, []) :: k61_94 ∧ dropTo 94 (mcode 61) = k61_94 ∧ k61_94 = (94, 5, 0, []) :: (95, 39, 6, [0]) :: (98, 39, 5, [4]) :: (101, 3, 1, []) :: (102, 41, 0, []) :: (103, 52, 0, []) :: k61_104 ∧ dropTo 104 (mcode 61) = k61_104 ∧ k61_104 = (104, 5, 0, []) :: (105, 39, 6, [0]) :: (108, 39, 5, [5]) :: (111, 3, 1, []) :: (112, 41, 0, []) :: (113, 52, 0, []) :: k61_114 ∧ dropTo 114 (mcode 61) = k61_114 ∧ k61_114 = (114, 5, 0, []) :: (115, 39, 6, [0]) :: (118, 39, 5, [6]) :: (121, 3, 1, []) :: (122, 41, 0, []) :: (123, 52, 0, []) :: k61_124 ∧ dropTo 124 (mcode 61) = k61_124 ∧ k61_124 = (124, 5, 0, []) :: (125, 39, 6, [0]) :: (128, 39, 5, [7]) :: (131, 3, 1, []) :: (132, 41, 0, []) :: (133, 52, 0, []) :: k61_134 ∧ dropTo 134 (mcode 61) = k61_134 ∧ k61_134 = (134, 5, 0, []) :: (135, 39, 6, [0]) :: (138, 39, 5, [1]) :: (141, 3, 1, []) :: (142, 41, 0, []) :: (143, 5, 0, []) :: (144, 39, 6, [0]) :: (147, 39, 5, [2]) :: (150, 3, 1, []) :: (151, 41, 0, []) :: (152, 48, 9, [2]) :: (155, 52, 0, []) :: k61_156 ∧ dropTo 156 (mcode 61) = k61_156 ∧ k61_156 = (156, 5, 0, []) :: (157, 39, 6, [0]) :: (160, 39, 5, [1]) :: (163, 3, 1, []) :: (164, 41, 0, []) :: (165, 5, 0, []) :: (166, 39, 6, [0]) :: (169, 39, 5, [2]) :: (172, 3, 1, []) :: (173, 41, 0, []) :: (174, 48, 10, [2]) :: (177, 52, 0, []) :: k61_178 ∧ dropTo 178 (mcode 61) = k61_178 ∧ k61_178 = (178, 0, (-1), []) :: (179, 52, 0, []) :: [] := ⟨q61_0, rfl, q61_13, rfl, q61_64, rfl, q61_74, rfl, q61_84, rfl, q61_94, rfl, q61_104, rfl, q61_114, rfl, q61_124, rfl, q61_134, rfl, q61_156, rfl, q61_178, rfl⟩
theorem c62 : dropTo 0 (mcode 62) = k62_0 ∧ k62_0 = (0, 5, 0, []) :: (1, 39, 6, [0]) :: (4, 3, 1, []) :: (5, 49, 41, [1, 5]) :: (8, 60, 28, []) :: (11, 3, 2, []) :: (12, 48, 100, [1]) :: (15, 60, 28, []) :: (18, 3, 3, []) :: (19, 0, 0, []) :: (20, 0, 9, []) :: (22, 48, 97, [3]) :: (25, 61, 30, []) :: k62_28 ∧ dropTo 28 (mcode 62) = k62_28 ∧ k62_28 = (28, 0, (-1), []) :: (29, 52, 0, []) :: k62_30 ∧ dropTo 30 (mcode 62) = k62_30 ∧ k62_30 = (30, 5, 0, []) :: (31, 39, 6, [0]) :: (34, 39, 5, [1]) :: (37, 3, 1, []) :: (38, 41, 0, []) :: (39, 6, 4, []) :: (41, 5, 0, []) :: (42, 39, 6, [0]) :: (45, 39, 5, [1]) :: (48, 3, 1, []) :: (49, 3, 2, []) :: (50, 42, 0, []) :: (51, 5, 0, []) :: (52, 39, 6, [0]) :: (55, 39, 5, [2]) :: (58, 3, 1, []) :: (59, 3, 3, []) :: (60, 42, 0, []) :: (61, 5, 0, []) :: (62, 39, 6, [0]) :: (65, 39, 5, [6]) :: (68, 3, 1, []) :: (69, 0, 0, []) :: (70, 42, 0, []) :: (71, 3, 4, []) :: (73, 52, 0, []) :: [] := ⟨q62_0, rfl, q62_28, rfl, q62_30, rfl⟩
theorem c63 : dropTo 0 (mcode 63) = k63_0 ∧ k63_0 = (0, 5, 0, []) :: (1, 39, 6, [0]) :: (4, 3, 1, []) :: (5, 49, 41, [1, 5]) :: (8, 60, 28, []) :: (11, 3, 2, []) :: (12, 48, 98, [1]) :: (15, 60, 28, []) :: (18, 3, 3, []) :: (19, 0, 0, []) :: (20, 0, 99, []) :: (22, 48, 97, [3]) :: (25, 61, 30, []) :: k63_28 ∧ dropTo 28 (mcode 63) = k63_28 ∧ k63_28 = (28, 0, (-1), []) :: (29, 52, 0, []) :: k63_30 ∧ dropTo 30 (mcode 63) = k63_30 ∧ k63_30 = (30, 5, 0, []) :: (31, 39, 6, [0]) :: (34, 39, 5, [4]) :: (37, 3, 1, []) :: (38, 41, 0, []) :: (39, 6, 4, []) :: (41, 5, 0, []) :: (42, 39, 6, [0]) :: (45, 3, 1, []) :: (46, 3, 2, []) :: (47, 3, 3, []) :: (48, 49, 45, [3, 5]) :: (51, 3, 4, []) :: (53, 52, 0, []) :: [] := ⟨q63_0, rfl, q63_28, rfl, q63_30, rfl⟩
theorem c64 : dropTo 0 (mcode 64) = k64_0 ∧ k64_0 = (0, 5, 0, []) :: (1, 39, 6, [0]) :: (4, 3, 1, []) :: (5, 49, 41, [1, 5]) :: (8, 60, 18, []) :: (11, 3, 2, []) :: (12, 48, 98, [1]) :: (15, 61, 20, []) :: k64_18 ∧ dropTo 18 (mcode 64) = k64_18 ∧ k64_18 = (18, 0, (-1), []) :: (19, 52, 0, []) :: k64_20 ∧ dropTo 20 (mcode 64) = k64_20 ∧ k64_20 = (20, 5, 0, []) :: (21, 39, 6, [0]) :: (24, 39, 5, [3]) :: (27, 3, 1, []) :: (28, 41, 0, []) :: (29, 6, 3, []) :: (30, 5, 0, []) :: (31, 39, 6, [0]) :: (34, 39, 5, [3]) :: (37, 3, 1, []) :: (38, 3, 2, []) :: (39, 42, 0, []) :: (40, 5, 0, []) :: (41, 39, 6, [0]) :: (44, 39, 5, [6]) :: (47, 3, 1, []) :: (48, 0, 0, []) :: (49, 42, 0, []) :: (50, 3, 3, []) :: (51, 52, 0, []) :: [] := ⟨q64_0, rfl, q64_18, rfl, q64_20, rfl⟩
theorem c65 : dropTo 0 (mcode 65) = k65_0 ∧ k65_0 = (0, 5, 0, []) :: (1, 39, 6, [0]) :: (4, 39, 5, [13]) :: (7, 52, 0, []) :: [] := ⟨q65_0, rfl⟩
theorem c66 : dropTo 0 (mcode 66) = k66_0 ∧ k66_0 = (0, 3, 1, []) :: (1, 0, 0, []) :: (2, 0, 60, []) :: (4, 48, 97, [3]) :: (7, 61, 12, []) :: (10, 0, (-1), []) :: (11, 52, 0, []) :: k66_12 ∧ dropTo 12 (mcode 66) = k66_12 ∧ k66_12 = (12, 5, 0, []) :: (13, 39, 6, [4]) :: (16, 5, 0, []) :: (17, 39, 6, [0]) :: (20, 49, 19, [1, 3]) :: (23, 0, 0, []) :: (24, 6, 2, []) :: k66_25 ∧ dropTo 25 (mcode 66) = k66_25 ∧ k66_25 = (25, 3, 2, []) :: (26, 3, 1, []) :: (27, 73, 59, []) :: (30, 5, 0, []) :: (31, 39, 6, [0]) :: (34, 39, 5, [13]) :: (37, 0, 120, []) :: (39, 73, 59, []) :: (42, 5, 0, []) :: (43, 39, 6, [4]) :: (46, 5, 0, []) :: (47, 39, 6, [0]) :: (50, 49, 22, [1, 3]) :: (53, 9, 2, [1]) :: (56, 36, 25, []) :: k66_59 ∧ dropTo 59 (mcode 66) = k66_59 ∧ k66_59 = (59, 5, 0, []) :: (60, 39, 6, [0]) :: (63, 39, 5, [13]) :: (66, 52, 0, []) :: [] := ⟨q66_0, rfl, q66_12, rfl, q66_25, rfl, q66_59, rfl⟩
theorem c67 : dropTo 0 (mcode 67) = k67_0 ∧ k67_0 = (0, 3, 1, []) :: (1, 0, 0, []) :: (2, 0, 120, []) :: (4, 48, 97, [3]) :: (7, 61, 12, []) :: (10, 0, (-1), []) :: (11, 52, 0, []) :: k67_12 ∧ dropTo 12 (mcode 67) = k67_12 ∧ k67_12 = (12, 5, 0, []) :: (13, 39, 6, [0]) :: (16, 39, 5, [13]) :: (19, 6, 2, []) :: (20, 5, 0, []) :: (21, 39, 6, [0]) :: (24, 3, 1, []) :: (25, 40, 5, [13]) :: (28, 3, 2, []) :: (29, 52, 0, []) :: [] := ⟨q67_0, rfl, q67_12, rfl⟩
theorem c68 : dropTo 0 (mcode 68) = k68_0 ∧ k68_0 = (0, 5, 0, []) :: (1, 39, 6, [0]) :: (4, 3, 1, []) :: (5, 49, 41, [1, 5]) :: (8, 61, 13, []) :: (11, 0, (-1), []) :: (12, 52, 0, []) :: k68_13 ∧ dropTo 13 (mcode 68) = k68_13 ∧ k68_13 = (13, 5, 0, []) :: (14, 49, 105, [0, 6]) :: (17, 5, 0, []) :: (18, 39, 6, [1]) :: (21, 39, 5, [7]) :: (24, 3, 1, []) :: (25, 41, 0, []) :: (26, 6, 2, []) :: (27, 3, 2, []) :: (28, 0, (-9), []) :: (30, 71, 38, []) :: (33, 0, (-3), []) :: (35, 36, 39, []) :: k68_38 ∧ dropTo 38 (mcode 68) = k68_38 ∧ k68_38 = (38, 3, 2, []) :: k68_39 ∧ dropTo 39 (mcode 68) = k68_39 ∧ k68_39 = (39, 52, 0, []) :: [] := ⟨q68_0, rfl, q68_13, rfl, q68_38, rfl, q68_39, rfl⟩
theorem c69 : dropTo 0 (mcode 69) = k69_0 ∧ k69_0 = (0, 5, 0, []) :: (1, 49, 105, [0, 6]) :: (4, 5, 0, []) :: (5, 39, 6, [1]) :: (8, 49, 52, [0, 5]) :: (11, 52, 0, []) :: [] := ⟨q69_0, rfl⟩
theorem c70 : dropTo 0 (mcode 70) = k70_0 ∧ k70_0 = (0, 5, 0, []) :: (1, 39, 6, [0]) :: (4, 3, 1, []) :: (5, 49, 41, [1, 5]) :: (8, 61, 13, []) :: (11, 0, (-1), []) :: (12, 52, 0, []) :: k70_13 ∧ dropTo 13 (mcode 70) = k70_13 ∧ k70_13 = (13, 5, 0, []) :: (14, 49, 105, [0, 6]) :: (17, 5, 0, []) :: (18, 39, 6, [4]) :: (21, 39, 3, [3]) :: (24, 3, 1, []) :: (25, 41, 0, []) :: (26, 52, 0, []) :: [] := ⟨q70_0, rfl, q70_13, rfl⟩
theorem c71 : dropTo 0 (mcode 71) = k71_0 ∧ k71_0 = (0, 3, 1, []) :: (1, 48, 99, [1]) :: (4, 61, 9, []) :: (7, 0, (-1), []) :: (8, 52, 0, []) :: k71_9 ∧ dropTo 9 (mcode 71) = k71_9 ∧ k71_9 = (9, 5, 0, []) :: (10, 49, 105, [0, 6]) :: (13, 5, 0, []) :: (14, 39, 6, [4]) :: (17, 39, 3, [6]) :: (20, 3, 1, []) :: (21, 41, 0, []) :: (22, 52, 0, []) :: [] := ⟨q71_0, rfl, q71_9, rfl⟩
theorem c72 : dropTo 0 (mcode 72) = k72_0 ∧ k72_0 = (0, 3, 1, []) :: (1, 48, 98, [1]) :: (4, 60, 23, []) :: (7, 3, 2, []) :: (8, 5, 0, []) :: (9, 39, 6, [0]) :: (12, 39, 5, [13]) :: (15, 0, 119, []) :: (17, 48, 97, [3]) :: (20, 61, 25, []) :: k72_23 ∧ dropTo 23 (mcode 72) = k72_23 ∧ k72_23 = (23, 0, (-1), []) :: (24, 52, 0, []) :: k72_25 ∧ dropTo 25 (mcode 72) = k72_25 ∧ k72_25 = (25, 5, 0, []) :: (26, 39, 6, [1]) :: (29, 5, 0, []) :: (30, 39, 6, [0]) :: (33, 49, 43, [1, 5]) :: (36, 5, 0, []) :: (37, 39, 6, [4]) :: (40, 5, 0, []) :: (41, 39, 6, [1]) :: (44, 3, 2, []) :: (45, 0, 1, []) :: (46, 10, 0, []) :: (47, 49, 21, [2, 3]) :: (50, 5, 0, []) :: (51, 39, 6, [1]) :: (54, 3, 1, []) :: (55, 49, 51, [1, 5]) :: (58, 52, 0, []) :: [] := ⟨q72_0, rfl, q72_23, rfl, q72_25, rfl⟩
theorem c73 : dropTo 0 (mcode 73) = k73_0 ∧ k73_0 = (0, 5, 0, []) :: (1, 39, 6, [1]) :: (4, 5, 0, []) :: (5, 39, 6, [0]) :: (8, 49, 43, [1, 5]) :: (11, 0, 0, []) :: (12, 6, 1, []) :: k73_13 ∧ dropTo 13 (mcode 73) = k73_13 ∧ k73_13 = (13, 3, 1, []) :: (14, 5, 0, []) :: (15, 39, 6, [1]) :: (18, 39, 5, [0]) :: (21, 73, 46, []) :: (24, 5, 0, []) :: (25, 39, 6, [1]) :: (28, 3, 1, []) :: (29, 0, 0, []) :: (30, 5, 0, []) :: (31, 39, 6, [0]) :: (34, 39, 5, [13]) :: (37, 49, 45, [3, 5]) :: (40, 9, 1, [1]) :: (43, 36, 13, []) :: k73_46 ∧ dropTo 46 (mcode 73) = k73_46 ∧ k73_46 = (46, 5, 0, []) :: (47, 39, 6, [4]) :: (50, 5, 0, []) :: (51, 39, 6, [1]) :: (54, 0, 120, []) :: (56, 49, 21, [2, 3]) :: (59, 5, 0, []) :: (60, 39, 6, [1]) :: (63, 49, 52, [0, 5]) :: (66, 6, 1, []) :: (67, 3, 1, []) :: (68, 0, (-3), []) :: (70, 71, 78, []) :: (73, 0, (-3), []) :: (75, 36, 89, []) :: k73_78 ∧ dropTo 78 (mcode 73) = k73_78 ∧ k73_78 = (78, 3, 1, []) :: (79, 5, 0, []) :: (80, 39, 6, [0]) :: (83, 39, 5, [13]) :: (86, 11, 0, []) :: (87, 0, 1, []) :: (88, 10, 0, []) :: k73_89 ∧ dropTo 89 (mcode 73) = k73_89 ∧ k73_89 = (89, 52, 0, []) :: [] := ⟨q73_0, rfl, q73_13, rfl, q73_46, rfl, q73_78, rfl, q73_89, rfl⟩
theorem c74 : dropTo 0 (mcode 74) = k74_0 ∧ k74_0 = (0, 5, 0, []) :: (1, 39, 6, [0]) :: (4, 3, 1, []) :: (5, 49, 41, [1, 5]) :: (8, 60, 21, []) :: (11, 3, 2, []) :: (12, 0, 0, []) :: (13, 0, 119, []) :: (15, 48, 97, [3]) :: (18, 61, 23, []) :: k74_21 ∧ dropTo 21 (mcode 74) = k74_21 ∧ k74_21 = (21, 0, (-1), []) :: (22, 52, 0, []) :: k74_23 ∧ dropTo 23 (mcode 74) = k74_23 ∧ k74_23 = (23, 5, 0, []) :: (24, 39, 6, [0]) :: (27, 39, 5, [13]) :: (30, 6, 3, []) :: (31, 0, 99, []) :: (33, 3, 2, []) :: (34, 56, 0, []) :: (37, 6, 4, []) :: (39, 3, 3, []) :: (40, 3, 4, []) :: (42, 74, 55, []) :: (45, 5, 0, []) :: (46, 3, 2, []) :: (47, 3, 1, []) :: (48, 3, 3, []) :: (49, 49, 106, [3, 6]) :: (52, 61, 58, []) :: k74_55 ∧ dropTo 55 (mcode 74) = k74_55 ∧ k74_55 = (55, 0, (-3), []) :: (57, 52, 0, []) :: k74_58 ∧ dropTo 58 (mcode 74) = k74_58 ∧ k74_58 = (58, 3, 3, []) :: (59, 3, 4, []) :: (61, 73, 100, []) :: (64, 3, 3, []) :: (65, 3, 4, []) :: (67, 10, 0, []) :: (68, 0, 1, []) :: (69, 10, 0, []) :: (70, 0, 2, []) :: (71, 13, 0, []) :: (72, 6, 5, []) :: (74, 5, 0, []) :: (75, 3, 2, []) :: (76, 3, 1, []) :: (77, 3, 5, []) :: (79, 49, 106, [3, 6]) :: (82, 60, 91, []) :: (85, 3, 5, []) :: (87, 6, 3, []) :: (88, 36, 97, []) :: k74_91 ∧ dropTo 91 (mcode 74) = k74_91 ∧ k74_91 = (91, 3, 5, []) :: (93, 0, 1, []) :: (94, 11, 0, []) :: (95, 6, 4, []) :: k74_97 ∧ dropTo 97 (mcode 74) = k74_97 ∧ k74_97 = (97, 36, 58, []) :: k74_100 ∧ dropTo 100 (mcode 74) = k74_100 ∧ k74_100 = (100, 3, 3, []) :: (101, 52, 0, []) :: [] := ⟨q74_0, rfl, q74_21, rfl, q74_23, rfl, q74_55, rfl, q74_58, rfl, q74_91, rfl, q74_97, rfl, q74_100, rfl⟩
theorem c75 : dropTo 0 (mcode 75) = k75_0 ∧ k75_0 = (0, 0, (-3), []) :: (2, 6, 1, []) :: (3, 0, 120, []) :: (5, 6, 2, []) :: (6, 0, 0, []) :: (7, 6, 3, []) :: k75_8 ∧ dropTo 8 (mcode 75) = k75_8 ∧ k75_8 = (8, 3, 3, []) :: (9, 5, 0, []) :: (10, 39, 6, [0]) :: (13, 39, 5, [0]) :: (16, 73, 114, []) :: (19, 3, 3, []) :: (20, 0, 1, []) :: (21, 10, 0, []) :: (22, 6, 4, []) :: k75_24 ∧ dropTo 24 (mcode 75) = k75_24 ∧ k75_24 = (24, 3, 4, []) :: (26, 5, 0, []) :: (27, 39, 6, [0]) :: (30, 39, 5, [0]) :: (33, 73, 108, []) :: (36, 5, 0, []) :: (37, 39, 6, [0]) :: (40, 39, 5, [7]) :: (43, 3, 3, []) :: (44, 41, 0, []) :: (45, 0, (-9), []) :: (47, 71, 102, []) :: (50, 5, 0, []) :: (51, 39, 6, [0]) :: (54, 39, 5, [7]) :: (57, 3, 4, []) :: (59, 41, 0, []) :: (60, 0, (-9), []) :: (62, 70, 68, []) :: (65, 36, 102, []) :: k75_68 ∧ dropTo 68 (mcode 75) = k75_68 ∧ k75_68 = (68, 5, 0, []) :: (69, 3, 3, []) :: (70, 3, 4, []) :: (72, 3, 2, []) :: (73, 49, 107, [3, 6]) :: (76, 6, 5, []) :: (78, 3, 5, []) :: (80, 0, (-3), []) :: (82, 70, 102, []) :: (85, 3, 5, []) :: (87, 3, 2, []) :: (88, 73, 102, []) :: (91, 3, 5, []) :: (93, 6, 2, []) :: (94, 0, 10, []) :: (96, 3, 3, []) :: (97, 12, 0, []) :: (98, 3, 4, []) :: (100, 10, 0, []) :: (101, 6, 1, []) :: k75_102 ∧ dropTo 102 (mcode 75) = k75_102 ∧ k75_102 = (102, 9, 4, [1]) :: (105, 36, 24, []) :: k75_108 ∧ dropTo 108 (mcode 75) = k75_108 ∧ k75_108 = (108, 9, 3, [1]) :: (111, 36, 8, []) :: k75_114 ∧ dropTo 114 (mcode 75) = k75_114 ∧ k75_114 = (114, 3, 1, []) :: (115, 52, 0, []) :: [] := ⟨q75_0, rfl, q75_8, rfl, q75_24, rfl, q75_68, rfl, q75_102, rfl, q75_108, rfl, q75_114, rfl⟩
theorem c76 : dropTo 0 (mcode 76) = k76_0 ∧ k76_0 = (0, 3, 1, []) :: (1, 0, 0, []) :: (2, 0, 119, []) :: (4, 48, 97, [3]) :: (7, 61, 12, []) :: (10, 0, (-1), []) :: (11, 52, 0, []) :: k76_12 ∧ dropTo 12 (mcode 76) = k76_12 ∧ k76_12 = (12, 0, 1, []) :: (13, 6, 2, []) :: k76_14 ∧ dropTo 14 (mcode 76) = k76_14 ∧ k76_14 = (14, 3, 2, []) :: (15, 0, 9, []) :: (17, 74, 72, []) :: (20, 5, 0, []) :: (21, 39, 6, [1]) :: (24, 5, 0, []) :: (25, 39, 6, [0]) :: (28, 49, 43, [1, 5]) :: (31, 5, 0, []) :: (32, 39, 6, [1]) :: (35, 3, 2, []) :: (36, 40, 5, [12]) :: (39, 5, 0, []) :: (40, 39, 6, [4]) :: (43, 5, 0, []) :: (44, 39, 6, [1]) :: (47, 3, 1, []) :: (48, 0, 1, []) :: (49, 10, 0, []) :: (50, 49, 21, [2, 3]) :: (53, 5, 0, []) :: (54, 39, 6, [1]) :: (57, 3, 1, []) :: (58, 49, 53, [1, 5]) :: (61, 60, 66, []) :: (64, 3, 2, []) :: (65, 52, 0, []) :: k76_66 ∧ dropTo 66 (mcode 76) = k76_66 ∧ k76_66 = (66, 9, 2, [1]) :: (69, 36, 14, []) :: k76_72 ∧ dropTo 72 (mcode 76) = k76_72 ∧ k76_72 = (72, 0, (-3), []) :: (74, 52, 0, []) :: [] := ⟨q76_0, rfl, q76_12, rfl, q76_14, rfl, q76_66, rfl, q76_72, rfl⟩
theorem c77 : dropTo 0 (mcode 77) = k77_0 ∧ k77_0 = (0, 3, 1, []) :: (1, 0, 1, []) :: (2, 0, 30, []) :: (4, 48, 97, [3]) :: (7, 61, 12, []) :: (10, 0, (-1), []) :: (11, 52, 0, []) :: k77_12 ∧ dropTo 12 (mcode 77) = k77_12 ∧ k77_12 = (12, 5, 0, []) :: (13, 39, 6, [0]) :: (16, 39, 5, [8]) :: (19, 0, 4, []) :: (20, 72, 26, []) :: (23, 0, (-2), []) :: (25, 52, 0, []) :: k77_26 ∧ dropTo 26 (mcode 77) = k77_26 ∧ k77_26 = (26, 5, 0, []) :: (27, 39, 6, [0]) :: (30, 39, 5, [13]) :: (33, 0, 99, []) :: (35, 75, 41, []) :: (38, 0, (-4), []) :: (40, 52, 0, []) :: k77_41 ∧ dropTo 41 (mcode 77) = k77_41 ∧ k77_41 = (41, 0, 0, []) :: (42, 6, 2, []) :: (43, 0, (-1), []) :: (44, 6, 3, []) :: (45, 0, 0, []) :: (46, 6, 4, []) :: k77_48 ∧ dropTo 48 (mcode 77) = k77_48 ∧ k77_48 = (48, 3, 4, []) :: (50, 0, 9, []) :: (52, 73, 135, []) :: (55, 5, 0, []) :: (56, 39, 6, [1]) :: (59, 5, 0, []) :: (60, 39, 6, [0]) :: (63, 49, 43, [1, 5]) :: (66, 5, 0, []) :: (67, 39, 6, [1]) :: (70, 3, 4, []) :: (72, 5, 0, []) :: (73, 39, 6, [0]) :: (76, 39, 5, [13]) :: (79, 3, 1, []) :: (80, 49, 46, [3, 5]) :: (83, 5, 0, []) :: (84, 39, 6, [4]) :: (87, 5, 0, []) :: (88, 39, 6, [1]) :: (91, 0, 120, []) :: (93, 49, 21, [2, 3]) :: (96, 5, 0, []) :: (97, 39, 6, [1]) :: (100, 49, 52, [0, 5]) :: (103, 6, 5, []) :: (105, 3, 5, []) :: (107, 0, (-3), []) :: (109, 71, 117, []) :: (112, 0, 999, []) :: (115, 6, 5, []) :: k77_117 ∧ dropTo 117 (mcode 77) = k77_117 ∧ k77_117 = (117, 3, 5, []) :: (119, 3, 3, []) :: (120, 75, 129, []) :: (123, 3, 5, []) :: (125, 6, 3, []) :: (126, 3, 4, []) :: (128, 6, 2, []) :: k77_129 ∧ dropTo 129 (mcode 77) = k77_129 ∧ k77_129 = (129, 9, 4, [1]) :: (132, 36, 48, []) :: k77_135 ∧ dropTo 135 (mcode 77) = k77_135 ∧ k77_135 = (135, 3, 2, []) :: (136, 52, 0, []) :: [] := ⟨q77_0, rfl, q77_12, rfl, q77_26, rfl, q77_41, rfl, q77_48, rfl, q77_117, rfl, q77_129, rfl, q77_135, rfl⟩
theorem c78 : dropTo 0 (mcode 78) = k78_0 ∧ k78_0 = (0, 3, 1, []) :: (1, 48, 98, [1]) :: (4, 60, 15, []) :: (7, 5, 0, []) :: (8, 3, 1, []) :: (9, 49, 108, [1, 6]) :: (12, 36, 16, []) :: k78_15 ∧ dropTo 15 (mcode 78) = k78_15 ∧ k78_15 = (15, 0, (-1), []) :: k78_16 ∧ dropTo 16 (mcode 78) = k78_16 ∧ k78_16 = (16, 52, 0, []) :: [] := ⟨q78_0, rfl, q78_15, rfl, q78_16, rfl⟩
theorem c79 : dropTo 0 (mcode 79) = k79_0 ∧ k79_0 = (0, 0, 0, []) :: (1, 6, 1, []) :: (2, 5, 0, []) :: (3, 0, 0, []) :: (4, 49, 108, [1, 6]) :: (7, 6, 2, []) :: (8, 0, 1, []) :: (9, 6, 3, []) :: k79_10 ∧ dropTo 10 (mcode 79) = k79_10 ∧ k79_10 = (10, 3, 3, []) :: (11, 0, 9, []) :: (13, 74, 40, []) :: (16, 5, 0, []) :: (17, 3, 3, []) :: (18, 49, 108, [1, 6]) :: (21, 6, 4, []) :: (23, 3, 4, []) :: (25, 3, 2, []) :: (26, 73, 34, []) :: (29, 3, 4, []) :: (31, 6, 2, []) :: (32, 3, 3, []) :: (33, 6, 1, []) :: k79_34 ∧ dropTo 34 (mcode 79) = k79_34 ∧ k79_34 = (34, 9, 3, [1]) :: (37, 36, 10, []) :: k79_40 ∧ dropTo 40 (mcode 79) = k79_40 ∧ k79_40 = (40, 3, 1, []) :: (41, 52, 0, []) :: [] := ⟨q79_0, rfl, q79_10, rfl, q79_34, rfl, q79_40, rfl⟩
theorem c80 : dropTo 0 (mcode 80) = k80_0 ∧ k80_0 = (0, 5, 0, []) :: (1, 39, 6, [0]) :: (4, 39, 5, [14]) :: (7, 6, 2, []) :: (8, 5, 0, []) :: (9, 39, 6, [0]) :: (12, 3, 1, []) :: (13, 40, 5, [14]) :: (16, 3, 2, []) :: (17, 52, 0, []) :: [] := ⟨q80_0, rfl⟩
theorem c81 : dropTo 0 (mcode 81) = k81_0 ∧ k81_0 = (0, 5, 0, []) :: (1, 39, 6, [0]) :: (4, 3, 1, []) :: (5, 49, 41, [1, 5]) :: (8, 61, 13, []) :: (11, 0, (-1), []) :: (12, 52, 0, []) :: k81_13 ∧ dropTo 13 (mcode 81) = k81_13 ∧ k81_13 = (13, 5, 0, []) :: (14, 39, 6, [0]) :: (17, 5, 0, []) :: (18, 39, 6, [0]) :: (21, 39, 5, [14]) :: (24, 0, 1103515245, []) :: (26, 12, 0, []) :: (27, 0, 12345, []) :: (30, 10, 0, []) :: (31, 40, 5, [14]) :: (34, 5, 0, []) :: (35, 39, 6, [0]) :: (38, 39, 5, [5]) :: (41, 3, 1, []) :: (42, 5, 0, []) :: (43, 39, 6, [0]) :: (46, 39, 5, [14]) :: (49, 0, 16, []) :: (51, 20, 0, []) :: (52, 0, 100, []) :: (54, 14, 0, []) :: (55, 42, 0, []) :: (56, 5, 0, []) :: (57, 39, 6, [0]) :: (60, 39, 5, [5]) :: (63, 3, 1, []) :: (64, 41, 0, []) :: (65, 52, 0, []) :: [] := ⟨q81_0, rfl, q81_13, rfl⟩
theorem c82 : dropTo 0 (mcode 82) = k82_0 ∧ k82_0 = (0, 3, 1, []) :: (1, 0, 1, []) :: (2, 0, 20, []) :: (4, 48, 97, [3]) :: (7, 61, 12, []) :: (10, 0, (-1), []) :: (11, 52, 0, []) :: k82_12 ∧ dropTo 12 (mcode 82) = k82_12 ∧ k82_12 = (12, 5, 0, []) :: (13, 39, 6, [1]) :: (16, 5, 0, []) :: (17, 39, 6, [0]) :: (20, 49, 43, [1, 5]) :: (23, 5, 0, []) :: (24, 39, 6, [4]) :: (27, 5, 0, []) :: (28, 39, 6, [1]) :: (31, 49, 19, [1, 3]) :: (34, 5, 0, []) :: (35, 3, 1, []) :: (36, 0, 120, []) :: (38, 5, 0, []) :: (39, 39, 6, [0]) :: (42, 39, 5, [13]) :: (45, 11, 0, []) :: (46, 56, 0, []) :: (49, 40, 6, [8]) :: (52, 0, 0, []) :: (53, 6, 2, []) :: k82_54 ∧ dropTo 54 (mcode 82) = k82_54 ∧ k82_54 = (54, 3, 2, []) :: (55, 5, 0, []) :: (56, 39, 6, [8]) :: (59, 73, 78, []) :: (62, 5, 0, []) :: (63, 5, 0, []) :: (64, 39, 6, [6]) :: (67, 3, 2, []) :: (68, 47, 0, []) :: (69, 49, 109, [1, 6]) :: (72, 9, 2, [1]) :: (75, 36, 54, []) :: k82_78 ∧ dropTo 78 (mcode 82) = k82_78 ∧ k82_78 = (78, 5, 0, []) :: (79, 39, 6, [8]) :: (82, 52, 0, []) :: [] := ⟨q82_0, rfl, q82_12, rfl, q82_54, rfl, q82_78, rfl⟩
theorem c83 : dropTo 0 (mcode 83) = k83_0 ∧ k83_0 = (0, 5, 0, []) :: (1, 3, 1, []) :: (2, 3, 2, []) :: (3, 49, 104, [2, 6]) :: (6, 60, 20, []) :: (9, 5, 0, []) :: (10, 39, 6, [6]) :: (13, 3, 1, []) :: (14, 47, 0, []) :: (15, 3, 2, []) :: (16, 41, 0, []) :: (17, 36, 22, []) :: k83_20 ∧ dropTo 20 (mcode 83) = k83_20 ∧ k83_20 = (20, 0, (-9), []) :: k83_22 ∧ dropTo 22 (mcode 83) = k83_22 ∧ k83_22 = (22, 52, 0, []) :: [] := ⟨q83_0, rfl, q83_20, rfl, q83_22, rfl⟩
theorem c84 : dropTo 0 (mcode 84) = k84_0 ∧ k84_0 = (0, 5, 0, []) :: (1, 3, 1, []) :: (2, 3, 2, []) :: (3, 49, 104, [2, 6]) :: (6, 61, 12, []) :: (9, 0, (-9), []) :: (11, 52, 0, []) :: k84_12 ∧ dropTo 12 (mcode 84) = k84_12 ∧ k84_12 = (12, 5, 0, []) :: (13, 39, 6, [6]) :: (16, 3, 1, []) :: (17, 47, 0, []) :: (18, 3, 2, []) :: (19, 41, 0, []) :: (20, 6, 4, []) :: (22, 5, 0, []) :: (23, 39, 6, [6]) :: (26, 3, 1, []) :: (27, 47, 0, []) :: (28, 3, 2, []) :: (29, 3, 3, []) :: (30, 42, 0, []) :: (31, 3, 4, []) :: (33, 52, 0, []) :: [] := ⟨q84_0, rfl, q84_12, rfl⟩
theorem c85 : dropTo 0 (mcode 85) = k85_0 ∧ k85_0 = (0, 5, 0, []) :: (1, 39, 6, [1]) :: (4, 5, 0, []) :: (5, 39, 6, [0]) :: (8, 49, 43, [1, 5]) :: (11, 5, 0, []) :: (12, 39, 6, [4]) :: (15, 5, 0, []) :: (16, 39, 6, [1]) :: (19, 49, 19, [1, 3]) :: (22, 0, 0, []) :: (23, 6, 1, []) :: k85_24 ∧ dropTo 24 (mcode 85) = k85_24 ∧ k85_24 = (24, 3, 1, []) :: (25, 5, 0, []) :: (26, 39, 6, [8]) :: (29, 73, 79, []) :: (32, 5, 0, []) :: (33, 39, 6, [1]) :: (36, 39, 5, [13]) :: (39, 0, 120, []) :: (41, 72, 48, []) :: (44, 3, 1, []) :: (45, 0, 1, []) :: (46, 10, 0, []) :: (47, 52, 0, []) :: k85_48 ∧ dropTo 48 (mcode 85) = k85_48 ∧ k85_48 = (48, 5, 0, []) :: (49, 5, 0, []) :: (50, 39, 6, [7]) :: (53, 49, 109, [1, 6]) :: (56, 5, 0, []) :: (57, 5, 0, []) :: (58, 39, 6, [6]) :: (61, 3, 1, []) :: (62, 47, 0, []) :: (63, 49, 110, [1, 6]) :: (66, 61, 73, []) :: (69, 3, 1, []) :: (70, 0, 1, []) :: (71, 10, 0, []) :: (72, 52, 0, []) :: k85_73 ∧ dropTo 73 (mcode 85) = k85_73 ∧ k85_73 = (73, 9, 1, [1]) :: (76, 36, 24, []) :: k85_79 ∧ dropTo 79 (mcode 85) = k85_79 ∧ k85_79 = (79, 0, 0, []) :: (80, 52, 0, []) :: [] := ⟨q85_0, rfl, q85_24, rfl, q85_48, rfl, q85_73, rfl, q85_79, rfl⟩
theorem c86 : dropTo 0 (mcode 86) = k86_0 ∧ k86_0 = (0, 3, 1, []) :: (1, 48, 101, [1]) :: (4, 60, 43, []) :: (7, 5, 0, []) :: (8, 39, 6, [0]) :: (11, 3, 3, []) :: (12, 49, 41, [1, 5]) :: (15, 60, 43, []) :: (18, 3, 4, []) :: (20, 0, 0, []) :: (21, 0, 8, []) :: (23, 48, 97, [3]) :: (26, 60, 43, []) :: (29, 3, 3, []) :: (30, 3, 4, []) :: (32, 10, 0, []) :: (33, 5, 0, []) :: (34, 39, 6, [0]) :: (37, 39, 5, [0]) :: (40, 75, 45, []) :: k86_43 ∧ dropTo 43 (mcode 86) = k86_43 ∧ k86_43 = (43, 0, (-1), []) :: (44, 52, 0, []) :: k86_45 ∧ dropTo 45 (mcode 86) = k86_45 ∧ k86_45 = (45, 5, 0, []) :: (46, 39, 6, [9]) :: (49, 3, 1, []) :: (50, 47, 0, []) :: (51, 8, 5, []) :: (53, 5, 5, []) :: (55, 39, 1, [0]) :: (58, 0, (-1), []) :: (59, 71, 65, []) :: (62, 0, (-11), []) :: (64, 52, 0, []) :: k86_65 ∧ dropTo 65 (mcode 86) = k86_65 ∧ k86_65 = (65, 5, 5, []) :: (67, 39, 1, [0]) :: (70, 0, 1, []) :: (71, 70, 77, []) :: (74, 0, (-13), []) :: (76, 52, 0, []) :: k86_77 ∧ dropTo 77 (mcode 86) = k86_77 ∧ k86_77 = (77, 3, 2, []) :: (78, 0, 0, []) :: (79, 5, 5, []) :: (81, 39, 1, [1]) :: (84, 3, 4, []) :: (86, 11, 0, []) :: (87, 48, 97, [3]) :: (90, 61, 96, []) :: (93, 0, (-12), []) :: (95, 52, 0, []) :: k86_96 ∧ dropTo 96 (mcode 86) = k86_96 ∧ k86_96 = (96, 0, 0, []) :: (97, 6, 6, []) :: k86_99 ∧ dropTo 99 (mcode 86) = k86_99 ∧ k86_99 = (99, 3, 6, []) :: (101, 3, 4, []) :: (103, 73, 143, []) :: (106, 5, 0, []) :: (107, 39, 6, [0]) :: (110, 39, 5, [5]) :: (113, 3, 3, []) :: (114, 3, 6, []) :: (116, 10, 0, []) :: (117, 0, 0, []) :: (118, 0, 99, []) :: (120, 5, 5, []) :: (122, 39, 1, [2]) :: (125, 3, 2, []) :: (126, 3, 6, []) :: (128, 10, 0, []) :: (129, 41, 0, []) :: (130, 56, 0, []) :: (133, 55, 0, []) :: (136, 42, 0, []) :: (137, 9, 6, [1]) :: (140, 36, 99, []) :: k86_143 ∧ dropTo 143 (mcode 86) = k86_143 ∧ k86_143 = (143, 3, 4, []) :: (145, 52, 0, []) :: [] := ⟨q86_0, rfl, q86_43, rfl, q86_45, rfl, q86_65, rfl, q86_77, rfl, q86_96, rfl, q86_99, rfl, q86_143, rfl⟩
theorem c87 : dropTo 0 (mcode 87) = k87_0 ∧ k87_0 = (0, 3, 1, []) :: (1, 48, 101, [1]) :: (4, 60, 16, []) :: (7, 3, 2, []) :: (8, 0, (-1), []) :: (9, 0, 3, []) :: (10, 48, 97, [3]) :: (13, 61, 18, []) :: k87_16 ∧ dropTo 16 (mcode 87) = k87_16 ∧ k87_16 = (16, 0, (-1), []) :: (17, 52, 0, []) :: k87_18 ∧ dropTo 18 (mcode 87) = k87_18 ∧ k87_18 = (18, 3, 2, []) :: (19, 0, (-1), []) :: (20, 71, 36, []) :: (23, 5, 0, []) :: (24, 39, 6, [9]) :: (27, 3, 1, []) :: (28, 47, 0, []) :: (29, 0, (-1), []) :: (30, 0, 0, []) :: (31, 49, 14, [2, 1]) :: (34, 0, 1, []) :: (35, 52, 0, []) :: k87_36 ∧ dropTo 36 (mcode 87) = k87_36 ∧ k87_36 = (36, 3, 3, []) :: (37, 0, 40, []) :: (39, 75, 44, []) :: (42, 0, (-1), []) :: (43, 52, 0, []) :: k87_44 ∧ dropTo 44 (mcode 87) = k87_44 ∧ k87_44 = (44, 3, 3, []) :: (45, 63, 51, []) :: (48, 0, (-14), []) :: (50, 52, 0, []) :: k87_51 ∧ dropTo 51 (mcode 87) = k87_51 ∧ k87_51 = (51, 5, 0, []) :: (52, 39, 6, [9]) :: (55, 3, 1, []) :: (56, 47, 0, []) :: (57, 3, 2, []) :: (58, 3, 3, []) :: (59, 49, 14, [2, 1]) :: (62, 0, 1, []) :: (63, 52, 0, []) :: [] := ⟨q87_0, rfl, q87_16, rfl, q87_18, rfl, q87_36, rfl, q87_44, rfl, q87_51, rfl⟩
theorem c88 : dropTo 0 (mcode 88) = k88_0 ∧ k88_0 = (0, 3, 1, []) :: (1, 48, 101, [1]) :: (4, 61, 9, []) :: (7, 0, (-1), []) :: (8, 52, 0, []) :: k88_9 ∧ dropTo 9 (mcode 88) = k88_9 ∧ k88_9 = (9, 5, 0, []) :: (10, 39, 6, [9]) :: (13, 3, 1, []) :: (14, 47, 0, []) :: (15, 8, 4, []) :: (17, 5, 4, []) :: (19, 39, 1, [0]) :: (22, 0, (-1), []) :: (23, 71, 29, []) :: (26, 0, (-11), []) :: (28, 52, 0, []) :: k88_29 ∧ dropTo 29 (mcode 88) = k88_29 ∧ k88_29 = (29, 3, 2, []) :: (30, 0, 0, []) :: (31, 5, 4, []) :: (33, 39, 1, [1]) :: (36, 0, 1, []) :: (37, 11, 0, []) :: (38, 48, 97, [3]) :: (41, 61, 47, []) :: (44, 0, (-12), []) :: (46, 52, 0, []) :: k88_47 ∧ dropTo 47 (mcode 88) = k88_47 ∧ k88_47 = (47, 5, 4, []) :: (49, 39, 1, [2]) :: (52, 3, 2, []) :: (53, 5, 4, []) :: (55, 3, 3, []) :: (56, 49, 15, [1, 1]) :: (59, 42, 0, []) :: (60, 0, 1, []) :: (61, 52, 0, []) :: [] := ⟨q88_0, rfl, q88_9, rfl, q88_29, rfl, q88_47, rfl⟩
theorem c89 : dropTo 0 (mcode 89) = k89_0 ∧ k89_0 = (0, 3, 1, []) :: (1, 48, 101, [1]) :: (4, 60, 14, []) :: (7, 3, 2, []) :: (8, 48, 103, [1]) :: (11, 61, 16, []) :: k89_14 ∧ dropTo 14 (mcode 89) = k89_14 ∧ k89_14 = (14, 0, (-1), []) :: (15, 52, 0, []) :: k89_16 ∧ dropTo 16 (mcode 89) = k89_16 ∧ k89_16 = (16, 5, 0, []) :: (17, 39, 6, [9]) :: (20, 3, 1, []) :: (21, 47, 0, []) :: (22, 8, 4, []) :: (24, 5, 4, []) :: (26, 39, 1, [0]) :: (29, 0, (-1), []) :: (30, 71, 36, []) :: (33, 0, (-11), []) :: (35, 52, 0, []) :: k89_36 ∧ dropTo 36 (mcode 89) = k89_36 ∧ k89_36 = (36, 5, 4, []) :: (38, 39, 1, [0]) :: (41, 3, 2, []) :: (42, 70, 48, []) :: (45, 0, (-13), []) :: (47, 52, 0, []) :: k89_48 ∧ dropTo 48 (mcode 89) = k89_48 ∧ k89_48 = (48, 3, 3, []) :: (49, 0, 0, []) :: (50, 5, 4, []) :: (52, 39, 1, [1]) :: (55, 0, 1, []) :: (56, 11, 0, []) :: (57, 48, 97, [3]) :: (60, 61, 66, []) :: (63, 0, (-12), []) :: (65, 52, 0, []) :: k89_66 ∧ dropTo 66 (mcode 89) = k89_66 ∧ k89_66 = (66, 5, 4, []) :: (68, 39, 1, [2]) :: (71, 3, 3, []) :: (72, 41, 0, []) :: (73, 52, 0, []) :: [] := ⟨q89_0, rfl, q89_14, rfl, q89_16, rfl, q89_36, rfl, q89_48, rfl, q89_66, rfl⟩
theorem c90 : dropTo 0 (mcode 90) = k90_0 ∧ k90_0 = (0, 3, 1, []) :: (1, 48, 102, [1]) :: (4, 61, 9, []) :: (7, 0, (-1), []) :: (8, 52, 0, []) :: k90_9 ∧ dropTo 9 (mcode 90) = k90_9 ∧ k90_9 = (9, 3, 2, []) :: (10, 37, 98, [0, 36, 61, 87]) :: k90_36 ∧ dropTo 36 (mcode 90) = k90_36 ∧ k90_36 = (36, 5, 0, []) :: (37, 39, 6, [0]) :: (40, 3, 3, []) :: (41, 49, 41, [1, 5]) :: (44, 61, 49, []) :: (47, 0, (-1), []) :: (48, 52, 0, []) :: k90_49 ∧ dropTo 49 (mcode 90) = k90_49 ∧ k90_49 = (49, 5, 0, []) :: (50, 39, 6, [10]) :: (53, 3, 1, []) :: (54, 47, 0, []) :: (55, 3, 3, []) :: (56, 49, 17, [1, 2]) :: (59, 0, 1, []) :: (60, 52, 0, []) :: k90_61 ∧ dropTo 61 (mcode 90) = k90_61 ∧ k90_61 = (61, 3, 3, []) :: (62, 48, 101, [1]) :: (65, 61, 70, []) :: (68, 0, (-1), []) :: (69, 52, 0, []) :: k90_70 ∧ dropTo 70 (mcode 90) = k90_70 ∧ k90_70 = (70, 5, 0, []) :: (71, 39, 6, [10]) :: (74, 3, 1, []) :: (75, 47, 0, []) :: (76, 5, 0, []) :: (77, 39, 6, [9]) :: (80, 3, 3, []) :: (81, 47, 0, []) :: (82, 49, 18, [1, 2]) :: (85, 0, 1, []) :: (86, 52, 0, []) :: k90_87 ∧ dropTo 87 (mcode 90) = k90_87 ∧ k90_87 = (87, 5, 0, []) :: (88, 39, 6, [10]) :: (91, 3, 1, []) :: (92, 47, 0, []) :: (93, 49, 16, [0, 2]) :: (96, 0, 1, []) :: (97, 52, 0, []) :: k90_98 ∧ dropTo 98 (mcode 90) = k90_98 ∧ k90_98 = (98, 0, (-1), []) :: (99, 52, 0, []) :: [] := ⟨q90_0, rfl, q90_9, rfl, q90_36, rfl, q90_49, rfl, q90_61, rfl, q90_70, rfl, q90_87, rfl, q90_98, rfl⟩
theorem c91 : dropTo 0 (mcode 91) = k91_0 ∧ k91_0 = (0, 3, 2, []) :: (1, 0, 10, []) :: (3, 11, 0, []) :: (4, 48, 103, [1]) :: (7, 6, 3, []) :: (8, 3, 1, []) :: (9, 48, 102, [1]) :: (12, 60, 26, []) :: (15, 3, 2, []) :: (16, 48, 100, [1]) :: (19, 61, 28, []) :: (22, 3, 3, []) :: (23, 61, 28, []) :: k91_26 ∧ dropTo 26 (mcode 91) = k91_26 ∧ k91_26 = (26, 0, (-1), []) :: (27, 52, 0, []) :: k91_28 ∧ dropTo 28 (mcode 91) = k91_28 ∧ k91_28 = (28, 5, 0, []) :: (29, 39, 6, [10]) :: (32, 3, 1, []) :: (33, 47, 0, []) :: (34, 8, 4, []) :: (36, 5, 4, []) :: (38, 39, 2, [0]) :: (41, 0, 1, []) :: (42, 71, 72, []) :: (45, 3, 3, []) :: (46, 60, 69, []) :: (49, 5, 4, []) :: (51, 39, 2, [2]) :: (54, 3, 2, []) :: (55, 0, 10, []) :: (57, 11, 0, []) :: (58, 71, 69, []) :: (61, 5, 4, []) :: (63, 39, 2, [3]) :: (66, 36, 71, []) :: k91_69 ∧ dropTo 69 (mcode 91) = k91_69 ∧ k91_69 = (69, 0, (-13), []) :: k91_71 ∧ dropTo 71 (mcode 91) = k91_71 ∧ k91_71 = (71, 52, 0, []) :: k91_72 ∧ dropTo 72 (mcode 91) = k91_72 ∧ k91_72 = (72, 5, 0, []) :: (73, 3, 1, []) :: (74, 49, 111, [1, 6]) :: (77, 6, 5, []) :: (79, 3, 5, []) :: (81, 0, (-3), []) :: (83, 71, 89, []) :: (86, 0, (-11), []) :: (88, 52, 0, []) :: k91_89 ∧ dropTo 89 (mcode 91) = k91_89 ∧ k91_89 = (89, 3, 3, []) :: (90, 61, 115, []) :: (93, 5, 0, []) :: (94, 39, 6, [0]) :: (97, 39, 5, [1]) :: (100, 3, 5, []) :: (102, 41, 0, []) :: (103, 3, 2, []) :: (104, 48, 13, [2]) :: (107, 60, 115, []) :: (110, 3, 5, []) :: (112, 36, 117, []) :: k91_115 ∧ dropTo 115 (mcode 91) = k91_115 ∧ k91_115 = (115, 0, (-13), []) :: k91_117 ∧ dropTo 117 (mcode 91) = k91_117 ∧ k91_117 = (117, 52, 0, []) :: [] := ⟨q91_0, rfl, q91_26, rfl, q91_28, rfl, q91_69, rfl, q91_71, rfl, q91_72, rfl, q91_89, rfl, q91_115, rfl, q91_117, rfl⟩
theorem c92 : dropTo 0 (mcode 92) = k92_0 ∧ k92_0 = (0, 5, 0, []) :: (1, 39, 6, [11]) :: (4, 49, 0, [0, 0]) :: (7, 5, 0, []) :: (8, 3, 1, []) :: (9, 49, 111, [1, 6]) :: (12, 6, 4, []) :: (14, 3, 4, []) :: (16, 0, (-3), []) :: (18, 71, 23, []) :: (21, 0, 0, []) :: (22, 52, 0, []) :: k92_23 ∧ dropTo 23 (mcode 92) = k92_23 ∧ k92_23 = (23, 5, 0, []) :: (24, 39, 6, [11]) :: (27, 5, 0, []) :: (28, 39, 6, [0]) :: (31, 39, 5, [1]) :: (34, 3, 4, []) :: (36, 41, 0, []) :: (37, 3, 4, []) :: (39, 5, 0, []) :: (40, 39, 6, [0]) :: (43, 39, 5, [2]) :: (46, 3, 4, []) :: (48, 41, 0, []) :: (49, 49, 1, [3, 0]) :: (52, 5, 0, []) :: (53, 39, 6, [11]) :: (56, 3, 2, []) :: (57, 3, 3, []) :: (58, 49, 2, [2, 0]) :: (61, 52, 0, []) :: [] := ⟨q92_0, rfl, q92_23, rfl⟩
theorem c93 : dropTo 0 (mcode 93) = k93_0 ∧ k93_0 = (0, 3, 1, []) :: (1, 0, 0, []) :: (2, 5, 0, []) :: (3, 39, 6, [11]) :: (6, 39, 0, [4]) :: (9, 0, 1, []) :: (10, 11, 0, []) :: (11, 48, 97, [3]) :: (14, 60, 29, []) :: (17, 5, 0, []) :: (18, 39, 6, [11]) :: (21, 39, 0, [3]) :: (24, 3, 1, []) :: (25, 41, 0, []) :: (26, 36, 31, []) :: k93_29 ∧ dropTo 29 (mcode 93) = k93_29 ∧ k93_29 = (29, 0, (-3), []) :: k93_31 ∧ dropTo 31 (mcode 93) = k93_31 ∧ k93_31 = (31, 52, 0, []) :: [] := ⟨q93_0, rfl, q93_29, rfl, q93_31, rfl⟩
theorem c94 : dropTo 0 (mcode 94) = k94_0 ∧ k94_0 = (0, 3, 1, []) :: (1, 37, 88, [0, 40, 48, 56, 67, 72, 80]) :: k94_40 ∧ dropTo 40 (mcode 94) = k94_40 ∧ k94_40 = (40, 5, 0, []) :: (41, 39, 6, [0]) :: (44, 39, 5, [0]) :: (47, 52, 0, []) :: k94_48 ∧ dropTo 48 (mcode 94) = k94_48 ∧ k94_48 = (48, 5, 0, []) :: (49, 39, 6, [0]) :: (52, 39, 5, [8]) :: (55, 52, 0, []) :: k94_56 ∧ dropTo 56 (mcode 94) = k94_56 ∧ k94_56 = (56, 5, 0, []) :: (57, 39, 6, [0]) :: (60, 49, 49, [0, 5]) :: (63, 48, 215, [1]) :: (66, 52, 0, []) :: k94_67 ∧ dropTo 67 (mcode 94) = k94_67 ∧ k94_67 = (67, 5, 0, []) :: (68, 39, 6, [8]) :: (71, 52, 0, []) :: k94_72 ∧ dropTo 72 (mcode 94) = k94_72 ∧ k94_72 = (72, 5, 0, []) :: (73, 39, 6, [5]) :: (76, 39, 4, [1]) :: (79, 52, 0, []) :: k94_80 ∧ dropTo 80 (mcode 94) = k94_80 ∧ k94_80 = (80, 5, 0, []) :: (81, 39, 6, [11]) :: (84, 39, 0, [4]) :: (87, 52, 0, []) :: k94_88 ∧ dropTo 88 (mcode 94) = k94_88 ∧ k94_88 = (88, 0, (-1), []) :: (89, 52, 0, []) :: [] := ⟨q94_0, rfl, q94_40, rfl, q94_48, rfl, q94_56, rfl, q94_67, rfl, q94_72, rfl, q94_80, rfl, q94_88, rfl⟩
theorem c95 : dropTo 0 (mcode 95) = k95_0 ∧ k95_0 = (0, 5, 0, []) :: (1, 39, 6, [2]) :: (4, 5, 0, []) :: (5, 39, 6, [0]) :: (8, 49, 43, [1, 5]) :: (11, 5, 0, []) :: (12, 0, 1, []) :: (13, 40, 6, [3]) :: (16, 0, 1, []) :: (17, 52, 0, []) :: [] := ⟨q95_0, rfl⟩
theorem c96 : dropTo 0 (mcode 96) = k96_0 ∧ k96_0 = (0, 5, 0, []) :: (1, 39, 6, [3]) :: (4, 61, 10, []) :: (7, 0, (-3), []) :: (9, 52, 0, []) :: k96_10 ∧ dropTo 10 (mcode 96) = k96_10 ∧ k96_10 = (10, 5, 0, []) :: (11, 39, 6, [0]) :: (14, 5, 0, []) :: (15, 39, 6, [2]) :: (18, 49, 43, [1, 5]) :: (21, 5, 0, []) :: (22, 39, 6, [0]) :: (25, 39, 5, [13]) :: (28, 52, 0, []) :: [] := ⟨q96_0, rfl, q96_10, rfl⟩
theorem c97 : dropTo 0 (mcode 97) = k97_0 ∧ k97_0 = (0, 3, 0, []) :: (1, 3, 1, []) :: (2, 72, 14, []) :: (5, 3, 0, []) :: (6, 3, 2, []) :: (7, 74, 14, []) :: (10, 0, 1, []) :: (11, 36, 15, []) :: k97_14 ∧ dropTo 14 (mcode 97) = k97_14 ∧ k97_14 = (14, 0, 0, []) :: k97_15 ∧ dropTo 15 (mcode 97) = k97_15 ∧ k97_15 = (15, 53, 0, []) :: [] := ⟨q97_0, rfl, q97_14, rfl, q97_15, rfl⟩
theorem c98 : dropTo 0 (mcode 98) = k98_0 ∧ k98_0 = (0, 3, 0, []) :: (1, 0, 0, []) :: (2, 0, 9, []) :: (4, 48, 97, [3]) :: (7, 53, 0, []) :: [] := ⟨q98_0, rfl⟩
theorem c99 : dropTo 0 (mcode 99) = k99_0 ∧ k99_0 = (0, 3, 0, []) :: (1, 0, 0, []) :: (2, 0, 8, []) :: (4, 48, 97, [3]) :: (7, 53, 0, []) :: [] := ⟨q99_0, rfl⟩
theorem c100 : dropTo 0 (mcode 100) = k100_0 ∧ k100_0 = (0, 3, 0, []) :: (1, 0, 0, []) :: (2, 0, 5, []) :: (3, 48, 97, [3]) :: (6, 53, 0, []) :: [] := ⟨q100_0, rfl⟩
theorem c101 : dropTo 0 (mcode 101) = k101_0 ∧ k101_0 = (0, 3, 0, []) :: (1, 0, 0, []) :: (2, 0, 3, []) :: (3, 48, 97, [3]) :: (6, 53, 0, []) :: [] := ⟨q101_0, rfl⟩
theorem c102 : dropTo 0 (mcode 102) = k102_0 ∧ k102_0 = (0, 3, 0, []) :: (1, 0, 0, []) :: (2, 0, 3, []) :: (3, 48, 97, [3]) :: (6, 53, 0, []) :: [] := ⟨q102_0, rfl⟩
theorem c103 : dropTo 0 (mcode 103) = k103_0 ∧ k103_0 = (0, 3, 0, []) :: (1, 0, 0, []) :: (2, 0, 3, []) :: (3, 48, 97, [3]) :: (6, 53, 0, []) :: [] := ⟨q103_0, rfl⟩
theorem c104 : dropTo 0 (mcode 104) = k104_0 ∧ k104_0 = (0, 3, 1, []) :: (1, 0, 0, []) :: (2, 5, 0, []) :: (3, 39, 6, [8]) :: (6, 0, 1, []) :: (7, 11, 0, []) :: (8, 48, 97, [3]) :: (11, 60, 27, []) :: (14, 3, 2, []) :: (15, 0, 0, []) :: (16, 0, 2, []) :: (17, 48, 97, [3]) :: (20, 60, 27, []) :: (23, 0, 1, []) :: (24, 36, 28, []) :: k104_27 ∧ dropTo 27 (mcode 104) = k104_27 ∧ k104_27 = (27, 0, 0, []) :: k104_28 ∧ dropTo 28 (mcode 104) = k104_28 ∧ k104_28 = (28, 53, 0, []) :: [] := ⟨q104_0, rfl, q104_27, rfl, q104_28, rfl⟩
theorem c105 : dropTo 0 (mcode 105) = k105_0 ∧ k105_0 = (0, 5, 0, []) :: (1, 39, 6, [1]) :: (4, 5, 0, []) :: (5, 39, 6, [0]) :: (8, 49, 43, [1, 5]) :: (11, 5, 0, []) :: (12, 39, 6, [4]) :: (15, 5, 0, []) :: (16, 39, 6, [1]) :: (19, 0, 120, []) :: (21, 49, 21, [2, 3]) :: (24, 54, 0, []) :: [] := ⟨q105_0, rfl⟩
theorem c106 : dropTo 0 (mcode 106) = k106_0 ∧ k106_0 = (0, 5, 0, []) :: (1, 39, 6, [1]) :: (4, 5, 0, []) :: (5, 39, 6, [0]) :: (8, 49, 43, [1, 5]) :: (11, 5, 0, []) :: (12, 39, 6, [1]) :: (15, 3, 2, []) :: (16, 5, 0, []) :: (17, 39, 6, [0]) :: (20, 39, 5, [4]) :: (23, 3, 2, []) :: (24, 41, 0, []) :: (25, 3, 3, []) :: (26, 49, 45, [3, 5]) :: (29, 5, 0, []) :: (30, 39, 6, [4]) :: (33, 5, 0, []) :: (34, 39, 6, [1]) :: (37, 3, 1, []) :: (38, 0, 1, []) :: (39, 10, 0, []) :: (40, 49, 21, [2, 3]) :: (43, 5, 0, []) :: (44, 39, 6, [1]) :: (47, 39, 5, [7]) :: (50, 3, 2, []) :: (51, 41, 0, []) :: (52, 0, (-9), []) :: (54, 70, 61, []) :: (57, 0, 1, []) :: (58, 36, 62, []) :: k106_61 ∧ dropTo 61 (mcode 106) = k106_61 ∧ k106_61 = (61, 0, 0, []) :: k106_62 ∧ dropTo 62 (mcode 106) = k106_62 ∧ k106_62 = (62, 53, 0, []) :: [] := ⟨q106_0, rfl, q106_61, rfl, q106_62, rfl⟩
theorem c107 : dropTo 0 (mcode 107) = k107_0 ∧ k107_0 = (0, 5, 0, []) :: (1, 39, 6, [1]) :: (4, 5, 0, []) :: (5, 39, 6, [0]) :: (8, 49, 43, [1, 5]) :: (11, 5, 0, []) :: (12, 39, 6, [1]) :: (15, 3, 1, []) :: (16, 5, 0, []) :: (17, 39, 6, [0]) :: (20, 39, 5, [4]) :: (23, 3, 2, []) :: (24, 41, 0, []) :: (25, 5, 0, []) :: (26, 39, 6, [0]) :: (29, 39, 5, [5]) :: (32, 3, 1, []) :: (33, 41, 0, []) :: (34, 49, 45, [3, 5]) :: (37, 5, 0, []) :: (38, 39, 6, [1]) :: (41, 3, 2, []) :: (42, 5, 0, []) :: (43, 39, 6, [0]) :: (46, 39, 5, [4]) :: (49, 3, 1, []) :: (50, 41, 0, []) :: (51, 5, 0, []) :: (52, 39, 6, [0]) :: (55, 39, 5, [5]) :: (58, 3, 2, []) :: (59, 41, 0, []) :: (60, 49, 45, [3, 5]) :: (63, 5, 0, []) :: (64, 39, 6, [4]) :: (67, 5, 0, []) :: (68, 39, 6, [1]) :: (71, 3, 3, []) :: (72, 49, 21, [2, 3]) :: (75, 5, 0, []) :: (76, 39, 6, [1]) :: (79, 49, 52, [0, 5]) :: (82, 52, 0, []) :: [] := ⟨q107_0, rfl⟩
theorem c108 : dropTo 0 (mcode 108) = k108_0 ∧ k108_0 = (0, 5, 0, []) :: (1, 39, 6, [1]) :: (4, 5, 0, []) :: (5, 39, 6, [0]) :: (8, 49, 43, [1, 5]) :: (11, 0, 0, []) :: (12, 6, 2, []) :: k108_13 ∧ dropTo 13 (mcode 108) = k108_13 ∧ k108_13 = (13, 3, 2, []) :: (14, 5, 0, []) :: (15, 39, 6, [1]) :: (18, 39, 5, [0]) :: (21, 73, 48, []) :: (24, 5, 0, []) :: (25, 39, 6, [1]) :: (28, 3, 2, []) :: (29, 3, 1, []) :: (30, 5, 0, []) :: (31, 39, 6, [0]) :: (34, 39, 5, [5]) :: (37, 3, 2, []) :: (38, 41, 0, []) :: (39, 49, 45, [3, 5]) :: (42, 9, 2, [1]) :: (45, 36, 13, []) :: k108_48 ∧ dropTo 48 (mcode 108) = k108_48 ∧ k108_48 = (48, 5, 0, []) :: (49, 39, 6, [4]) :: (52, 5, 0, []) :: (53, 39, 6, [1]) :: (56, 0, 120, []) :: (58, 49, 21, [2, 3]) :: (61, 0, 0, []) :: (62, 6, 2, []) :: (63, 0, 0, []) :: (64, 6, 3, []) :: k108_65 ∧ dropTo 65 (mcode 108) = k108_65 ∧ k108_65 = (65, 3, 3, []) :: (66, 5, 0, []) :: (67, 39, 6, [1]) :: (70, 39, 5, [0]) :: (73, 73, 136, []) :: (76, 5, 0, []) :: (77, 39, 6, [1]) :: (80, 39, 5, [7]) :: (83, 3, 3, []) :: (84, 41, 0, []) :: (85, 0, (-9), []) :: (87, 71, 94, []) :: (90, 0, 1, []) :: (91, 36, 95, []) :: k108_94 ∧ dropTo 94 (mcode 108) = k108_94 ∧ k108_94 = (94, 0, 0, []) :: k108_95 ∧ dropTo 95 (mcode 108) = k108_95 ∧ k108_95 = (95, 6, 4, []) :: (97, 3, 2, []) :: (98, 3, 4, []) :: (100, 60, 109, []) :: (103, 0, 200, []) :: (106, 36, 128, []) :: k108_109 ∧ dropTo 109 (mcode 108) = k108_109 ∧ k108_109 = (109, 5, 0, []) :: (110, 39, 6, [1]) :: (113, 39, 5, [7]) :: (116, 3, 3, []) :: (117, 41, 0, []) :: (118, 5, 0, []) :: (119, 39, 6, [1]) :: (122, 39, 5, [5]) :: (125, 3, 3, []) :: (126, 41, 0, []) :: (127, 11, 0, []) :: k108_128 ∧ dropTo 128 (mcode 108) = k108_128 ∧ k108_128 = (128, 10, 0, []) :: (129, 6, 2, []) :: (130, 9, 3, [1]) :: (133, 36, 65, []) :: k108_136 ∧ dropTo 136 (mcode 108) = k108_136 ∧ k108_136 = (136, 3, 2, []) :: (137, 52, 0, []) :: [] := ⟨q108_0, rfl, q108_13, rfl, q108_48, rfl, q108_65, rfl, q108_94, rfl, q108_95, rfl, q108_109, rfl, q108_128, rfl, q108_136, rfl⟩
theorem c109 : dropTo 0 (mcode 109) = k109_0 ∧ k109_0 = (0, 5, 1, []) :: (1, 0, 0, []) :: (2, 5, 0, []) :: (3, 39, 6, [1]) :: (6, 39, 5, [13]) :: (9, 42, 0, []) :: (10, 5, 0, []) :: (11, 39, 6, [4]) :: (14, 5, 0, []) :: (15, 39, 6, [1]) :: (18, 49, 22, [1, 3]) :: (21, 5, 1, []) :: (22, 0, 1, []) :: (23, 5, 0, []) :: (24, 39, 6, [1]) :: (27, 49, 49, [0, 5]) :: (30, 42, 0, []) :: (31, 5, 1, []) :: (32, 0, 2, []) :: (33, 5, 0, []) :: (34, 39, 6, [1]) :: (37, 49, 50, [0, 5]) :: (40, 42, 0, []) :: (41, 54, 0, []) :: [] := ⟨q109_0, rfl⟩
theorem c110 : dropTo 0 (mcode 110) = k110_0 ∧ k110_0 = (0, 0, 0, []) :: (1, 6, 2, []) :: k110_2 ∧ dropTo 2 (mcode 110) = k110_2 ∧ k110_2 = (2, 3, 2, []) :: (3, 0, 3, []) :: (4, 73, 27, []) :: (7, 5, 1, []) :: (8, 3, 2, []) :: (9, 41, 0, []) :: (10, 5, 0, []) :: (11, 39, 6, [7]) :: (14, 3, 2, []) :: (15, 41, 0, []) :: (16, 70, 21, []) :: (19, 0, 0, []) :: (20, 53, 0, []) :: k110_21 ∧ dropTo 21 (mcode 110) = k110_21 ∧ k110_21 = (21, 9, 2, [1]) :: (24, 36, 2, []) :: k110_27 ∧ dropTo 27 (mcode 110) = k110_27 ∧ k110_27 = (27, 0, 1, []) :: (28, 53, 0, []) :: [] := ⟨q110_0, rfl, q110_2, rfl, q110_21, rfl, q110_27, rfl⟩
theorem c111 : dropTo 0 (mcode 111) = k111_0 ∧ k111_0 = (0, 3, 1, []) :: (1, 48, 102, [1]) :: (4, 60, 19, []) :: (7, 5, 0, []) :: (8, 39, 6, [10]) :: (11, 3, 1, []) :: (12, 47, 0, []) :: (13, 39, 2, [0]) :: (16, 60, 22, []) :: k111_19 ∧ dropTo 19 (mcode 111) = k111_19 ∧ k111_19 = (19, 0, (-3), []) :: (21, 52, 0, []) :: k111_22 ∧ dropTo 22 (mcode 111) = k111_22 ∧ k111_22 = (22, 5, 0, []) :: (23, 39, 6, [10]) :: (26, 3, 1, []) :: (27, 47, 0, []) :: (28, 39, 2, [1]) :: (31, 6, 2, []) :: (32, 5, 0, []) :: (33, 39, 6, [0]) :: (36, 3, 2, []) :: (37, 49, 41, [1, 5]) :: (40, 60, 47, []) :: (43, 3, 2, []) :: (44, 36, 49, []) :: k111_47 ∧ dropTo 47 (mcode 111) = k111_47 ∧ k111_47 = (47, 0, (-3), []) :: k111_49 ∧ dropTo 49 (mcode 111) = k111_49 ∧ k111_49 = (49, 52, 0, []) :: [] := ⟨q111_0, rfl, q111_19, rfl, q111_22, rfl, q111_47, rfl, q111_49, rfl⟩
theorem c112 : dropTo 0 (mcode 112) = k112_0 ∧ k112_0 = (0, 3, 0, []) :: (1, 3, 1, []) :: (2, 72, 14, []) :: (5, 3, 0, []) :: (6, 3, 2, []) :: (7, 74, 14, []) :: (10, 0, 1, []) :: (11, 36, 15, []) :: k112_14 ∧ dropTo 14 (mcode 112) = k112_14 ∧ k112_14 = (14, 0, 0, []) :: k112_15 ∧ dropTo 15 (mcode 112) = k112_15 ∧ k112_15 = (15, 53, 0, []) :: [] := ⟨q112_0, rfl, q112_14, rfl, q112_15, rfl⟩
theorem c113 : dropTo 0 (mcode 113) = k113_0 ∧ k113_0 = (0, 3, 1, []) :: (1, 0, 0, []) :: (2, 5, 0, []) :: (3, 39, 7, [5]) :: (6, 0, 1, []) :: (7, 11, 0, []) :: (8, 48, 112, [3]) :: (11, 53, 0, []) :: [] := ⟨q113_0, rfl⟩
theorem c114 : dropTo 0 (mcode 114) = k114_0 ∧ k114_0 = (0, 3, 0, []) :: (1, 0, 0, []) :: (2, 0, 9, []) :: (4, 48, 112, [3]) :: (7, 53, 0, []) :: [] := ⟨q114_0, rfl⟩
theorem c115 : dropTo 0 (mcode 115) = k115_0 ∧ k115_0 = (0, 3, 0, []) :: (1, 0, 0, []) :: (2, 0, 8, []) :: (4, 48, 112, [3]) :: (7, 53, 0, []) :: [] := ⟨q115_0, rfl⟩
theorem c116 : dropTo 0 (mcode 116) = k116_0 ∧ k116_0 = (0, 3, 0, []) :: (1, 0, 0, []) :: (2, 0, 99, []) :: (4, 48, 112, [3]) :: (7, 53, 0, []) :: [] := ⟨q116_0, rfl⟩
theorem c117 : dropTo 0 (mcode 117) = k117_0 ∧ k117_0 = (0, 3, 0, []) :: (1, 0, 0, []) :: (2, 0, 119, []) :: (4, 48, 112, [3]) :: (7, 53, 0, []) :: [] := ⟨q117_0, rfl⟩
theorem c118 : dropTo 0 (mcode 118) = k118_0 ∧ k118_0 = (0, 3, 0, []) :: (1, 0, 0, []) :: (2, 0, 5, []) :: (3, 48, 112, [3]) :: (6, 60, 23, []) :: (9, 3, 1, []) :: (10, 0, 0, []) :: (11, 0, 9, []) :: (13, 48, 112, [3]) :: (16, 60, 23, []) :: (19, 0, 1, []) :: (20, 36, 24, []) :: k118_23 ∧ dropTo 23 (mcode 118) = k118_23 ∧ k118_23 = (23, 0, 0, []) :: k118_24 ∧ dropTo 24 (mcode 118) = k118_24 ∧ k118_24 = (24, 53, 0, []) :: [] := ⟨q118_0, rfl, q118_23, rfl, q118_24, rfl⟩
theorem c119 : dropTo 0 (mcode 119) = k119_0 ∧ k119_0 = (0, 5, 0, []) :: (1, 39, 7, [8]) :: (4, 5, 0, []) :: (5, 39, 7, [9]) :: (8, 3, 1, []) :: (9, 10, 0, []) :: (10, 41, 0, []) :: (11, 52, 0, []) :: [] := ⟨q119_0, rfl⟩
theorem c120 : dropTo 0 (mcode 120) = k120_0 ∧ k120_0 = (0, 5, 0, []) :: (1, 39, 7, [8]) :: (4, 5, 0, []) :: (5, 39, 7, [9]) :: (8, 3, 1, []) :: (9, 10, 0, []) :: (10, 3, 2, []) :: (11, 42, 0, []) :: (12, 54, 0, []) :: [] := ⟨q120_0, rfl⟩
theorem c121 : dropTo 0 (mcode 121) = k121_0 ∧ k121_0 = (0, 3, 3, []) :: (1, 0, 1, []) :: (2, 0, 8, []) :: (4, 48, 112, [3]) :: (7, 61, 12, []) :: (10, 0, (-1), []) :: (11, 52, 0, []) :: k121_12 ∧ dropTo 12 (mcode 121) = k121_12 ∧ k121_12 = (12, 5, 0, []) :: (13, 39, 7, [12]) :: (16, 3, 3, []) :: (17, 10, 0, []) :: (18, 0, 240, []) :: (21, 75, 27, []) :: (24, 0, (-2), []) :: (26, 52, 0, []) :: k121_27 ∧ dropTo 27 (mcode 121) = k121_27 ∧ k121_27 = (27, 0, 0, []) :: (28, 6, 4, []) :: k121_30 ∧ dropTo 30 (mcode 121) = k121_30 ∧ k121_30 = (30, 3, 4, []) :: (32, 3, 3, []) :: (33, 73, 73, []) :: (36, 5, 0, []) :: (37, 39, 7, [11]) :: (40, 5, 0, []) :: (41, 39, 7, [12]) :: (44, 4, 1, []) :: (45, 0, 8, []) :: (47, 3, 4, []) :: (49, 12, 0, []) :: (50, 25, 0, []) :: (51, 1, 255, []) :: (54, 24, 0, []) :: (55, 29, 0, []) :: (56, 42, 0, []) :: (57, 5, 0, []) :: (58, 32, 0, []) :: (59, 39, 7, [12]) :: (62, 0, 1, []) :: (63, 10, 0, []) :: (64, 40, 7, [12]) :: (67, 9, 4, [1]) :: (70, 36, 30, []) :: k121_73 ∧ dropTo 73 (mcode 121) = k121_73 ∧ k121_73 = (73, 5, 0, []) :: (74, 39, 7, [12]) :: (77, 52, 0, []) :: [] := ⟨q121_0, rfl, q121_12, rfl, q121_27, rfl, q121_30, rfl, q121_73, rfl⟩
theorem c122 : dropTo 0 (mcode 122) = k122_0 ∧ k122_0 = (0, 3, 1, []) :: (1, 5, 0, []) :: (2, 39, 7, [12]) :: (5, 73, 17, []) :: (8, 5, 0, []) :: (9, 39, 7, [11]) :: (12, 3, 1, []) :: (13, 41, 0, []) :: (14, 36, 18, []) :: k122_17 ∧ dropTo 17 (mcode 122) = k122_17 ∧ k122_17 = (17, 0, (-1), []) :: k122_18 ∧ dropTo 18 (mcode 122) = k122_18 ∧ k122_18 = (18, 52, 0, []) :: [] := ⟨q122_0, rfl, q122_17, rfl, q122_18, rfl⟩
theorem c123 : dropTo 0 (mcode 123) = k123_0 ∧ k123_0 = (0, 3, 0, []) :: (1, 0, 97, []) :: (3, 0, 122, []) :: (5, 48, 112, [3]) :: (8, 53, 0, []) :: [] := ⟨q123_0, rfl⟩
theorem c124 : dropTo 0 (mcode 124) = k124_0 ∧ k124_0 = (0, 3, 0, []) :: (1, 0, 48, []) :: (3, 0, 57, []) :: (5, 48, 112, [3]) :: (8, 53, 0, []) :: [] := ⟨q124_0, rfl⟩
theorem c125 : dropTo 0 (mcode 125) = k125_0 ∧ k125_0 = (0, 5, 0, []) :: (1, 5, 0, []) :: (2, 39, 7, [15]) :: (5, 40, 7, [14]) :: k125_8 ∧ dropTo 8 (mcode 125) = k125_8 ∧ k125_8 = (8, 5, 0, []) :: (9, 5, 0, []) :: (10, 39, 7, [14]) :: (13, 49, 122, [1, 7]) :: (16, 0, 32, []) :: (18, 71, 34, []) :: (21, 5, 0, []) :: (22, 32, 0, []) :: (23, 39, 7, [14]) :: (26, 0, 1, []) :: (27, 10, 0, []) :: (28, 40, 7, [14]) :: (31, 36, 8, []) :: k125_34 ∧ dropTo 34 (mcode 125) = k125_34 ∧ k125_34 = (34, 5, 0, []) :: (35, 5, 0, []) :: (36, 39, 7, [14]) :: (39, 40, 7, [15]) :: (42, 5, 0, []) :: (43, 5, 0, []) :: (44, 39, 7, [14]) :: (47, 49, 122, [1, 7]) :: (50, 6, 1, []) :: (51, 5, 0, []) :: (52, 3, 1, []) :: (53, 63, 60, []) :: (56, 0, 0, []) :: (57, 36, 83, []) :: k125_60 ∧ dropTo 60 (mcode 125) = k125_60 ∧ k125_60 = (60, 3, 1, []) :: (61, 48, 123, [1]) :: (64, 60, 71, []) :: (67, 0, 1, []) :: (68, 36, 83, []) :: k125_71 ∧ dropTo 71 (mcode 125) = k125_71 ∧ k125_71 = (71, 3, 1, []) :: (72, 48, 124, [1]) :: (75, 60, 82, []) :: (78, 0, 2, []) :: (79, 36, 83, []) :: k125_82 ∧ dropTo 82 (mcode 125) = k125_82 ∧ k125_82 = (82, 0, 3, []) :: k125_83 ∧ dropTo 83 (mcode 125) = k125_83 ∧ k125_83 = (83, 40, 7, [13]) :: (86, 5, 0, []) :: (87, 1, 0, []) :: (88, 40, 7, [16]) :: (91, 5, 0, []) :: (92, 5, 0, []) :: (93, 39, 7, [13]) :: (96, 0, 2, []) :: (97, 71, 104, []) :: (100, 0, 0, []) :: (101, 36, 105, []) :: k125_104 ∧ dropTo 104 (mcode 125) = k125_104 ∧ k125_104 = (104, 3, 1, []) :: k125_105 ∧ dropTo 105 (mcode 125) = k125_105 ∧ k125_105 = (105, 40, 7, [17]) :: (108, 5, 0, []) :: (109, 39, 7, [13]) :: (112, 0, 3, []) :: (113, 71, 126, []) :: (116, 5, 0, []) :: (117, 32, 0, []) :: (118, 39, 7, [15]) :: (121, 0, 1, []) :: (122, 10, 0, []) :: (123, 40, 7, [15]) :: k125_126 ∧ dropTo 126 (mcode 125) = k125_126 ∧ k125_126 = (126, 5, 0, []) :: (127, 39, 7, [13]) :: (130, 0, 1, []) :: (131, 71, 207, []) :: (134, 5, 0, []) :: (135, 5, 0, []) :: (136, 39, 7, [15]) :: (139, 49, 122, [1, 7]) :: (142, 48, 123, [1]) :: (145, 60, 207, []) :: (148, 5, 0, []) :: (149, 5, 0, []) :: (150, 39, 7, [15]) :: (153, 5, 0, []) :: (154, 39, 7, [14]) :: (157, 11, 0, []) :: (158, 0, 8, []) :: (160, 73, 188, []) :: (163, 1, 27, []) :: (166, 5, 0, []) :: (167, 39, 7, [16]) :: (170, 23, 0, []) :: (171, 5, 0, []) :: (172, 5, 0, []) :: (173, 39, 7, [15]) :: (176, 49, 122, [1, 7]) :: (179, 28, 0, []) :: (180, 21, 0, []) :: (181, 1, 96, []) :: (184, 22, 0, []) :: (185, 36, 191, []) :: k125_188 ∧ dropTo 188 (mcode 125) = k125_188 ∧ k125_188 = (188, 1, (-1), []) :: k125_191 ∧ dropTo 191 (mcode 125) = k125_191 ∧ k125_191 = (191, 40, 7, [16]) :: (194, 5, 0, []) :: (195, 32, 0, []) :: (196, 39, 7, [15]) :: (199, 0, 1, []) :: (200, 10, 0, []) :: (201, 40, 7, [15]) :: (204, 36, 126, []) :: k125_207 ∧ dropTo 207 (mcode 125) = k125_207 ∧ k125_207 = (207, 5, 0, []) :: (208, 39, 7, [13]) :: (211, 0, 2, []) :: (212, 71, 282, []) :: (215, 5, 0, []) :: (216, 5, 0, []) :: (217, 39, 7, [15]) :: (220, 49, 122, [1, 7]) :: (223, 48, 124, [1]) :: (226, 60, 282, []) :: (229, 5, 0, []) :: (230, 5, 0, []) :: (231, 39, 7, [15]) :: (234, 5, 0, []) :: (235, 39, 7, [14]) :: (238, 11, 0, []) :: (239, 0, 2, []) :: (240, 73, 265, []) :: (243, 0, 10, []) :: (245, 5, 0, []) :: (246, 39, 7, [17]) :: (249, 12, 0, []) :: (250, 5, 0, []) :: (251, 5, 0, []) :: (252, 39, 7, [15]) :: (255, 49, 122, [1, 7]) :: (258, 10, 0, []) :: (259, 0, 48, []) :: (261, 11, 0, []) :: (262, 36, 266, []) :: k125_265 ∧ dropTo 265 (mcode 125) = k125_265 ∧ k125_265 = (265, 0, (-1), []) :: k125_266 ∧ dropTo 266 (mcode 125) = k125_266 ∧ k125_266 = (266, 40, 7, [17]) :: (269, 5, 0, []) :: (270, 32, 0, []) :: (271, 39, 7, [15]) :: (274, 0, 1, []) :: (275, 10, 0, []) :: (276, 40, 7, [15]) :: (279, 36, 207, []) :: k125_282 ∧ dropTo 282 (mcode 125) = k125_282 ∧ k125_282 = (282, 54, 0, []) :: [] := ⟨q125_0, rfl, q125_8, rfl, q125_34, rfl, q125_60, rfl, q125_71, rfl, q125_82, rfl, q125_83, rfl, q125_104, rfl, q125_105, rfl, q125_126, rfl, q125_188, rfl, q125_191, rfl, q125_207, rfl, q125_265, rfl, q125_266, rfl, q125_282, rfl⟩
theorem c126 : dropTo 0 (mcode 126) = k126_0 ∧ k126_0 = (0, 5, 0, []) :: (1, 39, 7, [13]) :: (4, 0, 1, []) :: (5, 71, 21, []) :: (8, 5, 0, []) :: (9, 39, 7, [16]) :: (12, 4, 1, []) :: (13, 27, 0, []) :: (14, 61, 21, []) :: (17, 0, 1, []) :: (18, 36, 22, []) :: k126_21 ∧ dropTo 21 (mcode 126) = k126_21 ∧ k126_21 = (21, 0, 0, []) :: k126_22 ∧ dropTo 22 (mcode 126) = k126_22 ∧ k126_22 = (22, 53, 0, []) :: [] := ⟨q126_0, rfl, q126_21, rfl, q126_22, rfl⟩
theorem c127 : dropTo 0 (mcode 127) = k127_0 ∧ k127_0 = (0, 5, 0, []) :: (1, 39, 7, [13]) :: (4, 0, 3, []) :: (5, 71, 20, []) :: (8, 5, 0, []) :: (9, 39, 7, [17]) :: (12, 3, 1, []) :: (13, 71, 20, []) :: (16, 0, 1, []) :: (17, 36, 21, []) :: k127_20 ∧ dropTo 20 (mcode 127) = k127_20 ∧ k127_20 = (20, 0, 0, []) :: k127_21 ∧ dropTo 21 (mcode 127) = k127_21 ∧ k127_21 = (21, 53, 0, []) :: [] := ⟨q127_0, rfl, q127_20, rfl, q127_21, rfl⟩
theorem c128 : dropTo 0 (mcode 128) = k128_0 ∧ k128_0 = (0, 5, 0, []) :: (1, 1, 1834661, []) :: (4, 49, 126, [1, 7]) :: (7, 60, 14, []) :: (10, 0, 0, []) :: (11, 36, 85, []) :: k128_14 ∧ dropTo 14 (mcode 128) = k128_14 ∧ k128_14 = (14, 5, 0, []) :: (15, 1, 177237549, []) :: (18, 49, 126, [1, 7]) :: (21, 60, 28, []) :: (24, 0, 1, []) :: (25, 36, 85, []) :: k128_28 ∧ dropTo 28 (mcode 128) = k128_28 ∧ k128_28 = (28, 5, 0, []) :: (29, 1, 269726508, []) :: (32, 49, 126, [1, 7]) :: (35, 60, 42, []) :: (38, 0, 2, []) :: (39, 36, 85, []) :: k128_42 ∧ dropTo 42 (mcode 128) = k128_42 ∧ k128_42 = (42, 5, 0, []) :: (43, 1, 1758489, []) :: (46, 49, 126, [1, 7]) :: (49, 60, 56, []) :: (52, 0, 3, []) :: (53, 36, 85, []) :: k128_56 ∧ dropTo 56 (mcode 128) = k128_56 ∧ k128_56 = (56, 5, 0, []) :: (57, 1, 237923154, []) :: (60, 49, 126, [1, 7]) :: (63, 60, 70, []) :: (66, 0, 4, []) :: (67, 36, 85, []) :: k128_70 ∧ dropTo 70 (mcode 128) = k128_70 ∧ k128_70 = (70, 5, 0, []) :: (71, 1, 1888, []) :: (74, 49, 126, [1, 7]) :: (77, 60, 84, []) :: (80, 0, 5, []) :: (81, 36, 85, []) :: k128_84 ∧ dropTo 84 (mcode 128) = k128_84 ∧ k128_84 = (84, 0, (-1), []) :: k128_85 ∧ dropTo 85 (mcode 128) = k128_85 ∧ k128_85 = (85, 52, 0, []) :: [] := ⟨q128_0, rfl, q128_14, rfl, q128_28, rfl, q128_42, rfl, q128_56, rfl, q128_70, rfl, q128_84, rfl, q128_85, rfl⟩
theorem c129 : dropTo 0 (mcode 129) = k129_0 ∧ k129_0 = (0, 5, 0, []) :: (1, 39, 7, [17]) :: (4, 6, 3, []) :: (5, 5, 0, []) :: (6, 5, 0, []) :: (7, 39, 7, [18]) :: (10, 60, 34, []) :: (13, 5, 0, []) :: (14, 39, 7, [13]) :: (17, 0, 2, []) :: (18, 71, 34, []) :: (21, 3, 3, []) :: (22, 3, 1, []) :: (23, 3, 2, []) :: (24, 48, 112, [3]) :: (27, 60, 34, []) :: (30, 0, 1, []) :: (31, 36, 35, []) :: k129_34 ∧ dropTo 34 (mcode 129) = k129_34 ∧ k129_34 = (34, 0, 0, []) :: k129_35 ∧ dropTo 35 (mcode 129) = k129_35 ∧ k129_35 = (35, 40, 7, [18]) :: (38, 5, 0, []) :: (39, 39, 7, [18]) :: (42, 60, 49, []) :: (45, 5, 0, []) :: (46, 49, 125, [0, 7]) :: k129_49 ∧ dropTo 49 (mcode 129) = k129_49 ∧ k129_49 = (49, 3, 3, []) :: (50, 52, 0, []) :: [] := ⟨q129_0, rfl, q129_34, rfl, q129_35, rfl, q129_49, rfl⟩
theorem c130 : dropTo 0 (mcode 130) = k130_0 ∧ k130_0 = (0, 5, 0, []) :: (1, 5, 0, []) :: (2, 39, 7, [18]) :: (5, 60, 20, []) :: (8, 5, 0, []) :: (9, 4, 1, []) :: (10, 49, 126, [1, 7]) :: (13, 60, 20, []) :: (16, 0, 1, []) :: (17, 36, 21, []) :: k130_20 ∧ dropTo 20 (mcode 130) = k130_20 ∧ k130_20 = (20, 0, 0, []) :: k130_21 ∧ dropTo 21 (mcode 130) = k130_21 ∧ k130_21 = (21, 40, 7, [18]) :: (24, 5, 0, []) :: (25, 39, 7, [18]) :: (28, 60, 35, []) :: (31, 5, 0, []) :: (32, 49, 125, [0, 7]) :: k130_35 ∧ dropTo 35 (mcode 130) = k130_35 ∧ k130_35 = (35, 54, 0, []) :: [] := ⟨q130_0, rfl, q130_20, rfl, q130_21, rfl, q130_35, rfl⟩
theorem c131 : dropTo 0 (mcode 131) = k131_0 ∧ k131_0 = (0, 5, 0, []) :: (1, 5, 0, []) :: (2, 39, 7, [18]) :: (5, 60, 21, []) :: (8, 5, 0, []) :: (9, 0, 59, []) :: (11, 49, 127, [1, 7]) :: (14, 60, 21, []) :: (17, 0, 1, []) :: (18, 36, 22, []) :: k131_21 ∧ dropTo 21 (mcode 131) = k131_21 ∧ k131_21 = (21, 0, 0, []) :: k131_22 ∧ dropTo 22 (mcode 131) = k131_22 ∧ k131_22 = (22, 40, 7, [18]) :: (25, 5, 0, []) :: (26, 39, 7, [18]) :: (29, 60, 36, []) :: (32, 5, 0, []) :: (33, 49, 125, [0, 7]) :: k131_36 ∧ dropTo 36 (mcode 131) = k131_36 ∧ k131_36 = (36, 54, 0, []) :: [] := ⟨q131_0, rfl, q131_21, rfl, q131_22, rfl, q131_36, rfl⟩
theorem c132 : dropTo 0 (mcode 132) = k132_0 ∧ k132_0 = (0, 5, 0, []) :: (1, 5, 0, []) :: (2, 39, 7, [19]) :: (5, 0, 8, []) :: (7, 73, 14, []) :: (10, 0, 1, []) :: (11, 36, 15, []) :: k132_14 ∧ dropTo 14 (mcode 132) = k132_14 ∧ k132_14 = (14, 0, 0, []) :: k132_15 ∧ dropTo 15 (mcode 132) = k132_15 ∧ k132_15 = (15, 40, 7, [18]) :: (18, 5, 0, []) :: (19, 39, 7, [18]) :: (22, 60, 29, []) :: (25, 5, 0, []) :: (26, 49, 125, [0, 7]) :: k132_29 ∧ dropTo 29 (mcode 132) = k132_29 ∧ k132_29 = (29, 5, 0, []) :: (30, 0, 0, []) :: (31, 0, 9, []) :: (33, 49, 129, [2, 7]) :: (36, 6, 2, []) :: (37, 5, 0, []) :: (38, 1, 131638, []) :: (41, 49, 130, [1, 7]) :: (44, 5, 0, []) :: (45, 0, 0, []) :: (46, 0, 9, []) :: (48, 49, 129, [2, 7]) :: (51, 6, 3, []) :: (52, 5, 0, []) :: (53, 1, 555, []) :: (56, 49, 130, [1, 7]) :: (59, 5, 0, []) :: (60, 0, 0, []) :: (61, 0, 9, []) :: (63, 49, 129, [2, 7]) :: (66, 6, 4, []) :: (68, 0, 0, []) :: (69, 6, 5, []) :: (71, 5, 0, []) :: (72, 39, 7, [18]) :: (75, 60, 101, []) :: (78, 5, 0, []) :: (79, 1, 47, []) :: (82, 49, 126, [1, 7]) :: (85, 60, 101, []) :: (88, 5, 0, []) :: (89, 49, 125, [0, 7]) :: (92, 5, 0, []) :: (93, 0, 0, []) :: (94, 0, 99, []) :: (96, 49, 129, [2, 7]) :: (99, 6, 5, []) :: k132_101 ∧ dropTo 101 (mcode 132) = k132_101 ∧ k132_101 = (101, 5, 0, []) :: (102, 49, 131, [0, 7]) :: (105, 5, 0, []) :: (106, 39, 7, [18]) :: (109, 60, 174, []) :: (112, 5, 0, []) :: (113, 39, 7, [22]) :: (116, 5, 0, []) :: (117, 39, 7, [19]) :: (120, 3, 1, []) :: (121, 42, 0, []) :: (122, 5, 0, []) :: (123, 39, 7, [23]) :: (126, 5, 0, []) :: (127, 39, 7, [19]) :: (130, 3, 2, []) :: (131, 42, 0, []) :: (132, 5, 0, []) :: (133, 39, 7, [24]) :: (136, 5, 0, []) :: (137, 39, 7, [19]) :: (140, 3, 3, []) :: (141, 42, 0, []) :: (142, 5, 0, []) :: (143, 39, 7, [25]) :: (146, 5, 0, []) :: (147, 39, 7, [19]) :: (150, 3, 4, []) :: (152, 42, 0, []) :: (153, 5, 0, []) :: (154, 39, 7, [26]) :: (157, 5, 0, []) :: (158, 39, 7, [19]) :: (161, 3, 5, []) :: (163, 42, 0, []) :: (164, 5, 0, []) :: (165, 32, 0, []) :: (166, 39, 7, [19]) :: (169, 0, 1, []) :: (170, 10, 0, []) :: (171, 40, 7, [19]) :: k132_174 ∧ dropTo 174 (mcode 132) = k132_174 ∧ k132_174 = (174, 54, 0, []) :: [] := ⟨q132_0, rfl, q132_14, rfl, q132_15, rfl, q132_29, rfl, q132_101, rfl, q132_174, rfl⟩
theorem c133 : dropTo 0 (mcode 133) = k133_0 ∧ k133_0 = (0, 5, 0, []) :: (1, 5, 0, []) :: (2, 39, 7, [20]) :: (5, 0, 4, []) :: (6, 73, 13, []) :: (9, 0, 1, []) :: (10, 36, 14, []) :: k133_13 ∧ dropTo 13 (mcode 133) = k133_13 ∧ k133_13 = (13, 0, 0, []) :: k133_14 ∧ dropTo 14 (mcode 133) = k133_14 ∧ k133_14 = (14, 40, 7, [18]) :: (17, 5, 0, []) :: (18, 39, 7, [18]) :: (21, 60, 28, []) :: (24, 5, 0, []) :: (25, 49, 125, [0, 7]) :: k133_28 ∧ dropTo 28 (mcode 133) = k133_28 ∧ k133_28 = (28, 5, 0, []) :: (29, 0, 0, []) :: (30, 0, 8, []) :: (32, 49, 129, [2, 7]) :: (35, 6, 1, []) :: (36, 5, 0, []) :: (37, 1, 47, []) :: (40, 49, 130, [1, 7]) :: (43, 5, 0, []) :: (44, 0, 0, []) :: (45, 0, 99, []) :: (47, 49, 129, [2, 7]) :: (50, 6, 2, []) :: (51, 5, 0, []) :: (52, 1, 4797, []) :: (55, 49, 130, [1, 7]) :: (58, 5, 0, []) :: (59, 0, 1, []) :: (60, 0, 30, []) :: (62, 49, 129, [2, 7]) :: (65, 6, 3, []) :: (66, 5, 0, []) :: (67, 49, 131, [0, 7]) :: (70, 5, 0, []) :: (71, 39, 7, [18]) :: (74, 60, 117, []) :: (77, 5, 0, []) :: (78, 39, 7, [27]) :: (81, 5, 0, []) :: (82, 39, 7, [20]) :: (85, 3, 1, []) :: (86, 42, 0, []) :: (87, 5, 0, []) :: (88, 39, 7, [28]) :: (91, 5, 0, []) :: (92, 39, 7, [20]) :: (95, 3, 2, []) :: (96, 42, 0, []) :: (97, 5, 0, []) :: (98, 39, 7, [29]) :: (101, 5, 0, []) :: (102, 39, 7, [20]) :: (105, 3, 3, []) :: (106, 42, 0, []) :: (107, 5, 0, []) :: (108, 32, 0, []) :: (109, 39, 7, [20]) :: (112, 0, 1, []) :: (113, 10, 0, []) :: (114, 40, 7, [20]) :: k133_117 ∧ dropTo 117 (mcode 133) = k133_117 ∧ k133_117 = (117, 54, 0, []) :: [] := ⟨q133_0, rfl, q133_13, rfl, q133_14, rfl, q133_28, rfl, q133_117, rfl⟩
theorem c134 : dropTo 0 (mcode 134) = k134_0 ∧ k134_0 = (0, 5, 0, []) :: (1, 49, 128, [0, 7]) :: (4, 62, 18, []) :: (7, 5, 0, []) :: (8, 5, 0, []) :: (9, 49, 128, [0, 7]) :: (12, 49, 132, [1, 7]) :: (15, 36, 72, []) :: k134_18 ∧ dropTo 18 (mcode 134) = k134_18 ∧ k134_18 = (18, 5, 0, []) :: (19, 1, 5879, []) :: (22, 49, 126, [1, 7]) :: (25, 60, 35, []) :: (28, 5, 0, []) :: (29, 49, 133, [0, 7]) :: (32, 36, 72, []) :: k134_35 ∧ dropTo 35 (mcode 134) = k134_35 ∧ k134_35 = (35, 5, 0, []) :: (36, 1, 365647, []) :: (39, 49, 126, [1, 7]) :: (42, 60, 67, []) :: (45, 5, 0, []) :: (46, 49, 125, [0, 7]) :: (49, 5, 0, []) :: (50, 5, 0, []) :: (51, 0, 1, []) :: (52, 0, 9, []) :: (54, 49, 129, [2, 7]) :: (57, 40, 7, [21]) :: (60, 5, 0, []) :: (61, 49, 131, [0, 7]) :: (64, 36, 72, []) :: k134_67 ∧ dropTo 67 (mcode 134) = k134_67 ∧ k134_67 = (67, 5, 0, []) :: (68, 0, 0, []) :: (69, 40, 7, [18]) :: k134_72 ∧ dropTo 72 (mcode 134) = k134_72 ∧ k134_72 = (72, 54, 0, []) :: [] := ⟨q134_0, rfl, q134_18, rfl, q134_35, rfl, q134_67, rfl, q134_72, rfl⟩
theorem c135 : dropTo 0 (mcode 135) = k135_0 ∧ k135_0 = (0, 5, 0, []) :: (1, 0, 0, []) :: (2, 40, 7, [15]) :: (5, 5, 0, []) :: (6, 0, 1, []) :: (7, 40, 7, [18]) :: (10, 5, 0, []) :: (11, 0, 0, []) :: (12, 40, 7, [19]) :: (15, 5, 0, []) :: (16, 0, 0, []) :: (17, 40, 7, [20]) :: (20, 5, 0, []) :: (21, 0, 2, []) :: (22, 40, 7, [21]) :: (25, 5, 0, []) :: (26, 49, 125, [0, 7]) :: k135_29 ∧ dropTo 29 (mcode 135) = k135_29 ∧ k135_29 = (29, 5, 0, []) :: (30, 39, 7, [18]) :: (33, 60, 50, []) :: (36, 5, 0, []) :: (37, 39, 7, [13]) :: (40, 60, 50, []) :: (43, 5, 0, []) :: (44, 49, 134, [0, 7]) :: (47, 36, 29, []) :: k135_50 ∧ dropTo 50 (mcode 135) = k135_50 ∧ k135_50 = (50, 5, 0, []) :: (51, 0, 0, []) :: (52, 40, 7, [12]) :: (55, 5, 0, []) :: (56, 39, 7, [18]) :: (59, 61, 70, []) :: (62, 0, (-100), []) :: (64, 5, 0, []) :: (65, 39, 7, [14]) :: (68, 11, 0, []) :: (69, 52, 0, []) :: k135_70 ∧ dropTo 70 (mcode 135) = k135_70 ∧ k135_70 = (70, 5, 0, []) :: (71, 49, 136, [0, 7]) :: (74, 5, 0, []) :: (75, 0, 0, []) :: (76, 40, 7, [35]) :: (79, 5, 0, []) :: (80, 39, 7, [5]) :: (83, 52, 0, []) :: [] := ⟨q135_0, rfl, q135_29, rfl, q135_50, rfl, q135_70, rfl⟩
theorem c136 : dropTo 0 (mcode 136) = k136_0 ∧ k136_0 = (0, 5, 0, []) :: (1, 5, 0, []) :: (2, 39, 7, [21]) :: (5, 40, 7, [0]) :: (8, 5, 0, []) :: (9, 5, 0, []) :: (10, 39, 7, [20]) :: (13, 40, 7, [1]) :: (16, 0, 0, []) :: (17, 6, 1, []) :: k136_18 ∧ dropTo 18 (mcode 136) = k136_18 ∧ k136_18 = (18, 3, 1, []) :: (19, 0, 4, []) :: (20, 73, 65, []) :: (23, 5, 0, []) :: (24, 39, 7, [2]) :: (27, 3, 1, []) :: (28, 5, 0, []) :: (29, 39, 7, [27]) :: (32, 3, 1, []) :: (33, 41, 0, []) :: (34, 42, 0, []) :: (35, 5, 0, []) :: (36, 39, 7, [3]) :: (39, 3, 1, []) :: (40, 5, 0, []) :: (41, 39, 7, [28]) :: (44, 3, 1, []) :: (45, 41, 0, []) :: (46, 42, 0, []) :: (47, 5, 0, []) :: (48, 39, 7, [4]) :: (51, 3, 1, []) :: (52, 5, 0, []) :: (53, 39, 7, [29]) :: (56, 3, 1, []) :: (57, 41, 0, []) :: (58, 42, 0, []) :: (59, 9, 1, [1]) :: (62, 36, 18, []) :: k136_65 ∧ dropTo 65 (mcode 136) = k136_65 ∧ k136_65 = (65, 5, 0, []) :: (66, 5, 0, []) :: (67, 39, 7, [19]) :: (70, 40, 7, [5]) :: (73, 5, 0, []) :: (74, 39, 7, [8]) :: (77, 0, 0, []) :: (78, 0, 0, []) :: (79, 42, 0, []) :: (80, 0, 0, []) :: (81, 6, 1, []) :: k136_82 ∧ dropTo 82 (mcode 136) = k136_82 ∧ k136_82 = (82, 3, 1, []) :: (83, 0, 8, []) :: (85, 73, 182, []) :: (88, 5, 0, []) :: (89, 39, 7, [6]) :: (92, 3, 1, []) :: (93, 5, 0, []) :: (94, 39, 7, [22]) :: (97, 3, 1, []) :: (98, 41, 0, []) :: (99, 42, 0, []) :: (100, 5, 0, []) :: (101, 39, 7, [7]) :: (104, 3, 1, []) :: (105, 5, 0, []) :: (106, 39, 7, [23]) :: (109, 3, 1, []) :: (110, 41, 0, []) :: (111, 42, 0, []) :: (112, 5, 0, []) :: (113, 39, 7, [8]) :: (116, 0, 1, []) :: (117, 3, 1, []) :: (118, 10, 0, []) :: (119, 5, 0, []) :: (120, 39, 7, [24]) :: (123, 3, 1, []) :: (124, 41, 0, []) :: (125, 42, 0, []) :: (126, 5, 0, []) :: (127, 39, 7, [8]) :: (130, 0, 9, []) :: (132, 3, 1, []) :: (133, 10, 0, []) :: (134, 5, 0, []) :: (135, 39, 7, [25]) :: (138, 3, 1, []) :: (139, 41, 0, []) :: (140, 42, 0, []) :: (141, 5, 0, []) :: (142, 39, 7, [8]) :: (145, 0, 17, []) :: (147, 3, 1, []) :: (148, 10, 0, []) :: (149, 5, 0, []) :: (150, 39, 7, [26]) :: (153, 3, 1, []) :: (154, 41, 0, []) :: (155, 42, 0, []) :: (156, 5, 0, []) :: (157, 39, 7, [8]) :: (160, 0, 25, []) :: (162, 3, 1, []) :: (163, 10, 0, []) :: (164, 0, 0, []) :: (165, 42, 0, []) :: (166, 5, 0, []) :: (167, 39, 7, [8]) :: (170, 0, 33, []) :: (172, 3, 1, []) :: (173, 10, 0, []) :: (174, 0, (-1), []) :: (175, 42, 0, []) :: (176, 9, 1, [1]) :: (179, 36, 82, []) :: k136_182 ∧ dropTo 182 (mcode 136) = k136_182 ∧ k136_182 = (182, 54, 0, []) :: [] := ⟨q136_0, rfl, q136_18, rfl, q136_65, rfl, q136_82, rfl, q136_182, rfl⟩
theorem c137 : dropTo 0 (mcode 137) = k137_0 ∧ k137_0 = (0, 3, 1, []) :: (1, 0, 1, []) :: (2, 0, 9, []) :: (4, 48, 112, [3]) :: (7, 61, 12, []) :: (10, 0, (-1), []) :: (11, 52, 0, []) :: k137_12 ∧ dropTo 12 (mcode 137) = k137_12 ∧ k137_12 = (12, 5, 0, []) :: (13, 39, 7, [0]) :: (16, 6, 2, []) :: (17, 5, 0, []) :: (18, 3, 1, []) :: (19, 40, 7, [0]) :: (22, 3, 2, []) :: (23, 52, 0, []) :: [] := ⟨q137_0, rfl, q137_12, rfl⟩
theorem c138 : dropTo 0 (mcode 138) = k138_0 ∧ k138_0 = (0, 5, 0, []) :: (1, 39, 7, [2]) :: (4, 5, 0, []) :: (5, 39, 7, [1]) :: (8, 3, 1, []) :: (9, 42, 0, []) :: (10, 5, 0, []) :: (11, 39, 7, [3]) :: (14, 5, 0, []) :: (15, 39, 7, [1]) :: (18, 3, 2, []) :: (19, 42, 0, []) :: (20, 5, 0, []) :: (21, 39, 7, [4]) :: (24, 5, 0, []) :: (25, 39, 7, [1]) :: (28, 3, 3, []) :: (29, 42, 0, []) :: (30, 5, 0, []) :: (31, 32, 0, []) :: (32, 39, 7, [1]) :: (35, 0, 1, []) :: (36, 10, 0, []) :: (37, 40, 7, [1]) :: (40, 54, 0, []) :: [] := ⟨q138_0, rfl⟩
theorem c139 : dropTo 0 (mcode 139) = k139_0 ∧ k139_0 = (0, 3, 1, []) :: (1, 48, 115, [1]) :: (4, 60, 24, []) :: (7, 3, 2, []) :: (8, 48, 116, [1]) :: (11, 60, 24, []) :: (14, 3, 3, []) :: (15, 0, 1, []) :: (16, 0, 30, []) :: (18, 48, 112, [3]) :: (21, 61, 26, []) :: k139_24 ∧ dropTo 24 (mcode 139) = k139_24 ∧ k139_24 = (24, 0, (-1), []) :: (25, 52, 0, []) :: k139_26 ∧ dropTo 26 (mcode 139) = k139_26 ∧ k139_26 = (26, 5, 0, []) :: (27, 39, 7, [1]) :: (30, 0, 4, []) :: (31, 71, 37, []) :: (34, 0, (-2), []) :: (36, 52, 0, []) :: k139_37 ∧ dropTo 37 (mcode 139) = k139_37 ∧ k139_37 = (37, 5, 0, []) :: (38, 3, 1, []) :: (39, 3, 2, []) :: (40, 3, 3, []) :: (41, 49, 138, [3, 7]) :: (44, 5, 0, []) :: (45, 39, 7, [1]) :: (48, 52, 0, []) :: [] := ⟨q139_0, rfl, q139_24, rfl, q139_26, rfl, q139_37, rfl⟩
theorem c140 : dropTo 0 (mcode 140) = k140_0 ∧ k140_0 = (0, 3, 1, []) :: (1, 0, 0, []) :: (2, 5, 0, []) :: (3, 39, 7, [1]) :: (6, 0, 1, []) :: (7, 11, 0, []) :: (8, 48, 112, [3]) :: (11, 61, 16, []) :: (14, 0, (-1), []) :: (15, 52, 0, []) :: k140_16 ∧ dropTo 16 (mcode 140) = k140_16 ∧ k140_16 = (16, 5, 0, []) :: (17, 32, 0, []) :: (18, 39, 7, [1]) :: (21, 0, 1, []) :: (22, 11, 0, []) :: (23, 40, 7, [1]) :: (26, 3, 1, []) :: (27, 6, 2, []) :: k140_28 ∧ dropTo 28 (mcode 140) = k140_28 ∧ k140_28 = (28, 3, 2, []) :: (29, 5, 0, []) :: (30, 39, 7, [1]) :: (33, 73, 84, []) :: (36, 5, 0, []) :: (37, 39, 7, [2]) :: (40, 3, 2, []) :: (41, 5, 0, []) :: (42, 39, 7, [2]) :: (45, 3, 2, []) :: (46, 0, 1, []) :: (47, 10, 0, []) :: (48, 41, 0, []) :: (49, 42, 0, []) :: (50, 5, 0, []) :: (51, 39, 7, [3]) :: (54, 3, 2, []) :: (55, 5, 0, []) :: (56, 39, 7, [3]) :: (59, 3, 2, []) :: (60, 0, 1, []) :: (61, 10, 0, []) :: (62, 41, 0, []) :: (63, 42, 0, []) :: (64, 5, 0, []) :: (65, 39, 7, [4]) :: (68, 3, 2, []) :: (69, 5, 0, []) :: (70, 39, 7, [4]) :: (73, 3, 2, []) :: (74, 0, 1, []) :: (75, 10, 0, []) :: (76, 41, 0, []) :: (77, 42, 0, []) :: (78, 9, 2, [1]) :: (81, 36, 28, []) :: k140_84 ∧ dropTo 84 (mcode 140) = k140_84 ∧ k140_84 = (84, 5, 0, []) :: (85, 39, 7, [1]) :: (88, 52, 0, []) :: [] := ⟨q140_0, rfl, q140_16, rfl, q140_28, rfl, q140_84, rfl⟩
theorem c141 : dropTo 0 (mcode 141) = k141_0 ∧ k141_0 = (0, 0, 0, []) :: (1, 6, 3, []) :: (2, 0, 0, []) :: (3, 6, 4, []) :: k141_5 ∧ dropTo 5 (mcode 141) = k141_5 ∧ k141_5 = (5, 3, 4, []) :: (7, 5, 0, []) :: (8, 39, 7, [1]) :: (11, 73, 72, []) :: (14, 3, 3, []) :: (15, 61, 60, []) :: (18, 5, 0, []) :: (19, 39, 7, [2]) :: (22, 3, 4, []) :: (24, 41, 0, []) :: (25, 3, 1, []) :: (26, 71, 64, []) :: (29, 3, 2, []) :: (30, 5, 0, []) :: (31, 39, 7, [3]) :: (34, 3, 4, []) :: (36, 41, 0, []) :: (37, 5, 0, []) :: (38, 39, 7, [3]) :: (41, 3, 4, []) :: (43, 41, 0, []) :: (44, 5, 0, []) :: (45, 39, 7, [4]) :: (48, 3, 4, []) :: (50, 41, 0, []) :: (51, 10, 0, []) :: (52, 0, 1, []) :: (53, 11, 0, []) :: (54, 48, 112, [3]) :: (57, 60, 64, []) :: k141_60 ∧ dropTo 60 (mcode 141) = k141_60 ∧ k141_60 = (60, 0, 1, []) :: (61, 36, 65, []) :: k141_64 ∧ dropTo 64 (mcode 141) = k141_64 ∧ k141_64 = (64, 0, 0, []) :: k141_65 ∧ dropTo 65 (mcode 141) = k141_65 ∧ k141_65 = (65, 6, 3, []) :: (66, 9, 4, [1]) :: (69, 36, 5, []) :: k141_72 ∧ dropTo 72 (mcode 141) = k141_72 ∧ k141_72 = (72, 3, 3, []) :: (73, 53, 0, []) :: [] := ⟨q141_0, rfl, q141_5, rfl, q141_60, rfl, q141_64, rfl, q141_65, rfl, q141_72, rfl⟩
theorem c142 : dropTo 0 (mcode 142) = k142_0 ∧ k142_0 = (0, 3, 1, []) :: (1, 48, 115, [1]) :: (4, 60, 14, []) :: (7, 3, 2, []) :: (8, 48, 117, [1]) :: (11, 61, 16, []) :: k142_14 ∧ dropTo 14 (mcode 142) = k142_14 ∧ k142_14 = (14, 0, (-1), []) :: (15, 52, 0, []) :: k142_16 ∧ dropTo 16 (mcode 142) = k142_16 ∧ k142_16 = (16, 5, 0, []) :: (17, 3, 1, []) :: (18, 3, 2, []) :: (19, 49, 141, [2, 7]) :: (22, 60, 29, []) :: (25, 0, 1, []) :: (26, 36, 30, []) :: k142_29 ∧ dropTo 29 (mcode 142) = k142_29 ∧ k142_29 = (29, 0, 0, []) :: k142_30 ∧ dropTo 30 (mcode 142) = k142_30 ∧ k142_30 = (30, 52, 0, []) :: [] := ⟨q142_0, rfl, q142_14, rfl, q142_16, rfl, q142_29, rfl, q142_30, rfl⟩
theorem c143 : dropTo 0 (mcode 143) = k143_0 ∧ k143_0 = (0, 3, 1, []) :: (1, 3, 2, []) :: (2, 48, 118, [2]) :: (5, 60, 23, []) :: (8, 3, 3, []) :: (9, 48, 114, [1]) :: (12, 60, 23, []) :: (15, 3, 4, []) :: (17, 48, 114, [1]) :: (20, 61, 25, []) :: k143_23 ∧ dropTo 23 (mcode 143) = k143_23 ∧ k143_23 = (23, 0, (-1), []) :: (24, 52, 0, []) :: k143_25 ∧ dropTo 25 (mcode 143) = k143_25 ∧ k143_25 = (25, 5, 0, []) :: (26, 39, 7, [5]) :: (29, 0, 8, []) :: (31, 71, 37, []) :: (34, 0, (-2), []) :: (36, 52, 0, []) :: k143_37 ∧ dropTo 37 (mcode 143) = k143_37 ∧ k143_37 = (37, 5, 0, []) :: (38, 39, 7, [6]) :: (41, 5, 0, []) :: (42, 39, 7, [5]) :: (45, 3, 1, []) :: (46, 42, 0, []) :: (47, 5, 0, []) :: (48, 39, 7, [7]) :: (51, 5, 0, []) :: (52, 39, 7, [5]) :: (55, 3, 2, []) :: (56, 42, 0, []) :: (57, 5, 0, []) :: (58, 39, 7, [8]) :: (61, 0, 1, []) :: (62, 5, 0, []) :: (63, 39, 7, [5]) :: (66, 10, 0, []) :: (67, 3, 3, []) :: (68, 42, 0, []) :: (69, 5, 0, []) :: (70, 39, 7, [8]) :: (73, 0, 9, []) :: (75, 5, 0, []) :: (76, 39, 7, [5]) :: (79, 10, 0, []) :: (80, 3, 4, []) :: (82, 42, 0, []) :: (83, 5, 0, []) :: (84, 39, 7, [8]) :: (87, 0, 17, []) :: (89, 5, 0, []) :: (90, 39, 7, [5]) :: (93, 10, 0, []) :: (94, 5, 0, []) :: (95, 39, 7, [8]) :: (98, 0, 0, []) :: (99, 41, 0, []) :: (100, 0, 99, []) :: (102, 75, 110, []) :: (105, 0, 99, []) :: (107, 36, 116, []) :: k143_110 ∧ dropTo 110 (mcode 143) = k143_110 ∧ k143_110 = (110, 5, 0, []) :: (111, 39, 7, [8]) :: (114, 0, 0, []) :: (115, 41, 0, []) :: k143_116 ∧ dropTo 116 (mcode 143) = k143_116 ∧ k143_116 = (116, 42, 0, []) :: (117, 5, 0, []) :: (118, 39, 7, [8]) :: (121, 0, 25, []) :: (123, 5, 0, []) :: (124, 39, 7, [5]) :: (127, 10, 0, []) :: (128, 0, 0, []) :: (129, 42, 0, []) :: (130, 5, 0, []) :: (131, 39, 7, [8]) :: (134, 0, 33, []) :: (136, 5, 0, []) :: (137, 39, 7, [5]) :: (140, 10, 0, []) :: (141, 0, (-1), []) :: (142, 42, 0, []) :: (143, 5, 0, []) :: (144, 32, 0, []) :: (145, 39, 7, [5]) :: (148, 0, 1, []) :: (149, 10, 0, []) :: (150, 40, 7, [5]) :: (153, 5, 0, []) :: (154, 39, 7, [5]) :: (157, 0, 1, []) :: (158, 11, 0, []) :: (159, 52, 0, []) :: [] := ⟨q143_0, rfl, q143_23, rfl, q143_25, rfl, q143_37, rfl, q143_110, rfl, q143_116, rfl⟩
theorem c144 : dropTo 0 (mcode 144) = k144_0 ∧ k144_0 = (0, 5, 0, []) :: (1, 39, 7, [6]) :: (4, 3, 1, []) :: (5, 41, 0, []) :: (6, 0, 5, []) :: (7, 71, 14, []) :: (10, 0, 0, []) :: (11, 36, 39, []) :: k144_14 ∧ dropTo 14 (mcode 144) = k144_14 ∧ k144_14 = (14, 5, 0, []) :: (15, 39, 7, [6]) :: (18, 3, 1, []) :: (19, 41, 0, []) :: (20, 0, 4, []) :: (21, 71, 38, []) :: (24, 5, 0, []) :: (25, 39, 7, [7]) :: (28, 3, 1, []) :: (29, 41, 0, []) :: (30, 0, 5, []) :: (31, 72, 38, []) :: (34, 0, 2, []) :: (35, 36, 39, []) :: k144_38 ∧ dropTo 38 (mcode 144) = k144_38 ∧ k144_38 = (38, 0, 1, []) :: k144_39 ∧ dropTo 39 (mcode 144) = k144_39 ∧ k144_39 = (39, 52, 0, []) :: [] := ⟨q144_0, rfl, q144_14, rfl, q144_38, rfl, q144_39, rfl⟩
theorem c145 : dropTo 0 (mcode 145) = k145_0 ∧ k145_0 = (0, 5, 0, []) :: (1, 39, 7, [6]) :: (4, 3, 1, []) :: (5, 41, 0, []) :: (6, 37, 59, [1, 40, 46, 48, 43, 50]) :: k145_40 ∧ dropTo 40 (mcode 145) = k145_40 ∧ k145_40 = (40, 0, 7, []) :: (42, 52, 0, []) :: k145_43 ∧ dropTo 43 (mcode 145) = k145_43 ∧ k145_43 = (43, 0, 6, []) :: (45, 52, 0, []) :: k145_46 ∧ dropTo 46 (mcode 145) = k145_46 ∧ k145_46 = (46, 0, 4, []) :: (47, 52, 0, []) :: k145_48 ∧ dropTo 48 (mcode 145) = k145_48 ∧ k145_48 = (48, 0, 0, []) :: (49, 52, 0, []) :: k145_50 ∧ dropTo 50 (mcode 145) = k145_50 ∧ k145_50 = (50, 0, 5, []) :: (51, 5, 0, []) :: (52, 39, 7, [7]) :: (55, 3, 1, []) :: (56, 41, 0, []) :: (57, 10, 0, []) :: (58, 52, 0, []) :: k145_59 ∧ dropTo 59 (mcode 145) = k145_59 ∧ k145_59 = (59, 0, 5, []) :: (60, 52, 0, []) :: [] := ⟨q145_0, rfl, q145_40, rfl, q145_43, rfl, q145_46, rfl, q145_48, rfl, q145_50, rfl, q145_59, rfl⟩
theorem c146 : dropTo 0 (mcode 146) = k146_0 ∧ k146_0 = (0, 3, 0, []) :: (1, 63, 9, []) :: (4, 0, (-9), []) :: (6, 36, 10, []) :: k146_9 ∧ dropTo 9 (mcode 146) = k146_9 ∧ k146_9 = (9, 3, 0, []) :: k146_10 ∧ dropTo 10 (mcode 146) = k146_10 ∧ k146_10 = (10, 52, 0, []) :: [] := ⟨q146_0, rfl, q146_9, rfl, q146_10, rfl⟩
theorem c147 : dropTo 0 (mcode 147) = k147_0 ∧ k147_0 = (0, 5, 0, []) :: (1, 3, 1, []) :: (2, 49, 113, [1, 7]) :: (5, 60, 18, []) :: (8, 3, 2, []) :: (9, 0, 0, []) :: (10, 0, 8, []) :: (12, 48, 112, [3]) :: (15, 61, 20, []) :: k147_18 ∧ dropTo 18 (mcode 147) = k147_18 ∧ k147_18 = (18, 0, (-1), []) :: (19, 52, 0, []) :: k147_20 ∧ dropTo 20 (mcode 147) = k147_20 ∧ k147_20 = (20, 3, 2, []) :: (21, 37, 140, [0, 68, 75, 82, 91, 101, 111, 121, 134]) :: k147_68 ∧ dropTo 68 (mcode 147) = k147_68 ∧ k147_68 = (68, 5, 0, []) :: (69, 39, 7, [6]) :: (72, 3, 1, []) :: (73, 41, 0, []) :: (74, 52, 0, []) :: k147_75 ∧ dropTo 75 (mcode 147) = k147_75 ∧ k147_75 = (75, 5, 0, []) :: (76, 39, 7, [7]) :: (79, 3, 1, []) :: (80, 41, 0, []) :: (81, 52, 0, []) :: k147_82 ∧ dropTo 82 (mcode 147) = k147_82 ∧ k147_82 = (82, 5, 0, []) :: (83, 39, 7, [8]) :: (86, 0, 1, []) :: (87, 3, 1, []) :: (88, 10, 0, []) :: (89, 41, 0, []) :: (90, 52, 0, []) :: k147_91 ∧ dropTo 91 (mcode 147) = k147_91 ∧ k147_91 = (91, 5, 0, []) :: (92, 39, 7, [8]) :: (95, 0, 9, []) :: (97, 3, 1, []) :: (98, 10, 0, []) :: (99, 41, 0, []) :: (100, 52, 0, []) :: k147_101 ∧ dropTo 101 (mcode 147) = k147_101 ∧ k147_101 = (101, 5, 0, []) :: (102, 39, 7, [8]) :: (105, 0, 17, []) :: (107, 3, 1, []) :: (108, 10, 0, []) :: (109, 41, 0, []) :: (110, 52, 0, []) :: k147_111 ∧ dropTo 111 (mcode 147) = k147_111 ∧ k147_111 = (111, 5, 0, []) :: (112, 39, 7, [8]) :: (115, 0, 25, []) :: (117, 3, 1, []) :: (118, 10, 0, []) :: (119, 41, 0, []) :: (120, 52, 0, []) :: k147_121 ∧ dropTo 121 (mcode 147) = k147_121 ∧ k147_121 = (121, 5, 0, []) :: (122, 39, 7, [8]) :: (125, 0, 33, []) :: (127, 3, 1, []) :: (128, 10, 0, []) :: (129, 41, 0, []) :: (130, 48, 146, [1]) :: (133, 52, 0, []) :: k147_134 ∧ dropTo 134 (mcode 147) = k147_134 ∧ k147_134 = (134, 5, 0, []) :: (135, 3, 1, []) :: (136, 49, 144, [1, 7]) :: (139, 52, 0, []) :: k147_140 ∧ dropTo 140 (mcode 147) = k147_140 ∧ k147_140 = (140, 5, 0, []) :: (141, 3, 1, []) :: (142, 49, 145, [1, 7]) :: (145, 52, 0, []) :: [] := ⟨q147_0, rfl, q147_18, rfl, q147_20, rfl, q147_68, rfl, q147_75, rfl, q147_82, rfl, q147_91, rfl, q147_101, rfl, q147_111, rfl, q147_121, rfl, q147_134, rfl, q147_140, rfl⟩
theorem c148 : dropTo 0 (mcode 148) = k148_0 ∧ k148_0 = (0, 5, 0, []) :: (1, 3, 1, []) :: (2, 49, 113, [1, 7]) :: (5, 60, 16, []) :: (8, 3, 2, []) :: (9, 3, 3, []) :: (10, 48, 118, [2]) :: (13, 61, 18, []) :: k148_16 ∧ dropTo 16 (mcode 148) = k148_16 ∧ k148_16 = (16, 0, (-1), []) :: (17, 52, 0, []) :: k148_18 ∧ dropTo 18 (mcode 148) = k148_18 ∧ k148_18 = (18, 5, 0, []) :: (19, 39, 7, [6]) :: (22, 3, 1, []) :: (23, 41, 0, []) :: (24, 6, 4, []) :: (26, 5, 0, []) :: (27, 39, 7, [6]) :: (30, 3, 1, []) :: (31, 3, 2, []) :: (32, 42, 0, []) :: (33, 5, 0, []) :: (34, 39, 7, [7]) :: (37, 3, 1, []) :: (38, 3, 3, []) :: (39, 42, 0, []) :: (40, 5, 0, []) :: (41, 39, 7, [8]) :: (44, 0, 25, []) :: (46, 3, 1, []) :: (47, 10, 0, []) :: (48, 0, 0, []) :: (49, 42, 0, []) :: (50, 3, 4, []) :: (52, 52, 0, []) :: [] := ⟨q148_0, rfl, q148_16, rfl, q148_18, rfl⟩
theorem c149 : dropTo 0 (mcode 149) = k149_0 ∧ k149_0 = (0, 5, 0, []) :: (1, 0, 9, []) :: (3, 3, 1, []) :: (4, 10, 0, []) :: (5, 3, 2, []) :: (6, 49, 120, [2, 7]) :: (9, 5, 0, []) :: (10, 0, 25, []) :: (12, 3, 1, []) :: (13, 10, 0, []) :: (14, 0, 0, []) :: (15, 49, 120, [2, 7]) :: (18, 5, 0, []) :: (19, 0, 33, []) :: (21, 3, 1, []) :: (22, 10, 0, []) :: (23, 0, (-1), []) :: (24, 49, 120, [2, 7]) :: (27, 54, 0, []) :: [] := ⟨q149_0, rfl⟩
theorem c150 : dropTo 0 (mcode 150) = k150_0 ∧ k150_0 = (0, 5, 0, []) :: (1, 3, 1, []) :: (2, 49, 113, [1, 7]) :: (5, 60, 22, []) :: (8, 3, 2, []) :: (9, 48, 114, [1]) :: (12, 60, 22, []) :: (15, 3, 3, []) :: (16, 48, 116, [1]) :: (19, 61, 24, []) :: k150_22 ∧ dropTo 22 (mcode 150) = k150_22 ∧ k150_22 = (22, 0, (-1), []) :: (23, 52, 0, []) :: k150_24 ∧ dropTo 24 (mcode 150) = k150_24 ∧ k150_24 = (24, 5, 0, []) :: (25, 39, 7, [8]) :: (28, 0, 9, []) :: (30, 3, 1, []) :: (31, 10, 0, []) :: (32, 41, 0, []) :: (33, 6, 4, []) :: (35, 5, 0, []) :: (36, 3, 1, []) :: (37, 3, 2, []) :: (38, 49, 149, [2, 7]) :: (41, 5, 0, []) :: (42, 39, 7, [8]) :: (45, 0, 17, []) :: (47, 3, 1, []) :: (48, 10, 0, []) :: (49, 3, 3, []) :: (50, 42, 0, []) :: (51, 3, 4, []) :: (53, 52, 0, []) :: [] := ⟨q150_0, rfl, q150_22, rfl, q150_24, rfl⟩
theorem c151 : dropTo 0 (mcode 151) = k151_0 ∧ k151_0 = (0, 5, 0, []) :: (1, 3, 1, []) :: (2, 49, 113, [1, 7]) :: (5, 60, 15, []) :: (8, 3, 2, []) :: (9, 48, 114, [1]) :: (12, 61, 17, []) :: k151_15 ∧ dropTo 15 (mcode 151) = k151_15 ∧ k151_15 = (15, 0, (-1), []) :: (16, 52, 0, []) :: k151_17 ∧ dropTo 17 (mcode 151) = k151_17 ∧ k151_17 = (17, 5, 0, []) :: (18, 39, 7, [8]) :: (21, 0, 1, []) :: (22, 3, 1, []) :: (23, 10, 0, []) :: (24, 41, 0, []) :: (25, 6, 3, []) :: (26, 5, 0, []) :: (27, 39, 7, [8]) :: (30, 0, 1, []) :: (31, 3, 1, []) :: (32, 10, 0, []) :: (33, 3, 2, []) :: (34, 42, 0, []) :: (35, 5, 0, []) :: (36, 39, 7, [8]) :: (39, 0, 25, []) :: (41, 3, 1, []) :: (42, 10, 0, []) :: (43, 0, 0, []) :: (44, 42, 0, []) :: (45, 3, 3, []) :: (46, 52, 0, []) :: [] := ⟨q151_0, rfl, q151_15, rfl, q151_17, rfl⟩
theorem c152 : dropTo 0 (mcode 152) = k152_0 ∧ k152_0 = (0, 5, 0, []) :: (1, 39, 7, [8]) :: (4, 0, 0, []) :: (5, 41, 0, []) :: (6, 52, 0, []) :: [] := ⟨q152_0, rfl⟩
theorem c153 : dropTo 0 (mcode 153) = k153_0 ∧ k153_0 = (0, 5, 0, []) :: (1, 0, 0, []) :: (2, 49, 119, [1, 7]) :: (5, 6, 2, []) :: (6, 5, 0, []) :: (7, 39, 7, [6]) :: (10, 3, 1, []) :: (11, 41, 0, []) :: (12, 37, 85, [1, 48, 50, 50, 48, 66]) :: k153_48 ∧ dropTo 48 (mcode 153) = k153_48 ∧ k153_48 = (48, 0, 1, []) :: (49, 52, 0, []) :: k153_50 ∧ dropTo 50 (mcode 153) = k153_50 ∧ k153_50 = (50, 5, 0, []) :: (51, 39, 7, [7]) :: (54, 3, 1, []) :: (55, 41, 0, []) :: (56, 3, 2, []) :: (57, 73, 64, []) :: (60, 0, 4, []) :: (61, 36, 65, []) :: k153_64 ∧ dropTo 64 (mcode 153) = k153_64 ∧ k153_64 = (64, 0, 2, []) :: k153_65 ∧ dropTo 65 (mcode 153) = k153_65 ∧ k153_65 = (65, 52, 0, []) :: k153_66 ∧ dropTo 66 (mcode 153) = k153_66 ∧ k153_66 = (66, 3, 2, []) :: (67, 5, 0, []) :: (68, 39, 7, [7]) :: (71, 3, 1, []) :: (72, 41, 0, []) :: (73, 10, 0, []) :: (74, 0, 4, []) :: (75, 14, 0, []) :: (76, 61, 83, []) :: (79, 0, 0, []) :: (80, 36, 84, []) :: k153_83 ∧ dropTo 83 (mcode 153) = k153_83 ∧ k153_83 = (83, 0, 2, []) :: k153_84 ∧ dropTo 84 (mcode 153) = k153_84 ∧ k153_84 = (84, 52, 0, []) :: k153_85 ∧ dropTo 85 (mcode 153) = k153_85 ∧ k153_85 = (85, 0, 2, []) :: (86, 52, 0, []) :: [] := ⟨q153_0, rfl, q153_48, rfl, q153_50, rfl, q153_64, rfl, q153_65, rfl, q153_66, rfl, q153_83, rfl, q153_84, rfl, q153_85, rfl⟩
theorem c154 : dropTo 0 (mcode 154) = k154_0 ∧ k154_0 = (0, 5, 0, []) :: (1, 0, 1, []) :: (2, 3, 1, []) :: (3, 10, 0, []) :: (4, 49, 119, [1, 7]) :: (7, 5, 0, []) :: (8, 0, 9, []) :: (10, 3, 1, []) :: (11, 10, 0, []) :: (12, 49, 119, [1, 7]) :: (15, 73, 22, []) :: (18, 0, 1, []) :: (19, 36, 23, []) :: k154_22 ∧ dropTo 22 (mcode 154) = k154_22 ∧ k154_22 = (22, 0, 0, []) :: k154_23 ∧ dropTo 23 (mcode 154) = k154_23 ∧ k154_23 = (23, 6, 3, []) :: (24, 3, 3, []) :: (25, 60, 38, []) :: (28, 5, 0, []) :: (29, 0, 1, []) :: (30, 3, 1, []) :: (31, 10, 0, []) :: (32, 49, 119, [1, 7]) :: (35, 36, 47, []) :: k154_38 ∧ dropTo 38 (mcode 154) = k154_38 ∧ k154_38 = (38, 5, 0, []) :: (39, 0, 1, []) :: (40, 3, 1, []) :: (41, 10, 0, []) :: (42, 49, 119, [1, 7]) :: (45, 0, 1, []) :: (46, 11, 0, []) :: k154_47 ∧ dropTo 47 (mcode 154) = k154_47 ∧ k154_47 = (47, 6, 4, []) :: (49, 3, 3, []) :: (50, 60, 58, []) :: (53, 3, 4, []) :: (55, 36, 63, []) :: k154_58 ∧ dropTo 58 (mcode 154) = k154_58 ∧ k154_58 = (58, 0, 9, []) :: (60, 3, 4, []) :: (62, 10, 0, []) :: k154_63 ∧ dropTo 63 (mcode 154) = k154_63 ∧ k154_63 = (63, 6, 5, []) :: (65, 5, 0, []) :: (66, 3, 4, []) :: (68, 5, 0, []) :: (69, 0, 0, []) :: (70, 49, 119, [1, 7]) :: (73, 49, 141, [2, 7]) :: (76, 61, 99, []) :: (79, 5, 0, []) :: (80, 39, 7, [30]) :: (83, 3, 5, []) :: (85, 41, 0, []) :: (86, 5, 0, []) :: (87, 3, 1, []) :: (88, 49, 144, [1, 7]) :: (91, 10, 0, []) :: (92, 5, 0, []) :: (93, 39, 7, [0]) :: (96, 75, 101, []) :: k154_99 ∧ dropTo 99 (mcode 154) = k154_99 ∧ k154_99 = (99, 0, 0, []) :: (100, 53, 0, []) :: k154_101 ∧ dropTo 101 (mcode 154) = k154_101 ∧ k154_101 = (101, 5, 0, []) :: (102, 39, 7, [30]) :: (105, 3, 5, []) :: (107, 33, 0, []) :: (108, 41, 0, []) :: (109, 5, 0, []) :: (110, 3, 1, []) :: (111, 49, 144, [1, 7]) :: (114, 10, 0, []) :: (115, 42, 0, []) :: (116, 5, 0, []) :: (117, 39, 7, [31]) :: (120, 3, 4, []) :: (122, 5, 0, []) :: (123, 39, 7, [30]) :: (126, 3, 5, []) :: (128, 41, 0, []) :: (129, 5, 0, []) :: (130, 39, 7, [31]) :: (133, 3, 4, []) :: (135, 41, 0, []) :: (136, 75, 149, []) :: (139, 5, 0, []) :: (140, 39, 7, [30]) :: (143, 3, 5, []) :: (145, 41, 0, []) :: (146, 36, 156, []) :: k154_149 ∧ dropTo 149 (mcode 154) = k154_149 ∧ k154_149 = (149, 5, 0, []) :: (150, 39, 7, [31]) :: (153, 3, 4, []) :: (155, 41, 0, []) :: k154_156 ∧ dropTo 156 (mcode 154) = k154_156 ∧ k154_156 = (156, 42, 0, []) :: (157, 5, 0, []) :: (158, 0, 25, []) :: (160, 3, 1, []) :: (161, 10, 0, []) :: (162, 49, 119, [1, 7]) :: (165, 3, 2, []) :: (166, 10, 0, []) :: (167, 6, 6, []) :: (169, 5, 0, []) :: (170, 0, 25, []) :: (172, 3, 1, []) :: (173, 10, 0, []) :: (174, 3, 6, []) :: (176, 0, 2, []) :: (177, 14, 0, []) :: (178, 49, 120, [2, 7]) :: (181, 5, 0, []) :: (182, 0, 1, []) :: (183, 3, 1, []) :: (184, 10, 0, []) :: (185, 5, 0, []) :: (186, 0, 1, []) :: (187, 3, 1, []) :: (188, 10, 0, []) :: (189, 49, 119, [1, 7]) :: (192, 3, 6, []) :: (194, 0, 2, []) :: (195, 73, 202, []) :: (198, 0, 0, []) :: (199, 36, 211, []) :: k154_202 ∧ dropTo 202 (mcode 154) = k154_202 ∧ k154_202 = (202, 3, 3, []) :: (203, 60, 210, []) :: (206, 0, 1, []) :: (207, 36, 211, []) :: k154_210 ∧ dropTo 210 (mcode 154) = k154_210 ∧ k154_210 = (210, 0, (-1), []) :: k154_211 ∧ dropTo 211 (mcode 154) = k154_211 ∧ k154_211 = (211, 10, 0, []) :: (212, 49, 120, [2, 7]) :: (215, 0, 1, []) :: (216, 53, 0, []) :: [] := ⟨q154_0, rfl, q154_22, rfl, q154_23, rfl, q154_38, rfl, q154_47, rfl, q154_58, rfl, q154_63, rfl, q154_99, rfl, q154_101, rfl, q154_149, rfl, q154_156, rfl, q154_202, rfl, q154_210, rfl, q154_211, rfl⟩
theorem c155 : dropTo 0 (mcode 155) = k155_0 ∧ k155_0 = (0, 5, 0, []) :: (1, 0, 1, []) :: (2, 3, 1, []) :: (3, 10, 0, []) :: (4, 49, 119, [1, 7]) :: (7, 5, 0, []) :: (8, 0, 9, []) :: (10, 3, 1, []) :: (11, 10, 0, []) :: (12, 49, 119, [1, 7]) :: (15, 71, 22, []) :: (18, 0, 1, []) :: (19, 36, 23, []) :: k155_22 ∧ dropTo 22 (mcode 155) = k155_22 ∧ k155_22 = (22, 0, 0, []) :: k155_23 ∧ dropTo 23 (mcode 155) = k155_23 ∧ k155_23 = (23, 53, 0, []) :: [] := ⟨q155_0, rfl, q155_22, rfl, q155_23, rfl⟩
theorem c156 : dropTo 0 (mcode 156) = k156_0 ∧ k156_0 = (0, 5, 0, []) :: (1, 3, 1, []) :: (2, 49, 155, [1, 7]) :: (5, 61, 12, []) :: (8, 0, 1, []) :: (9, 36, 13, []) :: k156_12 ∧ dropTo 12 (mcode 156) = k156_12 ∧ k156_12 = (12, 0, 0, []) :: k156_13 ∧ dropTo 13 (mcode 156) = k156_13 ∧ k156_13 = (13, 6, 2, []) :: (14, 5, 0, []) :: (15, 3, 1, []) :: (16, 49, 153, [1, 7]) :: (19, 6, 3, []) :: k156_20 ∧ dropTo 20 (mcode 156) = k156_20 ∧ k156_20 = (20, 3, 3, []) :: (21, 65, 63, []) :: (24, 5, 0, []) :: (25, 3, 1, []) :: (26, 49, 155, [1, 7]) :: (29, 61, 63, []) :: (32, 5, 0, []) :: (33, 3, 1, []) :: (34, 3, 3, []) :: (35, 0, 1, []) :: (36, 71, 43, []) :: (39, 0, 1, []) :: (40, 36, 44, []) :: k156_43 ∧ dropTo 43 (mcode 156) = k156_43 ∧ k156_43 = (43, 0, 2, []) :: k156_44 ∧ dropTo 44 (mcode 156) = k156_44 ∧ k156_44 = (44, 49, 154, [2, 7]) :: (47, 60, 58, []) :: (50, 0, 0, []) :: (51, 6, 2, []) :: (52, 9, 3, [(-2)]) :: (55, 36, 20, []) :: k156_58 ∧ dropTo 58 (mcode 156) = k156_58 ∧ k156_58 = (58, 0, 0, []) :: (59, 6, 3, []) :: (60, 36, 20, []) :: k156_63 ∧ dropTo 63 (mcode 156) = k156_63 ∧ k156_63 = (63, 5, 0, []) :: (64, 39, 7, [32]) :: (67, 3, 1, []) :: (68, 33, 0, []) :: (69, 41, 0, []) :: (70, 3, 2, []) :: (71, 60, 78, []) :: (74, 0, 1, []) :: (75, 36, 79, []) :: k156_78 ∧ dropTo 78 (mcode 156) = k156_78 ∧ k156_78 = (78, 0, 0, []) :: k156_79 ∧ dropTo 79 (mcode 156) = k156_79 ∧ k156_79 = (79, 10, 0, []) :: (80, 42, 0, []) :: (81, 5, 0, []) :: (82, 3, 1, []) :: (83, 49, 155, [1, 7]) :: (86, 60, 102, []) :: (89, 5, 0, []) :: (90, 0, 33, []) :: (92, 3, 1, []) :: (93, 10, 0, []) :: (94, 5, 0, []) :: (95, 0, 0, []) :: (96, 49, 119, [1, 7]) :: (99, 49, 120, [2, 7]) :: k156_102 ∧ dropTo 102 (mcode 156) = k156_102 ∧ k156_102 = (102, 54, 0, []) :: [] := ⟨q156_0, rfl, q156_12, rfl, q156_13, rfl, q156_20, rfl, q156_43, rfl, q156_44, rfl, q156_58, rfl, q156_63, rfl, q156_78, rfl, q156_79, rfl, q156_102, rfl⟩
theorem c157 : dropTo 0 (mcode 157) = k157_0 ∧ k157_0 = (0, 0, 0, []) :: (1, 6, 1, []) :: k157_2 ∧ dropTo 2 (mcode 157) = k157_2 ∧ k157_2 = (2, 3, 1, []) :: (3, 0, 18, []) :: (5, 73, 21, []) :: (8, 5, 0, []) :: (9, 39, 7, [30]) :: (12, 3, 1, []) :: (13, 0, 0, []) :: (14, 42, 0, []) :: (15, 9, 1, [1]) :: (18, 36, 2, []) :: k157_21 ∧ dropTo 21 (mcode 157) = k157_21 ∧ k157_21 = (21, 0, 0, []) :: (22, 6, 1, []) :: k157_23 ∧ dropTo 23 (mcode 157) = k157_23 ∧ k157_23 = (23, 3, 1, []) :: (24, 0, 15, []) :: (26, 73, 92, []) :: (29, 0, 0, []) :: (30, 6, 2, []) :: k157_31 ∧ dropTo 31 (mcode 157) = k157_31 ∧ k157_31 = (31, 3, 2, []) :: (32, 5, 0, []) :: (33, 39, 7, [5]) :: (36, 73, 86, []) :: (39, 5, 0, []) :: (40, 3, 2, []) :: (41, 49, 145, [1, 7]) :: (44, 3, 1, []) :: (45, 71, 80, []) :: (48, 5, 0, []) :: (49, 0, 33, []) :: (51, 3, 2, []) :: (52, 10, 0, []) :: (53, 49, 119, [1, 7]) :: (56, 63, 80, []) :: (59, 5, 0, []) :: (60, 0, 17, []) :: (62, 3, 2, []) :: (63, 10, 0, []) :: (64, 49, 119, [1, 7]) :: (67, 5, 0, []) :: (68, 0, 0, []) :: (69, 49, 119, [1, 7]) :: (72, 74, 80, []) :: (75, 5, 0, []) :: (76, 3, 2, []) :: (77, 49, 156, [1, 7]) :: k157_80 ∧ dropTo 80 (mcode 157) = k157_80 ∧ k157_80 = (80, 9, 2, [1]) :: (83, 36, 31, []) :: k157_86 ∧ dropTo 86 (mcode 157) = k157_86 ∧ k157_86 = (86, 9, 1, [1]) :: (89, 36, 23, []) :: k157_92 ∧ dropTo 92 (mcode 157) = k157_92 ∧ k157_92 = (92, 5, 0, []) :: (93, 0, 0, []) :: (94, 5, 0, []) :: (95, 0, 0, []) :: (96, 49, 119, [1, 7]) :: (99, 0, 1, []) :: (100, 10, 0, []) :: (101, 49, 120, [2, 7]) :: (104, 54, 0, []) :: [] := ⟨q157_0, rfl, q157_2, rfl, q157_21, rfl, q157_23, rfl, q157_31, rfl, q157_80, rfl, q157_86, rfl, q157_92, rfl⟩
theorem c158 : dropTo 0 (mcode 158) = k158_0 ∧ k158_0 = (0, 0, 0, []) :: (1, 6, 2, []) :: k158_2 ∧ dropTo 2 (mcode 158) = k158_2 ∧ k158_2 = (2, 3, 2, []) :: (3, 3, 1, []) :: (4, 73, 27, []) :: (7, 5, 0, []) :: (8, 0, 0, []) :: (9, 49, 119, [1, 7]) :: (12, 0, 120, []) :: (14, 73, 27, []) :: (17, 5, 0, []) :: (18, 49, 157, [0, 7]) :: (21, 9, 2, [1]) :: (24, 36, 2, []) :: k158_27 ∧ dropTo 27 (mcode 158) = k158_27 ∧ k158_27 = (27, 54, 0, []) :: [] := ⟨q158_0, rfl, q158_2, rfl, q158_27, rfl⟩
theorem c159 : dropTo 0 (mcode 159) = k159_0 ∧ k159_0 = (0, 3, 1, []) :: (1, 0, 0, []) :: (2, 0, 60, []) :: (4, 48, 112, [3]) :: (7, 61, 12, []) :: (10, 0, (-1), []) :: (11, 52, 0, []) :: k159_12 ∧ dropTo 12 (mcode 159) = k159_12 ∧ k159_12 = (12, 5, 0, []) :: (13, 3, 1, []) :: (14, 49, 158, [1, 7]) :: (17, 5, 0, []) :: (18, 39, 7, [8]) :: (21, 0, 0, []) :: (22, 41, 0, []) :: (23, 52, 0, []) :: [] := ⟨q159_0, rfl, q159_12, rfl⟩
theorem c160 : dropTo 0 (mcode 160) = k160_0 ∧ k160_0 = (0, 3, 1, []) :: (1, 0, 0, []) :: (2, 0, 120, []) :: (4, 48, 112, [3]) :: (7, 61, 12, []) :: (10, 0, (-1), []) :: (11, 52, 0, []) :: k160_12 ∧ dropTo 12 (mcode 160) = k160_12 ∧ k160_12 = (12, 5, 0, []) :: (13, 39, 7, [8]) :: (16, 0, 0, []) :: (17, 41, 0, []) :: (18, 6, 2, []) :: (19, 5, 0, []) :: (20, 39, 7, [8]) :: (23, 0, 0, []) :: (24, 3, 1, []) :: (25, 42, 0, []) :: (26, 3, 2, []) :: (27, 52, 0, []) :: [] := ⟨q160_0, rfl, q160_12, rfl⟩
theorem c161 : dropTo 0 (mcode 161) = k161_0 ∧ k161_0 = (0, 5, 0, []) :: (1, 0, 0, []) :: (2, 40, 7, [9]) :: (5, 0, 0, []) :: (6, 6, 1, []) :: k161_7 ∧ dropTo 7 (mcode 161) = k161_7 ∧ k161_7 = (7, 3, 1, []) :: (8, 0, 41, []) :: (10, 73, 34, []) :: (13, 5, 0, []) :: (14, 39, 7, [8]) :: (17, 0, 41, []) :: (19, 3, 1, []) :: (20, 10, 0, []) :: (21, 5, 0, []) :: (22, 39, 7, [8]) :: (25, 3, 1, []) :: (26, 41, 0, []) :: (27, 42, 0, []) :: (28, 9, 1, [1]) :: (31, 36, 7, []) :: k161_34 ∧ dropTo 34 (mcode 161) = k161_34 ∧ k161_34 = (34, 5, 0, []) :: (35, 0, 41, []) :: (37, 40, 7, [9]) :: (40, 0, 0, []) :: (41, 6, 1, []) :: k161_42 ∧ dropTo 42 (mcode 161) = k161_42 ∧ k161_42 = (42, 3, 1, []) :: (43, 0, 9, []) :: (45, 73, 61, []) :: (48, 5, 0, []) :: (49, 39, 7, [31]) :: (52, 3, 1, []) :: (53, 0, 0, []) :: (54, 42, 0, []) :: (55, 9, 1, [1]) :: (58, 36, 42, []) :: k161_61 ∧ dropTo 61 (mcode 161) = k161_61 ∧ k161_61 = (61, 0, 0, []) :: (62, 6, 1, []) :: k161_63 ∧ dropTo 63 (mcode 161) = k161_63 ∧ k161_63 = (63, 3, 1, []) :: (64, 0, 8, []) :: (66, 73, 82, []) :: (69, 5, 0, []) :: (70, 39, 7, [32]) :: (73, 3, 1, []) :: (74, 0, 0, []) :: (75, 42, 0, []) :: (76, 9, 1, [1]) :: (79, 36, 63, []) :: k161_82 ∧ dropTo 82 (mcode 161) = k161_82 ∧ k161_82 = (82, 54, 0, []) :: [] := ⟨q161_0, rfl, q161_7, rfl, q161_34, rfl, q161_42, rfl, q161_61, rfl, q161_63, rfl, q161_82, rfl⟩
theorem c162 : dropTo 0 (mcode 162) = k162_0 ∧ k162_0 = (0, 5, 0, []) :: (1, 0, 120, []) :: (3, 49, 158, [1, 7]) :: (6, 5, 0, []) :: (7, 0, 0, []) :: (8, 40, 7, [9]) :: (11, 54, 0, []) :: [] := ⟨q162_0, rfl⟩
theorem c163 : dropTo 0 (mcode 163) = k163_0 ∧ k163_0 = (0, 5, 0, []) :: (1, 49, 161, [0, 7]) :: (4, 5, 0, []) :: (5, 49, 162, [0, 7]) :: (8, 54, 0, []) :: [] := ⟨q163_0, rfl⟩
theorem c164 : dropTo 0 (mcode 164) = k164_0 ∧ k164_0 = (0, 5, 0, []) :: (1, 39, 7, [8]) :: (4, 0, 74, []) :: (6, 3, 1, []) :: (7, 10, 0, []) :: (8, 41, 0, []) :: (9, 52, 0, []) :: [] := ⟨q164_0, rfl⟩
theorem c165 : dropTo 0 (mcode 165) = k165_0 ∧ k165_0 = (0, 0, (-1), []) :: (1, 6, 1, []) :: (2, 5, 0, []) :: (3, 39, 7, [5]) :: (6, 65, 13, []) :: (9, 0, 1, []) :: (10, 36, 14, []) :: k165_13 ∧ dropTo 13 (mcode 165) = k165_13 ∧ k165_13 = (13, 0, 0, []) :: k165_14 ∧ dropTo 14 (mcode 165) = k165_14 ∧ k165_14 = (14, 6, 2, []) :: (15, 0, 0, []) :: (16, 6, 3, []) :: k165_17 ∧ dropTo 17 (mcode 165) = k165_17 ∧ k165_17 = (17, 3, 3, []) :: (18, 5, 0, []) :: (19, 39, 7, [5]) :: (22, 73, 68, []) :: (25, 3, 2, []) :: (26, 60, 41, []) :: (29, 5, 0, []) :: (30, 3, 3, []) :: (31, 49, 164, [1, 7]) :: (34, 62, 41, []) :: (37, 0, 1, []) :: (38, 36, 42, []) :: k165_41 ∧ dropTo 41 (mcode 165) = k165_41 ∧ k165_41 = (41, 0, 0, []) :: k165_42 ∧ dropTo 42 (mcode 165) = k165_42 ∧ k165_42 = (42, 6, 2, []) :: (43, 5, 0, []) :: (44, 3, 3, []) :: (45, 49, 164, [1, 7]) :: (48, 3, 1, []) :: (49, 75, 60, []) :: (52, 5, 0, []) :: (53, 3, 3, []) :: (54, 49, 164, [1, 7]) :: (57, 36, 61, []) :: k165_60 ∧ dropTo 60 (mcode 165) = k165_60 ∧ k165_60 = (60, 3, 1, []) :: k165_61 ∧ dropTo 61 (mcode 165) = k165_61 ∧ k165_61 = (61, 6, 1, []) :: (62, 9, 3, [1]) :: (65, 36, 17, []) :: k165_68 ∧ dropTo 68 (mcode 165) = k165_68 ∧ k165_68 = (68, 3, 2, []) :: (69, 60, 76, []) :: (72, 3, 1, []) :: (73, 36, 78, []) :: k165_76 ∧ dropTo 76 (mcode 165) = k165_76 ∧ k165_76 = (76, 0, (-3), []) :: k165_78 ∧ dropTo 78 (mcode 165) = k165_78 ∧ k165_78 = (78, 52, 0, []) :: [] := ⟨q165_0, rfl, q165_13, rfl, q165_14, rfl, q165_17, rfl, q165_41, rfl, q165_42, rfl, q165_60, rfl, q165_61, rfl, q165_68, rfl, q165_76, rfl, q165_78, rfl⟩
theorem c166 : dropTo 0 (mcode 166) = k166_0 ∧ k166_0 = (0, 5, 0, []) :: (1, 3, 1, []) :: (2, 49, 113, [1, 7]) :: (5, 61, 10, []) :: (8, 0, (-1), []) :: (9, 52, 0, []) :: k166_10 ∧ dropTo 10 (mcode 166) = k166_10 ∧ k166_10 = (10, 5, 0, []) :: (11, 49, 163, [0, 7]) :: (14, 5, 0, []) :: (15, 3, 1, []) :: (16, 49, 164, [1, 7]) :: (19, 63, 27, []) :: (22, 0, (-3), []) :: (24, 36, 32, []) :: k166_27 ∧ dropTo 27 (mcode 166) = k166_27 ∧ k166_27 = (27, 5, 0, []) :: (28, 3, 1, []) :: (29, 49, 164, [1, 7]) :: k166_32 ∧ dropTo 32 (mcode 166) = k166_32 ∧ k166_32 = (32, 52, 0, []) :: [] := ⟨q166_0, rfl, q166_10, rfl, q166_27, rfl, q166_32, rfl⟩
theorem c167 : dropTo 0 (mcode 167) = k167_0 ∧ k167_0 = (0, 5, 0, []) :: (1, 49, 163, [0, 7]) :: (4, 5, 0, []) :: (5, 49, 165, [0, 7]) :: (8, 52, 0, []) :: [] := ⟨q167_0, rfl⟩
theorem c168 : dropTo 0 (mcode 168) = k168_0 ∧ k168_0 = (0, 5, 0, []) :: (1, 3, 1, []) :: (2, 49, 113, [1, 7]) :: (5, 61, 10, []) :: (8, 0, (-1), []) :: (9, 52, 0, []) :: k168_10 ∧ dropTo 10 (mcode 168) = k168_10 ∧ k168_10 = (10, 5, 0, []) :: (11, 49, 163, [0, 7]) :: (14, 5, 0, []) :: (15, 39, 7, [32]) :: (18, 3, 1, []) :: (19, 41, 0, []) :: (20, 52, 0, []) :: [] := ⟨q168_0, rfl, q168_10, rfl⟩
theorem c169 : dropTo 0 (mcode 169) = k169_0 ∧ k169_0 = (0, 3, 1, []) :: (1, 48, 115, [1]) :: (4, 61, 9, []) :: (7, 0, (-1), []) :: (8, 52, 0, []) :: k169_9 ∧ dropTo 9 (mcode 169) = k169_9 ∧ k169_9 = (9, 5, 0, []) :: (10, 49, 163, [0, 7]) :: (13, 5, 0, []) :: (14, 39, 7, [31]) :: (17, 3, 1, []) :: (18, 41, 0, []) :: (19, 52, 0, []) :: [] := ⟨q169_0, rfl, q169_9, rfl⟩
theorem c170 : dropTo 0 (mcode 170) = k170_0 ∧ k170_0 = (0, 3, 1, []) :: (1, 48, 114, [1]) :: (4, 60, 22, []) :: (7, 3, 2, []) :: (8, 5, 0, []) :: (9, 39, 7, [8]) :: (12, 0, 0, []) :: (13, 41, 0, []) :: (14, 0, 119, []) :: (16, 48, 112, [3]) :: (19, 61, 24, []) :: k170_22 ∧ dropTo 22 (mcode 170) = k170_22 ∧ k170_22 = (22, 0, (-1), []) :: (23, 52, 0, []) :: k170_24 ∧ dropTo 24 (mcode 170) = k170_24 ∧ k170_24 = (24, 5, 0, []) :: (25, 49, 161, [0, 7]) :: (28, 5, 0, []) :: (29, 3, 2, []) :: (30, 0, 1, []) :: (31, 10, 0, []) :: (32, 5, 0, []) :: (33, 39, 7, [8]) :: (36, 0, 0, []) :: (37, 41, 0, []) :: (38, 11, 0, []) :: (39, 49, 158, [1, 7]) :: (42, 0, 0, []) :: (43, 6, 3, []) :: (44, 0, 0, []) :: (45, 6, 4, []) :: k170_47 ∧ dropTo 47 (mcode 170) = k170_47 ∧ k170_47 = (47, 3, 4, []) :: (49, 5, 0, []) :: (50, 39, 7, [5]) :: (53, 73, 82, []) :: (56, 3, 3, []) :: (57, 5, 0, []) :: (58, 0, 1, []) :: (59, 3, 4, []) :: (61, 10, 0, []) :: (62, 49, 119, [1, 7]) :: (65, 3, 1, []) :: (66, 71, 73, []) :: (69, 0, 1, []) :: (70, 36, 74, []) :: k170_73 ∧ dropTo 73 (mcode 170) = k170_73 ∧ k170_73 = (73, 0, 0, []) :: k170_74 ∧ dropTo 74 (mcode 170) = k170_74 ∧ k170_74 = (74, 10, 0, []) :: (75, 6, 3, []) :: (76, 9, 4, [1]) :: (79, 36, 47, []) :: k170_82 ∧ dropTo 82 (mcode 170) = k170_82 ∧ k170_82 = (82, 5, 0, []) :: (83, 0, 0, []) :: (84, 40, 7, [9]) :: (87, 3, 3, []) :: (88, 52, 0, []) :: [] := ⟨q170_0, rfl, q170_22, rfl, q170_24, rfl, q170_47, rfl, q170_73, rfl, q170_74, rfl, q170_82, rfl⟩
theorem c171 : dropTo 0 (mcode 171) = k171_0 ∧ k171_0 = (0, 5, 0, []) :: (1, 49, 161, [0, 7]) :: (4, 0, 0, []) :: (5, 6, 1, []) :: k171_6 ∧ dropTo 6 (mcode 171) = k171_6 ∧ k171_6 = (6, 3, 1, []) :: (7, 5, 0, []) :: (8, 39, 7, [5]) :: (11, 73, 40, []) :: (14, 5, 0, []) :: (15, 3, 1, []) :: (16, 0, 0, []) :: (17, 49, 149, [2, 7]) :: (20, 5, 0, []) :: (21, 0, 17, []) :: (23, 3, 1, []) :: (24, 10, 0, []) :: (25, 5, 0, []) :: (26, 39, 7, [8]) :: (29, 0, 0, []) :: (30, 41, 0, []) :: (31, 49, 120, [2, 7]) :: (34, 9, 1, [1]) :: (37, 36, 6, []) :: k171_40 ∧ dropTo 40 (mcode 171) = k171_40 ∧ k171_40 = (40, 5, 0, []) :: (41, 49, 162, [0, 7]) :: (44, 5, 0, []) :: (45, 49, 165, [0, 7]) :: (48, 6, 1, []) :: (49, 3, 1, []) :: (50, 63, 58, []) :: (53, 0, (-3), []) :: (55, 36, 68, []) :: k171_58 ∧ dropTo 58 (mcode 171) = k171_58 ∧ k171_58 = (58, 3, 1, []) :: (59, 5, 0, []) :: (60, 39, 7, [8]) :: (63, 0, 0, []) :: (64, 41, 0, []) :: (65, 11, 0, []) :: (66, 0, 1, []) :: (67, 10, 0, []) :: k171_68 ∧ dropTo 68 (mcode 171) = k171_68 ∧ k171_68 = (68, 52, 0, []) :: [] := ⟨q171_0, rfl, q171_6, rfl, q171_40, rfl, q171_58, rfl, q171_68, rfl⟩
theorem c172 : dropTo 0 (mcode 172) = k172_0 ∧ k172_0 = (0, 5, 0, []) :: (1, 3, 1, []) :: (2, 49, 113, [1, 7]) :: (5, 60, 15, []) :: (8, 3, 2, []) :: (9, 48, 117, [1]) :: (12, 61, 17, []) :: k172_15 ∧ dropTo 15 (mcode 172) = k172_15 ∧ k172_15 = (15, 0, (-1), []) :: (16, 52, 0, []) :: k172_17 ∧ dropTo 17 (mcode 172) = k172_17 ∧ k172_17 = (17, 0, 99, []) :: (19, 6, 3, []) :: k172_20 ∧ dropTo 20 (mcode 172) = k172_20 ∧ k172_20 = (20, 3, 3, []) :: (21, 5, 0, []) :: (22, 39, 7, [8]) :: (25, 0, 0, []) :: (26, 41, 0, []) :: (27, 72, 81, []) :: (30, 5, 0, []) :: (31, 49, 161, [0, 7]) :: (34, 5, 0, []) :: (35, 3, 1, []) :: (36, 5, 0, []) :: (37, 0, 9, []) :: (39, 3, 1, []) :: (40, 10, 0, []) :: (41, 49, 119, [1, 7]) :: (44, 49, 149, [2, 7]) :: (47, 5, 0, []) :: (48, 0, 17, []) :: (50, 3, 1, []) :: (51, 10, 0, []) :: (52, 3, 3, []) :: (53, 49, 120, [2, 7]) :: (56, 5, 0, []) :: (57, 49, 162, [0, 7]) :: (60, 5, 0, []) :: (61, 3, 1, []) :: (62, 49, 164, [1, 7]) :: (65, 0, 0, []) :: (66, 3, 2, []) :: (67, 48, 112, [3]) :: (70, 60, 75, []) :: (73, 3, 3, []) :: (74, 52, 0, []) :: k172_75 ∧ dropTo 75 (mcode 172) = k172_75 ∧ k172_75 = (75, 9, 3, [(-1)]) :: (78, 36, 20, []) :: k172_81 ∧ dropTo 81 (mcode 172) = k172_81 ∧ k172_81 = (81, 0, (-3), []) :: (83, 52, 0, []) :: [] := ⟨q172_0, rfl, q172_15, rfl, q172_17, rfl, q172_20, rfl, q172_75, rfl, q172_81, rfl⟩
theorem c173 : dropTo 0 (mcode 173) = k173_0 ∧ k173_0 = (0, 0, (-3), []) :: (2, 6, 1, []) :: (3, 0, 0, []) :: (4, 6, 2, []) :: (5, 0, 0, []) :: (6, 6, 3, []) :: k173_7 ∧ dropTo 7 (mcode 173) = k173_7 ∧ k173_7 = (7, 3, 3, []) :: (8, 0, 64, []) :: (10, 73, 146, []) :: (13, 3, 3, []) :: (14, 0, 8, []) :: (16, 13, 0, []) :: (17, 6, 4, []) :: (19, 3, 3, []) :: (20, 0, 8, []) :: (22, 14, 0, []) :: (23, 6, 5, []) :: (25, 3, 4, []) :: (27, 3, 5, []) :: (29, 73, 140, []) :: (32, 5, 0, []) :: (33, 3, 5, []) :: (35, 49, 113, [1, 7]) :: (38, 60, 140, []) :: (41, 5, 0, []) :: (42, 39, 7, [8]) :: (45, 0, 33, []) :: (47, 3, 4, []) :: (49, 10, 0, []) :: (50, 41, 0, []) :: (51, 63, 140, []) :: (54, 5, 0, []) :: (55, 39, 7, [8]) :: (58, 0, 33, []) :: (60, 3, 5, []) :: (62, 10, 0, []) :: (63, 41, 0, []) :: (64, 63, 140, []) :: (67, 5, 0, []) :: (68, 49, 161, [0, 7]) :: (71, 5, 0, []) :: (72, 3, 4, []) :: (74, 5, 0, []) :: (75, 39, 7, [8]) :: (78, 0, 9, []) :: (80, 3, 5, []) :: (82, 10, 0, []) :: (83, 41, 0, []) :: (84, 49, 149, [2, 7]) :: (87, 5, 0, []) :: (88, 3, 5, []) :: (90, 5, 0, []) :: (91, 39, 7, [8]) :: (94, 0, 9, []) :: (96, 3, 4, []) :: (98, 10, 0, []) :: (99, 41, 0, []) :: (100, 49, 149, [2, 7]) :: (103, 5, 0, []) :: (104, 49, 162, [0, 7]) :: (107, 5, 0, []) :: (108, 49, 165, [0, 7]) :: (111, 6, 6, []) :: (113, 3, 6, []) :: (115, 62, 140, []) :: (118, 3, 1, []) :: (119, 62, 128, []) :: (122, 3, 6, []) :: (124, 3, 2, []) :: (125, 73, 140, []) :: k173_128 ∧ dropTo 128 (mcode 173) = k173_128 ∧ k173_128 = (128, 0, 10, []) :: (130, 3, 4, []) :: (132, 12, 0, []) :: (133, 3, 5, []) :: (135, 10, 0, []) :: (136, 6, 1, []) :: (137, 3, 6, []) :: (139, 6, 2, []) :: k173_140 ∧ dropTo 140 (mcode 173) = k173_140 ∧ k173_140 = (140, 9, 3, [1]) :: (143, 36, 7, []) :: k173_146 ∧ dropTo 146 (mcode 173) = k173_146 ∧ k173_146 = (146, 3, 1, []) :: (147, 52, 0, []) :: [] := ⟨q173_0, rfl, q173_7, rfl, q173_128, rfl, q173_140, rfl, q173_146, rfl⟩
theorem c174 : dropTo 0 (mcode 174) = k174_0 ∧ k174_0 = (0, 3, 1, []) :: (1, 48, 117, [1]) :: (4, 61, 9, []) :: (7, 0, (-1), []) :: (8, 52, 0, []) :: k174_9 ∧ dropTo 9 (mcode 174) = k174_9 ∧ k174_9 = (9, 5, 0, []) :: (10, 39, 7, [0]) :: (13, 6, 2, []) :: (14, 0, (-3), []) :: (16, 6, 3, []) :: (17, 0, 9, []) :: (19, 6, 4, []) :: k174_21 ∧ dropTo 21 (mcode 174) = k174_21 ∧ k174_21 = (21, 3, 4, []) :: (23, 65, 101, []) :: (26, 5, 0, []) :: (27, 3, 4, []) :: (29, 40, 7, [0]) :: (32, 5, 0, []) :: (33, 49, 163, [0, 7]) :: (36, 0, 1, []) :: (37, 6, 5, []) :: (39, 0, 0, []) :: (40, 6, 6, []) :: k174_42 ∧ dropTo 42 (mcode 174) = k174_42 ∧ k174_42 = (42, 3, 6, []) :: (44, 5, 0, []) :: (45, 39, 7, [5]) :: (48, 73, 83, []) :: (51, 3, 5, []) :: (53, 60, 74, []) :: (56, 5, 0, []) :: (57, 3, 6, []) :: (59, 49, 164, [1, 7]) :: (62, 0, 0, []) :: (63, 3, 1, []) :: (64, 48, 112, [3]) :: (67, 60, 74, []) :: (70, 0, 1, []) :: (71, 36, 75, []) :: k174_74 ∧ dropTo 74 (mcode 174) = k174_74 ∧ k174_74 = (74, 0, 0, []) :: k174_75 ∧ dropTo 75 (mcode 174) = k174_75 ∧ k174_75 = (75, 6, 5, []) :: (77, 9, 6, [1]) :: (80, 36, 42, []) :: k174_83 ∧ dropTo 83 (mcode 174) = k174_83 ∧ k174_83 = (83, 3, 5, []) :: (85, 60, 93, []) :: (88, 3, 4, []) :: (90, 36, 94, []) :: k174_93 ∧ dropTo 93 (mcode 174) = k174_93 ∧ k174_93 = (93, 3, 3, []) :: k174_94 ∧ dropTo 94 (mcode 174) = k174_94 ∧ k174_94 = (94, 6, 3, []) :: (95, 9, 4, [(-1)]) :: (98, 36, 21, []) :: k174_101 ∧ dropTo 101 (mcode 174) = k174_101 ∧ k174_101 = (101, 5, 0, []) :: (102, 3, 2, []) :: (103, 40, 7, [0]) :: (106, 3, 3, []) :: (107, 52, 0, []) :: [] := ⟨q174_0, rfl, q174_9, rfl, q174_21, rfl, q174_42, rfl, q174_74, rfl, q174_75, rfl, q174_83, rfl, q174_93, rfl, q174_94, rfl, q174_101, rfl⟩
theorem c175 : dropTo 0 (mcode 175) = k175_0 ∧ k175_0 = (0, 3, 1, []) :: (1, 0, 1, []) :: (2, 0, 30, []) :: (4, 48, 112, [3]) :: (7, 61, 12, []) :: (10, 0, (-1), []) :: (11, 52, 0, []) :: k175_12 ∧ dropTo 12 (mcode 175) = k175_12 ∧ k175_12 = (12, 5, 0, []) :: (13, 39, 7, [1]) :: (16, 0, 4, []) :: (17, 71, 23, []) :: (20, 0, (-2), []) :: (22, 52, 0, []) :: k175_23 ∧ dropTo 23 (mcode 175) = k175_23 ∧ k175_23 = (23, 5, 0, []) :: (24, 39, 7, [8]) :: (27, 0, 0, []) :: (28, 41, 0, []) :: (29, 0, 99, []) :: (31, 75, 37, []) :: (34, 0, (-4), []) :: (36, 52, 0, []) :: k175_37 ∧ dropTo 37 (mcode 175) = k175_37 ∧ k175_37 = (37, 0, 0, []) :: (38, 6, 2, []) :: (39, 0, (-1), []) :: (40, 6, 3, []) :: (41, 0, 0, []) :: (42, 6, 4, []) :: k175_44 ∧ dropTo 44 (mcode 175) = k175_44 ∧ k175_44 = (44, 3, 4, []) :: (46, 0, 9, []) :: (48, 73, 129, []) :: (51, 5, 0, []) :: (52, 3, 4, []) :: (54, 5, 0, []) :: (55, 39, 7, [8]) :: (58, 0, 0, []) :: (59, 41, 0, []) :: (60, 3, 1, []) :: (61, 49, 138, [3, 7]) :: (64, 5, 0, []) :: (65, 49, 163, [0, 7]) :: (68, 5, 0, []) :: (69, 49, 165, [0, 7]) :: (72, 63, 81, []) :: (75, 0, 999, []) :: (78, 36, 85, []) :: k175_81 ∧ dropTo 81 (mcode 175) = k175_81 ∧ k175_81 = (81, 5, 0, []) :: (82, 49, 165, [0, 7]) :: k175_85 ∧ dropTo 85 (mcode 175) = k175_85 ∧ k175_85 = (85, 6, 5, []) :: (87, 5, 0, []) :: (88, 32, 0, []) :: (89, 39, 7, [1]) :: (92, 0, 1, []) :: (93, 11, 0, []) :: (94, 40, 7, [1]) :: (97, 3, 5, []) :: (99, 3, 3, []) :: (100, 75, 108, []) :: (103, 3, 4, []) :: (105, 36, 109, []) :: k175_108 ∧ dropTo 108 (mcode 175) = k175_108 ∧ k175_108 = (108, 3, 2, []) :: k175_109 ∧ dropTo 109 (mcode 175) = k175_109 ∧ k175_109 = (109, 6, 2, []) :: (110, 3, 5, []) :: (112, 3, 3, []) :: (113, 75, 121, []) :: (116, 3, 5, []) :: (118, 36, 122, []) :: k175_121 ∧ dropTo 121 (mcode 175) = k175_121 ∧ k175_121 = (121, 3, 3, []) :: k175_122 ∧ dropTo 122 (mcode 175) = k175_122 ∧ k175_122 = (122, 6, 3, []) :: (123, 9, 4, [1]) :: (126, 36, 44, []) :: k175_129 ∧ dropTo 129 (mcode 175) = k175_129 ∧ k175_129 = (129, 3, 2, []) :: (130, 52, 0, []) :: [] := ⟨q175_0, rfl, q175_12, rfl, q175_23, rfl, q175_37, rfl, q175_44, rfl, q175_81, rfl, q175_85, rfl, q175_108, rfl, q175_109, rfl, q175_121, rfl, q175_122, rfl, q175_129, rfl⟩
theorem c176 : dropTo 0 (mcode 176) = k176_0 ∧ k176_0 = (0, 5, 0, []) :: (1, 49, 161, [0, 7]) :: (4, 0, 0, []) :: (5, 6, 2, []) :: k176_6 ∧ dropTo 6 (mcode 176) = k176_6 ∧ k176_6 = (6, 3, 2, []) :: (7, 5, 0, []) :: (8, 39, 7, [5]) :: (11, 73, 26, []) :: (14, 5, 0, []) :: (15, 3, 2, []) :: (16, 3, 1, []) :: (17, 49, 149, [2, 7]) :: (20, 9, 2, [1]) :: (23, 36, 6, []) :: k176_26 ∧ dropTo 26 (mcode 176) = k176_26 ∧ k176_26 = (26, 5, 0, []) :: (27, 49, 162, [0, 7]) :: (30, 0, 0, []) :: (31, 6, 2, []) :: (32, 0, 0, []) :: (33, 6, 3, []) :: k176_34 ∧ dropTo 34 (mcode 176) = k176_34 ∧ k176_34 = (34, 3, 3, []) :: (35, 5, 0, []) :: (36, 39, 7, [5]) :: (39, 73, 80, []) :: (42, 3, 2, []) :: (43, 5, 0, []) :: (44, 3, 3, []) :: (45, 49, 164, [1, 7]) :: (48, 63, 57, []) :: (51, 0, 200, []) :: (54, 36, 72, []) :: k176_57 ∧ dropTo 57 (mcode 176) = k176_57 ∧ k176_57 = (57, 5, 0, []) :: (58, 3, 3, []) :: (59, 49, 164, [1, 7]) :: (62, 5, 0, []) :: (63, 39, 7, [8]) :: (66, 0, 17, []) :: (68, 3, 3, []) :: (69, 10, 0, []) :: (70, 41, 0, []) :: (71, 11, 0, []) :: k176_72 ∧ dropTo 72 (mcode 176) = k176_72 ∧ k176_72 = (72, 10, 0, []) :: (73, 6, 2, []) :: (74, 9, 3, [1]) :: (77, 36, 34, []) :: k176_80 ∧ dropTo 80 (mcode 176) = k176_80 ∧ k176_80 = (80, 3, 2, []) :: (81, 52, 0, []) :: [] := ⟨q176_0, rfl, q176_6, rfl, q176_26, rfl, q176_34, rfl, q176_57, rfl, q176_72, rfl, q176_80, rfl⟩
theorem c177 : dropTo 0 (mcode 177) = k177_0 ∧ k177_0 = (0, 3, 1, []) :: (1, 48, 114, [1]) :: (4, 60, 15, []) :: (7, 5, 0, []) :: (8, 3, 1, []) :: (9, 49, 176, [1, 7]) :: (12, 36, 16, []) :: k177_15 ∧ dropTo 15 (mcode 177) = k177_15 ∧ k177_15 = (15, 0, (-1), []) :: k177_16 ∧ dropTo 16 (mcode 177) = k177_16 ∧ k177_16 = (16, 52, 0, []) :: [] := ⟨q177_0, rfl, q177_15, rfl, q177_16, rfl⟩
theorem c178 : dropTo 0 (mcode 178) = k178_0 ∧ k178_0 = (0, 0, 0, []) :: (1, 6, 1, []) :: (2, 5, 0, []) :: (3, 0, 0, []) :: (4, 49, 176, [1, 7]) :: (7, 6, 2, []) :: (8, 0, 1, []) :: (9, 6, 3, []) :: k178_10 ∧ dropTo 10 (mcode 178) = k178_10 ∧ k178_10 = (10, 3, 3, []) :: (11, 0, 10, []) :: (13, 73, 54, []) :: (16, 5, 0, []) :: (17, 3, 3, []) :: (18, 49, 176, [1, 7]) :: (21, 6, 4, []) :: (23, 3, 4, []) :: (25, 3, 2, []) :: (26, 73, 33, []) :: (29, 3, 3, []) :: (30, 36, 34, []) :: k178_33 ∧ dropTo 33 (mcode 178) = k178_33 ∧ k178_33 = (33, 3, 1, []) :: k178_34 ∧ dropTo 34 (mcode 178) = k178_34 ∧ k178_34 = (34, 6, 1, []) :: (35, 3, 4, []) :: (37, 3, 2, []) :: (38, 73, 46, []) :: (41, 3, 4, []) :: (43, 36, 47, []) :: k178_46 ∧ dropTo 46 (mcode 178) = k178_46 ∧ k178_46 = (46, 3, 2, []) :: k178_47 ∧ dropTo 47 (mcode 178) = k178_47 ∧ k178_47 = (47, 6, 2, []) :: (48, 9, 3, [1]) :: (51, 36, 10, []) :: k178_54 ∧ dropTo 54 (mcode 178) = k178_54 ∧ k178_54 = (54, 3, 1, []) :: (55, 52, 0, []) :: [] := ⟨q178_0, rfl, q178_10, rfl, q178_33, rfl, q178_34, rfl, q178_46, rfl, q178_47, rfl, q178_54, rfl⟩
theorem c179 : dropTo 0 (mcode 179) = k179_0 ∧ k179_0 = (0, 5, 0, []) :: (1, 39, 7, [10]) :: (4, 6, 2, []) :: (5, 5, 0, []) :: (6, 3, 1, []) :: (7, 40, 7, [10]) :: (10, 3, 2, []) :: (11, 52, 0, []) :: [] := ⟨q179_0, rfl⟩
theorem c180 : dropTo 0 (mcode 180) = k180_0 ∧ k180_0 = (0, 5, 0, []) :: (1, 3, 1, []) :: (2, 49, 113, [1, 7]) :: (5, 61, 10, []) :: (8, 0, (-1), []) :: (9, 52, 0, []) :: k180_10 ∧ dropTo 10 (mcode 180) = k180_10 ∧ k180_10 = (10, 5, 0, []) :: (11, 5, 0, []) :: (12, 39, 7, [10]) :: (15, 0, 1103515245, []) :: (18, 12, 0, []) :: (19, 0, 12345, []) :: (22, 10, 0, []) :: (23, 40, 7, [10]) :: (26, 5, 0, []) :: (27, 39, 7, [8]) :: (30, 0, 17, []) :: (32, 3, 1, []) :: (33, 10, 0, []) :: (34, 5, 0, []) :: (35, 39, 7, [10]) :: (38, 0, 16, []) :: (40, 20, 0, []) :: (41, 0, 100, []) :: (43, 14, 0, []) :: (44, 42, 0, []) :: (45, 5, 0, []) :: (46, 39, 7, [8]) :: (49, 0, 17, []) :: (51, 3, 1, []) :: (52, 10, 0, []) :: (53, 41, 0, []) :: (54, 52, 0, []) :: [] := ⟨q180_0, rfl, q180_10, rfl⟩
theorem c181 : dropTo 0 (mcode 181) = k181_0 ∧ k181_0 = (0, 5, 0, []) :: (1, 49, 161, [0, 7]) :: (4, 5, 0, []) :: (5, 0, 0, []) :: (6, 40, 7, [36]) :: k181_9 ∧ dropTo 9 (mcode 181) = k181_9 ∧ k181_9 = (9, 5, 0, []) :: (10, 39, 7, [36]) :: (13, 3, 1, []) :: (14, 73, 145, []) :: (17, 5, 0, []) :: (18, 0, 0, []) :: (19, 49, 119, [1, 7]) :: (22, 0, 120, []) :: (24, 73, 145, []) :: (27, 5, 0, []) :: (28, 39, 7, [34]) :: (31, 0, 3, []) :: (32, 5, 0, []) :: (33, 39, 7, [36]) :: (36, 12, 0, []) :: (37, 5, 0, []) :: (38, 0, 0, []) :: (39, 49, 119, [1, 7]) :: (42, 42, 0, []) :: (43, 5, 0, []) :: (44, 0, 1, []) :: (45, 49, 158, [1, 7]) :: (48, 0, 0, []) :: (49, 6, 2, []) :: (50, 0, 0, []) :: (51, 6, 3, []) :: (52, 0, 0, []) :: (53, 6, 4, []) :: k181_55 ∧ dropTo 55 (mcode 181) = k181_55 ∧ k181_55 = (55, 3, 4, []) :: (57, 5, 0, []) :: (58, 39, 7, [5]) :: (61, 73, 104, []) :: (64, 3, 2, []) :: (65, 5, 0, []) :: (66, 0, 33, []) :: (68, 3, 4, []) :: (70, 10, 0, []) :: (71, 49, 119, [1, 7]) :: (74, 63, 81, []) :: (77, 0, 0, []) :: (78, 36, 85, []) :: k181_81 ∧ dropTo 81 (mcode 181) = k181_81 ∧ k181_81 = (81, 0, 1, []) :: (82, 3, 4, []) :: (84, 18, 0, []) :: k181_85 ∧ dropTo 85 (mcode 181) = k181_85 ∧ k181_85 = (85, 16, 0, []) :: (86, 6, 2, []) :: (87, 3, 3, []) :: (88, 5, 0, []) :: (89, 0, 1, []) :: (90, 3, 4, []) :: (92, 10, 0, []) :: (93, 49, 119, [1, 7]) :: (96, 10, 0, []) :: (97, 6, 3, []) :: (98, 9, 4, [1]) :: (101, 36, 55, []) :: k181_104 ∧ dropTo 104 (mcode 181) = k181_104 ∧ k181_104 = (104, 5, 0, []) :: (105, 39, 7, [34]) :: (108, 0, 3, []) :: (109, 5, 0, []) :: (110, 39, 7, [36]) :: (113, 12, 0, []) :: (114, 0, 1, []) :: (115, 10, 0, []) :: (116, 3, 2, []) :: (117, 42, 0, []) :: (118, 5, 0, []) :: (119, 39, 7, [34]) :: (122, 0, 3, []) :: (123, 5, 0, []) :: (124, 39, 7, [36]) :: (127, 12, 0, []) :: (128, 0, 2, []) :: (129, 10, 0, []) :: (130, 3, 3, []) :: (131, 42, 0, []) :: (132, 5, 0, []) :: (133, 32, 0, []) :: (134, 39, 7, [36]) :: (137, 0, 1, []) :: (138, 10, 0, []) :: (139, 40, 7, [36]) :: (142, 36, 9, []) :: k181_145 ∧ dropTo 145 (mcode 181) = k181_145 ∧ k181_145 = (145, 5, 0, []) :: (146, 0, 0, []) :: (147, 40, 7, [9]) :: (150, 54, 0, []) :: [] := ⟨q181_0, rfl, q181_9, rfl, q181_55, rfl, q181_81, rfl, q181_85, rfl, q181_104, rfl, q181_145, rfl⟩
theorem c182 : dropTo 0 (mcode 182) = k182_0 ∧ k182_0 = (0, 3, 1, []) :: (1, 0, 1, []) :: (2, 0, 20, []) :: (4, 48, 112, [3]) :: (7, 61, 12, []) :: (10, 0, (-1), []) :: (11, 52, 0, []) :: k182_12 ∧ dropTo 12 (mcode 182) = k182_12 ∧ k182_12 = (12, 5, 0, []) :: (13, 3, 1, []) :: (14, 49, 181, [1, 7]) :: (17, 5, 0, []) :: (18, 5, 0, []) :: (19, 39, 7, [36]) :: (22, 40, 7, [35]) :: (25, 0, 0, []) :: (26, 6, 2, []) :: k182_27 ∧ dropTo 27 (mcode 182) = k182_27 ∧ k182_27 = (27, 3, 2, []) :: (28, 0, 3, []) :: (29, 5, 0, []) :: (30, 39, 7, [35]) :: (33, 12, 0, []) :: (34, 73, 55, []) :: (37, 5, 0, []) :: (38, 39, 7, [33]) :: (41, 3, 2, []) :: (42, 5, 0, []) :: (43, 39, 7, [34]) :: (46, 3, 2, []) :: (47, 41, 0, []) :: (48, 42, 0, []) :: (49, 9, 2, [1]) :: (52, 36, 27, []) :: k182_55 ∧ dropTo 55 (mcode 182) = k182_55 ∧ k182_55 = (55, 5, 0, []) :: (56, 39, 7, [35]) :: (59, 52, 0, []) :: [] := ⟨q182_0, rfl, q182_12, rfl, q182_27, rfl, q182_55, rfl⟩
theorem c183 : dropTo 0 (mcode 183) = k183_0 ∧ k183_0 = (0, 3, 1, []) :: (1, 0, 0, []) :: (2, 5, 0, []) :: (3, 39, 7, [35]) :: (6, 0, 1, []) :: (7, 11, 0, []) :: (8, 48, 112, [3]) :: (11, 60, 27, []) :: (14, 3, 2, []) :: (15, 0, 0, []) :: (16, 0, 2, []) :: (17, 48, 112, [3]) :: (20, 60, 27, []) :: (23, 0, 1, []) :: (24, 36, 28, []) :: k183_27 ∧ dropTo 27 (mcode 183) = k183_27 ∧ k183_27 = (27, 0, 0, []) :: k183_28 ∧ dropTo 28 (mcode 183) = k183_28 ∧ k183_28 = (28, 53, 0, []) :: [] := ⟨q183_0, rfl, q183_27, rfl, q183_28, rfl⟩
theorem c184 : dropTo 0 (mcode 184) = k184_0 ∧ k184_0 = (0, 5, 0, []) :: (1, 3, 1, []) :: (2, 3, 2, []) :: (3, 49, 183, [2, 7]) :: (6, 60, 22, []) :: (9, 5, 0, []) :: (10, 39, 7, [33]) :: (13, 0, 3, []) :: (14, 3, 1, []) :: (15, 12, 0, []) :: (16, 3, 2, []) :: (17, 10, 0, []) :: (18, 41, 0, []) :: (19, 36, 24, []) :: k184_22 ∧ dropTo 22 (mcode 184) = k184_22 ∧ k184_22 = (22, 0, (-9), []) :: k184_24 ∧ dropTo 24 (mcode 184) = k184_24 ∧ k184_24 = (24, 52, 0, []) :: [] := ⟨q184_0, rfl, q184_22, rfl, q184_24, rfl⟩
theorem c185 : dropTo 0 (mcode 185) = k185_0 ∧ k185_0 = (0, 5, 0, []) :: (1, 3, 1, []) :: (2, 3, 2, []) :: (3, 49, 183, [2, 7]) :: (6, 61, 12, []) :: (9, 0, (-9), []) :: (11, 52, 0, []) :: k185_12 ∧ dropTo 12 (mcode 185) = k185_12 ∧ k185_12 = (12, 5, 0, []) :: (13, 39, 7, [33]) :: (16, 0, 3, []) :: (17, 3, 1, []) :: (18, 12, 0, []) :: (19, 3, 2, []) :: (20, 10, 0, []) :: (21, 41, 0, []) :: (22, 6, 4, []) :: (24, 5, 0, []) :: (25, 39, 7, [33]) :: (28, 0, 3, []) :: (29, 3, 1, []) :: (30, 12, 0, []) :: (31, 3, 2, []) :: (32, 10, 0, []) :: (33, 3, 3, []) :: (34, 42, 0, []) :: (35, 3, 4, []) :: (37, 52, 0, []) :: [] := ⟨q185_0, rfl, q185_12, rfl⟩
theorem c186 : dropTo 0 (mcode 186) = k186_0 ∧ k186_0 = (0, 5, 0, []) :: (1, 5, 0, []) :: (2, 39, 7, [35]) :: (5, 49, 181, [1, 7]) :: (8, 0, 0, []) :: (9, 6, 1, []) :: k186_10 ∧ dropTo 10 (mcode 186) = k186_10 ∧ k186_10 = (10, 3, 1, []) :: (11, 5, 0, []) :: (12, 39, 7, [35]) :: (15, 73, 92, []) :: (18, 3, 1, []) :: (19, 5, 0, []) :: (20, 39, 7, [36]) :: (23, 73, 30, []) :: (26, 0, 1, []) :: (27, 36, 31, []) :: k186_30 ∧ dropTo 30 (mcode 186) = k186_30 ∧ k186_30 = (30, 0, 0, []) :: k186_31 ∧ dropTo 31 (mcode 186) = k186_31 ∧ k186_31 = (31, 6, 2, []) :: (32, 0, 0, []) :: (33, 6, 3, []) :: k186_34 ∧ dropTo 34 (mcode 186) = k186_34 ∧ k186_34 = (34, 3, 3, []) :: (35, 0, 3, []) :: (36, 73, 78, []) :: (39, 3, 2, []) :: (40, 60, 78, []) :: (43, 5, 0, []) :: (44, 39, 7, [33]) :: (47, 0, 3, []) :: (48, 3, 1, []) :: (49, 12, 0, []) :: (50, 3, 3, []) :: (51, 10, 0, []) :: (52, 41, 0, []) :: (53, 5, 0, []) :: (54, 39, 7, [34]) :: (57, 0, 3, []) :: (58, 3, 1, []) :: (59, 12, 0, []) :: (60, 3, 3, []) :: (61, 10, 0, []) :: (62, 41, 0, []) :: (63, 71, 70, []) :: (66, 0, 1, []) :: (67, 36, 71, []) :: k186_70 ∧ dropTo 70 (mcode 186) = k186_70 ∧ k186_70 = (70, 0, 0, []) :: k186_71 ∧ dropTo 71 (mcode 186) = k186_71 ∧ k186_71 = (71, 6, 2, []) :: (72, 9, 3, [1]) :: (75, 36, 34, []) :: k186_78 ∧ dropTo 78 (mcode 186) = k186_78 ∧ k186_78 = (78, 3, 2, []) :: (79, 61, 86, []) :: (82, 3, 1, []) :: (83, 0, 1, []) :: (84, 10, 0, []) :: (85, 52, 0, []) :: k186_86 ∧ dropTo 86 (mcode 186) = k186_86 ∧ k186_86 = (86, 9, 1, [1]) :: (89, 36, 10, []) :: k186_92 ∧ dropTo 92 (mcode 186) = k186_92 ∧ k186_92 = (92, 0, 0, []) :: (93, 52, 0, []) :: [] := ⟨q186_0, rfl, q186_10, rfl, q186_30, rfl, q186_31, rfl, q186_34, rfl, q186_70, rfl, q186_71, rfl, q186_78, rfl, q186_86, rfl, q186_92, rfl⟩
theorem c187 : dropTo 0 (mcode 187) = k187_0 ∧ k187_0 = (0, 3, 1, []) :: (1, 48, 188, [1]) :: (4, 60, 37, []) :: (7, 5, 0, []) :: (8, 3, 3, []) :: (9, 49, 113, [1, 7]) :: (12, 60, 37, []) :: (15, 3, 4, []) :: (17, 0, 0, []) :: (18, 0, 8, []) :: (20, 48, 112, [3]) :: (23, 60, 37, []) :: (26, 3, 3, []) :: (27, 3, 4, []) :: (29, 10, 0, []) :: (30, 5, 0, []) :: (31, 39, 7, [5]) :: (34, 75, 39, []) :: k187_37 ∧ dropTo 37 (mcode 187) = k187_37 ∧ k187_37 = (37, 0, (-1), []) :: (38, 52, 0, []) :: k187_39 ∧ dropTo 39 (mcode 187) = k187_39 ∧ k187_39 = (39, 5, 0, []) :: (40, 3, 1, []) :: (41, 0, 1, []) :: (42, 49, 191, [2, 7]) :: (45, 6, 5, []) :: (47, 3, 5, []) :: (49, 60, 55, []) :: (52, 3, 5, []) :: (54, 52, 0, []) :: k187_55 ∧ dropTo 55 (mcode 187) = k187_55 ∧ k187_55 = (55, 3, 2, []) :: (56, 62, 72, []) :: (59, 3, 2, []) :: (60, 5, 0, []) :: (61, 39, 7, [38]) :: (64, 3, 1, []) :: (65, 41, 0, []) :: (66, 3, 4, []) :: (68, 11, 0, []) :: (69, 75, 75, []) :: k187_72 ∧ dropTo 72 (mcode 187) = k187_72 ∧ k187_72 = (72, 0, (-12), []) :: (74, 52, 0, []) :: k187_75 ∧ dropTo 75 (mcode 187) = k187_75 ∧ k187_75 = (75, 0, 0, []) :: (76, 6, 6, []) :: k187_78 ∧ dropTo 78 (mcode 187) = k187_78 ∧ k187_78 = (78, 3, 6, []) :: (80, 3, 4, []) :: (82, 73, 147, []) :: (85, 5, 0, []) :: (86, 39, 7, [39]) :: (89, 0, 40, []) :: (91, 3, 1, []) :: (92, 12, 0, []) :: (93, 3, 2, []) :: (94, 10, 0, []) :: (95, 3, 6, []) :: (97, 10, 0, []) :: (98, 45, 0, []) :: (99, 7, 7, []) :: (101, 5, 0, []) :: (102, 39, 7, [8]) :: (105, 0, 17, []) :: (107, 3, 3, []) :: (108, 10, 0, []) :: (109, 3, 6, []) :: (111, 10, 0, []) :: (112, 4, 7, []) :: (114, 1, 0, []) :: (115, 27, 0, []) :: (116, 63, 123, []) :: (119, 0, 0, []) :: (120, 36, 140, []) :: k187_123 ∧ dropTo 123 (mcode 187) = k187_123 ∧ k187_123 = (123, 4, 7, []) :: (125, 1, 99, []) :: (128, 27, 0, []) :: (129, 65, 137, []) :: (132, 0, 99, []) :: (134, 36, 140, []) :: k187_137 ∧ dropTo 137 (mcode 187) = k187_137 ∧ k187_137 = (137, 4, 7, []) :: (139, 29, 0, []) :: k187_140 ∧ dropTo 140 (mcode 187) = k187_140 ∧ k187_140 = (140, 42, 0, []) :: (141, 9, 6, [1]) :: (144, 36, 78, []) :: k187_147 ∧ dropTo 147 (mcode 187) = k187_147 ∧ k187_147 = (147, 3, 4, []) :: (149, 52, 0, []) :: [] := ⟨q187_0, rfl, q187_37, rfl, q187_39, rfl, q187_55, rfl, q187_72, rfl, q187_75, rfl, q187_78, rfl, q187_123, rfl, q187_137, rfl, q187_140, rfl, q187_147, rfl⟩
theorem c188 : dropTo 0 (mcode 188) = k188_0 ∧ k188_0 = (0, 3, 0, []) :: (1, 0, 0, []) :: (2, 0, 3, []) :: (3, 48, 112, [3]) :: (6, 53, 0, []) :: [] := ⟨q188_0, rfl⟩
theorem c189 : dropTo 0 (mcode 189) = k189_0 ∧ k189_0 = (0, 3, 1, []) :: (1, 48, 188, [1]) :: (4, 60, 26, []) :: (7, 3, 2, []) :: (8, 0, (-1), []) :: (9, 0, 3, []) :: (10, 48, 112, [3]) :: (13, 60, 26, []) :: (16, 3, 2, []) :: (17, 62, 28, []) :: (20, 3, 3, []) :: (21, 0, 40, []) :: (23, 75, 28, []) :: k189_26 ∧ dropTo 26 (mcode 189) = k189_26 ∧ k189_26 = (26, 0, (-1), []) :: (27, 52, 0, []) :: k189_28 ∧ dropTo 28 (mcode 189) = k189_28 ∧ k189_28 = (28, 3, 2, []) :: (29, 62, 39, []) :: (32, 3, 3, []) :: (33, 63, 39, []) :: (36, 0, (-14), []) :: (38, 52, 0, []) :: k189_39 ∧ dropTo 39 (mcode 189) = k189_39 ∧ k189_39 = (39, 5, 0, []) :: (40, 39, 7, [37]) :: (43, 3, 1, []) :: (44, 3, 2, []) :: (45, 42, 0, []) :: (46, 5, 0, []) :: (47, 39, 7, [38]) :: (50, 3, 1, []) :: (51, 3, 2, []) :: (52, 63, 59, []) :: (55, 0, 0, []) :: (56, 36, 60, []) :: k189_59 ∧ dropTo 59 (mcode 189) = k189_59 ∧ k189_59 = (59, 3, 3, []) :: k189_60 ∧ dropTo 60 (mcode 189) = k189_60 ∧ k189_60 = (60, 42, 0, []) :: (61, 0, 0, []) :: (62, 6, 4, []) :: k189_64 ∧ dropTo 64 (mcode 189) = k189_64 ∧ k189_64 = (64, 3, 4, []) :: (66, 0, 40, []) :: (68, 73, 90, []) :: (71, 5, 0, []) :: (72, 39, 7, [39]) :: (75, 0, 40, []) :: (77, 3, 1, []) :: (78, 12, 0, []) :: (79, 3, 4, []) :: (81, 10, 0, []) :: (82, 1, 0, []) :: (83, 46, 0, []) :: (84, 9, 4, [1]) :: (87, 36, 64, []) :: k189_90 ∧ dropTo 90 (mcode 189) = k189_90 ∧ k189_90 = (90, 0, 1, []) :: (91, 52, 0, []) :: [] := ⟨q189_0, rfl, q189_26, rfl, q189_28, rfl, q189_39, rfl, q189_59, rfl, q189_60, rfl, q189_64, rfl, q189_90, rfl⟩
theorem c190 : dropTo 0 (mcode 190) = k190_0 ∧ k190_0 = (0, 3, 1, []) :: (1, 48, 188, [1]) :: (4, 61, 9, []) :: (7, 0, (-1), []) :: (8, 52, 0, []) :: k190_9 ∧ dropTo 9 (mcode 190) = k190_9 ∧ k190_9 = (9, 5, 0, []) :: (10, 39, 7, [37]) :: (13, 3, 1, []) :: (14, 41, 0, []) :: (15, 63, 21, []) :: (18, 0, (-11), []) :: (20, 52, 0, []) :: k190_21 ∧ dropTo 21 (mcode 190) = k190_21 ∧ k190_21 = (21, 3, 2, []) :: (22, 0, 0, []) :: (23, 5, 0, []) :: (24, 39, 7, [38]) :: (27, 3, 1, []) :: (28, 41, 0, []) :: (29, 0, 1, []) :: (30, 11, 0, []) :: (31, 48, 112, [3]) :: (34, 61, 40, []) :: (37, 0, (-12), []) :: (39, 52, 0, []) :: k190_40 ∧ dropTo 40 (mcode 190) = k190_40 ∧ k190_40 = (40, 5, 0, []) :: (41, 39, 7, [39]) :: (44, 0, 40, []) :: (46, 3, 1, []) :: (47, 12, 0, []) :: (48, 3, 2, []) :: (49, 10, 0, []) :: (50, 5, 0, []) :: (51, 39, 7, [37]) :: (54, 3, 1, []) :: (55, 41, 0, []) :: (56, 61, 65, []) :: (59, 3, 3, []) :: (60, 30, 0, []) :: (61, 28, 0, []) :: (62, 36, 83, []) :: k190_65 ∧ dropTo 65 (mcode 190) = k190_65 ∧ k190_65 = (65, 5, 0, []) :: (66, 39, 7, [37]) :: (69, 3, 1, []) :: (70, 41, 0, []) :: (71, 0, 1, []) :: (72, 71, 81, []) :: (75, 3, 3, []) :: (76, 31, 0, []) :: (77, 28, 0, []) :: (78, 36, 83, []) :: k190_81 ∧ dropTo 81 (mcode 190) = k190_81 ∧ k190_81 = (81, 3, 3, []) :: (82, 28, 0, []) :: k190_83 ∧ dropTo 83 (mcode 190) = k190_83 ∧ k190_83 = (83, 46, 0, []) :: (84, 0, 1, []) :: (85, 52, 0, []) :: [] := ⟨q190_0, rfl, q190_9, rfl, q190_21, rfl, q190_40, rfl, q190_65, rfl, q190_81, rfl, q190_83, rfl⟩
theorem c191 : dropTo 0 (mcode 191) = k191_0 ∧ k191_0 = (0, 5, 0, []) :: (1, 39, 7, [37]) :: (4, 3, 1, []) :: (5, 41, 0, []) :: (6, 63, 14, []) :: (9, 0, (-11), []) :: (11, 36, 30, []) :: k191_14 ∧ dropTo 14 (mcode 191) = k191_14 ∧ k191_14 = (14, 5, 0, []) :: (15, 39, 7, [37]) :: (18, 3, 1, []) :: (19, 41, 0, []) :: (20, 3, 2, []) :: (21, 70, 29, []) :: (24, 0, (-13), []) :: (26, 36, 30, []) :: k191_29 ∧ dropTo 29 (mcode 191) = k191_29 ∧ k191_29 = (29, 0, 0, []) :: k191_30 ∧ dropTo 30 (mcode 191) = k191_30 ∧ k191_30 = (30, 52, 0, []) :: [] := ⟨q191_0, rfl, q191_14, rfl, q191_29, rfl, q191_30, rfl⟩
theorem c192 : dropTo 0 (mcode 192) = k192_0 ∧ k192_0 = (0, 3, 1, []) :: (1, 48, 188, [1]) :: (4, 60, 16, []) :: (7, 3, 2, []) :: (8, 0, 0, []) :: (9, 0, 3, []) :: (10, 48, 112, [3]) :: (13, 61, 18, []) :: k192_16 ∧ dropTo 16 (mcode 192) = k192_16 ∧ k192_16 = (16, 0, (-1), []) :: (17, 52, 0, []) :: k192_18 ∧ dropTo 18 (mcode 192) = k192_18 ∧ k192_18 = (18, 5, 0, []) :: (19, 3, 1, []) :: (20, 3, 2, []) :: (21, 49, 191, [2, 7]) :: (24, 6, 4, []) :: (26, 3, 4, []) :: (28, 60, 34, []) :: (31, 3, 4, []) :: (33, 52, 0, []) :: k192_34 ∧ dropTo 34 (mcode 192) = k192_34 ∧ k192_34 = (34, 3, 3, []) :: (35, 0, 0, []) :: (36, 5, 0, []) :: (37, 39, 7, [38]) :: (40, 3, 1, []) :: (41, 41, 0, []) :: (42, 0, 1, []) :: (43, 11, 0, []) :: (44, 48, 112, [3]) :: (47, 60, 65, []) :: (50, 5, 0, []) :: (51, 39, 7, [39]) :: (54, 0, 40, []) :: (56, 3, 1, []) :: (57, 12, 0, []) :: (58, 3, 3, []) :: (59, 10, 0, []) :: (60, 45, 0, []) :: (61, 29, 0, []) :: (62, 36, 67, []) :: k192_65 ∧ dropTo 65 (mcode 192) = k192_65 ∧ k192_65 = (65, 0, (-12), []) :: k192_67 ∧ dropTo 67 (mcode 192) = k192_67 ∧ k192_67 = (67, 52, 0, []) :: [] := ⟨q192_0, rfl, q192_16, rfl, q192_18, rfl, q192_34, rfl, q192_65, rfl, q192_67, rfl⟩
theorem c193 : dropTo 0 (mcode 193) = k193_0 ∧ k193_0 = (0, 3, 1, []) :: (1, 61, 12, []) :: (4, 5, 0, []) :: (5, 3, 2, []) :: (6, 49, 113, [1, 7]) :: (9, 36, 34, []) :: k193_12 ∧ dropTo 12 (mcode 193) = k193_12 ∧ k193_12 = (12, 3, 1, []) :: (13, 0, 1, []) :: (14, 71, 24, []) :: (17, 3, 2, []) :: (18, 48, 188, [1]) :: (21, 36, 34, []) :: k193_24 ∧ dropTo 24 (mcode 193) = k193_24 ∧ k193_24 = (24, 3, 1, []) :: (25, 0, 2, []) :: (26, 71, 33, []) :: (29, 0, 1, []) :: (30, 36, 34, []) :: k193_33 ∧ dropTo 33 (mcode 193) = k193_33 ∧ k193_33 = (33, 0, 0, []) :: k193_34 ∧ dropTo 34 (mcode 193) = k193_34 ∧ k193_34 = (34, 53, 0, []) :: [] := ⟨q193_0, rfl, q193_12, rfl, q193_24, rfl, q193_33, rfl, q193_34, rfl⟩
theorem c194 : dropTo 0 (mcode 194) = k194_0 ∧ k194_0 = (0, 3, 1, []) :: (1, 48, 188, [1]) :: (4, 60, 16, []) :: (7, 5, 0, []) :: (8, 3, 2, []) :: (9, 3, 3, []) :: (10, 49, 193, [2, 7]) :: (13, 61, 18, []) :: k194_16 ∧ dropTo 16 (mcode 194) = k194_16 ∧ k194_16 = (16, 0, (-1), []) :: (17, 52, 0, []) :: k194_18 ∧ dropTo 18 (mcode 194) = k194_18 ∧ k194_18 = (18, 5, 0, []) :: (19, 39, 7, [40]) :: (22, 3, 1, []) :: (23, 3, 2, []) :: (24, 0, 2, []) :: (25, 70, 42, []) :: (28, 3, 2, []) :: (29, 0, 1, []) :: (30, 71, 46, []) :: (33, 5, 0, []) :: (34, 39, 7, [37]) :: (37, 3, 3, []) :: (38, 41, 0, []) :: (39, 63, 46, []) :: k194_42 ∧ dropTo 42 (mcode 194) = k194_42 ∧ k194_42 = (42, 0, (-1), []) :: (43, 36, 47, []) :: k194_46 ∧ dropTo 46 (mcode 194) = k194_46 ∧ k194_46 = (46, 3, 2, []) :: k194_47 ∧ dropTo 47 (mcode 194) = k194_47 ∧ k194_47 = (47, 42, 0, []) :: (48, 5, 0, []) :: (49, 39, 7, [41]) :: (52, 3, 1, []) :: (53, 3, 2, []) :: (54, 0, 1, []) :: (55, 71, 67, []) :: (58, 5, 0, []) :: (59, 39, 7, [37]) :: (62, 3, 3, []) :: (63, 41, 0, []) :: (64, 36, 68, []) :: k194_67 ∧ dropTo 67 (mcode 194) = k194_67 ∧ k194_67 = (67, 3, 3, []) :: k194_68 ∧ dropTo 68 (mcode 194) = k194_68 ∧ k194_68 = (68, 42, 0, []) :: (69, 5, 0, []) :: (70, 39, 7, [42]) :: (73, 3, 1, []) :: (74, 3, 2, []) :: (75, 0, 1, []) :: (76, 71, 88, []) :: (79, 5, 0, []) :: (80, 39, 7, [38]) :: (83, 3, 3, []) :: (84, 41, 0, []) :: (85, 36, 89, []) :: k194_88 ∧ dropTo 88 (mcode 194) = k194_88 ∧ k194_88 = (88, 0, 0, []) :: k194_89 ∧ dropTo 89 (mcode 194) = k194_89 ∧ k194_89 = (89, 42, 0, []) :: (90, 0, 1, []) :: (91, 52, 0, []) :: [] := ⟨q194_0, rfl, q194_16, rfl, q194_18, rfl, q194_42, rfl, q194_46, rfl, q194_47, rfl, q194_67, rfl, q194_68, rfl, q194_88, rfl, q194_89, rfl⟩
theorem c195 : dropTo 0 (mcode 195) = k195_0 ∧ k195_0 = (0, 5, 0, []) :: (1, 39, 7, [40]) :: (4, 3, 1, []) :: (5, 41, 0, []) :: (6, 60, 25, []) :: (9, 5, 0, []) :: (10, 39, 7, [40]) :: (13, 3, 1, []) :: (14, 41, 0, []) :: (15, 63, 22, []) :: (18, 0, (-1), []) :: (19, 36, 24, []) :: k195_22 ∧ dropTo 22 (mcode 195) = k195_22 ∧ k195_22 = (22, 0, 9, []) :: k195_24 ∧ dropTo 24 (mcode 195) = k195_24 ∧ k195_24 = (24, 52, 0, []) :: k195_25 ∧ dropTo 25 (mcode 195) = k195_25 ∧ k195_25 = (25, 5, 0, []) :: (26, 5, 0, []) :: (27, 39, 7, [41]) :: (30, 3, 1, []) :: (31, 41, 0, []) :: (32, 49, 113, [1, 7]) :: (35, 60, 52, []) :: (38, 5, 0, []) :: (39, 39, 7, [6]) :: (42, 5, 0, []) :: (43, 39, 7, [41]) :: (46, 3, 1, []) :: (47, 41, 0, []) :: (48, 41, 0, []) :: (49, 36, 53, []) :: k195_52 ∧ dropTo 52 (mcode 195) = k195_52 ∧ k195_52 = (52, 0, (-1), []) :: k195_53 ∧ dropTo 53 (mcode 195) = k195_53 ∧ k195_53 = (53, 52, 0, []) :: [] := ⟨q195_0, rfl, q195_22, rfl, q195_24, rfl, q195_25, rfl, q195_52, rfl, q195_53, rfl⟩
theorem c196 : dropTo 0 (mcode 196) = k196_0 ∧ k196_0 = (0, 3, 1, []) :: (1, 60, 29, []) :: (4, 3, 1, []) :: (5, 3, 0, []) :: (6, 70, 29, []) :: (9, 3, 1, []) :: (10, 0, 1, []) :: (11, 71, 19, []) :: (14, 3, 0, []) :: (15, 0, 4, []) :: (16, 70, 29, []) :: k196_19 ∧ dropTo 19 (mcode 196) = k196_19 ∧ k196_19 = (19, 3, 1, []) :: (20, 0, 2, []) :: (21, 71, 33, []) :: (24, 3, 0, []) :: (25, 0, 3, []) :: (26, 71, 33, []) :: k196_29 ∧ dropTo 29 (mcode 196) = k196_29 ∧ k196_29 = (29, 0, 1, []) :: (30, 36, 34, []) :: k196_33 ∧ dropTo 33 (mcode 196) = k196_33 ∧ k196_33 = (33, 0, 0, []) :: k196_34 ∧ dropTo 34 (mcode 196) = k196_34 ∧ k196_34 = (34, 53, 0, []) :: [] := ⟨q196_0, rfl, q196_19, rfl, q196_29, rfl, q196_33, rfl, q196_34, rfl⟩
theorem c197 : dropTo 0 (mcode 197) = k197_0 ∧ k197_0 = (0, 3, 1, []) :: (1, 48, 188, [1]) :: (4, 60, 27, []) :: (7, 3, 2, []) :: (8, 0, 0, []) :: (9, 0, 5, []) :: (10, 48, 112, [3]) :: (13, 61, 29, []) :: (16, 3, 2, []) :: (17, 0, 10, []) :: (19, 0, 13, []) :: (21, 48, 112, [3]) :: (24, 61, 29, []) :: k197_27 ∧ dropTo 27 (mcode 197) = k197_27 ∧ k197_27 = (27, 0, (-1), []) :: (28, 52, 0, []) :: k197_29 ∧ dropTo 29 (mcode 197) = k197_29 ∧ k197_29 = (29, 5, 0, []) :: (30, 3, 1, []) :: (31, 49, 195, [1, 7]) :: (34, 6, 3, []) :: (35, 3, 3, []) :: (36, 63, 42, []) :: (39, 0, (-11), []) :: (41, 52, 0, []) :: k197_42 ∧ dropTo 42 (mcode 197) = k197_42 ∧ k197_42 = (42, 3, 3, []) :: (43, 0, 9, []) :: (45, 71, 73, []) :: (48, 3, 2, []) :: (49, 0, 10, []) :: (51, 5, 0, []) :: (52, 39, 7, [41]) :: (55, 3, 1, []) :: (56, 41, 0, []) :: (57, 10, 0, []) :: (58, 71, 70, []) :: (61, 5, 0, []) :: (62, 39, 7, [42]) :: (65, 3, 1, []) :: (66, 41, 0, []) :: (67, 36, 72, []) :: k197_70 ∧ dropTo 70 (mcode 197) = k197_70 ∧ k197_70 = (70, 0, (-13), []) :: k197_72 ∧ dropTo 72 (mcode 197) = k197_72 ∧ k197_72 = (72, 52, 0, []) :: k197_73 ∧ dropTo 73 (mcode 197) = k197_73 ∧ k197_73 = (73, 3, 2, []) :: (74, 0, 10, []) :: (76, 73, 96, []) :: (79, 3, 3, []) :: (80, 3, 2, []) :: (81, 48, 196, [2]) :: (84, 60, 96, []) :: (87, 5, 0, []) :: (88, 39, 7, [41]) :: (91, 3, 1, []) :: (92, 41, 0, []) :: (93, 36, 98, []) :: k197_96 ∧ dropTo 96 (mcode 197) = k197_96 ∧ k197_96 = (96, 0, (-13), []) :: k197_98 ∧ dropTo 98 (mcode 197) = k197_98 ∧ k197_98 = (98, 52, 0, []) :: [] := ⟨q197_0, rfl, q197_27, rfl, q197_29, rfl, q197_42, rfl, q197_70, rfl, q197_72, rfl, q197_73, rfl, q197_96, rfl, q197_98, rfl⟩
theorem c198 : dropTo 0 (mcode 198) = k198_0 ∧ k198_0 = (0, 5, 0, []) :: (1, 39, 7, [47]) :: (4, 0, 30, []) :: (6, 73, 29, []) :: (9, 5, 0, []) :: (10, 39, 7, [46]) :: (13, 5, 0, []) :: (14, 39, 7, [47]) :: (17, 3, 1, []) :: (18, 42, 0, []) :: (19, 5, 0, []) :: (20, 32, 0, []) :: (21, 39, 7, [47]) :: (24, 0, 1, []) :: (25, 10, 0, []) :: (26, 40, 7, [47]) :: k198_29 ∧ dropTo 29 (mcode 198) = k198_29 ∧ k198_29 = (29, 54, 0, []) :: [] := ⟨q198_0, rfl, q198_29, rfl⟩
theorem c199 : dropTo 0 (mcode 199) = k199_0 ∧ k199_0 = (0, 5, 0, []) :: (1, 0, 10, []) :: (3, 49, 198, [1, 7]) :: (6, 3, 1, []) :: (7, 5, 0, []) :: (8, 39, 7, [44]) :: (11, 10, 0, []) :: (12, 52, 0, []) :: [] := ⟨q199_0, rfl⟩
theorem c200 : dropTo 0 (mcode 200) = k200_0 ∧ k200_0 = (0, 5, 0, []) :: (1, 0, 30, []) :: (3, 49, 198, [1, 7]) :: (6, 5, 0, []) :: (7, 3, 1, []) :: (8, 49, 199, [1, 7]) :: (11, 0, 3, []) :: (12, 12, 0, []) :: (13, 52, 0, []) :: [] := ⟨q200_0, rfl⟩
theorem c201 : dropTo 0 (mcode 201) = k201_0 ∧ k201_0 = (0, 5, 0, []) :: (1, 39, 7, [43]) :: (4, 37, 69, [2, 32, 38, 52]) :: k201_32 ∧ dropTo 32 (mcode 201) = k201_32 ∧ k201_32 = (32, 5, 0, []) :: (33, 3, 1, []) :: (34, 49, 200, [1, 7]) :: (37, 52, 0, []) :: k201_38 ∧ dropTo 38 (mcode 201) = k201_38 ∧ k201_38 = (38, 5, 0, []) :: (39, 0, 40, []) :: (41, 49, 198, [1, 7]) :: (44, 0, 0, []) :: (45, 5, 0, []) :: (46, 3, 1, []) :: (47, 49, 200, [1, 7]) :: (50, 11, 0, []) :: (51, 52, 0, []) :: k201_52 ∧ dropTo 52 (mcode 201) = k201_52 ∧ k201_52 = (52, 5, 0, []) :: (53, 0, 51, []) :: (55, 49, 198, [1, 7]) :: (58, 5, 0, []) :: (59, 3, 1, []) :: (60, 49, 199, [1, 7]) :: (63, 5, 0, []) :: (64, 39, 7, [44]) :: (67, 11, 0, []) :: (68, 52, 0, []) :: k201_69 ∧ dropTo 69 (mcode 201) = k201_69 ∧ k201_69 = (69, 5, 0, []) :: (70, 3, 1, []) :: (71, 49, 199, [1, 7]) :: (74, 52, 0, []) :: [] := ⟨q201_0, rfl, q201_32, rfl, q201_38, rfl, q201_52, rfl, q201_69, rfl⟩
theorem c202 : dropTo 0 (mcode 202) = k202_0 ∧ k202_0 = (0, 5, 0, []) :: (1, 0, 11, []) :: (3, 49, 198, [1, 7]) :: (6, 5, 0, []) :: (7, 3, 1, []) :: (8, 49, 201, [1, 7]) :: (11, 0, 2, []) :: (12, 12, 0, []) :: (13, 52, 0, []) :: [] := ⟨q202_0, rfl⟩
theorem c203 : dropTo 0 (mcode 203) = k203_0 ∧ k203_0 = (0, 5, 0, []) :: (1, 39, 7, [43]) :: (4, 0, 1, []) :: (5, 70, 16, []) :: (8, 5, 0, []) :: (9, 39, 7, [43]) :: (12, 0, 4, []) :: (13, 71, 33, []) :: k203_16 ∧ dropTo 16 (mcode 203) = k203_16 ∧ k203_16 = (16, 5, 0, []) :: (17, 0, 20, []) :: (19, 49, 198, [1, 7]) :: (22, 5, 0, []) :: (23, 3, 1, []) :: (24, 49, 202, [1, 7]) :: (27, 5, 0, []) :: (28, 39, 7, [45]) :: (31, 11, 0, []) :: (32, 52, 0, []) :: k203_33 ∧ dropTo 33 (mcode 203) = k203_33 ∧ k203_33 = (33, 5, 0, []) :: (34, 39, 7, [43]) :: (37, 0, 3, []) :: (38, 71, 64, []) :: (41, 5, 0, []) :: (42, 0, 41, []) :: (44, 49, 198, [1, 7]) :: (47, 5, 0, []) :: (48, 3, 1, []) :: (49, 49, 202, [1, 7]) :: (52, 6, 2, []) :: (53, 3, 2, []) :: (54, 5, 0, []) :: (55, 5, 0, []) :: (56, 39, 7, [44]) :: (59, 49, 201, [1, 7]) :: (62, 10, 0, []) :: (63, 52, 0, []) :: k203_64 ∧ dropTo 64 (mcode 203) = k203_64 ∧ k203_64 = (64, 5, 0, []) :: (65, 3, 1, []) :: (66, 49, 202, [1, 7]) :: (69, 52, 0, []) :: [] := ⟨q203_0, rfl, q203_16, rfl, q203_33, rfl, q203_64, rfl⟩
theorem c204 : dropTo 0 (mcode 204) = k204_0 ∧ k204_0 = (0, 5, 0, []) :: (1, 0, 12, []) :: (3, 49, 198, [1, 7]) :: (6, 5, 0, []) :: (7, 39, 7, [45]) :: (10, 5, 0, []) :: (11, 39, 7, [44]) :: (14, 71, 24, []) :: (17, 5, 0, []) :: (18, 0, 1, []) :: (19, 40, 7, [48]) :: (22, 0, 0, []) :: (23, 52, 0, []) :: k204_24 ∧ dropTo 24 (mcode 204) = k204_24 ∧ k204_24 = (24, 3, 1, []) :: (25, 5, 0, []) :: (26, 39, 7, [45]) :: (29, 5, 0, []) :: (30, 39, 7, [44]) :: (33, 11, 0, []) :: (34, 13, 0, []) :: (35, 52, 0, []) :: [] := ⟨q204_0, rfl, q204_24, rfl⟩
theorem c205 : dropTo 0 (mcode 205) = k205_0 ∧ k205_0 = (0, 5, 0, []) :: (1, 39, 7, [43]) :: (4, 0, 4, []) :: (5, 71, 24, []) :: (8, 5, 0, []) :: (9, 0, 50, []) :: (11, 49, 198, [1, 7]) :: (14, 5, 0, []) :: (15, 3, 1, []) :: (16, 0, 2, []) :: (17, 10, 0, []) :: (18, 49, 204, [1, 7]) :: (21, 0, 1, []) :: (22, 17, 0, []) :: (23, 52, 0, []) :: k205_24 ∧ dropTo 24 (mcode 205) = k205_24 ∧ k205_24 = (24, 5, 0, []) :: (25, 39, 7, [43]) :: (28, 0, 5, []) :: (29, 71, 66, []) :: (32, 5, 0, []) :: (33, 0, 61, []) :: (35, 49, 198, [1, 7]) :: (38, 5, 0, []) :: (39, 3, 1, []) :: (40, 49, 204, [1, 7]) :: (43, 6, 2, []) :: (44, 5, 0, []) :: (45, 39, 7, [48]) :: (48, 60, 55, []) :: (51, 0, 0, []) :: (52, 36, 65, []) :: k205_55 ∧ dropTo 55 (mcode 205) = k205_55 ∧ k205_55 = (55, 3, 2, []) :: (56, 5, 0, []) :: (57, 5, 0, []) :: (58, 39, 7, [45]) :: (61, 49, 201, [1, 7]) :: (64, 10, 0, []) :: k205_65 ∧ dropTo 65 (mcode 205) = k205_65 ∧ k205_65 = (65, 52, 0, []) :: k205_66 ∧ dropTo 66 (mcode 205) = k205_66 ∧ k205_66 = (66, 5, 0, []) :: (67, 3, 1, []) :: (68, 49, 204, [1, 7]) :: (71, 52, 0, []) :: [] := ⟨q205_0, rfl, q205_24, rfl, q205_55, rfl, q205_65, rfl, q205_66, rfl⟩
theorem c206 : dropTo 0 (mcode 206) = k206_0 ∧ k206_0 = (0, 5, 0, []) :: (1, 0, 13, []) :: (3, 49, 198, [1, 7]) :: (6, 5, 0, []) :: (7, 3, 1, []) :: (8, 49, 203, [1, 7]) :: (11, 5, 0, []) :: (12, 39, 7, [45]) :: (15, 17, 0, []) :: (16, 52, 0, []) :: [] := ⟨q206_0, rfl⟩
theorem c207 : dropTo 0 (mcode 207) = k207_0 ∧ k207_0 = (0, 5, 0, []) :: (1, 39, 7, [43]) :: (4, 0, 2, []) :: (5, 70, 16, []) :: (8, 5, 0, []) :: (9, 39, 7, [43]) :: (12, 0, 3, []) :: (13, 71, 39, []) :: k207_16 ∧ dropTo 16 (mcode 207) = k207_16 ∧ k207_16 = (16, 5, 0, []) :: (17, 0, 31, []) :: (19, 49, 198, [1, 7]) :: (22, 5, 0, []) :: (23, 3, 1, []) :: (24, 49, 206, [1, 7]) :: (27, 6, 2, []) :: (28, 3, 2, []) :: (29, 5, 0, []) :: (30, 5, 0, []) :: (31, 39, 7, [44]) :: (34, 49, 205, [1, 7]) :: (37, 10, 0, []) :: (38, 52, 0, []) :: k207_39 ∧ dropTo 39 (mcode 207) = k207_39 ∧ k207_39 = (39, 5, 0, []) :: (40, 39, 7, [43]) :: (43, 0, 5, []) :: (44, 71, 61, []) :: (47, 5, 0, []) :: (48, 0, 60, []) :: (50, 49, 198, [1, 7]) :: (53, 5, 0, []) :: (54, 3, 1, []) :: (55, 49, 206, [1, 7]) :: (58, 0, 2, []) :: (59, 12, 0, []) :: (60, 52, 0, []) :: k207_61 ∧ dropTo 61 (mcode 207) = k207_61 ∧ k207_61 = (61, 5, 0, []) :: (62, 3, 1, []) :: (63, 49, 206, [1, 7]) :: (66, 52, 0, []) :: [] := ⟨q207_0, rfl, q207_16, rfl, q207_39, rfl, q207_61, rfl⟩
theorem c208 : dropTo 0 (mcode 208) = k208_0 ∧ k208_0 = (0, 5, 0, []) :: (1, 0, 0, []) :: (2, 40, 7, [47]) :: (5, 3, 1, []) :: (6, 48, 188, [1]) :: (9, 60, 20, []) :: (12, 5, 0, []) :: (13, 3, 1, []) :: (14, 49, 195, [1, 7]) :: (17, 36, 21, []) :: k208_20 ∧ dropTo 20 (mcode 208) = k208_20 ∧ k208_20 = (20, 0, (-1), []) :: k208_21 ∧ dropTo 21 (mcode 208) = k208_21 ∧ k208_21 = (21, 6, 4, []) :: (23, 3, 2, []) :: (24, 0, 0, []) :: (25, 0, 3, []) :: (26, 48, 112, [3]) :: (29, 60, 42, []) :: (32, 3, 4, []) :: (34, 0, 0, []) :: (35, 0, 5, []) :: (36, 48, 112, [3]) :: (39, 61, 44, []) :: k208_42 ∧ dropTo 42 (mcode 208) = k208_42 ∧ k208_42 = (42, 0, 0, []) :: (43, 52, 0, []) :: k208_44 ∧ dropTo 44 (mcode 208) = k208_44 ∧ k208_44 = (44, 5, 0, []) :: (45, 3, 4, []) :: (47, 40, 7, [43]) :: (50, 5, 0, []) :: (51, 5, 0, []) :: (52, 39, 7, [41]) :: (55, 3, 1, []) :: (56, 41, 0, []) :: (57, 40, 7, [44]) :: (60, 5, 0, []) :: (61, 5, 0, []) :: (62, 39, 7, [7]) :: (65, 5, 0, []) :: (66, 39, 7, [44]) :: (69, 41, 0, []) :: (70, 40, 7, [45]) :: (73, 5, 0, []) :: (74, 0, 0, []) :: (75, 40, 7, [48]) :: (78, 3, 2, []) :: (79, 61, 90, []) :: (82, 5, 0, []) :: (83, 3, 3, []) :: (84, 49, 201, [1, 7]) :: (87, 36, 121, []) :: k208_90 ∧ dropTo 90 (mcode 208) = k208_90 ∧ k208_90 = (90, 3, 2, []) :: (91, 0, 1, []) :: (92, 71, 103, []) :: (95, 5, 0, []) :: (96, 3, 3, []) :: (97, 49, 203, [1, 7]) :: (100, 36, 121, []) :: k208_103 ∧ dropTo 103 (mcode 208) = k208_103 ∧ k208_103 = (103, 3, 2, []) :: (104, 0, 2, []) :: (105, 71, 116, []) :: (108, 5, 0, []) :: (109, 3, 3, []) :: (110, 49, 205, [1, 7]) :: (113, 36, 121, []) :: k208_116 ∧ dropTo 116 (mcode 208) = k208_116 ∧ k208_116 = (116, 5, 0, []) :: (117, 3, 3, []) :: (118, 49, 207, [1, 7]) :: k208_121 ∧ dropTo 121 (mcode 208) = k208_121 ∧ k208_121 = (121, 6, 5, []) :: (123, 5, 0, []) :: (124, 39, 7, [48]) :: (127, 60, 135, []) :: (130, 0, (-15), []) :: (132, 36, 137, []) :: k208_135 ∧ dropTo 135 (mcode 208) = k208_135 ∧ k208_135 = (135, 3, 5, []) :: k208_137 ∧ dropTo 137 (mcode 208) = k208_137 ∧ k208_137 = (137, 52, 0, []) :: [] := ⟨q208_0, rfl, q208_20, rfl, q208_21, rfl, q208_42, rfl, q208_44, rfl, q208_90, rfl, q208_103, rfl, q208_116, rfl, q208_121, rfl, q208_135, rfl, q208_137, rfl⟩
theorem c209 : dropTo 0 (mcode 209) = k209_0 ∧ k209_0 = (0, 3, 1, []) :: (1, 0, 0, []) :: (2, 5, 0, []) :: (3, 39, 7, [47]) :: (6, 0, 1, []) :: (7, 11, 0, []) :: (8, 48, 112, [3]) :: (11, 60, 23, []) :: (14, 5, 0, []) :: (15, 39, 7, [46]) :: (18, 3, 1, []) :: (19, 41, 0, []) :: (20, 36, 25, []) :: k209_23 ∧ dropTo 23 (mcode 209) = k209_23 ∧ k209_23 = (23, 0, (-3), []) :: k209_25 ∧ dropTo 25 (mcode 209) = k209_25 ∧ k209_25 = (25, 52, 0, []) :: [] := ⟨q209_0, rfl, q209_23, rfl, q209_25, rfl⟩
theorem c210 : dropTo 0 (mcode 210) = k210_0 ∧ k210_0 = (0, 0, 0, []) :: (1, 6, 2, []) :: (2, 3, 1, []) :: (3, 37, 103, [0, 40, 45, 50, 88, 93, 98]) :: k210_40 ∧ dropTo 40 (mcode 210) = k210_40 ∧ k210_40 = (40, 5, 0, []) :: (41, 39, 7, [5]) :: (44, 52, 0, []) :: k210_45 ∧ dropTo 45 (mcode 210) = k210_45 ∧ k210_45 = (45, 5, 0, []) :: (46, 39, 7, [1]) :: (49, 52, 0, []) :: k210_50 ∧ dropTo 50 (mcode 210) = k210_50 ∧ k210_50 = (50, 0, 0, []) :: (51, 6, 3, []) :: k210_52 ∧ dropTo 52 (mcode 210) = k210_52 ∧ k210_52 = (52, 3, 3, []) :: (53, 5, 0, []) :: (54, 39, 7, [5]) :: (57, 73, 86, []) :: (60, 3, 2, []) :: (61, 5, 0, []) :: (62, 39, 7, [8]) :: (65, 0, 33, []) :: (67, 3, 3, []) :: (68, 10, 0, []) :: (69, 41, 0, []) :: (70, 63, 77, []) :: (73, 0, 0, []) :: (74, 36, 78, []) :: k210_77 ∧ dropTo 77 (mcode 210) = k210_77 ∧ k210_77 = (77, 0, 1, []) :: k210_78 ∧ dropTo 78 (mcode 210) = k210_78 ∧ k210_78 = (78, 10, 0, []) :: (79, 6, 2, []) :: (80, 9, 3, [1]) :: (83, 36, 52, []) :: k210_86 ∧ dropTo 86 (mcode 210) = k210_86 ∧ k210_86 = (86, 3, 2, []) :: (87, 52, 0, []) :: k210_88 ∧ dropTo 88 (mcode 210) = k210_88 ∧ k210_88 = (88, 5, 0, []) :: (89, 39, 7, [35]) :: (92, 52, 0, []) :: k210_93 ∧ dropTo 93 (mcode 210) = k210_93 ∧ k210_93 = (93, 5, 0, []) :: (94, 39, 7, [12]) :: (97, 52, 0, []) :: k210_98 ∧ dropTo 98 (mcode 210) = k210_98 ∧ k210_98 = (98, 5, 0, []) :: (99, 39, 7, [47]) :: (102, 52, 0, []) :: k210_103 ∧ dropTo 103 (mcode 210) = k210_103 ∧ k210_103 = (103, 0, (-1), []) :: (104, 52, 0, []) :: [] := ⟨q210_0, rfl, q210_40, rfl, q210_45, rfl, q210_50, rfl, q210_52, rfl, q210_77, rfl, q210_78, rfl, q210_86, rfl, q210_88, rfl, q210_93, rfl, q210_98, rfl, q210_103, rfl⟩
theorem c211 : dropTo 0 (mcode 211) = k211_0 ∧ k211_0 = (0, 0, 0, []) :: (1, 6, 4, []) :: k211_3 ∧ dropTo 3 (mcode 211) = k211_3 ∧ k211_3 = (3, 3, 4, []) :: (5, 3, 2, []) :: (6, 73, 58, []) :: (9, 3, 3, []) :: (10, 60, 29, []) :: (13, 5, 0, []) :: (14, 39, 7, [50]) :: (17, 5, 0, []) :: (18, 39, 7, [51]) :: (21, 5, 1, []) :: (22, 3, 4, []) :: (24, 41, 0, []) :: (25, 42, 0, []) :: (26, 36, 42, []) :: k211_29 ∧ dropTo 29 (mcode 211) = k211_29 ∧ k211_29 = (29, 5, 1, []) :: (30, 3, 4, []) :: (32, 5, 0, []) :: (33, 39, 7, [50]) :: (36, 5, 0, []) :: (37, 39, 7, [51]) :: (40, 41, 0, []) :: (41, 42, 0, []) :: k211_42 ∧ dropTo 42 (mcode 211) = k211_42 ∧ k211_42 = (42, 5, 0, []) :: (43, 32, 0, []) :: (44, 39, 7, [51]) :: (47, 0, 1, []) :: (48, 10, 0, []) :: (49, 40, 7, [51]) :: (52, 9, 4, [1]) :: (55, 36, 3, []) :: k211_58 ∧ dropTo 58 (mcode 211) = k211_58 ∧ k211_58 = (58, 54, 0, []) :: [] := ⟨q211_0, rfl, q211_3, rfl, q211_29, rfl, q211_42, rfl, q211_58, rfl⟩
theorem c212 : dropTo 0 (mcode 212) = k212_0 ∧ k212_0 = (0, 5, 0, []) :: (1, 0, 0, []) :: (2, 40, 7, [51]) :: (5, 5, 0, []) :: (6, 39, 7, [52]) :: (9, 0, 0, []) :: (10, 5, 0, []) :: (11, 39, 7, [5]) :: (14, 42, 0, []) :: (15, 5, 0, []) :: (16, 39, 7, [52]) :: (19, 0, 1, []) :: (20, 5, 0, []) :: (21, 39, 7, [1]) :: (24, 42, 0, []) :: (25, 5, 0, []) :: (26, 39, 7, [52]) :: (29, 0, 2, []) :: (30, 5, 0, []) :: (31, 39, 7, [0]) :: (34, 42, 0, []) :: (35, 5, 0, []) :: (36, 39, 7, [52]) :: (39, 0, 3, []) :: (40, 5, 0, []) :: (41, 39, 7, [10]) :: (44, 42, 0, []) :: (45, 5, 0, []) :: (46, 5, 0, []) :: (47, 39, 7, [52]) :: (50, 0, 4, []) :: (51, 3, 1, []) :: (52, 49, 211, [3, 7]) :: (55, 5, 0, []) :: (56, 5, 0, []) :: (57, 39, 7, [2]) :: (60, 0, 4, []) :: (61, 3, 1, []) :: (62, 49, 211, [3, 7]) :: (65, 5, 0, []) :: (66, 5, 0, []) :: (67, 39, 7, [3]) :: (70, 0, 4, []) :: (71, 3, 1, []) :: (72, 49, 211, [3, 7]) :: (75, 5, 0, []) :: (76, 5, 0, []) :: (77, 39, 7, [4]) :: (80, 0, 4, []) :: (81, 3, 1, []) :: (82, 49, 211, [3, 7]) :: (85, 5, 0, []) :: (86, 5, 0, []) :: (87, 39, 7, [6]) :: (90, 0, 8, []) :: (92, 3, 1, []) :: (93, 49, 211, [3, 7]) :: (96, 5, 0, []) :: (97, 5, 0, []) :: (98, 39, 7, [7]) :: (101, 0, 8, []) :: (103, 3, 1, []) :: (104, 49, 211, [3, 7]) :: (107, 5, 0, []) :: (108, 5, 0, []) :: (109, 39, 7, [8]) :: (112, 0, 41, []) :: (114, 3, 1, []) :: (115, 49, 211, [3, 7]) :: (118, 54, 0, []) :: [] := ⟨q212_0, rfl⟩
theorem c213 : dropTo 0 (mcode 213) = k213_0 ∧ k213_0 = (0, 5, 0, []) :: (1, 0, 1, []) :: (2, 49, 212, [1, 7]) :: (5, 5, 0, []) :: (6, 0, 1, []) :: (7, 40, 7, [49]) :: (10, 0, 1, []) :: (11, 52, 0, []) :: [] := ⟨q213_0, rfl⟩
theorem c214 : dropTo 0 (mcode 214) = k214_0 ∧ k214_0 = (0, 5, 0, []) :: (1, 39, 7, [49]) :: (4, 61, 10, []) :: (7, 0, (-3), []) :: (9, 52, 0, []) :: k214_10 ∧ dropTo 10 (mcode 214) = k214_10 ∧ k214_10 = (10, 5, 0, []) :: (11, 0, 0, []) :: (12, 49, 212, [1, 7]) :: (15, 5, 0, []) :: (16, 5, 0, []) :: (17, 39, 7, [52]) :: (20, 0, 0, []) :: (21, 41, 0, []) :: (22, 40, 7, [5]) :: (25, 5, 0, []) :: (26, 5, 0, []) :: (27, 39, 7, [52]) :: (30, 0, 1, []) :: (31, 41, 0, []) :: (32, 40, 7, [1]) :: (35, 5, 0, []) :: (36, 5, 0, []) :: (37, 39, 7, [52]) :: (40, 0, 2, []) :: (41, 41, 0, []) :: (42, 40, 7, [0]) :: (45, 5, 0, []) :: (46, 5, 0, []) :: (47, 39, 7, [52]) :: (50, 0, 3, []) :: (51, 41, 0, []) :: (52, 40, 7, [10]) :: (55, 5, 0, []) :: (56, 39, 7, [8]) :: (59, 0, 0, []) :: (60, 41, 0, []) :: (61, 52, 0, []) :: [] := ⟨q214_0, rfl, q214_10, rfl⟩
theorem c215 : dropTo 0 (mcode 215) = k215_0 ∧ k215_0 = (0, 3, 0, []) :: (1, 3, 0, []) :: (2, 0, 1, []) :: (3, 20, 0, []) :: (4, 0, 1431655765, []) :: (7, 15, 0, []) :: (8, 11, 0, []) :: (9, 6, 0, []) :: (10, 3, 0, []) :: (11, 0, 858993459, []) :: (14, 15, 0, []) :: (15, 3, 0, []) :: (16, 0, 2, []) :: (17, 20, 0, []) :: (18, 0, 858993459, []) :: (21, 15, 0, []) :: (22, 10, 0, []) :: (23, 6, 0, []) :: (24, 3, 0, []) :: (25, 3, 0, []) :: (26, 0, 4, []) :: (27, 20, 0, []) :: (28, 10, 0, []) :: (29, 0, 252645135, []) :: (32, 15, 0, []) :: (33, 6, 0, []) :: (34, 3, 0, []) :: (35, 3, 0, []) :: (36, 0, 8, []) :: (38, 20, 0, []) :: (39, 10, 0, []) :: (40, 6, 0, []) :: (41, 3, 0, []) :: (42, 3, 0, []) :: (43, 0, 16, []) :: (45, 20, 0, []) :: (46, 10, 0, []) :: (47, 6, 0, []) :: (48, 3, 0, []) :: (49, 0, 63, []) :: (51, 15, 0, []) :: (52, 52, 0, []) :: [] := ⟨q215_0, rfl⟩
end
section
section L2A
variable {G : GD} {l : Launch} {d : Nat} {h : AH}
def takesF (k a : Int) : Int := if k = 4 then (if a < 5 then 1 else 2) else if k = 5 then 0 else 1
def rankF (k a : Int) : Int := if k = 1 then 7 else if k = 2 then 4 else if k = 3 then 0 else if k = 4 then 6 else if k = 5 then w32 (5 + a) else 5
def stepsF (k a m : Int) : Int := if k = 2 ∨ k = 3 then (if a < m then 2 else 1) else if k = 5 then (if m32 (w32 (m + a)) 4 = 0 then 0 else 1) else 1
set_option maxHeartbeats 4000000 in
theorem s_within {v a b : Int} : CallR G l d 97 [vI v, vI a, vI b] h (fun r h' => r = some (vI (bi (a ≤ v ∧ v ≤ b))) ∧ h' = h) := by
  refine in97 [] 40 fun _ _ _ hO => ?_
  simp only [c97, rlA, KF_s, KF_0, elN_n, elN_c, cond_false, cond_true, Int.reduceToNat, lk_c, lk_n, sw_c, sw_n, List.getD_cons_zero, List.getD_cons_succ, fv_0, fv_1, fv_2, fv_r, pf_0, pf_2, Option.toList_some, Option.toList_none, List.cons_append, List.nil_append, stK_n, stK_i, stK_r, true_and, and_true, true_or, or_true, List.length_nil, List.length_cons, Nat.zero_add, Nat.reduceAdd, Nat.reduceLeDiff, bi_0, bi_1, bi_01, cmp64_0, cmp64_lt, cmp64_gt, hu_ap, Decidable.not_not, Int.reduceAdd, Int.reduceNeg, Int.toNat_natCast, Int.toNat_zero, Int.toNat_one, List.append_nil, reduceCtorEq, Nat.reduceEqDiff, Nat.reduceBEq, Bool.or_false, Bool.false_or, Bool.true_or, some_vI, Int.le_refl, Nat.le_refl, false_or, or_false, Int.reduceLE, Int.reduceLT, Int.reduceEq, Int.zero_le_ofNat, and_self, if_true, if_false, false_and, and_false, not_true_eq_false, not_false_eq_true, false_implies, forall_const, shA]
  repeat' first | intro _ | with_reducible apply And.intro
  all_goals first | trivial | rfl | omega | ((repeat' split) <;> first | rfl | trivial | omega | (exfalso; omega)) | (simp only [bi]; (repeat' split) <;> omega)
set_option maxHeartbeats 4000000 in
theorem s_isFloor {v : Int} (hd : 1 ≤ d) : CallR G l d 98 [vI v] h (fun r h' => r = some (vI (bi (0 ≤ v ∧ v ≤ 9))) ∧ h' = h) := by
  refine in98 [] 40 fun _ hO => ?_
  simp only [c98, rlA, KF_s, KF_0, elN_n, elN_c, cond_false, cond_true, Int.reduceToNat, lk_c, lk_n, sw_c, sw_n, List.getD_cons_zero, List.getD_cons_succ, fv_0, fv_1, fv_2, fv_r, pf_0, pf_2, Option.toList_some, Option.toList_none, List.cons_append, List.nil_append, stK_n, stK_i, stK_r, true_and, and_true, true_or, or_true, List.length_nil, List.length_cons, Nat.zero_add, Nat.reduceAdd, Nat.reduceLeDiff, bi_0, bi_1, bi_01, cmp64_0, cmp64_lt, cmp64_gt, hu_ap, Decidable.not_not, Int.reduceAdd, Int.reduceNeg, Int.toNat_natCast, Int.toNat_zero, Int.toNat_one, List.append_nil, reduceCtorEq, Nat.reduceEqDiff, Nat.reduceBEq, Bool.or_false, Bool.false_or, Bool.true_or, some_vI, Int.le_refl, Nat.le_refl, false_or, or_false, Int.reduceLE, Int.reduceLT, Int.reduceEq, Int.zero_le_ofNat, and_self, if_true, if_false, false_and, and_false, not_true_eq_false, not_false_eq_true, false_implies, forall_const, shA]
  repeat' first | intro _ | (refine call_of (d' := d - 1) (by omega) (s_within) ?_) | simp only [c98, rlA, KF_s, KF_0, elN_n, elN_c, cond_false, cond_true, Int.reduceToNat, lk_c, lk_n, sw_c, sw_n, List.getD_cons_zero, List.getD_cons_succ, fv_0, fv_1, fv_2, fv_r, pf_0, pf_2, Option.toList_some, Option.toList_none, List.cons_append, List.nil_append, stK_n, stK_i, stK_r, true_and, and_true, true_or, or_true, List.length_nil, List.length_cons, Nat.zero_add, Nat.reduceAdd, Nat.reduceLeDiff, bi_0, bi_1, bi_01, cmp64_0, cmp64_lt, cmp64_gt, hu_ap, Decidable.not_not, Int.reduceAdd, Int.reduceNeg, Int.toNat_natCast, Int.toNat_zero, Int.toNat_one, List.append_nil, reduceCtorEq, Nat.reduceEqDiff, Nat.reduceBEq, Bool.or_false, Bool.false_or, Bool.true_or, some_vI, Int.le_refl, Nat.le_refl, false_or, or_false, Int.reduceLE, Int.reduceLT, Int.reduceEq, Int.zero_le_ofNat, and_self, if_true, if_false, false_and, and_false, not_true_eq_false, not_false_eq_true, false_implies, forall_const, shA] | with_reducible apply And.intro
  all_goals first | trivial | rfl | omega | ((repeat' split) <;> first | rfl | trivial | omega | (exfalso; omega)) | (simp only [bi]; (repeat' split) <;> omega)
set_option maxHeartbeats 4000000 in
theorem s_isFlight {v : Int} (hd : 1 ≤ d) : CallR G l d 99 [vI v] h (fun r h' => r = some (vI (bi (0 ≤ v ∧ v ≤ 8))) ∧ h' = h) := by
  refine in99 [] 40 fun _ hO => ?_
  simp only [c99, rlA, KF_s, KF_0, elN_n, elN_c, cond_false, cond_true, Int.reduceToNat, lk_c, lk_n, sw_c, sw_n, List.getD_cons_zero, List.getD_cons_succ, fv_0, fv_1, fv_2, fv_r, pf_0, pf_2, Option.toList_some, Option.toList_none, List.cons_append, List.nil_append, stK_n, stK_i, stK_r, true_and, and_true, true_or, or_true, List.length_nil, List.length_cons, Nat.zero_add, Nat.reduceAdd, Nat.reduceLeDiff, bi_0, bi_1, bi_01, cmp64_0, cmp64_lt, cmp64_gt, hu_ap, Decidable.not_not, Int.reduceAdd, Int.reduceNeg, Int.toNat_natCast, Int.toNat_zero, Int.toNat_one, List.append_nil, reduceCtorEq, Nat.reduceEqDiff, Nat.reduceBEq, Bool.or_false, Bool.false_or, Bool.true_or, some_vI, Int.le_refl, Nat.le_refl, false_or, or_false, Int.reduceLE, Int.reduceLT, Int.reduceEq, Int.zero_le_ofNat, and_self, if_true, if_false, false_and, and_false, not_true_eq_false, not_false_eq_true, false_implies, forall_const, shA]
  repeat' first | intro _ | (refine call_of (d' := d - 1) (by omega) (s_within) ?_) | simp only [c99, rlA, KF_s, KF_0, elN_n, elN_c, cond_false, cond_true, Int.reduceToNat, lk_c, lk_n, sw_c, sw_n, List.getD_cons_zero, List.getD_cons_succ, fv_0, fv_1, fv_2, fv_r, pf_0, pf_2, Option.toList_some, Option.toList_none, List.cons_append, List.nil_append, stK_n, stK_i, stK_r, true_and, and_true, true_or, or_true, List.length_nil, List.length_cons, Nat.zero_add, Nat.reduceAdd, Nat.reduceLeDiff, bi_0, bi_1, bi_01, cmp64_0, cmp64_lt, cmp64_gt, hu_ap, Decidable.not_not, Int.reduceAdd, Int.reduceNeg, Int.toNat_natCast, Int.toNat_zero, Int.toNat_one, List.append_nil, reduceCtorEq, Nat.reduceEqDiff, Nat.reduceBEq, Bool.or_false, Bool.false_or, Bool.true_or, some_vI, Int.le_refl, Nat.le_refl, false_or, or_false, Int.reduceLE, Int.reduceLT, Int.reduceEq, Int.zero_le_ofNat, and_self, if_true, if_false, false_and, and_false, not_true_eq_false, not_false_eq_true, false_implies, forall_const, shA] | with_reducible apply And.intro
  all_goals first | trivial | rfl | omega | ((repeat' split) <;> first | rfl | trivial | omega | (exfalso; omega)) | (simp only [bi]; (repeat' split) <;> omega)
set_option maxHeartbeats 4000000 in
theorem s_isKind {v : Int} (hd : 1 ≤ d) : CallR G l d 100 [vI v] h (fun r h' => r = some (vI (bi (0 ≤ v ∧ v ≤ 5))) ∧ h' = h) := by
  refine in100 [] 40 fun _ hO => ?_
  simp only [c100, rlA, KF_s, KF_0, elN_n, elN_c, cond_false, cond_true, Int.reduceToNat, lk_c, lk_n, sw_c, sw_n, List.getD_cons_zero, List.getD_cons_succ, fv_0, fv_1, fv_2, fv_r, pf_0, pf_2, Option.toList_some, Option.toList_none, List.cons_append, List.nil_append, stK_n, stK_i, stK_r, true_and, and_true, true_or, or_true, List.length_nil, List.length_cons, Nat.zero_add, Nat.reduceAdd, Nat.reduceLeDiff, bi_0, bi_1, bi_01, cmp64_0, cmp64_lt, cmp64_gt, hu_ap, Decidable.not_not, Int.reduceAdd, Int.reduceNeg, Int.toNat_natCast, Int.toNat_zero, Int.toNat_one, List.append_nil, reduceCtorEq, Nat.reduceEqDiff, Nat.reduceBEq, Bool.or_false, Bool.false_or, Bool.true_or, some_vI, Int.le_refl, Nat.le_refl, false_or, or_false, Int.reduceLE, Int.reduceLT, Int.reduceEq, Int.zero_le_ofNat, and_self, if_true, if_false, false_and, and_false, not_true_eq_false, not_false_eq_true, false_implies, forall_const, shA]
  repeat' first | intro _ | (refine call_of (d' := d - 1) (by omega) (s_within) ?_) | simp only [c100, rlA, KF_s, KF_0, elN_n, elN_c, cond_false, cond_true, Int.reduceToNat, lk_c, lk_n, sw_c, sw_n, List.getD_cons_zero, List.getD_cons_succ, fv_0, fv_1, fv_2, fv_r, pf_0, pf_2, Option.toList_some, Option.toList_none, List.cons_append, List.nil_append, stK_n, stK_i, stK_r, true_and, and_true, true_or, or_true, List.length_nil, List.length_cons, Nat.zero_add, Nat.reduceAdd, Nat.reduceLeDiff, bi_0, bi_1, bi_01, cmp64_0, cmp64_lt, cmp64_gt, hu_ap, Decidable.not_not, Int.reduceAdd, Int.reduceNeg, Int.toNat_natCast, Int.toNat_zero, Int.toNat_one, List.append_nil, reduceCtorEq, Nat.reduceEqDiff, Nat.reduceBEq, Bool.or_false, Bool.false_or, Bool.true_or, some_vI, Int.le_refl, Nat.le_refl, false_or, or_false, Int.reduceLE, Int.reduceLT, Int.reduceEq, Int.zero_le_ofNat, and_self, if_true, if_false, false_and, and_false, not_true_eq_false, not_false_eq_true, false_implies, forall_const, shA] | with_reducible apply And.intro
  all_goals first | trivial | rfl | omega | ((repeat' split) <;> first | rfl | trivial | omega | (exfalso; omega)) | (simp only [bi]; (repeat' split) <;> omega)
set_option maxHeartbeats 4000000 in
theorem s_isSheet {v : Int} (hd : 1 ≤ d) : CallR G l d 101 [vI v] h (fun r h' => r = some (vI (bi (0 ≤ v ∧ v ≤ 3))) ∧ h' = h) := by
  refine in101 [] 40 fun _ hO => ?_
  simp only [c101, rlA, KF_s, KF_0, elN_n, elN_c, cond_false, cond_true, Int.reduceToNat, lk_c, lk_n, sw_c, sw_n, List.getD_cons_zero, List.getD_cons_succ, fv_0, fv_1, fv_2, fv_r, pf_0, pf_2, Option.toList_some, Option.toList_none, List.cons_append, List.nil_append, stK_n, stK_i, stK_r, true_and, and_true, true_or, or_true, List.length_nil, List.length_cons, Nat.zero_add, Nat.reduceAdd, Nat.reduceLeDiff, bi_0, bi_1, bi_01, cmp64_0, cmp64_lt, cmp64_gt, hu_ap, Decidable.not_not, Int.reduceAdd, Int.reduceNeg, Int.toNat_natCast, Int.toNat_zero, Int.toNat_one, List.append_nil, reduceCtorEq, Nat.reduceEqDiff, Nat.reduceBEq, Bool.or_false, Bool.false_or, Bool.true_or, some_vI, Int.le_refl, Nat.le_refl, false_or, or_false, Int.reduceLE, Int.reduceLT, Int.reduceEq, Int.zero_le_ofNat, and_self, if_true, if_false, false_and, and_false, not_true_eq_false, not_false_eq_true, false_implies, forall_const, shA]
  repeat' first | intro _ | (refine call_of (d' := d - 1) (by omega) (s_within) ?_) | simp only [c101, rlA, KF_s, KF_0, elN_n, elN_c, cond_false, cond_true, Int.reduceToNat, lk_c, lk_n, sw_c, sw_n, List.getD_cons_zero, List.getD_cons_succ, fv_0, fv_1, fv_2, fv_r, pf_0, pf_2, Option.toList_some, Option.toList_none, List.cons_append, List.nil_append, stK_n, stK_i, stK_r, true_and, and_true, true_or, or_true, List.length_nil, List.length_cons, Nat.zero_add, Nat.reduceAdd, Nat.reduceLeDiff, bi_0, bi_1, bi_01, cmp64_0, cmp64_lt, cmp64_gt, hu_ap, Decidable.not_not, Int.reduceAdd, Int.reduceNeg, Int.toNat_natCast, Int.toNat_zero, Int.toNat_one, List.append_nil, reduceCtorEq, Nat.reduceEqDiff, Nat.reduceBEq, Bool.or_false, Bool.false_or, Bool.true_or, some_vI, Int.le_refl, Nat.le_refl, false_or, or_false, Int.reduceLE, Int.reduceLT, Int.reduceEq, Int.zero_le_ofNat, and_self, if_true, if_false, false_and, and_false, not_true_eq_false, not_false_eq_true, false_implies, forall_const, shA] | with_reducible apply And.intro
  all_goals first | trivial | rfl | omega | ((repeat' split) <;> first | rfl | trivial | omega | (exfalso; omega)) | (simp only [bi]; (repeat' split) <;> omega)
set_option maxHeartbeats 4000000 in
theorem s_isShelf {v : Int} (hd : 1 ≤ d) : CallR G l d 102 [vI v] h (fun r h' => r = some (vI (bi (0 ≤ v ∧ v ≤ 3))) ∧ h' = h) := by
  refine in102 [] 40 fun _ hO => ?_
  simp only [c102, rlA, KF_s, KF_0, elN_n, elN_c, cond_false, cond_true, Int.reduceToNat, lk_c, lk_n, sw_c, sw_n, List.getD_cons_zero, List.getD_cons_succ, fv_0, fv_1, fv_2, fv_r, pf_0, pf_2, Option.toList_some, Option.toList_none, List.cons_append, List.nil_append, stK_n, stK_i, stK_r, true_and, and_true, true_or, or_true, List.length_nil, List.length_cons, Nat.zero_add, Nat.reduceAdd, Nat.reduceLeDiff, bi_0, bi_1, bi_01, cmp64_0, cmp64_lt, cmp64_gt, hu_ap, Decidable.not_not, Int.reduceAdd, Int.reduceNeg, Int.toNat_natCast, Int.toNat_zero, Int.toNat_one, List.append_nil, reduceCtorEq, Nat.reduceEqDiff, Nat.reduceBEq, Bool.or_false, Bool.false_or, Bool.true_or, some_vI, Int.le_refl, Nat.le_refl, false_or, or_false, Int.reduceLE, Int.reduceLT, Int.reduceEq, Int.zero_le_ofNat, and_self, if_true, if_false, false_and, and_false, not_true_eq_false, not_false_eq_true, false_implies, forall_const, shA]
  repeat' first | intro _ | (refine call_of (d' := d - 1) (by omega) (s_within) ?_) | simp only [c102, rlA, KF_s, KF_0, elN_n, elN_c, cond_false, cond_true, Int.reduceToNat, lk_c, lk_n, sw_c, sw_n, List.getD_cons_zero, List.getD_cons_succ, fv_0, fv_1, fv_2, fv_r, pf_0, pf_2, Option.toList_some, Option.toList_none, List.cons_append, List.nil_append, stK_n, stK_i, stK_r, true_and, and_true, true_or, or_true, List.length_nil, List.length_cons, Nat.zero_add, Nat.reduceAdd, Nat.reduceLeDiff, bi_0, bi_1, bi_01, cmp64_0, cmp64_lt, cmp64_gt, hu_ap, Decidable.not_not, Int.reduceAdd, Int.reduceNeg, Int.toNat_natCast, Int.toNat_zero, Int.toNat_one, List.append_nil, reduceCtorEq, Nat.reduceEqDiff, Nat.reduceBEq, Bool.or_false, Bool.false_or, Bool.true_or, some_vI, Int.le_refl, Nat.le_refl, false_or, or_false, Int.reduceLE, Int.reduceLT, Int.reduceEq, Int.zero_le_ofNat, and_self, if_true, if_false, false_and, and_false, not_true_eq_false, not_false_eq_true, false_implies, forall_const, shA] | with_reducible apply And.intro
  all_goals first | trivial | rfl | omega | ((repeat' split) <;> first | rfl | trivial | omega | (exfalso; omega)) | (simp only [bi]; (repeat' split) <;> omega)
set_option maxHeartbeats 4000000 in
theorem s_isSort {v : Int} (hd : 1 ≤ d) : CallR G l d 103 [vI v] h (fun r h' => r = some (vI (bi (0 ≤ v ∧ v ≤ 3))) ∧ h' = h) := by
  refine in103 [] 40 fun _ hO => ?_
  simp only [c103, rlA, KF_s, KF_0, elN_n, elN_c, cond_false, cond_true, Int.reduceToNat, lk_c, lk_n, sw_c, sw_n, List.getD_cons_zero, List.getD_cons_succ, fv_0, fv_1, fv_2, fv_r, pf_0, pf_2, Option.toList_some, Option.toList_none, List.cons_append, List.nil_append, stK_n, stK_i, stK_r, true_and, and_true, true_or, or_true, List.length_nil, List.length_cons, Nat.zero_add, Nat.reduceAdd, Nat.reduceLeDiff, bi_0, bi_1, bi_01, cmp64_0, cmp64_lt, cmp64_gt, hu_ap, Decidable.not_not, Int.reduceAdd, Int.reduceNeg, Int.toNat_natCast, Int.toNat_zero, Int.toNat_one, List.append_nil, reduceCtorEq, Nat.reduceEqDiff, Nat.reduceBEq, Bool.or_false, Bool.false_or, Bool.true_or, some_vI, Int.le_refl, Nat.le_refl, false_or, or_false, Int.reduceLE, Int.reduceLT, Int.reduceEq, Int.zero_le_ofNat, and_self, if_true, if_false, false_and, and_false, not_true_eq_false, not_false_eq_true, false_implies, forall_const, shA]
  repeat' first | intro _ | (refine call_of (d' := d - 1) (by omega) (s_within) ?_) | simp only [c103, rlA, KF_s, KF_0, elN_n, elN_c, cond_false, cond_true, Int.reduceToNat, lk_c, lk_n, sw_c, sw_n, List.getD_cons_zero, List.getD_cons_succ, fv_0, fv_1, fv_2, fv_r, pf_0, pf_2, Option.toList_some, Option.toList_none, List.cons_append, List.nil_append, stK_n, stK_i, stK_r, true_and, and_true, true_or, or_true, List.length_nil, List.length_cons, Nat.zero_add, Nat.reduceAdd, Nat.reduceLeDiff, bi_0, bi_1, bi_01, cmp64_0, cmp64_lt, cmp64_gt, hu_ap, Decidable.not_not, Int.reduceAdd, Int.reduceNeg, Int.toNat_natCast, Int.toNat_zero, Int.toNat_one, List.append_nil, reduceCtorEq, Nat.reduceEqDiff, Nat.reduceBEq, Bool.or_false, Bool.false_or, Bool.true_or, some_vI, Int.le_refl, Nat.le_refl, false_or, or_false, Int.reduceLE, Int.reduceLT, Int.reduceEq, Int.zero_le_ofNat, and_self, if_true, if_false, false_and, and_false, not_true_eq_false, not_false_eq_true, false_implies, forall_const, shA] | with_reducible apply And.intro
  all_goals first | trivial | rfl | omega | ((repeat' split) <;> first | rfl | trivial | omega | (exfalso; omega)) | (simp only [bi]; (repeat' split) <;> omega)
set_option maxHeartbeats 4000000 in
theorem s_has {t : Nat} {p : Int} (ht : isT t) (hc : 0 ≤ h t 0 ∧ h t 0 ≤ 8) (hd : 1 ≤ d) : CallR G l d 41 [vR t, vI p] h (fun r h' => r = some (vI (bi (0 ≤ p ∧ p ≤ h t 0 - 1))) ∧ h' = h) := by
  refine in41 [] 40 fun _ hO => ?_
  have e1 : w32 (h t 0 - 1) = h t 0 - 1 := w32_id (by omega) (by omega)
  simp only [c41, rlA, KF_s, KF_0, elN_n, elN_c, cond_false, cond_true, Int.reduceToNat, lk_c, lk_n, sw_c, sw_n, List.getD_cons_zero, List.getD_cons_succ, fv_0, fv_1, fv_2, fv_r, pf_0, pf_2, Option.toList_some, Option.toList_none, List.cons_append, List.nil_append, stK_n, stK_i, stK_r, true_and, and_true, true_or, or_true, List.length_nil, List.length_cons, Nat.zero_add, Nat.reduceAdd, Nat.reduceLeDiff, bi_0, bi_1, bi_01, cmp64_0, cmp64_lt, cmp64_gt, hu_ap, Decidable.not_not, Int.reduceAdd, Int.reduceNeg, Int.toNat_natCast, Int.toNat_zero, Int.toNat_one, List.append_nil, reduceCtorEq, Nat.reduceEqDiff, Nat.reduceBEq, Bool.or_false, Bool.false_or, Bool.true_or, some_vI, Int.le_refl, Nat.le_refl, false_or, or_false, Int.reduceLE, Int.reduceLT, Int.reduceEq, Int.zero_le_ofNat, and_self, if_true, if_false, false_and, and_false, not_true_eq_false, not_false_eq_true, false_implies, forall_const, shT ht, e1]
  repeat' first | intro _ | (refine call_of (d' := d - 1) (by omega) (s_within) ?_) | simp only [c41, rlA, KF_s, KF_0, elN_n, elN_c, cond_false, cond_true, Int.reduceToNat, lk_c, lk_n, sw_c, sw_n, List.getD_cons_zero, List.getD_cons_succ, fv_0, fv_1, fv_2, fv_r, pf_0, pf_2, Option.toList_some, Option.toList_none, List.cons_append, List.nil_append, stK_n, stK_i, stK_r, true_and, and_true, true_or, or_true, List.length_nil, List.length_cons, Nat.zero_add, Nat.reduceAdd, Nat.reduceLeDiff, bi_0, bi_1, bi_01, cmp64_0, cmp64_lt, cmp64_gt, hu_ap, Decidable.not_not, Int.reduceAdd, Int.reduceNeg, Int.toNat_natCast, Int.toNat_zero, Int.toNat_one, List.append_nil, reduceCtorEq, Nat.reduceEqDiff, Nat.reduceBEq, Bool.or_false, Bool.false_or, Bool.true_or, some_vI, Int.le_refl, Nat.le_refl, false_or, or_false, Int.reduceLE, Int.reduceLT, Int.reduceEq, Int.zero_le_ofNat, and_self, if_true, if_false, false_and, and_false, not_true_eq_false, not_false_eq_true, false_implies, forall_const, shT ht, e1] | with_reducible apply And.intro
  all_goals first | trivial | rfl | omega | ((repeat' split) <;> first | rfl | trivial | omega | (exfalso; omega)) | (simp only [bi]; (repeat' split) <;> omega)
set_option maxHeartbeats 4000000 in
theorem s_takes {k a : Int} : CallR G l d 9 [vI k, vI a] h (fun r h' => r = some (vI (takesF k a)) ∧ h' = h) := by
  refine in9 [] 40 fun _ _ hO => ?_
  simp only [c9, rlA, KF_s, KF_0, elN_n, elN_c, cond_false, cond_true, Int.reduceToNat, lk_c, lk_n, sw_c, sw_n, List.getD_cons_zero, List.getD_cons_succ, fv_0, fv_1, fv_2, fv_r, pf_0, pf_2, Option.toList_some, Option.toList_none, List.cons_append, List.nil_append, stK_n, stK_i, stK_r, true_and, and_true, true_or, or_true, List.length_nil, List.length_cons, Nat.zero_add, Nat.reduceAdd, Nat.reduceLeDiff, bi_0, bi_1, bi_01, cmp64_0, cmp64_lt, cmp64_gt, hu_ap, Decidable.not_not, Int.reduceAdd, Int.reduceNeg, Int.toNat_natCast, Int.toNat_zero, Int.toNat_one, List.append_nil, reduceCtorEq, Nat.reduceEqDiff, Nat.reduceBEq, Bool.or_false, Bool.false_or, Bool.true_or, some_vI, Int.le_refl, Nat.le_refl, false_or, or_false, Int.reduceLE, Int.reduceLT, Int.reduceEq, Int.zero_le_ofNat, and_self, if_true, if_false, false_and, and_false, not_true_eq_false, not_false_eq_true, false_implies, forall_const, shA]
  repeat' first | intro _ | with_reducible apply And.intro
  all_goals first | trivial | rfl | omega | (unfold takesF; (repeat' split) <;> first | rfl | trivial | omega | (exfalso; omega)) | (simp only [bi]; (repeat' split) <;> omega)
set_option maxHeartbeats 4000000 in
theorem s_rank {k a : Int} : CallR G l d 10 [vI k, vI a] h (fun r h' => r = some (vI (rankF k a)) ∧ h' = h) := by
  refine in10 [] 40 fun _ _ hO => ?_
  simp only [c10, rlA, KF_s, KF_0, elN_n, elN_c, cond_false, cond_true, Int.reduceToNat, lk_c, lk_n, sw_c, sw_n, List.getD_cons_zero, List.getD_cons_succ, fv_0, fv_1, fv_2, fv_r, pf_0, pf_2, Option.toList_some, Option.toList_none, List.cons_append, List.nil_append, stK_n, stK_i, stK_r, true_and, and_true, true_or, or_true, List.length_nil, List.length_cons, Nat.zero_add, Nat.reduceAdd, Nat.reduceLeDiff, bi_0, bi_1, bi_01, cmp64_0, cmp64_lt, cmp64_gt, hu_ap, Decidable.not_not, Int.reduceAdd, Int.reduceNeg, Int.toNat_natCast, Int.toNat_zero, Int.toNat_one, List.append_nil, reduceCtorEq, Nat.reduceEqDiff, Nat.reduceBEq, Bool.or_false, Bool.false_or, Bool.true_or, some_vI, Int.le_refl, Nat.le_refl, false_or, or_false, Int.reduceLE, Int.reduceLT, Int.reduceEq, Int.zero_le_ofNat, and_self, if_true, if_false, false_and, and_false, not_true_eq_false, not_false_eq_true, false_implies, forall_const, shA]
  repeat' first | intro _ | with_reducible apply And.intro
  all_goals first | trivial | rfl | omega | (unfold rankF; (repeat' split) <;> first | rfl | trivial | omega | (exfalso; omega)) | (simp only [bi]; (repeat' split) <;> omega)
set_option maxHeartbeats 4000000 in
theorem s_steps {k a m : Int} : CallR G l d 11 [vI k, vI a, vI m] h (fun r h' => r = some (vI (stepsF k a m)) ∧ h' = h) := by
  refine in11 [] 40 fun _ _ _ hO => ?_
  simp only [c11, rlA, KF_s, KF_0, elN_n, elN_c, cond_false, cond_true, Int.reduceToNat, lk_c, lk_n, sw_c, sw_n, List.getD_cons_zero, List.getD_cons_succ, fv_0, fv_1, fv_2, fv_r, pf_0, pf_2, Option.toList_some, Option.toList_none, List.cons_append, List.nil_append, stK_n, stK_i, stK_r, true_and, and_true, true_or, or_true, List.length_nil, List.length_cons, Nat.zero_add, Nat.reduceAdd, Nat.reduceLeDiff, bi_0, bi_1, bi_01, cmp64_0, cmp64_lt, cmp64_gt, hu_ap, Decidable.not_not, Int.reduceAdd, Int.reduceNeg, Int.toNat_natCast, Int.toNat_zero, Int.toNat_one, List.append_nil, reduceCtorEq, Nat.reduceEqDiff, Nat.reduceBEq, Bool.or_false, Bool.false_or, Bool.true_or, some_vI, Int.le_refl, Nat.le_refl, false_or, or_false, Int.reduceLE, Int.reduceLT, Int.reduceEq, Int.zero_le_ofNat, and_self, if_true, if_false, false_and, and_false, not_true_eq_false, not_false_eq_true, false_implies, forall_const, shA]
  repeat' first | intro _ | with_reducible apply And.intro
  all_goals first | trivial | rfl | omega | (unfold stepsF; (repeat' split) <;> first | rfl | trivial | omega | (exfalso; omega)) | (simp only [bi]; (repeat' split) <;> omega)
set_option maxHeartbeats 4000000 in
theorem s_halves {k : Int} : CallR G l d 12 [vI k] h (fun r h' => r = some (vI (bi (k = 1 ∨ k = 4))) ∧ h' = h) := by
  refine in12 [] 40 fun _ hO => ?_
  simp only [c12, rlA, KF_s, KF_0, elN_n, elN_c, cond_false, cond_true, Int.reduceToNat, lk_c, lk_n, sw_c, sw_n, List.getD_cons_zero, List.getD_cons_succ, fv_0, fv_1, fv_2, fv_r, pf_0, pf_2, Option.toList_some, Option.toList_none, List.cons_append, List.nil_append, stK_n, stK_i, stK_r, true_and, and_true, true_or, or_true, List.length_nil, List.length_cons, Nat.zero_add, Nat.reduceAdd, Nat.reduceLeDiff, bi_0, bi_1, bi_01, cmp64_0, cmp64_lt, cmp64_gt, hu_ap, Decidable.not_not, Int.reduceAdd, Int.reduceNeg, Int.toNat_natCast, Int.toNat_zero, Int.toNat_one, List.append_nil, reduceCtorEq, Nat.reduceEqDiff, Nat.reduceBEq, Bool.or_false, Bool.false_or, Bool.true_or, some_vI, Int.le_refl, Nat.le_refl, false_or, or_false, Int.reduceLE, Int.reduceLT, Int.reduceEq, Int.zero_le_ofNat, and_self, if_true, if_false, false_and, and_false, not_true_eq_false, not_false_eq_true, false_implies, forall_const, shA]
  repeat' first | intro _ | with_reducible apply And.intro
  all_goals first | trivial | rfl | omega | ((repeat' split) <;> first | rfl | trivial | omega | (exfalso; omega)) | (simp only [bi]; (repeat' split) <;> omega)
set_option maxHeartbeats 4000000 in
theorem s_room {v : Int} (hd : 1 ≤ d) : CallR G l d 56 [vR 0, vI v] h (fun r h' => r = some (vI (if 1 ≤ v ∧ v ≤ 9 then h 1 12 else -1)) ∧ h' = (if 1 ≤ v ∧ v ≤ 9 then hu h 1 12 v else h)) := by
  refine in56 [] 40 fun _ hO => ?_
  simp only [c56, rlA, KF_s, KF_0, elN_n, elN_c, cond_false, cond_true, Int.reduceToNat, lk_c, lk_n, sw_c, sw_n, List.getD_cons_zero, List.getD_cons_succ, fv_0, fv_1, fv_2, fv_r, pf_0, pf_2, Option.toList_some, Option.toList_none, List.cons_append, List.nil_append, stK_n, stK_i, stK_r, true_and, and_true, true_or, or_true, List.length_nil, List.length_cons, Nat.zero_add, Nat.reduceAdd, Nat.reduceLeDiff, bi_0, bi_1, bi_01, cmp64_0, cmp64_lt, cmp64_gt, hu_ap, Decidable.not_not, Int.reduceAdd, Int.reduceNeg, Int.toNat_natCast, Int.toNat_zero, Int.toNat_one, List.append_nil, reduceCtorEq, Nat.reduceEqDiff, Nat.reduceBEq, Bool.or_false, Bool.false_or, Bool.true_or, some_vI, Int.le_refl, Nat.le_refl, false_or, or_false, Int.reduceLE, Int.reduceLT, Int.reduceEq, Int.zero_le_ofNat, and_self, if_true, if_false, false_and, and_false, not_true_eq_false, not_false_eq_true, false_implies, forall_const, shA]
  repeat' first | intro _ | (refine call_of (d' := d - 1) (by omega) (s_within) ?_) | simp only [c56, rlA, KF_s, KF_0, elN_n, elN_c, cond_false, cond_true, Int.reduceToNat, lk_c, lk_n, sw_c, sw_n, List.getD_cons_zero, List.getD_cons_succ, fv_0, fv_1, fv_2, fv_r, pf_0, pf_2, Option.toList_some, Option.toList_none, List.cons_append, List.nil_append, stK_n, stK_i, stK_r, true_and, and_true, true_or, or_true, List.length_nil, List.length_cons, Nat.zero_add, Nat.reduceAdd, Nat.reduceLeDiff, bi_0, bi_1, bi_01, cmp64_0, cmp64_lt, cmp64_gt, hu_ap, Decidable.not_not, Int.reduceAdd, Int.reduceNeg, Int.toNat_natCast, Int.toNat_zero, Int.toNat_one, List.append_nil, reduceCtorEq, Nat.reduceEqDiff, Nat.reduceBEq, Bool.or_false, Bool.false_or, Bool.true_or, some_vI, Int.le_refl, Nat.le_refl, false_or, or_false, Int.reduceLE, Int.reduceLT, Int.reduceEq, Int.zero_le_ofNat, and_self, if_true, if_false, false_and, and_false, not_true_eq_false, not_false_eq_true, false_implies, forall_const, shA] | with_reducible apply And.intro
  all_goals first | trivial | rfl | omega | ((repeat' split) <;> first | rfl | trivial | omega | (exfalso; omega)) | (simp only [bi]; (repeat' split) <;> omega)
set_option maxHeartbeats 4000000 in
theorem s_minute  : CallR G l d 65 [vR 0] h (fun r h' => r = some (vI (h 1 13)) ∧ h' = h) := by
  refine in65 [] 40 fun  hO => ?_
  simp only [c65, rlA, KF_s, KF_0, elN_n, elN_c, cond_false, cond_true, Int.reduceToNat, lk_c, lk_n, sw_c, sw_n, List.getD_cons_zero, List.getD_cons_succ, fv_0, fv_1, fv_2, fv_r, pf_0, pf_2, Option.toList_some, Option.toList_none, List.cons_append, List.nil_append, stK_n, stK_i, stK_r, true_and, and_true, true_or, or_true, List.length_nil, List.length_cons, Nat.zero_add, Nat.reduceAdd, Nat.reduceLeDiff, bi_0, bi_1, bi_01, cmp64_0, cmp64_lt, cmp64_gt, hu_ap, Decidable.not_not, Int.reduceAdd, Int.reduceNeg, Int.toNat_natCast, Int.toNat_zero, Int.toNat_one, List.append_nil, reduceCtorEq, Nat.reduceEqDiff, Nat.reduceBEq, Bool.or_false, Bool.false_or, Bool.true_or, some_vI, Int.le_refl, Nat.le_refl, false_or, or_false, Int.reduceLE, Int.reduceLT, Int.reduceEq, Int.zero_le_ofNat, and_self, if_true, if_false, false_and, and_false, not_true_eq_false, not_false_eq_true, false_implies, forall_const, shA]
  repeat' first | intro _ | with_reducible apply And.intro
  all_goals first | trivial | rfl | omega | ((repeat' split) <;> first | rfl | trivial | omega | (exfalso; omega)) | (simp only [bi]; (repeat' split) <;> omega)
set_option maxHeartbeats 4000000 in
theorem s_clock {v : Int} (hd : 1 ≤ d) : CallR G l d 67 [vR 0, vI v] h (fun r h' => r = some (vI (if 0 ≤ v ∧ v ≤ 120 then h 1 13 else -1)) ∧ h' = (if 0 ≤ v ∧ v ≤ 120 then hu h 1 13 v else h)) := by
  refine in67 [] 40 fun _ hO => ?_
  simp only [c67, rlA, KF_s, KF_0, elN_n, elN_c, cond_false, cond_true, Int.reduceToNat, lk_c, lk_n, sw_c, sw_n, List.getD_cons_zero, List.getD_cons_succ, fv_0, fv_1, fv_2, fv_r, pf_0, pf_2, Option.toList_some, Option.toList_none, List.cons_append, List.nil_append, stK_n, stK_i, stK_r, true_and, and_true, true_or, or_true, List.length_nil, List.length_cons, Nat.zero_add, Nat.reduceAdd, Nat.reduceLeDiff, bi_0, bi_1, bi_01, cmp64_0, cmp64_lt, cmp64_gt, hu_ap, Decidable.not_not, Int.reduceAdd, Int.reduceNeg, Int.toNat_natCast, Int.toNat_zero, Int.toNat_one, List.append_nil, reduceCtorEq, Nat.reduceEqDiff, Nat.reduceBEq, Bool.or_false, Bool.false_or, Bool.true_or, some_vI, Int.le_refl, Nat.le_refl, false_or, or_false, Int.reduceLE, Int.reduceLT, Int.reduceEq, Int.zero_le_ofNat, and_self, if_true, if_false, false_and, and_false, not_true_eq_false, not_false_eq_true, false_implies, forall_const, shA]
  repeat' first | intro _ | (refine call_of (d' := d - 1) (by omega) (s_within) ?_) | simp only [c67, rlA, KF_s, KF_0, elN_n, elN_c, cond_false, cond_true, Int.reduceToNat, lk_c, lk_n, sw_c, sw_n, List.getD_cons_zero, List.getD_cons_succ, fv_0, fv_1, fv_2, fv_r, pf_0, pf_2, Option.toList_some, Option.toList_none, List.cons_append, List.nil_append, stK_n, stK_i, stK_r, true_and, and_true, true_or, or_true, List.length_nil, List.length_cons, Nat.zero_add, Nat.reduceAdd, Nat.reduceLeDiff, bi_0, bi_1, bi_01, cmp64_0, cmp64_lt, cmp64_gt, hu_ap, Decidable.not_not, Int.reduceAdd, Int.reduceNeg, Int.toNat_natCast, Int.toNat_zero, Int.toNat_one, List.append_nil, reduceCtorEq, Nat.reduceEqDiff, Nat.reduceBEq, Bool.or_false, Bool.false_or, Bool.true_or, some_vI, Int.le_refl, Nat.le_refl, false_or, or_false, Int.reduceLE, Int.reduceLT, Int.reduceEq, Int.zero_le_ofNat, and_self, if_true, if_false, false_and, and_false, not_true_eq_false, not_false_eq_true, false_implies, forall_const, shA] | with_reducible apply And.intro
  all_goals first | trivial | rfl | omega | ((repeat' split) <;> first | rfl | trivial | omega | (exfalso; omega)) | (simp only [bi]; (repeat' split) <;> omega)
set_option maxHeartbeats 4000000 in
theorem s_seed {v : Int} : CallR G l d 80 [vR 0, vI v] h (fun r h' => r = some (vI (h 1 14)) ∧ h' = (hu h 1 14 v)) := by
  refine in80 [] 40 fun _ hO => ?_
  simp only [c80, rlA, KF_s, KF_0, elN_n, elN_c, cond_false, cond_true, Int.reduceToNat, lk_c, lk_n, sw_c, sw_n, List.getD_cons_zero, List.getD_cons_succ, fv_0, fv_1, fv_2, fv_r, pf_0, pf_2, Option.toList_some, Option.toList_none, List.cons_append, List.nil_append, stK_n, stK_i, stK_r, true_and, and_true, true_or, or_true, List.length_nil, List.length_cons, Nat.zero_add, Nat.reduceAdd, Nat.reduceLeDiff, bi_0, bi_1, bi_01, cmp64_0, cmp64_lt, cmp64_gt, hu_ap, Decidable.not_not, Int.reduceAdd, Int.reduceNeg, Int.toNat_natCast, Int.toNat_zero, Int.toNat_one, List.append_nil, reduceCtorEq, Nat.reduceEqDiff, Nat.reduceBEq, Bool.or_false, Bool.false_or, Bool.true_or, some_vI, Int.le_refl, Nat.le_refl, false_or, or_false, Int.reduceLE, Int.reduceLT, Int.reduceEq, Int.zero_le_ofNat, and_self, if_true, if_false, false_and, and_false, not_true_eq_false, not_false_eq_true, false_implies, forall_const, shA]
  repeat' first | intro _ | with_reducible apply And.intro
  all_goals first | trivial | rfl | omega | ((repeat' split) <;> first | rfl | trivial | omega | (exfalso; omega)) | (simp only [bi]; (repeat' split) <;> omega)
set_option maxHeartbeats 4000000 in
theorem s_send {t : Nat} {p g s : Int} (ht : isT t) (hp : 0 ≤ p ∧ p < 8) : CallR G l d 45 [vR t, vI p, vI g, vI s] h (fun r h' => r = none ∧ h' = (hu (hu (hu (hu h (t + 4) p.toNat g) (t + 5) p.toNat s) (t + 6) p.toNat 0) (t + 7) p.toNat (-9))) := by
  refine in45 [] 40 fun _ _ _ hO => ?_
  simp only [c45, rlA, KF_s, KF_0, elN_n, elN_c, cond_false, cond_true, Int.reduceToNat, lk_c, lk_n, sw_c, sw_n, List.getD_cons_zero, List.getD_cons_succ, fv_0, fv_1, fv_2, fv_r, pf_0, pf_2, Option.toList_some, Option.toList_none, List.cons_append, List.nil_append, stK_n, stK_i, stK_r, true_and, and_true, true_or, or_true, List.length_nil, List.length_cons, Nat.zero_add, Nat.reduceAdd, Nat.reduceLeDiff, bi_0, bi_1, bi_01, cmp64_0, cmp64_lt, cmp64_gt, hu_ap, Decidable.not_not, Int.reduceAdd, Int.reduceNeg, Int.toNat_natCast, Int.toNat_zero, Int.toNat_one, List.append_nil, reduceCtorEq, Nat.reduceEqDiff, Nat.reduceBEq, Bool.or_false, Bool.false_or, Bool.true_or, some_vI, Int.le_refl, Nat.le_refl, false_or, or_false, Int.reduceLE, Int.reduceLT, Int.reduceEq, Int.zero_le_ofNat, and_self, if_true, if_false, false_and, and_false, not_true_eq_false, not_false_eq_true, false_implies, forall_const, shT ht]
  repeat' first | intro _ | with_reducible apply And.intro
  all_goals first | trivial | rfl | omega | ((repeat' split) <;> first | rfl | trivial | omega | (exfalso; omega)) | (simp only [bi]; (repeat' split) <;> omega)
end L2A
end
section
section L2B
variable {G : GD} {l : Launch} {d : Nat} {h : AH}
set_option maxHeartbeats 4000000 in
theorem m_in {v a b : Int} : CallR G l d 112 [vI v, vI a, vI b] h (fun r h' => r = some (vI (bi (a ≤ v ∧ v ≤ b))) ∧ h' = h) := by
  refine in112 [] 40 fun _ _ _ hO => ?_
  simp only [c112, rlA, KF_s, KF_0, elN_n, elN_c, cond_false, cond_true, Int.reduceToNat, lk_c, lk_n, sw_c, sw_n, List.getD_cons_zero, List.getD_cons_succ, fv_0, fv_1, fv_2, fv_r, pf_0, pf_2, Option.toList_some, Option.toList_none, List.cons_append, List.nil_append, stK_n, stK_i, stK_r, true_and, and_true, true_or, or_true, List.length_nil, List.length_cons, Nat.zero_add, Nat.reduceAdd, Nat.reduceLeDiff, bi_0, bi_1, bi_01, cmp64_0, cmp64_lt, cmp64_gt, hu_ap, Decidable.not_not, Int.reduceAdd, Int.reduceNeg, Int.toNat_natCast, Int.toNat_zero, Int.toNat_one, List.append_nil, reduceCtorEq, Nat.reduceEqDiff, Nat.reduceBEq, Bool.or_false, Bool.false_or, Bool.true_or, some_vI, Int.le_refl, Nat.le_refl, false_or, or_false, Int.reduceLE, Int.reduceLT, Int.reduceEq, Int.zero_le_ofNat, and_self, if_true, if_false, false_and, and_false, not_true_eq_false, not_false_eq_true, false_implies, forall_const, shA]
  repeat' first | intro _ | with_reducible apply And.intro
  all_goals first | trivial | rfl | omega | ((repeat' split) <;> first | rfl | trivial | omega | (exfalso; omega)) | (simp only [bi]; (repeat' split) <;> omega)
set_option maxHeartbeats 4000000 in
theorem m_isPerson {p : Int} (hP : 0 ≤ h 82 5 ∧ h 82 5 ≤ 8) (hd : 1 ≤ d) : CallR G l d 113 [vR 82, vI p] h (fun r h' => r = some (vI (bi (0 ≤ p ∧ p ≤ h 82 5 - 1))) ∧ h' = h) := by
  refine in113 [] 40 fun _ hO => ?_
  have e1 : w32 (h 82 5 - 1) = h 82 5 - 1 := w32_id (by omega) (by omega)
  simp only [c113, rlA, KF_s, KF_0, elN_n, elN_c, cond_false, cond_true, Int.reduceToNat, lk_c, lk_n, sw_c, sw_n, List.getD_cons_zero, List.getD_cons_succ, fv_0, fv_1, fv_2, fv_r, pf_0, pf_2, Option.toList_some, Option.toList_none, List.cons_append, List.nil_append, stK_n, stK_i, stK_r, true_and, and_true, true_or, or_true, List.length_nil, List.length_cons, Nat.zero_add, Nat.reduceAdd, Nat.reduceLeDiff, bi_0, bi_1, bi_01, cmp64_0, cmp64_lt, cmp64_gt, hu_ap, Decidable.not_not, Int.reduceAdd, Int.reduceNeg, Int.toNat_natCast, Int.toNat_zero, Int.toNat_one, List.append_nil, reduceCtorEq, Nat.reduceEqDiff, Nat.reduceBEq, Bool.or_false, Bool.false_or, Bool.true_or, some_vI, Int.le_refl, Nat.le_refl, false_or, or_false, Int.reduceLE, Int.reduceLT, Int.reduceEq, Int.zero_le_ofNat, and_self, if_true, if_false, false_and, and_false, not_true_eq_false, not_false_eq_true, false_implies, forall_const, shA, e1]
  repeat' first | intro _ | (refine call_of (d' := d - 1) (by omega) (m_in) ?_) | simp only [c113, rlA, KF_s, KF_0, elN_n, elN_c, cond_false, cond_true, Int.reduceToNat, lk_c, lk_n, sw_c, sw_n, List.getD_cons_zero, List.getD_cons_succ, fv_0, fv_1, fv_2, fv_r, pf_0, pf_2, Option.toList_some, Option.toList_none, List.cons_append, List.nil_append, stK_n, stK_i, stK_r, true_and, and_true, true_or, or_true, List.length_nil, List.length_cons, Nat.zero_add, Nat.reduceAdd, Nat.reduceLeDiff, bi_0, bi_1, bi_01, cmp64_0, cmp64_lt, cmp64_gt, hu_ap, Decidable.not_not, Int.reduceAdd, Int.reduceNeg, Int.toNat_natCast, Int.toNat_zero, Int.toNat_one, List.append_nil, reduceCtorEq, Nat.reduceEqDiff, Nat.reduceBEq, Bool.or_false, Bool.false_or, Bool.true_or, some_vI, Int.le_refl, Nat.le_refl, false_or, or_false, Int.reduceLE, Int.reduceLT, Int.reduceEq, Int.zero_le_ofNat, and_self, if_true, if_false, false_and, and_false, not_true_eq_false, not_false_eq_true, false_implies, forall_const, shA, e1] | with_reducible apply And.intro
  all_goals first | trivial | rfl | omega | ((repeat' split) <;> first | rfl | trivial | omega | (exfalso; omega)) | (simp only [bi]; (repeat' split) <;> omega)
set_option maxHeartbeats 4000000 in
theorem m_isFloor {v : Int} (hd : 1 ≤ d) : CallR G l d 114 [vI v] h (fun r h' => r = some (vI (bi (0 ≤ v ∧ v ≤ 9))) ∧ h' = h) := by
  refine in114 [] 40 fun _ hO => ?_
  simp only [c114, rlA, KF_s, KF_0, elN_n, elN_c, cond_false, cond_true, Int.reduceToNat, lk_c, lk_n, sw_c, sw_n, List.getD_cons_zero, List.getD_cons_succ, fv_0, fv_1, fv_2, fv_r, pf_0, pf_2, Option.toList_some, Option.toList_none, List.cons_append, List.nil_append, stK_n, stK_i, stK_r, true_and, and_true, true_or, or_true, List.length_nil, List.length_cons, Nat.zero_add, Nat.reduceAdd, Nat.reduceLeDiff, bi_0, bi_1, bi_01, cmp64_0, cmp64_lt, cmp64_gt, hu_ap, Decidable.not_not, Int.reduceAdd, Int.reduceNeg, Int.toNat_natCast, Int.toNat_zero, Int.toNat_one, List.append_nil, reduceCtorEq, Nat.reduceEqDiff, Nat.reduceBEq, Bool.or_false, Bool.false_or, Bool.true_or, some_vI, Int.le_refl, Nat.le_refl, false_or, or_false, Int.reduceLE, Int.reduceLT, Int.reduceEq, Int.zero_le_ofNat, and_self, if_true, if_false, false_and, and_false, not_true_eq_false, not_false_eq_true, false_implies, forall_const, shA]
  repeat' first | intro _ | (refine call_of (d' := d - 1) (by omega) (m_in) ?_) | simp only [c114, rlA, KF_s, KF_0, elN_n, elN_c, cond_false, cond_true, Int.reduceToNat, lk_c, lk_n, sw_c, sw_n, List.getD_cons_zero, List.getD_cons_succ, fv_0, fv_1, fv_2, fv_r, pf_0, pf_2, Option.toList_some, Option.toList_none, List.cons_append, List.nil_append, stK_n, stK_i, stK_r, true_and, and_true, true_or, or_true, List.length_nil, List.length_cons, Nat.zero_add, Nat.reduceAdd, Nat.reduceLeDiff, bi_0, bi_1, bi_01, cmp64_0, cmp64_lt, cmp64_gt, hu_ap, Decidable.not_not, Int.reduceAdd, Int.reduceNeg, Int.toNat_natCast, Int.toNat_zero, Int.toNat_one, List.append_nil, reduceCtorEq, Nat.reduceEqDiff, Nat.reduceBEq, Bool.or_false, Bool.false_or, Bool.true_or, some_vI, Int.le_refl, Nat.le_refl, false_or, or_false, Int.reduceLE, Int.reduceLT, Int.reduceEq, Int.zero_le_ofNat, and_self, if_true, if_false, false_and, and_false, not_true_eq_false, not_false_eq_true, false_implies, forall_const, shA] | with_reducible apply And.intro
  all_goals first | trivial | rfl | omega | ((repeat' split) <;> first | rfl | trivial | omega | (exfalso; omega)) | (simp only [bi]; (repeat' split) <;> omega)
set_option maxHeartbeats 4000000 in
theorem m_isFlight {v : Int} (hd : 1 ≤ d) : CallR G l d 115 [vI v] h (fun r h' => r = some (vI (bi (0 ≤ v ∧ v ≤ 8))) ∧ h' = h) := by
  refine in115 [] 40 fun _ hO => ?_
  simp only [c115, rlA, KF_s, KF_0, elN_n, elN_c, cond_false, cond_true, Int.reduceToNat, lk_c, lk_n, sw_c, sw_n, List.getD_cons_zero, List.getD_cons_succ, fv_0, fv_1, fv_2, fv_r, pf_0, pf_2, Option.toList_some, Option.toList_none, List.cons_append, List.nil_append, stK_n, stK_i, stK_r, true_and, and_true, true_or, or_true, List.length_nil, List.length_cons, Nat.zero_add, Nat.reduceAdd, Nat.reduceLeDiff, bi_0, bi_1, bi_01, cmp64_0, cmp64_lt, cmp64_gt, hu_ap, Decidable.not_not, Int.reduceAdd, Int.reduceNeg, Int.toNat_natCast, Int.toNat_zero, Int.toNat_one, List.append_nil, reduceCtorEq, Nat.reduceEqDiff, Nat.reduceBEq, Bool.or_false, Bool.false_or, Bool.true_or, some_vI, Int.le_refl, Nat.le_refl, false_or, or_false, Int.reduceLE, Int.reduceLT, Int.reduceEq, Int.zero_le_ofNat, and_self, if_true, if_false, false_and, and_false, not_true_eq_false, not_false_eq_true, false_implies, forall_const, shA]
  repeat' first | intro _ | (refine call_of (d' := d - 1) (by omega) (m_in) ?_) | simp only [c115, rlA, KF_s, KF_0, elN_n, elN_c, cond_false, cond_true, Int.reduceToNat, lk_c, lk_n, sw_c, sw_n, List.getD_cons_zero, List.getD_cons_succ, fv_0, fv_1, fv_2, fv_r, pf_0, pf_2, Option.toList_some, Option.toList_none, List.cons_append, List.nil_append, stK_n, stK_i, stK_r, true_and, and_true, true_or, or_true, List.length_nil, List.length_cons, Nat.zero_add, Nat.reduceAdd, Nat.reduceLeDiff, bi_0, bi_1, bi_01, cmp64_0, cmp64_lt, cmp64_gt, hu_ap, Decidable.not_not, Int.reduceAdd, Int.reduceNeg, Int.toNat_natCast, Int.toNat_zero, Int.toNat_one, List.append_nil, reduceCtorEq, Nat.reduceEqDiff, Nat.reduceBEq, Bool.or_false, Bool.false_or, Bool.true_or, some_vI, Int.le_refl, Nat.le_refl, false_or, or_false, Int.reduceLE, Int.reduceLT, Int.reduceEq, Int.zero_le_ofNat, and_self, if_true, if_false, false_and, and_false, not_true_eq_false, not_false_eq_true, false_implies, forall_const, shA] | with_reducible apply And.intro
  all_goals first | trivial | rfl | omega | ((repeat' split) <;> first | rfl | trivial | omega | (exfalso; omega)) | (simp only [bi]; (repeat' split) <;> omega)
set_option maxHeartbeats 4000000 in
theorem m_isStart {v : Int} (hd : 1 ≤ d) : CallR G l d 116 [vI v] h (fun r h' => r = some (vI (bi (0 ≤ v ∧ v ≤ 99))) ∧ h' = h) := by
  refine in116 [] 40 fun _ hO => ?_
  simp only [c116, rlA, KF_s, KF_0, elN_n, elN_c, cond_false, cond_true, Int.reduceToNat, lk_c, lk_n, sw_c, sw_n, List.getD_cons_zero, List.getD_cons_succ, fv_0, fv_1, fv_2, fv_r, pf_0, pf_2, Option.toList_some, Option.toList_none, List.cons_append, List.nil_append, stK_n, stK_i, stK_r, true_and, and_true, true_or, or_true, List.length_nil, List.length_cons, Nat.zero_add, Nat.reduceAdd, Nat.reduceLeDiff, bi_0, bi_1, bi_01, cmp64_0, cmp64_lt, cmp64_gt, hu_ap, Decidable.not_not, Int.reduceAdd, Int.reduceNeg, Int.toNat_natCast, Int.toNat_zero, Int.toNat_one, List.append_nil, reduceCtorEq, Nat.reduceEqDiff, Nat.reduceBEq, Bool.or_false, Bool.false_or, Bool.true_or, some_vI, Int.le_refl, Nat.le_refl, false_or, or_false, Int.reduceLE, Int.reduceLT, Int.reduceEq, Int.zero_le_ofNat, and_self, if_true, if_false, false_and, and_false, not_true_eq_false, not_false_eq_true, false_implies, forall_const, shA]
  repeat' first | intro _ | (refine call_of (d' := d - 1) (by omega) (m_in) ?_) | simp only [c116, rlA, KF_s, KF_0, elN_n, elN_c, cond_false, cond_true, Int.reduceToNat, lk_c, lk_n, sw_c, sw_n, List.getD_cons_zero, List.getD_cons_succ, fv_0, fv_1, fv_2, fv_r, pf_0, pf_2, Option.toList_some, Option.toList_none, List.cons_append, List.nil_append, stK_n, stK_i, stK_r, true_and, and_true, true_or, or_true, List.length_nil, List.length_cons, Nat.zero_add, Nat.reduceAdd, Nat.reduceLeDiff, bi_0, bi_1, bi_01, cmp64_0, cmp64_lt, cmp64_gt, hu_ap, Decidable.not_not, Int.reduceAdd, Int.reduceNeg, Int.toNat_natCast, Int.toNat_zero, Int.toNat_one, List.append_nil, reduceCtorEq, Nat.reduceEqDiff, Nat.reduceBEq, Bool.or_false, Bool.false_or, Bool.true_or, some_vI, Int.le_refl, Nat.le_refl, false_or, or_false, Int.reduceLE, Int.reduceLT, Int.reduceEq, Int.zero_le_ofNat, and_self, if_true, if_false, false_and, and_false, not_true_eq_false, not_false_eq_true, false_implies, forall_const, shA] | with_reducible apply And.intro
  all_goals first | trivial | rfl | omega | ((repeat' split) <;> first | rfl | trivial | omega | (exfalso; omega)) | (simp only [bi]; (repeat' split) <;> omega)
set_option maxHeartbeats 4000000 in
theorem m_isMinute {v : Int} (hd : 1 ≤ d) : CallR G l d 117 [vI v] h (fun r h' => r = some (vI (bi (0 ≤ v ∧ v ≤ 119))) ∧ h' = h) := by
  refine in117 [] 40 fun _ hO => ?_
  simp only [c117, rlA, KF_s, KF_0, elN_n, elN_c, cond_false, cond_true, Int.reduceToNat, lk_c, lk_n, sw_c, sw_n, List.getD_cons_zero, List.getD_cons_succ, fv_0, fv_1, fv_2, fv_r, pf_0, pf_2, Option.toList_some, Option.toList_none, List.cons_append, List.nil_append, stK_n, stK_i, stK_r, true_and, and_true, true_or, or_true, List.length_nil, List.length_cons, Nat.zero_add, Nat.reduceAdd, Nat.reduceLeDiff, bi_0, bi_1, bi_01, cmp64_0, cmp64_lt, cmp64_gt, hu_ap, Decidable.not_not, Int.reduceAdd, Int.reduceNeg, Int.toNat_natCast, Int.toNat_zero, Int.toNat_one, List.append_nil, reduceCtorEq, Nat.reduceEqDiff, Nat.reduceBEq, Bool.or_false, Bool.false_or, Bool.true_or, some_vI, Int.le_refl, Nat.le_refl, false_or, or_false, Int.reduceLE, Int.reduceLT, Int.reduceEq, Int.zero_le_ofNat, and_self, if_true, if_false, false_and, and_false, not_true_eq_false, not_false_eq_true, false_implies, forall_const, shA]
  repeat' first | intro _ | (refine call_of (d' := d - 1) (by omega) (m_in) ?_) | simp only [c117, rlA, KF_s, KF_0, elN_n, elN_c, cond_false, cond_true, Int.reduceToNat, lk_c, lk_n, sw_c, sw_n, List.getD_cons_zero, List.getD_cons_succ, fv_0, fv_1, fv_2, fv_r, pf_0, pf_2, Option.toList_some, Option.toList_none, List.cons_append, List.nil_append, stK_n, stK_i, stK_r, true_and, and_true, true_or, or_true, List.length_nil, List.length_cons, Nat.zero_add, Nat.reduceAdd, Nat.reduceLeDiff, bi_0, bi_1, bi_01, cmp64_0, cmp64_lt, cmp64_gt, hu_ap, Decidable.not_not, Int.reduceAdd, Int.reduceNeg, Int.toNat_natCast, Int.toNat_zero, Int.toNat_one, List.append_nil, reduceCtorEq, Nat.reduceEqDiff, Nat.reduceBEq, Bool.or_false, Bool.false_or, Bool.true_or, some_vI, Int.le_refl, Nat.le_refl, false_or, or_false, Int.reduceLE, Int.reduceLT, Int.reduceEq, Int.zero_le_ofNat, and_self, if_true, if_false, false_and, and_false, not_true_eq_false, not_false_eq_true, false_implies, forall_const, shA] | with_reducible apply And.intro
  all_goals first | trivial | rfl | omega | ((repeat' split) <;> first | rfl | trivial | omega | (exfalso; omega)) | (simp only [bi]; (repeat' split) <;> omega)
set_option maxHeartbeats 4000000 in
theorem m_isLetter {v : Int} (hd : 1 ≤ d) : CallR G l d 123 [vI v] h (fun r h' => r = some (vI (bi (97 ≤ v ∧ v ≤ 122))) ∧ h' = h) := by
  refine in123 [] 40 fun _ hO => ?_
  simp only [c123, rlA, KF_s, KF_0, elN_n, elN_c, cond_false, cond_true, Int.reduceToNat, lk_c, lk_n, sw_c, sw_n, List.getD_cons_zero, List.getD_cons_succ, fv_0, fv_1, fv_2, fv_r, pf_0, pf_2, Option.toList_some, Option.toList_none, List.cons_append, List.nil_append, stK_n, stK_i, stK_r, true_and, and_true, true_or, or_true, List.length_nil, List.length_cons, Nat.zero_add, Nat.reduceAdd, Nat.reduceLeDiff, bi_0, bi_1, bi_01, cmp64_0, cmp64_lt, cmp64_gt, hu_ap, Decidable.not_not, Int.reduceAdd, Int.reduceNeg, Int.toNat_natCast, Int.toNat_zero, Int.toNat_one, List.append_nil, reduceCtorEq, Nat.reduceEqDiff, Nat.reduceBEq, Bool.or_false, Bool.false_or, Bool.true_or, some_vI, Int.le_refl, Nat.le_refl, false_or, or_false, Int.reduceLE, Int.reduceLT, Int.reduceEq, Int.zero_le_ofNat, and_self, if_true, if_false, false_and, and_false, not_true_eq_false, not_false_eq_true, false_implies, forall_const, shA]
  repeat' first | intro _ | (refine call_of (d' := d - 1) (by omega) (m_in) ?_) | simp only [c123, rlA, KF_s, KF_0, elN_n, elN_c, cond_false, cond_true, Int.reduceToNat, lk_c, lk_n, sw_c, sw_n, List.getD_cons_zero, List.getD_cons_succ, fv_0, fv_1, fv_2, fv_r, pf_0, pf_2, Option.toList_some, Option.toList_none, List.cons_append, List.nil_append, stK_n, stK_i, stK_r, true_and, and_true, true_or, or_true, List.length_nil, List.length_cons, Nat.zero_add, Nat.reduceAdd, Nat.reduceLeDiff, bi_0, bi_1, bi_01, cmp64_0, cmp64_lt, cmp64_gt, hu_ap, Decidable.not_not, Int.reduceAdd, Int.reduceNeg, Int.toNat_natCast, Int.toNat_zero, Int.toNat_one, List.append_nil, reduceCtorEq, Nat.reduceEqDiff, Nat.reduceBEq, Bool.or_false, Bool.false_or, Bool.true_or, some_vI, Int.le_refl, Nat.le_refl, false_or, or_false, Int.reduceLE, Int.reduceLT, Int.reduceEq, Int.zero_le_ofNat, and_self, if_true, if_false, false_and, and_false, not_true_eq_false, not_false_eq_true, false_implies, forall_const, shA] | with_reducible apply And.intro
  all_goals first | trivial | rfl | omega | ((repeat' split) <;> first | rfl | trivial | omega | (exfalso; omega)) | (simp only [bi]; (repeat' split) <;> omega)
set_option maxHeartbeats 4000000 in
theorem m_isDigit {v : Int} (hd : 1 ≤ d) : CallR G l d 124 [vI v] h (fun r h' => r = some (vI (bi (48 ≤ v ∧ v ≤ 57))) ∧ h' = h) := by
  refine in124 [] 40 fun _ hO => ?_
  simp only [c124, rlA, KF_s, KF_0, elN_n, elN_c, cond_false, cond_true, Int.reduceToNat, lk_c, lk_n, sw_c, sw_n, List.getD_cons_zero, List.getD_cons_succ, fv_0, fv_1, fv_2, fv_r, pf_0, pf_2, Option.toList_some, Option.toList_none, List.cons_append, List.nil_append, stK_n, stK_i, stK_r, true_and, and_true, true_or, or_true, List.length_nil, List.length_cons, Nat.zero_add, Nat.reduceAdd, Nat.reduceLeDiff, bi_0, bi_1, bi_01, cmp64_0, cmp64_lt, cmp64_gt, hu_ap, Decidable.not_not, Int.reduceAdd, Int.reduceNeg, Int.toNat_natCast, Int.toNat_zero, Int.toNat_one, List.append_nil, reduceCtorEq, Nat.reduceEqDiff, Nat.reduceBEq, Bool.or_false, Bool.false_or, Bool.true_or, some_vI, Int.le_refl, Nat.le_refl, false_or, or_false, Int.reduceLE, Int.reduceLT, Int.reduceEq, Int.zero_le_ofNat, and_self, if_true, if_false, false_and, and_false, not_true_eq_false, not_false_eq_true, false_implies, forall_const, shA]
  repeat' first | intro _ | (refine call_of (d' := d - 1) (by omega) (m_in) ?_) | simp only [c124, rlA, KF_s, KF_0, elN_n, elN_c, cond_false, cond_true, Int.reduceToNat, lk_c, lk_n, sw_c, sw_n, List.getD_cons_zero, List.getD_cons_succ, fv_0, fv_1, fv_2, fv_r, pf_0, pf_2, Option.toList_some, Option.toList_none, List.cons_append, List.nil_append, stK_n, stK_i, stK_r, true_and, and_true, true_or, or_true, List.length_nil, List.length_cons, Nat.zero_add, Nat.reduceAdd, Nat.reduceLeDiff, bi_0, bi_1, bi_01, cmp64_0, cmp64_lt, cmp64_gt, hu_ap, Decidable.not_not, Int.reduceAdd, Int.reduceNeg, Int.toNat_natCast, Int.toNat_zero, Int.toNat_one, List.append_nil, reduceCtorEq, Nat.reduceEqDiff, Nat.reduceBEq, Bool.or_false, Bool.false_or, Bool.true_or, some_vI, Int.le_refl, Nat.le_refl, false_or, or_false, Int.reduceLE, Int.reduceLT, Int.reduceEq, Int.zero_le_ofNat, and_self, if_true, if_false, false_and, and_false, not_true_eq_false, not_false_eq_true, false_implies, forall_const, shA] | with_reducible apply And.intro
  all_goals first | trivial | rfl | omega | ((repeat' split) <;> first | rfl | trivial | omega | (exfalso; omega)) | (simp only [bi]; (repeat' split) <;> omega)
set_option maxHeartbeats 4000000 in
theorem m_isShelf {v : Int} (hd : 1 ≤ d) : CallR G l d 188 [vI v] h (fun r h' => r = some (vI (bi (0 ≤ v ∧ v ≤ 3))) ∧ h' = h) := by
  refine in188 [] 40 fun _ hO => ?_
  simp only [c188, rlA, KF_s, KF_0, elN_n, elN_c, cond_false, cond_true, Int.reduceToNat, lk_c, lk_n, sw_c, sw_n, List.getD_cons_zero, List.getD_cons_succ, fv_0, fv_1, fv_2, fv_r, pf_0, pf_2, Option.toList_some, Option.toList_none, List.cons_append, List.nil_append, stK_n, stK_i, stK_r, true_and, and_true, true_or, or_true, List.length_nil, List.length_cons, Nat.zero_add, Nat.reduceAdd, Nat.reduceLeDiff, bi_0, bi_1, bi_01, cmp64_0, cmp64_lt, cmp64_gt, hu_ap, Decidable.not_not, Int.reduceAdd, Int.reduceNeg, Int.toNat_natCast, Int.toNat_zero, Int.toNat_one, List.append_nil, reduceCtorEq, Nat.reduceEqDiff, Nat.reduceBEq, Bool.or_false, Bool.false_or, Bool.true_or, some_vI, Int.le_refl, Nat.le_refl, false_or, or_false, Int.reduceLE, Int.reduceLT, Int.reduceEq, Int.zero_le_ofNat, and_self, if_true, if_false, false_and, and_false, not_true_eq_false, not_false_eq_true, false_implies, forall_const, shA]
  repeat' first | intro _ | (refine call_of (d' := d - 1) (by omega) (m_in) ?_) | simp only [c188, rlA, KF_s, KF_0, elN_n, elN_c, cond_false, cond_true, Int.reduceToNat, lk_c, lk_n, sw_c, sw_n, List.getD_cons_zero, List.getD_cons_succ, fv_0, fv_1, fv_2, fv_r, pf_0, pf_2, Option.toList_some, Option.toList_none, List.cons_append, List.nil_append, stK_n, stK_i, stK_r, true_and, and_true, true_or, or_true, List.length_nil, List.length_cons, Nat.zero_add, Nat.reduceAdd, Nat.reduceLeDiff, bi_0, bi_1, bi_01, cmp64_0, cmp64_lt, cmp64_gt, hu_ap, Decidable.not_not, Int.reduceAdd, Int.reduceNeg, Int.toNat_natCast, Int.toNat_zero, Int.toNat_one, List.append_nil, reduceCtorEq, Nat.reduceEqDiff, Nat.reduceBEq, Bool.or_false, Bool.false_or, Bool.true_or, some_vI, Int.le_refl, Nat.le_refl, false_or, or_false, Int.reduceLE, Int.reduceLT, Int.reduceEq, Int.zero_le_ofNat, and_self, if_true, if_false, false_and, and_false, not_true_eq_false, not_false_eq_true, false_implies, forall_const, shA] | with_reducible apply And.intro
  all_goals first | trivial | rfl | omega | ((repeat' split) <;> first | rfl | trivial | omega | (exfalso; omega)) | (simp only [bi]; (repeat' split) <;> omega)
set_option maxHeartbeats 4000000 in
theorem m_isKind {k a : Int} (hd : 1 ≤ d) : CallR G l d 118 [vI k, vI a] h (fun r h' => r = some (vI (bi ((0 ≤ k ∧ k ≤ 5) ∧ (0 ≤ a ∧ a ≤ 9)))) ∧ h' = h) := by
  refine in118 [] 40 fun _ _ hO => ?_
  simp only [c118, rlA, KF_s, KF_0, elN_n, elN_c, cond_false, cond_true, Int.reduceToNat, lk_c, lk_n, sw_c, sw_n, List.getD_cons_zero, List.getD_cons_succ, fv_0, fv_1, fv_2, fv_r, pf_0, pf_2, Option.toList_some, Option.toList_none, List.cons_append, List.nil_append, stK_n, stK_i, stK_r, true_and, and_true, true_or, or_true, List.length_nil, List.length_cons, Nat.zero_add, Nat.reduceAdd, Nat.reduceLeDiff, bi_0, bi_1, bi_01, cmp64_0, cmp64_lt, cmp64_gt, hu_ap, Decidable.not_not, Int.reduceAdd, Int.reduceNeg, Int.toNat_natCast, Int.toNat_zero, Int.toNat_one, List.append_nil, reduceCtorEq, Nat.reduceEqDiff, Nat.reduceBEq, Bool.or_false, Bool.false_or, Bool.true_or, some_vI, Int.le_refl, Nat.le_refl, false_or, or_false, Int.reduceLE, Int.reduceLT, Int.reduceEq, Int.zero_le_ofNat, and_self, if_true, if_false, false_and, and_false, not_true_eq_false, not_false_eq_true, false_implies, forall_const, shA]
  repeat' first | intro _ | (refine call_of (d' := d - 1) (by omega) (m_in) ?_) | simp only [c118, rlA, KF_s, KF_0, elN_n, elN_c, cond_false, cond_true, Int.reduceToNat, lk_c, lk_n, sw_c, sw_n, List.getD_cons_zero, List.getD_cons_succ, fv_0, fv_1, fv_2, fv_r, pf_0, pf_2, Option.toList_some, Option.toList_none, List.cons_append, List.nil_append, stK_n, stK_i, stK_r, true_and, and_true, true_or, or_true, List.length_nil, List.length_cons, Nat.zero_add, Nat.reduceAdd, Nat.reduceLeDiff, bi_0, bi_1, bi_01, cmp64_0, cmp64_lt, cmp64_gt, hu_ap, Decidable.not_not, Int.reduceAdd, Int.reduceNeg, Int.toNat_natCast, Int.toNat_zero, Int.toNat_one, List.append_nil, reduceCtorEq, Nat.reduceEqDiff, Nat.reduceBEq, Bool.or_false, Bool.false_or, Bool.true_or, some_vI, Int.le_refl, Nat.le_refl, false_or, or_false, Int.reduceLE, Int.reduceLT, Int.reduceEq, Int.zero_le_ofNat, and_self, if_true, if_false, false_and, and_false, not_true_eq_false, not_false_eq_true, false_implies, forall_const, shA] | with_reducible apply And.intro
  all_goals first | trivial | rfl | omega | ((repeat' split) <;> first | rfl | trivial | omega | (exfalso; omega)) | (simp only [bi]; (repeat' split) <;> omega)
set_option maxHeartbeats 4000000 in
theorem m_its {k : Int} (hk : 0 ≤ h 82 9 + k ∧ h 82 9 + k < 82) : CallR G l d 119 [vR 82, vI k] h (fun r h' => r = some (vI (h 88 (h 82 9 + k).toNat)) ∧ h' = h) := by
  refine in119 [] 40 fun _ hO => ?_
  have e1 : w32 (h 82 9 + k) = h 82 9 + k := w32_id (by omega) (by omega)
  simp only [c119, rlA, KF_s, KF_0, elN_n, elN_c, cond_false, cond_true, Int.reduceToNat, lk_c, lk_n, sw_c, sw_n, List.getD_cons_zero, List.getD_cons_succ, fv_0, fv_1, fv_2, fv_r, pf_0, pf_2, Option.toList_some, Option.toList_none, List.cons_append, List.nil_append, stK_n, stK_i, stK_r, true_and, and_true, true_or, or_true, List.length_nil, List.length_cons, Nat.zero_add, Nat.reduceAdd, Nat.reduceLeDiff, bi_0, bi_1, bi_01, cmp64_0, cmp64_lt, cmp64_gt, hu_ap, Decidable.not_not, Int.reduceAdd, Int.reduceNeg, Int.toNat_natCast, Int.toNat_zero, Int.toNat_one, List.append_nil, reduceCtorEq, Nat.reduceEqDiff, Nat.reduceBEq, Bool.or_false, Bool.false_or, Bool.true_or, some_vI, Int.le_refl, Nat.le_refl, false_or, or_false, Int.reduceLE, Int.reduceLT, Int.reduceEq, Int.zero_le_ofNat, and_self, if_true, if_false, false_and, and_false, not_true_eq_false, not_false_eq_true, false_implies, forall_const, shA, e1]
  repeat' first | intro _ | with_reducible apply And.intro
  all_goals first | trivial | rfl | omega | ((repeat' split) <;> first | rfl | trivial | omega | (exfalso; omega)) | (simp only [bi]; (repeat' split) <;> omega)
set_option maxHeartbeats 4000000 in
theorem m_becomes {k v : Int} (hk : 0 ≤ h 82 9 + k ∧ h 82 9 + k < 82) : CallR G l d 120 [vR 82, vI k, vI v] h (fun r h' => r = none ∧ h' = (hu h 88 (h 82 9 + k).toNat v)) := by
  refine in120 [] 40 fun _ _ hO => ?_
  have e1 : w32 (h 82 9 + k) = h 82 9 + k := w32_id (by omega) (by omega)
  simp only [c120, rlA, KF_s, KF_0, elN_n, elN_c, cond_false, cond_true, Int.reduceToNat, lk_c, lk_n, sw_c, sw_n, List.getD_cons_zero, List.getD_cons_succ, fv_0, fv_1, fv_2, fv_r, pf_0, pf_2, Option.toList_some, Option.toList_none, List.cons_append, List.nil_append, stK_n, stK_i, stK_r, true_and, and_true, true_or, or_true, List.length_nil, List.length_cons, Nat.zero_add, Nat.reduceAdd, Nat.reduceLeDiff, bi_0, bi_1, bi_01, cmp64_0, cmp64_lt, cmp64_gt, hu_ap, Decidable.not_not, Int.reduceAdd, Int.reduceNeg, Int.toNat_natCast, Int.toNat_zero, Int.toNat_one, List.append_nil, reduceCtorEq, Nat.reduceEqDiff, Nat.reduceBEq, Bool.or_false, Bool.false_or, Bool.true_or, some_vI, Int.le_refl, Nat.le_refl, false_or, or_false, Int.reduceLE, Int.reduceLT, Int.reduceEq, Int.zero_le_ofNat, and_self, if_true, if_false, false_and, and_false, not_true_eq_false, not_false_eq_true, false_implies, forall_const, shA, e1]
  repeat' first | intro _ | with_reducible apply And.intro
  all_goals first | trivial | rfl | omega | ((repeat' split) <;> first | rfl | trivial | omega | (exfalso; omega)) | (simp only [bi]; (repeat' split) <;> omega)
set_option maxHeartbeats 4000000 in
theorem m_byteAt {k : Int} (hk : 0 ≤ k) (ht : h 82 12 ≤ 240) : CallR G l d 122 [vR 82, vI k] h (fun r h' => r = some (vI (if k < h 82 12 then h 89 k.toNat else -1)) ∧ h' = h) := by
  refine in122 [] 40 fun _ hO => ?_
  simp only [c122, rlA, KF_s, KF_0, elN_n, elN_c, cond_false, cond_true, Int.reduceToNat, lk_c, lk_n, sw_c, sw_n, List.getD_cons_zero, List.getD_cons_succ, fv_0, fv_1, fv_2, fv_r, pf_0, pf_2, Option.toList_some, Option.toList_none, List.cons_append, List.nil_append, stK_n, stK_i, stK_r, true_and, and_true, true_or, or_true, List.length_nil, List.length_cons, Nat.zero_add, Nat.reduceAdd, Nat.reduceLeDiff, bi_0, bi_1, bi_01, cmp64_0, cmp64_lt, cmp64_gt, hu_ap, Decidable.not_not, Int.reduceAdd, Int.reduceNeg, Int.toNat_natCast, Int.toNat_zero, Int.toNat_one, List.append_nil, reduceCtorEq, Nat.reduceEqDiff, Nat.reduceBEq, Bool.or_false, Bool.false_or, Bool.true_or, some_vI, Int.le_refl, Nat.le_refl, false_or, or_false, Int.reduceLE, Int.reduceLT, Int.reduceEq, Int.zero_le_ofNat, and_self, if_true, if_false, false_and, and_false, not_true_eq_false, not_false_eq_true, false_implies, forall_const, shA]
  repeat' first | intro _ | with_reducible apply And.intro
  all_goals first | trivial | rfl | omega | ((repeat' split) <;> first | rfl | trivial | omega | (exfalso; omega)) | (simp only [bi]; (repeat' split) <;> omega)
set_option maxHeartbeats 4000000 in
theorem m_isWord {w : Int} : CallR G l d 126 [vR 82, vL w] h (fun r h' => r = some (vI (bi (h 82 13 = 1 ∧ h 82 16 = w))) ∧ h' = h) := by
  refine in126 [] 40 fun _ hO => ?_
  simp only [c126, rlA, KF_s, KF_0, elN_n, elN_c, cond_false, cond_true, Int.reduceToNat, lk_c, lk_n, sw_c, sw_n, List.getD_cons_zero, List.getD_cons_succ, fv_0, fv_1, fv_2, fv_r, pf_0, pf_2, Option.toList_some, Option.toList_none, List.cons_append, List.nil_append, stK_n, stK_i, stK_r, true_and, and_true, true_or, or_true, List.length_nil, List.length_cons, Nat.zero_add, Nat.reduceAdd, Nat.reduceLeDiff, bi_0, bi_1, bi_01, cmp64_0, cmp64_lt, cmp64_gt, hu_ap, Decidable.not_not, Int.reduceAdd, Int.reduceNeg, Int.toNat_natCast, Int.toNat_zero, Int.toNat_one, List.append_nil, reduceCtorEq, Nat.reduceEqDiff, Nat.reduceBEq, Bool.or_false, Bool.false_or, Bool.true_or, some_vI, Int.le_refl, Nat.le_refl, false_or, or_false, Int.reduceLE, Int.reduceLT, Int.reduceEq, Int.zero_le_ofNat, and_self, if_true, if_false, false_and, and_false, not_true_eq_false, not_false_eq_true, false_implies, forall_const, shA]
  repeat' first | intro _ | with_reducible apply And.intro
  all_goals first | trivial | rfl | omega | ((repeat' split) <;> first | rfl | trivial | omega | (exfalso; omega)) | (simp only [bi]; (repeat' split) <;> omega)
set_option maxHeartbeats 4000000 in
theorem m_isMark {w : Int} : CallR G l d 127 [vR 82, vI w] h (fun r h' => r = some (vI (bi (h 82 13 = 3 ∧ h 82 17 = w))) ∧ h' = h) := by
  refine in127 [] 40 fun _ hO => ?_
  simp only [c127, rlA, KF_s, KF_0, elN_n, elN_c, cond_false, cond_true, Int.reduceToNat, lk_c, lk_n, sw_c, sw_n, List.getD_cons_zero, List.getD_cons_succ, fv_0, fv_1, fv_2, fv_r, pf_0, pf_2, Option.toList_some, Option.toList_none, List.cons_append, List.nil_append, stK_n, stK_i, stK_r, true_and, and_true, true_or, or_true, List.length_nil, List.length_cons, Nat.zero_add, Nat.reduceAdd, Nat.reduceLeDiff, bi_0, bi_1, bi_01, cmp64_0, cmp64_lt, cmp64_gt, hu_ap, Decidable.not_not, Int.reduceAdd, Int.reduceNeg, Int.toNat_natCast, Int.toNat_zero, Int.toNat_one, List.append_nil, reduceCtorEq, Nat.reduceEqDiff, Nat.reduceBEq, Bool.or_false, Bool.false_or, Bool.true_or, some_vI, Int.le_refl, Nat.le_refl, false_or, or_false, Int.reduceLE, Int.reduceLT, Int.reduceEq, Int.zero_le_ofNat, and_self, if_true, if_false, false_and, and_false, not_true_eq_false, not_false_eq_true, false_implies, forall_const, shA]
  repeat' first | intro _ | with_reducible apply And.intro
  all_goals first | trivial | rfl | omega | ((repeat' split) <;> first | rfl | trivial | omega | (exfalso; omega)) | (simp only [bi]; (repeat' split) <;> omega)
def isW (h : AH) (w : Int) : Prop := h 82 13 = 1 ∧ h 82 16 = w
def kindM (h : AH) : Int := if h 82 13 = 1 ∧ h 82 16 = 1834661 then 0 else if h 82 13 = 1 ∧ h 82 16 = 177237549 then 1 else if h 82 13 = 1 ∧ h 82 16 = 269726508 then 2 else if h 82 13 = 1 ∧ h 82 16 = 1758489 then 3 else if h 82 13 = 1 ∧ h 82 16 = 237923154 then 4 else if h 82 13 = 1 ∧ h 82 16 = 1888 then 5 else -1
set_option maxHeartbeats 4000000 in
theorem m_kindHere  (hd : 1 ≤ d) : CallR G l d 128 [vR 82] h (fun r h' => r = some (vI (kindM h)) ∧ h' = h) := by
  refine in128 [] 40 fun  hO => ?_
  simp only [c128, rlA, KF_s, KF_0, elN_n, elN_c, cond_false, cond_true, Int.reduceToNat, lk_c, lk_n, sw_c, sw_n, List.getD_cons_zero, List.getD_cons_succ, fv_0, fv_1, fv_2, fv_r, pf_0, pf_2, Option.toList_some, Option.toList_none, List.cons_append, List.nil_append, stK_n, stK_i, stK_r, true_and, and_true, true_or, or_true, List.length_nil, List.length_cons, Nat.zero_add, Nat.reduceAdd, Nat.reduceLeDiff, bi_0, bi_1, bi_01, cmp64_0, cmp64_lt, cmp64_gt, hu_ap, Decidable.not_not, Int.reduceAdd, Int.reduceNeg, Int.toNat_natCast, Int.toNat_zero, Int.toNat_one, List.append_nil, reduceCtorEq, Nat.reduceEqDiff, Nat.reduceBEq, Bool.or_false, Bool.false_or, Bool.true_or, some_vI, Int.le_refl, Nat.le_refl, false_or, or_false, Int.reduceLE, Int.reduceLT, Int.reduceEq, Int.zero_le_ofNat, and_self, if_true, if_false, false_and, and_false, not_true_eq_false, not_false_eq_true, false_implies, forall_const, shA]
  repeat' first | intro _ | (refine call_of (d' := d - 1) (by omega) (m_isWord) ?_) | simp only [c128, rlA, KF_s, KF_0, elN_n, elN_c, cond_false, cond_true, Int.reduceToNat, lk_c, lk_n, sw_c, sw_n, List.getD_cons_zero, List.getD_cons_succ, fv_0, fv_1, fv_2, fv_r, pf_0, pf_2, Option.toList_some, Option.toList_none, List.cons_append, List.nil_append, stK_n, stK_i, stK_r, true_and, and_true, true_or, or_true, List.length_nil, List.length_cons, Nat.zero_add, Nat.reduceAdd, Nat.reduceLeDiff, bi_0, bi_1, bi_01, cmp64_0, cmp64_lt, cmp64_gt, hu_ap, Decidable.not_not, Int.reduceAdd, Int.reduceNeg, Int.toNat_natCast, Int.toNat_zero, Int.toNat_one, List.append_nil, reduceCtorEq, Nat.reduceEqDiff, Nat.reduceBEq, Bool.or_false, Bool.false_or, Bool.true_or, some_vI, Int.le_refl, Nat.le_refl, false_or, or_false, Int.reduceLE, Int.reduceLT, Int.reduceEq, Int.zero_le_ofNat, and_self, if_true, if_false, false_and, and_false, not_true_eq_false, not_false_eq_true, false_implies, forall_const, shA] | with_reducible apply And.intro
  all_goals first | trivial | rfl | omega | (unfold kindM; (repeat' split) <;> first | rfl | trivial | omega | (exfalso; omega)) | (simp only [bi]; (repeat' split) <;> omega)
set_option maxHeartbeats 4000000 in
theorem m_room {v : Int} (hd : 1 ≤ d) : CallR G l d 137 [vR 82, vI v] h (fun r h' => r = some (vI (if 1 ≤ v ∧ v ≤ 9 then h 82 0 else -1)) ∧ h' = (if 1 ≤ v ∧ v ≤ 9 then hu h 82 0 v else h)) := by
  refine in137 [] 40 fun _ hO => ?_
  simp only [c137, rlA, KF_s, KF_0, elN_n, elN_c, cond_false, cond_true, Int.reduceToNat, lk_c, lk_n, sw_c, sw_n, List.getD_cons_zero, List.getD_cons_succ, fv_0, fv_1, fv_2, fv_r, pf_0, pf_2, Option.toList_some, Option.toList_none, List.cons_append, List.nil_append, stK_n, stK_i, stK_r, true_and, and_true, true_or, or_true, List.length_nil, List.length_cons, Nat.zero_add, Nat.reduceAdd, Nat.reduceLeDiff, bi_0, bi_1, bi_01, cmp64_0, cmp64_lt, cmp64_gt, hu_ap, Decidable.not_not, Int.reduceAdd, Int.reduceNeg, Int.toNat_natCast, Int.toNat_zero, Int.toNat_one, List.append_nil, reduceCtorEq, Nat.reduceEqDiff, Nat.reduceBEq, Bool.or_false, Bool.false_or, Bool.true_or, some_vI, Int.le_refl, Nat.le_refl, false_or, or_false, Int.reduceLE, Int.reduceLT, Int.reduceEq, Int.zero_le_ofNat, and_self, if_true, if_false, false_and, and_false, not_true_eq_false, not_false_eq_true, false_implies, forall_const, shA]
  repeat' first | intro _ | (refine call_of (d' := d - 1) (by omega) (m_in) ?_) | simp only [c137, rlA, KF_s, KF_0, elN_n, elN_c, cond_false, cond_true, Int.reduceToNat, lk_c, lk_n, sw_c, sw_n, List.getD_cons_zero, List.getD_cons_succ, fv_0, fv_1, fv_2, fv_r, pf_0, pf_2, Option.toList_some, Option.toList_none, List.cons_append, List.nil_append, stK_n, stK_i, stK_r, true_and, and_true, true_or, or_true, List.length_nil, List.length_cons, Nat.zero_add, Nat.reduceAdd, Nat.reduceLeDiff, bi_0, bi_1, bi_01, cmp64_0, cmp64_lt, cmp64_gt, hu_ap, Decidable.not_not, Int.reduceAdd, Int.reduceNeg, Int.toNat_natCast, Int.toNat_zero, Int.toNat_one, List.append_nil, reduceCtorEq, Nat.reduceEqDiff, Nat.reduceBEq, Bool.or_false, Bool.false_or, Bool.true_or, some_vI, Int.le_refl, Nat.le_refl, false_or, or_false, Int.reduceLE, Int.reduceLT, Int.reduceEq, Int.zero_le_ofNat, and_self, if_true, if_false, false_and, and_false, not_true_eq_false, not_false_eq_true, false_implies, forall_const, shA] | with_reducible apply And.intro
  all_goals first | trivial | rfl | omega | ((repeat' split) <;> first | rfl | trivial | omega | (exfalso; omega)) | (simp only [bi]; (repeat' split) <;> omega)
def addHatM (h : AH) (f a n : Int) : AH := hu (hu (hu (hu h 83 (h 82 1).toNat f) 84 (h 82 1).toNat a) 85 (h 82 1).toNat n) 82 1 (h 82 1 + 1)
set_option maxHeartbeats 4000000 in
theorem m_addHat {f a n : Int} (hH : 0 ≤ h 82 1 ∧ h 82 1 ≤ 4) : CallR G l d 138 [vR 82, vI f, vI a, vI n] h (fun r h' => r = none ∧ h' = (addHatM h f a n)) := by
  refine in138 [] 40 fun _ _ _ hO => ?_
  have e1 : w32 (h 82 1 + 1) = h 82 1 + 1 := w32_id (by omega) (by omega)
  simp only [c138, rlA, KF_s, KF_0, elN_n, elN_c, cond_false, cond_true, Int.reduceToNat, lk_c, lk_n, sw_c, sw_n, List.getD_cons_zero, List.getD_cons_succ, fv_0, fv_1, fv_2, fv_r, pf_0, pf_2, Option.toList_some, Option.toList_none, List.cons_append, List.nil_append, stK_n, stK_i, stK_r, true_and, and_true, true_or, or_true, List.length_nil, List.length_cons, Nat.zero_add, Nat.reduceAdd, Nat.reduceLeDiff, bi_0, bi_1, bi_01, cmp64_0, cmp64_lt, cmp64_gt, hu_ap, Decidable.not_not, Int.reduceAdd, Int.reduceNeg, Int.toNat_natCast, Int.toNat_zero, Int.toNat_one, List.append_nil, reduceCtorEq, Nat.reduceEqDiff, Nat.reduceBEq, Bool.or_false, Bool.false_or, Bool.true_or, some_vI, Int.le_refl, Nat.le_refl, false_or, or_false, Int.reduceLE, Int.reduceLT, Int.reduceEq, Int.zero_le_ofNat, and_self, if_true, if_false, false_and, and_false, not_true_eq_false, not_false_eq_true, false_implies, forall_const, shA, e1]
  repeat' first | intro _ | with_reducible apply And.intro
  all_goals first | trivial | rfl | omega | ((repeat' split) <;> first | rfl | trivial | omega | (exfalso; omega)) | (simp only [bi]; (repeat' split) <;> omega)
set_option maxHeartbeats 4000000 in
theorem m_hat {f a n : Int} (hH : 0 ≤ h 82 1 ∧ h 82 1 ≤ 4) (hd : 2 ≤ d) : CallR G l d 139 [vR 82, vI f, vI a, vI n] h (fun r h' => r = some (vI (if (0 ≤ f ∧ f ≤ 8) ∧ (0 ≤ a ∧ a ≤ 99) ∧ (1 ≤ n ∧ n ≤ 30) then (if h 82 1 = 4 then -2 else h 82 1 + 1) else -1)) ∧ h' = (if (0 ≤ f ∧ f ≤ 8) ∧ (0 ≤ a ∧ a ≤ 99) ∧ (1 ≤ n ∧ n ≤ 30) ∧ ¬ h 82 1 = 4 then addHatM h f a n else h)) := by
  refine in139 [] 40 fun _ _ _ hO => ?_
  simp only [c139, rlA, KF_s, KF_0, elN_n, elN_c, cond_false, cond_true, Int.reduceToNat, lk_c, lk_n, sw_c, sw_n, List.getD_cons_zero, List.getD_cons_succ, fv_0, fv_1, fv_2, fv_r, pf_0, pf_2, Option.toList_some, Option.toList_none, List.cons_append, List.nil_append, stK_n, stK_i, stK_r, true_and, and_true, true_or, or_true, List.length_nil, List.length_cons, Nat.zero_add, Nat.reduceAdd, Nat.reduceLeDiff, bi_0, bi_1, bi_01, cmp64_0, cmp64_lt, cmp64_gt, hu_ap, Decidable.not_not, Int.reduceAdd, Int.reduceNeg, Int.toNat_natCast, Int.toNat_zero, Int.toNat_one, List.append_nil, reduceCtorEq, Nat.reduceEqDiff, Nat.reduceBEq, Bool.or_false, Bool.false_or, Bool.true_or, some_vI, Int.le_refl, Nat.le_refl, false_or, or_false, Int.reduceLE, Int.reduceLT, Int.reduceEq, Int.zero_le_ofNat, and_self, if_true, if_false, false_and, and_false, not_true_eq_false, not_false_eq_true, false_implies, forall_const, shA]
  repeat' first | intro _ | (refine call_of (d' := d - 1) (by omega) (m_in) ?_) | (refine call_of (d' := d - 1) (by omega) (m_isFlight (by omega)) ?_) | (refine call_of (d' := d - 1) (by omega) (m_isStart (by omega)) ?_) | (refine call_of (d' := d - 1) (by omega) (m_addHat hH) ?_) | simp only [c139, rlA, KF_s, KF_0, elN_n, elN_c, cond_false, cond_true, Int.reduceToNat, lk_c, lk_n, sw_c, sw_n, List.getD_cons_zero, List.getD_cons_succ, fv_0, fv_1, fv_2, fv_r, pf_0, pf_2, Option.toList_some, Option.toList_none, List.cons_append, List.nil_append, stK_n, stK_i, stK_r, true_and, and_true, true_or, or_true, List.length_nil, List.length_cons, Nat.zero_add, Nat.reduceAdd, Nat.reduceLeDiff, bi_0, bi_1, bi_01, cmp64_0, cmp64_lt, cmp64_gt, hu_ap, Decidable.not_not, Int.reduceAdd, Int.reduceNeg, Int.toNat_natCast, Int.toNat_zero, Int.toNat_one, List.append_nil, reduceCtorEq, Nat.reduceEqDiff, Nat.reduceBEq, Bool.or_false, Bool.false_or, Bool.true_or, some_vI, Int.le_refl, Nat.le_refl, false_or, or_false, Int.reduceLE, Int.reduceLT, Int.reduceEq, Int.zero_le_ofNat, and_self, if_true, if_false, false_and, and_false, not_true_eq_false, not_false_eq_true, false_implies, forall_const, shA] | with_reducible apply And.intro
  all_goals first | trivial | rfl | omega | (unfold addHatM; (repeat' split) <;> first | rfl | trivial | omega | (exfalso; omega)) | (simp only [bi]; (repeat' split) <;> omega)
set_option maxHeartbeats 4000000 in
theorem m_takes {p : Int} (hp : 0 ≤ p ∧ p < 8) : CallR G l d 144 [vR 82, vI p] h (fun r h' => r = some (vI (takesF (h 86 p.toNat) (h 87 p.toNat))) ∧ h' = h) := by
  refine in144 [] 40 fun _ hO => ?_
  simp only [c144, rlA, KF_s, KF_0, elN_n, elN_c, cond_false, cond_true, Int.reduceToNat, lk_c, lk_n, sw_c, sw_n, List.getD_cons_zero, List.getD_cons_succ, fv_0, fv_1, fv_2, fv_r, pf_0, pf_2, Option.toList_some, Option.toList_none, List.cons_append, List.nil_append, stK_n, stK_i, stK_r, true_and, and_true, true_or, or_true, List.length_nil, List.length_cons, Nat.zero_add, Nat.reduceAdd, Nat.reduceLeDiff, bi_0, bi_1, bi_01, cmp64_0, cmp64_lt, cmp64_gt, hu_ap, Decidable.not_not, Int.reduceAdd, Int.reduceNeg, Int.toNat_natCast, Int.toNat_zero, Int.toNat_one, List.append_nil, reduceCtorEq, Nat.reduceEqDiff, Nat.reduceBEq, Bool.or_false, Bool.false_or, Bool.true_or, some_vI, Int.le_refl, Nat.le_refl, false_or, or_false, Int.reduceLE, Int.reduceLT, Int.reduceEq, Int.zero_le_ofNat, and_self, if_true, if_false, false_and, and_false, not_true_eq_false, not_false_eq_true, false_implies, forall_const, shA]
  repeat' first | intro _ | with_reducible apply And.intro
  all_goals first | trivial | rfl | omega | (unfold takesF; (repeat' split) <;> first | rfl | trivial | omega | (exfalso; omega)) | (simp only [bi]; (repeat' split) <;> omega)
set_option maxHeartbeats 4000000 in
theorem m_rank {p : Int} (hp : 0 ≤ p ∧ p < 8) : CallR G l d 145 [vR 82, vI p] h (fun r h' => r = some (vI (rankF (h 86 p.toNat) (h 87 p.toNat))) ∧ h' = h) := by
  refine in145 [] 40 fun _ hO => ?_
  simp only [c145, rlA, KF_s, KF_0, elN_n, elN_c, cond_false, cond_true, Int.reduceToNat, lk_c, lk_n, sw_c, sw_n, List.getD_cons_zero, List.getD_cons_succ, fv_0, fv_1, fv_2, fv_r, pf_0, pf_2, Option.toList_some, Option.toList_none, List.cons_append, List.nil_append, stK_n, stK_i, stK_r, true_and, and_true, true_or, or_true, List.length_nil, List.length_cons, Nat.zero_add, Nat.reduceAdd, Nat.reduceLeDiff, bi_0, bi_1, bi_01, cmp64_0, cmp64_lt, cmp64_gt, hu_ap, Decidable.not_not, Int.reduceAdd, Int.reduceNeg, Int.toNat_natCast, Int.toNat_zero, Int.toNat_one, List.append_nil, reduceCtorEq, Nat.reduceEqDiff, Nat.reduceBEq, Bool.or_false, Bool.false_or, Bool.true_or, some_vI, Int.le_refl, Nat.le_refl, false_or, or_false, Int.reduceLE, Int.reduceLT, Int.reduceEq, Int.zero_le_ofNat, and_self, if_true, if_false, false_and, and_false, not_true_eq_false, not_false_eq_true, false_implies, forall_const, shA]
  repeat' first | intro _ | with_reducible apply And.intro
  all_goals first | trivial | rfl | omega | (unfold rankF; (repeat' split) <;> first | rfl | trivial | omega | (exfalso; omega)) | (simp only [bi]; (repeat' split) <;> omega)
set_option maxHeartbeats 4000000 in
theorem m_orNot {v : Int} : CallR G l d 146 [vI v] h (fun r h' => r = some (vI (if v < 0 then -9 else v)) ∧ h' = h) := by
  refine in146 [] 40 fun _ hO => ?_
  simp only [c146, rlA, KF_s, KF_0, elN_n, elN_c, cond_false, cond_true, Int.reduceToNat, lk_c, lk_n, sw_c, sw_n, List.getD_cons_zero, List.getD_cons_succ, fv_0, fv_1, fv_2, fv_r, pf_0, pf_2, Option.toList_some, Option.toList_none, List.cons_append, List.nil_append, stK_n, stK_i, stK_r, true_and, and_true, true_or, or_true, List.length_nil, List.length_cons, Nat.zero_add, Nat.reduceAdd, Nat.reduceLeDiff, bi_0, bi_1, bi_01, cmp64_0, cmp64_lt, cmp64_gt, hu_ap, Decidable.not_not, Int.reduceAdd, Int.reduceNeg, Int.toNat_natCast, Int.toNat_zero, Int.toNat_one, List.append_nil, reduceCtorEq, Nat.reduceEqDiff, Nat.reduceBEq, Bool.or_false, Bool.false_or, Bool.true_or, some_vI, Int.le_refl, Nat.le_refl, false_or, or_false, Int.reduceLE, Int.reduceLT, Int.reduceEq, Int.zero_le_ofNat, and_self, if_true, if_false, false_and, and_false, not_true_eq_false, not_false_eq_true, false_implies, forall_const, shA]
  repeat' first | intro _ | with_reducible apply And.intro
  all_goals first | trivial | rfl | omega | ((repeat' split) <;> first | rfl | trivial | omega | (exfalso; omega)) | (simp only [bi]; (repeat' split) <;> omega)
set_option maxHeartbeats 4000000 in
theorem m_minute  : CallR G l d 152 [vR 82] h (fun r h' => r = some (vI (h 88 0)) ∧ h' = h) := by
  refine in152 [] 40 fun  hO => ?_
  simp only [c152, rlA, KF_s, KF_0, elN_n, elN_c, cond_false, cond_true, Int.reduceToNat, lk_c, lk_n, sw_c, sw_n, List.getD_cons_zero, List.getD_cons_succ, fv_0, fv_1, fv_2, fv_r, pf_0, pf_2, Option.toList_some, Option.toList_none, List.cons_append, List.nil_append, stK_n, stK_i, stK_r, true_and, and_true, true_or, or_true, List.length_nil, List.length_cons, Nat.zero_add, Nat.reduceAdd, Nat.reduceLeDiff, bi_0, bi_1, bi_01, cmp64_0, cmp64_lt, cmp64_gt, hu_ap, Decidable.not_not, Int.reduceAdd, Int.reduceNeg, Int.toNat_natCast, Int.toNat_zero, Int.toNat_one, List.append_nil, reduceCtorEq, Nat.reduceEqDiff, Nat.reduceBEq, Bool.or_false, Bool.false_or, Bool.true_or, some_vI, Int.le_refl, Nat.le_refl, false_or, or_false, Int.reduceLE, Int.reduceLT, Int.reduceEq, Int.zero_le_ofNat, and_self, if_true, if_false, false_and, and_false, not_true_eq_false, not_false_eq_true, false_implies, forall_const, shA]
  repeat' first | intro _ | with_reducible apply And.intro
  all_goals first | trivial | rfl | omega | ((repeat' split) <;> first | rfl | trivial | omega | (exfalso; omega)) | (simp only [bi]; (repeat' split) <;> omega)
set_option maxHeartbeats 4000000 in
theorem m_clock {v : Int} (hd : 1 ≤ d) : CallR G l d 160 [vR 82, vI v] h (fun r h' => r = some (vI (if 0 ≤ v ∧ v ≤ 120 then h 88 0 else -1)) ∧ h' = (if 0 ≤ v ∧ v ≤ 120 then hu h 88 0 v else h)) := by
  refine in160 [] 40 fun _ hO => ?_
  simp only [c160, rlA, KF_s, KF_0, elN_n, elN_c, cond_false, cond_true, Int.reduceToNat, lk_c, lk_n, sw_c, sw_n, List.getD_cons_zero, List.getD_cons_succ, fv_0, fv_1, fv_2, fv_r, pf_0, pf_2, Option.toList_some, Option.toList_none, List.cons_append, List.nil_append, stK_n, stK_i, stK_r, true_and, and_true, true_or, or_true, List.length_nil, List.length_cons, Nat.zero_add, Nat.reduceAdd, Nat.reduceLeDiff, bi_0, bi_1, bi_01, cmp64_0, cmp64_lt, cmp64_gt, hu_ap, Decidable.not_not, Int.reduceAdd, Int.reduceNeg, Int.toNat_natCast, Int.toNat_zero, Int.toNat_one, List.append_nil, reduceCtorEq, Nat.reduceEqDiff, Nat.reduceBEq, Bool.or_false, Bool.false_or, Bool.true_or, some_vI, Int.le_refl, Nat.le_refl, false_or, or_false, Int.reduceLE, Int.reduceLT, Int.reduceEq, Int.zero_le_ofNat, and_self, if_true, if_false, false_and, and_false, not_true_eq_false, not_false_eq_true, false_implies, forall_const, shA]
  repeat' first | intro _ | (refine call_of (d' := d - 1) (by omega) (m_in) ?_) | simp only [c160, rlA, KF_s, KF_0, elN_n, elN_c, cond_false, cond_true, Int.reduceToNat, lk_c, lk_n, sw_c, sw_n, List.getD_cons_zero, List.getD_cons_succ, fv_0, fv_1, fv_2, fv_r, pf_0, pf_2, Option.toList_some, Option.toList_none, List.cons_append, List.nil_append, stK_n, stK_i, stK_r, true_and, and_true, true_or, or_true, List.length_nil, List.length_cons, Nat.zero_add, Nat.reduceAdd, Nat.reduceLeDiff, bi_0, bi_1, bi_01, cmp64_0, cmp64_lt, cmp64_gt, hu_ap, Decidable.not_not, Int.reduceAdd, Int.reduceNeg, Int.toNat_natCast, Int.toNat_zero, Int.toNat_one, List.append_nil, reduceCtorEq, Nat.reduceEqDiff, Nat.reduceBEq, Bool.or_false, Bool.false_or, Bool.true_or, some_vI, Int.le_refl, Nat.le_refl, false_or, or_false, Int.reduceLE, Int.reduceLT, Int.reduceEq, Int.zero_le_ofNat, and_self, if_true, if_false, false_and, and_false, not_true_eq_false, not_false_eq_true, false_implies, forall_const, shA] | with_reducible apply And.intro
  all_goals first | trivial | rfl | omega | ((repeat' split) <;> first | rfl | trivial | omega | (exfalso; omega)) | (simp only [bi]; (repeat' split) <;> omega)
set_option maxHeartbeats 4000000 in
theorem m_seed {v : Int} : CallR G l d 179 [vR 82, vI v] h (fun r h' => r = some (vI (h 82 10)) ∧ h' = (hu h 82 10 v)) := by
  refine in179 [] 40 fun _ hO => ?_
  simp only [c179, rlA, KF_s, KF_0, elN_n, elN_c, cond_false, cond_true, Int.reduceToNat, lk_c, lk_n, sw_c, sw_n, List.getD_cons_zero, List.getD_cons_succ, fv_0, fv_1, fv_2, fv_r, pf_0, pf_2, Option.toList_some, Option.toList_none, List.cons_append, List.nil_append, stK_n, stK_i, stK_r, true_and, and_true, true_or, or_true, List.length_nil, List.length_cons, Nat.zero_add, Nat.reduceAdd, Nat.reduceLeDiff, bi_0, bi_1, bi_01, cmp64_0, cmp64_lt, cmp64_gt, hu_ap, Decidable.not_not, Int.reduceAdd, Int.reduceNeg, Int.toNat_natCast, Int.toNat_zero, Int.toNat_one, List.append_nil, reduceCtorEq, Nat.reduceEqDiff, Nat.reduceBEq, Bool.or_false, Bool.false_or, Bool.true_or, some_vI, Int.le_refl, Nat.le_refl, false_or, or_false, Int.reduceLE, Int.reduceLT, Int.reduceEq, Int.zero_le_ofNat, and_self, if_true, if_false, false_and, and_false, not_true_eq_false, not_false_eq_true, false_implies, forall_const, shA]
  repeat' first | intro _ | with_reducible apply And.intro
  all_goals first | trivial | rfl | omega | ((repeat' split) <;> first | rfl | trivial | omega | (exfalso; omega)) | (simp only [bi]; (repeat' split) <;> omega)
end L2B
end
