section L4STR
variable {G : GD} {l : Launch} {d : Nat} {h : AH}
def CallY (G : GD) (l : Launch) (d : Nat) (y : MethodName) (cc : ByteArray) (n : Nat) (ret : Option FieldType) (as : List AV) (h : AH) (P : Option AV → AH → Prop) : Prop :=
  (∀ v ∈ as, avOk v) → Hok h → Met l y (.code y cc n ret :: wG) (rmD d) (PcG G as h) (QcG G P) 0 0 (AG G)
def CtxY (G : GD) (own : String) (cc : ByteArray) (n : Nat) (ret : Option FieldType) (p : Program) (s : State) (m : MethodId) (args : Array Value) (meth : Method) (c : Code) : Prop :=
  p.tables.exec = Jvm.exec ∧ c.code = cc ∧ meth.sig.returnType = ret ∧ c.maxLocals = n ∧ s.vm.findClass own = some m.cls ∧ (∀ w ∈ wG, w.before args s = true) ∧ meth.locks = false ∧ EnvG G s ∧ ExtG G s s.heap
theorem CallY.of {y : MethodName} {cc : ByteArray} {n : Nat} {ret : Option FieldType} {as : List AV} {P : Option AV → AH → Prop} (hpl : plainName y.cls = true) (hl : (lg_sl (as.map (rv G))).length ≤ n)
    (body : (∀ v ∈ as, avOk v) → ∀ (p : Program) (e : Env) (s : State) (m : MethodId) (args : Array Value) (below : List Frame) (meth : Method) (c : Code) (la : Array Slot), CtxY G y.cls cc n ret p s m args meth c → va_P G.1 vwCl (wsG G h) s.heap → Hok h → lv_has la n (lv_args 0 (as.map (rv G))) → W p l e (rmD d) s m args below meth c s.heap [] 0 0 (MQ below (QcG G P) args s 0 0 (AG G)) (F0 m 0 la [])) : CallY G l d y cc n ret as h P := by
  intro hv hO
  refine Met.ofW (cc := cc) (maxL := n) (ret := ret) hpl rfl ?_
  intro p e s m args below meth c s₁ B hml hp
  obtain ⟨rfl, hP, hO, hE, hX⟩ := hp
  have hts := atoms_spec (ws := .code y cc n ret :: wG) B.pre
  have hown : s.vm.findClass y.cls = some m.cls := findClass_of_methodNamed B.named
  have hent := lv_entry (as.map (rv G)) (n := n) hl
  rw [lg_entry_eq]
  generalize (lg_sl (as.map (rv G)) ++ List.replicate (n - (lg_sl (as.map (rv G))).length) Slot.unset).toArray = la at hent ⊢
  exact body hv p e s m _ below meth c la ⟨B.exec, B.bytes, B.returns, hml, hown, fun w hw => hts w (List.mem_cons_of_mem _ hw), B.notSynchronized, hE, hX⟩ hP hO hent
theorem goodY {y : MethodName} {cc : ByteArray} {n : Nat} {ret : Option FieldType} (hc : Cond.code y cc n ret ∈ wG) : GoodIn wG (.code y cc n ret :: wG) := by
  intro w hw
  have h1 : w ∈ wG := by
    rcases List.mem_cons.mp hw with rfl | h
    · exact hc
    · exact h
  exact ⟨h1, good_of_word (List.mem_filter.mp h1).2⟩
theorem yS {p : Program} {e : Env} {s : State} {m : MethodId} {args : Array Value} {below : List Frame} {meth : Method} {c : Code} {H : Heap} {locs : List Loc} {la : Array Slot} {own : String} {cc : ByteArray} {n : Nat} {ret : Option FieldType} {y : MethodName} {cy : ByteArray} {ny : Nat} {ry : Option FieldType} {as st : List AV} {x nn pc d' : Nat} {P : Option AV → AH → Prop} {QQ : State → Prop}
    (C : CtxY G own cc n ret p s m args meth c) (hS : va_S (AG G) s.heap H locs) (hP : va_P G.1 vwCl (wsG G h) H) (hO : Hok h) (hsz : la.size = n) (hok : ∀ v ∈ as, avOk v) (hc : CallY G l d' y cy ny ry as h P)
    (hw : Cond.code y cy ny ry ∈ lw_tbl ∧ Cond.initialized y.cls ∈ lw_tbl ∧ Cond.static y ∈ lw_tbl ∧ Cond.methodLink own x y ∈ lw_tbl) (hy : y.cls ≠ "java/lang/invoke/MethodHandle" ∧ y.cls ≠ "java/lang/invoke/VarHandle" ∧ npar y = some nn) (hlen : as.length = nn) (hmx : ny ≤ 20) (hd' : d' < d) (hl4 : st.length ≤ 4) (hdg : decode cc pc = .ok (.invokestatic x, 3))
    (kk : ∀ (r : Option AV) (h' : AH) (H1 : Heap) (locs1 : List Loc), P r h' → (∀ v, r = some v → avOk v) → va_P G.1 vwCl (wsG G h') H1 → Hok h' → va_S (AG G) s.heap H1 locs1 → W p l e (rmD d) s m args below meth c H1 locs1 0 0 QQ (F0 m (pc + 3) la ((r.map (rv G)).toList ++ st.map (rv G)))) : W p l e (rmD d) s m args below meth c H locs 0 0 QQ (F0 m pc la ((as.reverse ++ st).map (rv G))) := by
  obtain ⟨hx, hbb, -, hml, hown, hts, -, hE, hX⟩ := id C
  have hcat := cat_le G st
  have hstk : (F0 m pc la ((as.reverse ++ st).map (rv G))).stack = (as.map (rv G)).reverse ++ st.map (rv G) := by
    show (as.reverse ++ st).map (rv G) = _
    rw [List.map_append, List.map_reverse]
  exact callG (va_runS (Ts := wG) (nL := n) ⟨hx, hbb, hml, hown, hts⟩ (hc hok hO) ⟨callB_of nn hts (goodY (wG_of hw.1 rfl)) rfl rfl rfl (hts _ (wG_of hw.2.1 rfl)) (hts _ (wG_of hw.2.2.2 rfl)) hy (rmD_fit hd' hmx), hts _ (wG_of hw.2.2.1 rfl)⟩ ⟨PcG.blind, PcG.at hP hO hE hX hS⟩ rfl (by simpa using hlen) hsz hstk (lv_room (by omega)) hdg ⟨Nat.zero_le _, Nat.zero_le _⟩) hS kk
theorem yV {p : Program} {e : Env} {s : State} {m : MethodId} {args : Array Value} {below : List Frame} {meth : Method} {c : Code} {H : Heap} {locs : List Loc} {la : Array Slot} {own : String} {cc : ByteArray} {n : Nat} {ret : Option FieldType} {y : MethodName} {cy : ByteArray} {ny : Nat} {ry : Option FieldType} {as st : List AV} {x nn pc d' k : Nat} {P : Option AV → AH → Prop} {QQ : State → Prop}
    (C : CtxY G own cc n ret p s m args meth c) (hS : va_S (AG G) s.heap H locs) (hP : va_P G.1 vwCl (wsG G h) H) (hO : Hok h) (hsz : la.size = n) (hok : ∀ v ∈ vR k :: as, avOk v) (hc : CallY G l d' y cy ny ry (vR k :: as) h P)
    (hrecv : ∃ cellB : Cell, H[G.2.1 k]? = some cellB ∧ cellB.vm.isStatics = false ∧ s.vm.findClass y.cls = some cellB.cls)
    (hw : Cond.code y cy ny ry ∈ lw_tbl ∧ Cond.initialized y.cls ∈ lw_tbl ∧ Cond.instanceMethod y ∈ lw_tbl ∧ Cond.selects y.cls y y ∈ lw_tbl ∧ Cond.methodLink own x y ∈ lw_tbl) (hy : y.cls ≠ "java/lang/invoke/MethodHandle" ∧ y.cls ≠ "java/lang/invoke/VarHandle" ∧ npar y = some nn) (hlen : as.length = nn) (hmx : ny ≤ 20) (hd' : d' < d) (hl4 : st.length ≤ 4) (hdg : decode cc pc = .ok (.invokevirtual x, 3))
    (kk : ∀ (r : Option AV) (h' : AH) (H1 : Heap) (locs1 : List Loc), P r h' → (∀ v, r = some v → avOk v) → va_P G.1 vwCl (wsG G h') H1 → Hok h' → va_S (AG G) s.heap H1 locs1 → W p l e (rmD d) s m args below meth c H1 locs1 0 0 QQ (F0 m (pc + 3) la ((r.map (rv G)).toList ++ st.map (rv G)))) : W p l e (rmD d) s m args below meth c H locs 0 0 QQ (F0 m pc la ((as.reverse ++ vR k :: st).map (rv G))) := by
  obtain ⟨hx, hbb, -, hml, hown, hts, -, hE, hX⟩ := id C
  have hcat := cat_le G st
  have hstk : (F0 m pc la ((as.reverse ++ vR k :: st).map (rv G))).stack = (as.map (rv G)).reverse ++ Value.ref (G.2.1 k) :: st.map (rv G) := by
    show (as.reverse ++ vR k :: st).map (rv G) = _
    rw [List.map_append, List.map_reverse]
    rfl
  exact callG (va_runV (Ts := wG) (nL := n) (C := y.cls) (b := G.2.1 k) (As := as.map (rv G)) ⟨hx, hbb, hml, hown, hts⟩ (hc hok hO) ⟨callB_of nn hts (goodY (wG_of hw.1 rfl)) rfl rfl rfl (hts _ (wG_of hw.2.1 rfl)) (hts _ (wG_of hw.2.2.2.2 rfl)) hy (rmD_fit hd' hmx), hts _ (wG_of hw.2.2.1 rfl), hts _ (wG_of hw.2.2.2.1 rfl)⟩ ⟨PcG.blind, hrecv, fun U hU hW => PcG.at (as := vR k :: as) hP hO hE hX hS U hU hW⟩ rfl (by simpa using hlen) hsz hstk (lv_room (by omega)) hdg ⟨Nat.zero_le _, Nat.zero_le _⟩) hS kk
def jPre : MethodName := ⟨"jdk/internal/util/Preconditions", "checkIndex", "(IILjava/util/function/BiFunction;)I"⟩
def jChk : MethodName := ⟨"java/lang/String", "checkIndex", "(II)V"⟩
def jLat : MethodName := ⟨"java/lang/StringLatin1", "charAt", "([BI)C"⟩
def jCod : MethodName := ⟨"java/lang/String", "coder", "()B"⟩
def jIsL : MethodName := ⟨"java/lang/String", "isLatin1", "()Z"⟩
theorem jPre_d0 : decode prog_17_method_11_code 0 = .ok (.iload_n 0, 1) := by decide +kernel
theorem jPre_d1 : decode prog_17_method_11_code 1 = .ok (.ifCond .lt 8, 3) := by decide +kernel
theorem jPre_d4 : decode prog_17_method_11_code 4 = .ok (.iload_n 0, 1) := by decide +kernel
theorem jPre_d5 : decode prog_17_method_11_code 5 = .ok (.iload_n 1, 1) := by decide +kernel
theorem jPre_d6 : decode prog_17_method_11_code 6 = .ok (.if_icmp .lt 10, 3) := by decide +kernel
theorem jPre_d16 : decode prog_17_method_11_code 16 = .ok (.iload_n 0, 1) := by decide +kernel
theorem jPre_d17 : decode prog_17_method_11_code 17 = .ok (.ireturn, 1) := by decide +kernel
/-- the check of an index, whoever words its message -/
def PcF (G : GD) (a b : Int) (fm : Value) (h : AH) : Array Value → State → Prop := va_Pc [.int (Int32.ofInt a), .int (Int32.ofInt b), fm] (fun U => va_P G.1 vwCl (wsG G h) U.heap ∧ Hok h ∧ EnvG G U ∧ ExtG G U U.heap)
theorem PcF.blind {a b : Int} {fm : Value} : FrameBlind (PcF G a b fm h) := by
  intro av U g mk q
  obtain ⟨q0, qP, qO, qE, qX⟩ := q
  exact ⟨q0, qP, qO, EnvG.same (u := U) (U := U.calling g mk av) rfl qE, ExtG.moved (u := U) (U := U.calling g mk av) (Vm.Alike.refl U.vm) qX⟩
theorem y_pre {a b : Int} {fm : Value} (hfm : fm = .null ∨ ∃ t : Nat, fm = .ref t) (ha : R32 a) (hb : R32 b) (hab : 0 ≤ a ∧ a < b) : Met l jPre (.code jPre prog_17_method_11_code 3 (some .int) :: wG) (rmD d) (PcF G a b fm h) (QcG G (fun r h' => r = some (vI a) ∧ h' = h)) 0 0 (AG G) := by
  refine Met.ofW (cc := prog_17_method_11_code) (maxL := 3) (ret := some .int) (by decide) rfl ?_
  intro p e s m args below meth c s₁ B hml hp
  obtain ⟨rfl, hP, hO, hE, hX⟩ := hp
  have hx := B.exec
  have hbb := B.bytes
  have hlen : (lg_sl [Value.int (Int32.ofInt a), Value.int (Int32.ofInt b), fm]).length ≤ 3 := by
    rcases hfm with rfl | ⟨t, rfl⟩
    · exact Nat.le_refl 3
    · exact Nat.le_refl 3
  have hl := lv_entry [Value.int (Int32.ofInt a), Value.int (Int32.ofInt b), fm] (n := 3) hlen
  rw [lg_entry_eq]
  generalize (lg_sl [Value.int (Int32.ofInt a), Value.int (Int32.ofInt b), fm] ++ List.replicate (3 - (lg_sl [Value.int (Int32.ofInt a), Value.int (Int32.ofInt b), fm]).length) Slot.unset).toArray = la at hl ⊢
  have l0 : la[0]? = some (.val (.int (Int32.ofInt a))) := lv_at hl 0 rfl
  have l1 : la[1]? = some (.val (.int (Int32.ofInt b))) := lv_at hl 1 rfl
  refine lv_iload_n hx hbb jPre_d0 rfl l0 ?_
  refine lv_if_lt hx hbb jPre_d1 (tgt := 9) rfl (fun hc => ?_) (fun hc => ?_)
  · exfalso
    rw [zero32, lt32 ha r32_0] at hc
    omega
  refine lv_iload_n hx hbb jPre_d4 rfl l0 ?_
  refine lv_iload_n hx hbb jPre_d5 rfl l1 ?_
  refine lv_icmp_lt hx hbb jPre_d6 (tgt := 16) rfl (fun hc => ?_) (fun hc => ?_)
  · refine lv_iload_n hx hbb jPre_d16 rfl l0 ?_
    exact W.iret (v := Int32.ofInt a) hx hbb B.returns (fun t ht hW => ⟨⟨some (vI a), h, rfl, ⟨rfl, rfl⟩, fun v hv2 => by cases hv2; exact ha, by rw [ht]; exact hP, hO⟩, va_S.rf.F ht⟩) (fun q hq => by cases hq) jPre_d17 B.notSynchronized
  · exfalso
    rw [lt32 ha hb] at hc
    omega
theorem jChk_d0 : decode prog_13_method_155_code 0 = .ok (.iload_n 0, 1) := by decide +kernel
theorem jChk_d1 : decode prog_13_method_155_code 1 = .ok (.iload_n 1, 1) := by decide +kernel
theorem jChk_d2 : decode prog_13_method_155_code 2 = .ok (.getstatic 1053, 3) := by decide +kernel
theorem jChk_d5 : decode prog_13_method_155_code 5 = .ok (.invokestatic 1059, 3) := by decide +kernel
theorem jChk_d8 : decode prog_13_method_155_code 8 = .ok (.pop, 1) := by decide +kernel
theorem jChk_d9 : decode prog_13_method_155_code 9 = .ok (.return_, 1) := by decide +kernel
theorem jChk_w : Cond.fieldLink "java/lang/String" 1053 "jdk/internal/util/Preconditions" "SIOOBE_FORMATTER" "Ljava/util/function/BiFunction;" ∈ lw_tbl := by decide +kernel
theorem jPre_w : Cond.code jPre prog_17_method_11_code 3 (some .int) ∈ lw_tbl ∧ Cond.initialized jPre.cls ∈ lw_tbl ∧ Cond.static jPre ∈ lw_tbl ∧ Cond.methodLink "java/lang/String" 1059 jPre ∈ lw_tbl := by decide +kernel
theorem y_chk {a b : Int} (hab : 0 ≤ a ∧ a < b) (hd : 1 ≤ d) : CallY G l d jChk prog_13_method_155_code 2 none [vI a, vI b] h (fun r h' => r = none ∧ h' = h) := by
  refine CallY.of (by decide) (Nat.le_refl 2) ?_
  intro hv p e s m args below meth c la C hP hO hl
  have ha : R32 a := hv (vI a) (by simp)
  have hb : R32 b := hv (vI b) (by simp)
  have l0 : la[0]? = some (.val (.int (Int32.ofInt a))) := lv_at hl 0 rfl
  have l1 : la[1]? = some (.val (.int (Int32.ofInt b))) := lv_at hl 1 rfl
  refine lv_iload_n C.1 C.2.1 jChk_d0 rfl l0 ?_
  refine lv_iload_n C.1 C.2.1 jChk_d1 rfl l1 ?_
  have key : ∀ fm : Value, (fm = .null ∨ ∃ t : Nat, fm = .ref t) → va_Z "jdk/internal/util/Preconditions" "SIOOBE_FORMATTER" "Ljava/util/function/BiFunction;" fm (AG G) s s.heap → W p l e (rmD d) s m args below meth c s.heap [] 0 0 (MQ below (QcG G (fun r h' => r = none ∧ h' = h)) args s 0 0 (AG G)) (F0 m 2 la [.int (Int32.ofInt b), .int (Int32.ofInt a)]) := by
    intro fm hfm hz
    obtain ⟨hx, hbb, hret, hml, hown, hts, hlk, hE, hX⟩ := id C
    refine va_gets hx hbb hz va_S.rf hown (hts _ (wG_of jChk_w rfl)) (fun y hy => hy) jChk_d2 ?_
    refine callG (va_runS (Ts := wG) (nL := 2) (As := [.int (Int32.ofInt a), .int (Int32.ofInt b), fm]) (rest := []) ⟨hx, hbb, hml, hown, hts⟩ (y_pre (d := d - 1) hfm ha hb hab) ⟨callB_of 3 hts (goodY (wG_of jPre_w.1 rfl)) rfl rfl rfl (hts _ (wG_of jPre_w.2.1 rfl)) (hts _ (wG_of jPre_w.2.2.2 rfl)) ⟨by decide, by decide, by decide +kernel⟩ (rmD_fit (by omega) (by omega)), hts _ (wG_of jPre_w.2.2.1 rfl)⟩ ⟨PcF.blind, fun U hU hW => ⟨rfl, by rw [hU]; exact hP, hO, hE.warm hW, by rw [hU]; exact hX.moved hW.alike⟩⟩ rfl rfl hl.1 rfl (lv_room (Nat.zero_le _)) jChk_d5 ⟨Nat.zero_le _, Nat.zero_le _⟩) va_S.rf ?_
    intro r h' H1 locs1 hp hr hP1 hO1 hS1
    obtain ⟨rfl, rfl⟩ := hp
    refine lv_pop hx hbb jChk_d8 rfl ?_
    exact W.vret hx hbb hret (fun t ht hW => ⟨⟨none, h', rfl, ⟨rfl, rfl⟩, fun v hv2 => (by cases hv2), by rw [ht]; exact hP1, hO1⟩, hS1.F ht⟩) hS1.2.2 jChk_d9 hlk
  rcases C.2.2.2.2.2.2.2.2.2.2.2.2 with hz | ⟨t, hz⟩
  · exact key .null (Or.inl rfl) hz
  · exact key (.ref t) (Or.inr ⟨t, rfl⟩) hz
theorem jLat_d0 : decode prog_14_method_2_code 0 = .ok (.iload_n 1, 1) := by decide +kernel
theorem jLat_d1 : decode prog_14_method_2_code 1 = .ok (.aload_n 0, 1) := by decide +kernel
theorem jLat_d2 : decode prog_14_method_2_code 2 = .ok (.arraylength, 1) := by decide +kernel
theorem jLat_d3 : decode prog_14_method_2_code 3 = .ok (.invokestatic 9, 3) := by decide +kernel
theorem jLat_d6 : decode prog_14_method_2_code 6 = .ok (.aload_n 0, 1) := by decide +kernel
theorem jLat_d7 : decode prog_14_method_2_code 7 = .ok (.iload_n 1, 1) := by decide +kernel
theorem jLat_d8 : decode prog_14_method_2_code 8 = .ok (.baload, 1) := by decide +kernel
theorem jLat_d9 : decode prog_14_method_2_code 9 = .ok (.sipush 255, 3) := by decide +kernel
theorem jLat_d12 : decode prog_14_method_2_code 12 = .ok (.iand, 1) := by decide +kernel
theorem jLat_d13 : decode prog_14_method_2_code 13 = .ok (.i2c, 1) := by decide +kernel
theorem jLat_d14 : decode prog_14_method_2_code 14 = .ok (.ireturn, 1) := by decide +kernel
theorem jChk_w2 : Cond.code jChk prog_13_method_155_code 2 none ∈ lw_tbl ∧ Cond.initialized jChk.cls ∈ lw_tbl ∧ Cond.static jChk ∈ lw_tbl ∧ Cond.methodLink "java/lang/StringLatin1" 9 jChk ∈ lw_tbl := by decide +kernel
theorem chr_tab : ∀ j, j < 12 → ∀ i, i < strN.getD j 0 → (((strB.getD j []).getD i 0 &&& (Int16.ofInt 255).toInt32).toUInt32 % 65536).toInt32 = (strB.getD j []).getD i 0 ∧ narrow .char (.int ((strB.getD j []).getD i 0)) = .int ((strB.getD j []).getD i 0) := by decide +kernel
theorem y_lat {j i : Nat} (hj : j < 12) (hi : i < strN.getD j 0) (hd : 2 ≤ d) : CallY G l d jLat prog_14_method_2_code 2 (some .char) [vR (1100 + j), vI i] h (fun r h' => r = some (vI (chN j i)) ∧ h' = h) := by
  refine CallY.of (by decide) (Nat.le_refl 2) ?_
  intro hv p e s m args below meth c la C hP hO hl
  have nr := strN_r j hj
  have ha : R32 (i : Int) := hv (vI i) (by simp)
  have l0 : la[0]? = some (.val (.ref (G.2.1 (1100 + j)))) := lv_at hl 0 rfl
  have l1 : la[1]? = some (.val (.int (Int32.ofInt i))) := lv_at hl 1 rfl
  have hT := (C.2.2.2.2.2.2.2.2.1.1 j hj).2.2.2
  refine lv_iload_n C.1 C.2.1 jLat_d0 rfl l1 ?_
  refine lv_aload_n C.1 C.2.1 jLat_d1 rfl l0 ?_
  refine va_tlen C.1 C.2.1 hT va_S.rf (v := Int32.ofInt ((strN.getD j 0 : Nat) : Int)) (by rw [Int32.ofInt_eq_ofNat]) jLat_d2 ?_
  refine yS (nn := 2) (as := [vI i, vI ((strN.getD j 0 : Nat) : Int)]) (st := []) (x := 9) (d' := d - 1) C va_S.rf hP hO hl.1 (fun v hv2 => ?_) (y_chk (d := d - 1) ⟨by omega, by omega⟩ (by omega)) jChk_w2 ⟨by decide, by decide, by decide +kernel⟩ rfl (by omega) (by omega) (Nat.zero_le _) jLat_d3 ?_
  · simp only [List.mem_cons, List.not_mem_nil, or_false] at hv2
    rcases hv2 with rfl | rfl
    · exact ha
    · show R32 _; unfold R32; omega
  intro r h' H1 locs1 hp hr hP1 hO1 hS1
  obtain ⟨rfl, rfl⟩ := hp
  refine lv_aload_n C.1 C.2.1 jLat_d6 rfl l0 ?_
  refine lv_iload_n C.1 C.2.1 jLat_d7 rfl l1 ?_
  refine va_tb C.1 C.2.1 hT hS1 (vpin ha (by omega) (by omega)) (v := .int ((strB.getD j []).getD i 0)) (by rw [clamp ha, Int.toNat_natCast]) jLat_d8 ?_
  refine lv_sipush C.1 C.2.1 jLat_d9 rfl ?_
  refine lv_iand C.1 C.2.1 jLat_d12 ?_
  refine lv_i2c C.1 C.2.1 jLat_d13 (chr_tab j hj i hi).1 ?_
  exact W.zret (v := (strB.getD j []).getD i 0) C.1 C.2.1 C.2.2.1 (chr_tab j hj i hi).2 (fun t ht hW => ⟨⟨some (vI (chN j i)), h', by simp [rv, vI, chN], ⟨rfl, rfl⟩, fun v hv2 => by cases hv2; exact i32_ok _, by rw [ht]; exact hP1, hO1⟩, hS1.F ht⟩) hS1.2.2 jLat_d14 C.2.2.2.2.2.2.1
theorem jCod_d0 : decode prog_13_method_152_code 0 = .ok (.getstatic 38, 3) := by decide +kernel
theorem jCod_d3 : decode prog_13_method_152_code 3 = .ok (.ifCond .eq 10, 3) := by decide +kernel
theorem jCod_d6 : decode prog_13_method_152_code 6 = .ok (.aload_n 0, 1) := by decide +kernel
theorem jCod_d7 : decode prog_13_method_152_code 7 = .ok (.getfield 15, 3) := by decide +kernel
theorem jCod_d10 : decode prog_13_method_152_code 10 = .ok (.goto 4, 3) := by decide +kernel
theorem jCod_d14 : decode prog_13_method_152_code 14 = .ok (.ireturn, 1) := by decide +kernel
theorem jCod_w : Cond.fieldLink "java/lang/String" 38 "java/lang/String" "COMPACT_STRINGS" "Z" ∈ lw_tbl ∧ Cond.fieldLink "java/lang/String" 15 "java/lang/String" "coder" "B" ∈ lw_tbl ∧ Cond.fieldLink "java/lang/String" 9 "java/lang/String" "value" "[B" ∈ lw_tbl := by decide +kernel
theorem y_cod {j : Nat} (hj : j < 12) : CallY G l d jCod prog_13_method_152_code 1 (some .byte) [vR (1000 + j)] h (fun r h' => r = some (vI 0) ∧ h' = h) := by
  refine CallY.of (by decide) (Nat.le_refl 1) ?_
  intro hv p e s m args below meth c la C hP hO hl
  have l0 : la[0]? = some (.val (.ref (G.2.1 (1000 + j)))) := lv_at hl 0 rfl
  have hF := (C.2.2.2.2.2.2.2.2.1.1 j hj).2.1
  refine va_gets C.1 C.2.1 C.2.2.2.2.2.2.2.2.2.2.2.1 va_S.rf C.2.2.2.2.1 (C.2.2.2.2.2.1 _ (wG_of jCod_w.1 rfl)) (fun y hy => hy) jCod_d0 ?_
  refine lv_if_eq C.1 C.2.1 jCod_d3 (tgt := 13) rfl (fun hc => absurd hc (by decide)) (fun _ => ?_)
  refine lv_aload_n C.1 C.2.1 jCod_d6 rfl l0 ?_
  refine vk_getf C.1 C.2.1 hF va_S.rf C.2.2.2.2.1 (C.2.2.2.2.2.1 _ (wG_of jCod_w.2.1 rfl)) (fun y hy => hy) jCod_d7 ?_
  refine lv_goto C.1 C.2.1 jCod_d10 (tgt := 14) rfl ?_
  exact W.zret (v := 0) C.1 C.2.1 C.2.2.1 (by decide) (fun t ht hW => ⟨⟨some (vI 0), h, rfl, ⟨rfl, rfl⟩, fun v hv2 => by cases hv2; exact r32_0, by rw [ht]; exact hP, hO⟩, va_S.rf.F ht⟩) (fun q hq => by cases hq) jCod_d14 C.2.2.2.2.2.2.1
theorem jIsL_d0 : decode prog_13_method_154_code 0 = .ok (.getstatic 38, 3) := by decide +kernel
theorem jIsL_d3 : decode prog_13_method_154_code 3 = .ok (.ifCond .eq 14, 3) := by decide +kernel
theorem jIsL_d6 : decode prog_13_method_154_code 6 = .ok (.aload_n 0, 1) := by decide +kernel
theorem jIsL_d7 : decode prog_13_method_154_code 7 = .ok (.getfield 15, 3) := by decide +kernel
theorem jIsL_d10 : decode prog_13_method_154_code 10 = .ok (.ifCond .ne 7, 3) := by decide +kernel
theorem jIsL_d13 : decode prog_13_method_154_code 13 = .ok (.iconst 1, 1) := by decide +kernel
theorem jIsL_d14 : decode prog_13_method_154_code 14 = .ok (.goto 4, 3) := by decide +kernel
theorem jIsL_d18 : decode prog_13_method_154_code 18 = .ok (.ireturn, 1) := by decide +kernel
theorem y_isl {j : Nat} (hj : j < 12) : CallY G l d jIsL prog_13_method_154_code 1 (some .boolean) [vR (1000 + j)] h (fun r h' => r = some (vI 1) ∧ h' = h) := by
  refine CallY.of (by decide) (Nat.le_refl 1) ?_
  intro hv p e s m args below meth c la C hP hO hl
  have l0 : la[0]? = some (.val (.ref (G.2.1 (1000 + j)))) := lv_at hl 0 rfl
  have hF := (C.2.2.2.2.2.2.2.2.1.1 j hj).2.1
  refine va_gets C.1 C.2.1 C.2.2.2.2.2.2.2.2.2.2.2.1 va_S.rf C.2.2.2.2.1 (C.2.2.2.2.2.1 _ (wG_of jCod_w.1 rfl)) (fun y hy => hy) jIsL_d0 ?_
  refine lv_if_eq C.1 C.2.1 jIsL_d3 (tgt := 17) rfl (fun hc => absurd hc (by decide)) (fun _ => ?_)
  refine lv_aload_n C.1 C.2.1 jIsL_d6 rfl l0 ?_
  refine vk_getf C.1 C.2.1 hF va_S.rf C.2.2.2.2.1 (C.2.2.2.2.2.1 _ (wG_of jCod_w.2.1 rfl)) (fun y hy => hy) jIsL_d7 ?_
  refine lv_if_ne C.1 C.2.1 jIsL_d10 (tgt := 17) rfl (fun hc => absurd rfl hc) (fun _ => ?_)
  refine lv_iconst C.1 C.2.1 jIsL_d13 rfl ?_
  refine lv_goto C.1 C.2.1 jIsL_d14 (tgt := 18) rfl ?_
  exact W.zret (v := Int32.ofInt 1) C.1 C.2.1 C.2.2.1 (by decide) (fun t ht hW => ⟨⟨some (vI 1), h, rfl, ⟨rfl, rfl⟩, fun v hv2 => by cases hv2; show R32 1; unfold R32; omega, by rw [ht]; exact hP, hO⟩, va_S.rf.F ht⟩) (fun q hq => by cases hq) jIsL_d18 C.2.2.2.2.2.2.1
theorem jLen_d0 : decode prog_13_method_54_code 0 = .ok (.aload_n 0, 1) := by decide +kernel
theorem jLen_d1 : decode prog_13_method_54_code 1 = .ok (.getfield 9, 3) := by decide +kernel
theorem jLen_d4 : decode prog_13_method_54_code 4 = .ok (.arraylength, 1) := by decide +kernel
theorem jLen_d5 : decode prog_13_method_54_code 5 = .ok (.aload_n 0, 1) := by decide +kernel
theorem jLen_d6 : decode prog_13_method_54_code 6 = .ok (.invokevirtual 335, 3) := by decide +kernel
theorem jLen_d9 : decode prog_13_method_54_code 9 = .ok (.ishr, 1) := by decide +kernel
theorem jLen_d10 : decode prog_13_method_54_code 10 = .ok (.ireturn, 1) := by decide +kernel
theorem jCod_w2 : Cond.code jCod prog_13_method_152_code 1 (some .byte) ∈ lw_tbl ∧ Cond.initialized jCod.cls ∈ lw_tbl ∧ Cond.instanceMethod jCod ∈ lw_tbl ∧ Cond.selects jCod.cls jCod jCod ∈ lw_tbl ∧ Cond.methodLink "java/lang/String" 335 jCod ∈ lw_tbl := by decide +kernel
theorem jIsL_w2 : Cond.code jIsL prog_13_method_154_code 1 (some .boolean) ∈ lw_tbl ∧ Cond.initialized jIsL.cls ∈ lw_tbl ∧ Cond.instanceMethod jIsL ∈ lw_tbl ∧ Cond.selects jIsL.cls jIsL jIsL ∈ lw_tbl ∧ Cond.methodLink "java/lang/String" 492 jIsL ∈ lw_tbl := by decide +kernel
theorem jLat_w2 : Cond.code jLat prog_14_method_2_code 2 (some .char) ∈ lw_tbl ∧ Cond.initialized jLat.cls ∈ lw_tbl ∧ Cond.static jLat ∈ lw_tbl ∧ Cond.methodLink "java/lang/String" 495 jLat ∈ lw_tbl := by decide +kernel
theorem len_tab : ∀ j, j < 12 → Int32.ofInt ((strN.getD j 0 : Nat) : Int) >>> (Int32.ofInt 0 &&& 31) = Int32.ofInt ((strN.getD j 0 : Nat) : Int) := by decide +kernel
theorem y_len {j : Nat} (hj : j < 12) (hd : 1 ≤ d) : CallR G l d 216 [vR (1000 + j)] h (fun r h' => r = some (vI ((strN.getD j 0 : Nat) : Int)) ∧ h' = h) := by
  show CallY G l d ⟨"java/lang/String", "length", "()I"⟩ prog_13_method_54_code 1 (some .int) [vR (1000 + j)] h _
  refine CallY.of (by decide) (Nat.le_refl 1) ?_
  intro hv p e s m args below meth c la C hP hO hl
  have nr := strN_r j hj
  have l0 : la[0]? = some (.val (.ref (G.2.1 (1000 + j)))) := lv_at hl 0 rfl
  have hT := (C.2.2.2.2.2.2.2.2.1.1 j hj)
  refine lv_aload_n C.1 C.2.1 jLen_d0 rfl l0 ?_
  refine vk_getf C.1 C.2.1 hT.2.2.1 va_S.rf C.2.2.2.2.1 (C.2.2.2.2.2.1 _ (wG_of jCod_w.2.2 rfl)) (fun y hy => hy) jLen_d1 ?_
  refine va_tlen C.1 C.2.1 hT.2.2.2 va_S.rf (v := Int32.ofInt ((strN.getD j 0 : Nat) : Int)) (by rw [Int32.ofInt_eq_ofNat]) jLen_d4 ?_
  refine lv_aload_n C.1 C.2.1 jLen_d5 rfl l0 ?_
  refine yV (nn := 0) (as := []) (st := [vI ((strN.getD j 0 : Nat) : Int)]) (x := 335) (k := 1000 + j) (d' := d - 1) C va_S.rf hP hO hl.1 (fun v hv2 => ?_) (y_cod (d := d - 1) hj) (vk_recv (adK := fun j => G.2.1 (1000 + j)) (i := j) C.2.2.2.2.2.2.2.2.1 hj va_S.rf) jCod_w2 ⟨by decide, by decide, by decide +kernel⟩ rfl (by omega) (by omega) (Nat.le_of_ble_eq_true rfl) jLen_d6 ?_
  · simp only [List.mem_cons, List.not_mem_nil, or_false] at hv2
    rcases hv2 with rfl
    trivial
  intro r h' H1 locs1 hp hr hP1 hO1 hS1
  obtain ⟨rfl, rfl⟩ := hp
  refine lv_ishr C.1 C.2.1 jLen_d9 ?_
  rw [len_tab j hj]
  exact W.iret (v := Int32.ofInt ((strN.getD j 0 : Nat) : Int)) C.1 C.2.1 C.2.2.1 (fun t ht hW => ⟨⟨some (vI ((strN.getD j 0 : Nat) : Int)), h', rfl, ⟨rfl, rfl⟩, fun v hv2 => by cases hv2; show R32 _; unfold R32; omega, by rw [ht]; exact hP1, hO1⟩, hS1.F ht⟩) hS1.2.2 jLen_d10 C.2.2.2.2.2.2.1
theorem jChA_d0 : decode prog_13_method_56_code 0 = .ok (.aload_n 0, 1) := by decide +kernel
theorem jChA_d1 : decode prog_13_method_56_code 1 = .ok (.invokevirtual 492, 3) := by decide +kernel
theorem jChA_d4 : decode prog_13_method_56_code 4 = .ok (.ifCond .eq 12, 3) := by decide +kernel
theorem jChA_d7 : decode prog_13_method_56_code 7 = .ok (.aload_n 0, 1) := by decide +kernel
theorem jChA_d8 : decode prog_13_method_56_code 8 = .ok (.getfield 9, 3) := by decide +kernel
theorem jChA_d11 : decode prog_13_method_56_code 11 = .ok (.iload_n 1, 1) := by decide +kernel
theorem jChA_d12 : decode prog_13_method_56_code 12 = .ok (.invokestatic 495, 3) := by decide +kernel
theorem jChA_d15 : decode prog_13_method_56_code 15 = .ok (.ireturn, 1) := by decide +kernel
theorem y_cha {j i : Nat} (hj : j < 12) (hi : i < strN.getD j 0) (hd : 3 ≤ d) : CallR G l d 217 [vR (1000 + j), vI i] h (fun r h' => r = some (vI (chN j i)) ∧ h' = h) := by
  show CallY G l d ⟨"java/lang/String", "charAt", "(I)C"⟩ prog_13_method_56_code 2 (some .char) [vR (1000 + j), vI i] h _
  refine CallY.of (by decide) (Nat.le_refl 2) ?_
  intro hv p e s m args below meth c la C hP hO hl
  have ha : R32 (i : Int) := hv (vI i) (by simp)
  have l0 : la[0]? = some (.val (.ref (G.2.1 (1000 + j)))) := lv_at hl 0 rfl
  have l1 : la[1]? = some (.val (.int (Int32.ofInt i))) := lv_at hl 1 rfl
  have hT := (C.2.2.2.2.2.2.2.2.1.1 j hj)
  refine lv_aload_n C.1 C.2.1 jChA_d0 rfl l0 ?_
  refine yV (nn := 0) (as := []) (st := []) (x := 492) (k := 1000 + j) (d' := d - 1) C va_S.rf hP hO hl.1 (fun v hv2 => ?_) (y_isl (d := d - 1) hj) (vk_recv (adK := fun j => G.2.1 (1000 + j)) (i := j) C.2.2.2.2.2.2.2.2.1 hj va_S.rf) jIsL_w2 ⟨by decide, by decide, by decide +kernel⟩ rfl (by omega) (by omega) (Nat.le_of_ble_eq_true rfl) jChA_d1 ?_
  · simp only [List.mem_cons, List.not_mem_nil, or_false] at hv2
    rcases hv2 with rfl
    trivial
  intro r h' H1 locs1 hp hr hP1 hO1 hS1
  obtain ⟨rfl, rfl⟩ := hp
  refine lv_if_eq C.1 C.2.1 jChA_d4 (tgt := 16) rfl (fun hc => absurd hc (by decide)) (fun _ => ?_)
  refine lv_aload_n C.1 C.2.1 jChA_d7 rfl l0 ?_
  refine vk_getf C.1 C.2.1 hT.2.2.1 hS1 C.2.2.2.2.1 (C.2.2.2.2.2.1 _ (wG_of jCod_w.2.2 rfl)) (fun y hy => hy) jChA_d8 ?_
  refine lv_iload_n C.1 C.2.1 jChA_d11 rfl l1 ?_
  refine yS (nn := 2) (as := [vR (1100 + j), vI i]) (st := []) (x := 495) (d' := d - 1) C hS1 hP1 hO1 hl.1 (fun v hv2 => ?_) (y_lat (d := d - 1) hj hi (by omega)) jLat_w2 ⟨by decide, by decide, by decide +kernel⟩ rfl (by omega) (by omega) (Nat.zero_le _) jChA_d12 ?_
  · simp only [List.mem_cons, List.not_mem_nil, or_false] at hv2
    rcases hv2 with rfl | rfl
    · trivial
    · exact ha
  intro r h2 H2 locs2 hp2 hr2 hP2 hO2 hS2
  obtain ⟨rfl, rfl⟩ := hp2
  have e9 : ((Option.map (rv G) (some (vI (chN j i)))).toList ++ List.map (rv G) []) = [Value.int ((strB.getD j []).getD i 0)] := by simp [rv, vI, chN]
  rw [e9]
  exact W.zret (v := (strB.getD j []).getD i 0) C.1 C.2.1 C.2.2.1 (chr_tab j hj i hi).2 (fun t ht hW => ⟨⟨some (vI (chN j i)), h2, by simp [rv, vI, chN], ⟨rfl, rfl⟩, fun v hv2 => by cases hv2; exact i32_ok _, by rw [ht]; exact hP2, hO2⟩, hS2.F ht⟩) hS2.2.2 jChA_d15 C.2.2.2.2.2.2.1
theorem strOK : StrOK G l := fun d h j hj hd => ⟨y_len hj (by omega), fun i hi => y_cha hj hi hd⟩
end L4STR
