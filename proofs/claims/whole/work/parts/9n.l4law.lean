section L4HI
/-- the numbers that the constructors leave -/
def hI : AH := fun k i => match k with
  | 1 => if i = 12 then 2 else if i = 14 then 1 else 0
  | 12 => if i = 12 then 2 else if i = 14 then 1 else 0
  | 23 => if i = 12 then 2 else if i = 14 then 1 else 0
  | 67 => if i = 0 then -1 else 0
  | 69 => if i = 0 then -1 else 0
  | 71 => if i = 0 then -1 else 0
  | 73 => if i = 0 then -1 else 0
  | 76 => if i = 0 then 2 else 0
  | 77 => if i = 0 then 2 else 0
  | 78 => if i = 0 then 2 else 0
  | 79 => if i = 0 then 2 else 0
  | 82 => if i = 0 then 2 else if i = 10 then 1 else 0
  | 103 => if i < 4 then -1 else 0
  | 106 => if i < 4 then -1 else 0
  | _ => 0
end L4HI
section L4LAW
variable {p : Program} {l : Launch} {e : Env} {s : State} {m : MethodId} {below : List Frame} {meth : Method} {c : Code} {H : Heap} {locs : List Loc} {cells slots : Nat} {QQ : State → Prop} {la : Array Slot} {G : GD} {b L : Nat} {xs : Nat → Int32} {h : AH} {rest : List Value} {pc k : Nat}
/-- what the law's walk stands on -/
def LC (G : GD) (p : Program) (s : State) (m : MethodId) (meth : Method) (c : Code) (b L : Nat) (xs : Nat → Int32) : Prop :=
  p.tables.exec = Jvm.exec ∧ c.code = code ∧ c.maxLocals = 4 ∧ s.vm.findClass "OneStairLaw" = some m.cls ∧ (∀ w ∈ wG, w.before #[Value.ref b] s = true) ∧ va_X b L xs s s.heap ∧ b < s.heap.size ∧ EnvG G s ∧ ExtG G s s.heap ∧ (∀ q, AG G q → s.heap.size ≤ q)
/-- the law's locals -/
def lwL (G : GD) (b k : Nat) : List (Nat × Value) := [(3, .int (Int32.ofInt ((5 * k : Nat) : Int))), (0, .ref b), (1, .ref (G.2.1 0)), (2, .ref (G.2.1 82))]
theorem callL {R : Room} {args : Array Value} {A0 : Nat → Prop} {st0 : List Value} {a : Array Value} {P : Option AV → AH → Prop}
    (hr : va_Run p l e R s m args below meth c H locs cells slots 0 0 (F0 m pc la st0) rest (QcG G P a) (AG G)) (hS : va_S A0 s.heap H locs) (hAG : ∀ q, AG G q → A0 q)
    (kk : ∀ (r : Option AV) (h' : AH) (H1 : Heap) (locs1 : List Loc), P r h' → (∀ v, r = some v → avOk v) → va_P G.1 vwCl (wsG G h') H1 → Hok h' → va_S A0 s.heap H1 locs1 → W p l e R s m args below meth c H1 locs1 cells slots QQ (F0 m (pc + 3) la ((r.map (rv G)).toList ++ rest))) : W p l e R s m args below meth c H locs cells slots QQ (F0 m pc la st0) := by
  intro T hT X
  obtain ⟨v, st₀, t, T', L, h0, X', hL, e1, e2, ⟨⟨r, h', hv, hp, hr', hP', hO'⟩, hz, hk⟩, stp9⟩ := hr T hT X
  cases hv
  rw [h0] at hz hk
  obtain ⟨t2, a1, b1⟩ := kk r h' T'.heap (locs ++ L) hp hr' (by rw [e1]; exact hP') hO'
    ⟨Nat.le_trans hS.1 (by rw [e1]; exact hz), fun q h1 h2 => by rw [e1, hk q (Nat.lt_of_lt_of_le h1 hS.1) (fun z => h2 (hAG q z))]; exact hS.2.1 q h1 h2, fun q hq => by
      rcases List.mem_append.mp hq with h | h
      · exact hS.2.2 q h
      · exact hAG _ (hL q h)⟩ T' rfl X'
  exact ⟨t2, stp9 t2 a1, b1⟩
theorem PcG.atL {as : List AV} {A0 : Nat → Prop} (hP : va_P G.1 vwCl (wsG G h) H) (hO : Hok h) (hE : EnvG G s) (hX : ExtG G s s.heap) (hS : va_S A0 s.heap H locs) (hn : ∀ q, q < s.heap.size → ¬ A0 q) : ∀ U : State, U.heap = H → s.WarmedH U.vm → PcG G as h (as.map (rv G)).toArray U := by
  intro U hU hW
  refine ⟨rfl, by rw [hU]; exact hP, hO, hE.warm hW, ?_⟩
  rw [hU]
  exact (hX.kept (fun q h1 _ => hS.2.1 q h1 (hn q h1))).moved hW.alike
theorem lawV {kx mm nn x : Nat} {as : List AV} {P : Option AV → AH → Prop} (C : LC G p s m meth c b L xs) (hS : va_S (fun q => s.heap.size ≤ q) s.heap H locs) (hP : va_P G.1 vwCl (wsG G h) H) (hO : Hok h) (hsz : la.size = 4) (hok : ∀ v ∈ as, avOk v) (hc : CallR G l 9 mm (vR kx :: as) h P) (hlt : mm < nM) (hk : (mrec mm).1 ≠ 11 ∧ (sh kx).1 = 0 ∧ (sh kx).2.1 = vwOf (mrec mm).1) (hs : stF.getD mm false = false) (hlink : Cond.methodLink "OneStairLaw" x (mrec mm).2.1 ∈ lw_tbl) (hn : npar (mrec mm).2.1 = some nn) (hlen : as.length = nn) (hrest : (rest.map fun v => v.category).sum ≤ 8) (hcl : cells ≤ 600000 ∧ slots ≤ 7302250) (hdg : decode code pc = .ok (.invokevirtual x, 3))
    (kk : ∀ (r : Option AV) (h' : AH) (H1 : Heap) (locs1 : List Loc), P r h' → (∀ v, r = some v → avOk v) → va_P G.1 vwCl (wsG G h') H1 → Hok h' → va_S (fun q => s.heap.size ≤ q) s.heap H1 locs1 → W p l e room_1 s m #[Value.ref b] below meth c H1 locs1 cells slots QQ (F0 m (pc + 3) la ((r.map (rv G)).toList ++ rest))) : W p l e room_1 s m #[Value.ref b] below meth c H locs cells slots QQ (F0 m pc la ((as.map (rv G)).reverse ++ .ref (G.2.1 kx) :: rest)) := by
  obtain ⟨hx, hbb, hml, hown, hts, -, -, hE, hX, hAG⟩ := C
  obtain ⟨hy, hcls, hmx, hrest2⟩ := mOk_spec hlt
  have hok2 : ∀ v ∈ vR kx :: as, avOk v := okc trivial hok
  have hM := hc hok2 hO
  have hini : (Cond.initialized (mrec mm).2.1.cls).before #[Value.ref b] s = true := hts _ (wG_of (ini_in0 mm (List.mem_range.mpr hlt)) rfl)
  have hinst : (Cond.instanceMethod (mrec mm).2.1).before #[Value.ref b] s = true := by
    have := knd_in0 mm (List.mem_range.mpr hlt)
    rw [if_neg (by rw [hs]; decide)] at this
    exact hts _ (wG_of this rfl)
  have hsel : (Cond.selects (mrec mm).2.1.cls (mrec mm).2.1 (mrec mm).2.1).before #[Value.ref b] s = true := by
    have := sel_in0 mm (List.mem_range.mpr hlt)
    rw [if_neg (by rw [hs]; decide)] at this
    exact hts _ (wG_of this rfl)
  have hrecv : ∃ cellB : Cell, H[G.2.1 kx]? = some cellB ∧ cellB.vm.isStatics = false ∧ s.vm.findClass (mrec mm).2.1.cls = some cellB.cls := by
    rcases hrest2 with h1 | h1 | ⟨h8, hcl2⟩
    · exact absurd h1 hk.1
    · rw [hs] at h1; cases h1
    · have hat : (wsG G h)[kx]? = some (G.2.1 kx, .inr ((sh kx).2.1, (sh kx).2.2.mapIdx (fun i c => rv G (fv h kx i c)))) := by
        rw [wsG_at G h (sh_lt (by omega)), cellG_0 hk.2.1]
      rw [hk.2.2] at hat
      have := va_recv hE.2.1 hP (vwAt h8) hat
      rw [hcl2] at this
      exact this
  exact callL (va_runV (Ts := wG) (nL := 4) (C := (mrec mm).2.1.cls) (b := G.2.1 kx) (As := as.map (rv G)) ⟨hx, hbb, hml, hown, hts⟩ hM ⟨callB_of nn hts (goodG hlt) rfl rfl rfl hini (hts _ (wG_of hlink rfl)) ⟨hy.1, hy.2, hn⟩ ⟨by show 9 + 1 + 1 ≤ 13; omega, by show 8 + ((mrec mm).2.2.2.1 + 11) + 40 * (9 + 1) ≤ 478; omega⟩, hinst, hsel⟩ ⟨PcG.blind, hrecv, fun U hU hW => PcG.atL (as := vR kx :: as) hP hO hE hX hS (fun q h1 h2 => Nat.lt_irrefl _ (Nat.lt_of_lt_of_le h1 h2)) U hU hW⟩ rfl (by simpa using hlen) hsz rfl (lv_room hrest) hdg ⟨hcl.1, hcl.2⟩) hS hAG kk
def argB (pc t : Nat) : Bool := decide (decode code pc = .ok (.aload_n 0, 1)) && decide (decode code (pc + 1) = .ok (.iload_n 3, 1)) && decide (decode code (pc + 1 + 1) = .ok (.iconst ((t + 1 : Nat) : Int), 1)) && decide (decode code (pc + 1 + 1 + 1) = .ok (.iadd, 1)) && decide (decode code (pc + 1 + 1 + 1 + 1) = .ok (.iaload, 1))
def argsB (n pc : Nat) : Bool := (List.range n).all (fun t => argB (pc + 5 * t) t)
/-- the script's number behind the call's -/
theorem law_arg {t : Nat} (C : LC G p s m meth c b L xs) (hS : va_S (fun q => s.heap.size ≤ q) s.heap H locs) (hl : lv_has la 4 (lwL G b k)) (ht : 5 * k + 1 + t < L) (hL : L ≤ 320) (hchk : argB pc t = true) (kk : W p l e room_1 s m #[Value.ref b] below meth c H locs cells slots QQ (F0 m (pc + 1 + 1 + 1 + 1 + 1) la (.int (xs (5 * k + 1 + t)) :: rest))) : W p l e room_1 s m #[Value.ref b] below meth c H locs cells slots QQ (F0 m pc la rest) := by
  obtain ⟨hx, hbb, -, -, -, hX, hbl, -, -, -⟩ := C
  simp only [argB, Bool.and_eq_true, decide_eq_true_eq] at hchk
  obtain ⟨⟨⟨⟨d0, d1⟩, d2⟩, d3⟩, d4⟩ := hchk
  have l0 : la[0]? = some (.val (.ref b)) := lv_at hl 1 rfl
  have l3 : la[3]? = some (.val (.int (Int32.ofInt ((5 * k : Nat) : Int)))) := lv_at hl 0 rfl
  refine lv_aload_n hx hbb d0 rfl l0 ?_
  refine lv_iload_n hx hbb d1 rfl l3 ?_
  refine lv_iconst hx hbb d2 (v := Int32.ofInt ((t + 1 : Nat) : Int)) rfl ?_
  refine lv_iadd hx hbb d3 ?_
  have e1 : Int32.ofInt ((5 * k : Nat) : Int) + Int32.ofInt ((t + 1 : Nat) : Int) = Int32.ofInt ((5 * k + 1 + t : Nat) : Int) := by
    rw [← Int32.ofInt_add]; exact congrArg Int32.ofInt (by omega)
  rw [e1]
  have hr : R32 ((5 * k + 1 + t : Nat) : Int) := by unfold R32; omega
  refine va_sld hx hbb hX hbl (A := fun q => s.heap.size ≤ q) (Nat.not_le.mpr hbl) hS (vpin hr (by omega) (by omega)) d4 ?_
  rw [clamp hr, Int.toNat_natCast]
  exact kk
theorem law_args : ∀ (n : Nat) (rest : List Value) (QQ : State → Prop), LC G p s m meth c b L xs → va_S (fun q => s.heap.size ≤ q) s.heap H locs → lv_has la 4 (lwL G b k) → 5 * k + 1 + n ≤ L → L ≤ 320 → argsB n pc = true → W p l e room_1 s m #[Value.ref b] below meth c H locs cells slots QQ (F0 m (pc + 5 * n) la ((((List.range n).map (fun t => vI (xs (5 * k + 1 + t)).toInt)).map (rv G)).reverse ++ rest)) → W p l e room_1 s m #[Value.ref b] below meth c H locs cells slots QQ (F0 m pc la rest)
  | 0, rest, QQ, _, _, _, _, _, _, kk => kk
  | n + 1, rest, QQ, C, hS, hl, hn, hL, hchk, kk => by
    have hc : argsB n pc = true ∧ argB (pc + 5 * n) n = true := by
      unfold argsB at *
      rw [List.range_succ, List.all_append, Bool.and_eq_true] at hchk
      exact ⟨hchk.1, by simpa using hchk.2⟩
    refine law_args n rest QQ C hS hl (by omega) hL hc.1 ?_
    refine law_arg (t := n) C hS hl (by omega) hL hc.2 ?_
    rw [List.range_succ, List.map_append, List.map_append, List.reverse_append] at kk
    simp only [List.map_cons, List.map_nil, List.reverse_cons, List.reverse_nil, List.nil_append, List.cons_append, rv_i] at kk
    exact kk
def caseB (n pc ix im : Nat) : Bool := decide (decode code pc = .ok (.aload_n 1, 1)) && argsB n (pc + 1) && decide (decode code (pc + 1 + 5 * n) = .ok (.invokevirtual ix, 3)) && decide (decode code (pc + 1 + 5 * n + 3) = .ok (.aload_n 2, 1)) && argsB n (pc + 1 + 5 * n + 3 + 1) && decide (decode code (pc + 1 + 5 * n + 3 + 1 + 5 * n) = .ok (.invokevirtual im, 3)) && decide (decode code (pc + 1 + 5 * n + 3 + 1 + 5 * n + 3) = .ok (.if_icmp .eq (1469 - ((pc + 1 + 5 * n + 3 + 1 + 5 * n + 3 : Nat) : Int)), 3))
def caseW (n ix im ic imo : Nat) : Prop := (ic < nM ∧ (mrec ic).1 ≠ 11 ∧ (sh 0).2.1 = vwOf (mrec ic).1 ∧ stF.getD ic false = false ∧ Cond.methodLink "OneStairLaw" ix (mrec ic).2.1 ∈ lw_tbl ∧ npar (mrec ic).2.1 = some n) ∧ (imo < nM ∧ (mrec imo).1 ≠ 11 ∧ (sh 82).2.1 = vwOf (mrec imo).1 ∧ stF.getD imo false = false ∧ Cond.methodLink "OneStairLaw" im (mrec imo).2.1 ∈ lw_tbl ∧ npar (mrec imo).2.1 = some n)
theorem law_ok {as : List AV} {ic imo nn ix im pc2 : Nat} (C : LC G p s m meth c b L xs) (hS : va_S (fun q => s.heap.size ≤ q) s.heap H locs) (hP : va_P G.1 vwCl (wsG G h) H) (hO : Hok h) (hl : lv_has la 4 (lwL G b k)) (hcl : cells ≤ 600000 ∧ slots ≤ 7302250) (hw : caseW nn ix im ic imo) (hlen : as.length = nn) (hav : ∀ v ∈ as, avOk v) (hok : Ok G l 9 k ic imo as h) (d1 : decode code pc = .ok (.invokevirtual ix, 3)) (d2 : decode code pc2 = .ok (.invokevirtual im, 3)) (d3 : decode code (pc2 + 3) = .ok (.if_icmp .eq (1469 - ((pc2 + 3 : Nat) : Int)), 3))
    (mid : ∀ (z : Int) (H1 : Heap) (locs1 : List Loc), va_S (fun q => s.heap.size ≤ q) s.heap H1 locs1 → W p l e room_1 s m #[Value.ref b] below meth c H1 locs1 cells slots QQ (F0 m pc2 la ((as.map (rv G)).reverse ++ .ref (G.2.1 82) :: [.int (Int32.ofInt z)])) → W p l e room_1 s m #[Value.ref b] below meth c H1 locs1 cells slots QQ (F0 m (pc + 3) la [.int (Int32.ofInt z)]))
    (kk : ∀ (h' : AH) (H1 : Heap) (locs1 : List Loc), INV (k + 1) h' → Hok h' → va_P G.1 vwCl (wsG G h') H1 → va_S (fun q => s.heap.size ≤ q) s.heap H1 locs1 → W p l e room_1 s m #[Value.ref b] below meth c H1 locs1 cells slots QQ (F0 m 1469 la [])) : W p l e room_1 s m #[Value.ref b] below meth c H locs cells slots QQ (F0 m pc la ((as.map (rv G)).reverse ++ .ref (G.2.1 0) :: [])) := by
  obtain ⟨⟨a1, a2, a3, a4, a5, a6⟩, ⟨b1, b2, b3, b4, b5, b6⟩⟩ := hw
  refine lawV (kx := 0) C hS hP hO hl.1 hav hok a1 ⟨a2, rfl, a3⟩ a4 a5 a6 hlen (Nat.zero_le _) hcl d1 ?_
  intro r h1 H1 locs1 hp hr hP1 hO1 hS1
  obtain ⟨v, rfl, hc2⟩ := hp
  refine mid v H1 locs1 hS1 ?_
  refine lawV (kx := 82) C hS1 hP1 hO1 hl.1 hav hc2 b1 ⟨b2, rfl, b3⟩ b4 b5 b6 hlen (Nat.le_of_ble_eq_true rfl) hcl d2 ?_
  intro r2 h2 H2 locs2 hp2 hr2 hP2 hO2 hS2
  obtain ⟨rfl, i2⟩ := hp2
  refine lv_icmp_eq C.1 C.2.1 d3 (tgt := 1469) (by omega) (fun _ => ?_) (fun hc => absurd rfl hc)
  exact kk h2 H2 locs2 i2 hO2 hP2 hS2
theorem law_case {n ix im ic imo : Nat} (C : LC G p s m meth c b L xs) (hS : va_S (fun q => s.heap.size ≤ q) s.heap H locs) (hP : va_P G.1 vwCl (wsG G h) H) (hO : Hok h) (hl : lv_has la 4 (lwL G b k)) (hkL : 5 * k + 5 ≤ L) (hL : L ≤ 320) (hcl : cells ≤ 600000 ∧ slots ≤ 7302250) (hn4 : n ≤ 4) (hchk : caseB n pc ix im = true) (hw : caseW n ix im ic imo) (hok : Ok G l 9 k ic imo ((List.range n).map (fun t => vI (xs (5 * k + 1 + t)).toInt)) h)
    (kk : ∀ (h' : AH) (H1 : Heap) (locs1 : List Loc), INV (k + 1) h' → Hok h' → va_P G.1 vwCl (wsG G h') H1 → va_S (fun q => s.heap.size ≤ q) s.heap H1 locs1 → W p l e room_1 s m #[Value.ref b] below meth c H1 locs1 cells slots QQ (F0 m 1469 la [])) : W p l e room_1 s m #[Value.ref b] below meth c H locs cells slots QQ (F0 m pc la []) := by
  simp only [caseB, Bool.and_eq_true, decide_eq_true_eq] at hchk
  obtain ⟨⟨⟨⟨⟨⟨d0, d1⟩, d2⟩, d3⟩, d4⟩, d5⟩, d6⟩ := hchk
  have l1 : la[1]? = some (.val (.ref (G.2.1 0))) := lv_at hl 2 rfl
  have l2 : la[2]? = some (.val (.ref (G.2.1 82))) := lv_at hl 3 rfl
  refine lv_aload_n C.1 C.2.1 d0 rfl l1 ?_
  refine law_args n _ QQ C hS hl (by omega) hL d1 ?_
  refine law_ok C hS hP hO hl hcl hw (by rw [List.length_map, List.length_range]) (fun v hv => ?_) hok d2 d5 d6 ?_ kk
  · obtain ⟨t, -, rfl⟩ := List.mem_map.mp hv
    exact i32_ok _
  · intro z H1 locs1 hS1 K
    refine lv_aload_n C.1 C.2.1 d3 rfl l2 ?_
    exact law_args n _ QQ C hS1 hl (by omega) hL d4 K
def lngB (pc : Nat) : Bool := argB pc 0 && decide (decode code (pc + 1 + 1 + 1 + 1 + 1) = .ok (.i2l, 1)) && decide (decode code (pc + 6) = .ok (.bipush 32, 2)) && decide (decode code (pc + 8) = .ok (.lshl, 1)) && argB (pc + 9) 1 && decide (decode code (pc + 14) = .ok (.i2l, 1)) && decide (decode code (pc + 15) = .ok (.ldc2_w 13, 3)) && decide (decode code (pc + 18) = .ok (.land, 1)) && decide (decode code (pc + 19) = .ok (.lor, 1)) && argB (pc + 20) 2
/-- the long that the script's two numbers tell -/
def lngV (x y : Int32) : Int64 := (x.toInt64 <<< ((Int32.ofInt 32).toInt64 &&& 63)) ||| (y.toInt64 &&& 4294967295)
theorem lng_w : Cond.constantLong "OneStairLaw" 13 4294967295 ∈ lw_tbl := by decide +kernel
theorem law_lng (C : LC G p s m meth c b L xs) (hS : va_S (fun q => s.heap.size ≤ q) s.heap H locs) (hl : lv_has la 4 (lwL G b k)) (hkL : 5 * k + 5 ≤ L) (hL : L ≤ 320) (hchk : lngB pc = true) (kk : W p l e room_1 s m #[Value.ref b] below meth c H locs cells slots QQ (F0 m (pc + 25) la (.int (xs (5 * k + 1 + 2)) :: .long (lngV (xs (5 * k + 1 + 0)) (xs (5 * k + 1 + 1))) :: rest))) : W p l e room_1 s m #[Value.ref b] below meth c H locs cells slots QQ (F0 m pc la rest) := by
  simp only [lngB, Bool.and_eq_true, decide_eq_true_eq] at hchk
  obtain ⟨⟨⟨⟨⟨⟨⟨⟨⟨a0, d1⟩, d2⟩, d3⟩, a1⟩, d4⟩, d5⟩, d6⟩, d7⟩, a2⟩ := hchk
  refine law_arg (t := 0) C hS hl (by omega) hL a0 ?_
  refine lv_i2l C.1 C.2.1 d1 rfl ?_
  refine lv_bipush C.1 C.2.1 d2 (v := Int32.ofInt 32) (by decide) ?_
  refine lv_lshl C.1 C.2.1 d3 rfl ?_
  refine law_arg (t := 1) C hS hl (by omega) hL a1 ?_
  refine lv_i2l C.1 C.2.1 d4 rfl ?_
  refine lv_ldc2 C.1 C.2.1 C.2.2.2.1 (C.2.2.2.2.1 _ (wG_of lng_w rfl)) d5 ?_
  refine lv_land C.1 C.2.1 d6 ?_
  refine lv_lor C.1 C.2.1 d7 ?_
  exact law_arg (t := 2) C hS hl (by omega) hL a2 kk
theorem lf_b : lngB 221 = true ∧ lngB 250 = true := by decide +kernel
theorem lf_d0 : decode code 220 = .ok (.aload_n 1, 1) := by decide +kernel
theorem lf_d1 : decode code 246 = .ok (.invokevirtual 15, 3) := by decide +kernel
theorem lf_d2 : decode code 249 = .ok (.aload_n 2, 1) := by decide +kernel
theorem lf_d3 : decode code 275 = .ok (.invokevirtual 19, 3) := by decide +kernel
theorem lf_d4 : decode code (275 + 3) = .ok (.if_icmp .eq (1469 - ((275 + 3 : Nat) : Int)), 3) := by decide +kernel
theorem lf_w : caseW 2 15 19 54 121 := by unfold caseW; decide +kernel
theorem law_feed (C : LC G p s m meth c b L xs) (hS : va_S (fun q => s.heap.size ≤ q) s.heap H locs) (hP : va_P G.1 vwCl (wsG G h) H) (hO : Hok h) (hl : lv_has la 4 (lwL G b k)) (hkL : 5 * k + 5 ≤ L) (hL : L ≤ 320) (hcl : cells ≤ 600000 ∧ slots ≤ 7302250) (i : INV k h) (hk : k ≤ 64)
    (kk : ∀ (h' : AH) (H1 : Heap) (locs1 : List Loc), INV (k + 1) h' → Hok h' → va_P G.1 vwCl (wsG G h') H1 → va_S (fun q => s.heap.size ≤ q) s.heap H1 locs1 → W p l e room_1 s m #[Value.ref b] below meth c H1 locs1 cells slots QQ (F0 m 1469 la [])) : W p l e room_1 s m #[Value.ref b] below meth c H locs cells slots QQ (F0 m 220 la []) := by
  have l1 : la[1]? = some (.val (.ref (G.2.1 0))) := lv_at hl 2 rfl
  have l2 : la[2]? = some (.val (.ref (G.2.1 82))) := lv_at hl 3 rfl
  have hok := c_feed (G := G) (l := l) (d := 9) (e := (lngV (xs (5 * k + 1 + 0)) (xs (5 * k + 1 + 1))).toInt) (n := (xs (5 * k + 1 + 2)).toInt) i (by decide)
  have es : ([vL (lngV (xs (5 * k + 1 + 0)) (xs (5 * k + 1 + 1))).toInt, vI (xs (5 * k + 1 + 2)).toInt].map (rv G)).reverse = [Value.int (xs (5 * k + 1 + 2)), Value.long (lngV (xs (5 * k + 1 + 0)) (xs (5 * k + 1 + 1)))] := by
    simp only [List.map_cons, List.map_nil, rv_i, rv_l, List.reverse_cons, List.reverse_nil, List.nil_append, List.cons_append]
  refine lv_aload_n C.1 C.2.1 lf_d0 rfl l1 ?_
  refine law_lng C hS hl hkL hL lf_b.1 ?_
  have hav : ∀ v ∈ [vL (lngV (xs (5 * k + 1 + 0)) (xs (5 * k + 1 + 1))).toInt, vI (xs (5 * k + 1 + 2)).toInt], avOk v := by
    intro v hv
    simp only [List.mem_cons, List.not_mem_nil, or_false] at hv
    rcases hv with rfl | rfl
    · exact i64_ok _
    · exact i32_ok _
  have mid : ∀ (z : Int) (H1 : Heap) (locs1 : List Loc), va_S (fun q => s.heap.size ≤ q) s.heap H1 locs1 → W p l e room_1 s m #[Value.ref b] below meth c H1 locs1 cells slots QQ (F0 m 275 la (([vL (lngV (xs (5 * k + 1 + 0)) (xs (5 * k + 1 + 1))).toInt, vI (xs (5 * k + 1 + 2)).toInt].map (rv G)).reverse ++ .ref (G.2.1 82) :: [.int (Int32.ofInt z)])) → W p l e room_1 s m #[Value.ref b] below meth c H1 locs1 cells slots QQ (F0 m (246 + 3) la [.int (Int32.ofInt z)]) := by
    intro z H1 locs1 hS1 K2
    rw [es] at K2
    refine lv_aload_n C.1 C.2.1 lf_d2 rfl l2 ?_
    exact law_lng C hS1 hl hkL hL lf_b.2 K2
  have K := law_ok (QQ := QQ) (e := e) (below := below) (cells := cells) (slots := slots) (pc := 246) (pc2 := 275) C hS hP hO hl hcl lf_w rfl hav hok lf_d1 lf_d3 lf_d4 mid kk
  rw [es] at K
  exact K
end L4LAW
