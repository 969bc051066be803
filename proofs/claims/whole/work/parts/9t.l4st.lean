section L4START
variable {p : Program} {l : Launch} {e : Env} {R : Room} {s : State} {m : MethodId} {args : Array Value} {below : List Frame} {meth : Method} {c : Code} {H H0 : Heap} {locs : List Loc} {cells slots : Nat} {Q : State → Prop} {pc : Nat} {ls : Array Slot} {D : va_G} {A : Nat → Prop} {ff : Nat → ClassId} {ws : va_W} {rest : List Value}
/-- new, dup, invokespecial in the law -/
theorem n_mkL {ci ix iy fr mc ms ml : Nat} {fs0 : List Value} {y : MethodName} {cy : ByteArray} {post : Nat → List Nat → Prop} {B : Nat → List Nat → va_W} (hx : p.tables.exec = Jvm.exec) (hb : c.code = code) (hts : ∀ w ∈ wG, w.before args s = true) (hown : s.vm.findClass "OneStairLaw" = some m.cls) (hml : c.maxLocals = 4) (hsz : ls.size = 4) (hK : va_K D vwCl (tyN ff) s) (hNw : ∀ e ∈ mthN, va_Nw (.methodLinkNest "OneStair" e.1 e.2 "OneStair") s) (hAO : AO3 s) (hP : va_P D vwCl ws H) (hD : va_D A ws) (hS : va_S A H0 H locs) (hA : ∀ q, H0.size ≤ q → A q)
    (hc8 : ci < 8) (hfs : ∀ j, j < (vwCl.getD ci ("", TX1, 0)).2.2 → defaultValue (tyCl ci j) = vp_V fs0 j) (hw : Cond.classLink "OneStairLaw" ix (vwCl.getD ci ("", TX1, 0)).1 ∈ lw_tbl ∧ Cond.instantiable (vwCl.getD ci ("", TX1, 0)).1 (vwCl.getD ci ("", TX1, 0)).2.2 ∈ lw_tbl ∧ Cond.initialized (vwCl.getD ci ("", TX1, 0)).1 ∈ lw_tbl ∧ Cond.code y cy ml none ∈ lw_tbl ∧ Cond.instanceMethod y ∈ lw_tbl ∧ Cond.initialized y.cls ∈ lw_tbl ∧ Cond.methodLink "OneStairLaw" iy y ∈ lw_tbl)
    (hy : y.name = "<init>" ∧ y.cls ≠ "java/lang/invoke/MethodHandle" ∧ y.cls ≠ "java/lang/invoke/VarHandle" ∧ npar y = some 0) (hM : ∀ a n0 : Nat, Met l y (.code y cy ml none :: wG) (rmN fr mc ms) (PcN D ff a n0 ci fs0) (va_Qv (S := List Nat) (post a) (fun qs t => va_P D vwCl (B a qs) t.heap ∧ va_D (va_A [(a, .inr (ci, fs0))] n0) (B a qs)) (va_A [(a, .inr (ci, fs0))] n0)) mc ms (va_A [(a, .inr (ci, fs0))] n0))
    (hR : fr + 1 ≤ R.frames ∧ 8 + (ml + 11) + 40 * fr ≤ R.locals) (hcells : cells + 1 + mc ≤ R.cells) (hslots : slots + (vwCl.getD ci ("", TX1, 0)).2.2 + ms ≤ R.slots) (hrest : (rest.map fun v => v.category).sum ≤ 7) (d0 : decode code pc = .ok (.new ix, 3)) (d1 : decode code (pc + 3) = .ok (.dup, 1)) (d2 : decode code (pc + 3 + 1) = .ok (.invokespecial iy, 3))
    (kk : ∀ (q : Nat) (qs : List Nat) (H1 : Heap) (locs1 : List Loc), post q qs → va_P D vwCl (ws ++ B q qs) H1 → va_D A (ws ++ B q qs) → va_S A H0 H1 locs1 → W p l e R s m args below meth c H1 locs1 (cells + 1 + mc) (slots + (vwCl.getD ci ("", TX1, 0)).2.2 + ms) Q (F0 m (pc + 3 + 1 + 3) ls (.ref q :: rest))) : W p l e R s m args below meth c H locs cells slots Q (F0 m pc ls rest) := by
  refine va_new hx hb hts (laysIn hc8) (tyCl ci) (cl_ty ci hc8) hown (hts _ (wG_of hw.1 rfl)) (hts _ (wG_of hw.2.1 rfl)) (hts _ (wG_of hw.2.2.1 rfl)) hK hP hD hS hA (vwAt hc8) hfs (by omega) (by omega) d0 (fun q H1 hP1 hD1 hS1 => ?_)
  refine lv_dup hx hb d1 rfl ?_
  have hPc := n_last hP1
  have hFc := n_free hD1 hS1 hA
  refine va_callv (va_runI (As := []) (rest := .ref q :: rest) ⟨hx, hb, hml, hown, hts⟩ (hM q H1.size) (cwI 0 hts (goodY (wG_of hw.2.2.2.1 rfl)) rfl rfl rfl (hts _ (wG_of hw.2.2.2.2.2.1 rfl)) (hts _ (wG_of hw.2.2.2.2.2.2 rfl)) (hts _ (wG_of hw.2.2.2.2.1 rfl)) hy.1 hy.2 hR) ⟨PcN.blind, fun U hU hW => ⟨rfl, by rw [hU], by rw [hU]; exact hPc, va_K.moved hW.alike hK, fun e he => va_Nw.warmM hW (hNw e he), AO3.moved hW.alike hAO⟩⟩ rfl rfl hsz rfl (lv_room (by simp only [List.map_cons, List.sum_cons]; show 1 + _ ≤ 8; omega)) d2 ⟨hcells, hslots⟩) hS1 (fun x _ h => hFc x h) hFc (fun qs t H2 locs2 ht hvm hlen hB hz hk2 hS2 => ?_)
  obtain ⟨hP2, hD2⟩ := hB
  rw [ht] at hP2
  obtain ⟨hP3, hD3⟩ := n_join hP1 hD1 hk2 hFc hP2 hD2
  exact kk q qs H2 locs2 hlen hP3 hD3 hS2
theorem st_w : ∀ ci ∈ List.range 8, Cond.instantiable (vwCl.getD ci ("", TX1, 0)).1 (vwCl.getD ci ("", TX1, 0)).2.2 ∈ lw_tbl := by decide +kernel
theorem st_ao : Cond.arrayOver (.object RX2) ∈ lw_tbl ∧ Cond.arrayOver (.object RX3) ∈ lw_tbl ∧ Cond.arrayOver (.array .int) ∈ lw_tbl := by decide +kernel
theorem st_n : ∀ e ∈ mthN, Cond.methodLinkNest "OneStair" e.1 e.2 "OneStair" ∈ lw_tbl := by decide +kernel
theorem st_s : ∀ j, j < 12 → Cond.stringRef RX5 (strI.getD j 0) (strT.getD j "") ∈ lw_tbl := by decide +kernel
theorem st_z : (Cond.laysStatic RX1 "ABOVE" "[I" ∈ lw_tbl ∧ Cond.initialized RX1 ∈ lw_tbl) ∧ (Cond.laysStatic "java/lang/String" "COMPACT_STRINGS" "Z" ∈ lw_tbl ∧ Cond.initialized "java/lang/String" ∈ lw_tbl) ∧ (Cond.laysStatic "jdk/internal/util/Preconditions" "SIOOBE_FORMATTER" "Ljava/util/function/BiFunction;" ∈ lw_tbl ∧ Cond.initialized "jdk/internal/util/Preconditions" ∈ lw_tbl) := by decide +kernel
theorem st_K {a : Array Value} (hts : ∀ w ∈ lw_tbl, w.before a s = true) : ∃ (D : va_G) (ff : Nat → ClassId), va_K D vwCl (tyN ff) s := by
  have htG : ∀ w ∈ wG, w.before a s = true := fun w hw => hts w (List.mem_filter.mp hw).1
  have kn : ∀ ci, ci < 8 → ∃ (cC : ClassId) (iS : Nat → Nat), u_Kn s (vwCl.getD ci ("", TX1, 0)).1 (vwCl.getD ci ("", TX1, 0)).2.1 (vwCl.getD ci ("", TX1, 0)).2.2 cC iS := fun ci h => u_known htG (laysIn h) (hts _ (st_w ci (List.mem_range.mpr h)))
  obtain ⟨a0, b0, -⟩ := kn 0 (by decide)
  have kn2 : ∀ ci, ∃ q : ClassId × (Nat → Nat), ci < 8 → u_Kn s (vwCl.getD ci ("", TX1, 0)).1 (vwCl.getD ci ("", TX1, 0)).2.1 (vwCl.getD ci ("", TX1, 0)).2.2 q.1 q.2 := by
    intro ci
    by_cases h : ci < 8
    · obtain ⟨x, y, z⟩ := kn ci h
      exact ⟨(x, y), fun _ => z⟩
    · exact ⟨(a0, b0), fun h2 => absurd h2 h⟩
  obtain ⟨c1, k1, m1, f1, g1, d1⟩ := Cond.arrayClass_spec (hts _ arr_in.1)
  obtain ⟨c2, k2, m2, f2, g2, d2⟩ := Cond.arrayClass_spec (hts _ arr_in.2.1)
  obtain ⟨c3, k3, m3, f3, g3, d3⟩ := Cond.arrayClass_spec (hts _ arr_in.2.2)
  obtain ⟨m4, c4, k4, n4, -, g4, d4, f4⟩ := Cond.arrayOver_spec (hts _ st_ao.1)
  obtain ⟨m5, c5, k5, n5, -, g5, d5, f5⟩ := Cond.arrayOver_spec (hts _ st_ao.2.1)
  obtain ⟨m6, c6, k6, n6, g6, d6, f6⟩ := gd_over (hts _ st_ao.2.2)
  have ar : ∀ (cA : ClassId) (kA : Class) (comp : ClassId) (ty : FieldType), s.vm.classes[cA]? = some kA → kA.kind = .array comp ty → ArrOfT s cA ty := fun cA kA comp ty h1 h2 n z => ⟨fun k h => (by cases h), kA, h1, comp, h2⟩
  have ra : ∀ (C : String) (cA : ClassId) (kA : Class) (comp : ClassId), s.vm.classes[cA]? = some kA → kA.kind = .array comp (.object C) → s.vm.findClass C = some comp → s.vm.findClass ("[" ++ (FieldType.object C).toString) = some cA → va_RA s cA (.object C) := by
    intro C cA kA comp h1 h2 h3 h4
    unfold va_RA
    exact ⟨kA, comp, h1, h2, h3, h4⟩
  refine ⟨(fun c => (Classical.choose (kn2 c)).1, fun c => (Classical.choose (kn2 c)).2), fun k => if k = 1 then c1 else if k = 2 then c2 else if k = 3 then c3 else if k = 4 then c4 else if k = 5 then c5 else c6, ?_, ?_⟩
  · intro c q hq
    have hc : c < 8 := Nat.lt_of_lt_of_le (List.getElem?_eq_some_iff.mp hq).1 (by decide)
    have hq2 := vwAt hc
    rw [hq] at hq2
    have e9 := Option.some.inj hq2
    rw [e9]
    exact Classical.choose_spec (kn2 c) hc
  · intro k q hq
    match k, hq with
    | 0, hq => cases hq; exact ⟨ar c1 k1 m1 .int g1 d1, f1⟩
    | 1, hq => cases hq; exact ⟨ar c2 k2 m2 .byte g2 d2, f2⟩
    | 2, hq => cases hq; exact ⟨ar c3 k3 m3 .long g3 d3, f3⟩
    | 3, hq => cases hq; exact ⟨ar c4 k4 m4 (.object RX2) g4 d4, ra RX2 c4 k4 m4 g4 d4 n4 f4⟩
    | 4, hq => cases hq; exact ⟨ar c5 k5 m5 (.object RX3) g5 d5, ra RX3 c5 k5 m5 g5 d5 n5 f5⟩
    | 5, hq => cases hq; exact ⟨ar c6 k6 m6 (.array .int) g6 d6, f6⟩
    | k + 6, hq => simp [tyN] at hq
theorem fl_1 : ∀ i, i < 12 → Cond.exactly (.string RX5 (strI.getD i 0)) "java/lang/String" ∈ flatC (Cond.and given_1 narrow_1) := by decide +kernel
theorem fl_2 : ∀ i, i < 12 → Cond.eq (.field (.string RX5 (strI.getD i 0)) "java/lang/String" "coder" "B") (.int 0) ∈ flatC (Cond.and given_1 narrow_1) := by decide +kernel
theorem fl_3 : ∀ i, i < 12 → Cond.arrayOf (.field (.string RX5 (strI.getD i 0)) "java/lang/String" "value" "[B") .byte ∈ flatC (Cond.and given_1 narrow_1) := by decide +kernel
theorem fl_4 : ∀ i, i < 12 → Cond.eq (.length (.field (.string RX5 (strI.getD i 0)) "java/lang/String" "value" "[B")) (.int (Int32.ofNat (strN.getD i 0))) ∈ flatC (Cond.and given_1 narrow_1) := by decide +kernel
theorem fl_5 : ∀ i, i < 12 → ∀ j, j < strN.getD i 0 → Cond.eq (.elem (.field (.string RX5 (strI.getD i 0)) "java/lang/String" "value" "[B") (.int (Int32.ofNat j))) (.int ((strB.getD i []).getD j 0)) ∈ flatC (Cond.and given_1 narrow_1) := by decide +kernel
theorem fl_6 : ∀ i, i < 12 → ∀ j, j < 12 → i ≠ j → (Cond.not (Cond.eq (.string RX5 (strI.getD i 0)) (.string RX5 (strI.getD j 0))) ∈ flatC (Cond.and given_1 narrow_1) ∨ Cond.not (Cond.eq (.string RX5 (strI.getD j 0)) (.string RX5 (strI.getD i 0))) ∈ flatC (Cond.and given_1 narrow_1)) := by decide +kernel
theorem fl_7 : ∀ i, i < 12 → strN.getD i 0 < 2 ^ 31 := by decide +kernel
theorem fl_8 : Cond.arrayOf (.static RX1 "ABOVE" "[I") .int ∈ flatC (Cond.and given_1 narrow_1) ∧ Cond.eq (.length (.static RX1 "ABOVE" "[I")) (.int (Int32.ofNat 6)) ∈ flatC (Cond.and given_1 narrow_1) ∧ Cond.eq (.static "java/lang/String" "COMPACT_STRINGS" "Z") (.int 1) ∈ flatC (Cond.and given_1 narrow_1) ∧ Cond.isRef (.static "jdk/internal/util/Preconditions" "SIOOBE_FORMATTER" "Ljava/util/function/BiFunction;") ∈ flatC (Cond.and given_1 narrow_1) := by decide +kernel
theorem fl_9 : ∀ j, j < 6 → Cond.eq (.elem (.static RX1 "ABOVE" "[I") (.int (Int32.ofNat j))) (.int (Int32.ofInt (aboveF j))) ∈ flatC (Cond.and given_1 narrow_1) := by decide +kernel
/-- what was there before the law: the strings, the table, the statics -/
theorem st_X {a : Array Value} (hts : ∀ w ∈ lw_tbl, w.before a s = true) (hgv : (Cond.and given_1 narrow_1).before a s = true) : ∃ (adK adV : Nat → Nat) (t : Nat), vk_S 12 strN strB adK adV (fun q => s.heap.size ≤ q) s s.heap ∧ (∀ i, i < 12 → (Term.string RX5 (strI.getD i 0)).eval a s none [] s = some (.ref (adK i))) ∧ va_Z RX1 "ABOVE" "[I" (.ref t) (fun q => s.heap.size ≤ q) s s.heap ∧ va_T .int t 6 (fun j => .int (Int32.ofInt (aboveF j))) (fun q => s.heap.size ≤ q) s s.heap ∧ va_Z "java/lang/String" "COMPACT_STRINGS" "Z" (.int 1) (fun q => s.heap.size ≤ q) s s.heap ∧ va_Zq "jdk/internal/util/Preconditions" "SIOOBE_FORMATTER" "Ljava/util/function/BiFunction;" (fun q => s.heap.size ≤ q) s s.heap := by
  have hs := flat_of_before _ hgv
  have hA : ∀ q : Nat, q < s.heap.size → ¬ (fun q => s.heap.size ≤ q) q := fun q h => Nat.not_le.mpr h
  obtain ⟨adK, adV, hS, hT⟩ := vk_Sof (N := 12) (tm := fun i => Term.string RX5 (strI.getD i 0)) (len := strN) (byt := strB) (A := fun q => s.heap.size ≤ q) fl_7 (fun i hi => hs _ (fl_1 i hi)) (fun i hi => hs _ (fl_2 i hi)) (fun i hi => hs _ (fl_3 i hi)) (fun i hi => hs _ (fl_4 i hi)) (fun i hi j hj => hs _ (fl_5 i hi j hj)) (fun i j hi hj hij => by
    rcases fl_6 i hi j hj hij with h | h
    · exact Or.inl (hs _ h)
    · exact Or.inr (hs _ h)) hA
  obtain ⟨t, ht, hTb⟩ := va_Tof (tm := .static RX1 "ABOVE" "[I") (ty := .int) (N := 6) (f := fun j => .int (Int32.ofInt (aboveF j))) (A := fun q => s.heap.size ≤ q) (by decide) (hs _ fl_8.1) (va_eqt (hs _ fl_8.2.1)) (fun j hj => va_eqt (hs _ (fl_9 j hj))) hA
  exact ⟨adK, adV, t, hS, hT, va_Zof (hts _ st_z.1.1) (hts _ st_z.1.2) ht hA, hTb, va_Zof (hts _ st_z.2.1.1) (hts _ st_z.2.1.2) (va_eqi (hs _ fl_8.2.2.1)) hA, va_Zqof (hts _ st_z.2.2.1) (hts _ st_z.2.2.2) (hs _ fl_8.2.2.2) hA⟩
/-- the ground that the loop stands on -/
theorem st_LC {b L : Nat} {xs : Nat → Int32} {ad qs : List Nat} {a2 t : Nat} {adK adV : Nat → Nat} (hx : p.tables.exec = Jvm.exec) (hb : c.code = code) (hml : c.maxLocals = 4) (hown : s.vm.findClass "OneStairLaw" = some m.cls) (hts : ∀ w ∈ lw_tbl, w.before #[Value.ref b] s = true) (hX : va_X b L xs s s.heap) (hbl : b < s.heap.size) (hK : va_K D vwCl (tyN ff) s) (hD : va_D (fun q => s.heap.size ≤ q) (wsG (D, adrN ad a2 qs adK adV t, ff) hI))
    (x1 : vk_S 12 strN strB adK adV (fun q => s.heap.size ≤ q) s s.heap) (x2 : ∀ i, i < 12 → (Term.string RX5 (strI.getD i 0)).eval #[Value.ref b] s none [] s = some (.ref (adK i))) (x3 : va_Z RX1 "ABOVE" "[I" (.ref t) (fun q => s.heap.size ≤ q) s s.heap) (x4 : va_T .int t 6 (fun j => .int (Int32.ofInt (aboveF j))) (fun q => s.heap.size ≤ q) s s.heap) (x5 : va_Z "java/lang/String" "COMPACT_STRINGS" "Z" (.int 1) (fun q => s.heap.size ≤ q) s s.heap) (x6 : va_Zq "jdk/internal/util/Preconditions" "SIOOBE_FORMATTER" "Ljava/util/function/BiFunction;" (fun q => s.heap.size ≤ q) s s.heap) : LC (D, adrN ad a2 qs adK adV t, ff) p s m meth c b L xs := by
  have hAG : ∀ q, AG (D, adrN ad a2 qs adK adV t, ff) q → s.heap.size ≤ q := by
    intro q hq
    obtain ⟨k, hk, e1⟩ := hq
    have := hD.2 k _ (wsG_at (D, adrN ad a2 qs adK adV t, ff) hI hk)
    rw [e1]
    exact this
  have eK : ∀ i, i < 12 → adrN ad a2 qs adK adV t (1000 + i) = adK i := fun i hi => by
    unfold adrN
    rw [if_neg (by omega), if_neg (by omega), if_neg (by omega), if_pos (by omega), Nat.add_sub_cancel_left]
  have eV : ∀ i, i < 12 → adrN ad a2 qs adK adV t (1100 + i) = adV i := fun i hi => by
    unfold adrN
    rw [if_neg (by omega), if_neg (by omega), if_neg (by omega), if_neg (by omega), if_pos (by omega), Nat.add_sub_cancel_left]
  have et : adrN ad a2 qs adK adV t 2000 = t := by
    unfold adrN
    rw [if_neg (by omega), if_neg (by omega), if_neg (by omega), if_neg (by omega), if_neg (by omega)]
  refine ⟨hx, hb, hml, hown, fun w hw => hts w (List.mem_filter.mp hw).1, hX, hbl, ⟨?_, hK, ?_, ?_, ?_⟩, ⟨?_, ?_, ?_, ?_, ?_⟩, hAG⟩
  · intro i j hi hj hij
    exact hD.1 i j _ _ (wsG_at (D, adrN ad a2 qs adK adV t, ff) hI hi) (wsG_at (D, adrN ad a2 qs adK adV t, ff) hI hj) hij
  · intro e he hn
    have h1 := hts _ (fld_in e he)
    obtain ⟨a1, n1, b1, c1, f1, e9⟩ := fldW_nest hn
    rw [e9] at h1 ⊢
    exact va_Nw.of rfl h1
  · intro e he hn
    have h1 := hts _ (mth_in e he)
    rw [mthW_nest hn] at h1 ⊢
    exact va_Nw.of rfl h1
  · intro j hj
    have h2 := x2 j hj
    rw [← eK j hj] at h2
    exact vk_R.of (hts _ (st_s j hj)) h2
  · have y1 := vk_S.narrow x1 hAG
    refine ⟨fun i hi => ?_, fun i j hi hj hij => ?_⟩
    · have q := y1.1 i hi
      rw [← eK i hi, ← eV i hi] at q
      exact q
    · have hij : adrN ad a2 qs adK adV t (1000 + i) = adrN ad a2 qs adK adV t (1000 + j) := hij
      rw [eK i hi, eK j hj] at hij
      exact y1.2 i j hi hj hij
  · have y3 := va_Z.narrow x3 hAG
    rw [← et] at y3
    exact y3
  · have y4 := va_T.narrow x4 hAG
    rw [← et] at y4
    exact y4
  · exact va_Z.narrow x5 hAG
  · exact va_Zq.narrow x6 hAG
theorem ls_0 : decode code 0 = .ok (.new 7, 3) := by decide +kernel
theorem ls_3 : decode code 3 = .ok (.dup, 1) := by decide +kernel
theorem ls_4 : decode code 4 = .ok (.invokespecial 9, 3) := by decide +kernel
theorem ls_7 : decode code 7 = .ok (.astore_n 1, 1) := by decide +kernel
theorem ls_8 : decode code 8 = .ok (.new 10, 3) := by decide +kernel
theorem ls_11 : decode code 11 = .ok (.dup, 1) := by decide +kernel
theorem ls_12 : decode code 12 = .ok (.invokespecial 12, 3) := by decide +kernel
theorem ls_15 : decode code 15 = .ok (.astore_n 2, 1) := by decide +kernel
theorem ls_16 : decode code 16 = .ok (.iconst 0, 1) := by decide +kernel
theorem ls_17 : decode code 17 = .ok (.istore_n 3, 1) := by decide +kernel
theorem ls_w1 : Cond.classLink "OneStairLaw" 7 (vwCl.getD 6 ("", TX1, 0)).1 ∈ lw_tbl ∧ Cond.instantiable (vwCl.getD 6 ("", TX1, 0)).1 (vwCl.getD 6 ("", TX1, 0)).2.2 ∈ lw_tbl ∧ Cond.initialized (vwCl.getD 6 ("", TX1, 0)).1 ∈ lw_tbl ∧ Cond.code ⟨RX7, "<init>", "()V"⟩ prog_1_method_1_code 2 none ∈ lw_tbl ∧ Cond.instanceMethod ⟨RX7, "<init>", "()V"⟩ ∈ lw_tbl ∧ Cond.initialized (⟨RX7, "<init>", "()V"⟩ : MethodName).cls ∈ lw_tbl ∧ Cond.methodLink "OneStairLaw" 9 ⟨RX7, "<init>", "()V"⟩ ∈ lw_tbl := by decide +kernel
theorem ls_w2 : Cond.classLink "OneStairLaw" 10 (vwCl.getD 7 ("", TX1, 0)).1 ∈ lw_tbl ∧ Cond.instantiable (vwCl.getD 7 ("", TX1, 0)).1 (vwCl.getD 7 ("", TX1, 0)).2.2 ∈ lw_tbl ∧ Cond.initialized (vwCl.getD 7 ("", TX1, 0)).1 ∈ lw_tbl ∧ Cond.code ⟨RX8, "<init>", "()V"⟩ prog_10_method_1_code 1 none ∈ lw_tbl ∧ Cond.instanceMethod ⟨RX8, "<init>", "()V"⟩ ∈ lw_tbl ∧ Cond.initialized (⟨RX8, "<init>", "()V"⟩ : MethodName).cls ∈ lw_tbl ∧ Cond.methodLink "OneStairLaw" 12 ⟨RX8, "<init>", "()V"⟩ ∈ lw_tbl := by decide +kernel
theorem ls_f1 : ∀ j, j < (vwCl.getD 6 ("", TX1, 0)).2.2 → defaultValue (tyCl 6 j) = vp_V [.null, .null, .null, .int 0, .null, .null, .null, .null, .int 0, .null, .null, .null] j := by decide +kernel
theorem ls_f2 : ∀ j, j < (vwCl.getD 7 ("", TX1, 0)).2.2 → defaultValue (tyCl 7 j) = vp_V [.int 0, .int 0, .null, .null, .null, .int 0, .null, .null, .null, .int 0, .int 0, .null, .int 0, .int 0, .int 0, .int 0, .long 0, .int 0, .int 0, .int 0, .int 0, .int 0, .null, .null, .null, .null, .null, .null, .null, .null, .null, .null, .null, .null, .null, .int 0, .int 0, .null, .null, .null, .null, .null, .null, .int 0, .int 0, .int 0, .null, .int 0, .int 0, .int 0, .null, .int 0, .null] j := by decide +kernel
theorem ls_y1 : (⟨RX7, "<init>", "()V"⟩ : MethodName).name = "<init>" ∧ (⟨RX7, "<init>", "()V"⟩ : MethodName).cls ≠ "java/lang/invoke/MethodHandle" ∧ (⟨RX7, "<init>", "()V"⟩ : MethodName).cls ≠ "java/lang/invoke/VarHandle" ∧ npar ⟨RX7, "<init>", "()V"⟩ = some 0 := by decide +kernel
theorem ls_y2 : (⟨RX8, "<init>", "()V"⟩ : MethodName).name = "<init>" ∧ (⟨RX8, "<init>", "()V"⟩ : MethodName).cls ≠ "java/lang/invoke/MethodHandle" ∧ (⟨RX8, "<init>", "()V"⟩ : MethodName).cls ≠ "java/lang/invoke/VarHandle" ∧ npar ⟨RX8, "<init>", "()V"⟩ = some 0 := by decide +kernel
end L4START
