section CALL
variable {G : GD} {l : Launch} {i d pc : Nat} {ls : LcT} {st : List AV} {h : AH} {Q : Option AV → AH → Prop}
theorem cat_le (G : GD) : ∀ st : List AV, ((st.map (rv G)).map fun v => v.category).sum ≤ 2 * st.length
  | [] => by simp
  | v :: r => by
    have h1 := cat_le G r
    have h2 : (rv G v).category ≤ 2 := by rcases lv_cat (rv G v) with h | h <;> omega
    simp only [List.map_cons, List.sum_cons, List.length_cons]
    omega
theorem wp_acpy {k0 k1 : Nat} {sp dp n : Int} (hd : decode (mrec i).2.2.1 pc = .ok (.invokestatic acpyI, 3)) (ho : (mrec i).1 = 6) (hk : (sh k0).1 = 1 ∧ (sh k1).1 = 1 ∧ st.length ≤ 4) (hb : 0 ≤ sp ∧ 0 ≤ dp ∧ 0 ≤ n ∧ sp + n ≤ (sh k0).2.1 ∧ dp + n ≤ (sh k1).2.1)
    (kk : Wp G l i d (pc + 3) ls st (hcpy h k0 k1 sp.toNat dp.toNat n.toNat) Q) : Wp G l i d pc ls (vI n :: vI dp :: vR k1 :: vI sp :: vR k0 :: st) h Q := by
  intro p e s m args below meth c H locs la C hS hP hO hl hst
  obtain ⟨hx, hbb, -, hml, hown, hts, -, ⟨hin, hK, -, -, -⟩, -⟩ := id C
  have hn : R32 n := okh hst
  have hdp : R32 dp := okh (okt hst)
  have hsp : R32 sp := okh (okt (okt (okt hst)))
  rw [ho] at hown
  have a0 : (wsG G h)[k0]? = some (G.2.1 k0, .inl (G.2.2 1, (sh k0).2.1, .inl (fun i => Int32.ofInt (h k0 i)))) := by rw [wsG_at G h (sh_lt (by omega)), cellG_1 hk.1]
  have a1 : (wsG G h)[k1]? = some (G.2.1 k1, .inl (G.2.2 1, (sh k1).2.1, .inl (fun i => Int32.ofInt (h k1 i)))) := by rw [wsG_at G h (sh_lt (by omega)), cellG_1 hk.2.1]
  have nn : ∀ {z : Int}, R32 z → 0 ≤ z → ¬ Int32.ofInt z < 0 := fun hz h0 => by rw [zero32, lt32 hz r32_0]; omega
  have hc := cat_le G st
  refine va_copyi (ws := wsG G h) hx hbb (hml.trans hl.1.1.symm) hown (hts _ (wG_of acp_in.1 rfl)) (hts _ (wG_of acp_in.2.1 rfl)) (hts _ (wG_of acp_in.2.2.1 rfl)) (hts _ (wG_of acp_in.2.2.2 rfl)) hK hP (wsG_D h hin) hS k0 k1 0 0 a0 a1 rfl rfl rfl (nn hsp hb.1) (nn hdp hb.2.1) (nn hn hb.2.2.1) (by rw [clamp hsp, clamp hn]; omega) (by rw [clamp hdp, clamp hn]; omega) (fun _ _ => rfl) (show 1 ≤ d + 1 by omega) (by
    show _ ≤ 40 * (d + 1)
    have hf : nativeFrameWords "java/lang/System" "arraycopy" 5 + 11 ≤ 32 := by decide
    omega) hd fun H1 locs1 hP1 _ hS1 => ?_
  refine kk p e s m args below meth c H1 locs1 la C hS1 ?_ ?_ hl (okt (okt (okt (okt (okt hst)))))
  · rw [wsG_set G (h := h) (k := k1) (fun a ha => by funext b; simp [hcpy, ha]), cellG_1 hk.2.1]
    have e9 : (fun a => Int32.ofInt (hcpy h k0 k1 sp.toNat dp.toNat n.toNat k1 a)) = va_cpy (fun a => Int32.ofInt (h k0 a)) (fun a => Int32.ofInt (h k1 a)) (Int32.ofInt sp).toNatClampNeg (Int32.ofInt dp).toNatClampNeg (Int32.ofInt n).toNatClampNeg := by
      funext a
      rw [clamp hsp, clamp hdp, clamp hn]
      unfold va_cpy hcpy
      by_cases q : dp.toNat ≤ a ∧ a < dp.toNat + n.toNat
      · rw [if_pos ⟨rfl, q⟩, if_pos q]
      · rw [if_neg (fun z => q z.2), if_neg q]
    rw [e9]
    exact hP1
  · intro a b
    unfold hcpy
    split
    · next q =>
      obtain ⟨rfl, -⟩ := q
      have := slOk_1 hO (j := sp.toNat + (b - dp.toNat)) hk.1
      unfold slOk
      rw [hk.2.1]
      simp
      exact this
    · exact hO a b
theorem max32 {a b : Int} (ha : R32 a) (hb : R32 b) : (if Int32.ofInt a < Int32.ofInt b then Int32.ofInt b else Int32.ofInt a) = Int32.ofInt (max a b) := by
  by_cases q : a < b
  · rw [if_pos ((lt32 ha hb).mpr q), show max a b = b by omega]
  · rw [if_neg (fun z => q ((lt32 ha hb).mp z)), show max a b = a by omega]
theorem min32 {a b : Int} (ha : R32 a) (hb : R32 b) : (if Int32.ofInt b < Int32.ofInt a then Int32.ofInt b else Int32.ofInt a) = Int32.ofInt (min a b) := by
  by_cases q : b < a
  · rw [if_pos ((lt32 hb ha).mpr q), show min a b = b by omega]
  · rw [if_neg (fun z => q ((lt32 hb ha).mp z)), show min a b = a by omega]
theorem wp_max {x : Nat} {a b : Int} (hd : decode (mrec i).2.2.1 pc = .ok (.invokestatic x, 3)) (hx : ((mrec i).1, x, true) ∈ mmxT) (hr : st.length ≤ 8) (kk : Wp G l i d (pc + 3) ls (vI (max a b) :: st) h Q) : Wp G l i d pc ls (vI b :: vI a :: st) h Q := by
  intro p e s m args below meth c H locs la C hS hP hO hl hst
  obtain ⟨hx0, hbb, -, hml, hown, hts, -⟩ := id C
  have hb : R32 b := okh hst
  have ha : R32 a := okh (okt hst)
  have hc := cat_le G st
  have hm : R32 (max a b) := by unfold R32 at *; omega
  refine va_mmax hx0 hbb (hml.trans hl.1.1.symm) hown (hts _ (wG_of (mmx_in _ hx) rfl)) (hts _ (wG_of (mmx_st true) rfl)) (hts _ (wG_of mmx_cd.2.2 rfl)) (hts _ (wG_of mmx_cd.1 rfl)) (show 1 ≤ d + 1 by omega) (by show _ ≤ 40 * (d + 1); omega) (Nat.le_refl 0) (Nat.le_refl 0) hd ?_
  rw [max32 ha hb]
  exact kk p e s m args below meth c H locs la C hS hP hO hl (okc (show avOk (vI (max a b)) from hm) (okt (okt hst)))
theorem wp_min {x : Nat} {a b : Int} (hd : decode (mrec i).2.2.1 pc = .ok (.invokestatic x, 3)) (hx : ((mrec i).1, x, false) ∈ mmxT) (hr : st.length ≤ 8) (kk : Wp G l i d (pc + 3) ls (vI (min a b) :: st) h Q) : Wp G l i d pc ls (vI b :: vI a :: st) h Q := by
  intro p e s m args below meth c H locs la C hS hP hO hl hst
  obtain ⟨hx0, hbb, -, hml, hown, hts, -⟩ := id C
  have hb : R32 b := okh hst
  have ha : R32 a := okh (okt hst)
  have hc := cat_le G st
  have hm : R32 (min a b) := by unfold R32 at *; omega
  refine va_mmin hx0 hbb (hml.trans hl.1.1.symm) hown (hts _ (wG_of (mmx_in _ hx) rfl)) (hts _ (wG_of (mmx_st false) rfl)) (hts _ (wG_of mmx_cd.2.2 rfl)) (hts _ (wG_of mmx_cd.2.1 rfl)) (show 1 ≤ d + 1 by omega) (by show _ ≤ 40 * (d + 1); omega) (Nat.le_refl 0) (Nat.le_refl 0) hd ?_
  rw [min32 ha hb]
  exact kk p e s m args below meth c H locs la C hS hP hO hl (okc (show avOk (vI (min a b)) from hm) (okt (okt hst)))
-- switches
theorem swT_get {K : Int → Prop} {a : Int} : ∀ (ts : List Int) (lo : Int), swT K a lo ts → ∀ (j : Nat) (t : Int), ts[j]? = some t → a = lo + j → K t
  | [], _, _, j, t, ht, _ => by simp at ht
  | u :: ts, lo, hs, 0, t, ht, ha => by
    simp at ht
    subst ht
    exact hs.1 (by omega)
  | u :: ts, lo, hs, j + 1, t, ht, ha => swT_get ts (lo + 1) hs.2 j t (by simpa using ht) (by omega)
theorem wp_tsw {dflt lo hi : Int} {os : Array Int} {n : Nat} {a : Int} (hd : decode (mrec i).2.2.1 pc = .ok (.tableswitch dflt lo hi os, n)) (h0 : 0 ≤ (pc : Int) + dflt) (h1 : os.toList.all (fun o => decide (0 ≤ (pc : Int) + o)) = true) (h2 : hi = lo + os.size - 1)
    (kd : (a < lo ∨ lo + os.size ≤ a) → Wp G l i d ((pc : Int) + dflt).toNat ls st h Q) (ks : swT (fun t => Wp G l i d t.toNat ls st h Q) a lo (os.toList.map (fun o => (pc : Int) + o))) : Wp G l i d pc ls (vI a :: st) h Q := by
  intro p e s m args below meth c H locs la C hS hP hO hl hst
  have ha : R32 a := okh hst
  by_cases hc : a < lo ∨ lo + os.size ≤ a
  · exact lv_tableOut C.1 C.2.1 hd (by rw [of32 ha]; omega) (show (pc : Int) + dflt = ((((pc : Int) + dflt).toNat : Nat) : Int) by omega) (kd hc p e s m args below meth c H locs la C hS hP hO hl (okt hst))
  · have hlt : (a - lo).toNat < os.size := by omega
    have hj : os[(a - lo).toNat]? = some (os[(a - lo).toNat]) := Array.getElem?_eq_getElem hlt
    have hp : 0 ≤ (pc : Int) + os[(a - lo).toNat] := of_decide_eq_true (List.all_eq_true.mp h1 _ (by simp))
    have hk := swT_get _ _ ks (a - lo).toNat ((pc : Int) + os[(a - lo).toNat]) (by rw [List.getElem?_map, Array.getElem?_toList, hj]; rfl) (by omega)
    exact lv_tableIn C.1 C.2.1 hd (by rw [of32 ha]; omega) (by rw [of32 ha]; omega) (by rw [of32 ha]; exact hj) (show (pc : Int) + os[(a - lo).toNat] = ((((pc : Int) + os[(a - lo).toNat]).toNat : Nat) : Int) by omega) (hk p e s m args below meth c H locs la C hS hP hO hl (okt hst))
theorem lkT_get {K : Int → Prop} {a dflt : Int} {pc : Nat} : ∀ (ps : List (Int × Int)), lkT K a ((pc : Int) + dflt) (ps.flatMap (fun o => [o.1, (pc : Int) + o.2])) → K ((pc : Int) + Op.lookupswitch.offset ps dflt a)
  | [], hs => hs
  | q :: ps, hs => by
    have hs' : (a = q.1 → K ((pc : Int) + q.2)) ∧ (¬ a = q.1 → lkT K a ((pc : Int) + dflt) (ps.flatMap (fun o => [o.1, (pc : Int) + o.2]))) := hs
    obtain ⟨q1, q2⟩ := q
    by_cases e : a = q1
    · have h1 := hs'.1 e
      rw [Op.lookupswitch.offset_cons, if_pos e.symm]
      exact h1
    · rw [Op.lookupswitch.offset_cons, if_neg (fun z => e z.symm)]
      exact lkT_get ps (hs'.2 e)
theorem lkT_pos {pc : Nat} {dflt a : Int} (h0 : 0 ≤ (pc : Int) + dflt) : ∀ (ps : List (Int × Int)), (ps.all (fun o => decide (0 ≤ (pc : Int) + o.2)) = true) → 0 ≤ (pc : Int) + Op.lookupswitch.offset ps dflt a
  | [], _ => h0
  | (q1, q2) :: ps, h => by
    rw [List.all_cons, Bool.and_eq_true] at h
    rw [Op.lookupswitch.offset_cons]
    split
    · exact of_decide_eq_true h.1
    · exact lkT_pos h0 ps h.2
theorem wp_lsw {dflt : Int} {ps : Array (Int × Int)} {n : Nat} {a : Int} (hd : decode (mrec i).2.2.1 pc = .ok (.lookupswitch dflt ps, n)) (h0 : 0 ≤ (pc : Int) + dflt) (h1 : ps.toList.all (fun o => decide (0 ≤ (pc : Int) + o.2)) = true) (h2 : (ps.toList.zip (ps.toList.drop 1)).all (fun (a, next) => a.1 < next.1) = true)
    (ks : lkT (fun t => Wp G l i d t.toNat ls st h Q) a ((pc : Int) + dflt) (ps.toList.flatMap (fun o => [o.1, (pc : Int) + o.2]))) : Wp G l i d pc ls (vI a :: st) h Q := by
  intro p e s m args below meth c H locs la C hS hP hO hl hst
  have ha : R32 a := okh hst
  have hk := lkT_get _ ks
  have hp := lkT_pos (a := a) h0 _ h1
  exact lv_lookup C.1 C.2.1 hd h2 (by rw [of32 ha]) (show (pc : Int) + Op.lookupswitch.offset ps.toList dflt a = ((((pc : Int) + Op.lookupswitch.offset ps.toList dflt a).toNat : Nat) : Int) by omega) (hk p e s m args below meth c H locs la C hS hP hO hl (okt hst))
-- returns
theorem wp_iret {z : Int} (hd : decode (mrec i).2.2.1 pc = .ok (.ireturn, 1)) (hr : (mrec i).2.2.2.2.1 = some .int) (hq : Q (some (vI z)) h) : Wp G l i d pc ls [vI z] h Q := by
  intro p e s m args below meth c H locs la C hS hP hO hl hst
  exact W.iret (v := Int32.ofInt z) C.1 C.2.1 (C.2.2.1.trans hr) (fun t ht hW => ⟨⟨some (vI z), h, rfl, hq, fun v hv => by cases hv; exact okh hst, by rw [ht]; exact hP, hO⟩, hS.F ht⟩) hS.2.2 hd C.2.2.2.2.2.2.1
theorem wp_zret {z : Int} (hd : decode (mrec i).2.2.1 pc = .ok (.ireturn, 1)) (hr : (mrec i).2.2.2.2.1 = some .boolean) (hz : z = 0 ∨ z = 1) (hq : Q (some (vI z)) h) : Wp G l i d pc ls [vI z] h Q := by
  intro p e s m args below meth c H locs la C hS hP hO hl hst
  have hn : narrow .boolean (.int (Int32.ofInt z)) = .int (Int32.ofInt z) := by
    rcases hz with rfl | rfl
    · decide
    · decide
  exact W.zret (v := Int32.ofInt z) C.1 C.2.1 (C.2.2.1.trans hr) hn (fun t ht hW => ⟨⟨some (vI z), h, rfl, hq, fun v hv => by cases hv; exact okh hst, by rw [ht]; exact hP, hO⟩, hS.F ht⟩) hS.2.2 hd C.2.2.2.2.2.2.1
theorem wp_vret (hd : decode (mrec i).2.2.1 pc = .ok (.return_, 1)) (hr : (mrec i).2.2.2.2.1 = none) (hq : Q none h) : Wp G l i d pc ls [] h Q := by
  intro p e s m args below meth c H locs la C hS hP hO hl hst
  exact W.vret C.1 C.2.1 (C.2.2.1.trans hr) (fun t ht hW => ⟨⟨none, h, rfl, hq, fun v hv => (by cases hv), by rw [ht]; exact hP, hO⟩, hS.F ht⟩) hS.2.2 hd C.2.2.2.2.2.2.1
-- calls
theorem fldW_nest {e : Nat × Nat × Nat × Nat × Bool} (he : e.2.2.2.2 = true) : ∃ a n b c f, fldW e = .fieldLinkNest a n b c f "OneStair" := by
  unfold fldW; simp only [he]; exact ⟨_, _, _, _, _, rfl⟩
theorem mthW_nest {e : Nat × Nat × Nat × Bool} (he : e.2.2.2 = true) : mthW e = .methodLinkNest (clsN e.1) e.2.1 (mrec e.2.2.1).2.1 "OneStair" := by
  unfold mthW; simp only [he]; rfl
theorem EnvG.same {u U : State} (hv : u.vm = U.vm) (hE : EnvG G u) : EnvG G U := by
  obtain ⟨h1, h2, h3, h4, h5⟩ := hE
  refine ⟨h1, va_K.moved (by rw [hv]; exact Vm.Alike.refl _) h2, fun e he hn => ?_, fun e he hn => ?_, fun j hj => vk_R.same hv.symm (h5 j hj)⟩
  · have hw := h3 e he hn
    obtain ⟨a, n, b, c, f, e9⟩ := fldW_nest hn
    rw [e9] at hw ⊢
    exact va_Nw.same rfl hv hw
  · have hw := h4 e he hn
    rw [mthW_nest hn] at hw ⊢
    exact va_Nw.same rfl hv hw
theorem EnvG.warm {s U : State} (hW : s.WarmedH U.vm) (hE : EnvG G s) : EnvG G U := by
  obtain ⟨h1, h2, h3, h4, h5⟩ := hE
  refine ⟨h1, va_K.moved hW.alike h2, fun e he hn => ?_, fun e he hn => ?_, fun j hj => vk_R.warm hW (h5 j hj)⟩
  · have hw := h3 e he hn
    obtain ⟨a, n, b, c, f, e9⟩ := fldW_nest hn
    rw [e9] at hw ⊢
    exact va_Nw.warmF hW hw
  · have hw := h4 e he hn
    rw [mthW_nest hn] at hw ⊢
    exact va_Nw.warmM hW hw
theorem ExtG.moved {u U : State} {H : Heap} (hvm : u.vm.Alike U.vm) (hE : ExtG G u H) : ExtG G U H := ⟨vk_S.moved hvm hE.1, va_Z.moved hvm hE.2.1, va_T.moved hvm hE.2.2.1, va_Z.moved hvm hE.2.2.2.1, va_Zq.moved hvm hE.2.2.2.2⟩
theorem ExtG.kept {U : State} {H H1 : Heap} (hE : ExtG G U H) (hq : ∀ a : Nat, a < H.size → ¬ AG G a → H1[a]? = H[a]?) : ExtG G U H1 := ⟨vk_S.kept hE.1 hq, va_Z.kept hE.2.1 hq, va_T.kept hE.2.2.1 hq, va_Z.kept hE.2.2.2.1 hq, va_Zq.kept hE.2.2.2.2 hq⟩
theorem PcG.blind {as : List AV} : FrameBlind (PcG G as h) := by
  intro a U g mk q
  obtain ⟨q0, qP, qO, qE, qX⟩ := q
  exact ⟨q0, qP, qO, EnvG.same (u := U) (U := U.calling g mk a) rfl qE, ExtG.moved (u := U) (U := U.calling g mk a) (Vm.Alike.refl U.vm) qX⟩
theorem PcG.at {as : List AV} {s : State} {H : Heap} {locs : List Loc} (hP : va_P G.1 vwCl (wsG G h) H) (hO : Hok h) (hE : EnvG G s) (hX : ExtG G s s.heap) (hS : va_S (AG G) s.heap H locs) : ∀ U : State, U.heap = H → s.WarmedH U.vm → PcG G as h (as.map (rv G)).toArray U := by
  intro U hU hW
  refine ⟨rfl, by rw [hU]; exact hP, hO, hE.warm hW, ?_⟩
  rw [hU]
  exact (hX.kept hS.2.1).moved hW.alike
theorem goodG {m : Nat} (hm : m < nM) : GoodIn wG (codW m :: wG) := by
  intro w hw
  have h1 : w ∈ wG := by
    rcases List.mem_cons.mp hw with rfl | h
    · exact cod_in hm
    · exact h
  exact ⟨h1, good_of_word (List.mem_filter.mp h1).2⟩
theorem callG {p : Program} {e : Env} {R : Room} {s : State} {m : MethodId} {args : Array Value} {below : List Frame} {meth : Method} {c : Code} {H : Heap} {locs : List Loc} {la : Array Slot} {st0 rest : List Value} {a : Array Value} {QQ : State → Prop} {P : Option AV → AH → Prop}
    (hr : va_Run p l e R s m args below meth c H locs 0 0 0 0 (F0 m pc la st0) rest (QcG G P a) (AG G)) (hS : va_S (AG G) s.heap H locs)
    (kk : ∀ (r : Option AV) (h' : AH) (H1 : Heap) (locs1 : List Loc), P r h' → (∀ v, r = some v → avOk v) → va_P G.1 vwCl (wsG G h') H1 → Hok h' → va_S (AG G) s.heap H1 locs1 → W p l e R s m args below meth c H1 locs1 0 0 QQ (F0 m (pc + 3) la ((r.map (rv G)).toList ++ rest))) : W p l e R s m args below meth c H locs 0 0 QQ (F0 m pc la st0) := by
  intro T hT X
  obtain ⟨v, st₀, t, T', L, h0, X', hL, e1, e2, ⟨⟨r, h', hv, hp, hr', hP', hO'⟩, hz, hk⟩, stp9⟩ := hr T hT X
  cases hv
  rw [h0] at hz hk
  obtain ⟨t2, a1, b1⟩ := kk r h' T'.heap (locs ++ L) hp hr' (by rw [e1]; exact hP') hO'
    ⟨Nat.le_trans hS.1 (by rw [e1]; exact hz), fun q h1 h2 => by rw [e1, hk q (Nat.lt_of_lt_of_le h1 hS.1) h2]; exact hS.2.1 q h1 h2, fun q hq => by
      rcases List.mem_append.mp hq with h | h
      · exact hS.2.2 q h
      · exact hL q h⟩ T' rfl X'
  exact ⟨t2, stp9 t2 a1, b1⟩
theorem mthAt_spec {own j m : Nat} (h : mthAt own j = some m) : ∃ b : Bool, (own, j, m, b) ∈ mthT := by
  unfold mthAt at h
  cases e : mthT.find? (fun e => e.1 == own && e.2.1 == j) with
  | none => rw [e] at h; cases h
  | some x =>
    rw [e] at h
    have hm := List.mem_of_find?_eq_some e
    have hp := List.find?_some e
    obtain ⟨x1, x2, x3, x4⟩ := x
    simp only [Option.map_some, Option.some.injEq] at h
    simp only [Bool.and_eq_true, beq_iff_eq] at hp
    obtain ⟨h3, h4⟩ := hp
    exact ⟨x4, by rw [← h, ← h3, ← h4]; exact hm⟩
theorem mthT_lt : ∀ e ∈ mthT, e.2.2.1 < nM ∧ (e.2.2.2 = true → stF.getD e.2.2.1 false = true) := by decide +kernel
theorem rmD_fit {d d' n : Nat} (h : d' < d) (hn : n ≤ 20) : (rmD d').frames + 1 ≤ (rmD d).frames ∧ 8 + (n + 11) + (rmD d').locals ≤ (rmD d).locals := by
  show d' + 1 + 1 ≤ d + 1 ∧ 8 + (n + 11) + 40 * (d' + 1) ≤ 40 * (d + 1)
  omega
theorem mOk_spec {m : Nat} (h : m < nM) : ((mrec m).2.1.cls ≠ "java/lang/invoke/MethodHandle" ∧ (mrec m).2.1.cls ≠ "java/lang/invoke/VarHandle") ∧ clsN (mrec m).1 = (mrec m).2.1.cls ∧ (mrec m).2.2.2.1 ≤ 20 ∧ ((mrec m).1 = 11 ∨ stF.getD m false = true ∨ (vwOf (mrec m).1 < 8 ∧ (vwCl.getD (vwOf (mrec m).1) ("", TX1, 0)).1 = (mrec m).2.1.cls)) := by
  have h1 := mth_ok h
  simp only [mOk, Bool.and_eq_true, Bool.or_eq_true, decide_eq_true_eq] at h1
  obtain ⟨⟨⟨⟨a, b⟩, c⟩, d⟩, e⟩ := h1
  refine ⟨⟨a, b⟩, c, d, ?_⟩
  rcases e with (e | e) | e
  · exact Or.inl e
  · exact Or.inr (Or.inl e)
  · exact Or.inr (Or.inr e)
theorem wp_calls {x m n d' : Nat} {P : Option AV → AH → Prop} {as : List AV} (hd : decode (mrec i).2.2.1 pc = .ok (.invokestatic x, 3)) (hm : mthAt (mrec i).1 x = some m) (hn : npar (mrec m).2.1 = some n) (hs : stF.getD m false = true) (hl4 : st.length ≤ 4) (has : as.length = n) (hd' : d' < d) (hc : CallR G l d' m as h P)
    (kk : ∀ r h', P r h' → Wp G l i d (pc + 3) ls (r.toList ++ st) h' Q) : Wp G l i d pc ls (as.reverse ++ st) h Q := by
  intro p e s mm args below meth c H locs la C hS hP hO hl hst
  obtain ⟨b, hmt⟩ := mthAt_spec hm
  obtain ⟨hlt, -⟩ := mthT_lt _ hmt
  obtain ⟨hx, hbb, -, hml, hown, hts, -, hE, hX⟩ := id C
  obtain ⟨hy, hcl, hmx, -⟩ := mOk_spec hlt
  have hok : ∀ v ∈ as, avOk v := fun v hv => hst v (List.mem_append_left _ (List.mem_reverse.mpr hv))
  have hM := hc hok hO
  have hini : (Cond.initialized (mrec m).2.1.cls).before args s = true := hts _ (wG_of (ini_in0 m (List.mem_range.mpr hlt)) rfl)
  have hstat : (Cond.static (mrec m).2.1).before args s = true := by
    have := knd_in0 m (List.mem_range.mpr hlt)
    rw [if_pos hs] at this
    exact hts _ (wG_of this rfl)
  have hcat := cat_le G st
  have hstk : (F0 mm pc la ((as.reverse ++ st).map (rv G))).stack = (as.map (rv G)).reverse ++ st.map (rv G) := by
    show (as.reverse ++ st).map (rv G) = _
    rw [List.map_append, List.map_reverse]
  have cont : ∀ (r : Option AV) (h' : AH) (H1 : Heap) (locs1 : List Loc), P r h' → (∀ v, r = some v → avOk v) → va_P G.1 vwCl (wsG G h') H1 → Hok h' → va_S (AG G) s.heap H1 locs1 → W p l e (rmD d) s mm args below meth c H1 locs1 0 0 (MQ below (QcG G Q) args s 0 0 (AG G)) (F0 mm (pc + 3) la ((r.map (rv G)).toList ++ st.map (rv G))) := by
    intro r h' H1 locs1 hp hr hP1 hO1 hS1
    have K := kk r h' hp p e s mm args below meth c H1 locs1 la C hS1 hP1 hO1 hl (fun v hv => by
      rcases List.mem_append.mp hv with h9 | h9
      · exact hr v (by cases r <;> simp_all)
      · exact hst v (List.mem_append_right _ h9))
    have e9 : (r.toList ++ st).map (rv G) = (r.map (rv G)).toList ++ st.map (rv G) := by cases r <;> simp
    rw [e9] at K
    exact K
  cases b with
  | false =>
    have hlink : (Cond.methodLink (clsN (mrec i).1) x (mrec m).2.1).before args s = true := hts _ (wG_of (mth_in _ hmt) rfl)
    exact callG (va_runS (Ts := wG) (nL := (mrec i).2.2.2.1) ⟨hx, hbb, hml, hown, hts⟩ hM ⟨callB_of n hts (goodG hlt) rfl rfl rfl hini hlink ⟨hy.1, hy.2, hn⟩ (rmD_fit hd' hmx), hstat⟩ ⟨PcG.blind, PcG.at hP hO hE hX hS⟩ rfl (by simpa using has) hl.1.1 hstk (lv_room (by omega)) hd ⟨Nat.zero_le _, Nat.zero_le _⟩) hS cont
  | true =>
    have hnw := hE.2.2.2.1 _ hmt rfl
    rw [mthW_nest rfl] at hnw
    exact callG (va_runSN (Ts := wG) (nL := (mrec i).2.2.2.1) ⟨hx, hbb, hml, hown, hts⟩ hM ⟨va_cnB n hts (goodG hlt) rfl rfl rfl hnw hini ⟨hy.1, hy.2, hn⟩ (rmD_fit hd' hmx), hstat, trivial⟩ ⟨PcG.blind, PcG.at hP hO hE hX hS⟩ rfl (by simpa using has) hl.1.1 hstk (lv_room (by omega)) hd ⟨Nat.zero_le _, Nat.zero_le _⟩) hS cont
theorem wp_callv {x m n d' k : Nat} {P : Option AV → AH → Prop} {as : List AV} (hd : decode (mrec i).2.2.1 pc = .ok (.invokevirtual x, 3)) (hm : mthAt (mrec i).1 x = some m) (hn : npar (mrec m).2.1 = some n) (hs : stF.getD m false = false) (hl4 : st.length ≤ 4) (has : as.length = n) (hd' : d' < d)
    (hk : ((mrec m).1 = 11 ∧ 1000 ≤ k ∧ k < 1012) ∨ ((mrec m).1 ≠ 11 ∧ (sh k).1 = 0 ∧ (sh k).2.1 = vwOf (mrec m).1)) (hc : CallR G l d' m (vR k :: as) h P)
    (kk : ∀ r h', P r h' → Wp G l i d (pc + 3) ls (r.toList ++ st) h' Q) : Wp G l i d pc ls (as.reverse ++ vR k :: st) h Q := by
  intro p e s mm args below meth c H locs la C hS hP hO hl hst
  obtain ⟨b, hmt⟩ := mthAt_spec hm
  obtain ⟨hlt, hnest⟩ := mthT_lt _ hmt
  have hb : b = false := by
    cases b with
    | false => rfl
    | true => rw [hnest rfl] at hs; cases hs
  subst hb
  obtain ⟨hx, hbb, -, hml, hown, hts, -, hE, hX⟩ := id C
  obtain ⟨hy, hcl, hmx, hrest⟩ := mOk_spec hlt
  have hok : ∀ v ∈ vR k :: as, avOk v := okc trivial (fun v hv => hst v (List.mem_append_left _ (List.mem_reverse.mpr hv)))
  have hM := hc hok hO
  have hini : (Cond.initialized (mrec m).2.1.cls).before args s = true := hts _ (wG_of (ini_in0 m (List.mem_range.mpr hlt)) rfl)
  have hinst : (Cond.instanceMethod (mrec m).2.1).before args s = true := by
    have := knd_in0 m (List.mem_range.mpr hlt)
    rw [if_neg (by rw [hs]; decide)] at this
    exact hts _ (wG_of this rfl)
  have hsel : (Cond.selects (mrec m).2.1.cls (mrec m).2.1 (mrec m).2.1).before args s = true := by
    have := sel_in0 m (List.mem_range.mpr hlt)
    rw [if_neg (by rw [hs]; decide)] at this
    exact hts _ (wG_of this rfl)
  have hrecv : ∃ cellB : Cell, H[G.2.1 k]? = some cellB ∧ cellB.vm.isStatics = false ∧ s.vm.findClass (mrec m).2.1.cls = some cellB.cls := by
    rcases hk with ⟨h11, k1, k2⟩ | ⟨h11, k1, k2⟩
    · have := vk_recv (i := k - 1000) hX.1 (by omega) hS
      rw [show 1000 + (k - 1000) = k by omega] at this
      rw [← hcl, h11]
      exact this
    · rcases hrest with h | h | ⟨h8, hcls⟩
      · exact absurd h h11
      · rw [hs] at h; cases h
      · have hat : (wsG G h)[k]? = some (G.2.1 k, .inr ((sh k).2.1, (sh k).2.2.mapIdx (fun i c => rv G (fv h k i c)))) := by
          rw [wsG_at G h (sh_lt (by omega)), cellG_0 k1]
        rw [k2] at hat
        have := va_recv hE.2.1 hP (vwAt h8) hat
        rw [hcls] at this
        exact this
  have hcat := cat_le G st
  have hstk : (F0 mm pc la ((as.reverse ++ vR k :: st).map (rv G))).stack = (as.map (rv G)).reverse ++ Value.ref (G.2.1 k) :: st.map (rv G) := by
    show (as.reverse ++ vR k :: st).map (rv G) = _
    rw [List.map_append, List.map_reverse]
    rfl
  have hlink : (Cond.methodLink (clsN (mrec i).1) x (mrec m).2.1).before args s = true := hts _ (wG_of (mth_in _ hmt) rfl)
  refine callG (va_runV (Ts := wG) (nL := (mrec i).2.2.2.1) (C := (mrec m).2.1.cls) (b := G.2.1 k) (As := as.map (rv G)) ⟨hx, hbb, hml, hown, hts⟩ hM ⟨callB_of n hts (goodG hlt) rfl rfl rfl hini hlink ⟨hy.1, hy.2, hn⟩ (rmD_fit hd' hmx), hinst, hsel⟩ ⟨PcG.blind, hrecv, fun U hU hW => PcG.at (as := vR k :: as) hP hO hE hX hS U hU hW⟩ rfl (by simpa using has) hl.1.1 hstk (lv_room (by omega)) hd ⟨Nat.zero_le _, Nat.zero_le _⟩) hS ?_
  intro r h' H1 locs1 hp hr hP1 hO1 hS1
  have K := kk r h' hp p e s mm args below meth c H1 locs1 la C hS1 hP1 hO1 hl (fun v hv => by
    rcases List.mem_append.mp hv with h9 | h9
    · exact hr v (by cases r <;> simp_all)
    · exact hst v (List.mem_append_right _ (List.mem_cons_of_mem _ h9)))
  have e9 : (r.toList ++ st).map (rv G) = (r.map (rv G)).toList ++ st.map (rv G) := by cases r <;> simp
  rw [e9] at K
  exact K
end CALL
