section L4NEW
variable {p : Program} {l : Launch} {e : Env} {R : Room} {s : State} {m : MethodId} {args : Array Value} {below : List Frame} {meth : Method} {c : Code} {H H0 : Heap} {locs : List Loc} {cells slots : Nat} {Q : State → Prop} {cc : ByteArray} {pc : Nat} {ls : Array Slot} {D : va_G} {A : Nat → Prop} {a : Nat} {ff : Nat → ClassId} {ws : va_W} {rest : List Value} {own : String}
/-- the array classes, by numbers -/
def tyN (ff : Nat → ClassId) : List (ClassId × FieldType) := [(ff 1, .int), (ff 2, .byte), (ff 3, .long), (ff 4, .object RX2), (ff 5, .object RX3), (ff 6, .array .int)]
theorem nn_ok {n : Nat} (hn : n ≤ 300) : ¬ Int32.ofInt (n : Int) < 0 ∧ (Int32.ofInt (n : Int)).toNatClampNeg = n := by
  have hr : R32 (n : Int) := by unfold R32; omega
  refine ⟨?_, by rw [clamp hr, Int.toNat_natCast]⟩
  rw [zero32, lt32 hr r32_0]; omega
theorem arr_in : Cond.arrayClass .int ∈ lw_tbl ∧ Cond.arrayClass .byte ∈ lw_tbl ∧ Cond.arrayClass .long ∈ lw_tbl := by decide +kernel
theorem n_int (hx : p.tables.exec = Jvm.exec) (hb : c.code = cc) (hts : ∀ w ∈ wG, w.before args s = true) (hK : va_K D vwCl (tyN ff) s) (hP : va_P D vwCl ws H) (hD : va_D A ws) (hS : va_S A H0 H locs) (hA : ∀ q, H0.size ≤ q → A q) (n : Nat) (hn : n ≤ 300) (hcells : cells + 1 ≤ R.cells) (hslots : slots + n ≤ R.slots) (hdg : decode cc pc = .ok (.newarray .int, 2))
    (kk : ∀ (q : Nat) (H1 : Heap), va_P D vwCl (ws ++ [(q, .inl (ff 1, n, .inl (fun _ => 0)))]) H1 → va_D A (ws ++ [(q, .inl (ff 1, n, .inl (fun _ => 0)))]) → va_S A H0 H1 locs → W p l e R s m args below meth c H1 locs (cells + 1) (slots + n) Q (F0 m (pc + 2) ls (.ref q :: rest))) : W p l e R s m args below meth c H locs cells slots Q (F0 m pc ls (.int (Int32.ofInt (n : Int)) :: rest)) := by
  refine va_newa (atype := .int) hx hb (hts _ (wG_of arr_in.1 rfl)) rfl hK hP hD hS hA (a0 := (n, .inl (fun _ => 0))) (fun cA => rfl) (nn_ok hn).1 (nn_ok hn).2 (by show n * 4 ≤ _; omega) hcells hslots hdg (fun q cA H1 hK1 hP1 hD1 hS1 => ?_)
  have e1 := (hK1.2 6 (cA, .int) rfl).2
  have e2 := (hK.2 0 (ff 1, .int) rfl).2
  have e3 : cA = ff 1 := Option.some.inj (Eq.trans (Eq.symm e1) e2)
  subst e3
  exact kk q H1 hP1 hD1 hS1
theorem n_byte (hx : p.tables.exec = Jvm.exec) (hb : c.code = cc) (hts : ∀ w ∈ wG, w.before args s = true) (hK : va_K D vwCl (tyN ff) s) (hP : va_P D vwCl ws H) (hD : va_D A ws) (hS : va_S A H0 H locs) (hA : ∀ q, H0.size ≤ q → A q) (n : Nat) (hn : n ≤ 300) (hcells : cells + 1 ≤ R.cells) (hslots : slots + n ≤ R.slots) (hdg : decode cc pc = .ok (.newarray .byte, 2))
    (kk : ∀ (q : Nat) (H1 : Heap), va_P D vwCl (ws ++ [(q, .inl (ff 2, n, .inl (fun _ => 0)))]) H1 → va_D A (ws ++ [(q, .inl (ff 2, n, .inl (fun _ => 0)))]) → va_S A H0 H1 locs → W p l e R s m args below meth c H1 locs (cells + 1) (slots + n) Q (F0 m (pc + 2) ls (.ref q :: rest))) : W p l e R s m args below meth c H locs cells slots Q (F0 m pc ls (.int (Int32.ofInt (n : Int)) :: rest)) := by
  refine va_newa (atype := .byte) hx hb (hts _ (wG_of arr_in.2.1 rfl)) rfl hK hP hD hS hA (a0 := (n, .inl (fun _ => 0))) (fun cA => rfl) (nn_ok hn).1 (nn_ok hn).2 (by show n * 1 ≤ _; omega) hcells hslots hdg (fun q cA H1 hK1 hP1 hD1 hS1 => ?_)
  have e1 := (hK1.2 6 (cA, .byte) rfl).2
  have e2 := (hK.2 1 (ff 2, .byte) rfl).2
  have e3 : cA = ff 2 := Option.some.inj (Eq.trans (Eq.symm e1) e2)
  subst e3
  exact kk q H1 hP1 hD1 hS1
theorem n_long (hx : p.tables.exec = Jvm.exec) (hb : c.code = cc) (hts : ∀ w ∈ wG, w.before args s = true) (hK : va_K D vwCl (tyN ff) s) (hP : va_P D vwCl ws H) (hD : va_D A ws) (hS : va_S A H0 H locs) (hA : ∀ q, H0.size ≤ q → A q) (n : Nat) (hn : n ≤ 300) (hcells : cells + 1 ≤ R.cells) (hslots : slots + n ≤ R.slots) (hdg : decode cc pc = .ok (.newarray .long, 2))
    (kk : ∀ (q : Nat) (H1 : Heap), va_P D vwCl (ws ++ [(q, .inl (ff 3, n, .inr (.inl (fun _ => 0))))]) H1 → va_D A (ws ++ [(q, .inl (ff 3, n, .inr (.inl (fun _ => 0))))]) → va_S A H0 H1 locs → W p l e R s m args below meth c H1 locs (cells + 1) (slots + n) Q (F0 m (pc + 2) ls (.ref q :: rest))) : W p l e R s m args below meth c H locs cells slots Q (F0 m pc ls (.int (Int32.ofInt (n : Int)) :: rest)) := by
  refine va_newa (atype := .long) hx hb (hts _ (wG_of arr_in.2.2 rfl)) rfl hK hP hD hS hA (a0 := (n, .inr (.inl (fun _ => 0)))) (fun cA => rfl) (nn_ok hn).1 (nn_ok hn).2 (by show n * 8 ≤ _; omega) hcells hslots hdg (fun q cA H1 hK1 hP1 hD1 hS1 => ?_)
  have e1 := (hK1.2 6 (cA, .long) rfl).2
  have e2 := (hK.2 2 (ff 3, .long) rfl).2
  have e3 : cA = ff 3 := Option.some.inj (Eq.trans (Eq.symm e1) e2)
  subst e3
  exact kk q H1 hP1 hD1 hS1
theorem n_put (hx : p.tables.exec = Jvm.exec) (hb : c.code = cc) (hts : ∀ w ∈ wG, w.before args s = true) (hown : s.vm.findClass own = some m.cls) (hin : meth.name = "<init>") (hK : va_K D vwCl (tyN ff) s) (hP : va_P D vwCl ws H) (hD : va_D A ws) (hS : va_S A H0 H locs) {ci k x : Nat} (q0 : Nat) {fs : List Value} {v : Value} (hc8 : ci < 8) (he : ws[q0]? = some (a, .inr (ci, fs))) (hk : k < (vwCl.getD ci ("", TX1, 0)).2.2) (ho : own = (vwCl.getD ci ("", TX1, 0)).1)
    (hw : Cond.fieldLink own x (vwCl.getD ci ("", TX1, 0)).1 ((vwCl.getD ci ("", TX1, 0)).2.1 k).2.1 ((vwCl.getD ci ("", TX1, 0)).2.1 k).2.2.1 ∈ lw_tbl) (hn : narrow (tyCl ci k) v = v) (hfit : fits (tyCl ci k) v = true) (hl : k < fs.length) (hdg : decode cc pc = .ok (.putfield x, 3))
    (kk : ∀ (H1 : Heap) (locs1 : List Loc), va_P D vwCl (ws.set q0 (a, .inr (ci, fs.set k v))) H1 → va_D A (ws.set q0 (a, .inr (ci, fs.set k v))) → va_S A H0 H1 locs1 → W p l e R s m args below meth c H1 locs1 cells slots Q (F0 m (pc + 3) ls rest)) : W p l e R s m args below meth c H locs cells slots Q (F0 m pc ls (v :: .ref a :: rest)) := by
  have hd1 := cl_ok ci hc8 k hk
  have hty := cl_ty ci hc8 k hk
  cases hf : ((vwCl.getD ci ("", TX1, 0)).2.1 k).2.2.2 with
  | false => exact va_put hx hb hts (laysIn hc8) (tyCl ci) (cl_ty ci hc8) (cl_nm ci hc8) hown hK hP hD hS q0 he (vwAt hc8) k hk (hts _ (wG_of hw rfl)) (fun y hy => by rw [← hd1]; exact hy) hf hty hn hfit hl hdg kk
  | true => exact va_putF hx hb hts (laysIn hc8) (tyCl ci) (cl_ty ci hc8) (cl_nm ci hc8) hown hK hP hD hS q0 he (vwAt hc8) k hk (hts _ (wG_of hw rfl)) (fun y hy => by rw [← hd1]; exact hy) hf hin (by rw [ho]; exact hd1) hty hn hfit hl hdg kk
/-- behind a constructor of the youngest cell -/
theorem n_join {q : Nat} {e0 : va_E} {w1 : va_W} {H1 : Heap} (hP : va_P D vwCl (ws ++ [(q, e0)]) H) (hD : va_D A (ws ++ [(q, e0)])) (hk : ∀ x, x < H.size → ¬ va_A [(q, e0)] H.size x → H1[x]? = H[x]?) (hF : ∀ x, va_A [(q, e0)] H.size x → A x) (hP1 : va_P D vwCl w1 H1) (hD1 : va_D (va_A [(q, e0)] H.size) w1) : va_P D vwCl (ws ++ w1) H1 ∧ va_D A (ws ++ w1) := by
  have at1 : ∀ (k : Nat) (x : Nat × va_E), ws[k]? = some x → (ws ++ [(q, e0)])[k]? = some x := fun k x hx => by
    rw [List.getElem?_append_left (List.getElem?_eq_some_iff.mp hx).1]; exact hx
  have atq : (ws ++ [(q, e0)])[ws.length]? = some (q, e0) := by
    rw [List.getElem?_append_right (Nat.le_refl _), Nat.sub_self]; rfl
  have lt1 : ∀ (k : Nat) (x : Nat × va_E), ws[k]? = some x → x.1 < H.size := fun k x hx => (hP k x (at1 k x hx)).lt
  have nA : ∀ (k : Nat) (x : Nat × va_E), ws[k]? = some x → ¬ va_A [(q, e0)] H.size x.1 := fun k x hx hz => by
    have hlt := lt1 k x hx
    rcases hz with ⟨k2, e2, h2⟩ | h2
    · have hk2 : k2 < 1 := (List.getElem?_eq_some_iff.mp h2).1
      rw [show k2 = 0 by omega] at h2
      have h3 : x.1 = q := by
        have : some (q, e0) = some (x.1, e2) := h2
        have := Option.some.inj this
        exact (congrArg Prod.fst this).symm
      have := hD.1 k ws.length x (q, e0) (at1 k x hx) atq h3
      have := (List.getElem?_eq_some_iff.mp hx).1
      omega
    · omega
  refine ⟨va_P.app (fun k x hx => ?_) hP1, ⟨fun i j x y hi hj hxy => ?_, fun k x hx => ?_⟩⟩
  · exact (hP k x (at1 k x hx)).kept (hk x.1 (lt1 k x hx) (nA k x hx))
  · by_cases hi1 : i < ws.length
    · rw [List.getElem?_append_left hi1] at hi
      by_cases hj1 : j < ws.length
      · rw [List.getElem?_append_left hj1] at hj
        exact hD.1 i j x y (at1 i x hi) (at1 j y hj) hxy
      · rw [List.getElem?_append_right (by omega)] at hj
        exact absurd (by rw [hxy]; exact hD1.2 _ y hj) (nA i x hi)
    · rw [List.getElem?_append_right (by omega)] at hi
      by_cases hj1 : j < ws.length
      · rw [List.getElem?_append_left hj1] at hj
        exact absurd (by rw [← hxy]; exact hD1.2 _ x hi) (nA j y hj)
      · rw [List.getElem?_append_right (by omega)] at hj
        have := hD1.1 _ _ x y hi hj hxy
        omega
  · by_cases hk1 : k < ws.length
    · rw [List.getElem?_append_left hk1] at hx
      exact hD.2 k x (at1 k x hx)
    · rw [List.getElem?_append_right (by omega)] at hx
      exact hF _ (hD1.2 _ x hx)
def rmN (fr mc ms : Nat) : Room := { frames := fr, cells := mc, slots := ms, locals := 40 * fr }
/-- the constructors that the class calls in its nest -/
def mthN : List (Nat × MethodName) := [(9, ⟨RX6, "<init>", "()V"⟩), (24, ⟨RX4, "<init>", "()V"⟩), (31, ⟨RX5, "<init>", "()V"⟩), (59, ⟨RX0, "<init>", "()V"⟩), (64, ⟨RX2, "<init>", "()V"⟩), (65, ⟨RX3, "<init>", "()V"⟩)]
/-- the arrays over classes that are known -/
def AO3 (U : State) : Prop := va_AO RX2 U ∧ va_AO RX3 U ∧ (Cond.arrayOver (.array .int)).before #[] U = true
theorem AO3.moved {u U : State} (hvm : u.vm.Alike U.vm) (h : AO3 u) : AO3 U := by
  refine ⟨va_AO.moved hvm h.1, va_AO.moved hvm h.2.1, ?_⟩
  have h1 := Cond.arrayOver_setVmC (args := #[]) hvm (.array .int)
  rw [h.2.2] at h1
  exact h1
/-- how a constructor begins -/
def PcN (D : va_G) (ff : Nat → ClassId) (a n0 ci : Nat) (fs0 : List Value) : Array Value → State → Prop := va_Pc [.ref a] (fun U => U.heap.size = n0 ∧ va_P D vwCl [(a, .inr (ci, fs0))] U.heap ∧ va_K D vwCl (tyN ff) U ∧ (∀ e ∈ mthN, va_Nw (.methodLinkNest "OneStair" e.1 e.2 "OneStair") U) ∧ AO3 U)
/-- how it ends: the world that its new cells' addresses tell -/
def QcN (D : va_G) (a n0 ci : Nat) (fs0 : List Value) (kk : Nat) (B : List Nat → va_W) : Array Value → State → Outcome → State → Prop := va_Qv (S := List Nat) (fun qs => qs.length = kk) (fun qs t => va_P D vwCl (B qs) t.heap ∧ va_D (va_A [(a, .inr (ci, fs0))] n0) (B qs)) (va_A [(a, .inr (ci, fs0))] n0)
theorem PcN.blind {n0 ci : Nat} {fs0 : List Value} : FrameBlind (PcN D ff a n0 ci fs0) := by
  intro av U g mk q
  obtain ⟨q0, q1, q2, q3, q4, q5⟩ := q
  exact ⟨q0, q1, q2, va_K.moved (u := U) (U := U.calling g mk av) (Vm.Alike.refl U.vm) q3, fun e he => va_Nw.same rfl rfl (q4 e he), AO3.moved (u := U) (U := U.calling g mk av) (Vm.Alike.refl U.vm) q5⟩
theorem n_last {x : Nat × va_E} (hP : va_P D vwCl (ws ++ [x]) H) : va_P D vwCl [x] H := fun k q hk => hP (ws.length + k) q (by rw [List.getElem?_append_right (by omega), Nat.add_sub_cancel_left]; exact hk)
theorem n_free {x : Nat × va_E} (hD : va_D A (ws ++ [x])) (hS : va_S A H0 H locs) (hA : ∀ q, H0.size ≤ q → A q) : ∀ q, va_A [x] H.size q → A q := by
  intro q hq
  rcases hq with ⟨k, e, hk⟩ | hq
  · exact hD.2 (ws.length + k) (q, e) (by rw [List.getElem?_append_right (by omega), Nat.add_sub_cancel_left]; exact hk)
  · exact hA q (Nat.le_trans hS.1 hq)
/-- new, dup, invokespecial of a class of the nest -/
theorem n_mk {nL ci ix iy mc ms kn : Nat} {fs0 : List Value} {y : MethodName} {cy : ByteArray} {B : Nat → List Nat → va_W} (hx : p.tables.exec = Jvm.exec) (hb : c.code = cc) (hts : ∀ w ∈ wG, w.before args s = true) (hown : s.vm.findClass "OneStair" = some m.cls) (hml : c.maxLocals = nL) (hsz : ls.size = nL) (hK : va_K D vwCl (tyN ff) s) (hNw : ∀ e ∈ mthN, va_Nw (.methodLinkNest "OneStair" e.1 e.2 "OneStair") s) (hAO : AO3 s) (hP : va_P D vwCl ws H) (hD : va_D A ws) (hS : va_S A H0 H locs) (hA : ∀ q, H0.size ≤ q → A q)
    (hc8 : ci < 8) (hfs : ∀ j, j < (vwCl.getD ci ("", TX1, 0)).2.2 → defaultValue (tyCl ci j) = vp_V fs0 j) (hw : Cond.classLink "OneStair" ix (vwCl.getD ci ("", TX1, 0)).1 ∈ lw_tbl ∧ Cond.instantiable (vwCl.getD ci ("", TX1, 0)).1 (vwCl.getD ci ("", TX1, 0)).2.2 ∈ lw_tbl ∧ Cond.initialized (vwCl.getD ci ("", TX1, 0)).1 ∈ lw_tbl ∧ Cond.code y cy 1 none ∈ lw_tbl ∧ Cond.instanceMethod y ∈ lw_tbl ∧ Cond.initialized y.cls ∈ lw_tbl)
    (hm : (iy, y) ∈ mthN) (hy : y.name = "<init>" ∧ y.cls ≠ "java/lang/invoke/MethodHandle" ∧ y.cls ≠ "java/lang/invoke/VarHandle" ∧ npar y = some 0) (hM : ∀ a n0 : Nat, Met l y (.code y cy 1 none :: wG) (rmN 1 mc ms) (PcN D ff a n0 ci fs0) (QcN D a n0 ci fs0 kn (B a)) mc ms (va_A [(a, .inr (ci, fs0))] n0))
    (hR : 2 ≤ R.frames ∧ 60 ≤ R.locals) (hcells : cells + 1 + mc ≤ R.cells) (hslots : slots + (vwCl.getD ci ("", TX1, 0)).2.2 + ms ≤ R.slots) (hrest : (rest.map fun v => v.category).sum ≤ 7) (d0 : decode cc pc = .ok (.new ix, 3)) (d1 : decode cc (pc + 3) = .ok (.dup, 1)) (d2 : decode cc (pc + 3 + 1) = .ok (.invokespecial iy, 3))
    (kk : ∀ (q : Nat) (qs : List Nat) (H1 : Heap) (locs1 : List Loc), qs.length = kn → va_P D vwCl (ws ++ B q qs) H1 → va_D A (ws ++ B q qs) → va_S A H0 H1 locs1 → W p l e R s m args below meth c H1 locs1 (cells + 1 + mc) (slots + (vwCl.getD ci ("", TX1, 0)).2.2 + ms) Q (F0 m (pc + 3 + 1 + 3) ls (.ref q :: rest))) : W p l e R s m args below meth c H locs cells slots Q (F0 m pc ls rest) := by
  refine va_new hx hb hts (laysIn hc8) (tyCl ci) (cl_ty ci hc8) hown (hts _ (wG_of hw.1 rfl)) (hts _ (wG_of hw.2.1 rfl)) (hts _ (wG_of hw.2.2.1 rfl)) hK hP hD hS hA (vwAt hc8) hfs (by omega) (by omega) d0 (fun q H1 hP1 hD1 hS1 => ?_)
  refine lv_dup hx hb d1 rfl ?_
  have hPc := n_last hP1
  have hFc := n_free hD1 hS1 hA
  refine va_callv (va_runIN (As := []) (rest := .ref q :: rest) ⟨hx, hb, hml, hown, hts⟩ (hM q H1.size) ⟨va_cnB 0 hts (goodY (wG_of hw.2.2.2.1 rfl)) rfl rfl rfl (hNw _ hm) (hts _ (wG_of hw.2.2.2.2.2 rfl)) hy.2 ⟨by show 1 + 1 ≤ _; omega, by show 8 + (1 + 11) + 40 * 1 ≤ _; omega⟩, hy.1, hts _ (wG_of hw.2.2.2.2.1 rfl)⟩ ⟨PcN.blind, fun U hU hW => ⟨rfl, by rw [hU], by rw [hU]; exact hPc, va_K.moved hW.alike hK, fun e he => va_Nw.warmM hW (hNw e he), AO3.moved hW.alike hAO⟩⟩ rfl rfl hsz rfl (lv_room (by simp only [List.map_cons, List.sum_cons]; show 1 + _ ≤ 8; omega)) d2 ⟨hcells, hslots⟩) hS1 (fun x _ h => hFc x h) hFc (fun qs t H2 locs2 ht hvm hlen hB hz hk2 hS2 => ?_)
  obtain ⟨hP2, hD2⟩ := hB
  rw [ht] at hP2
  obtain ⟨hP3, hD3⟩ := n_join hP1 hD1 hk2 hFc hP2 hD2
  exact kk q qs H2 locs2 hlen hP3 hD3 hS2
def gridF (q : Nat) : Nat → Option Nat := fun i => if i < 20 then some (q + 1 + i) else none
def gridC (ff : Nat → ClassId) (q : Nat) : va_W := (q, .inl (ff 6, 20, .inr (.inr (.inr (.inr (gridF q)))))) :: (List.range 20).map (fun j => (q + 1 + j, .inl (ff 1, 3, .inl (fun _ => 0))))
theorem outer_arr (cA : ClassId) (q : Nat) : gd_hd cA q 20 = vp_cell cA (20, .inr (.inr (.inr (.inr (gridF q))))) := by
  rw [vp_cell_q]
  refine congrArg (arrV cA 20) (funext fun j => ?_)
  unfold gridF
  by_cases hj : j < 20
  · rw [if_pos hj, if_pos hj]
    rfl
  · rw [if_neg hj, if_neg hj]
    rfl
end L4NEW
