def R_law : String := "OneStairLaw"
def lw_P (b : Addr) (xs : List Int32) (args : Array Value) (s : State) : Prop := args = #[.ref b] ∧ s.IntsAt b xs ∧ xs.length ≤ 320 ∧ (Jvm.Cond.and given_1 narrow_1).before args s = true
def lw_Q (_ : Array Value) (s : State) (o : Outcome) (t : State) : Prop := o = .returned (some (.int 1)) ∧ Framed s o t [] 600000 7302250
def lw_Z (below : List Frame) (a : Array Value) (s : State) : State → Prop := fun t => ∃ o, t.status = .running ∧ Ended t below o ∧ lw_Q a s o t
/-- the law's own end, with 1 on the stack, nothing written that was there before, its room as the claim has it -/
theorem lw_ret {p : Program} {l : Launch} {e : Env} {s : State} {m : MethodId} {below : List Frame} {meth : Method} {c : Code} {b : Nat} (hx : p.tables.exec = Jvm.exec) (hb : c.code = code) (hr : meth.sig.returnType = ret) (hlocks : meth.locks = false) {pc : Nat} {H : Heap} {ls : Array Slot} (hdg : decode code pc = .ok (.ireturn, 1)) : W p l e room_1 s m #[Value.ref b] below meth c H [] 600000 7302250 (lw_Z below #[Value.ref b] s) (F0 m pc ls [.int 1]) := by
  intro T hT X
  obtain ⟨fs, hret, hrun, hended, hW, hframe⟩ := X.leave (v := some (.int 1)) (hlocks := hlocks) (fun h => by rw [hr] at h; cases h)
  have hmeth' : T.vm.method? m = some meth := X.method'
  refine ⟨T.setFrames fs, ?_, .returned (some (.int 1)), hrun, hended, rfl, ⟨_, rfl⟩, hW, hframe⟩
  jvm_step X.here [X.here.top, hx, hb, hdg, hmeth', hr, ret, narrow_b1]
  (try refine ⟨rfl, ?_⟩); (try refine ⟨rfl, ?_⟩)
  first | (intro acts; rw [hret _ acts rfl rfl rfl]) | rw [hret _ _ rfl rfl rfl]
  exact Steps.refl _
/-- what holds at the law's entry: the machine, the code, the tables' words (any of lw_tbl by 'hts w (by decide +kernel)'), the script of L ints xs at the cell b, what the Statement gives of the start (any of its parts by flat_of_before) -/
def lw_At (p : Program) (s : State) (m : MethodId) (meth : Method) (c : Code) (b L : Nat) (xs : Nat → Int32) : Prop :=
  p.tables.exec = Jvm.exec ∧ c.code = code ∧ meth.sig.returnType = ret ∧ c.maxLocals = 4 ∧ s.vm.findClass R_law = some m.cls ∧ (∀ w ∈ lw_tbl, w.before #[Value.ref b] s = true) ∧ va_X b L xs s s.heap ∧ b < s.heap.size ∧ meth.locks = false ∧ (Jvm.Cond.and given_1 narrow_1).before #[Value.ref b] s = true
section L4LOOP
variable {p : Program} {l : Launch} {e : Env} {s : State} {m : MethodId} {below : List Frame} {meth : Method} {c : Code} {H : Heap} {locs : List Loc} {cells slots : Nat} {la : Array Slot} {G : GD} {b L : Nat} {xs : Nat → Int32} {h : AH} {k : Nat}
theorem ll_18 : decode code 18 = .ok (.iload_n 3, 1) := by decide +kernel
theorem ll_19 : decode code 19 = .ok (.aload_n 0, 1) := by decide +kernel
theorem ll_20 : decode code 20 = .ok (.arraylength, 1) := by decide +kernel
theorem ll_21 : decode code 21 = .ok (.iconst 5, 1) := by decide +kernel
theorem ll_22 : decode code 22 = .ok (.isub, 1) := by decide +kernel
theorem ll_23 : decode code 23 = .ok (.if_icmp .gt 1452, 3) := by decide +kernel
theorem ll_26 : decode code 26 = .ok (.aload_n 0, 1) := by decide +kernel
theorem ll_27 : decode code 27 = .ok (.iload_n 3, 1) := by decide +kernel
theorem ll_28 : decode code 28 = .ok (.iaload, 1) := by decide +kernel
theorem ll_29 : decode code 29 = .ok (.bipush 63, 2) := by decide +kernel
theorem ll_31 : decode code 31 = .ok (.iand, 1) := by decide +kernel
theorem ll_1469 : decode code 1469 = .ok (.iinc 3 5, 3) := by decide +kernel
theorem ll_1472 : decode code 1472 = .ok (.goto (-1454), 3) := by decide +kernel
theorem ll_1475 : decode code 1475 = .ok (.iconst 1, 1) := by decide +kernel
theorem ll_1476 : decode code 1476 = .ok (.ireturn, 1) := by decide +kernel
theorem and63 (x : Int32) : ∃ v : Nat, v < 64 ∧ x &&& 63 = Int32.ofInt (v : Int) := by
  have h1 : (x &&& 63).toBitVec.toNat ≤ 63 := by
    rw [Int32.toBitVec_and, BitVec.toNat_and]
    exact Nat.le_trans Nat.and_le_right (by decide)
  refine ⟨(x &&& 63).toBitVec.toNat, by omega, ?_⟩
  rw [← Int32.toInt_inj, of32 (by unfold R32; omega)]
  show (x &&& 63).toBitVec.toInt = _
  rw [BitVec.toInt_eq_toNat_of_lt (by omega)]
theorem law_end (C : LC G p s m meth c b L xs) (hr : meth.sig.returnType = ret) (hlk : meth.locks = false) (hcl : cells ≤ 600000 ∧ slots ≤ 7302250) (hS : va_S (fun q => s.heap.size ≤ q) s.heap H locs) : W p l e room_1 s m #[Value.ref b] below meth c H locs cells slots (lw_Z below #[Value.ref b] s) (F0 m 1475 la []) := by
  refine lv_iconst C.1 C.2.1 ll_1475 (v := 1) (by decide) ?_
  refine va_forget hS.2.2 ?_
  refine W.widen hcl.1 hcl.2 ?_
  exact lw_ret C.1 C.2.1 hr hlk ll_1476
theorem law_test (C : LC G p s m meth c b L xs) (hL : L ≤ 320) (hk : k ≤ 64) (hS : va_S (fun q => s.heap.size ≤ q) s.heap H locs) (hl : lv_has la 4 (lwL G b k)) {QQ : State → Prop}
    (kt : L < 5 * k + 5 → W p l e room_1 s m #[Value.ref b] below meth c H locs cells slots QQ (F0 m 1475 la [])) (kf : 5 * k + 5 ≤ L → W p l e room_1 s m #[Value.ref b] below meth c H locs cells slots QQ (F0 m 26 la [])) : W p l e room_1 s m #[Value.ref b] below meth c H locs cells slots QQ (F0 m 18 la []) := by
  obtain ⟨hx, hbb, -, -, -, hX, hbl, -, -, -⟩ := id C
  have l0 : la[0]? = some (.val (.ref b)) := lv_at hl 1 rfl
  have l3 : la[3]? = some (.val (.int (Int32.ofInt ((5 * k : Nat) : Int)))) := lv_at hl 0 rfl
  refine lv_iload_n hx hbb ll_18 rfl l3 ?_
  refine lv_aload_n hx hbb ll_19 rfl l0 ?_
  refine va_slen hx hbb hX hbl (A := fun q => s.heap.size ≤ q) (Nat.not_le.mpr hbl) hS ll_20 ?_
  refine lv_iconst hx hbb ll_21 (v := Int32.ofInt 5) rfl ?_
  refine lv_isub hx hbb ll_22 ?_
  have e1 : Int32.ofNat L - Int32.ofInt 5 = Int32.ofInt ((L : Int) - 5) := by rw [Int32.ofInt_sub, Int32.ofInt_eq_ofNat]
  rw [e1]
  have r1 : R32 ((L : Int) - 5) := by unfold R32; omega
  have r2 : R32 ((5 * k : Nat) : Int) := by unfold R32; omega
  refine lv_icmp_gt hx hbb ll_23 (tgt := 1475) (by decide) (fun hc => ?_) (fun hc => ?_)
  · rw [lt32 r1 r2] at hc
    exact kt (by omega)
  · rw [lt32 r1 r2] at hc
    exact kf (by omega)
theorem law_loop (C : LC G p s m meth c b L xs) (hr : meth.sig.returnType = ret) (hlk : meth.locks = false) (hL : L ≤ 320) (hcl : cells ≤ 600000 ∧ slots ≤ 7302250) : ∀ (n k : Nat) (h : AH) (H : Heap) (locs : List Loc) (la : Array Slot), L < 5 * k + 5 * n + 5 → k ≤ 64 → INV k h → Hok h → va_P G.1 vwCl (wsG G h) H → va_S (fun q => s.heap.size ≤ q) s.heap H locs → lv_has la 4 (lwL G b k) → W p l e room_1 s m #[Value.ref b] below meth c H locs cells slots (lw_Z below #[Value.ref b] s) (F0 m 18 la [])
  | 0, k, h, H, locs, la, hn, hk, i, hO, hP, hS, hl => law_test C hL hk hS hl (fun _ => law_end C hr hlk hcl hS) (fun hc => absurd hc (by omega))
  | n + 1, k, h, H, locs, la, hn, hk, i, hO, hP, hS, hl => by
    refine law_test C hL hk hS hl (fun _ => law_end C hr hlk hcl hS) (fun hc => ?_)
    obtain ⟨hx, hbb, -, -, -, hX, hbl, -, -, -⟩ := id C
    have l0 : la[0]? = some (.val (.ref b)) := lv_at hl 1 rfl
    have l3 : la[3]? = some (.val (.int (Int32.ofInt ((5 * k : Nat) : Int)))) := lv_at hl 0 rfl
    have r2 : R32 ((5 * k : Nat) : Int) := by unfold R32; omega
    refine lv_aload_n hx hbb ll_26 rfl l0 ?_
    refine lv_iload_n hx hbb ll_27 rfl l3 ?_
    refine va_sld hx hbb hX hbl (A := fun q => s.heap.size ≤ q) (Nat.not_le.mpr hbl) hS (vpin r2 (by omega) (by omega)) ll_28 ?_
    refine lv_bipush hx hbb ll_29 (v := 63) (by decide) ?_
    refine lv_iand hx hbb ll_31 ?_
    obtain ⟨v, hv, ev⟩ := and63 (xs (Int32.ofInt ((5 * k : Nat) : Int)).toNatClampNeg)
    rw [ev]
    refine law_sw C hS hP hO hl hc hL hcl i v hv (fun h' H1 locs1 i' hO' hP' hS' => ?_)
    refine lv_iinc (v := Int32.ofInt ((5 * (k + 1) : Nat) : Int)) (lv' := lwL G b (k + 1)) hx hbb ll_1469 hl (k := 0) rfl (by rw [← Int32.ofInt_add]; exact congrArg Int32.ofInt (by omega)) (by decide) rfl (fun la2 hl2 => ?_)
    refine lv_goto (tgt := 18) hx hbb ll_1472 (by decide) ?_
    exact law_loop C hr hlk hL hcl n (k + 1) h' H1 locs1 la2 (by omega) (by omega) i' hO' hP' hS' hl2
end L4LOOP
