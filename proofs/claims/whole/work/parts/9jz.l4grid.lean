section L4GRID
variable {p : Program} {l : Launch} {e : Env} {R : Room} {s : State} {m : MethodId} {args : Array Value} {below : List Frame} {meth : Method} {c : Code} {T U : State} {locs : List Loc} {cells slots : Nat} {cA cI cE : ClassId}
/-- the grid's head, when the first i of its twenty places are filled; a row of it -/
def gd_hd (cA : ClassId) (q i : Nat) : Cell := arrV cA 20 (fun j => if j < i then .ref (q + 1 + j) else .null)
def gd_row (cI : ClassId) : Cell := arrV cI 3 (fun _ => .int 0)
theorem gd_hd_next (q i : Nat) : (gd_hd cA q i).setSlot i (.ref (q + 1 + i)) = gd_hd cA q (i + 1) := by
  unfold gd_hd
  rw [arrV_store]
  refine congrArg (arrV cA 20) (funext fun j => ?_)
  unfold updV
  by_cases h1 : j = i
  · subst h1
    rw [if_pos rfl, if_pos (by omega)]
  · by_cases h2 : j < i
    · rw [if_neg h1]
      show (if j < i then _ else _) = _
      rw [if_pos h2, if_pos (by omega)]
    · rw [if_neg h1]
      show (if j < i then _ else _) = _
      rw [if_neg h2, if_neg (by omega)]
/-- all that is there when i rows stand -/
def gd_at (U : State) (cA cI : ClassId) : Nat → State
  | 0 => U.pushCell (gd_hd cA U.heap.size 0)
  | i + 1 => ((gd_at U cA cI i).pushCell (gd_row cI)).setCell U.heap.size (gd_hd cA U.heap.size (i + 1))
/-- what such a state holds -/
def gd_F (U V : State) (cA cI : ClassId) (i : Nat) : Prop :=
  V.heap.size = U.heap.size + 1 + i ∧ V.heap[U.heap.size]? = some (gd_hd cA U.heap.size i) ∧ (∀ x : Nat, x < U.heap.size → V.heap[x]? = U.heap[x]?) ∧
    (∀ j : Nat, j < i → V.heap[U.heap.size + 1 + j]? = some (gd_row cI)) ∧ V.vm = U.vm ∧ V.slotsUsed = U.slotsUsed + 20 + 3 * i
theorem gd_hd_size (q i : Nat) : (gd_hd cA q i).slots.size = 20 := arrV_size _ _ _
theorem gd_row_size : (gd_row cI).slots.size = 3 := arrV_size _ _ _
theorem gd_holds : ∀ i, gd_F U (gd_at U cA cI i) cA cI i
  | 0 => by
    refine ⟨?_, ?_, fun x hx => ?_, fun j hj => absurd hj (Nat.not_lt_zero j), rfl, ?_⟩
    · simp [gd_at]
    · exact State.heap_pushCell_size _ _
    · exact State.heap_pushCell_of_lt _ _ hx
    · simp [gd_at, gd_hd_size]
  | i + 1 => by
    obtain ⟨h1, h2, h3, h4, h5, h6⟩ := gd_holds i
    have old : ∀ x : Nat, x < U.heap.size + 1 + i → ((gd_at U cA cI i).pushCell (gd_row cI)).heap[x]? = (gd_at U cA cI i).heap[x]? := fun x hx => State.heap_pushCell_of_lt _ _ (by rw [h1]; exact hx)
    have hd := (old U.heap.size (by omega)).trans h2
    have off : ∀ x : Nat, U.heap.size ≠ x → (gd_at U cA cI (i + 1)).heap[x]? = ((gd_at U cA cI i).pushCell (gd_row cI)).heap[x]? := fun x hx => State.heap_setCell_other hx
    refine ⟨?_, State.heap_setCell_self hd, fun x hx => ?_, fun j hj => ?_, h5, ?_⟩
    · simp [gd_at, State.setCell, h1]
      omega
    · rw [off x (by omega), old x (by omega)]
      exact h3 x hx
    · rw [off _ (by omega)]
      by_cases e1 : j = i
      · subst e1
        rw [← h1]
        exact State.heap_pushCell_size _ _
      · rw [old _ (by omega)]
        exact h4 j (by omega)
    · simp [gd_at, gd_row_size, h6]
      omega
theorem gd_top (f : JFrame) : ∀ i, gd_at (U.setTop f) cA cI i = (gd_at U cA cI i).setTop f
  | 0 => rfl
  | i + 1 => by
    show ((gd_at (U.setTop f) cA cI i).pushCell _).setCell _ _ = _
    rw [gd_top f i]
    rfl
theorem gd_stand (X : Stand p l e R s m args below meth c U locs cells slots) : ∀ i, Stand p l e R s m args below meth c (gd_at U cA cI i) locs (cells + 1 + i) (slots + 20 + 3 * i)
  | 0 => by
    have h := X.pushed (gd_hd cA U.heap.size 0)
    rw [gd_hd_size] at h
    exact h
  | i + 1 => by
    obtain ⟨h1, h2, -⟩ := gd_holds (U := U) (cA := cA) (cI := cI) i
    have h := (gd_stand X i).pushed (gd_row cI)
    have hlt : U.heap.size < (gd_at U cA cI i).heap.size := by rw [h1]; omega
    have hd : ((gd_at U cA cI i).pushCell (gd_row cI)).heap[U.heap.size]? = some (gd_hd cA U.heap.size i) := (State.heap_pushCell_of_lt _ _ hlt).trans h2
    have h3 := h.stored hd i (.ref (U.heap.size + 1 + i))
    rw [gd_hd_next, gd_row_size] at h3
    have h4 := h3.dropFresh (fun x hx => by rw [List.mem_singleton.mp hx]; exact X.heapGrown)
    have e1 : slots + 20 + 3 * (i + 1) = slots + 20 + 3 * i + 3 := by omega
    rw [e1]
    exact h4
section
variable {E : CtlPost} {d : Bool} {acts : List Action} {Q : Addr → Pre} {kA kI : Class}
theorem gd_mk1 {V : State} (hI : V.vm.classes[cI]? = some kI) (hk : kI.kind = .array cE .int) (hl : 20 ≤ e.platform.arrayLengthLimit) (hh : 80 ≤ e.platform.maxHeapBytes) (hc : V.heap.size < e.platform.maxCells) (hs : V.slotsUsed + 3 ≤ e.platform.maxSlots) (hq : ∀ acts', Q V.heap.size d acts' (V.pushCell (gd_row cI))) :
    wp (multianewarray.make cI [Int32.ofInt 3]) Q E e d acts V := by
  have n3 : ¬ Int32.ofInt 3 < 0 := by decide
  have t3 : (Int32.ofInt 3).toNatClampNeg = 3 := by decide
  rw [multianewarray.make]
  simp only [wp_bind', Jvm.W.ite, n3, if_false, wp_pure', Jvm.W.theClass, hI, hk, Option.some.injEq, exists_eq_left', t3]
  refine Jvm.W.newArray_of hI hk (by omega) (by show ¬ 3 * 4 > _; omega) hc hs rfl (fun acts' => ?_)
  have := hq acts'
  unfold gd_row at this
  rw [← arrV_new] at this
  exact this
theorem gd_mk2 (hA : U.vm.classes[cA]? = some kA) (hAk : kA.kind = .array cI (.array .int)) (hI : U.vm.classes[cI]? = some kI) (hIk : kI.kind = .array cE .int) (hl : 20 ≤ e.platform.arrayLengthLimit) (hh : 80 ≤ e.platform.maxHeapBytes) (hc : U.heap.size + 21 ≤ e.platform.maxCells) (hs : U.slotsUsed + 80 ≤ e.platform.maxSlots) (hq : ∀ d' acts', Q U.heap.size d' acts' (gd_at U cA cI 20)) :
    wp (multianewarray.make cA [Int32.ofInt 20, Int32.ofInt 3]) Q E e d acts U := by
  have n20 : ¬ Int32.ofInt 20 < 0 := by decide
  have t20 : (Int32.ofInt 20).toNatClampNeg = 20 := by decide
  have z20 : (Int32.ofInt 20 == 0) = false := by decide
  rw [multianewarray.make]
  simp only [wp_bind', Jvm.W.ite, n20, if_false, wp_pure', Jvm.W.theClass, hA, hAk, Option.some.injEq, exists_eq_left', t20, z20]
  refine Jvm.W.newArray_of hA hAk (by omega) (by show ¬ 20 * 4 > _; omega) (by omega) (by omega) rfl (fun acts1 => ?_)
  have e0 : U.pushCell { cls := cA, slots := Array.replicate 20 .null } = gd_at U cA cI 0 := by
    show _ = U.pushCell (gd_hd cA U.heap.size 0)
    refine congrArg U.pushCell ?_
    rw [arrV_new]
    refine congrArg (arrV cA 20) (funext fun j => ?_)
    rw [if_neg (Nat.not_lt_zero j)]
  rw [e0]
  simp only [Bool.false_eq_true, if_false, wp_pure', wp_bind', Std.Legacy.Range.forIn_eq_forIn_range']
  refine wp_forIn_inv (fun todo V => ∃ i, i ≤ 20 ∧ todo = List.range' i (20 - i) ∧ V = gd_at U cA cI i) _ _ ⟨0, by omega, rfl, rfl⟩ ?_ ?_
  · rintro x todo V d1 acts2 Q1 ⟨i, hi, hr, rfl⟩ next
    obtain ⟨h1, h2, h3, h4, h5, h6⟩ := gd_holds (U := U) (cA := cA) (cI := cI) i
    have hi2 : i < 20 := by
      have := congrArg List.length hr
      simp at this
      omega
    have hi3 : 20 - i = (20 - (i + 1)) + 1 := by omega
    rw [hi3, List.range'_succ] at hr
    obtain ⟨rfl, rfl⟩ := List.cons.inj hr
    have hlt : U.heap.size < (gd_at U cA cI x).heap.size := by rw [h1]; omega
    simp only [wp_bind']
    refine gd_mk1 (by rw [h5]; exact hI) hIk hl hh (by rw [h1]; omega) (by rw [h6]; omega) (fun acts3 => ?_)
    simp only [wp_bind', Jvm.W.writeLoc, wp_pure']
    refine ⟨gd_hd cA U.heap.size x, (State.heap_pushCell_of_lt _ _ hlt).trans h2, by simp [gd_hd, arrV], by rw [gd_hd_size]; exact hi2, ?_, next _ _ _ ⟨x + 1, by omega, rfl, ?_⟩⟩
    · have h7 : (gd_at U cA cI x).vm.classes[cA]? = some kA := by rw [h5]; exact hA
      simp [State.fitsSlot, State.slotType?, gd_hd, arrV, h7, hAk, fits]
    · rw [h1, gd_hd_next]
      rfl
  · rintro V d1 acts2 ⟨i, hi, hr, rfl⟩
    have hi2 : 20 - i = 0 := by
      have := congrArg List.length hr
      simp at this
      omega
    have : i = 20 := by omega
    subst this
    exact hq _ _
end
/-- the class of rows of rows of ints, by the word that the tables have for it -/
theorem gd_over {av : Array Value} {st0 : State} {oo : Option Outcome} {idx : List Nat} (h : (Cond.arrayOver (.array .int)).holds av st0 oo s idx = true) :
    ∃ (cI cA : ClassId) (kA : Class), s.vm.findClass (FieldType.array .int).toString = some cI ∧ s.vm.classes[cA]? = some kA ∧ kA.kind = .array cI (.array .int) ∧ s.vm.findClass ("[" ++ (FieldType.array .int).toString) = some cA := by
  have h1 : (Cond.arrayOver (.array .int)).value av st0 oo s idx = some true := by
    simpa only [Cond.holds, beq_iff_eq] using h
  simp only [Cond.value] at h1
  obtain ⟨cI, hI, h2⟩ := Option.bind_eq_some_iff.mp h1
  obtain ⟨cA, hi, h3⟩ := Option.bind_eq_some_iff.mp h2
  obtain ⟨kA, hA, h4⟩ := Option.map_eq_some_iff.mp h3
  obtain ⟨hlt, hp, -⟩ := Array.findIdx?_eq_some_iff_getElem.mp hi
  rw [(Array.getElem?_eq_some_iff.mp hA).2] at hp
  refine ⟨cI, cA, kA, hI, hA, ?_⟩
  generalize hk : kA.kind = kk at h4 hp
  cases kk with
  | array c1 t1 =>
    simp only [Bool.and_eq_true, decide_eq_true_eq, beq_iff_eq] at h4 hp
    exact ⟨by rw [hp, h4.1], h4.2⟩
  | _ => cases h4
theorem gd_step {kA kI : Class} (X : Stand p l e R s m args below meth c T locs cells slots) (hx : p.tables.exec = Jvm.exec) {own : String} {ix : Nat} (hown : s.vm.findClass own = some m.cls) (hcl : (Cond.classLink own ix ("[" ++ (FieldType.array .int).toString)).before args s = true)
    (hA : s.vm.classes[cA]? = some kA) (hAk : kA.kind = .array cI (.array .int)) (hAn : s.vm.findClass ("[" ++ (FieldType.array .int).toString) = some cA) (hI : s.vm.classes[cI]? = some kI) (hIk : kI.kind = .array cE .int)
    {g : JFrame} (hg : g.method = m) (hd : decode c.code g.pc = .ok (.multianewarray ix 2, 4)) {rest : List Value} (hst : g.stack = .int (Int32.ofInt 3) :: .int (Int32.ofInt 20) :: rest) (hc : cells + 21 ≤ R.cells) (hs : slots + 80 ≤ R.slots) :
    ∃ vm1 : Vm, Stand p l e R s m args below meth c (gd_at (T.setVm vm1) cA cI 20) locs (cells + 21) (slots + 80) ∧
      ∀ t, Steps p.tables e below ((gd_at (T.setVm vm1) cA cI 20).setTop { g with pc := g.pc + 4, stack := .ref T.heap.size :: rest }) t → Steps p.tables e below (T.setTop g) t := by
  subst hg
  obtain ⟨c0, hf0, hln⟩ := Cond.classLink_spec hown hcl e.platform (by rw [X.admits.platform])
  cases hAn.symm.trans hf0
  obtain ⟨hgv, hwm, -⟩ := State.classEntry (e := e) X.warmed hln
  generalize T.vm.noted g.method.cls ix (.cls cA) = vm1 at hgv hwm
  obtain ⟨kA1, hA1, eA⟩ := hwm.alike.2.2 _ _ hA
  obtain ⟨kI1, hI1, eI⟩ := hwm.alike.2.2 _ _ hI
  have XG := gd_stand (cA := cA) (cI := cI) (X.noted hwm) 20
  obtain ⟨r1, r2⟩ := X.roomAbove hc hs
  refine ⟨vm1, XG, fun t ht => ?_⟩
  jvm_step X.here [hx, hd]
  simp only [multianewarray.sem, wp_bind', Jvm.W.resolveClassAt_links (State.method?_setTop g X.here.top) hgv]
  rw [Jvm.W.popN, if_neg (by decide)]
  refine ⟨g, State.topJava?_setTop' (s := T.setVm vm1) g X.here.top, [.int (Int32.ofInt 20), .int (Int32.ofInt 3)], rest, rfl, hst, ?_⟩
  simp only [List.mapM_cons, List.mapM_nil, wp_bind', wp_pure']
  have e1 : ((T.setTop g).setVm vm1).setTop { g with stack := rest } = (T.setVm vm1).setTop { g with stack := rest } := by
    show ((T.setVm vm1).setTop g).setTop _ = _
    rw [State.setTop_setTop]
  rw [e1]
  refine gd_mk2 (kA := kA1) (kI := kI1) (cE := cE) (cI := cI) hA1 (by rw [eA]; exact hAk) hI1 (by rw [eI]; exact hIk) (by rw [Launch.admits_arrayLengthLimit X.admits]; decide) (by rw [Launch.admits_maxHeapBytes X.admits]; decide) r1 r2 (fun d1 acts1 => ?_)
  rw [gd_top]
  simp only [wp_bind', Jvm.W.mark, Jvm.W.pushRef, State.topJava?_setTop' _ XG.here.top, Option.some.injEq, exists_eq_left', State.setTop_setTop, State.heap_setTop]
  intro acts2
  simp [jvm, XG.here.top]
  exact ht
end L4GRID
