/-! WHAT THE SHORT MACHINE SAYS OF THE MACHINE -/
abbrev GD : Type := va_G × (Nat → Nat) × (Nat → ClassId)
def rv (G : GD) : AV → Value
  | .inl z => .int (Int32.ofInt z)
  | .inr (.inl z) => .long (Int64.ofInt z)
  | .inr (.inr k) => .ref (G.2.1 k)
def R32 (z : Int) : Prop := -2147483648 ≤ z ∧ z ≤ 2147483647
def R64 (z : Int) : Prop := -9223372036854775808 ≤ z ∧ z ≤ 9223372036854775807
def avOk : AV → Prop
  | .inl z => R32 z
  | .inr (.inl z) => R64 z
  | .inr (.inr _) => True
def slOk (k i : Nat) (z : Int) : Prop :=
  if (sh k).1 = 2 then -128 ≤ z ∧ z ≤ 127
  else if (sh k).1 = 3 ∨ ((sh k).1 = 0 ∧ (sh k).2.2.getD i 0 = 1) then R64 z
  else if (sh k).1 = 0 ∧ (sh k).2.2.getD i 0 = 2 then z = 0 ∨ z = 1 else R32 z
def Hok (h : AH) : Prop := ∀ k i, slOk k i (h k i)
def tysG (G : GD) : List (ClassId × FieldType) := [(G.2.2 1, .int), (G.2.2 2, .byte), (G.2.2 3, .long), (G.2.2 4, .object RX2), (G.2.2 5, .object RX3), (G.2.2 6, .array .int)]
def cellG (G : GD) (h : AH) (k : Nat) : va_E :=
  match (sh k).1 with
  | 0 => .inr ((sh k).2.1, (sh k).2.2.mapIdx (fun i c => rv G (fv h k i c)))
  | 1 => .inl (G.2.2 1, (sh k).2.1, .inl (fun i => Int32.ofInt (h k i)))
  | 2 => .inl (G.2.2 2, (sh k).2.1, .inl (fun i => Int32.ofInt (h k i)))
  | 3 => .inl (G.2.2 3, (sh k).2.1, .inr (.inl (fun i => Int64.ofInt (h k i))))
  | t => .inl (G.2.2 t, (sh k).2.1, .inr (.inr (.inr (.inr (fun i => if i < (sh k).2.1 then some (G.2.1 ((sh k).2.2.getD 0 0 + (sh k).2.2.getD 1 0 * i)) else none)))))
def wsG (G : GD) (h : AH) : va_W := (List.range nO).map (fun k => (G.2.1 k, cellG G h k))
def AG (G : GD) : Nat → Prop := fun q => ∃ k, k < nO ∧ q = G.2.1 k
def fldW (e : Nat × Nat × Nat × Nat × Bool) : Cond :=
  let q := vwCl.getD e.2.2.1 ("", TX1, 0)
  let t := q.2.1 e.2.2.2.1
  if e.2.2.2.2 then .fieldLinkNest (clsN e.1) e.2.1 q.1 t.2.1 t.2.2.1 "OneStair" else .fieldLink (clsN e.1) e.2.1 q.1 t.2.1 t.2.2.1
def mthW (e : Nat × Nat × Nat × Bool) : Cond := if e.2.2.2 then .methodLinkNest (clsN e.1) e.2.1 (mrec e.2.2.1).2.1 "OneStair" else .methodLink (clsN e.1) e.2.1 (mrec e.2.2.1).2.1
def codW (i : Nat) : Cond := .code (mrec i).2.1 (mrec i).2.2.1 (mrec i).2.2.2.1 (mrec i).2.2.2.2.1
def wG : List Cond := lw_tbl.filter goodWord
def EnvG (G : GD) (U : State) : Prop :=
  (∀ i j, i < nO → j < nO → G.2.1 i = G.2.1 j → i = j) ∧ va_K G.1 vwCl (tysG G) U ∧ (∀ e ∈ fldT, e.2.2.2.2 = true → va_Nw (fldW e) U) ∧ (∀ e ∈ mthT, e.2.2.2 = true → va_Nw (mthW e) U) ∧
  (∀ j, j < 12 → vk_R RX5 (strI.getD j 0) (strT.getD j "") (G.2.1 (1000 + j)) U)
def ExtG (G : GD) (U : State) (H : Heap) : Prop :=
  vk_S 12 strN strB (fun j => G.2.1 (1000 + j)) (fun j => G.2.1 (1100 + j)) (AG G) U H ∧ va_Z RX1 "ABOVE" "[I" (.ref (G.2.1 2000)) (AG G) U H ∧
  va_T .int (G.2.1 2000) 6 (fun j => .int (Int32.ofInt (aboveF j))) (AG G) U H ∧ va_Z "java/lang/String" "COMPACT_STRINGS" "Z" (.int 1) (AG G) U H ∧
  va_Zq "jdk/internal/util/Preconditions" "SIOOBE_FORMATTER" "Ljava/util/function/BiFunction;" (AG G) U H
def rmD (d : Nat) : Room := { frames := d + 1, cells := 0, slots := 0, locals := 40 * (d + 1) }
def CtxG (G : GD) (i : Nat) (p : Program) (s : State) (m : MethodId) (args : Array Value) (meth : Method) (c : Code) : Prop :=
  p.tables.exec = Jvm.exec ∧ c.code = (mrec i).2.2.1 ∧ meth.sig.returnType = (mrec i).2.2.2.2.1 ∧ c.maxLocals = (mrec i).2.2.2.1 ∧ s.vm.findClass (clsN (mrec i).1) = some m.cls ∧
  (∀ w ∈ wG, w.before args s = true) ∧ meth.locks = false ∧ EnvG G s ∧ ExtG G s s.heap
def prs (G : GD) (ls : LcT) : List (Nat × Value) := ls.zipIdx.filterMap (fun q => q.1.map (fun v => (q.2, rv G v)))
def QcG (G : GD) (P : Option AV → AH → Prop) : Array Value → State → Outcome → State → Prop := fun _ st oc t =>
  (∃ (r : Option AV) (h' : AH), oc = .returned (r.map (rv G)) ∧ P r h' ∧ (∀ v, r = some v → avOk v) ∧ va_P G.1 vwCl (wsG G h') t.heap ∧ Hok h') ∧ va_F (AG G) st t
def PcG (G : GD) (as : List AV) (h : AH) : Array Value → State → Prop := va_Pc (as.map (rv G)) (fun U => va_P G.1 vwCl (wsG G h) U.heap ∧ Hok h ∧ EnvG G U ∧ ExtG G U U.heap)
/-- method i, called with as where the numbers are h: it ends, its answer r and the numbers h' behind it are such that P r h' -/
def CallR (G : GD) (l : Launch) (d i : Nat) (as : List AV) (h : AH) (P : Option AV → AH → Prop) : Prop :=
  (∀ v ∈ as, avOk v) → Hok h → Met l (mrec i).2.1 (codW i :: wG) (rmD d) (PcG G as h) (QcG G P) 0 0 (AG G)
/-- the machine in method i at pc, with these locals, stack, numbers, comes to an end with Q -/
def Wp (G : GD) (l : Launch) (i d pc : Nat) (ls : LcT) (st : List AV) (h : AH) (Q : Option AV → AH → Prop) : Prop :=
  ∀ (p : Program) (e : Env) (s : State) (m : MethodId) (args : Array Value) (below : List Frame) (meth : Method) (c : Code) (H : Heap) (locs : List Loc) (la : Array Slot),
    CtxG G i p s m args meth c → va_S (AG G) s.heap H locs → va_P G.1 vwCl (wsG G h) H → Hok h → (lv_has la (mrec i).2.2.2.1 (prs G ls) ∧ ls.length = (mrec i).2.2.2.1 ∧ ∀ v, some v ∈ ls → avOk v) → (∀ v ∈ st, avOk v) →
    W p l e (rmD d) s m args below meth c H locs 0 0 (MQ below (QcG G Q) args s 0 0 (AG G)) (F0 m pc la (st.map (rv G)))
-- numbers
theorem w32_ok (z : Int) : R32 (w32 z) := by
  have h1 := Int32.toInt_lt (Int32.ofInt z)
  have h2 := Int32.le_toInt (Int32.ofInt z)
  unfold R32 w32; omega
theorem i32_ok (x : Int32) : R32 x.toInt := by
  have h1 := Int32.toInt_lt x
  have h2 := Int32.le_toInt x
  unfold R32; omega
theorem i64_ok (x : Int64) : R64 x.toInt := by
  have h1 := Int64.toInt_lt x
  have h2 := Int64.le_toInt x
  unfold R64; omega
theorem w32_id {z : Int} (h : -2147483648 ≤ z) (h2 : z ≤ 2147483647) : w32 z = z := Int32.toInt_ofInt_of_le (by omega) (by omega)
theorem of32 {z : Int} (h : R32 z) : (Int32.ofInt z).toInt = z := w32_id h.1 h.2
theorem w64_id {z : Int} (h : -9223372036854775808 ≤ z) (h2 : z ≤ 9223372036854775807) : w64 z = z := Int64.toInt_ofInt_of_le (by omega) (by omega)
theorem of64 {z : Int} (h : R64 z) : (Int64.ofInt z).toInt = z := w64_id h.1 h.2
theorem rv_i (G : GD) (x : Int32) : rv G (vI x.toInt) = .int x := by simp [rv, vI]
theorem rv_l (G : GD) (x : Int64) : rv G (vL x.toInt) = .long x := by simp [rv, vL]
theorem eq32 {a b : Int} (ha : R32 a) (hb : R32 b) : Int32.ofInt a = Int32.ofInt b ↔ a = b := by
  rw [← Int32.toInt_inj, of32 ha, of32 hb]
theorem lt32 {a b : Int} (ha : R32 a) (hb : R32 b) : Int32.ofInt a < Int32.ofInt b ↔ a < b := by
  rw [Int32.lt_iff_toInt_lt, of32 ha, of32 hb]
theorem zero32 : (0 : Int32) = Int32.ofInt 0 := by decide
theorem r32_0 : R32 0 := by unfold R32; omega
theorem vpin {j : Int} {n : Nat} (hj : R32 j) (h0 : 0 ≤ j) (hn : j < n) : vp_in (Int32.ofInt j) n := by
  rw [vp_in_iff, of32 hj]; exact ⟨h0, hn⟩
theorem clamp {j : Int} (hj : R32 j) : (Int32.ofInt j).toNatClampNeg = j.toNat := by
  show (Int32.ofInt j).toInt.toNat = _
  rw [of32 hj]
-- the cells
theorem sh_out {k : Nat} (h : nO ≤ k) : 7 ≤ (sh k).1 := by
  unfold sh
  by_cases h2 : k = 2000
  · rw [if_pos h2]; exact Nat.le_refl 7
  · rw [if_neg h2, List.getD_eq_getElem?_getD, List.getElem?_eq_none (show shl.length ≤ k from Nat.le_trans (by decide) h)]
    show 7 ≤ 9; omega
theorem sh_lt {k : Nat} (h : (sh k).1 ≤ 6) : k < nO := Nat.lt_of_not_le fun h2 => by have := sh_out h2; omega
theorem wsG_at (G : GD) (h : AH) {k : Nat} (hk : k < nO) : (wsG G h)[k]? = some (G.2.1 k, cellG G h k) := by
  simp [wsG, List.getElem?_range hk]
theorem cellG_congr (G : GD) {h h' : AH} {k : Nat} (e : h k = h' k) : cellG G h k = cellG G h' k := by
  have e2 : ∀ i c, fv h k i c = fv h' k i c := by intro i c; unfold fv; split <;> simp [e]
  unfold cellG
  simp only [e2, e]
theorem wsG_set (G : GD) {h h' : AH} {k : Nat} (e : ∀ j, j ≠ k → h' j = h j) : wsG G h' = (wsG G h).set k (G.2.1 k, cellG G h' k) := by
  apply List.ext_getElem?
  intro i
  by_cases hi : i < nO
  · rw [wsG_at G h' hi]
    by_cases hik : i = k
    · subst hik
      rw [List.getElem?_set_self (by simp [wsG]; exact hi)]
    · rw [List.getElem?_set_ne (Ne.symm hik), wsG_at G h hi, cellG_congr G (e i hik)]
  · rw [List.getElem?_eq_none (by simp [wsG]; omega), List.getElem?_eq_none (by simp [wsG]; omega)]
theorem wsG_D {G : GD} (h : AH) (hi : ∀ i j, i < nO → j < nO → G.2.1 i = G.2.1 j → i = j) : va_D (AG G) (wsG G h) := by
  have key : ∀ (k : Nat) (q : Nat × va_E), (wsG G h)[k]? = some q → k < nO ∧ q.1 = G.2.1 k := by
    intro k q hq
    by_cases hk : k < nO
    · rw [wsG_at G h hk] at hq
      cases hq
      exact ⟨hk, rfl⟩
    · rw [List.getElem?_eq_none (by simp [wsG]; omega)] at hq
      cases hq
  refine ⟨fun i j p q h1 h2 h3 => ?_, fun k q hq => ?_⟩
  · obtain ⟨a1, a2⟩ := key i p h1
    obtain ⟨b1, b2⟩ := key j q h2
    exact hi i j a1 b1 (by rw [← a2, ← b2, h3])
  · obtain ⟨a1, a2⟩ := key k q hq
    exact ⟨k, a1, a2⟩
theorem hu_ne {h : AH} {k i : Nat} {v : Int} {j : Nat} (e : j ≠ k) : hu h k i v j = h j := by
  funext i'; simp [hu, e]
theorem hu_at (h : AH) (k i : Nat) (v : Int) (i' : Nat) : hu h k i v k i' = if i' = i then v else h k i' := by simp [hu]
theorem Hok.put {h : AH} (H : Hok h) {k i : Nat} {v : Int} (hv : slOk k i v) : Hok (hu h k i v) := by
  intro k' i'
  by_cases e : k' = k ∧ i' = i
  · obtain ⟨rfl, rfl⟩ := e
    simp [hu]; exact hv
  · simp [hu, e]; exact H k' i'
-- locals
theorem prs_mem {G : GD} {ls : LcT} {i : Nat} {v : AV} (h : ls[i]? = some (some v)) : (i, rv G v) ∈ prs G ls := by
  refine List.mem_filterMap.mpr ⟨(some v, i), ?_, rfl⟩
  rw [List.mem_zipIdx_iff_getElem?]
  simpa using h
theorem prs_of {G : GD} {ls : LcT} {q : Nat × Value} (h : q ∈ prs G ls) : ∃ v, ls[q.1]? = some (some v) ∧ q.2 = rv G v := by
  obtain ⟨⟨o, i⟩, h1, h2⟩ := List.mem_filterMap.mp h
  rw [List.mem_zipIdx_iff_getElem?] at h1
  cases o with
  | none => cases h2
  | some v => cases h2; exact ⟨v, by simpa using h1, rfl⟩
theorem lget_some {ls : LcT} {i : Nat} {v : AV} (h : lget ls i = some v) : ls[i]? = some (some v) := by
  unfold lget at h
  split at h
  · next w hw => cases h; exact hw
  · cases h
