/-! what the tables say, decided by program -/
theorem wG_of {w : Cond} (h : w ∈ lw_tbl) (g : goodWord w = true) : w ∈ wG := List.mem_filter.mpr ⟨h, g⟩
def inT (p : Nat) (w : Cond) : Bool := decide (lw_tbl[p]? = some w)
theorem inT_in {p : Nat} {w : Cond} (h : inT p w = true) : w ∈ lw_tbl := List.mem_of_getElem? (of_decide_eq_true h)
theorem zip_in {α : Type} {f : α → Cond} {l : List α} {ps : List Nat} (hl : l.length = ps.length) (h : (l.zip ps).all (fun q => inT q.2 (f q.1)) = true) : ∀ e ∈ l, f e ∈ lw_tbl := by
  intro e he
  obtain ⟨i, hi⟩ := List.getElem?_of_mem he
  have hlt := (List.getElem?_eq_some_iff.mp hi).1
  have hp : ps[i]? = some (ps[i]'(by omega)) := List.getElem?_eq_getElem _
  have hz : (l.zip ps)[i]? = some (e, ps[i]'(by omega)) := by rw [List.getElem?_zip_eq_some]; exact ⟨hi, hp⟩
  exact inT_in (List.all_eq_true.mp h _ (List.mem_of_getElem? hz))
theorem fld_in : ∀ e ∈ fldT, fldW e ∈ lw_tbl := zip_in (ps := fldP) (by decide +kernel) (by decide +kernel)
theorem mth_in : ∀ e ∈ mthT, mthW e ∈ lw_tbl := zip_in (ps := mthP) (by decide +kernel) (by decide +kernel)
set_option maxRecDepth 100000 in
set_option maxHeartbeats 4000000 in
theorem cod_eq : (List.range nM).map codW = codP.filterMap (fun i => lw_tbl[i]?) := rfl
theorem cod_in {i : Nat} (h : i < nM) : codW i ∈ wG := by
  refine wG_of ?_ rfl
  have h1 : codW i ∈ (List.range nM).map codW := List.mem_map.mpr ⟨i, List.mem_range.mpr h, rfl⟩
  rw [cod_eq] at h1
  obtain ⟨p, -, hp⟩ := List.mem_filterMap.mp h1
  exact List.mem_of_getElem? hp
/-- a field link's class, slot and class's size; what a slot may hold -/
theorem fld_ok : ∀ e ∈ fldT, e.2.2.1 < 8 ∧ e.2.2.2.1 < (vwCl.getD e.2.2.1 ("", TX1, 0)).2.2 := by decide +kernel
theorem cl_ok : ∀ ci, ci < 8 → ∀ j, j < (vwCl.getD ci ("", TX1, 0)).2.2 → ((vwCl.getD ci ("", TX1, 0)).2.1 j).1 = (vwCl.getD ci ("", TX1, 0)).1 := by decide +kernel
theorem cl_lay : ∀ ci, ci < 8 → ∀ w ∈ u_ws (vwCl.getD ci ("", TX1, 0)).1 (vwCl.getD ci ("", TX1, 0)).2.1 (vwCl.getD ci ("", TX1, 0)).2.2, w ∈ lw_tbl ∧ goodWord w = true := by decide +kernel
theorem cl_nm : ∀ ci, ci < 8 → ∀ a, a < (vwCl.getD ci ("", TX1, 0)).2.2 → ∀ b, b < (vwCl.getD ci ("", TX1, 0)).2.2 → a ≠ b → ((vwCl.getD ci ("", TX1, 0)).2.1 a).2.1 ≠ ((vwCl.getD ci ("", TX1, 0)).2.1 b).2.1 := by decide +kernel
def tyCl (ci j : Nat) : FieldType := (parseFieldDescriptor ((vwCl.getD ci ("", TX1, 0)).2.1 j).2.2.1).getD .int
theorem cl_ty : ∀ ci, ci < 8 → ∀ j, j < (vwCl.getD ci ("", TX1, 0)).2.2 → parseFieldDescriptor ((vwCl.getD ci ("", TX1, 0)).2.1 j).2.2.1 = some (tyCl ci j) := by decide +kernel
def shB (k : Nat) : Bool := decide ((sh k).1 ≠ 0) || (decide ((sh k).2.1 < 8) && decide ((sh k).2.2.length = (vwCl.getD (sh k).2.1 ("", TX1, 0)).2.2) && (List.range (sh k).2.2.length).all (fun j =>
    (decide ((sh k).2.2.getD j 9 ≠ 0) || (decide (tyCl (sh k).2.1 j = .int) && decide (((vwCl.getD (sh k).2.1 ("", TX1, 0)).2.1 j).2.2.2 = false))) &&
    (decide ((sh k).2.2.getD j 9 ≠ 1) || (decide (tyCl (sh k).2.1 j = .long) && decide (((vwCl.getD (sh k).2.1 ("", TX1, 0)).2.1 j).2.2.2 = false))) &&
    (decide ((sh k).2.2.getD j 9 ≠ 2) || (decide (tyCl (sh k).2.1 j = .boolean) && decide (((vwCl.getD (sh k).2.1 ("", TX1, 0)).2.1 j).2.2.2 = false)))))
theorem shB_ok : (List.range nO).all shB = true := by decide +kernel
theorem sh_ok {k : Nat} (h : (sh k).1 = 0) : (sh k).2.1 < 8 ∧ (sh k).2.2.length = (vwCl.getD (sh k).2.1 ("", TX1, 0)).2.2 ∧ ∀ j, j < (sh k).2.2.length →
    ((sh k).2.2.getD j 9 = 0 → tyCl (sh k).2.1 j = .int ∧ ((vwCl.getD (sh k).2.1 ("", TX1, 0)).2.1 j).2.2.2 = false) ∧
    ((sh k).2.2.getD j 9 = 1 → tyCl (sh k).2.1 j = .long ∧ ((vwCl.getD (sh k).2.1 ("", TX1, 0)).2.1 j).2.2.2 = false) ∧
    ((sh k).2.2.getD j 9 = 2 → tyCl (sh k).2.1 j = .boolean ∧ ((vwCl.getD (sh k).2.1 ("", TX1, 0)).2.1 j).2.2.2 = false) := by
  have h1 := List.all_eq_true.mp shB_ok k (List.mem_range.mpr (sh_lt (by omega)))
  simp only [shB, Bool.or_eq_true, Bool.and_eq_true, decide_eq_true_eq, List.all_eq_true, List.mem_range] at h1
  rcases h1 with h1 | ⟨⟨h1, h2⟩, h3⟩
  · exact absurd h h1
  · refine ⟨h1, h2, fun j hj => ?_⟩
    obtain ⟨⟨a, b⟩, c⟩ := h3 j hj
    exact ⟨fun z => a.resolve_left (fun q => q z), fun z => b.resolve_left (fun q => q z), fun z => c.resolve_left (fun q => q z)⟩
/-- methods: static ones, and those that are called on an object -/
def mOk (m : Nat) : Bool := decide ((mrec m).2.1.cls ≠ "java/lang/invoke/MethodHandle") && decide ((mrec m).2.1.cls ≠ "java/lang/invoke/VarHandle") && decide (clsN (mrec m).1 = (mrec m).2.1.cls) && decide ((mrec m).2.2.2.1 ≤ 20) && (decide ((mrec m).1 = 11) || stF.getD m false || (decide (vwOf (mrec m).1 < 8) && decide ((vwCl.getD (vwOf (mrec m).1) ("", TX1, 0)).1 = (mrec m).2.1.cls)))
theorem mth_ok0 : (List.range nM).all mOk = true := by decide +kernel
theorem mth_ok {m : Nat} (h : m < nM) : mOk m = true := List.all_eq_true.mp mth_ok0 m (List.mem_range.mpr h)
theorem ini_in0 : ∀ e ∈ List.range nM, Cond.initialized (mrec e).2.1.cls ∈ lw_tbl := zip_in (f := fun m => Cond.initialized (mrec m).2.1.cls) (ps := iniP) (by decide +kernel) (by decide +kernel)
theorem knd_in0 : ∀ e ∈ List.range nM, (if stF.getD e false then Cond.static (mrec e).2.1 else Cond.instanceMethod (mrec e).2.1) ∈ lw_tbl := zip_in (f := fun e => if stF.getD e false then Cond.static (mrec e).2.1 else Cond.instanceMethod (mrec e).2.1) (ps := kndP) (by decide +kernel) (by decide +kernel)
theorem sel_in0 : ∀ e ∈ List.range nM, (if stF.getD e false then lw_tbl.getD 0 .returned else Cond.selects (mrec e).2.1.cls (mrec e).2.1 (mrec e).2.1) ∈ lw_tbl := zip_in (f := fun e => if stF.getD e false then lw_tbl.getD 0 .returned else Cond.selects (mrec e).2.1.cls (mrec e).2.1 (mrec e).2.1) (ps := selP) (by decide +kernel) (by decide +kernel)
theorem cst_in : ∀ e ∈ cstT, Cond.constant (clsN e.1) e.2.1 (Int32.ofInt e.2.2) ∈ lw_tbl ∧ (-2147483648 ≤ e.2.2 ∧ e.2.2 ≤ 2147483647) := by decide +kernel
theorem csl_in : ∀ e ∈ cslT, Cond.constantLong (clsN e.1) e.2.1 (Int64.ofInt e.2.2) ∈ lw_tbl ∧ (-9223372036854775808 ≤ e.2.2 ∧ e.2.2 ≤ 9223372036854775807) := by decide +kernel
def mmName (b : Bool) : MethodName := if b then Lib.Math.max.name else Lib.Math.min.name
theorem mmx_in : ∀ e ∈ mmxT, Cond.methodLink (clsN e.1) e.2.1 (mmName e.2.2) ∈ lw_tbl := by decide +kernel
theorem mmx_st : ∀ b : Bool, Cond.static (mmName b) ∈ lw_tbl := by decide +kernel
theorem mmx_cd : Cond.code Lib.Math.max.name Lib.Math.max.code 2 (some .int) ∈ lw_tbl ∧ Cond.code Lib.Math.min.name Lib.Math.min.code 2 (some .int) ∈ lw_tbl ∧ Cond.initialized "java/lang/Math" ∈ lw_tbl := by decide +kernel
theorem acp_in : Cond.methodLink (clsN 6) acpyI arraycopyName ∈ lw_tbl ∧ Cond.native arraycopyName ∈ lw_tbl ∧ Cond.static arraycopyName ∈ lw_tbl ∧ Cond.initialized "java/lang/System" ∈ lw_tbl := by decide +kernel
theorem abv_in : Cond.fieldLink (clsN 1) abvI RX1 "ABOVE" "[I" ∈ lw_tbl := by decide +kernel
