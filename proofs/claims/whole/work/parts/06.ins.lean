section INS
variable {G : GD} {l : Launch} {i d pc : Nat} {ls : LcT} {st : List AV} {h : AH} {Q : Option AV → AH → Prop}
theorem okc {v : AV} {st : List AV} (h : avOk v) (hs : ∀ w ∈ st, avOk w) : ∀ w ∈ v :: st, avOk w := fun w hw => by
  rcases List.mem_cons.mp hw with rfl | h2
  · exact h
  · exact hs w h2
theorem okt {v : AV} {st : List AV} (hs : ∀ w ∈ v :: st, avOk w) : ∀ w ∈ st, avOk w := fun w hw => hs w (List.mem_cons_of_mem _ hw)
theorem okh {v : AV} {st : List AV} (hs : ∀ w ∈ v :: st, avOk w) : avOk v := hs v List.mem_cons_self
theorem wp_iconst {x : Int} (hd : decode (mrec i).2.2.1 pc = .ok (.iconst x, 1)) (hx : R32 x) (k : Wp G l i d (pc + 1) ls (vI x :: st) h Q) : Wp G l i d pc ls (st) h Q := by
  intro p e s m args below meth c H locs la C hS hP hO hl hst
  refine lv_iconst C.1 C.2.1 hd rfl ?_
  exact k p e s m args below meth c H locs la C hS hP hO hl (okc hx hst)
theorem wp_bipush {x : Int} (hd : decode (mrec i).2.2.1 pc = .ok (.bipush x, 2)) (hx : -128 ≤ x ∧ x ≤ 127) (k : Wp G l i d (pc + 2) ls (vI x :: st) h Q) : Wp G l i d pc ls (st) h Q := by
  intro p e s m args below meth c H locs la C hS hP hO hl hst
  refine lv_bipush C.1 C.2.1 hd ?_ (k p e s m args below meth c H locs la C hS hP hO hl (okc (show R32 x by unfold R32; omega) hst))
  apply Int32.toInt_inj.mp
  rw [Int8.toInt_toInt32, Int8.toInt_ofInt_of_le (by omega) (by omega), of32 (by unfold R32; omega)]
theorem wp_sipush {x : Int} (hd : decode (mrec i).2.2.1 pc = .ok (.sipush x, 3)) (hx : -32768 ≤ x ∧ x ≤ 32767) (k : Wp G l i d (pc + 3) ls (vI x :: st) h Q) : Wp G l i d pc ls (st) h Q := by
  intro p e s m args below meth c H locs la C hS hP hO hl hst
  refine lv_sipush C.1 C.2.1 hd ?_ (k p e s m args below meth c H locs la C hS hP hO hl (okc (show R32 x by unfold R32; omega) hst))
  apply Int32.toInt_inj.mp
  rw [Int16.toInt_toInt32, Int16.toInt_ofInt_of_le (by omega) (by omega), of32 (by unfold R32; omega)]
theorem wp_lconst {x : Fin 2} (hd : decode (mrec i).2.2.1 pc = .ok (.lconst x, 1)) (k : Wp G l i d (pc + 1) ls (vL (x.val : Int) :: st) h Q) : Wp G l i d pc ls (st) h Q := by
  intro p e s m args below meth c H locs la C hS hP hO hl hst
  refine lv_lconst C.1 C.2.1 hd ?_ (k p e s m args below meth c H locs la C hS hP hO hl (okc (show R64 (x.val : Int) by have := x.isLt; unfold R64; omega) hst))
  match x with
  | 0 => decide
  | 1 => decide
theorem wp_iload {j : Nat} {z : Int} (hd : decode (mrec i).2.2.1 pc = .ok (.iload j, 2)) (hg : lget ls j = some (vI z)) (k : Wp G l i d (pc + 2) ls (vI z :: st) h Q) : Wp G l i d pc ls (st) h Q := by
  intro p e s m args below meth c H locs la C hS hP hO hl hst
  have e9 := lget_some hg
  refine lv_iload C.1 C.2.1 hd (hl.1.2.2 _ (prs_mem (G := G) e9)) ?_
  exact k p e s m args below meth c H locs la C hS hP hO hl (okc (hl.2.2 _ (List.mem_of_getElem? e9)) hst)
theorem wp_iload_n {j : Fin 4} {z : Int} (hd : decode (mrec i).2.2.1 pc = .ok (.iload_n j, 1)) (hg : lget ls j.val = some (vI z)) (k : Wp G l i d (pc + 1) ls (vI z :: st) h Q) : Wp G l i d pc ls (st) h Q := by
  intro p e s m args below meth c H locs la C hS hP hO hl hst
  have e9 := lget_some hg
  refine lv_iload_n C.1 C.2.1 hd rfl (hl.1.2.2 _ (prs_mem (G := G) e9)) ?_
  exact k p e s m args below meth c H locs la C hS hP hO hl (okc (hl.2.2 _ (List.mem_of_getElem? e9)) hst)
theorem wp_lload {j : Nat} {z : Int} (hd : decode (mrec i).2.2.1 pc = .ok (.lload j, 2)) (hg : lget ls j = some (vL z)) (k : Wp G l i d (pc + 2) ls (vL z :: st) h Q) : Wp G l i d pc ls (st) h Q := by
  intro p e s m args below meth c H locs la C hS hP hO hl hst
  have e9 := lget_some hg
  refine lv_lload C.1 C.2.1 hd (hl.1.2.2 _ (prs_mem (G := G) e9)) ?_
  exact k p e s m args below meth c H locs la C hS hP hO hl (okc (hl.2.2 _ (List.mem_of_getElem? e9)) hst)
theorem wp_lload_n {j : Fin 4} {z : Int} (hd : decode (mrec i).2.2.1 pc = .ok (.lload_n j, 1)) (hg : lget ls j.val = some (vL z)) (k : Wp G l i d (pc + 1) ls (vL z :: st) h Q) : Wp G l i d pc ls (st) h Q := by
  intro p e s m args below meth c H locs la C hS hP hO hl hst
  have e9 := lget_some hg
  refine lv_lload_n C.1 C.2.1 hd rfl (hl.1.2.2 _ (prs_mem (G := G) e9)) ?_
  exact k p e s m args below meth c H locs la C hS hP hO hl (okc (hl.2.2 _ (List.mem_of_getElem? e9)) hst)
theorem wp_aload {j : Nat} {z : Nat} (hd : decode (mrec i).2.2.1 pc = .ok (.aload j, 2)) (hg : lget ls j = some (vR z)) (k : Wp G l i d (pc + 2) ls (vR z :: st) h Q) : Wp G l i d pc ls (st) h Q := by
  intro p e s m args below meth c H locs la C hS hP hO hl hst
  have e9 := lget_some hg
  refine lv_aload C.1 C.2.1 hd (hl.1.2.2 _ (prs_mem (G := G) e9)) ?_
  exact k p e s m args below meth c H locs la C hS hP hO hl (okc (hl.2.2 _ (List.mem_of_getElem? e9)) hst)
theorem wp_aload_n {j : Fin 4} {z : Nat} (hd : decode (mrec i).2.2.1 pc = .ok (.aload_n j, 1)) (hg : lget ls j.val = some (vR z)) (k : Wp G l i d (pc + 1) ls (vR z :: st) h Q) : Wp G l i d pc ls (st) h Q := by
  intro p e s m args below meth c H locs la C hS hP hO hl hst
  have e9 := lget_some hg
  refine lv_aload_n C.1 C.2.1 hd rfl (hl.1.2.2 _ (prs_mem (G := G) e9)) ?_
  exact k p e s m args below meth c H locs la C hS hP hO hl (okc (hl.2.2 _ (List.mem_of_getElem? e9)) hst)
theorem wp_iadd {a b : Int} (hd : decode (mrec i).2.2.1 pc = .ok (.iadd, 1)) (k : Wp G l i d (pc + 1) ls (vI (w32 (a + b)) :: st) h Q) : Wp G l i d pc ls (vI b :: vI a :: st) h Q := by
  intro p e s m args below meth c H locs la C hS hP hO hl hst
  refine lv_iadd C.1 C.2.1 hd ?_
  rw [show (Int32.ofInt a + Int32.ofInt b) = Int32.ofInt (w32 (a + b)) from by simp only [w32, Int32.ofInt_toInt, Int32.ofInt_add, Int32.ofInt_sub, Int32.ofInt_mul]]
  exact k p e s m args below meth c H locs la C hS hP hO hl (okc (show avOk (vI (w32 (a + b))) from i32_ok _) (okt (okt hst)))
theorem wp_isub {a b : Int} (hd : decode (mrec i).2.2.1 pc = .ok (.isub, 1)) (k : Wp G l i d (pc + 1) ls (vI (w32 (a - b)) :: st) h Q) : Wp G l i d pc ls (vI b :: vI a :: st) h Q := by
  intro p e s m args below meth c H locs la C hS hP hO hl hst
  refine lv_isub C.1 C.2.1 hd ?_
  rw [show (Int32.ofInt a - Int32.ofInt b) = Int32.ofInt (w32 (a - b)) from by simp only [w32, Int32.ofInt_toInt, Int32.ofInt_add, Int32.ofInt_sub, Int32.ofInt_mul]]
  exact k p e s m args below meth c H locs la C hS hP hO hl (okc (show avOk (vI (w32 (a - b))) from i32_ok _) (okt (okt hst)))
theorem wp_imul {a b : Int} (hd : decode (mrec i).2.2.1 pc = .ok (.imul, 1)) (k : Wp G l i d (pc + 1) ls (vI (w32 (a * b)) :: st) h Q) : Wp G l i d pc ls (vI b :: vI a :: st) h Q := by
  intro p e s m args below meth c H locs la C hS hP hO hl hst
  refine lv_imul C.1 C.2.1 hd ?_
  rw [show (Int32.ofInt a * Int32.ofInt b) = Int32.ofInt (w32 (a * b)) from by simp only [w32, Int32.ofInt_toInt, Int32.ofInt_add, Int32.ofInt_sub, Int32.ofInt_mul]]
  exact k p e s m args below meth c H locs la C hS hP hO hl (okc (show avOk (vI (w32 (a * b))) from i32_ok _) (okt (okt hst)))
theorem wp_iand {a b : Int} (hd : decode (mrec i).2.2.1 pc = .ok (.iand, 1)) (k : Wp G l i d (pc + 1) ls (vI (and32 a b) :: st) h Q) : Wp G l i d pc ls (vI b :: vI a :: st) h Q := by
  intro p e s m args below meth c H locs la C hS hP hO hl hst
  refine lv_iand C.1 C.2.1 hd ?_
  rw [show (Int32.ofInt a &&& Int32.ofInt b) = Int32.ofInt (and32 a b) from by simp only [and32, Int32.ofInt_toInt, Int32.ofInt_add, Int32.ofInt_sub, Int32.ofInt_mul]]
  exact k p e s m args below meth c H locs la C hS hP hO hl (okc (show avOk (vI (and32 a b)) from i32_ok _) (okt (okt hst)))
theorem wp_ior {a b : Int} (hd : decode (mrec i).2.2.1 pc = .ok (.ior, 1)) (k : Wp G l i d (pc + 1) ls (vI (or32 a b) :: st) h Q) : Wp G l i d pc ls (vI b :: vI a :: st) h Q := by
  intro p e s m args below meth c H locs la C hS hP hO hl hst
  refine lv_ior C.1 C.2.1 hd ?_
  rw [show (Int32.ofInt a ||| Int32.ofInt b) = Int32.ofInt (or32 a b) from by simp only [or32, Int32.ofInt_toInt, Int32.ofInt_add, Int32.ofInt_sub, Int32.ofInt_mul]]
  exact k p e s m args below meth c H locs la C hS hP hO hl (okc (show avOk (vI (or32 a b)) from i32_ok _) (okt (okt hst)))
theorem wp_ixor {a b : Int} (hd : decode (mrec i).2.2.1 pc = .ok (.ixor, 1)) (k : Wp G l i d (pc + 1) ls (vI (xor32 a b) :: st) h Q) : Wp G l i d pc ls (vI b :: vI a :: st) h Q := by
  intro p e s m args below meth c H locs la C hS hP hO hl hst
  refine lv_ixor C.1 C.2.1 hd ?_
  rw [show (Int32.ofInt a ^^^ Int32.ofInt b) = Int32.ofInt (xor32 a b) from by simp only [xor32, Int32.ofInt_toInt, Int32.ofInt_add, Int32.ofInt_sub, Int32.ofInt_mul]]
  exact k p e s m args below meth c H locs la C hS hP hO hl (okc (show avOk (vI (xor32 a b)) from i32_ok _) (okt (okt hst)))
theorem wp_ishl {a b : Int} (hd : decode (mrec i).2.2.1 pc = .ok (.ishl, 1)) (k : Wp G l i d (pc + 1) ls (vI (shl32 a b) :: st) h Q) : Wp G l i d pc ls (vI b :: vI a :: st) h Q := by
  intro p e s m args below meth c H locs la C hS hP hO hl hst
  refine lv_ishl C.1 C.2.1 hd ?_
  rw [show (Int32.ofInt a <<< (Int32.ofInt b &&& 31)) = Int32.ofInt (shl32 a b) from by simp only [shl32, Int32.ofInt_toInt, Int32.ofInt_add, Int32.ofInt_sub, Int32.ofInt_mul]]
  exact k p e s m args below meth c H locs la C hS hP hO hl (okc (show avOk (vI (shl32 a b)) from i32_ok _) (okt (okt hst)))
theorem wp_ishr {a b : Int} (hd : decode (mrec i).2.2.1 pc = .ok (.ishr, 1)) (k : Wp G l i d (pc + 1) ls (vI (shr32 a b) :: st) h Q) : Wp G l i d pc ls (vI b :: vI a :: st) h Q := by
  intro p e s m args below meth c H locs la C hS hP hO hl hst
  refine lv_ishr C.1 C.2.1 hd ?_
  rw [show (Int32.ofInt a >>> (Int32.ofInt b &&& 31)) = Int32.ofInt (shr32 a b) from by simp only [shr32, Int32.ofInt_toInt, Int32.ofInt_add, Int32.ofInt_sub, Int32.ofInt_mul]]
  exact k p e s m args below meth c H locs la C hS hP hO hl (okc (show avOk (vI (shr32 a b)) from i32_ok _) (okt (okt hst)))
theorem wp_iushr {a b : Int} (hd : decode (mrec i).2.2.1 pc = .ok (.iushr, 1)) (k : Wp G l i d (pc + 1) ls (vI (ushr32 a b) :: st) h Q) : Wp G l i d pc ls (vI b :: vI a :: st) h Q := by
  intro p e s m args below meth c H locs la C hS hP hO hl hst
  refine lv_iushr (v := Int32.ofInt (ushr32 a b)) C.1 C.2.1 hd (by simp [ushr32]) ?_
  exact k p e s m args below meth c H locs la C hS hP hO hl (okc (show avOk (vI (ushr32 a b)) from i32_ok _) (okt (okt hst)))
theorem wp_idiv {a b : Int} (hd : decode (mrec i).2.2.1 pc = .ok (.idiv, 1)) (hne : b ≠ 0) (k : Wp G l i d (pc + 1) ls (vI (d32 a b) :: st) h Q) : Wp G l i d pc ls (vI b :: vI a :: st) h Q := by
  intro p e s m args below meth c H locs la C hS hP hO hl hst
  have hb : ¬ Int32.ofInt b = 0 := by rw [zero32, eq32 (okh hst) r32_0]; exact hne
  refine lv_idiv C.1 C.2.1 hd hb ?_
  rw [show (Int32.ofInt a / Int32.ofInt b) = Int32.ofInt (d32 a b) from by simp only [d32, Int32.ofInt_toInt]]
  exact k p e s m args below meth c H locs la C hS hP hO hl (okc (show avOk (vI (d32 a b)) from i32_ok _) (okt (okt hst)))
theorem wp_irem {a b : Int} (hd : decode (mrec i).2.2.1 pc = .ok (.irem, 1)) (hne : b ≠ 0) (k : Wp G l i d (pc + 1) ls (vI (m32 a b) :: st) h Q) : Wp G l i d pc ls (vI b :: vI a :: st) h Q := by
  intro p e s m args below meth c H locs la C hS hP hO hl hst
  have hb : ¬ Int32.ofInt b = 0 := by rw [zero32, eq32 (okh hst) r32_0]; exact hne
  refine lv_irem C.1 C.2.1 hd hb ?_
  rw [show (Int32.ofInt a - Int32.ofInt a / Int32.ofInt b * Int32.ofInt b) = Int32.ofInt (m32 a b) from by simp only [m32, Int32.ofInt_toInt]]
  exact k p e s m args below meth c H locs la C hS hP hO hl (okc (show avOk (vI (m32 a b)) from i32_ok _) (okt (okt hst)))
theorem wp_ladd {a b : Int} (hd : decode (mrec i).2.2.1 pc = .ok (.ladd, 1)) (k : Wp G l i d (pc + 1) ls (vL (w64 (a + b)) :: st) h Q) : Wp G l i d pc ls (vL b :: vL a :: st) h Q := by
  intro p e s m args below meth c H locs la C hS hP hO hl hst
  refine lv_ladd C.1 C.2.1 hd ?_
  rw [show (Int64.ofInt a + Int64.ofInt b) = Int64.ofInt (w64 (a + b)) from by simp only [w64, Int64.ofInt_toInt, Int64.ofInt_add, Int64.ofInt_sub, Int64.ofInt_mul]]
  exact k p e s m args below meth c H locs la C hS hP hO hl (okc (show avOk (vL (w64 (a + b))) from i64_ok _) (okt (okt hst)))
theorem wp_lsub {a b : Int} (hd : decode (mrec i).2.2.1 pc = .ok (.lsub, 1)) (k : Wp G l i d (pc + 1) ls (vL (w64 (a - b)) :: st) h Q) : Wp G l i d pc ls (vL b :: vL a :: st) h Q := by
  intro p e s m args below meth c H locs la C hS hP hO hl hst
  refine lv_lsub C.1 C.2.1 hd ?_
  rw [show (Int64.ofInt a - Int64.ofInt b) = Int64.ofInt (w64 (a - b)) from by simp only [w64, Int64.ofInt_toInt, Int64.ofInt_add, Int64.ofInt_sub, Int64.ofInt_mul]]
  exact k p e s m args below meth c H locs la C hS hP hO hl (okc (show avOk (vL (w64 (a - b))) from i64_ok _) (okt (okt hst)))
theorem wp_lmul {a b : Int} (hd : decode (mrec i).2.2.1 pc = .ok (.lmul, 1)) (k : Wp G l i d (pc + 1) ls (vL (w64 (a * b)) :: st) h Q) : Wp G l i d pc ls (vL b :: vL a :: st) h Q := by
  intro p e s m args below meth c H locs la C hS hP hO hl hst
  refine lv_lmul C.1 C.2.1 hd ?_
  rw [show (Int64.ofInt a * Int64.ofInt b) = Int64.ofInt (w64 (a * b)) from by simp only [w64, Int64.ofInt_toInt, Int64.ofInt_add, Int64.ofInt_sub, Int64.ofInt_mul]]
  exact k p e s m args below meth c H locs la C hS hP hO hl (okc (show avOk (vL (w64 (a * b))) from i64_ok _) (okt (okt hst)))
theorem wp_land {a b : Int} (hd : decode (mrec i).2.2.1 pc = .ok (.land, 1)) (k : Wp G l i d (pc + 1) ls (vL (and64 a b) :: st) h Q) : Wp G l i d pc ls (vL b :: vL a :: st) h Q := by
  intro p e s m args below meth c H locs la C hS hP hO hl hst
  refine lv_land C.1 C.2.1 hd ?_
  rw [show (Int64.ofInt a &&& Int64.ofInt b) = Int64.ofInt (and64 a b) from by simp only [and64, Int64.ofInt_toInt, Int64.ofInt_add, Int64.ofInt_sub, Int64.ofInt_mul]]
  exact k p e s m args below meth c H locs la C hS hP hO hl (okc (show avOk (vL (and64 a b)) from i64_ok _) (okt (okt hst)))
theorem wp_lshr {a b : Int} (hd : decode (mrec i).2.2.1 pc = .ok (.lshr, 1)) (k : Wp G l i d (pc + 1) ls (vL (shr64 a b) :: st) h Q) : Wp G l i d pc ls (vI b :: vL a :: st) h Q := by
  intro p e s m args below meth c H locs la C hS hP hO hl hst
  refine lv_lshr (v := Int64.ofInt (shr64 a b)) C.1 C.2.1 hd (by simp [shr64]) ?_
  exact k p e s m args below meth c H locs la C hS hP hO hl (okc (show avOk (vL (shr64 a b)) from i64_ok _) (okt (okt hst)))
theorem wp_lushr {a b : Int} (hd : decode (mrec i).2.2.1 pc = .ok (.lushr, 1)) (k : Wp G l i d (pc + 1) ls (vL (ushr64 a b) :: st) h Q) : Wp G l i d pc ls (vI b :: vL a :: st) h Q := by
  intro p e s m args below meth c H locs la C hS hP hO hl hst
  refine lv_lushr (v := Int64.ofInt (ushr64 a b)) C.1 C.2.1 hd (by simp [ushr64]) ?_
  exact k p e s m args below meth c H locs la C hS hP hO hl (okc (show avOk (vL (ushr64 a b)) from i64_ok _) (okt (okt hst)))
theorem cmp64_eq {a b : Int} (ha : R64 a) (hb : R64 b) : lg_cmp (Int64.ofInt a) (Int64.ofInt b) = Int32.ofInt (cmp64 a b) := by
  have h1 : Int64.ofInt a > Int64.ofInt b ↔ a > b := by
    show Int64.ofInt b < Int64.ofInt a ↔ _
    rw [Int64.lt_iff_toInt_lt, of64 ha, of64 hb]
  have h2 : Int64.ofInt a = Int64.ofInt b ↔ a = b := by rw [← Int64.toInt_inj, of64 ha, of64 hb]
  unfold lg_cmp cmp64
  by_cases c1 : a > b
  · rw [if_pos (h1.mpr c1), if_pos c1]; decide
  · rw [if_neg (fun z => c1 (h1.mp z)), if_neg c1]
    by_cases c2 : a = b
    · rw [if_pos (h2.mpr c2), if_pos c2]; decide
    · rw [if_neg (fun z => c2 (h2.mp z)), if_neg c2]; decide
theorem cmp64_ok (a b : Int) : R32 (cmp64 a b) := by unfold cmp64 R32; split <;> (try split) <;> omega
theorem wp_lcmp {a b : Int} (hd : decode (mrec i).2.2.1 pc = .ok (.lcmp, 1)) (k : Wp G l i d (pc + 1) ls (vI (cmp64 a b) :: st) h Q) : Wp G l i d pc ls (vL b :: vL a :: st) h Q := by
  intro p e s m args below meth c H locs la C hS hP hO hl hst
  refine W.lcmp C.1 C.2.1 hd ?_
  rw [cmp64_eq (okh (okt hst)) (okh hst)]
  exact k p e s m args below meth c H locs la C hS hP hO hl (okc (show avOk (vI (cmp64 a b)) from cmp64_ok _ _) (okt (okt hst)))
theorem wp_i2l {a : Int} (hd : decode (mrec i).2.2.1 pc = .ok (.i2l, 1)) (k : Wp G l i d (pc + 1) ls (vL a :: st) h Q) : Wp G l i d pc ls (vI a :: st) h Q := by
  intro p e s m args below meth c H locs la C hS hP hO hl hst
  have ha : R32 a := okh hst
  have ha2 : R64 a := by unfold R32 at ha; unfold R64; omega
  refine lv_i2l (v := Int64.ofInt a) C.1 C.2.1 hd ?_ (k p e s m args below meth c H locs la C hS hP hO hl (okc (show avOk (vL a) from ha2) (okt hst)))
  apply Int64.toInt_inj.mp
  rw [Int32.toInt_toInt64, of32 ha, of64 ha2]
theorem wp_l2i {a : Int} (hd : decode (mrec i).2.2.1 pc = .ok (.l2i, 1)) (k : Wp G l i d (pc + 1) ls (vI (l2i32 a) :: st) h Q) : Wp G l i d pc ls (vL a :: st) h Q := by
  intro p e s m args below meth c H locs la C hS hP hO hl hst
  refine lv_l2i (v := Int32.ofInt (l2i32 a)) C.1 C.2.1 hd (by simp only [l2i32, Int32.ofInt_toInt]) (k p e s m args below meth c H locs la C hS hP hO hl (okc (show avOk (vI (l2i32 a)) from i32_ok _) (okt hst)))
theorem wp_i2b {a : Int} (hd : decode (mrec i).2.2.1 pc = .ok (.i2b, 1)) (k : Wp G l i d (pc + 1) ls (vI (w8 a) :: st) h Q) : Wp G l i d pc ls (vI a :: st) h Q := by
  intro p e s m args below meth c H locs la C hS hP hO hl hst
  have hk : R32 (w8 a) := by
    have h1 := Int8.toInt_lt (Int32.ofInt a).toInt8
    have h2 := Int8.le_toInt (Int32.ofInt a).toInt8
    unfold R32 w8; omega
  refine lv_i2b (v := Int32.ofInt (w8 a)) C.1 C.2.1 hd ?_ (k p e s m args below meth c H locs la C hS hP hO hl (okc (show avOk (vI (w8 a)) from hk) (okt hst)))
  apply Int32.toInt_inj.mp
  rw [Int8.toInt_toInt32, of32 hk]; rfl
theorem wp_i2s {a : Int} (hd : decode (mrec i).2.2.1 pc = .ok (.i2s, 1)) (k : Wp G l i d (pc + 1) ls (vI (w16 a) :: st) h Q) : Wp G l i d pc ls (vI a :: st) h Q := by
  intro p e s m args below meth c H locs la C hS hP hO hl hst
  have hk : R32 (w16 a) := by
    have h1 := Int16.toInt_lt (Int32.ofInt a).toInt16
    have h2 := Int16.le_toInt (Int32.ofInt a).toInt16
    unfold R32 w16; omega
  refine lv_i2s (v := Int32.ofInt (w16 a)) C.1 C.2.1 hd ?_ (k p e s m args below meth c H locs la C hS hP hO hl (okc (show avOk (vI (w16 a)) from hk) (okt hst)))
  apply Int32.toInt_inj.mp
  rw [Int16.toInt_toInt32, of32 hk]; rfl
theorem wp_dup_I {z : Int} (hd : decode (mrec i).2.2.1 pc = .ok (.dup, 1)) (k : Wp G l i d (pc + 1) ls (vI z :: vI z :: st) h Q) : Wp G l i d pc ls (vI z :: st) h Q := by
  intro p e s m args below meth c H locs la C hS hP hO hl hst
  refine lv_dup C.1 C.2.1 hd rfl ?_
  exact k p e s m args below meth c H locs la C hS hP hO hl (okc (okh hst) hst)
theorem wp_dup_R {z : Nat} (hd : decode (mrec i).2.2.1 pc = .ok (.dup, 1)) (k : Wp G l i d (pc + 1) ls (vR z :: vR z :: st) h Q) : Wp G l i d pc ls (vR z :: st) h Q := by
  intro p e s m args below meth c H locs la C hS hP hO hl hst
  refine lv_dup C.1 C.2.1 hd rfl ?_
  exact k p e s m args below meth c H locs la C hS hP hO hl (okc (okh hst) hst)
theorem wp_dup2 {a : Int} {b : Nat} (hd : decode (mrec i).2.2.1 pc = .ok (.dup2, 1)) (k : Wp G l i d (pc + 1) ls (vI a :: vR b :: vI a :: vR b :: st) h Q) : Wp G l i d pc ls (vI a :: vR b :: st) h Q := by
  intro p e s m args below meth c H locs la C hS hP hO hl hst
  refine lv_dup2_11 C.1 C.2.1 hd rfl rfl ?_
  exact k p e s m args below meth c H locs la C hS hP hO hl (okc (okh hst) (okc (okh (okt hst)) hst))
theorem prs_set1 {G : GD} {ls : LcT} {j : Nat} {v : AV} (hv : (rv G v).category = 1) (hok : stOK ls j = true) (hj : j < ls.length) : ∀ q ∈ prs G (ls.set j (some v)), q ∈ (j, rv G v) :: (prs G ls).filter (fun q => !(q.1 == j) && !(q.1 + 1 == j && q.2.category == 2)) := by
  intro q hq
  obtain ⟨u, h1, h2⟩ := prs_of hq
  by_cases e : q.1 = j
  · rw [e, List.getElem?_set_self hj] at h1
    cases h1
    obtain ⟨q1, q2⟩ := q
    cases e
    cases h2
    exact List.mem_cons_self
  · rw [List.getElem?_set_ne (Ne.symm e)] at h1
    have hm : q ∈ prs G ls := by
      obtain ⟨q1, q2⟩ := q
      cases h2
      exact prs_mem h1
    refine List.mem_cons_of_mem _ (List.mem_filter.mpr ⟨hm, ?_⟩)
    have hc : ¬ (q.1 + 1 = j ∧ q.2.category = 2) := by
      rintro ⟨rfl, hc⟩
      unfold stOK at hok
      simp only [h1] at hok
      rw [h2] at hc
      match u, hok, hc with
      | .inl z, _, hc => exact absurd hc (by simp [rv, Value.category])
      | .inr (.inr z), _, hc => exact absurd hc (by simp [rv, Value.category])
      | .inr (.inl z), hok, _ => simp at hok
    by_cases c1 : q.1 + 1 = j
    · have c2 : ¬ q.2.category = 2 := fun z => hc ⟨c1, z⟩
      simp [e, c1, c2]
    · simp [e, c1]
theorem sub_has {la : Array Slot} {n : Nat} {l l' : List (Nat × Value)} (h : lv_has la n l) (hs : ∀ q ∈ l', q ∈ l) : lv_has la n l' := ⟨h.1, h.2.1, fun q hq => h.2.2 q (hs q hq)⟩
theorem set_ok {ls : LcT} {j : Nat} {v : AV} (hs : ∀ v, some v ∈ ls → avOk v) (hv : avOk v) : ∀ u, some u ∈ ls.set j (some v) → avOk u := fun u hu => by
  rcases List.mem_or_eq_of_mem_set hu with h | h
  · exact hs u h
  · cases h; exact hv
theorem wp_istore {j : Nat} {z : Int} (hd : decode (mrec i).2.2.1 pc = .ok (.istore j, 2)) (ho : stOK ls j = true ∧ j < ls.length) (k : Wp G l i d (pc + 2) (ls.set j (some (vI z))) st h Q) : Wp G l i d pc ls (vI z :: st) h Q := by
  intro p e s m args below meth c H locs la C hS hP hO hl hst
  refine lv_istore C.1 C.2.1 hd hl.1 (by rw [← hl.2.1]; exact ho.2) rfl fun la' hl' => ?_
  exact k p e s m args below meth c H locs la' C hS hP hO ⟨sub_has hl' (prs_set1 rfl ho.1 ho.2), by simpa using hl.2.1, set_ok hl.2.2 (okh hst)⟩ (okt hst)
theorem wp_istore_n {j : Fin 4} {z : Int} (hd : decode (mrec i).2.2.1 pc = .ok (.istore_n j, 1)) (ho : stOK ls j.val = true ∧ j.val < ls.length) (k : Wp G l i d (pc + 1) (ls.set j.val (some (vI z))) st h Q) : Wp G l i d pc ls (vI z :: st) h Q := by
  intro p e s m args below meth c H locs la C hS hP hO hl hst
  refine lv_istore_n C.1 C.2.1 hd rfl hl.1 (by rw [← hl.2.1]; exact ho.2) rfl fun la' hl' => ?_
  exact k p e s m args below meth c H locs la' C hS hP hO ⟨sub_has hl' (prs_set1 rfl ho.1 ho.2), by simpa using hl.2.1, set_ok hl.2.2 (okh hst)⟩ (okt hst)
theorem wp_astore {j : Nat} {z : Nat} (hd : decode (mrec i).2.2.1 pc = .ok (.astore j, 2)) (ho : stOK ls j = true ∧ j < ls.length) (k : Wp G l i d (pc + 2) (ls.set j (some (vR z))) st h Q) : Wp G l i d pc ls (vR z :: st) h Q := by
  intro p e s m args below meth c H locs la C hS hP hO hl hst
  refine lv_astore C.1 C.2.1 hd hl.1 (by rw [← hl.2.1]; exact ho.2) rfl fun la' hl' => ?_
  exact k p e s m args below meth c H locs la' C hS hP hO ⟨sub_has hl' (prs_set1 rfl ho.1 ho.2), by simpa using hl.2.1, set_ok hl.2.2 (okh hst)⟩ (okt hst)
theorem wp_astore_n {j : Fin 4} {z : Nat} (hd : decode (mrec i).2.2.1 pc = .ok (.astore_n j, 1)) (ho : stOK ls j.val = true ∧ j.val < ls.length) (k : Wp G l i d (pc + 1) (ls.set j.val (some (vR z))) st h Q) : Wp G l i d pc ls (vR z :: st) h Q := by
  intro p e s m args below meth c H locs la C hS hP hO hl hst
  refine lv_astore_n C.1 C.2.1 hd rfl hl.1 (by rw [← hl.2.1]; exact ho.2) rfl fun la' hl' => ?_
  exact k p e s m args below meth c H locs la' C hS hP hO ⟨sub_has hl' (prs_set1 rfl ho.1 ho.2), by simpa using hl.2.1, set_ok hl.2.2 (okh hst)⟩ (okt hst)
theorem prs_set2 {G : GD} {ls : LcT} {j : Nat} {v : AV} (hok : stOK ls j = true) (hj : j + 1 < ls.length) : ∀ q ∈ prs G ((ls.set j (some v)).set (j + 1) none), q ∈ (j, rv G v) :: (prs G ls).filter (fun q => !(q.1 == j) && (!(q.1 == j + 1) && !(q.1 + 1 == j && q.2.category == 2))) := by
  intro q hq
  obtain ⟨u, h1, h2⟩ := prs_of hq
  by_cases e2 : q.1 = j + 1
  · rw [e2, List.getElem?_set_self (by simpa using hj)] at h1
    cases h1
  rw [List.getElem?_set_ne (Ne.symm e2)] at h1
  by_cases e : q.1 = j
  · rw [e, List.getElem?_set_self (by omega)] at h1
    cases h1
    obtain ⟨q1, q2⟩ := q
    cases e
    cases h2
    exact List.mem_cons_self
  · rw [List.getElem?_set_ne (Ne.symm e)] at h1
    have hm : q ∈ prs G ls := by
      obtain ⟨q1, q2⟩ := q
      cases h2
      exact prs_mem h1
    refine List.mem_cons_of_mem _ (List.mem_filter.mpr ⟨hm, ?_⟩)
    have hc : ¬ (q.1 + 1 = j ∧ q.2.category = 2) := by
      rintro ⟨rfl, hc⟩
      unfold stOK at hok
      simp only [h1] at hok
      rw [h2] at hc
      match u, hok, hc with
      | .inl z, _, hc => exact absurd hc (by simp [rv, Value.category])
      | .inr (.inr z), _, hc => exact absurd hc (by simp [rv, Value.category])
      | .inr (.inl z), hok, _ => simp at hok
    by_cases c1 : q.1 + 1 = j
    · have c2 : ¬ q.2.category = 2 := fun z => hc ⟨c1, z⟩
      simp [e, e2, c1, c2]
    · simp [e, e2, c1]
theorem wp_lstore {j : Nat} {z : Int} (hd : decode (mrec i).2.2.1 pc = .ok (.lstore j, 2)) (ho : stOK ls j = true ∧ j + 1 < ls.length) (k : Wp G l i d (pc + 2) ((ls.set j (some (vL z))).set (j + 1) none) st h Q) : Wp G l i d pc ls (vL z :: st) h Q := by
  intro p e s m args below meth c H locs la C hS hP hO hl hst
  refine lv_lstore C.1 C.2.1 hd hl.1 (by rw [← hl.2.1]; exact ho.2) rfl fun la' hl' => ?_
  refine k p e s m args below meth c H locs la' C hS hP hO ⟨sub_has hl' (prs_set2 ho.1 ho.2), by simpa using hl.2.1, fun u hu => ?_⟩ (okt hst)
  rcases List.mem_or_eq_of_mem_set hu with h9 | h9
  · exact set_ok hl.2.2 (okh hst) u h9
  · cases h9
theorem wp_lstore_n {j : Fin 4} {z : Int} (hd : decode (mrec i).2.2.1 pc = .ok (.lstore_n j, 1)) (ho : stOK ls j.val = true ∧ j.val + 1 < ls.length) (k : Wp G l i d (pc + 1) ((ls.set j.val (some (vL z))).set (j.val + 1) none) st h Q) : Wp G l i d pc ls (vL z :: st) h Q := by
  intro p e s m args below meth c H locs la C hS hP hO hl hst
  refine lv_lstore_n C.1 C.2.1 hd rfl hl.1 (by rw [← hl.2.1]; exact ho.2) rfl fun la' hl' => ?_
  refine k p e s m args below meth c H locs la' C hS hP hO ⟨sub_has hl' (prs_set2 ho.1 ho.2), by simpa using hl.2.1, fun u hu => ?_⟩ (okt hst)
  rcases List.mem_or_eq_of_mem_set hu with h9 | h9
  · exact set_ok hl.2.2 (okh hst) u h9
  · cases h9
theorem stOK_int {ls : LcT} {j : Nat} {la : Array Slot} {n : Nat} {G : GD} {v : AV} (hl : lv_has la n (prs G ls)) (hg : ls[j]? = some (some v)) : stOK ls j = true := by
  unfold stOK
  match j, hg with
  | 0, _ => rfl
  | j + 1, hg =>
    cases e : ls[j]? with
    | none => simp [e]
    | some o =>
      match o, e with
      | none, e => simp [e]
      | some (.inl z), e => simp [e]
      | some (.inr (.inr z)), e => simp [e]
      | some (.inr (.inl z)), e =>
        exfalso
        have h1 := hl.2.2 _ (prs_mem (G := G) e)
        have h2 := hl.2.2 _ (prs_mem (G := G) hg)
        have h3 := hl.2.1.1 j _ h1 rfl
        rw [h3] at h2
        cases h2
theorem wp_iinc {j : Nat} {n z : Int} (hd : decode (mrec i).2.2.1 pc = .ok (.iinc j n, 3)) (hg : lget ls j = some (vI z)) (k : Wp G l i d (pc + 3) (ls.set j (some (vI (w32 (z + n))))) st h Q) : Wp G l i d pc ls st h Q := by
  intro p e s m args below meth c H locs la C hS hP hO hl hst
  have e9 := lget_some hg
  obtain ⟨kk, hk9⟩ := List.getElem?_of_mem (prs_mem (G := G) e9)
  have hj : j < ls.length := (List.getElem?_eq_some_iff.mp e9).1
  refine lv_iinc (v := Int32.ofInt (w32 (z + n))) C.1 C.2.1 hd hl.1 (k := kk) hk9 (by simp only [w32, Int32.ofInt_toInt, Int32.ofInt_add]) (by rw [← hl.2.1]; exact hj) rfl fun la' hl' => ?_
  exact k p e s m args below meth c H locs la' C hS hP hO ⟨sub_has hl' (prs_set1 (v := vI (w32 (z + n))) rfl (stOK_int hl.1 e9) hj), by simpa using hl.2.1, set_ok hl.2.2 (show avOk (vI (w32 (z + n))) from w32_ok _)⟩ hst
theorem wp_goto {t : Nat} {o : Int} (hd : decode (mrec i).2.2.1 pc = .ok (.goto o, 3)) (ht : (pc : Int) + o = (t : Int)) (k : Wp G l i d t ls st h Q) : Wp G l i d pc ls st h Q := by
  intro p e s m args below meth c H locs la C hS hP hO hl hst
  exact lv_goto C.1 C.2.1 hd ht (k p e s m args below meth c H locs la C hS hP hO hl hst)
theorem wp_if_eq {a : Int} {t : Nat} {o : Int} (hd : decode (mrec i).2.2.1 pc = .ok (.ifCond .eq o, 3)) (ht : (pc : Int) + o = (t : Int)) (kt : a = 0 → Wp G l i d t ls st h Q) (kf : ¬ a = 0 → Wp G l i d (pc + 3) ls st h Q) : Wp G l i d pc ls (vI a :: st) h Q := by
  intro p e s m args below meth c H locs la C hS hP hO hl hst
  have ha : R32 a := okh hst
  have hb : R32 0 := r32_0
  have e1 := eq32 ha hb
  have e2 := lt32 ha hb
  have e3 := lt32 hb ha
  rw [← zero32] at e1 e2 e3
  refine lv_if_eq C.1 C.2.1 hd ht (fun hc => kt ?_ p e s m args below meth c H locs la C hS hP hO hl (okt hst)) (fun hc => kf ?_ p e s m args below meth c H locs la C hS hP hO hl (okt hst))
  all_goals (simp only [Int32.not_lt, Int32.not_le, Int32.le_iff_toInt_le, Int32.lt_iff_toInt_lt, ge_iff_le, gt_iff_lt, of32 ha, of32 hb, Int32.toInt_zero, e1] at hc; omega)
theorem wp_icmp_eq {a b : Int} {t : Nat} {o : Int} (hd : decode (mrec i).2.2.1 pc = .ok (.if_icmp .eq o, 3)) (ht : (pc : Int) + o = (t : Int)) (kt : a = b → Wp G l i d t ls st h Q) (kf : ¬ a = b → Wp G l i d (pc + 3) ls st h Q) : Wp G l i d pc ls (vI b :: vI a :: st) h Q := by
  intro p e s m args below meth c H locs la C hS hP hO hl hst
  have ha : R32 a := okh (okt hst)
  have hb : R32 b := okh hst
  have e1 := eq32 ha hb
  have e2 := lt32 ha hb
  have e3 := lt32 hb ha
  skip
  refine lv_icmp_eq C.1 C.2.1 hd ht (fun hc => kt ?_ p e s m args below meth c H locs la C hS hP hO hl (okt (okt hst))) (fun hc => kf ?_ p e s m args below meth c H locs la C hS hP hO hl (okt (okt hst)))
  all_goals (simp only [Int32.not_lt, Int32.not_le, Int32.le_iff_toInt_le, Int32.lt_iff_toInt_lt, ge_iff_le, gt_iff_lt, of32 ha, of32 hb, Int32.toInt_zero, e1] at hc; omega)
theorem wp_if_ne {a : Int} {t : Nat} {o : Int} (hd : decode (mrec i).2.2.1 pc = .ok (.ifCond .ne o, 3)) (ht : (pc : Int) + o = (t : Int)) (kt : ¬ a = 0 → Wp G l i d t ls st h Q) (kf : a = 0 → Wp G l i d (pc + 3) ls st h Q) : Wp G l i d pc ls (vI a :: st) h Q := by
  intro p e s m args below meth c H locs la C hS hP hO hl hst
  have ha : R32 a := okh hst
  have hb : R32 0 := r32_0
  have e1 := eq32 ha hb
  have e2 := lt32 ha hb
  have e3 := lt32 hb ha
  rw [← zero32] at e1 e2 e3
  refine lv_if_ne C.1 C.2.1 hd ht (fun hc => kt ?_ p e s m args below meth c H locs la C hS hP hO hl (okt hst)) (fun hc => kf ?_ p e s m args below meth c H locs la C hS hP hO hl (okt hst))
  all_goals (simp only [Int32.not_lt, Int32.not_le, Int32.le_iff_toInt_le, Int32.lt_iff_toInt_lt, ge_iff_le, gt_iff_lt, of32 ha, of32 hb, Int32.toInt_zero, e1] at hc; omega)
theorem wp_icmp_ne {a b : Int} {t : Nat} {o : Int} (hd : decode (mrec i).2.2.1 pc = .ok (.if_icmp .ne o, 3)) (ht : (pc : Int) + o = (t : Int)) (kt : ¬ a = b → Wp G l i d t ls st h Q) (kf : a = b → Wp G l i d (pc + 3) ls st h Q) : Wp G l i d pc ls (vI b :: vI a :: st) h Q := by
  intro p e s m args below meth c H locs la C hS hP hO hl hst
  have ha : R32 a := okh (okt hst)
  have hb : R32 b := okh hst
  have e1 := eq32 ha hb
  have e2 := lt32 ha hb
  have e3 := lt32 hb ha
  skip
  refine lv_icmp_ne C.1 C.2.1 hd ht (fun hc => kt ?_ p e s m args below meth c H locs la C hS hP hO hl (okt (okt hst))) (fun hc => kf ?_ p e s m args below meth c H locs la C hS hP hO hl (okt (okt hst)))
  all_goals (simp only [Int32.not_lt, Int32.not_le, Int32.le_iff_toInt_le, Int32.lt_iff_toInt_lt, ge_iff_le, gt_iff_lt, of32 ha, of32 hb, Int32.toInt_zero, e1] at hc; omega)
theorem wp_if_lt {a : Int} {t : Nat} {o : Int} (hd : decode (mrec i).2.2.1 pc = .ok (.ifCond .lt o, 3)) (ht : (pc : Int) + o = (t : Int)) (kt : a < 0 → Wp G l i d t ls st h Q) (kf : ¬ a < 0 → Wp G l i d (pc + 3) ls st h Q) : Wp G l i d pc ls (vI a :: st) h Q := by
  intro p e s m args below meth c H locs la C hS hP hO hl hst
  have ha : R32 a := okh hst
  have hb : R32 0 := r32_0
  have e1 := eq32 ha hb
  have e2 := lt32 ha hb
  have e3 := lt32 hb ha
  rw [← zero32] at e1 e2 e3
  refine lv_if_lt C.1 C.2.1 hd ht (fun hc => kt ?_ p e s m args below meth c H locs la C hS hP hO hl (okt hst)) (fun hc => kf ?_ p e s m args below meth c H locs la C hS hP hO hl (okt hst))
  all_goals (simp only [Int32.not_lt, Int32.not_le, Int32.le_iff_toInt_le, Int32.lt_iff_toInt_lt, ge_iff_le, gt_iff_lt, of32 ha, of32 hb, Int32.toInt_zero, e1] at hc; omega)
theorem wp_icmp_lt {a b : Int} {t : Nat} {o : Int} (hd : decode (mrec i).2.2.1 pc = .ok (.if_icmp .lt o, 3)) (ht : (pc : Int) + o = (t : Int)) (kt : a < b → Wp G l i d t ls st h Q) (kf : ¬ a < b → Wp G l i d (pc + 3) ls st h Q) : Wp G l i d pc ls (vI b :: vI a :: st) h Q := by
  intro p e s m args below meth c H locs la C hS hP hO hl hst
  have ha : R32 a := okh (okt hst)
  have hb : R32 b := okh hst
  have e1 := eq32 ha hb
  have e2 := lt32 ha hb
  have e3 := lt32 hb ha
  skip
  refine lv_icmp_lt C.1 C.2.1 hd ht (fun hc => kt ?_ p e s m args below meth c H locs la C hS hP hO hl (okt (okt hst))) (fun hc => kf ?_ p e s m args below meth c H locs la C hS hP hO hl (okt (okt hst)))
  all_goals (simp only [Int32.not_lt, Int32.not_le, Int32.le_iff_toInt_le, Int32.lt_iff_toInt_lt, ge_iff_le, gt_iff_lt, of32 ha, of32 hb, Int32.toInt_zero, e1] at hc; omega)
theorem wp_if_ge {a : Int} {t : Nat} {o : Int} (hd : decode (mrec i).2.2.1 pc = .ok (.ifCond .ge o, 3)) (ht : (pc : Int) + o = (t : Int)) (kt : ¬ a < 0 → Wp G l i d t ls st h Q) (kf : a < 0 → Wp G l i d (pc + 3) ls st h Q) : Wp G l i d pc ls (vI a :: st) h Q := by
  intro p e s m args below meth c H locs la C hS hP hO hl hst
  have ha : R32 a := okh hst
  have hb : R32 0 := r32_0
  have e1 := eq32 ha hb
  have e2 := lt32 ha hb
  have e3 := lt32 hb ha
  rw [← zero32] at e1 e2 e3
  refine lv_if_ge C.1 C.2.1 hd ht (fun hc => kt ?_ p e s m args below meth c H locs la C hS hP hO hl (okt hst)) (fun hc => kf ?_ p e s m args below meth c H locs la C hS hP hO hl (okt hst))
  all_goals (simp only [Int32.not_lt, Int32.not_le, Int32.le_iff_toInt_le, Int32.lt_iff_toInt_lt, ge_iff_le, gt_iff_lt, of32 ha, of32 hb, Int32.toInt_zero, e1] at hc; omega)
theorem wp_icmp_ge {a b : Int} {t : Nat} {o : Int} (hd : decode (mrec i).2.2.1 pc = .ok (.if_icmp .ge o, 3)) (ht : (pc : Int) + o = (t : Int)) (kt : ¬ a < b → Wp G l i d t ls st h Q) (kf : a < b → Wp G l i d (pc + 3) ls st h Q) : Wp G l i d pc ls (vI b :: vI a :: st) h Q := by
  intro p e s m args below meth c H locs la C hS hP hO hl hst
  have ha : R32 a := okh (okt hst)
  have hb : R32 b := okh hst
  have e1 := eq32 ha hb
  have e2 := lt32 ha hb
  have e3 := lt32 hb ha
  skip
  refine lv_icmp_ge C.1 C.2.1 hd ht (fun hc => kt ?_ p e s m args below meth c H locs la C hS hP hO hl (okt (okt hst))) (fun hc => kf ?_ p e s m args below meth c H locs la C hS hP hO hl (okt (okt hst)))
  all_goals (simp only [Int32.not_lt, Int32.not_le, Int32.le_iff_toInt_le, Int32.lt_iff_toInt_lt, ge_iff_le, gt_iff_lt, of32 ha, of32 hb, Int32.toInt_zero, e1] at hc; omega)
theorem wp_if_gt {a : Int} {t : Nat} {o : Int} (hd : decode (mrec i).2.2.1 pc = .ok (.ifCond .gt o, 3)) (ht : (pc : Int) + o = (t : Int)) (kt : 0 < a → Wp G l i d t ls st h Q) (kf : ¬ 0 < a → Wp G l i d (pc + 3) ls st h Q) : Wp G l i d pc ls (vI a :: st) h Q := by
  intro p e s m args below meth c H locs la C hS hP hO hl hst
  have ha : R32 a := okh hst
  have hb : R32 0 := r32_0
  have e1 := eq32 ha hb
  have e2 := lt32 ha hb
  have e3 := lt32 hb ha
  rw [← zero32] at e1 e2 e3
  refine lv_if_gt C.1 C.2.1 hd ht (fun hc => kt ?_ p e s m args below meth c H locs la C hS hP hO hl (okt hst)) (fun hc => kf ?_ p e s m args below meth c H locs la C hS hP hO hl (okt hst))
  all_goals (simp only [Int32.not_lt, Int32.not_le, Int32.le_iff_toInt_le, Int32.lt_iff_toInt_lt, ge_iff_le, gt_iff_lt, of32 ha, of32 hb, Int32.toInt_zero, e1] at hc; omega)
theorem wp_icmp_gt {a b : Int} {t : Nat} {o : Int} (hd : decode (mrec i).2.2.1 pc = .ok (.if_icmp .gt o, 3)) (ht : (pc : Int) + o = (t : Int)) (kt : b < a → Wp G l i d t ls st h Q) (kf : ¬ b < a → Wp G l i d (pc + 3) ls st h Q) : Wp G l i d pc ls (vI b :: vI a :: st) h Q := by
  intro p e s m args below meth c H locs la C hS hP hO hl hst
  have ha : R32 a := okh (okt hst)
  have hb : R32 b := okh hst
  have e1 := eq32 ha hb
  have e2 := lt32 ha hb
  have e3 := lt32 hb ha
  skip
  refine lv_icmp_gt C.1 C.2.1 hd ht (fun hc => kt ?_ p e s m args below meth c H locs la C hS hP hO hl (okt (okt hst))) (fun hc => kf ?_ p e s m args below meth c H locs la C hS hP hO hl (okt (okt hst)))
  all_goals (simp only [Int32.not_lt, Int32.not_le, Int32.le_iff_toInt_le, Int32.lt_iff_toInt_lt, ge_iff_le, gt_iff_lt, of32 ha, of32 hb, Int32.toInt_zero, e1] at hc; omega)
theorem wp_if_le {a : Int} {t : Nat} {o : Int} (hd : decode (mrec i).2.2.1 pc = .ok (.ifCond .le o, 3)) (ht : (pc : Int) + o = (t : Int)) (kt : ¬ 0 < a → Wp G l i d t ls st h Q) (kf : 0 < a → Wp G l i d (pc + 3) ls st h Q) : Wp G l i d pc ls (vI a :: st) h Q := by
  intro p e s m args below meth c H locs la C hS hP hO hl hst
  have ha : R32 a := okh hst
  have hb : R32 0 := r32_0
  have e1 := eq32 ha hb
  have e2 := lt32 ha hb
  have e3 := lt32 hb ha
  rw [← zero32] at e1 e2 e3
  refine lv_if_le C.1 C.2.1 hd ht (fun hc => kt ?_ p e s m args below meth c H locs la C hS hP hO hl (okt hst)) (fun hc => kf ?_ p e s m args below meth c H locs la C hS hP hO hl (okt hst))
  all_goals (simp only [Int32.not_lt, Int32.not_le, Int32.le_iff_toInt_le, Int32.lt_iff_toInt_lt, ge_iff_le, gt_iff_lt, of32 ha, of32 hb, Int32.toInt_zero, e1] at hc; omega)
theorem wp_icmp_le {a b : Int} {t : Nat} {o : Int} (hd : decode (mrec i).2.2.1 pc = .ok (.if_icmp .le o, 3)) (ht : (pc : Int) + o = (t : Int)) (kt : ¬ b < a → Wp G l i d t ls st h Q) (kf : b < a → Wp G l i d (pc + 3) ls st h Q) : Wp G l i d pc ls (vI b :: vI a :: st) h Q := by
  intro p e s m args below meth c H locs la C hS hP hO hl hst
  have ha : R32 a := okh (okt hst)
  have hb : R32 b := okh hst
  have e1 := eq32 ha hb
  have e2 := lt32 ha hb
  have e3 := lt32 hb ha
  skip
  refine lv_icmp_le C.1 C.2.1 hd ht (fun hc => kt ?_ p e s m args below meth c H locs la C hS hP hO hl (okt (okt hst))) (fun hc => kf ?_ p e s m args below meth c H locs la C hS hP hO hl (okt (okt hst)))
  all_goals (simp only [Int32.not_lt, Int32.not_le, Int32.le_iff_toInt_le, Int32.lt_iff_toInt_lt, ge_iff_le, gt_iff_lt, of32 ha, of32 hb, Int32.toInt_zero, e1] at hc; omega)
end INS
