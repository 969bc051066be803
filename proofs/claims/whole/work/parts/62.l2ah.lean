section L2AH
variable {G : GD} {l : Launch} {d : Nat} {h : AH}
theorem PI_cell {h' : AH} {ww : Int} (e : ∀ a c, a < 45 → h' a c = h a c) (hi : PI h 12 ww) : PI h' 12 ww := by
  obtain ⟨h1, h2, h3, h4, h5, h6, h7⟩ := hi
  refine ⟨by rw [e _ _ (by omega)]; exact h1, fun j hj => ?_, fun j hj => ?_, fun j hj => ?_, by rw [e _ _ (by omega)]; exact h5, ⟨by rw [e _ _ (by omega)]; exact h6.1, fun j hj => ?_⟩, by rw [e _ _ (by omega)]; exact h7⟩
  · rw [e _ _ (by omega)] at hj ⊢; rw [e _ _ (by omega)]; exact h2 j hj
  · rw [e _ _ (by omega)] at hj; exact goI_cell (h3 j hj) (fun a c ha => e a c (by omega))
  · rw [e _ _ (by omega)] at hj ⊢; exact h4 j hj
  · rw [e _ _ (by omega)] at hj; rw [e _ _ (by omega), e _ _ (by omega)]; exact h6.2 j hj
theorem MI_cell {h' : AH} {aa : Nat} {ww : Int} (e : ∀ a c, (a ≠ 82 ∨ c ≠ 36) → a ≠ 102 → h' a c = h a c) (hi : MI h aa ww) : MI h' aa ww := by
  obtain ⟨h1, h2, h3, h4, h5⟩ := hi
  refine ⟨by rw [e _ _ (by omega) (by omega)]; exact h1, by rw [e _ _ (by omega) (by omega)]; exact h2, fun j hj => ?_, fun j => by rw [e _ _ (by omega) (by omega)]; exact h4 j, by rw [e _ _ (by omega) (by omega)]; exact h5⟩
  rw [e _ _ (by omega) (by omega)] at hj
  obtain ⟨f1, f2, f3, f4, f5, f6⟩ := h3 j hj
  exact ⟨by rw [e _ _ (by omega) (by omega)]; exact f1, by rw [e _ _ (by omega) (by omega)]; exact f2, by rw [e _ _ (by omega) (by omega)]; exact f3, fun k => by rw [e _ _ (by omega) (by omega)]; exact f4 k, by rw [e _ _ (by omega) (by omega)]; exact f5, ⟨by rw [e _ _ (by omega) (by omega)]; exact f6.1, fun i hi => by rw [e _ _ (by omega) (by omega)] at hi; rw [e _ _ (by omega) (by omega), e _ _ (by omega) (by omega)]; exact f6.2 i hi⟩⟩
def tellX (cc : Nat) (x : AH) : AH := hu (hu (passX (hu x cc 0 (x 12 13)) 12) cc 1 (setX (passX (hu x cc 0 (x 12 13)) 12) 12 (x 12 0).toNat)) cc 2 (sumX (passX (hu x cc 0 (x 12 13)) 12) 12 (x 12 0).toNat)
theorem sumX_c {x y : AH} : ∀ n : Nat, (∀ c, y 15 c = x 15 c) → sumX y 12 n = sumX x 12 n
  | 0, _ => rfl
  | n + 1, e => by unfold sumX; rw [sumX_c n e, show y (12 + 3) n = x (12 + 3) n from e n]
theorem tellX_o {cc : Nat} {x : AH} (hcc : 45 ≤ cc) (a c : Nat) (ha : a < 45) : tellX cc x a c = passX (hu x cc 0 (x 12 13)) 12 a c := by unfold tellX; rw [hu_o (by omega), hu_o (by omega)]
set_option maxHeartbeats 800000 in
theorem s_tell {cc : Nat} {ww : Int} (hsh : sh cc = (1, 3, [])) (hcc : 45 ≤ cc) (hi : PI h 12 ww) (hw : ww ≤ 90000) (hd : 4 ≤ d) : CallR G l d 109 [vR 0, vR cc] h (fun r h' => r = none ∧ h' = tellX cc h) := by
  refine in109 [] 40 fun hO => ?_
  have hi2 : PI (hu h cc 0 (h 12 13)) 12 ww := PI_cell (fun a c ha => hu_o (by omega)) hi
  have n1 : (12 = cc) = False := by simp; omega
  have pc : passX (hu h cc 0 (h 12 13)) 12 12 0 = h 12 0 := by rw [passX_o isT12 _ _ (by omega), hu_o (by omega)]
  have c0 := hi.1
  have sx : ∀ v m, sumX (hu (passX (hu h cc 0 (h 12 13)) 12) cc 1 v) 12 m = sumX (passX (hu h cc 0 (h 12 13)) 12) 12 m := fun v m => sumX_c m (fun c => hu_o (by omega))
  simp only [c109, rlA, KF_s, KF_0, elN_n, elN_c, ↓reduceIte, Bool.false_eq_true, Int.reduceToNat, lk_c, lk_n, sw_c, sw_n, List.getD_cons_zero, List.getD_cons_succ, fv_0, fv_1, fv_2, fv_r, pf_0, pf_2, Option.toList_some, Option.toList_none, List.cons_append, List.nil_append, stK_n, stK_i, stK_r, true_and, and_true, true_or, or_true, List.length_nil, List.length_cons, Nat.zero_add, Nat.reduceAdd, Nat.reduceLeDiff, bi_0, bi_1, bi_01, em_1, em_2, cmp64_0, cmp64_lt, cmp64_gt, hu_ap, ne_a1, ne_a2, Decidable.not_not, Int.reduceAdd, Int.reduceNeg, Int.toNat_natCast, Int.toNat_zero, Int.toNat_one, List.append_nil, reduceCtorEq, Nat.reduceEqDiff, Nat.reduceBEq, Bool.or_false, Bool.false_or, Bool.true_or, Bool.or_true, some_vI, Int.le_refl, Nat.le_refl, false_or, or_false, Int.reduceLE, Int.reduceLT, Int.reduceEq, Int.zero_le_ofNat, and_self, if_true, if_false, false_and, and_false, not_true_eq_false, not_false_eq_true, false_implies, forall_const, shA, hsh, n1, pc, sx]
  repeat' first | with_reducible intro _ | (refine call_of (d' := d - 1) (by omega) (s_pass isT12 hi2 hw (by omega)) ?_) | (refine call_of (d' := d - 1) (by omega) (s_arrivedSet isT12 (by rw [pc]; exact c0)) ?_) | (refine call_of (d' := d - 1) (by omega) (s_floorSum isT12 (by rw [hu_o (by omega), pc]; exact c0)) ?_) | simp only [c109, rlA, KF_s, KF_0, elN_n, elN_c, ↓reduceIte, Bool.false_eq_true, Int.reduceToNat, lk_c, lk_n, sw_c, sw_n, List.getD_cons_zero, List.getD_cons_succ, fv_0, fv_1, fv_2, fv_r, pf_0, pf_2, Option.toList_some, Option.toList_none, List.cons_append, List.nil_append, stK_n, stK_i, stK_r, true_and, and_true, true_or, or_true, List.length_nil, List.length_cons, Nat.zero_add, Nat.reduceAdd, Nat.reduceLeDiff, bi_0, bi_1, bi_01, em_1, em_2, cmp64_0, cmp64_lt, cmp64_gt, hu_ap, ne_a1, ne_a2, Decidable.not_not, Int.reduceAdd, Int.reduceNeg, Int.toNat_natCast, Int.toNat_zero, Int.toNat_one, List.append_nil, reduceCtorEq, Nat.reduceEqDiff, Nat.reduceBEq, Bool.or_false, Bool.false_or, Bool.true_or, Bool.or_true, some_vI, Int.le_refl, Nat.le_refl, false_or, or_false, Int.reduceLE, Int.reduceLT, Int.reduceEq, Int.zero_le_ofNat, and_self, if_true, if_false, false_and, and_false, not_true_eq_false, not_false_eq_true, false_implies, forall_const, shA, hsh, n1, pc, sx] | with_reducible apply And.intro
  all_goals first | exact True.intro | omega | rfl
set_option maxHeartbeats 800000 in
theorem s_isRight {cc : Nat} (hsh : sh cc = (1, 3, [])) : CallR G l d 110 [vR 0, vR cc] h (fun r h' => r = some (vI (bi (h cc 0 = h 65 0 ∧ h cc 1 = h 65 1 ∧ h cc 2 = h 65 2))) ∧ h' = h) := by
  refine in110 [2] 40 fun hO => ?_
  have l3 : Wp G l 110 d 2 [some (vR 0), some (vR cc), some (vI 3)] [] h (fun r h' => r = some (vI 1) ∧ h' = h) := by
    refine Wp.go [2] 40 ok_110 ?_
    simp only [c110, rlA, KF_s, KF_0, elN_n, elN_c, ↓reduceIte, Bool.false_eq_true, Int.reduceToNat, lk_c, lk_n, sw_c, sw_n, List.getD_cons_zero, List.getD_cons_succ, fv_0, fv_1, fv_2, fv_r, pf_0, pf_2, Option.toList_some, Option.toList_none, List.cons_append, List.nil_append, stK_n, stK_i, stK_r, true_and, and_true, true_or, or_true, List.length_nil, List.length_cons, Nat.zero_add, Nat.reduceAdd, Nat.reduceLeDiff, bi_0, bi_1, bi_01, em_1, em_2, cmp64_0, cmp64_lt, cmp64_gt, hu_ap, ne_a1, ne_a2, Decidable.not_not, Int.reduceAdd, Int.reduceNeg, Int.toNat_natCast, Int.toNat_zero, Int.toNat_one, List.append_nil, reduceCtorEq, Nat.reduceEqDiff, Nat.reduceBEq, Bool.or_false, Bool.false_or, Bool.true_or, Bool.or_true, some_vI, Int.le_refl, Nat.le_refl, false_or, or_false, Int.reduceLE, Int.reduceLT, Int.reduceEq, Int.zero_le_ofNat, and_self, if_true, if_false, false_and, and_false, not_true_eq_false, not_false_eq_true, false_implies, forall_const, shA, hsh]
    repeat' first | with_reducible intro _ | simp only [c110, rlA, KF_s, KF_0, elN_n, elN_c, ↓reduceIte, Bool.false_eq_true, Int.reduceToNat, lk_c, lk_n, sw_c, sw_n, List.getD_cons_zero, List.getD_cons_succ, fv_0, fv_1, fv_2, fv_r, pf_0, pf_2, Option.toList_some, Option.toList_none, List.cons_append, List.nil_append, stK_n, stK_i, stK_r, true_and, and_true, true_or, or_true, List.length_nil, List.length_cons, Nat.zero_add, Nat.reduceAdd, Nat.reduceLeDiff, bi_0, bi_1, bi_01, em_1, em_2, cmp64_0, cmp64_lt, cmp64_gt, hu_ap, ne_a1, ne_a2, Decidable.not_not, Int.reduceAdd, Int.reduceNeg, Int.toNat_natCast, Int.toNat_zero, Int.toNat_one, List.append_nil, reduceCtorEq, Nat.reduceEqDiff, Nat.reduceBEq, Bool.or_false, Bool.false_or, Bool.true_or, Bool.or_true, some_vI, Int.le_refl, Nat.le_refl, false_or, or_false, Int.reduceLE, Int.reduceLT, Int.reduceEq, Int.zero_le_ofNat, and_self, if_true, if_false, false_and, and_false, not_true_eq_false, not_false_eq_true, false_implies, forall_const, shA, hsh] | with_reducible apply And.intro
    all_goals first | exact True.intro | omega
  have key : ∀ k : Nat, k ≤ 3 → (∀ j : Nat, j < k → h cc j = h 65 j) → Wp G l 110 d 2 [some (vR 0), some (vR cc), some (vI k)] [] h (fun r h' => r = some (vI (bi (h cc 0 = h 65 0 ∧ h cc 1 = h 65 1 ∧ h cc 2 = h 65 2))) ∧ h' = h) := by
    refine down (X := fun k => (∀ j : Nat, j < k → h cc j = h 65 j) → Wp G l 110 d 2 [some (vR 0), some (vR cc), some (vI k)] [] h (fun r h' => r = some (vI (bi (h cc 0 = h 65 0 ∧ h cc 1 = h 65 1 ∧ h cc 2 = h 65 2))) ∧ h' = h)) 3 ?_ ?_
    · intro hj
      rw [bi_t ⟨hj 0 (by omega), hj 1 (by omega), hj 2 (by omega)⟩]
      exact l3
    · intro k hk ih hj
      have ew := w_s k (by omega)
      have no : ¬ h cc k = h 65 k → bi (h cc 0 = h 65 0 ∧ h cc 1 = h 65 1 ∧ h cc 2 = h 65 2) = 0 := fun z => bi_f (fun w => z (by
        rcases (show k = 0 ∨ k = 1 ∨ k = 2 by omega) with rfl | rfl | rfl
        · exact w.1
        · exact w.2.1
        · exact w.2.2))
      refine Wp.go [2] 40 ok_110 ?_
      simp only [c110, rlA, KF_s, KF_0, elN_n, elN_c, ↓reduceIte, Bool.false_eq_true, Int.reduceToNat, lk_c, lk_n, sw_c, sw_n, List.getD_cons_zero, List.getD_cons_succ, fv_0, fv_1, fv_2, fv_r, pf_0, pf_2, Option.toList_some, Option.toList_none, List.cons_append, List.nil_append, stK_n, stK_i, stK_r, true_and, and_true, true_or, or_true, List.length_nil, List.length_cons, Nat.zero_add, Nat.reduceAdd, Nat.reduceLeDiff, bi_0, bi_1, bi_01, em_1, em_2, cmp64_0, cmp64_lt, cmp64_gt, hu_ap, ne_a1, ne_a2, Decidable.not_not, Int.reduceAdd, Int.reduceNeg, Int.toNat_natCast, Int.toNat_zero, Int.toNat_one, List.append_nil, reduceCtorEq, Nat.reduceEqDiff, Nat.reduceBEq, Bool.or_false, Bool.false_or, Bool.true_or, Bool.or_true, some_vI, Int.le_refl, Nat.le_refl, false_or, or_false, Int.reduceLE, Int.reduceLT, Int.reduceEq, Int.zero_le_ofNat, and_self, if_true, if_false, false_and, and_false, not_true_eq_false, not_false_eq_true, false_implies, forall_const, shA, hsh, ew]
      repeat' first | with_reducible intro _ | simp only [c110, rlA, KF_s, KF_0, elN_n, elN_c, ↓reduceIte, Bool.false_eq_true, Int.reduceToNat, lk_c, lk_n, sw_c, sw_n, List.getD_cons_zero, List.getD_cons_succ, fv_0, fv_1, fv_2, fv_r, pf_0, pf_2, Option.toList_some, Option.toList_none, List.cons_append, List.nil_append, stK_n, stK_i, stK_r, true_and, and_true, true_or, or_true, List.length_nil, List.length_cons, Nat.zero_add, Nat.reduceAdd, Nat.reduceLeDiff, bi_0, bi_1, bi_01, em_1, em_2, cmp64_0, cmp64_lt, cmp64_gt, hu_ap, ne_a1, ne_a2, Decidable.not_not, Int.reduceAdd, Int.reduceNeg, Int.toNat_natCast, Int.toNat_zero, Int.toNat_one, List.append_nil, reduceCtorEq, Nat.reduceEqDiff, Nat.reduceBEq, Bool.or_false, Bool.false_or, Bool.true_or, Bool.or_true, some_vI, Int.le_refl, Nat.le_refl, false_or, or_false, Int.reduceLE, Int.reduceLT, Int.reduceEq, Int.zero_le_ofNat, and_self, if_true, if_false, false_and, and_false, not_true_eq_false, not_false_eq_true, false_implies, forall_const, shA, hsh, ew] | with_reducible apply And.intro
      all_goals first | exact True.intro | omega | (rw [no (by assumption)]) | (refine ih (fun j hj2 => ?_); by_cases e : j = k; (subst e; assumption); exact hj j (by omega))
  simp only [c110, rlA, KF_s, KF_0, elN_n, elN_c, ↓reduceIte, Bool.false_eq_true, Int.reduceToNat, lk_c, lk_n, sw_c, sw_n, List.getD_cons_zero, List.getD_cons_succ, fv_0, fv_1, fv_2, fv_r, pf_0, pf_2, Option.toList_some, Option.toList_none, List.cons_append, List.nil_append, stK_n, stK_i, stK_r, true_and, and_true, true_or, or_true, List.length_nil, List.length_cons, Nat.zero_add, Nat.reduceAdd, Nat.reduceLeDiff, bi_0, bi_1, bi_01, em_1, em_2, cmp64_0, cmp64_lt, cmp64_gt, hu_ap, ne_a1, ne_a2, Decidable.not_not, Int.reduceAdd, Int.reduceNeg, Int.toNat_natCast, Int.toNat_zero, Int.toNat_one, List.append_nil, reduceCtorEq, Nat.reduceEqDiff, Nat.reduceBEq, Bool.or_false, Bool.false_or, Bool.true_or, Bool.or_true, some_vI, Int.le_refl, Nat.le_refl, false_or, or_false, Int.reduceLE, Int.reduceLT, Int.reduceEq, Int.zero_le_ofNat, and_self, if_true, if_false, false_and, and_false, not_true_eq_false, not_false_eq_true, false_implies, forall_const, shA, hsh]
  repeat' first | with_reducible intro _ | simp only [c110, rlA, KF_s, KF_0, elN_n, elN_c, ↓reduceIte, Bool.false_eq_true, Int.reduceToNat, lk_c, lk_n, sw_c, sw_n, List.getD_cons_zero, List.getD_cons_succ, fv_0, fv_1, fv_2, fv_r, pf_0, pf_2, Option.toList_some, Option.toList_none, List.cons_append, List.nil_append, stK_n, stK_i, stK_r, true_and, and_true, true_or, or_true, List.length_nil, List.length_cons, Nat.zero_add, Nat.reduceAdd, Nat.reduceLeDiff, bi_0, bi_1, bi_01, em_1, em_2, cmp64_0, cmp64_lt, cmp64_gt, hu_ap, ne_a1, ne_a2, Decidable.not_not, Int.reduceAdd, Int.reduceNeg, Int.toNat_natCast, Int.toNat_zero, Int.toNat_one, List.append_nil, reduceCtorEq, Nat.reduceEqDiff, Nat.reduceBEq, Bool.or_false, Bool.false_or, Bool.true_or, Bool.or_true, some_vI, Int.le_refl, Nat.le_refl, false_or, or_false, Int.reduceLE, Int.reduceLT, Int.reduceEq, Int.zero_le_ofNat, and_self, if_true, if_false, false_and, and_false, not_true_eq_false, not_false_eq_true, false_implies, forall_const, shA, hsh] | with_reducible apply And.intro
  all_goals first | exact True.intro | omega | exact key 0 (by omega) (fun j hj => by omega)
set_option maxHeartbeats 800000 in
theorem s_proveO {n : Int} (hn : ¬ (1 ≤ n ∧ n ≤ 20)) (hd : 2 ≤ d) : CallR G l d 82 [vR 0, vI n] h (fun r h' => r = some (vI (-1)) ∧ h' = h) := by
  refine in82 [54] 40 fun _ hO => ?_
  simp only [c82, rlA, KF_s, KF_0, elN_n, elN_c, ↓reduceIte, Bool.false_eq_true, Int.reduceToNat, lk_c, lk_n, sw_c, sw_n, List.getD_cons_zero, List.getD_cons_succ, fv_0, fv_1, fv_2, fv_r, pf_0, pf_2, Option.toList_some, Option.toList_none, List.cons_append, List.nil_append, stK_n, stK_i, stK_r, true_and, and_true, true_or, or_true, List.length_nil, List.length_cons, Nat.zero_add, Nat.reduceAdd, Nat.reduceLeDiff, bi_0, bi_1, bi_01, em_1, em_2, cmp64_0, cmp64_lt, cmp64_gt, hu_ap, ne_a1, ne_a2, Decidable.not_not, Int.reduceAdd, Int.reduceNeg, Int.toNat_natCast, Int.toNat_zero, Int.toNat_one, List.append_nil, reduceCtorEq, Nat.reduceEqDiff, Nat.reduceBEq, Bool.or_false, Bool.false_or, Bool.true_or, Bool.or_true, some_vI, Int.le_refl, Nat.le_refl, false_or, or_false, Int.reduceLE, Int.reduceLT, Int.reduceEq, Int.zero_le_ofNat, and_self, if_true, if_false, false_and, and_false, not_true_eq_false, not_false_eq_true, false_implies, forall_const, shA]
  repeat' first | with_reducible intro _ | (refine call_of (d' := d - 1) (by omega) (s_within) ?_) | simp only [c82, rlA, KF_s, KF_0, elN_n, elN_c, ↓reduceIte, Bool.false_eq_true, Int.reduceToNat, lk_c, lk_n, sw_c, sw_n, List.getD_cons_zero, List.getD_cons_succ, fv_0, fv_1, fv_2, fv_r, pf_0, pf_2, Option.toList_some, Option.toList_none, List.cons_append, List.nil_append, stK_n, stK_i, stK_r, true_and, and_true, true_or, or_true, List.length_nil, List.length_cons, Nat.zero_add, Nat.reduceAdd, Nat.reduceLeDiff, bi_0, bi_1, bi_01, em_1, em_2, cmp64_0, cmp64_lt, cmp64_gt, hu_ap, ne_a1, ne_a2, Decidable.not_not, Int.reduceAdd, Int.reduceNeg, Int.toNat_natCast, Int.toNat_zero, Int.toNat_one, List.append_nil, reduceCtorEq, Nat.reduceEqDiff, Nat.reduceBEq, Bool.or_false, Bool.false_or, Bool.true_or, Bool.or_true, some_vI, Int.le_refl, Nat.le_refl, false_or, or_false, Int.reduceLE, Int.reduceLT, Int.reduceEq, Int.zero_le_ofNat, and_self, if_true, if_false, false_and, and_false, not_true_eq_false, not_false_eq_true, false_implies, forall_const, shA] | with_reducible apply And.intro
  all_goals first | exact True.intro | omega | with_reducible rfl | rfl | ((repeat' split) <;> first | rfl | trivial | omega | (exfalso; omega)) | (simp only [bi]; (repeat' split) <;> omega)
def pvX (h : AH) (kk : Int) : Nat → AH
  | 0 => hu (readyX (becomeX h 12 1) 12) 0 8 kk
  | n + 1 => tellX (45 + n) (pvX h kk n)
def jdX (h : AH) : Nat → AH
  | 0 => readyX (becomeX h 12 1) 12
  | n + 1 => tellX 65 (jdX h n)
theorem tell_inv {cc : Nat} {x : AH} {ww : Int} (hcc : 45 ≤ cc) (hi : PI x 12 ww) (hm : x 12 13 < 120) : PI (tellX cc x) 12 (ww + 8) ∧ tellX cc x 12 13 = x 12 13 + 1 ∧ (CL x → CL (tellX cc x)) := by
  have hi2 : PI (hu x cc 0 (x 12 13)) 12 ww := PI_cell (fun a c ha => hu_o (by omega)) hi
  have m2 : hu x cc 0 (x 12 13) 12 13 = x 12 13 := hu_o (by omega)
  refine ⟨PI_cell (fun a c ha => tellX_o hcc a c ha) (PI_passX isT12 hi2 (by rw [m2]; exact hm)), by rw [tellX_o hcc _ _ (by omega), passX_m, m2], fun hc => ?_⟩
  have hc2 : CL (hu x cc 0 (x 12 13)) := ⟨fun j => by rw [hu_o (by omega)]; exact hc.1 j, fun j => by rw [hu_o (by omega)]; exact hc.2 j⟩
  have := CL_pass isT12 hi2 hc2 (by rw [m2]; exact hm)
  exact ⟨fun j => by rw [tellX_o hcc _ _ (by omega)]; exact this.1 j, fun j => by rw [tellX_o hcc _ _ (by omega)]; exact this.2 j⟩
theorem tell_f {cc : Nat} {x : AH} (hcc : 45 ≤ cc) (a c : Nat) (ha : ¬ (12 ≤ a ∧ a ≤ 22) ∧ ¬ (34 ≤ a ∧ a ≤ 41) ∧ a ≠ cc) : tellX cc x a c = x a c := by
  unfold tellX; rw [hu_o (by omega), hu_o (by omega), passX_o isT12 _ _ (by omega), hu_o (by omega)]
theorem pv_inv {g : AH} {kk : Int} (hb : BB h g) (hcl : CL h) (h0 : kk ≤ 120 - h 1 13) : ∀ n : Nat, (n : Int) ≤ kk → PI (pvX h kk n) 12 (8 + 8 * n) ∧ pvX h kk n 12 13 = h 1 13 + n ∧ pvX h kk n 0 8 = kk ∧ CL (pvX h kk n)
  | 0, _ => by
    have sg := SG_start hb hcl
    have e1 : PI (readyX (becomeX h 12 1) 12) 12 8 := PI_ready isT12 (SG_TG sg)
    refine ⟨?_, ?_, by show hu _ 0 8 kk 0 8 = kk; simp [hu], ?_⟩
    · have := PI_cell (h' := hu (readyX (becomeX h 12 1) 12) 0 8 kk) (h := hu (readyX (becomeX h 12 1) 12) 0 8 kk) (fun a c _ => rfl) (by
        obtain ⟨h1, h2, h3, h4, h5, h6, h7⟩ := e1
        have o : ∀ a c, a ≠ 0 → hu (readyX (becomeX h 12 1) 12) 0 8 kk a c = readyX (becomeX h 12 1) 12 a c := fun a c q => hu_o (by omega)
        refine ⟨by rw [o _ _ (by omega)]; exact h1, fun j hj => ?_, fun j hj => ?_, fun j hj => ?_, by rw [o _ _ (by omega)]; exact h5, ⟨by rw [o _ _ (by omega)]; exact h6.1, fun j hj => ?_⟩, by rw [o _ _ (by omega)]; exact h7⟩
        · rw [o _ _ (by omega)] at hj ⊢; rw [o _ _ (by omega)]; exact h2 j hj
        · rw [o _ _ (by omega)] at hj; exact goI_cell (h3 j hj) (fun a c ha => o a c (by omega))
        · rw [o _ _ (by omega)] at hj ⊢; exact h4 j hj
        · rw [o _ _ (by omega)] at hj; rw [o _ _ (by omega), o _ _ (by omega)]; exact h6.2 j hj)
      show PI (hu (readyX (becomeX h 12 1) 12) 0 8 kk) 12 _
      simpa using this
    · show hu _ 0 8 kk 12 13 = _
      rw [hu_o (by omega), ready_o _ _ (by omega), bec_s _ (by omega)]; simp
    · show CL (hu _ 0 8 kk)
      have := CL_ready (tt := 12) (ag_bec hcl).2
      exact ⟨fun j => by rw [hu_o (by omega)]; exact this.1 j, fun j => by rw [hu_o (by omega)]; exact this.2 j⟩
  | n + 1, hn => by
    obtain ⟨i1, i2, i3, i4⟩ := pv_inv hb hcl h0 n (by omega)
    obtain ⟨t1, t2, t3⟩ := tell_inv (cc := 45 + n) (by omega) i1 (by rw [i2]; omega)
    refine ⟨?_, ?_, ?_, t3 i4⟩
    · show PI (tellX (45 + n) (pvX h kk n)) 12 _
      rw [show (8 : Int) + 8 * ((n + 1 : Nat) : Int) = 8 + 8 * n + 8 by omega]; exact t1
    · show tellX (45 + n) (pvX h kk n) 12 13 = _
      rw [t2, i2]; omega
    · show tellX (45 + n) (pvX h kk n) 0 8 = _
      rw [tell_f (by omega) _ _ (by omega)]; exact i3
theorem jd_inv {g : AH} (hb : BB h g) (hcl : CL h) : ∀ n : Nat, h 1 13 + n ≤ 120 → PI (jdX h n) 12 (8 + 8 * n) ∧ jdX h n 12 13 = h 1 13 + n ∧ CL (jdX h n) ∧ (∀ a c, ¬ (12 ≤ a ∧ a ≤ 22) → ¬ (34 ≤ a ∧ a ≤ 41) → a ≠ 65 → jdX h n a c = h a c)
  | 0, _ => by
    have sg := SG_start hb hcl
    refine ⟨by simpa [jdX] using PI_ready isT12 (SG_TG sg), ?_, CL_ready (tt := 12) (ag_bec hcl).2, fun a c z1 z2 z3 => ?_⟩
    · show readyX _ 12 12 13 = _
      rw [ready_o _ _ (by omega), bec_s _ (by omega)]; simp
    · show readyX _ 12 a c = _
      rw [ready_o _ _ (by omega), bec_o _ _ (by omega)]
  | n + 1, hn => by
    obtain ⟨i1, i2, i3, i4⟩ := jd_inv hb hcl n (by omega)
    obtain ⟨t1, t2, t3⟩ := tell_inv (cc := 65) (by omega) i1 (by rw [i2]; omega)
    refine ⟨?_, ?_, t3 i3, fun a c z1 z2 z3 => ?_⟩
    · show PI (tellX 65 (jdX h n)) 12 _
      rw [show (8 : Int) + 8 * ((n + 1 : Nat) : Int) = 8 + 8 * n + 8 by omega]; exact t1
    · show tellX 65 (jdX h n) 12 13 = _
      rw [t2, i2]; omega
    · show tellX 65 (jdX h n) a c = _
      rw [tell_f (by omega) _ _ ⟨z1, z2, z3⟩]; exact i4 a c z1 z2 z3
set_option maxHeartbeats 800000 in
theorem s_prove {g : AH} {nn kk : Int} (hb : BB h g) (hcl : CL h) (hn : 1 ≤ nn ∧ nn ≤ 20) (hk : kk = min nn (120 - h 1 13)) (hd : 6 ≤ d) : CallR G l d 82 [vR 0, vI nn] h (fun r h' => r = some (vI kk) ∧ h' = pvX h kk kk.toNat) := by
  refine in82 [54] 40 fun _ hO => ?_
  have hM := BB_M hb
  have e13 := hb.2.1
  have sg := SG_start hb hcl
  have tg := SG_TG sg
  have c1 : 0 ≤ h 1 0 ∧ h 1 0 ≤ 8 := by rw [hb.1.1]; exact BB_P hb
  have c2 : 0 ≤ h 1 8 ∧ h 1 8 ≤ 4 := by rw [hb.1.2.1]; exact hb.2.2.2.2.2.1
  have r13 : readyX (becomeX h 12 1) 12 1 13 = h 1 13 := by rw [ready_o _ _ (by omega), bec_o _ _ (by omega)]
  have w1 : w32 (120 - h 1 13) = 120 - h 1 13 := w32_id (by omega) (by omega)
  have pv := pv_inv (kk := kk) hb hcl (by omega)
  have loop : ∀ n : Nat, n ≤ kk.toNat → Wp G l 82 d 54 [some (vR 0), some (vI nn), some (vI n)] [] (pvX h kk n) (fun r h' => r = some (vI kk) ∧ h' = pvX h kk kk.toNat) := by
    refine down _ ?_ ?_
    · obtain ⟨i1, i2, i3, i4⟩ := pv kk.toNat (by omega)
      refine Wp.go [54] 40 ok_82 ?_
      simp only [c82, rlA, KF_s, KF_0, elN_n, elN_c, ↓reduceIte, Bool.false_eq_true, Int.reduceToNat, lk_c, lk_n, sw_c, sw_n, List.getD_cons_zero, List.getD_cons_succ, fv_0, fv_1, fv_2, fv_r, pf_0, pf_2, Option.toList_some, Option.toList_none, List.cons_append, List.nil_append, stK_n, stK_i, stK_r, true_and, and_true, true_or, or_true, List.length_nil, List.length_cons, Nat.zero_add, Nat.reduceAdd, Nat.reduceLeDiff, bi_0, bi_1, bi_01, em_1, em_2, cmp64_0, cmp64_lt, cmp64_gt, hu_ap, ne_a1, ne_a2, Decidable.not_not, Int.reduceAdd, Int.reduceNeg, Int.toNat_natCast, Int.toNat_zero, Int.toNat_one, List.append_nil, reduceCtorEq, Nat.reduceEqDiff, Nat.reduceBEq, Bool.or_false, Bool.false_or, Bool.true_or, Bool.or_true, some_vI, Int.le_refl, Nat.le_refl, false_or, or_false, Int.reduceLE, Int.reduceLT, Int.reduceEq, Int.zero_le_ofNat, and_self, if_true, if_false, false_and, and_false, not_true_eq_false, not_false_eq_true, false_implies, forall_const, shA, i3]
      repeat' first | with_reducible intro _ | simp only [c82, rlA, KF_s, KF_0, elN_n, elN_c, ↓reduceIte, Bool.false_eq_true, Int.reduceToNat, lk_c, lk_n, sw_c, sw_n, List.getD_cons_zero, List.getD_cons_succ, fv_0, fv_1, fv_2, fv_r, pf_0, pf_2, Option.toList_some, Option.toList_none, List.cons_append, List.nil_append, stK_n, stK_i, stK_r, true_and, and_true, true_or, or_true, List.length_nil, List.length_cons, Nat.zero_add, Nat.reduceAdd, Nat.reduceLeDiff, bi_0, bi_1, bi_01, em_1, em_2, cmp64_0, cmp64_lt, cmp64_gt, hu_ap, ne_a1, ne_a2, Decidable.not_not, Int.reduceAdd, Int.reduceNeg, Int.toNat_natCast, Int.toNat_zero, Int.toNat_one, List.append_nil, reduceCtorEq, Nat.reduceEqDiff, Nat.reduceBEq, Bool.or_false, Bool.false_or, Bool.true_or, Bool.or_true, some_vI, Int.le_refl, Nat.le_refl, false_or, or_false, Int.reduceLE, Int.reduceLT, Int.reduceEq, Int.zero_le_ofNat, and_self, if_true, if_false, false_and, and_false, not_true_eq_false, not_false_eq_true, false_implies, forall_const, shA, i3] | with_reducible apply And.intro
      all_goals first | exact True.intro | omega
    · intro n hnn ih
      obtain ⟨i1, i2, i3, i4⟩ := pv n (by omega)
      have ew := w_s n (by omega)
      have hsh := shW (show n < 20 by omega)
      refine Wp.go [54] 40 ok_82 ?_
      simp only [c82, rlA, KF_s, KF_0, elN_n, elN_c, ↓reduceIte, Bool.false_eq_true, Int.reduceToNat, lk_c, lk_n, sw_c, sw_n, List.getD_cons_zero, List.getD_cons_succ, fv_0, fv_1, fv_2, fv_r, pf_0, pf_2, Option.toList_some, Option.toList_none, List.cons_append, List.nil_append, stK_n, stK_i, stK_r, true_and, and_true, true_or, or_true, List.length_nil, List.length_cons, Nat.zero_add, Nat.reduceAdd, Nat.reduceLeDiff, bi_0, bi_1, bi_01, em_1, em_2, cmp64_0, cmp64_lt, cmp64_gt, hu_ap, ne_a1, ne_a2, Decidable.not_not, Int.reduceAdd, Int.reduceNeg, Int.toNat_natCast, Int.toNat_zero, Int.toNat_one, List.append_nil, reduceCtorEq, Nat.reduceEqDiff, Nat.reduceBEq, Bool.or_false, Bool.false_or, Bool.true_or, Bool.or_true, some_vI, Int.le_refl, Nat.le_refl, false_or, or_false, Int.reduceLE, Int.reduceLT, Int.reduceEq, Int.zero_le_ofNat, and_self, if_true, if_false, false_and, and_false, not_true_eq_false, not_false_eq_true, false_implies, forall_const, shA, i3, ew, Nat.one_mul]
      repeat' first | with_reducible intro _ | (refine call_of (d' := d - 1) (by omega) (s_tell hsh (by omega) i1 (by omega) (by omega)) ?_) | simp only [c82, rlA, KF_s, KF_0, elN_n, elN_c, ↓reduceIte, Bool.false_eq_true, Int.reduceToNat, lk_c, lk_n, sw_c, sw_n, List.getD_cons_zero, List.getD_cons_succ, fv_0, fv_1, fv_2, fv_r, pf_0, pf_2, Option.toList_some, Option.toList_none, List.cons_append, List.nil_append, stK_n, stK_i, stK_r, true_and, and_true, true_or, or_true, List.length_nil, List.length_cons, Nat.zero_add, Nat.reduceAdd, Nat.reduceLeDiff, bi_0, bi_1, bi_01, em_1, em_2, cmp64_0, cmp64_lt, cmp64_gt, hu_ap, ne_a1, ne_a2, Decidable.not_not, Int.reduceAdd, Int.reduceNeg, Int.toNat_natCast, Int.toNat_zero, Int.toNat_one, List.append_nil, reduceCtorEq, Nat.reduceEqDiff, Nat.reduceBEq, Bool.or_false, Bool.false_or, Bool.true_or, Bool.or_true, some_vI, Int.le_refl, Nat.le_refl, false_or, or_false, Int.reduceLE, Int.reduceLT, Int.reduceEq, Int.zero_le_ofNat, and_self, if_true, if_false, false_and, and_false, not_true_eq_false, not_false_eq_true, false_implies, forall_const, shA, i3, ew, Nat.one_mul] | with_reducible apply And.intro
      all_goals first | exact True.intro | omega | exact ih
  have ek : min nn (120 - h 1 13) = kk := hk.symm
  simp only [c82, rlA, KF_s, KF_0, elN_n, elN_c, ↓reduceIte, Bool.false_eq_true, Int.reduceToNat, lk_c, lk_n, sw_c, sw_n, List.getD_cons_zero, List.getD_cons_succ, fv_0, fv_1, fv_2, fv_r, pf_0, pf_2, Option.toList_some, Option.toList_none, List.cons_append, List.nil_append, stK_n, stK_i, stK_r, true_and, and_true, true_or, or_true, List.length_nil, List.length_cons, Nat.zero_add, Nat.reduceAdd, Nat.reduceLeDiff, bi_0, bi_1, bi_01, em_1, em_2, cmp64_0, cmp64_lt, cmp64_gt, hu_ap, ne_a1, ne_a2, Decidable.not_not, Int.reduceAdd, Int.reduceNeg, Int.toNat_natCast, Int.toNat_zero, Int.toNat_one, List.append_nil, reduceCtorEq, Nat.reduceEqDiff, Nat.reduceBEq, Bool.or_false, Bool.false_or, Bool.true_or, Bool.or_true, some_vI, Int.le_refl, Nat.le_refl, false_or, or_false, Int.reduceLE, Int.reduceLT, Int.reduceEq, Int.zero_le_ofNat, and_self, if_true, if_false, false_and, and_false, not_true_eq_false, not_false_eq_true, false_implies, forall_const, shA, r13, w1, ek]
  repeat' first | with_reducible intro _ | (refine call_of (d' := d - 1) (by omega) (s_within) ?_) | (refine call_of (d' := d - 1) (by omega) (s_become isT12 isT1 (by omega) c1 c2) ?_) | (refine call_of (d' := d - 1) (by omega) (s_ready isT12 tg.1 (by omega)) ?_) | simp only [c82, rlA, KF_s, KF_0, elN_n, elN_c, ↓reduceIte, Bool.false_eq_true, Int.reduceToNat, lk_c, lk_n, sw_c, sw_n, List.getD_cons_zero, List.getD_cons_succ, fv_0, fv_1, fv_2, fv_r, pf_0, pf_2, Option.toList_some, Option.toList_none, List.cons_append, List.nil_append, stK_n, stK_i, stK_r, true_and, and_true, true_or, or_true, List.length_nil, List.length_cons, Nat.zero_add, Nat.reduceAdd, Nat.reduceLeDiff, bi_0, bi_1, bi_01, em_1, em_2, cmp64_0, cmp64_lt, cmp64_gt, hu_ap, ne_a1, ne_a2, Decidable.not_not, Int.reduceAdd, Int.reduceNeg, Int.toNat_natCast, Int.toNat_zero, Int.toNat_one, List.append_nil, reduceCtorEq, Nat.reduceEqDiff, Nat.reduceBEq, Bool.or_false, Bool.false_or, Bool.true_or, Bool.or_true, some_vI, Int.le_refl, Nat.le_refl, false_or, or_false, Int.reduceLE, Int.reduceLT, Int.reduceEq, Int.zero_le_ofNat, and_self, if_true, if_false, false_and, and_false, not_true_eq_false, not_false_eq_true, false_implies, forall_const, shA, r13, w1, ek] | with_reducible apply And.intro
  all_goals first | exact True.intro | omega | exact loop 0 (Nat.zero_le _)
/-- the answer of judge: the first row that isn't right, from cnt - k on -/
def jS (ok : Nat → Bool) (cnt : Nat) : Nat → Int
  | 0 => 0
  | k + 1 => if ok (cnt - (k + 1)) = true then jS ok cnt k else ((cnt - (k + 1) : Nat) : Int) + 1
def jOk (h : AH) (j : Nat) : Bool := decide (h 1 13 + j < 120 ∧ h (45 + j) 0 = jdX h (j + 1) 65 0 ∧ h (45 + j) 1 = jdX h (j + 1) 65 1 ∧ h (45 + j) 2 = jdX h (j + 1) 65 2)
set_option maxHeartbeats 800000 in
theorem s_judge {g : AH} (hb : BB h g) (hcl : CL h) (hR : 0 ≤ h 0 8 ∧ h 0 8 ≤ 20) (hd : 6 ≤ d) : CallR G l d 85 [vR 0] h (fun r h' => r = some (vI (jS (jOk h) (h 0 8).toNat (h 0 8).toNat)) ∧ AgC h h') := by
  refine in85 [24] 40 fun hO => ?_
  have hM := BB_M hb
  have e13 := hb.2.1
  have sg := SG_start hb hcl
  have tg := SG_TG sg
  have c1 : 0 ≤ h 1 0 ∧ h 1 0 ≤ 8 := by rw [hb.1.1]; exact BB_P hb
  have c2 : 0 ≤ h 1 8 ∧ h 1 8 ≤ 4 := by rw [hb.1.2.1]; exact hb.2.2.2.2.2.1
  have jd := jd_inv hb hcl
  have loop : ∀ k : Nat, ∀ j : Nat, j + k = (h 0 8).toNat → h 1 13 + j ≤ 120 → jS (jOk h) (h 0 8).toNat (h 0 8).toNat = jS (jOk h) (h 0 8).toNat k → Wp G l 85 d 24 [some (vR 0), some (vI j)] [] (jdX h j) (fun r h' => r = some (vI (jS (jOk h) (h 0 8).toNat (h 0 8).toNat)) ∧ AgC h h') := by
    intro k
    induction k with
    | zero =>
      intro j hj h1 e
      obtain ⟨i1, i2, i3, i4⟩ := jd j h1
      have f8 : jdX h j 0 8 = h 0 8 := i4 _ _ (by omega) (by omega) (by omega)
      have ag : AgC h (jdX h j) := ⟨i4, i3⟩
      refine Wp.go [24] 40 ok_85 ?_
      simp only [c85, rlA, KF_s, KF_0, elN_n, elN_c, ↓reduceIte, Bool.false_eq_true, Int.reduceToNat, lk_c, lk_n, sw_c, sw_n, List.getD_cons_zero, List.getD_cons_succ, fv_0, fv_1, fv_2, fv_r, pf_0, pf_2, Option.toList_some, Option.toList_none, List.cons_append, List.nil_append, stK_n, stK_i, stK_r, true_and, and_true, true_or, or_true, List.length_nil, List.length_cons, Nat.zero_add, Nat.reduceAdd, Nat.reduceLeDiff, bi_0, bi_1, bi_01, em_1, em_2, cmp64_0, cmp64_lt, cmp64_gt, hu_ap, ne_a1, ne_a2, Decidable.not_not, Int.reduceAdd, Int.reduceNeg, Int.toNat_natCast, Int.toNat_zero, Int.toNat_one, List.append_nil, reduceCtorEq, Nat.reduceEqDiff, Nat.reduceBEq, Bool.or_false, Bool.false_or, Bool.true_or, Bool.or_true, some_vI, Int.le_refl, Nat.le_refl, false_or, or_false, Int.reduceLE, Int.reduceLT, Int.reduceEq, Int.zero_le_ofNat, and_self, if_true, if_false, false_and, and_false, not_true_eq_false, not_false_eq_true, false_implies, forall_const, shA, f8]
      repeat' first | with_reducible intro _ | simp only [c85, rlA, KF_s, KF_0, elN_n, elN_c, ↓reduceIte, Bool.false_eq_true, Int.reduceToNat, lk_c, lk_n, sw_c, sw_n, List.getD_cons_zero, List.getD_cons_succ, fv_0, fv_1, fv_2, fv_r, pf_0, pf_2, Option.toList_some, Option.toList_none, List.cons_append, List.nil_append, stK_n, stK_i, stK_r, true_and, and_true, true_or, or_true, List.length_nil, List.length_cons, Nat.zero_add, Nat.reduceAdd, Nat.reduceLeDiff, bi_0, bi_1, bi_01, em_1, em_2, cmp64_0, cmp64_lt, cmp64_gt, hu_ap, ne_a1, ne_a2, Decidable.not_not, Int.reduceAdd, Int.reduceNeg, Int.toNat_natCast, Int.toNat_zero, Int.toNat_one, List.append_nil, reduceCtorEq, Nat.reduceEqDiff, Nat.reduceBEq, Bool.or_false, Bool.false_or, Bool.true_or, Bool.or_true, some_vI, Int.le_refl, Nat.le_refl, false_or, or_false, Int.reduceLE, Int.reduceLT, Int.reduceEq, Int.zero_le_ofNat, and_self, if_true, if_false, false_and, and_false, not_true_eq_false, not_false_eq_true, false_implies, forall_const, shA, f8] | with_reducible apply And.intro
      all_goals first | exact True.intro | omega | exact ag | exact e.symm
    | succ k ih =>
      intro j hj h1 e
      obtain ⟨i1, i2, i3, i4⟩ := jd j h1
      have f8 : jdX h j 0 8 = h 0 8 := i4 _ _ (by omega) (by omega) (by omega)
      have ag : AgC h (jdX h j) := ⟨i4, i3⟩
      have ew := w_s j (by omega)
      have hsh := shW (show j < 20 by omega)
      have ej : (h 0 8).toNat - (k + 1) = j := by omega
      have eS : jS (jOk h) (h 0 8).toNat (k + 1) = if jOk h j = true then jS (jOk h) (h 0 8).toNat k else ((j : Nat) : Int) + 1 := by
        show (if jOk h ((h 0 8).toNat - (k + 1)) = true then jS (jOk h) (h 0 8).toNat k else (((h 0 8).toNat - (k + 1) : Nat) : Int) + 1) = _
        rw [ej]
      by_cases c : h 1 13 + (j : Int) < 120
      · obtain ⟨n1, n2, n3, n4⟩ := jd (j + 1) (by omega)
        have ag2 : AgC h (jdX h (j + 1)) := ⟨n4, n3⟩
        have rw0 : ∀ m, jdX h (j + 1) (45 + j) m = h (45 + j) m := fun m => n4 _ _ (by omega) (by omega) (by omega)
        have et : tellX 65 (jdX h j) = jdX h (j + 1) := rfl
        have yes : (h (45 + j) 0 = jdX h (j + 1) 65 0 ∧ h (45 + j) 1 = jdX h (j + 1) 65 1 ∧ h (45 + j) 2 = jdX h (j + 1) 65 2) → Wp G l 85 d 24 [some (vR 0), some (vI ((j + 1 : Nat) : Int))] [] (jdX h (j + 1)) (fun r h' => r = some (vI (jS (jOk h) (h 0 8).toNat (h 0 8).toNat)) ∧ AgC h h') := fun w => ih (j + 1) (by omega) (by omega) (by rw [e, eS, if_pos (by unfold jOk; exact decide_eq_true ⟨c, w⟩)])
        have no : ¬ (h (45 + j) 0 = jdX h (j + 1) 65 0 ∧ h (45 + j) 1 = jdX h (j + 1) 65 1 ∧ h (45 + j) 2 = jdX h (j + 1) 65 2) → ((j + 1 : Nat) : Int) = jS (jOk h) (h 0 8).toNat (h 0 8).toNat := fun w => by
          rw [e, eS, if_neg (by unfold jOk; rw [decide_eq_true_eq]; exact fun z => w z.2)]; omega
        refine Wp.go [24] 40 ok_85 ?_
        simp only [c85, rlA, KF_s, KF_0, elN_n, elN_c, ↓reduceIte, Bool.false_eq_true, Int.reduceToNat, lk_c, lk_n, sw_c, sw_n, List.getD_cons_zero, List.getD_cons_succ, fv_0, fv_1, fv_2, fv_r, pf_0, pf_2, Option.toList_some, Option.toList_none, List.cons_append, List.nil_append, stK_n, stK_i, stK_r, true_and, and_true, true_or, or_true, List.length_nil, List.length_cons, Nat.zero_add, Nat.reduceAdd, Nat.reduceLeDiff, bi_0, bi_1, bi_01, em_1, em_2, cmp64_0, cmp64_lt, cmp64_gt, hu_ap, ne_a1, ne_a2, Decidable.not_not, Int.reduceAdd, Int.reduceNeg, Int.toNat_natCast, Int.toNat_zero, Int.toNat_one, List.append_nil, reduceCtorEq, Nat.reduceEqDiff, Nat.reduceBEq, Bool.or_false, Bool.false_or, Bool.true_or, Bool.or_true, some_vI, Int.le_refl, Nat.le_refl, false_or, or_false, Int.reduceLE, Int.reduceLT, Int.reduceEq, Int.zero_le_ofNat, and_self, if_true, if_false, false_and, and_false, not_true_eq_false, not_false_eq_true, false_implies, forall_const, shA, f8, ew, i2, c, et, rw0, Nat.one_mul]
        repeat' first | with_reducible intro _ | (refine call_of (d' := d - 1) (by omega) (s_tell (cc := 65) rfl (by omega) i1 (by omega) (by omega)) ?_) | (refine call_of (d' := d - 1) (by omega) (s_isRight hsh) ?_) | simp only [c85, rlA, KF_s, KF_0, elN_n, elN_c, ↓reduceIte, Bool.false_eq_true, Int.reduceToNat, lk_c, lk_n, sw_c, sw_n, List.getD_cons_zero, List.getD_cons_succ, fv_0, fv_1, fv_2, fv_r, pf_0, pf_2, Option.toList_some, Option.toList_none, List.cons_append, List.nil_append, stK_n, stK_i, stK_r, true_and, and_true, true_or, or_true, List.length_nil, List.length_cons, Nat.zero_add, Nat.reduceAdd, Nat.reduceLeDiff, bi_0, bi_1, bi_01, em_1, em_2, cmp64_0, cmp64_lt, cmp64_gt, hu_ap, ne_a1, ne_a2, Decidable.not_not, Int.reduceAdd, Int.reduceNeg, Int.toNat_natCast, Int.toNat_zero, Int.toNat_one, List.append_nil, reduceCtorEq, Nat.reduceEqDiff, Nat.reduceBEq, Bool.or_false, Bool.false_or, Bool.true_or, Bool.or_true, some_vI, Int.le_refl, Nat.le_refl, false_or, or_false, Int.reduceLE, Int.reduceLT, Int.reduceEq, Int.zero_le_ofNat, and_self, if_true, if_false, false_and, and_false, not_true_eq_false, not_false_eq_true, false_implies, forall_const, shA, f8, ew, i2, c, et, rw0, Nat.one_mul] | with_reducible apply And.intro
        all_goals first | exact True.intro | omega | exact ag2 | exact no (by assumption) | exact yes (by assumption)
      · have no : ((j + 1 : Nat) : Int) = jS (jOk h) (h 0 8).toNat (h 0 8).toNat := by
          rw [e, eS, if_neg (by unfold jOk; rw [decide_eq_true_eq]; exact fun z => c z.1)]; omega
        refine Wp.go [24] 40 ok_85 ?_
        simp only [c85, rlA, KF_s, KF_0, elN_n, elN_c, ↓reduceIte, Bool.false_eq_true, Int.reduceToNat, lk_c, lk_n, sw_c, sw_n, List.getD_cons_zero, List.getD_cons_succ, fv_0, fv_1, fv_2, fv_r, pf_0, pf_2, Option.toList_some, Option.toList_none, List.cons_append, List.nil_append, stK_n, stK_i, stK_r, true_and, and_true, true_or, or_true, List.length_nil, List.length_cons, Nat.zero_add, Nat.reduceAdd, Nat.reduceLeDiff, bi_0, bi_1, bi_01, em_1, em_2, cmp64_0, cmp64_lt, cmp64_gt, hu_ap, ne_a1, ne_a2, Decidable.not_not, Int.reduceAdd, Int.reduceNeg, Int.toNat_natCast, Int.toNat_zero, Int.toNat_one, List.append_nil, reduceCtorEq, Nat.reduceEqDiff, Nat.reduceBEq, Bool.or_false, Bool.false_or, Bool.true_or, Bool.or_true, some_vI, Int.le_refl, Nat.le_refl, false_or, or_false, Int.reduceLE, Int.reduceLT, Int.reduceEq, Int.zero_le_ofNat, and_self, if_true, if_false, false_and, and_false, not_true_eq_false, not_false_eq_true, false_implies, forall_const, shA, f8, ew, i2, c]
        repeat' first | with_reducible intro _ | simp only [c85, rlA, KF_s, KF_0, elN_n, elN_c, ↓reduceIte, Bool.false_eq_true, Int.reduceToNat, lk_c, lk_n, sw_c, sw_n, List.getD_cons_zero, List.getD_cons_succ, fv_0, fv_1, fv_2, fv_r, pf_0, pf_2, Option.toList_some, Option.toList_none, List.cons_append, List.nil_append, stK_n, stK_i, stK_r, true_and, and_true, true_or, or_true, List.length_nil, List.length_cons, Nat.zero_add, Nat.reduceAdd, Nat.reduceLeDiff, bi_0, bi_1, bi_01, em_1, em_2, cmp64_0, cmp64_lt, cmp64_gt, hu_ap, ne_a1, ne_a2, Decidable.not_not, Int.reduceAdd, Int.reduceNeg, Int.toNat_natCast, Int.toNat_zero, Int.toNat_one, List.append_nil, reduceCtorEq, Nat.reduceEqDiff, Nat.reduceBEq, Bool.or_false, Bool.false_or, Bool.true_or, Bool.or_true, some_vI, Int.le_refl, Nat.le_refl, false_or, or_false, Int.reduceLE, Int.reduceLT, Int.reduceEq, Int.zero_le_ofNat, and_self, if_true, if_false, false_and, and_false, not_true_eq_false, not_false_eq_true, false_implies, forall_const, shA, f8, ew, i2, c] | with_reducible apply And.intro
        all_goals first | exact True.intro | omega | exact ag | exact no
  simp only [c85, rlA, KF_s, KF_0, elN_n, elN_c, ↓reduceIte, Bool.false_eq_true, Int.reduceToNat, lk_c, lk_n, sw_c, sw_n, List.getD_cons_zero, List.getD_cons_succ, fv_0, fv_1, fv_2, fv_r, pf_0, pf_2, Option.toList_some, Option.toList_none, List.cons_append, List.nil_append, stK_n, stK_i, stK_r, true_and, and_true, true_or, or_true, List.length_nil, List.length_cons, Nat.zero_add, Nat.reduceAdd, Nat.reduceLeDiff, bi_0, bi_1, bi_01, em_1, em_2, cmp64_0, cmp64_lt, cmp64_gt, hu_ap, ne_a1, ne_a2, Decidable.not_not, Int.reduceAdd, Int.reduceNeg, Int.toNat_natCast, Int.toNat_zero, Int.toNat_one, List.append_nil, reduceCtorEq, Nat.reduceEqDiff, Nat.reduceBEq, Bool.or_false, Bool.false_or, Bool.true_or, Bool.or_true, some_vI, Int.le_refl, Nat.le_refl, false_or, or_false, Int.reduceLE, Int.reduceLT, Int.reduceEq, Int.zero_le_ofNat, and_self, if_true, if_false, false_and, and_false, not_true_eq_false, not_false_eq_true, false_implies, forall_const, shA]
  repeat' first | with_reducible intro _ | (refine call_of (d' := d - 1) (by omega) (s_become isT12 isT1 (by omega) c1 c2) ?_) | (refine call_of (d' := d - 1) (by omega) (s_ready isT12 tg.1 (by omega)) ?_) | simp only [c85, rlA, KF_s, KF_0, elN_n, elN_c, ↓reduceIte, Bool.false_eq_true, Int.reduceToNat, lk_c, lk_n, sw_c, sw_n, List.getD_cons_zero, List.getD_cons_succ, fv_0, fv_1, fv_2, fv_r, pf_0, pf_2, Option.toList_some, Option.toList_none, List.cons_append, List.nil_append, stK_n, stK_i, stK_r, true_and, and_true, true_or, or_true, List.length_nil, List.length_cons, Nat.zero_add, Nat.reduceAdd, Nat.reduceLeDiff, bi_0, bi_1, bi_01, em_1, em_2, cmp64_0, cmp64_lt, cmp64_gt, hu_ap, ne_a1, ne_a2, Decidable.not_not, Int.reduceAdd, Int.reduceNeg, Int.toNat_natCast, Int.toNat_zero, Int.toNat_one, List.append_nil, reduceCtorEq, Nat.reduceEqDiff, Nat.reduceBEq, Bool.or_false, Bool.false_or, Bool.true_or, Bool.or_true, some_vI, Int.le_refl, Nat.le_refl, false_or, or_false, Int.reduceLE, Int.reduceLT, Int.reduceEq, Int.zero_le_ofNat, and_self, if_true, if_false, false_and, and_false, not_true_eq_false, not_false_eq_true, false_implies, forall_const, shA] | with_reducible apply And.intro
  all_goals first | exact True.intro | omega | exact loop (h 0 8).toNat 0 (by omega) (by omega) rfl
end L2AH
