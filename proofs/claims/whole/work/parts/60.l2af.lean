section L2AF
variable {G : GD} {l : Launch} {d : Nat} {h : AH}
def minX : Nat → AH → AH
  | 0, x => x
  | k + 1, x => if x 1 13 < 120 then minX k (passX x 1) else x
set_option maxHeartbeats 800000 in
theorem s_minutesO {n : Int} (hn : ¬ (0 ≤ n ∧ n ≤ 60)) (hd : 2 ≤ d) : CallR G l d 66 [vR 0, vI n] h (fun r h' => r = some (vI (-1)) ∧ h' = h) := by
  refine in66 [25] 40 fun _ hO => ?_
  simp only [c66, rlA, KF_s, KF_0, elN_n, elN_c, ↓reduceIte, Bool.false_eq_true, Int.reduceToNat, lk_c, lk_n, sw_c, sw_n, List.getD_cons_zero, List.getD_cons_succ, fv_0, fv_1, fv_2, fv_r, pf_0, pf_2, Option.toList_some, Option.toList_none, List.cons_append, List.nil_append, stK_n, stK_i, stK_r, true_and, and_true, true_or, or_true, List.length_nil, List.length_cons, Nat.zero_add, Nat.reduceAdd, Nat.reduceLeDiff, bi_0, bi_1, bi_01, em_1, em_2, cmp64_0, cmp64_lt, cmp64_gt, hu_ap, ne_a1, ne_a2, Decidable.not_not, Int.reduceAdd, Int.reduceNeg, Int.toNat_natCast, Int.toNat_zero, Int.toNat_one, List.append_nil, reduceCtorEq, Nat.reduceEqDiff, Nat.reduceBEq, Bool.or_false, Bool.false_or, Bool.true_or, Bool.or_true, some_vI, Int.le_refl, Nat.le_refl, false_or, or_false, Int.reduceLE, Int.reduceLT, Int.reduceEq, Int.zero_le_ofNat, and_self, if_true, if_false, false_and, and_false, not_true_eq_false, not_false_eq_true, false_implies, forall_const, shA]
  repeat' first | with_reducible intro _ | (refine call_of (d' := d - 1) (by omega) (s_within) ?_) | simp only [c66, rlA, KF_s, KF_0, elN_n, elN_c, ↓reduceIte, Bool.false_eq_true, Int.reduceToNat, lk_c, lk_n, sw_c, sw_n, List.getD_cons_zero, List.getD_cons_succ, fv_0, fv_1, fv_2, fv_r, pf_0, pf_2, Option.toList_some, Option.toList_none, List.cons_append, List.nil_append, stK_n, stK_i, stK_r, true_and, and_true, true_or, or_true, List.length_nil, List.length_cons, Nat.zero_add, Nat.reduceAdd, Nat.reduceLeDiff, bi_0, bi_1, bi_01, em_1, em_2, cmp64_0, cmp64_lt, cmp64_gt, hu_ap, ne_a1, ne_a2, Decidable.not_not, Int.reduceAdd, Int.reduceNeg, Int.toNat_natCast, Int.toNat_zero, Int.toNat_one, List.append_nil, reduceCtorEq, Nat.reduceEqDiff, Nat.reduceBEq, Bool.or_false, Bool.false_or, Bool.true_or, Bool.or_true, some_vI, Int.le_refl, Nat.le_refl, false_or, or_false, Int.reduceLE, Int.reduceLT, Int.reduceEq, Int.zero_le_ofNat, and_self, if_true, if_false, false_and, and_false, not_true_eq_false, not_false_eq_true, false_implies, forall_const, shA] | with_reducible apply And.intro
  all_goals first | exact True.intro | omega | with_reducible rfl | rfl | ((repeat' split) <;> first | rfl | trivial | omega | (exfalso; omega)) | (simp only [bi]; (repeat' split) <;> omega)
set_option maxHeartbeats 800000 in
theorem s_minLoop {nn : Nat} {Q : Option AV → AH → Prop} (hn : nn ≤ 60) (hd : 4 ≤ d) : ∀ (k : Nat) (x : AH) (ww : Int), k ≤ nn → ww + 8 * k ≤ 90000 → PI x 1 ww → Q (some (vI (minX k x 1 13))) (minX k x) → Wp G l 66 d 25 [some (vR 0), some (vI nn), some (vI ((nn - k : Nat) : Int))] [] x Q := by
  intro k
  induction k with
  | zero =>
    intro x ww hk hw hi hQ
    unfold minX at hQ
    refine Wp.go [25] 40 ok_66 ?_
    simp only [c66, rlA, KF_s, KF_0, elN_n, elN_c, ↓reduceIte, Bool.false_eq_true, Int.reduceToNat, lk_c, lk_n, sw_c, sw_n, List.getD_cons_zero, List.getD_cons_succ, fv_0, fv_1, fv_2, fv_r, pf_0, pf_2, Option.toList_some, Option.toList_none, List.cons_append, List.nil_append, stK_n, stK_i, stK_r, true_and, and_true, true_or, or_true, List.length_nil, List.length_cons, Nat.zero_add, Nat.reduceAdd, Nat.reduceLeDiff, bi_0, bi_1, bi_01, em_1, em_2, cmp64_0, cmp64_lt, cmp64_gt, hu_ap, ne_a1, ne_a2, Decidable.not_not, Int.reduceAdd, Int.reduceNeg, Int.toNat_natCast, Int.toNat_zero, Int.toNat_one, List.append_nil, reduceCtorEq, Nat.reduceEqDiff, Nat.reduceBEq, Bool.or_false, Bool.false_or, Bool.true_or, Bool.or_true, some_vI, Int.le_refl, Nat.le_refl, false_or, or_false, Int.reduceLE, Int.reduceLT, Int.reduceEq, Int.zero_le_ofNat, and_self, if_true, if_false, false_and, and_false, not_true_eq_false, not_false_eq_true, false_implies, forall_const, shA]
    repeat' first | with_reducible intro _ | simp only [c66, rlA, KF_s, KF_0, elN_n, elN_c, ↓reduceIte, Bool.false_eq_true, Int.reduceToNat, lk_c, lk_n, sw_c, sw_n, List.getD_cons_zero, List.getD_cons_succ, fv_0, fv_1, fv_2, fv_r, pf_0, pf_2, Option.toList_some, Option.toList_none, List.cons_append, List.nil_append, stK_n, stK_i, stK_r, true_and, and_true, true_or, or_true, List.length_nil, List.length_cons, Nat.zero_add, Nat.reduceAdd, Nat.reduceLeDiff, bi_0, bi_1, bi_01, em_1, em_2, cmp64_0, cmp64_lt, cmp64_gt, hu_ap, ne_a1, ne_a2, Decidable.not_not, Int.reduceAdd, Int.reduceNeg, Int.toNat_natCast, Int.toNat_zero, Int.toNat_one, List.append_nil, reduceCtorEq, Nat.reduceEqDiff, Nat.reduceBEq, Bool.or_false, Bool.false_or, Bool.true_or, Bool.or_true, some_vI, Int.le_refl, Nat.le_refl, false_or, or_false, Int.reduceLE, Int.reduceLT, Int.reduceEq, Int.zero_le_ofNat, and_self, if_true, if_false, false_and, and_false, not_true_eq_false, not_false_eq_true, false_implies, forall_const, shA] | with_reducible apply And.intro
    all_goals first | exact True.intro | omega | exact hQ
  | succ k ih =>
    intro x ww hk hw hi hQ
    have ek : w32 (((nn - (k + 1) : Nat) : Int) + 1) = ((nn - k : Nat) : Int) := by rw [w32_id (by omega) (by omega)]; omega
    unfold minX at hQ
    by_cases c : x 1 13 < 120
    · rw [if_pos c] at hQ
      have nx := ih (passX x 1) (ww + 8) (by omega) (by omega) (PI_passX isT1 hi c) hQ
      refine Wp.go [25] 40 ok_66 ?_
      simp only [c66, rlA, KF_s, KF_0, elN_n, elN_c, ↓reduceIte, Bool.false_eq_true, Int.reduceToNat, lk_c, lk_n, sw_c, sw_n, List.getD_cons_zero, List.getD_cons_succ, fv_0, fv_1, fv_2, fv_r, pf_0, pf_2, Option.toList_some, Option.toList_none, List.cons_append, List.nil_append, stK_n, stK_i, stK_r, true_and, and_true, true_or, or_true, List.length_nil, List.length_cons, Nat.zero_add, Nat.reduceAdd, Nat.reduceLeDiff, bi_0, bi_1, bi_01, em_1, em_2, cmp64_0, cmp64_lt, cmp64_gt, hu_ap, ne_a1, ne_a2, Decidable.not_not, Int.reduceAdd, Int.reduceNeg, Int.toNat_natCast, Int.toNat_zero, Int.toNat_one, List.append_nil, reduceCtorEq, Nat.reduceEqDiff, Nat.reduceBEq, Bool.or_false, Bool.false_or, Bool.true_or, Bool.or_true, some_vI, Int.le_refl, Nat.le_refl, false_or, or_false, Int.reduceLE, Int.reduceLT, Int.reduceEq, Int.zero_le_ofNat, and_self, if_true, if_false, false_and, and_false, not_true_eq_false, not_false_eq_true, false_implies, forall_const, shA, ek, c]
      repeat' first | with_reducible intro _ | (refine call_of (d' := d - 1) (by omega) (s_pass isT1 hi (by omega) (by omega)) ?_) | simp only [c66, rlA, KF_s, KF_0, elN_n, elN_c, ↓reduceIte, Bool.false_eq_true, Int.reduceToNat, lk_c, lk_n, sw_c, sw_n, List.getD_cons_zero, List.getD_cons_succ, fv_0, fv_1, fv_2, fv_r, pf_0, pf_2, Option.toList_some, Option.toList_none, List.cons_append, List.nil_append, stK_n, stK_i, stK_r, true_and, and_true, true_or, or_true, List.length_nil, List.length_cons, Nat.zero_add, Nat.reduceAdd, Nat.reduceLeDiff, bi_0, bi_1, bi_01, em_1, em_2, cmp64_0, cmp64_lt, cmp64_gt, hu_ap, ne_a1, ne_a2, Decidable.not_not, Int.reduceAdd, Int.reduceNeg, Int.toNat_natCast, Int.toNat_zero, Int.toNat_one, List.append_nil, reduceCtorEq, Nat.reduceEqDiff, Nat.reduceBEq, Bool.or_false, Bool.false_or, Bool.true_or, Bool.or_true, some_vI, Int.le_refl, Nat.le_refl, false_or, or_false, Int.reduceLE, Int.reduceLT, Int.reduceEq, Int.zero_le_ofNat, and_self, if_true, if_false, false_and, and_false, not_true_eq_false, not_false_eq_true, false_implies, forall_const, shA, ek, c] | with_reducible apply And.intro
      all_goals first | exact True.intro | omega | exact nx
    · rw [if_neg c] at hQ
      refine Wp.go [25] 40 ok_66 ?_
      simp only [c66, rlA, KF_s, KF_0, elN_n, elN_c, ↓reduceIte, Bool.false_eq_true, Int.reduceToNat, lk_c, lk_n, sw_c, sw_n, List.getD_cons_zero, List.getD_cons_succ, fv_0, fv_1, fv_2, fv_r, pf_0, pf_2, Option.toList_some, Option.toList_none, List.cons_append, List.nil_append, stK_n, stK_i, stK_r, true_and, and_true, true_or, or_true, List.length_nil, List.length_cons, Nat.zero_add, Nat.reduceAdd, Nat.reduceLeDiff, bi_0, bi_1, bi_01, em_1, em_2, cmp64_0, cmp64_lt, cmp64_gt, hu_ap, ne_a1, ne_a2, Decidable.not_not, Int.reduceAdd, Int.reduceNeg, Int.toNat_natCast, Int.toNat_zero, Int.toNat_one, List.append_nil, reduceCtorEq, Nat.reduceEqDiff, Nat.reduceBEq, Bool.or_false, Bool.false_or, Bool.true_or, Bool.or_true, some_vI, Int.le_refl, Nat.le_refl, false_or, or_false, Int.reduceLE, Int.reduceLT, Int.reduceEq, Int.zero_le_ofNat, and_self, if_true, if_false, false_and, and_false, not_true_eq_false, not_false_eq_true, false_implies, forall_const, shA, c]
      repeat' first | with_reducible intro _ | simp only [c66, rlA, KF_s, KF_0, elN_n, elN_c, ↓reduceIte, Bool.false_eq_true, Int.reduceToNat, lk_c, lk_n, sw_c, sw_n, List.getD_cons_zero, List.getD_cons_succ, fv_0, fv_1, fv_2, fv_r, pf_0, pf_2, Option.toList_some, Option.toList_none, List.cons_append, List.nil_append, stK_n, stK_i, stK_r, true_and, and_true, true_or, or_true, List.length_nil, List.length_cons, Nat.zero_add, Nat.reduceAdd, Nat.reduceLeDiff, bi_0, bi_1, bi_01, em_1, em_2, cmp64_0, cmp64_lt, cmp64_gt, hu_ap, ne_a1, ne_a2, Decidable.not_not, Int.reduceAdd, Int.reduceNeg, Int.toNat_natCast, Int.toNat_zero, Int.toNat_one, List.append_nil, reduceCtorEq, Nat.reduceEqDiff, Nat.reduceBEq, Bool.or_false, Bool.false_or, Bool.true_or, Bool.or_true, some_vI, Int.le_refl, Nat.le_refl, false_or, or_false, Int.reduceLE, Int.reduceLT, Int.reduceEq, Int.zero_le_ofNat, and_self, if_true, if_false, false_and, and_false, not_true_eq_false, not_false_eq_true, false_implies, forall_const, shA, c] | with_reducible apply And.intro
      all_goals first | exact True.intro | omega | exact hQ
set_option maxHeartbeats 800000 in
theorem s_minutesY {nn : Nat} (hn : nn ≤ 60) (tg : TG h 1) (hd : 5 ≤ d) : CallR G l d 66 [vR 0, vI nn] h (fun r h' => r = some (vI (minX nn (readyX h 1) 1 13)) ∧ h' = minX nn (readyX h 1)) := by
  refine in66 [25] 40 fun _ hO => ?_
  have lp := s_minLoop (G := G) (l := l) (d := d) (Q := fun r h' => r = some (vI (minX nn (readyX h 1) 1 13)) ∧ h' = minX nn (readyX h 1)) hn (by omega) nn (readyX h 1) 8 (Nat.le_refl _) (by omega) (PI_ready isT1 tg) ⟨rfl, rfl⟩
  simp only [c66, rlA, KF_s, KF_0, elN_n, elN_c, ↓reduceIte, Bool.false_eq_true, Int.reduceToNat, lk_c, lk_n, sw_c, sw_n, List.getD_cons_zero, List.getD_cons_succ, fv_0, fv_1, fv_2, fv_r, pf_0, pf_2, Option.toList_some, Option.toList_none, List.cons_append, List.nil_append, stK_n, stK_i, stK_r, true_and, and_true, true_or, or_true, List.length_nil, List.length_cons, Nat.zero_add, Nat.reduceAdd, Nat.reduceLeDiff, bi_0, bi_1, bi_01, em_1, em_2, cmp64_0, cmp64_lt, cmp64_gt, hu_ap, ne_a1, ne_a2, Decidable.not_not, Int.reduceAdd, Int.reduceNeg, Int.toNat_natCast, Int.toNat_zero, Int.toNat_one, List.append_nil, reduceCtorEq, Nat.reduceEqDiff, Nat.reduceBEq, Bool.or_false, Bool.false_or, Bool.true_or, Bool.or_true, some_vI, Int.le_refl, Nat.le_refl, false_or, or_false, Int.reduceLE, Int.reduceLT, Int.reduceEq, Int.zero_le_ofNat, and_self, if_true, if_false, false_and, and_false, not_true_eq_false, not_false_eq_true, false_implies, forall_const, shA]
  repeat' first | with_reducible intro _ | (refine call_of (d' := d - 1) (by omega) (s_within) ?_) | (refine call_of (d' := d - 1) (by omega) (s_ready isT1 tg.1 (by omega)) ?_) | simp only [c66, rlA, KF_s, KF_0, elN_n, elN_c, ↓reduceIte, Bool.false_eq_true, Int.reduceToNat, lk_c, lk_n, sw_c, sw_n, List.getD_cons_zero, List.getD_cons_succ, fv_0, fv_1, fv_2, fv_r, pf_0, pf_2, Option.toList_some, Option.toList_none, List.cons_append, List.nil_append, stK_n, stK_i, stK_r, true_and, and_true, true_or, or_true, List.length_nil, List.length_cons, Nat.zero_add, Nat.reduceAdd, Nat.reduceLeDiff, bi_0, bi_1, bi_01, em_1, em_2, cmp64_0, cmp64_lt, cmp64_gt, hu_ap, ne_a1, ne_a2, Decidable.not_not, Int.reduceAdd, Int.reduceNeg, Int.toNat_natCast, Int.toNat_zero, Int.toNat_one, List.append_nil, reduceCtorEq, Nat.reduceEqDiff, Nat.reduceBEq, Bool.or_false, Bool.false_or, Bool.true_or, Bool.or_true, some_vI, Int.le_refl, Nat.le_refl, false_or, or_false, Int.reduceLE, Int.reduceLT, Int.reduceEq, Int.zero_le_ofNat, and_self, if_true, if_false, false_and, and_false, not_true_eq_false, not_false_eq_true, false_implies, forall_const, shA] | with_reducible apply And.intro
  all_goals first | exact True.intro | omega | (refine Wp.cast lp ?_ rfl; simp only [List.cons.injEq, some_vI, true_and, and_true]; omega)
set_option maxHeartbeats 800000 in
theorem m_minutesO {n : Int} (hn : ¬ (0 ≤ n ∧ n ≤ 60)) (hd : 2 ≤ d) : CallR G l d 159 [vR 82, vI n] h (fun r h' => r = some (vI (-1)) ∧ h' = h) := by
  refine in159 [] 40 fun _ hO => ?_
  simp only [c159, rlA, KF_s, KF_0, elN_n, elN_c, ↓reduceIte, Bool.false_eq_true, Int.reduceToNat, lk_c, lk_n, sw_c, sw_n, List.getD_cons_zero, List.getD_cons_succ, fv_0, fv_1, fv_2, fv_r, pf_0, pf_2, Option.toList_some, Option.toList_none, List.cons_append, List.nil_append, stK_n, stK_i, stK_r, true_and, and_true, true_or, or_true, List.length_nil, List.length_cons, Nat.zero_add, Nat.reduceAdd, Nat.reduceLeDiff, bi_0, bi_1, bi_01, em_1, em_2, cmp64_0, cmp64_lt, cmp64_gt, hu_ap, ne_a1, ne_a2, Decidable.not_not, Int.reduceAdd, Int.reduceNeg, Int.toNat_natCast, Int.toNat_zero, Int.toNat_one, List.append_nil, reduceCtorEq, Nat.reduceEqDiff, Nat.reduceBEq, Bool.or_false, Bool.false_or, Bool.true_or, Bool.or_true, some_vI, Int.le_refl, Nat.le_refl, false_or, or_false, Int.reduceLE, Int.reduceLT, Int.reduceEq, Int.zero_le_ofNat, and_self, if_true, if_false, false_and, and_false, not_true_eq_false, not_false_eq_true, false_implies, forall_const, shA]
  repeat' first | with_reducible intro _ | (refine call_of (d' := d - 1) (by omega) (m_in) ?_) | simp only [c159, rlA, KF_s, KF_0, elN_n, elN_c, ↓reduceIte, Bool.false_eq_true, Int.reduceToNat, lk_c, lk_n, sw_c, sw_n, List.getD_cons_zero, List.getD_cons_succ, fv_0, fv_1, fv_2, fv_r, pf_0, pf_2, Option.toList_some, Option.toList_none, List.cons_append, List.nil_append, stK_n, stK_i, stK_r, true_and, and_true, true_or, or_true, List.length_nil, List.length_cons, Nat.zero_add, Nat.reduceAdd, Nat.reduceLeDiff, bi_0, bi_1, bi_01, em_1, em_2, cmp64_0, cmp64_lt, cmp64_gt, hu_ap, ne_a1, ne_a2, Decidable.not_not, Int.reduceAdd, Int.reduceNeg, Int.toNat_natCast, Int.toNat_zero, Int.toNat_one, List.append_nil, reduceCtorEq, Nat.reduceEqDiff, Nat.reduceBEq, Bool.or_false, Bool.false_or, Bool.true_or, Bool.or_true, some_vI, Int.le_refl, Nat.le_refl, false_or, or_false, Int.reduceLE, Int.reduceLT, Int.reduceEq, Int.zero_le_ofNat, and_self, if_true, if_false, false_and, and_false, not_true_eq_false, not_false_eq_true, false_implies, forall_const, shA] | with_reducible apply And.intro
  all_goals first | exact True.intro | omega | with_reducible rfl | rfl | ((repeat' split) <;> first | rfl | trivial | omega | (exfalso; omega)) | (simp only [bi]; (repeat' split) <;> omega)
set_option maxHeartbeats 800000 in
theorem m_minutesY {nn : Nat} {W : Int} (hn : nn ≤ 60) (mi : MI h 0 W) (hW : W ≤ 1700000000) (hd : 6 ≤ d) : CallR G l d 159 [vR 82, vI nn] h (fun r h' => r = some (vI (goMo 0 nn h 88 0)) ∧ h' = (goMo 0 nn h)) := by
  refine in159 [] 40 fun _ hO => ?_
  simp only [c159, rlA, KF_s, KF_0, elN_n, elN_c, ↓reduceIte, Bool.false_eq_true, Int.reduceToNat, lk_c, lk_n, sw_c, sw_n, List.getD_cons_zero, List.getD_cons_succ, fv_0, fv_1, fv_2, fv_r, pf_0, pf_2, Option.toList_some, Option.toList_none, List.cons_append, List.nil_append, stK_n, stK_i, stK_r, true_and, and_true, true_or, or_true, List.length_nil, List.length_cons, Nat.zero_add, Nat.reduceAdd, Nat.reduceLeDiff, bi_0, bi_1, bi_01, em_1, em_2, cmp64_0, cmp64_lt, cmp64_gt, hu_ap, ne_a1, ne_a2, Decidable.not_not, Int.reduceAdd, Int.reduceNeg, Int.toNat_natCast, Int.toNat_zero, Int.toNat_one, List.append_nil, reduceCtorEq, Nat.reduceEqDiff, Nat.reduceBEq, Bool.or_false, Bool.false_or, Bool.true_or, Bool.or_true, some_vI, Int.le_refl, Nat.le_refl, false_or, or_false, Int.reduceLE, Int.reduceLT, Int.reduceEq, Int.zero_le_ofNat, and_self, if_true, if_false, false_and, and_false, not_true_eq_false, not_false_eq_true, false_implies, forall_const, shA]
  repeat' first | with_reducible intro _ | (refine call_of (d' := d - 1) (by omega) (m_in) ?_) | (refine call_of (d' := d - 1) (by omega) (m_go (aa := 0) mi (by omega) (by omega) (by omega) (by omega)) ?_) | simp only [c159, rlA, KF_s, KF_0, elN_n, elN_c, ↓reduceIte, Bool.false_eq_true, Int.reduceToNat, lk_c, lk_n, sw_c, sw_n, List.getD_cons_zero, List.getD_cons_succ, fv_0, fv_1, fv_2, fv_r, pf_0, pf_2, Option.toList_some, Option.toList_none, List.cons_append, List.nil_append, stK_n, stK_i, stK_r, true_and, and_true, true_or, or_true, List.length_nil, List.length_cons, Nat.zero_add, Nat.reduceAdd, Nat.reduceLeDiff, bi_0, bi_1, bi_01, em_1, em_2, cmp64_0, cmp64_lt, cmp64_gt, hu_ap, ne_a1, ne_a2, Decidable.not_not, Int.reduceAdd, Int.reduceNeg, Int.toNat_natCast, Int.toNat_zero, Int.toNat_one, List.append_nil, reduceCtorEq, Nat.reduceEqDiff, Nat.reduceBEq, Bool.or_false, Bool.false_or, Bool.true_or, Bool.or_true, some_vI, Int.le_refl, Nat.le_refl, false_or, or_false, Int.reduceLE, Int.reduceLT, Int.reduceEq, Int.zero_le_ofNat, and_self, if_true, if_false, false_and, and_false, not_true_eq_false, not_false_eq_true, false_implies, forall_const, shA] | with_reducible apply And.intro
  all_goals first | exact True.intro | omega | with_reducible rfl | rfl | ((repeat' split) <;> first | rfl | trivial | omega | (exfalso; omega)) | (simp only [bi]; (repeat' split) <;> omega)
/-- minutes: class and model go alike -/
theorem min_eq {g : AH} : ∀ (k : Nat) (x g : AH), TI False x g 1 0 → TI False (minX k x) (goMo 0 k g) 1 0
  | 0, _, _, hi => hi
  | k + 1, x, g, hi => by
    have em := hi.1.2.1
    unfold minX goMo
    by_cases c : x 1 13 < 120
    · rw [if_pos c, if_pos (by omega)]
      exact min_eq (g := g) k _ _ (TI_pass isT1 hi (by omega))
    · rw [if_neg c, if_neg (by omega)]
      exact hi
theorem BB_TG {g : AH} (hb : BB h g) (hc : CL h) : TG h 1 := by
  obtain ⟨⟨a1, a2, a3⟩, a4, r7, rh, mg⟩ := hb
  obtain ⟨m1, m2, m3, m4, m5, m6, -, -⟩ := mg
  refine ⟨by rw [a1]; exact m1, fun j hj => ?_, by rw [a3]; omega, ⟨by rw [a2]; exact m2, fun j hj => ?_⟩, by rw [a4]; exact m4, hc.1, hc.2⟩
  · rw [a1] at hj
    obtain ⟨-, -, b3, b4, -⟩ := r7 j hj
    obtain ⟨-, p2, p3, -⟩ := m5 j hj
    rw [b3, b4]; exact ⟨p2, p3⟩
  · rw [a2] at hj
    obtain ⟨⟨-, b2, b3⟩, -⟩ := rh j hj
    rw [b2, b3]; exact (m6 j hj).2
theorem TI_now {g : AH} (hb : BB h g) (h9 : g 82 9 = 0) : TI False (readyX h 1) g 1 0 := by
  obtain ⟨a1, a4, r7, rh, mg⟩ := hb
  obtain ⟨e1, e2, e3⟩ := ready_eq (fl := False) isT1 a1 a4 r7 mg.1 (MG_KK mg) (fun q => q.elim)
  refine ⟨e1, fun c hc => ?_, MG_GI mg h9, e2, mg.2.1.1, e3⟩
  rw [ready_o _ _ (by omega), ready_o _ _ (by omega), ready_o _ _ (by omega)]
  exact rh c hc
theorem minX_o (a c : Nat) (ha : (a < 1 ∨ 11 < a) ∧ ¬ (34 ≤ a ∧ a ≤ 41)) : ∀ (k : Nat) (x : AH), minX k x a c = x a c
  | 0, _ => rfl
  | k + 1, x => by
    unfold minX
    split
    · rw [minX_o a c ha k, passX_o isT1 _ _ (by omega)]
    · rfl
theorem minX_14 : ∀ (k : Nat) (x : AH), minX k x 1 14 = x 1 14
  | 0, _ => rfl
  | k + 1, x => by
    unfold minX
    split
    · rw [minX_14 k, passX_o isT1 _ _ (by omega)]
    · rfl
theorem CL_minX : ∀ (k : Nat) (x : AH) (ww : Int), PI x 1 ww → CL x → CL (minX k x)
  | 0, _, _, _, hc => hc
  | k + 1, x, ww, hi, hc => by
    unfold minX
    split
    · next q => exact CL_minX k _ (ww + 8) (PI_passX isT1 hi q) (CL_pass isT1 hi hc q)
    · exact hc
/-- what the law's next call finds -/
theorem BB_min {g : AH} (hb : BB h g) (hc : CL h) (h9 : g 82 9 = 0) (k : Nat) : BB (minX k (readyX h 1)) (goMo 0 k g) ∧ CL (minX k (readyX h 1)) ∧ goMo 0 k g 82 9 = 0 := by
  have ti := min_eq (g := g) k _ _ (TI_now hb h9)
  obtain ⟨mg, m9⟩ := MG_go (aa := 0) k g hb.2.2.2.2 h9
  refine ⟨⟨ti.1.1, ti.1.2.1, fun c hc => (ti.1.2.2.1 c hc).1, ti.2.1, mg⟩, CL_minX k _ 8 (PI_ready isT1 (BB_TG hb hc)) (CL_ready hc), m9⟩
end L2AF
