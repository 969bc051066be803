section L2J
variable {G : GD} {l : Launch} {d : Nat} {h : AH}
set_option maxHeartbeats 4000000 in
theorem m_isThere {aa pp : Nat} (ha : h 82 9 = (aa : Int)) (haa : aa ≤ 41) (hp : pp < 8) (hd : 1 ≤ d) : CallR G l d 155 [vR 82, vI pp] h (fun r h' => r = some (vI (bi (h 88 (aa + 1 + pp) = h 88 (aa + 9 + pp)))) ∧ h' = h) := by
  refine in155 [] 40 fun _ hO => ?_
  have i1 : ((aa : Int) + (1 + (pp : Int))).toNat = aa + 1 + pp := by omega
  have w1 : w32 (1 + (pp : Int)) = 1 + pp := w32_id (by omega) (by omega)
  have i9 : ((aa : Int) + (9 + (pp : Int))).toNat = aa + 9 + pp := by omega
  have w9 : w32 (9 + (pp : Int)) = 9 + pp := w32_id (by omega) (by omega)
  simp only [c155, rlA, KF_s, KF_0, elN_n, elN_c, ↓reduceIte, Bool.false_eq_true, Int.reduceToNat, lk_c, lk_n, sw_c, sw_n, List.getD_cons_zero, List.getD_cons_succ, fv_0, fv_1, fv_2, fv_r, pf_0, pf_2, Option.toList_some, Option.toList_none, List.cons_append, List.nil_append, stK_n, stK_i, stK_r, true_and, and_true, true_or, or_true, List.length_nil, List.length_cons, Nat.zero_add, Nat.reduceAdd, Nat.reduceLeDiff, bi_0, bi_1, bi_01, em_1, em_2, cmp64_0, cmp64_lt, cmp64_gt, hu_ap, ne_a1, ne_a2, Decidable.not_not, Int.reduceAdd, Int.reduceNeg, Int.toNat_natCast, Int.toNat_zero, Int.toNat_one, List.append_nil, reduceCtorEq, Nat.reduceEqDiff, Nat.reduceBEq, Bool.or_false, Bool.false_or, Bool.true_or, Bool.or_true, some_vI, Int.le_refl, Nat.le_refl, false_or, or_false, Int.reduceLE, Int.reduceLT, Int.reduceEq, Int.zero_le_ofNat, and_self, if_true, if_false, false_and, and_false, not_true_eq_false, not_false_eq_true, false_implies, forall_const, shA, i1, w1, i9, w9, ha]
  repeat' first | with_reducible intro _ | (refine call_of (d' := d - 1) (by omega) (m_its (by omega)) ?_) | simp only [c155, rlA, KF_s, KF_0, elN_n, elN_c, ↓reduceIte, Bool.false_eq_true, Int.reduceToNat, lk_c, lk_n, sw_c, sw_n, List.getD_cons_zero, List.getD_cons_succ, fv_0, fv_1, fv_2, fv_r, pf_0, pf_2, Option.toList_some, Option.toList_none, List.cons_append, List.nil_append, stK_n, stK_i, stK_r, true_and, and_true, true_or, or_true, List.length_nil, List.length_cons, Nat.zero_add, Nat.reduceAdd, Nat.reduceLeDiff, bi_0, bi_1, bi_01, em_1, em_2, cmp64_0, cmp64_lt, cmp64_gt, hu_ap, ne_a1, ne_a2, Decidable.not_not, Int.reduceAdd, Int.reduceNeg, Int.toNat_natCast, Int.toNat_zero, Int.toNat_one, List.append_nil, reduceCtorEq, Nat.reduceEqDiff, Nat.reduceBEq, Bool.or_false, Bool.false_or, Bool.true_or, Bool.or_true, some_vI, Int.le_refl, Nat.le_refl, false_or, or_false, Int.reduceLE, Int.reduceLT, Int.reduceEq, Int.zero_le_ofNat, and_self, if_true, if_false, false_and, and_false, not_true_eq_false, not_false_eq_true, false_implies, forall_const, shA, i1, w1, i9, w9, ha] | with_reducible apply And.intro
  all_goals first | exact True.intro | omega | with_reducible rfl | rfl | ((repeat' split) <;> first | rfl | trivial | omega | (exfalso; omega)) | (simp only [bi]; (repeat' split) <;> omega)
def mayF (k a m : Int) : Int := if k = 1 ∨ k = 4 then 1 else if k = 2 ∨ k = 3 then (if a < m then 4 else 2) else if k = 5 then (if m32 (w32 (m + a)) 4 = 0 then 0 else 2) else 2
set_option maxHeartbeats 4000000 in
theorem m_mayGo {aa pp : Nat} (ha : h 82 9 = (aa : Int)) (haa : aa ≤ 41) (hp : pp < 8) (hd : 1 ≤ d) : CallR G l d 153 [vR 82, vI pp] h (fun r h' => r = some (vI (mayF (h 86 pp) (h 87 pp) (h 88 aa))) ∧ h' = h) := by
  refine in153 [] 40 fun _ hO => ?_
  have i0 : ((aa : Int) + 0).toNat = aa := by omega
  simp only [c153, rlA, KF_s, KF_0, elN_n, elN_c, ↓reduceIte, Bool.false_eq_true, Int.reduceToNat, lk_c, lk_n, sw_c, sw_n, List.getD_cons_zero, List.getD_cons_succ, fv_0, fv_1, fv_2, fv_r, pf_0, pf_2, Option.toList_some, Option.toList_none, List.cons_append, List.nil_append, stK_n, stK_i, stK_r, true_and, and_true, true_or, or_true, List.length_nil, List.length_cons, Nat.zero_add, Nat.reduceAdd, Nat.reduceLeDiff, bi_0, bi_1, bi_01, em_1, em_2, cmp64_0, cmp64_lt, cmp64_gt, hu_ap, ne_a1, ne_a2, Decidable.not_not, Int.reduceAdd, Int.reduceNeg, Int.toNat_natCast, Int.toNat_zero, Int.toNat_one, List.append_nil, reduceCtorEq, Nat.reduceEqDiff, Nat.reduceBEq, Bool.or_false, Bool.false_or, Bool.true_or, Bool.or_true, some_vI, Int.le_refl, Nat.le_refl, false_or, or_false, Int.reduceLE, Int.reduceLT, Int.reduceEq, Int.zero_le_ofNat, and_self, if_true, if_false, false_and, and_false, not_true_eq_false, not_false_eq_true, false_implies, forall_const, shA, i0, ha]
  repeat' first | with_reducible intro _ | (refine call_of (d' := d - 1) (by omega) (m_its (by omega)) ?_) | simp only [c153, rlA, KF_s, KF_0, elN_n, elN_c, ↓reduceIte, Bool.false_eq_true, Int.reduceToNat, lk_c, lk_n, sw_c, sw_n, List.getD_cons_zero, List.getD_cons_succ, fv_0, fv_1, fv_2, fv_r, pf_0, pf_2, Option.toList_some, Option.toList_none, List.cons_append, List.nil_append, stK_n, stK_i, stK_r, true_and, and_true, true_or, or_true, List.length_nil, List.length_cons, Nat.zero_add, Nat.reduceAdd, Nat.reduceLeDiff, bi_0, bi_1, bi_01, em_1, em_2, cmp64_0, cmp64_lt, cmp64_gt, hu_ap, ne_a1, ne_a2, Decidable.not_not, Int.reduceAdd, Int.reduceNeg, Int.toNat_natCast, Int.toNat_zero, Int.toNat_one, List.append_nil, reduceCtorEq, Nat.reduceEqDiff, Nat.reduceBEq, Bool.or_false, Bool.false_or, Bool.true_or, Bool.or_true, some_vI, Int.le_refl, Nat.le_refl, false_or, or_false, Int.reduceLE, Int.reduceLT, Int.reduceEq, Int.zero_le_ofNat, and_self, if_true, if_false, false_and, and_false, not_true_eq_false, not_false_eq_true, false_implies, forall_const, shA, i0, ha] | with_reducible apply And.intro
  all_goals first | exact True.intro | omega | with_reducible rfl | rfl | (unfold mayF; (repeat' split) <;> first | rfl | trivial | omega | (exfalso; omega)) | (simp only [bi]; (repeat' split) <;> omega)
def setsM (h : AH) (aa pp : Nat) (g : Int) : AH := hu (hu (hu h 88 (aa + 9 + pp) g) 88 (aa + 25 + pp) 0) 88 (aa + 33 + pp) (-1)
set_option maxHeartbeats 4000000 in
theorem m_setsOut {aa pp : Nat} {g : Int} (ha : h 82 9 = (aa : Int)) (haa : aa ≤ 41) (hp : pp < 8) (hd : 1 ≤ d) : CallR G l d 149 [vR 82, vI pp, vI g] h (fun r h' => r = none ∧ h' = (setsM h aa pp g)) := by
  refine in149 [] 40 fun _ _ hO => ?_
  have i9 : ((aa : Int) + (9 + (pp : Int))).toNat = aa + 9 + pp := by omega
  have w9 : w32 (9 + (pp : Int)) = 9 + pp := w32_id (by omega) (by omega)
  have i25 : ((aa : Int) + (25 + (pp : Int))).toNat = aa + 25 + pp := by omega
  have w25 : w32 (25 + (pp : Int)) = 25 + pp := w32_id (by omega) (by omega)
  have i33 : ((aa : Int) + (33 + (pp : Int))).toNat = aa + 33 + pp := by omega
  have w33 : w32 (33 + (pp : Int)) = 33 + pp := w32_id (by omega) (by omega)
  simp only [c149, rlA, KF_s, KF_0, elN_n, elN_c, ↓reduceIte, Bool.false_eq_true, Int.reduceToNat, lk_c, lk_n, sw_c, sw_n, List.getD_cons_zero, List.getD_cons_succ, fv_0, fv_1, fv_2, fv_r, pf_0, pf_2, Option.toList_some, Option.toList_none, List.cons_append, List.nil_append, stK_n, stK_i, stK_r, true_and, and_true, true_or, or_true, List.length_nil, List.length_cons, Nat.zero_add, Nat.reduceAdd, Nat.reduceLeDiff, bi_0, bi_1, bi_01, em_1, em_2, cmp64_0, cmp64_lt, cmp64_gt, hu_ap, ne_a1, ne_a2, Decidable.not_not, Int.reduceAdd, Int.reduceNeg, Int.toNat_natCast, Int.toNat_zero, Int.toNat_one, List.append_nil, reduceCtorEq, Nat.reduceEqDiff, Nat.reduceBEq, Bool.or_false, Bool.false_or, Bool.true_or, Bool.or_true, some_vI, Int.le_refl, Nat.le_refl, false_or, or_false, Int.reduceLE, Int.reduceLT, Int.reduceEq, Int.zero_le_ofNat, and_self, if_true, if_false, false_and, and_false, not_true_eq_false, not_false_eq_true, false_implies, forall_const, shA, i9, w9, i25, w25, i33, w33, ha]
  repeat' first | with_reducible intro _ | (refine call_of (d' := d - 1) (by omega) (m_becomes (by first | omega | (simp only [hu_ap, Nat.reduceEqDiff, false_and, if_false]; omega))) ?_) | simp only [c149, rlA, KF_s, KF_0, elN_n, elN_c, ↓reduceIte, Bool.false_eq_true, Int.reduceToNat, lk_c, lk_n, sw_c, sw_n, List.getD_cons_zero, List.getD_cons_succ, fv_0, fv_1, fv_2, fv_r, pf_0, pf_2, Option.toList_some, Option.toList_none, List.cons_append, List.nil_append, stK_n, stK_i, stK_r, true_and, and_true, true_or, or_true, List.length_nil, List.length_cons, Nat.zero_add, Nat.reduceAdd, Nat.reduceLeDiff, bi_0, bi_1, bi_01, em_1, em_2, cmp64_0, cmp64_lt, cmp64_gt, hu_ap, ne_a1, ne_a2, Decidable.not_not, Int.reduceAdd, Int.reduceNeg, Int.toNat_natCast, Int.toNat_zero, Int.toNat_one, List.append_nil, reduceCtorEq, Nat.reduceEqDiff, Nat.reduceBEq, Bool.or_false, Bool.false_or, Bool.true_or, Bool.or_true, some_vI, Int.le_refl, Nat.le_refl, false_or, or_false, Int.reduceLE, Int.reduceLT, Int.reduceEq, Int.zero_le_ofNat, and_self, if_true, if_false, false_and, and_false, not_true_eq_false, not_false_eq_true, false_implies, forall_const, shA, i9, w9, i25, w25, i33, w33, ha] | with_reducible apply And.intro
  all_goals first | exact True.intro | omega | (unfold setsM; rfl) | trace_state
/-- the model's step of one: may it be, and what it does -/
def stB (h : AH) (aa pp : Nat) : Bool := if h 88 (aa + 1 + pp) < h 88 (aa + 9 + pp)
  then !(clB h (h 88 (aa + 1 + pp)) (h 88 aa) (h 82 1).toNat) && decide (h 98 (h 88 (aa + 1 + pp)).toNat + takesF (h 86 pp) (h 87 pp) ≤ h 82 0)
  else !(clB h (h 88 (aa + 1 + pp) - 1) (h 88 aa) (h 82 1).toNat) && decide (h 98 (9 + (h 88 (aa + 1 + pp) - 1)).toNat + takesF (h 86 pp) (h 87 pp) ≤ h 82 0)
/-- lane and flight -/
def stL (h : AH) (aa pp : Nat) (hv : Int) (fl ln : Nat) (dd : Int) : AH :=
  hu (hu (hu (hu h 98 ln (h 98 ln + takesF (h 86 pp) (h 87 pp))) 99 fl (if h 99 fl < h 98 ln + takesF (h 86 pp) (h 87 pp) then h 98 ln + takesF (h 86 pp) (h 87 pp) else h 99 fl)) 88 (aa + 25 + pp) (m32 (h 88 (aa + 25 + pp) + hv) 2)) 88 (aa + 1 + pp) (h 88 (aa + 1 + pp) + if h 88 (aa + 25 + pp) + hv < 2 then 0 else dd)
def stM (h : AH) (aa pp : Nat) (hv : Int) : AH := if h 88 (aa + 1 + pp) < h 88 (aa + 9 + pp)
  then stL h aa pp hv (h 88 (aa + 1 + pp)).toNat (h 88 (aa + 1 + pp)).toNat 1
  else stL h aa pp hv (h 88 (aa + 1 + pp) - 1).toNat (9 + (h 88 (aa + 1 + pp) - 1)).toNat (-1)
def stI (h : AH) (aa pp : Nat) : Prop := (0 ≤ h 88 (aa + 1 + pp) ∧ h 88 (aa + 1 + pp) ≤ 9) ∧ (0 ≤ h 88 (aa + 9 + pp) ∧ h 88 (aa + 9 + pp) ≤ 9) ∧ (0 ≤ h 88 (aa + 25 + pp) ∧ h 88 (aa + 25 + pp) ≤ 1) ∧ (∀ j, 0 ≤ h 98 j ∧ h 98 j ≤ 1000) ∧ h 82 0 ≤ 9 ∧ hatsOK h
theorem takesF_r (k a : Int) : 0 ≤ takesF k a ∧ takesF k a ≤ 2 := by unfold takesF; (repeat' split) <;> omega
set_option maxHeartbeats 4000000 in
theorem m_stepsY {aa pp : Nat} {hv : Int} (ha : h 82 9 = (aa : Int)) (haa : aa ≤ 41) (hp : pp < 8) (hi : stI h aa pp) (hn : ¬ h 88 (aa + 1 + pp) = h 88 (aa + 9 + pp)) (hv2 : 1 ≤ hv ∧ hv ≤ 2) (hy : stB h aa pp = true) (hd : 2 ≤ d) : CallR G l d 154 [vR 82, vI pp, vI hv] h (fun r h' => r = some (vI 1) ∧ h' = (stM h aa pp hv)) := by
  refine in154 [] 40 fun _ _ hO => ?_
  have i1 : ((aa : Int) + (1 + (pp : Int))).toNat = aa + 1 + pp := by omega
  have w1 : w32 (1 + (pp : Int)) = 1 + pp := w32_id (by omega) (by omega)
  have i9 : ((aa : Int) + (9 + (pp : Int))).toNat = aa + 9 + pp := by omega
  have w9 : w32 (9 + (pp : Int)) = 9 + pp := w32_id (by omega) (by omega)
  have i25 : ((aa : Int) + (25 + (pp : Int))).toNat = aa + 25 + pp := by omega
  have w25 : w32 (25 + (pp : Int)) = 25 + pp := w32_id (by omega) (by omega)
  have i0 : ((aa : Int) + 0).toNat = aa := by omega
  obtain ⟨f1, f2, f3, f4, f5, f6⟩ := hi
  have tk := takesF_r (h 86 pp) (h 87 pp)
  have x1 : w32 (h 88 (aa + 1 + pp) - 1) = h 88 (aa + 1 + pp) - 1 := w32_id (by omega) (by omega)
  have x2 : w32 (9 + (h 88 (aa + 1 + pp) - 1)) = 9 + (h 88 (aa + 1 + pp) - 1) := w32_id (by omega) (by omega)
  have q1 := f4 (h 88 (aa + 1 + pp)).toNat
  have q2 := f4 (9 + (h 88 (aa + 1 + pp) - 1)).toNat
  have x3 : w32 (h 98 (h 88 (aa + 1 + pp)).toNat + takesF (h 86 pp) (h 87 pp)) = h 98 (h 88 (aa + 1 + pp)).toNat + takesF (h 86 pp) (h 87 pp) := w32_id (by omega) (by omega)
  have x4 : w32 (h 98 (9 + (h 88 (aa + 1 + pp) - 1)).toNat + takesF (h 86 pp) (h 87 pp)) = h 98 (9 + (h 88 (aa + 1 + pp) - 1)).toNat + takesF (h 86 pp) (h 87 pp) := w32_id (by omega) (by omega)
  have x5 : w32 (h 88 (aa + 25 + pp) + hv) = h 88 (aa + 25 + pp) + hv := w32_id (by omega) (by omega)
  have x6 : w32 (h 88 (aa + 1 + pp) + 0) = h 88 (aa + 1 + pp) + 0 := w32_id (by omega) (by omega)
  have x7 : w32 (h 88 (aa + 1 + pp) + 1) = h 88 (aa + 1 + pp) + 1 := w32_id (by omega) (by omega)
  have x8 : w32 (h 88 (aa + 1 + pp) + -1) = h 88 (aa + 1 + pp) + -1 := w32_id (by omega) (by omega)
  have z1 : (aa + 1 + pp = aa + 25 + pp) = False := by simp
  have z2 : (0 = 9) = False := by simp
  unfold stB at hy
  rcases Decidable.em (h 88 (aa + 1 + pp) < h 88 (aa + 9 + pp)) with up | up
  rw [if_pos up] at hy
  rotate_left
  rw [if_neg up] at hy
  all_goals (
    simp only [c154, rlA, KF_s, KF_0, elN_n, elN_c, ↓reduceIte, Bool.false_eq_true, Int.reduceToNat, lk_c, lk_n, sw_c, sw_n, List.getD_cons_zero, List.getD_cons_succ, fv_0, fv_1, fv_2, fv_r, pf_0, pf_2, Option.toList_some, Option.toList_none, List.cons_append, List.nil_append, stK_n, stK_i, stK_r, true_and, and_true, true_or, or_true, List.length_nil, List.length_cons, Nat.zero_add, Nat.reduceAdd, Nat.reduceLeDiff, bi_0, bi_1, bi_01, em_1, em_2, cmp64_0, cmp64_lt, cmp64_gt, hu_ap, ne_a1, ne_a2, Decidable.not_not, Int.reduceAdd, Int.reduceNeg, Int.toNat_natCast, Int.toNat_zero, Int.toNat_one, List.append_nil, reduceCtorEq, Nat.reduceEqDiff, Nat.reduceBEq, Bool.or_false, Bool.false_or, Bool.true_or, Bool.or_true, some_vI, Int.le_refl, Nat.le_refl, false_or, or_false, Int.reduceLE, Int.reduceLT, Int.reduceEq, Int.zero_le_ofNat, and_self, if_true, if_false, false_and, and_false, not_true_eq_false, not_false_eq_true, false_implies, forall_const, shA, i1, w1, i9, w9, i25, w25, i0, ha, x1, x2, x3, x4, x5, x6, x7, x8, z1, up]
    repeat' first | with_reducible intro _ | (refine call_of (d' := d - 1) (by omega) (m_its (by first | omega | (simp only [hu_ap, Nat.reduceEqDiff, false_and, if_false]; omega))) ?_) | (refine call_of (d' := d - 1) (by omega) (m_takes (by omega)) ?_) | (refine call_of (d' := d - 1) (by omega) (m_isClosed f6 (by omega)) ?_) | (refine call_of (d' := d - 1) (by omega) (m_becomes (by first | omega | (simp only [hu_ap, Nat.reduceEqDiff, false_and, if_false]; omega))) ?_) | simp only [c154, rlA, KF_s, KF_0, elN_n, elN_c, ↓reduceIte, Bool.false_eq_true, Int.reduceToNat, lk_c, lk_n, sw_c, sw_n, List.getD_cons_zero, List.getD_cons_succ, fv_0, fv_1, fv_2, fv_r, pf_0, pf_2, Option.toList_some, Option.toList_none, List.cons_append, List.nil_append, stK_n, stK_i, stK_r, true_and, and_true, true_or, or_true, List.length_nil, List.length_cons, Nat.zero_add, Nat.reduceAdd, Nat.reduceLeDiff, bi_0, bi_1, bi_01, em_1, em_2, cmp64_0, cmp64_lt, cmp64_gt, hu_ap, ne_a1, ne_a2, Decidable.not_not, Int.reduceAdd, Int.reduceNeg, Int.toNat_natCast, Int.toNat_zero, Int.toNat_one, List.append_nil, reduceCtorEq, Nat.reduceEqDiff, Nat.reduceBEq, Bool.or_false, Bool.false_or, Bool.true_or, Bool.or_true, some_vI, Int.le_refl, Nat.le_refl, false_or, or_false, Int.reduceLE, Int.reduceLT, Int.reduceEq, Int.zero_le_ofNat, and_self, if_true, if_false, false_and, and_false, not_true_eq_false, not_false_eq_true, false_implies, forall_const, shA, i1, w1, i9, w9, i25, w25, i0, ha, x1, x2, x3, x4, x5, x6, x7, x8, z1, up] | with_reducible apply And.intro)
  all_goals first | exact True.intro | omega | (unfold stM; (first | rw [if_pos (by assumption)] | rw [if_neg (by assumption)]); unfold stL; (first | rw [if_pos (by assumption)] | rw [if_neg (by assumption)]); (first | rw [if_pos (by assumption)] | rw [if_neg (by assumption)])) | (exfalso; first | (simp [*] at hy; done) | (simp at hy; omega) | (simp [*] at hy; omega))
set_option maxHeartbeats 4000000 in
theorem m_stepsN {aa pp : Nat} {hv : Int} (ha : h 82 9 = (aa : Int)) (haa : aa ≤ 41) (hp : pp < 8) (hi : stI h aa pp) (hn : ¬ h 88 (aa + 1 + pp) = h 88 (aa + 9 + pp)) (hv2 : 1 ≤ hv ∧ hv ≤ 2) (hy : stB h aa pp = false) (hd : 2 ≤ d) : CallR G l d 154 [vR 82, vI pp, vI hv] h (fun r h' => r = some (vI 0) ∧ h' = h) := by
  refine in154 [] 40 fun _ _ hO => ?_
  have i1 : ((aa : Int) + (1 + (pp : Int))).toNat = aa + 1 + pp := by omega
  have w1 : w32 (1 + (pp : Int)) = 1 + pp := w32_id (by omega) (by omega)
  have i9 : ((aa : Int) + (9 + (pp : Int))).toNat = aa + 9 + pp := by omega
  have w9 : w32 (9 + (pp : Int)) = 9 + pp := w32_id (by omega) (by omega)
  have i25 : ((aa : Int) + (25 + (pp : Int))).toNat = aa + 25 + pp := by omega
  have w25 : w32 (25 + (pp : Int)) = 25 + pp := w32_id (by omega) (by omega)
  have i0 : ((aa : Int) + 0).toNat = aa := by omega
  obtain ⟨f1, f2, f3, f4, f5, f6⟩ := hi
  have tk := takesF_r (h 86 pp) (h 87 pp)
  have x1 : w32 (h 88 (aa + 1 + pp) - 1) = h 88 (aa + 1 + pp) - 1 := w32_id (by omega) (by omega)
  have x2 : w32 (9 + (h 88 (aa + 1 + pp) - 1)) = 9 + (h 88 (aa + 1 + pp) - 1) := w32_id (by omega) (by omega)
  have q1 := f4 (h 88 (aa + 1 + pp)).toNat
  have q2 := f4 (9 + (h 88 (aa + 1 + pp) - 1)).toNat
  have x3 : w32 (h 98 (h 88 (aa + 1 + pp)).toNat + takesF (h 86 pp) (h 87 pp)) = h 98 (h 88 (aa + 1 + pp)).toNat + takesF (h 86 pp) (h 87 pp) := w32_id (by omega) (by omega)
  have x4 : w32 (h 98 (9 + (h 88 (aa + 1 + pp) - 1)).toNat + takesF (h 86 pp) (h 87 pp)) = h 98 (9 + (h 88 (aa + 1 + pp) - 1)).toNat + takesF (h 86 pp) (h 87 pp) := w32_id (by omega) (by omega)
  have x5 : w32 (h 88 (aa + 25 + pp) + hv) = h 88 (aa + 25 + pp) + hv := w32_id (by omega) (by omega)
  have x6 : w32 (h 88 (aa + 1 + pp) + 0) = h 88 (aa + 1 + pp) + 0 := w32_id (by omega) (by omega)
  have x7 : w32 (h 88 (aa + 1 + pp) + 1) = h 88 (aa + 1 + pp) + 1 := w32_id (by omega) (by omega)
  have x8 : w32 (h 88 (aa + 1 + pp) + -1) = h 88 (aa + 1 + pp) + -1 := w32_id (by omega) (by omega)
  have z1 : (aa + 1 + pp = aa + 25 + pp) = False := by simp
  have z2 : (0 = 9) = False := by simp
  unfold stB at hy
  rcases Decidable.em (h 88 (aa + 1 + pp) < h 88 (aa + 9 + pp)) with up | up
  rw [if_pos up] at hy
  rotate_left
  rw [if_neg up] at hy
  all_goals (
    simp only [c154, rlA, KF_s, KF_0, elN_n, elN_c, ↓reduceIte, Bool.false_eq_true, Int.reduceToNat, lk_c, lk_n, sw_c, sw_n, List.getD_cons_zero, List.getD_cons_succ, fv_0, fv_1, fv_2, fv_r, pf_0, pf_2, Option.toList_some, Option.toList_none, List.cons_append, List.nil_append, stK_n, stK_i, stK_r, true_and, and_true, true_or, or_true, List.length_nil, List.length_cons, Nat.zero_add, Nat.reduceAdd, Nat.reduceLeDiff, bi_0, bi_1, bi_01, em_1, em_2, cmp64_0, cmp64_lt, cmp64_gt, hu_ap, ne_a1, ne_a2, Decidable.not_not, Int.reduceAdd, Int.reduceNeg, Int.toNat_natCast, Int.toNat_zero, Int.toNat_one, List.append_nil, reduceCtorEq, Nat.reduceEqDiff, Nat.reduceBEq, Bool.or_false, Bool.false_or, Bool.true_or, Bool.or_true, some_vI, Int.le_refl, Nat.le_refl, false_or, or_false, Int.reduceLE, Int.reduceLT, Int.reduceEq, Int.zero_le_ofNat, and_self, if_true, if_false, false_and, and_false, not_true_eq_false, not_false_eq_true, false_implies, forall_const, shA, i1, w1, i9, w9, i25, w25, i0, ha, x1, x2, x3, x4, x5, x6, x7, x8, z1, up]
    repeat' first | with_reducible intro _ | (refine call_of (d' := d - 1) (by omega) (m_its (by first | omega | (simp only [hu_ap, Nat.reduceEqDiff, false_and, if_false]; omega))) ?_) | (refine call_of (d' := d - 1) (by omega) (m_takes (by omega)) ?_) | (refine call_of (d' := d - 1) (by omega) (m_isClosed f6 (by omega)) ?_) | (refine call_of (d' := d - 1) (by omega) (m_becomes (by first | omega | (simp only [hu_ap, Nat.reduceEqDiff, false_and, if_false]; omega))) ?_) | simp only [c154, rlA, KF_s, KF_0, elN_n, elN_c, ↓reduceIte, Bool.false_eq_true, Int.reduceToNat, lk_c, lk_n, sw_c, sw_n, List.getD_cons_zero, List.getD_cons_succ, fv_0, fv_1, fv_2, fv_r, pf_0, pf_2, Option.toList_some, Option.toList_none, List.cons_append, List.nil_append, stK_n, stK_i, stK_r, true_and, and_true, true_or, or_true, List.length_nil, List.length_cons, Nat.zero_add, Nat.reduceAdd, Nat.reduceLeDiff, bi_0, bi_1, bi_01, em_1, em_2, cmp64_0, cmp64_lt, cmp64_gt, hu_ap, ne_a1, ne_a2, Decidable.not_not, Int.reduceAdd, Int.reduceNeg, Int.toNat_natCast, Int.toNat_zero, Int.toNat_one, List.append_nil, reduceCtorEq, Nat.reduceEqDiff, Nat.reduceBEq, Bool.or_false, Bool.false_or, Bool.true_or, Bool.or_true, some_vI, Int.le_refl, Nat.le_refl, false_or, or_false, Int.reduceLE, Int.reduceLT, Int.reduceEq, Int.zero_le_ofNat, and_self, if_true, if_false, false_and, and_false, not_true_eq_false, not_false_eq_true, false_implies, forall_const, shA, i1, w1, i9, w9, i25, w25, i0, ha, x1, x2, x3, x4, x5, x6, x7, x8, z1, up] | with_reducible apply And.intro)
  all_goals first | exact True.intro | omega | (exfalso; first | (simp [*] at hy; done) | (simp [*] at hy; omega) | (simp at hy; omega))
end L2J
