section L2G
variable {G : GD} {l : Launch} {d : Nat} {h : AH}
set_option maxHeartbeats 4000000 in
theorem s_pass {tt : Nat} {ww : Int} (ht : isT tt) (hi : PI h tt ww) (hw : ww ≤ 90000) (hd : 3 ≤ d) : CallR G l d 22 [vR 34, vR tt] h (fun r h' => r = none ∧ h' = passX h tt) := by
  refine in22 [14, 42] 20 fun hO => ?_
  have hl := isT_lt ht
  obtain ⟨c0, -, -, -, -, hH, hm⟩ := id hi
  have hz := PI_z (vv := clX h tt (h tt 13) (h tt 8).toNat) ht hi
  generalize hv : clX h tt (h tt 13) (h tt 8).toNat = vv at hz
  have zo : ∀ a c, a ≠ 39 ∧ a ≠ 40 → zero9 (hu h 34 7 vv) a c = hu h 34 7 vv a c := fun a c q => zero9_o _ a c q
  have zt : ∀ c, zero9 (hu h 34 7 vv) tt c = h tt c := fun c => by rw [zo _ _ (by omega)]; simp only [hu_ap]; rw [if_neg (by omega)]
  have hz9 : PI (zero9 (hu h 34 7 vv)) tt ww := hz 9
  have hp := PI_pass ht hz9
  have loop2 : ∀ n : Nat, n ≤ (h tt 0).toNat → ∀ p3 : Option AV, stK p3 = true → Wp G l 22 d 42 [some (vR 34), some (vR tt), some (vI n), p3] [] (forN (passI tt) n (zero9 (hu h 34 7 vv))) (fun r h' => r = none ∧ h' = passX h tt) := by
    intro n hn
    refine down (X := fun n => ∀ p3 : Option AV, stK p3 = true → Wp G l 22 d 42 [some (vR 34), some (vR tt), some (vI n), p3] [] (forN (passI tt) n (zero9 (hu h 34 7 vv))) (fun r h' => r = none ∧ h' = passX h tt)) (h tt 0).toNat ?_ ?_ n hn
    · intro p3 hp3
      obtain ⟨q1, q2, q3⟩ := hp (h tt 0).toNat (by rw [zt]; omega)
      rw [zt] at q2 q3
      have e9 : w32 (h tt 13 + 1) = h tt 13 + 1 := w32_id (by omega) (by omega)
      refine Wp.go [14, 42] 20 ok_22 ?_
      simp only [c22, rlA, KF_s, KF_0, elN_n, elN_c, ↓reduceIte, Bool.false_eq_true, Int.reduceToNat, lk_c, lk_n, sw_c, sw_n, List.getD_cons_zero, List.getD_cons_succ, fv_0, fv_1, fv_2, fv_r, pf_0, pf_2, Option.toList_some, Option.toList_none, List.cons_append, List.nil_append, stK_n, stK_i, stK_r, true_and, and_true, true_or, or_true, List.length_nil, List.length_cons, Nat.zero_add, Nat.reduceAdd, Nat.reduceLeDiff, bi_0, bi_1, bi_01, em_1, em_2, cmp64_0, cmp64_lt, cmp64_gt, hu_ap, ne_a1, ne_a2, Decidable.not_not, Int.reduceAdd, Int.reduceNeg, Int.toNat_natCast, Int.toNat_zero, Int.toNat_one, List.append_nil, reduceCtorEq, Nat.reduceEqDiff, Nat.reduceBEq, Bool.or_false, Bool.false_or, Bool.true_or, Bool.or_true, some_vI, Int.le_refl, Nat.le_refl, false_or, or_false, Int.reduceLE, Int.reduceLT, Int.reduceEq, Int.zero_le_ofNat, and_self, if_true, if_false, false_and, and_false, not_true_eq_false, not_false_eq_true, false_implies, forall_const, shT ht, shA, q2, q3, e9, hp3]
      repeat' first | with_reducible intro _ | with_reducible apply And.intro
      all_goals first | exact True.intro | omega | (unfold passX; rw [hv])
    · intro n hn ih p3 hp3
      have ew := w_s n (by omega)
      obtain ⟨q1, q2, q3⟩ := hp n (by rw [zt]; omega)
      rw [zt] at q2 q3
      have es : forN (passI tt) (n + 1) (zero9 (hu h 34 7 vv)) = passI tt n (forN (passI tt) n (zero9 (hu h 34 7 vv))) := rfl
      rw [es] at ih
      generalize forN (passI tt) n (zero9 (hu h 34 7 vv)) = x at ih q1 q2 q3 ⊢
      obtain ⟨k1, k2, k3, k4, k5, k6, k7⟩ := id q1
      obtain ⟨r1, r2⟩ := k2 n (by omega)
      obtain ⟨pp, hpp⟩ : ∃ pp : Nat, x 35 n = pp := ⟨(x 35 n).toNat, by omega⟩
      have hgo := k3 pp (by omega)
      have hw4 := k4 pp (by omega)
      have hpi : passI tt n x = if x (tt + 7) pp = -9 ∧ x (tt + 5) pp ≤ x tt 13 then goX x tt pp else x := by unfold passI; rw [hpp]; rfl
      rw [hpi] at ih
      refine Wp.go [14, 42] 20 ok_22 ?_
      simp only [c22, rlA, KF_s, KF_0, elN_n, elN_c, ↓reduceIte, Bool.false_eq_true, Int.reduceToNat, lk_c, lk_n, sw_c, sw_n, List.getD_cons_zero, List.getD_cons_succ, fv_0, fv_1, fv_2, fv_r, pf_0, pf_2, Option.toList_some, Option.toList_none, List.cons_append, List.nil_append, stK_n, stK_i, stK_r, true_and, and_true, true_or, or_true, List.length_nil, List.length_cons, Nat.zero_add, Nat.reduceAdd, Nat.reduceLeDiff, bi_0, bi_1, bi_01, em_1, em_2, cmp64_0, cmp64_lt, cmp64_gt, hu_ap, ne_a1, ne_a2, Decidable.not_not, Int.reduceAdd, Int.reduceNeg, Int.toNat_natCast, Int.toNat_zero, Int.toNat_one, List.append_nil, reduceCtorEq, Nat.reduceEqDiff, Nat.reduceBEq, Bool.or_false, Bool.false_or, Bool.true_or, Bool.or_true, some_vI, Int.le_refl, Nat.le_refl, false_or, or_false, Int.reduceLE, Int.reduceLT, Int.reduceEq, Int.zero_le_ofNat, and_self, if_true, if_false, false_and, and_false, not_true_eq_false, not_false_eq_true, false_implies, forall_const, shT ht, shA, ew, q2, hpp, hp3]
      repeat' first | with_reducible intro _ | (refine call_of (d' := d - 1) (by omega) (s_go ht (by omega) hgo (by omega) (by omega) (by omega)) ?_) | simp only [c22, rlA, KF_s, KF_0, elN_n, elN_c, ↓reduceIte, Bool.false_eq_true, Int.reduceToNat, lk_c, lk_n, sw_c, sw_n, List.getD_cons_zero, List.getD_cons_succ, fv_0, fv_1, fv_2, fv_r, pf_0, pf_2, Option.toList_some, Option.toList_none, List.cons_append, List.nil_append, stK_n, stK_i, stK_r, true_and, and_true, true_or, or_true, List.length_nil, List.length_cons, Nat.zero_add, Nat.reduceAdd, Nat.reduceLeDiff, bi_0, bi_1, bi_01, em_1, em_2, cmp64_0, cmp64_lt, cmp64_gt, hu_ap, ne_a1, ne_a2, Decidable.not_not, Int.reduceAdd, Int.reduceNeg, Int.toNat_natCast, Int.toNat_zero, Int.toNat_one, List.append_nil, reduceCtorEq, Nat.reduceEqDiff, Nat.reduceBEq, Bool.or_false, Bool.false_or, Bool.true_or, Bool.or_true, some_vI, Int.le_refl, Nat.le_refl, false_or, or_false, Int.reduceLE, Int.reduceLT, Int.reduceEq, Int.zero_le_ofNat, and_self, if_true, if_false, false_and, and_false, not_true_eq_false, not_false_eq_true, false_implies, forall_const, shT ht, shA, ew, q2, hpp, hp3] | with_reducible apply And.intro
      all_goals first | exact True.intro | omega | (rw [if_neg (by omega)] at ih; exact ih _ rfl) | (rw [if_pos (by omega)] at ih; exact ih _ rfl)
  have loop1 : ∀ n : Nat, n ≤ 9 → Wp G l 22 d 14 [some (vR 34), some (vR tt), some (vI n), none] [] (forN (fun f h => hu (hu h 39 f 0) 40 f 0) n (hu h 34 7 vv)) (fun r h' => r = none ∧ h' = passX h tt) := by
    refine down _ ?_ ?_
    · refine Wp.go [14, 42] 20 ok_22 ?_
      simp only [c22, rlA, KF_s, KF_0, elN_n, elN_c, ↓reduceIte, Bool.false_eq_true, Int.reduceToNat, lk_c, lk_n, sw_c, sw_n, List.getD_cons_zero, List.getD_cons_succ, fv_0, fv_1, fv_2, fv_r, pf_0, pf_2, Option.toList_some, Option.toList_none, List.cons_append, List.nil_append, stK_n, stK_i, stK_r, true_and, and_true, true_or, or_true, List.length_nil, List.length_cons, Nat.zero_add, Nat.reduceAdd, Nat.reduceLeDiff, bi_0, bi_1, bi_01, em_1, em_2, cmp64_0, cmp64_lt, cmp64_gt, hu_ap, ne_a1, ne_a2, Decidable.not_not, Int.reduceAdd, Int.reduceNeg, Int.toNat_natCast, Int.toNat_zero, Int.toNat_one, List.append_nil, reduceCtorEq, Nat.reduceEqDiff, Nat.reduceBEq, Bool.or_false, Bool.false_or, Bool.true_or, Bool.or_true, some_vI, Int.le_refl, Nat.le_refl, false_or, or_false, Int.reduceLE, Int.reduceLT, Int.reduceEq, Int.zero_le_ofNat, and_self, if_true, if_false, false_and, and_false, not_true_eq_false, not_false_eq_true, false_implies, forall_const, shT ht, shA]
      repeat' first | with_reducible intro _ | with_reducible apply And.intro
      all_goals first | exact True.intro | omega | exact loop2 0 (Nat.zero_le _) none rfl
    · intro n hn ih
      have ew := w_s n (by omega)
      refine Wp.go [14, 42] 20 ok_22 ?_
      simp only [c22, rlA, KF_s, KF_0, elN_n, elN_c, ↓reduceIte, Bool.false_eq_true, Int.reduceToNat, lk_c, lk_n, sw_c, sw_n, List.getD_cons_zero, List.getD_cons_succ, fv_0, fv_1, fv_2, fv_r, pf_0, pf_2, Option.toList_some, Option.toList_none, List.cons_append, List.nil_append, stK_n, stK_i, stK_r, true_and, and_true, true_or, or_true, List.length_nil, List.length_cons, Nat.zero_add, Nat.reduceAdd, Nat.reduceLeDiff, bi_0, bi_1, bi_01, em_1, em_2, cmp64_0, cmp64_lt, cmp64_gt, hu_ap, ne_a1, ne_a2, Decidable.not_not, Int.reduceAdd, Int.reduceNeg, Int.toNat_natCast, Int.toNat_zero, Int.toNat_one, List.append_nil, reduceCtorEq, Nat.reduceEqDiff, Nat.reduceBEq, Bool.or_false, Bool.false_or, Bool.true_or, Bool.or_true, some_vI, Int.le_refl, Nat.le_refl, false_or, or_false, Int.reduceLE, Int.reduceLT, Int.reduceEq, Int.zero_le_ofNat, and_self, if_true, if_false, false_and, and_false, not_true_eq_false, not_false_eq_true, false_implies, forall_const, shT ht, shA, ew]
      repeat' first | with_reducible intro _ | with_reducible apply And.intro
      all_goals first | exact True.intro | omega | exact ih
  simp only [c22, rlA, KF_s, KF_0, elN_n, elN_c, ↓reduceIte, Bool.false_eq_true, Int.reduceToNat, lk_c, lk_n, sw_c, sw_n, List.getD_cons_zero, List.getD_cons_succ, fv_0, fv_1, fv_2, fv_r, pf_0, pf_2, Option.toList_some, Option.toList_none, List.cons_append, List.nil_append, stK_n, stK_i, stK_r, true_and, and_true, true_or, or_true, List.length_nil, List.length_cons, Nat.zero_add, Nat.reduceAdd, Nat.reduceLeDiff, bi_0, bi_1, bi_01, em_1, em_2, cmp64_0, cmp64_lt, cmp64_gt, hu_ap, ne_a1, ne_a2, Decidable.not_not, Int.reduceAdd, Int.reduceNeg, Int.toNat_natCast, Int.toNat_zero, Int.toNat_one, List.append_nil, reduceCtorEq, Nat.reduceEqDiff, Nat.reduceBEq, Bool.or_false, Bool.false_or, Bool.true_or, Bool.or_true, some_vI, Int.le_refl, Nat.le_refl, false_or, or_false, Int.reduceLE, Int.reduceLT, Int.reduceEq, Int.zero_le_ofNat, and_self, if_true, if_false, false_and, and_false, not_true_eq_false, not_false_eq_true, false_implies, forall_const, shT ht, shA]
  repeat' first | with_reducible intro _ | (refine call_of (d' := d - 1) (by omega) (s_closedFlights ht hH) ?_) | simp only [c22, rlA, KF_s, KF_0, elN_n, elN_c, ↓reduceIte, Bool.false_eq_true, Int.reduceToNat, lk_c, lk_n, sw_c, sw_n, List.getD_cons_zero, List.getD_cons_succ, fv_0, fv_1, fv_2, fv_r, pf_0, pf_2, Option.toList_some, Option.toList_none, List.cons_append, List.nil_append, stK_n, stK_i, stK_r, true_and, and_true, true_or, or_true, List.length_nil, List.length_cons, Nat.zero_add, Nat.reduceAdd, Nat.reduceLeDiff, bi_0, bi_1, bi_01, em_1, em_2, cmp64_0, cmp64_lt, cmp64_gt, hu_ap, ne_a1, ne_a2, Decidable.not_not, Int.reduceAdd, Int.reduceNeg, Int.toNat_natCast, Int.toNat_zero, Int.toNat_one, List.append_nil, reduceCtorEq, Nat.reduceEqDiff, Nat.reduceBEq, Bool.or_false, Bool.false_or, Bool.true_or, Bool.or_true, some_vI, Int.le_refl, Nat.le_refl, false_or, or_false, Int.reduceLE, Int.reduceLT, Int.reduceEq, Int.zero_le_ofNat, and_self, if_true, if_false, false_and, and_false, not_true_eq_false, not_false_eq_true, false_implies, forall_const, shT ht, shA] | with_reducible apply And.intro
  all_goals first | exact True.intro | omega | (rw [hv]; exact loop1 0 (Nat.zero_le _))
end L2G
