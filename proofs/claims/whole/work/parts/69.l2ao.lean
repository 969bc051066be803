section L2AO
variable {G : GD} {l : Launch} {d : Nat} {h : AH}
def clr (h : AH) : AH := hu (hu (hu (hu h 12 0 0) 12 8 0) 12 12 2) 12 13 0
theorem clr_o (h : AH) (a c : Nat) (q : a ≠ 12) : clr h a c = h a c := by unfold clr; rw [hu_o (by omega), hu_o (by omega), hu_o (by omega), hu_o (by omega)]
theorem TW_clr {ln : Nat} (h1 : h 42 1 = (ln : Int)) : TW (clr h) (h 43) ln := by
  refine ⟨by rw [clr_o _ _ _ (by omega)]; exact h1, by funext c; exact clr_o _ _ _ (by omega), ?_, ?_⟩
  · unfold clr; simp [hu]
  · unfold clr; simp [hu]
theorem clr_TX {t0 : Nat} (h3 : h 42 3 = (t0 : Int)) : hu (hu (clr h) 42 2 0) 42 4 (-1) = TXs (clr h) (0, t0, -1) := by
  have e : clr h 42 3 = (t0 : Int) := by rw [clr_o _ _ _ (by omega)]; exact h3
  unfold TXs TX
  show hu (hu (clr h) 42 2 0) 42 4 (-1) = hu (hu (hu (clr h) 42 2 ((0 : Nat) : Int)) 42 3 (t0 : Int)) 42 4 (-1)
  rw [← e]
  funext a c; simp only [hu_ap]; (repeat' split) <;> first | rfl | omega | (next q1 q2 q3 => rw [q3.1, q3.2]) | (simp_all)
theorem TW_rdL {bb : Nat → Int} {ln : Nat} : ∀ (k : Nat) (x : AH) (st : TS), TW x bb ln → st.1 ≤ ln → TW (rdL bb ln k x st).1 bb ln ∧ (rdL bb ln k x st).2.1 ≤ ln
  | 0, _, _, q, ho => ⟨q, ho⟩
  | k + 1, x, st, q, ho => by
    unfold rdL
    split
    · split
      · obtain ⟨e1, e2⟩ := TW_ent (st := skipP bb ln st) q (skipP_le ho)
        exact TW_rdL k _ _ e1 e2
      · exact ⟨q, skipP_le ho⟩
    · exact ⟨q, ho⟩
set_option maxHeartbeats 800000 in
theorem s_readInto {ln t0 : Nat} (hS : StrOK G l) (h1 : h 42 1 = (ln : Int)) (hln : ln ≤ 240) (h3 : h 42 3 = (t0 : Int)) (hd : 8 ≤ d) : CallR G l d 28 [vR 42, vR 12] h (fun r h' => r = some (vI (rdL (h 43) ln 240 (clr h) (0, t0, -1)).2.2.2) ∧ h' = TXs (rdL (h 43) ln 240 (clr h) (0, t0, -1)).1 (rdL (h 43) ln 240 (clr h) (0, t0, -1)).2) := by
  refine in28 [16] 40 fun hO => ?_
  have eT := clr_TX h3
  unfold clr at eT
  have lp := s_readLoop (G := G) (l := l) (d := d) (Q := fun r h' => r = some (vI (rdL (h 43) ln 240 (clr h) (0, t0, -1)).2.2.2) ∧ h' = TXs (rdL (h 43) ln 240 (clr h) (0, t0, -1)).1 (rdL (h 43) ln 240 (clr h) (0, t0, -1)).2) hS hln hd 240 (clr h) (0, t0, -1) (Nat.le_refl _) (TW_clr h1) (Nat.zero_le _) ⟨rfl, rfl⟩
  rw [← clr_TX h3] at lp
  unfold clr at lp
  simp only [c28, rlA, KF_s, KF_0, elN_n, elN_c, ↓reduceIte, Bool.false_eq_true, Int.reduceToNat, lk_c, lk_n, sw_c, sw_n, List.getD_cons_zero, List.getD_cons_succ, fv_0, fv_1, fv_2, fv_r, pf_0, pf_2, Option.toList_some, Option.toList_none, List.cons_append, List.nil_append, stK_n, stK_i, stK_r, true_and, and_true, true_or, or_true, List.length_nil, List.length_cons, Nat.zero_add, Nat.reduceAdd, Nat.reduceLeDiff, bi_0, bi_1, bi_01, em_1, em_2, cmp64_0, cmp64_lt, cmp64_gt, hu_ap, ne_a1, ne_a2, Decidable.not_not, Int.reduceAdd, Int.reduceNeg, Int.toNat_natCast, Int.toNat_zero, Int.toNat_one, List.append_nil, reduceCtorEq, Nat.reduceEqDiff, Nat.reduceBEq, Bool.or_false, Bool.false_or, Bool.true_or, Bool.or_true, some_vI, Int.le_refl, Nat.le_refl, false_or, or_false, Int.reduceLE, Int.reduceLT, Int.reduceEq, Int.zero_le_ofNat, and_self, if_true, if_false, false_and, and_false, not_true_eq_false, not_false_eq_true, false_implies, forall_const, shA]
  repeat' first | with_reducible intro _ | (refine call_of (d' := d - 1) (by omega) (s_clear isT12) ?_) | simp only [c28, rlA, KF_s, KF_0, elN_n, elN_c, ↓reduceIte, Bool.false_eq_true, Int.reduceToNat, lk_c, lk_n, sw_c, sw_n, List.getD_cons_zero, List.getD_cons_succ, fv_0, fv_1, fv_2, fv_r, pf_0, pf_2, Option.toList_some, Option.toList_none, List.cons_append, List.nil_append, stK_n, stK_i, stK_r, true_and, and_true, true_or, or_true, List.length_nil, List.length_cons, Nat.zero_add, Nat.reduceAdd, Nat.reduceLeDiff, bi_0, bi_1, bi_01, em_1, em_2, cmp64_0, cmp64_lt, cmp64_gt, hu_ap, ne_a1, ne_a2, Decidable.not_not, Int.reduceAdd, Int.reduceNeg, Int.toNat_natCast, Int.toNat_zero, Int.toNat_one, List.append_nil, reduceCtorEq, Nat.reduceEqDiff, Nat.reduceBEq, Bool.or_false, Bool.false_or, Bool.true_or, Bool.or_true, some_vI, Int.le_refl, Nat.le_refl, false_or, or_false, Int.reduceLE, Int.reduceLT, Int.reduceEq, Int.zero_le_ofNat, and_self, if_true, if_false, false_and, and_false, not_true_eq_false, not_false_eq_true, false_implies, forall_const, shA] | with_reducible apply And.intro
  all_goals first | exact True.intro | omega | exact lp
def rdR (h : AH) (ln t0 : Nat) : AH × TS := rdL (h 43) ln 240 (clr h) (0, t0, -1)
theorem s_readInto2 {ln t0 : Nat} (hS : StrOK G l) (h1 : h 42 1 = (ln : Int)) (hln : ln ≤ 240) (h3 : h 42 3 = (t0 : Int)) (hd : 8 ≤ d) : CallR G l d 28 [vR 42, vR 12] h (fun r h' => r = some (vI (rdR h ln t0).2.2.2) ∧ h' = TXs (rdR h ln t0).1 (rdR h ln t0).2) := s_readInto hS h1 hln h3 hd
set_option maxHeartbeats 800000 in
theorem s_towerN {ln t0 : Nat} (hS : StrOK G l) (h1 : h 42 1 = (ln : Int)) (hln : ln ≤ 240) (h3 : h 42 3 = (t0 : Int)) (hf : ¬ (rdR h ln t0).2.2.2 = -1) (hd : 9 ≤ d) : CallR G l d 55 [vR 0] h (fun r h' => r = some (vI (w32 (-100 - (rdR h ln t0).2.2.2))) ∧ h' = hu (TXs (rdR h ln t0).1 (rdR h ln t0).2) 42 1 0) := by
  refine in55 [] 40 fun hO => ?_
  simp only [c55, rlA, KF_s, KF_0, elN_n, elN_c, ↓reduceIte, Bool.false_eq_true, Int.reduceToNat, lk_c, lk_n, sw_c, sw_n, List.getD_cons_zero, List.getD_cons_succ, fv_0, fv_1, fv_2, fv_r, pf_0, pf_2, Option.toList_some, Option.toList_none, List.cons_append, List.nil_append, stK_n, stK_i, stK_r, true_and, and_true, true_or, or_true, List.length_nil, List.length_cons, Nat.zero_add, Nat.reduceAdd, Nat.reduceLeDiff, bi_0, bi_1, bi_01, em_1, em_2, cmp64_0, cmp64_lt, cmp64_gt, hu_ap, ne_a1, ne_a2, Decidable.not_not, Int.reduceAdd, Int.reduceNeg, Int.toNat_natCast, Int.toNat_zero, Int.toNat_one, List.append_nil, reduceCtorEq, Nat.reduceEqDiff, Nat.reduceBEq, Bool.or_false, Bool.false_or, Bool.true_or, Bool.or_true, some_vI, Int.le_refl, Nat.le_refl, false_or, or_false, Int.reduceLE, Int.reduceLT, Int.reduceEq, Int.zero_le_ofNat, and_self, if_true, if_false, false_and, and_false, not_true_eq_false, not_false_eq_true, false_implies, forall_const, shA, TXs_2, TXs_f, hf]
  repeat' first | with_reducible intro _ | (refine call_of (d' := d - 1) (by omega) (s_readInto2 hS h1 hln h3 (by omega)) ?_) | (refine call_of (d' := d - 1) (by omega) (s_useUp) ?_) | simp only [c55, rlA, KF_s, KF_0, elN_n, elN_c, ↓reduceIte, Bool.false_eq_true, Int.reduceToNat, lk_c, lk_n, sw_c, sw_n, List.getD_cons_zero, List.getD_cons_succ, fv_0, fv_1, fv_2, fv_r, pf_0, pf_2, Option.toList_some, Option.toList_none, List.cons_append, List.nil_append, stK_n, stK_i, stK_r, true_and, and_true, true_or, or_true, List.length_nil, List.length_cons, Nat.zero_add, Nat.reduceAdd, Nat.reduceLeDiff, bi_0, bi_1, bi_01, em_1, em_2, cmp64_0, cmp64_lt, cmp64_gt, hu_ap, ne_a1, ne_a2, Decidable.not_not, Int.reduceAdd, Int.reduceNeg, Int.toNat_natCast, Int.toNat_zero, Int.toNat_one, List.append_nil, reduceCtorEq, Nat.reduceEqDiff, Nat.reduceBEq, Bool.or_false, Bool.false_or, Bool.true_or, Bool.or_true, some_vI, Int.le_refl, Nat.le_refl, false_or, or_false, Int.reduceLE, Int.reduceLT, Int.reduceEq, Int.zero_le_ofNat, and_self, if_true, if_false, false_and, and_false, not_true_eq_false, not_false_eq_true, false_implies, forall_const, shA, TXs_2, TXs_f, hf] | with_reducible apply And.intro
  all_goals first | exact True.intro | omega
set_option maxHeartbeats 800000 in
theorem s_towerY {ln t0 : Nat} (hS : StrOK G l) (h1 : h 42 1 = (ln : Int)) (hln : ln ≤ 240) (h3 : h 42 3 = (t0 : Int)) (hf : (rdR h ln t0).2.2.2 = -1) (hd : 9 ≤ d) : CallR G l d 55 [vR 0] h (fun r h' => r = some (vI ((rdR h ln t0).1 12 0)) ∧ h' = hu (becomeX (hu (hu (TXs (rdR h ln t0).1 (rdR h ln t0).2) 42 1 0) 12 14 ((rdR h ln t0).1 1 14)) 1 12) 0 8 0) := by
  refine in55 [] 40 fun hO => ?_
  have tw := (TW_rdL (bb := h 43) (ln := ln) 240 (clr h) (0, t0, -1) (TW_clr h1) (Nat.zero_le _)).1
  have tw0 : TW (rdR h ln t0).1 (h 43) ln := tw
  have z14 : TXs (rdR h ln t0).1 (rdR h ln t0).2 1 14 = (rdR h ln t0).1 1 14 := TXs_o _ _ _ _ (by omega)
  have y : ∀ c, c ≠ 14 → hu (hu (TXs (rdR h ln t0).1 (rdR h ln t0).2) 42 1 0) 12 14 ((rdR h ln t0).1 1 14) 12 c = (rdR h ln t0).1 12 c := fun c hc => by rw [hu_o (by omega), hu_o (by omega), TXs_o _ _ _ _ (by omega)]
  have b0 : becomeX (hu (hu (TXs (rdR h ln t0).1 (rdR h ln t0).2) 42 1 0) 12 14 ((rdR h ln t0).1 1 14)) 1 12 1 0 = (rdR h ln t0).1 12 0 := by rw [bec_s 0 (by omega)]; exact y 0 (by omega)
  simp only [c55, rlA, KF_s, KF_0, elN_n, elN_c, ↓reduceIte, Bool.false_eq_true, Int.reduceToNat, lk_c, lk_n, sw_c, sw_n, List.getD_cons_zero, List.getD_cons_succ, fv_0, fv_1, fv_2, fv_r, pf_0, pf_2, Option.toList_some, Option.toList_none, List.cons_append, List.nil_append, stK_n, stK_i, stK_r, true_and, and_true, true_or, or_true, List.length_nil, List.length_cons, Nat.zero_add, Nat.reduceAdd, Nat.reduceLeDiff, bi_0, bi_1, bi_01, em_1, em_2, cmp64_0, cmp64_lt, cmp64_gt, hu_ap, ne_a1, ne_a2, Decidable.not_not, Int.reduceAdd, Int.reduceNeg, Int.toNat_natCast, Int.toNat_zero, Int.toNat_one, List.append_nil, reduceCtorEq, Nat.reduceEqDiff, Nat.reduceBEq, Bool.or_false, Bool.false_or, Bool.true_or, Bool.or_true, some_vI, Int.le_refl, Nat.le_refl, false_or, or_false, Int.reduceLE, Int.reduceLT, Int.reduceEq, Int.zero_le_ofNat, and_self, if_true, if_false, false_and, and_false, not_true_eq_false, not_false_eq_true, false_implies, forall_const, shA, TXs_2, TXs_f, hf, z14, b0]
  repeat' first | with_reducible intro _ | (refine call_of (d' := d - 1) (by omega) (s_readInto2 hS h1 hln h3 (by omega)) ?_) | (refine call_of (d' := d - 1) (by omega) (s_useUp) ?_) | (refine call_of (d' := d - 1) (by omega) (s_become isT1 isT12 (by omega) (by rw [y 0 (by omega)]; exact tw0.2.2.1) (by rw [y 8 (by omega)]; exact tw0.2.2.2)) ?_) | simp only [c55, rlA, KF_s, KF_0, elN_n, elN_c, ↓reduceIte, Bool.false_eq_true, Int.reduceToNat, lk_c, lk_n, sw_c, sw_n, List.getD_cons_zero, List.getD_cons_succ, fv_0, fv_1, fv_2, fv_r, pf_0, pf_2, Option.toList_some, Option.toList_none, List.cons_append, List.nil_append, stK_n, stK_i, stK_r, true_and, and_true, true_or, or_true, List.length_nil, List.length_cons, Nat.zero_add, Nat.reduceAdd, Nat.reduceLeDiff, bi_0, bi_1, bi_01, em_1, em_2, cmp64_0, cmp64_lt, cmp64_gt, hu_ap, ne_a1, ne_a2, Decidable.not_not, Int.reduceAdd, Int.reduceNeg, Int.toNat_natCast, Int.toNat_zero, Int.toNat_one, List.append_nil, reduceCtorEq, Nat.reduceEqDiff, Nat.reduceBEq, Bool.or_false, Bool.false_or, Bool.true_or, Bool.or_true, some_vI, Int.le_refl, Nat.le_refl, false_or, or_false, Int.reduceLE, Int.reduceLT, Int.reduceEq, Int.zero_le_ofNat, and_self, if_true, if_false, false_and, and_false, not_true_eq_false, not_false_eq_true, false_implies, forall_const, shA, TXs_2, TXs_f, hf, z14, b0] | with_reducible apply And.intro
  all_goals first | exact True.intro | omega
end L2AO
