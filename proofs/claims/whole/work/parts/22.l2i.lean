section L2I
variable {G : GD} {l : Launch} {d : Nat} {h : AH}
def readyI (tt pp : Nat) (h : AH) : AH := if h (tt + 7) pp = -9
  then hu (lineL pp pp (hu (hu (hu h 36 pp (rankF (h (tt + 1) pp) (h (tt + 2) pp))) 37 pp (takesF (h (tt + 1) pp) (h (tt + 2) pp))) 38 pp 0)) 34 8 (h 34 8 + 1)
  else lineL pp pp (hu (hu (hu h 36 pp (rankF (h (tt + 1) pp) (h (tt + 2) pp))) 37 pp (takesF (h (tt + 1) pp) (h (tt + 2) pp))) 38 pp 0)
def readyX (h : AH) (tt : Nat) : AH := forN (fun f h => hu h 41 f 0) 9 (forN (readyI tt) (h tt 0).toNat (hu h 34 8 0))
theorem readyI_o {h : AH} {tt pp : Nat} (a c : Nat) (ha : a ≠ 34 ∧ a ≠ 35 ∧ a ≠ 36 ∧ a ≠ 37 ∧ a ≠ 38) : readyI tt pp h a c = h a c := by
  unfold readyI; split
  · simp only [hu_ap]; rw [if_neg (by omega), lineL_o _ _ _ (by omega)]; simp only [hu_ap]; rw [if_neg (by omega), if_neg (by omega), if_neg (by omega)]
  · rw [lineL_o _ _ _ (by omega)]; simp only [hu_ap]; rw [if_neg (by omega), if_neg (by omega), if_neg (by omega)]
theorem readyN_o {tt : Nat} (a c : Nat) (ha : a ≠ 34 ∧ a ≠ 35 ∧ a ≠ 36 ∧ a ≠ 37 ∧ a ≠ 38) (n : Nat) (h : AH) : forN (readyI tt) n h a c = h a c := forN_o (P := fun a => a ≠ 34 ∧ a ≠ 35 ∧ a ≠ 36 ∧ a ≠ 37 ∧ a ≠ 38) (fun n h a b q => readyI_o a b q) n h a c ha
/-- the order so far: numbers below n; how many are on the way -/
theorem readyN_b {tt : Nat} (h : AH) (h0 : h 34 8 = 0) : ∀ n : Nat, (∀ j : Nat, j < n → 0 ≤ forN (readyI tt) n h 35 j ∧ forN (readyI tt) n h 35 j < n) ∧ (0 ≤ forN (readyI tt) n h 34 8 ∧ forN (readyI tt) n h 34 8 ≤ n) ∧ (∀ j : Nat, j < n → 0 ≤ forN (readyI tt) n h 37 j ∧ forN (readyI tt) n h 37 j ≤ 2) ∧ (∀ j : Nat, j < n → forN (readyI tt) n h 38 j = 0)
  | 0 => ⟨fun j hj => by omega, by show 0 ≤ h 34 8 ∧ h 34 8 ≤ 0; omega, fun j hj => by omega, fun j hj => by omega⟩
  | n + 1 => by
    obtain ⟨a1, a2, a3, a4⟩ := readyN_b h h0 n
    have e0 : forN (readyI tt) (n + 1) h = readyI tt n (forN (readyI tt) n h) := rfl
    rw [e0]
    generalize forN (readyI tt) n h = y at a1 a2 a3 a4
    have tk : 0 ≤ takesF (y (tt + 1) n) (y (tt + 2) n) ∧ takesF (y (tt + 1) n) (y (tt + 2) n) ≤ 2 := by unfold takesF; (repeat' split) <;> omega
    have ln := lineL_b n ((n : Int) + 1) (by omega) n (hu (hu (hu y 36 n (rankF (y (tt + 1) n) (y (tt + 2) n))) 37 n (takesF (y (tt + 1) n) (y (tt + 2) n))) 38 n 0) (Nat.le_refl _) (fun j hj hne => by
      simp only [hu_ap]; rw [if_neg (by omega), if_neg (by omega), if_neg (by omega)]; have := a1 j (by omega); omega)
    have lo : ∀ a c, a ≠ 35 → lineL n n (hu (hu (hu y 36 n (rankF (y (tt + 1) n) (y (tt + 2) n))) 37 n (takesF (y (tt + 1) n) (y (tt + 2) n))) 38 n 0) a c = (hu (hu (hu y 36 n (rankF (y (tt + 1) n) (y (tt + 2) n))) 37 n (takesF (y (tt + 1) n) (y (tt + 2) n))) 38 n 0) a c := fun a c q => lineL_o n a c q n _
    unfold readyI
    generalize lineL n n (hu (hu (hu y 36 n (rankF (y (tt + 1) n) (y (tt + 2) n))) 37 n (takesF (y (tt + 1) n) (y (tt + 2) n))) 38 n 0) = x at ln lo
    have lx : ∀ j, x 37 j = if j = n then takesF (y (tt + 1) n) (y (tt + 2) n) else y 37 j := fun j => by rw [lo _ _ (by omega)]; simp [hu]
    have lw : ∀ j, x 38 j = if j = n then 0 else y 38 j := fun j => by rw [lo _ _ (by omega)]; simp [hu]
    have l8 : x 34 8 = y 34 8 := by rw [lo _ _ (by omega)]; simp [hu]
    split
    · refine ⟨fun j hj => ?_, ?_, fun j hj => ?_, fun j hj => ?_⟩
      · simp only [hu_ap]; rw [if_neg (by omega)]; have := ln j (by omega); omega
      · simp [hu]; omega
      · simp only [hu_ap]; rw [if_neg (by omega), lx]; split
        · exact tk
        · exact a3 j (by omega)
      · simp only [hu_ap]; rw [if_neg (by omega), lw]; split
        · rfl
        · exact a4 j (by omega)
    · refine ⟨fun j hj => ?_, ?_, fun j hj => ?_, fun j hj => ?_⟩
      · have := ln j (by omega); omega
      · rw [l8]; omega
      · rw [lx]; split
        · exact tk
        · exact a3 j (by omega)
      · rw [lw]; split
        · rfl
        · exact a4 j (by omega)
/-- a tower that stands as it should, and the stair's two lanes -/
def TG (h : AH) (tt : Nat) : Prop := (0 ≤ h tt 0 ∧ h tt 0 ≤ 8) ∧ (∀ j : Nat, (j : Int) < h tt 0 → (0 ≤ h (tt + 3) j ∧ h (tt + 3) j ≤ 9) ∧ (0 ≤ h (tt + 4) j ∧ h (tt + 4) j ≤ 9)) ∧ h tt 12 ≤ 9 ∧ hatsX h tt ∧ (0 ≤ h tt 13 ∧ h tt 13 ≤ 120) ∧ (∀ j, 0 ≤ h 39 j ∧ h 39 j ≤ 1000) ∧ (∀ j, 0 ≤ h 40 j ∧ h 40 j ≤ 1000)
theorem ready_o {h : AH} {tt : Nat} (a c : Nat) (ha : a ≠ 34 ∧ a ≠ 35 ∧ a ≠ 36 ∧ a ≠ 37 ∧ a ≠ 38 ∧ a ≠ 41) : readyX h tt a c = h a c := by
  unfold readyX
  rw [forN_o (P := fun a => a ≠ 41) (fun n h a b q => by simp only [hu_ap]; rw [if_neg (by omega)]) 9 _ a c (by omega), readyN_o _ _ (by omega)]
  simp only [hu_ap]; rw [if_neg (by omega)]
theorem PI_ready {h : AH} {tt : Nat} (ht : isT tt) (hi : TG h tt) : PI (readyX h tt) tt 8 := by
  have hl := isT_lt ht
  obtain ⟨h1, h2, h3, h4, h5, h6, h7⟩ := hi
  have m : ∀ a c, a ≠ 41 → readyX h tt a c = forN (readyI tt) (h tt 0).toNat (hu h 34 8 0) a c := fun a c q => forN_o (P := fun a => a ≠ 41) (fun n h a b q => by simp only [hu_ap]; rw [if_neg (by omega)]) 9 _ a c q
  obtain ⟨b1, b2, b3, b4⟩ := readyN_b (tt := tt) (hu h 34 8 0) (by simp [hu]) (h tt 0).toNat
  have o1 : ∀ c, readyX h tt tt c = h tt c := fun c => ready_o _ _ (by omega)
  refine ⟨by rw [o1]; exact h1, fun j hj => ?_, fun j hj => ?_, fun j hj => ?_, ?_, ⟨by rw [o1]; exact h4.1, fun j hj => ?_⟩, by rw [o1]; exact h5⟩
  · rw [o1] at hj ⊢; rw [m _ _ (by omega)]; have := b1 j (by omega); omega
  · rw [o1] at hj
    obtain ⟨f1, f2⟩ := h2 j hj
    refine ⟨by rw [ready_o _ _ (by omega)]; exact f1, by rw [ready_o _ _ (by omega)]; exact f2, fun k => by rw [ready_o _ _ (by omega)]; exact h6 k, fun k => by rw [ready_o _ _ (by omega)]; exact h7 k, ?_, by rw [o1]; exact h3⟩
    rw [m _ _ (by omega)]; exact b3 j (by omega)
  · rw [o1] at hj; rw [m _ _ (by omega), b4 j (by omega)]; omega
  · rw [m _ _ (by omega)]; omega
  · rw [o1] at hj; rw [ready_o _ _ (by omega), ready_o _ _ (by omega)]; exact h4.2 j hj
set_option maxHeartbeats 4000000 in
theorem s_ready {tt : Nat} (ht : isT tt) (hc : 0 ≤ h tt 0 ∧ h tt 0 ≤ 8) (hd : 1 ≤ d) : CallR G l d 19 [vR 34, vR tt] h (fun r h' => r = none ∧ h' = readyX h tt) := by
  refine in19 [7, 98] 20 fun hO => ?_
  have hl := isT_lt ht
  have loop2 : ∀ n : Nat, n ≤ 9 → Wp G l 19 d 98 [some (vR 34), some (vR tt), some (vI n)] [] (forN (fun f h => hu h 41 f 0) n (forN (readyI tt) (h tt 0).toNat (hu h 34 8 0))) (fun r h' => r = none ∧ h' = readyX h tt) := by
    refine down _ ?_ ?_
    · refine Wp.go [7, 98] 20 ok_19 ?_
      simp only [c19, rlA, KF_s, KF_0, elN_n, elN_c, ↓reduceIte, Bool.false_eq_true, Int.reduceToNat, lk_c, lk_n, sw_c, sw_n, List.getD_cons_zero, List.getD_cons_succ, fv_0, fv_1, fv_2, fv_r, pf_0, pf_2, Option.toList_some, Option.toList_none, List.cons_append, List.nil_append, stK_n, stK_i, stK_r, true_and, and_true, true_or, or_true, List.length_nil, List.length_cons, Nat.zero_add, Nat.reduceAdd, Nat.reduceLeDiff, bi_0, bi_1, bi_01, em_1, em_2, cmp64_0, cmp64_lt, cmp64_gt, hu_ap, ne_a1, ne_a2, Decidable.not_not, Int.reduceAdd, Int.reduceNeg, Int.toNat_natCast, Int.toNat_zero, Int.toNat_one, List.append_nil, reduceCtorEq, Nat.reduceEqDiff, Nat.reduceBEq, Bool.or_false, Bool.false_or, Bool.true_or, Bool.or_true, some_vI, Int.le_refl, Nat.le_refl, false_or, or_false, Int.reduceLE, Int.reduceLT, Int.reduceEq, Int.zero_le_ofNat, and_self, if_true, if_false, false_and, and_false, not_true_eq_false, not_false_eq_true, false_implies, forall_const, shT ht, shA]
      repeat' first | with_reducible intro _ | with_reducible apply And.intro
      all_goals first | exact True.intro | omega | rfl
    · intro n hn ih
      have ew := w_s n (by omega)
      refine Wp.go [7, 98] 20 ok_19 ?_
      simp only [c19, rlA, KF_s, KF_0, elN_n, elN_c, ↓reduceIte, Bool.false_eq_true, Int.reduceToNat, lk_c, lk_n, sw_c, sw_n, List.getD_cons_zero, List.getD_cons_succ, fv_0, fv_1, fv_2, fv_r, pf_0, pf_2, Option.toList_some, Option.toList_none, List.cons_append, List.nil_append, stK_n, stK_i, stK_r, true_and, and_true, true_or, or_true, List.length_nil, List.length_cons, Nat.zero_add, Nat.reduceAdd, Nat.reduceLeDiff, bi_0, bi_1, bi_01, em_1, em_2, cmp64_0, cmp64_lt, cmp64_gt, hu_ap, ne_a1, ne_a2, Decidable.not_not, Int.reduceAdd, Int.reduceNeg, Int.toNat_natCast, Int.toNat_zero, Int.toNat_one, List.append_nil, reduceCtorEq, Nat.reduceEqDiff, Nat.reduceBEq, Bool.or_false, Bool.false_or, Bool.true_or, Bool.or_true, some_vI, Int.le_refl, Nat.le_refl, false_or, or_false, Int.reduceLE, Int.reduceLT, Int.reduceEq, Int.zero_le_ofNat, and_self, if_true, if_false, false_and, and_false, not_true_eq_false, not_false_eq_true, false_implies, forall_const, shT ht, shA, ew]
      repeat' first | with_reducible intro _ | with_reducible apply And.intro
      all_goals first | exact True.intro | omega | exact ih
  have oN : ∀ n c, forN (readyI tt) n (hu h 34 8 0) tt c = h tt c := fun n c => by rw [readyN_o _ _ (by omega)]; simp only [hu_ap]; rw [if_neg (by omega)]
  have loop1 : ∀ n : Nat, n ≤ (h tt 0).toNat → Wp G l 19 d 7 [some (vR 34), some (vR tt), some (vI n)] [] (forN (readyI tt) n (hu h 34 8 0)) (fun r h' => r = none ∧ h' = readyX h tt) := by
    refine down _ ?_ ?_
    · have e0 := oN (h tt 0).toNat 0
      refine Wp.go [7, 98] 20 ok_19 ?_
      simp only [c19, rlA, KF_s, KF_0, elN_n, elN_c, ↓reduceIte, Bool.false_eq_true, Int.reduceToNat, lk_c, lk_n, sw_c, sw_n, List.getD_cons_zero, List.getD_cons_succ, fv_0, fv_1, fv_2, fv_r, pf_0, pf_2, Option.toList_some, Option.toList_none, List.cons_append, List.nil_append, stK_n, stK_i, stK_r, true_and, and_true, true_or, or_true, List.length_nil, List.length_cons, Nat.zero_add, Nat.reduceAdd, Nat.reduceLeDiff, bi_0, bi_1, bi_01, em_1, em_2, cmp64_0, cmp64_lt, cmp64_gt, hu_ap, ne_a1, ne_a2, Decidable.not_not, Int.reduceAdd, Int.reduceNeg, Int.toNat_natCast, Int.toNat_zero, Int.toNat_one, List.append_nil, reduceCtorEq, Nat.reduceEqDiff, Nat.reduceBEq, Bool.or_false, Bool.false_or, Bool.true_or, Bool.or_true, some_vI, Int.le_refl, Nat.le_refl, false_or, or_false, Int.reduceLE, Int.reduceLT, Int.reduceEq, Int.zero_le_ofNat, and_self, if_true, if_false, false_and, and_false, not_true_eq_false, not_false_eq_true, false_implies, forall_const, shT ht, shA, e0]
      repeat' first | with_reducible intro _ | with_reducible apply And.intro
      all_goals first | exact True.intro | omega | exact loop2 0 (Nat.zero_le _)
    · intro n hn ih
      have e0 := oN n 0
      have ew := w_s n (by omega)
      obtain ⟨b1, b2, -, -⟩ := readyN_b (tt := tt) (hu h 34 8 0) (by simp [hu]) n
      have es : forN (readyI tt) (n + 1) (hu h 34 8 0) = readyI tt n (forN (readyI tt) n (hu h 34 8 0)) := rfl
      rw [es] at ih
      generalize forN (readyI tt) n (hu h 34 8 0) = y at ih b1 b2 e0 ⊢
      have l7 : lineL n n (hu (hu (hu y 36 n (rankF (y (tt + 1) n) (y (tt + 2) n))) 37 n (takesF (y (tt + 1) n) (y (tt + 2) n))) 38 n 0) (tt + 7) n = y (tt + 7) n := by
        rw [lineL_o _ _ _ (by omega)]; simp only [hu_ap]; rw [if_neg (by omega), if_neg (by omega), if_neg (by omega)]
      have l8 : lineL n n (hu (hu (hu y 36 n (rankF (y (tt + 1) n) (y (tt + 2) n))) 37 n (takesF (y (tt + 1) n) (y (tt + 2) n))) 38 n 0) 34 8 = y 34 8 := by
        rw [lineL_o _ _ _ (by omega)]; simp only [hu_ap]; rw [if_neg (by omega), if_neg (by omega), if_neg (by omega)]
      have e8 : w32 (y 34 8 + 1) = y 34 8 + 1 := w32_id (by omega) (by omega)
      have n1 : (tt + 1 = 36) = False := by simp; omega
      have n2 : (tt + 2 = 36) = False := by simp; omega
      have n3 : (tt + 1 = 37) = False := by simp; omega
      have n4 : (tt + 2 = 37) = False := by simp; omega
      unfold readyI at ih
      refine Wp.go [7, 98] 20 ok_19 ?_
      simp only [c19, rlA, KF_s, KF_0, elN_n, elN_c, ↓reduceIte, Bool.false_eq_true, Int.reduceToNat, lk_c, lk_n, sw_c, sw_n, List.getD_cons_zero, List.getD_cons_succ, fv_0, fv_1, fv_2, fv_r, pf_0, pf_2, Option.toList_some, Option.toList_none, List.cons_append, List.nil_append, stK_n, stK_i, stK_r, true_and, and_true, true_or, or_true, List.length_nil, List.length_cons, Nat.zero_add, Nat.reduceAdd, Nat.reduceLeDiff, bi_0, bi_1, bi_01, em_1, em_2, cmp64_0, cmp64_lt, cmp64_gt, hu_ap, ne_a1, ne_a2, Decidable.not_not, Int.reduceAdd, Int.reduceNeg, Int.toNat_natCast, Int.toNat_zero, Int.toNat_one, List.append_nil, reduceCtorEq, Nat.reduceEqDiff, Nat.reduceBEq, Bool.or_false, Bool.false_or, Bool.true_or, Bool.or_true, some_vI, Int.le_refl, Nat.le_refl, false_or, or_false, Int.reduceLE, Int.reduceLT, Int.reduceEq, Int.zero_le_ofNat, and_self, if_true, if_false, false_and, and_false, not_true_eq_false, not_false_eq_true, false_implies, forall_const, shT ht, shA, ew, e0, l7, l8, e8, n1, n2, n3, n4]
      repeat' first | with_reducible intro _ | (refine call_of (d' := d - 1) (by omega) s_rank ?_) | (refine call_of (d' := d - 1) (by omega) s_takes ?_) | (refine call_of (d' := d - 1) (by omega) (s_lineUp (by omega) (fun j hj => by simp only [hu_ap]; rw [if_neg (by omega), if_neg (by omega), if_neg (by omega)]; have := b1 j hj; omega)) ?_) | simp only [c19, rlA, KF_s, KF_0, elN_n, elN_c, ↓reduceIte, Bool.false_eq_true, Int.reduceToNat, lk_c, lk_n, sw_c, sw_n, List.getD_cons_zero, List.getD_cons_succ, fv_0, fv_1, fv_2, fv_r, pf_0, pf_2, Option.toList_some, Option.toList_none, List.cons_append, List.nil_append, stK_n, stK_i, stK_r, true_and, and_true, true_or, or_true, List.length_nil, List.length_cons, Nat.zero_add, Nat.reduceAdd, Nat.reduceLeDiff, bi_0, bi_1, bi_01, em_1, em_2, cmp64_0, cmp64_lt, cmp64_gt, hu_ap, ne_a1, ne_a2, Decidable.not_not, Int.reduceAdd, Int.reduceNeg, Int.toNat_natCast, Int.toNat_zero, Int.toNat_one, List.append_nil, reduceCtorEq, Nat.reduceEqDiff, Nat.reduceBEq, Bool.or_false, Bool.false_or, Bool.true_or, Bool.or_true, some_vI, Int.le_refl, Nat.le_refl, false_or, or_false, Int.reduceLE, Int.reduceLT, Int.reduceEq, Int.zero_le_ofNat, and_self, if_true, if_false, false_and, and_false, not_true_eq_false, not_false_eq_true, false_implies, forall_const, shT ht, shA, ew, e0, l7, l8, e8, n1, n2, n3, n4] | with_reducible apply And.intro
      all_goals first | exact True.intro | omega | (rw [if_pos (by assumption)] at ih; exact ih) | (rw [if_neg (by assumption)] at ih; exact ih)
  simp only [c19, rlA, KF_s, KF_0, elN_n, elN_c, ↓reduceIte, Bool.false_eq_true, Int.reduceToNat, lk_c, lk_n, sw_c, sw_n, List.getD_cons_zero, List.getD_cons_succ, fv_0, fv_1, fv_2, fv_r, pf_0, pf_2, Option.toList_some, Option.toList_none, List.cons_append, List.nil_append, stK_n, stK_i, stK_r, true_and, and_true, true_or, or_true, List.length_nil, List.length_cons, Nat.zero_add, Nat.reduceAdd, Nat.reduceLeDiff, bi_0, bi_1, bi_01, em_1, em_2, cmp64_0, cmp64_lt, cmp64_gt, hu_ap, ne_a1, ne_a2, Decidable.not_not, Int.reduceAdd, Int.reduceNeg, Int.toNat_natCast, Int.toNat_zero, Int.toNat_one, List.append_nil, reduceCtorEq, Nat.reduceEqDiff, Nat.reduceBEq, Bool.or_false, Bool.false_or, Bool.true_or, Bool.or_true, some_vI, Int.le_refl, Nat.le_refl, false_or, or_false, Int.reduceLE, Int.reduceLT, Int.reduceEq, Int.zero_le_ofNat, and_self, if_true, if_false, false_and, and_false, not_true_eq_false, not_false_eq_true, false_implies, forall_const, shT ht, shA]
  exact loop1 0 (Nat.zero_le _)
def tryL (tt : Nat) : Nat → AH → AH
  | 0, h => h
  | k + 1, h => if 0 < h 34 8 then tryL tt k (passX h tt) else h
def tryX (h : AH) (tt : Nat) (ee : Int) : AH := tryL tt (ee - h tt 13).toNat (readyX h tt)
set_option maxHeartbeats 4000000 in
theorem s_tryLoop {tt : Nat} {ee : Int} {Q : Option AV → AH → Prop} (ht : isT tt) (he : ee ≤ 120) (hd : 4 ≤ d) : ∀ (kk : Nat) (hh : AH) (ww : Int), kk = (ee - hh tt 13).toNat → ww + 8 * kk ≤ 90000 → PI hh tt ww → Q none (tryL tt kk hh) → Wp G l 21 d 10 [some (vR 34), some (vR tt), some (vI ee), some (vI (hh tt 13))] [] hh Q := by
  intro kk
  induction kk with
  | zero =>
    intro hh ww hk _ _ hQ
    refine Wp.go [10] 20 ok_21 ?_
    simp only [c21, rlA, KF_s, KF_0, elN_n, elN_c, ↓reduceIte, Bool.false_eq_true, Int.reduceToNat, lk_c, lk_n, sw_c, sw_n, List.getD_cons_zero, List.getD_cons_succ, fv_0, fv_1, fv_2, fv_r, pf_0, pf_2, Option.toList_some, Option.toList_none, List.cons_append, List.nil_append, stK_n, stK_i, stK_r, true_and, and_true, true_or, or_true, List.length_nil, List.length_cons, Nat.zero_add, Nat.reduceAdd, Nat.reduceLeDiff, bi_0, bi_1, bi_01, em_1, em_2, cmp64_0, cmp64_lt, cmp64_gt, hu_ap, ne_a1, ne_a2, Decidable.not_not, Int.reduceAdd, Int.reduceNeg, Int.toNat_natCast, Int.toNat_zero, Int.toNat_one, List.append_nil, reduceCtorEq, Nat.reduceEqDiff, Nat.reduceBEq, Bool.or_false, Bool.false_or, Bool.true_or, Bool.or_true, some_vI, Int.le_refl, Nat.le_refl, false_or, or_false, Int.reduceLE, Int.reduceLT, Int.reduceEq, Int.zero_le_ofNat, and_self, if_true, if_false, false_and, and_false, not_true_eq_false, not_false_eq_true, false_implies, forall_const, shT ht, shA]
    repeat' first | with_reducible intro _ | with_reducible apply And.intro
    all_goals first | exact True.intro | omega | exact hQ
  | succ kk ih =>
    intro hh ww hk hw hi hQ
    have hm := hi.2.2.2.2.2.2
    have em : w32 (hh tt 13 + 1) = hh tt 13 + 1 := w32_id (by omega) (by omega)
    have pm := passX_m (h := hh) (tt := tt)
    have nx := ih (passX hh tt) (ww + 8) (by rw [pm]; omega) (by omega) (PI_passX ht hi (by omega))
    unfold tryL at hQ
    refine Wp.go [10] 20 ok_21 ?_
    simp only [c21, rlA, KF_s, KF_0, elN_n, elN_c, ↓reduceIte, Bool.false_eq_true, Int.reduceToNat, lk_c, lk_n, sw_c, sw_n, List.getD_cons_zero, List.getD_cons_succ, fv_0, fv_1, fv_2, fv_r, pf_0, pf_2, Option.toList_some, Option.toList_none, List.cons_append, List.nil_append, stK_n, stK_i, stK_r, true_and, and_true, true_or, or_true, List.length_nil, List.length_cons, Nat.zero_add, Nat.reduceAdd, Nat.reduceLeDiff, bi_0, bi_1, bi_01, em_1, em_2, cmp64_0, cmp64_lt, cmp64_gt, hu_ap, ne_a1, ne_a2, Decidable.not_not, Int.reduceAdd, Int.reduceNeg, Int.toNat_natCast, Int.toNat_zero, Int.toNat_one, List.append_nil, reduceCtorEq, Nat.reduceEqDiff, Nat.reduceBEq, Bool.or_false, Bool.false_or, Bool.true_or, Bool.or_true, some_vI, Int.le_refl, Nat.le_refl, false_or, or_false, Int.reduceLE, Int.reduceLT, Int.reduceEq, Int.zero_le_ofNat, and_self, if_true, if_false, false_and, and_false, not_true_eq_false, not_false_eq_true, false_implies, forall_const, shT ht, shA, em]
    repeat' first | with_reducible intro _ | (refine call_of (d' := d - 1) (by omega) (s_pass ht hi (by omega) (by omega)) ?_) | simp only [c21, rlA, KF_s, KF_0, elN_n, elN_c, ↓reduceIte, Bool.false_eq_true, Int.reduceToNat, lk_c, lk_n, sw_c, sw_n, List.getD_cons_zero, List.getD_cons_succ, fv_0, fv_1, fv_2, fv_r, pf_0, pf_2, Option.toList_some, Option.toList_none, List.cons_append, List.nil_append, stK_n, stK_i, stK_r, true_and, and_true, true_or, or_true, List.length_nil, List.length_cons, Nat.zero_add, Nat.reduceAdd, Nat.reduceLeDiff, bi_0, bi_1, bi_01, em_1, em_2, cmp64_0, cmp64_lt, cmp64_gt, hu_ap, ne_a1, ne_a2, Decidable.not_not, Int.reduceAdd, Int.reduceNeg, Int.toNat_natCast, Int.toNat_zero, Int.toNat_one, List.append_nil, reduceCtorEq, Nat.reduceEqDiff, Nat.reduceBEq, Bool.or_false, Bool.false_or, Bool.true_or, Bool.or_true, some_vI, Int.le_refl, Nat.le_refl, false_or, or_false, Int.reduceLE, Int.reduceLT, Int.reduceEq, Int.zero_le_ofNat, and_self, if_true, if_false, false_and, and_false, not_true_eq_false, not_false_eq_true, false_implies, forall_const, shT ht, shA, em] | with_reducible apply And.intro
    all_goals first | exact True.intro | omega | (rw [if_neg (by assumption)] at hQ; exact hQ) | (rw [if_pos (by assumption)] at hQ; rw [pm] at nx; exact nx hQ)
theorem s_tryUntil {tt : Nat} {ee : Int} (ht : isT tt) (hi : TG h tt) (he : ee ≤ 120) (hd : 4 ≤ d) : CallR G l d 21 [vR 34, vR tt, vI ee] h (fun r h' => r = none ∧ h' = tryX h tt ee) := by
  refine in21 [10] 20 fun _ hO => ?_
  have hl := isT_lt ht
  have o1 : readyX h tt tt 13 = h tt 13 := ready_o _ _ (by omega)
  have hm := hi.2.2.2.2.1
  have lp := s_tryLoop (G := G) (l := l) (ee := ee) (Q := fun r h' => r = none ∧ h' = tryX h tt ee) ht he hd (ee - h tt 13).toNat (readyX h tt) 8 (by rw [o1]) (by omega) (PI_ready ht hi) ⟨rfl, rfl⟩
  rw [o1] at lp
  simp only [c21, rlA, KF_s, KF_0, elN_n, elN_c, ↓reduceIte, Bool.false_eq_true, Int.reduceToNat, lk_c, lk_n, sw_c, sw_n, List.getD_cons_zero, List.getD_cons_succ, fv_0, fv_1, fv_2, fv_r, pf_0, pf_2, Option.toList_some, Option.toList_none, List.cons_append, List.nil_append, stK_n, stK_i, stK_r, true_and, and_true, true_or, or_true, List.length_nil, List.length_cons, Nat.zero_add, Nat.reduceAdd, Nat.reduceLeDiff, bi_0, bi_1, bi_01, em_1, em_2, cmp64_0, cmp64_lt, cmp64_gt, hu_ap, ne_a1, ne_a2, Decidable.not_not, Int.reduceAdd, Int.reduceNeg, Int.toNat_natCast, Int.toNat_zero, Int.toNat_one, List.append_nil, reduceCtorEq, Nat.reduceEqDiff, Nat.reduceBEq, Bool.or_false, Bool.false_or, Bool.true_or, Bool.or_true, some_vI, Int.le_refl, Nat.le_refl, false_or, or_false, Int.reduceLE, Int.reduceLT, Int.reduceEq, Int.zero_le_ofNat, and_self, if_true, if_false, false_and, and_false, not_true_eq_false, not_false_eq_true, false_implies, forall_const, shT ht, shA, o1]
  repeat' first | with_reducible intro _ | (refine call_of (d' := d - 1) (by omega) (s_ready ht hi.1 (by omega)) ?_) | simp only [c21, rlA, KF_s, KF_0, elN_n, elN_c, ↓reduceIte, Bool.false_eq_true, Int.reduceToNat, lk_c, lk_n, sw_c, sw_n, List.getD_cons_zero, List.getD_cons_succ, fv_0, fv_1, fv_2, fv_r, pf_0, pf_2, Option.toList_some, Option.toList_none, List.cons_append, List.nil_append, stK_n, stK_i, stK_r, true_and, and_true, true_or, or_true, List.length_nil, List.length_cons, Nat.zero_add, Nat.reduceAdd, Nat.reduceLeDiff, bi_0, bi_1, bi_01, em_1, em_2, cmp64_0, cmp64_lt, cmp64_gt, hu_ap, ne_a1, ne_a2, Decidable.not_not, Int.reduceAdd, Int.reduceNeg, Int.toNat_natCast, Int.toNat_zero, Int.toNat_one, List.append_nil, reduceCtorEq, Nat.reduceEqDiff, Nat.reduceBEq, Bool.or_false, Bool.false_or, Bool.true_or, Bool.or_true, some_vI, Int.le_refl, Nat.le_refl, false_or, or_false, Int.reduceLE, Int.reduceLT, Int.reduceEq, Int.zero_le_ofNat, and_self, if_true, if_false, false_and, and_false, not_true_eq_false, not_false_eq_true, false_implies, forall_const, shT ht, shA, o1] | with_reducible apply And.intro
  all_goals first | exact True.intro | omega | exact lp
end L2I
