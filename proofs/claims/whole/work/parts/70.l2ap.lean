section L2AP
variable {G : GD} {l : Launch} {d : Nat} {h : AH}
/-- the model's token: sort, begins, ends, word, value -/
abbrev MS : Type := Int × Nat × Nat × Int × Int
def MT (h : AH) (st : MS) : AH := hu (hu (hu (hu (hu h 82 13 st.1) 82 14 (st.2.1 : Int)) 82 15 (st.2.2.1 : Int)) 82 16 st.2.2.2.1) 82 17 st.2.2.2.2
theorem MT_r (h : AH) (st : MS) : MT h st 82 13 = st.1 ∧ MT h st 82 14 = (st.2.1 : Int) ∧ MT h st 82 15 = (st.2.2.1 : Int) ∧ MT h st 82 16 = st.2.2.2.1 ∧ MT h st 82 17 = st.2.2.2.2 ∧ MT h st 82 12 = h 82 12 ∧ MT h st 82 18 = h 82 18 := by unfold MT; simp [hu]
theorem MT_o (h : AH) (st : MS) (a c : Nat) (q : a ≠ 82 ∨ (c < 13 ∨ 17 < c)) : MT h st a c = h a c := by unfold MT; rw [hu_o (by omega), hu_o (by omega), hu_o (by omega), hu_o (by omega), hu_o (by omega)]
theorem MT_t (h : AH) (st : MS) (c : Nat) : MT h st 89 c = h 89 c := MT_o _ _ _ _ (by omega)
theorem MT_w0 (h : AH) (a : Int) (b c : Nat) (d e v : Int) : hu (MT h (a, b, c, d, e)) 82 13 v = MT h (v, b, c, d, e) := by
  unfold MT; funext i j; simp only [hu_ap]; (repeat' split) <;> first | rfl | omega
theorem MT_w1 (h : AH) (a : Int) (b c : Nat) (d e : Int) (v : Nat) : hu (MT h (a, b, c, d, e)) 82 14 (v : Int) = MT h (a, v, c, d, e) := by
  unfold MT; funext i j; simp only [hu_ap]; (repeat' split) <;> first | rfl | omega
theorem MT_w2 (h : AH) (a : Int) (b c : Nat) (d e : Int) (v : Nat) : hu (MT h (a, b, c, d, e)) 82 15 (v : Int) = MT h (a, b, v, d, e) := by
  unfold MT; funext i j; simp only [hu_ap]; (repeat' split) <;> first | rfl | omega
theorem MT_w3 (h : AH) (a : Int) (b c : Nat) (d e v : Int) : hu (MT h (a, b, c, d, e)) 82 16 v = MT h (a, b, c, v, e) := by
  unfold MT; funext i j; simp only [hu_ap]; (repeat' split) <;> first | rfl | omega
theorem MT_w4 (h : AH) (a : Int) (b c : Nat) (d e v : Int) : hu (MT h (a, b, c, d, e)) 82 17 v = MT h (a, b, c, d, v) := by
  unfold MT; funext i j; simp only [hu_ap]; (repeat' split) <;> first | rfl | omega
def btA (T : Nat → Int) (tm s : Nat) : Int := if s < tm then T s else -1
def wdF (T : Nat → Int) (s : Nat) : Nat → Int
  | 0 => 0
  | k + 1 => if k < 8 then w64 (w64 (w64 (27 * wdF T s k) + T (s + k)) - 96) else -1
def vlF (T : Nat → Int) (s : Nat) : Nat → Int
  | 0 => 0
  | k + 1 => if k < 2 then w32 (w32 (w32 (10 * vlF T s k) + T (s + k)) - 48) else -1
theorem wdF_s (T : Nat → Int) (s k : Nat) : wdF T s (k + 1) = if k < 8 then w64 (w64 (w64 (27 * wdF T s k) + T (s + k)) - 96) else -1 := rfl
theorem vlF_s (T : Nat → Int) (s k : Nat) : vlF T s (k + 1) = if k < 2 then w32 (w32 (w32 (10 * vlF T s k) + T (s + k)) - 48) else -1 := rfl
theorem m_byteS {tm k : Nat} {st : MS} (hl : h 82 12 = (tm : Int)) (hln : tm ≤ 240) : CallR G l d 122 [vR 82, vI k] (MT h st) (fun r h' => r = some (vI (btA (h 89) tm k)) ∧ h' = MT h st) := (m_byteAt (k := (k : Int)) (by omega) (by rw [(MT_r h st).2.2.2.2.2.1, hl]; omega)).imp (fun r h' e => by
  refine ⟨?_, e.2⟩
  rw [e.1]
  congr 2
  unfold btA
  rw [(MT_r h st).2.2.2.2.2.1, hl, Int.toNat_natCast, MT_t]
  by_cases c : k < tm
  · rw [if_pos c, if_pos (by omega)]
  · rw [if_neg c, if_neg (by omega)])
set_option maxHeartbeats 1600000 in
theorem m_adv4 {tm s : Nat} {wo : Int} {ob : Option AV} {Q : Option AV → AH → Prop} (hl : h 82 12 = (tm : Int)) (hln : tm ≤ 240) (hT : ∀ c, 0 ≤ h 89 c ∧ h 89 c ≤ 255) (hs : s ≤ tm) (hd : 2 ≤ d) : ∀ (k p : Nat), k = tm - p → s ≤ p → p ≤ tm → Q none (MT h (2, s, scan isDg (h 89) tm p, wo, vlF (h 89) s (scan isDg (h 89) tm p - s))) → Wp G l 125 d 207 [some (vR 82), ob] [] (MT h (2, s, p, wo, vlF (h 89) s (p - s))) Q := by
  intro k
  induction k with
  | zero =>
    intro p hk h1 h2 hQ
    rw [scan_n (by omega)] at hQ
    have eb : btA (h 89) tm p = -1 := by unfold btA; rw [if_neg (by omega)]
    refine Wp.go [8, 126, 207] 40 ok_125 ?_
    simp only [c125, rlA, KF_s, KF_0, elN_n, elN_c, ↓reduceIte, Bool.false_eq_true, Int.reduceToNat, lk_c, lk_n, sw_c, sw_n, List.getD_cons_zero, List.getD_cons_succ, fv_0, fv_1, fv_2, fv_r, pf_0, pf_2, Option.toList_some, Option.toList_none, List.cons_append, List.nil_append, stK_n, stK_i, stK_r, true_and, and_true, true_or, or_true, List.length_nil, List.length_cons, Nat.zero_add, Nat.reduceAdd, Nat.reduceLeDiff, bi_0, bi_1, bi_01, em_1, em_2, cmp64_0, cmp64_lt, cmp64_gt, hu_ap, ne_a1, ne_a2, Decidable.not_not, Int.reduceAdd, Int.reduceNeg, Int.toNat_natCast, Int.toNat_zero, Int.toNat_one, List.append_nil, reduceCtorEq, Nat.reduceEqDiff, Nat.reduceBEq, Bool.or_false, Bool.false_or, Bool.true_or, Bool.or_true, some_vI, Int.le_refl, Nat.le_refl, false_or, or_false, Int.reduceLE, Int.reduceLT, Int.reduceEq, Int.zero_le_ofNat, and_self, if_true, if_false, false_and, and_false, not_true_eq_false, not_false_eq_true, false_implies, forall_const, shA, MT_r, MT_w0, MT_w1, MT_w2, MT_w3, MT_w4, eb]
    repeat' first | with_reducible intro _ | (refine call_of (d' := d - 1) (by omega) (m_byteS hl hln) ?_) | (refine call_of (d' := d - 1) (by omega) (m_isDigit (by omega)) ?_) | simp only [c125, rlA, KF_s, KF_0, elN_n, elN_c, ↓reduceIte, Bool.false_eq_true, Int.reduceToNat, lk_c, lk_n, sw_c, sw_n, List.getD_cons_zero, List.getD_cons_succ, fv_0, fv_1, fv_2, fv_r, pf_0, pf_2, Option.toList_some, Option.toList_none, List.cons_append, List.nil_append, stK_n, stK_i, stK_r, true_and, and_true, true_or, or_true, List.length_nil, List.length_cons, Nat.zero_add, Nat.reduceAdd, Nat.reduceLeDiff, bi_0, bi_1, bi_01, em_1, em_2, cmp64_0, cmp64_lt, cmp64_gt, hu_ap, ne_a1, ne_a2, Decidable.not_not, Int.reduceAdd, Int.reduceNeg, Int.toNat_natCast, Int.toNat_zero, Int.toNat_one, List.append_nil, reduceCtorEq, Nat.reduceEqDiff, Nat.reduceBEq, Bool.or_false, Bool.false_or, Bool.true_or, Bool.or_true, some_vI, Int.le_refl, Nat.le_refl, false_or, or_false, Int.reduceLE, Int.reduceLT, Int.reduceEq, Int.zero_le_ofNat, and_self, if_true, if_false, false_and, and_false, not_true_eq_false, not_false_eq_true, false_implies, forall_const, shA, MT_r, MT_w0, MT_w1, MT_w2, MT_w3, MT_w4, eb] | with_reducible apply And.intro
    all_goals first | exact True.intro | omega | exact hQ
  | succ k ih =>
    intro p hk h1 h2 hQ
    have eb : btA (h 89) tm p = h 89 p := by unfold btA; rw [if_pos (by omega)]
    have ew := w_s p (by omega)
    have wd : w32 ((p : Int) - (s : Int)) = ((p - s : Nat) : Int) := by rw [w32_id (by omega) (by omega)]; omega
    have es : p + 1 - s = (p - s) + 1 := by omega
    have ep : s + (p - s) = p := by omega
    by_cases c : 48 ≤ h 89 p ∧ h 89 p ≤ 57
    · rw [scan_y (by omega) (by unfold isDg; exact decide_eq_true c)] at hQ
      have nx := ih (p + 1) (by omega) (by omega) (by omega) hQ
      rw [es, vlF_s, ep] at nx
      refine Wp.go [8, 126, 207] 40 ok_125 ?_
      simp only [c125, rlA, KF_s, KF_0, elN_n, elN_c, ↓reduceIte, Bool.false_eq_true, Int.reduceToNat, lk_c, lk_n, sw_c, sw_n, List.getD_cons_zero, List.getD_cons_succ, fv_0, fv_1, fv_2, fv_r, pf_0, pf_2, Option.toList_some, Option.toList_none, List.cons_append, List.nil_append, stK_n, stK_i, stK_r, true_and, and_true, true_or, or_true, List.length_nil, List.length_cons, Nat.zero_add, Nat.reduceAdd, Nat.reduceLeDiff, bi_0, bi_1, bi_01, em_1, em_2, cmp64_0, cmp64_lt, cmp64_gt, hu_ap, ne_a1, ne_a2, Decidable.not_not, Int.reduceAdd, Int.reduceNeg, Int.toNat_natCast, Int.toNat_zero, Int.toNat_one, List.append_nil, reduceCtorEq, Nat.reduceEqDiff, Nat.reduceBEq, Bool.or_false, Bool.false_or, Bool.true_or, Bool.or_true, some_vI, Int.le_refl, Nat.le_refl, false_or, or_false, Int.reduceLE, Int.reduceLT, Int.reduceEq, Int.zero_le_ofNat, and_self, if_true, if_false, false_and, and_false, not_true_eq_false, not_false_eq_true, false_implies, forall_const, shA, MT_r, MT_w0, MT_w1, MT_w2, MT_w3, MT_w4, eb, ew, wd, c]
      repeat' first | with_reducible intro _ | (refine call_of (d' := d - 1) (by omega) (m_byteS hl hln) ?_) | (refine call_of (d' := d - 1) (by omega) (m_isDigit (by omega)) ?_) | simp only [c125, rlA, KF_s, KF_0, elN_n, elN_c, ↓reduceIte, Bool.false_eq_true, Int.reduceToNat, lk_c, lk_n, sw_c, sw_n, List.getD_cons_zero, List.getD_cons_succ, fv_0, fv_1, fv_2, fv_r, pf_0, pf_2, Option.toList_some, Option.toList_none, List.cons_append, List.nil_append, stK_n, stK_i, stK_r, true_and, and_true, true_or, or_true, List.length_nil, List.length_cons, Nat.zero_add, Nat.reduceAdd, Nat.reduceLeDiff, bi_0, bi_1, bi_01, em_1, em_2, cmp64_0, cmp64_lt, cmp64_gt, hu_ap, ne_a1, ne_a2, Decidable.not_not, Int.reduceAdd, Int.reduceNeg, Int.toNat_natCast, Int.toNat_zero, Int.toNat_one, List.append_nil, reduceCtorEq, Nat.reduceEqDiff, Nat.reduceBEq, Bool.or_false, Bool.false_or, Bool.true_or, Bool.or_true, some_vI, Int.le_refl, Nat.le_refl, false_or, or_false, Int.reduceLE, Int.reduceLT, Int.reduceEq, Int.zero_le_ofNat, and_self, if_true, if_false, false_and, and_false, not_true_eq_false, not_false_eq_true, false_implies, forall_const, shA, MT_r, MT_w0, MT_w1, MT_w2, MT_w3, MT_w4, eb, ew, wd, c] | with_reducible apply And.intro
      all_goals first | exact True.intro | omega | (rw [if_pos (by omega)] at nx; exact nx) | (rw [if_neg (by omega)] at nx; exact nx)
    · rw [scan_n (fun w => c (by have := w.2; unfold isDg at this; exact of_decide_eq_true this))] at hQ
      refine Wp.go [8, 126, 207] 40 ok_125 ?_
      simp only [c125, rlA, KF_s, KF_0, elN_n, elN_c, ↓reduceIte, Bool.false_eq_true, Int.reduceToNat, lk_c, lk_n, sw_c, sw_n, List.getD_cons_zero, List.getD_cons_succ, fv_0, fv_1, fv_2, fv_r, pf_0, pf_2, Option.toList_some, Option.toList_none, List.cons_append, List.nil_append, stK_n, stK_i, stK_r, true_and, and_true, true_or, or_true, List.length_nil, List.length_cons, Nat.zero_add, Nat.reduceAdd, Nat.reduceLeDiff, bi_0, bi_1, bi_01, em_1, em_2, cmp64_0, cmp64_lt, cmp64_gt, hu_ap, ne_a1, ne_a2, Decidable.not_not, Int.reduceAdd, Int.reduceNeg, Int.toNat_natCast, Int.toNat_zero, Int.toNat_one, List.append_nil, reduceCtorEq, Nat.reduceEqDiff, Nat.reduceBEq, Bool.or_false, Bool.false_or, Bool.true_or, Bool.or_true, some_vI, Int.le_refl, Nat.le_refl, false_or, or_false, Int.reduceLE, Int.reduceLT, Int.reduceEq, Int.zero_le_ofNat, and_self, if_true, if_false, false_and, and_false, not_true_eq_false, not_false_eq_true, false_implies, forall_const, shA, MT_r, MT_w0, MT_w1, MT_w2, MT_w3, MT_w4, eb, c]
      repeat' first | with_reducible intro _ | (refine call_of (d' := d - 1) (by omega) (m_byteS hl hln) ?_) | (refine call_of (d' := d - 1) (by omega) (m_isDigit (by omega)) ?_) | simp only [c125, rlA, KF_s, KF_0, elN_n, elN_c, ↓reduceIte, Bool.false_eq_true, Int.reduceToNat, lk_c, lk_n, sw_c, sw_n, List.getD_cons_zero, List.getD_cons_succ, fv_0, fv_1, fv_2, fv_r, pf_0, pf_2, Option.toList_some, Option.toList_none, List.cons_append, List.nil_append, stK_n, stK_i, stK_r, true_and, and_true, true_or, or_true, List.length_nil, List.length_cons, Nat.zero_add, Nat.reduceAdd, Nat.reduceLeDiff, bi_0, bi_1, bi_01, em_1, em_2, cmp64_0, cmp64_lt, cmp64_gt, hu_ap, ne_a1, ne_a2, Decidable.not_not, Int.reduceAdd, Int.reduceNeg, Int.toNat_natCast, Int.toNat_zero, Int.toNat_one, List.append_nil, reduceCtorEq, Nat.reduceEqDiff, Nat.reduceBEq, Bool.or_false, Bool.false_or, Bool.true_or, Bool.or_true, some_vI, Int.le_refl, Nat.le_refl, false_or, or_false, Int.reduceLE, Int.reduceLT, Int.reduceEq, Int.zero_le_ofNat, and_self, if_true, if_false, false_and, and_false, not_true_eq_false, not_false_eq_true, false_implies, forall_const, shA, MT_r, MT_w0, MT_w1, MT_w2, MT_w3, MT_w4, eb, c] | with_reducible apply And.intro
      all_goals first | exact True.intro | omega | exact hQ
set_option maxHeartbeats 1600000 in
theorem m_adv3 {tm s : Nat} {va : Int} {ob : Option AV} {Q : Option AV → AH → Prop} (hl : h 82 12 = (tm : Int)) (hln : tm ≤ 240) (hT : ∀ c, 0 ≤ h 89 c ∧ h 89 c ≤ 255) (hs : s ≤ tm) (hd : 2 ≤ d) : ∀ (k p : Nat), k = tm - p → s ≤ p → p ≤ tm → Q none (MT h (1, s, scan isLt (h 89) tm p, wdF (h 89) s (scan isLt (h 89) tm p - s), va)) → Wp G l 125 d 126 [some (vR 82), ob] [] (MT h (1, s, p, wdF (h 89) s (p - s), va)) Q := by
  intro k
  induction k with
  | zero =>
    intro p hk h1 h2 hQ
    rw [scan_n (by omega)] at hQ
    have eb : btA (h 89) tm p = -1 := by unfold btA; rw [if_neg (by omega)]
    refine Wp.go [8, 126] 40 ok_125 ?_
    simp only [c125, rlA, KF_s, KF_0, elN_n, elN_c, ↓reduceIte, Bool.false_eq_true, Int.reduceToNat, lk_c, lk_n, sw_c, sw_n, List.getD_cons_zero, List.getD_cons_succ, fv_0, fv_1, fv_2, fv_r, pf_0, pf_2, Option.toList_some, Option.toList_none, List.cons_append, List.nil_append, stK_n, stK_i, stK_r, true_and, and_true, true_or, or_true, List.length_nil, List.length_cons, Nat.zero_add, Nat.reduceAdd, Nat.reduceLeDiff, bi_0, bi_1, bi_01, em_1, em_2, cmp64_0, cmp64_lt, cmp64_gt, hu_ap, ne_a1, ne_a2, Decidable.not_not, Int.reduceAdd, Int.reduceNeg, Int.toNat_natCast, Int.toNat_zero, Int.toNat_one, List.append_nil, reduceCtorEq, Nat.reduceEqDiff, Nat.reduceBEq, Bool.or_false, Bool.false_or, Bool.true_or, Bool.or_true, some_vI, Int.le_refl, Nat.le_refl, false_or, or_false, Int.reduceLE, Int.reduceLT, Int.reduceEq, Int.zero_le_ofNat, and_self, if_true, if_false, false_and, and_false, not_true_eq_false, not_false_eq_true, false_implies, forall_const, shA, MT_r, MT_w0, MT_w1, MT_w2, MT_w3, MT_w4, eb]
    repeat' first | with_reducible intro _ | (refine call_of (d' := d - 1) (by omega) (m_byteS hl hln) ?_) | (refine call_of (d' := d - 1) (by omega) (m_isLetter (by omega)) ?_) | simp only [c125, rlA, KF_s, KF_0, elN_n, elN_c, ↓reduceIte, Bool.false_eq_true, Int.reduceToNat, lk_c, lk_n, sw_c, sw_n, List.getD_cons_zero, List.getD_cons_succ, fv_0, fv_1, fv_2, fv_r, pf_0, pf_2, Option.toList_some, Option.toList_none, List.cons_append, List.nil_append, stK_n, stK_i, stK_r, true_and, and_true, true_or, or_true, List.length_nil, List.length_cons, Nat.zero_add, Nat.reduceAdd, Nat.reduceLeDiff, bi_0, bi_1, bi_01, em_1, em_2, cmp64_0, cmp64_lt, cmp64_gt, hu_ap, ne_a1, ne_a2, Decidable.not_not, Int.reduceAdd, Int.reduceNeg, Int.toNat_natCast, Int.toNat_zero, Int.toNat_one, List.append_nil, reduceCtorEq, Nat.reduceEqDiff, Nat.reduceBEq, Bool.or_false, Bool.false_or, Bool.true_or, Bool.or_true, some_vI, Int.le_refl, Nat.le_refl, false_or, or_false, Int.reduceLE, Int.reduceLT, Int.reduceEq, Int.zero_le_ofNat, and_self, if_true, if_false, false_and, and_false, not_true_eq_false, not_false_eq_true, false_implies, forall_const, shA, MT_r, MT_w0, MT_w1, MT_w2, MT_w3, MT_w4, eb] | with_reducible apply And.intro
    all_goals first | exact True.intro | omega | exact hQ
  | succ k ih =>
    intro p hk h1 h2 hQ
    have eb : btA (h 89) tm p = h 89 p := by unfold btA; rw [if_pos (by omega)]
    have ew := w_s p (by omega)
    have wd : w32 ((p : Int) - (s : Int)) = ((p - s : Nat) : Int) := by rw [w32_id (by omega) (by omega)]; omega
    have es : p + 1 - s = (p - s) + 1 := by omega
    have ep : s + (p - s) = p := by omega
    by_cases c : 97 ≤ h 89 p ∧ h 89 p ≤ 122
    · rw [scan_y (by omega) (by unfold isLt; exact decide_eq_true c)] at hQ
      have nx := ih (p + 1) (by omega) (by omega) (by omega) hQ
      rw [es, wdF_s, ep] at nx
      refine Wp.go [8, 126] 40 ok_125 ?_
      simp only [c125, rlA, KF_s, KF_0, elN_n, elN_c, ↓reduceIte, Bool.false_eq_true, Int.reduceToNat, lk_c, lk_n, sw_c, sw_n, List.getD_cons_zero, List.getD_cons_succ, fv_0, fv_1, fv_2, fv_r, pf_0, pf_2, Option.toList_some, Option.toList_none, List.cons_append, List.nil_append, stK_n, stK_i, stK_r, true_and, and_true, true_or, or_true, List.length_nil, List.length_cons, Nat.zero_add, Nat.reduceAdd, Nat.reduceLeDiff, bi_0, bi_1, bi_01, em_1, em_2, cmp64_0, cmp64_lt, cmp64_gt, hu_ap, ne_a1, ne_a2, Decidable.not_not, Int.reduceAdd, Int.reduceNeg, Int.toNat_natCast, Int.toNat_zero, Int.toNat_one, List.append_nil, reduceCtorEq, Nat.reduceEqDiff, Nat.reduceBEq, Bool.or_false, Bool.false_or, Bool.true_or, Bool.or_true, some_vI, Int.le_refl, Nat.le_refl, false_or, or_false, Int.reduceLE, Int.reduceLT, Int.reduceEq, Int.zero_le_ofNat, and_self, if_true, if_false, false_and, and_false, not_true_eq_false, not_false_eq_true, false_implies, forall_const, shA, MT_r, MT_w0, MT_w1, MT_w2, MT_w3, MT_w4, eb, ew, wd, c]
      repeat' first | with_reducible intro _ | (refine call_of (d' := d - 1) (by omega) (m_byteS hl hln) ?_) | (refine call_of (d' := d - 1) (by omega) (m_isLetter (by omega)) ?_) | simp only [c125, rlA, KF_s, KF_0, elN_n, elN_c, ↓reduceIte, Bool.false_eq_true, Int.reduceToNat, lk_c, lk_n, sw_c, sw_n, List.getD_cons_zero, List.getD_cons_succ, fv_0, fv_1, fv_2, fv_r, pf_0, pf_2, Option.toList_some, Option.toList_none, List.cons_append, List.nil_append, stK_n, stK_i, stK_r, true_and, and_true, true_or, or_true, List.length_nil, List.length_cons, Nat.zero_add, Nat.reduceAdd, Nat.reduceLeDiff, bi_0, bi_1, bi_01, em_1, em_2, cmp64_0, cmp64_lt, cmp64_gt, hu_ap, ne_a1, ne_a2, Decidable.not_not, Int.reduceAdd, Int.reduceNeg, Int.toNat_natCast, Int.toNat_zero, Int.toNat_one, List.append_nil, reduceCtorEq, Nat.reduceEqDiff, Nat.reduceBEq, Bool.or_false, Bool.false_or, Bool.true_or, Bool.or_true, some_vI, Int.le_refl, Nat.le_refl, false_or, or_false, Int.reduceLE, Int.reduceLT, Int.reduceEq, Int.zero_le_ofNat, and_self, if_true, if_false, false_and, and_false, not_true_eq_false, not_false_eq_true, false_implies, forall_const, shA, MT_r, MT_w0, MT_w1, MT_w2, MT_w3, MT_w4, eb, ew, wd, c] | with_reducible apply And.intro
      all_goals first | exact True.intro | omega | (rw [if_pos (by omega)] at nx; exact nx) | (rw [if_neg (by omega)] at nx; exact nx)
    · rw [scan_n (fun w => c (by have := w.2; unfold isLt at this; exact of_decide_eq_true this))] at hQ
      refine Wp.go [8, 126] 40 ok_125 ?_
      simp only [c125, rlA, KF_s, KF_0, elN_n, elN_c, ↓reduceIte, Bool.false_eq_true, Int.reduceToNat, lk_c, lk_n, sw_c, sw_n, List.getD_cons_zero, List.getD_cons_succ, fv_0, fv_1, fv_2, fv_r, pf_0, pf_2, Option.toList_some, Option.toList_none, List.cons_append, List.nil_append, stK_n, stK_i, stK_r, true_and, and_true, true_or, or_true, List.length_nil, List.length_cons, Nat.zero_add, Nat.reduceAdd, Nat.reduceLeDiff, bi_0, bi_1, bi_01, em_1, em_2, cmp64_0, cmp64_lt, cmp64_gt, hu_ap, ne_a1, ne_a2, Decidable.not_not, Int.reduceAdd, Int.reduceNeg, Int.toNat_natCast, Int.toNat_zero, Int.toNat_one, List.append_nil, reduceCtorEq, Nat.reduceEqDiff, Nat.reduceBEq, Bool.or_false, Bool.false_or, Bool.true_or, Bool.or_true, some_vI, Int.le_refl, Nat.le_refl, false_or, or_false, Int.reduceLE, Int.reduceLT, Int.reduceEq, Int.zero_le_ofNat, and_self, if_true, if_false, false_and, and_false, not_true_eq_false, not_false_eq_true, false_implies, forall_const, shA, MT_r, MT_w0, MT_w1, MT_w2, MT_w3, MT_w4, eb, c]
      repeat' first | with_reducible intro _ | (refine call_of (d' := d - 1) (by omega) (m_byteS hl hln) ?_) | (refine call_of (d' := d - 1) (by omega) (m_isLetter (by omega)) ?_) | simp only [c125, rlA, KF_s, KF_0, elN_n, elN_c, ↓reduceIte, Bool.false_eq_true, Int.reduceToNat, lk_c, lk_n, sw_c, sw_n, List.getD_cons_zero, List.getD_cons_succ, fv_0, fv_1, fv_2, fv_r, pf_0, pf_2, Option.toList_some, Option.toList_none, List.cons_append, List.nil_append, stK_n, stK_i, stK_r, true_and, and_true, true_or, or_true, List.length_nil, List.length_cons, Nat.zero_add, Nat.reduceAdd, Nat.reduceLeDiff, bi_0, bi_1, bi_01, em_1, em_2, cmp64_0, cmp64_lt, cmp64_gt, hu_ap, ne_a1, ne_a2, Decidable.not_not, Int.reduceAdd, Int.reduceNeg, Int.toNat_natCast, Int.toNat_zero, Int.toNat_one, List.append_nil, reduceCtorEq, Nat.reduceEqDiff, Nat.reduceBEq, Bool.or_false, Bool.false_or, Bool.true_or, Bool.or_true, some_vI, Int.le_refl, Nat.le_refl, false_or, or_false, Int.reduceLE, Int.reduceLT, Int.reduceEq, Int.zero_le_ofNat, and_self, if_true, if_false, false_and, and_false, not_true_eq_false, not_false_eq_true, false_implies, forall_const, shA, MT_r, MT_w0, MT_w1, MT_w2, MT_w3, MT_w4, eb, c] | with_reducible apply And.intro
      all_goals first | exact True.intro | omega | exact hQ
end L2AP
