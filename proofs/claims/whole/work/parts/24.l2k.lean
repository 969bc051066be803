section L2K
variable {G : GD} {l : Launch} {d : Nat} {h : AH}
theorem stL_o (h : AH) (aa pp : Nat) (hv : Int) (fl ln : Nat) (dd : Int) (x c : Nat) (hx : x ≠ 98 ∧ x ≠ 99 ∧ (x ≠ 88 ∨ (c ≠ aa + 25 + pp ∧ c ≠ aa + 1 + pp))) : stL h aa pp hv fl ln dd x c = h x c := by
  unfold stL; simp only [hu_ap]; rw [if_neg (by omega), if_neg (by omega), if_neg (by omega), if_neg (by omega)]
theorem stM_o (h : AH) (aa pp : Nat) (hv : Int) (x c : Nat) (hx : x ≠ 98 ∧ x ≠ 99 ∧ (x ≠ 88 ∨ (c ≠ aa + 25 + pp ∧ c ≠ aa + 1 + pp))) : stM h aa pp hv x c = h x c := by
  unfold stM; split <;> exact stL_o _ _ _ _ _ _ _ _ _ hx
theorem hatsOK_cell {h h' : AH} (hi : hatsOK h) (e : ∀ x c, (x = 82 ∨ x = 84 ∨ x = 85) → h' x c = h x c) : hatsOK h' := by
  obtain ⟨h1, h2⟩ := hi
  refine ⟨by rw [e _ _ (by omega)]; exact h1, fun i hj => ?_⟩
  rw [e _ _ (by omega)] at hj
  rw [e _ _ (by omega), e _ _ (by omega)]
  exact h2 i hj
theorem m32_2 (z : Int) (hz : 0 ≤ z ∧ z ≤ 3) : m32 z 2 = z % 2 := by
  rcases (show z = 0 ∨ z = 1 ∨ z = 2 ∨ z = 3 by omega) with rfl | rfl | rfl | rfl <;> decide
theorem stI_stL {h : AH} {aa pp : Nat} {hv dd : Int} {fl ln : Nat} (hi : stI h aa pp) (hv2 : 1 ≤ hv ∧ hv ≤ 2) (hr : h 98 ln + takesF (h 86 pp) (h 87 pp) ≤ h 82 0) (hd : 0 ≤ h 88 (aa + 1 + pp) + dd ∧ h 88 (aa + 1 + pp) + dd ≤ 9) : stI (stL h aa pp hv fl ln dd) aa pp := by
  obtain ⟨f1, f2, f3, f4, f5, f6⟩ := hi
  have tk := takesF_r (h 86 pp) (h 87 pp)
  have m2 := m32_2 (h 88 (aa + 25 + pp) + hv) (by omega)
  have o : ∀ x c, x ≠ 98 ∧ x ≠ 99 ∧ (x ≠ 88 ∨ (c ≠ aa + 25 + pp ∧ c ≠ aa + 1 + pp)) → stL h aa pp hv fl ln dd x c = h x c := fun x c q => stL_o _ _ _ _ _ _ _ _ _ q
  refine ⟨?_, by rw [o _ _ (by omega)]; exact f2, ?_, fun j => ?_, by rw [o _ _ (by omega)]; exact f5, hatsOK_cell f6 (fun x c q => o x c (by omega))⟩
  · have : stL h aa pp hv fl ln dd 88 (aa + 1 + pp) = h 88 (aa + 1 + pp) + if h 88 (aa + 25 + pp) + hv < 2 then 0 else dd := by unfold stL; simp [hu]
    rw [this]; split <;> omega
  · have : stL h aa pp hv fl ln dd 88 (aa + 25 + pp) = m32 (h 88 (aa + 25 + pp) + hv) 2 := by
      unfold stL; simp only [hu_ap]; rw [if_neg (by omega), if_pos (by simp)]
    rw [this, m2]; omega
  · have := f4 j
    have e : stL h aa pp hv fl ln dd 98 j = if j = ln then h 98 ln + takesF (h 86 pp) (h 87 pp) else h 98 j := by unfold stL; simp [hu]
    rw [e]; have := f4 ln; split <;> omega
theorem stI_st {h : AH} {aa pp : Nat} {hv : Int} (hi : stI h aa pp) (hv2 : 1 ≤ hv ∧ hv ≤ 2) (hn : ¬ h 88 (aa + 1 + pp) = h 88 (aa + 9 + pp)) (hy : stB h aa pp = true) : stI (stM h aa pp hv) aa pp := by
  obtain ⟨f1, f2, f3, f4, f5, f6⟩ := id hi
  unfold stB at hy
  unfold stM
  split at hy
  · next q =>
    rw [if_pos q]
    simp only [Bool.and_eq_true, decide_eq_true_eq] at hy
    exact stI_stL hi hv2 hy.2 (by omega)
  · next q =>
    rw [if_neg q]
    simp only [Bool.and_eq_true, decide_eq_true_eq] at hy
    exact stI_stL hi hv2 hy.2 (by omega)
/-- the model's walk: lf halves left; has one gone, and where to -/
def gsL (aa pp : Nat) : Nat → Int → AH → Bool × AH
  | 0, _, h => (false, h)
  | k + 1, lf, h => if 0 < lf ∧ ¬ h 88 (aa + 1 + pp) = h 88 (aa + 9 + pp) ∧ stB h aa pp = true then (true, (gsL aa pp k (lf - 2) (stM h aa pp (if lf = 1 then 1 else 2))).2) else (false, h)
def gsE (aa pp : Nat) (h : AH) : AH := if h 88 (aa + 1 + pp) = h 88 (aa + 9 + pp) then hu h 88 (aa + 33 + pp) (h 88 aa) else h
def gsW (pp : Nat) (wt : Int) (h : AH) : AH := hu h 100 pp (h 100 pp + wt)
def goesM (h : AH) (aa pp : Nat) : AH := gsE aa pp (gsW pp (bi (¬ h 88 (aa + 1 + pp) = h 88 (aa + 9 + pp) ∧ (gsL aa pp 3 (mayF (h 86 pp) (h 87 pp) (h 88 aa)) h).1 = false)) (gsL aa pp 3 (mayF (h 86 pp) (h 87 pp) (h 88 aa)) h).2)
set_option maxHeartbeats 4000000 in
theorem m_goesEnd {aa pp : Nat} {lf wt : Int} {hh : AH} {Q : Option AV → AH → Prop} (ha : hh 82 9 = (aa : Int)) (haa : aa ≤ 41) (hp : pp < 8) (hw : 0 ≤ hh 100 pp ∧ hh 100 pp ≤ 2000000000) (hwt : wt = 0 ∨ wt = 1) (hd : 2 ≤ d) (hQ : Q none (gsE aa pp (gsW pp wt hh))) : Wp G l 156 d 63 [some (vR 82), some (vI pp), some (vI wt), some (vI lf)] [] hh Q := by
  have i33 : ((aa : Int) + (33 + (pp : Int))).toNat = aa + 33 + pp := by omega
  have w33 : w32 (33 + (pp : Int)) = 33 + pp := w32_id (by omega) (by omega)
  have i0 : ((aa : Int) + 0).toNat = aa := by omega
  have x1 : w32 (hh 100 pp + 1) = hh 100 pp + 1 := w32_id (by omega) (by omega)
  have x0 : w32 (hh 100 pp + 0) = hh 100 pp + 0 := w32_id (by omega) (by omega)
  unfold gsE gsW at hQ
  rcases hwt with rfl | rfl
  all_goals (
    refine Wp.go [20] 20 ok_156 ?_
    simp only [c156, rlA, KF_s, KF_0, elN_n, elN_c, ↓reduceIte, Bool.false_eq_true, Int.reduceToNat, lk_c, lk_n, sw_c, sw_n, List.getD_cons_zero, List.getD_cons_succ, fv_0, fv_1, fv_2, fv_r, pf_0, pf_2, Option.toList_some, Option.toList_none, List.cons_append, List.nil_append, stK_n, stK_i, stK_r, true_and, and_true, true_or, or_true, List.length_nil, List.length_cons, Nat.zero_add, Nat.reduceAdd, Nat.reduceLeDiff, bi_0, bi_1, bi_01, em_1, em_2, cmp64_0, cmp64_lt, cmp64_gt, hu_ap, ne_a1, ne_a2, Decidable.not_not, Int.reduceAdd, Int.reduceNeg, Int.toNat_natCast, Int.toNat_zero, Int.toNat_one, List.append_nil, reduceCtorEq, Nat.reduceEqDiff, Nat.reduceBEq, Bool.or_false, Bool.false_or, Bool.true_or, Bool.or_true, some_vI, Int.le_refl, Nat.le_refl, false_or, or_false, Int.reduceLE, Int.reduceLT, Int.reduceEq, Int.zero_le_ofNat, and_self, if_true, if_false, false_and, and_false, not_true_eq_false, not_false_eq_true, false_implies, forall_const, shA, ha, i33, w33, i0, x0, x1]
    repeat' first | with_reducible intro _ | (refine call_of (d' := d - 1) (by omega) (m_isThere (aa := aa) (by first | omega | (simp only [hu_ap, Nat.reduceEqDiff, false_and, if_false]; omega)) haa hp (by omega)) ?_) | (refine call_of (d' := d - 1) (by omega) (m_its (by first | omega | (simp only [hu_ap, Nat.reduceEqDiff, false_and, if_false]; omega))) ?_) | (refine call_of (d' := d - 1) (by omega) (m_becomes (by first | omega | (simp only [hu_ap, Nat.reduceEqDiff, false_and, if_false]; omega))) ?_) | simp only [c156, rlA, KF_s, KF_0, elN_n, elN_c, ↓reduceIte, Bool.false_eq_true, Int.reduceToNat, lk_c, lk_n, sw_c, sw_n, List.getD_cons_zero, List.getD_cons_succ, fv_0, fv_1, fv_2, fv_r, pf_0, pf_2, Option.toList_some, Option.toList_none, List.cons_append, List.nil_append, stK_n, stK_i, stK_r, true_and, and_true, true_or, or_true, List.length_nil, List.length_cons, Nat.zero_add, Nat.reduceAdd, Nat.reduceLeDiff, bi_0, bi_1, bi_01, em_1, em_2, cmp64_0, cmp64_lt, cmp64_gt, hu_ap, ne_a1, ne_a2, Decidable.not_not, Int.reduceAdd, Int.reduceNeg, Int.toNat_natCast, Int.toNat_zero, Int.toNat_one, List.append_nil, reduceCtorEq, Nat.reduceEqDiff, Nat.reduceBEq, Bool.or_false, Bool.false_or, Bool.true_or, Bool.or_true, some_vI, Int.le_refl, Nat.le_refl, false_or, or_false, Int.reduceLE, Int.reduceLT, Int.reduceEq, Int.zero_le_ofNat, and_self, if_true, if_false, false_and, and_false, not_true_eq_false, not_false_eq_true, false_implies, forall_const, shA, ha, i33, w33, i0, x0, x1] | with_reducible apply And.intro
    all_goals first | exact True.intro | omega | (simp only [hu_ap, Nat.reduceEqDiff, false_and, if_false] at hQ; first | (rw [if_pos (by assumption)] at hQ; exact hQ) | (rw [if_neg (by assumption)] at hQ; exact hQ)))
set_option maxHeartbeats 4000000 in
theorem m_goesLoop {aa pp : Nat} {Q : Option AV → AH → Prop} (haa : aa ≤ 41) (hp : pp < 8) (hd : 3 ≤ d) : ∀ (kk : Nat) (lf wt : Int) (hh : AH), lf ≤ 2 * kk - 2 → (-1 ≤ lf ∧ lf ≤ 4) → (wt = 0 ∨ wt = 1) → hh 82 9 = (aa : Int) → stI hh aa pp → (0 ≤ hh 100 pp ∧ hh 100 pp ≤ 2000000000) → Q none (gsE aa pp (gsW pp (if (gsL aa pp kk lf hh).1 = true then 0 else wt) (gsL aa pp kk lf hh).2)) → Wp G l 156 d 20 [some (vR 82), some (vI pp), some (vI wt), some (vI lf)] [] hh Q := by
  intro kk
  induction kk with
  | zero => intro lf wt hh h1 h2; omega
  | succ kk ih =>
    intro lf wt hh hl h2 hwt ha hi hw hQ
    by_cases c0 : 0 < lf
    rotate_left
    · have gl : gsL aa pp (kk + 1) lf hh = (false, hh) := by rw [gsL, if_neg (fun z => c0 z.1)]
      rw [gl] at hQ
      have base := m_goesEnd (G := G) (l := l) (d := d) (lf := lf) ha haa hp hw hwt (by omega) hQ
      refine Wp.go [20, 63] 20 ok_156 ?_
      simp only [c156, rlA, KF_s, KF_0, elN_n, elN_c, ↓reduceIte, Bool.false_eq_true, Int.reduceToNat, lk_c, lk_n, sw_c, sw_n, List.getD_cons_zero, List.getD_cons_succ, fv_0, fv_1, fv_2, fv_r, pf_0, pf_2, Option.toList_some, Option.toList_none, List.cons_append, List.nil_append, stK_n, stK_i, stK_r, true_and, and_true, true_or, or_true, List.length_nil, List.length_cons, Nat.zero_add, Nat.reduceAdd, Nat.reduceLeDiff, bi_0, bi_1, bi_01, em_1, em_2, cmp64_0, cmp64_lt, cmp64_gt, hu_ap, ne_a1, ne_a2, Decidable.not_not, Int.reduceAdd, Int.reduceNeg, Int.toNat_natCast, Int.toNat_zero, Int.toNat_one, List.append_nil, reduceCtorEq, Nat.reduceEqDiff, Nat.reduceBEq, Bool.or_false, Bool.false_or, Bool.true_or, Bool.or_true, some_vI, Int.le_refl, Nat.le_refl, false_or, or_false, Int.reduceLE, Int.reduceLT, Int.reduceEq, Int.zero_le_ofNat, and_self, if_true, if_false, false_and, and_false, not_true_eq_false, not_false_eq_true, false_implies, forall_const, shA]
      repeat' first | with_reducible intro _ | with_reducible apply And.intro
      all_goals first | exact True.intro | omega | exact base
    by_cases c1 : hh 88 (aa + 1 + pp) = hh 88 (aa + 9 + pp)
    · have gl : gsL aa pp (kk + 1) lf hh = (false, hh) := by rw [gsL, if_neg (fun z => z.2.1 c1)]
      rw [gl] at hQ
      have base := m_goesEnd (G := G) (l := l) (d := d) (lf := lf) ha haa hp hw hwt (by omega) hQ
      refine Wp.go [20, 63] 20 ok_156 ?_
      simp only [c156, rlA, KF_s, KF_0, elN_n, elN_c, ↓reduceIte, Bool.false_eq_true, Int.reduceToNat, lk_c, lk_n, sw_c, sw_n, List.getD_cons_zero, List.getD_cons_succ, fv_0, fv_1, fv_2, fv_r, pf_0, pf_2, Option.toList_some, Option.toList_none, List.cons_append, List.nil_append, stK_n, stK_i, stK_r, true_and, and_true, true_or, or_true, List.length_nil, List.length_cons, Nat.zero_add, Nat.reduceAdd, Nat.reduceLeDiff, bi_0, bi_1, bi_01, em_1, em_2, cmp64_0, cmp64_lt, cmp64_gt, hu_ap, ne_a1, ne_a2, Decidable.not_not, Int.reduceAdd, Int.reduceNeg, Int.toNat_natCast, Int.toNat_zero, Int.toNat_one, List.append_nil, reduceCtorEq, Nat.reduceEqDiff, Nat.reduceBEq, Bool.or_false, Bool.false_or, Bool.true_or, Bool.or_true, some_vI, Int.le_refl, Nat.le_refl, false_or, or_false, Int.reduceLE, Int.reduceLT, Int.reduceEq, Int.zero_le_ofNat, and_self, if_true, if_false, false_and, and_false, not_true_eq_false, not_false_eq_true, false_implies, forall_const, shA, c1]
      repeat' first | with_reducible intro _ | (refine call_of (d' := d - 1) (by omega) (m_isThere ha haa hp (by omega)) ?_) | simp only [c156, rlA, KF_s, KF_0, elN_n, elN_c, ↓reduceIte, Bool.false_eq_true, Int.reduceToNat, lk_c, lk_n, sw_c, sw_n, List.getD_cons_zero, List.getD_cons_succ, fv_0, fv_1, fv_2, fv_r, pf_0, pf_2, Option.toList_some, Option.toList_none, List.cons_append, List.nil_append, stK_n, stK_i, stK_r, true_and, and_true, true_or, or_true, List.length_nil, List.length_cons, Nat.zero_add, Nat.reduceAdd, Nat.reduceLeDiff, bi_0, bi_1, bi_01, em_1, em_2, cmp64_0, cmp64_lt, cmp64_gt, hu_ap, ne_a1, ne_a2, Decidable.not_not, Int.reduceAdd, Int.reduceNeg, Int.toNat_natCast, Int.toNat_zero, Int.toNat_one, List.append_nil, reduceCtorEq, Nat.reduceEqDiff, Nat.reduceBEq, Bool.or_false, Bool.false_or, Bool.true_or, Bool.or_true, some_vI, Int.le_refl, Nat.le_refl, false_or, or_false, Int.reduceLE, Int.reduceLT, Int.reduceEq, Int.zero_le_ofNat, and_self, if_true, if_false, false_and, and_false, not_true_eq_false, not_false_eq_true, false_implies, forall_const, shA, c1] | with_reducible apply And.intro
      all_goals first | exact True.intro | omega | exact base
    have hv2 : 1 ≤ (if lf = 1 then 1 else 2 : Int) ∧ (if lf = 1 then 1 else 2 : Int) ≤ 2 := by split <;> omega
    by_cases c2 : stB hh aa pp = true
    · have gl : gsL aa pp (kk + 1) lf hh = (true, (gsL aa pp kk (lf - 2) (stM hh aa pp (if lf = 1 then 1 else 2))).2) := by rw [gsL, if_pos ⟨c0, c1, c2⟩]
      rw [gl] at hQ
      have o : ∀ x c, x ≠ 98 ∧ x ≠ 99 ∧ (x ≠ 88 ∨ (c ≠ aa + 25 + pp ∧ c ≠ aa + 1 + pp)) → stM hh aa pp (if lf = 1 then 1 else 2) x c = hh x c := fun x c q => stM_o _ _ _ _ _ _ q
      have nx := ih (lf - 2) 0 (stM hh aa pp (if lf = 1 then 1 else 2)) (by omega) (by omega) (Or.inl rfl) (by rw [o _ _ (by omega)]; exact ha) (stI_st hi hv2 c1 c2) (by rw [o _ _ (by omega)]; exact hw) (by
        have e9 : (if (gsL aa pp kk (lf - 2) (stM hh aa pp (if lf = 1 then 1 else 2))).1 = true then (0 : Int) else 0) = 0 := by simp
        rw [e9]; exact hQ)
      have el : w32 (lf + -2) = lf - 2 := by rw [w32_id (by omega) (by omega)]; omega
      refine Wp.go [20, 63] 20 ok_156 ?_
      by_cases c3 : lf = 1
      · subst c3
        have e3 : (if (1 : Int) = 1 then (1 : Int) else 2) = 1 := rfl
        rw [e3] at nx
        simp only [c156, rlA, KF_s, KF_0, elN_n, elN_c, ↓reduceIte, Bool.false_eq_true, Int.reduceToNat, lk_c, lk_n, sw_c, sw_n, List.getD_cons_zero, List.getD_cons_succ, fv_0, fv_1, fv_2, fv_r, pf_0, pf_2, Option.toList_some, Option.toList_none, List.cons_append, List.nil_append, stK_n, stK_i, stK_r, true_and, and_true, true_or, or_true, List.length_nil, List.length_cons, Nat.zero_add, Nat.reduceAdd, Nat.reduceLeDiff, bi_0, bi_1, bi_01, em_1, em_2, cmp64_0, cmp64_lt, cmp64_gt, hu_ap, ne_a1, ne_a2, Decidable.not_not, Int.reduceAdd, Int.reduceNeg, Int.toNat_natCast, Int.toNat_zero, Int.toNat_one, List.append_nil, reduceCtorEq, Nat.reduceEqDiff, Nat.reduceBEq, Bool.or_false, Bool.false_or, Bool.true_or, Bool.or_true, some_vI, Int.le_refl, Nat.le_refl, false_or, or_false, Int.reduceLE, Int.reduceLT, Int.reduceEq, Int.zero_le_ofNat, and_self, if_true, if_false, false_and, and_false, not_true_eq_false, not_false_eq_true, false_implies, forall_const, shA, c1, el]
        repeat' first | with_reducible intro _ | (refine call_of (d' := d - 1) (by omega) (m_isThere ha haa hp (by omega)) ?_) | (refine call_of (d' := d - 1) (by omega) (m_stepsY ha haa hp hi c1 (by omega) c2 (by omega)) ?_) | simp only [c156, rlA, KF_s, KF_0, elN_n, elN_c, ↓reduceIte, Bool.false_eq_true, Int.reduceToNat, lk_c, lk_n, sw_c, sw_n, List.getD_cons_zero, List.getD_cons_succ, fv_0, fv_1, fv_2, fv_r, pf_0, pf_2, Option.toList_some, Option.toList_none, List.cons_append, List.nil_append, stK_n, stK_i, stK_r, true_and, and_true, true_or, or_true, List.length_nil, List.length_cons, Nat.zero_add, Nat.reduceAdd, Nat.reduceLeDiff, bi_0, bi_1, bi_01, em_1, em_2, cmp64_0, cmp64_lt, cmp64_gt, hu_ap, ne_a1, ne_a2, Decidable.not_not, Int.reduceAdd, Int.reduceNeg, Int.toNat_natCast, Int.toNat_zero, Int.toNat_one, List.append_nil, reduceCtorEq, Nat.reduceEqDiff, Nat.reduceBEq, Bool.or_false, Bool.false_or, Bool.true_or, Bool.or_true, some_vI, Int.le_refl, Nat.le_refl, false_or, or_false, Int.reduceLE, Int.reduceLT, Int.reduceEq, Int.zero_le_ofNat, and_self, if_true, if_false, false_and, and_false, not_true_eq_false, not_false_eq_true, false_implies, forall_const, shA, c1, el] | with_reducible apply And.intro
        all_goals first | exact True.intro | omega | exact nx | (refine Wp.cast nx ?_ rfl; simp only [List.cons.injEq, some_vI, true_and, and_true]; first | exact True.intro | omega | (rw [w32_id (by omega) (by omega)]; omega))
      · rw [if_neg c3] at nx
        simp only [c156, rlA, KF_s, KF_0, elN_n, elN_c, ↓reduceIte, Bool.false_eq_true, Int.reduceToNat, lk_c, lk_n, sw_c, sw_n, List.getD_cons_zero, List.getD_cons_succ, fv_0, fv_1, fv_2, fv_r, pf_0, pf_2, Option.toList_some, Option.toList_none, List.cons_append, List.nil_append, stK_n, stK_i, stK_r, true_and, and_true, true_or, or_true, List.length_nil, List.length_cons, Nat.zero_add, Nat.reduceAdd, Nat.reduceLeDiff, bi_0, bi_1, bi_01, em_1, em_2, cmp64_0, cmp64_lt, cmp64_gt, hu_ap, ne_a1, ne_a2, Decidable.not_not, Int.reduceAdd, Int.reduceNeg, Int.toNat_natCast, Int.toNat_zero, Int.toNat_one, List.append_nil, reduceCtorEq, Nat.reduceEqDiff, Nat.reduceBEq, Bool.or_false, Bool.false_or, Bool.true_or, Bool.or_true, some_vI, Int.le_refl, Nat.le_refl, false_or, or_false, Int.reduceLE, Int.reduceLT, Int.reduceEq, Int.zero_le_ofNat, and_self, if_true, if_false, false_and, and_false, not_true_eq_false, not_false_eq_true, false_implies, forall_const, shA, c1, c3, el]
        repeat' first | with_reducible intro _ | (refine call_of (d' := d - 1) (by omega) (m_isThere ha haa hp (by omega)) ?_) | (refine call_of (d' := d - 1) (by omega) (m_stepsY ha haa hp hi c1 (by omega) c2 (by omega)) ?_) | simp only [c156, rlA, KF_s, KF_0, elN_n, elN_c, ↓reduceIte, Bool.false_eq_true, Int.reduceToNat, lk_c, lk_n, sw_c, sw_n, List.getD_cons_zero, List.getD_cons_succ, fv_0, fv_1, fv_2, fv_r, pf_0, pf_2, Option.toList_some, Option.toList_none, List.cons_append, List.nil_append, stK_n, stK_i, stK_r, true_and, and_true, true_or, or_true, List.length_nil, List.length_cons, Nat.zero_add, Nat.reduceAdd, Nat.reduceLeDiff, bi_0, bi_1, bi_01, em_1, em_2, cmp64_0, cmp64_lt, cmp64_gt, hu_ap, ne_a1, ne_a2, Decidable.not_not, Int.reduceAdd, Int.reduceNeg, Int.toNat_natCast, Int.toNat_zero, Int.toNat_one, List.append_nil, reduceCtorEq, Nat.reduceEqDiff, Nat.reduceBEq, Bool.or_false, Bool.false_or, Bool.true_or, Bool.or_true, some_vI, Int.le_refl, Nat.le_refl, false_or, or_false, Int.reduceLE, Int.reduceLT, Int.reduceEq, Int.zero_le_ofNat, and_self, if_true, if_false, false_and, and_false, not_true_eq_false, not_false_eq_true, false_implies, forall_const, shA, c1, c3, el] | with_reducible apply And.intro
        all_goals first | exact True.intro | omega | exact nx
    · have c2' : stB hh aa pp = false := by simpa using c2
      have gl : gsL aa pp (kk + 1) lf hh = (false, hh) := by rw [gsL, if_neg (fun z => c2 z.2.2)]
      rw [gl] at hQ
      have base := m_goesEnd (G := G) (l := l) (d := d) (lf := 0) ha haa hp hw hwt (by omega) hQ
      have again : Wp G l 156 d 20 [some (vR 82), some (vI pp), some (vI wt), some (vI 0)] [] hh Q := by
        refine Wp.go [20, 63] 20 ok_156 ?_
        simp only [c156, rlA, KF_s, KF_0, elN_n, elN_c, ↓reduceIte, Bool.false_eq_true, Int.reduceToNat, lk_c, lk_n, sw_c, sw_n, List.getD_cons_zero, List.getD_cons_succ, fv_0, fv_1, fv_2, fv_r, pf_0, pf_2, Option.toList_some, Option.toList_none, List.cons_append, List.nil_append, stK_n, stK_i, stK_r, true_and, and_true, true_or, or_true, List.length_nil, List.length_cons, Nat.zero_add, Nat.reduceAdd, Nat.reduceLeDiff, bi_0, bi_1, bi_01, em_1, em_2, cmp64_0, cmp64_lt, cmp64_gt, hu_ap, ne_a1, ne_a2, Decidable.not_not, Int.reduceAdd, Int.reduceNeg, Int.toNat_natCast, Int.toNat_zero, Int.toNat_one, List.append_nil, reduceCtorEq, Nat.reduceEqDiff, Nat.reduceBEq, Bool.or_false, Bool.false_or, Bool.true_or, Bool.or_true, some_vI, Int.le_refl, Nat.le_refl, false_or, or_false, Int.reduceLE, Int.reduceLT, Int.reduceEq, Int.zero_le_ofNat, and_self, if_true, if_false, false_and, and_false, not_true_eq_false, not_false_eq_true, false_implies, forall_const, shA]
        repeat' first | with_reducible intro _ | with_reducible apply And.intro
        all_goals first | exact True.intro | omega | exact base
      refine Wp.go [20, 63] 20 ok_156 ?_
      simp only [c156, rlA, KF_s, KF_0, elN_n, elN_c, ↓reduceIte, Bool.false_eq_true, Int.reduceToNat, lk_c, lk_n, sw_c, sw_n, List.getD_cons_zero, List.getD_cons_succ, fv_0, fv_1, fv_2, fv_r, pf_0, pf_2, Option.toList_some, Option.toList_none, List.cons_append, List.nil_append, stK_n, stK_i, stK_r, true_and, and_true, true_or, or_true, List.length_nil, List.length_cons, Nat.zero_add, Nat.reduceAdd, Nat.reduceLeDiff, bi_0, bi_1, bi_01, em_1, em_2, cmp64_0, cmp64_lt, cmp64_gt, hu_ap, ne_a1, ne_a2, Decidable.not_not, Int.reduceAdd, Int.reduceNeg, Int.toNat_natCast, Int.toNat_zero, Int.toNat_one, List.append_nil, reduceCtorEq, Nat.reduceEqDiff, Nat.reduceBEq, Bool.or_false, Bool.false_or, Bool.true_or, Bool.or_true, some_vI, Int.le_refl, Nat.le_refl, false_or, or_false, Int.reduceLE, Int.reduceLT, Int.reduceEq, Int.zero_le_ofNat, and_self, if_true, if_false, false_and, and_false, not_true_eq_false, not_false_eq_true, false_implies, forall_const, shA, c1]
      repeat' first | with_reducible intro _ | (refine call_of (d' := d - 1) (by omega) (m_isThere ha haa hp (by omega)) ?_) | (refine call_of (d' := d - 1) (by omega) (m_stepsN ha haa hp hi c1 (by omega) c2' (by omega)) ?_) | simp only [c156, rlA, KF_s, KF_0, elN_n, elN_c, ↓reduceIte, Bool.false_eq_true, Int.reduceToNat, lk_c, lk_n, sw_c, sw_n, List.getD_cons_zero, List.getD_cons_succ, fv_0, fv_1, fv_2, fv_r, pf_0, pf_2, Option.toList_some, Option.toList_none, List.cons_append, List.nil_append, stK_n, stK_i, stK_r, true_and, and_true, true_or, or_true, List.length_nil, List.length_cons, Nat.zero_add, Nat.reduceAdd, Nat.reduceLeDiff, bi_0, bi_1, bi_01, em_1, em_2, cmp64_0, cmp64_lt, cmp64_gt, hu_ap, ne_a1, ne_a2, Decidable.not_not, Int.reduceAdd, Int.reduceNeg, Int.toNat_natCast, Int.toNat_zero, Int.toNat_one, List.append_nil, reduceCtorEq, Nat.reduceEqDiff, Nat.reduceBEq, Bool.or_false, Bool.false_or, Bool.true_or, Bool.or_true, some_vI, Int.le_refl, Nat.le_refl, false_or, or_false, Int.reduceLE, Int.reduceLT, Int.reduceEq, Int.zero_le_ofNat, and_self, if_true, if_false, false_and, and_false, not_true_eq_false, not_false_eq_true, false_implies, forall_const, shA, c1] | with_reducible apply And.intro
      all_goals first | exact True.intro | omega | exact again
theorem mayF_r (k a m : Int) : 0 ≤ mayF k a m ∧ mayF k a m ≤ 4 := by unfold mayF; (repeat' split) <;> omega
set_option maxHeartbeats 4000000 in
theorem m_goes {aa pp : Nat} (ha : h 82 9 = (aa : Int)) (haa : aa ≤ 41) (hp : pp < 8) (hi : stI h aa pp) (hw : 0 ≤ h 100 pp ∧ h 100 pp ≤ 2000000000) (hd : 3 ≤ d) : CallR G l d 156 [vR 82, vI pp] h (fun r h' => r = none ∧ h' = goesM h aa pp) := by
  refine in156 [20] 20 fun _ hO => ?_
  have mr := mayF_r (h 86 pp) (h 87 pp) (h 88 aa)
  have lp : ∀ wt : Int, wt = bi (¬ h 88 (aa + 1 + pp) = h 88 (aa + 9 + pp)) → Wp G l 156 d 20 [some (vR 82), some (vI pp), some (vI wt), some (vI (mayF (h 86 pp) (h 87 pp) (h 88 aa)))] [] h (fun r h' => r = none ∧ h' = goesM h aa pp) := fun wt hwt => m_goesLoop (G := G) (l := l) (Q := fun r h' => r = none ∧ h' = goesM h aa pp) haa hp hd 3 (mayF (h 86 pp) (h 87 pp) (h 88 aa)) wt h (by omega) (by omega) (by rw [hwt]; unfold bi; split <;> omega) ha hi hw ⟨rfl, by
    unfold goesM
    congr 2
    rw [hwt]
    by_cases c : (gsL aa pp 3 (mayF (h 86 pp) (h 87 pp) (h 88 aa)) h).1 = true <;> by_cases c2 : h 88 (aa + 1 + pp) = h 88 (aa + 9 + pp) <;> simp [bi, c, c2]⟩
  simp only [c156, rlA, KF_s, KF_0, elN_n, elN_c, ↓reduceIte, Bool.false_eq_true, Int.reduceToNat, lk_c, lk_n, sw_c, sw_n, List.getD_cons_zero, List.getD_cons_succ, fv_0, fv_1, fv_2, fv_r, pf_0, pf_2, Option.toList_some, Option.toList_none, List.cons_append, List.nil_append, stK_n, stK_i, stK_r, true_and, and_true, true_or, or_true, List.length_nil, List.length_cons, Nat.zero_add, Nat.reduceAdd, Nat.reduceLeDiff, bi_0, bi_1, bi_01, em_1, em_2, cmp64_0, cmp64_lt, cmp64_gt, hu_ap, ne_a1, ne_a2, Decidable.not_not, Int.reduceAdd, Int.reduceNeg, Int.toNat_natCast, Int.toNat_zero, Int.toNat_one, List.append_nil, reduceCtorEq, Nat.reduceEqDiff, Nat.reduceBEq, Bool.or_false, Bool.false_or, Bool.true_or, Bool.or_true, some_vI, Int.le_refl, Nat.le_refl, false_or, or_false, Int.reduceLE, Int.reduceLT, Int.reduceEq, Int.zero_le_ofNat, and_self, if_true, if_false, false_and, and_false, not_true_eq_false, not_false_eq_true, false_implies, forall_const, shA]
  repeat' first | with_reducible intro _ | (refine call_of (d' := d - 1) (by omega) (m_isThere ha haa hp (by omega)) ?_) | (refine call_of (d' := d - 1) (by omega) (m_mayGo ha haa hp (by omega)) ?_) | simp only [c156, rlA, KF_s, KF_0, elN_n, elN_c, ↓reduceIte, Bool.false_eq_true, Int.reduceToNat, lk_c, lk_n, sw_c, sw_n, List.getD_cons_zero, List.getD_cons_succ, fv_0, fv_1, fv_2, fv_r, pf_0, pf_2, Option.toList_some, Option.toList_none, List.cons_append, List.nil_append, stK_n, stK_i, stK_r, true_and, and_true, true_or, or_true, List.length_nil, List.length_cons, Nat.zero_add, Nat.reduceAdd, Nat.reduceLeDiff, bi_0, bi_1, bi_01, em_1, em_2, cmp64_0, cmp64_lt, cmp64_gt, hu_ap, ne_a1, ne_a2, Decidable.not_not, Int.reduceAdd, Int.reduceNeg, Int.toNat_natCast, Int.toNat_zero, Int.toNat_one, List.append_nil, reduceCtorEq, Nat.reduceEqDiff, Nat.reduceBEq, Bool.or_false, Bool.false_or, Bool.true_or, Bool.or_true, some_vI, Int.le_refl, Nat.le_refl, false_or, or_false, Int.reduceLE, Int.reduceLT, Int.reduceEq, Int.zero_le_ofNat, and_self, if_true, if_false, false_and, and_false, not_true_eq_false, not_false_eq_true, false_implies, forall_const, shA] | with_reducible apply And.intro
  all_goals first | exact True.intro | omega | (refine lp _ ?_; simp [bi, *])
end L2K
