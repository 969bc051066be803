section L2E
variable {G : GD} {l : Launch} {d : Nat} {h : AH}
def entB (h : AH) (tt pp : Nat) : Bool := if h (tt + 3) pp < h (tt + 4) pp
  then decide (h (tt + 3) pp < 9 ∧ ¬ and32 (shr32 (h 34 7) (h (tt + 3) pp)) 1 = 1 ∧ h 39 (h (tt + 3) pp).toNat + h 37 pp ≤ h tt 12)
  else decide (0 ≤ h (tt + 3) pp - 1 ∧ ¬ and32 (shr32 (h 34 7) (h (tt + 3) pp - 1)) 1 = 1 ∧ h 40 (h (tt + 3) pp - 1).toNat + h 37 pp ≤ h tt 12)
theorem entB_t {h : AH} {tt pp : Nat} : entB h tt pp = true ↔ entP h tt pp := by
  unfold entB entP
  split <;> exact decide_eq_true_iff
/-- what a walk of one in a tower needs, and keeps -/
def goI (h : AH) (tt pp : Nat) : Prop := (0 ≤ h (tt + 3) pp ∧ h (tt + 3) pp ≤ 9) ∧ (0 ≤ h (tt + 4) pp ∧ h (tt + 4) pp ≤ 9) ∧ (∀ j, 0 ≤ h 39 j ∧ h 39 j ≤ 1000) ∧ (∀ j, 0 ≤ h 40 j ∧ h 40 j ≤ 1000) ∧ (0 ≤ h 37 pp ∧ h 37 pp ≤ 2) ∧ h tt 12 ≤ 9
theorem isT_lt {tt : Nat} (ht : isT tt) : 1 ≤ tt ∧ tt ≤ 23 := by rcases ht with rfl | rfl | rfl <;> omega
theorem goI_ent {h : AH} {tt pp : Nat} (ht : isT tt) (hi : goI h tt pp) (hy : entP h tt pp) : goI (entH h tt pp) tt pp := by
  obtain ⟨h1, h2, h3, h4, h5, h6⟩ := hi
  have hl := isT_lt ht
  unfold entP at hy
  unfold entH
  have q1 := h3 (h (tt + 3) pp).toNat
  have q2 := h4 (h (tt + 3) pp - 1).toNat
  by_cases c : h (tt + 3) pp < h (tt + 4) pp
  · rw [if_pos c] at hy ⊢
    refine ⟨?_, ?_, ?_, ?_, ?_, ?_⟩ <;> intros <;> simp only [hu_ap] <;> (repeat' split) <;> first | omega | (have := h3 (by assumption); omega) | exact h3 _ | exact h4 _
  · rw [if_neg c] at hy ⊢
    refine ⟨?_, ?_, ?_, ?_, ?_, ?_⟩ <;> intros <;> simp only [hu_ap] <;> (repeat' split) <;> first | omega | exact h3 _ | exact h4 _
theorem goI_step {h : AH} {tt pp : Nat} (ht : isT tt) (hi : goI h tt pp) (hn : ¬ h (tt + 3) pp = h (tt + 4) pp) : goI (stepX h tt pp) tt pp := by
  obtain ⟨h1, h2, h3, h4, h5, h6⟩ := hi
  have hl := isT_lt ht
  unfold stepX
  split
  · refine ⟨?_, ?_, ?_, ?_, ?_, ?_⟩ <;> intros <;> simp only [hu_ap] <;> (repeat' split) <;> first | omega | exact h3 _ | exact h4 _
  · refine ⟨?_, ?_, ?_, ?_, ?_, ?_⟩ <;> intros <;> simp only [hu_ap] <;> (repeat' split) <;> first | omega | exact h3 _ | exact h4 _
def goL (tt pp : Nat) : Nat → AH → Nat × AH
  | 0, h => (0, h)
  | k + 1, h => if ¬ h (tt + 3) pp = h (tt + 4) pp ∧ entB h tt pp = true then ((goL tt pp k (stepX (entH h tt pp) tt pp)).1 + 1, (goL tt pp k (stepX (entH h tt pp) tt pp)).2) else (0, h)
/-- behind the walk: waited, arrived -/
def goE (h : AH) (tt pp : Nat) : AH := if h (tt + 3) pp = h (tt + 4) pp then hu (hu h (tt + 7) pp (h tt 13)) 34 8 (h 34 8 - 1) else h
def goW (r : Nat × AH) (pp : Nat) : AH := if r.1 = 0 then hu r.2 38 pp (r.2 38 pp + 1) else r.2
def goX (h : AH) (tt pp : Nat) : AH := if h (tt + 3) pp = h (tt + 4) pp then goE h tt pp else goE (goW (goL tt pp (stepsF (h (tt + 1) pp) (h (tt + 2) pp) (h tt 13)).toNat h) pp) tt pp
theorem entH_o (h : AH) (tt pp a c : Nat) (ha : a ≠ 39 ∧ a ≠ 40 ∧ a ≠ 41) : entH h tt pp a c = h a c := by
  unfold entH; split <;> simp only [hu_ap] <;> rw [if_neg (by omega), if_neg (by omega)]
theorem stepX_o (h : AH) (tt pp a c : Nat) (ha : a ≠ tt + 3 ∧ a ≠ tt + 6) : stepX h tt pp a c = h a c := by
  unfold stepX; split <;> simp only [hu_ap] <;> (repeat rw [if_neg (by omega)])
theorem goL_o (tt pp : Nat) (a c : Nat) (ha : a ≠ 39 ∧ a ≠ 40 ∧ a ≠ 41 ∧ a ≠ tt + 3 ∧ a ≠ tt + 6) : ∀ (k : Nat) (h : AH), (goL tt pp k h).2 a c = h a c
  | 0, _ => rfl
  | k + 1, h => by
    unfold goL
    split
    · show (goL tt pp k (stepX (entH h tt pp) tt pp)).2 a c = h a c
      rw [goL_o tt pp a c ha k, stepX_o _ _ _ _ _ (by omega), entH_o _ _ _ _ _ (by omega)]
    · rfl
theorem stepsF_r (k a m : Int) : 0 ≤ stepsF k a m ∧ stepsF k a m ≤ 2 := by unfold stepsF; (repeat' split) <;> omega
theorem goW_o (r : Nat × AH) (pp a c : Nat) (ha : a ≠ 38) : goW r pp a c = r.2 a c := by unfold goW; split <;> simp only [hu_ap] <;> (try rw [if_neg (by omega)])
theorem goE_W {tt pp gn : Nat} {hh : AH} (ht : isT tt) : goE (goW (gn, hh) pp) tt pp = if hh (tt + 3) pp = hh (tt + 4) pp then hu (hu (goW (gn, hh) pp) (tt + 7) pp (hh tt 13)) 34 8 (hh 34 8 - 1) else goW (gn, hh) pp := by
  have hl := isT_lt ht
  unfold goE
  rw [goW_o _ _ _ _ (by omega), goW_o _ _ _ _ (by omega), goW_o _ _ _ _ (by omega), goW_o _ _ _ _ (by omega)]
set_option maxHeartbeats 4000000 in
theorem s_goEnd {tt pp gn : Nat} {sv : Int} {hh : AH} {Q : Option AV → AH → Prop} (ht : isT tt) (hp : pp < 8) (hw : 0 ≤ hh 38 pp ∧ hh 38 pp ≤ 100000) (ho : -100000 ≤ hh 34 8 ∧ hh 34 8 ≤ 100000) (hQ : Q none (goE (goW (gn, hh) pp) tt pp)) : Wp G l 23 d 80 [some (vR 34), some (vR tt), some (vI pp), some (vI sv), some (vI gn)] [] hh Q := by
  refine Wp.go [38] 20 ok_23 ?_
  have hl := isT_lt ht
  have e8 : w32 (hh 38 pp + 1) = hh 38 pp + 1 := w32_id (by omega) (by omega)
  have e9 : w32 (hh 34 8 - 1) = hh 34 8 - 1 := w32_id (by omega) (by omega)
  have n1 : (tt + 7 = 34) = False := by simp; omega
  have n2 : (34 = tt + 7) = False := by simp; omega
  have n3 : (tt + 3 = 38) = False := by simp; omega
  have n4 : (tt + 4 = 38) = False := by simp; omega
  have n5 : (tt = 38) = False := by simp; omega
  rw [goE_W ht] at hQ
  have w0 : (gn : Int) = 0 → goW (gn, hh) pp = hu hh 38 pp (hh 38 pp + 1) := fun z => if_pos (show gn = 0 by omega)
  have w1 : ¬ (gn : Int) = 0 → goW (gn, hh) pp = hh := fun z => if_neg (show ¬ gn = 0 by omega)
  simp only [c23, rlA, KF_s, KF_0, elN_n, elN_c, ↓reduceIte, Bool.false_eq_true, Int.reduceToNat, lk_c, lk_n, sw_c, sw_n, List.getD_cons_zero, List.getD_cons_succ, fv_0, fv_1, fv_2, fv_r, pf_0, pf_2, Option.toList_some, Option.toList_none, List.cons_append, List.nil_append, stK_n, stK_i, stK_r, true_and, and_true, true_or, or_true, List.length_nil, List.length_cons, Nat.zero_add, Nat.reduceAdd, Nat.reduceLeDiff, bi_0, bi_1, bi_01, em_1, em_2, cmp64_0, cmp64_lt, cmp64_gt, hu_ap, ne_a1, ne_a2, Decidable.not_not, Int.reduceAdd, Int.reduceNeg, Int.toNat_natCast, Int.toNat_zero, Int.toNat_one, List.append_nil, reduceCtorEq, Nat.reduceEqDiff, Nat.reduceBEq, Bool.or_false, Bool.false_or, Bool.true_or, Bool.or_true, some_vI, Int.le_refl, Nat.le_refl, false_or, or_false, Int.reduceLE, Int.reduceLT, Int.reduceEq, Int.zero_le_ofNat, and_self, if_true, if_false, false_and, and_false, not_true_eq_false, not_false_eq_true, false_implies, forall_const, shT ht, shA, e8, e9, n1, n2, n3, n4, n5]
  repeat' first | with_reducible intro _ | with_reducible apply And.intro
  all_goals first | exact True.intro | omega | (rw [if_pos (by assumption), w0 (by assumption)] at hQ; exact hQ) | (rw [if_neg (by assumption), w0 (by assumption)] at hQ; exact hQ) | (rw [if_pos (by assumption), w1 (by assumption)] at hQ; exact hQ) | (rw [if_neg (by assumption), w1 (by assumption)] at hQ; exact hQ)
set_option maxHeartbeats 4000000 in
theorem s_goLoop {tt pp : Nat} {Q : Option AV → AH → Prop} (ht : isT tt) (hp : pp < 8) (hd : 2 ≤ d) : ∀ (kk gn : Nat) (hh : AH), kk + gn ≤ 2 → goI hh tt pp → (0 ≤ hh 38 pp ∧ hh 38 pp ≤ 100000) → (-100000 ≤ hh 34 8 ∧ hh 34 8 ≤ 100000) → Q none (goE (goW (gn + (goL tt pp kk hh).1, (goL tt pp kk hh).2) pp) tt pp) → Wp G l 23 d 38 [some (vR 34), some (vR tt), some (vI pp), some (vI ((kk + gn : Nat) : Int)), some (vI gn)] [] hh Q := by
  intro kk
  induction kk with
  | zero =>
    intro gn hh hk hi hw ho hQ
    have base := s_goEnd (G := G) (l := l) (d := d) (sv := ((0 + gn : Nat) : Int)) ht hp hw ho hQ
    refine Wp.go [38, 80] 20 ok_23 ?_
    simp only [c23, rlA, KF_s, KF_0, elN_n, elN_c, ↓reduceIte, Bool.false_eq_true, Int.reduceToNat, lk_c, lk_n, sw_c, sw_n, List.getD_cons_zero, List.getD_cons_succ, fv_0, fv_1, fv_2, fv_r, pf_0, pf_2, Option.toList_some, Option.toList_none, List.cons_append, List.nil_append, stK_n, stK_i, stK_r, true_and, and_true, true_or, or_true, List.length_nil, List.length_cons, Nat.zero_add, Nat.reduceAdd, Nat.reduceLeDiff, bi_0, bi_1, bi_01, em_1, em_2, cmp64_0, cmp64_lt, cmp64_gt, hu_ap, ne_a1, ne_a2, Decidable.not_not, Int.reduceAdd, Int.reduceNeg, Int.toNat_natCast, Int.toNat_zero, Int.toNat_one, List.append_nil, reduceCtorEq, Nat.reduceEqDiff, Nat.reduceBEq, Bool.or_false, Bool.false_or, Bool.true_or, Bool.or_true, some_vI, Int.le_refl, Nat.le_refl, false_or, or_false, Int.reduceLE, Int.reduceLT, Int.reduceEq, Int.zero_le_ofNat, and_self, if_true, if_false, false_and, and_false, not_true_eq_false, not_false_eq_true, false_implies, forall_const, shT ht, shA]
    repeat' first | with_reducible intro _ | with_reducible apply And.intro
    all_goals first | exact True.intro | omega | (refine Wp.cast base ?_ rfl; simp only [List.cons.injEq, some_vI, true_and, and_true, goL]; omega)
  | succ kk ih =>
    intro gn hh hk hi hw ho hQ
    have hl := isT_lt ht
    obtain ⟨i1, i2, i3, i4, i5, i6⟩ := id hi
    have eg : w32 ((gn : Int) + 1) = ((gn + 1 : Nat) : Int) := w_s gn (by omega)
    refine Wp.go [38, 80] 20 ok_23 ?_
    by_cases c1 : hh (tt + 3) pp = hh (tt + 4) pp
    · have gl : goL tt pp (kk + 1) hh = (0, hh) := by unfold goL; rw [if_neg (fun z => z.1 c1)]
      rw [gl] at hQ
      have base := s_goEnd (G := G) (l := l) (d := d) (gn := gn) (sv := ((kk + 1 + gn : Nat) : Int)) ht hp hw ho hQ
      simp only [c23, rlA, KF_s, KF_0, elN_n, elN_c, ↓reduceIte, Bool.false_eq_true, Int.reduceToNat, lk_c, lk_n, sw_c, sw_n, List.getD_cons_zero, List.getD_cons_succ, fv_0, fv_1, fv_2, fv_r, pf_0, pf_2, Option.toList_some, Option.toList_none, List.cons_append, List.nil_append, stK_n, stK_i, stK_r, true_and, and_true, true_or, or_true, List.length_nil, List.length_cons, Nat.zero_add, Nat.reduceAdd, Nat.reduceLeDiff, bi_0, bi_1, bi_01, em_1, em_2, cmp64_0, cmp64_lt, cmp64_gt, hu_ap, ne_a1, ne_a2, Decidable.not_not, Int.reduceAdd, Int.reduceNeg, Int.toNat_natCast, Int.toNat_zero, Int.toNat_one, List.append_nil, reduceCtorEq, Nat.reduceEqDiff, Nat.reduceBEq, Bool.or_false, Bool.false_or, Bool.true_or, Bool.or_true, some_vI, Int.le_refl, Nat.le_refl, false_or, or_false, Int.reduceLE, Int.reduceLT, Int.reduceEq, Int.zero_le_ofNat, and_self, if_true, if_false, false_and, and_false, not_true_eq_false, not_false_eq_true, false_implies, forall_const, shT ht, shA, c1]
      repeat' first | with_reducible intro _ | with_reducible apply And.intro
      all_goals first | exact True.intro | omega | exact base
    · by_cases c2 : entP hh tt pp
      · have gl : goL tt pp (kk + 1) hh = ((goL tt pp kk (stepX (entH hh tt pp) tt pp)).1 + 1, (goL tt pp kk (stepX (entH hh tt pp) tt pp)).2) := by
          rw [goL, if_pos ⟨c1, entB_t.mpr c2⟩]
        rw [gl] at hQ
        have j1 := goI_ent ht hi c2
        have c3 : ¬ entH hh tt pp (tt + 3) pp = entH hh tt pp (tt + 4) pp := by rw [entH_o _ _ _ _ _ (by omega), entH_o _ _ _ _ _ (by omega)]; exact c1
        have j2 := goI_step ht j1 c3
        have j3 : stepX (entH hh tt pp) tt pp 38 pp = hh 38 pp := by rw [stepX_o _ _ _ _ _ (by omega), entH_o _ _ _ _ _ (by omega)]
        have j4 : stepX (entH hh tt pp) tt pp 34 8 = hh 34 8 := by rw [stepX_o _ _ _ _ _ (by omega), entH_o _ _ _ _ _ (by omega)]
        have nx := ih (gn + 1) _ (by omega) j2 (by rw [j3]; exact hw) (by rw [j4]; exact ho) (by
          have e0 : gn + 1 + (goL tt pp kk (stepX (entH hh tt pp) tt pp)).1 = gn + ((goL tt pp kk (stepX (entH hh tt pp) tt pp)).1 + 1) := by omega
          rw [e0]; exact hQ)
        simp only [c23, rlA, KF_s, KF_0, elN_n, elN_c, ↓reduceIte, Bool.false_eq_true, Int.reduceToNat, lk_c, lk_n, sw_c, sw_n, List.getD_cons_zero, List.getD_cons_succ, fv_0, fv_1, fv_2, fv_r, pf_0, pf_2, Option.toList_some, Option.toList_none, List.cons_append, List.nil_append, stK_n, stK_i, stK_r, true_and, and_true, true_or, or_true, List.length_nil, List.length_cons, Nat.zero_add, Nat.reduceAdd, Nat.reduceLeDiff, bi_0, bi_1, bi_01, em_1, em_2, cmp64_0, cmp64_lt, cmp64_gt, hu_ap, ne_a1, ne_a2, Decidable.not_not, Int.reduceAdd, Int.reduceNeg, Int.toNat_natCast, Int.toNat_zero, Int.toNat_one, List.append_nil, reduceCtorEq, Nat.reduceEqDiff, Nat.reduceBEq, Bool.or_false, Bool.false_or, Bool.true_or, Bool.or_true, some_vI, Int.le_refl, Nat.le_refl, false_or, or_false, Int.reduceLE, Int.reduceLT, Int.reduceEq, Int.zero_le_ofNat, and_self, if_true, if_false, false_and, and_false, not_true_eq_false, not_false_eq_true, false_implies, forall_const, shT ht, shA, c1, eg]
        repeat' first | with_reducible intro _ | (refine call_of (d' := d - 1) (by omega) (s_entersY ht hp i1 i3 i4 i5 c2) ?_) | (refine call_of (d' := d - 1) (by omega) (s_step ht hp j1.1 (by omega)) ?_) | simp only [c23, rlA, KF_s, KF_0, elN_n, elN_c, ↓reduceIte, Bool.false_eq_true, Int.reduceToNat, lk_c, lk_n, sw_c, sw_n, List.getD_cons_zero, List.getD_cons_succ, fv_0, fv_1, fv_2, fv_r, pf_0, pf_2, Option.toList_some, Option.toList_none, List.cons_append, List.nil_append, stK_n, stK_i, stK_r, true_and, and_true, true_or, or_true, List.length_nil, List.length_cons, Nat.zero_add, Nat.reduceAdd, Nat.reduceLeDiff, bi_0, bi_1, bi_01, em_1, em_2, cmp64_0, cmp64_lt, cmp64_gt, hu_ap, ne_a1, ne_a2, Decidable.not_not, Int.reduceAdd, Int.reduceNeg, Int.toNat_natCast, Int.toNat_zero, Int.toNat_one, List.append_nil, reduceCtorEq, Nat.reduceEqDiff, Nat.reduceBEq, Bool.or_false, Bool.false_or, Bool.true_or, Bool.or_true, some_vI, Int.le_refl, Nat.le_refl, false_or, or_false, Int.reduceLE, Int.reduceLT, Int.reduceEq, Int.zero_le_ofNat, and_self, if_true, if_false, false_and, and_false, not_true_eq_false, not_false_eq_true, false_implies, forall_const, shT ht, shA, c1, eg] | with_reducible apply And.intro
        all_goals first | exact True.intro | omega | (refine Wp.cast nx ?_ rfl; simp only [List.cons.injEq, some_vI, true_and, and_true]; omega)
      · have gl : goL tt pp (kk + 1) hh = (0, hh) := by unfold goL; rw [if_neg (fun z => c2 (entB_t.mp z.2))]
        rw [gl] at hQ
        have base := s_goEnd (G := G) (l := l) (d := d) (gn := gn) (sv := ((kk + 1 + gn : Nat) : Int)) ht hp hw ho hQ
        simp only [c23, rlA, KF_s, KF_0, elN_n, elN_c, ↓reduceIte, Bool.false_eq_true, Int.reduceToNat, lk_c, lk_n, sw_c, sw_n, List.getD_cons_zero, List.getD_cons_succ, fv_0, fv_1, fv_2, fv_r, pf_0, pf_2, Option.toList_some, Option.toList_none, List.cons_append, List.nil_append, stK_n, stK_i, stK_r, true_and, and_true, true_or, or_true, List.length_nil, List.length_cons, Nat.zero_add, Nat.reduceAdd, Nat.reduceLeDiff, bi_0, bi_1, bi_01, em_1, em_2, cmp64_0, cmp64_lt, cmp64_gt, hu_ap, ne_a1, ne_a2, Decidable.not_not, Int.reduceAdd, Int.reduceNeg, Int.toNat_natCast, Int.toNat_zero, Int.toNat_one, List.append_nil, reduceCtorEq, Nat.reduceEqDiff, Nat.reduceBEq, Bool.or_false, Bool.false_or, Bool.true_or, Bool.or_true, some_vI, Int.le_refl, Nat.le_refl, false_or, or_false, Int.reduceLE, Int.reduceLT, Int.reduceEq, Int.zero_le_ofNat, and_self, if_true, if_false, false_and, and_false, not_true_eq_false, not_false_eq_true, false_implies, forall_const, shT ht, shA, c1]
        repeat' first | with_reducible intro _ | (refine call_of (d' := d - 1) (by omega) (s_entersN ht hp i1 i3 i4 i5 c2) ?_) | simp only [c23, rlA, KF_s, KF_0, elN_n, elN_c, ↓reduceIte, Bool.false_eq_true, Int.reduceToNat, lk_c, lk_n, sw_c, sw_n, List.getD_cons_zero, List.getD_cons_succ, fv_0, fv_1, fv_2, fv_r, pf_0, pf_2, Option.toList_some, Option.toList_none, List.cons_append, List.nil_append, stK_n, stK_i, stK_r, true_and, and_true, true_or, or_true, List.length_nil, List.length_cons, Nat.zero_add, Nat.reduceAdd, Nat.reduceLeDiff, bi_0, bi_1, bi_01, em_1, em_2, cmp64_0, cmp64_lt, cmp64_gt, hu_ap, ne_a1, ne_a2, Decidable.not_not, Int.reduceAdd, Int.reduceNeg, Int.toNat_natCast, Int.toNat_zero, Int.toNat_one, List.append_nil, reduceCtorEq, Nat.reduceEqDiff, Nat.reduceBEq, Bool.or_false, Bool.false_or, Bool.true_or, Bool.or_true, some_vI, Int.le_refl, Nat.le_refl, false_or, or_false, Int.reduceLE, Int.reduceLT, Int.reduceEq, Int.zero_le_ofNat, and_self, if_true, if_false, false_and, and_false, not_true_eq_false, not_false_eq_true, false_implies, forall_const, shT ht, shA, c1] | with_reducible apply And.intro
        all_goals first | exact True.intro | omega | exact base
set_option maxHeartbeats 4000000 in
theorem s_go {tt pp : Nat} (ht : isT tt) (hp : pp < 8) (hi : goI h tt pp) (hw : 0 ≤ h 38 pp ∧ h 38 pp ≤ 100000) (ho : -100000 ≤ h 34 8 ∧ h 34 8 ≤ 100000) (hd : 2 ≤ d) : CallR G l d 23 [vR 34, vR tt, vI pp] h (fun r h' => r = none ∧ h' = goX h tt pp) := by
  refine in23 [38] 20 fun _ hO => ?_
  have hl := isT_lt ht
  have n1 : (tt + 7 = 34) = False := by simp; omega
  have n2 : (34 = tt + 7) = False := by simp; omega
  have e9 : w32 (h 34 8 - 1) = h 34 8 - 1 := w32_id (by omega) (by omega)
  by_cases c1 : h (tt + 3) pp = h (tt + 4) pp
  · simp only [c23, rlA, KF_s, KF_0, elN_n, elN_c, ↓reduceIte, Bool.false_eq_true, Int.reduceToNat, lk_c, lk_n, sw_c, sw_n, List.getD_cons_zero, List.getD_cons_succ, fv_0, fv_1, fv_2, fv_r, pf_0, pf_2, Option.toList_some, Option.toList_none, List.cons_append, List.nil_append, stK_n, stK_i, stK_r, true_and, and_true, true_or, or_true, List.length_nil, List.length_cons, Nat.zero_add, Nat.reduceAdd, Nat.reduceLeDiff, bi_0, bi_1, bi_01, em_1, em_2, cmp64_0, cmp64_lt, cmp64_gt, hu_ap, ne_a1, ne_a2, Decidable.not_not, Int.reduceAdd, Int.reduceNeg, Int.toNat_natCast, Int.toNat_zero, Int.toNat_one, List.append_nil, reduceCtorEq, Nat.reduceEqDiff, Nat.reduceBEq, Bool.or_false, Bool.false_or, Bool.true_or, Bool.or_true, some_vI, Int.le_refl, Nat.le_refl, false_or, or_false, Int.reduceLE, Int.reduceLT, Int.reduceEq, Int.zero_le_ofNat, and_self, if_true, if_false, false_and, and_false, not_true_eq_false, not_false_eq_true, false_implies, forall_const, shT ht, shA, c1, n1, n2, e9]
    repeat' first | with_reducible intro _ | with_reducible apply And.intro
    all_goals first | exact True.intro | omega | (unfold goX goE; rw [if_pos c1, if_pos c1])
  · have sr := stepsF_r (h (tt + 1) pp) (h (tt + 2) pp) (h tt 13)
    have lp := s_goLoop (G := G) (l := l) (Q := fun r h' => r = none ∧ h' = goX h tt pp) ht hp hd (stepsF (h (tt + 1) pp) (h (tt + 2) pp) (h tt 13)).toNat 0 h (by omega) hi hw ho ⟨rfl, by unfold goX; rw [if_neg c1, Nat.zero_add]⟩
    simp only [c23, rlA, KF_s, KF_0, elN_n, elN_c, ↓reduceIte, Bool.false_eq_true, Int.reduceToNat, lk_c, lk_n, sw_c, sw_n, List.getD_cons_zero, List.getD_cons_succ, fv_0, fv_1, fv_2, fv_r, pf_0, pf_2, Option.toList_some, Option.toList_none, List.cons_append, List.nil_append, stK_n, stK_i, stK_r, true_and, and_true, true_or, or_true, List.length_nil, List.length_cons, Nat.zero_add, Nat.reduceAdd, Nat.reduceLeDiff, bi_0, bi_1, bi_01, em_1, em_2, cmp64_0, cmp64_lt, cmp64_gt, hu_ap, ne_a1, ne_a2, Decidable.not_not, Int.reduceAdd, Int.reduceNeg, Int.toNat_natCast, Int.toNat_zero, Int.toNat_one, List.append_nil, reduceCtorEq, Nat.reduceEqDiff, Nat.reduceBEq, Bool.or_false, Bool.false_or, Bool.true_or, Bool.or_true, some_vI, Int.le_refl, Nat.le_refl, false_or, or_false, Int.reduceLE, Int.reduceLT, Int.reduceEq, Int.zero_le_ofNat, and_self, if_true, if_false, false_and, and_false, not_true_eq_false, not_false_eq_true, false_implies, forall_const, shT ht, shA, c1, n1, n2, e9]
    repeat' first | with_reducible intro _ | (refine call_of (d' := d - 1) (by omega) s_steps ?_) | simp only [c23, rlA, KF_s, KF_0, elN_n, elN_c, ↓reduceIte, Bool.false_eq_true, Int.reduceToNat, lk_c, lk_n, sw_c, sw_n, List.getD_cons_zero, List.getD_cons_succ, fv_0, fv_1, fv_2, fv_r, pf_0, pf_2, Option.toList_some, Option.toList_none, List.cons_append, List.nil_append, stK_n, stK_i, stK_r, true_and, and_true, true_or, or_true, List.length_nil, List.length_cons, Nat.zero_add, Nat.reduceAdd, Nat.reduceLeDiff, bi_0, bi_1, bi_01, em_1, em_2, cmp64_0, cmp64_lt, cmp64_gt, hu_ap, ne_a1, ne_a2, Decidable.not_not, Int.reduceAdd, Int.reduceNeg, Int.toNat_natCast, Int.toNat_zero, Int.toNat_one, List.append_nil, reduceCtorEq, Nat.reduceEqDiff, Nat.reduceBEq, Bool.or_false, Bool.false_or, Bool.true_or, Bool.or_true, some_vI, Int.le_refl, Nat.le_refl, false_or, or_false, Int.reduceLE, Int.reduceLT, Int.reduceEq, Int.zero_le_ofNat, and_self, if_true, if_false, false_and, and_false, not_true_eq_false, not_false_eq_true, false_implies, forall_const, shT ht, shA, c1, n1, n2, e9] | with_reducible apply And.intro
    all_goals first | exact True.intro | omega | (refine Wp.cast lp ?_ rfl; simp only [List.cons.injEq, some_vI, true_and, and_true]; omega)
end L2E
