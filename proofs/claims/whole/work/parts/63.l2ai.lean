section L2AI
variable {G : GD} {l : Launch} {d : Nat} {h : AH}
theorem tn3 (n : Nat) : (3 * (n : Int)).toNat = 3 * n := by omega
theorem tn31 (n : Nat) : (3 * (n : Int) + 1).toNat = 3 * n + 1 := by omega
theorem tn32 (n : Nat) : (3 * (n : Int) + 2).toNat = 3 * n + 2 := by omega
theorem tn74 (n : Nat) : ((41 : Int) + (33 + (n : Int))).toNat = 74 + n := by omega
theorem tn42 (n : Nat) : ((41 : Int) + (1 + (n : Int))).toNat = 42 + n := by omega
def setG (z : AH) : Nat → Int
  | 0 => 0
  | n + 1 => or32 (setG z n) (if z 88 (74 + n) < 0 then 0 else shl32 1 n)
def sumG (z : AH) : Nat → Int
  | 0 => 0
  | n + 1 => w32 (sumG z n + z 88 (42 + n))
def frY (x : AH) (i : Nat) : AH := goMo 41 1 (hu x 102 (3 * i) (x 88 41))
def frM (h : AH) : Nat → AH
  | 0 => hu (lendM h) 82 36 0
  | i + 1 => hu (hu (hu (frY (frM h i) i) 102 (3 * i + 1) (setG (frY (frM h i) i) (h 82 5).toNat)) 102 (3 * i + 2) (sumG (frY (frM h i) i) (h 82 5).toNat)) 82 36 ((i + 1 : Nat) : Int)
theorem frM_s (h : AH) (i : Nat) : frM h (i + 1) = hu (hu (hu (frY (frM h i) i) 102 (3 * i + 1) (setG (frY (frM h i) i) (h 82 5).toNat)) 102 (3 * i + 2) (sumG (frY (frM h i) i) (h 82 5).toNat)) 82 36 ((i + 1 : Nat) : Int) := rfl
theorem MG_cell {h' : AH} {aa : Nat} (e : ∀ a c, (a ≠ 82 ∨ c ≠ 36) → a ≠ 102 → h' a c = h a c) (hm : MG h aa) : MG h' aa := by
  obtain ⟨m1, m2, m3, m4, m5, m6, m7, ww, m8⟩ := hm
  refine ⟨by rw [e _ _ (by omega) (by omega)]; exact m1, by rw [e _ _ (by omega) (by omega)]; exact m2, by rw [e _ _ (by omega) (by omega)]; exact m3, by rw [e _ _ (by omega) (by omega)]; exact m4, fun c hc => ?_, fun c hc => ?_, fun j => by rw [e _ _ (by omega) (by omega)]; exact m7 j, ww, fun j => by rw [e _ _ (by omega) (by omega)]; exact m8 j⟩
  · rw [e _ _ (by omega) (by omega)] at hc
    have := m5 c hc
    unfold PG MH at *
    rw [e _ _ (by omega) (by omega), e _ _ (by omega) (by omega), e _ _ (by omega) (by omega), e _ _ (by omega) (by omega), e _ _ (by omega) (by omega), e _ _ (by omega) (by omega), e _ _ (by omega) (by omega)]
    exact this
  · rw [e _ _ (by omega) (by omega)] at hc
    unfold HG
    rw [e _ _ (by omega) (by omega), e _ _ (by omega) (by omega), e _ _ (by omega) (by omega)]
    exact m6 c hc
theorem fr_inv {W : Int} (hm : MG h 0) (hW : 0 ≤ W) (hw : ∀ j, 0 ≤ h 100 j ∧ h 100 j ≤ W) : ∀ i : Nat, h 88 0 + i ≤ 120 → MG (frM h i) 41 ∧ frM h i 82 9 = 41 ∧ (∀ j, 0 ≤ frM h i 100 j ∧ frM h i 100 j ≤ W + 120 * i) ∧ frM h i 82 36 = (i : Int) ∧ frM h i 88 41 = h 88 0 + i ∧ (∀ a c : Nat, a ≠ 98 → a ≠ 99 → a ≠ 100 → a ≠ 102 → (a ≠ 88 ∨ c < 41) → (a ≠ 82 ∨ c ≠ 36) → (a ≠ 82 ∨ c ≠ 9) → frM h i a c = h a c)
  | 0, _ => by
    obtain ⟨q1, q2, q3, q4⟩ := LG_lend hm hW hw
    have e : ∀ a c, (a ≠ 82 ∨ c ≠ 36) → a ≠ 102 → frM h 0 a c = lendM h a c := fun a c z1 z2 => by show hu (lendM h) 82 36 0 a c = _; exact hu_o (by omega)
    refine ⟨MG_cell e q1, by rw [e _ _ (by omega) (by omega)]; exact q2, fun j => by rw [e _ _ (by omega) (by omega)]; have := q3 j; omega, by show hu (lendM h) 82 36 0 82 36 = _; simp [hu], by rw [e _ _ (by omega) (by omega), lend41]; omega, fun a c z1 z2 z3 z4 z5 z6 z7 => by rw [e _ _ z6 z4]; exact lend_o _ _ (by omega)⟩
  | i + 1, hi => by
    obtain ⟨q1, q2, q3, q4, q5, q6⟩ := fr_inv hm hW hw i (by omega)
    have c1 : ∀ a c, (a ≠ 82 ∨ c ≠ 36) → a ≠ 102 → hu (frM h i) 102 (3 * i) (frM h i 88 41) a c = frM h i a c := fun a c z1 z2 => hu_o (by omega)
    have mg1 := MG_cell c1 q1
    have m9 : hu (frM h i) 102 (3 * i) (frM h i 88 41) 82 9 = ((41 : Nat) : Int) := by rw [c1 _ _ (by omega) (by omega)]; exact q2
    have mi1 : MI (hu (frM h i) 102 (3 * i) (frM h i 88 41)) 41 (W + 120 * i) := MG_MI mg1 m9 (fun j => by rw [c1 _ _ (by omega) (by omega)]; exact q3 j)
    obtain ⟨mg2, m92⟩ := MG_go (aa := 41) 1 _ mg1 m9
    have mi2 := MI_go (aa := 41) 1 _ _ mi1
    have y41 : frY (frM h i) i 88 41 = h 88 0 + i + 1 := by
      unfold frY
      rw [goMo_min 1 _ (by rw [c1 _ _ (by omega) (by omega), q5]; omega), c1 _ _ (by omega) (by omega), q5]; omega
    have yo : ∀ a c : Nat, a ≠ 98 → a ≠ 99 → a ≠ 100 → a ≠ 102 → (a ≠ 88 ∨ c < 41) → (a ≠ 82 ∨ c ≠ 36) → frY (frM h i) i a c = frM h i a c := fun a c z1 z2 z3 z4 z5 z6 => by
      unfold frY
      rw [goMo_o _ _ (by omega) _ _ mg1.1, c1 _ _ z6 z4]
    have e : ∀ a c, (a ≠ 82 ∨ c ≠ 36) → a ≠ 102 → frM h (i + 1) a c = frY (frM h i) i a c := fun a c z1 z2 => by rw [frM_s, hu_o (by omega), hu_o (by omega), hu_o (by omega)]
    refine ⟨MG_cell e mg2, by rw [e _ _ (by omega) (by omega)]; exact m92, fun j => by rw [e _ _ (by omega) (by omega)]; have := mi2.2.2.2.1 j; unfold frY; omega, by rw [frM_s]; simp [hu], by rw [e _ _ (by omega) (by omega), y41]; omega, fun a c z1 z2 z3 z4 z5 z6 z7 => by rw [e _ _ z6 z4, yo a c z1 z2 z3 z4 z5 z6]; exact q6 a c z1 z2 z3 z4 z5 z6 z7⟩
set_option maxHeartbeats 1600000 in
theorem m_findRows {nn cc : Nat} {W : Int} (hm : MG h 0) (hW : 0 ≤ W ∧ W ≤ 1700000000) (hw : ∀ j, 0 ≤ h 100 j ∧ h 100 j ≤ W) (hn : nn ≤ 20) (hc : (cc : Int) = min (nn : Int) (120 - h 88 0)) (hd : 6 ≤ d) : CallR G l d 181 [vR 82, vI nn] h (fun r h' => r = none ∧ h' = hu (frM h cc) 82 9 0) := by
  refine in181 [9, 55] 40 fun _ hO => ?_
  have h4 := hm.2.2.2.1
  have h8 := hm.1
  have fr := fr_inv hm hW.1 hw
  have loop : ∀ i : Nat, i ≤ cc → ∀ (p2 p3 p4 : Option AV), stK p2 = true → stK p3 = true → stK p4 = true → Wp G l 181 d 9 [some (vR 82), some (vI nn), p2, p3, p4] [] (frM h i) (fun r h' => r = none ∧ h' = hu (frM h cc) 82 9 0) := by
    refine down (X := fun i => ∀ (p2 p3 p4 : Option AV), stK p2 = true → stK p3 = true → stK p4 = true → Wp G l 181 d 9 [some (vR 82), some (vI nn), p2, p3, p4] [] (frM h i) (fun r h' => r = none ∧ h' = hu (frM h cc) 82 9 0)) cc ?_ ?_
    · intro p2 p3 p4 hp2 hp3 hp4
      obtain ⟨q1, q2, q3, q4, q5, q6⟩ := fr cc (by omega)
      have t0 : ((41 : Int) + 0).toNat = 41 := rfl
      refine Wp.go [9, 55] 40 ok_181 ?_
      simp only [c181, rlA, KF_s, KF_0, elN_n, elN_c, ↓reduceIte, Bool.false_eq_true, Int.reduceToNat, lk_c, lk_n, sw_c, sw_n, List.getD_cons_zero, List.getD_cons_succ, fv_0, fv_1, fv_2, fv_r, pf_0, pf_2, Option.toList_some, Option.toList_none, List.cons_append, List.nil_append, stK_n, stK_i, stK_r, true_and, and_true, true_or, or_true, List.length_nil, List.length_cons, Nat.zero_add, Nat.reduceAdd, Nat.reduceLeDiff, bi_0, bi_1, bi_01, em_1, em_2, cmp64_0, cmp64_lt, cmp64_gt, hu_ap, ne_a1, ne_a2, Decidable.not_not, Int.reduceAdd, Int.reduceNeg, Int.toNat_natCast, Int.toNat_zero, Int.toNat_one, List.append_nil, reduceCtorEq, Nat.reduceEqDiff, Nat.reduceBEq, Bool.or_false, Bool.false_or, Bool.true_or, Bool.or_true, some_vI, Int.le_refl, Nat.le_refl, false_or, or_false, Int.reduceLE, Int.reduceLT, Int.reduceEq, Int.zero_le_ofNat, and_self, if_true, if_false, false_and, and_false, not_true_eq_false, not_false_eq_true, false_implies, forall_const, shA, hp2, hp3, hp4, q2, q4, q5, t0]
      repeat' first | with_reducible intro _ | (refine call_of (d' := d - 1) (by omega) (m_its (by rw [q2]; omega)) ?_) | simp only [c181, rlA, KF_s, KF_0, elN_n, elN_c, ↓reduceIte, Bool.false_eq_true, Int.reduceToNat, lk_c, lk_n, sw_c, sw_n, List.getD_cons_zero, List.getD_cons_succ, fv_0, fv_1, fv_2, fv_r, pf_0, pf_2, Option.toList_some, Option.toList_none, List.cons_append, List.nil_append, stK_n, stK_i, stK_r, true_and, and_true, true_or, or_true, List.length_nil, List.length_cons, Nat.zero_add, Nat.reduceAdd, Nat.reduceLeDiff, bi_0, bi_1, bi_01, em_1, em_2, cmp64_0, cmp64_lt, cmp64_gt, hu_ap, ne_a1, ne_a2, Decidable.not_not, Int.reduceAdd, Int.reduceNeg, Int.toNat_natCast, Int.toNat_zero, Int.toNat_one, List.append_nil, reduceCtorEq, Nat.reduceEqDiff, Nat.reduceBEq, Bool.or_false, Bool.false_or, Bool.true_or, Bool.or_true, some_vI, Int.le_refl, Nat.le_refl, false_or, or_false, Int.reduceLE, Int.reduceLT, Int.reduceEq, Int.zero_le_ofNat, and_self, if_true, if_false, false_and, and_false, not_true_eq_false, not_false_eq_true, false_implies, forall_const, shA, hp2, hp3, hp4, q2, q4, q5, t0] | with_reducible apply And.intro
      all_goals first | exact True.intro | omega
    · intro i hi ih p2 p3 p4 hp2 hp3 hp4
      obtain ⟨q1, q2, q3, q4, q5, q6⟩ := fr i (by omega)
      have q55 : frM h i 82 5 = h 82 5 := q6 _ _ (by omega) (by omega) (by omega) (by omega) (by omega) (by omega) (by omega)
      have t0 : ((41 : Int) + 0).toNat = 41 := rfl
      have c1 : ∀ a c, (a ≠ 82 ∨ c ≠ 36) → a ≠ 102 → hu (frM h i) 102 (3 * i) (frM h i 88 41) a c = frM h i a c := fun a c z1 z2 => hu_o (by omega)
      have m9 : hu (frM h i) 102 (3 * i) (frM h i 88 41) 82 9 = ((41 : Nat) : Int) := by rw [c1 _ _ (by omega) (by omega)]; exact q2
      have mg1 := MG_cell c1 q1
      have mi1 : MI (hu (frM h i) 102 (3 * i) (frM h i 88 41)) 41 (W + 120 * i) := MG_MI mg1 m9 (fun j => by rw [c1 _ _ (by omega) (by omega)]; exact q3 j)
      have yo : ∀ c : Nat, frY (frM h i) i 82 c = frM h i 82 c := fun c => by
        unfold frY
        rw [goMo_o _ _ (by omega) _ _ mg1.1]; exact hu_o (by omega)
      have y9 : frY (frM h i) i 82 9 = 41 := by rw [yo]; exact q2
      have y5 : frY (frM h i) i 82 5 = h 82 5 := by rw [yo]; exact q55
      have y36 : frY (frM h i) i 82 36 = (i : Int) := by rw [yo]; exact q4
      have w3 : w32 (3 * (i : Int)) = 3 * i := w32_id (by omega) (by omega)
      have w31 : w32 (3 * (i : Int) + 1) = 3 * i + 1 := w32_id (by omega) (by omega)
      have w32' : w32 (3 * (i : Int) + 2) = 3 * i + 2 := w32_id (by omega) (by omega)
      have ew := w_s i (by omega)
      rw [frM_s] at ih
      have inner : ∀ n : Nat, n ≤ (h 82 5).toNat → Wp G l 181 d 55 [some (vR 82), some (vI nn), some (vI (setG (frY (frM h i) i) n)), some (vI (sumG (frY (frM h i) i) n)), some (vI n)] [] (frY (frM h i) i) (fun r h' => r = none ∧ h' = hu (frM h cc) 82 9 0) := by
        refine down _ ?_ ?_
        · refine Wp.go [9, 55] 40 ok_181 ?_
          simp only [c181, rlA, KF_s, KF_0, elN_n, elN_c, ↓reduceIte, Bool.false_eq_true, Int.reduceToNat, lk_c, lk_n, sw_c, sw_n, List.getD_cons_zero, List.getD_cons_succ, fv_0, fv_1, fv_2, fv_r, pf_0, pf_2, Option.toList_some, Option.toList_none, List.cons_append, List.nil_append, stK_n, stK_i, stK_r, true_and, and_true, true_or, or_true, List.length_nil, List.length_cons, Nat.zero_add, Nat.reduceAdd, Nat.reduceLeDiff, bi_0, bi_1, bi_01, em_1, em_2, cmp64_0, cmp64_lt, cmp64_gt, hu_ap, ne_a1, ne_a2, Decidable.not_not, Int.reduceAdd, Int.reduceNeg, Int.toNat_natCast, Int.toNat_zero, Int.toNat_one, List.append_nil, reduceCtorEq, Nat.reduceEqDiff, Nat.reduceBEq, Bool.or_false, Bool.false_or, Bool.true_or, Bool.or_true, some_vI, Int.le_refl, Nat.le_refl, false_or, or_false, Int.reduceLE, Int.reduceLT, Int.reduceEq, Int.zero_le_ofNat, and_self, if_true, if_false, false_and, and_false, not_true_eq_false, not_false_eq_true, false_implies, forall_const, shA, y5, y36, w3, w31, w32', ew, tn3, tn31, tn32]
          repeat' first | with_reducible intro _ | simp only [c181, rlA, KF_s, KF_0, elN_n, elN_c, ↓reduceIte, Bool.false_eq_true, Int.reduceToNat, lk_c, lk_n, sw_c, sw_n, List.getD_cons_zero, List.getD_cons_succ, fv_0, fv_1, fv_2, fv_r, pf_0, pf_2, Option.toList_some, Option.toList_none, List.cons_append, List.nil_append, stK_n, stK_i, stK_r, true_and, and_true, true_or, or_true, List.length_nil, List.length_cons, Nat.zero_add, Nat.reduceAdd, Nat.reduceLeDiff, bi_0, bi_1, bi_01, em_1, em_2, cmp64_0, cmp64_lt, cmp64_gt, hu_ap, ne_a1, ne_a2, Decidable.not_not, Int.reduceAdd, Int.reduceNeg, Int.toNat_natCast, Int.toNat_zero, Int.toNat_one, List.append_nil, reduceCtorEq, Nat.reduceEqDiff, Nat.reduceBEq, Bool.or_false, Bool.false_or, Bool.true_or, Bool.or_true, some_vI, Int.le_refl, Nat.le_refl, false_or, or_false, Int.reduceLE, Int.reduceLT, Int.reduceEq, Int.zero_le_ofNat, and_self, if_true, if_false, false_and, and_false, not_true_eq_false, not_false_eq_true, false_implies, forall_const, shA, y5, y36, w3, w31, w32', ew, tn3, tn31, tn32] | with_reducible apply And.intro
          all_goals first | exact True.intro | omega | exact ih _ _ _ rfl rfl rfl
        · intro n hnn ihn
          have ewn := w_s n (by omega)
          have v33 : w32 (33 + (n : Int)) = 33 + n := w32_id (by omega) (by omega)
          have v1 : w32 (1 + (n : Int)) = 1 + n := w32_id (by omega) (by omega)
          have s1 : setG (frY (frM h i) i) (n + 1) = or32 (setG (frY (frM h i) i) n) (if frY (frM h i) i 88 (74 + n) < 0 then 0 else shl32 1 n) := rfl
          have s2 : sumG (frY (frM h i) i) (n + 1) = w32 (sumG (frY (frM h i) i) n + frY (frM h i) i 88 (42 + n)) := rfl
          rw [s1, s2] at ihn
          refine Wp.go [9, 55] 40 ok_181 ?_
          simp only [c181, rlA, KF_s, KF_0, elN_n, elN_c, ↓reduceIte, Bool.false_eq_true, Int.reduceToNat, lk_c, lk_n, sw_c, sw_n, List.getD_cons_zero, List.getD_cons_succ, fv_0, fv_1, fv_2, fv_r, pf_0, pf_2, Option.toList_some, Option.toList_none, List.cons_append, List.nil_append, stK_n, stK_i, stK_r, true_and, and_true, true_or, or_true, List.length_nil, List.length_cons, Nat.zero_add, Nat.reduceAdd, Nat.reduceLeDiff, bi_0, bi_1, bi_01, em_1, em_2, cmp64_0, cmp64_lt, cmp64_gt, hu_ap, ne_a1, ne_a2, Decidable.not_not, Int.reduceAdd, Int.reduceNeg, Int.toNat_natCast, Int.toNat_zero, Int.toNat_one, List.append_nil, reduceCtorEq, Nat.reduceEqDiff, Nat.reduceBEq, Bool.or_false, Bool.false_or, Bool.true_or, Bool.or_true, some_vI, Int.le_refl, Nat.le_refl, false_or, or_false, Int.reduceLE, Int.reduceLT, Int.reduceEq, Int.zero_le_ofNat, and_self, if_true, if_false, false_and, and_false, not_true_eq_false, not_false_eq_true, false_implies, forall_const, shA, y5, y9, ewn, v33, v1, tn74, tn42]
          repeat' first | with_reducible intro _ | (refine call_of (d' := d - 1) (by omega) (m_its (by rw [y9]; omega)) ?_) | simp only [c181, rlA, KF_s, KF_0, elN_n, elN_c, ↓reduceIte, Bool.false_eq_true, Int.reduceToNat, lk_c, lk_n, sw_c, sw_n, List.getD_cons_zero, List.getD_cons_succ, fv_0, fv_1, fv_2, fv_r, pf_0, pf_2, Option.toList_some, Option.toList_none, List.cons_append, List.nil_append, stK_n, stK_i, stK_r, true_and, and_true, true_or, or_true, List.length_nil, List.length_cons, Nat.zero_add, Nat.reduceAdd, Nat.reduceLeDiff, bi_0, bi_1, bi_01, em_1, em_2, cmp64_0, cmp64_lt, cmp64_gt, hu_ap, ne_a1, ne_a2, Decidable.not_not, Int.reduceAdd, Int.reduceNeg, Int.toNat_natCast, Int.toNat_zero, Int.toNat_one, List.append_nil, reduceCtorEq, Nat.reduceEqDiff, Nat.reduceBEq, Bool.or_false, Bool.false_or, Bool.true_or, Bool.or_true, some_vI, Int.le_refl, Nat.le_refl, false_or, or_false, Int.reduceLE, Int.reduceLT, Int.reduceEq, Int.zero_le_ofNat, and_self, if_true, if_false, false_and, and_false, not_true_eq_false, not_false_eq_true, false_implies, forall_const, shA, y5, y9, ewn, v33, v1, tn74, tn42] | with_reducible apply And.intro
          all_goals first | exact True.intro | omega | (rw [if_pos (by assumption)] at ihn; exact ihn) | (rw [if_neg (by assumption)] at ihn; exact ihn)
      have ey : goMo 41 1 (hu (frM h i) 102 (3 * i) (h 88 0 + (i : Int))) = frY (frM h i) i := by unfold frY; rw [q5]
      have mi1' := mi1
      rw [q5] at mi1'
      refine Wp.go [9, 55] 40 ok_181 ?_
      simp only [c181, rlA, KF_s, KF_0, elN_n, elN_c, ↓reduceIte, Bool.false_eq_true, Int.reduceToNat, lk_c, lk_n, sw_c, sw_n, List.getD_cons_zero, List.getD_cons_succ, fv_0, fv_1, fv_2, fv_r, pf_0, pf_2, Option.toList_some, Option.toList_none, List.cons_append, List.nil_append, stK_n, stK_i, stK_r, true_and, and_true, true_or, or_true, List.length_nil, List.length_cons, Nat.zero_add, Nat.reduceAdd, Nat.reduceLeDiff, bi_0, bi_1, bi_01, em_1, em_2, cmp64_0, cmp64_lt, cmp64_gt, hu_ap, ne_a1, ne_a2, Decidable.not_not, Int.reduceAdd, Int.reduceNeg, Int.toNat_natCast, Int.toNat_zero, Int.toNat_one, List.append_nil, reduceCtorEq, Nat.reduceEqDiff, Nat.reduceBEq, Bool.or_false, Bool.false_or, Bool.true_or, Bool.or_true, some_vI, Int.le_refl, Nat.le_refl, false_or, or_false, Int.reduceLE, Int.reduceLT, Int.reduceEq, Int.zero_le_ofNat, and_self, if_true, if_false, false_and, and_false, not_true_eq_false, not_false_eq_true, false_implies, forall_const, shA, hp2, hp3, hp4, q2, q4, q5, t0, w3, tn3, ey]
      repeat' first | with_reducible intro _ | (refine call_of (d' := d - 1) (by omega) (m_its (by rw [q2]; omega)) ?_) | (refine call_of (d' := d - 1) (by omega) (m_go (aa := 41) (nn := 1) mi1' (by omega) (by omega) (by omega) (by omega)) ?_) | simp only [c181, rlA, KF_s, KF_0, elN_n, elN_c, ↓reduceIte, Bool.false_eq_true, Int.reduceToNat, lk_c, lk_n, sw_c, sw_n, List.getD_cons_zero, List.getD_cons_succ, fv_0, fv_1, fv_2, fv_r, pf_0, pf_2, Option.toList_some, Option.toList_none, List.cons_append, List.nil_append, stK_n, stK_i, stK_r, true_and, and_true, true_or, or_true, List.length_nil, List.length_cons, Nat.zero_add, Nat.reduceAdd, Nat.reduceLeDiff, bi_0, bi_1, bi_01, em_1, em_2, cmp64_0, cmp64_lt, cmp64_gt, hu_ap, ne_a1, ne_a2, Decidable.not_not, Int.reduceAdd, Int.reduceNeg, Int.toNat_natCast, Int.toNat_zero, Int.toNat_one, List.append_nil, reduceCtorEq, Nat.reduceEqDiff, Nat.reduceBEq, Bool.or_false, Bool.false_or, Bool.true_or, Bool.or_true, some_vI, Int.le_refl, Nat.le_refl, false_or, or_false, Int.reduceLE, Int.reduceLT, Int.reduceEq, Int.zero_le_ofNat, and_self, if_true, if_false, false_and, and_false, not_true_eq_false, not_false_eq_true, false_implies, forall_const, shA, hp2, hp3, hp4, q2, q4, q5, t0, w3, tn3, ey] | with_reducible apply And.intro
      all_goals first | exact True.intro | omega | exact inner 0 (Nat.zero_le _)
  simp only [c181, rlA, KF_s, KF_0, elN_n, elN_c, ↓reduceIte, Bool.false_eq_true, Int.reduceToNat, lk_c, lk_n, sw_c, sw_n, List.getD_cons_zero, List.getD_cons_succ, fv_0, fv_1, fv_2, fv_r, pf_0, pf_2, Option.toList_some, Option.toList_none, List.cons_append, List.nil_append, stK_n, stK_i, stK_r, true_and, and_true, true_or, or_true, List.length_nil, List.length_cons, Nat.zero_add, Nat.reduceAdd, Nat.reduceLeDiff, bi_0, bi_1, bi_01, em_1, em_2, cmp64_0, cmp64_lt, cmp64_gt, hu_ap, ne_a1, ne_a2, Decidable.not_not, Int.reduceAdd, Int.reduceNeg, Int.toNat_natCast, Int.toNat_zero, Int.toNat_one, List.append_nil, reduceCtorEq, Nat.reduceEqDiff, Nat.reduceBEq, Bool.or_false, Bool.false_or, Bool.true_or, Bool.or_true, some_vI, Int.le_refl, Nat.le_refl, false_or, or_false, Int.reduceLE, Int.reduceLT, Int.reduceEq, Int.zero_le_ofNat, and_self, if_true, if_false, false_and, and_false, not_true_eq_false, not_false_eq_true, false_implies, forall_const, shA]
  repeat' first | with_reducible intro _ | (refine call_of (d' := d - 1) (by omega) (m_lends) ?_) | simp only [c181, rlA, KF_s, KF_0, elN_n, elN_c, ↓reduceIte, Bool.false_eq_true, Int.reduceToNat, lk_c, lk_n, sw_c, sw_n, List.getD_cons_zero, List.getD_cons_succ, fv_0, fv_1, fv_2, fv_r, pf_0, pf_2, Option.toList_some, Option.toList_none, List.cons_append, List.nil_append, stK_n, stK_i, stK_r, true_and, and_true, true_or, or_true, List.length_nil, List.length_cons, Nat.zero_add, Nat.reduceAdd, Nat.reduceLeDiff, bi_0, bi_1, bi_01, em_1, em_2, cmp64_0, cmp64_lt, cmp64_gt, hu_ap, ne_a1, ne_a2, Decidable.not_not, Int.reduceAdd, Int.reduceNeg, Int.toNat_natCast, Int.toNat_zero, Int.toNat_one, List.append_nil, reduceCtorEq, Nat.reduceEqDiff, Nat.reduceBEq, Bool.or_false, Bool.false_or, Bool.true_or, Bool.or_true, some_vI, Int.le_refl, Nat.le_refl, false_or, or_false, Int.reduceLE, Int.reduceLT, Int.reduceEq, Int.zero_le_ofNat, and_self, if_true, if_false, false_and, and_false, not_true_eq_false, not_false_eq_true, false_implies, forall_const, shA] | with_reducible apply And.intro
  all_goals first | exact True.intro | omega | exact loop 0 (Nat.zero_le _) none none none rfl rfl rfl
end L2AI
