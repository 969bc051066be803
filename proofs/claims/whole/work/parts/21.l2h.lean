section L2H
variable {G : GD} {l : Launch} {d : Nat} {h : AH}
theorem PI_passX {h : AH} {tt : Nat} {ww : Int} (ht : isT tt) (hi : PI h tt ww) (hm : h tt 13 < 120) : PI (passX h tt) tt (ww + 8) := by
  have hl := isT_lt ht
  have hz := PI_z (vv := clX h tt (h tt 13) (h tt 8).toNat) ht hi 9
  have zt : ∀ c, zero9 (hu h 34 7 (clX h tt (h tt 13) (h tt 8).toNat)) tt c = h tt c := fun c => by rw [zero9_o _ _ _ (by omega)]; simp only [hu_ap]; rw [if_neg (by omega)]
  obtain ⟨q1, q2, q3⟩ := PI_pass ht hz (h tt 0).toNat (by rw [show forN _ _ _ = zero9 (hu h 34 7 (clX h tt (h tt 13) (h tt 8).toNat)) from rfl, zt]; have := hi.1; omega)
  rw [show forN (fun f h => hu (hu h 39 f 0) 40 f 0) 9 (hu h 34 7 (clX h tt (h tt 13) (h tt 8).toNat)) = zero9 (hu h 34 7 (clX h tt (h tt 13) (h tt 8).toNat)) from rfl] at q1 q2 q3
  rw [zt] at q2 q3
  have c0 := hi.1
  have c1 := hi.2.2.2.2.2.2
  unfold passX
  generalize forN (passI tt) (h tt 0).toNat (zero9 (hu h 34 7 (clX h tt (h tt 13) (h tt 8).toNat))) = y at q1 q2 q3 ⊢
  obtain ⟨h1, h2, h3, h4, h5, h6, h7⟩ := PI_mono (show ww + ((h tt 0).toNat : Int) ≤ ww + 8 by omega) q1
  have o : ∀ a c, a ≠ tt ∨ c ≠ 13 → hu y tt 13 (h tt 13 + 1) a c = y a c := fun a c q => by simp only [hu_ap]; rw [if_neg (by omega)]
  refine ⟨by rw [o _ _ (by omega)]; exact h1, fun j hj => ?_, fun j hj => ?_, fun j hj => ?_, by rw [o _ _ (by omega)]; exact h5, ⟨by rw [o _ _ (by omega)]; exact h6.1, fun j hj => ?_⟩, ?_⟩
  · rw [o _ _ (by omega)] at hj ⊢; rw [o _ _ (by omega)]; exact h2 j hj
  · rw [o _ _ (by omega)] at hj
    obtain ⟨g1, g2, g3, g4, g5, g6⟩ := h3 j hj
    exact ⟨by rw [o _ _ (by omega)]; exact g1, by rw [o _ _ (by omega)]; exact g2, fun k => by rw [o _ _ (by omega)]; exact g3 k, fun k => by rw [o _ _ (by omega)]; exact g4 k, by rw [o _ _ (by omega)]; exact g5, by rw [o _ _ (by omega)]; exact g6⟩
  · rw [o _ _ (by omega)] at hj ⊢; exact h4 j hj
  · rw [o _ _ (by omega)] at hj; rw [o _ _ (by omega), o _ _ (by omega)]; exact h6.2 j hj
  · simp only [hu_ap]; simp; omega
theorem passX_m {h : AH} {tt : Nat} : passX h tt tt 13 = h tt 13 + 1 := by unfold passX; simp [hu]
/-- insertion of pp into the order -/
def lineL (pp : Nat) : Nat → AH → AH
  | 0, h => hu h 35 0 pp
  | k + 1, h => if h 36 pp < h 36 (h 35 k).toNat then lineL pp k (hu h 35 (k + 1) (h 35 k)) else hu h 35 (k + 1) pp
set_option maxHeartbeats 4000000 in
theorem s_lineLoop {pp : Nat} {Q : Option AV → AH → Prop} (hp : pp < 8) : ∀ (kk : Nat) (hh : AH), kk ≤ pp → (∀ j : Nat, j < kk → 0 ≤ hh 35 j ∧ hh 35 j < 8) → Q none (lineL pp kk hh) → Wp G l 20 d 2 [some (vR 34), some (vI pp), some (vI kk)] [] hh Q := by
  intro kk
  induction kk with
  | zero =>
    intro hh _ _ hQ
    refine Wp.go [2] 20 ok_20 ?_
    simp only [c20, rlA, KF_s, KF_0, elN_n, elN_c, ↓reduceIte, Bool.false_eq_true, Int.reduceToNat, lk_c, lk_n, sw_c, sw_n, List.getD_cons_zero, List.getD_cons_succ, fv_0, fv_1, fv_2, fv_r, pf_0, pf_2, Option.toList_some, Option.toList_none, List.cons_append, List.nil_append, stK_n, stK_i, stK_r, true_and, and_true, true_or, or_true, List.length_nil, List.length_cons, Nat.zero_add, Nat.reduceAdd, Nat.reduceLeDiff, bi_0, bi_1, bi_01, em_1, em_2, cmp64_0, cmp64_lt, cmp64_gt, hu_ap, ne_a1, ne_a2, Decidable.not_not, Int.reduceAdd, Int.reduceNeg, Int.toNat_natCast, Int.toNat_zero, Int.toNat_one, List.append_nil, reduceCtorEq, Nat.reduceEqDiff, Nat.reduceBEq, Bool.or_false, Bool.false_or, Bool.true_or, Bool.or_true, some_vI, Int.le_refl, Nat.le_refl, false_or, or_false, Int.reduceLE, Int.reduceLT, Int.reduceEq, Int.zero_le_ofNat, and_self, if_true, if_false, false_and, and_false, not_true_eq_false, not_false_eq_true, false_implies, forall_const, shA]
    repeat' first | with_reducible intro _ | with_reducible apply And.intro
    all_goals first | exact True.intro | omega | exact hQ
  | succ kk ih =>
    intro hh hk ho hQ
    obtain ⟨o1, o2⟩ := ho kk (by omega)
    have ek : w32 (((kk + 1 : Nat) : Int) - 1) = (kk : Int) := by rw [w32_id (by omega) (by omega)]; omega
    have ek2 : w32 (((kk + 1 : Nat) : Int) + -1) = (kk : Int) := by rw [w32_id (by omega) (by omega)]; omega
    have nx := ih (hu hh 35 (kk + 1) (hh 35 kk)) (by omega) (fun j hj => by simp only [hu_ap]; rw [if_neg (by omega)]; exact ho j (by omega))
    unfold lineL at hQ
    refine Wp.go [2] 20 ok_20 ?_
    simp only [c20, rlA, KF_s, KF_0, elN_n, elN_c, ↓reduceIte, Bool.false_eq_true, Int.reduceToNat, lk_c, lk_n, sw_c, sw_n, List.getD_cons_zero, List.getD_cons_succ, fv_0, fv_1, fv_2, fv_r, pf_0, pf_2, Option.toList_some, Option.toList_none, List.cons_append, List.nil_append, stK_n, stK_i, stK_r, true_and, and_true, true_or, or_true, List.length_nil, List.length_cons, Nat.zero_add, Nat.reduceAdd, Nat.reduceLeDiff, bi_0, bi_1, bi_01, em_1, em_2, cmp64_0, cmp64_lt, cmp64_gt, hu_ap, ne_a1, ne_a2, Decidable.not_not, Int.reduceAdd, Int.reduceNeg, Int.toNat_natCast, Int.toNat_zero, Int.toNat_one, List.append_nil, reduceCtorEq, Nat.reduceEqDiff, Nat.reduceBEq, Bool.or_false, Bool.false_or, Bool.true_or, Bool.or_true, some_vI, Int.le_refl, Nat.le_refl, false_or, or_false, Int.reduceLE, Int.reduceLT, Int.reduceEq, Int.zero_le_ofNat, and_self, if_true, if_false, false_and, and_false, not_true_eq_false, not_false_eq_true, false_implies, forall_const, shA, ek, ek2]
    repeat' first | with_reducible intro _ | with_reducible apply And.intro
    all_goals first | exact True.intro | omega | (rw [if_neg (by assumption)] at hQ; exact hQ) | (rw [if_pos (by assumption)] at hQ; exact nx hQ)
theorem s_lineUp {pp : Nat} (hp : pp < 8) (ho : ∀ j : Nat, j < pp → 0 ≤ h 35 j ∧ h 35 j < 8) : CallR G l d 20 [vR 34, vI pp] h (fun r h' => r = none ∧ h' = lineL pp pp h) := by
  refine in20 [2] 20 fun _ hO => ?_
  have lp := s_lineLoop (G := G) (l := l) (d := d) (Q := fun r h' => r = none ∧ h' = lineL pp pp h) hp pp h (Nat.le_refl _) ho ⟨rfl, rfl⟩
  simp only [c20, rlA, KF_s, KF_0, elN_n, elN_c, ↓reduceIte, Bool.false_eq_true, Int.reduceToNat, lk_c, lk_n, sw_c, sw_n, List.getD_cons_zero, List.getD_cons_succ, fv_0, fv_1, fv_2, fv_r, pf_0, pf_2, Option.toList_some, Option.toList_none, List.cons_append, List.nil_append, stK_n, stK_i, stK_r, true_and, and_true, true_or, or_true, List.length_nil, List.length_cons, Nat.zero_add, Nat.reduceAdd, Nat.reduceLeDiff, bi_0, bi_1, bi_01, em_1, em_2, cmp64_0, cmp64_lt, cmp64_gt, hu_ap, ne_a1, ne_a2, Decidable.not_not, Int.reduceAdd, Int.reduceNeg, Int.toNat_natCast, Int.toNat_zero, Int.toNat_one, List.append_nil, reduceCtorEq, Nat.reduceEqDiff, Nat.reduceBEq, Bool.or_false, Bool.false_or, Bool.true_or, Bool.or_true, some_vI, Int.le_refl, Nat.le_refl, false_or, or_false, Int.reduceLE, Int.reduceLT, Int.reduceEq, Int.zero_le_ofNat, and_self, if_true, if_false, false_and, and_false, not_true_eq_false, not_false_eq_true, false_implies, forall_const, shA]
  exact lp
theorem lineL_o (pp : Nat) (a c : Nat) (ha : a ≠ 35) : ∀ (k : Nat) (h : AH), lineL pp k h a c = h a c
  | 0, h => by unfold lineL; simp only [hu_ap]; rw [if_neg (by omega)]
  | k + 1, h => by
    unfold lineL; split
    · rw [lineL_o pp a c ha k]; simp only [hu_ap]; rw [if_neg (by omega)]
    · simp only [hu_ap]; rw [if_neg (by omega)]
theorem lineL_b (pp : Nat) (B : Int) (hB : (pp : Int) < B) : ∀ (k : Nat) (h : AH), k ≤ pp → (∀ j : Nat, j ≤ pp → j ≠ k → 0 ≤ h 35 j ∧ h 35 j < B) → ∀ j : Nat, j ≤ pp → 0 ≤ lineL pp k h 35 j ∧ lineL pp k h 35 j < B
  | 0, h, hk, ho, j, hj => by
    unfold lineL; simp only [hu_ap]; split
    · omega
    · next q => exact ho j hj (fun z => q (by simp [z]))
  | k + 1, h, hk, ho, j, hj => by
    unfold lineL; split
    · refine lineL_b pp B hB k _ (by omega) (fun i hi hne => ?_) j hj
      simp only [hu_ap]; split
      · exact ho k (by omega) (by omega)
      · next q => exact ho i hi (fun z => q (by simp [z]))
    · simp only [hu_ap]; split
      · omega
      · next q => exact ho j hj (fun z => q (by simp [z]))
end L2H
