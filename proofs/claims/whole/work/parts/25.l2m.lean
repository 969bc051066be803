section L2M
variable {G : GD} {l : Launch} {d : Nat} {h : AH}
theorem gsL_o (aa pp x c : Nat) (hx : x ≠ 98 ∧ x ≠ 99 ∧ (x ≠ 88 ∨ (c ≠ aa + 25 + pp ∧ c ≠ aa + 1 + pp))) : ∀ (k : Nat) (lf : Int) (h : AH), (gsL aa pp k lf h).2 x c = h x c
  | 0, _, _ => rfl
  | k + 1, lf, h => by
    unfold gsL; split
    · show (gsL aa pp k (lf - 2) (stM h aa pp (if lf = 1 then 1 else 2))).2 x c = h x c
      rw [gsL_o aa pp x c hx k, stM_o _ _ _ _ _ _ hx]
    · rfl
theorem gsL_I (aa pp : Nat) : ∀ (k : Nat) (lf : Int) (h : AH), stI h aa pp → stI (gsL aa pp k lf h).2 aa pp
  | 0, _, _, hi => hi
  | k + 1, lf, h, hi => by
    unfold gsL; split
    · next q => exact gsL_I aa pp k (lf - 2) _ (stI_st hi (by split <;> omega) q.2.1 q.2.2)
    · exact hi
theorem gsE_o (aa pp : Nat) (h : AH) (x c : Nat) (hx : x ≠ 88 ∨ c ≠ aa + 33 + pp) : gsE aa pp h x c = h x c := by
  unfold gsE; split
  · simp only [hu_ap]; rw [if_neg (by omega)]
  · rfl
theorem gsW_o (pp : Nat) (wt : Int) (h : AH) (x c : Nat) (hx : x ≠ 100 ∨ c ≠ pp) : gsW pp wt h x c = h x c := by unfold gsW; simp only [hu_ap]; rw [if_neg (by omega)]
theorem goesM_o {h : AH} {aa pp : Nat} (x c : Nat) (hx : x ≠ 98 ∧ x ≠ 99 ∧ (x ≠ 100 ∨ c ≠ pp) ∧ (x ≠ 88 ∨ (c ≠ aa + 25 + pp ∧ c ≠ aa + 1 + pp ∧ c ≠ aa + 33 + pp))) : goesM h aa pp x c = h x c := by
  unfold goesM; rw [gsE_o _ _ _ _ _ (by omega), gsW_o _ _ _ _ _ (by omega), gsL_o _ _ _ _ (by omega)]
theorem goesM_w {h : AH} {aa pp : Nat} : goesM h aa pp 100 pp = h 100 pp ∨ goesM h aa pp 100 pp = h 100 pp + 1 := by
  unfold goesM
  generalize hb : bi (¬ h 88 (aa + 1 + pp) = h 88 (aa + 9 + pp) ∧ (gsL aa pp 3 (mayF (h 86 pp) (h 87 pp) (h 88 aa)) h).1 = false) = wt
  have hw : wt = 0 ∨ wt = 1 := by rw [← hb]; unfold bi; split <;> omega
  rw [gsE_o _ _ _ _ _ (by omega)]
  unfold gsW
  simp only [hu_ap]
  rw [if_pos (by simp), gsL_o _ _ _ _ (by omega)]
  omega
theorem stI_cell {h h' : AH} {aa pp : Nat} (hi : stI h aa pp) (e : ∀ x c, (x = 82 ∨ x = 84 ∨ x = 85 ∨ x = 98 ∨ (x = 88 ∧ (c = aa + 1 + pp ∨ c = aa + 9 + pp ∨ c = aa + 25 + pp))) → h' x c = h x c) : stI h' aa pp := by
  obtain ⟨f1, f2, f3, f4, f5, f6⟩ := hi
  exact ⟨by rw [e _ _ (by omega)]; exact f1, by rw [e _ _ (by omega)]; exact f2, by rw [e _ _ (by omega)]; exact f3, fun j => by rw [e _ _ (by omega)]; exact f4 j, by rw [e _ _ (by omega)]; exact f5, hatsOK_cell f6 (fun x c q => e x c (by omega))⟩
theorem goesM_I {h : AH} {aa pp : Nat} (hp : pp < 8) (hi : stI h aa pp) : stI (goesM h aa pp) aa pp := by
  unfold goesM
  exact stI_cell (gsL_I aa pp 3 _ _ hi) (fun x c q => by rw [gsE_o _ _ _ _ _ (by omega), gsW_o _ _ _ _ _ (by omega)])
/-- what a minute of the model needs, and keeps -/
def MI (h : AH) (aa : Nat) (ww : Int) : Prop := h 82 9 = (aa : Int) ∧ (0 ≤ h 82 5 ∧ h 82 5 ≤ 8) ∧ (∀ j : Nat, (j : Int) < h 82 5 → stI h aa j) ∧ (∀ j : Nat, 0 ≤ h 100 j ∧ h 100 j ≤ ww) ∧ (0 ≤ h 88 aa ∧ h 88 aa ≤ 120)
theorem MI_goes {h : AH} {aa pp : Nat} {ww : Int} (hp : (pp : Int) < h 82 5) (hi : MI h aa ww) : MI (goesM h aa pp) aa (ww + 1) := by
  obtain ⟨h1, h2, h3, h4, h5⟩ := hi
  have o1 : ∀ c, goesM h aa pp 82 c = h 82 c := fun c => goesM_o _ _ (by omega)
  have gi := goesM_I (by omega) (h3 pp hp)
  refine ⟨by rw [o1]; exact h1, by rw [o1]; exact h2, fun j hj => ?_, fun j => ?_, by rw [goesM_o _ _ (by omega)]; exact h5⟩
  · rw [o1] at hj
    by_cases e : j = pp
    · subst e; exact gi
    · obtain ⟨g1, g2, g3, g4, g5, g6⟩ := h3 j hj
      obtain ⟨k1, k2, k3, k4, k5, k6⟩ := gi
      exact ⟨by rw [goesM_o _ _ (by omega)]; exact g1, by rw [goesM_o _ _ (by omega)]; exact g2, by rw [goesM_o _ _ (by omega)]; exact g3, k4, k5, k6⟩
  · have := h4 j
    by_cases e : j = pp
    · subst e; rcases goesM_w (h := h) (aa := aa) (pp := j) with q | q <;> rw [q] <;> omega
    · rw [goesM_o _ _ (by omega)]; omega
theorem MI_mono {h : AH} {aa : Nat} {ww vv : Int} (hv : ww ≤ vv) (hi : MI h aa ww) : MI h aa vv := by
  obtain ⟨h1, h2, h3, h4, h5⟩ := hi
  exact ⟨h1, h2, h3, fun j => by have := h4 j; omega, h5⟩
def mG (aa : Nat) (rr : Nat) (pp : Nat) (h : AH) : AH := if rankF (h 86 pp) (h 87 pp) = (rr : Int) ∧ h 88 (aa + 33 + pp) < 0 ∧ h 88 (aa + 17 + pp) ≤ h 88 aa then goesM h aa pp else h
theorem mG_o {aa rr pp : Nat} {h : AH} (x c : Nat) (hx : x ≠ 98 ∧ x ≠ 99 ∧ x ≠ 100 ∧ x ≠ 88) : mG aa rr pp h x c = h x c := by
  unfold mG; split
  · exact goesM_o _ _ (by omega)
  · rfl
theorem mG_m {aa rr pp : Nat} {h : AH} : mG aa rr pp h 88 aa = h 88 aa := by
  unfold mG; split
  · exact goesM_o _ _ (by omega)
  · rfl
theorem MI_in {aa rr : Nat} {h : AH} {ww : Int} (hi : MI h aa ww) : ∀ n : Nat, (n : Int) ≤ h 82 5 → MI (forN (mG aa rr) n h) aa (ww + n) ∧ (∀ c, forN (mG aa rr) n h 82 c = h 82 c) ∧ forN (mG aa rr) n h 88 aa = h 88 aa
  | 0, _ => ⟨by simpa [forN] using hi, fun _ => rfl, rfl⟩
  | n + 1, hn => by
    obtain ⟨a1, a2, a3⟩ := MI_in (rr := rr) hi n (by omega)
    have e0 : forN (mG aa rr) (n + 1) h = mG aa rr n (forN (mG aa rr) n h) := rfl
    rw [e0]
    generalize forN (mG aa rr) n h = y at a1 a2 a3 ⊢
    refine ⟨?_, fun c => by rw [mG_o _ _ (by omega)]; exact a2 c, by rw [mG_m]; exact a3⟩
    rw [show ww + ((n + 1 : Nat) : Int) = ww + n + 1 by omega]
    unfold mG; split
    · exact MI_goes (by rw [a2]; omega) a1
    · exact MI_mono (by omega) a1
def outM (aa : Nat) : Nat → AH → AH := forN (fun rr h => forN (mG aa rr) (h 82 5).toNat h)
theorem MI_out {aa : Nat} {h : AH} {ww : Int} (hi : MI h aa ww) : ∀ n : Nat, MI (outM aa n h) aa (ww + 8 * n) ∧ (∀ c, outM aa n h 82 c = h 82 c) ∧ outM aa n h 88 aa = h 88 aa
  | 0 => ⟨by simpa [outM, forN] using hi, fun _ => rfl, rfl⟩
  | n + 1 => by
    obtain ⟨a1, a2, a3⟩ := MI_out hi n
    have e0 : outM aa (n + 1) h = forN (mG aa n) (outM aa n h 82 5).toNat (outM aa n h) := rfl
    rw [e0]
    have h2 := hi.2.1
    obtain ⟨b1, b2, b3⟩ := MI_in (rr := n) a1 (outM aa n h 82 5).toNat (by rw [a2]; omega)
    exact ⟨MI_mono (by rw [a2]; omega) b1, fun c => by rw [b2, a2], by rw [b3, a3]⟩
def zero18 : AH → AH := forN (fun k h => hu h 98 k 0) 18
theorem zero18_o (n : Nat) (h : AH) (x c : Nat) (hx : x ≠ 98) : forN (fun k h => hu h 98 k 0) n h x c = h x c := forN_o (P := fun x => x ≠ 98) (fun n h a b q => by simp only [hu_ap]; rw [if_neg (by omega)]) n h x c hx
theorem MI_z {aa : Nat} {h : AH} {ww : Int} (hi : MI h aa ww) : ∀ n : Nat, MI (forN (fun k h => hu h 98 k 0) n h) aa ww
  | 0 => hi
  | n + 1 => by
    obtain ⟨h1, h2, h3, h4, h5⟩ := MI_z hi n
    have e0 : forN (fun k h => hu h 98 k 0) (n + 1) h = hu (forN (fun k h => hu h 98 k 0) n h) 98 n 0 := rfl
    rw [e0]
    generalize forN (fun k h => hu h 98 k 0) n h = y at h1 h2 h3 h4 h5
    have o : ∀ x c, x ≠ 98 → hu y 98 n 0 x c = y x c := fun x c q => by simp only [hu_ap]; rw [if_neg (by omega)]
    refine ⟨by rw [o _ _ (by omega)]; exact h1, by rw [o _ _ (by omega)]; exact h2, fun j hj => ?_, fun j => by rw [o _ _ (by omega)]; exact h4 j, by rw [o _ _ (by omega)]; exact h5⟩
    rw [o _ _ (by omega)] at hj
    obtain ⟨f1, f2, f3, f4, f5, f6⟩ := h3 j hj
    exact ⟨by rw [o _ _ (by omega)]; exact f1, by rw [o _ _ (by omega)]; exact f2, by rw [o _ _ (by omega)]; exact f3, fun k => by have := f4 k; simp only [hu_ap]; split <;> omega, by rw [o _ _ (by omega)]; exact f5, hatsOK_cell f6 (fun x c q => o x c (by omega))⟩
def minuteM (h : AH) (aa : Nat) : AH := hu (outM aa 15 (zero18 h)) 88 aa (h 88 aa + 1)
theorem MI_minute {aa : Nat} {h : AH} {ww : Int} (hi : MI h aa ww) (hm : h 88 aa < 120) : MI (minuteM h aa) aa (ww + 120) := by
  have hz := MI_z hi 18
  have z0 : zero18 h 88 aa = h 88 aa := zero18_o 18 h _ _ (by omega)
  obtain ⟨a1, a2, a3⟩ := MI_out hz 15
  rw [show forN (fun k h => hu h 98 k 0) 18 h = zero18 h from rfl] at a1 a2 a3
  rw [z0] at a3
  unfold minuteM
  generalize outM aa 15 (zero18 h) = y at a1 a2 a3
  obtain ⟨h1, h2, h3, h4, h5⟩ := MI_mono (show ww + 8 * ((15 : Nat) : Int) ≤ ww + 120 by omega) a1
  have o : ∀ x c, x ≠ 88 ∨ c ≠ aa → hu y 88 aa (h 88 aa + 1) x c = y x c := fun x c q => by simp only [hu_ap]; rw [if_neg (by omega)]
  refine ⟨by rw [o _ _ (by omega)]; exact h1, by rw [o _ _ (by omega)]; exact h2, fun j hj => ?_, fun j => by rw [o _ _ (by omega)]; exact h4 j, ?_⟩
  · rw [o _ _ (by omega)] at hj
    exact stI_cell (h3 j hj) (fun x c q => o x c (by omega))
  · have := hi.2.2.2.2; simp only [hu_ap]; simp; omega
set_option maxHeartbeats 4000000 in
theorem m_minuteGoes {aa : Nat} {ww : Int} (hi : MI h aa ww) (haa : aa ≤ 41) (hw : ww ≤ 1900000000) (hd : 4 ≤ d) : CallR G l d 157 [vR 82] h (fun r h' => r = none ∧ h' = minuteM h aa) := by
  refine in157 [2, 23, 31] 20 fun hO => ?_
  have i0 : ((aa : Int) + 0).toNat = aa := by omega
  have hz : MI (zero18 h) aa ww := MI_z hi 18
  have zt : ∀ c, zero18 h 82 c = h 82 c := fun c => zero18_o 18 h _ _ (by omega)
  have zm : zero18 h 88 aa = h 88 aa := zero18_o 18 h _ _ (by omega)
  have hpe := hi.2.1
  have hmi := hi.2.2.2.2
  have hout := MI_out hz
  have loop2 : ∀ n : Nat, n ≤ 15 → ∀ p2 : Option AV, stK p2 = true → Wp G l 157 d 23 [some (vR 82), some (vI n), p2] [] (outM aa n (zero18 h)) (fun r h' => r = none ∧ h' = minuteM h aa) := by
    intro n hn
    refine down (X := fun n => ∀ p2 : Option AV, stK p2 = true → Wp G l 157 d 23 [some (vR 82), some (vI n), p2] [] (outM aa n (zero18 h)) (fun r h' => r = none ∧ h' = minuteM h aa)) 15 ?_ ?_ n hn
    · intro p2 hp2
      obtain ⟨q1, q2, q3⟩ := hout 15
      rw [zm] at q3
      have qa := q1.1
      have em : w32 (h 88 aa + 1) = h 88 aa + 1 := w32_id (by omega) (by omega)
      refine Wp.go [2, 23, 31] 20 ok_157 ?_
      simp only [c157, rlA, KF_s, KF_0, elN_n, elN_c, ↓reduceIte, Bool.false_eq_true, Int.reduceToNat, lk_c, lk_n, sw_c, sw_n, List.getD_cons_zero, List.getD_cons_succ, fv_0, fv_1, fv_2, fv_r, pf_0, pf_2, Option.toList_some, Option.toList_none, List.cons_append, List.nil_append, stK_n, stK_i, stK_r, true_and, and_true, true_or, or_true, List.length_nil, List.length_cons, Nat.zero_add, Nat.reduceAdd, Nat.reduceLeDiff, bi_0, bi_1, bi_01, em_1, em_2, cmp64_0, cmp64_lt, cmp64_gt, hu_ap, ne_a1, ne_a2, Decidable.not_not, Int.reduceAdd, Int.reduceNeg, Int.toNat_natCast, Int.toNat_zero, Int.toNat_one, List.append_nil, reduceCtorEq, Nat.reduceEqDiff, Nat.reduceBEq, Bool.or_false, Bool.false_or, Bool.true_or, Bool.or_true, some_vI, Int.le_refl, Nat.le_refl, false_or, or_false, Int.reduceLE, Int.reduceLT, Int.reduceEq, Int.zero_le_ofNat, and_self, if_true, if_false, false_and, and_false, not_true_eq_false, not_false_eq_true, false_implies, forall_const, shA, i0, q3, qa, em, hp2]
      repeat' first | with_reducible intro _ | (refine call_of (d' := d - 1) (by omega) (m_its (by omega)) ?_) | (refine call_of (d' := d - 1) (by omega) (m_becomes (by omega)) ?_) | simp only [c157, rlA, KF_s, KF_0, elN_n, elN_c, ↓reduceIte, Bool.false_eq_true, Int.reduceToNat, lk_c, lk_n, sw_c, sw_n, List.getD_cons_zero, List.getD_cons_succ, fv_0, fv_1, fv_2, fv_r, pf_0, pf_2, Option.toList_some, Option.toList_none, List.cons_append, List.nil_append, stK_n, stK_i, stK_r, true_and, and_true, true_or, or_true, List.length_nil, List.length_cons, Nat.zero_add, Nat.reduceAdd, Nat.reduceLeDiff, bi_0, bi_1, bi_01, em_1, em_2, cmp64_0, cmp64_lt, cmp64_gt, hu_ap, ne_a1, ne_a2, Decidable.not_not, Int.reduceAdd, Int.reduceNeg, Int.toNat_natCast, Int.toNat_zero, Int.toNat_one, List.append_nil, reduceCtorEq, Nat.reduceEqDiff, Nat.reduceBEq, Bool.or_false, Bool.false_or, Bool.true_or, Bool.or_true, some_vI, Int.le_refl, Nat.le_refl, false_or, or_false, Int.reduceLE, Int.reduceLT, Int.reduceEq, Int.zero_le_ofNat, and_self, if_true, if_false, false_and, and_false, not_true_eq_false, not_false_eq_true, false_implies, forall_const, shA, i0, q3, qa, em, hp2] | with_reducible apply And.intro
      all_goals first | exact True.intro | omega | (unfold minuteM; rfl)
    · intro n hn ih p2 hp2
      obtain ⟨q1, q2, q3⟩ := hout n
      rw [zm] at q3
      have ewn := w_s n (by omega)
      have es : outM aa (n + 1) (zero18 h) = forN (mG aa n) (outM aa n (zero18 h) 82 5).toNat (outM aa n (zero18 h)) := rfl
      rw [es, q2, zt] at ih
      have hq5 : outM aa n (zero18 h) 82 5 = h 82 5 := by rw [q2, zt]
      generalize outM aa n (zero18 h) = y at ih q1 q2 q3 hq5 ⊢
      have hin := MI_in (rr := n) q1
      have loop3 : ∀ k : Nat, k ≤ (h 82 5).toNat → Wp G l 157 d 31 [some (vR 82), some (vI n), some (vI k)] [] (forN (mG aa n) k y) (fun r h' => r = none ∧ h' = minuteM h aa) := by
        refine down _ ?_ ?_
        · obtain ⟨r1, r2, r3⟩ := hin (h 82 5).toNat (by rw [hq5]; omega)
          have r5 : forN (mG aa n) (h 82 5).toNat y 82 5 = h 82 5 := by rw [r2, hq5]
          refine Wp.go [2, 23, 31] 20 ok_157 ?_
          simp only [c157, rlA, KF_s, KF_0, elN_n, elN_c, ↓reduceIte, Bool.false_eq_true, Int.reduceToNat, lk_c, lk_n, sw_c, sw_n, List.getD_cons_zero, List.getD_cons_succ, fv_0, fv_1, fv_2, fv_r, pf_0, pf_2, Option.toList_some, Option.toList_none, List.cons_append, List.nil_append, stK_n, stK_i, stK_r, true_and, and_true, true_or, or_true, List.length_nil, List.length_cons, Nat.zero_add, Nat.reduceAdd, Nat.reduceLeDiff, bi_0, bi_1, bi_01, em_1, em_2, cmp64_0, cmp64_lt, cmp64_gt, hu_ap, ne_a1, ne_a2, Decidable.not_not, Int.reduceAdd, Int.reduceNeg, Int.toNat_natCast, Int.toNat_zero, Int.toNat_one, List.append_nil, reduceCtorEq, Nat.reduceEqDiff, Nat.reduceBEq, Bool.or_false, Bool.false_or, Bool.true_or, Bool.or_true, some_vI, Int.le_refl, Nat.le_refl, false_or, or_false, Int.reduceLE, Int.reduceLT, Int.reduceEq, Int.zero_le_ofNat, and_self, if_true, if_false, false_and, and_false, not_true_eq_false, not_false_eq_true, false_implies, forall_const, shA, r5, ewn]
          repeat' first | with_reducible intro _ | with_reducible apply And.intro
          all_goals first | exact True.intro | omega | exact ih _ rfl
        · intro k hk ih3
          obtain ⟨r1, r2, r3⟩ := hin k (by rw [hq5]; omega)
          have r5 : forN (mG aa n) k y 82 5 = h 82 5 := by rw [r2, hq5]
          have es3 : forN (mG aa n) (k + 1) y = mG aa n k (forN (mG aa n) k y) := rfl
          rw [es3] at ih3
          have ewk := w_s k (by omega)
          generalize forN (mG aa n) k y = x at ih3 r1 r5 ⊢
          obtain ⟨k1, k2, k3, k4, k5⟩ := id r1
          have hst := k3 k (by rw [r5]; omega)
          have hwk := k4 k
          have i33 : ((aa : Int) + (33 + (k : Int))).toNat = aa + 33 + k := by omega
          have w33 : w32 (33 + (k : Int)) = 33 + k := w32_id (by omega) (by omega)
          have i17 : ((aa : Int) + (17 + (k : Int))).toNat = aa + 17 + k := by omega
          have w17 : w32 (17 + (k : Int)) = 17 + k := w32_id (by omega) (by omega)
          unfold mG at ih3
          refine Wp.go [2, 23, 31] 20 ok_157 ?_
          simp only [c157, rlA, KF_s, KF_0, elN_n, elN_c, ↓reduceIte, Bool.false_eq_true, Int.reduceToNat, lk_c, lk_n, sw_c, sw_n, List.getD_cons_zero, List.getD_cons_succ, fv_0, fv_1, fv_2, fv_r, pf_0, pf_2, Option.toList_some, Option.toList_none, List.cons_append, List.nil_append, stK_n, stK_i, stK_r, true_and, and_true, true_or, or_true, List.length_nil, List.length_cons, Nat.zero_add, Nat.reduceAdd, Nat.reduceLeDiff, bi_0, bi_1, bi_01, em_1, em_2, cmp64_0, cmp64_lt, cmp64_gt, hu_ap, ne_a1, ne_a2, Decidable.not_not, Int.reduceAdd, Int.reduceNeg, Int.toNat_natCast, Int.toNat_zero, Int.toNat_one, List.append_nil, reduceCtorEq, Nat.reduceEqDiff, Nat.reduceBEq, Bool.or_false, Bool.false_or, Bool.true_or, Bool.or_true, some_vI, Int.le_refl, Nat.le_refl, false_or, or_false, Int.reduceLE, Int.reduceLT, Int.reduceEq, Int.zero_le_ofNat, and_self, if_true, if_false, false_and, and_false, not_true_eq_false, not_false_eq_true, false_implies, forall_const, shA, r5, ewk, i33, w33, i17, w17, i0, k1]
          repeat' first | with_reducible intro _ | (refine call_of (d' := d - 1) (by omega) (m_rank (by omega)) ?_) | (refine call_of (d' := d - 1) (by omega) (m_its (by omega)) ?_) | (refine call_of (d' := d - 1) (by omega) (m_goes k1 haa (by omega) hst (by omega) (by omega)) ?_) | simp only [c157, rlA, KF_s, KF_0, elN_n, elN_c, ↓reduceIte, Bool.false_eq_true, Int.reduceToNat, lk_c, lk_n, sw_c, sw_n, List.getD_cons_zero, List.getD_cons_succ, fv_0, fv_1, fv_2, fv_r, pf_0, pf_2, Option.toList_some, Option.toList_none, List.cons_append, List.nil_append, stK_n, stK_i, stK_r, true_and, and_true, true_or, or_true, List.length_nil, List.length_cons, Nat.zero_add, Nat.reduceAdd, Nat.reduceLeDiff, bi_0, bi_1, bi_01, em_1, em_2, cmp64_0, cmp64_lt, cmp64_gt, hu_ap, ne_a1, ne_a2, Decidable.not_not, Int.reduceAdd, Int.reduceNeg, Int.toNat_natCast, Int.toNat_zero, Int.toNat_one, List.append_nil, reduceCtorEq, Nat.reduceEqDiff, Nat.reduceBEq, Bool.or_false, Bool.false_or, Bool.true_or, Bool.or_true, some_vI, Int.le_refl, Nat.le_refl, false_or, or_false, Int.reduceLE, Int.reduceLT, Int.reduceEq, Int.zero_le_ofNat, and_self, if_true, if_false, false_and, and_false, not_true_eq_false, not_false_eq_true, false_implies, forall_const, shA, r5, ewk, i33, w33, i17, w17, i0, k1] | with_reducible apply And.intro
          all_goals first | exact True.intro | omega | (rw [if_neg (by omega)] at ih3; exact ih3) | (rw [if_pos (by omega)] at ih3; exact ih3)
      refine Wp.go [2, 23, 31] 20 ok_157 ?_
      simp only [c157, rlA, KF_s, KF_0, elN_n, elN_c, ↓reduceIte, Bool.false_eq_true, Int.reduceToNat, lk_c, lk_n, sw_c, sw_n, List.getD_cons_zero, List.getD_cons_succ, fv_0, fv_1, fv_2, fv_r, pf_0, pf_2, Option.toList_some, Option.toList_none, List.cons_append, List.nil_append, stK_n, stK_i, stK_r, true_and, and_true, true_or, or_true, List.length_nil, List.length_cons, Nat.zero_add, Nat.reduceAdd, Nat.reduceLeDiff, bi_0, bi_1, bi_01, em_1, em_2, cmp64_0, cmp64_lt, cmp64_gt, hu_ap, ne_a1, ne_a2, Decidable.not_not, Int.reduceAdd, Int.reduceNeg, Int.toNat_natCast, Int.toNat_zero, Int.toNat_one, List.append_nil, reduceCtorEq, Nat.reduceEqDiff, Nat.reduceBEq, Bool.or_false, Bool.false_or, Bool.true_or, Bool.or_true, some_vI, Int.le_refl, Nat.le_refl, false_or, or_false, Int.reduceLE, Int.reduceLT, Int.reduceEq, Int.zero_le_ofNat, and_self, if_true, if_false, false_and, and_false, not_true_eq_false, not_false_eq_true, false_implies, forall_const, shA]
      repeat' first | with_reducible intro _ | with_reducible apply And.intro
      all_goals first | exact True.intro | omega | exact loop3 0 (Nat.zero_le _)
  have loop1 : ∀ n : Nat, n ≤ 18 → Wp G l 157 d 2 [some (vR 82), some (vI n), none] [] (forN (fun k h => hu h 98 k 0) n h) (fun r h' => r = none ∧ h' = minuteM h aa) := by
    refine down _ ?_ ?_
    · refine Wp.go [2, 23, 31] 20 ok_157 ?_
      simp only [c157, rlA, KF_s, KF_0, elN_n, elN_c, ↓reduceIte, Bool.false_eq_true, Int.reduceToNat, lk_c, lk_n, sw_c, sw_n, List.getD_cons_zero, List.getD_cons_succ, fv_0, fv_1, fv_2, fv_r, pf_0, pf_2, Option.toList_some, Option.toList_none, List.cons_append, List.nil_append, stK_n, stK_i, stK_r, true_and, and_true, true_or, or_true, List.length_nil, List.length_cons, Nat.zero_add, Nat.reduceAdd, Nat.reduceLeDiff, bi_0, bi_1, bi_01, em_1, em_2, cmp64_0, cmp64_lt, cmp64_gt, hu_ap, ne_a1, ne_a2, Decidable.not_not, Int.reduceAdd, Int.reduceNeg, Int.toNat_natCast, Int.toNat_zero, Int.toNat_one, List.append_nil, reduceCtorEq, Nat.reduceEqDiff, Nat.reduceBEq, Bool.or_false, Bool.false_or, Bool.true_or, Bool.or_true, some_vI, Int.le_refl, Nat.le_refl, false_or, or_false, Int.reduceLE, Int.reduceLT, Int.reduceEq, Int.zero_le_ofNat, and_self, if_true, if_false, false_and, and_false, not_true_eq_false, not_false_eq_true, false_implies, forall_const, shA]
      repeat' first | with_reducible intro _ | with_reducible apply And.intro
      all_goals first | exact True.intro | omega | exact loop2 0 (Nat.zero_le _) none rfl
    · intro n hn ih
      have ew := w_s n (by omega)
      refine Wp.go [2, 23, 31] 20 ok_157 ?_
      simp only [c157, rlA, KF_s, KF_0, elN_n, elN_c, ↓reduceIte, Bool.false_eq_true, Int.reduceToNat, lk_c, lk_n, sw_c, sw_n, List.getD_cons_zero, List.getD_cons_succ, fv_0, fv_1, fv_2, fv_r, pf_0, pf_2, Option.toList_some, Option.toList_none, List.cons_append, List.nil_append, stK_n, stK_i, stK_r, true_and, and_true, true_or, or_true, List.length_nil, List.length_cons, Nat.zero_add, Nat.reduceAdd, Nat.reduceLeDiff, bi_0, bi_1, bi_01, em_1, em_2, cmp64_0, cmp64_lt, cmp64_gt, hu_ap, ne_a1, ne_a2, Decidable.not_not, Int.reduceAdd, Int.reduceNeg, Int.toNat_natCast, Int.toNat_zero, Int.toNat_one, List.append_nil, reduceCtorEq, Nat.reduceEqDiff, Nat.reduceBEq, Bool.or_false, Bool.false_or, Bool.true_or, Bool.or_true, some_vI, Int.le_refl, Nat.le_refl, false_or, or_false, Int.reduceLE, Int.reduceLT, Int.reduceEq, Int.zero_le_ofNat, and_self, if_true, if_false, false_and, and_false, not_true_eq_false, not_false_eq_true, false_implies, forall_const, shA, ew]
      repeat' first | with_reducible intro _ | with_reducible apply And.intro
      all_goals first | exact True.intro | omega | exact ih
  simp only [c157, rlA, KF_s, KF_0, elN_n, elN_c, ↓reduceIte, Bool.false_eq_true, Int.reduceToNat, lk_c, lk_n, sw_c, sw_n, List.getD_cons_zero, List.getD_cons_succ, fv_0, fv_1, fv_2, fv_r, pf_0, pf_2, Option.toList_some, Option.toList_none, List.cons_append, List.nil_append, stK_n, stK_i, stK_r, true_and, and_true, true_or, or_true, List.length_nil, List.length_cons, Nat.zero_add, Nat.reduceAdd, Nat.reduceLeDiff, bi_0, bi_1, bi_01, em_1, em_2, cmp64_0, cmp64_lt, cmp64_gt, hu_ap, ne_a1, ne_a2, Decidable.not_not, Int.reduceAdd, Int.reduceNeg, Int.toNat_natCast, Int.toNat_zero, Int.toNat_one, List.append_nil, reduceCtorEq, Nat.reduceEqDiff, Nat.reduceBEq, Bool.or_false, Bool.false_or, Bool.true_or, Bool.or_true, some_vI, Int.le_refl, Nat.le_refl, false_or, or_false, Int.reduceLE, Int.reduceLT, Int.reduceEq, Int.zero_le_ofNat, and_self, if_true, if_false, false_and, and_false, not_true_eq_false, not_false_eq_true, false_implies, forall_const, shA]
  exact loop1 0 (Nat.zero_le _)
def goMo (aa : Nat) : Nat → AH → AH
  | 0, h => h
  | k + 1, h => if h 88 aa < 120 then goMo aa k (minuteM h aa) else h
theorem minuteM_m {h : AH} {aa : Nat} : minuteM h aa 88 aa = h 88 aa + 1 := by unfold minuteM; simp [hu]
set_option maxHeartbeats 4000000 in
theorem m_goLoop {aa nn : Nat} {Q : Option AV → AH → Prop} (haa : aa ≤ 41) (hn : nn ≤ 200) (hd : 5 ≤ d) : ∀ (kk : Nat) (hh : AH) (ww : Int), kk ≤ nn → ww + 120 * kk ≤ 1900000000 → MI hh aa ww → Q none (goMo aa kk hh) → Wp G l 158 d 2 [some (vR 82), some (vI nn), some (vI ((nn - kk : Nat) : Int))] [] hh Q := by
  intro kk
  induction kk with
  | zero =>
    intro hh ww hk _ _ hQ
    refine Wp.go [2] 20 ok_158 ?_
    simp only [c158, rlA, KF_s, KF_0, elN_n, elN_c, ↓reduceIte, Bool.false_eq_true, Int.reduceToNat, lk_c, lk_n, sw_c, sw_n, List.getD_cons_zero, List.getD_cons_succ, fv_0, fv_1, fv_2, fv_r, pf_0, pf_2, Option.toList_some, Option.toList_none, List.cons_append, List.nil_append, stK_n, stK_i, stK_r, true_and, and_true, true_or, or_true, List.length_nil, List.length_cons, Nat.zero_add, Nat.reduceAdd, Nat.reduceLeDiff, bi_0, bi_1, bi_01, em_1, em_2, cmp64_0, cmp64_lt, cmp64_gt, hu_ap, ne_a1, ne_a2, Decidable.not_not, Int.reduceAdd, Int.reduceNeg, Int.toNat_natCast, Int.toNat_zero, Int.toNat_one, List.append_nil, reduceCtorEq, Nat.reduceEqDiff, Nat.reduceBEq, Bool.or_false, Bool.false_or, Bool.true_or, Bool.or_true, some_vI, Int.le_refl, Nat.le_refl, false_or, or_false, Int.reduceLE, Int.reduceLT, Int.reduceEq, Int.zero_le_ofNat, and_self, if_true, if_false, false_and, and_false, not_true_eq_false, not_false_eq_true, false_implies, forall_const, shA]
    repeat' first | with_reducible intro _ | with_reducible apply And.intro
    all_goals first | exact True.intro | omega | exact hQ
  | succ kk ih =>
    intro hh ww hk hw hi hQ
    have ha := hi.1
    have i0 : ((aa : Int) + 0).toNat = aa := by omega
    have ek : w32 (((nn - (kk + 1) : Nat) : Int) + 1) = ((nn - kk : Nat) : Int) := by rw [w32_id (by omega) (by omega)]; omega
    unfold goMo at hQ
    by_cases c : hh 88 aa < 120
    · rw [if_pos c] at hQ
      have nx := ih (minuteM hh aa) (ww + 120) (by omega) (by omega) (MI_minute hi c) hQ
      refine Wp.go [2] 20 ok_158 ?_
      simp only [c158, rlA, KF_s, KF_0, elN_n, elN_c, ↓reduceIte, Bool.false_eq_true, Int.reduceToNat, lk_c, lk_n, sw_c, sw_n, List.getD_cons_zero, List.getD_cons_succ, fv_0, fv_1, fv_2, fv_r, pf_0, pf_2, Option.toList_some, Option.toList_none, List.cons_append, List.nil_append, stK_n, stK_i, stK_r, true_and, and_true, true_or, or_true, List.length_nil, List.length_cons, Nat.zero_add, Nat.reduceAdd, Nat.reduceLeDiff, bi_0, bi_1, bi_01, em_1, em_2, cmp64_0, cmp64_lt, cmp64_gt, hu_ap, ne_a1, ne_a2, Decidable.not_not, Int.reduceAdd, Int.reduceNeg, Int.toNat_natCast, Int.toNat_zero, Int.toNat_one, List.append_nil, reduceCtorEq, Nat.reduceEqDiff, Nat.reduceBEq, Bool.or_false, Bool.false_or, Bool.true_or, Bool.or_true, some_vI, Int.le_refl, Nat.le_refl, false_or, or_false, Int.reduceLE, Int.reduceLT, Int.reduceEq, Int.zero_le_ofNat, and_self, if_true, if_false, false_and, and_false, not_true_eq_false, not_false_eq_true, false_implies, forall_const, shA, i0, ha, ek, c]
      repeat' first | with_reducible intro _ | (refine call_of (d' := d - 1) (by omega) (m_its (by omega)) ?_) | (refine call_of (d' := d - 1) (by omega) (m_minuteGoes hi haa (by omega) (by omega)) ?_) | simp only [c158, rlA, KF_s, KF_0, elN_n, elN_c, ↓reduceIte, Bool.false_eq_true, Int.reduceToNat, lk_c, lk_n, sw_c, sw_n, List.getD_cons_zero, List.getD_cons_succ, fv_0, fv_1, fv_2, fv_r, pf_0, pf_2, Option.toList_some, Option.toList_none, List.cons_append, List.nil_append, stK_n, stK_i, stK_r, true_and, and_true, true_or, or_true, List.length_nil, List.length_cons, Nat.zero_add, Nat.reduceAdd, Nat.reduceLeDiff, bi_0, bi_1, bi_01, em_1, em_2, cmp64_0, cmp64_lt, cmp64_gt, hu_ap, ne_a1, ne_a2, Decidable.not_not, Int.reduceAdd, Int.reduceNeg, Int.toNat_natCast, Int.toNat_zero, Int.toNat_one, List.append_nil, reduceCtorEq, Nat.reduceEqDiff, Nat.reduceBEq, Bool.or_false, Bool.false_or, Bool.true_or, Bool.or_true, some_vI, Int.le_refl, Nat.le_refl, false_or, or_false, Int.reduceLE, Int.reduceLT, Int.reduceEq, Int.zero_le_ofNat, and_self, if_true, if_false, false_and, and_false, not_true_eq_false, not_false_eq_true, false_implies, forall_const, shA, i0, ha, ek, c] | with_reducible apply And.intro
      all_goals first | exact True.intro | omega | exact nx
    · rw [if_neg c] at hQ
      refine Wp.go [2] 20 ok_158 ?_
      simp only [c158, rlA, KF_s, KF_0, elN_n, elN_c, ↓reduceIte, Bool.false_eq_true, Int.reduceToNat, lk_c, lk_n, sw_c, sw_n, List.getD_cons_zero, List.getD_cons_succ, fv_0, fv_1, fv_2, fv_r, pf_0, pf_2, Option.toList_some, Option.toList_none, List.cons_append, List.nil_append, stK_n, stK_i, stK_r, true_and, and_true, true_or, or_true, List.length_nil, List.length_cons, Nat.zero_add, Nat.reduceAdd, Nat.reduceLeDiff, bi_0, bi_1, bi_01, em_1, em_2, cmp64_0, cmp64_lt, cmp64_gt, hu_ap, ne_a1, ne_a2, Decidable.not_not, Int.reduceAdd, Int.reduceNeg, Int.toNat_natCast, Int.toNat_zero, Int.toNat_one, List.append_nil, reduceCtorEq, Nat.reduceEqDiff, Nat.reduceBEq, Bool.or_false, Bool.false_or, Bool.true_or, Bool.or_true, some_vI, Int.le_refl, Nat.le_refl, false_or, or_false, Int.reduceLE, Int.reduceLT, Int.reduceEq, Int.zero_le_ofNat, and_self, if_true, if_false, false_and, and_false, not_true_eq_false, not_false_eq_true, false_implies, forall_const, shA, i0, ha, ek, c]
      repeat' first | with_reducible intro _ | (refine call_of (d' := d - 1) (by omega) (m_its (by omega)) ?_) | simp only [c158, rlA, KF_s, KF_0, elN_n, elN_c, ↓reduceIte, Bool.false_eq_true, Int.reduceToNat, lk_c, lk_n, sw_c, sw_n, List.getD_cons_zero, List.getD_cons_succ, fv_0, fv_1, fv_2, fv_r, pf_0, pf_2, Option.toList_some, Option.toList_none, List.cons_append, List.nil_append, stK_n, stK_i, stK_r, true_and, and_true, true_or, or_true, List.length_nil, List.length_cons, Nat.zero_add, Nat.reduceAdd, Nat.reduceLeDiff, bi_0, bi_1, bi_01, em_1, em_2, cmp64_0, cmp64_lt, cmp64_gt, hu_ap, ne_a1, ne_a2, Decidable.not_not, Int.reduceAdd, Int.reduceNeg, Int.toNat_natCast, Int.toNat_zero, Int.toNat_one, List.append_nil, reduceCtorEq, Nat.reduceEqDiff, Nat.reduceBEq, Bool.or_false, Bool.false_or, Bool.true_or, Bool.or_true, some_vI, Int.le_refl, Nat.le_refl, false_or, or_false, Int.reduceLE, Int.reduceLT, Int.reduceEq, Int.zero_le_ofNat, and_self, if_true, if_false, false_and, and_false, not_true_eq_false, not_false_eq_true, false_implies, forall_const, shA, i0, ha, ek, c] | with_reducible apply And.intro
      all_goals first | exact True.intro | omega | exact hQ
theorem m_go {aa nn : Nat} {ww : Int} (hi : MI h aa ww) (haa : aa ≤ 41) (hn : nn ≤ 200) (hw : ww + 120 * nn ≤ 1900000000) (hd : 5 ≤ d) : CallR G l d 158 [vR 82, vI nn] h (fun r h' => r = none ∧ h' = goMo aa nn h) := by
  refine in158 [2] 20 fun _ hO => ?_
  have lp := m_goLoop (G := G) (l := l) (Q := fun r h' => r = none ∧ h' = goMo aa nn h) haa hn hd nn h ww (Nat.le_refl _) hw hi ⟨rfl, rfl⟩
  simp only [c158, rlA, KF_s, KF_0, elN_n, elN_c, ↓reduceIte, Bool.false_eq_true, Int.reduceToNat, lk_c, lk_n, sw_c, sw_n, List.getD_cons_zero, List.getD_cons_succ, fv_0, fv_1, fv_2, fv_r, pf_0, pf_2, Option.toList_some, Option.toList_none, List.cons_append, List.nil_append, stK_n, stK_i, stK_r, true_and, and_true, true_or, or_true, List.length_nil, List.length_cons, Nat.zero_add, Nat.reduceAdd, Nat.reduceLeDiff, bi_0, bi_1, bi_01, em_1, em_2, cmp64_0, cmp64_lt, cmp64_gt, hu_ap, ne_a1, ne_a2, Decidable.not_not, Int.reduceAdd, Int.reduceNeg, Int.toNat_natCast, Int.toNat_zero, Int.toNat_one, List.append_nil, reduceCtorEq, Nat.reduceEqDiff, Nat.reduceBEq, Bool.or_false, Bool.false_or, Bool.true_or, Bool.or_true, some_vI, Int.le_refl, Nat.le_refl, false_or, or_false, Int.reduceLE, Int.reduceLT, Int.reduceEq, Int.zero_le_ofNat, and_self, if_true, if_false, false_and, and_false, not_true_eq_false, not_false_eq_true, false_implies, forall_const, shA]
  refine Wp.cast lp ?_ rfl
  simp only [List.cons.injEq, some_vI, true_and, and_true]; omega
end L2M
