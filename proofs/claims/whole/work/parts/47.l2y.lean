section L2Y
variable {G : GD} {l : Launch} {d : Nat} {h : AH}
theorem call_cut {d' m : Nat} {as : List AV} {x : AH} {v ee : Int} {F : Option AV → AH → Prop} (hd : d' < d) (hc : CallR G l d' m as x (fun r h' => ∃ u, r = some (vI u) ∧ CutR u v ee ∧ AgC x h')) (hf : ∀ u h', CutR u v ee → AgC x h' → F (some (vI u)) h') : ∃ P, CRd G l d m as x P ∧ ∀ r h', P r h' → F r h' := ⟨_, ⟨d', hd, hc⟩, fun r h' e => by obtain ⟨u, e1, e2, e3⟩ := e; rw [e1]; exact hf u h' e2 e3⟩
def limS (st : Int × Int) : Int := if st.1 < 0 then 120 else st.2
theorem limS_r {ok : Nat → Nat → Bool} {V : Nat → Nat → Int} (hv : ∀ p q, ok p q = true → V p q ≤ 119) : ∀ n : Nat, limS (swS ok V n) ≤ 120 ∧ -3 ≤ (swS ok V n).1
  | 0 => by unfold limS swS; exact ⟨by decide, by decide⟩
  | n + 1 => by
    obtain ⟨i1, i2⟩ := limS_r hv n
    have e1 : swS ok V (n + 1) = if ok (n / 8) (n % 8) = true ∧ 0 ≤ V (n / 8) (n % 8) ∧ ((swS ok V n).1 < 0 ∨ V (n / 8) (n % 8) < (swS ok V n).2) then (10 * ((n / 8 : Nat) : Int) + ((n % 8 : Nat) : Int), V (n / 8) (n % 8)) else swS ok V n := rfl
    rw [e1]
    split
    · next q =>
      have := hv _ _ q.1
      refine ⟨?_, by show -3 ≤ 10 * ((n / 8 : Nat) : Int) + ((n % 8 : Nat) : Int); omega⟩
      unfold limS
      split
      · omega
      · show V (n / 8) (n % 8) ≤ 120; omega
    · exact ⟨i1, i2⟩
theorem swS_at {ok : Nat → Nat → Bool} {V : Nat → Nat → Int} {p q : Nat} (hq : q < 8) : swS ok V (8 * p + q + 1) = if ok p q = true ∧ 0 ≤ V p q ∧ ((swS ok V (8 * p + q)).1 < 0 ∨ V p q < (swS ok V (8 * p + q)).2) then (10 * (p : Int) + (q : Int), V p q) else swS ok V (8 * p + q) := by
  have e1 : swS ok V (8 * p + q + 1) = if ok ((8 * p + q) / 8) ((8 * p + q) % 8) = true ∧ 0 ≤ V ((8 * p + q) / 8) ((8 * p + q) % 8) ∧ ((swS ok V (8 * p + q)).1 < 0 ∨ V ((8 * p + q) / 8) ((8 * p + q) % 8) < (swS ok V (8 * p + q)).2) then (10 * (((8 * p + q) / 8 : Nat) : Int) + (((8 * p + q) % 8 : Nat) : Int), V ((8 * p + q) / 8) ((8 * p + q) % 8)) else swS ok V (8 * p + q) := rfl
  rw [e1, show (8 * p + q) / 8 = p by omega, show (8 * p + q) % 8 = q by omega]
theorem swS_yes {ok : Nat → Nat → Bool} {V : Nat → Nat → Int} {p q : Nat} {u : Int} (hq : q < 8) (ho : ok p q = true) (lr : V p q = -3 ∨ (0 ≤ V p q ∧ V p q ≤ 119)) (ct : CutR u (V p q) (limS (swS ok V (8 * p + q)))) (h1 : ¬ u = -3) (h2 : u < limS (swS ok V (8 * p + q))) : (swS ok V (8 * p + q + 1)).1 = 10 * (p : Int) + q ∧ limS (swS ok V (8 * p + q + 1)) = u := by
  have e : u = V p q := by rcases ct with c | c; exact c; exact absurd c.1 h1
  unfold limS at h2
  rw [swS_at hq, if_pos ⟨ho, by omega, by split at h2 <;> omega⟩]
  refine ⟨rfl, ?_⟩
  unfold limS
  rw [if_neg (by show ¬ 10 * (p : Int) + (q : Int) < 0; omega)]
  exact e.symm
theorem swS_no {ok : Nat → Nat → Bool} {V : Nat → Nat → Int} {p q : Nat} {u : Int} (hq : q < 8) (lr : V p q = -3 ∨ (0 ≤ V p q ∧ V p q ≤ 119)) (ct : CutR u (V p q) (limS (swS ok V (8 * p + q)))) (h1 : u = -3 ∨ ¬ u < limS (swS ok V (8 * p + q))) : swS ok V (8 * p + q + 1) = swS ok V (8 * p + q) := by
  rw [swS_at hq, if_neg]
  intro z
  unfold CutR limS at ct
  unfold limS at h1
  have z2 := z.2.1
  have z3 := z.2.2
  split at ct <;> split at h1 <;> omega
theorem swS_nok {ok : Nat → Nat → Bool} {V : Nat → Nat → Int} {p q : Nat} (hq : q < 8) (ho : ok p q = false) : swS ok V (8 * p + q + 1) = swS ok V (8 * p + q) := by
  rw [swS_at hq, if_neg (fun z => by rw [ho] at z; exact absurd z.1 (by decide))]
set_option maxHeartbeats 8000000 in
theorem s_swap {g : AH} (hb : BB h g) (hcl : CL h) (hd : 7 ≤ d) : CallR G l d 75 [vR 0] h (fun r h' => r = some (vI ((swS (swOk g) (swapV g) 64).1)) ∧ AgC h h') := by
  refine in75 [8, 24] 40 fun hO => ?_
  have h8 := BB_P hb
  obtain ⟨nn, hnn⟩ : ∃ nn : Nat, g 82 5 = nn := ⟨(g 82 5).toNat, by omega⟩
  have lrr : ∀ p q : Nat, swOk g p q = true → swapV g p q = -3 ∨ (0 ≤ swapV g p q ∧ swapV g p q ≤ 119) := fun p q z => by
    unfold swOk at z
    rw [decide_eq_true_eq] at z
    exact SG_lr (SG_swap hb hcl (by omega) z.2.1)
  have lim := fun n => limS_r (ok := swOk g) (V := swapV g) (fun p q z => by have := lrr p q z; omega) n
  have outer : ∀ p : Nat, p ≤ nn → ∀ (x : AH) (p4 p5 : Option AV), AgC h x → stK p4 = true → stK p5 = true → Wp G l 75 d 8 [some (vR 0), some (vI (swS (swOk g) (swapV g) (8 * p)).1), some (vI (limS (swS (swOk g) (swapV g) (8 * p)))), some (vI p), p4, p5] [] x (fun r h' => r = some (vI ((swS (swOk g) (swapV g) 64).1)) ∧ AgC h h') := by
    refine down (X := fun p => ∀ (x : AH) (p4 p5 : Option AV), AgC h x → stK p4 = true → stK p5 = true → Wp G l 75 d 8 [some (vR 0), some (vI (swS (swOk g) (swapV g) (8 * p)).1), some (vI (limS (swS (swOk g) (swapV g) (8 * p)))), some (vI p), p4, p5] [] x (fun r h' => r = some (vI ((swS (swOk g) (swapV g) 64).1)) ∧ AgC h h')) nn ?_ ?_
    · intro x p4 p5 ax hp4 hp5
      have bx := BB_ag hb ax
      have ec : x 1 0 = (nn : Int) := by rw [bx.1.1]; exact hnn
      have fin : (swS (swOk g) (swapV g) (8 * nn)).1 = (swS (swOk g) (swapV g) 64).1 := by
        have := swS_skip (ok := swOk g) (V := swapV g) (8 * nn) (64 - 8 * nn) (fun n h1 h2 => by unfold swOk; exact decide_eq_false (by omega))
        rw [show 8 * nn + (64 - 8 * nn) = 64 by omega] at this
        rw [this]
      refine Wp.go [8, 24] 40 ok_75 ?_
      simp only [c75, rlA, KF_s, KF_0, elN_n, elN_c, ↓reduceIte, Bool.false_eq_true, Int.reduceToNat, lk_c, lk_n, sw_c, sw_n, List.getD_cons_zero, List.getD_cons_succ, fv_0, fv_1, fv_2, fv_r, pf_0, pf_2, Option.toList_some, Option.toList_none, List.cons_append, List.nil_append, stK_n, stK_i, stK_r, true_and, and_true, true_or, or_true, List.length_nil, List.length_cons, Nat.zero_add, Nat.reduceAdd, Nat.reduceLeDiff, bi_0, bi_1, bi_01, em_1, em_2, cmp64_0, cmp64_lt, cmp64_gt, hu_ap, ne_a1, ne_a2, Decidable.not_not, Int.reduceAdd, Int.reduceNeg, Int.toNat_natCast, Int.toNat_zero, Int.toNat_one, List.append_nil, reduceCtorEq, Nat.reduceEqDiff, Nat.reduceBEq, Bool.or_false, Bool.false_or, Bool.true_or, Bool.or_true, some_vI, Int.le_refl, Nat.le_refl, false_or, or_false, Int.reduceLE, Int.reduceLT, Int.reduceEq, Int.zero_le_ofNat, and_self, if_true, if_false, false_and, and_false, not_true_eq_false, not_false_eq_true, false_implies, forall_const, shA, hp4, hp5, ec]
      repeat' first | with_reducible intro _ | simp only [c75, rlA, KF_s, KF_0, elN_n, elN_c, ↓reduceIte, Bool.false_eq_true, Int.reduceToNat, lk_c, lk_n, sw_c, sw_n, List.getD_cons_zero, List.getD_cons_succ, fv_0, fv_1, fv_2, fv_r, pf_0, pf_2, Option.toList_some, Option.toList_none, List.cons_append, List.nil_append, stK_n, stK_i, stK_r, true_and, and_true, true_or, or_true, List.length_nil, List.length_cons, Nat.zero_add, Nat.reduceAdd, Nat.reduceLeDiff, bi_0, bi_1, bi_01, em_1, em_2, cmp64_0, cmp64_lt, cmp64_gt, hu_ap, ne_a1, ne_a2, Decidable.not_not, Int.reduceAdd, Int.reduceNeg, Int.toNat_natCast, Int.toNat_zero, Int.toNat_one, List.append_nil, reduceCtorEq, Nat.reduceEqDiff, Nat.reduceBEq, Bool.or_false, Bool.false_or, Bool.true_or, Bool.or_true, some_vI, Int.le_refl, Nat.le_refl, false_or, or_false, Int.reduceLE, Int.reduceLT, Int.reduceEq, Int.zero_le_ofNat, and_self, if_true, if_false, false_and, and_false, not_true_eq_false, not_false_eq_true, false_implies, forall_const, shA, hp4, hp5, ec] | with_reducible apply And.intro
      all_goals first | exact True.intro | omega | exact ax | exact fin
    · intro p hp ihO x p4 p5 ax hp4 hp5
      have inner : ∀ q : Nat, q ≤ nn → p < q → ∀ (x : AH) (p5 : Option AV), AgC h x → stK p5 = true → Wp G l 75 d 24 [some (vR 0), some (vI (swS (swOk g) (swapV g) (8 * p + q)).1), some (vI (limS (swS (swOk g) (swapV g) (8 * p + q)))), some (vI p), some (vI q), p5] [] x (fun r h' => r = some (vI ((swS (swOk g) (swapV g) 64).1)) ∧ AgC h h') := by
        refine down (X := fun q => p < q → ∀ (x : AH) (p5 : Option AV), AgC h x → stK p5 = true → Wp G l 75 d 24 [some (vR 0), some (vI (swS (swOk g) (swapV g) (8 * p + q)).1), some (vI (limS (swS (swOk g) (swapV g) (8 * p + q)))), some (vI p), some (vI q), p5] [] x (fun r h' => r = some (vI ((swS (swOk g) (swapV g) 64).1)) ∧ AgC h h')) nn ?_ ?_
        · intro hpq x p5 ax hp5
          have bx := BB_ag hb ax
          have ec : x 1 0 = (nn : Int) := by rw [bx.1.1]; exact hnn
          have ewp := w_s p (by omega)
          have sk := swS_skip (ok := swOk g) (V := swapV g) (8 * p + nn) (8 - nn) (fun n h1 h2 => by unfold swOk; exact decide_eq_false (by omega))
          rw [show 8 * p + nn + (8 - nn) = 8 * (p + 1) by omega] at sk
          rw [← sk]
          have nx := ihO x (some (vI (nn : Int))) p5 ax rfl hp5
          refine Wp.go [8, 24] 40 ok_75 ?_
          simp only [c75, rlA, KF_s, KF_0, elN_n, elN_c, ↓reduceIte, Bool.false_eq_true, Int.reduceToNat, lk_c, lk_n, sw_c, sw_n, List.getD_cons_zero, List.getD_cons_succ, fv_0, fv_1, fv_2, fv_r, pf_0, pf_2, Option.toList_some, Option.toList_none, List.cons_append, List.nil_append, stK_n, stK_i, stK_r, true_and, and_true, true_or, or_true, List.length_nil, List.length_cons, Nat.zero_add, Nat.reduceAdd, Nat.reduceLeDiff, bi_0, bi_1, bi_01, em_1, em_2, cmp64_0, cmp64_lt, cmp64_gt, hu_ap, ne_a1, ne_a2, Decidable.not_not, Int.reduceAdd, Int.reduceNeg, Int.toNat_natCast, Int.toNat_zero, Int.toNat_one, List.append_nil, reduceCtorEq, Nat.reduceEqDiff, Nat.reduceBEq, Bool.or_false, Bool.false_or, Bool.true_or, Bool.or_true, some_vI, Int.le_refl, Nat.le_refl, false_or, or_false, Int.reduceLE, Int.reduceLT, Int.reduceEq, Int.zero_le_ofNat, and_self, if_true, if_false, false_and, and_false, not_true_eq_false, not_false_eq_true, false_implies, forall_const, shA, hp5, ec, ewp]
          repeat' first | with_reducible intro _ | simp only [c75, rlA, KF_s, KF_0, elN_n, elN_c, ↓reduceIte, Bool.false_eq_true, Int.reduceToNat, lk_c, lk_n, sw_c, sw_n, List.getD_cons_zero, List.getD_cons_succ, fv_0, fv_1, fv_2, fv_r, pf_0, pf_2, Option.toList_some, Option.toList_none, List.cons_append, List.nil_append, stK_n, stK_i, stK_r, true_and, and_true, true_or, or_true, List.length_nil, List.length_cons, Nat.zero_add, Nat.reduceAdd, Nat.reduceLeDiff, bi_0, bi_1, bi_01, em_1, em_2, cmp64_0, cmp64_lt, cmp64_gt, hu_ap, ne_a1, ne_a2, Decidable.not_not, Int.reduceAdd, Int.reduceNeg, Int.toNat_natCast, Int.toNat_zero, Int.toNat_one, List.append_nil, reduceCtorEq, Nat.reduceEqDiff, Nat.reduceBEq, Bool.or_false, Bool.false_or, Bool.true_or, Bool.or_true, some_vI, Int.le_refl, Nat.le_refl, false_or, or_false, Int.reduceLE, Int.reduceLT, Int.reduceEq, Int.zero_le_ofNat, and_self, if_true, if_false, false_and, and_false, not_true_eq_false, not_false_eq_true, false_implies, forall_const, shA, hp5, ec, ewp] | with_reducible apply And.intro
          all_goals first | exact True.intro | omega | exact nx
        · intro q hq ih hpq x p5 ax hp5
          have bx := BB_ag hb ax
          have ec : x 1 0 = (nn : Int) := by rw [bx.1.1]; exact hnn
          have ewq := w_s q (by omega)
          have ea : ∀ c : Nat, (c : Int) < g 82 5 → (x 8 c = -9 ↔ g 88 (33 + c) < 0) := fun c hc => by
            have := (bx.2.2.1 c hc).2.2.2.2.2.2
            rw [Nat.zero_add] at this
            rw [show x 8 c = orN (g 88 (33 + c)) from this]
            unfold orN; split <;> omega
          have ep := ea p (by omega)
          have eq := ea q (by omega)
          have lm := lim (8 * p + q)
          have wm : w32 (w32 (10 * (p : Int)) + (q : Int)) = 10 * (p : Int) + q := by rw [w32_id (z := 10 * (p : Int)) (by omega) (by omega), w32_id (by omega) (by omega)]
          have nx := ih (by omega)
          have skip : swOk g p q = false → ∀ (x2 : AH) (p6 : Option AV), AgC h x2 → stK p6 = true → Wp G l 75 d 24 [some (vR 0), some (vI (swS (swOk g) (swapV g) (8 * p + q)).1), some (vI (limS (swS (swOk g) (swapV g) (8 * p + q)))), some (vI p), some (vI ((q + 1 : Nat) : Int)), p6] [] x2 (fun r h' => r = some (vI ((swS (swOk g) (swapV g) 64).1)) ∧ AgC h h') := fun z x2 p6 a2 hp6 => by
            have := nx x2 p6 a2 hp6
            rw [show 8 * p + (q + 1) = 8 * p + q + 1 by omega, swS_nok (by omega) z] at this
            exact this
          have no : swOk g p q = true → ∀ (u : Int) (x2 : AH), CutR u (swapV g p q) (limS (swS (swOk g) (swapV g) (8 * p + q))) → AgC h x2 → (u = -3 ∨ ¬ u < limS (swS (swOk g) (swapV g) (8 * p + q))) → Wp G l 75 d 24 [some (vR 0), some (vI (swS (swOk g) (swapV g) (8 * p + q)).1), some (vI (limS (swS (swOk g) (swapV g) (8 * p + q)))), some (vI p), some (vI ((q + 1 : Nat) : Int)), some (vI u)] [] x2 (fun r h' => r = some (vI ((swS (swOk g) (swapV g) 64).1)) ∧ AgC h h') := fun z u x2 ct a2 hu => by
            have := nx x2 (some (vI u)) a2 rfl
            rw [show 8 * p + (q + 1) = 8 * p + q + 1 by omega, swS_no (by omega) (lrr p q z) ct hu] at this
            exact this
          have yes : swOk g p q = true → ∀ (u : Int) (x2 : AH), CutR u (swapV g p q) (limS (swS (swOk g) (swapV g) (8 * p + q))) → AgC h x2 → ¬ u = -3 → u < limS (swS (swOk g) (swapV g) (8 * p + q)) → Wp G l 75 d 24 [some (vR 0), some (vI (10 * (p : Int) + q)), some (vI u), some (vI p), some (vI ((q + 1 : Nat) : Int)), some (vI u)] [] x2 (fun r h' => r = some (vI ((swS (swOk g) (swapV g) 64).1)) ∧ AgC h h') := fun z u x2 ct a2 h1 h2 => by
            have := nx x2 (some (vI u)) a2 rfl
            obtain ⟨y1, y2⟩ := swS_yes (by omega) z (lrr p q z) ct h1 h2
            rw [show 8 * p + (q + 1) = 8 * p + q + 1 by omega, y1, y2] at this
            exact this
          have okT : g 88 (33 + p) < 0 → g 88 (33 + q) < 0 → swOk g p q = true := fun z1 z2 => by unfold swOk; exact decide_eq_true ⟨hpq, by omega, z1, z2⟩
          have okF : ¬ (g 88 (33 + p) < 0 ∧ g 88 (33 + q) < 0) → swOk g p q = false := fun z => by unfold swOk; exact decide_eq_false (fun w => z w.2.2)
          refine Wp.go [8, 24] 40 ok_75 ?_
          simp only [c75, rlA, KF_s, KF_0, elN_n, elN_c, ↓reduceIte, Bool.false_eq_true, Int.reduceToNat, lk_c, lk_n, sw_c, sw_n, List.getD_cons_zero, List.getD_cons_succ, fv_0, fv_1, fv_2, fv_r, pf_0, pf_2, Option.toList_some, Option.toList_none, List.cons_append, List.nil_append, stK_n, stK_i, stK_r, true_and, and_true, true_or, or_true, List.length_nil, List.length_cons, Nat.zero_add, Nat.reduceAdd, Nat.reduceLeDiff, bi_0, bi_1, bi_01, em_1, em_2, cmp64_0, cmp64_lt, cmp64_gt, hu_ap, ne_a1, ne_a2, Decidable.not_not, Int.reduceAdd, Int.reduceNeg, Int.toNat_natCast, Int.toNat_zero, Int.toNat_one, List.append_nil, reduceCtorEq, Nat.reduceEqDiff, Nat.reduceBEq, Bool.or_false, Bool.false_or, Bool.true_or, Bool.or_true, some_vI, Int.le_refl, Nat.le_refl, false_or, or_false, Int.reduceLE, Int.reduceLT, Int.reduceEq, Int.zero_le_ofNat, and_self, if_true, if_false, false_and, and_false, not_true_eq_false, not_false_eq_true, false_implies, forall_const, shA, hp5, ec, ewq, wm]
          repeat' first | with_reducible intro _ | (refine call_cut (d' := d - 1) (by omega) (s_latestSwap (pp := p) (qq := q) bx ax.2 (by omega) (by omega) lm.1 (by omega)) ?_) | simp only [c75, rlA, KF_s, KF_0, elN_n, elN_c, ↓reduceIte, Bool.false_eq_true, Int.reduceToNat, lk_c, lk_n, sw_c, sw_n, List.getD_cons_zero, List.getD_cons_succ, fv_0, fv_1, fv_2, fv_r, pf_0, pf_2, Option.toList_some, Option.toList_none, List.cons_append, List.nil_append, stK_n, stK_i, stK_r, true_and, and_true, true_or, or_true, List.length_nil, List.length_cons, Nat.zero_add, Nat.reduceAdd, Nat.reduceLeDiff, bi_0, bi_1, bi_01, em_1, em_2, cmp64_0, cmp64_lt, cmp64_gt, hu_ap, ne_a1, ne_a2, Decidable.not_not, Int.reduceAdd, Int.reduceNeg, Int.toNat_natCast, Int.toNat_zero, Int.toNat_one, List.append_nil, reduceCtorEq, Nat.reduceEqDiff, Nat.reduceBEq, Bool.or_false, Bool.false_or, Bool.true_or, Bool.or_true, some_vI, Int.le_refl, Nat.le_refl, false_or, or_false, Int.reduceLE, Int.reduceLT, Int.reduceEq, Int.zero_le_ofNat, and_self, if_true, if_false, false_and, and_false, not_true_eq_false, not_false_eq_true, false_implies, forall_const, shA, hp5, ec, ewq, wm] | with_reducible apply And.intro
          all_goals first | exact True.intro | omega | exact skip (okF (by omega)) _ _ ax hp5 | exact no (okT (by omega) (by omega)) _ _ (by assumption) (AgC.trans ax (by assumption)) (Or.inl (by assumption)) | exact no (okT (by omega) (by omega)) _ _ (by assumption) (AgC.trans ax (by assumption)) (Or.inr (by assumption)) | exact yes (okT (by omega) (by omega)) _ _ (by assumption) (AgC.trans ax (by assumption)) (by assumption) (by assumption)
      have bx := BB_ag hb ax
      have ec : x 1 0 = (nn : Int) := by rw [bx.1.1]; exact hnn
      have ewp := w_s p (by omega)
      have sk := swS_skip (ok := swOk g) (V := swapV g) (8 * p) (p + 1) (fun n h1 h2 => by unfold swOk; exact decide_eq_false (by omega))
      rw [← sk]
      have nx := inner (p + 1) (by omega) (by omega) x p5 ax hp5
      refine Wp.go [8, 24] 40 ok_75 ?_
      simp only [c75, rlA, KF_s, KF_0, elN_n, elN_c, ↓reduceIte, Bool.false_eq_true, Int.reduceToNat, lk_c, lk_n, sw_c, sw_n, List.getD_cons_zero, List.getD_cons_succ, fv_0, fv_1, fv_2, fv_r, pf_0, pf_2, Option.toList_some, Option.toList_none, List.cons_append, List.nil_append, stK_n, stK_i, stK_r, true_and, and_true, true_or, or_true, List.length_nil, List.length_cons, Nat.zero_add, Nat.reduceAdd, Nat.reduceLeDiff, bi_0, bi_1, bi_01, em_1, em_2, cmp64_0, cmp64_lt, cmp64_gt, hu_ap, ne_a1, ne_a2, Decidable.not_not, Int.reduceAdd, Int.reduceNeg, Int.toNat_natCast, Int.toNat_zero, Int.toNat_one, List.append_nil, reduceCtorEq, Nat.reduceEqDiff, Nat.reduceBEq, Bool.or_false, Bool.false_or, Bool.true_or, Bool.or_true, some_vI, Int.le_refl, Nat.le_refl, false_or, or_false, Int.reduceLE, Int.reduceLT, Int.reduceEq, Int.zero_le_ofNat, and_self, if_true, if_false, false_and, and_false, not_true_eq_false, not_false_eq_true, false_implies, forall_const, shA, hp4, hp5, ec, ewp]
      repeat' first | with_reducible intro _ | simp only [c75, rlA, KF_s, KF_0, elN_n, elN_c, ↓reduceIte, Bool.false_eq_true, Int.reduceToNat, lk_c, lk_n, sw_c, sw_n, List.getD_cons_zero, List.getD_cons_succ, fv_0, fv_1, fv_2, fv_r, pf_0, pf_2, Option.toList_some, Option.toList_none, List.cons_append, List.nil_append, stK_n, stK_i, stK_r, true_and, and_true, true_or, or_true, List.length_nil, List.length_cons, Nat.zero_add, Nat.reduceAdd, Nat.reduceLeDiff, bi_0, bi_1, bi_01, em_1, em_2, cmp64_0, cmp64_lt, cmp64_gt, hu_ap, ne_a1, ne_a2, Decidable.not_not, Int.reduceAdd, Int.reduceNeg, Int.toNat_natCast, Int.toNat_zero, Int.toNat_one, List.append_nil, reduceCtorEq, Nat.reduceEqDiff, Nat.reduceBEq, Bool.or_false, Bool.false_or, Bool.true_or, Bool.or_true, some_vI, Int.le_refl, Nat.le_refl, false_or, or_false, Int.reduceLE, Int.reduceLT, Int.reduceEq, Int.zero_le_ofNat, and_self, if_true, if_false, false_and, and_false, not_true_eq_false, not_false_eq_true, false_implies, forall_const, shA, hp4, hp5, ec, ewp] | with_reducible apply And.intro
      all_goals first | exact True.intro | omega | exact nx
  simp only [c75, rlA, KF_s, KF_0, elN_n, elN_c, ↓reduceIte, Bool.false_eq_true, Int.reduceToNat, lk_c, lk_n, sw_c, sw_n, List.getD_cons_zero, List.getD_cons_succ, fv_0, fv_1, fv_2, fv_r, pf_0, pf_2, Option.toList_some, Option.toList_none, List.cons_append, List.nil_append, stK_n, stK_i, stK_r, true_and, and_true, true_or, or_true, List.length_nil, List.length_cons, Nat.zero_add, Nat.reduceAdd, Nat.reduceLeDiff, bi_0, bi_1, bi_01, em_1, em_2, cmp64_0, cmp64_lt, cmp64_gt, hu_ap, ne_a1, ne_a2, Decidable.not_not, Int.reduceAdd, Int.reduceNeg, Int.toNat_natCast, Int.toNat_zero, Int.toNat_one, List.append_nil, reduceCtorEq, Nat.reduceEqDiff, Nat.reduceBEq, Bool.or_false, Bool.false_or, Bool.true_or, Bool.or_true, some_vI, Int.le_refl, Nat.le_refl, false_or, or_false, Int.reduceLE, Int.reduceLT, Int.reduceEq, Int.zero_le_ofNat, and_self, if_true, if_false, false_and, and_false, not_true_eq_false, not_false_eq_true, false_implies, forall_const, shA]
  repeat' first | with_reducible intro _ | simp only [c75, rlA, KF_s, KF_0, elN_n, elN_c, ↓reduceIte, Bool.false_eq_true, Int.reduceToNat, lk_c, lk_n, sw_c, sw_n, List.getD_cons_zero, List.getD_cons_succ, fv_0, fv_1, fv_2, fv_r, pf_0, pf_2, Option.toList_some, Option.toList_none, List.cons_append, List.nil_append, stK_n, stK_i, stK_r, true_and, and_true, true_or, or_true, List.length_nil, List.length_cons, Nat.zero_add, Nat.reduceAdd, Nat.reduceLeDiff, bi_0, bi_1, bi_01, em_1, em_2, cmp64_0, cmp64_lt, cmp64_gt, hu_ap, ne_a1, ne_a2, Decidable.not_not, Int.reduceAdd, Int.reduceNeg, Int.toNat_natCast, Int.toNat_zero, Int.toNat_one, List.append_nil, reduceCtorEq, Nat.reduceEqDiff, Nat.reduceBEq, Bool.or_false, Bool.false_or, Bool.true_or, Bool.or_true, some_vI, Int.le_refl, Nat.le_refl, false_or, or_false, Int.reduceLE, Int.reduceLT, Int.reduceEq, Int.zero_le_ofNat, and_self, if_true, if_false, false_and, and_false, not_true_eq_false, not_false_eq_true, false_implies, forall_const, shA] | with_reducible apply And.intro
  all_goals first | exact True.intro | omega | exact outer 0 (Nat.zero_le _) h none none (AgC.refl hcl) rfl rfl
end L2Y
