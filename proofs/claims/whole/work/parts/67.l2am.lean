section L2AM
variable {G : GD} {l : Launch} {d : Nat} {h : AH}
abbrev TS : Type := Nat × Nat × Int
def TXs (h : AH) (st : TS) : AH := TX h (st.1 : Nat) (st.2.1 : Nat) st.2.2
theorem TXs_2 (h : AH) (st : TS) : TXs h st 42 2 = (st.1 : Int) ∧ TXs h st 42 3 = (st.2.1 : Int) ∧ TXs h st 42 4 = st.2.2 ∧ TXs h st 42 1 = h 42 1 := TX_2 _ _ _ _
theorem TXs_f (h : AH) (st : TS) (v : Int) : hu (TXs h st) 42 4 v = TXs h (st.1, st.2.1, v) := TX_f _ _ _ _ _
theorem TXs_o (h : AH) (st : TS) (a c : Nat) (q : a ≠ 42) : TXs h st a c = h a c := TX_o _ _ _ _ _ _ (by omega)
theorem TX_c (h : AH) (p t f : Int) (a c : Nat) (v : Int) (q : a ≠ 42) : hu (TX h p t f) a c v = TX (hu h a c v) p t f := by
  unfold TX; funext i j; simp only [hu_ap]; (repeat' split) <;> first | rfl | omega
theorem TXs_c (h : AH) (st : TS) (a c : Nat) (v : Int) (q : a ≠ 42) : hu (TXs h st) a c v = TXs (hu h a c v) st := TX_c _ _ _ _ _ _ _ q
theorem TXs_hat (h : AH) (st : TS) (f a n : Int) : addHatX (TXs h st) 12 f a n = TXs (addHatX h 12 f a n) st := by
  unfold addHatX
  rw [TXs_o _ _ _ _ (by omega)]
  split
  · rw [TXs_c _ _ _ _ _ (by omega), TXs_c _ _ _ _ _ (by omega), TXs_c _ _ _ _ _ (by omega), TXs_c _ _ _ _ _ (by omega)]
  · rfl
theorem TXs_per (h : AH) (st : TS) (k a f g s : Int) : addPersonX (TXs h st) 12 k a f g s = TXs (addPersonX h 12 k a f g s) st := by
  unfold addPersonX sendX
  rw [TXs_o _ _ _ _ (by omega)]
  split
  · rw [TXs_c _ _ _ _ _ (by omega), TXs_c _ _ _ _ _ (by omega), TXs_c _ _ _ _ _ (by omega), TXs_c _ _ _ _ _ (by omega), TXs_c _ _ _ _ _ (by omega), TXs_c _ _ _ _ _ (by omega), TXs_c _ _ _ _ _ (by omega), TXs_c _ _ _ _ _ (by omega)]
  · rfl
def numP (b : Nat → Int) (ln : Nat) (le mo : Int) (st : TS) : TS × Int := if st.2.2 = -1 then ((scan isDg b ln (scan isB b ln st.1), scan isB b ln st.1, if 1 ≤ scan isDg b ln (scan isB b ln st.1) - scan isB b ln st.1 ∧ scan isDg b ln (scan isB b ln st.1) - scan isB b ln st.1 ≤ 2 ∧ (le ≤ nvF b (scan isB b ln st.1) (scan isDg b ln (scan isB b ln st.1) - scan isB b ln st.1) ∧ nvF b (scan isB b ln st.1) (scan isDg b ln (scan isB b ln st.1) - scan isB b ln st.1) ≤ mo) then -1 else ((scan isB b ln st.1 : Nat) : Int)), nvF b (scan isB b ln st.1) (scan isDg b ln (scan isB b ln st.1) - scan isB b ln st.1)) else (st, 0)
def nameS (b : Nat → Int) (ln : Nat) (st : TS) : TS := (scan isLt b ln (scan isB b ln st.1), scan isB b ln st.1, st.2.2)
def wordP (b : Nat → Int) (ln j : Nat) (st : TS) : TS := if st.2.2 = -1 then (scan isLt b ln (scan isB b ln st.1), scan isB b ln st.1, if nameB b (scan isB b ln st.1) (scan isLt b ln (scan isB b ln st.1)) j = true then -1 else ((scan isB b ln st.1 : Nat) : Int)) else st
def skipP (b : Nat → Int) (ln : Nat) (st : TS) : TS := (scan isB b ln st.1, st.2)
def nextP (b : Nat → Int) (ln : Nat) (st : TS) : Bool := decide (scan isB b ln st.1 < ln ∧ b (scan isB b ln st.1) = 59)
def semP (b : Nat → Int) (ln : Nat) (st : TS) : TS := if st.2.2 = -1 then (if nextP b ln st = true then (scan isB b ln st.1 + 1, st.2.1, -1) else (scan isB b ln st.1, st.2.1, ((scan isB b ln st.1 : Nat) : Int))) else st
theorem scan_le {P : Int → Bool} {b : Nat → Int} {ln p : Nat} (h : p ≤ ln) : scan P b ln p ≤ ln := by have := scan_r (P := P) (b := b) (ln := ln) (p := p); omega
theorem numP_le {b : Nat → Int} {ln : Nat} {le mo : Int} {st : TS} (h : st.1 ≤ ln) : (numP b ln le mo st).1.1 ≤ ln := by unfold numP; split; exact scan_le (scan_le h); exact h
theorem wordP_le {b : Nat → Int} {ln j : Nat} {st : TS} (h : st.1 ≤ ln) : (wordP b ln j st).1 ≤ ln := by unfold wordP; split; exact scan_le (scan_le h); exact h
theorem skipP_le {b : Nat → Int} {ln : Nat} {st : TS} (h : st.1 ≤ ln) : (skipP b ln st).1 ≤ ln := scan_le h
theorem nameS_le {b : Nat → Int} {ln : Nat} {st : TS} (h : st.1 ≤ ln) : (nameS b ln st).1 ≤ ln := scan_le (scan_le h)
theorem semP_le {b : Nat → Int} {ln : Nat} {st : TS} (h : st.1 ≤ ln) : (semP b ln st).1 ≤ ln := by
  unfold semP
  split
  · split
    · next q => unfold nextP at q; rw [decide_eq_true_eq] at q; exact q.1
    · exact scan_le h
  · exact h
theorem s_numS {ln : Nat} {le mo : Int} {st : TS} (hl : h 42 1 = (ln : Int)) (hln : ln ≤ 240) (ho : st.1 ≤ ln) (hd : 2 ≤ d) : CallR G l d 38 [vR 42, vI le, vI mo] (TXs h st) (fun r h' => r = some (vI (numP (h 43) ln le mo st).2) ∧ h' = TXs h (numP (h 43) ln le mo st).1) := by
  obtain ⟨p, t, f⟩ := st
  unfold numP
  by_cases c : f = -1
  · subst c; rw [if_pos rfl]; exact s_number hl hln (by have : p ≤ ln := ho; omega) hd
  · rw [if_neg c]; exact s_numberF c
theorem s_wordS {ln j : Nat} {st : TS} (hS : StrOK G l) (hl : h 42 1 = (ln : Int)) (hln : ln ≤ 240) (ho : st.1 ≤ ln) (hj : j < 12) (hd : 5 ≤ d) : CallR G l d 37 [vR 42, vR (1000 + j)] (TXs h st) (fun r h' => r = none ∧ h' = TXs h (wordP (h 43) ln j st)) := by
  obtain ⟨p, t, f⟩ := st
  unfold wordP
  by_cases c : f = -1
  · subst c; rw [if_pos rfl]; exact s_word hS hl hln ho hj hd
  · rw [if_neg c]; exact s_wordF c
theorem s_semS {ln : Nat} {st : TS} (hl : h 42 1 = (ln : Int)) (hln : ln ≤ 240) (hd : 2 ≤ d) : CallR G l d 40 [vR 42] (TXs h st) (fun r h' => r = none ∧ h' = TXs h (semP (h 43) ln st)) := by
  obtain ⟨p, t, f⟩ := st
  unfold semP
  by_cases c : f = -1
  · subst c; rw [if_pos rfl]
    by_cases q : nextP (h 43) ln (p, t, -1) = true
    · rw [if_pos q]; unfold nextP at q; rw [decide_eq_true_eq] at q; exact s_semiY hl hln q hd
    · rw [if_neg q]; unfold nextP at q; rw [decide_eq_true_eq] at q; exact s_semiN hl hln q hd
  · rw [if_neg c]; exact s_semiF c
theorem s_nextS {ln : Nat} {st : TS} (hl : h 42 1 = (ln : Int)) (hln : ln ≤ 240) (hd : 1 ≤ d) : CallR G l d 39 [vR 42] (TXs h st) (fun r h' => r = some (vI (bi (nextP (h 43) ln st = true))) ∧ h' = TXs h (skipP (h 43) ln st)) := by
  obtain ⟨p, t, f⟩ := st
  refine (s_semiNext (t := (t : Int)) (f := f) (p := p) hl hln hd).imp (fun r h' e => ⟨?_, e.2⟩)
  rw [e.1]
  congr 2
  unfold nextP bi
  by_cases q : scan isB (h 43) ln p < ln ∧ h 43 (scan isB (h 43) ln p) = 59
  · rw [if_pos q, if_pos (decide_eq_true q)]
  · rw [if_neg q, if_neg (fun w => q (of_decide_eq_true w))]
theorem s_skipS {ln : Nat} {st : TS} (hl : h 42 1 = (ln : Int)) (hln : ln ≤ 240) : CallR G l d 34 [vR 42] (TXs h st) (fun r h' => r = none ∧ h' = TXs h (skipP (h 43) ln st)) := s_skip hl hln
theorem s_takeS {ln : Nat} {st : TS} (hl : h 42 1 = (ln : Int)) (hln : ln ≤ 240) (hd : 1 ≤ d) : CallR G l d 35 [vR 42] (TXs h st) (fun r h' => r = none ∧ h' = TXs h (nameS (h 43) ln st)) := s_takeName hl hln hd
theorem s_nameIsS {ln j : Nat} {st : TS} (hS : StrOK G l) (hl : h 42 1 = (ln : Int)) (hln : ln ≤ 240) (h1 : st.2.1 ≤ st.1) (ho : st.1 ≤ ln) (hj : j < 12) (hd : 4 ≤ d) : CallR G l d 36 [vR 42, vR (1000 + j)] (TXs h st) (fun r h' => r = some (vI (bi (nameB (h 43) st.2.1 st.1 j = true))) ∧ h' = TXs h st) := s_nameIs hS hl hln h1 ho hj hd
theorem strj (j : Nat) (hj : j < 12) : 1000 + j = 1000 + j := rfl
def kdV (b : Nat → Int) (st : TS) : Int := if nameB b st.2.1 st.1 4 = true then 0 else if nameB b st.2.1 st.1 5 = true then 1 else if nameB b st.2.1 st.1 6 = true then 2 else if nameB b st.2.1 st.1 7 = true then 3 else if nameB b st.2.1 st.1 8 = true then 4 else if nameB b st.2.1 st.1 9 = true then 5 else -3
def roomP (b : Nat → Int) (ln : Nat) (h : AH) (st : TS) : AH × TS := ((if (semP b ln (numP b ln 1 9 st).1).2.2 = -1 then hu h 12 12 (numP b ln 1 9 st).2 else h), semP b ln (numP b ln 1 9 st).1)
def hatP (b : Nat → Int) (ln : Nat) (h : AH) (st : TS) : AH × TS := if h 12 8 < 4 then
    (let n1 := numP b ln 0 8 st
     let n2 := numP b ln 0 99 (wordP b ln 1 n1.1)
     let n3 := numP b ln 1 30 (wordP b ln 2 n2.1)
     let s := semP b ln n3.1
     ((if s.2.2 = -1 then addHatX h 12 n1.2 n2.2 n3.2 else h), s)) else (h, (st.1, st.2.1, ((st.2.1 : Nat) : Int)))
def perP (b : Nat → Int) (ln : Nat) (kd : Int) (h : AH) (st : TS) : AH × TS := if kd = -3 ∨ ¬ h 12 0 < 8 then (h, (st.1, st.2.1, ((st.2.1 : Nat) : Int))) else
    (let n1 := numP b ln 0 9 st
     let n2 := numP b ln 0 9 (wordP b ln 10 n1.1)
     let n3 := numP b ln 0 9 (wordP b ln 11 n2.1)
     if nextP b ln n3.1 = true then
       (let s := semP b ln (skipP b ln n3.1)
        ((if s.2.2 = -1 then addPersonX h 12 kd n1.2 n2.2 n3.2 0 else h), s))
     else
       (let n4 := numP b ln 0 99 (wordP b ln 1 (skipP b ln n3.1))
        let s := semP b ln n4.1
        ((if s.2.2 = -1 then addPersonX h 12 kd n1.2 n2.2 n3.2 n4.2 else h), s)))
def entP2 (b : Nat → Int) (ln : Nat) (h : AH) (st : TS) : AH × TS := if nameB b (nameS b ln st).2.1 (nameS b ln st).1 0 = true then hatP b ln h (nameS b ln st) else if nameB b (nameS b ln st).2.1 (nameS b ln st).1 3 = true then roomP b ln h (nameS b ln st) else perP b ln (kdV b (nameS b ln st)) h (nameS b ln st)
def rdL (b : Nat → Int) (ln : Nat) : Nat → AH → TS → AH × TS
  | 0, h, st => (h, st)
  | k + 1, h, st => if st.2.2 = -1 then (if (skipP b ln st).1 < ln then rdL b ln k (entP2 b ln h (skipP b ln st)).1 (entP2 b ln h (skipP b ln st)).2 else (h, skipP b ln st)) else (h, st)
set_option maxHeartbeats 1600000 in
theorem s_kindNamed {ln : Nat} {st : TS} (hS : StrOK G l) (hl : h 42 1 = (ln : Int)) (hln : ln ≤ 240) (h1 : st.2.1 ≤ st.1) (ho : st.1 ≤ ln) (hd : 5 ≤ d) : CallR G l d 30 [vR 42] (TXs h st) (fun r h' => r = some (vI (kdV (h 43) st)) ∧ h' = TXs h st) := by
  refine in30 [] 40 fun hO => ?_
  simp only [c30, rlA, KF_s, KF_0, elN_n, elN_c, ↓reduceIte, Bool.false_eq_true, Int.reduceToNat, lk_c, lk_n, sw_c, sw_n, List.getD_cons_zero, List.getD_cons_succ, fv_0, fv_1, fv_2, fv_r, pf_0, pf_2, Option.toList_some, Option.toList_none, List.cons_append, List.nil_append, stK_n, stK_i, stK_r, true_and, and_true, true_or, or_true, List.length_nil, List.length_cons, Nat.zero_add, Nat.reduceAdd, Nat.reduceLeDiff, bi_0, bi_1, bi_01, em_1, em_2, cmp64_0, cmp64_lt, cmp64_gt, hu_ap, ne_a1, ne_a2, Decidable.not_not, Int.reduceAdd, Int.reduceNeg, Int.toNat_natCast, Int.toNat_zero, Int.toNat_one, List.append_nil, reduceCtorEq, Nat.reduceEqDiff, Nat.reduceBEq, Bool.or_false, Bool.false_or, Bool.true_or, Bool.or_true, some_vI, Int.le_refl, Nat.le_refl, false_or, or_false, Int.reduceLE, Int.reduceLT, Int.reduceEq, Int.zero_le_ofNat, and_self, if_true, if_false, false_and, and_false, not_true_eq_false, not_false_eq_true, false_implies, forall_const, shA, TXs_2, TXs_f]
  repeat' first | with_reducible intro _ | (refine call_of (d' := d - 1) (by omega) (s_nameIsS (j := 4) hS hl hln h1 ho (by omega) (by omega)) ?_) | (refine call_of (d' := d - 1) (by omega) (s_nameIsS (j := 5) hS hl hln h1 ho (by omega) (by omega)) ?_) | (refine call_of (d' := d - 1) (by omega) (s_nameIsS (j := 6) hS hl hln h1 ho (by omega) (by omega)) ?_) | (refine call_of (d' := d - 1) (by omega) (s_nameIsS (j := 7) hS hl hln h1 ho (by omega) (by omega)) ?_) | (refine call_of (d' := d - 1) (by omega) (s_nameIsS (j := 8) hS hl hln h1 ho (by omega) (by omega)) ?_) | (refine call_of (d' := d - 1) (by omega) (s_nameIsS (j := 9) hS hl hln h1 ho (by omega) (by omega)) ?_) | simp only [c30, rlA, KF_s, KF_0, elN_n, elN_c, ↓reduceIte, Bool.false_eq_true, Int.reduceToNat, lk_c, lk_n, sw_c, sw_n, List.getD_cons_zero, List.getD_cons_succ, fv_0, fv_1, fv_2, fv_r, pf_0, pf_2, Option.toList_some, Option.toList_none, List.cons_append, List.nil_append, stK_n, stK_i, stK_r, true_and, and_true, true_or, or_true, List.length_nil, List.length_cons, Nat.zero_add, Nat.reduceAdd, Nat.reduceLeDiff, bi_0, bi_1, bi_01, em_1, em_2, cmp64_0, cmp64_lt, cmp64_gt, hu_ap, ne_a1, ne_a2, Decidable.not_not, Int.reduceAdd, Int.reduceNeg, Int.toNat_natCast, Int.toNat_zero, Int.toNat_one, List.append_nil, reduceCtorEq, Nat.reduceEqDiff, Nat.reduceBEq, Bool.or_false, Bool.false_or, Bool.true_or, Bool.or_true, some_vI, Int.le_refl, Nat.le_refl, false_or, or_false, Int.reduceLE, Int.reduceLT, Int.reduceEq, Int.zero_le_ofNat, and_self, if_true, if_false, false_and, and_false, not_true_eq_false, not_false_eq_true, false_implies, forall_const, shA, TXs_2, TXs_f] | with_reducible apply And.intro
  all_goals first | exact True.intro | omega | (unfold kdV; (repeat first | rw [if_pos (by assumption)] | rw [if_neg (by assumption)]))
set_option maxHeartbeats 800000 in
theorem s_readRoom {ln : Nat} {st : TS} (hl : h 42 1 = (ln : Int)) (hln : ln ≤ 240) (ho : st.1 ≤ ln) (hd : 3 ≤ d) : CallR G l d 33 [vR 42, vR 12] (TXs h st) (fun r h' => r = none ∧ h' = TXs (roomP (h 43) ln h st).1 (roomP (h 43) ln h st).2) := by
  refine in33 [] 40 fun hO => ?_
  have hc : ∀ s v, hu (TXs h s) 12 12 v = TXs (hu h 12 12 v) s := fun s v => TXs_c _ _ _ _ _ (by omega)
  simp only [c33, rlA, KF_s, KF_0, elN_n, elN_c, ↓reduceIte, Bool.false_eq_true, Int.reduceToNat, lk_c, lk_n, sw_c, sw_n, List.getD_cons_zero, List.getD_cons_succ, fv_0, fv_1, fv_2, fv_r, pf_0, pf_2, Option.toList_some, Option.toList_none, List.cons_append, List.nil_append, stK_n, stK_i, stK_r, true_and, and_true, true_or, or_true, List.length_nil, List.length_cons, Nat.zero_add, Nat.reduceAdd, Nat.reduceLeDiff, bi_0, bi_1, bi_01, em_1, em_2, cmp64_0, cmp64_lt, cmp64_gt, hu_ap, ne_a1, ne_a2, Decidable.not_not, Int.reduceAdd, Int.reduceNeg, Int.toNat_natCast, Int.toNat_zero, Int.toNat_one, List.append_nil, reduceCtorEq, Nat.reduceEqDiff, Nat.reduceBEq, Bool.or_false, Bool.false_or, Bool.true_or, Bool.or_true, some_vI, Int.le_refl, Nat.le_refl, false_or, or_false, Int.reduceLE, Int.reduceLT, Int.reduceEq, Int.zero_le_ofNat, and_self, if_true, if_false, false_and, and_false, not_true_eq_false, not_false_eq_true, false_implies, forall_const, shA, TXs_2, TXs_f, hc]
  repeat' first | with_reducible intro _ | (refine call_of (d' := d - 1) (by omega) (s_numS hl hln (by repeat' first | exact ho | apply numP_le | apply wordP_le | apply skipP_le | apply semP_le | apply nameS_le) (by omega)) ?_) | (refine call_of (d' := d - 1) (by omega) (s_semS hl hln (by omega)) ?_) | simp only [c33, rlA, KF_s, KF_0, elN_n, elN_c, ↓reduceIte, Bool.false_eq_true, Int.reduceToNat, lk_c, lk_n, sw_c, sw_n, List.getD_cons_zero, List.getD_cons_succ, fv_0, fv_1, fv_2, fv_r, pf_0, pf_2, Option.toList_some, Option.toList_none, List.cons_append, List.nil_append, stK_n, stK_i, stK_r, true_and, and_true, true_or, or_true, List.length_nil, List.length_cons, Nat.zero_add, Nat.reduceAdd, Nat.reduceLeDiff, bi_0, bi_1, bi_01, em_1, em_2, cmp64_0, cmp64_lt, cmp64_gt, hu_ap, ne_a1, ne_a2, Decidable.not_not, Int.reduceAdd, Int.reduceNeg, Int.toNat_natCast, Int.toNat_zero, Int.toNat_one, List.append_nil, reduceCtorEq, Nat.reduceEqDiff, Nat.reduceBEq, Bool.or_false, Bool.false_or, Bool.true_or, Bool.or_true, some_vI, Int.le_refl, Nat.le_refl, false_or, or_false, Int.reduceLE, Int.reduceLT, Int.reduceEq, Int.zero_le_ofNat, and_self, if_true, if_false, false_and, and_false, not_true_eq_false, not_false_eq_true, false_implies, forall_const, shA, TXs_2, TXs_f, hc] | with_reducible apply And.intro
  all_goals first | exact True.intro | omega | (unfold roomP; first | rw [if_pos (by assumption)] | rw [if_neg (by assumption)])
set_option maxHeartbeats 1600000 in
theorem s_readHat {ln : Nat} {st : TS} (hS : StrOK G l) (hl : h 42 1 = (ln : Int)) (hln : ln ≤ 240) (ho : st.1 ≤ ln) (hh : 0 ≤ h 12 8 ∧ h 12 8 ≤ 4) (hd : 6 ≤ d) : CallR G l d 32 [vR 42, vR 12] (TXs h st) (fun r h' => r = none ∧ h' = TXs (hatP (h 43) ln h st).1 (hatP (h 43) ln h st).2) := by
  refine in32 [] 40 fun hO => ?_
  have t8 : ∀ s, TXs h s 12 8 = h 12 8 := fun s => TXs_o _ _ _ _ (by omega)
  unfold hatP
  by_cases c : h 12 8 < 4
  · rw [if_pos c]
    simp only [c32, rlA, KF_s, KF_0, elN_n, elN_c, ↓reduceIte, Bool.false_eq_true, Int.reduceToNat, lk_c, lk_n, sw_c, sw_n, List.getD_cons_zero, List.getD_cons_succ, fv_0, fv_1, fv_2, fv_r, pf_0, pf_2, Option.toList_some, Option.toList_none, List.cons_append, List.nil_append, stK_n, stK_i, stK_r, true_and, and_true, true_or, or_true, List.length_nil, List.length_cons, Nat.zero_add, Nat.reduceAdd, Nat.reduceLeDiff, bi_0, bi_1, bi_01, em_1, em_2, cmp64_0, cmp64_lt, cmp64_gt, hu_ap, ne_a1, ne_a2, Decidable.not_not, Int.reduceAdd, Int.reduceNeg, Int.toNat_natCast, Int.toNat_zero, Int.toNat_one, List.append_nil, reduceCtorEq, Nat.reduceEqDiff, Nat.reduceBEq, Bool.or_false, Bool.false_or, Bool.true_or, Bool.or_true, some_vI, Int.le_refl, Nat.le_refl, false_or, or_false, Int.reduceLE, Int.reduceLT, Int.reduceEq, Int.zero_le_ofNat, and_self, if_true, if_false, false_and, and_false, not_true_eq_false, not_false_eq_true, false_implies, forall_const, shA, TXs_2, TXs_f, t8, c]
    repeat' first | with_reducible intro _ | (refine call_of (d' := d - 1) (by omega) (s_numS hl hln (by repeat' first | exact ho | apply numP_le | apply wordP_le | apply skipP_le | apply semP_le | apply nameS_le) (by omega)) ?_) | (refine call_of (d' := d - 1) (by omega) (s_wordS (j := 1) hS hl hln (by repeat' first | exact ho | apply numP_le | apply wordP_le | apply skipP_le | apply semP_le | apply nameS_le) (by omega) (by omega)) ?_) | (refine call_of (d' := d - 1) (by omega) (s_wordS (j := 2) hS hl hln (by repeat' first | exact ho | apply numP_le | apply wordP_le | apply skipP_le | apply semP_le | apply nameS_le) (by omega) (by omega)) ?_) | (refine call_of (d' := d - 1) (by omega) (s_semS hl hln (by omega)) ?_) | (refine call_of (d' := d - 1) (by omega) (s_addHat isT12 (by rw [t8]; exact hh)) ?_) | simp only [c32, rlA, KF_s, KF_0, elN_n, elN_c, ↓reduceIte, Bool.false_eq_true, Int.reduceToNat, lk_c, lk_n, sw_c, sw_n, List.getD_cons_zero, List.getD_cons_succ, fv_0, fv_1, fv_2, fv_r, pf_0, pf_2, Option.toList_some, Option.toList_none, List.cons_append, List.nil_append, stK_n, stK_i, stK_r, true_and, and_true, true_or, or_true, List.length_nil, List.length_cons, Nat.zero_add, Nat.reduceAdd, Nat.reduceLeDiff, bi_0, bi_1, bi_01, em_1, em_2, cmp64_0, cmp64_lt, cmp64_gt, hu_ap, ne_a1, ne_a2, Decidable.not_not, Int.reduceAdd, Int.reduceNeg, Int.toNat_natCast, Int.toNat_zero, Int.toNat_one, List.append_nil, reduceCtorEq, Nat.reduceEqDiff, Nat.reduceBEq, Bool.or_false, Bool.false_or, Bool.true_or, Bool.or_true, some_vI, Int.le_refl, Nat.le_refl, false_or, or_false, Int.reduceLE, Int.reduceLT, Int.reduceEq, Int.zero_le_ofNat, and_self, if_true, if_false, false_and, and_false, not_true_eq_false, not_false_eq_true, false_implies, forall_const, shA, TXs_2, TXs_f, t8, c] | with_reducible apply And.intro
    all_goals first | exact True.intro | omega | (rw [if_pos (by assumption)]; exact TXs_hat _ _ _ _ _) | (rw [if_neg (by assumption)])
  · rw [if_neg c]
    simp only [c32, rlA, KF_s, KF_0, elN_n, elN_c, ↓reduceIte, Bool.false_eq_true, Int.reduceToNat, lk_c, lk_n, sw_c, sw_n, List.getD_cons_zero, List.getD_cons_succ, fv_0, fv_1, fv_2, fv_r, pf_0, pf_2, Option.toList_some, Option.toList_none, List.cons_append, List.nil_append, stK_n, stK_i, stK_r, true_and, and_true, true_or, or_true, List.length_nil, List.length_cons, Nat.zero_add, Nat.reduceAdd, Nat.reduceLeDiff, bi_0, bi_1, bi_01, em_1, em_2, cmp64_0, cmp64_lt, cmp64_gt, hu_ap, ne_a1, ne_a2, Decidable.not_not, Int.reduceAdd, Int.reduceNeg, Int.toNat_natCast, Int.toNat_zero, Int.toNat_one, List.append_nil, reduceCtorEq, Nat.reduceEqDiff, Nat.reduceBEq, Bool.or_false, Bool.false_or, Bool.true_or, Bool.or_true, some_vI, Int.le_refl, Nat.le_refl, false_or, or_false, Int.reduceLE, Int.reduceLT, Int.reduceEq, Int.zero_le_ofNat, and_self, if_true, if_false, false_and, and_false, not_true_eq_false, not_false_eq_true, false_implies, forall_const, shA, TXs_2, TXs_f, t8, c]
    repeat' first | with_reducible intro _ | simp only [c32, rlA, KF_s, KF_0, elN_n, elN_c, ↓reduceIte, Bool.false_eq_true, Int.reduceToNat, lk_c, lk_n, sw_c, sw_n, List.getD_cons_zero, List.getD_cons_succ, fv_0, fv_1, fv_2, fv_r, pf_0, pf_2, Option.toList_some, Option.toList_none, List.cons_append, List.nil_append, stK_n, stK_i, stK_r, true_and, and_true, true_or, or_true, List.length_nil, List.length_cons, Nat.zero_add, Nat.reduceAdd, Nat.reduceLeDiff, bi_0, bi_1, bi_01, em_1, em_2, cmp64_0, cmp64_lt, cmp64_gt, hu_ap, ne_a1, ne_a2, Decidable.not_not, Int.reduceAdd, Int.reduceNeg, Int.toNat_natCast, Int.toNat_zero, Int.toNat_one, List.append_nil, reduceCtorEq, Nat.reduceEqDiff, Nat.reduceBEq, Bool.or_false, Bool.false_or, Bool.true_or, Bool.or_true, some_vI, Int.le_refl, Nat.le_refl, false_or, or_false, Int.reduceLE, Int.reduceLT, Int.reduceEq, Int.zero_le_ofNat, and_self, if_true, if_false, false_and, and_false, not_true_eq_false, not_false_eq_true, false_implies, forall_const, shA, TXs_2, TXs_f, t8, c] | with_reducible apply And.intro
    all_goals first | exact True.intro | omega
end L2AM
