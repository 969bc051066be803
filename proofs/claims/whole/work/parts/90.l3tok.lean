section L3TOK
theorem nv_vl {T : Nat → Int} {s : Nat} : ∀ k, k ≤ 2 → nvF T s k = vlF T s k
  | 0, _ => rfl
  | k + 1, hk => by rw [nvF, vlF_s, if_pos (by omega), nv_vl k (by omega), Int.mul_comm]
theorem vl_3 {T : Nat → Int} {s k : Nat} (hk : 3 ≤ k) : vlF T s k = -1 := by
  obtain ⟨m, rfl⟩ : ∃ m, k = m + 1 := ⟨k - 1, by omega⟩
  rw [vlF_s, if_neg (by omega)]
theorem dg_lt {v : Int} (h : isDg v = true) : ¬ isLt v = true := by
  unfold isDg at h; unfold isLt
  rw [decide_eq_true_eq] at h ⊢
  omega
theorem num_tok {T : Nat → Int} {tm s : Nat} {v le mo : Int} (hle : 0 ≤ le) : ((gSo (v, tokS T tm s) = 2 ∧ (le ≤ gVa (v, tokS T tm s) ∧ gVa (v, tokS T tm s) ≤ mo)) ↔ (1 ≤ scan isDg T tm s - s ∧ scan isDg T tm s - s ≤ 2 ∧ (le ≤ nvF T s (scan isDg T tm s - s) ∧ nvF T s (scan isDg T tm s - s) ≤ mo))) ∧ ((gSo (v, tokS T tm s) = 2 ∧ (le ≤ gVa (v, tokS T tm s) ∧ gVa (v, tokS T tm s) ≤ mo)) → gEn (v, tokS T tm s) = scan isDg T tm s ∧ gVa (v, tokS T tm s) = nvF T s (scan isDg T tm s - s)) := by
  by_cases q : s < tm
  · by_cases q3 : isDg (T s) = true
    · have gt := scan_gt (P := isDg) (b := T) q q3
      rw [tok_dig q (dg_lt q3) q3]
      have g1 : gSo (v, ((2, s, scan isDg T tm s, 0, vlF T s (scan isDg T tm s - s)) : MS)) = 2 := rfl
      have g2 : gVa (v, ((2, s, scan isDg T tm s, 0, vlF T s (scan isDg T tm s - s)) : MS)) = vlF T s (scan isDg T tm s - s) := rfl
      have g3 : gEn (v, ((2, s, scan isDg T tm s, 0, vlF T s (scan isDg T tm s - s)) : MS)) = scan isDg T tm s := rfl
      rw [g1, g2, g3]
      by_cases h3 : scan isDg T tm s - s ≤ 2
      · rw [nv_vl _ h3]
        exact ⟨⟨fun z => ⟨by omega, h3, z.2⟩, fun z => ⟨rfl, z.2.2⟩⟩, fun _ => ⟨rfl, rfl⟩⟩
      · rw [vl_3 (by omega)]
        exact ⟨⟨fun z => by omega, fun z => by omega⟩, fun z => by omega⟩
    · have sn : scan isDg T tm s = s := scan_n (by rw [not_and]; intro _; exact q3)
      rw [sn]
      have no : ¬ gSo (v, tokS T tm s) = 2 := by
        by_cases q2 : isLt (T s) = true
        · rw [tok_let q q2]; exact fun z => by have z' : (1 : Int) = 2 := z; omega
        · rw [tok_oth q q2 q3]; exact fun z => by have z' : (3 : Int) = 2 := z; omega
      exact ⟨⟨fun z => absurd z.1 no, fun z => by omega⟩, fun z => absurd z.1 no⟩
  · have sn : scan isDg T tm s = s := scan_n (by omega)
    rw [sn]
    have no : ¬ gSo (v, tokS T tm s) = 2 := by rw [tok_end q]; exact fun z => by have z' : (0 : Int) = 2 := z; omega
    exact ⟨⟨fun z => absurd z.1 no, fun z => by omega⟩, fun z => absurd z.1 no⟩
theorem sem_tok {T : Nat → Int} {tm s : Nat} {v : Int} : ((gSo (v, tokS T tm s) = 3 ∧ gVa (v, tokS T tm s) = 59) ↔ (s < tm ∧ T s = 59)) ∧ (gSo (v, tokS T tm s) = 3 → gEn (v, tokS T tm s) = s + 1) := by
  by_cases q : s < tm
  · by_cases q2 : isLt (T s) = true
    · have no : ¬ gSo (v, tokS T tm s) = 3 := by rw [tok_let q q2]; exact fun z => by have z' : (1 : Int) = 3 := z; omega
      refine ⟨⟨fun z => absurd z.1 no, fun z => ?_⟩, fun z => absurd z no⟩
      rw [z.2] at q2; exact absurd q2 (by decide)
    · by_cases q3 : isDg (T s) = true
      · have no : ¬ gSo (v, tokS T tm s) = 3 := by rw [tok_dig q q2 q3]; exact fun z => by have z' : (2 : Int) = 3 := z; omega
        refine ⟨⟨fun z => absurd z.1 no, fun z => ?_⟩, fun z => absurd z no⟩
        rw [z.2] at q3; exact absurd q3 (by decide)
      · rw [tok_oth q q2 q3]
        exact ⟨⟨fun z => ⟨q, z.2⟩, fun z => ⟨rfl, z.2⟩⟩, fun _ => rfl⟩
  · have no : ¬ gSo (v, tokS T tm s) = 3 := by rw [tok_end q]; exact fun z => by have z' : (0 : Int) = 3 := z; omega
    exact ⟨⟨fun z => absurd z.1 no, fun z => absurd z.1 q⟩, fun z => absurd z no⟩
theorem let_tok {T : Nat → Int} {tm s : Nat} {v : Int} (h : gSo (v, tokS T tm s) = 1) : s < tm ∧ gEn (v, tokS T tm s) = scan isLt T tm s := by
  by_cases q : s < tm
  · by_cases q2 : isLt (T s) = true
    · rw [tok_let q q2]; exact ⟨q, rfl⟩
    · by_cases q3 : isDg (T s) = true
      · rw [tok_dig q q2 q3] at h
        have z' : (2 : Int) = 1 := h; omega
      · rw [tok_oth q q2 q3] at h
        have z' : (3 : Int) = 1 := h; omega
  · rw [tok_end q] at h
    have z' : (0 : Int) = 1 := h; omega
theorem end_tok {T : Nat → Int} {tm s : Nat} {v : Int} : gSo (v, tokS T tm s) = 0 ↔ ¬ s < tm := by
  by_cases q : s < tm
  · by_cases q2 : isLt (T s) = true
    · rw [tok_let q q2]; exact ⟨fun z => by have z' : (1 : Int) = 0 := z; omega, fun z => absurd q z⟩
    · by_cases q3 : isDg (T s) = true
      · rw [tok_dig q q2 q3]; exact ⟨fun z => by have z' : (2 : Int) = 0 := z; omega, fun z => absurd q z⟩
      · rw [tok_oth q q2 q3]; exact ⟨fun z => by have z' : (3 : Int) = 0 := z; omega, fun z => absurd q z⟩
  · rw [tok_end q]; exact ⟨fun _ => q, fun _ => rfl⟩
theorem scan_idem {P : Int → Bool} {b : Nat → Int} {ln : Nat} : ∀ k p, k = ln - p → scan P b ln (scan P b ln p) = scan P b ln p
  | 0, p, hk => by rw [scan_n (p := p) (by omega), scan_n (p := p) (by omega)]
  | k + 1, p, hk => by
    by_cases q : P (b p) = true
    · rw [scan_y (p := p) (by omega) q]; exact scan_idem k (p + 1) (by omega)
    · rw [scan_n (p := p) (by rw [not_and]; intro _; exact q), scan_n (p := p) (by rw [not_and]; intro _; exact q)]
/-- class and model stand at the same place, or found the same fault -/
def JJ (T : Nat → Int) (tm : Nat) (st : TS) (x : GS) : Prop := st.1 ≤ tm ∧ ((st.2.2 = -1 ∧ x.1 = 1 ∧ x.2 = advS T tm st.1) ∨ (x.1 = 0 ∧ st.2.2 = (gBe x : Int)))
section
variable {T : Nat → Int} {tm : Nat} {st : TS} {x : GS}
theorem JJ_num {le mo : Int} (hle : 0 ≤ le) (j : JJ T tm st x) : JJ T tm (numP T tm le mo st).1 (nuM T tm le mo x) ∧ ((nuM T tm le mo x).1 = 1 → (numP T tm le mo st).2 = gVa x ∧ le ≤ gVa x ∧ gVa x ≤ mo) := by
  obtain ⟨x1, x2⟩ := x
  obtain ⟨ho, ⟨f, g, e⟩ | ⟨g, f⟩⟩ := j
  · have g' : x1 = 1 := g
    have e' : x2 = tokS T tm (scan isB T tm st.1) := e
    subst g'; subst e'
    have nt := num_tok (T := T) (tm := tm) (s := scan isB T tm st.1) (v := 1) (le := le) (mo := mo) hle
    have lq := numP_le (b := T) (le := le) (mo := mo) ho
    unfold numP at *
    rw [if_pos f] at lq ⊢
    by_cases c : gSo (1, tokS T tm (scan isB T tm st.1)) = 2 ∧ (le ≤ gVa (1, tokS T tm (scan isB T tm st.1)) ∧ gVa (1, tokS T tm (scan isB T tm st.1)) ≤ mo)
    · have c2 := nt.1.1 c
      have c3 := nt.2 c
      have en : nuM T tm le mo ((1, tokS T tm (scan isB T tm st.1)) : GS) = (1, advS T tm (gEn ((1, tokS T tm (scan isB T tm st.1)) : GS))) := by
        unfold nuM; exact if_pos ⟨rfl, c⟩
      rw [en]
      refine ⟨⟨lq, Or.inl ⟨?_, rfl, ?_⟩⟩, fun _ => ⟨c3.2.symm, c.2⟩⟩
      · show (if _ then _ else _) = _
        rw [if_pos c2]
      · show advS T tm _ = advS T tm _
        rw [c3.1]
    · have c2 : ¬ _ := fun z => c (nt.1.2 z)
      have en : nuM T tm le mo ((1, tokS T tm (scan isB T tm st.1)) : GS) = (0, tokS T tm (scan isB T tm st.1)) := by
        unfold nuM; exact if_neg (fun z => c z.2)
      rw [en]
      refine ⟨⟨lq, Or.inr ⟨rfl, ?_⟩⟩, fun z => ?_⟩
      · show (if _ then _ else _) = _
        rw [if_neg c2, tok_be]
      · have z' : (0 : Int) = 1 := z; omega
  · have g' : x1 = 0 := g
    subst g'
    have hf : ¬ st.2.2 = -1 := by rw [f]; omega
    unfold numP nuM
    rw [if_neg hf, if_neg (fun z => by have z' : (0 : Int) = 1 := z.1; omega)]
    exact ⟨⟨ho, Or.inr ⟨rfl, f⟩⟩, fun z => by have z' : (0 : Int) = 1 := z; omega⟩
theorem JJ_word {jj : Nat} (hj : jj < 12) (j : JJ T tm st x) : JJ T tm (wordP T tm jj st) (woM T tm (cdW jj (strN.getD jj 0)) x) := by
  obtain ⟨x1, x2⟩ := x
  obtain ⟨ho, ⟨f, g, e⟩ | ⟨g, f⟩⟩ := j
  · have g' : x1 = 1 := g
    have e' : x2 = tokS T tm (scan isB T tm st.1) := e
    subst g'; subst e'
    have nt := name_tok (T := T) (tm := tm) (s := scan isB T tm st.1) (v := 1) hj (scan_le ho)
    have lq := wordP_le (b := T) (j := jj) ho
    unfold wordP at *
    rw [if_pos f] at lq ⊢
    by_cases c : gSo (1, tokS T tm (scan isB T tm st.1)) = 1 ∧ gWo (1, tokS T tm (scan isB T tm st.1)) = cdW jj (strN.getD jj 0)
    · have c2 := nt.2 c
      have c3 := let_tok c.1
      have en : woM T tm (cdW jj (strN.getD jj 0)) ((1, tokS T tm (scan isB T tm st.1)) : GS) = (1, advS T tm (gEn ((1, tokS T tm (scan isB T tm st.1)) : GS))) := by
        unfold woM; exact if_pos ⟨rfl, c⟩
      rw [en]
      refine ⟨lq, Or.inl ⟨?_, rfl, ?_⟩⟩
      · show (if _ then _ else _) = _
        rw [if_pos c2]
      · show advS T tm _ = advS T tm _
        rw [c3.2]
    · have c2 : ¬ _ := fun z => c (nt.1 z)
      have en : woM T tm (cdW jj (strN.getD jj 0)) ((1, tokS T tm (scan isB T tm st.1)) : GS) = (0, tokS T tm (scan isB T tm st.1)) := by
        unfold woM; exact if_neg (fun z => c z.2)
      rw [en]
      refine ⟨lq, Or.inr ⟨rfl, ?_⟩⟩
      show (if _ then _ else _) = _
      rw [if_neg c2, tok_be]
  · have g' : x1 = 0 := g
    subst g'
    have hf : ¬ st.2.2 = -1 := by rw [f]; omega
    unfold wordP woM
    rw [if_neg hf, if_neg (fun z => by have z' : (0 : Int) = 1 := z.1; omega)]
    exact ⟨ho, Or.inr ⟨rfl, f⟩⟩
theorem JJ_next (j : JJ T tm st x) (h1 : x.1 = 1) : nextP T tm st = true ↔ gSo x = 3 ∧ gVa x = 59 := by
  obtain ⟨x1, x2⟩ := x
  obtain ⟨ho, ⟨f, g, e⟩ | ⟨g, f⟩⟩ := j
  · have g' : x1 = 1 := g
    have e' : x2 = tokS T tm (scan isB T tm st.1) := e
    subst g'; subst e'
    unfold nextP
    rw [decide_eq_true_eq]
    exact (sem_tok (T := T) (tm := tm) (s := scan isB T tm st.1) (v := 1)).1.symm
  · have g' : x1 = 0 := g
    have h' : x1 = 1 := h1
    omega
theorem JJ_sem (j : JJ T tm st x) : JJ T tm (semP T tm st) (enM T tm x) := by
  have nx := JJ_next j
  have lq := semP_le (b := T) j.1
  obtain ⟨x1, x2⟩ := x
  obtain ⟨ho, ⟨f, g, e⟩ | ⟨g, f⟩⟩ := j
  · have g' : x1 = 1 := g
    have e' : x2 = tokS T tm (scan isB T tm st.1) := e
    subst g'; subst e'
    have nt := sem_tok (T := T) (tm := tm) (s := scan isB T tm st.1) (v := 1)
    have nx := nx rfl
    unfold semP enM at *
    rw [if_pos f] at lq ⊢
    by_cases c : gSo (1, tokS T tm (scan isB T tm st.1)) = 3 ∧ gVa (1, tokS T tm (scan isB T tm st.1)) = 59
    · have c2 := nx.2 c
      rw [if_pos c2] at lq ⊢
      rw [if_pos ⟨rfl, c⟩]
      refine ⟨lq, Or.inl ⟨rfl, rfl, ?_⟩⟩
      show advS T tm _ = advS T tm _
      rw [nt.2 c.1]
    · have c2 : ¬ nextP T tm st = true := fun z => c (nx.1 z)
      rw [if_neg c2] at lq ⊢
      rw [if_neg (fun z => c z.2)]
      refine ⟨lq, Or.inr ⟨rfl, ?_⟩⟩
      show ((scan isB T tm st.1 : Nat) : Int) = _
      rw [tok_be]
  · have g' : x1 = 0 := g
    subst g'
    have hf : ¬ st.2.2 = -1 := by rw [f]; omega
    unfold semP enM
    rw [if_neg hf, if_neg (fun z => by have z' : (0 : Int) = 1 := z.1; omega)]
    exact ⟨ho, Or.inr ⟨rfl, f⟩⟩
theorem JJ_skip (j : JJ T tm st x) : JJ T tm (skipP T tm st) x := by
  obtain ⟨ho, j⟩ := j
  refine ⟨scan_le ho, ?_⟩
  rcases j with ⟨f, g, e⟩ | ⟨g, f⟩
  · refine Or.inl ⟨f, g, ?_⟩
    rw [e]
    show advS T tm st.1 = advS T tm (scan isB T tm st.1)
    unfold advS
    rw [scan_idem _ _ rfl]
  · exact Or.inr ⟨g, f⟩
end
end L3TOK
