section L3LOCK
variable {T : Nat → Int} {tm : Nat}
theorem JJ_be {st : TS} {x : GS} (j : JJ T tm st x) (h1 : x.1 = 1) : TK T tm x ∧ gBe x = scan isB T tm st.1 ∧ (gSo x = 0 ↔ ¬ scan isB T tm st.1 < tm) := by
  obtain ⟨x1, x2⟩ := x
  obtain ⟨ho, ⟨f, g1, e⟩ | ⟨g1, f⟩⟩ := j
  case inr => have : x1 = 0 := g1; have : x1 = 1 := h1; omega
  have e' : x2 = tokS T tm (scan isB T tm st.1) := e
  subst e'
  exact ⟨⟨_, scan_le ho, rfl⟩, tok_be _ _, end_tok⟩
theorem lock_eq : ∀ (k m : Nat) (h : AH) (st : TS) (g : AH) (x : GS), JJ T tm st x → (x.1 = 1 → FF h g) → MW2 g T tm → gOk tm x → (x.1 = 1 ∧ ¬ gSo x = 0 → tm < gBe x + m ∧ tm ≤ gBe x + k) → JJ T tm (rdL T tm k h st).2 (clL T tm m g x).2 ∧ ((clL T tm m g x).2.1 = 1 → FF (rdL T tm k h st).1 (clL T tm m g x).1) := by
  intro k
  induction k with
  | zero =>
    intro m h st g x j hf mw ok hm
    by_cases c : x.1 = 1 ∧ ¬ gSo x = 0
    · obtain ⟨b1, b2, b3⟩ := JJ_be j c.1
      have := hm c
      have : scan isB T tm st.1 < tm := by
        by_cases q : scan isB T tm st.1 < tm
        · exact q
        · exact absurd (b3.2 q) c.2
      omega
    · have e : clL T tm m g x = (g, x) := by
        cases m with
        | zero => rfl
        | succ m => rw [clL, if_neg c]
      rw [e, rdL]
      exact ⟨j, hf⟩
  | succ k ih =>
    intro m h st g x j hf mw ok hm
    by_cases c : x.1 = 1 ∧ ¬ gSo x = 0
    · obtain ⟨b1, b2, b3⟩ := JJ_be j c.1
      have hm' := hm c
      have lt : scan isB T tm st.1 < tm := by
        by_cases q : scan isB T tm st.1 < tm
        · exact q
        · exact absurd (b3.2 q) c.2
      cases m with
      | zero => omega
      | succ m =>
        have cg := clF_go b1 ok c.2 mw
        obtain ⟨q1, q2⟩ := entL_eq j c.1 c.2 (hf c.1)
        rw [rdL, if_pos (JJ_good j c.1), if_pos (show (skipP T tm st).1 < tm from lt), clL, if_pos c]
        refine ih m _ _ _ _ q1 q2 cg.2.2.1 cg.2.2.2 (fun z => ?_)
        have := cg.2.1 z.1
        omega
    · have e : clL T tm m g x = (g, x) := by
        cases m with
        | zero => rfl
        | succ m => rw [clL, if_neg c]
      rw [e, rdL]
      by_cases hx : x.1 = 1
      · obtain ⟨b1, b2, b3⟩ := JJ_be j hx
        have nl : ¬ scan isB T tm st.1 < tm := b3.1 (Decidable.not_not.1 (fun z => c ⟨hx, z⟩))
        rw [if_pos (JJ_good j hx), if_neg (show ¬ (skipP T tm st).1 < tm from nl)]
        exact ⟨JJ_skip j, hf⟩
      · have nf : ¬ st.2.2 = -1 := by
          obtain ⟨-, ⟨-, g1, -⟩ | ⟨-, f⟩⟩ := j
          · exact absurd g1 hx
          · rw [f]; omega
        rw [if_neg nf]
        exact ⟨j, hf⟩
/-- the two readers tell the same -/
theorem read_eq {h g : AH} {t0 bg : Nat} (e : EB (h 43) (g 89)) (hl : g 82 12 = (tm : Int)) (hln : tm ≤ 240) : JJ (g 89) tm (rdR h tm t0).2 (clR g tm bg).2 ∧ ((clR g tm bg).2.1 = 1 → FF (rdR h tm t0).1 (clR g tm bg).1) := by
  unfold rdR clR
  rw [rdL_cg e]
  refine lock_eq 240 (tm + 1) _ _ _ _ ⟨Nat.zero_le _, Or.inl ⟨rfl, rfl, rfl⟩⟩ (fun _ => ?_) ?_ ⟨Or.inr rfl, (advS_le (Nat.zero_le _)).1⟩ (fun _ => by omega)
  · unfold FF clr tw0
    simp [hu]
    exact ⟨fun c hc => by omega, fun c hc => by omega⟩
  · unfold MW2 tw0
    refine ⟨by rw [hu_o (by omega), hu_o (by omega), hu_o (by omega)]; exact hl, ?_, by simp [hu], by simp [hu]⟩
    funext c
    rw [hu_o (by omega), hu_o (by omega), hu_o (by omega)]
end L3LOCK
