section L3M
variable {A B g h : AH} {L L2 : List Nat} {p q : Nat} {sg : Int}
theorem goesM_v (hp : p < 8) : goesM g 41 p 88 (41 + 1 + p) = wF g p ∧ goesM g 41 p 88 (41 + 25 + p) = wH g p ∧ goesM g 41 p 88 (41 + 33 + p) = if wF g p = g 88 (41 + 9 + p) then g 88 41 else g 88 (41 + 33 + p) := by
  unfold goesM wF wH
  have o : ∀ c, c ≠ 41 + 25 + p ∧ c ≠ 41 + 1 + p → (gsL 41 p 3 (mayF (g 86 p) (g 87 p) (g 88 41)) g).2 88 c = g 88 c := fun c z => gsL_o _ _ _ _ (by omega) _ _ _
  generalize bi (¬ g 88 (41 + 1 + p) = g 88 (41 + 9 + p) ∧ (gsL 41 p 3 (mayF (g 86 p) (g 87 p) (g 88 41)) g).1 = false) = wt
  have o9 := o (41 + 9 + p) (by omega)
  have o0 := o 41 (by omega)
  have o3 := o (41 + 33 + p) (by omega)
  generalize (gsL 41 p 3 (mayF (g 86 p) (g 87 p) (g 88 41)) g).2 = X at o9 o0 o3 ⊢
  refine ⟨by rw [gsE_o _ _ _ _ _ (by omega), gsW_o _ _ _ _ _ (by omega)], by rw [gsE_o _ _ _ _ _ (by omega), gsW_o _ _ _ _ _ (by omega)], ?_⟩
  unfold gsE
  rw [gsW_o _ _ _ 88 (41 + 1 + p) (by omega), gsW_o _ _ _ 88 (41 + 9 + p) (by omega), gsW_o _ _ _ 88 41 (by omega), o9, o0]
  split
  · simp [hu]
  · rw [gsW_o _ _ _ _ _ (by omega)]; exact o3
theorem GI_fold : ∀ (K : List Nat) (g : AH), GI g 41 → (∀ q ∈ K, (q : Int) < g 82 5) → GI (K.foldl (fun x q => goP 41 q x) g) 41
  | [], _, hg, _ => hg
  | q :: K, g, hg, hK => by
    obtain ⟨⟨ww, mi⟩, -⟩ := id hg
    have h8 := mi.2.1
    have hq := hK q (by simp)
    refine GI_fold K (goP 41 q g) (GI_goP hg hq) (fun r hr => ?_)
    rw [goP_o _ _ (by omega) (by omega)]
    exact hK r (by simp [hr])
theorem fold_p (hp : p < 8) (c : Nat) (hc : c = 41 + 1 + p ∨ c = 41 + 9 + p ∨ c = 41 + 17 + p ∨ c = 41 + 25 + p ∨ c = 41 + 33 + p ∨ c = 41) : ∀ (K : List Nat) (g : AH), (∀ q ∈ K, q < 8 ∧ q ≠ p) → K.foldl (fun x q => goP 41 q x) g 88 c = g 88 c
  | [], _, _ => rfl
  | q :: K, g, hK => by
    obtain ⟨k1, k2⟩ := hK q (by simp)
    show K.foldl (fun x q => goP 41 q x) (goP 41 q g) 88 c = _
    rw [fold_p hp c hc K _ (fun r hr => hK r (by simp [hr]))]
    unfold goP
    split
    · exact goesM_o _ _ (by omega)
    · rfl
theorem fold_d (a c : Nat) (ha : a ≠ 98 ∧ a ≠ 99 ∧ a ≠ 100) (hd : ¬ (a = 88 ∧ dty L p c)) : ∀ (K : List Nat) (g : AH), (∀ q ∈ K, q < 8 ∧ q ∉ L) → K.foldl (fun x q => goP 41 q x) g a c = g a c
  | [], _, _ => rfl
  | q :: K, g, hK => by
    obtain ⟨k1, k2⟩ := hK q (by simp)
    show K.foldl (fun x q => goP 41 q x) (goP 41 q g) a c = _
    rw [fold_d a c ha hd K _ (fun r hr => hK r (by simp [hr]))]
    unfold goP
    split
    · refine goesM_o _ _ ⟨ha.1, ha.2.1, Or.inl ha.2.2, ?_⟩
      by_cases e : a = 88
      · right
        refine ⟨fun z => hd ⟨e, Or.inr ⟨q, k1, k2, by omega⟩⟩, fun z => hd ⟨e, Or.inr ⟨q, k1, k2, by omega⟩⟩, fun z => hd ⟨e, Or.inr ⟨q, k1, k2, by omega⟩⟩⟩
      · exact Or.inl e
    · rfl
def EQN (L : List Nat) (p : Nat) (A B : AH) : Prop := ∀ a c : Nat, a ≠ 98 → a ≠ 99 → a ≠ 100 → ¬ (a = 88 ∧ dty L p c) → A a c = B a c
def PRm (sg : Int) (A B : AH) (p : Nat) : Prop := PP sg (B 88 (41 + 9 + p)) (A 88 (41 + 1 + p)) (A 88 (41 + 25 + p)) (B 88 (41 + 1 + p)) (B 88 (41 + 25 + p)) ∧ (0 ≤ B 88 (41 + 33 + p) → 0 ≤ A 88 (41 + 33 + p) ∧ A 88 (41 + 33 + p) ≤ B 88 (41 + 33 + p)) ∧ (0 ≤ A 88 (41 + 33 + p) → A 88 (41 + 1 + p) = B 88 (41 + 9 + p) ∧ A 88 (41 + 33 + p) < A 88 41)
theorem p_turn (hs : sg = 1 ∨ sg = -1) (p8 : p < 8) (iA : stI A 41 p) (iB : stI B 41 p) (mA : MH A 41 p) (mB : MH B 41 p) (e86 : A 86 p = B 86 p) (e87 : A 87 p = B 87 p) (em : A 88 41 = B 88 41) (eg : A 88 (41 + 9 + p) = B 88 (41 + 9 + p)) (est : A 88 (41 + 17 + p) ≤ B 88 (41 + 17 + p)) (hm : 0 ≤ B 88 41) (ef : ∀ f, 0 ≤ f → f ≤ 9 → ¬ f = B 88 (41 + 9 + p) → sg * f ≤ sg * B 88 (41 + 9 + p) → frS A p sg f = frS B p sg f) (pr : PRm sg A B p) : PP sg (B 88 (41 + 9 + p)) (goP 41 p A 88 (41 + 1 + p)) (goP 41 p A 88 (41 + 25 + p)) (goP 41 p B 88 (41 + 1 + p)) (goP 41 p B 88 (41 + 25 + p)) ∧ (0 ≤ goP 41 p B 88 (41 + 33 + p) → 0 ≤ goP 41 p A 88 (41 + 33 + p) ∧ goP 41 p A 88 (41 + 33 + p) ≤ goP 41 p B 88 (41 + 33 + p)) ∧ (0 ≤ goP 41 p A 88 (41 + 33 + p) → goP 41 p A 88 (41 + 1 + p) = B 88 (41 + 9 + p) ∧ goP 41 p A 88 (41 + 33 + p) ≤ A 88 41) := by
  obtain ⟨pp, r1, r2⟩ := pr
  obtain ⟨p1, p2, p3, p4, p5⟩ := id pp
  obtain ⟨vA1, vA2, vA3⟩ := goesM_v (g := A) p8
  obtain ⟨vB1, vB2, vB3⟩ := goesM_v (g := B) p8
  have fA := w_fwd hs iA mA (by rw [eg]; exact p1) (by rw [eg]; exact p4)
  have fB := w_fwd hs iB mB p2 p5
  have fm := w_mono hs iA iB mA mB e86 e87 em eg ef pp
  have hyA := wMH (g := A) mA
  have hyB := wMH (g := B) mB
  rw [eg] at fA vA3
  unfold goP
  generalize wF A p = xA at *
  generalize wH A p = yA at *
  generalize wF B p = xB at *
  generalize wH B p = yB at *
  by_cases cA : A 88 (41 + 33 + p) < 0
  · have cB : B 88 (41 + 33 + p) < 0 := by
      apply Classical.byContradiction; intro z; have := (r1 (by omega)).1; omega
    by_cases sA : A 88 (41 + 17 + p) ≤ A 88 41
    · rw [if_pos ⟨cA, sA⟩, vA1, vA2, vA3]
      by_cases sB : B 88 (41 + 17 + p) ≤ B 88 41
      · rw [if_pos ⟨cB, sB⟩, vB1, vB2, vB3]
        refine ⟨fm, ?_, ?_⟩
        · obtain ⟨m1, m2, m3, m4, m5⟩ := fm
          split
          · next w =>
            intro _
            have y0 := m5 w
            have : xA = B 88 (41 + 9 + p) := by
              rw [w] at m3
              rcases hs with rfl | rfl <;> omega
            rw [if_pos this]
            omega
          · intro z; omega
        · split
          · next w => intro _; exact ⟨w, Int.le_refl _⟩
          · intro z; omega
      · rw [if_neg (fun z => sB z.2)]
        refine ⟨⟨fA.1, p2, by have := fA.2.1; omega, fA.2.2, p5⟩, fun z => by omega, ?_⟩
        split
        · next w => intro _; exact ⟨w, Int.le_refl _⟩
        · intro z; omega
    · rw [if_neg (fun z => sA z.2), if_neg (fun z => sA (by have := z.2; omega))]
      exact ⟨pp, r1, fun z => by omega⟩
  · rw [if_neg (fun z => cA z.1)]
    have ra := r2 (by omega)
    by_cases gB : B 88 (41 + 33 + p) < 0 ∧ B 88 (41 + 17 + p) ≤ B 88 41
    · rw [if_pos gB, vB1, vB2, vB3]
      have hA0 := p4 ra.1
      refine ⟨⟨p1, fB.1, ?_, p4, fB.2.2⟩, ?_, fun z => ⟨ra.1, by omega⟩⟩
      · rw [ra.1, hA0]
        have h1 := fB.1
        have h2 := fB.2.2
        by_cases w : xB = B 88 (41 + 9 + p)
        · rw [w, h2 w]; omega
        · rcases hs with rfl | rfl <;> omega
      · split
        · intro _; exact ⟨by omega, by omega⟩
        · intro z; omega
    · rw [if_neg gB]
      exact ⟨pp, r1, fun z => ⟨ra.1, by omega⟩⟩
end L3M
