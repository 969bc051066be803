section L3CALJ
variable {G : GD} {l : Launch} {d k : Nat} {h h' : AH}
theorem fdX_v (e : Int) (ln : Nat) : ∀ (n : Nat) (x : AH) (a c : Nat), (a ≠ 42 ∨ c ≠ 1) → fdX e ln n x a c = if a = 43 ∧ ln ≤ c ∧ c < ln + n then cbF e (c - ln) else x a c
  | 0, x, a, c, _ => by rw [if_neg (by omega)]; rfl
  | n + 1, x, a, c, z => by
    have e0 : fdX e ln (n + 1) x = hu (hu (fdX e ln n x) 43 (ln + n) (cbF e n)) 42 1 ((ln + n + 1 : Nat) : Int) := rfl
    rw [e0, hu_o z]
    by_cases hc : a = 43 ∧ c = ln + n
    · rw [if_pos (by omega), hc.1, hc.2, show ln + n - ln = n by omega]
      simp [hu]
    · rw [hu_o (by omega), fdX_v e ln n x a c z]
      by_cases h2 : a = 43 ∧ ln ≤ c ∧ c < ln + n
      · rw [if_pos h2, if_pos (by omega)]
      · rw [if_neg h2, if_neg (by omega)]
theorem fdM_v (e : Int) (ln : Nat) : ∀ (n : Nat) (x : AH) (a c : Nat), (a ≠ 82 ∨ c ≠ 12) → fdM e ln n x a c = if a = 89 ∧ ln ≤ c ∧ c < ln + n then mbF e (c - ln) else x a c
  | 0, x, a, c, _ => by rw [if_neg (by omega)]; rfl
  | n + 1, x, a, c, z => by
    have e0 : fdM e ln (n + 1) x = hu (hu (fdM e ln n x) 89 (ln + n) (mbF e n)) 82 12 ((ln + n + 1 : Nat) : Int) := rfl
    rw [e0, hu_o z]
    by_cases hc : a = 89 ∧ c = ln + n
    · rw [if_pos (by omega), hc.1, hc.2, show ln + n - ln = n by omega]
      simp [hu]
    · rw [hu_o (by omega), fdM_v e ln n x a c z]
      by_cases h2 : a = 89 ∧ ln ≤ c ∧ c < ln + n
      · rw [if_pos h2, if_pos (by omega)]
      · rw [if_neg h2, if_neg (by omega)]
theorem fdX_e (e : Int) (ln n : Nat) (x : AH) (hn : 1 ≤ n) : fdX e ln n x 42 1 = ((ln + n : Nat) : Int) := by
  obtain ⟨m, rfl⟩ : ∃ m, n = m + 1 := ⟨n - 1, by omega⟩
  have e0 : fdX e ln (m + 1) x = hu (hu (fdX e ln m x) 43 (ln + m) (cbF e m)) 42 1 ((ln + m + 1 : Nat) : Int) := rfl
  rw [e0]
  simp only [hu_ap, true_and, if_true]
  rfl
theorem fdM_e (e : Int) (ln n : Nat) (x : AH) (hn : 1 ≤ n) : fdM e ln n x 82 12 = ((ln + n : Nat) : Int) := by
  obtain ⟨m, rfl⟩ : ∃ m, n = m + 1 := ⟨n - 1, by omega⟩
  have e0 : fdM e ln (m + 1) x = hu (hu (fdM e ln m x) 89 (ln + m) (mbF e m)) 82 12 ((ln + m + 1 : Nat) : Int) := rfl
  rw [e0]
  simp only [hu_ap, true_and, if_true]
  rfl
/-- a call that changes the tape, the trial, the fresh rows only -/
theorem INV_X (i : INV k h) (e : ∀ a c, ¬ (12 ≤ a ∧ a ≤ 22) → a ≠ 42 → a ≠ 43 → a ≠ 89 → ¬ (90 ≤ a ∧ a ≤ 97) → (a ≠ 82 ∨ c < 12 ∨ 21 < c) → h' a c = h a c) (q : TP h') : INV (k + 1) h' := by
  obtain ⟨i1, i2, i3, i4, i5, i6, i7, i8, i9, i10, i11⟩ := INV_k i
  exact ⟨B6_BB (B6_cg (BB_B6 i1) (fun c _ => e _ _ (by omega) (by omega) (by omega) (by omega) (by omega) (by omega)) (fun _ _ _ _ _ _ => e _ _ (by omega) (by omega) (by omega) (by omega) (by omega) (by omega)) (fun _ _ _ _ _ _ => e _ _ (by omega) (by omega) (by omega) (by omega) (by omega) (by omega)) (fun c _ => e _ _ (by omega) (by omega) (by omega) (by omega) (by omega) (by omega)) (fun c _ => ⟨e _ _ (by omega) (by omega) (by omega) (by omega) (by omega) (by omega), e _ _ (by omega) (by omega) (by omega) (by omega) (by omega) (by omega)⟩) (fun c _ => e _ _ (by omega) (by omega) (by omega) (by omega) (by omega) (by omega)) (fun c _ _ => ⟨e _ _ (by omega) (by omega) (by omega) (by omega) (by omega) (by omega), e _ _ (by omega) (by omega) (by omega) (by omega) (by omega) (by omega), e _ _ (by omega) (by omega) (by omega) (by omega) (by omega) (by omega)⟩)) (fun j => by rw [e _ _ (by omega) (by omega) (by omega) (by omega) (by omega) (by omega)]; exact i1.2.2.2.2.2.2.2.2.2.2.1 j) ⟨_, fun j => by rw [e _ _ (by omega) (by omega) (by omega) (by omega) (by omega) (by omega)]; exact i5 j⟩, CL_cg (fun x c z => e x c (by omega) (by omega) (by omega) (by omega) (by omega) (by omega)) i2, by rw [e _ _ (by omega) (by omega) (by omega) (by omega) (by omega) (by omega)]; exact i3, by rw [e _ _ (by omega) (by omega) (by omega) (by omega) (by omega) (by omega), e _ _ (by omega) (by omega) (by omega) (by omega) (by omega) (by omega)]; exact i4, fun j => by rw [e _ _ (by omega) (by omega) (by omega) (by omega) (by omega) (by omega)]; exact i5 j, KP_cg (fun x c z => e x c (by omega) (by omega) (by omega) (by omega) (by omega) (by omega)) i6, q, RW_cg (fun x c z => e x c (by omega) (by omega) (by omega) (by omega) (by omega) (by omega)) i8, SHE_cg (fun x c z => e x c (by omega) (by omega) (by omega) (by omega) (by omega) (by omega)) i9, SFE_cg (fun x c z => e x c (by omega) (by omega) (by omega) (by omega) (by omega) (by omega)) i10, ACE_cg (fun x c z => e x c (by omega) (by omega) (by omega) (by omega) (by omega) (by omega)) i11⟩
theorem c_feed {e n : Int} (i : INV k h) (hd : 9 ≤ d) : Ok G l d k 54 121 [vL e, vI n] h := by
  obtain ⟨t1, t2, t3, t4, t5⟩ := i.2.2.2.2.2.2.1
  by_cases hn : (1 ≤ n ∧ n ≤ 8) ∧ h 42 1 + n ≤ 240
  · obtain ⟨nn, rfl⟩ : ∃ nn : Nat, n = (nn : Int) := ⟨n.toNat, by omega⟩
    obtain ⟨ln, hl⟩ : ∃ ln : Nat, h 82 12 = (ln : Int) := ⟨(h 82 12).toNat, by omega⟩
    have xo : ∀ a c, (a ≠ 42 ∨ c ≠ 1) → a ≠ 43 → fdX e ln nn h a c = h a c := fun a c z1 z2 => by rw [fdX_v e ln nn h a c z1, if_neg (fun z => z2 z.1)]
    refine ok_ex (s_feedY (by rw [t1]; exact hl) (by omega) (by omega) (by omega)) (m_feedY (h := fdX e ln nn h) (by rw [xo _ _ (by omega) (by omega)]; exact hl) (by omega) (by omega) (by omega)) rfl ?_
    have mo : ∀ a c, (a ≠ 82 ∨ c ≠ 12) → a ≠ 89 → fdM e ln nn (fdX e ln nn h) a c = fdX e ln nn h a c := fun a c z1 z2 => by rw [fdM_v e ln nn _ a c z1, if_neg (fun z => z2 z.1)]
    refine INV_X i (fun a c z1 z2 z3 z4 z5 z6 => by rw [mo a c (by omega) z4, xo a c (by omega) z3]) ⟨?_, ?_, fun c => ⟨?_, ?_⟩, ?_, ?_⟩
    · rw [mo _ _ (by omega) (by omega), fdX_e _ _ _ _ (by omega), fdM_e _ _ _ _ (by omega)]
    · rw [fdM_e _ _ _ _ (by omega)]; omega
    · rw [mo _ _ (by omega) (by omega), fdX_v e ln nn h 43 c (by omega), fdM_v e ln nn _ 89 c (by omega), xo 89 c (by omega) (by omega)]
      by_cases hc : ln ≤ c ∧ c < ln + nn
      · rw [if_pos ⟨rfl, hc⟩, if_pos ⟨rfl, hc⟩]; exact cb_eq (by omega)
      · rw [if_neg (fun z => hc z.2), if_neg (fun z => hc z.2)]; exact (t3 c).1
    · rw [fdM_v e ln nn _ 89 c (by omega), xo 89 c (by omega) (by omega)]
      by_cases hc : ln ≤ c ∧ c < ln + nn
      · rw [if_pos ⟨rfl, hc⟩]; exact mb_le _ _
      · rw [if_neg (fun z => hc z.2)]; exact (t3 c).2
    · rw [mo _ _ (by omega) (by omega), xo _ _ (by omega) (by omega)]; exact t4
    · rw [mo _ _ (by omega) (by omega), xo _ _ (by omega) (by omega)]; exact t5
  · exact ok_ex (s_feedN (by omega) hn (by omega)) (m_feedN t2 (by omega) (by omega)) rfl (INV_k i)
end L3CALJ
