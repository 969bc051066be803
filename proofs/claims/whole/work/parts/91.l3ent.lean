section L3ENT
def FP (h g : AH) (c : Nat) : Prop := (h 13 c = g 90 c ∧ h 14 c = g 91 c ∧ h 15 c = g 92 c ∧ h 16 c = g 93 c ∧ h 17 c = g 94 c ∧ h 18 c = 0 ∧ h 19 c = -9) ∧ ((0 ≤ g 90 c ∧ g 90 c ≤ 5) ∧ (0 ≤ g 91 c ∧ g 91 c ≤ 9) ∧ (0 ≤ g 92 c ∧ g 92 c ≤ 9) ∧ (0 ≤ g 93 c ∧ g 93 c ≤ 9) ∧ (0 ≤ g 94 c ∧ g 94 c ≤ 99))
def FH (h g : AH) (c : Nat) : Prop := (h 20 c = g 95 c ∧ h 21 c = g 96 c ∧ h 22 c = g 97 c) ∧ ((0 ≤ g 95 c ∧ g 95 c ≤ 8) ∧ (0 ≤ g 96 c ∧ g 96 c ≤ 99) ∧ (1 ≤ g 97 c ∧ g 97 c ≤ 30))
/-- the tower that the text tells so far: class's trial against the model's fresh rows -/
def FF (h g : AH) : Prop := h 12 0 = g 82 19 ∧ (0 ≤ g 82 19 ∧ g 82 19 ≤ 8) ∧ h 12 8 = g 82 20 ∧ (0 ≤ g 82 20 ∧ g 82 20 ≤ 4) ∧ h 12 12 = g 82 21 ∧ (1 ≤ g 82 21 ∧ g 82 21 ≤ 9) ∧ h 12 13 = 0 ∧ (∀ c : Nat, (c : Int) < g 82 19 → FP h g c) ∧ (∀ c : Nat, (c : Int) < g 82 20 → FH h g c)
theorem FF_room {h g : AH} {v : Int} (hf : FF h g) (hv : 1 ≤ v ∧ v ≤ 9) : FF (hu h 12 12 v) (hu g 82 21 v) := by
  obtain ⟨f1, f2, f3, f4, f5, f6, f7, f8, f9⟩ := hf
  refine ⟨by rw [hu_o (by omega), hu_o (by omega)]; exact f1, by rw [hu_o (by omega)]; exact f2, by rw [hu_o (by omega), hu_o (by omega)]; exact f3, by rw [hu_o (by omega)]; exact f4, by simp [hu], by simp only [hu_ap, true_and, if_true]; exact hv, by rw [hu_o (by omega)]; exact f7, fun c hc => ?_, fun c hc => ?_⟩
  · rw [hu_o (by omega)] at hc
    have := f8 c hc
    unfold FP at *
    rw [hu_o (by omega), hu_o (by omega), hu_o (by omega), hu_o (by omega), hu_o (by omega), hu_o (by omega), hu_o (by omega), hu_o (by omega), hu_o (by omega), hu_o (by omega), hu_o (by omega), hu_o (by omega)]
    exact this
  · rw [hu_o (by omega)] at hc
    have := f9 c hc
    unfold FH at *
    rw [hu_o (by omega), hu_o (by omega), hu_o (by omega), hu_o (by omega), hu_o (by omega), hu_o (by omega)]
    exact this
theorem FF_hat {h g : AH} {f a n : Int} (hf : FF h g) (h4 : g 82 20 < 4) (hv : (0 ≤ f ∧ f ≤ 8) ∧ (0 ≤ a ∧ a ≤ 99) ∧ (1 ≤ n ∧ n ≤ 30)) : FF (addHatX h 12 f a n) (hatW g (g 82 20).toNat f a n) := by
  obtain ⟨f1, f2, f3, f4, f5, f6, f7, f8, f9⟩ := hf
  obtain ⟨nn, hn⟩ : ∃ nn : Nat, g 82 20 = (nn : Int) := ⟨(g 82 20).toNat, by omega⟩
  have e1 : addHatX h 12 f a n = hu (hu (hu (hu h 20 nn f) 21 nn a) 22 nn n) 12 8 ((nn + 1 : Nat) : Int) := by
    unfold addHatX
    rw [if_pos (by omega), f3, hn, Int.toNat_natCast]; rfl
  have e2 : hatW g (g 82 20).toNat f a n = hu (hu (hu (hu g 95 nn f) 96 nn a) 97 nn n) 82 20 ((nn + 1 : Nat) : Int) := by
    unfold hatW; rw [hn, Int.toNat_natCast]
  rw [e1, e2]
  have o1 : ∀ a' c', (a' ≠ 20 ∧ a' ≠ 21 ∧ a' ≠ 22 ∨ c' ≠ nn) → (a' ≠ 12 ∨ c' ≠ 8) → hu (hu (hu (hu h 20 nn f) 21 nn a) 22 nn n) 12 8 ((nn + 1 : Nat) : Int) a' c' = h a' c' := fun a' c' q1 q2 => by rw [hu_o (by omega), hu_o (by omega), hu_o (by omega), hu_o (by omega)]
  have o2 : ∀ a' c', (a' ≠ 95 ∧ a' ≠ 96 ∧ a' ≠ 97 ∨ c' ≠ nn) → (a' ≠ 82 ∨ c' ≠ 20) → hu (hu (hu (hu g 95 nn f) 96 nn a) 97 nn n) 82 20 ((nn + 1 : Nat) : Int) a' c' = g a' c' := fun a' c' q1 q2 => by rw [hu_o (by omega), hu_o (by omega), hu_o (by omega), hu_o (by omega)]
  have n2 : hu (hu (hu (hu g 95 nn f) 96 nn a) 97 nn n) 82 20 ((nn + 1 : Nat) : Int) 82 20 = ((nn + 1 : Nat) : Int) := by simp [hu]
  refine ⟨by rw [o1 _ _ (by omega) (by omega), o2 _ _ (by omega) (by omega)]; exact f1, by rw [o2 _ _ (by omega) (by omega)]; exact f2, by rw [n2]; simp [hu], by rw [n2]; omega, by rw [o1 _ _ (by omega) (by omega), o2 _ _ (by omega) (by omega)]; exact f5, by rw [o2 _ _ (by omega) (by omega)]; exact f6, by rw [o1 _ _ (by omega) (by omega)]; exact f7, fun c hc => ?_, fun c hc => ?_⟩
  · rw [o2 _ _ (by omega) (by omega)] at hc
    have := f8 c hc
    unfold FP at *
    rw [o1 _ _ (by omega) (by omega), o1 _ _ (by omega) (by omega), o1 _ _ (by omega) (by omega), o1 _ _ (by omega) (by omega), o1 _ _ (by omega) (by omega), o1 _ _ (by omega) (by omega), o1 _ _ (by omega) (by omega), o2 _ _ (by omega) (by omega), o2 _ _ (by omega) (by omega), o2 _ _ (by omega) (by omega), o2 _ _ (by omega) (by omega), o2 _ _ (by omega) (by omega)]
    exact this
  · rw [n2] at hc
    by_cases hcn : c = nn
    · subst hcn
      unfold FH
      have r1 : hu (hu (hu (hu h 20 c f) 21 c a) 22 c n) 12 8 ((c + 1 : Nat) : Int) 20 c = f := by rw [hu_o (by omega), hu_o (by omega), hu_o (by omega)]; simp [hu]
      have r2 : hu (hu (hu (hu h 20 c f) 21 c a) 22 c n) 12 8 ((c + 1 : Nat) : Int) 21 c = a := by rw [hu_o (by omega), hu_o (by omega)]; simp [hu]
      have r3 : hu (hu (hu (hu h 20 c f) 21 c a) 22 c n) 12 8 ((c + 1 : Nat) : Int) 22 c = n := by rw [hu_o (by omega)]; simp [hu]
      have s1 : hu (hu (hu (hu g 95 c f) 96 c a) 97 c n) 82 20 ((c + 1 : Nat) : Int) 95 c = f := by rw [hu_o (by omega), hu_o (by omega), hu_o (by omega)]; simp [hu]
      have s2 : hu (hu (hu (hu g 95 c f) 96 c a) 97 c n) 82 20 ((c + 1 : Nat) : Int) 96 c = a := by rw [hu_o (by omega), hu_o (by omega)]; simp [hu]
      have s3 : hu (hu (hu (hu g 95 c f) 96 c a) 97 c n) 82 20 ((c + 1 : Nat) : Int) 97 c = n := by rw [hu_o (by omega)]; simp [hu]
      rw [r1, r2, r3, s1, s2, s3]
      exact ⟨⟨rfl, rfl, rfl⟩, hv⟩
    · have := f9 c (by omega)
      unfold FH at *
      rw [o1 _ _ (by omega) (by omega), o1 _ _ (by omega) (by omega), o1 _ _ (by omega) (by omega), o2 _ _ (by omega) (by omega), o2 _ _ (by omega) (by omega), o2 _ _ (by omega) (by omega)]
      exact this
theorem FF_per {h g : AH} {kd a f gl s : Int} (hf : FF h g) (h8 : g 82 19 < 8) (hv : (0 ≤ kd ∧ kd ≤ 5) ∧ (0 ≤ a ∧ a ≤ 9) ∧ (0 ≤ f ∧ f ≤ 9) ∧ (0 ≤ gl ∧ gl ≤ 9) ∧ (0 ≤ s ∧ s ≤ 99)) : FF (addPersonX h 12 kd a f gl s) (perW g (g 82 19).toNat kd a f gl s) := by
  obtain ⟨f1, f2, f3, f4, f5, f6, f7, f8, f9⟩ := hf
  obtain ⟨nn, hn⟩ : ∃ nn : Nat, g 82 19 = (nn : Int) := ⟨(g 82 19).toNat, by omega⟩
  have e1 : addPersonX h 12 kd a f gl s = hu (hu (hu (hu (hu (hu (hu (hu h 12 0 ((nn + 1 : Nat) : Int)) 13 nn kd) 14 nn a) 15 nn f) 16 nn gl) 17 nn s) 18 nn 0) 19 nn (-9) := by
    unfold addPersonX sendX
    rw [if_pos (by omega), f1, hn, Int.toNat_natCast]; rfl
  have e2 : perW g (g 82 19).toNat kd a f gl s = hu (hu (hu (hu (hu (hu g 90 nn kd) 91 nn a) 92 nn f) 93 nn gl) 94 nn s) 82 19 ((nn + 1 : Nat) : Int) := by
    unfold perW; rw [hn, Int.toNat_natCast]
  rw [e1, e2]
  clear e1 e2
  have o1 : ∀ a' c', (a' < 13 ∨ 19 < a' ∨ c' ≠ nn) → (a' ≠ 12 ∨ c' ≠ 0) → hu (hu (hu (hu (hu (hu (hu (hu h 12 0 ((nn + 1 : Nat) : Int)) 13 nn kd) 14 nn a) 15 nn f) 16 nn gl) 17 nn s) 18 nn 0) 19 nn (-9) a' c' = h a' c' := fun a' c' q1 q2 => by rw [hu_o (by omega), hu_o (by omega), hu_o (by omega), hu_o (by omega), hu_o (by omega), hu_o (by omega), hu_o (by omega), hu_o (by omega)]
  have o2 : ∀ a' c', (a' < 90 ∨ 94 < a' ∨ c' ≠ nn) → (a' ≠ 82 ∨ c' ≠ 19) → hu (hu (hu (hu (hu (hu g 90 nn kd) 91 nn a) 92 nn f) 93 nn gl) 94 nn s) 82 19 ((nn + 1 : Nat) : Int) a' c' = g a' c' := fun a' c' q1 q2 => by rw [hu_o (by omega), hu_o (by omega), hu_o (by omega), hu_o (by omega), hu_o (by omega), hu_o (by omega)]
  have n2 : hu (hu (hu (hu (hu (hu g 90 nn kd) 91 nn a) 92 nn f) 93 nn gl) 94 nn s) 82 19 ((nn + 1 : Nat) : Int) 82 19 = ((nn + 1 : Nat) : Int) := by simp [hu]
  refine ⟨by rw [n2, hu_o (by omega), hu_o (by omega), hu_o (by omega), hu_o (by omega), hu_o (by omega), hu_o (by omega), hu_o (by omega)]; simp [hu], by rw [n2]; omega, by rw [o1 _ _ (by omega) (by omega), o2 _ _ (by omega) (by omega)]; exact f3, by rw [o2 _ _ (by omega) (by omega)]; exact f4, by rw [o1 _ _ (by omega) (by omega), o2 _ _ (by omega) (by omega)]; exact f5, by rw [o2 _ _ (by omega) (by omega)]; exact f6, by rw [o1 _ _ (by omega) (by omega)]; exact f7, fun c hc => ?_, fun c hc => ?_⟩
  · rw [n2] at hc
    by_cases hcn : c = nn
    · subst hcn
      unfold FP
      have s1 : hu (hu (hu (hu (hu (hu g 90 c kd) 91 c a) 92 c f) 93 c gl) 94 c s) 82 19 ((c + 1 : Nat) : Int) 90 c = kd := by rw [hu_o (by omega), hu_o (by omega), hu_o (by omega), hu_o (by omega), hu_o (by omega)]; simp [hu]
      have s2 : hu (hu (hu (hu (hu (hu g 90 c kd) 91 c a) 92 c f) 93 c gl) 94 c s) 82 19 ((c + 1 : Nat) : Int) 91 c = a := by rw [hu_o (by omega), hu_o (by omega), hu_o (by omega), hu_o (by omega)]; simp [hu]
      have s3 : hu (hu (hu (hu (hu (hu g 90 c kd) 91 c a) 92 c f) 93 c gl) 94 c s) 82 19 ((c + 1 : Nat) : Int) 92 c = f := by rw [hu_o (by omega), hu_o (by omega), hu_o (by omega)]; simp [hu]
      have s4 : hu (hu (hu (hu (hu (hu g 90 c kd) 91 c a) 92 c f) 93 c gl) 94 c s) 82 19 ((c + 1 : Nat) : Int) 93 c = gl := by rw [hu_o (by omega), hu_o (by omega)]; simp [hu]
      have s5 : hu (hu (hu (hu (hu (hu g 90 c kd) 91 c a) 92 c f) 93 c gl) 94 c s) 82 19 ((c + 1 : Nat) : Int) 94 c = s := by rw [hu_o (by omega)]; simp [hu]
      rw [s1, s2, s3, s4, s5]
      refine ⟨⟨?_, ?_, ?_, ?_, ?_, ?_, ?_⟩, hv⟩
      · rw [hu_o (by omega), hu_o (by omega), hu_o (by omega), hu_o (by omega), hu_o (by omega), hu_o (by omega)]; simp [hu]
      · rw [hu_o (by omega), hu_o (by omega), hu_o (by omega), hu_o (by omega), hu_o (by omega)]; simp [hu]
      · rw [hu_o (by omega), hu_o (by omega), hu_o (by omega), hu_o (by omega)]; simp [hu]
      · rw [hu_o (by omega), hu_o (by omega), hu_o (by omega)]; simp [hu]
      · rw [hu_o (by omega), hu_o (by omega)]; simp [hu]
      · rw [hu_o (by omega)]; simp [hu]
      · simp [hu]
    · have := f8 c (by omega)
      unfold FP at *
      rw [o1 _ _ (by omega) (by omega), o1 _ _ (by omega) (by omega), o1 _ _ (by omega) (by omega), o1 _ _ (by omega) (by omega), o1 _ _ (by omega) (by omega), o1 _ _ (by omega) (by omega), o1 _ _ (by omega) (by omega), o2 _ _ (by omega) (by omega), o2 _ _ (by omega) (by omega), o2 _ _ (by omega) (by omega), o2 _ _ (by omega) (by omega), o2 _ _ (by omega) (by omega)]
      exact this
  · rw [o2 _ _ (by omega) (by omega)] at hc
    have := f9 c hc
    unfold FH at *
    rw [o1 _ _ (by omega) (by omega), o1 _ _ (by omega) (by omega), o1 _ _ (by omega) (by omega), o2 _ _ (by omega) (by omega), o2 _ _ (by omega) (by omega), o2 _ _ (by omega) (by omega)]
    exact this
end L3ENT
