section L3F
variable {h g y : AH} {tt ss aa : Nat}
theorem hcpy_at {k0 k1 n c : Nat} : hcpy h k0 k1 0 0 n k1 c = if c < n then h k0 c else h k1 c := by
  unfold hcpy; simp
theorem bec_o (a c : Nat) (ha : a < tt ∨ tt + 10 < a) : becomeX h tt ss a c = h a c := by
  unfold becomeX
  rw [hu_o (by omega), hu_o (by omega), hu_o (by omega), hcpy_o _ _ _ _ _ _ _ _ (by omega), hcpy_o _ _ _ _ _ _ _ _ (by omega), hcpy_o _ _ _ _ _ _ _ _ (by omega), hu_o (by omega), hcpy_o _ _ _ _ _ _ _ _ (by omega), hcpy_o _ _ _ _ _ _ _ _ (by omega), hcpy_o _ _ _ _ _ _ _ _ (by omega), hcpy_o _ _ _ _ _ _ _ _ (by omega), hcpy_o _ _ _ _ _ _ _ _ (by omega), hcpy_o _ _ _ _ _ _ _ _ (by omega), hcpy_o _ _ _ _ _ _ _ _ (by omega), hu_o (by omega)]
theorem bec_1 (ht : isT tt) (hs : isT ss) (hne : tt ≠ ss) (c : Nat) : becomeX h tt ss (tt + 1) c = if c < (h ss 0).toNat then h (ss + 1) c else h (tt + 1) c := by
  unfold isT at ht hs
  unfold becomeX
  rw [hu_o (by omega), hu_o (by omega), hu_o (by omega), hcpy_o _ _ _ _ _ _ _ _ (by omega), hcpy_o _ _ _ _ _ _ _ _ (by omega), hcpy_o _ _ _ _ _ _ _ _ (by omega), hu_o (by omega), hcpy_o _ _ _ _ _ _ _ _ (by omega), hcpy_o _ _ _ _ _ _ _ _ (by omega), hcpy_o _ _ _ _ _ _ _ _ (by omega), hcpy_o _ _ _ _ _ _ _ _ (by omega), hcpy_o _ _ _ _ _ _ _ _ (by omega), hcpy_o _ _ _ _ _ _ _ _ (by omega), hcpy_at]
  congr 1
  · rw [hu_o (by omega)]
  · rw [hu_o (by omega)]
theorem bec_2 (ht : isT tt) (hs : isT ss) (hne : tt ≠ ss) (c : Nat) : becomeX h tt ss (tt + 2) c = if c < (h ss 0).toNat then h (ss + 2) c else h (tt + 2) c := by
  unfold isT at ht hs
  unfold becomeX
  rw [hu_o (by omega), hu_o (by omega), hu_o (by omega), hcpy_o _ _ _ _ _ _ _ _ (by omega), hcpy_o _ _ _ _ _ _ _ _ (by omega), hcpy_o _ _ _ _ _ _ _ _ (by omega), hu_o (by omega), hcpy_o _ _ _ _ _ _ _ _ (by omega), hcpy_o _ _ _ _ _ _ _ _ (by omega), hcpy_o _ _ _ _ _ _ _ _ (by omega), hcpy_o _ _ _ _ _ _ _ _ (by omega), hcpy_o _ _ _ _ _ _ _ _ (by omega), hcpy_at]
  congr 1
  · rw [hcpy_o _ _ _ _ _ _ _ _ (by omega), hu_o (by omega)]
  · rw [hcpy_o _ _ _ _ _ _ _ _ (by omega), hu_o (by omega)]
theorem bec_3 (ht : isT tt) (hs : isT ss) (hne : tt ≠ ss) (c : Nat) : becomeX h tt ss (tt + 3) c = if c < (h ss 0).toNat then h (ss + 3) c else h (tt + 3) c := by
  unfold isT at ht hs
  unfold becomeX
  rw [hu_o (by omega), hu_o (by omega), hu_o (by omega), hcpy_o _ _ _ _ _ _ _ _ (by omega), hcpy_o _ _ _ _ _ _ _ _ (by omega), hcpy_o _ _ _ _ _ _ _ _ (by omega), hu_o (by omega), hcpy_o _ _ _ _ _ _ _ _ (by omega), hcpy_o _ _ _ _ _ _ _ _ (by omega), hcpy_o _ _ _ _ _ _ _ _ (by omega), hcpy_o _ _ _ _ _ _ _ _ (by omega), hcpy_at]
  congr 1
  · rw [hcpy_o _ _ _ _ _ _ _ _ (by omega), hcpy_o _ _ _ _ _ _ _ _ (by omega), hu_o (by omega)]
  · rw [hcpy_o _ _ _ _ _ _ _ _ (by omega), hcpy_o _ _ _ _ _ _ _ _ (by omega), hu_o (by omega)]
theorem bec_4 (ht : isT tt) (hs : isT ss) (hne : tt ≠ ss) (c : Nat) : becomeX h tt ss (tt + 4) c = if c < (h ss 0).toNat then h (ss + 4) c else h (tt + 4) c := by
  unfold isT at ht hs
  unfold becomeX
  rw [hu_o (by omega), hu_o (by omega), hu_o (by omega), hcpy_o _ _ _ _ _ _ _ _ (by omega), hcpy_o _ _ _ _ _ _ _ _ (by omega), hcpy_o _ _ _ _ _ _ _ _ (by omega), hu_o (by omega), hcpy_o _ _ _ _ _ _ _ _ (by omega), hcpy_o _ _ _ _ _ _ _ _ (by omega), hcpy_o _ _ _ _ _ _ _ _ (by omega), hcpy_at]
  congr 1
  · rw [hcpy_o _ _ _ _ _ _ _ _ (by omega), hcpy_o _ _ _ _ _ _ _ _ (by omega), hcpy_o _ _ _ _ _ _ _ _ (by omega), hu_o (by omega)]
  · rw [hcpy_o _ _ _ _ _ _ _ _ (by omega), hcpy_o _ _ _ _ _ _ _ _ (by omega), hcpy_o _ _ _ _ _ _ _ _ (by omega), hu_o (by omega)]
theorem bec_5 (ht : isT tt) (hs : isT ss) (hne : tt ≠ ss) (c : Nat) : becomeX h tt ss (tt + 5) c = if c < (h ss 0).toNat then h (ss + 5) c else h (tt + 5) c := by
  unfold isT at ht hs
  unfold becomeX
  rw [hu_o (by omega), hu_o (by omega), hu_o (by omega), hcpy_o _ _ _ _ _ _ _ _ (by omega), hcpy_o _ _ _ _ _ _ _ _ (by omega), hcpy_o _ _ _ _ _ _ _ _ (by omega), hu_o (by omega), hcpy_o _ _ _ _ _ _ _ _ (by omega), hcpy_o _ _ _ _ _ _ _ _ (by omega), hcpy_at]
  congr 1
  · rw [hcpy_o _ _ _ _ _ _ _ _ (by omega), hcpy_o _ _ _ _ _ _ _ _ (by omega), hcpy_o _ _ _ _ _ _ _ _ (by omega), hcpy_o _ _ _ _ _ _ _ _ (by omega), hu_o (by omega)]
  · rw [hcpy_o _ _ _ _ _ _ _ _ (by omega), hcpy_o _ _ _ _ _ _ _ _ (by omega), hcpy_o _ _ _ _ _ _ _ _ (by omega), hcpy_o _ _ _ _ _ _ _ _ (by omega), hu_o (by omega)]
theorem bec_6 (ht : isT tt) (hs : isT ss) (hne : tt ≠ ss) (c : Nat) : becomeX h tt ss (tt + 6) c = if c < (h ss 0).toNat then h (ss + 6) c else h (tt + 6) c := by
  unfold isT at ht hs
  unfold becomeX
  rw [hu_o (by omega), hu_o (by omega), hu_o (by omega), hcpy_o _ _ _ _ _ _ _ _ (by omega), hcpy_o _ _ _ _ _ _ _ _ (by omega), hcpy_o _ _ _ _ _ _ _ _ (by omega), hu_o (by omega), hcpy_o _ _ _ _ _ _ _ _ (by omega), hcpy_at]
  congr 1
  · rw [hcpy_o _ _ _ _ _ _ _ _ (by omega), hcpy_o _ _ _ _ _ _ _ _ (by omega), hcpy_o _ _ _ _ _ _ _ _ (by omega), hcpy_o _ _ _ _ _ _ _ _ (by omega), hcpy_o _ _ _ _ _ _ _ _ (by omega), hu_o (by omega)]
  · rw [hcpy_o _ _ _ _ _ _ _ _ (by omega), hcpy_o _ _ _ _ _ _ _ _ (by omega), hcpy_o _ _ _ _ _ _ _ _ (by omega), hcpy_o _ _ _ _ _ _ _ _ (by omega), hcpy_o _ _ _ _ _ _ _ _ (by omega), hu_o (by omega)]
theorem bec_7 (ht : isT tt) (hs : isT ss) (hne : tt ≠ ss) (c : Nat) : becomeX h tt ss (tt + 7) c = if c < (h ss 0).toNat then h (ss + 7) c else h (tt + 7) c := by
  unfold isT at ht hs
  unfold becomeX
  rw [hu_o (by omega), hu_o (by omega), hu_o (by omega), hcpy_o _ _ _ _ _ _ _ _ (by omega), hcpy_o _ _ _ _ _ _ _ _ (by omega), hcpy_o _ _ _ _ _ _ _ _ (by omega), hu_o (by omega), hcpy_at]
  congr 1
  · rw [hcpy_o _ _ _ _ _ _ _ _ (by omega), hcpy_o _ _ _ _ _ _ _ _ (by omega), hcpy_o _ _ _ _ _ _ _ _ (by omega), hcpy_o _ _ _ _ _ _ _ _ (by omega), hcpy_o _ _ _ _ _ _ _ _ (by omega), hcpy_o _ _ _ _ _ _ _ _ (by omega), hu_o (by omega)]
  · rw [hcpy_o _ _ _ _ _ _ _ _ (by omega), hcpy_o _ _ _ _ _ _ _ _ (by omega), hcpy_o _ _ _ _ _ _ _ _ (by omega), hcpy_o _ _ _ _ _ _ _ _ (by omega), hcpy_o _ _ _ _ _ _ _ _ (by omega), hcpy_o _ _ _ _ _ _ _ _ (by omega), hu_o (by omega)]
theorem bec_8 (ht : isT tt) (hs : isT ss) (hne : tt ≠ ss) (c : Nat) : becomeX h tt ss (tt + 8) c = if c < (h ss 8).toNat then h (ss + 8) c else h (tt + 8) c := by
  unfold isT at ht hs
  unfold becomeX
  rw [hu_o (by omega), hu_o (by omega), hu_o (by omega), hcpy_o _ _ _ _ _ _ _ _ (by omega), hcpy_o _ _ _ _ _ _ _ _ (by omega), hcpy_at]
  congr 1
  · rw [hu_o (by omega), hcpy_o _ _ _ _ _ _ _ _ (by omega), hcpy_o _ _ _ _ _ _ _ _ (by omega), hcpy_o _ _ _ _ _ _ _ _ (by omega), hcpy_o _ _ _ _ _ _ _ _ (by omega), hcpy_o _ _ _ _ _ _ _ _ (by omega), hcpy_o _ _ _ _ _ _ _ _ (by omega), hcpy_o _ _ _ _ _ _ _ _ (by omega), hu_o (by omega)]
  · rw [hu_o (by omega), hcpy_o _ _ _ _ _ _ _ _ (by omega), hcpy_o _ _ _ _ _ _ _ _ (by omega), hcpy_o _ _ _ _ _ _ _ _ (by omega), hcpy_o _ _ _ _ _ _ _ _ (by omega), hcpy_o _ _ _ _ _ _ _ _ (by omega), hcpy_o _ _ _ _ _ _ _ _ (by omega), hcpy_o _ _ _ _ _ _ _ _ (by omega), hu_o (by omega)]
theorem bec_9 (ht : isT tt) (hs : isT ss) (hne : tt ≠ ss) (c : Nat) : becomeX h tt ss (tt + 9) c = if c < (h ss 8).toNat then h (ss + 9) c else h (tt + 9) c := by
  unfold isT at ht hs
  unfold becomeX
  rw [hu_o (by omega), hu_o (by omega), hu_o (by omega), hcpy_o _ _ _ _ _ _ _ _ (by omega), hcpy_at]
  congr 1
  · rw [hcpy_o _ _ _ _ _ _ _ _ (by omega), hu_o (by omega), hcpy_o _ _ _ _ _ _ _ _ (by omega), hcpy_o _ _ _ _ _ _ _ _ (by omega), hcpy_o _ _ _ _ _ _ _ _ (by omega), hcpy_o _ _ _ _ _ _ _ _ (by omega), hcpy_o _ _ _ _ _ _ _ _ (by omega), hcpy_o _ _ _ _ _ _ _ _ (by omega), hcpy_o _ _ _ _ _ _ _ _ (by omega), hu_o (by omega)]
  · rw [hcpy_o _ _ _ _ _ _ _ _ (by omega), hu_o (by omega), hcpy_o _ _ _ _ _ _ _ _ (by omega), hcpy_o _ _ _ _ _ _ _ _ (by omega), hcpy_o _ _ _ _ _ _ _ _ (by omega), hcpy_o _ _ _ _ _ _ _ _ (by omega), hcpy_o _ _ _ _ _ _ _ _ (by omega), hcpy_o _ _ _ _ _ _ _ _ (by omega), hcpy_o _ _ _ _ _ _ _ _ (by omega), hu_o (by omega)]
theorem bec_10 (ht : isT tt) (hs : isT ss) (hne : tt ≠ ss) (c : Nat) : becomeX h tt ss (tt + 10) c = if c < (h ss 8).toNat then h (ss + 10) c else h (tt + 10) c := by
  unfold isT at ht hs
  unfold becomeX
  rw [hu_o (by omega), hu_o (by omega), hu_o (by omega), hcpy_at]
  congr 1
  · rw [hcpy_o _ _ _ _ _ _ _ _ (by omega), hcpy_o _ _ _ _ _ _ _ _ (by omega), hu_o (by omega), hcpy_o _ _ _ _ _ _ _ _ (by omega), hcpy_o _ _ _ _ _ _ _ _ (by omega), hcpy_o _ _ _ _ _ _ _ _ (by omega), hcpy_o _ _ _ _ _ _ _ _ (by omega), hcpy_o _ _ _ _ _ _ _ _ (by omega), hcpy_o _ _ _ _ _ _ _ _ (by omega), hcpy_o _ _ _ _ _ _ _ _ (by omega), hu_o (by omega)]
  · rw [hcpy_o _ _ _ _ _ _ _ _ (by omega), hcpy_o _ _ _ _ _ _ _ _ (by omega), hu_o (by omega), hcpy_o _ _ _ _ _ _ _ _ (by omega), hcpy_o _ _ _ _ _ _ _ _ (by omega), hcpy_o _ _ _ _ _ _ _ _ (by omega), hcpy_o _ _ _ _ _ _ _ _ (by omega), hcpy_o _ _ _ _ _ _ _ _ (by omega), hcpy_o _ _ _ _ _ _ _ _ (by omega), hcpy_o _ _ _ _ _ _ _ _ (by omega), hu_o (by omega)]
theorem bec_s (c : Nat) (hc : c = 0 ∨ c = 8 ∨ c = 12 ∨ c = 13 ∨ c = 14) : becomeX h tt ss tt c = h ss c := by
  unfold becomeX
  rcases hc with rfl | rfl | rfl | rfl | rfl
  · rw [hu_o (by omega), hu_o (by omega), hu_o (by omega), hcpy_o _ _ _ _ _ _ _ _ (by omega), hcpy_o _ _ _ _ _ _ _ _ (by omega), hcpy_o _ _ _ _ _ _ _ _ (by omega), hu_o (by omega), hcpy_o _ _ _ _ _ _ _ _ (by omega), hcpy_o _ _ _ _ _ _ _ _ (by omega), hcpy_o _ _ _ _ _ _ _ _ (by omega), hcpy_o _ _ _ _ _ _ _ _ (by omega), hcpy_o _ _ _ _ _ _ _ _ (by omega), hcpy_o _ _ _ _ _ _ _ _ (by omega), hcpy_o _ _ _ _ _ _ _ _ (by omega)]; simp [hu]
  · rw [hu_o (by omega), hu_o (by omega), hu_o (by omega), hcpy_o _ _ _ _ _ _ _ _ (by omega), hcpy_o _ _ _ _ _ _ _ _ (by omega), hcpy_o _ _ _ _ _ _ _ _ (by omega)]; simp [hu]
  · rw [hu_o (by omega), hu_o (by omega)]; simp [hu]
  · rw [hu_o (by omega)]; simp [hu]
  · simp [hu]

theorem lend1_v : ∀ (n : Nat), n ≤ 41 → ∀ (a c : Nat), lend1 n h a c = if a = 88 ∧ 41 ≤ c ∧ c < 41 + n then h 88 (c - 41) else hu h 82 9 0 a c
  | 0, _, a, c => by rw [if_neg (by omega)]; rfl
  | n + 1, hn, a, c => by
    rw [lend1_s]
    have e : lend1 n h 88 n = h 88 n := by rw [lend1_v n (by omega), if_neg (by omega), hu_o (by omega)]
    rw [e]
    by_cases q : a = 88 ∧ c = 41 + n
    · rw [q.1, q.2, if_pos (by omega), show 41 + n - 41 = n by omega]; simp [hu]
    · rw [hu_o (by omega), lend1_v n (by omega)]
      by_cases q2 : a = 88 ∧ 41 ≤ c ∧ c < 41 + n
      · rw [if_pos q2, if_pos (by omega)]
      · rw [if_neg q2, if_neg (by omega)]
theorem lend2_v (a c : Nat) : ∀ n : Nat, lend2 n h a c = if a = 99 ∧ c < n then 0 else hu (lend1 41 h) 82 9 41 a c
  | 0 => by rw [if_neg (by omega)]; rfl
  | n + 1 => by
    rw [lend2_s]
    by_cases q : a = 99 ∧ c = n
    · rw [q.1, q.2, if_pos (by omega)]; simp [hu]
    · rw [hu_o (by omega), lend2_v a c n]
      by_cases q2 : a = 99 ∧ c < n
      · rw [if_pos q2, if_pos (by omega)]
      · rw [if_neg q2, if_neg (by omega)]
theorem lend3_v (a c : Nat) : ∀ n : Nat, lend3 n h a c = if a = 100 ∧ c < n then 0 else lend2 9 h a c
  | 0 => by rw [if_neg (by omega)]; rfl
  | n + 1 => by
    rw [lend3_s]
    by_cases q : a = 100 ∧ c = n
    · rw [q.1, q.2, if_pos (by omega)]; simp [hu]
    · rw [hu_o (by omega), lend3_v a c n]
      by_cases q2 : a = 100 ∧ c < n
      · rw [if_pos q2, if_pos (by omega)]
      · rw [if_neg q2, if_neg (by omega)]
theorem lendM_ap (a c : Nat) : lendM h a c = if a = 100 ∧ c < 8 then 0 else if a = 99 ∧ c < 9 then 0 else if a = 82 ∧ c = 9 then 41 else if a = 88 ∧ 41 ≤ c ∧ c < 82 then h 88 (c - 41) else h a c := by
  unfold lendM
  rw [lend3_v, lend2_v]
  by_cases q1 : a = 100 ∧ c < 8
  · rw [if_pos q1, if_pos q1]
  rw [if_neg q1, if_neg q1]
  by_cases q2 : a = 99 ∧ c < 9
  · rw [if_pos q2, if_pos q2]
  rw [if_neg q2, if_neg q2]
  by_cases q3 : a = 82 ∧ c = 9
  · rw [if_pos q3, q3.1, q3.2]; simp [hu]
  rw [if_neg q3, hu_o (by omega), lend1_v 41 (by omega)]
  by_cases q4 : a = 88 ∧ 41 ≤ c ∧ c < 82
  · rw [if_pos (by omega), if_pos q4]
  · rw [if_neg (by omega), if_neg q4, hu_o (by omega)]
theorem lend_o (a c : Nat) (q : a ≠ 100 ∧ a ≠ 99 ∧ (a ≠ 82 ∨ c ≠ 9) ∧ (a ≠ 88 ∨ c < 41)) : lendM h a c = h a c := by
  rw [lendM_ap, if_neg (by omega), if_neg (by omega), if_neg (by omega), if_neg (by omega)]
theorem lend_r (c : Nat) (q : c < 41) : lendM h 88 (41 + c) = h 88 c := by
  rw [lendM_ap, if_neg (by omega), if_neg (by omega), if_neg (by omega), if_pos (by omega), show 41 + c - 41 = c by omega]
theorem lend_9 : lendM h 82 9 = 41 := by rw [lendM_ap, if_neg (by omega), if_neg (by omega), if_pos (by omega)]
/-- one of the model's people, one of its hats, its tower: as they should be -/
def PG (g : AH) (aa c : Nat) : Prop := ((0 ≤ g 86 c ∧ g 86 c ≤ 5) ∧ (0 ≤ g 87 c ∧ g 87 c ≤ 9)) ∧ (0 ≤ g 88 (aa + 1 + c) ∧ g 88 (aa + 1 + c) ≤ 9) ∧ (0 ≤ g 88 (aa + 9 + c) ∧ g 88 (aa + 9 + c) ≤ 9) ∧ (0 ≤ g 88 (aa + 17 + c) ∧ g 88 (aa + 17 + c) ≤ 120) ∧ MH g aa c ∧ (-1 ≤ g 88 (aa + 33 + c) ∧ g 88 (aa + 33 + c) ≤ 119)
def HG (g : AH) (c : Nat) : Prop := (0 ≤ g 83 c ∧ g 83 c ≤ 8) ∧ (0 ≤ g 84 c ∧ g 84 c ≤ 120) ∧ (0 ≤ g 85 c ∧ g 85 c ≤ 30)
def MG (g : AH) (aa : Nat) : Prop := (0 ≤ g 82 5 ∧ g 82 5 ≤ 8) ∧ (0 ≤ g 82 1 ∧ g 82 1 ≤ 4) ∧ (1 ≤ g 82 0 ∧ g 82 0 ≤ 9) ∧ (0 ≤ g 88 aa ∧ g 88 aa ≤ 120) ∧ (∀ c : Nat, (c : Int) < g 82 5 → PG g aa c) ∧ (∀ c : Nat, (c : Int) < g 82 1 → HG g c) ∧ (∀ j, 0 ≤ g 98 j ∧ g 98 j ≤ 1000) ∧ (∃ ww, ∀ j, 0 ≤ g 100 j ∧ g 100 j ≤ ww)
theorem MG_stI {c : Nat} (hm : MG g aa) (hc : (c : Int) < g 82 5) : stI g aa c := by
  obtain ⟨m1, m2, m3, m4, m5, m6, m7, m8⟩ := hm
  obtain ⟨p1, p2, p3, p4, p5, p6⟩ := m5 c hc
  refine ⟨p2, p3, by unfold MH at p5; omega, m7, m3.2, ⟨by omega, fun i hi => (m6 i hi).2⟩⟩
theorem MG_GI (hm : MG g aa) (h9 : g 82 9 = (aa : Int)) : GI g aa := by
  obtain ⟨m1, m2, m3, m4, m5, m6, m7, ww, m8⟩ := id hm
  exact ⟨⟨ww, h9, m1, fun j hj => MG_stI hm hj, m8, m4⟩, fun c hc => (m5 c hc).2.2.2.2.1⟩
theorem MG_KK (hm : MG g aa) : KK g := fun c hc => (hm.2.2.2.2.1 c hc).1
/-- the lanes of the class stay small -/
def CL (h : AH) : Prop := (∀ j, 0 ≤ h 39 j ∧ h 39 j ≤ 1000) ∧ (∀ j, 0 ≤ h 40 j ∧ h 40 j ≤ 1000)
/-- the tower of now, class and model -/
def BB (h g : AH) : Prop := RS h g 1 ∧ h 1 13 = g 88 0 ∧ R7 h g 1 0 ∧ RH h g 1 ∧ MG g 0
/-- a trial that may begin -/
def SG (y g : AH) : Prop := RS y g 12 ∧ y 12 13 = g 88 41 ∧ R7 y g 12 41 ∧ RH y g 12 ∧ MG g 41 ∧ g 82 9 = 41 ∧ CL y ∧ (∀ c : Nat, (c : Int) < g 82 5 → g 100 c = 0) ∧ (∀ c : Nat, c < 9 → g 99 c = 0)
theorem isT1 : isT 1 := Or.inl rfl
theorem isT12 : isT 12 := Or.inr (Or.inl rfl)
theorem isT23 : isT 23 := Or.inr (Or.inr rfl)
theorem MG_lend (hm : MG g 0) : MG (lendM g) 41 := by
  obtain ⟨m1, m2, m3, m4, m5, m6, m7, ww, m8⟩ := hm
  have o : ∀ a c, a ≠ 100 ∧ a ≠ 99 ∧ (a ≠ 82 ∨ c ≠ 9) ∧ (a ≠ 88 ∨ c < 41) → lendM g a c = g a c := fun a c q => lend_o a c q
  have r0 : lendM g 88 41 = g 88 0 := lend_r 0 (by omega)
  refine ⟨by rw [o _ _ (by omega)]; exact m1, by rw [o _ _ (by omega)]; exact m2, by rw [o _ _ (by omega)]; exact m3, by rw [r0]; exact m4, fun c hc => ?_, fun c hc => ?_, fun j => by rw [o _ _ (by omega)]; exact m7 j, ?_⟩
  · rw [o _ _ (by omega)] at hc
    have := m5 c hc
    unfold PG MH at *
    rw [show 41 + 1 + c = 41 + (1 + c) by omega, show 41 + 9 + c = 41 + (9 + c) by omega, show 41 + 17 + c = 41 + (17 + c) by omega, show 41 + 25 + c = 41 + (25 + c) by omega, show 41 + 33 + c = 41 + (33 + c) by omega, lend_r _ (by omega), lend_r _ (by omega), lend_r _ (by omega), lend_r _ (by omega), lend_r _ (by omega), o _ _ (by omega), o _ _ (by omega)]
    simpa only [Nat.zero_add] using this
  · rw [o _ _ (by omega)] at hc
    unfold HG
    rw [o _ _ (by omega), o _ _ (by omega), o _ _ (by omega)]
    exact m6 c hc
  · refine ⟨ww, fun j => ?_⟩
    have := m8 j
    have := m8 0
    rw [lendM_ap]
    split
    · omega
    · rw [if_neg (by omega), if_neg (by omega), if_neg (by omega)]; exact m8 j
theorem SG_start (hb : BB h g) (hc : CL h) : SG (becomeX h 12 1) (lendM g) := by
  obtain ⟨⟨a1, a2, a3⟩, a4, r7, rh, mg⟩ := hb
  have m1 := mg.1
  have o : ∀ a c, a ≠ 100 ∧ a ≠ 99 ∧ (a ≠ 82 ∨ c ≠ 9) ∧ (a ≠ 88 ∨ c < 41) → lendM g a c = g a c := fun a c q => lend_o a c q
  refine ⟨⟨by rw [bec_s _ (by omega), o _ _ (by omega)]; exact a1, by rw [bec_s _ (by omega), o _ _ (by omega)]; exact a2, by rw [bec_s _ (by omega), o _ _ (by omega)]; exact a3⟩, by rw [bec_s _ (by omega), show lendM g 88 41 = g 88 0 from lend_r 0 (by omega)]; exact a4, fun c hc => ?_, fun c hc => ?_, MG_lend mg, lend_9, ⟨fun j => by rw [bec_o _ _ (by omega)]; exact hc.1 j, fun j => by rw [bec_o _ _ (by omega)]; exact hc.2 j⟩, fun c hc => ?_, fun c hc => ?_⟩
  · rw [o _ _ (by omega)] at hc
    have := r7 c hc
    rw [show 41 + 1 + c = 41 + (1 + c) by omega, show 41 + 9 + c = 41 + (9 + c) by omega, show 41 + 17 + c = 41 + (17 + c) by omega, show 41 + 25 + c = 41 + (25 + c) by omega, show 41 + 33 + c = 41 + (33 + c) by omega, lend_r _ (by omega), lend_r _ (by omega), lend_r _ (by omega), lend_r _ (by omega), lend_r _ (by omega), o _ _ (by omega), o _ _ (by omega), bec_1 isT12 isT1 (by omega), bec_2 isT12 isT1 (by omega), bec_3 isT12 isT1 (by omega), bec_4 isT12 isT1 (by omega), bec_5 isT12 isT1 (by omega), bec_6 isT12 isT1 (by omega), bec_7 isT12 isT1 (by omega), if_pos (by omega), if_pos (by omega), if_pos (by omega), if_pos (by omega), if_pos (by omega), if_pos (by omega), if_pos (by omega)]
    simpa only [Nat.zero_add] using this
  · rw [o _ _ (by omega)] at hc
    have h1 := mg.2.1
    rw [o _ _ (by omega), o _ _ (by omega), o _ _ (by omega), bec_8 isT12 isT1 (by omega), bec_9 isT12 isT1 (by omega), bec_10 isT12 isT1 (by omega), if_pos (by omega), if_pos (by omega), if_pos (by omega)]
    exact rh c hc
  · rw [o _ _ (by omega)] at hc
    rw [lendM_ap, if_pos (by omega)]
  · rw [lendM_ap, if_neg (by omega), if_pos (by omega)]
theorem SG_TG (hs : SG y g) : TG y 12 := by
  obtain ⟨⟨a1, a2, a3⟩, a4, r7, rh, mg, -, hc, -, -⟩ := hs
  obtain ⟨m1, m2, m3, m4, m5, m6, -, -⟩ := mg
  refine ⟨by rw [a1]; exact m1, fun j hj => ?_, by rw [a3]; omega, ⟨by rw [a2]; exact m2, fun j hj => ?_⟩, by rw [a4]; exact m4, hc.1, hc.2⟩
  · rw [a1] at hj
    obtain ⟨-, -, b3, b4, -⟩ := r7 j hj
    obtain ⟨-, p2, p3, -⟩ := m5 j hj
    rw [b3, b4]; exact ⟨p2, p3⟩
  · rw [a2] at hj
    obtain ⟨⟨-, b2, b3⟩, -⟩ := rh j hj
    rw [b2, b3]; exact (m6 j hj).2
theorem SG_try (hs : SG y g) {ee : Int} (hm : g 88 41 ≤ ee) (he : ee ≤ 120) : RQ True (tryX y 12 ee) (goMo 41 (ee - g 88 41).toNat g) 12 41 := by
  have tg := SG_TG hs
  obtain ⟨a1, a4, r7, rh, mg, h9, hc, w1, w2⟩ := hs
  obtain ⟨e1, e2, e3⟩ := ready_eq (fl := True) isT12 a1 a4 r7 mg.1 (MG_KK mg) (fun _ => ⟨w1, w2⟩)
  have ti : TI True (readyX y 12) g 12 41 := by
    refine ⟨e1, fun c hc => ?_, MG_GI mg h9, e2, mg.2.1.1, e3⟩
    rw [ready_o _ _ (by omega), ready_o _ _ (by omega), ready_o _ _ (by omega)]
    exact rh c hc
  unfold tryX
  rw [a4]
  exact try_eq isT12 _ _ _ ti (by omega)
theorem SG_send {pp : Nat} {gl s : Int} (hs : SG y g) (hp : (pp : Int) < g 82 5) (hg : 0 ≤ gl ∧ gl ≤ 9) (h0 : 0 ≤ s ∧ s ≤ 120) : SG (sendX y 12 pp gl s) (hu (setsM g 41 pp gl) 88 (41 + 17 + pp) s) := by
  obtain ⟨⟨a1, a2, a3⟩, a4, r7, rh, mg, h9, hc, w1, w2⟩ := hs
  obtain ⟨m1, m2, m3, m4, m5, m6, m7, m8⟩ := mg
  have o1 : ∀ a c, a ≠ 16 ∧ a ≠ 17 ∧ a ≠ 18 ∧ a ≠ 19 → sendX y 12 pp gl s a c = y a c := fun a c q => by unfold sendX; rw [hu_o (by omega), hu_o (by omega), hu_o (by omega), hu_o (by omega)]
  have o2 : ∀ a c, (a ≠ 88 ∨ c < 41 + 9) → hu (setsM g 41 pp gl) 88 (41 + 17 + pp) s a c = g a c := fun a c q => by unfold setsM; rw [hu_o (by omega), hu_o (by omega), hu_o (by omega), hu_o (by omega)]
  have n9 : orN (-1) = -9 := rfl
  refine ⟨⟨by rw [o1 _ _ (by omega), o2 _ _ (by omega)]; exact a1, by rw [o1 _ _ (by omega), o2 _ _ (by omega)]; exact a2, by rw [o1 _ _ (by omega), o2 _ _ (by omega)]; exact a3⟩, by rw [o1 _ _ (by omega), o2 _ _ (by omega)]; exact a4, fun c hc => ?_, fun c hc => ?_, ⟨by rw [o2 _ _ (by omega)]; exact m1, by rw [o2 _ _ (by omega)]; exact m2, by rw [o2 _ _ (by omega)]; exact m3, by rw [o2 _ _ (by omega)]; exact m4, fun c hc => ?_, fun c hc => ?_, fun j => by rw [o2 _ _ (by omega)]; exact m7 j, ?_⟩, by rw [o2 _ _ (by omega)]; exact h9, ⟨fun j => by rw [o1 _ _ (by omega)]; exact hc.1 j, fun j => by rw [o1 _ _ (by omega)]; exact hc.2 j⟩, fun c hc => ?_, fun c hc => by rw [o2 _ _ (by omega)]; exact w2 c hc⟩
  · rw [o2 _ _ (by omega)] at hc
    obtain ⟨b1, b2, b3, b4, b5, b6, b7⟩ := r7 c hc
    unfold sendX setsM
    refine ⟨?_, ?_, ?_, ?_, ?_, ?_, ?_⟩ <;> simp only [hu_ap, true_and] <;> (repeat' split) <;> first | omega | (rw [n9])
  · rw [o2 _ _ (by omega)] at hc
    rw [o1 _ _ (by omega), o1 _ _ (by omega), o1 _ _ (by omega), o2 _ _ (by omega), o2 _ _ (by omega), o2 _ _ (by omega)]
    exact rh c hc
  · rw [o2 _ _ (by omega)] at hc
    have := m5 c hc
    unfold PG MH at *
    by_cases e : c = pp
    · subst e
      have v1 : hu (setsM g 41 c gl) 88 (41 + 17 + c) s 88 (41 + 9 + c) = gl := by unfold setsM; rw [hu_o (by omega), hu_o (by omega), hu_o (by omega)]; simp [hu]
      have v2 : hu (setsM g 41 c gl) 88 (41 + 17 + c) s 88 (41 + 17 + c) = s := by simp [hu]
      have v3 : hu (setsM g 41 c gl) 88 (41 + 17 + c) s 88 (41 + 25 + c) = 0 := by unfold setsM; rw [hu_o (by omega), hu_o (by omega)]; simp [hu]
      have v4 : hu (setsM g 41 c gl) 88 (41 + 17 + c) s 88 (41 + 33 + c) = -1 := by unfold setsM; rw [hu_o (by omega)]; simp [hu]
      rw [v1, v2, v3, v4, o2 _ _ (by omega), o2 _ _ (by omega), o2 _ _ (by omega)]
      exact ⟨this.1, this.2.1, hg, h0, Or.inl rfl, by omega⟩
    · have o3 : ∀ x, (x = 41 + 1 + c ∨ x = 41 + 9 + c ∨ x = 41 + 17 + c ∨ x = 41 + 25 + c ∨ x = 41 + 33 + c) → hu (setsM g 41 pp gl) 88 (41 + 17 + pp) s 88 x = g 88 x := fun x q => by unfold setsM; rw [hu_o (by omega), hu_o (by omega), hu_o (by omega), hu_o (by omega)]
      rw [o3 _ (by omega), o3 _ (by omega), o3 _ (by omega), o3 _ (by omega), o3 _ (by omega), o2 _ _ (by omega), o2 _ _ (by omega)]
      exact this
  · rw [o2 _ _ (by omega)] at hc
    unfold HG
    rw [o2 _ _ (by omega), o2 _ _ (by omega), o2 _ _ (by omega)]
    exact m6 c hc
  · obtain ⟨ww, m8⟩ := m8
    exact ⟨ww, fun j => by rw [o2 _ _ (by omega)]; exact m8 j⟩
  · rw [o2 _ _ (by omega)] at hc ⊢
    exact w1 c hc
theorem SG_send0 {pp : Nat} {gl s : Int} (hs : SG y g) (hp : (pp : Int) < g 82 5) (hg : 0 ≤ gl ∧ gl ≤ 9) (e : s = g 88 (41 + 17 + pp)) : SG (sendX y 12 pp gl s) (setsM g 41 pp gl) := by
  have h0 := (hs.2.2.2.2.1.2.2.2.2.1 pp hp).2.2.2.1
  have h8 := hs.2.2.2.2.1.1
  have := SG_send (s := s) hs hp hg (by rw [e]; exact h0)
  rw [hu_sv (by unfold setsM; rw [hu_o (by omega), hu_o (by omega), hu_o (by omega)]; exact e)] at this
  exact this
theorem SG_room {v : Int} (hs : SG y g) (hv : 1 ≤ v ∧ v ≤ 9) : SG (hu y 12 12 v) (hu g 82 0 v) := by
  obtain ⟨⟨a1, a2, a3⟩, a4, r7, rh, mg, h9, hc, w1, w2⟩ := hs
  obtain ⟨m1, m2, m3, m4, m5, m6, m7, m8⟩ := mg
  have o1 : ∀ a c, (a ≠ 12 ∨ c ≠ 12) → hu y 12 12 v a c = y a c := fun a c q => hu_o (by omega)
  have o2 : ∀ a c, (a ≠ 82 ∨ c ≠ 0) → hu g 82 0 v a c = g a c := fun a c q => hu_o (by omega)
  have v1 : hu g 82 0 v 82 0 = v := by simp [hu]
  refine ⟨⟨by rw [o1 _ _ (by omega), o2 _ _ (by omega)]; exact a1, by rw [o1 _ _ (by omega), o2 _ _ (by omega)]; exact a2, by simp [hu]⟩, by rw [o1 _ _ (by omega), o2 _ _ (by omega)]; exact a4, fun c hc => ?_, fun c hc => ?_, ⟨by rw [o2 _ _ (by omega)]; exact m1, by rw [o2 _ _ (by omega)]; exact m2, by rw [v1]; exact hv, by rw [o2 _ _ (by omega)]; exact m4, fun c hc => ?_, fun c hc => ?_, fun j => by rw [o2 _ _ (by omega)]; exact m7 j, ?_⟩, by rw [o2 _ _ (by omega)]; exact h9, ⟨fun j => by rw [o1 _ _ (by omega)]; exact hc.1 j, fun j => by rw [o1 _ _ (by omega)]; exact hc.2 j⟩, fun c hc => by rw [o2 _ _ (by omega)] at hc ⊢; exact w1 c hc, fun c hc => by rw [o2 _ _ (by omega)]; exact w2 c hc⟩
  · rw [o2 _ _ (by omega)] at hc
    have := r7 c hc
    rw [o1 _ _ (by omega), o1 _ _ (by omega), o1 _ _ (by omega), o1 _ _ (by omega), o1 _ _ (by omega), o1 _ _ (by omega), o1 _ _ (by omega), o2 _ _ (by omega), o2 _ _ (by omega), o2 _ _ (by omega), o2 _ _ (by omega), o2 _ _ (by omega), o2 _ _ (by omega), o2 _ _ (by omega)]
    exact this
  · rw [o2 _ _ (by omega)] at hc
    rw [o1 _ _ (by omega), o1 _ _ (by omega), o1 _ _ (by omega), o2 _ _ (by omega), o2 _ _ (by omega), o2 _ _ (by omega)]
    exact rh c hc
  · rw [o2 _ _ (by omega)] at hc
    have := m5 c hc
    unfold PG MH at *
    rw [o2 _ _ (by omega), o2 _ _ (by omega), o2 _ _ (by omega), o2 _ _ (by omega), o2 _ _ (by omega), o2 _ _ (by omega), o2 _ _ (by omega)]
    exact this
  · rw [o2 _ _ (by omega)] at hc
    unfold HG
    rw [o2 _ _ (by omega), o2 _ _ (by omega), o2 _ _ (by omega)]
    exact m6 c hc
  · obtain ⟨ww, m8⟩ := m8
    exact ⟨ww, fun j => by rw [o2 _ _ (by omega)]; exact m8 j⟩
end L3F
