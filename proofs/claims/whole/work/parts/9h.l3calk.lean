section L3CALK
variable {G : GD} {l : Launch} {d k : Nat} {h h' : AH}
theorem aHat_o {x : AH} {f aa n : Int} (a c : Nat) (z : a < 12 ∨ 22 < a) : addHatX x 12 f aa n a c = x a c := by
  unfold addHatX
  split
  · rw [hu_o (by omega), hu_o (by omega), hu_o (by omega), hu_o (by omega)]
  · rfl
theorem aPer_o {x : AH} {kd aa f g s : Int} (a c : Nat) (z : a < 12 ∨ 22 < a) : addPersonX x 12 kd aa f g s a c = x a c := by
  unfold addPersonX sendX
  split
  · rw [hu_o (by omega), hu_o (by omega), hu_o (by omega), hu_o (by omega), hu_o (by omega), hu_o (by omega), hu_o (by omega), hu_o (by omega)]
  · rfl
theorem hatP_o {b : Nat → Int} {ln : Nat} {x : AH} {st : TS} (a c : Nat) (z : a < 12 ∨ 22 < a) : (hatP b ln x st).1 a c = x a c := by
  unfold hatP
  split
  · dsimp only
    split
    · exact aHat_o a c z
    · rfl
  · rfl
theorem roomP_o {b : Nat → Int} {ln : Nat} {x : AH} {st : TS} (a c : Nat) (z : a < 12 ∨ 22 < a) : (roomP b ln x st).1 a c = x a c := by
  unfold roomP
  dsimp only
  split
  · rw [hu_o (by omega)]
  · rfl
theorem perP_o {b : Nat → Int} {ln : Nat} {kd : Int} {x : AH} {st : TS} (a c : Nat) (z : a < 12 ∨ 22 < a) : (perP b ln kd x st).1 a c = x a c := by
  unfold perP
  split
  · rfl
  · dsimp only
    split
    · dsimp only
      split
      · exact aPer_o a c z
      · rfl
    · dsimp only
      split
      · exact aPer_o a c z
      · rfl
theorem entP2_o {b : Nat → Int} {ln : Nat} {x : AH} {st : TS} (a c : Nat) (z : a < 12 ∨ 22 < a) : (entP2 b ln x st).1 a c = x a c := by
  unfold entP2
  split
  · exact hatP_o a c z
  · split
    · exact roomP_o a c z
    · exact perP_o a c z
theorem rdL_o {b : Nat → Int} {ln : Nat} (a c : Nat) (z : a < 12 ∨ 22 < a) : ∀ (n : Nat) (x : AH) (st : TS), (rdL b ln n x st).1 a c = x a c
  | 0, _, _ => rfl
  | n + 1, x, st => by
    rw [rdL]
    split
    · split
      · rw [rdL_o a c z n, entP2_o a c z]
      · rfl
    · rfl
theorem rdR_o {ln t0 : Nat} (a c : Nat) (z : a < 12 ∨ 22 < a) : (rdR h ln t0).1 a c = h a c := by
  unfold rdR
  rw [rdL_o a c z, clr_o _ _ _ (by omega)]
theorem hatW_o {x : AH} {nn : Nat} {f aa n : Int} (a c : Nat) (z : a < 90 ∨ 97 < a) (z2 : a ≠ 82 ∨ c < 19 ∨ 21 < c) : hatW x nn f aa n a c = x a c := by
  unfold hatW; rw [hu_o (by omega), hu_o (by omega), hu_o (by omega), hu_o (by omega)]
theorem perW_o {x : AH} {nn : Nat} {kd aa f g s : Int} (a c : Nat) (z : a < 90 ∨ 97 < a) (z2 : a ≠ 82 ∨ c < 19 ∨ 21 < c) : perW x nn kd aa f g s a c = x a c := by
  unfold perW; rw [hu_o (by omega), hu_o (by omega), hu_o (by omega), hu_o (by omega), hu_o (by omega), hu_o (by omega)]
theorem clF_o {T : Nat → Int} {tm : Nat} {x : AH} {gs : GS} (a c : Nat) (z : a < 90 ∨ 97 < a) (z2 : a ≠ 82 ∨ c < 19 ∨ 21 < c) : (clF T tm x gs).1 a c = x a c := by
  unfold clF
  split
  · unfold perF
    split
    · split
      · dsimp only
        split
        · exact perW_o a c z z2
        · rfl
      · dsimp only
        split
        · exact perW_o a c z z2
        · rfl
    · rfl
  · split
    · unfold hatF
      dsimp only
      split
      · exact hatW_o a c z z2
      · rfl
    · split
      · dsimp only
        rw [hu_o (by omega)]
      · rfl
theorem clL_o {T : Nat → Int} {tm : Nat} (a c : Nat) (z : a < 90 ∨ 97 < a) (z2 : a ≠ 82 ∨ c < 19 ∨ 21 < c) : ∀ (n : Nat) (x : AH) (gs : GS), (clL T tm n x gs).1 a c = x a c
  | 0, _, _ => rfl
  | n + 1, x, gs => by
    rw [clL]
    split
    · rw [clL_o a c z z2 n, clF_o a c z z2]
    · rfl
theorem clR_o {tm bg : Nat} (a c : Nat) (z : a < 90 ∨ 97 < a) (z2 : a ≠ 82 ∨ c < 19 ∨ 21 < c) : (clR h tm bg).1 a c = h a c := by
  unfold clR
  rw [clL_o a c z z2]
  unfold tw0
  rw [hu_o (by omega), hu_o (by omega), hu_o (by omega)]
theorem ti1_o (a c : Nat) (z1 : a < 83 ∨ 85 < a) (z2 : a ≠ 82 ∨ (c ≠ 0 ∧ c ≠ 1)) : ∀ n : Nat, ti1 n h a c = h a c
  | 0 => by show hu (hu h 82 0 (h 82 21)) 82 1 (h 82 20) a c = _; rw [hu_o (by omega), hu_o (by omega)]
  | n + 1 => by rw [ti1_s, hu_o (by omega), hu_o (by omega), hu_o (by omega), ti1_o a c z1 z2 n]
theorem ti1_82 : ∀ n : Nat, ti1 n h 82 0 = h 82 21 ∧ ti1 n h 82 1 = h 82 20
  | 0 => by
    constructor
    · show hu (hu h 82 0 (h 82 21)) 82 1 (h 82 20) 82 0 = _; simp [hu]
    · show hu (hu h 82 0 (h 82 21)) 82 1 (h 82 20) 82 1 = _; simp [hu]
  | n + 1 => by
    rw [ti1_s]
    constructor
    · rw [hu_o (by omega), hu_o (by omega), hu_o (by omega)]; exact (ti1_82 n).1
    · rw [hu_o (by omega), hu_o (by omega), hu_o (by omega)]; exact (ti1_82 n).2
theorem ti1_v : ∀ n c : Nat, c < n → ti1 n h 83 c = h 95 c ∧ ti1 n h 84 c = h 96 c ∧ ti1 n h 85 c = h 97 c
  | 0, c, hc => by omega
  | n + 1, c, hc => by
    rw [ti1_s, ti1_o 95 n (by omega) (by omega), ti1_o 96 n (by omega) (by omega), ti1_o 97 n (by omega) (by omega)]
    by_cases e : c = n
    · subst e
      refine ⟨?_, ?_, ?_⟩
      · rw [hu_o (by omega), hu_o (by omega)]; simp [hu]
      · rw [hu_o (by omega)]; simp [hu]
      · simp [hu]
    · have := ti1_v n c (by omega)
      rw [hu_o (by omega), hu_o (by omega), hu_o (by omega), hu_o (by omega), hu_o (by omega), hu_o (by omega), hu_o (by omega), hu_o (by omega), hu_o (by omega)]
      exact this
def tiB (h : AH) : AH := hu (hu (ti1 4 h) 82 5 (ti1 4 h 82 19)) 88 0 0
theorem ti2_o (a c : Nat) (z1 : a < 86 ∨ 88 < a ∨ (a = 88 ∧ (c = 0 ∨ 41 ≤ c))) : ∀ n : Nat, n ≤ 8 → ti2 n h a c = tiB h a c
  | 0, _ => rfl
  | n + 1, hn => by rw [ti2_s, hu_o (by omega), hu_o (by omega), hu_o (by omega), hu_o (by omega), hu_o (by omega), hu_o (by omega), hu_o (by omega), ti2_o a c z1 n (by omega)]
theorem ti2_v : ∀ n c : Nat, n ≤ 8 → c < n → ti2 n h 86 c = tiB h 90 c ∧ ti2 n h 87 c = tiB h 91 c ∧ ti2 n h 88 (1 + c) = tiB h 92 c ∧ ti2 n h 88 (9 + c) = tiB h 93 c ∧ ti2 n h 88 (17 + c) = tiB h 94 c ∧ ti2 n h 88 (25 + c) = 0 ∧ ti2 n h 88 (33 + c) = -1
  | 0, c, _, hc => by omega
  | n + 1, c, hn, hc => by
    rw [ti2_s, ti2_o 90 n (by omega) n (by omega), ti2_o 91 n (by omega) n (by omega), ti2_o 92 n (by omega) n (by omega), ti2_o 93 n (by omega) n (by omega), ti2_o 94 n (by omega) n (by omega)]
    by_cases e : c = n
    · subst e
      refine ⟨?_, ?_, ?_, ?_, ?_, ?_, ?_⟩
      · rw [hu_o (by omega), hu_o (by omega), hu_o (by omega), hu_o (by omega), hu_o (by omega), hu_o (by omega)]; simp [hu]
      · rw [hu_o (by omega), hu_o (by omega), hu_o (by omega), hu_o (by omega), hu_o (by omega)]; simp [hu]
      · rw [hu_o (by omega), hu_o (by omega), hu_o (by omega), hu_o (by omega)]; simp [hu]
      · rw [hu_o (by omega), hu_o (by omega), hu_o (by omega)]; simp [hu]
      · rw [hu_o (by omega), hu_o (by omega)]; simp [hu]
      · rw [hu_o (by omega)]; simp [hu]
      · simp [hu]
    · obtain ⟨q1, q2, q3, q4, q5, q6, q7⟩ := ti2_v n c (by omega) (by omega)
      refine ⟨?_, ?_, ?_, ?_, ?_, ?_, ?_⟩
      · rw [hu_o (by omega), hu_o (by omega), hu_o (by omega), hu_o (by omega), hu_o (by omega), hu_o (by omega), hu_o (by omega)]; exact q1
      · rw [hu_o (by omega), hu_o (by omega), hu_o (by omega), hu_o (by omega), hu_o (by omega), hu_o (by omega), hu_o (by omega)]; exact q2
      · rw [hu_o (by omega), hu_o (by omega), hu_o (by omega), hu_o (by omega), hu_o (by omega), hu_o (by omega), hu_o (by omega)]; exact q3
      · rw [hu_o (by omega), hu_o (by omega), hu_o (by omega), hu_o (by omega), hu_o (by omega), hu_o (by omega), hu_o (by omega)]; exact q4
      · rw [hu_o (by omega), hu_o (by omega), hu_o (by omega), hu_o (by omega), hu_o (by omega), hu_o (by omega), hu_o (by omega)]; exact q5
      · rw [hu_o (by omega), hu_o (by omega), hu_o (by omega), hu_o (by omega), hu_o (by omega), hu_o (by omega), hu_o (by omega)]; exact q6
      · rw [hu_o (by omega), hu_o (by omega), hu_o (by omega), hu_o (by omega), hu_o (by omega), hu_o (by omega), hu_o (by omega)]; exact q7
theorem tiB_o (a c : Nat) (z1 : a < 83 ∨ 85 < a) (z2 : a ≠ 82 ∨ (c ≠ 0 ∧ c ≠ 1 ∧ c ≠ 5)) (z3 : a ≠ 88 ∨ c ≠ 0) : tiB h a c = h a c := by
  unfold tiB; rw [hu_o z3, hu_o (by omega), ti1_o a c z1 (by omega)]
theorem tiB_5 : tiB h 82 5 = h 82 19 := by
  unfold tiB; rw [hu_o (by omega), ti1_o 82 19 (by omega) (by omega)]; simp [hu]
theorem tiB_01 : tiB h 82 0 = h 82 21 ∧ tiB h 82 1 = h 82 20 ∧ tiB h 88 0 = 0 := by
  refine ⟨?_, ?_, ?_⟩
  · unfold tiB; rw [hu_o (by omega), hu_o (by omega)]; exact (ti1_82 4).1
  · unfold tiB; rw [hu_o (by omega), hu_o (by omega)]; exact (ti1_82 4).2
  · unfold tiB; simp [hu]
theorem tiB_h (c : Nat) (hc : c < 4) : tiB h 83 c = h 95 c ∧ tiB h 84 c = h 96 c ∧ tiB h 85 c = h 97 c := by
  unfold tiB; rw [hu_o (by omega), hu_o (by omega), hu_o (by omega), hu_o (by omega), hu_o (by omega), hu_o (by omega)]; exact ti1_v 4 c hc
end L3CALK
