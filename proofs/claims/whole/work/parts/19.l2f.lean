section L2F
variable {G : GD} {l : Launch} {d : Nat} {h : AH}
theorem entH_g {h : AH} {tt pp : Nat} (ht : isT tt) (a c : Nat) (ha : a = tt + 3 ∨ a = tt + 6) : entH h tt pp a c = h a c := entH_o h tt pp a c (by have := isT_lt ht; omega)
theorem stepX_g {h : AH} {tt pp a c : Nat} (hc : c ≠ pp) : stepX h tt pp a c = h a c := by
  unfold stepX; split <;> simp only [hu_ap] <;> (repeat rw [if_neg (by omega)])
theorem goL_g {tt pp : Nat} (ht : isT tt) (a c : Nat) (ha : a ≠ 39 ∧ a ≠ 40 ∧ a ≠ 41) (hc : c ≠ pp) : ∀ (k : Nat) (h : AH), (goL tt pp k h).2 a c = h a c
  | 0, _ => rfl
  | k + 1, h => by
    unfold goL
    split
    · show (goL tt pp k (stepX (entH h tt pp) tt pp)).2 a c = h a c
      rw [goL_g ht a c ha hc k, stepX_g hc, entH_o _ _ _ _ _ ha]
    · rfl
theorem goL_I {tt pp : Nat} (ht : isT tt) : ∀ (k : Nat) (h : AH), goI h tt pp → goI (goL tt pp k h).2 tt pp
  | 0, _, hi => hi
  | k + 1, h, hi => by
    unfold goL
    split
    · next q =>
      have hl := isT_lt ht
      have j1 := goI_ent ht hi (entB_t.mp q.2)
      exact goL_I ht k _ (goI_step ht j1 (by rw [entH_o _ _ _ _ _ (by omega), entH_o _ _ _ _ _ (by omega)]; exact q.1))
    · exact hi
theorem goE_o (h : AH) (tt pp a c : Nat) (ha : a ≠ tt + 7 ∧ a ≠ 34) : goE h tt pp a c = h a c := by
  unfold goE; split
  · simp only [hu_ap]; rw [if_neg (by omega), if_neg (by omega)]
  · rfl
/-- what stays over a walk -/
theorem goX_o {h : AH} {tt pp : Nat} (ht : isT tt) (a c : Nat) (ha : a ≠ 39 ∧ a ≠ 40 ∧ a ≠ 41 ∧ a ≠ 38 ∧ a ≠ 34 ∧ a ≠ tt + 3 ∧ a ≠ tt + 6 ∧ a ≠ tt + 7) : goX h tt pp a c = h a c := by
  unfold goX
  split
  · exact goE_o _ _ _ _ _ (by omega)
  · rw [goE_o _ _ _ _ _ (by omega), goW_o _ _ _ _ (by omega), goL_o _ _ _ _ (by omega)]
theorem goX_p {h : AH} {tt pp : Nat} (ht : isT tt) (a c : Nat) (ha : a ≠ 39 ∧ a ≠ 40 ∧ a ≠ 41 ∧ a ≠ 34) (hc : c ≠ pp) : goX h tt pp a c = h a c := by
  have hl := isT_lt ht
  have e1 : ∀ x : AH, goE x tt pp a c = x a c := fun x => by
    unfold goE; split
    · simp only [hu_ap]; rw [if_neg (by omega), if_neg (by omega)]
    · rfl
  have e2 : ∀ r : Nat × AH, goW r pp a c = r.2 a c := fun r => by
    unfold goW; split
    · simp only [hu_ap]; rw [if_neg (by omega)]
    · rfl
  unfold goX
  split
  · exact e1 _
  · rw [e1, e2, goL_g ht a c ⟨ha.1, ha.2.1, ha.2.2.1⟩ hc]
theorem goI_cell {h h' : AH} {tt pp : Nat} (hi : goI h tt pp) (e : ∀ a c, (a = tt + 3 ∨ a = tt + 4 ∨ a = 39 ∨ a = 40 ∨ a = 37 ∨ a = tt) → h' a c = h a c) : goI h' tt pp := by
  obtain ⟨h1, h2, h3, h4, h5, h6⟩ := hi
  refine ⟨?_, ?_, fun j => ?_, fun j => ?_, ?_, ?_⟩ <;> rw [e _ _ (by omega)] <;> first | assumption | exact h3 j | exact h4 j
theorem goX_I {h : AH} {tt pp : Nat} (ht : isT tt) (hi : goI h tt pp) : goI (goX h tt pp) tt pp := by
  have hl := isT_lt ht
  unfold goX
  split
  · exact goI_cell hi (fun a c ha => goE_o _ _ _ _ _ (by omega))
  · exact goI_cell (goL_I ht _ _ hi) (fun a c ha => by rw [goE_o _ _ _ _ _ (by omega), goW_o _ _ _ _ (by omega)])
/-- what a minute of a tower needs, and keeps; ww: how far the counters may have come -/
def PI (h : AH) (tt : Nat) (ww : Int) : Prop := (0 ≤ h tt 0 ∧ h tt 0 ≤ 8) ∧ (∀ j : Nat, (j : Int) < h tt 0 → 0 ≤ h 35 j ∧ h 35 j < h tt 0) ∧ (∀ j : Nat, (j : Int) < h tt 0 → goI h tt j) ∧ (∀ j : Nat, (j : Int) < h tt 0 → 0 ≤ h 38 j ∧ h 38 j ≤ ww) ∧ (-ww ≤ h 34 8 ∧ h 34 8 ≤ ww) ∧ hatsX h tt ∧ (0 ≤ h tt 13 ∧ h tt 13 ≤ 120)
theorem goX_w {h : AH} {tt pp : Nat} (ht : isT tt) (j : Nat) : goX h tt pp 38 j = h 38 j ∨ goX h tt pp 38 j = h 38 j + 1 := by
  have hl := isT_lt ht
  unfold goX
  split
  · exact Or.inl (goE_o _ _ _ _ _ (by omega))
  · rw [goE_o _ _ _ _ _ (by omega)]
    unfold goW
    split
    · simp only [hu_ap, goL_o _ _ _ _ (show 38 ≠ 39 ∧ 38 ≠ 40 ∧ 38 ≠ 41 ∧ 38 ≠ tt + 3 ∧ 38 ≠ tt + 6 by omega)]
      split
      · next q => rw [q.2]; exact Or.inr rfl
      · exact Or.inl rfl
    · exact Or.inl (goL_o _ _ _ _ (by omega) _ _)
theorem goX_y {h : AH} {tt pp : Nat} (ht : isT tt) : goX h tt pp 34 8 = h 34 8 ∨ goX h tt pp 34 8 = h 34 8 - 1 := by
  have hl := isT_lt ht
  have key : ∀ x : AH, x 34 8 = h 34 8 → goE x tt pp 34 8 = h 34 8 ∨ goE x tt pp 34 8 = h 34 8 - 1 := fun x hx => by
    unfold goE
    split
    · right; simp [hu, hx]
    · left; exact hx
  unfold goX
  split
  · exact key _ rfl
  · exact key _ (by rw [goW_o _ _ _ _ (by omega), goL_o _ _ _ _ (by omega)])
theorem PI_go {h : AH} {tt pp : Nat} {ww : Int} (ht : isT tt) (hp : (pp : Int) < h tt 0) (hi : PI h tt ww) : PI (goX h tt pp) tt (ww + 1) := by
  have hl := isT_lt ht
  obtain ⟨h1, h2, h3, h4, h5, h6, h7⟩ := hi
  have o1 : ∀ c, goX h tt pp tt c = h tt c := fun c => goX_o ht _ _ (by omega)
  have o2 : ∀ c, goX h tt pp 35 c = h 35 c := fun c => goX_o ht _ _ (by omega)
  have o4 := goX_I ht (h3 pp hp)
  refine ⟨by rw [o1]; exact h1, fun j hj => ?_, fun j hj => ?_, fun j hj => ?_, ?_, ?_, by rw [o1]; exact h7⟩
  · rw [o1] at hj ⊢; rw [o2]; exact h2 j hj
  · rw [o1] at hj
    by_cases e : j = pp
    · subst e; exact o4
    · obtain ⟨g1, g2, g3, g4, g5, g6⟩ := h3 j hj
      obtain ⟨k1, k2, k3, k4, k5, k6⟩ := o4
      refine ⟨?_, ?_, k3, k4, ?_, k6⟩
      · rw [goX_p ht _ _ (by omega) e]; exact g1
      · rw [goX_p ht _ _ (by omega) e]; exact g2
      · rw [goX_p ht _ _ (by omega) e]; exact g5
  · rw [o1] at hj
    have := h4 j hj
    rcases goX_w (h := h) (pp := pp) ht j with q | q <;> rw [q] <;> omega
  · rcases goX_y (h := h) (pp := pp) ht with q | q <;> rw [q] <;> omega
  · obtain ⟨a1, a2⟩ := h6
    refine ⟨by rw [o1]; exact a1, fun j hj => ?_⟩
    rw [o1] at hj
    rw [goX_o ht _ _ (by omega), goX_o ht _ _ (by omega)]
    exact a2 j hj
def passI (tt jj : Nat) (h : AH) : AH := if h (tt + 7) (h 35 jj).toNat = -9 ∧ h (tt + 5) (h 35 jj).toNat ≤ h tt 13 then goX h tt (h 35 jj).toNat else h
def zero9 : AH → AH := forN (fun f h => hu (hu h 39 f 0) 40 f 0) 9
def passX (h : AH) (tt : Nat) : AH := 
  let h2 := forN (passI tt) (h tt 0).toNat (zero9 (hu h 34 7 (clX h tt (h tt 13) (h tt 8).toNat)))
  hu h2 tt 13 (h tt 13 + 1)
theorem PI_mono {h : AH} {tt : Nat} {ww vv : Int} (hv : ww ≤ vv) (hi : PI h tt ww) : PI h tt vv := by
  obtain ⟨h1, h2, h3, h4, h5, h6, h7⟩ := hi
  exact ⟨h1, h2, h3, fun j hj => by have := h4 j hj; omega, by omega, h6, h7⟩
theorem PI_passI {h : AH} {tt jj : Nat} {ww : Int} (ht : isT tt) (hj : (jj : Int) < h tt 0) (hi : PI h tt ww) : PI (passI tt jj h) tt (ww + 1) := by
  unfold passI
  split
  · obtain ⟨q1, q2⟩ := hi.2.1 jj hj
    exact PI_go ht (by omega) hi
  · exact PI_mono (by omega) hi
theorem passI_o {h : AH} {tt jj : Nat} (ht : isT tt) (a c : Nat) (ha : a ≠ 39 ∧ a ≠ 40 ∧ a ≠ 41 ∧ a ≠ 38 ∧ a ≠ 34 ∧ a ≠ tt + 3 ∧ a ≠ tt + 6 ∧ a ≠ tt + 7) : passI tt jj h a c = h a c := by
  unfold passI; split
  · exact goX_o ht a c ha
  · rfl
theorem PI_pass {h : AH} {tt : Nat} {ww : Int} (ht : isT tt) (hi : PI h tt ww) : ∀ n : Nat, (n : Int) ≤ h tt 0 → PI (forN (passI tt) n h) tt (ww + n) ∧ forN (passI tt) n h tt 0 = h tt 0 ∧ forN (passI tt) n h tt 13 = h tt 13
  | 0, _ => ⟨by simpa [forN] using hi, rfl, rfl⟩
  | n + 1, hn => by
    have hl := isT_lt ht
    obtain ⟨a1, a2, a3⟩ := PI_pass ht hi n (by omega)
    refine ⟨?_, ?_, ?_⟩
    · have := PI_passI ht (jj := n) (by rw [a2]; omega) a1
      rw [show ww + ((n + 1 : Nat) : Int) = ww + n + 1 by omega]
      exact this
    · show passI tt n _ tt 0 = _; rw [passI_o ht _ _ (by omega)]; exact a2
    · show passI tt n _ tt 13 = _; rw [passI_o ht _ _ (by omega)]; exact a3
theorem zero9_o (h : AH) (a c : Nat) (ha : a ≠ 39 ∧ a ≠ 40) : zero9 h a c = h a c := forN_o (P := fun a => a ≠ 39 ∧ a ≠ 40) (fun n h a b q => by simp only [hu_ap]; rw [if_neg (by omega), if_neg (by omega)]) 9 h a c ha
theorem PI_z {h : AH} {tt : Nat} {ww vv : Int} (ht : isT tt) (hi : PI h tt ww) : ∀ n : Nat, PI (forN (fun f h => hu (hu h 39 f 0) 40 f 0) n (hu h 34 7 vv)) tt ww
  | 0 => by
    have hl := isT_lt ht
    have o : ∀ a c, a ≠ 34 ∨ c ≠ 7 → hu h 34 7 vv a c = h a c := fun a c q => by simp only [hu_ap]; rw [if_neg (by omega)]
    obtain ⟨h1, h2, h3, h4, h5, h6, h7⟩ := hi
    refine ⟨by show _ ∧ _; rw [show forN (fun f h => hu (hu h 39 f 0) 40 f 0) 0 (hu h 34 7 vv) = hu h 34 7 vv from rfl, o _ _ (by omega)]; exact h1, fun j hj => ?_, fun j hj => ?_, fun j hj => ?_, ?_, ?_, ?_⟩
    · have hj : (j : Int) < hu h 34 7 vv tt 0 := hj
      rw [o _ _ (by omega)] at hj
      show 0 ≤ hu h 34 7 vv 35 j ∧ hu h 34 7 vv 35 j < hu h 34 7 vv tt 0
      rw [o _ _ (by omega), o _ _ (by omega)]
      exact h2 j hj
    · have hj : (j : Int) < hu h 34 7 vv tt 0 := hj
      rw [o _ _ (by omega)] at hj
      exact goI_cell (h3 j hj) (fun a c ha => o a c (by omega))
    · have hj : (j : Int) < hu h 34 7 vv tt 0 := hj
      rw [o _ _ (by omega)] at hj
      show 0 ≤ hu h 34 7 vv 38 j ∧ _
      rw [show forN (fun f h => hu (hu h 39 f 0) 40 f 0) 0 (hu h 34 7 vv) = hu h 34 7 vv from rfl, o _ _ (by omega)]
      exact h4 j hj
    · show -ww ≤ hu h 34 7 vv 34 8 ∧ hu h 34 7 vv 34 8 ≤ ww
      rw [o _ _ (by omega)]; exact h5
    · obtain ⟨a1, a2⟩ := h6
      refine ⟨by show 0 ≤ hu h 34 7 vv tt 8 ∧ hu h 34 7 vv tt 8 ≤ 4; rw [o _ _ (by omega)]; exact a1, fun j hj => ?_⟩
      have hj : (j : Int) < hu h 34 7 vv tt 8 := hj
      rw [o _ _ (by omega)] at hj
      show (0 ≤ hu h 34 7 vv (tt + 9) j ∧ _) ∧ (0 ≤ hu h 34 7 vv (tt + 10) j ∧ _)
      rw [show forN (fun f h => hu (hu h 39 f 0) 40 f 0) 0 (hu h 34 7 vv) = hu h 34 7 vv from rfl, o _ _ (by omega), o _ _ (by omega)]
      exact a2 j hj
    · show 0 ≤ hu h 34 7 vv tt 13 ∧ hu h 34 7 vv tt 13 ≤ 120
      rw [o _ _ (by omega)]; exact h7
  | n + 1 => by
    have hl := isT_lt ht
    have ih := PI_z (vv := vv) ht hi n
    generalize forN (fun f h => hu (hu h 39 f 0) 40 f 0) n (hu h 34 7 vv) = x at ih
    have o : ∀ a c, a ≠ 39 ∧ a ≠ 40 → hu (hu x 39 n 0) 40 n 0 a c = x a c := fun a c q => by simp only [hu_ap]; rw [if_neg (by omega), if_neg (by omega)]
    have e0 : forN (fun f h => hu (hu h 39 f 0) 40 f 0) (n + 1) (hu h 34 7 vv) = hu (hu (forN (fun f h => hu (hu h 39 f 0) 40 f 0) n (hu h 34 7 vv)) 39 n 0) 40 n 0 := rfl
    obtain ⟨h1, h2, h3, h4, h5, h6, h7⟩ := PI_z (vv := vv) ht hi n
    rw [e0]
    generalize forN (fun f h => hu (hu h 39 f 0) 40 f 0) n (hu h 34 7 vv) = y at h1 h2 h3 h4 h5 h6 h7
    have o : ∀ a c, a ≠ 39 ∧ a ≠ 40 → hu (hu y 39 n 0) 40 n 0 a c = y a c := fun a c q => by simp only [hu_ap]; rw [if_neg (by omega), if_neg (by omega)]
    refine ⟨by rw [o _ _ (by omega)]; exact h1, fun j hj => ?_, fun j hj => ?_, fun j hj => by rw [o _ _ (by omega)] at hj ⊢; exact h4 j hj, by rw [o _ _ (by omega)]; exact h5, ⟨by rw [o _ _ (by omega)]; exact h6.1, fun j hj => ?_⟩, by rw [o _ _ (by omega)]; exact h7⟩
    · rw [o _ _ (by omega)] at hj ⊢; rw [o _ _ (by omega)]; exact h2 j hj
    · rw [o _ _ (by omega)] at hj
      obtain ⟨g1, g2, g3, g4, g5, g6⟩ := h3 j hj
      refine ⟨by rw [o _ _ (by omega)]; exact g1, by rw [o _ _ (by omega)]; exact g2, fun k => ?_, fun k => ?_, by rw [o _ _ (by omega)]; exact g5, by rw [o _ _ (by omega)]; exact g6⟩
      · have := g3 k; simp only [hu_ap]; (repeat' split) <;> omega
      · have := g4 k; simp only [hu_ap]; (repeat' split) <;> omega
    · rw [o _ _ (by omega)] at hj; rw [o _ _ (by omega), o _ _ (by omega)]; exact h6.2 j hj
end L2F
