section L3CALC
variable {G : GD} {l : Launch} {d k : Nat} {h h' : AH}
theorem swX_at (tt kk : Nat) (y : AH) (j c : Nat) (hj : 8 ≤ j ∧ j ≤ 10) : swX tt kk y (tt + j) c = if c = kk then y (tt + j) (kk + 1) else y (tt + j) c := by
  unfold swX
  rcases (by omega : j = 8 ∨ j = 9 ∨ j = 10) with z | z | z <;> subst z
  · rw [hu_o (by omega), hu_o (by omega)]
    simp only [hu_ap, true_and]
  · rw [hu_o (by omega)]
    by_cases hc : c = kk
    · subst hc; rw [if_pos rfl]; simp only [hu_ap, true_and, if_true]
    · rw [hu_o (by omega), hu_o (by omega), if_neg hc]
  · by_cases hc : c = kk
    · subst hc; rw [if_pos rfl]; simp only [hu_ap, true_and, if_true]
    · rw [hu_o (by omega), hu_o (by omega), hu_o (by omega), if_neg hc]
theorem sw3_at (kk : Nat) (y : AH) (j c : Nat) (hj : 83 ≤ j ∧ j ≤ 85) : sw3 kk y j c = if c = kk then y j (kk + 1) else y j c := by
  unfold sw3
  rcases (by omega : j = 83 ∨ j = 84 ∨ j = 85) with z | z | z <;> subst z
  · rw [hu_o (by omega), hu_o (by omega)]
    simp only [hu_ap, true_and]
  · rw [hu_o (by omega)]
    by_cases hc : c = kk
    · subst hc; rw [if_pos rfl]; simp only [hu_ap, true_and, if_true]
    · rw [hu_o (by omega), hu_o (by omega), if_neg hc]
  · by_cases hc : c = kk
    · subst hc; rw [if_pos rfl]; simp only [hu_ap, true_and, if_true]
    · rw [hu_o (by omega), hu_o (by omega), hu_o (by omega), if_neg hc]
theorem swX_v (tt i : Nat) (j : Nat) (hj : 8 ≤ j ∧ j ≤ 10) : ∀ (n : Nat) (h : AH) (c : Nat), forN (fun m => swX tt (i + m)) n h (tt + j) c = if i ≤ c ∧ c < i + n then h (tt + j) (c + 1) else h (tt + j) c
  | 0, h, c => by rw [if_neg (by omega)]; rfl
  | n + 1, h, c => by
    have e0 : forN (fun m => swX tt (i + m)) (n + 1) h = swX tt (i + n) (forN (fun m => swX tt (i + m)) n h) := rfl
    rw [e0, swX_at _ _ _ _ _ hj, swX_v tt i j hj n h, swX_v tt i j hj n h]
    by_cases hc : c = i + n
    · subst hc
      rw [if_pos rfl, if_neg (by omega), if_pos (by omega)]
    · rw [if_neg hc]
      by_cases h2 : i ≤ c ∧ c < i + n
      · rw [if_pos h2, if_pos (by omega)]
      · rw [if_neg h2, if_neg (by omega)]
theorem sw3_v (i : Nat) (j : Nat) (hj : 83 ≤ j ∧ j ≤ 85) : ∀ (n : Nat) (h : AH) (c : Nat), forN (fun m => sw3 (i + m)) n h j c = if i ≤ c ∧ c < i + n then h j (c + 1) else h j c
  | 0, h, c => by rw [if_neg (by omega)]; rfl
  | n + 1, h, c => by
    have e0 : forN (fun m => sw3 (i + m)) (n + 1) h = sw3 (i + n) (forN (fun m => sw3 (i + m)) n h) := rfl
    rw [e0, sw3_at _ _ _ _ hj, sw3_v i j hj n h, sw3_v i j hj n h]
    by_cases hc : c = i + n
    · subst hc
      rw [if_pos rfl, if_neg (by omega), if_pos (by omega)]
    · rw [if_neg hc]
      by_cases h2 : i ≤ c ∧ c < i + n
      · rw [if_pos h2, if_pos (by omega)]
      · rw [if_neg h2, if_neg (by omega)]
/-- the hats are changed on both sides -/
theorem B6_h (hb : B6 h h 1) (e : ∀ a c, (1 ≤ a ∧ a ≤ 8 ∧ (a = 1 → c < 14 ∧ c ≠ 8)) ∨ (a = 82 ∧ c ≤ 5 ∧ c ≠ 1) ∨ (86 ≤ a ∧ a ≤ 88) → h' a c = h a c) (n0 : h' 1 8 = h' 82 1 ∧ (0 ≤ h' 82 1 ∧ h' 82 1 ≤ 4)) (n1 : ∀ c : Nat, (c : Int) < h' 82 1 → (h' 9 c = h' 83 c ∧ h' 10 c = h' 84 c ∧ h' 11 c = h' 85 c) ∧ HG h' c) : B6 h' h' 1 := by
  obtain ⟨⟨s1, s2, s3⟩, a2, a3, a4, m1, m2, m3, m4, m5, m6⟩ := hb
  have k0 := e 82 0 (by omega)
  have k5 := e 82 5 (by omega)
  have l0 := e 88 0 (by omega)
  refine ⟨⟨by rw [e _ _ (by omega), k5]; exact s1, n0.1, by rw [e _ _ (by omega), k0]; exact s3⟩, by rw [e _ _ (by omega), l0]; exact a2, fun c hc => ?_, fun c hc => ⟨(n1 c hc).1, (n1 c hc).2.1⟩, by rw [k5]; exact m1, n0.2, by rw [k0]; exact m3, by rw [l0]; exact m4, fun c hc => ?_, fun c hc => (n1 c hc).2⟩
  · rw [k5] at hc
    have := a3 c hc
    rw [e _ _ (by omega), e _ _ (by omega), e _ _ (by omega), e _ _ (by omega), e _ _ (by omega), e _ _ (by omega), e _ _ (by omega), e _ _ (by omega), e _ _ (by omega), e _ _ (by omega), e _ _ (by omega), e _ _ (by omega), e _ _ (by omega), e _ _ (by omega)]
    exact this
  · rw [k5] at hc
    have := m5 c hc
    unfold PG MH at *
    rw [e 86 _ (by omega), e 87 _ (by omega), e 88 _ (by omega), e 88 _ (by omega), e 88 _ (by omega), e 88 _ (by omega), e 88 _ (by omega)]
    exact this
theorem c_hat {f a n : Int} (i : INV k h) (hd : 9 ≤ d) : Ok G l d k 57 139 [vI f, vI a, vI n] h := by
  obtain ⟨n1, n2, n3, n4, n5, n6⟩ := INV_n i
  have c := s_hat (G := G) (l := l) (d := d) (h := h) (f := f) (a := a) (n := n) (by omega) (by omega)
  by_cases hv : (0 ≤ f ∧ f ≤ 8) ∧ (0 ≤ a ∧ a ≤ 99) ∧ (1 ≤ n ∧ n ≤ 30)
  · by_cases h4 : h 1 8 < 4
    · rw [if_pos hv, if_pos h4, if_pos ⟨hv, h4⟩] at c
      obtain ⟨nn, hn⟩ : ∃ nn : Nat, h 82 1 = (nn : Int) := ⟨(h 82 1).toNat, by omega⟩
      have e1 : addHatX h 1 f a n = hu (hu (hu (hu h 9 nn f) 10 nn a) 11 nn n) 1 8 ((nn + 1 : Nat) : Int) := by
        unfold addHatX
        rw [if_pos h4, n5, hn, Int.toNat_natCast]; rfl
      rw [e1] at c
      have q : ∀ x c, 82 ≤ x → hu (hu (hu (hu h 9 nn f) 10 nn a) 11 nn n) 1 8 ((nn + 1 : Nat) : Int) x c = h x c := fun x c hx => by rw [hu_o (by omega), hu_o (by omega), hu_o (by omega), hu_o (by omega)]
      have m := m_hat (G := G) (l := l) (d := d) (h := hu (hu (hu (hu h 9 nn f) 10 nn a) 11 nn n) 1 8 ((nn + 1 : Nat) : Int)) (f := f) (a := a) (n := n) (by rw [q _ _ (by omega)]; exact n6) (by omega)
      rw [if_pos hv, if_neg (by rw [q _ _ (by omega)]; omega), if_pos ⟨hv.1, hv.2.1, hv.2.2, by rw [q _ _ (by omega)]; omega⟩] at m
      refine ok_ex c m (by rw [q _ _ (by omega)]; omega) ?_
      have e2 : addHatM (hu (hu (hu (hu h 9 nn f) 10 nn a) 11 nn n) 1 8 ((nn + 1 : Nat) : Int)) f a n = hu (hu (hu (hu (hu (hu (hu (hu h 9 nn f) 10 nn a) 11 nn n) 1 8 ((nn + 1 : Nat) : Int)) 83 nn f) 84 nn a) 85 nn n) 82 1 ((nn + 1 : Nat) : Int) := by
        unfold addHatM
        rw [q 82 1 (by omega), hn, Int.toNat_natCast]; rfl
      rw [e2]
      clear e1 e2 m c
      have o : ∀ x c, (c ≠ nn ∨ (x ≠ 9 ∧ x ≠ 10 ∧ x ≠ 11 ∧ x ≠ 83 ∧ x ≠ 84 ∧ x ≠ 85)) → (x ≠ 1 ∨ c ≠ 8) → (x ≠ 82 ∨ c ≠ 1) → hu (hu (hu (hu (hu (hu (hu (hu h 9 nn f) 10 nn a) 11 nn n) 1 8 ((nn + 1 : Nat) : Int)) 83 nn f) 84 nn a) 85 nn n) 82 1 ((nn + 1 : Nat) : Int) x c = h x c := fun x c z1 z2 z3 => by rw [hu_o (by omega), hu_o (by omega), hu_o (by omega), hu_o (by omega), hu_o (by omega), hu_o (by omega), hu_o (by omega), hu_o (by omega)]
      have v1 : hu (hu (hu (hu (hu (hu (hu (hu h 9 nn f) 10 nn a) 11 nn n) 1 8 ((nn + 1 : Nat) : Int)) 83 nn f) 84 nn a) 85 nn n) 82 1 ((nn + 1 : Nat) : Int) 82 1 = ((nn + 1 : Nat) : Int) := by simp [hu]
      refine INV_U i (B6_h (BB_B6 i.1) (fun x c z => o x c (by omega) (by omega) (by omega)) ⟨by rw [v1]; simp [hu], by rw [v1]; omega⟩ (fun c hc => ?_)) (by rw [o _ _ (by omega) (by omega) (by omega), o _ _ (by omega) (by omega) (by omega)]; exact i.2.2.2.1) (fun x c z => o x c (by omega) (by omega) (by omega))
      rw [v1] at hc
      by_cases hcn : c = nn
      · subst hcn
        unfold HG
        simp [hu]
        omega
      · obtain ⟨-, -, -, a4, -, -, -, -, -, m6⟩ := BB_B6 i.1
        have x1 := a4 c (by omega)
        have x2 := m6 c (by omega)
        unfold HG at *
        rw [o _ _ (by omega) (by omega) (by omega), o _ _ (by omega) (by omega) (by omega), o _ _ (by omega) (by omega) (by omega), o _ _ (by omega) (by omega) (by omega), o _ _ (by omega) (by omega) (by omega), o _ _ (by omega) (by omega) (by omega)]
        exact ⟨x1.1, x2⟩
    · rw [if_pos hv, if_neg h4, if_neg (fun z => h4 z.2)] at c
      have m := m_hat (G := G) (l := l) (d := d) (h := h) (f := f) (a := a) (n := n) n6 (by omega)
      rw [if_pos hv, if_pos (by omega), if_neg (by omega)] at m
      exact ok_ex c m rfl (INV_k i)
  · rw [if_neg hv, if_neg (fun z => hv z.1)] at c
    have m := m_hat (G := G) (l := l) (d := d) (h := h) (f := f) (a := a) (n := n) n6 (by omega)
    rw [if_neg hv, if_neg (fun z => hv ⟨z.1, z.2.1, z.2.2.1⟩)] at m
    exact ok_ex c m rfl (INV_k i)
theorem c_sweep {v : Int} (i : INV k h) (hd : 9 ≤ d) : Ok G l d k 58 140 [vI v] h := by
  obtain ⟨n1, n2, n3, n4, n5, n6⟩ := INV_n i
  by_cases hp : 0 ≤ v ∧ v ≤ h 1 8 - 1
  · obtain ⟨kk, rfl⟩ : ∃ kk : Nat, v = (kk : Int) := ⟨v.toNat, by omega⟩
    obtain ⟨nn, hn⟩ : ∃ nn : Nat, h 82 1 = ((nn + 1 : Nat) : Int) := ⟨(h 82 1).toNat - 1, by omega⟩
    have xo : ∀ x c, (x < 9 ∨ 11 < x) → (x ≠ 1 ∨ c ≠ 8) → sweepX h 1 kk x c = h x c := fun x c z1 z2 => by
      unfold sweepX
      rw [forN_o (P := fun a => a < 9 ∨ 11 < a) (fun m y a b za => swX_o 1 (kk + m) y a b (by omega)) _ _ _ _ z1, hu_o z2]
    have x8 : sweepX h 1 kk 1 8 = (nn : Int) := by rw [sweepX_8]; omega
    have xv : ∀ j c, 9 ≤ j → j ≤ 11 → sweepX h 1 kk j c = if kk ≤ c ∧ c < kk + (nn - kk) then h j (c + 1) else h j c := fun j c z1 z2 => by
      unfold sweepX
      have := swX_v 1 kk (j - 1) (by omega) ((h 1 8 - 1).toNat - kk) (hu h 1 8 (h 1 8 - 1)) c
      rw [show 1 + (j - 1) = j by omega, hu_o (by omega), hu_o (by omega), show (h 1 8 - 1).toNat = nn by omega] at this
      rw [show (h 1 8 - 1).toNat = nn by omega]
      exact this
    have m := m_sweepI (G := G) (l := l) (d := d) (h := sweepX h 1 kk) (kk := kk) (by rw [xo _ _ (by omega) (by omega)]; exact n6) (by rw [xo _ _ (by omega) (by omega)]; omega) (by omega)
    refine ok_ex (s_sweepI (by omega) hp.2 (by omega)) m (by rw [xo _ _ (by omega) (by omega)]; omega) ?_
    generalize hy : sweepX h 1 kk = y at *
    have y1 : y 82 1 = ((nn + 1 : Nat) : Int) := by rw [xo _ _ (by omega) (by omega)]; exact hn
    have mo : ∀ x c, (x < 83 ∨ 85 < x) → (x ≠ 82 ∨ c ≠ 1) → sweepM y kk x c = y x c := fun x c z1 z2 => by
      unfold sweepM
      rw [forN_o (P := fun a => a < 83 ∨ 85 < a) (fun m y a b za => sw3_o (kk + m) y a b za) _ _ _ _ z1, hu_o z2]
    have m1 : sweepM y kk 82 1 = (nn : Int) := by
      unfold sweepM
      rw [forN_o (P := fun a => a < 83 ∨ 85 < a) (fun m y a b za => sw3_o (kk + m) y a b za) _ _ _ _ (by omega)]
      simp only [hu_ap, true_and, if_true]
      omega
    have mv : ∀ j c, 83 ≤ j → j ≤ 85 → sweepM y kk j c = if kk ≤ c ∧ c < kk + (nn - kk) then h j (c + 1) else h j c := fun j c z1 z2 => by
      unfold sweepM
      have := sw3_v kk j ⟨z1, z2⟩ ((y 82 1 - 1).toNat - kk) (hu y 82 1 (y 82 1 - 1)) c
      rw [hu_o (by omega), hu_o (by omega), show (y 82 1 - 1).toNat = nn by omega, xo j _ (by omega) (by omega), xo j _ (by omega) (by omega)] at this
      rw [show (y 82 1 - 1).toNat = nn by omega]
      exact this
    have o : ∀ x c, (x < 9 ∨ 11 < x) → (x < 83 ∨ 85 < x) → (x ≠ 1 ∨ c ≠ 8) → (x ≠ 82 ∨ c ≠ 1) → sweepM y kk x c = h x c := fun x c z1 z2 z3 z4 => by rw [mo x c z2 z4, xo x c z1 z3]
    refine INV_U i (B6_h (BB_B6 i.1) (fun x c z => o x c (by omega) (by omega) (by omega) (by omega)) ⟨by rw [m1, mo _ _ (by omega) (by omega), x8], by rw [m1]; omega⟩ (fun c hc => ?_)) (by rw [o _ _ (by omega) (by omega) (by omega) (by omega), o _ _ (by omega) (by omega) (by omega) (by omega)]; exact i.2.2.2.1) (fun x c z => o x c (by omega) (by omega) (by omega) (by omega))
    rw [m1] at hc
    obtain ⟨-, -, -, a4, -, -, -, -, -, m6⟩ := BB_B6 i.1
    have p1 := a4 c (by omega)
    have p2 := m6 c (by omega)
    have p3 := a4 (c + 1) (by omega)
    have p4 := m6 (c + 1) (by omega)
    unfold HG at *
    rw [mo 9 c (by omega) (by omega), mo 10 c (by omega) (by omega), mo 11 c (by omega) (by omega), xv 9 c (by omega) (by omega), xv 10 c (by omega) (by omega), xv 11 c (by omega) (by omega), mv 83 c (by omega) (by omega), mv 84 c (by omega) (by omega), mv 85 c (by omega) (by omega)]
    by_cases hcc : kk ≤ c ∧ c < kk + (nn - kk)
    · simp only [if_pos hcc]; exact ⟨p3.1, p4⟩
    · simp only [if_neg hcc]; exact ⟨p1.1, p2⟩
  · exact ok_ex (s_sweepO (by omega) hp (by omega)) (m_sweepO n6 (by omega) (by omega)) rfl (INV_k i)
end L3CALC
