section L3D
variable {h g : AH} {fl : Prop} {tt aa : Nat}
/-- who goes ahead of whom -/
def kl (g : AH) (a b : Nat) : Prop := rkM g a < rkM g b ∨ (rkM g a = rkM g b ∧ a < b)
theorem uniqL : ∀ (l1 l2 : List Nat), l1.Pairwise (kl g) → l2.Pairwise (kl g) → (∀ x, x ∈ l1 ↔ x ∈ l2) → l1 = l2
  | [], [], _, _, _ => rfl
  | [], b :: l2, _, _, hm => by have := (hm b).mpr (by simp); simp at this
  | a :: l1, [], _, _, hm => by have := (hm a).mp (by simp); simp at this
  | a :: l1, b :: l2, p1, p2, hm => by
    rw [List.pairwise_cons] at p1 p2
    have e : a = b := by
      have m1 := (hm a).mp (by simp)
      have m2 := (hm b).mpr (by simp)
      simp only [List.mem_cons] at m1 m2
      rcases m1 with m1 | m1
      · exact m1
      · rcases m2 with m2 | m2
        · exact m2.symm
        · have r1 := p1.1 b m2
          have r2 := p2.1 a m1
          unfold kl at r1 r2
          omega
    subst e
    have nr : ¬ kl g a a := by unfold kl; omega
    rw [uniqL l1 l2 p1.2 p2.2 (fun x => ⟨fun hx => by
      have := (hm x).mp (by simp [hx])
      simp only [List.mem_cons] at this
      rcases this with q | q
      · subst q; exact absurd (p1.1 x hx) nr
      · exact q, fun hx => by
      have := (hm x).mpr (by simp [hx])
      simp only [List.mem_cons] at this
      rcases this with q | q
      · subst q; exact absurd (p2.1 x hx) nr
      · exact q⟩)]
theorem flatL_sorted (n : Nat) : (flatL g n).Pairwise (kl g) := by
  unfold flatL
  rw [List.pairwise_flatMap]
  refine ⟨fun r _ => ?_, ?_⟩
  · unfold rowL
    have h1 := (List.pairwise_lt_range (n := n)).filter (fun p => decide (rkM g p = (r : Int)))
    refine h1.imp_of_mem (fun {a b} ha hb hab => ?_)
    simp only [List.mem_filter, decide_eq_true_eq] at ha hb
    exact Or.inr ⟨by rw [ha.2, hb.2], hab⟩
  · refine (List.pairwise_lt_range (n := 15)).imp (fun {a b} hab x hx y hy => ?_)
    unfold rowL at hx hy
    simp only [List.mem_filter, decide_eq_true_eq] at hx hy
    left; omega
theorem flatL_all {n : Nat} (hr : ∀ p, p < n → 0 ≤ rkM g p ∧ rkM g p ≤ 14) (x : Nat) : x ∈ flatL g n ↔ x < n := by
  refine ⟨flatL_mem, fun hx => ?_⟩
  unfold flatL rowL
  simp only [List.mem_flatMap, List.mem_filter, List.mem_range, decide_eq_true_eq]
  have := hr x hx
  exact ⟨(rkM g x).toNat, by omega, hx, by omega⟩
/-- the order so far, by places -/
def SO (h g : AH) (n : Nat) : Prop := (∀ j : Nat, j < n → 0 ≤ h 35 j ∧ (h 35 j).toNat < n) ∧ (∀ i j : Nat, i < j → j < n → kl g (h 35 i).toNat (h 35 j).toNat) ∧ (∀ p : Nat, p < n → ∃ j, j < n ∧ (h 35 j).toNat = p)
theorem SO_ord {n : Nat} (hs : SO h g n) (hr : ∀ p, p < n → 0 ≤ rkM g p ∧ rkM g p ≤ 14) : OrdOK h g n := by
  obtain ⟨s1, s2, s3⟩ := hs
  refine uniqL (g := g) _ _ ?_ (flatL_sorted n) (fun x => ?_)
  · rw [List.pairwise_map]
    refine (List.pairwise_lt_range (n := n)).imp_of_mem (fun {a b} ha hb hab => ?_)
    exact s2 a b hab (List.mem_range.mp hb)
  · rw [flatL_all hr]
    simp only [List.mem_map, List.mem_range]
    constructor
    · rintro ⟨j, hj, rfl⟩; exact (s1 j hj).2
    · intro hx; obtain ⟨j, hj, e⟩ := s3 x hx; exact ⟨j, hj, e⟩
theorem lineL_spec (pp : Nat) : ∀ (k : Nat) (h : AH), ∃ q, q ≤ k ∧ (∀ j, j < q → lineL pp k h 35 j = h 35 j) ∧ lineL pp k h 35 q = pp ∧ (∀ j, q < j → j ≤ k → lineL pp k h 35 j = h 35 (j - 1)) ∧ (∀ j, k < j → lineL pp k h 35 j = h 35 j) ∧ (q = 0 ∨ ¬ h 36 pp < h 36 (h 35 (q - 1)).toNat) ∧ (∀ j, q ≤ j → j < k → h 36 pp < h 36 (h 35 j).toNat)
  | 0, h => ⟨0, Nat.le_refl _, fun j hj => by omega, by unfold lineL; simp [hu], fun j h1 h2 => by omega, fun j hj => by unfold lineL; exact hu_o (by omega), Or.inl rfl, fun j h1 h2 => by omega⟩
  | k + 1, h => by
    unfold lineL
    split
    · next c =>
      obtain ⟨q, q1, q2, q3, q4, q5, q6, q7⟩ := lineL_spec pp k (hu h 35 (k + 1) (h 35 k))
      have o : ∀ j, j ≠ k + 1 → hu h 35 (k + 1) (h 35 k) 35 j = h 35 j := fun j hj => hu_o (by omega)
      have o6 : ∀ j, hu h 35 (k + 1) (h 35 k) 36 j = h 36 j := fun j => hu_o (by omega)
      refine ⟨q, by omega, fun j hj => by rw [q2 j hj, o j (by omega)], q3, fun j h1 h2 => ?_, fun j hj => by rw [q5 j (by omega), o j (by omega)], ?_, fun j h1 h2 => ?_⟩
      · by_cases e : j = k + 1
        · subst e; rw [q5 _ (by omega)]; simp [hu]
        · rw [q4 j h1 (by omega), o _ (by omega)]
      · rcases q6 with q6 | q6
        · exact Or.inl q6
        · right; rw [o6, o6, o _ (by omega)] at q6; exact q6
      · by_cases e : j = k
        · subst e; exact c
        · have := q7 j h1 (by omega); rw [o6, o6, o _ (by omega)] at this; exact this
    · next c =>
      exact ⟨k + 1, Nat.le_refl _, fun j hj => hu_o (by omega), by simp [hu], fun j h1 h2 => by omega, fun j hj => hu_o (by omega), Or.inr c, fun j h1 h2 => by omega⟩
theorem SO_line {y : AH} {n : Nat} (hs : SO y g n) (hk : ∀ j, j ≤ n → y 36 j = rkM g j) : SO (lineL n n y) g (n + 1) := by
  obtain ⟨s1, s2, s3⟩ := hs
  obtain ⟨q, q1, q2, q3, q4, q5, q6, q7⟩ := lineL_spec n n y
  generalize lineL n n y = z at q2 q3 q4 q5 ⊢
  have r : ∀ j, j < n → y 36 (y 35 j).toNat = rkM g (y 35 j).toNat := fun j hj => hk _ (by have := s1 j hj; omega)
  have rn := hk n (Nat.le_refl _)
  have below : ∀ i, i < q → kl g (y 35 i).toNat n := by
    intro i hi
    have hz : ¬ q = 0 := by omega
    have h6 : ¬ y 36 n < y 36 (y 35 (q - 1)).toNat := by rcases q6 with q6 | q6; exact absurd q6 hz; exact q6
    rw [rn, r _ (by omega)] at h6
    have l1 := (s1 i (by omega)).2
    unfold kl
    by_cases e : i = q - 1
    · subst e; omega
    · have := s2 i (q - 1) (by omega) (by omega)
      unfold kl at this
      omega
  have above : ∀ i, q ≤ i → i < n → kl g n (y 35 i).toNat := by
    intro i h1 h2
    have := q7 i h1 h2
    rw [rn, r _ h2] at this
    exact Or.inl this
  refine ⟨fun j hj => ?_, fun i j hij hj => ?_, fun p hp => ?_⟩
  · rcases Nat.lt_trichotomy j q with c | c | c
    · rw [q2 j c]; have := s1 j (by omega); omega
    · subst c; rw [q3]; omega
    · rw [q4 j c (by omega)]; have := s1 (j - 1) (by omega); omega
  · rcases Nat.lt_trichotomy i q with c | c | c
    · rw [q2 i c]
      rcases Nat.lt_trichotomy j q with c2 | c2 | c2
      · rw [q2 j c2]; exact s2 i j hij (by omega)
      · subst c2; rw [q3]; simpa using below i c
      · rw [q4 j c2 (by omega)]; exact s2 i (j - 1) (by omega) (by omega)
    · subst c
      rw [q3, q4 j hij (by omega)]
      simpa using above (j - 1) (by omega) (by omega)
    · rw [q4 i c (by omega), q4 j (by omega) (by omega)]; exact s2 (i - 1) (j - 1) (by omega) (by omega)
  · by_cases e : p = n
    · subst e; exact ⟨q, by omega, by rw [q3]; simp⟩
    · obtain ⟨j, hj, ej⟩ := s3 p (by omega)
      by_cases c : j < q
      · exact ⟨j, by omega, by rw [q2 j c]; exact ej⟩
      · exact ⟨j + 1, by omega, by rw [q4 _ (by omega) (by omega)]; exact ej⟩
def cntX (h : AH) (tt : Nat) : Nat → Int
  | 0 => 0
  | n + 1 => cntX h tt n + if h (tt + 7) n = -9 then 1 else 0
theorem cntX_congr {h' : AH} : ∀ n : Nat, (∀ c, c < n → h' (tt + 7) c = h (tt + 7) c) → cntX h' tt n = cntX h tt n
  | 0, _ => rfl
  | n + 1, e => by unfold cntX; rw [cntX_congr n (fun c hc => e c (by omega)), e n (by omega)]
theorem cntX_nn : ∀ n : Nat, 0 ≤ cntX h tt n
  | 0 => Int.le_refl _
  | n + 1 => by have := cntX_nn n; unfold cntX; split <;> omega
theorem cntX_0 : ∀ n : Nat, cntX h tt n ≤ 0 → ∀ c, c < n → ¬ h (tt + 7) c = -9
  | 0, _, c, hc => by omega
  | n + 1, e, c, hc => by
    have hn := cntX_nn (h := h) (tt := tt) n
    unfold cntX at e
    by_cases q : c = n
    · subst q; intro z; rw [if_pos z] at e; omega
    · exact cntX_0 n (by split at e <;> omega) c (by omega)
theorem cntX_upd {h' : AH} {p : Nat} : ∀ n : Nat, (∀ c, c ≠ p → h' (tt + 7) c = h (tt + 7) c) → p < n → cntX h' tt n = cntX h tt n - (if h (tt + 7) p = -9 then 1 else 0) + (if h' (tt + 7) p = -9 then 1 else 0)
  | 0, _, hp => by omega
  | n + 1, e, hp => by
    unfold cntX
    by_cases q : p = n
    · subst q; rw [cntX_congr p (fun c hc => e c (by omega))]; omega
    · rw [cntX_upd n e (by omega), e n (by omega)]; omega
/-- what ready() leaves, number by number -/
theorem ready_v (hk : ∀ c : Nat, (c : Int) < h tt 0 → rankF (h (tt + 1) c) (h (tt + 2) c) = rkM g c) (ht : isT tt) : ∀ n : Nat, (n : Int) ≤ h tt 0 → SO (forN (readyI tt) n (hu h 34 8 0)) g n ∧ (∀ j, j < n → forN (readyI tt) n (hu h 34 8 0) 36 j = rkM g j ∧ forN (readyI tt) n (hu h 34 8 0) 37 j = takesF (h (tt + 1) j) (h (tt + 2) j) ∧ forN (readyI tt) n (hu h 34 8 0) 38 j = 0) ∧ forN (readyI tt) n (hu h 34 8 0) 34 8 = cntX h tt n
  | 0, _ => ⟨⟨fun j hj => by omega, fun i j _ hj => by omega, fun p hp => by omega⟩, fun j hj => by omega, by simp [forN, hu, cntX]⟩
  | n + 1, hn => by
    have hl := isT_lt ht
    obtain ⟨i1, i2, i3⟩ := ready_v hk ht n (by omega)
    have e0 : forN (readyI tt) (n + 1) (hu h 34 8 0) = readyI tt n (forN (readyI tt) n (hu h 34 8 0)) := rfl
    have oy : ∀ a c, a ≠ 34 ∧ a ≠ 35 ∧ a ≠ 36 ∧ a ≠ 37 ∧ a ≠ 38 → forN (readyI tt) n (hu h 34 8 0) a c = h a c := fun a c q => by rw [readyN_o _ _ q, hu_o (by omega)]
    rw [e0]
    generalize forN (readyI tt) n (hu h 34 8 0) = y at i1 i2 i3 oy ⊢
    have k1 : rankF (y (tt + 1) n) (y (tt + 2) n) = rkM g n := by rw [oy _ _ (by omega), oy _ _ (by omega)]; exact hk n (by omega)
    unfold readyI
    rw [k1]
    have t1 : takesF (y (tt + 1) n) (y (tt + 2) n) = takesF (h (tt + 1) n) (h (tt + 2) n) := by rw [oy _ _ (by omega), oy _ _ (by omega)]
    rw [t1, oy (tt + 7) n (by omega)]
    have zo : ∀ a c, a ≠ 36 ∧ a ≠ 37 ∧ a ≠ 38 → hu (hu (hu y 36 n (rkM g n)) 37 n (takesF (h (tt + 1) n) (h (tt + 2) n))) 38 n 0 a c = y a c := fun a c q => by rw [hu_o (by omega), hu_o (by omega), hu_o (by omega)]
    have z6 : ∀ j, j ≤ n → hu (hu (hu y 36 n (rkM g n)) 37 n (takesF (h (tt + 1) n) (h (tt + 2) n))) 38 n 0 36 j = rkM g j := fun j hj => by
      rw [hu_o (by omega), hu_o (by omega)]; simp only [hu_ap, true_and]; split
      · next q => rw [q]
      · exact (i2 j (by omega)).1
    have z7 : ∀ j, j ≤ n → hu (hu (hu y 36 n (rkM g n)) 37 n (takesF (h (tt + 1) n) (h (tt + 2) n))) 38 n 0 37 j = takesF (h (tt + 1) j) (h (tt + 2) j) := fun j hj => by
      rw [hu_o (by omega)]; simp only [hu_ap, true_and]; split
      · next q => rw [q]
      · rw [if_neg (by omega)]; exact (i2 j (by omega)).2.1
    have z8 : ∀ j, j ≤ n → hu (hu (hu y 36 n (rkM g n)) 37 n (takesF (h (tt + 1) n) (h (tt + 2) n))) 38 n 0 38 j = 0 := fun j hj => by
      simp only [hu_ap, true_and]; split
      · rfl
      · rw [if_neg (by omega), if_neg (by omega)]; exact (i2 j (by omega)).2.2
    have sz : SO (hu (hu (hu y 36 n (rkM g n)) 37 n (takesF (h (tt + 1) n) (h (tt + 2) n))) 38 n 0) g n := by
      unfold SO at *
      simp only [zo 35 _ (show 35 ≠ 36 ∧ 35 ≠ 37 ∧ 35 ≠ 38 by omega)]
      exact i1
    have sl := SO_line sz z6
    have lo : ∀ a c, a ≠ 35 → lineL n n (hu (hu (hu y 36 n (rkM g n)) 37 n (takesF (h (tt + 1) n) (h (tt + 2) n))) 38 n 0) a c = hu (hu (hu y 36 n (rkM g n)) 37 n (takesF (h (tt + 1) n) (h (tt + 2) n))) 38 n 0 a c := fun a c q => lineL_o n a c q n _
    generalize lineL n n (hu (hu (hu y 36 n (rkM g n)) 37 n (takesF (h (tt + 1) n) (h (tt + 2) n))) 38 n 0) = x at sl lo ⊢
    unfold cntX
    have x8 : x 34 8 = cntX h tt n := by rw [lo _ _ (by omega), zo _ _ (by omega)]; exact i3
    split
    · refine ⟨?_, fun j hj => ?_, by rw [i3]; simp [hu]⟩
      · unfold SO at *
        simp only [fun j => hu_o (h := x) (x := 34) (i := 8) (v := y 34 8 + 1) (a := 35) (c := j) (by omega)]
        exact sl
      · rw [hu_o (by omega), hu_o (by omega), hu_o (by omega), lo _ _ (by omega), lo _ _ (by omega), lo _ _ (by omega)]
        exact ⟨z6 j (by omega), z7 j (by omega), z8 j (by omega)⟩
    · refine ⟨sl, fun j hj => ?_, by rw [x8]; omega⟩
      rw [lo _ _ (by omega), lo _ _ (by omega), lo _ _ (by omega)]
      exact ⟨z6 j (by omega), z7 j (by omega), z8 j (by omega)⟩
end L3D
