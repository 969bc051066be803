section L3CALG
variable {G : GD} {l : Launch} {d k : Nat} {h h' : AH}
theorem shelf_up {vv : Nat} {h' : AH} (i : INV k h) (hv : vv < 4) (e : ∀ a c, a ≠ 76 + vv → (c ≠ vv ∨ (a ≠ 106 ∧ a ≠ 107 ∧ a ≠ 108)) → h' a c = h a c) (n : (h' 106 vv = 0 ∧ h' (76 + vv) 0 = 0 ∧ h' (76 + vv) 1 = h' 107 vv) ∨ (h' 106 vv = 1 ∧ h' (76 + vv) 0 = 1 ∧ h' (76 + vv) 2 = h' 107 vv ∧ (0 ≤ h' 107 vv ∧ h' 107 vv ≤ 3) ∧ h' (76 + vv) 3 = h' 108 vv) ∨ (h' 106 vv = -1 ∧ h' (76 + vv) 0 ≠ 0 ∧ h' (76 + vv) 0 ≠ 1)) : INV (k + 1) h' := by
  have i' := i
  obtain ⟨i1, i2, i3, i4, i5, i6, i7, i8, i9, i10, i11⟩ := i'
  refine INV_S i (fun a c z => e a c (by omega) (by omega)) (SHE_cg (fun a c z => e a c (by omega) (by omega)) i9) (fun v hv2 => ?_) (ACE_cg (fun a c z => e a c (by omega) (by omega)) i11)
  by_cases hx : v = vv
  · subst hx; exact n
  · have := i10 v hv2
    rw [e (76 + v) 0 (by omega) (by omega), e (76 + v) 1 (by omega) (by omega), e (76 + v) 2 (by omega) (by omega), e (76 + v) 3 (by omega) (by omega), e 106 v (by omega) (by omega), e 107 v (by omega) (by omega), e 108 v (by omega) (by omega)]
    exact this
theorem c_shelf {q w n : Int} (i : INV k h) (hd : 9 ≤ d) : Ok G l d k 90 194 [vI q, vI w, vI n] h := by
  obtain ⟨n1, n2, n3, n4, n5, n6⟩ := INV_n i
  by_cases hq : 0 ≤ q ∧ q ≤ 3
  case neg => exact ok_ex (s_shelfO hq (by omega)) (m_shelfO hq (by omega)) rfl (INV_k i)
  obtain ⟨vv, rfl⟩ : ∃ vv : Nat, q = (vv : Int) := ⟨q.toNat, by omega⟩
  have hv : vv < 4 := by omega
  have c := s_shelfI (G := G) (l := l) (d := d) (h := h) (vv := vv) (w := w) (n := n) (by omega) hv (by omega)
  unfold shelfA shelfH at c
  by_cases w0 : w = 0
  · subst w0
    by_cases hn : 0 ≤ n ∧ n ≤ h 1 0 - 1
    · simp only [if_true, if_pos hn] at c
      have q : ∀ x c, 82 ≤ x → hu (hu h (76 + vv) 0 0) (76 + vv) 1 n x c = h x c := fun x c hx => by rw [hu_o (by omega), hu_o (by omega)]
      refine ok_ex c (m_shelf0 (h := hu (hu h (76 + vv) 0 0) (76 + vv) 1 n) (by rw [q _ _ (by omega)]; exact n2) hv (by rw [q _ _ (by omega)]; omega) (by omega)) rfl (shelf_up i hv (fun a c z1 z2 => by rw [hu_o (by omega), hu_o (by omega), hu_o (by omega), hu_o (by omega), hu_o (by omega)]) (Or.inl ⟨?_, ?_, ?_⟩))
      · rw [hu_o (by omega), hu_o (by omega)]; simp [hu]
      · rw [hu_o (by omega), hu_o (by omega), hu_o (by omega), hu_o (by omega)]; simp [hu]
      · exact Eq.trans (b := n) (by rw [hu_o (by omega), hu_o (by omega), hu_o (by omega)]; simp [hu]) (by rw [hu_o (by omega)]; simp [hu] )
    · simp only [if_true, if_neg hn] at c
      exact ok_ex c (m_shelfN n2 hv (by omega) (by omega) (by omega) (by omega)) rfl (INV_k i)
  by_cases w1 : w = 1
  · subst w1
    by_cases hn : 0 ≤ n ∧ n ≤ 3
    · obtain ⟨nn, rfl⟩ : ∃ nn : Nat, n = (nn : Int) := ⟨n.toNat, by omega⟩
      simp only [if_neg w0, if_true, if_pos hn, Int.toNat_natCast] at c
      obtain ⟨⟨t1, t2⟩, ⟨t3, t4⟩, -⟩ := i.2.2.2.2.2.2.2.2.1 nn (by omega)
      by_cases ho : h 103 nn < 0
      · have ex : holdX h vv nn = hu (hu (hu h (76 + vv) 0 2) (76 + vv) 2 (h 103 nn)) (76 + vv) 3 (h 104 nn) := by
          unfold holdX; rw [if_pos (by omega), t1, t3]
        rw [ex] at c
        have q : ∀ x c, 82 ≤ x → hu (hu (hu h (76 + vv) 0 2) (76 + vv) 2 (h 103 nn)) (76 + vv) 3 (h 104 nn) x c = h x c := fun x c hx => by rw [hu_o (by omega), hu_o (by omega), hu_o (by omega)]
        refine ok_ex c (m_shelf1a (h := hu (hu (hu h (76 + vv) 0 2) (76 + vv) 2 (h 103 nn)) (76 + vv) 3 (h 104 nn)) hv (by omega) (by rw [q _ _ (by omega)]; exact ho) (by omega)) rfl (shelf_up i hv (fun a c z1 z2 => by rw [hu_o (by omega), hu_o (by omega), hu_o (by omega), hu_o (by omega), hu_o (by omega), hu_o (by omega)]) (Or.inr (Or.inr ⟨?_, ?_⟩)))
        · rw [hu_o (by omega), hu_o (by omega)]; simp [hu]
        · rw [hu_o (by omega), hu_o (by omega), hu_o (by omega), hu_o (by omega), hu_o (by omega)]
          simp only [hu_ap, true_and, if_true]
          omega
      · have ex : holdX h vv nn = hu (hu (hu h (76 + vv) 0 1) (76 + vv) 2 (h 103 nn)) (76 + vv) 3 (h 104 nn) := by
          unfold holdX; rw [if_neg (by omega), t1, t3]
        rw [ex] at c
        have q : ∀ x c, 82 ≤ x → hu (hu (hu h (76 + vv) 0 1) (76 + vv) 2 (h 103 nn)) (76 + vv) 3 (h 104 nn) x c = h x c := fun x c hx => by rw [hu_o (by omega), hu_o (by omega), hu_o (by omega)]
        have m := m_shelf1b (G := G) (l := l) (d := d) (h := hu (hu (hu h (76 + vv) 0 1) (76 + vv) 2 (h 103 nn)) (76 + vv) 3 (h 104 nn)) (vv := vv) (nn := nn) hv (by omega) (by rw [q _ _ (by omega)]; exact ho) (by omega)
        rw [q 103 nn (by omega), q 104 nn (by omega)] at m
        refine ok_ex c m rfl (shelf_up i hv (fun a c z1 z2 => by rw [hu_o (by omega), hu_o (by omega), hu_o (by omega), hu_o (by omega), hu_o (by omega), hu_o (by omega)]) (Or.inr (Or.inl ⟨?_, ?_, ?_, ?_, ?_⟩)))
        · rw [hu_o (by omega), hu_o (by omega)]; simp [hu]
        · rw [hu_o (by omega), hu_o (by omega), hu_o (by omega), hu_o (by omega), hu_o (by omega)]; simp [hu]
        · exact Eq.trans (b := h 103 nn) (by rw [hu_o (by omega), hu_o (by omega), hu_o (by omega), hu_o (by omega)]; simp [hu]) (by rw [hu_o (by omega)]; simp [hu] )
        · rw [hu_o (by omega)]; simp only [hu_ap, true_and, if_true]; omega
        · exact Eq.trans (b := h 104 nn) (by rw [hu_o (by omega), hu_o (by omega), hu_o (by omega)]; simp [hu]) (by simp [hu] )
    · simp only [if_neg w0, if_true, if_neg hn] at c
      exact ok_ex c (m_shelfN n2 hv (by omega) (by omega) (by omega) (by omega)) rfl (INV_k i)
  by_cases w2 : w = 2
  · subst w2
    simp only [if_neg w0, if_neg w1, if_true] at c
    refine ok_ex c (m_shelf2 (h := hu h (76 + vv) 0 2) (by rw [hu_o (by omega)]; exact n2) hv (by omega)) rfl (shelf_up i hv (fun a c z1 z2 => by rw [hu_o (by omega), hu_o (by omega), hu_o (by omega), hu_o (by omega)]) (Or.inr (Or.inr ⟨?_, ?_⟩)))
    · rw [hu_o (by omega), hu_o (by omega)]; simp [hu]
    · rw [hu_o (by omega), hu_o (by omega), hu_o (by omega)]
      simp only [hu_ap, true_and, if_true]
      omega
  · simp only [if_neg w0, if_neg w1, if_neg w2] at c
    exact ok_ex c (m_shelfN n2 hv (by omega) (by omega) w2 (by omega)) rfl (INV_k i)
theorem c_taken {q a : Int} (i : INV k h) (hd : 9 ≤ d) : Ok G l d k 91 197 [vI q, vI a] h := by
  obtain ⟨n1, n2, n3, n4, n5, n6⟩ := INV_n i
  have hc : 0 ≤ h 1 0 ∧ h 1 0 ≤ 8 := by omega
  by_cases hq : (0 ≤ q ∧ q ≤ 3) ∧ ((0 ≤ a ∧ a ≤ 5) ∨ (10 ≤ a ∧ a ≤ 13))
  case neg => exact ok_ex (s_takenO hq (by omega)) (m_takenO hq (by omega)) rfl (INV_k i)
  obtain ⟨vv, rfl⟩ : ∃ vv : Nat, q = (vv : Int) := ⟨q.toNat, by omega⟩
  have hv : vv < 4 := by omega
  rcases i.2.2.2.2.2.2.2.2.2.1 vv hv with ⟨s1, s2, s3⟩ | ⟨s1, s2, s3, s4, s5⟩ | ⟨s1, s2, s3⟩
  · by_cases hp : 0 ≤ h 107 vv ∧ h 107 vv ≤ h 82 5 - 1
    · obtain ⟨pp, hpp⟩ : ∃ pp : Nat, h 107 vv = (pp : Int) := ⟨(h 107 vv).toNat, by omega⟩
      obtain ⟨⟨b1, -⟩, ⟨c1, -⟩, -⟩ := B6_at (BB_B6 i.1) (pp := pp) (by omega)
      have ek : kindV h vv = h 86 pp := by unfold kindV; rw [if_pos s1, if_pos hp, hpp, Int.toNat_natCast]
      refine ok_ex (s_takenP hc hv hq.2 s2 (by rw [s3]; exact hpp) (by omega) (by rw [b1]; exact c1) (by omega)) (m_takenI n2 hv hq.2 (fun z => by omega) (by omega)) ?_ (INV_k i)
      unfold takenV
      rw [ek, if_neg (by omega), if_neg (by omega), b1, hpp]
    · have ek : kindV h vv = -1 := by unfold kindV; rw [if_pos s1, if_neg hp]
      refine ok_ex (s_takenN hc hv hq.2 (by omega) (by omega) (by omega)) (m_takenI n2 hv hq.2 (fun z => by omega) (by omega)) ?_ (INV_k i)
      unfold takenV
      rw [ek, if_pos (by omega)]
  · have ek : kindV h vv = 9 := by unfold kindV; rw [if_neg (by omega), if_neg (by omega)]
    refine ok_ex (s_takenR hc hv hq.2 s2 (by omega)) (m_takenI n2 hv hq.2 (fun z => by omega) (by omega)) ?_ (INV_k i)
    unfold takenV
    rw [ek, if_neg (by omega), if_pos rfl, s3, s5]
    (repeat' split) <;> omega
  · have ek : kindV h vv = -1 := by unfold kindV; rw [if_neg (by omega), if_pos (by omega)]
    refine ok_ex (s_takenN hc hv hq.2 s3 (fun z => s2 z.1) (by omega)) (m_takenI n2 hv hq.2 (fun z => by omega) (by omega)) ?_ (INV_k i)
    unfold takenV
    rw [ek, if_pos (by omega)]
theorem c_trace {q : Int} (i : INV k h) (hd : 9 ≤ d) : Ok G l d k 93 209 [vI q] h := by
  obtain ⟨a1, a2, a3⟩ := i.2.2.2.2.2.2.2.2.2.2
  refine ok_ex (s_trace (by omega) (by omega)) (m_trace a2 (by omega)) ?_ (INV_k i)
  rw [a1]
  by_cases hq : 0 ≤ q ∧ q ≤ h 82 47 - 1
  · rw [if_pos hq, if_pos hq]; exact (a3 q.toNat (by omega)).symm
  · rw [if_neg hq, if_neg hq]
theorem c_many {w : Int} (i : INV k h) (hd : 9 ≤ d) : Ok G l d k 94 210 [vI w] h := by
  obtain ⟨n1, n2, n3, n4, n5, n6⟩ := INV_n i
  have a1 := i.2.2.2.2.2.2.2.2.2.2.1
  have r1 := i.2.2.2.2.2.2.2.1.1
  have t1 := i.2.2.2.2.2.2.1.1
  by_cases w2 : w = 2
  · subst w2
    refine ok_ex (s_many (by omega) (by omega)) (m_many2 n2) ?_ (INV_k i)
    obtain ⟨v, v1, v2, v3⟩ := setX_cnt (h := h) (g := h) (tt := 1) (h 82 5).toNat (by omega) (fun j hj => by
      have b := (B6_at (BB_B6 i.1) (pp := j) (by omega)).1.2.2.2.2.2.2
      rw [show 1 + 7 = 8 by omega, b]; exact orN_neg _)
    unfold manyX
    rw [if_neg (by omega), if_neg (by omega), if_pos rfl, n1, v2, v3]
  · refine ok_ex (s_many (by omega) (by omega)) (m_manyW w2) ?_ (INV_k i)
    unfold manyX manyM
    rw [n1, n5, r1, t1, a1]
    (repeat' split) <;> first | rfl | omega
end L3CALG
