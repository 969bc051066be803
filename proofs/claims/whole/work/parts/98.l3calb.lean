section L3CALB
variable {G : GD} {l : Launch} {d k : Nat} {h h' : AH}
theorem B6_at {pp : Nat} (hb : B6 h h 1) (hp : (pp : Int) < h 82 5) : (h 2 pp = h 86 pp ∧ h 3 pp = h 87 pp ∧ h 4 pp = h 88 (1 + pp) ∧ h 5 pp = h 88 (9 + pp) ∧ h 6 pp = h 88 (17 + pp) ∧ h 7 pp = h 88 (25 + pp) ∧ h 8 pp = orN (h 88 (33 + pp))) ∧ (((0 ≤ h 86 pp ∧ h 86 pp ≤ 5) ∧ (0 ≤ h 87 pp ∧ h 87 pp ≤ 9)) ∧ (0 ≤ h 88 (1 + pp) ∧ h 88 (1 + pp) ≤ 9) ∧ (0 ≤ h 88 (9 + pp) ∧ h 88 (9 + pp) ≤ 9) ∧ (0 ≤ h 88 (17 + pp) ∧ h 88 (17 + pp) ≤ 120) ∧ (h 88 (25 + pp) = 0 ∨ (h 88 (25 + pp) = 1 ∧ (h 86 pp = 1 ∨ h 86 pp = 4))) ∧ (-1 ≤ h 88 (33 + pp) ∧ h 88 (33 + pp) ≤ 119)) := by
  obtain ⟨⟨s1, s2, s3⟩, a2, a3, a4, m1, m2, m3, m4, m5, m6⟩ := hb
  have a := a3 pp hp
  have b := m5 pp hp
  unfold PG MH at b
  simp only [Nat.zero_add] at a b
  exact ⟨a, b⟩
theorem orN_1 : orN (-1) = -9 := rfl
theorem c_personOf {p w : Int} (i : INV k h) (hd : 9 ≤ d) : Ok G l d k 61 147 [vI p, vI w] h := by
  obtain ⟨n1, n2, n3, n4, n5, n6⟩ := INV_n i
  by_cases hp : 0 ≤ p ∧ p ≤ h 1 0 - 1
  · obtain ⟨pp, rfl⟩ : ∃ pp : Nat, p = (pp : Int) := ⟨p.toNat, by omega⟩
    obtain ⟨⟨b1, b2, b3, b4, b5, b6, b7⟩, -⟩ := B6_at (BB_B6 i.1) (pp := pp) (by omega)
    by_cases hw : 0 ≤ w ∧ w ≤ 8
    · refine ok_ex (s_personOfI (by omega) (by omega) (by omega)) (m_personOfI n2 (by omega) hw (by omega)) ?_ (INV_k i)
      unfold persX persM orN at *
      rw [b1, b2, b3, b4, b5, b6, b7]
      (repeat' split) <;> first | rfl | omega
    · refine ok_ex (s_personOfI (by omega) (by omega) (by omega)) (m_personOfW n2 (by omega) hw (by omega)) ?_ (INV_k i)
      unfold persX
      rw [if_neg (by omega), if_neg (by omega), if_neg (by omega), if_neg (by omega), if_neg (by omega), if_neg (by omega), if_neg (by omega), if_neg (by omega), if_neg (by omega)]
  · exact ok_ex (s_personOfO (by omega) hp (by omega)) (m_personOfO n2 (by omega) (by omega)) rfl (INV_k i)
theorem c_mind {p kd a : Int} (i : INV k h) (hd : 9 ≤ d) : Ok G l d k 62 148 [vI p, vI kd, vI a] h := by
  obtain ⟨n1, n2, n3, n4, n5, n6⟩ := INV_n i
  by_cases hp : 0 ≤ p ∧ p ≤ h 1 0 - 1
  · obtain ⟨pp, rfl⟩ : ∃ pp : Nat, p = (pp : Int) := ⟨p.toNat, by omega⟩
    have bb := BB_B6 i.1
    obtain ⟨⟨b1, b2, b3, b4, b5, b6, b7⟩, ⟨c1, c2⟩, c3, c4, c5, c6, c7⟩ := B6_at bb (pp := pp) (by omega)
    by_cases hv : (0 ≤ kd ∧ kd ≤ 5) ∧ (0 ≤ a ∧ a ≤ 9)
    · have c := s_mindI (G := G) (l := l) (d := d) (h := h) (pp := pp) (k := kd) (a := a) (by omega) (by omega) (by omega)
      rw [if_pos hv, if_pos hv] at c
      have m := m_mindI (G := G) (l := l) (d := d) (h := hu (hu (hu h 2 pp kd) 3 pp a) 7 pp 0) (pp := pp) (k := kd) (a := a) (by rw [hu_o (by omega), hu_o (by omega), hu_o (by omega)]; exact n2) (by rw [hu_o (by omega), hu_o (by omega), hu_o (by omega)]; omega) (by omega)
      rw [if_pos hv, if_pos hv] at m
      refine ok_ex c m (by rw [hu_o (by omega), hu_o (by omega), hu_o (by omega)]; exact b1.symm) ?_
      have o : ∀ x c, (c ≠ pp ∨ (x ≠ 2 ∧ x ≠ 3 ∧ x ≠ 7 ∧ x ≠ 86 ∧ x ≠ 87)) → (x ≠ 88 ∨ c ≠ 25 + pp) → hu (hu (hu (hu (hu (hu h 2 pp kd) 3 pp a) 7 pp 0) 86 pp kd) 87 pp a) 88 (25 + pp) 0 x c = h x c := fun x c z1 z2 => by rw [hu_o (by omega), hu_o (by omega), hu_o (by omega), hu_o (by omega), hu_o (by omega), hu_o (by omega)]
      refine INV_U i (B6_p bb (pp := pp) (by omega) (fun x c z1 z2 z3 => o x c (by omega) (by omega)) ?_ ?_) (by rw [o _ _ (by omega) (by omega), o _ _ (by omega) (by omega)]; exact i.2.2.2.1) (fun x c z => o x c (by omega) (by omega))
      · refine ⟨?_, ?_, ?_, ?_, ?_, ?_, ?_⟩
        · simp [hu]
        · simp [hu]
        · rw [o _ _ (by omega) (by omega), o _ _ (by omega) (by omega)]; exact b3
        · rw [o _ _ (by omega) (by omega), o _ _ (by omega) (by omega)]; exact b4
        · rw [o _ _ (by omega) (by omega), o _ _ (by omega) (by omega)]; exact b5
        · simp [hu]
        · rw [o _ _ (by omega) (by omega), o _ _ (by omega) (by omega)]; exact b7
      · refine ⟨⟨by simp [hu]; omega, by simp [hu]; omega⟩, by rw [o _ _ (by omega) (by omega)]; exact c3, by rw [o _ _ (by omega) (by omega)]; exact c4, by rw [o _ _ (by omega) (by omega)]; exact c5, Or.inl (by simp [hu]), by rw [o _ _ (by omega) (by omega)]; exact c7⟩
    · have c := s_mindI (G := G) (l := l) (d := d) (h := h) (pp := pp) (k := kd) (a := a) (by omega) (by omega) (by omega)
      rw [if_neg hv, if_neg hv] at c
      have m := m_mindI (G := G) (l := l) (d := d) (h := h) (pp := pp) (k := kd) (a := a) n2 (by omega) (by omega)
      rw [if_neg hv, if_neg hv] at m
      exact ok_ex c m rfl (INV_k i)
  · exact ok_ex (s_mindO (by omega) hp (by omega)) (m_mindO n2 (by omega) (by omega)) rfl (INV_k i)
theorem c_stand {p f : Int} (i : INV k h) (hd : 9 ≤ d) : Ok G l d k 64 151 [vI p, vI f] h := by
  obtain ⟨n1, n2, n3, n4, n5, n6⟩ := INV_n i
  by_cases hp : 0 ≤ p ∧ p ≤ h 1 0 - 1
  · obtain ⟨pp, rfl⟩ : ∃ pp : Nat, p = (pp : Int) := ⟨p.toNat, by omega⟩
    have bb := BB_B6 i.1
    obtain ⟨⟨b1, b2, b3, b4, b5, b6, b7⟩, ⟨c1, c2⟩, c3, c4, c5, c6, c7⟩ := B6_at bb (pp := pp) (by omega)
    by_cases hv : 0 ≤ f ∧ f ≤ 9
    · have c := s_standI (G := G) (l := l) (d := d) (h := h) (pp := pp) (f := f) (by omega) (by omega) (by omega)
      rw [if_pos hv, if_pos hv] at c
      have m := m_standI (G := G) (l := l) (d := d) (h := hu (hu h 4 pp f) 7 pp 0) (pp := pp) (f := f) (by rw [hu_o (by omega), hu_o (by omega)]; exact n2) (by rw [hu_o (by omega), hu_o (by omega)]; omega) (by omega)
      rw [if_pos hv, if_pos hv] at m
      refine ok_ex c m (by rw [hu_o (by omega), hu_o (by omega)]; exact b3.symm) ?_
      have o : ∀ x c, (c ≠ pp ∨ (x ≠ 4 ∧ x ≠ 7)) → (x ≠ 88 ∨ (c ≠ 25 + pp ∧ c ≠ 1 + pp)) → hu (hu (hu (hu h 4 pp f) 7 pp 0) 88 (1 + pp) f) 88 (25 + pp) 0 x c = h x c := fun x c z1 z2 => by rw [hu_o (by omega), hu_o (by omega), hu_o (by omega), hu_o (by omega)]
      refine INV_U i (B6_p bb (pp := pp) (by omega) (fun x c z1 z2 z3 => o x c (by omega) (by omega)) ?_ ?_) (by rw [o _ _ (by omega) (by omega), o _ _ (by omega) (by omega)]; exact i.2.2.2.1) (fun x c z => o x c (by omega) (by omega))
      · refine ⟨?_, ?_, ?_, ?_, ?_, ?_, ?_⟩
        · rw [o _ _ (by omega) (by omega), o _ _ (by omega) (by omega)]; exact b1
        · rw [o _ _ (by omega) (by omega), o _ _ (by omega) (by omega)]; exact b2
        · simp only [hu_ap]; (repeat' split) <;> omega
        · rw [o _ _ (by omega) (by omega), o _ _ (by omega) (by omega)]; exact b4
        · rw [o _ _ (by omega) (by omega), o _ _ (by omega) (by omega)]; exact b5
        · simp [hu]
        · rw [o _ _ (by omega) (by omega), o _ _ (by omega) (by omega)]; exact b7
      · refine ⟨⟨by rw [o _ _ (by omega) (by omega)]; exact c1, by rw [o _ _ (by omega) (by omega)]; exact c2⟩, by rw [hu_o (by omega)]; simp [hu]; omega, by rw [o _ _ (by omega) (by omega)]; exact c4, by rw [o _ _ (by omega) (by omega)]; exact c5, Or.inl (by simp [hu]), by rw [o _ _ (by omega) (by omega)]; exact c7⟩
    · have c := s_standI (G := G) (l := l) (d := d) (h := h) (pp := pp) (f := f) (by omega) (by omega) (by omega)
      rw [if_neg hv, if_neg hv] at c
      have m := m_standI (G := G) (l := l) (d := d) (h := h) (pp := pp) (f := f) n2 (by omega) (by omega)
      rw [if_neg hv, if_neg hv] at m
      exact ok_ex c m rfl (INV_k i)
  · exact ok_ex (s_standO (by omega) hp (by omega)) (m_standO n2 (by omega) (by omega)) rfl (INV_k i)
theorem c_sends {p g s : Int} (i : INV k h) (hd : 9 ≤ d) : Ok G l d k 63 150 [vI p, vI g, vI s] h := by
  obtain ⟨n1, n2, n3, n4, n5, n6⟩ := INV_n i
  by_cases hp : 0 ≤ p ∧ p ≤ h 1 0 - 1
  · obtain ⟨pp, rfl⟩ : ∃ pp : Nat, p = (pp : Int) := ⟨p.toNat, by omega⟩
    have bb := BB_B6 i.1
    obtain ⟨⟨b1, b2, b3, b4, b5, b6, b7⟩, ⟨c1, c2⟩, c3, c4, c5, c6, c7⟩ := B6_at bb (pp := pp) (by omega)
    have h9 := i.2.2.1
    by_cases hv : (0 ≤ g ∧ g ≤ 9) ∧ (0 ≤ s ∧ s ≤ 99)
    · have c := s_sendsI (G := G) (l := l) (d := d) (h := h) (pp := pp) (g := g) (s := s) (by omega) (by omega) (by omega)
      rw [if_pos hv, if_pos hv] at c
      have q : ∀ x c, 82 ≤ x → sendX h 1 pp g s x c = h x c := fun x c hx => by unfold sendX; rw [hu_o (by omega), hu_o (by omega), hu_o (by omega), hu_o (by omega)]
      have m := m_sendsI (G := G) (l := l) (d := d) (h := sendX h 1 pp g s) (pp := pp) (g := g) (s := s) (by rw [q _ _ (by omega)]; exact n2) (by rw [q _ _ (by omega)]; omega) (by rw [q _ _ (by omega)]; exact h9) (by omega)
      rw [if_pos hv, if_pos hv] at m
      refine ok_ex c m (by rw [q _ _ (by omega)]; exact b4.symm) ?_
      have ex : hu (setsM (sendX h 1 pp g s) 0 pp g) 88 (17 + pp) s = hu (hu (hu (hu (hu (hu (hu (hu h 5 pp g) 6 pp s) 7 pp 0) 8 pp (-9)) 88 (9 + pp) g) 88 (25 + pp) 0) 88 (33 + pp) (-1)) 88 (17 + pp) s := by
        unfold setsM sendX
        simp only [Nat.zero_add]
      rw [ex]
      have o : ∀ x c, (c ≠ pp ∨ (x ≠ 5 ∧ x ≠ 6 ∧ x ≠ 7 ∧ x ≠ 8)) → (x ≠ 88 ∨ (c ≠ 9 + pp ∧ c ≠ 17 + pp ∧ c ≠ 25 + pp ∧ c ≠ 33 + pp)) → hu (hu (hu (hu (hu (hu (hu (hu h 5 pp g) 6 pp s) 7 pp 0) 8 pp (-9)) 88 (9 + pp) g) 88 (25 + pp) 0) 88 (33 + pp) (-1)) 88 (17 + pp) s x c = h x c := fun x c z1 z2 => by rw [hu_o (by omega), hu_o (by omega), hu_o (by omega), hu_o (by omega), hu_o (by omega), hu_o (by omega), hu_o (by omega), hu_o (by omega)]
      have v9 : hu (hu (hu (hu (hu (hu (hu (hu h 5 pp g) 6 pp s) 7 pp 0) 8 pp (-9)) 88 (9 + pp) g) 88 (25 + pp) 0) 88 (33 + pp) (-1)) 88 (17 + pp) s 88 (9 + pp) = g := by rw [hu_o (by omega), hu_o (by omega), hu_o (by omega)]; simp [hu]
      have v25 : hu (hu (hu (hu (hu (hu (hu (hu h 5 pp g) 6 pp s) 7 pp 0) 8 pp (-9)) 88 (9 + pp) g) 88 (25 + pp) 0) 88 (33 + pp) (-1)) 88 (17 + pp) s 88 (25 + pp) = 0 := by rw [hu_o (by omega), hu_o (by omega)]; simp [hu]
      have v33 : hu (hu (hu (hu (hu (hu (hu (hu h 5 pp g) 6 pp s) 7 pp 0) 8 pp (-9)) 88 (9 + pp) g) 88 (25 + pp) 0) 88 (33 + pp) (-1)) 88 (17 + pp) s 88 (33 + pp) = -1 := by rw [hu_o (by omega)]; simp [hu]
      have v17 : hu (hu (hu (hu (hu (hu (hu (hu h 5 pp g) 6 pp s) 7 pp 0) 8 pp (-9)) 88 (9 + pp) g) 88 (25 + pp) 0) 88 (33 + pp) (-1)) 88 (17 + pp) s 88 (17 + pp) = s := by simp [hu]
      refine INV_U i (B6_p bb (pp := pp) (by omega) (fun x c z1 z2 z3 => o x c (by omega) (by omega)) ?_ ?_) (by rw [o _ _ (by omega) (by omega), o _ _ (by omega) (by omega)]; exact i.2.2.2.1) (fun x c z => o x c (by omega) (by omega))
      · rw [v9, v17, v25, v33]
        refine ⟨?_, ?_, ?_, ?_, ?_, ?_, ?_⟩
        · rw [o _ _ (by omega) (by omega), o _ _ (by omega) (by omega)]; exact b1
        · rw [o _ _ (by omega) (by omega), o _ _ (by omega) (by omega)]; exact b2
        · rw [o _ _ (by omega) (by omega), o _ _ (by omega) (by omega)]; exact b3
        · simp [hu]
        · simp [hu]
        · simp [hu]
        · rw [orN_1]; simp [hu]
      · rw [v9, v17, v25, v33]
        refine ⟨⟨by rw [o _ _ (by omega) (by omega)]; exact c1, by rw [o _ _ (by omega) (by omega)]; exact c2⟩, by rw [o _ _ (by omega) (by omega)]; exact c3, by omega, by omega, Or.inl rfl, by omega⟩
    · have c := s_sendsI (G := G) (l := l) (d := d) (h := h) (pp := pp) (g := g) (s := s) (by omega) (by omega) (by omega)
      rw [if_neg hv, if_neg hv] at c
      have m := m_sendsI (G := G) (l := l) (d := d) (h := h) (pp := pp) (g := g) (s := s) n2 (by omega) h9 (by omega)
      rw [if_neg hv, if_neg hv] at m
      exact ok_ex c m rfl (INV_k i)
  · exact ok_ex (s_sendsO (by omega) hp (by omega)) (m_sendsO n2 (by omega) (by omega)) rfl (INV_k i)
theorem c_lot {p : Int} (i : INV k h) (hd : 9 ≤ d) : Ok G l d k 81 180 [vI p] h := by
  obtain ⟨n1, n2, n3, n4, n5, n6⟩ := INV_n i
  by_cases hp : 0 ≤ p ∧ p ≤ h 1 0 - 1
  · obtain ⟨pp, rfl⟩ : ∃ pp : Nat, p = (pp : Int) := ⟨p.toNat, by omega⟩
    have bb := BB_B6 i.1
    obtain ⟨⟨b1, b2, b3, b4, b5, b6, b7⟩, ⟨c1, c2⟩, c3, c4, c5, c6, c7⟩ := B6_at bb (pp := pp) (by omega)
    have hz := i.2.2.2.1
    have lr := lotS_r (h 1 14)
    have q : ∀ x c, 82 ≤ x → hu (hu h 1 14 (lotZ (h 1 14))) 6 pp (lotS (h 1 14)) x c = h x c := fun x c hx => by rw [hu_o (by omega), hu_o (by omega)]
    have m := m_lotI (G := G) (l := l) (d := d) (h := hu (hu h 1 14 (lotZ (h 1 14))) 6 pp (lotS (h 1 14))) (pp := pp) (by rw [q _ _ (by omega)]; exact n2) (by rw [q _ _ (by omega)]; omega) (by omega)
    rw [q 82 10 (by omega), ← hz] at m
    refine ok_ex (s_lotI (by omega) (by omega) (by omega)) m rfl ?_
    show INV (k + 1) (hu (hu (hu (hu h 1 14 (lotZ (h 1 14))) 6 pp (lotS (h 1 14))) 82 10 (lotZ (h 1 14))) 88 (17 + pp) (lotS (h 1 14)))
    generalize lotZ (h 1 14) = zz
    generalize lotS (h 1 14) = sv at *
    have o : ∀ x c, (x ≠ 1 ∨ c ≠ 14) → (x ≠ 6 ∨ c ≠ pp) → (x ≠ 82 ∨ c ≠ 10) → (x ≠ 88 ∨ c ≠ 17 + pp) → hu (hu (hu (hu h 1 14 zz) 6 pp sv) 82 10 zz) 88 (17 + pp) sv x c = h x c := fun x c z1 z2 z3 z4 => by rw [hu_o z4, hu_o z3, hu_o z2, hu_o z1]
    refine INV_U i (B6_p bb (pp := pp) (by omega) (fun x c z1 z2 z3 => o x c (by omega) (by omega) (by omega) (by omega)) ?_ ?_) (by simp [hu]) (fun x c z => o x c (by omega) (by omega) (by omega) (by omega))
    · refine ⟨?_, ?_, ?_, ?_, ?_, ?_, ?_⟩
      · rw [o _ _ (by omega) (by omega) (by omega) (by omega), o _ _ (by omega) (by omega) (by omega) (by omega)]; exact b1
      · rw [o _ _ (by omega) (by omega) (by omega) (by omega), o _ _ (by omega) (by omega) (by omega) (by omega)]; exact b2
      · rw [o _ _ (by omega) (by omega) (by omega) (by omega), o _ _ (by omega) (by omega) (by omega) (by omega)]; exact b3
      · rw [o _ _ (by omega) (by omega) (by omega) (by omega), o _ _ (by omega) (by omega) (by omega) (by omega)]; exact b4
      · simp [hu]
      · rw [o _ _ (by omega) (by omega) (by omega) (by omega), o _ _ (by omega) (by omega) (by omega) (by omega)]; exact b6
      · rw [o _ _ (by omega) (by omega) (by omega) (by omega), o _ _ (by omega) (by omega) (by omega) (by omega)]; exact b7
    · refine ⟨⟨by rw [o _ _ (by omega) (by omega) (by omega) (by omega)]; exact c1, by rw [o _ _ (by omega) (by omega) (by omega) (by omega)]; exact c2⟩, by rw [o _ _ (by omega) (by omega) (by omega) (by omega)]; exact c3, by rw [o _ _ (by omega) (by omega) (by omega) (by omega)]; exact c4, by simp [hu]; omega, by rw [o _ _ (by omega) (by omega) (by omega) (by omega), o _ _ (by omega) (by omega) (by omega) (by omega)]; exact c6, by rw [o _ _ (by omega) (by omega) (by omega) (by omega)]; exact c7⟩
  · exact ok_ex (s_lotO (by omega) hp (by omega)) (m_lotO n2 (by omega) (by omega)) rfl (INV_k i)
end L3CALB
