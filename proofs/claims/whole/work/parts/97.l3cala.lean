section L3CALA
variable {G : GD} {l : Launch} {d k : Nat} {h h' : AH}
theorem and1 (x : Int) : and32 x 1 = 0 ∨ and32 x 1 = 1 := by
  unfold and32
  generalize Int32.ofInt x = y
  show (y.toBitVec &&& 1#32).toInt = 0 ∨ (y.toBitVec &&& 1#32).toInt = 1
  have hb : (y.toBitVec &&& 1#32).toNat = y.toBitVec.toNat % 2 := by rw [BitVec.toNat_and]; exact Nat.and_one_is_mod _
  rw [BitVec.toInt_eq_toNat_of_lt (by omega)]
  omega
theorem bm32 {z : Int} (h0 : -2147483648 ≤ z) (h1 : z ≤ 2147483647) : Int.bmod z (2 ^ 32) = z := Int.bmod_eq_of_le (by omega) (by omega)
theorem m32_100 {a : Int} (h0 : 0 ≤ a) (h1 : a ≤ 65535) : 0 ≤ m32 a 100 ∧ m32 a 100 ≤ 99 := by
  have ea : (Int32.ofInt a).toInt = a := w32_id (by omega) (by omega)
  have eb : (Int32.ofInt 100).toInt = 100 := w32_id (by omega) (by omega)
  have ed : (Int32.ofInt a / Int32.ofInt 100).toInt = a / 100 := by
    rw [Int32.toInt_div, ea, eb, Int.tdiv_eq_ediv_of_nonneg h0, bm32 (by omega) (by omega)]
  unfold m32
  rw [Int32.toInt_sub, Int32.toInt_mul, ed, ea, eb, bm32 (z := a / 100 * 100) (by omega) (by omega), bm32 (by omega) (by omega)]
  omega
theorem ushr16 (z : Int) : 0 ≤ ushr32 z 16 ∧ ushr32 z 16 ≤ 65535 := by
  unfold ushr32
  generalize (Int32.ofInt z).toUInt32 = y
  have e : (Int32.ofInt 16).toUInt32 &&& Int32.toUInt32 31 = 16 := by decide
  rw [e]
  show 0 ≤ (y >>> 16).toBitVec.toInt ∧ (y >>> 16).toBitVec.toInt ≤ 65535
  have hb : (y >>> 16).toBitVec.toNat = y.toBitVec.toNat / 65536 := by
    show (y.toBitVec >>> ((16 : UInt32).toBitVec % 32#32)).toNat = _
    rw [show ((16 : UInt32).toBitVec % 32#32) = 16#32 by decide, BitVec.ushiftRight_eq', BitVec.toNat_ushiftRight, Nat.shiftRight_eq_div_pow]
    rfl
  have := y.toBitVec.isLt
  rw [BitVec.toInt_eq_toNat_of_lt (by omega)]
  omega
theorem lotS_r (z : Int) : 0 ≤ lotS z ∧ lotS z ≤ 99 := by
  have := ushr16 (lotZ z)
  exact m32_100 this.1 this.2
/-- one person is changed on both sides -/
theorem B6_p {pp : Nat} (hb : B6 h h 1) (hp : (pp : Int) < h 82 5) (e : ∀ a c, (1 ≤ a ∧ a ≤ 11 ∧ (a = 1 → c < 14)) ∨ (a = 82 ∧ c ≤ 5) ∨ (83 ≤ a ∧ a ≤ 88) → ¬ (((2 ≤ a ∧ a ≤ 8) ∨ a = 86 ∨ a = 87) ∧ c = pp) → ¬ (a = 88 ∧ (c = 1 + pp ∨ c = 9 + pp ∨ c = 17 + pp ∨ c = 25 + pp ∨ c = 33 + pp)) → h' a c = h a c) (n1 : h' 2 pp = h' 86 pp ∧ h' 3 pp = h' 87 pp ∧ h' 4 pp = h' 88 (1 + pp) ∧ h' 5 pp = h' 88 (9 + pp) ∧ h' 6 pp = h' 88 (17 + pp) ∧ h' 7 pp = h' 88 (25 + pp) ∧ h' 8 pp = orN (h' 88 (33 + pp))) (n2 : ((0 ≤ h' 86 pp ∧ h' 86 pp ≤ 5) ∧ (0 ≤ h' 87 pp ∧ h' 87 pp ≤ 9)) ∧ (0 ≤ h' 88 (1 + pp) ∧ h' 88 (1 + pp) ≤ 9) ∧ (0 ≤ h' 88 (9 + pp) ∧ h' 88 (9 + pp) ≤ 9) ∧ (0 ≤ h' 88 (17 + pp) ∧ h' 88 (17 + pp) ≤ 120) ∧ (h' 88 (25 + pp) = 0 ∨ (h' 88 (25 + pp) = 1 ∧ (h' 86 pp = 1 ∨ h' 86 pp = 4))) ∧ (-1 ≤ h' 88 (33 + pp) ∧ h' 88 (33 + pp) ≤ 119)) : B6 h' h' 1 := by
  obtain ⟨⟨s1, s2, s3⟩, a2, a3, a4, m1, m2, m3, m4, m5, m6⟩ := hb
  have k0 := e 82 0 (by omega) (by omega) (by omega)
  have k1 := e 82 1 (by omega) (by omega) (by omega)
  have k5 := e 82 5 (by omega) (by omega) (by omega)
  have l0 := e 88 0 (by omega) (by omega) (by omega)
  refine ⟨⟨by rw [e _ _ (by omega) (by omega) (by omega), k5]; exact s1, by rw [e _ _ (by omega) (by omega) (by omega), k1]; exact s2, by rw [e _ _ (by omega) (by omega) (by omega), k0]; exact s3⟩, by rw [e _ _ (by omega) (by omega) (by omega), l0]; exact a2, fun c hc => ?_, fun c hc => ?_, by rw [k5]; exact m1, by rw [k1]; exact m2, by rw [k0]; exact m3, by rw [l0]; exact m4, fun c hc => ?_, fun c hc => ?_⟩
  · rw [k5] at hc
    by_cases hcp : c = pp
    · subst hcp
      simp only [Nat.zero_add]
      exact n1
    · have := a3 c hc
      simp only [Nat.zero_add] at *
      rw [e _ _ (by omega) (by omega) (by omega), e _ _ (by omega) (by omega) (by omega), e _ _ (by omega) (by omega) (by omega), e _ _ (by omega) (by omega) (by omega), e _ _ (by omega) (by omega) (by omega), e _ _ (by omega) (by omega) (by omega), e _ _ (by omega) (by omega) (by omega), e _ _ (by omega) (by omega) (by omega), e _ _ (by omega) (by omega) (by omega), e _ _ (by omega) (by omega) (by omega), e _ _ (by omega) (by omega) (by omega), e _ _ (by omega) (by omega) (by omega), e _ _ (by omega) (by omega) (by omega), e _ _ (by omega) (by omega) (by omega)]
      exact this
  · rw [k1] at hc
    rw [e _ _ (by omega) (by omega) (by omega), e _ _ (by omega) (by omega) (by omega), e _ _ (by omega) (by omega) (by omega), e _ _ (by omega) (by omega) (by omega), e _ _ (by omega) (by omega) (by omega), e _ _ (by omega) (by omega) (by omega)]
    exact a4 c hc
  · rw [k5] at hc
    by_cases hcp : c = pp
    · subst hcp
      unfold PG MH
      simp only [Nat.zero_add]
      exact n2
    · have := m5 c hc
      unfold PG MH at *
      simp only [Nat.zero_add] at *
      rw [e 86 _ (by omega) (by omega) (by omega), e 87 _ (by omega) (by omega) (by omega), e 88 _ (by omega) (by omega) (by omega), e 88 _ (by omega) (by omega) (by omega), e 88 _ (by omega) (by omega) (by omega), e 88 _ (by omega) (by omega) (by omega), e 88 _ (by omega) (by omega) (by omega)]
      exact this
  · rw [k1] at hc
    unfold HG
    rw [e _ _ (by omega) (by omega) (by omega), e _ _ (by omega) (by omega) (by omega), e _ _ (by omega) (by omega) (by omega)]
    exact m6 c hc
/-- a call that changes the tower of now only -/
theorem INV_U {k : Nat} (q : INV k h) (hb : B6 h' h' 1) (hz : h' 1 14 = h' 82 10) (e : ∀ a c, (a < 1 ∨ 12 ≤ a ∧ a ≤ 81 ∨ (a = 82 ∧ 9 ≤ c ∧ c ≠ 10) ∨ 89 ≤ a) → h' a c = h a c) : INV (k + 1) h' := by
  have q1 := q.1
  have q5 := q.2.2.2.2.1
  have w : ∀ j, 0 ≤ h' 100 j ∧ h' 100 j ≤ 2000000 * ((k : Int) + 2) := fun j => by rw [e _ _ (by omega)]; have := q5 j; omega
  refine INV_T q (B6_BB hb (fun j => by rw [e _ _ (by omega)]; exact q1.2.2.2.2.2.2.2.2.2.2.1 j) ⟨_, w⟩) (by rw [e _ _ (by omega)]; exact q.2.2.1) hz w (CL_cg (fun a c z => e a c (by omega)) q.2.1) (fun a c z => e a c (by omega))
theorem c_minute (i : INV k h) : Ok G l d k 65 152 [] h := by
  obtain ⟨n1, n2, n3, n4, n5, n6⟩ := INV_n i
  exact ok_ex s_minute m_minute n3.symm (INV_k i)
theorem c_seed {v : Int} (i : INV k h) : Ok G l d k 80 179 [vI v] h := by
  refine ok_ex s_seed m_seed (by rw [hu_o (by omega)]; exact i.2.2.2.1.symm) ?_
  have b := BB_B6 i.1
  refine INV_U i (B6_cg b (fun c hc => by rw [hu_o (by omega), hu_o (by omega)]) (fun a c _ _ _ _ => by rw [hu_o (by omega), hu_o (by omega)]) (fun a c _ _ _ _ => by rw [hu_o (by omega), hu_o (by omega)]) (fun c hc => by rw [hu_o (by omega), hu_o (by omega)]) (fun c hc => ⟨by rw [hu_o (by omega), hu_o (by omega)], by rw [hu_o (by omega), hu_o (by omega)]⟩) (fun c hc => by rw [hu_o (by omega), hu_o (by omega)]) (fun c hc _ => ⟨by rw [hu_o (by omega), hu_o (by omega)], by rw [hu_o (by omega), hu_o (by omega)], by rw [hu_o (by omega), hu_o (by omega)]⟩)) (by simp [hu]) (fun a c z => by rw [hu_o (by omega), hu_o (by omega)])
theorem c_room {v : Int} (i : INV k h) (hd : 9 ≤ d) : Ok G l d k 56 137 [vI v] h := by
  by_cases hv : 1 ≤ v ∧ v ≤ 9
  · have c := s_room (G := G) (l := l) (d := d) (h := h) (v := v) (by omega)
    rw [if_pos hv, if_pos hv] at c
    have m := m_room (G := G) (l := l) (d := d) (h := hu h 1 12 v) (v := v) (by omega)
    rw [if_pos hv, if_pos hv] at m
    have b := BB_B6 i.1
    refine ok_ex c m (by rw [hu_o (by omega)]; exact b.1.2.2.symm) ?_
    obtain ⟨⟨s1, s2, s3⟩, a2, a3, a4, m1, m2, m3, m4, m5, m6⟩ := b
    have o : ∀ a c, (a ≠ 1 ∨ c ≠ 12) → (a ≠ 82 ∨ c ≠ 0) → hu (hu h 1 12 v) 82 0 v a c = h a c := fun a c z1 z2 => by rw [hu_o z2, hu_o z1]
    refine INV_U i ⟨⟨by rw [o _ _ (by omega) (by omega), o _ _ (by omega) (by omega)]; exact s1, by rw [o _ _ (by omega) (by omega), o _ _ (by omega) (by omega)]; exact s2, by simp [hu]⟩, by rw [o _ _ (by omega) (by omega), o _ _ (by omega) (by omega)]; exact a2, fun c hc => ?_, fun c hc => ?_, by rw [o _ _ (by omega) (by omega)]; exact m1, by rw [o _ _ (by omega) (by omega)]; exact m2, by simp only [hu_ap, true_and, if_true]; exact hv, by rw [o _ _ (by omega) (by omega)]; exact m4, fun c hc => ?_, fun c hc => ?_⟩ (by rw [o _ _ (by omega) (by omega), o _ _ (by omega) (by omega)]; exact i.2.2.2.1) (fun a c z => o a c (by omega) (by omega))
    · rw [o _ _ (by omega) (by omega)] at hc
      have := a3 c hc
      rw [o _ _ (by omega) (by omega), o _ _ (by omega) (by omega), o _ _ (by omega) (by omega), o _ _ (by omega) (by omega), o _ _ (by omega) (by omega), o _ _ (by omega) (by omega), o _ _ (by omega) (by omega), o _ _ (by omega) (by omega), o _ _ (by omega) (by omega), o _ _ (by omega) (by omega), o _ _ (by omega) (by omega), o _ _ (by omega) (by omega), o _ _ (by omega) (by omega), o _ _ (by omega) (by omega)]
      exact this
    · rw [o _ _ (by omega) (by omega)] at hc
      rw [o _ _ (by omega) (by omega), o _ _ (by omega) (by omega), o _ _ (by omega) (by omega), o _ _ (by omega) (by omega), o _ _ (by omega) (by omega), o _ _ (by omega) (by omega)]
      exact a4 c hc
    · rw [o _ _ (by omega) (by omega)] at hc
      have := m5 c hc
      unfold PG MH at *
      rw [o _ _ (by omega) (by omega), o _ _ (by omega) (by omega), o _ _ (by omega) (by omega), o _ _ (by omega) (by omega), o _ _ (by omega) (by omega), o _ _ (by omega) (by omega), o _ _ (by omega) (by omega)]
      exact this
    · rw [o _ _ (by omega) (by omega)] at hc
      unfold HG
      rw [o _ _ (by omega) (by omega), o _ _ (by omega) (by omega), o _ _ (by omega) (by omega)]
      exact m6 c hc
  · have c := s_room (G := G) (l := l) (d := d) (h := h) (v := v) (by omega)
    rw [if_neg hv, if_neg hv] at c
    have m := m_room (G := G) (l := l) (d := d) (h := h) (v := v) (by omega)
    rw [if_neg hv, if_neg hv] at m
    exact ok_ex c m rfl (INV_k i)
theorem c_clock {v : Int} (i : INV k h) (hd : 9 ≤ d) : Ok G l d k 67 160 [vI v] h := by
  by_cases hv : 0 ≤ v ∧ v ≤ 120
  · have c := s_clock (G := G) (l := l) (d := d) (h := h) (v := v) (by omega)
    rw [if_pos hv, if_pos hv] at c
    have m := m_clock (G := G) (l := l) (d := d) (h := hu h 1 13 v) (v := v) (by omega)
    rw [if_pos hv, if_pos hv] at m
    have b := BB_B6 i.1
    refine ok_ex c m (by rw [hu_o (by omega)]; exact b.2.1.symm) ?_
    obtain ⟨⟨s1, s2, s3⟩, a2, a3, a4, m1, m2, m3, m4, m5, m6⟩ := b
    have o : ∀ a c, (a ≠ 1 ∨ c ≠ 13) → (a ≠ 88 ∨ c ≠ 0) → hu (hu h 1 13 v) 88 0 v a c = h a c := fun a c z1 z2 => by rw [hu_o z2, hu_o z1]
    refine INV_U i ⟨⟨by rw [o _ _ (by omega) (by omega), o _ _ (by omega) (by omega)]; exact s1, by rw [o _ _ (by omega) (by omega), o _ _ (by omega) (by omega)]; exact s2, by rw [o _ _ (by omega) (by omega), o _ _ (by omega) (by omega)]; exact s3⟩, by simp [hu], fun c hc => ?_, fun c hc => ?_, by rw [o _ _ (by omega) (by omega)]; exact m1, by rw [o _ _ (by omega) (by omega)]; exact m2, by rw [o _ _ (by omega) (by omega)]; exact m3, by simp only [hu_ap, true_and, if_true]; exact hv, fun c hc => ?_, fun c hc => ?_⟩ (by rw [o _ _ (by omega) (by omega), o _ _ (by omega) (by omega)]; exact i.2.2.2.1) (fun a c z => o a c (by omega) (by omega))
    · rw [o _ _ (by omega) (by omega)] at hc
      have := a3 c hc
      rw [o _ _ (by omega) (by omega), o _ _ (by omega) (by omega), o _ _ (by omega) (by omega), o _ _ (by omega) (by omega), o _ _ (by omega) (by omega), o _ _ (by omega) (by omega), o _ _ (by omega) (by omega), o _ _ (by omega) (by omega), o _ _ (by omega) (by omega), o _ _ (by omega) (by omega), o _ _ (by omega) (by omega), o _ _ (by omega) (by omega), o _ _ (by omega) (by omega), o _ _ (by omega) (by omega)]
      exact this
    · rw [o _ _ (by omega) (by omega)] at hc
      rw [o _ _ (by omega) (by omega), o _ _ (by omega) (by omega), o _ _ (by omega) (by omega), o _ _ (by omega) (by omega), o _ _ (by omega) (by omega), o _ _ (by omega) (by omega)]
      exact a4 c hc
    · rw [o _ _ (by omega) (by omega)] at hc
      have := m5 c hc
      unfold PG MH at *
      rw [o _ _ (by omega) (by omega), o _ _ (by omega) (by omega), o _ _ (by omega) (by omega), o _ _ (by omega) (by omega), o _ _ (by omega) (by omega), o _ _ (by omega) (by omega), o _ _ (by omega) (by omega)]
      exact this
    · rw [o _ _ (by omega) (by omega)] at hc
      unfold HG
      rw [o _ _ (by omega) (by omega), o _ _ (by omega) (by omega), o _ _ (by omega) (by omega)]
      exact m6 c hc
  · have c := s_clock (G := G) (l := l) (d := d) (h := h) (v := v) (by omega)
    rw [if_neg hv, if_neg hv] at c
    have m := m_clock (G := G) (l := l) (d := d) (h := h) (v := v) (by omega)
    rw [if_neg hv, if_neg hv] at m
    exact ok_ex c m rfl (INV_k i)
theorem INV_hats (i : INV k h) : hatsX h 1 ∧ hatsOK h := by
  obtain ⟨⟨s1, s2, s3⟩, a2, a3, a4, m1, m2, m3, m4, m5, m6⟩ := BB_B6 i.1
  refine ⟨⟨by rw [s2]; exact m2, fun j hj => ?_⟩, ⟨by omega, fun j hj => (m6 j hj).2⟩⟩
  rw [s2] at hj
  obtain ⟨⟨-, b2, b3⟩, -⟩ := a4 j hj
  rw [b2, b3]; exact (m6 j hj).2
theorem c_closed {f m : Int} (i : INV k h) (hd : 9 ≤ d) : Ok G l d k 59 142 [vI f, vI m] h := by
  obtain ⟨h1, h2⟩ := INV_hats i
  refine ok_ex (s_closed h1 (by omega)) (m_closed h2 (by omega)) ?_ (INV_k i)
  by_cases hv : (0 ≤ f ∧ f ≤ 8) ∧ (0 ≤ m ∧ m ≤ 119)
  · rw [if_pos hv, if_pos hv]
    obtain ⟨⟨s1, s2, s3⟩, a2, a3, a4, m1, m2, m3, m4, m5, m6⟩ := BB_B6 i.1
    obtain ⟨ff, rfl⟩ : ∃ ff : Nat, f = (ff : Int) := ⟨f.toNat, by omega⟩
    have e1 := clX_bit (h := h) (g := h) (tt := 1) (mm := m) ff (by omega) (h 82 1).toNat (fun c hc => (a4 c (by omega)).1) (fun c hc => (a4 c (by omega)).2)
    have e2 := bit_rd (clX h 1 m (h 82 1).toNat) ff (by omega)
    have e3 := and1 (shr32 (clX h 1 m (h 82 1).toNat) ff)
    rw [s2]
    by_cases hb : clB h ff m (h 82 1).toNat = true
    · rw [e2.2 (by rw [e1]; exact hb)]
      unfold bi; rw [if_pos hb]
    · have : ¬ and32 (shr32 (clX h 1 m (h 82 1).toNat) ff) 1 = 1 := fun z => hb (by rw [← e1]; exact e2.1 z)
      unfold bi; rw [if_neg hb]; omega
  · rw [if_neg hv, if_neg hv]
end L3CALA
