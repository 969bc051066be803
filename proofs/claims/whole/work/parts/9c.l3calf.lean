section L3CALF
variable {G : GD} {l : Launch} {d k : Nat} {h h' : AH}
theorem fill_v (A : Nat) : ∀ (n : Nat) (h : AH) (a c : Nat), forN (fun j x => hu x A j 0) n h a c = if a = A ∧ c < n then 0 else h a c
  | 0, h, a, c => by rw [if_neg (by omega)]; rfl
  | n + 1, h, a, c => by
    have e0 : forN (fun j x => hu x A j 0) (n + 1) h = hu (forN (fun j x => hu x A j 0) n h) A n 0 := rfl
    rw [e0]
    simp only [hu_ap]
    rw [fill_v A n h a c]
    by_cases hc : a = A ∧ c = n
    · rw [if_pos hc, if_pos (by omega)]
    · rw [if_neg hc]
      by_cases h2 : a = A ∧ c < n
      · rw [if_pos h2, if_pos (by omega)]
      · rw [if_neg h2, if_neg (by omega)]
theorem fil5_v (s : Nat) : ∀ (n : Nat) (h : AH) (a c : Nat), forN (fun j x => hu x 105 (40 * s + j) 0) n h a c = if a = 105 ∧ 40 * s ≤ c ∧ c < 40 * s + n then 0 else h a c
  | 0, h, a, c => by rw [if_neg (by omega)]; rfl
  | n + 1, h, a, c => by
    have e0 : forN (fun j x => hu x 105 (40 * s + j) 0) (n + 1) h = hu (forN (fun j x => hu x 105 (40 * s + j) 0) n h) 105 (40 * s + n) 0 := rfl
    rw [e0]
    simp only [hu_ap]
    rw [fil5_v s n h a c]
    by_cases hc : a = 105 ∧ c = 40 * s + n
    · rw [if_pos hc, if_pos (by omega)]
    · rw [if_neg hc]
      by_cases h2 : a = 105 ∧ 40 * s ≤ c ∧ c < 40 * s + n
      · rw [if_pos h2, if_pos (by omega)]
      · rw [if_neg h2, if_neg (by omega)]
/-- a call that changes sheets, shelves, actor only -/
theorem INV_S (i : INV k h) (e : ∀ a c, (a ≤ 66 ∨ (a = 82 ∧ (c < 43 ∨ c = 49)) ∨ (83 ≤ a ∧ a ≤ 102) ∨ a = 110) → h' a c = h a c) (q1 : SHE h') (q2 : SFE h') (q3 : ACE h') : INV (k + 1) h' := by
  obtain ⟨i1, i2, i3, i4, i5, i6, i7, i8, i9, i10, i11⟩ := INV_k i
  exact ⟨B6_BB (B6_cg (BB_B6 i1) (fun c _ => e _ _ (by omega)) (fun _ _ _ _ _ _ => e _ _ (by omega)) (fun _ _ _ _ _ _ => e _ _ (by omega)) (fun c _ => e _ _ (by omega)) (fun c _ => ⟨e _ _ (by omega), e _ _ (by omega)⟩) (fun c _ => e _ _ (by omega)) (fun c _ _ => ⟨e _ _ (by omega), e _ _ (by omega), e _ _ (by omega)⟩)) (fun j => by rw [e _ _ (by omega)]; exact i1.2.2.2.2.2.2.2.2.2.2.1 j) ⟨_, fun j => by rw [e _ _ (by omega)]; exact i5 j⟩, CL_cg (fun x c z => e x c (by omega)) i2, by rw [e _ _ (by omega)]; exact i3, by rw [e _ _ (by omega), e _ _ (by omega)]; exact i4, fun j => by rw [e _ _ (by omega)]; exact i5 j, KP_cg (fun x c z => e x c (by omega)) i6, TP_cg (fun x c z => e x c (by omega)) i7, RW_cg (fun x c z => e x c (by omega)) i8, q1, q2, q3⟩
theorem renew_up {ss : Nat} {kd nn : Int} (i : INV k h) (hs : ss < 4) (hk : -1 ≤ kd ∧ kd ≤ 3) (hn : 0 ≤ nn ∧ nn ≤ 40) : INV (k + 1) (renewM (renewX h ss kd nn) ss kd nn) := by
  have xv : ∀ a c, renewX h ss kd nn a c = if a = 67 + 2 * ss + 1 ∧ c < 40 then 0 else if a = 67 + 2 * ss ∧ c = 1 then nn else if a = 67 + 2 * ss ∧ c = 0 then kd else h a c := fun a c => by
    unfold renewX
    rw [fill_v]
    simp only [hu_ap]
  have mv : ∀ y : AH, ∀ a c, renewM y ss kd nn a c = if a = 105 ∧ 40 * ss ≤ c ∧ c < 40 * ss + 40 then 0 else if a = 104 ∧ c = ss then nn else if a = 103 ∧ c = ss then kd else y a c := fun y a c => by
    unfold renewM
    rw [fil5_v]
    simp only [hu_ap]
  have o : ∀ a c, (a < 67 ∨ 75 ≤ a) → (a < 103 ∨ 105 < a) → renewM (renewX h ss kd nn) ss kd nn a c = h a c := fun a c z1 z2 => by
    rw [mv, if_neg (by omega), if_neg (by omega), if_neg (by omega), xv, if_neg (by omega), if_neg (by omega), if_neg (by omega)]
  have i' := i
  obtain ⟨i1, i2, i3, i4, i5, i6, i7, i8, i9, i10, i11⟩ := i'
  refine INV_S i (fun a c z => o a c (by omega) (by omega)) (fun t ht => ?_) (SFE_cg (fun a c z => o a c (by omega) (by omega)) i10) (ACE_cg (fun a c z => o a c (by omega) (by omega)) i11)
  have j := i9 t ht
  by_cases hts : t = ss
  · subst hts
    refine ⟨⟨?_, ?_⟩, ⟨?_, ?_⟩, fun q hq => ⟨?_, ?_⟩⟩
    · rw [mv, if_neg (by omega), if_neg (by omega), if_neg (by omega), xv, if_neg (by omega), if_neg (by omega), if_pos ⟨rfl, rfl⟩, mv, if_neg (by omega), if_neg (by omega), if_pos ⟨rfl, rfl⟩]
    · rw [mv, if_neg (by omega), if_neg (by omega), if_pos ⟨rfl, rfl⟩]; exact hk
    · rw [mv, if_neg (by omega), if_neg (by omega), if_neg (by omega), xv, if_neg (by omega), if_pos ⟨rfl, rfl⟩, mv, if_neg (by omega), if_pos ⟨rfl, rfl⟩]
    · rw [mv, if_neg (by omega), if_pos ⟨rfl, rfl⟩]; exact hn
    · rw [mv, if_neg (by omega), if_neg (by omega), if_neg (by omega), xv, if_pos ⟨rfl, hq⟩, mv, if_pos (by omega)]
    · rw [mv, if_pos (by omega)]; omega
  · refine ⟨⟨?_, ?_⟩, ⟨?_, ?_⟩, fun q hq => ⟨?_, ?_⟩⟩
    · rw [mv, if_neg (by omega), if_neg (by omega), if_neg (by omega), xv, if_neg (by omega), if_neg (by omega), if_neg (by omega), mv, if_neg (by omega), if_neg (by omega), if_neg (by omega), xv, if_neg (by omega), if_neg (by omega), if_neg (by omega)]
      exact j.1.1
    · rw [mv, if_neg (by omega), if_neg (by omega), if_neg (by omega), xv, if_neg (by omega), if_neg (by omega), if_neg (by omega)]
      exact j.1.2
    · rw [mv, if_neg (by omega), if_neg (by omega), if_neg (by omega), xv, if_neg (by omega), if_neg (by omega), if_neg (by omega), mv, if_neg (by omega), if_neg (by omega), if_neg (by omega), xv, if_neg (by omega), if_neg (by omega), if_neg (by omega)]
      exact j.2.1.1
    · rw [mv, if_neg (by omega), if_neg (by omega), if_neg (by omega), xv, if_neg (by omega), if_neg (by omega), if_neg (by omega)]
      exact j.2.1.2
    · rw [mv, if_neg (by omega), if_neg (by omega), if_neg (by omega), xv, if_neg (by omega), if_neg (by omega), if_neg (by omega), mv, if_neg (by omega), if_neg (by omega), if_neg (by omega), xv, if_neg (by omega), if_neg (by omega), if_neg (by omega)]
      exact (j.2.2 q hq).1
    · rw [mv, if_neg (by omega), if_neg (by omega), if_neg (by omega), xv, if_neg (by omega), if_neg (by omega), if_neg (by omega)]
      exact (j.2.2 q hq).2
theorem c_sheet {q kd n : Int} (i : INV k h) (hd : 9 ≤ d) : Ok G l d k 87 189 [vI q, vI kd, vI n] h := by
  by_cases hq : 0 ≤ q ∧ q ≤ 3
  case neg => exact ok_ex (s_sheetO hq (by omega)) (m_sheetO hq (by omega)) rfl (INV_k i)
  obtain ⟨ss, rfl⟩ : ∃ ss : Nat, q = (ss : Int) := ⟨q.toNat, by omega⟩
  have c := s_sheetI (G := G) (l := l) (d := d) (h := h) (ss := ss) (k := kd) (nn := n) (by omega) (by omega)
  by_cases hv : (-1 ≤ kd ∧ kd ≤ 3) ∧ (kd < 0 ∨ (0 ≤ n ∧ n ≤ 40))
  · rw [if_pos hv.1, if_pos hv.1] at c
    by_cases hk : kd = -1
    · rw [if_pos hk, if_pos hk] at c
      subst hk
      exact ok_ex c (m_sheetY (kk := 0) (by omega) hv ⟨fun _ => rfl, fun z => by omega⟩ (by omega)) rfl (renew_up i (by omega) (by omega) (by omega))
    · rw [if_neg hk, if_neg hk, if_neg (by omega), if_neg (by omega), if_neg (by omega), if_neg (by omega)] at c
      exact ok_ex c (m_sheetY (kk := n) (by omega) hv ⟨fun z => by omega, fun _ => rfl⟩ (by omega)) rfl (renew_up i (by omega) (by omega) (by omega))
  · have m := m_sheetN (G := G) (l := l) (d := d) (h := h) (ss := ss) (k := kd) (nn := n) (by omega) hv (by omega)
    by_cases hk : -1 ≤ kd ∧ kd ≤ 3
    · have k1 : ¬ kd = -1 := by omega
      simp only [if_pos hk, if_neg k1] at c
      by_cases h40 : 40 < n
      · simp only [if_pos h40] at c
        rw [if_neg (by omega)] at m
        exact ok_ex c m rfl (INV_k i)
      · have n0 : n < 0 := by omega
        simp only [if_neg h40, if_pos n0] at c
        rw [if_pos (by omega)] at m
        exact ok_ex c m rfl (INV_k i)
    · rw [if_neg hk, if_neg hk] at c
      rw [if_neg (by omega)] at m
      exact ok_ex c m rfl (INV_k i)
theorem w8_r (z : Int) : -2147483648 ≤ w8 z ∧ w8 z ≤ 2147483647 := by
  rw [w8_bm]
  have a := Int.le_bmod (x := z) (m := 256) (by omega)
  have b := Int.bmod_lt (x := z) (m := 256) (by omega)
  omega
theorem w16_r (z : Int) : -2147483648 ≤ w16 z ∧ w16 z ≤ 2147483647 := by
  unfold w16
  rw [Int32.toInt_toInt16]
  have a := Int.le_bmod (x := (Int32.ofInt z).toInt) (m := 2 ^ 16) (by decide)
  have b := Int.bmod_lt (x := (Int32.ofInt z).toInt) (m := 2 ^ 16) (by decide)
  omega
theorem c_put {q ix v : Int} (i : INV k h) (hr : -2147483648 ≤ v ∧ v ≤ 2147483647) (hd : 9 ≤ d) : Ok G l d k 88 190 [vI q, vI ix, vI v] h := by
  by_cases hq : 0 ≤ q ∧ q ≤ 3
  case neg => exact ok_ex (s_putO hq (by omega)) (m_putO hq (by omega)) rfl (INV_k i)
  obtain ⟨ss, rfl⟩ : ∃ ss : Nat, q = (ss : Int) := ⟨q.toNat, by omega⟩
  obtain ⟨⟨t1, t2⟩, ⟨t3, t4⟩, t5⟩ := i.2.2.2.2.2.2.2.2.1 ss (by omega)
  have c := s_putI (G := G) (l := l) (d := d) (h := h) (ss := ss) (q := ix) (v := v) (by omega) (by omega) (by omega)
  by_cases hv : 0 ≤ h 103 ss ∧ 0 ≤ ix ∧ ix ≤ h 104 ss - 1
  · obtain ⟨qq, rfl⟩ : ∃ qq : Nat, ix = (qq : Int) := ⟨ix.toNat, by omega⟩
    have k1 : ¬ h (67 + 2 * ss) 0 = -1 := by omega
    have k2 : 0 ≤ (qq : Int) ∧ (qq : Int) ≤ h (67 + 2 * ss) 1 - 1 := by omega
    simp only [if_neg k1, if_pos k2, Int.toNat_natCast] at c
    have en : narX h ss v = narM h ss v := by unfold narX narM; rw [t1]
    have nr : -2147483648 ≤ narM h ss v ∧ narM h ss v ≤ 2147483647 := by
      unfold narM
      split
      · exact w8_r v
      · split
        · exact w16_r v
        · exact hr
    rw [en] at c
    have m := m_putY (G := G) (l := l) (d := d) (h := hu h (67 + 2 * ss + 1) qq (narM h ss v)) (ss := ss) (qq := qq) (v := v) (by omega) (by rw [hu_o (by omega)]; exact t4) (by rw [hu_o (by omega)]; omega) (by rw [hu_o (by omega)]; omega) (by omega)
    have en2 : narM (hu h (67 + 2 * ss + 1) qq (narM h ss v)) ss v = narM h ss v := by
      unfold narM; rw [hu_o (by omega)]
    rw [en2] at m
    refine ok_ex c m rfl ?_
    generalize narM h ss v = nv at *
    have o : ∀ x c, (x ≠ 67 + 2 * ss + 1 ∨ c ≠ qq) → (x ≠ 105 ∨ c ≠ 40 * ss + qq) → hu (hu h (67 + 2 * ss + 1) qq nv) 105 (40 * ss + qq) nv x c = h x c := fun x c z1 z2 => by rw [hu_o z2, hu_o z1]
    have i' := i
    obtain ⟨i1, i2, i3, i4, i5, i6, i7, i8, i9, i10, i11⟩ := i'
    refine INV_S i (fun a c z => o a c (by omega) (by omega)) (fun t ht => ?_) (SFE_cg (fun a c z => o a c (by omega) (by omega)) i10) (ACE_cg (fun a c z => o a c (by omega) (by omega)) i11)
    have j := i9 t ht
    rw [o _ _ (by omega) (by omega), o 103 t (by omega) (by omega), o (67 + 2 * t) 1 (by omega) (by omega), o 104 t (by omega) (by omega)]
    refine ⟨j.1, j.2.1, fun q hq => ?_⟩
    by_cases hx : t = ss ∧ q = qq
    · obtain ⟨rfl, rfl⟩ := hx
      refine ⟨by rw [hu_o (by omega)]; simp [hu], ?_⟩
      simp only [hu_ap, true_and, if_true]
      exact nr
    · rw [o _ _ (by omega) (by omega), o 105 _ (by omega) (by omega)]
      exact j.2.2 q hq
  · have m := m_putN (G := G) (l := l) (d := d) (h := h) (ss := ss) (q := ix) (v := v) (by omega) t4 hv (by omega)
    by_cases hk : h (67 + 2 * ss) 0 = -1
    · rw [if_pos hk, if_pos hk] at c
      rw [if_pos (by omega)] at m
      exact ok_ex c m rfl (INV_k i)
    · have k2 : ¬ (0 ≤ ix ∧ ix ≤ h (67 + 2 * ss) 1 - 1) := by omega
      simp only [if_neg hk, if_neg k2] at c
      rw [if_neg (by omega)] at m
      exact ok_ex c m rfl (INV_k i)
theorem c_item {q kd ix : Int} (i : INV k h) (hd : 9 ≤ d) : Ok G l d k 89 192 [vI q, vI kd, vI ix] h := by
  by_cases hq : 0 ≤ q ∧ q ≤ 3
  case neg => exact ok_ex (s_itemO hq (by omega)) (m_itemO hq (by omega)) rfl (INV_k i)
  obtain ⟨ss, rfl⟩ : ∃ ss : Nat, q = (ss : Int) := ⟨q.toNat, by omega⟩
  obtain ⟨⟨t1, t2⟩, ⟨t3, t4⟩, t5⟩ := i.2.2.2.2.2.2.2.2.1 ss (by omega)
  have c := s_itemI (G := G) (l := l) (d := d) (h := h) (ss := ss) (k := kd) (q := ix) (by omega) (by omega) (by omega)
  by_cases hv : (0 ≤ kd ∧ kd ≤ 3) ∧ h 103 ss = kd ∧ (0 ≤ ix ∧ ix ≤ h 104 ss - 1)
  · obtain ⟨qq, rfl⟩ : ∃ qq : Nat, ix = (qq : Int) := ⟨ix.toNat, by omega⟩
    rw [if_pos hv.1, if_neg (by omega), if_pos (by omega), if_pos (by omega), Int.toNat_natCast] at c
    have t := t5 qq (by omega)
    exact ok_ex c (m_itemY (by omega) t4 hv.1 hv.2.1 (by omega) (by omega)) (by rw [l2i_id t.2.1 t.2.2]; exact t.1.symm) (INV_k i)
  · refine ok_ex c (m_itemN (by omega) t4 hv (by omega)) ?_ (INV_k i)
    by_cases hk : 0 ≤ kd ∧ kd ≤ 3
    · simp only [if_pos hk]
      rw [t1, t3]
      (repeat' split) <;> first | rfl | omega
    · simp only [if_neg hk]
end L3CALF
