section L3CALH
variable {G : GD} {l : Launch} {d k : Nat} {h h' : AH}
def AQ (x y : AH) : Prop := x 80 4 = y 82 47 ∧ (0 ≤ y 82 47 ∧ y 82 47 ≤ 30) ∧ (∀ j : Nat, (j : Int) < y 82 47 → x 81 j = y 109 j) ∧ x 80 5 = 0
theorem bod_ran {x y : AH} (b : Int) (q : AQ x y) : AQ (bodX b x) (ranM b y) := by
  obtain ⟨q1, q2, q3, q4⟩ := q
  unfold bodX ranM
  by_cases hc : y 82 47 < 30
  · rw [if_pos (show x 80 5 = 0 ∧ x 80 4 < 30 by omega), if_pos hc]
    refine ⟨?_, ?_, fun j hj => ?_, ?_⟩
    · simp only [hu_ap, true_and, if_true]; omega
    · simp only [hu_ap, true_and, if_true]; omega
    · simp only [hu_ap, true_and, if_true] at hj
      rw [hu_o (show (81 : Nat) ≠ 80 ∨ j ≠ 4 by omega), hu_o (show (109 : Nat) ≠ 82 ∨ j ≠ 47 by omega)]
      simp only [hu_ap, true_and]
      rw [q1]
      by_cases hx : j = (y 82 47).toNat
      · rw [if_pos hx, if_pos hx]
      · rw [if_neg hx, if_neg hx]; exact q3 j (by omega)
    · rw [hu_o (by omega), hu_o (by omega)]; exact q4
  · rw [if_neg (show ¬ (x 80 5 = 0 ∧ x 80 4 < 30) by omega), if_neg hc]
    exact ⟨q1, q2, q3, q4⟩
theorem bods_rans : ∀ (L : List Int) (x y : AH), AQ x y → AQ (bodsX L x) (ransM L y)
  | [], _, _, q => q
  | b :: L, x, y, q => bods_rans L _ _ (bod_ran b q)
theorem bodX_fr (b : Int) (x : AH) (a c : Nat) (z : a ≠ 81 ∧ (a ≠ 80 ∨ c ≠ 4)) : bodX b x a c = x a c := by
  unfold bodX
  split
  · rw [hu_o (by omega), hu_o (by omega)]
  · rfl
theorem ranM_fr (b : Int) (x : AH) (a c : Nat) (z : a ≠ 109 ∧ (a ≠ 82 ∨ c ≠ 47)) : ranM b x a c = x a c := by
  unfold ranM
  split
  · rw [hu_o (by omega), hu_o (by omega)]
  · rfl
theorem bodsX_fr (a c : Nat) (z : a ≠ 81 ∧ (a ≠ 80 ∨ c ≠ 4)) : ∀ (L : List Int) (x : AH), bodsX L x a c = x a c
  | [], _ => rfl
  | b :: L, x => by rw [bodsX, bodsX_fr a c z L, bodX_fr b x a c z]
theorem ransM_fr (a c : Nat) (z : a ≠ 109 ∧ (a ≠ 82 ∨ c ≠ 47)) : ∀ (L : List Int) (x : AH), ransM L x a c = x a c
  | [], _ => rfl
  | b :: L, x => by rw [ransM, ransM_fr a c z L, ranM_fr b x a c z]
theorem actH_o {pp : Nat} (a c : Nat) (z : a ≠ 80) : actH h pp a c = h a c := by
  unfold actH; rw [hu_o (by omega), hu_o (by omega), hu_o (by omega), hu_o (by omega), hu_o (by omega)]
theorem actG_o {pp : Nat} (a c : Nat) (z : a ≠ 82 ∨ c < 43 ∨ 48 < c) : actG h pp a c = h a c := by
  unfold actG; rw [hu_o (by omega), hu_o (by omega), hu_o (by omega), hu_o (by omega), hu_o (by omega)]
theorem INV_A (i : INV k h) (e : ∀ a c, a ≠ 80 → a ≠ 81 → a ≠ 109 → (a ≠ 82 ∨ c < 43 ∨ 48 < c) → h' a c = h a c) (q : ACE h') : INV (k + 1) h' := by
  have i' := i
  obtain ⟨i1, i2, i3, i4, i5, i6, i7, i8, i9, i10, i11⟩ := i'
  exact INV_S i (fun a c z => e a c (by omega) (by omega) (by omega) (by omega)) (SHE_cg (fun a c z => e a c (by omega) (by omega) (by omega) (by omega)) i9) (SFE_cg (fun a c z => e a c (by omega) (by omega) (by omega) (by omega)) i10) q
theorem AQ_0 {x : AH} {pp : Nat} : AQ (actH h pp) (actG x pp) := by
  refine ⟨?_, ?_, fun j hj => ?_, ?_⟩
  · unfold actH actG; simp [hu]
  · unfold actG; simp [hu]
  · have : actG x pp 82 47 = 0 := by unfold actG; simp [hu]
    omega
  · unfold actH; simp [hu]
theorem act_upA (i : INV k h) (L : List Int) (pp : Nat) : INV (k + 1) (ransM L (actG (bodsX L (actH h pp)) pp)) := by
  refine INV_A i (fun a c z1 z2 z3 z4 => by rw [ransM_fr a c (by omega), actG_o a c z4, bodsX_fr a c (by omega), actH_o a c z1]) ?_
  obtain ⟨q1, q2, q3, -⟩ := bods_rans L _ _ (AQ_0 (h := h) (x := bodsX L (actH h pp)) (pp := pp))
  refine ⟨?_, q2, fun j hj => ?_⟩
  · rw [ransM_fr 80 4 (by omega), actG_o 80 4 (by omega)]; exact q1
  · rw [ransM_fr 81 j (by omega), actG_o 81 j (by omega)]; exact q3 j hj
theorem act_upB (i : INV k h) (L : List Int) (pp : Nat) : INV (k + 1) (hu (ransM L (actG (hu (bodsX L (actH h pp)) 80 5 1) pp)) 82 48 1) := by
  refine INV_A i (fun a c z1 z2 z3 z4 => by rw [hu_o (by omega), ransM_fr a c (by omega), actG_o a c z4, hu_o (by omega), bodsX_fr a c (by omega), actH_o a c z1]) ?_
  obtain ⟨q1, q2, q3, -⟩ := bods_rans L _ _ (AQ_0 (h := h) (x := hu (bodsX L (actH h pp)) 80 5 1) (pp := pp))
  refine ⟨?_, ?_, fun j hj => ?_⟩
  · rw [hu_o (by omega), hu_o (by omega), ransM_fr 80 4 (by omega), actG_o 80 4 (by omega), hu_o (by omega)]; exact q1
  · rw [hu_o (by omega)]; exact q2
  · rw [hu_o (by omega)] at hj
    rw [hu_o (by omega), hu_o (by omega), ransM_fr 81 j (by omega), actG_o 81 j (by omega), hu_o (by omega)]; exact q3 j hj
theorem ACE_00 {x : AH} (h1 : x 80 4 = 0) (h2 : x 82 47 = 0) : ACE x := ⟨by omega, by omega, fun j hj => by omega⟩
theorem c_act {q w x : Int} (i : INV k h) (hd : 9 ≤ d) : Ok G l d k 92 208 [vI q, vI w, vI x] h := by
  obtain ⟨n1, n2, n3, n4, n5, n6⟩ := INV_n i
  have hc : 0 ≤ h 1 0 ∧ h 1 0 ≤ 8 := by omega
  have zz : INV (k + 1) (hu (hu (hu h 80 4 0) 80 5 0) 82 47 0) := INV_A i (fun a c z1 z2 z3 z4 => by rw [hu_o (by omega), hu_o (by omega), hu_o (by omega)]) (ACE_00 (by simp [hu]) (by simp [hu]))
  by_cases hq : 0 ≤ q ∧ q ≤ 3
  case neg => exact ok_ex (s_actN hq (by omega)) (m_actN hq (by omega)) rfl zz
  obtain ⟨vv, rfl⟩ : ∃ vv : Nat, q = (vv : Int) := ⟨q.toNat, by omega⟩
  have hv : vv < 4 := by omega
  have sf := i.2.2.2.2.2.2.2.2.2.1 vv hv
  by_cases hp : h 106 vv = 0 ∧ (0 ≤ h 107 vv ∧ h 107 vv ≤ h 82 5 - 1)
  case neg =>
    have o : ∀ a c, a ≠ 80 → hu (hu h 80 4 0) 80 5 0 a c = h a c := fun a c z => by rw [hu_o (by omega), hu_o (by omega)]
    have ek : kindV h vv = -1 ∨ kindV h vv = 9 := by
      unfold kindV
      by_cases h1 : h 106 vv = 0
      · rw [if_pos h1, if_neg (fun z => hp ⟨h1, z⟩)]; exact Or.inl rfl
      · rw [if_neg h1]; split
        · exact Or.inl rfl
        · exact Or.inr rfl
    have ek2 : kindV (hu (hu h 80 4 0) 80 5 0) vv = kindV h vv := by
      unfold kindV; rw [o _ _ (by omega), o _ _ (by omega), o _ _ (by omega), o _ _ (by omega)]
    refine ok_ex (s_actZ hc hv (fun z => ?_) (by omega)) (m_actZ (h := hu (hu h 80 4 0) 80 5 0) (by rw [o _ _ (by omega)]; exact n2) hv (by rw [ek2]; omega) (by omega)) rfl zz
    rcases sf with s | s | s <;> omega
  obtain ⟨pp, hpp⟩ : ∃ pp : Nat, h 107 vv = (pp : Int) := ⟨(h 107 vv).toNat, by omega⟩
  have s2 : h (76 + vv) 0 = 0 ∧ h (76 + vv) 1 = (pp : Int) := by rcases sf with s | s | s <;> omega
  obtain ⟨⟨b1, b2, -⟩, ⟨c1, c2⟩, -⟩ := B6_at (BB_B6 i.1) (pp := pp) (by omega)
  have hP : (pp : Int) < h 1 0 := by omega
  by_cases hw : 0 ≤ w ∧ w ≤ 3
  case neg =>
    refine ok_ex (s_actO hc hv s2.1 s2.2 hP hw (by omega)) (m_actZ (h := actH h pp) (by rw [actH_o _ _ (by omega)]; exact n2) hv (fun z => hw z.1) (by omega)) rfl (INV_A i (fun a c z1 z2 z3 z4 => by rw [hu_o (by omega), actH_o a c z1]) (ACE_00 ?_ ?_))
    · rw [hu_o (by omega)]; unfold actH; simp [hu]
    · simp [hu]
  have q1 : ∀ L x c, 82 ≤ x → bodsX L (actH h pp) x c = h x c := fun L x c hx => by rw [bodsX_fr x c (by omega), actH_o x c (by omega)]
  have q2 : ∀ L x c, 82 ≤ x → hu (bodsX L (actH h pp)) 80 5 1 x c = h x c := fun L x c hx => by rw [hu_o (by omega), q1 L x c hx]
  have hpm : (pp : Int) < h 82 5 := by omega
  rcases (by omega : w = 0 ∨ w = 1 ∨ w = 2 ∨ w = 3) with rfl | rfl | rfl | rfl
  · have c := s_actM (G := G) (l := l) (d := d) (h := h) (vv := vv) (pp := pp) (w := 0) (x := x) hc hv s2.1 s2.2 hP (by omega) (by omega)
    have eT : actT (h 2 pp) 0 = cliT (h 86 pp) := by rw [b1]; rfl
    have eS : actS (h 2 pp) pp (h 3 pp) 0 x = cliS (h 86 pp) pp x := by rw [b1]; rfl
    rw [eT, eS] at c
    have m := m_act0 (G := G) (l := l) (d := d) (h := bodsX (cliT (h 86 pp)) (actH h pp)) (vv := vv) (pp := pp) (x := x) (by rw [q1 _ _ _ (by omega)]; exact n2) hv (by rw [q1 _ _ _ (by omega)]; exact hp.1) (by rw [q1 _ _ _ (by omega)]; exact hpp) (by rw [q1 _ _ _ (by omega)]; exact hpm) (by rw [q1 _ _ _ (by omega)]; exact c1) (by omega)
    rw [q1 _ 86 pp (by omega)] at m
    exact ok_ex c m rfl (act_upA i _ pp)
  · have c := s_actM (G := G) (l := l) (d := d) (h := h) (vv := vv) (pp := pp) (w := 1) (x := x) hc hv s2.1 s2.2 hP (by omega) (by omega)
    have eT : actT (h 2 pp) 1 = yieT (h 86 pp) := by rw [b1]; rfl
    have eS : actS (h 2 pp) pp (h 3 pp) 1 x = yieS (h 86 pp) pp (h 87 pp) x := by rw [b1, b2]; rfl
    rw [eT, eS] at c
    have m := m_act1 (G := G) (l := l) (d := d) (h := bodsX (yieT (h 86 pp)) (actH h pp)) (vv := vv) (pp := pp) (x := x) (by rw [q1 _ _ _ (by omega)]; exact n2) hv (by rw [q1 _ _ _ (by omega)]; exact hp.1) (by rw [q1 _ _ _ (by omega)]; exact hpp) (by rw [q1 _ _ _ (by omega)]; exact hpm) (by rw [q1 _ _ _ (by omega)]; exact c1) (by omega)
    rw [q1 _ 86 pp (by omega), q1 _ 87 pp (by omega)] at m
    exact ok_ex c m rfl (act_upA i _ pp)
  · by_cases he : h 3 pp = (pp : Int)
    · have c := s_actY2 (G := G) (l := l) (d := d) (h := h) (vv := vv) (pp := pp) (x := x) hc hv s2.1 s2.2 hP he (by omega)
      rw [b1] at c
      have m := m_act2Y (G := G) (l := l) (d := d) (h := hu (bodsX (shaP (h 86 pp)) (actH h pp)) 80 5 1) (vv := vv) (pp := pp) (x := x) (by rw [q2 _ _ _ (by omega)]; exact n2) hv (by rw [q2 _ _ _ (by omega)]; exact hp.1) (by rw [q2 _ _ _ (by omega)]; exact hpp) (by rw [q2 _ _ _ (by omega)]; exact hpm) (by rw [q2 _ _ _ (by omega)]; exact c1) (by rw [q2 _ _ _ (by omega), ← b2]; exact he) (by omega)
      rw [q2 _ 86 pp (by omega)] at m
      exact ok_ex c m rfl (act_upB i _ pp)
    · have c := s_actE (G := G) (l := l) (d := d) (h := h) (vv := vv) (pp := pp) (w := 2) (x := x) hc hv s2.1 s2.2 hP (by omega) (by rw [b2]; exact c2) he (by omega)
      have eT : actT (h 2 pp) 2 = shaT (h 86 pp) := by rw [b1]; rfl
      have eS : actS (h 2 pp) pp (h 3 pp) 2 x = shaS (h 86 pp) pp (h 87 pp) x := by rw [b1, b2]; rfl
      rw [eT, eS] at c
      have m := m_act2N (G := G) (l := l) (d := d) (h := bodsX (shaT (h 86 pp)) (actH h pp)) (vv := vv) (pp := pp) (x := x) (by rw [q1 _ _ _ (by omega)]; exact n2) hv (by rw [q1 _ _ _ (by omega)]; exact hp.1) (by rw [q1 _ _ _ (by omega)]; exact hpp) (by rw [q1 _ _ _ (by omega)]; exact hpm) (by rw [q1 _ _ _ (by omega)]; exact c1) (by rw [q1 _ _ _ (by omega)]; exact c2) (by rw [q1 _ _ _ (by omega), ← b2]; exact he) (by omega)
      rw [q1 _ 86 pp (by omega), q1 _ 87 pp (by omega)] at m
      exact ok_ex c m rfl (act_upA i _ pp)
  · by_cases hk : h 86 pp = 2 ∨ h 86 pp = 3
    · by_cases he : h 3 pp = (pp : Int)
      · have c := s_actY3 (G := G) (l := l) (d := d) (h := h) (vv := vv) (pp := pp) (x := x) hc hv s2.1 s2.2 hP (by rw [b1]; exact hk) he (by omega)
        rw [b1] at c
        have m := m_act3Y (G := G) (l := l) (d := d) (h := hu (bodsX (telP (h 86 pp)) (actH h pp)) 80 5 1) (vv := vv) (pp := pp) (x := x) (by rw [q2 _ _ _ (by omega)]; exact n2) hv (by rw [q2 _ _ _ (by omega)]; exact hp.1) (by rw [q2 _ _ _ (by omega)]; exact hpp) (by rw [q2 _ _ _ (by omega)]; exact hpm) (by rw [q2 _ _ _ (by omega)]; exact c1) (by rw [q2 _ _ _ (by omega)]; exact hk) (by rw [q2 _ _ _ (by omega), ← b2]; exact he) (by omega)
        rw [q2 _ 86 pp (by omega)] at m
        exact ok_ex c m rfl (act_upB i _ pp)
      · have c := s_actE (G := G) (l := l) (d := d) (h := h) (vv := vv) (pp := pp) (w := 3) (x := x) hc hv s2.1 s2.2 hP (by omega) (by rw [b2]; exact c2) he (by omega)
        have eT : actT (h 2 pp) 3 = telT (h 86 pp) := by rw [b1]; rfl
        have eS : actS (h 2 pp) pp (h 3 pp) 3 x = telS (h 86 pp) pp (h 87 pp) x := by rw [b1, b2]; rfl
        rw [eT, eS] at c
        have m := m_act3N (G := G) (l := l) (d := d) (h := bodsX (telT (h 86 pp)) (actH h pp)) (vv := vv) (pp := pp) (x := x) (by rw [q1 _ _ _ (by omega)]; exact n2) hv (by rw [q1 _ _ _ (by omega)]; exact hp.1) (by rw [q1 _ _ _ (by omega)]; exact hpp) (by rw [q1 _ _ _ (by omega)]; exact hpm) (by rw [q1 _ _ _ (by omega)]; exact c1) (by rw [q1 _ _ _ (by omega)]; exact c2) (by rw [q1 _ _ _ (by omega), ← b2]; exact he) (by omega)
        rw [q1 _ 86 pp (by omega), q1 _ 87 pp (by omega)] at m
        exact ok_ex c m rfl (act_upA i _ pp)
    · have c := s_actM (G := G) (l := l) (d := d) (h := h) (vv := vv) (pp := pp) (w := 3) (x := x) hc hv s2.1 s2.2 hP (Or.inr (Or.inr ⟨rfl, by rw [b1]; exact hk⟩)) (by omega)
      have eT : actT (h 2 pp) 3 = telT (h 86 pp) := by rw [b1]; rfl
      have eS : actS (h 2 pp) pp (h 3 pp) 3 x = telS (h 86 pp) pp (h 87 pp) x := by rw [b1, b2]; rfl
      rw [eT, eS] at c
      have m := m_act3M (G := G) (l := l) (d := d) (h := bodsX (telT (h 86 pp)) (actH h pp)) (vv := vv) (pp := pp) (x := x) (by rw [q1 _ _ _ (by omega)]; exact n2) hv (by rw [q1 _ _ _ (by omega)]; exact hp.1) (by rw [q1 _ _ _ (by omega)]; exact hpp) (by rw [q1 _ _ _ (by omega)]; exact hpm) (by rw [q1 _ _ _ (by omega)]; exact c1) (by rw [q1 _ _ _ (by omega)]; exact hk) (by omega)
      rw [q1 _ 86 pp (by omega), q1 _ 87 pp (by omega)] at m
      exact ok_ex c m rfl (act_upA i _ pp)
end L3CALH
