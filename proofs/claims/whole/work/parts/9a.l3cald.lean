section L3CALD
variable {G : GD} {l : Launch} {d k : Nat} {h h' : AH}
/-- a person comes in on both sides -/
theorem B6_n {nn : Nat} (hb : B6 h h 1) (hn : h 82 5 = (nn : Int)) (h8 : nn < 8) (e : ∀ a c, (1 ≤ a ∧ a ≤ 11 ∧ (a = 1 → c < 14 ∧ c ≠ 0)) ∨ (a = 82 ∧ c < 5) ∨ (83 ≤ a ∧ a ≤ 88) → ¬ (((2 ≤ a ∧ a ≤ 8) ∨ a = 86 ∨ a = 87) ∧ c = nn) → ¬ (a = 88 ∧ (c = 1 + nn ∨ c = 9 + nn ∨ c = 17 + nn ∨ c = 25 + nn ∨ c = 33 + nn)) → h' a c = h a c) (n0 : h' 1 0 = ((nn + 1 : Nat) : Int) ∧ h' 82 5 = ((nn + 1 : Nat) : Int)) (n1 : h' 2 nn = h' 86 nn ∧ h' 3 nn = h' 87 nn ∧ h' 4 nn = h' 88 (1 + nn) ∧ h' 5 nn = h' 88 (9 + nn) ∧ h' 6 nn = h' 88 (17 + nn) ∧ h' 7 nn = h' 88 (25 + nn) ∧ h' 8 nn = orN (h' 88 (33 + nn))) (n2 : ((0 ≤ h' 86 nn ∧ h' 86 nn ≤ 5) ∧ (0 ≤ h' 87 nn ∧ h' 87 nn ≤ 9)) ∧ (0 ≤ h' 88 (1 + nn) ∧ h' 88 (1 + nn) ≤ 9) ∧ (0 ≤ h' 88 (9 + nn) ∧ h' 88 (9 + nn) ≤ 9) ∧ (0 ≤ h' 88 (17 + nn) ∧ h' 88 (17 + nn) ≤ 120) ∧ (h' 88 (25 + nn) = 0 ∨ (h' 88 (25 + nn) = 1 ∧ (h' 86 nn = 1 ∨ h' 86 nn = 4))) ∧ (-1 ≤ h' 88 (33 + nn) ∧ h' 88 (33 + nn) ≤ 119)) : B6 h' h' 1 := by
  obtain ⟨⟨s1, s2, s3⟩, a2, a3, a4, m1, m2, m3, m4, m5, m6⟩ := hb
  have k0 := e 82 0 (by omega) (by omega) (by omega)
  have k1 := e 82 1 (by omega) (by omega) (by omega)
  have l0 := e 88 0 (by omega) (by omega) (by omega)
  refine ⟨⟨by rw [n0.1, n0.2], by rw [e _ _ (by omega) (by omega) (by omega), k1]; exact s2, by rw [e _ _ (by omega) (by omega) (by omega), k0]; exact s3⟩, by rw [e _ _ (by omega) (by omega) (by omega), l0]; exact a2, fun c hc => ?_, fun c hc => ?_, by rw [n0.2]; omega, by rw [k1]; exact m2, by rw [k0]; exact m3, by rw [l0]; exact m4, fun c hc => ?_, fun c hc => ?_⟩
  · rw [n0.2] at hc
    by_cases hcp : c = nn
    · subst hcp
      simp only [Nat.zero_add]
      exact n1
    · have := a3 c (by omega)
      simp only [Nat.zero_add] at *
      rw [e _ _ (by omega) (by omega) (by omega), e _ _ (by omega) (by omega) (by omega), e _ _ (by omega) (by omega) (by omega), e _ _ (by omega) (by omega) (by omega), e _ _ (by omega) (by omega) (by omega), e _ _ (by omega) (by omega) (by omega), e _ _ (by omega) (by omega) (by omega), e _ _ (by omega) (by omega) (by omega), e _ _ (by omega) (by omega) (by omega), e _ _ (by omega) (by omega) (by omega), e _ _ (by omega) (by omega) (by omega), e _ _ (by omega) (by omega) (by omega), e _ _ (by omega) (by omega) (by omega), e _ _ (by omega) (by omega) (by omega)]
      exact this
  · rw [k1] at hc
    rw [e _ _ (by omega) (by omega) (by omega), e _ _ (by omega) (by omega) (by omega), e _ _ (by omega) (by omega) (by omega), e _ _ (by omega) (by omega) (by omega), e _ _ (by omega) (by omega) (by omega), e _ _ (by omega) (by omega) (by omega)]
    exact a4 c hc
  · rw [n0.2] at hc
    by_cases hcp : c = nn
    · subst hcp
      unfold PG MH
      simp only [Nat.zero_add]
      exact n2
    · have := m5 c (by omega)
      unfold PG MH at *
      simp only [Nat.zero_add] at *
      rw [e 86 _ (by omega) (by omega) (by omega), e 87 _ (by omega) (by omega) (by omega), e 88 _ (by omega) (by omega) (by omega), e 88 _ (by omega) (by omega) (by omega), e 88 _ (by omega) (by omega) (by omega), e 88 _ (by omega) (by omega) (by omega), e 88 _ (by omega) (by omega) (by omega)]
      exact this
  · rw [k1] at hc
    unfold HG
    rw [e _ _ (by omega) (by omega) (by omega), e _ _ (by omega) (by omega) (by omega), e _ _ (by omega) (by omega) (by omega)]
    exact m6 c hc
def perH (h : AH) (nn : Nat) (kd a f g s : Int) : AH := hu (hu (hu (hu (hu (hu (hu (hu (hu (hu (hu (hu (hu (hu (hu (hu h 1 0 ((nn + 1 : Nat) : Int)) 2 nn kd) 3 nn a) 4 nn f) 5 nn g) 6 nn s) 7 nn 0) 8 nn (-9)) 86 nn kd) 87 nn a) 88 (1 + nn) f) 88 (9 + nn) g) 88 (17 + nn) s) 88 (25 + nn) 0) 88 (33 + nn) (-1)) 82 5 ((nn + 1 : Nat) : Int)
theorem perH_o {nn : Nat} {kd a f g s : Int} (x c : Nat) (z1 : x ≠ 1 ∨ c ≠ 0) (z2 : x ≠ 82 ∨ c ≠ 5) (z3 : ¬ (((2 ≤ x ∧ x ≤ 8) ∨ x = 86 ∨ x = 87) ∧ c = nn)) (z4 : ¬ (x = 88 ∧ (c = 1 + nn ∨ c = 9 + nn ∨ c = 17 + nn ∨ c = 25 + nn ∨ c = 33 + nn))) : perH h nn kd a f g s x c = h x c := by
  unfold perH
  rw [hu_o (by omega), hu_o (by omega), hu_o (by omega), hu_o (by omega), hu_o (by omega), hu_o (by omega), hu_o (by omega), hu_o (by omega), hu_o (by omega), hu_o (by omega), hu_o (by omega), hu_o (by omega), hu_o (by omega), hu_o (by omega), hu_o (by omega), hu_o (by omega)]
theorem perH_0 {nn : Nat} {kd a f g s : Int} : perH h nn kd a f g s 82 5 = ((nn + 1 : Nat) : Int) := by
  unfold perH
  simp only [hu_ap, true_and, if_true]
theorem perH_1 {nn : Nat} {kd a f g s : Int} : perH h nn kd a f g s 88 (33 + nn) = (-1) := by
  unfold perH
  rw [hu_o (by omega)]
  simp only [hu_ap, true_and, if_true]
theorem perH_2 {nn : Nat} {kd a f g s : Int} : perH h nn kd a f g s 88 (25 + nn) = 0 := by
  unfold perH
  rw [hu_o (by omega), hu_o (by omega)]
  simp only [hu_ap, true_and, if_true]
theorem perH_3 {nn : Nat} {kd a f g s : Int} : perH h nn kd a f g s 88 (17 + nn) = s := by
  unfold perH
  rw [hu_o (by omega), hu_o (by omega), hu_o (by omega)]
  simp only [hu_ap, true_and, if_true]
theorem perH_4 {nn : Nat} {kd a f g s : Int} : perH h nn kd a f g s 88 (9 + nn) = g := by
  unfold perH
  rw [hu_o (by omega), hu_o (by omega), hu_o (by omega), hu_o (by omega)]
  simp only [hu_ap, true_and, if_true]
theorem perH_5 {nn : Nat} {kd a f g s : Int} : perH h nn kd a f g s 88 (1 + nn) = f := by
  unfold perH
  rw [hu_o (by omega), hu_o (by omega), hu_o (by omega), hu_o (by omega), hu_o (by omega)]
  simp only [hu_ap, true_and, if_true]
theorem perH_6 {nn : Nat} {kd a f g s : Int} : perH h nn kd a f g s 87 nn = a := by
  unfold perH
  rw [hu_o (by omega), hu_o (by omega), hu_o (by omega), hu_o (by omega), hu_o (by omega), hu_o (by omega)]
  simp only [hu_ap, true_and, if_true]
theorem perH_7 {nn : Nat} {kd a f g s : Int} : perH h nn kd a f g s 86 nn = kd := by
  unfold perH
  rw [hu_o (by omega), hu_o (by omega), hu_o (by omega), hu_o (by omega), hu_o (by omega), hu_o (by omega), hu_o (by omega)]
  simp only [hu_ap, true_and, if_true]
theorem perH_8 {nn : Nat} {kd a f g s : Int} : perH h nn kd a f g s 8 nn = (-9) := by
  unfold perH
  rw [hu_o (by omega), hu_o (by omega), hu_o (by omega), hu_o (by omega), hu_o (by omega), hu_o (by omega), hu_o (by omega), hu_o (by omega)]
  simp only [hu_ap, true_and, if_true]
theorem perH_9 {nn : Nat} {kd a f g s : Int} : perH h nn kd a f g s 7 nn = 0 := by
  unfold perH
  rw [hu_o (by omega), hu_o (by omega), hu_o (by omega), hu_o (by omega), hu_o (by omega), hu_o (by omega), hu_o (by omega), hu_o (by omega), hu_o (by omega)]
  simp only [hu_ap, true_and, if_true]
theorem perH_10 {nn : Nat} {kd a f g s : Int} : perH h nn kd a f g s 6 nn = s := by
  unfold perH
  rw [hu_o (by omega), hu_o (by omega), hu_o (by omega), hu_o (by omega), hu_o (by omega), hu_o (by omega), hu_o (by omega), hu_o (by omega), hu_o (by omega), hu_o (by omega)]
  simp only [hu_ap, true_and, if_true]
theorem perH_11 {nn : Nat} {kd a f g s : Int} : perH h nn kd a f g s 5 nn = g := by
  unfold perH
  rw [hu_o (by omega), hu_o (by omega), hu_o (by omega), hu_o (by omega), hu_o (by omega), hu_o (by omega), hu_o (by omega), hu_o (by omega), hu_o (by omega), hu_o (by omega), hu_o (by omega)]
  simp only [hu_ap, true_and, if_true]
theorem perH_12 {nn : Nat} {kd a f g s : Int} : perH h nn kd a f g s 4 nn = f := by
  unfold perH
  rw [hu_o (by omega), hu_o (by omega), hu_o (by omega), hu_o (by omega), hu_o (by omega), hu_o (by omega), hu_o (by omega), hu_o (by omega), hu_o (by omega), hu_o (by omega), hu_o (by omega), hu_o (by omega)]
  simp only [hu_ap, true_and, if_true]
theorem perH_13 {nn : Nat} {kd a f g s : Int} : perH h nn kd a f g s 3 nn = a := by
  unfold perH
  rw [hu_o (by omega), hu_o (by omega), hu_o (by omega), hu_o (by omega), hu_o (by omega), hu_o (by omega), hu_o (by omega), hu_o (by omega), hu_o (by omega), hu_o (by omega), hu_o (by omega), hu_o (by omega), hu_o (by omega)]
  simp only [hu_ap, true_and, if_true]
theorem perH_14 {nn : Nat} {kd a f g s : Int} : perH h nn kd a f g s 2 nn = kd := by
  unfold perH
  rw [hu_o (by omega), hu_o (by omega), hu_o (by omega), hu_o (by omega), hu_o (by omega), hu_o (by omega), hu_o (by omega), hu_o (by omega), hu_o (by omega), hu_o (by omega), hu_o (by omega), hu_o (by omega), hu_o (by omega), hu_o (by omega)]
  simp only [hu_ap, true_and, if_true]
theorem perH_15 {nn : Nat} {kd a f g s : Int} : perH h nn kd a f g s 1 0 = ((nn + 1 : Nat) : Int) := by
  unfold perH
  rw [hu_o (by omega), hu_o (by omega), hu_o (by omega), hu_o (by omega), hu_o (by omega), hu_o (by omega), hu_o (by omega), hu_o (by omega), hu_o (by omega), hu_o (by omega), hu_o (by omega), hu_o (by omega), hu_o (by omega), hu_o (by omega), hu_o (by omega)]
  simp only [hu_ap, true_and, if_true]
theorem per_up {nn : Nat} {kd a f g s : Int} (i : INV k h) (hn : h 82 5 = (nn : Int)) (h8 : nn < 8) (hv : (0 ≤ kd ∧ kd ≤ 5) ∧ (0 ≤ a ∧ a ≤ 9) ∧ (0 ≤ f ∧ f ≤ 9) ∧ (0 ≤ g ∧ g ≤ 9)) (hs : 0 ≤ s ∧ s ≤ 99) : INV (k + 1) (perH h nn kd a f g s) := by
  refine INV_U i (B6_n (BB_B6 i.1) hn h8 (fun x c z1 z2 z3 => perH_o x c (by omega) (by omega) z2 z3) ⟨perH_15, perH_0⟩ ?_ ?_) (by rw [perH_o _ _ (by omega) (by omega) (by omega) (by omega), perH_o _ _ (by omega) (by omega) (by omega) (by omega)]; exact i.2.2.2.1) (fun x c z => perH_o x c (by omega) (by omega) (by omega) (by omega))
  · rw [perH_1, perH_2, perH_3, perH_4, perH_5, perH_6, perH_7, perH_8, perH_9, perH_10, perH_11, perH_12, perH_13, perH_14]
    exact ⟨rfl, rfl, rfl, rfl, rfl, rfl, rfl⟩
  · rw [perH_1, perH_2, perH_3, perH_4, perH_5, perH_6, perH_7]
    exact ⟨⟨hv.1, hv.2.1⟩, hv.2.2.1, hv.2.2.2, by omega, Or.inl rfl, by omega⟩
theorem c_person {kd a f g : Int} (i : INV k h) (hd : 9 ≤ d) : Ok G l d k 60 143 [vI kd, vI a, vI f, vI g] h := by
  obtain ⟨n1, n2, n3, n4, n5, n6⟩ := INV_n i
  have c := s_person (G := G) (l := l) (d := d) (h := h) (k := kd) (a := a) (f := f) (g := g) (by omega) (by omega)
  by_cases hv : (0 ≤ kd ∧ kd ≤ 5) ∧ (0 ≤ a ∧ a ≤ 9) ∧ (0 ≤ f ∧ f ≤ 9) ∧ (0 ≤ g ∧ g ≤ 9)
  · by_cases h8 : h 1 0 < 8
    · rw [if_pos hv, if_pos h8, if_pos ⟨hv, h8⟩] at c
      obtain ⟨nn, hn⟩ : ∃ nn : Nat, h 82 5 = (nn : Int) := ⟨(h 82 5).toNat, by omega⟩
      have e1 : ∀ s, addPersonX h 1 kd a f g s = hu (hu (hu (hu (hu (hu (hu (hu h 1 0 ((nn + 1 : Nat) : Int)) 2 nn kd) 3 nn a) 4 nn f) 5 nn g) 6 nn s) 7 nn 0) 8 nn (-9) := fun s => by
        unfold addPersonX sendX
        rw [if_pos h8, n1, hn, Int.toNat_natCast]; rfl
      rw [e1, n3] at c
      have q : ∀ s x c, 82 ≤ x → hu (hu (hu (hu (hu (hu (hu (hu h 1 0 ((nn + 1 : Nat) : Int)) 2 nn kd) 3 nn a) 4 nn f) 5 nn g) 6 nn s) 7 nn 0) 8 nn (-9) x c = h x c := fun s x c hx => by rw [hu_o (by omega), hu_o (by omega), hu_o (by omega), hu_o (by omega), hu_o (by omega), hu_o (by omega), hu_o (by omega), hu_o (by omega)]
      by_cases hm : 99 < h 88 0
      · rw [show min (h 88 0) 99 = 99 by omega] at c
        have m := m_personYa (G := G) (l := l) (d := d) (h := hu (hu (hu (hu (hu (hu (hu (hu h 1 0 ((nn + 1 : Nat) : Int)) 2 nn kd) 3 nn a) 4 nn f) 5 nn g) 6 nn 99) 7 nn 0) 8 nn (-9)) (nn := nn) (k := kd) (a := a) (f := f) (g := g) (by rw [q _ _ _ (by omega)]; exact hn) (by omega) hv (by rw [q _ _ _ (by omega)]; exact hm) (by omega)
        exact ok_ex c m (by omega) (per_up i hn (by omega) hv (by omega))
      · rw [show min (h 88 0) 99 = h 88 0 by omega] at c
        have m := m_personYb (G := G) (l := l) (d := d) (h := hu (hu (hu (hu (hu (hu (hu (hu h 1 0 ((nn + 1 : Nat) : Int)) 2 nn kd) 3 nn a) 4 nn f) 5 nn g) 6 nn (h 88 0)) 7 nn 0) 8 nn (-9)) (nn := nn) (k := kd) (a := a) (f := f) (g := g) (by rw [q _ _ _ (by omega)]; exact hn) (by omega) hv (by rw [q _ _ _ (by omega)]; exact hm) (by omega)
        rw [q _ 88 0 (by omega)] at m
        exact ok_ex c m (by omega) (per_up i hn (by omega) hv (by omega))
    · rw [if_pos hv, if_neg h8, if_neg (fun z => h8 z.2)] at c
      have m := m_personN (G := G) (l := l) (d := d) (h := h) (k := kd) (a := a) (f := f) (g := g) (fun z => z.2 (by omega)) (by omega)
      rw [if_pos hv] at m
      exact ok_ex c m rfl (INV_k i)
  · rw [if_neg hv, if_neg (fun z => hv z.1)] at c
    have m := m_personN (G := G) (l := l) (d := d) (h := h) (k := kd) (a := a) (f := f) (g := g) (fun z => hv z.1) (by omega)
    rw [if_neg hv] at m
    exact ok_ex c m rfl (INV_k i)
theorem c_minutes {n : Int} (i : INV k h) (hk : k ≤ 64) (hd : 9 ≤ d) : Ok G l d k 66 159 [vI n] h := by
  by_cases hn : 0 ≤ n ∧ n ≤ 60
  · obtain ⟨nn, rfl⟩ : ∃ nn : Nat, n = (nn : Int) := ⟨n.toNat, by omega⟩
    have xo : ∀ x c, (x < 1 ∨ 11 < x) → ¬ (34 ≤ x ∧ x ≤ 41) → minX nn (readyX h 1) x c = h x c := fun x c z1 z2 => by rw [minX_o x c ⟨z1, z2⟩, ready_o _ _ (by omega)]
    have x14 : minX nn (readyX h 1) 1 14 = h 1 14 := by rw [minX_14, ready_o _ _ (by omega)]
    have q9 := i.2.2.1
    have bx : BB h (minX nn (readyX h 1)) := by
      have e : ∀ x c, 82 ≤ x → minX nn (readyX h 1) x c = h x c := fun x c hx => xo x c (by omega) (by omega)
      refine B6_BB (B6_cg (BB_B6 i.1) (fun _ _ => rfl) (fun _ _ _ _ _ _ => rfl) (fun _ _ _ _ _ _ => rfl) (fun c _ => e _ _ (by omega)) (fun c _ => ⟨e _ _ (by omega), e _ _ (by omega)⟩) (fun c _ => e _ _ (by omega)) (fun c _ _ => ⟨e _ _ (by omega), e _ _ (by omega), e _ _ (by omega)⟩)) (fun j => by rw [e _ _ (by omega)]; exact i.1.2.2.2.2.2.2.2.2.2.2.1 j) ⟨_, fun j => by rw [e _ _ (by omega)]; exact i.2.2.2.2.1 j⟩
    obtain ⟨b1, b2, b3⟩ := BB_min bx i.2.1 (by rw [xo _ _ (by omega) (by omega)]; exact q9) nn
    have mi : MI (minX nn (readyX h 1)) 0 (2000000 * ((k : Int) + 1)) := MG_MI bx.2.2.2.2 (by rw [xo _ _ (by omega) (by omega)]; exact q9) (fun j => by rw [xo _ _ (by omega) (by omega)]; exact i.2.2.2.2.1 j)
    refine ok_ex (s_minutesY (by omega) (BB_TG i.1 i.2.1) (by omega)) (m_minutesY (by omega) mi (by omega) (by omega)) b1.2.1.symm ?_
    have mg := MI_go nn _ _ mi
    have go : ∀ x c, x ≠ 98 → x ≠ 99 → x ≠ 100 → x ≠ 88 → goMo 0 nn (minX nn (readyX h 1)) x c = minX nn (readyX h 1) x c := fun x c z1 z2 z3 z4 => goMo_o x c ⟨z1, z2, z3, Or.inl z4⟩ nn _ mi.2.1
    have bb : BB (goMo 0 nn (minX nn (readyX h 1))) (goMo 0 nn (minX nn (readyX h 1))) := by
      have mg := b1.2.2.2.2
      exact B6_BB (B6_cg (BB_B6 b1) (fun c _ => go _ _ (by omega) (by omega) (by omega) (by omega)) (fun _ _ _ _ _ _ => go _ _ (by omega) (by omega) (by omega) (by omega)) (fun _ _ _ _ _ _ => go _ _ (by omega) (by omega) (by omega) (by omega)) (fun c _ => rfl) (fun c _ => ⟨rfl, rfl⟩) (fun c _ => rfl) (fun c _ _ => ⟨rfl, rfl, rfl⟩)) mg.2.2.2.2.2.2.1 mg.2.2.2.2.2.2.2
    refine INV_T i bb b3 ?_ (fun j => by have := mg.2.2.2.1 j; omega) (CL_cg (fun x c z => go x c (by omega) (by omega) (by omega) (by omega)) b2) (fun x c z => by rw [go x c (by omega) (by omega) (by omega) (by omega), xo x c (by omega) (by omega)])
    rw [go _ _ (by omega) (by omega) (by omega) (by omega), go _ _ (by omega) (by omega) (by omega) (by omega), x14, xo _ _ (by omega) (by omega)]
    exact i.2.2.2.1
  · exact ok_ex (s_minutesO hn (by omega)) (m_minutesO hn (by omega)) rfl (INV_k i)
end L3CALD
