section L3INV
/-- what MG says but for lanes and waits -/
def M6 (g : AH) : Prop := (0 ≤ g 82 5 ∧ g 82 5 ≤ 8) ∧ (0 ≤ g 82 1 ∧ g 82 1 ≤ 4) ∧ (1 ≤ g 82 0 ∧ g 82 0 ≤ 9) ∧ (0 ≤ g 88 0 ∧ g 88 0 ≤ 120) ∧ (∀ c : Nat, (c : Int) < g 82 5 → PG g 0 c) ∧ (∀ c : Nat, (c : Int) < g 82 1 → HG g c)
def B6 (h g : AH) (tt : Nat) : Prop := RS h g tt ∧ h tt 13 = g 88 0 ∧ R7 h g tt 0 ∧ RH h g tt ∧ M6 g
theorem BB_B6 {h g : AH} (hb : BB h g) : B6 h g 1 := by
  obtain ⟨a1, a2, a3, a4, m1, m2, m3, m4, m5, m6, m7, m8⟩ := hb
  exact ⟨a1, a2, a3, a4, m1, m2, m3, m4, m5, m6⟩
theorem B6_BB {h g : AH} (hb : B6 h g 1) (h98 : ∀ j, 0 ≤ g 98 j ∧ g 98 j ≤ 1000) (h100 : ∃ ww, ∀ j, 0 ≤ g 100 j ∧ g 100 j ≤ ww) : BB h g := by
  obtain ⟨a1, a2, a3, a4, m1, m2, m3, m4, m5, m6⟩ := hb
  exact ⟨a1, a2, a3, a4, m1, m2, m3, m4, m5, m6, h98, h100⟩
/-- the same tower in other cells -/
theorem B6_cg {h h' g g' : AH} {tt uu : Nat} (hb : B6 h g tt) (e0 : ∀ c, (c = 0 ∨ c = 8 ∨ c = 12 ∨ c = 13) → h' uu c = h tt c) (e1 : ∀ i c : Nat, 1 ≤ i → i ≤ 7 → c < 8 → (c : Int) < g 82 5 → h' (uu + i) c = h (tt + i) c) (e2 : ∀ i c : Nat, 8 ≤ i → i ≤ 10 → c < 4 → (c : Int) < g 82 1 → h' (uu + i) c = h (tt + i) c) (f0 : ∀ c, (c = 0 ∨ c = 1 ∨ c = 5) → g' 82 c = g 82 c) (f1 : ∀ c : Nat, c < 8 → g' 86 c = g 86 c ∧ g' 87 c = g 87 c) (f2 : ∀ c : Nat, c < 41 → g' 88 c = g 88 c) (f3 : ∀ c : Nat, c < 4 → (c : Int) < g 82 1 → g' 83 c = g 83 c ∧ g' 84 c = g 84 c ∧ g' 85 c = g 85 c) : B6 h' g' uu := by
  obtain ⟨⟨s1, s2, s3⟩, a2, a3, a4, m1, m2, m3, m4, m5, m6⟩ := hb
  have k0 := f0 0 (by omega)
  have k1 := f0 1 (by omega)
  have k5 := f0 5 (by omega)
  have l0 := f2 0 (by omega)
  refine ⟨⟨by rw [e0 _ (by omega), k5]; exact s1, by rw [e0 _ (by omega), k1]; exact s2, by rw [e0 _ (by omega), k0]; exact s3⟩, by rw [e0 _ (by omega), l0]; exact a2, fun c hc => ?_, fun c hc => ?_, by rw [k5]; exact m1, by rw [k1]; exact m2, by rw [k0]; exact m3, by rw [l0]; exact m4, fun c hc => ?_, fun c hc => ?_⟩
  · rw [k5] at hc
    have c8 : c < 8 := by omega
    rw [e1 _ _ (by omega) (by omega) c8 hc, e1 _ _ (by omega) (by omega) c8 hc, e1 _ _ (by omega) (by omega) c8 hc, e1 _ _ (by omega) (by omega) c8 hc, e1 _ _ (by omega) (by omega) c8 hc, e1 _ _ (by omega) (by omega) c8 hc, e1 _ _ (by omega) (by omega) c8 hc, (f1 c c8).1, (f1 c c8).2, f2 _ (by omega), f2 _ (by omega), f2 _ (by omega), f2 _ (by omega), f2 _ (by omega)]
    exact a3 c hc
  · rw [k1] at hc
    have c4 : c < 4 := by omega
    rw [e2 _ _ (by omega) (by omega) c4 hc, e2 _ _ (by omega) (by omega) c4 hc, e2 _ _ (by omega) (by omega) c4 hc, (f3 c c4 hc).1, (f3 c c4 hc).2.1, (f3 c c4 hc).2.2]
    exact a4 c hc
  · rw [k5] at hc
    have c8 : c < 8 := by omega
    have := m5 c hc
    unfold PG MH at *
    rw [(f1 c c8).1, (f1 c c8).2, f2 _ (by omega), f2 _ (by omega), f2 _ (by omega), f2 _ (by omega), f2 _ (by omega)]
    exact this
  · rw [k1] at hc
    have c4 : c < 4 := by omega
    unfold HG
    rw [(f3 c c4 hc).1, (f3 c c4 hc).2.1, (f3 c c4 hc).2.2]
    exact m6 c hc
/-- the model's tower that its kept row tells -/
def KG (h : AH) : AH := fun a c => if a = 82 then (if c = 5 then h 110 0 else if c = 1 then h 110 1 else h 110 2) else if a = 83 then h 110 (4 + c) else if a = 84 then h 110 (8 + c) else if a = 85 then h 110 (12 + c) else if a = 86 then h 110 (16 + c) else if a = 87 then h 110 (24 + c) else h 110 (32 + c)
def KP (h : AH) : Prop := (h 0 3 = 0 ∧ h 82 49 = 0) ∨ (h 0 3 = 1 ∧ h 82 49 = 1 ∧ B6 h (KG h) 23 ∧ h 23 14 = h 110 3)
def TP (h : AH) : Prop := h 42 1 = h 82 12 ∧ (0 ≤ h 82 12 ∧ h 82 12 ≤ 240) ∧ EB (h 43) (h 89) ∧ 0 ≤ h 42 3 ∧ 0 ≤ h 82 14
def RW (h : AH) : Prop := h 0 8 = h 82 35 ∧ (0 ≤ h 82 35 ∧ h 82 35 ≤ 20) ∧ ∀ i m : Nat, (i : Int) < h 82 35 → m < 3 → h (45 + i) m = h 101 (3 * i + m)
def SHE (h : AH) : Prop := ∀ ss : Nat, ss < 4 → (h (67 + 2 * ss) 0 = h 103 ss ∧ (-1 ≤ h 103 ss ∧ h 103 ss ≤ 3)) ∧ (h (67 + 2 * ss) 1 = h 104 ss ∧ (0 ≤ h 104 ss ∧ h 104 ss ≤ 40)) ∧ ∀ q : Nat, q < 40 → h (67 + 2 * ss + 1) q = h 105 (40 * ss + q) ∧ (-2147483648 ≤ h 105 (40 * ss + q) ∧ h 105 (40 * ss + q) ≤ 2147483647)
def SFE (h : AH) : Prop := ∀ v : Nat, v < 4 → (h 106 v = 0 ∧ h (76 + v) 0 = 0 ∧ h (76 + v) 1 = h 107 v) ∨ (h 106 v = 1 ∧ h (76 + v) 0 = 1 ∧ h (76 + v) 2 = h 107 v ∧ (0 ≤ h 107 v ∧ h 107 v ≤ 3) ∧ h (76 + v) 3 = h 108 v) ∨ (h 106 v = -1 ∧ h (76 + v) 0 ≠ 0 ∧ h (76 + v) 0 ≠ 1)
def ACE (h : AH) : Prop := h 80 4 = h 82 47 ∧ (0 ≤ h 82 47 ∧ h 82 47 ≤ 30) ∧ ∀ j : Nat, (j : Int) < h 82 47 → h 81 j = h 109 j
/-- what holds between any two calls -/
def INV (k : Nat) (h : AH) : Prop := BB h h ∧ CL h ∧ h 82 9 = 0 ∧ h 1 14 = h 82 10 ∧ (∀ j, 0 ≤ h 100 j ∧ h 100 j ≤ 2000000 * ((k : Int) + 1)) ∧ KP h ∧ TP h ∧ RW h ∧ SHE h ∧ SFE h ∧ ACE h
section
variable {h h' : AH}
theorem KP_cg (e : ∀ a c, (a = 0 ∧ c = 3) ∨ (23 ≤ a ∧ a ≤ 33) ∨ (a = 82 ∧ c = 49) ∨ a = 110 → h' a c = h a c) (q : KP h) : KP h' := by
  have kg : KG h' = KG h := by
    funext a c
    unfold KG
    have e110 : ∀ c, h' 110 c = h 110 c := fun c => e _ _ (by omega)
    simp only [e110]
  unfold KP at *
  rw [kg, e 0 3 (by omega), e 82 49 (by omega), e 23 14 (by omega), e 110 3 (by omega)]
  rcases q with q | ⟨q1, q2, q3, q4⟩
  · exact Or.inl q
  · exact Or.inr ⟨q1, q2, B6_cg q3 (fun c _ => e _ _ (by omega)) (fun i c _ _ _ _ => e _ _ (by omega)) (fun i c _ _ _ _ => e _ _ (by omega)) (fun _ _ => rfl) (fun _ _ => ⟨rfl, rfl⟩) (fun _ _ => rfl) (fun _ _ _ => ⟨rfl, rfl, rfl⟩), q4⟩
theorem TP_cg (e : ∀ a c, (a = 42 ∧ (c = 1 ∨ c = 3)) ∨ a = 43 ∨ (a = 82 ∧ (c = 12 ∨ c = 14)) ∨ a = 89 → h' a c = h a c) (q : TP h) : TP h' := by
  unfold TP EB at *
  have e43 : ∀ c, h' 43 c = h 43 c := fun c => e _ _ (by omega)
  have e89 : ∀ c, h' 89 c = h 89 c := fun c => e _ _ (by omega)
  simp only [e43, e89]
  rw [e 42 1 (by omega), e 42 3 (by omega), e 82 12 (by omega), e 82 14 (by omega)]
  exact q
theorem RW_cg (e : ∀ a c, (a = 0 ∧ c = 8) ∨ (45 ≤ a ∧ a ≤ 64) ∨ (a = 82 ∧ c = 35) ∨ a = 101 → h' a c = h a c) (q : RW h) : RW h' := by
  unfold RW at *
  rw [e 0 8 (by omega), e 82 35 (by omega)]
  refine ⟨q.1, q.2.1, fun i m hi hm => ?_⟩
  have := q.2.1
  rw [e _ _ (by omega), e 101 _ (by omega)]
  exact q.2.2 i m hi hm
theorem SHE_cg (e : ∀ a c, (67 ≤ a ∧ a ≤ 74) ∨ (103 ≤ a ∧ a ≤ 105) → h' a c = h a c) (q : SHE h) : SHE h' := by
  intro ss hs
  have := q ss hs
  rw [e (67 + 2 * ss) 0 (by omega), e (67 + 2 * ss) 1 (by omega), e 103 _ (by omega), e 104 _ (by omega)]
  refine ⟨this.1, this.2.1, fun q hq => ?_⟩
  rw [e (67 + 2 * ss + 1) q (by omega), e 105 _ (by omega)]
  exact this.2.2 q hq
theorem SFE_cg (e : ∀ a c, (76 ≤ a ∧ a ≤ 79) ∨ (106 ≤ a ∧ a ≤ 108) → h' a c = h a c) (q : SFE h) : SFE h' := by
  intro v hv
  have := q v hv
  rw [e (76 + v) 0 (by omega), e (76 + v) 1 (by omega), e (76 + v) 2 (by omega), e (76 + v) 3 (by omega), e 106 _ (by omega), e 107 _ (by omega), e 108 _ (by omega)]
  exact this
theorem ACE_cg (e : ∀ a c, (a = 80 ∧ c = 4) ∨ a = 81 ∨ (a = 82 ∧ c = 47) ∨ a = 109 → h' a c = h a c) (q : ACE h) : ACE h' := by
  unfold ACE at *
  have e81 : ∀ c, h' 81 c = h 81 c := fun c => e _ _ (by omega)
  have e109 : ∀ c, h' 109 c = h 109 c := fun c => e _ _ (by omega)
  simp only [e81, e109]
  rw [e 80 4 (by omega), e 82 47 (by omega)]
  exact q
theorem CL_cg (e : ∀ a c, (a = 39 ∨ a = 40) → h' a c = h a c) (q : CL h) : CL h' := ⟨fun j => by rw [e _ _ (by omega)]; exact q.1 j, fun j => by rw [e _ _ (by omega)]; exact q.2 j⟩
theorem INV_k {k : Nat} (q : INV k h) : INV (k + 1) h := by
  obtain ⟨q1, q2, q3, q4, q5, q6⟩ := q
  exact ⟨q1, q2, q3, q4, fun j => by have := q5 j; omega, q6⟩
/-- but for the tower of now all is as it was -/
theorem INV_T {k : Nat} (q : INV k h) (hb : BB h' h') (h9 : h' 82 9 = 0) (hz : h' 1 14 = h' 82 10) (hw : ∀ j, 0 ≤ h' 100 j ∧ h' 100 j ≤ 2000000 * ((k : Int) + 2)) (hc : CL h') (e : ∀ a c, (a < 1 ∨ (23 ≤ a ∧ a ≤ 33) ∨ (42 ≤ a ∧ a ≤ 64) ∨ (66 ≤ a ∧ a ≤ 81) ∨ (a = 82 ∧ (c = 12 ∨ c = 14 ∨ c = 35 ∨ c = 47 ∨ c = 49)) ∨ a = 89 ∨ a = 101 ∨ (103 ≤ a ∧ a ≤ 110)) → h' a c = h a c) : INV (k + 1) h' := by
  obtain ⟨q1, q2, q3, q4, q5, q6, q7, q8, q9, q10, q11⟩ := q
  exact ⟨hb, hc, h9, hz, fun j => by have := hw j; omega, KP_cg (fun a c z => e a c (by omega)) q6, TP_cg (fun a c z => e a c (by omega)) q7, RW_cg (fun a c z => e a c (by omega)) q8, SHE_cg (fun a c z => e a c (by omega)) q9, SFE_cg (fun a c z => e a c (by omega)) q10, ACE_cg (fun a c z => e a c (by omega)) q11⟩
end
end L3INV
