section L3CALI
variable {G : GD} {l : Launch} {d k : Nat} {h h' : AH}
theorem mvK_o {kc m0 : Nat} (a c : Nat) : ∀ (n : Nat) (x : AH), (a ≠ 110 ∨ c < m0 ∨ m0 + n ≤ c) → (a ≠ 82 ∨ c ≠ 51) → mvK kc m0 n x a c = x a c
  | 0, _, _, _ => rfl
  | n + 1, x, z1, z2 => by
    have e0 : mvK kc m0 (n + 1) x = hu (hu (mvK kc m0 n x) 110 (m0 + n) (mvK kc m0 n x kc n)) 82 51 ((m0 + n + 1 : Nat) : Int) := rfl
    rw [e0, hu_o z2, hu_o (by omega), mvK_o a c n x (by omega) z2]
theorem mvK_v {kc m0 : Nat} (hk : kc ≠ 110 ∧ kc ≠ 82) : ∀ (n : Nat) (x : AH) (c : Nat), c < n → mvK kc m0 n x 110 (m0 + c) = x kc c
  | 0, _, c, hc => by omega
  | n + 1, x, c, hc => by
    have e0 : mvK kc m0 (n + 1) x = hu (hu (mvK kc m0 n x) 110 (m0 + n) (mvK kc m0 n x kc n)) 82 51 ((m0 + n + 1 : Nat) : Int) := rfl
    rw [e0, hu_o (by omega)]
    by_cases e : c = n
    · subst e
      rw [mvK_o kc c c x (by omega) (by omega)]
      simp [hu]
    · rw [hu_o (by omega), mvK_v hk n x c (by omega)]
theorem mvA_o {kc m0 : Nat} (a c : Nat) : ∀ (n : Nat) (x : AH), (a ≠ kc ∨ n ≤ c) → (a ≠ 82 ∨ c ≠ 51) → mvA kc m0 n x a c = x a c
  | 0, _, _, _ => rfl
  | n + 1, x, z1, z2 => by
    have e0 : mvA kc m0 (n + 1) x = hu (hu (mvA kc m0 n x) kc n (mvA kc m0 n x 110 (m0 + n))) 82 51 ((m0 + n + 1 : Nat) : Int) := rfl
    rw [e0, hu_o z2, hu_o (by omega), mvA_o a c n x (by omega) z2]
theorem mvA_v {kc m0 : Nat} (hk : kc ≠ 110 ∧ kc ≠ 82) : ∀ (n : Nat) (x : AH) (c : Nat), c < n → mvA kc m0 n x kc c = x 110 (m0 + c)
  | 0, _, c, hc => by omega
  | n + 1, x, c, hc => by
    have e0 : mvA kc m0 (n + 1) x = hu (hu (mvA kc m0 n x) kc n (mvA kc m0 n x 110 (m0 + n))) 82 51 ((m0 + n + 1 : Nat) : Int) := rfl
    rw [e0, hu_o (by omega)]
    by_cases e : c = n
    · subst e
      rw [mvA_o 110 (m0 + c) c x (by omega) (by omega)]
      simp [hu]
    · rw [hu_o (by omega), mvA_v hk n x c (by omega)]
def k0M (h : AH) : AH := hu (hu (hu (hu (hu h 82 51 0) 111 0 (h 82 5)) 111 1 (h 82 1)) 111 2 (h 82 0)) 111 3 (h 82 10)
theorem k0M_o (a c : Nat) (z1 : a ≠ 111) (z2 : a ≠ 82 ∨ c ≠ 51) : k0M h a c = h a c := by
  unfold k0M; rw [hu_o (by omega), hu_o (by omega), hu_o (by omega), hu_o (by omega), hu_o z2]
theorem k0M_v : k0M h 111 0 = h 82 5 ∧ k0M h 111 1 = h 82 1 ∧ k0M h 111 2 = h 82 0 ∧ k0M h 111 3 = h 82 10 := by
  unfold k0M; simp [hu]
theorem keepM_eq : keepM h = mvK 88 32 41 (mvK 87 24 8 (mvK 86 16 8 (mvK 85 12 4 (mvK 84 8 4 (mvK 83 4 4 (mvK 111 0 4 (k0M h))))))) := rfl
theorem backM_eq : backM h = mvA 88 32 41 (mvA 87 24 8 (mvA 86 16 8 (mvA 85 12 4 (mvA 84 8 4 (mvA 83 4 4 (mvA 111 0 4 (k0M h))))))) := rfl
theorem keep_o (a c : Nat) (z1 : a ≠ 110) (z2 : a ≠ 111) (z3 : a ≠ 82 ∨ c ≠ 51) : keepM h a c = h a c := by
  rw [keepM_eq, mvK_o _ _ _ _ (by omega) z3, mvK_o _ _ _ _ (by omega) z3, mvK_o _ _ _ _ (by omega) z3, mvK_o _ _ _ _ (by omega) z3, mvK_o _ _ _ _ (by omega) z3, mvK_o _ _ _ _ (by omega) z3, mvK_o _ _ _ _ (by omega) z3, k0M_o _ _ z2 z3]
theorem keep_0 (c : Nat) (hc : c < 4) : keepM h 110 c = k0M h 111 c := by
  rw [keepM_eq, mvK_o _ _ _ _ (by omega) (by omega), mvK_o _ _ _ _ (by omega) (by omega), mvK_o _ _ _ _ (by omega) (by omega), mvK_o _ _ _ _ (by omega) (by omega), mvK_o _ _ _ _ (by omega) (by omega), mvK_o _ _ _ _ (by omega) (by omega)]
  have := mvK_v (kc := 111) (m0 := 0) (by omega) 4 (k0M h) c hc
  rw [Nat.zero_add] at this
  exact this
theorem keep_83 (c : Nat) (hc : c < 4) : keepM h 110 (4 + c) = h 83 c := by
  rw [keepM_eq, mvK_o _ _ _ _ (by omega) (by omega), mvK_o _ _ _ _ (by omega) (by omega), mvK_o _ _ _ _ (by omega) (by omega), mvK_o _ _ _ _ (by omega) (by omega), mvK_o _ _ _ _ (by omega) (by omega), mvK_v (by omega) _ _ _ hc, mvK_o _ _ _ _ (by omega) (by omega), k0M_o _ _ (by omega) (by omega)]
theorem keep_84 (c : Nat) (hc : c < 4) : keepM h 110 (8 + c) = h 84 c := by
  rw [keepM_eq, mvK_o _ _ _ _ (by omega) (by omega), mvK_o _ _ _ _ (by omega) (by omega), mvK_o _ _ _ _ (by omega) (by omega), mvK_o _ _ _ _ (by omega) (by omega), mvK_v (by omega) _ _ _ hc, mvK_o _ _ _ _ (by omega) (by omega), mvK_o _ _ _ _ (by omega) (by omega), k0M_o _ _ (by omega) (by omega)]
theorem keep_85 (c : Nat) (hc : c < 4) : keepM h 110 (12 + c) = h 85 c := by
  rw [keepM_eq, mvK_o _ _ _ _ (by omega) (by omega), mvK_o _ _ _ _ (by omega) (by omega), mvK_o _ _ _ _ (by omega) (by omega), mvK_v (by omega) _ _ _ hc, mvK_o _ _ _ _ (by omega) (by omega), mvK_o _ _ _ _ (by omega) (by omega), mvK_o _ _ _ _ (by omega) (by omega), k0M_o _ _ (by omega) (by omega)]
theorem keep_86 (c : Nat) (hc : c < 8) : keepM h 110 (16 + c) = h 86 c := by
  rw [keepM_eq, mvK_o _ _ _ _ (by omega) (by omega), mvK_o _ _ _ _ (by omega) (by omega), mvK_v (by omega) _ _ _ hc, mvK_o _ _ _ _ (by omega) (by omega), mvK_o _ _ _ _ (by omega) (by omega), mvK_o _ _ _ _ (by omega) (by omega), mvK_o _ _ _ _ (by omega) (by omega), k0M_o _ _ (by omega) (by omega)]
theorem keep_87 (c : Nat) (hc : c < 8) : keepM h 110 (24 + c) = h 87 c := by
  rw [keepM_eq, mvK_o _ _ _ _ (by omega) (by omega), mvK_v (by omega) _ _ _ hc, mvK_o _ _ _ _ (by omega) (by omega), mvK_o _ _ _ _ (by omega) (by omega), mvK_o _ _ _ _ (by omega) (by omega), mvK_o _ _ _ _ (by omega) (by omega), mvK_o _ _ _ _ (by omega) (by omega), k0M_o _ _ (by omega) (by omega)]
theorem keep_88 (c : Nat) (hc : c < 41) : keepM h 110 (32 + c) = h 88 c := by
  rw [keepM_eq, mvK_v (by omega) _ _ _ hc, mvK_o _ _ _ _ (by omega) (by omega), mvK_o _ _ _ _ (by omega) (by omega), mvK_o _ _ _ _ (by omega) (by omega), mvK_o _ _ _ _ (by omega) (by omega), mvK_o _ _ _ _ (by omega) (by omega), mvK_o _ _ _ _ (by omega) (by omega), k0M_o _ _ (by omega) (by omega)]
theorem back_o (a c : Nat) (z1 : a < 83 ∨ 88 < a) (z2 : a ≠ 111) (z3 : a ≠ 82 ∨ c ≠ 51) : backM h a c = h a c := by
  rw [backM_eq, mvA_o _ _ _ _ (by omega) z3, mvA_o _ _ _ _ (by omega) z3, mvA_o _ _ _ _ (by omega) z3, mvA_o _ _ _ _ (by omega) z3, mvA_o _ _ _ _ (by omega) z3, mvA_o _ _ _ _ (by omega) z3, mvA_o _ _ _ _ (by omega) z3, k0M_o _ _ z2 z3]
theorem back_111 (c : Nat) (hc : c < 4) : backM h 111 c = h 110 c := by
  rw [backM_eq, mvA_o _ _ _ _ (by omega) (by omega), mvA_o _ _ _ _ (by omega) (by omega), mvA_o _ _ _ _ (by omega) (by omega), mvA_o _ _ _ _ (by omega) (by omega), mvA_o _ _ _ _ (by omega) (by omega), mvA_o _ _ _ _ (by omega) (by omega), mvA_v (by omega) _ _ _ hc, k0M_o _ _ (by omega) (by omega), Nat.zero_add]
theorem back_83 (c : Nat) (hc : c < 4) : backM h 83 c = h 110 (4 + c) := by
  rw [backM_eq, mvA_o _ _ _ _ (by omega) (by omega), mvA_o _ _ _ _ (by omega) (by omega), mvA_o _ _ _ _ (by omega) (by omega), mvA_o _ _ _ _ (by omega) (by omega), mvA_o _ _ _ _ (by omega) (by omega), mvA_v (by omega) _ _ _ hc, mvA_o _ _ _ _ (by omega) (by omega), k0M_o _ _ (by omega) (by omega)]
theorem back_84 (c : Nat) (hc : c < 4) : backM h 84 c = h 110 (8 + c) := by
  rw [backM_eq, mvA_o _ _ _ _ (by omega) (by omega), mvA_o _ _ _ _ (by omega) (by omega), mvA_o _ _ _ _ (by omega) (by omega), mvA_o _ _ _ _ (by omega) (by omega), mvA_v (by omega) _ _ _ hc, mvA_o _ _ _ _ (by omega) (by omega), mvA_o _ _ _ _ (by omega) (by omega), k0M_o _ _ (by omega) (by omega)]
theorem back_85 (c : Nat) (hc : c < 4) : backM h 85 c = h 110 (12 + c) := by
  rw [backM_eq, mvA_o _ _ _ _ (by omega) (by omega), mvA_o _ _ _ _ (by omega) (by omega), mvA_o _ _ _ _ (by omega) (by omega), mvA_v (by omega) _ _ _ hc, mvA_o _ _ _ _ (by omega) (by omega), mvA_o _ _ _ _ (by omega) (by omega), mvA_o _ _ _ _ (by omega) (by omega), k0M_o _ _ (by omega) (by omega)]
theorem back_86 (c : Nat) (hc : c < 8) : backM h 86 c = h 110 (16 + c) := by
  rw [backM_eq, mvA_o _ _ _ _ (by omega) (by omega), mvA_o _ _ _ _ (by omega) (by omega), mvA_v (by omega) _ _ _ hc, mvA_o _ _ _ _ (by omega) (by omega), mvA_o _ _ _ _ (by omega) (by omega), mvA_o _ _ _ _ (by omega) (by omega), mvA_o _ _ _ _ (by omega) (by omega), k0M_o _ _ (by omega) (by omega)]
theorem back_87 (c : Nat) (hc : c < 8) : backM h 87 c = h 110 (24 + c) := by
  rw [backM_eq, mvA_o _ _ _ _ (by omega) (by omega), mvA_v (by omega) _ _ _ hc, mvA_o _ _ _ _ (by omega) (by omega), mvA_o _ _ _ _ (by omega) (by omega), mvA_o _ _ _ _ (by omega) (by omega), mvA_o _ _ _ _ (by omega) (by omega), mvA_o _ _ _ _ (by omega) (by omega), k0M_o _ _ (by omega) (by omega)]
theorem back_88 (c : Nat) (hc : c < 41) : backM h 88 c = h 110 (32 + c) := by
  rw [backM_eq, mvA_v (by omega) _ _ _ hc, mvA_o _ _ _ _ (by omega) (by omega), mvA_o _ _ _ _ (by omega) (by omega), mvA_o _ _ _ _ (by omega) (by omega), mvA_o _ _ _ _ (by omega) (by omega), mvA_o _ _ _ _ (by omega) (by omega), mvA_o _ _ _ _ (by omega) (by omega), k0M_o _ _ (by omega) (by omega)]
theorem back_88o (c : Nat) (hc : 41 ≤ c) : backM h 88 c = h 88 c := by
  rw [backM_eq, mvA_o _ _ _ _ (by omega) (by omega), mvA_o _ _ _ _ (by omega) (by omega), mvA_o _ _ _ _ (by omega) (by omega), mvA_o _ _ _ _ (by omega) (by omega), mvA_o _ _ _ _ (by omega) (by omega), mvA_o _ _ _ _ (by omega) (by omega), mvA_o _ _ _ _ (by omega) (by omega), k0M_o _ _ (by omega) (by omega)]
/-- a tower's copy tells the same -/
theorem bec_p {tt ss : Nat} (ht : isT tt) (hs : isT ss) (hne : tt ≠ ss) (x c : Nat) (h1 : 1 ≤ x) (h7 : x ≤ 7) (hc : (c : Int) < h ss 0) : becomeX h tt ss (tt + x) c = h (ss + x) c := by
  rcases (by omega : x = 1 ∨ x = 2 ∨ x = 3 ∨ x = 4 ∨ x = 5 ∨ x = 6 ∨ x = 7) with rfl | rfl | rfl | rfl | rfl | rfl | rfl
  · rw [bec_1 ht hs hne, if_pos (by omega)]
  · rw [bec_2 ht hs hne, if_pos (by omega)]
  · rw [bec_3 ht hs hne, if_pos (by omega)]
  · rw [bec_4 ht hs hne, if_pos (by omega)]
  · rw [bec_5 ht hs hne, if_pos (by omega)]
  · rw [bec_6 ht hs hne, if_pos (by omega)]
  · rw [bec_7 ht hs hne, if_pos (by omega)]
theorem bec_h {tt ss : Nat} (ht : isT tt) (hs : isT ss) (hne : tt ≠ ss) (x c : Nat) (h1 : 8 ≤ x) (h7 : x ≤ 10) (hc : (c : Int) < h ss 8) : becomeX h tt ss (tt + x) c = h (ss + x) c := by
  rcases (by omega : x = 8 ∨ x = 9 ∨ x = 10) with rfl | rfl | rfl
  · rw [bec_8 ht hs hne, if_pos (by omega)]
  · rw [bec_9 ht hs hne, if_pos (by omega)]
  · rw [bec_10 ht hs hne, if_pos (by omega)]
theorem c_keep (i : INV k h) (hd : 9 ≤ d) : Ok G l d k 95 213 [] h := by
  obtain ⟨n1, n2, n3, n4, n5, n6⟩ := INV_n i
  refine ok_ex (s_keep (by omega) (by omega) (by omega)) (m_keep (by omega)) rfl ?_
  have xo : ∀ a c, (a < 23 ∨ 33 < a) → (a ≠ 0 ∨ c ≠ 3) → hu (becomeX h 23 1) 0 3 1 a c = h a c := fun a c z1 z2 => by rw [hu_o z2, bec_o _ _ (by omega)]
  have xi : ∀ a c, 23 ≤ a → hu (becomeX h 23 1) 0 3 1 a c = becomeX h 23 1 a c := fun a c z => hu_o (by omega)
  have x3 : hu (becomeX h 23 1) 0 3 1 0 3 = 1 := by simp [hu]
  generalize hu (becomeX h 23 1) 0 3 1 = y at *
  have go : ∀ a c, a ≠ 110 → a ≠ 111 → (a ≠ 82 ∨ c ≠ 51) → (a ≠ 82 ∨ c ≠ 49) → hu (keepM y) 82 49 1 a c = y a c := fun a c z1 z2 z3 z4 => by rw [hu_o z4, keep_o a c z1 z2 z3]
  have g1 : ∀ c, hu (keepM y) 82 49 1 110 c = keepM y 110 c := fun c => hu_o (by omega)
  have o : ∀ a c, (a < 23 ∨ 33 < a) → (a ≠ 0 ∨ c ≠ 3) → a ≠ 110 → a ≠ 111 → (a ≠ 82 ∨ c ≠ 51) → (a ≠ 82 ∨ c ≠ 49) → hu (keepM y) 82 49 1 a c = h a c := fun a c z1 z2 z3 z4 z5 z6 => by rw [go a c z3 z4 z5 z6, xo a c z1 z2]
  obtain ⟨v0, v1, v2, v3⟩ := k0M_v (h := y)
  have i' := i
  obtain ⟨i1, i2, i3, i4, i5, i6, i7, i8, i9, i10, i11⟩ := INV_k i'
  refine ⟨B6_BB (B6_cg (BB_B6 i1) (fun c _ => o _ _ (by omega) (by omega) (by omega) (by omega) (by omega) (by omega)) (fun _ _ _ _ _ _ => o _ _ (by omega) (by omega) (by omega) (by omega) (by omega) (by omega)) (fun _ _ _ _ _ _ => o _ _ (by omega) (by omega) (by omega) (by omega) (by omega) (by omega)) (fun c _ => o _ _ (by omega) (by omega) (by omega) (by omega) (by omega) (by omega)) (fun c _ => ⟨o _ _ (by omega) (by omega) (by omega) (by omega) (by omega) (by omega), o _ _ (by omega) (by omega) (by omega) (by omega) (by omega) (by omega)⟩) (fun c _ => o _ _ (by omega) (by omega) (by omega) (by omega) (by omega) (by omega)) (fun c _ _ => ⟨o _ _ (by omega) (by omega) (by omega) (by omega) (by omega) (by omega), o _ _ (by omega) (by omega) (by omega) (by omega) (by omega) (by omega), o _ _ (by omega) (by omega) (by omega) (by omega) (by omega) (by omega)⟩)) (fun j => by rw [o _ _ (by omega) (by omega) (by omega) (by omega) (by omega) (by omega)]; exact i1.2.2.2.2.2.2.2.2.2.2.1 j) ⟨_, fun j => by rw [o _ _ (by omega) (by omega) (by omega) (by omega) (by omega) (by omega)]; exact i5 j⟩, CL_cg (fun x c z => o x c (by omega) (by omega) (by omega) (by omega) (by omega) (by omega)) i2, by rw [o _ _ (by omega) (by omega) (by omega) (by omega) (by omega) (by omega)]; exact i3, by rw [o _ _ (by omega) (by omega) (by omega) (by omega) (by omega) (by omega), o _ _ (by omega) (by omega) (by omega) (by omega) (by omega) (by omega)]; exact i4, fun j => by rw [o _ _ (by omega) (by omega) (by omega) (by omega) (by omega) (by omega)]; exact i5 j, Or.inr ⟨?_, ?_, ?_, ?_⟩, TP_cg (fun x c z => o x c (by omega) (by omega) (by omega) (by omega) (by omega) (by omega)) i7, RW_cg (fun x c z => o x c (by omega) (by omega) (by omega) (by omega) (by omega) (by omega)) i8, SHE_cg (fun x c z => o x c (by omega) (by omega) (by omega) (by omega) (by omega) (by omega)) i9, SFE_cg (fun x c z => o x c (by omega) (by omega) (by omega) (by omega) (by omega) (by omega)) i10, ACE_cg (fun x c z => o x c (by omega) (by omega) (by omega) (by omega) (by omega) (by omega)) i11⟩
  · rw [go _ _ (by omega) (by omega) (by omega) (by omega)]; exact x3
  · simp [hu]
  · refine B6_cg (BB_B6 i1) (fun c hc => ?_) (fun x c z1 z2 z3 z4 => ?_) (fun x c z1 z2 z3 z4 => ?_) (fun c hc => ?_) (fun c hc => ⟨?_, ?_⟩) (fun c hc => ?_) (fun c hc _ => ⟨?_, ?_, ?_⟩)
    · rw [go _ _ (by omega) (by omega) (by omega) (by omega), xi _ _ (by omega), bec_s _ (by omega)]
    · rw [go _ _ (by omega) (by omega) (by omega) (by omega), xi _ _ (by omega), bec_p isT23 isT1 (by omega) x c z1 z2 (by omega)]
    · rw [go _ _ (by omega) (by omega) (by omega) (by omega), xi _ _ (by omega), bec_h isT23 isT1 (by omega) x c z1 z2 (by omega)]
    · unfold KG
      rw [if_pos rfl]
      rcases hc with rfl | rfl | rfl
      · rw [if_neg (by omega), if_neg (by omega), g1, keep_0 _ (by omega), v2, xo _ _ (by omega) (by omega)]
      · rw [if_neg (by omega), if_pos rfl, g1, keep_0 _ (by omega), v1, xo _ _ (by omega) (by omega)]
      · rw [if_pos rfl, g1, keep_0 _ (by omega), v0, xo _ _ (by omega) (by omega)]
    · unfold KG
      rw [if_neg (by omega), if_neg (by omega), if_neg (by omega), if_neg (by omega), if_pos rfl, g1, keep_86 _ hc, xo _ _ (by omega) (by omega)]
    · unfold KG
      rw [if_neg (by omega), if_neg (by omega), if_neg (by omega), if_neg (by omega), if_neg (by omega), if_pos rfl, g1, keep_87 _ hc, xo _ _ (by omega) (by omega)]
    · unfold KG
      rw [if_neg (by omega), if_neg (by omega), if_neg (by omega), if_neg (by omega), if_neg (by omega), if_neg (by omega), g1, keep_88 _ hc, xo _ _ (by omega) (by omega)]
    · unfold KG
      rw [if_neg (by omega), if_pos rfl, g1, keep_83 _ hc, xo _ _ (by omega) (by omega)]
    · unfold KG
      rw [if_neg (by omega), if_neg (by omega), if_pos rfl, g1, keep_84 _ hc, xo _ _ (by omega) (by omega)]
    · unfold KG
      rw [if_neg (by omega), if_neg (by omega), if_neg (by omega), if_pos rfl, g1, keep_85 _ hc, xo _ _ (by omega) (by omega)]
  · rw [go _ _ (by omega) (by omega) (by omega) (by omega), xi _ _ (by omega), bec_s _ (by omega), g1, keep_0 _ (by omega), v3, xo _ _ (by omega) (by omega)]
    exact i4
theorem c_again (i : INV k h) (hd : 9 ≤ d) : Ok G l d k 96 214 [] h := by
  have i' := i
  obtain ⟨i1, i2, i3, i4, i5, i6, i7, i8, i9, i10, i11⟩ := i'
  rcases i6 with ⟨k1, k2⟩ | ⟨k1, k2, b6, k4⟩
  · exact ok_ex (s_againN k1 (by omega)) (m_againN k2 (by omega)) rfl (INV_k i)
  · have b6' := b6
    obtain ⟨⟨s1, s2, s3⟩, a2, a3, a4, m1, m2, m3, m4, m5, m6⟩ := b6'
    have e5 : KG h 82 5 = h 110 0 := rfl
    have e1 : KG h 82 1 = h 110 1 := rfl
    have e0 : KG h 82 0 = h 110 2 := rfl
    have e8 : KG h 88 0 = h 110 32 := rfl
    have xo : ∀ a c, (a < 1 ∨ 11 < a) → becomeX h 1 23 a c = h a c := fun a c z1 => bec_o _ _ (by omega)
    refine ok_ex (s_againY (by omega) (by omega) (by omega) (by omega)) (m_againY (h := becomeX h 1 23) (by rw [xo _ _ (by omega)]; omega) (by omega)) (by rw [back_88 _ (by omega), xo _ _ (by omega)]; exact (a2.trans e8).symm) ?_
    rw [back_111 _ (by omega), back_111 _ (by omega), back_111 _ (by omega), back_111 _ (by omega), xo _ _ (by omega), xo _ _ (by omega), xo _ _ (by omega), xo _ _ (by omega)]
    have y1 : ∀ c, (c = 0 ∨ c = 8 ∨ c = 12 ∨ c = 13 ∨ c = 14) → becomeX h 1 23 1 c = h 23 c := fun c hc => bec_s _ hc
    have yp : ∀ x c : Nat, 1 ≤ x → x ≤ 7 → (c : Int) < h 23 0 → becomeX h 1 23 (1 + x) c = h (23 + x) c := fun x c z1 z2 z3 => bec_p isT1 isT23 (by omega) x c z1 z2 z3
    have yh : ∀ x c : Nat, 8 ≤ x → x ≤ 10 → (c : Int) < h 23 8 → becomeX h 1 23 (1 + x) c = h (23 + x) c := fun x c z1 z2 z3 => bec_h isT1 isT23 (by omega) x c z1 z2 z3
    generalize becomeX h 1 23 = y at *
    have o1 : ∀ a c, (a ≠ 82 ∨ (c ≠ 0 ∧ c ≠ 1 ∧ c ≠ 5 ∧ c ≠ 10)) → hu (hu (hu (hu (backM y) 82 5 (h 110 0)) 82 1 (h 110 1)) 82 0 (h 110 2)) 82 10 (h 110 3) a c = backM y a c := fun a c z => by rw [hu_o (by omega), hu_o (by omega), hu_o (by omega), hu_o (by omega)]
    have o2 : ∀ a c, (a < 83 ∨ 88 < a) → a ≠ 111 → (a ≠ 82 ∨ (c ≠ 0 ∧ c ≠ 1 ∧ c ≠ 5 ∧ c ≠ 10 ∧ c ≠ 51)) → hu (hu (hu (hu (backM y) 82 5 (h 110 0)) 82 1 (h 110 1)) 82 0 (h 110 2)) 82 10 (h 110 3) a c = y a c := fun a c z1 z2 z3 => by rw [o1 a c (by omega), back_o a c z1 z2 (by omega)]
    have o3 : ∀ a c, (a < 1 ∨ 11 < a) → (a < 83 ∨ 88 < a) → a ≠ 111 → (a ≠ 82 ∨ (c ≠ 0 ∧ c ≠ 1 ∧ c ≠ 5 ∧ c ≠ 10 ∧ c ≠ 51)) → hu (hu (hu (hu (backM y) 82 5 (h 110 0)) 82 1 (h 110 1)) 82 0 (h 110 2)) 82 10 (h 110 3) a c = h a c := fun a c z1 z2 z3 z4 => by rw [o2 a c z2 z3 z4, xo a c z1]
    refine INV_T i (B6_BB (B6_cg b6 (fun c hc => ?_) (fun x c z1 z2 z3 z4 => ?_) (fun x c z1 z2 z3 z4 => ?_) (fun c hc => ?_) (fun c hc => ⟨?_, ?_⟩) (fun c hc => ?_) (fun c hc _ => ⟨?_, ?_, ?_⟩)) (fun j => by rw [o3 _ _ (by omega) (by omega) (by omega) (by omega)]; exact i1.2.2.2.2.2.2.2.2.2.2.1 j) ⟨_, fun j => by rw [o3 _ _ (by omega) (by omega) (by omega) (by omega)]; exact i5 j⟩) (by rw [o3 _ _ (by omega) (by omega) (by omega) (by omega)]; exact i3) ?_ (fun j => by rw [o3 _ _ (by omega) (by omega) (by omega) (by omega)]; have := i5 j; omega) (CL_cg (fun x c z => o3 x c (by omega) (by omega) (by omega) (by omega)) i2) (fun x c z => o3 x c (by omega) (by omega) (by omega) (by omega))
    · rw [o2 _ _ (by omega) (by omega) (by omega), y1 _ (by omega)]
    · rw [o2 _ _ (by omega) (by omega) (by omega), yp x c z1 z2 (by omega)]
    · rw [o2 _ _ (by omega) (by omega) (by omega), yh x c z1 z2 (by omega)]
    · rcases hc with rfl | rfl | rfl
      · rw [e0, hu_o (by omega)]; simp [hu]
      · rw [e1, hu_o (by omega), hu_o (by omega)]; simp [hu]
      · rw [e5, hu_o (by omega), hu_o (by omega), hu_o (by omega)]; simp [hu]
    · rw [o1 _ _ (by omega), back_86 _ hc, xo _ _ (by omega)]; rfl
    · rw [o1 _ _ (by omega), back_87 _ hc, xo _ _ (by omega)]; rfl
    · rw [o1 _ _ (by omega), back_88 _ hc, xo _ _ (by omega)]; rfl
    · rw [o1 _ _ (by omega), back_83 _ hc, xo _ _ (by omega)]; rfl
    · rw [o1 _ _ (by omega), back_84 _ hc, xo _ _ (by omega)]; rfl
    · rw [o1 _ _ (by omega), back_85 _ hc, xo _ _ (by omega)]; rfl
    · rw [o2 1 14 (by omega) (by omega) (by omega), y1 _ (by omega), k4]; simp [hu]
end L3CALI
