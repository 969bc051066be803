section L3N
variable {A B g h : AH} {L L2 : List Nat} {p q : Nat} {sg : Int}
theorem frS_c (hs : sg = 1 ∨ sg = -1) (e : EQL L p A B) (p8 : p < 8) (g9 : 0 ≤ B 88 (41 + 9 + p) ∧ B 88 (41 + 9 + p) ≤ 9) (f : Int) (h0 : 0 ≤ f) (h9 : f ≤ 9) (hn : ¬ f = B 88 (41 + 9 + p)) (hd : sg * f ≤ sg * B 88 (41 + 9 + p)) : frS A p sg f = frS B p sg f := by
  have o : ∀ a c, a ≠ 88 ∧ a ≠ 98 ∧ a ≠ 99 ∧ a ≠ 100 → A a c = B a c := fun a c z => e a c (by omega) (by omega) (by omega) (fun w => z.1 w.1)
  have l8 : ∀ c, c < 18 → A 98 c = B 98 c := fun c hc => e 98 c (by omega) (by omega) (Or.inr hc) (fun w => by omega)
  have em : A 88 41 = B 88 41 := e 88 41 (by omega) (by omega) (by omega) (ndt9 (q := p) p8 p8).2
  have cl : ∀ f m n, clB A f m n = clB B f m n := fun f m n => clB_cell (fun x c z => o x c (by omega)) f m n
  unfold frS
  rw [cl, cl, em, o 82 1 (by omega), o 82 0 (by omega), o 86 p (by omega), o 87 p (by omega)]
  rcases hs with rfl | rfl
  · rw [if_pos rfl, if_pos rfl, l8 _ (by omega)]
  · rw [if_neg (by omega), if_neg (by omega), l8 _ (by omega)]
theorem min_mono (hs : sg = 1 ∨ sg = -1) (p8 : p < 8) (hL : flatL A (A 82 5).toNat = L ++ p :: L2) (eq : EQN L p A B) (pr : PRm sg A B p) (gA : GI A 41) (gB : GI B 41) (hst : A 88 (41 + 17 + p) ≤ B 88 (41 + 17 + p)) : EQN L p (minuteM A 41) (minuteM B 41) ∧ PRm sg (minuteM A 41) (minuteM B 41) p := by
  obtain ⟨⟨wA, iA⟩, -⟩ := id gA
  obtain ⟨⟨wB, iB⟩, -⟩ := id gB
  have hP := iA.2.1
  have hPB := iB.2.1
  have hmB := iB.2.2.2.2
  have e5 : A 82 5 = B 82 5 := eq _ _ (by omega) (by omega) (by omega) (fun z => by omega)
  have em : A 88 41 = B 88 41 := eq _ _ (by omega) (by omega) (by omega) (ndt9 (q := p) p8 p8).2
  have hLB : flatL B (B 82 5).toNat = L ++ p :: L2 := by
    rw [← e5, ← hL]
    exact (flatL_congr (g := B) (g' := A) (fun x c z => eq x c (by omega) (by omega) (by omega) (fun w => by omega)) _).symm
  have so := flatL_sorted (g := A) (A 82 5).toNat
  rw [hL, List.pairwise_append, List.pairwise_cons] at so
  obtain ⟨-, ⟨s2, -⟩, s3⟩ := so
  have nr : ∀ a, ¬ kl A a a := fun a => by unfold kl; omega
  have mem : ∀ x, x ∈ L ++ p :: L2 → (x : Int) < A 82 5 := fun x hx => by rw [← hL] at hx; have := flatL_mem hx; omega
  have pL : p ∉ L := fun z => nr p (s3 p z p (by simp))
  have pn : (p : Int) < A 82 5 := mem p (by simp)
  have L1m : ∀ x ∈ L, (x : Int) < A 82 5 := fun x hx => mem x (by simp [hx])
  have L2m : ∀ x ∈ L2, (x : Int) < A 82 5 := fun x hx => mem x (by simp [hx])
  have L2L : ∀ x ∈ L2, x ∉ L := fun x hx z => nr x (s3 x z x (by simp [hx]))
  have L2p : ∀ x ∈ L2, x ≠ p := fun x hx z => by subst z; exact nr x (s2 x hx)
  have L1p : ∀ x ∈ L, x ≠ p := fun x hx z => pL (z ▸ hx)
  have oA : ∀ a c, a ≠ 98 → zero18 A a c = A a c := fun a c z => zero18_o 18 A a c z
  have oB : ∀ a c, a ≠ 98 → zero18 B a c = B a c := fun a c z => zero18_o 18 B a c z
  have e0 : EQL L p (zero18 A) (zero18 B) := fun a c z1 z2 z3 z4 => by
    by_cases w : a = 98
    · subst w
      have v1 := zero18_v 18 A c
      have v2 := zero18_v 18 B c
      rw [if_pos (by omega)] at v1 v2
      exact v1.trans v2.symm
    · rw [oA _ _ w, oB _ _ w]; exact eq a c w z1 z2 z4
  have mA1 : ∀ x ∈ L, (x : Int) < zero18 A 82 5 := fun x hx => by rw [oA _ _ (by omega)]; exact L1m x hx
  have mB1 : ∀ x ∈ L, (x : Int) < zero18 B 82 5 := fun x hx => by rw [oB _ _ (by omega), ← e5]; exact L1m x hx
  have e1 := foldP_c p8 L (zero18 A) (zero18 B) (fun x hx => ⟨hx, mA1 x hx, L1p x hx⟩) e0 (GI_z gA)
  have gA1 := GI_fold L (zero18 A) (GI_z gA) mA1
  have gB1 := GI_fold L (zero18 B) (GI_z gB) mB1
  have kA : ∀ c, (c = 41 + 1 + p ∨ c = 41 + 9 + p ∨ c = 41 + 17 + p ∨ c = 41 + 25 + p ∨ c = 41 + 33 + p ∨ c = 41) → L.foldl (fun x q => goP 41 q x) (zero18 A) 88 c = A 88 c := fun c hc => by
    rw [fold_p p8 c hc L _ (fun x hx => ⟨by have := L1m x hx; omega, L1p x hx⟩)]; exact oA _ _ (by omega)
  have kB : ∀ c, (c = 41 + 1 + p ∨ c = 41 + 9 + p ∨ c = 41 + 17 + p ∨ c = 41 + 25 + p ∨ c = 41 + 33 + p ∨ c = 41) → L.foldl (fun x q => goP 41 q x) (zero18 B) 88 c = B 88 c := fun c hc => by
    rw [fold_p p8 c hc L _ (fun x hx => ⟨by have := L1m x hx; omega, L1p x hx⟩)]; exact oB _ _ (by omega)
  have k5A : L.foldl (fun x q => goP 41 q x) (zero18 A) 82 5 = A 82 5 := by rw [fold_o 82 5 (by omega) _ _ (fun x hx => by have := L1m x hx; omega)]; exact oA _ _ (by omega)
  have k5B : L.foldl (fun x q => goP 41 q x) (zero18 B) 82 5 = A 82 5 := by rw [fold_o 82 5 (by omega) _ _ (fun x hx => by have := L1m x hx; omega), e5]; exact oB _ _ (by omega)
  have lA : ∀ a c, a ≠ 98 ∧ a ≠ 99 ∧ a ≠ 100 → ¬ (a = 88 ∧ dty L p c) → ¬ (a = 88 ∧ c = 41) → minuteM A 41 a c = L.foldl (fun x q => goP 41 q x) (zero18 A) a c := fun a c z1 z2 z3 => by
    rw [minuteM_list, hL, List.foldl_append, hu_o (by omega)]
    exact fold_d a c z1 z2 (p :: L2) _ (fun x hx => by
      simp only [List.mem_cons] at hx
      rcases hx with rfl | hx
      · exact ⟨p8, pL⟩
      · exact ⟨by have := L2m x hx; omega, L2L x hx⟩)
  have lB : ∀ a c, a ≠ 98 ∧ a ≠ 99 ∧ a ≠ 100 → ¬ (a = 88 ∧ dty L p c) → ¬ (a = 88 ∧ c = 41) → minuteM B 41 a c = L.foldl (fun x q => goP 41 q x) (zero18 B) a c := fun a c z1 z2 z3 => by
    rw [minuteM_list, hLB, List.foldl_append, hu_o (by omega)]
    exact fold_d a c z1 z2 (p :: L2) _ (fun x hx => by
      simp only [List.mem_cons] at hx
      rcases hx with rfl | hx
      · exact ⟨p8, pL⟩
      · exact ⟨by have := L2m x hx; omega, L2L x hx⟩)
  have pA : ∀ c, (c = 41 + 1 + p ∨ c = 41 + 25 + p ∨ c = 41 + 33 + p) → minuteM A 41 88 c = goP 41 p (L.foldl (fun x q => goP 41 q x) (zero18 A)) 88 c := fun c hc => by
    rw [minuteM_list, hL, List.foldl_append, hu_o (by omega)]
    show L2.foldl (fun x q => goP 41 q x) (goP 41 p (L.foldl (fun x q => goP 41 q x) (zero18 A))) 88 c = _
    exact fold_p p8 c (by omega) L2 _ (fun x hx => ⟨by have := L2m x hx; omega, L2p x hx⟩)
  have pB : ∀ c, (c = 41 + 1 + p ∨ c = 41 + 25 + p ∨ c = 41 + 33 + p) → minuteM B 41 88 c = goP 41 p (L.foldl (fun x q => goP 41 q x) (zero18 B)) 88 c := fun c hc => by
    rw [minuteM_list, hLB, List.foldl_append, hu_o (by omega)]
    show L2.foldl (fun x q => goP 41 q x) (goP 41 p (L.foldl (fun x q => goP 41 q x) (zero18 B))) 88 c = _
    exact fold_p p8 c (by omega) L2 _ (fun x hx => ⟨by have := L2m x hx; omega, L2p x hx⟩)
  have g9B : minuteM B 41 88 (41 + 9 + p) = B 88 (41 + 9 + p) := minuteM_o hPB _ _ (by omega)
  have t41 : minuteM A 41 88 41 = A 88 41 + 1 := minuteM_m
  generalize L.foldl (fun x q => goP 41 q x) (zero18 A) = A1 at *
  generalize L.foldl (fun x q => goP 41 q x) (zero18 B) = B1 at *
  refine ⟨fun a c z1 z2 z3 z4 => ?_, ?_⟩
  · by_cases w : a = 88 ∧ c = 41
    · rw [w.1, w.2, minuteM_m, minuteM_m, em]
    · rw [lA a c ⟨z1, z2, z3⟩ z4 w, lB a c ⟨z1, z2, z3⟩ z4 w]
      exact e1 a c z2 z3 (Or.inl z1) z4
  · obtain ⟨⟨w1, i1⟩, mh1⟩ := gA1
    obtain ⟨⟨w2, i2⟩, mh2⟩ := gB1
    have b9 := kB (41 + 9 + p) (by omega)
    have pt := p_turn (A := A1) (B := B1) hs p8 (i1.2.2.1 p (by rw [k5A]; exact pn)) (i2.2.2.1 p (by rw [k5B]; exact pn)) (mh1 p (by rw [k5A]; exact pn)) (mh2 p (by rw [k5B]; exact pn)) (e1 86 p (by omega) (by omega) (by omega) (fun z => by omega)) (e1 87 p (by omega) (by omega) (by omega) (fun z => by omega)) (by rw [kA _ (by omega), kB _ (by omega)]; exact em) (e1 88 (41 + 9 + p) (by omega) (by omega) (by omega) (ndt9 (q := p) p8 p8).1) (by rw [kA _ (by omega), kB _ (by omega)]; exact hst) (by rw [kB _ (by omega)]; exact hmB.1) (fun f f0 f9 fn fd => frS_c hs e1 p8 (i2.2.2.1 p (by rw [k5B]; exact pn)).2.1 f f0 f9 fn fd) (by
      unfold PRm
      rw [kA (41 + 1 + p) (by omega), kA (41 + 25 + p) (by omega), kA (41 + 33 + p) (by omega), kA 41 (by omega), kB (41 + 1 + p) (by omega), kB (41 + 25 + p) (by omega), kB (41 + 33 + p) (by omega), b9]
      exact pr)
    obtain ⟨q1, q2, q3⟩ := pt
    rw [b9] at q1 q3
    unfold PRm
    rw [pA (41 + 1 + p) (by omega), pA (41 + 25 + p) (by omega), pA (41 + 33 + p) (by omega), pB (41 + 1 + p) (by omega), pB (41 + 25 + p) (by omega), pB (41 + 33 + p) (by omega), g9B, t41]
    refine ⟨q1, q2, fun z => ?_⟩
    have := q3 z
    rw [kA 41 (by omega)] at this
    exact ⟨this.1, by omega⟩
theorem go_mono (hs : sg = 1 ∨ sg = -1) (p8 : p < 8) : ∀ (k : Nat) (A B : AH), flatL A (A 82 5).toNat = L ++ p :: L2 → EQN L p A B → PRm sg A B p → GI A 41 → GI B 41 → A 88 (41 + 17 + p) ≤ B 88 (41 + 17 + p) → PRm sg (goMo 41 k A) (goMo 41 k B) p
  | 0, _, _, _, _, pr, _, _, _ => pr
  | k + 1, A, B, hL, eq, pr, gA, gB, hst => by
    have em : A 88 41 = B 88 41 := eq _ _ (by omega) (by omega) (by omega) (ndt9 (q := p) p8 p8).2
    obtain ⟨⟨wA, iA⟩, -⟩ := id gA
    obtain ⟨⟨wB, iB⟩, -⟩ := id gB
    by_cases c : A 88 41 < 120
    · rw [goMo_s c, goMo_s (by omega)]
      obtain ⟨n1, n2⟩ := min_mono hs p8 hL eq pr gA gB hst
      refine go_mono hs p8 k _ _ ?_ n1 n2 (GI_minute gA c) (GI_minute gB (by omega)) ?_
      · rw [minuteM_o iA.2.1 _ _ (by omega), flatL_congr (g := A) (fun x c z => minuteM_o iA.2.1 _ _ (by omega))]; exact hL
      · rw [minuteM_o iA.2.1 _ _ (by omega), minuteM_o iB.2.1 _ _ (by omega)]; exact hst
    · have e1 : ∀ X : AH, ¬ X 88 41 < 120 → goMo 41 (k + 1) X = X := fun X z => by rw [goMo, if_neg z]
      rw [e1 A c, e1 B (by omega)]
      exact pr
theorem early_mono {s s' bb : Int} (hb : BB h g) (hc : CL h) (hp : (p : Int) < g 82 5) (h0 : 0 ≤ s') (h1 : s' ≤ s) (h2 : s ≤ 120) (ok : earlyOk g p bb s = true) : earlyOk g p bb s' = true := by
  have h8 := BB_P hb
  have p8 : p < 8 := by omega
  have sA := SG_early (s := s') hb hc hp (by omega)
  have sB := SG_early (s := s) hb hc hp (by omega)
  have gA := MG_GI sA.2.2.2.2.1 sA.2.2.2.2.2.1
  have gB := MG_GI sB.2.2.2.2.1 sB.2.2.2.2.2.1
  have o : ∀ (t : Int) (a c : Nat), (a ≠ 88 ∨ c ≠ 41 + 17 + p) → earlyG g p t a c = setsM (lendM g) 41 p (g 88 (9 + p)) a c := fun t a c z => by unfold earlyG; exact hu_o (by omega)
  have e5 : earlyG g p s' 82 5 = g 82 5 := by rw [o _ _ _ (by omega), setsM_o _ _ (by omega), lend5]
  have hk : ∀ c : Nat, (c : Int) < earlyG g p s' 82 5 → 0 ≤ rkM (earlyG g p s') c ∧ rkM (earlyG g p s') c ≤ 14 := fun c hc => rk_r (MG_KK sA.2.2.2.2.1 c hc).2
  have pm : p ∈ flatL (earlyG g p s') (earlyG g p s' 82 5).toNat := (flatL_all (fun c hc => hk c (by omega)) p).mpr (by rw [e5]; omega)
  obtain ⟨L, L2, hL⟩ := List.append_of_mem pm
  have v1 : ∀ t, earlyG g p t 88 (41 + 25 + p) = 0 := fun t => by
    rw [o _ _ _ (by omega)]; unfold setsM; rw [hu_o (by omega)]; simp [hu]
  have v2 : ∀ t, earlyG g p t 88 (41 + 33 + p) = -1 := fun t => by
    rw [o _ _ _ (by omega)]; unfold setsM; simp [hu]
  have v3 : ∀ t, earlyG g p t 88 (41 + 1 + p) = earlyG g p s 88 (41 + 1 + p) := fun t => by rw [o _ _ _ (by omega), o _ _ _ (by omega)]
  have v4 : ∀ t, earlyG g p t 88 (41 + 17 + p) = t := fun t => by unfold earlyG; simp [hu]
  have key : ∀ sg : Int, (sg = 1 ∨ sg = -1) → sg * earlyG g p s 88 (41 + 1 + p) ≤ sg * earlyG g p s 88 (41 + 9 + p) → earlyOk g p bb s' = true := fun sg hs hd => by
    have fin := go_mono (sg := sg) (L := L) (L2 := L2) hs p8 120 (earlyG g p s') (earlyG g p s) hL (fun a c z1 z2 z3 z4 => by
        have : ¬ (a = 88 ∧ c = 41 + 17 + p) := fun w => z4 ⟨w.1, Or.inl w.2⟩
        rw [o _ _ _ (by omega), o _ _ _ (by omega)]) (by
        unfold PRm PP
        rw [v1, v1, v2, v2, v3 s']
        exact ⟨⟨hd, hd, Int.le_refl _, fun _ => rfl, fun _ => rfl⟩, fun z => by omega, fun z => by omega⟩) gA gB (by rw [v4, v4]; exact h1)
    unfold earlyOk earlyV at ok ⊢
    rw [decide_eq_true_eq] at ok ⊢
    have := fin.2.1 ok.1
    have w1 : goMo 41 120 (earlyG g p s') 88 (41 + 33 + p) = goMo 41 120 (earlyG g p s') 88 (74 + p) := rfl
    have w2 : goMo 41 120 (earlyG g p s) 88 (41 + 33 + p) = goMo 41 120 (earlyG g p s) 88 (74 + p) := rfl
    omega
  by_cases c : earlyG g p s 88 (41 + 1 + p) ≤ earlyG g p s 88 (41 + 9 + p)
  · exact key 1 (Or.inl rfl) (by omega)
  · exact key (-1) (Or.inr rfl) (by omega)
-- nobody arrives ahead of the START
theorem fold_st {c aa : Nat} (hc : c < 8) : ∀ (K : List Nat) (g : AH), (∀ q ∈ K, q < 8) → 0 ≤ g 88 aa → (0 ≤ g 88 (aa + 33 + c) → g 88 (aa + 17 + c) ≤ g 88 (aa + 33 + c)) → (0 ≤ K.foldl (fun x q => goP aa q x) g 88 (aa + 33 + c) → g 88 (aa + 17 + c) ≤ K.foldl (fun x q => goP aa q x) g 88 (aa + 33 + c))
  | [], _, _, _, h => h
  | q :: K, g, hK, h0, h => by
    have hq := hK q (by simp)
    have em : goP aa q g 88 aa = g 88 aa := goP_o _ _ hq (by omega)
    have es : goP aa q g 88 (aa + 17 + c) = g 88 (aa + 17 + c) := goP_o _ _ hq (by omega)
    have := fold_st (aa := aa) hc K (goP aa q g) (fun r hr => hK r (by simp [hr])) (by rw [em]; exact h0) (by
      rw [es]
      unfold goP
      split
      · next z =>
        rcases goesM_arr (g := g) (aa := aa) hq hc with e | e
        · rw [e]; exact h
        · rw [e.2]; rw [← e.1] at z; intro _; exact z.2
      · exact h)
    rw [es] at this
    exact this
theorem goMo_st {c : Nat} (hc : c < 8) : ∀ (k : Nat) (g : AH), (0 ≤ g 82 5 ∧ g 82 5 ≤ 8) → 0 ≤ g 88 41 → (0 ≤ g 88 (41 + 33 + c) → g 88 (41 + 17 + c) ≤ g 88 (41 + 33 + c)) → (0 ≤ goMo 41 k g 88 (41 + 33 + c) → g 88 (41 + 17 + c) ≤ goMo 41 k g 88 (41 + 33 + c))
  | 0, _, _, _, h => h
  | k + 1, g, hP, h0, h => by
    unfold goMo
    split
    · have o2 : ∀ a c, a ≠ 98 → zero18 g a c = g a c := fun a c z => zero18_o 18 g a c z
      have es : minuteM g 41 88 (41 + 17 + c) = g 88 (41 + 17 + c) := minuteM_o hP _ _ (by omega)
      have := goMo_st hc k (minuteM g 41) (by rw [minuteM_o hP _ _ (by omega)]; exact hP) (by rw [minuteM_m]; omega) (by
        rw [es, minuteM_list, hu_o (by omega)]
        have f := fold_st (aa := 41) hc (flatL g (g 82 5).toNat) (zero18 g) (fun q hq => by have := flatL_mem hq; omega) (by rw [o2 _ _ (by omega)]; exact h0) (by rw [o2 _ _ (by omega), o2 _ _ (by omega)]; exact h)
        rw [o2 88 (41 + 17 + c) (by omega)] at f
        exact f)
      rw [es] at this
      exact this
    · exact h
theorem early_late {s bb : Int} (hb : BB h g) (hc : CL h) (hp : (p : Int) < g 82 5) (h0 : 0 ≤ s ∧ s ≤ 120) (ok : earlyOk g p bb s = true) : s ≤ bb := by
  have h8 := BB_P hb
  have sB := SG_early (s := s) hb hc hp h0
  have v2 : earlyG g p s 88 (41 + 33 + p) = -1 := by unfold earlyG; rw [hu_o (by omega)]; unfold setsM; simp [hu]
  have v4 : earlyG g p s 88 (41 + 17 + p) = s := by unfold earlyG; simp [hu]
  have := goMo_st (c := p) (by omega) 120 (earlyG g p s) (SG_P sB) (SG_M sB).1 (by rw [v2]; intro z; omega)
  rw [v4] at this
  unfold earlyOk earlyV at ok
  rw [decide_eq_true_eq] at ok
  have w2 : goMo 41 120 (earlyG g p s) 88 (41 + 33 + p) = goMo 41 120 (earlyG g p s) 88 (74 + p) := rfl
  have t := this ok.1
  omega
end L3N
