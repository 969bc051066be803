section L3CALE
variable {G : GD} {l : Launch} {d k : Nat} {h h' : AH}
theorem stX_v (ss ii pp : Nat) (hs : ss < 4) : ∀ (n : Nat) (a c : Nat), stX ss ii pp n h a c = if a = 6 ∧ pp ≤ c ∧ c < pp + n then max 0 (min 99 (h (67 + 2 * ss + 1) (ii + (c - pp)))) else h a c
  | 0, a, c => by rw [if_neg (by omega)]; rfl
  | n + 1, a, c => by
    rw [stX_s, stX_v ss ii pp hs n (67 + 2 * ss + 1), if_neg (by omega)]
    simp only [hu_ap]
    rw [stX_v ss ii pp hs n a c]
    by_cases hc : a = 6 ∧ c = pp + n
    · rw [if_pos hc, if_pos (by omega), hc.2, show pp + n - pp = n by omega]
    · rw [if_neg hc]
      by_cases h2 : a = 6 ∧ pp ≤ c ∧ c < pp + n
      · rw [if_pos h2, if_pos (by omega)]
      · rw [if_neg h2, if_neg (by omega)]
def clz (v : Int) : Int := if v < 0 then 0 else if 99 < v then 99 else l2i32 v
theorem stZ_s2 (ss ii pp n : Nat) : stZ ss ii pp (n + 1) h = hu (stZ ss ii pp n h) 88 (17 + pp + n) (clz (stZ ss ii pp n h 105 (40 * ss + ii + n))) := rfl
theorem stZ_v (ss ii pp : Nat) : ∀ (n : Nat) (a c : Nat), stZ ss ii pp n h a c = if a = 88 ∧ 17 + pp ≤ c ∧ c < 17 + pp + n then clz (h 105 (40 * ss + ii + (c - (17 + pp)))) else h a c
  | 0, a, c => by rw [if_neg (by omega)]; rfl
  | n + 1, a, c => by
    rw [stZ_s2, stZ_v ss ii pp n 105, if_neg (by omega)]
    simp only [hu_ap]
    rw [stZ_v ss ii pp n a c]
    by_cases hc : a = 88 ∧ c = 17 + pp + n
    · rw [if_pos hc, if_pos (by omega), hc.2, show 17 + pp + n - (17 + pp) = n by omega]
    · rw [if_neg hc]
      by_cases h2 : a = 88 ∧ 17 + pp ≤ c ∧ c < 17 + pp + n
      · rw [if_pos h2, if_pos (by omega)]
      · rw [if_neg h2, if_neg (by omega)]
theorem l2i_id {z : Int} (h0 : -2147483648 ≤ z) (h1 : z ≤ 2147483647) : l2i32 z = z := by
  rw [l2_bm]; exact bm32 h0 h1
theorem B6_s (hb : B6 h h 1) (e : ∀ a c, (1 ≤ a ∧ a ≤ 11 ∧ a ≠ 6 ∧ (a = 1 → c < 14)) ∨ (a = 82 ∧ c ≤ 5) ∨ (83 ≤ a ∧ a ≤ 88 ∧ (a = 88 → c < 17 ∨ 25 ≤ c)) → h' a c = h a c) (n1 : ∀ c : Nat, (c : Int) < h 82 5 → h' 6 c = h' 88 (17 + c) ∧ (0 ≤ h' 88 (17 + c) ∧ h' 88 (17 + c) ≤ 120)) : B6 h' h' 1 := by
  obtain ⟨⟨s1, s2, s3⟩, a2, a3, a4, m1, m2, m3, m4, m5, m6⟩ := hb
  have k0 := e 82 0 (by omega)
  have k1 := e 82 1 (by omega)
  have k5 := e 82 5 (by omega)
  have l0 := e 88 0 (by omega)
  refine ⟨⟨by rw [e _ _ (by omega), k5]; exact s1, by rw [e _ _ (by omega), k1]; exact s2, by rw [e _ _ (by omega), k0]; exact s3⟩, by rw [e _ _ (by omega), l0]; exact a2, fun c hc => ?_, fun c hc => ?_, by rw [k5]; exact m1, by rw [k1]; exact m2, by rw [k0]; exact m3, by rw [l0]; exact m4, fun c hc => ?_, fun c hc => ?_⟩
  · rw [k5] at hc
    have := a3 c hc
    have n := n1 c hc
    simp only [Nat.zero_add] at *
    refine ⟨?_, ?_, ?_, ?_, n.1, ?_, ?_⟩
    · rw [e _ _ (by omega), e _ _ (by omega)]; exact this.1
    · rw [e _ _ (by omega), e _ _ (by omega)]; exact this.2.1
    · rw [e _ _ (by omega), e _ _ (by omega)]; exact this.2.2.1
    · rw [e _ _ (by omega), e _ _ (by omega)]; exact this.2.2.2.1
    · rw [e _ _ (by omega), e _ _ (by omega)]; exact this.2.2.2.2.2.1
    · rw [e _ _ (by omega), e _ _ (by omega)]; exact this.2.2.2.2.2.2
  · rw [k1] at hc
    rw [e _ _ (by omega), e _ _ (by omega), e _ _ (by omega), e _ _ (by omega), e _ _ (by omega), e _ _ (by omega)]
    exact a4 c hc
  · rw [k5] at hc
    have := m5 c hc
    have n := n1 c hc
    unfold PG MH at *
    simp only [Nat.zero_add] at *
    rw [e 86 _ (by omega), e 87 _ (by omega), e 88 (1 + c) (by omega), e 88 (9 + c) (by omega), e 88 (25 + c) (by omega), e 88 (33 + c) (by omega)]
    exact ⟨this.1, this.2.1, this.2.2.1, n.2, this.2.2.2.2⟩
  · rw [k1] at hc
    unfold HG
    rw [e _ _ (by omega), e _ _ (by omega), e _ _ (by omega)]
    exact m6 c hc
theorem c_starts {q ix p n : Int} (i : INV k h) (hd : 9 ≤ d) : Ok G l d k 86 187 [vI q, vI ix, vI p, vI n] h := by
  obtain ⟨n1, n2, n3, n4, n5, n6⟩ := INV_n i
  have hc : 0 ≤ h 1 0 ∧ h 1 0 ≤ 8 := by omega
  by_cases hq : 0 ≤ q ∧ q ≤ 3
  case neg => exact ok_ex (s_startsO1 hq (by omega)) (m_startsO1 hq (by omega)) rfl (INV_k i)
  by_cases hp : 0 ≤ p ∧ p ≤ h 1 0 - 1
  case neg => exact ok_ex (s_startsO2 hc hp (by omega)) (m_startsO2 n2 (by omega) (by omega)) rfl (INV_k i)
  by_cases hn : 0 ≤ n ∧ n ≤ 8
  case neg => exact ok_ex (s_startsO3 hc hn (by omega)) (m_startsO3 n2 hn (by omega)) rfl (INV_k i)
  obtain ⟨ss, rfl⟩ : ∃ ss : Nat, q = (ss : Int) := ⟨q.toNat, by omega⟩
  obtain ⟨pp, rfl⟩ : ∃ pp : Nat, p = (pp : Int) := ⟨p.toNat, by omega⟩
  obtain ⟨nn, rfl⟩ : ∃ nn : Nat, n = (nn : Int) := ⟨n.toNat, by omega⟩
  by_cases ho : (pp : Int) + nn ≤ h 1 0
  case neg => exact ok_ex (s_startsO4 hc (by omega) (by omega) (by omega) (by omega) (by omega)) (m_startsO4 n2 (by omega) (by omega) (by omega) (by omega) (by omega)) rfl (INV_k i)
  obtain ⟨⟨t1, t2⟩, ⟨t3, t4⟩, t5⟩ := i.2.2.2.2.2.2.2.2.1 ss (by omega)
  by_cases hk : h (67 + 2 * ss) 0 = -1
  · exact ok_ex (s_startsM hc (by omega) (by omega) (by omega) (by omega) hk (by omega)) (m_startsM n2 (by omega) (by omega) (by omega) (by omega) (by omega) (by omega)) rfl (INV_k i)
  by_cases hk1 : h (67 + 2 * ss) 0 = 1
  case neg => exact ok_ex (s_startsS hc (by omega) (by omega) (by omega) (by omega) hk hk1 (by omega)) (m_startsS n2 (by omega) (by omega) (by omega) (by omega) (by omega) (by omega) (by omega)) rfl (INV_k i)
  by_cases hi : 0 ≤ ix ∧ ix ≤ h (67 + 2 * ss) 1 - nn
  case neg => exact ok_ex (s_startsR hc (by omega) (by omega) (by omega) (by omega) hk1 (by omega) hi (by omega)) (m_startsR n2 (by omega) (by omega) (by omega) (by omega) (by omega) t4 (by omega) (by omega)) rfl (INV_k i)
  obtain ⟨ii, rfl⟩ : ∃ ii : Nat, ix = (ii : Int) := ⟨ix.toNat, by omega⟩
  have xo : ∀ x c, x ≠ 6 → stX ss ii pp nn h x c = h x c := fun x c hx => by rw [stX_v ss ii pp (by omega), if_neg (fun z => hx z.1)]
  refine ok_ex (s_startsY hc (by omega) (by omega) (by omega) (by omega) hk1 (by omega) (by omega) (by omega)) (m_startsY (h := stX ss ii pp nn h) (by rw [xo _ _ (by omega)]; exact n2) (by omega) (by rw [xo _ _ (by omega)]; omega) (by omega) (by rw [xo _ _ (by omega)]; omega) (by rw [xo _ _ (by omega)]; omega) (by rw [xo _ _ (by omega)]; exact t4) (by rw [xo _ _ (by omega)]; omega) (by omega)) rfl ?_
  have zo : ∀ x c, (x ≠ 88 ∨ c < 17 ∨ 25 ≤ c) → stZ ss ii pp nn (stX ss ii pp nn h) x c = stX ss ii pp nn h x c := fun x c hx => by rw [stZ_v, if_neg (fun z => by omega)]
  refine INV_U i (B6_s (BB_B6 i.1) (fun x c z => by rw [zo x c (by omega), xo x c (by omega)]) (fun c hc => ?_)) (by rw [zo _ _ (by omega), zo _ _ (by omega), xo _ _ (by omega), xo _ _ (by omega)]; exact i.2.2.2.1) (fun x c z => by rw [zo x c (by omega), xo x c (by omega)])
  have ba := B6_at (BB_B6 i.1) hc
  rw [zo 6 c (by omega), stX_v ss ii pp (by omega), stZ_v, xo 105 _ (by omega), xo 88 _ (by omega)]
  by_cases hcc : pp ≤ c ∧ c < pp + nn
  · have t := t5 (ii + (c - pp)) (by omega)
    rw [if_pos ⟨rfl, hcc⟩, if_pos (by omega), t.1, show 40 * ss + ii + (17 + c - (17 + pp)) = 40 * ss + (ii + (c - pp)) by omega]
    unfold clz
    rw [l2i_id t.2.1 t.2.2]
    generalize h 105 (40 * ss + (ii + (c - pp))) = vv
    (repeat' split) <;> omega
  · rw [if_neg (fun z => hcc z.2), if_neg (by omega)]
    exact ⟨ba.1.2.2.2.2.1, ba.2.2.2.2.1⟩
theorem pv_o {kk : Int} (a c : Nat) (ha : ¬ (12 ≤ a ∧ a ≤ 22) ∧ ¬ (34 ≤ a ∧ a ≤ 41)) (h0 : a ≠ 0 ∨ c ≠ 8) : ∀ n : Nat, (a < 45 ∨ 45 + n ≤ a) → pvX h kk n a c = h a c
  | 0, _ => by
    show hu (readyX (becomeX h 12 1) 12) 0 8 kk a c = _
    rw [hu_o h0, ready_o _ _ (by omega), bec_o _ _ (by omega)]
  | n + 1, hn => by
    show tellX (45 + n) (pvX h kk n) a c = _
    rw [tell_f (by omega) _ _ (by omega), pv_o a c ha h0 n (by omega)]
theorem pvM_101 (cc : Nat) : ∀ n c : Nat, c < n → pvM h cc n 101 c = frM h cc 102 c
  | 0, c, hc => by omega
  | n + 1, c, hc => by
    rw [pvM_s]
    by_cases e : c = n
    · subst e
      have e1 : ∀ v, hu (pvM h cc c) 101 c v 101 c = v := fun v => by simp [hu]
      rw [e1, pvM_o _ _ _ _ (by omega), hu_o (by omega), hu_o (by omega)]
    · rw [hu_o (by omega), pvM_101 cc n c (by omega)]
theorem c_prove {n : Int} (i : INV k h) (hk : k ≤ 64) (hd : 9 ≤ d) : Ok G l d k 82 182 [vI n] h := by
  obtain ⟨n1, n2, n3, n4, n5, n6⟩ := INV_n i
  by_cases hn : 1 ≤ n ∧ n ≤ 20
  case neg => exact ok_ex (s_proveO hn (by omega)) (m_proveO hn (by omega)) rfl (INV_k i)
  obtain ⟨nn, rfl⟩ : ∃ nn : Nat, n = (nn : Int) := ⟨n.toNat, by omega⟩
  obtain ⟨cc, hcc⟩ : ∃ cc : Nat, (cc : Int) = min (nn : Int) (120 - h 88 0) := ⟨(min (nn : Int) (120 - h 88 0)).toNat, by omega⟩
  have c := s_prove (G := G) (l := l) (d := d) (nn := (nn : Int)) (kk := (cc : Int)) i.1 i.2.1 hn (by rw [n3]; exact hcc) (by omega)
  rw [Int.toNat_natCast] at c
  have pi := pv_inv i.1 i.2.1 (kk := (cc : Int)) (by omega) cc (Int.le_refl _)
  have po : ∀ a c', ¬ (12 ≤ a ∧ a ≤ 22) ∧ ¬ (34 ≤ a ∧ a ≤ 41) → (a ≠ 0 ∨ c' ≠ 8) → (a < 45 ∨ 65 ≤ a) → pvX h cc cc a c' = h a c' := fun a c' z1 z2 z3 => pv_o a c' z1 z2 cc (by omega)
  have e : ∀ x c', 82 ≤ x → pvX h cc cc x c' = h x c' := fun x c' hx => po x c' (by omega) (by omega) (by omega)
  have bx : BB h (pvX h cc cc) := by
    refine B6_BB (B6_cg (BB_B6 i.1) (fun _ _ => rfl) (fun _ _ _ _ _ _ => rfl) (fun _ _ _ _ _ _ => rfl) (fun c _ => e _ _ (by omega)) (fun c _ => ⟨e _ _ (by omega), e _ _ (by omega)⟩) (fun c _ => e _ _ (by omega)) (fun c _ _ => ⟨e _ _ (by omega), e _ _ (by omega), e _ _ (by omega)⟩)) (fun j => by rw [e _ _ (by omega)]; exact i.1.2.2.2.2.2.2.2.2.2.2.1 j) ⟨_, fun j => by rw [e _ _ (by omega)]; exact i.2.2.2.2.1 j⟩
  have rows := (pv_rows bx i.2.1 (kk := (cc : Int)) (by omega) cc (Int.le_refl _)).2
  have qw : ∀ j, 0 ≤ pvX h cc cc 100 j ∧ pvX h cc cc 100 j ≤ 2000000 * ((k : Int) + 1) := fun j => by rw [e _ _ (by omega)]; exact i.2.2.2.2.1 j
  have m := m_prove (G := G) (l := l) (d := d) (h := pvX h cc cc) (nn := nn) (cc := cc) (W := 2000000 * ((k : Int) + 1)) bx.2.2.2.2 ⟨by omega, by omega⟩ qw (by omega) (by rw [e _ _ (by omega)]; exact hcc) (by omega)
  refine ok_ex c m rfl ?_
  have ag := LG_rows (h := pvX h cc cc) (cc := cc) (W := 2000000 * ((k : Int) + 1)) bx.2.2.2.2 ⟨by omega, by omega⟩ qw (by rw [e _ _ (by omega)]; exact i.2.2.1) (by rw [e _ _ (by omega)]; omega) (by omega)
  have hR0 := pi.2.2.1
  have hcl := pi.2.2.2
  generalize pvX h cc cc = y at *
  have b6 : B6 y (hu (frM y cc) 82 9 0) 1 := by
    have b1 := BB_agM bx ag
    exact B6_cg (BB_B6 b1) (fun c hc => po _ _ (by omega) (by omega) (by omega)) (fun _ _ _ _ _ _ => po _ _ (by omega) (by omega) (by omega)) (fun _ _ _ _ _ _ => po _ _ (by omega) (by omega) (by omega)) (fun c _ => rfl) (fun c _ => ⟨rfl, rfl⟩) (fun c _ => rfl) (fun c _ _ => ⟨rfl, rfl, rfl⟩)
  have go : ∀ x c', x ≠ 101 → (x ≠ 82 ∨ c' ≠ 35) → pvM y cc (3 * cc) x c' = hu (frM y cc) 82 9 0 x c' := fun x c' z1 z2 => by rw [pvM_o _ _ _ _ z1, hu_o z2]
  have g1 : ∀ x c', x ≠ 98 → x ≠ 99 → x ≠ 100 → x ≠ 102 → x ≠ 88 → x ≠ 101 → (x ≠ 82 ∨ c' ≠ 36) → (x ≠ 82 ∨ c' ≠ 35) → x ≠ 83 → x ≠ 84 → x ≠ 85 → pvM y cc (3 * cc) x c' = y x c' := fun x c' z1 z2 z3 z4 z5 z6 z7 z8 z9 z10 z11 => by
    rw [go x c' z6 z8]; exact ag.1 x c' z1 z2 z3 z4 (by omega) z7 (by omega)
  have g35 : pvM y cc (3 * cc) 82 35 = (cc : Int) := by rw [pvM_o _ _ _ _ (by omega)]; simp [hu]
  have b7 : B6 (pvM y cc (3 * cc)) (pvM y cc (3 * cc)) 1 := B6_cg b6 (fun c _ => g1 _ _ (by omega) (by omega) (by omega) (by omega) (by omega) (by omega) (by omega) (by omega) (by omega) (by omega) (by omega)) (fun _ _ _ _ _ _ => g1 _ _ (by omega) (by omega) (by omega) (by omega) (by omega) (by omega) (by omega) (by omega) (by omega) (by omega) (by omega)) (fun _ _ _ _ _ _ => g1 _ _ (by omega) (by omega) (by omega) (by omega) (by omega) (by omega) (by omega) (by omega) (by omega) (by omega) (by omega)) (fun c _ => go _ _ (by omega) (by omega)) (fun c _ => ⟨go _ _ (by omega) (by omega), go _ _ (by omega) (by omega)⟩) (fun c _ => go _ _ (by omega) (by omega)) (fun c _ _ => ⟨go _ _ (by omega) (by omega), go _ _ (by omega) (by omega), go _ _ (by omega) (by omega)⟩)
  have gy : ∀ x c', ¬ (12 ≤ x ∧ x ≤ 22) ∧ ¬ (34 ≤ x ∧ x ≤ 41) → (x ≠ 0 ∨ c' ≠ 8) → (x < 45 ∨ 65 ≤ x) → x ≠ 98 → x ≠ 99 → x ≠ 100 → x ≠ 102 → x ≠ 88 → x ≠ 101 → (x ≠ 82 ∨ c' ≠ 36) → (x ≠ 82 ∨ c' ≠ 35) → x ≠ 83 → x ≠ 84 → x ≠ 85 → pvM y cc (3 * cc) x c' = h x c' := fun x c' y1 y2 y3 z1 z2 z3 z4 z5 z6 z7 z8 z9 z10 z11 => by rw [g1 x c' z1 z2 z3 z4 z5 z6 z7 z8 z9 z10 z11, po x c' y1 y2 y3]
  obtain ⟨i1, i2, i3, i4, i5, i6, i7, i8, i9, i10, i11⟩ := i
  refine ⟨B6_BB b7 (fun j => by rw [go _ _ (by omega) (by omega)]; exact ag.2.1 j) ⟨_, fun j => by rw [go _ _ (by omega) (by omega)]; exact ag.2.2 j⟩, CL_cg (fun x c z => g1 x c (by omega) (by omega) (by omega) (by omega) (by omega) (by omega) (by omega) (by omega) (by omega) (by omega) (by omega)) hcl, ?_, ?_, fun j => ?_, KP_cg (fun x c z => gy x c (by omega) (by omega) (by omega) (by omega) (by omega) (by omega) (by omega) (by omega) (by omega) (by omega) (by omega) (by omega) (by omega) (by omega)) i6, TP_cg (fun x c z => gy x c (by omega) (by omega) (by omega) (by omega) (by omega) (by omega) (by omega) (by omega) (by omega) (by omega) (by omega) (by omega) (by omega) (by omega)) i7, ⟨?_, ?_, fun ix mm h1 h2 => ?_⟩, SHE_cg (fun x c z => gy x c (by omega) (by omega) (by omega) (by omega) (by omega) (by omega) (by omega) (by omega) (by omega) (by omega) (by omega) (by omega) (by omega) (by omega)) i9, SFE_cg (fun x c z => gy x c (by omega) (by omega) (by omega) (by omega) (by omega) (by omega) (by omega) (by omega) (by omega) (by omega) (by omega) (by omega) (by omega) (by omega)) i10, ACE_cg (fun x c z => gy x c (by omega) (by omega) (by omega) (by omega) (by omega) (by omega) (by omega) (by omega) (by omega) (by omega) (by omega) (by omega) (by omega) (by omega)) i11⟩
  · rw [go _ _ (by omega) (by omega)]; simp [hu]
  · rw [gy _ _ (by omega) (by omega) (by omega) (by omega) (by omega) (by omega) (by omega) (by omega) (by omega) (by omega) (by omega) (by omega) (by omega) (by omega), gy _ _ (by omega) (by omega) (by omega) (by omega) (by omega) (by omega) (by omega) (by omega) (by omega) (by omega) (by omega) (by omega) (by omega) (by omega)]; exact i4
  · rw [go _ _ (by omega) (by omega)]; have := ag.2.2 j; omega
  · rw [g35, g1 _ _ (by omega) (by omega) (by omega) (by omega) (by omega) (by omega) (by omega) (by omega) (by omega) (by omega) (by omega)]; exact hR0
  · rw [g35]; omega
  · rw [g35] at h1
    rw [g1 _ _ (by omega) (by omega) (by omega) (by omega) (by omega) (by omega) (by omega) (by omega) (by omega) (by omega) (by omega), pvM_101 cc _ _ (by omega)]
    exact rows ix mm (by omega) h2
theorem c_row {q w : Int} (i : INV k h) (hd : 9 ≤ d) : Ok G l d k 83 184 [vI q, vI w] h := by
  obtain ⟨r1, r2, r3⟩ := i.2.2.2.2.2.2.2.1
  by_cases hn : (0 ≤ q ∧ q ≤ h 0 8 - 1) ∧ (0 ≤ w ∧ w ≤ 2)
  case neg => exact ok_ex (s_rowO (by omega) hn (by omega)) (m_rowO r2 (by omega) (by omega)) rfl (INV_k i)
  obtain ⟨qq, rfl⟩ : ∃ qq : Nat, q = (qq : Int) := ⟨q.toNat, by omega⟩
  obtain ⟨ww, rfl⟩ : ∃ ww : Nat, w = (ww : Int) := ⟨w.toNat, by omega⟩
  exact ok_ex (s_rowI (by omega) (by omega) (by omega) (by omega)) (m_rowI r2 (by omega) (by omega) (by omega)) (r3 qq ww (by omega) (by omega)).symm (INV_k i)
theorem c_alter {q w v : Int} (i : INV k h) (hd : 9 ≤ d) : Ok G l d k 84 185 [vI q, vI w, vI v] h := by
  obtain ⟨r1, r2, r3⟩ := i.2.2.2.2.2.2.2.1
  by_cases hn : (0 ≤ q ∧ q ≤ h 0 8 - 1) ∧ (0 ≤ w ∧ w ≤ 2)
  case neg => exact ok_ex (s_alterO (by omega) hn (by omega)) (m_alterO r2 (by omega) (by omega)) rfl (INV_k i)
  obtain ⟨qq, rfl⟩ : ∃ qq : Nat, q = (qq : Int) := ⟨q.toNat, by omega⟩
  obtain ⟨ww, rfl⟩ : ∃ ww : Nat, w = (ww : Int) := ⟨w.toNat, by omega⟩
  refine ok_ex (s_alterI (by omega) (by omega) (by omega) (by omega)) (m_alterI (h := hu h (45 + qq) ww v) (by rw [hu_o (by omega)]; exact r2) (by rw [hu_o (by omega)]; omega) (by omega) (by omega)) (by rw [hu_o (by omega)]; exact (r3 qq ww (by omega) (by omega)).symm) ?_
  have o : ∀ x c, (x ≠ 45 + qq ∨ c ≠ ww) → (x ≠ 101 ∨ c ≠ 3 * qq + ww) → hu (hu h (45 + qq) ww v) 101 (3 * qq + ww) v x c = h x c := fun x c z1 z2 => by rw [hu_o z2, hu_o z1]
  obtain ⟨i1, i2, i3, i4, i5, i6, i7, i8, i9, i10, i11⟩ := INV_k i
  refine ⟨B6_BB (B6_cg (BB_B6 i1) (fun c _ => o _ _ (by omega) (by omega)) (fun _ _ _ _ _ _ => o _ _ (by omega) (by omega)) (fun _ _ _ _ _ _ => o _ _ (by omega) (by omega)) (fun c _ => o _ _ (by omega) (by omega)) (fun c _ => ⟨o _ _ (by omega) (by omega), o _ _ (by omega) (by omega)⟩) (fun c _ => o _ _ (by omega) (by omega)) (fun c _ _ => ⟨o _ _ (by omega) (by omega), o _ _ (by omega) (by omega), o _ _ (by omega) (by omega)⟩)) (fun j => by rw [o _ _ (by omega) (by omega)]; exact i1.2.2.2.2.2.2.2.2.2.2.1 j) ⟨_, fun j => by rw [o _ _ (by omega) (by omega)]; exact i5 j⟩, CL_cg (fun x c z => o x c (by omega) (by omega)) i2, by rw [o _ _ (by omega) (by omega)]; exact i3, by rw [o _ _ (by omega) (by omega), o _ _ (by omega) (by omega)]; exact i4, fun j => by rw [o _ _ (by omega) (by omega)]; exact i5 j, KP_cg (fun x c z => o x c (by omega) (by omega)) i6, TP_cg (fun x c z => o x c (by omega) (by omega)) i7, ⟨by rw [o _ _ (by omega) (by omega), o _ _ (by omega) (by omega)]; exact r1, by rw [o _ _ (by omega) (by omega)]; exact r2, fun ix mm h1 h2 => ?_⟩, SHE_cg (fun x c z => o x c (by omega) (by omega)) i9, SFE_cg (fun x c z => o x c (by omega) (by omega)) i10, ACE_cg (fun x c z => o x c (by omega) (by omega)) i11⟩
  rw [o _ _ (by omega) (by omega)] at h1
  by_cases hx : ix = qq ∧ mm = ww
  · obtain ⟨rfl, rfl⟩ := hx
    rw [hu_o (by omega)]; simp [hu]
  · rw [o _ _ (by omega) (by omega), o _ _ (by omega) (by omega)]
    exact r3 ix mm h1 h2
end L3CALE
