section L3CALL2
variable {G : GD} {l : Launch} {d k : Nat} {h h' : AH}
theorem c_towerN {tm t0 bg : Nat} (hS : StrOK G l) (i : INV k h) (hl : h 82 12 = (tm : Int)) (h3 : h 42 3 = (t0 : Int)) (hb : h 82 14 = (bg : Int)) (hf : ¬ (rdR h tm t0).2.2.2 = -1) (hd : 9 ≤ d) : Ok G l d k 55 135 [] h := by
  obtain ⟨t1, t2, t3, t4, t5⟩ := i.2.2.2.2.2.2.1
  have c := s_towerN (G := G) (l := l) (d := d) (h := h) hS (by rw [t1]; exact hl) (by omega) h3 hf (by omega)
  have xo : ∀ a c, (a < 12 ∨ 22 < a) → a ≠ 42 → hu (TXs (rdR h tm t0).1 (rdR h tm t0).2) 42 1 0 a c = h a c := fun a c z1 z2 => by rw [hu_o (by omega), TXs_o _ _ _ _ z2, rdR_o a c z1]
  have x1 : hu (TXs (rdR h tm t0).1 (rdR h tm t0).2) 42 1 0 42 1 = 0 := by simp [hu]
  have x3 : hu (TXs (rdR h tm t0).1 (rdR h tm t0).2) 42 1 0 42 3 = ((rdR h tm t0).2.2.1 : Int) := by rw [hu_o (by omega)]; exact (TXs_2 _ _).2.1
  generalize hu (TXs (rdR h tm t0).1 (rdR h tm t0).2) 42 1 0 = y at *
  have e89 : y 89 = h 89 := by funext c; exact xo _ _ (by omega) (by omega)
  obtain ⟨jj, -⟩ := read_eq (h := h) (g := y) (tm := tm) (t0 := t0) (bg := bg) (by rw [e89]; exact t3) (by rw [xo _ _ (by omega) (by omega)]; exact hl) (by omega)
  have jg : (clR y tm bg).2.1 = 0 ∧ (rdR h tm t0).2.2.2 = (gBe (clR y tm bg).2 : Int) := by
    obtain ⟨-, ⟨q1, -⟩ | q⟩ := jj
    · exact absurd q1 hf
    · exact q
  have m := m_towerN (G := G) (l := l) (d := d) (h := y) (tm := tm) (bg := bg) (by rw [xo _ _ (by omega) (by omega)]; exact hl) (by omega) (fun c => by rw [xo _ _ (by omega) (by omega)]; exact (t3 c).2) (by rw [xo _ _ (by omega) (by omega)]; exact hb) jg.1 (by omega)
  refine ok_ex c m (by rw [jg.2]) ?_
  have go : ∀ a c, (a < 90 ∨ 97 < a) → (a ≠ 82 ∨ c < 12 ∨ 21 < c) → GM (hu (clR y tm bg).1 82 12 0) (clR y tm bg).2 a c = y a c := fun a c z1 z2 => by rw [GM_o _ _ _ _ (by omega), hu_o (by omega), clR_o a c z1 (by omega)]
  obtain ⟨-, g14, -, -, -, g12, -⟩ := GM_r (hu (clR y tm bg).1 82 12 0) (clR y tm bg).2
  refine INV_X i (fun a c z1 z2 z3 z4 z5 z6 => by rw [go a c (by omega) z6, xo a c (by omega) z2]) ⟨?_, ?_, fun c => ?_, ?_, ?_⟩
  · rw [go _ _ (by omega) (by omega), x1, g12]; simp [hu]
  · rw [g12]; simp [hu]
  · rw [go _ _ (by omega) (by omega), go _ _ (by omega) (by omega), xo _ _ (by omega) (by omega), xo _ _ (by omega) (by omega)]; exact t3 c
  · rw [go _ _ (by omega) (by omega), x3]; omega
  · rw [g14]; omega
theorem c_towerY {tm t0 bg : Nat} (hS : StrOK G l) (i : INV k h) (hl : h 82 12 = (tm : Int)) (h3 : h 42 3 = (t0 : Int)) (hb : h 82 14 = (bg : Int)) (hf : (rdR h tm t0).2.2.2 = -1) (hd : 9 ≤ d) : Ok G l d k 55 135 [] h := by
  obtain ⟨t1, t2, t3, t4, t5⟩ := i.2.2.2.2.2.2.1
  have c := s_towerY (G := G) (l := l) (d := d) (h := h) hS (by rw [t1]; exact hl) (by omega) h3 hf (by omega)
  have zo : ∀ a c, a ≠ 42 → (a ≠ 12 ∨ c ≠ 14) → hu (hu (TXs (rdR h tm t0).1 (rdR h tm t0).2) 42 1 0) 12 14 ((rdR h tm t0).1 1 14) a c = (rdR h tm t0).1 a c := fun a c z1 z2 => by rw [hu_o z2, hu_o (by omega), TXs_o _ _ _ _ z1]
  have z14 : hu (hu (TXs (rdR h tm t0).1 (rdR h tm t0).2) 42 1 0) 12 14 ((rdR h tm t0).1 1 14) 12 14 = h 1 14 := by rw [← rdR_o (h := h) (ln := tm) (t0 := t0) 1 14 (by omega)]; simp [hu]
  have z1 : hu (hu (TXs (rdR h tm t0).1 (rdR h tm t0).2) 42 1 0) 12 14 ((rdR h tm t0).1 1 14) 42 1 = 0 := by rw [hu_o (by omega)]; simp [hu]
  have z3 : hu (hu (TXs (rdR h tm t0).1 (rdR h tm t0).2) 42 1 0) 12 14 ((rdR h tm t0).1 1 14) 42 3 = ((rdR h tm t0).2.2.1 : Int) := by rw [hu_o (by omega), hu_o (by omega)]; exact (TXs_2 _ _).2.1
  generalize hu (hu (TXs (rdR h tm t0).1 (rdR h tm t0).2) 42 1 0) 12 14 ((rdR h tm t0).1 1 14) = zz at *
  have xz : ∀ a c, (a ≠ 0 ∨ c ≠ 8) → hu (becomeX zz 1 12) 0 8 0 a c = becomeX zz 1 12 a c := fun a c z => hu_o z
  have xo : ∀ a c, (a < 1 ∨ 22 < a) → a ≠ 42 → (a ≠ 0 ∨ c ≠ 8) → hu (becomeX zz 1 12) 0 8 0 a c = h a c := fun a c q1 q2 q3 => by rw [xz a c q3, bec_o _ _ (by omega), zo a c q2 (by omega), rdR_o a c (by omega)]
  have x08 : hu (becomeX zz 1 12) 0 8 0 0 8 = 0 := by simp [hu]
  have x42 : ∀ c, hu (becomeX zz 1 12) 0 8 0 42 c = zz 42 c := fun c => by rw [xz _ _ (by omega), bec_o _ _ (by omega)]
  have y1 : ∀ c, (c = 0 ∨ c = 8 ∨ c = 12 ∨ c = 13) → hu (becomeX zz 1 12) 0 8 0 1 c = (rdR h tm t0).1 12 c := fun c hc => by rw [xz _ _ (by omega), bec_s _ (by omega), zo _ _ (by omega) (by omega)]
  have y14 : hu (becomeX zz 1 12) 0 8 0 1 14 = h 1 14 := by rw [xz _ _ (by omega), bec_s _ (by omega), z14]
  have yp : ∀ x c : Nat, 1 ≤ x → x ≤ 7 → (c : Int) < (rdR h tm t0).1 12 0 → hu (becomeX zz 1 12) 0 8 0 (1 + x) c = (rdR h tm t0).1 (12 + x) c := fun x c q1 q2 q3 => by rw [xz _ _ (by omega), bec_p isT1 isT12 (by omega) x c q1 q2 (by rw [zo _ _ (by omega) (by omega)]; exact q3), zo _ _ (by omega) (by omega)]
  have yh : ∀ x c : Nat, 8 ≤ x → x ≤ 10 → (c : Int) < (rdR h tm t0).1 12 8 → hu (becomeX zz 1 12) 0 8 0 (1 + x) c = (rdR h tm t0).1 (12 + x) c := fun x c q1 q2 q3 => by rw [xz _ _ (by omega), bec_h isT1 isT12 (by omega) x c q1 q2 (by rw [zo _ _ (by omega) (by omega)]; exact q3), zo _ _ (by omega) (by omega)]
  generalize hu (becomeX zz 1 12) 0 8 0 = y at *
  have e89 : y 89 = h 89 := by funext c; exact xo _ _ (by omega) (by omega) (by omega)
  obtain ⟨jj, ff⟩ := read_eq (h := h) (g := y) (tm := tm) (t0 := t0) (bg := bg) (by rw [e89]; exact t3) (by rw [xo _ _ (by omega) (by omega) (by omega)]; exact hl) (by omega)
  have jg : (clR y tm bg).2.1 = 1 := by
    obtain ⟨-, ⟨q1, q2, -⟩ | q⟩ := jj
    · exact q2
    · have := q.2; omega
  obtain ⟨f1, f2, f3, f4, f5, f6, f7, f8, f9⟩ := ff jg
  have m := m_towerY (G := G) (l := l) (d := d) (h := y) (tm := tm) (bg := bg) (by rw [xo _ _ (by omega) (by omega) (by omega)]; exact hl) (by omega) (fun c => by rw [xo _ _ (by omega) (by omega) (by omega)]; exact (t3 c).2) (by rw [xo _ _ (by omega) (by omega) (by omega)]; exact hb) (by omega) (by omega)
  obtain ⟨-, g14, -, -, -, g12, -⟩ := GM_r (hu (clR y tm bg).1 82 12 0) (clR y tm bg).2
  have wo : ∀ a c, (a ≠ 82 ∨ c < 12 ∨ 18 < c) → GM (hu (clR y tm bg).1 82 12 0) (clR y tm bg).2 a c = (clR y tm bg).1 a c := fun a c q => by rw [GM_o _ _ _ _ (by omega), hu_o (by omega)]
  generalize GM (hu (clR y tm bg).1 82 12 0) (clR y tm bg).2 = ww at *
  have r5 : ti2 8 ww 82 5 = (clR y tm bg).1 82 19 := by rw [ti2_o _ _ (by omega) 8 (by omega), tiB_5, wo _ _ (by omega)]
  refine ok_ex c m (by rw [r5]; exact f1.symm) ?_
  have v5 : hu (ti2 8 ww) 82 35 0 82 5 = (clR y tm bg).1 82 19 := by rw [hu_o (by omega)]; exact r5
  have v0 : hu (ti2 8 ww) 82 35 0 82 0 = (clR y tm bg).1 82 21 := by rw [hu_o (by omega), ti2_o _ _ (by omega) 8 (by omega), tiB_01.1, wo _ _ (by omega)]
  have v1 : hu (ti2 8 ww) 82 35 0 82 1 = (clR y tm bg).1 82 20 := by rw [hu_o (by omega), ti2_o _ _ (by omega) 8 (by omega), tiB_01.2.1, wo _ _ (by omega)]
  have v8 : hu (ti2 8 ww) 82 35 0 88 0 = 0 := by rw [hu_o (by omega), ti2_o _ _ (by omega) 8 (by omega), tiB_01.2.2]
  have v35 : hu (ti2 8 ww) 82 35 0 82 35 = 0 := by simp [hu]
  have vh : ∀ c, c < 4 → hu (ti2 8 ww) 82 35 0 83 c = (clR y tm bg).1 95 c ∧ hu (ti2 8 ww) 82 35 0 84 c = (clR y tm bg).1 96 c ∧ hu (ti2 8 ww) 82 35 0 85 c = (clR y tm bg).1 97 c := fun c hc => by
    rw [hu_o (by omega), hu_o (by omega), hu_o (by omega), ti2_o _ _ (by omega) 8 (by omega), ti2_o _ _ (by omega) 8 (by omega), ti2_o _ _ (by omega) 8 (by omega), ← wo 95 c (by omega), ← wo 96 c (by omega), ← wo 97 c (by omega)]
    exact tiB_h c hc
  have vp : ∀ c, c < 8 → hu (ti2 8 ww) 82 35 0 86 c = (clR y tm bg).1 90 c ∧ hu (ti2 8 ww) 82 35 0 87 c = (clR y tm bg).1 91 c ∧ hu (ti2 8 ww) 82 35 0 88 (1 + c) = (clR y tm bg).1 92 c ∧ hu (ti2 8 ww) 82 35 0 88 (9 + c) = (clR y tm bg).1 93 c ∧ hu (ti2 8 ww) 82 35 0 88 (17 + c) = (clR y tm bg).1 94 c ∧ hu (ti2 8 ww) 82 35 0 88 (25 + c) = 0 ∧ hu (ti2 8 ww) 82 35 0 88 (33 + c) = -1 := fun c hc => by
    rw [hu_o (by omega), hu_o (by omega), hu_o (by omega), hu_o (by omega), hu_o (by omega), hu_o (by omega), hu_o (by omega), ← wo 90 c (by omega), ← wo 91 c (by omega), ← wo 92 c (by omega), ← wo 93 c (by omega), ← wo 94 c (by omega), ← tiB_o (h := ww) 90 c (by omega) (by omega) (by omega), ← tiB_o (h := ww) 91 c (by omega) (by omega) (by omega), ← tiB_o (h := ww) 92 c (by omega) (by omega) (by omega), ← tiB_o (h := ww) 93 c (by omega) (by omega) (by omega), ← tiB_o (h := ww) 94 c (by omega) (by omega) (by omega)]
    exact ti2_v 8 c (by omega) hc
  have go : ∀ a c, (a < 83 ∨ 97 < a) → (a ≠ 82 ∨ (c ≠ 0 ∧ c ≠ 1 ∧ c ≠ 5 ∧ c ≠ 35 ∧ (c < 12 ∨ 21 < c))) → hu (ti2 8 ww) 82 35 0 a c = y a c := fun a c q1 q2 => by
    rw [hu_o (by omega), ti2_o _ _ (by omega) 8 (by omega), tiB_o a c (by omega) (by omega) (by omega), wo a c (by omega), clR_o a c (by omega) (by omega)]
  have go89 : ∀ c, hu (ti2 8 ww) 82 35 0 89 c = y 89 c := fun c => by
    rw [hu_o (by omega), ti2_o _ _ (by omega) 8 (by omega), tiB_o _ c (by omega) (by omega) (by omega), wo _ c (by omega), clR_o _ c (by omega) (by omega)]
  have go12 : hu (ti2 8 ww) 82 35 0 82 12 = 0 := by
    rw [hu_o (by omega), ti2_o _ _ (by omega) 8 (by omega), tiB_o _ _ (by omega) (by omega) (by omega), g12]; simp [hu]
  have go14 : hu (ti2 8 ww) 82 35 0 82 14 = (gBe (clR y tm bg).2 : Int) := by
    rw [hu_o (by omega), ti2_o _ _ (by omega) 8 (by omega), tiB_o _ _ (by omega) (by omega) (by omega), g14]
  generalize hu (ti2 8 ww) 82 35 0 = hh at *
  generalize (clR y tm bg).1 = cc at *
  generalize (rdR h tm t0).1 = rr at *
  have o : ∀ a c, (a < 1 ∨ 22 < a) → a ≠ 42 → (a ≠ 0 ∨ c ≠ 8) → (a < 83 ∨ 97 < a) → (a ≠ 82 ∨ (c ≠ 0 ∧ c ≠ 1 ∧ c ≠ 5 ∧ c ≠ 35 ∧ (c < 12 ∨ 21 < c))) → hh a c = h a c := fun a c q1 q2 q3 q4 q5 => by rw [go a c q4 q5, xo a c q1 q2 q3]
  have b6 : B6 hh hh 1 := by
    refine ⟨⟨?_, ?_, ?_⟩, ?_, fun c hc => ?_, fun c hc => ⟨?_, ?_⟩, ?_, ?_, ?_, ?_, fun c hc => ?_, fun c hc => ?_⟩
    · rw [go _ _ (by omega) (by omega), y1 _ (by omega), v5]; exact f1
    · rw [go _ _ (by omega) (by omega), y1 _ (by omega), v1]; exact f3
    · rw [go _ _ (by omega) (by omega), y1 _ (by omega), v0]; exact f5
    · rw [go _ _ (by omega) (by omega), y1 _ (by omega), v8]; exact f7
    · rw [v5] at hc
      have p := vp c (by omega)
      obtain ⟨⟨p1, p2, p3, p4, p5, p6, p7⟩, -⟩ := f8 c hc
      have hc' : (c : Int) < rr 12 0 := by omega
      simp only [Nat.zero_add]
      rw [p.1, p.2.1, p.2.2.1, p.2.2.2.1, p.2.2.2.2.1, p.2.2.2.2.2.1, p.2.2.2.2.2.2, go _ _ (by omega) (by omega), go _ _ (by omega) (by omega), go _ _ (by omega) (by omega), go _ _ (by omega) (by omega), go _ _ (by omega) (by omega), go _ _ (by omega) (by omega), go _ _ (by omega) (by omega), yp _ _ (by omega) (by omega) hc', yp _ _ (by omega) (by omega) hc', yp _ _ (by omega) (by omega) hc', yp _ _ (by omega) (by omega) hc', yp _ _ (by omega) (by omega) hc', yp _ _ (by omega) (by omega) hc', yp _ _ (by omega) (by omega) hc']
      exact ⟨p1, p2, p3, p4, p5, p6, p7⟩
    · rw [v1] at hc
      have p := vh c (by omega)
      obtain ⟨⟨p1, p2, p3⟩, -⟩ := f9 c hc
      have hc' : (c : Int) < rr 12 8 := by omega
      rw [p.1, p.2.1, p.2.2, go _ _ (by omega) (by omega), go _ _ (by omega) (by omega), go _ _ (by omega) (by omega), yh _ _ (by omega) (by omega) hc', yh _ _ (by omega) (by omega) hc', yh _ _ (by omega) (by omega) hc']
      exact ⟨p1, p2, p3⟩
    · rw [v1] at hc
      rw [(vh c (by omega)).1]; exact (f9 c hc).2.1
    · rw [v5]; exact f2
    · rw [v1]; exact f4
    · rw [v0]; exact f6
    · rw [v8]; omega
    · rw [v5] at hc
      have p := vp c (by omega)
      obtain ⟨-, r1, r2, r3, r4, r5⟩ := f8 c hc
      unfold PG MH
      simp only [Nat.zero_add]
      rw [p.1, p.2.1, p.2.2.1, p.2.2.2.1, p.2.2.2.2.1, p.2.2.2.2.2.1, p.2.2.2.2.2.2]
      exact ⟨⟨r1, r2⟩, r3, r4, by omega, Or.inl rfl, by omega⟩
    · rw [v1] at hc
      have p := vh c (by omega)
      obtain ⟨-, r1, r2, r3⟩ := f9 c hc
      unfold HG
      rw [p.1, p.2.1, p.2.2]
      exact ⟨r1, by omega, by omega⟩
  obtain ⟨i1, i2, i3, i4, i5, i6, i7, i8, i9, i10, i11⟩ := INV_k i
  refine ⟨B6_BB b6 (fun j => by rw [o _ _ (by omega) (by omega) (by omega) (by omega) (by omega)]; exact i1.2.2.2.2.2.2.2.2.2.2.1 j) ⟨_, fun j => by rw [o _ _ (by omega) (by omega) (by omega) (by omega) (by omega)]; exact i5 j⟩, CL_cg (fun x c z => o x c (by omega) (by omega) (by omega) (by omega) (by omega)) i2, by rw [o _ _ (by omega) (by omega) (by omega) (by omega) (by omega)]; exact i3, by rw [go _ _ (by omega) (by omega), y14, o _ _ (by omega) (by omega) (by omega) (by omega) (by omega)]; exact i4, fun j => by rw [o _ _ (by omega) (by omega) (by omega) (by omega) (by omega)]; exact i5 j, KP_cg (fun x c z => o x c (by omega) (by omega) (by omega) (by omega) (by omega)) i6, ⟨?_, ?_, fun c => ?_, ?_, ?_⟩, ⟨?_, ?_, fun ix mm h1 _ => ?_⟩, SHE_cg (fun x c z => o x c (by omega) (by omega) (by omega) (by omega) (by omega)) i9, SFE_cg (fun x c z => o x c (by omega) (by omega) (by omega) (by omega) (by omega)) i10, ACE_cg (fun x c z => o x c (by omega) (by omega) (by omega) (by omega) (by omega)) i11⟩
  · rw [go _ _ (by omega) (by omega), x42, z1, go12]
  · rw [go12]; omega
  · rw [go _ _ (by omega) (by omega), xo _ _ (by omega) (by omega) (by omega), go89, e89]; exact t3 c
  · rw [go _ _ (by omega) (by omega), x42, z3]; omega
  · rw [go14]; omega
  · rw [go _ _ (by omega) (by omega), x08, v35]
  · rw [v35]; omega
  · rw [v35] at h1; omega
theorem c_tower (hS : StrOK G l) (i : INV k h) (hd : 9 ≤ d) : Ok G l d k 55 135 [] h := by
  obtain ⟨t1, t2, t3, t4, t5⟩ := i.2.2.2.2.2.2.1
  obtain ⟨tm, hl⟩ : ∃ tm : Nat, h 82 12 = (tm : Int) := ⟨(h 82 12).toNat, by omega⟩
  obtain ⟨t0, h3⟩ : ∃ t0 : Nat, h 42 3 = (t0 : Int) := ⟨(h 42 3).toNat, by omega⟩
  obtain ⟨bg, hb⟩ : ∃ bg : Nat, h 82 14 = (bg : Int) := ⟨(h 82 14).toNat, by omega⟩
  by_cases hf : (rdR h tm t0).2.2.2 = -1
  · exact c_towerY hS i hl h3 hb hf hd
  · exact c_towerN hS i hl h3 hb hf hd
end L3CALL2
