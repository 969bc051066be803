section L3ROWS
theorem orN_neg (v : Int) : orN v = -9 ↔ v < 0 := by
  unfold orN
  split <;> omega
theorem tell_row {x y : AH} {cc i : Nat} (hcc : 45 ≤ cc) (hi : TI True x y 12 41) (hm : y 88 41 < 120) (hP : 0 ≤ y 82 5 ∧ y 82 5 ≤ 8) : tellX cc x cc 0 = y 88 41 ∧ tellX cc x cc 1 = setG (frY y i) (y 82 5).toNat ∧ tellX cc x cc 2 = sumG (frY y i) (y 82 5).toNat := by
  have h1 : TI True (hu x cc 0 (x 12 13)) (hu y 102 (3 * i) (y 88 41)) 12 41 := by
    refine TI_cell (fun k hk hk2 => ?_) (fun k hk hk2 => ?_) (fun c hc => ?_) hi
    · funext c; rw [hu_o (by omega)]
    · funext c; rw [hu_o (by omega)]
    · rw [hu_o (by omega)]
  have h2 := TI_pass (by unfold isT; omega) h1 (by rw [hu_o (by omega)]; exact hm)
  have hf : frY y i = minuteM (hu y 102 (3 * i) (y 88 41)) 41 := by
    unfold frY
    rw [goMo, if_pos (show hu y 102 (3 * i) (y 88 41) 88 41 < 120 by rw [hu_o (by omega)]; exact hm), goMo]
  rw [← hf] at h2
  have e12 : x 12 0 = y 82 5 := hi.1.1.1
  have e13 : x 12 13 = y 88 41 := hi.1.2.1
  have e5 : frY y i 82 5 = y 82 5 := by
    have q1 := h2.1.1.1
    have q2 := h1.1.1.1
    rw [passX_o isT12 _ _ (by omega)] at q1
    rw [← q1, hu_o (by omega)]; exact e12
  have ra := h2.1.2.2.1
  have s1 := setX_setG (h := passX (hu x cc 0 (x 12 13)) 12) (g := frY y i) (tt := 12) (y 82 5).toNat (by omega) (fun j hj => by
    have b := (ra j (by rw [e5]; omega)).1.2.2.2.2.2.2
    rw [show 41 + 33 + j = 74 + j by omega] at b
    rw [b]; exact orN_neg _)
  have s2 := sumX_sumG (h := passX (hu x cc 0 (x 12 13)) 12) (g := frY y i) (tt := 12) (y 82 5).toNat (fun j hj => by
    have b := (ra j (by rw [e5]; omega)).1.2.2.1
    rw [show 41 + 1 + j = 42 + j by omega] at b
    exact b)
  unfold tellX
  refine ⟨?_, ?_, ?_⟩
  · rw [hu_o (by omega), hu_o (by omega), passX_o isT12 _ _ (by omega)]
    simp only [hu_ap, true_and, if_true]
    exact e13
  · rw [hu_o (by omega)]
    simp only [hu_ap, true_and, if_true]
    rw [e12]; exact s1.1
  · simp only [hu_ap, true_and, if_true]
    rw [e12]; exact s2
theorem MG_ww {g : AH} (hm : MG g 0) : ∃ ww : Int, 0 ≤ ww ∧ ∀ j, 0 ≤ g 100 j ∧ g 100 j ≤ ww := by
  obtain ⟨ww, hw⟩ := hm.2.2.2.2.2.2.2
  exact ⟨ww, by have := hw 0; omega, hw⟩
theorem TI_start {h g : AH} (hb : BB h g) (hc : CL h) : TI True (readyX (becomeX h 12 1) 12) (frM g 0) 12 41 := by
  have hs := SG_start hb hc
  obtain ⟨a1, a4, r7, rh, mg, h9, hc, w1, w2⟩ := hs
  obtain ⟨e1, e2, e3⟩ := ready_eq (fl := True) isT12 a1 a4 r7 mg.1 (MG_KK mg) (fun _ => ⟨w1, w2⟩)
  have ti : TI True (readyX (becomeX h 12 1) 12) (lendM g) 12 41 := by
    refine ⟨e1, fun c hc => ?_, MG_GI mg h9, e2, mg.2.1.1, e3⟩
    rw [ready_o _ _ (by omega), ready_o _ _ (by omega), ready_o _ _ (by omega)]
    exact rh c hc
  refine TI_cell (fun k hk hk2 => rfl) (fun k hk hk2 => ?_) (fun c hc => ?_) ti
  · funext c; show hu (lendM g) 82 36 0 k c = _; rw [hu_o (by omega)]
  · show hu (lendM g) 82 36 0 82 c = _; rw [hu_o (by omega)]
/-- the model's rows stay once they are told -/
theorem fr_row {g : AH} (i m : Nat) (hm : m < 3) : ∀ n : Nat, i < n → frM g n 102 (3 * i + m) = frM g (i + 1) 102 (3 * i + m) ∨ ¬ (MG g 0 ∧ g 88 0 + n ≤ 120)
  | 0, hn => by omega
  | n + 1, hn => by
    by_cases e : i = n
    · left; rw [e]
    · by_cases hg : MG g 0 ∧ g 88 0 + ((n + 1 : Nat) : Int) ≤ 120
      · left
        have ih := (fr_row i m hm n (by omega)).resolve_right (fun z => z ⟨hg.1, by omega⟩)
        rw [← ih, frM_s, hu_o (by omega), hu_o (by omega), hu_o (by omega)]
        obtain ⟨ww, w0, hw⟩ := MG_ww hg.1
        have fi := fr_inv hg.1 w0 hw n (by omega)
        unfold frY
        rw [goMo_o _ _ (by omega) _ _ (by rw [hu_o (by omega)]; exact fi.1.1), hu_o (by omega)]
      · right; exact hg
theorem rows_step {x g : AH} {cc i : Nat} (hcc : 45 ≤ cc) (hm : MG g 0) (hi : g 88 0 + i < 120) (ti : TI True x (frM g i) 12 41) : TI True (tellX cc x) (frM g (i + 1)) 12 41 ∧ tellX cc x cc 0 = frM g (i + 1) 102 (3 * i) ∧ tellX cc x cc 1 = frM g (i + 1) 102 (3 * i + 1) ∧ tellX cc x cc 2 = frM g (i + 1) 102 (3 * i + 2) := by
  obtain ⟨ww, w0, hw⟩ := MG_ww hm
  have fi := fr_inv hm w0 hw i (by omega)
  obtain ⟨f1, f2, f3, f4, f5, f6⟩ := fi
  have e5 : frM g i 82 5 = g 82 5 := f6 _ _ (by omega) (by omega) (by omega) (by omega) (by omega) (by omega) (by omega)
  have h41 : frM g i 88 41 < 120 := by omega
  obtain ⟨r0, r1, r2⟩ := tell_row (cc := cc) (i := i) hcc ti h41 f1.1
  refine ⟨by rw [frM_s]; exact TI_tell hcc ti h41, ?_, ?_, ?_⟩
  · rw [r0, frM_s, hu_o (by omega), hu_o (by omega), hu_o (by omega)]
    unfold frY
    rw [goMo_o _ _ (by omega) _ _ (by rw [hu_o (by omega)]; exact f1.1)]
    simp [hu]
  · rw [r1, frM_s, hu_o (by omega), hu_o (by omega), e5]
    simp [hu]
  · rw [r2, frM_s, hu_o (by omega), e5]
    simp [hu]
theorem pv_rows {h g : AH} {kk : Int} (hb : BB h g) (hc : CL h) (h0 : kk ≤ 120 - h 1 13) : ∀ n : Nat, (n : Int) ≤ kk → TI True (pvX h kk n) (frM g n) 12 41 ∧ ∀ i m : Nat, i < n → m < 3 → pvX h kk n (45 + i) m = frM g n 102 (3 * i + m)
  | 0, _ => by
    refine ⟨?_, fun i m hi => by omega⟩
    refine TI_cell (fun k hk hk2 => ?_) (fun k hk hk2 => rfl) (fun c hc => rfl) (TI_start hb hc)
    funext c; show hu _ 0 8 kk k c = _; rw [hu_o (by omega)]
  | n + 1, hn => by
    obtain ⟨t1, t2⟩ := pv_rows hb hc h0 n (by omega)
    have e13 := hb.2.1
    have hm := hb.2.2.2.2
    obtain ⟨s1, s2, s3, s4⟩ := rows_step (cc := 45 + n) (by omega) hm (by omega) t1
    refine ⟨s1, fun i m hi hm3 => ?_⟩
    show tellX (45 + n) (pvX h kk n) (45 + i) m = _
    by_cases e : i = n
    · subst e
      rcases (by omega : m = 0 ∨ m = 1 ∨ m = 2) with z | z | z <;> subst z
      · exact s2
      · exact s3
      · exact s4
    · rw [tell_f (by omega) _ _ (by omega), t2 i m (by omega) hm3]
      have a1 := (fr_row (g := g) i m hm3 n (by omega)).resolve_right (fun z => z ⟨hm, by omega⟩)
      have a2 := (fr_row (g := g) i m hm3 (n + 1) (by omega)).resolve_right (fun z => z ⟨hm, by omega⟩)
      rw [a1, a2]
theorem jd_rows {h g : AH} (hb : BB h g) (hc : CL h) : ∀ n : Nat, h 1 13 + n ≤ 120 → TI True (jdX h n) (frM g n) 12 41
  | 0, _ => TI_start hb hc
  | n + 1, hn => by
    have t1 := jd_rows hb hc n (by omega)
    have e13 := hb.2.1
    exact (rows_step (cc := 65) (by omega) hb.2.2.2.2 (by omega) t1).1
theorem jOk_eq {h g : AH} {nn cc j : Nat} (hb : BB h g) (hc : CL h) (hcc : (cc : Int) = min (nn : Int) (120 - g 88 0)) (hj : j < nn) (hr : ∀ m, m < 3 → h (45 + j) m = g 101 (3 * j + m)) : jOk h j = jOkM g cc j := by
  have e13 := hb.2.1
  have hm := hb.2.2.2.2
  have q0 := hr 0 (by omega)
  have q1 := hr 1 (by omega)
  have q2 := hr 2 (by omega)
  rw [Nat.add_zero] at q0
  unfold jOk jOkM
  by_cases hlt : h 1 13 + j < 120
  · have t1 := jd_rows hb hc j (by omega)
    obtain ⟨s1, s2, s3, s4⟩ := rows_step (cc := 65) (by omega) hm (by omega) t1
    have hjc : j < cc := by omega
    have a0 := (fr_row (g := g) j 0 (by omega) cc hjc).resolve_right (fun z => z ⟨hm, by omega⟩)
    have a1 := (fr_row (g := g) j 1 (by omega) cc hjc).resolve_right (fun z => z ⟨hm, by omega⟩)
    have a2 := (fr_row (g := g) j 2 (by omega) cc hjc).resolve_right (fun z => z ⟨hm, by omega⟩)
    rw [Nat.add_zero] at a0
    have j0 : jdX h (j + 1) = tellX 65 (jdX h j) := rfl
    rw [j0, s2, s3, s4, q0, q1, q2, a0, a1, a2]
    simp only [hlt, hjc]
  · have hjc : ¬ j < cc := by omega
    simp only [hlt, hjc, false_and]
theorem jS_congr {f f' : Nat → Bool} {cnt : Nat} : ∀ n : Nat, n ≤ cnt → (∀ j, j < cnt → f j = f' j) → jS f cnt n = jS f' cnt n := by
  intro n hn e
  induction n with
  | zero => rfl
  | succ n ih =>
    unfold jS
    rw [ih (by omega), e _ (by omega)]
end L3ROWS
