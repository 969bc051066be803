section L3G
variable {h g y : AH} {tt aa : Nat}
theorem goMo_o (x c : Nat) (hx : x ≠ 98 ∧ x ≠ 99 ∧ x ≠ 100 ∧ (x ≠ 88 ∨ c < aa ∨ (aa + 9 ≤ c ∧ c < aa + 25))) : ∀ (k : Nat) (g : AH), (0 ≤ g 82 5 ∧ g 82 5 ≤ 8) → goMo aa k g x c = g x c
  | 0, _, _ => rfl
  | k + 1, g, hP => by
    unfold goMo
    split
    · rw [goMo_o x c hx k _ (by rw [minuteM_o hP _ _ (by omega)]; exact hP), minuteM_o hP _ _ hx]
    · rfl
theorem goesM_arr {pp c : Nat} (hp : pp < 8) (hc : c < 8) : goesM g aa pp 88 (aa + 33 + c) = g 88 (aa + 33 + c) ∨ (c = pp ∧ goesM g aa pp 88 (aa + 33 + c) = g 88 aa) := by
  by_cases e : c = pp
  · subst e
    unfold goesM
    generalize bi (¬ g 88 (aa + 1 + c) = g 88 (aa + 9 + c) ∧ (gsL aa c 3 (mayF (g 86 c) (g 87 c) (g 88 aa)) g).1 = false) = wt
    have o : ∀ x d, x = 88 → (d = aa ∨ d = aa + 33 + c) → gsW c wt (gsL aa c 3 (mayF (g 86 c) (g 87 c) (g 88 aa)) g).2 x d = g x d := fun x d q1 q2 => by rw [gsW_o _ _ _ _ _ (by omega), gsL_o _ _ _ _ (by omega)]
    generalize gsW c wt (gsL aa c 3 (mayF (g 86 c) (g 87 c) (g 88 aa)) g).2 = z at o
    unfold gsE
    split
    · right; refine ⟨rfl, ?_⟩; rw [o 88 aa rfl (Or.inl rfl)]; simp [hu]
    · left; exact o _ _ rfl (Or.inr rfl)
  · left; exact goesM_o _ _ (by omega)
theorem fold_arr {c : Nat} (hc : c < 8) : ∀ (L : List Nat) (g : AH), (∀ p ∈ L, p < 8) → 0 ≤ g 88 aa → (L.foldl (fun x p => goP aa p x) g 88 (aa + 33 + c) = g 88 (aa + 33 + c) ∨ (g 88 (aa + 33 + c) < 0 ∧ L.foldl (fun x p => goP aa p x) g 88 (aa + 33 + c) = g 88 aa))
  | [], _, _, _ => Or.inl rfl
  | p :: L, g, hL, h0 => by
    have hp := hL p (by simp)
    have em : goP aa p g 88 aa = g 88 aa := goP_o _ _ hp (by omega)
    have ih := fold_arr hc L (goP aa p g) (fun q hq => hL q (by simp [hq])) (by rw [em]; exact h0)
    rw [em] at ih
    show (L.foldl (fun x p => goP aa p x) (goP aa p g) 88 (aa + 33 + c) = _ ∨ _ ∧ L.foldl (fun x p => goP aa p x) (goP aa p g) 88 (aa + 33 + c) = _)
    have st : goP aa p g 88 (aa + 33 + c) = g 88 (aa + 33 + c) ∨ (g 88 (aa + 33 + c) < 0 ∧ goP aa p g 88 (aa + 33 + c) = g 88 aa) := by
      unfold goP
      split
      · next q =>
        rcases goesM_arr (g := g) (aa := aa) hp hc with e | e
        · exact Or.inl e
        · right; rw [e.1]; rw [e.1] at e; exact ⟨q.1, e.2⟩
      · exact Or.inl rfl
    rcases st with e | e
    · rw [e] at ih; exact ih
    · rcases ih with f | f
      · right; exact ⟨e.1, by rw [f]; exact e.2⟩
      · exfalso; omega
theorem minute_arr {c : Nat} (hP : 0 ≤ g 82 5 ∧ g 82 5 ≤ 8) (hc : c < 8) (h0 : 0 ≤ g 88 aa) : minuteM g aa 88 (aa + 33 + c) = g 88 (aa + 33 + c) ∨ (g 88 (aa + 33 + c) < 0 ∧ minuteM g aa 88 (aa + 33 + c) = g 88 aa) := by
  have o2 : ∀ a c, a ≠ 98 → zero18 g a c = g a c := fun a c q => zero18_o 18 g a c q
  rw [minuteM_list, hu_o (by omega)]
  have := fold_arr (aa := aa) hc (flatL g (g 82 5).toNat) (zero18 g) (fun p hp => by have := flatL_mem hp; omega) (by rw [o2 _ _ (by omega)]; exact h0)
  rw [o2 _ _ (by omega), o2 _ _ (by omega)] at this
  exact this
theorem goMo_arr {c : Nat} (hc : c < 8) : ∀ (k : Nat) (g : AH), (0 ≤ g 82 5 ∧ g 82 5 ≤ 8) → 0 ≤ g 88 aa → (goMo aa k g 88 (aa + 33 + c) = g 88 (aa + 33 + c) ∨ (g 88 (aa + 33 + c) < 0 ∧ g 88 aa ≤ goMo aa k g 88 (aa + 33 + c) ∧ goMo aa k g 88 (aa + 33 + c) < g 88 aa + k ∧ goMo aa k g 88 (aa + 33 + c) ≤ 119))
  | 0, _, _, _ => Or.inl rfl
  | k + 1, g, hP, h0 => by
    unfold goMo
    split
    · next q =>
      have ih := goMo_arr hc k (minuteM g aa) (by rw [minuteM_o hP _ _ (by omega)]; exact hP) (by rw [minuteM_m]; omega)
      rw [minuteM_m] at ih
      rcases minute_arr hP hc h0 with e | e
      · rw [e] at ih
        rcases ih with f | f
        · exact Or.inl f
        · right; omega
      · rw [e.2] at ih
        right
        rcases ih with f | f <;> omega
    · exact Or.inl rfl
theorem goMo_min : ∀ (k : Nat) (g : AH), g 88 aa + k ≤ 120 → goMo aa k g 88 aa = g 88 aa + k
  | 0, g, _ => by show g 88 aa = _; omega
  | k + 1, g, e => by rw [goMo_s (by omega), goMo_min k _ (by rw [minuteM_m]; omega), minuteM_m]; omega
theorem MG_minute (hm : MG g aa) (h9 : g 82 9 = (aa : Int)) (h1 : g 88 aa < 120) : MG (minuteM g aa) aa := by
  obtain ⟨⟨ww, mi⟩, mh⟩ := GI_minute (MG_GI hm h9) h1
  obtain ⟨m1, m2, m3, m4, m5, m6, m7, m8⟩ := hm
  have o : ∀ x c, (x ≠ 98 ∧ x ≠ 99 ∧ x ≠ 100 ∧ (x ≠ 88 ∨ c < aa ∨ (aa + 9 ≤ c ∧ c < aa + 25))) → minuteM g aa x c = g x c := fun x c q => minuteM_o m1 x c q
  obtain ⟨i1, i2, i3, i4, i5⟩ := mi
  refine ⟨by rw [o _ _ (by omega)]; exact m1, by rw [o _ _ (by omega)]; exact m2, by rw [o _ _ (by omega)]; exact m3, i5, fun c hc => ?_, fun c hc => ?_, ?_, ⟨ww, i4⟩⟩
  · have s := i3 c hc
    have w := mh c hc
    rw [o _ _ (by omega)] at hc
    have p := m5 c hc
    have ar := minute_arr (g := g) (aa := aa) (c := c) m1 (by omega) m4.1
    unfold PG at *
    obtain ⟨p1, p2, p3, p4, p5, p6⟩ := p
    refine ⟨by rw [o _ _ (by omega), o _ _ (by omega)]; exact p1, s.1, by rw [o _ _ (by omega)]; exact p3, by rw [o _ _ (by omega)]; exact p4, w, by omega⟩
  · rw [o _ _ (by omega)] at hc
    unfold HG
    rw [o _ _ (by omega), o _ _ (by omega), o _ _ (by omega)]
    exact m6 c hc
  · by_cases e : 0 < g 82 5
    · exact (i3 0 (by rw [o _ _ (by omega)]; omega)).2.2.2.1
    · intro j
      have f0 : (g 82 5).toNat = 0 := by omega
      rw [minuteM_list, f0, hu_o (by omega)]
      have fz : flatL g 0 = [] := by
        cases hq : flatL g 0 with
        | nil => rfl
        | cons p l => have := flatL_mem (g := g) (n := 0) (p := p) (by rw [hq]; simp); omega
      rw [fz]
      show 0 ≤ zero18 g 98 j ∧ zero18 g 98 j ≤ 1000
      rw [show zero18 g 98 j = if j < 18 then 0 else g 98 j from zero18_v 18 g j]
      have := m7 j
      split <;> omega
theorem MG_go : ∀ (k : Nat) (g : AH), MG g aa → g 82 9 = (aa : Int) → MG (goMo aa k g) aa ∧ goMo aa k g 82 9 = (aa : Int)
  | 0, _, hm, h9 => ⟨hm, h9⟩
  | k + 1, g, hm, h9 => by
    unfold goMo
    split
    · next q => exact MG_go k _ (MG_minute hm h9 q) (by rw [minuteM_o hm.1 _ _ (by omega)]; exact h9)
    · exact ⟨hm, h9⟩
theorem tryL_o (a c : Nat) (ha : ¬ (12 ≤ a ∧ a ≤ 22) ∧ ¬ (34 ≤ a ∧ a ≤ 41)) : ∀ (k : Nat) (h : AH), tryL 12 k h a c = h a c
  | 0, _ => rfl
  | k + 1, h => by
    unfold tryL
    split
    · rw [tryL_o a c ha k, passX_o isT12 _ _ (by omega)]
    · rfl
theorem tryX_o {ee : Int} (a c : Nat) (ha : ¬ (12 ≤ a ∧ a ≤ 22) ∧ ¬ (34 ≤ a ∧ a ≤ 41)) : tryX y 12 ee a c = y a c := by
  unfold tryX
  rw [tryL_o a c ha, ready_o _ _ (by omega)]
theorem CL_pass {ww : Int} (ht : isT tt) (hi : PI h tt ww) (hc : CL h) (hm : h tt 13 < 120) : CL (passX h tt) := by
  have hl := isT_lt ht
  by_cases e : 0 < h tt 0
  · obtain ⟨i1, -, i3, -⟩ := PI_passX ht hi hm
    have o : passX h tt tt 0 = h tt 0 := passX_o ht _ _ (by omega)
    obtain ⟨-, -, k3, k4, -⟩ := i3 0 (by rw [o]; omega)
    exact ⟨k3, k4⟩
  · have e0 : (h tt 0).toNat = 0 := by omega
    unfold passX
    rw [e0]
    show CL (hu (zero9 (hu h 34 7 (clX h tt (h tt 13) (h tt 8).toNat))) tt 13 (h tt 13 + 1))
    have z := zero9_v 9 (hu h 34 7 (clX h tt (h tt 13) (h tt 8).toNat))
    refine ⟨fun j => ?_, fun j => ?_⟩
    · rw [hu_o (by omega), show zero9 (hu h 34 7 (clX h tt (h tt 13) (h tt 8).toNat)) 39 j = _ from (z j).1]
      have := hc.1 j
      split
      · omega
      · rw [hu_o (by omega)]; exact this
    · rw [hu_o (by omega), show zero9 (hu h 34 7 (clX h tt (h tt 13) (h tt 8).toNat)) 40 j = _ from (z j).2]
      have := hc.2 j
      split
      · omega
      · rw [hu_o (by omega)]; exact this
theorem CL_tryL (ht : isT tt) : ∀ (k : Nat) (h : AH) (ww : Int), PI h tt ww → CL h → h tt 13 + k ≤ 120 → CL (tryL tt k h)
  | 0, _, _, _, hc, _ => hc
  | k + 1, h, ww, hi, hc, hk => by
    unfold tryL
    split
    · exact CL_tryL ht k _ (ww + 8) (PI_passX ht hi (by omega)) (CL_pass ht hi hc (by omega)) (by rw [passX_m]; omega)
    · exact hc
theorem CL_ready (hc : CL h) : CL (readyX h tt) := ⟨fun j => by rw [ready_o _ _ (by omega)]; exact hc.1 j, fun j => by rw [ready_o _ _ (by omega)]; exact hc.2 j⟩
theorem CL_tryX {ee : Int} (hs : SG y g) (he : ee ≤ 120) : CL (tryX y 12 ee) := by
  have tg := SG_TG hs
  have h13 := tg.2.2.2.2.1
  have hcl := hs.2.2.2.2.2.2.1
  unfold tryX
  have e : readyX y 12 12 13 = y 12 13 := ready_o _ _ (by omega)
  by_cases q : y 12 13 ≤ ee
  · exact CL_tryL isT12 _ _ 8 (PI_ready isT12 tg) (CL_ready hcl) (by rw [e]; omega)
  · rw [show (ee - y 12 13).toNat = 0 by omega]
    exact CL_ready hcl
theorem SG_full (hs : SG y g) : RQ True (tryX y 12 120) (goMo 41 120 g) 12 41 := by
  have h4 := hs.2.2.2.2.1.2.2.2.1
  have := SG_try hs (ee := 120) (by omega) (by omega)
  rw [← goMo_stop (aa := 41) (120 - g 88 41).toNat (g 88 41).toNat g (by omega), show (120 - g 88 41).toNat + (g 88 41).toNat = 120 by omega] at this
  exact this
/-- the class's last arrival is the model's -/
theorem late_eq {x z : AH} (e0 : x 12 0 = z 82 5) (hP : 0 ≤ z 82 5) (e : ∀ c : Nat, (c : Int) < z 82 5 → x 19 c = orN (z 88 (74 + c))) : lateX x 12 = lastM z := by
  have key : ∀ n : Nat, (n : Int) ≤ z 82 5 → (allX x 12 n = true ↔ ∀ c, c < n → 0 ≤ z 88 (74 + c)) ∧ (allF z n = true ↔ (0 < z 82 5 ∧ ∀ c, c < n → 0 ≤ z 88 (74 + c))) ∧ ((∀ c, c < n → 0 ≤ z 88 (74 + c)) → n = 0 ∨ (mxX x 12 n = maxF z n ∧ 0 ≤ maxF z n)) := by
    intro n
    induction n with
    | zero =>
      intro _
      refine ⟨⟨fun _ c hc => by omega, fun _ => rfl⟩, ?_, fun _ => Or.inl rfl⟩
      unfold allF
      simp
    | succ n ih =>
      intro hn
      obtain ⟨i1, i2, i3⟩ := ih (by omega)
      have en := e n (by omega)
      have e9 : (x (12 + 7) n = -9) ↔ z 88 (74 + n) < 0 := by
        show x 19 n = -9 ↔ _
        rw [en]; unfold orN; split <;> omega
      refine ⟨?_, ?_, fun ha => Or.inr ?_⟩
      · unfold allX
        rw [Bool.and_eq_true, i1, decide_eq_true_eq, e9]
        constructor
        · intro q c hc
          by_cases w : c = n
          · subst w; omega
          · exact q.1 c (by omega)
        · intro q; exact ⟨fun c hc => q c (by omega), by have := q n (by omega); omega⟩
      · unfold allF
        rw [Bool.and_eq_true, i2, decide_eq_true_eq]
        constructor
        · intro q
          refine ⟨q.1.1, fun c hc => ?_⟩
          by_cases w : c = n
          · subst w; exact q.2
          · exact q.1.2 c (by omega)
        · intro q; exact ⟨⟨q.1, fun c hc => q.2 c (by omega)⟩, q.2 n (by omega)⟩
      · have hv := ha n (by omega)
        have en2 : x (12 + 7) n = z 88 (74 + n) := by
          show x 19 n = _
          rw [en]; unfold orN; rw [if_neg (by omega)]
        have i4 := i3 (fun c hc => ha c (by omega))
        unfold mxX maxF
        rw [en2]
        rcases i4 with q | q
        · subst q
          unfold mxX maxF
          split <;> omega
        · rw [q.1]
          have := q.2
          split <;> omega
  obtain ⟨k1, k2, k3⟩ := key (z 82 5).toNat (by omega)
  unfold lateX lastM
  rw [e0]
  by_cases a : ∀ c, c < (z 82 5).toNat → 0 ≤ z 88 (74 + c)
  · rw [if_pos (k1.mpr a)]
    rcases k3 a with q | q
    · rw [if_neg (fun w => by have := (k2.mp w).1; omega), q]; rfl
    · by_cases w : 0 < z 82 5
      · rw [if_pos (k2.mpr ⟨w, a⟩)]; exact q.1
      · rw [if_neg (fun v => w (k2.mp v).1), show (z 82 5).toNat = 0 by omega]; rfl
  · rw [if_neg (fun w => a (k1.mp w)), if_neg (fun w => a (k2.mp w).2)]
end L3G
