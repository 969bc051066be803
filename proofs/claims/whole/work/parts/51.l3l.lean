section L3L
variable {A B g : AH} {L : List Nat} {p q : Nat} {sg : Int}
/-- is the next flight free for p, who stands on floor f and goes up (sg = 1) or down -/
def frS (g : AH) (p : Nat) (sg f : Int) : Bool := if sg = 1 then !(clB g f (g 88 41) (g 82 1).toNat) && decide (g 98 f.toNat + takesF (g 86 p) (g 87 p) ≤ g 82 0) else !(clB g (f - 1) (g 88 41) (g 82 1).toNat) && decide (g 98 (9 + (f - 1)).toNat + takesF (g 86 p) (g 87 p) ≤ g 82 0)
theorem stB_fr (hs : sg = 1 ∨ sg = -1) (hd : sg * g 88 (41 + 1 + p) ≤ sg * g 88 (41 + 9 + p)) (hn : ¬ g 88 (41 + 1 + p) = g 88 (41 + 9 + p)) : stB g 41 p = frS g p sg (g 88 (41 + 1 + p)) := by
  unfold stB frS
  rcases hs with rfl | rfl
  · rw [if_pos (by omega), if_pos rfl]
  · rw [if_neg (by omega), if_neg (by omega)]
theorem stM_fl {hv : Int} (hs : sg = 1 ∨ sg = -1) (hd : sg * g 88 (41 + 1 + p) ≤ sg * g 88 (41 + 9 + p)) (hn : ¬ g 88 (41 + 1 + p) = g 88 (41 + 9 + p)) : stM g 41 p hv 88 (41 + 1 + p) = g 88 (41 + 1 + p) + if g 88 (41 + 25 + p) + hv < 2 then 0 else sg := by
  unfold stM
  rcases hs with rfl | rfl
  · rw [if_pos (by omega)]; unfold stL; simp [hu]
  · rw [if_neg (by omega)]; unfold stL; simp [hu]
theorem frS_st {hv f : Int} (hs : sg = 1 ∨ sg = -1) (hi : stI g 41 p) (hd : sg * g 88 (41 + 1 + p) ≤ sg * g 88 (41 + 9 + p)) (hn : ¬ g 88 (41 + 1 + p) = g 88 (41 + 9 + p)) (hf : sg * g 88 (41 + 1 + p) < sg * f) : frS (stM g 41 p hv) p sg f = frS g p sg f := by
  have o : ∀ x c, x ≠ 98 ∧ x ≠ 99 ∧ (x ≠ 88 ∨ (c ≠ 41 + 25 + p ∧ c ≠ 41 + 1 + p)) → stM g 41 p hv x c = g x c := fun x c z => stM_o _ _ _ _ _ _ z
  have cl : ∀ f m n, clB (stM g 41 p hv) f m n = clB g f m n := fun f m n => clB_cell (fun x c z => o x c (by omega)) f m n
  have f1 := hi.1
  unfold frS
  rw [cl, cl, o 88 41 (by omega), o 82 1 (by omega), o 82 0 (by omega), o 86 p (by omega), o 87 p (by omega)]
  have l : ∀ c, (sg = 1 → c ≠ (g 88 (41 + 1 + p)).toNat) → (sg = -1 → c ≠ (9 + (g 88 (41 + 1 + p) - 1)).toNat) → stM g 41 p hv 98 c = g 98 c := fun c h1 h2 => by
    unfold stM
    rcases hs with rfl | rfl
    · rw [if_pos (by omega)]; unfold stL
      rw [hu_o (by omega), hu_o (by omega), hu_o (by omega), hu_o (Or.inr (h1 rfl))]
    · rw [if_neg (by omega)]; unfold stL
      rw [hu_o (by omega), hu_o (by omega), hu_o (by omega), hu_o (Or.inr (h2 rfl))]
  rcases hs with rfl | rfl
  · rw [if_pos rfl, if_pos rfl, l _ (fun _ => by omega) (fun z => by omega)]
  · rw [if_neg (by omega), if_neg (by omega), l _ (fun z => by omega) (fun _ => by omega)]
theorem wk_non {fr : Int → Bool} (hs : sg = 1 ∨ sg = -1) : ∀ (k K : Nat) (lf : Int) (g : AH), k < K → lf = 2 * k → stI g 41 p → g 88 (41 + 25 + p) = 0 → sg * g 88 (41 + 1 + p) ≤ sg * g 88 (41 + 9 + p) → (∀ f, sg * g 88 (41 + 1 + p) ≤ sg * f → frS g p sg f = fr f) → (gsL 41 p K lf g).2 88 (41 + 1 + p) = wlk fr sg (g 88 (41 + 9 + p)) k (g 88 (41 + 1 + p)) ∧ (gsL 41 p K lf g).2 88 (41 + 25 + p) = 0
  | 0, K, lf, g, hK, hl, hi, h0, hd, hf => by
    obtain ⟨K, rfl⟩ : ∃ K2, K = K2 + 1 := ⟨K - 1, by omega⟩
    rw [gsL, if_neg (fun z => by have := z.1; omega)]
    exact ⟨rfl, h0⟩
  | k + 1, K, lf, g, hK, hl, hi, h0, hd, hf => by
    obtain ⟨K, rfl⟩ : ∃ K2, K = K2 + 1 := ⟨K - 1, by omega⟩
    have e1 : wlk fr sg (g 88 (41 + 9 + p)) (k + 1) (g 88 (41 + 1 + p)) = if ¬ g 88 (41 + 1 + p) = g 88 (41 + 9 + p) ∧ fr (g 88 (41 + 1 + p)) = true then wlk fr sg (g 88 (41 + 9 + p)) k (g 88 (41 + 1 + p) + sg) else g 88 (41 + 1 + p) := rfl
    rw [e1]
    by_cases hn : g 88 (41 + 1 + p) = g 88 (41 + 9 + p)
    · have ec : gsL 41 p (K + 1) lf g = (false, g) := by rw [gsL, if_neg (fun z => z.2.1 hn)]
      rw [ec, if_neg (fun z => z.1 hn)]
      exact ⟨rfl, h0⟩
    have eb : stB g 41 p = fr (g 88 (41 + 1 + p)) := by rw [stB_fr hs hd hn]; exact hf _ (Int.le_refl _)
    by_cases c : fr (g 88 (41 + 1 + p)) = true
    · have ec : gsL 41 p (K + 1) lf g = (true, (gsL 41 p K (lf - 2) (stM g 41 p 2)).2) := by
        rw [gsL, if_pos (show 0 < lf ∧ ¬ g 88 (41 + 1 + p) = g 88 (41 + 9 + p) ∧ stB g 41 p = true from ⟨by omega, hn, eb.trans c⟩), if_neg (show ¬ lf = 1 by omega)]
      rw [ec, if_pos (show ¬ g 88 (41 + 1 + p) = g 88 (41 + 9 + p) ∧ fr (g 88 (41 + 1 + p)) = true from ⟨hn, c⟩)]
      have v1 := stM_fl (hv := 2) hs hd hn
      rw [h0, if_neg (by omega)] at v1
      have v2 : stM g 41 p 2 88 (41 + 25 + p) = 0 := by rw [stM_half, h0]; decide
      have v9 : stM g 41 p 2 88 (41 + 9 + p) = g 88 (41 + 9 + p) := stM_o _ _ _ _ _ _ (by omega)
      have i := wk_non (fr := fr) hs k K (lf - 2) (stM g 41 p 2) (by omega) (by omega) (stI_st hi (by omega) hn (by rw [eb]; exact c)) v2 (by rw [v1, v9]; rcases hs with rfl | rfl <;> omega) (fun f hq => by
        rw [v1] at hq
        have hq2 : sg * g 88 (41 + 1 + p) < sg * f := by rcases hs with rfl | rfl <;> omega
        rw [frS_st hs hi hd hn hq2]
        exact hf f (by omega))
      rw [v1, v9] at i
      exact i
    · have ec : gsL 41 p (K + 1) lf g = (false, g) := by rw [gsL, if_neg (fun z => c (eb.symm.trans z.2.2))]
      rw [ec, if_neg (fun z => c z.2)]
      exact ⟨rfl, h0⟩
theorem wk_hal (hs : sg = 1 ∨ sg = -1) (hd : sg * g 88 (41 + 1 + p) ≤ sg * g 88 (41 + 9 + p)) : (gsL 41 p 3 1 g).2 88 (41 + 1 + p) = (if ¬ g 88 (41 + 1 + p) = g 88 (41 + 9 + p) ∧ frS g p sg (g 88 (41 + 1 + p)) = true then g 88 (41 + 1 + p) + (if g 88 (41 + 25 + p) + 1 < 2 then 0 else sg) else g 88 (41 + 1 + p)) ∧ (gsL 41 p 3 1 g).2 88 (41 + 25 + p) = (if ¬ g 88 (41 + 1 + p) = g 88 (41 + 9 + p) ∧ frS g p sg (g 88 (41 + 1 + p)) = true then m32 (g 88 (41 + 25 + p) + 1) 2 else g 88 (41 + 25 + p)) := by
  have e2 : ∀ x : AH, gsL 41 p 2 (1 - 2) x = (false, x) := fun x => by rw [gsL, if_neg (fun z => by have := z.1; omega)]
  by_cases hn : g 88 (41 + 1 + p) = g 88 (41 + 9 + p)
  · have ec : gsL 41 p 3 1 g = (false, g) := by rw [gsL, if_neg (fun z => z.2.1 hn)]
    rw [ec, if_neg (fun z => z.1 hn), if_neg (fun z => z.1 hn)]
    exact ⟨rfl, rfl⟩
  have eb := stB_fr hs hd hn
  by_cases c : frS g p sg (g 88 (41 + 1 + p)) = true
  · have ec : gsL 41 p 3 1 g = (true, stM g 41 p 1) := by
      rw [gsL, if_pos (show (0 : Int) < 1 ∧ ¬ g 88 (41 + 1 + p) = g 88 (41 + 9 + p) ∧ stB g 41 p = true from ⟨by omega, hn, eb.trans c⟩), if_pos rfl, e2]
    have cc : ¬ g 88 (41 + 1 + p) = g 88 (41 + 9 + p) ∧ frS g p sg (g 88 (41 + 1 + p)) = true := ⟨hn, c⟩
    rw [ec, if_pos cc, if_pos cc]
    exact ⟨stM_fl hs hd hn, stM_half⟩
  · have ec : gsL 41 p 3 1 g = (false, g) := by rw [gsL, if_neg (fun z => c (eb.symm.trans z.2.2))]
    rw [ec, if_neg (fun z => c z.2), if_neg (fun z => c z.2)]
    exact ⟨rfl, rfl⟩
/-- floor and half behind one's walk in a minute -/
def wF (g : AH) (p : Nat) : Int := (gsL 41 p 3 (mayF (g 86 p) (g 87 p) (g 88 41)) g).2 88 (41 + 1 + p)
def wH (g : AH) (p : Nat) : Int := (gsL 41 p 3 (mayF (g 86 p) (g 87 p) (g 88 41)) g).2 88 (41 + 25 + p)
/-- how two stand to each other: A is nowhere behind B -/
def PP (sg goal fA hA fB hB : Int) : Prop := sg * fA ≤ sg * goal ∧ sg * fB ≤ sg * goal ∧ 2 * (sg * fB) + hB ≤ 2 * (sg * fA) + hA ∧ (fA = goal → hA = 0) ∧ (fB = goal → hB = 0)
theorem may_non {g : AH} (c : ¬ (g 86 p = 1 ∨ g 86 p = 4)) (m : Int) : ∃ k : Nat, k ≤ 2 ∧ mayF (g 86 p) (g 87 p) m = 2 * k := by
  unfold mayF
  rw [if_neg c]
  split
  · split
    · exact ⟨2, by omega, by omega⟩
    · exact ⟨1, by omega, by omega⟩
  · split
    · split
      · exact ⟨0, by omega, by omega⟩
      · exact ⟨1, by omega, by omega⟩
    · exact ⟨1, by omega, by omega⟩
theorem wMH (hm : MH g 41 p) : (wH g p = 0 ∨ wH g p = 1) := by
  have key : MH (gsL 41 p 3 (mayF (g 86 p) (g 87 p) (g 88 41)) g).2 41 p := by
    refine gsL_MH 3 _ g hm ?_ ?_
    · intro c; unfold mayF; rw [if_pos c]; omega
    · intro c; unfold mayF; rw [if_neg c]; (repeat' split) <;> omega
  unfold wH
  unfold MH at key
  omega
/-- one alone: it goes on or stays -/
theorem w_fwd (hs : sg = 1 ∨ sg = -1) (hi : stI g 41 p) (hm : MH g 41 p) (hd : sg * g 88 (41 + 1 + p) ≤ sg * g 88 (41 + 9 + p)) (h0 : g 88 (41 + 1 + p) = g 88 (41 + 9 + p) → g 88 (41 + 25 + p) = 0) : sg * wF g p ≤ sg * g 88 (41 + 9 + p) ∧ 2 * (sg * g 88 (41 + 1 + p)) + g 88 (41 + 25 + p) ≤ 2 * (sg * wF g p) + wH g p ∧ (wF g p = g 88 (41 + 9 + p) → wH g p = 0) := by
  unfold wF wH
  by_cases c : g 86 p = 1 ∨ g 86 p = 4
  · have e : mayF (g 86 p) (g 87 p) (g 88 41) = 1 := by unfold mayF; rw [if_pos c]
    rw [e]
    obtain ⟨v1, v2⟩ := wk_hal (p := p) (g := g) hs hd
    rw [v1, v2]
    unfold MH at hm
    have m0 : m32 (0 + 1) 2 = 1 := by decide
    have m1 : m32 (1 + 1) 2 = 0 := by decide
    split
    · next z =>
      rcases hm with w | w
      · rw [w, if_pos (by omega), m0, Int.add_zero]
        refine ⟨by omega, by omega, fun y => absurd (by omega) z.1⟩
      · rw [w.1, if_neg (by omega), m1]
        refine ⟨by rcases hs with rfl | rfl <;> omega, by rcases hs with rfl | rfl <;> omega, fun _ => rfl⟩
    · exact ⟨hd, Int.le_refl _, h0⟩
  · have hh : g 88 (41 + 25 + p) = 0 := by unfold MH at hm; rcases hm with w | w; exact w; exact absurd w.2 c
    obtain ⟨k, -, e⟩ := may_non (g := g) c (g 88 41)
    by_cases k3 : k < 3
    · rw [e]
      obtain ⟨v1, v2⟩ := wk_non (fr := frS g p sg) hs k 3 (2 * k) g k3 rfl hi hh hd (fun f _ => rfl)
      rw [v1, v2, hh]
      have r := wlk_r (fr := frS g p sg) (goal := g 88 (41 + 9 + p)) hs k (g 88 (41 + 1 + p)) hd
      exact ⟨r.2, by omega, fun _ => rfl⟩
    · exfalso
      obtain ⟨k', hk', e'⟩ := may_non (g := g) c (g 88 41)
      omega
/-- two: the one that isn't behind stays so -/
theorem w_mono (hs : sg = 1 ∨ sg = -1) (iA : stI A 41 p) (iB : stI B 41 p) (mA : MH A 41 p) (mB : MH B 41 p) (e86 : A 86 p = B 86 p) (e87 : A 87 p = B 87 p) (em : A 88 41 = B 88 41) (eg : A 88 (41 + 9 + p) = B 88 (41 + 9 + p)) (ef : ∀ f, 0 ≤ f → f ≤ 9 → ¬ f = B 88 (41 + 9 + p) → sg * f ≤ sg * B 88 (41 + 9 + p) → frS A p sg f = frS B p sg f) (pp : PP sg (B 88 (41 + 9 + p)) (A 88 (41 + 1 + p)) (A 88 (41 + 25 + p)) (B 88 (41 + 1 + p)) (B 88 (41 + 25 + p))) : PP sg (B 88 (41 + 9 + p)) (wF A p) (wH A p) (wF B p) (wH B p) := by
  obtain ⟨p1, p2, p3, p4, p5⟩ := id pp
  obtain ⟨a1, a2, a3⟩ := w_fwd hs iA mA (by rw [eg]; exact p1) (by rw [eg]; exact p4)
  obtain ⟨b1, b2, b3⟩ := w_fwd hs iB mB p2 p5
  rw [eg] at a1 a3
  refine ⟨a1, b1, ?_, a3, b3⟩
  by_cases c : B 86 p = 1 ∨ B 86 p = 4
  · have eB : mayF (B 86 p) (B 87 p) (B 88 41) = 1 := by unfold mayF; rw [if_pos c]
    have eA : mayF (A 86 p) (A 87 p) (A 88 41) = 1 := by rw [e86, e87, em]; exact eB
    unfold wF wH at *
    rw [eA] at a1 a2 a3
    rw [eB] at b1 b2 b3
    rw [eA, eB]
    obtain ⟨v1, v2⟩ := wk_hal (p := p) (g := B) hs p2
    obtain ⟨u1, u2⟩ := wk_hal (p := p) (g := A) hs (by rw [eg]; exact p1)
    have m0 : m32 (0 + 1) 2 = 1 := by decide
    have m1 : m32 (1 + 1) 2 = 0 := by decide
    have hB : B 88 (41 + 25 + p) = 0 ∨ B 88 (41 + 25 + p) = 1 := by unfold MH at mB; omega
    have hA : A 88 (41 + 25 + p) = 0 ∨ A 88 (41 + 25 + p) = 1 := by unfold MH at mA; omega
    have up : 2 * (sg * (gsL 41 p 3 1 B).2 88 (41 + 1 + p)) + (gsL 41 p 3 1 B).2 88 (41 + 25 + p) ≤ 2 * (sg * B 88 (41 + 1 + p)) + B 88 (41 + 25 + p) + 1 := by
      rw [v1, v2]
      split
      · rcases hB with w | w
        · rw [w, if_pos (by omega), m0, Int.add_zero]; omega
        · rw [w, if_neg (by omega), m1]; rcases hs with rfl | rfl <;> omega
      · omega
    by_cases eq : 2 * (sg * B 88 (41 + 1 + p)) + B 88 (41 + 25 + p) = 2 * (sg * A 88 (41 + 1 + p)) + A 88 (41 + 25 + p)
    · have ff : A 88 (41 + 1 + p) = B 88 (41 + 1 + p) := by rcases hs with rfl | rfl <;> omega
      have hh : A 88 (41 + 25 + p) = B 88 (41 + 25 + p) := by rcases hs with rfl | rfl <;> omega
      rw [u1, u2, v1, v2, ff, hh, eg]
      by_cases n : B 88 (41 + 1 + p) = B 88 (41 + 9 + p)
      · rw [if_neg (fun z => z.1 n), if_neg (fun z => z.1 n), if_neg (fun z => z.1 n), if_neg (fun z => z.1 n)]; exact Int.le_refl _
      · rw [ef _ iB.1.1 iB.1.2 n p2]; exact Int.le_refl _
    · omega
  · have cA : ¬ (A 86 p = 1 ∨ A 86 p = 4) := by rw [e86]; exact c
    have hB : B 88 (41 + 25 + p) = 0 := by unfold MH at mB; rcases mB with w | w; exact w; exact absurd w.2 c
    have hA : A 88 (41 + 25 + p) = 0 := by unfold MH at mA; rcases mA with w | w; exact w; exact absurd w.2 cA
    obtain ⟨k, hk, eB⟩ := may_non (g := B) c (B 88 41)
    have eA : mayF (A 86 p) (A 87 p) (A 88 41) = 2 * k := by rw [e86, e87, em]; exact eB
    unfold wF wH
    rw [eA, eB]
    have frE : Int → Bool := fun _ => true
    obtain ⟨v1, v2⟩ := wk_non (fr := frS B p sg) hs k 3 (2 * k) B (by omega) rfl iB hB p2 (fun f _ => rfl)
    obtain ⟨u1, u2⟩ := wk_non (fr := frS A p sg) hs k 3 (2 * k) A (by omega) rfl iA hA (by rw [eg]; exact p1) (fun f _ => rfl)
    rw [u1, u2, v1, v2, eg]
    have cg : ∀ (j : Nat) (f : Int), 0 ≤ f → f ≤ 9 → sg * f ≤ sg * B 88 (41 + 9 + p) → wlk (frS A p sg) sg (B 88 (41 + 9 + p)) j f = wlk (frS B p sg) sg (B 88 (41 + 9 + p)) j f := by
      intro j
      induction j with
      | zero => intro f _ _ _; rfl
      | succ j ih =>
        intro f f0 f9 fg
        have g9 := iB.2.1
        have x1 : ∀ fr, wlk fr sg (B 88 (41 + 9 + p)) (j + 1) f = if ¬ f = B 88 (41 + 9 + p) ∧ fr f = true then wlk fr sg (B 88 (41 + 9 + p)) j (f + sg) else f := fun _ => rfl
        rw [x1, x1]
        by_cases n : f = B 88 (41 + 9 + p)
        · rw [if_neg (fun z => z.1 n), if_neg (fun z => z.1 n)]
        · rw [ef f f0 f9 n fg]
          split
          · exact ih _ (by rcases hs with rfl | rfl <;> omega) (by rcases hs with rfl | rfl <;> omega) (by rcases hs with rfl | rfl <;> omega)
          · rfl
    rw [cg k _ iA.1.1 iA.1.2 p1]
    have := wlk_mono (fr := frS B p sg) (goal := B 88 (41 + 9 + p)) hs k (A 88 (41 + 1 + p)) (B 88 (41 + 1 + p)) (by omega) p1
    omega
end L3L
