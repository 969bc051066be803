section L3K
variable {A B g : AH} {L : List Nat} {p q : Nat}
-- two runs that differ in one's START alone: those ahead of one go alike
def dty (L : List Nat) (p c : Nat) : Prop := c = 41 + 17 + p ∨ ∃ q, q < 8 ∧ q ∉ L ∧ (c = 41 + 1 + q ∨ c = 41 + 25 + q ∨ c = 41 + 33 + q)
def EQL (L : List Nat) (p : Nat) (A B : AH) : Prop := ∀ a c : Nat, a ≠ 99 → a ≠ 100 → (a ≠ 98 ∨ c < 18) → ¬ (a = 88 ∧ dty L p c) → A a c = B a c
theorem ndt (hq : q ∈ L) (h8 : q < 8) (p8 : p < 8) (hne : q ≠ p) (c : Nat) (hc : c = 41 + 1 + q ∨ c = 41 + 9 + q ∨ c = 41 + 17 + q ∨ c = 41 + 25 + q ∨ c = 41 + 33 + q ∨ c = 41) : ¬ (88 = 88 ∧ dty L p c) := by
  intro z
  rcases z.2 with w | ⟨q2, w1, w2, w3⟩
  · omega
  · have : q2 = q := by omega
    subst this
    exact w2 hq
theorem ndt9 (p8 : p < 8) (h8 : q < 8) : ¬ (88 = 88 ∧ dty L p (41 + 9 + q)) ∧ ¬ (88 = 88 ∧ dty L p 41) := by
  constructor <;> intro z <;> rcases z.2 with w | ⟨q2, w1, w2, w3⟩ <;> omega
theorem stB_c (e : EQL L p A B) (hq : q ∈ L) (h8 : q < 8) (p8 : p < 8) (hne : q ≠ p) (hs : stI A 41 q) (hn : ¬ A 88 (41 + 1 + q) = A 88 (41 + 9 + q)) : stB A 41 q = stB B 41 q := by
  have r : ∀ c, (c = 41 + 1 + q ∨ c = 41 + 9 + q ∨ c = 41 + 17 + q ∨ c = 41 + 25 + q ∨ c = 41 + 33 + q ∨ c = 41) → A 88 c = B 88 c := fun c hc => e 88 c (by omega) (by omega) (by omega) (ndt hq h8 p8 hne c hc)
  have o : ∀ a c, a ≠ 88 ∧ a ≠ 98 ∧ a ≠ 99 ∧ a ≠ 100 → A a c = B a c := fun a c z => e a c (by omega) (by omega) (by omega) (fun w => z.1 w.1)
  have l8 : ∀ c, c < 18 → A 98 c = B 98 c := fun c hc => e 98 c (by omega) (by omega) (Or.inr hc) (fun w => by omega)
  obtain ⟨s1, s2, -⟩ := hs
  have e1 := r (41 + 1 + q) (by omega)
  have e9 := r (41 + 9 + q) (by omega)
  have em := r 41 (by omega)
  have cl : ∀ f m n, clB A f m n = clB B f m n := fun f m n => clB_cell (fun x c z => o x c (by omega)) f m n
  unfold stB
  rw [e1, e9, em, o 82 1 (by omega), o 82 0 (by omega), o 86 q (by omega), o 87 q (by omega), cl, cl]
  rw [e1] at s1 hn
  rw [e9] at s2 hn
  split
  · rw [l8 _ (by omega)]
  · rw [l8 _ (by omega)]
theorem stM_c {hv : Int} (e : EQL L p A B) (hq : q ∈ L) (h8 : q < 8) (p8 : p < 8) (hne : q ≠ p) (hs : stI A 41 q) (hn : ¬ A 88 (41 + 1 + q) = A 88 (41 + 9 + q)) : EQL L p (stM A 41 q hv) (stM B 41 q hv) := by
  have r : ∀ c, (c = 41 + 1 + q ∨ c = 41 + 9 + q ∨ c = 41 + 17 + q ∨ c = 41 + 25 + q ∨ c = 41 + 33 + q ∨ c = 41) → A 88 c = B 88 c := fun c hc => e 88 c (by omega) (by omega) (by omega) (ndt hq h8 p8 hne c hc)
  have o : ∀ a c, a ≠ 88 ∧ a ≠ 98 ∧ a ≠ 99 ∧ a ≠ 100 → A a c = B a c := fun a c z => e a c (by omega) (by omega) (by omega) (fun w => z.1 w.1)
  have l8 : ∀ c, c < 18 → A 98 c = B 98 c := fun c hc => e 98 c (by omega) (by omega) (Or.inr hc) (fun w => by omega)
  obtain ⟨s1, s2, -⟩ := hs
  have e1 := r (41 + 1 + q) (by omega)
  have e9 := r (41 + 9 + q) (by omega)
  have e25 := r (41 + 25 + q) (by omega)
  have e86 := o 86 q (by omega)
  have e87 := o 87 q (by omega)
  rw [e1] at s1 hn
  rw [e9] at s2 hn
  intro a c z1 z2 z3 z4
  have base := e a c z1 z2 z3 z4
  have key : ∀ (f ln : Nat) (dd : Int), ln < 18 → stL A 41 q hv f ln dd a c = stL B 41 q hv f ln dd a c := fun f ln dd hl => by
    unfold stL
    rw [e1, e25, e86, e87, l8 ln hl]
    simp only [hu_ap]
    split
    · rfl
    split
    · rfl
    split
    · next w => exact absurd w.1 z1
    split
    · rfl
    exact base
  unfold stM
  rw [e1, e9]
  split
  · exact key _ _ _ (by omega)
  · exact key _ _ _ (by omega)
theorem gsL_c (hq : q ∈ L) (h8 : q < 8) (p8 : p < 8) (hne : q ≠ p) : ∀ (k : Nat) (lf : Int) (A B : AH), EQL L p A B → stI A 41 q → (gsL 41 q k lf A).1 = (gsL 41 q k lf B).1 ∧ EQL L p (gsL 41 q k lf A).2 (gsL 41 q k lf B).2
  | 0, _, _, _, e, _ => ⟨rfl, e⟩
  | k + 1, lf, A, B, e, hs => by
    have r : ∀ c, (c = 41 + 1 + q ∨ c = 41 + 9 + q ∨ c = 41 + 17 + q ∨ c = 41 + 25 + q ∨ c = 41 + 33 + q ∨ c = 41) → A 88 c = B 88 c := fun c hc => e 88 c (by omega) (by omega) (by omega) (ndt hq h8 p8 hne c hc)
    unfold gsL
    by_cases hn : A 88 (41 + 1 + q) = A 88 (41 + 9 + q)
    · rw [if_neg (fun z => z.2.1 hn), if_neg (fun z => z.2.1 (by rw [← r _ (by omega), ← r _ (by omega)]; exact hn))]
      exact ⟨rfl, e⟩
    · rw [← r _ (by omega), ← r _ (by omega), ← stB_c e hq h8 p8 hne hs hn]
      split
      · next z =>
        have i := gsL_c hq h8 p8 hne k (lf - 2) _ _ (stM_c (hv := if lf = 1 then 1 else 2) e hq h8 p8 hne hs hn) (stI_st hs (by split <;> omega) hn z.2.2)
        exact ⟨rfl, i.2⟩
      · exact ⟨rfl, e⟩
theorem goesM_c (e : EQL L p A B) (hq : q ∈ L) (h8 : q < 8) (p8 : p < 8) (hne : q ≠ p) (hs : stI A 41 q) : EQL L p (goesM A 41 q) (goesM B 41 q) := by
  have r : ∀ c, (c = 41 + 1 + q ∨ c = 41 + 9 + q ∨ c = 41 + 17 + q ∨ c = 41 + 25 + q ∨ c = 41 + 33 + q ∨ c = 41) → A 88 c = B 88 c := fun c hc => e 88 c (by omega) (by omega) (by omega) (ndt hq h8 p8 hne c hc)
  have o : ∀ a c, a ≠ 88 ∧ a ≠ 98 ∧ a ≠ 99 ∧ a ≠ 100 → A a c = B a c := fun a c z => e a c (by omega) (by omega) (by omega) (fun w => z.1 w.1)
  unfold goesM
  rw [o 86 q (by omega), o 87 q (by omega), r 41 (by omega), r (41 + 1 + q) (by omega), r (41 + 9 + q) (by omega)]
  obtain ⟨i1, i2⟩ := gsL_c hq h8 p8 hne 3 (mayF (B 86 q) (B 87 q) (B 88 41)) A B e hs
  rw [i1]
  generalize bi (¬ B 88 (41 + 1 + q) = B 88 (41 + 9 + q) ∧ (gsL 41 q 3 (mayF (B 86 q) (B 87 q) (B 88 41)) B).1 = false) = wt
  generalize (gsL 41 q 3 (mayF (B 86 q) (B 87 q) (B 88 41)) A).2 = X at i2
  generalize (gsL 41 q 3 (mayF (B 86 q) (B 87 q) (B 88 41)) B).2 = Y at i2
  have e2 : EQL L p (gsW q wt X) (gsW q wt Y) := fun a c z1 z2 z3 z4 => by
    rw [gsW_o _ _ _ _ _ (by omega), gsW_o _ _ _ _ _ (by omega)]; exact i2 a c z1 z2 z3 z4
  generalize gsW q wt X = X2 at e2
  generalize gsW q wt Y = Y2 at e2
  have r2 : ∀ c, (c = 41 + 1 + q ∨ c = 41 + 9 + q ∨ c = 41 + 17 + q ∨ c = 41 + 25 + q ∨ c = 41 + 33 + q ∨ c = 41) → X2 88 c = Y2 88 c := fun c hc => e2 88 c (by omega) (by omega) (by omega) (ndt hq h8 p8 hne c hc)
  unfold gsE
  rw [r2 (41 + 1 + q) (by omega), r2 (41 + 9 + q) (by omega), r2 41 (by omega)]
  split
  · intro a c z1 z2 z3 z4
    simp only [hu_ap]
    split
    · rfl
    · exact e2 a c z1 z2 z3 z4
  · exact e2
theorem goP_c (e : EQL L p A B) (hq : q ∈ L) (h8 : q < 8) (p8 : p < 8) (hne : q ≠ p) (hs : stI A 41 q) : EQL L p (goP 41 q A) (goP 41 q B) := by
  have r : ∀ c, (c = 41 + 1 + q ∨ c = 41 + 9 + q ∨ c = 41 + 17 + q ∨ c = 41 + 25 + q ∨ c = 41 + 33 + q ∨ c = 41) → A 88 c = B 88 c := fun c hc => e 88 c (by omega) (by omega) (by omega) (ndt hq h8 p8 hne c hc)
  unfold goP
  rw [r (41 + 33 + q) (by omega), r (41 + 17 + q) (by omega), r 41 (by omega)]
  split
  · exact goesM_c e hq h8 p8 hne hs
  · exact e
theorem foldP_c (p8 : p < 8) : ∀ (K : List Nat) (A B : AH), (∀ q ∈ K, q ∈ L ∧ (q : Int) < A 82 5 ∧ q ≠ p) → EQL L p A B → GI A 41 → EQL L p (K.foldl (fun x q => goP 41 q x) A) (K.foldl (fun x q => goP 41 q x) B)
  | [], _, _, _, e, _ => e
  | q :: K, A, B, hK, e, hg => by
    obtain ⟨k1, k2, k3⟩ := hK q (by simp)
    obtain ⟨⟨ww, mi⟩, -⟩ := id hg
    have h8 := mi.2.1
    refine foldP_c p8 K (goP 41 q A) (goP 41 q B) (fun q2 h2 => ?_) (goP_c e k1 (by omega) p8 k3 (mi.2.2.1 q k2)) (GI_goP hg k2)
    rw [goP_o _ _ (by omega) (by omega)]
    exact hK q2 (by simp [h2])
-- one's own walk in a minute, as a walk over floors
def wlk (fr : Int → Bool) (sg goal : Int) : Nat → Int → Int
  | 0, f => f
  | k + 1, f => if ¬ f = goal ∧ fr f = true then wlk fr sg goal k (f + sg) else f
theorem wlk_r {fr : Int → Bool} {sg goal : Int} (hs : sg = 1 ∨ sg = -1) : ∀ (k : Nat) (f : Int), sg * f ≤ sg * goal → sg * f ≤ sg * wlk fr sg goal k f ∧ sg * wlk fr sg goal k f ≤ sg * goal
  | 0, f, h => ⟨Int.le_refl _, h⟩
  | k + 1, f, h => by
    unfold wlk
    split
    · next z =>
      have i := wlk_r (fr := fr) (goal := goal) hs k (f + sg) (by rcases hs with rfl | rfl <;> omega)
      rcases hs with rfl | rfl <;> omega
    · exact ⟨Int.le_refl _, h⟩
theorem wlk_k {fr : Int → Bool} {sg goal : Int} (hs : sg = 1 ∨ sg = -1) : ∀ (k : Nat) (f : Int), sg * f ≤ sg * goal → sg * wlk fr sg goal k f ≤ sg * wlk fr sg goal (k + 1) f
  | 0, f, h => (wlk_r hs 1 f h).1
  | k + 1, f, h => by
    unfold wlk
    split
    · next z => exact wlk_k hs k (f + sg) (by rcases hs with rfl | rfl <;> omega)
    · exact Int.le_refl _
theorem wlk_mono {fr : Int → Bool} {sg goal : Int} (hs : sg = 1 ∨ sg = -1) : ∀ (k : Nat) (fA fB : Int), sg * fB ≤ sg * fA → sg * fA ≤ sg * goal → sg * wlk fr sg goal k fB ≤ sg * wlk fr sg goal k fA
  | 0, _, _, h, _ => h
  | k + 1, fA, fB, h, hg => by
    by_cases e : fA = fB
    · rw [e]; exact Int.le_refl _
    · have h2 : sg * (fB + sg) ≤ sg * fA := by rcases hs with rfl | rfl <;> omega
      have a1 := wlk_mono (fr := fr) hs k fA (fB + sg) h2 hg
      have a2 := wlk_k (fr := fr) hs k fA hg
      have a3 := (wlk_r (fr := fr) hs (k + 1) fA hg).1
      have e1 : wlk fr sg goal (k + 1) fB = if ¬ fB = goal ∧ fr fB = true then wlk fr sg goal k (fB + sg) else fB := rfl
      rw [e1]
      split
      · exact Int.le_trans a1 a2
      · exact Int.le_trans h a3
end L3K
