section L3J
variable {h g g' y x : AH}
theorem SG_tryA (hs : SG y g) {ee : Int} (he : ee ≤ 120) : RQ True (tryX y 12 ee) (goMo 41 (ee - g 88 41).toNat g) 12 41 := by
  by_cases q : g 88 41 ≤ ee
  · exact SG_try hs q he
  · obtain ⟨a1, a4, r7, rh, mg, h9, hc, w1, w2⟩ := hs
    obtain ⟨e1, e2, e3⟩ := ready_eq (fl := True) isT12 a1 a4 r7 mg.1 (MG_KK mg) (fun _ => ⟨w1, w2⟩)
    have k0 : (ee - g 88 41).toNat = 0 := by omega
    unfold tryX
    rw [a4, k0]
    exact ⟨e1.1, e1.2.2.1, e1.2.2.2⟩
theorem SG_arrA (hs : SG y g) {ee : Int} (he : ee ≤ 120) {p : Nat} (hp : (p : Int) < g 82 5) : tryX y 12 ee 19 p = orN (goMo 41 (ee - g 88 41).toNat g 88 (74 + p)) :=
  ((SG_tryA hs he).2.1 p (by rw [go5 hs]; exact hp)).1.2.2.2.2.2.2
theorem SG_cntA (hs : SG y g) {ee : Int} (he : ee ≤ 120) : tryX y 12 ee 12 0 = g 82 5 := by
  have := (SG_tryA hs he).1.1
  rw [go5 hs] at this; exact this
theorem goMo_arr74 {c : Nat} (hc : c < 8) (k : Nat) (g : AH) (hP : 0 ≤ g 82 5 ∧ g 82 5 ≤ 8) (h0 : 0 ≤ g 88 41) : goMo 41 k g 88 (74 + c) = g 88 (74 + c) ∨ (g 88 (74 + c) < 0 ∧ g 88 41 ≤ goMo 41 k g 88 (74 + c) ∧ goMo 41 k g 88 (74 + c) < g 88 41 + k ∧ goMo 41 k g 88 (74 + c) ≤ 119) := goMo_arr (aa := 41) hc k g hP h0
/-- up to a minute, and to the end -/
theorem part_full (hs : SG y g) {ee : Int} (he : ee ≤ 120) {p : Nat} (hp : (p : Int) < g 82 5) : (goMo 41 120 g 88 (74 + p) = goMo 41 (ee - g 88 41).toNat g 88 (74 + p) ∧ (g 88 (74 + p) < 0 → goMo 41 120 g 88 (74 + p) < ee)) ∨ (goMo 41 (ee - g 88 41).toNat g 88 (74 + p) < 0 ∧ (goMo 41 120 g 88 (74 + p) < 0 ∨ ee ≤ goMo 41 120 g 88 (74 + p))) := by
  have h8 := SG_P hs
  have hm := SG_M hs
  by_cases q : g 88 41 ≤ ee
  · have hk : g 88 41 + ((ee - g 88 41).toNat : Nat) = ee := by omega
    have e := goMo_add (aa := 41) (ee - g 88 41).toNat (120 - (ee - g 88 41).toNat) g (by omega)
    rw [show (ee - g 88 41).toNat + (120 - (ee - g 88 41).toNat) = 120 by omega] at e
    have m1 := goMo_min (aa := 41) (ee - g 88 41).toNat g (by omega)
    have a0 := goMo_arr74 (c := p) (by omega) (ee - g 88 41).toNat g h8 hm.1
    have a1 := goMo_arr74 (c := p) (by omega) (120 - (ee - g 88 41).toNat) (goMo 41 (ee - g 88 41).toNat g) (by rw [go5 hs]; exact h8) (by rw [m1]; omega)
    rw [← e, m1] at a1
    rcases a1 with f | f
    · by_cases c : goMo 41 (ee - g 88 41).toNat g 88 (74 + p) < 0
      · right; exact ⟨c, Or.inl (by rw [f]; exact c)⟩
      · left; refine ⟨f, fun z => ?_⟩
        rw [f]
        rcases a0 with w | w <;> omega
    · right; exact ⟨f.1, Or.inr (by omega)⟩
  · have k0 : (ee - g 88 41).toNat = 0 := by omega
    rw [k0]
    have a1 := goMo_arr74 (c := p) (by omega) 120 g h8 hm.1
    have e0 : goMo 41 0 g = g := rfl
    rw [e0]
    rcases a1 with f | f
    · by_cases c : g 88 (74 + p) < 0
      · right; exact ⟨c, Or.inl (by rw [f]; exact c)⟩
      · left; exact ⟨f, fun z => absurd z c⟩
    · right; exact ⟨f.1, Or.inr (by omega)⟩
theorem ab_eq (hs : SG y g) {bb : Int} (hb : bb ≤ 119) : abX (tryX y 12 (bb + 1)) 12 bb (tryX y 12 (bb + 1) 12 0).toNat = allBy (goMo 41 120 g) bb (g 82 5).toNat := by
  have h8 := SG_P hs
  rw [SG_cntA hs (by omega)]
  have key : ∀ n : Nat, (n : Int) ≤ g 82 5 → abX (tryX y 12 (bb + 1)) 12 bb n = allBy (goMo 41 120 g) bb n := by
    intro n
    induction n with
    | zero => intro _; rfl
    | succ n ih =>
      intro hn
      unfold abX allBy
      rw [ih (by omega)]
      congr 1
      have a := SG_arrA hs (ee := bb + 1) (by omega) (p := n) (by omega)
      have pf := part_full hs (ee := bb + 1) (by omega) (p := n) (by omega)
      have e7 : tryX y 12 (bb + 1) (12 + 7) n = orN (goMo 41 (bb + 1 - g 88 41).toNat g 88 (74 + n)) := a
      rw [e7]
      apply decide_eq_decide.mpr
      unfold orN
      split
      · next q =>
        rcases pf with f | f
        · omega
        · constructor
          · intro z; exact absurd rfl z.1
          · intro z; omega
      · next q =>
        rcases pf with f | f
        · omega
        · omega
  exact key _ (by omega)
-- the first of the rooms that is enough; the rooms are tried from 9 - k on
def firstF (P : Nat → Bool) : Nat → Int
  | 0 => -3
  | k + 1 => if P (9 - k) = true then ((9 - k : Nat) : Int) else firstF P k
def chB (R : Nat → Int) : Nat → Int × Int
  | 0 => (0, R 0)
  | n + 1 => if R (n + 1) < (chB R n).2 then (((n + 1 : Nat) : Int), R (n + 1)) else chB R n
def woB (V : Nat → Int) : Nat → Int × Int
  | 0 => (0, -1)
  | n + 1 => if (woB V n).2 < (if V n < 0 then 999 else V n) then ((n : Int), if V n < 0 then 999 else V n) else woB V n
def swS (ok : Nat → Nat → Bool) (V : Nat → Nat → Int) : Nat → Int × Int
  | 0 => (-3, 0)
  | n + 1 => if ok (n / 8) (n % 8) = true ∧ 0 ≤ V (n / 8) (n % 8) ∧ ((swS ok V n).1 < 0 ∨ V (n / 8) (n % 8) < (swS ok V n).2) then (10 * ((n / 8 : Nat) : Int) + ((n % 8 : Nat) : Int), V (n / 8) (n % 8)) else swS ok V n
theorem swS_skip {ok : Nat → Nat → Bool} {V : Nat → Nat → Int} (m : Nat) : ∀ k : Nat, (∀ n, m ≤ n → n < m + k → ok (n / 8) (n % 8) = false) → swS ok V (m + k) = swS ok V m
  | 0, _ => rfl
  | k + 1, e => by
    have e1 : swS ok V (m + (k + 1)) = if ok ((m + k) / 8) ((m + k) % 8) = true ∧ 0 ≤ V ((m + k) / 8) ((m + k) % 8) ∧ ((swS ok V (m + k)).1 < 0 ∨ V ((m + k) / 8) ((m + k) % 8) < (swS ok V (m + k)).2) then (10 * (((m + k) / 8 : Nat) : Int) + (((m + k) % 8 : Nat) : Int), V ((m + k) / 8) ((m + k) % 8)) else swS ok V (m + k) := rfl
    rw [e1, if_neg (fun z => by have := e (m + k) (by omega) (by omega); rw [this] at z; exact absurd z.1 (by decide))]
    exact swS_skip m k (fun n h1 h2 => e n h1 (by omega))
def swOk (g : AH) (p q : Nat) : Bool := decide (p < q ∧ (q : Int) < g 82 5 ∧ g 88 (33 + p) < 0 ∧ g 88 (33 + q) < 0)
def earlyOk (g : AH) (p : Nat) (bb : Int) (s : Int) : Bool := decide (0 ≤ earlyV g p s ∧ earlyV g p s ≤ bb)
/-- the scan from 99 downwards; n starts are left, from m on -/
def erS (ok : Int → Bool) (m : Int) : Nat → Int
  | 0 => -3
  | n + 1 => if ok (m + n) = true then m + n else erS ok m n
theorem erS_none {ok : Int → Bool} {m : Int} : ∀ n : Nat, (∀ s, m ≤ s → s < m + n → ok s = false) → erS ok m n = -3
  | 0, _ => rfl
  | n + 1, e => by
    unfold erS
    rw [e (m + n) (by omega) (by omega), if_neg (by decide)]
    exact erS_none n (fun s h1 h2 => e s h1 (by omega))
theorem erS_some {ok : Int → Bool} {m s0 : Int} (h0 : m ≤ s0) (hk : ok s0 = true) : ∀ n : Nat, s0 < m + n → (∀ s, s0 < s → s < m + n → ok s = false) → erS ok m n = s0
  | 0, h1, _ => by omega
  | n + 1, h1, e => by
    unfold erS
    by_cases q : m + (n : Int) = s0
    · rw [q, hk, if_pos rfl]
    · rw [e (m + n) (by omega) (by omega), if_neg (by decide)]
      exact erS_some h0 hk n (by omega) (fun s h1 h2 => e s h1 (by omega))
theorem lend_hat {f m n : Int} (hh : 0 ≤ h 82 1) : lendM (addHatM h f m n) = addHatM (lendM h) f m n := by
  funext a c
  rw [lendM_ap]
  unfold addHatM
  have e1 : lendM h 82 1 = h 82 1 := lend_o _ _ (by omega)
  rw [e1]
  by_cases q1 : a = 100 ∧ c < 8
  · rw [if_pos q1, hu_o (by omega), hu_o (by omega), hu_o (by omega), hu_o (by omega), lendM_ap, if_pos q1]
  rw [if_neg q1]
  by_cases q2 : a = 99 ∧ c < 9
  · rw [if_pos q2, hu_o (by omega), hu_o (by omega), hu_o (by omega), hu_o (by omega), lendM_ap, if_neg q1, if_pos q2]
  rw [if_neg q2]
  by_cases q3 : a = 82 ∧ c = 9
  · rw [if_pos q3, hu_o (by omega), hu_o (by omega), hu_o (by omega), hu_o (by omega), lendM_ap, if_neg q1, if_neg q2, if_pos q3]
  rw [if_neg q3]
  by_cases q4 : a = 88 ∧ 41 ≤ c ∧ c < 82
  · rw [if_pos q4, hu_o (by omega), hu_o (by omega), hu_o (by omega), hu_o (by omega), hu_o (by omega), hu_o (by omega), hu_o (by omega), hu_o (by omega), lendM_ap, if_neg q1, if_neg q2, if_neg q3, if_pos q4]
  rw [if_neg q4]
  have e : lendM h a c = h a c := by rw [lendM_ap, if_neg q1, if_neg q2, if_neg q3, if_neg q4]
  simp only [hu_ap]
  rw [e]
theorem lend_room {v : Int} : lendM (hu h 82 0 v) = hu (lendM h) 82 0 v := by
  funext a c
  by_cases q : a = 82 ∧ c = 0
  · rw [q.1, q.2, lend_o _ _ (by omega)]; simp [hu]
  · rw [hu_o (by omega), lendM_ap, lendM_ap]
    by_cases q4 : a = 88 ∧ 41 ≤ c ∧ c < 82
    · rw [hu_o (by omega), hu_o (by omega)]
    · rw [if_neg q4, if_neg q4, hu_o (by omega)]
end L3J
