section L3WORD
theorem tok_end {T : Nat → Int} {tm s : Nat} (h : ¬ s < tm) : tokS T tm s = (0, s, s, 0, -1) := if_pos h
theorem tok_let {T : Nat → Int} {tm s : Nat} (h : s < tm) (h2 : isLt (T s) = true) : tokS T tm s = (1, s, scan isLt T tm s, wdF T s (scan isLt T tm s - s), T s) := by
  unfold tokS; rw [if_neg (by omega), if_pos h2]
theorem tok_dig {T : Nat → Int} {tm s : Nat} (h : s < tm) (h2 : ¬ isLt (T s) = true) (h3 : isDg (T s) = true) : tokS T tm s = (2, s, scan isDg T tm s, 0, vlF T s (scan isDg T tm s - s)) := by
  unfold tokS; rw [if_neg (by omega), if_neg h2, if_pos h3]
theorem tok_oth {T : Nat → Int} {tm s : Nat} (h : s < tm) (h2 : ¬ isLt (T s) = true) (h3 : ¬ isDg (T s) = true) : tokS T tm s = (3, s, s + 1, 0, T s) := by
  unfold tokS; rw [if_neg (by omega), if_neg h2, if_neg h3]
def wv (T : Nat → Int) (s : Nat) : Nat → Int
  | 0 => 0
  | k + 1 => 27 * wv T s k + (T (s + k) - 96)
def cdW (j : Nat) : Nat → Int
  | 0 => 0
  | k + 1 => 27 * cdW j k + (chN j k - 96)
theorem wv_r {T : Nat → Int} {s : Nat} : ∀ k, (∀ i, i < k → 97 ≤ T (s + i) ∧ T (s + i) ≤ 122) → 0 ≤ wv T s k ∧ wv T s k < ((27 ^ k : Nat) : Int)
  | 0, _ => ⟨Int.le_refl _, by show (0 : Int) < ((27 ^ 0 : Nat) : Int); decide⟩
  | k + 1, e => by
    have i1 := wv_r k (fun i hi => e i (by omega))
    have := e k (by omega)
    have hp : 27 ^ (k + 1) = 27 ^ k * 27 := Nat.pow_succ 27 k
    rw [wv, hp]
    omega
theorem wv_pos {T : Nat → Int} {s k : Nat} (e : ∀ i, i < k + 1 → 97 ≤ T (s + i) ∧ T (s + i) ≤ 122) : 1 ≤ wv T s (k + 1) := by
  have i1 := wv_r k (fun i hi => e i (by omega))
  have := e k (by omega)
  rw [wv]
  omega
theorem wdF_wv {T : Nat → Int} {s : Nat} : ∀ k, k ≤ 8 → (∀ i, i < k → 97 ≤ T (s + i) ∧ T (s + i) ≤ 122) → wdF T s k = wv T s k
  | 0, _, _ => rfl
  | k + 1, hk, e => by
    have i1 := wdF_wv k (by omega) (fun i hi => e i (by omega))
    have r := wv_r k (fun i hi => e i (by omega))
    have t := e k (by omega)
    have p : 27 ^ k ≤ 27 ^ 7 := Nat.pow_le_pow_right (by omega) (by omega)
    have p7 : 27 ^ 7 = 10460353203 := by decide
    rw [wdF_s, if_pos (by omega), i1, wv, w64_id (z := 27 * wv T s k) (by omega) (by omega), w64_id (z := 27 * wv T s k + T (s + k)) (by omega) (by omega), w64_id (by omega) (by omega)]
    omega
theorem cd_r {j : Nat} (hj : j < 12) : ∀ n, n ≤ strN.getD j 0 → 0 ≤ cdW j n
  | 0, _ => Int.le_refl _
  | n + 1, hn => by
    have := cd_r hj n (by omega)
    have := chN_r j hj n (by omega)
    rw [cdW]; omega
theorem wv_cd {T : Nat → Int} {s j : Nat} (hj : j < 12) : ∀ k n, (∀ i, i < k → 97 ≤ T (s + i) ∧ T (s + i) ≤ 122) → n ≤ strN.getD j 0 → (wv T s k = cdW j n ↔ k = n ∧ ∀ i, i < n → T (s + i) = chN j i)
  | 0, 0, _, _ => ⟨fun _ => ⟨rfl, fun i hi => by omega⟩, fun _ => rfl⟩
  | 0, n + 1, e, hn => by
    have c1 := cd_r hj n (by omega)
    have c2 := chN_r j hj n (by omega)
    rw [wv, cdW]
    refine ⟨fun z => by omega, fun z => by omega⟩
  | k + 1, 0, e, hn => by
    have := wv_pos e
    rw [cdW]
    refine ⟨fun z => by omega, fun z => by omega⟩
  | k + 1, n + 1, e, hn => by
    have i1 := wv_cd (T := T) (s := s) hj k n (fun i hi => e i (by omega)) (by omega)
    have c2 := chN_r j hj n (by omega)
    have t := e k (by omega)
    rw [wv, cdW]
    constructor
    · intro z
      obtain ⟨q1, q2⟩ := i1.1 (by omega)
      refine ⟨by omega, fun i hi => ?_⟩
      by_cases hin : i = n
      · subst hin; subst q1; omega
      · exact q2 i (by omega)
    · rintro ⟨z1, z2⟩
      have hk : k = n := by omega
      have := i1.2 ⟨hk, fun i hi => z2 i (by omega)⟩
      have := z2 n (by omega)
      rw [hk] at *
      omega
theorem nmB_iff {b : Nat → Int} {t j : Nat} : ∀ k, nmB b t j k = true ↔ ∀ i, i < k → b (t + i) = chN j i
  | 0 => ⟨fun _ i hi => by omega, fun _ => rfl⟩
  | k + 1 => by
    rw [nmB, Bool.and_eq_true, nmB_iff k, decide_eq_true_eq]
    constructor
    · rintro ⟨z1, z2⟩ i hi
      by_cases e : i = k
      · rw [e]; exact z2
      · exact z1 i (by omega)
    · intro z
      exact ⟨fun i hi => z i (by omega), z k (by omega)⟩
theorem wdF_9 {T : Nat → Int} {s k : Nat} (hk : 9 ≤ k) : wdF T s k = -1 := by
  obtain ⟨m, rfl⟩ : ∃ m, k = m + 1 := ⟨k - 1, by omega⟩
  rw [wdF_s, if_neg (by omega)]
/-- a name is a token of letters with the name's number -/
theorem name_tok {T : Nat → Int} {tm s j : Nat} {v : Int} (hj : j < 12) (hs : s ≤ tm) : nameB T s (scan isLt T tm s) j = true ↔ (gSo (v, tokS T tm s) = 1 ∧ gWo (v, tokS T tm s) = cdW j (strN.getD j 0)) := by
  have nr := strN_r j hj
  have sr := scan_r (P := isLt) (b := T) (ln := tm) (p := s)
  have le : ∀ i, i < scan isLt T tm s - s → 97 ≤ T (s + i) ∧ T (s + i) ≤ 122 := fun i hi => by
    have q := scan_in (P := isLt) (b := T) (ln := tm) (p := s) (c := s + i) (by omega) (by omega)
    unfold isLt at q
    rw [decide_eq_true_eq] at q
    exact q
  have cr := cd_r hj _ (Nat.le_refl (strN.getD j 0))
  unfold nameB
  rw [Bool.and_eq_true, decide_eq_true_eq, nmB_iff]
  by_cases q : s < tm
  · by_cases q2 : isLt (T s) = true
    · rw [tok_let q q2]
      have g1 : gSo (v, ((1, s, scan isLt T tm s, wdF T s (scan isLt T tm s - s), T s) : MS)) = 1 := rfl
      have g2 : gWo (v, ((1, s, scan isLt T tm s, wdF T s (scan isLt T tm s - s), T s) : MS)) = wdF T s (scan isLt T tm s - s) := rfl
      rw [g1, g2]
      by_cases h9 : scan isLt T tm s - s ≤ 8
      · rw [wdF_wv _ h9 le, wv_cd hj _ _ le (Nat.le_refl _)]
        constructor
        · rintro ⟨z1, z2⟩; exact ⟨rfl, by omega, z2⟩
        · rintro ⟨-, z1, z2⟩; exact ⟨by omega, z2⟩
      · rw [wdF_9 (by omega)]
        refine ⟨fun z => by omega, fun z => ?_⟩
        have := z.2
        omega
    · rw [scan_n (by rw [not_and]; intro _; exact q2)]
      refine ⟨fun z => by omega, fun z => ?_⟩
      have z1 := z.1
      by_cases q3 : isDg (T s) = true
      · rw [tok_dig q q2 q3] at z1
        have : gSo (v, ((2, s, scan isDg T tm s, 0, vlF T s (scan isDg T tm s - s)) : MS)) = 2 := rfl
        omega
      · rw [tok_oth q q2 q3] at z1
        have : gSo (v, ((3, s, s + 1, 0, T s) : MS)) = 3 := rfl
        omega
  · rw [scan_n (by omega), tok_end q]
    refine ⟨fun z => by omega, fun z => ?_⟩
    have : gSo (v, ((0, s, s, 0, -1) : MS)) = 0 := rfl
    omega
theorem cd_0 : cdW 0 (strN.getD 0 0) = 5879 := by decide
theorem cd_1 : cdW 1 (strN.getD 1 0) = 47 := by decide
theorem cd_2 : cdW 2 (strN.getD 2 0) = 4797 := by decide
theorem cd_3 : cdW 3 (strN.getD 3 0) = 365647 := by decide
theorem cd_4 : cdW 4 (strN.getD 4 0) = 1834661 := by decide
theorem cd_5 : cdW 5 (strN.getD 5 0) = 177237549 := by decide
theorem cd_6 : cdW 6 (strN.getD 6 0) = 269726508 := by decide
theorem cd_7 : cdW 7 (strN.getD 7 0) = 1758489 := by decide
theorem cd_8 : cdW 8 (strN.getD 8 0) = 237923154 := by decide
theorem cd_9 : cdW 9 (strN.getD 9 0) = 1888 := by decide
theorem cd_10 : cdW 10 (strN.getD 10 0) = 131638 := by decide
theorem cd_11 : cdW 11 (strN.getD 11 0) = 555 := by decide
end L3WORD
