section L3SET
theorem or_tab : ∀ v : Fin 256, or32 ((v.val : Nat) : Int) 0 = ((v.val : Nat) : Int) := by decide +kernel
theorem setX_setG {h g : AH} {tt : Nat} : ∀ n : Nat, n ≤ 8 → (∀ j, j < n → (h (tt + 7) j = -9 ↔ g 88 (74 + j) < 0)) → setX h tt n = setG g n ∧ ∃ v : Nat, v < 2 ^ n ∧ setG g n = (v : Int)
  | 0, _, _ => ⟨rfl, 0, by omega, rfl⟩
  | n + 1, hn, e => by
    obtain ⟨q, v, v1, v2⟩ := setX_setG n (by omega) (fun j hj => e j (by omega))
    have b := bits_at (n := n) (v := v) (by omega) v1
    have e1 := e n (by omega)
    have hp : (2 : Nat) ^ (n + 1) = 2 ^ n * 2 := Nat.pow_succ 2 n
    have h7 : (2 : Nat) ^ n ≤ 2 ^ 7 := Nat.pow_le_pow_right (by omega) (by omega)
    by_cases hc : h (tt + 7) n = -9
    · have t := or_tab ⟨v, by omega⟩
      have : setG g (n + 1) = (v : Int) := by rw [setG, if_pos (e1.1 hc), v2]; exact t
      refine ⟨?_, v, by omega, this⟩
      rw [this, setX, if_pos hc, q, v2]
    · have : setG g (n + 1) = ((v + 2 ^ n : Nat) : Int) := by rw [setG, if_neg (fun x => hc (e1.2 x)), v2]; exact b.1
      refine ⟨?_, v + 2 ^ n, by omega, this⟩
      rw [this, setX, if_neg hc, q, v2]; exact b.1
theorem sumX_sumG {h g : AH} {tt : Nat} : ∀ n : Nat, (∀ j, j < n → h (tt + 3) j = g 88 (42 + j)) → sumX h tt n = sumG g n
  | 0, _ => rfl
  | n + 1, e => by rw [sumX, sumG, sumX_sumG n (fun j hj => e j (by omega)), e n (by omega)]
end L3SET
