section L3MANY
set_option maxRecDepth 20000 in
theorem bits_tab : ∀ n : Fin 8, ∀ v : Fin 128, v.val < 2 ^ n.val → or32 ((v.val : Nat) : Int) (shl32 1 ((n.val : Nat) : Int)) = ((v.val + 2 ^ n.val : Nat) : Int) ∧ bcF ((v.val + 2 ^ n.val : Nat) : Int) = bcF ((v.val : Nat) : Int) + 1 := by decide +kernel
theorem bits_at {n v : Nat} (hn : n < 8) (hv : v < 2 ^ n) : or32 (v : Int) (shl32 1 (n : Int)) = ((v + 2 ^ n : Nat) : Int) ∧ bcF ((v + 2 ^ n : Nat) : Int) = bcF (v : Int) + 1 := by
  have h7 : (2 : Nat) ^ n ≤ 2 ^ 7 := Nat.pow_le_pow_right (by omega) (by omega)
  exact bits_tab ⟨n, hn⟩ ⟨v, by omega⟩ hv
theorem setX_cnt {h g : AH} {tt : Nat} : ∀ n : Nat, n ≤ 8 → (∀ j, j < n → (h (tt + 7) j = -9 ↔ g 88 (33 + j) < 0)) → ∃ v : Nat, v < 2 ^ n ∧ setX h tt n = (v : Int) ∧ bcF (v : Int) = cntM g n
  | 0, _, _ => ⟨0, by omega, rfl, (show bcF ((0 : Nat) : Int) = 0 by decide +kernel)⟩
  | n + 1, hn, e => by
    obtain ⟨v, v1, v2, v3⟩ := setX_cnt n (by omega) (fun j hj => e j (by omega))
    have b := bits_at (n := n) (v := v) (by omega) v1
    have e1 := e n (by omega)
    have hp : (2 : Nat) ^ (n + 1) = 2 ^ n * 2 := Nat.pow_succ 2 n
    by_cases hc : h (tt + 7) n = -9
    · refine ⟨v, by omega, ?_, ?_⟩
      · rw [setX, if_pos hc, v2]
      · rw [cntM, if_pos (e1.1 hc), v3]; omega
    · refine ⟨v + 2 ^ n, by omega, ?_, ?_⟩
      · rw [setX, if_neg hc, v2]; exact b.1
      · rw [cntM, if_neg (fun x => hc (e1.2 x)), b.2, v3]
end L3MANY
