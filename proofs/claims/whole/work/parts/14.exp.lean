section EXP
variable {G : GD} {l : Launch} {d : Nat} {h : AH}
theorem s_within {v a b : Int} : CallR G l d 97 [vI v, vI a, vI b] h (fun r h' => r = some (vI (if a ≤ v ∧ v ≤ b then 1 else 0)) ∧ h' = h) := by
  refine in97 [] 20 fun _ _ _ hO => ?_
  simp only [c97, rlA, KF_s, elN_n, cond_false, Int.reduceToNat]
  trace_state
  sorry
theorem s_takes {k a : Int} : CallR G l d 9 [vI k, vI a] h (fun r h' => r = some (vI (if k = 4 then (if a ≥ 5 then 2 else 1) else if k = 5 then 0 else 1)) ∧ h' = h) := by
  refine in9 [] 20 fun _ _ hO => ?_
  simp only [c9, rlA, lk_c, lk_n, KF_s, elN_n, cond_false, Int.reduceToNat]
  trace_state
  sorry
end EXP
