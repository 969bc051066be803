section L3CELL
theorem TI_cell {fl : Prop} {h h' g g' : AH} {aa : Nat} (eh : ∀ a, 0 < a → a < 45 → h' a = h a) (eg : ∀ a, a ≠ 82 → a ≠ 102 → g' a = g a) (e2 : ∀ c, c ≠ 36 → g' 82 c = g 82 c) (hi : TI fl h g 12 aa) : TI fl h' g' 12 aa := by
  have f1 := flatL_congr (g := g) (g' := g') (fun x c hx => by rw [eg x (by omega) (by omega)])
  have c1 : ∀ n, cntX h' 12 n = cntX h 12 n := fun n => cntX_congr n (fun c _ => by rw [eh (12 + 7) (by omega) (by omega)])
  unfold TI RN RS RA RH GI MI MH OrdOK stI hatsOK at hi ⊢
  rw [f1, c1]
  simp only [eh 12 (by omega) (by omega), eh (12 + 1) (by omega) (by omega), eh (12 + 2) (by omega) (by omega), eh (12 + 3) (by omega) (by omega), eh (12 + 4) (by omega) (by omega), eh (12 + 5) (by omega) (by omega), eh (12 + 6) (by omega) (by omega), eh (12 + 7) (by omega) (by omega), eh (12 + 8) (by omega) (by omega), eh (12 + 9) (by omega) (by omega), eh (12 + 10) (by omega) (by omega), eh 34 (by omega) (by omega), eh 35 (by omega) (by omega), eh 37 (by omega) (by omega), eh 38 (by omega) (by omega), eh 41 (by omega) (by omega), eg 83 (by omega) (by omega), eg 84 (by omega) (by omega), eg 85 (by omega) (by omega), eg 86 (by omega) (by omega), eg 87 (by omega) (by omega), eg 88 (by omega) (by omega), eg 98 (by omega) (by omega), eg 99 (by omega) (by omega), eg 100 (by omega) (by omega), e2 0 (by omega), e2 1 (by omega), e2 5 (by omega), e2 9 (by omega)]
  exact hi
end L3CELL
