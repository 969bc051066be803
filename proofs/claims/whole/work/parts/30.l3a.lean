section L3A
def bt (x : Int32) (i : Nat) : Bool := x.toBitVec.getLsbD i
theorem b_ext {x y : Int32} (h : ∀ i, i < 32 → bt x i = bt y i) : x = y := Int32.toBitVec_inj.mp (BitVec.eq_of_getLsbD_eq (fun i hi => h i hi))
theorem b_or (x y : Int32) (i : Nat) : bt (x ||| y) i = (bt x i || bt y i) := by unfold bt; rw [Int32.toBitVec_or, BitVec.getLsbD_or]
theorem b_and (x y : Int32) (i : Nat) : bt (x &&& y) i = (bt x i && bt y i) := by unfold bt; rw [Int32.toBitVec_and, BitVec.getLsbD_and]
theorem b_big {x : Int32} {i : Nat} (h : 32 ≤ i) : bt x i = false := BitVec.getLsbD_of_ge _ _ h
theorem b_0 (i : Nat) : bt 0 i = false := BitVec.getLsbD_zero
theorem s_l : ∀ n, n < 32 → ((nI n &&& 31).toBitVec.smod 32).toNat = n := by decide +kernel
theorem b_shl (n : Nat) (hn : n < 32) (x : Int32) {i : Nat} (hi : i < 32) : bt (x <<< (nI n &&& 31)) i = (decide (n ≤ i) && bt x (i - n)) := by
  unfold bt
  rw [Int32.toBitVec_shiftLeft]
  show (x.toBitVec <<< ((nI n &&& 31).toBitVec.smod 32).toNat).getLsbD i = _
  rw [s_l n hn, BitVec.getLsbD_shiftLeft]
  rcases Nat.lt_or_ge i n with h | h
  · simp [h, Nat.not_le.mpr h]
  · simp [hi, h, Nat.not_lt.mpr h]
theorem b_sshr (n : Nat) (hn : n < 32) (x : Int32) {i : Nat} (hi : i < 32) : bt (x >>> (nI n &&& 31)) i = if n + i < 32 then bt x (n + i) else bt x 31 := by
  unfold bt
  rw [Int32.toBitVec_shiftRight]
  show (x.toBitVec.sshiftRight ((nI n &&& 31).toBitVec.smod 32).toNat).getLsbD i = _
  rw [s_l n hn, BitVec.getLsbD_sshiftRight, BitVec.msb_eq_getLsbD_last]
  simp [hi]
theorem b_1 : ∀ i, i < 32 → bt 1 i = decide (i = 0) := by decide +kernel
theorem ni_of : ∀ n, n < 32 → Int32.ofInt ((n : Nat) : Int) = nI n := by decide +kernel
theorem rt32 (x : Int32) : Int32.ofInt x.toInt = x := Int32.ofInt_toInt x
theorem and_1 (y : Int32) : (y &&& 1) = if bt y 0 = true then 1 else 0 := by
  apply b_ext
  intro i hi
  rw [b_and, b_1 i hi]
  by_cases c : i = 0
  · subst c
    by_cases q : bt y 0 = true
    · rw [if_pos q, q, b_1 0 (by omega)]; rfl
    · rw [if_neg q, b_0]; simp only [Bool.not_eq_true] at q; rw [q]; rfl
  · by_cases q : bt y 0 = true
    · rw [if_pos q, b_1 i hi]; simp [c]
    · rw [if_neg q, b_0]; simp [c]
theorem bit_rd (x : Int) (f : Nat) (hf : f < 32) : (and32 (shr32 x f) 1 = 1) ↔ bt (Int32.ofInt x) f = true := by
  unfold and32 shr32
  rw [rt32, ni_of f hf, show Int32.ofInt 1 = 1 from rfl, and_1, b_sshr f hf _ (show 0 < 32 by omega), if_pos (show f + 0 < 32 by omega), Nat.add_zero]
  by_cases q : bt (Int32.ofInt x) f = true
  · rw [if_pos q]; exact ⟨fun _ => q, fun _ => by decide⟩
  · rw [if_neg q]; exact ⟨fun z => absurd z (by decide), fun z => absurd z q⟩
theorem bit_or (x : Int) (g f : Nat) (hg : g < 32) (hf : f < 32) : bt (Int32.ofInt (or32 x (shl32 1 g))) f = (bt (Int32.ofInt x) f || decide (f = g)) := by
  unfold or32 shl32
  rw [rt32, rt32, b_or, ni_of g hg, show Int32.ofInt 1 = 1 from rfl, b_shl g hg _ hf, b_1 _ (by omega)]
  congr 1
  by_cases c : f = g
  · subst c; simp
  · rw [decide_eq_false c]
    by_cases q : g ≤ f
    · rw [decide_eq_false (show ¬ f - g = 0 by omega)]; simp
    · rw [decide_eq_false q]; rfl
theorem clX_bit {h g : AH} {tt : Nat} {mm : Int} (f : Nat) (hf : f < 9) : ∀ n : Nat, (∀ c : Nat, c < n → h (tt + 8) c = g 83 c ∧ h (tt + 9) c = g 84 c ∧ h (tt + 10) c = g 85 c) → (∀ c : Nat, c < n → 0 ≤ g 83 c ∧ g 83 c ≤ 8) → bt (Int32.ofInt (clX h tt mm n)) f = clB g f mm n
  | 0, _, _ => b_0 f
  | n + 1, e, hr => by
    have ih := clX_bit (h := h) (g := g) (tt := tt) (mm := mm) f hf n (fun c hc => e c (by omega)) (fun c hc => hr c (by omega))
    obtain ⟨e1, e2, e3⟩ := e n (by omega)
    obtain ⟨r1, r2⟩ := hr n (by omega)
    obtain ⟨q, hq⟩ : ∃ q : Nat, g 83 n = q := ⟨(g 83 n).toNat, by omega⟩
    unfold clX clB
    rw [e1, e2, e3, hq]
    by_cases c : g 84 n ≤ mm ∧ mm < g 84 n + g 85 n
    · rw [if_pos c, bit_or _ q f (by omega) (by omega), ih]
      congr 1
      by_cases c2 : f = q
      · subst c2; rw [decide_eq_true rfl, decide_eq_true ⟨rfl, c.1, by omega⟩]
      · rw [decide_eq_false c2, decide_eq_false (fun z => c2 (by omega))]
    · rw [if_neg c, ih, decide_eq_false (fun z => c ⟨z.2.1, by omega⟩), Bool.or_false]
theorem clB_cell {g g' : AH} (e : ∀ x c, (x = 83 ∨ x = 84 ∨ x = 85) → g' x c = g x c) (f m : Int) : ∀ n : Nat, clB g' f m n = clB g f m n
  | 0 => rfl
  | n + 1 => by unfold clB; rw [clB_cell e f m n, e _ _ (by omega), e _ _ (by omega), e _ _ (by omega)]
end L3A
