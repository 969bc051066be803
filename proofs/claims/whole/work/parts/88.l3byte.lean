section L3BYTE
def EB (b T : Nat → Int) : Prop := ∀ c, b c = w8 (T c) ∧ 0 ≤ T c ∧ T c ≤ 255
theorem w8_lo {v : Int} (h : 0 ≤ v ∧ v ≤ 255) : (v < 128 → w8 v = v) ∧ (¬ v < 128 → w8 v < 0) := by
  rw [w8_bm]
  unfold Int.bmod
  constructor
  · intro q
    have : v % ((256 : Nat) : Int) = v := by omega
    rw [this, if_pos (by omega)]
  · intro q
    have : v % ((256 : Nat) : Int) = v := by omega
    rw [this, if_neg (by omega)]
    omega
theorem EB_eq {b T : Nat → Int} (e : EB b T) (c : Nat) {v : Int} (hv : 0 ≤ v ∧ v < 128) : b c = v ↔ T c = v := by
  obtain ⟨e1, e2⟩ := e c
  have := w8_lo e2
  rw [e1]
  by_cases q : T c < 128
  · rw [this.1 q]
  · have := this.2 q; omega
theorem EB_rng {b T : Nat → Int} (e : EB b T) (c : Nat) {u v : Int} (hv : 0 ≤ u ∧ v < 128) : (u ≤ b c ∧ b c ≤ v) ↔ (u ≤ T c ∧ T c ≤ v) := by
  obtain ⟨e1, e2⟩ := e c
  have := w8_lo e2
  rw [e1]
  by_cases q : T c < 128
  · rw [this.1 q]
  · have := this.2 q; omega
theorem EB_isB {b T : Nat → Int} (e : EB b T) (c : Nat) : isB (b c) = isB (T c) := by
  unfold isB; exact decide_eq_decide.2 (EB_eq e c (by omega))
theorem EB_isLt {b T : Nat → Int} (e : EB b T) (c : Nat) : isLt (b c) = isLt (T c) := by
  unfold isLt; exact decide_eq_decide.2 (EB_rng e c (by omega))
theorem EB_isDg {b T : Nat → Int} (e : EB b T) (c : Nat) : isDg (b c) = isDg (T c) := by
  unfold isDg; exact decide_eq_decide.2 (EB_rng e c (by omega))
theorem scF_cg {P : Int → Bool} {b T : Nat → Int} {ln : Nat} (e : ∀ c, P (b c) = P (T c)) : ∀ (k p : Nat), scF P b ln k p = scF P T ln k p
  | 0, _ => rfl
  | k + 1, p => by
    rw [scF, scF, e p, scF_cg e k (p + 1)]
theorem scan_cg {P : Int → Bool} {b T : Nat → Int} {ln : Nat} (e : ∀ c, P (b c) = P (T c)) (p : Nat) : scan P b ln p = scan P T ln p := scF_cg e _ p
theorem scF_in {P : Int → Bool} {b : Nat → Int} {ln : Nat} : ∀ (k p c : Nat), p ≤ c → c < scF P b ln k p → P (b c) = true
  | 0, p, c, h1, h2 => by unfold scF at h2; omega
  | k + 1, p, c, h1, h2 => by
    unfold scF at h2
    split at h2
    · next q =>
      by_cases e : c = p
      · rw [e]; exact q.2
      · exact scF_in k (p + 1) c (by omega) h2
    · omega
theorem scan_in {P : Int → Bool} {b : Nat → Int} {ln p c : Nat} (h1 : p ≤ c) (h2 : c < scan P b ln p) : P (b c) = true := scF_in _ p c h1 h2
theorem nvF_cg {b T : Nat → Int} {s : Nat} : ∀ k, (∀ i, i < k → b (s + i) = T (s + i)) → nvF b s k = nvF T s k
  | 0, _ => rfl
  | k + 1, e => by rw [nvF, nvF, nvF_cg k (fun i hi => e i (by omega)), e k (by omega)]
theorem EB_dig {b T : Nat → Int} (e : EB b T) {ln s : Nat} : nvF b s (scan isDg T ln s - s) = nvF T s (scan isDg T ln s - s) := by
  refine nvF_cg _ (fun i hi => ?_)
  have q := scan_in (P := isDg) (b := T) (ln := ln) (p := s) (c := s + i) (by omega) (by omega)
  unfold isDg at q
  rw [decide_eq_true_eq] at q
  exact (EB_eq e (s + i) (v := T (s + i)) (by omega)).2 rfl
theorem chN_r : ∀ j, j < 12 → ∀ i, i < strN.getD j 0 → 97 ≤ chN j i ∧ chN j i ≤ 122 := by decide
theorem nmB_cg {b T : Nat → Int} (e : EB b T) {t j : Nat} (hj : j < 12) : ∀ k, k ≤ strN.getD j 0 → nmB b t j k = nmB T t j k
  | 0, _ => rfl
  | k + 1, hk => by
    have r := chN_r j hj k (by omega)
    rw [nmB, nmB, nmB_cg e hj k (by omega)]
    congr 1
    exact decide_eq_decide.2 (EB_eq e (t + k) (by omega))
theorem nameB_cg {b T : Nat → Int} (e : EB b T) {t p j : Nat} (hj : j < 12) : nameB b t p j = nameB T t p j := by
  unfold nameB; rw [nmB_cg e hj _ (Nat.le_refl _)]
section
variable {b T : Nat → Int} {ln : Nat}
theorem numP_cg (e : EB b T) {le mo : Int} : numP b ln le mo = numP T ln le mo := by
  funext st
  unfold numP
  simp only [scan_cg (ln := ln) (EB_isB e), scan_cg (ln := ln) (EB_isDg e), EB_dig e]
theorem wordP_cg (e : EB b T) {j : Nat} (hj : j < 12) : wordP b ln j = wordP T ln j := by
  funext st
  unfold wordP
  simp only [scan_cg (ln := ln) (EB_isB e), scan_cg (ln := ln) (EB_isLt e), nameB_cg e hj]
theorem nameS_cg (e : EB b T) : nameS b ln = nameS T ln := by
  funext st
  unfold nameS
  simp only [scan_cg (ln := ln) (EB_isB e), scan_cg (ln := ln) (EB_isLt e)]
theorem skipP_cg (e : EB b T) : skipP b ln = skipP T ln := by
  funext st
  unfold skipP
  simp only [scan_cg (ln := ln) (EB_isB e)]
theorem nextP_cg (e : EB b T) : nextP b ln = nextP T ln := by
  funext st
  unfold nextP
  simp only [scan_cg (ln := ln) (EB_isB e)]
  refine decide_eq_decide.2 ?_
  rw [EB_eq e _ (by omega)]
theorem semP_cg (e : EB b T) : semP b ln = semP T ln := by
  funext st
  unfold semP
  simp only [scan_cg (ln := ln) (EB_isB e), nextP_cg e]
theorem kdV_cg (e : EB b T) : kdV b = kdV T := by
  funext st
  unfold kdV
  simp only [nameB_cg e (show 4 < 12 by omega), nameB_cg e (show 5 < 12 by omega), nameB_cg e (show 6 < 12 by omega), nameB_cg e (show 7 < 12 by omega), nameB_cg e (show 8 < 12 by omega), nameB_cg e (show 9 < 12 by omega)]
theorem roomP_cg (e : EB b T) : roomP b ln = roomP T ln := by
  funext h st
  unfold roomP
  simp only [numP_cg e, semP_cg e]
theorem hatP_cg (e : EB b T) : hatP b ln = hatP T ln := by
  funext h st
  unfold hatP
  simp only [numP_cg e, semP_cg e, wordP_cg e (show 1 < 12 by omega), wordP_cg e (show 2 < 12 by omega)]
theorem perP_cg (e : EB b T) : perP b ln = perP T ln := by
  funext kd h st
  unfold perP
  simp only [numP_cg e, semP_cg e, nextP_cg e, skipP_cg e, wordP_cg e (show 1 < 12 by omega), wordP_cg e (show 10 < 12 by omega), wordP_cg e (show 11 < 12 by omega)]
theorem entP2_cg (e : EB b T) : entP2 b ln = entP2 T ln := by
  funext h st
  unfold entP2
  simp only [nameS_cg e, nameB_cg e (show 0 < 12 by omega), nameB_cg e (show 3 < 12 by omega), hatP_cg e, roomP_cg e, perP_cg e, kdV_cg e]
theorem rdL_cg (e : EB b T) : ∀ (k : Nat) (h : AH) (st : TS), rdL b ln k h st = rdL T ln k h st
  | 0, _, _ => rfl
  | k + 1, h, st => by
    rw [rdL, rdL, skipP_cg e, entP2_cg e, rdL_cg e k]
end
end L3BYTE
