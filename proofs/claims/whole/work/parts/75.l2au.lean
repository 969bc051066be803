section L2AU
variable {G : GD} {l : Launch} {d : Nat} {h : AH}
def perF (T : Nat → Int) (tm : Nat) (kd : Int) (h : AH) (x : GS) : AH × GS := if (h 82 19).toNat < 8 then (if ((nuM T tm 0 9 (woM T tm 555 (nuM T tm 0 9 (woM T tm 131638 (nuM T tm 0 9 (adG T tm ((1, x.2) : GS))))))).1 = 1 ∧ gSo (nuM T tm 0 9 (woM T tm 555 (nuM T tm 0 9 (woM T tm 131638 (nuM T tm 0 9 (adG T tm ((1, x.2) : GS))))))) = 1 ∧ gWo (nuM T tm 0 9 (woM T tm 555 (nuM T tm 0 9 (woM T tm 131638 (nuM T tm 0 9 (adG T tm ((1, x.2) : GS))))))) = 47) then ((if (enM T tm (nuM T tm 0 99 (adG T tm (nuM T tm 0 9 (woM T tm 555 (nuM T tm 0 9 (woM T tm 131638 (nuM T tm 0 9 (adG T tm ((1, x.2) : GS)))))))))).1 = 1 then perW h (h 82 19).toNat kd (gVa (adG T tm ((1, x.2) : GS))) (gVa (woM T tm 131638 (nuM T tm 0 9 (adG T tm ((1, x.2) : GS))))) (gVa (woM T tm 555 (nuM T tm 0 9 (woM T tm 131638 (nuM T tm 0 9 (adG T tm ((1, x.2) : GS))))))) (gVa (adG T tm (nuM T tm 0 9 (woM T tm 555 (nuM T tm 0 9 (woM T tm 131638 (nuM T tm 0 9 (adG T tm ((1, x.2) : GS))))))))) else h), (enM T tm (nuM T tm 0 99 (adG T tm (nuM T tm 0 9 (woM T tm 555 (nuM T tm 0 9 (woM T tm 131638 (nuM T tm 0 9 (adG T tm ((1, x.2) : GS))))))))))) else ((if (enM T tm (nuM T tm 0 9 (woM T tm 555 (nuM T tm 0 9 (woM T tm 131638 (nuM T tm 0 9 (adG T tm ((1, x.2) : GS)))))))).1 = 1 then perW h (h 82 19).toNat kd (gVa (adG T tm ((1, x.2) : GS))) (gVa (woM T tm 131638 (nuM T tm 0 9 (adG T tm ((1, x.2) : GS))))) (gVa (woM T tm 555 (nuM T tm 0 9 (woM T tm 131638 (nuM T tm 0 9 (adG T tm ((1, x.2) : GS))))))) 0 else h), (enM T tm (nuM T tm 0 9 (woM T tm 555 (nuM T tm 0 9 (woM T tm 131638 (nuM T tm 0 9 (adG T tm ((1, x.2) : GS)))))))))) else (h, (enM T tm (nuM T tm 0 9 (woM T tm 555 (nuM T tm 0 9 (woM T tm 131638 (nuM T tm 0 9 ((0, x.2) : GS))))))))
def hatF (T : Nat → Int) (tm : Nat) (h : AH) (x : GS) : AH × GS := ((if (hatG T tm ((h 82 20).toNat < 4) x).1.1 = 1 then hatW h (h 82 20).toNat (hatG T tm ((h 82 20).toNat < 4) x).2.1 (hatG T tm ((h 82 20).toNat < 4) x).2.2.1 (hatG T tm ((h 82 20).toNat < 4) x).2.2.2 else h), (hatG T tm ((h 82 20).toNat < 4) x).1)
def clF (T : Nat → Int) (tm : Nat) (h : AH) (x : GS) : AH × GS := if 0 ≤ kdM x then perF T tm (kdM x) h x else if gSo x = 1 ∧ gWo x = 5879 then hatF T tm h x else if gSo x = 1 ∧ gWo x = 365647 then (hu h 82 21 (gVa (adG T tm x)), enM T tm (nuM T tm 1 9 (adG T tm x))) else (h, (0, x.2))
def MW2 (h : AH) (T : Nat → Int) (tm : Nat) : Prop := h 82 12 = (tm : Int) ∧ h 89 = T ∧ (0 ≤ h 82 19 ∧ h 82 19 ≤ 8) ∧ (0 ≤ h 82 20 ∧ h 82 20 ≤ 4)
set_option maxHeartbeats 800000 in
theorem m_clauseF {tm : Nat} {T : Nat → Int} {x : GS} (q : MW2 h T tm) (hln : tm ≤ 240) (hT : ∀ c, 0 ≤ T c ∧ T c ≤ 255) (ho : gOk tm x) (hd : 5 ≤ d) : CallR G l d 134 [vR 82] (GM h x) (fun r h' => r = none ∧ h' = GM (clF T tm h x).1 (clF T tm h x).2) := by
  obtain ⟨hl, rfl, q3, q4⟩ := q
  unfold clF
  by_cases k : 0 ≤ kdM x
  · rw [if_pos k]
    refine m_clauseK k (by omega) ?_
    unfold perF
    have hn : h 82 19 = (((h 82 19).toNat : Nat) : Int) := by omega
    by_cases c : (h 82 19).toNat < 8
    · rw [if_pos c]
      by_cases a : ((nuM (h 89) tm 0 9 (woM (h 89) tm 555 (nuM (h 89) tm 0 9 (woM (h 89) tm 131638 (nuM (h 89) tm 0 9 (adG (h 89) tm ((1, x.2) : GS))))))).1 = 1 ∧ gSo (nuM (h 89) tm 0 9 (woM (h 89) tm 555 (nuM (h 89) tm 0 9 (woM (h 89) tm 131638 (nuM (h 89) tm 0 9 (adG (h 89) tm ((1, x.2) : GS))))))) = 1 ∧ gWo (nuM (h 89) tm 0 9 (woM (h 89) tm 555 (nuM (h 89) tm 0 9 (woM (h 89) tm 131638 (nuM (h 89) tm 0 9 (adG (h 89) tm ((1, x.2) : GS))))))) = 47)
      · rw [if_pos a]; exact m_wantPersonA hl hln hT ho hn c a (by omega)
      · rw [if_neg a]; exact m_wantPersonB hl hln hT ho hn c a (by omega)
    · rw [if_neg c]; exact m_wantPersonC hl hln hT ho hn c (by omega) (by omega)
  · rw [if_neg k]
    by_cases c1 : gSo x = 1 ∧ gWo x = 5879
    · rw [if_pos c1]
      refine m_clauseH k c1 (by omega) ?_
      unfold hatF
      exact m_wantHat hl hln hT ho (show h 82 20 = (((h 82 20).toNat : Nat) : Int) by omega) (by omega) (by omega)
    · rw [if_neg c1]
      by_cases c2 : gSo x = 1 ∧ gWo x = 365647
      · rw [if_pos c2]; exact m_clauseR hl hln hT ho k c1 c2 (by omega)
      · rw [if_neg c2]; exact m_clauseN k c1 c2 (by omega)
theorem MW2_per {T : Nat → Int} {tm nn : Nat} {kd a f g s : Int} (q : MW2 h T tm) (hn : nn < 8) : MW2 (perW h nn kd a f g s) T tm := by
  obtain ⟨q1, q2, q3, q4⟩ := q
  have o : ∀ i j, i ≠ 90 ∧ i ≠ 91 ∧ i ≠ 92 ∧ i ≠ 93 ∧ i ≠ 94 ∧ (i ≠ 82 ∨ j ≠ 19) → perW h nn kd a f g s i j = h i j := fun i j z => by unfold perW; rw [hu_o (by omega), hu_o (by omega), hu_o (by omega), hu_o (by omega), hu_o (by omega), hu_o (by omega)]
  refine ⟨by rw [o _ _ (by omega)]; exact q1, by funext c; rw [o _ _ (by omega), q2], ?_, by rw [o _ _ (by omega)]; exact q4⟩
  have : perW h nn kd a f g s 82 19 = ((nn + 1 : Nat) : Int) := by unfold perW; simp [hu]
  rw [this]; omega
theorem MW2_hat {T : Nat → Int} {tm nn : Nat} {a f n : Int} (q : MW2 h T tm) (hn : nn < 4) : MW2 (hatW h nn f a n) T tm := by
  obtain ⟨q1, q2, q3, q4⟩ := q
  have o : ∀ i j, i ≠ 95 ∧ i ≠ 96 ∧ i ≠ 97 ∧ (i ≠ 82 ∨ j ≠ 20) → hatW h nn f a n i j = h i j := fun i j z => by unfold hatW; rw [hu_o (by omega), hu_o (by omega), hu_o (by omega), hu_o (by omega)]
  refine ⟨by rw [o _ _ (by omega)]; exact q1, by funext c; rw [o _ _ (by omega), q2], by rw [o _ _ (by omega)]; exact q3, ?_⟩
  have : hatW h nn f a n 82 20 = ((nn + 1 : Nat) : Int) := by unfold hatW; simp [hu]
  rw [this]; omega
end L2AU
