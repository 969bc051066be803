section L2AV
variable {G : GD} {l : Launch} {d : Nat} {h : AH}
theorem tkB {T : Nat → Int} {tm : Nat} {gg : GS} (kg : TK T tm gg) (og : gOk tm gg) : PB T tm gg (enM T tm (nuM T tm 0 9 (woM T tm 555 (nuM T tm 0 9 (woM T tm 131638 (nuM T tm 0 9 gg)))))) ∧ gOk tm (enM T tm (nuM T tm 0 9 (woM T tm 555 (nuM T tm 0 9 (woM T tm 131638 (nuM T tm 0 9 gg)))))) := by
  have p1 := PB_nu (le := 0) (mo := 9) kg
  have p2 := p1.trans (PB_wo (w := 131638) p1.1)
  have p3 := p2.trans (PB_nu (le := 0) (mo := 9) p2.1)
  have p4 := p3.trans (PB_wo (w := 555) p3.1)
  have p5 := p4.trans (PB_nu (le := 0) (mo := 9) p4.1)
  exact ⟨p5.trans (PB_en p5.1), enM_ok (nuM_ok (woM_ok (nuM_ok (woM_ok (nuM_ok og)))))⟩
theorem tkA {T : Nat → Int} {tm : Nat} {gg : GS} (kg : TK T tm gg) (og : gOk tm gg) : PB T tm gg (enM T tm (nuM T tm 0 99 (adG T tm (nuM T tm 0 9 (woM T tm 555 (nuM T tm 0 9 (woM T tm 131638 (nuM T tm 0 9 gg)))))))) ∧ gOk tm (enM T tm (nuM T tm 0 99 (adG T tm (nuM T tm 0 9 (woM T tm 555 (nuM T tm 0 9 (woM T tm 131638 (nuM T tm 0 9 gg)))))))) := by
  have p1 := PB_nu (le := 0) (mo := 9) kg
  have p2 := p1.trans (PB_wo (w := 131638) p1.1)
  have p3 := p2.trans (PB_nu (le := 0) (mo := 9) p2.1)
  have p4 := p3.trans (PB_wo (w := 555) p3.1)
  have p5 := p4.trans (PB_nu (le := 0) (mo := 9) p4.1)
  have p6 := p5.trans (PB_ad p5.1)
  have p7 := p6.trans (PB_nu (le := 0) (mo := 99) p6.1)
  exact ⟨p7.trans (PB_en p7.1), enM_ok (nuM_ok (adG_ok (nuM_ok (woM_ok (nuM_ok (woM_ok (nuM_ok og)))))))⟩
theorem tkH {T : Nat → Int} {tm : Nat} {gg : GS} (kg : TK T tm gg) (og : gOk tm gg) : PB T tm gg (enM T tm (nuM T tm 1 30 (woM T tm 4797 (nuM T tm 0 99 (woM T tm 47 (nuM T tm 0 8 gg)))))) ∧ gOk tm (enM T tm (nuM T tm 1 30 (woM T tm 4797 (nuM T tm 0 99 (woM T tm 47 (nuM T tm 0 8 gg)))))) := by
  have p1 := PB_nu (le := 0) (mo := 8) kg
  have p2 := p1.trans (PB_wo (w := 47) p1.1)
  have p3 := p2.trans (PB_nu (le := 0) (mo := 99) p2.1)
  have p4 := p3.trans (PB_wo (w := 4797) p3.1)
  have p5 := p4.trans (PB_nu (le := 1) (mo := 30) p4.1)
  exact ⟨p5.trans (PB_en p5.1), enM_ok (nuM_ok (woM_ok (nuM_ok (woM_ok (nuM_ok og)))))⟩
theorem kdM_1 {x : GS} (k : 0 ≤ kdM x) : gSo x = 1 := by
  apply Classical.byContradiction
  intro z
  unfold kdM at k
  rw [if_neg (fun w => z w.1), if_neg (fun w => z w.1), if_neg (fun w => z w.1), if_neg (fun w => z w.1), if_neg (fun w => z w.1), if_neg (fun w => z w.1)] at k
  omega
theorem hatF_no {T : Nat → Int} {tm : Nat} {x : GS} (c : ¬ (h 82 20).toNat < 4) : (hatF T tm h x).1 = h := by
  have z0 : (hatG T tm ((h 82 20).toNat < 4) x).1.1 = 0 := by
    unfold hatG begG
    rw [if_neg c]
    exact enM_0 (nuM_0 (woM_0 (nuM_0 (woM_0 (nuM_0 rfl)))))
  unfold hatF
  exact if_neg (by rw [z0]; decide)
theorem clF_go {T : Nat → Int} {tm : Nat} {x : GS} (k : TK T tm x) (ho : gOk tm x) (hs : ¬ gSo x = 0) (q : MW2 h T tm) : TK T tm (clF T tm h x).2 ∧ ((clF T tm h x).2.1 = 1 → gBe x < gBe (clF T tm h x).2) ∧ MW2 (clF T tm h x).1 T tm ∧ gOk tm (clF T tm h x).2 := by
  have a1 := PB_ad1 (v := 1) k hs
  have o1 : gOk tm (adG T tm ((1, x.2) : GS)) := adG_ok (setG_ok ho (Or.inr rfl))
  have k0 : TK T tm ((0, x.2) : GS) := TK_set k
  have o0 : gOk tm ((0, x.2) : GS) := setG_ok ho (Or.inl rfl)
  unfold clF
  split
  · unfold perF
    split
    · next hn =>
      split
      · obtain ⟨c1, c2⟩ := tkA a1.1.1 o1
        refine ⟨c1.1, fun _ => Nat.lt_of_lt_of_le a1.2 c1.2, ?_, c2⟩
        show MW2 (if _ then _ else _) T tm
        split
        · exact MW2_per q hn
        · exact q
      · obtain ⟨c1, c2⟩ := tkB a1.1.1 o1
        refine ⟨c1.1, fun _ => Nat.lt_of_lt_of_le a1.2 c1.2, ?_, c2⟩
        show MW2 (if _ then _ else _) T tm
        split
        · exact MW2_per q hn
        · exact q
    · obtain ⟨c1, c2⟩ := tkB k0 o0
      refine ⟨c1.1, fun z => ?_, q, c2⟩
      have z0 : ((enM T tm (nuM T tm 0 9 (woM T tm 555 (nuM T tm 0 9 (woM T tm 131638 (nuM T tm 0 9 ((0, x.2) : GS)))))))).1 = 0 := enM_0 (nuM_0 (woM_0 (nuM_0 (woM_0 (nuM_0 rfl)))))
      exact absurd (z0.symm.trans z) (by decide)
  · split
    · by_cases c : (h 82 20).toNat < 4
      · unfold hatF
        have eb : begG T tm ((h 82 20).toNat < 4) x = adG T tm (1, x.2) := by unfold begG; rw [if_pos c]; rfl
        unfold hatG
        rw [eb]
        obtain ⟨c1, c2⟩ := tkH a1.1.1 o1
        refine ⟨c1.1, fun _ => Nat.lt_of_lt_of_le a1.2 c1.2, ?_, c2⟩
        show MW2 (if _ then _ else _) T tm
        split
        · exact MW2_hat q c
        · exact q
      · have m3 : MW2 (hatF T tm h x).1 T tm := by rw [hatF_no c]; exact q
        unfold hatF at m3 ⊢
        have eb : begG T tm ((h 82 20).toNat < 4) x = (0, x.2) := by unfold begG; rw [if_neg c]
        unfold hatG at m3 ⊢
        rw [eb] at m3 ⊢
        obtain ⟨c1, c2⟩ := tkH k0 o0
        have z0 : (enM T tm (nuM T tm 1 30 (woM T tm 4797 (nuM T tm 0 99 (woM T tm 47 (nuM T tm 0 8 ((0, x.2) : GS))))))).1 = 0 := enM_0 (nuM_0 (woM_0 (nuM_0 (woM_0 (nuM_0 rfl)))))
        refine ⟨c1.1, fun z => absurd (z0.symm.trans z) (by decide), ?_, c2⟩
        exact m3
    · split
      · have a2 := PB_ad1 (v := x.1) k hs
        have p2 := PB_nu (le := 1) (mo := 9) a2.1.1
        have p3 := p2.trans (PB_en p2.1)
        refine ⟨p3.1, fun _ => Nat.lt_of_lt_of_le a2.2 p3.2, ?_, enM_ok (nuM_ok (adG_ok ho))⟩
        obtain ⟨q1, q2, q3, q4⟩ := q
        show MW2 (hu h 82 21 (gVa (adG T tm x))) T tm
        exact ⟨by rw [hu_o (by omega)]; exact q1, by funext c; rw [hu_o (by omega), q2], by rw [hu_o (by omega)]; exact q3, by rw [hu_o (by omega)]; exact q4⟩
      · exact ⟨k0, fun z => by have z2 : (0 : Int) = 1 := z; omega, q, o0⟩
def clL (T : Nat → Int) (tm : Nat) : Nat → AH → GS → AH × GS
  | 0, h, x => (h, x)
  | k + 1, h, x => if x.1 = 1 ∧ ¬ gSo x = 0 then clL T tm k (clF T tm h x).1 (clF T tm h x).2 else (h, x)
end L2AV
