section L3READ
variable {T : Nat → Int} {tm : Nat}
theorem gd_nu {le mo : Int} {x : GS} (z : (nuM T tm le mo x).1 = 1) : x.1 = 1 := by
  unfold nuM at z
  split at z
  · next q => exact q.1
  · have z' : (0 : Int) = 1 := z; omega
theorem gd_wo {w : Int} {x : GS} (z : (woM T tm w x).1 = 1) : x.1 = 1 ∧ gSo x = 1 ∧ gWo x = w := by
  unfold woM at z
  split at z
  · next q => exact q
  · have z' : (0 : Int) = 1 := z; omega
theorem gd_en {x : GS} (z : (enM T tm x).1 = 1) : x.1 = 1 ∧ gSo x = 3 ∧ gVa x = 59 := by
  unfold enM at z
  split at z
  · next q => exact q
  · have z' : (0 : Int) = 1 := z; omega
theorem zr_nu {le mo : Int} {x : GS} (z : ¬ x.1 = 1) : nuM T tm le mo x = (0, x.2) := by unfold nuM; rw [if_neg (fun q => z q.1)]
theorem zr_wo {w : Int} {x : GS} (z : ¬ (x.1 = 1 ∧ gSo x = 1 ∧ gWo x = w)) : woM T tm w x = (0, x.2) := by unfold woM; rw [if_neg z]
theorem zr_en {x : GS} (z : ¬ (x.1 = 1 ∧ gSo x = 3 ∧ gVa x = 59)) : enM T tm x = (0, x.2) := by unfold enM; rw [if_neg z]
theorem n01 : ¬ ((0 : Int) = 1) := by omega
theorem JJ_good {st : TS} {x : GS} (j : JJ T tm st x) (h1 : x.1 = 1) : st.2.2 = -1 := by
  obtain ⟨-, ⟨f, -⟩ | ⟨g, -⟩⟩ := j
  · exact f
  · omega
theorem per_eq {st0 : TS} {x : GS} {kd : Int} {h g : AH} (j0 : JJ T tm st0 (adG T tm ((1, x.2) : GS))) (hkd : 0 ≤ kd ∧ kd ≤ 5) (hf : FF h g) (h8 : g 82 19 < 8) : JJ T tm (perP T tm kd h st0).2 (perF T tm kd g x).2 ∧ ((perF T tm kd g x).2.1 = 1 → FF (perP T tm kd h st0).1 (perF T tm kd g x).1) := by
  have e12 : h 12 0 = g 82 19 := hf.1
  have f2 := hf.2.1
  unfold perP perF
  rw [if_neg (show ¬ (kd = -3 ∨ ¬ h 12 0 < 8) by omega), if_pos (show (g 82 19).toNat < 8 by omega)]
  dsimp only
  generalize adG T tm ((1, x.2) : GS) = g0 at j0 ⊢
  obtain ⟨j1, v1⟩ := JJ_num (le := 0) (mo := 9) (by omega) j0
  generalize numP T tm 0 9 st0 = n1 at j1 v1 ⊢
  have j2 := JJ_word (jj := 10) (by omega) j1
  rw [cd_10] at j2
  have V1 : (woM T tm 131638 (nuM T tm 0 9 g0)).1 = 1 → n1.2 = gVa g0 ∧ 0 ≤ gVa g0 ∧ gVa g0 ≤ 9 := fun z => v1 (gd_wo z).1
  clear v1
  generalize woM T tm 131638 (nuM T tm 0 9 g0) = w1 at j2 V1 ⊢
  obtain ⟨j3, v2⟩ := JJ_num (le := 0) (mo := 9) (by omega) j2
  generalize numP T tm 0 9 (wordP T tm 10 n1.1) = n2 at j3 v2 ⊢
  have j4 := JJ_word (jj := 11) (by omega) j3
  rw [cd_11] at j4
  have V2 : (woM T tm 555 (nuM T tm 0 9 w1)).1 = 1 → (n2.2 = gVa w1 ∧ 0 ≤ gVa w1 ∧ gVa w1 ≤ 9) ∧ w1.1 = 1 := fun z => ⟨v2 (gd_wo z).1, gd_nu (gd_wo z).1⟩
  clear v2
  generalize woM T tm 555 (nuM T tm 0 9 w1) = w2 at j4 V2 ⊢
  obtain ⟨j5, v3⟩ := JJ_num (le := 0) (mo := 9) (by omega) j4
  generalize numP T tm 0 9 (wordP T tm 11 n2.1) = n3 at j5 v3 ⊢
  have V3 : (nuM T tm 0 9 w2).1 = 1 → (n3.2 = gVa w2 ∧ 0 ≤ gVa w2 ∧ gVa w2 ≤ 9) ∧ w2.1 = 1 := fun z => ⟨v3 z, gd_nu z⟩
  clear v3
  generalize nuM T tm 0 9 w2 = y at j5 V3 ⊢
  have k5 := JJ_skip j5
  have k6 := JJ_word (jj := 1) (by omega) k5
  rw [cd_1] at k6
  obtain ⟨k7, u4⟩ := JJ_num (le := 0) (mo := 99) (by omega) k6
  have k8 := JJ_sem k7
  by_cases hA : y.1 = 1 ∧ gSo y = 1 ∧ gWo y = 47
  · rw [if_pos hA]
    have nx : ¬ nextP T tm n3.1 = true := fun z => by have := ((JJ_next j5 hA.1).1 z).1; omega
    rw [if_neg nx]
    have ea : woM T tm 47 y = adG T tm y := by
      unfold woM adG; rw [if_pos hA, hA.1]
    rw [ea] at k6 k7 k8 u4
    refine ⟨k8, fun z => ?_⟩
    have z1 := gd_en z
    have z2 := u4 z1.1
    obtain ⟨a3, b3⟩ := V3 hA.1
    obtain ⟨a2, b2⟩ := V2 b3
    have a1 := V1 b2
    dsimp only at z ⊢
    rw [if_pos (JJ_good k8 z), if_pos z, a1.1, a2.1, a3.1, z2.1]
    exact FF_per hf h8 ⟨hkd, a1.2, a2.2, a3.2, z2.2⟩
  · rw [if_neg hA]
    by_cases nx : nextP T tm n3.1 = true
    · rw [if_pos nx]
      have k9 := JJ_sem k5
      refine ⟨k9, fun z => ?_⟩
      have z1 := gd_en z
      obtain ⟨a3, b3⟩ := V3 z1.1
      obtain ⟨a2, b2⟩ := V2 b3
      have a1 := V1 b2
      dsimp only at z ⊢
      rw [if_pos (JJ_good k9 z), if_pos z, a1.1, a2.1, a3.1]
      exact FF_per hf h8 ⟨hkd, a1.2, a2.2, a3.2, by omega⟩
    · rw [if_neg nx]
      have e1 : woM T tm 47 y = (0, y.2) := zr_wo hA
      have e2 : enM T tm y = (0, y.2) := zr_en (fun z => nx ((JJ_next j5 z.1).2 z.2))
      rw [e1] at k8
      rw [zr_nu (x := ((0, y.2) : GS)) n01, zr_en (x := ((0, y.2) : GS)) (fun z => n01 z.1)] at k8
      dsimp only at k8 ⊢
      rw [e2]
      exact ⟨k8, fun z => absurd z n01⟩
theorem hat_eq {st0 : TS} {x : GS} {h g : AH} (j0 : JJ T tm st0 ((1, advS T tm (gEn x)) : GS)) (hf : FF h g) (h4 : g 82 20 < 4) : JJ T tm (hatP T tm h st0).2 (hatF T tm g x).2 ∧ ((hatF T tm g x).2.1 = 1 → FF (hatP T tm h st0).1 (hatF T tm g x).1) := by
  have e12 : h 12 8 = g 82 20 := hf.2.2.1
  have f2 := hf.2.2.2.1
  unfold hatP hatF hatG begG
  rw [if_pos (show h 12 8 < 4 by omega)]
  simp only [if_pos (show (g 82 20).toNat < 4 by omega)]
  generalize ((1, advS T tm (gEn x)) : GS) = g0 at j0 ⊢
  obtain ⟨j1, v1⟩ := JJ_num (le := 0) (mo := 8) (by omega) j0
  generalize numP T tm 0 8 st0 = n1 at j1 v1 ⊢
  have j2 := JJ_word (jj := 1) (by omega) j1
  rw [cd_1] at j2
  have V1 : (woM T tm 47 (nuM T tm 0 8 g0)).1 = 1 → n1.2 = gVa g0 ∧ 0 ≤ gVa g0 ∧ gVa g0 ≤ 8 := fun z => v1 (gd_wo z).1
  clear v1
  generalize woM T tm 47 (nuM T tm 0 8 g0) = w1 at j2 V1 ⊢
  obtain ⟨j3, v2⟩ := JJ_num (le := 0) (mo := 99) (by omega) j2
  generalize numP T tm 0 99 (wordP T tm 1 n1.1) = n2 at j3 v2 ⊢
  have j4 := JJ_word (jj := 2) (by omega) j3
  rw [cd_2] at j4
  have V2 : (woM T tm 4797 (nuM T tm 0 99 w1)).1 = 1 → (n2.2 = gVa w1 ∧ 0 ≤ gVa w1 ∧ gVa w1 ≤ 99) ∧ w1.1 = 1 := fun z => ⟨v2 (gd_wo z).1, gd_nu (gd_wo z).1⟩
  clear v2
  generalize woM T tm 4797 (nuM T tm 0 99 w1) = w2 at j4 V2 ⊢
  obtain ⟨j5, v3⟩ := JJ_num (le := 1) (mo := 30) (by omega) j4
  generalize numP T tm 1 30 (wordP T tm 2 n2.1) = n3 at j5 v3 ⊢
  have k8 := JJ_sem j5
  refine ⟨k8, fun z => ?_⟩
  have z1 := gd_en z
  have a3 := v3 z1.1
  obtain ⟨a2, b2⟩ := V2 (gd_nu z1.1)
  have a1 := V1 b2
  rw [if_pos (JJ_good k8 z), if_pos z, a1.1, a2.1, a3.1]
  exact FF_hat hf h4 ⟨a1.2, a2.2, a3.2⟩
theorem room_eq {st0 : TS} {x : GS} {h g : AH} (j0 : JJ T tm st0 (adG T tm x)) (hf : FF h g) : JJ T tm (roomP T tm h st0).2 (enM T tm (nuM T tm 1 9 (adG T tm x))) ∧ ((enM T tm (nuM T tm 1 9 (adG T tm x))).1 = 1 → FF (roomP T tm h st0).1 (hu g 82 21 (gVa (adG T tm x)))) := by
  unfold roomP
  generalize adG T tm x = g0 at j0 ⊢
  obtain ⟨j1, v1⟩ := JJ_num (le := 1) (mo := 9) (by omega) j0
  have k8 := JJ_sem j1
  refine ⟨k8, fun z => ?_⟩
  have a1 := v1 (gd_en z).1
  dsimp only
  rw [if_pos (JJ_good k8 z), a1.1]
  exact FF_room hf a1.2
theorem kd_eq {s : Nat} {f v : Int} (hs : s ≤ tm) : kdV T (scan isLt T tm s, s, f) = if 0 ≤ kdM (v, tokS T tm s) then kdM (v, tokS T tm s) else -3 := by
  have m4 := name_tok (T := T) (tm := tm) (s := s) (v := v) (show 4 < 12 by omega) hs
  have m5 := name_tok (T := T) (tm := tm) (s := s) (v := v) (show 5 < 12 by omega) hs
  have m6 := name_tok (T := T) (tm := tm) (s := s) (v := v) (show 6 < 12 by omega) hs
  have m7 := name_tok (T := T) (tm := tm) (s := s) (v := v) (show 7 < 12 by omega) hs
  have m8 := name_tok (T := T) (tm := tm) (s := s) (v := v) (show 8 < 12 by omega) hs
  have m9 := name_tok (T := T) (tm := tm) (s := s) (v := v) (show 9 < 12 by omega) hs
  rw [cd_4] at m4
  rw [cd_5] at m5
  rw [cd_6] at m6
  rw [cd_7] at m7
  rw [cd_8] at m8
  rw [cd_9] at m9
  unfold kdV kdM
  dsimp only
  simp only [m4, m5, m6, m7, m8, m9]
  generalize gSo (v, tokS T tm s) = aa
  generalize gWo (v, tokS T tm s) = bb
  (repeat' split) <;> omega
theorem kdM_r {x : GS} : kdM x ≤ 5 := by
  unfold kdM
  (repeat' split) <;> omega
/-- one clause on both sides -/
theorem entL_eq {st : TS} {x : GS} {h g : AH} (j : JJ T tm st x) (h1 : x.1 = 1) (hs : ¬ gSo x = 0) (hf : FF h g) : JJ T tm (entP2 T tm h (skipP T tm st)).2 (clF T tm g x).2 ∧ ((clF T tm g x).2.1 = 1 → FF (entP2 T tm h (skipP T tm st)).1 (clF T tm g x).1) := by
  have kr := kdM_r (x := x)
  have f3 := hf.2.2.1
  have f1 := hf.1
  obtain ⟨x1, x2⟩ := x
  obtain ⟨ho, ⟨f, g1, e⟩ | ⟨g1, f⟩⟩ := j
  case inr => have : x1 = 0 := g1; have : x1 = 1 := h1; omega
  have g' : x1 = 1 := g1
  have e' : x2 = tokS T tm (scan isB T tm st.1) := e
  subst g'; subst e'
  have sle : scan isB T tm st.1 ≤ tm := scan_le ho
  have en : nameS T tm (skipP T tm st) = (scan isLt T tm (scan isB T tm st.1), scan isB T tm st.1, -1) := by
    unfold nameS skipP
    dsimp only
    rw [scan_idem _ _ rfl, f]
  unfold entP2
  rw [en]
  clear en e f g1
  generalize scan isB T tm st.1 = s at *
  have be : gBe ((1, tokS T tm s) : GS) = s := tok_be s 1
  have m0 := name_tok (T := T) (tm := tm) (s := s) (v := 1) (show 0 < 12 by omega) sle
  have m3 := name_tok (T := T) (tm := tm) (s := s) (v := 1) (show 3 < 12 by omega) sle
  rw [cd_0] at m0
  rw [cd_3] at m3
  have kq := kd_eq (T := T) (f := -1) (v := 1) sle
  have kw : ∀ w, gWo ((1, tokS T tm s) : GS) = w → (w = 5879 ∨ w = 365647) → kdM (1, tokS T tm s) = -1 := fun w hw h2 => by
    unfold kdM
    rw [if_neg (by omega), if_neg (by omega), if_neg (by omega), if_neg (by omega), if_neg (by omega), if_neg (by omega)]
  have j0 : gSo ((1, tokS T tm s) : GS) = 1 → JJ T tm ((scan isLt T tm s, s, -1) : TS) ((1, advS T tm (gEn ((1, tokS T tm s) : GS))) : GS) := fun z => ⟨scan_le sle, Or.inl ⟨rfl, rfl, by show advS T tm _ = advS T tm _; rw [(let_tok z).2]⟩⟩
  have jf : JJ T tm ((scan isLt T tm s, s, ((s : Nat) : Int)) : TS) ((0, tokS T tm s) : GS) := ⟨scan_le sle, Or.inr ⟨rfl, by show ((s : Nat) : Int) = _; rw [tok_be]⟩⟩
  dsimp only
  unfold clF
  by_cases c0 : gSo ((1, tokS T tm s) : GS) = 1 ∧ gWo ((1, tokS T tm s) : GS) = 5879
  · rw [if_pos (m0.2 c0), if_neg (by rw [kw 5879 c0.2 (by omega)]; omega), if_pos c0]
    by_cases h4 : g 82 20 < 4
    · exact hat_eq (j0 c0.1) hf h4
    · have ex : hatP T tm h (scan isLt T tm s, s, -1) = (h, (scan isLt T tm s, s, ((s : Nat) : Int))) := by
        unfold hatP; rw [if_neg (by omega)]
      have f4 := hf.2.2.2.1
      have ey : (hatF T tm g ((1, tokS T tm s) : GS)).2 = (0, tokS T tm s) := by
        unfold hatF hatG begG
        simp only [if_neg (show ¬ (g 82 20).toNat < 4 by omega)]
        rw [zr_nu (x := ((0, tokS T tm s) : GS)) n01, zr_wo (x := ((0, tokS T tm s) : GS)) (fun z => n01 z.1), zr_nu (x := ((0, tokS T tm s) : GS)) n01, zr_wo (x := ((0, tokS T tm s) : GS)) (fun z => n01 z.1), zr_nu (x := ((0, tokS T tm s) : GS)) n01, zr_en (x := ((0, tokS T tm s) : GS)) (fun z => n01 z.1)]
      rw [ex, ey]
      exact ⟨jf, fun z => absurd z n01⟩
  · rw [if_neg (fun z => c0 (m0.1 z))]
    by_cases c3 : gSo ((1, tokS T tm s) : GS) = 1 ∧ gWo ((1, tokS T tm s) : GS) = 365647
    · rw [if_pos (m3.2 c3), if_neg (by rw [kw 365647 c3.2 (by omega)]; omega), if_neg c0, if_pos c3]
      exact room_eq (j0 c3.1) hf
    · rw [if_neg (fun z => c3 (m3.1 z)), kq]
      by_cases ck : 0 ≤ kdM ((1, tokS T tm s) : GS)
      · rw [if_pos ck, if_pos ck]
        by_cases h8 : g 82 19 < 8
        · exact per_eq (j0 (kdM_1 ck)) ⟨ck, kr⟩ hf h8
        · have ex : perP T tm (kdM ((1, tokS T tm s) : GS)) h (scan isLt T tm s, s, -1) = (h, (scan isLt T tm s, s, ((s : Nat) : Int))) := by
            unfold perP; rw [if_pos (Or.inr (by omega))]
          have f4 := hf.2.1
          have ey : (perF T tm (kdM ((1, tokS T tm s) : GS)) g ((1, tokS T tm s) : GS)).2 = (0, tokS T tm s) := by
            unfold perF
            rw [if_neg (show ¬ (g 82 19).toNat < 8 by omega)]
            dsimp only
            rw [zr_nu (x := ((0, tokS T tm s) : GS)) n01, zr_wo (x := ((0, tokS T tm s) : GS)) (fun z => n01 z.1), zr_nu (x := ((0, tokS T tm s) : GS)) n01, zr_wo (x := ((0, tokS T tm s) : GS)) (fun z => n01 z.1), zr_nu (x := ((0, tokS T tm s) : GS)) n01, zr_en (x := ((0, tokS T tm s) : GS)) (fun z => n01 z.1)]
          rw [ex, ey]
          exact ⟨jf, fun z => absurd z n01⟩
      · rw [if_neg ck, if_neg ck, if_neg c0, if_neg c3]
        have ex : perP T tm (-3) h (scan isLt T tm s, s, -1) = (h, (scan isLt T tm s, s, ((s : Nat) : Int))) := by
          unfold perP; rw [if_pos (Or.inl rfl)]
        rw [ex]
        exact ⟨jf, fun z => absurd z n01⟩
end L3READ
