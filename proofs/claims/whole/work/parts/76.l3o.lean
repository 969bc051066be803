section L3O
variable {T : Nat → Int} {tm : Nat} {x y : GS}
/-- a token as the text has it -/
def TK (T : Nat → Int) (tm : Nat) (x : GS) : Prop := ∃ s, s ≤ tm ∧ x.2 = tokS T tm s
theorem scan_gt {P : Int → Bool} {b : Nat → Int} {ln p : Nat} (h1 : p < ln) (h2 : P (b p) = true) : p < scan P b ln p := by
  rw [scan_y h1 h2]
  have := scan_r (P := P) (b := b) (ln := ln) (p := p + 1)
  omega
theorem tok_be (s : Nat) (v : Int) : gBe (v, tokS T tm s) = s := by
  unfold gBe tokS
  split
  · rfl
  · split
    · rfl
    · split <;> rfl
theorem tok_en (s : Nat) (v : Int) : s ≤ gEn (v, tokS T tm s) ∧ (¬ gSo (v, tokS T tm s) = 0 → s < gEn (v, tokS T tm s)) := by
  unfold gEn gSo tokS
  split
  · exact ⟨Nat.le_refl _, fun z => absurd rfl z⟩
  · next c =>
    split
    · next q => have := scan_gt (P := isLt) (b := T) (ln := tm) (p := s) (by omega) q; exact ⟨by show s ≤ scan isLt T tm s; omega, fun _ => this⟩
    · split
      · next q => have := scan_gt (P := isDg) (b := T) (ln := tm) (p := s) (by omega) q; exact ⟨by show s ≤ scan isDg T tm s; omega, fun _ => this⟩
      · exact ⟨by show s ≤ s + 1; omega, fun _ => by show s < s + 1; omega⟩
theorem TK_be (k : TK T tm x) : gBe x ≤ gEn x ∧ (¬ gSo x = 0 → gBe x < gEn x) ∧ gEn x ≤ tm := by
  obtain ⟨s, hs, e⟩ := k
  obtain ⟨v, m⟩ := x
  have e2 : m = tokS T tm s := e
  subst e2
  have b := tok_be (T := T) (tm := tm) s v
  have n := tok_en (T := T) (tm := tm) s v
  rw [b]
  exact ⟨n.1, n.2, (tokS_le hs).1⟩
theorem TK_adv {q : Nat} {v : Int} (hq : q ≤ tm) : TK T tm (v, advS T tm q) ∧ q ≤ gBe (v, advS T tm q) := by
  refine ⟨⟨scan isB T tm q, scan_le hq, rfl⟩, ?_⟩
  unfold advS
  rw [tok_be]
  exact (scan_r (P := isB) (b := T) (ln := tm) (p := q)).1
/-- y comes behind x, and where it is good, truly so -/
def PB (T : Nat → Int) (tm : Nat) (x y : GS) : Prop := TK T tm y ∧ gBe x ≤ gBe y
theorem PB_ad (k : TK T tm x) : PB T tm x (adG T tm x) := by
  have b := TK_be k
  have a := TK_adv (T := T) (v := x.1) b.2.2
  exact ⟨a.1, by have := a.2; unfold adG; omega⟩
theorem PB_in {c : Prop} [Decidable c] (k : TK T tm x) : PB T tm x (if c then (1, advS T tm (gEn x)) else (0, x.2)) := by
  have b := TK_be k
  split
  · have a := TK_adv (T := T) (v := 1) b.2.2
    exact ⟨a.1, by have := a.2; omega⟩
  · obtain ⟨s, hs, e⟩ := k
    exact ⟨⟨s, hs, e⟩, Nat.le_refl _⟩
theorem PB_nu {le mo : Int} (k : TK T tm x) : PB T tm x (nuM T tm le mo x) := PB_in k
theorem PB_wo {w : Int} (k : TK T tm x) : PB T tm x (woM T tm w x) := PB_in k
theorem PB_en (k : TK T tm x) : PB T tm x (enM T tm x) := PB_in k
theorem PB.trans {z : GS} (p : PB T tm x y) (q : PB T tm y z) : PB T tm x z := ⟨q.1, Nat.le_trans p.2 q.2⟩
theorem TK_set {v : Int} (k : TK T tm x) : TK T tm (v, x.2) := by obtain ⟨s, hs, e⟩ := k; exact ⟨s, hs, e⟩
/-- one token read on: truly further -/
theorem PB_ad1 {v : Int} (k : TK T tm x) (h : ¬ gSo x = 0) : PB T tm x (adG T tm (v, x.2)) ∧ gBe x < gBe (adG T tm (v, x.2)) := by
  have b := TK_be k
  have a := TK_adv (T := T) (v := v) b.2.2
  have e : gEn (v, x.2) = gEn x := rfl
  have h2 := b.2.1 h
  have a2 := a.2
  have e3 : adG T tm (v, x.2) = (v, advS T tm (gEn x)) := rfl
  rw [e3]
  exact ⟨⟨a.1, by omega⟩, by omega⟩
end L3O
