section L3I
variable {h g x z : AH} {W : Int}
/-- h' is h but for the model's scratch -/
def AgM (h h' : AH) (W : Int) : Prop := (∀ a c : Nat, a ≠ 98 → a ≠ 99 → a ≠ 100 → a ≠ 102 → (a ≠ 88 ∨ c < 41) → (a ≠ 82 ∨ c ≠ 36) → ((a ≠ 83 ∧ a ≠ 84 ∧ a ≠ 85) ∨ (c : Int) < h 82 1) → h' a c = h a c) ∧ (∀ j, 0 ≤ h' 98 j ∧ h' 98 j ≤ 1000) ∧ (∀ j, 0 ≤ h' 100 j ∧ h' 100 j ≤ W)
theorem AgM.refl (h1 : ∀ j, 0 ≤ h 98 j ∧ h 98 j ≤ 1000) (h2 : ∀ j, 0 ≤ h 100 j ∧ h 100 j ≤ W) : AgM h h W := ⟨fun _ _ _ _ _ _ _ _ _ => rfl, h1, h2⟩
theorem AgM.trans {W2 : Int} (p : AgM h x W) (q : AgM x z W2) : AgM h z W2 := by
  have e : x 82 1 = h 82 1 := p.1 _ _ (by omega) (by omega) (by omega) (by omega) (by omega) (by omega) (by omega)
  exact ⟨fun a c z1 z2 z3 z4 z5 z6 z7 => by rw [q.1 a c z1 z2 z3 z4 z5 z6 (by rw [e]; exact z7), p.1 a c z1 z2 z3 z4 z5 z6 z7], q.2⟩
theorem AgM.mono {V : Int} (p : AgM h x W) (hv : W ≤ V) : AgM h x V := ⟨p.1, p.2.1, fun j => by have := p.2.2 j; omega⟩
theorem BB_agM (hb : BB h g) (q : AgM g x W) : BB h x := by
  obtain ⟨⟨a1, a2, a3⟩, a4, r7, rh, mg⟩ := hb
  obtain ⟨m1, m2, m3, m4, m5, m6, m7, m8⟩ := mg
  have o : ∀ a c : Nat, a ≠ 98 ∧ a ≠ 99 ∧ a ≠ 100 ∧ a ≠ 102 ∧ (a ≠ 88 ∨ c < 41) ∧ (a ≠ 82 ∨ c ≠ 36) ∧ ((a ≠ 83 ∧ a ≠ 84 ∧ a ≠ 85) ∨ (c : Int) < g 82 1) → x a c = g a c := fun a c w => q.1 a c (by omega) (by omega) (by omega) (by omega) (by omega) (by omega) (by omega)
  refine ⟨⟨by rw [o _ _ (by omega)]; exact a1, by rw [o _ _ (by omega)]; exact a2, by rw [o _ _ (by omega)]; exact a3⟩, by rw [o _ _ (by omega)]; exact a4, fun c hc => ?_, fun c hc => ?_, ⟨by rw [o _ _ (by omega)]; exact m1, by rw [o _ _ (by omega)]; exact m2, by rw [o _ _ (by omega)]; exact m3, by rw [o _ _ (by omega)]; exact m4, fun c hc => ?_, fun c hc => ?_, q.2.1, ⟨W, q.2.2⟩⟩⟩
  · rw [o _ _ (by omega)] at hc
    rw [o _ _ (by omega), o _ _ (by omega), o _ _ (by omega), o _ _ (by omega), o _ _ (by omega), o _ _ (by omega), o _ _ (by omega)]
    exact r7 c hc
  · rw [o _ _ (by omega)] at hc
    rw [o _ _ (by omega), o _ _ (by omega), o _ _ (by omega)]
    exact rh c hc
  · rw [o _ _ (by omega)] at hc
    have := m5 c hc
    unfold PG MH at *
    rw [o _ _ (by omega), o _ _ (by omega), o _ _ (by omega), o _ _ (by omega), o _ _ (by omega), o _ _ (by omega), o _ _ (by omega)]
    exact this
  · rw [o _ _ (by omega)] at hc
    unfold HG
    rw [o _ _ (by omega), o _ _ (by omega), o _ _ (by omega)]
    exact m6 c hc
theorem MG_MI {aa : Nat} (hm : MG g aa) (h9 : g 82 9 = (aa : Int)) (hw : ∀ j, 0 ≤ g 100 j ∧ g 100 j ≤ W) : MI g aa W := ⟨h9, hm.1, fun j hj => MG_stI hm hj, hw, hm.2.2.2.1⟩
theorem MI_go {aa : Nat} : ∀ (k : Nat) (g : AH) (ww : Int), MI g aa ww → MI (goMo aa k g) aa (ww + 120 * k)
  | 0, g, ww, hi => by simpa [goMo] using hi
  | k + 1, g, ww, hi => by
    unfold goMo
    split
    · next q => exact MI_mono (by omega) (MI_go k _ _ (MI_minute hi q))
    · exact MI_mono (by omega) hi
theorem lend_w (hW : 0 ≤ W) (hw : ∀ j, 0 ≤ h 100 j ∧ h 100 j ≤ W) (j : Nat) : 0 ≤ lendM h 100 j ∧ lendM h 100 j ≤ W := by
  rw [lendM_ap]
  split
  · omega
  · rw [if_neg (by omega), if_neg (by omega), if_neg (by omega)]; exact hw j
/-- g: what the model makes ready for a run -/
def LG (h g : AH) (W : Int) : Prop := MG g 41 ∧ g 82 9 = 41 ∧ (∀ j, 0 ≤ g 100 j ∧ g 100 j ≤ W) ∧ (∀ a c : Nat, a ≠ 98 → a ≠ 99 → a ≠ 100 → a ≠ 102 → (a ≠ 88 ∨ c < 41) → (a ≠ 82 ∨ c ≠ 36) → ((a ≠ 83 ∧ a ≠ 84 ∧ a ≠ 85) ∨ (c : Int) < h 82 1) → (a ≠ 82 ∨ c ≠ 9) → g a c = h a c)
theorem LG_lend (hm : MG h 0) (hW : 0 ≤ W) (hw : ∀ j, 0 ≤ h 100 j ∧ h 100 j ≤ W) : LG h (lendM h) W := ⟨MG_lend hm, lend_9, lend_w hW hw, fun a c z1 z2 z3 z4 z5 z6 z7 z8 => lend_o a c (by omega)⟩
theorem LG_MI (q : LG h g W) : MI g 41 W := MG_MI q.1 q.2.1 q.2.2.1
theorem LG_run (q : LG h g W) (h9 : h 82 9 = 0) {k : Nat} (hk : k ≤ 120) : AgM h (hu (goMo 41 k g) 82 9 0) (W + 14400) := by
  obtain ⟨q1, q2, q3, q4⟩ := id q
  have m := (MG_go (aa := 41) k g q1 q2).1
  have i := MI_go (aa := 41) k g W (LG_MI q)
  refine ⟨fun a c z1 z2 z3 z4 z5 z6 z7 => ?_, fun j => by rw [hu_o (by omega)]; exact m.2.2.2.2.2.2.1 j, fun j => ?_⟩
  · by_cases e : a = 82 ∧ c = 9
    · rw [e.1, e.2, h9]; simp [hu]
    · rw [hu_o (by omega), goMo_o _ _ (by omega) _ _ q1.1]
      exact q4 a c z1 z2 z3 z4 z5 z6 z7 (by omega)
  · rw [hu_o (by omega)]; have := i.2.2.2.1 j; omega
theorem LG_sets {pp : Nat} {gl : Int} (q : LG h g W) (m : MG (setsM g 41 pp gl) 41) : LG h (setsM g 41 pp gl) W := by
  obtain ⟨q1, q2, q3, q4⟩ := q
  exact ⟨m, by rw [setsM_o _ _ (by omega)]; exact q2, fun j => by rw [setsM_o _ _ (by omega)]; exact q3 j, fun a c z1 z2 z3 z4 z5 z6 z7 z8 => by rw [setsM_o _ _ (by omega)]; exact q4 a c z1 z2 z3 z4 z5 z6 z7 z8⟩
theorem LG_st {i : Nat} {v : Int} (q : LG h g W) (hi : 41 ≤ i) (m : MG (hu g 88 i v) 41) : LG h (hu g 88 i v) W := by
  obtain ⟨q1, q2, q3, q4⟩ := q
  exact ⟨m, by rw [hu_o (by omega)]; exact q2, fun j => by rw [hu_o (by omega)]; exact q3 j, fun a c z1 z2 z3 z4 z5 z6 z7 z8 => by rw [hu_o (by omega)]; exact q4 a c z1 z2 z3 z4 z5 z6 z7 z8⟩
theorem lastM_hu {v : Int} : lastM (hu z 82 9 v) = lastM z := by
  have o : ∀ a c, (a ≠ 82 ∨ c ≠ 9) → hu z 82 9 v a c = z a c := fun a c q => hu_o q
  have k1 : ∀ n, allF (hu z 82 9 v) n = allF z n := by
    intro n
    induction n with
    | zero => unfold allF; rw [o _ _ (by omega)]
    | succ n ih => unfold allF; rw [ih, o _ _ (by omega)]
  have k2 : ∀ n, maxF (hu z 82 9 v) n = maxF z n := by
    intro n
    induction n with
    | zero => rfl
    | succ n ih => unfold maxF; rw [ih, o _ _ (by omega)]
  unfold lastM
  rw [o _ _ (by omega), k1, k2]
/-- one of the trials' starting points: the model's own part, with any class that stands beside it -/
theorem LG_drill (hb : BB x h) (hx : CL x) (hW : 0 ≤ W) (hw : ∀ j, 0 ≤ h 100 j ∧ h 100 j ≤ W) : ∀ n : Nat, (n : Int) ≤ h 82 5 → LG h (drillG h n) W
  | 0, _ => LG_lend hb.2.2.2.2 hW hw
  | n + 1, hn => by
    have i := LG_drill hb hx hW hw n (by omega)
    have s := (SG_drill hb hx (n + 1) hn).1.2.2.2.2.1
    obtain ⟨q1, q2, q3, q4⟩ := i
    have o2 : ∀ a c, (a ≠ 88 ∨ c < 41 + 9) → drillG h (n + 1) a c = drillG h n a c := fun a c q => by show hu (setsM (drillG h n) 41 n 0) 88 (41 + 17 + n) (h 88 0) a c = _; rw [hu_o (by omega), setsM_o _ _ (by omega)]
    exact ⟨s, by rw [o2 _ _ (by omega)]; exact q2, fun j => by rw [o2 _ _ (by omega)]; exact q3 j, fun a c z1 z2 z3 z4 z5 z6 z7 z8 => by rw [o2 _ _ (by omega)]; exact q4 a c z1 z2 z3 z4 z5 z6 z7 z8⟩
theorem LG_rent {f : Int} (hb : BB x h) (hx : CL x) (hf : 0 ≤ f ∧ f ≤ 9) (hW : 0 ≤ W) (hw : ∀ j, 0 ≤ h 100 j ∧ h 100 j ≤ W) : ∀ n : Nat, (n : Int) ≤ h 82 5 → LG h (rentG h f n) W
  | 0, _ => LG_lend hb.2.2.2.2 hW hw
  | n + 1, hn => LG_sets (LG_rent hb hx hf hW hw n (by omega)) (SG_rent hb hx hf (n + 1) hn).1.2.2.2.2.1
theorem LG_early {p : Nat} {s : Int} (hb : BB x h) (hx : CL x) (hW : 0 ≤ W) (hw : ∀ j, 0 ≤ h 100 j ∧ h 100 j ≤ W) (hp : (p : Int) < h 82 5) (h0 : 0 ≤ s ∧ s ≤ 120) : LG h (earlyG h p s) W := by
  have m := (SG_early hb hx hp h0).2.2.2.2.1
  obtain ⟨q1, q2, q3, q4⟩ := LG_lend hb.2.2.2.2 hW hw
  have o2 : ∀ a c, (a ≠ 88 ∨ c < 41 + 9) → earlyG h p s a c = lendM h a c := fun a c q => by unfold earlyG; rw [hu_o (by omega), setsM_o _ _ (by omega)]
  exact ⟨m, by rw [o2 _ _ (by omega)]; exact q2, fun j => by rw [o2 _ _ (by omega)]; exact q3 j, fun a c z1 z2 z3 z4 z5 z6 z7 z8 => by rw [o2 _ _ (by omega)]; exact q4 a c z1 z2 z3 z4 z5 z6 z7 z8⟩
theorem LG_swap {p q : Nat} (hb : BB x h) (hx : CL x) (hW : 0 ≤ W) (hw : ∀ j, 0 ≤ h 100 j ∧ h 100 j ≤ W) (hp : (p : Int) < h 82 5) (hq : (q : Int) < h 82 5) : LG h (swapG h p q) W := by
  have m := (SG_swap hb hx hp hq).2.2.2.2.1
  obtain ⟨q1, q2, q3, q4⟩ := LG_lend hb.2.2.2.2 hW hw
  have o2 : ∀ a c, (a ≠ 88 ∨ c < 41 + 9) → swapG h p q a c = lendM h a c := fun a c w => by unfold swapG; rw [setsM_o _ _ (by omega), setsM_o _ _ (by omega)]
  exact ⟨m, by rw [o2 _ _ (by omega)]; exact q2, fun j => by rw [o2 _ _ (by omega)]; exact q3 j, fun a c z1 z2 z3 z4 z5 z6 z7 z8 => by rw [o2 _ _ (by omega)]; exact q4 a c z1 z2 z3 z4 z5 z6 z7 z8⟩
end L3I
