section L3B
variable {h g : AH} {fl : Prop} {tt aa pp : Nat}
def orN (v : Int) : Int := if v < 0 then -9 else v
/-- a tower of the class (cells tt ..) and one of the model (its row from aa on) say the same; fl: also who waited, how crowded it was -/
def RS (h g : AH) (tt : Nat) : Prop := h tt 0 = g 82 5 ∧ h tt 8 = g 82 1 ∧ h tt 12 = g 82 0
def RA (fl : Prop) (h g : AH) (tt aa : Nat) : Prop := ∀ c : Nat, (c : Int) < g 82 5 → (h (tt + 1) c = g 86 c ∧ h (tt + 2) c = g 87 c ∧ h (tt + 3) c = g 88 (aa + 1 + c) ∧ h (tt + 4) c = g 88 (aa + 9 + c) ∧ h (tt + 5) c = g 88 (aa + 17 + c) ∧ h (tt + 6) c = g 88 (aa + 25 + c) ∧ h (tt + 7) c = orN (g 88 (aa + 33 + c))) ∧ h 37 c = takesF (g 86 c) (g 87 c) ∧ (fl → h 38 c = g 100 c)
def RC (fl : Prop) (h g : AH) : Prop := ∀ c : Nat, c < 9 → h 39 c = g 98 c ∧ h 40 c = g 98 (9 + c) ∧ (fl → h 41 c = g 99 c)
def RB (h g : AH) (aa : Nat) : Prop := ∀ f : Nat, f < 9 → bt (Int32.ofInt (h 34 7)) f = clB g f (g 88 aa) (g 82 1).toNat
def RR (fl : Prop) (h g : AH) (tt aa : Nat) : Prop := RS h g tt ∧ h tt 13 = g 88 aa ∧ RA fl h g tt aa ∧ RC fl h g ∧ RB h g aa
theorem hu_o {x i a c : Nat} {v : Int} (e : a ≠ x ∨ c ≠ i) : hu h x i v a c = h a c := by simp only [hu_ap]; rw [if_neg (by omega)]
theorem hu_s {x i : Nat} : hu h x i (h x i) = h := by
  funext a c
  simp only [hu_ap]
  split
  · next q => rw [q.1, q.2]
  · rfl
theorem hu_sv {x i : Nat} {v : Int} (e : v = h x i) : hu h x i v = h := by rw [e]; exact hu_s
theorem RR_hu {x i y j : Nat} {v w : Int} (hr : RR fl h g tt aa) (h1 : x ≠ tt) (h2 : x ≠ 34 ∨ i ≠ 7) (h3 : y ≠ 82 ∧ y ≠ 83 ∧ y ≠ 84 ∧ y ≠ 85) (h4 : y ≠ 88 ∨ j ≠ aa) (ra : RA fl (hu h x i v) (hu g y j w) tt aa) (rc : RC fl (hu h x i v) (hu g y j w)) : RR fl (hu h x i v) (hu g y j w) tt aa := by
  obtain ⟨⟨a1, a2, a3⟩, a4, -, -, rb⟩ := hr
  have o1 : ∀ c, hu h x i v tt c = h tt c := fun c => hu_o (by omega)
  have o2 : ∀ c, hu g y j w 82 c = g 82 c := fun c => hu_o (by omega)
  have o3 : hu g y j w 88 aa = g 88 aa := hu_o (by omega)
  have o4 : hu h x i v 34 7 = h 34 7 := hu_o (by omega)
  refine ⟨⟨by rw [o1, o2]; exact a1, by rw [o1, o2]; exact a2, by rw [o1, o2]; exact a3⟩, by rw [o1, o3]; exact a4, ra, rc, fun f hf => ?_⟩
  rw [o4, o3, o2, clB_cell (fun x c q => hu_o (by omega))]
  exact rb f hf
theorem RA_hu {x i y j : Nat} {v w : Int} (ra : RA fl h g tt aa) (h3 : y ≠ 82) (k : ∀ c : Nat, (c : Int) < g 82 5 → (h (tt + 1) c = g 86 c ∧ h (tt + 2) c = g 87 c ∧ h (tt + 3) c = g 88 (aa + 1 + c) ∧ h (tt + 4) c = g 88 (aa + 9 + c) ∧ h (tt + 5) c = g 88 (aa + 17 + c) ∧ h (tt + 6) c = g 88 (aa + 25 + c) ∧ h (tt + 7) c = orN (g 88 (aa + 33 + c))) ∧ h 37 c = takesF (g 86 c) (g 87 c) ∧ (fl → h 38 c = g 100 c) → (hu h x i v (tt + 1) c = hu g y j w 86 c ∧ hu h x i v (tt + 2) c = hu g y j w 87 c ∧ hu h x i v (tt + 3) c = hu g y j w 88 (aa + 1 + c) ∧ hu h x i v (tt + 4) c = hu g y j w 88 (aa + 9 + c) ∧ hu h x i v (tt + 5) c = hu g y j w 88 (aa + 17 + c) ∧ hu h x i v (tt + 6) c = hu g y j w 88 (aa + 25 + c) ∧ hu h x i v (tt + 7) c = orN (hu g y j w 88 (aa + 33 + c))) ∧ hu h x i v 37 c = takesF (hu g y j w 86 c) (hu g y j w 87 c) ∧ (fl → hu h x i v 38 c = hu g y j w 100 c)) : RA fl (hu h x i v) (hu g y j w) tt aa := by
  intro c hc
  rw [hu_o (by omega)] at hc
  exact k c hc (ra c hc)
theorem RR_39 (ht : isT tt) (hr : RR fl h g tt aa) {f : Nat} (hf : f < 9) (v : Int) : RR fl (hu h 39 f v) (hu g 98 f v) tt aa := by
  have hl := isT_lt ht
  refine RR_hu hr (by omega) (by omega) (by omega) (by omega) (RA_hu hr.2.2.1 (by omega) fun c hc b => ?_) fun c hc => ?_
  · obtain ⟨⟨b1, b2, b3, b4, b5, b6, b7⟩, b8, b9⟩ := b
    refine ⟨⟨?_, ?_, ?_, ?_, ?_, ?_, ?_⟩, ?_, fun hfl => ?_⟩ <;> simp only [hu_ap, true_and] <;> (try have b10 := b9 hfl) <;> (repeat' split) <;> omega
  · obtain ⟨b1, b2, b3⟩ := hr.2.2.2.1 c hc
    refine ⟨?_, ?_, fun hfl => ?_⟩ <;> simp only [hu_ap, true_and] <;> (try have b10 := b3 hfl) <;> (repeat' split) <;> omega
theorem RR_40 (ht : isT tt) (hr : RR fl h g tt aa) {f : Nat} (hf : f < 9) (v : Int) : RR fl (hu h 40 f v) (hu g 98 (9 + f) v) tt aa := by
  have hl := isT_lt ht
  refine RR_hu hr (by omega) (by omega) (by omega) (by omega) (RA_hu hr.2.2.1 (by omega) fun c hc b => ?_) fun c hc => ?_
  · obtain ⟨⟨b1, b2, b3, b4, b5, b6, b7⟩, b8, b9⟩ := b
    refine ⟨⟨?_, ?_, ?_, ?_, ?_, ?_, ?_⟩, ?_, fun hfl => ?_⟩ <;> simp only [hu_ap, true_and] <;> (try have b10 := b9 hfl) <;> (repeat' split) <;> omega
  · obtain ⟨b1, b2, b3⟩ := hr.2.2.2.1 c hc
    refine ⟨?_, ?_, fun hfl => ?_⟩ <;> simp only [hu_ap, true_and] <;> (try have b10 := b3 hfl) <;> (repeat' split) <;> omega
theorem RR_41 (ht : isT tt) (hr : RR fl h g tt aa) {f : Nat} (hf : f < 9) {v w : Int} (e : fl → v = w) : RR fl (hu h 41 f v) (hu g 99 f w) tt aa := by
  have hl := isT_lt ht
  refine RR_hu hr (by omega) (by omega) (by omega) (by omega) (RA_hu hr.2.2.1 (by omega) fun c hc b => ?_) fun c hc => ?_
  · obtain ⟨⟨b1, b2, b3, b4, b5, b6, b7⟩, b8, b9⟩ := b
    refine ⟨⟨?_, ?_, ?_, ?_, ?_, ?_, ?_⟩, ?_, fun hfl => ?_⟩ <;> simp only [hu_ap, true_and] <;> (try have b10 := b9 hfl) <;> (repeat' split) <;> omega
  · obtain ⟨b1, b2, b3⟩ := hr.2.2.2.1 c hc
    refine ⟨?_, ?_, fun hfl => ?_⟩ <;> simp only [hu_ap, true_and] <;> (try have b10 := b3 hfl) <;> (try have b11 := e hfl) <;> (repeat' split) <;> omega
theorem RR_38 (ht : isT tt) (hr : RR fl h g tt aa) {v w : Int} (e : fl → v = w) : RR fl (hu h 38 pp v) (hu g 100 pp w) tt aa := by
  have hl := isT_lt ht
  refine RR_hu hr (by omega) (by omega) (by omega) (by omega) (RA_hu hr.2.2.1 (by omega) fun c hc b => ?_) fun c hc => ?_
  · obtain ⟨⟨b1, b2, b3, b4, b5, b6, b7⟩, b8, b9⟩ := b
    refine ⟨⟨?_, ?_, ?_, ?_, ?_, ?_, ?_⟩, ?_, fun hfl => ?_⟩ <;> simp only [hu_ap, true_and] <;> (try have b10 := b9 hfl) <;> (try have b11 := e hfl) <;> (repeat' split) <;> omega
  · obtain ⟨b1, b2, b3⟩ := hr.2.2.2.1 c hc
    refine ⟨?_, ?_, fun hfl => ?_⟩ <;> simp only [hu_ap, true_and] <;> (try have b10 := b3 hfl) <;> (repeat' split) <;> omega
theorem RR_w (ht : isT tt) (hr : RR fl h g tt aa) {w : Int} (e : w = 0) : RR fl h (hu g 100 pp (g 100 pp + w)) tt aa := by
  rw [e, Int.add_zero, hu_s]; exact hr
theorem RR_8 (ht : isT tt) (hr : RR fl h g tt aa) (v : Int) : RR fl (hu h 34 8 v) g tt aa := by
  have hl := isT_lt ht
  obtain ⟨⟨a1, a2, a3⟩, a4, ra, rc, rb⟩ := hr
  refine ⟨⟨by rw [hu_o (by omega)]; exact a1, by rw [hu_o (by omega)]; exact a2, by rw [hu_o (by omega)]; exact a3⟩, by rw [hu_o (by omega)]; exact a4, fun c hc => ?_, fun c hc => ?_, fun f hf => by rw [hu_o (by omega)]; exact rb f hf⟩
  · obtain ⟨⟨b1, b2, b3, b4, b5, b6, b7⟩, b8, b9⟩ := ra c hc
    refine ⟨⟨?_, ?_, ?_, ?_, ?_, ?_, ?_⟩, ?_, fun hfl => ?_⟩ <;> rw [hu_o (by omega)] <;> first | assumption | exact b9 hfl
  · obtain ⟨b1, b2, b3⟩ := rc c hc
    refine ⟨?_, ?_, fun hfl => ?_⟩ <;> rw [hu_o (by omega)] <;> first | assumption | exact b3 hfl
theorem RR_fl (ht : isT tt) (hr : RR fl h g tt aa) (hP : g 82 5 ≤ 8) (hp : pp < 8) (v : Int) : RR fl (hu h (tt + 3) pp v) (hu g 88 (aa + 1 + pp) v) tt aa := by
  have hl := isT_lt ht
  refine RR_hu hr (by omega) (by omega) (by omega) (by omega) (RA_hu hr.2.2.1 (by omega) fun c hc b => ?_) fun c hc => ?_
  · obtain ⟨⟨b1, b2, b3, b4, b5, b6, b7⟩, b8, b9⟩ := b
    refine ⟨⟨?_, ?_, ?_, ?_, ?_, ?_, ?_⟩, ?_, fun hfl => ?_⟩ <;> simp only [hu_ap, true_and] <;> (try have b10 := b9 hfl) <;> (repeat' split) <;> omega
  · obtain ⟨b1, b2, b3⟩ := hr.2.2.2.1 c hc
    refine ⟨?_, ?_, fun hfl => ?_⟩ <;> simp only [hu_ap, true_and] <;> (try have b10 := b3 hfl) <;> (repeat' split) <;> omega
theorem RR_hf (ht : isT tt) (hr : RR fl h g tt aa) (hP : g 82 5 ≤ 8) (hp : pp < 8) (v : Int) : RR fl (hu h (tt + 6) pp v) (hu g 88 (aa + 25 + pp) v) tt aa := by
  have hl := isT_lt ht
  refine RR_hu hr (by omega) (by omega) (by omega) (by omega) (RA_hu hr.2.2.1 (by omega) fun c hc b => ?_) fun c hc => ?_
  · obtain ⟨⟨b1, b2, b3, b4, b5, b6, b7⟩, b8, b9⟩ := b
    refine ⟨⟨?_, ?_, ?_, ?_, ?_, ?_, ?_⟩, ?_, fun hfl => ?_⟩ <;> simp only [hu_ap, true_and] <;> (try have b10 := b9 hfl) <;> (repeat' split) <;> omega
  · obtain ⟨b1, b2, b3⟩ := hr.2.2.2.1 c hc
    refine ⟨?_, ?_, fun hfl => ?_⟩ <;> simp only [hu_ap, true_and] <;> (try have b10 := b3 hfl) <;> (repeat' split) <;> omega
theorem RR_ar (ht : isT tt) (hr : RR fl h g tt aa) (hP : g 82 5 ≤ 8) (hp : pp < 8) {v : Int} (hv : 0 ≤ v) : RR fl (hu h (tt + 7) pp v) (hu g 88 (aa + 33 + pp) v) tt aa := by
  have hl := isT_lt ht
  have hv2 : orN v = v := if_neg (by omega)
  refine RR_hu hr (by omega) (by omega) (by omega) (by omega) (RA_hu hr.2.2.1 (by omega) fun c hc b => ?_) fun c hc => ?_
  · obtain ⟨⟨b1, b2, b3, b4, b5, b6, b7⟩, b8, b9⟩ := b
    refine ⟨⟨?_, ?_, ?_, ?_, ?_, ?_, ?_⟩, ?_, fun hfl => ?_⟩ <;> simp only [hu_ap, true_and] <;> (try have b10 := b9 hfl) <;> (repeat' split) <;> omega
  · obtain ⟨b1, b2, b3⟩ := hr.2.2.2.1 c hc
    refine ⟨?_, ?_, fun hfl => ?_⟩ <;> simp only [hu_ap, true_and] <;> (try have b10 := b3 hfl) <;> (repeat' split) <;> omega
/-- may one go on: both say the same -/
theorem ent_eq (ht : isT tt) (hr : RR fl h g tt aa) (hs : stI g aa pp) (hp : (pp : Int) < g 82 5) (hn : ¬ g 88 (aa + 1 + pp) = g 88 (aa + 9 + pp)) : entB h tt pp = stB g aa pp := by
  obtain ⟨⟨a1, a2, a3⟩, a4, ra, rc, rb⟩ := hr
  obtain ⟨⟨b1, b2, b3, b4, b5, b6, b7⟩, b8, b9⟩ := ra pp hp
  obtain ⟨s1, s2, s3, s4, s5, s6⟩ := hs
  unfold entB stB
  rw [b3, b4, b8, a3]
  split
  · next q =>
    obtain ⟨f, hf⟩ : ∃ f : Nat, g 88 (aa + 1 + pp) = f := ⟨(g 88 (aa + 1 + pp)).toNat, by omega⟩
    rw [hf]
    have hf9 : f < 9 := by omega
    have hb : (and32 (shr32 (h 34 7) (f : Int)) 1 = 1) ↔ clB g f (g 88 aa) (g 82 1).toNat = true := by rw [bit_rd _ f (by omega), rb f hf9]
    have hc := (rc f hf9).1
    rw [Bool.eq_iff_iff]
    simp only [decide_eq_true_eq, Bool.and_eq_true, Bool.not_eq_true', hb, Int.toNat_natCast, hc, Bool.not_eq_true]
    constructor
    · intro z; exact ⟨z.2.1, z.2.2⟩
    · intro z; exact ⟨by omega, z.1, z.2⟩
  · next q =>
    obtain ⟨f, hf⟩ : ∃ f : Nat, g 88 (aa + 1 + pp) - 1 = f := ⟨(g 88 (aa + 1 + pp) - 1).toNat, by omega⟩
    rw [hf]
    have hf9 : f < 9 := by omega
    have hb : (and32 (shr32 (h 34 7) (f : Int)) 1 = 1) ↔ clB g f (g 88 aa) (g 82 1).toNat = true := by rw [bit_rd _ f (by omega), rb f hf9]
    have hc := (rc f hf9).2.1
    have e9 : (9 + (f : Int)).toNat = 9 + f := by omega
    rw [Bool.eq_iff_iff]
    simp only [decide_eq_true_eq, Bool.and_eq_true, Bool.not_eq_true', hb, Int.toNat_natCast, hc, e9, Bool.not_eq_true]
    constructor
    · intro z; exact ⟨z.2.1, z.2.2⟩
    · intro z; exact ⟨by omega, z.1, z.2⟩
/-- half is 1 only for those who go by halves -/
def MH (g : AH) (aa pp : Nat) : Prop := g 88 (aa + 25 + pp) = 0 ∨ (g 88 (aa + 25 + pp) = 1 ∧ (g 86 pp = 1 ∨ g 86 pp = 4))
def hvOf (g : AH) (pp : Nat) : Int := if g 86 pp = 1 ∨ g 86 pp = 4 then 1 else 2
theorem max_if {a b : Int} : max a b = if a < b then b else a := by
  by_cases c : a < b
  · rw [if_pos c]; omega
  · rw [if_neg c]; omega
/-- behind lane and crowd: half and floor -/
theorem step2_eq (ht : isT tt) (hr : RR fl h g tt aa) (hm : MH g aa pp) (hp : (pp : Int) < g 82 5) (hP : g 82 5 ≤ 8) (dd : Int) (hd : dd = if g 88 (aa + 1 + pp) < g 88 (aa + 9 + pp) then 1 else -1) : RR fl (stepX h tt pp) (hu (hu g 88 (aa + 25 + pp) (m32 (g 88 (aa + 25 + pp) + hvOf g pp) 2)) 88 (aa + 1 + pp) (g 88 (aa + 1 + pp) + if g 88 (aa + 25 + pp) + hvOf g pp < 2 then 0 else dd)) tt aa := by
  obtain ⟨⟨a1, a2, a3⟩, a4, ra, rc, rb⟩ := id hr
  obtain ⟨⟨b1, b2, b3, b4, b5, b6, b7⟩, b8, b9⟩ := ra pp hp
  unfold stepX
  rw [b1, b3, b4, b6, ← hd]
  unfold MH at hm
  by_cases c1 : g 86 pp = 1 ∨ g 86 pp = 4
  · have e1 : hvOf g pp = 1 := if_pos c1
    rw [e1]
    by_cases c2 : g 88 (aa + 25 + pp) = 0
    · rw [if_pos ⟨c1, c2⟩, c2, if_pos (by omega), show m32 (0 + 1) 2 = 1 by decide]
      rw [hu_sv (show g 88 (aa + 1 + pp) + 0 = hu g 88 (aa + 25 + pp) 1 88 (aa + 1 + pp) by rw [hu_o (by omega)]; omega)]
      exact RR_hf ht hr hP (by omega) 1
    · have c3 : g 88 (aa + 25 + pp) = 1 := by omega
      rw [if_neg (fun z => c2 z.2), c3, if_neg (by omega), show m32 (1 + 1) 2 = 0 by decide]
      exact RR_fl ht (RR_hf ht hr hP (by omega) 0) (by rw [hu_o (by omega)]; exact hP) (by omega) _
  · have e1 : hvOf g pp = 2 := if_neg c1
    have c3 : g 88 (aa + 25 + pp) = 0 := by rcases hm with q | q <;> first | exact q | exact absurd q.2 c1
    rw [e1, if_neg (fun z => c1 z.1), c3, if_neg (by omega), show m32 (0 + 2) 2 = 0 by decide]
    exact RR_fl ht (RR_hf ht hr hP (by omega) 0) (by rw [hu_o (by omega)]; exact hP) (by omega) _
theorem step_eq (ht : isT tt) (hr : RR fl h g tt aa) (hs : stI g aa pp) (hm : MH g aa pp) (hp : (pp : Int) < g 82 5) (hP : g 82 5 ≤ 8) (hn : ¬ g 88 (aa + 1 + pp) = g 88 (aa + 9 + pp)) : RR fl (stepX (entH h tt pp) tt pp) (stM g aa pp (hvOf g pp)) tt aa := by
  obtain ⟨⟨a1, a2, a3⟩, a4, ra, rc, rb⟩ := id hr
  obtain ⟨⟨b1, b2, b3, b4, b5, b6, b7⟩, b8, b9⟩ := ra pp hp
  obtain ⟨s1, s2, s3, s4, s5, s6⟩ := id hs
  have key : ∀ (h2 g2 : AH), RR fl h2 g2 tt aa → (∀ x c, x ≠ 98 ∧ x ≠ 99 → g2 x c = g x c) → ∀ dd : Int, (dd = if g 88 (aa + 1 + pp) < g 88 (aa + 9 + pp) then 1 else -1) → RR fl (stepX h2 tt pp) (hu (hu g2 88 (aa + 25 + pp) (m32 (g 88 (aa + 25 + pp) + hvOf g pp) 2)) 88 (aa + 1 + pp) (g 88 (aa + 1 + pp) + if g 88 (aa + 25 + pp) + hvOf g pp < 2 then 0 else dd)) tt aa := by
    intro h2 g2 r2 e2 dd hd
    have := step2_eq (pp := pp) ht r2 (by unfold MH; rw [e2 _ _ (by omega), e2 _ _ (by omega)]; exact hm) (by rw [e2 _ _ (by omega)]; exact hp) (by rw [e2 _ _ (by omega)]; exact hP) dd (by rw [e2 _ _ (by omega), e2 _ _ (by omega)]; exact hd)
    have eh : hvOf g2 pp = hvOf g pp := by unfold hvOf; rw [e2 _ _ (by omega)]
    rw [eh, e2 88 (aa + 25 + pp) (by omega), e2 88 (aa + 1 + pp) (by omega)] at this
    exact this
  unfold entH stM
  rw [b3, b4, b8]
  by_cases c : g 88 (aa + 1 + pp) < g 88 (aa + 9 + pp)
  · rw [if_pos c, if_pos c]
    obtain ⟨f, hf⟩ : ∃ f : Nat, (g 88 (aa + 1 + pp)).toNat = f := ⟨_, rfl⟩
    rw [hf]
    have hf9 : f < 9 := by omega
    obtain ⟨r1, r2, r3⟩ := rc f hf9
    unfold stL
    rw [r1]
    exact key _ _ (RR_41 ht (RR_39 ht hr hf9 _) hf9 (fun z => by rw [max_if, r3 z])) (fun x c q => by rw [hu_o (by omega), hu_o (by omega)]) 1 (by rw [if_pos c])
  · rw [if_neg c, if_neg c]
    obtain ⟨f, hf⟩ : ∃ f : Nat, (g 88 (aa + 1 + pp) - 1).toNat = f := ⟨_, rfl⟩
    have hf3 : (9 + (g 88 (aa + 1 + pp) - 1)).toNat = 9 + f := by omega
    rw [hf, hf3]
    have hf9 : f < 9 := by omega
    obtain ⟨r1, r2, r3⟩ := rc f hf9
    unfold stL
    rw [r2]
    exact key _ _ (RR_41 ht (RR_40 ht hr hf9 _) hf9 (fun z => by rw [max_if, r3 z])) (fun x c q => by rw [hu_o (by omega), hu_o (by omega)]) (-1) (by rw [if_neg c])
theorem stM_half {hv : Int} : stM g aa pp hv 88 (aa + 25 + pp) = m32 (g 88 (aa + 25 + pp) + hv) 2 := by
  unfold stM; split <;> unfold stL <;> rw [hu_o (by omega)] <;> simp [hu]
theorem MH_st (hm : MH g aa pp) : MH (stM g aa pp (hvOf g pp)) aa pp := by
  have e1 : stM g aa pp (hvOf g pp) 86 pp = g 86 pp := stM_o _ _ _ _ _ _ (by omega)
  unfold MH
  rw [stM_half, e1]
  unfold MH at hm
  by_cases c1 : g 86 pp = 1 ∨ g 86 pp = 4
  · have e1 : hvOf g pp = 1 := if_pos c1
    rw [e1]
    rcases hm with q | q
    · right; rw [q]; exact ⟨by decide, c1⟩
    · left; rw [q.1]; decide
  · have e1 : hvOf g pp = 2 := if_neg c1
    rcases hm with q | q
    · left; rw [e1, q]; decide
    · exact absurd q.2 c1
def KL (g : AH) (pp k : Nat) (lf : Int) : Prop := ((g 86 pp = 1 ∨ g 86 pp = 4) → (k = 1 ∧ lf = 1) ∨ (k = 0 ∧ lf = -1)) ∧ (¬ (g 86 pp = 1 ∨ g 86 pp = 4) → lf = 2 * k)
theorem walk_eq (ht : isT tt) : ∀ (k K : Nat) (lf : Int) (h g : AH), RR fl h g tt aa → stI g aa pp → MH g aa pp → (pp : Int) < g 82 5 → g 82 5 ≤ 8 → k < K → KL g pp k lf → RR fl (goL tt pp k h).2 (gsL aa pp K lf g).2 tt aa ∧ ((goL tt pp k h).1 = 0 ↔ (gsL aa pp K lf g).1 = false) := by
  intro k
  induction k with
  | zero =>
    intro K lf h g hr hs hm hp hP hk hkl
    obtain ⟨K, rfl⟩ : ∃ K2, K = K2 + 1 := ⟨K - 1, by omega⟩
    have hl : lf ≤ 0 := by
      by_cases c : g 86 pp = 1 ∨ g 86 pp = 4
      · rcases hkl.1 c with q | q <;> omega
      · have := hkl.2 c; omega
    have e : gsL aa pp (K + 1) lf g = (false, g) := by rw [gsL, if_neg (fun z => by have := z.1; omega)]
    rw [e]
    exact ⟨hr, ⟨fun _ => rfl, fun _ => rfl⟩⟩
  | succ k ih =>
    intro K lf h g hr hs hm hp hP hk hkl
    obtain ⟨K, rfl⟩ : ∃ K2, K = K2 + 1 := ⟨K - 1, by omega⟩
    obtain ⟨⟨a1, a2, a3⟩, a4, ra, rc, rb⟩ := id hr
    obtain ⟨⟨b1, b2, b3, b4, b5, b6, b7⟩, b8, b9⟩ := ra pp hp
    have hl : 0 < lf ∧ (if lf = 1 then (1 : Int) else 2) = hvOf g pp := by
      unfold hvOf
      by_cases c : g 86 pp = 1 ∨ g 86 pp = 4
      · rw [if_pos c]; rcases hkl.1 c with q | q
        · rw [if_pos q.2]; exact ⟨by omega, rfl⟩
        · omega
      · have := hkl.2 c; rw [if_neg c, if_neg (by omega)]; exact ⟨by omega, rfl⟩
    unfold goL gsL
    rw [b3, b4, hl.2]
    by_cases c1 : g 88 (aa + 1 + pp) = g 88 (aa + 9 + pp)
    · rw [if_neg (fun z => z.1 c1), if_neg (fun z => z.2.1 c1)]
      exact ⟨hr, ⟨fun _ => rfl, fun _ => rfl⟩⟩
    rw [ent_eq ht hr hs hp c1]
    by_cases c2 : stB g aa pp = true
    · rw [if_pos ⟨c1, c2⟩, if_pos ⟨hl.1, c1, c2⟩]
      have o : ∀ x c, x ≠ 98 ∧ x ≠ 99 ∧ x ≠ 88 → stM g aa pp (hvOf g pp) x c = g x c := fun x c q => stM_o _ _ _ _ _ _ (by omega)
      have nx := ih K (lf - 2) (stepX (entH h tt pp) tt pp) (stM g aa pp (hvOf g pp)) (step_eq ht hr hs hm hp hP c1) (stI_st hs (by unfold hvOf; split <;> omega) c1 c2) (MH_st hm) (by rw [o _ _ (by omega)]; exact hp) (by rw [o _ _ (by omega)]; exact hP) (by omega) (by
        unfold KL
        rw [o _ _ (by omega)]
        refine ⟨fun c => ?_, fun c => ?_⟩
        · rcases hkl.1 c with q | q
          · exact Or.inr ⟨by omega, by omega⟩
          · omega
        · have := hkl.2 c; omega)
      exact ⟨nx.1, ⟨fun z => absurd z (by simp), fun z => absurd z (by simp)⟩⟩
    · rw [if_neg (fun z => c2 z.2), if_neg (fun z => c2 z.2.2)]
      exact ⟨hr, ⟨fun _ => rfl, fun _ => rfl⟩⟩
theorem goE_eq (ht : isT tt) (hr : RR fl h g tt aa) (hp : (pp : Int) < g 82 5) (hP : g 82 5 ≤ 8) (h0 : 0 ≤ g 88 aa) : RR fl (goE h tt pp) (gsE aa pp g) tt aa := by
  obtain ⟨⟨a1, a2, a3⟩, a4, ra, rc, rb⟩ := id hr
  obtain ⟨⟨b1, b2, b3, b4, b5, b6, b7⟩, b8, b9⟩ := ra pp hp
  unfold goE gsE
  rw [b3, b4, a4]
  split
  · exact RR_8 ht (RR_ar ht hr hP (by omega) h0) _
  · exact hr
theorem KL_0 (g : AH) (pp : Nat) (m : Int) : KL g pp (stepsF (g 86 pp) (g 87 pp) m).toNat (mayF (g 86 pp) (g 87 pp) m) := by
  unfold KL stepsF mayF
  generalize g 86 pp = k
  generalize g 87 pp = a
  generalize m32 (w32 (m + a)) 4 = y
  refine ⟨fun c => Or.inl ?_, fun c => ?_⟩
  · rw [if_neg (by omega), if_neg (by omega), if_pos c]; exact ⟨rfl, rfl⟩
  · rw [if_neg c]
    (repeat' split) <;> first | rfl | omega
theorem go_eq (ht : isT tt) (hr : RR fl h g tt aa) (hs : stI g aa pp) (hm : MH g aa pp) (hp : (pp : Int) < g 82 5) (hP : g 82 5 ≤ 8) (h0 : 0 ≤ g 88 aa) : RR fl (goX h tt pp) (goesM g aa pp) tt aa := by
  obtain ⟨⟨a1, a2, a3⟩, a4, ra, rc, rb⟩ := id hr
  obtain ⟨⟨b1, b2, b3, b4, b5, b6, b7⟩, b8, b9⟩ := ra pp hp
  unfold goX goesM
  rw [b1, b2, b3, b4, a4]
  by_cases c : g 88 (aa + 1 + pp) = g 88 (aa + 9 + pp)
  · have e : ∀ lf, gsL aa pp 3 lf g = (false, g) := fun lf => by rw [gsL, if_neg (fun z => z.2.1 c)]
    rw [if_pos c, e, bi_f (fun z => z.1 c)]
    refine goE_eq ht ?_ ?_ ?_ ?_
    · exact RR_w ht hr rfl
    · unfold gsW; rw [hu_o (by omega)]; exact hp
    · unfold gsW; rw [hu_o (by omega)]; exact hP
    · unfold gsW; rw [hu_o (by omega)]; exact h0
  · have sr := stepsF_r (g 86 pp) (g 87 pp) (g 88 aa)
    obtain ⟨w1, w2⟩ := walk_eq (fl := fl) ht (stepsF (g 86 pp) (g 87 pp) (g 88 aa)).toNat 3 (mayF (g 86 pp) (g 87 pp) (g 88 aa)) h g hr hs hm hp hP (by omega) (KL_0 g pp (g 88 aa))
    rw [if_neg c]
    have o : ∀ x c, x ≠ 98 ∧ x ≠ 99 ∧ (x ≠ 88 ∨ (c ≠ aa + 25 + pp ∧ c ≠ aa + 1 + pp)) → (gsL aa pp 3 (mayF (g 86 pp) (g 87 pp) (g 88 aa)) g).2 x c = g x c := fun x c q => gsL_o aa pp x c q 3 _ g
    generalize goL tt pp (stepsF (g 86 pp) (g 87 pp) (g 88 aa)).toNat h = x at w1 w2 ⊢
    generalize gsL aa pp 3 (mayF (g 86 pp) (g 87 pp) (g 88 aa)) g = y at w1 w2 o ⊢
    have hp2 : (pp : Int) < y.2 82 5 := by rw [o _ _ (by omega)]; exact hp
    have hP2 : y.2 82 5 ≤ 8 := by rw [o _ _ (by omega)]; exact hP
    have h02 : 0 ≤ y.2 88 aa := by rw [o _ _ (by omega)]; exact h0
    refine goE_eq ht ?_ ?_ ?_ ?_
    · unfold goW gsW
      by_cases q : x.1 = 0
      · rw [if_pos q, bi_t ⟨c, w2.mp q⟩]
        exact RR_38 ht w1 (fun z => by rw [((w1.2.2.1) pp hp2).2.2 z])
      · rw [if_neg q, bi_f (fun z => q (w2.mpr z.2))]
        exact RR_w ht w1 rfl
    · unfold gsW; rw [hu_o (by omega)]; exact hp2
    · unfold gsW; rw [hu_o (by omega)]; exact hP2
    · unfold gsW; rw [hu_o (by omega)]; exact h02
theorem gsL_MH : ∀ (k : Nat) (lf : Int) (g : AH), MH g aa pp → ((g 86 pp = 1 ∨ g 86 pp = 4) → lf ≤ 1) → (¬ (g 86 pp = 1 ∨ g 86 pp = 4) → lf % 2 = 0) → MH (gsL aa pp k lf g).2 aa pp
  | 0, _, _, hm, _, _ => hm
  | k + 1, lf, g, hm, h1, h2 => by
    unfold gsL
    split
    · next q =>
      have q1 := q.1
      have e1 : (if lf = 1 then (1 : Int) else 2) = hvOf g pp := by
        unfold hvOf
        by_cases c : g 86 pp = 1 ∨ g 86 pp = 4
        · have := h1 c; rw [if_pos c, if_pos (by omega)]
        · have := h2 c; rw [if_neg c, if_neg (by omega)]
      have e4 : stM g aa pp (hvOf g pp) 86 pp = g 86 pp := stM_o _ _ _ _ _ _ (by omega)
      rw [e1]
      exact gsL_MH k (lf - 2) _ (MH_st hm) (by rw [e4]; intro c; have := h1 c; omega) (by rw [e4]; intro c; have := h2 c; omega)
    · exact hm
theorem goes_MH {cc : Nat} (hc : cc < 8) (hp : pp < 8) (hm : MH g aa cc) : MH (goesM g aa pp) aa cc := by
  by_cases e : cc = pp
  · subst e
    have key : MH (gsL aa cc 3 (mayF (g 86 cc) (g 87 cc) (g 88 aa)) g).2 aa cc := by
      refine gsL_MH 3 _ g hm ?_ ?_
      · intro c; unfold mayF; rw [if_pos c]; omega
      · intro c; unfold mayF; rw [if_neg c]; (repeat' split) <;> omega
    unfold MH goesM at *
    rw [gsE_o _ _ _ _ _ (by omega), gsW_o _ _ _ _ _ (by omega), gsE_o _ _ _ _ _ (by omega), gsW_o _ _ _ _ _ (by omega)]
    exact key
  · unfold MH at *
    rw [goesM_o _ _ (by omega), goesM_o _ _ (by omega)]
    exact hm
end L3B
