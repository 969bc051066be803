section L3C
variable {h g : AH} {fl : Prop} {tt aa : Nat}
def passP (tt pp : Nat) (h : AH) : AH := if h (tt + 7) pp = -9 ∧ h (tt + 5) pp ≤ h tt 13 then goX h tt pp else h
def goP (aa pp : Nat) (g : AH) : AH := if g 88 (aa + 33 + pp) < 0 ∧ g 88 (aa + 17 + pp) ≤ g 88 aa then goesM g aa pp else g
def GI (g : AH) (aa : Nat) : Prop := (∃ ww, MI g aa ww) ∧ ∀ c : Nat, (c : Int) < g 82 5 → MH g aa c
theorem GI_goes {pp : Nat} (hg : GI g aa) (hp : (pp : Int) < g 82 5) : GI (goesM g aa pp) aa := by
  obtain ⟨⟨ww, hm⟩, hh⟩ := hg
  have h8 := hm.2.1
  refine ⟨⟨ww + 1, MI_goes hp hm⟩, fun c hc => ?_⟩
  rw [goesM_o _ _ (by omega)] at hc
  exact goes_MH (by omega) (by omega) (hh c hc)
theorem goP_o {pp : Nat} (x c : Nat) (hp : pp < 8) (hx : x ≠ 98 ∧ x ≠ 99 ∧ x ≠ 100 ∧ (x ≠ 88 ∨ c ≤ aa ∨ (aa + 9 ≤ c ∧ c < aa + 25))) : goP aa pp g x c = g x c := by
  unfold goP; split
  · exact goesM_o _ _ (by omega)
  · rfl
theorem GI_goP {pp : Nat} (hg : GI g aa) (hp : (pp : Int) < g 82 5) : GI (goP aa pp g) aa := by
  unfold goP; split
  · exact GI_goes hg hp
  · exact hg
theorem goP_eq {pp : Nat} (ht : isT tt) (hr : RR fl h g tt aa) (hg : GI g aa) (hp : (pp : Int) < g 82 5) : RR fl (passP tt pp h) (goP aa pp g) tt aa := by
  obtain ⟨⟨ww, hm⟩, hh⟩ := hg
  obtain ⟨⟨a1, a2, a3⟩, a4, ra, rc, rb⟩ := id hr
  obtain ⟨⟨b1, b2, b3, b4, b5, b6, b7⟩, b8, b9⟩ := ra pp hp
  obtain ⟨m1, m2, m3, m4, m5⟩ := hm
  unfold passP goP
  rw [b7, b5, a4]
  have e : (orN (g 88 (aa + 33 + pp)) = -9) ↔ g 88 (aa + 33 + pp) < 0 := by unfold orN; split <;> omega
  by_cases c : g 88 (aa + 33 + pp) < 0 ∧ g 88 (aa + 17 + pp) ≤ g 88 aa
  · rw [if_pos c, if_pos ⟨e.mpr c.1, c.2⟩]
    exact go_eq ht hr (m3 pp hp) (hh pp hp) hp (by omega) (by omega)
  · rw [if_neg c, if_neg (fun z => c ⟨e.mp z.1, z.2⟩)]
    exact hr
theorem fold_eq (ht : isT tt) : ∀ (L : List Nat) (h g : AH), RR fl h g tt aa → GI g aa → (∀ p ∈ L, (p : Int) < g 82 5) → RR fl (L.foldl (fun x p => passP tt p x) h) (L.foldl (fun x p => goP aa p x) g) tt aa ∧ GI (L.foldl (fun x p => goP aa p x) g) aa
  | [], _, _, hr, hg, _ => ⟨hr, hg⟩
  | p :: L, h, g, hr, hg, hL => by
    have hp := hL p (by simp)
    have h8 := hg.1
    obtain ⟨ww, hm⟩ := h8
    have h8 := hm.2.1
    refine fold_eq ht L (passP tt p h) (goP aa p g) (goP_eq ht hr hg hp) (GI_goP hg hp) (fun q hq => ?_)
    rw [goP_o _ _ (by omega) (by omega)]
    exact hL q (by simp [hq])
theorem fold_o (x c : Nat) (hx : x ≠ 98 ∧ x ≠ 99 ∧ x ≠ 100 ∧ (x ≠ 88 ∨ c ≤ aa ∨ (aa + 9 ≤ c ∧ c < aa + 25))) : ∀ (L : List Nat) (g : AH), (∀ p ∈ L, p < 8) → L.foldl (fun x p => goP aa p x) g x c = g x c
  | [], _, _ => rfl
  | p :: L, g, hL => by
    show L.foldl (fun x p => goP aa p x) (goP aa p g) x c = _
    rw [fold_o x c hx L _ (fun q hq => hL q (by simp [hq])), goP_o _ _ (hL p (by simp)) hx]
theorem passI_list (ht : isT tt) (h : AH) : ∀ n : Nat, forN (passI tt) n h = ((List.range n).map (fun j => (h 35 j).toNat)).foldl (fun x p => passP tt p x) h
  | 0 => rfl
  | n + 1 => by
    have hl := isT_lt ht
    have e0 : forN (passI tt) (n + 1) h = passI tt n (forN (passI tt) n h) := rfl
    have e1 : forN (passI tt) n h 35 n = h 35 n := forN_o (P := fun a => a = 35) (fun n h a b q => passI_o ht a b (by omega)) n h 35 n rfl
    have e2 : ∀ x : AH, passI tt n x = passP tt (x 35 n).toNat x := fun x => rfl
    rw [e0, e2, e1, passI_list ht h n, List.range_succ, List.map_append, List.foldl_append]
    rfl
def rkM (g : AH) (p : Nat) : Int := rankF (g 86 p) (g 87 p)
def rowL (g : AH) (n r : Nat) : List Nat := (List.range n).filter (fun p => decide (rkM g p = (r : Int)))
def flatL (g : AH) (n : Nat) : List Nat := (List.range 15).flatMap (rowL g n)
theorem mG_list (rr : Nat) (g : AH) : ∀ n : Nat, forN (mG aa rr) n g = (rowL g n rr).foldl (fun x p => goP aa p x) g
  | 0 => rfl
  | n + 1 => by
    have e0 : forN (mG aa rr) (n + 1) g = mG aa rr n (forN (mG aa rr) n g) := rfl
    have e1 : ∀ x c, (x = 86 ∨ x = 87) → forN (mG aa rr) n g x c = g x c := fun x c q => forN_o (P := fun a => a = 86 ∨ a = 87) (fun n h a b q => mG_o _ _ (by omega)) n g x c q
    have e2 : ∀ x : AH, x 86 n = g 86 n → x 87 n = g 87 n → mG aa rr n x = if rkM g n = (rr : Int) then goP aa n x else x := fun x q1 q2 => by
      unfold mG goP rkM
      rw [q1, q2]
      by_cases c : rankF (g 86 n) (g 87 n) = (rr : Int)
      · rw [if_pos c]
        by_cases c2 : x 88 (aa + 33 + n) < 0 ∧ x 88 (aa + 17 + n) ≤ x 88 aa
        · rw [if_pos c2, if_pos ⟨c, c2⟩]
        · rw [if_neg c2, if_neg (fun z => c2 z.2)]
      · rw [if_neg c, if_neg (fun z => c z.1)]
    rw [e0, e2 _ (e1 _ _ (by omega)) (e1 _ _ (by omega)), mG_list rr g n]
    unfold rowL
    rw [List.range_succ, List.filter_append, List.foldl_append]
    by_cases c : rkM g n = (rr : Int)
    · rw [if_pos c]; simp [List.filter, c]
    · rw [if_neg c]; simp [List.filter, c]
theorem outM_list (g : AH) : ∀ R : Nat, outM aa R g = ((List.range R).flatMap (rowL g (g 82 5).toNat)).foldl (fun x p => goP aa p x) g
  | 0 => rfl
  | R + 1 => by
    have e0 : outM aa (R + 1) g = forN (mG aa R) (outM aa R g 82 5).toNat (outM aa R g) := rfl
    have e1 : ∀ x c, (x = 82 ∨ x = 86 ∨ x = 87) → outM aa R g x c = g x c := fun x c q => by
      unfold outM
      exact forN_o (P := fun a => a = 82 ∨ a = 86 ∨ a = 87) (fun n h a b q => forN_o (P := fun a => a = 82 ∨ a = 86 ∨ a = 87) (fun n h a b q => mG_o _ _ (by omega)) _ h a b q) R g x c q
    have e3 : ∀ n r, rowL (outM aa R g) n r = rowL g n r := fun n r => by
      unfold rowL rkM
      congr 1
      funext p
      rw [e1 _ _ (by omega), e1 _ _ (by omega)]
    rw [e0, e1 _ _ (by omega), mG_list, e3, outM_list g R, List.range_succ, List.flatMap_append, List.foldl_append]
    simp
theorem flatL_mem {g : AH} {n p : Nat} (hp : p ∈ flatL g n) : p < n := by
  unfold flatL rowL at hp
  simp only [List.mem_flatMap, List.mem_filter, List.mem_range] at hp
  obtain ⟨r, -, h2, -⟩ := hp
  exact h2
/-- between two minutes -/
def RN (fl : Prop) (h g : AH) (tt aa : Nat) : Prop := RS h g tt ∧ h tt 13 = g 88 aa ∧ RA fl h g tt aa ∧ (fl → ∀ c : Nat, c < 9 → h 41 c = g 99 c)
def RH (h g : AH) (tt : Nat) : Prop := ∀ c : Nat, (c : Int) < g 82 1 → (h (tt + 8) c = g 83 c ∧ h (tt + 9) c = g 84 c ∧ h (tt + 10) c = g 85 c) ∧ (0 ≤ g 83 c ∧ g 83 c ≤ 8)
def OrdOK (h g : AH) (n : Nat) : Prop := (List.range n).map (fun j => (h 35 j).toNat) = flatL g n
theorem zero9_v : ∀ (n : Nat) (h : AH) (c : Nat), forN (fun f h => hu (hu h 39 f 0) 40 f 0) n h 39 c = (if c < n then 0 else h 39 c) ∧ forN (fun f h => hu (hu h 39 f 0) 40 f 0) n h 40 c = (if c < n then 0 else h 40 c)
  | 0, _, _ => ⟨rfl, rfl⟩
  | n + 1, h, c => by
    obtain ⟨i1, i2⟩ := zero9_v n h c
    have e0 : forN (fun f h => hu (hu h 39 f 0) 40 f 0) (n + 1) h = hu (hu (forN (fun f h => hu (hu h 39 f 0) 40 f 0) n h) 39 n 0) 40 n 0 := rfl
    rw [e0]
    simp only [hu_ap, true_and, i1, i2]
    refine ⟨?_, ?_⟩ <;> (repeat' split) <;> omega
theorem zero18_v : ∀ (n : Nat) (h : AH) (c : Nat), forN (fun k h => hu h 98 k 0) n h 98 c = if c < n then 0 else h 98 c
  | 0, _, _ => rfl
  | n + 1, h, c => by
    have i1 := zero18_v n h c
    have e0 : forN (fun k h => hu h 98 k 0) (n + 1) h = hu (forN (fun k h => hu h 98 k 0) n h) 98 n 0 := rfl
    rw [e0]
    simp only [hu_ap, true_and, i1]
    (repeat' split) <;> omega
theorem RR_begin (ht : isT tt) (hn : RN fl h g tt aa) (hh : RH h g tt) (hG : 0 ≤ g 82 1) : RR fl (zero9 (hu h 34 7 (clX h tt (h tt 13) (h tt 8).toNat))) (zero18 g) tt aa := by
  have hl := isT_lt ht
  obtain ⟨⟨a1, a2, a3⟩, a4, ra, rc⟩ := hn
  have o1 : ∀ a c, a ≠ 39 ∧ a ≠ 40 ∧ (a ≠ 34 ∨ c ≠ 7) → zero9 (hu h 34 7 (clX h tt (h tt 13) (h tt 8).toNat)) a c = h a c := fun a c q => by rw [zero9_o _ _ _ (by omega), hu_o (by omega)]
  have o2 : ∀ a c, a ≠ 98 → zero18 g a c = g a c := fun a c q => zero18_o 18 g a c q
  refine ⟨⟨by rw [o1 _ _ (by omega), o2 _ _ (by omega)]; exact a1, by rw [o1 _ _ (by omega), o2 _ _ (by omega)]; exact a2, by rw [o1 _ _ (by omega), o2 _ _ (by omega)]; exact a3⟩, by rw [o1 _ _ (by omega), o2 _ _ (by omega)]; exact a4, fun c hc => ?_, fun c hc => ?_, fun f hf => ?_⟩
  · rw [o2 _ _ (by omega)] at hc
    obtain ⟨⟨b1, b2, b3, b4, b5, b6, b7⟩, b8, b9⟩ := ra c hc
    refine ⟨⟨?_, ?_, ?_, ?_, ?_, ?_, ?_⟩, ?_, fun hfl => ?_⟩ <;> rw [o1 _ _ (by omega)] <;> simp only [o2 _ _ (show 86 ≠ 98 by omega), o2 _ _ (show 87 ≠ 98 by omega), o2 _ _ (show 88 ≠ 98 by omega), o2 _ _ (show 100 ≠ 98 by omega)] <;> first | assumption | exact b9 hfl
  · have z := zero9_v 9 (hu h 34 7 (clX h tt (h tt 13) (h tt 8).toNat)) c
    have y1 := zero18_v 18 g c
    have y2 := zero18_v 18 g (9 + c)
    rw [if_pos (by omega), if_pos (by omega)] at z
    rw [if_pos (by omega)] at y1 y2
    refine ⟨by rw [show zero18 g = forN (fun k h => hu h 98 k 0) 18 g from rfl, y1]; exact z.1, by rw [show zero18 g = forN (fun k h => hu h 98 k 0) 18 g from rfl, y2]; exact z.2, fun hfl => ?_⟩
    rw [o1 _ _ (by omega), o2 _ _ (by omega)]
    exact rc hfl c hc
  · have e : zero9 (hu h 34 7 (clX h tt (h tt 13) (h tt 8).toNat)) 34 7 = clX h tt (h tt 13) (h tt 8).toNat := by
      rw [zero9_o _ _ _ (by omega)]; simp [hu]
    rw [e, o2 _ _ (by omega), o2 _ _ (by omega), clB_cell (g := g) (fun x c q => o2 x c (by omega)), a2, a4]
    exact clX_bit f hf _ (fun c hc => (hh c (by omega)).1) (fun c hc => (hh c (by omega)).2)
theorem GI_z (hg : GI g aa) : GI (zero18 g) aa := by
  obtain ⟨⟨ww, hm⟩, hh⟩ := hg
  have o2 : ∀ a c, a ≠ 98 → zero18 g a c = g a c := fun a c q => zero18_o 18 g a c q
  refine ⟨⟨ww, MI_z hm 18⟩, fun c hc => ?_⟩
  rw [o2 _ _ (by omega)] at hc
  have := hh c hc
  unfold MH at *
  rw [o2 _ _ (by omega), o2 _ _ (by omega)]
  exact this
theorem minuteM_list (g : AH) : minuteM g aa = hu ((flatL g (g 82 5).toNat).foldl (fun x p => goP aa p x) (zero18 g)) 88 aa (g 88 aa + 1) := by
  have o2 : ∀ a c, a ≠ 98 → zero18 g a c = g a c := fun a c q => zero18_o 18 g a c q
  have e : ∀ n r, rowL (zero18 g) n r = rowL g n r := fun n r => by
    unfold rowL rkM
    simp only [o2 86 _ (by omega), o2 87 _ (by omega)]
  have e2 : rowL (zero18 g) (g 82 5).toNat = rowL g (g 82 5).toNat := by funext r; exact e _ r
  unfold minuteM
  rw [outM_list, o2 _ _ (by omega), e2]
  rfl
theorem minuteM_o (hP : 0 ≤ g 82 5 ∧ g 82 5 ≤ 8) (x c : Nat) (hx : x ≠ 98 ∧ x ≠ 99 ∧ x ≠ 100 ∧ (x ≠ 88 ∨ c < aa ∨ (aa + 9 ≤ c ∧ c < aa + 25))) : minuteM g aa x c = g x c := by
  rw [minuteM_list, hu_o (by omega), fold_o x c (by omega) _ _ (fun p hp => by have := flatL_mem hp; omega)]
  exact zero18_o 18 g x c (by omega)
theorem passX_o (ht : isT tt) (a c : Nat) (ha : a ≠ 39 ∧ a ≠ 40 ∧ a ≠ 41 ∧ a ≠ 38 ∧ a ≠ 34 ∧ a ≠ tt + 3 ∧ a ≠ tt + 6 ∧ a ≠ tt + 7 ∧ (a ≠ tt ∨ c ≠ 13)) : passX h tt a c = h a c := by
  unfold passX
  rw [hu_o (by omega), forN_o (P := fun a => a ≠ 39 ∧ a ≠ 40 ∧ a ≠ 41 ∧ a ≠ 38 ∧ a ≠ 34 ∧ a ≠ tt + 3 ∧ a ≠ tt + 6 ∧ a ≠ tt + 7) (fun n h a b q => passI_o ht a b q) _ _ a c (by omega), zero9_o _ _ _ (by omega), hu_o (by omega)]
theorem GI_minute (hg : GI g aa) (hm : g 88 aa < 120) : GI (minuteM g aa) aa := by
  obtain ⟨⟨ww, hi⟩, hh⟩ := id hg
  have h8 := hi.2.1
  have hz := GI_z hg
  have o2 : ∀ a c, a ≠ 98 → zero18 g a c = g a c := fun a c q => zero18_o 18 g a c q
  have key : ∀ (L : List Nat) (g : AH), GI g aa → (∀ p ∈ L, (p : Int) < g 82 5) → GI (L.foldl (fun x p => goP aa p x) g) aa := by
    intro L
    induction L with
    | nil => intro g hg _; exact hg
    | cons p L ih =>
      intro g hg hL
      obtain ⟨⟨ww, hm⟩, -⟩ := id hg
      have h8 := hm.2.1
      have hp := hL p (by simp)
      refine ih (goP aa p g) (GI_goP hg hp) (fun q hq => ?_)
      rw [goP_o _ _ (by omega) (by omega)]
      exact hL q (by simp [hq])
  have hk := key (flatL g (g 82 5).toNat) (zero18 g) hz (fun p hp => by rw [o2 _ _ (by omega)]; have := flatL_mem hp; omega)
  refine ⟨⟨ww + 120, MI_minute hi hm⟩, fun c hc => ?_⟩
  rw [minuteM_o h8 _ _ (by omega)] at hc
  have hc2 : ((c : Nat) : Int) < (flatL g (g 82 5).toNat).foldl (fun x p => goP aa p x) (zero18 g) 82 5 := by
    rw [fold_o 82 5 (by omega) _ _ (fun p hp => by have := flatL_mem hp; omega), o2 _ _ (by omega)]; exact hc
  have := hk.2 c hc2
  rw [minuteM_list]
  unfold MH at *
  rw [hu_o (by omega), hu_o (by omega)]
  exact this
/-- a minute: both sides go alike -/
theorem pass_eq (ht : isT tt) (hn : RN fl h g tt aa) (hh : RH h g tt) (hg : GI g aa) (ho : OrdOK h g (g 82 5).toNat) (hG : 0 ≤ g 82 1) : RN fl (passX h tt) (minuteM g aa) tt aa := by
  have hl := isT_lt ht
  obtain ⟨⟨ww, hi⟩, -⟩ := id hg
  have h8 := hi.2.1
  have hb := RR_begin ht hn hh hG
  have o2 : ∀ a c, a ≠ 98 → zero18 g a c = g a c := fun a c q => zero18_o 18 g a c q
  have z35 : ∀ j, zero9 (hu h 34 7 (clX h tt (h tt 13) (h tt 8).toNat)) 35 j = h 35 j := fun j => by rw [zero9_o _ _ _ (by omega), hu_o (by omega)]
  have hf := (fold_eq ht (flatL g (g 82 5).toNat) _ _ hb (GI_z hg) (fun p hp => by rw [o2 _ _ (by omega)]; have := flatL_mem hp; omega)).1
  have e1 : passX h tt = hu ((flatL g (g 82 5).toNat).foldl (fun x p => passP tt p x) (zero9 (hu h 34 7 (clX h tt (h tt 13) (h tt 8).toNat)))) tt 13 (h tt 13 + 1) := by
    unfold passX
    rw [passI_list ht, ← ho, hn.1.1]
    simp only [z35]
  rw [e1, minuteM_list]
  obtain ⟨⟨a1, a2, a3⟩, a4, ra, rc, rb⟩ := hf
  generalize (flatL g (g 82 5).toNat).foldl (fun x p => passP tt p x) (zero9 (hu h 34 7 (clX h tt (h tt 13) (h tt 8).toNat))) = x at *
  generalize (flatL g (g 82 5).toNat).foldl (fun x p => goP aa p x) (zero18 g) = y at *
  refine ⟨⟨by rw [hu_o (by omega), hu_o (by omega)]; exact a1, by rw [hu_o (by omega), hu_o (by omega)]; exact a2, by rw [hu_o (by omega), hu_o (by omega)]; exact a3⟩, by simp [hu, hn.2.1], fun c hc => ?_, fun hfl c hc => by rw [hu_o (by omega), hu_o (by omega)]; exact (rc c hc).2.2 hfl⟩
  rw [hu_o (by omega)] at hc
  obtain ⟨⟨b1, b2, b3, b4, b5, b6, b7⟩, b8, b9⟩ := ra c hc
  refine ⟨⟨?_, ?_, ?_, ?_, ?_, ?_, ?_⟩, ?_, fun hfl => ?_⟩ <;> rw [hu_o (by omega)]
  · rw [hu_o (by omega)]; exact b1
  · rw [hu_o (by omega)]; exact b2
  · rw [hu_o (by omega)]; exact b3
  · rw [hu_o (by omega)]; exact b4
  · rw [hu_o (by omega)]; exact b5
  · rw [hu_o (by omega)]; exact b6
  · rw [hu_o (by omega)]; exact b7
  · rw [hu_o (by omega), hu_o (by omega)]; exact b8
  · rw [hu_o (by omega)]; exact b9 hfl
end L3C
