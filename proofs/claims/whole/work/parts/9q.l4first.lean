section L4FIRST
theorem EB_0 : EB (hI 43) (hI 89) := fun c => ⟨(by show (0 : Int) = w8 0; decide), (by show (0 : Int) ≤ 0; decide), (by show (0 : Int) ≤ 255; decide)⟩
theorem INV_0 : INV 0 hI := by
  have n5 : ∀ c : Nat, ¬ (c : Int) < hI 82 5 := fun c => by show ¬ (c : Int) < 0; omega
  have n1 : ∀ c : Nat, ¬ (c : Int) < hI 82 1 := fun c => by show ¬ (c : Int) < 0; omega
  have n35 : ∀ c : Nat, ¬ (c : Int) < hI 82 35 := fun c => by show ¬ (c : Int) < 0; omega
  have n47 : ∀ c : Nat, ¬ (c : Int) < hI 82 47 := fun c => by show ¬ (c : Int) < 0; omega
  have z98 : ∀ j, 0 ≤ hI 98 j ∧ hI 98 j ≤ 1000 := fun j => by show (0 : Int) ≤ 0 ∧ (0 : Int) ≤ 1000; decide
  have z100 : ∀ j, 0 ≤ hI 100 j ∧ hI 100 j ≤ 2000000 * (((0 : Nat) : Int) + 1) := fun j => by show (0 : Int) ≤ 0 ∧ (0 : Int) ≤ 2000000 * (((0 : Nat) : Int) + 1); decide
  have bb : BB hI hI := by
    refine ⟨⟨by decide, by decide, by decide⟩, by decide, fun c hc => absurd hc (n5 c), fun c hc => absurd hc (n1 c), by decide, by decide, by decide, by decide, fun c hc => absurd hc (n5 c), fun c hc => absurd hc (n1 c), z98, ?_⟩
    exact ⟨0, fun j => by show (0 : Int) ≤ 0 ∧ (0 : Int) ≤ 0; decide⟩
  refine ⟨bb, ⟨fun j => (by show (0 : Int) ≤ 0 ∧ (0 : Int) ≤ 1000; decide), fun j => (by show (0 : Int) ≤ 0 ∧ (0 : Int) ≤ 1000; decide)⟩, by decide, by decide, z100, Or.inl ⟨by decide, by decide⟩, ⟨by decide, by decide, EB_0, by decide, by decide⟩, ⟨by decide, by decide, fun i m hi _ => absurd hi (n35 i)⟩, ?_, ?_, ⟨by decide, by decide, fun j hj => absurd hj (n47 j)⟩⟩
  · intro ss hs
    rcases (by omega : ss = 0 ∨ ss = 1 ∨ ss = 2 ∨ ss = 3) with rfl | rfl | rfl | rfl
    · refine ⟨by decide, by decide, fun q hq => ⟨rfl, ?_⟩⟩
      show (-2147483648 : Int) ≤ 0 ∧ (0 : Int) ≤ 2147483647
      decide
    · refine ⟨by decide, by decide, fun q hq => ⟨rfl, ?_⟩⟩
      show (-2147483648 : Int) ≤ 0 ∧ (0 : Int) ≤ 2147483647
      decide
    · refine ⟨by decide, by decide, fun q hq => ⟨rfl, ?_⟩⟩
      show (-2147483648 : Int) ≤ 0 ∧ (0 : Int) ≤ 2147483647
      decide
    · refine ⟨by decide, by decide, fun q hq => ⟨rfl, ?_⟩⟩
      show (-2147483648 : Int) ≤ 0 ∧ (0 : Int) ≤ 2147483647
      decide
  · intro v hv
    refine Or.inr (Or.inr ?_)
    rcases (by omega : v = 0 ∨ v = 1 ∨ v = 2 ∨ v = 3) with rfl | rfl | rfl | rfl
    · decide
    · decide
    · decide
    · decide
/-- a first number: 0, 1, or a small number at no boolean's place -/
theorem hI_v (k i : Nat) : hI k i = 0 ∨ hI k i = 1 ∨ (((sh k).1 = 1 ∨ ((sh k).1 = 0 ∧ (sh k).2.2.getD i 0 = 0)) ∧ -1 ≤ hI k i ∧ hI k i ≤ 2) := by
  by_cases k1 : k = 1
  · subst k1
    by_cases c : i = 12
    · subst c
      exact Or.inr (Or.inr ⟨Or.inr ⟨by decide +kernel, by decide +kernel⟩, by decide, by decide⟩)
    · by_cases c2 : i = 14
      · subst c2
        exact Or.inr (Or.inl (by decide))
      · refine Or.inl ?_
        show (if i = 12 then (2 : Int) else if i = 14 then 1 else 0) = 0
        rw [if_neg c, if_neg c2]
  by_cases k12 : k = 12
  · subst k12
    by_cases c : i = 12
    · subst c
      exact Or.inr (Or.inr ⟨Or.inr ⟨by decide +kernel, by decide +kernel⟩, by decide, by decide⟩)
    · by_cases c2 : i = 14
      · subst c2
        exact Or.inr (Or.inl (by decide))
      · refine Or.inl ?_
        show (if i = 12 then (2 : Int) else if i = 14 then 1 else 0) = 0
        rw [if_neg c, if_neg c2]
  by_cases k23 : k = 23
  · subst k23
    by_cases c : i = 12
    · subst c
      exact Or.inr (Or.inr ⟨Or.inr ⟨by decide +kernel, by decide +kernel⟩, by decide, by decide⟩)
    · by_cases c2 : i = 14
      · subst c2
        exact Or.inr (Or.inl (by decide))
      · refine Or.inl ?_
        show (if i = 12 then (2 : Int) else if i = 14 then 1 else 0) = 0
        rw [if_neg c, if_neg c2]
  by_cases k67 : k = 67
  · subst k67
    by_cases c : i = 0
    · subst c
      exact Or.inr (Or.inr ⟨Or.inr ⟨by decide +kernel, by decide +kernel⟩, by decide, by decide⟩)
    · refine Or.inl ?_
      show (if i = 0 then (-1 : Int) else 0) = 0
      rw [if_neg c]
  by_cases k69 : k = 69
  · subst k69
    by_cases c : i = 0
    · subst c
      exact Or.inr (Or.inr ⟨Or.inr ⟨by decide +kernel, by decide +kernel⟩, by decide, by decide⟩)
    · refine Or.inl ?_
      show (if i = 0 then (-1 : Int) else 0) = 0
      rw [if_neg c]
  by_cases k71 : k = 71
  · subst k71
    by_cases c : i = 0
    · subst c
      exact Or.inr (Or.inr ⟨Or.inr ⟨by decide +kernel, by decide +kernel⟩, by decide, by decide⟩)
    · refine Or.inl ?_
      show (if i = 0 then (-1 : Int) else 0) = 0
      rw [if_neg c]
  by_cases k73 : k = 73
  · subst k73
    by_cases c : i = 0
    · subst c
      exact Or.inr (Or.inr ⟨Or.inr ⟨by decide +kernel, by decide +kernel⟩, by decide, by decide⟩)
    · refine Or.inl ?_
      show (if i = 0 then (-1 : Int) else 0) = 0
      rw [if_neg c]
  by_cases k76 : k = 76
  · subst k76
    by_cases c : i = 0
    · subst c
      exact Or.inr (Or.inr ⟨Or.inr ⟨by decide +kernel, by decide +kernel⟩, by decide, by decide⟩)
    · refine Or.inl ?_
      show (if i = 0 then (2 : Int) else 0) = 0
      rw [if_neg c]
  by_cases k77 : k = 77
  · subst k77
    by_cases c : i = 0
    · subst c
      exact Or.inr (Or.inr ⟨Or.inr ⟨by decide +kernel, by decide +kernel⟩, by decide, by decide⟩)
    · refine Or.inl ?_
      show (if i = 0 then (2 : Int) else 0) = 0
      rw [if_neg c]
  by_cases k78 : k = 78
  · subst k78
    by_cases c : i = 0
    · subst c
      exact Or.inr (Or.inr ⟨Or.inr ⟨by decide +kernel, by decide +kernel⟩, by decide, by decide⟩)
    · refine Or.inl ?_
      show (if i = 0 then (2 : Int) else 0) = 0
      rw [if_neg c]
  by_cases k79 : k = 79
  · subst k79
    by_cases c : i = 0
    · subst c
      exact Or.inr (Or.inr ⟨Or.inr ⟨by decide +kernel, by decide +kernel⟩, by decide, by decide⟩)
    · refine Or.inl ?_
      show (if i = 0 then (2 : Int) else 0) = 0
      rw [if_neg c]
  by_cases k82 : k = 82
  · subst k82
    by_cases c : i = 0
    · subst c
      exact Or.inr (Or.inr ⟨Or.inr ⟨by decide +kernel, by decide +kernel⟩, by decide, by decide⟩)
    · by_cases c2 : i = 10
      · subst c2
        exact Or.inr (Or.inl (by decide))
      · refine Or.inl ?_
        show (if i = 0 then (2 : Int) else if i = 10 then 1 else 0) = 0
        rw [if_neg c, if_neg c2]
  by_cases k103 : k = 103
  · subst k103
    by_cases c : i < 4
    · refine Or.inr (Or.inr ⟨Or.inl (by decide +kernel), ?_⟩)
      show -1 ≤ (if i < 4 then (-1 : Int) else 0) ∧ (if i < 4 then (-1 : Int) else 0) ≤ 2
      rw [if_pos c]
      decide
    · refine Or.inl ?_
      show (if i < 4 then (-1 : Int) else 0) = 0
      rw [if_neg c]
  by_cases k106 : k = 106
  · subst k106
    by_cases c : i < 4
    · refine Or.inr (Or.inr ⟨Or.inl (by decide +kernel), ?_⟩)
      show -1 ≤ (if i < 4 then (-1 : Int) else 0) ∧ (if i < 4 then (-1 : Int) else 0) ≤ 2
      rw [if_pos c]
      decide
    · refine Or.inl ?_
      show (if i < 4 then (-1 : Int) else 0) = 0
      rw [if_neg c]
  refine Or.inl ?_
  unfold hI
  split <;> first | rfl | omega
theorem Hok_0 : Hok hI := by
  intro k i
  unfold slOk R32 R64
  rcases hI_v k i with q | q | ⟨q, q1, q2⟩
  · rw [q]
    (repeat' split) <;> omega
  · rw [q]
    (repeat' split) <;> omega
  · generalize hI k i = z at q1 q2
    split
    · omega
    · split
      · omega
      · split
        · next z1 z2 z3 =>
          exfalso
          rcases q with q | ⟨q, q3⟩
          · rw [q] at z3
            exact absurd z3.1 (by decide)
          · rw [q3] at z3
            exact absurd z3.2 (by decide)
        · omega
/-- all that a cell refers to lies among the first N -/
def refB (k N : Nat) : Bool := match (sh k).1 with
  | 0 => (sh k).2.2.all (fun c => decide (c < N + 3))
  | 1 => true
  | 2 => true
  | 3 => true
  | _ => (List.range (sh k).2.1).all (fun i => decide ((sh k).2.2.getD 0 0 + (sh k).2.2.getD 1 0 * i < N))
theorem cellG_loc {G G' : GD} {h : AH} {k N : Nat} (e : ∀ j, j < N → G.2.1 j = G'.2.1 j) (ef : G.2.2 = G'.2.2) (hk : refB k N = true) : cellG G h k = cellG G' h k := by
  unfold refB at hk
  unfold cellG
  rw [ef]
  split at hk
  · next q =>
    rw [q]
    show (Sum.inr ((sh k).2.1, (sh k).2.2.mapIdx (fun i c => rv G (fv h k i c))) : va_E) = Sum.inr ((sh k).2.1, (sh k).2.2.mapIdx (fun i c => rv G' (fv h k i c)))
    congr 2
    apply List.ext_getElem?
    intro i
    rw [List.getElem?_mapIdx, List.getElem?_mapIdx]
    cases hc : (sh k).2.2[i]? with
    | none => rfl
    | some c =>
      have hlt : c < N + 3 := of_decide_eq_true (List.all_eq_true.mp hk c (List.mem_of_getElem? hc))
      match c, hlt with
      | 0, _ => rfl
      | 1, _ => rfl
      | 2, _ => rfl
      | t + 3, hlt =>
        show some (Value.ref (G.2.1 t)) = some (Value.ref (G'.2.1 t))
        rw [e t (by omega)]
  · next q => rw [q]; rfl
  · next q => rw [q]; rfl
  · next q => rw [q]; rfl
  · next q0 q1 q2 q3 =>
    have e2 : (fun i => if i < (sh k).2.1 then some (G.2.1 ((sh k).2.2.getD 0 0 + (sh k).2.2.getD 1 0 * i)) else none) = (fun i => if i < (sh k).2.1 then some (G'.2.1 ((sh k).2.2.getD 0 0 + (sh k).2.2.getD 1 0 * i)) else none) := by
      funext i
      by_cases hi : i < (sh k).2.1
      · rw [if_pos hi, if_pos hi, e _ (of_decide_eq_true (List.all_eq_true.mp hk i (List.mem_range.mpr hi)))]
      · rw [if_neg hi, if_neg hi]
    split
    · next q => exact absurd q (by assumption)
    · next q => exact absurd q (by assumption)
    · next q => exact absurd q (by assumption)
    · next q => exact absurd q (by assumption)
    · rw [e2]
/-- where all lies: the class' cells, the model's, the strings, their bytes, the table -/
def adrN (ad : List Nat) (a2 : Nat) (qs : List Nat) (adK adV : Nat → Nat) (t : Nat) : Nat → Nat := fun k => if k < 82 then ad.getD k 0 else if k = 82 then a2 else if k < 112 then qs.getD (k - 83) 0 else if k < 1100 then adK (k - 1000) else if k < 2000 then adV (k - 1100) else t
theorem upn4 : upd (upd (upd (upd (fun _ => 0) (Int32.ofInt 0).toNatClampNeg (Int32.ofInt (-1))) (Int32.ofInt 1).toNatClampNeg (Int32.ofInt (-1))) (Int32.ofInt 2).toNatClampNeg (Int32.ofInt (-1))) (Int32.ofInt 3).toNatClampNeg (Int32.ofInt (-1)) = (fun i => Int32.ofInt (if i < 4 then (-1 : Int) else 0)) := by
  funext i
  have e0 : (Int32.ofInt 0).toNatClampNeg = 0 := by decide
  have e1 : (Int32.ofInt 1).toNatClampNeg = 1 := by decide
  have e2 : (Int32.ofInt 2).toNatClampNeg = 2 := by decide
  have e3 : (Int32.ofInt 3).toNatClampNeg = 3 := by decide
  rw [e0, e1, e2, e3]
  unfold upd
  by_cases c3 : i = 3
  · subst c3; rfl
  by_cases c2 : i = 2
  · subst c2; rfl
  by_cases c1 : i = 1
  · subst c1; rfl
  by_cases c0 : i = 0
  · subst c0; rfl
  rw [if_neg c3, if_neg c2, if_neg c1, if_neg c0, if_neg (by omega)]
  show (0 : Int32) = Int32.ofInt 0
  decide
def mapFrom (f : Nat → Nat → Value) : Nat → List Nat → List Value
  | _, [] => []
  | i, c :: l => f i c :: mapFrom f (i + 1) l
theorem mapFrom_ix (f : Nat → Nat → Value) : ∀ (l : List Nat) (i : Nat), l.mapIdx (fun j c => f (i + j) c) = mapFrom f i l
  | [], i => rfl
  | c :: l, i => by
    rw [List.mapIdx_cons]
    show f i c :: l.mapIdx (fun j c => f (i + (j + 1)) c) = f i c :: mapFrom f (i + 1) l
    have e : (fun j c => f (i + (j + 1)) c) = (fun j c => f (i + 1 + j) c) := by
      funext j c
      rw [show i + (j + 1) = i + 1 + j by omega]
    rw [e, mapFrom_ix f l (i + 1)]
theorem cell_obj {G : GD} {k n : Nat} {cs : List Nat} (hs : sh k = (0, n, cs)) : cellG G hI k = .inr (n, mapFrom (fun i c => rv G (fv hI k i c)) 0 cs) := by
  have h1 : (sh k).1 = 0 := by rw [hs]
  have h2 := mapFrom_ix (fun i c => rv G (fv hI k i c)) cs 0
  simp only [Nat.zero_add] at h2
  rw [cellG_0 h1, hs]
  show (Sum.inr (n, cs.mapIdx (fun i c => rv G (fv hI k i c))) : va_E) = _
  rw [h2]
theorem cell_int {G : GD} {k n : Nat} (hs : sh k = (1, n, [])) (h3 : ∀ i, hI k i = 0) : cellG G hI k = .inl (G.2.2 1, n, .inl (fun _ => 0)) := by
  have h1 : (sh k).1 = 1 := by rw [hs]
  have e : (fun i => Int32.ofInt (hI k i)) = (fun _ => (0 : Int32)) := by
    funext i
    rw [h3]
    decide
  rw [cellG_1 h1, hs, e]
theorem cell_byte {G : GD} {k n : Nat} (hs : sh k = (2, n, [])) (h3 : ∀ i, hI k i = 0) : cellG G hI k = .inl (G.2.2 2, n, .inl (fun _ => 0)) := by
  have h1 : (sh k).1 = 2 := by rw [hs]
  have e : (fun i => Int32.ofInt (hI k i)) = (fun _ => (0 : Int32)) := by
    funext i
    rw [h3]
    decide
  rw [cellG_2 h1, hs, e]
theorem cell_long {G : GD} {k n : Nat} (hs : sh k = (3, n, [])) (h3 : ∀ i, hI k i = 0) : cellG G hI k = .inl (G.2.2 3, n, .inr (.inl (fun _ => 0))) := by
  have h1 : (sh k).1 = 3 := by rw [hs]
  have e : (fun i => Int64.ofInt (hI k i)) = (fun _ => (0 : Int64)) := by
    funext i
    rw [h3]
    decide
  rw [cellG_3 h1, hs, e]
theorem cell_neg {G : GD} {k n : Nat} (hs : sh k = (1, n, [])) (h3 : ∀ i, hI k i = if i < 4 then -1 else 0) : cellG G hI k = .inl (G.2.2 1, n, .inl (fun i => Int32.ofInt (if i < 4 then (-1 : Int) else 0))) := by
  have h1 : (sh k).1 = 1 := by rw [hs]
  have e : (fun i => Int32.ofInt (hI k i)) = (fun i => Int32.ofInt (if i < 4 then (-1 : Int) else 0)) := by
    funext i
    rw [h3]
  rw [cellG_1 h1, hs, e]
variable {D : va_G} {ff : Nat → ClassId} {ad qs : List Nat} {a2 t : Nat} {adK adV : Nat → Nat}
theorem mod_at : ∀ k ∈ List.range 30, (modC ff a2 qs)[k]? = some (adrN ad a2 qs adK adV t (82 + k), cellG (D, adrN ad a2 qs adK adV t, ff) hI (82 + k)) := by
  show ∀ k ∈ [0, 1, 2, 3, 4, 5, 6, 7, 8, 9, 10, 11, 12, 13, 14, 15, 16, 17, 18, 19, 20, 21, 22, 23, 24, 25, 26, 27, 28, 29], (modC ff a2 qs)[k]? = some (adrN ad a2 qs adK adV t (82 + k), cellG (D, adrN ad a2 qs adK adV t, ff) hI (82 + k))
  exact List.forall_mem_cons.mpr ⟨(by rw [cell_obj (k := 82 + 0) (show sh (82 + 0) = (0, 7, [0, 0, 86, 87, 88, 0, 89, 90, 91, 0, 0, 92, 0, 0, 0, 0, 1, 0, 2, 0, 0, 0, 93, 94, 95, 96, 97, 98, 99, 100, 101, 102, 103, 104, 105, 0, 0, 106, 107, 108, 109, 110, 111, 0, 0, 0, 112, 0, 2, 2, 113, 0, 114]) by decide +kernel)]; rfl), List.forall_mem_cons.mpr ⟨(by rw [cell_int (k := 82 + 1) (show sh (82 + 1) = (1, 5, []) by decide +kernel) (fun i => rfl)]; rfl), List.forall_mem_cons.mpr ⟨(by rw [cell_int (k := 82 + 2) (show sh (82 + 2) = (1, 5, []) by decide +kernel) (fun i => rfl)]; rfl), List.forall_mem_cons.mpr ⟨(by rw [cell_int (k := 82 + 3) (show sh (82 + 3) = (1, 5, []) by decide +kernel) (fun i => rfl)]; rfl), List.forall_mem_cons.mpr ⟨(by rw [cell_int (k := 82 + 4) (show sh (82 + 4) = (1, 8, []) by decide +kernel) (fun i => rfl)]; rfl), List.forall_mem_cons.mpr ⟨(by rw [cell_int (k := 82 + 5) (show sh (82 + 5) = (1, 8, []) by decide +kernel) (fun i => rfl)]; rfl), List.forall_mem_cons.mpr ⟨(by rw [cell_int (k := 82 + 6) (show sh (82 + 6) = (1, 82, []) by decide +kernel) (fun i => rfl)]; rfl), List.forall_mem_cons.mpr ⟨(by rw [cell_int (k := 82 + 7) (show sh (82 + 7) = (1, 240, []) by decide +kernel) (fun i => rfl)]; rfl), List.forall_mem_cons.mpr ⟨(by rw [cell_int (k := 82 + 8) (show sh (82 + 8) = (1, 8, []) by decide +kernel) (fun i => rfl)]; rfl), List.forall_mem_cons.mpr ⟨(by rw [cell_int (k := 82 + 9) (show sh (82 + 9) = (1, 8, []) by decide +kernel) (fun i => rfl)]; rfl), List.forall_mem_cons.mpr ⟨(by rw [cell_int (k := 82 + 10) (show sh (82 + 10) = (1, 8, []) by decide +kernel) (fun i => rfl)]; rfl), List.forall_mem_cons.mpr ⟨(by rw [cell_int (k := 82 + 11) (show sh (82 + 11) = (1, 8, []) by decide +kernel) (fun i => rfl)]; rfl), List.forall_mem_cons.mpr ⟨(by rw [cell_int (k := 82 + 12) (show sh (82 + 12) = (1, 8, []) by decide +kernel) (fun i => rfl)]; rfl), List.forall_mem_cons.mpr ⟨(by rw [cell_int (k := 82 + 13) (show sh (82 + 13) = (1, 4, []) by decide +kernel) (fun i => rfl)]; rfl), List.forall_mem_cons.mpr ⟨(by rw [cell_int (k := 82 + 14) (show sh (82 + 14) = (1, 4, []) by decide +kernel) (fun i => rfl)]; rfl), List.forall_mem_cons.mpr ⟨(by rw [cell_int (k := 82 + 15) (show sh (82 + 15) = (1, 4, []) by decide +kernel) (fun i => rfl)]; rfl), List.forall_mem_cons.mpr ⟨(by rw [cell_int (k := 82 + 16) (show sh (82 + 16) = (1, 18, []) by decide +kernel) (fun i => rfl)]; rfl), List.forall_mem_cons.mpr ⟨(by rw [cell_int (k := 82 + 17) (show sh (82 + 17) = (1, 9, []) by decide +kernel) (fun i => rfl)]; rfl), List.forall_mem_cons.mpr ⟨(by rw [cell_int (k := 82 + 18) (show sh (82 + 18) = (1, 8, []) by decide +kernel) (fun i => rfl)]; rfl), List.forall_mem_cons.mpr ⟨(by rw [cell_int (k := 82 + 19) (show sh (82 + 19) = (1, 60, []) by decide +kernel) (fun i => rfl)]; rfl), List.forall_mem_cons.mpr ⟨(by rw [cell_int (k := 82 + 20) (show sh (82 + 20) = (1, 60, []) by decide +kernel) (fun i => rfl)]; rfl), List.forall_mem_cons.mpr ⟨(by rw [cell_neg (k := 82 + 21) (show sh (82 + 21) = (1, 4, []) by decide +kernel) (fun i => rfl), ← upn4]; rfl), List.forall_mem_cons.mpr ⟨(by rw [cell_int (k := 82 + 22) (show sh (82 + 22) = (1, 4, []) by decide +kernel) (fun i => rfl)]; rfl), List.forall_mem_cons.mpr ⟨(by rw [cell_long (k := 82 + 23) (show sh (82 + 23) = (3, 160, []) by decide +kernel) (fun i => rfl)]; rfl), List.forall_mem_cons.mpr ⟨(by rw [cell_neg (k := 82 + 24) (show sh (82 + 24) = (1, 4, []) by decide +kernel) (fun i => rfl), ← upn4]; rfl), List.forall_mem_cons.mpr ⟨(by rw [cell_int (k := 82 + 25) (show sh (82 + 25) = (1, 4, []) by decide +kernel) (fun i => rfl)]; rfl), List.forall_mem_cons.mpr ⟨(by rw [cell_int (k := 82 + 26) (show sh (82 + 26) = (1, 4, []) by decide +kernel) (fun i => rfl)]; rfl), List.forall_mem_cons.mpr ⟨(by rw [cell_int (k := 82 + 27) (show sh (82 + 27) = (1, 30, []) by decide +kernel) (fun i => rfl)]; rfl), List.forall_mem_cons.mpr ⟨(by rw [cell_int (k := 82 + 28) (show sh (82 + 28) = (1, 80, []) by decide +kernel) (fun i => rfl)]; rfl), List.forall_mem_cons.mpr ⟨(by rw [cell_int (k := 82 + 29) (show sh (82 + 29) = (1, 4, []) by decide +kernel) (fun i => rfl)]; rfl), fun _ h => absurd h List.not_mem_nil⟩⟩⟩⟩⟩⟩⟩⟩⟩⟩⟩⟩⟩⟩⟩⟩⟩⟩⟩⟩⟩⟩⟩⟩⟩⟩⟩⟩⟩⟩
theorem ref_82 : ∀ k ∈ List.range 82, refB k 82 = true := by decide +kernel
theorem ws_at : (List.range 82).map (fun k => (ad.getD k 0, cellG (D, fun k => ad.getD k 0, ff) hI k)) ++ modC ff a2 qs = wsG (D, adrN ad a2 qs adK adV t, ff) hI := by
  have hl : ((List.range 82).map (fun k => (ad.getD k 0, cellG (D, fun k => ad.getD k 0, ff) hI k))).length = 82 := by rw [List.length_map, List.length_range]
  apply List.ext_getElem?
  intro k
  by_cases h1 : k < 82
  · rw [List.getElem?_append_left (by rw [hl]; exact h1), wsG_at _ _ (show k < 112 by omega), List.getElem?_map, List.getElem?_range h1]
    show some (ad.getD k 0, cellG (D, fun k => ad.getD k 0, ff) hI k) = some (adrN ad a2 qs adK adV t k, cellG (D, adrN ad a2 qs adK adV t, ff) hI k)
    have e1 : ∀ j, j < 82 → ad.getD j 0 = adrN ad a2 qs adK adV t j := fun j hj => by unfold adrN; rw [if_pos hj]
    rw [cellG_loc (G := (D, fun k => ad.getD k 0, ff)) (G' := (D, adrN ad a2 qs adK adV t, ff)) e1 rfl (ref_82 k (List.mem_range.mpr h1)), e1 k h1]
  · by_cases h2 : k < 112
    · rw [List.getElem?_append_right (by rw [hl]; omega), hl, wsG_at _ _ h2]
      have := mod_at (D := D) (ff := ff) (ad := ad) (qs := qs) (a2 := a2) (t := t) (adK := adK) (adV := adV) (k - 82) (List.mem_range.mpr (by omega))
      rw [show 82 + (k - 82) = k by omega] at this
      exact this
    · rw [List.getElem?_eq_none (by rw [List.length_append, hl]; show 82 + 30 ≤ k; omega), List.getElem?_eq_none (by simp [wsG]; show 112 ≤ k; omega)]
end L4FIRST
