section L3E
variable {h g : AH} {fl : Prop} {tt aa : Nat}
def R7 (h g : AH) (tt aa : Nat) : Prop := ∀ c : Nat, (c : Int) < g 82 5 → (h (tt + 1) c = g 86 c ∧ h (tt + 2) c = g 87 c ∧ h (tt + 3) c = g 88 (aa + 1 + c) ∧ h (tt + 4) c = g 88 (aa + 9 + c) ∧ h (tt + 5) c = g 88 (aa + 17 + c) ∧ h (tt + 6) c = g 88 (aa + 25 + c) ∧ h (tt + 7) c = orN (g 88 (aa + 33 + c)))
def KK (g : AH) : Prop := ∀ c : Nat, (c : Int) < g 82 5 → (0 ≤ g 86 c ∧ g 86 c ≤ 5) ∧ (0 ≤ g 87 c ∧ g 87 c ≤ 9)
theorem rk_r {k a : Int} (ha : 0 ≤ a ∧ a ≤ 9) : 0 ≤ rankF k a ∧ rankF k a ≤ 14 := by
  have : w32 (5 + a) = 5 + a := w32_id (by omega) (by omega)
  unfold rankF
  rw [this]
  (repeat' split) <;> omega
theorem zero41_v : ∀ (n : Nat) (h : AH) (c : Nat), forN (fun f h => hu h 41 f 0) n h 41 c = if c < n then 0 else h 41 c
  | 0, _, _ => rfl
  | n + 1, h, c => by
    have i1 := zero41_v n h c
    have e0 : forN (fun f h => hu h 41 f 0) (n + 1) h = hu (forN (fun f h => hu h 41 f 0) n h) 41 n 0 := rfl
    rw [e0]
    simp only [hu_ap, true_and, i1]
    (repeat' split) <;> omega
theorem ready_eq (ht : isT tt) (hs : RS h g tt) (hm : h tt 13 = g 88 aa) (h7 : R7 h g tt aa) (hP : 0 ≤ g 82 5 ∧ g 82 5 ≤ 8) (hk : KK g) (hfl : fl → (∀ c : Nat, (c : Int) < g 82 5 → g 100 c = 0) ∧ (∀ c : Nat, c < 9 → g 99 c = 0)) : RN fl (readyX h tt) g tt aa ∧ OrdOK (readyX h tt) g (g 82 5).toNat ∧ readyX h tt 34 8 = cntX (readyX h tt) tt (g 82 5).toNat := by
  have hl := isT_lt ht
  obtain ⟨a1, a2, a3⟩ := hs
  have o1 : ∀ c, readyX h tt tt c = h tt c := fun c => ready_o _ _ (by omega)
  have m : ∀ a c, a ≠ 41 → readyX h tt a c = forN (readyI tt) (h tt 0).toNat (hu h 34 8 0) a c := fun a c q => forN_o (P := fun a => a ≠ 41) (fun n h a b q => by simp only [hu_ap]; rw [if_neg (by omega)]) 9 _ a c q
  obtain ⟨v1, v2, v3⟩ := ready_v (h := h) (g := g) (fun c hc => by
    obtain ⟨b1, b2, -⟩ := h7 c (by omega)
    rw [b1, b2]; rfl) ht (h tt 0).toNat (by omega)
  rw [a1] at v1 v2 v3 m
  refine ⟨⟨⟨by rw [o1]; exact a1, by rw [o1]; exact a2, by rw [o1]; exact a3⟩, by rw [o1]; exact hm, fun c hc => ?_, fun q c hc => ?_⟩, ?_, ?_⟩
  · obtain ⟨b1, b2, b3, b4, b5, b6, b7⟩ := h7 c hc
    obtain ⟨-, w2, w3⟩ := v2 c (by omega)
    refine ⟨⟨?_, ?_, ?_, ?_, ?_, ?_, ?_⟩, ?_, fun q => ?_⟩
    · rw [ready_o _ _ (by omega)]; exact b1
    · rw [ready_o _ _ (by omega)]; exact b2
    · rw [ready_o _ _ (by omega)]; exact b3
    · rw [ready_o _ _ (by omega)]; exact b4
    · rw [ready_o _ _ (by omega)]; exact b5
    · rw [ready_o _ _ (by omega)]; exact b6
    · rw [ready_o _ _ (by omega)]; exact b7
    · rw [m _ _ (by omega), w2, b1, b2]
    · rw [m _ _ (by omega), w3, (hfl q).1 c hc]
  · have := zero41_v 9 (forN (readyI tt) (h tt 0).toNat (hu h 34 8 0)) c
    rw [if_pos hc] at this
    rw [(hfl q).2 c hc]
    exact this
  · refine SO_ord ?_ (fun p hp => rk_r (hk p (by omega)).2)
    unfold SO at *
    simp only [m 35 _ (show 35 ≠ 41 by omega)]
    exact v1
  · rw [m _ _ (by omega), v3]
    exact (cntX_congr _ (fun c hc => ready_o _ _ (by omega))).symm
theorem goX_arr {p : Nat} (ht : isT tt) : (goX h tt p (tt + 7) p = h (tt + 7) p ∧ goX h tt p 34 8 = h 34 8) ∨ (goX h tt p (tt + 7) p = h tt 13 ∧ goX h tt p 34 8 = h 34 8 - 1) := by
  have hl := isT_lt ht
  have key : ∀ x : AH, x (tt + 7) p = h (tt + 7) p → x 34 8 = h 34 8 → x tt 13 = h tt 13 → (goE x tt p (tt + 7) p = h (tt + 7) p ∧ goE x tt p 34 8 = h 34 8) ∨ (goE x tt p (tt + 7) p = h tt 13 ∧ goE x tt p 34 8 = h 34 8 - 1) := fun x e1 e2 e3 => by
    unfold goE
    split
    · right
      refine ⟨?_, by simp [hu, e2]⟩
      rw [hu_o (by omega)]; simp [hu, e3]
    · left; exact ⟨e1, e2⟩
  unfold goX
  split
  · exact key _ rfl rfl rfl
  · exact key _ (by rw [goW_o _ _ _ _ (by omega), goL_o _ _ _ _ (by omega)]) (by rw [goW_o _ _ _ _ (by omega), goL_o _ _ _ _ (by omega)]) (by rw [goW_o _ _ _ _ (by omega), goL_o _ _ _ _ (by omega)])
theorem passP_cnt {p n : Nat} (ht : isT tt) (hp : p < n) (hm : ¬ h tt 13 = -9) : passP tt p h 34 8 - cntX (passP tt p h) tt n = h 34 8 - cntX h tt n ∧ passP tt p h tt 13 = h tt 13 := by
  have hl := isT_lt ht
  unfold passP
  split
  · next q =>
    refine ⟨?_, goX_o ht _ _ (by omega)⟩
    rw [cntX_upd n (h := h) (fun c hc => goX_p ht _ _ (by omega) hc) hp, if_pos q.1]
    rcases goX_arr (h := h) (p := p) ht with e | e
    · rw [e.1, e.2, if_pos q.1]; omega
    · rw [e.1, e.2, if_neg hm]; omega
  · exact ⟨rfl, rfl⟩
theorem fold_cnt {n : Nat} (ht : isT tt) : ∀ (L : List Nat) (h : AH), (∀ p ∈ L, p < n) → ¬ h tt 13 = -9 → L.foldl (fun x p => passP tt p x) h 34 8 - cntX (L.foldl (fun x p => passP tt p x) h) tt n = h 34 8 - cntX h tt n
  | [], _, _, _ => rfl
  | p :: L, h, hL, hm => by
    obtain ⟨e1, e2⟩ := passP_cnt (n := n) ht (hL p (by simp)) hm
    have := fold_cnt ht L (passP tt p h) (fun q hq => hL q (by simp [hq])) (by rw [e2]; exact hm)
    show L.foldl (fun x p => passP tt p x) (passP tt p h) 34 8 - _ = _
    rw [← e1]; exact this
theorem passX_list (ht : isT tt) (e : h tt 0 = g 82 5) (ho : OrdOK h g (g 82 5).toNat) : passX h tt = hu ((flatL g (g 82 5).toNat).foldl (fun x p => passP tt p x) (zero9 (hu h 34 7 (clX h tt (h tt 13) (h tt 8).toNat)))) tt 13 (h tt 13 + 1) := by
  have hl := isT_lt ht
  have z35 : ∀ j, zero9 (hu h 34 7 (clX h tt (h tt 13) (h tt 8).toNat)) 35 j = h 35 j := fun j => by rw [zero9_o _ _ _ (by omega), hu_o (by omega)]
  unfold passX
  rw [passI_list ht, ← ho, e]
  simp only [z35]
theorem passX_cnt (ht : isT tt) (e : h tt 0 = g 82 5) (ho : OrdOK h g (g 82 5).toNat) (hm : 0 ≤ h tt 13) (hc : h 34 8 = cntX h tt (g 82 5).toNat) : passX h tt 34 8 = cntX (passX h tt) tt (g 82 5).toNat := by
  have hl := isT_lt ht
  have o1 : ∀ a c, a ≠ 39 ∧ a ≠ 40 ∧ (a ≠ 34 ∨ c ≠ 7) → zero9 (hu h 34 7 (clX h tt (h tt 13) (h tt 8).toNat)) a c = h a c := fun a c q => by rw [zero9_o _ _ _ (by omega), hu_o (by omega)]
  have key := fold_cnt (n := (g 82 5).toNat) ht (flatL g (g 82 5).toNat) (zero9 (hu h 34 7 (clX h tt (h tt 13) (h tt 8).toNat))) (fun p hp => flatL_mem hp) (by rw [o1 _ _ (by omega)]; omega)
  rw [passX_list ht e ho]
  rw [o1 _ _ (by omega), cntX_congr (h := h) (h' := zero9 (hu h 34 7 (clX h tt (h tt 13) (h tt 8).toNat))) _ (fun c _ => o1 _ _ (by omega)), hc] at key
  generalize (flatL g (g 82 5).toNat).foldl (fun x p => passP tt p x) (zero9 (hu h 34 7 (clX h tt (h tt 13) (h tt 8).toNat))) = x at key ⊢
  rw [hu_o (by omega), cntX_congr (h := x) _ (fun c _ => hu_o (by omega))]
  omega
/-- all that a trial keeps from minute to minute -/
def TI (fl : Prop) (h g : AH) (tt aa : Nat) : Prop := RN fl h g tt aa ∧ RH h g tt ∧ GI g aa ∧ OrdOK h g (g 82 5).toNat ∧ 0 ≤ g 82 1 ∧ h 34 8 = cntX h tt (g 82 5).toNat
theorem flatL_congr {g' : AH} (e : ∀ x c, (x = 86 ∨ x = 87) → g' x c = g x c) (n : Nat) : flatL g' n = flatL g n := by
  unfold flatL
  have : rowL g' n = rowL g n := by
    funext r
    unfold rowL rkM
    simp only [e 86 _ (by omega), e 87 _ (by omega)]
  rw [this]
theorem TI_pass (ht : isT tt) (hi : TI fl h g tt aa) (hm : g 88 aa < 120) : TI fl (passX h tt) (minuteM g aa) tt aa := by
  have hl := isT_lt ht
  obtain ⟨i1, i2, i3, i4, i5, i6⟩ := hi
  obtain ⟨⟨ww, mi⟩, -⟩ := id i3
  have h8 := mi.2.1
  have h5 := mi.2.2.2.2
  have o : ∀ x c, x ≠ 98 ∧ x ≠ 99 ∧ x ≠ 100 ∧ x ≠ 88 → minuteM g aa x c = g x c := fun x c q => minuteM_o h8 x c (by omega)
  refine ⟨pass_eq ht i1 i2 i3 i4 i5, fun c hc => ?_, GI_minute i3 hm, ?_, by rw [o _ _ (by omega)]; exact i5, ?_⟩
  · rw [o _ _ (by omega)] at hc
    rw [passX_o ht _ _ (by omega), passX_o ht _ _ (by omega), passX_o ht _ _ (by omega), o _ _ (by omega), o _ _ (by omega), o _ _ (by omega)]
    exact i2 c hc
  · unfold OrdOK
    rw [o _ _ (by omega), flatL_congr (g := g) (fun x c q => o x c (by omega)), ← i4]
    have : ∀ j, passX h tt 35 j = h 35 j := fun j => passX_o ht _ _ (by omega)
    simp only [this]
  · rw [o _ _ (by omega)]
    exact passX_cnt ht i1.1.1 i4 (by rw [i1.2.1]; omega) i6
theorem quiet_fold (x c : Nat) : ∀ (L : List Nat) (g : AH), (∀ p ∈ L, 0 ≤ g 88 (aa + 33 + p)) → L.foldl (fun x p => goP aa p x) g x c = g x c
  | [], _, _ => rfl
  | p :: L, g, hL => by
    have e : goP aa p g = g := by unfold goP; rw [if_neg (fun z => by have := hL p (by simp); omega)]
    show L.foldl (fun x p => goP aa p x) (goP aa p g) x c = _
    rw [e]
    exact quiet_fold x c L g (fun q hq => hL q (by simp [hq]))
theorem quiet_minute (ha : ∀ c : Nat, (c : Int) < g 82 5 → 0 ≤ g 88 (aa + 33 + c)) (x c : Nat) (hx : x ≠ 98 ∧ (x ≠ 88 ∨ c ≠ aa)) : minuteM g aa x c = g x c := by
  have o2 : ∀ a c, a ≠ 98 → zero18 g a c = g a c := fun a c q => zero18_o 18 g a c q
  rw [minuteM_list, hu_o (by omega), quiet_fold x c _ _ (fun p hp => by rw [o2 _ _ (by omega)]; exact ha p (by have := flatL_mem hp; omega))]
  exact o2 x c hx.1
theorem quiet_go (x c : Nat) (hx : x ≠ 98 ∧ (x ≠ 88 ∨ c ≠ aa)) : ∀ (k : Nat) (g : AH), (∀ c : Nat, (c : Int) < g 82 5 → 0 ≤ g 88 (aa + 33 + c)) → goMo aa k g x c = g x c
  | 0, _, _ => rfl
  | k + 1, g, ha => by
    unfold goMo
    split
    · rw [quiet_go x c hx k _ (fun d hd => ?_), quiet_minute ha x c hx]
      rw [quiet_minute ha _ _ (by omega)] at hd
      rw [quiet_minute ha _ _ (by omega)]
      exact ha d hd
    · rfl
def RQ (fl : Prop) (h g : AH) (tt aa : Nat) : Prop := RS h g tt ∧ RA fl h g tt aa ∧ (fl → ∀ c : Nat, c < 9 → h 41 c = g 99 c)
theorem try_eq (ht : isT tt) : ∀ (k : Nat) (h g : AH), TI fl h g tt aa → g 88 aa + k ≤ 120 → RQ fl (tryL tt k h) (goMo aa k g) tt aa
  | 0, h, g, hi, _ => ⟨hi.1.1, hi.1.2.2.1, hi.1.2.2.2⟩
  | k + 1, h, g, hi, hk => by
    unfold tryL
    split
    · unfold goMo
      rw [if_pos (by omega)]
      exact try_eq ht k _ _ (TI_pass ht hi (by omega)) (by rw [minuteM_m]; omega)
    · next q =>
      obtain ⟨⟨⟨a1, a2, a3⟩, a4, ra, rc⟩, -, -, -, -, i6⟩ := hi
      have al : ∀ c : Nat, (c : Int) < g 82 5 → 0 ≤ g 88 (aa + 33 + c) := fun c hc => by
        have n9 := cntX_0 (h := h) (tt := tt) _ (by rw [← i6]; omega) c (show c < (g 82 5).toNat by omega)
        have b7 := (ra c hc).1.2.2.2.2.2.2
        rw [b7] at n9
        unfold orN at n9
        split at n9
        · exact absurd rfl n9
        · omega
      have o : ∀ x c, x ≠ 98 ∧ (x ≠ 88 ∨ c ≠ aa) → goMo aa (k + 1) g x c = g x c := fun x c q => quiet_go x c q _ g al
      refine ⟨⟨by rw [o _ _ (by omega)]; exact a1, by rw [o _ _ (by omega)]; exact a2, by rw [o _ _ (by omega)]; exact a3⟩, fun c hc => ?_, fun z c hc => by rw [o _ _ (by omega)]; exact rc z c hc⟩
      rw [o _ _ (by omega)] at hc
      obtain ⟨⟨b1, b2, b3, b4, b5, b6, b7⟩, b8, b9⟩ := ra c hc
      rw [o _ _ (by omega), o _ _ (by omega), o _ _ (by omega), o _ _ (by omega), o _ _ (by omega), o _ _ (by omega), o _ _ (by omega), o _ _ (by omega)]
      exact ⟨⟨b1, b2, b3, b4, b5, b6, b7⟩, b8, b9⟩
theorem goMo_stop : ∀ (k j : Nat) (g : AH), g 88 aa + k = 120 → goMo aa (k + j) g = goMo aa k g
  | 0, 0, _, _ => rfl
  | 0, j + 1, g, e => by
    rw [Nat.zero_add]; unfold goMo; rw [if_neg (by omega)]
  | k + 1, j, g, e => by
    rw [show k + 1 + j = (k + j) + 1 by omega]
    unfold goMo
    rw [if_pos (by omega), if_pos (by omega)]
    exact goMo_stop k j _ (by rw [minuteM_m]; omega)
theorem goMo_s {k : Nat} (e : g 88 aa < 120) : goMo aa (k + 1) g = goMo aa k (minuteM g aa) := by rw [goMo, if_pos e]
theorem goMo_add : ∀ (k j : Nat) (g : AH), g 88 aa + k ≤ 120 → goMo aa (k + j) g = goMo aa j (goMo aa k g)
  | 0, j, g, _ => by rw [Nat.zero_add]; rfl
  | k + 1, j, g, e => by
    rw [show k + 1 + j = (k + j) + 1 by omega, goMo_s (by omega), goMo_s (by omega)]
    exact goMo_add k j (minuteM g aa) (by rw [minuteM_m]; omega)
end L3E
