section L3CALL
variable {G : GD} {l : Launch} {d k ic im : Nat} {h : AH} {as : List AV}
/-- a call on both sides: the same answer, and the law of the state holds on -/
def Ok (G : GD) (l : Launch) (d k ic im : Nat) (as : List AV) (h : AH) : Prop := CallR G l d ic (vR 0 :: as) h (fun r h1 => ∃ v, r = some (vI v) ∧ CallR G l d im (vR 82 :: as) h1 (fun r2 h2 => r2 = some (vI v) ∧ INV (k + 1) h2))
theorem CallR.ok {i : Nat} {P : Option AV → AH → Prop} (f : (∀ v ∈ as, avOk v) → Hok h → CallR G l d i as h P) : CallR G l d i as h P := fun hv hO => f hv hO hv hO
theorem ok_ex {v w : Int} {hc hm : AH} (c : CallR G l d ic (vR 0 :: as) h (fun r h' => r = some (vI v) ∧ h' = hc)) (m : CallR G l d im (vR 82 :: as) hc (fun r h' => r = some (vI w) ∧ h' = hm)) (e : w = v) (i : INV (k + 1) hm) : Ok G l d k ic im as h := by
  refine c.imp (fun r h1 q => ⟨v, q.1, ?_⟩)
  rw [q.2]
  exact m.imp (fun r2 h2 q2 => ⟨by rw [q2.1, e], by rw [q2.2]; exact i⟩)
theorem ag_BB {h1 : AH} (b : BB h h) (a : AgC h h1) : BB h h1 := by
  have e : ∀ x c, 82 ≤ x → h1 x c = h x c := fun x c hx => a.1 x c (by omega) (by omega) (by omega)
  refine B6_BB (B6_cg (BB_B6 b) (fun _ _ => rfl) (fun _ _ _ _ _ _ => rfl) (fun _ _ _ _ _ _ => rfl) (fun c _ => e _ _ (by omega)) (fun c _ => ⟨e _ _ (by omega), e _ _ (by omega)⟩) (fun c _ => e _ _ (by omega)) (fun c _ _ => ⟨e _ _ (by omega), e _ _ (by omega), e _ _ (by omega)⟩)) (fun j => by rw [e _ _ (by omega)]; exact b.2.2.2.2.2.2.2.2.2.2.1 j) ?_
  obtain ⟨ww, hw⟩ := b.2.2.2.2.2.2.2.2.2.2.2
  exact ⟨ww, fun j => by rw [e _ _ (by omega)]; exact hw j⟩
theorem INV_quiet {h1 h2 : AH} (i : INV k h) (a : AgC h h1) (m : AgM h1 h2 (2000000 * ((k : Int) + 2))) : INV (k + 1) h2 := by
  have b1 := BB_agM (BB_ag (ag_BB i.1 a) a) m
  have q : ∀ x c : Nat, ¬ (12 ≤ x ∧ x ≤ 22) → ¬ (34 ≤ x ∧ x ≤ 41) → x ≠ 65 → x ≠ 83 → x ≠ 84 → x ≠ 85 → x ≠ 88 → x ≠ 98 → x ≠ 99 → x ≠ 100 → x ≠ 102 → (x ≠ 82 ∨ c ≠ 36) → h2 x c = h x c := fun x c z1 z2 z3 z4 z5 z6 z7 z8 z9 z10 z11 z12 => by
    rw [m.1 x c (by omega) (by omega) (by omega) (by omega) (by omega) (by omega) (by omega), a.1 x c z1 z2 z3]
  have b2 : BB h2 h2 := by
    have e : ∀ x c, x < 82 → h2 x c = h1 x c := fun x c hx => m.1 x c (by omega) (by omega) (by omega) (by omega) (by omega) (by omega) (by omega)
    exact B6_BB (B6_cg (BB_B6 b1) (fun c _ => e _ _ (by omega)) (fun _ _ _ _ _ _ => e _ _ (by omega)) (fun _ _ _ _ _ _ => e _ _ (by omega)) (fun c _ => rfl) (fun c _ => ⟨rfl, rfl⟩) (fun c _ => rfl) (fun c _ _ => ⟨rfl, rfl, rfl⟩)) m.2.1 ⟨_, m.2.2⟩
  refine INV_T i b2 ?_ ?_ m.2.2 ?_ (fun x c z => q x c (by omega) (by omega) (by omega) (by omega) (by omega) (by omega) (by omega) (by omega) (by omega) (by omega) (by omega) (by omega))
  · rw [q _ _ (by omega) (by omega) (by omega) (by omega) (by omega) (by omega) (by omega) (by omega) (by omega) (by omega) (by omega) (by omega)]; exact i.2.2.1
  · rw [q _ _ (by omega) (by omega) (by omega) (by omega) (by omega) (by omega) (by omega) (by omega) (by omega) (by omega) (by omega) (by omega), q _ _ (by omega) (by omega) (by omega) (by omega) (by omega) (by omega) (by omega) (by omega) (by omega) (by omega) (by omega) (by omega)]; exact i.2.2.2.1
  · refine CL_cg (h := h1) (fun x c z => m.1 x c (by omega) (by omega) (by omega) (by omega) (by omega) (by omega) (by omega)) a.2
theorem ok_quiet {v : Int} (i : INV k h) (c : CallR G l d ic (vR 0 :: as) h (fun r h' => r = some (vI v) ∧ AgC h h')) (m : ∀ h1, BB h h1 → h1 82 9 = 0 → (∀ j, 0 ≤ h1 100 j ∧ h1 100 j ≤ 2000000 * ((k : Int) + 1)) → CallR G l d im (vR 82 :: as) h1 (fun r h' => r = some (vI v) ∧ AgM h1 h' (2000000 * ((k : Int) + 2)))) : Ok G l d k ic im as h := by
  refine c.imp (fun r h1 q => ⟨v, q.1, ?_⟩)
  have e : ∀ x c, 82 ≤ x → h1 x c = h x c := fun x c hx => q.2.1 x c (by omega) (by omega) (by omega)
  refine (m h1 (ag_BB i.1 q.2) (by rw [e _ _ (by omega)]; exact i.2.2.1) (fun j => by rw [e _ _ (by omega)]; exact i.2.2.2.2.1 j)).imp (fun r2 h2 q2 => ⟨q2.1, INV_quiet i q.2 q2.2⟩)
theorem chB_cg {R R' : Nat → Int} : ∀ n : Nat, (∀ f, f ≤ n → R f = R' f) → chB R n = chB R' n
  | 0, e => by rw [chB, chB, e 0 (by omega)]
  | n + 1, e => by rw [chB, chB, chB_cg n (fun f hf => e f (by omega)), e (n + 1) (by omega)]
theorem woB_cg {R R' : Nat → Int} : ∀ n : Nat, (∀ f, f < n → R f = R' f) → woB R n = woB R' n
  | 0, e => rfl
  | n + 1, e => by rw [woB, woB, woB_cg n (fun f hf => e f (by omega)), e n (by omega)]
theorem firstF_cg {R R' : Nat → Bool} : ∀ n : Nat, n ≤ 9 → (∀ f, 1 ≤ f → f ≤ 9 → R f = R' f) → firstF R n = firstF R' n
  | 0, _, e => rfl
  | n + 1, hn, e => by rw [firstF, firstF, firstF_cg n (by omega) e, e (9 - n) (by omega) (by omega)]
theorem erS_cg {R R' : Int → Bool} {m : Int} : ∀ n : Nat, (∀ s, m ≤ s → s < m + n → R s = R' s) → erS R m n = erS R' m n
  | 0, e => rfl
  | n + 1, e => by rw [erS, erS, erS_cg n (fun f hf h2 => e f hf (by omega)), e (m + n) (by omega) (by omega)]
theorem swS_cg {ok ok' : Nat → Nat → Bool} {V V' : Nat → Nat → Int} (eo : ∀ p q, ok p q = ok' p q) (e : ∀ p q, ok' p q = true → V p q = V' p q) : ∀ n : Nat, swS ok V n = swS ok' V' n
  | 0 => rfl
  | n + 1 => by
    rw [swS, swS, swS_cg eo e n, eo]
    by_cases c : ok' (n / 8) (n % 8) = true
    · rw [e _ _ c]
    · rw [if_neg (fun z => c z.1), if_neg (fun z => c z.1)]
theorem swOk_c {g g' : AH} (hb : BB h g) (hb' : BB h g') (p q : Nat) : swOk g p q = swOk g' p q := by
  have e5 := BB_5 hb hb'
  unfold swOk
  refine decide_eq_decide.2 ?_
  rw [e5]
  by_cases c : p < q ∧ (q : Int) < g 82 5
  · have a1 := (hb.2.2.1 p (by omega)).2.2.2.2.2.2
    have a2 := (hb.2.2.1 q (by omega)).2.2.2.2.2.2
    have b1 := (hb'.2.2.1 p (by omega)).2.2.2.2.2.2
    have b2 := (hb'.2.2.1 q (by omega)).2.2.2.2.2.2
    rw [Nat.zero_add] at a1 a2 b1 b2
    have c1 := orN_neg (g 88 (33 + p))
    have c2 := orN_neg (g 88 (33 + q))
    have d1 := orN_neg (g' 88 (33 + p))
    have d2 := orN_neg (g' 88 (33 + q))
    rw [← a1] at c1
    rw [← a2] at c2
    rw [← b1] at d1
    rw [← b2] at d2
    rw [← c1, ← c2, ← d1, ← d2]
  · exact ⟨fun z => absurd ⟨z.1, z.2.1⟩ c, fun z => absurd ⟨z.1, z.2.1⟩ c⟩
end L3CALL
