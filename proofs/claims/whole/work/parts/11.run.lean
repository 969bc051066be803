section RUN
variable {G : GD} {l : Launch} {i d pc : Nat} {ls : LcT} {st : List AV} {h : AH} {Q : Option AV → AH → Prop}
def okS (cs : List AE) : Bool := cs.all (fun e => if e.2.1 = 48 then stF.getD e.2.2.1.toNat false else if e.2.1 = 49 ∨ e.2.1 = 50 then !(stF.getD e.2.2.1.toNat true) else true)
theorem mth_acp : mthAt 6 acpyI = none := by decide +kernel
theorem mth_mmx : ∀ e ∈ mmxT, mthAt e.1 e.2.1 = none := by decide +kernel
def hpc (cs : List AE) : Nat := match cs with
  | [] => 0
  | e :: _ => if e.2.1 = 99 then e.2.2.1.toNat else e.1
theorem okN_hpc {n : Nat} {e : AE} {es : List AE} (h : okN n (e :: es) = true) : hpc (e :: es) = n := by
  have h : (if e.2.1 = 99 then decide (e.2.2.1 = (n : Int)) else decide (e.1 = n)) = true := h
  show (if e.2.1 = 99 then e.2.2.1.toNat else e.1) = n
  by_cases q : e.2.1 = 99
  · rw [if_pos q] at h ⊢
    rw [of_decide_eq_true h]; rfl
  · rw [if_neg q] at h ⊢
    exact of_decide_eq_true h
theorem run_sound {K : Nat → LcT → List AV → AH → Prop} (hK : ∀ t ls st h, K t ls st h → Wp G l i d t ls st h Q) : ∀ (cs : List AE), okC (mrec i).1 (mrec i).2.2.1 (mrec i).2.2.2.2.1 cs = true → okS cs = true → ∀ ls st h, run1 (CRd G l d) Q K cs ls st h → Wp G l i d (hpc cs) ls st h Q
  | [], _, _, ls, st, h, hr => hr.elim
  | e :: es, hok, hks, ls, st, h, hr => by
    obtain ⟨pc, op, x, ys⟩ := e
    simp only [okC, Bool.and_eq_true] at hok
    obtain ⟨h1, h2⟩ := hok
    by_cases h99 : op = 99
    · subst h99
      exact hK _ _ _ _ hr
    rw [if_neg h99] at h1
    have hpe : hpc ((pc, op, x, ys) :: es) = pc := by unfold hpc; exact if_neg h99
    rw [hpe]
    cases hdec : decode (mrec i).2.2.1 pc with
    | error z => rw [hdec] at h1; cases h1
    | ok r =>
      obtain ⟨raw, n⟩ := r
      rw [hdec] at h1
      simp only [Bool.and_eq_true, decide_eq_true_eq] at h1
      obtain ⟨⟨he, hln⟩, hnx⟩ := h1
      simp only [okS, List.all_cons, Bool.and_eq_true] at hks
      obtain ⟨hk1, hk2⟩ := hks
      refine stp_sound (N := run1 (CRd G l d) Q K es) hdec hln he ?_ ?_ hK ?_ hr
      · rintro m ⟨z, rfl, hm⟩
        simp only [enc] at he
        split at he
        · next hz => rw [hz.1, hz.2, mth_acp] at hm; cases hm
        · split at he
          · next hz => have := mth_mmx _ hz; rw [this] at hm; cases hm
          · split at he
            · next hz => have := mth_mmx _ hz; rw [this] at hm; cases hm
            · rw [hm] at he
              cases hnp : npar (mrec m).2.1 with
              | none => simp [hnp] at he
              | some np =>
                simp only [hnp, Option.bind_some, Option.map_some, Option.some.injEq, Prod.mk.injEq] at he
                obtain ⟨rfl, rfl, rfl⟩ := he
                simpa using hk1
      · rintro m ⟨z, rfl, hm⟩
        simp only [enc] at he
        rw [hm] at he
        cases hnp : npar (mrec m).2.1 with
        | none => simp [hnp] at he
        | some np =>
          simp only [hnp, Option.bind_some, Option.map_some, Option.some.injEq] at he
          have key : stF.getD m true = false := by
            split at he
            · cases he; simpa using hk1
            · cases he; simpa using hk1
          have hlt : m < stF.length := by
            obtain ⟨b, hb⟩ := mthAt_spec hm
            exact (mthT_lt _ hb).1
          rw [List.getD_eq_getElem?_getD, List.getElem?_eq_getElem hlt] at key ⊢
          exact key
      · intro ls' st' h' hr'
        match es, hnx, h2, hk2, hr' with
        | e2 :: es, hnx, h2, hk2, hr' =>
          have ih := run_sound hK (e2 :: es) h2 hk2 ls' st' h' hr'
          rw [okN_hpc hnx] at ih
          exact ih
theorem okC_drop {own : Nat} {b : ByteArray} {rk : Option FieldType} {n : Nat} : ∀ {cs : List AE}, okC own b rk cs = true → okC own b rk (dropTo n cs) = true
  | [], h => h
  | e :: es, h => by
    unfold dropTo
    split
    · exact h
    · simp only [okC, Bool.and_eq_true] at h
      exact okC_drop h.2
theorem okS_drop {n : Nat} : ∀ {cs : List AE}, okS cs = true → okS (dropTo n cs) = true
  | [], h => h
  | e :: es, h => by
    unfold dropTo
    split
    · exact h
    · simp only [okS, List.all_cons, Bool.and_eq_true] at h
      exact okS_drop (show okS es = true from h.2)
theorem drop_hd {n : Nat} : ∀ {cs : List AE} {e : AE} {es : List AE}, dropTo n cs = e :: es → e.1 = n
  | [], e, es, h => by cases h
  | c :: cs, e, es, h => by
    unfold dropTo at h
    split at h
    · next q => cases h; exact q
    · exact drop_hd h
/-- marks have numbers of their own -/
def okMk (cs : List AE) : Bool := cs.all (fun e => if e.2.1 = 99 then decide (100000 ≤ e.1) else decide (e.1 < 100000))
theorem drop_mem {n : Nat} : ∀ {cs : List AE} {e : AE} {es : List AE}, dropTo n cs = e :: es → e ∈ cs
  | [], e, es, h => by cases h
  | c :: cs, e, es, h => by
    unfold dropTo at h
    split at h
    · cases h; exact List.mem_cons_self
    · exact List.mem_cons_of_mem _ (drop_mem h)
def okR (i : Nat) : Bool := okM i && okS (mcode i) && okMk (mcode i)
theorem drop_hpc {cs : List AE} {n : Nat} (h3 : okMk cs = true) {e : AE} {es : List AE} (hq : dropTo n cs = e :: es) (hn : n < 100000 := by assumption) : hpc (e :: es) = n := by
  have h1 := drop_hd hq
  have h2 := List.all_eq_true.mp h3 e (drop_mem hq)
  show (if e.2.1 = 99 then e.2.2.1.toNat else e.1) = n
  by_cases q : e.2.1 = 99
  · rw [if_pos q] at h2
    have := of_decide_eq_true h2
    omega
  · rw [if_neg q]; exact h1
/-- a run from pc on: what it comes to, jumps as goals of their own -/
theorem Wp.at {cs : List AE} (hpc0 : pc < 100000) (hok : okR i = true) (hq : dropTo pc (mcode i) = cs) (hr : run1 (CRd G l d) Q (fun t ls st h => Wp G l i d t ls st h Q) cs ls st h) : Wp G l i d pc ls st h Q := by
  simp only [okR, okM, Bool.and_eq_true] at hok
  obtain ⟨⟨⟨⟨⟨h1, -⟩, -⟩, -⟩, h2⟩, h3⟩ := hok
  have a1 := okC_drop (n := pc) h1
  have a2 := okS_drop (n := pc) h2
  have e0 : (mrec i).2.2.2.2.2 = mcode i := rfl
  rw [e0, hq] at a1
  rw [hq] at a2
  have key := run_sound (fun _ _ _ _ q => q) cs a1 a2 ls st h hr
  match cs, hq, key, hr with
  | e :: es, hq, key, _ =>
    rw [drop_hpc h3 hq hpc0] at key
    exact key
def lcA : List AV → LcT
  | [] => []
  | .inr (.inl z) :: vs => some (vL z) :: none :: lcA vs
  | v :: vs => some v :: lcA vs
def ls0 (n : Nat) (as : List AV) : LcT := lcA as ++ List.replicate (n - (lcA as).length) none
theorem lcA_len (G : GD) : ∀ as : List AV, (lg_sl (as.map (rv G))).length = (lcA as).length
  | [] => rfl
  | .inl z :: vs => by
    have := lcA_len G vs
    simp only [lg_sl, List.map_cons, List.flatMap_cons, List.length_append, lcA, List.length_cons] at this ⊢
    rw [this]; simp [rv, Value.category]; omega
  | .inr (.inr z) :: vs => by
    have := lcA_len G vs
    simp only [lg_sl, List.map_cons, List.flatMap_cons, List.length_append, lcA, List.length_cons] at this ⊢
    rw [this]; simp [rv, Value.category]; omega
  | .inr (.inl z) :: vs => by
    have := lcA_len G vs
    simp only [lg_sl, List.map_cons, List.flatMap_cons, List.length_append, lcA, List.length_cons] at this ⊢
    rw [this]; simp [rv, Value.category]; omega
theorem lcA_mem (G : GD) : ∀ (as : List AV) (k j : Nat) (v : AV), (lcA as)[j]? = some (some v) → (k + j, rv G v) ∈ lv_args k (as.map (rv G)) ∧ v ∈ as
  | [], k, j, v, h => by simp [lcA] at h
  | .inr (.inl z) :: vs, k, 0, v, h => by
    simp [lcA] at h
    subst h
    exact ⟨List.mem_cons_self, List.mem_cons_self⟩
  | .inr (.inl z) :: vs, k, 1, v, h => by simp [lcA] at h
  | .inr (.inl z) :: vs, k, j + 2, v, h => by
    have h1 : (lcA vs)[j]? = some (some v) := by simpa [lcA] using h
    obtain ⟨a, b⟩ := lcA_mem G vs (k + 2) j v h1
    refine ⟨List.mem_cons_of_mem _ ?_, List.mem_cons_of_mem _ b⟩
    rw [show k + (j + 2) = k + 2 + j by omega]
    exact a
  | .inl z :: vs, k, 0, v, h => by
    simp [lcA] at h
    subst h
    exact ⟨List.mem_cons_self, List.mem_cons_self⟩
  | .inl z :: vs, k, j + 1, v, h => by
    have h1 : (lcA vs)[j]? = some (some v) := by simpa [lcA] using h
    obtain ⟨a, b⟩ := lcA_mem G vs (k + 1) j v h1
    refine ⟨List.mem_cons_of_mem _ ?_, List.mem_cons_of_mem _ b⟩
    rw [show k + (j + 1) = k + 1 + j by omega]
    exact a
  | .inr (.inr z) :: vs, k, 0, v, h => by
    simp [lcA] at h
    subst h
    exact ⟨List.mem_cons_self, List.mem_cons_self⟩
  | .inr (.inr z) :: vs, k, j + 1, v, h => by
    have h1 : (lcA vs)[j]? = some (some v) := by simpa [lcA] using h
    obtain ⟨a, b⟩ := lcA_mem G vs (k + 1) j v h1
    refine ⟨List.mem_cons_of_mem _ ?_, List.mem_cons_of_mem _ b⟩
    rw [show k + (j + 1) = k + 1 + j by omega]
    exact a
theorem ls0_mem {n : Nat} {as : List AV} {j : Nat} {v : AV} (h : (ls0 n as)[j]? = some (some v)) : (lcA as)[j]? = some (some v) := by
  unfold ls0 at h
  by_cases hj : j < (lcA as).length
  · rw [List.getElem?_append_left hj] at h; exact h
  · rw [List.getElem?_append_right (by omega), List.getElem?_replicate] at h
    split at h <;> cases h
/-- a contract out of a run from the method's begin -/
theorem CallR.of {as : List AV} {P : Option AV → AH → Prop} (hok : okR i = true) (hl : (lcA as).length ≤ (mrec i).2.2.2.1) (hls : ls0 (mrec i).2.2.2.1 as = ls) (body : (∀ v ∈ as, avOk v) → Hok h → Wp G l i d 0 ls [] h P) : CallR G l d i as h P := by
  intro hv hO
  have hok2 := hok
  simp only [okR, okM, Bool.and_eq_true, decide_eq_true_eq] at hok2
  obtain ⟨⟨⟨⟨⟨-, -⟩, hpl⟩, hcl⟩, -⟩, -⟩ := hok2
  refine Met.ofW (cc := (mrec i).2.2.1) (maxL := (mrec i).2.2.2.1) (ret := (mrec i).2.2.2.2.1) hpl rfl ?_
  intro p e s m args below meth c s₁ B hml hp
  obtain ⟨rfl, hP, hO, hE, hX⟩ := hp
  have hts := atoms_spec (ws := codW i :: wG) B.pre
  have hown : s.vm.findClass (mrec i).2.1.cls = some m.cls := findClass_of_methodNamed B.named
  have hent := lv_entry (as.map (rv G)) (n := (mrec i).2.2.2.1) (by rw [lcA_len]; exact hl)
  rw [lg_entry_eq]
  generalize (lg_sl (as.map (rv G)) ++ List.replicate ((mrec i).2.2.2.1 - (lg_sl (as.map (rv G))).length) Slot.unset).toArray = la at hent ⊢
  refine body hv hO p e s m _ below meth c s.heap [] la ⟨B.exec, B.bytes, B.returns, hml, by rw [hcl]; exact hown, fun w hw => hts w (List.mem_cons_of_mem _ hw), B.notSynchronized, hE, hX⟩ va_S.rf hP hO ⟨sub_has hent ?_, ?_, ?_⟩ (fun v hv => by cases hv)
  · intro q hq
    obtain ⟨v, h1, h2⟩ := prs_of hq
    rw [← hls] at h1
    have := (lcA_mem G as 0 q.1 v (ls0_mem h1)).1
    rw [Nat.zero_add] at this
    obtain ⟨q1, q2⟩ := q
    cases h2
    exact this
  · rw [← hls]
    unfold ls0
    rw [List.length_append, List.length_replicate]
    omega
  · intro v hm
    rw [← hls] at hm
    obtain ⟨j, hj⟩ := List.getElem?_of_mem hm
    exact hv v (lcA_mem G as 0 j v (ls0_mem hj)).2
theorem CallR.imp {as : List AV} {P P' : Option AV → AH → Prop} (hc : CallR G l d i as h P) (hi : ∀ r h', P r h' → P' r h') : CallR G l d i as h P' := by
  intro hv hO
  have hM := hc hv hO
  unfold Met at hM ⊢
  intro p e ha hc' hk s m args below hf hfit hheap happ
  obtain ⟨k, o, h1, h2, h3, ⟨⟨⟨r, h', q1, q2, q3⟩, q4⟩, q5⟩⟩ := hM p e ha hc' hk s m args below hf hfit hheap happ
  exact ⟨k, o, h1, h2, h3, ⟨⟨⟨r, h', q1, hi r h' q2, q3⟩, q4⟩, q5⟩⟩
end RUN
section RL
variable {CR : Nat → List AV → AH → (Option AV → AH → Prop) → Prop} {Q : Option AV → AH → Prop} {K : Nat → LcT → List AV → AH → Prop}
def stK : Option AV → Bool
  | some (.inr (.inl _)) => false
  | _ => true
theorem stOK_eq {ls : LcT} {j : Nat} {a : Option AV} (h : ls[j]? = some a) : stOK ls (j + 1) = stK a := by
  unfold stOK stK
  simp only [h]
  match a with
  | none => rfl
  | some (.inl z) => rfl
  | some (.inr (.inr z)) => rfl
  | some (.inr (.inl z)) => rfl
theorem stK_n : stK none = true := rfl
theorem stK_i (z : Int) : stK (some (vI z)) = true := rfl
theorem stK_r (z : Nat) : stK (some (vR z)) = true := rfl
def pfI (c : Nat) (z : Int) (P : Prop) : Prop := match c with
  | 0 => P
  | 2 => (z = 0 ∨ z = 1) ∧ P
  | _ => False
theorem rl_0 (p : Nat) (cs : List AE) (h : AH) (ls : LcT) (st : List AV) (x : Int) (ys : List Int) : (run1 CR Q K ((p, 0, x, ys) :: cs) ls st h) = (run1 CR Q K cs ls (vI x :: st) h) := rfl
theorem rl_1 (p : Nat) (cs : List AE) (h : AH) (ls : LcT) (st : List AV) (x : Int) (ys : List Int) : (run1 CR Q K ((p, 1, x, ys) :: cs) ls st h) = (run1 CR Q K cs ls (vL x :: st) h) := rfl
theorem rl_2 (p : Nat) (cs : List AE) (h : AH) (ls : LcT) (st : List AV) (x : Int) (ys : List Int) : (run1 CR Q K ((p, 2, x, ys) :: cs) ls st h) = (run1 CR Q K cs ls (vR x.toNat :: st) h) := rfl
theorem rl_3 (p : Nat) (cs : List AE) (h : AH) (ls : LcT) (st : List AV) (z : Int) (ys : List Int) : (run1 CR Q K ((p, 3, 0, ys) :: cs) (some (vI z) :: ls) st h) = (run1 CR Q K cs (some (vI z) :: ls) (vI z :: st) h) := rfl
theorem rl_4 (p : Nat) (cs : List AE) (h : AH) (ls : LcT) (st : List AV) (z : Int) (ys : List Int) : (run1 CR Q K ((p, 4, 0, ys) :: cs) (some (vL z) :: ls) st h) = (run1 CR Q K cs (some (vL z) :: ls) (vL z :: st) h) := rfl
theorem rl_5 (p : Nat) (cs : List AE) (h : AH) (ls : LcT) (st : List AV) (z : Nat) (ys : List Int) : (run1 CR Q K ((p, 5, 0, ys) :: cs) (some (vR z) :: ls) st h) = (run1 CR Q K cs (some (vR z) :: ls) (vR z :: st) h) := rfl
theorem rl_6 (p : Nat) (cs : List AE) (h : AH) (ls : LcT) (st : List AV) (b : Option AV) (z : Int) (ys : List Int) : (run1 CR Q K ((p, 6, 0, ys) :: cs) (b :: ls) (vI z :: st) h) = (run1 CR Q K cs (some (vI z) :: ls) st h) := by
  apply propext
  constructor
  · intro q
    exact q.2
  · intro q
    exact ⟨⟨rfl, by show 0 < _; simp only [List.length_cons]; omega⟩, q⟩
theorem rl_7 (p : Nat) (cs : List AE) (h : AH) (ls : LcT) (st : List AV) (b : Option AV) (z : Nat) (ys : List Int) : (run1 CR Q K ((p, 8, 0, ys) :: cs) (b :: ls) (vR z :: st) h) = (run1 CR Q K cs (some (vR z) :: ls) st h) := by
  apply propext
  constructor
  · intro q
    exact q.2
  · intro q
    exact ⟨⟨rfl, by show 0 < _; simp only [List.length_cons]; omega⟩, q⟩
theorem rl_8 (p : Nat) (cs : List AE) (h : AH) (ls : LcT) (st : List AV) (z n : Int) : (run1 CR Q K ((p, 9, 0, [n]) :: cs) (some (vI z) :: ls) st h) = (run1 CR Q K cs (some (vI (w32 (z + n))) :: ls) st h) := rfl
theorem rl_9 (p : Nat) (cs : List AE) (h : AH) (ls : LcT) (st : List AV) (a0 : Option AV) (z : Int) (ys : List Int) : (run1 CR Q K ((p, 3, 1, ys) :: cs) (a0 :: some (vI z) :: ls) st h) = (run1 CR Q K cs (a0 :: some (vI z) :: ls) (vI z :: st) h) := rfl
theorem rl_10 (p : Nat) (cs : List AE) (h : AH) (ls : LcT) (st : List AV) (a0 : Option AV) (z : Int) (ys : List Int) : (run1 CR Q K ((p, 4, 1, ys) :: cs) (a0 :: some (vL z) :: ls) st h) = (run1 CR Q K cs (a0 :: some (vL z) :: ls) (vL z :: st) h) := rfl
theorem rl_11 (p : Nat) (cs : List AE) (h : AH) (ls : LcT) (st : List AV) (a0 : Option AV) (z : Nat) (ys : List Int) : (run1 CR Q K ((p, 5, 1, ys) :: cs) (a0 :: some (vR z) :: ls) st h) = (run1 CR Q K cs (a0 :: some (vR z) :: ls) (vR z :: st) h) := rfl
theorem rl_12 (p : Nat) (cs : List AE) (h : AH) (ls : LcT) (st : List AV) (a0 : Option AV) (b : Option AV) (z : Int) (ys : List Int) : (run1 CR Q K ((p, 6, 1, ys) :: cs) (a0 :: b :: ls) (vI z :: st) h) = ((stK a0 = true ∧ run1 CR Q K cs (a0 :: some (vI z) :: ls) st h)) := by
  apply propext
  have e9 := stOK_eq (j := 0) (a := a0) (show ((a0 :: b :: ls) : LcT)[0]? = some a0 from rfl)
  constructor
  · intro q
    exact ⟨e9.symm.trans q.1.1, q.2⟩
  · intro q
    exact ⟨⟨e9.trans q.1, by show 1 < _; simp only [List.length_cons]; omega⟩, q.2⟩
theorem rl_13 (p : Nat) (cs : List AE) (h : AH) (ls : LcT) (st : List AV) (a0 : Option AV) (b : Option AV) (z : Nat) (ys : List Int) : (run1 CR Q K ((p, 8, 1, ys) :: cs) (a0 :: b :: ls) (vR z :: st) h) = ((stK a0 = true ∧ run1 CR Q K cs (a0 :: some (vR z) :: ls) st h)) := by
  apply propext
  have e9 := stOK_eq (j := 0) (a := a0) (show ((a0 :: b :: ls) : LcT)[0]? = some a0 from rfl)
  constructor
  · intro q
    exact ⟨e9.symm.trans q.1.1, q.2⟩
  · intro q
    exact ⟨⟨e9.trans q.1, by show 1 < _; simp only [List.length_cons]; omega⟩, q.2⟩
theorem rl_14 (p : Nat) (cs : List AE) (h : AH) (ls : LcT) (st : List AV) (a0 : Option AV) (b b2 : Option AV) (z : Int) (ys : List Int) : (run1 CR Q K ((p, 7, 1, ys) :: cs) (a0 :: b :: b2 :: ls) (vL z :: st) h) = ((stK a0 = true ∧ run1 CR Q K cs (a0 :: some (vL z) :: none :: ls) st h)) := by
  apply propext
  have e9 := stOK_eq (j := 0) (a := a0) (show ((a0 :: b :: b2 :: ls) : LcT)[0]? = some a0 from rfl)
  constructor
  · intro q
    exact ⟨e9.symm.trans q.1.1, q.2⟩
  · intro q
    exact ⟨⟨e9.trans q.1, by show 1 + 1 < _; simp only [List.length_cons]; omega⟩, q.2⟩
theorem rl_15 (p : Nat) (cs : List AE) (h : AH) (ls : LcT) (st : List AV) (a0 : Option AV) (z n : Int) : (run1 CR Q K ((p, 9, 1, [n]) :: cs) (a0 :: some (vI z) :: ls) st h) = (run1 CR Q K cs (a0 :: some (vI (w32 (z + n))) :: ls) st h) := rfl
theorem rl_16 (p : Nat) (cs : List AE) (h : AH) (ls : LcT) (st : List AV) (a0 a1 : Option AV) (z : Int) (ys : List Int) : (run1 CR Q K ((p, 3, 2, ys) :: cs) (a0 :: a1 :: some (vI z) :: ls) st h) = (run1 CR Q K cs (a0 :: a1 :: some (vI z) :: ls) (vI z :: st) h) := rfl
theorem rl_17 (p : Nat) (cs : List AE) (h : AH) (ls : LcT) (st : List AV) (a0 a1 : Option AV) (z : Int) (ys : List Int) : (run1 CR Q K ((p, 4, 2, ys) :: cs) (a0 :: a1 :: some (vL z) :: ls) st h) = (run1 CR Q K cs (a0 :: a1 :: some (vL z) :: ls) (vL z :: st) h) := rfl
theorem rl_18 (p : Nat) (cs : List AE) (h : AH) (ls : LcT) (st : List AV) (a0 a1 : Option AV) (z : Nat) (ys : List Int) : (run1 CR Q K ((p, 5, 2, ys) :: cs) (a0 :: a1 :: some (vR z) :: ls) st h) = (run1 CR Q K cs (a0 :: a1 :: some (vR z) :: ls) (vR z :: st) h) := rfl
theorem rl_19 (p : Nat) (cs : List AE) (h : AH) (ls : LcT) (st : List AV) (a0 a1 : Option AV) (b : Option AV) (z : Int) (ys : List Int) : (run1 CR Q K ((p, 6, 2, ys) :: cs) (a0 :: a1 :: b :: ls) (vI z :: st) h) = ((stK a1 = true ∧ run1 CR Q K cs (a0 :: a1 :: some (vI z) :: ls) st h)) := by
  apply propext
  have e9 := stOK_eq (j := 1) (a := a1) (show ((a0 :: a1 :: b :: ls) : LcT)[1]? = some a1 from rfl)
  constructor
  · intro q
    exact ⟨e9.symm.trans q.1.1, q.2⟩
  · intro q
    exact ⟨⟨e9.trans q.1, by show 2 < _; simp only [List.length_cons]; omega⟩, q.2⟩
theorem rl_20 (p : Nat) (cs : List AE) (h : AH) (ls : LcT) (st : List AV) (a0 a1 : Option AV) (b : Option AV) (z : Nat) (ys : List Int) : (run1 CR Q K ((p, 8, 2, ys) :: cs) (a0 :: a1 :: b :: ls) (vR z :: st) h) = ((stK a1 = true ∧ run1 CR Q K cs (a0 :: a1 :: some (vR z) :: ls) st h)) := by
  apply propext
  have e9 := stOK_eq (j := 1) (a := a1) (show ((a0 :: a1 :: b :: ls) : LcT)[1]? = some a1 from rfl)
  constructor
  · intro q
    exact ⟨e9.symm.trans q.1.1, q.2⟩
  · intro q
    exact ⟨⟨e9.trans q.1, by show 2 < _; simp only [List.length_cons]; omega⟩, q.2⟩
theorem rl_21 (p : Nat) (cs : List AE) (h : AH) (ls : LcT) (st : List AV) (a0 a1 : Option AV) (b b2 : Option AV) (z : Int) (ys : List Int) : (run1 CR Q K ((p, 7, 2, ys) :: cs) (a0 :: a1 :: b :: b2 :: ls) (vL z :: st) h) = ((stK a1 = true ∧ run1 CR Q K cs (a0 :: a1 :: some (vL z) :: none :: ls) st h)) := by
  apply propext
  have e9 := stOK_eq (j := 1) (a := a1) (show ((a0 :: a1 :: b :: b2 :: ls) : LcT)[1]? = some a1 from rfl)
  constructor
  · intro q
    exact ⟨e9.symm.trans q.1.1, q.2⟩
  · intro q
    exact ⟨⟨e9.trans q.1, by show 2 + 1 < _; simp only [List.length_cons]; omega⟩, q.2⟩
theorem rl_22 (p : Nat) (cs : List AE) (h : AH) (ls : LcT) (st : List AV) (a0 a1 : Option AV) (z n : Int) : (run1 CR Q K ((p, 9, 2, [n]) :: cs) (a0 :: a1 :: some (vI z) :: ls) st h) = (run1 CR Q K cs (a0 :: a1 :: some (vI (w32 (z + n))) :: ls) st h) := rfl
theorem rl_23 (p : Nat) (cs : List AE) (h : AH) (ls : LcT) (st : List AV) (a0 a1 a2 : Option AV) (z : Int) (ys : List Int) : (run1 CR Q K ((p, 3, 3, ys) :: cs) (a0 :: a1 :: a2 :: some (vI z) :: ls) st h) = (run1 CR Q K cs (a0 :: a1 :: a2 :: some (vI z) :: ls) (vI z :: st) h) := rfl
theorem rl_24 (p : Nat) (cs : List AE) (h : AH) (ls : LcT) (st : List AV) (a0 a1 a2 : Option AV) (z : Int) (ys : List Int) : (run1 CR Q K ((p, 4, 3, ys) :: cs) (a0 :: a1 :: a2 :: some (vL z) :: ls) st h) = (run1 CR Q K cs (a0 :: a1 :: a2 :: some (vL z) :: ls) (vL z :: st) h) := rfl
theorem rl_25 (p : Nat) (cs : List AE) (h : AH) (ls : LcT) (st : List AV) (a0 a1 a2 : Option AV) (z : Nat) (ys : List Int) : (run1 CR Q K ((p, 5, 3, ys) :: cs) (a0 :: a1 :: a2 :: some (vR z) :: ls) st h) = (run1 CR Q K cs (a0 :: a1 :: a2 :: some (vR z) :: ls) (vR z :: st) h) := rfl
theorem rl_26 (p : Nat) (cs : List AE) (h : AH) (ls : LcT) (st : List AV) (a0 a1 a2 : Option AV) (b : Option AV) (z : Int) (ys : List Int) : (run1 CR Q K ((p, 6, 3, ys) :: cs) (a0 :: a1 :: a2 :: b :: ls) (vI z :: st) h) = ((stK a2 = true ∧ run1 CR Q K cs (a0 :: a1 :: a2 :: some (vI z) :: ls) st h)) := by
  apply propext
  have e9 := stOK_eq (j := 2) (a := a2) (show ((a0 :: a1 :: a2 :: b :: ls) : LcT)[2]? = some a2 from rfl)
  constructor
  · intro q
    exact ⟨e9.symm.trans q.1.1, q.2⟩
  · intro q
    exact ⟨⟨e9.trans q.1, by show 3 < _; simp only [List.length_cons]; omega⟩, q.2⟩
theorem rl_27 (p : Nat) (cs : List AE) (h : AH) (ls : LcT) (st : List AV) (a0 a1 a2 : Option AV) (b : Option AV) (z : Nat) (ys : List Int) : (run1 CR Q K ((p, 8, 3, ys) :: cs) (a0 :: a1 :: a2 :: b :: ls) (vR z :: st) h) = ((stK a2 = true ∧ run1 CR Q K cs (a0 :: a1 :: a2 :: some (vR z) :: ls) st h)) := by
  apply propext
  have e9 := stOK_eq (j := 2) (a := a2) (show ((a0 :: a1 :: a2 :: b :: ls) : LcT)[2]? = some a2 from rfl)
  constructor
  · intro q
    exact ⟨e9.symm.trans q.1.1, q.2⟩
  · intro q
    exact ⟨⟨e9.trans q.1, by show 3 < _; simp only [List.length_cons]; omega⟩, q.2⟩
theorem rl_28 (p : Nat) (cs : List AE) (h : AH) (ls : LcT) (st : List AV) (a0 a1 a2 : Option AV) (b b2 : Option AV) (z : Int) (ys : List Int) : (run1 CR Q K ((p, 7, 3, ys) :: cs) (a0 :: a1 :: a2 :: b :: b2 :: ls) (vL z :: st) h) = ((stK a2 = true ∧ run1 CR Q K cs (a0 :: a1 :: a2 :: some (vL z) :: none :: ls) st h)) := by
  apply propext
  have e9 := stOK_eq (j := 2) (a := a2) (show ((a0 :: a1 :: a2 :: b :: b2 :: ls) : LcT)[2]? = some a2 from rfl)
  constructor
  · intro q
    exact ⟨e9.symm.trans q.1.1, q.2⟩
  · intro q
    exact ⟨⟨e9.trans q.1, by show 3 + 1 < _; simp only [List.length_cons]; omega⟩, q.2⟩
theorem rl_29 (p : Nat) (cs : List AE) (h : AH) (ls : LcT) (st : List AV) (a0 a1 a2 : Option AV) (z n : Int) : (run1 CR Q K ((p, 9, 3, [n]) :: cs) (a0 :: a1 :: a2 :: some (vI z) :: ls) st h) = (run1 CR Q K cs (a0 :: a1 :: a2 :: some (vI (w32 (z + n))) :: ls) st h) := rfl
theorem rl_30 (p : Nat) (cs : List AE) (h : AH) (ls : LcT) (st : List AV) (a0 a1 a2 a3 : Option AV) (z : Int) (ys : List Int) : (run1 CR Q K ((p, 3, 4, ys) :: cs) (a0 :: a1 :: a2 :: a3 :: some (vI z) :: ls) st h) = (run1 CR Q K cs (a0 :: a1 :: a2 :: a3 :: some (vI z) :: ls) (vI z :: st) h) := rfl
theorem rl_31 (p : Nat) (cs : List AE) (h : AH) (ls : LcT) (st : List AV) (a0 a1 a2 a3 : Option AV) (z : Int) (ys : List Int) : (run1 CR Q K ((p, 4, 4, ys) :: cs) (a0 :: a1 :: a2 :: a3 :: some (vL z) :: ls) st h) = (run1 CR Q K cs (a0 :: a1 :: a2 :: a3 :: some (vL z) :: ls) (vL z :: st) h) := rfl
theorem rl_32 (p : Nat) (cs : List AE) (h : AH) (ls : LcT) (st : List AV) (a0 a1 a2 a3 : Option AV) (z : Nat) (ys : List Int) : (run1 CR Q K ((p, 5, 4, ys) :: cs) (a0 :: a1 :: a2 :: a3 :: some (vR z) :: ls) st h) = (run1 CR Q K cs (a0 :: a1 :: a2 :: a3 :: some (vR z) :: ls) (vR z :: st) h) := rfl
theorem rl_33 (p : Nat) (cs : List AE) (h : AH) (ls : LcT) (st : List AV) (a0 a1 a2 a3 : Option AV) (b : Option AV) (z : Int) (ys : List Int) : (run1 CR Q K ((p, 6, 4, ys) :: cs) (a0 :: a1 :: a2 :: a3 :: b :: ls) (vI z :: st) h) = ((stK a3 = true ∧ run1 CR Q K cs (a0 :: a1 :: a2 :: a3 :: some (vI z) :: ls) st h)) := by
  apply propext
  have e9 := stOK_eq (j := 3) (a := a3) (show ((a0 :: a1 :: a2 :: a3 :: b :: ls) : LcT)[3]? = some a3 from rfl)
  constructor
  · intro q
    exact ⟨e9.symm.trans q.1.1, q.2⟩
  · intro q
    exact ⟨⟨e9.trans q.1, by show 4 < _; simp only [List.length_cons]; omega⟩, q.2⟩
theorem rl_34 (p : Nat) (cs : List AE) (h : AH) (ls : LcT) (st : List AV) (a0 a1 a2 a3 : Option AV) (b : Option AV) (z : Nat) (ys : List Int) : (run1 CR Q K ((p, 8, 4, ys) :: cs) (a0 :: a1 :: a2 :: a3 :: b :: ls) (vR z :: st) h) = ((stK a3 = true ∧ run1 CR Q K cs (a0 :: a1 :: a2 :: a3 :: some (vR z) :: ls) st h)) := by
  apply propext
  have e9 := stOK_eq (j := 3) (a := a3) (show ((a0 :: a1 :: a2 :: a3 :: b :: ls) : LcT)[3]? = some a3 from rfl)
  constructor
  · intro q
    exact ⟨e9.symm.trans q.1.1, q.2⟩
  · intro q
    exact ⟨⟨e9.trans q.1, by show 4 < _; simp only [List.length_cons]; omega⟩, q.2⟩
theorem rl_35 (p : Nat) (cs : List AE) (h : AH) (ls : LcT) (st : List AV) (a0 a1 a2 a3 : Option AV) (b b2 : Option AV) (z : Int) (ys : List Int) : (run1 CR Q K ((p, 7, 4, ys) :: cs) (a0 :: a1 :: a2 :: a3 :: b :: b2 :: ls) (vL z :: st) h) = ((stK a3 = true ∧ run1 CR Q K cs (a0 :: a1 :: a2 :: a3 :: some (vL z) :: none :: ls) st h)) := by
  apply propext
  have e9 := stOK_eq (j := 3) (a := a3) (show ((a0 :: a1 :: a2 :: a3 :: b :: b2 :: ls) : LcT)[3]? = some a3 from rfl)
  constructor
  · intro q
    exact ⟨e9.symm.trans q.1.1, q.2⟩
  · intro q
    exact ⟨⟨e9.trans q.1, by show 4 + 1 < _; simp only [List.length_cons]; omega⟩, q.2⟩
theorem rl_36 (p : Nat) (cs : List AE) (h : AH) (ls : LcT) (st : List AV) (a0 a1 a2 a3 : Option AV) (z n : Int) : (run1 CR Q K ((p, 9, 4, [n]) :: cs) (a0 :: a1 :: a2 :: a3 :: some (vI z) :: ls) st h) = (run1 CR Q K cs (a0 :: a1 :: a2 :: a3 :: some (vI (w32 (z + n))) :: ls) st h) := rfl
theorem rl_37 (p : Nat) (cs : List AE) (h : AH) (ls : LcT) (st : List AV) (a0 a1 a2 a3 a4 : Option AV) (z : Int) (ys : List Int) : (run1 CR Q K ((p, 3, 5, ys) :: cs) (a0 :: a1 :: a2 :: a3 :: a4 :: some (vI z) :: ls) st h) = (run1 CR Q K cs (a0 :: a1 :: a2 :: a3 :: a4 :: some (vI z) :: ls) (vI z :: st) h) := rfl
theorem rl_38 (p : Nat) (cs : List AE) (h : AH) (ls : LcT) (st : List AV) (a0 a1 a2 a3 a4 : Option AV) (z : Int) (ys : List Int) : (run1 CR Q K ((p, 4, 5, ys) :: cs) (a0 :: a1 :: a2 :: a3 :: a4 :: some (vL z) :: ls) st h) = (run1 CR Q K cs (a0 :: a1 :: a2 :: a3 :: a4 :: some (vL z) :: ls) (vL z :: st) h) := rfl
theorem rl_39 (p : Nat) (cs : List AE) (h : AH) (ls : LcT) (st : List AV) (a0 a1 a2 a3 a4 : Option AV) (z : Nat) (ys : List Int) : (run1 CR Q K ((p, 5, 5, ys) :: cs) (a0 :: a1 :: a2 :: a3 :: a4 :: some (vR z) :: ls) st h) = (run1 CR Q K cs (a0 :: a1 :: a2 :: a3 :: a4 :: some (vR z) :: ls) (vR z :: st) h) := rfl
theorem rl_40 (p : Nat) (cs : List AE) (h : AH) (ls : LcT) (st : List AV) (a0 a1 a2 a3 a4 : Option AV) (b : Option AV) (z : Int) (ys : List Int) : (run1 CR Q K ((p, 6, 5, ys) :: cs) (a0 :: a1 :: a2 :: a3 :: a4 :: b :: ls) (vI z :: st) h) = ((stK a4 = true ∧ run1 CR Q K cs (a0 :: a1 :: a2 :: a3 :: a4 :: some (vI z) :: ls) st h)) := by
  apply propext
  have e9 := stOK_eq (j := 4) (a := a4) (show ((a0 :: a1 :: a2 :: a3 :: a4 :: b :: ls) : LcT)[4]? = some a4 from rfl)
  constructor
  · intro q
    exact ⟨e9.symm.trans q.1.1, q.2⟩
  · intro q
    exact ⟨⟨e9.trans q.1, by show 5 < _; simp only [List.length_cons]; omega⟩, q.2⟩
theorem rl_41 (p : Nat) (cs : List AE) (h : AH) (ls : LcT) (st : List AV) (a0 a1 a2 a3 a4 : Option AV) (b : Option AV) (z : Nat) (ys : List Int) : (run1 CR Q K ((p, 8, 5, ys) :: cs) (a0 :: a1 :: a2 :: a3 :: a4 :: b :: ls) (vR z :: st) h) = ((stK a4 = true ∧ run1 CR Q K cs (a0 :: a1 :: a2 :: a3 :: a4 :: some (vR z) :: ls) st h)) := by
  apply propext
  have e9 := stOK_eq (j := 4) (a := a4) (show ((a0 :: a1 :: a2 :: a3 :: a4 :: b :: ls) : LcT)[4]? = some a4 from rfl)
  constructor
  · intro q
    exact ⟨e9.symm.trans q.1.1, q.2⟩
  · intro q
    exact ⟨⟨e9.trans q.1, by show 5 < _; simp only [List.length_cons]; omega⟩, q.2⟩
theorem rl_42 (p : Nat) (cs : List AE) (h : AH) (ls : LcT) (st : List AV) (a0 a1 a2 a3 a4 : Option AV) (b b2 : Option AV) (z : Int) (ys : List Int) : (run1 CR Q K ((p, 7, 5, ys) :: cs) (a0 :: a1 :: a2 :: a3 :: a4 :: b :: b2 :: ls) (vL z :: st) h) = ((stK a4 = true ∧ run1 CR Q K cs (a0 :: a1 :: a2 :: a3 :: a4 :: some (vL z) :: none :: ls) st h)) := by
  apply propext
  have e9 := stOK_eq (j := 4) (a := a4) (show ((a0 :: a1 :: a2 :: a3 :: a4 :: b :: b2 :: ls) : LcT)[4]? = some a4 from rfl)
  constructor
  · intro q
    exact ⟨e9.symm.trans q.1.1, q.2⟩
  · intro q
    exact ⟨⟨e9.trans q.1, by show 5 + 1 < _; simp only [List.length_cons]; omega⟩, q.2⟩
theorem rl_43 (p : Nat) (cs : List AE) (h : AH) (ls : LcT) (st : List AV) (a0 a1 a2 a3 a4 : Option AV) (z n : Int) : (run1 CR Q K ((p, 9, 5, [n]) :: cs) (a0 :: a1 :: a2 :: a3 :: a4 :: some (vI z) :: ls) st h) = (run1 CR Q K cs (a0 :: a1 :: a2 :: a3 :: a4 :: some (vI (w32 (z + n))) :: ls) st h) := rfl
theorem rl_44 (p : Nat) (cs : List AE) (h : AH) (ls : LcT) (st : List AV) (a0 a1 a2 a3 a4 a5 : Option AV) (z : Int) (ys : List Int) : (run1 CR Q K ((p, 3, 6, ys) :: cs) (a0 :: a1 :: a2 :: a3 :: a4 :: a5 :: some (vI z) :: ls) st h) = (run1 CR Q K cs (a0 :: a1 :: a2 :: a3 :: a4 :: a5 :: some (vI z) :: ls) (vI z :: st) h) := rfl
theorem rl_45 (p : Nat) (cs : List AE) (h : AH) (ls : LcT) (st : List AV) (a0 a1 a2 a3 a4 a5 : Option AV) (z : Int) (ys : List Int) : (run1 CR Q K ((p, 4, 6, ys) :: cs) (a0 :: a1 :: a2 :: a3 :: a4 :: a5 :: some (vL z) :: ls) st h) = (run1 CR Q K cs (a0 :: a1 :: a2 :: a3 :: a4 :: a5 :: some (vL z) :: ls) (vL z :: st) h) := rfl
theorem rl_46 (p : Nat) (cs : List AE) (h : AH) (ls : LcT) (st : List AV) (a0 a1 a2 a3 a4 a5 : Option AV) (z : Nat) (ys : List Int) : (run1 CR Q K ((p, 5, 6, ys) :: cs) (a0 :: a1 :: a2 :: a3 :: a4 :: a5 :: some (vR z) :: ls) st h) = (run1 CR Q K cs (a0 :: a1 :: a2 :: a3 :: a4 :: a5 :: some (vR z) :: ls) (vR z :: st) h) := rfl
theorem rl_47 (p : Nat) (cs : List AE) (h : AH) (ls : LcT) (st : List AV) (a0 a1 a2 a3 a4 a5 : Option AV) (b : Option AV) (z : Int) (ys : List Int) : (run1 CR Q K ((p, 6, 6, ys) :: cs) (a0 :: a1 :: a2 :: a3 :: a4 :: a5 :: b :: ls) (vI z :: st) h) = ((stK a5 = true ∧ run1 CR Q K cs (a0 :: a1 :: a2 :: a3 :: a4 :: a5 :: some (vI z) :: ls) st h)) := by
  apply propext
  have e9 := stOK_eq (j := 5) (a := a5) (show ((a0 :: a1 :: a2 :: a3 :: a4 :: a5 :: b :: ls) : LcT)[5]? = some a5 from rfl)
  constructor
  · intro q
    exact ⟨e9.symm.trans q.1.1, q.2⟩
  · intro q
    exact ⟨⟨e9.trans q.1, by show 6 < _; simp only [List.length_cons]; omega⟩, q.2⟩
theorem rl_48 (p : Nat) (cs : List AE) (h : AH) (ls : LcT) (st : List AV) (a0 a1 a2 a3 a4 a5 : Option AV) (b : Option AV) (z : Nat) (ys : List Int) : (run1 CR Q K ((p, 8, 6, ys) :: cs) (a0 :: a1 :: a2 :: a3 :: a4 :: a5 :: b :: ls) (vR z :: st) h) = ((stK a5 = true ∧ run1 CR Q K cs (a0 :: a1 :: a2 :: a3 :: a4 :: a5 :: some (vR z) :: ls) st h)) := by
  apply propext
  have e9 := stOK_eq (j := 5) (a := a5) (show ((a0 :: a1 :: a2 :: a3 :: a4 :: a5 :: b :: ls) : LcT)[5]? = some a5 from rfl)
  constructor
  · intro q
    exact ⟨e9.symm.trans q.1.1, q.2⟩
  · intro q
    exact ⟨⟨e9.trans q.1, by show 6 < _; simp only [List.length_cons]; omega⟩, q.2⟩
theorem rl_49 (p : Nat) (cs : List AE) (h : AH) (ls : LcT) (st : List AV) (a0 a1 a2 a3 a4 a5 : Option AV) (b b2 : Option AV) (z : Int) (ys : List Int) : (run1 CR Q K ((p, 7, 6, ys) :: cs) (a0 :: a1 :: a2 :: a3 :: a4 :: a5 :: b :: b2 :: ls) (vL z :: st) h) = ((stK a5 = true ∧ run1 CR Q K cs (a0 :: a1 :: a2 :: a3 :: a4 :: a5 :: some (vL z) :: none :: ls) st h)) := by
  apply propext
  have e9 := stOK_eq (j := 5) (a := a5) (show ((a0 :: a1 :: a2 :: a3 :: a4 :: a5 :: b :: b2 :: ls) : LcT)[5]? = some a5 from rfl)
  constructor
  · intro q
    exact ⟨e9.symm.trans q.1.1, q.2⟩
  · intro q
    exact ⟨⟨e9.trans q.1, by show 6 + 1 < _; simp only [List.length_cons]; omega⟩, q.2⟩
theorem rl_50 (p : Nat) (cs : List AE) (h : AH) (ls : LcT) (st : List AV) (a0 a1 a2 a3 a4 a5 : Option AV) (z n : Int) : (run1 CR Q K ((p, 9, 6, [n]) :: cs) (a0 :: a1 :: a2 :: a3 :: a4 :: a5 :: some (vI z) :: ls) st h) = (run1 CR Q K cs (a0 :: a1 :: a2 :: a3 :: a4 :: a5 :: some (vI (w32 (z + n))) :: ls) st h) := rfl
theorem rl_51 (p : Nat) (cs : List AE) (h : AH) (ls : LcT) (st : List AV) (a0 a1 a2 a3 a4 a5 a6 : Option AV) (z : Int) (ys : List Int) : (run1 CR Q K ((p, 3, 7, ys) :: cs) (a0 :: a1 :: a2 :: a3 :: a4 :: a5 :: a6 :: some (vI z) :: ls) st h) = (run1 CR Q K cs (a0 :: a1 :: a2 :: a3 :: a4 :: a5 :: a6 :: some (vI z) :: ls) (vI z :: st) h) := rfl
theorem rl_52 (p : Nat) (cs : List AE) (h : AH) (ls : LcT) (st : List AV) (a0 a1 a2 a3 a4 a5 a6 : Option AV) (z : Int) (ys : List Int) : (run1 CR Q K ((p, 4, 7, ys) :: cs) (a0 :: a1 :: a2 :: a3 :: a4 :: a5 :: a6 :: some (vL z) :: ls) st h) = (run1 CR Q K cs (a0 :: a1 :: a2 :: a3 :: a4 :: a5 :: a6 :: some (vL z) :: ls) (vL z :: st) h) := rfl
theorem rl_53 (p : Nat) (cs : List AE) (h : AH) (ls : LcT) (st : List AV) (a0 a1 a2 a3 a4 a5 a6 : Option AV) (z : Nat) (ys : List Int) : (run1 CR Q K ((p, 5, 7, ys) :: cs) (a0 :: a1 :: a2 :: a3 :: a4 :: a5 :: a6 :: some (vR z) :: ls) st h) = (run1 CR Q K cs (a0 :: a1 :: a2 :: a3 :: a4 :: a5 :: a6 :: some (vR z) :: ls) (vR z :: st) h) := rfl
theorem rl_54 (p : Nat) (cs : List AE) (h : AH) (ls : LcT) (st : List AV) (a0 a1 a2 a3 a4 a5 a6 : Option AV) (b : Option AV) (z : Int) (ys : List Int) : (run1 CR Q K ((p, 6, 7, ys) :: cs) (a0 :: a1 :: a2 :: a3 :: a4 :: a5 :: a6 :: b :: ls) (vI z :: st) h) = ((stK a6 = true ∧ run1 CR Q K cs (a0 :: a1 :: a2 :: a3 :: a4 :: a5 :: a6 :: some (vI z) :: ls) st h)) := by
  apply propext
  have e9 := stOK_eq (j := 6) (a := a6) (show ((a0 :: a1 :: a2 :: a3 :: a4 :: a5 :: a6 :: b :: ls) : LcT)[6]? = some a6 from rfl)
  constructor
  · intro q
    exact ⟨e9.symm.trans q.1.1, q.2⟩
  · intro q
    exact ⟨⟨e9.trans q.1, by show 7 < _; simp only [List.length_cons]; omega⟩, q.2⟩
theorem rl_55 (p : Nat) (cs : List AE) (h : AH) (ls : LcT) (st : List AV) (a0 a1 a2 a3 a4 a5 a6 : Option AV) (b : Option AV) (z : Nat) (ys : List Int) : (run1 CR Q K ((p, 8, 7, ys) :: cs) (a0 :: a1 :: a2 :: a3 :: a4 :: a5 :: a6 :: b :: ls) (vR z :: st) h) = ((stK a6 = true ∧ run1 CR Q K cs (a0 :: a1 :: a2 :: a3 :: a4 :: a5 :: a6 :: some (vR z) :: ls) st h)) := by
  apply propext
  have e9 := stOK_eq (j := 6) (a := a6) (show ((a0 :: a1 :: a2 :: a3 :: a4 :: a5 :: a6 :: b :: ls) : LcT)[6]? = some a6 from rfl)
  constructor
  · intro q
    exact ⟨e9.symm.trans q.1.1, q.2⟩
  · intro q
    exact ⟨⟨e9.trans q.1, by show 7 < _; simp only [List.length_cons]; omega⟩, q.2⟩
theorem rl_56 (p : Nat) (cs : List AE) (h : AH) (ls : LcT) (st : List AV) (a0 a1 a2 a3 a4 a5 a6 : Option AV) (b b2 : Option AV) (z : Int) (ys : List Int) : (run1 CR Q K ((p, 7, 7, ys) :: cs) (a0 :: a1 :: a2 :: a3 :: a4 :: a5 :: a6 :: b :: b2 :: ls) (vL z :: st) h) = ((stK a6 = true ∧ run1 CR Q K cs (a0 :: a1 :: a2 :: a3 :: a4 :: a5 :: a6 :: some (vL z) :: none :: ls) st h)) := by
  apply propext
  have e9 := stOK_eq (j := 6) (a := a6) (show ((a0 :: a1 :: a2 :: a3 :: a4 :: a5 :: a6 :: b :: b2 :: ls) : LcT)[6]? = some a6 from rfl)
  constructor
  · intro q
    exact ⟨e9.symm.trans q.1.1, q.2⟩
  · intro q
    exact ⟨⟨e9.trans q.1, by show 7 + 1 < _; simp only [List.length_cons]; omega⟩, q.2⟩
theorem rl_57 (p : Nat) (cs : List AE) (h : AH) (ls : LcT) (st : List AV) (a0 a1 a2 a3 a4 a5 a6 : Option AV) (z n : Int) : (run1 CR Q K ((p, 9, 7, [n]) :: cs) (a0 :: a1 :: a2 :: a3 :: a4 :: a5 :: a6 :: some (vI z) :: ls) st h) = (run1 CR Q K cs (a0 :: a1 :: a2 :: a3 :: a4 :: a5 :: a6 :: some (vI (w32 (z + n))) :: ls) st h) := rfl
theorem rl_58 (p : Nat) (cs : List AE) (h : AH) (ls : LcT) (st : List AV) (a0 a1 a2 a3 a4 a5 a6 a7 : Option AV) (z : Int) (ys : List Int) : (run1 CR Q K ((p, 3, 8, ys) :: cs) (a0 :: a1 :: a2 :: a3 :: a4 :: a5 :: a6 :: a7 :: some (vI z) :: ls) st h) = (run1 CR Q K cs (a0 :: a1 :: a2 :: a3 :: a4 :: a5 :: a6 :: a7 :: some (vI z) :: ls) (vI z :: st) h) := rfl
theorem rl_59 (p : Nat) (cs : List AE) (h : AH) (ls : LcT) (st : List AV) (a0 a1 a2 a3 a4 a5 a6 a7 : Option AV) (z : Int) (ys : List Int) : (run1 CR Q K ((p, 4, 8, ys) :: cs) (a0 :: a1 :: a2 :: a3 :: a4 :: a5 :: a6 :: a7 :: some (vL z) :: ls) st h) = (run1 CR Q K cs (a0 :: a1 :: a2 :: a3 :: a4 :: a5 :: a6 :: a7 :: some (vL z) :: ls) (vL z :: st) h) := rfl
theorem rl_60 (p : Nat) (cs : List AE) (h : AH) (ls : LcT) (st : List AV) (a0 a1 a2 a3 a4 a5 a6 a7 : Option AV) (z : Nat) (ys : List Int) : (run1 CR Q K ((p, 5, 8, ys) :: cs) (a0 :: a1 :: a2 :: a3 :: a4 :: a5 :: a6 :: a7 :: some (vR z) :: ls) st h) = (run1 CR Q K cs (a0 :: a1 :: a2 :: a3 :: a4 :: a5 :: a6 :: a7 :: some (vR z) :: ls) (vR z :: st) h) := rfl
theorem rl_61 (p : Nat) (cs : List AE) (h : AH) (ls : LcT) (st : List AV) (a0 a1 a2 a3 a4 a5 a6 a7 : Option AV) (b : Option AV) (z : Int) (ys : List Int) : (run1 CR Q K ((p, 6, 8, ys) :: cs) (a0 :: a1 :: a2 :: a3 :: a4 :: a5 :: a6 :: a7 :: b :: ls) (vI z :: st) h) = ((stK a7 = true ∧ run1 CR Q K cs (a0 :: a1 :: a2 :: a3 :: a4 :: a5 :: a6 :: a7 :: some (vI z) :: ls) st h)) := by
  apply propext
  have e9 := stOK_eq (j := 7) (a := a7) (show ((a0 :: a1 :: a2 :: a3 :: a4 :: a5 :: a6 :: a7 :: b :: ls) : LcT)[7]? = some a7 from rfl)
  constructor
  · intro q
    exact ⟨e9.symm.trans q.1.1, q.2⟩
  · intro q
    exact ⟨⟨e9.trans q.1, by show 8 < _; simp only [List.length_cons]; omega⟩, q.2⟩
theorem rl_62 (p : Nat) (cs : List AE) (h : AH) (ls : LcT) (st : List AV) (a0 a1 a2 a3 a4 a5 a6 a7 : Option AV) (b : Option AV) (z : Nat) (ys : List Int) : (run1 CR Q K ((p, 8, 8, ys) :: cs) (a0 :: a1 :: a2 :: a3 :: a4 :: a5 :: a6 :: a7 :: b :: ls) (vR z :: st) h) = ((stK a7 = true ∧ run1 CR Q K cs (a0 :: a1 :: a2 :: a3 :: a4 :: a5 :: a6 :: a7 :: some (vR z) :: ls) st h)) := by
  apply propext
  have e9 := stOK_eq (j := 7) (a := a7) (show ((a0 :: a1 :: a2 :: a3 :: a4 :: a5 :: a6 :: a7 :: b :: ls) : LcT)[7]? = some a7 from rfl)
  constructor
  · intro q
    exact ⟨e9.symm.trans q.1.1, q.2⟩
  · intro q
    exact ⟨⟨e9.trans q.1, by show 8 < _; simp only [List.length_cons]; omega⟩, q.2⟩
theorem rl_63 (p : Nat) (cs : List AE) (h : AH) (ls : LcT) (st : List AV) (a0 a1 a2 a3 a4 a5 a6 a7 : Option AV) (b b2 : Option AV) (z : Int) (ys : List Int) : (run1 CR Q K ((p, 7, 8, ys) :: cs) (a0 :: a1 :: a2 :: a3 :: a4 :: a5 :: a6 :: a7 :: b :: b2 :: ls) (vL z :: st) h) = ((stK a7 = true ∧ run1 CR Q K cs (a0 :: a1 :: a2 :: a3 :: a4 :: a5 :: a6 :: a7 :: some (vL z) :: none :: ls) st h)) := by
  apply propext
  have e9 := stOK_eq (j := 7) (a := a7) (show ((a0 :: a1 :: a2 :: a3 :: a4 :: a5 :: a6 :: a7 :: b :: b2 :: ls) : LcT)[7]? = some a7 from rfl)
  constructor
  · intro q
    exact ⟨e9.symm.trans q.1.1, q.2⟩
  · intro q
    exact ⟨⟨e9.trans q.1, by show 8 + 1 < _; simp only [List.length_cons]; omega⟩, q.2⟩
theorem rl_64 (p : Nat) (cs : List AE) (h : AH) (ls : LcT) (st : List AV) (a0 a1 a2 a3 a4 a5 a6 a7 : Option AV) (z n : Int) : (run1 CR Q K ((p, 9, 8, [n]) :: cs) (a0 :: a1 :: a2 :: a3 :: a4 :: a5 :: a6 :: a7 :: some (vI z) :: ls) st h) = (run1 CR Q K cs (a0 :: a1 :: a2 :: a3 :: a4 :: a5 :: a6 :: a7 :: some (vI (w32 (z + n))) :: ls) st h) := rfl
theorem rl_65 (p : Nat) (cs : List AE) (h : AH) (ls : LcT) (st : List AV) (a0 a1 a2 a3 a4 a5 a6 a7 a8 : Option AV) (z : Int) (ys : List Int) : (run1 CR Q K ((p, 3, 9, ys) :: cs) (a0 :: a1 :: a2 :: a3 :: a4 :: a5 :: a6 :: a7 :: a8 :: some (vI z) :: ls) st h) = (run1 CR Q K cs (a0 :: a1 :: a2 :: a3 :: a4 :: a5 :: a6 :: a7 :: a8 :: some (vI z) :: ls) (vI z :: st) h) := rfl
theorem rl_66 (p : Nat) (cs : List AE) (h : AH) (ls : LcT) (st : List AV) (a0 a1 a2 a3 a4 a5 a6 a7 a8 : Option AV) (z : Int) (ys : List Int) : (run1 CR Q K ((p, 4, 9, ys) :: cs) (a0 :: a1 :: a2 :: a3 :: a4 :: a5 :: a6 :: a7 :: a8 :: some (vL z) :: ls) st h) = (run1 CR Q K cs (a0 :: a1 :: a2 :: a3 :: a4 :: a5 :: a6 :: a7 :: a8 :: some (vL z) :: ls) (vL z :: st) h) := rfl
theorem rl_67 (p : Nat) (cs : List AE) (h : AH) (ls : LcT) (st : List AV) (a0 a1 a2 a3 a4 a5 a6 a7 a8 : Option AV) (z : Nat) (ys : List Int) : (run1 CR Q K ((p, 5, 9, ys) :: cs) (a0 :: a1 :: a2 :: a3 :: a4 :: a5 :: a6 :: a7 :: a8 :: some (vR z) :: ls) st h) = (run1 CR Q K cs (a0 :: a1 :: a2 :: a3 :: a4 :: a5 :: a6 :: a7 :: a8 :: some (vR z) :: ls) (vR z :: st) h) := rfl
theorem rl_68 (p : Nat) (cs : List AE) (h : AH) (ls : LcT) (st : List AV) (a0 a1 a2 a3 a4 a5 a6 a7 a8 : Option AV) (b : Option AV) (z : Int) (ys : List Int) : (run1 CR Q K ((p, 6, 9, ys) :: cs) (a0 :: a1 :: a2 :: a3 :: a4 :: a5 :: a6 :: a7 :: a8 :: b :: ls) (vI z :: st) h) = ((stK a8 = true ∧ run1 CR Q K cs (a0 :: a1 :: a2 :: a3 :: a4 :: a5 :: a6 :: a7 :: a8 :: some (vI z) :: ls) st h)) := by
  apply propext
  have e9 := stOK_eq (j := 8) (a := a8) (show ((a0 :: a1 :: a2 :: a3 :: a4 :: a5 :: a6 :: a7 :: a8 :: b :: ls) : LcT)[8]? = some a8 from rfl)
  constructor
  · intro q
    exact ⟨e9.symm.trans q.1.1, q.2⟩
  · intro q
    exact ⟨⟨e9.trans q.1, by show 9 < _; simp only [List.length_cons]; omega⟩, q.2⟩
theorem rl_69 (p : Nat) (cs : List AE) (h : AH) (ls : LcT) (st : List AV) (a0 a1 a2 a3 a4 a5 a6 a7 a8 : Option AV) (b : Option AV) (z : Nat) (ys : List Int) : (run1 CR Q K ((p, 8, 9, ys) :: cs) (a0 :: a1 :: a2 :: a3 :: a4 :: a5 :: a6 :: a7 :: a8 :: b :: ls) (vR z :: st) h) = ((stK a8 = true ∧ run1 CR Q K cs (a0 :: a1 :: a2 :: a3 :: a4 :: a5 :: a6 :: a7 :: a8 :: some (vR z) :: ls) st h)) := by
  apply propext
  have e9 := stOK_eq (j := 8) (a := a8) (show ((a0 :: a1 :: a2 :: a3 :: a4 :: a5 :: a6 :: a7 :: a8 :: b :: ls) : LcT)[8]? = some a8 from rfl)
  constructor
  · intro q
    exact ⟨e9.symm.trans q.1.1, q.2⟩
  · intro q
    exact ⟨⟨e9.trans q.1, by show 9 < _; simp only [List.length_cons]; omega⟩, q.2⟩
theorem rl_70 (p : Nat) (cs : List AE) (h : AH) (ls : LcT) (st : List AV) (a0 a1 a2 a3 a4 a5 a6 a7 a8 : Option AV) (b b2 : Option AV) (z : Int) (ys : List Int) : (run1 CR Q K ((p, 7, 9, ys) :: cs) (a0 :: a1 :: a2 :: a3 :: a4 :: a5 :: a6 :: a7 :: a8 :: b :: b2 :: ls) (vL z :: st) h) = ((stK a8 = true ∧ run1 CR Q K cs (a0 :: a1 :: a2 :: a3 :: a4 :: a5 :: a6 :: a7 :: a8 :: some (vL z) :: none :: ls) st h)) := by
  apply propext
  have e9 := stOK_eq (j := 8) (a := a8) (show ((a0 :: a1 :: a2 :: a3 :: a4 :: a5 :: a6 :: a7 :: a8 :: b :: b2 :: ls) : LcT)[8]? = some a8 from rfl)
  constructor
  · intro q
    exact ⟨e9.symm.trans q.1.1, q.2⟩
  · intro q
    exact ⟨⟨e9.trans q.1, by show 9 + 1 < _; simp only [List.length_cons]; omega⟩, q.2⟩
theorem rl_71 (p : Nat) (cs : List AE) (h : AH) (ls : LcT) (st : List AV) (a0 a1 a2 a3 a4 a5 a6 a7 a8 : Option AV) (z n : Int) : (run1 CR Q K ((p, 9, 9, [n]) :: cs) (a0 :: a1 :: a2 :: a3 :: a4 :: a5 :: a6 :: a7 :: a8 :: some (vI z) :: ls) st h) = (run1 CR Q K cs (a0 :: a1 :: a2 :: a3 :: a4 :: a5 :: a6 :: a7 :: a8 :: some (vI (w32 (z + n))) :: ls) st h) := rfl
theorem rl_72 (p : Nat) (cs : List AE) (h : AH) (ls : LcT) (st : List AV) (a0 a1 a2 a3 a4 a5 a6 a7 a8 a9 : Option AV) (z : Int) (ys : List Int) : (run1 CR Q K ((p, 3, 10, ys) :: cs) (a0 :: a1 :: a2 :: a3 :: a4 :: a5 :: a6 :: a7 :: a8 :: a9 :: some (vI z) :: ls) st h) = (run1 CR Q K cs (a0 :: a1 :: a2 :: a3 :: a4 :: a5 :: a6 :: a7 :: a8 :: a9 :: some (vI z) :: ls) (vI z :: st) h) := rfl
theorem rl_73 (p : Nat) (cs : List AE) (h : AH) (ls : LcT) (st : List AV) (a0 a1 a2 a3 a4 a5 a6 a7 a8 a9 : Option AV) (z : Int) (ys : List Int) : (run1 CR Q K ((p, 4, 10, ys) :: cs) (a0 :: a1 :: a2 :: a3 :: a4 :: a5 :: a6 :: a7 :: a8 :: a9 :: some (vL z) :: ls) st h) = (run1 CR Q K cs (a0 :: a1 :: a2 :: a3 :: a4 :: a5 :: a6 :: a7 :: a8 :: a9 :: some (vL z) :: ls) (vL z :: st) h) := rfl
theorem rl_74 (p : Nat) (cs : List AE) (h : AH) (ls : LcT) (st : List AV) (a0 a1 a2 a3 a4 a5 a6 a7 a8 a9 : Option AV) (z : Nat) (ys : List Int) : (run1 CR Q K ((p, 5, 10, ys) :: cs) (a0 :: a1 :: a2 :: a3 :: a4 :: a5 :: a6 :: a7 :: a8 :: a9 :: some (vR z) :: ls) st h) = (run1 CR Q K cs (a0 :: a1 :: a2 :: a3 :: a4 :: a5 :: a6 :: a7 :: a8 :: a9 :: some (vR z) :: ls) (vR z :: st) h) := rfl
theorem rl_75 (p : Nat) (cs : List AE) (h : AH) (ls : LcT) (st : List AV) (a0 a1 a2 a3 a4 a5 a6 a7 a8 a9 : Option AV) (b : Option AV) (z : Int) (ys : List Int) : (run1 CR Q K ((p, 6, 10, ys) :: cs) (a0 :: a1 :: a2 :: a3 :: a4 :: a5 :: a6 :: a7 :: a8 :: a9 :: b :: ls) (vI z :: st) h) = ((stK a9 = true ∧ run1 CR Q K cs (a0 :: a1 :: a2 :: a3 :: a4 :: a5 :: a6 :: a7 :: a8 :: a9 :: some (vI z) :: ls) st h)) := by
  apply propext
  have e9 := stOK_eq (j := 9) (a := a9) (show ((a0 :: a1 :: a2 :: a3 :: a4 :: a5 :: a6 :: a7 :: a8 :: a9 :: b :: ls) : LcT)[9]? = some a9 from rfl)
  constructor
  · intro q
    exact ⟨e9.symm.trans q.1.1, q.2⟩
  · intro q
    exact ⟨⟨e9.trans q.1, by show 10 < _; simp only [List.length_cons]; omega⟩, q.2⟩
theorem rl_76 (p : Nat) (cs : List AE) (h : AH) (ls : LcT) (st : List AV) (a0 a1 a2 a3 a4 a5 a6 a7 a8 a9 : Option AV) (b : Option AV) (z : Nat) (ys : List Int) : (run1 CR Q K ((p, 8, 10, ys) :: cs) (a0 :: a1 :: a2 :: a3 :: a4 :: a5 :: a6 :: a7 :: a8 :: a9 :: b :: ls) (vR z :: st) h) = ((stK a9 = true ∧ run1 CR Q K cs (a0 :: a1 :: a2 :: a3 :: a4 :: a5 :: a6 :: a7 :: a8 :: a9 :: some (vR z) :: ls) st h)) := by
  apply propext
  have e9 := stOK_eq (j := 9) (a := a9) (show ((a0 :: a1 :: a2 :: a3 :: a4 :: a5 :: a6 :: a7 :: a8 :: a9 :: b :: ls) : LcT)[9]? = some a9 from rfl)
  constructor
  · intro q
    exact ⟨e9.symm.trans q.1.1, q.2⟩
  · intro q
    exact ⟨⟨e9.trans q.1, by show 10 < _; simp only [List.length_cons]; omega⟩, q.2⟩
theorem rl_77 (p : Nat) (cs : List AE) (h : AH) (ls : LcT) (st : List AV) (a0 a1 a2 a3 a4 a5 a6 a7 a8 a9 : Option AV) (b b2 : Option AV) (z : Int) (ys : List Int) : (run1 CR Q K ((p, 7, 10, ys) :: cs) (a0 :: a1 :: a2 :: a3 :: a4 :: a5 :: a6 :: a7 :: a8 :: a9 :: b :: b2 :: ls) (vL z :: st) h) = ((stK a9 = true ∧ run1 CR Q K cs (a0 :: a1 :: a2 :: a3 :: a4 :: a5 :: a6 :: a7 :: a8 :: a9 :: some (vL z) :: none :: ls) st h)) := by
  apply propext
  have e9 := stOK_eq (j := 9) (a := a9) (show ((a0 :: a1 :: a2 :: a3 :: a4 :: a5 :: a6 :: a7 :: a8 :: a9 :: b :: b2 :: ls) : LcT)[9]? = some a9 from rfl)
  constructor
  · intro q
    exact ⟨e9.symm.trans q.1.1, q.2⟩
  · intro q
    exact ⟨⟨e9.trans q.1, by show 10 + 1 < _; simp only [List.length_cons]; omega⟩, q.2⟩
theorem rl_78 (p : Nat) (cs : List AE) (h : AH) (ls : LcT) (st : List AV) (a0 a1 a2 a3 a4 a5 a6 a7 a8 a9 : Option AV) (z n : Int) : (run1 CR Q K ((p, 9, 10, [n]) :: cs) (a0 :: a1 :: a2 :: a3 :: a4 :: a5 :: a6 :: a7 :: a8 :: a9 :: some (vI z) :: ls) st h) = (run1 CR Q K cs (a0 :: a1 :: a2 :: a3 :: a4 :: a5 :: a6 :: a7 :: a8 :: a9 :: some (vI (w32 (z + n))) :: ls) st h) := rfl
theorem rl_79 (p : Nat) (cs : List AE) (h : AH) (ls : LcT) (st : List AV) (a0 a1 a2 a3 a4 a5 a6 a7 a8 a9 a10 : Option AV) (z : Int) (ys : List Int) : (run1 CR Q K ((p, 3, 11, ys) :: cs) (a0 :: a1 :: a2 :: a3 :: a4 :: a5 :: a6 :: a7 :: a8 :: a9 :: a10 :: some (vI z) :: ls) st h) = (run1 CR Q K cs (a0 :: a1 :: a2 :: a3 :: a4 :: a5 :: a6 :: a7 :: a8 :: a9 :: a10 :: some (vI z) :: ls) (vI z :: st) h) := rfl
theorem rl_80 (p : Nat) (cs : List AE) (h : AH) (ls : LcT) (st : List AV) (a0 a1 a2 a3 a4 a5 a6 a7 a8 a9 a10 : Option AV) (z : Int) (ys : List Int) : (run1 CR Q K ((p, 4, 11, ys) :: cs) (a0 :: a1 :: a2 :: a3 :: a4 :: a5 :: a6 :: a7 :: a8 :: a9 :: a10 :: some (vL z) :: ls) st h) = (run1 CR Q K cs (a0 :: a1 :: a2 :: a3 :: a4 :: a5 :: a6 :: a7 :: a8 :: a9 :: a10 :: some (vL z) :: ls) (vL z :: st) h) := rfl
theorem rl_81 (p : Nat) (cs : List AE) (h : AH) (ls : LcT) (st : List AV) (a0 a1 a2 a3 a4 a5 a6 a7 a8 a9 a10 : Option AV) (z : Nat) (ys : List Int) : (run1 CR Q K ((p, 5, 11, ys) :: cs) (a0 :: a1 :: a2 :: a3 :: a4 :: a5 :: a6 :: a7 :: a8 :: a9 :: a10 :: some (vR z) :: ls) st h) = (run1 CR Q K cs (a0 :: a1 :: a2 :: a3 :: a4 :: a5 :: a6 :: a7 :: a8 :: a9 :: a10 :: some (vR z) :: ls) (vR z :: st) h) := rfl
theorem rl_82 (p : Nat) (cs : List AE) (h : AH) (ls : LcT) (st : List AV) (a0 a1 a2 a3 a4 a5 a6 a7 a8 a9 a10 : Option AV) (b : Option AV) (z : Int) (ys : List Int) : (run1 CR Q K ((p, 6, 11, ys) :: cs) (a0 :: a1 :: a2 :: a3 :: a4 :: a5 :: a6 :: a7 :: a8 :: a9 :: a10 :: b :: ls) (vI z :: st) h) = ((stK a10 = true ∧ run1 CR Q K cs (a0 :: a1 :: a2 :: a3 :: a4 :: a5 :: a6 :: a7 :: a8 :: a9 :: a10 :: some (vI z) :: ls) st h)) := by
  apply propext
  have e9 := stOK_eq (j := 10) (a := a10) (show ((a0 :: a1 :: a2 :: a3 :: a4 :: a5 :: a6 :: a7 :: a8 :: a9 :: a10 :: b :: ls) : LcT)[10]? = some a10 from rfl)
  constructor
  · intro q
    exact ⟨e9.symm.trans q.1.1, q.2⟩
  · intro q
    exact ⟨⟨e9.trans q.1, by show 11 < _; simp only [List.length_cons]; omega⟩, q.2⟩
theorem rl_83 (p : Nat) (cs : List AE) (h : AH) (ls : LcT) (st : List AV) (a0 a1 a2 a3 a4 a5 a6 a7 a8 a9 a10 : Option AV) (b : Option AV) (z : Nat) (ys : List Int) : (run1 CR Q K ((p, 8, 11, ys) :: cs) (a0 :: a1 :: a2 :: a3 :: a4 :: a5 :: a6 :: a7 :: a8 :: a9 :: a10 :: b :: ls) (vR z :: st) h) = ((stK a10 = true ∧ run1 CR Q K cs (a0 :: a1 :: a2 :: a3 :: a4 :: a5 :: a6 :: a7 :: a8 :: a9 :: a10 :: some (vR z) :: ls) st h)) := by
  apply propext
  have e9 := stOK_eq (j := 10) (a := a10) (show ((a0 :: a1 :: a2 :: a3 :: a4 :: a5 :: a6 :: a7 :: a8 :: a9 :: a10 :: b :: ls) : LcT)[10]? = some a10 from rfl)
  constructor
  · intro q
    exact ⟨e9.symm.trans q.1.1, q.2⟩
  · intro q
    exact ⟨⟨e9.trans q.1, by show 11 < _; simp only [List.length_cons]; omega⟩, q.2⟩
theorem rl_84 (p : Nat) (cs : List AE) (h : AH) (ls : LcT) (st : List AV) (a0 a1 a2 a3 a4 a5 a6 a7 a8 a9 a10 : Option AV) (b b2 : Option AV) (z : Int) (ys : List Int) : (run1 CR Q K ((p, 7, 11, ys) :: cs) (a0 :: a1 :: a2 :: a3 :: a4 :: a5 :: a6 :: a7 :: a8 :: a9 :: a10 :: b :: b2 :: ls) (vL z :: st) h) = ((stK a10 = true ∧ run1 CR Q K cs (a0 :: a1 :: a2 :: a3 :: a4 :: a5 :: a6 :: a7 :: a8 :: a9 :: a10 :: some (vL z) :: none :: ls) st h)) := by
  apply propext
  have e9 := stOK_eq (j := 10) (a := a10) (show ((a0 :: a1 :: a2 :: a3 :: a4 :: a5 :: a6 :: a7 :: a8 :: a9 :: a10 :: b :: b2 :: ls) : LcT)[10]? = some a10 from rfl)
  constructor
  · intro q
    exact ⟨e9.symm.trans q.1.1, q.2⟩
  · intro q
    exact ⟨⟨e9.trans q.1, by show 11 + 1 < _; simp only [List.length_cons]; omega⟩, q.2⟩
theorem rl_85 (p : Nat) (cs : List AE) (h : AH) (ls : LcT) (st : List AV) (a0 a1 a2 a3 a4 a5 a6 a7 a8 a9 a10 : Option AV) (z n : Int) : (run1 CR Q K ((p, 9, 11, [n]) :: cs) (a0 :: a1 :: a2 :: a3 :: a4 :: a5 :: a6 :: a7 :: a8 :: a9 :: a10 :: some (vI z) :: ls) st h) = (run1 CR Q K cs (a0 :: a1 :: a2 :: a3 :: a4 :: a5 :: a6 :: a7 :: a8 :: a9 :: a10 :: some (vI (w32 (z + n))) :: ls) st h) := rfl
theorem rl_86 (p : Nat) (cs : List AE) (h : AH) (ls : LcT) (st : List AV) (a0 a1 a2 a3 a4 a5 a6 a7 a8 a9 a10 a11 : Option AV) (z : Int) (ys : List Int) : (run1 CR Q K ((p, 3, 12, ys) :: cs) (a0 :: a1 :: a2 :: a3 :: a4 :: a5 :: a6 :: a7 :: a8 :: a9 :: a10 :: a11 :: some (vI z) :: ls) st h) = (run1 CR Q K cs (a0 :: a1 :: a2 :: a3 :: a4 :: a5 :: a6 :: a7 :: a8 :: a9 :: a10 :: a11 :: some (vI z) :: ls) (vI z :: st) h) := rfl
theorem rl_87 (p : Nat) (cs : List AE) (h : AH) (ls : LcT) (st : List AV) (a0 a1 a2 a3 a4 a5 a6 a7 a8 a9 a10 a11 : Option AV) (z : Int) (ys : List Int) : (run1 CR Q K ((p, 4, 12, ys) :: cs) (a0 :: a1 :: a2 :: a3 :: a4 :: a5 :: a6 :: a7 :: a8 :: a9 :: a10 :: a11 :: some (vL z) :: ls) st h) = (run1 CR Q K cs (a0 :: a1 :: a2 :: a3 :: a4 :: a5 :: a6 :: a7 :: a8 :: a9 :: a10 :: a11 :: some (vL z) :: ls) (vL z :: st) h) := rfl
theorem rl_88 (p : Nat) (cs : List AE) (h : AH) (ls : LcT) (st : List AV) (a0 a1 a2 a3 a4 a5 a6 a7 a8 a9 a10 a11 : Option AV) (z : Nat) (ys : List Int) : (run1 CR Q K ((p, 5, 12, ys) :: cs) (a0 :: a1 :: a2 :: a3 :: a4 :: a5 :: a6 :: a7 :: a8 :: a9 :: a10 :: a11 :: some (vR z) :: ls) st h) = (run1 CR Q K cs (a0 :: a1 :: a2 :: a3 :: a4 :: a5 :: a6 :: a7 :: a8 :: a9 :: a10 :: a11 :: some (vR z) :: ls) (vR z :: st) h) := rfl
theorem rl_89 (p : Nat) (cs : List AE) (h : AH) (ls : LcT) (st : List AV) (a0 a1 a2 a3 a4 a5 a6 a7 a8 a9 a10 a11 : Option AV) (b : Option AV) (z : Int) (ys : List Int) : (run1 CR Q K ((p, 6, 12, ys) :: cs) (a0 :: a1 :: a2 :: a3 :: a4 :: a5 :: a6 :: a7 :: a8 :: a9 :: a10 :: a11 :: b :: ls) (vI z :: st) h) = ((stK a11 = true ∧ run1 CR Q K cs (a0 :: a1 :: a2 :: a3 :: a4 :: a5 :: a6 :: a7 :: a8 :: a9 :: a10 :: a11 :: some (vI z) :: ls) st h)) := by
  apply propext
  have e9 := stOK_eq (j := 11) (a := a11) (show ((a0 :: a1 :: a2 :: a3 :: a4 :: a5 :: a6 :: a7 :: a8 :: a9 :: a10 :: a11 :: b :: ls) : LcT)[11]? = some a11 from rfl)
  constructor
  · intro q
    exact ⟨e9.symm.trans q.1.1, q.2⟩
  · intro q
    exact ⟨⟨e9.trans q.1, by show 12 < _; simp only [List.length_cons]; omega⟩, q.2⟩
theorem rl_90 (p : Nat) (cs : List AE) (h : AH) (ls : LcT) (st : List AV) (a0 a1 a2 a3 a4 a5 a6 a7 a8 a9 a10 a11 : Option AV) (b : Option AV) (z : Nat) (ys : List Int) : (run1 CR Q K ((p, 8, 12, ys) :: cs) (a0 :: a1 :: a2 :: a3 :: a4 :: a5 :: a6 :: a7 :: a8 :: a9 :: a10 :: a11 :: b :: ls) (vR z :: st) h) = ((stK a11 = true ∧ run1 CR Q K cs (a0 :: a1 :: a2 :: a3 :: a4 :: a5 :: a6 :: a7 :: a8 :: a9 :: a10 :: a11 :: some (vR z) :: ls) st h)) := by
  apply propext
  have e9 := stOK_eq (j := 11) (a := a11) (show ((a0 :: a1 :: a2 :: a3 :: a4 :: a5 :: a6 :: a7 :: a8 :: a9 :: a10 :: a11 :: b :: ls) : LcT)[11]? = some a11 from rfl)
  constructor
  · intro q
    exact ⟨e9.symm.trans q.1.1, q.2⟩
  · intro q
    exact ⟨⟨e9.trans q.1, by show 12 < _; simp only [List.length_cons]; omega⟩, q.2⟩
theorem rl_91 (p : Nat) (cs : List AE) (h : AH) (ls : LcT) (st : List AV) (a0 a1 a2 a3 a4 a5 a6 a7 a8 a9 a10 a11 : Option AV) (b b2 : Option AV) (z : Int) (ys : List Int) : (run1 CR Q K ((p, 7, 12, ys) :: cs) (a0 :: a1 :: a2 :: a3 :: a4 :: a5 :: a6 :: a7 :: a8 :: a9 :: a10 :: a11 :: b :: b2 :: ls) (vL z :: st) h) = ((stK a11 = true ∧ run1 CR Q K cs (a0 :: a1 :: a2 :: a3 :: a4 :: a5 :: a6 :: a7 :: a8 :: a9 :: a10 :: a11 :: some (vL z) :: none :: ls) st h)) := by
  apply propext
  have e9 := stOK_eq (j := 11) (a := a11) (show ((a0 :: a1 :: a2 :: a3 :: a4 :: a5 :: a6 :: a7 :: a8 :: a9 :: a10 :: a11 :: b :: b2 :: ls) : LcT)[11]? = some a11 from rfl)
  constructor
  · intro q
    exact ⟨e9.symm.trans q.1.1, q.2⟩
  · intro q
    exact ⟨⟨e9.trans q.1, by show 12 + 1 < _; simp only [List.length_cons]; omega⟩, q.2⟩
theorem rl_92 (p : Nat) (cs : List AE) (h : AH) (ls : LcT) (st : List AV) (a0 a1 a2 a3 a4 a5 a6 a7 a8 a9 a10 a11 : Option AV) (z n : Int) : (run1 CR Q K ((p, 9, 12, [n]) :: cs) (a0 :: a1 :: a2 :: a3 :: a4 :: a5 :: a6 :: a7 :: a8 :: a9 :: a10 :: a11 :: some (vI z) :: ls) st h) = (run1 CR Q K cs (a0 :: a1 :: a2 :: a3 :: a4 :: a5 :: a6 :: a7 :: a8 :: a9 :: a10 :: a11 :: some (vI (w32 (z + n))) :: ls) st h) := rfl
theorem rl_93 (p : Nat) (cs : List AE) (h : AH) (ls : LcT) (st : List AV) (a0 a1 a2 a3 a4 a5 a6 a7 a8 a9 a10 a11 a12 : Option AV) (z : Int) (ys : List Int) : (run1 CR Q K ((p, 3, 13, ys) :: cs) (a0 :: a1 :: a2 :: a3 :: a4 :: a5 :: a6 :: a7 :: a8 :: a9 :: a10 :: a11 :: a12 :: some (vI z) :: ls) st h) = (run1 CR Q K cs (a0 :: a1 :: a2 :: a3 :: a4 :: a5 :: a6 :: a7 :: a8 :: a9 :: a10 :: a11 :: a12 :: some (vI z) :: ls) (vI z :: st) h) := rfl
theorem rl_94 (p : Nat) (cs : List AE) (h : AH) (ls : LcT) (st : List AV) (a0 a1 a2 a3 a4 a5 a6 a7 a8 a9 a10 a11 a12 : Option AV) (z : Int) (ys : List Int) : (run1 CR Q K ((p, 4, 13, ys) :: cs) (a0 :: a1 :: a2 :: a3 :: a4 :: a5 :: a6 :: a7 :: a8 :: a9 :: a10 :: a11 :: a12 :: some (vL z) :: ls) st h) = (run1 CR Q K cs (a0 :: a1 :: a2 :: a3 :: a4 :: a5 :: a6 :: a7 :: a8 :: a9 :: a10 :: a11 :: a12 :: some (vL z) :: ls) (vL z :: st) h) := rfl
theorem rl_95 (p : Nat) (cs : List AE) (h : AH) (ls : LcT) (st : List AV) (a0 a1 a2 a3 a4 a5 a6 a7 a8 a9 a10 a11 a12 : Option AV) (z : Nat) (ys : List Int) : (run1 CR Q K ((p, 5, 13, ys) :: cs) (a0 :: a1 :: a2 :: a3 :: a4 :: a5 :: a6 :: a7 :: a8 :: a9 :: a10 :: a11 :: a12 :: some (vR z) :: ls) st h) = (run1 CR Q K cs (a0 :: a1 :: a2 :: a3 :: a4 :: a5 :: a6 :: a7 :: a8 :: a9 :: a10 :: a11 :: a12 :: some (vR z) :: ls) (vR z :: st) h) := rfl
theorem rl_96 (p : Nat) (cs : List AE) (h : AH) (ls : LcT) (st : List AV) (a0 a1 a2 a3 a4 a5 a6 a7 a8 a9 a10 a11 a12 : Option AV) (b : Option AV) (z : Int) (ys : List Int) : (run1 CR Q K ((p, 6, 13, ys) :: cs) (a0 :: a1 :: a2 :: a3 :: a4 :: a5 :: a6 :: a7 :: a8 :: a9 :: a10 :: a11 :: a12 :: b :: ls) (vI z :: st) h) = ((stK a12 = true ∧ run1 CR Q K cs (a0 :: a1 :: a2 :: a3 :: a4 :: a5 :: a6 :: a7 :: a8 :: a9 :: a10 :: a11 :: a12 :: some (vI z) :: ls) st h)) := by
  apply propext
  have e9 := stOK_eq (j := 12) (a := a12) (show ((a0 :: a1 :: a2 :: a3 :: a4 :: a5 :: a6 :: a7 :: a8 :: a9 :: a10 :: a11 :: a12 :: b :: ls) : LcT)[12]? = some a12 from rfl)
  constructor
  · intro q
    exact ⟨e9.symm.trans q.1.1, q.2⟩
  · intro q
    exact ⟨⟨e9.trans q.1, by show 13 < _; simp only [List.length_cons]; omega⟩, q.2⟩
theorem rl_97 (p : Nat) (cs : List AE) (h : AH) (ls : LcT) (st : List AV) (a0 a1 a2 a3 a4 a5 a6 a7 a8 a9 a10 a11 a12 : Option AV) (b : Option AV) (z : Nat) (ys : List Int) : (run1 CR Q K ((p, 8, 13, ys) :: cs) (a0 :: a1 :: a2 :: a3 :: a4 :: a5 :: a6 :: a7 :: a8 :: a9 :: a10 :: a11 :: a12 :: b :: ls) (vR z :: st) h) = ((stK a12 = true ∧ run1 CR Q K cs (a0 :: a1 :: a2 :: a3 :: a4 :: a5 :: a6 :: a7 :: a8 :: a9 :: a10 :: a11 :: a12 :: some (vR z) :: ls) st h)) := by
  apply propext
  have e9 := stOK_eq (j := 12) (a := a12) (show ((a0 :: a1 :: a2 :: a3 :: a4 :: a5 :: a6 :: a7 :: a8 :: a9 :: a10 :: a11 :: a12 :: b :: ls) : LcT)[12]? = some a12 from rfl)
  constructor
  · intro q
    exact ⟨e9.symm.trans q.1.1, q.2⟩
  · intro q
    exact ⟨⟨e9.trans q.1, by show 13 < _; simp only [List.length_cons]; omega⟩, q.2⟩
theorem rl_98 (p : Nat) (cs : List AE) (h : AH) (ls : LcT) (st : List AV) (a0 a1 a2 a3 a4 a5 a6 a7 a8 a9 a10 a11 a12 : Option AV) (b b2 : Option AV) (z : Int) (ys : List Int) : (run1 CR Q K ((p, 7, 13, ys) :: cs) (a0 :: a1 :: a2 :: a3 :: a4 :: a5 :: a6 :: a7 :: a8 :: a9 :: a10 :: a11 :: a12 :: b :: b2 :: ls) (vL z :: st) h) = ((stK a12 = true ∧ run1 CR Q K cs (a0 :: a1 :: a2 :: a3 :: a4 :: a5 :: a6 :: a7 :: a8 :: a9 :: a10 :: a11 :: a12 :: some (vL z) :: none :: ls) st h)) := by
  apply propext
  have e9 := stOK_eq (j := 12) (a := a12) (show ((a0 :: a1 :: a2 :: a3 :: a4 :: a5 :: a6 :: a7 :: a8 :: a9 :: a10 :: a11 :: a12 :: b :: b2 :: ls) : LcT)[12]? = some a12 from rfl)
  constructor
  · intro q
    exact ⟨e9.symm.trans q.1.1, q.2⟩
  · intro q
    exact ⟨⟨e9.trans q.1, by show 13 + 1 < _; simp only [List.length_cons]; omega⟩, q.2⟩
theorem rl_99 (p : Nat) (cs : List AE) (h : AH) (ls : LcT) (st : List AV) (a0 a1 a2 a3 a4 a5 a6 a7 a8 a9 a10 a11 a12 : Option AV) (z n : Int) : (run1 CR Q K ((p, 9, 13, [n]) :: cs) (a0 :: a1 :: a2 :: a3 :: a4 :: a5 :: a6 :: a7 :: a8 :: a9 :: a10 :: a11 :: a12 :: some (vI z) :: ls) st h) = (run1 CR Q K cs (a0 :: a1 :: a2 :: a3 :: a4 :: a5 :: a6 :: a7 :: a8 :: a9 :: a10 :: a11 :: a12 :: some (vI (w32 (z + n))) :: ls) st h) := rfl
theorem rl_100 (p : Nat) (cs : List AE) (h : AH) (ls : LcT) (st : List AV) (a b x : Int) (ys : List Int) : (run1 CR Q K ((p, 10, x, ys) :: cs) ls (vI b :: vI a :: st) h) = (run1 CR Q K cs ls (vI (w32 (a + b)) :: st) h) := rfl
theorem rl_101 (p : Nat) (cs : List AE) (h : AH) (ls : LcT) (st : List AV) (a b x : Int) (ys : List Int) : (run1 CR Q K ((p, 11, x, ys) :: cs) ls (vI b :: vI a :: st) h) = (run1 CR Q K cs ls (vI (w32 (a - b)) :: st) h) := rfl
theorem rl_102 (p : Nat) (cs : List AE) (h : AH) (ls : LcT) (st : List AV) (a b x : Int) (ys : List Int) : (run1 CR Q K ((p, 12, x, ys) :: cs) ls (vI b :: vI a :: st) h) = (run1 CR Q K cs ls (vI (w32 (a * b)) :: st) h) := rfl
theorem rl_103 (p : Nat) (cs : List AE) (h : AH) (ls : LcT) (st : List AV) (a b x : Int) (ys : List Int) : (run1 CR Q K ((p, 15, x, ys) :: cs) ls (vI b :: vI a :: st) h) = (run1 CR Q K cs ls (vI (and32 a b) :: st) h) := rfl
theorem rl_104 (p : Nat) (cs : List AE) (h : AH) (ls : LcT) (st : List AV) (a b x : Int) (ys : List Int) : (run1 CR Q K ((p, 16, x, ys) :: cs) ls (vI b :: vI a :: st) h) = (run1 CR Q K cs ls (vI (or32 a b) :: st) h) := rfl
theorem rl_105 (p : Nat) (cs : List AE) (h : AH) (ls : LcT) (st : List AV) (a b x : Int) (ys : List Int) : (run1 CR Q K ((p, 17, x, ys) :: cs) ls (vI b :: vI a :: st) h) = (run1 CR Q K cs ls (vI (xor32 a b) :: st) h) := rfl
theorem rl_106 (p : Nat) (cs : List AE) (h : AH) (ls : LcT) (st : List AV) (a b x : Int) (ys : List Int) : (run1 CR Q K ((p, 18, x, ys) :: cs) ls (vI b :: vI a :: st) h) = (run1 CR Q K cs ls (vI (shl32 a b) :: st) h) := rfl
theorem rl_107 (p : Nat) (cs : List AE) (h : AH) (ls : LcT) (st : List AV) (a b x : Int) (ys : List Int) : (run1 CR Q K ((p, 19, x, ys) :: cs) ls (vI b :: vI a :: st) h) = (run1 CR Q K cs ls (vI (shr32 a b) :: st) h) := rfl
theorem rl_108 (p : Nat) (cs : List AE) (h : AH) (ls : LcT) (st : List AV) (a b x : Int) (ys : List Int) : (run1 CR Q K ((p, 20, x, ys) :: cs) ls (vI b :: vI a :: st) h) = (run1 CR Q K cs ls (vI (ushr32 a b) :: st) h) := rfl
theorem rl_109 (p : Nat) (cs : List AE) (h : AH) (ls : LcT) (st : List AV) (a b x : Int) (ys : List Int) : (run1 CR Q K ((p, 13, x, ys) :: cs) ls (vI b :: vI a :: st) h) = ((b ≠ 0 ∧ run1 CR Q K cs ls (vI (d32 a b) :: st) h)) := rfl
theorem rl_110 (p : Nat) (cs : List AE) (h : AH) (ls : LcT) (st : List AV) (a b x : Int) (ys : List Int) : (run1 CR Q K ((p, 14, x, ys) :: cs) ls (vI b :: vI a :: st) h) = ((b ≠ 0 ∧ run1 CR Q K cs ls (vI (m32 a b) :: st) h)) := rfl
theorem rl_111 (p : Nat) (cs : List AE) (h : AH) (ls : LcT) (st : List AV) (a b x : Int) (ys : List Int) : (run1 CR Q K ((p, 21, x, ys) :: cs) ls (vL b :: vL a :: st) h) = (run1 CR Q K cs ls (vL (w64 (a + b)) :: st) h) := rfl
theorem rl_112 (p : Nat) (cs : List AE) (h : AH) (ls : LcT) (st : List AV) (a b x : Int) (ys : List Int) : (run1 CR Q K ((p, 22, x, ys) :: cs) ls (vL b :: vL a :: st) h) = (run1 CR Q K cs ls (vL (w64 (a - b)) :: st) h) := rfl
theorem rl_113 (p : Nat) (cs : List AE) (h : AH) (ls : LcT) (st : List AV) (a b x : Int) (ys : List Int) : (run1 CR Q K ((p, 23, x, ys) :: cs) ls (vL b :: vL a :: st) h) = (run1 CR Q K cs ls (vL (w64 (a * b)) :: st) h) := rfl
theorem rl_114 (p : Nat) (cs : List AE) (h : AH) (ls : LcT) (st : List AV) (a b x : Int) (ys : List Int) : (run1 CR Q K ((p, 24, x, ys) :: cs) ls (vL b :: vL a :: st) h) = (run1 CR Q K cs ls (vL (and64 a b) :: st) h) := rfl
theorem rl_115 (p : Nat) (cs : List AE) (h : AH) (ls : LcT) (st : List AV) (a b x : Int) (ys : List Int) : (run1 CR Q K ((p, 27, x, ys) :: cs) ls (vL b :: vL a :: st) h) = (run1 CR Q K cs ls (vI (cmp64 a b) :: st) h) := rfl
theorem rl_116 (p : Nat) (cs : List AE) (h : AH) (ls : LcT) (st : List AV) (a b x : Int) (ys : List Int) : (run1 CR Q K ((p, 25, x, ys) :: cs) ls (vI b :: vL a :: st) h) = (run1 CR Q K cs ls (vL (shr64 a b) :: st) h) := rfl
theorem rl_117 (p : Nat) (cs : List AE) (h : AH) (ls : LcT) (st : List AV) (a b x : Int) (ys : List Int) : (run1 CR Q K ((p, 26, x, ys) :: cs) ls (vI b :: vL a :: st) h) = (run1 CR Q K cs ls (vL (ushr64 a b) :: st) h) := rfl
theorem rl_118 (p : Nat) (cs : List AE) (h : AH) (ls : LcT) (st : List AV) (a x : Int) (ys : List Int) : (run1 CR Q K ((p, 28, x, ys) :: cs) ls (vI a :: st) h) = (run1 CR Q K cs ls (vL a :: st) h) := rfl
theorem rl_119 (p : Nat) (cs : List AE) (h : AH) (ls : LcT) (st : List AV) (a x : Int) (ys : List Int) : (run1 CR Q K ((p, 29, x, ys) :: cs) ls (vL a :: st) h) = (run1 CR Q K cs ls (vI (l2i32 a) :: st) h) := rfl
theorem rl_120 (p : Nat) (cs : List AE) (h : AH) (ls : LcT) (st : List AV) (a x : Int) (ys : List Int) : (run1 CR Q K ((p, 30, x, ys) :: cs) ls (vI a :: st) h) = (run1 CR Q K cs ls (vI (w8 a) :: st) h) := rfl
theorem rl_121 (p : Nat) (cs : List AE) (h : AH) (ls : LcT) (st : List AV) (a x : Int) (ys : List Int) : (run1 CR Q K ((p, 31, x, ys) :: cs) ls (vI a :: st) h) = (run1 CR Q K cs ls (vI (w16 a) :: st) h) := rfl
theorem rl_122 (p : Nat) (cs : List AE) (h : AH) (ls : LcT) (st : List AV) (a x : Int) (ys : List Int) : (run1 CR Q K ((p, 32, x, ys) :: cs) ls (vI a :: st) h) = (run1 CR Q K cs ls (vI a :: vI a :: st) h) := rfl
theorem rl_123 (p : Nat) (cs : List AE) (h : AH) (ls : LcT) (st : List AV) (a : Nat) (x : Int) (ys : List Int) : (run1 CR Q K ((p, 32, x, ys) :: cs) ls (vR a :: st) h) = (run1 CR Q K cs ls (vR a :: vR a :: st) h) := rfl
theorem rl_124 (p : Nat) (cs : List AE) (h : AH) (ls : LcT) (st : List AV) (a x : Int) (b : Nat) (ys : List Int) : (run1 CR Q K ((p, 33, x, ys) :: cs) ls (vI a :: vR b :: st) h) = (run1 CR Q K cs ls (vI a :: vR b :: vI a :: vR b :: st) h) := rfl
theorem rl_125 (p : Nat) (cs : List AE) (h : AH) (ls : LcT) (st : List AV) (x : Int) (ys : List Int) : (run1 CR Q K ((p, 36, x, ys) :: cs) ls st h) = (K x.toNat ls st h) := rfl
theorem rl_126 (p : Nat) (cs : List AE) (h : AH) (ls : LcT) (st : List AV) (x : Int) (ys : List Int) : (run1 CR Q K ((p, 99, x, ys) :: cs) ls st h) = (K x.toNat ls st h) := rfl
theorem rl_127 (p : Nat) (cs : List AE) (h : AH) (ls : LcT) (st : List AV) (a x lo : Int) (ys : List Int) : (run1 CR Q K ((p, 37, x, (lo :: ys)) :: cs) ls (vI a :: st) h) = ((((a < lo ∨ lo + (ys.length : Nat) ≤ a) → K x.toNat ls st h) ∧ swT (fun t => K t.toNat ls st h) a lo ys)) := rfl
theorem rl_128 (p : Nat) (cs : List AE) (h : AH) (ls : LcT) (st : List AV) (a x : Int) (ys : List Int) : (run1 CR Q K ((p, 38, x, ys) :: cs) ls (vI a :: st) h) = (lkT (fun t => K t.toNat ls st h) a x ys) := rfl
theorem rl_129 (p : Nat) (cs : List AE) (h : AH) (ls : LcT) (st : List AV) (k : Nat) (x y : Int) : (run1 CR Q K ((p, 39, x, [y]) :: cs) ls (vR k :: st) h) = ((((sh k).1 = 0 ∧ (sh k).2.1 = x.toNat) ∧ run1 CR Q K cs ls (fv h k y.toNat ((sh k).2.2.getD y.toNat 0) :: st) h)) := rfl
theorem rl_130 (p : Nat) (cs : List AE) (h : AH) (ls : LcT) (st : List AV) (k : Nat) (z x y : Int) : (run1 CR Q K ((p, 40, x, [y]) :: cs) ls (vI z :: vR k :: st) h) = ((((sh k).1 = 0 ∧ (sh k).2.1 = x.toNat) ∧ pfI ((sh k).2.2.getD y.toNat 9) z (run1 CR Q K cs ls st (hu h k y.toNat z)))) := by
  show (_ ∧ (match (sh k).2.2.getD y.toNat 9, (Sum.inl z : AV) with | 0, .inl z => run1 CR Q K cs ls st (hu h k y.toNat z) | 1, .inr (.inl z) => run1 CR Q K cs ls st (hu h k y.toNat z) | 2, .inl z => (z = 0 ∨ z = 1) ∧ run1 CR Q K cs ls st (hu h k y.toNat z) | _, _ => False)) = _
  unfold pfI
  generalize (sh k).2.2.getD y.toNat 9 = c
  match c with
  | 0 => rfl
  | 1 => rfl
  | 2 => rfl
  | n + 3 => rfl
theorem rl_131 (p : Nat) (cs : List AE) (h : AH) (ls : LcT) (st : List AV) (k : Nat) (z x y : Int) : (run1 CR Q K ((p, 40, x, [y]) :: cs) ls (vL z :: vR k :: st) h) = ((((sh k).1 = 0 ∧ (sh k).2.1 = x.toNat) ∧ ((sh k).2.2.getD y.toNat 9 = 1 ∧ run1 CR Q K cs ls st (hu h k y.toNat z)))) := by
  show (_ ∧ (match (sh k).2.2.getD y.toNat 9, (Sum.inr (Sum.inl z) : AV) with | 0, .inl z => run1 CR Q K cs ls st (hu h k y.toNat z) | 1, .inr (.inl z) => run1 CR Q K cs ls st (hu h k y.toNat z) | 2, .inl z => (z = 0 ∨ z = 1) ∧ run1 CR Q K cs ls st (hu h k y.toNat z) | _, _ => False)) = _
  generalize (sh k).2.2.getD y.toNat 9 = c
  match c with
  | 0 => simp
  | 1 => simp
  | 2 => simp
  | n + 3 => simp
theorem rl_132 (p : Nat) (cs : List AE) (h : AH) (ls : LcT) (st : List AV) (k : Nat) (j x : Int) (ys : List Int) : (run1 CR Q K ((p, 41, x, ys) :: cs) ls (vI j :: vR k :: st) h) = ((((sh k).1 = 1 ∧ (0 ≤ j ∧ j < (sh k).2.1) ∧ run1 CR Q K cs ls (vI (h k j.toNat) :: st) h) ∨ ((sh k).1 = 7 ∧ (0 ≤ j ∧ j < 6) ∧ k = 2000 ∧ run1 CR Q K cs ls (vI (aboveF j.toNat) :: st) h))) := rfl
theorem rl_133 (p : Nat) (cs : List AE) (h : AH) (ls : LcT) (st : List AV) (k : Nat) (j x : Int) (ys : List Int) : (run1 CR Q K ((p, 43, x, ys) :: cs) ls (vI j :: vR k :: st) h) = (((sh k).1 = 2 ∧ (0 ≤ j ∧ j < (sh k).2.1) ∧ run1 CR Q K cs ls (vI (h k j.toNat) :: st) h)) := rfl
theorem rl_134 (p : Nat) (cs : List AE) (h : AH) (ls : LcT) (st : List AV) (k : Nat) (j x : Int) (ys : List Int) : (run1 CR Q K ((p, 45, x, ys) :: cs) ls (vI j :: vR k :: st) h) = (((sh k).1 = 3 ∧ (0 ≤ j ∧ j < (sh k).2.1) ∧ run1 CR Q K cs ls (vL (h k j.toNat) :: st) h)) := rfl
theorem rl_135 (p : Nat) (cs : List AE) (h : AH) (ls : LcT) (st : List AV) (k : Nat) (z j x : Int) (ys : List Int) : (run1 CR Q K ((p, 42, x, ys) :: cs) ls (vI z :: vI j :: vR k :: st) h) = (((sh k).1 = 1 ∧ (0 ≤ j ∧ j < (sh k).2.1) ∧ run1 CR Q K cs ls st (hu h k j.toNat z))) := rfl
theorem rl_136 (p : Nat) (cs : List AE) (h : AH) (ls : LcT) (st : List AV) (k : Nat) (z j x : Int) (ys : List Int) : (run1 CR Q K ((p, 44, x, ys) :: cs) ls (vI z :: vI j :: vR k :: st) h) = (((sh k).1 = 2 ∧ (0 ≤ j ∧ j < (sh k).2.1) ∧ run1 CR Q K cs ls st (hu h k j.toNat (w8 z)))) := rfl
theorem rl_137 (p : Nat) (cs : List AE) (h : AH) (ls : LcT) (st : List AV) (k : Nat) (z j x : Int) (ys : List Int) : (run1 CR Q K ((p, 46, x, ys) :: cs) ls (vL z :: vI j :: vR k :: st) h) = (((sh k).1 = 3 ∧ (0 ≤ j ∧ j < (sh k).2.1) ∧ run1 CR Q K cs ls st (hu h k j.toNat z))) := rfl
theorem rl_138 (p : Nat) (cs : List AE) (h : AH) (ls : LcT) (st : List AV) (k : Nat) (j x : Int) (ys : List Int) : (run1 CR Q K ((p, 47, x, ys) :: cs) ls (vI j :: vR k :: st) h) = (((4 ≤ (sh k).1 ∧ (sh k).1 ≤ 6) ∧ (0 ≤ j ∧ j < (sh k).2.1) ∧ run1 CR Q K cs ls (vR ((sh k).2.2.getD 0 0 + (sh k).2.2.getD 1 0 * j.toNat) :: st) h)) := rfl
theorem rl_139 (p : Nat) (cs : List AE) (h : AH) (ls : LcT) (st : List AV) (x : Int) : (run1 CR Q K ((p, 48, x, [0]) :: cs) ls (st) h) = ((st.length ≤ 4 ∧ ∃ P, CR x.toNat [] h P ∧ ∀ r h', P r h' → run1 CR Q K cs ls (r.toList ++ st) h')) := by
  apply propext
  constructor
  · intro q
    obtain ⟨⟨q1, q2⟩, q3⟩ := q
    refine ⟨?_, q3⟩
    replace q1 := (show _ ≤ 4 + 0 from q1)
    replace q2 := (show 0 ≤ _ from q2)
    try simp only [List.length_cons] at q1
    omega
  · intro q
    refine ⟨⟨?_, ?_⟩, q.2⟩
    · show _ ≤ 4 + 0
      try simp only [List.length_cons]
      have := q.1
      omega
    · show 0 ≤ _
      try simp only [List.length_cons]
      omega
theorem rl_140 (p : Nat) (cs : List AE) (h : AH) (ls : LcT) (st : List AV) (k : Nat) (x y : Int) : (run1 CR Q K ((p, 49, x, [0, y]) :: cs) ls (vR k :: st) h) = ((st.length ≤ 4 ∧ ((sh k).1 = 0 ∧ (sh k).2.1 = y.toNat) ∧ ∃ P, CR x.toNat (vR k :: []) h P ∧ ∀ r h', P r h' → run1 CR Q K cs ls (r.toList ++ st) h')) := by
  apply propext
  constructor
  · intro q
    obtain ⟨⟨q1, q2⟩, q3⟩ := q
    refine ⟨?_, q3⟩
    replace q1 := (show _ ≤ 5 + 0 from q1)
    try simp only [List.length_cons] at q1
    omega
  · intro q
    refine ⟨⟨?_, ?_⟩, q.2⟩
    · show _ ≤ 5 + 0
      try simp only [List.length_cons]
      have := q.1
      omega
    · show 0 + 1 ≤ _
      try simp only [List.length_cons]
      omega
theorem rl_141 (p : Nat) (cs : List AE) (h : AH) (ls : LcT) (st : List AV) (k : Nat) (x : Int) : (run1 CR Q K ((p, 50, x, [0]) :: cs) ls (vR k :: st) h) = ((st.length ≤ 4 ∧ (1000 ≤ k ∧ k < 1012) ∧ ∃ P, CR x.toNat (vR k :: []) h P ∧ ∀ r h', P r h' → run1 CR Q K cs ls (r.toList ++ st) h')) := by
  apply propext
  constructor
  · intro q
    obtain ⟨⟨q1, q2⟩, q3⟩ := q
    refine ⟨?_, q3⟩
    replace q1 := (show _ ≤ 5 + 0 from q1)
    try simp only [List.length_cons] at q1
    omega
  · intro q
    refine ⟨⟨?_, ?_⟩, q.2⟩
    · show _ ≤ 5 + 0
      try simp only [List.length_cons]
      have := q.1
      omega
    · show 0 + 1 ≤ _
      try simp only [List.length_cons]
      omega
theorem rl_142 (p : Nat) (cs : List AE) (h : AH) (ls : LcT) (st : List AV) (b0 : AV) (x : Int) : (run1 CR Q K ((p, 48, x, [1]) :: cs) ls (b0 :: st) h) = ((st.length ≤ 4 ∧ ∃ P, CR x.toNat [b0] h P ∧ ∀ r h', P r h' → run1 CR Q K cs ls (r.toList ++ st) h')) := by
  apply propext
  constructor
  · intro q
    obtain ⟨⟨q1, q2⟩, q3⟩ := q
    refine ⟨?_, q3⟩
    replace q1 := (show _ ≤ 4 + 1 from q1)
    replace q2 := (show 1 ≤ _ from q2)
    try simp only [List.length_cons] at q1
    omega
  · intro q
    refine ⟨⟨?_, ?_⟩, q.2⟩
    · show _ ≤ 4 + 1
      try simp only [List.length_cons]
      have := q.1
      omega
    · show 1 ≤ _
      try simp only [List.length_cons]
      omega
theorem rl_143 (p : Nat) (cs : List AE) (h : AH) (ls : LcT) (st : List AV) (b0 : AV) (k : Nat) (x y : Int) : (run1 CR Q K ((p, 49, x, [1, y]) :: cs) ls (b0 :: vR k :: st) h) = ((st.length ≤ 4 ∧ ((sh k).1 = 0 ∧ (sh k).2.1 = y.toNat) ∧ ∃ P, CR x.toNat (vR k :: [b0]) h P ∧ ∀ r h', P r h' → run1 CR Q K cs ls (r.toList ++ st) h')) := by
  apply propext
  constructor
  · intro q
    obtain ⟨⟨q1, q2⟩, q3⟩ := q
    refine ⟨?_, q3⟩
    replace q1 := (show _ ≤ 5 + 1 from q1)
    try simp only [List.length_cons] at q1
    omega
  · intro q
    refine ⟨⟨?_, ?_⟩, q.2⟩
    · show _ ≤ 5 + 1
      try simp only [List.length_cons]
      have := q.1
      omega
    · show 1 + 1 ≤ _
      try simp only [List.length_cons]
      omega
theorem rl_144 (p : Nat) (cs : List AE) (h : AH) (ls : LcT) (st : List AV) (b0 : AV) (k : Nat) (x : Int) : (run1 CR Q K ((p, 50, x, [1]) :: cs) ls (b0 :: vR k :: st) h) = ((st.length ≤ 4 ∧ (1000 ≤ k ∧ k < 1012) ∧ ∃ P, CR x.toNat (vR k :: [b0]) h P ∧ ∀ r h', P r h' → run1 CR Q K cs ls (r.toList ++ st) h')) := by
  apply propext
  constructor
  · intro q
    obtain ⟨⟨q1, q2⟩, q3⟩ := q
    refine ⟨?_, q3⟩
    replace q1 := (show _ ≤ 5 + 1 from q1)
    try simp only [List.length_cons] at q1
    omega
  · intro q
    refine ⟨⟨?_, ?_⟩, q.2⟩
    · show _ ≤ 5 + 1
      try simp only [List.length_cons]
      have := q.1
      omega
    · show 1 + 1 ≤ _
      try simp only [List.length_cons]
      omega
theorem rl_145 (p : Nat) (cs : List AE) (h : AH) (ls : LcT) (st : List AV) (b0 b1 : AV) (x : Int) : (run1 CR Q K ((p, 48, x, [2]) :: cs) ls (b1 :: b0 :: st) h) = ((st.length ≤ 4 ∧ ∃ P, CR x.toNat [b0, b1] h P ∧ ∀ r h', P r h' → run1 CR Q K cs ls (r.toList ++ st) h')) := by
  apply propext
  constructor
  · intro q
    obtain ⟨⟨q1, q2⟩, q3⟩ := q
    refine ⟨?_, q3⟩
    replace q1 := (show _ ≤ 4 + 2 from q1)
    replace q2 := (show 2 ≤ _ from q2)
    try simp only [List.length_cons] at q1
    omega
  · intro q
    refine ⟨⟨?_, ?_⟩, q.2⟩
    · show _ ≤ 4 + 2
      try simp only [List.length_cons]
      have := q.1
      omega
    · show 2 ≤ _
      try simp only [List.length_cons]
      omega
theorem rl_146 (p : Nat) (cs : List AE) (h : AH) (ls : LcT) (st : List AV) (b0 b1 : AV) (k : Nat) (x y : Int) : (run1 CR Q K ((p, 49, x, [2, y]) :: cs) ls (b1 :: b0 :: vR k :: st) h) = ((st.length ≤ 4 ∧ ((sh k).1 = 0 ∧ (sh k).2.1 = y.toNat) ∧ ∃ P, CR x.toNat (vR k :: [b0, b1]) h P ∧ ∀ r h', P r h' → run1 CR Q K cs ls (r.toList ++ st) h')) := by
  apply propext
  constructor
  · intro q
    obtain ⟨⟨q1, q2⟩, q3⟩ := q
    refine ⟨?_, q3⟩
    replace q1 := (show _ ≤ 5 + 2 from q1)
    try simp only [List.length_cons] at q1
    omega
  · intro q
    refine ⟨⟨?_, ?_⟩, q.2⟩
    · show _ ≤ 5 + 2
      try simp only [List.length_cons]
      have := q.1
      omega
    · show 2 + 1 ≤ _
      try simp only [List.length_cons]
      omega
theorem rl_147 (p : Nat) (cs : List AE) (h : AH) (ls : LcT) (st : List AV) (b0 b1 b2 : AV) (x : Int) : (run1 CR Q K ((p, 48, x, [3]) :: cs) ls (b2 :: b1 :: b0 :: st) h) = ((st.length ≤ 4 ∧ ∃ P, CR x.toNat [b0, b1, b2] h P ∧ ∀ r h', P r h' → run1 CR Q K cs ls (r.toList ++ st) h')) := by
  apply propext
  constructor
  · intro q
    obtain ⟨⟨q1, q2⟩, q3⟩ := q
    refine ⟨?_, q3⟩
    replace q1 := (show _ ≤ 4 + 3 from q1)
    replace q2 := (show 3 ≤ _ from q2)
    try simp only [List.length_cons] at q1
    omega
  · intro q
    refine ⟨⟨?_, ?_⟩, q.2⟩
    · show _ ≤ 4 + 3
      try simp only [List.length_cons]
      have := q.1
      omega
    · show 3 ≤ _
      try simp only [List.length_cons]
      omega
theorem rl_148 (p : Nat) (cs : List AE) (h : AH) (ls : LcT) (st : List AV) (b0 b1 b2 : AV) (k : Nat) (x y : Int) : (run1 CR Q K ((p, 49, x, [3, y]) :: cs) ls (b2 :: b1 :: b0 :: vR k :: st) h) = ((st.length ≤ 4 ∧ ((sh k).1 = 0 ∧ (sh k).2.1 = y.toNat) ∧ ∃ P, CR x.toNat (vR k :: [b0, b1, b2]) h P ∧ ∀ r h', P r h' → run1 CR Q K cs ls (r.toList ++ st) h')) := by
  apply propext
  constructor
  · intro q
    obtain ⟨⟨q1, q2⟩, q3⟩ := q
    refine ⟨?_, q3⟩
    replace q1 := (show _ ≤ 5 + 3 from q1)
    try simp only [List.length_cons] at q1
    omega
  · intro q
    refine ⟨⟨?_, ?_⟩, q.2⟩
    · show _ ≤ 5 + 3
      try simp only [List.length_cons]
      have := q.1
      omega
    · show 3 + 1 ≤ _
      try simp only [List.length_cons]
      omega
theorem rl_149 (p : Nat) (cs : List AE) (h : AH) (ls : LcT) (st : List AV) (b0 b1 b2 b3 : AV) (x : Int) : (run1 CR Q K ((p, 48, x, [4]) :: cs) ls (b3 :: b2 :: b1 :: b0 :: st) h) = ((st.length ≤ 4 ∧ ∃ P, CR x.toNat [b0, b1, b2, b3] h P ∧ ∀ r h', P r h' → run1 CR Q K cs ls (r.toList ++ st) h')) := by
  apply propext
  constructor
  · intro q
    obtain ⟨⟨q1, q2⟩, q3⟩ := q
    refine ⟨?_, q3⟩
    replace q1 := (show _ ≤ 4 + 4 from q1)
    replace q2 := (show 4 ≤ _ from q2)
    try simp only [List.length_cons] at q1
    omega
  · intro q
    refine ⟨⟨?_, ?_⟩, q.2⟩
    · show _ ≤ 4 + 4
      try simp only [List.length_cons]
      have := q.1
      omega
    · show 4 ≤ _
      try simp only [List.length_cons]
      omega
theorem rl_150 (p : Nat) (cs : List AE) (h : AH) (ls : LcT) (st : List AV) (b0 b1 b2 b3 : AV) (k : Nat) (x y : Int) : (run1 CR Q K ((p, 49, x, [4, y]) :: cs) ls (b3 :: b2 :: b1 :: b0 :: vR k :: st) h) = ((st.length ≤ 4 ∧ ((sh k).1 = 0 ∧ (sh k).2.1 = y.toNat) ∧ ∃ P, CR x.toNat (vR k :: [b0, b1, b2, b3]) h P ∧ ∀ r h', P r h' → run1 CR Q K cs ls (r.toList ++ st) h')) := by
  apply propext
  constructor
  · intro q
    obtain ⟨⟨q1, q2⟩, q3⟩ := q
    refine ⟨?_, q3⟩
    replace q1 := (show _ ≤ 5 + 4 from q1)
    try simp only [List.length_cons] at q1
    omega
  · intro q
    refine ⟨⟨?_, ?_⟩, q.2⟩
    · show _ ≤ 5 + 4
      try simp only [List.length_cons]
      have := q.1
      omega
    · show 4 + 1 ≤ _
      try simp only [List.length_cons]
      omega
theorem rl_151 (p : Nat) (cs : List AE) (h : AH) (ls : LcT) (st : List AV) (b0 b1 b2 b3 b4 : AV) (x : Int) : (run1 CR Q K ((p, 48, x, [5]) :: cs) ls (b4 :: b3 :: b2 :: b1 :: b0 :: st) h) = ((st.length ≤ 4 ∧ ∃ P, CR x.toNat [b0, b1, b2, b3, b4] h P ∧ ∀ r h', P r h' → run1 CR Q K cs ls (r.toList ++ st) h')) := by
  apply propext
  constructor
  · intro q
    obtain ⟨⟨q1, q2⟩, q3⟩ := q
    refine ⟨?_, q3⟩
    replace q1 := (show _ ≤ 4 + 5 from q1)
    replace q2 := (show 5 ≤ _ from q2)
    try simp only [List.length_cons] at q1
    omega
  · intro q
    refine ⟨⟨?_, ?_⟩, q.2⟩
    · show _ ≤ 4 + 5
      try simp only [List.length_cons]
      have := q.1
      omega
    · show 5 ≤ _
      try simp only [List.length_cons]
      omega
theorem rl_152 (p : Nat) (cs : List AE) (h : AH) (ls : LcT) (st : List AV) (b0 b1 b2 b3 b4 : AV) (k : Nat) (x y : Int) : (run1 CR Q K ((p, 49, x, [5, y]) :: cs) ls (b4 :: b3 :: b2 :: b1 :: b0 :: vR k :: st) h) = ((st.length ≤ 4 ∧ ((sh k).1 = 0 ∧ (sh k).2.1 = y.toNat) ∧ ∃ P, CR x.toNat (vR k :: [b0, b1, b2, b3, b4]) h P ∧ ∀ r h', P r h' → run1 CR Q K cs ls (r.toList ++ st) h')) := by
  apply propext
  constructor
  · intro q
    obtain ⟨⟨q1, q2⟩, q3⟩ := q
    refine ⟨?_, q3⟩
    replace q1 := (show _ ≤ 5 + 5 from q1)
    try simp only [List.length_cons] at q1
    omega
  · intro q
    refine ⟨⟨?_, ?_⟩, q.2⟩
    · show _ ≤ 5 + 5
      try simp only [List.length_cons]
      have := q.1
      omega
    · show 5 + 1 ≤ _
      try simp only [List.length_cons]
      omega
theorem rl_153 (p : Nat) (cs : List AE) (h : AH) (ls : LcT) (st : List AV) (k0 k1 : Nat) (sp dp n x : Int) (ys : List Int) : (run1 CR Q K ((p, 51, x, ys) :: cs) ls (vI n :: vI dp :: vR k1 :: vI sp :: vR k0 :: st) h) = ((((sh k0).1 = 1 ∧ (sh k1).1 = 1 ∧ st.length ≤ 4) ∧ (0 ≤ sp ∧ 0 ≤ dp ∧ 0 ≤ n ∧ sp + n ≤ (sh k0).2.1 ∧ dp + n ≤ (sh k1).2.1) ∧ run1 CR Q K cs ls st (hcpy h k0 k1 sp.toNat dp.toNat n.toNat))) := rfl
theorem rl_154 (p : Nat) (cs : List AE) (h : AH) (ls : LcT) (st : List AV) (a b x : Int) (ys : List Int) : (run1 CR Q K ((p, 55, x, ys) :: cs) ls (vI b :: vI a :: st) h) = ((st.length ≤ 8 ∧ run1 CR Q K cs ls (vI (max a b) :: st) h)) := rfl
theorem rl_155 (p : Nat) (cs : List AE) (h : AH) (ls : LcT) (st : List AV) (a b x : Int) (ys : List Int) : (run1 CR Q K ((p, 56, x, ys) :: cs) ls (vI b :: vI a :: st) h) = ((st.length ≤ 8 ∧ run1 CR Q K cs ls (vI (min a b) :: st) h)) := rfl
theorem rl_156 (p : Nat) (cs : List AE) (h : AH) (ls : LcT) (z x : Int) (ys : List Int) : (run1 CR Q K ((p, 52, x, ys) :: cs) ls [vI z] h) = (Q (some (vI z)) h) := rfl
theorem rl_157 (p : Nat) (cs : List AE) (h : AH) (ls : LcT) (z x : Int) (ys : List Int) : (run1 CR Q K ((p, 53, x, ys) :: cs) ls [vI z] h) = (((z = 0 ∨ z = 1) ∧ Q (some (vI z)) h)) := rfl
theorem rl_158 (p : Nat) (cs : List AE) (h : AH) (ls : LcT) (x : Int) (ys : List Int) : (run1 CR Q K ((p, 54, x, ys) :: cs) ls [] h) = (Q none h) := rfl
theorem rl_159 (p : Nat) (cs : List AE) (h : AH) (ls : LcT) (st : List AV) (a x : Int) (ys : List Int) : (run1 CR Q K ((p, 60, x, ys) :: cs) ls (vI a :: st) h) = (((a = 0 → K x.toNat ls st h) ∧ (¬ a = 0 → run1 CR Q K cs ls st h))) := rfl
theorem rl_160 (p : Nat) (cs : List AE) (h : AH) (ls : LcT) (st : List AV) (a x : Int) (ys : List Int) : (run1 CR Q K ((p, 61, x, ys) :: cs) ls (vI a :: st) h) = (((¬ a = 0 → K x.toNat ls st h) ∧ (a = 0 → run1 CR Q K cs ls st h))) := rfl
theorem rl_161 (p : Nat) (cs : List AE) (h : AH) (ls : LcT) (st : List AV) (a x : Int) (ys : List Int) : (run1 CR Q K ((p, 62, x, ys) :: cs) ls (vI a :: st) h) = (((a < 0 → K x.toNat ls st h) ∧ (¬ a < 0 → run1 CR Q K cs ls st h))) := rfl
theorem rl_162 (p : Nat) (cs : List AE) (h : AH) (ls : LcT) (st : List AV) (a x : Int) (ys : List Int) : (run1 CR Q K ((p, 63, x, ys) :: cs) ls (vI a :: st) h) = (((¬ a < 0 → K x.toNat ls st h) ∧ (a < 0 → run1 CR Q K cs ls st h))) := rfl
theorem rl_163 (p : Nat) (cs : List AE) (h : AH) (ls : LcT) (st : List AV) (a x : Int) (ys : List Int) : (run1 CR Q K ((p, 64, x, ys) :: cs) ls (vI a :: st) h) = (((0 < a → K x.toNat ls st h) ∧ (¬ 0 < a → run1 CR Q K cs ls st h))) := rfl
theorem rl_164 (p : Nat) (cs : List AE) (h : AH) (ls : LcT) (st : List AV) (a x : Int) (ys : List Int) : (run1 CR Q K ((p, 65, x, ys) :: cs) ls (vI a :: st) h) = (((¬ 0 < a → K x.toNat ls st h) ∧ (0 < a → run1 CR Q K cs ls st h))) := rfl
theorem rl_165 (p : Nat) (cs : List AE) (h : AH) (ls : LcT) (st : List AV) (a b x : Int) (ys : List Int) : (run1 CR Q K ((p, 70, x, ys) :: cs) ls (vI b :: vI a :: st) h) = (((a = b → K x.toNat ls st h) ∧ (¬ a = b → run1 CR Q K cs ls st h))) := rfl
theorem rl_166 (p : Nat) (cs : List AE) (h : AH) (ls : LcT) (st : List AV) (a b x : Int) (ys : List Int) : (run1 CR Q K ((p, 71, x, ys) :: cs) ls (vI b :: vI a :: st) h) = (((¬ a = b → K x.toNat ls st h) ∧ (a = b → run1 CR Q K cs ls st h))) := rfl
theorem rl_167 (p : Nat) (cs : List AE) (h : AH) (ls : LcT) (st : List AV) (a b x : Int) (ys : List Int) : (run1 CR Q K ((p, 72, x, ys) :: cs) ls (vI b :: vI a :: st) h) = (((a < b → K x.toNat ls st h) ∧ (¬ a < b → run1 CR Q K cs ls st h))) := rfl
theorem rl_168 (p : Nat) (cs : List AE) (h : AH) (ls : LcT) (st : List AV) (a b x : Int) (ys : List Int) : (run1 CR Q K ((p, 73, x, ys) :: cs) ls (vI b :: vI a :: st) h) = (((¬ a < b → K x.toNat ls st h) ∧ (a < b → run1 CR Q K cs ls st h))) := rfl
theorem rl_169 (p : Nat) (cs : List AE) (h : AH) (ls : LcT) (st : List AV) (a b x : Int) (ys : List Int) : (run1 CR Q K ((p, 74, x, ys) :: cs) ls (vI b :: vI a :: st) h) = (((b < a → K x.toNat ls st h) ∧ (¬ b < a → run1 CR Q K cs ls st h))) := rfl
theorem rl_170 (p : Nat) (cs : List AE) (h : AH) (ls : LcT) (st : List AV) (a b x : Int) (ys : List Int) : (run1 CR Q K ((p, 75, x, ys) :: cs) ls (vI b :: vI a :: st) h) = (((¬ b < a → K x.toNat ls st h) ∧ (b < a → run1 CR Q K cs ls st h))) := rfl
theorem sw_n (K : Int → Prop) (a lo : Int) : swT K a lo [] = True := rfl
theorem sw_c (K : Int → Prop) (a lo t : Int) (ts : List Int) : swT K a lo (t :: ts) = ((a = lo → K t) ∧ swT K a (lo + 1) ts) := rfl
theorem lk_n (K : Int → Prop) (a dd : Int) : lkT K a dd [] = K dd := rfl
theorem lk_c (K : Int → Prop) (a dd k t : Int) (ts : List Int) : lkT K a dd (k :: t :: ts) = ((a = k → K t) ∧ (¬ a = k → lkT K a dd ts)) := rfl
end RL
theorem rlA {CR : Nat → List AV → AH → (Option AV → AH → Prop) → Prop} {Q : Option AV → AH → Prop} {K : Nat → LcT → List AV → AH → Prop} : (∀ (p : Nat) (cs : List AE) (h : AH) (ls : LcT) (st : List AV) (x : Int) (ys : List Int), (run1 CR Q K ((p, 0, x, ys) :: cs) ls st h) = (run1 CR Q K cs ls (vI x :: st) h)) ∧ (∀ (p : Nat) (cs : List AE) (h : AH) (ls : LcT) (st : List AV) (x : Int) (ys : List Int), (run1 CR Q K ((p, 1, x, ys) :: cs) ls st h) = (run1 CR Q K cs ls (vL x :: st) h)) ∧ (∀ (p : Nat) (cs : List AE) (h : AH) (ls : LcT) (st : List AV) (x : Int) (ys : List Int), (run1 CR Q K ((p, 2, x, ys) :: cs) ls st h) = (run1 CR Q K cs ls (vR x.toNat :: st) h)) ∧ (∀ (p : Nat) (cs : List AE) (h : AH) (ls : LcT) (st : List AV) (z : Int) (ys : List Int), (run1 CR Q K ((p, 3, 0, ys) :: cs) (some (vI z) :: ls) st h) = (run1 CR Q K cs (some (vI z) :: ls) (vI z :: st) h)) ∧ (∀ (p : Nat) (cs : List AE) (h : AH) (ls : LcT) (st : List AV) (z : Int) (ys : List Int), (run1 CR Q K ((p, 4, 0, ys) :: cs) (some (vL z) :: ls) st h) = (run1 CR Q K cs (some (vL z) :: ls) (vL z :: st) h)) ∧ (∀ (p : Nat) (cs : List AE) (h : AH) (ls : LcT) (st : List AV) (z : Nat) (ys : List Int), (run1 CR Q K ((p, 5, 0, ys) :: cs) (some (vR z) :: ls) st h) = (run1 CR Q K cs (some (vR z) :: ls) (vR z :: st) h)) ∧ (∀ (p : Nat) (cs : List AE) (h : AH) (ls : LcT) (st : List AV) (b : Option AV) (z : Int) (ys : List Int), (run1 CR Q K ((p, 6, 0, ys) :: cs) (b :: ls) (vI z :: st) h) = (run1 CR Q K cs (some (vI z) :: ls) st h)) ∧ (∀ (p : Nat) (cs : List AE) (h : AH) (ls : LcT) (st : List AV) (b : Option AV) (z : Nat) (ys : List Int), (run1 CR Q K ((p, 8, 0, ys) :: cs) (b :: ls) (vR z :: st) h) = (run1 CR Q K cs (some (vR z) :: ls) st h)) ∧ (∀ (p : Nat) (cs : List AE) (h : AH) (ls : LcT) (st : List AV) (z n : Int), (run1 CR Q K ((p, 9, 0, [n]) :: cs) (some (vI z) :: ls) st h) = (run1 CR Q K cs (some (vI (w32 (z + n))) :: ls) st h)) ∧ (∀ (p : Nat) (cs : List AE) (h : AH) (ls : LcT) (st : List AV) (a0 : Option AV) (z : Int) (ys : List Int), (run1 CR Q K ((p, 3, 1, ys) :: cs) (a0 :: some (vI z) :: ls) st h) = (run1 CR Q K cs (a0 :: some (vI z) :: ls) (vI z :: st) h)) ∧ (∀ (p : Nat) (cs : List AE) (h : AH) (ls : LcT) (st : List AV) (a0 : Option AV) (z : Int) (ys : List Int), (run1 CR Q K ((p, 4, 1, ys) :: cs) (a0 :: some (vL z) :: ls) st h) = (run1 CR Q K cs (a0 :: some (vL z) :: ls) (vL z :: st) h)) ∧ (∀ (p : Nat) (cs : List AE) (h : AH) (ls : LcT) (st : List AV) (a0 : Option AV) (z : Nat) (ys : List Int), (run1 CR Q K ((p, 5, 1, ys) :: cs) (a0 :: some (vR z) :: ls) st h) = (run1 CR Q K cs (a0 :: some (vR z) :: ls) (vR z :: st) h)) ∧ (∀ (p : Nat) (cs : List AE) (h : AH) (ls : LcT) (st : List AV) (a0 : Option AV) (b : Option AV) (z : Int) (ys : List Int), (run1 CR Q K ((p, 6, 1, ys) :: cs) (a0 :: b :: ls) (vI z :: st) h) = ((stK a0 = true ∧ run1 CR Q K cs (a0 :: some (vI z) :: ls) st h))) ∧ (∀ (p : Nat) (cs : List AE) (h : AH) (ls : LcT) (st : List AV) (a0 : Option AV) (b : Option AV) (z : Nat) (ys : List Int), (run1 CR Q K ((p, 8, 1, ys) :: cs) (a0 :: b :: ls) (vR z :: st) h) = ((stK a0 = true ∧ run1 CR Q K cs (a0 :: some (vR z) :: ls) st h))) ∧ (∀ (p : Nat) (cs : List AE) (h : AH) (ls : LcT) (st : List AV) (a0 : Option AV) (b b2 : Option AV) (z : Int) (ys : List Int), (run1 CR Q K ((p, 7, 1, ys) :: cs) (a0 :: b :: b2 :: ls) (vL z :: st) h) = ((stK a0 = true ∧ run1 CR Q K cs (a0 :: some (vL z) :: none :: ls) st h))) ∧ (∀ (p : Nat) (cs : List AE) (h : AH) (ls : LcT) (st : List AV) (a0 : Option AV) (z n : Int), (run1 CR Q K ((p, 9, 1, [n]) :: cs) (a0 :: some (vI z) :: ls) st h) = (run1 CR Q K cs (a0 :: some (vI (w32 (z + n))) :: ls) st h)) ∧ (∀ (p : Nat) (cs : List AE) (h : AH) (ls : LcT) (st : List AV) (a0 a1 : Option AV) (z : Int) (ys : List Int), (run1 CR Q K ((p, 3, 2, ys) :: cs) (a0 :: a1 :: some (vI z) :: ls) st h) = (run1 CR Q K cs (a0 :: a1 :: some (vI z) :: ls) (vI z :: st) h)) ∧ (∀ (p : Nat) (cs : List AE) (h : AH) (ls : LcT) (st : List AV) (a0 a1 : Option AV) (z : Int) (ys : List Int), (run1 CR Q K ((p, 4, 2, ys) :: cs) (a0 :: a1 :: some (vL z) :: ls) st h) = (run1 CR Q K cs (a0 :: a1 :: some (vL z) :: ls) (vL z :: st) h)) ∧ (∀ (p : Nat) (cs : List AE) (h : AH) (ls : LcT) (st : List AV) (a0 a1 : Option AV) (z : Nat) (ys : List Int), (run1 CR Q K ((p, 5, 2, ys) :: cs) (a0 :: a1 :: some (vR z) :: ls) st h) = (run1 CR Q K cs (a0 :: a1 :: some (vR z) :: ls) (vR z :: st) h)) ∧ (∀ (p : Nat) (cs : List AE) (h : AH) (ls : LcT) (st : List AV) (a0 a1 : Option AV) (b : Option AV) (z : Int) (ys : List Int), (run1 CR Q K ((p, 6, 2, ys) :: cs) (a0 :: a1 :: b :: ls) (vI z :: st) h) = ((stK a1 = true ∧ run1 CR Q K cs (a0 :: a1 :: some (vI z) :: ls) st h))) ∧ (∀ (p : Nat) (cs : List AE) (h : AH) (ls : LcT) (st : List AV) (a0 a1 : Option AV) (b : Option AV) (z : Nat) (ys : List Int), (run1 CR Q K ((p, 8, 2, ys) :: cs) (a0 :: a1 :: b :: ls) (vR z :: st) h) = ((stK a1 = true ∧ run1 CR Q K cs (a0 :: a1 :: some (vR z) :: ls) st h))) ∧ (∀ (p : Nat) (cs : List AE) (h : AH) (ls : LcT) (st : List AV) (a0 a1 : Option AV) (b b2 : Option AV) (z : Int) (ys : List Int), (run1 CR Q K ((p, 7, 2, ys) :: cs) (a0 :: a1 :: b :: b2 :: ls) (vL z :: st) h) = ((stK a1 = true ∧ run1 CR Q K cs (a0 :: a1 :: some (vL z) :: none :: ls) st h))) ∧ (∀ (p : Nat) (cs : List AE) (h : AH) (ls : LcT) (st : List AV) (a0 a1 : Option AV) (z n : Int), (run1 CR Q K ((p, 9, 2, [n]) :: cs) (a0 :: a1 :: some (vI z) :: ls) st h) = (run1 CR Q K cs (a0 :: a1 :: some (vI (w32 (z + n))) :: ls) st h)) ∧ (∀ (p : Nat) (cs : List AE) (h : AH) (ls : LcT) (st : List AV) (a0 a1 a2 : Option AV) (z : Int) (ys : List Int), (run1 CR Q K ((p, 3, 3, ys) :: cs) (a0 :: a1 :: a2 :: some (vI z) :: ls) st h) = (run1 CR Q K cs (a0 :: a1 :: a2 :: some (vI z) :: ls) (vI z :: st) h)) ∧ (∀ (p : Nat) (cs : List AE) (h : AH) (ls : LcT) (st : List AV) (a0 a1 a2 : Option AV) (z : Int) (ys : List Int), (run1 CR Q K ((p, 4, 3, ys) :: cs) (a0 :: a1 :: a2 :: some (vL z) :: ls) st h) = (run1 CR Q K cs (a0 :: a1 :: a2 :: some (vL z) :: ls) (vL z :: st) h)) ∧ (∀ (p : Nat) (cs : List AE) (h : AH) (ls : LcT) (st : List AV) (a0 a1 a2 : Option AV) (z : Nat) (ys : List Int), (run1 CR Q K ((p, 5, 3, ys) :: cs) (a0 :: a1 :: a2 :: some (vR z) :: ls) st h) = (run1 CR Q K cs (a0 :: a1 :: a2 :: some (vR z) :: ls) (vR z :: st) h)) ∧ (∀ (p : Nat) (cs : List AE) (h : AH) (ls : LcT) (st : List AV) (a0 a1 a2 : Option AV) (b : Option AV) (z : Int) (ys : List Int), (run1 CR Q K ((p, 6, 3, ys) :: cs) (a0 :: a1 :: a2 :: b :: ls) (vI z :: st) h) = ((stK a2 = true ∧ run1 CR Q K cs (a0 :: a1 :: a2 :: some (vI z) :: ls) st h))) ∧ (∀ (p : Nat) (cs : List AE) (h : AH) (ls : LcT) (st : List AV) (a0 a1 a2 : Option AV) (b : Option AV) (z : Nat) (ys : List Int), (run1 CR Q K ((p, 8, 3, ys) :: cs) (a0 :: a1 :: a2 :: b :: ls) (vR z :: st) h) = ((stK a2 = true ∧ run1 CR Q K cs (a0 :: a1 :: a2 :: some (vR z) :: ls) st h))) ∧ (∀ (p : Nat) (cs : List AE) (h : AH) (ls : LcT) (st : List AV) (a0 a1 a2 : Option AV) (b b2 : Option AV) (z : Int) (ys : List Int), (run1 CR Q K ((p, 7, 3, ys) :: cs) (a0 :: a1 :: a2 :: b :: b2 :: ls) (vL z :: st) h) = ((stK a2 = true ∧ run1 CR Q K cs (a0 :: a1 :: a2 :: some (vL z) :: none :: ls) st h))) ∧ (∀ (p : Nat) (cs : List AE) (h : AH) (ls : LcT) (st : List AV) (a0 a1 a2 : Option AV) (z n : Int), (run1 CR Q K ((p, 9, 3, [n]) :: cs) (a0 :: a1 :: a2 :: some (vI z) :: ls) st h) = (run1 CR Q K cs (a0 :: a1 :: a2 :: some (vI (w32 (z + n))) :: ls) st h)) ∧ (∀ (p : Nat) (cs : List AE) (h : AH) (ls : LcT) (st : List AV) (a0 a1 a2 a3 : Option AV) (z : Int) (ys : List Int), (run1 CR Q K ((p, 3, 4, ys) :: cs) (a0 :: a1 :: a2 :: a3 :: some (vI z) :: ls) st h) = (run1 CR Q K cs (a0 :: a1 :: a2 :: a3 :: some (vI z) :: ls) (vI z :: st) h)) ∧ (∀ (p : Nat) (cs : List AE) (h : AH) (ls : LcT) (st : List AV) (a0 a1 a2 a3 : Option AV) (z : Int) (ys : List Int), (run1 CR Q K ((p, 4, 4, ys) :: cs) (a0 :: a1 :: a2 :: a3 :: some (vL z) :: ls) st h) = (run1 CR Q K cs (a0 :: a1 :: a2 :: a3 :: some (vL z) :: ls) (vL z :: st) h)) ∧ (∀ (p : Nat) (cs : List AE) (h : AH) (ls : LcT) (st : List AV) (a0 a1 a2 a3 : Option AV) (z : Nat) (ys : List Int), (run1 CR Q K ((p, 5, 4, ys) :: cs) (a0 :: a1 :: a2 :: a3 :: some (vR z) :: ls) st h) = (run1 CR Q K cs (a0 :: a1 :: a2 :: a3 :: some (vR z) :: ls) (vR z :: st) h)) ∧ (∀ (p : Nat) (cs : List AE) (h : AH) (ls : LcT) (st : List AV) (a0 a1 a2 a3 : Option AV) (b : Option AV) (z : Int) (ys : List Int), (run1 CR Q K ((p, 6, 4, ys) :: cs) (a0 :: a1 :: a2 :: a3 :: b :: ls) (vI z :: st) h) = ((stK a3 = true ∧ run1 CR Q K cs (a0 :: a1 :: a2 :: a3 :: some (vI z) :: ls) st h))) ∧ (∀ (p : Nat) (cs : List AE) (h : AH) (ls : LcT) (st : List AV) (a0 a1 a2 a3 : Option AV) (b : Option AV) (z : Nat) (ys : List Int), (run1 CR Q K ((p, 8, 4, ys) :: cs) (a0 :: a1 :: a2 :: a3 :: b :: ls) (vR z :: st) h) = ((stK a3 = true ∧ run1 CR Q K cs (a0 :: a1 :: a2 :: a3 :: some (vR z) :: ls) st h))) ∧ (∀ (p : Nat) (cs : List AE) (h : AH) (ls : LcT) (st : List AV) (a0 a1 a2 a3 : Option AV) (b b2 : Option AV) (z : Int) (ys : List Int), (run1 CR Q K ((p, 7, 4, ys) :: cs) (a0 :: a1 :: a2 :: a3 :: b :: b2 :: ls) (vL z :: st) h) = ((stK a3 = true ∧ run1 CR Q K cs (a0 :: a1 :: a2 :: a3 :: some (vL z) :: none :: ls) st h))) ∧ (∀ (p : Nat) (cs : List AE) (h : AH) (ls : LcT) (st : List AV) (a0 a1 a2 a3 : Option AV) (z n : Int), (run1 CR Q K ((p, 9, 4, [n]) :: cs) (a0 :: a1 :: a2 :: a3 :: some (vI z) :: ls) st h) = (run1 CR Q K cs (a0 :: a1 :: a2 :: a3 :: some (vI (w32 (z + n))) :: ls) st h)) ∧ (∀ (p : Nat) (cs : List AE) (h : AH) (ls : LcT) (st : List AV) (a0 a1 a2 a3 a4 : Option AV) (z : Int) (ys : List Int), (run1 CR Q K ((p, 3, 5, ys) :: cs) (a0 :: a1 :: a2 :: a3 :: a4 :: some (vI z) :: ls) st h) = (run1 CR Q K cs (a0 :: a1 :: a2 :: a3 :: a4 :: some (vI z) :: ls) (vI z :: st) h)) ∧ (∀ (p : Nat) (cs : List AE) (h : AH) (ls : LcT) (st : List AV) (a0 a1 a2 a3 a4 : Option AV) (z : Int) (ys : List Int), (run1 CR Q K ((p, 4, 5, ys) :: cs) (a0 :: a1 :: a2 :: a3 :: a4 :: some (vL z) :: ls) st h) = (run1 CR Q K cs (a0 :: a1 :: a2 :: a3 :: a4 :: some (vL z) :: ls) (vL z :: st) h)) ∧ (∀ (p : Nat) (cs : List AE) (h : AH) (ls : LcT) (st : List AV) (a0 a1 a2 a3 a4 : Option AV) (z : Nat) (ys : List Int), (run1 CR Q K ((p, 5, 5, ys) :: cs) (a0 :: a1 :: a2 :: a3 :: a4 :: some (vR z) :: ls) st h) = (run1 CR Q K cs (a0 :: a1 :: a2 :: a3 :: a4 :: some (vR z) :: ls) (vR z :: st) h)) ∧ (∀ (p : Nat) (cs : List AE) (h : AH) (ls : LcT) (st : List AV) (a0 a1 a2 a3 a4 : Option AV) (b : Option AV) (z : Int) (ys : List Int), (run1 CR Q K ((p, 6, 5, ys) :: cs) (a0 :: a1 :: a2 :: a3 :: a4 :: b :: ls) (vI z :: st) h) = ((stK a4 = true ∧ run1 CR Q K cs (a0 :: a1 :: a2 :: a3 :: a4 :: some (vI z) :: ls) st h))) ∧ (∀ (p : Nat) (cs : List AE) (h : AH) (ls : LcT) (st : List AV) (a0 a1 a2 a3 a4 : Option AV) (b : Option AV) (z : Nat) (ys : List Int), (run1 CR Q K ((p, 8, 5, ys) :: cs) (a0 :: a1 :: a2 :: a3 :: a4 :: b :: ls) (vR z :: st) h) = ((stK a4 = true ∧ run1 CR Q K cs (a0 :: a1 :: a2 :: a3 :: a4 :: some (vR z) :: ls) st h))) ∧ (∀ (p : Nat) (cs : List AE) (h : AH) (ls : LcT) (st : List AV) (a0 a1 a2 a3 a4 : Option AV) (b b2 : Option AV) (z : Int) (ys : List Int), (run1 CR Q K ((p, 7, 5, ys) :: cs) (a0 :: a1 :: a2 :: a3 :: a4 :: b :: b2 :: ls) (vL z :: st) h) = ((stK a4 = true ∧ run1 CR Q K cs (a0 :: a1 :: a2 :: a3 :: a4 :: some (vL z) :: none :: ls) st h))) ∧ (∀ (p : Nat) (cs : List AE) (h : AH) (ls : LcT) (st : List AV) (a0 a1 a2 a3 a4 : Option AV) (z n : Int), (run1 CR Q K ((p, 9, 5, [n]) :: cs) (a0 :: a1 :: a2 :: a3 :: a4 :: some (vI z) :: ls) st h) = (run1 CR Q K cs (a0 :: a1 :: a2 :: a3 :: a4 :: some (vI (w32 (z + n))) :: ls) st h)) ∧ (∀ (p : Nat) (cs : List AE) (h : AH) (ls : LcT) (st : List AV) (a0 a1 a2 a3 a4 a5 : Option AV) (z : Int) (ys : List Int), (run1 CR Q K ((p, 3, 6, ys) :: cs) (a0 :: a1 :: a2 :: a3 :: a4 :: a5 :: some (vI z) :: ls) st h) = (run1 CR Q K cs (a0 :: a1 :: a2 :: a3 :: a4 :: a5 :: some (vI z) :: ls) (vI z :: st) h)) ∧ (∀ (p : Nat) (cs : List AE) (h : AH) (ls : LcT) (st : List AV) (a0 a1 a2 a3 a4 a5 : Option AV) (z : Int) (ys : List Int), (run1 CR Q K ((p, 4, 6, ys) :: cs) (a0 :: a1 :: a2 :: a3 :: a4 :: a5 :: some (vL z) :: ls) st h) = (run1 CR Q K cs (a0 :: a1 :: a2 :: a3 :: a4 :: a5 :: some (vL z) :: ls) (vL z :: st) h)) ∧ (∀ (p : Nat) (cs : List AE) (h : AH) (ls : LcT) (st : List AV) (a0 a1 a2 a3 a4 a5 : Option AV) (z : Nat) (ys : List Int), (run1 CR Q K ((p, 5, 6, ys) :: cs) (a0 :: a1 :: a2 :: a3 :: a4 :: a5 :: some (vR z) :: ls) st h) = (run1 CR Q K cs (a0 :: a1 :: a2 :: a3 :: a4 :: a5 :: some (vR z) :: ls) (vR z :: st) h)) ∧ (∀ (p : Nat) (cs : List AE) (h : AH) (ls : LcT) (st : List AV) (a0 a1 a2 a3 a4 a5 : Option AV) (b : Option AV) (z : Int) (ys : List Int), (run1 CR Q K ((p, 6, 6, ys) :: cs) (a0 :: a1 :: a2 :: a3 :: a4 :: a5 :: b :: ls) (vI z :: st) h) = ((stK a5 = true ∧ run1 CR Q K cs (a0 :: a1 :: a2 :: a3 :: a4 :: a5 :: some (vI z) :: ls) st h))) ∧ (∀ (p : Nat) (cs : List AE) (h : AH) (ls : LcT) (st : List AV) (a0 a1 a2 a3 a4 a5 : Option AV) (b : Option AV) (z : Nat) (ys : List Int), (run1 CR Q K ((p, 8, 6, ys) :: cs) (a0 :: a1 :: a2 :: a3 :: a4 :: a5 :: b :: ls) (vR z :: st) h) = ((stK a5 = true ∧ run1 CR Q K cs (a0 :: a1 :: a2 :: a3 :: a4 :: a5 :: some (vR z) :: ls) st h))) ∧ (∀ (p : Nat) (cs : List AE) (h : AH) (ls : LcT) (st : List AV) (a0 a1 a2 a3 a4 a5 : Option AV) (b b2 : Option AV) (z : Int) (ys : List Int), (run1 CR Q K ((p, 7, 6, ys) :: cs) (a0 :: a1 :: a2 :: a3 :: a4 :: a5 :: b :: b2 :: ls) (vL z :: st) h) = ((stK a5 = true ∧ run1 CR Q K cs (a0 :: a1 :: a2 :: a3 :: a4 :: a5 :: some (vL z) :: none :: ls) st h))) ∧ (∀ (p : Nat) (cs : List AE) (h : AH) (ls : LcT) (st : List AV) (a0 a1 a2 a3 a4 a5 : Option AV) (z n : Int), (run1 CR Q K ((p, 9, 6, [n]) :: cs) (a0 :: a1 :: a2 :: a3 :: a4 :: a5 :: some (vI z) :: ls) st h) = (run1 CR Q K cs (a0 :: a1 :: a2 :: a3 :: a4 :: a5 :: some (vI (w32 (z + n))) :: ls) st h)) ∧ (∀ (p : Nat) (cs : List AE) (h : AH) (ls : LcT) (st : List AV) (a0 a1 a2 a3 a4 a5 a6 : Option AV) (z : Int) (ys : List Int), (run1 CR Q K ((p, 3, 7, ys) :: cs) (a0 :: a1 :: a2 :: a3 :: a4 :: a5 :: a6 :: some (vI z) :: ls) st h) = (run1 CR Q K cs (a0 :: a1 :: a2 :: a3 :: a4 :: a5 :: a6 :: some (vI z) :: ls) (vI z :: st) h)) ∧ (∀ (p : Nat) (cs : List AE) (h : AH) (ls : LcT) (st : List AV) (a0 a1 a2 a3 a4 a5 a6 : Option AV) (z : Int) (ys : List Int), (run1 CR Q K ((p, 4, 7, ys) :: cs) (a0 :: a1 :: a2 :: a3 :: a4 :: a5 :: a6 :: some (vL z) :: ls) st h) = (run1 CR Q K cs (a0 :: a1 :: a2 :: a3 :: a4 :: a5 :: a6 :: some (vL z) :: ls) (vL z :: st) h)) ∧ (∀ (p : Nat) (cs : List AE) (h : AH) (ls : LcT) (st : List AV) (a0 a1 a2 a3 a4 a5 a6 : Option AV) (z : Nat) (ys : List Int), (run1 CR Q K ((p, 5, 7, ys) :: cs) (a0 :: a1 :: a2 :: a3 :: a4 :: a5 :: a6 :: some (vR z) :: ls) st h) = (run1 CR Q K cs (a0 :: a1 :: a2 :: a3 :: a4 :: a5 :: a6 :: some (vR z) :: ls) (vR z :: st) h)) ∧ (∀ (p : Nat) (cs : List AE) (h : AH) (ls : LcT) (st : List AV) (a0 a1 a2 a3 a4 a5 a6 : Option AV) (b : Option AV) (z : Int) (ys : List Int), (run1 CR Q K ((p, 6, 7, ys) :: cs) (a0 :: a1 :: a2 :: a3 :: a4 :: a5 :: a6 :: b :: ls) (vI z :: st) h) = ((stK a6 = true ∧ run1 CR Q K cs (a0 :: a1 :: a2 :: a3 :: a4 :: a5 :: a6 :: some (vI z) :: ls) st h))) ∧ (∀ (p : Nat) (cs : List AE) (h : AH) (ls : LcT) (st : List AV) (a0 a1 a2 a3 a4 a5 a6 : Option AV) (b : Option AV) (z : Nat) (ys : List Int), (run1 CR Q K ((p, 8, 7, ys) :: cs) (a0 :: a1 :: a2 :: a3 :: a4 :: a5 :: a6 :: b :: ls) (vR z :: st) h) = ((stK a6 = true ∧ run1 CR Q K cs (a0 :: a1 :: a2 :: a3 :: a4 :: a5 :: a6 :: some (vR z) :: ls) st h))) ∧ (∀ (p : Nat) (cs : List AE) (h : AH) (ls : LcT) (st : List AV) (a0 a1 a2 a3 a4 a5 a6 : Option AV) (b b2 : Option AV) (z : Int) (ys : List Int), (run1 CR Q K ((p, 7, 7, ys) :: cs) (a0 :: a1 :: a2 :: a3 :: a4 :: a5 :: a6 :: b :: b2 :: ls) (vL z :: st) h) = ((stK a6 = true ∧ run1 CR Q K cs (a0 :: a1 :: a2 :: a3 :: a4 :: a5 :: a6 :: some (vL z) :: none :: ls) st h))) ∧ (∀ (p : Nat) (cs : List AE) (h : AH) (ls : LcT) (st : List AV) (a0 a1 a2 a3 a4 a5 a6 : Option AV) (z n : Int), (run1 CR Q K ((p, 9, 7, [n]) :: cs) (a0 :: a1 :: a2 :: a3 :: a4 :: a5 :: a6 :: some (vI z) :: ls) st h) = (run1 CR Q K cs (a0 :: a1 :: a2 :: a3 :: a4 :: a5 :: a6 :: some (vI (w32 (z + n))) :: ls) st h)) ∧ (∀ (p : Nat) (cs : List AE) (h : AH) (ls : LcT) (st : List AV) (a0 a1 a2 a3 a4 a5 a6 a7 : Option AV) (z : Int) (ys : List Int), (run1 CR Q K ((p, 3, 8, ys) :: cs) (a0 :: a1 :: a2 :: a3 :: a4 :: a5 :: a6 :: a7 :: some (vI z) :: ls) st h) = (run1 CR Q K cs (a0 :: a1 :: a2 :: a3 :: a4 :: a5 :: a6 :: a7 :: some (vI z) :: ls) (vI z :: st) h)) ∧ (∀ (p : Nat) (cs : List AE) (h : AH) (ls : LcT) (st : List AV) (a0 a1 a2 a3 a4 a5 a6 a7 : Option AV) (z : Int) (ys : List Int), (run1 CR Q K ((p, 4, 8, ys) :: cs) (a0 :: a1 :: a2 :: a3 :: a4 :: a5 :: a6 :: a7 :: some (vL z) :: ls) st h) = (run1 CR Q K cs (a0 :: a1 :: a2 :: a3 :: a4 :: a5 :: a6 :: a7 :: some (vL z) :: ls) (vL z :: st) h)) ∧ (∀ (p : Nat) (cs : List AE) (h : AH) (ls : LcT) (st : List AV) (a0 a1 a2 a3 a4 a5 a6 a7 : Option AV) (z : Nat) (ys : List Int), (run1 CR Q K ((p, 5, 8, ys) :: cs) (a0 :: a1 :: a2 :: a3 :: a4 :: a5 :: a6 :: a7 :: some (vR z) :: ls) st h) = (run1 CR Q K cs (a0 :: a1 :: a2 :: a3 :: a4 :: a5 :: a6 :: a7 :: some (vR z) :: ls) (vR z :: st) h)) ∧ (∀ (p : Nat) (cs : List AE) (h : AH) (ls : LcT) (st : List AV) (a0 a1 a2 a3 a4 a5 a6 a7 : Option AV) (b : Option AV) (z : Int) (ys : List Int), (run1 CR Q K ((p, 6, 8, ys) :: cs) (a0 :: a1 :: a2 :: a3 :: a4 :: a5 :: a6 :: a7 :: b :: ls) (vI z :: st) h) = ((stK a7 = true ∧ run1 CR Q K cs (a0 :: a1 :: a2 :: a3 :: a4 :: a5 :: a6 :: a7 :: some (vI z) :: ls) st h))) ∧ (∀ (p : Nat) (cs : List AE) (h : AH) (ls : LcT) (st : List AV) (a0 a1 a2 a3 a4 a5 a6 a7 : Option AV) (b : Option AV) (z : Nat) (ys : List Int), (run1 CR Q K ((p, 8, 8, ys) :: cs) (a0 :: a1 :: a2 :: a3 :: a4 :: a5 :: a6 :: a7 :: b :: ls) (vR z :: st) h) = ((stK a7 = true ∧ run1 CR Q K cs (a0 :: a1 :: a2 :: a3 :: a4 :: a5 :: a6 :: a7 :: some (vR z) :: ls) st h))) ∧ (∀ (p : Nat) (cs : List AE) (h : AH) (ls : LcT) (st : List AV) (a0 a1 a2 a3 a4 a5 a6 a7 : Option AV) (b b2 : Option AV) (z : Int) (ys : List Int), (run1 CR Q K ((p, 7, 8, ys) :: cs) (a0 :: a1 :: a2 :: a3 :: a4 :: a5 :: a6 :: a7 :: b :: b2 :: ls) (vL z :: st) h) = ((stK a7 = true ∧ run1 CR Q K cs (a0 :: a1 :: a2 :: a3 :: a4 :: a5 :: a6 :: a7 :: some (vL z) :: none :: ls) st h))) ∧ (∀ (p : Nat) (cs : List AE) (h : AH) (ls : LcT) (st : List AV) (a0 a1 a2 a3 a4 a5 a6 a7 : Option AV) (z n : Int), (run1 CR Q K ((p, 9, 8, [n]) :: cs) (a0 :: a1 :: a2 :: a3 :: a4 :: a5 :: a6 :: a7 :: some (vI z) :: ls) st h) = (run1 CR Q K cs (a0 :: a1 :: a2 :: a3 :: a4 :: a5 :: a6 :: a7 :: some (vI (w32 (z + n))) :: ls) st h)) ∧ (∀ (p : Nat) (cs : List AE) (h : AH) (ls : LcT) (st : List AV) (a0 a1 a2 a3 a4 a5 a6 a7 a8 : Option AV) (z : Int) (ys : List Int), (run1 CR Q K ((p, 3, 9, ys) :: cs) (a0 :: a1 :: a2 :: a3 :: a4 :: a5 :: a6 :: a7 :: a8 :: some (vI z) :: ls) st h) = (run1 CR Q K cs (a0 :: a1 :: a2 :: a3 :: a4 :: a5 :: a6 :: a7 :: a8 :: some (vI z) :: ls) (vI z :: st) h)) ∧ (∀ (p : Nat) (cs : List AE) (h : AH) (ls : LcT) (st : List AV) (a0 a1 a2 a3 a4 a5 a6 a7 a8 : Option AV) (z : Int) (ys : List Int), (run1 CR Q K ((p, 4, 9, ys) :: cs) (a0 :: a1 :: a2 :: a3 :: a4 :: a5 :: a6 :: a7 :: a8 :: some (vL z) :: ls) st h) = (run1 CR Q K cs (a0 :: a1 :: a2 :: a3 :: a4 :: a5 :: a6 :: a7 :: a8 :: some (vL z) :: ls) (vL z :: st) h)) ∧ (∀ (p : Nat) (cs : List AE) (h : AH) (ls : LcT) (st : List AV) (a0 a1 a2 a3 a4 a5 a6 a7 a8 : Option AV) (z : Nat) (ys : List Int), (run1 CR Q K ((p, 5, 9, ys) :: cs) (a0 :: a1 :: a2 :: a3 :: a4 :: a5 :: a6 :: a7 :: a8 :: some (vR z) :: ls) st h) = (run1 CR Q K cs (a0 :: a1 :: a2 :: a3 :: a4 :: a5 :: a6 :: a7 :: a8 :: some (vR z) :: ls) (vR z :: st) h)) ∧ (∀ (p : Nat) (cs : List AE) (h : AH) (ls : LcT) (st : List AV) (a0 a1 a2 a3 a4 a5 a6 a7 a8 : Option AV) (b : Option AV) (z : Int) (ys : List Int), (run1 CR Q K ((p, 6, 9, ys) :: cs) (a0 :: a1 :: a2 :: a3 :: a4 :: a5 :: a6 :: a7 :: a8 :: b :: ls) (vI z :: st) h) = ((stK a8 = true ∧ run1 CR Q K cs (a0 :: a1 :: a2 :: a3 :: a4 :: a5 :: a6 :: a7 :: a8 :: some (vI z) :: ls) st h))) ∧ (∀ (p : Nat) (cs : List AE) (h : AH) (ls : LcT) (st : List AV) (a0 a1 a2 a3 a4 a5 a6 a7 a8 : Option AV) (b : Option AV) (z : Nat) (ys : List Int), (run1 CR Q K ((p, 8, 9, ys) :: cs) (a0 :: a1 :: a2 :: a3 :: a4 :: a5 :: a6 :: a7 :: a8 :: b :: ls) (vR z :: st) h) = ((stK a8 = true ∧ run1 CR Q K cs (a0 :: a1 :: a2 :: a3 :: a4 :: a5 :: a6 :: a7 :: a8 :: some (vR z) :: ls) st h))) ∧ (∀ (p : Nat) (cs : List AE) (h : AH) (ls : LcT) (st : List AV) (a0 a1 a2 a3 a4 a5 a6 a7 a8 : Option AV) (b b2 : Option AV) (z : Int) (ys : List Int), (run1 CR Q K ((p, 7, 9, ys) :: cs) (a0 :: a1 :: a2 :: a3 :: a4 :: a5 :: a6 :: a7 :: a8 :: b :: b2 :: ls) (vL z :: st) h) = ((stK a8 = true ∧ run1 CR Q K cs (a0 :: a1 :: a2 :: a3 :: a4 :: a5 :: a6 :: a7 :: a8 :: some (vL z) :: none :: ls) st h))) ∧ (∀ (p : Nat) (cs : List AE) (h : AH) (ls : LcT) (st : List AV) (a0 a1 a2 a3 a4 a5 a6 a7 a8 : Option AV) (z n : Int), (run1 CR Q K ((p, 9, 9, [n]) :: cs) (a0 :: a1 :: a2 :: a3 :: a4 :: a5 :: a6 :: a7 :: a8 :: some (vI z) :: ls) st h) = (run1 CR Q K cs (a0 :: a1 :: a2 :: a3 :: a4 :: a5 :: a6 :: a7 :: a8 :: some (vI (w32 (z + n))) :: ls) st h)) ∧ (∀ (p : Nat) (cs : List AE) (h : AH) (ls : LcT) (st : List AV) (a0 a1 a2 a3 a4 a5 a6 a7 a8 a9 : Option AV) (z : Int) (ys : List Int), (run1 CR Q K ((p, 3, 10, ys) :: cs) (a0 :: a1 :: a2 :: a3 :: a4 :: a5 :: a6 :: a7 :: a8 :: a9 :: some (vI z) :: ls) st h) = (run1 CR Q K cs (a0 :: a1 :: a2 :: a3 :: a4 :: a5 :: a6 :: a7 :: a8 :: a9 :: some (vI z) :: ls) (vI z :: st) h)) ∧ (∀ (p : Nat) (cs : List AE) (h : AH) (ls : LcT) (st : List AV) (a0 a1 a2 a3 a4 a5 a6 a7 a8 a9 : Option AV) (z : Int) (ys : List Int), (run1 CR Q K ((p, 4, 10, ys) :: cs) (a0 :: a1 :: a2 :: a3 :: a4 :: a5 :: a6 :: a7 :: a8 :: a9 :: some (vL z) :: ls) st h) = (run1 CR Q K cs (a0 :: a1 :: a2 :: a3 :: a4 :: a5 :: a6 :: a7 :: a8 :: a9 :: some (vL z) :: ls) (vL z :: st) h)) ∧ (∀ (p : Nat) (cs : List AE) (h : AH) (ls : LcT) (st : List AV) (a0 a1 a2 a3 a4 a5 a6 a7 a8 a9 : Option AV) (z : Nat) (ys : List Int), (run1 CR Q K ((p, 5, 10, ys) :: cs) (a0 :: a1 :: a2 :: a3 :: a4 :: a5 :: a6 :: a7 :: a8 :: a9 :: some (vR z) :: ls) st h) = (run1 CR Q K cs (a0 :: a1 :: a2 :: a3 :: a4 :: a5 :: a6 :: a7 :: a8 :: a9 :: some (vR z) :: ls) (vR z :: st) h)) ∧ (∀ (p : Nat) (cs : List AE) (h : AH) (ls : LcT) (st : List AV) (a0 a1 a2 a3 a4 a5 a6 a7 a8 a9 : Option AV) (b : Option AV) (z : Int) (ys : List Int), (run1 CR Q K ((p, 6, 10, ys) :: cs) (a0 :: a1 :: a2 :: a3 :: a4 :: a5 :: a6 :: a7 :: a8 :: a9 :: b :: ls) (vI z :: st) h) = ((stK a9 = true ∧ run1 CR Q K cs (a0 :: a1 :: a2 :: a3 :: a4 :: a5 :: a6 :: a7 :: a8 :: a9 :: some (vI z) :: ls) st h))) ∧ (∀ (p : Nat) (cs : List AE) (h : AH) (ls : LcT) (st : List AV) (a0 a1 a2 a3 a4 a5 a6 a7 a8 a9 : Option AV) (b : Option AV) (z : Nat) (ys : List Int), (run1 CR Q K ((p, 8, 10, ys) :: cs) (a0 :: a1 :: a2 :: a3 :: a4 :: a5 :: a6 :: a7 :: a8 :: a9 :: b :: ls) (vR z :: st) h) = ((stK a9 = true ∧ run1 CR Q K cs (a0 :: a1 :: a2 :: a3 :: a4 :: a5 :: a6 :: a7 :: a8 :: a9 :: some (vR z) :: ls) st h))) ∧ (∀ (p : Nat) (cs : List AE) (h : AH) (ls : LcT) (st : List AV) (a0 a1 a2 a3 a4 a5 a6 a7 a8 a9 : Option AV) (b b2 : Option AV) (z : Int) (ys : List Int), (run1 CR Q K ((p, 7, 10, ys) :: cs) (a0 :: a1 :: a2 :: a3 :: a4 :: a5 :: a6 :: a7 :: a8 :: a9 :: b :: b2 :: ls) (vL z :: st) h) = ((stK a9 = true ∧ run1 CR Q K cs (a0 :: a1 :: a2 :: a3 :: a4 :: a5 :: a6 :: a7 :: a8 :: a9 :: some (vL z) :: none :: ls) st h))) ∧ (∀ (p : Nat) (cs : List AE) (h : AH) (ls : LcT) (st : List AV) (a0 a1 a2 a3 a4 a5 a6 a7 a8 a9 : Option AV) (z n : Int), (run1 CR Q K ((p, 9, 10, [n]) :: cs) (a0 :: a1 :: a2 :: a3 :: a4 :: a5 :: a6 :: a7 :: a8 :: a9 :: some (vI z) :: ls) st h) = (run1 CR Q K cs (a0 :: a1 :: a2 :: a3 :: a4 :: a5 :: a6 :: a7 :: a8 :: a9 :: some (vI (w32 (z + n))) :: ls) st h)) ∧ (∀ (p : Nat) (cs : List AE) (h : AH) (ls : LcT) (st : List AV) (a0 a1 a2 a3 a4 a5 a6 a7 a8 a9 a10 : Option AV) (z : Int) (ys : List Int), (run1 CR Q K ((p, 3, 11, ys) :: cs) (a0 :: a1 :: a2 :: a3 :: a4 :: a5 :: a6 :: a7 :: a8 :: a9 :: a10 :: some (vI z) :: ls) st h) = (run1 CR Q K cs (a0 :: a1 :: a2 :: a3 :: a4 :: a5 :: a6 :: a7 :: a8 :: a9 :: a10 :: some (vI z) :: ls) (vI z :: st) h)) ∧ (∀ (p : Nat) (cs : List AE) (h : AH) (ls : LcT) (st : List AV) (a0 a1 a2 a3 a4 a5 a6 a7 a8 a9 a10 : Option AV) (z : Int) (ys : List Int), (run1 CR Q K ((p, 4, 11, ys) :: cs) (a0 :: a1 :: a2 :: a3 :: a4 :: a5 :: a6 :: a7 :: a8 :: a9 :: a10 :: some (vL z) :: ls) st h) = (run1 CR Q K cs (a0 :: a1 :: a2 :: a3 :: a4 :: a5 :: a6 :: a7 :: a8 :: a9 :: a10 :: some (vL z) :: ls) (vL z :: st) h)) ∧ (∀ (p : Nat) (cs : List AE) (h : AH) (ls : LcT) (st : List AV) (a0 a1 a2 a3 a4 a5 a6 a7 a8 a9 a10 : Option AV) (z : Nat) (ys : List Int), (run1 CR Q K ((p, 5, 11, ys) :: cs) (a0 :: a1 :: a2 :: a3 :: a4 :: a5 :: a6 :: a7 :: a8 :: a9 :: a10 :: some (vR z) :: ls) st h) = (run1 CR Q K cs (a0 :: a1 :: a2 :: a3 :: a4 :: a5 :: a6 :: a7 :: a8 :: a9 :: a10 :: some (vR z) :: ls) (vR z :: st) h)) ∧ (∀ (p : Nat) (cs : List AE) (h : AH) (ls : LcT) (st : List AV) (a0 a1 a2 a3 a4 a5 a6 a7 a8 a9 a10 : Option AV) (b : Option AV) (z : Int) (ys : List Int), (run1 CR Q K ((p, 6, 11, ys) :: cs) (a0 :: a1 :: a2 :: a3 :: a4 :: a5 :: a6 :: a7 :: a8 :: a9 :: a10 :: b :: ls) (vI z :: st) h) = ((stK a10 = true ∧ run1 CR Q K cs (a0 :: a1 :: a2 :: a3 :: a4 :: a5 :: a6 :: a7 :: a8 :: a9 :: a10 :: some (vI z) :: ls) st h))) ∧ (∀ (p : Nat) (cs : List AE) (h : AH) (ls : LcT) (st : List AV) (a0 a1 a2 a3 a4 a5 a6 a7 a8 a9 a10 : Option AV) (b : Option AV) (z : Nat) (ys : List Int), (run1 CR Q K ((p, 8, 11, ys) :: cs) (a0 :: a1 :: a2 :: a3 :: a4 :: a5 :: a6 :: a7 :: a8 :: a9 :: a10 :: b :: ls) (vR z :: st) h) = ((stK a10 = true ∧ run1 CR Q K cs (a0 :: a1 :: a2 :: a3 :: a4 :: a5 :: a6 :: a7 :: a8 :: a9 :: a10 :: some (vR z) :: ls) st h))) ∧ (∀ (p : Nat) (cs : List AE) (h : AH) (ls : LcT) (st : List AV) (a0 a1 a2 a3 a4 a5 a6 a7 a8 a9 a10 : Option AV) (b b2 : Option AV) (z : Int) (ys : List Int), (run1 CR Q K ((p, 7, 11, ys) :: cs) (a0 :: a1 :: a2 :: a3 :: a4 :: a5 :: a6 :: a7 :: a8 :: a9 :: a10 :: b :: b2 :: ls) (vL z :: st) h) = ((stK a10 = true ∧ run1 CR Q K cs (a0 :: a1 :: a2 :: a3 :: a4 :: a5 :: a6 :: a7 :: a8 :: a9 :: a10 :: some (vL z) :: none :: ls) st h))) ∧ (∀ (p : Nat) (cs : List AE) (h : AH) (ls : LcT) (st : List AV) (a0 a1 a2 a3 a4 a5 a6 a7 a8 a9 a10 : Option AV) (z n : Int), (run1 CR Q K ((p, 9, 11, [n]) :: cs) (a0 :: a1 :: a2 :: a3 :: a4 :: a5 :: a6 :: a7 :: a8 :: a9 :: a10 :: some (vI z) :: ls) st h) = (run1 CR Q K cs (a0 :: a1 :: a2 :: a3 :: a4 :: a5 :: a6 :: a7 :: a8 :: a9 :: a10 :: some (vI (w32 (z + n))) :: ls) st h)) ∧ (∀ (p : Nat) (cs : List AE) (h : AH) (ls : LcT) (st : List AV) (a0 a1 a2 a3 a4 a5 a6 a7 a8 a9 a10 a11 : Option AV) (z : Int) (ys : List Int), (run1 CR Q K ((p, 3, 12, ys) :: cs) (a0 :: a1 :: a2 :: a3 :: a4 :: a5 :: a6 :: a7 :: a8 :: a9 :: a10 :: a11 :: some (vI z) :: ls) st h) = (run1 CR Q K cs (a0 :: a1 :: a2 :: a3 :: a4 :: a5 :: a6 :: a7 :: a8 :: a9 :: a10 :: a11 :: some (vI z) :: ls) (vI z :: st) h)) ∧ (∀ (p : Nat) (cs : List AE) (h : AH) (ls : LcT) (st : List AV) (a0 a1 a2 a3 a4 a5 a6 a7 a8 a9 a10 a11 : Option AV) (z : Int) (ys : List Int), (run1 CR Q K ((p, 4, 12, ys) :: cs) (a0 :: a1 :: a2 :: a3 :: a4 :: a5 :: a6 :: a7 :: a8 :: a9 :: a10 :: a11 :: some (vL z) :: ls) st h) = (run1 CR Q K cs (a0 :: a1 :: a2 :: a3 :: a4 :: a5 :: a6 :: a7 :: a8 :: a9 :: a10 :: a11 :: some (vL z) :: ls) (vL z :: st) h)) ∧ (∀ (p : Nat) (cs : List AE) (h : AH) (ls : LcT) (st : List AV) (a0 a1 a2 a3 a4 a5 a6 a7 a8 a9 a10 a11 : Option AV) (z : Nat) (ys : List Int), (run1 CR Q K ((p, 5, 12, ys) :: cs) (a0 :: a1 :: a2 :: a3 :: a4 :: a5 :: a6 :: a7 :: a8 :: a9 :: a10 :: a11 :: some (vR z) :: ls) st h) = (run1 CR Q K cs (a0 :: a1 :: a2 :: a3 :: a4 :: a5 :: a6 :: a7 :: a8 :: a9 :: a10 :: a11 :: some (vR z) :: ls) (vR z :: st) h)) ∧ (∀ (p : Nat) (cs : List AE) (h : AH) (ls : LcT) (st : List AV) (a0 a1 a2 a3 a4 a5 a6 a7 a8 a9 a10 a11 : Option AV) (b : Option AV) (z : Int) (ys : List Int), (run1 CR Q K ((p, 6, 12, ys) :: cs) (a0 :: a1 :: a2 :: a3 :: a4 :: a5 :: a6 :: a7 :: a8 :: a9 :: a10 :: a11 :: b :: ls) (vI z :: st) h) = ((stK a11 = true ∧ run1 CR Q K cs (a0 :: a1 :: a2 :: a3 :: a4 :: a5 :: a6 :: a7 :: a8 :: a9 :: a10 :: a11 :: some (vI z) :: ls) st h))) ∧ (∀ (p : Nat) (cs : List AE) (h : AH) (ls : LcT) (st : List AV) (a0 a1 a2 a3 a4 a5 a6 a7 a8 a9 a10 a11 : Option AV) (b : Option AV) (z : Nat) (ys : List Int), (run1 CR Q K ((p, 8, 12, ys) :: cs) (a0 :: a1 :: a2 :: a3 :: a4 :: a5 :: a6 :: a7 :: a8 :: a9 :: a10 :: a11 :: b :: ls) (vR z :: st) h) = ((stK a11 = true ∧ run1 CR Q K cs (a0 :: a1 :: a2 :: a3 :: a4 :: a5 :: a6 :: a7 :: a8 :: a9 :: a10 :: a11 :: some (vR z) :: ls) st h))) ∧ (∀ (p : Nat) (cs : List AE) (h : AH) (ls : LcT) (st : List AV) (a0 a1 a2 a3 a4 a5 a6 a7 a8 a9 a10 a11 : Option AV) (b b2 : Option AV) (z : Int) (ys : List Int), (run1 CR Q K ((p, 7, 12, ys) :: cs) (a0 :: a1 :: a2 :: a3 :: a4 :: a5 :: a6 :: a7 :: a8 :: a9 :: a10 :: a11 :: b :: b2 :: ls) (vL z :: st) h) = ((stK a11 = true ∧ run1 CR Q K cs (a0 :: a1 :: a2 :: a3 :: a4 :: a5 :: a6 :: a7 :: a8 :: a9 :: a10 :: a11 :: some (vL z) :: none :: ls) st h))) ∧ (∀ (p : Nat) (cs : List AE) (h : AH) (ls : LcT) (st : List AV) (a0 a1 a2 a3 a4 a5 a6 a7 a8 a9 a10 a11 : Option AV) (z n : Int), (run1 CR Q K ((p, 9, 12, [n]) :: cs) (a0 :: a1 :: a2 :: a3 :: a4 :: a5 :: a6 :: a7 :: a8 :: a9 :: a10 :: a11 :: some (vI z) :: ls) st h) = (run1 CR Q K cs (a0 :: a1 :: a2 :: a3 :: a4 :: a5 :: a6 :: a7 :: a8 :: a9 :: a10 :: a11 :: some (vI (w32 (z + n))) :: ls) st h)) ∧ (∀ (p : Nat) (cs : List AE) (h : AH) (ls : LcT) (st : List AV) (a0 a1 a2 a3 a4 a5 a6 a7 a8 a9 a10 a11 a12 : Option AV) (z : Int) (ys : List Int), (run1 CR Q K ((p, 3, 13, ys) :: cs) (a0 :: a1 :: a2 :: a3 :: a4 :: a5 :: a6 :: a7 :: a8 :: a9 :: a10 :: a11 :: a12 :: some (vI z) :: ls) st h) = (run1 CR Q K cs (a0 :: a1 :: a2 :: a3 :: a4 :: a5 :: a6 :: a7 :: a8 :: a9 :: a10 :: a11 :: a12 :: some (vI z) :: ls) (vI z :: st) h)) ∧ (∀ (p : Nat) (cs : List AE) (h : AH) (ls : LcT) (st : List AV) (a0 a1 a2 a3 a4 a5 a6 a7 a8 a9 a10 a11 a12 : Option AV) (z : Int) (ys : List Int), (run1 CR Q K ((p, 4, 13, ys) :: cs) (a0 :: a1 :: a2 :: a3 :: a4 :: a5 :: a6 :: a7 :: a8 :: a9 :: a10 :: a11 :: a12 :: some (vL z) :: ls) st h) = (run1 CR Q K cs (a0 :: a1 :: a2 :: a3 :: a4 :: a5 :: a6 :: a7 :: a8 :: a9 :: a10 :: a11 :: a12 :: some (vL z) :: ls) (vL z :: st) h)) ∧ (∀ (p : Nat) (cs : List AE) (h : AH) (ls : LcT) (st : List AV) (a0 a1 a2 a3 a4 a5 a6 a7 a8 a9 a10 a11 a12 : Option AV) (z : Nat) (ys : List Int), (run1 CR Q K ((p, 5, 13, ys) :: cs) (a0 :: a1 :: a2 :: a3 :: a4 :: a5 :: a6 :: a7 :: a8 :: a9 :: a10 :: a11 :: a12 :: some (vR z) :: ls) st h) = (run1 CR Q K cs (a0 :: a1 :: a2 :: a3 :: a4 :: a5 :: a6 :: a7 :: a8 :: a9 :: a10 :: a11 :: a12 :: some (vR z) :: ls) (vR z :: st) h)) ∧ (∀ (p : Nat) (cs : List AE) (h : AH) (ls : LcT) (st : List AV) (a0 a1 a2 a3 a4 a5 a6 a7 a8 a9 a10 a11 a12 : Option AV) (b : Option AV) (z : Int) (ys : List Int), (run1 CR Q K ((p, 6, 13, ys) :: cs) (a0 :: a1 :: a2 :: a3 :: a4 :: a5 :: a6 :: a7 :: a8 :: a9 :: a10 :: a11 :: a12 :: b :: ls) (vI z :: st) h) = ((stK a12 = true ∧ run1 CR Q K cs (a0 :: a1 :: a2 :: a3 :: a4 :: a5 :: a6 :: a7 :: a8 :: a9 :: a10 :: a11 :: a12 :: some (vI z) :: ls) st h))) ∧ (∀ (p : Nat) (cs : List AE) (h : AH) (ls : LcT) (st : List AV) (a0 a1 a2 a3 a4 a5 a6 a7 a8 a9 a10 a11 a12 : Option AV) (b : Option AV) (z : Nat) (ys : List Int), (run1 CR Q K ((p, 8, 13, ys) :: cs) (a0 :: a1 :: a2 :: a3 :: a4 :: a5 :: a6 :: a7 :: a8 :: a9 :: a10 :: a11 :: a12 :: b :: ls) (vR z :: st) h) = ((stK a12 = true ∧ run1 CR Q K cs (a0 :: a1 :: a2 :: a3 :: a4 :: a5 :: a6 :: a7 :: a8 :: a9 :: a10 :: a11 :: a12 :: some (vR z) :: ls) st h))) ∧ (∀ (p : Nat) (cs : List AE) (h : AH) (ls : LcT) (st : List AV) (a0 a1 a2 a3 a4 a5 a6 a7 a8 a9 a10 a11 a12 : Option AV) (b b2 : Option AV) (z : Int) (ys : List Int), (run1 CR Q K ((p, 7, 13, ys) :: cs) (a0 :: a1 :: a2 :: a3 :: a4 :: a5 :: a6 :: a7 :: a8 :: a9 :: a10 :: a11 :: a12 :: b :: b2 :: ls) (vL z :: st) h) = ((stK a12 = true ∧ run1 CR Q K cs (a0 :: a1 :: a2 :: a3 :: a4 :: a5 :: a6 :: a7 :: a8 :: a9 :: a10 :: a11 :: a12 :: some (vL z) :: none :: ls) st h))) ∧ (∀ (p : Nat) (cs : List AE) (h : AH) (ls : LcT) (st : List AV) (a0 a1 a2 a3 a4 a5 a6 a7 a8 a9 a10 a11 a12 : Option AV) (z n : Int), (run1 CR Q K ((p, 9, 13, [n]) :: cs) (a0 :: a1 :: a2 :: a3 :: a4 :: a5 :: a6 :: a7 :: a8 :: a9 :: a10 :: a11 :: a12 :: some (vI z) :: ls) st h) = (run1 CR Q K cs (a0 :: a1 :: a2 :: a3 :: a4 :: a5 :: a6 :: a7 :: a8 :: a9 :: a10 :: a11 :: a12 :: some (vI (w32 (z + n))) :: ls) st h)) ∧ (∀ (p : Nat) (cs : List AE) (h : AH) (ls : LcT) (st : List AV) (a b x : Int) (ys : List Int), (run1 CR Q K ((p, 10, x, ys) :: cs) ls (vI b :: vI a :: st) h) = (run1 CR Q K cs ls (vI (w32 (a + b)) :: st) h)) ∧ (∀ (p : Nat) (cs : List AE) (h : AH) (ls : LcT) (st : List AV) (a b x : Int) (ys : List Int), (run1 CR Q K ((p, 11, x, ys) :: cs) ls (vI b :: vI a :: st) h) = (run1 CR Q K cs ls (vI (w32 (a - b)) :: st) h)) ∧ (∀ (p : Nat) (cs : List AE) (h : AH) (ls : LcT) (st : List AV) (a b x : Int) (ys : List Int), (run1 CR Q K ((p, 12, x, ys) :: cs) ls (vI b :: vI a :: st) h) = (run1 CR Q K cs ls (vI (w32 (a * b)) :: st) h)) ∧ (∀ (p : Nat) (cs : List AE) (h : AH) (ls : LcT) (st : List AV) (a b x : Int) (ys : List Int), (run1 CR Q K ((p, 15, x, ys) :: cs) ls (vI b :: vI a :: st) h) = (run1 CR Q K cs ls (vI (and32 a b) :: st) h)) ∧ (∀ (p : Nat) (cs : List AE) (h : AH) (ls : LcT) (st : List AV) (a b x : Int) (ys : List Int), (run1 CR Q K ((p, 16, x, ys) :: cs) ls (vI b :: vI a :: st) h) = (run1 CR Q K cs ls (vI (or32 a b) :: st) h)) ∧ (∀ (p : Nat) (cs : List AE) (h : AH) (ls : LcT) (st : List AV) (a b x : Int) (ys : List Int), (run1 CR Q K ((p, 17, x, ys) :: cs) ls (vI b :: vI a :: st) h) = (run1 CR Q K cs ls (vI (xor32 a b) :: st) h)) ∧ (∀ (p : Nat) (cs : List AE) (h : AH) (ls : LcT) (st : List AV) (a b x : Int) (ys : List Int), (run1 CR Q K ((p, 18, x, ys) :: cs) ls (vI b :: vI a :: st) h) = (run1 CR Q K cs ls (vI (shl32 a b) :: st) h)) ∧ (∀ (p : Nat) (cs : List AE) (h : AH) (ls : LcT) (st : List AV) (a b x : Int) (ys : List Int), (run1 CR Q K ((p, 19, x, ys) :: cs) ls (vI b :: vI a :: st) h) = (run1 CR Q K cs ls (vI (shr32 a b) :: st) h)) ∧ (∀ (p : Nat) (cs : List AE) (h : AH) (ls : LcT) (st : List AV) (a b x : Int) (ys : List Int), (run1 CR Q K ((p, 20, x, ys) :: cs) ls (vI b :: vI a :: st) h) = (run1 CR Q K cs ls (vI (ushr32 a b) :: st) h)) ∧ (∀ (p : Nat) (cs : List AE) (h : AH) (ls : LcT) (st : List AV) (a b x : Int) (ys : List Int), (run1 CR Q K ((p, 13, x, ys) :: cs) ls (vI b :: vI a :: st) h) = ((b ≠ 0 ∧ run1 CR Q K cs ls (vI (d32 a b) :: st) h))) ∧ (∀ (p : Nat) (cs : List AE) (h : AH) (ls : LcT) (st : List AV) (a b x : Int) (ys : List Int), (run1 CR Q K ((p, 14, x, ys) :: cs) ls (vI b :: vI a :: st) h) = ((b ≠ 0 ∧ run1 CR Q K cs ls (vI (m32 a b) :: st) h))) ∧ (∀ (p : Nat) (cs : List AE) (h : AH) (ls : LcT) (st : List AV) (a b x : Int) (ys : List Int), (run1 CR Q K ((p, 21, x, ys) :: cs) ls (vL b :: vL a :: st) h) = (run1 CR Q K cs ls (vL (w64 (a + b)) :: st) h)) ∧ (∀ (p : Nat) (cs : List AE) (h : AH) (ls : LcT) (st : List AV) (a b x : Int) (ys : List Int), (run1 CR Q K ((p, 22, x, ys) :: cs) ls (vL b :: vL a :: st) h) = (run1 CR Q K cs ls (vL (w64 (a - b)) :: st) h)) ∧ (∀ (p : Nat) (cs : List AE) (h : AH) (ls : LcT) (st : List AV) (a b x : Int) (ys : List Int), (run1 CR Q K ((p, 23, x, ys) :: cs) ls (vL b :: vL a :: st) h) = (run1 CR Q K cs ls (vL (w64 (a * b)) :: st) h)) ∧ (∀ (p : Nat) (cs : List AE) (h : AH) (ls : LcT) (st : List AV) (a b x : Int) (ys : List Int), (run1 CR Q K ((p, 24, x, ys) :: cs) ls (vL b :: vL a :: st) h) = (run1 CR Q K cs ls (vL (and64 a b) :: st) h)) ∧ (∀ (p : Nat) (cs : List AE) (h : AH) (ls : LcT) (st : List AV) (a b x : Int) (ys : List Int), (run1 CR Q K ((p, 27, x, ys) :: cs) ls (vL b :: vL a :: st) h) = (run1 CR Q K cs ls (vI (cmp64 a b) :: st) h)) ∧ (∀ (p : Nat) (cs : List AE) (h : AH) (ls : LcT) (st : List AV) (a b x : Int) (ys : List Int), (run1 CR Q K ((p, 25, x, ys) :: cs) ls (vI b :: vL a :: st) h) = (run1 CR Q K cs ls (vL (shr64 a b) :: st) h)) ∧ (∀ (p : Nat) (cs : List AE) (h : AH) (ls : LcT) (st : List AV) (a b x : Int) (ys : List Int), (run1 CR Q K ((p, 26, x, ys) :: cs) ls (vI b :: vL a :: st) h) = (run1 CR Q K cs ls (vL (ushr64 a b) :: st) h)) ∧ (∀ (p : Nat) (cs : List AE) (h : AH) (ls : LcT) (st : List AV) (a x : Int) (ys : List Int), (run1 CR Q K ((p, 28, x, ys) :: cs) ls (vI a :: st) h) = (run1 CR Q K cs ls (vL a :: st) h)) ∧ (∀ (p : Nat) (cs : List AE) (h : AH) (ls : LcT) (st : List AV) (a x : Int) (ys : List Int), (run1 CR Q K ((p, 29, x, ys) :: cs) ls (vL a :: st) h) = (run1 CR Q K cs ls (vI (l2i32 a) :: st) h)) ∧ (∀ (p : Nat) (cs : List AE) (h : AH) (ls : LcT) (st : List AV) (a x : Int) (ys : List Int), (run1 CR Q K ((p, 30, x, ys) :: cs) ls (vI a :: st) h) = (run1 CR Q K cs ls (vI (w8 a) :: st) h)) ∧ (∀ (p : Nat) (cs : List AE) (h : AH) (ls : LcT) (st : List AV) (a x : Int) (ys : List Int), (run1 CR Q K ((p, 31, x, ys) :: cs) ls (vI a :: st) h) = (run1 CR Q K cs ls (vI (w16 a) :: st) h)) ∧ (∀ (p : Nat) (cs : List AE) (h : AH) (ls : LcT) (st : List AV) (a x : Int) (ys : List Int), (run1 CR Q K ((p, 32, x, ys) :: cs) ls (vI a :: st) h) = (run1 CR Q K cs ls (vI a :: vI a :: st) h)) ∧ (∀ (p : Nat) (cs : List AE) (h : AH) (ls : LcT) (st : List AV) (a : Nat) (x : Int) (ys : List Int), (run1 CR Q K ((p, 32, x, ys) :: cs) ls (vR a :: st) h) = (run1 CR Q K cs ls (vR a :: vR a :: st) h)) ∧ (∀ (p : Nat) (cs : List AE) (h : AH) (ls : LcT) (st : List AV) (a x : Int) (b : Nat) (ys : List Int), (run1 CR Q K ((p, 33, x, ys) :: cs) ls (vI a :: vR b :: st) h) = (run1 CR Q K cs ls (vI a :: vR b :: vI a :: vR b :: st) h)) ∧ (∀ (p : Nat) (cs : List AE) (h : AH) (ls : LcT) (st : List AV) (x : Int) (ys : List Int), (run1 CR Q K ((p, 36, x, ys) :: cs) ls st h) = (K x.toNat ls st h)) ∧ (∀ (p : Nat) (cs : List AE) (h : AH) (ls : LcT) (st : List AV) (x : Int) (ys : List Int), (run1 CR Q K ((p, 99, x, ys) :: cs) ls st h) = (K x.toNat ls st h)) ∧ (∀ (p : Nat) (cs : List AE) (h : AH) (ls : LcT) (st : List AV) (a x lo : Int) (ys : List Int), (run1 CR Q K ((p, 37, x, (lo :: ys)) :: cs) ls (vI a :: st) h) = ((((a < lo ∨ lo + (ys.length : Nat) ≤ a) → K x.toNat ls st h) ∧ swT (fun t => K t.toNat ls st h) a lo ys))) ∧ (∀ (p : Nat) (cs : List AE) (h : AH) (ls : LcT) (st : List AV) (a x : Int) (ys : List Int), (run1 CR Q K ((p, 38, x, ys) :: cs) ls (vI a :: st) h) = (lkT (fun t => K t.toNat ls st h) a x ys)) ∧ (∀ (p : Nat) (cs : List AE) (h : AH) (ls : LcT) (st : List AV) (k : Nat) (x y : Int), (run1 CR Q K ((p, 39, x, [y]) :: cs) ls (vR k :: st) h) = ((((sh k).1 = 0 ∧ (sh k).2.1 = x.toNat) ∧ run1 CR Q K cs ls (fv h k y.toNat ((sh k).2.2.getD y.toNat 0) :: st) h))) ∧ (∀ (p : Nat) (cs : List AE) (h : AH) (ls : LcT) (st : List AV) (k : Nat) (z x y : Int), (run1 CR Q K ((p, 40, x, [y]) :: cs) ls (vI z :: vR k :: st) h) = ((((sh k).1 = 0 ∧ (sh k).2.1 = x.toNat) ∧ pfI ((sh k).2.2.getD y.toNat 9) z (run1 CR Q K cs ls st (hu h k y.toNat z))))) ∧ (∀ (p : Nat) (cs : List AE) (h : AH) (ls : LcT) (st : List AV) (k : Nat) (z x y : Int), (run1 CR Q K ((p, 40, x, [y]) :: cs) ls (vL z :: vR k :: st) h) = ((((sh k).1 = 0 ∧ (sh k).2.1 = x.toNat) ∧ ((sh k).2.2.getD y.toNat 9 = 1 ∧ run1 CR Q K cs ls st (hu h k y.toNat z))))) ∧ (∀ (p : Nat) (cs : List AE) (h : AH) (ls : LcT) (st : List AV) (k : Nat) (j x : Int) (ys : List Int), (run1 CR Q K ((p, 41, x, ys) :: cs) ls (vI j :: vR k :: st) h) = ((((sh k).1 = 1 ∧ (0 ≤ j ∧ j < (sh k).2.1) ∧ run1 CR Q K cs ls (vI (h k j.toNat) :: st) h) ∨ ((sh k).1 = 7 ∧ (0 ≤ j ∧ j < 6) ∧ k = 2000 ∧ run1 CR Q K cs ls (vI (aboveF j.toNat) :: st) h)))) ∧ (∀ (p : Nat) (cs : List AE) (h : AH) (ls : LcT) (st : List AV) (k : Nat) (j x : Int) (ys : List Int), (run1 CR Q K ((p, 43, x, ys) :: cs) ls (vI j :: vR k :: st) h) = (((sh k).1 = 2 ∧ (0 ≤ j ∧ j < (sh k).2.1) ∧ run1 CR Q K cs ls (vI (h k j.toNat) :: st) h))) ∧ (∀ (p : Nat) (cs : List AE) (h : AH) (ls : LcT) (st : List AV) (k : Nat) (j x : Int) (ys : List Int), (run1 CR Q K ((p, 45, x, ys) :: cs) ls (vI j :: vR k :: st) h) = (((sh k).1 = 3 ∧ (0 ≤ j ∧ j < (sh k).2.1) ∧ run1 CR Q K cs ls (vL (h k j.toNat) :: st) h))) ∧ (∀ (p : Nat) (cs : List AE) (h : AH) (ls : LcT) (st : List AV) (k : Nat) (z j x : Int) (ys : List Int), (run1 CR Q K ((p, 42, x, ys) :: cs) ls (vI z :: vI j :: vR k :: st) h) = (((sh k).1 = 1 ∧ (0 ≤ j ∧ j < (sh k).2.1) ∧ run1 CR Q K cs ls st (hu h k j.toNat z)))) ∧ (∀ (p : Nat) (cs : List AE) (h : AH) (ls : LcT) (st : List AV) (k : Nat) (z j x : Int) (ys : List Int), (run1 CR Q K ((p, 44, x, ys) :: cs) ls (vI z :: vI j :: vR k :: st) h) = (((sh k).1 = 2 ∧ (0 ≤ j ∧ j < (sh k).2.1) ∧ run1 CR Q K cs ls st (hu h k j.toNat (w8 z))))) ∧ (∀ (p : Nat) (cs : List AE) (h : AH) (ls : LcT) (st : List AV) (k : Nat) (z j x : Int) (ys : List Int), (run1 CR Q K ((p, 46, x, ys) :: cs) ls (vL z :: vI j :: vR k :: st) h) = (((sh k).1 = 3 ∧ (0 ≤ j ∧ j < (sh k).2.1) ∧ run1 CR Q K cs ls st (hu h k j.toNat z)))) ∧ (∀ (p : Nat) (cs : List AE) (h : AH) (ls : LcT) (st : List AV) (k : Nat) (j x : Int) (ys : List Int), (run1 CR Q K ((p, 47, x, ys) :: cs) ls (vI j :: vR k :: st) h) = (((4 ≤ (sh k).1 ∧ (sh k).1 ≤ 6) ∧ (0 ≤ j ∧ j < (sh k).2.1) ∧ run1 CR Q K cs ls (vR ((sh k).2.2.getD 0 0 + (sh k).2.2.getD 1 0 * j.toNat) :: st) h))) ∧ (∀ (p : Nat) (cs : List AE) (h : AH) (ls : LcT) (st : List AV) (x : Int), (run1 CR Q K ((p, 48, x, [0]) :: cs) ls (st) h) = ((st.length ≤ 4 ∧ ∃ P, CR x.toNat [] h P ∧ ∀ r h', P r h' → run1 CR Q K cs ls (r.toList ++ st) h'))) ∧ (∀ (p : Nat) (cs : List AE) (h : AH) (ls : LcT) (st : List AV) (k : Nat) (x y : Int), (run1 CR Q K ((p, 49, x, [0, y]) :: cs) ls (vR k :: st) h) = ((st.length ≤ 4 ∧ ((sh k).1 = 0 ∧ (sh k).2.1 = y.toNat) ∧ ∃ P, CR x.toNat (vR k :: []) h P ∧ ∀ r h', P r h' → run1 CR Q K cs ls (r.toList ++ st) h'))) ∧ (∀ (p : Nat) (cs : List AE) (h : AH) (ls : LcT) (st : List AV) (k : Nat) (x : Int), (run1 CR Q K ((p, 50, x, [0]) :: cs) ls (vR k :: st) h) = ((st.length ≤ 4 ∧ (1000 ≤ k ∧ k < 1012) ∧ ∃ P, CR x.toNat (vR k :: []) h P ∧ ∀ r h', P r h' → run1 CR Q K cs ls (r.toList ++ st) h'))) ∧ (∀ (p : Nat) (cs : List AE) (h : AH) (ls : LcT) (st : List AV) (b0 : AV) (x : Int), (run1 CR Q K ((p, 48, x, [1]) :: cs) ls (b0 :: st) h) = ((st.length ≤ 4 ∧ ∃ P, CR x.toNat [b0] h P ∧ ∀ r h', P r h' → run1 CR Q K cs ls (r.toList ++ st) h'))) ∧ (∀ (p : Nat) (cs : List AE) (h : AH) (ls : LcT) (st : List AV) (b0 : AV) (k : Nat) (x y : Int), (run1 CR Q K ((p, 49, x, [1, y]) :: cs) ls (b0 :: vR k :: st) h) = ((st.length ≤ 4 ∧ ((sh k).1 = 0 ∧ (sh k).2.1 = y.toNat) ∧ ∃ P, CR x.toNat (vR k :: [b0]) h P ∧ ∀ r h', P r h' → run1 CR Q K cs ls (r.toList ++ st) h'))) ∧ (∀ (p : Nat) (cs : List AE) (h : AH) (ls : LcT) (st : List AV) (b0 : AV) (k : Nat) (x : Int), (run1 CR Q K ((p, 50, x, [1]) :: cs) ls (b0 :: vR k :: st) h) = ((st.length ≤ 4 ∧ (1000 ≤ k ∧ k < 1012) ∧ ∃ P, CR x.toNat (vR k :: [b0]) h P ∧ ∀ r h', P r h' → run1 CR Q K cs ls (r.toList ++ st) h'))) ∧ (∀ (p : Nat) (cs : List AE) (h : AH) (ls : LcT) (st : List AV) (b0 b1 : AV) (x : Int), (run1 CR Q K ((p, 48, x, [2]) :: cs) ls (b1 :: b0 :: st) h) = ((st.length ≤ 4 ∧ ∃ P, CR x.toNat [b0, b1] h P ∧ ∀ r h', P r h' → run1 CR Q K cs ls (r.toList ++ st) h'))) ∧ (∀ (p : Nat) (cs : List AE) (h : AH) (ls : LcT) (st : List AV) (b0 b1 : AV) (k : Nat) (x y : Int), (run1 CR Q K ((p, 49, x, [2, y]) :: cs) ls (b1 :: b0 :: vR k :: st) h) = ((st.length ≤ 4 ∧ ((sh k).1 = 0 ∧ (sh k).2.1 = y.toNat) ∧ ∃ P, CR x.toNat (vR k :: [b0, b1]) h P ∧ ∀ r h', P r h' → run1 CR Q K cs ls (r.toList ++ st) h'))) ∧ (∀ (p : Nat) (cs : List AE) (h : AH) (ls : LcT) (st : List AV) (b0 b1 b2 : AV) (x : Int), (run1 CR Q K ((p, 48, x, [3]) :: cs) ls (b2 :: b1 :: b0 :: st) h) = ((st.length ≤ 4 ∧ ∃ P, CR x.toNat [b0, b1, b2] h P ∧ ∀ r h', P r h' → run1 CR Q K cs ls (r.toList ++ st) h'))) ∧ (∀ (p : Nat) (cs : List AE) (h : AH) (ls : LcT) (st : List AV) (b0 b1 b2 : AV) (k : Nat) (x y : Int), (run1 CR Q K ((p, 49, x, [3, y]) :: cs) ls (b2 :: b1 :: b0 :: vR k :: st) h) = ((st.length ≤ 4 ∧ ((sh k).1 = 0 ∧ (sh k).2.1 = y.toNat) ∧ ∃ P, CR x.toNat (vR k :: [b0, b1, b2]) h P ∧ ∀ r h', P r h' → run1 CR Q K cs ls (r.toList ++ st) h'))) ∧ (∀ (p : Nat) (cs : List AE) (h : AH) (ls : LcT) (st : List AV) (b0 b1 b2 b3 : AV) (x : Int), (run1 CR Q K ((p, 48, x, [4]) :: cs) ls (b3 :: b2 :: b1 :: b0 :: st) h) = ((st.length ≤ 4 ∧ ∃ P, CR x.toNat [b0, b1, b2, b3] h P ∧ ∀ r h', P r h' → run1 CR Q K cs ls (r.toList ++ st) h'))) ∧ (∀ (p : Nat) (cs : List AE) (h : AH) (ls : LcT) (st : List AV) (b0 b1 b2 b3 : AV) (k : Nat) (x y : Int), (run1 CR Q K ((p, 49, x, [4, y]) :: cs) ls (b3 :: b2 :: b1 :: b0 :: vR k :: st) h) = ((st.length ≤ 4 ∧ ((sh k).1 = 0 ∧ (sh k).2.1 = y.toNat) ∧ ∃ P, CR x.toNat (vR k :: [b0, b1, b2, b3]) h P ∧ ∀ r h', P r h' → run1 CR Q K cs ls (r.toList ++ st) h'))) ∧ (∀ (p : Nat) (cs : List AE) (h : AH) (ls : LcT) (st : List AV) (b0 b1 b2 b3 b4 : AV) (x : Int), (run1 CR Q K ((p, 48, x, [5]) :: cs) ls (b4 :: b3 :: b2 :: b1 :: b0 :: st) h) = ((st.length ≤ 4 ∧ ∃ P, CR x.toNat [b0, b1, b2, b3, b4] h P ∧ ∀ r h', P r h' → run1 CR Q K cs ls (r.toList ++ st) h'))) ∧ (∀ (p : Nat) (cs : List AE) (h : AH) (ls : LcT) (st : List AV) (b0 b1 b2 b3 b4 : AV) (k : Nat) (x y : Int), (run1 CR Q K ((p, 49, x, [5, y]) :: cs) ls (b4 :: b3 :: b2 :: b1 :: b0 :: vR k :: st) h) = ((st.length ≤ 4 ∧ ((sh k).1 = 0 ∧ (sh k).2.1 = y.toNat) ∧ ∃ P, CR x.toNat (vR k :: [b0, b1, b2, b3, b4]) h P ∧ ∀ r h', P r h' → run1 CR Q K cs ls (r.toList ++ st) h'))) ∧ (∀ (p : Nat) (cs : List AE) (h : AH) (ls : LcT) (st : List AV) (k0 k1 : Nat) (sp dp n x : Int) (ys : List Int), (run1 CR Q K ((p, 51, x, ys) :: cs) ls (vI n :: vI dp :: vR k1 :: vI sp :: vR k0 :: st) h) = ((((sh k0).1 = 1 ∧ (sh k1).1 = 1 ∧ st.length ≤ 4) ∧ (0 ≤ sp ∧ 0 ≤ dp ∧ 0 ≤ n ∧ sp + n ≤ (sh k0).2.1 ∧ dp + n ≤ (sh k1).2.1) ∧ run1 CR Q K cs ls st (hcpy h k0 k1 sp.toNat dp.toNat n.toNat)))) ∧ (∀ (p : Nat) (cs : List AE) (h : AH) (ls : LcT) (st : List AV) (a b x : Int) (ys : List Int), (run1 CR Q K ((p, 55, x, ys) :: cs) ls (vI b :: vI a :: st) h) = ((st.length ≤ 8 ∧ run1 CR Q K cs ls (vI (max a b) :: st) h))) ∧ (∀ (p : Nat) (cs : List AE) (h : AH) (ls : LcT) (st : List AV) (a b x : Int) (ys : List Int), (run1 CR Q K ((p, 56, x, ys) :: cs) ls (vI b :: vI a :: st) h) = ((st.length ≤ 8 ∧ run1 CR Q K cs ls (vI (min a b) :: st) h))) ∧ (∀ (p : Nat) (cs : List AE) (h : AH) (ls : LcT) (z x : Int) (ys : List Int), (run1 CR Q K ((p, 52, x, ys) :: cs) ls [vI z] h) = (Q (some (vI z)) h)) ∧ (∀ (p : Nat) (cs : List AE) (h : AH) (ls : LcT) (z x : Int) (ys : List Int), (run1 CR Q K ((p, 53, x, ys) :: cs) ls [vI z] h) = (((z = 0 ∨ z = 1) ∧ Q (some (vI z)) h))) ∧ (∀ (p : Nat) (cs : List AE) (h : AH) (ls : LcT) (x : Int) (ys : List Int), (run1 CR Q K ((p, 54, x, ys) :: cs) ls [] h) = (Q none h)) ∧ (∀ (p : Nat) (cs : List AE) (h : AH) (ls : LcT) (st : List AV) (a x : Int) (ys : List Int), (run1 CR Q K ((p, 60, x, ys) :: cs) ls (vI a :: st) h) = (((a = 0 → K x.toNat ls st h) ∧ (¬ a = 0 → run1 CR Q K cs ls st h)))) ∧ (∀ (p : Nat) (cs : List AE) (h : AH) (ls : LcT) (st : List AV) (a x : Int) (ys : List Int), (run1 CR Q K ((p, 61, x, ys) :: cs) ls (vI a :: st) h) = (((¬ a = 0 → K x.toNat ls st h) ∧ (a = 0 → run1 CR Q K cs ls st h)))) ∧ (∀ (p : Nat) (cs : List AE) (h : AH) (ls : LcT) (st : List AV) (a x : Int) (ys : List Int), (run1 CR Q K ((p, 62, x, ys) :: cs) ls (vI a :: st) h) = (((a < 0 → K x.toNat ls st h) ∧ (¬ a < 0 → run1 CR Q K cs ls st h)))) ∧ (∀ (p : Nat) (cs : List AE) (h : AH) (ls : LcT) (st : List AV) (a x : Int) (ys : List Int), (run1 CR Q K ((p, 63, x, ys) :: cs) ls (vI a :: st) h) = (((¬ a < 0 → K x.toNat ls st h) ∧ (a < 0 → run1 CR Q K cs ls st h)))) ∧ (∀ (p : Nat) (cs : List AE) (h : AH) (ls : LcT) (st : List AV) (a x : Int) (ys : List Int), (run1 CR Q K ((p, 64, x, ys) :: cs) ls (vI a :: st) h) = (((0 < a → K x.toNat ls st h) ∧ (¬ 0 < a → run1 CR Q K cs ls st h)))) ∧ (∀ (p : Nat) (cs : List AE) (h : AH) (ls : LcT) (st : List AV) (a x : Int) (ys : List Int), (run1 CR Q K ((p, 65, x, ys) :: cs) ls (vI a :: st) h) = (((¬ 0 < a → K x.toNat ls st h) ∧ (0 < a → run1 CR Q K cs ls st h)))) ∧ (∀ (p : Nat) (cs : List AE) (h : AH) (ls : LcT) (st : List AV) (a b x : Int) (ys : List Int), (run1 CR Q K ((p, 70, x, ys) :: cs) ls (vI b :: vI a :: st) h) = (((a = b → K x.toNat ls st h) ∧ (¬ a = b → run1 CR Q K cs ls st h)))) ∧ (∀ (p : Nat) (cs : List AE) (h : AH) (ls : LcT) (st : List AV) (a b x : Int) (ys : List Int), (run1 CR Q K ((p, 71, x, ys) :: cs) ls (vI b :: vI a :: st) h) = (((¬ a = b → K x.toNat ls st h) ∧ (a = b → run1 CR Q K cs ls st h)))) ∧ (∀ (p : Nat) (cs : List AE) (h : AH) (ls : LcT) (st : List AV) (a b x : Int) (ys : List Int), (run1 CR Q K ((p, 72, x, ys) :: cs) ls (vI b :: vI a :: st) h) = (((a < b → K x.toNat ls st h) ∧ (¬ a < b → run1 CR Q K cs ls st h)))) ∧ (∀ (p : Nat) (cs : List AE) (h : AH) (ls : LcT) (st : List AV) (a b x : Int) (ys : List Int), (run1 CR Q K ((p, 73, x, ys) :: cs) ls (vI b :: vI a :: st) h) = (((¬ a < b → K x.toNat ls st h) ∧ (a < b → run1 CR Q K cs ls st h)))) ∧ (∀ (p : Nat) (cs : List AE) (h : AH) (ls : LcT) (st : List AV) (a b x : Int) (ys : List Int), (run1 CR Q K ((p, 74, x, ys) :: cs) ls (vI b :: vI a :: st) h) = (((b < a → K x.toNat ls st h) ∧ (¬ b < a → run1 CR Q K cs ls st h)))) ∧ (∀ (p : Nat) (cs : List AE) (h : AH) (ls : LcT) (st : List AV) (a b x : Int) (ys : List Int), (run1 CR Q K ((p, 75, x, ys) :: cs) ls (vI b :: vI a :: st) h) = (((¬ b < a → K x.toNat ls st h) ∧ (b < a → run1 CR Q K cs ls st h)))) := ⟨rl_0, rl_1, rl_2, rl_3, rl_4, rl_5, rl_6, rl_7, rl_8, rl_9, rl_10, rl_11, rl_12, rl_13, rl_14, rl_15, rl_16, rl_17, rl_18, rl_19, rl_20, rl_21, rl_22, rl_23, rl_24, rl_25, rl_26, rl_27, rl_28, rl_29, rl_30, rl_31, rl_32, rl_33, rl_34, rl_35, rl_36, rl_37, rl_38, rl_39, rl_40, rl_41, rl_42, rl_43, rl_44, rl_45, rl_46, rl_47, rl_48, rl_49, rl_50, rl_51, rl_52, rl_53, rl_54, rl_55, rl_56, rl_57, rl_58, rl_59, rl_60, rl_61, rl_62, rl_63, rl_64, rl_65, rl_66, rl_67, rl_68, rl_69, rl_70, rl_71, rl_72, rl_73, rl_74, rl_75, rl_76, rl_77, rl_78, rl_79, rl_80, rl_81, rl_82, rl_83, rl_84, rl_85, rl_86, rl_87, rl_88, rl_89, rl_90, rl_91, rl_92, rl_93, rl_94, rl_95, rl_96, rl_97, rl_98, rl_99, rl_100, rl_101, rl_102, rl_103, rl_104, rl_105, rl_106, rl_107, rl_108, rl_109, rl_110, rl_111, rl_112, rl_113, rl_114, rl_115, rl_116, rl_117, rl_118, rl_119, rl_120, rl_121, rl_122, rl_123, rl_124, rl_125, rl_126, rl_127, rl_128, rl_129, rl_130, rl_131, rl_132, rl_133, rl_134, rl_135, rl_136, rl_137, rl_138, rl_139, rl_140, rl_141, rl_142, rl_143, rl_144, rl_145, rl_146, rl_147, rl_148, rl_149, rl_150, rl_151, rl_152, rl_153, rl_154, rl_155, rl_156, rl_157, rl_158, rl_159, rl_160, rl_161, rl_162, rl_163, rl_164, rl_165, rl_166, rl_167, rl_168, rl_169, rl_170⟩
