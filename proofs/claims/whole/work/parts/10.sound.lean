section SOUND
variable {G : GD} {l : Launch} {i d pc : Nat} {ls : LcT} {st : List AV} {h : AH} {Q : Option AV → AH → Prop}
def CRd (G : GD) (l : Launch) (d : Nat) : Nat → List AV → AH → (Option AV → AH → Prop) → Prop := fun m as h P => ∃ d', d' < d ∧ CallR G l d' m as h P
theorem onI_ex {st : List AV} {F : Int → List AV → Prop} (h : onI st F) : ∃ a r, st = vI a :: r ∧ F a r := by
  match st, h with
  | .inl a :: r, h => exact ⟨a, r, rfl, h⟩
theorem onL_ex {st : List AV} {F : Int → List AV → Prop} (h : onL st F) : ∃ a r, st = vL a :: r ∧ F a r := by
  match st, h with
  | .inr (.inl a) :: r, h => exact ⟨a, r, rfl, h⟩
theorem onR_ex {st : List AV} {F : Nat → List AV → Prop} (h : onR st F) : ∃ a r, st = vR a :: r ∧ F a r := by
  match st, h with
  | .inr (.inr a) :: r, h => exact ⟨a, r, rfl, h⟩
theorem cstAt_spec {own j : Nat} {v : Int} (h : cstAt own j = some v) : (own, j, v) ∈ cstT := by
  unfold cstAt at h
  cases e : cstT.find? (fun e => e.1 == own && e.2.1 == j) with
  | none => rw [e] at h; cases h
  | some x =>
    rw [e] at h
    have hm := List.mem_of_find?_eq_some e
    have hp := List.find?_some e
    obtain ⟨x1, x2, x3⟩ := x
    simp only [Option.map_some, Option.some.injEq] at h
    simp only [Bool.and_eq_true, beq_iff_eq] at hp
    obtain ⟨h3, h4⟩ := hp
    rw [← h, ← h3, ← h4]; exact hm
theorem cslAt_spec {own j : Nat} {v : Int} (h : cslAt own j = some v) : (own, j, v) ∈ cslT := by
  unfold cslAt at h
  cases e : cslT.find? (fun e => e.1 == own && e.2.1 == j) with
  | none => rw [e] at h; cases h
  | some x =>
    rw [e] at h
    have hm := List.mem_of_find?_eq_some e
    have hp := List.find?_some e
    obtain ⟨x1, x2, x3⟩ := x
    simp only [Option.map_some, Option.some.injEq] at h
    simp only [Bool.and_eq_true, beq_iff_eq] at hp
    obtain ⟨h3, h4⟩ := hp
    rw [← h, ← h3, ← h4]; exact hm
theorem str_at : ∀ x ∈ strI, strI.idxOf x < 12 ∧ strI.getD (strI.idxOf x) 0 = x := by decide +kernel
theorem lgi {o : Option AV} {F : Int → Prop} (h : match o with | some (.inl z) => F z | _ => False) : ∃ z, o = some (vI z) ∧ F z := by
  match o, h with
  | some (.inl z), h => exact ⟨z, rfl, h⟩
theorem lgl {o : Option AV} {F : Int → Prop} (h : match o with | some (.inr (.inl z)) => F z | _ => False) : ∃ z, o = some (vL z) ∧ F z := by
  match o, h with
  | some (.inr (.inl z)), h => exact ⟨z, rfl, h⟩
theorem lgr {o : Option AV} {F : Nat → Prop} (h : match o with | some (.inr (.inr z)) => F z | _ => False) : ∃ z, o = some (vR z) ∧ F z := by
  match o, h with
  | some (.inr (.inr z)), h => exact ⟨z, rfl, h⟩
/-- the table of kinds says of a method that is called on an object that it isn't static -/
theorem mthT_kind : ∀ e ∈ mthT, ((mrec e.2.2.1).1 = 11 → stF.getD e.2.2.1 false = false) := by decide +kernel
set_option maxHeartbeats 4000000 in
theorem stp_sound {K : Nat → LcT → List AV → AH → Prop} {N : LcT → List AV → AH → Prop} {raw : Instr} {n op : Nat} {x : Int} {ys : List Int} (hd : decode (mrec i).2.2.1 pc = .ok (raw, n)) (hn : lenOK raw n = true) (he : enc (mrec i).1 (mrec i).2.2.2.2.1 pc raw = some (op, x, ys))
    (hsv : ∀ m, (∃ x, raw = .invokestatic x ∧ mthAt (mrec i).1 x = some m) → stF.getD m false = true) (hvv : ∀ m, (∃ x, raw = .invokevirtual x ∧ mthAt (mrec i).1 x = some m) → stF.getD m false = false)
    (hK : ∀ t ls st h, K t ls st h → Wp G l i d t ls st h Q) (hN : ∀ ls st h, N ls st h → Wp G l i d (pc + n) ls st h Q) (hs : stp (CRd G l d) Q K op x ys ls st h N) : Wp G l i d pc ls st h Q := by
  cases raw with
  | iconst z =>
    cases beq_iff_eq.mp hn
    simp only [enc] at he
    split at he
    · next hz =>
      cases he
      exact wp_iconst hd (by unfold R32; omega) (hN _ _ _ hs)
    · cases he
  | bipush z =>
    cases beq_iff_eq.mp hn
    simp only [enc] at he
    split at he
    · next hz =>
      cases he
      exact wp_bipush hd hz (hN _ _ _ hs)
    · cases he
  | sipush z =>
    cases beq_iff_eq.mp hn
    simp only [enc] at he
    split at he
    · next hz =>
      cases he
      exact wp_sipush hd hz (hN _ _ _ hs)
    · cases he
  | ldc z =>
    cases beq_iff_eq.mp hn
    simp only [enc] at he
    split at he
    · next hz =>
      cases he
      obtain ⟨h1, h2⟩ := str_at z hz.2
      refine wp_ldcS hd hz.1 h1 h2 (hN _ _ _ ?_)
      have e9 : ((1000 : Int) + (strI.idxOf z : Int)).toNat = 1000 + strI.idxOf z := by omega
      have hs' : N ls (vR ((1000 : Int) + (strI.idxOf z : Int)).toNat :: st) h := hs
      rw [e9] at hs'
      exact hs'
    · cases hc : cstAt (mrec i).1 z with
      | none => rw [hc] at he; cases he
      | some v =>
        rw [hc] at he
        cases he
        exact wp_ldc hd (cstAt_spec hc) (hN _ _ _ hs)
  | ldc_w z =>
    cases beq_iff_eq.mp hn
    simp only [enc] at he
    cases hc : cstAt (mrec i).1 z with
    | none => rw [hc] at he; cases he
    | some v =>
      rw [hc] at he
      cases he
      exact wp_ldcw hd (cstAt_spec hc) (hN _ _ _ hs)
  | ldc2_w z =>
    cases beq_iff_eq.mp hn
    simp only [enc] at he
    cases hc : cslAt (mrec i).1 z with
    | none => rw [hc] at he; cases he
    | some v =>
      rw [hc] at he
      cases he
      exact wp_ldc2 hd (cslAt_spec hc) (hN _ _ _ hs)
  | lconst z => cases beq_iff_eq.mp hn; cases he; exact wp_lconst hd (hN _ _ _ hs)
  | iload j => cases beq_iff_eq.mp hn; cases he; obtain ⟨z, hz, hs⟩ := lgi hs; exact wp_iload hd hz (hN _ _ _ hs)
  | iload_n j => cases beq_iff_eq.mp hn; cases he; obtain ⟨z, hz, hs⟩ := lgi hs; exact wp_iload_n hd hz (hN _ _ _ hs)
  | lload j => cases beq_iff_eq.mp hn; cases he; obtain ⟨z, hz, hs⟩ := lgl hs; exact wp_lload hd hz (hN _ _ _ hs)
  | lload_n j => cases beq_iff_eq.mp hn; cases he; obtain ⟨z, hz, hs⟩ := lgl hs; exact wp_lload_n hd hz (hN _ _ _ hs)
  | aload j => cases beq_iff_eq.mp hn; cases he; obtain ⟨z, hz, hs⟩ := lgr hs; exact wp_aload hd hz (hN _ _ _ hs)
  | aload_n j => cases beq_iff_eq.mp hn; cases he; obtain ⟨z, hz, hs⟩ := lgr hs; exact wp_aload_n hd hz (hN _ _ _ hs)
  | istore j => cases beq_iff_eq.mp hn; cases he; obtain ⟨z, r, rfl, ho, hs⟩ := onI_ex hs; exact wp_istore hd ho (hN _ _ _ hs)
  | istore_n j => cases beq_iff_eq.mp hn; cases he; obtain ⟨z, r, rfl, ho, hs⟩ := onI_ex hs; exact wp_istore_n hd ho (hN _ _ _ hs)
  | lstore j => cases beq_iff_eq.mp hn; cases he; obtain ⟨z, r, rfl, ho, hs⟩ := onL_ex hs; exact wp_lstore hd ho (hN _ _ _ hs)
  | lstore_n j => cases beq_iff_eq.mp hn; cases he; obtain ⟨z, r, rfl, ho, hs⟩ := onL_ex hs; exact wp_lstore_n hd ho (hN _ _ _ hs)
  | astore j => cases beq_iff_eq.mp hn; cases he; obtain ⟨z, r, rfl, ho, hs⟩ := onR_ex hs; exact wp_astore hd ho (hN _ _ _ hs)
  | astore_n j => cases beq_iff_eq.mp hn; cases he; obtain ⟨z, r, rfl, ho, hs⟩ := onR_ex hs; exact wp_astore_n hd ho (hN _ _ _ hs)
  | iinc j z => cases beq_iff_eq.mp hn; cases he; obtain ⟨z, hz, hs⟩ := lgi hs; exact wp_iinc hd hz (hN _ _ _ hs)
  | iadd => cases beq_iff_eq.mp hn; cases he; obtain ⟨b, r, rfl, hs⟩ := onI_ex hs; obtain ⟨a, r, rfl, hs⟩ := onI_ex hs; exact wp_iadd hd (hN _ _ _ hs)
  | isub => cases beq_iff_eq.mp hn; cases he; obtain ⟨b, r, rfl, hs⟩ := onI_ex hs; obtain ⟨a, r, rfl, hs⟩ := onI_ex hs; exact wp_isub hd (hN _ _ _ hs)
  | imul => cases beq_iff_eq.mp hn; cases he; obtain ⟨b, r, rfl, hs⟩ := onI_ex hs; obtain ⟨a, r, rfl, hs⟩ := onI_ex hs; exact wp_imul hd (hN _ _ _ hs)
  | idiv => cases beq_iff_eq.mp hn; cases he; obtain ⟨b, r, rfl, hs⟩ := onI_ex hs; obtain ⟨a, r, rfl, hz, hs⟩ := onI_ex hs; exact wp_idiv hd hz (hN _ _ _ hs)
  | irem => cases beq_iff_eq.mp hn; cases he; obtain ⟨b, r, rfl, hs⟩ := onI_ex hs; obtain ⟨a, r, rfl, hz, hs⟩ := onI_ex hs; exact wp_irem hd hz (hN _ _ _ hs)
  | iand => cases beq_iff_eq.mp hn; cases he; obtain ⟨b, r, rfl, hs⟩ := onI_ex hs; obtain ⟨a, r, rfl, hs⟩ := onI_ex hs; exact wp_iand hd (hN _ _ _ hs)
  | ior => cases beq_iff_eq.mp hn; cases he; obtain ⟨b, r, rfl, hs⟩ := onI_ex hs; obtain ⟨a, r, rfl, hs⟩ := onI_ex hs; exact wp_ior hd (hN _ _ _ hs)
  | ixor => cases beq_iff_eq.mp hn; cases he; obtain ⟨b, r, rfl, hs⟩ := onI_ex hs; obtain ⟨a, r, rfl, hs⟩ := onI_ex hs; exact wp_ixor hd (hN _ _ _ hs)
  | ishl => cases beq_iff_eq.mp hn; cases he; obtain ⟨b, r, rfl, hs⟩ := onI_ex hs; obtain ⟨a, r, rfl, hs⟩ := onI_ex hs; exact wp_ishl hd (hN _ _ _ hs)
  | ishr => cases beq_iff_eq.mp hn; cases he; obtain ⟨b, r, rfl, hs⟩ := onI_ex hs; obtain ⟨a, r, rfl, hs⟩ := onI_ex hs; exact wp_ishr hd (hN _ _ _ hs)
  | iushr => cases beq_iff_eq.mp hn; cases he; obtain ⟨b, r, rfl, hs⟩ := onI_ex hs; obtain ⟨a, r, rfl, hs⟩ := onI_ex hs; exact wp_iushr hd (hN _ _ _ hs)
  | ladd => cases beq_iff_eq.mp hn; cases he; obtain ⟨b, r, rfl, hs⟩ := onL_ex hs; obtain ⟨a, r, rfl, hs⟩ := onL_ex hs; exact wp_ladd hd (hN _ _ _ hs)
  | lsub => cases beq_iff_eq.mp hn; cases he; obtain ⟨b, r, rfl, hs⟩ := onL_ex hs; obtain ⟨a, r, rfl, hs⟩ := onL_ex hs; exact wp_lsub hd (hN _ _ _ hs)
  | lmul => cases beq_iff_eq.mp hn; cases he; obtain ⟨b, r, rfl, hs⟩ := onL_ex hs; obtain ⟨a, r, rfl, hs⟩ := onL_ex hs; exact wp_lmul hd (hN _ _ _ hs)
  | land => cases beq_iff_eq.mp hn; cases he; obtain ⟨b, r, rfl, hs⟩ := onL_ex hs; obtain ⟨a, r, rfl, hs⟩ := onL_ex hs; exact wp_land hd (hN _ _ _ hs)
  | lshr => cases beq_iff_eq.mp hn; cases he; obtain ⟨b, r, rfl, hs⟩ := onI_ex hs; obtain ⟨a, r, rfl, hs⟩ := onL_ex hs; exact wp_lshr hd (hN _ _ _ hs)
  | lushr => cases beq_iff_eq.mp hn; cases he; obtain ⟨b, r, rfl, hs⟩ := onI_ex hs; obtain ⟨a, r, rfl, hs⟩ := onL_ex hs; exact wp_lushr hd (hN _ _ _ hs)
  | lcmp => cases beq_iff_eq.mp hn; cases he; obtain ⟨b, r, rfl, hs⟩ := onL_ex hs; obtain ⟨a, r, rfl, hs⟩ := onL_ex hs; exact wp_lcmp hd (hN _ _ _ hs)
  | i2l => cases beq_iff_eq.mp hn; cases he; obtain ⟨a, r, rfl, hs⟩ := onI_ex hs; exact wp_i2l hd (hN _ _ _ hs)
  | l2i => cases beq_iff_eq.mp hn; cases he; obtain ⟨a, r, rfl, hs⟩ := onL_ex hs; exact wp_l2i hd (hN _ _ _ hs)
  | i2b => cases beq_iff_eq.mp hn; cases he; obtain ⟨a, r, rfl, hs⟩ := onI_ex hs; exact wp_i2b hd (hN _ _ _ hs)
  | i2s => cases beq_iff_eq.mp hn; cases he; obtain ⟨a, r, rfl, hs⟩ := onI_ex hs; exact wp_i2s hd (hN _ _ _ hs)
  | dup =>
    cases beq_iff_eq.mp hn
    cases he
    match st, hs with
    | .inl a :: r, hs => exact wp_dup_I hd (hN _ _ _ hs)
    | .inr (.inr a) :: r, hs => exact wp_dup_R hd (hN _ _ _ hs)
  | dup2 =>
    cases beq_iff_eq.mp hn
    cases he
    match st, hs with
    | .inl a :: .inr (.inr b) :: r, hs => exact wp_dup2 hd (hN _ _ _ hs)
  | goto o =>
    cases beq_iff_eq.mp hn
    simp only [enc] at he
    split at he
    · next hz => cases he; exact wp_goto hd (show (pc : Int) + o = ((((pc : Int) + o).toNat : Nat) : Int) by omega) (hK _ _ _ _ hs)
    · cases he
  | tableswitch dd lo hi os =>
    simp only [enc] at he
    split at he
    · next hz =>
      cases he
      obtain ⟨a, r, rfl, h1, h2⟩ := onI_ex hs
      refine wp_tsw hd hz.1 hz.2.1 hz.2.2 (fun hc => hK _ _ _ _ (h1 ?_)) ?_
      · simpa using hc
      · have mono : ∀ (ts : List Int) (lo : Int), swT (fun t => K t.toNat ls r h) a lo ts → swT (fun t => Wp G l i d t.toNat ls r h Q) a lo ts := by
          intro ts
          induction ts with
          | nil => intro lo _; trivial
          | cons t ts ih => intro lo hh; exact ⟨fun q => hK _ _ _ _ (hh.1 q), ih _ hh.2⟩
        exact mono _ _ h2
    · cases he
  | lookupswitch dd ps =>
    simp only [enc] at he
    split at he
    · next hz =>
      cases he
      obtain ⟨a, r, rfl, h2⟩ := onI_ex hs
      refine wp_lsw hd hz.1 hz.2.1 hz.2.2 ?_
      have mono : ∀ (ts : List (Int × Int)) , lkT (fun t => K t.toNat ls r h) a ((pc : Int) + dd) (ts.flatMap (fun o => [o.1, (pc : Int) + o.2])) → lkT (fun t => Wp G l i d t.toNat ls r h Q) a ((pc : Int) + dd) (ts.flatMap (fun o => [o.1, (pc : Int) + o.2])) := by
        intro ts
        induction ts with
        | nil => intro hh; exact hK _ _ _ _ hh
        | cons t ts ih =>
          intro hh
          have hh' : (a = t.1 → K ((pc : Int) + t.2).toNat ls r h) ∧ (¬ a = t.1 → lkT (fun t => K t.toNat ls r h) a ((pc : Int) + dd) (ts.flatMap (fun o => [o.1, (pc : Int) + o.2]))) := hh
          exact ⟨fun q => hK _ _ _ _ (hh'.1 q), fun q => ih (hh'.2 q)⟩
      exact mono _ h2
    · cases he
  | getfield z =>
    cases beq_iff_eq.mp hn
    simp only [enc] at he
    cases hf : fldAt (mrec i).1 z with
    | none => rw [hf] at he; cases he
    | some f =>
      rw [hf] at he
      cases he
      obtain ⟨k, r, rfl, hk, hs⟩ := onR_ex hs
      exact wp_getf hd hf hk (hN _ _ _ hs)
  | putfield z =>
    cases beq_iff_eq.mp hn
    simp only [enc] at he
    cases hf : fldAt (mrec i).1 z with
    | none => rw [hf] at he; cases he
    | some f =>
      rw [hf] at he
      cases he
      match st, hs with
      | v :: .inr (.inr k) :: r, hs =>
        obtain ⟨hk, hs⟩ := hs
        have e1 : ((([(f.2 : Int)] : List Int).headD 0).toNat) = f.2 := rfl
        rw [e1] at hs
        split at hs
        · next e9 => exact wp_putf hd hf hk (Or.inl ⟨e9, rfl⟩) (hN _ _ _ hs)
        · next e9 => exact wp_putf hd hf hk (Or.inr (Or.inl ⟨e9, rfl⟩)) (hN _ _ _ hs)
        · next e9 => exact wp_putf hd hf hk (Or.inr (Or.inr ⟨e9, rfl, hs.1⟩)) (hN _ _ _ hs.2)
        · exact hs.elim
  | getstatic z =>
    cases beq_iff_eq.mp hn
    simp only [enc] at he
    split at he
    · next hz =>
      cases he
      obtain ⟨h1, rfl⟩ := hz
      exact wp_gets hd h1 (hN _ _ _ hs)
    · cases he
  | iaload =>
    cases beq_iff_eq.mp hn
    cases he
    obtain ⟨j, r, rfl, hs⟩ := onI_ex hs
    obtain ⟨k, r, rfl, hs⟩ := onR_ex hs
    rcases hs with ⟨h1, h2, h3⟩ | ⟨h1, h2, h4, h3⟩
    · exact wp_iald hd h1 h2 (hN _ _ _ h3)
    · subst h4
      exact wp_abv hd h2 (hN _ _ _ h3)
  | iastore =>
    cases beq_iff_eq.mp hn
    cases he
    obtain ⟨z, r, rfl, hs⟩ := onI_ex hs
    obtain ⟨j, r, rfl, hs⟩ := onI_ex hs
    obtain ⟨k, r, rfl, h1, h2, hs⟩ := onR_ex hs
    exact wp_iast hd h1 h2 (hN _ _ _ hs)
  | baload =>
    cases beq_iff_eq.mp hn
    cases he
    obtain ⟨j, r, rfl, hs⟩ := onI_ex hs
    obtain ⟨k, r, rfl, h1, h2, hs⟩ := onR_ex hs
    exact wp_bald hd h1 h2 (hN _ _ _ hs)
  | bastore =>
    cases beq_iff_eq.mp hn
    cases he
    obtain ⟨z, r, rfl, hs⟩ := onI_ex hs
    obtain ⟨j, r, rfl, hs⟩ := onI_ex hs
    obtain ⟨k, r, rfl, h1, h2, hs⟩ := onR_ex hs
    exact wp_bast hd h1 h2 (hN _ _ _ hs)
  | laload =>
    cases beq_iff_eq.mp hn
    cases he
    obtain ⟨j, r, rfl, hs⟩ := onI_ex hs
    obtain ⟨k, r, rfl, h1, h2, hs⟩ := onR_ex hs
    exact wp_lald hd h1 h2 (hN _ _ _ hs)
  | lastore =>
    cases beq_iff_eq.mp hn
    cases he
    obtain ⟨z, r, rfl, hs⟩ := onL_ex hs
    obtain ⟨j, r, rfl, hs⟩ := onI_ex hs
    obtain ⟨k, r, rfl, h1, h2, hs⟩ := onR_ex hs
    exact wp_last hd h1 h2 (hN _ _ _ hs)
  | aaload =>
    cases beq_iff_eq.mp hn
    cases he
    obtain ⟨j, r, rfl, hs⟩ := onI_ex hs
    obtain ⟨k, r, rfl, h1, h2, hs⟩ := onR_ex hs
    exact wp_aald hd h1 h2 (hN _ _ _ hs)
  | ireturn =>
    cases beq_iff_eq.mp hn
    simp only [enc] at he
    split at he
    · next hr =>
      cases he
      match st, hs with
      | [.inl z], hs => exact wp_iret hd hr hs
    · split at he
      · next hr =>
        cases he
        match st, hs with
        | [.inl z], hs => exact wp_zret hd hr hs.1 hs.2
      · cases he
  | return_ =>
    cases beq_iff_eq.mp hn
    simp only [enc] at he
    split at he
    · next hr =>
      cases he
      match st, hs with
      | [], hs => exact wp_vret hd hr hs
    · cases he
  | ifCond c o =>
    cases beq_iff_eq.mp hn
    simp only [enc] at he
    split at he
    · next hz =>
      cases he
      have ht : (pc : Int) + o = ((((pc : Int) + o).toNat : Nat) : Int) := by omega
      cases c
      · obtain ⟨a, r, rfl, h1, h2⟩ := onI_ex (show onI st _ from hs); exact wp_if_eq hd ht (fun q => hK _ _ _ _ (h1 q)) (fun q => hN _ _ _ (h2 q))
      · obtain ⟨a, r, rfl, h1, h2⟩ := onI_ex (show onI st _ from hs); exact wp_if_ne hd ht (fun q => hK _ _ _ _ (h1 q)) (fun q => hN _ _ _ (h2 q))
      · obtain ⟨a, r, rfl, h1, h2⟩ := onI_ex (show onI st _ from hs); exact wp_if_lt hd ht (fun q => hK _ _ _ _ (h1 q)) (fun q => hN _ _ _ (h2 q))
      · obtain ⟨a, r, rfl, h1, h2⟩ := onI_ex (show onI st _ from hs); exact wp_if_ge hd ht (fun q => hK _ _ _ _ (h1 q)) (fun q => hN _ _ _ (h2 q))
      · obtain ⟨a, r, rfl, h1, h2⟩ := onI_ex (show onI st _ from hs); exact wp_if_gt hd ht (fun q => hK _ _ _ _ (h1 q)) (fun q => hN _ _ _ (h2 q))
      · obtain ⟨a, r, rfl, h1, h2⟩ := onI_ex (show onI st _ from hs); exact wp_if_le hd ht (fun q => hK _ _ _ _ (h1 q)) (fun q => hN _ _ _ (h2 q))
    · cases he
  | if_icmp c o =>
    cases beq_iff_eq.mp hn
    simp only [enc] at he
    split at he
    · next hz =>
      cases he
      have ht : (pc : Int) + o = ((((pc : Int) + o).toNat : Nat) : Int) := by omega
      cases c
      · obtain ⟨b, r, rfl, hs⟩ := onI_ex (show onI st _ from hs); obtain ⟨a, r, rfl, h1, h2⟩ := onI_ex hs; exact wp_icmp_eq hd ht (fun q => hK _ _ _ _ (h1 q)) (fun q => hN _ _ _ (h2 q))
      · obtain ⟨b, r, rfl, hs⟩ := onI_ex (show onI st _ from hs); obtain ⟨a, r, rfl, h1, h2⟩ := onI_ex hs; exact wp_icmp_ne hd ht (fun q => hK _ _ _ _ (h1 q)) (fun q => hN _ _ _ (h2 q))
      · obtain ⟨b, r, rfl, hs⟩ := onI_ex (show onI st _ from hs); obtain ⟨a, r, rfl, h1, h2⟩ := onI_ex hs; exact wp_icmp_lt hd ht (fun q => hK _ _ _ _ (h1 q)) (fun q => hN _ _ _ (h2 q))
      · obtain ⟨b, r, rfl, hs⟩ := onI_ex (show onI st _ from hs); obtain ⟨a, r, rfl, h1, h2⟩ := onI_ex hs; exact wp_icmp_ge hd ht (fun q => hK _ _ _ _ (h1 q)) (fun q => hN _ _ _ (h2 q))
      · obtain ⟨b, r, rfl, hs⟩ := onI_ex (show onI st _ from hs); obtain ⟨a, r, rfl, h1, h2⟩ := onI_ex hs; exact wp_icmp_gt hd ht (fun q => hK _ _ _ _ (h1 q)) (fun q => hN _ _ _ (h2 q))
      · obtain ⟨b, r, rfl, hs⟩ := onI_ex (show onI st _ from hs); obtain ⟨a, r, rfl, h1, h2⟩ := onI_ex hs; exact wp_icmp_le hd ht (fun q => hK _ _ _ _ (h1 q)) (fun q => hN _ _ _ (h2 q))
    · cases he
  | invokestatic z =>
    cases beq_iff_eq.mp hn
    simp only [enc] at he
    split at he
    · next hz =>
      cases he
      obtain ⟨h1, rfl⟩ := hz
      obtain ⟨n9, r, rfl, hs⟩ := onI_ex hs
      obtain ⟨dp, r, rfl, hs⟩ := onI_ex hs
      obtain ⟨k1, r, rfl, hs⟩ := onR_ex hs
      obtain ⟨sp, r, rfl, hs⟩ := onI_ex hs
      obtain ⟨k0, r, rfl, h2, h3, hs⟩ := onR_ex hs
      exact wp_acpy hd h1 h2 h3 (hN _ _ _ hs)
    · split at he
      · next hz =>
        cases he
        obtain ⟨b, r, rfl, hs⟩ := onI_ex hs
        obtain ⟨a, r, rfl, h4, hs⟩ := onI_ex hs
        exact wp_max hd hz h4 (hN _ _ _ hs)
      · split at he
        · next hz =>
          cases he
          obtain ⟨b, r, rfl, hs⟩ := onI_ex hs
          obtain ⟨a, r, rfl, h4, hs⟩ := onI_ex hs
          exact wp_min hd hz h4 (hN _ _ _ hs)
        · cases hm : mthAt (mrec i).1 z with
          | none => rw [hm] at he; cases he
          | some m =>
            rw [hm] at he
            cases hnp : npar (mrec m).2.1 with
            | none => simp [hnp] at he
            | some np =>
              simp only [hnp, Option.bind_some, Option.map_some, Option.some.injEq, Prod.mk.injEq] at he
              obtain ⟨rfl, rfl, rfl⟩ := he
              obtain ⟨⟨h4, h5⟩, P, ⟨d', hd', hc⟩, hs⟩ := hs
              have e1 : ((([(np : Int)] : List Int).headD 0).toNat) = np := rfl
              rw [e1] at h4 h5 hc hs
              have key := wp_calls (G := G) (l := l) (d := d) (ls := ls) (st := st.drop np) (Q := Q) hd hm hnp (hsv m ⟨z, rfl, hm⟩) (by rw [List.length_drop]; omega) (as := (st.take np).reverse) (by rw [List.length_reverse, List.length_take]; omega) hd' hc (fun r h' hp => hN _ _ _ (hs r h' hp))
              rw [List.reverse_reverse, List.take_append_drop] at key
              exact key
  | invokevirtual z =>
    cases beq_iff_eq.mp hn
    simp only [enc] at he
    cases hm : mthAt (mrec i).1 z with
    | none => rw [hm] at he; cases he
    | some m =>
      rw [hm] at he
      cases hnp : npar (mrec m).2.1 with
      | none => simp [hnp] at he
      | some np =>
        simp only [hnp, Option.bind_some, Option.map_some, Option.some.injEq] at he
        split at he
        · next h11 =>
          cases he
          obtain ⟨⟨h4, h5⟩, hs⟩ := hs
          obtain ⟨k, r, hk, hk2, P, ⟨d', hd', hc⟩, hs⟩ := onR_ex hs
          have e1 : ((([(np : Int)] : List Int).headD 0).toNat) = np := rfl
          rw [e1] at h4 h5 hc hk
          have hlen : (st.drop np).length = r.length + 1 := by rw [hk]; rfl
          rw [List.length_drop] at hlen
          have key := wp_callv (G := G) (l := l) (d := d) (ls := ls) (st := r) (Q := Q) hd hm hnp (hvv m ⟨z, rfl, hm⟩) (by omega) (as := (st.take np).reverse) (by rw [List.length_reverse, List.length_take]; omega) hd' (Or.inl ⟨h11, hk2.1, hk2.2⟩) hc (fun r h' hp => hN _ _ _ (hs r h' hp))
          rw [List.reverse_reverse, ← hk, List.take_append_drop] at key
          exact key
        · next h11 =>
          cases he
          obtain ⟨⟨h4, h5⟩, hs⟩ := hs
          obtain ⟨k, r, hk, hk2, P, ⟨d', hd', hc⟩, hs⟩ := onR_ex hs
          have e1 : ((([(np : Int), (vwOf (mrec m).1 : Int)] : List Int).headD 0).toNat) = np := rfl
          rw [e1] at h4 h5 hc hk
          have hlen : (st.drop np).length = r.length + 1 := by rw [hk]; rfl
          rw [List.length_drop] at hlen
          have key := wp_callv (G := G) (l := l) (d := d) (ls := ls) (st := r) (Q := Q) hd hm hnp (hvv m ⟨z, rfl, hm⟩) (by omega) (as := (st.take np).reverse) (by rw [List.length_reverse, List.length_take]; omega) hd' (Or.inr ⟨h11, hk2.1, hk2.2⟩) hc (fun r h' hp => hN _ _ _ (hs r h' hp))
          rw [List.reverse_reverse, ← hk, List.take_append_drop] at key
          exact key
  | _ => simp [enc] at he
end SOUND
