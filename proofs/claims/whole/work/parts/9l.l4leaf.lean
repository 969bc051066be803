section L4LEAF
theorem D_one (x : Nat × va_E) (n : Nat) : va_D (va_A [x] n) [x] := ⟨fun i j p q hi hj _ => by
    have h1 := (List.getElem?_eq_some_iff.mp hi).1
    have h2 := (List.getElem?_eq_some_iff.mp hj).1
    simp only [List.length_cons, List.length_nil] at h1 h2
    omega, fun k q hk => va_A.in hk⟩
theorem nact_d0 : decode prog_2_method_1_code 0 = .ok (.aload_n 0, 1) := by decide +kernel
theorem nact_d1 : decode prog_2_method_1_code 1 = .ok (.invokespecial 3, 3) := by decide +kernel
theorem nact_d4 : decode prog_2_method_1_code 4 = .ok (.aload_n 0, 1) := by decide +kernel
theorem nact_d5 : decode prog_2_method_1_code 5 = .ok (.bipush 30, 2) := by decide +kernel
theorem nact_d7 : decode prog_2_method_1_code 7 = .ok (.newarray .int, 2) := by decide +kernel
theorem nact_d9 : decode prog_2_method_1_code 9 = .ok (.putfield 9, 3) := by decide +kernel
theorem nact_d12 : decode prog_2_method_1_code 12 = .ok (.return_, 1) := by decide +kernel
theorem nact_t3 : tyCl 0 3 = .array .int := by decide +kernel
theorem nact_ow : Cond.methodLink RX0 3 Lib.objectInit ∈ lw_tbl ∧ Cond.instanceMethod Lib.objectInit ∈ lw_tbl ∧ Cond.code Lib.objectInit ⟨#[0xb1]⟩ 1 none ∈ lw_tbl := by decide +kernel
def actC (ff : Nat → ClassId) (a : Nat) (qs : List Nat) : va_W := [(a, .inr (0, [.int 0, .int 0, .int 0, .ref (qs.getD 0 0), .int 0, .int 0])), (qs.getD 0 0, .inl (ff 1, 30, .inl (fun _ => 0)))]
set_option maxHeartbeats 1600000 in
theorem n_act (l : Launch) (D : va_G) (ff : Nat → ClassId) (a n0 : Nat) : Met l ⟨RX0, "<init>", "()V"⟩ (.code ⟨RX0, "<init>", "()V"⟩ prog_2_method_1_code 1 none :: wG) (rmN 1 1 30) (PcN D ff a n0 0 [.int 0, .int 0, .int 0, .null, .int 0, .int 0]) (QcN D a n0 0 [.int 0, .int 0, .int 0, .null, .int 0, .int 0] 1 (actC ff a)) 1 30 (va_A [(a, .inr (0, [.int 0, .int 0, .int 0, .null, .int 0, .int 0]))] n0) := by
  refine Met.ofW (cc := prog_2_method_1_code) (maxL := 1) (ret := none) (by decide) rfl ?_
  intro p e s m args below meth c s₁ B hml hp
  obtain ⟨rfl, hsz, hP, hK, -, -⟩ := hp
  have hx := B.exec
  have hb := B.bytes
  have hr := B.returns
  have hts0 := atoms_spec (ws := .code ⟨RX0, "<init>", "()V"⟩ prog_2_method_1_code 1 none :: wG) B.pre
  have hts : ∀ w ∈ wG, w.before [Value.ref a].toArray s = true := fun w hw => hts0 w (List.mem_cons_of_mem _ hw)
  have hown : s.vm.findClass RX0 = some m.cls := findClass_of_methodNamed B.named
  have hin : meth.name = "<init>" := (name_of_methodNamed B.named B.method).1
  subst hsz
  have hD := D_one (a, .inr (0, [.int 0, .int 0, .int 0, .null, .int 0, .int 0])) s.heap.size
  unfold QcN
  generalize hAe : va_A [(a, .inr (0, [.int 0, .int 0, .int 0, .null, .int 0, .int 0]))] s.heap.size = A at hD ⊢
  have hA : ∀ q : Nat, s.heap.size ≤ q → A q := fun q h => by rw [← hAe]; exact Or.inr h
  have hS : va_S A s.heap s.heap [] := va_S.rf
  have hl := lv_entry ([.ref a]) (n := 1) (Nat.le_of_ble_eq_true rfl)
  rw [lg_entry_eq]
  generalize (lg_sl ([.ref a]) ++ List.replicate (1 - (lg_sl ([.ref a])).length) Slot.unset).toArray = ls at hl ⊢
  have hl : lv_has ls 1 [(0, .ref a)] := hl
  have l0 := lv_at hl 0 rfl
  refine lv_aload_n hx hb nact_d0 rfl l0 ?_
  refine W.objInit hx hb hown (hts _ (wG_of nact_ow.1 rfl)) (hts _ (wG_of nact_ow.2.1 rfl)) (hts _ (wG_of nact_ow.2.2 rfl)) rfl (by rw [hml]; exact hl.1) rfl nact_d1 (Nat.le_of_ble_eq_true rfl) (Nat.le_of_ble_eq_true rfl) ?_
  refine W.eq (g2 := F0 m 4 ls []) rfl ?_
  refine lv_aload_n hx hb nact_d4 rfl l0 ?_
  refine lv_bipush hx hb nact_d5 (v := (Int32.ofInt ((30 : Nat) : Int))) (by decide) ?_
  refine n_int hx hb hts hK hP hD hS hA 30 (Nat.le_of_ble_eq_true rfl) (Nat.le_of_ble_eq_true rfl) (Nat.le_of_ble_eq_true rfl) nact_d7 (fun q1 H hP hD hS => ?_)
  have hP : va_P D vwCl [(a, .inr (0, [.int 0, .int 0, .int 0, .null, .int 0, .int 0])), (q1, .inl (ff 1, 30, .inl (fun _ => 0)))] H := hP
  have hD : va_D A [(a, .inr (0, [.int 0, .int 0, .int 0, .null, .int 0, .int 0])), (q1, .inl (ff 1, 30, .inl (fun _ => 0)))] := hD
  refine n_put hx hb hts hown hin hK hP hD hS 0 (ci := 0) (k := 3) (x := 9) (v := .ref q1) (Nat.le_of_ble_eq_true rfl) rfl (Nat.le_of_ble_eq_true rfl) rfl (by decide +kernel) (by rw [nact_t3]; rfl) (by rw [nact_t3]; rfl) (Nat.le_of_ble_eq_true rfl) nact_d9 (fun H locs hP hD hS => ?_)
  have hP : va_P D vwCl [(a, .inr (0, [.int 0, .int 0, .int 0, .ref q1, .int 0, .int 0])), (q1, .inl (ff 1, 30, .inl (fun _ => 0)))] H := hP
  have hD : va_D A [(a, .inr (0, [.int 0, .int 0, .int 0, .ref q1, .int 0, .int 0])), (q1, .inl (ff 1, 30, .inl (fun _ => 0)))] := hD
  exact W.vret hx hb hr (fun t ht hW => ⟨⟨[q1], rfl, rfl, by rw [ht]; exact hP, hD⟩, hS.F ht⟩) hS.2.2 nact_d12 B.notSynchronized
theorem nshe_d0 : decode prog_4_method_1_code 0 = .ok (.aload_n 0, 1) := by decide +kernel
theorem nshe_d1 : decode prog_4_method_1_code 1 = .ok (.invokespecial 3, 3) := by decide +kernel
theorem nshe_d4 : decode prog_4_method_1_code 4 = .ok (.aload_n 0, 1) := by decide +kernel
theorem nshe_d5 : decode prog_4_method_1_code 5 = .ok (.iconst (-1), 1) := by decide +kernel
theorem nshe_d6 : decode prog_4_method_1_code 6 = .ok (.putfield 9, 3) := by decide +kernel
theorem nshe_d9 : decode prog_4_method_1_code 9 = .ok (.aload_n 0, 1) := by decide +kernel
theorem nshe_d10 : decode prog_4_method_1_code 10 = .ok (.bipush 40, 2) := by decide +kernel
theorem nshe_d12 : decode prog_4_method_1_code 12 = .ok (.newarray .int, 2) := by decide +kernel
theorem nshe_d14 : decode prog_4_method_1_code 14 = .ok (.putfield 15, 3) := by decide +kernel
theorem nshe_d17 : decode prog_4_method_1_code 17 = .ok (.return_, 1) := by decide +kernel
theorem nshe_t2 : tyCl 1 2 = .array .int := by decide +kernel
theorem nshe_t0 : tyCl 1 0 = .int := by decide +kernel
theorem nshe_ow : Cond.methodLink RX2 3 Lib.objectInit ∈ lw_tbl ∧ Cond.instanceMethod Lib.objectInit ∈ lw_tbl ∧ Cond.code Lib.objectInit ⟨#[0xb1]⟩ 1 none ∈ lw_tbl := by decide +kernel
def sheC (ff : Nat → ClassId) (a : Nat) (qs : List Nat) : va_W := [(a, .inr (1, [.int (Int32.ofInt (-1)), .int 0, .ref (qs.getD 0 0)])), (qs.getD 0 0, .inl (ff 1, 40, .inl (fun _ => 0)))]
set_option maxHeartbeats 1600000 in
theorem n_she (l : Launch) (D : va_G) (ff : Nat → ClassId) (a n0 : Nat) : Met l ⟨RX2, "<init>", "()V"⟩ (.code ⟨RX2, "<init>", "()V"⟩ prog_4_method_1_code 1 none :: wG) (rmN 1 1 40) (PcN D ff a n0 1 [.int 0, .int 0, .null]) (QcN D a n0 1 [.int 0, .int 0, .null] 1 (sheC ff a)) 1 40 (va_A [(a, .inr (1, [.int 0, .int 0, .null]))] n0) := by
  refine Met.ofW (cc := prog_4_method_1_code) (maxL := 1) (ret := none) (by decide) rfl ?_
  intro p e s m args below meth c s₁ B hml hp
  obtain ⟨rfl, hsz, hP, hK, -, -⟩ := hp
  have hx := B.exec
  have hb := B.bytes
  have hr := B.returns
  have hts0 := atoms_spec (ws := .code ⟨RX2, "<init>", "()V"⟩ prog_4_method_1_code 1 none :: wG) B.pre
  have hts : ∀ w ∈ wG, w.before [Value.ref a].toArray s = true := fun w hw => hts0 w (List.mem_cons_of_mem _ hw)
  have hown : s.vm.findClass RX2 = some m.cls := findClass_of_methodNamed B.named
  have hin : meth.name = "<init>" := (name_of_methodNamed B.named B.method).1
  subst hsz
  have hD := D_one (a, .inr (1, [.int 0, .int 0, .null])) s.heap.size
  unfold QcN
  generalize hAe : va_A [(a, .inr (1, [.int 0, .int 0, .null]))] s.heap.size = A at hD ⊢
  have hA : ∀ q : Nat, s.heap.size ≤ q → A q := fun q h => by rw [← hAe]; exact Or.inr h
  have hS : va_S A s.heap s.heap [] := va_S.rf
  have hl := lv_entry ([.ref a]) (n := 1) (Nat.le_of_ble_eq_true rfl)
  rw [lg_entry_eq]
  generalize (lg_sl ([.ref a]) ++ List.replicate (1 - (lg_sl ([.ref a])).length) Slot.unset).toArray = ls at hl ⊢
  have hl : lv_has ls 1 [(0, .ref a)] := hl
  have l0 := lv_at hl 0 rfl
  refine lv_aload_n hx hb nshe_d0 rfl l0 ?_
  refine W.objInit hx hb hown (hts _ (wG_of nshe_ow.1 rfl)) (hts _ (wG_of nshe_ow.2.1 rfl)) (hts _ (wG_of nshe_ow.2.2 rfl)) rfl (by rw [hml]; exact hl.1) rfl nshe_d1 (Nat.le_of_ble_eq_true rfl) (Nat.le_of_ble_eq_true rfl) ?_
  refine W.eq (g2 := F0 m 4 ls []) rfl ?_
  refine lv_aload_n hx hb nshe_d4 rfl l0 ?_
  refine lv_iconst hx hb nshe_d5 (v := (Int32.ofInt (-1))) (by decide) ?_
  refine n_put hx hb hts hown hin hK hP hD hS 0 (ci := 1) (k := 0) (x := 9) (v := .int (Int32.ofInt (-1))) (Nat.le_of_ble_eq_true rfl) rfl (Nat.le_of_ble_eq_true rfl) rfl (by decide +kernel) (by rw [nshe_t0]; rfl) (by rw [nshe_t0]; rfl) (Nat.le_of_ble_eq_true rfl) nshe_d6 (fun H locs hP hD hS => ?_)
  have hP : va_P D vwCl [(a, .inr (1, [.int (Int32.ofInt (-1)), .int 0, .null]))] H := hP
  have hD : va_D A [(a, .inr (1, [.int (Int32.ofInt (-1)), .int 0, .null]))] := hD
  refine lv_aload_n hx hb nshe_d9 rfl l0 ?_
  refine lv_bipush hx hb nshe_d10 (v := (Int32.ofInt ((40 : Nat) : Int))) (by decide) ?_
  refine n_int hx hb hts hK hP hD hS hA 40 (Nat.le_of_ble_eq_true rfl) (Nat.le_of_ble_eq_true rfl) (Nat.le_of_ble_eq_true rfl) nshe_d12 (fun q1 H hP hD hS => ?_)
  have hP : va_P D vwCl [(a, .inr (1, [.int (Int32.ofInt (-1)), .int 0, .null])), (q1, .inl (ff 1, 40, .inl (fun _ => 0)))] H := hP
  have hD : va_D A [(a, .inr (1, [.int (Int32.ofInt (-1)), .int 0, .null])), (q1, .inl (ff 1, 40, .inl (fun _ => 0)))] := hD
  refine n_put hx hb hts hown hin hK hP hD hS 0 (ci := 1) (k := 2) (x := 15) (v := .ref q1) (Nat.le_of_ble_eq_true rfl) rfl (Nat.le_of_ble_eq_true rfl) rfl (by decide +kernel) (by rw [nshe_t2]; rfl) (by rw [nshe_t2]; rfl) (Nat.le_of_ble_eq_true rfl) nshe_d14 (fun H locs hP hD hS => ?_)
  have hP : va_P D vwCl [(a, .inr (1, [.int (Int32.ofInt (-1)), .int 0, .ref q1])), (q1, .inl (ff 1, 40, .inl (fun _ => 0)))] H := hP
  have hD : va_D A [(a, .inr (1, [.int (Int32.ofInt (-1)), .int 0, .ref q1])), (q1, .inl (ff 1, 40, .inl (fun _ => 0)))] := hD
  exact W.vret hx hb hr (fun t ht hW => ⟨⟨[q1], rfl, rfl, by rw [ht]; exact hP, hD⟩, hS.F ht⟩) hS.2.2 nshe_d17 B.notSynchronized
theorem nshf_d0 : decode prog_5_method_1_code 0 = .ok (.aload_n 0, 1) := by decide +kernel
theorem nshf_d1 : decode prog_5_method_1_code 1 = .ok (.invokespecial 3, 3) := by decide +kernel
theorem nshf_d4 : decode prog_5_method_1_code 4 = .ok (.aload_n 0, 1) := by decide +kernel
theorem nshf_d5 : decode prog_5_method_1_code 5 = .ok (.iconst 2, 1) := by decide +kernel
theorem nshf_d6 : decode prog_5_method_1_code 6 = .ok (.putfield 9, 3) := by decide +kernel
theorem nshf_d9 : decode prog_5_method_1_code 9 = .ok (.return_, 1) := by decide +kernel
theorem nshf_t0 : tyCl 2 0 = .int := by decide +kernel
theorem nshf_ow : Cond.methodLink RX3 3 Lib.objectInit ∈ lw_tbl ∧ Cond.instanceMethod Lib.objectInit ∈ lw_tbl ∧ Cond.code Lib.objectInit ⟨#[0xb1]⟩ 1 none ∈ lw_tbl := by decide +kernel
def shfC (ff : Nat → ClassId) (a : Nat) (qs : List Nat) : va_W := [(a, .inr (2, [.int (Int32.ofInt (2)), .int 0, .int 0, .int 0]))]
set_option maxHeartbeats 1600000 in
theorem n_shf (l : Launch) (D : va_G) (ff : Nat → ClassId) (a n0 : Nat) : Met l ⟨RX3, "<init>", "()V"⟩ (.code ⟨RX3, "<init>", "()V"⟩ prog_5_method_1_code 1 none :: wG) (rmN 1 0 0) (PcN D ff a n0 2 [.int 0, .int 0, .int 0, .int 0]) (QcN D a n0 2 [.int 0, .int 0, .int 0, .int 0] 0 (shfC ff a)) 0 0 (va_A [(a, .inr (2, [.int 0, .int 0, .int 0, .int 0]))] n0) := by
  refine Met.ofW (cc := prog_5_method_1_code) (maxL := 1) (ret := none) (by decide) rfl ?_
  intro p e s m args below meth c s₁ B hml hp
  obtain ⟨rfl, hsz, hP, hK, -, -⟩ := hp
  have hx := B.exec
  have hb := B.bytes
  have hr := B.returns
  have hts0 := atoms_spec (ws := .code ⟨RX3, "<init>", "()V"⟩ prog_5_method_1_code 1 none :: wG) B.pre
  have hts : ∀ w ∈ wG, w.before [Value.ref a].toArray s = true := fun w hw => hts0 w (List.mem_cons_of_mem _ hw)
  have hown : s.vm.findClass RX3 = some m.cls := findClass_of_methodNamed B.named
  have hin : meth.name = "<init>" := (name_of_methodNamed B.named B.method).1
  subst hsz
  have hD := D_one (a, .inr (2, [.int 0, .int 0, .int 0, .int 0])) s.heap.size
  unfold QcN
  generalize hAe : va_A [(a, .inr (2, [.int 0, .int 0, .int 0, .int 0]))] s.heap.size = A at hD ⊢
  have hA : ∀ q : Nat, s.heap.size ≤ q → A q := fun q h => by rw [← hAe]; exact Or.inr h
  have hS : va_S A s.heap s.heap [] := va_S.rf
  have hl := lv_entry ([.ref a]) (n := 1) (Nat.le_of_ble_eq_true rfl)
  rw [lg_entry_eq]
  generalize (lg_sl ([.ref a]) ++ List.replicate (1 - (lg_sl ([.ref a])).length) Slot.unset).toArray = ls at hl ⊢
  have hl : lv_has ls 1 [(0, .ref a)] := hl
  have l0 := lv_at hl 0 rfl
  refine lv_aload_n hx hb nshf_d0 rfl l0 ?_
  refine W.objInit hx hb hown (hts _ (wG_of nshf_ow.1 rfl)) (hts _ (wG_of nshf_ow.2.1 rfl)) (hts _ (wG_of nshf_ow.2.2 rfl)) rfl (by rw [hml]; exact hl.1) rfl nshf_d1 (Nat.le_of_ble_eq_true rfl) (Nat.le_of_ble_eq_true rfl) ?_
  refine W.eq (g2 := F0 m 4 ls []) rfl ?_
  refine lv_aload_n hx hb nshf_d4 rfl l0 ?_
  refine lv_iconst hx hb nshf_d5 (v := (Int32.ofInt (2))) (by decide) ?_
  refine n_put hx hb hts hown hin hK hP hD hS 0 (ci := 2) (k := 0) (x := 9) (v := .int (Int32.ofInt (2))) (Nat.le_of_ble_eq_true rfl) rfl (Nat.le_of_ble_eq_true rfl) rfl (by decide +kernel) (by rw [nshf_t0]; rfl) (by rw [nshf_t0]; rfl) (Nat.le_of_ble_eq_true rfl) nshf_d6 (fun H locs hP hD hS => ?_)
  have hP : va_P D vwCl [(a, .inr (2, [.int (Int32.ofInt (2)), .int 0, .int 0, .int 0]))] H := hP
  have hD : va_D A [(a, .inr (2, [.int (Int32.ofInt (2)), .int 0, .int 0, .int 0]))] := hD
  exact W.vret hx hb hr (fun t ht hW => ⟨⟨[], rfl, rfl, by rw [ht]; exact hP, hD⟩, hS.F ht⟩) hS.2.2 nshf_d9 B.notSynchronized
theorem nsta_d0 : decode prog_6_method_1_code 0 = .ok (.aload_n 0, 1) := by decide +kernel
theorem nsta_d1 : decode prog_6_method_1_code 1 = .ok (.invokespecial 3, 3) := by decide +kernel
theorem nsta_d4 : decode prog_6_method_1_code 4 = .ok (.aload_n 0, 1) := by decide +kernel
theorem nsta_d5 : decode prog_6_method_1_code 5 = .ok (.bipush 8, 2) := by decide +kernel
theorem nsta_d7 : decode prog_6_method_1_code 7 = .ok (.newarray .int, 2) := by decide +kernel
theorem nsta_d9 : decode prog_6_method_1_code 9 = .ok (.putfield 9, 3) := by decide +kernel
theorem nsta_d12 : decode prog_6_method_1_code 12 = .ok (.aload_n 0, 1) := by decide +kernel
theorem nsta_d13 : decode prog_6_method_1_code 13 = .ok (.bipush 8, 2) := by decide +kernel
theorem nsta_d15 : decode prog_6_method_1_code 15 = .ok (.newarray .int, 2) := by decide +kernel
theorem nsta_d17 : decode prog_6_method_1_code 17 = .ok (.putfield 15, 3) := by decide +kernel
theorem nsta_d20 : decode prog_6_method_1_code 20 = .ok (.aload_n 0, 1) := by decide +kernel
theorem nsta_d21 : decode prog_6_method_1_code 21 = .ok (.bipush 8, 2) := by decide +kernel
theorem nsta_d23 : decode prog_6_method_1_code 23 = .ok (.newarray .int, 2) := by decide +kernel
theorem nsta_d25 : decode prog_6_method_1_code 25 = .ok (.putfield 18, 3) := by decide +kernel
theorem nsta_d28 : decode prog_6_method_1_code 28 = .ok (.aload_n 0, 1) := by decide +kernel
theorem nsta_d29 : decode prog_6_method_1_code 29 = .ok (.bipush 8, 2) := by decide +kernel
theorem nsta_d31 : decode prog_6_method_1_code 31 = .ok (.newarray .int, 2) := by decide +kernel
theorem nsta_d33 : decode prog_6_method_1_code 33 = .ok (.putfield 21, 3) := by decide +kernel
theorem nsta_d36 : decode prog_6_method_1_code 36 = .ok (.aload_n 0, 1) := by decide +kernel
theorem nsta_d37 : decode prog_6_method_1_code 37 = .ok (.bipush 9, 2) := by decide +kernel
theorem nsta_d39 : decode prog_6_method_1_code 39 = .ok (.newarray .int, 2) := by decide +kernel
theorem nsta_d41 : decode prog_6_method_1_code 41 = .ok (.putfield 24, 3) := by decide +kernel
theorem nsta_d44 : decode prog_6_method_1_code 44 = .ok (.aload_n 0, 1) := by decide +kernel
theorem nsta_d45 : decode prog_6_method_1_code 45 = .ok (.bipush 9, 2) := by decide +kernel
theorem nsta_d47 : decode prog_6_method_1_code 47 = .ok (.newarray .int, 2) := by decide +kernel
theorem nsta_d49 : decode prog_6_method_1_code 49 = .ok (.putfield 27, 3) := by decide +kernel
theorem nsta_d52 : decode prog_6_method_1_code 52 = .ok (.aload_n 0, 1) := by decide +kernel
theorem nsta_d53 : decode prog_6_method_1_code 53 = .ok (.bipush 9, 2) := by decide +kernel
theorem nsta_d55 : decode prog_6_method_1_code 55 = .ok (.newarray .int, 2) := by decide +kernel
theorem nsta_d57 : decode prog_6_method_1_code 57 = .ok (.putfield 30, 3) := by decide +kernel
theorem nsta_d60 : decode prog_6_method_1_code 60 = .ok (.return_, 1) := by decide +kernel
theorem nsta_t6 : tyCl 3 6 = .array .int := by decide +kernel
theorem nsta_t0 : tyCl 3 0 = .array .int := by decide +kernel
theorem nsta_t1 : tyCl 3 1 = .array .int := by decide +kernel
theorem nsta_t2 : tyCl 3 2 = .array .int := by decide +kernel
theorem nsta_t5 : tyCl 3 5 = .array .int := by decide +kernel
theorem nsta_t4 : tyCl 3 4 = .array .int := by decide +kernel
theorem nsta_t3 : tyCl 3 3 = .array .int := by decide +kernel
theorem nsta_ow : Cond.methodLink RX4 3 Lib.objectInit ∈ lw_tbl ∧ Cond.instanceMethod Lib.objectInit ∈ lw_tbl ∧ Cond.code Lib.objectInit ⟨#[0xb1]⟩ 1 none ∈ lw_tbl := by decide +kernel
def staC (ff : Nat → ClassId) (a : Nat) (qs : List Nat) : va_W := [(a, .inr (3, [.ref (qs.getD 0 0), .ref (qs.getD 1 0), .ref (qs.getD 2 0), .ref (qs.getD 3 0), .ref (qs.getD 4 0), .ref (qs.getD 5 0), .ref (qs.getD 6 0), .int 0, .int 0])), (qs.getD 0 0, .inl (ff 1, 8, .inl (fun _ => 0))), (qs.getD 1 0, .inl (ff 1, 8, .inl (fun _ => 0))), (qs.getD 2 0, .inl (ff 1, 8, .inl (fun _ => 0))), (qs.getD 3 0, .inl (ff 1, 8, .inl (fun _ => 0))), (qs.getD 4 0, .inl (ff 1, 9, .inl (fun _ => 0))), (qs.getD 5 0, .inl (ff 1, 9, .inl (fun _ => 0))), (qs.getD 6 0, .inl (ff 1, 9, .inl (fun _ => 0)))]
set_option maxHeartbeats 1600000 in
theorem n_sta (l : Launch) (D : va_G) (ff : Nat → ClassId) (a n0 : Nat) : Met l ⟨RX4, "<init>", "()V"⟩ (.code ⟨RX4, "<init>", "()V"⟩ prog_6_method_1_code 1 none :: wG) (rmN 1 7 59) (PcN D ff a n0 3 [.null, .null, .null, .null, .null, .null, .null, .int 0, .int 0]) (QcN D a n0 3 [.null, .null, .null, .null, .null, .null, .null, .int 0, .int 0] 7 (staC ff a)) 7 59 (va_A [(a, .inr (3, [.null, .null, .null, .null, .null, .null, .null, .int 0, .int 0]))] n0) := by
  refine Met.ofW (cc := prog_6_method_1_code) (maxL := 1) (ret := none) (by decide) rfl ?_
  intro p e s m args below meth c s₁ B hml hp
  obtain ⟨rfl, hsz, hP, hK, -, -⟩ := hp
  have hx := B.exec
  have hb := B.bytes
  have hr := B.returns
  have hts0 := atoms_spec (ws := .code ⟨RX4, "<init>", "()V"⟩ prog_6_method_1_code 1 none :: wG) B.pre
  have hts : ∀ w ∈ wG, w.before [Value.ref a].toArray s = true := fun w hw => hts0 w (List.mem_cons_of_mem _ hw)
  have hown : s.vm.findClass RX4 = some m.cls := findClass_of_methodNamed B.named
  have hin : meth.name = "<init>" := (name_of_methodNamed B.named B.method).1
  subst hsz
  have hD := D_one (a, .inr (3, [.null, .null, .null, .null, .null, .null, .null, .int 0, .int 0])) s.heap.size
  unfold QcN
  generalize hAe : va_A [(a, .inr (3, [.null, .null, .null, .null, .null, .null, .null, .int 0, .int 0]))] s.heap.size = A at hD ⊢
  have hA : ∀ q : Nat, s.heap.size ≤ q → A q := fun q h => by rw [← hAe]; exact Or.inr h
  have hS : va_S A s.heap s.heap [] := va_S.rf
  have hl := lv_entry ([.ref a]) (n := 1) (Nat.le_of_ble_eq_true rfl)
  rw [lg_entry_eq]
  generalize (lg_sl ([.ref a]) ++ List.replicate (1 - (lg_sl ([.ref a])).length) Slot.unset).toArray = ls at hl ⊢
  have hl : lv_has ls 1 [(0, .ref a)] := hl
  have l0 := lv_at hl 0 rfl
  refine lv_aload_n hx hb nsta_d0 rfl l0 ?_
  refine W.objInit hx hb hown (hts _ (wG_of nsta_ow.1 rfl)) (hts _ (wG_of nsta_ow.2.1 rfl)) (hts _ (wG_of nsta_ow.2.2 rfl)) rfl (by rw [hml]; exact hl.1) rfl nsta_d1 (Nat.le_of_ble_eq_true rfl) (Nat.le_of_ble_eq_true rfl) ?_
  refine W.eq (g2 := F0 m 4 ls []) rfl ?_
  refine lv_aload_n hx hb nsta_d4 rfl l0 ?_
  refine lv_bipush hx hb nsta_d5 (v := (Int32.ofInt ((8 : Nat) : Int))) (by decide) ?_
  refine n_int hx hb hts hK hP hD hS hA 8 (Nat.le_of_ble_eq_true rfl) (Nat.le_of_ble_eq_true rfl) (Nat.le_of_ble_eq_true rfl) nsta_d7 (fun q1 H hP hD hS => ?_)
  have hP : va_P D vwCl [(a, .inr (3, [.null, .null, .null, .null, .null, .null, .null, .int 0, .int 0])), (q1, .inl (ff 1, 8, .inl (fun _ => 0)))] H := hP
  have hD : va_D A [(a, .inr (3, [.null, .null, .null, .null, .null, .null, .null, .int 0, .int 0])), (q1, .inl (ff 1, 8, .inl (fun _ => 0)))] := hD
  refine n_put hx hb hts hown hin hK hP hD hS 0 (ci := 3) (k := 0) (x := 9) (v := .ref q1) (Nat.le_of_ble_eq_true rfl) rfl (Nat.le_of_ble_eq_true rfl) rfl (by decide +kernel) (by rw [nsta_t0]; rfl) (by rw [nsta_t0]; rfl) (Nat.le_of_ble_eq_true rfl) nsta_d9 (fun H locs hP hD hS => ?_)
  have hP : va_P D vwCl [(a, .inr (3, [.ref q1, .null, .null, .null, .null, .null, .null, .int 0, .int 0])), (q1, .inl (ff 1, 8, .inl (fun _ => 0)))] H := hP
  have hD : va_D A [(a, .inr (3, [.ref q1, .null, .null, .null, .null, .null, .null, .int 0, .int 0])), (q1, .inl (ff 1, 8, .inl (fun _ => 0)))] := hD
  refine lv_aload_n hx hb nsta_d12 rfl l0 ?_
  refine lv_bipush hx hb nsta_d13 (v := (Int32.ofInt ((8 : Nat) : Int))) (by decide) ?_
  refine n_int hx hb hts hK hP hD hS hA 8 (Nat.le_of_ble_eq_true rfl) (Nat.le_of_ble_eq_true rfl) (Nat.le_of_ble_eq_true rfl) nsta_d15 (fun q2 H hP hD hS => ?_)
  have hP : va_P D vwCl [(a, .inr (3, [.ref q1, .null, .null, .null, .null, .null, .null, .int 0, .int 0])), (q1, .inl (ff 1, 8, .inl (fun _ => 0))), (q2, .inl (ff 1, 8, .inl (fun _ => 0)))] H := hP
  have hD : va_D A [(a, .inr (3, [.ref q1, .null, .null, .null, .null, .null, .null, .int 0, .int 0])), (q1, .inl (ff 1, 8, .inl (fun _ => 0))), (q2, .inl (ff 1, 8, .inl (fun _ => 0)))] := hD
  refine n_put hx hb hts hown hin hK hP hD hS 0 (ci := 3) (k := 1) (x := 15) (v := .ref q2) (Nat.le_of_ble_eq_true rfl) rfl (Nat.le_of_ble_eq_true rfl) rfl (by decide +kernel) (by rw [nsta_t1]; rfl) (by rw [nsta_t1]; rfl) (Nat.le_of_ble_eq_true rfl) nsta_d17 (fun H locs hP hD hS => ?_)
  have hP : va_P D vwCl [(a, .inr (3, [.ref q1, .ref q2, .null, .null, .null, .null, .null, .int 0, .int 0])), (q1, .inl (ff 1, 8, .inl (fun _ => 0))), (q2, .inl (ff 1, 8, .inl (fun _ => 0)))] H := hP
  have hD : va_D A [(a, .inr (3, [.ref q1, .ref q2, .null, .null, .null, .null, .null, .int 0, .int 0])), (q1, .inl (ff 1, 8, .inl (fun _ => 0))), (q2, .inl (ff 1, 8, .inl (fun _ => 0)))] := hD
  refine lv_aload_n hx hb nsta_d20 rfl l0 ?_
  refine lv_bipush hx hb nsta_d21 (v := (Int32.ofInt ((8 : Nat) : Int))) (by decide) ?_
  refine n_int hx hb hts hK hP hD hS hA 8 (Nat.le_of_ble_eq_true rfl) (Nat.le_of_ble_eq_true rfl) (Nat.le_of_ble_eq_true rfl) nsta_d23 (fun q3 H hP hD hS => ?_)
  have hP : va_P D vwCl [(a, .inr (3, [.ref q1, .ref q2, .null, .null, .null, .null, .null, .int 0, .int 0])), (q1, .inl (ff 1, 8, .inl (fun _ => 0))), (q2, .inl (ff 1, 8, .inl (fun _ => 0))), (q3, .inl (ff 1, 8, .inl (fun _ => 0)))] H := hP
  have hD : va_D A [(a, .inr (3, [.ref q1, .ref q2, .null, .null, .null, .null, .null, .int 0, .int 0])), (q1, .inl (ff 1, 8, .inl (fun _ => 0))), (q2, .inl (ff 1, 8, .inl (fun _ => 0))), (q3, .inl (ff 1, 8, .inl (fun _ => 0)))] := hD
  refine n_put hx hb hts hown hin hK hP hD hS 0 (ci := 3) (k := 2) (x := 18) (v := .ref q3) (Nat.le_of_ble_eq_true rfl) rfl (Nat.le_of_ble_eq_true rfl) rfl (by decide +kernel) (by rw [nsta_t2]; rfl) (by rw [nsta_t2]; rfl) (Nat.le_of_ble_eq_true rfl) nsta_d25 (fun H locs hP hD hS => ?_)
  have hP : va_P D vwCl [(a, .inr (3, [.ref q1, .ref q2, .ref q3, .null, .null, .null, .null, .int 0, .int 0])), (q1, .inl (ff 1, 8, .inl (fun _ => 0))), (q2, .inl (ff 1, 8, .inl (fun _ => 0))), (q3, .inl (ff 1, 8, .inl (fun _ => 0)))] H := hP
  have hD : va_D A [(a, .inr (3, [.ref q1, .ref q2, .ref q3, .null, .null, .null, .null, .int 0, .int 0])), (q1, .inl (ff 1, 8, .inl (fun _ => 0))), (q2, .inl (ff 1, 8, .inl (fun _ => 0))), (q3, .inl (ff 1, 8, .inl (fun _ => 0)))] := hD
  refine lv_aload_n hx hb nsta_d28 rfl l0 ?_
  refine lv_bipush hx hb nsta_d29 (v := (Int32.ofInt ((8 : Nat) : Int))) (by decide) ?_
  refine n_int hx hb hts hK hP hD hS hA 8 (Nat.le_of_ble_eq_true rfl) (Nat.le_of_ble_eq_true rfl) (Nat.le_of_ble_eq_true rfl) nsta_d31 (fun q4 H hP hD hS => ?_)
  have hP : va_P D vwCl [(a, .inr (3, [.ref q1, .ref q2, .ref q3, .null, .null, .null, .null, .int 0, .int 0])), (q1, .inl (ff 1, 8, .inl (fun _ => 0))), (q2, .inl (ff 1, 8, .inl (fun _ => 0))), (q3, .inl (ff 1, 8, .inl (fun _ => 0))), (q4, .inl (ff 1, 8, .inl (fun _ => 0)))] H := hP
  have hD : va_D A [(a, .inr (3, [.ref q1, .ref q2, .ref q3, .null, .null, .null, .null, .int 0, .int 0])), (q1, .inl (ff 1, 8, .inl (fun _ => 0))), (q2, .inl (ff 1, 8, .inl (fun _ => 0))), (q3, .inl (ff 1, 8, .inl (fun _ => 0))), (q4, .inl (ff 1, 8, .inl (fun _ => 0)))] := hD
  refine n_put hx hb hts hown hin hK hP hD hS 0 (ci := 3) (k := 3) (x := 21) (v := .ref q4) (Nat.le_of_ble_eq_true rfl) rfl (Nat.le_of_ble_eq_true rfl) rfl (by decide +kernel) (by rw [nsta_t3]; rfl) (by rw [nsta_t3]; rfl) (Nat.le_of_ble_eq_true rfl) nsta_d33 (fun H locs hP hD hS => ?_)
  have hP : va_P D vwCl [(a, .inr (3, [.ref q1, .ref q2, .ref q3, .ref q4, .null, .null, .null, .int 0, .int 0])), (q1, .inl (ff 1, 8, .inl (fun _ => 0))), (q2, .inl (ff 1, 8, .inl (fun _ => 0))), (q3, .inl (ff 1, 8, .inl (fun _ => 0))), (q4, .inl (ff 1, 8, .inl (fun _ => 0)))] H := hP
  have hD : va_D A [(a, .inr (3, [.ref q1, .ref q2, .ref q3, .ref q4, .null, .null, .null, .int 0, .int 0])), (q1, .inl (ff 1, 8, .inl (fun _ => 0))), (q2, .inl (ff 1, 8, .inl (fun _ => 0))), (q3, .inl (ff 1, 8, .inl (fun _ => 0))), (q4, .inl (ff 1, 8, .inl (fun _ => 0)))] := hD
  refine lv_aload_n hx hb nsta_d36 rfl l0 ?_
  refine lv_bipush hx hb nsta_d37 (v := (Int32.ofInt ((9 : Nat) : Int))) (by decide) ?_
  refine n_int hx hb hts hK hP hD hS hA 9 (Nat.le_of_ble_eq_true rfl) (Nat.le_of_ble_eq_true rfl) (Nat.le_of_ble_eq_true rfl) nsta_d39 (fun q5 H hP hD hS => ?_)
  have hP : va_P D vwCl [(a, .inr (3, [.ref q1, .ref q2, .ref q3, .ref q4, .null, .null, .null, .int 0, .int 0])), (q1, .inl (ff 1, 8, .inl (fun _ => 0))), (q2, .inl (ff 1, 8, .inl (fun _ => 0))), (q3, .inl (ff 1, 8, .inl (fun _ => 0))), (q4, .inl (ff 1, 8, .inl (fun _ => 0))), (q5, .inl (ff 1, 9, .inl (fun _ => 0)))] H := hP
  have hD : va_D A [(a, .inr (3, [.ref q1, .ref q2, .ref q3, .ref q4, .null, .null, .null, .int 0, .int 0])), (q1, .inl (ff 1, 8, .inl (fun _ => 0))), (q2, .inl (ff 1, 8, .inl (fun _ => 0))), (q3, .inl (ff 1, 8, .inl (fun _ => 0))), (q4, .inl (ff 1, 8, .inl (fun _ => 0))), (q5, .inl (ff 1, 9, .inl (fun _ => 0)))] := hD
  refine n_put hx hb hts hown hin hK hP hD hS 0 (ci := 3) (k := 4) (x := 24) (v := .ref q5) (Nat.le_of_ble_eq_true rfl) rfl (Nat.le_of_ble_eq_true rfl) rfl (by decide +kernel) (by rw [nsta_t4]; rfl) (by rw [nsta_t4]; rfl) (Nat.le_of_ble_eq_true rfl) nsta_d41 (fun H locs hP hD hS => ?_)
  have hP : va_P D vwCl [(a, .inr (3, [.ref q1, .ref q2, .ref q3, .ref q4, .ref q5, .null, .null, .int 0, .int 0])), (q1, .inl (ff 1, 8, .inl (fun _ => 0))), (q2, .inl (ff 1, 8, .inl (fun _ => 0))), (q3, .inl (ff 1, 8, .inl (fun _ => 0))), (q4, .inl (ff 1, 8, .inl (fun _ => 0))), (q5, .inl (ff 1, 9, .inl (fun _ => 0)))] H := hP
  have hD : va_D A [(a, .inr (3, [.ref q1, .ref q2, .ref q3, .ref q4, .ref q5, .null, .null, .int 0, .int 0])), (q1, .inl (ff 1, 8, .inl (fun _ => 0))), (q2, .inl (ff 1, 8, .inl (fun _ => 0))), (q3, .inl (ff 1, 8, .inl (fun _ => 0))), (q4, .inl (ff 1, 8, .inl (fun _ => 0))), (q5, .inl (ff 1, 9, .inl (fun _ => 0)))] := hD
  refine lv_aload_n hx hb nsta_d44 rfl l0 ?_
  refine lv_bipush hx hb nsta_d45 (v := (Int32.ofInt ((9 : Nat) : Int))) (by decide) ?_
  refine n_int hx hb hts hK hP hD hS hA 9 (Nat.le_of_ble_eq_true rfl) (Nat.le_of_ble_eq_true rfl) (Nat.le_of_ble_eq_true rfl) nsta_d47 (fun q6 H hP hD hS => ?_)
  have hP : va_P D vwCl [(a, .inr (3, [.ref q1, .ref q2, .ref q3, .ref q4, .ref q5, .null, .null, .int 0, .int 0])), (q1, .inl (ff 1, 8, .inl (fun _ => 0))), (q2, .inl (ff 1, 8, .inl (fun _ => 0))), (q3, .inl (ff 1, 8, .inl (fun _ => 0))), (q4, .inl (ff 1, 8, .inl (fun _ => 0))), (q5, .inl (ff 1, 9, .inl (fun _ => 0))), (q6, .inl (ff 1, 9, .inl (fun _ => 0)))] H := hP
  have hD : va_D A [(a, .inr (3, [.ref q1, .ref q2, .ref q3, .ref q4, .ref q5, .null, .null, .int 0, .int 0])), (q1, .inl (ff 1, 8, .inl (fun _ => 0))), (q2, .inl (ff 1, 8, .inl (fun _ => 0))), (q3, .inl (ff 1, 8, .inl (fun _ => 0))), (q4, .inl (ff 1, 8, .inl (fun _ => 0))), (q5, .inl (ff 1, 9, .inl (fun _ => 0))), (q6, .inl (ff 1, 9, .inl (fun _ => 0)))] := hD
  refine n_put hx hb hts hown hin hK hP hD hS 0 (ci := 3) (k := 5) (x := 27) (v := .ref q6) (Nat.le_of_ble_eq_true rfl) rfl (Nat.le_of_ble_eq_true rfl) rfl (by decide +kernel) (by rw [nsta_t5]; rfl) (by rw [nsta_t5]; rfl) (Nat.le_of_ble_eq_true rfl) nsta_d49 (fun H locs hP hD hS => ?_)
  have hP : va_P D vwCl [(a, .inr (3, [.ref q1, .ref q2, .ref q3, .ref q4, .ref q5, .ref q6, .null, .int 0, .int 0])), (q1, .inl (ff 1, 8, .inl (fun _ => 0))), (q2, .inl (ff 1, 8, .inl (fun _ => 0))), (q3, .inl (ff 1, 8, .inl (fun _ => 0))), (q4, .inl (ff 1, 8, .inl (fun _ => 0))), (q5, .inl (ff 1, 9, .inl (fun _ => 0))), (q6, .inl (ff 1, 9, .inl (fun _ => 0)))] H := hP
  have hD : va_D A [(a, .inr (3, [.ref q1, .ref q2, .ref q3, .ref q4, .ref q5, .ref q6, .null, .int 0, .int 0])), (q1, .inl (ff 1, 8, .inl (fun _ => 0))), (q2, .inl (ff 1, 8, .inl (fun _ => 0))), (q3, .inl (ff 1, 8, .inl (fun _ => 0))), (q4, .inl (ff 1, 8, .inl (fun _ => 0))), (q5, .inl (ff 1, 9, .inl (fun _ => 0))), (q6, .inl (ff 1, 9, .inl (fun _ => 0)))] := hD
  refine lv_aload_n hx hb nsta_d52 rfl l0 ?_
  refine lv_bipush hx hb nsta_d53 (v := (Int32.ofInt ((9 : Nat) : Int))) (by decide) ?_
  refine n_int hx hb hts hK hP hD hS hA 9 (Nat.le_of_ble_eq_true rfl) (Nat.le_of_ble_eq_true rfl) (Nat.le_of_ble_eq_true rfl) nsta_d55 (fun q7 H hP hD hS => ?_)
  have hP : va_P D vwCl [(a, .inr (3, [.ref q1, .ref q2, .ref q3, .ref q4, .ref q5, .ref q6, .null, .int 0, .int 0])), (q1, .inl (ff 1, 8, .inl (fun _ => 0))), (q2, .inl (ff 1, 8, .inl (fun _ => 0))), (q3, .inl (ff 1, 8, .inl (fun _ => 0))), (q4, .inl (ff 1, 8, .inl (fun _ => 0))), (q5, .inl (ff 1, 9, .inl (fun _ => 0))), (q6, .inl (ff 1, 9, .inl (fun _ => 0))), (q7, .inl (ff 1, 9, .inl (fun _ => 0)))] H := hP
  have hD : va_D A [(a, .inr (3, [.ref q1, .ref q2, .ref q3, .ref q4, .ref q5, .ref q6, .null, .int 0, .int 0])), (q1, .inl (ff 1, 8, .inl (fun _ => 0))), (q2, .inl (ff 1, 8, .inl (fun _ => 0))), (q3, .inl (ff 1, 8, .inl (fun _ => 0))), (q4, .inl (ff 1, 8, .inl (fun _ => 0))), (q5, .inl (ff 1, 9, .inl (fun _ => 0))), (q6, .inl (ff 1, 9, .inl (fun _ => 0))), (q7, .inl (ff 1, 9, .inl (fun _ => 0)))] := hD
  refine n_put hx hb hts hown hin hK hP hD hS 0 (ci := 3) (k := 6) (x := 30) (v := .ref q7) (Nat.le_of_ble_eq_true rfl) rfl (Nat.le_of_ble_eq_true rfl) rfl (by decide +kernel) (by rw [nsta_t6]; rfl) (by rw [nsta_t6]; rfl) (Nat.le_of_ble_eq_true rfl) nsta_d57 (fun H locs hP hD hS => ?_)
  have hP : va_P D vwCl [(a, .inr (3, [.ref q1, .ref q2, .ref q3, .ref q4, .ref q5, .ref q6, .ref q7, .int 0, .int 0])), (q1, .inl (ff 1, 8, .inl (fun _ => 0))), (q2, .inl (ff 1, 8, .inl (fun _ => 0))), (q3, .inl (ff 1, 8, .inl (fun _ => 0))), (q4, .inl (ff 1, 8, .inl (fun _ => 0))), (q5, .inl (ff 1, 9, .inl (fun _ => 0))), (q6, .inl (ff 1, 9, .inl (fun _ => 0))), (q7, .inl (ff 1, 9, .inl (fun _ => 0)))] H := hP
  have hD : va_D A [(a, .inr (3, [.ref q1, .ref q2, .ref q3, .ref q4, .ref q5, .ref q6, .ref q7, .int 0, .int 0])), (q1, .inl (ff 1, 8, .inl (fun _ => 0))), (q2, .inl (ff 1, 8, .inl (fun _ => 0))), (q3, .inl (ff 1, 8, .inl (fun _ => 0))), (q4, .inl (ff 1, 8, .inl (fun _ => 0))), (q5, .inl (ff 1, 9, .inl (fun _ => 0))), (q6, .inl (ff 1, 9, .inl (fun _ => 0))), (q7, .inl (ff 1, 9, .inl (fun _ => 0)))] := hD
  exact W.vret hx hb hr (fun t ht hW => ⟨⟨[q1, q2, q3, q4, q5, q6, q7], rfl, rfl, by rw [ht]; exact hP, hD⟩, hS.F ht⟩) hS.2.2 nsta_d60 B.notSynchronized
theorem ntex_d0 : decode prog_7_method_1_code 0 = .ok (.aload_n 0, 1) := by decide +kernel
theorem ntex_d1 : decode prog_7_method_1_code 1 = .ok (.invokespecial 3, 3) := by decide +kernel
theorem ntex_d4 : decode prog_7_method_1_code 4 = .ok (.aload_n 0, 1) := by decide +kernel
theorem ntex_d5 : decode prog_7_method_1_code 5 = .ok (.sipush 240, 3) := by decide +kernel
theorem ntex_d8 : decode prog_7_method_1_code 8 = .ok (.newarray .byte, 2) := by decide +kernel
theorem ntex_d10 : decode prog_7_method_1_code 10 = .ok (.putfield 9, 3) := by decide +kernel
theorem ntex_d13 : decode prog_7_method_1_code 13 = .ok (.return_, 1) := by decide +kernel
theorem ntex_t0 : tyCl 4 0 = .array .byte := by decide +kernel
theorem ntex_ow : Cond.methodLink RX5 3 Lib.objectInit ∈ lw_tbl ∧ Cond.instanceMethod Lib.objectInit ∈ lw_tbl ∧ Cond.code Lib.objectInit ⟨#[0xb1]⟩ 1 none ∈ lw_tbl := by decide +kernel
def texC (ff : Nat → ClassId) (a : Nat) (qs : List Nat) : va_W := [(a, .inr (4, [.ref (qs.getD 0 0), .int 0, .int 0, .int 0, .int 0])), (qs.getD 0 0, .inl (ff 2, 240, .inl (fun _ => 0)))]
set_option maxHeartbeats 1600000 in
theorem n_tex (l : Launch) (D : va_G) (ff : Nat → ClassId) (a n0 : Nat) : Met l ⟨RX5, "<init>", "()V"⟩ (.code ⟨RX5, "<init>", "()V"⟩ prog_7_method_1_code 1 none :: wG) (rmN 1 1 240) (PcN D ff a n0 4 [.null, .int 0, .int 0, .int 0, .int 0]) (QcN D a n0 4 [.null, .int 0, .int 0, .int 0, .int 0] 1 (texC ff a)) 1 240 (va_A [(a, .inr (4, [.null, .int 0, .int 0, .int 0, .int 0]))] n0) := by
  refine Met.ofW (cc := prog_7_method_1_code) (maxL := 1) (ret := none) (by decide) rfl ?_
  intro p e s m args below meth c s₁ B hml hp
  obtain ⟨rfl, hsz, hP, hK, -, -⟩ := hp
  have hx := B.exec
  have hb := B.bytes
  have hr := B.returns
  have hts0 := atoms_spec (ws := .code ⟨RX5, "<init>", "()V"⟩ prog_7_method_1_code 1 none :: wG) B.pre
  have hts : ∀ w ∈ wG, w.before [Value.ref a].toArray s = true := fun w hw => hts0 w (List.mem_cons_of_mem _ hw)
  have hown : s.vm.findClass RX5 = some m.cls := findClass_of_methodNamed B.named
  have hin : meth.name = "<init>" := (name_of_methodNamed B.named B.method).1
  subst hsz
  have hD := D_one (a, .inr (4, [.null, .int 0, .int 0, .int 0, .int 0])) s.heap.size
  unfold QcN
  generalize hAe : va_A [(a, .inr (4, [.null, .int 0, .int 0, .int 0, .int 0]))] s.heap.size = A at hD ⊢
  have hA : ∀ q : Nat, s.heap.size ≤ q → A q := fun q h => by rw [← hAe]; exact Or.inr h
  have hS : va_S A s.heap s.heap [] := va_S.rf
  have hl := lv_entry ([.ref a]) (n := 1) (Nat.le_of_ble_eq_true rfl)
  rw [lg_entry_eq]
  generalize (lg_sl ([.ref a]) ++ List.replicate (1 - (lg_sl ([.ref a])).length) Slot.unset).toArray = ls at hl ⊢
  have hl : lv_has ls 1 [(0, .ref a)] := hl
  have l0 := lv_at hl 0 rfl
  refine lv_aload_n hx hb ntex_d0 rfl l0 ?_
  refine W.objInit hx hb hown (hts _ (wG_of ntex_ow.1 rfl)) (hts _ (wG_of ntex_ow.2.1 rfl)) (hts _ (wG_of ntex_ow.2.2 rfl)) rfl (by rw [hml]; exact hl.1) rfl ntex_d1 (Nat.le_of_ble_eq_true rfl) (Nat.le_of_ble_eq_true rfl) ?_
  refine W.eq (g2 := F0 m 4 ls []) rfl ?_
  refine lv_aload_n hx hb ntex_d4 rfl l0 ?_
  refine lv_sipush hx hb ntex_d5 (v := (Int32.ofInt ((240 : Nat) : Int))) (by decide) ?_
  refine n_byte hx hb hts hK hP hD hS hA 240 (Nat.le_of_ble_eq_true rfl) (Nat.le_of_ble_eq_true rfl) (Nat.le_of_ble_eq_true rfl) ntex_d8 (fun q1 H hP hD hS => ?_)
  have hP : va_P D vwCl [(a, .inr (4, [.null, .int 0, .int 0, .int 0, .int 0])), (q1, .inl (ff 2, 240, .inl (fun _ => 0)))] H := hP
  have hD : va_D A [(a, .inr (4, [.null, .int 0, .int 0, .int 0, .int 0])), (q1, .inl (ff 2, 240, .inl (fun _ => 0)))] := hD
  refine n_put hx hb hts hown hin hK hP hD hS 0 (ci := 4) (k := 0) (x := 9) (v := .ref q1) (Nat.le_of_ble_eq_true rfl) rfl (Nat.le_of_ble_eq_true rfl) rfl (by decide +kernel) (by rw [ntex_t0]; rfl) (by rw [ntex_t0]; rfl) (Nat.le_of_ble_eq_true rfl) ntex_d10 (fun H locs hP hD hS => ?_)
  have hP : va_P D vwCl [(a, .inr (4, [.ref q1, .int 0, .int 0, .int 0, .int 0])), (q1, .inl (ff 2, 240, .inl (fun _ => 0)))] H := hP
  have hD : va_D A [(a, .inr (4, [.ref q1, .int 0, .int 0, .int 0, .int 0])), (q1, .inl (ff 2, 240, .inl (fun _ => 0)))] := hD
  exact W.vret hx hb hr (fun t ht hW => ⟨⟨[q1], rfl, rfl, by rw [ht]; exact hP, hD⟩, hS.F ht⟩) hS.2.2 ntex_d13 B.notSynchronized
theorem ntow_d0 : decode prog_8_method_1_code 0 = .ok (.aload_n 0, 1) := by decide +kernel
theorem ntow_d1 : decode prog_8_method_1_code 1 = .ok (.invokespecial 3, 3) := by decide +kernel
theorem ntow_d4 : decode prog_8_method_1_code 4 = .ok (.aload_n 0, 1) := by decide +kernel
theorem ntow_d5 : decode prog_8_method_1_code 5 = .ok (.bipush 8, 2) := by decide +kernel
theorem ntow_d7 : decode prog_8_method_1_code 7 = .ok (.newarray .int, 2) := by decide +kernel
theorem ntow_d9 : decode prog_8_method_1_code 9 = .ok (.putfield 9, 3) := by decide +kernel
theorem ntow_d12 : decode prog_8_method_1_code 12 = .ok (.aload_n 0, 1) := by decide +kernel
theorem ntow_d13 : decode prog_8_method_1_code 13 = .ok (.bipush 8, 2) := by decide +kernel
theorem ntow_d15 : decode prog_8_method_1_code 15 = .ok (.newarray .int, 2) := by decide +kernel
theorem ntow_d17 : decode prog_8_method_1_code 17 = .ok (.putfield 15, 3) := by decide +kernel
theorem ntow_d20 : decode prog_8_method_1_code 20 = .ok (.aload_n 0, 1) := by decide +kernel
theorem ntow_d21 : decode prog_8_method_1_code 21 = .ok (.bipush 8, 2) := by decide +kernel
theorem ntow_d23 : decode prog_8_method_1_code 23 = .ok (.newarray .int, 2) := by decide +kernel
theorem ntow_d25 : decode prog_8_method_1_code 25 = .ok (.putfield 18, 3) := by decide +kernel
theorem ntow_d28 : decode prog_8_method_1_code 28 = .ok (.aload_n 0, 1) := by decide +kernel
theorem ntow_d29 : decode prog_8_method_1_code 29 = .ok (.bipush 8, 2) := by decide +kernel
theorem ntow_d31 : decode prog_8_method_1_code 31 = .ok (.newarray .int, 2) := by decide +kernel
theorem ntow_d33 : decode prog_8_method_1_code 33 = .ok (.putfield 21, 3) := by decide +kernel
theorem ntow_d36 : decode prog_8_method_1_code 36 = .ok (.aload_n 0, 1) := by decide +kernel
theorem ntow_d37 : decode prog_8_method_1_code 37 = .ok (.bipush 8, 2) := by decide +kernel
theorem ntow_d39 : decode prog_8_method_1_code 39 = .ok (.newarray .int, 2) := by decide +kernel
theorem ntow_d41 : decode prog_8_method_1_code 41 = .ok (.putfield 24, 3) := by decide +kernel
theorem ntow_d44 : decode prog_8_method_1_code 44 = .ok (.aload_n 0, 1) := by decide +kernel
theorem ntow_d45 : decode prog_8_method_1_code 45 = .ok (.bipush 8, 2) := by decide +kernel
theorem ntow_d47 : decode prog_8_method_1_code 47 = .ok (.newarray .int, 2) := by decide +kernel
theorem ntow_d49 : decode prog_8_method_1_code 49 = .ok (.putfield 27, 3) := by decide +kernel
theorem ntow_d52 : decode prog_8_method_1_code 52 = .ok (.aload_n 0, 1) := by decide +kernel
theorem ntow_d53 : decode prog_8_method_1_code 53 = .ok (.bipush 8, 2) := by decide +kernel
theorem ntow_d55 : decode prog_8_method_1_code 55 = .ok (.newarray .int, 2) := by decide +kernel
theorem ntow_d57 : decode prog_8_method_1_code 57 = .ok (.putfield 30, 3) := by decide +kernel
theorem ntow_d60 : decode prog_8_method_1_code 60 = .ok (.aload_n 0, 1) := by decide +kernel
theorem ntow_d61 : decode prog_8_method_1_code 61 = .ok (.iconst 4, 1) := by decide +kernel
theorem ntow_d62 : decode prog_8_method_1_code 62 = .ok (.newarray .int, 2) := by decide +kernel
theorem ntow_d64 : decode prog_8_method_1_code 64 = .ok (.putfield 33, 3) := by decide +kernel
theorem ntow_d67 : decode prog_8_method_1_code 67 = .ok (.aload_n 0, 1) := by decide +kernel
theorem ntow_d68 : decode prog_8_method_1_code 68 = .ok (.iconst 4, 1) := by decide +kernel
theorem ntow_d69 : decode prog_8_method_1_code 69 = .ok (.newarray .int, 2) := by decide +kernel
theorem ntow_d71 : decode prog_8_method_1_code 71 = .ok (.putfield 36, 3) := by decide +kernel
theorem ntow_d74 : decode prog_8_method_1_code 74 = .ok (.aload_n 0, 1) := by decide +kernel
theorem ntow_d75 : decode prog_8_method_1_code 75 = .ok (.iconst 4, 1) := by decide +kernel
theorem ntow_d76 : decode prog_8_method_1_code 76 = .ok (.newarray .int, 2) := by decide +kernel
theorem ntow_d78 : decode prog_8_method_1_code 78 = .ok (.putfield 39, 3) := by decide +kernel
theorem ntow_d81 : decode prog_8_method_1_code 81 = .ok (.aload_n 0, 1) := by decide +kernel
theorem ntow_d82 : decode prog_8_method_1_code 82 = .ok (.iconst 2, 1) := by decide +kernel
theorem ntow_d83 : decode prog_8_method_1_code 83 = .ok (.putfield 42, 3) := by decide +kernel
theorem ntow_d86 : decode prog_8_method_1_code 86 = .ok (.aload_n 0, 1) := by decide +kernel
theorem ntow_d87 : decode prog_8_method_1_code 87 = .ok (.iconst 1, 1) := by decide +kernel
theorem ntow_d88 : decode prog_8_method_1_code 88 = .ok (.putfield 46, 3) := by decide +kernel
theorem ntow_d91 : decode prog_8_method_1_code 91 = .ok (.return_, 1) := by decide +kernel
theorem ntow_t2 : tyCl 5 2 = .array .int := by decide +kernel
theorem ntow_t7 : tyCl 5 7 = .array .int := by decide +kernel
theorem ntow_t3 : tyCl 5 3 = .array .int := by decide +kernel
theorem ntow_t4 : tyCl 5 4 = .array .int := by decide +kernel
theorem ntow_t6 : tyCl 5 6 = .array .int := by decide +kernel
theorem ntow_t9 : tyCl 5 9 = .array .int := by decide +kernel
theorem ntow_t10 : tyCl 5 10 = .array .int := by decide +kernel
theorem ntow_t11 : tyCl 5 11 = .array .int := by decide +kernel
theorem ntow_t1 : tyCl 5 1 = .array .int := by decide +kernel
theorem ntow_t12 : tyCl 5 12 = .int := by decide +kernel
theorem ntow_t5 : tyCl 5 5 = .array .int := by decide +kernel
theorem ntow_t14 : tyCl 5 14 = .int := by decide +kernel
theorem ntow_ow : Cond.methodLink RX6 3 Lib.objectInit ∈ lw_tbl ∧ Cond.instanceMethod Lib.objectInit ∈ lw_tbl ∧ Cond.code Lib.objectInit ⟨#[0xb1]⟩ 1 none ∈ lw_tbl := by decide +kernel
def towC (ff : Nat → ClassId) (a : Nat) (qs : List Nat) : va_W := [(a, .inr (5, [.int 0, .ref (qs.getD 0 0), .ref (qs.getD 1 0), .ref (qs.getD 2 0), .ref (qs.getD 3 0), .ref (qs.getD 4 0), .ref (qs.getD 5 0), .ref (qs.getD 6 0), .int 0, .ref (qs.getD 7 0), .ref (qs.getD 8 0), .ref (qs.getD 9 0), .int (Int32.ofInt (2)), .int 0, .int (Int32.ofInt (1))])), (qs.getD 0 0, .inl (ff 1, 8, .inl (fun _ => 0))), (qs.getD 1 0, .inl (ff 1, 8, .inl (fun _ => 0))), (qs.getD 2 0, .inl (ff 1, 8, .inl (fun _ => 0))), (qs.getD 3 0, .inl (ff 1, 8, .inl (fun _ => 0))), (qs.getD 4 0, .inl (ff 1, 8, .inl (fun _ => 0))), (qs.getD 5 0, .inl (ff 1, 8, .inl (fun _ => 0))), (qs.getD 6 0, .inl (ff 1, 8, .inl (fun _ => 0))), (qs.getD 7 0, .inl (ff 1, 4, .inl (fun _ => 0))), (qs.getD 8 0, .inl (ff 1, 4, .inl (fun _ => 0))), (qs.getD 9 0, .inl (ff 1, 4, .inl (fun _ => 0)))]
set_option maxHeartbeats 1600000 in
theorem n_tow (l : Launch) (D : va_G) (ff : Nat → ClassId) (a n0 : Nat) : Met l ⟨RX6, "<init>", "()V"⟩ (.code ⟨RX6, "<init>", "()V"⟩ prog_8_method_1_code 1 none :: wG) (rmN 1 10 68) (PcN D ff a n0 5 [.int 0, .null, .null, .null, .null, .null, .null, .null, .int 0, .null, .null, .null, .int 0, .int 0, .int 0]) (QcN D a n0 5 [.int 0, .null, .null, .null, .null, .null, .null, .null, .int 0, .null, .null, .null, .int 0, .int 0, .int 0] 10 (towC ff a)) 10 68 (va_A [(a, .inr (5, [.int 0, .null, .null, .null, .null, .null, .null, .null, .int 0, .null, .null, .null, .int 0, .int 0, .int 0]))] n0) := by
  refine Met.ofW (cc := prog_8_method_1_code) (maxL := 1) (ret := none) (by decide) rfl ?_
  intro p e s m args below meth c s₁ B hml hp
  obtain ⟨rfl, hsz, hP, hK, -, -⟩ := hp
  have hx := B.exec
  have hb := B.bytes
  have hr := B.returns
  have hts0 := atoms_spec (ws := .code ⟨RX6, "<init>", "()V"⟩ prog_8_method_1_code 1 none :: wG) B.pre
  have hts : ∀ w ∈ wG, w.before [Value.ref a].toArray s = true := fun w hw => hts0 w (List.mem_cons_of_mem _ hw)
  have hown : s.vm.findClass RX6 = some m.cls := findClass_of_methodNamed B.named
  have hin : meth.name = "<init>" := (name_of_methodNamed B.named B.method).1
  subst hsz
  have hD := D_one (a, .inr (5, [.int 0, .null, .null, .null, .null, .null, .null, .null, .int 0, .null, .null, .null, .int 0, .int 0, .int 0])) s.heap.size
  unfold QcN
  generalize hAe : va_A [(a, .inr (5, [.int 0, .null, .null, .null, .null, .null, .null, .null, .int 0, .null, .null, .null, .int 0, .int 0, .int 0]))] s.heap.size = A at hD ⊢
  have hA : ∀ q : Nat, s.heap.size ≤ q → A q := fun q h => by rw [← hAe]; exact Or.inr h
  have hS : va_S A s.heap s.heap [] := va_S.rf
  have hl := lv_entry ([.ref a]) (n := 1) (Nat.le_of_ble_eq_true rfl)
  rw [lg_entry_eq]
  generalize (lg_sl ([.ref a]) ++ List.replicate (1 - (lg_sl ([.ref a])).length) Slot.unset).toArray = ls at hl ⊢
  have hl : lv_has ls 1 [(0, .ref a)] := hl
  have l0 := lv_at hl 0 rfl
  refine lv_aload_n hx hb ntow_d0 rfl l0 ?_
  refine W.objInit hx hb hown (hts _ (wG_of ntow_ow.1 rfl)) (hts _ (wG_of ntow_ow.2.1 rfl)) (hts _ (wG_of ntow_ow.2.2 rfl)) rfl (by rw [hml]; exact hl.1) rfl ntow_d1 (Nat.le_of_ble_eq_true rfl) (Nat.le_of_ble_eq_true rfl) ?_
  refine W.eq (g2 := F0 m 4 ls []) rfl ?_
  refine lv_aload_n hx hb ntow_d4 rfl l0 ?_
  refine lv_bipush hx hb ntow_d5 (v := (Int32.ofInt ((8 : Nat) : Int))) (by decide) ?_
  refine n_int hx hb hts hK hP hD hS hA 8 (Nat.le_of_ble_eq_true rfl) (Nat.le_of_ble_eq_true rfl) (Nat.le_of_ble_eq_true rfl) ntow_d7 (fun q1 H hP hD hS => ?_)
  have hP : va_P D vwCl [(a, .inr (5, [.int 0, .null, .null, .null, .null, .null, .null, .null, .int 0, .null, .null, .null, .int 0, .int 0, .int 0])), (q1, .inl (ff 1, 8, .inl (fun _ => 0)))] H := hP
  have hD : va_D A [(a, .inr (5, [.int 0, .null, .null, .null, .null, .null, .null, .null, .int 0, .null, .null, .null, .int 0, .int 0, .int 0])), (q1, .inl (ff 1, 8, .inl (fun _ => 0)))] := hD
  refine n_put hx hb hts hown hin hK hP hD hS 0 (ci := 5) (k := 1) (x := 9) (v := .ref q1) (Nat.le_of_ble_eq_true rfl) rfl (Nat.le_of_ble_eq_true rfl) rfl (by decide +kernel) (by rw [ntow_t1]; rfl) (by rw [ntow_t1]; rfl) (Nat.le_of_ble_eq_true rfl) ntow_d9 (fun H locs hP hD hS => ?_)
  have hP : va_P D vwCl [(a, .inr (5, [.int 0, .ref q1, .null, .null, .null, .null, .null, .null, .int 0, .null, .null, .null, .int 0, .int 0, .int 0])), (q1, .inl (ff 1, 8, .inl (fun _ => 0)))] H := hP
  have hD : va_D A [(a, .inr (5, [.int 0, .ref q1, .null, .null, .null, .null, .null, .null, .int 0, .null, .null, .null, .int 0, .int 0, .int 0])), (q1, .inl (ff 1, 8, .inl (fun _ => 0)))] := hD
  refine lv_aload_n hx hb ntow_d12 rfl l0 ?_
  refine lv_bipush hx hb ntow_d13 (v := (Int32.ofInt ((8 : Nat) : Int))) (by decide) ?_
  refine n_int hx hb hts hK hP hD hS hA 8 (Nat.le_of_ble_eq_true rfl) (Nat.le_of_ble_eq_true rfl) (Nat.le_of_ble_eq_true rfl) ntow_d15 (fun q2 H hP hD hS => ?_)
  have hP : va_P D vwCl [(a, .inr (5, [.int 0, .ref q1, .null, .null, .null, .null, .null, .null, .int 0, .null, .null, .null, .int 0, .int 0, .int 0])), (q1, .inl (ff 1, 8, .inl (fun _ => 0))), (q2, .inl (ff 1, 8, .inl (fun _ => 0)))] H := hP
  have hD : va_D A [(a, .inr (5, [.int 0, .ref q1, .null, .null, .null, .null, .null, .null, .int 0, .null, .null, .null, .int 0, .int 0, .int 0])), (q1, .inl (ff 1, 8, .inl (fun _ => 0))), (q2, .inl (ff 1, 8, .inl (fun _ => 0)))] := hD
  refine n_put hx hb hts hown hin hK hP hD hS 0 (ci := 5) (k := 2) (x := 15) (v := .ref q2) (Nat.le_of_ble_eq_true rfl) rfl (Nat.le_of_ble_eq_true rfl) rfl (by decide +kernel) (by rw [ntow_t2]; rfl) (by rw [ntow_t2]; rfl) (Nat.le_of_ble_eq_true rfl) ntow_d17 (fun H locs hP hD hS => ?_)
  have hP : va_P D vwCl [(a, .inr (5, [.int 0, .ref q1, .ref q2, .null, .null, .null, .null, .null, .int 0, .null, .null, .null, .int 0, .int 0, .int 0])), (q1, .inl (ff 1, 8, .inl (fun _ => 0))), (q2, .inl (ff 1, 8, .inl (fun _ => 0)))] H := hP
  have hD : va_D A [(a, .inr (5, [.int 0, .ref q1, .ref q2, .null, .null, .null, .null, .null, .int 0, .null, .null, .null, .int 0, .int 0, .int 0])), (q1, .inl (ff 1, 8, .inl (fun _ => 0))), (q2, .inl (ff 1, 8, .inl (fun _ => 0)))] := hD
  refine lv_aload_n hx hb ntow_d20 rfl l0 ?_
  refine lv_bipush hx hb ntow_d21 (v := (Int32.ofInt ((8 : Nat) : Int))) (by decide) ?_
  refine n_int hx hb hts hK hP hD hS hA 8 (Nat.le_of_ble_eq_true rfl) (Nat.le_of_ble_eq_true rfl) (Nat.le_of_ble_eq_true rfl) ntow_d23 (fun q3 H hP hD hS => ?_)
  have hP : va_P D vwCl [(a, .inr (5, [.int 0, .ref q1, .ref q2, .null, .null, .null, .null, .null, .int 0, .null, .null, .null, .int 0, .int 0, .int 0])), (q1, .inl (ff 1, 8, .inl (fun _ => 0))), (q2, .inl (ff 1, 8, .inl (fun _ => 0))), (q3, .inl (ff 1, 8, .inl (fun _ => 0)))] H := hP
  have hD : va_D A [(a, .inr (5, [.int 0, .ref q1, .ref q2, .null, .null, .null, .null, .null, .int 0, .null, .null, .null, .int 0, .int 0, .int 0])), (q1, .inl (ff 1, 8, .inl (fun _ => 0))), (q2, .inl (ff 1, 8, .inl (fun _ => 0))), (q3, .inl (ff 1, 8, .inl (fun _ => 0)))] := hD
  refine n_put hx hb hts hown hin hK hP hD hS 0 (ci := 5) (k := 3) (x := 18) (v := .ref q3) (Nat.le_of_ble_eq_true rfl) rfl (Nat.le_of_ble_eq_true rfl) rfl (by decide +kernel) (by rw [ntow_t3]; rfl) (by rw [ntow_t3]; rfl) (Nat.le_of_ble_eq_true rfl) ntow_d25 (fun H locs hP hD hS => ?_)
  have hP : va_P D vwCl [(a, .inr (5, [.int 0, .ref q1, .ref q2, .ref q3, .null, .null, .null, .null, .int 0, .null, .null, .null, .int 0, .int 0, .int 0])), (q1, .inl (ff 1, 8, .inl (fun _ => 0))), (q2, .inl (ff 1, 8, .inl (fun _ => 0))), (q3, .inl (ff 1, 8, .inl (fun _ => 0)))] H := hP
  have hD : va_D A [(a, .inr (5, [.int 0, .ref q1, .ref q2, .ref q3, .null, .null, .null, .null, .int 0, .null, .null, .null, .int 0, .int 0, .int 0])), (q1, .inl (ff 1, 8, .inl (fun _ => 0))), (q2, .inl (ff 1, 8, .inl (fun _ => 0))), (q3, .inl (ff 1, 8, .inl (fun _ => 0)))] := hD
  refine lv_aload_n hx hb ntow_d28 rfl l0 ?_
  refine lv_bipush hx hb ntow_d29 (v := (Int32.ofInt ((8 : Nat) : Int))) (by decide) ?_
  refine n_int hx hb hts hK hP hD hS hA 8 (Nat.le_of_ble_eq_true rfl) (Nat.le_of_ble_eq_true rfl) (Nat.le_of_ble_eq_true rfl) ntow_d31 (fun q4 H hP hD hS => ?_)
  have hP : va_P D vwCl [(a, .inr (5, [.int 0, .ref q1, .ref q2, .ref q3, .null, .null, .null, .null, .int 0, .null, .null, .null, .int 0, .int 0, .int 0])), (q1, .inl (ff 1, 8, .inl (fun _ => 0))), (q2, .inl (ff 1, 8, .inl (fun _ => 0))), (q3, .inl (ff 1, 8, .inl (fun _ => 0))), (q4, .inl (ff 1, 8, .inl (fun _ => 0)))] H := hP
  have hD : va_D A [(a, .inr (5, [.int 0, .ref q1, .ref q2, .ref q3, .null, .null, .null, .null, .int 0, .null, .null, .null, .int 0, .int 0, .int 0])), (q1, .inl (ff 1, 8, .inl (fun _ => 0))), (q2, .inl (ff 1, 8, .inl (fun _ => 0))), (q3, .inl (ff 1, 8, .inl (fun _ => 0))), (q4, .inl (ff 1, 8, .inl (fun _ => 0)))] := hD
  refine n_put hx hb hts hown hin hK hP hD hS 0 (ci := 5) (k := 4) (x := 21) (v := .ref q4) (Nat.le_of_ble_eq_true rfl) rfl (Nat.le_of_ble_eq_true rfl) rfl (by decide +kernel) (by rw [ntow_t4]; rfl) (by rw [ntow_t4]; rfl) (Nat.le_of_ble_eq_true rfl) ntow_d33 (fun H locs hP hD hS => ?_)
  have hP : va_P D vwCl [(a, .inr (5, [.int 0, .ref q1, .ref q2, .ref q3, .ref q4, .null, .null, .null, .int 0, .null, .null, .null, .int 0, .int 0, .int 0])), (q1, .inl (ff 1, 8, .inl (fun _ => 0))), (q2, .inl (ff 1, 8, .inl (fun _ => 0))), (q3, .inl (ff 1, 8, .inl (fun _ => 0))), (q4, .inl (ff 1, 8, .inl (fun _ => 0)))] H := hP
  have hD : va_D A [(a, .inr (5, [.int 0, .ref q1, .ref q2, .ref q3, .ref q4, .null, .null, .null, .int 0, .null, .null, .null, .int 0, .int 0, .int 0])), (q1, .inl (ff 1, 8, .inl (fun _ => 0))), (q2, .inl (ff 1, 8, .inl (fun _ => 0))), (q3, .inl (ff 1, 8, .inl (fun _ => 0))), (q4, .inl (ff 1, 8, .inl (fun _ => 0)))] := hD
  refine lv_aload_n hx hb ntow_d36 rfl l0 ?_
  refine lv_bipush hx hb ntow_d37 (v := (Int32.ofInt ((8 : Nat) : Int))) (by decide) ?_
  refine n_int hx hb hts hK hP hD hS hA 8 (Nat.le_of_ble_eq_true rfl) (Nat.le_of_ble_eq_true rfl) (Nat.le_of_ble_eq_true rfl) ntow_d39 (fun q5 H hP hD hS => ?_)
  have hP : va_P D vwCl [(a, .inr (5, [.int 0, .ref q1, .ref q2, .ref q3, .ref q4, .null, .null, .null, .int 0, .null, .null, .null, .int 0, .int 0, .int 0])), (q1, .inl (ff 1, 8, .inl (fun _ => 0))), (q2, .inl (ff 1, 8, .inl (fun _ => 0))), (q3, .inl (ff 1, 8, .inl (fun _ => 0))), (q4, .inl (ff 1, 8, .inl (fun _ => 0))), (q5, .inl (ff 1, 8, .inl (fun _ => 0)))] H := hP
  have hD : va_D A [(a, .inr (5, [.int 0, .ref q1, .ref q2, .ref q3, .ref q4, .null, .null, .null, .int 0, .null, .null, .null, .int 0, .int 0, .int 0])), (q1, .inl (ff 1, 8, .inl (fun _ => 0))), (q2, .inl (ff 1, 8, .inl (fun _ => 0))), (q3, .inl (ff 1, 8, .inl (fun _ => 0))), (q4, .inl (ff 1, 8, .inl (fun _ => 0))), (q5, .inl (ff 1, 8, .inl (fun _ => 0)))] := hD
  refine n_put hx hb hts hown hin hK hP hD hS 0 (ci := 5) (k := 5) (x := 24) (v := .ref q5) (Nat.le_of_ble_eq_true rfl) rfl (Nat.le_of_ble_eq_true rfl) rfl (by decide +kernel) (by rw [ntow_t5]; rfl) (by rw [ntow_t5]; rfl) (Nat.le_of_ble_eq_true rfl) ntow_d41 (fun H locs hP hD hS => ?_)
  have hP : va_P D vwCl [(a, .inr (5, [.int 0, .ref q1, .ref q2, .ref q3, .ref q4, .ref q5, .null, .null, .int 0, .null, .null, .null, .int 0, .int 0, .int 0])), (q1, .inl (ff 1, 8, .inl (fun _ => 0))), (q2, .inl (ff 1, 8, .inl (fun _ => 0))), (q3, .inl (ff 1, 8, .inl (fun _ => 0))), (q4, .inl (ff 1, 8, .inl (fun _ => 0))), (q5, .inl (ff 1, 8, .inl (fun _ => 0)))] H := hP
  have hD : va_D A [(a, .inr (5, [.int 0, .ref q1, .ref q2, .ref q3, .ref q4, .ref q5, .null, .null, .int 0, .null, .null, .null, .int 0, .int 0, .int 0])), (q1, .inl (ff 1, 8, .inl (fun _ => 0))), (q2, .inl (ff 1, 8, .inl (fun _ => 0))), (q3, .inl (ff 1, 8, .inl (fun _ => 0))), (q4, .inl (ff 1, 8, .inl (fun _ => 0))), (q5, .inl (ff 1, 8, .inl (fun _ => 0)))] := hD
  refine lv_aload_n hx hb ntow_d44 rfl l0 ?_
  refine lv_bipush hx hb ntow_d45 (v := (Int32.ofInt ((8 : Nat) : Int))) (by decide) ?_
  refine n_int hx hb hts hK hP hD hS hA 8 (Nat.le_of_ble_eq_true rfl) (Nat.le_of_ble_eq_true rfl) (Nat.le_of_ble_eq_true rfl) ntow_d47 (fun q6 H hP hD hS => ?_)
  have hP : va_P D vwCl [(a, .inr (5, [.int 0, .ref q1, .ref q2, .ref q3, .ref q4, .ref q5, .null, .null, .int 0, .null, .null, .null, .int 0, .int 0, .int 0])), (q1, .inl (ff 1, 8, .inl (fun _ => 0))), (q2, .inl (ff 1, 8, .inl (fun _ => 0))), (q3, .inl (ff 1, 8, .inl (fun _ => 0))), (q4, .inl (ff 1, 8, .inl (fun _ => 0))), (q5, .inl (ff 1, 8, .inl (fun _ => 0))), (q6, .inl (ff 1, 8, .inl (fun _ => 0)))] H := hP
  have hD : va_D A [(a, .inr (5, [.int 0, .ref q1, .ref q2, .ref q3, .ref q4, .ref q5, .null, .null, .int 0, .null, .null, .null, .int 0, .int 0, .int 0])), (q1, .inl (ff 1, 8, .inl (fun _ => 0))), (q2, .inl (ff 1, 8, .inl (fun _ => 0))), (q3, .inl (ff 1, 8, .inl (fun _ => 0))), (q4, .inl (ff 1, 8, .inl (fun _ => 0))), (q5, .inl (ff 1, 8, .inl (fun _ => 0))), (q6, .inl (ff 1, 8, .inl (fun _ => 0)))] := hD
  refine n_put hx hb hts hown hin hK hP hD hS 0 (ci := 5) (k := 6) (x := 27) (v := .ref q6) (Nat.le_of_ble_eq_true rfl) rfl (Nat.le_of_ble_eq_true rfl) rfl (by decide +kernel) (by rw [ntow_t6]; rfl) (by rw [ntow_t6]; rfl) (Nat.le_of_ble_eq_true rfl) ntow_d49 (fun H locs hP hD hS => ?_)
  have hP : va_P D vwCl [(a, .inr (5, [.int 0, .ref q1, .ref q2, .ref q3, .ref q4, .ref q5, .ref q6, .null, .int 0, .null, .null, .null, .int 0, .int 0, .int 0])), (q1, .inl (ff 1, 8, .inl (fun _ => 0))), (q2, .inl (ff 1, 8, .inl (fun _ => 0))), (q3, .inl (ff 1, 8, .inl (fun _ => 0))), (q4, .inl (ff 1, 8, .inl (fun _ => 0))), (q5, .inl (ff 1, 8, .inl (fun _ => 0))), (q6, .inl (ff 1, 8, .inl (fun _ => 0)))] H := hP
  have hD : va_D A [(a, .inr (5, [.int 0, .ref q1, .ref q2, .ref q3, .ref q4, .ref q5, .ref q6, .null, .int 0, .null, .null, .null, .int 0, .int 0, .int 0])), (q1, .inl (ff 1, 8, .inl (fun _ => 0))), (q2, .inl (ff 1, 8, .inl (fun _ => 0))), (q3, .inl (ff 1, 8, .inl (fun _ => 0))), (q4, .inl (ff 1, 8, .inl (fun _ => 0))), (q5, .inl (ff 1, 8, .inl (fun _ => 0))), (q6, .inl (ff 1, 8, .inl (fun _ => 0)))] := hD
  refine lv_aload_n hx hb ntow_d52 rfl l0 ?_
  refine lv_bipush hx hb ntow_d53 (v := (Int32.ofInt ((8 : Nat) : Int))) (by decide) ?_
  refine n_int hx hb hts hK hP hD hS hA 8 (Nat.le_of_ble_eq_true rfl) (Nat.le_of_ble_eq_true rfl) (Nat.le_of_ble_eq_true rfl) ntow_d55 (fun q7 H hP hD hS => ?_)
  have hP : va_P D vwCl [(a, .inr (5, [.int 0, .ref q1, .ref q2, .ref q3, .ref q4, .ref q5, .ref q6, .null, .int 0, .null, .null, .null, .int 0, .int 0, .int 0])), (q1, .inl (ff 1, 8, .inl (fun _ => 0))), (q2, .inl (ff 1, 8, .inl (fun _ => 0))), (q3, .inl (ff 1, 8, .inl (fun _ => 0))), (q4, .inl (ff 1, 8, .inl (fun _ => 0))), (q5, .inl (ff 1, 8, .inl (fun _ => 0))), (q6, .inl (ff 1, 8, .inl (fun _ => 0))), (q7, .inl (ff 1, 8, .inl (fun _ => 0)))] H := hP
  have hD : va_D A [(a, .inr (5, [.int 0, .ref q1, .ref q2, .ref q3, .ref q4, .ref q5, .ref q6, .null, .int 0, .null, .null, .null, .int 0, .int 0, .int 0])), (q1, .inl (ff 1, 8, .inl (fun _ => 0))), (q2, .inl (ff 1, 8, .inl (fun _ => 0))), (q3, .inl (ff 1, 8, .inl (fun _ => 0))), (q4, .inl (ff 1, 8, .inl (fun _ => 0))), (q5, .inl (ff 1, 8, .inl (fun _ => 0))), (q6, .inl (ff 1, 8, .inl (fun _ => 0))), (q7, .inl (ff 1, 8, .inl (fun _ => 0)))] := hD
  refine n_put hx hb hts hown hin hK hP hD hS 0 (ci := 5) (k := 7) (x := 30) (v := .ref q7) (Nat.le_of_ble_eq_true rfl) rfl (Nat.le_of_ble_eq_true rfl) rfl (by decide +kernel) (by rw [ntow_t7]; rfl) (by rw [ntow_t7]; rfl) (Nat.le_of_ble_eq_true rfl) ntow_d57 (fun H locs hP hD hS => ?_)
  have hP : va_P D vwCl [(a, .inr (5, [.int 0, .ref q1, .ref q2, .ref q3, .ref q4, .ref q5, .ref q6, .ref q7, .int 0, .null, .null, .null, .int 0, .int 0, .int 0])), (q1, .inl (ff 1, 8, .inl (fun _ => 0))), (q2, .inl (ff 1, 8, .inl (fun _ => 0))), (q3, .inl (ff 1, 8, .inl (fun _ => 0))), (q4, .inl (ff 1, 8, .inl (fun _ => 0))), (q5, .inl (ff 1, 8, .inl (fun _ => 0))), (q6, .inl (ff 1, 8, .inl (fun _ => 0))), (q7, .inl (ff 1, 8, .inl (fun _ => 0)))] H := hP
  have hD : va_D A [(a, .inr (5, [.int 0, .ref q1, .ref q2, .ref q3, .ref q4, .ref q5, .ref q6, .ref q7, .int 0, .null, .null, .null, .int 0, .int 0, .int 0])), (q1, .inl (ff 1, 8, .inl (fun _ => 0))), (q2, .inl (ff 1, 8, .inl (fun _ => 0))), (q3, .inl (ff 1, 8, .inl (fun _ => 0))), (q4, .inl (ff 1, 8, .inl (fun _ => 0))), (q5, .inl (ff 1, 8, .inl (fun _ => 0))), (q6, .inl (ff 1, 8, .inl (fun _ => 0))), (q7, .inl (ff 1, 8, .inl (fun _ => 0)))] := hD
  refine lv_aload_n hx hb ntow_d60 rfl l0 ?_
  refine lv_iconst hx hb ntow_d61 (v := (Int32.ofInt ((4 : Nat) : Int))) (by decide) ?_
  refine n_int hx hb hts hK hP hD hS hA 4 (Nat.le_of_ble_eq_true rfl) (Nat.le_of_ble_eq_true rfl) (Nat.le_of_ble_eq_true rfl) ntow_d62 (fun q8 H hP hD hS => ?_)
  have hP : va_P D vwCl [(a, .inr (5, [.int 0, .ref q1, .ref q2, .ref q3, .ref q4, .ref q5, .ref q6, .ref q7, .int 0, .null, .null, .null, .int 0, .int 0, .int 0])), (q1, .inl (ff 1, 8, .inl (fun _ => 0))), (q2, .inl (ff 1, 8, .inl (fun _ => 0))), (q3, .inl (ff 1, 8, .inl (fun _ => 0))), (q4, .inl (ff 1, 8, .inl (fun _ => 0))), (q5, .inl (ff 1, 8, .inl (fun _ => 0))), (q6, .inl (ff 1, 8, .inl (fun _ => 0))), (q7, .inl (ff 1, 8, .inl (fun _ => 0))), (q8, .inl (ff 1, 4, .inl (fun _ => 0)))] H := hP
  have hD : va_D A [(a, .inr (5, [.int 0, .ref q1, .ref q2, .ref q3, .ref q4, .ref q5, .ref q6, .ref q7, .int 0, .null, .null, .null, .int 0, .int 0, .int 0])), (q1, .inl (ff 1, 8, .inl (fun _ => 0))), (q2, .inl (ff 1, 8, .inl (fun _ => 0))), (q3, .inl (ff 1, 8, .inl (fun _ => 0))), (q4, .inl (ff 1, 8, .inl (fun _ => 0))), (q5, .inl (ff 1, 8, .inl (fun _ => 0))), (q6, .inl (ff 1, 8, .inl (fun _ => 0))), (q7, .inl (ff 1, 8, .inl (fun _ => 0))), (q8, .inl (ff 1, 4, .inl (fun _ => 0)))] := hD
  refine n_put hx hb hts hown hin hK hP hD hS 0 (ci := 5) (k := 9) (x := 33) (v := .ref q8) (Nat.le_of_ble_eq_true rfl) rfl (Nat.le_of_ble_eq_true rfl) rfl (by decide +kernel) (by rw [ntow_t9]; rfl) (by rw [ntow_t9]; rfl) (Nat.le_of_ble_eq_true rfl) ntow_d64 (fun H locs hP hD hS => ?_)
  have hP : va_P D vwCl [(a, .inr (5, [.int 0, .ref q1, .ref q2, .ref q3, .ref q4, .ref q5, .ref q6, .ref q7, .int 0, .ref q8, .null, .null, .int 0, .int 0, .int 0])), (q1, .inl (ff 1, 8, .inl (fun _ => 0))), (q2, .inl (ff 1, 8, .inl (fun _ => 0))), (q3, .inl (ff 1, 8, .inl (fun _ => 0))), (q4, .inl (ff 1, 8, .inl (fun _ => 0))), (q5, .inl (ff 1, 8, .inl (fun _ => 0))), (q6, .inl (ff 1, 8, .inl (fun _ => 0))), (q7, .inl (ff 1, 8, .inl (fun _ => 0))), (q8, .inl (ff 1, 4, .inl (fun _ => 0)))] H := hP
  have hD : va_D A [(a, .inr (5, [.int 0, .ref q1, .ref q2, .ref q3, .ref q4, .ref q5, .ref q6, .ref q7, .int 0, .ref q8, .null, .null, .int 0, .int 0, .int 0])), (q1, .inl (ff 1, 8, .inl (fun _ => 0))), (q2, .inl (ff 1, 8, .inl (fun _ => 0))), (q3, .inl (ff 1, 8, .inl (fun _ => 0))), (q4, .inl (ff 1, 8, .inl (fun _ => 0))), (q5, .inl (ff 1, 8, .inl (fun _ => 0))), (q6, .inl (ff 1, 8, .inl (fun _ => 0))), (q7, .inl (ff 1, 8, .inl (fun _ => 0))), (q8, .inl (ff 1, 4, .inl (fun _ => 0)))] := hD
  refine lv_aload_n hx hb ntow_d67 rfl l0 ?_
  refine lv_iconst hx hb ntow_d68 (v := (Int32.ofInt ((4 : Nat) : Int))) (by decide) ?_
  refine n_int hx hb hts hK hP hD hS hA 4 (Nat.le_of_ble_eq_true rfl) (Nat.le_of_ble_eq_true rfl) (Nat.le_of_ble_eq_true rfl) ntow_d69 (fun q9 H hP hD hS => ?_)
  have hP : va_P D vwCl [(a, .inr (5, [.int 0, .ref q1, .ref q2, .ref q3, .ref q4, .ref q5, .ref q6, .ref q7, .int 0, .ref q8, .null, .null, .int 0, .int 0, .int 0])), (q1, .inl (ff 1, 8, .inl (fun _ => 0))), (q2, .inl (ff 1, 8, .inl (fun _ => 0))), (q3, .inl (ff 1, 8, .inl (fun _ => 0))), (q4, .inl (ff 1, 8, .inl (fun _ => 0))), (q5, .inl (ff 1, 8, .inl (fun _ => 0))), (q6, .inl (ff 1, 8, .inl (fun _ => 0))), (q7, .inl (ff 1, 8, .inl (fun _ => 0))), (q8, .inl (ff 1, 4, .inl (fun _ => 0))), (q9, .inl (ff 1, 4, .inl (fun _ => 0)))] H := hP
  have hD : va_D A [(a, .inr (5, [.int 0, .ref q1, .ref q2, .ref q3, .ref q4, .ref q5, .ref q6, .ref q7, .int 0, .ref q8, .null, .null, .int 0, .int 0, .int 0])), (q1, .inl (ff 1, 8, .inl (fun _ => 0))), (q2, .inl (ff 1, 8, .inl (fun _ => 0))), (q3, .inl (ff 1, 8, .inl (fun _ => 0))), (q4, .inl (ff 1, 8, .inl (fun _ => 0))), (q5, .inl (ff 1, 8, .inl (fun _ => 0))), (q6, .inl (ff 1, 8, .inl (fun _ => 0))), (q7, .inl (ff 1, 8, .inl (fun _ => 0))), (q8, .inl (ff 1, 4, .inl (fun _ => 0))), (q9, .inl (ff 1, 4, .inl (fun _ => 0)))] := hD
  refine n_put hx hb hts hown hin hK hP hD hS 0 (ci := 5) (k := 10) (x := 36) (v := .ref q9) (Nat.le_of_ble_eq_true rfl) rfl (Nat.le_of_ble_eq_true rfl) rfl (by decide +kernel) (by rw [ntow_t10]; rfl) (by rw [ntow_t10]; rfl) (Nat.le_of_ble_eq_true rfl) ntow_d71 (fun H locs hP hD hS => ?_)
  have hP : va_P D vwCl [(a, .inr (5, [.int 0, .ref q1, .ref q2, .ref q3, .ref q4, .ref q5, .ref q6, .ref q7, .int 0, .ref q8, .ref q9, .null, .int 0, .int 0, .int 0])), (q1, .inl (ff 1, 8, .inl (fun _ => 0))), (q2, .inl (ff 1, 8, .inl (fun _ => 0))), (q3, .inl (ff 1, 8, .inl (fun _ => 0))), (q4, .inl (ff 1, 8, .inl (fun _ => 0))), (q5, .inl (ff 1, 8, .inl (fun _ => 0))), (q6, .inl (ff 1, 8, .inl (fun _ => 0))), (q7, .inl (ff 1, 8, .inl (fun _ => 0))), (q8, .inl (ff 1, 4, .inl (fun _ => 0))), (q9, .inl (ff 1, 4, .inl (fun _ => 0)))] H := hP
  have hD : va_D A [(a, .inr (5, [.int 0, .ref q1, .ref q2, .ref q3, .ref q4, .ref q5, .ref q6, .ref q7, .int 0, .ref q8, .ref q9, .null, .int 0, .int 0, .int 0])), (q1, .inl (ff 1, 8, .inl (fun _ => 0))), (q2, .inl (ff 1, 8, .inl (fun _ => 0))), (q3, .inl (ff 1, 8, .inl (fun _ => 0))), (q4, .inl (ff 1, 8, .inl (fun _ => 0))), (q5, .inl (ff 1, 8, .inl (fun _ => 0))), (q6, .inl (ff 1, 8, .inl (fun _ => 0))), (q7, .inl (ff 1, 8, .inl (fun _ => 0))), (q8, .inl (ff 1, 4, .inl (fun _ => 0))), (q9, .inl (ff 1, 4, .inl (fun _ => 0)))] := hD
  refine lv_aload_n hx hb ntow_d74 rfl l0 ?_
  refine lv_iconst hx hb ntow_d75 (v := (Int32.ofInt ((4 : Nat) : Int))) (by decide) ?_
  refine n_int hx hb hts hK hP hD hS hA 4 (Nat.le_of_ble_eq_true rfl) (Nat.le_of_ble_eq_true rfl) (Nat.le_of_ble_eq_true rfl) ntow_d76 (fun q10 H hP hD hS => ?_)
  have hP : va_P D vwCl [(a, .inr (5, [.int 0, .ref q1, .ref q2, .ref q3, .ref q4, .ref q5, .ref q6, .ref q7, .int 0, .ref q8, .ref q9, .null, .int 0, .int 0, .int 0])), (q1, .inl (ff 1, 8, .inl (fun _ => 0))), (q2, .inl (ff 1, 8, .inl (fun _ => 0))), (q3, .inl (ff 1, 8, .inl (fun _ => 0))), (q4, .inl (ff 1, 8, .inl (fun _ => 0))), (q5, .inl (ff 1, 8, .inl (fun _ => 0))), (q6, .inl (ff 1, 8, .inl (fun _ => 0))), (q7, .inl (ff 1, 8, .inl (fun _ => 0))), (q8, .inl (ff 1, 4, .inl (fun _ => 0))), (q9, .inl (ff 1, 4, .inl (fun _ => 0))), (q10, .inl (ff 1, 4, .inl (fun _ => 0)))] H := hP
  have hD : va_D A [(a, .inr (5, [.int 0, .ref q1, .ref q2, .ref q3, .ref q4, .ref q5, .ref q6, .ref q7, .int 0, .ref q8, .ref q9, .null, .int 0, .int 0, .int 0])), (q1, .inl (ff 1, 8, .inl (fun _ => 0))), (q2, .inl (ff 1, 8, .inl (fun _ => 0))), (q3, .inl (ff 1, 8, .inl (fun _ => 0))), (q4, .inl (ff 1, 8, .inl (fun _ => 0))), (q5, .inl (ff 1, 8, .inl (fun _ => 0))), (q6, .inl (ff 1, 8, .inl (fun _ => 0))), (q7, .inl (ff 1, 8, .inl (fun _ => 0))), (q8, .inl (ff 1, 4, .inl (fun _ => 0))), (q9, .inl (ff 1, 4, .inl (fun _ => 0))), (q10, .inl (ff 1, 4, .inl (fun _ => 0)))] := hD
  refine n_put hx hb hts hown hin hK hP hD hS 0 (ci := 5) (k := 11) (x := 39) (v := .ref q10) (Nat.le_of_ble_eq_true rfl) rfl (Nat.le_of_ble_eq_true rfl) rfl (by decide +kernel) (by rw [ntow_t11]; rfl) (by rw [ntow_t11]; rfl) (Nat.le_of_ble_eq_true rfl) ntow_d78 (fun H locs hP hD hS => ?_)
  have hP : va_P D vwCl [(a, .inr (5, [.int 0, .ref q1, .ref q2, .ref q3, .ref q4, .ref q5, .ref q6, .ref q7, .int 0, .ref q8, .ref q9, .ref q10, .int 0, .int 0, .int 0])), (q1, .inl (ff 1, 8, .inl (fun _ => 0))), (q2, .inl (ff 1, 8, .inl (fun _ => 0))), (q3, .inl (ff 1, 8, .inl (fun _ => 0))), (q4, .inl (ff 1, 8, .inl (fun _ => 0))), (q5, .inl (ff 1, 8, .inl (fun _ => 0))), (q6, .inl (ff 1, 8, .inl (fun _ => 0))), (q7, .inl (ff 1, 8, .inl (fun _ => 0))), (q8, .inl (ff 1, 4, .inl (fun _ => 0))), (q9, .inl (ff 1, 4, .inl (fun _ => 0))), (q10, .inl (ff 1, 4, .inl (fun _ => 0)))] H := hP
  have hD : va_D A [(a, .inr (5, [.int 0, .ref q1, .ref q2, .ref q3, .ref q4, .ref q5, .ref q6, .ref q7, .int 0, .ref q8, .ref q9, .ref q10, .int 0, .int 0, .int 0])), (q1, .inl (ff 1, 8, .inl (fun _ => 0))), (q2, .inl (ff 1, 8, .inl (fun _ => 0))), (q3, .inl (ff 1, 8, .inl (fun _ => 0))), (q4, .inl (ff 1, 8, .inl (fun _ => 0))), (q5, .inl (ff 1, 8, .inl (fun _ => 0))), (q6, .inl (ff 1, 8, .inl (fun _ => 0))), (q7, .inl (ff 1, 8, .inl (fun _ => 0))), (q8, .inl (ff 1, 4, .inl (fun _ => 0))), (q9, .inl (ff 1, 4, .inl (fun _ => 0))), (q10, .inl (ff 1, 4, .inl (fun _ => 0)))] := hD
  refine lv_aload_n hx hb ntow_d81 rfl l0 ?_
  refine lv_iconst hx hb ntow_d82 (v := (Int32.ofInt (2))) (by decide) ?_
  refine n_put hx hb hts hown hin hK hP hD hS 0 (ci := 5) (k := 12) (x := 42) (v := .int (Int32.ofInt (2))) (Nat.le_of_ble_eq_true rfl) rfl (Nat.le_of_ble_eq_true rfl) rfl (by decide +kernel) (by rw [ntow_t12]; rfl) (by rw [ntow_t12]; rfl) (Nat.le_of_ble_eq_true rfl) ntow_d83 (fun H locs hP hD hS => ?_)
  have hP : va_P D vwCl [(a, .inr (5, [.int 0, .ref q1, .ref q2, .ref q3, .ref q4, .ref q5, .ref q6, .ref q7, .int 0, .ref q8, .ref q9, .ref q10, .int (Int32.ofInt (2)), .int 0, .int 0])), (q1, .inl (ff 1, 8, .inl (fun _ => 0))), (q2, .inl (ff 1, 8, .inl (fun _ => 0))), (q3, .inl (ff 1, 8, .inl (fun _ => 0))), (q4, .inl (ff 1, 8, .inl (fun _ => 0))), (q5, .inl (ff 1, 8, .inl (fun _ => 0))), (q6, .inl (ff 1, 8, .inl (fun _ => 0))), (q7, .inl (ff 1, 8, .inl (fun _ => 0))), (q8, .inl (ff 1, 4, .inl (fun _ => 0))), (q9, .inl (ff 1, 4, .inl (fun _ => 0))), (q10, .inl (ff 1, 4, .inl (fun _ => 0)))] H := hP
  have hD : va_D A [(a, .inr (5, [.int 0, .ref q1, .ref q2, .ref q3, .ref q4, .ref q5, .ref q6, .ref q7, .int 0, .ref q8, .ref q9, .ref q10, .int (Int32.ofInt (2)), .int 0, .int 0])), (q1, .inl (ff 1, 8, .inl (fun _ => 0))), (q2, .inl (ff 1, 8, .inl (fun _ => 0))), (q3, .inl (ff 1, 8, .inl (fun _ => 0))), (q4, .inl (ff 1, 8, .inl (fun _ => 0))), (q5, .inl (ff 1, 8, .inl (fun _ => 0))), (q6, .inl (ff 1, 8, .inl (fun _ => 0))), (q7, .inl (ff 1, 8, .inl (fun _ => 0))), (q8, .inl (ff 1, 4, .inl (fun _ => 0))), (q9, .inl (ff 1, 4, .inl (fun _ => 0))), (q10, .inl (ff 1, 4, .inl (fun _ => 0)))] := hD
  refine lv_aload_n hx hb ntow_d86 rfl l0 ?_
  refine lv_iconst hx hb ntow_d87 (v := (Int32.ofInt (1))) (by decide) ?_
  refine n_put hx hb hts hown hin hK hP hD hS 0 (ci := 5) (k := 14) (x := 46) (v := .int (Int32.ofInt (1))) (Nat.le_of_ble_eq_true rfl) rfl (Nat.le_of_ble_eq_true rfl) rfl (by decide +kernel) (by rw [ntow_t14]; rfl) (by rw [ntow_t14]; rfl) (Nat.le_of_ble_eq_true rfl) ntow_d88 (fun H locs hP hD hS => ?_)
  have hP : va_P D vwCl [(a, .inr (5, [.int 0, .ref q1, .ref q2, .ref q3, .ref q4, .ref q5, .ref q6, .ref q7, .int 0, .ref q8, .ref q9, .ref q10, .int (Int32.ofInt (2)), .int 0, .int (Int32.ofInt (1))])), (q1, .inl (ff 1, 8, .inl (fun _ => 0))), (q2, .inl (ff 1, 8, .inl (fun _ => 0))), (q3, .inl (ff 1, 8, .inl (fun _ => 0))), (q4, .inl (ff 1, 8, .inl (fun _ => 0))), (q5, .inl (ff 1, 8, .inl (fun _ => 0))), (q6, .inl (ff 1, 8, .inl (fun _ => 0))), (q7, .inl (ff 1, 8, .inl (fun _ => 0))), (q8, .inl (ff 1, 4, .inl (fun _ => 0))), (q9, .inl (ff 1, 4, .inl (fun _ => 0))), (q10, .inl (ff 1, 4, .inl (fun _ => 0)))] H := hP
  have hD : va_D A [(a, .inr (5, [.int 0, .ref q1, .ref q2, .ref q3, .ref q4, .ref q5, .ref q6, .ref q7, .int 0, .ref q8, .ref q9, .ref q10, .int (Int32.ofInt (2)), .int 0, .int (Int32.ofInt (1))])), (q1, .inl (ff 1, 8, .inl (fun _ => 0))), (q2, .inl (ff 1, 8, .inl (fun _ => 0))), (q3, .inl (ff 1, 8, .inl (fun _ => 0))), (q4, .inl (ff 1, 8, .inl (fun _ => 0))), (q5, .inl (ff 1, 8, .inl (fun _ => 0))), (q6, .inl (ff 1, 8, .inl (fun _ => 0))), (q7, .inl (ff 1, 8, .inl (fun _ => 0))), (q8, .inl (ff 1, 4, .inl (fun _ => 0))), (q9, .inl (ff 1, 4, .inl (fun _ => 0))), (q10, .inl (ff 1, 4, .inl (fun _ => 0)))] := hD
  exact W.vret hx hb hr (fun t ht hW => ⟨⟨[q1, q2, q3, q4, q5, q6, q7, q8, q9, q10], rfl, rfl, by rw [ht]; exact hP, hD⟩, hS.F ht⟩) hS.2.2 ntow_d91 B.notSynchronized
end L4LEAF
