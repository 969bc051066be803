section L4ONE2
variable {p : Program} {l : Launch} {e : Env} {R : Room} {s : State} {m : MethodId} {args : Array Value} {below : List Frame} {meth : Method} {c : Code} {H H0 : Heap} {locs : List Loc} {cells slots : Nat} {Q : State → Prop} {cc : ByteArray} {pc : Nat} {ls : Array Slot} {D : va_G} {A : Nat → Prop} {a : Nat} {ff : Nat → ClassId} {ws : va_W} {rest : List Value} {own : String}
set_option maxHeartbeats 4000000 in
theorem n_one (l : Launch) (D : va_G) (ff : Nat → ClassId) (a n0 : Nat) : Met l ⟨RX7, "<init>", "()V"⟩ (.code ⟨RX7, "<init>", "()V"⟩ prog_1_method_1_code 2 none :: wG) (rmN 2 81 877) (PcN D ff a n0 6 [.null, .null, .null, .int 0, .null, .null, .null, .null, .int 0, .null, .null, .null]) (va_Qv (S := List Nat) (fun ad => ad.getD 0 0 = a) (fun ad t => va_P D vwCl ((List.range 82).map (fun k => (ad.getD k 0, cellG (D, fun k => ad.getD k 0, ff) hI k))) t.heap ∧ va_D (va_A [(a, .inr (6, [.null, .null, .null, .int 0, .null, .null, .null, .null, .int 0, .null, .null, .null]))] n0) ((List.range 82).map (fun k => (ad.getD k 0, cellG (D, fun k => ad.getD k 0, ff) hI k)))) (va_A [(a, .inr (6, [.null, .null, .null, .int 0, .null, .null, .null, .null, .int 0, .null, .null, .null]))] n0)) 81 877 (va_A [(a, .inr (6, [.null, .null, .null, .int 0, .null, .null, .null, .null, .int 0, .null, .null, .null]))] n0) := by
  refine Met.ofW (cc := prog_1_method_1_code) (maxL := 2) (ret := none) (by decide) rfl ?_
  intro p e s m args below meth c s₁ B hml hp
  obtain ⟨rfl, hsz, hP, hK, hNw, hAO⟩ := hp
  have hx := B.exec
  have hb := B.bytes
  have hr := B.returns
  have hts0 := atoms_spec (ws := .code ⟨RX7, "<init>", "()V"⟩ prog_1_method_1_code 2 none :: wG) B.pre
  have hts : ∀ w ∈ wG, w.before [Value.ref a].toArray s = true := fun w hw => hts0 w (List.mem_cons_of_mem _ hw)
  have hown : s.vm.findClass "OneStair" = some m.cls := findClass_of_methodNamed B.named
  have hin : meth.name = "<init>" := (name_of_methodNamed B.named B.method).1
  subst hsz
  have hD := D_one (a, .inr (6, [.null, .null, .null, .int 0, .null, .null, .null, .null, .int 0, .null, .null, .null])) s.heap.size
  generalize hAe : va_A [(a, .inr (6, [.null, .null, .null, .int 0, .null, .null, .null, .null, .int 0, .null, .null, .null]))] s.heap.size = A at hD ⊢
  have hA : ∀ q : Nat, s.heap.size ≤ q → A q := fun q h => by rw [← hAe]; exact Or.inr h
  have hS : va_S A s.heap s.heap [] := va_S.rf
  have hl := lv_entry ([.ref a]) (n := 2) (Nat.le_of_ble_eq_true rfl)
  rw [lg_entry_eq]
  generalize (lg_sl ([.ref a]) ++ List.replicate (2 - (lg_sl ([.ref a])).length) Slot.unset).toArray = ls at hl ⊢
  have hl : lv_has ls 2 [(0, .ref a)] := hl
  have l0 := lv_at hl 0 rfl
  refine lv_aload_n hx hb none_d0 rfl l0 ?_
  refine W.objInit hx hb hown (hts _ (wG_of none_ow.1 rfl)) (hts _ (wG_of none_ow.2.1 rfl)) (hts _ (wG_of none_ow.2.2 rfl)) rfl (by rw [hml]; exact hl.1) rfl none_d1 (Nat.le_of_ble_eq_true rfl) (Nat.le_of_ble_eq_true rfl) ?_
  refine W.eq (g2 := F0 m 4 ls []) rfl ?_
  refine lv_aload_n hx hb none_d4 rfl l0 ?_
  refine n_mk (nL := 2) (fs0 := [.int 0, .null, .null, .null, .null, .null, .null, .null, .int 0, .null, .null, .null, .int 0, .int 0, .int 0]) (B := fun x => towC ff x) hx hb hts hown hml hl.1 hK hNw hAO hP hD hS hA (ci := 5) (Nat.le_of_ble_eq_true rfl) none_fX6 none_wX6 (by decide) ⟨rfl, by decide, by decide, by decide +kernel⟩ (fun a n0 => n_tow l D ff a n0) ⟨Nat.le_of_ble_eq_true rfl, Nat.le_of_ble_eq_true rfl⟩ (Nat.le_of_ble_eq_true rfl) (Nat.le_of_ble_eq_true rfl) (Nat.le_of_ble_eq_true rfl) none_d5 none_d8 none_d9 (fun q1 u1 H locs hu1 hP hD hS => ?_)
  have hP : va_P D vwCl ((a, .inr (6, [.null, .null, .null, .int 0, .null, .null, .null, .null, .int 0, .null, .null, .null])) :: ([] ++ towC ff q1 u1)) H := hP
  have hD : va_D A ((a, .inr (6, [.null, .null, .null, .int 0, .null, .null, .null, .null, .int 0, .null, .null, .null])) :: ([] ++ towC ff q1 u1)) := hD
  refine n_put hx hb hts hown hin hK hP hD hS 0 (ci := 6) (k := 0) (x := 10) (v := .ref q1) (Nat.le_of_ble_eq_true rfl) rfl (Nat.le_of_ble_eq_true rfl) rfl (by decide +kernel) (by rw [none_t0]; rfl) (by rw [none_t0]; rfl) (Nat.le_of_ble_eq_true rfl) none_d12 (fun H locs hP hD hS => ?_)
  have hP : va_P D vwCl ((a, .inr (6, [.ref q1, .null, .null, .int 0, .null, .null, .null, .null, .int 0, .null, .null, .null])) :: ([] ++ towC ff q1 u1)) H := hP
  have hD : va_D A ((a, .inr (6, [.ref q1, .null, .null, .int 0, .null, .null, .null, .null, .int 0, .null, .null, .null])) :: ([] ++ towC ff q1 u1)) := hD
  refine lv_aload_n hx hb none_d15 rfl l0 ?_
  refine n_mk (nL := 2) (fs0 := [.int 0, .null, .null, .null, .null, .null, .null, .null, .int 0, .null, .null, .null, .int 0, .int 0, .int 0]) (B := fun x => towC ff x) hx hb hts hown hml hl.1 hK hNw hAO hP hD hS hA (ci := 5) (Nat.le_of_ble_eq_true rfl) none_fX6 none_wX6 (by decide) ⟨rfl, by decide, by decide, by decide +kernel⟩ (fun a n0 => n_tow l D ff a n0) ⟨Nat.le_of_ble_eq_true rfl, Nat.le_of_ble_eq_true rfl⟩ (Nat.le_of_ble_eq_true rfl) (Nat.le_of_ble_eq_true rfl) (Nat.le_of_ble_eq_true rfl) none_d16 none_d19 none_d20 (fun q2 u2 H locs hu2 hP hD hS => ?_)
  have hP : va_P D vwCl ((a, .inr (6, [.ref q1, .null, .null, .int 0, .null, .null, .null, .null, .int 0, .null, .null, .null])) :: (([] ++ towC ff q1 u1) ++ towC ff q2 u2)) H := hP
  have hD : va_D A ((a, .inr (6, [.ref q1, .null, .null, .int 0, .null, .null, .null, .null, .int 0, .null, .null, .null])) :: (([] ++ towC ff q1 u1) ++ towC ff q2 u2)) := hD
  refine n_put hx hb hts hown hin hK hP hD hS 0 (ci := 6) (k := 1) (x := 16) (v := .ref q2) (Nat.le_of_ble_eq_true rfl) rfl (Nat.le_of_ble_eq_true rfl) rfl (by decide +kernel) (by rw [none_t1]; rfl) (by rw [none_t1]; rfl) (Nat.le_of_ble_eq_true rfl) none_d23 (fun H locs hP hD hS => ?_)
  have hP : va_P D vwCl ((a, .inr (6, [.ref q1, .ref q2, .null, .int 0, .null, .null, .null, .null, .int 0, .null, .null, .null])) :: (([] ++ towC ff q1 u1) ++ towC ff q2 u2)) H := hP
  have hD : va_D A ((a, .inr (6, [.ref q1, .ref q2, .null, .int 0, .null, .null, .null, .null, .int 0, .null, .null, .null])) :: (([] ++ towC ff q1 u1) ++ towC ff q2 u2)) := hD
  refine lv_aload_n hx hb none_d26 rfl l0 ?_
  refine n_mk (nL := 2) (fs0 := [.int 0, .null, .null, .null, .null, .null, .null, .null, .int 0, .null, .null, .null, .int 0, .int 0, .int 0]) (B := fun x => towC ff x) hx hb hts hown hml hl.1 hK hNw hAO hP hD hS hA (ci := 5) (Nat.le_of_ble_eq_true rfl) none_fX6 none_wX6 (by decide) ⟨rfl, by decide, by decide, by decide +kernel⟩ (fun a n0 => n_tow l D ff a n0) ⟨Nat.le_of_ble_eq_true rfl, Nat.le_of_ble_eq_true rfl⟩ (Nat.le_of_ble_eq_true rfl) (Nat.le_of_ble_eq_true rfl) (Nat.le_of_ble_eq_true rfl) none_d27 none_d30 none_d31 (fun q3 u3 H locs hu3 hP hD hS => ?_)
  have hP : va_P D vwCl ((a, .inr (6, [.ref q1, .ref q2, .null, .int 0, .null, .null, .null, .null, .int 0, .null, .null, .null])) :: ((([] ++ towC ff q1 u1) ++ towC ff q2 u2) ++ towC ff q3 u3)) H := hP
  have hD : va_D A ((a, .inr (6, [.ref q1, .ref q2, .null, .int 0, .null, .null, .null, .null, .int 0, .null, .null, .null])) :: ((([] ++ towC ff q1 u1) ++ towC ff q2 u2) ++ towC ff q3 u3)) := hD
  refine n_put hx hb hts hown hin hK hP hD hS 0 (ci := 6) (k := 2) (x := 19) (v := .ref q3) (Nat.le_of_ble_eq_true rfl) rfl (Nat.le_of_ble_eq_true rfl) rfl (by decide +kernel) (by rw [none_t2]; rfl) (by rw [none_t2]; rfl) (Nat.le_of_ble_eq_true rfl) none_d34 (fun H locs hP hD hS => ?_)
  have hP : va_P D vwCl ((a, .inr (6, [.ref q1, .ref q2, .ref q3, .int 0, .null, .null, .null, .null, .int 0, .null, .null, .null])) :: ((([] ++ towC ff q1 u1) ++ towC ff q2 u2) ++ towC ff q3 u3)) H := hP
  have hD : va_D A ((a, .inr (6, [.ref q1, .ref q2, .ref q3, .int 0, .null, .null, .null, .null, .int 0, .null, .null, .null])) :: ((([] ++ towC ff q1 u1) ++ towC ff q2 u2) ++ towC ff q3 u3)) := hD
  refine lv_aload_n hx hb none_d37 rfl l0 ?_
  refine n_mk (nL := 2) (fs0 := [.null, .null, .null, .null, .null, .null, .null, .int 0, .int 0]) (B := fun x => staC ff x) hx hb hts hown hml hl.1 hK hNw hAO hP hD hS hA (ci := 3) (Nat.le_of_ble_eq_true rfl) none_fX4 none_wX4 (by decide) ⟨rfl, by decide, by decide, by decide +kernel⟩ (fun a n0 => n_sta l D ff a n0) ⟨Nat.le_of_ble_eq_true rfl, Nat.le_of_ble_eq_true rfl⟩ (Nat.le_of_ble_eq_true rfl) (Nat.le_of_ble_eq_true rfl) (Nat.le_of_ble_eq_true rfl) none_d38 none_d41 none_d42 (fun q4 u4 H locs hu4 hP hD hS => ?_)
  have hP : va_P D vwCl ((a, .inr (6, [.ref q1, .ref q2, .ref q3, .int 0, .null, .null, .null, .null, .int 0, .null, .null, .null])) :: (((([] ++ towC ff q1 u1) ++ towC ff q2 u2) ++ towC ff q3 u3) ++ staC ff q4 u4)) H := hP
  have hD : va_D A ((a, .inr (6, [.ref q1, .ref q2, .ref q3, .int 0, .null, .null, .null, .null, .int 0, .null, .null, .null])) :: (((([] ++ towC ff q1 u1) ++ towC ff q2 u2) ++ towC ff q3 u3) ++ staC ff q4 u4)) := hD
  refine n_put hx hb hts hown hin hK hP hD hS 0 (ci := 6) (k := 4) (x := 25) (v := .ref q4) (Nat.le_of_ble_eq_true rfl) rfl (Nat.le_of_ble_eq_true rfl) rfl (by decide +kernel) (by rw [none_t4]; rfl) (by rw [none_t4]; rfl) (Nat.le_of_ble_eq_true rfl) none_d45 (fun H locs hP hD hS => ?_)
  have hP : va_P D vwCl ((a, .inr (6, [.ref q1, .ref q2, .ref q3, .int 0, .ref q4, .null, .null, .null, .int 0, .null, .null, .null])) :: (((([] ++ towC ff q1 u1) ++ towC ff q2 u2) ++ towC ff q3 u3) ++ staC ff q4 u4)) H := hP
  have hD : va_D A ((a, .inr (6, [.ref q1, .ref q2, .ref q3, .int 0, .ref q4, .null, .null, .null, .int 0, .null, .null, .null])) :: (((([] ++ towC ff q1 u1) ++ towC ff q2 u2) ++ towC ff q3 u3) ++ staC ff q4 u4)) := hD
  refine lv_aload_n hx hb none_d48 rfl l0 ?_
  refine n_mk (nL := 2) (fs0 := [.null, .int 0, .int 0, .int 0, .int 0]) (B := fun x => texC ff x) hx hb hts hown hml hl.1 hK hNw hAO hP hD hS hA (ci := 4) (Nat.le_of_ble_eq_true rfl) none_fX5 none_wX5 (by decide) ⟨rfl, by decide, by decide, by decide +kernel⟩ (fun a n0 => n_tex l D ff a n0) ⟨Nat.le_of_ble_eq_true rfl, Nat.le_of_ble_eq_true rfl⟩ (Nat.le_of_ble_eq_true rfl) (Nat.le_of_ble_eq_true rfl) (Nat.le_of_ble_eq_true rfl) none_d49 none_d52 none_d53 (fun q5 u5 H locs hu5 hP hD hS => ?_)
  have hP : va_P D vwCl ((a, .inr (6, [.ref q1, .ref q2, .ref q3, .int 0, .ref q4, .null, .null, .null, .int 0, .null, .null, .null])) :: ((((([] ++ towC ff q1 u1) ++ towC ff q2 u2) ++ towC ff q3 u3) ++ staC ff q4 u4) ++ texC ff q5 u5)) H := hP
  have hD : va_D A ((a, .inr (6, [.ref q1, .ref q2, .ref q3, .int 0, .ref q4, .null, .null, .null, .int 0, .null, .null, .null])) :: ((((([] ++ towC ff q1 u1) ++ towC ff q2 u2) ++ towC ff q3 u3) ++ staC ff q4 u4) ++ texC ff q5 u5)) := hD
  refine n_put hx hb hts hown hin hK hP hD hS 0 (ci := 6) (k := 5) (x := 32) (v := .ref q5) (Nat.le_of_ble_eq_true rfl) rfl (Nat.le_of_ble_eq_true rfl) rfl (by decide +kernel) (by rw [none_t5]; rfl) (by rw [none_t5]; rfl) (Nat.le_of_ble_eq_true rfl) none_d56 (fun H locs hP hD hS => ?_)
  have hP : va_P D vwCl ((a, .inr (6, [.ref q1, .ref q2, .ref q3, .int 0, .ref q4, .ref q5, .null, .null, .int 0, .null, .null, .null])) :: ((((([] ++ towC ff q1 u1) ++ towC ff q2 u2) ++ towC ff q3 u3) ++ staC ff q4 u4) ++ texC ff q5 u5)) H := hP
  have hD : va_D A ((a, .inr (6, [.ref q1, .ref q2, .ref q3, .int 0, .ref q4, .ref q5, .null, .null, .int 0, .null, .null, .null])) :: ((((([] ++ towC ff q1 u1) ++ towC ff q2 u2) ++ towC ff q3 u3) ++ staC ff q4 u4) ++ texC ff q5 u5)) := hD
  refine lv_aload_n hx hb none_d59 rfl l0 ?_
  refine lv_bipush hx hb none_d60 (v := Int32.ofInt 20) (by decide) ?_
  refine lv_iconst hx hb none_d62 (v := Int32.ofInt 3) rfl ?_
  refine n_grid hx hb hts hown hK hAO hP hD hS hA (by decide +kernel) (Nat.le_of_ble_eq_true rfl) (Nat.le_of_ble_eq_true rfl) none_d63 (fun q6 H hP hD hS => ?_)
  have hP : va_P D vwCl ((a, .inr (6, [.ref q1, .ref q2, .ref q3, .int 0, .ref q4, .ref q5, .null, .null, .int 0, .null, .null, .null])) :: (((((([] ++ towC ff q1 u1) ++ towC ff q2 u2) ++ towC ff q3 u3) ++ staC ff q4 u4) ++ texC ff q5 u5) ++ gridC ff q6)) H := hP
  have hD : va_D A ((a, .inr (6, [.ref q1, .ref q2, .ref q3, .int 0, .ref q4, .ref q5, .null, .null, .int 0, .null, .null, .null])) :: (((((([] ++ towC ff q1 u1) ++ towC ff q2 u2) ++ towC ff q3 u3) ++ staC ff q4 u4) ++ texC ff q5 u5) ++ gridC ff q6)) := hD
  refine n_put hx hb hts hown hin hK hP hD hS 0 (ci := 6) (k := 6) (x := 38) (v := .ref q6) (Nat.le_of_ble_eq_true rfl) rfl (Nat.le_of_ble_eq_true rfl) rfl (by decide +kernel) (by rw [none_t6]; rfl) (by rw [none_t6]; rfl) (Nat.le_of_ble_eq_true rfl) none_d67 (fun H locs hP hD hS => ?_)
  have hP : va_P D vwCl ((a, .inr (6, [.ref q1, .ref q2, .ref q3, .int 0, .ref q4, .ref q5, .ref q6, .null, .int 0, .null, .null, .null])) :: (((((([] ++ towC ff q1 u1) ++ towC ff q2 u2) ++ towC ff q3 u3) ++ staC ff q4 u4) ++ texC ff q5 u5) ++ gridC ff q6)) H := hP
  have hD : va_D A ((a, .inr (6, [.ref q1, .ref q2, .ref q3, .int 0, .ref q4, .ref q5, .ref q6, .null, .int 0, .null, .null, .null])) :: (((((([] ++ towC ff q1 u1) ++ towC ff q2 u2) ++ towC ff q3 u3) ++ staC ff q4 u4) ++ texC ff q5 u5) ++ gridC ff q6)) := hD
  refine lv_aload_n hx hb none_d70 rfl l0 ?_
  refine lv_iconst hx hb none_d71 (v := Int32.ofInt ((3 : Nat) : Int)) rfl ?_
  refine n_int hx hb hts hK hP hD hS hA 3 (Nat.le_of_ble_eq_true rfl) (Nat.le_of_ble_eq_true rfl) (Nat.le_of_ble_eq_true rfl) none_d72 (fun q7 H hP hD hS => ?_)
  have hP : va_P D vwCl ((a, .inr (6, [.ref q1, .ref q2, .ref q3, .int 0, .ref q4, .ref q5, .ref q6, .null, .int 0, .null, .null, .null])) :: ((((((([] ++ towC ff q1 u1) ++ towC ff q2 u2) ++ towC ff q3 u3) ++ staC ff q4 u4) ++ texC ff q5 u5) ++ gridC ff q6) ++ [(q7, .inl (ff 1, 3, .inl (fun _ => 0)))])) H := hP
  have hD : va_D A ((a, .inr (6, [.ref q1, .ref q2, .ref q3, .int 0, .ref q4, .ref q5, .ref q6, .null, .int 0, .null, .null, .null])) :: ((((((([] ++ towC ff q1 u1) ++ towC ff q2 u2) ++ towC ff q3 u3) ++ staC ff q4 u4) ++ texC ff q5 u5) ++ gridC ff q6) ++ [(q7, .inl (ff 1, 3, .inl (fun _ => 0)))])) := hD
  refine n_put hx hb hts hown hin hK hP hD hS 0 (ci := 6) (k := 7) (x := 41) (v := .ref q7) (Nat.le_of_ble_eq_true rfl) rfl (Nat.le_of_ble_eq_true rfl) rfl (by decide +kernel) (by rw [none_t7]; rfl) (by rw [none_t7]; rfl) (Nat.le_of_ble_eq_true rfl) none_d74 (fun H locs hP hD hS => ?_)
  have hP : va_P D vwCl ((a, .inr (6, [.ref q1, .ref q2, .ref q3, .int 0, .ref q4, .ref q5, .ref q6, .ref q7, .int 0, .null, .null, .null])) :: ((((((([] ++ towC ff q1 u1) ++ towC ff q2 u2) ++ towC ff q3 u3) ++ staC ff q4 u4) ++ texC ff q5 u5) ++ gridC ff q6) ++ [(q7, .inl (ff 1, 3, .inl (fun _ => 0)))])) H := hP
  have hD : va_D A ((a, .inr (6, [.ref q1, .ref q2, .ref q3, .int 0, .ref q4, .ref q5, .ref q6, .ref q7, .int 0, .null, .null, .null])) :: ((((((([] ++ towC ff q1 u1) ++ towC ff q2 u2) ++ towC ff q3 u3) ++ staC ff q4 u4) ++ texC ff q5 u5) ++ gridC ff q6) ++ [(q7, .inl (ff 1, 3, .inl (fun _ => 0)))])) := hD
  refine lv_aload_n hx hb none_d77 rfl l0 ?_
  refine lv_iconst hx hb none_d78 (v := Int32.ofInt ((4 : Nat) : Int)) rfl ?_
  refine n_refs (C := RX2) (t0 := 3) hx hb hown (hts _ (wG_of none_wX2.1 rfl)) hAO.1 hK rfl hP hD hS hA 4 (Nat.le_of_ble_eq_true rfl) (Nat.le_of_ble_eq_true rfl) (Nat.le_of_ble_eq_true rfl) none_d79 (fun q8 H hP hD hS => ?_)
  have hP : va_P D vwCl ((a, .inr (6, [.ref q1, .ref q2, .ref q3, .int 0, .ref q4, .ref q5, .ref q6, .ref q7, .int 0, .null, .null, .null])) :: (((((((([] ++ towC ff q1 u1) ++ towC ff q2 u2) ++ towC ff q3 u3) ++ staC ff q4 u4) ++ texC ff q5 u5) ++ gridC ff q6) ++ [(q7, .inl (ff 1, 3, .inl (fun _ => 0)))]) ++ [(q8, .inl (ff 4, 4, .inr (.inr (.inr (.inr (fun _ => none))))))])) H := hP
  have hD : va_D A ((a, .inr (6, [.ref q1, .ref q2, .ref q3, .int 0, .ref q4, .ref q5, .ref q6, .ref q7, .int 0, .null, .null, .null])) :: (((((((([] ++ towC ff q1 u1) ++ towC ff q2 u2) ++ towC ff q3 u3) ++ staC ff q4 u4) ++ texC ff q5 u5) ++ gridC ff q6) ++ [(q7, .inl (ff 1, 3, .inl (fun _ => 0)))]) ++ [(q8, .inl (ff 4, 4, .inr (.inr (.inr (.inr (fun _ => none))))))])) := hD
  refine n_put hx hb hts hown hin hK hP hD hS 0 (ci := 6) (k := 9) (x := 47) (v := .ref q8) (Nat.le_of_ble_eq_true rfl) rfl (Nat.le_of_ble_eq_true rfl) rfl (by decide +kernel) (by rw [none_t9]; rfl) (by rw [none_t9]; rfl) (Nat.le_of_ble_eq_true rfl) none_d82 (fun H locs hP hD hS => ?_)
  have hP : va_P D vwCl ((a, .inr (6, [.ref q1, .ref q2, .ref q3, .int 0, .ref q4, .ref q5, .ref q6, .ref q7, .int 0, .ref q8, .null, .null])) :: (((((((([] ++ towC ff q1 u1) ++ towC ff q2 u2) ++ towC ff q3 u3) ++ staC ff q4 u4) ++ texC ff q5 u5) ++ gridC ff q6) ++ [(q7, .inl (ff 1, 3, .inl (fun _ => 0)))]) ++ [(q8, .inl (ff 4, 4, .inr (.inr (.inr (.inr (fun _ => none))))))])) H := hP
  have hD : va_D A ((a, .inr (6, [.ref q1, .ref q2, .ref q3, .int 0, .ref q4, .ref q5, .ref q6, .ref q7, .int 0, .ref q8, .null, .null])) :: (((((((([] ++ towC ff q1 u1) ++ towC ff q2 u2) ++ towC ff q3 u3) ++ staC ff q4 u4) ++ texC ff q5 u5) ++ gridC ff q6) ++ [(q7, .inl (ff 1, 3, .inl (fun _ => 0)))]) ++ [(q8, .inl (ff 4, 4, .inr (.inr (.inr (.inr (fun _ => none))))))])) := hD
  refine lv_aload_n hx hb none_d85 rfl l0 ?_
  refine lv_iconst hx hb none_d86 (v := Int32.ofInt ((4 : Nat) : Int)) rfl ?_
  refine n_refs (C := RX3) (t0 := 4) hx hb hown (hts _ (wG_of none_wX3.1 rfl)) hAO.2.1 hK rfl hP hD hS hA 4 (Nat.le_of_ble_eq_true rfl) (Nat.le_of_ble_eq_true rfl) (Nat.le_of_ble_eq_true rfl) none_d87 (fun q9 H hP hD hS => ?_)
  have hP : va_P D vwCl ((a, .inr (6, [.ref q1, .ref q2, .ref q3, .int 0, .ref q4, .ref q5, .ref q6, .ref q7, .int 0, .ref q8, .null, .null])) :: ((((((((([] ++ towC ff q1 u1) ++ towC ff q2 u2) ++ towC ff q3 u3) ++ staC ff q4 u4) ++ texC ff q5 u5) ++ gridC ff q6) ++ [(q7, .inl (ff 1, 3, .inl (fun _ => 0)))]) ++ [(q8, .inl (ff 4, 4, .inr (.inr (.inr (.inr (fun _ => none))))))]) ++ [(q9, .inl (ff 5, 4, .inr (.inr (.inr (.inr (fun _ => none))))))])) H := hP
  have hD : va_D A ((a, .inr (6, [.ref q1, .ref q2, .ref q3, .int 0, .ref q4, .ref q5, .ref q6, .ref q7, .int 0, .ref q8, .null, .null])) :: ((((((((([] ++ towC ff q1 u1) ++ towC ff q2 u2) ++ towC ff q3 u3) ++ staC ff q4 u4) ++ texC ff q5 u5) ++ gridC ff q6) ++ [(q7, .inl (ff 1, 3, .inl (fun _ => 0)))]) ++ [(q8, .inl (ff 4, 4, .inr (.inr (.inr (.inr (fun _ => none))))))]) ++ [(q9, .inl (ff 5, 4, .inr (.inr (.inr (.inr (fun _ => none))))))])) := hD
  refine n_put hx hb hts hown hin hK hP hD hS 0 (ci := 6) (k := 10) (x := 53) (v := .ref q9) (Nat.le_of_ble_eq_true rfl) rfl (Nat.le_of_ble_eq_true rfl) rfl (by decide +kernel) (by rw [none_t10]; rfl) (by rw [none_t10]; rfl) (Nat.le_of_ble_eq_true rfl) none_d90 (fun H locs hP hD hS => ?_)
  have hP : va_P D vwCl ((a, .inr (6, [.ref q1, .ref q2, .ref q3, .int 0, .ref q4, .ref q5, .ref q6, .ref q7, .int 0, .ref q8, .ref q9, .null])) :: ((((((((([] ++ towC ff q1 u1) ++ towC ff q2 u2) ++ towC ff q3 u3) ++ staC ff q4 u4) ++ texC ff q5 u5) ++ gridC ff q6) ++ [(q7, .inl (ff 1, 3, .inl (fun _ => 0)))]) ++ [(q8, .inl (ff 4, 4, .inr (.inr (.inr (.inr (fun _ => none))))))]) ++ [(q9, .inl (ff 5, 4, .inr (.inr (.inr (.inr (fun _ => none))))))])) H := hP
  have hD : va_D A ((a, .inr (6, [.ref q1, .ref q2, .ref q3, .int 0, .ref q4, .ref q5, .ref q6, .ref q7, .int 0, .ref q8, .ref q9, .null])) :: ((((((((([] ++ towC ff q1 u1) ++ towC ff q2 u2) ++ towC ff q3 u3) ++ staC ff q4 u4) ++ texC ff q5 u5) ++ gridC ff q6) ++ [(q7, .inl (ff 1, 3, .inl (fun _ => 0)))]) ++ [(q8, .inl (ff 4, 4, .inr (.inr (.inr (.inr (fun _ => none))))))]) ++ [(q9, .inl (ff 5, 4, .inr (.inr (.inr (.inr (fun _ => none))))))])) := hD
  refine lv_aload_n hx hb none_d93 rfl l0 ?_
  refine n_mk (nL := 2) (fs0 := [.int 0, .int 0, .int 0, .null, .int 0, .int 0]) (B := fun x => actC ff x) hx hb hts hown hml hl.1 hK hNw hAO hP hD hS hA (ci := 0) (Nat.le_of_ble_eq_true rfl) none_fX0 none_wX0 (by decide) ⟨rfl, by decide, by decide, by decide +kernel⟩ (fun a n0 => n_act l D ff a n0) ⟨Nat.le_of_ble_eq_true rfl, Nat.le_of_ble_eq_true rfl⟩ (Nat.le_of_ble_eq_true rfl) (Nat.le_of_ble_eq_true rfl) (Nat.le_of_ble_eq_true rfl) none_d94 none_d97 none_d98 (fun q10 u10 H locs hu10 hP hD hS => ?_)
  have hP : va_P D vwCl ((a, .inr (6, [.ref q1, .ref q2, .ref q3, .int 0, .ref q4, .ref q5, .ref q6, .ref q7, .int 0, .ref q8, .ref q9, .null])) :: (((((((((([] ++ towC ff q1 u1) ++ towC ff q2 u2) ++ towC ff q3 u3) ++ staC ff q4 u4) ++ texC ff q5 u5) ++ gridC ff q6) ++ [(q7, .inl (ff 1, 3, .inl (fun _ => 0)))]) ++ [(q8, .inl (ff 4, 4, .inr (.inr (.inr (.inr (fun _ => none))))))]) ++ [(q9, .inl (ff 5, 4, .inr (.inr (.inr (.inr (fun _ => none))))))]) ++ actC ff q10 u10)) H := hP
  have hD : va_D A ((a, .inr (6, [.ref q1, .ref q2, .ref q3, .int 0, .ref q4, .ref q5, .ref q6, .ref q7, .int 0, .ref q8, .ref q9, .null])) :: (((((((((([] ++ towC ff q1 u1) ++ towC ff q2 u2) ++ towC ff q3 u3) ++ staC ff q4 u4) ++ texC ff q5 u5) ++ gridC ff q6) ++ [(q7, .inl (ff 1, 3, .inl (fun _ => 0)))]) ++ [(q8, .inl (ff 4, 4, .inr (.inr (.inr (.inr (fun _ => none))))))]) ++ [(q9, .inl (ff 5, 4, .inr (.inr (.inr (.inr (fun _ => none))))))]) ++ actC ff q10 u10)) := hD
  refine n_put hx hb hts hown hin hK hP hD hS 0 (ci := 6) (k := 11) (x := 60) (v := .ref q10) (Nat.le_of_ble_eq_true rfl) rfl (Nat.le_of_ble_eq_true rfl) rfl (by decide +kernel) (by rw [none_t11]; rfl) (by rw [none_t11]; rfl) (Nat.le_of_ble_eq_true rfl) none_d101 (fun H locs hP hD hS => ?_)
  have hP : va_P D vwCl ((a, .inr (6, [.ref q1, .ref q2, .ref q3, .int 0, .ref q4, .ref q5, .ref q6, .ref q7, .int 0, .ref q8, .ref q9, .ref q10])) :: (((((((((([] ++ towC ff q1 u1) ++ towC ff q2 u2) ++ towC ff q3 u3) ++ staC ff q4 u4) ++ texC ff q5 u5) ++ gridC ff q6) ++ [(q7, .inl (ff 1, 3, .inl (fun _ => 0)))]) ++ [(q8, .inl (ff 4, 4, .inr (.inr (.inr (.inr (fun _ => none))))))]) ++ [(q9, .inl (ff 5, 4, .inr (.inr (.inr (.inr (fun _ => none))))))]) ++ actC ff q10 u10)) H := hP
  have hD : va_D A ((a, .inr (6, [.ref q1, .ref q2, .ref q3, .int 0, .ref q4, .ref q5, .ref q6, .ref q7, .int 0, .ref q8, .ref q9, .ref q10])) :: (((((((((([] ++ towC ff q1 u1) ++ towC ff q2 u2) ++ towC ff q3 u3) ++ staC ff q4 u4) ++ texC ff q5 u5) ++ gridC ff q6) ++ [(q7, .inl (ff 1, 3, .inl (fun _ => 0)))]) ++ [(q8, .inl (ff 4, 4, .inr (.inr (.inr (.inr (fun _ => none))))))]) ++ [(q9, .inl (ff 5, 4, .inr (.inr (.inr (.inr (fun _ => none))))))]) ++ actC ff q10 u10)) := hD
  rw [oneB_flat] at hP hD
  refine lv_iconst hx hb none_d104 (v := Int32.ofInt 0) rfl ?_
  refine lv_istore_n hx hb none_d105 rfl hl (Nat.le_of_ble_eq_true rfl) (lv' := [(1, .int (Int32.ofInt 0)), (0, .ref a)]) rfl (fun ls hl => ?_)
  have l0 := lv_at hl 1 rfl
  have l1 := lv_at hl 0 rfl
  refine lv_iload_n hx hb none_d106 rfl l1 ?_
  refine lv_iconst hx hb none_d107 (v := Int32.ofInt 4) rfl ?_
  refine lv_icmp_ge hx hb none_d108 (tgt := 130) rfl (fun hc => absurd hc (by decide)) (fun _ => ?_)
  refine lv_aload_n hx hb none_d111 rfl l0 ?_
  refine va_get hx hb hts (laysIn (ci := 6) (Nat.le_of_ble_eq_true rfl)) hown hK hP 0 rfl (vwAt (ci := 6) (Nat.le_of_ble_eq_true rfl)) 9 (Nat.le_of_ble_eq_true rfl) (hts _ (wG_of none_g9 rfl)) (fun _ h9 => h9) rfl none_d112 ?_
  refine lv_iload_n hx hb none_d115 rfl l1 ?_
  refine n_mk (nL := 2) (fs0 := [.int 0, .int 0, .null]) (B := fun x => sheC ff x) hx hb hts hown hml hl.1 hK hNw hAO hP hD hS hA (ci := 1) (Nat.le_of_ble_eq_true rfl) none_fX2 none_wX2 (by decide) ⟨rfl, by decide, by decide, by decide +kernel⟩ (fun a n0 => n_she l D ff a n0) ⟨Nat.le_of_ble_eq_true rfl, Nat.le_of_ble_eq_true rfl⟩ (Nat.le_of_ble_eq_true rfl) (Nat.le_of_ble_eq_true rfl) (Nat.le_of_ble_eq_true rfl) none_d116 none_d119 none_d120 (fun q11 u11 H locs hu11 hP hD hS => ?_)
  refine va_astq hx hb hK hP hD hS 66 3 (70 + 0) 1 oneB_66 rfl ((oneB_tl 0).trans rfl) rfl (vpin (by unfold R32; decide) (by decide) (by decide)) none_d123 (fun H locs hP hD hS => ?_)
  rw [oneB_s66] at hP hD
  refine lv_iinc hx hb none_d124 hl (k := 0) rfl (v := Int32.ofInt 1) (by decide) (Nat.le_of_ble_eq_true rfl) (lv' := [(1, .int (Int32.ofInt 1)), (0, .ref a)]) rfl (fun ls hl => ?_)
  have l0 := lv_at hl 1 rfl
  have l1 := lv_at hl 0 rfl
  refine lv_goto hx hb none_d127 (tgt := 106) rfl ?_
  refine lv_iload_n hx hb none_d106 rfl l1 ?_
  refine lv_iconst hx hb none_d107 (v := Int32.ofInt 4) rfl ?_
  refine lv_icmp_ge hx hb none_d108 (tgt := 130) rfl (fun hc => absurd hc (by decide)) (fun _ => ?_)
  refine lv_aload_n hx hb none_d111 rfl l0 ?_
  refine va_get hx hb hts (laysIn (ci := 6) (Nat.le_of_ble_eq_true rfl)) hown hK hP 0 rfl (vwAt (ci := 6) (Nat.le_of_ble_eq_true rfl)) 9 (Nat.le_of_ble_eq_true rfl) (hts _ (wG_of none_g9 rfl)) (fun _ h9 => h9) rfl none_d112 ?_
  refine lv_iload_n hx hb none_d115 rfl l1 ?_
  refine n_mk (nL := 2) (fs0 := [.int 0, .int 0, .null]) (B := fun x => sheC ff x) hx hb hts hown hml hl.1 hK hNw hAO hP hD hS hA (ci := 1) (Nat.le_of_ble_eq_true rfl) none_fX2 none_wX2 (by decide) ⟨rfl, by decide, by decide, by decide +kernel⟩ (fun a n0 => n_she l D ff a n0) ⟨Nat.le_of_ble_eq_true rfl, Nat.le_of_ble_eq_true rfl⟩ (Nat.le_of_ble_eq_true rfl) (Nat.le_of_ble_eq_true rfl) (Nat.le_of_ble_eq_true rfl) none_d116 none_d119 none_d120 (fun q12 u12 H locs hu12 hP hD hS => ?_)
  rw [List.append_assoc] at hP hD
  refine va_astq hx hb hK hP hD hS 66 3 (70 + 2) 1 oneB_66 rfl ((oneB_tl 2).trans rfl) rfl (vpin (by unfold R32; decide) (by decide) (by decide)) none_d123 (fun H locs hP hD hS => ?_)
  rw [oneB_s66] at hP hD
  refine lv_iinc hx hb none_d124 hl (k := 0) rfl (v := Int32.ofInt 2) (by decide) (Nat.le_of_ble_eq_true rfl) (lv' := [(1, .int (Int32.ofInt 2)), (0, .ref a)]) rfl (fun ls hl => ?_)
  have l0 := lv_at hl 1 rfl
  have l1 := lv_at hl 0 rfl
  refine lv_goto hx hb none_d127 (tgt := 106) rfl ?_
  refine lv_iload_n hx hb none_d106 rfl l1 ?_
  refine lv_iconst hx hb none_d107 (v := Int32.ofInt 4) rfl ?_
  refine lv_icmp_ge hx hb none_d108 (tgt := 130) rfl (fun hc => absurd hc (by decide)) (fun _ => ?_)
  refine lv_aload_n hx hb none_d111 rfl l0 ?_
  refine va_get hx hb hts (laysIn (ci := 6) (Nat.le_of_ble_eq_true rfl)) hown hK hP 0 rfl (vwAt (ci := 6) (Nat.le_of_ble_eq_true rfl)) 9 (Nat.le_of_ble_eq_true rfl) (hts _ (wG_of none_g9 rfl)) (fun _ h9 => h9) rfl none_d112 ?_
  refine lv_iload_n hx hb none_d115 rfl l1 ?_
  refine n_mk (nL := 2) (fs0 := [.int 0, .int 0, .null]) (B := fun x => sheC ff x) hx hb hts hown hml hl.1 hK hNw hAO hP hD hS hA (ci := 1) (Nat.le_of_ble_eq_true rfl) none_fX2 none_wX2 (by decide) ⟨rfl, by decide, by decide, by decide +kernel⟩ (fun a n0 => n_she l D ff a n0) ⟨Nat.le_of_ble_eq_true rfl, Nat.le_of_ble_eq_true rfl⟩ (Nat.le_of_ble_eq_true rfl) (Nat.le_of_ble_eq_true rfl) (Nat.le_of_ble_eq_true rfl) none_d116 none_d119 none_d120 (fun q13 u13 H locs hu13 hP hD hS => ?_)
  rw [List.append_assoc] at hP hD
  refine va_astq hx hb hK hP hD hS 66 3 (70 + 4) 1 oneB_66 rfl ((oneB_tl 4).trans rfl) rfl (vpin (by unfold R32; decide) (by decide) (by decide)) none_d123 (fun H locs hP hD hS => ?_)
  rw [oneB_s66] at hP hD
  refine lv_iinc hx hb none_d124 hl (k := 0) rfl (v := Int32.ofInt 3) (by decide) (Nat.le_of_ble_eq_true rfl) (lv' := [(1, .int (Int32.ofInt 3)), (0, .ref a)]) rfl (fun ls hl => ?_)
  have l0 := lv_at hl 1 rfl
  have l1 := lv_at hl 0 rfl
  refine lv_goto hx hb none_d127 (tgt := 106) rfl ?_
  refine lv_iload_n hx hb none_d106 rfl l1 ?_
  refine lv_iconst hx hb none_d107 (v := Int32.ofInt 4) rfl ?_
  refine lv_icmp_ge hx hb none_d108 (tgt := 130) rfl (fun hc => absurd hc (by decide)) (fun _ => ?_)
  refine lv_aload_n hx hb none_d111 rfl l0 ?_
  refine va_get hx hb hts (laysIn (ci := 6) (Nat.le_of_ble_eq_true rfl)) hown hK hP 0 rfl (vwAt (ci := 6) (Nat.le_of_ble_eq_true rfl)) 9 (Nat.le_of_ble_eq_true rfl) (hts _ (wG_of none_g9 rfl)) (fun _ h9 => h9) rfl none_d112 ?_
  refine lv_iload_n hx hb none_d115 rfl l1 ?_
  refine n_mk (nL := 2) (fs0 := [.int 0, .int 0, .null]) (B := fun x => sheC ff x) hx hb hts hown hml hl.1 hK hNw hAO hP hD hS hA (ci := 1) (Nat.le_of_ble_eq_true rfl) none_fX2 none_wX2 (by decide) ⟨rfl, by decide, by decide, by decide +kernel⟩ (fun a n0 => n_she l D ff a n0) ⟨Nat.le_of_ble_eq_true rfl, Nat.le_of_ble_eq_true rfl⟩ (Nat.le_of_ble_eq_true rfl) (Nat.le_of_ble_eq_true rfl) (Nat.le_of_ble_eq_true rfl) none_d116 none_d119 none_d120 (fun q14 u14 H locs hu14 hP hD hS => ?_)
  rw [List.append_assoc] at hP hD
  refine va_astq hx hb hK hP hD hS 66 3 (70 + 6) 1 oneB_66 rfl ((oneB_tl 6).trans rfl) rfl (vpin (by unfold R32; decide) (by decide) (by decide)) none_d123 (fun H locs hP hD hS => ?_)
  rw [oneB_s66] at hP hD
  refine lv_iinc hx hb none_d124 hl (k := 0) rfl (v := Int32.ofInt 4) (by decide) (Nat.le_of_ble_eq_true rfl) (lv' := [(1, .int (Int32.ofInt 4)), (0, .ref a)]) rfl (fun ls hl => ?_)
  have l0 := lv_at hl 1 rfl
  have l1 := lv_at hl 0 rfl
  refine lv_goto hx hb none_d127 (tgt := 106) rfl ?_
  refine lv_iload_n hx hb none_d106 rfl l1 ?_
  refine lv_iconst hx hb none_d107 (v := Int32.ofInt 4) rfl ?_
  refine lv_icmp_ge hx hb none_d108 (tgt := 130) rfl (fun _ => ?_) (fun hc => absurd (by decide) hc)
  refine lv_iconst hx hb none_d130 (v := Int32.ofInt 0) rfl ?_
  refine lv_istore_n hx hb none_d131 rfl hl (Nat.le_of_ble_eq_true rfl) (lv' := [(1, .int (Int32.ofInt 0)), (0, .ref a)]) rfl (fun ls hl => ?_)
  have l0 := lv_at hl 1 rfl
  have l1 := lv_at hl 0 rfl
  refine lv_iload_n hx hb none_d132 rfl l1 ?_
  refine lv_iconst hx hb none_d133 (v := Int32.ofInt 4) rfl ?_
  refine lv_icmp_ge hx hb none_d134 (tgt := 156) rfl (fun hc => absurd hc (by decide)) (fun _ => ?_)
  refine lv_aload_n hx hb none_d137 rfl l0 ?_
  refine va_get hx hb hts (laysIn (ci := 6) (Nat.le_of_ble_eq_true rfl)) hown hK hP 0 rfl (vwAt (ci := 6) (Nat.le_of_ble_eq_true rfl)) 10 (Nat.le_of_ble_eq_true rfl) (hts _ (wG_of none_g10 rfl)) (fun _ h9 => h9) rfl none_d138 ?_
  refine lv_iload_n hx hb none_d141 rfl l1 ?_
  refine n_mk (nL := 2) (fs0 := [.int 0, .int 0, .int 0, .int 0]) (B := fun x => shfC ff x) hx hb hts hown hml hl.1 hK hNw hAO hP hD hS hA (ci := 2) (Nat.le_of_ble_eq_true rfl) none_fX3 none_wX3 (by decide) ⟨rfl, by decide, by decide, by decide +kernel⟩ (fun a n0 => n_shf l D ff a n0) ⟨Nat.le_of_ble_eq_true rfl, Nat.le_of_ble_eq_true rfl⟩ (Nat.le_of_ble_eq_true rfl) (Nat.le_of_ble_eq_true rfl) (Nat.le_of_ble_eq_true rfl) none_d142 none_d145 none_d146 (fun q15 u15 H locs hu15 hP hD hS => ?_)
  rw [List.append_assoc] at hP hD
  refine va_astq hx hb hK hP hD hS 67 4 (70 + 8) 2 oneB_67 rfl ((oneB_tl 8).trans rfl) rfl (vpin (by unfold R32; decide) (by decide) (by decide)) none_d149 (fun H locs hP hD hS => ?_)
  rw [oneB_s67] at hP hD
  refine lv_iinc hx hb none_d150 hl (k := 0) rfl (v := Int32.ofInt 1) (by decide) (Nat.le_of_ble_eq_true rfl) (lv' := [(1, .int (Int32.ofInt 1)), (0, .ref a)]) rfl (fun ls hl => ?_)
  have l0 := lv_at hl 1 rfl
  have l1 := lv_at hl 0 rfl
  refine lv_goto hx hb none_d153 (tgt := 132) rfl ?_
  refine lv_iload_n hx hb none_d132 rfl l1 ?_
  refine lv_iconst hx hb none_d133 (v := Int32.ofInt 4) rfl ?_
  refine lv_icmp_ge hx hb none_d134 (tgt := 156) rfl (fun hc => absurd hc (by decide)) (fun _ => ?_)
  refine lv_aload_n hx hb none_d137 rfl l0 ?_
  refine va_get hx hb hts (laysIn (ci := 6) (Nat.le_of_ble_eq_true rfl)) hown hK hP 0 rfl (vwAt (ci := 6) (Nat.le_of_ble_eq_true rfl)) 10 (Nat.le_of_ble_eq_true rfl) (hts _ (wG_of none_g10 rfl)) (fun _ h9 => h9) rfl none_d138 ?_
  refine lv_iload_n hx hb none_d141 rfl l1 ?_
  refine n_mk (nL := 2) (fs0 := [.int 0, .int 0, .int 0, .int 0]) (B := fun x => shfC ff x) hx hb hts hown hml hl.1 hK hNw hAO hP hD hS hA (ci := 2) (Nat.le_of_ble_eq_true rfl) none_fX3 none_wX3 (by decide) ⟨rfl, by decide, by decide, by decide +kernel⟩ (fun a n0 => n_shf l D ff a n0) ⟨Nat.le_of_ble_eq_true rfl, Nat.le_of_ble_eq_true rfl⟩ (Nat.le_of_ble_eq_true rfl) (Nat.le_of_ble_eq_true rfl) (Nat.le_of_ble_eq_true rfl) none_d142 none_d145 none_d146 (fun q16 u16 H locs hu16 hP hD hS => ?_)
  rw [List.append_assoc] at hP hD
  refine va_astq hx hb hK hP hD hS 67 4 (70 + 9) 2 oneB_67 rfl ((oneB_tl 9).trans rfl) rfl (vpin (by unfold R32; decide) (by decide) (by decide)) none_d149 (fun H locs hP hD hS => ?_)
  rw [oneB_s67] at hP hD
  refine lv_iinc hx hb none_d150 hl (k := 0) rfl (v := Int32.ofInt 2) (by decide) (Nat.le_of_ble_eq_true rfl) (lv' := [(1, .int (Int32.ofInt 2)), (0, .ref a)]) rfl (fun ls hl => ?_)
  have l0 := lv_at hl 1 rfl
  have l1 := lv_at hl 0 rfl
  refine lv_goto hx hb none_d153 (tgt := 132) rfl ?_
  refine lv_iload_n hx hb none_d132 rfl l1 ?_
  refine lv_iconst hx hb none_d133 (v := Int32.ofInt 4) rfl ?_
  refine lv_icmp_ge hx hb none_d134 (tgt := 156) rfl (fun hc => absurd hc (by decide)) (fun _ => ?_)
  refine lv_aload_n hx hb none_d137 rfl l0 ?_
  refine va_get hx hb hts (laysIn (ci := 6) (Nat.le_of_ble_eq_true rfl)) hown hK hP 0 rfl (vwAt (ci := 6) (Nat.le_of_ble_eq_true rfl)) 10 (Nat.le_of_ble_eq_true rfl) (hts _ (wG_of none_g10 rfl)) (fun _ h9 => h9) rfl none_d138 ?_
  refine lv_iload_n hx hb none_d141 rfl l1 ?_
  refine n_mk (nL := 2) (fs0 := [.int 0, .int 0, .int 0, .int 0]) (B := fun x => shfC ff x) hx hb hts hown hml hl.1 hK hNw hAO hP hD hS hA (ci := 2) (Nat.le_of_ble_eq_true rfl) none_fX3 none_wX3 (by decide) ⟨rfl, by decide, by decide, by decide +kernel⟩ (fun a n0 => n_shf l D ff a n0) ⟨Nat.le_of_ble_eq_true rfl, Nat.le_of_ble_eq_true rfl⟩ (Nat.le_of_ble_eq_true rfl) (Nat.le_of_ble_eq_true rfl) (Nat.le_of_ble_eq_true rfl) none_d142 none_d145 none_d146 (fun q17 u17 H locs hu17 hP hD hS => ?_)
  rw [List.append_assoc] at hP hD
  refine va_astq hx hb hK hP hD hS 67 4 (70 + 10) 2 oneB_67 rfl ((oneB_tl 10).trans rfl) rfl (vpin (by unfold R32; decide) (by decide) (by decide)) none_d149 (fun H locs hP hD hS => ?_)
  rw [oneB_s67] at hP hD
  refine lv_iinc hx hb none_d150 hl (k := 0) rfl (v := Int32.ofInt 3) (by decide) (Nat.le_of_ble_eq_true rfl) (lv' := [(1, .int (Int32.ofInt 3)), (0, .ref a)]) rfl (fun ls hl => ?_)
  have l0 := lv_at hl 1 rfl
  have l1 := lv_at hl 0 rfl
  refine lv_goto hx hb none_d153 (tgt := 132) rfl ?_
  refine lv_iload_n hx hb none_d132 rfl l1 ?_
  refine lv_iconst hx hb none_d133 (v := Int32.ofInt 4) rfl ?_
  refine lv_icmp_ge hx hb none_d134 (tgt := 156) rfl (fun hc => absurd hc (by decide)) (fun _ => ?_)
  refine lv_aload_n hx hb none_d137 rfl l0 ?_
  refine va_get hx hb hts (laysIn (ci := 6) (Nat.le_of_ble_eq_true rfl)) hown hK hP 0 rfl (vwAt (ci := 6) (Nat.le_of_ble_eq_true rfl)) 10 (Nat.le_of_ble_eq_true rfl) (hts _ (wG_of none_g10 rfl)) (fun _ h9 => h9) rfl none_d138 ?_
  refine lv_iload_n hx hb none_d141 rfl l1 ?_
  refine n_mk (nL := 2) (fs0 := [.int 0, .int 0, .int 0, .int 0]) (B := fun x => shfC ff x) hx hb hts hown hml hl.1 hK hNw hAO hP hD hS hA (ci := 2) (Nat.le_of_ble_eq_true rfl) none_fX3 none_wX3 (by decide) ⟨rfl, by decide, by decide, by decide +kernel⟩ (fun a n0 => n_shf l D ff a n0) ⟨Nat.le_of_ble_eq_true rfl, Nat.le_of_ble_eq_true rfl⟩ (Nat.le_of_ble_eq_true rfl) (Nat.le_of_ble_eq_true rfl) (Nat.le_of_ble_eq_true rfl) none_d142 none_d145 none_d146 (fun q18 u18 H locs hu18 hP hD hS => ?_)
  rw [List.append_assoc] at hP hD
  refine va_astq hx hb hK hP hD hS 67 4 (70 + 11) 2 oneB_67 rfl ((oneB_tl 11).trans rfl) rfl (vpin (by unfold R32; decide) (by decide) (by decide)) none_d149 (fun H locs hP hD hS => ?_)
  rw [oneB_s67] at hP hD
  refine lv_iinc hx hb none_d150 hl (k := 0) rfl (v := Int32.ofInt 4) (by decide) (Nat.le_of_ble_eq_true rfl) (lv' := [(1, .int (Int32.ofInt 4)), (0, .ref a)]) rfl (fun ls hl => ?_)
  have l0 := lv_at hl 1 rfl
  have l1 := lv_at hl 0 rfl
  refine lv_goto hx hb none_d153 (tgt := 132) rfl ?_
  refine lv_iload_n hx hb none_d132 rfl l1 ?_
  refine lv_iconst hx hb none_d133 (v := Int32.ofInt 4) rfl ?_
  refine lv_icmp_ge hx hb none_d134 (tgt := 156) rfl (fun _ => ?_) (fun hc => absurd (by decide) hc)
  have hw := one_hw D ff a q1 q2 q3 q4 q5 q6 q7 q8 q9 q10 q11 q12 q13 q14 q15 q16 q17 q18 u1 u2 u3 u4 u5 u10 u11 u12 u13 u14 u15 u16 u17 u18
  rw [one_flat2] at hP hD
  exact W.vret hx hb hr (fun t ht hW => ⟨⟨(oneAd a q1 q2 q3 q4 q5 q6 q7 q8 q9 q10 q11 q12 q13 q14 q15 q16 q17 q18 u1 u2 u3 u4 u5 u10 u11 u12 u13 u14 u15 u16 u17 u18), rfl, rfl, one_fin (H := t.heap) (by rw [ht]; exact hP) hD hw⟩, hS.F ht⟩) hS.2.2 none_d156 B.notSynchronized
end L4ONE2
