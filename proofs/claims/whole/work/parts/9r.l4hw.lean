section L4ONE
variable {p : Program} {l : Launch} {e : Env} {R : Room} {s : State} {m : MethodId} {args : Array Value} {below : List Frame} {meth : Method} {c : Code} {H H0 : Heap} {locs : List Loc} {cells slots : Nat} {Q : State → Prop} {cc : ByteArray} {pc : Nat} {ls : Array Slot} {D : va_G} {A : Nat → Prop} {a : Nat} {ff : Nat → ClassId} {ws : va_W} {rest : List Value} {own : String}
theorem gridC_at {q k : Nat} {x : Nat × va_E} (hk : (gridC ff q)[k]? = some x) : x.1 = q + k ∧ k < 21 := by
  cases k with
  | zero =>
    have : some (q, (.inl (ff 6, 20, .inr (.inr (.inr (.inr (gridF q))))) : va_E)) = some x := hk
    cases Option.some.inj this
    exact ⟨rfl, by omega⟩
  | succ k =>
    have h1 : ((List.range 20).map (fun j => ((q + 1 + j, .inl (ff 1, 3, .inl (fun _ => 0))) : Nat × va_E)))[k]? = some x := hk
    rw [List.getElem?_map] at h1
    cases h2 : (List.range 20)[k]? with
    | none => rw [h2] at h1; cases h1
    | some j =>
      rw [h2] at h1
      obtain ⟨h3, h4⟩ := List.getElem?_eq_some_iff.mp h2
      rw [List.getElem_range] at h4
      simp only [List.length_range] at h3
      cases Option.some.inj h1
      subst h4
      exact ⟨by show q + 1 + k = q + (k + 1); omega, by omega⟩
theorem n_grid {ix : Nat} (hx : p.tables.exec = Jvm.exec) (hb : c.code = cc) (hts : ∀ w ∈ wG, w.before args s = true) (hown : s.vm.findClass own = some m.cls) (hK : va_K D vwCl (tyN ff) s) (hAO : AO3 s) (hP : va_P D vwCl ws H) (hD : va_D A ws) (hS : va_S A H0 H locs) (hA : ∀ q, H0.size ≤ q → A q) (hw : Cond.classLink own ix ("[" ++ (FieldType.array .int).toString) ∈ lw_tbl) (hcells : cells + 21 ≤ R.cells) (hslots : slots + 80 ≤ R.slots) (hdg : decode cc pc = .ok (.multianewarray ix 2, 4))
    (kk : ∀ (q : Nat) (H1 : Heap), va_P D vwCl (ws ++ gridC ff q) H1 → va_D A (ws ++ gridC ff q) → va_S A H0 H1 locs → W p l e R s m args below meth c H1 locs (cells + 21) (slots + 80) Q (F0 m (pc + 4) ls (.ref q :: rest))) : W p l e R s m args below meth c H locs cells slots Q (F0 m pc ls (.int (Int32.ofInt 3) :: .int (Int32.ofInt 20) :: rest)) := by
  intro T hT X
  obtain ⟨cI, cA, kA, oI, oA, oK, oN⟩ := gd_over hAO.2.2
  obtain ⟨c1, kI, cE, f1, g1, d1⟩ := Cond.arrayClass_spec (hts _ (wG_of arr_in.1 rfl))
  have eC : cI = ff 1 := Option.some.inj (oI.symm.trans (hK.2 0 (ff 1, .int) rfl).2)
  have e1 : c1 = ff 1 := Option.some.inj (f1.symm.trans (hK.2 0 (ff 1, .int) rfl).2)
  have eA : cA = ff 6 := Option.some.inj (oN.symm.trans (hK.2 5 (ff 6, .array .int) rfl).2)
  subst eC e1 eA
  obtain ⟨vm₁, X1, step⟩ := gd_step X hx hown (hts _ (wG_of hw rfl)) oA oK oN g1 d1 (g := F0 m pc ls (.int (Int32.ofInt 3) :: .int (Int32.ofInt 20) :: rest)) rfl (by rw [hb]; exact hdg) rfl hcells hslots
  have hTH : (T.setVm vm₁).heap = H := hT
  obtain ⟨z1, z2, zo, zi, -⟩ := gd_holds (U := T.setVm vm₁) (cA := ff 6) (cI := ff 1) 20
  rw [hTH] at z1 z2 zo zi
  generalize gd_at (T.setVm vm₁) (ff 6) (ff 1) 20 = T1 at *
  have lt1 : ∀ (k : Nat) (x : Nat × va_E), ws[k]? = some x → x.1 < H.size := fun k x hk => (hP k x hk).lt
  have hP1 : va_P D vwCl (ws ++ gridC ff H.size) T1.heap := by
    refine va_P.app (hP.kept (fun k x hk => zo x.1 (lt1 k x hk))) (fun k x hk => ?_)
    obtain ⟨a1, a2⟩ := gridC_at hk
    cases k with
    | zero =>
      have : some (H.size, (.inl (ff 6, 20, .inr (.inr (.inr (.inr (gridF H.size))))) : va_E)) = some x := hk
      cases Option.some.inj this
      show T1.heap[H.size]? = some (vp_cell _ _)
      rw [z2, outer_arr]
    | succ k =>
      have h1 : ((List.range 20).map (fun j => ((H.size + 1 + j, .inl (ff 1, 3, .inl (fun _ => 0))) : Nat × va_E)))[k]? = some x := hk
      have h2 : x = (H.size + 1 + k, .inl (ff 1, 3, .inl (fun _ => 0))) := by
        rw [List.getElem?_map, List.getElem?_range (by omega)] at h1
        exact (Option.some.inj h1).symm
      subst h2
      exact zi k (by omega)
  have hD1 : va_D A (ws ++ gridC ff H.size) := by
    refine ⟨fun i j x y hi hj hxy => ?_, fun k x hk => ?_⟩
    · by_cases hi1 : i < ws.length
      · rw [List.getElem?_append_left hi1] at hi
        by_cases hj1 : j < ws.length
        · rw [List.getElem?_append_left hj1] at hj
          exact hD.1 i j x y hi hj hxy
        · rw [List.getElem?_append_right (by omega)] at hj
          have h1 := lt1 i x hi
          have h2 := (gridC_at hj).1
          omega
      · rw [List.getElem?_append_right (by omega)] at hi
        by_cases hj1 : j < ws.length
        · rw [List.getElem?_append_left hj1] at hj
          have h1 := lt1 j y hj
          have h2 := (gridC_at hi).1
          omega
        · rw [List.getElem?_append_right (by omega)] at hj
          have h1 := (gridC_at hi).1
          have h2 := (gridC_at hj).1
          omega
    · by_cases hk1 : k < ws.length
      · rw [List.getElem?_append_left hk1] at hk
        exact hD.2 k x hk
      · rw [List.getElem?_append_right (by omega)] at hk
        have h1 := (gridC_at hk).1
        exact hA _ (Nat.le_trans hS.1 (by omega))
  have hS1 : va_S A H0 T1.heap locs := ⟨Nat.le_trans hS.1 (by omega), fun x h1 h2 => (zo x (Nat.lt_of_lt_of_le h1 hS.1)).trans (hS.2.1 x h1 h2), hS.2.2⟩
  obtain ⟨t, a1, b1⟩ := kk H.size T1.heap hP1 hD1 hS1 T1 rfl X1
  rw [hT] at step
  exact ⟨t, step t a1, b1⟩
theorem n_refs {C : String} {ix t0 : Nat} (hx : p.tables.exec = Jvm.exec) (hb : c.code = cc) (hown : s.vm.findClass own = some m.cls) (hcl : (Cond.classLink own ix C).before args s = true) (hov : va_AO C s) (hK : va_K D vwCl (tyN ff) s) (ht : (tyN ff)[t0]? = some (ff (t0 + 1), .object C)) (hP : va_P D vwCl ws H) (hD : va_D A ws) (hS : va_S A H0 H locs) (hA : ∀ q, H0.size ≤ q → A q) (n : Nat) (hn : n ≤ 300) (hcells : cells + 1 ≤ R.cells) (hslots : slots + n ≤ R.slots) (hdg : decode cc pc = .ok (.anewarray ix, 3))
    (kk : ∀ (q : Nat) (H1 : Heap), va_P D vwCl (ws ++ [(q, .inl (ff (t0 + 1), n, .inr (.inr (.inr (.inr (fun _ => none))))))]) H1 → va_D A (ws ++ [(q, .inl (ff (t0 + 1), n, .inr (.inr (.inr (.inr (fun _ => none))))))]) → va_S A H0 H1 locs → W p l e R s m args below meth c H1 locs (cells + 1) (slots + n) Q (F0 m (pc + 3) ls (.ref q :: rest))) : W p l e R s m args below meth c H locs cells slots Q (F0 m pc ls (.int (Int32.ofInt (n : Int)) :: rest)) := by
  refine va_newq hx hb hown hcl hov hK hP hD hS hA (nn_ok hn).1 (nn_ok hn).2 (by omega) hcells hslots hdg (fun q cA H1 hK1 hP1 hD1 hS1 => ?_)
  obtain ⟨-, -, -, -, -, e1⟩ := (hK1.2 6 (cA, .object C) rfl).2
  obtain ⟨-, -, -, -, -, e2⟩ := (hK.2 t0 _ ht).2
  have e3 : cA = ff (t0 + 1) := Option.some.inj (Eq.trans (Eq.symm e1) e2)
  subst e3
  exact kk q H1 hP1 hD1 hS1
theorem none_d0 : decode prog_1_method_1_code 0 = .ok (.aload_n 0, 1) := by decide +kernel
theorem none_d1 : decode prog_1_method_1_code 1 = .ok (.invokespecial 1, 3) := by decide +kernel
theorem none_d4 : decode prog_1_method_1_code 4 = .ok (.aload_n 0, 1) := by decide +kernel
theorem none_d5 : decode prog_1_method_1_code 5 = .ok (.new 7, 3) := by decide +kernel
theorem none_d8 : decode prog_1_method_1_code 8 = .ok (.dup, 1) := by decide +kernel
theorem none_d9 : decode prog_1_method_1_code 9 = .ok (.invokespecial 9, 3) := by decide +kernel
theorem none_d12 : decode prog_1_method_1_code 12 = .ok (.putfield 10, 3) := by decide +kernel
theorem none_d15 : decode prog_1_method_1_code 15 = .ok (.aload_n 0, 1) := by decide +kernel
theorem none_d16 : decode prog_1_method_1_code 16 = .ok (.new 7, 3) := by decide +kernel
theorem none_d19 : decode prog_1_method_1_code 19 = .ok (.dup, 1) := by decide +kernel
theorem none_d20 : decode prog_1_method_1_code 20 = .ok (.invokespecial 9, 3) := by decide +kernel
theorem none_d23 : decode prog_1_method_1_code 23 = .ok (.putfield 16, 3) := by decide +kernel
theorem none_d26 : decode prog_1_method_1_code 26 = .ok (.aload_n 0, 1) := by decide +kernel
theorem none_d27 : decode prog_1_method_1_code 27 = .ok (.new 7, 3) := by decide +kernel
theorem none_d30 : decode prog_1_method_1_code 30 = .ok (.dup, 1) := by decide +kernel
theorem none_d31 : decode prog_1_method_1_code 31 = .ok (.invokespecial 9, 3) := by decide +kernel
theorem none_d34 : decode prog_1_method_1_code 34 = .ok (.putfield 19, 3) := by decide +kernel
theorem none_d37 : decode prog_1_method_1_code 37 = .ok (.aload_n 0, 1) := by decide +kernel
theorem none_d38 : decode prog_1_method_1_code 38 = .ok (.new 22, 3) := by decide +kernel
theorem none_d41 : decode prog_1_method_1_code 41 = .ok (.dup, 1) := by decide +kernel
theorem none_d42 : decode prog_1_method_1_code 42 = .ok (.invokespecial 24, 3) := by decide +kernel
theorem none_d45 : decode prog_1_method_1_code 45 = .ok (.putfield 25, 3) := by decide +kernel
theorem none_d48 : decode prog_1_method_1_code 48 = .ok (.aload_n 0, 1) := by decide +kernel
theorem none_d49 : decode prog_1_method_1_code 49 = .ok (.new 29, 3) := by decide +kernel
theorem none_d52 : decode prog_1_method_1_code 52 = .ok (.dup, 1) := by decide +kernel
theorem none_d53 : decode prog_1_method_1_code 53 = .ok (.invokespecial 31, 3) := by decide +kernel
theorem none_d56 : decode prog_1_method_1_code 56 = .ok (.putfield 32, 3) := by decide +kernel
theorem none_d59 : decode prog_1_method_1_code 59 = .ok (.aload_n 0, 1) := by decide +kernel
theorem none_d60 : decode prog_1_method_1_code 60 = .ok (.bipush 20, 2) := by decide +kernel
theorem none_d62 : decode prog_1_method_1_code 62 = .ok (.iconst 3, 1) := by decide +kernel
theorem none_d63 : decode prog_1_method_1_code 63 = .ok (.multianewarray 36 2, 4) := by decide +kernel
theorem none_d67 : decode prog_1_method_1_code 67 = .ok (.putfield 38, 3) := by decide +kernel
theorem none_d70 : decode prog_1_method_1_code 70 = .ok (.aload_n 0, 1) := by decide +kernel
theorem none_d71 : decode prog_1_method_1_code 71 = .ok (.iconst 3, 1) := by decide +kernel
theorem none_d72 : decode prog_1_method_1_code 72 = .ok (.newarray .int, 2) := by decide +kernel
theorem none_d74 : decode prog_1_method_1_code 74 = .ok (.putfield 41, 3) := by decide +kernel
theorem none_d77 : decode prog_1_method_1_code 77 = .ok (.aload_n 0, 1) := by decide +kernel
theorem none_d78 : decode prog_1_method_1_code 78 = .ok (.iconst 4, 1) := by decide +kernel
theorem none_d79 : decode prog_1_method_1_code 79 = .ok (.anewarray 45, 3) := by decide +kernel
theorem none_d82 : decode prog_1_method_1_code 82 = .ok (.putfield 47, 3) := by decide +kernel
theorem none_d85 : decode prog_1_method_1_code 85 = .ok (.aload_n 0, 1) := by decide +kernel
theorem none_d86 : decode prog_1_method_1_code 86 = .ok (.iconst 4, 1) := by decide +kernel
theorem none_d87 : decode prog_1_method_1_code 87 = .ok (.anewarray 51, 3) := by decide +kernel
theorem none_d90 : decode prog_1_method_1_code 90 = .ok (.putfield 53, 3) := by decide +kernel
theorem none_d93 : decode prog_1_method_1_code 93 = .ok (.aload_n 0, 1) := by decide +kernel
theorem none_d94 : decode prog_1_method_1_code 94 = .ok (.new 57, 3) := by decide +kernel
theorem none_d97 : decode prog_1_method_1_code 97 = .ok (.dup, 1) := by decide +kernel
theorem none_d98 : decode prog_1_method_1_code 98 = .ok (.invokespecial 59, 3) := by decide +kernel
theorem none_d101 : decode prog_1_method_1_code 101 = .ok (.putfield 60, 3) := by decide +kernel
theorem none_d104 : decode prog_1_method_1_code 104 = .ok (.iconst 0, 1) := by decide +kernel
theorem none_d105 : decode prog_1_method_1_code 105 = .ok (.istore_n 1, 1) := by decide +kernel
theorem none_d106 : decode prog_1_method_1_code 106 = .ok (.iload_n 1, 1) := by decide +kernel
theorem none_d107 : decode prog_1_method_1_code 107 = .ok (.iconst 4, 1) := by decide +kernel
theorem none_d108 : decode prog_1_method_1_code 108 = .ok (.if_icmp .ge 22, 3) := by decide +kernel
theorem none_d111 : decode prog_1_method_1_code 111 = .ok (.aload_n 0, 1) := by decide +kernel
theorem none_d112 : decode prog_1_method_1_code 112 = .ok (.getfield 47, 3) := by decide +kernel
theorem none_d115 : decode prog_1_method_1_code 115 = .ok (.iload_n 1, 1) := by decide +kernel
theorem none_d116 : decode prog_1_method_1_code 116 = .ok (.new 45, 3) := by decide +kernel
theorem none_d119 : decode prog_1_method_1_code 119 = .ok (.dup, 1) := by decide +kernel
theorem none_d120 : decode prog_1_method_1_code 120 = .ok (.invokespecial 64, 3) := by decide +kernel
theorem none_d123 : decode prog_1_method_1_code 123 = .ok (.aastore, 1) := by decide +kernel
theorem none_d124 : decode prog_1_method_1_code 124 = .ok (.iinc 1 1, 3) := by decide +kernel
theorem none_d127 : decode prog_1_method_1_code 127 = .ok (.goto (-21), 3) := by decide +kernel
theorem none_d130 : decode prog_1_method_1_code 130 = .ok (.iconst 0, 1) := by decide +kernel
theorem none_d131 : decode prog_1_method_1_code 131 = .ok (.istore_n 1, 1) := by decide +kernel
theorem none_d132 : decode prog_1_method_1_code 132 = .ok (.iload_n 1, 1) := by decide +kernel
theorem none_d133 : decode prog_1_method_1_code 133 = .ok (.iconst 4, 1) := by decide +kernel
theorem none_d134 : decode prog_1_method_1_code 134 = .ok (.if_icmp .ge 22, 3) := by decide +kernel
theorem none_d137 : decode prog_1_method_1_code 137 = .ok (.aload_n 0, 1) := by decide +kernel
theorem none_d138 : decode prog_1_method_1_code 138 = .ok (.getfield 53, 3) := by decide +kernel
theorem none_d141 : decode prog_1_method_1_code 141 = .ok (.iload_n 1, 1) := by decide +kernel
theorem none_d142 : decode prog_1_method_1_code 142 = .ok (.new 51, 3) := by decide +kernel
theorem none_d145 : decode prog_1_method_1_code 145 = .ok (.dup, 1) := by decide +kernel
theorem none_d146 : decode prog_1_method_1_code 146 = .ok (.invokespecial 65, 3) := by decide +kernel
theorem none_d149 : decode prog_1_method_1_code 149 = .ok (.aastore, 1) := by decide +kernel
theorem none_d150 : decode prog_1_method_1_code 150 = .ok (.iinc 1 1, 3) := by decide +kernel
theorem none_d153 : decode prog_1_method_1_code 153 = .ok (.goto (-21), 3) := by decide +kernel
theorem none_d156 : decode prog_1_method_1_code 156 = .ok (.return_, 1) := by decide +kernel
theorem none_t11 : tyCl 6 11 = .object "OneStair$Actor" := by decide +kernel
theorem none_t2 : tyCl 6 2 = .object "OneStair$Tower" := by decide +kernel
theorem none_t0 : tyCl 6 0 = .object "OneStair$Tower" := by decide +kernel
theorem none_t7 : tyCl 6 7 = .array .int := by decide +kernel
theorem none_t6 : tyCl 6 6 = .array (.array .int) := by decide +kernel
theorem none_t9 : tyCl 6 9 = .array (.object "OneStair$Sheet") := by decide +kernel
theorem none_t10 : tyCl 6 10 = .array (.object "OneStair$Shelf") := by decide +kernel
theorem none_t4 : tyCl 6 4 = .object "OneStair$Stair" := by decide +kernel
theorem none_t5 : tyCl 6 5 = .object "OneStair$Text" := by decide +kernel
theorem none_t1 : tyCl 6 1 = .object "OneStair$Tower" := by decide +kernel
theorem none_ow : Cond.methodLink "OneStair" 1 Lib.objectInit ∈ lw_tbl ∧ Cond.instanceMethod Lib.objectInit ∈ lw_tbl ∧ Cond.code Lib.objectInit ⟨#[0xb1]⟩ 1 none ∈ lw_tbl := by decide +kernel
theorem none_wX6 : Cond.classLink "OneStair" 7 (vwCl.getD 5 ("", TX1, 0)).1 ∈ lw_tbl ∧ Cond.instantiable (vwCl.getD 5 ("", TX1, 0)).1 (vwCl.getD 5 ("", TX1, 0)).2.2 ∈ lw_tbl ∧ Cond.initialized (vwCl.getD 5 ("", TX1, 0)).1 ∈ lw_tbl ∧ Cond.code ⟨RX6, "<init>", "()V"⟩ prog_8_method_1_code 1 none ∈ lw_tbl ∧ Cond.instanceMethod ⟨RX6, "<init>", "()V"⟩ ∈ lw_tbl ∧ Cond.initialized (⟨RX6, "<init>", "()V"⟩ : MethodName).cls ∈ lw_tbl := by decide +kernel
theorem none_fX6 : ∀ j, j < (vwCl.getD 5 ("", TX1, 0)).2.2 → defaultValue (tyCl 5 j) = vp_V [.int 0, .null, .null, .null, .null, .null, .null, .null, .int 0, .null, .null, .null, .int 0, .int 0, .int 0] j := by decide +kernel
theorem none_wX4 : Cond.classLink "OneStair" 22 (vwCl.getD 3 ("", TX1, 0)).1 ∈ lw_tbl ∧ Cond.instantiable (vwCl.getD 3 ("", TX1, 0)).1 (vwCl.getD 3 ("", TX1, 0)).2.2 ∈ lw_tbl ∧ Cond.initialized (vwCl.getD 3 ("", TX1, 0)).1 ∈ lw_tbl ∧ Cond.code ⟨RX4, "<init>", "()V"⟩ prog_6_method_1_code 1 none ∈ lw_tbl ∧ Cond.instanceMethod ⟨RX4, "<init>", "()V"⟩ ∈ lw_tbl ∧ Cond.initialized (⟨RX4, "<init>", "()V"⟩ : MethodName).cls ∈ lw_tbl := by decide +kernel
theorem none_fX4 : ∀ j, j < (vwCl.getD 3 ("", TX1, 0)).2.2 → defaultValue (tyCl 3 j) = vp_V [.null, .null, .null, .null, .null, .null, .null, .int 0, .int 0] j := by decide +kernel
theorem none_wX5 : Cond.classLink "OneStair" 29 (vwCl.getD 4 ("", TX1, 0)).1 ∈ lw_tbl ∧ Cond.instantiable (vwCl.getD 4 ("", TX1, 0)).1 (vwCl.getD 4 ("", TX1, 0)).2.2 ∈ lw_tbl ∧ Cond.initialized (vwCl.getD 4 ("", TX1, 0)).1 ∈ lw_tbl ∧ Cond.code ⟨RX5, "<init>", "()V"⟩ prog_7_method_1_code 1 none ∈ lw_tbl ∧ Cond.instanceMethod ⟨RX5, "<init>", "()V"⟩ ∈ lw_tbl ∧ Cond.initialized (⟨RX5, "<init>", "()V"⟩ : MethodName).cls ∈ lw_tbl := by decide +kernel
theorem none_fX5 : ∀ j, j < (vwCl.getD 4 ("", TX1, 0)).2.2 → defaultValue (tyCl 4 j) = vp_V [.null, .int 0, .int 0, .int 0, .int 0] j := by decide +kernel
theorem none_wX0 : Cond.classLink "OneStair" 57 (vwCl.getD 0 ("", TX1, 0)).1 ∈ lw_tbl ∧ Cond.instantiable (vwCl.getD 0 ("", TX1, 0)).1 (vwCl.getD 0 ("", TX1, 0)).2.2 ∈ lw_tbl ∧ Cond.initialized (vwCl.getD 0 ("", TX1, 0)).1 ∈ lw_tbl ∧ Cond.code ⟨RX0, "<init>", "()V"⟩ prog_2_method_1_code 1 none ∈ lw_tbl ∧ Cond.instanceMethod ⟨RX0, "<init>", "()V"⟩ ∈ lw_tbl ∧ Cond.initialized (⟨RX0, "<init>", "()V"⟩ : MethodName).cls ∈ lw_tbl := by decide +kernel
theorem none_fX0 : ∀ j, j < (vwCl.getD 0 ("", TX1, 0)).2.2 → defaultValue (tyCl 0 j) = vp_V [.int 0, .int 0, .int 0, .null, .int 0, .int 0] j := by decide +kernel
theorem none_wX2 : Cond.classLink "OneStair" 45 (vwCl.getD 1 ("", TX1, 0)).1 ∈ lw_tbl ∧ Cond.instantiable (vwCl.getD 1 ("", TX1, 0)).1 (vwCl.getD 1 ("", TX1, 0)).2.2 ∈ lw_tbl ∧ Cond.initialized (vwCl.getD 1 ("", TX1, 0)).1 ∈ lw_tbl ∧ Cond.code ⟨RX2, "<init>", "()V"⟩ prog_4_method_1_code 1 none ∈ lw_tbl ∧ Cond.instanceMethod ⟨RX2, "<init>", "()V"⟩ ∈ lw_tbl ∧ Cond.initialized (⟨RX2, "<init>", "()V"⟩ : MethodName).cls ∈ lw_tbl := by decide +kernel
theorem none_fX2 : ∀ j, j < (vwCl.getD 1 ("", TX1, 0)).2.2 → defaultValue (tyCl 1 j) = vp_V [.int 0, .int 0, .null] j := by decide +kernel
theorem none_wX3 : Cond.classLink "OneStair" 51 (vwCl.getD 2 ("", TX1, 0)).1 ∈ lw_tbl ∧ Cond.instantiable (vwCl.getD 2 ("", TX1, 0)).1 (vwCl.getD 2 ("", TX1, 0)).2.2 ∈ lw_tbl ∧ Cond.initialized (vwCl.getD 2 ("", TX1, 0)).1 ∈ lw_tbl ∧ Cond.code ⟨RX3, "<init>", "()V"⟩ prog_5_method_1_code 1 none ∈ lw_tbl ∧ Cond.instanceMethod ⟨RX3, "<init>", "()V"⟩ ∈ lw_tbl ∧ Cond.initialized (⟨RX3, "<init>", "()V"⟩ : MethodName).cls ∈ lw_tbl := by decide +kernel
theorem none_fX3 : ∀ j, j < (vwCl.getD 2 ("", TX1, 0)).2.2 → defaultValue (tyCl 2 j) = vp_V [.int 0, .int 0, .int 0, .int 0] j := by decide +kernel
theorem none_g9 : Cond.fieldLink "OneStair" 47 "OneStair" "sheets" "[LOneStair$Sheet;" ∈ lw_tbl := by decide +kernel
theorem none_g10 : Cond.fieldLink "OneStair" 53 "OneStair" "shelves" "[LOneStair$Shelf;" ∈ lw_tbl := by decide +kernel
def oneP : List Nat := [0, 1, 2, 3, 4, 5, 6, 7, 8, 9, 10, 11, 12, 13, 14, 15, 16, 17, 18, 19, 20, 21, 22, 23, 24, 25, 26, 27, 28, 29, 30, 31, 32, 33, 34, 35, 36, 37, 38, 39, 40, 41, 42, 43, 44, 45, 46, 47, 48, 49, 50, 51, 52, 53, 54, 55, 56, 57, 58, 59, 60, 61, 62, 63, 64, 65, 66, 70, 71, 72, 73, 74, 75, 76, 77, 67, 78, 79, 80, 81, 68, 69]
theorem one_inj : ∀ i, i < 82 → ∀ j, j < 82 → oneP.getD i 0 = oneP.getD j 0 → i = j := by decide +kernel
theorem one_fin {ad : List Nat} {A1 : Nat → Prop} (hP : va_P D vwCl ws H) (hD : va_D A1 ws) (hw : ∀ k ∈ List.range 82, ws[oneP.getD k 0]? = some (ad.getD k 0, cellG (D, fun k => ad.getD k 0, ff) hI k)) : va_P D vwCl ((List.range 82).map (fun k => (ad.getD k 0, cellG (D, fun k => ad.getD k 0, ff) hI k))) H ∧ va_D A1 ((List.range 82).map (fun k => (ad.getD k 0, cellG (D, fun k => ad.getD k 0, ff) hI k))) := by
  have key : ∀ (k : Nat) (q : Nat × va_E), ((List.range 82).map (fun k => (ad.getD k 0, cellG (D, fun k => ad.getD k 0, ff) hI k)))[k]? = some q → k < 82 ∧ ws[oneP.getD k 0]? = some q := by
    intro k q hk
    rw [List.getElem?_map] at hk
    cases h2 : (List.range 82)[k]? with
    | none => rw [h2] at hk; cases hk
    | some j =>
      rw [h2] at hk
      obtain ⟨h3, h4⟩ := List.getElem?_eq_some_iff.mp h2
      rw [List.getElem_range] at h4
      simp only [List.length_range] at h3
      subst h4
      cases Option.some.inj hk
      exact ⟨h3, hw k (List.mem_range.mpr h3)⟩
  refine ⟨fun k q hk => hP _ q (key k q hk).2, fun i j p1 q1 hi hj hpq => ?_, fun k q hk => hD.2 _ q (key k q hk).2⟩
  obtain ⟨i1, i2⟩ := key i p1 hi
  obtain ⟨j1, j2⟩ := key j q1 hj
  exact one_inj i i1 j j1 (hD.1 _ _ p1 q1 i2 j2 hpq)
theorem up4 (g : Nat → Option Nat) (a0 a1 a2 a3 : Nat) (h0 : g 0 = some a0) (h1 : g 1 = some a1) (h2 : g 2 = some a2) (h3 : g 3 = some a3) (hn : ∀ i, 4 ≤ i → g i = none) : va_up (va_up (va_up (va_up (fun _ => none) (Int32.ofInt 0).toNatClampNeg (some a0)) (Int32.ofInt 1).toNatClampNeg (some a1)) (Int32.ofInt 2).toNatClampNeg (some a2)) (Int32.ofInt 3).toNatClampNeg (some a3) = g := by
  funext i
  have e0 : (Int32.ofInt 0).toNatClampNeg = 0 := by decide
  have e1 : (Int32.ofInt 1).toNatClampNeg = 1 := by decide
  have e2 : (Int32.ofInt 2).toNatClampNeg = 2 := by decide
  have e3 : (Int32.ofInt 3).toNatClampNeg = 3 := by decide
  rw [e0, e1, e2, e3]
  unfold va_up
  by_cases c3 : i = 3
  · subst c3; simp [h3]
  by_cases c2 : i = 2
  · subst c2; simp [h2]
  by_cases c1 : i = 1
  · subst c1; simp [h1]
  by_cases c0 : i = 0
  · subst c0; simp [h0]
  rw [hn i (by omega)]
  simp [c0, c1, c2, c3]
theorem cell_ref {G : GD} {k t n b st : Nat} (hs : sh k = (t, n, [b, st])) (ht : 4 ≤ t) : cellG G hI k = .inl (G.2.2 t, n, .inr (.inr (.inr (.inr (fun i => if i < n then some (G.2.1 (b + st * i)) else none))))) := by
  have h1 : (sh k).1 = t := by rw [hs]
  rw [cellG_q h1 ht, hs]
  rfl
theorem grid_up (g : Nat → Option Nat) (q : Nat) (h : ∀ i ∈ [0, 1, 2, 3, 4, 5, 6, 7, 8, 9, 10, 11, 12, 13, 14, 15, 16, 17, 18, 19], g i = some (q + 1 + i)) (hn : ∀ i, 20 ≤ i → g i = none) : gridF q = g := by
  funext i
  unfold gridF
  by_cases c : i < 20
  · rw [if_pos c, h i (show i ∈ List.range 20 from List.mem_range.mpr c)]
  · rw [if_neg c, hn i (by omega)]
theorem one_all {P : Nat → Prop} (h : P 0 ∧ P 1 ∧ P 2 ∧ P 3 ∧ P 4 ∧ P 5 ∧ P 6 ∧ P 7 ∧ P 8 ∧ P 9 ∧ P 10 ∧ P 11 ∧ P 12 ∧ P 13 ∧ P 14 ∧ P 15 ∧ P 16 ∧ P 17 ∧ P 18 ∧ P 19 ∧ P 20 ∧ P 21 ∧ P 22 ∧ P 23 ∧ P 24 ∧ P 25 ∧ P 26 ∧ P 27 ∧ P 28 ∧ P 29 ∧ P 30 ∧ P 31 ∧ P 32 ∧ P 33 ∧ P 34 ∧ P 35 ∧ P 36 ∧ P 37 ∧ P 38 ∧ P 39 ∧ P 40 ∧ P 41 ∧ P 42 ∧ P 43 ∧ P 44 ∧ P 45 ∧ P 46 ∧ P 47 ∧ P 48 ∧ P 49 ∧ P 50 ∧ P 51 ∧ P 52 ∧ P 53 ∧ P 54 ∧ P 55 ∧ P 56 ∧ P 57 ∧ P 58 ∧ P 59 ∧ P 60 ∧ P 61 ∧ P 62 ∧ P 63 ∧ P 64 ∧ P 65 ∧ P 66 ∧ P 67 ∧ P 68 ∧ P 69 ∧ P 70 ∧ P 71 ∧ P 72 ∧ P 73 ∧ P 74 ∧ P 75 ∧ P 76 ∧ P 77 ∧ P 78 ∧ P 79 ∧ P 80 ∧ P 81) : ∀ k ∈ List.range 82, P k := by
  obtain ⟨h0, h1, h2, h3, h4, h5, h6, h7, h8, h9, h10, h11, h12, h13, h14, h15, h16, h17, h18, h19, h20, h21, h22, h23, h24, h25, h26, h27, h28, h29, h30, h31, h32, h33, h34, h35, h36, h37, h38, h39, h40, h41, h42, h43, h44, h45, h46, h47, h48, h49, h50, h51, h52, h53, h54, h55, h56, h57, h58, h59, h60, h61, h62, h63, h64, h65, h66, h67, h68, h69, h70, h71, h72, h73, h74, h75, h76, h77, h78, h79, h80, h81⟩ := h
  show ∀ k ∈ [0, 1, 2, 3, 4, 5, 6, 7, 8, 9, 10, 11, 12, 13, 14, 15, 16, 17, 18, 19, 20, 21, 22, 23, 24, 25, 26, 27, 28, 29, 30, 31, 32, 33, 34, 35, 36, 37, 38, 39, 40, 41, 42, 43, 44, 45, 46, 47, 48, 49, 50, 51, 52, 53, 54, 55, 56, 57, 58, 59, 60, 61, 62, 63, 64, 65, 66, 67, 68, 69, 70, 71, 72, 73, 74, 75, 76, 77, 78, 79, 80, 81], P k
  exact List.forall_mem_cons.mpr ⟨h0, List.forall_mem_cons.mpr ⟨h1, List.forall_mem_cons.mpr ⟨h2, List.forall_mem_cons.mpr ⟨h3, List.forall_mem_cons.mpr ⟨h4, List.forall_mem_cons.mpr ⟨h5, List.forall_mem_cons.mpr ⟨h6, List.forall_mem_cons.mpr ⟨h7, List.forall_mem_cons.mpr ⟨h8, List.forall_mem_cons.mpr ⟨h9, List.forall_mem_cons.mpr ⟨h10, List.forall_mem_cons.mpr ⟨h11, List.forall_mem_cons.mpr ⟨h12, List.forall_mem_cons.mpr ⟨h13, List.forall_mem_cons.mpr ⟨h14, List.forall_mem_cons.mpr ⟨h15, List.forall_mem_cons.mpr ⟨h16, List.forall_mem_cons.mpr ⟨h17, List.forall_mem_cons.mpr ⟨h18, List.forall_mem_cons.mpr ⟨h19, List.forall_mem_cons.mpr ⟨h20, List.forall_mem_cons.mpr ⟨h21, List.forall_mem_cons.mpr ⟨h22, List.forall_mem_cons.mpr ⟨h23, List.forall_mem_cons.mpr ⟨h24, List.forall_mem_cons.mpr ⟨h25, List.forall_mem_cons.mpr ⟨h26, List.forall_mem_cons.mpr ⟨h27, List.forall_mem_cons.mpr ⟨h28, List.forall_mem_cons.mpr ⟨h29, List.forall_mem_cons.mpr ⟨h30, List.forall_mem_cons.mpr ⟨h31, List.forall_mem_cons.mpr ⟨h32, List.forall_mem_cons.mpr ⟨h33, List.forall_mem_cons.mpr ⟨h34, List.forall_mem_cons.mpr ⟨h35, List.forall_mem_cons.mpr ⟨h36, List.forall_mem_cons.mpr ⟨h37, List.forall_mem_cons.mpr ⟨h38, List.forall_mem_cons.mpr ⟨h39, List.forall_mem_cons.mpr ⟨h40, List.forall_mem_cons.mpr ⟨h41, List.forall_mem_cons.mpr ⟨h42, List.forall_mem_cons.mpr ⟨h43, List.forall_mem_cons.mpr ⟨h44, List.forall_mem_cons.mpr ⟨h45, List.forall_mem_cons.mpr ⟨h46, List.forall_mem_cons.mpr ⟨h47, List.forall_mem_cons.mpr ⟨h48, List.forall_mem_cons.mpr ⟨h49, List.forall_mem_cons.mpr ⟨h50, List.forall_mem_cons.mpr ⟨h51, List.forall_mem_cons.mpr ⟨h52, List.forall_mem_cons.mpr ⟨h53, List.forall_mem_cons.mpr ⟨h54, List.forall_mem_cons.mpr ⟨h55, List.forall_mem_cons.mpr ⟨h56, List.forall_mem_cons.mpr ⟨h57, List.forall_mem_cons.mpr ⟨h58, List.forall_mem_cons.mpr ⟨h59, List.forall_mem_cons.mpr ⟨h60, List.forall_mem_cons.mpr ⟨h61, List.forall_mem_cons.mpr ⟨h62, List.forall_mem_cons.mpr ⟨h63, List.forall_mem_cons.mpr ⟨h64, List.forall_mem_cons.mpr ⟨h65, List.forall_mem_cons.mpr ⟨h66, List.forall_mem_cons.mpr ⟨h67, List.forall_mem_cons.mpr ⟨h68, List.forall_mem_cons.mpr ⟨h69, List.forall_mem_cons.mpr ⟨h70, List.forall_mem_cons.mpr ⟨h71, List.forall_mem_cons.mpr ⟨h72, List.forall_mem_cons.mpr ⟨h73, List.forall_mem_cons.mpr ⟨h74, List.forall_mem_cons.mpr ⟨h75, List.forall_mem_cons.mpr ⟨h76, List.forall_mem_cons.mpr ⟨h77, List.forall_mem_cons.mpr ⟨h78, List.forall_mem_cons.mpr ⟨h79, List.forall_mem_cons.mpr ⟨h80, List.forall_mem_cons.mpr ⟨h81, fun _ h => absurd h List.not_mem_nil⟩⟩⟩⟩⟩⟩⟩⟩⟩⟩⟩⟩⟩⟩⟩⟩⟩⟩⟩⟩⟩⟩⟩⟩⟩⟩⟩⟩⟩⟩⟩⟩⟩⟩⟩⟩⟩⟩⟩⟩⟩⟩⟩⟩⟩⟩⟩⟩⟩⟩⟩⟩⟩⟩⟩⟩⟩⟩⟩⟩⟩⟩⟩⟩⟩⟩⟩⟩⟩⟩⟩⟩⟩⟩⟩⟩⟩⟩⟩⟩⟩⟩
def oneAd (a q1 q2 q3 q4 q5 q6 q7 q8 q9 q10 q11 q12 q13 q14 q15 q16 q17 q18 : Nat) (u1 u2 u3 u4 u5 u10 u11 u12 u13 u14 u15 u16 u17 u18 : List Nat) : List Nat := [a, q1, (u1.getD 0 0), (u1.getD 1 0), (u1.getD 2 0), (u1.getD 3 0), (u1.getD 4 0), (u1.getD 5 0), (u1.getD 6 0), (u1.getD 7 0), (u1.getD 8 0), (u1.getD 9 0), q2, (u2.getD 0 0), (u2.getD 1 0), (u2.getD 2 0), (u2.getD 3 0), (u2.getD 4 0), (u2.getD 5 0), (u2.getD 6 0), (u2.getD 7 0), (u2.getD 8 0), (u2.getD 9 0), q3, (u3.getD 0 0), (u3.getD 1 0), (u3.getD 2 0), (u3.getD 3 0), (u3.getD 4 0), (u3.getD 5 0), (u3.getD 6 0), (u3.getD 7 0), (u3.getD 8 0), (u3.getD 9 0), q4, (u4.getD 0 0), (u4.getD 1 0), (u4.getD 2 0), (u4.getD 3 0), (u4.getD 4 0), (u4.getD 5 0), (u4.getD 6 0), q5, (u5.getD 0 0), q6, (q6 + 1 + 0), (q6 + 1 + 1), (q6 + 1 + 2), (q6 + 1 + 3), (q6 + 1 + 4), (q6 + 1 + 5), (q6 + 1 + 6), (q6 + 1 + 7), (q6 + 1 + 8), (q6 + 1 + 9), (q6 + 1 + 10), (q6 + 1 + 11), (q6 + 1 + 12), (q6 + 1 + 13), (q6 + 1 + 14), (q6 + 1 + 15), (q6 + 1 + 16), (q6 + 1 + 17), (q6 + 1 + 18), (q6 + 1 + 19), q7, q8, q11, (u11.getD 0 0), q12, (u12.getD 0 0), q13, (u13.getD 0 0), q14, (u14.getD 0 0), q9, q15, q16, q17, q18, q10, (u10.getD 0 0)]
def oneE (ff : Nat → ClassId) (a q1 q2 q3 q4 q5 q6 q7 q8 q9 q10 q11 q12 q13 q14 q15 q16 q17 q18 : Nat) (u1 u2 u3 u4 u5 u10 u11 u12 u13 u14 u15 u16 u17 u18 : List Nat) : va_W := [(a, .inr (6, [.ref q1, .ref q2, .ref q3, .int 0, .ref q4, .ref q5, .ref q6, .ref q7, .int 0, .ref q8, .ref q9, .ref q10])), (q1, .inr (5, [.int 0, .ref (u1.getD 0 0), .ref (u1.getD 1 0), .ref (u1.getD 2 0), .ref (u1.getD 3 0), .ref (u1.getD 4 0), .ref (u1.getD 5 0), .ref (u1.getD 6 0), .int 0, .ref (u1.getD 7 0), .ref (u1.getD 8 0), .ref (u1.getD 9 0), .int (Int32.ofInt (2)), .int 0, .int (Int32.ofInt (1))])), (u1.getD 0 0, .inl (ff 1, 8, .inl (fun _ => 0))), (u1.getD 1 0, .inl (ff 1, 8, .inl (fun _ => 0))), (u1.getD 2 0, .inl (ff 1, 8, .inl (fun _ => 0))), (u1.getD 3 0, .inl (ff 1, 8, .inl (fun _ => 0))), (u1.getD 4 0, .inl (ff 1, 8, .inl (fun _ => 0))), (u1.getD 5 0, .inl (ff 1, 8, .inl (fun _ => 0))), (u1.getD 6 0, .inl (ff 1, 8, .inl (fun _ => 0))), (u1.getD 7 0, .inl (ff 1, 4, .inl (fun _ => 0))), (u1.getD 8 0, .inl (ff 1, 4, .inl (fun _ => 0))), (u1.getD 9 0, .inl (ff 1, 4, .inl (fun _ => 0))), (q2, .inr (5, [.int 0, .ref (u2.getD 0 0), .ref (u2.getD 1 0), .ref (u2.getD 2 0), .ref (u2.getD 3 0), .ref (u2.getD 4 0), .ref (u2.getD 5 0), .ref (u2.getD 6 0), .int 0, .ref (u2.getD 7 0), .ref (u2.getD 8 0), .ref (u2.getD 9 0), .int (Int32.ofInt (2)), .int 0, .int (Int32.ofInt (1))])), (u2.getD 0 0, .inl (ff 1, 8, .inl (fun _ => 0))), (u2.getD 1 0, .inl (ff 1, 8, .inl (fun _ => 0))), (u2.getD 2 0, .inl (ff 1, 8, .inl (fun _ => 0))), (u2.getD 3 0, .inl (ff 1, 8, .inl (fun _ => 0))), (u2.getD 4 0, .inl (ff 1, 8, .inl (fun _ => 0))), (u2.getD 5 0, .inl (ff 1, 8, .inl (fun _ => 0))), (u2.getD 6 0, .inl (ff 1, 8, .inl (fun _ => 0))), (u2.getD 7 0, .inl (ff 1, 4, .inl (fun _ => 0))), (u2.getD 8 0, .inl (ff 1, 4, .inl (fun _ => 0))), (u2.getD 9 0, .inl (ff 1, 4, .inl (fun _ => 0))), (q3, .inr (5, [.int 0, .ref (u3.getD 0 0), .ref (u3.getD 1 0), .ref (u3.getD 2 0), .ref (u3.getD 3 0), .ref (u3.getD 4 0), .ref (u3.getD 5 0), .ref (u3.getD 6 0), .int 0, .ref (u3.getD 7 0), .ref (u3.getD 8 0), .ref (u3.getD 9 0), .int (Int32.ofInt (2)), .int 0, .int (Int32.ofInt (1))])), (u3.getD 0 0, .inl (ff 1, 8, .inl (fun _ => 0))), (u3.getD 1 0, .inl (ff 1, 8, .inl (fun _ => 0))), (u3.getD 2 0, .inl (ff 1, 8, .inl (fun _ => 0))), (u3.getD 3 0, .inl (ff 1, 8, .inl (fun _ => 0))), (u3.getD 4 0, .inl (ff 1, 8, .inl (fun _ => 0))), (u3.getD 5 0, .inl (ff 1, 8, .inl (fun _ => 0))), (u3.getD 6 0, .inl (ff 1, 8, .inl (fun _ => 0))), (u3.getD 7 0, .inl (ff 1, 4, .inl (fun _ => 0))), (u3.getD 8 0, .inl (ff 1, 4, .inl (fun _ => 0))), (u3.getD 9 0, .inl (ff 1, 4, .inl (fun _ => 0))), (q4, .inr (3, [.ref (u4.getD 0 0), .ref (u4.getD 1 0), .ref (u4.getD 2 0), .ref (u4.getD 3 0), .ref (u4.getD 4 0), .ref (u4.getD 5 0), .ref (u4.getD 6 0), .int 0, .int 0])), (u4.getD 0 0, .inl (ff 1, 8, .inl (fun _ => 0))), (u4.getD 1 0, .inl (ff 1, 8, .inl (fun _ => 0))), (u4.getD 2 0, .inl (ff 1, 8, .inl (fun _ => 0))), (u4.getD 3 0, .inl (ff 1, 8, .inl (fun _ => 0))), (u4.getD 4 0, .inl (ff 1, 9, .inl (fun _ => 0))), (u4.getD 5 0, .inl (ff 1, 9, .inl (fun _ => 0))), (u4.getD 6 0, .inl (ff 1, 9, .inl (fun _ => 0))), (q5, .inr (4, [.ref (u5.getD 0 0), .int 0, .int 0, .int 0, .int 0])), (u5.getD 0 0, .inl (ff 2, 240, .inl (fun _ => 0))), (q6, .inl (ff 6, 20, .inr (.inr (.inr (.inr (gridF q6)))))), (q6 + 1 + 0, .inl (ff 1, 3, .inl (fun _ => 0))), (q6 + 1 + 1, .inl (ff 1, 3, .inl (fun _ => 0))), (q6 + 1 + 2, .inl (ff 1, 3, .inl (fun _ => 0))), (q6 + 1 + 3, .inl (ff 1, 3, .inl (fun _ => 0))), (q6 + 1 + 4, .inl (ff 1, 3, .inl (fun _ => 0))), (q6 + 1 + 5, .inl (ff 1, 3, .inl (fun _ => 0))), (q6 + 1 + 6, .inl (ff 1, 3, .inl (fun _ => 0))), (q6 + 1 + 7, .inl (ff 1, 3, .inl (fun _ => 0))), (q6 + 1 + 8, .inl (ff 1, 3, .inl (fun _ => 0))), (q6 + 1 + 9, .inl (ff 1, 3, .inl (fun _ => 0))), (q6 + 1 + 10, .inl (ff 1, 3, .inl (fun _ => 0))), (q6 + 1 + 11, .inl (ff 1, 3, .inl (fun _ => 0))), (q6 + 1 + 12, .inl (ff 1, 3, .inl (fun _ => 0))), (q6 + 1 + 13, .inl (ff 1, 3, .inl (fun _ => 0))), (q6 + 1 + 14, .inl (ff 1, 3, .inl (fun _ => 0))), (q6 + 1 + 15, .inl (ff 1, 3, .inl (fun _ => 0))), (q6 + 1 + 16, .inl (ff 1, 3, .inl (fun _ => 0))), (q6 + 1 + 17, .inl (ff 1, 3, .inl (fun _ => 0))), (q6 + 1 + 18, .inl (ff 1, 3, .inl (fun _ => 0))), (q6 + 1 + 19, .inl (ff 1, 3, .inl (fun _ => 0))), (q7, .inl (ff 1, 3, .inl (fun _ => 0))), (q8, .inl (ff 4, 4, .inr (.inr (.inr (.inr (va_up (va_up (va_up (va_up (fun _ => none) (Int32.ofInt 0).toNatClampNeg (some q11)) (Int32.ofInt 1).toNatClampNeg (some q12)) (Int32.ofInt 2).toNatClampNeg (some q13)) (Int32.ofInt 3).toNatClampNeg (some q14))))))), (q9, .inl (ff 5, 4, .inr (.inr (.inr (.inr (va_up (va_up (va_up (va_up (fun _ => none) (Int32.ofInt 0).toNatClampNeg (some q15)) (Int32.ofInt 1).toNatClampNeg (some q16)) (Int32.ofInt 2).toNatClampNeg (some q17)) (Int32.ofInt 3).toNatClampNeg (some q18))))))), (q10, .inr (0, [.int 0, .int 0, .int 0, .ref (u10.getD 0 0), .int 0, .int 0])), (u10.getD 0 0, .inl (ff 1, 30, .inl (fun _ => 0))), (q11, .inr (1, [.int (Int32.ofInt (-1)), .int 0, .ref (u11.getD 0 0)])), (u11.getD 0 0, .inl (ff 1, 40, .inl (fun _ => 0))), (q12, .inr (1, [.int (Int32.ofInt (-1)), .int 0, .ref (u12.getD 0 0)])), (u12.getD 0 0, .inl (ff 1, 40, .inl (fun _ => 0))), (q13, .inr (1, [.int (Int32.ofInt (-1)), .int 0, .ref (u13.getD 0 0)])), (u13.getD 0 0, .inl (ff 1, 40, .inl (fun _ => 0))), (q14, .inr (1, [.int (Int32.ofInt (-1)), .int 0, .ref (u14.getD 0 0)])), (u14.getD 0 0, .inl (ff 1, 40, .inl (fun _ => 0))), (q15, .inr (2, [.int (Int32.ofInt (2)), .int 0, .int 0, .int 0])), (q16, .inr (2, [.int (Int32.ofInt (2)), .int 0, .int 0, .int 0])), (q17, .inr (2, [.int (Int32.ofInt (2)), .int 0, .int 0, .int 0])), (q18, .inr (2, [.int (Int32.ofInt (2)), .int 0, .int 0, .int 0]))]
theorem r20 : List.range 20 = [0, 1, 2, 3, 4, 5, 6, 7, 8, 9, 10, 11, 12, 13, 14, 15, 16, 17, 18, 19] := rfl
def oneB (ff : Nat → ClassId) (a q1 q2 q3 q4 q5 q6 q7 q8 q9 q10 : Nat) (u1 u2 u3 u4 u5 u10 : List Nat) (g8 g9 : Nat → Option Nat) : va_W := [(a, .inr (6, [.ref q1, .ref q2, .ref q3, .int 0, .ref q4, .ref q5, .ref q6, .ref q7, .int 0, .ref q8, .ref q9, .ref q10])), (q1, .inr (5, [.int 0, .ref (u1.getD 0 0), .ref (u1.getD 1 0), .ref (u1.getD 2 0), .ref (u1.getD 3 0), .ref (u1.getD 4 0), .ref (u1.getD 5 0), .ref (u1.getD 6 0), .int 0, .ref (u1.getD 7 0), .ref (u1.getD 8 0), .ref (u1.getD 9 0), .int (Int32.ofInt (2)), .int 0, .int (Int32.ofInt (1))])), (u1.getD 0 0, .inl (ff 1, 8, .inl (fun _ => 0))), (u1.getD 1 0, .inl (ff 1, 8, .inl (fun _ => 0))), (u1.getD 2 0, .inl (ff 1, 8, .inl (fun _ => 0))), (u1.getD 3 0, .inl (ff 1, 8, .inl (fun _ => 0))), (u1.getD 4 0, .inl (ff 1, 8, .inl (fun _ => 0))), (u1.getD 5 0, .inl (ff 1, 8, .inl (fun _ => 0))), (u1.getD 6 0, .inl (ff 1, 8, .inl (fun _ => 0))), (u1.getD 7 0, .inl (ff 1, 4, .inl (fun _ => 0))), (u1.getD 8 0, .inl (ff 1, 4, .inl (fun _ => 0))), (u1.getD 9 0, .inl (ff 1, 4, .inl (fun _ => 0))), (q2, .inr (5, [.int 0, .ref (u2.getD 0 0), .ref (u2.getD 1 0), .ref (u2.getD 2 0), .ref (u2.getD 3 0), .ref (u2.getD 4 0), .ref (u2.getD 5 0), .ref (u2.getD 6 0), .int 0, .ref (u2.getD 7 0), .ref (u2.getD 8 0), .ref (u2.getD 9 0), .int (Int32.ofInt (2)), .int 0, .int (Int32.ofInt (1))])), (u2.getD 0 0, .inl (ff 1, 8, .inl (fun _ => 0))), (u2.getD 1 0, .inl (ff 1, 8, .inl (fun _ => 0))), (u2.getD 2 0, .inl (ff 1, 8, .inl (fun _ => 0))), (u2.getD 3 0, .inl (ff 1, 8, .inl (fun _ => 0))), (u2.getD 4 0, .inl (ff 1, 8, .inl (fun _ => 0))), (u2.getD 5 0, .inl (ff 1, 8, .inl (fun _ => 0))), (u2.getD 6 0, .inl (ff 1, 8, .inl (fun _ => 0))), (u2.getD 7 0, .inl (ff 1, 4, .inl (fun _ => 0))), (u2.getD 8 0, .inl (ff 1, 4, .inl (fun _ => 0))), (u2.getD 9 0, .inl (ff 1, 4, .inl (fun _ => 0))), (q3, .inr (5, [.int 0, .ref (u3.getD 0 0), .ref (u3.getD 1 0), .ref (u3.getD 2 0), .ref (u3.getD 3 0), .ref (u3.getD 4 0), .ref (u3.getD 5 0), .ref (u3.getD 6 0), .int 0, .ref (u3.getD 7 0), .ref (u3.getD 8 0), .ref (u3.getD 9 0), .int (Int32.ofInt (2)), .int 0, .int (Int32.ofInt (1))])), (u3.getD 0 0, .inl (ff 1, 8, .inl (fun _ => 0))), (u3.getD 1 0, .inl (ff 1, 8, .inl (fun _ => 0))), (u3.getD 2 0, .inl (ff 1, 8, .inl (fun _ => 0))), (u3.getD 3 0, .inl (ff 1, 8, .inl (fun _ => 0))), (u3.getD 4 0, .inl (ff 1, 8, .inl (fun _ => 0))), (u3.getD 5 0, .inl (ff 1, 8, .inl (fun _ => 0))), (u3.getD 6 0, .inl (ff 1, 8, .inl (fun _ => 0))), (u3.getD 7 0, .inl (ff 1, 4, .inl (fun _ => 0))), (u3.getD 8 0, .inl (ff 1, 4, .inl (fun _ => 0))), (u3.getD 9 0, .inl (ff 1, 4, .inl (fun _ => 0))), (q4, .inr (3, [.ref (u4.getD 0 0), .ref (u4.getD 1 0), .ref (u4.getD 2 0), .ref (u4.getD 3 0), .ref (u4.getD 4 0), .ref (u4.getD 5 0), .ref (u4.getD 6 0), .int 0, .int 0])), (u4.getD 0 0, .inl (ff 1, 8, .inl (fun _ => 0))), (u4.getD 1 0, .inl (ff 1, 8, .inl (fun _ => 0))), (u4.getD 2 0, .inl (ff 1, 8, .inl (fun _ => 0))), (u4.getD 3 0, .inl (ff 1, 8, .inl (fun _ => 0))), (u4.getD 4 0, .inl (ff 1, 9, .inl (fun _ => 0))), (u4.getD 5 0, .inl (ff 1, 9, .inl (fun _ => 0))), (u4.getD 6 0, .inl (ff 1, 9, .inl (fun _ => 0))), (q5, .inr (4, [.ref (u5.getD 0 0), .int 0, .int 0, .int 0, .int 0])), (u5.getD 0 0, .inl (ff 2, 240, .inl (fun _ => 0))), (q6, .inl (ff 6, 20, .inr (.inr (.inr (.inr (gridF q6)))))), (q6 + 1 + 0, .inl (ff 1, 3, .inl (fun _ => 0))), (q6 + 1 + 1, .inl (ff 1, 3, .inl (fun _ => 0))), (q6 + 1 + 2, .inl (ff 1, 3, .inl (fun _ => 0))), (q6 + 1 + 3, .inl (ff 1, 3, .inl (fun _ => 0))), (q6 + 1 + 4, .inl (ff 1, 3, .inl (fun _ => 0))), (q6 + 1 + 5, .inl (ff 1, 3, .inl (fun _ => 0))), (q6 + 1 + 6, .inl (ff 1, 3, .inl (fun _ => 0))), (q6 + 1 + 7, .inl (ff 1, 3, .inl (fun _ => 0))), (q6 + 1 + 8, .inl (ff 1, 3, .inl (fun _ => 0))), (q6 + 1 + 9, .inl (ff 1, 3, .inl (fun _ => 0))), (q6 + 1 + 10, .inl (ff 1, 3, .inl (fun _ => 0))), (q6 + 1 + 11, .inl (ff 1, 3, .inl (fun _ => 0))), (q6 + 1 + 12, .inl (ff 1, 3, .inl (fun _ => 0))), (q6 + 1 + 13, .inl (ff 1, 3, .inl (fun _ => 0))), (q6 + 1 + 14, .inl (ff 1, 3, .inl (fun _ => 0))), (q6 + 1 + 15, .inl (ff 1, 3, .inl (fun _ => 0))), (q6 + 1 + 16, .inl (ff 1, 3, .inl (fun _ => 0))), (q6 + 1 + 17, .inl (ff 1, 3, .inl (fun _ => 0))), (q6 + 1 + 18, .inl (ff 1, 3, .inl (fun _ => 0))), (q6 + 1 + 19, .inl (ff 1, 3, .inl (fun _ => 0))), (q7, .inl (ff 1, 3, .inl (fun _ => 0))), (q8, .inl (ff 4, 4, .inr (.inr (.inr (.inr g8))))), (q9, .inl (ff 5, 4, .inr (.inr (.inr (.inr g9))))), (q10, .inr (0, [.int 0, .int 0, .int 0, .ref (u10.getD 0 0), .int 0, .int 0])), (u10.getD 0 0, .inl (ff 1, 30, .inl (fun _ => 0)))]
section
variable {ff : Nat → ClassId} {a q1 q2 q3 q4 q5 q6 q7 q8 q9 q10 : Nat} {u1 u2 u3 u4 u5 u10 : List Nat} {g8 g9 g : Nat → Option Nat} {tl : va_W}
set_option maxHeartbeats 4000000 in
set_option maxRecDepth 20000 in
theorem oneB_flat : ((a, .inr (6, [.ref q1, .ref q2, .ref q3, .int 0, .ref q4, .ref q5, .ref q6, .ref q7, .int 0, .ref q8, .ref q9, .ref q10])) :: (((((((((([] ++ towC ff q1 u1) ++ towC ff q2 u2) ++ towC ff q3 u3) ++ staC ff q4 u4) ++ texC ff q5 u5) ++ gridC ff q6) ++ [(q7, .inl (ff 1, 3, .inl (fun _ => 0)))]) ++ [(q8, .inl (ff 4, 4, .inr (.inr (.inr (.inr (fun _ => none))))))]) ++ [(q9, .inl (ff 5, 4, .inr (.inr (.inr (.inr (fun _ => none))))))]) ++ actC ff q10 u10)) = oneB ff a q1 q2 q3 q4 q5 q6 q7 q8 q9 q10 u1 u2 u3 u4 u5 u10 (fun _ => none) (fun _ => none) := by
  simp only [towC, staC, texC, gridC, actC, r20, List.map_cons, List.map_nil, List.nil_append, List.cons_append]
  rfl
theorem oneB_66 : (oneB ff a q1 q2 q3 q4 q5 q6 q7 q8 q9 q10 u1 u2 u3 u4 u5 u10 g8 g9 ++ tl)[66]? = some (q8, .inl (ff 4, 4, .inr (.inr (.inr (.inr g8))))) := rfl
theorem oneB_67 : (oneB ff a q1 q2 q3 q4 q5 q6 q7 q8 q9 q10 u1 u2 u3 u4 u5 u10 g8 g9 ++ tl)[67]? = some (q9, .inl (ff 5, 4, .inr (.inr (.inr (.inr g9))))) := rfl
theorem oneB_s66 : (oneB ff a q1 q2 q3 q4 q5 q6 q7 q8 q9 q10 u1 u2 u3 u4 u5 u10 g8 g9 ++ tl).set 66 (q8, .inl (ff 4, 4, .inr (.inr (.inr (.inr g))))) = oneB ff a q1 q2 q3 q4 q5 q6 q7 q8 q9 q10 u1 u2 u3 u4 u5 u10 g g9 ++ tl := rfl
theorem oneB_s67 : (oneB ff a q1 q2 q3 q4 q5 q6 q7 q8 q9 q10 u1 u2 u3 u4 u5 u10 g8 g9 ++ tl).set 67 (q9, .inl (ff 5, 4, .inr (.inr (.inr (.inr g))))) = oneB ff a q1 q2 q3 q4 q5 q6 q7 q8 q9 q10 u1 u2 u3 u4 u5 u10 g8 g ++ tl := rfl
theorem oneB_tl (j : Nat) : (oneB ff a q1 q2 q3 q4 q5 q6 q7 q8 q9 q10 u1 u2 u3 u4 u5 u10 g8 g9 ++ tl)[70 + j]? = tl[j]? := by
  rw [List.getElem?_append_right (by show 70 ≤ 70 + j; omega)]
  show tl[70 + j - 70]? = tl[j]?
  rw [Nat.add_sub_cancel_left]
end
set_option maxHeartbeats 4000000 in
set_option maxRecDepth 20000 in
theorem one_flat2 (ff : Nat → ClassId) (a q1 q2 q3 q4 q5 q6 q7 q8 q9 q10 q11 q12 q13 q14 q15 q16 q17 q18 : Nat) (u1 u2 u3 u4 u5 u10 u11 u12 u13 u14 u15 u16 u17 u18 : List Nat) : oneB ff a q1 q2 q3 q4 q5 q6 q7 q8 q9 q10 u1 u2 u3 u4 u5 u10 (va_up (va_up (va_up (va_up (fun _ => none) (Int32.ofInt 0).toNatClampNeg (some q11)) (Int32.ofInt 1).toNatClampNeg (some q12)) (Int32.ofInt 2).toNatClampNeg (some q13)) (Int32.ofInt 3).toNatClampNeg (some q14)) (va_up (va_up (va_up (va_up (fun _ => none) (Int32.ofInt 0).toNatClampNeg (some q15)) (Int32.ofInt 1).toNatClampNeg (some q16)) (Int32.ofInt 2).toNatClampNeg (some q17)) (Int32.ofInt 3).toNatClampNeg (some q18)) ++ ((((((((sheC ff q11 u11) ++ sheC ff q12 u12) ++ sheC ff q13 u13) ++ sheC ff q14 u14) ++ shfC ff q15 u15) ++ shfC ff q16 u16) ++ shfC ff q17 u17) ++ shfC ff q18 u18) = oneE ff a q1 q2 q3 q4 q5 q6 q7 q8 q9 q10 q11 q12 q13 q14 q15 q16 q17 q18 u1 u2 u3 u4 u5 u10 u11 u12 u13 u14 u15 u16 u17 u18 := by
  simp only [oneB, sheC, shfC, List.nil_append, List.cons_append]
  rfl
set_option maxHeartbeats 4000000 in
theorem one_hw (D : va_G) (ff : Nat → ClassId) (a q1 q2 q3 q4 q5 q6 q7 q8 q9 q10 q11 q12 q13 q14 q15 q16 q17 q18 : Nat) (u1 u2 u3 u4 u5 u10 u11 u12 u13 u14 u15 u16 u17 u18 : List Nat) : ∀ k ∈ List.range 82, (oneE ff a q1 q2 q3 q4 q5 q6 q7 q8 q9 q10 q11 q12 q13 q14 q15 q16 q17 q18 u1 u2 u3 u4 u5 u10 u11 u12 u13 u14 u15 u16 u17 u18)[oneP.getD k 0]? = some ((oneAd a q1 q2 q3 q4 q5 q6 q7 q8 q9 q10 q11 q12 q13 q14 q15 q16 q17 q18 u1 u2 u3 u4 u5 u10 u11 u12 u13 u14 u15 u16 u17 u18).getD k 0, cellG (D, fun k => (oneAd a q1 q2 q3 q4 q5 q6 q7 q8 q9 q10 q11 q12 q13 q14 q15 q16 q17 q18 u1 u2 u3 u4 u5 u10 u11 u12 u13 u14 u15 u16 u17 u18).getD k 0, ff) hI k) := by
  refine one_all ?_
  refine ⟨(by rw [cell_obj (k := 0) (show sh 0 = (0, 6, [4, 15, 26, 2, 37, 45, 47, 68, 0, 69, 78, 83]) by decide +kernel)]; rfl), (by rw [cell_obj (k := 1) (show sh 1 = (0, 5, [0, 5, 6, 7, 8, 9, 10, 11, 0, 12, 13, 14, 0, 0, 0]) by decide +kernel)]; rfl), (by rw [cell_int (k := 2) (show sh 2 = (1, 8, []) by decide +kernel) (fun i => rfl)]; rfl), (by rw [cell_int (k := 3) (show sh 3 = (1, 8, []) by decide +kernel) (fun i => rfl)]; rfl), (by rw [cell_int (k := 4) (show sh 4 = (1, 8, []) by decide +kernel) (fun i => rfl)]; rfl), (by rw [cell_int (k := 5) (show sh 5 = (1, 8, []) by decide +kernel) (fun i => rfl)]; rfl), (by rw [cell_int (k := 6) (show sh 6 = (1, 8, []) by decide +kernel) (fun i => rfl)]; rfl), (by rw [cell_int (k := 7) (show sh 7 = (1, 8, []) by decide +kernel) (fun i => rfl)]; rfl), (by rw [cell_int (k := 8) (show sh 8 = (1, 8, []) by decide +kernel) (fun i => rfl)]; rfl), (by rw [cell_int (k := 9) (show sh 9 = (1, 4, []) by decide +kernel) (fun i => rfl)]; rfl), (by rw [cell_int (k := 10) (show sh 10 = (1, 4, []) by decide +kernel) (fun i => rfl)]; rfl), (by rw [cell_int (k := 11) (show sh 11 = (1, 4, []) by decide +kernel) (fun i => rfl)]; rfl), (by rw [cell_obj (k := 12) (show sh 12 = (0, 5, [0, 16, 17, 18, 19, 20, 21, 22, 0, 23, 24, 25, 0, 0, 0]) by decide +kernel)]; rfl), (by rw [cell_int (k := 13) (show sh 13 = (1, 8, []) by decide +kernel) (fun i => rfl)]; rfl), (by rw [cell_int (k := 14) (show sh 14 = (1, 8, []) by decide +kernel) (fun i => rfl)]; rfl), (by rw [cell_int (k := 15) (show sh 15 = (1, 8, []) by decide +kernel) (fun i => rfl)]; rfl), (by rw [cell_int (k := 16) (show sh 16 = (1, 8, []) by decide +kernel) (fun i => rfl)]; rfl), (by rw [cell_int (k := 17) (show sh 17 = (1, 8, []) by decide +kernel) (fun i => rfl)]; rfl), (by rw [cell_int (k := 18) (show sh 18 = (1, 8, []) by decide +kernel) (fun i => rfl)]; rfl), (by rw [cell_int (k := 19) (show sh 19 = (1, 8, []) by decide +kernel) (fun i => rfl)]; rfl), (by rw [cell_int (k := 20) (show sh 20 = (1, 4, []) by decide +kernel) (fun i => rfl)]; rfl), (by rw [cell_int (k := 21) (show sh 21 = (1, 4, []) by decide +kernel) (fun i => rfl)]; rfl), (by rw [cell_int (k := 22) (show sh 22 = (1, 4, []) by decide +kernel) (fun i => rfl)]; rfl), (by rw [cell_obj (k := 23) (show sh 23 = (0, 5, [0, 27, 28, 29, 30, 31, 32, 33, 0, 34, 35, 36, 0, 0, 0]) by decide +kernel)]; rfl), (by rw [cell_int (k := 24) (show sh 24 = (1, 8, []) by decide +kernel) (fun i => rfl)]; rfl), (by rw [cell_int (k := 25) (show sh 25 = (1, 8, []) by decide +kernel) (fun i => rfl)]; rfl), (by rw [cell_int (k := 26) (show sh 26 = (1, 8, []) by decide +kernel) (fun i => rfl)]; rfl), (by rw [cell_int (k := 27) (show sh 27 = (1, 8, []) by decide +kernel) (fun i => rfl)]; rfl), (by rw [cell_int (k := 28) (show sh 28 = (1, 8, []) by decide +kernel) (fun i => rfl)]; rfl), (by rw [cell_int (k := 29) (show sh 29 = (1, 8, []) by decide +kernel) (fun i => rfl)]; rfl), (by rw [cell_int (k := 30) (show sh 30 = (1, 8, []) by decide +kernel) (fun i => rfl)]; rfl), (by rw [cell_int (k := 31) (show sh 31 = (1, 4, []) by decide +kernel) (fun i => rfl)]; rfl), (by rw [cell_int (k := 32) (show sh 32 = (1, 4, []) by decide +kernel) (fun i => rfl)]; rfl), (by rw [cell_int (k := 33) (show sh 33 = (1, 4, []) by decide +kernel) (fun i => rfl)]; rfl), (by rw [cell_obj (k := 34) (show sh 34 = (0, 3, [38, 39, 40, 41, 42, 43, 44, 0, 0]) by decide +kernel)]; rfl), (by rw [cell_int (k := 35) (show sh 35 = (1, 8, []) by decide +kernel) (fun i => rfl)]; rfl), (by rw [cell_int (k := 36) (show sh 36 = (1, 8, []) by decide +kernel) (fun i => rfl)]; rfl), (by rw [cell_int (k := 37) (show sh 37 = (1, 8, []) by decide +kernel) (fun i => rfl)]; rfl), (by rw [cell_int (k := 38) (show sh 38 = (1, 8, []) by decide +kernel) (fun i => rfl)]; rfl), (by rw [cell_int (k := 39) (show sh 39 = (1, 9, []) by decide +kernel) (fun i => rfl)]; rfl), (by rw [cell_int (k := 40) (show sh 40 = (1, 9, []) by decide +kernel) (fun i => rfl)]; rfl), (by rw [cell_int (k := 41) (show sh 41 = (1, 9, []) by decide +kernel) (fun i => rfl)]; rfl), (by rw [cell_obj (k := 42) (show sh 42 = (0, 4, [46, 0, 0, 0, 0]) by decide +kernel)]; rfl), (by rw [cell_byte (k := 43) (show sh 43 = (2, 240, []) by decide +kernel) (fun i => rfl)]; rfl), ?_, (by rw [cell_int (k := 45) (show sh 45 = (1, 3, []) by decide +kernel) (fun i => rfl)]; rfl), (by rw [cell_int (k := 46) (show sh 46 = (1, 3, []) by decide +kernel) (fun i => rfl)]; rfl), (by rw [cell_int (k := 47) (show sh 47 = (1, 3, []) by decide +kernel) (fun i => rfl)]; rfl), (by rw [cell_int (k := 48) (show sh 48 = (1, 3, []) by decide +kernel) (fun i => rfl)]; rfl), (by rw [cell_int (k := 49) (show sh 49 = (1, 3, []) by decide +kernel) (fun i => rfl)]; rfl), (by rw [cell_int (k := 50) (show sh 50 = (1, 3, []) by decide +kernel) (fun i => rfl)]; rfl), (by rw [cell_int (k := 51) (show sh 51 = (1, 3, []) by decide +kernel) (fun i => rfl)]; rfl), (by rw [cell_int (k := 52) (show sh 52 = (1, 3, []) by decide +kernel) (fun i => rfl)]; rfl), (by rw [cell_int (k := 53) (show sh 53 = (1, 3, []) by decide +kernel) (fun i => rfl)]; rfl), (by rw [cell_int (k := 54) (show sh 54 = (1, 3, []) by decide +kernel) (fun i => rfl)]; rfl), (by rw [cell_int (k := 55) (show sh 55 = (1, 3, []) by decide +kernel) (fun i => rfl)]; rfl), (by rw [cell_int (k := 56) (show sh 56 = (1, 3, []) by decide +kernel) (fun i => rfl)]; rfl), (by rw [cell_int (k := 57) (show sh 57 = (1, 3, []) by decide +kernel) (fun i => rfl)]; rfl), (by rw [cell_int (k := 58) (show sh 58 = (1, 3, []) by decide +kernel) (fun i => rfl)]; rfl), (by rw [cell_int (k := 59) (show sh 59 = (1, 3, []) by decide +kernel) (fun i => rfl)]; rfl), (by rw [cell_int (k := 60) (show sh 60 = (1, 3, []) by decide +kernel) (fun i => rfl)]; rfl), (by rw [cell_int (k := 61) (show sh 61 = (1, 3, []) by decide +kernel) (fun i => rfl)]; rfl), (by rw [cell_int (k := 62) (show sh 62 = (1, 3, []) by decide +kernel) (fun i => rfl)]; rfl), (by rw [cell_int (k := 63) (show sh 63 = (1, 3, []) by decide +kernel) (fun i => rfl)]; rfl), (by rw [cell_int (k := 64) (show sh 64 = (1, 3, []) by decide +kernel) (fun i => rfl)]; rfl), (by rw [cell_int (k := 65) (show sh 65 = (1, 3, []) by decide +kernel) (fun i => rfl)]; rfl), ?_, (by rw [cell_obj (k := 67) (show sh 67 = (0, 1, [0, 0, 71]) by decide +kernel)]; rfl), (by rw [cell_int (k := 68) (show sh 68 = (1, 40, []) by decide +kernel) (fun i => rfl)]; rfl), (by rw [cell_obj (k := 69) (show sh 69 = (0, 1, [0, 0, 73]) by decide +kernel)]; rfl), (by rw [cell_int (k := 70) (show sh 70 = (1, 40, []) by decide +kernel) (fun i => rfl)]; rfl), (by rw [cell_obj (k := 71) (show sh 71 = (0, 1, [0, 0, 75]) by decide +kernel)]; rfl), (by rw [cell_int (k := 72) (show sh 72 = (1, 40, []) by decide +kernel) (fun i => rfl)]; rfl), (by rw [cell_obj (k := 73) (show sh 73 = (0, 1, [0, 0, 77]) by decide +kernel)]; rfl), (by rw [cell_int (k := 74) (show sh 74 = (1, 40, []) by decide +kernel) (fun i => rfl)]; rfl), ?_, (by rw [cell_obj (k := 76) (show sh 76 = (0, 2, [0, 0, 0, 0]) by decide +kernel)]; rfl), (by rw [cell_obj (k := 77) (show sh 77 = (0, 2, [0, 0, 0, 0]) by decide +kernel)]; rfl), (by rw [cell_obj (k := 78) (show sh 78 = (0, 2, [0, 0, 0, 0]) by decide +kernel)]; rfl), (by rw [cell_obj (k := 79) (show sh 79 = (0, 2, [0, 0, 0, 0]) by decide +kernel)]; rfl), (by rw [cell_obj (k := 80) (show sh 80 = (0, 0, [0, 0, 0, 84, 0, 2]) by decide +kernel)]; rfl), (by rw [cell_int (k := 81) (show sh 81 = (1, 30, []) by decide +kernel) (fun i => rfl)]; rfl)⟩
  · rw [cell_ref (k := 44) (show sh 44 = (6, 20, [45, 1]) by decide +kernel) (by decide)]
    exact congrArg (fun z => some (q6, (.inl (ff 6, 20, .inr (.inr (.inr (.inr z)))) : va_E))) (grid_up _ _ (by exact List.forall_mem_cons.mpr ⟨rfl, List.forall_mem_cons.mpr ⟨rfl, List.forall_mem_cons.mpr ⟨rfl, List.forall_mem_cons.mpr ⟨rfl, List.forall_mem_cons.mpr ⟨rfl, List.forall_mem_cons.mpr ⟨rfl, List.forall_mem_cons.mpr ⟨rfl, List.forall_mem_cons.mpr ⟨rfl, List.forall_mem_cons.mpr ⟨rfl, List.forall_mem_cons.mpr ⟨rfl, List.forall_mem_cons.mpr ⟨rfl, List.forall_mem_cons.mpr ⟨rfl, List.forall_mem_cons.mpr ⟨rfl, List.forall_mem_cons.mpr ⟨rfl, List.forall_mem_cons.mpr ⟨rfl, List.forall_mem_cons.mpr ⟨rfl, List.forall_mem_cons.mpr ⟨rfl, List.forall_mem_cons.mpr ⟨rfl, List.forall_mem_cons.mpr ⟨rfl, List.forall_mem_cons.mpr ⟨rfl, fun _ h => absurd h List.not_mem_nil⟩⟩⟩⟩⟩⟩⟩⟩⟩⟩⟩⟩⟩⟩⟩⟩⟩⟩⟩⟩) (fun i hi => by exact if_neg (Nat.not_lt.mpr hi)))
  · rw [cell_ref (k := 66) (show sh 66 = (4, 4, [67, 2]) by decide +kernel) (by decide)]
    exact congrArg (fun z => some (q8, (.inl (ff 4, 4, .inr (.inr (.inr (.inr z)))) : va_E))) (up4 _ _ _ _ _ rfl rfl rfl rfl (fun i hi => by exact if_neg (Nat.not_lt.mpr hi)))
  · rw [cell_ref (k := 75) (show sh 75 = (5, 4, [76, 1]) by decide +kernel) (by decide)]
    exact congrArg (fun z => some (q9, (.inl (ff 5, 4, .inr (.inr (.inr (.inr z)))) : va_E))) (up4 _ _ _ _ _ rfl rfl rfl rfl (fun i hi => by exact if_neg (Nat.not_lt.mpr hi)))
end L4ONE
