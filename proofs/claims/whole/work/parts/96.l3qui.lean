section L3QUI
variable {G : GD} {l : Launch} {d k : Nat} {h : AH}
theorem INV_n (i : INV k h) : h 1 0 = h 82 5 ∧ (0 ≤ h 82 5 ∧ h 82 5 ≤ 8) ∧ h 1 13 = h 88 0 ∧ (0 ≤ h 88 0 ∧ h 88 0 ≤ 120) ∧ h 1 8 = h 82 1 ∧ (0 ≤ h 82 1 ∧ h 82 1 ≤ 4) := ⟨i.1.1.1, BB_P i.1, i.1.2.1, BB_M i.1, i.1.1.2.1, i.1.2.2.2.2.2.1⟩
theorem c_when {p : Int} (i : INV k h) (hk : k ≤ 64) (hd : 9 ≤ d) : Ok G l d k 68 166 [vI p] h := by
  obtain ⟨n1, n2, n3, n4, n5, n6⟩ := INV_n i
  by_cases hp : 0 ≤ p ∧ p ≤ h 1 0 - 1
  · obtain ⟨pp, rfl⟩ : ∃ pp : Nat, p = (pp : Int) := ⟨p.toNat, by omega⟩
    refine ok_quiet i (s_when i.1 i.2.1 (by omega) (by omega)) (fun h1 b q9 qw => ?_)
    have b5 := BB_5 i.1 b
    exact (m_when b i.2.1 q9 ⟨by omega, by omega⟩ qw (by omega) (by omega)).imp (fun r h' e => ⟨by rw [e.1, whenF_c i.1 b i.2.1 (by omega)], e.2.mono (by omega)⟩)
  · exact ok_ex (s_whenO (by omega) hp (by omega)) (m_whenO n2 (by omega) (by omega)) rfl (INV_k i)
theorem c_last (i : INV k h) (hk : k ≤ 64) (hd : 9 ≤ d) : Ok G l d k 69 167 [] h := by
  refine ok_quiet i (s_last i.1 i.2.1 (by omega)) (fun h1 b q9 qw => ?_)
  exact (m_last b i.2.1 q9 ⟨by omega, by omega⟩ qw (by omega)).imp (fun r h' e => ⟨by rw [e.1, lastF_c i.1 b i.2.1], e.2.mono (by omega)⟩)
theorem c_waited {p : Int} (i : INV k h) (hk : k ≤ 64) (hd : 9 ≤ d) : Ok G l d k 70 168 [vI p] h := by
  obtain ⟨n1, n2, n3, n4, n5, n6⟩ := INV_n i
  by_cases hp : 0 ≤ p ∧ p ≤ h 1 0 - 1
  · obtain ⟨pp, rfl⟩ : ∃ pp : Nat, p = (pp : Int) := ⟨p.toNat, by omega⟩
    refine ok_quiet i (s_waited i.1 i.2.1 (by omega) (by omega)) (fun h1 b q9 qw => ?_)
    have b5 := BB_5 i.1 b
    exact (m_waited b i.2.1 q9 ⟨by omega, by omega⟩ qw (by omega) (by omega)).imp (fun r h' e => ⟨by rw [e.1, waitF_c i.1 b i.2.1 (by omega)], e.2.mono (by omega)⟩)
  · exact ok_ex (s_waitedO (by omega) hp (by omega)) (m_waitedO n2 (by omega) (by omega)) rfl (INV_k i)
theorem c_crowd {p : Int} (i : INV k h) (hk : k ≤ 64) (hd : 9 ≤ d) : Ok G l d k 71 169 [vI p] h := by
  by_cases hp : 0 ≤ p ∧ p ≤ 8
  · obtain ⟨pp, rfl⟩ : ∃ pp : Nat, p = (pp : Int) := ⟨p.toNat, by omega⟩
    refine ok_quiet i (s_crowd i.1 i.2.1 (by omega) (by omega)) (fun h1 b q9 qw => ?_)
    exact (m_crowd b i.2.1 q9 ⟨by omega, by omega⟩ qw (by omega) (by omega)).imp (fun r h' e => ⟨by rw [e.1, crowdF_c i.1 b i.2.1 (by omega)], e.2.mono (by omega)⟩)
  · exact ok_ex (s_crowdO hp (by omega)) (m_crowdO hp (by omega)) rfl (INV_k i)
theorem c_there {f mi : Int} (i : INV k h) (hk : k ≤ 64) (hd : 9 ≤ d) : Ok G l d k 72 170 [vI f, vI mi] h := by
  obtain ⟨n1, n2, n3, n4, n5, n6⟩ := INV_n i
  by_cases hp : (0 ≤ f ∧ f ≤ 9) ∧ (h 1 13 ≤ mi ∧ mi ≤ 119)
  · refine ok_quiet i (s_there i.1 i.2.1 hp.1 (by omega) (by omega)) (fun h1 b q9 qw => ?_)
    have b0 := BB_0 i.1 b
    exact (m_there b i.2.1 q9 ⟨by omega, by omega⟩ qw hp.1 (by omega) (by omega)).imp (fun r h' e => ⟨by rw [e.1, thereF_c i.1 b i.2.1 (by omega) (by omega)], e.2.mono (by omega)⟩)
  · exact ok_ex (s_thereO hp (by omega)) (m_thereO (by omega) (by omega)) rfl (INV_k i)
theorem c_drill (i : INV k h) (hk : k ≤ 64) (hd : 9 ≤ d) : Ok G l d k 73 171 [] h := by
  refine ok_quiet i (s_drill i.1 i.2.1 (by omega)) (fun h1 b q9 qw => ?_)
  exact (m_drill b i.2.1 q9 ⟨by omega, by omega⟩ qw (by omega)).imp (fun r h' e => ⟨by rw [e.1, drillF_c i.1 b i.2.1], e.2.mono (by omega)⟩)
theorem c_rent {f : Int} (i : INV k h) (hk : k ≤ 64) (hd : 9 ≤ d) : Ok G l d k 78 177 [vI f] h := by
  by_cases hp : 0 ≤ f ∧ f ≤ 9
  · refine ok_quiet i (s_rent i.1 i.2.1 hp (by omega)) (fun h1 b q9 qw => ?_)
    exact (m_rent b i.2.1 q9 ⟨by omega, by omega⟩ qw hp (by omega)).imp (fun r h' e => ⟨by rw [e.1, rentF_c i.1 b i.2.1 hp], e.2.mono (by omega)⟩)
  · exact ok_ex (s_rentO hp (by omega)) (m_rentO hp (by omega)) rfl (INV_k i)
theorem c_cheapest (i : INV k h) (hk : k ≤ 64) (hd : 9 ≤ d) : Ok G l d k 79 178 [] h := by
  refine ok_quiet i (s_cheapest i.1 i.2.1 (by omega)) (fun h1 b q9 qw => ?_)
  have e1 : chB (fun f => rentF h1 (f : Int)) 9 = chB (fun f => rentF h (f : Int)) 9 := chB_cg 9 (fun f hf => (rentF_c i.1 b i.2.1 (by omega)).symm)
  exact (m_cheapest b i.2.1 q9 ⟨by omega, by omega⟩ qw (by omega)).imp (fun r h' e => ⟨by rw [e.1, e1], e.2.mono (by omega)⟩)
theorem c_worst {n : Int} (i : INV k h) (hk : k ≤ 64) (hd : 9 ≤ d) : Ok G l d k 77 175 [vI n] h := by
  obtain ⟨n1, n2, n3, n4, n5, n6⟩ := INV_n i
  by_cases hp : (1 ≤ n ∧ n ≤ 30) ∧ h 1 8 < 4 ∧ h 1 13 ≤ 99
  · refine ok_quiet i (s_worst i.1 i.2.1 hp.1 (by omega) (by omega) (by omega)) (fun h1 b q9 qw => ?_)
    have b0 := BB_0 i.1 b
    have b1 : h1 82 1 = h 82 1 := by rw [← b.1.2.1, ← i.1.1.2.1]
    have e1 : woB (fun f => worstV h1 n (f : Int)) 9 = woB (fun f => worstV h n (f : Int)) 9 := woB_cg 9 (fun f hf => (worstV_c i.1 b i.2.1 (by omega) (by omega) (by omega) hp.1).symm)
    exact (m_worst b i.2.1 q9 ⟨by omega, by omega⟩ qw hp.1 (by omega) (by omega) (by omega)).imp (fun r h' e => ⟨by rw [e.1, e1], e.2.mono (by omega)⟩)
  · refine ok_ex (s_worstO hp (by omega)) (m_worstO (by omega) (by omega)) ?_ (INV_k i)
    (repeat' split) <;> omega
theorem c_enough {n : Int} (i : INV k h) (hk : k ≤ 64) (hd : 9 ≤ d) : Ok G l d k 76 174 [vI n] h := by
  by_cases hp : 0 ≤ n ∧ n ≤ 119
  · refine ok_quiet i (s_enough i.1 i.2.1 hp (by omega)) (fun h1 b q9 qw => ?_)
    have e1 : firstF (fun v => enoughP h1 n (v : Int)) 9 = firstF (fun v => enoughP h n (v : Int)) 9 := firstF_cg 9 (by omega) (fun f hf h9 => (enoughP_c i.1 b i.2.1 (by omega) (by omega)).symm)
    exact (m_enough b i.2.1 q9 ⟨by omega, by omega⟩ qw hp (by omega)).imp (fun r h' e => ⟨by rw [e.1, e1], e.2.mono (by omega)⟩)
  · exact ok_ex (s_enoughO hp (by omega)) (m_enoughO hp (by omega)) rfl (INV_k i)
theorem c_swap (i : INV k h) (hk : k ≤ 64) (hd : 9 ≤ d) : Ok G l d k 75 173 [] h := by
  refine ok_quiet i (s_swap i.1 i.2.1 (by omega)) (fun h1 b q9 qw => ?_)
  have e1 : swS (swOk h1) (swapV h1) 64 = swS (swOk h) (swapV h) 64 := swS_cg (fun p q => (swOk_c i.1 b p q).symm) (fun p q z => by
    unfold swOk at z
    rw [decide_eq_true_eq] at z
    exact (swapV_c i.1 b i.2.1 (by omega) (by omega)).symm) 64
  exact (m_swap b i.2.1 q9 ⟨by omega, by omega⟩ qw (by omega)).imp (fun r h' e => ⟨by rw [e.1, e1], e.2.mono (by omega)⟩)
theorem c_early {p bb : Int} (i : INV k h) (hk : k ≤ 64) (hd : 9 ≤ d) : Ok G l d k 74 172 [vI p, vI bb] h := by
  obtain ⟨n1, n2, n3, n4, n5, n6⟩ := INV_n i
  by_cases hp : (0 ≤ p ∧ p ≤ h 1 0 - 1) ∧ (0 ≤ bb ∧ bb ≤ 119)
  · obtain ⟨pp, rfl⟩ : ∃ pp : Nat, p = (pp : Int) := ⟨p.toNat, by omega⟩
    refine ok_quiet i (s_early i.1 i.2.1 (by omega) hp.2 (by omega)) (fun h1 b q9 qw => ?_)
    have b5 := BB_5 i.1 b
    have b0 := BB_0 i.1 b
    have e1 : erS (earlyOk h1 pp bb) (h 88 0) (100 - h 88 0).toNat = erS (earlyOk h pp bb) (h 88 0) (100 - h 88 0).toNat := erS_cg _ (fun s h0 hs => (earlyOk_c i.1 b i.2.1 (by omega) (by omega)).symm)
    exact (m_early b i.2.1 q9 ⟨by omega, by omega⟩ qw (by omega) hp.2 (by omega)).imp (fun r h' e => ⟨by rw [e.1, b0, e1], e.2.mono (by omega)⟩)
  · exact ok_ex (s_earlyO (by omega) hp (by omega)) (m_earlyO n2 (by omega) (by omega)) rfl (INV_k i)
theorem c_judge (i : INV k h) (hk : k ≤ 64) (hd : 9 ≤ d) : Ok G l d k 85 186 [] h := by
  obtain ⟨n1, n2, n3, n4, n5, n6⟩ := INV_n i
  have rw8 := i.2.2.2.2.2.2.2.1
  obtain ⟨r1, r2, r3⟩ := rw8
  obtain ⟨nn, hn⟩ : ∃ nn : Nat, h 82 35 = (nn : Int) := ⟨(h 82 35).toNat, by omega⟩
  refine (s_judge i.1 i.2.1 (by omega) (by omega)).imp (fun r h1 q => ⟨_, q.1, ?_⟩)
  have e : ∀ x c, 82 ≤ x → h1 x c = h x c := fun x c hx => q.2.1 x c (by omega) (by omega) (by omega)
  have b := ag_BB i.1 q.2
  have b0 := BB_0 i.1 b
  obtain ⟨cc, hcc⟩ : ∃ cc : Nat, (cc : Int) = min (nn : Int) (120 - h1 88 0) := ⟨(min (nn : Int) (120 - h1 88 0)).toNat, by omega⟩
  have qw : ∀ j, 0 ≤ h1 100 j ∧ h1 100 j ≤ 2000000 * ((k : Int) + 1) := fun j => by rw [e _ _ (by omega)]; exact i.2.2.2.2.1 j
  refine (m_judge (W := 2000000 * ((k : Int) + 1)) b.2.2.2.2 ⟨by omega, by omega⟩ qw (by rw [e _ _ (by omega)]; exact hn) (by omega) hcc (by omega)).imp (fun r2 h2 q2 => ⟨?_, ?_⟩)
  · rw [q2.1, r1, hn, Int.toNat_natCast]
    rw [jS_congr nn (Nat.le_refl _) (fun j hj => (jOk_eq (h := h) (g := h1) (nn := nn) b i.2.1 hcc hj (fun m hm => by rw [e _ _ (by omega)]; exact r3 j m (by omega) hm)).symm)]
  · rw [q2.2]
    refine INV_quiet i q.2 ((LG_rows (W := 2000000 * ((k : Int) + 1)) b.2.2.2.2 ⟨by omega, by omega⟩ qw (by rw [e _ _ (by omega)]; exact i.2.2.1) (by omega) (by omega)).mono (by omega))
end L3QUI
