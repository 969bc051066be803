section L4CASE
variable {p : Program} {l : Launch} {e : Env} {s : State} {m : MethodId} {below : List Frame} {meth : Method} {c : Code} {H : Heap} {locs : List Loc} {cells slots : Nat} {QQ : State → Prop} {la : Array Slot} {G : GD} {b L : Nat} {xs : Nat → Int32} {h : AH} {k : Nat}
theorem lb_tower : caseB 0 283 20 24 = true := by decide +kernel
theorem lx_tower : caseW 0 20 24 55 135 := by unfold caseW; decide +kernel
theorem lb_room : caseB 1 296 25 29 = true := by decide +kernel
theorem lx_room : caseW 1 25 29 56 137 := by unfold caseW; decide +kernel
theorem lb_hat : caseB 3 319 30 34 = true := by decide +kernel
theorem lx_hat : caseW 3 30 34 57 139 := by unfold caseW; decide +kernel
theorem lb_sweep : caseB 1 362 35 38 = true := by decide +kernel
theorem lx_sweep : caseW 1 35 38 58 140 := by unfold caseW; decide +kernel
theorem lb_closed : caseB 2 385 39 43 = true := by decide +kernel
theorem lx_closed : caseW 2 39 43 59 142 := by unfold caseW; decide +kernel
theorem lb_person : caseB 4 418 44 48 = true := by decide +kernel
theorem lx_person : caseW 4 44 48 60 143 := by unfold caseW; decide +kernel
theorem lb_personOf : caseB 2 471 49 52 = true := by decide +kernel
theorem lx_personOf : caseW 2 49 52 61 147 := by unfold caseW; decide +kernel
theorem lb_mind : caseB 3 504 53 56 = true := by decide +kernel
theorem lx_mind : caseW 3 53 56 62 148 := by unfold caseW; decide +kernel
theorem lb_sends : caseB 3 547 57 60 = true := by decide +kernel
theorem lx_sends : caseW 3 57 60 63 150 := by unfold caseW; decide +kernel
theorem lb_stand : caseB 2 590 61 64 = true := by decide +kernel
theorem lx_stand : caseW 2 61 64 64 151 := by unfold caseW; decide +kernel
theorem lb_minute : caseB 0 623 65 68 = true := by decide +kernel
theorem lx_minute : caseW 0 65 68 65 152 := by unfold caseW; decide +kernel
theorem lb_minutes : caseB 1 636 69 72 = true := by decide +kernel
theorem lx_minutes : caseW 1 69 72 66 159 := by unfold caseW; decide +kernel
theorem lb_clock : caseB 1 659 73 76 = true := by decide +kernel
theorem lx_clock : caseW 1 73 76 67 160 := by unfold caseW; decide +kernel
theorem lb_when : caseB 1 682 77 80 = true := by decide +kernel
theorem lx_when : caseW 1 77 80 68 166 := by unfold caseW; decide +kernel
theorem lb_last : caseB 0 705 81 84 = true := by decide +kernel
theorem lx_last : caseW 0 81 84 69 167 := by unfold caseW; decide +kernel
theorem lb_waited : caseB 1 718 85 88 = true := by decide +kernel
theorem lx_waited : caseW 1 85 88 70 168 := by unfold caseW; decide +kernel
theorem lb_crowd : caseB 1 741 89 92 = true := by decide +kernel
theorem lx_crowd : caseW 1 89 92 71 169 := by unfold caseW; decide +kernel
theorem lb_there : caseB 2 764 93 96 = true := by decide +kernel
theorem lx_there : caseW 2 93 96 72 170 := by unfold caseW; decide +kernel
theorem lb_drill : caseB 0 797 97 100 = true := by decide +kernel
theorem lx_drill : caseW 0 97 100 73 171 := by unfold caseW; decide +kernel
theorem lb_early : caseB 2 810 101 104 = true := by decide +kernel
theorem lx_early : caseW 2 101 104 74 172 := by unfold caseW; decide +kernel
theorem lb_swap : caseB 0 843 105 108 = true := by decide +kernel
theorem lx_swap : caseW 0 105 108 75 173 := by unfold caseW; decide +kernel
theorem lb_enough : caseB 1 856 109 112 = true := by decide +kernel
theorem lx_enough : caseW 1 109 112 76 174 := by unfold caseW; decide +kernel
theorem lb_worst : caseB 1 879 113 116 = true := by decide +kernel
theorem lx_worst : caseW 1 113 116 77 175 := by unfold caseW; decide +kernel
theorem lb_rent : caseB 1 902 117 120 = true := by decide +kernel
theorem lx_rent : caseW 1 117 120 78 177 := by unfold caseW; decide +kernel
theorem lb_cheapest : caseB 0 925 121 124 = true := by decide +kernel
theorem lx_cheapest : caseW 0 121 124 79 178 := by unfold caseW; decide +kernel
theorem lb_seed : caseB 1 938 125 128 = true := by decide +kernel
theorem lx_seed : caseW 1 125 128 80 179 := by unfold caseW; decide +kernel
theorem lb_lot : caseB 1 961 129 132 = true := by decide +kernel
theorem lx_lot : caseW 1 129 132 81 180 := by unfold caseW; decide +kernel
theorem lb_prove : caseB 1 984 133 136 = true := by decide +kernel
theorem lx_prove : caseW 1 133 136 82 182 := by unfold caseW; decide +kernel
theorem lb_row : caseB 2 1007 137 140 = true := by decide +kernel
theorem lx_row : caseW 2 137 140 83 184 := by unfold caseW; decide +kernel
theorem lb_alter : caseB 3 1040 141 144 = true := by decide +kernel
theorem lx_alter : caseW 3 141 144 84 185 := by unfold caseW; decide +kernel
theorem lb_judge : caseB 0 1083 145 148 = true := by decide +kernel
theorem lx_judge : caseW 0 145 148 85 186 := by unfold caseW; decide +kernel
theorem lb_starts : caseB 4 1096 149 152 = true := by decide +kernel
theorem lx_starts : caseW 4 149 152 86 187 := by unfold caseW; decide +kernel
theorem lb_sheet : caseB 3 1149 153 156 = true := by decide +kernel
theorem lx_sheet : caseW 3 153 156 87 189 := by unfold caseW; decide +kernel
theorem lb_put : caseB 3 1192 157 160 = true := by decide +kernel
theorem lx_put : caseW 3 157 160 88 190 := by unfold caseW; decide +kernel
theorem lb_item : caseB 3 1235 161 164 = true := by decide +kernel
theorem lx_item : caseW 3 161 164 89 192 := by unfold caseW; decide +kernel
theorem lb_shelf : caseB 3 1278 165 168 = true := by decide +kernel
theorem lx_shelf : caseW 3 165 168 90 194 := by unfold caseW; decide +kernel
theorem lb_taken : caseB 2 1321 169 172 = true := by decide +kernel
theorem lx_taken : caseW 2 169 172 91 197 := by unfold caseW; decide +kernel
theorem lb_act : caseB 3 1354 173 176 = true := by decide +kernel
theorem lx_act : caseW 3 173 176 92 208 := by unfold caseW; decide +kernel
theorem lb_trace : caseB 1 1397 177 180 = true := by decide +kernel
theorem lx_trace : caseW 1 177 180 93 209 := by unfold caseW; decide +kernel
theorem lb_many : caseB 1 1420 181 184 = true := by decide +kernel
theorem lx_many : caseW 1 181 184 94 210 := by unfold caseW; decide +kernel
theorem lb_keep : caseB 0 1443 185 188 = true := by decide +kernel
theorem lx_keep : caseW 0 185 188 95 213 := by unfold caseW; decide +kernel
theorem lb_again : caseB 0 1456 189 192 = true := by decide +kernel
theorem lx_again : caseW 0 189 192 96 214 := by unfold caseW; decide +kernel
theorem lo_tower (i : INV k h) (hk : k ≤ 64) : Ok G l 9 k 55 135 ((List.range 0).map (fun t => vI (xs (5 * k + 1 + t)).toInt)) h := c_tower (strOK) i (by decide)
theorem lo_room (i : INV k h) (hk : k ≤ 64) : Ok G l 9 k 56 137 ((List.range 1).map (fun t => vI (xs (5 * k + 1 + t)).toInt)) h := c_room i (by decide)
theorem lo_hat (i : INV k h) (hk : k ≤ 64) : Ok G l 9 k 57 139 ((List.range 3).map (fun t => vI (xs (5 * k + 1 + t)).toInt)) h := c_hat i (by decide)
theorem lo_sweep (i : INV k h) (hk : k ≤ 64) : Ok G l 9 k 58 140 ((List.range 1).map (fun t => vI (xs (5 * k + 1 + t)).toInt)) h := c_sweep i (by decide)
theorem lo_closed (i : INV k h) (hk : k ≤ 64) : Ok G l 9 k 59 142 ((List.range 2).map (fun t => vI (xs (5 * k + 1 + t)).toInt)) h := c_closed i (by decide)
theorem lo_person (i : INV k h) (hk : k ≤ 64) : Ok G l 9 k 60 143 ((List.range 4).map (fun t => vI (xs (5 * k + 1 + t)).toInt)) h := c_person i (by decide)
theorem lo_personOf (i : INV k h) (hk : k ≤ 64) : Ok G l 9 k 61 147 ((List.range 2).map (fun t => vI (xs (5 * k + 1 + t)).toInt)) h := c_personOf i (by decide)
theorem lo_mind (i : INV k h) (hk : k ≤ 64) : Ok G l 9 k 62 148 ((List.range 3).map (fun t => vI (xs (5 * k + 1 + t)).toInt)) h := c_mind i (by decide)
theorem lo_sends (i : INV k h) (hk : k ≤ 64) : Ok G l 9 k 63 150 ((List.range 3).map (fun t => vI (xs (5 * k + 1 + t)).toInt)) h := c_sends i (by decide)
theorem lo_stand (i : INV k h) (hk : k ≤ 64) : Ok G l 9 k 64 151 ((List.range 2).map (fun t => vI (xs (5 * k + 1 + t)).toInt)) h := c_stand i (by decide)
theorem lo_minute (i : INV k h) (hk : k ≤ 64) : Ok G l 9 k 65 152 ((List.range 0).map (fun t => vI (xs (5 * k + 1 + t)).toInt)) h := c_minute i
theorem lo_minutes (i : INV k h) (hk : k ≤ 64) : Ok G l 9 k 66 159 ((List.range 1).map (fun t => vI (xs (5 * k + 1 + t)).toInt)) h := c_minutes i hk (by decide)
theorem lo_clock (i : INV k h) (hk : k ≤ 64) : Ok G l 9 k 67 160 ((List.range 1).map (fun t => vI (xs (5 * k + 1 + t)).toInt)) h := c_clock i (by decide)
theorem lo_when (i : INV k h) (hk : k ≤ 64) : Ok G l 9 k 68 166 ((List.range 1).map (fun t => vI (xs (5 * k + 1 + t)).toInt)) h := c_when i hk (by decide)
theorem lo_last (i : INV k h) (hk : k ≤ 64) : Ok G l 9 k 69 167 ((List.range 0).map (fun t => vI (xs (5 * k + 1 + t)).toInt)) h := c_last i hk (by decide)
theorem lo_waited (i : INV k h) (hk : k ≤ 64) : Ok G l 9 k 70 168 ((List.range 1).map (fun t => vI (xs (5 * k + 1 + t)).toInt)) h := c_waited i hk (by decide)
theorem lo_crowd (i : INV k h) (hk : k ≤ 64) : Ok G l 9 k 71 169 ((List.range 1).map (fun t => vI (xs (5 * k + 1 + t)).toInt)) h := c_crowd i hk (by decide)
theorem lo_there (i : INV k h) (hk : k ≤ 64) : Ok G l 9 k 72 170 ((List.range 2).map (fun t => vI (xs (5 * k + 1 + t)).toInt)) h := c_there i hk (by decide)
theorem lo_drill (i : INV k h) (hk : k ≤ 64) : Ok G l 9 k 73 171 ((List.range 0).map (fun t => vI (xs (5 * k + 1 + t)).toInt)) h := c_drill i hk (by decide)
theorem lo_early (i : INV k h) (hk : k ≤ 64) : Ok G l 9 k 74 172 ((List.range 2).map (fun t => vI (xs (5 * k + 1 + t)).toInt)) h := c_early i hk (by decide)
theorem lo_swap (i : INV k h) (hk : k ≤ 64) : Ok G l 9 k 75 173 ((List.range 0).map (fun t => vI (xs (5 * k + 1 + t)).toInt)) h := c_swap i hk (by decide)
theorem lo_enough (i : INV k h) (hk : k ≤ 64) : Ok G l 9 k 76 174 ((List.range 1).map (fun t => vI (xs (5 * k + 1 + t)).toInt)) h := c_enough i hk (by decide)
theorem lo_worst (i : INV k h) (hk : k ≤ 64) : Ok G l 9 k 77 175 ((List.range 1).map (fun t => vI (xs (5 * k + 1 + t)).toInt)) h := c_worst i hk (by decide)
theorem lo_rent (i : INV k h) (hk : k ≤ 64) : Ok G l 9 k 78 177 ((List.range 1).map (fun t => vI (xs (5 * k + 1 + t)).toInt)) h := c_rent i hk (by decide)
theorem lo_cheapest (i : INV k h) (hk : k ≤ 64) : Ok G l 9 k 79 178 ((List.range 0).map (fun t => vI (xs (5 * k + 1 + t)).toInt)) h := c_cheapest i hk (by decide)
theorem lo_seed (i : INV k h) (hk : k ≤ 64) : Ok G l 9 k 80 179 ((List.range 1).map (fun t => vI (xs (5 * k + 1 + t)).toInt)) h := c_seed i
theorem lo_lot (i : INV k h) (hk : k ≤ 64) : Ok G l 9 k 81 180 ((List.range 1).map (fun t => vI (xs (5 * k + 1 + t)).toInt)) h := c_lot i (by decide)
theorem lo_prove (i : INV k h) (hk : k ≤ 64) : Ok G l 9 k 82 182 ((List.range 1).map (fun t => vI (xs (5 * k + 1 + t)).toInt)) h := c_prove i hk (by decide)
theorem lo_row (i : INV k h) (hk : k ≤ 64) : Ok G l 9 k 83 184 ((List.range 2).map (fun t => vI (xs (5 * k + 1 + t)).toInt)) h := c_row i (by decide)
theorem lo_alter (i : INV k h) (hk : k ≤ 64) : Ok G l 9 k 84 185 ((List.range 3).map (fun t => vI (xs (5 * k + 1 + t)).toInt)) h := c_alter i (by decide)
theorem lo_judge (i : INV k h) (hk : k ≤ 64) : Ok G l 9 k 85 186 ((List.range 0).map (fun t => vI (xs (5 * k + 1 + t)).toInt)) h := c_judge i hk (by decide)
theorem lo_starts (i : INV k h) (hk : k ≤ 64) : Ok G l 9 k 86 187 ((List.range 4).map (fun t => vI (xs (5 * k + 1 + t)).toInt)) h := c_starts i (by decide)
theorem lo_sheet (i : INV k h) (hk : k ≤ 64) : Ok G l 9 k 87 189 ((List.range 3).map (fun t => vI (xs (5 * k + 1 + t)).toInt)) h := c_sheet i (by decide)
theorem lo_put (i : INV k h) (hk : k ≤ 64) : Ok G l 9 k 88 190 ((List.range 3).map (fun t => vI (xs (5 * k + 1 + t)).toInt)) h := c_put i (i32_ok _) (by decide)
theorem lo_item (i : INV k h) (hk : k ≤ 64) : Ok G l 9 k 89 192 ((List.range 3).map (fun t => vI (xs (5 * k + 1 + t)).toInt)) h := c_item i (by decide)
theorem lo_shelf (i : INV k h) (hk : k ≤ 64) : Ok G l 9 k 90 194 ((List.range 3).map (fun t => vI (xs (5 * k + 1 + t)).toInt)) h := c_shelf i (by decide)
theorem lo_taken (i : INV k h) (hk : k ≤ 64) : Ok G l 9 k 91 197 ((List.range 2).map (fun t => vI (xs (5 * k + 1 + t)).toInt)) h := c_taken i (by decide)
theorem lo_act (i : INV k h) (hk : k ≤ 64) : Ok G l 9 k 92 208 ((List.range 3).map (fun t => vI (xs (5 * k + 1 + t)).toInt)) h := c_act i (by decide)
theorem lo_trace (i : INV k h) (hk : k ≤ 64) : Ok G l 9 k 93 209 ((List.range 1).map (fun t => vI (xs (5 * k + 1 + t)).toInt)) h := c_trace i (by decide)
theorem lo_many (i : INV k h) (hk : k ≤ 64) : Ok G l 9 k 94 210 ((List.range 1).map (fun t => vI (xs (5 * k + 1 + t)).toInt)) h := c_many i (by decide)
theorem lo_keep (i : INV k h) (hk : k ≤ 64) : Ok G l 9 k 95 213 ((List.range 0).map (fun t => vI (xs (5 * k + 1 + t)).toInt)) h := c_keep i (by decide)
theorem lo_again (i : INV k h) (hk : k ≤ 64) : Ok G l 9 k 96 214 ((List.range 0).map (fun t => vI (xs (5 * k + 1 + t)).toInt)) h := c_again i (by decide)
theorem lsw_d : decode code 32 = .ok (.tableswitch 1437 0 42 #[188, 251, 264, 287, 330, 353, 386, 439, 472, 515, 558, 591, 604, 627, 650, 673, 686, 709, 732, 765, 778, 811, 824, 847, 870, 893, 906, 929, 952, 975, 1008, 1051, 1064, 1117, 1160, 1203, 1246, 1289, 1322, 1365, 1388, 1411, 1424], 188) := by decide +kernel
set_option maxHeartbeats 4000000 in
theorem law_sw (C : LC G p s m meth c b L xs) (hS : va_S (fun q => s.heap.size ≤ q) s.heap H locs) (hP : va_P G.1 vwCl (wsG G h) H) (hO : Hok h) (hl : lv_has la 4 (lwL G b k)) (hkL : 5 * k + 5 ≤ L) (hL : L ≤ 320) (hcl : cells ≤ 600000 ∧ slots ≤ 7302250) (i : INV k h) (v : Nat) (hv : v < 64)
    (kk : ∀ (h' : AH) (H1 : Heap) (locs1 : List Loc), INV (k + 1) h' → Hok h' → va_P G.1 vwCl (wsG G h') H1 → va_S (fun q => s.heap.size ≤ q) s.heap H1 locs1 → W p l e room_1 s m #[Value.ref b] below meth c H1 locs1 cells slots QQ (F0 m 1469 la [])) : W p l e room_1 s m #[Value.ref b] below meth c H locs cells slots QQ (F0 m 32 la [.int (Int32.ofInt (v : Int))]) := by
  have hk : k ≤ 64 := by omega
  have hr : R32 (v : Int) := by unfold R32; omega
  have hz : (Int32.ofInt (v : Int)).toInt = v := of32 hr
  by_cases h43 : 42 < v
  · refine lv_tableOut C.1 C.2.1 lsw_d (by rw [hz]; omega) (tgt := 1469) rfl ?_
    exact kk h H locs (INV_k i) hO hP hS
  rcases (by omega : v = 0 ∨ v = 1 ∨ v = 2 ∨ v = 3 ∨ v = 4 ∨ v = 5 ∨ v = 6 ∨ v = 7 ∨ v = 8 ∨ v = 9 ∨ v = 10 ∨ v = 11 ∨ v = 12 ∨ v = 13 ∨ v = 14 ∨ v = 15 ∨ v = 16 ∨ v = 17 ∨ v = 18 ∨ v = 19 ∨ v = 20 ∨ v = 21 ∨ v = 22 ∨ v = 23 ∨ v = 24 ∨ v = 25 ∨ v = 26 ∨ v = 27 ∨ v = 28 ∨ v = 29 ∨ v = 30 ∨ v = 31 ∨ v = 32 ∨ v = 33 ∨ v = 34 ∨ v = 35 ∨ v = 36 ∨ v = 37 ∨ v = 38 ∨ v = 39 ∨ v = 40 ∨ v = 41 ∨ v = 42) with rfl | rfl | rfl | rfl | rfl | rfl | rfl | rfl | rfl | rfl | rfl | rfl | rfl | rfl | rfl | rfl | rfl | rfl | rfl | rfl | rfl | rfl | rfl | rfl | rfl | rfl | rfl | rfl | rfl | rfl | rfl | rfl | rfl | rfl | rfl | rfl | rfl | rfl | rfl | rfl | rfl | rfl | rfl
  · refine lv_tableIn C.1 C.2.1 lsw_d (by rw [hz]; decide) (by rw [hz]; decide) (off := 188) (by rw [hz]; rfl) (tgt := 220) rfl ?_
    exact law_feed C hS hP hO hl hkL hL hcl i hk kk
  · refine lv_tableIn C.1 C.2.1 lsw_d (by rw [hz]; decide) (by rw [hz]; decide) (off := 251) (by rw [hz]; rfl) (tgt := 283) rfl ?_
    exact law_case C hS hP hO hl hkL hL hcl (by decide) lb_tower lx_tower (lo_tower i hk) kk
  · refine lv_tableIn C.1 C.2.1 lsw_d (by rw [hz]; decide) (by rw [hz]; decide) (off := 264) (by rw [hz]; rfl) (tgt := 296) rfl ?_
    exact law_case C hS hP hO hl hkL hL hcl (by decide) lb_room lx_room (lo_room i hk) kk
  · refine lv_tableIn C.1 C.2.1 lsw_d (by rw [hz]; decide) (by rw [hz]; decide) (off := 287) (by rw [hz]; rfl) (tgt := 319) rfl ?_
    exact law_case C hS hP hO hl hkL hL hcl (by decide) lb_hat lx_hat (lo_hat i hk) kk
  · refine lv_tableIn C.1 C.2.1 lsw_d (by rw [hz]; decide) (by rw [hz]; decide) (off := 330) (by rw [hz]; rfl) (tgt := 362) rfl ?_
    exact law_case C hS hP hO hl hkL hL hcl (by decide) lb_sweep lx_sweep (lo_sweep i hk) kk
  · refine lv_tableIn C.1 C.2.1 lsw_d (by rw [hz]; decide) (by rw [hz]; decide) (off := 353) (by rw [hz]; rfl) (tgt := 385) rfl ?_
    exact law_case C hS hP hO hl hkL hL hcl (by decide) lb_closed lx_closed (lo_closed i hk) kk
  · refine lv_tableIn C.1 C.2.1 lsw_d (by rw [hz]; decide) (by rw [hz]; decide) (off := 386) (by rw [hz]; rfl) (tgt := 418) rfl ?_
    exact law_case C hS hP hO hl hkL hL hcl (by decide) lb_person lx_person (lo_person i hk) kk
  · refine lv_tableIn C.1 C.2.1 lsw_d (by rw [hz]; decide) (by rw [hz]; decide) (off := 439) (by rw [hz]; rfl) (tgt := 471) rfl ?_
    exact law_case C hS hP hO hl hkL hL hcl (by decide) lb_personOf lx_personOf (lo_personOf i hk) kk
  · refine lv_tableIn C.1 C.2.1 lsw_d (by rw [hz]; decide) (by rw [hz]; decide) (off := 472) (by rw [hz]; rfl) (tgt := 504) rfl ?_
    exact law_case C hS hP hO hl hkL hL hcl (by decide) lb_mind lx_mind (lo_mind i hk) kk
  · refine lv_tableIn C.1 C.2.1 lsw_d (by rw [hz]; decide) (by rw [hz]; decide) (off := 515) (by rw [hz]; rfl) (tgt := 547) rfl ?_
    exact law_case C hS hP hO hl hkL hL hcl (by decide) lb_sends lx_sends (lo_sends i hk) kk
  · refine lv_tableIn C.1 C.2.1 lsw_d (by rw [hz]; decide) (by rw [hz]; decide) (off := 558) (by rw [hz]; rfl) (tgt := 590) rfl ?_
    exact law_case C hS hP hO hl hkL hL hcl (by decide) lb_stand lx_stand (lo_stand i hk) kk
  · refine lv_tableIn C.1 C.2.1 lsw_d (by rw [hz]; decide) (by rw [hz]; decide) (off := 591) (by rw [hz]; rfl) (tgt := 623) rfl ?_
    exact law_case C hS hP hO hl hkL hL hcl (by decide) lb_minute lx_minute (lo_minute i hk) kk
  · refine lv_tableIn C.1 C.2.1 lsw_d (by rw [hz]; decide) (by rw [hz]; decide) (off := 604) (by rw [hz]; rfl) (tgt := 636) rfl ?_
    exact law_case C hS hP hO hl hkL hL hcl (by decide) lb_minutes lx_minutes (lo_minutes i hk) kk
  · refine lv_tableIn C.1 C.2.1 lsw_d (by rw [hz]; decide) (by rw [hz]; decide) (off := 627) (by rw [hz]; rfl) (tgt := 659) rfl ?_
    exact law_case C hS hP hO hl hkL hL hcl (by decide) lb_clock lx_clock (lo_clock i hk) kk
  · refine lv_tableIn C.1 C.2.1 lsw_d (by rw [hz]; decide) (by rw [hz]; decide) (off := 650) (by rw [hz]; rfl) (tgt := 682) rfl ?_
    exact law_case C hS hP hO hl hkL hL hcl (by decide) lb_when lx_when (lo_when i hk) kk
  · refine lv_tableIn C.1 C.2.1 lsw_d (by rw [hz]; decide) (by rw [hz]; decide) (off := 673) (by rw [hz]; rfl) (tgt := 705) rfl ?_
    exact law_case C hS hP hO hl hkL hL hcl (by decide) lb_last lx_last (lo_last i hk) kk
  · refine lv_tableIn C.1 C.2.1 lsw_d (by rw [hz]; decide) (by rw [hz]; decide) (off := 686) (by rw [hz]; rfl) (tgt := 718) rfl ?_
    exact law_case C hS hP hO hl hkL hL hcl (by decide) lb_waited lx_waited (lo_waited i hk) kk
  · refine lv_tableIn C.1 C.2.1 lsw_d (by rw [hz]; decide) (by rw [hz]; decide) (off := 709) (by rw [hz]; rfl) (tgt := 741) rfl ?_
    exact law_case C hS hP hO hl hkL hL hcl (by decide) lb_crowd lx_crowd (lo_crowd i hk) kk
  · refine lv_tableIn C.1 C.2.1 lsw_d (by rw [hz]; decide) (by rw [hz]; decide) (off := 732) (by rw [hz]; rfl) (tgt := 764) rfl ?_
    exact law_case C hS hP hO hl hkL hL hcl (by decide) lb_there lx_there (lo_there i hk) kk
  · refine lv_tableIn C.1 C.2.1 lsw_d (by rw [hz]; decide) (by rw [hz]; decide) (off := 765) (by rw [hz]; rfl) (tgt := 797) rfl ?_
    exact law_case C hS hP hO hl hkL hL hcl (by decide) lb_drill lx_drill (lo_drill i hk) kk
  · refine lv_tableIn C.1 C.2.1 lsw_d (by rw [hz]; decide) (by rw [hz]; decide) (off := 778) (by rw [hz]; rfl) (tgt := 810) rfl ?_
    exact law_case C hS hP hO hl hkL hL hcl (by decide) lb_early lx_early (lo_early i hk) kk
  · refine lv_tableIn C.1 C.2.1 lsw_d (by rw [hz]; decide) (by rw [hz]; decide) (off := 811) (by rw [hz]; rfl) (tgt := 843) rfl ?_
    exact law_case C hS hP hO hl hkL hL hcl (by decide) lb_swap lx_swap (lo_swap i hk) kk
  · refine lv_tableIn C.1 C.2.1 lsw_d (by rw [hz]; decide) (by rw [hz]; decide) (off := 824) (by rw [hz]; rfl) (tgt := 856) rfl ?_
    exact law_case C hS hP hO hl hkL hL hcl (by decide) lb_enough lx_enough (lo_enough i hk) kk
  · refine lv_tableIn C.1 C.2.1 lsw_d (by rw [hz]; decide) (by rw [hz]; decide) (off := 847) (by rw [hz]; rfl) (tgt := 879) rfl ?_
    exact law_case C hS hP hO hl hkL hL hcl (by decide) lb_worst lx_worst (lo_worst i hk) kk
  · refine lv_tableIn C.1 C.2.1 lsw_d (by rw [hz]; decide) (by rw [hz]; decide) (off := 870) (by rw [hz]; rfl) (tgt := 902) rfl ?_
    exact law_case C hS hP hO hl hkL hL hcl (by decide) lb_rent lx_rent (lo_rent i hk) kk
  · refine lv_tableIn C.1 C.2.1 lsw_d (by rw [hz]; decide) (by rw [hz]; decide) (off := 893) (by rw [hz]; rfl) (tgt := 925) rfl ?_
    exact law_case C hS hP hO hl hkL hL hcl (by decide) lb_cheapest lx_cheapest (lo_cheapest i hk) kk
  · refine lv_tableIn C.1 C.2.1 lsw_d (by rw [hz]; decide) (by rw [hz]; decide) (off := 906) (by rw [hz]; rfl) (tgt := 938) rfl ?_
    exact law_case C hS hP hO hl hkL hL hcl (by decide) lb_seed lx_seed (lo_seed i hk) kk
  · refine lv_tableIn C.1 C.2.1 lsw_d (by rw [hz]; decide) (by rw [hz]; decide) (off := 929) (by rw [hz]; rfl) (tgt := 961) rfl ?_
    exact law_case C hS hP hO hl hkL hL hcl (by decide) lb_lot lx_lot (lo_lot i hk) kk
  · refine lv_tableIn C.1 C.2.1 lsw_d (by rw [hz]; decide) (by rw [hz]; decide) (off := 952) (by rw [hz]; rfl) (tgt := 984) rfl ?_
    exact law_case C hS hP hO hl hkL hL hcl (by decide) lb_prove lx_prove (lo_prove i hk) kk
  · refine lv_tableIn C.1 C.2.1 lsw_d (by rw [hz]; decide) (by rw [hz]; decide) (off := 975) (by rw [hz]; rfl) (tgt := 1007) rfl ?_
    exact law_case C hS hP hO hl hkL hL hcl (by decide) lb_row lx_row (lo_row i hk) kk
  · refine lv_tableIn C.1 C.2.1 lsw_d (by rw [hz]; decide) (by rw [hz]; decide) (off := 1008) (by rw [hz]; rfl) (tgt := 1040) rfl ?_
    exact law_case C hS hP hO hl hkL hL hcl (by decide) lb_alter lx_alter (lo_alter i hk) kk
  · refine lv_tableIn C.1 C.2.1 lsw_d (by rw [hz]; decide) (by rw [hz]; decide) (off := 1051) (by rw [hz]; rfl) (tgt := 1083) rfl ?_
    exact law_case C hS hP hO hl hkL hL hcl (by decide) lb_judge lx_judge (lo_judge i hk) kk
  · refine lv_tableIn C.1 C.2.1 lsw_d (by rw [hz]; decide) (by rw [hz]; decide) (off := 1064) (by rw [hz]; rfl) (tgt := 1096) rfl ?_
    exact law_case C hS hP hO hl hkL hL hcl (by decide) lb_starts lx_starts (lo_starts i hk) kk
  · refine lv_tableIn C.1 C.2.1 lsw_d (by rw [hz]; decide) (by rw [hz]; decide) (off := 1117) (by rw [hz]; rfl) (tgt := 1149) rfl ?_
    exact law_case C hS hP hO hl hkL hL hcl (by decide) lb_sheet lx_sheet (lo_sheet i hk) kk
  · refine lv_tableIn C.1 C.2.1 lsw_d (by rw [hz]; decide) (by rw [hz]; decide) (off := 1160) (by rw [hz]; rfl) (tgt := 1192) rfl ?_
    exact law_case C hS hP hO hl hkL hL hcl (by decide) lb_put lx_put (lo_put i hk) kk
  · refine lv_tableIn C.1 C.2.1 lsw_d (by rw [hz]; decide) (by rw [hz]; decide) (off := 1203) (by rw [hz]; rfl) (tgt := 1235) rfl ?_
    exact law_case C hS hP hO hl hkL hL hcl (by decide) lb_item lx_item (lo_item i hk) kk
  · refine lv_tableIn C.1 C.2.1 lsw_d (by rw [hz]; decide) (by rw [hz]; decide) (off := 1246) (by rw [hz]; rfl) (tgt := 1278) rfl ?_
    exact law_case C hS hP hO hl hkL hL hcl (by decide) lb_shelf lx_shelf (lo_shelf i hk) kk
  · refine lv_tableIn C.1 C.2.1 lsw_d (by rw [hz]; decide) (by rw [hz]; decide) (off := 1289) (by rw [hz]; rfl) (tgt := 1321) rfl ?_
    exact law_case C hS hP hO hl hkL hL hcl (by decide) lb_taken lx_taken (lo_taken i hk) kk
  · refine lv_tableIn C.1 C.2.1 lsw_d (by rw [hz]; decide) (by rw [hz]; decide) (off := 1322) (by rw [hz]; rfl) (tgt := 1354) rfl ?_
    exact law_case C hS hP hO hl hkL hL hcl (by decide) lb_act lx_act (lo_act i hk) kk
  · refine lv_tableIn C.1 C.2.1 lsw_d (by rw [hz]; decide) (by rw [hz]; decide) (off := 1365) (by rw [hz]; rfl) (tgt := 1397) rfl ?_
    exact law_case C hS hP hO hl hkL hL hcl (by decide) lb_trace lx_trace (lo_trace i hk) kk
  · refine lv_tableIn C.1 C.2.1 lsw_d (by rw [hz]; decide) (by rw [hz]; decide) (off := 1388) (by rw [hz]; rfl) (tgt := 1420) rfl ?_
    exact law_case C hS hP hO hl hkL hL hcl (by decide) lb_many lx_many (lo_many i hk) kk
  · refine lv_tableIn C.1 C.2.1 lsw_d (by rw [hz]; decide) (by rw [hz]; decide) (off := 1411) (by rw [hz]; rfl) (tgt := 1443) rfl ?_
    exact law_case C hS hP hO hl hkL hL hcl (by decide) lb_keep lx_keep (lo_keep i hk) kk
  · refine lv_tableIn C.1 C.2.1 lsw_d (by rw [hz]; decide) (by rw [hz]; decide) (off := 1424) (by rw [hz]; rfl) (tgt := 1456) rfl ?_
    exact law_case C hS hP hO hl hkL hL hcl (by decide) lb_again lx_again (lo_again i hk) kk
end L4CASE
