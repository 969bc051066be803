section L3TELL
theorem TI_tell {fl : Prop} {x y : AH} {cc i a b : Nat} {S T v : Int} (hcc : 45 ≤ cc) (hi : TI fl x y 12 41) (hm : y 88 41 < 120) : TI fl (tellX cc x) (hu (hu (hu (frY y i) 102 a S) 102 b T) 82 36 v) 12 41 := by
  have h1 : TI fl (hu x cc 0 (x 12 13)) (hu y 102 (3 * i) (y 88 41)) 12 41 := by
    refine TI_cell (fun k hk hk2 => ?_) (fun k hk hk2 => ?_) (fun c hc => ?_) hi
    · funext c; rw [hu_o (by omega)]
    · funext c; rw [hu_o (by omega)]
    · rw [hu_o (by omega)]
  have h2 := TI_pass (by unfold isT; omega) h1 (by rw [hu_o (by omega)]; exact hm)
  have hf : frY y i = minuteM (hu y 102 (3 * i) (y 88 41)) 41 := by
    unfold frY
    rw [goMo, if_pos (show hu y 102 (3 * i) (y 88 41) 88 41 < 120 by rw [hu_o (by omega)]; exact hm), goMo]
  rw [hf]
  unfold tellX
  refine TI_cell (h := passX (hu x cc 0 (x 12 13)) 12) (g := minuteM (hu y 102 (3 * i) (y 88 41)) 41) (fun k hk hk2 => ?_) (fun k hk hk2 => ?_) (fun c hc => ?_) h2
  · funext c; rw [hu_o (by omega), hu_o (by omega)]
  · funext c; rw [hu_o (by omega), hu_o (by omega), hu_o (by omega)]
  · rw [hu_o (by omega), hu_o (by omega), hu_o (by omega)]
end L3TELL
