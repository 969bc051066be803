section L3FEEDB
theorem w8_bm (z : Int) : w8 z = Int.bmod z 256 := by
  unfold w8
  rw [Int32.toInt_toInt8, Int32.toInt_ofInt]
  exact Int.bmod_bmod_of_dvd (by decide)
theorem l2_bm (z : Int) : l2i32 z = Int.bmod z 4294967296 := by
  unfold l2i32
  rw [Int64.toInt_toInt32, Int64.toInt_ofInt]
  exact Int.bmod_bmod_of_dvd (by decide)
theorem w8_w8 (z : Int) : w8 (w8 z) = w8 z := by
  rw [w8_bm, w8_bm, Int.bmod_bmod_of_dvd (by decide)]
theorem w8_l2 (z : Int) : w8 (l2i32 z) = w8 z := by
  rw [w8_bm, w8_bm, l2_bm, Int.bmod_bmod_of_dvd (by decide)]
end L3FEEDB
