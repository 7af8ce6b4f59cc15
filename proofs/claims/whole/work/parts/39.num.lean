/-! NUMBERS: what the machine's divisions and bits are on the numbers that occur -/
theorem idiv_pos {x y : Int} (hx : 0 ≤ x ∧ x < 2147483648) (hy : 0 < y ∧ y < 2147483648) : idiv x y = x / y := by
  unfold idiv
  have rx : inR x := ⟨by omega, by omega⟩
  have ry : inR y := ⟨by omega, by omega⟩
  rw [Int32.toInt_div_of_ne_right, toR rx, toR ry, Int.tdiv_eq_ediv_of_nonneg hx.1]
  intro h
  have h2 := congrArg Int32.toInt h
  rw [toR ry] at h2
  have h3 : (-1 : Int32).toInt = -1 := by decide
  omega
theorem irem_w (x y : Int) : irem x y = w32 (x - idiv x y * y) := by
  unfold irem
  rw [← toR (inR_w (x - idiv x y * y)), ofw, Int32.ofInt_sub, Int32.ofInt_mul]
  unfold idiv
  rw [Int32.ofInt_toInt]
theorem irem_pos {x y : Int} (hx : 0 ≤ x ∧ x < 2147483648) (hy : 0 < y ∧ y < 2147483648) : irem x y = x % y := by
  rw [irem_w, idiv_pos hx hy]
  have h1 := Int.emod_add_mul_ediv x y
  have h2 := Int.emod_nonneg x (by omega : y ≠ 0)
  have h3 := Int.emod_lt_of_pos x hy.1
  have h4 : x / y * y = y * (x / y) := Int.mul_comm _ _
  rw [h4, w32_id ⟨by omega, by omega⟩]
  omega
