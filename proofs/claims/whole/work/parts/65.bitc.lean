/-! HOW MANY STREETS -/
theorem iushr_nat {n s : Nat} (hn : n < 2147483648) (hs : s < 32) : iushr (n : Int) (s : Int) = ((n / 2 ^ s : Nat) : Int) := by
  have e : iushr (n : Int) (s : Int) = (((Int32.ofInt (n : Int)).toUInt32 >>> ((nI s).toUInt32 &&& Int32.toUInt32 31)).toInt32).toInt := rfl
  have e1 : (((Int32.ofInt (n : Int)).toUInt32 >>> ((nI s).toUInt32 &&& Int32.toUInt32 31)).toInt32).toBitVec.toNat = n / 2 ^ s := by
    show ((Int32.ofInt (n : Int)).toUInt32 >>> ((nI s).toUInt32 &&& Int32.toUInt32 31)).toNat = _
    rw [UInt32.toNat_shiftRight, bw_l s hs, nt_of ⟨by omega, by omega⟩, Nat.shiftRight_eq_div_pow, show ((n : Int) % 4294967296).toNat = n by omega]
  have hle : n / 2 ^ s ≤ n := Nat.div_le_self _ _
  rw [e]
  show (_ : Int32).toBitVec.toInt = _
  rw [BitVec.toInt_eq_toNat_of_lt (by omega), e1]
def bc1 (u : Nat) : Nat := u - (u / 2 &&& 1431655765)
def bc2 (u : Nat) : Nat := (u &&& 858993459) + (u / 4 &&& 858993459)
def bc3 (u : Nat) : Nat := (u + u / 16) &&& 252645135
def bc4 (u : Nat) : Nat := u + u / 256
def bc5 (u : Nat) : Nat := u + u / 65536
theorem bc_all : ∀ a, a < 128 → ∀ b, b < 128 → bc5 (bc4 (bc3 (bc2 (bc1 (128 * a + b))))) &&& 63 = cn (128 * a + b) := by decide +kernel
theorem s_bitCount {N u : Nat} (hu : u < 16384) (h : Hp) : F_J6_bitCount_0f7a4 N (u : Int) h = some (((cn u : Nat) : Int), h) := by
  unfold F_J6_bitCount_0f7a4
  have a1 : u / 2 &&& 1431655765 ≤ u / 2 := Nat.and_le_left
  have b1 : bc1 u ≤ u := Nat.sub_le _ _
  obtain ⟨v1, e1⟩ : ∃ v, v = bc1 u := ⟨_, rfl⟩
  have k1 : w32 ((u : Int) - iand (iushr (u : Int) 1) 1431655765) = (v1 : Int) := by
    rw [show iushr (u : Int) 1 = ((u / 2 : Nat) : Int) from iushr_nat (s := 1) (by omega) (by omega), show iand ((u / 2 : Nat) : Int) 1431655765 = ((u / 2 &&& 1431655765 : Nat) : Int) from iand_nat (b := 1431655765) (by omega), w32_id ⟨by omega, by omega⟩, e1]
    unfold bc1
    omega
  rw [k1, bnd_s]
  have a2 : v1 &&& 858993459 ≤ v1 := Nat.and_le_left
  have a3 : v1 / 4 &&& 858993459 ≤ v1 / 4 := Nat.and_le_left
  obtain ⟨v2, e2⟩ : ∃ v, v = bc2 v1 := ⟨_, rfl⟩
  have b2 : v2 ≤ 2 * v1 := by rw [e2]; unfold bc2; omega
  have k2 : w32 (iand (v1 : Int) 858993459 + iand (iushr (v1 : Int) 2) 858993459) = (v2 : Int) := by
    rw [show iushr (v1 : Int) 2 = ((v1 / 4 : Nat) : Int) from iushr_nat (s := 2) (by omega) (by omega), show iand ((v1 / 4 : Nat) : Int) 858993459 = ((v1 / 4 &&& 858993459 : Nat) : Int) from iand_nat (b := 858993459) (by omega), show iand (v1 : Int) 858993459 = ((v1 &&& 858993459 : Nat) : Int) from iand_nat (b := 858993459) (by omega), w32_id ⟨by omega, by omega⟩, e2]
    unfold bc2
    omega
  rw [k2, bnd_s]
  have a4 : (v2 + v2 / 16) &&& 252645135 ≤ v2 + v2 / 16 := Nat.and_le_left
  obtain ⟨v3, e3⟩ : ∃ v, v = bc3 v2 := ⟨_, rfl⟩
  have b3 : v3 ≤ v2 + v2 / 16 := by rw [e3]; exact a4
  have k3 : iand (w32 ((v2 : Int) + iushr (v2 : Int) 4)) 252645135 = (v3 : Int) := by
    rw [show iushr (v2 : Int) 4 = ((v2 / 16 : Nat) : Int) from iushr_nat (s := 4) (by omega) (by omega), w32_id ⟨by omega, by omega⟩, show (v2 : Int) + ((v2 / 16 : Nat) : Int) = ((v2 + v2 / 16 : Nat) : Int) by omega, show iand ((v2 + v2 / 16 : Nat) : Int) 252645135 = (((v2 + v2 / 16) &&& 252645135 : Nat) : Int) from iand_nat (b := 252645135) (by omega), e3]
    rfl
  rw [k3, bnd_s]
  obtain ⟨v4, e4⟩ : ∃ v, v = bc4 v3 := ⟨_, rfl⟩
  have b4 : v4 = v3 + v3 / 256 := e4
  have k4 : w32 ((v3 : Int) + iushr (v3 : Int) 8) = (v4 : Int) := by
    rw [show iushr (v3 : Int) 8 = ((v3 / 256 : Nat) : Int) from iushr_nat (s := 8) (by omega) (by omega), w32_id ⟨by omega, by omega⟩]
    omega
  rw [k4, bnd_s]
  obtain ⟨v5, e5⟩ : ∃ v, v = bc5 v4 := ⟨_, rfl⟩
  have b5 : v5 = v4 + v4 / 65536 := e5
  have k5 : w32 ((v4 : Int) + iushr (v4 : Int) 16) = (v5 : Int) := by
    rw [show iushr (v4 : Int) 16 = ((v4 / 65536 : Nat) : Int) from iushr_nat (s := 16) (by omega) (by omega), w32_id ⟨by omega, by omega⟩]
    omega
  rw [k5, bnd_s, show iand (v5 : Int) 63 = ((v5 &&& 63 : Nat) : Int) from iand_nat (b := 63) (by omega)]
  have hk := bc_all (u / 128) (by omega) (u % 128) (by omega)
  rw [show 128 * (u / 128) + u % 128 = u by omega, ← e1, ← e2, ← e3, ← e4, ← e5] at hk
  rw [hk]
theorem s_told_y {N u t : Nat} {m : Int} {h : Hp} (hu : u < 16384) (ht : t < 16384) (hs : ∀ i, u.testBit i = true → t.testBit i = true) (e : h 1 4 = (t : Int)) : F_X1_areTold N (u : Int) m h = some (if 1 ≤ (cn u : Int) ∧ (cn u : Int) ≤ m then 1 else 0, h) := by
  unfold F_X1_areTold
  have z : iand (u : Int) (ixor (t : Int) (-1)) = 0 := (sub_iff ⟨by omega, by omega⟩ ht).mpr ⟨u, rfl, hu, hs⟩
  rw [e, if_pos z, s_bitCount hu, bd_s, s_isWithin, bd_s]
  by_cases q : 1 ≤ (cn u : Int) ∧ (cn u : Int) ≤ m
  · rw [if_pos q, if_neg (by decide)]
  · rw [if_neg q, if_pos rfl]
theorem s_told_n {N t : Nat} {x m : Int} {h : Hp} (z : ¬ iand x (ixor (t : Int) (-1)) = 0) (e : h 1 4 = (t : Int)) : F_X1_areTold N x m h = some (0, h) := by
  unfold F_X1_areTold
  rw [e, if_neg z]
theorem cn_pos {u : Nat} (hu : u < 16384) : 1 ≤ cn u ↔ 1 ≤ u := by
  constructor
  · intro h
    refine Nat.pos_of_ne_zero (fun z => ?_)
    subst z
    revert h
    decide
  · intro h
    obtain ⟨i, hi⟩ := Nat.exists_testBit_of_ne_zero (x := u) (by omega)
    by_cases q : i < 14
    · have := cnt_lt q hi
      show 1 ≤ cnt u 14
      omega
    · rw [Nat.testBit_lt_two_pow (Nat.lt_of_lt_of_le (show u < 2 ^ 14 from hu) (Nat.pow_le_pow_right (by decide) (by omega)))] at hi
      cases hi
