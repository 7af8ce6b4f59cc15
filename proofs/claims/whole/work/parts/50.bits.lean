/-! BITS: the machine's on small numbers -/
theorem ofN (n : Nat) : Int32.ofInt (n : Int) = nI n := rfl
theorem ofN1 : Int32.ofInt 1 = nI 1 := rfl
theorem bs_l : ∀ n, n < 32 → ((nI n &&& 31).toBitVec.smod 32).toNat = n := by decide +kernel
theorem bs_and (a b : Nat) : nI a &&& nI b = nI (a &&& b) := by
  apply Int32.toBitVec_inj.1
  show BitVec.ofNat 32 a &&& BitVec.ofNat 32 b = BitVec.ofNat 32 (a &&& b)
  apply BitVec.eq_of_getLsbD_eq
  intro i hi
  simp [hi]
theorem bs_or (a b : Nat) : nI a ||| nI b = nI (a ||| b) := by
  apply Int32.toBitVec_inj.1
  show BitVec.ofNat 32 a ||| BitVec.ofNat 32 b = BitVec.ofNat 32 (a ||| b)
  apply BitVec.eq_of_getLsbD_eq
  intro i hi
  simp [hi]
theorem or_lt {a b k : Nat} (ha : a < 2 ^ k) (hb : b < 2 ^ k) : a ||| b < 2 ^ k := Nat.or_lt_two_pow ha hb
theorem ishr_nat {t i : Nat} (ht : t < 2147483648) (hi : i < 32) : ishr (t : Int) (i : Int) = ((t / 2 ^ i : Nat) : Int) := by
  unfold ishr
  rw [ofN, ofN, pk_shrN ht _ i (bs_l i hi), nI_toInt (Nat.lt_of_le_of_lt (Nat.div_le_self _ _) ht)]
theorem iand_nat {a b : Nat} (ha : a < 2147483648) : iand (a : Int) (b : Int) = ((a &&& b : Nat) : Int) := by
  unfold iand
  rw [ofN, ofN, bs_and, nI_toInt (Nat.lt_of_le_of_lt Nat.and_le_left ha)]
theorem ior_nat {a b : Nat} (ha : a < 2147483648) (hb : b < 2147483648) : ior (a : Int) (b : Int) = ((a ||| b : Nat) : Int) := by
  unfold ior
  rw [ofN, ofN, bs_or, nI_toInt (or_lt (k := 31) ha hb)]
theorem ishl_1 {i : Nat} (hi : i < 31) : ishl 1 (i : Int) = ((2 ^ i : Nat) : Int) := by
  have h : (2 : Nat) ^ i < 2 ^ 31 := Nat.pow_lt_pow_right (by decide) hi
  unfold ishl
  rw [ofN, ofN1, pk_shlN _ i (bs_l i (by omega)) (by omega), Nat.one_mul, nI_toInt h]
/-- the bit at a place -/
def btN (t i : Nat) : Int := if t.testBit i then 1 else 0
theorem bit_nat {t i : Nat} (ht : t < 2147483648) (hi : i < 32) : iand (ishr (t : Int) (i : Int)) 1 = btN t i := by
  rw [ishr_nat ht hi]
  have h1 := iand_nat (a := t / 2 ^ i) (b := 1) (Nat.lt_of_le_of_lt (Nat.div_le_self _ _) ht)
  rw [show ((1 : Nat) : Int) = 1 from rfl] at h1
  rw [h1, Nat.and_one_is_mod]
  unfold btN
  rw [Nat.testBit_eq_decide_div_mod_eq]
  rcases Nat.mod_two_eq_zero_or_one (t / 2 ^ i) with h | h <;> simp [h]
theorem btN_01 (t i : Nat) : btN t i = 0 ∨ btN t i = 1 := by unfold btN; split <;> simp
theorem btN_1 {t i : Nat} : btN t i = 1 ↔ t.testBit i = true := by unfold btN; split <;> simp_all
/-- a set of streets among those that are told -/
theorem sub_iff {x : Int} {t : Nat} (hx : inR x) (ht : t < 16384) : iand x (ixor (t : Int) (-1)) = 0 ↔ ∃ u : Nat, x = (u : Int) ∧ u < 16384 ∧ ∀ i, u.testBit i = true → t.testBit i = true := by
  have e : ixor (t : Int) (-1) = (nI t ^^^ (-1)).toInt := rfl
  have key : iand x (ixor (t : Int) (-1)) = (Int32.ofInt x &&& (nI t ^^^ (-1))).toInt := by
    unfold iand
    rw [e, Int32.ofInt_toInt]
  rw [key]
  constructor
  · intro h
    have h0 : Int32.ofInt x &&& (nI t ^^^ (-1)) = 0 := Int32.toInt_inj.1 h
    have hb : ∀ i, i < 32 → (Int32.ofInt x).toBitVec.getLsbD i = true → t.testBit i = true := by
      intro i hi hxi
      have h1 := congrArg (fun z : Int32 => z.toBitVec.getLsbD i) h0
      have e1 : (-1 : Int32).toBitVec.getLsbD i = true := (by decide +kernel : ∀ i, i < 32 → (-1 : Int32).toBitVec.getLsbD i = true) i hi
      simp only [Int32.toBitVec_and, Int32.toBitVec_xor, BitVec.getLsbD_and, BitVec.getLsbD_xor, hxi, e1, Bool.true_and] at h1
      have e2 : (nI t).toBitVec.getLsbD i = t.testBit i := by
        show (BitVec.ofNat 32 t).getLsbD i = _
        rw [BitVec.getLsbD_ofNat]; simp [hi]
      rw [e2] at h1
      have e3 : (0 : Int32).toBitVec.getLsbD i = false := (by decide +kernel : ∀ i, i < 32 → (0 : Int32).toBitVec.getLsbD i = false) i hi
      rw [e3] at h1
      cases hq : t.testBit i with
      | true => rfl
      | false => rw [hq] at h1; cases h1
    have hlt : (Int32.ofInt x).toBitVec.toNat < 2 ^ 14 := by
      apply Nat.lt_pow_two_of_testBit
      intro i hi
      by_cases h32 : i < 32
      · cases hq : (Int32.ofInt x).toBitVec.toNat.testBit i with
        | false => rfl
        | true =>
          have := hb i h32 (by rw [← BitVec.testBit_toNat]; exact hq)
          rw [Nat.testBit_lt_two_pow (Nat.lt_of_lt_of_le (show t < 2 ^ 14 from ht) (Nat.pow_le_pow_right (by decide) hi))] at this
          cases this
      · exact Nat.testBit_lt_two_pow (Nat.lt_of_lt_of_le (Int32.ofInt x).toBitVec.isLt (Nat.pow_le_pow_right (by decide) (by omega)))
    refine ⟨(Int32.ofInt x).toBitVec.toNat, ?_, hlt, fun i hi => ?_⟩
    · have h2 : (Int32.ofInt x).toInt = ((Int32.ofInt x).toBitVec.toNat : Int) := by
        show (Int32.ofInt x).toBitVec.toInt = _
        rw [BitVec.toInt_eq_toNat_of_lt]
        omega
      rw [toR hx] at h2
      exact h2
    · by_cases h32 : i < 32
      · exact hb i h32 (by rw [← BitVec.testBit_toNat]; exact hi)
      · rw [Nat.testBit_lt_two_pow (Nat.lt_of_lt_of_le (Int32.ofInt x).toBitVec.isLt (Nat.pow_le_pow_right (by decide) (by omega)))] at hi
        cases hi
  · rintro ⟨u, rfl, hu, hb⟩
    have : Int32.ofInt (u : Int) &&& (nI t ^^^ (-1)) = 0 := by
      rw [ofN]
      apply Int32.toBitVec_inj.1
      apply BitVec.eq_of_getLsbD_eq
      intro i hi
      have e1 : (-1 : Int32).toBitVec.getLsbD i = true := (by decide +kernel : ∀ i, i < 32 → (-1 : Int32).toBitVec.getLsbD i = true) i hi
      have e3 : (0 : Int32).toBitVec.getLsbD i = false := (by decide +kernel : ∀ i, i < 32 → (0 : Int32).toBitVec.getLsbD i = false) i hi
      have e2 : ∀ n : Nat, (nI n).toBitVec.getLsbD i = n.testBit i := fun n => by
        show (BitVec.ofNat 32 n).getLsbD i = _
        rw [BitVec.getLsbD_ofNat]; simp [hi]
      simp only [Int32.toBitVec_and, Int32.toBitVec_xor, BitVec.getLsbD_and, BitVec.getLsbD_xor, e1, e2, e3]
      cases hq : u.testBit i with
      | false => rfl
      | true => rw [hb i hq]; rfl
    rw [this]
    rfl
/-- how many bits -/
def pop14 (u : Nat) : Nat := ((List.range 14).filter fun i => u.testBit i).length
