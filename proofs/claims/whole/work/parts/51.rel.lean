/-! WHAT HOLDS BETWEEN CLASS AND REFERENCE. Cells of the class: 1 the city (4 told, 5 night, 6 slept, 7 swept, 9 is kept, 10 11 12 kept), 2 houses, 3 lamps, 4 stars, 5 depths, 6 kept depths, 7 roads (3 how many), 8 minutes, 10 ways, 11 law (4 clauses), 12 letters, 13 starts, 14 middles, 15 ends, 16 signs, 17 worths, 20 carts, 21 + 4 k a cart (3 stops, 4 room), 22 + 4 k streets, 23 + 4 k yards, 24 + 4 k takes, 41 tape (1 length), 42 bytes. Of the reference: 83 (12 streets, 13 carts, 15 taped, 24 clauses, 51 startMinute, 58 isKept), 84 now, 86 kept, 87 houses, 88 lamps, 89 stars, 90 road, 91 wayOf, 92 roomOf, 93 stopMany, 94 stopAt, 95 stopYards, 96 tape, 103 codes, 104 clauseOf, 105 codeFrom, 106 codeHalf, 107 codeTo -/
theorem bd_s {α β : Type} {a : α} {h : Hp} {f : α → Hp → Option β} : bd (some (a, h)) f = f a h := rfl
theorem bv_s {β : Type} {h : Hp} {f : Hp → Option β} : bv (some h) f = f h := rfl
theorem bnd_s {α β : Type} {x : α} {f : α → Option β} : bnd x f = f x := rfl
theorem grd_t {β : Type} {c : Prop} [Decidable c] {x : Option β} (h : c) : grd c x = x := if_pos h
theorem hw_eq {h : Hp} {c j : Nat} {v : Int} : hw h c j v c j = v := by simp [hw]
theorem hw_ne {h : Hp} {c j c' j' : Nat} {v : Int} (hn : ¬ (c' = c ∧ j' = j)) : hw h c j v c' j' = h c' j' := if_neg hn
theorem hw_c {h : Hp} {c j c' : Nat} {v : Int} (hn : ¬ c' = c) : hw h c j v c' = h c' := by funext j'; exact if_neg (fun q => hn q.1)
/-- told -/
def IT (h : Hp) (t : Nat) : Prop := t < 16384 ∧ h 1 4 = (t : Int) ∧ h 83 12 = (t : Int)
def IS (h : Hp) : Prop := ∀ i, i < 14 → (h 87 i = h 2 i ∧ 0 ≤ h 2 i ∧ h 2 i ≤ 99) ∧ (h 88 i = h 3 i ∧ 0 ≤ h 3 i ∧ h 3 i ≤ 9) ∧ (h 89 i = h 4 i ∧ 0 ≤ h 4 i ∧ h 4 i ≤ 99)
def ID (h : Hp) (t : Nat) : Prop := ∀ i, i < 14 → h 84 i = h 5 i ∧ 0 ≤ h 5 i ∧ h 5 i ≤ 999 ∧ (t.testBit i = false → h 5 i = 0)
def IN (h : Hp) : Prop := h 84 14 = h 1 5 ∧ 0 ≤ h 1 5 ∧ h 1 5 ≤ 9999 ∧ h 84 15 = h 1 6 ∧ h 84 16 = h 1 7
def IK (h : Hp) (t : Nat) : Prop := h 83 58 = h 1 9 ∧ (h 1 9 = 0 ∨ h 1 9 = 1) ∧ (h 1 9 = 1 → (∀ i, i < 14 → h 86 i = h 6 i ∧ 0 ≤ h 6 i ∧ h 6 i ≤ 999 ∧ (t.testBit i = false → h 6 i = 0)) ∧ h 86 14 = h 1 10 ∧ 0 ≤ h 1 10 ∧ h 1 10 ≤ 9999 ∧ h 86 15 = h 1 11 ∧ h 86 16 = h 1 12)
def ITp (h : Hp) : Prop := ∃ n : Nat, n ≤ 260 ∧ h 41 1 = (n : Int) ∧ h 83 15 = (n : Int) ∧ ∀ j, j < n → 0 ≤ h 42 j ∧ h 42 j ≤ 255 ∧ h 96 j = (if h 42 j < 128 then h 42 j else h 42 j - 256)
def ICk (h : Hp) (c k : Nat) : Prop := h 20 k = ((22 + 4 * k : Nat) : Int) ∧ 0 ≤ h (21 + 4 * k) 4 ∧ h (21 + 4 * k) 4 ≤ 99 ∧ (c.testBit k = true ↔ 0 < h (21 + 4 * k) 4) ∧ (0 < h (21 + 4 * k) 4 → h 92 k = h (21 + 4 * k) 4) ∧ ∃ s : Nat, s ≤ 16 ∧ h (21 + 4 * k) 3 = (s : Int) ∧ h 93 k = (s : Int) ∧ ∀ q, q < s → (0 ≤ h (23 + 4 * k) q ∧ h (23 + 4 * k) q ≤ 99 ∧ h 95 (16 * k + q) = h (23 + 4 * k) q) ∧ ((h (24 + 4 * k) q = 0 ∧ 0 ≤ h (22 + 4 * k) q ∧ h (22 + 4 * k) q ≤ 13 ∧ h 94 (16 * k + q) = h (22 + 4 * k) q) ∨ (h (24 + 4 * k) q = 1 ∧ h (22 + 4 * k) q = 0 ∧ h 94 (16 * k + q) = 14))
def IC (h : Hp) : Prop := ∃ c : Nat, c < 32 ∧ h 83 13 = (c : Int) ∧ ∀ k, k < 5 → ICk h c k
theorem w14 {x : Int} (h : 0 ≤ x ∧ x < 2147483648) : w32 (0 + x) = x := by rw [Int.zero_add]; exact w32_id ⟨by omega, by omega⟩
theorem s_isWithin (N : Nat) (a b c : Int) (h : Hp) : F_X11_isWithin N a b c h = some (if b ≤ a ∧ a ≤ c then 1 else 0, h) := by
  unfold F_X11_isWithin
  by_cases h1 : a < b
  · rw [if_pos h1, if_neg (by omega)]
  · rw [if_neg h1]
    by_cases h2 : c < a
    · rw [if_pos h2, if_neg (by omega)]
    · rw [if_neg h2, if_pos (by omega)]
theorem s_in (N : Nat) (a b c : Int) (h : Hp) : F_X12_in N a b c h = some (if b ≤ a ∧ a ≤ c then 1 else 0, h) := s_isWithin N a b c h
theorem ite01 {c : Prop} [Decidable c] : ((if c then (1 : Int) else 0) = 0) ↔ ¬ c := by by_cases h : c <;> simp [h]
theorem ite01' {c : Prop} [Decidable c] : ((if c then (1 : Int) else 0) = 1) ↔ c := by by_cases h : c <;> simp [h]
/-- is it a told street -/
def isT (t : Nat) (i : Int) : Prop := 0 ≤ i ∧ i < 14 ∧ t.testBit i.toNat = true
theorem s_has {N t : Nat} {i : Int} {h : Hp} (ht : t < 2147483648) (hi : 0 ≤ i ∧ i < 31) : F_X12_has N (t : Int) i h = some (btN t i.toNat, h) := by
  unfold F_X12_has
  have e : i = (i.toNat : Int) := by omega
  rw [e, bit_nat ht (by omega), Int.toNat_natCast]
  rcases btN_01 t i.toNat with q | q <;> simp [q]
theorem s_hasBit {N t : Nat} {i : Int} {h : Hp} (ht : t < 2147483648) (hi : 0 ≤ i ∧ i < 31) : F_X11_hasBit N (t : Int) i h = some (btN t i.toNat, h) := s_has (N := N) ht hi
