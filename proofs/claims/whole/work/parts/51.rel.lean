/-! WHAT HOLDS BETWEEN CLASS AND REFERENCE. Cells of the class: 1 the city (4 told, 5 night, 6 slept, 7 swept, 9 is kept, 10 11 12 kept), 2 houses, 3 lamps, 4 stars, 5 depths, 6 kept depths, 7 roads (3 how many), 8 minutes, 10 ways, 11 law (4 clauses), 12 letters, 13 starts, 14 middles, 15 ends, 16 signs, 17 worths, 20 carts, 21 + 4 k a cart (3 stops, 4 room), 22 + 4 k streets, 23 + 4 k yards, 24 + 4 k takes, 41 tape (1 length), 42 bytes. Of the reference: 83 (12 streets, 13 carts, 15 taped, 24 clauses, 51 startMinute, 58 isKept), 84 now, 86 kept, 87 houses, 88 lamps, 89 stars, 90 road, 91 wayOf, 92 roomOf, 93 stopMany, 94 stopAt, 95 stopYards, 96 tape, 103 codes, 104 clauseOf, 105 codeFrom, 106 codeHalf, 107 codeTo -/
theorem bd_s {α β : Type} {a : α} {h : Hp} {f : α → Hp → Option β} : bd (some (a, h)) f = f a h := rfl
theorem bv_s {β : Type} {h : Hp} {f : Hp → Option β} : bv (some h) f = f h := rfl
theorem bnd_s {α β : Type} {x : α} {f : α → Option β} : bnd x f = f x := rfl
theorem grd_t {β : Type} {c : Prop} [Decidable c] {x : Option β} (h : c) : grd c x = x := if_pos h
theorem hw_eq {h : Hp} {c j : Nat} {v : Int} : hw h c j v c j = v := by simp [hw]
theorem hw_ne {h : Hp} {c j c' j' : Nat} {v : Int} (hn : ¬ (c' = c ∧ j' = j)) : hw h c j v c' j' = h c' j' := if_neg hn
theorem hw_c {h : Hp} {c j c' : Nat} {v : Int} (hn : ¬ c' = c) : hw h c j v c' = h c' := by funext j'; exact if_neg (fun q => hn q.1)
/-- told -/
def IT (h : Hp) (t : Nat) : Prop := t < 16384 ∧ h 1 4 = (t : Int) ∧ h 83 12 = (t : Int)
def IS (h : Hp) : Prop := ∀ i, i < 14 → (h 87 i = h 2 i ∧ 0 ≤ h 2 i ∧ h 2 i ≤ 99) ∧ (h 88 i = h 3 i ∧ 0 ≤ h 3 i ∧ h 3 i ≤ 9) ∧ (h 89 i = h 4 i ∧ 0 ≤ h 4 i ∧ h 4 i ≤ 99)
def ID (h : Hp) (t : Nat) : Prop := ∀ i, i < 14 → h 84 i = h 5 i ∧ 0 ≤ h 5 i ∧ h 5 i ≤ 999 ∧ (t.testBit i = false → h 5 i = 0)
def IN (h : Hp) : Prop := h 84 14 = h 1 5 ∧ 0 ≤ h 1 5 ∧ h 1 5 ≤ 9999 ∧ h 84 15 = h 1 6 ∧ h 84 16 = h 1 7
def IK (h : Hp) (t : Nat) : Prop := h 83 58 = h 1 9 ∧ (h 1 9 = 0 ∨ h 1 9 = 1) ∧ (h 1 9 = 1 → (∀ i, i < 14 → h 86 i = h 6 i ∧ 0 ≤ h 6 i ∧ h 6 i ≤ 999 ∧ (t.testBit i = false → h 6 i = 0)) ∧ h 86 14 = h 1 10 ∧ 0 ≤ h 1 10 ∧ h 1 10 ≤ 9999 ∧ h 86 15 = h 1 11 ∧ h 86 16 = h 1 12)
def ITp (h : Hp) : Prop := ∃ n : Nat, n ≤ 260 ∧ h 41 1 = (n : Int) ∧ h 83 15 = (n : Int) ∧ ∀ j, j < n → 0 ≤ h 42 j ∧ h 42 j ≤ 255 ∧ h 96 j = (if h 42 j < 128 then h 42 j else h 42 j - 256)
def PlanOK (h : Hp) (k : Nat) : Prop := ∃ s : Nat, s ≤ 16 ∧ h (21 + 4 * k) 3 = (s : Int) ∧ h 93 k = (s : Int) ∧ ∀ q, q < s → (0 ≤ h (23 + 4 * k) q ∧ h (23 + 4 * k) q ≤ 99 ∧ h 95 (16 * k + q) = h (23 + 4 * k) q) ∧ ((h (24 + 4 * k) q = 0 ∧ 0 ≤ h (22 + 4 * k) q ∧ h (22 + 4 * k) q ≤ 13 ∧ h 94 (16 * k + q) = h (22 + 4 * k) q) ∨ (h (24 + 4 * k) q = 1 ∧ h (22 + 4 * k) q = 0 ∧ h 94 (16 * k + q) = 14))
def ICk (h : Hp) (c k : Nat) : Prop := h 20 k = ((22 + 4 * k : Nat) : Int) ∧ 0 ≤ h (21 + 4 * k) 4 ∧ h (21 + 4 * k) 4 ≤ 99 ∧ (c.testBit k = true ↔ 0 < h (21 + 4 * k) 4) ∧ (0 < h (21 + 4 * k) 4 → h 92 k = h (21 + 4 * k) 4) ∧ PlanOK h k
def IC (h : Hp) : Prop := ∃ c : Nat, c < 32 ∧ h 83 13 = (c : Int) ∧ ∀ k, k < 5 → ICk h c k
theorem w14 {x : Int} (h : 0 ≤ x ∧ x < 2147483648) : w32 (0 + x) = x := by rw [Int.zero_add]; exact w32_id ⟨by omega, by omega⟩
theorem s_isWithin (N : Nat) (a b c : Int) (h : Hp) : F_X11_isWithin N a b c h = some (if b ≤ a ∧ a ≤ c then 1 else 0, h) := by
  unfold F_X11_isWithin
  by_cases h1 : a < b
  · rw [if_pos h1, if_neg (by omega)]
  · rw [if_neg h1]
    by_cases h2 : c < a
    · rw [if_pos h2, if_neg (by omega)]
    · rw [if_neg h2, if_pos (by omega)]
theorem s_in (N : Nat) (a b c : Int) (h : Hp) : F_X12_in N a b c h = some (if b ≤ a ∧ a ≤ c then 1 else 0, h) := s_isWithin N a b c h
theorem ite01 {c : Prop} [Decidable c] : ((if c then (1 : Int) else 0) = 0) ↔ ¬ c := by by_cases h : c <;> simp [h]
theorem ite01' {c : Prop} [Decidable c] : ((if c then (1 : Int) else 0) = 1) ↔ c := by by_cases h : c <;> simp [h]
/-- is it a told street -/
abbrev isT (t : Nat) (i : Int) : Prop := 0 ≤ i ∧ i < 14 ∧ t.testBit i.toNat = true
theorem s_has {N t : Nat} {i : Int} {h : Hp} (ht : t < 2147483648) (hi : 0 ≤ i ∧ i < 31) : F_X12_has N (t : Int) i h = some (btN t i.toNat, h) := by
  unfold F_X12_has
  have e : i = (i.toNat : Int) := by omega
  rw [e, bit_nat ht (by omega), Int.toNat_natCast]
  rcases btN_01 t i.toNat with q | q <;> simp [q]
theorem s_hasBit {N t : Nat} {i : Int} {h : Hp} (ht : t < 2147483648) (hi : 0 ≤ i ∧ i < 31) : F_X11_hasBit N (t : Int) i h = some (btN t i.toNat, h) := s_has (N := N) ht hi
theorem s_isStreet {N t : Nat} {i : Int} {h : Hp} (ht : t < 16384) (e : h 83 12 = (t : Int)) : F_X12_isStreet N i h = some (if isT t i then 1 else 0, h) := by
  unfold F_X12_isStreet
  by_cases h1 : i < 0
  · rw [if_pos h1, if_neg (by omega)]
  · rw [if_neg h1]
    by_cases h2 : 14 ≤ i
    · rw [if_pos h2, if_neg (by omega)]
    · rw [if_neg h2, e, s_has (by omega) (by omega), bd_s]
      by_cases h3 : t.testBit i.toNat = true
      · rw [if_neg (by rw [btN_1.mpr h3]; decide), if_pos ⟨by omega, by omega, h3⟩]
      · have h4 : btN t i.toNat = 0 := by
          rcases btN_01 t i.toNat with q | q
          · exact q
          · exact absurd (btN_1.mp q) h3
        rw [if_pos h4, if_neg (fun q => h3 q.2.2)]
theorem s_isTold {N t : Nat} {i : Int} {h : Hp} (ht : t < 16384) (e : h 1 4 = (t : Int)) : F_X1_isTold N i h = some (if isT t i then 1 else 0, h) := by
  unfold F_X1_isTold
  by_cases h1 : i < 0
  · rw [if_pos h1, if_neg (by omega)]
  · rw [if_neg h1]
    by_cases h2 : 14 ≤ i
    · rw [if_pos h2, if_neg (by omega)]
    · have ei : i = (i.toNat : Int) := by omega
      rw [if_neg h2, e]
      have eb : iand (ishr (t : Int) i) 1 = btN t i.toNat := by
        conv => lhs; rw [ei]
        exact bit_nat (by omega) (by omega)
      rw [eb]
      by_cases h3 : t.testBit i.toNat = true
      · rw [if_pos (btN_1.mpr h3), if_pos ⟨by omega, by omega, h3⟩]
      · rw [if_neg (fun q => h3 (btN_1.mp q)), if_neg (fun q => h3 q.2.2)]
/-- the shortest ways: the rounds of the reckoning, one after the other -/
def FW (bs : Nat → Nat → Int) : Nat → Nat → Nat → Int
  | 0, i, j => bs i j
  | m + 1, i, j => imin (FW bs m i j) (FW bs m i m + FW bs m m j)
def bsX (r : Nat → Int) (i j : Nat) : Int := if i = j then 0 else if 0 < r (14 * i + j) then r (14 * i + j) else 1000000
def bsM (r : Nat → Int) (t i j : Nat) : Int := if i = j ∧ t.testBit i = true then 0 else if t.testBit i = true ∧ t.testBit j = true ∧ 0 < r (14 * i + j) then r (14 * i + j) else 1000000
def rdCount (r : Nat → Int) : Int := ((List.range 14).map fun i => ((List.range i).map fun j => if 0 < r (14 * i + j) then (1 : Int) else 0).sum).sum
def RdOK (r : Nat → Int) (t : Nat) : Prop := (∀ p, p < 196 → 0 ≤ r p ∧ r p ≤ 99) ∧ (∀ i j, i < 14 → j < 14 → r (14 * i + j) = r (14 * j + i)) ∧ ∀ i j, i < 14 → j < 14 → 0 < r (14 * i + j) → t.testBit i = true ∧ t.testBit j = true ∧ i ≠ j
def IR (h : Hp) (t : Nat) : Prop := (∀ p, p < 196 → h 90 p = h 8 p) ∧ RdOK (h 8) t ∧ h 7 3 = rdCount (h 8) ∧ (∀ i j, i < 14 → j < 14 → h 10 (14 * i + j) = if FW (bsX (h 8)) 14 i j < 1000000 then FW (bsX (h 8)) 14 i j else -2) ∧ ∀ i j, i < 14 → j < 14 → h 91 (14 * i + j) = FW (bsM (h 8) t) 14 i j
/-- the law's meaning: what it says of the facts, for each letter, on both sides -/
def agX (h h' : Hp) : Prop := (∀ c, 12 ≤ c → c ≤ 17 → h' c = h c) ∧ h' 11 4 = h 11 4
def agM (h h' : Hp) : Prop := (∀ c, 103 ≤ c → c ≤ 107 → h' c = h c) ∧ h' 83 24 = h 83 24
def isLt (l : Int) : Prop := l = 119 ∨ l = 99 ∨ l = 115 ∨ l = 117
def most (l : Int) : Int := if l = 117 then 9 else 999
def LawOK (N : Nat) (h : Hp) (A : Int → (Nat → Int) → Int) : Prop :=
  (∀ l f, 0 ≤ A l f ∧ A l f ≤ most l) ∧ (∀ l f g, (∀ k, k < 8 → f k = g k) → A l f = A l g) ∧
  (∀ h' l, agX h h' → isLt l → ∃ h1, F_X2_ask N l h' = some (A l (h' 18), h1) ∧ ∀ c j, ¬ (c = 19 ∨ c = 11 ∧ (j = 10 ∨ j = 11)) → h1 c j = h' c j) ∧
  (∀ h' l, agM h h' → isLt l → ∃ h2, F_X12_byLaw N l (most l) h' = some (A l (h' 109), h2) ∧ ∀ c j, ¬ c = 108 → h2 c j = h' c j)
def IL (N : Nat) (h : Hp) : Prop := h 83 24 = h 11 4 ∧ ∃ A, LawOK N h A
def Inv (N : Nat) (h : Hp) : Prop := ∃ t : Nat, IT h t ∧ IS h ∧ ID h t ∧ IN h ∧ IK h t ∧ ITp h ∧ IC h ∧ IR h t ∧ IL N h ∧ h 83 51 = 0
section AG
variable {h h' : Hp} {t N : Nat}
theorem IT.ag (e1 : h' 1 4 = h 1 4) (e2 : h' 83 12 = h 83 12) (H : IT h t) : IT h' t := ⟨H.1, e1.trans H.2.1, e2.trans H.2.2⟩
theorem IS.ag (e : ∀ c, c = 2 ∨ c = 3 ∨ c = 4 ∨ c = 87 ∨ c = 88 ∨ c = 89 → h' c = h c) (H : IS h) : IS h' := by
  intro i hi
  rw [e 2 (by omega), e 3 (by omega), e 4 (by omega), e 87 (by omega), e 88 (by omega), e 89 (by omega)]
  exact H i hi
theorem ID.ag (e5 : h' 5 = h 5) (e84 : ∀ i, i < 14 → h' 84 i = h 84 i) (H : ID h t) : ID h' t := by
  intro i hi
  rw [e5, e84 i hi]
  exact H i hi
theorem IN.ag (e1 : ∀ j, j = 5 ∨ j = 6 ∨ j = 7 → h' 1 j = h 1 j) (e84 : ∀ i, 14 ≤ i → h' 84 i = h 84 i) (H : IN h) : IN h' := by
  unfold IN
  rw [e1 5 (by omega), e1 6 (by omega), e1 7 (by omega), e84 14 (by omega), e84 15 (by omega), e84 16 (by omega)]
  exact H
theorem IK.ag (e1 : ∀ j, 9 ≤ j → h' 1 j = h 1 j) (e6 : h' 6 = h 6) (e86 : h' 86 = h 86) (e83 : h' 83 58 = h 83 58) (H : IK h t) : IK h' t := by
  unfold IK
  rw [e1 9 (by omega), e1 10 (by omega), e1 11 (by omega), e1 12 (by omega), e6, e86, e83]
  exact H
theorem ITp.ag (e41 : h' 41 1 = h 41 1) (e83 : h' 83 15 = h 83 15) (e42 : h' 42 = h 42) (e96 : h' 96 = h 96) (H : ITp h) : ITp h' := by
  unfold ITp
  rw [e41, e83, e42, e96]
  exact H
theorem IC.ag (e83 : h' 83 13 = h 83 13) (e : ∀ c, 20 ≤ c ∧ c ≤ 40 ∨ 92 ≤ c ∧ c ≤ 95 → h' c = h c) (H : IC h) : IC h' := by
  obtain ⟨c, hc, h1, h2⟩ := H
  refine ⟨c, hc, e83.trans h1, fun k hk => ?_⟩
  have := h2 k hk
  unfold ICk PlanOK at this ⊢
  rw [e 20 (by omega), e (21 + 4 * k) (by omega), e (22 + 4 * k) (by omega), e (23 + 4 * k) (by omega), e (24 + 4 * k) (by omega), e 92 (by omega), e 93 (by omega), e 94 (by omega), e 95 (by omega)]
  exact this
theorem IR.ag (e7 : h' 7 3 = h 7 3) (e : ∀ c, c = 8 ∨ c = 10 ∨ c = 90 ∨ c = 91 → h' c = h c) (H : IR h t) : IR h' t := by
  unfold IR
  rw [e7, e 8 (by omega), e 10 (by omega), e 90 (by omega), e 91 (by omega)]
  exact H
theorem IL.ag (e83 : h' 83 24 = h 83 24) (e11 : h' 11 4 = h 11 4) (eX : ∀ c, 12 ≤ c → c ≤ 17 → h' c = h c) (eM : ∀ c, 103 ≤ c → c ≤ 107 → h' c = h c) (H : IL N h) : IL N h' := by
  obtain ⟨h0, A, a1, a2, a3, a4⟩ := H
  refine ⟨by rw [e83, e11]; exact h0, A, a1, a2, fun g l hg hl => a3 g l ⟨fun c p q => (hg.1 c p q).trans (eX c p q), hg.2.trans e11⟩ hl, fun g l hg hl => a4 g l ⟨fun c p q => (hg.1 c p q).trans (eM c p q), hg.2.trans e83⟩ hl⟩
/-- where nothing that counts has changed -/
def scr (c j : Nat) : Prop := c = 9 ∨ c = 18 ∨ c = 19 ∨ (c = 7 ∧ j ≠ 3) ∨ (c = 11 ∧ j ≠ 4) ∨ (c = 41 ∧ j ≠ 1) ∨ (43 ≤ c ∧ c ≤ 82) ∨ c = 85 ∨ (97 ≤ c ∧ c ≤ 102) ∨ 108 ≤ c ∨ (c = 83 ∧ j ≠ 12 ∧ j ≠ 13 ∧ j ≠ 15 ∧ j ≠ 24 ∧ j ≠ 51 ∧ j ≠ 58)
theorem Inv.ag (e : ∀ c j, ¬ scr c j → h' c j = h c j) (H : Inv N h) : Inv N h' := by
  obtain ⟨t, i1, i2, i3, i4, i5, i6, i7, i8, i9, i10⟩ := H
  have ec : ∀ c, (∀ j, ¬ scr c j) → h' c = h c := fun c hc => funext fun j => e c j (hc j)
  unfold scr at e ec
  refine ⟨t, i1.ag (e 1 4 (by omega)) (e 83 12 (by omega)), i2.ag (fun c hc => ec c (fun j => by omega)), i3.ag (ec 5 (fun j => by omega)) (fun i _ => e 84 i (by omega)), i4.ag (fun j _ => e 1 j (by omega)) (fun i _ => e 84 i (by omega)), i5.ag (fun j _ => e 1 j (by omega)) (ec 6 (fun j => by omega)) (ec 86 (fun j => by omega)) (e 83 58 (by omega)), i6.ag (e 41 1 (by omega)) (e 83 15 (by omega)) (ec 42 (fun j => by omega)) (ec 96 (fun j => by omega)), i7.ag (e 83 13 (by omega)) (fun c hc => ec c (fun j => by omega)), i8.ag (e 7 3 (by omega)) (fun c hc => ec c (fun j => by omega)), i9.ag (e 83 24 (by omega)) (e 11 4 (by omega)) (fun c _ _ => ec c (fun j => by omega)) (fun c _ _ => ec c (fun j => by omega)), (e 83 51 (by omega)).trans i10⟩
end AG
section PARTS
variable {h h' : Hp} {t N : Nat}
def tpx (c j : Nat) : Prop := c = 42 ∨ c = 96 ∨ (c = 41 ∧ j = 1) ∨ (c = 83 ∧ j = 15)
theorem Inv.tp (e : ∀ c j, ¬ scr c j → ¬ tpx c j → h' c j = h c j) (hT : ITp h') (H : Inv N h) : Inv N h' := by
  obtain ⟨t, i1, i2, i3, i4, i5, i6, i7, i8, i9, i10⟩ := H
  have ec : ∀ c, (∀ j, ¬ scr c j) → (∀ j, ¬ tpx c j) → h' c = h c := fun c hc hd => funext fun j => e c j (hc j) (hd j)
  unfold scr tpx at e ec
  refine ⟨t, i1.ag (e 1 4 (by omega) (by omega)) (e 83 12 (by omega) (by omega)), i2.ag (fun c hc => ec c (fun j => by omega) (fun j => by omega)), i3.ag (ec 5 (fun j => by omega) (fun j => by omega)) (fun i _ => e 84 i (by omega) (by omega)), i4.ag (fun j _ => e 1 j (by omega) (by omega)) (fun i _ => e 84 i (by omega) (by omega)), i5.ag (fun j _ => e 1 j (by omega) (by omega)) (ec 6 (fun j => by omega) (fun j => by omega)) (ec 86 (fun j => by omega) (fun j => by omega)) (e 83 58 (by omega) (by omega)), hT, i7.ag (e 83 13 (by omega) (by omega)) (fun c hc => ec c (fun j => by omega) (fun j => by omega)), i8.ag (e 7 3 (by omega) (by omega)) (fun c hc => ec c (fun j => by omega) (fun j => by omega)), i9.ag (e 83 24 (by omega) (by omega)) (e 11 4 (by omega) (by omega)) (fun c _ _ => ec c (fun j => by omega) (fun j => by omega)) (fun c _ _ => ec c (fun j => by omega) (fun j => by omega)), (e 83 51 (by omega) (by omega)).trans i10⟩
/-- the tape is empty then -/
theorem Inv.clr (e : ∀ c j, ¬ scr c j → ¬ tpx c j → h' c j = h c j) (e1 : h' 41 1 = 0) (e2 : h' 83 15 = 0) (H : Inv N h) : Inv N h' := H.tp e ⟨0, by omega, e1, e2, fun j hj => absurd hj (by omega)⟩
theorem Inv.ic (e : ∀ c j, ¬ scr c j → ¬ ((c = 83 ∧ j = 13) ∨ (20 ≤ c ∧ c ≤ 40) ∨ (92 ≤ c ∧ c ≤ 95)) → h' c j = h c j) (hT : IC h') (H : Inv N h) : Inv N h' := by
  obtain ⟨t, i1, i2, i3, i4, i5, i6, i7, i8, i9, i10⟩ := H
  have ec : ∀ c, (∀ j, ¬ scr c j) → (∀ j, ¬ ((c = 83 ∧ j = 13) ∨ (20 ≤ c ∧ c ≤ 40) ∨ (92 ≤ c ∧ c ≤ 95))) → h' c = h c := fun c hc hd => funext fun j => e c j (hc j) (hd j)
  unfold scr at e ec
  refine ⟨t, i1.ag (e 1 4 (by omega) (by omega)) (e 83 12 (by omega) (by omega)), i2.ag (fun c hc => ec c (fun j => by omega) (fun j => by omega)), i3.ag (ec 5 (fun j => by omega) (fun j => by omega)) (fun i _ => e 84 i (by omega) (by omega)), i4.ag (fun j _ => e 1 j (by omega) (by omega)) (fun i _ => e 84 i (by omega) (by omega)), i5.ag (fun j _ => e 1 j (by omega) (by omega)) (ec 6 (fun j => by omega) (fun j => by omega)) (ec 86 (fun j => by omega) (fun j => by omega)) (e 83 58 (by omega) (by omega)), i6.ag (e 41 1 (by omega) (by omega)) (e 83 15 (by omega) (by omega)) (ec 42 (fun j => by omega) (fun j => by omega)) (ec 96 (fun j => by omega) (fun j => by omega)), hT, i8.ag (e 7 3 (by omega) (by omega)) (fun c hc => ec c (fun j => by omega) (fun j => by omega)), i9.ag (e 83 24 (by omega) (by omega)) (e 11 4 (by omega) (by omega)) (fun c _ _ => ec c (fun j => by omega) (fun j => by omega)) (fun c _ _ => ec c (fun j => by omega) (fun j => by omega)), (e 83 51 (by omega) (by omega)).trans i10⟩
theorem Inv.ik (e : ∀ c j, ¬ scr c j → ¬ ((c = 83 ∧ j = 58) ∨ c = 6 ∨ c = 86 ∨ (c = 1 ∧ 9 ≤ j)) → h' c j = h c j) (hT : ∀ t, IT h t → ID h t → IK h t → IN h → IK h' t) (H : Inv N h) : Inv N h' := by
  obtain ⟨t, i1, i2, i3, i4, i5, i6, i7, i8, i9, i10⟩ := H
  have ec : ∀ c, (∀ j, ¬ scr c j) → (∀ j, ¬ ((c = 83 ∧ j = 58) ∨ c = 6 ∨ c = 86 ∨ (c = 1 ∧ 9 ≤ j))) → h' c = h c := fun c hc hd => funext fun j => e c j (hc j) (hd j)
  unfold scr at e ec
  refine ⟨t, i1.ag (e 1 4 (by omega) (by omega)) (e 83 12 (by omega) (by omega)), i2.ag (fun c hc => ec c (fun j => by omega) (fun j => by omega)), i3.ag (ec 5 (fun j => by omega) (fun j => by omega)) (fun i _ => e 84 i (by omega) (by omega)), i4.ag (fun j _ => e 1 j (by omega) (by omega)) (fun i _ => e 84 i (by omega) (by omega)), hT t i1 i3 i5 i4, i6.ag (e 41 1 (by omega) (by omega)) (e 83 15 (by omega) (by omega)) (ec 42 (fun j => by omega) (fun j => by omega)) (ec 96 (fun j => by omega) (fun j => by omega)), i7.ag (e 83 13 (by omega) (by omega)) (fun c hc => ec c (fun j => by omega) (fun j => by omega)), i8.ag (e 7 3 (by omega) (by omega)) (fun c hc => ec c (fun j => by omega) (fun j => by omega)), i9.ag (e 83 24 (by omega) (by omega)) (e 11 4 (by omega) (by omega)) (fun c _ _ => ec c (fun j => by omega) (fun j => by omega)) (fun c _ _ => ec c (fun j => by omega) (fun j => by omega)), (e 83 51 (by omega) (by omega)).trans i10⟩
theorem Inv.dn (e : ∀ c j, ¬ scr c j → ¬ (c = 5 ∨ c = 84 ∨ (c = 1 ∧ 5 ≤ j ∧ j ≤ 7)) → h' c j = h c j) (hT : ∀ t, IT h t → ID h t → IK h t → IN h → ID h' t ∧ IN h') (H : Inv N h) : Inv N h' := by
  obtain ⟨t, i1, i2, i3, i4, i5, i6, i7, i8, i9, i10⟩ := H
  have ec : ∀ c, (∀ j, ¬ scr c j) → (∀ j, ¬ (c = 5 ∨ c = 84 ∨ (c = 1 ∧ 5 ≤ j ∧ j ≤ 7))) → h' c = h c := fun c hc hd => funext fun j => e c j (hc j) (hd j)
  unfold scr at e ec
  refine ⟨t, i1.ag (e 1 4 (by omega) (by omega)) (e 83 12 (by omega) (by omega)), i2.ag (fun c hc => ec c (fun j => by omega) (fun j => by omega)), (hT t i1 i3 i5 i4).1, (hT t i1 i3 i5 i4).2, i5.ag (fun j _ => e 1 j (by omega) (by omega)) (ec 6 (fun j => by omega) (fun j => by omega)) (ec 86 (fun j => by omega) (fun j => by omega)) (e 83 58 (by omega) (by omega)), i6.ag (e 41 1 (by omega) (by omega)) (e 83 15 (by omega) (by omega)) (ec 42 (fun j => by omega) (fun j => by omega)) (ec 96 (fun j => by omega) (fun j => by omega)), i7.ag (e 83 13 (by omega) (by omega)) (fun c hc => ec c (fun j => by omega) (fun j => by omega)), i8.ag (e 7 3 (by omega) (by omega)) (fun c hc => ec c (fun j => by omega) (fun j => by omega)), i9.ag (e 83 24 (by omega) (by omega)) (e 11 4 (by omega) (by omega)) (fun c _ _ => ec c (fun j => by omega) (fun j => by omega)) (fun c _ _ => ec c (fun j => by omega) (fun j => by omega)), (e 83 51 (by omega) (by omega)).trans i10⟩
end PARTS
