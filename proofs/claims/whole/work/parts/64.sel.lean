/-! SETS OF STREETS -/
def cnt (u : Nat) : Nat → Nat
  | 0 => 0
  | k + 1 => cnt u k + (if u.testBit k = true then 1 else 0)
theorem cnt_le (u : Nat) : ∀ k, cnt u k ≤ k
  | 0 => Nat.le_refl _
  | k + 1 => by have := cnt_le u k; simp only [cnt]; split <;> omega
theorem cnt_mono (u : Nat) : ∀ k d, cnt u k ≤ cnt u (k + d)
  | k, 0 => Nat.le_refl _
  | k, d + 1 => by have := cnt_mono u k d; show _ ≤ cnt u (k + d) + _; omega
theorem cnt_lt {u i j : Nat} (h : i < j) (b : u.testBit i = true) : cnt u i < cnt u j := by
  have h1 := cnt_mono u (i + 1) (j - (i + 1))
  rw [show i + 1 + (j - (i + 1)) = j by omega] at h1
  have h2 : cnt u (i + 1) = cnt u i + 1 := by simp only [cnt]; rw [if_pos b]
  omega
def selk (u : Nat) : Nat → Nat → Nat
  | 0, _ => 0
  | k + 1, p => if u.testBit k = true ∧ cnt u k = p then k else selk u k p
theorem selk_eq {u j : Nat} (b : u.testBit j = true) : ∀ k, j < k → selk u k (cnt u j) = j
  | 0, h => absurd h (by omega)
  | k + 1, h => by
    unfold selk
    by_cases e : j = k
    · subst e; rw [if_pos ⟨b, rfl⟩]
    · have := cnt_lt (show j < k by omega) b
      rw [if_neg (by omega)]
      exact selk_eq b k (by omega)
theorem selk_ex (u : Nat) : ∀ k p, p < cnt u k → ∃ j, j < k ∧ u.testBit j = true ∧ cnt u j = p
  | 0, p, h => absurd h (by simp [cnt])
  | k + 1, p, h => by
    simp only [cnt] at h
    by_cases b : u.testBit k = true
    · rw [if_pos b] at h
      by_cases e : cnt u k = p
      · exact ⟨k, by omega, b, e⟩
      · obtain ⟨j, a1, a2, a3⟩ := selk_ex u k p (by omega)
        exact ⟨j, by omega, a2, a3⟩
    · rw [if_neg b] at h
      obtain ⟨j, a1, a2, a3⟩ := selk_ex u k p (by omega)
      exact ⟨j, by omega, a2, a3⟩
/-- the place of a set's street -/
abbrev sel (u p : Nat) : Nat := selk u 14 p
abbrev cn (u : Nat) : Nat := cnt u 14
theorem sel_ok {u p : Nat} (h : p < cn u) : sel u p < 14 ∧ u.testBit (sel u p) = true ∧ cnt u (sel u p) = p := by
  obtain ⟨j, a1, a2, a3⟩ := selk_ex u 14 p h
  have e : sel u p = j := by rw [← a3]; exact selk_eq a2 14 a1
  rw [e]
  exact ⟨a1, a2, a3⟩
theorem sel_lt {u p q : Nat} (h : p < q) (hq : q < cn u) : sel u p < sel u q := by
  have h1 := sel_ok (Nat.lt_trans h hq)
  have h2 := sel_ok hq
  refine Nat.lt_of_not_le (fun z => ?_)
  by_cases e : sel u q = sel u p
  · rw [e] at h2; omega
  · have := cnt_lt (show sel u q < sel u p by omega) h2.2.1
    omega
theorem sel_of {u j : Nat} (hj : j < 14) (b : u.testBit j = true) : sel u (cnt u j) = j ∧ cnt u j < cn u := ⟨selk_eq b 14 hj, cnt_lt hj b⟩
theorem btN_n (u k : Nat) : btN u k = ((if u.testBit k = true then 1 else 0 : Nat) : Int) := by unfold btN; split <;> rfl
section SEL
variable {N : Nat}
theorem l_bits {u : Nat} (hu : u < 16384) (h : Hp) : ∀ n k : Nat, k ≤ 14 → 14 - k < n → L_X12_bits_4 N n (u : Int) (cnt u k : Nat) (k : Int) h = some (((cn u : Nat) : Int), h)
  | 0, k, _, hf => absurd hf (by omega)
  | n + 1, k, hk, hf => by
    unfold L_X12_bits_4
    by_cases c : k = 14
    · subst c; rw [if_pos (by omega)]
    · have ih := l_bits hu h n (k + 1) (by omega) (by omega)
      have hle := cnt_le u k
      have e : ((cnt u (k + 1) : Nat) : Int) = (cnt u k : Int) + btN u k := by rw [btN_n]; simp only [cnt]; omega
      have b : btN u k = 0 ∨ btN u k = 1 := btN_01 u k
      rw [if_neg (by omega), bit_nat (by omega) (by omega), bnd_s, bnd_s, inc (by omega), w32_id ⟨by omega, by omega⟩, ← e]
      exact ih
theorem s_bits {u : Nat} (hN : 1000000 ≤ N) (hu : u < 16384) (h : Hp) : F_X12_bits N (u : Int) h = some (((cn u : Nat) : Int), h) := l_bits hu h N 0 (by omega) (by omega)
/-- the set is chosen, up to a street -/
def ch (u k c : Nat) (h : Hp) : Prop := ∀ j, j < k → u.testBit j = true → h c (cnt u j) = (j : Int)
theorem l_who {u : Nat} (hu : u < 16384) (h8 : cn u ≤ 8) (g : Hp) : ∀ (n k : Nat) (h : Hp), k ≤ 14 → 14 - k < n → (∀ c j, ¬ c = 118 → h c j = g c j) → ch u k 118 h → ∃ h' : Hp, (∀ c j, ¬ c = 118 → h' c j = g c j) ∧ ch u 14 118 h' ∧ L_X12_laysWho_4 N n (u : Int) (cnt u k : Nat) (k : Int) h = some (((cn u : Nat) : Int), h')
  | 0, k, h, _, hf, _, _ => absurd hf (by omega)
  | n + 1, k, h, hk, hf, E, C => by
    unfold L_X12_laysWho_4
    by_cases c : k = 14
    · subst c
      exact ⟨h, E, C, by rw [if_pos (by omega)]⟩
    · rw [if_neg (by omega), s_has (by omega) ⟨by omega, by omega⟩, bd_s, Int.toNat_natCast]
      unfold J_X12_laysWho_32
      by_cases b : u.testBit k = true
      · have hlt : cnt u k < cn u := cnt_lt (show k < 14 by omega) b
        rw [if_neg (by rw [btN_1.mpr b]; decide), grd_t ⟨by omega, by omega⟩, bnd_s, bnd_s, bnd_s, inc (by omega), inc (by omega), Int.toNat_natCast]
        have e : cnt u (k + 1) = cnt u k + 1 := by simp only [cnt]; rw [if_pos b]
        rw [← e]
        exact l_who hu h8 g n (k + 1) _ (by omega) (by omega) (fun c j z => by rw [hw_ne (by omega)]; exact E c j z) (fun j hj bj => by
          by_cases ej : j = k
          · subst ej; rw [hw_eq]
          · have := cnt_lt (show j < k by omega) bj
            rw [hw_ne (by omega)]; exact C j (by omega) bj)
      · have q0 : btN u k = 0 := by unfold btN; rw [if_neg b]
        have e : cnt u (k + 1) = cnt u k := by simp only [cnt]; rw [if_neg b]; rfl
        rw [if_pos q0, bnd_s, inc (by omega), ← e]
        exact l_who hu h8 g n (k + 1) h (by omega) (by omega) E (fun j hj bj => by
          by_cases ej : j = k
          · subst ej; exact absurd bj b
          · exact C j (by omega) bj)
theorem s_who {u : Nat} (hN : 1000000 ≤ N) (hu : u < 16384) (h8 : cn u ≤ 8) (g : Hp) : ∃ h' : Hp, (∀ c j, ¬ c = 118 → h' c j = g c j) ∧ (∀ p, p < cn u → h' 118 p = (sel u p : Int)) ∧ F_X12_laysWho N (u : Int) g = some (((cn u : Nat) : Int), h') := by
  obtain ⟨h', a, b, c⟩ := l_who (N := N) hu h8 g N 0 g (by omega) (by omega) (fun _ _ _ => rfl) (fun j hj => absurd hj (by omega))
  refine ⟨h', a, fun p hp => ?_, c⟩
  have := sel_ok hp
  have e := b (sel u p) this.1 this.2.1
  rw [this.2.2] at e
  exact e
theorem l_choose {u : Nat} (hu : u < 16384) (h8 : cn u ≤ 8) (g : Hp) : ∀ (n k : Nat) (h : Hp), k ≤ 14 → 14 - k < n → (∀ c j, ¬ c = 70 → ¬ (c = 69 ∧ j = 4) → h c j = g c j) → h 69 4 = (cnt u k : Nat) → ch u k 70 h → ∃ h' : Hp, (∀ c j, ¬ c = 70 → ¬ (c = 69 ∧ j = 4) → h' c j = g c j) ∧ h' 69 4 = (cn u : Nat) ∧ (∀ p, p < cn u → h' 70 p = (sel u p : Int)) ∧ L_X9_choose_7 N n (u : Int) (k : Int) h = some h'
  | 0, k, h, _, hf, _, _, _ => absurd hf (by omega)
  | n + 1, k, h, hk, hf, E, e4, C => by
    have hm : cnt u k ≤ cn u := by
      have h1 := cnt_mono u k (14 - k)
      rw [show k + (14 - k) = 14 by omega] at h1
      exact h1
    have fin : cnt u k = cn u → ∃ h' : Hp, (∀ c j, ¬ c = 70 → ¬ (c = 69 ∧ j = 4) → h' c j = g c j) ∧ h' 69 4 = (cn u : Nat) ∧ (∀ p, p < cn u → h' 70 p = (sel u p : Int)) ∧ some h = some h' := fun z => by
      refine ⟨h, E, by rw [e4, z], fun p hp => ?_, rfl⟩
      have := sel_ok hp
      have hlt : sel u p < k := by
        refine Nat.lt_of_not_le (fun y => ?_)
        have h1 := cnt_mono u k (sel u p - k)
        rw [show k + (sel u p - k) = sel u p by omega] at h1
        omega
      have e := C (sel u p) hlt this.2.1
      rw [this.2.2] at e
      exact e
    unfold L_X9_choose_7
    by_cases c : k = 14
    · subst c
      rw [if_pos (by omega)]
      exact fin rfl
    · rw [if_neg (by omega), e4]
      by_cases c8 : 8 ≤ ((cnt u k : Nat) : Int)
      · rw [if_pos c8]
        exact fin (Nat.le_antisymm hm (by clear fin; omega))
      · rw [if_neg c8, s_hasBit (by omega) ⟨by omega, by omega⟩, bd_s, Int.toNat_natCast]
        unfold J_X9_choose_50
        by_cases b : u.testBit k = true
        · have e : cnt u (k + 1) = cnt u k + 1 := by simp only [cnt]; rw [if_pos b]
          rw [if_neg (by rw [btN_1.mpr b]; decide), e4, grd_t ⟨by omega, by omega⟩, bnd_s, bnd_s, bnd_s, inc (by omega), hw_ne (by omega), e4, inc (by omega), Int.toNat_natCast]
          exact l_choose hu h8 g n (k + 1) _ (by omega) (by omega) (fun c j z1 z2 => by rw [hw_ne (by omega), hw_ne (by omega)]; exact E c j z1 z2) (by rw [hw_eq, e]) (fun j hj bj => by
            by_cases ej : j = k
            · subst ej; rw [hw_ne (by omega), hw_eq]
            · have := cnt_lt (show j < k by omega) bj
              rw [hw_ne (by omega), hw_ne (by omega)]; exact C j (by omega) bj)
        · have q0 : btN u k = 0 := by unfold btN; rw [if_neg b]
          have e : cnt u (k + 1) = cnt u k := by simp only [cnt]; rw [if_neg b]; rfl
          rw [if_pos q0, bnd_s, inc (by omega)]
          exact l_choose hu h8 g n (k + 1) h (by omega) (by omega) E (by rw [e4, e]) (fun j hj bj => by
            by_cases ej : j = k
            · subst ej; exact absurd bj b
            · exact C j (by omega) bj)
theorem s_choose {u : Nat} (hN : 1000000 ≤ N) (hu : u < 16384) (h8 : cn u ≤ 8) (g : Hp) : ∃ h' : Hp, (∀ c j, ¬ c = 70 → ¬ (c = 69 ∧ j = 4) → h' c j = g c j) ∧ h' 69 4 = (cn u : Nat) ∧ (∀ p, p < cn u → h' 70 p = (sel u p : Int)) ∧ F_X9_choose N (u : Int) g = some h' := by
  unfold F_X9_choose
  rw [bnd_s]
  exact l_choose (N := N) hu h8 g N 0 _ (by omega) (by omega) (fun c j z1 z2 => hw_ne z2) hw_eq (fun j hj => absurd hj (by omega))
end SEL
