/-! THE LAW: IT IS TAKEN OVER -/
section LI
variable {N : Nat} {g : Hp}
theorem l_138 {K : Nat} (hK : K ≤ 16) (e : g 83 23 = (K : Int)) : ∀ (m q i : Nat) (h : Hp), i + m = K → m < q → (∀ c j, ¬ (104 ≤ c ∧ c ≤ 107) → h c j = g c j) → (∀ j, j < i → h 104 j = g 99 j ∧ h 105 j = g 100 j ∧ h 106 j = g 101 j ∧ h 107 j = g 102 j) → ∃ h', L_X12_law_138 N q (i : Int) h = some ((K : Int), h') ∧ (∀ c j, ¬ (104 ≤ c ∧ c ≤ 107) → h' c j = g c j) ∧ ∀ j, j < K → h' 104 j = g 99 j ∧ h' 105 j = g 100 j ∧ h' 106 j = g 101 j ∧ h' 107 j = g 102 j
  | _, 0, _, _, _, hq, _, _ => absurd hq (by omega)
  | 0, q + 1, i, h, hi, _, F, Z => by
    unfold L_X12_law_138
    rw [F 83 23 (by omega), e, if_pos (by omega)]
    exact ⟨h, rfl, F, fun j hj => Z j (by omega)⟩
  | m + 1, q + 1, i, h, hi, hq, F, Z => by
    have g16 : 0 ≤ (i : Int) ∧ (i : Int) < 16 := ⟨by omega, by omega⟩
    unfold L_X12_law_138
    rw [F 83 23 (by omega), e, if_neg (by omega)]
    simp only [grd_t g16, bnd_s, Int.toNat_natCast]
    rw [inc (by omega)]
    refine l_138 hK e m q (i + 1) _ (by omega) (by omega) (fun c j z => by rw [hw_ne (by omega), hw_ne (by omega), hw_ne (by omega), hw_ne (by omega)]; exact F c j z) (fun j hj => ?_)
    by_cases y : j = i
    · subst y
      exact ⟨by simp [hw]; exact F 99 j (by omega), by simp [hw]; exact F 100 j (by omega), by simp [hw]; exact F 101 j (by omega), by simp [hw]; exact F 102 j (by omega)⟩
    · have := Z j (by omega)
      rw [hw_ne (by omega), hw_ne (by omega), hw_ne (by omega), hw_ne (by omega), hw_ne (by omega), hw_ne (by omega), hw_ne (by omega), hw_ne (by omega), hw_ne (by omega), hw_ne (by omega), hw_ne (by omega), hw_ne (by omega), hw_ne (by omega), hw_ne (by omega), hw_ne (by omega), hw_ne (by omega)]
      exact this
theorem l_110 {l : Nat} (hl : l ≤ 250) (e : g 83 21 = (l : Int)) : ∀ (m q i : Nat) (h : Hp), i + m = l → m < q → (∀ c j, ¬ c = 103 → h c j = g c j) → (∀ j, j < i → h 103 j = g 97 j) → ∃ h', L_X12_law_110 N q (i : Int) h = L_X12_law_138 N N 0 h' ∧ (∀ c j, ¬ c = 103 → h' c j = g c j) ∧ ∀ j, j < l → h' 103 j = g 97 j
  | _, 0, _, _, _, hq, _, _ => absurd hq (by omega)
  | 0, q + 1, i, h, hi, _, F, Z => by
    unfold L_X12_law_110
    rw [F 83 21 (by omega), e, if_pos (by omega)]
    exact ⟨h, rfl, F, fun j hj => Z j (by omega)⟩
  | m + 1, q + 1, i, h, hi, hq, F, Z => by
    unfold L_X12_law_110
    rw [F 83 21 (by omega), e, if_neg (by omega), grd_t ⟨by omega, by omega⟩, grd_t ⟨by omega, by omega⟩, bnd_s, bnd_s, inc (by omega), Int.toNat_natCast]
    refine l_110 hl e m q (i + 1) _ (by omega) (by omega) (fun c j z => by rw [hw_ne (by omega)]; exact F c j z) (fun j hj => ?_)
    by_cases y : j = i
    · subst y; rw [hw_eq]; exact F 97 j (by omega)
    · rw [hw_ne (by omega)]; exact Z j (by omega)
theorem s_take {h : Hp} : ∃ h', F_X2_takeOver N h = some h' ∧ h' 11 4 = h 44 4 ∧ (∀ c j, c < 4 → j < 16 → h' (12 + c) j = h (45 + c) j) ∧ (∀ j, j < 240 → h' 16 j = h 49 j ∧ h' 17 j = h 50 j) ∧ ∀ c j, ¬ (c = 11 ∧ (j = 4 ∨ j = 7)) → ¬ (12 ≤ c ∧ c ≤ 17) → h' c j = h c j := by
  unfold F_X2_takeOver
  simp only [bnd_s]
  refine ⟨_, rfl, ?_, fun c j hc hj => ?_, fun j hj => ⟨?_, ?_⟩, fun c j z1 z2 => ?_⟩
  · simp [hcp, hw]
  · rcases (show c = 0 ∨ c = 1 ∨ c = 2 ∨ c = 3 by omega) with rfl | rfl | rfl | rfl <;> simp [hcp, hw, hj]
  · simp [hcp, hw, hj]
  · simp [hcp, hw, hj]
  · have a1 : ¬ c = 12 := by omega
    have a2 : ¬ c = 13 := by omega
    have a3 : ¬ c = 14 := by omega
    have a4 : ¬ c = 15 := by omega
    have a5 : ¬ c = 16 := by omega
    have a6 : ¬ c = 17 := by omega
    have a7 : ¬ (c = 11 ∧ j = 4) := by omega
    have a8 : ¬ (c = 11 ∧ j = 7) := by omega
    simp [hcp, hw, a1, a2, a3, a4, a5, a6, a7, a8]
end LI
