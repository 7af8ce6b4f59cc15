/-! THE SMALL CALLS -/
theorem op_pour {N : Nat} (hN : 1000000 ≤ N) : ∀ a1 : Int, inR a1 → ∀ a2 : Int, inR a2 → Sm (Inv N) (F_X11_pour N a1 a2) (F_X12_pour N a1 a2) := by
  intro i _ y _ h hok hI
  obtain ⟨t, i1, i2, i3, i4, i5, i6, i7, i8, i9, i10⟩ := id hI
  have ht := i1.1
  unfold F_X11_pour F_X12_pour
  by_cases c1 : isT t i
  · by_cases c2 : 0 ≤ y ∧ y ≤ 999
    · obtain ⟨d1, d2, d3, d4⟩ := i3 i.toNat (by omega)
      obtain ⟨d, hd⟩ : ∃ d, d = imin 999 (h 5 i.toNat + y) := ⟨_, rfl⟩
      have hdr : 0 ≤ d ∧ d ≤ 999 := by rw [hd]; unfold imin; split <;> omega
      have gi : 0 ≤ i ∧ i < 14 := ⟨c1.1, c1.2.1⟩
      refine ⟨d, hw h 5 i.toNat d, hw (hw h 5 i.toNat d) 84 i.toNat d, ?_, ?_, ?_⟩
      · rw [s_isTold ht i1.2.1, bd_s, if_pos c1, if_neg (by decide), s_isWithin, bd_s, if_pos c2, if_neg (by decide)]
        unfold F_X1_deepen
        rw [s_isTold ht i1.2.1, bd_s, if_pos c1, if_neg (by decide), grd_t gi, grd_t gi, w32_id ⟨by omega, by omega⟩, ← hd, bnd_s]
        unfold J_X1_deepen_28 F_X1_depthOf
        rw [if_neg (by omega), if_neg (by omega), grd_t gi, bd_s, bd_s, hw_eq]
      · rw [s_isStreet ht (by rw [hw_ne (by omega)]; exact i1.2.2), bd_s, if_pos c1, if_neg (by decide), s_in, bd_s, if_pos c2, if_neg (by decide), w14 ⟨gi.1, by omega⟩, grd_t ⟨gi.1, by omega⟩]
        unfold F_X12_min
        have e84 : hw h 5 i.toNat d 84 i.toNat = h 5 i.toNat := by rw [hw_ne (by omega)]; exact d1
        rw [e84, w32_id ⟨by omega, by omega⟩]
        have em : (if h 5 i.toNat + y ≤ 999 then some (h 5 i.toNat + y, hw h 5 i.toNat d) else some ((999 : Int), hw h 5 i.toNat d)) = some (d, hw h 5 i.toNat d) := by
          rw [hd]; unfold imin
          by_cases q : h 5 i.toNat + y < 999
          · rw [if_pos q, if_pos (by omega)]
          · rw [if_neg q]
            by_cases q2 : h 5 i.toNat + y ≤ 999
            · rw [if_pos q2]; congr 2; omega
            · rw [if_neg q2]
        rw [em, bd_s, grd_t ⟨gi.1, by omega⟩, bnd_s, grd_t ⟨gi.1, by omega⟩, hw_eq]
      · refine ⟨t, i1.ag (by rw [hw_ne (by omega), hw_ne (by omega)]) (by rw [hw_ne (by omega), hw_ne (by omega)]), i2.ag (fun c hc => by rw [hw_c (by omega), hw_c (by omega)]), ?_, i4.ag (fun j hj => by rw [hw_ne (by omega), hw_ne (by omega)]) (fun j hj => by rw [hw_ne (by omega), hw_ne (by omega)]), i5.ag (fun j hj => by rw [hw_ne (by omega), hw_ne (by omega)]) (by rw [hw_c (by omega), hw_c (by omega)]) (by rw [hw_c (by omega), hw_c (by omega)]) (by rw [hw_ne (by omega), hw_ne (by omega)]), i6.ag (by rw [hw_ne (by omega), hw_ne (by omega)]) (by rw [hw_ne (by omega), hw_ne (by omega)]) (by rw [hw_c (by omega), hw_c (by omega)]) (by rw [hw_c (by omega), hw_c (by omega)]), i7.ag (by rw [hw_ne (by omega), hw_ne (by omega)]) (fun c hc => by rw [hw_c (by omega), hw_c (by omega)]), i8.ag (by rw [hw_ne (by omega), hw_ne (by omega)]) (fun c hc => by rw [hw_c (by omega), hw_c (by omega)]), i9.ag (by rw [hw_ne (by omega), hw_ne (by omega)]) (by rw [hw_ne (by omega), hw_ne (by omega)]) (fun c _ _ => by rw [hw_c (by omega), hw_c (by omega)]) (fun c _ _ => by rw [hw_c (by omega), hw_c (by omega)]), by rw [hw_ne (by omega), hw_ne (by omega)]; exact i10⟩
        intro k hk
        by_cases ek : k = i.toNat
        · subst ek
          have e1 : hw (hw h 5 i.toNat d) 84 i.toNat d 84 i.toNat = d := hw_eq
          have e2 : hw (hw h 5 i.toNat d) 84 i.toNat d 5 i.toNat = d := by rw [hw_ne (by omega), hw_eq]
          rw [e1, e2]
          exact ⟨rfl, hdr.1, hdr.2, fun q => by rw [c1.2.2] at q; cases q⟩
        · rw [hw_ne (by omega), hw_ne (by omega), hw_ne (by omega), hw_ne (by omega)]
          exact i3 k hk
    · refine ⟨-1, h, h, ?_, ?_, hI⟩
      · rw [s_isTold ht i1.2.1, bd_s, if_pos c1, if_neg (by decide), s_isWithin, bd_s, if_neg c2, if_pos rfl]
      · rw [s_isStreet ht i1.2.2, bd_s, if_pos c1, if_neg (by decide), s_in, bd_s, if_neg c2, if_pos rfl]
  · refine ⟨-1, h, h, ?_, ?_, hI⟩
    · rw [s_isTold ht i1.2.1, bd_s, if_neg c1, if_pos rfl]
    · rw [s_isStreet ht i1.2.2, bd_s, if_neg c1, if_pos rfl]
/-- sums, from below -/
def sm (f : Nat → Int) : Nat → Int
  | 0 => 0
  | k + 1 => sm f k + f k
theorem sm_b {f : Nat → Int} {M : Nat} (hf : ∀ k, k < M → 0 ≤ f k ∧ f k ≤ 100000) : ∀ k, k ≤ M → 0 ≤ sm f k ∧ sm f k ≤ 100000 * k
  | 0, _ => by simp [sm]
  | k + 1, hk => by
    have h1 := sm_b hf k (by omega)
    have h2 := hf k (by omega)
    simp only [sm]
    omega
theorem sm_c {f g : Nat → Int} : ∀ {k : Nat}, (∀ j, j < k → f j = g j) → sm f k = sm g k
  | 0, _ => rfl
  | k + 1, hk => by
    simp only [sm]
    rw [sm_c (fun j hj => hk j (by omega)), hk k (by omega)]
theorem inc {k : Nat} (h : k < 100000000) : w32 ((k : Int) + 1) = ((k + 1 : Nat) : Int) := by rw [w32_id ⟨by omega, by omega⟩]; omega
theorem l_store {N : Nat} (h : Hp) (hb : ∀ k, k < 14 → 0 ≤ h 5 k ∧ h 5 k ≤ 999) : ∀ n k : Nat, k ≤ 14 → 14 - k < n → L_X1_store_41 N n (sm (h 5) k) (k : Int) h = some (sm (h 5) 14, h)
  | 0, k, _, hf => absurd hf (by omega)
  | n + 1, k, hk, hf => by
    unfold L_X1_store_41
    by_cases c : k = 14
    · subst c; rw [if_pos (by omega)]
    · have hs := sm_b (f := h 5) (M := 14) (fun k hk => ⟨(hb k hk).1, by have := (hb k hk).2; omega⟩) k hk
      have h2 := hb k (by omega)
      rw [if_neg (by omega), grd_t ⟨by omega, by omega⟩, bnd_s, bnd_s, Int.toNat_natCast, w32_id ⟨by omega, by omega⟩, inc (by omega)]
      exact l_store h hb n (k + 1) (by omega) (by omega)
theorem l_yards {N t : Nat} (h : Hp) (ht : t < 16384) (e : h 83 12 = (t : Int)) (hb : ∀ k, k < 14 → 0 ≤ h 84 k ∧ h 84 k ≤ 999 ∧ (t.testBit k = false → h 84 k = 0)) : ∀ n k : Nat, k ≤ 14 → 14 - k < n → L_X12_yardsAll_4 N n (sm (h 84) k) (k : Int) h = some (sm (h 84) 14, h)
  | 0, k, _, hf => absurd hf (by omega)
  | n + 1, k, hk, hf => by
    unfold L_X12_yardsAll_4
    by_cases c : k = 14
    · subst c; rw [if_pos (by omega)]
    · have hs := sm_b (f := h 84) (M := 14) (fun k hk => ⟨(hb k hk).1, by have := (hb k hk).2.1; omega⟩) k hk
      have h2 := hb k (by omega)
      have ih := l_yards (N := N) h ht e hb n (k + 1) (by omega) (by omega)
      simp only [sm] at ih
      rw [if_neg (by omega), s_isStreet ht e, bd_s]
      by_cases q : isT t (k : Int)
      · rw [if_pos q, if_neg (by decide), w14 ⟨by omega, by omega⟩, grd_t ⟨by omega, by omega⟩, Int.toNat_natCast]
        unfold J_X12_yardsAll_31
        rw [bnd_s, bnd_s, w32_id ⟨by omega, by omega⟩, inc (by omega)]
        exact ih
      · have hz : h 84 k = 0 := h2.2.2 (by
          cases hq : t.testBit k with
          | false => rfl
          | true => exact absurd ⟨by omega, by omega, by rw [Int.toNat_natCast]; exact hq⟩ q)
        rw [if_neg q, if_pos rfl]
        unfold J_X12_yardsAll_31
        rw [bnd_s, bnd_s, w32_id ⟨by omega, by omega⟩, inc (by omega)]
        rw [hz] at ih
        exact ih
/-- seventeen places copied, from a place on -/
def cp17 (h : Hp) (a b i : Nat) : Hp := fun c j => if c = b ∧ i ≤ j ∧ j < 17 then h a j else h c j
theorem cp17_s {h : Hp} {a b i : Nat} (hab : a ≠ b) (hi : i < 17) : cp17 (hw h b i (h a i)) a b (i + 1) = cp17 h a b i := by
  funext c j
  unfold cp17 hw
  by_cases h1 : c = b
  · by_cases h2 : j = i
    · subst h2; simp [h1, hi]
    · by_cases h3 : i + 1 ≤ j ∧ j < 17
      · have : i ≤ j ∧ j < 17 := by omega
        simp [h1, h3, this, hab]
      · have : ¬ (i ≤ j ∧ j < 17) := by omega
        simp [h1, h2, h3, this]
  · simp [h1]
theorem cp17_e {h : Hp} {a b : Nat} : cp17 h a b 17 = h := by
  funext c j
  unfold cp17
  rw [if_neg (by omega)]
theorem l_cp {N : Nat} : ∀ (n k : Nat) (h : Hp), k ≤ 17 → 17 - k < n → L_X12_copies_2 N n (k : Int) h = some (cp17 h 84 85 k)
  | 0, k, h, _, hf => absurd hf (by omega)
  | n + 1, k, h, hk, hf => by
    unfold L_X12_copies_2
    by_cases c : k = 17
    · subst c; rw [if_pos (by omega), cp17_e]
    · rw [if_neg (by omega), grd_t ⟨by omega, by omega⟩, grd_t ⟨by omega, by omega⟩, bnd_s, bnd_s, Int.toNat_natCast, inc (by omega), l_cp n (k + 1) _ (by omega) (by omega), cp17_s (by decide) (by omega)]
theorem s_cp {N : Nat} (hN : 1000000 ≤ N) (h : Hp) : F_X12_copies N h = some (cp17 h 84 85 0) := l_cp N 0 h (by omega) (by omega)
theorem l_cp_v2 {N : Nat} : ∀ (n k : Nat) (h : Hp), k ≤ 17 → 17 - k < n → L_X12_copies_v2_2 N n (k : Int) h = some (cp17 h 85 84 k)
  | 0, k, h, _, hf => absurd hf (by omega)
  | n + 1, k, h, hk, hf => by
    unfold L_X12_copies_v2_2
    by_cases c : k = 17
    · subst c; rw [if_pos (by omega), cp17_e]
    · rw [if_neg (by omega), grd_t ⟨by omega, by omega⟩, grd_t ⟨by omega, by omega⟩, bnd_s, bnd_s, Int.toNat_natCast, inc (by omega), l_cp_v2 n (k + 1) _ (by omega) (by omega), cp17_s (by decide) (by omega)]
theorem s_cp_v2 {N : Nat} (hN : 1000000 ≤ N) (h : Hp) : F_X12_copies_v2 N h = some (cp17 h 85 84 0) := l_cp_v2 N 0 h (by omega) (by omega)
theorem l_cp_v3 {N : Nat} : ∀ (n k : Nat) (h : Hp), k ≤ 17 → 17 - k < n → L_X12_copies_v3_2 N n (k : Int) h = some (cp17 h 84 86 k)
  | 0, k, h, _, hf => absurd hf (by omega)
  | n + 1, k, h, hk, hf => by
    unfold L_X12_copies_v3_2
    by_cases c : k = 17
    · subst c; rw [if_pos (by omega), cp17_e]
    · rw [if_neg (by omega), grd_t ⟨by omega, by omega⟩, grd_t ⟨by omega, by omega⟩, bnd_s, bnd_s, Int.toNat_natCast, inc (by omega), l_cp_v3 n (k + 1) _ (by omega) (by omega), cp17_s (by decide) (by omega)]
theorem s_cp_v3 {N : Nat} (hN : 1000000 ≤ N) (h : Hp) : F_X12_copies_v3 N h = some (cp17 h 84 86 0) := l_cp_v3 N 0 h (by omega) (by omega)
theorem l_cp_v4 {N : Nat} : ∀ (n k : Nat) (h : Hp), k ≤ 17 → 17 - k < n → L_X12_copies_v4_2 N n (k : Int) h = some (cp17 h 86 84 k)
  | 0, k, h, _, hf => absurd hf (by omega)
  | n + 1, k, h, hk, hf => by
    unfold L_X12_copies_v4_2
    by_cases c : k = 17
    · subst c; rw [if_pos (by omega), cp17_e]
    · rw [if_neg (by omega), grd_t ⟨by omega, by omega⟩, grd_t ⟨by omega, by omega⟩, bnd_s, bnd_s, Int.toNat_natCast, inc (by omega), l_cp_v4 n (k + 1) _ (by omega) (by omega), cp17_s (by decide) (by omega)]
theorem s_cp_v4 {N : Nat} (hN : 1000000 ≤ N) (h : Hp) : F_X12_copies_v4 N h = some (cp17 h 86 84 0) := l_cp_v4 N 0 h (by omega) (by omega)
theorem op_keep {N : Nat} (hN : 1000000 ≤ N) : Sm (Inv N) (F_X11_keep N) (F_X12_keep N) := by
  intro h hok hI
  obtain ⟨t, i1, i2, i3, i4, i5, i6, i7, i8, i9, i10⟩ := id hI
  have ht := i1.1
  have hb5 : ∀ k, k < 14 → 0 ≤ h 5 k ∧ h 5 k ≤ 999 := fun k hk => ⟨(i3 k hk).2.1, (i3 k hk).2.2.1⟩
  obtain ⟨g, hg⟩ : ∃ g, g = hw (hw (hw (hw (hcp h 5 0 6 0 14) 1 9 1) 1 10 (h 1 5)) 1 11 (h 1 6)) 1 12 (h 1 7) := ⟨_, rfl⟩
  have g5 : g 5 = h 5 := by rw [hg]; funext j; simp [hw, hcp]
  obtain ⟨g2, hg2⟩ : ∃ g2, g2 = cp17 (hw g 83 58 1) 84 86 0 := ⟨_, rfl⟩
  have e84 : ∀ j, g2 84 j = h 84 j := fun j => by rw [hg2, hg]; simp [cp17, hw, hcp]
  refine ⟨sm (h 5) 14, g, g2, ?_, ?_, ?_⟩
  · unfold F_X11_keep F_X1_store F_X1_copyDepths_v2
    rw [grd_t (by decide)]
    simp only [bnd_s, bv_s]
    have ei : (imin 14 14).toNat = 14 := by decide
    have e0 : (0 : Int).toNat = 0 := rfl
    rw [ei, e0]
    have r1 : hw (hcp h 5 0 6 0 14) 1 9 1 1 5 = h 1 5 := by simp [hw, hcp]
    rw [r1]
    have r2 : hw (hw (hcp h 5 0 6 0 14) 1 9 1) 1 10 (h 1 5) 1 6 = h 1 6 := by simp [hw, hcp]
    rw [r2]
    have r3 : hw (hw (hw (hcp h 5 0 6 0 14) 1 9 1) 1 10 (h 1 5)) 1 11 (h 1 6) 1 7 = h 1 7 := by simp [hw, hcp]
    rw [r3, ← hg]
    have := l_store (N := N) g (fun k hk => by rw [g5]; exact hb5 k hk) N 0 (by omega) (by omega)
    rw [g5] at this
    rw [show (0 : Int) = sm (h 5) 0 from rfl] at *
    exact congrArg (fun q => bd q (fun y2 h1 => some (y2, h1))) this
  · unfold F_X12_keep F_X12_yardsAll
    rw [bnd_s, s_cp_v3 hN, bv_s, ← hg2]
    have e12 : g2 83 12 = (t : Int) := by rw [hg2, hg]; simp [cp17, hw, hcp]; exact i1.2.2
    have := l_yards (N := N) (t := t) g2 ht e12 (fun k hk => by rw [e84, (i3 k hk).1]; exact (i3 k hk).2) N 0 (by omega) (by omega)
    rw [show sm (g2 84) 14 = sm (h 5) 14 from sm_c (fun j hj => by rw [e84, (i3 j hj).1])] at this
    exact congrArg (fun q => bd q (fun y2 h1 => some (y2, h1))) this
  · refine hI.ik (fun c j _ hc => ?_) (fun t j1 j3 j5 j4 => ?_)
    · rw [hg2, hg]
      unfold cp17 hw hcp
      rw [if_neg (by omega), if_neg (by omega), if_neg (by omega), if_neg (by omega), if_neg (by omega), if_neg (by omega), if_neg (by omega)]
    · have k1 : ∀ j, 9 ≤ j → j ≤ 12 → g2 1 j = if j = 9 then 1 else if j = 10 then h 1 5 else if j = 11 then h 1 6 else h 1 7 := by
        intro j a b
        rcases (show j = 9 ∨ j = 10 ∨ j = 11 ∨ j = 12 by omega) with rfl | rfl | rfl | rfl <;> rw [hg2, hg] <;> simp [cp17, hw, hcp]
      have k86 : ∀ j, j < 17 → g2 86 j = h 84 j := fun j hj => by rw [hg2, hg]; simp [cp17, hw, hcp, hj]
      have k6 : ∀ j, j < 14 → g2 6 j = h 5 j := fun j hj => by rw [hg2, hg]; simp [cp17, hw, hcp, hj]
      have k58 : g2 83 58 = 1 := by rw [hg2]; simp [cp17, hw]
      refine ⟨by rw [k58, k1 9 (by omega) (by omega)]; rfl, Or.inr (by rw [k1 9 (by omega) (by omega)]; rfl), fun _ => ⟨fun i hi => ?_, ?_⟩⟩
      · rw [k86 i (by omega), k6 i hi]
        exact j3 i hi
      · rw [k86 14 (by omega), k86 15 (by omega), k86 16 (by omega), k1 10 (by omega) (by omega), k1 11 (by omega) (by omega), k1 12 (by omega) (by omega)]
        exact j4
theorem op_undo {N : Nat} (hN : 1000000 ≤ N) : Sm (Inv N) (F_X11_undo N) (F_X12_undo N) := by
  intro h hok hI
  obtain ⟨t, i1, i2, i3, i4, i5, i6, i7, i8, i9, i10⟩ := id hI
  obtain ⟨k0, k1, k2⟩ := i5
  unfold F_X11_undo F_X12_undo F_X1_restore
  rcases k1 with k1 | k1
  · refine ⟨0, h, h, ?_, ?_, hI⟩
    · rw [if_pos k1]; unfold J_X1_restore_46; rw [grd_t (Or.inl k1), bd_s, k1]; exact grd_t (Or.inl rfl)
    · rw [if_pos (by rw [k0, k1])]
  · obtain ⟨k3, k4, k5, k6, k7, k8⟩ := k2 k1
    obtain ⟨g, hg⟩ : ∃ g, g = hw (hw (hw (hcp h 6 0 5 0 14) 1 5 (h 1 10)) 1 6 (h 1 11)) 1 7 (h 1 12) := ⟨_, rfl⟩
    refine ⟨1, g, cp17 g 86 84 0, ?_, ?_, ?_⟩
    · rw [if_neg (by rw [k1]; decide)]
      simp only [bnd_s]
      have e0 : (0 : Int).toNat = 0 := rfl
      have e14 : (14 : Int).toNat = 14 := rfl
      have r1 : hcp h 6 0 5 0 14 1 10 = h 1 10 := by simp [hcp]
      have r2 : hw (hcp h 6 0 5 0 14) 1 5 (h 1 10) 1 11 = h 1 11 := by simp [hw, hcp]
      have r3 : hw (hw (hcp h 6 0 5 0 14) 1 5 (h 1 10)) 1 6 (h 1 11) 1 12 = h 1 12 := by simp [hw, hcp]
      rw [e0, e14, r1, r2, r3, ← hg]
      have g9 : g 1 9 = 1 := by rw [hg]; simp [hw, hcp]; exact k1
      unfold J_X1_restore_46
      rw [grd_t (Or.inr g9), bd_s, g9]; exact grd_t (Or.inr rfl)
    · have e58 : g 83 58 = h 83 58 := by rw [hg]; simp [hw, hcp]
      rw [if_neg (by rw [e58, k0, k1]; decide), s_cp_v4 hN, bv_s]
    · have g86 : ∀ j, g 86 j = h 86 j := fun j => by rw [hg]; simp [hw, hcp]
      refine hI.dn (fun c j _ hc => ?_) (fun t j1 j3 j5 j4 => ?_)
      · rw [hg]
        unfold cp17 hw hcp
        rw [if_neg (by omega), if_neg (by omega), if_neg (by omega), if_neg (by omega), if_neg (by omega)]
      · have q84 : ∀ j, j < 17 → cp17 g 86 84 0 84 j = h 86 j := fun j hj => by unfold cp17; rw [if_pos ⟨rfl, by omega, hj⟩, g86]
        have q5 : ∀ j, j < 14 → cp17 g 86 84 0 5 j = h 6 j := fun j hj => by rw [hg]; simp [cp17, hw, hcp, hj]
        have q1 : cp17 g 86 84 0 1 5 = h 1 10 ∧ cp17 g 86 84 0 1 6 = h 1 11 ∧ cp17 g 86 84 0 1 7 = h 1 12 := by rw [hg]; simp [cp17, hw, hcp]
        obtain ⟨m0, m1, m2⟩ := j5
        obtain ⟨m3, m4⟩ := m2 k1
        refine ⟨fun i hi => ?_, ?_⟩
        · rw [q84 i (by omega), q5 i hi]
          exact m3 i hi
        · unfold IN
          rw [q84 14 (by omega), q84 15 (by omega), q84 16 (by omega), q1.1, q1.2.1, q1.2.2]
          exact m4
/-- carts: what the class finds of one -/
theorem s_cartAt {N : Nat} {k : Int} {h : Hp} {c : Nat} (hc : ∀ q, q < 5 → ICk h c q) : F_X11_cartAt N k h = some (if 0 ≤ k ∧ k ≤ 4 then 22 + 4 * k.toNat else 0, h) := by
  unfold F_X11_cartAt
  rw [s_isWithin, bd_s]
  by_cases q : 0 ≤ k ∧ k ≤ 4
  · have e := (hc k.toNat (by omega)).1
    rw [if_pos q, if_neg (by decide), if_pos q, bnd_s, e, Int.toNat_natCast, grd_t ⟨by omega, by omega, by omega⟩]
  · rw [if_neg q, if_pos rfl, if_neg q]
theorem cartR_n {k : Nat} (hk : k < 5) : cartR (22 + 4 * k) := by
  rcases (show k = 0 ∨ k = 1 ∨ k = 2 ∨ k = 3 ∨ k = 4 by omega) with rfl | rfl | rfl | rfl | rfl <;> decide
theorem tb_or {c k q : Nat} : (c ||| 2 ^ k).testBit q = (c.testBit q || decide (k = q)) := by
  rw [Nat.testBit_or, Nat.testBit_two_pow]
theorem op_cart {N : Nat} (hN : 1000000 ≤ N) : ∀ a1 : Int, inR a1 → ∀ a2 : Int, inR a2 → Sm (Inv N) (F_X11_cart N a1 a2) (F_X12_cart N a1 a2) := by
  intro k _ y _ h hok hI
  obtain ⟨t, i1, i2, i3, i4, i5, i6, ⟨c, hc, c1, c2⟩, i8, i9, i10⟩ := id hI
  unfold F_X11_cart F_X12_cart
  by_cases q1 : 0 ≤ k ∧ k ≤ 4
  · by_cases q2 : 1 ≤ y ∧ y ≤ 99
    · obtain ⟨n, rfl⟩ : ∃ n : Nat, k = (n : Int) := ⟨k.toNat, by omega⟩
      have hn : n < 5 := by omega
      obtain ⟨g, hg⟩ : ∃ g, g = hw h (21 + 4 * n) 4 y := ⟨_, rfl⟩
      refine ⟨1, g, hw (hw g 83 13 ((c ||| 2 ^ n : Nat) : Int)) 92 n y, ?_, ?_, ?_⟩
      · rw [s_cartAt c2, bd_s, if_pos q1, Int.toNat_natCast, if_neg (by omega), s_isWithin, bd_s, if_pos q2, if_neg (by decide), grd_t (cartR_n hn)]
        unfold F_X0_tellRoom
        rw [bnd_s, bv_s, hg]
        congr 4
        omega
      · have e13 : g 83 13 = (c : Int) := by rw [hg, hw_ne (by omega)]; exact c1
        have ep : (2 : Nat) ^ n < 2147483648 := Nat.lt_of_lt_of_le (Nat.pow_lt_pow_right (by decide) hn) (by decide)
        rw [s_in, bd_s, if_pos q1, if_neg (by decide), s_in, bd_s, if_pos q2, if_neg (by decide), bnd_s, e13, ishl_1 (by omega), ior_nat (by omega) ep, grd_t ⟨by omega, by omega⟩, bnd_s, Int.toNat_natCast]
      · refine hI.ic (fun c' j _ hc' => ?_) ⟨c ||| 2 ^ n, or_lt (k := 5) hc (Nat.pow_lt_pow_right (by decide) hn), by rw [hw_ne (by omega), hw_eq], fun m hm => ?_⟩
        · rw [hg, hw_ne (by omega), hw_ne (by omega), hw_ne (by omega)]
        · obtain ⟨d1, d2, d3, d4, d5, s, d6, d7, d8, d9⟩ := c2 m hm
          have eo : ∀ c' j, ¬ (c' = 21 + 4 * n ∧ j = 4) → ¬ c' = 83 → ¬ (c' = 92 ∧ j = n) → hw (hw g 83 13 ((c ||| 2 ^ n : Nat) : Int)) 92 n y c' j = h c' j := fun c' j a1 a2 a3 => by rw [hg, hw_ne (by omega), hw_ne (by omega), hw_ne (by omega)]
          unfold ICk
          have hrest : PlanOK (hw (hw g 83 13 ((c ||| 2 ^ n : Nat) : Int)) 92 n y) m := by
            refine ⟨s, d6, by rw [eo _ _ (by omega) (by omega) (by omega)]; exact d7, by rw [eo _ _ (by omega) (by omega) (by omega)]; exact d8, fun q hq => ?_⟩
            rw [eo (23 + 4 * m) q (by omega) (by omega) (by omega), eo 95 (16 * m + q) (by omega) (by omega) (by omega), eo (24 + 4 * m) q (by omega) (by omega) (by omega), eo (22 + 4 * m) q (by omega) (by omega) (by omega), eo 94 (16 * m + q) (by omega) (by omega) (by omega)]
            exact d9 q hq
          by_cases em : m = n
          · subst em
            have e4 : hw (hw g 83 13 ((c ||| 2 ^ m : Nat) : Int)) 92 m y (21 + 4 * m) 4 = y := by rw [hw_ne (by omega), hw_ne (by omega), hg, hw_eq]
            have e92 : hw (hw g 83 13 ((c ||| 2 ^ m : Nat) : Int)) 92 m y 92 m = y := hw_eq
            rw [e4, e92]
            refine ⟨by rw [eo _ _ (by omega) (by omega) (by omega)]; exact d1, by omega, by omega, ?_, fun _ => rfl, hrest⟩
            rw [tb_or]
            simp
            omega
          · rw [eo (21 + 4 * m) 4 (by omega) (by omega) (by omega), eo 92 m (by omega) (by omega) (by omega)]
            refine ⟨by rw [eo _ _ (by omega) (by omega) (by omega)]; exact d1, d2, d3, ?_, d5, hrest⟩
            rw [tb_or, ← d4]
            simp
            omega
    · refine ⟨0, h, h, ?_, ?_, hI⟩
      · rw [s_cartAt c2, bd_s, if_pos q1, if_neg (by omega), s_isWithin, bd_s, if_neg q2, if_pos rfl]
      · rw [s_in, bd_s, if_pos q1, if_neg (by decide), s_in, bd_s, if_neg q2, if_pos rfl]
  · refine ⟨0, h, h, ?_, ?_, hI⟩
    · rw [s_cartAt c2, bd_s, if_neg q1, if_pos rfl]
    · rw [s_in, bd_s, if_neg q1, if_pos rfl]
