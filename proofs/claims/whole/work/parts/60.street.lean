/-! STREET, THE START -/
theorem FW_cg {b1 b2 : Nat → Nat → Int} (e : ∀ i j, i < 14 → j < 14 → b1 i j = b2 i j) : ∀ m, m ≤ 14 → ∀ i j, i < 14 → j < 14 → FW b1 m i j = FW b2 m i j
  | 0, _, i, j, hi, hj => e i j hi hj
  | m + 1, hm, i, j, hi, hj => by rw [FW_s, FW_s, FW_cg e m (by omega) i j hi hj, FW_cg e m (by omega) i m hi (by omega), FW_cg e m (by omega) m j (by omega) hj]
theorem op_street {N : Nat} (hN : 1000000 ≤ N) : ∀ a1 : Int, inR a1 → ∀ a2 : Int, inR a2 → ∀ a3 : Int, inR a3 → ∀ a4 : Int, inR a4 → Sm (Inv N) (F_X11_street N a1 a2 a3 a4) (F_X12_street N a1 a2 a3 a4) := by
  intro i _ a _ b _ c _ h hok hI
  obtain ⟨t, i1, i2, i3, i4, i5, i6, i7, i8, i9, i10⟩ := id hI
  unfold F_X11_street F_X12_street F_X1_tell
  simp only [s_isWithin, s_in, bd_s]
  by_cases q1 : 0 ≤ i ∧ i ≤ 13
  · by_cases q2 : 0 ≤ a ∧ a ≤ 99
    · by_cases q3 : 0 ≤ b ∧ b ≤ 9
      · by_cases q4 : 0 ≤ c ∧ c ≤ 99
        · obtain ⟨n, rfl⟩ : ∃ n : Nat, i = (n : Int) := ⟨i.toNat, by omega⟩
          have hn : n < 14 := by omega
          have g14 : 0 ≤ (n : Int) ∧ (n : Int) < 14 := ⟨by omega, by omega⟩
          have hp : (2 : Nat) ^ n < 16384 := Nat.lt_of_lt_of_le (Nat.pow_lt_pow_right (by decide) hn) (by decide)
          have ht : t < 16384 := i1.1
          have hu : t ||| 2 ^ n < 16384 := or_lt (k := 14) ht hp
          have eor : ior (t : Int) (ishl 1 (n : Int)) = ((t ||| 2 ^ n : Nat) : Int) := by rw [ishl_1 (by omega), ior_nat (by omega) (by omega)]
          simp only [if_pos q1, if_pos q2, if_pos q3, if_pos q4, if_neg (show ¬ (1 : Int) = 0 by decide), grd_t g14, bnd_s, Int.toNat_natCast]
          obtain ⟨g, hg⟩ : ∃ g, g = hw (hw (hw (hw h 2 n a) 3 n b) 4 n c) 1 4 ((t ||| 2 ^ n : Nat) : Int) := ⟨_, rfl⟩
          obtain ⟨k, hk⟩ : ∃ k, k = hw (hw (hw (hw g 83 12 ((t ||| 2 ^ n : Nat) : Int)) 87 n a) 88 n b) 89 n c := ⟨_, rfl⟩
          have kc : ∀ c' j', ¬ (c' = 2 ∧ j' = n) → ¬ (c' = 3 ∧ j' = n) → ¬ (c' = 4 ∧ j' = n) → ¬ (c' = 1 ∧ j' = 4) → ¬ (c' = 83 ∧ j' = 12) → ¬ (c' = 87 ∧ j' = n) → ¬ (c' = 88 ∧ j' = n) → ¬ (c' = 89 ∧ j' = n) → k c' j' = h c' j' := fun c' j' z1 z2 z3 z4 z5 z6 z7 z8 => by rw [hk, hw_ne z8, hw_ne z7, hw_ne z6, hw_ne z5, hg, hw_ne z4, hw_ne z3, hw_ne z2, hw_ne z1]
          have k12 : k 83 12 = ((t ||| 2 ^ n : Nat) : Int) := by rw [hk, hw_ne (by omega), hw_ne (by omega), hw_ne (by omega), hw_eq]
          have k90 : ∀ p, k 90 p = h 90 p := fun p => kc 90 p (by omega) (by omega) (by omega) (by omega) (by omega) (by omega) (by omega) (by omega)
          obtain ⟨r1, r2, r3, r4, r5⟩ := i8
          obtain ⟨k', E, W, S⟩ := s_lays (N := N) (g := k) (t := t ||| 2 ^ n) (a := -1) (b := -1) hN hu k12 (fun i j hi hj => by rw [k90, r1 _ (by omega)]; exact r2.1 _ (by omega))
          have kc' : ∀ c' j', ¬ c' = 91 → ¬ (c' = 2 ∧ j' = n) → ¬ (c' = 3 ∧ j' = n) → ¬ (c' = 4 ∧ j' = n) → ¬ (c' = 1 ∧ j' = 4) → ¬ (c' = 83 ∧ j' = 12) → ¬ (c' = 87 ∧ j' = n) → ¬ (c' = 88 ∧ j' = n) → ¬ (c' = 89 ∧ j' = n) → k' c' j' = h c' j' := fun c' j' z0 z1 z2 z3 z4 z5 z6 z7 z8 => by rw [E c' j' z0]; exact kc c' j' z1 z2 z3 z4 z5 z6 z7 z8
          have kcc : ∀ c', ¬ c' = 91 → ¬ c' = 2 → ¬ c' = 3 → ¬ c' = 4 → ¬ c' = 1 → ¬ c' = 83 → ¬ c' = 87 → ¬ c' = 88 → ¬ c' = 89 → k' c' = h c' := fun c' z0 z1 z2 z3 z4 z5 z6 z7 z8 => funext fun j' => kc' c' j' z0 (by omega) (by omega) (by omega) (by omega) (by omega) (by omega) (by omega) (by omega)
          refine ⟨1, g, k', ?_, ?_, ?_⟩
          · rw [show hw (hw (hw h 2 n a) 3 n b) 4 n c 1 4 = (t : Int) by rw [hw_ne (by omega), hw_ne (by omega), hw_ne (by omega)]; exact i1.2.1, eor, ← hg, bv_s]
          · rw [show g 83 12 = (t : Int) by rw [hg, hw_ne (by omega), hw_ne (by omega), hw_ne (by omega), hw_ne (by omega)]; exact i1.2.2, eor, ← hk, S, bv_s]
          · have tb : ∀ q, t.testBit q = true → (t ||| 2 ^ n).testBit q = true := fun q hq => by rw [tb_or, hq]; rfl
            have tf : ∀ q, (t ||| 2 ^ n).testBit q = false → t.testBit q = false := fun q hq => by
              cases hz : t.testBit q with
              | false => rfl
              | true => rw [tb q hz] at hq; cases hq
            have e8 : k' 8 = h 8 := kcc 8 (by omega) (by omega) (by omega) (by omega) (by omega) (by omega) (by omega) (by omega) (by omega)
            refine ⟨t ||| 2 ^ n, ⟨hu, ?_, ?_⟩, fun q hq => ?_, fun q hq => ?_, ?_, ?_, ?_, ?_, ⟨?_, ?_, ?_, ?_, ?_⟩, ?_, ?_⟩
            · rw [E 1 4 (by omega), hk, hw_ne (by omega), hw_ne (by omega), hw_ne (by omega), hw_ne (by omega), hg, hw_eq]
            · rw [E 83 12 (by omega)]; exact k12
            · have s := i2 q hq
              have m2 : k' 2 q = if q = n then a else h 2 q := by rw [E 2 q (by omega), hk, hg]; simp [hw]
              have m3 : k' 3 q = if q = n then b else h 3 q := by rw [E 3 q (by omega), hk, hg]; simp [hw]
              have m4 : k' 4 q = if q = n then c else h 4 q := by rw [E 4 q (by omega), hk, hg]; simp [hw]
              have m87 : k' 87 q = if q = n then a else h 87 q := by rw [E 87 q (by omega), hk, hg]; simp [hw]
              have m88 : k' 88 q = if q = n then b else h 88 q := by rw [E 88 q (by omega), hk, hg]; simp [hw]
              have m89 : k' 89 q = if q = n then c else h 89 q := by rw [E 89 q (by omega), hk, hg]; simp [hw]
              rw [m2, m3, m4, m87, m88, m89]
              by_cases z : q = n
              · simp only [if_pos z]; exact ⟨⟨trivial, q2⟩, ⟨trivial, q3⟩, ⟨trivial, q4⟩⟩
              · simp only [if_neg z]; exact s
            · have s := i3 q hq
              rw [kc' 84 q (by omega) (by omega) (by omega) (by omega) (by omega) (by omega) (by omega) (by omega) (by omega), kc' 5 q (by omega) (by omega) (by omega) (by omega) (by omega) (by omega) (by omega) (by omega) (by omega)]
              exact ⟨s.1, s.2.1, s.2.2.1, fun z => s.2.2.2 (tf q z)⟩
            · exact i4.ag (fun j hj => kc' 1 j (by omega) (by omega) (by omega) (by omega) (by omega) (by omega) (by omega) (by omega) (by omega)) (fun j hj => kc' 84 j (by omega) (by omega) (by omega) (by omega) (by omega) (by omega) (by omega) (by omega) (by omega))
            · have i5' : IK k' t := i5.ag (fun j hj => kc' 1 j (by omega) (by omega) (by omega) (by omega) (by omega) (by omega) (by omega) (by omega) (by omega)) (kcc 6 (by omega) (by omega) (by omega) (by omega) (by omega) (by omega) (by omega) (by omega) (by omega)) (kcc 86 (by omega) (by omega) (by omega) (by omega) (by omega) (by omega) (by omega) (by omega) (by omega)) (kc' 83 58 (by omega) (by omega) (by omega) (by omega) (by omega) (by omega) (by omega) (by omega) (by omega))
              exact ⟨i5'.1, i5'.2.1, fun z => ⟨fun q hq => ⟨((i5'.2.2 z).1 q hq).1, ((i5'.2.2 z).1 q hq).2.1, ((i5'.2.2 z).1 q hq).2.2.1, fun y => ((i5'.2.2 z).1 q hq).2.2.2 (tf q y)⟩, (i5'.2.2 z).2⟩⟩
            · exact i6.ag (kc' 41 1 (by omega) (by omega) (by omega) (by omega) (by omega) (by omega) (by omega) (by omega) (by omega)) (kc' 83 15 (by omega) (by omega) (by omega) (by omega) (by omega) (by omega) (by omega) (by omega) (by omega)) (kcc 42 (by omega) (by omega) (by omega) (by omega) (by omega) (by omega) (by omega) (by omega) (by omega)) (kcc 96 (by omega) (by omega) (by omega) (by omega) (by omega) (by omega) (by omega) (by omega) (by omega))
            · exact i7.ag (kc' 83 13 (by omega) (by omega) (by omega) (by omega) (by omega) (by omega) (by omega) (by omega) (by omega)) (fun c hc => kcc c (by omega) (by omega) (by omega) (by omega) (by omega) (by omega) (by omega) (by omega) (by omega))
            · intro p hp'
              rw [kc' 90 p (by omega) (by omega) (by omega) (by omega) (by omega) (by omega) (by omega) (by omega) (by omega), e8]
              exact r1 p hp'
            · rw [e8]
              exact ⟨r2.1, r2.2.1, fun i j hi hj z => ⟨tb _ (r2.2.2 i j hi hj z).1, tb _ (r2.2.2 i j hi hj z).2.1, (r2.2.2 i j hi hj z).2.2⟩⟩
            · rw [e8, kc' 7 3 (by omega) (by omega) (by omega) (by omega) (by omega) (by omega) (by omega) (by omega) (by omega)]
              exact r3
            · intro i j hi hj
              rw [e8, kc' 10 _ (by omega) (by omega) (by omega) (by omega) (by omega) (by omega) (by omega) (by omega) (by omega)]
              exact r4 i j hi hj
            · intro i j hi hj
              rw [W i j hi hj, bsC_M, e8]
              have e90 : ∀ p, p < 196 → k 90 p = h 8 p := fun p hp' => by rw [k90]; exact r1 p hp'
              refine FW_cg (fun i j hi hj => ?_) 14 (by omega) i j hi hj
              unfold bsM
              rw [e90 _ (by omega)]
            · exact i9.ag (kc' 83 24 (by omega) (by omega) (by omega) (by omega) (by omega) (by omega) (by omega) (by omega) (by omega)) (kc' 11 4 (by omega) (by omega) (by omega) (by omega) (by omega) (by omega) (by omega) (by omega) (by omega)) (fun c _ _ => kcc c (by omega) (by omega) (by omega) (by omega) (by omega) (by omega) (by omega) (by omega) (by omega)) (fun c _ _ => kcc c (by omega) (by omega) (by omega) (by omega) (by omega) (by omega) (by omega) (by omega) (by omega))
            · rw [kc' 83 51 (by omega) (by omega) (by omega) (by omega) (by omega) (by omega) (by omega) (by omega) (by omega)]
              exact i10
        · refine ⟨0, h, h, ?_, ?_, hI⟩ <;> simp only [if_pos q1, if_pos q2, if_pos q3, if_neg q4, if_neg (show ¬ (1 : Int) = 0 by decide), if_true]
      · refine ⟨0, h, h, ?_, ?_, hI⟩ <;> simp only [if_pos q1, if_pos q2, if_neg q3, if_neg (show ¬ (1 : Int) = 0 by decide), if_true]
    · refine ⟨0, h, h, ?_, ?_, hI⟩ <;> simp only [if_pos q1, if_neg q2, if_neg (show ¬ (1 : Int) = 0 by decide), if_true]
  · refine ⟨0, h, h, ?_, ?_, hI⟩ <;> simp only [if_neg q1, if_true]
theorem op_init {N : Nat} (hN : 1000000 ≤ N) : ∃ h1, F_X12_laysWays N (-1) (-1) hX0 = some h1 ∧ Inv N h1 := by
  have x0 : ∀ c j, ¬ c = 10 → ¬ c = 20 → hX0 c j = 0 := fun c j a b => by
    unfold hX0
    rw [hw_ne (by omega), hw_ne (by omega), hw_ne (by omega), hw_ne (by omega), hw_ne (by omega)]
    unfold hRd hS1
    rw [if_neg a]; rfl
  have x10 : ∀ j, hX0 10 j = if j < 196 ∧ ¬ j % 15 = 0 then -2 else 0 := fun j => by
    unfold hX0
    rw [hw_ne (by omega), hw_ne (by omega), hw_ne (by omega), hw_ne (by omega), hw_ne (by omega)]
    unfold hRd hS1
    rw [if_pos rfl]
  have x20 : ∀ k, k < 5 → hX0 20 k = ((22 + 4 * k : Nat) : Int) := fun k hk => by
    rcases (show k = 0 ∨ k = 1 ∨ k = 2 ∨ k = 3 ∨ k = 4 by omega) with rfl | rfl | rfl | rfl | rfl <;> rfl
  obtain ⟨k, E, W, S⟩ := s_lays (N := N) (g := hX0) (t := 0) (a := -1) (b := -1) hN (by omega) (by rw [x0 _ _ (by omega) (by omega)]; rfl) (fun i j hi hj => by rw [x0 _ _ (by omega) (by omega)]; omega)
  have z : ∀ c j, ¬ c = 91 → ¬ c = 10 → ¬ c = 20 → k c j = 0 := fun c j a b d => by rw [E c j a]; exact x0 c j b d
  have z8 : k 8 = fun _ => 0 := funext fun j => z 8 j (by omega) (by omega) (by omega)
  have rok : RdOK (fun _ => 0) 0 := ⟨fun p _ => ⟨Int.le_refl _, show (0 : Int) ≤ 99 by decide⟩, fun i j _ _ => rfl, fun i j _ _ y => absurd y (show ¬ (0 : Int) < 0 by decide)⟩
  refine ⟨k, S, 0, ⟨by omega, z _ _ (by omega) (by omega) (by omega), z _ _ (by omega) (by omega) (by omega)⟩, fun i hi => ?_, fun i hi => ?_, ?_, ?_, ⟨0, by omega, z _ _ (by omega) (by omega) (by omega), z _ _ (by omega) (by omega) (by omega), fun j hj => absurd hj (by omega)⟩, ⟨0, by omega, z _ _ (by omega) (by omega) (by omega), fun q hq => ?_⟩, ⟨?_, ?_, ?_, ?_, ?_⟩, ⟨?_, fun _ _ => 0, fun l f => ?_, fun _ _ _ _ => rfl, ?_, ?_⟩, z _ _ (by omega) (by omega) (by omega)⟩
  · simp only [z 87 i (by omega) (by omega) (by omega), z 88 i (by omega) (by omega) (by omega), z 89 i (by omega) (by omega) (by omega), z 2 i (by omega) (by omega) (by omega), z 3 i (by omega) (by omega) (by omega), z 4 i (by omega) (by omega) (by omega)]
    simp
  · simp only [z 84 i (by omega) (by omega) (by omega), z 5 i (by omega) (by omega) (by omega)]
    simp
  · unfold IN
    simp only [z 84 _ (by omega) (by omega) (by omega), z 1 _ (by omega) (by omega) (by omega)]
    simp
  · unfold IK
    simp only [z 83 58 (by omega) (by omega) (by omega), z 1 9 (by omega) (by omega) (by omega)]
    exact ⟨trivial, Or.inl trivial, fun y => absurd y (by decide)⟩
  · refine ⟨?_, ?_, ?_, ?_, ?_, ⟨0, by omega, z _ _ (by omega) (by omega) (by omega), z _ _ (by omega) (by omega) (by omega), fun j hj => absurd hj (by omega)⟩⟩
    · rw [E 20 q (by omega)]; exact x20 q hq
    · rw [z _ _ (by omega) (by omega) (by omega)]; omega
    · rw [z _ _ (by omega) (by omega) (by omega)]; omega
    · rw [z _ _ (by omega) (by omega) (by omega)]; simp
    · rw [z (21 + 4 * q) _ (by omega) (by omega) (by omega)]; intro y; omega
  · intro p _
    rw [z8, z 90 p (by omega) (by omega) (by omega)]
  · rw [z8]; exact rok
  · rw [z8, z 7 3 (by omega) (by omega) (by omega)]; rfl
  · intro i j hi hj
    rw [E 10 _ (by omega), x10, z8]
    by_cases e : i = j
    · subst e
      rw [FWX_d, if_neg (by omega), if_pos (by decide)]
    · rw [((FW_XM rok 14 (by omega) i j hi hj).2 (by simp)).2 e, if_pos (by omega), if_neg (by decide)]
  · intro i j hi hj
    rw [W i j hi hj, bsC_M, z8]
    rw [show hX0 90 = fun _ => 0 from funext fun p => x0 90 p (by omega) (by omega)]
  · rw [z 83 24 (by omega) (by omega) (by omega), z 11 4 (by omega) (by omega) (by omega)]
  · unfold most
    split <;> simp
  · intro h' l hg _
    have e4 : h' 11 4 = 0 := by rw [hg.2]; exact z 11 4 (by omega) (by omega) (by omega)
    refine ⟨h', ?_, fun _ _ _ => rfl⟩
    unfold F_X2_ask
    obtain ⟨M, rfl⟩ : ∃ M, N = M + 1 := ⟨N - 1, by omega⟩
    unfold L_X2_ask_2
    rw [e4, if_pos (by decide)]
  · intro h' l hg _
    have e4 : h' 83 24 = 0 := by rw [hg.2]; exact z 83 24 (by omega) (by omega) (by omega)
    refine ⟨h', ?_, fun _ _ _ => rfl⟩
    unfold F_X12_byLaw
    obtain ⟨M, rfl⟩ : ∃ M, N = M + 1 := ⟨N - 1, by omega⟩
    unfold L_X12_byLaw_2
    rw [e4, if_pos (by decide)]
