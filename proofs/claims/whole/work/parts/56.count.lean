/-! COUNT -/
theorem s_isToldCart {N c : Nat} {k : Int} {h : Hp} (hc : ∀ q, q < 5 → ICk h c q) : F_X11_isToldCart N k h = some (if 0 ≤ k ∧ k ≤ 4 ∧ c.testBit k.toNat = true then 1 else 0, h) := by
  unfold F_X11_isToldCart
  rw [s_cartAt hc, bd_s]
  by_cases q : 0 ≤ k ∧ k ≤ 4
  · have d := (hc k.toNat (by omega)).2.2.2.1
    rw [if_pos q, if_neg (by omega), grd_t (cartR_n (by omega)), show 22 + 4 * k.toNat - 1 = 21 + 4 * k.toNat by omega]
    unfold F_X0_isTold
    by_cases q2 : c.testBit k.toNat = true
    · rw [if_neg (by have := d.mp q2; omega), bd_s, if_neg (by decide), if_pos ⟨q.1, q.2, q2⟩]
    · rw [if_pos (Int.not_lt.mp (fun z => q2 (d.mpr z))), bd_s, if_pos rfl, if_neg (fun z => q2 z.2.2)]
  · rw [if_neg q, if_pos rfl, if_neg (fun z => q ⟨z.1, z.2.1⟩)]
theorem s_isCart {N c : Nat} {k : Int} {h : Hp} (hc : c < 32) (e : h 83 13 = (c : Int)) : F_X12_isCart N k h = some (if 0 ≤ k ∧ k ≤ 4 ∧ c.testBit k.toNat = true then 1 else 0, h) := by
  unfold F_X12_isCart
  by_cases h1 : k < 0
  · rw [if_pos h1, if_neg (by omega)]
  · rw [if_neg h1]
    by_cases h2 : 5 ≤ k
    · rw [if_pos h2, if_neg (by omega)]
    · rw [if_neg h2, e, s_has (by omega) (by omega), bd_s]
      by_cases q2 : c.testBit k.toNat = true
      · rw [if_neg (by rw [btN_1.mpr q2]; decide), if_pos ⟨by omega, by omega, q2⟩]
      · rw [if_pos (by rcases btN_01 c k.toNat with z | z; exact z; exact absurd (btN_1.mp z) q2), if_neg (fun z => q2 z.2.2)]
theorem tc_or : ∀ c, c < 32 → ∀ k, k < 5 → (if c.testBit k = true then c % 2 ^ k ||| 2 ^ k else c % 2 ^ k) = c % 2 ^ (k + 1) := by decide +kernel
theorem l_toldCarts {N c : Nat} {h : Hp} (hc : c < 32) (hk : ∀ q, q < 5 → ICk h c q) : ∀ n k : Nat, k ≤ 5 → 5 - k < n → L_X11_toldCarts_4 N n ((c % 2 ^ k : Nat) : Int) (k : Int) h = some ((c : Int), h)
  | 0, k, _, hf => absurd hf (by omega)
  | n + 1, k, hk5, hf => by
    unfold L_X11_toldCarts_4
    by_cases q : k = 5
    · subst q; rw [if_pos (by omega), Nat.mod_eq_of_lt (show c < 2 ^ 5 from hc)]
    · have ih := l_toldCarts (N := N) hc hk n (k + 1) (by omega) (by omega)
      rw [← tc_or c hc k (by omega)] at ih
      have hb : c % 2 ^ k < 2147483648 := Nat.lt_of_le_of_lt (Nat.mod_le _ _) (by omega)
      have hp : (2 : Nat) ^ k < 2147483648 := Nat.lt_of_lt_of_le (Nat.pow_lt_pow_right (by decide) (show k < 5 by omega)) (by decide)
      rw [if_neg (by omega), s_isToldCart hk, bd_s, Int.toNat_natCast]
      unfold J_X11_toldCarts_23
      by_cases q2 : c.testBit k = true
      · rw [if_pos (show 0 ≤ (k : Int) ∧ (k : Int) ≤ 4 ∧ c.testBit k = true from ⟨by omega, by omega, q2⟩), if_neg (by decide), bnd_s, bnd_s, ishl_1 (by omega), ior_nat hb hp, inc (by omega)]
        rw [if_pos q2] at ih
        exact ih
      · rw [if_neg (show ¬ (0 ≤ (k : Int) ∧ (k : Int) ≤ 4 ∧ c.testBit k = true) from fun z => q2 z.2.2), if_pos rfl, bnd_s, inc (by omega)]
        rw [if_neg q2] at ih
        exact ih
theorem s_toldCarts {N c : Nat} (hN : 1000000 ≤ N) {h : Hp} (hc : c < 32) (hk : ∀ q, q < 5 → ICk h c q) : F_X11_toldCarts N h = some ((c : Int), h) := by
  have := l_toldCarts (N := N) hc hk N 0 (by omega) (by omega)
  rw [show c % 2 ^ 0 = 0 by omega] at this
  exact this
theorem sm_l (f : Nat → Int) : ∀ n, sm f n = ((List.range n).map f).sum
  | 0 => rfl
  | n + 1 => by simp [sm, List.range_succ, sm_l f n]
def rd1 (r : Nat → Int) (i j : Nat) : Int := if 0 < r (14 * i + j) then 1 else 0
theorem rdc_sm (r : Nat → Int) : rdCount r = sm (fun i => sm (rd1 r i) i) 14 := by
  rw [sm_l]
  unfold rdCount
  congr 2
  funext i
  rw [sm_l]
  rfl
theorem rd1_b (r : Nat → Int) (i : Nat) : ∀ k, k < 14 → 0 ≤ rd1 r i k ∧ rd1 r i k ≤ 100000 := fun k _ => by unfold rd1; split <;> omega
theorem l_rm1 {N : Nat} {h : Hp} {i : Nat} (hi : i < 14) (b : Int) (hb : 0 ≤ b ∧ b ≤ 100000000) (k : Int → Int → Hp → Option (Int × Hp)) : ∀ n j : Nat, j ≤ i → i - j < n → L_X12_roadMany_12 N k n (b + sm (rd1 (h 90) i) j) (i : Int) (j : Int) h = k (b + sm (rd1 (h 90) i) i) (i : Int) h
  | 0, j, _, hf => absurd hf (by omega)
  | n + 1, j, hj, hf => by
    unfold L_X12_roadMany_12
    by_cases q : j = i
    · subst q; rw [if_pos (by omega)]
    · have ih := l_rm1 (N := N) (h := h) hi b hb k n (j + 1) (by omega) (by omega)
      have hs := sm_b (rd1_b (h 90) i) j (by omega)
      simp only [sm] at ih
      rw [if_neg (by omega), w32_id (x := 14 * (i : Int)) ⟨by omega, by omega⟩, w32_id (x := 14 * (i : Int) + j) ⟨by omega, by omega⟩, grd_t ⟨by omega, by omega⟩, show (14 * (i : Int) + j).toNat = 14 * i + j by omega]
      unfold J_X12_roadMany_37
      by_cases q2 : h 90 (14 * i + j) ≤ 0
      · have e : rd1 (h 90) i j = 0 := by unfold rd1; rw [if_neg (by omega)]
        rw [if_pos q2, bnd_s, bnd_s, inc (by omega), w32_id ⟨by omega, by omega⟩, Int.add_assoc, ← e]
        exact ih
      · have e : rd1 (h 90) i j = 1 := by unfold rd1; rw [if_pos (by omega)]
        rw [if_neg q2, bnd_s, bnd_s, inc (by omega), w32_id ⟨by omega, by omega⟩, Int.add_assoc, ← e]
        exact ih
theorem l_rm {N : Nat} (hN : 1000000 ≤ N) {h : Hp} : ∀ n i : Nat, i ≤ 14 → 14 - i < n → L_X12_roadMany_4 N n (sm (fun i => sm (rd1 (h 90) i) i) i) (i : Int) h = some (sm (fun i => sm (rd1 (h 90) i) i) 14, h)
  | 0, j, _, hf => absurd hf (by omega)
  | n + 1, i, hi, hf => by
    unfold L_X12_roadMany_4
    by_cases q : i = 14
    · subst q; rw [if_pos (by omega)]
    · have ih := l_rm hN (h := h) n (i + 1) (by omega) (by omega)
      have hs1 : ∀ k, k < 14 → 0 ≤ sm (rd1 (h 90) k) k ∧ sm (rd1 (h 90) k) k ≤ 100000 := fun k hk => by
        have : ∀ j, j ≤ 14 → 0 ≤ sm (rd1 (h 90) k) j ∧ sm (rd1 (h 90) k) j ≤ (j : Int) := by
          intro j
          induction j with
          | zero => intro _; simp [sm]
          | succ j ih =>
            intro hj
            have := ih (by omega)
            have q := rd1_b (h 90) k j (by omega)
            have q2 : rd1 (h 90) k j ≤ 1 := by unfold rd1; split <;> omega
            simp only [sm]
            omega
        have := this k (by omega)
        omega
      have hs := sm_b hs1 i (by omega)
      have e := l_rm1 (N := N) (h := h) (i := i) (by omega) (sm (fun i => sm (rd1 (h 90) i) i) i) (by omega)
      rw [if_neg (by omega)]
      have e2 := e (fun v1 v2 h3 => bnd (w32 (v2 + 1)) fun y4 => (L_X12_roadMany_4 N n) v1 y4 h3) N 0 (by omega) (by omega)
      simp only [sm, Int.add_zero] at e2
      refine e2.trans ?_
      rw [bnd_s, inc (by omega)]
      exact ih
theorem s_roadMany {N : Nat} (hN : 1000000 ≤ N) {h : Hp} : F_X12_roadMany N h = some (rdCount (h 90), h) := by
  rw [rdc_sm]
  exact l_rm hN N 0 (by omega) (by omega)
theorem rdc_c {r s : Nat → Int} (e : ∀ p, p < 196 → r p = s p) : rdCount r = rdCount s := by
  rw [rdc_sm, rdc_sm]
  refine sm_c (fun i hi => sm_c (fun j hj => ?_))
  unfold rd1
  rw [e _ (by omega)]
theorem op_count {N : Nat} (hN : 1000000 ≤ N) : ∀ a1 : Int, inR a1 → Sm (Inv N) (F_X11_count N a1) (F_X12_count N a1) := by
  intro a ra h hok hI
  obtain ⟨t, i1, i2, i3, i4, i5, ⟨n, hn, e1, e2, hb⟩, ⟨c, hc, c1, c2⟩, i8, i9, i10⟩ := id hI
  have ht := i1.1
  unfold inR at ra
  unfold F_X11_count F_X12_count F_X1_night F_X1_slept F_X1_swept F_X1_toldStreets F_X2_clauses_v2 F_X10_length F_X7_howMany
  have e14 : (14 : Int).toNat = 14 := rfl
  have e15 : (15 : Int).toNat = 15 := rfl
  have e16 : (16 : Int).toNat = 16 := rfl
  simp only [e14, e15, e16, s_toldCarts hN hc c2, s_roadMany hN, bd_s]
  obtain ⟨n1, n2, n3, n4, n5⟩ := i4
  by_cases q10 : a < 10
  · by_cases p0 : a = 0
    · exact ⟨h 1 5, h, h, by subst p0; rfl, by rw [if_pos p0, n1], hI⟩
    by_cases p1 : a = 1
    · exact ⟨h 1 6, h, h, by subst p1; rfl, by rw [if_neg p0, if_pos p1, n4], hI⟩
    by_cases p2 : a = 2
    · exact ⟨h 1 7, h, h, by subst p2; rfl, by rw [if_neg p0, if_neg p1, if_pos p2, n5], hI⟩
    by_cases p3 : a = 3
    · exact ⟨h 1 4, h, h, by subst p3; rfl, by rw [if_neg p0, if_neg p1, if_neg p2, if_pos p3, i1.2.1, i1.2.2], hI⟩
    by_cases p4 : a = 4
    · exact ⟨(c : Int), h, h, by subst p4; rfl, by rw [if_neg p0, if_neg p1, if_neg p2, if_neg p3, if_pos p4, c1], hI⟩
    by_cases p5 : a = 5
    · exact ⟨h 11 4, h, h, by subst p5; rfl, by rw [if_neg p0, if_neg p1, if_neg p2, if_neg p3, if_neg p4, if_pos p5, i9.1], hI⟩
    by_cases p6 : a = 6
    · exact ⟨h 41 1, h, h, by subst p6; rfl, by rw [if_neg p0, if_neg p1, if_neg p2, if_neg p3, if_neg p4, if_neg p5, if_pos p6, e1, e2], hI⟩
    by_cases p7 : a = 7
    · refine ⟨h 7 3, h, h, by subst p7; rfl, ?_, hI⟩
      rw [if_neg p0, if_neg p1, if_neg p2, if_neg p3, if_neg p4, if_neg p5, if_neg p6, if_pos p7, i8.2.2.1, rdc_c i8.1]
    · refine ⟨-1, h, h, ?_, ?_, hI⟩
      · rw [if_pos (by omega), if_pos (by omega), if_pos q10, if_neg p0, if_neg p1, if_neg p2, if_neg p3, if_neg p4, if_neg p5, if_neg p6, if_neg p7]
      · unfold J_X12_count_159
        simp only [s_in, bd_s]
        rw [if_neg p0, if_neg p1, if_neg p2, if_neg p3, if_neg p4, if_neg p5, if_neg p6, if_neg p7, if_neg (show ¬ (10 ≤ a ∧ a ≤ 89) by omega), if_pos rfl, if_neg (show ¬ (90 ≤ a ∧ a ≤ 94) by omega), if_pos rfl, if_neg (show ¬ (100 ≤ a ∧ a ≤ 104) by omega), if_pos rfl]
  · by_cases q90 : a < 90
    · have ew : w32 (a - 10) = a - 10 := w32_id ⟨by omega, by omega⟩
      have eX : F_X11_countOfStreet N a h = some (if isT t ((a - 10) % 20) then (if a < 30 then h 2 ((a - 10) % 20).toNat else if a < 50 then h 3 ((a - 10) % 20).toNat else if a < 70 then h 4 ((a - 10) % 20).toNat else h 5 ((a - 10) % 20).toNat) else -1, h) := by
        have key : ∀ b : Int, (∀ F : Hp → Option (Int × Hp), (0 ≤ b ∧ b < 14 → F h = some ((if a < 30 then h 2 b.toNat else if a < 50 then h 3 b.toNat else if a < 70 then h 4 b.toNat else h 5 b.toNat), h)) → (bd (F_X1_isTold N b h) fun y2 h1 => if y2 = 0 then some ((-1), h1) else bd (F h1) fun y4 h3 => some (y4, h3)) = some (if isT t b then (if a < 30 then h 2 b.toNat else if a < 50 then h 3 b.toNat else if a < 70 then h 4 b.toNat else h 5 b.toNat) else -1, h)) := by
          intro b F hF
          rw [s_isTold ht i1.2.1, bd_s]
          by_cases q : isT t b
          · rw [if_pos q, if_neg (by decide), if_pos q, hF ⟨q.1, q.2.1⟩, bd_s]
          · rw [if_neg q, if_pos rfl, if_neg q]
        unfold F_X11_countOfStreet
        by_cases b1 : 30 ≤ a
        · rw [if_pos b1]
          by_cases b2 : 50 ≤ a
          · rw [if_pos b2]
            by_cases b3 : 70 ≤ a
            · rw [if_pos b3, w32_id ⟨by omega, by omega⟩, show (a - 10) % 20 = a - 70 by omega]
              refine key (a - 70) (fun h1 => F_X1_depthOf N (a - 70) h1) (fun q => ?_)
              unfold F_X1_depthOf
              rw [if_neg (by omega), if_neg (by omega), grd_t q, if_neg (by omega), if_neg (by omega), if_neg (by omega)]
            · rw [if_neg b3, w32_id ⟨by omega, by omega⟩, show (a - 10) % 20 = a - 50 by omega]
              refine key (a - 50) (fun h1 => F_X1_starsOf N (a - 50) h1) (fun q => ?_)
              unfold F_X1_starsOf
              rw [if_neg (by omega), if_neg (by omega), grd_t q, if_neg (by omega), if_neg (by omega), if_pos (by omega)]
          · rw [if_neg b2, w32_id ⟨by omega, by omega⟩, show (a - 10) % 20 = a - 30 by omega]
            refine key (a - 30) (fun h1 => F_X1_lampsOf N (a - 30) h1) (fun q => ?_)
            unfold F_X1_lampsOf
            rw [if_neg (by omega), if_neg (by omega), grd_t q, if_neg (by omega), if_pos (by omega)]
        · rw [if_neg b1, w32_id ⟨by omega, by omega⟩, show (a - 10) % 20 = a - 10 by omega]
          refine key (a - 10) (fun h1 => F_X1_housesOf N (a - 10) h1) (fun q => ?_)
          unfold F_X1_housesOf
          rw [if_neg (by omega), if_neg (by omega), grd_t q, if_pos (by omega)]
      refine ⟨_, h, h, by rw [if_pos (by omega), if_pos q90, if_neg q10, eX, bd_s], ?_, hI⟩
      rw [if_neg (by omega), if_neg (by omega), if_neg (by omega), if_neg (by omega), if_neg (by omega), if_neg (by omega), if_neg (by omega), if_neg (by omega), s_in, bd_s, if_pos (show 10 ≤ a ∧ a ≤ 89 by omega), if_neg (show ¬ (1 : Int) = 0 by decide), ew, irem_pos ⟨by omega, by omega⟩ ⟨by omega, by omega⟩, idiv_pos ⟨by omega, by omega⟩ ⟨by omega, by omega⟩]
      unfold F_X12_streetIs
      rw [s_isStreet ht i1.2.2, bd_s]
      by_cases q : isT t ((a - 10) % 20)
      · obtain ⟨s1, s2, s3⟩ := i2 ((a - 10) % 20).toNat (by omega)
        have s4 := i3 ((a - 10) % 20).toNat (by omega)
        rw [if_pos q, if_neg (by decide), if_pos q]
        by_cases b1 : a < 30
        · rw [if_pos (by omega), grd_t ⟨q.1, q.2.1⟩, bd_s, if_pos b1, s1.1]
        · rw [if_neg (by omega), if_neg b1]
          by_cases b2 : a < 50
          · rw [if_pos (by omega), grd_t ⟨q.1, q.2.1⟩, bd_s, if_pos b2, s2.1]
          · rw [if_neg (by omega), if_neg b2]
            by_cases b3 : a < 70
            · rw [if_pos (by omega), grd_t ⟨q.1, q.2.1⟩, bd_s, if_pos b3, s3.1]
            · rw [if_neg (by omega), if_neg b3, w14 ⟨by omega, by omega⟩, grd_t ⟨q.1, by omega⟩, bd_s, s4.1]
      · rw [if_neg q, if_pos rfl, if_neg q, bd_s]
    · simp only [s_in, bd_s]
      simp only [if_neg q90, if_neg (show ¬ a = 0 by omega), if_neg (show ¬ a = 1 by omega), if_neg (show ¬ a = 2 by omega), if_neg (show ¬ a = 3 by omega), if_neg (show ¬ a = 4 by omega), if_neg (show ¬ a = 5 by omega), if_neg (show ¬ a = 6 by omega), if_neg (show ¬ a = 7 by omega), if_neg (show ¬ (10 ≤ a ∧ a ≤ 89) by omega), if_true]
      by_cases q100 : a < 100
      · rw [if_pos q100, w32_id ⟨by omega, by omega⟩, s_isToldCart c2, bd_s]
        by_cases q : 0 ≤ a - 90 ∧ a - 90 ≤ 4 ∧ c.testBit (a - 90).toNat = true
        · have d := c2 (a - 90).toNat (by omega)
          refine ⟨h (21 + 4 * (a - 90).toNat) 4, h, h, ?_, ?_, hI⟩
          · rw [if_pos q, if_neg (by decide), d.1, Int.toNat_natCast, grd_t ⟨by omega, by omega, by omega⟩, bnd_s, grd_t (cartR_n (by omega))]
            unfold F_X0_room
            rw [bd_s, show 22 + 4 * (a - 90).toNat - 1 = 21 + 4 * (a - 90).toNat by omega]
          · rw [if_pos (show 90 ≤ a ∧ a ≤ 94 by omega), if_neg (by decide), s_isCart hc c1, bd_s, if_pos q, if_neg (by decide), grd_t ⟨by omega, by omega⟩, d.2.2.2.2.1 (d.2.2.2.1.mp q.2.2)]
        · refine ⟨-1, h, h, ?_, ?_, hI⟩
          · rw [if_neg q, if_pos rfl]
          · have hJ : J_X12_count_159 N a h = some (-1, h) := by
              unfold J_X12_count_159
              rw [s_in, bd_s, if_neg (show ¬ (100 ≤ a ∧ a ≤ 104) by omega), if_pos rfl]
            rw [hJ]
            by_cases q5 : 90 ≤ a ∧ a ≤ 94
            · rw [if_pos q5, if_neg (by decide), s_isCart hc c1, bd_s, if_neg q, if_pos rfl]; exact hJ
            · rw [if_neg q5, if_pos rfl]
      · rw [if_neg q100, w32_id ⟨by omega, by omega⟩, s_cartAt c2, bd_s]
        simp only [if_neg (show ¬ (90 ≤ a ∧ a ≤ 94) by omega), if_true]
        unfold J_X12_count_159 F_X0_stops
        by_cases q : 0 ≤ a - 100 ∧ a - 100 ≤ 4
        · have d := (c2 (a - 100).toNat (by omega)).2.2.2.2.2
          obtain ⟨s, d1, d2, d3, -⟩ := d
          refine ⟨(s : Int), h, h, ?_, ?_, hI⟩
          · rw [if_pos q, if_neg (by omega), grd_t (cartR_n (by omega)), bd_s, show 22 + 4 * (a - 100).toNat - 1 = 21 + 4 * (a - 100).toNat by omega, d2]
          · rw [s_in, bd_s, if_pos (show 100 ≤ a ∧ a ≤ 104 by omega), if_neg (by decide), w32_id ⟨by omega, by omega⟩, grd_t ⟨by omega, by omega⟩, d3]
        · refine ⟨-1, h, h, ?_, ?_, hI⟩
          · rw [if_neg q, if_pos rfl]
          · rw [s_in, bd_s, if_neg (show ¬ (100 ≤ a ∧ a ≤ 104) by omega), if_pos rfl]
