/-! LOADS, AND WHAT IS FED -/
theorem ld_in {N L : Nat} {g : Hp} {f : Nat → Int} (hL : L ≤ 260) {u n : Nat} (hu : u < 2147483648) (hn : n ≤ 8) (ha : 2 * n ≤ L) (hb : ∀ j, j < L → 0 ≤ f j ∧ f j ≤ 255 ∧ iand (g 96 j) 255 = f j) (k : Int → Int → Int → Int → Int → Int → Int → Int → Hp → Option (Int × Hp)) (x2 x3 x4 x5 : Int) :
    ∀ q p : Nat, p ≤ n → n - p < q → L_X12_load_75 N k q (n : Int) x2 x3 x4 x5 (u : Int) (sm (bF (fun p => f (2 * p)) u) p) (sm (bF (fun p => f (2 * p + 1)) u) p) (p : Int) g = k (n : Int) x2 x3 x4 x5 (u : Int) (sm (bF (fun p => f (2 * p)) u) n) (sm (bF (fun p => f (2 * p + 1)) u) n) g
  | 0, p, _, hf => absurd hf (by omega)
  | q + 1, p, hp, hf => by
    unfold L_X12_load_75
    by_cases c : p = n
    · subst c; rw [if_pos (by omega)]
    · have hs := sm_b (f := bF (fun p => f (2 * p)) u) (M := n) (bF_b (fun k hk => ⟨(hb (2 * k) (by omega)).1, (hb (2 * k) (by omega)).2.1⟩)) p hp
      have hs2 := sm_b (f := bF (fun p => f (2 * p + 1)) u) (M := n) (bF_b (fun k hk => ⟨(hb (2 * k + 1) (by omega)).1, (hb (2 * k + 1) (by omega)).2.1⟩)) p hp
      have hv := hb (2 * p) (by omega)
      have hv2 := hb (2 * p + 1) (by omega)
      have ih := ld_in (N := N) hL hu hn ha hb k x2 x3 x4 x5 q (p + 1) (by omega) (by omega)
      simp only [sm] at ih
      have e2 : w32 (2 * (p : Int)) = ((2 * p : Nat) : Int) := by rw [w32_id ⟨by omega, by omega⟩]; omega
      have e3 : w32 (((2 * p : Nat) : Int) + 1) = ((2 * p + 1 : Nat) : Int) := by rw [w32_id ⟨by omega, by omega⟩]; omega
      rw [if_neg (by omega), s_has hu ⟨by omega, by omega⟩, bd_s, Int.toNat_natCast]
      unfold J_X12_load_110 J_X12_load_144
      simp only [bnd_s, s_has hu (show 0 ≤ (p : Int) ∧ (p : Int) < 31 by omega), bd_s, Int.toNat_natCast, e2, e3]
      by_cases c2 : u.testBit p = true
      · have q1 : btN u p = 1 := btN_1.mpr c2
        have eb : bF (fun p => f (2 * p)) u p = f (2 * p) := by unfold bF; rw [if_pos c2]
        have eb2 : bF (fun p => f (2 * p + 1)) u p = f (2 * p + 1) := by unfold bF; rw [if_pos c2]
        rw [q1, if_neg (by decide), if_neg (by decide), grd_t ⟨by omega, by omega⟩, grd_t ⟨by omega, by omega⟩, hv.2.2, hv2.2.2, w32_id ⟨by omega, by omega⟩, w32_id ⟨by omega, by omega⟩, inc (by omega)]
        rw [eb, eb2] at ih
        exact ih
      · have q0 : btN u p = 0 := by unfold btN; rw [if_neg c2]
        have eb : bF (fun p => f (2 * p)) u p = 0 := by unfold bF; rw [if_neg c2]
        have eb2 : bF (fun p => f (2 * p + 1)) u p = 0 := by unfold bF; rw [if_neg c2]
        rw [q0, if_pos rfl, if_pos rfl, Int.add_zero, Int.add_zero, w32_id ⟨by omega, by omega⟩, w32_id ⟨by omega, by omega⟩, inc (by omega)]
        rw [eb, eb2, Int.add_zero, Int.add_zero] at ih
        exact ih
theorem ld_loop {N L : Nat} (hN : 1000000 ≤ N) {h g : Hp} (e : h 41 1 = (L : Int)) (hL : L ≤ 260) {n : Nat} (hn : 1 ≤ n ∧ n ≤ 8) (ha : 2 * n ≤ L) (hb : ∀ j, j < L → 0 ≤ h 42 j ∧ h 42 j ≤ 255) (hg : ∀ j, j < L → iand (g 96 j) 255 = h 42 j) (x2 x3 : Int) :
    ∀ (d u n1 n2 : Nat) (most best : Int), u + d = 2 ^ n → d < n1 → d < n2 →
      ∃ r, L_X11_load_56 N n1 (n : Int) x2 x3 most best (u : Int) h = some (r, hw h 41 1 0) ∧ L_X12_load_58 N n2 (n : Int) x2 x3 best most (u : Int) g = some (r, g)
  | d, u, 0, _, _, _, _, h1, _ => absurd h1 (by omega)
  | d, u, _, 0, _, _, _, _, h2 => absurd h2 (by omega)
  | 0, u, n1 + 1, n2 + 1, most, best, hu, _, _ => by
    have ep : ishl 1 (n : Int) = ((2 ^ n : Nat) : Int) := ishl_1 (by omega)
    unfold L_X11_load_56 L_X12_load_58
    rw [ep, if_pos (by omega), if_pos (by omega)]
    unfold F_X10_clear
    rw [bnd_s, bv_s]
    by_cases q0 : x3 = 0
    · exact ⟨_, by rw [if_pos q0], by rw [if_pos q0]⟩
    · exact ⟨_, by rw [if_neg q0], by rw [if_neg q0]⟩
  | d + 1, u, n1 + 1, n2 + 1, most, best, hu, h1, h2 => by
    have ep : ishl 1 (n : Int) = ((2 ^ n : Nat) : Int) := ishl_1 (by omega)
    have hp : (2 : Nat) ^ n ≤ 2 ^ 8 := Nat.pow_le_pow_right (by decide) hn.2
    have huP : u < 2 ^ n := by omega
    have hu8 : u < 256 := Nat.lt_of_lt_of_le huP hp
    have ih := fun a2 b2 => ld_loop hN e hL hn ha hb hg x2 x3 d (u + 1) n1 n2 a2 b2 (by omega) (by omega) (by omega)
    have hub : u < 2147483648 := Nat.lt_trans hu8 (by decide)
    have es := s_sumOf hN e hL (u := u) (a := 0) (st := 2) (n := n) hub (by omega) (fun p hp => by omega) hb
    have es2 := s_sumOf hN e hL (u := u) (a := 1) (st := 2) (n := n) hub (by omega) (fun p hp => by omega) hb
    have ef : (fun p => h 42 (0 + p * 2)) = fun p => h 42 (2 * p) := by funext p; congr 1; omega
    have ef2 : (fun p => h 42 (1 + p * 2)) = fun p => h 42 (2 * p + 1) := by funext p; congr 1; omega
    rw [ef] at es
    rw [ef2] at es2
    have es : F_X10_sumOf N (u : Int) 0 2 (n : Int) h = some (sm (bF (fun p => h 42 (2 * p)) u) n, h) := es
    have es2 : F_X10_sumOf N (u : Int) 1 2 (n : Int) h = some (sm (bF (fun p => h 42 (2 * p + 1)) u) n, h) := es2
    have e0 := fun k a1 a2 => ld_in (N := N) (g := g) (f := h 42) hL (u := u) (n := n) hub hn.2 ha (fun j hj => ⟨(hb j hj).1, (hb j hj).2, hg j hj⟩) k x2 x3 a1 a2 N 0 (by omega) (by omega)
    simp only [sm] at e0
    rw [show ((0 : Nat) : Int) = 0 from rfl] at e0
    unfold L_X11_load_56 L_X12_load_58
    rw [ep, if_neg (by omega), if_neg (by omega), es, bd_s, es2, bd_s, e0]
    have hu1 : w32 ((u : Int) + 1) = ((u + 1 : Nat) : Int) := inc (Nat.lt_trans hu8 (by decide))
    unfold J_X11_load_109 J_X12_load_177
    simp only [bnd_s, hu1]
    by_cases q : sm (bF (fun p => h 42 (2 * p)) u) n = x2
    · rw [if_pos q, if_pos q]
      by_cases q2 : sm (bF (fun p => h 42 (2 * p + 1)) u) n ≤ most
      · rw [if_pos q2, if_neg (by omega)]
        exact ih most best
      · rw [if_neg q2, if_pos (by omega)]
        exact ih _ _
    · rw [if_neg q, if_neg q]
      exact ih most best
theorem op_load {N : Nat} (hN : 1000000 ≤ N) : ∀ a1 : Int, inR a1 → ∀ a2 : Int, inR a2 → ∀ a3 : Int, inR a3 → Sm (Inv N) (F_X11_load N a1 a2 a3) (F_X12_load N a1 a2 a3) := by
  intro k _ x _ w _ h hok hI
  obtain ⟨t, i1, i2, i3, i4, i5, ⟨n, hn, e1, e2, hb⟩, i7, i8, i9, i10⟩ := id hI
  unfold F_X11_load F_X12_load
  simp only [s_isWithin, s_in, bd_s, s_holds e1, e2]
  by_cases q1 : 1 ≤ k ∧ k ≤ 8
  · have ew : w32 (2 * k) = 2 * k := w32_id ⟨by omega, by omega⟩
    simp only [ew]
    by_cases q2 : 0 ≤ x ∧ x ≤ 999
    · by_cases q3 : 0 ≤ w ∧ w ≤ 1
      · by_cases q4 : 2 * k ≤ (n : Int)
        · obtain ⟨m, rfl⟩ : ∃ m : Nat, k = (m : Int) := ⟨k.toNat, by omega⟩
          obtain ⟨g, hg⟩ : ∃ g, g = hw (hw h 41 1 0) 83 15 0 := ⟨_, rfl⟩
          have hp : (2 : Nat) ^ m ≤ 2 ^ 8 := Nat.pow_le_pow_right (by decide) (by omega)
          have hp2 : (2 : Nat) ^ m < N := Nat.lt_of_le_of_lt hp (Nat.lt_of_lt_of_le (by decide) hN)
          obtain ⟨r, r1, r2⟩ := ld_loop hN (h := h) (g := g) e1 hn (n := m) ⟨by omega, by omega⟩ (by omega) (fun j hj => ⟨(hb j hj).1, (hb j hj).2.1⟩) (fun j hj => by rw [hg, hw_c (by omega), hw_c (by omega)]; exact tp_and hb hj) x w (2 ^ m) 0 N N (-2) (-2) (by omega) hp2 hp2
          refine ⟨r, hw h 41 1 0, g, ?_, ?_, ?_⟩
          · simp only [if_pos q1, if_pos q2, if_pos q3, if_pos q4, if_neg (show ¬ (1 : Int) = 0 by decide)]
            exact r1
          · have e15 : hw h 41 1 0 83 15 = (n : Int) := by rw [hw_ne (by omega)]; exact e2
            simp only [e15, if_pos q1, if_pos q2, if_pos q3, if_pos q4, if_neg (show ¬ (1 : Int) = 0 by decide), bnd_s, ← hg]
            exact r2
          · refine hI.clr (fun c j _ hc => ?_) (by rw [hg, hw_ne (by omega), hw_eq]) (by rw [hg, hw_eq])
            unfold tpx at hc
            rw [hg, hw_ne (by omega), hw_ne (by omega)]
        · refine ⟨-1, h, h, ?_, ?_, hI⟩
          · simp only [if_pos q1, if_pos q2, if_pos q3, if_neg q4, if_neg (show ¬ (1 : Int) = 0 by decide), if_true]
          · simp only [e2, if_pos q1, if_pos q2, if_pos q3, if_neg q4, if_neg (show ¬ (1 : Int) = 0 by decide)]
      · refine ⟨-1, h, h, ?_, ?_, hI⟩ <;> simp only [if_pos q1, if_pos q2, if_neg q3, if_neg (show ¬ (1 : Int) = 0 by decide), if_true]
    · refine ⟨-1, h, h, ?_, ?_, hI⟩ <;> simp only [if_pos q1, if_neg q2, if_neg (show ¬ (1 : Int) = 0 by decide), if_true]
  · refine ⟨-1, h, h, ?_, ?_, hI⟩ <;> simp only [if_neg q1, if_true]
