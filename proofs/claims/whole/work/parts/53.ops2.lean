/-! CALLS OVER THE TAPE -/
theorem byte255 : ∀ b : Nat, b < 256 → iand (if (b : Int) < 128 then (b : Int) else (b : Int) - 256) 255 = (b : Int) := by decide +kernel
/-- the reference's byte, as the class has it -/
theorem tp_and {h : Hp} {n j : Nat} (ht : ∀ j, j < n → 0 ≤ h 42 j ∧ h 42 j ≤ 255 ∧ h 96 j = (if h 42 j < 128 then h 42 j else h 42 j - 256)) (hj : j < n) : iand (h 96 j) 255 = h 42 j := by
  obtain ⟨h1, h2, h3⟩ := ht j hj
  obtain ⟨b, hb⟩ : ∃ b : Nat, h 42 j = (b : Int) := ⟨(h 42 j).toNat, by omega⟩
  rw [h3, hb]
  exact byte255 b (by omega)
theorem s_at {N n : Nat} {h : Hp} {i : Int} (e : h 41 1 = (n : Int)) (hn : n ≤ 260) (hi : 0 ≤ i ∧ i < n) : F_X10_at N i h = some (h 42 i.toNat, h) := by
  unfold F_X10_at
  rw [if_neg (by omega), if_neg (by omega), grd_t ⟨by omega, by omega⟩]
theorem s_pairAt {N n : Nat} {h : Hp} {i : Int} (e : h 41 1 = (n : Int)) (hn : n ≤ 260) (hi : 0 ≤ i ∧ i + 1 < n) (hb : ∀ j, j < n → 0 ≤ h 42 j ∧ h 42 j ≤ 255) : F_X10_pairAt N i h = some (h 42 i.toNat * 256 + h 42 (i.toNat + 1), h) := by
  unfold F_X10_pairAt
  have b1 := hb i.toNat (by omega)
  have b2 := hb (i.toNat + 1) (by omega)
  rw [s_at e hn ⟨by omega, by omega⟩, bd_s, w32_id (x := i + 1) ⟨by omega, by omega⟩, s_at e hn ⟨by omega, by omega⟩, bd_s, w32_id (x := _ * 256) ⟨by omega, by omega⟩, show (i + 1).toNat = i.toNat + 1 by omega, w32_id ⟨by omega, by omega⟩]
theorem s_depthOf {N : Nat} {h : Hp} {i : Nat} (hi : i < 14) : F_X1_depthOf N (i : Int) h = some (h 5 i, h) := by
  unfold F_X1_depthOf
  rw [if_neg (by omega), if_neg (by omega), grd_t ⟨by omega, by omega⟩, Int.toNat_natCast]
theorem s_holds {N n : Nat} {h : Hp} {x : Int} (e : h 41 1 = (n : Int)) : F_X10_holds N x h = some (if x ≤ n then 1 else 0, h) := by
  unfold F_X10_holds
  rw [e]
  by_cases q : (n : Int) < x
  · rw [if_pos q, if_neg (by omega)]
  · rw [if_neg q, if_pos (by omega)]
theorem ck_loop {N t n : Nat} {h g : Hp} (ht : t < 16384) (hn : n ≤ 260) (e : h 41 1 = (n : Int)) (hb : ∀ j, j < n → 0 ≤ h 42 j ∧ h 42 j ≤ 255 ∧ h 96 j = (if h 42 j < 128 then h 42 j else h 42 j - 256)) (hd : ∀ i, i < 14 → h 84 i = h 5 i ∧ (t.testBit i = false → h 5 i = 0)) (g96 : g 96 = h 96) (g84 : g 84 = h 84) (g12 : g 83 12 = (t : Int)) (k : Nat) (hk : k ≤ 14 ∧ 2 * k ≤ n) :
    ∀ d i n1 n2 : Nat, i + d = k → d < n1 → d < n2 → ∃ r, L_X11_check_30 N n1 (k : Int) (-1) (i : Int) h = some (r, hw h 41 1 0) ∧ L_X12_check_30 N n2 (k : Int) (i : Int) g = some (r, g)
  | d, i, 0, _, _, h1, _ => absurd h1 (by omega)
  | d, i, _, 0, _, _, h2 => absurd h2 (by omega)
  | 0, i, n1 + 1, n2 + 1, hi, _, _ => by
    refine ⟨-1, ?_, ?_⟩
    · unfold L_X11_check_30
      rw [if_pos (by omega)]
      unfold J_X11_check_69 F_X10_clear
      rw [bnd_s, bv_s]
    · unfold L_X12_check_30
      rw [if_pos (by omega)]
  | d + 1, i, n1 + 1, n2 + 1, hi, h1, h2 => by
    have hb2 : ∀ j, j < n → 0 ≤ h 42 j ∧ h 42 j ≤ 255 := fun j hj => ⟨(hb j hj).1, (hb j hj).2.1⟩
    have b1 := hb2 (2 * i) (by omega)
    have b2 := hb2 (2 * i + 1) (by omega)
    have e2 : w32 (2 * (i : Int)) = ((2 * i : Nat) : Int) := by rw [w32_id ⟨by omega, by omega⟩]; omega
    have em : w32 (w32 (iand (g 96 (w32 (2 * (i : Int))).toNat) 255 * 256) + iand (g 96 (w32 (w32 (2 * (i : Int)) + 1)).toNat) 255) = h 42 (2 * i) * 256 + h 42 (2 * i + 1) := by
      rw [g96, e2, w32_id (x := ((2 * i : Nat) : Int) + 1) ⟨by omega, by omega⟩, Int.toNat_natCast, show (((2 * i : Nat) : Int) + 1).toNat = 2 * i + 1 by omega, tp_and hb (by omega), tp_and hb (by omega), w32_id (x := _ * 256) ⟨by omega, by omega⟩, w32_id ⟨by omega, by omega⟩]
    have hm : ∃ v, L_X12_check_30 N (n2 + 1) (k : Int) (i : Int) g = J_X12_check_86 N (L_X12_check_30 N n2) (k : Int) (i : Int) (h 42 (2 * i) * 256 + h 42 (2 * i + 1)) v g ∧ v = h 5 i := by
      conv => enter [1, v, 1, 1]; unfold L_X12_check_30
      rw [if_neg (by omega), em, e2, grd_t ⟨by omega, by omega⟩, w32_id (x := ((2 * i : Nat) : Int) + 1) ⟨by omega, by omega⟩, grd_t ⟨by omega, by omega⟩, s_isStreet ht g12, bd_s]
      by_cases q : isT t (i : Int)
      · rw [if_pos q, if_neg (by decide), w14 ⟨by omega, by omega⟩, grd_t ⟨by omega, by omega⟩, Int.toNat_natCast, g84]
        exact ⟨_, rfl, (hd i (by omega)).1⟩
      · rw [if_neg q, if_pos rfl]
        refine ⟨_, rfl, ((hd i (by omega)).2 ?_).symm⟩
        cases hq : t.testBit i with
        | false => rfl
        | true => exact absurd ⟨by omega, by omega, by rw [Int.toNat_natCast]; exact hq⟩ q
    obtain ⟨v, hm1, rfl⟩ := hm
    have hx : L_X11_check_30 N (n1 + 1) (k : Int) (-1) (i : Int) h = if h 42 (2 * i) * 256 + h 42 (2 * i + 1) = h 5 i then L_X11_check_30 N n1 (k : Int) (-1) ((i + 1 : Nat) : Int) h else L_X11_check_30 N n1 (k : Int) (i : Int) ((i + 1 : Nat) : Int) h := by
      conv => lhs; unfold L_X11_check_30
      rw [if_neg (by omega), if_pos rfl, e2, s_pairAt e hn ⟨by omega, by omega⟩ hb2, bd_s, s_depthOf (by omega), bd_s, Int.toNat_natCast]
      unfold J_X11_check_63
      simp only [bnd_s, inc (show i < 100000000 by omega)]
    rw [hx, hm1]
    unfold J_X12_check_86
    by_cases q : h 42 (2 * i) * 256 + h 42 (2 * i + 1) = h 5 i
    · rw [if_pos q, if_pos q, bnd_s, inc (by omega)]
      exact ck_loop ht hn e hb hd g96 g84 g12 k hk d (i + 1) n1 n2 (by omega) (by omega) (by omega)
    · rw [if_neg q, if_neg q]
      refine ⟨(i : Int), ?_, rfl⟩
      cases n1 with
      | zero => omega
      | succ n1 =>
        unfold L_X11_check_30
        have hend : J_X11_check_69 N (i : Int) h = some ((i : Int), hw h 41 1 0) := by unfold J_X11_check_69 F_X10_clear; rw [bnd_s, bv_s]
        by_cases q2 : (k : Int) ≤ ((i + 1 : Nat) : Int)
        · rw [if_pos q2, hend]
        · rw [if_neg q2, if_neg (by omega), hend]
theorem op_check {N : Nat} (hN : 1000000 ≤ N) : ∀ a1 : Int, inR a1 → Sm (Inv N) (F_X11_check N a1) (F_X12_check N a1) := by
  intro k _ h hok hI
  obtain ⟨t, i1, i2, i3, i4, i5, ⟨n, hn, e1, e2, hb⟩, i7, i8, i9, i10⟩ := id hI
  unfold F_X11_check F_X12_check
  by_cases q1 : 0 ≤ k ∧ k ≤ 14
  · obtain ⟨m, rfl⟩ : ∃ m : Nat, k = (m : Int) := ⟨k.toNat, by omega⟩
    have ew : w32 (2 * (m : Int)) = 2 * (m : Int) := w32_id ⟨by omega, by omega⟩
    by_cases q2 : 2 * (m : Int) ≤ n
    · obtain ⟨g, hg⟩ : ∃ g, g = hw (hw h 41 1 0) 83 15 0 := ⟨_, rfl⟩
      obtain ⟨r, r1, r2⟩ := ck_loop (N := N) (t := t) (h := h) (g := g) i1.1 hn e1 hb (fun i hi => ⟨(i3 i hi).1, (i3 i hi).2.2.2⟩) (by rw [hg, hw_c (by omega), hw_c (by omega)]) (by rw [hg, hw_c (by omega), hw_c (by omega)]) (by rw [hg, hw_ne (by omega), hw_ne (by omega)]; exact i1.2.2) m ⟨by omega, by omega⟩ m 0 N N (by omega) (by omega) (by omega)
      refine ⟨r, hw h 41 1 0, g, ?_, ?_, ?_⟩
      · rw [s_isWithin, bd_s, if_pos q1, if_neg (by decide), s_holds e1, bd_s, ew, if_pos q2, if_neg (by decide)]
        exact r1
      · rw [s_in, bd_s, if_pos q1, if_neg (by decide), ew, hw_ne (by omega), e2, if_pos q2, bnd_s, ← hg]
        exact r2
      · refine hI.clr (fun c j _ hc => ?_) (by rw [hg, hw_ne (by omega), hw_eq]) (by rw [hg, hw_eq])
        unfold tpx at hc
        rw [hg, hw_ne (by omega), hw_ne (by omega)]
    · refine ⟨-2, h, h, ?_, ?_, hI⟩
      · rw [s_isWithin, bd_s, if_pos q1, if_neg (by decide), s_holds e1, bd_s, ew, if_neg q2, if_pos rfl]
      · rw [s_in, bd_s, if_pos q1, if_neg (by decide), ew, e2, if_neg q2]
  · refine ⟨-2, h, h, ?_, ?_, hI⟩
    · rw [s_isWithin, bd_s, if_neg q1, if_pos rfl]
    · rw [s_in, bd_s, if_neg q1, if_pos rfl]
