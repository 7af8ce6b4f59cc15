/-! CALLS OVER THE TAPE -/
theorem byte255 : ∀ b : Nat, b < 256 → iand (if (b : Int) < 128 then (b : Int) else (b : Int) - 256) 255 = (b : Int) := by decide +kernel
/-- the reference's byte, as the class has it -/
theorem tp_and {h : Hp} {n j : Nat} (ht : ∀ j, j < n → 0 ≤ h 42 j ∧ h 42 j ≤ 255 ∧ h 96 j = (if h 42 j < 128 then h 42 j else h 42 j - 256)) (hj : j < n) : iand (h 96 j) 255 = h 42 j := by
  obtain ⟨h1, h2, h3⟩ := ht j hj
  obtain ⟨b, hb⟩ : ∃ b : Nat, h 42 j = (b : Int) := ⟨(h 42 j).toNat, by omega⟩
  rw [h3, hb]
  exact byte255 b (by omega)
theorem s_at {N n : Nat} {h : Hp} {i : Int} (e : h 41 1 = (n : Int)) (hn : n ≤ 260) (hi : 0 ≤ i ∧ i < n) : F_X10_at N i h = some (h 42 i.toNat, h) := by
  unfold F_X10_at
  rw [if_neg (by omega), if_neg (by omega), grd_t ⟨by omega, by omega⟩]
theorem s_pairAt {N n : Nat} {h : Hp} {i : Int} (e : h 41 1 = (n : Int)) (hn : n ≤ 260) (hi : 0 ≤ i ∧ i + 1 < n) (hb : ∀ j, j < n → 0 ≤ h 42 j ∧ h 42 j ≤ 255) : F_X10_pairAt N i h = some (h 42 i.toNat * 256 + h 42 (i.toNat + 1), h) := by
  unfold F_X10_pairAt
  have b1 := hb i.toNat (by omega)
  have b2 := hb (i.toNat + 1) (by omega)
  rw [s_at e hn ⟨by omega, by omega⟩, bd_s, w32_id (x := i + 1) ⟨by omega, by omega⟩, s_at e hn ⟨by omega, by omega⟩, bd_s, w32_id (x := _ * 256) ⟨by omega, by omega⟩, show (i + 1).toNat = i.toNat + 1 by omega, w32_id ⟨by omega, by omega⟩]
theorem s_depthOf {N : Nat} {h : Hp} {i : Nat} (hi : i < 14) : F_X1_depthOf N (i : Int) h = some (h 5 i, h) := by
  unfold F_X1_depthOf
  rw [if_neg (by omega), if_neg (by omega), grd_t ⟨by omega, by omega⟩, Int.toNat_natCast]
theorem s_holds {N n : Nat} {h : Hp} {x : Int} (e : h 41 1 = (n : Int)) : F_X10_holds N x h = some (if x ≤ n then 1 else 0, h) := by
  unfold F_X10_holds
  rw [e]
  by_cases q : (n : Int) < x
  · rw [if_pos q, if_neg (by omega)]
  · rw [if_neg q, if_pos (by omega)]
theorem ck_loop {N t n : Nat} {h g : Hp} (ht : t < 16384) (hn : n ≤ 260) (e : h 41 1 = (n : Int)) (hb : ∀ j, j < n → 0 ≤ h 42 j ∧ h 42 j ≤ 255 ∧ h 96 j = (if h 42 j < 128 then h 42 j else h 42 j - 256)) (hd : ∀ i, i < 14 → h 84 i = h 5 i ∧ (t.testBit i = false → h 5 i = 0)) (g96 : g 96 = h 96) (g84 : g 84 = h 84) (g12 : g 83 12 = (t : Int)) (k : Nat) (hk : k ≤ 14 ∧ 2 * k ≤ n) :
    ∀ d i n1 n2 : Nat, i + d = k → d < n1 → d < n2 → ∃ r, L_X11_check_30 N n1 (k : Int) (-1) (i : Int) h = some (r, hw h 41 1 0) ∧ L_X12_check_30 N n2 (k : Int) (i : Int) g = some (r, g)
  | d, i, 0, _, _, h1, _ => absurd h1 (by omega)
  | d, i, _, 0, _, _, h2 => absurd h2 (by omega)
  | 0, i, n1 + 1, n2 + 1, hi, _, _ => by
    refine ⟨-1, ?_, ?_⟩
    · unfold L_X11_check_30
      rw [if_pos (by omega)]
      unfold J_X11_check_69 F_X10_clear
      rw [bnd_s, bv_s]
    · unfold L_X12_check_30
      rw [if_pos (by omega)]
  | d + 1, i, n1 + 1, n2 + 1, hi, h1, h2 => by
    have hb2 : ∀ j, j < n → 0 ≤ h 42 j ∧ h 42 j ≤ 255 := fun j hj => ⟨(hb j hj).1, (hb j hj).2.1⟩
    have b1 := hb2 (2 * i) (by omega)
    have b2 := hb2 (2 * i + 1) (by omega)
    have e2 : w32 (2 * (i : Int)) = ((2 * i : Nat) : Int) := by rw [w32_id ⟨by omega, by omega⟩]; omega
    have em : w32 (w32 (iand (g 96 (w32 (2 * (i : Int))).toNat) 255 * 256) + iand (g 96 (w32 (w32 (2 * (i : Int)) + 1)).toNat) 255) = h 42 (2 * i) * 256 + h 42 (2 * i + 1) := by
      rw [g96, e2, w32_id (x := ((2 * i : Nat) : Int) + 1) ⟨by omega, by omega⟩, Int.toNat_natCast, show (((2 * i : Nat) : Int) + 1).toNat = 2 * i + 1 by omega, tp_and hb (by omega), tp_and hb (by omega), w32_id (x := _ * 256) ⟨by omega, by omega⟩, w32_id ⟨by omega, by omega⟩]
    have hm : ∃ v, L_X12_check_30 N (n2 + 1) (k : Int) (i : Int) g = J_X12_check_86 N (L_X12_check_30 N n2) (k : Int) (i : Int) (h 42 (2 * i) * 256 + h 42 (2 * i + 1)) v g ∧ v = h 5 i := by
      conv => enter [1, v, 1, 1]; unfold L_X12_check_30
      rw [if_neg (by omega), em, e2, grd_t ⟨by omega, by omega⟩, w32_id (x := ((2 * i : Nat) : Int) + 1) ⟨by omega, by omega⟩, grd_t ⟨by omega, by omega⟩, s_isStreet ht g12, bd_s]
      by_cases q : isT t (i : Int)
      · rw [if_pos q, if_neg (by decide), w14 ⟨by omega, by omega⟩, grd_t ⟨by omega, by omega⟩, Int.toNat_natCast, g84]
        exact ⟨_, rfl, (hd i (by omega)).1⟩
      · rw [if_neg q, if_pos rfl]
        refine ⟨_, rfl, ((hd i (by omega)).2 ?_).symm⟩
        cases hq : t.testBit i with
        | false => rfl
        | true => exact absurd ⟨by omega, by omega, by rw [Int.toNat_natCast]; exact hq⟩ q
    obtain ⟨v, hm1, rfl⟩ := hm
    have hx : L_X11_check_30 N (n1 + 1) (k : Int) (-1) (i : Int) h = if h 42 (2 * i) * 256 + h 42 (2 * i + 1) = h 5 i then L_X11_check_30 N n1 (k : Int) (-1) ((i + 1 : Nat) : Int) h else L_X11_check_30 N n1 (k : Int) (i : Int) ((i + 1 : Nat) : Int) h := by
      conv => lhs; unfold L_X11_check_30
      rw [if_neg (by omega), if_pos rfl, e2, s_pairAt e hn ⟨by omega, by omega⟩ hb2, bd_s, s_depthOf (by omega), bd_s, Int.toNat_natCast]
      unfold J_X11_check_63
      simp only [bnd_s, inc (show i < 100000000 by omega)]
    rw [hx, hm1]
    unfold J_X12_check_86
    by_cases q : h 42 (2 * i) * 256 + h 42 (2 * i + 1) = h 5 i
    · rw [if_pos q, if_pos q, bnd_s, inc (by omega)]
      exact ck_loop ht hn e hb hd g96 g84 g12 k hk d (i + 1) n1 n2 (by omega) (by omega) (by omega)
    · rw [if_neg q, if_neg q]
      refine ⟨(i : Int), ?_, rfl⟩
      cases n1 with
      | zero => omega
      | succ n1 =>
        unfold L_X11_check_30
        have hend : J_X11_check_69 N (i : Int) h = some ((i : Int), hw h 41 1 0) := by unfold J_X11_check_69 F_X10_clear; rw [bnd_s, bv_s]
        by_cases q2 : (k : Int) ≤ ((i + 1 : Nat) : Int)
        · rw [if_pos q2, hend]
        · rw [if_neg q2, if_neg (by omega), hend]
theorem op_check {N : Nat} (hN : 1000000 ≤ N) : ∀ a1 : Int, inR a1 → Sm (Inv N) (F_X11_check N a1) (F_X12_check N a1) := by
  intro k _ h hok hI
  obtain ⟨t, i1, i2, i3, i4, i5, ⟨n, hn, e1, e2, hb⟩, i7, i8, i9, i10⟩ := id hI
  unfold F_X11_check F_X12_check
  by_cases q1 : 0 ≤ k ∧ k ≤ 14
  · obtain ⟨m, rfl⟩ : ∃ m : Nat, k = (m : Int) := ⟨k.toNat, by omega⟩
    have ew : w32 (2 * (m : Int)) = 2 * (m : Int) := w32_id ⟨by omega, by omega⟩
    by_cases q2 : 2 * (m : Int) ≤ n
    · obtain ⟨g, hg⟩ : ∃ g, g = hw (hw h 41 1 0) 83 15 0 := ⟨_, rfl⟩
      obtain ⟨r, r1, r2⟩ := ck_loop (N := N) (t := t) (h := h) (g := g) i1.1 hn e1 hb (fun i hi => ⟨(i3 i hi).1, (i3 i hi).2.2.2⟩) (by rw [hg, hw_c (by omega), hw_c (by omega)]) (by rw [hg, hw_c (by omega), hw_c (by omega)]) (by rw [hg, hw_ne (by omega), hw_ne (by omega)]; exact i1.2.2) m ⟨by omega, by omega⟩ m 0 N N (by omega) (by omega) (by omega)
      refine ⟨r, hw h 41 1 0, g, ?_, ?_, ?_⟩
      · rw [s_isWithin, bd_s, if_pos q1, if_neg (by decide), s_holds e1, bd_s, ew, if_pos q2, if_neg (by decide)]
        exact r1
      · rw [s_in, bd_s, if_pos q1, if_neg (by decide), ew, hw_ne (by omega), e2, if_pos q2, bnd_s, ← hg]
        exact r2
      · refine hI.clr (fun c j _ hc => ?_) (by rw [hg, hw_ne (by omega), hw_eq]) (by rw [hg, hw_eq])
        unfold tpx at hc
        rw [hg, hw_ne (by omega), hw_ne (by omega)]
    · refine ⟨-2, h, h, ?_, ?_, hI⟩
      · rw [s_isWithin, bd_s, if_pos q1, if_neg (by decide), s_holds e1, bd_s, ew, if_neg q2, if_pos rfl]
      · rw [s_in, bd_s, if_pos q1, if_neg (by decide), ew, e2, if_neg q2]
  · refine ⟨-2, h, h, ?_, ?_, hI⟩
    · rw [s_isWithin, bd_s, if_neg q1, if_pos rfl]
    · rw [s_in, bd_s, if_neg q1, if_pos rfl]
/-- what the bits' numbers come to -/
def bF (f : Nat → Int) (u : Nat) : Nat → Int := fun p => if u.testBit p = true then f p else 0
theorem bF_b {f : Nat → Int} {u M : Nat} (hf : ∀ k, k < M → 0 ≤ f k ∧ f k ≤ 255) : ∀ k, k < M → 0 ≤ bF f u k ∧ bF f u k ≤ 100000 := fun k hk => by
  have := hf k hk
  unfold bF
  split <;> omega
theorem sum_loop {N L : Nat} {h : Hp} (e : h 41 1 = (L : Int)) (hL : L ≤ 260) {u a st n : Nat} (hu : u < 2147483648) (hn : n ≤ 14) (ha : ∀ p, p < n → a + p * st < L) (hb : ∀ j, j < L → 0 ≤ h 42 j ∧ h 42 j ≤ 255) :
    ∀ f p : Nat, p ≤ n → n - p < f → L_X10_sumOf_6 N f (u : Int) (a : Int) (st : Int) (n : Int) (sm (bF (fun p => h 42 (a + p * st)) u) p) (p : Int) h = some (sm (bF (fun p => h 42 (a + p * st)) u) n, h)
  | 0, p, _, hf => absurd hf (by omega)
  | f + 1, p, hp, hf => by
    unfold L_X10_sumOf_6
    by_cases c : p = n
    · subst c; rw [if_pos (by omega)]
    · have hlt : a + p * st < L := ha p (by omega)
      have hs := sm_b (f := bF (fun p => h 42 (a + p * st)) u) (M := n) (bF_b (fun k hk => hb _ (ha k hk))) p hp
      have hv := hb (a + p * st) hlt
      have ih := sum_loop (N := N) e hL hu hn ha hb f (p + 1) (by omega) (by omega)
      simp only [sm] at ih
      rw [if_neg (by omega), s_hasBit hu ⟨by omega, by omega⟩, bd_s, Int.toNat_natCast]
      unfold J_X10_sumOf_37
      have hmul : (p : Int) * (st : Int) = ((p * st : Nat) : Int) := by simp
      by_cases q : u.testBit p = true
      · rw [if_neg (by rw [btN_1.mpr q]; decide), hmul, w32_id (x := ((p * st : Nat) : Int)) ⟨by omega, by omega⟩, w32_id (x := (a : Int) + ((p * st : Nat) : Int)) ⟨by omega, by omega⟩, s_at e hL ⟨by omega, by omega⟩, bd_s]
        simp only [bnd_s]
        rw [show ((a : Int) + ((p * st : Nat) : Int)).toNat = a + p * st by omega, w32_id ⟨by omega, by omega⟩, inc (by omega)]
        have eb : bF (fun p => h 42 (a + p * st)) u p = h 42 (a + p * st) := by unfold bF; rw [if_pos q]
        rw [eb] at ih
        exact ih
      · have q0 : btN u p = 0 := by unfold btN; rw [if_neg q]
        rw [if_pos q0]
        simp only [bnd_s]
        rw [inc (by omega)]
        have eb : bF (fun p => h 42 (a + p * st)) u p = 0 := by unfold bF; rw [if_neg q]
        rw [eb, Int.add_zero] at ih
        exact ih
theorem s_sumOf {N L : Nat} (hN : 1000000 ≤ N) {h : Hp} (e : h 41 1 = (L : Int)) (hL : L ≤ 260) {u a st n : Nat} (hu : u < 2147483648) (hn : n ≤ 14) (ha : ∀ p, p < n → a + p * st < L) (hb : ∀ j, j < L → 0 ≤ h 42 j ∧ h 42 j ≤ 255) : F_X10_sumOf N (u : Int) (a : Int) (st : Int) (n : Int) h = some (sm (bF (fun p => h 42 (a + p * st)) u) n, h) :=
  sum_loop e hL hu hn ha hb N 0 (by omega) (by omega)
theorem th_in {N L : Nat} {g : Hp} {f : Nat → Int} (hL : L ≤ 260) {u n : Nat} (hu : u < 2147483648) (hn : n ≤ 14) (ha : n ≤ L) (hb : ∀ j, j < L → 0 ≤ f j ∧ f j ≤ 255 ∧ iand (g 96 j) 255 = f j) (k : Int → Int → Int → Int → Int → Int → Int → Int → Hp → Option (Int × Hp)) (x2 x3 x4 x5 x6 : Int) :
    ∀ q p : Nat, p ≤ n → n - p < q → L_X12_thieves_74 N k q (n : Int) x2 x3 x4 x5 x6 (u : Int) (sm (bF f u) p) (p : Int) g = k (n : Int) x2 x3 x4 x5 x6 (u : Int) (sm (bF f u) n) g
  | 0, p, _, hf => absurd hf (by omega)
  | q + 1, p, hp, hf => by
    unfold L_X12_thieves_74
    by_cases c : p = n
    · subst c; rw [if_pos (by omega)]
    · have hs := sm_b (f := bF f u) (M := n) (bF_b (fun k hk => ⟨(hb k (by omega)).1, (hb k (by omega)).2.1⟩)) p hp
      have hv := hb p (by omega)
      have ih := th_in (N := N) hL hu hn ha hb k x2 x3 x4 x5 x6 q (p + 1) (by omega) (by omega)
      simp only [sm] at ih
      rw [if_neg (by omega), s_has hu ⟨by omega, by omega⟩, bd_s, Int.toNat_natCast]
      unfold J_X12_thieves_107
      by_cases c2 : u.testBit p = true
      · rw [if_neg (by rw [btN_1.mpr c2]; decide), grd_t ⟨by omega, by omega⟩]
        simp only [bnd_s]
        have eb : bF f u p = f p := by unfold bF; rw [if_pos c2]
        rw [hv.2.2, w32_id ⟨by omega, by omega⟩, inc (by omega)]
        rw [eb] at ih
        exact ih
      · have q0 : btN u p = 0 := by unfold btN; rw [if_neg c2]
        have eb : bF f u p = 0 := by unfold bF; rw [if_neg c2]
        rw [if_pos q0]
        simp only [bnd_s]
        rw [Int.add_zero, w32_id ⟨by omega, by omega⟩, inc (by omega)]
        rw [eb, Int.add_zero] at ih
        exact ih
theorem and_sub {n u : Nat} (hu : u < 2 ^ n) : (2 ^ n - 1) &&& u = u := by rw [Nat.and_comm, Nat.and_two_pow_sub_one_eq_mod, Nat.mod_eq_of_lt hu]
theorem th_loop {N L : Nat} (hN : 1000000 ≤ N) {h g : Hp} (e : h 41 1 = (L : Int)) (hL : L ≤ 260) {n : Nat} (hn : 1 ≤ n ∧ n ≤ 10) (ha : n ≤ L) (hb : ∀ j, j < L → 0 ≤ h 42 j ∧ h 42 j ≤ 255) (hg : ∀ j, j < L → iand (g 96 j) 255 = h 42 j) (x2 x3 : Int) (hx3 : 0 ≤ x3 ∧ x3 ≤ 2) :
    ∀ (d u n1 n2 sets : Nat) (fs : Int) (sX sM : Nat), u + d = 2 ^ n → d < n1 → d < n2 → sets ≤ u → ((sets = 0 ∧ sX = 2 ^ n - 1 ∧ sM = 1023) ∨ (0 < sets ∧ sX = sM)) → sX < 1024 → sM < 1024 →
      ∃ r, L_X11_thieves_60 N n1 (n : Int) x2 x3 (sets : Int) fs (sX : Int) (u : Int) h = some (r, hw h 41 1 0) ∧ L_X12_thieves_60 N n2 (n : Int) x2 x3 (sets : Int) fs (sM : Int) (u : Int) g = some (r, g)
  | d, u, 0, _, _, _, _, _, _, h1, _, _, _, _, _ => absurd h1 (by omega)
  | d, u, _, 0, _, _, _, _, _, _, h2, _, _, _, _ => absurd h2 (by omega)
  | 0, u, n1 + 1, n2 + 1, sets, fs, sX, sM, hu, _, _, _, hs, _, _ => by
    have ep : ishl 1 (n : Int) = ((2 ^ n : Nat) : Int) := ishl_1 (by omega)
    unfold L_X11_thieves_60 L_X12_thieves_60
    rw [ep, if_pos (by omega), if_pos (by omega)]
    unfold F_X10_clear
    rw [bnd_s, bv_s]
    by_cases q0 : x3 = 0
    · exact ⟨_, by rw [if_pos q0], by rw [if_pos q0]⟩
    · rw [if_neg q0, if_neg q0]
      by_cases q1 : sets = 0
      · rw [if_pos (show (sets : Int) = 0 by omega), if_pos (show (sets : Int) = 0 by omega)]
        by_cases q2 : x3 = 1
        · exact ⟨_, by rw [if_pos q2], rfl⟩
        · exact ⟨_, by rw [if_neg q2], rfl⟩
      · rw [if_neg (show ¬ (sets : Int) = 0 by omega), if_neg (show ¬ (sets : Int) = 0 by omega)]
        by_cases q2 : x3 = 1
        · exact ⟨_, by rw [if_pos q2], by rw [if_pos q2]⟩
        · rcases hs with hs | hs
          · omega
          · exact ⟨_, by rw [if_neg q2], by rw [if_neg q2, hs.2]⟩
  | d + 1, u, n1 + 1, n2 + 1, sets, fs, sX, sM, hu, h1, h2, hsu, hs, bX, bM => by
    have ep : ishl 1 (n : Int) = ((2 ^ n : Nat) : Int) := ishl_1 (by omega)
    have hp : (2 : Nat) ^ n ≤ 2 ^ 10 := Nat.pow_le_pow_right (by decide) hn.2
    have huP : u < 2 ^ n := by omega
    have hu10 : u < 1024 := Nat.lt_of_lt_of_le huP hp
    have ih := fun s2 f2 a2 b2 => th_loop hN e hL hn ha hb hg x2 x3 hx3 d (u + 1) n1 n2 s2 f2 a2 b2 (by omega) (by omega) (by omega)
    unfold L_X11_thieves_60 L_X12_thieves_60
    have ein := th_in (N := N) (g := g) (f := h 42) hL (u := u) (n := n) (by omega) (by omega) ha (fun j hj => ⟨(hb j hj).1, (hb j hj).2, hg j hj⟩)
    have es := s_sumOf hN e hL (u := u) (a := 0) (st := 1) (n := n) (by omega) (by omega) (fun p hp => by omega) hb
    have ef : (fun p => h 42 (0 + p * 1)) = h 42 := by funext p; congr 1; omega
    rw [ef] at es
    rw [ep, if_neg (by omega), if_neg (by omega)]
    rw [show F_X10_sumOf N (u : Int) 0 1 (n : Int) h = some (sm (bF (h 42) u) n, h) from es, bd_s]
    have e0 := fun k a1 a2 a3 => ein k x2 x3 a1 a2 a3 N 0 (by omega) (by omega)
    simp only [sm] at e0
    rw [show ((0 : Nat) : Int) = 0 from rfl] at e0
    rw [e0]
    have hsets : w32 ((sets : Int) + 1) = ((sets + 1 : Nat) : Int) := inc (by omega)
    have hu1 : w32 ((u : Int) + 1) = ((u + 1 : Nat) : Int) := inc (by omega)
    have hand : ∀ s : Nat, s < 1024 → iand (s : Int) (u : Int) = ((s &&& u : Nat) : Int) := fun s hs => iand_nat (Nat.lt_trans hs (by decide))
    have hle : ∀ s : Nat, s &&& u ≤ u := fun s => Nat.and_le_right
    have h1023 : (1023 &&& u : Nat) = u := and_sub (n := 10) hu10
    have hnn : (2 ^ n - 1) &&& u = u := and_sub huP
    by_cases q : sm (bF (h 42) u) n = x2
    · rw [if_pos q, if_pos q]
      have key : ∀ f2, ∃ r, L_X11_thieves_60 N n1 (n : Int) x2 x3 ((sets + 1 : Nat) : Int) f2 ((sX &&& u : Nat) : Int) ((u + 1 : Nat) : Int) h = some (r, hw h 41 1 0) ∧ L_X12_thieves_60 N n2 (n : Int) x2 x3 ((sets + 1 : Nat) : Int) f2 ((sM &&& u : Nat) : Int) ((u + 1 : Nat) : Int) g = some (r, g) := by
        intro f2
        refine ih (sets + 1) f2 (sX &&& u) (sM &&& u) (Nat.succ_le_succ hsu) (Or.inr ⟨Nat.succ_pos _, ?_⟩) (Nat.lt_of_le_of_lt (hle sX) hu10) (Nat.lt_of_le_of_lt (hle sM) hu10)
        rcases hs with ⟨-, rfl, rfl⟩ | ⟨-, rfl⟩
        · rw [h1023, hnn]
        · rfl
      unfold J_X11_thieves_96 J_X12_thieves_137 J_X11_thieves_108 J_X12_thieves_152
      simp only [bnd_s, hsets, hu1, hand sX bX, hand sM bM]
      by_cases q2 : (sets : Int) = 0
      · rw [if_pos q2, if_pos q2]
        exact key (u : Int)
      · rw [if_neg q2, if_neg q2]
        exact key fs
    · rw [if_neg q, if_neg q]
      unfold J_X11_thieves_108 J_X12_thieves_152
      simp only [bnd_s, hu1]
      exact ih sets fs sX sM (Nat.le_succ_of_le hsu) hs bX bM
theorem op_thieves {N : Nat} (hN : 1000000 ≤ N) : ∀ a1 : Int, inR a1 → ∀ a2 : Int, inR a2 → ∀ a3 : Int, inR a3 → Sm (Inv N) (F_X11_thieves N a1 a2 a3) (F_X12_thieves N a1 a2 a3) := by
  intro k _ x _ w _ h hok hI
  obtain ⟨t, i1, i2, i3, i4, i5, ⟨n, hn, e1, e2, hb⟩, i7, i8, i9, i10⟩ := id hI
  unfold F_X11_thieves F_X12_thieves
  simp only [s_isWithin, s_in, bd_s, s_holds e1, e2]
  by_cases q1 : 1 ≤ k ∧ k ≤ 10
  · by_cases q2 : 0 ≤ x ∧ x ≤ 2550
    · by_cases q3 : 0 ≤ w ∧ w ≤ 2
      · by_cases q4 : k ≤ (n : Int)
        · obtain ⟨m, rfl⟩ : ∃ m : Nat, k = (m : Int) := ⟨k.toNat, by omega⟩
          obtain ⟨g, hg⟩ : ∃ g, g = hw (hw h 41 1 0) 83 15 0 := ⟨_, rfl⟩
          have ep : ishl 1 (m : Int) = ((2 ^ m : Nat) : Int) := ishl_1 (by omega)
          have hp : (2 : Nat) ^ m ≤ 2 ^ 10 := Nat.pow_le_pow_right (by decide) (by omega)
          have hp0 : 0 < (2 : Nat) ^ m := Nat.pos_of_ne_zero (by simp)
          have em1 : w32 (((2 ^ m : Nat) : Int) - 1) = ((2 ^ m - 1 : Nat) : Int) := by rw [w32_id ⟨by omega, by omega⟩]; omega
          obtain ⟨r, r1, r2⟩ := th_loop hN (h := h) (g := g) e1 hn (n := m) ⟨by omega, by omega⟩ (by omega) (fun j hj => ⟨(hb j hj).1, (hb j hj).2.1⟩) (fun j hj => by rw [hg, hw_c (by omega), hw_c (by omega)]; exact tp_and hb hj) x w q3 (2 ^ m) 0 N N 0 (-2) (2 ^ m - 1) 1023 (by omega) (by omega) (by omega) (by omega) (Or.inl ⟨rfl, rfl, rfl⟩) (by omega) (by omega)
          refine ⟨r, hw h 41 1 0, g, ?_, ?_, ?_⟩
          · simp only [if_pos q1, if_pos q2, if_pos q3, if_pos q4, if_neg (show ¬ (1 : Int) = 0 by decide), bnd_s, ep, em1]
            exact r1
          · have e15 : hw h 41 1 0 83 15 = (n : Int) := by rw [hw_ne (by omega)]; exact e2
            simp only [e15, if_pos q1, if_pos q2, if_pos q3, if_pos q4, if_neg (show ¬ (1 : Int) = 0 by decide), bnd_s, ← hg]
            exact r2
          · refine hI.clr (fun c j _ hc => ?_) (by rw [hg, hw_ne (by omega), hw_eq]) (by rw [hg, hw_eq])
            unfold tpx at hc
            rw [hg, hw_ne (by omega), hw_ne (by omega)]
        · refine ⟨-1, h, h, ?_, ?_, hI⟩
          · simp only [if_pos q1, if_pos q2, if_pos q3, if_neg q4, if_neg (show ¬ (1 : Int) = 0 by decide), if_true]
          · simp only [e2, if_pos q1, if_pos q2, if_pos q3, if_neg q4, if_neg (show ¬ (1 : Int) = 0 by decide)]
      · refine ⟨-1, h, h, ?_, ?_, hI⟩ <;> simp only [if_pos q1, if_pos q2, if_neg q3, if_neg (show ¬ (1 : Int) = 0 by decide), if_true]
    · refine ⟨-1, h, h, ?_, ?_, hI⟩ <;> simp only [if_pos q1, if_neg q2, if_neg (show ¬ (1 : Int) = 0 by decide), if_true]
  · refine ⟨-1, h, h, ?_, ?_, hI⟩ <;> simp only [if_neg q1, if_true]
