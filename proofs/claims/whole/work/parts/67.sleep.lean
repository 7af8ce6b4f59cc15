/-! SLEEPFUL -/
def wh (sl : Nat → Nat) (s : Nat) : Nat → Nat
  | 0 => 0
  | k + 1 => if s.testBit k = true then wh sl s k ||| 2 ^ sl k else wh sl s k
theorem pow_lt2 {a b : Nat} (h : a < b) : 2 ^ a < 2 ^ b := Nat.pow_lt_pow_right (by decide) h
theorem wh_lt {sl : Nat → Nat} {n : Nat} (hs : ∀ p q, p < q → q < n → sl p < sl q) (s : Nat) : ∀ k, k < n → wh sl s k < 2 ^ sl k
  | 0, _ => Nat.pow_pos (by decide)
  | k + 1, hk => by
    have ih := wh_lt hs s k (by omega)
    have h1 := pow_lt2 (hs k (k + 1) (by omega) hk)
    unfold wh
    split
    · exact Nat.or_lt_two_pow (by omega) h1
    · omega
theorem or_add {a k : Nat} (h : a < 2 ^ k) : a ||| 2 ^ k = a + 2 ^ k := by
  have h' := Nat.two_pow_add_eq_or_of_lt h 1
  simp only [Nat.mul_one] at h'
  rw [Nat.or_comm, ← h', Nat.add_comm]
theorem mod_s (s k : Nat) : s % 2 ^ (k + 1) = s % 2 ^ k + (if s.testBit k = true then 2 ^ k else 0) := by
  rw [Nat.pow_succ, Nat.mod_mul, Nat.testBit_eq_decide_div_mod_eq]
  rcases Nat.mod_two_eq_zero_or_one (s / 2 ^ k) with h | h <;> simp [h]
theorem wh_cmp {sl : Nat → Nat} {n : Nat} (hs : ∀ p q, p < q → q < n → sl p < sl q) (s s' : Nat) : ∀ k, k ≤ n → (wh sl s k < wh sl s' k ↔ s % 2 ^ k < s' % 2 ^ k)
  | 0, _ => by simp [wh, Nat.mod_one]
  | k + 1, hk => by
    have ih := wh_cmp hs s s' k (by omega)
    have h1 := wh_lt hs s k (by omega)
    have h2 := wh_lt hs s' k (by omega)
    have m1 := Nat.mod_lt s (Nat.pow_pos (n := k) (show 0 < 2 by decide))
    have m2 := Nat.mod_lt s' (Nat.pow_pos (n := k) (show 0 < 2 by decide))
    rw [mod_s, mod_s]
    unfold wh
    rw [or_add h1, or_add h2]
    by_cases a : s.testBit k = true <;> by_cases b : s'.testBit k = true
    · rw [if_pos a, if_pos b, if_pos a, if_pos b]; omega
    · rw [if_pos a, if_neg b, if_pos a, if_neg b]; omega
    · rw [if_neg a, if_pos b, if_neg a, if_pos b]; omega
    · rw [if_neg a, if_neg b, if_neg a, if_neg b]; omega
/-- the sets' order -/
def be (n : Nat) (H Y : Nat → Int) (b s : Nat) : Prop := sm (bF H s) n < sm (bF H b) n ∨ (sm (bF H s) n = sm (bF H b) n ∧ (sm (bF Y b) n < sm (bF Y s) n ∨ (sm (bF Y b) n = sm (bF Y s) n ∧ b ≤ s)))
theorem be_as {n : Nat} {H Y : Nat → Int} {b s : Nat} (h1 : be n H Y b s) (h2 : be n H Y s b) : b = s := by
  unfold be at h1 h2
  omega
theorem be_tr {n : Nat} {H Y : Nat → Int} {a b c : Nat} (h1 : be n H Y a b) (h2 : be n H Y b c) : be n H Y a c := by
  unfold be at h1 h2 ⊢
  omega
def alf (Yp : Nat → Int) : Nat → Nat
  | 0 => 0
  | k + 1 => if Yp k = 0 then alf Yp k ||| 2 ^ k else alf Yp k
theorem alf_lt (Yp : Nat → Int) : ∀ k, alf Yp k < 2 ^ k
  | 0 => by simp [alf]
  | k + 1 => by
    have := alf_lt Yp k
    have h1 := pow_lt2 (show k < k + 1 by omega)
    unfold alf
    split
    · exact Nat.or_lt_two_pow (by omega) h1
    · omega
theorem alf_t (Yp : Nat → Int) (p : Nat) : ∀ k, (alf Yp k).testBit p = true ↔ p < k ∧ Yp p = 0
  | 0 => by simp [alf]
  | k + 1 => by
    have ih := alf_t Yp p k
    unfold alf
    by_cases q : Yp k = 0
    · rw [if_pos q, Nat.testBit_or, Nat.testBit_two_pow]
      by_cases e : k = p
      · subst e; simp [q]
      · have : p < k ↔ p < k + 1 := by omega
        simp [e, ih, this]
    · rw [if_neg q, ih]
      constructor
      · rintro ⟨a, b⟩; exact ⟨by omega, b⟩
      · rintro ⟨a, b⟩
        refine ⟨?_, b⟩
        by_cases e : p = k
        · subst e; exact absurd b q
        · omega
section SL
variable {N n : Nat} {h g : Hp} {A : Int → (Nat → Int) → Int} {Hp' Yp : Nat → Int} {sl : Nat → Nat} {y : Int}
theorem bF_b9 {f : Nat → Int} {s M : Nat} (hf : ∀ k, k < M → 0 ≤ f k ∧ f k ≤ 999) : ∀ k, k < M → 0 ≤ bF f s k ∧ bF f s k ≤ 100000 := fun k hk => by
  have := hf k hk
  unfold bF
  split <;> omega
theorem x_miss {h' : Hp} (L : LawOK N h A) (H : bX h h') {i : Nat} (hi : i < 14) (hd : h' 5 i = h 5 i) (hd9 : 0 ≤ h 5 i ∧ h 5 i ≤ 999) : ∃ h1, F_X9_missingToSleep N (i : Int) h' = some (imax 0 (imax 1 (A 115 (fc (h 2 i) (h 3 i) (h 4 i) i (h 5 i) 0 (h 1 5) 0)) - h 5 i), h1) ∧ ∀ c j, ¬ c = 18 → ¬ c = 19 → ¬ (c = 11 ∧ (j = 10 ∨ j = 11)) → h1 c j = h' c j := by
  unfold F_X9_missingToSleep F_X1_night F_X2_regardTime
  simp only [s_depthOf hi, bd_s, bnd_s, bv_s, t5, t6, t7, hd, H.2.2 5]
  obtain ⟨k, hk⟩ : ∃ k, k = hw (hw (hw h' 18 5 0) 18 6 (h 1 5)) 18 7 0 := ⟨_, rfl⟩
  rw [← hk]
  have kc : ∀ c j, ¬ c = 18 → k c j = h' c j := fun c j z => by rw [hk, hw_ne (by omega), hw_ne (by omega), hw_ne (by omega)]
  have k5 : k 18 5 = 0 ∧ k 18 6 = h 1 5 ∧ k 18 7 = 0 := by rw [hk]; simp [hw]
  have Hk : bX h k := H.of (fun c j z => kc c j (by omega))
  obtain ⟨h5, e5, f5, h1, e1, f1, -⟩ := x_askS L Hk hi (h 3 i) (h 5 i) (l := 115) (Or.inr (Or.inr (Or.inl rfl)))
  rw [k5.1, k5.2.1, k5.2.2] at e1
  have hA := L.1 115 (fc (h 2 i) (h 3 i) (h 4 i) i (h 5 i) 0 (h 1 5) 0)
  have hm : most 115 = 999 := rfl
  have hA2 : 0 ≤ imax 1 (A 115 (fc (h 2 i) (h 3 i) (h 4 i) i (h 5 i) 0 (h 1 5) 0)) ∧ imax 1 (A 115 (fc (h 2 i) (h 3 i) (h 4 i) i (h 5 i) 0 (h 1 5) 0)) ≤ 999 := by unfold imax; split <;> omega
  refine ⟨h1, ?_, fun c j z1 z2 z3 => by rw [f1 c j (by omega) z2 z3, kc c j z1]⟩
  rw [s_lamps hi, bd_s, show k 3 i = h 3 i by rw [kc 3 i (by omega), H.2.1 3 (by omega)], e5, bv_s, e1, bd_s, w32_id ⟨by omega, by omega⟩]
def fx71 (g h : Hp) : Prop := ∀ c j, ¬ (c = 71 ∨ c = 18 ∨ c = 19 ∨ (c = 11 ∧ (j = 10 ∨ j = 11))) → h c j = g c j
theorem l_bX (hN : 1000000 ≤ N) (L : LawOK N h A) (G : bX h g) (hn : n ≤ 8) (h4 : g 69 4 = (n : Int)) (h70 : ∀ p, p < n → sl p < 14 ∧ g 70 p = (sl p : Int)) (h5 : ∀ i, i < 14 → g 5 i = h 5 i ∧ 0 ≤ h 5 i ∧ h 5 i ≤ 999) (hY : ∀ p, p < n → Yp p = imax 0 (imax 1 (A 115 (fc (h 2 (sl p)) (h 3 (sl p)) (h 4 (sl p)) (sl p) (h 5 (sl p)) 0 (h 1 5) 0)) - h 5 (sl p))) :
    ∀ (f k : Nat) (h' : Hp), k ≤ n → n - k < f → fx71 g h' → (∀ p, p < k → h' 71 p = Yp p) → ∃ h'', fx71 g h'' ∧ (∀ p, p < n → h'' 71 p = Yp p) ∧ L_X9_findSleepful_5 N f y (alf Yp k : Nat) (k : Int) h' = L_X9_findSleepful_64 N N y (alf Yp n : Nat) 0 (hw h'' 69 7 (-1))
  | 0, k, _, _, hf, _, _ => absurd hf (by omega)
  | f + 1, k, h', hk, hf, F, Y => by
    unfold L_X9_findSleepful_5
    rw [F 69 4 (by omega), h4]
    by_cases c : k = n
    · subst c
      rw [if_pos (by omega), bnd_s]
      exact ⟨h', F, Y, rfl⟩
    · obtain ⟨s14, es⟩ := h70 k (by omega)
      have e70 : h' 70 k = (sl k : Int) := by rw [F 70 k (by omega)]; exact es
      have dd := h5 (sl k) s14
      obtain ⟨h1, e1, f1⟩ := x_miss L (G.of (fun c j z => F c j (by omega))) s14 (by rw [F 5 _ (by omega)]; exact dd.1) dd.2
      rw [← hY k (by omega)] at e1
      rw [if_neg (by omega), grd_t ⟨by omega, by omega⟩, Int.toNat_natCast, e70, e1, bd_s, grd_t ⟨by omega, by omega⟩, bnd_s, grd_t ⟨by omega, by omega⟩, hw_eq]
      unfold J_X9_findSleepful_50
      simp only [bnd_s]
      rw [inc (by omega)]
      have al := alf_lt Yp k
      have p8 : 2 ^ k ≤ 2 ^ 8 := Nat.pow_le_pow_right (by decide) (by omega)
      have eal : (if Yp k = 0 then ior (alf Yp k : Nat) (ishl 1 (k : Int)) else (alf Yp k : Nat)) = ((alf Yp (k + 1) : Nat) : Int) := by
        conv => rhs; unfold alf
        by_cases q : Yp k = 0
        · rw [if_pos q, if_pos q, ishl_1 (by omega), ior_nat (by omega) (by omega)]
        · rw [if_neg q, if_neg q]
      obtain ⟨h'', a1, a2, a3⟩ := l_bX hN L G hn h4 h70 h5 hY f (k + 1) (hw h1 71 k (Yp k)) (by omega) (by omega) (fun c j z => by rw [hw_ne (by omega), f1 c j (by omega) (by omega) (by omega)]; exact F c j z) (fun p hp => by
        by_cases e : p = k
        · subst e; rw [hw_eq]
        · rw [hw_ne (by omega), f1 71 p (by omega) (by omega) (by omega)]; exact Y p (by omega))
      refine ⟨h'', a1, a2, ?_⟩
      rw [← a3, ← eal]
      by_cases q : Yp k = 0
      · rw [if_pos q, if_pos q]
      · rw [if_neg q, if_neg q]
def tkX (s : Nat) (H Y : Int) (h : Hp) : Hp := hw (hw (hw h 69 6 (s : Int)) 69 7 H) 69 8 Y
theorem l_weigh (hn : n ≤ 8) {h : Hp} (h4 : h 69 4 = (n : Int)) (hH : ∀ p, p < n → 0 ≤ Hp' p ∧ Hp' p ≤ 999) (hY : ∀ p, p < n → 0 ≤ Yp p ∧ Yp p ≤ 999) (h70 : ∀ p, p < n → sl p < 14 ∧ h 70 p = (sl p : Int) ∧ h 2 (sl p) = Hp' p) (h71 : ∀ p, p < n → h 71 p = Yp p) {s : Nat} (hs : s < 2147483648) :
    ∀ f k : Nat, k ≤ n → n - k < f → L_X9_weigh_8 N f (s : Int) y (sm (bF Yp s) k) (sm (bF Hp' s) k) (k : Int) h = some (if sm (bF Yp s) n ≤ y ∧ (h 69 7 < sm (bF Hp' s) n ∨ (sm (bF Hp' s) n = h 69 7 ∧ sm (bF Yp s) n < h 69 8)) then tkX s (sm (bF Hp' s) n) (sm (bF Yp s) n) h else h)
  | 0, k, _, hf => absurd hf (by omega)
  | f + 1, k, hk, hf => by
    unfold L_X9_weigh_8
    rw [h4]
    by_cases c : k = n
    · subst c
      unfold J_X9_weigh_92
      simp only [bnd_s]
      rw [if_pos (by omega)]
      by_cases q1 : y < sm (bF Yp s) k
      · rw [if_pos q1, if_neg (by omega)]
      · rw [if_neg q1]
        by_cases q2 : h 69 7 < sm (bF Hp' s) k
        · rw [if_pos q2, if_pos ⟨by omega, Or.inl q2⟩]; rfl
        · rw [if_neg q2]
          by_cases q3 : sm (bF Hp' s) k = h 69 7
          · rw [if_pos q3]
            by_cases q4 : h 69 8 ≤ sm (bF Yp s) k
            · rw [if_pos q4, if_neg (by omega)]
            · rw [if_neg q4, if_pos ⟨by omega, Or.inr ⟨q3, by omega⟩⟩]; rfl
          · rw [if_neg q3, if_neg (by omega)]
    · have b1 := sm_b (f := bF Yp s) (M := n) (bF_b9 hY) k hk
      have b2 := sm_b (f := bF Hp' s) (M := n) (bF_b9 hH) k hk
      have ih := l_weigh hn h4 hH hY h70 h71 hs f (k + 1) (by omega) (by omega)
      obtain ⟨s14, e70, e2⟩ := h70 k (by omega)
      have c1 := hH k (by omega)
      have c2 := hY k (by omega)
      unfold J_X9_weigh_55
      rw [if_neg (by omega), s_hasBit hs ⟨by omega, by omega⟩, bd_s, Int.toNat_natCast]
      simp only [bnd_s]
      simp only [sm] at ih
      by_cases q : s.testBit k = true
      · rw [if_neg (by rw [btN_1.mpr q]; decide), grd_t ⟨by omega, by omega⟩, h71 k (by omega), grd_t ⟨by omega, by omega⟩, e70, s_houses s14, bd_s, e2, w32_id (x := sm (bF Yp s) k + Yp k) ⟨by omega, by omega⟩, w32_id (x := sm (bF Hp' s) k + Hp' k) ⟨by omega, by omega⟩, inc (by omega)]
        rw [show bF Yp s k = Yp k by unfold bF; rw [if_pos q], show bF Hp' s k = Hp' k by unfold bF; rw [if_pos q]] at ih
        exact ih
      · rw [if_pos (by unfold btN; rw [if_neg q]), inc (by omega)]
        rw [show bF Yp s k = 0 by unfold bF; rw [if_neg q], show bF Hp' s k = 0 by unfold bF; rw [if_neg q], Int.add_zero, Int.add_zero] at ih
        exact ih
/-- the class's choice among the first k sets -/
def XS (n : Nat) (Hp' Yp : Nat → Int) (y : Int) (al k : Nat) (h : Hp) : Prop := (h 69 7 = -1 ∧ ∀ s, s < k → s &&& al = al → ¬ sm (bF Yp s) n ≤ y) ∨ ∃ b : Nat, b < k ∧ b &&& al = al ∧ sm (bF Yp b) n ≤ y ∧ h 69 6 = (b : Int) ∧ h 69 7 = sm (bF Hp' b) n ∧ h 69 8 = sm (bF Yp b) n ∧ ∀ s, s < k → s &&& al = al → sm (bF Yp s) n ≤ y → be n Hp' Yp b s
theorem l_sets (hN : 1000000 ≤ N) (hn : n ≤ 8) (h4 : g 69 4 = (n : Int)) (hH : ∀ p, p < n → 0 ≤ Hp' p ∧ Hp' p ≤ 999) (hY : ∀ p, p < n → 0 ≤ Yp p ∧ Yp p ≤ 999) (h70 : ∀ p, p < n → sl p < 14 ∧ g 70 p = (sl p : Int) ∧ g 2 (sl p) = Hp' p) (h71 : ∀ p, p < n → g 71 p = Yp p) {al : Nat} (hal : al < 2 ^ n) :
    ∀ (d f k : Nat) (h : Hp), k + d = 2 ^ n → d < f → (∀ c j, ¬ (c = 69 ∧ (j = 6 ∨ j = 7 ∨ j = 8)) → h c j = g c j) → XS n Hp' Yp y al k h → ∃ h', (∀ c j, ¬ (c = 69 ∧ (j = 6 ∨ j = 7 ∨ j = 8)) → h' c j = g c j) ∧ XS n Hp' Yp y al (2 ^ n) h' ∧ L_X9_findSleepful_64 N f y (al : Int) (k : Int) h = some h'
  | _, 0, _, _, _, hf, _, _ => absurd hf (by omega)
  | d, f + 1, k, h, hk, hf, F, X => by
    have p8 : 2 ^ n ≤ 2 ^ 8 := Nat.pow_le_pow_right (by decide) hn
    unfold L_X9_findSleepful_64
    rw [F 69 4 (by omega), h4, ishl_1 (by omega)]
    cases d with
    | zero =>
      obtain rfl : k = 2 ^ n := by omega
      rw [if_pos (by omega)]
      exact ⟨h, F, X, rfl⟩
    | succ d =>
      have p31 : k < 2147483648 := by omega
      rw [if_neg (by omega), iand_nat (by omega)]
      unfold J_X9_findSleepful_90
      simp only [bnd_s]
      rw [inc (by omega)]
      by_cases q : k &&& al = al
      · rw [if_pos (by rw [q])]
        have ew : F_X9_weigh N (k : Int) y h = _ := l_weigh (N := N) (y := y) (Hp' := Hp') (Yp := Yp) (sl := sl) hn (by rw [F 69 4 (by omega)]; exact h4) hH hY (fun p hp => ⟨(h70 p hp).1, by rw [F 70 p (by omega)]; exact (h70 p hp).2.1, by rw [F 2 _ (by omega)]; exact (h70 p hp).2.2⟩) (fun p hp => by rw [F 71 p (by omega)]; exact h71 p hp) p31 N 0 (by omega) (by omega)
        rw [ew, bv_s]
        have b2 := sm_b (f := bF Hp' k) (M := n) (bF_b9 hH) n (Nat.le_refl _)
        by_cases t : sm (bF Yp k) n ≤ y ∧ (h 69 7 < sm (bF Hp' k) n ∨ (sm (bF Hp' k) n = h 69 7 ∧ sm (bF Yp k) n < h 69 8))
        · rw [if_pos t]
          refine l_sets hN hn h4 hH hY h70 h71 hal d f (k + 1) _ (by omega) (by omega) (fun c j z => by unfold tkX; rw [hw_ne (by omega), hw_ne (by omega), hw_ne (by omega)]; exact F c j z) (Or.inr ⟨k, by omega, q, t.1, by simp [tkX, hw], by simp [tkX, hw], by simp [tkX, hw], fun s hs q1 q2 => ?_⟩)
          by_cases e : s = k
          · subst e; exact Or.inr ⟨rfl, Or.inr ⟨rfl, Nat.le_refl _⟩⟩
          · rcases X with ⟨x1, x2⟩ | ⟨b, x1, x2, x3, x4, x5, x6, x7⟩
            · exact absurd q2 (x2 s (by omega) q1)
            · have z := x7 s (by omega) q1 q2
              rw [x5, x6] at t
              refine be_tr ?_ z
              unfold be
              have := t.2
              omega
        · rw [if_neg t]
          refine l_sets hN hn h4 hH hY h70 h71 hal d f (k + 1) h (by omega) (by omega) F ?_
          rcases X with ⟨x1, x2⟩ | ⟨b, x1, x2, x3, x4, x5, x6, x7⟩
          · refine Or.inl ⟨x1, fun s hs q1 => ?_⟩
            by_cases e : s = k
            · subst e; intro q2; exact t ⟨q2, Or.inl (by omega)⟩
            · exact x2 s (by omega) q1
          · refine Or.inr ⟨b, by omega, x2, x3, x4, x5, x6, fun s hs q1 q2 => ?_⟩
            by_cases e : s = k
            · subst e
              rw [x5, x6] at t
              unfold be
              omega
            · exact x7 s (by omega) q1 q2
      · rw [if_neg (by omega)]
        refine l_sets hN hn h4 hH hY h70 h71 hal d f (k + 1) h (by omega) (by omega) F ?_
        rcases X with ⟨x1, x2⟩ | ⟨b, x1, x2, x3, x4, x5, x6, x7⟩
        · refine Or.inl ⟨x1, fun s hs q1 => ?_⟩
          by_cases e : s = k
          · subst e; exact absurd q1 q
          · exact x2 s (by omega) q1
        · refine Or.inr ⟨b, by omega, x2, x3, x4, x5, x6, fun s hs q1 q2 => ?_⟩
          by_cases e : s = k
          · subst e; exact absurd q1 q
          · exact x7 s (by omega) q1 q2
theorem l_slst (hn : n ≤ 8) {h : Hp} (h4 : h 69 4 = (n : Int)) (h70 : ∀ p, p < n → sl p < 14 ∧ h 70 p = (sl p : Int)) (hs : ∀ p q, p < q → q < n → sl p < sl q) {b : Nat} (hb : b < 2147483648) (h6 : h 69 6 = (b : Int)) :
    ∀ f k : Nat, k ≤ n → n - k < f → L_X9_sleepingStreets_4 N f (wh sl b k : Nat) (k : Int) h = some (((wh sl b n : Nat) : Int), h)
  | 0, k, _, hf => absurd hf (by omega)
  | f + 1, k, hk, hf => by
    unfold L_X9_sleepingStreets_4
    rw [h4, h6]
    by_cases c : k = n
    · subst c; rw [if_pos (by omega)]
    · have ih := l_slst hn h4 h70 hs hb h6 f (k + 1) (by omega) (by omega)
      obtain ⟨s14, e70⟩ := h70 k (by omega)
      have w1 := wh_lt hs b k (by omega)
      have p14 : 2 ^ sl k ≤ 2 ^ 14 := Nat.pow_le_pow_right (by decide) (by omega)
      unfold J_X9_sleepingStreets_34
      rw [if_neg (by omega), s_hasBit hb ⟨by omega, by omega⟩, bd_s, Int.toNat_natCast]
      simp only [bnd_s]
      simp only [wh] at ih
      by_cases q : b.testBit k = true
      · rw [if_pos q] at ih
        rw [if_neg (by rw [btN_1.mpr q]; decide), grd_t ⟨by omega, by omega⟩, e70, ishl_1 (by omega), ior_nat (by omega) (by omega), inc (by omega)]
        exact ih
      · rw [if_neg q] at ih
        rw [if_pos (by unfold btN; rw [if_neg q]), inc (by omega)]
        exact ih
def fx119 (g h : Hp) : Prop := ∀ c j, ¬ (c = 119 ∨ c = 108 ∨ c = 109) → h c j = g c j
theorem l_bM (hN : 1000000 ≤ N) (L : LawOK N h A) (G : bM h g) (hh : ∀ j, j < 14 → h 87 j = h 2 j ∧ h 88 j = h 3 j ∧ h 89 j = h 4 j) (hn : n ≤ 8) (h118 : ∀ p, p < n → sl p < 14 ∧ g 118 p = (sl p : Int)) (h84 : ∀ i, i < 14 → g 84 i = h 5 i ∧ 0 ≤ h 5 i ∧ h 5 i ≤ 999) (h14 : g 84 14 = h 1 5) (hY : ∀ p, p < n → Yp p = imax 0 (imax 1 (A 115 (fc (h 2 (sl p)) (h 3 (sl p)) (h 4 (sl p)) (sl p) (h 5 (sl p)) 0 (h 1 5) 0)) - h 5 (sl p))) (x3 : Int) :
    ∀ (f k : Nat) (h' : Hp), k ≤ n → n - k < f → fx119 g h' → (∀ p, p < k → h' 119 p = Yp p) → ∃ h'', fx119 g h'' ∧ (∀ p, p < n → h'' 119 p = Yp p) ∧ L_X12_sleepful_57 N f y x3 (n : Int) (k : Int) h' = L_X12_sleepful_126 N N y x3 (n : Int) 0 (-1) 0 0 h''
  | 0, k, _, _, hf, _, _ => absurd hf (by omega)
  | f + 1, k, h', hk, hf, F, Y => by
    unfold L_X12_sleepful_57
    by_cases c : k = n
    · subst c
      rw [if_pos (by omega)]
      exact ⟨h', F, Y, rfl⟩
    · obtain ⟨s14, es⟩ := h118 k (by omega)
      have e118 : h' 118 k = (sl k : Int) := by rw [F 118 k (by omega)]; exact es
      have dd := h84 (sl k) s14
      obtain ⟨g1, e1, f1⟩ := m_byStreet L s14 (G.of (fun c j z => F c j (by omega)) : bM h h') 0 hh (l := 115) (Or.inr (Or.inr rfl))
      rw [F 84 (sl k) (by omega), dd.1, F 84 14 (by omega), h14] at e1
      have g118 : g1 118 k = (sl k : Int) := by rw [f1 118 k (by omega) (by omega)]; exact e118
      have g84 : g1 84 (sl k) = h 5 (sl k) := by rw [f1 84 _ (by omega) (by omega), F 84 _ (by omega)]; exact dd.1
      have hA := L.1 115 (fc (h 2 (sl k)) (h 3 (sl k)) (h 4 (sl k)) (sl k) (h 5 (sl k)) 0 (h 1 5) 0)
      have hm : most 115 = 999 := rfl
      have hA2 : 0 ≤ imax 1 (A 115 (fc (h 2 (sl k)) (h 3 (sl k)) (h 4 (sl k)) (sl k) (h 5 (sl k)) 0 (h 1 5) 0)) ∧ imax 1 (A 115 (fc (h 2 (sl k)) (h 3 (sl k)) (h 4 (sl k)) (sl k) (h 5 (sl k)) 0 (h 1 5) 0)) ≤ 999 := by unfold imax; split <;> omega
      rw [if_neg (by omega), grd_t ⟨by omega, by omega⟩, Int.toNat_natCast, e118, e1, bd_s, s_max, bd_s, grd_t ⟨by omega, by omega⟩, g118, w14 ⟨by omega, by omega⟩, grd_t ⟨by omega, by omega⟩, Int.toNat_natCast, g84, w32_id ⟨by omega, by omega⟩, s_max, bd_s, ← hY k (by omega), grd_t ⟨by omega, by omega⟩, bnd_s, bnd_s, inc (by omega)]
      exact l_bM hN L G hh hn h118 h84 h14 hY x3 f (k + 1) (hw g1 119 k (Yp k)) (by omega) (by omega) (fun c j z => by rw [hw_ne (by omega), f1 c j (by omega) (by omega)]; exact F c j z) (fun p hp => by
        by_cases e : p = k
        · subst e; rw [hw_eq]
        · rw [hw_ne (by omega), f1 119 p (by omega) (by omega)]; exact Y p (by omega))
theorem l_in (hn : n ≤ 8) {h : Hp} (hH : ∀ p, p < n → 0 ≤ Hp' p ∧ Hp' p ≤ 999) (hY : ∀ p, p < n → 0 ≤ Yp p ∧ Yp p ≤ 999) (hs : ∀ p q, p < q → q < n → sl p < sl q) (h118 : ∀ p, p < n → sl p < 14 ∧ h 118 p = (sl p : Int) ∧ h 87 (sl p) = Hp' p) (h119 : ∀ p, p < n → h 119 p = Yp p) {s e : Nat} (hs2 : s < 2147483648) (he : ∀ p, p < n → (e.testBit p = true ↔ s.testBit p = true ∨ Yp p = 0)) (K : Int → Int → Int → Int → Int → Int → Int → Int → Int → Int → Hp → Option (Int × Hp)) (x3 x5 x6 x7 : Int) :
    ∀ f k : Nat, k ≤ n → n - k < f → L_X12_sleepful_147 N K f y x3 (n : Int) x5 x6 x7 (s : Int) (sm (bF Hp' e) k) (sm (bF Yp e) k) (wh sl e k : Nat) (k : Int) h = K y x3 (n : Int) x5 x6 x7 (s : Int) (sm (bF Hp' e) n) (sm (bF Yp e) n) (wh sl e n : Nat) h
  | 0, k, _, hf => absurd hf (by omega)
  | f + 1, k, hk, hf => by
    unfold L_X12_sleepful_147
    by_cases c : k = n
    · subst c; rw [if_pos (by omega)]
    · have ih := l_in hn hH hY hs h118 h119 hs2 he K x3 x5 x6 x7 f (k + 1) (by omega) (by omega)
      have b1 := sm_b (f := bF Yp e) (M := n) (bF_b9 hY) k hk
      have b2 := sm_b (f := bF Hp' e) (M := n) (bF_b9 hH) k hk
      obtain ⟨s14, e118, e87⟩ := h118 k (by omega)
      have c1 := hH k (by omega)
      have c2 := hY k (by omega)
      have w1 := wh_lt hs e k (by omega)
      have p14 : 2 ^ sl k ≤ 2 ^ 14 := Nat.pow_le_pow_right (by decide) (by omega)
      have hek := he k (by omega)
      rw [if_neg (by omega), s_has hs2 ⟨by omega, by omega⟩, bd_s, Int.toNat_natCast]
      unfold J_X12_sleepful_177 J_X12_sleepful_220
      simp only [bnd_s, Int.toNat_natCast]
      simp only [h119 k (by omega), e118, Int.toNat_natCast, e87]
      simp only [grd_t (show 0 ≤ (k : Int) ∧ (k : Int) < 8 from ⟨by omega, by omega⟩), grd_t (show 0 ≤ (sl k : Int) ∧ (sl k : Int) < 14 from ⟨by omega, by omega⟩)]
      rw [inc (by omega)]
      simp only [sm, wh] at ih
      by_cases q : e.testBit k = true
      · rw [if_pos q, show bF Yp e k = Yp k by unfold bF; rw [if_pos q], show bF Hp' e k = Hp' k by unfold bF; rw [if_pos q]] at ih
        have fin : L_X12_sleepful_147 N K f y x3 (n : Int) x5 x6 x7 (s : Int) (w32 (sm (bF Hp' e) k + Hp' k)) (w32 (sm (bF Yp e) k + Yp k)) (ior (wh sl e k : Nat) (ishl 1 (sl k : Int))) ((k + 1 : Nat) : Int) h = K y x3 (n : Int) x5 x6 x7 (s : Int) (sm (bF Hp' e) n) (sm (bF Yp e) n) (wh sl e n : Nat) h := by
          rw [w32_id (x := sm (bF Hp' e) k + Hp' k) ⟨by omega, by omega⟩, w32_id (x := sm (bF Yp e) k + Yp k) ⟨by omega, by omega⟩, ishl_1 (by omega), ior_nat (by omega) (by omega)]
          exact ih
        rcases btN_01 s k with b | b
        · rw [if_pos b]
          have nb : ¬ s.testBit k = true := fun z => by rw [btN_1.mpr z] at b; cases b
          have y0 : Yp k = 0 := (hek.mp q).resolve_left nb
          rw [if_pos (by omega)]
          exact fin
        · rw [if_neg (by rw [b]; decide)]
          exact fin
      · have nb : ¬ s.testBit k = true := fun z => q (hek.mpr (Or.inl z))
        have y0 : ¬ Yp k = 0 := fun z => q (hek.mpr (Or.inr z))
        rw [if_neg q, show bF Yp e k = 0 by unfold bF; rw [if_neg q], show bF Hp' e k = 0 by unfold bF; rw [if_neg q], Int.add_zero, Int.add_zero] at ih
        rw [if_pos (by unfold btN; rw [if_neg nb]), if_neg (by omega)]
        exact ih
def MS (n : Nat) (Hp' Yp : Nat → Int) (sl : Nat → Nat) (y : Int) (al k : Nat) (W M F : Int) : Prop := (M = -1 ∧ ∀ s, s < k → ¬ sm (bF Yp (s ||| al)) n ≤ y) ∨ ∃ b : Nat, b < 2 ^ n ∧ b &&& al = al ∧ sm (bF Yp b) n ≤ y ∧ W = ((wh sl b n : Nat) : Int) ∧ M = sm (bF Hp' b) n ∧ F = sm (bF Yp b) n ∧ ∀ s, s < k → sm (bF Yp (s ||| al)) n ≤ y → be n Hp' Yp b (s ||| al)
theorem or_al (s al : Nat) : (s ||| al) &&& al = al := by
  apply Nat.eq_of_testBit_eq
  intro i
  rw [Nat.testBit_and, Nat.testBit_or]
  cases s.testBit i <;> cases al.testBit i <;> rfl
theorem al_or {s al : Nat} (h : s &&& al = al) : s ||| al = s := by
  apply Nat.eq_of_testBit_eq
  intro i
  have := congrArg (fun z => Nat.testBit z i) h
  simp only [Nat.testBit_and] at this
  rw [Nat.testBit_or]
  revert this
  cases s.testBit i <;> cases al.testBit i <;> simp
theorem l_allM (hN : 1000000 ≤ N) (hn : n ≤ 8) {h : Hp} (hH : ∀ p, p < n → 0 ≤ Hp' p ∧ Hp' p ≤ 999) (hY : ∀ p, p < n → 0 ≤ Yp p ∧ Yp p ≤ 999) (hs : ∀ p q, p < q → q < n → sl p < sl q) (h118 : ∀ p, p < n → sl p < 14 ∧ h 118 p = (sl p : Int) ∧ h 87 (sl p) = Hp' p) (h119 : ∀ p, p < n → h 119 p = Yp p) {al : Nat} (hal : al < 2 ^ n) (hat : ∀ p, p < n → (al.testBit p = true ↔ Yp p = 0)) (x3 : Int) :
    ∀ (d f k : Nat) (W M F : Int), k + d = 2 ^ n → d < f → MS n Hp' Yp sl y al k W M F → ∃ W' M' F', MS n Hp' Yp sl y al (2 ^ n) W' M' F' ∧ L_X12_sleepful_126 N f y x3 (n : Int) W M F (k : Int) h = some (if x3 = 0 then M' else if x3 = 1 then F' else W', h)
  | _, 0, _, _, _, _, _, hf, _ => absurd hf (by omega)
  | d, f + 1, k, W, M, F, hk, hf, X => by
    have p8 : 2 ^ n ≤ 2 ^ 8 := Nat.pow_le_pow_right (by decide) hn
    unfold L_X12_sleepful_126
    rw [ishl_1 (by omega)]
    cases d with
    | zero =>
      obtain rfl : k = 2 ^ n := by omega
      rw [if_pos (by omega)]
      refine ⟨W, M, F, X, ?_⟩
      by_cases q0 : x3 = 0
      · rw [if_pos q0, if_pos q0]
      · rw [if_neg q0, if_neg q0]
        by_cases q1 : x3 = 1
        · rw [if_pos q1, if_pos q1]
        · rw [if_neg q1, if_neg q1]
    | succ d =>
      have ek : k ||| al < 2 ^ n := Nat.or_lt_two_pow (by omega) hal
      have hin := l_in (N := N) (y := y) (s := k) (e := k ||| al) hn hH hY hs h118 h119 (by omega) (fun p hp => by rw [Nat.testBit_or, Bool.or_eq_true, hat p hp])
      have hin2 := fun K => hin K x3 W M F N 0 (by omega) (by omega)
      rw [if_neg (by omega)]
      have e0 : ((0 : Nat) : Int) = 0 := rfl
      simp only [sm, wh, e0] at hin2
      rw [hin2]
      have b2 := sm_b (f := bF Hp' (k ||| al)) (M := n) (bF_b9 hH) n (Nat.le_refl _)
      unfold J_X12_sleepful_270 J_X12_sleepful_282
      simp only [bnd_s]
      rw [inc (by omega)]
      have rec0 := fun W M F => l_allM hN hn hH hY hs h118 h119 hal hat x3 d f (k + 1) W M F (by omega) (by omega)
      have skip : (sm (bF Yp (k ||| al)) n ≤ y → ∀ b, b < 2 ^ n → W = ((wh sl b n : Nat) : Int) → M = sm (bF Hp' b) n → F = sm (bF Yp b) n → be n Hp' Yp b (k ||| al)) → (M = -1 → ¬ sm (bF Yp (k ||| al)) n ≤ y) → MS n Hp' Yp sl y al (k + 1) W M F := by
        intro z1 z2
        rcases X with ⟨x1, x2⟩ | ⟨b, x1, x2, x3, x4, x5, x6, x7⟩
        · refine Or.inl ⟨x1, fun s hs => ?_⟩
          by_cases e : s = k
          · subst e; exact z2 x1
          · exact x2 s (by omega)
        · refine Or.inr ⟨b, x1, x2, x3, x4, x5, x6, fun s hs q => ?_⟩
          by_cases e : s = k
          · subst e; exact z1 q b x1 x4 x5 x6
          · exact x7 s (by omega) q
      have take : sm (bF Yp (k ||| al)) n ≤ y → (∀ b, b < 2 ^ n → W = ((wh sl b n : Nat) : Int) → M = sm (bF Hp' b) n → F = sm (bF Yp b) n → be n Hp' Yp (k ||| al) b) → MS n Hp' Yp sl y al (k + 1) ((wh sl (k ||| al) n : Nat) : Int) (sm (bF Hp' (k ||| al)) n) (sm (bF Yp (k ||| al)) n) := by
        intro z1 z2
        refine Or.inr ⟨k ||| al, ek, or_al k al, z1, rfl, rfl, rfl, fun s hs q => ?_⟩
        by_cases e : s = k
        · subst e; exact Or.inr ⟨rfl, Or.inr ⟨rfl, Nat.le_refl _⟩⟩
        · rcases X with ⟨x1, x2⟩ | ⟨b, x1, x2, x3, x4, x5, x6, x7⟩
          · exact absurd q (x2 s (by omega))
          · exact be_tr (z2 b x1 x4 x5 x6) (x7 s (by omega) q)
      have cmp : ∀ b, b < 2 ^ n → (wh sl (k ||| al) n < wh sl b n ↔ k ||| al < b) := fun b hb => by
        have := wh_cmp hs (k ||| al) b n (Nat.le_refl _)
        rw [Nat.mod_eq_of_lt ek, Nat.mod_eq_of_lt hb] at this
        exact this
      by_cases q1 : y < sm (bF Yp (k ||| al)) n
      · rw [if_pos q1]
        exact rec0 W M F (skip (fun z => absurd z (by omega)) (fun _ => by omega))
      · rw [if_neg q1]
        by_cases q2 : sm (bF Hp' (k ||| al)) n < M
        · rw [if_pos q2]
          exact rec0 W M F (skip (fun _ b _ _ z _ => Or.inl (by rw [← z]; exact q2)) (fun z => by omega))
        · rw [if_neg q2]
          by_cases q3 : sm (bF Hp' (k ||| al)) n = M
          · rw [if_pos q3]
            by_cases q4 : F < sm (bF Yp (k ||| al)) n
            · rw [if_pos q4]
              exact rec0 W M F (skip (fun _ b _ _ z z2 => Or.inr ⟨by rw [q3, z], Or.inl (by rw [← z2]; exact q4)⟩) (fun z => by omega))
            · rw [if_neg q4]
              by_cases q5 : sm (bF Yp (k ||| al)) n = F
              · rw [if_pos q5]
                by_cases q6 : ((wh sl (k ||| al) n : Nat) : Int) < W
                · rw [if_pos q6]
                  exact rec0 _ _ _ (take (by omega) (fun b hb w1 w2 w3 => Or.inr ⟨by rw [q3, w2], Or.inr ⟨by rw [q5, w3], by
                    have := (cmp b hb).mp (by omega)
                    omega⟩⟩))
                · rw [if_neg q6]
                  exact rec0 W M F (skip (fun _ b hb w1 w2 w3 => Or.inr ⟨by rw [q3, w2], Or.inr ⟨by rw [q5, w3], by
                    have := cmp b hb
                    omega⟩⟩) (fun z => by omega))
              · rw [if_neg q5]
                exact rec0 _ _ _ (take (by omega) (fun b hb w1 w2 w3 => Or.inr ⟨by rw [q3, w2], Or.inl (by rw [← w3]; omega)⟩))
          · rw [if_neg q3]
            exact rec0 _ _ _ (take (by omega) (fun b hb w1 w2 w3 => Or.inl (by rw [← w2]; omega)))
end SL
theorem op_sleepful {N : Nat} (hN : 1000000 ≤ N) : ∀ a1 : Int, inR a1 → ∀ a2 : Int, inR a2 → ∀ a3 : Int, inR a3 → Sm (Inv N) (F_X11_sleepful N a1 a2 a3) (F_X12_sleepful N a1 a2 a3) := by
  intro y _ x2 r2 w _ h hok hI
  obtain ⟨t, i1, i2, i3, i4, i5, i6, i7, i8, ⟨i9, A, L⟩, i10⟩ := id hI
  have ht := i1.1
  unfold F_X11_sleepful F_X12_sleepful
  rw [s_isWithin, bd_s]
  by_cases cy : 0 ≤ y ∧ y ≤ 300
  rotate_left
  · refine ⟨-1, h, h, by rw [if_neg cy, if_pos rfl], by rw [s_in, bd_s, if_neg cy, if_pos rfl], hI⟩
  rw [if_pos cy, if_neg (by decide)]
  by_cases cz : iand x2 (ixor (t : Int) (-1)) = 0
  rotate_left
  · refine ⟨-1, h, h, by rw [s_told_n cz i1.2.1, bd_s, if_pos rfl], ?_, hI⟩
    rw [s_in, bd_s, if_pos cy, if_neg (by decide), i1.2.2, if_neg cz]
    split <;> rfl
  obtain ⟨u, rfl, hu, hs⟩ := (sub_iff r2 ht).mp cz
  have hcp := cn_pos hu
  rw [s_told_y hu ht hs i1.2.1, bd_s]
  by_cases cc : 1 ≤ (cn u : Int) ∧ (cn u : Int) ≤ 8
  rotate_left
  · refine ⟨-1, h, h, by rw [if_neg cc, if_pos rfl], ?_, hI⟩
    rw [s_in, bd_s, if_pos cy, if_neg (by decide), i1.2.2]
    by_cases c1 : (u : Int) < 1
    · rw [if_pos c1]
    · rw [if_neg c1, if_pos cz, s_bits hN hu, bd_s, if_pos (by omega)]
  rw [if_pos cc, if_neg (by decide), s_isWithin, bd_s]
  have c1 : ¬ (u : Int) < 1 := by omega
  by_cases cw : 0 ≤ w ∧ w ≤ 2
  rotate_left
  · refine ⟨-1, h, h, by rw [if_neg cw, if_pos rfl], ?_, hI⟩
    rw [s_in, bd_s, if_pos cy, if_neg (by decide), if_neg c1, i1.2.2, if_pos cz, s_bits hN hu, bd_s, if_neg (by omega), s_in, bd_s, if_neg cw, if_pos rfl]
  rw [if_pos cw, if_neg (by decide)]
  have hn : cn u ≤ 8 := by omega
  obtain ⟨n, en⟩ : ∃ n, n = cn u := ⟨_, rfl⟩
  obtain ⟨sl, esl⟩ : ∃ sl : Nat → Nat, sl = sel u := ⟨_, rfl⟩
  have sl14 : ∀ p, p < n → sl p < 14 := fun p hp => by rw [esl]; exact (sel_ok (by omega)).1
  have sli : ∀ p q, p < q → q < n → sl p < sl q := fun p q h1 h2 => by rw [esl]; exact sel_lt h1 (by omega)
  obtain ⟨Yp, eY⟩ : ∃ Yp : Nat → Int, Yp = fun p => imax 0 (imax 1 (A 115 (fc (h 2 (sl p)) (h 3 (sl p)) (h 4 (sl p)) (sl p) (h 5 (sl p)) 0 (h 1 5) 0)) - h 5 (sl p)) := ⟨_, rfl⟩
  obtain ⟨Hp', eH⟩ : ∃ Hp' : Nat → Int, Hp' = fun p => h 2 (sl p) := ⟨_, rfl⟩
  have hYe : ∀ p, p < n → Yp p = imax 0 (imax 1 (A 115 (fc (h 2 (sl p)) (h 3 (sl p)) (h 4 (sl p)) (sl p) (h 5 (sl p)) 0 (h 1 5) 0)) - h 5 (sl p)) := fun p _ => by rw [eY]
  have hY : ∀ p, p < n → 0 ≤ Yp p ∧ Yp p ≤ 999 := fun p hp => by
    rw [hYe p hp]
    have hA := L.1 115 (fc (h 2 (sl p)) (h 3 (sl p)) (h 4 (sl p)) (sl p) (h 5 (sl p)) 0 (h 1 5) 0)
    have hm : most 115 = 999 := rfl
    have d := i3 (sl p) (sl14 p hp)
    unfold imax
    split <;> split <;> omega
  have hH : ∀ p, p < n → 0 ≤ Hp' p ∧ Hp' p ≤ 999 := fun p hp => by
    have := (i2 (sl p) (sl14 p hp)).1
    rw [eH]
    exact ⟨this.2.1, by have := this.2.2; show h 2 (sl p) ≤ 999; omega⟩
  obtain ⟨ha, a1, a2, a3, a4⟩ := s_choose (N := N) hN hu hn h
  rw [a4, bv_s]
  rw [← en] at a2 a3
  have bx : bX h ha := (show bX h h from ⟨⟨fun _ _ _ => rfl, rfl⟩, fun _ _ => rfl, fun _ => rfl⟩).of (fun c j z => a1 c j (by omega) (by omega))
  have ha70 : ∀ p, p < n → sl p < 14 ∧ ha 70 p = (sl p : Int) := fun p hp => ⟨sl14 p hp, by rw [esl]; exact a3 p hp⟩
  obtain ⟨hb, b1, b2, b3⟩ := l_bX (N := N) (y := y) (Yp := Yp) hN L bx (by omega) a2 ha70 (fun i hi => ⟨by rw [a1 5 i (by omega) (by omega)], (i3 i hi).2.1, (i3 i hi).2.2.1⟩) hYe N 0 ha (by omega) (by omega) (fun _ _ _ => rfl) (fun p hp => absurd hp (by omega))
  obtain ⟨hc, ehc⟩ : ∃ hc, hc = hw hb 69 7 (-1) := ⟨_, rfl⟩
  rw [← ehc] at b3
  have fc1 : ∀ c j, ¬ (c = 69 ∧ j = 7) → hc c j = hb c j := fun c j z => by rw [ehc, hw_ne z]
  have p8 : 2 ^ n ≤ 2 ^ 8 := Nat.pow_le_pow_right (by decide) (by omega)
  obtain ⟨al, eal⟩ : ∃ al, al = alf Yp n := ⟨_, rfl⟩
  have hal : al < 2 ^ n := by rw [eal]; exact alf_lt Yp n
  have hat : ∀ p, p < n → (al.testBit p = true ↔ Yp p = 0) := fun p hp => by
    rw [eal, alf_t]
    exact ⟨fun z => z.2, fun z => ⟨hp, z⟩⟩
  obtain ⟨hd, d1, d2, d3⟩ := l_sets (N := N) (y := y) (g := hc) (sl := sl) (Hp' := Hp') (Yp := Yp) (al := al) hN (by omega) (by rw [fc1 69 4 (by omega), b1 69 4 (by omega)]; exact a2) hH hY (fun p hp => ⟨sl14 p hp, by rw [fc1 70 p (by omega), b1 70 p (by omega)]; exact (ha70 p hp).2, by rw [fc1 2 _ (by omega), b1 2 _ (by omega), a1 2 _ (by omega) (by omega), eH]⟩) (fun p hp => by rw [fc1 71 p (by omega)]; exact b2 p hp) hal (2 ^ n) N 0 hc (by omega) (by omega) (fun _ _ _ => rfl) (Or.inl ⟨by rw [ehc, hw_eq], fun s hs => absurd hs (by omega)⟩)
  have eF : F_X9_findSleepful N y ha = some hd := by
    have : F_X9_findSleepful N y ha = L_X9_findSleepful_5 N N y ((alf Yp 0 : Nat) : Int) ((0 : Nat) : Int) ha := rfl
    rw [this, b3, ← eal]
    exact d3
  rw [eF, bv_s]
  have fd : ∀ c j, ¬ ((43 ≤ c ∧ c ≤ 82) ∨ c = 18 ∨ c = 19 ∨ (c = 11 ∧ (j = 10 ∨ j = 11))) → hd c j = h c j := fun c j z => by
    rw [d1 c j (by omega), fc1 c j (by omega), b1 c j (by omega), a1 c j (by omega) (by omega)]
  -- the reference
  obtain ⟨ka, k1, k2, k3⟩ := s_who (N := N) hN hu hn hd
  have bm : bM h ka := (show bM h h from ⟨⟨fun _ _ _ => rfl, rfl⟩, fun _ _ => rfl⟩).of (fun c j z => by rw [k1 c j (by omega), fd c j (by omega)])
  have hh : ∀ j, j < 14 → h 87 j = h 2 j ∧ h 88 j = h 3 j ∧ h 89 j = h 4 j := fun j hj => ⟨(i2 j hj).1.1, (i2 j hj).2.1.1, (i2 j hj).2.2.1⟩
  have k118 : ∀ p, p < n → sl p < 14 ∧ ka 118 p = (sl p : Int) := fun p hp => ⟨sl14 p hp, by rw [esl]; exact k2 p (by omega)⟩
  obtain ⟨kb, m1, m2, m3⟩ := l_bM (N := N) (y := y) (Yp := Yp) hN L bm hh (by omega) k118 (fun i hi => ⟨by rw [k1 84 i (by omega), fd 84 i (by omega)]; exact (i3 i hi).1, (i3 i hi).2.1, (i3 i hi).2.2.1⟩) (by rw [k1 84 14 (by omega), fd 84 14 (by omega)]; exact i4.1) hYe w N 0 ka (by omega) (by omega) (fun _ _ _ => rfl) (fun p hp => absurd hp (by omega))
  obtain ⟨W, M, F, q1, q2⟩ := l_allM (N := N) (y := y) (h := kb) (Hp' := Hp') (Yp := Yp) (sl := sl) hN (by omega) hH hY sli (fun p hp => ⟨sl14 p hp, by rw [m1 118 p (by omega)]; exact (k118 p hp).2, by rw [m1 87 _ (by omega), k1 87 _ (by omega), fd 87 _ (by omega), (hh _ (sl14 p hp)).1, eH]⟩) m2 hal hat w (2 ^ n) N 0 0 (-1) 0 (by omega) (by omega) (Or.inl ⟨rfl, fun s hs => absurd hs (by omega)⟩)
  have yal : sm (bF Yp al) n ≤ y := by
    have : ∀ k, k ≤ n → sm (bF Yp al) k = 0 := by
      intro k
      induction k with
      | zero => intro _; rfl
      | succ k ih =>
        intro hk
        simp only [sm]
        rw [ih (by omega)]
        unfold bF
        by_cases z : al.testBit k = true
        · rw [if_pos z, (hat k (by omega)).mp z]; rfl
        · rw [if_neg z]; rfl
    rw [this n (Nat.le_refl _)]
    exact cy.1
  have aa : al &&& al = al := Nat.and_self al
  have uu : al ||| al = al := al_or aa
  rcases d2 with ⟨x1, x2⟩ | ⟨b, x1, x2, x3, x4, x5, x6, x7⟩
  · exact absurd yal (x2 al hal aa)
  rcases q1 with ⟨z1, z2⟩ | ⟨b', z1, z2, z3, z4, z5, z6, z7⟩
  · exact absurd (by rw [uu]; exact yal) (z2 al hal)
  obtain rfl : b = b' := by
    refine be_as (x7 b' z1 z2 z3) ?_
    have := z7 b x1 (by rw [al_or x2]; exact x3)
    rw [al_or x2] at this
    exact this
  have eM : F_X12_sleepful N y (u : Int) w hd = some (if w = 0 then M else if w = 1 then F else W, kb) := by
    unfold F_X12_sleepful
    rw [s_in, bd_s, if_pos cy, if_neg (by decide), if_neg c1, fd 83 12 (by omega), i1.2.2, if_pos cz, s_bits hN hu, bd_s, if_neg (by omega), s_in, bd_s, if_pos cw, if_neg (by decide), k3, bd_s, ← en]
    exact m3.trans q2
  have slp : F_X9_sleepingStreets N hd = some (((wh sl b n : Nat) : Int), hd) := l_slst (N := N) (n := n) (sl := sl) (by omega) (by rw [d1 69 4 (by omega), fc1 69 4 (by omega), b1 69 4 (by omega)]; exact a2) (fun p hp => ⟨sl14 p hp, by rw [d1 70 p (by omega), fc1 70 p (by omega), b1 70 p (by omega)]; exact (ha70 p hp).2⟩) sli (by omega) x4 N 0 (by omega) (by omega)
  refine ⟨if w = 0 then M else if w = 1 then F else W, hd, kb, ?_, eM, hI.ag (fun c j z => by unfold scr at z; rw [m1 c j (by omega), k1 c j (by omega), fd c j (by omega)])⟩
  unfold F_X9_houses F_X9_spent
  simp only [bd_s, slp]
  rw [x5, x6, z4, z5, z6]
  by_cases w0 : w = 0
  · rw [if_pos w0, if_pos w0]
  · rw [if_neg w0, if_neg w0]
    by_cases w1 : w = 1
    · rw [if_pos w1, if_pos w1]
    · rw [if_neg w1, if_neg w1]
