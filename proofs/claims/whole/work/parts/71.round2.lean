/-! ROUND, ON THE HEAP -/
abbrev rok (n p : Nat) : Prop := p < n ∨ p = 7
def RG (n : Nat) (st : Nat → Nat) (E : Nat → Nat → Int) (g : Hp) : Prop := g 65 4 = (n : Int) ∧ (∀ p, rok n p → st p < 14 ∧ g 66 p = (st p : Int)) ∧ ∀ a b, rok n a → rok n b → g 10 (14 * st a + st b) = E a b ∧ 0 ≤ E a b ∧ E a b ≤ 1386
abbrev tb (h : Hp) (s l : Nat) : Int := h 67 (8 * s + l)
theorem cn_dl : ∀ s : Nat, s < 128 → ∀ k : Nat, k < 7 → s.testBit k = true → cn (dl s k) + 1 = cn s := by decide +kernel
theorem cn_full : ∀ n : Nat, n < 8 → cn (2 ^ n - 1) = n := by decide +kernel
section RD
variable {N n : Nat} {st : Nat → Nat} {E : Nat → Nat → Int} {g h : Hp}
theorem RG.ag (H : RG n st E g) (e : ∀ c j, ¬ (c = 67 ∨ c = 68) → h c j = g c j) : RG n st E h := ⟨by rw [e 65 4 (by omega)]; exact H.1, fun p hp => ⟨(H.2.1 p hp).1, by rw [e 66 p (by omega)]; exact (H.2.1 p hp).2⟩, fun a b ha hb => by rw [e 10 _ (by omega)]; exact H.2.2 a b ha hb⟩
theorem s_mbt (hn : 1 ≤ n ∧ n ≤ 7) (H : RG n st E h) {a b : Nat} (ha : rok n a) (hb : rok n b) : F_X8_minutesBetween N (a : Int) (b : Int) h = some (E a b, h) := by
  have h1 := H.2.1 a ha
  have h2 := H.2.1 b hb
  unfold F_X8_minutesBetween
  rw [grd_t ⟨by omega, by omega⟩, grd_t ⟨by omega, by omega⟩, Int.toNat_natCast, Int.toNat_natCast, h1.2, h2.2, s_btw h1.1 h2.1, bd_s, (H.2.2 a b ha hb).1]
theorem s_mov (hn : 1 ≤ n ∧ n ≤ 7) (H : RG n st E h) {l k s : Nat} (hl : rok n l) (hk : k < n) (hs : s < 2 ^ n) (hb : 0 ≤ tb h (dl s k) k ∧ tb h (dl s k) k ≤ 1000000) : F_X8_minutesOver N (l : Int) (k : Int) (s : Int) h = some (E l k + tb h (dl s k) k, h) := by
  have p7 : 2 ^ n ≤ 2 ^ 7 := Nat.pow_le_pow_right (by decide) hn.2
  have d1 := dl_le s k (by omega) (by omega)
  have e1 := (H.2.2 l k hl (Or.inl hk)).2
  unfold F_X8_minutesOver
  rw [s_mbt hn H hl (Or.inl hk), bd_s, dl_and s (by omega) k (by omega)]
  obtain ⟨d, ed⟩ : ∃ d, d = dl s k := ⟨_, rfl⟩
  rw [← ed] at d1 hb ⊢
  have hb' : 0 ≤ h 67 (8 * d + k) ∧ h 67 (8 * d + k) ≤ 1000000 := hb
  rw [w32_id (x := (d : Int) * 8) ⟨by omega, by omega⟩, w32_id (x := (d : Int) * 8 + k) ⟨by omega, by omega⟩, grd_t ⟨by omega, by omega⟩, show ((d : Int) * 8 + k).toNat = 8 * d + k by omega, w32_id ⟨by omega, by omega⟩]
theorem l_lf (hn : 1 ≤ n ∧ n ≤ 7) (H : RG n st E h) {l s : Nat} (hl : rok n l) (hs : s < 2 ^ n) (hb : ∀ k, k < n → s.testBit k = true → 0 ≤ tb h (dl s k) k ∧ tb h (dl s k) k ≤ 1000000) :
    ∀ (q k : Nat) (x : Int), k ≤ n → n - k < q → (∀ i, i < k → s.testBit i = true → x ≤ E l i + tb h (dl s i) i) → ((x = 2147483647 ∧ ∀ i, i < k → ¬ s.testBit i = true) ∨ ∃ i, i < k ∧ s.testBit i = true ∧ x = E l i + tb h (dl s i) i) → ∃ v, L_X8_leastFrom_18 N q (l : Int) (s : Int) x (k : Int) h = some (v, h) ∧ (∀ i, i < n → s.testBit i = true → v ≤ E l i + tb h (dl s i) i) ∧ ((v = 2147483647 ∧ ∀ i, i < n → ¬ s.testBit i = true) ∨ ∃ i, i < n ∧ s.testBit i = true ∧ v = E l i + tb h (dl s i) i)
  | 0, k, _, _, hq, _, _ => absurd hq (by omega)
  | q + 1, k, x, hk, hq, A, B => by
    have p7 : 2 ^ n ≤ 2 ^ 7 := Nat.pow_le_pow_right (by decide) hn.2
    unfold L_X8_leastFrom_18 J_X8_leastFrom_49
    simp only [bnd_s]
    rw [H.1]
    by_cases c : k = n
    · subst c
      rw [if_pos (by omega)]
      exact ⟨x, rfl, A, B⟩
    · rw [if_neg (by omega), s_hasBit (by omega) ⟨by omega, by omega⟩, bd_s, Int.toNat_natCast, inc (by omega)]
      by_cases z : s.testBit k = true
      · have b1 := hb k (by omega) z
        have e1 := (H.2.2 l k hl (Or.inl (by omega))).2
        rw [if_neg (by rw [btN_1.mpr z]; decide), s_mov hn H hl (by omega) hs b1, bd_s]
        refine l_lf hn H hl hs hb q (k + 1) _ (by omega) (by omega) (fun i hi bi => ?_) ?_
        · by_cases y : i = k
          · subst y; exact imin_le2 _ _
          · exact Int.le_trans (imin_le1 _ _) (A i (by omega) bi)
        · by_cases y : E l k + tb h (dl s k) k < x
          · exact Or.inr ⟨k, by omega, z, by unfold imin; rw [if_pos y]⟩
          · have ei : imin x (E l k + tb h (dl s k) k) = x := by unfold imin; rw [if_neg y]
            rw [ei]
            rcases B with ⟨b2, -⟩ | ⟨i, b2, b3, b4⟩
            · omega
            · exact Or.inr ⟨i, by omega, b3, b4⟩
      · rw [if_pos (btN_0 z)]
        refine l_lf hn H hl hs hb q (k + 1) x (by omega) (by omega) (fun i hi bi => ?_) ?_
        · by_cases y : i = k
          · subst y; exact absurd bi z
          · exact A i (by omega) bi
        · rcases B with ⟨b2, b3⟩ | ⟨i, b2, b3, b4⟩
          · refine Or.inl ⟨b2, fun i hi => ?_⟩
            by_cases y : i = k
            · subst y; exact z
            · exact b3 i (by omega)
          · exact Or.inr ⟨i, by omega, b3, b4⟩
theorem bit_ex {s n : Nat} (hs : s < 2 ^ n) (h0 : s ≠ 0) : ∃ i, i < n ∧ s.testBit i = true := by
  obtain ⟨i, hi⟩ := Nat.exists_testBit_of_ne_zero h0
  refine ⟨i, Nat.lt_of_not_le (fun z => ?_), hi⟩
  rw [Nat.testBit_lt_two_pow (Nat.lt_of_lt_of_le hs (Nat.pow_le_pow_right (by decide) z))] at hi
  cases hi
/-- the value by the rule -/
def LV (E T : Nat → Nat → Int) (n s l : Nat) (v : Int) : Prop := (s = 0 → v = E l 7) ∧ (s ≠ 0 → (∀ k, k < n → s.testBit k = true → v ≤ E l k + T (dl s k) k) ∧ ∃ k, k < n ∧ s.testBit k = true ∧ v = E l k + T (dl s k) k)
theorem LV_u {T : Nat → Nat → Int} {s l : Nat} {v w : Int} (h1 : LV E T n s l v) (h2 : LV E T n s l w) : v = w := by
  by_cases z : s = 0
  · rw [h1.1 z, h2.1 z]
  · obtain ⟨a1, k, a2, a3, a4⟩ := h1.2 z
    obtain ⟨b1, j, b2, b3, b4⟩ := h2.2 z
    have := a1 j b2 b3
    have := b1 k a2 a3
    omega
theorem s_lf (hN : 1000000 ≤ N) (hn : 1 ≤ n ∧ n ≤ 7) (H : RG n st E h) {l s : Nat} (hl : rok n l) (hs : s < 2 ^ n) (hb : ∀ k, k < n → s.testBit k = true → 0 ≤ tb h (dl s k) k ∧ tb h (dl s k) k ≤ 1000000) : ∃ v, F_X8_leastFrom N (l : Int) (s : Int) h = some (v, h) ∧ LV E (tb h) n s l v := by
  unfold F_X8_leastFrom
  by_cases z : s = 0
  · subst z
    have e7 : F_X8_minutesBetween N (l : Int) 7 h = some (E l 7, h) := s_mbt (N := N) hn H hl (Or.inr rfl)
    rw [if_pos (show ((0 : Nat) : Int) = 0 from rfl), e7, bd_s]
    exact ⟨_, rfl, fun _ => rfl, fun y => absurd rfl y⟩
  · rw [if_neg (by omega)]
    obtain ⟨v, a1, a2, a3⟩ := l_lf (N := N) hn H hl hs hb N 0 2147483647 (by omega) (by omega) (fun i hi => absurd hi (by omega)) (Or.inl ⟨rfl, fun i hi => absurd hi (by omega)⟩)
    refine ⟨v, a1, fun y => absurd y z, fun _ => ⟨a2, ?_⟩⟩
    rcases a3 with ⟨-, b⟩ | b
    · obtain ⟨i, c1, c2⟩ := bit_ex hs z
      exact absurd c2 (b i c1)
    · exact b
def TP (E : Nat → Nat → Int) (n : Nat) (h : Hp) (s l : Nat) : Prop := 0 ≤ tb h s l ∧ tb h s l ≤ 1386 * ((s : Int) + 1) ∧ LV E (tb h) n s l (tb h s l)
theorem LV_c {T T' : Nat → Nat → Int} {s l : Nat} {v : Int} (e : ∀ k, k < n → s.testBit k = true → T' (dl s k) k = T (dl s k) k) (H : LV E T n s l v) : LV E T' n s l v := by
  refine ⟨H.1, fun z => ?_⟩
  obtain ⟨a1, k, a2, a3, a4⟩ := H.2 z
  exact ⟨fun k hk bk => by rw [e k hk bk]; exact a1 k hk bk, k, a2, a3, by rw [e k a2 a3]; exact a4⟩
theorem tb_w {s l s' l' : Nat} {v : Int} (hl : l < 8) (hl' : l' < 8) (h1 : ¬ (s' = s ∧ l' = l)) : tb (hw h 67 (8 * s + l) v) s' l' = tb h s' l' := hw_ne (by omega)
theorem TP_w (hn : 1 ≤ n ∧ n ≤ 7) {s l s' l' : Nat} {v : Int} (hs : s < 2 ^ n) (hl : l < 8) (hl' : l' < 8) (h1 : ¬ (s' = s ∧ l' = l)) (h2 : s' ≤ s) (H : TP E n h s' l') : TP E n (hw h 67 (8 * s + l) v) s' l' := by
  have p7 : 2 ^ n ≤ 2 ^ 7 := Nat.pow_le_pow_right (by decide) hn.2
  unfold TP
  rw [tb_w hl hl' h1]
  refine ⟨H.1, H.2.1, LV_c (fun k hk bk => ?_) H.2.2⟩
  have := dl_lt s' (by omega) k (by omega) bk
  exact tb_w hl (by omega) (by omega)
theorem TP_n (hn : 1 ≤ n ∧ n ≤ 7) (H : RG n st E h) {s l : Nat} {v : Int} (hs : s < 2 ^ n) (hl : rok n l) (B : ∀ s' l', s' < s → l' < n → TP E n h s' l') (hv : LV E (tb h) n s l v) : TP E n (hw h 67 (8 * s + l) v) s l := by
  have p7 : 2 ^ n ≤ 2 ^ 7 := Nat.pow_le_pow_right (by decide) hn.2
  have e : tb (hw h 67 (8 * s + l) v) s l = v := hw_eq
  unfold TP
  rw [e]
  have hb : 0 ≤ v ∧ v ≤ 1386 * ((s : Int) + 1) := by
    by_cases z : s = 0
    · rw [hv.1 z]
      have := (H.2.2 l 7 hl (Or.inr rfl)).2
      omega
    · obtain ⟨-, k, a2, a3, a4⟩ := hv.2 z
      have d := dl_lt s (by omega) k (by omega) a3
      have t := B (dl s k) k d a2
      have := (H.2.2 l k hl (Or.inl a2)).2
      have t1 := t.1
      have t2 := t.2.1
      omega
  refine ⟨hb.1, hb.2, LV_c (fun k hk bk => ?_) hv⟩
  have := dl_lt s (by omega) k (by omega) bk
  exact tb_w (by omega) (by omega) (by omega)
theorem tb_b (hn : 1 ≤ n ∧ n ≤ 7) {s : Nat} (hs : s < 2 ^ n) (B : ∀ s' l', s' < s → l' < n → TP E n h s' l') : ∀ k, k < n → s.testBit k = true → 0 ≤ tb h (dl s k) k ∧ tb h (dl s k) k ≤ 1000000 := fun k hk bk => by
  have p7 : 2 ^ n ≤ 2 ^ 7 := Nat.pow_le_pow_right (by decide) hn.2
  have d := dl_lt s (by omega) k (by omega) bk
  have t := B (dl s k) k d hk
  have t1 := t.1
  have t2 := t.2.1
  omega
def ex67 (g h : Hp) : Prop := ∀ c j, ¬ c = 67 → h c j = g c j
theorem l_f93 (hN : 1000000 ≤ N) (hn : 1 ≤ n ∧ n ≤ 7) (H : RG n st E g) (K : Int → Hp → Option (Int × Hp)) {s : Nat} (hs : s < 2 ^ n) : ∀ (q l : Nat) (h : Hp), l ≤ n → n - l < q → ex67 g h → (∀ s' l', s' < s → l' < n → TP E n h s' l') → (∀ l', l' < l → TP E n h s l') → ∃ h', ex67 g h' ∧ (∀ s' l', s' < s + 1 → l' < n → TP E n h' s' l') ∧ L_X8_find_93 N K q (s : Int) (l : Int) h = K (s : Int) h'
  | 0, l, _, _, hq, _, _, _ => absurd hq (by omega)
  | q + 1, l, h, hl, hq, F, B, C => by
    have p7 : 2 ^ n ≤ 2 ^ 7 := Nat.pow_le_pow_right (by decide) hn.2
    have Hh : RG n st E h := H.ag (fun c j z => F c j (by omega))
    unfold L_X8_find_93
    rw [Hh.1]
    by_cases c : l = n
    · subst c
      rw [if_pos (by omega)]
      refine ⟨h, F, fun s' l' h1 h2 => ?_, rfl⟩
      by_cases z : s' = s
      · subst z; exact C l' h2
      · exact B s' l' (by omega) h2
    · obtain ⟨v, a1, a2⟩ := s_lf (N := N) hN hn Hh (l := l) (Or.inl (by omega)) hs (tb_b hn hs B)
      rw [if_neg (by omega), a1, bd_s, w32_id (x := (s : Int) * 8) ⟨by omega, by omega⟩, w32_id (x := (s : Int) * 8 + l) ⟨by omega, by omega⟩, grd_t ⟨by omega, by omega⟩, show ((s : Int) * 8 + l).toNat = 8 * s + l by omega, bnd_s, bnd_s, inc (by omega)]
      exact l_f93 hN hn H K hs q (l + 1) _ (by omega) (by omega) (fun c j z => by rw [hw_ne (by omega)]; exact F c j z) (fun s' l' h1 h2 => TP_w hn hs (by omega) (by omega) (by omega) (by omega) (B s' l' h1 h2)) (fun l' h1 => by
        by_cases z : l' = l
        · subst z; exact TP_n hn Hh hs (Or.inl (by omega)) B a2
        · exact TP_w hn hs (by omega) (by omega) (by omega) (by omega) (C l' (by omega)))
theorem pow_m1 (n : Nat) (hn : n ≤ 7) : w32 (ishl 1 (n : Int) - 1) = ((2 ^ n - 1 : Nat) : Int) := by
  have p7 : 2 ^ n ≤ 2 ^ 7 := Nat.pow_le_pow_right (by decide) hn
  have p0 : 0 < 2 ^ n := Nat.pow_pos (by decide)
  rw [ishl_1 (by omega), w32_id ⟨by omega, by omega⟩]
  omega
/-- the whole table -/
def TA (E : Nat → Nat → Int) (n : Nat) (h : Hp) : Prop := (∀ s l, s < 2 ^ n → l < n → TP E n h s l) ∧ TP E n h (2 ^ n - 1) 7
theorem l_f80 (hN : 1000000 ≤ N) (hn : 1 ≤ n ∧ n ≤ 7) (H : RG n st E g) : ∀ (d q s : Nat) (h : Hp), s + d = 2 ^ n → d < q → ex67 g h → (∀ s' l', s' < s → l' < n → TP E n h s' l') → ∃ h', ex67 g h' ∧ TA E n h' ∧ L_X8_find_80 N q (s : Int) h = bv (F_X8_writeRow N h') fun h4 => some (1, h4)
  | _, 0, _, _, _, hq, _, _ => absurd hq (by omega)
  | d, q + 1, s, h, hs, hq, F, B => by
    have p7 : 2 ^ n ≤ 2 ^ 7 := Nat.pow_le_pow_right (by decide) hn.2
    have p0 : 0 < 2 ^ n := Nat.pow_pos (by decide)
    have Hh : RG n st E h := H.ag (fun c j z => F c j (by omega))
    unfold L_X8_find_80
    rw [Hh.1, pow_m1 n hn.2, ishl_1 (by omega)]
    cases d with
    | zero =>
      obtain rfl : s = 2 ^ n := by omega
      obtain ⟨f, ef⟩ : ∃ f, f = 2 ^ n - 1 := ⟨_, rfl⟩
      have B' : ∀ s' l', s' < f → l' < n → TP E n h s' l' := fun s' l' h1 h2 => B s' l' (by omega) h2
      obtain ⟨v, a1, a2⟩ := s_lf (N := N) hN hn Hh (l := 7) (s := f) (Or.inr rfl) (by omega) (tb_b hn (by omega) B')
      have a1 : F_X8_leastFrom N 7 (f : Int) h = some (v, h) := a1
      rw [if_pos (by omega), ← ef, a1, bd_s, w32_id (x := (f : Int) * 8) ⟨by omega, by omega⟩, w32_id (x := (f : Int) * 8 + 7) ⟨by omega, by omega⟩, grd_t ⟨by omega, by omega⟩, show ((f : Int) * 8 + 7).toNat = 8 * f + 7 by omega, bnd_s]
      refine ⟨_, fun c j z => by rw [hw_ne (by omega)]; exact F c j z, ⟨fun s l h1 h2 => TP_w hn (by omega) (by omega) (by omega) (by omega) (by omega) (B s l h1 h2), ?_⟩, rfl⟩
      rw [← ef]
      exact TP_n hn Hh (by omega) (Or.inr rfl) B' a2
    | succ d =>
      rw [if_neg (by omega)]
      obtain ⟨h', a1, a2, a3⟩ := l_f93 (N := N) hN hn H (fun (v5 : Int) (h6 : Hp) => bnd (w32 (v5 + 1)) fun y7 => (L_X8_find_80 N q) y7 h6) (s := s) (by omega) N 0 h (by omega) (by omega) F B (fun l' hl => absurd hl (by omega))
      have a3 : L_X8_find_93 N (fun (v5 : Int) (h6 : Hp) => bnd (w32 (v5 + 1)) fun y7 => (L_X8_find_80 N q) y7 h6) N (s : Int) 0 h = bnd (w32 ((s : Int) + 1)) fun y7 => (L_X8_find_80 N q) y7 h' := a3
      rw [a3, bnd_s, inc (by omega)]
      exact l_f80 hN hn H d q (s + 1) h' (by omega) (by omega) a1 a2
theorem TA_ok (H : TA E n h) : TOK E (tb h) n := ⟨fun s l h1 h2 => (H.1 s l h1 h2).2.2, H.2.2.2⟩
theorem l_ftm (hn : 1 ≤ n ∧ n ≤ 7) (H : RG n st E h) {l s : Nat} (hl : rok n l) (hs : s < 2 ^ n) (hb : ∀ k, k < n → s.testBit k = true → 0 ≤ tb h (dl s k) k ∧ tb h (dl s k) k ≤ 1000000) {v : Int} (hv : ∃ k, k < n ∧ s.testBit k = true ∧ v = E l k + tb h (dl s k) k) :
    ∀ q k : Nat, k ≤ n → n - k < q → (∀ i, i < k → s.testBit i = true → v ≠ E l i + tb h (dl s i) i) → ∃ d : Nat, L_X8_firstThatMeets_3 N q (l : Int) (s : Int) v (k : Int) h = some ((d : Int), h) ∧ d < n ∧ s.testBit d = true ∧ v = E l d + tb h (dl s d) d ∧ ∀ i, i < d → s.testBit i = true → v ≠ E l i + tb h (dl s i) i
  | 0, k, _, hq, _ => absurd hq (by omega)
  | q + 1, k, hk, hq, A => by
    have p7 : 2 ^ n ≤ 2 ^ 7 := Nat.pow_le_pow_right (by decide) hn.2
    unfold L_X8_firstThatMeets_3 J_X8_firstThatMeets_36
    simp only [bnd_s]
    rw [H.1]
    by_cases c : k = n
    · subst c
      obtain ⟨i, b1, b2, b3⟩ := hv
      exact absurd b3 (A i b1 b2)
    · rw [if_neg (by omega), s_hasBit (by omega) ⟨by omega, by omega⟩, bd_s, Int.toNat_natCast, inc (by omega)]
      by_cases z : s.testBit k = true
      · rw [if_neg (by rw [btN_1.mpr z]; decide), s_mov hn H hl (by omega) hs (hb k (by omega) z), bd_s]
        by_cases y : E l k + tb h (dl s k) k = v
        · rw [if_pos y]
          exact ⟨k, rfl, by omega, z, y.symm, A⟩
        · rw [if_neg y]
          exact l_ftm hn H hl hs hb hv q (k + 1) (by omega) (by omega) (fun i hi bi => by
            by_cases x : i = k
            · subst x; exact Ne.symm y
            · exact A i (by omega) bi)
      · rw [if_pos (btN_0 z)]
        exact l_ftm hn H hl hs hb hv q (k + 1) (by omega) (by omega) (fun i hi bi => by
          by_cases x : i = k
          · subst x; exact absurd bi z
          · exact A i (by omega) bi)
theorem GR_c {T : Nat → Nat → Int} {c c' i : Nat} (e : ∀ k, k < i + 1 → dg n n c k = dg n n c' k) (H : GR E T n c i) : GR E T n c' i := by
  unfold GR at H ⊢
  rw [← rm_c (j := i) (fun k hk => e k (by omega)), ← pv_c (j := i) (fun k hk => e k (by omega)), ← e i (by omega)]
  exact H
theorem rm_cn (hn : 1 ≤ n ∧ n ≤ 7) {T : Nat → Nat → Int} {c : Nat} : ∀ j, j ≤ n → (∀ i, i < j → GR E T n c i) → cn (rm n c j) = n - j
  | 0, _, _ => cn_full n (by omega)
  | j + 1, hj, G => by
    have p7 : 2 ^ n ≤ 2 ^ 7 := Nat.pow_le_pow_right (by decide) hn.2
    have ih := rm_cn hn j (by omega) (fun i hi => G i (by omega))
    have l1 := rm_lt (c := c) hn j
    have d1 : dg n n c j < n := dg_lt hn.1
    have := cn_dl (rm n c j) (by omega) (dg n n c j) (by omega) (G j (by omega)).1
    have e : rm n c (j + 1) = dl (rm n c j) (dg n n c j) := rfl
    rw [e]
    omega
theorem l_wr (hN : 1000000 ≤ N) (hn : 1 ≤ n ∧ n ≤ 7) (H : RG n st E g) (A : TA E n g) : ∀ (r q p : Nat) (h : Hp), r ≤ n → r < q → p < n ^ (n - r) → (∀ c j, ¬ c = 68 → h c j = g c j) → (∀ i, i < n - r → h 68 i = (dg n n (p * n ^ r) i : Int)) → (∀ i, i < n - r → GR E (tb g) n (p * n ^ r) i) → ∃ (h' : Hp) (b : Nat), L_X8_writeRow_14 N q (rm n (p * n ^ r) (n - r) : Nat) (pv n (p * n ^ r) (n - r) : Nat) ((n - r : Nat) : Int) h = some h' ∧ (∀ c j, ¬ c = 68 → h' c j = g c j) ∧ b < n ^ n ∧ (∀ i, i < n → h' 68 i = (dg n n b i : Int)) ∧ ∀ i, i < n → GR E (tb g) n b i
  | _, 0, _, _, _, hq, _, _, _, _ => absurd hq (by omega)
  | 0, q + 1, p, h, _, _, hp, F, R, G => by
    unfold L_X8_writeRow_14
    rw [Nat.sub_zero, F 65 4 (by omega), H.1, if_pos (by omega)]
    rw [Nat.sub_zero, Nat.pow_zero, Nat.mul_one] at R G
    exact ⟨h, p, rfl, F, hp, R, G⟩
  | r + 1, q + 1, p, h, hr, hq, hp, F, R, G => by
    have p7 : 2 ^ n ≤ 2 ^ 7 := Nat.pow_le_pow_right (by decide) hn.2
    obtain ⟨j, ej⟩ : ∃ j, j = n - (r + 1) := ⟨_, rfl⟩
    rw [← ej] at hp R G ⊢
    obtain ⟨c, ec⟩ : ∃ c, c = p * n ^ (r + 1) := ⟨_, rfl⟩
    rw [← ec] at R G ⊢
    have Hh : RG n st E h := H.ag (fun c j z => F c j (by omega))
    have th : ∀ s l, tb h s l = tb g s l := fun s l => F 67 _ (by omega)
    have thf : tb h = tb g := funext fun s => funext fun l => th s l
    have lt := rm_lt (c := c) hn j
    have pk := pv_ok (c := c) hn.1 j
    have bb : ∀ k, k < n → (rm n c j).testBit k = true → 0 ≤ tb h (dl (rm n c j) k) k ∧ tb h (dl (rm n c j) k) k ≤ 1000000 := fun k hk bk => by
      rw [th]
      have d := dl_lt (rm n c j) (by omega) k (by omega) bk
      have t := A.1 (dl (rm n c j) k) k (by omega) hk
      have t1 := t.1
      have t2 := t.2.1
      omega
    obtain ⟨v, a1, a2⟩ := s_lf (N := N) hN hn Hh pk lt bb
    rw [thf] at a2
    have eT : v = tb g (rm n c j) (pv n c j) := LV_u a2 (TE_at hn (TA_ok A) c j)
    have nz : rm n c j ≠ 0 := fun z => by
      have := rm_cn hn j (by omega) G
      rw [z] at this
      have c0 : cn 0 = 0 := by decide
      omega
    have hv := (a2.2 nz).2
    rw [← thf] at hv
    obtain ⟨d, b1, b2, b3, b4, b5⟩ := l_ftm (N := N) hn Hh pk lt bb hv N 0 (by omega) (by omega) (fun i hi => absurd hi (by omega))
    have b1 : F_X8_firstThatMeets N (pv n c j : Nat) (rm n c j : Nat) v h = some ((d : Int), h) := b1
    rw [thf] at b4 b5
    have dgj : ∀ i, i < j → dg n n ((p * n + d) * n ^ r) i = dg n n c i := fun i hi => by rw [ec]; exact dg_ch hn.1 b2 (by omega)
    have dgk : dg n n ((p * n + d) * n ^ r) j = d := dg_at hn.1 b2 (by omega)
    have e1 : rm n ((p * n + d) * n ^ r) (n - r) = dl (rm n c j) d := by
      rw [show n - r = j + 1 by omega]
      show dl (rm n ((p * n + d) * n ^ r) j) (dg n n ((p * n + d) * n ^ r) j) = _
      rw [dgk, rm_c dgj]
    have e2 : pv n ((p * n + d) * n ^ r) (n - r) = d := by
      rw [show n - r = j + 1 by omega]
      exact dgk
    have hp2 : p * n + d < n ^ (n - r) := by
      rw [show n - r = j + 1 by omega, Nat.pow_succ]
      have : (p + 1) * n ≤ n ^ j * n := Nat.mul_le_mul_right _ hp
      rw [Nat.add_mul, Nat.one_mul] at this
      omega
    unfold L_X8_writeRow_14
    rw [Hh.1, if_neg (by omega), a1, bd_s, b1, bd_s, grd_t ⟨by omega, by omega⟩, bnd_s, bnd_s, bnd_s, dl_and (rm n c j) (by omega) d (by omega), inc (by omega), Int.toNat_natCast, ← e1, show ((j + 1 : Nat) : Int) = ((n - r : Nat) : Int) by omega]
    have rc1 := l_wr hN hn H A r q (p * n + d) (hw h 68 j (d : Int)) (by omega) (by omega) hp2 (fun c i z => by rw [hw_ne (by omega)]; exact F c i z) (fun i hi => by
      by_cases z : i = j
      · subst z; rw [hw_eq, dgk]
      · rw [hw_ne (by omega), R i (by omega), dgj i (by omega)]) (fun i hi => by
      by_cases z : i = j
      · subst z
        unfold GR
        rw [rm_c dgj, pv_c dgj, dgk, ← eT]
        exact ⟨b3, b4, b5⟩
      · exact GR_c (fun k hk => (dgj k (by omega)).symm) (G i (by omega)))
    rw [e2] at rc1
    exact rc1
theorem s_wr (hN : 1000000 ≤ N) (hn : 1 ≤ n ∧ n ≤ 7) (H : RG n st E g) (A : TA E n g) : ∃ (h' : Hp) (b : Nat), F_X8_writeRow N g = some h' ∧ (∀ c j, ¬ c = 68 → h' c j = g c j) ∧ b < n ^ n ∧ (∀ i, i < n → h' 68 i = (dg n n b i : Int)) ∧ ∀ i, i < n → GR E (tb g) n b i := by
  have := l_wr (N := N) hN hn H A n N 0 g (Nat.le_refl _) (by omega) (by rw [Nat.sub_self, Nat.pow_zero]; omega) (fun _ _ _ => rfl) (fun i hi => absurd hi (by omega)) (fun i hi => absurd hi (by omega))
  rw [Nat.sub_self] at this
  unfold F_X8_writeRow
  rw [bnd_s, H.1, pow_m1 n hn.2]
  exact this
end RD
