/-! ROUND -/
def dl (s k : Nat) : Nat := if s.testBit k = true then s ^^^ 2 ^ k else s
theorem dl_and : ∀ s : Nat, s < 128 → ∀ k : Nat, k < 7 → iand (s : Int) (ixor (ishl 1 (k : Int)) (-1)) = ((dl s k : Nat) : Int) := by decide +kernel
theorem dl_lt : ∀ s : Nat, s < 128 → ∀ k : Nat, k < 7 → s.testBit k = true → dl s k < s := by decide +kernel
theorem dl_le (s k : Nat) (hs : s < 128) (hk : k < 7) : dl s k ≤ s := by
  by_cases q : s.testBit k = true
  · exact Nat.le_of_lt (dl_lt s hs k hk q)
  · unfold dl; rw [if_neg q]; exact Nat.le_refl _
theorem dl_t (s k x : Nat) : (dl s k).testBit x = true ↔ s.testBit x = true ∧ x ≠ k := by
  unfold dl
  by_cases q : s.testBit k = true
  · rw [if_pos q, Nat.testBit_xor, Nat.testBit_two_pow]
    by_cases e : k = x
    · subst e; simp [q]
    · simp [e, Ne.symm e]
  · rw [if_neg q]
    constructor
    · intro h; exact ⟨h, fun e => q (by rw [← e]; exact h)⟩
    · exact fun h => h.1
section TRI
variable {bs : Nat → Nat → Int}
theorem FW_tri (h0 : ∀ i j, 0 ≤ bs i j) (hp : ∀ i j, i ≠ j → 1 ≤ bs i j) {m i a : Nat} (ha : a < m) (v : Nat) : ∀ j : Nat, FW bs m a j < (v : Int) → FW bs m i j ≤ FW bs m i a + FW bs m a j := by
  induction v with
  | zero =>
    intro j h
    have := FW_nn h0 m a j
    omega
  | succ v ih =>
    intro j h
    rcases FW_P h0 m a j with q | ⟨b, b1, b2, b3⟩
    · have := FW_T h0 m a i j ha
      omega
    · have h1 := hp b j b2
      have h2 := ih b (by omega)
      have h3 := FW_T h0 m b i j b1
      omega
theorem FW_sym (hs : ∀ i j, i < 14 → j < 14 → bs i j = bs j i) : ∀ m, m ≤ 14 → ∀ i j, i < 14 → j < 14 → FW bs m i j = FW bs m j i
  | 0, _, i, j, hi, hj => hs i j hi hj
  | m + 1, hm, i, j, hi, hj => by
    have ih := FW_sym hs m (by omega)
    rw [FW_s, FW_s, ih i j hi hj, ih i m hi (by omega), ih m j (by omega) hj, Int.add_comm]
theorem bsX_s {r : Nat → Int} {t : Nat} (hr : RdOK r t) {i j : Nat} (hi : i < 14) (hj : j < 14) : bsX r i j = bsX r j i := by
  unfold bsX
  rw [hr.2.1 i j hi hj]
  by_cases e : i = j
  · subst e; rfl
  · rw [if_neg e, if_neg (Ne.symm e)]
/-- two streets that are come to from a third -/
theorem way_3 {h : Hp} {t o a b : Nat} (H : IR h t) (ho : o < 14) (ha : a < 14) (hb : b < 14) (h1 : 0 ≤ h 10 (14 * o + a)) (h2 : 0 ≤ h 10 (14 * o + b)) : 0 ≤ h 10 (14 * a + b) := by
  obtain ⟨r1, r2, r3, r4, r5⟩ := H
  rw [r4 o a ho ha] at h1
  rw [r4 o b ho hb] at h2
  rw [r4 a b ha hb]
  have q1 : FW (bsX (h 8)) 14 o a < 1000000 := Int.not_le.mp fun z => by rw [if_neg (by omega)] at h1; omega
  have q2 : FW (bsX (h 8)) 14 o b < 1000000 := Int.not_le.mp fun z => by rw [if_neg (by omega)] at h2; omega
  have c1 := FWX_b r2 (m := 14) (by omega) ho ha q1
  have c2 := FWX_b r2 (m := 14) (by omega) ho hb q2
  have s1 := FW_sym (bs := bsX (h 8)) (fun i j hi hj => bsX_s r2 hi hj) 14 (by omega) o a ho ha
  have t1 := FW_tri (bs := bsX (h 8)) bsX_nn bsX_p (m := 14) (i := a) ho 2000 b (by omega)
  have n1 := FW_nn (bsX_nn (r := h 8)) 14 a b
  rw [if_pos (by omega)]
  exact n1
end TRI
def pv (n c : Nat) : Nat → Nat
  | 0 => 7
  | j + 1 => dg n n c j
def rm (n c : Nat) : Nat → Nat
  | 0 => 2 ^ n - 1
  | j + 1 => dl (rm n c j) (dg n n c j)
section RM
variable {n c c' : Nat}
theorem rm_t (x : Nat) : ∀ j, (rm n c j).testBit x = true ↔ x < n ∧ ∀ i, i < j → dg n n c i ≠ x
  | 0 => by
    show (2 ^ n - 1).testBit x = true ↔ _
    rw [Nat.testBit_two_pow_sub_one]
    simp
  | j + 1 => by
    have ih := rm_t x j
    show (dl (rm n c j) (dg n n c j)).testBit x = true ↔ _
    rw [dl_t, ih]
    constructor
    · rintro ⟨⟨h1, h2⟩, h3⟩
      refine ⟨h1, fun i hi => ?_⟩
      by_cases z : i = j
      · subst z; exact Ne.symm h3
      · exact h2 i (by omega)
    · rintro ⟨h1, h2⟩
      exact ⟨⟨h1, fun i hi => h2 i (by omega)⟩, Ne.symm (h2 j (by omega))⟩
theorem rm_lt (hn : 1 ≤ n ∧ n ≤ 7) : ∀ j, rm n c j < 2 ^ n
  | 0 => by have : 0 < 2 ^ n := Nat.pow_pos (by decide); show 2 ^ n - 1 < _; omega
  | j + 1 => by
    have h1 := rm_lt hn j
    have p7 : 2 ^ n ≤ 2 ^ 7 := Nat.pow_le_pow_right (by decide) hn.2
    have h2 : dg n n c j < n := dg_lt hn.1
    have := dl_le (rm n c j) (dg n n c j) (by omega) (by omega)
    show dl (rm n c j) (dg n n c j) < _
    omega
theorem rm_c : ∀ {j : Nat}, (∀ i, i < j → dg n n c i = dg n n c' i) → rm n c j = rm n c' j
  | 0, _ => rfl
  | j + 1, e => by
    unfold rm
    rw [rm_c (j := j) (fun i hi => e i (by omega)), e j (by omega)]
theorem pv_c : ∀ {j : Nat}, (∀ i, i < j → dg n n c i = dg n n c' i) → pv n c j = pv n c' j
  | 0, _ => rfl
  | j + 1, e => e j (by omega)
theorem pv_ok (hn : 1 ≤ n) : ∀ j, pv n c j < n ∨ pv n c j = 7
  | 0 => Or.inr rfl
  | j + 1 => Or.inl (dg_lt hn)
theorem rm_n (hn : 1 ≤ n) (hd : dist n c n) : rm n c n = 0 := by
  apply Nat.eq_of_testBit_eq
  intro x
  rw [Nat.zero_testBit]
  cases q : (rm n c n).testBit x with
  | false => rfl
  | true =>
    exfalso
    obtain ⟨h1, h2⟩ := (rm_t x n).mp q
    have nd : (x :: (List.range n).map (dg n n c)).Nodup := by
      rw [List.nodup_cons]
      refine ⟨fun z => ?_, ?_⟩
      · obtain ⟨i, z1, z2⟩ := List.mem_map.mp z
        exact h2 i (List.mem_range.mp z1) z2
      · rw [List.Nodup, List.pairwise_map, List.pairwise_iff_getElem]
        intro i j hi hj hij
        rw [List.length_range] at hi hj
        rw [List.getElem_range, List.getElem_range]
        exact hd i j hij hj
    have := nd_len n _ nd (fun a ha => by
      rcases List.mem_cons.mp ha with z | z
      · rw [z]; exact h1
      · obtain ⟨i, z1, z2⟩ := List.mem_map.mp z
        rw [← z2]; exact dg_lt hn)
    rw [List.length_cons, List.length_map, List.length_range] at this
    omega
end RM
def ef (E : Nat → Nat → Int) (n c i : Nat) : Int := E (pv n c i) (dg n n c i)
def lgr (E : Nat → Nat → Int) (n c : Nat) : Int := sm (ef E n c) n + E (pv n c n) 7
/-- the table of what is left to go -/
def TE (E T : Nat → Nat → Int) (n s l : Nat) : Prop := (s = 0 → T s l = E l 7) ∧ (s ≠ 0 → (∀ k, k < n → s.testBit k = true → T s l ≤ E l k + T (dl s k) k) ∧ ∃ k, k < n ∧ s.testBit k = true ∧ T s l = E l k + T (dl s k) k)
def TOK (E T : Nat → Nat → Int) (n : Nat) : Prop := (∀ s l, s < 2 ^ n → l < n → TE E T n s l) ∧ TE E T n (2 ^ n - 1) 7
def GR (E T : Nat → Nat → Int) (n b i : Nat) : Prop := (rm n b i).testBit (dg n n b i) = true ∧ T (rm n b i) (pv n b i) = E (pv n b i) (dg n n b i) + T (dl (rm n b i) (dg n n b i)) (dg n n b i) ∧ ∀ k, k < dg n n b i → (rm n b i).testBit k = true → T (rm n b i) (pv n b i) ≠ E (pv n b i) k + T (dl (rm n b i) k) k
section OPT
variable {E T : Nat → Nat → Int} {n b : Nat}
theorem TE_at (hn : 1 ≤ n ∧ n ≤ 7) (H : TOK E T n) (c j : Nat) : TE E T n (rm n c j) (pv n c j) := by
  cases j with
  | zero => exact H.2
  | succ j => exact H.1 _ _ (rm_lt hn _) (dg_lt hn.1)
theorem low (hn : 1 ≤ n ∧ n ≤ 7) (H : TOK E T n) {s : Nat} (hs : dist n s n) : ∀ r, r ≤ n → T (rm n s (n - r)) (pv n s (n - r)) + sm (ef E n s) (n - r) ≤ lgr E n s
  | 0, _ => by
    rw [Nat.sub_zero]
    have h1 := (TE_at hn H s n).1 (rm_n hn.1 hs)
    unfold lgr
    omega
  | r + 1, hr => by
    have ih := low hn H hs r (by omega)
    obtain ⟨j, ej⟩ : ∃ j, j = n - (r + 1) := ⟨_, rfl⟩
    rw [← ej]
    rw [show n - r = j + 1 by omega] at ih
    have hd : dg n n s j < n := dg_lt hn.1
    have bt : (rm n s j).testBit (dg n n s j) = true := (rm_t _ _).mpr ⟨hd, fun i hi => hs i j hi (by omega)⟩
    have nz : rm n s j ≠ 0 := fun z => by rw [z, Nat.zero_testBit] at bt; cases bt
    have h1 := ((TE_at hn H s j).2 nz).1 _ hd bt
    have e1 : rm n s (j + 1) = dl (rm n s j) (dg n n s j) := rfl
    have e2 : pv n s (j + 1) = dg n n s j := rfl
    have e3 : sm (ef E n s) (j + 1) = sm (ef E n s) j + E (pv n s j) (dg n n s j) := rfl
    rw [e1, e2, e3] at ih
    omega
theorem gr_dist (hg : ∀ i, i < n → GR E T n b i) : dist n b n := fun i j hij hj => ((rm_t _ _).mp (hg j hj).1).2 i hij
theorem gr_eq (hn : 1 ≤ n ∧ n ≤ 7) (H : TOK E T n) (hg : ∀ i, i < n → GR E T n b i) : ∀ r, r ≤ n → T (rm n b (n - r)) (pv n b (n - r)) + sm (ef E n b) (n - r) = lgr E n b
  | 0, _ => by
    rw [Nat.sub_zero]
    have h1 := (TE_at hn H b n).1 (rm_n hn.1 (gr_dist hg))
    unfold lgr
    omega
  | r + 1, hr => by
    have ih := gr_eq hn H hg r (by omega)
    obtain ⟨j, ej⟩ : ∃ j, j = n - (r + 1) := ⟨_, rfl⟩
    rw [← ej]
    rw [show n - r = j + 1 by omega] at ih
    have h1 := (hg j (by omega)).2.1
    have e1 : rm n b (j + 1) = dl (rm n b j) (dg n n b j) := rfl
    have e2 : pv n b (j + 1) = dg n n b j := rfl
    have e3 : sm (ef E n b) (j + 1) = sm (ef E n b) j + E (pv n b j) (dg n n b j) := rfl
    rw [e1, e2, e3] at ih
    omega
theorem gr_best (hn : 1 ≤ n ∧ n ≤ 7) (H : TOK E T n) (hg : ∀ i, i < n → GR E T n b i) {s : Nat} (hs : dist n s n) : ∀ r, r ≤ n → s / n ^ r = b / n ^ r → lgr E n b < lgr E n s ∨ (lgr E n b = lgr E n s ∧ b ≤ s)
  | 0, _, e => by
    simp at e
    subst e
    exact Or.inr ⟨rfl, Nat.le_refl _⟩
  | r + 1, hr, e => by
    have np : 0 < n ^ r := Nat.pow_pos hn.1
    obtain ⟨j, ej⟩ : ∃ j, j = n - (r + 1) := ⟨_, rfl⟩
    have ejr : n - 1 - j = r := by omega
    have ds : dg n n s j = s / n ^ r % n := by unfold dg; rw [ejr]
    have db : dg n n b j = b / n ^ r % n := by unfold dg; rw [ejr]
    have es : s / n ^ (r + 1) = s / n ^ r / n := by rw [Nat.pow_succ, Nat.div_div_eq_div_mul]
    have eb : b / n ^ (r + 1) = b / n ^ r / n := by rw [Nat.pow_succ, Nat.div_div_eq_div_mul]
    have ms := Nat.div_add_mod (s / n ^ r) n
    have mb := Nat.div_add_mod (b / n ^ r) n
    rw [es, eb] at e
    have pre : ∀ i, i < j → dg n n s i = dg n n b i := fun i hi => by
      unfold dg
      rw [show n - 1 - i = (r + 1) + (n - 1 - i - (r + 1)) by omega, Nat.pow_add, ← Nat.div_div_eq_div_mul, ← Nat.div_div_eq_div_mul, es, eb, e]
    by_cases q : dg n n s j = dg n n b j
    · refine gr_best hn H hg hs r (by omega) ?_
      rw [← ms, ← mb, e, ← ds, ← db, q]
    · have e1 := rm_c pre
      have e2 := pv_c pre
      have e3 : sm (ef E n s) j = sm (ef E n b) j := sm_c (fun i hi => by
        unfold ef
        rw [pre i hi, pv_c (j := i) (fun k hk => pre k (by omega))])
      have hd : dg n n s j < n := dg_lt hn.1
      have bt : (rm n s j).testBit (dg n n s j) = true := (rm_t _ _).mpr ⟨hd, fun i hi => hs i j hi (by omega)⟩
      have lo := low hn H hs r (by omega)
      rw [show n - r = j + 1 by omega] at lo
      have f1 : rm n s (j + 1) = dl (rm n s j) (dg n n s j) := rfl
      have f2 : pv n s (j + 1) = dg n n s j := rfl
      have f3 : sm (ef E n s) (j + 1) = sm (ef E n s) j + E (pv n s j) (dg n n s j) := rfl
      rw [f1, f2, f3] at lo
      have ge := gr_eq hn H hg (r + 1) (by omega)
      rw [← ej] at ge
      rw [e1] at bt
      have nz : rm n b j ≠ 0 := fun z => by rw [z, Nat.zero_testBit] at bt; cases bt
      have h1 := ((TE_at hn H b j).2 nz).1 _ hd bt
      rw [e1, e2, e3] at lo
      rcases Nat.lt_or_gt_of_ne q with z | z
      · have h2 := (hg j (by omega)).2.2 _ z bt
        left
        omega
      · have lt : b < s := by
          refine Nat.lt_of_not_le (fun y => ?_)
          have y2 := Nat.div_le_div_right (c := n ^ r) y
          rw [← ms, ← mb, e, ← ds, ← db] at y2
          omega
        omega
end OPT
