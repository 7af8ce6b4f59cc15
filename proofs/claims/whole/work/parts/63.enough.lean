/-! ENOUGH -/
def slA (A : Int → (Nat → Int) → Int) (hs lm st i n : Int) : Nat → Int → Int
  | 0, _ => 1
  | k + 1, d => if lS A hs lm st i (9 - (k : Int)) n d then slA A hs lm st i n k (lD A hs lm st i (9 - (k : Int)) n d) else 0
def nx (i : Nat) (h h1 : Hp) : Prop := ∀ c j, ¬ (c = 58 ∧ j = i) → ¬ (c = 57 ∧ (j = 12 ∨ j = 13)) → ¬ c = 18 → ¬ c = 19 → ¬ (c = 11 ∧ (j = 10 ∨ j = 11)) → h1 c j = h c j
def nm (i : Nat) (h h1 : Hp) : Prop := ∀ c j, ¬ (c = 84 ∧ j = i) → ¬ c = 108 → ¬ c = 109 → h1 c j = h c j
theorem nx.tr {i : Nat} {a b c : Hp} (h1 : nx i a b) (h2 : nx i b c) : nx i a c := fun x j p q r s t => (h2 x j p q r s t).trans (h1 x j p q r s t)
theorem nm.tr {i : Nat} {a b c : Hp} (h1 : nm i a b) (h2 : nm i b c) : nm i a c := fun x j p q r => (h2 x j p q r).trans (h1 x j p q r)
section EN
variable {N : Nat} {h : Hp} {A : Int → (Nat → Int) → Int}
theorem bX.nx {i : Nat} {h' h1 : Hp} (H : bX h h') (e : nx i h' h1) : bX h h1 := H.of (fun c j z => e c j (by omega) (by omega) (by omega) (by omega) (by omega))
theorem bM.nm {i : Nat} {h' h1 : Hp} (H : bM h h') (e : nm i h' h1) : bM h h1 := H.of (fun c j z => e c j (by omega) (by omega) (by omega))
theorem x_thr (L : LawOK N h A) {i : Nat} (hi : i < 14) : ∀ (k n : Nat) (h' : Hp), k ≤ 10 → k + 1 < n → bX h h' → (0 ≤ h' 58 i ∧ h' 58 i ≤ 999) → ∃ h1, L_X5_sleepsThrough_22 N n (i : Int) 1 (10 - (k : Int)) h' = some (slA A (h 2 i) (h 3 i) (h 4 i) i (h 1 5) k (h' 58 i), h1) ∧ nx i h' h1
  | _, 0, _, _, hn, _, _ => absurd hn (by omega)
  | 0, n + 1, h', _, _, H, hd => by
    refine ⟨h', ?_, fun _ _ _ _ _ _ _ => rfl⟩
    unfold L_X5_sleepsThrough_22
    rw [if_pos (by omega), grd_t (Or.inr rfl)]
    rfl
  | k + 1, n + 1, h', hk, hn, H, hd => by
    obtain ⟨h1, s, e1, s01, sS, d1, -, -, f1⟩ := x_after L H hi (r := 10 - ((k + 1 : Nat) : Int)) hd
    have er : 10 - ((k + 1 : Nat) : Int) = 9 - (k : Int) := by omega
    rw [er] at e1 sS d1
    have B := lWCD (hs := h 2 i) (lm := h 3 i) (st := h 4 i) (i := (i : Int)) (r := 9 - (k : Int)) (n := h 1 5) L hd.1
    unfold L_X5_sleepsThrough_22
    rw [if_neg (by omega), if_neg (by decide), er, e1, bd_s, bnd_s, w32_id ⟨by omega, by omega⟩, show 9 - (k : Int) + 1 = 10 - (k : Int) by omega]
    unfold slA
    rcases s01 with rfl | rfl
    · rw [if_neg (fun z => absurd (sS.mpr z) (by decide))]
      refine ⟨h1, ?_, f1⟩
      cases n with
      | zero => omega
      | succ n =>
        unfold L_X5_sleepsThrough_22
        by_cases q : 10 ≤ 10 - (k : Int)
        · rw [if_pos q, grd_t (Or.inl rfl)]
        · rw [if_neg q, if_pos rfl, grd_t (Or.inl rfl)]
    · rw [if_pos (sS.mp rfl), ← d1]
      obtain ⟨h2, e2, f2⟩ := x_thr L hi k n h1 (by omega) (by omega) (H.nx f1) (by omega)
      exact ⟨h2, e2, nx.tr f1 f2⟩
theorem m_all (L : LawOK N h A) {i : Nat} (hi : i < 14) (hh : ∀ j, j < 14 → h 87 j = h 2 j ∧ h 88 j = h 3 j ∧ h 89 j = h 4 j) : ∀ (k n : Nat) (h' : Hp), k ≤ 10 → k < n → bM h h' → (0 ≤ h' 84 i ∧ h' 84 i ≤ 999) → ∃ h1, L_X12_sleepsAll_2 N n (i : Int) (10 - (k : Int)) h' = some (slA A (h 2 i) (h 3 i) (h 4 i) i (h' 84 14) k (h' 84 i), h1) ∧ nm i h' h1
  | _, 0, _, _, hn, _, _ => absurd hn (by omega)
  | 0, n + 1, h', _, _, H, hd => by
    refine ⟨h', ?_, fun _ _ _ _ _ => rfl⟩
    unfold L_X12_sleepsAll_2
    rw [if_pos (by omega)]
    rfl
  | k + 1, n + 1, h', hk, hn, H, hd => by
    have er : 10 - ((k + 1 : Nat) : Int) = 9 - (k : Int) := by omega
    have w : w32 (0 + (i : Int)) = (i : Int) := w14 ⟨by omega, by omega⟩
    have g17 : 0 ≤ (i : Int) ∧ (i : Int) < 17 := ⟨by omega, by omega⟩
    have B := lWCD (hs := h 2 i) (lm := h 3 i) (st := h 4 i) (i := (i : Int)) (r := 9 - (k : Int)) (n := h' 84 14) L hd.1
    obtain ⟨g1, e1, f1⟩ := m_byStreet L hi H (9 - (k : Int)) hh (l := 119) (Or.inl rfl)
    obtain ⟨h2, hh2⟩ : ∃ h2, h2 = hw g1 84 i (h' 84 i - lW A (h 2 i) (h 3 i) (h 4 i) i (9 - (k : Int)) (h' 84 14) (h' 84 i)) := ⟨_, rfl⟩
    have H2 : bM h h2 := (H.lw f1).of (fun c j z => by rw [hh2, hw_ne (by omega)])
    have d2 : h2 84 i = h' 84 i - lW A (h 2 i) (h 3 i) (h 4 i) i (9 - (k : Int)) (h' 84 14) (h' 84 i) := by rw [hh2, hw_eq]
    have n2 : h2 84 14 = h' 84 14 := by rw [hh2, hw_ne (by omega), f1 84 14 (by omega) (by omega)]
    obtain ⟨g3, e3, f3⟩ := m_byStreet L hi H2 (9 - (k : Int)) hh (l := 99) (Or.inr (Or.inl rfl))
    obtain ⟨h4, hh4⟩ : ∃ h4, h4 = hw g3 84 i (lD A (h 2 i) (h 3 i) (h 4 i) i (9 - (k : Int)) (h' 84 14) (h' 84 i)) := ⟨_, rfl⟩
    have H4 : bM h h4 := (H2.lw f3).of (fun c j z => by rw [hh4, hw_ne (by omega)])
    have d4 : h4 84 i = lD A (h 2 i) (h 3 i) (h 4 i) i (9 - (k : Int)) (h' 84 14) (h' 84 i) := by rw [hh4, hw_eq]
    have n4 : h4 84 14 = h' 84 14 := by rw [hh4, hw_ne (by omega), f3 84 14 (by omega) (by omega), n2]
    have fr4 : nm i h' h4 := fun c j z1 z2 z3 => by rw [hh4, hw_ne (by omega), f3 c j z2 z3, hh2, hw_ne (by omega), f1 c j z2 z3]
    obtain ⟨g5, e5, f5⟩ := m_byStreet L hi H4 (9 - (k : Int)) hh (l := 115) (Or.inr (Or.inr rfl))
    rw [d4, n4] at e5
    have eW : imin (h' 84 i) (A 119 (fc (h 2 i) (h 3 i) (h 4 i) i (h' 84 i) (9 - (k : Int)) (h' 84 14) 0)) = lW A (h 2 i) (h 3 i) (h 4 i) i (9 - (k : Int)) (h' 84 14) (h' 84 i) := rfl
    have eC : imin (h2 84 i) (A 99 (fc (h 2 i) (h 3 i) (h 4 i) i (h2 84 i) (9 - (k : Int)) (h2 84 14) 0)) = lC A (h 2 i) (h 3 i) (h 4 i) i (9 - (k : Int)) (h' 84 14) (h' 84 i) := by rw [d2, n2]; rfl
    have eD : h2 84 i - lC A (h 2 i) (h 3 i) (h 4 i) i (9 - (k : Int)) (h' 84 14) (h' 84 i) = lD A (h 2 i) (h 3 i) (h 4 i) i (9 - (k : Int)) (h' 84 14) (h' 84 i) := by rw [d2]; rfl
    unfold L_X12_sleepsAll_2
    rw [if_neg (by omega), er]
    simp only [w, grd_t g17, Int.toNat_natCast]
    rw [e1, bd_s, s_min, bd_s, eW, w32_id (x := h' 84 i - _) ⟨by omega, by omega⟩, bnd_s, ← hh2, e3, bd_s, s_min, bd_s, eC, eD, w32_id ⟨by omega, by omega⟩, bnd_s, ← hh4, d4, e5, bd_s]
    unfold slA
    by_cases p : lD A (h 2 i) (h 3 i) (h 4 i) i (9 - (k : Int)) (h' 84 14) (h' 84 i) = 0
    · rw [if_pos p, if_neg (fun z => by have := z.1; omega)]
      exact ⟨h4, rfl, fr4⟩
    · rw [if_neg p]
      by_cases p2 : A 115 (fc (h 2 i) (h 3 i) (h 4 i) i (lD A (h 2 i) (h 3 i) (h 4 i) i (9 - (k : Int)) (h' 84 14) (h' 84 i)) (9 - (k : Int)) (h' 84 14) 0) ≤ lD A (h 2 i) (h 3 i) (h 4 i) i (9 - (k : Int)) (h' 84 14) (h' 84 i)
      · rw [if_pos p2, if_pos ⟨by omega, p2⟩, bnd_s, w32_id ⟨by omega, by omega⟩, show 9 - (k : Int) + 1 = 10 - (k : Int) by omega]
        have d5 : g5 84 i = lD A (h 2 i) (h 3 i) (h 4 i) i (9 - (k : Int)) (h' 84 14) (h' 84 i) := by rw [f5 84 i (by omega) (by omega)]; exact d4
        have n5 : g5 84 14 = h' 84 14 := by rw [f5 84 14 (by omega) (by omega)]; exact n4
        obtain ⟨h6, e6, f6⟩ := m_all L hi hh k n g5 (by omega) (by omega) (H4.lw f5) (by omega)
        rw [d5, n5] at e6
        exact ⟨h6, e6, nm.tr (nm.tr fr4 (fun c j _ z2 z3 => f5 c j z2 z3)) f6⟩
      · rw [if_neg p2, if_neg (fun z => p2 z.2)]
        exact ⟨g5, rfl, nm.tr fr4 (fun c j _ z2 z3 => f5 c j z2 z3)⟩
theorem slA_01 {hs lm st i n : Int} : ∀ (k : Nat) (d : Int), slA A hs lm st i n k d = 0 ∨ slA A hs lm st i n k d = 1
  | 0, _ => Or.inr rfl
  | k + 1, d => by
    unfold slA
    split
    · exact slA_01 k _
    · exact Or.inl rfl
theorem en_x (hN : 1000000 ≤ N) (L : LawOK N h A) {i : Nat} (hi : i < 14) (D : Int) (hD : 0 ≤ D ∧ D ≤ 999) (g : Hp) (Hg : bM h g) (hh : ∀ j, j < 14 → h 87 j = h 2 j ∧ h 88 j = h 3 j ∧ h 89 j = h 4 j) (h5 : h 5 i = D) (hn14 : g 84 14 = h 1 5) :
    ∀ (m : Nat) (y n1 : Nat) (h' : Hp), (y : Int) + m = 1000 - D → m < n1 → nx i h h' → ∃ r h1, L_X11_enough_28 N n1 (i : Int) (999 - D) (y : Int) h' = some (r, h1) ∧ nx i h h1 ∧ ∀ (n2 : Nat) (g' : Hp), m + 1 < n2 → nm i g g' → ∃ g1, L_X12_enough_24 N n2 (i : Int) D (y : Int) 0 g' = some (r, g1) ∧ nm i g g1 ∧ g1 84 i = D := by
  have w : w32 (0 + (i : Int)) = (i : Int) := w14 ⟨by omega, by omega⟩
  have g17 : 0 ≤ (i : Int) ∧ (i : Int) < 17 := ⟨by omega, by omega⟩
  have J63 : ∀ (y x4 : Int) (g' : Hp), nm i g g' → -100000 ≤ y ∧ y ≤ 100000 → ∃ g1, J_X12_enough_63 N (i : Int) D y x4 g' = some (if x4 = 0 then -2 else y - 1, g1) ∧ nm i g g1 ∧ g1 84 i = D := by
    intro y x4 g' hg hy
    unfold J_X12_enough_63
    rw [w, grd_t g17, bnd_s, Int.toNat_natCast]
    refine ⟨hw g' 84 i D, ?_, fun c j z1 z2 z3 => by rw [hw_ne (by omega)]; exact hg c j z1 z2 z3, hw_eq⟩
    by_cases q : x4 = 0
    · rw [if_pos q, if_pos q]
    · rw [if_neg q, if_neg q, w32_id ⟨by omega, by omega⟩]
  intro m
  induction m with
  | zero =>
    intro y n1 h' hy hn hx
    obtain ⟨n1, rfl⟩ : ∃ q, n1 = q + 1 := ⟨n1 - 1, by omega⟩
    refine ⟨-2, h', ?_, hx, fun n2 g' hn2 hg => ?_⟩
    · unfold L_X11_enough_28
      rw [if_pos (by omega)]
    · obtain ⟨n2, rfl⟩ : ∃ q, n2 = q + 1 := ⟨n2 - 1, by omega⟩
      unfold L_X12_enough_24
      rw [if_pos rfl, w32_id ⟨by omega, by omega⟩, if_pos (by omega)]
      exact J63 y 0 g' hg ⟨by omega, by omega⟩
  | succ m ih =>
    intro y n1 h' hy hn hx
    obtain ⟨n1, rfl⟩ : ∃ q, n1 = q + 1 := ⟨n1 - 1, by omega⟩
    have e5 : h' 5 i = D := by rw [hx 5 i (by omega) (by omega) (by omega) (by omega) (by omega)]; exact h5
    have bh : bX h h' := (show bX h h from ⟨⟨fun _ _ _ => rfl, rfl⟩, fun _ _ => rfl, fun _ => rfl⟩).nx hx
    obtain ⟨k, hk⟩ : ∃ k, k = hw h' 58 i (D + y) := ⟨_, rfl⟩
    have fk : nx i h' k := fun c j z1 z2 z3 z4 z5 => by rw [hk, hw_ne (by omega)]
    have dk : k 58 i = D + y := by rw [hk, hw_eq]
    obtain ⟨h1, e1, f1⟩ := x_thr L hi 10 N k (by omega) (by omega) (bh.nx fk) (by omega)
    rw [dk] at e1
    have eX : F_X5_sleepsThrough N (i : Int) (D + y) h' = some (slA A (h 2 i) (h 3 i) (h 4 i) i (h 1 5) 10 (D + y), h1) := by
      unfold F_X5_sleepsThrough
      rw [s_isWithin, bd_s, if_pos (show 0 ≤ (i : Int) ∧ (i : Int) ≤ 13 by omega), if_neg (by decide), grd_t ⟨by omega, by omega⟩, bnd_s, Int.toNat_natCast, ← hk]
      exact e1
    have fx1 : nx i h h1 := nx.tr (nx.tr hx fk) f1
    have hM : ∀ (n2 : Nat) (g' : Hp), nm i g g' → ∃ g1, L_X12_enough_24 N (n2 + 1) (i : Int) D (y : Int) 0 g' = L_X12_enough_24 N n2 (i : Int) D ((y + 1 : Nat) : Int) (slA A (h 2 i) (h 3 i) (h 4 i) i (h 1 5) 10 (D + y)) g1 ∧ nm i g g1 := by
      intro n2 g' hg
      obtain ⟨q, hq⟩ : ∃ q, q = hw g' 84 i (D + y) := ⟨_, rfl⟩
      have fq : nm i g' q := fun c j z1 z2 z3 => by rw [hq, hw_ne (by omega)]
      have fgq := nm.tr hg fq
      obtain ⟨g1, e2, f2⟩ := m_all L hi hh 10 N q (by omega) (by omega) (Hg.nm fgq) (by rw [hq, hw_eq]; omega)
      rw [show q 84 i = D + y by rw [hq, hw_eq], show q 84 14 = h 1 5 by rw [fgq 84 14 (by omega) (by omega) (by omega)]; exact hn14] at e2
      refine ⟨g1, ?_, nm.tr fgq f2⟩
      conv => lhs; unfold L_X12_enough_24
      rw [if_pos rfl, w32_id (x := D + y) ⟨by omega, by omega⟩, if_neg (by omega), w, grd_t g17, bnd_s, Int.toNat_natCast, ← hq]
      have e2 : F_X12_sleepsAll N (i : Int) q = some (slA A (h 2 i) (h 3 i) (h 4 i) i (h 1 5) 10 (D + y), g1) := e2
      rw [e2, bd_s, bnd_s, inc (by omega)]
    unfold L_X11_enough_28
    rw [if_neg (by omega), s_depthOf hi, bd_s, e5, w32_id (x := D + y) ⟨by omega, by omega⟩, eX, bd_s]
    rcases slA_01 (A := A) (hs := h 2 i) (lm := h 3 i) (st := h 4 i) (i := i) (n := h 1 5) 10 (D + y) with z | z
    · rw [z] at hM ⊢
      rw [if_pos rfl, bnd_s, inc (by omega)]
      obtain ⟨r, h2, a1, a2, a3⟩ := ih (y + 1) n1 h1 (by omega) (by omega) fx1
      refine ⟨r, h2, a1, a2, fun n2 g' hn2 hg => ?_⟩
      obtain ⟨n2, rfl⟩ : ∃ q, n2 = q + 1 := ⟨n2 - 1, by omega⟩
      obtain ⟨g1, b1, b2⟩ := hM n2 g' hg
      rw [b1]
      exact a3 n2 g1 (by omega) b2
    · rw [z] at hM ⊢
      rw [if_neg (by decide)]
      refine ⟨y, h1, rfl, fx1, fun n2 g' hn2 hg => ?_⟩
      obtain ⟨n2, rfl⟩ : ∃ q, n2 = q + 1 + 1 := ⟨n2 - 2, by omega⟩
      obtain ⟨g1, b1, b2⟩ := hM (n2 + 1) g' hg
      rw [b1]
      unfold L_X12_enough_24
      rw [if_neg (by decide)]
      obtain ⟨g2, c1, c2, c3⟩ := J63 ((y + 1 : Nat) : Int) 1 g1 b2 ⟨by omega, by omega⟩
      refine ⟨g2, ?_, c2, c3⟩
      rw [c1, if_neg (by decide), show ((y + 1 : Nat) : Int) - 1 = (y : Int) by omega]
end EN
theorem op_enough {N : Nat} (hN : 1000000 ≤ N) : ∀ a1 : Int, inR a1 → Sm (Inv N) (F_X11_enough N a1) (F_X12_enough N a1) := by
  intro i _ h hok hI
  obtain ⟨t, i1, i2, i3, i4, i5, i6, i7, i8, ⟨i9, A, L⟩, i10⟩ := id hI
  have ht := i1.1
  unfold F_X11_enough F_X12_enough
  rw [s_isTold ht i1.2.1, bd_s]
  by_cases q : isT t i
  · obtain ⟨n, rfl⟩ : ∃ n : Nat, i = (n : Int) := ⟨i.toNat, by omega⟩
    have hn : n < 14 := by omega
    have D := i3 n hn
    obtain ⟨g, hg⟩ : ∃ g : Hp, g = h := ⟨_, rfl⟩
    have hh : ∀ j, j < 14 → h 87 j = h 2 j ∧ h 88 j = h 3 j ∧ h 89 j = h 4 j := fun j hj => ⟨(i2 j hj).1.1, (i2 j hj).2.1.1, (i2 j hj).2.2.1⟩
    have hx : ∃ r h1, L_X11_enough_28 N N (n : Int) (999 - h 5 n) ((0 : Nat) : Int) h = some (r, h1) ∧ nx n h h1 := by
      obtain ⟨r, h1, a, b, -⟩ := en_x hN L hn (h 5 n) ⟨D.2.1, D.2.2.1⟩ h ⟨⟨fun _ _ _ => rfl, rfl⟩, fun _ _ => rfl⟩ hh rfl i4.1 (1000 - h 5 n).toNat 0 N h (by omega) (by omega) (fun _ _ _ _ _ _ _ => rfl)
      exact ⟨r, h1, a, b⟩
    obtain ⟨r, h1, a1, b1⟩ := hx
    have G1 : bM h h1 := (show bM h h from ⟨⟨fun _ _ _ => rfl, rfl⟩, fun _ _ => rfl⟩).of (fun c j z => b1 c j (by omega) (by omega) (by omega) (by omega) (by omega))
    obtain ⟨r', h1', a2, b2, c2⟩ := en_x hN L hn (h 5 n) ⟨D.2.1, D.2.2.1⟩ h1 G1 hh rfl (by rw [b1 84 14 (by omega) (by omega) (by omega) (by omega) (by omega)]; exact i4.1) (1000 - h 5 n).toNat 0 N h (by omega) (by omega) (fun _ _ _ _ _ _ _ => rfl)
    rw [a1] at a2
    obtain ⟨rfl, rfl⟩ : r = r' ∧ h1 = h1' := by simpa using a2
    obtain ⟨g1, a3, b3, c3⟩ := c2 N h1 (by omega) (fun _ _ _ _ _ => rfl)
    have e84 : h1 84 n = h 5 n := by rw [b1 84 n (by omega) (by omega) (by omega) (by omega) (by omega)]; exact D.1
    refine ⟨r, h1, g1, ?_, ?_, ?_⟩
    · rw [if_pos q, if_neg (by decide), s_depthOf hn, bd_s, bnd_s, w32_id ⟨by omega, by omega⟩]
      exact a1
    · rw [s_isStreet ht (by rw [b1 83 12 (by omega) (by omega) (by omega) (by omega) (by omega)]; exact i1.2.2), bd_s, if_pos q, if_neg (by decide), w14 ⟨by omega, by omega⟩, grd_t ⟨by omega, by omega⟩, bnd_s, Int.toNat_natCast, e84]
      exact a3
    · refine hI.ag (fun c j hc => ?_)
      unfold scr at hc
      by_cases z : c = 84 ∧ j = n
      · obtain ⟨rfl, rfl⟩ := z
        rw [c3]; exact D.1.symm
      · rw [b3 c j z (by omega) (by omega), b1 c j (by omega) (by omega) (by omega) (by omega) (by omega)]
  · refine ⟨-1, h, h, ?_, ?_, hI⟩
    · rw [if_neg q, if_pos rfl]
    · rw [s_isStreet ht i1.2.2, bd_s, if_neg q, if_pos rfl]
