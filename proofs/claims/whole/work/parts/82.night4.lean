/-! A NIGHT: an hour's end in all streets -/
theorem w14n {i : Nat} (hi : i < 14) : w32 (0 + (i : Int)) = (i : Int) := w14 ⟨by omega, by omega⟩
theorem eqw_add {a b c v : Int} (h1 : eqw a b) (h2 : eqw c (a + v)) : eqw c (b + v) := by
  unfold eqw w32 at h1 h2 ⊢
  rw [h2, h1, Int.bmod_add_bmod]
section HE
variable {N t x : Nat} {cr nn : Nat → Nat} {B : Int} {A : Int → (Nat → Int) → Int} {h0 hS gS h g : Hp}
theorem m_hour (L : LawOK N h0 A) (G : bM h0 g) (hh : ∀ j, j < 14 → h0 87 j = h0 2 j ∧ h0 88 j = h0 3 j ∧ h0 89 j = h0 4 j) (ht : t < 16384) (e12 : g 83 12 = (t : Int)) {i : Nat} (hi : i < 14) (ti : t.testBit i = true) {r n d : Int} (hd : 0 ≤ d ∧ d ≤ 999) (ed : g 84 i = d) (en : g 84 14 = n) (b47 : 0 ≤ g 83 47 ∧ g 83 47 ≤ 1000000) (b48 : 0 ≤ g 83 48 ∧ g 83 48 ≤ 1000000) (q : Nat) : ∃ g1, L_X12_hourEnds_2 N (q + 1) r (i : Int) g = L_X12_hourEnds_2 N q r ((i + 1 : Nat) : Int) g1 ∧ g1 84 i = lD A (h0 2 i) (h0 3 i) (h0 4 i) i r n d ∧ g1 83 47 = g 83 47 + lW A (h0 2 i) (h0 3 i) (h0 4 i) i r n d ∧ g1 83 48 = g 83 48 + lC A (h0 2 i) (h0 3 i) (h0 4 i) i r n d ∧ (lS A (h0 2 i) (h0 3 i) (h0 4 i) i r n d → eqw (g1 84 15) (g 84 15 + h0 2 i)) ∧ (¬ lS A (h0 2 i) (h0 3 i) (h0 4 i) i r n d → g1 84 15 = g 84 15) ∧ ∀ c j, ¬ (c = 84 ∧ (j = i ∨ j = 15)) → ¬ (c = 83 ∧ (j = 47 ∨ j = 48)) → ¬ c = 108 → ¬ c = 109 → g1 c j = g c j := by
  have B0 := lWCD (hs := h0 2 i) (lm := h0 3 i) (st := h0 4 i) (i := (i : Int)) (r := r) (n := n) L hd.1
  obtain ⟨W, eW⟩ : ∃ W, W = lW A (h0 2 i) (h0 3 i) (h0 4 i) i r n d := ⟨_, rfl⟩
  obtain ⟨C, eC⟩ : ∃ C, C = lC A (h0 2 i) (h0 3 i) (h0 4 i) i r n d := ⟨_, rfl⟩
  obtain ⟨D, eD⟩ : ∃ D, D = lD A (h0 2 i) (h0 3 i) (h0 4 i) i r n d := ⟨_, rfl⟩
  have eDv : D = d - W - C := by rw [eD, eW, eC]; rfl
  have g17 : 0 ≤ (i : Int) ∧ (i : Int) < 17 := ⟨by omega, by omega⟩
  obtain ⟨ga, a1, a2⟩ := m_byStreet L hi G r hh (l := 119) (Or.inl rfl)
  rw [ed, en] at a1
  have iW : imin d (A 119 (fc (h0 2 i) (h0 3 i) (h0 4 i) i d r n 0)) = W := by rw [eW]; rfl
  obtain ⟨gb, egb⟩ : ∃ gb, gb = hw (hw ga 84 i (d - W)) 83 47 (g 83 47 + W) := ⟨_, rfl⟩
  have fb : ∀ c j, ¬ (c = 84 ∧ j = i) → ¬ (c = 83 ∧ j = 47) → ¬ c = 108 → ¬ c = 109 → gb c j = g c j := fun c j z1 z2 z3 z4 => by rw [egb, hw_ne z2, hw_ne z1, a2 c j z3 z4]
  have b84 : gb 84 i = d - W := by rw [egb, hw_ne (by omega), hw_eq]
  obtain ⟨gc, c1, c2⟩ := m_byStreet L hi (G.of (fun c j z => fb c j (by omega) (by omega) (by omega) (by omega)) : bM h0 gb) r hh (l := 99) (Or.inr (Or.inl rfl))
  rw [b84, fb 84 14 (by omega) (by omega) (by omega) (by omega), en] at c1
  have iC : imin (d - W) (A 99 (fc (h0 2 i) (h0 3 i) (h0 4 i) i (d - W) r n 0)) = C := by rw [eC, eW]; rfl
  obtain ⟨gd, egd⟩ : ∃ gd, gd = hw (hw gc 84 i D) 83 48 (g 83 48 + C) := ⟨_, rfl⟩
  have fd : ∀ c j, ¬ (c = 84 ∧ j = i) → ¬ (c = 83 ∧ (j = 47 ∨ j = 48)) → ¬ c = 108 → ¬ c = 109 → gd c j = g c j := fun c j z1 z2 z3 z4 => by rw [egd, hw_ne (by omega), hw_ne (by omega), c2 c j z3 z4, fb c j z1 (by omega) z3 z4]
  have d84 : gd 84 i = D := by rw [egd, hw_ne (by omega), hw_eq]
  have d47 : gd 83 47 = g 83 47 + W := by rw [egd, hw_ne (by omega), hw_ne (by omega), c2 83 47 (by omega) (by omega), egb, hw_eq]
  have d48 : gd 83 48 = g 83 48 + C := by rw [egd, hw_eq]
  obtain ⟨ge, e1, e2⟩ := m_byStreet L hi (G.of (fun c j z => fd c j (by omega) (by omega) (by omega) (by omega)) : bM h0 gd) r hh (l := 115) (Or.inr (Or.inr rfl))
  rw [d84, fd 84 14 (by omega) (by omega) (by omega) (by omega), en] at e1
  have k1 : ga 84 i = d := by rw [a2 84 i (by omega) (by omega)]; exact ed
  have k2 : hw ga 84 i (d - W) 83 47 = g 83 47 := by rw [hw_ne (by omega), a2 83 47 (by omega) (by omega)]
  have k3 : gc 84 i = d - W := by rw [c2 84 i (by omega) (by omega)]; exact b84
  have k4 : hw gc 84 i D 83 48 = g 83 48 := by rw [hw_ne (by omega), c2 83 48 (by omega) (by omega), fb 83 48 (by omega) (by omega) (by omega) (by omega)]
  rw [← eW, ← eC, ← eD] at B0
  have main : L_X12_hourEnds_2 N (q + 1) r (i : Int) g = if D ≤ 0 then L_X12_hourEnds_2 N q r ((i + 1 : Nat) : Int) gd else if D < A 115 (fc (h0 2 i) (h0 3 i) (h0 4 i) i D r n 0) then L_X12_hourEnds_2 N q r ((i + 1 : Nat) : Int) ge else L_X12_hourEnds_2 N q r ((i + 1 : Nat) : Int) (hw ge 84 15 (w32 (ge 84 15 + ge 87 i))) := by
    conv => lhs; unfold L_X12_hourEnds_2 J_X12_hourEnds_166
    simp only [bnd_s, w14n hi, grd_t g17, Int.toNat_natCast, grd_t (show 0 ≤ (i : Int) ∧ (i : Int) < 14 from ⟨by omega, by omega⟩)]
    rw [if_neg (by omega), s_isStreet ht e12, bd_s, if_pos ((isT_n hi).mpr ti), if_neg (by decide), ed, a1, bd_s, s_min, bd_s, iW, k1, w32_id (x := d - W) ⟨by omega, by omega⟩, k2, w32_id (x := g 83 47 + W) ⟨by omega, by omega⟩, ← egb, b84, c1, bd_s, s_min, bd_s, iC, k3, w32_id (x := d - W - C) ⟨by omega, by omega⟩, ← eDv, k4, w32_id (x := g 83 48 + C) ⟨by omega, by omega⟩, ← egd, d84, e1, bd_s, inc (by omega)]
    rfl
  rw [main]
  by_cases z1 : D ≤ 0
  · rw [if_pos z1]
    refine ⟨gd, rfl, d84.trans eD, by rw [d47, eW], by rw [d48, eC], fun w => ?_, fun _ => fd 84 15 (by omega) (by omega) (by omega) (by omega), fun c j w1 w2 w3 w4 => fd c j (by omega) w2 w3 w4⟩
    have w1 := w.1
    rw [← eD] at w1
    omega
  · rw [if_neg z1]
    by_cases z2 : D < A 115 (fc (h0 2 i) (h0 3 i) (h0 4 i) i D r n 0)
    · rw [if_pos z2]
      refine ⟨ge, rfl, by rw [e2 84 i (by omega) (by omega), d84, eD], by rw [e2 83 47 (by omega) (by omega), d47, eW], by rw [e2 83 48 (by omega) (by omega), d48, eC], fun w => ?_, fun _ => by rw [e2 84 15 (by omega) (by omega)]; exact fd 84 15 (by omega) (by omega) (by omega) (by omega), fun c j w1 w2 w3 w4 => by rw [e2 c j w3 w4]; exact fd c j (by omega) w2 w3 w4⟩
      have w2 := w.2
      rw [← eD] at w2
      omega
    · rw [if_neg z2]
      refine ⟨_, rfl, by rw [hw_ne (by omega), e2 84 i (by omega) (by omega), d84, eD], by rw [hw_ne (by omega), e2 83 47 (by omega) (by omega), d47, eW], by rw [hw_ne (by omega), e2 83 48 (by omega) (by omega), d48, eC], fun _ => ?_, fun w => absurd ?_ w, fun c j w1 w2 w3 w4 => by rw [hw_ne (by omega), e2 c j w3 w4]; exact fd c j (by omega) w2 w3 w4⟩
      · unfold eqw
        rw [hw_eq, e2 84 15 (by omega) (by omega), fd 84 15 (by omega) (by omega) (by omega) (by omega), e2 87 i (by omega) (by omega), fd 87 i (by omega) (by omega) (by omega) (by omega), G.2 87 (by omega), (hh i hi).1]
      · unfold lS
        rw [← eD]
        exact ⟨by omega, by omega⟩
theorem hr_all (S : ST N A t cr nn h0 hS gS) {r : Int} : ∀ (d q1 q2 i x : Nat) (h g : Hp), i + d = 14 → d < q1 → d < q2 → x + d ≤ 200 → NS t cr nn B hS gS x h g → ∃ h' g', (∀ K, L_X5_goThrough_27 N K q1 r (i : Int) h = K r h') ∧ L_X12_hourEnds_2 N q2 r (i : Int) g = some g' ∧ NS t cr nn B hS gS (x + d) h' g' ∧ ∀ k, k < 5 → g' 116 k = g 116 k := by
  intro d
  induction d with
  | zero =>
    intro q1 q2 i x h g hi h1 h2 _ H
    obtain ⟨q1, rfl⟩ : ∃ q, q1 = q + 1 := ⟨q1 - 1, by omega⟩
    obtain ⟨q2, rfl⟩ : ∃ q, q2 = q + 1 := ⟨q2 - 1, by omega⟩
    obtain rfl : i = 14 := by omega
    refine ⟨h, g, fun K => ?_, ?_, H, fun _ _ => rfl⟩
    · unfold L_X5_goThrough_27
      rw [if_pos (by omega)]
    · unfold L_X12_hourEnds_2
      rw [if_pos (by omega)]
  | succ d ih =>
    intro q1 q2 i x h g hi h1 h2 hx H
    obtain ⟨q1, rfl⟩ : ∃ q, q1 = q + 1 := ⟨q1 - 1, by omega⟩
    obtain ⟨q2, rfl⟩ : ∃ q, q2 = q + 1 := ⟨q2 - 1, by omega⟩
    obtain ⟨n1, n2, n3, n4, n5⟩ := id H
    obtain ⟨s0, s1, s2, s3, s4, s5, s6, s7, s8, s9⟩ := id S
    have i14 : i < 14 := by omega
    have e14 : h 1 4 = (t : Int) := by rw [n1 1 4 (by omega) (by omega) (by omega) (by omega) (by omega)]; exact s5
    have e12 : g 83 12 = (t : Int) := by rw [n2 83 12 (by omega) (by omega) (by omega) (by omega) (by omega)]; exact s6
    obtain ⟨⟨c1, c2, c3⟩, ⟨c4, c5, c6⟩, ⟨c7, c8, c9⟩, a, c10, c11, c12, c13⟩ := id n4
    by_cases ti : t.testBit i = true
    · have bh : bX h0 h := s2.of (fun c' j z => n1 c' j (by omega) (by omega) (by omega) (by omega) (by omega))
      have bg : bM h0 g := s3.of (fun c' j z => n2 c' j (by omega) (by omega) (by omega) (by omega) (by omega))
      have ng : g 84 14 = h0 1 5 := by rw [n2 84 14 (by omega) (by omega) (by omega) (by omega) (by omega)]; exact s7
      have D := n3 i i14
      obtain ⟨hb, s, x1, x2, x3, x4, x5, x6, x7⟩ := x_after s1 bh i14 (r := r) ⟨D.2.1, D.2.2.1⟩
      have x5 := x5 ⟨c2, by omega⟩
      have x6 := x6 ⟨c5, by omega⟩
      obtain ⟨gb, y1, y2, y3, y4, y5, y5', y6⟩ := m_hour (N := N) s1 bg (fun j hj => (s4 j hj).1) s0 e12 i14 ti (r := r) (n := h0 1 5) (d := h 58 i) ⟨D.2.1, D.2.2.1⟩ D.1 ng (by rw [c1]; exact ⟨c2, by omega⟩) (by rw [c4]; exact ⟨c5, by omega⟩) q2
      have Bd := lWCD (hs := h0 2 i) (lm := h0 3 i) (st := h0 4 i) (i := (i : Int)) (r := r) (n := h0 1 5) s1 D.2.1
      have hs9 := (s4 i i14).2
      -- the class's heap behind the street
      obtain ⟨hc, ehc⟩ : ∃ hc, hc = (if lS A (h0 2 i) (h0 3 i) (h0 4 i) i r (h0 1 5) (h 58 i) then hw hb 57 10 (h 57 10 + h0 2 i) else hb) := ⟨_, rfl⟩
      have b10 : hb 57 10 = h 57 10 := x7 57 10 (by omega) (by omega) (by omega) (by omega) (by omega)
      have fc' : ∀ c j, ¬ (c = 58 ∧ j = i) → ¬ (c = 57 ∧ (j = 10 ∨ j = 12 ∨ j = 13)) → ¬ c = 18 → ¬ c = 19 → ¬ (c = 11 ∧ (j = 10 ∨ j = 11)) → hc c j = h c j := fun c j z1 z2 z3 z4 z5 => by
        rw [ehc]
        by_cases w : lS A (h0 2 i) (h0 3 i) (h0 4 i) i r (h0 1 5) (h 58 i)
        · rw [if_pos w, hw_ne (by omega)]; exact x7 c j z1 (by omega) z3 z4 z5
        · rw [if_neg w]; exact x7 c j z1 (by omega) z3 z4 z5
      have hcb : ∀ c j, ¬ (c = 57 ∧ j = 10) → hc c j = hb c j := fun c j z => by
        rw [ehc]
        by_cases w : lS A (h0 2 i) (h0 3 i) (h0 4 i) i r (h0 1 5) (h 58 i)
        · rw [if_pos w, hw_ne z]
        · rw [if_neg w]
      have hc10 : hc 57 10 = h 57 10 + (if lS A (h0 2 i) (h0 3 i) (h0 4 i) i r (h0 1 5) (h 58 i) then h0 2 i else 0) := by
        rw [ehc]
        by_cases w : lS A (h0 2 i) (h0 3 i) (h0 4 i) i r (h0 1 5) (h 58 i)
        · rw [if_pos w, if_pos w, hw_eq]
        · rw [if_neg w, if_neg w, b10]; omega
      have stX : ∀ K, L_X5_goThrough_27 N K (q1 + 1) r (i : Int) h = L_X5_goThrough_27 N K q1 r ((i + 1 : Nat) : Int) hc := fun K => by
        conv => lhs; unfold L_X5_goThrough_27 J_X5_goThrough_70
        simp only [bnd_s]
        rw [if_neg (by omega), s_isTold s0 e14, bd_s, if_pos ((isT_n i14).mpr ti), if_neg (by decide), x1, bd_s, inc (by omega), s_houses i14, bd_s]
        rcases x2 with rfl | rfl
        · rw [if_pos rfl, ehc, if_neg (fun w => absurd (x3.mpr w) (by decide))]
        · have eh : hb 2 i = h0 2 i := by rw [x7 2 i (by omega) (by omega) (by omega) (by omega) (by omega), bh.2.1 2 (by omega)]
          rw [if_neg (by decide), ehc, if_pos (x3.mp rfl), eh, b10, w32_id ⟨by omega, by omega⟩]
      have sl0 : 0 ≤ (if lS A (h0 2 i) (h0 3 i) (h0 4 i) i r (h0 1 5) (h 58 i) then h0 2 i else 0) ∧ (if lS A (h0 2 i) (h0 3 i) (h0 4 i) i r (h0 1 5) (h 58 i) then h0 2 i else 0) ≤ 99 := by split <;> omega
      have NS1 : NS t cr nn B hS gS (x + 1) hc gb := by
        refine ⟨fun c j z1 z2 z3 z4 z5 => by rw [fc' c j (by omega) (by omega) z3 z4 z5]; exact n1 c j z1 z2 z3 z4 z5, fun c j z1 z2 z3 z4 z5 => by rw [y6 c j (by omega) (by omega) z3 z4]; exact n2 c j z1 z2 z3 z4 z5, fun j hj => ?_, ?_, fun k hk => ?_⟩
        · by_cases z : j = i
          · subst z
            rw [hcb 58 j (by omega), x4, y2]
            exact ⟨rfl, Bd.2.2.2.2.1, by omega, fun w => absurd ti w⟩
          · rw [fc' 58 j (by omega) (by omega) (by omega) (by omega) (by omega), y6 84 j (by omega) (by omega) (by omega) (by omega)]
            exact n3 j hj
        · have r12 : hc 57 12 = h 57 12 + lW A (h0 2 i) (h0 3 i) (h0 4 i) i r (h0 1 5) (h 58 i) := by rw [hcb 57 12 (by omega)]; exact x5
          have r13 : hc 57 13 = h 57 13 + lC A (h0 2 i) (h0 3 i) (h0 4 i) i r (h0 1 5) (h 58 i) := by rw [hcb 57 13 (by omega)]; exact x6
          have r14 : hc 57 14 = h 57 14 := fc' 57 14 (by omega) (by omega) (by omega) (by omega) (by omega)
          have r15 : hc 57 15 = h 57 15 := fc' 57 15 (by omega) (by omega) (by omega) (by omega) (by omega)
          have q49 : gb 83 49 = g 83 49 := y6 83 49 (by omega) (by omega) (by omega) (by omega)
          have q50 : gb 83 50 = g 83 50 := y6 83 50 (by omega) (by omega) (by omega) (by omega)
          have rmm : sm (rmk nn gb) 5 = sm (rmk nn g) 5 := sm_c (fun k hk => by unfold rmk; rw [y6 116 k (by omega) (by omega) (by omega) (by omega), y6 115 k (by omega) (by omega) (by omega) (by omega)])
          refine ⟨⟨by rw [y3, c1, r12], by rw [r12]; omega, by rw [r12]; omega⟩, ⟨by rw [y4, c4, r13], by rw [r13]; omega, by rw [r13]; omega⟩, ⟨?_, by rw [hc10]; omega, by rw [hc10]; omega⟩, a, by rw [r15]; exact c10, by rw [q50]; exact c11, by rw [q49, r14]; exact c12, by rw [rmm]; exact c13⟩
          rw [hc10]
          by_cases w : lS A (h0 2 i) (h0 3 i) (h0 4 i) i r (h0 1 5) (h 58 i)
          · rw [if_pos w, ← Int.add_assoc]
            exact eqw_add c7 (y5 w)
          · rw [if_neg w, Int.add_zero, y5' w]
            exact c7
        · obtain ⟨m1, m2, m3, m4, m5, m6⟩ := n5 k hk
          have p59 : ∀ c, 59 ≤ c → c ≤ 64 → hc c k = h c k := fun c w1 w2 => fc' c k (by omega) (by omega) (by omega) (by omega) (by omega)
          have p113 : ∀ c, 113 ≤ c → c ≤ 117 → gb c k = g c k := fun c w1 w2 => y6 c k (by omega) (by omega) (by omega) (by omega)
          unfold DC FIN PND
          rw [p59 59 (by omega) (by omega), p59 60 (by omega) (by omega), p59 62 (by omega) (by omega), p59 63 (by omega) (by omega), p59 64 (by omega) (by omega), p113 114 (by omega) (by omega), p113 115 (by omega) (by omega), p113 116 (by omega) (by omega), p113 117 (by omega) (by omega)]
          exact ⟨m1, m2, m3, m4, m5, m6⟩
      obtain ⟨h', g', k1, k2, k3, k4⟩ := ih q1 q2 (i + 1) (x + 1) hc gb (by omega) (by omega) (by omega) (by omega) NS1
      refine ⟨h', g', fun K => by rw [stX K]; exact k1 K, by rw [y1]; exact k2, by rw [show x + (d + 1) = x + 1 + d by omega]; exact k3, fun k hk => by rw [k4 k hk]; exact y6 116 k (by omega) (by omega) (by omega) (by omega)⟩
    · have nt : ¬ isT t (i : Int) := fun z => ti ((isT_n i14).mp z)
      have NS1 : NS t cr nn B hS gS (x + 1) h g := ⟨n1, n2, n3, ⟨⟨c1, c2, by omega⟩, ⟨c4, c5, by omega⟩, ⟨c7, c8, by omega⟩, a, c10, c11, c12, c13⟩, n5⟩
      obtain ⟨h', g', k1, k2, k3, k4⟩ := ih q1 q2 (i + 1) (x + 1) h g (by omega) (by omega) (by omega) (by omega) NS1
      refine ⟨h', g', fun K => ?_, ?_, by rw [show x + (d + 1) = x + 1 + d by omega]; exact k3, k4⟩
      · refine Eq.trans ?_ (k1 K)
        conv => lhs; unfold L_X5_goThrough_27
        rw [if_neg (by omega), s_isTold s0 e14, bd_s, if_neg nt, if_pos rfl]
        unfold J_X5_goThrough_70
        rw [bnd_s, inc (by omega)]
      · refine Eq.trans ?_ k2
        conv => lhs; unfold L_X12_hourEnds_2
        rw [if_neg (by omega), s_isStreet s0 e12, bd_s, if_neg nt, if_pos rfl]
        unfold J_X12_hourEnds_166
        rw [bnd_s, inc (by omega)]
end HE
