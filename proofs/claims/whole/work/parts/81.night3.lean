/-! A NIGHT: a cart's arrival, an hour's end -/
section SV
variable {N t x : Nat} {cr nn : Nat → Nat} {B : Int} {A : Int → (Nat → Int) → Int} {h0 hS gS h g : Hp}
theorem sv (hN : 1000000 ≤ N) (S : ST N A t cr nn h0 hS gS) (H : NS t cr nn B hS gS x h g) {k : Nat} {m : Int} (hk : k < 5) (e116 : g 116 k = m) (hm : m < 600) : ∃ h' g', F_X5_serve N (k : Int) h = some h' ∧ F_X12_arrives N (k : Int) m g = some g' ∧ h 62 k = m ∧ 0 ≤ m ∧ NS t cr nn B hS gS x h' g' ∧ m ≤ g' 116 k ∧ (∀ j, j < 5 → j ≠ k → g' 116 j = g 116 j) ∧ sm (rmk nn g') 5 + 1 ≤ sm (rmk nn g) 5 := by
  obtain ⟨n1, n2, n3, n4, n5⟩ := id H
  obtain ⟨s0, s1, s2, s3, s4, s5, s6, s7, s8, s9⟩ := id S
  obtain ⟨m1, m2, m3, m4, m5, m6⟩ := n5 k hk
  rcases m6 with y | ⟨ck, p1, p2, p3, p4, t0, s, u, q1, q2, q3, q4, q5, q6⟩
  · have := y.2.1; omega
  obtain ⟨-, P⟩ := (s9 k hk).resolve_left ck
  obtain ⟨c, ec⟩ : ∃ c, c = cr k - 1 := ⟨_, rfl⟩
  have ec1 : cr k = c + 1 := by omega
  rw [← ec] at P m5
  have m5 := m5 ck
  have cR := P.1
  have cB : c ≤ 60 ∧ (c = 21 ∨ c = 25 ∨ c = 29 ∨ c = 33 ∨ c = 37 ∨ c = 53) := by unfold cartR at cR; omega
  have g5 : 0 ≤ (k : Int) ∧ (k : Int) < 5 := ⟨by omega, by omega⟩
  have e62 : h 62 k = m := p1.trans e116
  have m0 : 0 ≤ m := by omega
  -- the cells that stand fast
  have hc : ∀ c' j, c ≤ c' → c' ≤ c + 3 → h c' j = hS c' j := fun c' j y1 y2 => n1 c' j (by omega) (by omega) (by omega) (by omega) (by omega)
  have gc : ∀ c' j, 92 ≤ c' → c' ≤ 95 → g c' j = gS c' j := fun c' j y1 y2 => n2 c' j (by omega) (by omega) (by omega) (by omega) (by omega)
  have Ph : PR (nn k) k c h g := P.ag hc gc
  obtain ⟨a0, a1, a2, a3, a4, a5, a6, a7⟩ := id Ph
  have SEs := a7 s q1
  obtain ⟨u', u1, u2, u3, u4, u5, u6⟩ := stop_at SEs
  have e5 : h (c + 1) s = (u : Int) := by rw [hc (c + 1) s (by omega) (by omega), ← ec1]; exact q5
  obtain rfl : u = u' := by omega
  have bh : bX h0 h := s2.of (fun c' j z => n1 c' j (by omega) (by omega) (by omega) (by omega) (by omega))
  have bg : bM h0 g := s3.of (fun c' j z => n2 c' j (by omega) (by omega) (by omega) (by omega) (by omega))
  have hh : ∀ j, j < 14 → h0 87 j = h0 2 j ∧ h0 88 j = h0 3 j ∧ h0 89 j = h0 4 j := fun j hj => (s4 j hj).1
  have nt : h 1 5 = h0 1 5 := bh.2.2 5
  have ng : g 84 14 = h0 1 5 := by rw [n2 84 14 (by omega) (by omega) (by omega) (by omega) (by omega)]; exact s7
  obtain ⟨-, -, -, a, ea, eb, ⟨el, el0, el1⟩, ear⟩ := id n4
  have D := n3 u u1
  have alm : (a : Int) ≤ 80 := by have := sm_nn (rmk_b n5); omega
  have hd60 : idiv m 60 = m / 60 := idiv_pos ⟨m0, by omega⟩ ⟨by omega, by omega⟩
  -- the class up to the question
  obtain ⟨hA, ehA⟩ : ∃ hA, hA = hw (hw (hw h 57 15 ((a + 1 : Nat) : Int)) 64 k m) 61 k (u : Int) := ⟨_, rfl⟩
  obtain ⟨hB, ehB⟩ : ∃ hB, hB = hw (hw (hw hA 18 5 (m / 60)) 18 6 (h0 1 5)) 18 7 (k : Int) := ⟨_, rfl⟩
  have fA : ∀ c' j, ¬ (c' = 57 ∧ j = 15) → ¬ (j = k ∧ (c' = 61 ∨ c' = 64)) → hA c' j = h c' j := fun c' j z1 z2 => by rw [ehA, hw_ne (by omega), hw_ne (by omega), hw_ne (by omega)]
  have fB : ∀ c' j, ¬ c' = 18 → hB c' j = hA c' j := fun c' j z => by rw [ehB, hw_ne (by omega), hw_ne (by omega), hw_ne (by omega)]
  have b18 : hB 18 5 = m / 60 ∧ hB 18 6 = h0 1 5 ∧ hB 18 7 = (k : Int) := by rw [ehB]; simp [hw]
  have bB : bX h0 hB := bh.of (fun c' j z => by rw [fB c' j (by omega), fA c' j (by omega) (by omega)])
  obtain ⟨hC, x1, x2⟩ := x_ask s1 bB u1 (l := 117) (Or.inr (Or.inr (Or.inr rfl)))
  rw [b18.1, b18.2.1, b18.2.2, fB 58 u (by omega), fA 58 u (by omega) (by omega)] at x1
  obtain ⟨e, ee⟩ : ∃ e, e = A 117 (fc (h0 2 u) (h0 3 u) (h0 4 u) u (h 58 u) (m / 60) (h0 1 5) (k : Int)) := ⟨_, rfl⟩
  rw [← ee] at x1
  have eB : 0 ≤ e ∧ e ≤ 9 := by rw [ee]; exact s1.1 117 _
  have fC : ∀ c' j, ¬ (c' = 57 ∧ j = 15) → ¬ (j = k ∧ (c' = 61 ∨ c' = 64)) → ¬ c' = 18 → ¬ c' = 19 → ¬ (c' = 11 ∧ (j = 10 ∨ j = 11)) → hC c' j = h c' j := fun c' j z1 z2 z3 z4 z5 => by rw [x2 c' j (by omega) z4 z5, fB c' j z3, fA c' j z1 z2]
  have C15 : hC 57 15 = ((a + 1 : Nat) : Int) := by rw [x2 57 15 (by omega) (by omega) (by omega), fB 57 15 (by omega), ehA, hw_ne (by omega), hw_ne (by omega), hw_eq]
  have C64 : hC 64 k = m := by rw [x2 64 k (by omega) (by omega) (by omega), fB 64 k (by omega), ehA, hw_ne (by omega), hw_eq]
  have C61 : hC 61 k = (u : Int) := by rw [x2 61 k (by omega) (by omega) (by omega), fB 61 k (by omega), ehA, hw_eq]
  have Cc : ∀ c' j, c ≤ c' → c' ≤ c + 3 → hC c' j = h c' j := fun c' j y1 y2 => fC c' j (by omega) (by omega) (by omega) (by omega) (by omega)
  have C3 : hC c 3 = (nn k : Int) := by rw [Cc c 3 (by omega) (by omega)]; exact a2
  -- the reference up to the question
  obtain ⟨gA, egA⟩ : ∃ gA, gA = hw (hw g 113 k (u : Int)) 83 50 ((a + 1 : Nat) : Int) := ⟨_, rfl⟩
  have kA : ∀ c' j, ¬ (j = k ∧ c' = 113) → ¬ (c' = 83 ∧ j = 50) → gA c' j = g c' j := fun c' j z1 z2 => by rw [egA, hw_ne (by omega), hw_ne (by omega)]
  have bgA : bM h0 gA := bg.of (fun c' j z => kA c' j (by omega) (by omega))
  obtain ⟨gB, y1, y2, y3⟩ := m_feels (N := N) u1 bgA (m / 60) (k : Int) hh
  rw [kA 84 u (by omega) (by omega), kA 84 14 (by omega) (by omega), ng, D.1] at y2
  obtain ⟨gC, z1, z2⟩ := s1.2.2.2 gB 117 (bgA.of (fun c' j z => y3 c' j (by omega))).1 (Or.inr (Or.inr (Or.inr rfl)))
  have z1 : F_X12_byLaw N 117 9 gB = some (A 117 (gB 109), gC) := z1
  rw [s1.2.1 117 _ _ y2, ← ee] at z1
  have kC : ∀ c' j, ¬ (j = k ∧ c' = 113) → ¬ (c' = 83 ∧ j = 50) → ¬ c' = 108 → ¬ c' = 109 → gC c' j = g c' j := fun c' j w1 w2 w3 w4 => by rw [z2 c' j w3, y3 c' j w4, kA c' j w1 w2]
  have kC50 : gC 83 50 = ((a + 1 : Nat) : Int) := by rw [z2 83 50 (by omega), y3 83 50 (by omega), egA, hw_eq]
  have kC13 : gC 113 k = (u : Int) := by rw [z2 113 k (by omega), y3 113 k (by omega), egA, hw_ne (by omega), hw_eq]
  have W : WY t h g := s8.ag (fun j => n1 10 j (by omega) (by omega) (by omega) (by omega) (by omega)) (fun j => n2 91 j (by omega) (by omega) (by omega) (by omega) (by omega))
  have e14 : h 1 4 = (t : Int) := by rw [n1 1 4 (by omega) (by omega) (by omega) (by omega) (by omega)]; exact s5
  have cRef : cartR (c + 1) := cR
  -- both sides, up to what is taken or left
  have eX : ∀ v hD, (if hC (c + 3) s = 0 then (v = imin (hC (c + 2) s) (hC 63 k) ∧ F_X5_leave N (k : Int) (u : Int) v hC = some (v, hD)) else (v = imin (hC (c + 2) s) (hC c 4 - hC 63 k) ∧ F_X5_takeOn N (k : Int) v hC = some (v, hD))) → F_X5_serve N (k : Int) h = J_X5_serve_161 N (k : Int) m (s : Int) e v hD := fun v hD hv => by
    unfold F_X5_serve J_X5_serve_19 F_X1_night F_X2_regardTime F_X0_room
    have n60 : h 59 k = ((c + 1 : Nat) : Int) := by rw [m1, ec1]
    have A15 : hA 1 5 = h0 1 5 := by rw [fA 1 5 (by omega) (by omega)]; exact nt
    have r4 : hC c 4 = hS c 4 := by rw [Cc c 4 (by omega) (by omega), hc c 4 (by omega) (by omega)]
    rw [s_isWithin, bd_s, if_pos (show 0 ≤ (k : Int) ∧ (k : Int) ≤ 4 from ⟨by omega, by omega⟩), if_neg (by decide), grd_t ⟨g5.1, g5.2, by rw [Int.toNat_natCast, n60]; omega⟩, bnd_s, Int.toNat_natCast, n60, Int.toNat_natCast, if_neg (by omega), grd_t g5, bnd_s, e62, grd_t g5, bnd_s, q3, grd_t cRef, show c + 1 - 1 = c by omega, s_streetOf a2 a1 q1, bd_s, e5, ea, inc (by omega), bnd_s, grd_t g5, bnd_s, grd_t g5, bnd_s, ← ehA, bd_s, A15, hd60]
    simp only [bnd_s, bv_s, t5, t6, t7]
    rw [← ehB, x1, bd_s, s_takesOn C3 a1 q1 (by rw [Cc (c + 3) s (by omega) (by omega)]; exact u4), bd_s, s_yardsOf C3 a1 q1, bd_s]
    by_cases w : hC (c + 3) s = 0
    · rw [if_pos w] at hv ⊢
      rw [grd_t g5, ← hv.1, hv.2, bd_s]
    · rw [if_neg w] at hv ⊢
      have b1 := hv.1
      rw [bd_s, bd_s, grd_t g5, w32_id (x := hC c 4 - hC 63 k) ⟨by rw [fC 63 k (by omega) (by omega) (by omega) (by omega) (by omega), r4]; have := P.2.2.2.2.1; omega, by rw [fC 63 k (by omega) (by omega) (by omega) (by omega) (by omega), r4]; have := P.2.2.2.2.2.1; omega⟩, ← hv.1, hv.2, bd_s]
  have SC : SE (hC (c + 1) s) (hC (c + 2) s) (hC (c + 3) s) (g 94 (16 * k + s)) (g 95 (16 * k + s)) := by rw [Cc _ s (by omega) (by omega), Cc _ s (by omega) (by omega), Cc _ s (by omega) (by omega)]; exact SEs
  have C63 : hC 63 k = h 63 k := fC 63 k (by omega) (by omega) (by omega) (by omega) (by omega)
  have C4 : hC c 4 = hS c 4 := by rw [Cc c 4 (by omega) (by omega), hc c 4 (by omega) (by omega)]
  have C58 : hC 58 u = h 58 u := fC 58 u (by omega) (by omega) (by omega) (by omega) (by omega)
  have C14 : hC 57 14 = h 57 14 := fC 57 14 (by omega) (by omega) (by omega) (by omega) (by omega)
  have P4 := P.2.2.2.2
  obtain ⟨⟨sy0, sy1, sy2⟩, skk⟩ := SC
  have G94 : ∀ c' j, 92 ≤ c' → c' ≤ 95 → gC c' j = g c' j := fun c' j w1 w2 => kC c' j (by omega) (by omega) (by omega) (by omega)
  have i80 : 0 ≤ ((16 * k + s : Nat) : Int) ∧ ((16 * k + s : Nat) : Int) < 80 := ⟨by omega, by omega⟩
  -- the end, common
  have fin : ∀ (v L lf d : Int) (hD gE : Hp), (0 ≤ v ∧ v ≤ 99) → (0 ≤ L ∧ L ≤ hS c 4) → (0 ≤ lf ∧ lf ≤ 99 * ((a + 1 : Nat) : Int)) → (0 ≤ d ∧ d ≤ 999) → F_X5_serve N (k : Int) h = J_X5_serve_161 N (k : Int) m (s : Int) e v hD → F_X12_arrives N (k : Int) m g = (bv (F_X12_goesOn N (k : Int) (w32 (m + (w32 (e * v)))) gE) fun h2 => some h2) → (∀ c' j, ¬ (c' = 57 ∧ (j = 14 ∨ j = 15)) → ¬ (c' = 58 ∧ j = u) → ¬ (j = k ∧ (c' = 61 ∨ c' = 63 ∨ c' = 64)) → ¬ c' = 18 → ¬ c' = 19 → ¬ (c' = 11 ∧ (j = 10 ∨ j = 11)) → hD c' j = h c' j) → hD 63 k = L → hD 57 14 = lf → hD 57 15 = ((a + 1 : Nat) : Int) → hD 58 u = d → hD 64 k = m → hD 61 k = (u : Int) → (∀ c' j, ¬ (c' = 83 ∧ (j = 49 ∨ j = 50)) → ¬ (c' = 84 ∧ j = u) → ¬ (j = k ∧ (c' = 113 ∨ c' = 114 ∨ c' = 115)) → ¬ c' = 108 → ¬ c' = 109 → gE c' j = g c' j) → gE 114 k = L → gE 83 49 = lf → gE 83 50 = ((a + 1 : Nat) : Int) → gE 84 u = d → gE 113 k = (u : Int) → gE 115 k = ((s + 1 : Nat) : Int) → ∃ h' g', F_X5_serve N (k : Int) h = some h' ∧ F_X12_arrives N (k : Int) m g = some g' ∧ h 62 k = m ∧ 0 ≤ m ∧ NS t cr nn B hS gS x h' g' ∧ m ≤ g' 116 k ∧ (∀ j, j < 5 → j ≠ k → g' 116 j = g 116 j) ∧ sm (rmk nn g') 5 + 1 ≤ sm (rmk nn g) 5 := by
    intro v L lf d hD gE hv hL hlf hd eqX eqM fD d63 d14 d15 d58 d64 d61 fE e114 e49 e50 e84 e13 e15
    have ev : 0 ≤ e * v ∧ e * v ≤ 891 := by
      have b1 : 0 ≤ e * v := Int.mul_nonneg eB.1 hv.1
      have b2 : e * v ≤ 9 * v := Int.mul_le_mul_of_nonneg_right eB.2 hv.1
      omega
    have hm2 : 0 ≤ m + e * v ∧ m + e * v ≤ 100000 := ⟨by omega, by omega⟩
    have PD : PR (nn k) k c hD gE := Ph.ag (fun c' j w1 w2 => fD c' j (by omega) (by omega) (by omega) (by omega) (by omega) (by omega)) (fun c' j w1 w2 => fE c' j (by omega) (by omega) (by omega) (by omega) (by omega))
    have WD : WY t hD gE := W.ag (fun j => fD 10 j (by omega) (by omega) (by omega) (by omega) (by omega) (by omega)) (fun j => fE 91 j (by omega) (by omega) (by omega) (by omega) (by omega))
    obtain ⟨h', g', r1, r2, r3⟩ := go_sim (N := N) hN s0 (by rw [fD 1 4 (by omega) (by omega) (by omega) (by omega) (by omega) (by omega)]; exact e14) WD hk PD (p := u) (s := s + 1) u1 (Or.inl ⟨t0, q6⟩) hm2 (by omega) (by rw [fD 59 k (by omega) (by omega) (by omega) (by omega) (by omega) (by omega), m1, ec1]) d61 e13 e15
    have fi := sv_fin (L := L) (lf := lf) (d := d) (u := u) (a := a) S H hk ck e116 (p4.trans e116) ⟨m0, hm⟩ q1 q4 u1 q6 ea ear (by rw [← ec]; exact hL) hlf hd fD d63 d14 d15 d58 d64 fE e114 e49 e50 e84 (mm := m + e * v) ⟨by omega, by omega⟩ (by rw [← ec]; exact r3)
    refine ⟨h', g', ?_, ?_, e62, m0, fi⟩
    · rw [eqX]
      unfold J_X5_serve_161
      rw [inc (by omega), w32_id (x := e * v) ⟨by omega, by omega⟩, w32_id (x := m + e * v) ⟨by omega, by omega⟩, r1, bv_s]
    · rw [eqM, w32_id (x := e * v) ⟨by omega, by omega⟩, w32_id (x := m + e * v) ⟨by omega, by omega⟩, r2, bv_s]
  have arr : F_X12_arrives N (k : Int) m g = (if g 94 (16 * k + s) = 14 then (bd (F_X12_min N (gC 95 (16 * k + s)) (w32 ((gC 92 k) - (gC 114 k))) gC) fun y18 h17 => bnd (hw h17 114 k (w32 ((h17 114 k) + y18))) fun h19 => J_X12_arrives_185 N (k : Int) m e y18 h19) else (bd (F_X12_min N (gC 95 (16 * k + s)) (gC 114 k) gC) fun y11 h10 => bnd (hw h10 114 k (w32 ((h10 114 k) - y11))) fun h12 => bnd (hw h12 83 49 (w32 ((h12 83 49) + y11))) fun h13 => grd (0 ≤ (w32 (0 + g 94 (16 * k + s))) ∧ (w32 (0 + g 94 (16 * k + s))) < 17) <| bd (F_X12_min N 999 (w32 ((h13 84 (w32 (0 + g 94 (16 * k + s))).toNat) + y11)) h13) fun y15 h14 => grd (0 ≤ (w32 (0 + g 94 (16 * k + s))) ∧ (w32 (0 + g 94 (16 * k + s))) < 17) <| bnd (hw h14 84 (w32 (0 + g 94 (16 * k + s))).toNat y15) fun h16 => J_X12_arrives_185 N (k : Int) m e y11 h16)) := by
    unfold F_X12_arrives
    have gA113 : gA 113 k = (u : Int) := by rw [egA, hw_ne (by omega), hw_eq]
    have e50' : hw g 113 k (u : Int) 83 50 = (a : Int) := by rw [hw_ne (by omega)]; exact eb
    rw [grd_t g5, Int.toNat_natCast, q4, w16 hk (by omega), bnd_s, grd_t i80, bnd_s, Int.toNat_natCast, s_placeOf, bd_s, u3, grd_t g5, bnd_s, e50', inc (by omega), bnd_s, ← egA, grd_t g5, gA113, hd60, y1, bv_s, z1, bd_s]
    simp only [grd_t g5, grd_t i80]
  rcases u4 with kk | kk
  · -- yards are left
    have ea4 : g 94 (16 * k + s) = (u : Int) := u5 kk
    obtain ⟨v, ev⟩ : ∃ v, v = imin (hC (c + 2) s) (h 63 k) := ⟨_, rfl⟩
    have vb : 0 ≤ v ∧ v ≤ 99 ∧ v ≤ h 63 k := by rw [ev]; unfold imin; split <;> omega
    obtain ⟨d, ed⟩ : ∃ d, d = imin 999 (h 58 u + v) := ⟨_, rfl⟩
    have db : 0 ≤ d ∧ d ≤ 999 := by rw [ed]; unfold imin; split <;> omega
    refine fin v (h 63 k - v) (h 57 14 + v) d (hw (hw (hw hC 63 k (h 63 k - v)) 57 14 (h 57 14 + v)) 58 u d) (hw (hw (hw (hw gC 114 k (h 63 k - v)) 83 49 (h 57 14 + v)) 84 u d) 115 k ((s + 1 : Nat) : Int)) ⟨vb.1, vb.2.1⟩ ⟨by omega, by omega⟩ ⟨by omega, by omega⟩ db (eX v _ ?_) ?_ (fun c' j w1 w2 w3 w4 w5 w6 => by rw [hw_ne (by omega), hw_ne (by omega), hw_ne (by omega), fC c' j (by omega) (by omega) w4 w5 w6]) (by rw [hw_ne (by omega), hw_ne (by omega), hw_eq]) (by rw [hw_ne (by omega), hw_eq]) (by rw [hw_ne (by omega), hw_ne (by omega), hw_ne (by omega)]; exact C15) hw_eq (by rw [hw_ne (by omega), hw_ne (by omega), hw_ne (by omega)]; exact C64) (by rw [hw_ne (by omega), hw_ne (by omega), hw_ne (by omega)]; exact C61) (fun c' j w1 w2 w3 w4 w5 => by rw [hw_ne (by omega), hw_ne (by omega), hw_ne (by omega), hw_ne (by omega), kC c' j (by omega) (by omega) w4 w5]) (by rw [hw_ne (by omega), hw_ne (by omega), hw_ne (by omega), hw_eq]) (by rw [hw_ne (by omega), hw_ne (by omega), hw_eq]) (by rw [hw_ne (by omega), hw_ne (by omega), hw_ne (by omega), hw_ne (by omega)]; exact kC50) (by rw [hw_ne (by omega), hw_eq]) (by rw [hw_ne (by omega), hw_ne (by omega), hw_ne (by omega), hw_ne (by omega)]; exact kC13) hw_eq
    · rw [if_pos (by rw [Cc _ s (by omega) (by omega)]; exact kk)]
      refine ⟨by rw [ev, C63], ?_⟩
      unfold F_X5_leave
      rw [grd_t g5, grd_t g5, Int.toNat_natCast, C63, w32_id (x := h 63 k - v) ⟨by omega, by omega⟩, bnd_s, hw_ne (by omega), C14, w32_id (x := h 57 14 + v) ⟨by omega, by omega⟩, bnd_s, s_isWithin, bd_s, if_pos (show 0 ≤ (u : Int) ∧ (u : Int) ≤ 13 from ⟨by omega, by omega⟩), if_neg (by decide), grd_t ⟨by omega, by omega⟩, grd_t ⟨by omega, by omega⟩, Int.toNat_natCast, hw_ne (by omega), hw_ne (by omega), C58, w32_id (x := h 58 u + v) ⟨by omega, by omega⟩, ← ed, bnd_s]
    · have g114 : gC 114 k = h 63 k := by rw [kC 114 k (by omega) (by omega) (by omega) (by omega)]; exact m2
      have g95 : gC 95 (16 * k + s) = hC (c + 2) s := by rw [G94 95 _ (by omega) (by omega)]; exact sy2
      have g49 : gC 83 49 = h 57 14 := by rw [kC 83 49 (by omega) (by omega) (by omega) (by omega)]; exact el
      have g84 : gC 84 u = h 58 u := by rw [kC 84 u (by omega) (by omega) (by omega) (by omega)]; exact D.1
      have g115 : gC 115 k = (s : Int) := by rw [kC 115 k (by omega) (by omega) (by omega) (by omega)]; exact q4
      rw [arr, ea4, if_neg (by omega), g95, g114, s_min, bd_s, ← ev, g114, w32_id (x := h 63 k - v) ⟨by omega, by omega⟩, bnd_s, hw_ne (by omega), g49, w32_id (x := h 57 14 + v) ⟨by omega, by omega⟩, bnd_s, w14 ⟨by omega, by omega⟩, grd_t ⟨by omega, by omega⟩, Int.toNat_natCast, hw_ne (by omega), hw_ne (by omega), g84, w32_id (x := h 58 u + v) ⟨by omega, by omega⟩, s_min, bd_s, ← ed, grd_t ⟨by omega, by omega⟩, bnd_s]
      unfold J_X12_arrives_185
      rw [grd_t g5, grd_t g5, Int.toNat_natCast, hw_ne (by omega), hw_ne (by omega), hw_ne (by omega), g115, inc (by omega), bnd_s]
  · -- yards are taken on
    have ea4 : g 94 (16 * k + s) = 14 := u6.mp kk
    have u0 : u = 0 := by
      rw [ea4, if_pos rfl] at u3
      omega
    obtain ⟨v, ev⟩ : ∃ v, v = imin (hC (c + 2) s) (hS c 4 - h 63 k) := ⟨_, rfl⟩
    have vb : 0 ≤ v ∧ v ≤ 99 ∧ v ≤ hS c 4 - h 63 k := by rw [ev]; unfold imin; split <;> omega
    refine fin v (h 63 k + v) (h 57 14) (h 58 u) (hw hC 63 k (h 63 k + v)) (hw (hw gC 114 k (h 63 k + v)) 115 k ((s + 1 : Nat) : Int)) ⟨vb.1, vb.2.1⟩ ⟨by omega, by omega⟩ ⟨el0, by omega⟩ ⟨D.2.1, D.2.2.1⟩ (eX v _ ?_) ?_ (fun c' j w1 w2 w3 w4 w5 w6 => by rw [hw_ne (by omega), fC c' j (by omega) (by omega) w4 w5 w6]) hw_eq (by rw [hw_ne (by omega)]; exact C14) (by rw [hw_ne (by omega)]; exact C15) (by rw [hw_ne (by omega)]; exact C58) (by rw [hw_ne (by omega)]; exact C64) (by rw [hw_ne (by omega)]; exact C61) (fun c' j w1 w2 w3 w4 w5 => by rw [hw_ne (by omega), hw_ne (by omega), kC c' j (by omega) (by omega) w4 w5]) (by rw [hw_ne (by omega), hw_eq]) (by rw [hw_ne (by omega), hw_ne (by omega), kC 83 49 (by omega) (by omega) (by omega) (by omega)]; exact el) (by rw [hw_ne (by omega), hw_ne (by omega)]; exact kC50) (by rw [hw_ne (by omega), hw_ne (by omega), kC 84 u (by omega) (by omega) (by omega) (by omega)]; exact D.1) (by rw [hw_ne (by omega), hw_ne (by omega)]; exact kC13) hw_eq
    · rw [if_neg (by rw [Cc _ s (by omega) (by omega), kk]; decide)]
      refine ⟨by rw [ev, C63, C4], ?_⟩
      unfold F_X5_takeOn
      rw [grd_t g5, grd_t g5, Int.toNat_natCast, C63, w32_id (x := h 63 k + v) ⟨by omega, by omega⟩, bnd_s]
    · have g114 : gC 114 k = h 63 k := by rw [kC 114 k (by omega) (by omega) (by omega) (by omega)]; exact m2
      have g95 : gC 95 (16 * k + s) = hC (c + 2) s := by rw [G94 95 _ (by omega) (by omega)]; exact sy2
      have g92 : gC 92 k = hS c 4 := by rw [G94 92 _ (by omega) (by omega), a6, hc c 4 (by omega) (by omega)]
      have g115 : gC 115 k = (s : Int) := by rw [kC 115 k (by omega) (by omega) (by omega) (by omega)]; exact q4
      rw [arr, if_pos ea4, g95, g92, g114, w32_id (x := hS c 4 - h 63 k) ⟨by omega, by omega⟩, s_min, bd_s, ← ev, g114, w32_id (x := h 63 k + v) ⟨by omega, by omega⟩, bnd_s]
      unfold J_X12_arrives_185
      rw [grd_t g5, grd_t g5, Int.toNat_natCast, hw_ne (by omega), g115, inc (by omega), bnd_s]
end SV
