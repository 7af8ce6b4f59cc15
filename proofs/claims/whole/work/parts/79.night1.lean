/-! A NIGHT: carts -/
/-- what both sides have of the ways -/
def WY (t : Nat) (h g : Hp) : Prop := (∀ i j, i < 14 → j < 14 → t.testBit i = true → t.testBit j = true → (h 10 (14 * i + j) = g 91 (14 * i + j) ∧ 0 ≤ g 91 (14 * i + j) ∧ g 91 (14 * i + j) ≤ 1386) ∨ (h 10 (14 * i + j) = -2 ∧ g 91 (14 * i + j) = 1000000)) ∧ (∀ i j, i < 14 → j < 14 → ¬ (t.testBit i = true ∧ t.testBit j = true) → g 91 (14 * i + j) = 1000000)
theorem WY.of {t : Nat} {h : Hp} (H : IR h t) : WY t h h := ⟨fun i j hi hj ti tj => by
    rcases way_t H hi hj ti tj with z | z
    · exact Or.inl ⟨z.2.1, z.2.2.1, z.2.2.2.1⟩
    · exact Or.inr ⟨z.2.1, z.1⟩, fun i j hi hj z => (way_u H hi hj z).1⟩
theorem WY.ag {t : Nat} {h g h' g' : Hp} (H : WY t h g) (e1 : ∀ j, h' 10 j = h 10 j) (e2 : ∀ j, g' 91 j = g 91 j) : WY t h' g' := ⟨fun i j hi hj a b => by rw [e1, e2]; exact H.1 i j hi hj a b, fun i j hi hj a => by rw [e2]; exact H.2 i j hi hj a⟩
/-- a cart's plan, on both sides -/
def PR (n k c : Nat) (h g : Hp) : Prop := cartR (c + 1) ∧ n ≤ 16 ∧ h c 3 = (n : Int) ∧ g 93 k = (n : Int) ∧ 1 ≤ h c 4 ∧ h c 4 ≤ 99 ∧ g 92 k = h c 4 ∧ ∀ q, q < n → SE (h (c + 1) q) (h (c + 2) q) (h (c + 3) q) (g 94 (16 * k + q)) (g 95 (16 * k + q))
theorem PR.ag {n k c : Nat} {h g h' g' : Hp} (H : PR n k c h g) (e1 : ∀ c' j, c ≤ c' → c' ≤ c + 3 → h' c' j = h c' j) (e2 : ∀ c' j, 92 ≤ c' → c' ≤ 95 → g' c' j = g c' j) : PR n k c h' g' := by
  obtain ⟨a0, a1, a2, a3, a4, a5, a6, a7⟩ := H
  exact ⟨a0, a1, by rw [e1 _ _ (by omega) (by omega)]; exact a2, by rw [e2 _ _ (by omega) (by omega)]; exact a3, by rw [e1 _ _ (by omega) (by omega)]; exact a4, by rw [e1 _ _ (by omega) (by omega)]; exact a5, by rw [e1 _ _ (by omega) (by omega), e2 _ _ (by omega) (by omega)]; exact a6, fun q hq => by rw [e1 _ _ (by omega) (by omega), e1 _ _ (by omega) (by omega), e1 _ _ (by omega) (by omega), e2 _ _ (by omega) (by omega), e2 _ _ (by omega) (by omega)]; exact a7 q hq⟩
section NG
variable {N t n k c : Nat} {h g : Hp}
theorem s_streetOf (e : h c 3 = (n : Int)) (hn : n ≤ 16) {q : Nat} (hq : q < n) : F_X0_streetOf N c (q : Int) h = some (h (c + 1) q, h) := by
  unfold F_X0_streetOf
  rw [e, w32_id ⟨by omega, by omega⟩, s_isWithin, bd_s, if_pos (show 0 ≤ (q : Int) ∧ (q : Int) ≤ (n : Int) - 1 from ⟨by omega, by omega⟩), if_neg (by decide), grd_t ⟨by omega, by omega⟩, Int.toNat_natCast]
theorem s_yardsOf (e : h c 3 = (n : Int)) (hn : n ≤ 16) {q : Nat} (hq : q < n) : F_X0_yardsOf N c (q : Int) h = some (h (c + 2) q, h) := by
  unfold F_X0_yardsOf
  rw [e, w32_id ⟨by omega, by omega⟩, s_isWithin, bd_s, if_pos (show 0 ≤ (q : Int) ∧ (q : Int) ≤ (n : Int) - 1 from ⟨by omega, by omega⟩), if_neg (by decide), grd_t ⟨by omega, by omega⟩, Int.toNat_natCast]
theorem s_takesOn (e : h c 3 = (n : Int)) (hn : n ≤ 16) {q : Nat} (hq : q < n) (h01 : h (c + 3) q = 0 ∨ h (c + 3) q = 1) : F_X0_takesOnAt N c (q : Int) h = some (h (c + 3) q, h) := by
  unfold F_X0_takesOnAt
  rw [e, w32_id ⟨by omega, by omega⟩, s_isWithin, bd_s, if_pos (show 0 ≤ (q : Int) ∧ (q : Int) ≤ (n : Int) - 1 from ⟨by omega, by omega⟩), if_neg (by decide), grd_t ⟨by omega, by omega⟩, Int.toNat_natCast]
  rcases h01 with z | z
  · rw [z, if_pos rfl]
  · rw [z, if_neg (by decide)]
theorem w16 {k q : Nat} (hk : k < 5) (hq : q < 16) : w32 (w32 (16 * (k : Int)) + (q : Int)) = ((16 * k + q : Nat) : Int) := by
  rw [w32_id (x := 16 * (k : Int)) ⟨by omega, by omega⟩, w32_id ⟨by omega, by omega⟩]; omega
/-- the place of a stop -/
theorem stop_at {s y kk a b : Int} (H : SE s y kk a b) : ∃ u : Nat, u < 14 ∧ s = (u : Int) ∧ (if a = 14 then (0 : Int) else a) = (u : Int) ∧ (kk = 0 ∨ kk = 1) ∧ (kk = 0 → a = (u : Int)) ∧ (kk = 1 ↔ a = 14) := by
  obtain ⟨h1, h2 | h2⟩ := H
  · refine ⟨s.toNat, by omega, by omega, ?_, Or.inl h2.1, fun _ => by omega, ⟨fun z => by omega, fun z => by omega⟩⟩
    rw [if_neg (by omega)]; omega
  · refine ⟨0, by omega, by omega, ?_, Or.inr h2.1, fun z => by omega, ⟨fun _ => h2.2.2, fun _ => h2.1⟩⟩
    rw [if_pos h2.2.2]; rfl
theorem s_placeOf {a : Int} : F_X12_placeOf N a h = some (if a = 14 then 0 else a, h) := by
  unfold F_X12_placeOf
  by_cases z : a = 14
  · rw [if_pos z, if_pos z]
  · rw [if_neg z, if_neg z]
def exG (k : Nat) (h h' : Hp) : Prop := ∀ c j, ¬ (j = k ∧ (c = 60 ∨ c = 62)) → h' c j = h c j
def exO (k : Nat) (g g' : Hp) : Prop := ∀ c j, ¬ (j = k ∧ (c = 115 ∨ c = 116 ∨ c = 117)) → g' c j = g c j
/-- how a cart goes on -/
def GO (t n k c s : Nat) (m : Int) (h g h' g' : Hp) : Prop := exG k h h' ∧ exO k g g' ∧ ((h' 62 k = 2147483647 ∧ g' 116 k = 1000000 ∧ g' 115 k = (n : Int) ∧ g' 117 k = g 117 k) ∨ (∃ s' u : Nat, s ≤ s' ∧ s' < n ∧ u < 14 ∧ h' 60 k = (s' : Int) ∧ g' 115 k = (s' : Int) ∧ h' 62 k = g' 116 k ∧ m ≤ h' 62 k ∧ h' 62 k ≤ m + 1386 ∧ g' 117 k = g' 116 k ∧ h (c + 1) s' = (u : Int) ∧ t.testBit u = true ∧ t.testBit 0 = true))
theorem m_can (hk : k < 5) (P : PR n k c h g) {p s u : Nat} (hs : s < n) (hp : p < 14) (hu : u < 14) (e13 : g 113 k = (p : Int)) (eu : (if g 94 (16 * k + s) = 14 then (0 : Int) else g 94 (16 * k + s)) = (u : Int)) : F_X12_canCome N (k : Int) (s : Int) g = some (if 1000000 ≤ g 91 (14 * p + u) then 0 else 1, g) := by
  have := P.2.1
  unfold F_X12_canCome
  rw [grd_t ⟨by omega, by omega⟩, w16 hk (by omega), grd_t ⟨by omega, by omega⟩, Int.toNat_natCast, Int.toNat_natCast, s_placeOf, bd_s, eu, e13, s_far hp hu, bd_s]
  by_cases z : 1000000 ≤ g 91 (14 * p + u)
  · rw [if_pos z, if_pos z]
  · rw [if_neg z, if_neg z]
theorem m_46f (hk : k < 5) {m : Int} (e15 : g 115 k = g 93 k) : J_X12_goesOn_46 N (k : Int) m g = some (hw g 116 k 1000000) := by
  have g5 : 0 ≤ (k : Int) ∧ (k : Int) < 5 := ⟨by omega, by omega⟩
  unfold J_X12_goesOn_46
  rw [grd_t g5, grd_t g5, Int.toNat_natCast, if_pos e15, grd_t g5, bnd_s]
theorem m_46p (hk : k < 5) (P : PR n k c h g) {p s u : Nat} {m : Int} (hm : 0 ≤ m ∧ m ≤ 100000) (hs : s < n) (hp : p < 14) (hu : u < 14) (e15 : g 115 k = (s : Int)) (e13 : g 113 k = (p : Int)) (eu : (if g 94 (16 * k + s) = 14 then (0 : Int) else g 94 (16 * k + s)) = (u : Int)) (hw1 : 0 ≤ g 91 (14 * p + u) ∧ g 91 (14 * p + u) ≤ 1386) : J_X12_goesOn_46 N (k : Int) m g = some (hw (hw g 116 k (m + g 91 (14 * p + u))) 117 k (m + g 91 (14 * p + u))) := by
  have g5 : 0 ≤ (k : Int) ∧ (k : Int) < 5 := ⟨by omega, by omega⟩
  have := P.2.1
  have := P.2.2.2.1
  unfold J_X12_goesOn_46
  rw [grd_t g5, grd_t g5, Int.toNat_natCast, e15, if_neg (by omega), grd_t g5, w16 hk (by omega), grd_t ⟨by omega, by omega⟩, Int.toNat_natCast, s_placeOf, bd_s, eu, grd_t g5, e13, s_far hp hu, bd_s, grd_t g5, w32_id ⟨by omega, by omega⟩, bnd_s, grd_t g5, grd_t g5, hw_eq, bnd_s]
/-- with the pit told -/
theorem go_t (hN : 1000000 ≤ N) (ht : t < 16384) (e14 : h 1 4 = (t : Int)) (W : WY t h g) (hk : k < 5) (P : PR n k c h g) (t0 : t.testBit 0 = true) {p : Nat} (hp : p < 14) (tp : t.testBit p = true) {m : Int} (hm : 0 ≤ m ∧ m ≤ 100000) (e61 : h 61 k = (p : Int)) : ∀ (d q1 q2 s : Nat) (g0 : Hp), s + d = n → d < q1 → d < q2 → (∀ c' j, ¬ (j = k ∧ c' = 115) → g0 c' j = g c' j) → g0 115 k = (s : Int) → g0 113 k = (p : Int) → h 62 k = 2147483647 → ∃ h' g', L_X5_goOn_36 N q1 (k : Int) m (c + 1) (s : Int) h = some h' ∧ L_X12_goesOn_0 N q2 (k : Int) m g0 = some g' ∧ GO t n k c s m h g h' g'
  | _, 0, _, _, _, _, hq, _, _, _, _, _ => absurd hq (by omega)
  | _, _, 0, _, _, _, _, hq, _, _, _, _ => absurd hq (by omega)
  | 0, q1 + 1, q2 + 1, s, g0, hs, _, _, F, e15, e13, e62 => by
    obtain rfl : s = n := by omega
    obtain ⟨a0, a1, a2, a3, a4, a5, a6, a7⟩ := id P
    have g5 : 0 ≤ (k : Int) ∧ (k : Int) < 5 := ⟨by omega, by omega⟩
    have e93 : g0 93 k = (s : Int) := by rw [F 93 k (by omega)]; exact a3
    unfold L_X5_goOn_36 L_X12_goesOn_0 F_X0_stops
    refine ⟨h, hw g0 116 k 1000000, ?_, ?_, fun _ _ _ => rfl, fun c' j z => by rw [hw_ne (by omega)]; exact F c' j (by omega), Or.inl ⟨e62, hw_eq, by rw [hw_ne (by omega)]; exact e15, by rw [hw_ne (by omega)]; exact F 117 k (by omega)⟩⟩
    · rw [grd_t a0, bd_s, show c + 1 - 1 = c by omega, a2, if_pos (by omega)]
    · rw [grd_t g5, grd_t g5, Int.toNat_natCast, e93, e15, if_pos (by omega), m_46f hk (by rw [e93, e15])]
  | d + 1, q1 + 1, q2 + 1, s, g0, hs, h1, h2, F, e15, e13, e62 => by
    obtain ⟨a0, a1, a2, a3, a4, a5, a6, a7⟩ := id P
    have g5 : 0 ≤ (k : Int) ∧ (k : Int) < 5 := ⟨by omega, by omega⟩
    obtain ⟨u, u1, u2, u3, u4, u5, u6⟩ := stop_at (a7 s (by omega))
    have P0 : PR n k c h g0 := P.ag (fun _ _ _ _ => rfl) (fun c' j y1 y2 => F c' j (by omega))
    have e93 : g0 93 k = (n : Int) := P0.2.2.2.1
    have e94 : g0 94 (16 * k + s) = g 94 (16 * k + s) := F 94 _ (by omega)
    have e91 : g0 91 (14 * p + u) = g 91 (14 * p + u) := F 91 _ (by omega)
    rw [← e94] at u3
    have cc := m_can (N := N) hk P0 (show s < n by omega) hp u1 e13 u3
    have nx : ∃ h' g', L_X5_goOn_36 N q1 (k : Int) m (c + 1) ((s + 1 : Nat) : Int) h = some h' ∧ L_X12_goesOn_0 N q2 (k : Int) m (hw g0 115 k ((s + 1 : Nat) : Int)) = some g' ∧ GO t n k c (s + 1) m h g h' g' := go_t hN ht e14 W hk P t0 hp tp hm e61 d q1 q2 (s + 1) (hw g0 115 k ((s + 1 : Nat) : Int)) (by omega) (by omega) (by omega) (fun c' j z => by rw [hw_ne (by omega)]; exact F c' j z) hw_eq (by rw [hw_ne (by omega)]; exact e13) e62
    have skip : (∃ h' g', L_X5_goOn_36 N q1 (k : Int) m (c + 1) ((s + 1 : Nat) : Int) h = some h' ∧ L_X12_goesOn_0 N q2 (k : Int) m (hw g0 115 k ((s + 1 : Nat) : Int)) = some g' ∧ GO t n k c s m h g h' g') := by
      obtain ⟨h', g', x1, x2, x3, x4, x5⟩ := nx
      refine ⟨h', g', x1, x2, x3, x4, ?_⟩
      rcases x5 with y | ⟨s', u', y1, y2⟩
      · exact Or.inl y
      · exact Or.inr ⟨s', u', by omega, y2⟩
    unfold L_X5_goOn_36 L_X12_goesOn_0 F_X0_stops J_X5_goOn_109
    simp only [bnd_s]
    rw [grd_t a0, bd_s, show c + 1 - 1 = c by omega, a2, if_neg (by omega), grd_t g5, s_streetOf a2 a1 (by omega), bd_s, Int.toNat_natCast, e61, u2, s_btw hp u1, bd_s, grd_t g5, grd_t g5, e93, e15, if_neg (show ¬ (n : Int) ≤ (s : Int) by omega), grd_t g5, cc, bd_s, e91, grd_t g5, grd_t g5, e15, inc (by omega)]
    by_cases tu : t.testBit u = true
    · rcases W.1 p u hp u1 tp tu with ⟨w1, w2, w3⟩ | ⟨w1, w2⟩
      · rw [if_neg (by omega), s_streetOf a2 a1 (by omega), bd_s, u2, s_isTold ht e14, bd_s, if_pos ((isT_n u1).mpr tu), if_neg (by decide), grd_t g5, grd_t g5, w32_id ⟨by omega, by omega⟩, if_neg (show ¬ (1000000 : Int) ≤ g 91 (14 * p + u) by omega), if_neg (by decide), m_46p hk P0 hm (show s < n by omega) hp u1 e15 e13 u3 (by rw [e91]; exact ⟨w2, w3⟩), w1, e91]
        refine ⟨_, _, rfl, rfl, fun c' j z => by rw [hw_ne (by omega), hw_ne (by omega)], fun c' j z => by rw [hw_ne (by omega), hw_ne (by omega)]; exact F c' j (by omega), Or.inr ⟨s, u, Nat.le_refl _, by omega, u1, by rw [hw_ne (by omega), hw_eq], by rw [hw_ne (by omega), hw_ne (by omega)]; exact e15, by rw [hw_eq, hw_ne (by omega), hw_eq], by rw [hw_eq]; omega, by rw [hw_eq]; omega, by rw [hw_eq, hw_ne (by omega), hw_eq], u2, tu, t0⟩⟩
      · rw [if_pos (by omega), if_pos (show (1000000 : Int) ≤ g 91 (14 * p + u) by omega), if_pos rfl]
        exact skip
    · have w2 := W.2 p u hp u1 (fun z => tu z.2)
      rw [if_pos (show (1000000 : Int) ≤ g 91 (14 * p + u) by omega), if_pos rfl, s_streetOf a2 a1 (by omega), bd_s, u2, s_isTold ht e14, bd_s, if_neg (fun z => tu ((isT_n u1).mp z)), if_pos rfl]
      by_cases z : h 10 (14 * p + u) < 0
      · rw [if_pos z]; exact skip
      · rw [if_neg z]; exact skip
/-- with the pit untold: no stop is come to -/
theorem go_u (hk : k < 5) (W : WY t h g) (P : PR n k c h g) (t0 : ¬ t.testBit 0 = true) {m : Int} : ∀ (d q s : Nat) (g0 : Hp), s + d = n → d < q → (∀ c' j, ¬ (j = k ∧ c' = 115) → g0 c' j = g c' j) → g0 115 k = (s : Int) → g0 113 k = 0 → ∃ g', L_X12_goesOn_0 N q (k : Int) m g0 = some g' ∧ exO k g g' ∧ g' 116 k = 1000000 ∧ g' 115 k = (n : Int) ∧ g' 117 k = g 117 k
  | _, 0, _, _, _, hq, _, _, _ => absurd hq (by omega)
  | 0, q + 1, s, g0, hs, _, F, e15, e13 => by
    obtain rfl : s = n := by omega
    have g5 : 0 ≤ (k : Int) ∧ (k : Int) < 5 := ⟨by omega, by omega⟩
    have e93 : g0 93 k = (s : Int) := by rw [F 93 k (by omega)]; exact P.2.2.2.1
    unfold L_X12_goesOn_0
    rw [grd_t g5, grd_t g5, Int.toNat_natCast, e93, e15, if_pos (by omega), m_46f hk (by rw [e93, e15])]
    exact ⟨_, rfl, fun c' j z => by rw [hw_ne (by omega)]; exact F c' j (by omega), hw_eq, by rw [hw_ne (by omega)]; exact e15, by rw [hw_ne (by omega)]; exact F 117 k (by omega)⟩
  | d + 1, q + 1, s, g0, hs, h2, F, e15, e13 => by
    obtain ⟨a0, a1, a2, a3, a4, a5, a6, a7⟩ := id P
    have g5 : 0 ≤ (k : Int) ∧ (k : Int) < 5 := ⟨by omega, by omega⟩
    obtain ⟨u, u1, u2, u3, -, -, -⟩ := stop_at (a7 s (by omega))
    have P0 : PR n k c h g0 := P.ag (fun _ _ _ _ => rfl) (fun c' j y1 y2 => F c' j (by omega))
    have e93 : g0 93 k = (n : Int) := P0.2.2.2.1
    have e94 : g0 94 (16 * k + s) = g 94 (16 * k + s) := F 94 _ (by omega)
    rw [← e94] at u3
    have cc := m_can (N := N) (p := 0) hk P0 (show s < n by omega) (by omega) u1 e13 u3
    have w2 := W.2 0 u (by omega) u1 (fun z => t0 z.1)
    have e91 : g0 91 (14 * 0 + u) = 1000000 := by rw [F 91 _ (by omega)]; exact w2
    unfold L_X12_goesOn_0
    rw [grd_t g5, grd_t g5, Int.toNat_natCast, e93, e15, if_neg (by omega), grd_t g5, cc, bd_s, e91, if_pos (Int.le_refl _), if_pos rfl, grd_t g5, grd_t g5, e15, inc (by omega), bnd_s]
    exact go_u hk W P t0 d q (s + 1) _ (by omega) (by omega) (fun c' j z => by rw [hw_ne (by omega)]; exact F c' j z) hw_eq (by rw [hw_ne (by omega)]; exact e13)
theorem go_sim (hN : 1000000 ≤ N) (ht : t < 16384) (e14 : h 1 4 = (t : Int)) (W : WY t h g) (hk : k < 5) (P : PR n k c h g) {p s : Nat} (hp : p < 14) (tp : (t.testBit 0 = true ∧ t.testBit p = true) ∨ (¬ t.testBit 0 = true ∧ p = 0)) {m : Int} (hm : 0 ≤ m ∧ m ≤ 100000) (hs : s ≤ n) (e59 : h 59 k = ((c + 1 : Nat) : Int)) (e61 : h 61 k = (p : Int)) (e13 : g 113 k = (p : Int)) (e15 : g 115 k = (s : Int)) : ∃ h' g', F_X5_goOn N (k : Int) (s : Int) m h = some h' ∧ F_X12_goesOn N (k : Int) m g = some g' ∧ GO t n k c s m h g h' g' := by
  have g5 : 0 ≤ (k : Int) ∧ (k : Int) < 5 := ⟨by omega, by omega⟩
  have n16 := P.2.1
  have cR := P.1
  have cL : c + 1 ≤ 1000 := by unfold cartR at cR; omega
  unfold F_X5_goOn F_X12_goesOn
  rw [grd_t ⟨g5.1, g5.2, by rw [Int.toNat_natCast, e59]; omega⟩, bnd_s, grd_t g5, bnd_s, Int.toNat_natCast, e59, Int.toNat_natCast, if_neg (by omega)]
  obtain ⟨h2, eh2⟩ : ∃ h2, h2 = hw h 62 k 2147483647 := ⟨_, rfl⟩
  rw [← eh2]
  have f2 : ∀ c' j, ¬ (j = k ∧ c' = 62) → h2 c' j = h c' j := fun c' j z => by rw [eh2, hw_ne (by omega)]
  have c60 : c + 3 < 60 := by unfold cartR at cR; omega
  have P2 : PR n k c h2 g := P.ag (fun c' j y1 y2 => f2 c' j (by omega)) (fun _ _ _ _ => rfl)
  have W2 : WY t h2 g := W.ag (fun j => f2 10 j (by omega)) (fun _ => rfl)
  have e14b : h2 1 4 = (t : Int) := by rw [f2 1 4 (by omega)]; exact e14
  have i0 : F_X1_isTold N 0 h2 = some (if isT t 0 then 1 else 0, h2) := s_isTold ht e14b
  rw [i0, bd_s]
  rcases tp with ⟨t0, tp⟩ | ⟨t0, rfl⟩
  · rw [if_pos (show isT t 0 from ⟨by omega, by omega, t0⟩), if_neg (by decide)]
    obtain ⟨h', g', x1, x2, x3, x4, x5⟩ := go_t (N := N) hN ht e14b W2 hk P2 t0 hp tp hm (by rw [f2 61 k (by omega)]; exact e61) (n - s) N N s g (by omega) (by omega) (by omega) (fun _ _ _ => rfl) e15 e13 (by rw [eh2, hw_eq])
    refine ⟨h', g', x1, x2, fun c' j z => by rw [x3 c' j z, f2 c' j (by omega)], x4, ?_⟩
    rcases x5 with y | ⟨s', u', y1, y2, y3, y4, y5, y6, y7, y8, y9, y10, y11⟩
    · exact Or.inl y
    · exact Or.inr ⟨s', u', y1, y2, y3, y4, y5, y6, y7, y8, y9, by rw [← f2 (c + 1) s' (by omega)]; exact y10, y11⟩
  · rw [if_neg (show ¬ isT t 0 from fun z => t0 z.2.2), if_pos rfl]
    obtain ⟨g', x1, x2, x3, x4, x5⟩ := go_u (N := N) hk W P t0 (m := m) (n - s) N s g (by omega) (by omega) (fun _ _ _ => rfl) e15 e13
    exact ⟨h2, g', rfl, x1, fun c' j z => f2 c' j (by omega), x2, Or.inl ⟨by rw [eh2, hw_eq], x3, x4, x5⟩⟩
end NG
