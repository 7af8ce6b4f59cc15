/-! A NIGHT: minute by minute, and from arrival to arrival -/
def KM (N C m : Nat) : Int → Hp → Option Hp := fun v1 h2 => if (irem v1 60) = 59 then bv (F_X12_hourEnds N (idiv v1 60) h2) fun h3 => J_X12_goesNight_145 N (L_X12_goesNight_89 N (C - m)) v1 h3 else J_X12_goesNight_145 N (L_X12_goesNight_89 N (C - m)) v1 h2
def K98 (N C m q : Nat) : Int → Int → Hp → Option Hp := fun v1 v2 h3 => bnd (w32 (v2 + 1)) fun y4 => (L_X12_goesNight_98 N (KM N C m) q) v1 y4 h3
theorem u89 {N C m : Nat} (hN : 1000000 ≤ N) (hm : m < 600) (g : Hp) : L_X12_goesNight_89 N (C - m + 1) (m : Int) g = L_X12_goesNight_103 N (K98 N C m (N - 1)) N (m : Int) 0 g := by
  obtain ⟨M, rfl⟩ : ∃ M, N = M + 1 := ⟨N - 1, by omega⟩
  conv => lhs; unfold L_X12_goesNight_89
  rw [if_neg (by omega)]
  conv => lhs; unfold L_X12_goesNight_98
  rw [if_neg (by decide)]
  rfl
section RUN
variable {N t x : Nat} {cr nn : Nat → Nat} {B : Int} {A : Int → (Nat → Int) → Int} {h0 hS gS h g : Hp}
theorem l_early : ∀ (q k e : Nat), k ≤ 5 → 5 - k < q → e < k → (∀ j, j < k → h 62 e ≤ h 62 j ∧ (j < e → h 62 e < h 62 j)) → ∃ e' : Nat, e' < 5 ∧ L_X5_earliestCart_4 N q (e : Int) (k : Int) h = some ((e' : Int), h) ∧ ∀ j, j < 5 → h 62 e' ≤ h 62 j ∧ (j < e' → h 62 e' < h 62 j)
  | 0, k, _, _, hq, _, _ => absurd hq (by omega)
  | q + 1, k, e, hk, hq, he, P => by
    unfold L_X5_earliestCart_4 J_X5_earliestCart_26
    simp only [bnd_s]
    by_cases c : k = 5
    · subst c
      rw [if_pos (by omega)]
      exact ⟨e, he, rfl, P⟩
    · rw [if_neg (by omega), grd_t ⟨by omega, by omega⟩, grd_t ⟨by omega, by omega⟩, Int.toNat_natCast, Int.toNat_natCast, inc (by omega)]
      by_cases z : h 62 e ≤ h 62 k
      · rw [if_pos z]
        exact l_early q (k + 1) e (by omega) (by omega) (by omega) (fun j hj => by
          by_cases y : j = k
          · subst y; exact ⟨z, fun w => by omega⟩
          · exact P j (by omega))
      · rw [if_neg z]
        exact l_early q (k + 1) k (by omega) (by omega) (by omega) (fun j hj => by
          by_cases y : j = k
          · subst y; exact ⟨Int.le_refl _, fun w => by omega⟩
          · have := P j (by omega)
            exact ⟨by omega, fun w => by omega⟩)
theorem s_early (hN : 1000000 ≤ N) : ∃ e : Nat, e < 5 ∧ F_X5_earliestCart N h = some ((e : Int), h) ∧ ∀ j, j < 5 → h 62 e ≤ h 62 j ∧ (j < e → h 62 e < h 62 j) := l_early (N := N) N 1 0 (by omega) (by omega) (by omega) (fun j hj => by
    obtain rfl : j = 0 := by omega
    exact ⟨Int.le_refl _, fun w => absurd w (by omega)⟩)
/-- an arrival on both sides -/
theorem arv (H : NS t cr nn B hS gS x h g) {k : Nat} (hk : k < 5) : (h 62 k = g 116 k ∧ g 116 k ≤ 10000) ∨ (h 62 k = 2147483647 ∧ g 116 k = 1000000) := by
  rcases (H.2.2.2.2 k hk).2.2.2.2.2 with y | y
  · exact Or.inr ⟨y.1, y.2.1⟩
  · exact Or.inl ⟨y.2.1, by have := y.2.2.2.1; have := y.2.1; omega⟩
theorem sb_end (hN : 1000000 ≤ N) (H : NS t cr nn B hS gS x h g) {E turn q : Nat} (hE : E ≤ 600) (hq : 0 < q) (hc : ∀ j, j < 5 → (E : Int) ≤ g 116 j) : L_X5_serveBefore_2 N q (E : Int) (turn : Int) h = some h := by
  obtain ⟨q, rfl⟩ : ∃ p, q = p + 1 := ⟨q - 1, by omega⟩
  obtain ⟨e, e1, e2, e3⟩ := s_early (N := N) (h := h) hN
  unfold L_X5_serveBefore_2
  rw [e2, bd_s, grd_t ⟨by omega, by omega⟩, Int.toNat_natCast]
  have := arv H e1
  have := hc e e1
  rw [if_neg (show ¬ h 62 e < (E : Int) by omega)]
  split <;> rfl
theorem hr_run (hN : 1000000 ≤ N) (S : ST N A t cr nn h0 hS gS) {r C : Nat} (hr : r < 10) (hC : 700 ≤ C) : ∀ (μ m k q103 q98 qX turn : Nat) (h g : Hp), sm (rmk nn g) 5 * 10000 + (60 * ((r : Int) + 1) - m) * 6 + (5 - (k : Int)) < μ → 60 * r ≤ m → m < 60 * (r + 1) → k < 5 → 5 - k ≤ q98 → sm (rmk nn g) 5 < q103 → sm (rmk nn g) 5 < qX → (turn : Int) + sm (rmk nn g) 5 ≤ 80 → NS t cr nn B hS gS x h g → (∀ j, j < 5 → (m : Int) ≤ g 116 j) → (∀ j, j < k → g 116 j ≠ (m : Int)) → ∃ h' g', L_X5_serveBefore_2 N qX ((60 * (r + 1) : Nat) : Int) (turn : Int) h = some h' ∧ L_X12_goesNight_103 N (K98 N C m q98) q103 (m : Int) (k : Int) g = (bv (F_X12_hourEnds N (r : Int) g') fun h3 => L_X12_goesNight_89 N (C - 60 * (r + 1) + 1) ((60 * (r + 1) : Nat) : Int) h3) ∧ NS t cr nn B hS gS x h' g' ∧ ∀ j, j < 5 → ((60 * (r + 1) : Nat) : Int) ≤ g' 116 j := by
  intro μ
  induction μ with
  | zero =>
    intro m k q103 q98 qX turn h g hμ h1 h2 hk h4 h5 h6 h7 H hm hj
    have := sm_nn (rmk_b H.2.2.2.2)
    omega
  | succ μ ih =>
    intro m k q103 q98 qX turn h g hμ h1 h2 hk h4 h5 h6 h7 H hm hj
    have r0 := sm_nn (rmk_b H.2.2.2.2)
    obtain ⟨p103, rfl⟩ : ∃ p, q103 = p + 1 := ⟨q103 - 1, by omega⟩
    have g5 : 0 ≤ (k : Int) ∧ (k : Int) < 5 := ⟨by omega, by omega⟩
    by_cases z : g 116 k = (m : Int)
    · -- an arrival
      obtain ⟨h1', g1', a1, a2, a3, a4, a5, a6, a7, a8⟩ := sv (N := N) hN S H hk z (by omega)
      obtain ⟨pX, rfl⟩ : ∃ p, qX = p + 1 := ⟨qX - 1, by omega⟩
      obtain ⟨e, e1, e2, e3⟩ := s_early (N := N) (h := h) hN
      have ek : e = k := by
        have b1 := e3 k hk
        have b2 := arv H e1
        have b3 := hm e e1
        by_cases w : e < k
        · have := hj e w
          omega
        · by_cases w2 : k < e
          · have := b1.2 w2
            omega
          · omega
      subst ek
      have rk : rmk nn g e ≤ sm (rmk nn g) 5 := rmk_le H.2.2.2.2 hk
      have tn : ¬ (80 : Int) ≤ (turn : Int) := by
        have p := (H.2.2.2.2 e hk).2.2.2.2.2
        rcases p with y | y
        · have := y.2.1; omega
        · obtain ⟨-, -, -, -, -, -, s, u, s1, -, -, s4, -⟩ := y
          have : rmk nn g e = (nn e : Int) - s := by unfold rmk; rw [if_neg (by omega), s4]
          omega
      obtain ⟨h', g', b1, b2, b3, b4⟩ := ih m e p103 q98 pX (turn + 1) h1' g1' (by omega) h1 h2 hk h4 (by omega) (by omega) (by omega) a5 (fun j hj' => by
        by_cases w : j = e
        · subst w; exact a6
        · rw [a7 j hj' w]; exact hm j hj') (fun j hj' => by rw [a7 j (by omega) (by omega)]; exact hj j hj')
      refine ⟨h', g', ?_, ?_, b3, b4⟩
      · unfold L_X5_serveBefore_2
        rw [if_neg tn, e2, bd_s, grd_t g5, Int.toNat_natCast, a3, if_pos (by omega), a1, bv_s, bnd_s, inc (by omega)]
        exact b1
      · unfold L_X12_goesNight_103
        rw [grd_t g5, Int.toNat_natCast, if_pos z, a2, bv_s]
        exact b2
    · have st : L_X12_goesNight_103 N (K98 N C m q98) (p103 + 1) (m : Int) (k : Int) g = L_X12_goesNight_98 N (KM N C m) q98 (m : Int) ((k + 1 : Nat) : Int) g := by
        conv => lhs; unfold L_X12_goesNight_103
        rw [grd_t g5, Int.toNat_natCast, if_neg z]
        unfold K98
        rw [bnd_s, inc (by omega)]
      obtain ⟨p98, rfl⟩ : ∃ p, q98 = p + 1 := ⟨q98 - 1, by omega⟩
      rw [st]
      by_cases k4 : k + 1 < 5
      · have s2 : L_X12_goesNight_98 N (KM N C m) (p98 + 1) (m : Int) ((k + 1 : Nat) : Int) g = L_X12_goesNight_103 N (K98 N C m p98) N (m : Int) ((k + 1 : Nat) : Int) g := by
          conv => lhs; unfold L_X12_goesNight_98
          rw [if_neg (by omega)]
          rfl
        rw [s2]
        exact ih m (k + 1) N p98 qX turn h g (by omega) h1 h2 k4 (by omega) (by omega) h6 h7 H hm (fun j hj' => by
          by_cases w : j = k
          · subst w; exact z
          · exact hj j (by omega))
      · obtain rfl : k = 4 := by omega
        have s2 : L_X12_goesNight_98 N (KM N C m) (p98 + 1) (m : Int) ((4 + 1 : Nat) : Int) g = KM N C m (m : Int) g := by
          conv => lhs; unfold L_X12_goesNight_98
          rw [if_pos (by omega)]
        have all : ∀ j, j < 5 → (m : Int) + 1 ≤ g 116 j := fun j hj' => by
          have w1 := hm j hj'
          have w2 : g 116 j ≠ (m : Int) := by
            by_cases w : j = 4
            · subst w; exact z
            · exact hj j (by omega)
          omega
        have ed : idiv (m : Int) 60 = (r : Int) := by rw [idiv_pos ⟨by omega, by omega⟩ ⟨by omega, by omega⟩]; omega
        have er : irem (m : Int) 60 = ((m : Int) % 60) := irem_pos ⟨by omega, by omega⟩ ⟨by omega, by omega⟩
        rw [s2]
        unfold KM J_X12_goesNight_145
        simp only [bnd_s]
        rw [er, ed, inc (by omega)]
        by_cases w : m + 1 = 60 * (r + 1)
        · rw [if_pos (by omega)]
          refine ⟨h, g, sb_end hN H (by omega) (by omega) (fun j hj' => by have := all j hj'; omega), ?_, H, fun j hj' => by have := all j hj'; omega⟩
          rw [show C - m = C - 60 * (r + 1) + 1 by omega, w]
        · rw [if_neg (by omega), show C - m = C - (m + 1) + 1 by omega, u89 hN (by omega) g]
          obtain ⟨h', g', b1, b2, b3, b4⟩ := ih (m + 1) 0 N (N - 1) qX turn h g (by omega) (by omega) (by omega) (by omega) (by omega) (by omega) h6 h7 H (fun j hj' => by have := all j hj'; omega) (fun j hj' => absurd hj' (by omega))
          exact ⟨h', g', b1, b2, b3, b4⟩
/-- an hour -/
theorem hr_hour (hN : 1000000 ≤ N) (S : ST N A t cr nn h0 hS gS) {r C : Nat} (hr : r < 10) (hC : 700 ≤ C) (hx : x ≤ 140) (H : NS t cr nn B hS gS x h g) (hm : ∀ j, j < 5 → ((60 * r : Nat) : Int) ≤ g 116 j) : ∃ h1 h' g', F_X5_serveBefore N ((60 * (r + 1) : Nat) : Int) h = some h1 ∧ (∀ K, L_X5_goThrough_27 N K N (r : Int) 0 h1 = K (r : Int) h') ∧ L_X12_goesNight_89 N (C - 60 * r + 1) ((60 * r : Nat) : Int) g = L_X12_goesNight_89 N (C - 60 * (r + 1) + 1) ((60 * (r + 1) : Nat) : Int) g' ∧ NS t cr nn B hS gS (x + 14) h' g' ∧ ∀ j, j < 5 → ((60 * (r + 1) : Nat) : Int) ≤ g' 116 j := by
  obtain ⟨-, -, -, a, -, -, -, ar⟩ := id H.2.2.2.1
  have r0 := sm_nn (rmk_b H.2.2.2.2)
  obtain ⟨h1, g1, a1, a2, a3, a4⟩ := hr_run (N := N) (x := x) (h0 := h0) hN S hr hC (900000) (60 * r) 0 N (N - 1) N 0 h g (by omega) (by omega) (by omega) (by omega) (by omega) (by omega) (by omega) (by omega) H hm (fun j hj => absurd hj (by omega))
  obtain ⟨h', g', b1, b2, b3, b4⟩ := hr_all (N := N) S (r := (r : Int)) 14 N N 0 x h1 g1 (by omega) (by omega) (by omega) (by omega) a3
  have b2 : F_X12_hourEnds N (r : Int) g1 = some g' := b2
  refine ⟨h1, h', g', a1, b1, ?_, b3, fun j hj => by rw [b4 j hj]; exact a4 j hj⟩
  rw [u89 hN (by omega) g]
  refine Eq.trans a2 ?_
  rw [b2, bv_s]
end RUN
