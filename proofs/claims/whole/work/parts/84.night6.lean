/-! A NIGHT FROM ITS BEGINNING TO ITS END -/
section NT
variable {N t x : Nat} {cr nn : Nat → Nat} {B : Int} {A : Int → (Nat → Int) → Int} {h0 hS gS h g : Hp}
theorem l_idle (hN : 1000000 ≤ N) (H : NS t cr nn B hS gS x h g) : ∀ (q k : Nat), k ≤ 14 → 14 - k < q → (∀ i, i < k → h 58 i = 0) → ∃ b, L_X5_isIdle_2 N q (k : Int) h = some (b, h) ∧ (b = 0 ∨ (b = 1 ∧ (∀ i, i < 14 → h 58 i = 0) ∧ ∀ j, j < 5 → 600 ≤ g 116 j))
  | 0, k, _, hq, _ => absurd hq (by omega)
  | q + 1, k, hk, hq, Z => by
    unfold L_X5_isIdle_2
    by_cases c : k = 14
    · subst c
      obtain ⟨e, e1, e2, e3⟩ := s_early (N := N) (h := h) hN
      rw [if_pos (by omega), e2, bd_s, grd_t ⟨by omega, by omega⟩, Int.toNat_natCast]
      by_cases z : h 62 e < 600
      · rw [if_pos z]; exact ⟨0, rfl, Or.inl rfl⟩
      · rw [if_neg z]
        refine ⟨1, rfl, Or.inr ⟨rfl, Z, fun j hj => ?_⟩⟩
        have := (e3 j hj).1
        have := arv H hj
        omega
    · have D := (H.2.2.1 k (by omega))
      rw [if_neg (by omega), grd_t ⟨by omega, by omega⟩, Int.toNat_natCast]
      by_cases z : h 58 k ≤ 0
      · rw [if_pos z, bnd_s, inc (by omega)]
        exact l_idle hN H q (k + 1) (by omega) (by omega) (fun i hi => by
          by_cases y : i = k
          · subst y; omega
          · exact Z i (by omega))
      · rw [if_neg z]; exact ⟨0, rfl, Or.inl rfl⟩
theorem l_quiet (ht : t < 16384) (e14 : h 1 4 = (t : Int)) (Z : ∀ i, i < 14 → h 58 i = 0) {r : Int} (K : Int → Hp → Option Hp) : ∀ (q k : Nat), k ≤ 14 → 14 - k < q → L_X5_goThrough_27 N K q r (k : Int) h = K r h
  | 0, k, _, hq => absurd hq (by omega)
  | q + 1, k, hk, hq => by
    unfold L_X5_goThrough_27 J_X5_goThrough_70
    by_cases c : k = 14
    · subst c; rw [if_pos (by omega)]
    · have ih := l_quiet ht e14 Z (r := r) K q (k + 1) (by omega) (by omega)
      rw [if_neg (by omega), s_isTold ht e14, bd_s]
      have sa : F_X5_sleepsAfter N r (k : Int) h = some (0, h) := by
        unfold F_X5_sleepsAfter
        rw [s_d58 (by omega), bd_s, if_pos (Z k (by omega))]
      by_cases z : isT t (k : Int)
      · rw [if_pos z, if_neg (by decide), sa, bd_s, if_pos rfl, bnd_s, inc (by omega)]
        exact ih
      · rw [if_neg z, if_pos rfl, bnd_s, inc (by omega)]
        exact ih
theorem gt_idle (hN : 1000000 ≤ N) (S : ST N A t cr nn h0 hS gS) {C : Nat} (hC : 700 ≤ C) (Z : ∀ i, i < 14 → h 58 i = 0) : ∀ (d r x : Nat) (g : Hp), r + d = 10 → x ≤ 14 * r → NS t cr nn B hS gS x h g → (∀ j, j < 5 → 600 ≤ g 116 j) → ∃ g' x', L_X12_goesNight_89 N (C - 60 * r + 1) ((60 * r : Nat) : Int) g = some g' ∧ x' ≤ 140 ∧ NS t cr nn B hS gS x' h g' ∧ ∀ j, j < 5 → 600 ≤ g' 116 j := by
  intro d
  induction d with
  | zero =>
    intro r x g hr hx H hm
    obtain rfl : r = 10 := by omega
    refine ⟨g, x, ?_, by omega, H, hm⟩
    unfold L_X12_goesNight_89
    rw [if_pos (by omega)]
  | succ d ih =>
    intro r x g hr hx H hm
    have e14 : h 1 4 = (t : Int) := by rw [H.1 1 4 (by omega) (by omega) (by omega) (by omega) (by omega)]; exact S.2.2.2.2.2.1
    obtain ⟨h1, h', g', a1, a2, a3, a4, a5⟩ := hr_hour (N := N) (C := C) (r := r) hN S (by omega) hC (by omega) H (fun j hj => by have := hm j hj; omega)
    have sb : F_X5_serveBefore N ((60 * (r + 1) : Nat) : Int) h = some h := sb_end (N := N) (turn := 0) hN H (by omega) (by omega) (fun j hj => by have := hm j hj; omega)
    rw [sb] at a1
    obtain rfl : h = h1 := by simpa using a1
    have q1 := l_quiet (N := N) (h := h) S.1 e14 Z (r := (r : Int)) (fun _ x => some x) N 0 (by omega) (by omega)
    have q2 := a2 (fun _ x => some x)
    have q1 : L_X5_goThrough_27 N (fun _ x => some x) N (r : Int) 0 h = some h := q1
    rw [q1] at q2
    obtain rfl : h = h' := by simpa using q2
    obtain ⟨g2, x2, b1, b2, b3, b4⟩ := ih (r + 1) (x + 14) g' (by omega) (by omega) a4 (fun j hj => by
      have w := hm j hj
      have w2 := arv H hj
      have w3 := arv a4 hj
      omega)
    exact ⟨g2, x2, a3.trans b1, b2, b3, b4⟩
theorem gt_all (hN : 1000000 ≤ N) (S : ST N A t cr nn h0 hS gS) {C : Nat} (hC : 700 ≤ C) : ∀ (d q r x : Nat) (h g : Hp), r + d = 10 → d < q → x ≤ 14 * r → NS t cr nn B hS gS x h g → (∀ j, j < 5 → ((60 * r : Nat) : Int) ≤ g 116 j) → ∃ h' g' x', L_X5_goThrough_2 N q (r : Int) h = L_X5_goThrough_84 N N 0 h' ∧ L_X12_goesNight_89 N (C - 60 * r + 1) ((60 * r : Nat) : Int) g = some g' ∧ x' ≤ 140 ∧ NS t cr nn B hS gS x' h' g' ∧ ∀ j, j < 5 → 600 ≤ g' 116 j := by
  intro d
  induction d with
  | zero =>
    intro q r x h g hr hq hx H hm
    obtain ⟨q, rfl⟩ : ∃ p, q = p + 1 := ⟨q - 1, by omega⟩
    obtain rfl : r = 10 := by omega
    refine ⟨h, g, x, ?_, ?_, by omega, H, fun j hj => by have := hm j hj; omega⟩
    · unfold L_X5_goThrough_2
      rw [if_pos (by omega)]
    · unfold L_X12_goesNight_89
      rw [if_pos (by omega)]
  | succ d ih =>
    intro q r x h g hr hq hx H hm
    obtain ⟨q, rfl⟩ : ∃ p, q = p + 1 := ⟨q - 1, by omega⟩
    obtain ⟨b, b1, b2⟩ := l_idle (N := N) hN H N 0 (by omega) (by omega) (fun i hi => absurd hi (by omega))
    have b1 : F_X5_isIdle N h = some (b, h) := b1
    unfold L_X5_goThrough_2
    rw [if_neg (by omega), b1, bd_s]
    rcases b2 with rfl | ⟨rfl, Z, Q⟩
    · obtain ⟨h1, h', g', a1, a2, a3, a4, a5⟩ := hr_hour (N := N) (C := C) (r := r) hN S (by omega) hC (by omega) H hm
      have ew : w32 (w32 ((r : Int) + 1) * 60) = ((60 * (r + 1) : Nat) : Int) := by rw [inc (by omega), w32_id ⟨by omega, by omega⟩]; omega
      obtain ⟨h2, g2, x2, c1, c2, c3, c4, c5⟩ := ih q (r + 1) (x + 14) h' g' (by omega) (by omega) (by omega) a4 a5
      refine ⟨h2, g2, x2, ?_, a3.trans c2, c3, c4, c5⟩
      rw [if_pos rfl, ew, a1, bv_s, a2, bnd_s]
      clear ew
      rw [inc (by omega)]
      exact c1
    · rw [if_neg (by decide)]
      obtain ⟨g2, x2, c1, c2, c3, c4⟩ := gt_idle (N := N) (C := C) hN S hC Z (d + 1) r x g hr hx H Q
      exact ⟨h, g2, x2, rfl, c1, c2, c3, c4⟩
theorem l_swept (D : ∀ i, i < 14 → 0 ≤ h 58 i ∧ h 58 i ≤ 999) : ∀ (q k : Nat) (h1 : Hp), k ≤ 14 → 14 - k < q → (∀ c j, ¬ (c = 57 ∧ j = 11) → h1 c j = h c j) → h1 57 11 = sm (h 58) k → ∃ h2, L_X5_goThrough_84 N q (k : Int) h1 = some h2 ∧ (∀ c j, ¬ (c = 57 ∧ j = 11) → h2 c j = h c j) ∧ h2 57 11 = sm (h 58) 14
  | 0, k, _, _, hq, _, _ => absurd hq (by omega)
  | q + 1, k, h1, hk, hq, F, e => by
    unfold L_X5_goThrough_84
    by_cases c : k = 14
    · subst c
      rw [if_pos (by omega)]
      exact ⟨h1, rfl, F, e⟩
    · have d := D k (by omega)
      have b := sm_b (f := h 58) (M := 14) (fun i hi => ⟨(D i hi).1, by have := (D i hi).2; omega⟩) k hk
      rw [if_neg (by omega), grd_t ⟨by omega, by omega⟩, Int.toNat_natCast, e, F 58 k (by omega), w32_id ⟨by omega, by omega⟩, bnd_s, bnd_s, inc (by omega)]
      exact l_swept D q (k + 1) _ (by omega) (by omega) (fun c j z => by rw [hw_ne z]; exact F c j z) hw_eq
/-- a night, once its carts are sent -/
theorem night (hN : 1000000 ≤ N) (S : ST N A t cr nn h0 hS gS) (H : NS t cr nn B hS gS 0 h g) (hm : ∀ j, j < 5 → 0 ≤ g 116 j) (e11 : hS 57 11 = 0) : ∃ h' g' hE x', F_X5_goThrough N h = some h' ∧ L_X12_goesNight_89 N N 0 g = some g' ∧ x' ≤ 140 ∧ NS t cr nn B hS gS x' hE g' ∧ (∀ j, j < 5 → 600 ≤ g' 116 j) ∧ (∀ c j, ¬ (c = 57 ∧ j = 11) → h' c j = hE c j) ∧ h' 57 11 = sm (hE 58) 14 := by
  obtain ⟨hE, g', x', a1, a2, a3, a4, a5⟩ := gt_all (N := N) (C := N - 1) hN S (by omega) 10 N 0 0 h g (by omega) (by omega) (by omega) H hm
  obtain ⟨h', b1, b2, b3⟩ := l_swept (N := N) (h := hE) (fun i hi => ⟨(a4.2.2.1 i hi).2.1, (a4.2.2.1 i hi).2.2.1⟩) N 0 hE (by omega) (by omega) (fun _ _ _ => rfl) (by rw [a4.1 57 11 (by omega) (by omega) (by omega) (by omega) (by omega)]; exact e11)
  rw [show N - 1 - 60 * 0 + 1 = N by omega] at a2
  exact ⟨h', g', hE, x', a1.trans b1, a2, a3, a4, a5, b2, b3⟩
/-- a night's very beginning -/
def N0 (k : Nat) (h : Hp) : Prop := ∀ j, k ≤ j → j < 5 → h 59 j = 0 ∧ h 62 j = 2147483647 ∧ h 63 j = 0 ∧ h 64 j = -2
theorem snd (hN : 1000000 ≤ N) (S : ST N A t cr nn h0 hS gS) {st : Int} (hst : 0 ≤ st ∧ st ≤ 600) (e51 : gS 83 51 = st) {cc : Nat} (hcc : cc < 32) (e13 : gS 83 13 = (cc : Int)) (hcr : ∀ k, k < 5 → (cr k ≠ 0 ↔ cc.testBit k = true)) (CL : Nat → Hp → Option Hp) (c5 : ∀ h, CL 5 h = some h) (cs : ∀ k h, k < 5 → FX hS h → CL k h = if cr k = 0 then CL (k + 1) h else bv (F_X5_goOn N (k : Int) 0 st (hw (hw h 59 k (cr k : Int)) 61 k 0)) (CL (k + 1))) : ∀ (d q : Nat) (h g : Hp), d ≤ 5 → d < q → FX hS h → FM gS g → (∀ c j, (c = 57 ∨ c = 58) → h c j = hS c j) → (∀ c j, (c = 83 ∨ c = 84) → g c j = gS c j) → (∀ j, j < 5 - d → DC t cr nn hS j h g) → N0 (5 - d) h → (∀ j, j < 5 - d → 0 ≤ g 116 j) → ∃ h' g', CL (5 - d) h = some h' ∧ L_X12_goesNight_22 N q ((5 - d : Nat) : Int) g = L_X12_goesNight_89 N N 0 g' ∧ FX hS h' ∧ FM gS g' ∧ (∀ c j, (c = 57 ∨ c = 58) → h' c j = hS c j) ∧ (∀ c j, (c = 83 ∨ c = 84) → g' c j = gS c j) ∧ (∀ j, j < 5 → DC t cr nn hS j h' g') ∧ ∀ j, j < 5 → 0 ≤ g' 116 j := by
  intro d
  induction d with
  | zero =>
    intro q h g hd hq F G E1 E2 D Z C
    obtain ⟨q, rfl⟩ : ∃ p, q = p + 1 := ⟨q - 1, by omega⟩
    refine ⟨h, g, c5 h, ?_, F, G, E1, E2, D, C⟩
    unfold L_X12_goesNight_22
    rw [if_pos (by omega)]
  | succ d ih =>
    intro q h g hd hq F G E1 E2 D Z C
    obtain ⟨q, rfl⟩ : ∃ p, q = p + 1 := ⟨q - 1, by omega⟩
    obtain ⟨s0, s1, s2, s3, s4, s5, s6, s7, s8, s9⟩ := id S
    obtain ⟨k, ek⟩ : ∃ k, k = 4 - d := ⟨_, rfl⟩
    have ek5 : 5 - (d + 1) = k := by omega
    rw [ek5] at D Z C ⊢
    have hk : k < 5 := by omega
    have g5 : 0 ≤ (k : Int) ∧ (k : Int) < 5 := ⟨by omega, by omega⟩
    have Zk := Z k (Nat.le_refl _) hk
    obtain ⟨g1, eg1⟩ : ∃ g1, g1 = hw (hw (hw (hw (hw g 113 k 0) 114 k 0) 115 k 0) 116 k 1000000) 117 k 1000000 := ⟨_, rfl⟩
    have fg1 : ∀ c j, ¬ (j = k ∧ 113 ≤ c ∧ c ≤ 117) → g1 c j = g c j := fun c j z => by rw [eg1, hw_ne (by omega), hw_ne (by omega), hw_ne (by omega), hw_ne (by omega), hw_ne (by omega)]
    have v113 : g1 113 k = 0 := by rw [eg1, hw_ne (by omega), hw_ne (by omega), hw_ne (by omega), hw_ne (by omega), hw_eq]
    have v114 : g1 114 k = 0 := by rw [eg1, hw_ne (by omega), hw_ne (by omega), hw_ne (by omega), hw_eq]
    have v115 : g1 115 k = 0 := by rw [eg1, hw_ne (by omega), hw_ne (by omega), hw_eq]
    have v116 : g1 116 k = 1000000 := by rw [eg1, hw_ne (by omega), hw_eq]
    have v117 : g1 117 k = 1000000 := by rw [eg1, hw_eq]
    have G1 : FM gS g1 := fun c j z1 z2 z3 z4 z5 => by rw [fg1 c j (by omega)]; exact G c j z1 z2 z3 z4 z5
    have e13' : g1 83 13 = (cc : Int) := by rw [fg1 83 13 (by omega), E2 83 13 (by omega)]; exact e13
    have e51' : g1 83 51 = st := by rw [fg1 83 51 (by omega), E2 83 51 (by omega)]; exact e51
    have isc := s_isCart (N := N) (k := (k : Int)) hcc e13'
    rw [Int.toNat_natCast] at isc
    have step : L_X12_goesNight_22 N (q + 1) (k : Int) g = if (if 0 ≤ (k : Int) ∧ (k : Int) ≤ 4 ∧ cc.testBit k = true then (1 : Int) else 0) = 0 then L_X12_goesNight_22 N q ((k + 1 : Nat) : Int) g1 else bv (F_X12_goesOn N (k : Int) st g1) fun h8 => L_X12_goesNight_22 N q ((k + 1 : Nat) : Int) h8 := by
      conv => lhs; unfold L_X12_goesNight_22
      unfold J_X12_goesNight_81
      rw [if_neg (by omega), grd_t g5, bnd_s, grd_t g5, bnd_s, grd_t g5, bnd_s, grd_t g5, bnd_s, grd_t g5, bnd_s, Int.toNat_natCast, ← eg1, isc, bd_s, e51']
      simp only [bnd_s]
      rw [inc (by omega)]
    -- the carts before stay
    have keep : ∀ (h2 g2 : Hp), (∀ c j, j < k → 59 ≤ c → c ≤ 64 → h2 c j = h c j) → (∀ c j, j < k → 113 ≤ c → c ≤ 117 → g2 c j = g c j) → ∀ j, j < k → DC t cr nn hS j h2 g2 := fun h2 g2 p1 p2 j hj => by
      obtain ⟨m1, m2, m3, m4, m5, m6⟩ := D j hj
      unfold DC FIN PND
      rw [p1 59 j hj (by omega) (by omega), p1 60 j hj (by omega) (by omega), p1 62 j hj (by omega) (by omega), p1 63 j hj (by omega) (by omega), p1 64 j hj (by omega) (by omega), p2 114 j hj (by omega) (by omega), p2 115 j hj (by omega) (by omega), p2 116 j hj (by omega) (by omega), p2 117 j hj (by omega) (by omega)]
      exact ⟨m1, m2, m3, m4, m5, m6⟩
    have k1 : k + 1 = 5 - d := by omega
    rw [step, cs k h hk F]
    by_cases ck : cr k = 0
    · have nb : ¬ (0 ≤ (k : Int) ∧ (k : Int) ≤ 4 ∧ cc.testBit k = true) := fun z => (hcr k hk).mpr z.2.2 ck
      rw [if_pos ck, if_neg nb, if_pos rfl, k1]
      refine ih q h g1 (by omega) (by omega) F G1 E1 (fun c j z => by rw [fg1 c j (by omega)]; exact E2 c j z) (fun j hj => ?_) (fun j z1 z2 => Z j (by omega) z2) (fun j hj => ?_)
      · by_cases w : j = k
        · subst w
          refine ⟨by rw [Zk.1, ck]; rfl, by rw [v114, Zk.2.2.1], by rw [Zk.2.2.1]; exact Int.le_refl _, by rw [Zk.2.2.1]; omega, fun z => absurd ck z, Or.inl ⟨Zk.2.1, v116, fun z => absurd ck z, Or.inl ⟨v117, Zk.2.2.2⟩⟩⟩
        · exact keep h g1 (fun _ _ _ _ _ => rfl) (fun c j z1 z2 z3 => fg1 c j (by omega)) j (by omega)
      · by_cases w : j = k
        · subst w; rw [v116]; omega
        · rw [fg1 116 j (by omega)]; exact C j (by omega)
    · have tb := (hcr k hk).mp ck
      obtain ⟨c1, P⟩ := (s9 k hk).resolve_left ck
      have cR := P.1
      have cB : cr k - 1 ≤ 60 ∧ (cr k - 1 = 21 ∨ cr k - 1 = 25 ∨ cr k - 1 = 29 ∨ cr k - 1 = 33 ∨ cr k - 1 = 37 ∨ cr k - 1 = 53) := by unfold cartR at cR; omega
      rw [if_neg ck, if_pos (show 0 ≤ (k : Int) ∧ (k : Int) ≤ 4 ∧ cc.testBit k = true from ⟨by omega, by omega, tb⟩), if_neg (by decide)]
      obtain ⟨h1, eh1⟩ : ∃ h1, h1 = hw (hw h 59 k (cr k : Int)) 61 k 0 := ⟨_, rfl⟩
      rw [← eh1]
      have fh1 : ∀ c j, ¬ (j = k ∧ (c = 59 ∨ c = 61)) → h1 c j = h c j := fun c j z => by rw [eh1, hw_ne (by omega), hw_ne (by omega)]
      have v59 : h1 59 k = (cr k : Int) := by rw [eh1, hw_ne (by omega), hw_eq]
      have v61 : h1 61 k = 0 := by rw [eh1, hw_eq]
      have P1 : PR (nn k) k (cr k - 1) h1 g1 := P.ag (fun c' j y1 y2 => by rw [fh1 c' j (by omega)]; exact F c' j (by omega) (by omega) (by omega) (by omega) (by omega)) (fun c' j y1 y2 => by rw [fg1 c' j (by omega)]; exact G c' j (by omega) (by omega) (by omega) (by omega) (by omega))
      have W1 : WY t h1 g1 := s8.ag (fun j => by rw [fh1 10 j (by omega)]; exact F 10 j (by omega) (by omega) (by omega) (by omega) (by omega)) (fun j => by rw [fg1 91 j (by omega)]; exact G 91 j (by omega) (by omega) (by omega) (by omega) (by omega))
      have tp : (t.testBit 0 = true ∧ t.testBit 0 = true) ∨ (¬ t.testBit 0 = true ∧ (0 : Nat) = 0) := by
        by_cases w : t.testBit 0 = true
        · exact Or.inl ⟨w, w⟩
        · exact Or.inr ⟨w, rfl⟩
      obtain ⟨h2, g2, r1, r2, r3, r4, r5⟩ := go_sim (N := N) (s := 0) (p := 0) (m := st) hN s0 (by rw [fh1 1 4 (by omega), F 1 4 (by omega) (by omega) (by omega) (by omega) (by omega)]; exact s5) W1 hk P1 (by omega) tp ⟨hst.1, by omega⟩ (by omega) (by rw [v59]; omega) v61 v113 v115
      have r1 : F_X5_goOn N (k : Int) 0 st h1 = some h2 := r1
      rw [r1, bv_s, r2, bv_s, k1]
      have f2 : ∀ c j, ¬ (j = k ∧ 59 ≤ c ∧ c ≤ 62) → h2 c j = h c j := fun c j z => by rw [r3 c j (by omega), fh1 c j (by omega)]
      have q2 : ∀ c j, ¬ (j = k ∧ 113 ≤ c ∧ c ≤ 117) → g2 c j = g c j := fun c j z => by rw [r4 c j (by omega), fg1 c j z]
      refine ih q h2 g2 (by omega) (by omega) (fun c j z1 z2 z3 z4 z5 => by rw [f2 c j (by omega)]; exact F c j z1 z2 z3 z4 z5) (fun c j z1 z2 z3 z4 z5 => by rw [q2 c j (by omega)]; exact G c j z1 z2 z3 z4 z5) (fun c j z => by rw [f2 c j (by omega)]; exact E1 c j z) (fun c j z => by rw [q2 c j (by omega)]; exact E2 c j z) (fun j hj => ?_) (fun j z1 z2 => by rw [f2 59 j (by omega), f2 62 j (by omega), f2 63 j (by omega), f2 64 j (by omega)]; exact Z j (by omega) z2) (fun j hj => ?_)
      · by_cases w : j = k
        · subst w
          have k63 : h2 63 j = 0 := by rw [f2 63 j (by omega)]; exact Zk.2.2.1
          have k64 : h2 64 j = -2 := by rw [f2 64 j (by omega)]; exact Zk.2.2.2
          have k114 : g2 114 j = 0 := by rw [r4 114 j (by omega)]; exact v114
          refine ⟨by rw [r3 59 j (by omega)]; exact v59, by rw [k63, k114], by rw [k63]; exact Int.le_refl _, by rw [k63]; omega, fun _ => by rw [k63]; have := P.2.2.2.2.1; omega, ?_⟩
          rcases r5 with ⟨y1, y2, y3, y4⟩ | ⟨s', u', y1, y2, y3, y4, y5, y6, y7, y8, y9, y10, y11, y12⟩
          · exact Or.inl ⟨y1, y2, fun _ => y3, Or.inl ⟨by rw [y4]; exact v117, k64⟩⟩
          · refine Or.inr ⟨ck, y6, by omega, by omega, y9, y12, s', u', y2, y3, y4, y5, ?_, y11⟩
            have e1 : cr j - 1 + 1 = cr j := by omega
            rw [e1] at y10
            rw [← y10, fh1 (cr j) s' (by omega)]
            exact (F (cr j) s' (by omega) (by omega) (by omega) (by omega) (by omega)).symm
        · exact keep h2 g2 (fun c j z1 z2 z3 => f2 c j (by omega)) (fun c j z1 z2 z3 => q2 c j (by omega)) j (by omega)
      · by_cases w : j = k
        · subst w
          rcases r5 with ⟨y1, y2, y3, y4⟩ | ⟨s', u', y1, y2, y3, y4, y5, y6, y7, y8, y9, y10⟩
          · rw [y2]; omega
          · omega
        · rw [q2 116 j (by omega)]; exact C j (by omega)
end NT
