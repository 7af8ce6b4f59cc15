/-! A NIGHT OF ALL CARTS -/
theorem bv_n {β : Type} {f : Hp → Option β} : bv none f = none := rfl
section N7
variable {N t : Nat} {cr nn : Nat → Nat} {A : Int → (Nat → Int) → Int} {h0 hS gS h g : Hp}
theorem nightC (hN : 1000000 ≤ N) (S : ST N A t cr nn h0 hS gS) {st : Int} (hst : 0 ≤ st ∧ st ≤ 600) (e51 : gS 83 51 = st) {cc : Nat} (hcc : cc < 32) (e13 : gS 83 13 = (cc : Int)) (hcr : ∀ k, k < 5 → (cr k ≠ 0 ↔ cc.testBit k = true)) (CL : Nat → Hp → Option Hp) (c5 : ∀ h, CL 5 h = some h) (cs : ∀ k h, k < 5 → FX hS h → CL k h = if cr k = 0 then CL (k + 1) h else bv (F_X5_goOn N (k : Int) 0 st (hw (hw h 59 k (cr k : Int)) 61 k 0)) (CL (k + 1))) (z0 : N0 0 hS) (z57 : ∀ j, 10 ≤ j → j ≤ 15 → hS 57 j = 0) (dd : ∀ i, i < 14 → gS 84 i = hS 58 i ∧ 0 ≤ hS 58 i ∧ hS 58 i ≤ 999 ∧ (¬ t.testBit i = true → hS 58 i = 0)) (hB : inR (gS 84 15)) : ∃ h1 h2 g2 hE x', CL 0 hS = some h1 ∧ F_X5_goThrough N h1 = some h2 ∧ F_X12_goesNight N gS = some g2 ∧ x' ≤ 140 ∧ FM gS g2 ∧ NS t cr nn (gS 84 15) hS (hw (hw (hw (hw gS 83 47 0) 83 48 0) 83 49 0) 83 50 0) x' hE g2 ∧ (∀ j, j < 5 → 600 ≤ g2 116 j) ∧ (∀ c j, ¬ (c = 57 ∧ j = 11) → h2 c j = hE c j) ∧ h2 57 11 = sm (hE 58) 14 := by
  obtain ⟨s0, s1, s2, s3, s4, s5, s6, s7, s8, s9⟩ := id S
  obtain ⟨gZ, eZ⟩ : ∃ gZ, gZ = hw (hw (hw (hw gS 83 47 0) 83 48 0) 83 49 0) 83 50 0 := ⟨_, rfl⟩
  rw [← eZ]
  have fZ : ∀ c j, ¬ (c = 83 ∧ 47 ≤ j ∧ j ≤ 50) → gZ c j = gS c j := fun c j z => by rw [eZ, hw_ne (by omega), hw_ne (by omega), hw_ne (by omega), hw_ne (by omega)]
  have vZ : gZ 83 47 = 0 ∧ gZ 83 48 = 0 ∧ gZ 83 49 = 0 ∧ gZ 83 50 = 0 := by rw [eZ]; simp [hw]
  have SZ : ST N A t cr nn h0 hS gZ := ⟨s0, s1, s2, s3.of (fun c j z => fZ c j (by omega)), s4, s5, by rw [fZ 83 12 (by omega)]; exact s6, by rw [fZ 84 14 (by omega)]; exact s7, s8.ag (fun _ => rfl) (fun j => fZ 91 j (by omega)), fun k hk => by
    rcases s9 k hk with z | ⟨z1, z2⟩
    · exact Or.inl z
    · exact Or.inr ⟨z1, z2.ag (fun _ _ _ _ => rfl) (fun c' j y1 y2 => fZ c' j (by omega))⟩⟩
  obtain ⟨h1, g1, a1, a2, a3, a4, a5, a6, a7, a8⟩ := snd (N := N) hN SZ hst (by rw [fZ 83 51 (by omega)]; exact e51) hcc (by rw [fZ 83 13 (by omega)]; exact e13) hcr CL c5 cs 5 N hS gZ (by omega) (by omega) (fun _ _ _ _ _ _ _ => rfl) (fun _ _ _ _ _ _ _ => rfl) (fun _ _ _ => rfl) (fun _ _ _ => rfl) (fun j hj => absurd hj (by omega)) z0 (fun j hj => absurd hj (by omega))
  have rs : sm (rmk nn g1) 5 ≤ sm (fun _ => 16) 5 := sm_le (fun k hk => by
    unfold rmk
    by_cases z : g1 116 k = 1000000
    · rw [if_pos z]; omega
    · rw [if_neg z]
      rcases (a7 k hk).2.2.2.2.2 with y | y
      · exact absurd y.2.1 z
      · obtain ⟨ck, -, -, -, -, -, s, u, y1, -, -, y4, -⟩ := y
        have := ((s9 k hk).resolve_left ck).2.2.1
        omega)
  have r80 : sm (fun _ => (16 : Int)) 5 = 80 := by decide
  have H : NS t cr nn (gS 84 15) hS gZ 0 h1 g1 := by
    refine ⟨a3, a4, fun i hi => ?_, ⟨⟨?_, ?_, ?_⟩, ⟨?_, ?_, ?_⟩, ⟨?_, ?_, ?_⟩, 0, ?_, ?_, ⟨?_, ?_, ?_⟩, ?_⟩, a7⟩
    · rw [a6 84 i (by omega), fZ 84 i (by omega), a5 58 i (by omega)]; exact dd i hi
    · rw [a6 83 47 (by omega), vZ.1, a5 57 12 (by omega), z57 12 (by omega) (by omega)]
    · rw [a5 57 12 (by omega), z57 12 (by omega) (by omega)]; exact Int.le_refl _
    · rw [a5 57 12 (by omega), z57 12 (by omega) (by omega)]; omega
    · rw [a6 83 48 (by omega), vZ.2.1, a5 57 13 (by omega), z57 13 (by omega) (by omega)]
    · rw [a5 57 13 (by omega), z57 13 (by omega) (by omega)]; exact Int.le_refl _
    · rw [a5 57 13 (by omega), z57 13 (by omega) (by omega)]; omega
    · unfold eqw
      rw [a6 84 15 (by omega), fZ 84 15 (by omega), a5 57 10 (by omega), z57 10 (by omega) (by omega), Int.add_zero, w32_id hB]
    · rw [a5 57 10 (by omega), z57 10 (by omega) (by omega)]; exact Int.le_refl _
    · rw [a5 57 10 (by omega), z57 10 (by omega) (by omega)]; omega
    · rw [a5 57 15 (by omega), z57 15 (by omega) (by omega)]; rfl
    · rw [a6 83 50 (by omega), vZ.2.2.2]; rfl
    · rw [a6 83 49 (by omega), vZ.2.2.1, a5 57 14 (by omega), z57 14 (by omega) (by omega)]
    · rw [a5 57 14 (by omega), z57 14 (by omega) (by omega)]; exact Int.le_refl _
    · rw [a5 57 14 (by omega), z57 14 (by omega) (by omega)]; omega
    · omega
  obtain ⟨h2, g2, hE, x', b1, b2, b3, b4, b5, b6, b7⟩ := night (N := N) hN SZ H a8 (z57 11 (by omega) (by omega))
  refine ⟨h1, h2, g2, hE, x', a1, b1, ?_, b3, FM.tr (fun c j _ z2 _ _ _ => fZ c j z2) b4.2.1, b4, b5, b6, b7⟩
  unfold F_X12_goesNight
  rw [bnd_s, bnd_s, bnd_s, bnd_s, ← eZ]
  exact Eq.trans a2 b2
theorem l_prep : ∀ (q k : Nat) (h1 : Hp), k ≤ 5 → 5 - k < q → (∀ c j, ¬ (59 ≤ c ∧ c ≤ 64) → h1 c j = h c j) → (∀ j, j < k → h1 59 j = 0 ∧ h1 62 j = 2147483647 ∧ h1 63 j = 0 ∧ h1 64 j = -2) → ∃ h2, L_X5_prepare_13 N q (k : Int) h1 = some h2 ∧ (∀ c j, ¬ (59 ≤ c ∧ c ≤ 64) → ¬ (c = 57 ∧ 10 ≤ j ∧ j ≤ 15) → h2 c j = h c j) ∧ N0 0 h2 ∧ ∀ j, 10 ≤ j → j ≤ 15 → h2 57 j = 0
  | 0, k, _, _, hq, _, _ => absurd hq (by omega)
  | q + 1, k, h1, hk, hq, F, Z => by
    unfold L_X5_prepare_13
    by_cases c : k = 5
    · subst c
      simp only [bnd_s]
      rw [if_pos (by omega)]
      refine ⟨_, rfl, fun c j z1 z2 => by rw [hw_ne (by omega), hw_ne (by omega), hw_ne (by omega), hw_ne (by omega), hw_ne (by omega), hw_ne (by omega)]; exact F c j z1, fun j z1 z2 => ?_, fun j z1 z2 => ?_⟩
      · have := Z j z2
        refine ⟨?_, ?_, ?_, ?_⟩
        · rw [hw_ne (by omega), hw_ne (by omega), hw_ne (by omega), hw_ne (by omega), hw_ne (by omega), hw_ne (by omega)]; exact this.1
        · rw [hw_ne (by omega), hw_ne (by omega), hw_ne (by omega), hw_ne (by omega), hw_ne (by omega), hw_ne (by omega)]; exact this.2.1
        · rw [hw_ne (by omega), hw_ne (by omega), hw_ne (by omega), hw_ne (by omega), hw_ne (by omega), hw_ne (by omega)]; exact this.2.2.1
        · rw [hw_ne (by omega), hw_ne (by omega), hw_ne (by omega), hw_ne (by omega), hw_ne (by omega), hw_ne (by omega)]; exact this.2.2.2
      · rcases (show j = 10 ∨ j = 11 ∨ j = 12 ∨ j = 13 ∨ j = 14 ∨ j = 15 by omega) with rfl | rfl | rfl | rfl | rfl | rfl <;> simp [hw]
    · have g5 : 0 ≤ (k : Int) ∧ (k : Int) < 5 := ⟨by omega, by omega⟩
      rw [if_neg (by omega)]
      simp only [grd_t g5, bnd_s, Int.toNat_natCast]
      rw [inc (by omega)]
      refine l_prep q (k + 1) _ (by omega) (by omega) (fun c j z => by rw [hw_ne (by omega), hw_ne (by omega), hw_ne (by omega), hw_ne (by omega)]; exact F c j z) (fun j hj => ?_)
      by_cases y : j = k
      · subst y; simp [hw]
      · rw [hw_ne (by omega), hw_ne (by omega), hw_ne (by omega), hw_ne (by omega), hw_ne (by omega), hw_ne (by omega), hw_ne (by omega), hw_ne (by omega), hw_ne (by omega), hw_ne (by omega), hw_ne (by omega), hw_ne (by omega), hw_ne (by omega), hw_ne (by omega), hw_ne (by omega), hw_ne (by omega)]
        exact Z j (by omega)
theorem s_prep (hN : 1000000 ≤ N) : ∃ hP, F_X5_prepare N h = some hP ∧ (∀ c j, ¬ (58 ≤ c ∧ c ≤ 64) → ¬ (c = 57 ∧ 10 ≤ j ∧ j ≤ 15) → hP c j = h c j) ∧ (∀ i, i < 14 → hP 58 i = h 5 i) ∧ N0 0 hP ∧ ∀ j, 10 ≤ j → j ≤ 15 → hP 57 j = 0 := by
  obtain ⟨hc, ehc⟩ : ∃ hc, hc = hcp h 5 0 58 0 14 := ⟨_, rfl⟩
  obtain ⟨hP, a1, a2, a3, a4⟩ := l_prep (N := N) (h := hc) N 0 hc (by omega) (by omega) (fun _ _ _ => rfl) (fun j hj => absurd hj (by omega))
  refine ⟨hP, ?_, fun c j z1 z2 => ?_, fun i hi => ?_, a3, a4⟩
  · unfold F_X5_prepare F_X1_copyDepths
    have i14 : imin 14 14 = 14 := by decide
    rw [i14, grd_t (by decide), bnd_s, bv_s]
    have : hcp h 5 (0 : Int).toNat 58 (0 : Int).toNat (14 : Int).toNat = hc := by rw [ehc]; rfl
    rw [this]
    exact a1
  · rw [a2 c j (by omega) z2, ehc]
    unfold hcp
    rw [if_neg (by omega)]
  · rw [a2 58 i (by omega) (by omega), ehc]
    unfold hcp
    rw [if_pos ⟨rfl, by omega, by omega⟩, Nat.sub_zero, Nat.zero_add]
/-- what stands between both at a night's beginning -/
def NR (N : Nat) (A : Int → (Nat → Int) → Int) (t cc : Nat) (st : Int) (h g : Hp) : Prop := (t < 16384 ∧ h 1 4 = (t : Int) ∧ g 83 12 = (t : Int)) ∧ IS h ∧ (∀ c j, c = 87 ∨ c = 88 ∨ c = 89 → g c j = h c j) ∧ (∀ i, i < 14 → g 84 i = h 5 i ∧ 0 ≤ h 5 i ∧ h 5 i ≤ 999 ∧ (t.testBit i = false → h 5 i = 0)) ∧ g 84 14 = h 1 5 ∧ (cc < 32 ∧ g 83 13 = (cc : Int) ∧ ∀ k, k < 5 → ICk h cc k) ∧ (∀ c j, 91 ≤ c ∧ c ≤ 95 → g c j = h c j) ∧ IR h t ∧ LawOK N h A ∧ agM h g ∧ g 83 51 = st ∧ inR (g 84 15)
def crT (cc k : Nat) : Nat := if cc.testBit k = true then 22 + 4 * k else 0
def exN7 (h h2 : Hp) : Prop := ∀ c j, ¬ (57 ≤ c ∧ c ≤ 64) → ¬ c = 18 → ¬ c = 19 → ¬ (c = 11 ∧ (j = 10 ∨ j = 11)) → h2 c j = h c j
/-- what a night comes to -/
def NE (t : Nat) (h2 g g2 : Hp) : Prop := FM g g2 ∧ (0 ≤ h2 57 10 ∧ h2 57 10 ≤ 13860 ∧ eqw (g2 84 15) (g 84 15 + h2 57 10)) ∧ h2 57 11 = sm (h2 58) 14 ∧ (∀ i, i < 14 → g2 84 i = h2 58 i ∧ 0 ≤ h2 58 i ∧ h2 58 i ≤ 999 ∧ (¬ t.testBit i = true → h2 58 i = 0)) ∧ (g2 83 47 = h2 57 12 ∧ g2 83 48 = h2 57 13 ∧ g2 83 49 = h2 57 14 ∧ g2 83 50 = h2 57 15)
def LAS (k : Nat) (h2 g2 : Hp) : Prop := g2 114 k = h2 63 k ∧ ((h2 62 k = 2147483647 ∧ g2 115 k = g2 93 k ∧ ((g2 117 k = 1000000 ∧ h2 64 k = -2) ∨ (g2 117 k = h2 64 k ∧ 0 ≤ h2 64 k ∧ h2 64 k < 600))) ∨ (h2 62 k ≤ 10000 ∧ 600 ≤ g2 117 k))
theorem NE_of {B : Int} {x : Nat} {hE h2 g2 : Hp} (F : FM gS g2) (eB : B = gS 84 15) {gZ : Hp} (H : NS t cr nn B hS gZ x hE g2) (hx : x ≤ 140) (f : ∀ c j, ¬ (c = 57 ∧ j = 11) → h2 c j = hE c j) (e11 : h2 57 11 = sm (hE 58) 14) : NE t h2 gS g2 := by
  obtain ⟨n1, n2, n3, ⟨⟨c1, c2, c3⟩, ⟨c4, c5, c6⟩, ⟨c7, c8, c9⟩, a, c10, c11, ⟨c12, -, -⟩, c15⟩, n5⟩ := H
  have e58 : h2 58 = hE 58 := funext fun j => f 58 j (by omega)
  refine ⟨F, ⟨by rw [f 57 10 (by omega)]; exact c8, by rw [f 57 10 (by omega)]; omega, by rw [f 57 10 (by omega), ← eB]; exact c7⟩, by rw [e11, e58], fun i hi => by rw [f 58 i (by omega)]; exact n3 i hi, by rw [f 57 12 (by omega)]; exact c1, by rw [f 57 13 (by omega)]; exact c4, by rw [f 57 14 (by omega)]; exact c12, by rw [f 57 15 (by omega), c10]; exact c11⟩
theorem LAS_of {B : Int} {x k : Nat} {hE h2 g2 gZ : Hp} (hk : k < 5) (ck : cr k ≠ 0) (e93 : g2 93 k = (nn k : Int)) (H : NS t cr nn B hS gZ x hE g2) (hm : 600 ≤ g2 116 k) (f : ∀ c j, ¬ (c = 57 ∧ j = 11) → h2 c j = hE c j) : LAS k h2 g2 := by
  obtain ⟨m1, m2, m3, m4, m5, m6⟩ := H.2.2.2.2 k hk
  unfold LAS
  rw [f 63 k (by omega), f 62 k (by omega), f 64 k (by omega)]
  refine ⟨m2, ?_⟩
  rcases m6 with ⟨y1, y2, y3, y4⟩ | ⟨-, y2, y3, y4, y5, -⟩
  · exact Or.inl ⟨y1, by rw [e93]; exact y3 ck, y4⟩
  · exact Or.inr ⟨y4, by rw [y5]; exact hm⟩
theorem full (hN : 1000000 ≤ N) {cc : Nat} {st : Int} (hst : 0 ≤ st ∧ st ≤ 600) (R : NR N A t cc st h g) : ∃ h1 h2 g2, F_X11_sendCarts N st h = some h1 ∧ F_X5_goThrough N h1 = some h2 ∧ F_X12_goesNight N g = some g2 ∧ exN7 h h2 ∧ NE t h2 g g2 ∧ ∀ k, k < 5 → cc.testBit k = true → LAS k h2 g2 := by
  obtain ⟨⟨ht, e14, e12⟩, i2, e87, i3, i4, ⟨hcc, e13, ick⟩, e91, i8, L, aM, e51, hB⟩ := R
  obtain ⟨hP, p1, p2, p3, p4, p5⟩ := s_prep (N := N) (h := h) hN
  obtain ⟨nn, enn⟩ : ∃ nn : Nat → Nat, nn = fun k => (h 93 k).toNat := ⟨_, rfl⟩
  have PRk : ∀ k, k < 5 → cc.testBit k = true → PR (nn k) k (21 + 4 * k) hP g := fun k hk tb => by
    obtain ⟨v1, v2, v3, v4, v5, s, w1, w2, w3, w4⟩ := ick k hk
    have rm := v4.mp tb
    have en : nn k = s := by rw [enn]; show (h 93 k).toNat = s; rw [w3, Int.toNat_natCast]
    rw [en]
    have hp : ∀ c j, c ≤ 41 → hP c j = h c j := fun c j z => p2 c j (by omega) (by omega)
    refine ⟨by rw [show 21 + 4 * k + 1 = 22 + 4 * k by omega]; exact cartR_n hk, w1, by rw [hp _ 3 (by omega)]; exact w2, by rw [e91 93 k (by omega)]; exact w3, by rw [hp _ 4 (by omega)]; omega, by rw [hp _ 4 (by omega)]; exact v3, by rw [e91 92 k (by omega), hp _ 4 (by omega)]; exact v5 rm, fun q hq => ?_⟩
    have := w4 q hq
    rw [show 21 + 4 * k + 1 = 22 + 4 * k by omega, show 21 + 4 * k + 2 = 23 + 4 * k by omega, show 21 + 4 * k + 3 = 24 + 4 * k by omega, hp _ q (by omega), hp _ q (by omega), hp _ q (by omega), e91 94 _ (by omega), e91 95 _ (by omega)]
    exact ⟨⟨this.1.1, this.1.2.1, this.1.2.2⟩, this.2⟩
  have hcr : ∀ k, k < 5 → (crT cc k ≠ 0 ↔ cc.testBit k = true) := fun k hk => by
    unfold crT
    by_cases z : cc.testBit k = true
    · rw [if_pos z]; exact ⟨fun _ => z, fun _ => by omega⟩
    · rw [if_neg z]; exact ⟨fun y => absurd rfl y, fun y => absurd y z⟩
  have crv : ∀ k, cc.testBit k = true → crT cc k = 22 + 4 * k := fun k z => by unfold crT; rw [if_pos z]
  have S : ST N A t (crT cc) nn h hP g := by
    refine ⟨ht, L, (show bX h h from ⟨⟨fun _ _ _ => rfl, rfl⟩, fun _ _ => rfl, fun _ => rfl⟩).of (fun c j z => p2 c j (by omega) (by omega)), ⟨aM, fun c hc => funext fun j => e87 c j hc⟩, fun j hj => ⟨⟨(i2 j hj).1.1, (i2 j hj).2.1.1, (i2 j hj).2.2.1⟩, (i2 j hj).1.2⟩, by rw [p2 1 4 (by omega) (by omega)]; exact e14, e12, i4, (WY.of i8).ag (fun j => p2 10 j (by omega) (by omega)) (fun j => e91 91 j (by omega)), fun k hk => ?_⟩
    by_cases z : cc.testBit k = true
    · refine Or.inr ⟨by rw [crv k z]; omega, ?_⟩
      rw [crv k z, show 22 + 4 * k - 1 = 21 + 4 * k by omega]
      exact PRk k hk z
    · left
      unfold crT
      rw [if_neg z]
  obtain ⟨CL, eCL⟩ : ∃ CL : Nat → Hp → Option Hp, CL = fun k h => L_X11_sendCarts_9 N (N - k) st (k : Int) h := ⟨_, rfl⟩
  have cs : ∀ k h', k < 5 → FX hP h' → CL k h' = if crT cc k = 0 then CL (k + 1) h' else bv (F_X5_goOn N (k : Int) 0 st (hw (hw h' 59 k (crT cc k : Int)) 61 k 0)) (CL (k + 1)) := fun k h' hk F => by
    rw [eCL]
    simp only
    obtain ⟨M, eM⟩ : ∃ M, N - k = M + 1 := ⟨N - k - 1, by omega⟩
    have eM1 : N - (k + 1) = M := by omega
    rw [eM, eM1]
    have hp : ∀ c j, c ≤ 41 → ¬ c = 11 → ¬ c = 18 → ¬ c = 19 → h' c j = h c j := fun c j z1 z2 z3 z4 => by rw [F c j (by omega) (by omega) z3 z4 (by omega)]; exact p2 c j (by omega) (by omega)
    have hp9 : ∀ c j, 92 ≤ c → c ≤ 95 → h' c j = h c j := fun c j z1 z2 => by rw [F c j (by omega) (by omega) (by omega) (by omega) (by omega)]; exact p2 c j (by omega) (by omega)
    have ick' : ∀ q, q < 5 → ICk h' cc q := fun q hq => by
      have := ick q hq
      unfold ICk PlanOK at this ⊢
      have ec : ∀ c, c ≤ 41 → ¬ c = 11 → ¬ c = 18 → ¬ c = 19 → h' c = h c := fun c z1 z2 z3 z4 => funext fun j => hp c j z1 z2 z3 z4
      have ec9 : ∀ c, 92 ≤ c → c ≤ 95 → h' c = h c := fun c z1 z2 => funext fun j => hp9 c j z1 z2
      rw [ec 20 (by omega) (by omega) (by omega) (by omega), ec (21 + 4 * q) (by omega) (by omega) (by omega) (by omega), ec (22 + 4 * q) (by omega) (by omega) (by omega) (by omega), ec (23 + 4 * q) (by omega) (by omega) (by omega) (by omega), ec (24 + 4 * q) (by omega) (by omega) (by omega) (by omega), ec9 92 (by omega) (by omega), ec9 93 (by omega) (by omega), ec9 94 (by omega) (by omega), ec9 95 (by omega) (by omega)]
      exact this
    have it := s_isToldCart (N := N) (k := (k : Int)) ick'
    rw [Int.toNat_natCast] at it
    have e20 : h' 20 k = ((22 + 4 * k : Nat) : Int) := (ick' k hk).1
    conv => lhs; unfold L_X11_sendCarts_9
    unfold J_X11_sendCarts_37
    rw [if_neg (by omega), it, bd_s]
    by_cases z : cc.testBit k = true
    · have cRn := cartR_n hk
      rw [if_pos (show 0 ≤ (k : Int) ∧ (k : Int) ≤ 4 ∧ cc.testBit k = true from ⟨by omega, by omega, z⟩), if_neg (by decide), grd_t ⟨by omega, by omega, by rw [Int.toNat_natCast, e20, Int.toNat_natCast]; omega⟩, bnd_s, Int.toNat_natCast, e20, Int.toNat_natCast, if_neg ((hcr k hk).mpr z), crv k z]
      unfold F_X5_send
      rw [s_isWithin, bd_s, if_pos (show 0 ≤ (k : Int) ∧ (k : Int) ≤ 4 from ⟨by omega, by omega⟩), if_neg (by decide), grd_t ⟨⟨by omega, by omega⟩, Or.inr cRn⟩, bnd_s, grd_t ⟨by omega, by omega⟩, bnd_s, Int.toNat_natCast]
      cases hq : F_X5_goOn N (k : Int) 0 st (hw (hw h' 59 k ((22 + 4 * k : Nat) : Int)) 61 k 0) with
      | none => rw [bv_n, bv_n, bv_n]
      | some h5 =>
        rw [bv_s, bv_s, bv_s, bnd_s, inc (by omega)]
    · rw [if_neg (show ¬ (0 ≤ (k : Int) ∧ (k : Int) ≤ 4 ∧ cc.testBit k = true) from fun y => z y.2.2), if_pos rfl, if_pos (show crT cc k = 0 by unfold crT; rw [if_neg z]), bnd_s, inc (by omega)]
  have c5 : ∀ h', CL 5 h' = some h' := fun h' => by
    rw [eCL]
    simp only
    obtain ⟨M, eM⟩ : ∃ M, N - 5 = M + 1 := ⟨N - 5 - 1, by omega⟩
    rw [eM]
    unfold L_X11_sendCarts_9
    rw [if_pos (by omega)]
  obtain ⟨h1, h2, g2, hE, x', a1, a2, a3, a4, a5, a6, a7, a8, a9⟩ := nightC (N := N) hN S hst e51 hcc e13 hcr CL c5 cs p4 p5 (fun i hi => by
    have := i3 i hi
    rw [p3 i hi]
    exact ⟨this.1, this.2.1, this.2.2.1, fun z => this.2.2.2 (by cases hq : t.testBit i with | false => rfl | true => exact absurd hq z)⟩) hB
  refine ⟨h1, h2, g2, ?_, a2, a3, fun c j z1 z2 z3 z4 => ?_, NE_of a5 rfl a6 a4 a8 a9, fun k hk tb => LAS_of hk ((hcr k hk).mpr tb) (by rw [a5 93 k (by omega) (by omega) (by omega) (by omega) (by omega)]; exact (PRk k hk tb).2.2.2.1) a6 (a7 k hk) a8⟩
  · unfold F_X11_sendCarts
    rw [p1, bv_s]
    rw [eCL] at a1
    exact a1
  · rw [a8 c j (by omega), a6.1 c j (by omega) (by omega) z2 z3 z4, p2 c j (by omega) (by omega)]
end N7
