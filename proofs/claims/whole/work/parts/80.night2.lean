/-! A NIGHT: what holds in it, and a cart's arrival -/
def FX (h h' : Hp) : Prop := ∀ c j, ¬ (c = 57 ∧ 10 ≤ j ∧ j ≠ 11) → ¬ (58 ≤ c ∧ c ≤ 64) → ¬ c = 18 → ¬ c = 19 → ¬ (c = 11 ∧ (j = 10 ∨ j = 11)) → h' c j = h c j
def FM (g g' : Hp) : Prop := ∀ c j, ¬ (c = 84 ∧ j ≠ 14 ∧ j ≠ 16) → ¬ (c = 83 ∧ 47 ≤ j ∧ j ≤ 50) → ¬ c = 108 → ¬ c = 109 → ¬ (113 ≤ c ∧ c ≤ 117) → g' c j = g c j
theorem FX.tr {a b c : Hp} (h1 : FX a b) (h2 : FX b c) : FX a c := fun x j p q r s t => (h2 x j p q r s t).trans (h1 x j p q r s t)
theorem FM.tr {a b c : Hp} (h1 : FM a b) (h2 : FM b c) : FM a c := fun x j p q r s t => (h2 x j p q r s t).trans (h1 x j p q r s t)
/-- what stands fast in a night -/
def ST (N : Nat) (A : Int → (Nat → Int) → Int) (t : Nat) (cr nn : Nat → Nat) (h0 hS gS : Hp) : Prop := t < 16384 ∧ LawOK N h0 A ∧ bX h0 hS ∧ bM h0 gS ∧ (∀ j, j < 14 → (h0 87 j = h0 2 j ∧ h0 88 j = h0 3 j ∧ h0 89 j = h0 4 j) ∧ 0 ≤ h0 2 j ∧ h0 2 j ≤ 99) ∧ hS 1 4 = (t : Int) ∧ gS 83 12 = (t : Int) ∧ gS 84 14 = h0 1 5 ∧ WY t hS gS ∧ ∀ k, k < 5 → cr k = 0 ∨ (1 ≤ cr k ∧ PR (nn k) k (cr k - 1) hS gS)
def FIN (cr nn : Nat → Nat) (k : Nat) (h g : Hp) : Prop := h 62 k = 2147483647 ∧ g 116 k = 1000000 ∧ (cr k ≠ 0 → g 115 k = (nn k : Int)) ∧ ((g 117 k = 1000000 ∧ h 64 k = -2) ∨ (g 117 k = h 64 k ∧ 0 ≤ h 64 k ∧ h 64 k < 600))
def PND (t : Nat) (cr nn : Nat → Nat) (hS : Hp) (k : Nat) (h g : Hp) : Prop := cr k ≠ 0 ∧ h 62 k = g 116 k ∧ 0 ≤ h 62 k ∧ h 62 k ≤ 10000 ∧ g 117 k = g 116 k ∧ t.testBit 0 = true ∧ ∃ s u : Nat, s < nn k ∧ u < 14 ∧ h 60 k = (s : Int) ∧ g 115 k = (s : Int) ∧ hS (cr k) s = (u : Int) ∧ t.testBit u = true
def DC (t : Nat) (cr nn : Nat → Nat) (hS : Hp) (k : Nat) (h g : Hp) : Prop := h 59 k = (cr k : Int) ∧ g 114 k = h 63 k ∧ 0 ≤ h 63 k ∧ h 63 k ≤ 99 ∧ (cr k ≠ 0 → h 63 k ≤ hS (cr k - 1) 4) ∧ (FIN cr nn k h g ∨ PND t cr nn hS k h g)
/-- stops still ahead -/
def rmk (nn : Nat → Nat) (g : Hp) (k : Nat) : Int := if g 116 k = 1000000 then 0 else (nn k : Int) - g 115 k
def DD (t : Nat) (h g : Hp) : Prop := ∀ i, i < 14 → g 84 i = h 58 i ∧ 0 ≤ h 58 i ∧ h 58 i ≤ 999 ∧ (¬ t.testBit i = true → h 58 i = 0)
/-- alike but for the machine's turning round -/
def eqw (a b : Int) : Prop := a = w32 b
def CT (nn : Nat → Nat) (B : Int) (x : Nat) (h g : Hp) : Prop := (g 83 47 = h 57 12 ∧ 0 ≤ h 57 12 ∧ h 57 12 ≤ 999 * x) ∧ (g 83 48 = h 57 13 ∧ 0 ≤ h 57 13 ∧ h 57 13 ≤ 999 * x) ∧ (eqw (g 84 15) (B + h 57 10) ∧ 0 ≤ h 57 10 ∧ h 57 10 ≤ 99 * x) ∧ ∃ a : Nat, h 57 15 = (a : Int) ∧ g 83 50 = (a : Int) ∧ (g 83 49 = h 57 14 ∧ 0 ≤ h 57 14 ∧ h 57 14 ≤ 99 * a) ∧ (a : Int) + sm (rmk nn g) 5 ≤ 80
def NS (t : Nat) (cr nn : Nat → Nat) (B : Int) (hS gS : Hp) (x : Nat) (h g : Hp) : Prop := FX hS h ∧ FM gS g ∧ DD t h g ∧ CT nn B x h g ∧ ∀ k, k < 5 → DC t cr nn hS k h g
theorem sm_p2 {f g : Nat → Int} {x : Nat} : ∀ {n : Nat}, (∀ i, i < n → i ≠ x → f i = g i) → x < n → sm f n = sm g n + (f x - g x)
  | 0, _, h => absurd h (by omega)
  | n + 1, e, h => by
    simp only [sm]
    by_cases q : x = n
    · subst q
      rw [sm_c (f := f) (g := g) (fun j hj => e j (by omega) (by omega))]
      omega
    · rw [sm_p2 (n := n) (fun i hi => e i (by omega)) (by omega), e n (by omega) (Ne.symm q)]
      omega
section SV
variable {N t x : Nat} {cr nn : Nat → Nat} {B : Int} {A : Int → (Nat → Int) → Int} {h0 hS gS h g : Hp}
theorem rmk_b (H : ∀ k, k < 5 → DC t cr nn hS k h g) : ∀ k, k < 5 → 0 ≤ rmk nn g k := fun k hk => by
  have := (H k hk).2.2.2.2.2
  unfold rmk
  by_cases z : g 116 k = 1000000
  · rw [if_pos z]; omega
  · rw [if_neg z]
    rcases this with y | y
    · exact absurd y.2.1 z
    · obtain ⟨-, -, -, -, -, -, s, u, s1, -, -, s4, -⟩ := y
      omega
theorem sm_nn {f : Nat → Int} : ∀ {n : Nat}, (∀ i, i < n → 0 ≤ f i) → 0 ≤ sm f n
  | 0, _ => Int.le_refl _
  | n + 1, h => by
    have := sm_nn (n := n) (fun i hi => h i (by omega))
    have := h n (by omega)
    simp only [sm]; omega
theorem rmk_le (H : ∀ k, k < 5 → DC t cr nn hS k h g) {k : Nat} (hk : k < 5) : rmk nn g k ≤ sm (rmk nn g) 5 := by
  have b := rmk_b H
  have p := sm_pt (f := rmk nn g) (g := fun i => if i = k then 0 else rmk nn g i) (x := k) (fun i hi => by simp only [if_neg hi]) hk
  have z : (0 : Int) ≤ sm (fun i => if i = k then 0 else rmk nn g i) 5 := sm_nn (fun i hi => by
    by_cases y : i = k
    · simp only [if_pos y]; omega
    · simp only [if_neg y]; exact b i hi)
  simp only [if_true] at p
  omega
/-- a cart that has gone on: all holds anew -/
theorem sv_fin (S : ST N A t cr nn h0 hS gS) (H : NS t cr nn B hS gS x h g) {k s u a : Nat} {m L lf d : Int} (hk : k < 5) (ck : cr k ≠ 0) (e116 : g 116 k = m) (e117 : g 117 k = m) (hm : 0 ≤ m ∧ m < 600) (hs : s < nn k) (e115 : g 115 k = (s : Int)) (hu : u < 14) (tu : t.testBit u = true) (ea : h 57 15 = (a : Int)) (ear : (a : Int) + sm (rmk nn g) 5 ≤ 80) (hL : 0 ≤ L ∧ L ≤ hS (cr k - 1) 4) (hlf : 0 ≤ lf ∧ lf ≤ 99 * ((a + 1 : Nat) : Int)) (hd : 0 ≤ d ∧ d ≤ 999) {hD gE h' g' : Hp}
    (fD : ∀ c j, ¬ (c = 57 ∧ (j = 14 ∨ j = 15)) → ¬ (c = 58 ∧ j = u) → ¬ (j = k ∧ (c = 61 ∨ c = 63 ∨ c = 64)) → ¬ c = 18 → ¬ c = 19 → ¬ (c = 11 ∧ (j = 10 ∨ j = 11)) → hD c j = h c j) (d63 : hD 63 k = L) (d14 : hD 57 14 = lf) (d15 : hD 57 15 = ((a + 1 : Nat) : Int)) (d58 : hD 58 u = d) (d64 : hD 64 k = m)
    (fE : ∀ c j, ¬ (c = 83 ∧ (j = 49 ∨ j = 50)) → ¬ (c = 84 ∧ j = u) → ¬ (j = k ∧ (c = 113 ∨ c = 114 ∨ c = 115)) → ¬ c = 108 → ¬ c = 109 → gE c j = g c j) (e114 : gE 114 k = L) (e49 : gE 83 49 = lf) (e50 : gE 83 50 = ((a + 1 : Nat) : Int)) (e84 : gE 84 u = d)
    {mm : Int} (hmm : m ≤ mm ∧ mm ≤ 5000) (G : GO t (nn k) k (cr k - 1) (s + 1) mm hD gE h' g') :
    NS t cr nn B hS gS x h' g' ∧ m ≤ g' 116 k ∧ (∀ j, j < 5 → j ≠ k → g' 116 j = g 116 j) ∧ sm (rmk nn g') 5 + 1 ≤ sm (rmk nn g) 5 := by
  obtain ⟨n1, n2, n3, n4, n5⟩ := H
  obtain ⟨g1, g2, g3⟩ := G
  have fh : ∀ c j, ¬ (c = 57 ∧ (j = 14 ∨ j = 15)) → ¬ (c = 58 ∧ j = u) → ¬ (j = k ∧ (60 ≤ c ∧ c ≤ 64)) → ¬ c = 18 → ¬ c = 19 → ¬ (c = 11 ∧ (j = 10 ∨ j = 11)) → h' c j = h c j := fun c j z1 z2 z3 z4 z5 z6 => by
    rw [g1 c j (by omega)]; exact fD c j z1 z2 (by omega) z4 z5 z6
  have fg : ∀ c j, ¬ (c = 83 ∧ (j = 49 ∨ j = 50)) → ¬ (c = 84 ∧ j = u) → ¬ (j = k ∧ (113 ≤ c ∧ c ≤ 117)) → ¬ c = 108 → ¬ c = 109 → g' c j = g c j := fun c j z1 z2 z3 z4 z5 => by
    rw [g2 c j (by omega)]; exact fE c j z1 z2 (by omega) z4 z5
  have k63 : h' 63 k = L := by rw [g1 63 k (by omega)]; exact d63
  have k64 : h' 64 k = m := by rw [g1 64 k (by omega)]; exact d64
  have k114 : g' 114 k = L := by rw [g2 114 k (by omega)]; exact e114
  have oth : ∀ j, j < 5 → j ≠ k → g' 116 j = g 116 j ∧ g' 115 j = g 115 j := fun j hj z => ⟨fg 116 j (by omega) (by omega) (by omega) (by omega) (by omega), fg 115 j (by omega) (by omega) (by omega) (by omega) (by omega)⟩
  have rk0 : rmk nn g k = (nn k : Int) - s := by unfold rmk; rw [e116, if_neg (by omega), e115]
  have rk1 : rmk nn g' k + 1 ≤ rmk nn g k := by
    rw [rk0]
    unfold rmk
    rcases g3 with y | ⟨s', u', y1, y2, y3, y4, y5, y6, y7, y8, y9, y10⟩
    · rw [if_pos y.2.1]; omega
    · rw [if_neg (by omega), y5]; omega
  have rsum : sm (rmk nn g') 5 + 1 ≤ sm (rmk nn g) 5 := by
    have p := sm_p2 (f := rmk nn g') (g := rmk nn g) (x := k) (n := 5) (fun i hi z => by unfold rmk; rw [(oth i hi z).1, (oth i hi z).2]) hk
    omega
  have k116 : m ≤ g' 116 k := by
    rcases g3 with y | ⟨s', u', y1, y2, y3, y4, y5, y6, y7, y8, y9, y10⟩
    · rw [y.2.1]; omega
    · omega
  refine ⟨⟨fun c j z1 z2 z3 z4 z5 => by rw [fh c j (by omega) (by omega) (by omega) z3 z4 z5]; exact n1 c j z1 z2 z3 z4 z5, fun c j z1 z2 z3 z4 z5 => by rw [fg c j (by omega) (by omega) (by omega) z3 z4]; exact n2 c j z1 z2 z3 z4 z5, fun i hi => ?_, ?_, fun j hj => ?_⟩, k116, fun j hj z => (oth j hj z).1, rsum⟩
  · by_cases z : i = u
    · subst z
      have a1 : h' 58 i = d := by rw [g1 58 i (by omega)]; exact d58
      have a2 : g' 84 i = d := by rw [g2 84 i (by omega)]; exact e84
      rw [a1, a2]
      exact ⟨rfl, hd.1, hd.2, fun y => absurd tu y⟩
    · rw [fh 58 i (by omega) (by omega) (by omega) (by omega) (by omega) (by omega), fg 84 i (by omega) (by omega) (by omega) (by omega) (by omega)]
      exact n3 i hi
  · obtain ⟨c1, c2, c3, -⟩ := n4
    have x12 : h' 57 12 = h 57 12 := fh 57 12 (by omega) (by omega) (by omega) (by omega) (by omega) (by omega)
    have x13 : h' 57 13 = h 57 13 := fh 57 13 (by omega) (by omega) (by omega) (by omega) (by omega) (by omega)
    have x10 : h' 57 10 = h 57 10 := fh 57 10 (by omega) (by omega) (by omega) (by omega) (by omega) (by omega)
    have y47 : g' 83 47 = g 83 47 := fg 83 47 (by omega) (by omega) (by omega) (by omega) (by omega)
    have y48 : g' 83 48 = g 83 48 := fg 83 48 (by omega) (by omega) (by omega) (by omega) (by omega)
    have y15 : g' 84 15 = g 84 15 := fg 84 15 (by omega) (by omega) (by omega) (by omega) (by omega)
    have x14 : h' 57 14 = lf := by rw [g1 57 14 (by omega)]; exact d14
    have x15 : h' 57 15 = ((a + 1 : Nat) : Int) := by rw [g1 57 15 (by omega)]; exact d15
    have y49 : g' 83 49 = lf := by rw [g2 83 49 (by omega)]; exact e49
    have y50 : g' 83 50 = ((a + 1 : Nat) : Int) := by rw [g2 83 50 (by omega)]; exact e50
    refine ⟨by rw [x12, y47]; exact c1, by rw [x13, y48]; exact c2, by rw [x10, y15]; exact c3, a + 1, x15, y50, ⟨by rw [x14, y49], by rw [x14]; exact hlf.1, by rw [x14]; exact hlf.2⟩, by omega⟩
  · by_cases z : j = k
    · subst z
      obtain ⟨m1, m2, m3, m4, m5, -⟩ := n5 j hj
      have pr := ((S.2.2.2.2.2.2.2.2.2 j hj).resolve_left ck).2
      refine ⟨by rw [fh 59 j (by omega) (by omega) (by omega) (by omega) (by omega) (by omega)]; exact m1, by rw [k63, k114], by rw [k63]; exact hL.1, by rw [k63]; have := pr.2.2.2.2.2.1; omega, fun _ => by rw [k63]; exact hL.2, ?_⟩
      rcases g3 with ⟨y1, y2, y3, y4⟩ | ⟨s', u', y1, y2, y3, y4, y5, y6, y7, y8, y9, y10, y11, y12⟩
      · refine Or.inl ⟨y1, y2, fun _ => y3, Or.inr ⟨?_, by rw [k64]; exact hm.1, by rw [k64]; exact hm.2⟩⟩
        rw [k64, y4, fE 117 j (by omega) (by omega) (by omega) (by omega) (by omega)]
        exact e117
      · refine Or.inr ⟨ck, y6, by omega, by omega, y9, y12, s', u', y2, y3, y4, y5, ?_, y11⟩
        have e1 : cr j - 1 + 1 = cr j := by omega
        rw [e1] at y10
        have cR := pr.1
        have c60 : cr j ≤ 55 := by unfold cartR at cR; omega
        rw [← y10, fD (cr j) s' (by omega) (by omega) (by omega) (by unfold cartR at cR; omega) (by unfold cartR at cR; omega) (by unfold cartR at cR; omega)]
        exact (n1 (cr j) s' (by omega) (by omega) (by unfold cartR at cR; omega) (by unfold cartR at cR; omega) (by unfold cartR at cR; omega)).symm
    · obtain ⟨m1, m2, m3, m4, m5, m6⟩ := n5 j hj
      have p59 : ∀ c, 59 ≤ c → c ≤ 64 → h' c j = h c j := fun c y1 y2 => fh c j (by omega) (by omega) (by omega) (by omega) (by omega) (by omega)
      have p113 : ∀ c, 113 ≤ c → c ≤ 117 → g' c j = g c j := fun c y1 y2 => fg c j (by omega) (by omega) (by omega) (by omega) (by omega)
      unfold DC FIN PND
      rw [p59 59 (by omega) (by omega), p59 60 (by omega) (by omega), p59 62 (by omega) (by omega), p59 63 (by omega) (by omega), p59 64 (by omega) (by omega), p113 114 (by omega) (by omega), p113 115 (by omega) (by omega), p113 116 (by omega) (by omega), p113 117 (by omega) (by omega)]
      exact ⟨m1, m2, m3, m4, m5, m6⟩
end SV
