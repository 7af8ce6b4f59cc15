/-! NIGHTS -/
theorem LawOK.ag {N : Nat} {h h' : Hp} {A : Int → (Nat → Int) → Int} (H : LawOK N h A) (e83 : h' 83 24 = h 83 24) (e11 : h' 11 4 = h 11 4) (eX : ∀ c, 12 ≤ c → c ≤ 17 → h' c = h c) (eM : ∀ c, 103 ≤ c → c ≤ 107 → h' c = h c) : LawOK N h' A := by
  obtain ⟨a1, a2, a3, a4⟩ := H
  exact ⟨a1, a2, fun g l hg hl => a3 g l ⟨fun c p q => (hg.1 c p q).trans (eX c p q), hg.2.trans e11⟩ hl, fun g l hg hl => a4 g l ⟨fun c p q => (hg.1 c p q).trans (eM c p q), hg.2.trans e83⟩ hl⟩
def exC (h hF : Hp) : Prop := ∀ c j, ¬ c = 5 → ¬ (c = 1 ∧ 5 ≤ j ∧ j ≤ 7) → ¬ (57 ≤ c ∧ c ≤ 64) → ¬ c = 18 → ¬ c = 19 → ¬ (c = 11 ∧ (j = 10 ∨ j = 11)) → hF c j = h c j
def exD (g gF : Hp) : Prop := ∀ c j, ¬ c = 84 → ¬ (c = 83 ∧ 47 ≤ j ∧ j ≤ 50) → ¬ c = 108 → ¬ c = 109 → ¬ (113 ≤ c ∧ c ≤ 117) → gF c j = g c j
theorem exC.tr {a b c : Hp} (h1 : exC a b) (h2 : exC b c) : exC a c := fun x j p q r s t u => (h2 x j p q r s t u).trans (h1 x j p q r s t u)
theorem exD.tr {a b c : Hp} (h1 : exD a b) (h2 : exD b c) : exD a c := fun x j p q r s t => (h2 x j p q r s t).trans (h1 x j p q r s t)
def NRn (N : Nat) (A : Int → (Nat → Int) → Int) (t cc : Nat) (h g : Hp) : Prop := NR N A t cc 0 h g ∧ g 84 15 = h 1 6 ∧ g 84 16 = h 1 7 ∧ 0 ≤ h 1 5 ∧ h 1 5 ≤ 9999
section NI
variable {N t cc : Nat} {A : Int → (Nat → Int) → Int} {h g : Hp}
theorem l_en : ∀ (q k : Nat) (h1 : Hp), k ≤ 14 → 14 - k < q → (∀ c j, ¬ c = 5 → h1 c j = h c j) → (∀ j, j < k → h1 5 j = 0) → ∃ h2, L_X1_endNight_32 N q (k : Int) h1 = some h2 ∧ (∀ c j, ¬ c = 5 → h2 c j = h c j) ∧ ∀ j, j < 14 → h2 5 j = 0
  | 0, k, _, _, hq, _, _ => absurd hq (by omega)
  | q + 1, k, h1, hk, hq, F, Z => by
    unfold L_X1_endNight_32
    by_cases c : k = 14
    · subst c
      rw [if_pos (by omega)]
      exact ⟨h1, rfl, F, Z⟩
    · rw [if_neg (by omega), grd_t ⟨by omega, by omega⟩, bnd_s, bnd_s, inc (by omega), Int.toNat_natCast]
      exact l_en q (k + 1) _ (by omega) (by omega) (fun c j z => by rw [hw_ne (by omega)]; exact F c j z) (fun j hj => by
        by_cases y : j = k
        · subst y; rw [hw_eq]
        · rw [hw_ne (by omega)]; exact Z j (by omega))
theorem l_n66 (K : Int → Int → Int → Hp → Option (Int × Hp)) (x1 x2 x3 : Int) : ∀ (q k : Nat) (g1 : Hp), k ≤ 14 → 14 - k < q → (∀ c j, ¬ (c = 84 ∧ j < 14) → g1 c j = g c j) → (∀ j, j < k → g1 84 j = 0) → ∃ g2, L_X12_nights_66 N K q x1 x2 x3 (k : Int) g1 = K x1 x2 x3 g2 ∧ (∀ c j, ¬ (c = 84 ∧ j < 14) → g2 c j = g c j) ∧ ∀ j, j < 14 → g2 84 j = 0
  | 0, k, _, _, hq, _, _ => absurd hq (by omega)
  | q + 1, k, g1, hk, hq, F, Z => by
    unfold L_X12_nights_66
    by_cases c : k = 14
    · subst c
      rw [if_pos (by omega)]
      exact ⟨g1, rfl, F, Z⟩
    · rw [if_neg (by omega), w14n (by omega), grd_t ⟨by omega, by omega⟩, bnd_s, bnd_s, inc (by omega), Int.toNat_natCast]
      exact l_n66 K x1 x2 x3 q (k + 1) _ (by omega) (by omega) (fun c j z => by rw [hw_ne (by omega)]; exact F c j z) (fun j hj => by
        by_cases y : j = k
        · subst y; rw [hw_eq]
        · rw [hw_ne (by omega)]; exact Z j (by omega))
theorem NR.next {h h3 g g3 : Hp} (R : NR N A t cc 0 h g) (F : exC h h3) (G : exD g g3) (d5 : ∀ i, i < 14 → h3 5 i = 0) (d84 : ∀ i, i < 14 → g3 84 i = 0) (e14 : g3 84 14 = h3 1 5) (hB : inR (g3 84 15)) : NR N A t cc 0 h3 g3 := by
  obtain ⟨⟨ht, e14', e12⟩, i2, e87, i3, i4, ⟨hcc, e13, ick⟩, e91, i8, L, aM, e51, -⟩ := R
  have fc : ∀ c, ¬ c = 5 → ¬ c = 1 → ¬ (57 ≤ c ∧ c ≤ 64) → ¬ c = 18 → ¬ c = 19 → ¬ c = 11 → h3 c = h c := fun c z1 z2 z3 z4 z5 z6 => funext fun j => F c j z1 (by omega) z3 z4 z5 (by omega)
  refine ⟨⟨ht, by rw [F 1 4 (by omega) (by omega) (by omega) (by omega) (by omega) (by omega)]; exact e14', by rw [G 83 12 (by omega) (by omega) (by omega) (by omega) (by omega)]; exact e12⟩, i2.ag (fun c hc => fc c (by omega) (by omega) (by omega) (by omega) (by omega) (by omega)), fun c j hc => ?_, fun i hi => ?_, e14, ⟨hcc, by rw [G 83 13 (by omega) (by omega) (by omega) (by omega) (by omega)]; exact e13, fun k hk => ?_⟩, fun c j hc => ?_, i8.ag (F 7 3 (by omega) (by omega) (by omega) (by omega) (by omega) (by omega)) (fun c hc => fc c (by omega) (by omega) (by omega) (by omega) (by omega) (by omega)), L.ag (F 83 24 (by omega) (by omega) (by omega) (by omega) (by omega) (by omega)) (F 11 4 (by omega) (by omega) (by omega) (by omega) (by omega) (by omega)) (fun c a b => fc c (by omega) (by omega) (by omega) (by omega) (by omega) (by omega)) (fun c a b => fc c (by omega) (by omega) (by omega) (by omega) (by omega) (by omega)), ⟨fun c a b => ?_, ?_⟩, by rw [G 83 51 (by omega) (by omega) (by omega) (by omega) (by omega)]; exact e51, hB⟩
  · rw [G c j (by omega) (by omega) (by omega) (by omega) (by omega), F c j (by omega) (by omega) (by omega) (by omega) (by omega) (by omega)]; exact e87 c j hc
  · rw [d84 i hi, d5 i hi]; exact ⟨rfl, Int.le_refl _, by omega, fun _ => rfl⟩
  · have := ick k hk
    unfold ICk PlanOK at this ⊢
    rw [fc 20 (by omega) (by omega) (by omega) (by omega) (by omega) (by omega), fc (21 + 4 * k) (by omega) (by omega) (by omega) (by omega) (by omega) (by omega), fc (22 + 4 * k) (by omega) (by omega) (by omega) (by omega) (by omega) (by omega), fc (23 + 4 * k) (by omega) (by omega) (by omega) (by omega) (by omega) (by omega), fc (24 + 4 * k) (by omega) (by omega) (by omega) (by omega) (by omega) (by omega), fc 92 (by omega) (by omega) (by omega) (by omega) (by omega) (by omega), fc 93 (by omega) (by omega) (by omega) (by omega) (by omega) (by omega), fc 94 (by omega) (by omega) (by omega) (by omega) (by omega) (by omega), fc 95 (by omega) (by omega) (by omega) (by omega) (by omega) (by omega)]
    exact this
  · rw [G c j (by omega) (by omega) (by omega) (by omega) (by omega), F c j (by omega) (by omega) (by omega) (by omega) (by omega) (by omega)]; exact e91 c j hc
  · rw [fc c (by omega) (by omega) (by omega) (by omega) (by omega) (by omega), ← aM.1 c a b]
    exact funext fun j => G c j (by omega) (by omega) (by omega) (by omega) (by omega)
  · rw [G 83 24 (by omega) (by omega) (by omega) (by omega) (by omega), F 83 24 (by omega) (by omega) (by omega) (by omega) (by omega) (by omega)]; exact aM.2
theorem nt_loop (hN : 1000000 ≤ N) {n : Nat} (hn : n ≤ 20) {b0 : Int} : ∀ (d q1 q2 k : Nat) (x2 : Int) (h g : Hp), k + d = n → d < q1 → d < q2 → 0 ≤ x2 → x2 ≤ 13860 * (k : Int) → eqw (g 84 15) (b0 + x2) → NRn N A t cc h g → ∃ r hF gF, L_X11_nights_16 N q1 (n : Int) x2 (k : Int) h = some (r, hF) ∧ L_X12_nights_22 N q2 (n : Int) b0 (k : Int) g = some (r, gF) ∧ exC h hF ∧ exD g gF ∧ NRn N A t cc hF gF := by
  intro d
  induction d with
  | zero =>
    intro q1 q2 k x2 h g hk h1 h2 x0 xB ew R
    obtain ⟨q1, rfl⟩ : ∃ p, q1 = p + 1 := ⟨q1 - 1, by omega⟩
    obtain ⟨q2, rfl⟩ : ∃ p, q2 = p + 1 := ⟨q2 - 1, by omega⟩
    refine ⟨x2, h, g, ?_, ?_, fun _ _ _ _ _ _ _ _ => rfl, fun _ _ _ _ _ _ _ => rfl, R⟩
    · unfold L_X11_nights_16
      rw [if_pos (by omega)]
    · unfold L_X12_nights_22 J_X12_nights_111
      rw [if_pos (by omega)]
      show some (w32 (g 84 15 - b0), g) = _
      unfold eqw at ew
      rw [ew, w32_back ⟨x0, by clear ew; omega⟩]
  | succ d ih =>
    intro q1 q2 k x2 h g hk h1 h2 x0 xB ew R
    obtain ⟨q1, rfl⟩ : ∃ p, q1 = p + 1 := ⟨q1 - 1, by omega⟩
    obtain ⟨q2, rfl⟩ : ∃ p, q2 = p + 1 := ⟨q2 - 1, by omega⟩
    obtain ⟨R, e15, e16, n0, n9⟩ := R
    have e14 : g 84 14 = h 1 5 := R.2.2.2.2.1
    have t14v : (14 : Int).toNat = 14 := rfl
    have t15v : (15 : Int).toNat = 15 := rfl
    have t16v : (16 : Int).toNat = 16 := rfl
    by_cases q9 : 9999 ≤ h 1 5
    · refine ⟨x2, h, g, ?_, ?_, fun _ _ _ _ _ _ _ _ => rfl, fun _ _ _ _ _ _ _ => rfl, R, e15, e16, n0, n9⟩
      · unfold L_X11_nights_16 F_X1_night
        rw [if_neg (by omega), bd_s, if_pos q9]
      · unfold L_X12_nights_22 J_X12_nights_111
        rw [if_neg (by omega), t14v, e14, if_pos q9]
        show some (w32 (g 84 15 - b0), g) = _
        unfold eqw at ew
        rw [ew, w32_back ⟨x0, by clear ew; omega⟩]
    · obtain ⟨ha, h2', g2, a1, a2, a3, a4, a5, -⟩ := full (N := N) (st := 0) hN ⟨by omega, by omega⟩ R
      obtain ⟨F, ⟨s1, s2, s3⟩, s4, s5, -⟩ := id a5
      -- the class ends the night
      obtain ⟨hb, ehb⟩ : ∃ hb, hb = hw (hw (hw h2' 1 6 (w32 (h 1 6 + h2' 57 10))) 1 7 (w32 (h 1 7 + h2' 57 11))) 1 5 (h 1 5 + 1) := ⟨_, rfl⟩
      obtain ⟨hc, c1, c2, c3⟩ := l_en (N := N) (h := hb) N 0 hb (by omega) (by omega) (fun _ _ _ => rfl) (fun j hj => absurd hj (by omega))
      have v16 : h2' 1 6 = h 1 6 := a4 1 6 (by omega) (by omega) (by omega) (by omega)
      have v17 : h2' 1 7 = h 1 7 := a4 1 7 (by omega) (by omega) (by omega) (by omega)
      have v15 : h2' 1 5 = h 1 5 := a4 1 5 (by omega) (by omega) (by omega) (by omega)
      have eEnd : F_X1_endNight N (h2' 57 10) (h2' 57 11) h2' = some hc := by
        unfold F_X1_endNight
        rw [bnd_s, v16, hw_ne (by omega), v17, bnd_s, hw_ne (by omega), hw_ne (by omega), v15, w32_id (x := h 1 5 + 1) ⟨by omega, by omega⟩, bnd_s, ← ehb]
        exact c1
      -- the reference ends it
      have ht := R.1.1
      have e12 : g2 83 12 = (t : Int) := by rw [F 83 12 (by omega) (by omega) (by omega) (by omega) (by omega)]; exact R.1.2.2
      have ya : F_X12_yardsAll N g2 = some (sm (g2 84) 14, g2) := l_yards (N := N) g2 ht e12 (fun k hk => by
        have := s5 k hk
        rw [this.1]
        exact ⟨this.2.1, this.2.2.1, fun z => this.2.2.2 (by rw [z]; decide)⟩) N 0 (by omega) (by omega)
      have ys : sm (g2 84) 14 = h2' 57 11 := by rw [s4, sm_c (f := g2 84) (g := h2' 58) (fun j hj => (s5 j hj).1)]
      obtain ⟨gb, egb⟩ : ∃ gb, gb = hw g2 84 16 (w32 (g 84 16 + h2' 57 11)) := ⟨_, rfl⟩
      obtain ⟨gc, d1, d2, d3⟩ := l_n66 (N := N) (g := gb) (fun (v5 : Int) (v6 : Int) (v7 : Int) (h8 : Hp) => bnd (hw h8 84 (14 : Int).toNat (w32 ((h8 84 (14 : Int).toNat) + 1))) fun h9 => bnd (w32 (v7 + 1)) fun y10 => (L_X12_nights_22 N q2) v5 v6 y10 h9) (n : Int) b0 (k : Int) N 0 gb (by omega) (by omega) (fun _ _ _ => rfl) (fun j hj => absurd hj (by omega))
      have g14 : gc 84 14 = h 1 5 := by rw [d2 84 14 (by omega), egb, hw_ne (by omega), F 84 14 (by omega) (by omega) (by omega) (by omega) (by omega)]; exact e14
      obtain ⟨gd, egd⟩ : ∃ gd, gd = hw gc 84 14 (h 1 5 + 1) := ⟨_, rfl⟩
      have eRef : L_X12_nights_22 N (q2 + 1) (n : Int) b0 (k : Int) g = L_X12_nights_22 N q2 (n : Int) b0 ((k + 1 : Nat) : Int) gd := by
        conv => lhs; unfold L_X12_nights_22
        rw [if_neg (by omega), t14v, e14, if_neg q9, a3, bv_s, ya, bd_s, t16v, ys, F 84 16 (by omega) (by omega) (by omega) (by omega) (by omega), bnd_s, ← egb]
        refine Eq.trans d1 ?_
        rw [bnd_s, t14v, g14, w32_id (x := h 1 5 + 1) ⟨by omega, by omega⟩, ← egd, bnd_s, inc (by omega)]
      have exc : exC h hc := fun c j z1 z2 z3 z4 z5 z6 => by
        rw [c2 c j z1, ehb, hw_ne (by omega), hw_ne (by omega), hw_ne (by omega)]
        exact a4 c j z3 z4 z5 z6
      have exd : exD g gd := fun c j z1 z2 z3 z4 z5 => by
        rw [egd, hw_ne (by omega), d2 c j (by omega), egb, hw_ne (by omega)]
        exact F c j (by omega) z2 z3 z4 z5
      have k15 : gd 84 15 = g2 84 15 := by rw [egd, hw_ne (by omega), d2 84 15 (by omega), egb, hw_ne (by omega)]
      have hc6 : hc 1 6 = w32 (h 1 6 + h2' 57 10) := by rw [c2 1 6 (by omega), ehb, hw_ne (by omega), hw_ne (by omega), hw_eq]
      have hc7 : hc 1 7 = w32 (h 1 7 + h2' 57 11) := by rw [c2 1 7 (by omega), ehb, hw_ne (by omega), hw_eq]
      have hc5 : hc 1 5 = h 1 5 + 1 := by rw [c2 1 5 (by omega), ehb, hw_eq]
      have gd16 : gd 84 16 = w32 (g 84 16 + h2' 57 11) := by rw [egd, hw_ne (by omega), d2 84 16 (by omega), egb, hw_eq]
      have hBn : inR (gd 84 15) := by
        rw [k15]
        unfold eqw at s3
        rw [s3]
        exact inR_w _
      have f15 : gd 84 15 = hc 1 6 := by
        unfold eqw at s3
        rw [k15, s3, hc6, e15]
      have f16 : gd 84 16 = hc 1 7 := by rw [gd16, hc7, e16]
      clear hc6 hc7 gd16
      have ew2 : eqw (gd 84 15) (b0 + (x2 + h2' 57 10)) := by
        rw [k15, ← Int.add_assoc]
        exact eqw_add ew s3
      have RN : NRn N A t cc hc gd := ⟨R.next exc exd c3 (fun i hi => by rw [egd, hw_ne (by omega)]; exact d3 i hi) (by rw [egd, hw_eq, hc5]) hBn, f15, f16, by rw [hc5]; omega, by rw [hc5]; omega⟩
      obtain ⟨r, hF, gF, r1, r2, r3, r4, r5⟩ := ih q1 q2 (k + 1) (x2 + h2' 57 10) hc gd (by omega) (by omega) (by omega) (by omega) (by omega) ew2 RN
      refine ⟨r, hF, gF, ?_, by rw [eRef]; exact r2, exC.tr exc r3, exD.tr exd r4, r5⟩
      unfold L_X11_nights_16 F_X1_night F_X5_slept F_X5_swept
      rw [if_neg (by omega), bd_s, if_neg q9, a1, bv_s, a2, bv_s, bd_s, w32_id ⟨by omega, by omega⟩, bnd_s, bd_s, bd_s, eEnd, bv_s, bnd_s, inc (by omega)]
      exact r1
end NI
theorem op_nights {N : Nat} (hN : 1000000 ≤ N) : ∀ a1 : Int, inR a1 → Sm (Inv N) (F_X11_nights N a1) (F_X12_nights N a1) := by
  intro m _ h hok hI
  obtain ⟨t, i1, i2, i3, i4, i5, i6, ⟨cc, hcc, hc13, hck⟩, i8, ⟨i9, A, L⟩, i10⟩ := id hI
  unfold F_X11_nights F_X12_nights
  rw [s_isWithin, bd_s]
  by_cases q2 : 1 ≤ m ∧ m ≤ 20
  rotate_left
  · exact ⟨-1, h, h, by rw [if_neg q2, if_pos rfl], by rw [s_in, bd_s, if_neg q2, if_pos rfl], hI⟩
  rw [if_pos q2, if_neg (by decide)]
  obtain ⟨n, rfl⟩ : ∃ n : Nat, m = (n : Int) := ⟨m.toNat, by omega⟩
  have run := fun (g : Hp) (G : ∀ c j, 83 ≤ c → g c j = h c j) => nt_loop (N := N) (A := A) (t := t) (cc := cc) (n := n) (b0 := h 84 15) hN (by omega) n N N 0 0 h g (by omega) (by omega) (by omega) (by omega) (by omega) (by
    unfold eqw
    rw [G 84 15 (by omega), Int.add_zero, w32_id (hok 84 15)]) ⟨NR_of i1 i2 i3 i4 ⟨hcc, hc13, hck⟩ i8 L hok (fun c j z1 _ _ => G c j z1) (by rw [G 83 51 (by omega)]; exact i10), by rw [G 84 15 (by omega)]; exact i4.2.2.2.1, by rw [G 84 16 (by omega)]; exact i4.2.2.2.2, i4.2.1, i4.2.2.1⟩
  obtain ⟨r, hF, -, a1, -, a3, -, -⟩ := run h (fun _ _ _ => rfl)
  obtain ⟨r', hF', gF, b1, b2, b3, b4, b5⟩ := run hF (fun c j z => a3 c j (by omega) (by omega) (by omega) (by omega) (by omega) (by omega))
  rw [a1] at b1
  obtain ⟨rfl, rfl⟩ : r = r' ∧ hF = hF' := by simpa using b1
  refine ⟨r, hF, gF, a1, ?_, ?_⟩
  · have e15 : hF 84 15 = h 84 15 := a3 84 15 (by omega) (by omega) (by omega) (by omega) (by omega) (by omega)
    rw [s_in, bd_s, if_pos q2, if_neg (by decide), bnd_s]
    show L_X12_nights_22 N N (n : Int) (hF 84 15) 0 hF = _
    rw [e15]
    exact b2
  · obtain ⟨R, f15, f16, n0, n9⟩ := b5
    refine hI.dn (fun c j z1 z2 => ?_) (fun t' j1 j3 j5 j4 => ?_)
    · unfold scr at z1
      rw [b4 c j (by omega) (by omega) (by omega) (by omega) (by omega), a3 c j (by omega) (by omega) (by omega) (by omega) (by omega) (by omega)]
    · have et : t' = t := by
        have := j1.2.1
        have := i1.2.1
        omega
      subst et
      have x5 : ∀ i, gF 5 i = hF 5 i := fun i => b4 5 i (by omega) (by omega) (by omega) (by omega) (by omega)
      have x1 : ∀ i, gF 1 i = hF 1 i := fun i => b4 1 i (by omega) (by omega) (by omega) (by omega) (by omega)
      refine ⟨fun i hi => by rw [x5]; exact R.2.2.2.1 i hi, ?_⟩
      unfold IN
      rw [x1 5, x1 6, x1 7]
      exact ⟨R.2.2.2.2.1, n0, n9, f15, f16⟩
