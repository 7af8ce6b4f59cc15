/-! STRIKE, TRIED, NIGHTS -/
theorem w32_back {b s : Int} (hs : 0 ≤ s ∧ s ≤ 1000000) : w32 (w32 (b + s) - b) = s := by
  have e : w32 (w32 (b + s) - b) = w32 (b + s - b) := by
    unfold w32
    rw [Int.sub_eq_add_neg, Int.bmod_add_bmod, ← Int.sub_eq_add_neg]
  rw [e, show b + s - b = s by omega, w32_id ⟨by omega, by omega⟩]
section SK
variable {N t cc : Nat} {A : Int → (Nat → Int) → Int} {h g : Hp} {st : Int}
theorem NR_of (i1 : IT h t) (i2 : IS h) (i3 : ID h t) (i4 : IN h) (ic : cc < 32 ∧ h 83 13 = (cc : Int) ∧ ∀ k, k < 5 → ICk h cc k) (i8 : IR h t) (L : LawOK N h A) (hok : okH h) (e : ∀ c j, 83 ≤ c → ¬ (c = 83 ∧ j = 51) → ¬ c = 85 → g c j = h c j) (e51 : g 83 51 = st) : NR N A t cc st h g := by
  refine ⟨⟨i1.1, i1.2.1, by rw [e 83 12 (by omega) (by omega) (by omega)]; exact i1.2.2⟩, i2, fun c j hc => e c j (by omega) (by omega) (by omega), fun i hi => by rw [e 84 i (by omega) (by omega) (by omega)]; exact i3 i hi, by rw [e 84 14 (by omega) (by omega) (by omega)]; exact i4.1, ⟨ic.1, by rw [e 83 13 (by omega) (by omega) (by omega)]; exact ic.2.1, ic.2.2⟩, fun c j hc => e c j (by omega) (by omega) (by omega), i8, L, ⟨fun c a b => funext fun j => e c j (by omega) (by omega) (by omega), e 83 24 (by omega) (by omega) (by omega)⟩, e51, by rw [e 84 15 (by omega) (by omega) (by omega)]; exact hok 84 15⟩
def exS (g g' : Hp) : Prop := ∀ c j, ¬ (c = 84 ∧ 17 ≤ j) → ¬ c = 85 → ¬ (c = 83 ∧ 47 ≤ j ∧ j ≤ 50) → ¬ c = 108 → ¬ c = 109 → ¬ (113 ≤ c ∧ c ≤ 117) → g' c j = g c j
theorem cpf {c j : Nat} (z : ¬ c = 85) : cp17 g 84 85 0 c j = g c j := by unfold cp17; rw [if_neg (fun y => z y.1)]
theorem cp85 {j : Nat} (hj : j < 17) : cp17 g 84 85 0 85 j = g 84 j := by unfold cp17; rw [if_pos ⟨rfl, by omega, hj⟩]
/-- tried beside, and back -/
theorem back {g2 : Hp} (F : FM (cp17 g 84 85 0) g2) : exS g (cp17 g2 85 84 0) := fun c j z1 z2 z3 z4 z5 z6 => by
  unfold cp17
  by_cases w : c = 84
  · subst w
    rw [if_pos ⟨rfl, by omega, by omega⟩, F 85 j (by omega) (by omega) (by omega) (by omega) (by omega)]
    exact cp85 (by omega)
  · rw [if_neg (fun y => w y.1), F c j (by omega) z3 z4 z5 z6]
    exact cpf z2
theorem Inv.exS {g' : Hp} (H : Inv N h) (E : exN7 h g) (X : exS g g') : Inv N g' := by
  have e : ∀ c j, ¬ (c = 84 ∧ 17 ≤ j) → ¬ scr c j → g' c j = h c j := fun c j z1 z2 => by
    unfold scr at z2
    rw [X c j z1 (by omega) (by omega) (by omega) (by omega) (by omega), E c j (by omega) (by omega) (by omega) (by omega)]
  refine H.dn (fun c j z1 z2 => e c j (by omega) z1) (fun t i1 i3 i5 i4 => ⟨fun i hi => ?_, ?_⟩)
  · rw [e 84 i (by omega) (by unfold scr; omega), e 5 i (by omega) (by unfold scr; omega)]
    exact i3 i hi
  · unfold IN
    rw [e 84 14 (by omega) (by unfold scr; omega), e 84 15 (by omega) (by unfold scr; omega), e 84 16 (by omega) (by unfold scr; omega), e 1 5 (by omega) (by unfold scr; omega), e 1 6 (by omega) (by unfold scr; omega), e 1 7 (by omega) (by unfold scr; omega)]
    exact i4
theorem slp (hN : 1000000 ≤ N) {h1 h2 : Hp} {g2 : Hp} (hG : F_X12_goesNight N (cp17 g 84 85 0) = some g2) (E : NE t h2 (cp17 g 84 85 0) g2) : F_X12_sleptBy N g = some (h2 57 10, cp17 g2 85 84 0) := by
  obtain ⟨F, ⟨s1, s2, s3⟩, -⟩ := E
  unfold F_X12_sleptBy
  have e85 : g2 85 15 = g 84 15 := by rw [F 85 15 (by omega) (by omega) (by omega) (by omega) (by omega)]; exact cp85 (by omega)
  have e84 : cp17 g 84 85 0 84 15 = g 84 15 := cpf (by omega)
  rw [s_cp hN, bv_s, hG, bv_s, bnd_s, s_cp_v2 hN, bv_s]
  show some (w32 (g2 84 15 - g2 85 15), _) = _
  unfold eqw at s3
  rw [e85, s3, e84, w32_back ⟨s1, by omega⟩]
end SK
theorem op_strike {N : Nat} (hN : 1000000 ≤ N) : ∀ a1 : Int, inR a1 → Sm (Inv N) (F_X11_strike N a1) (F_X12_strike N a1) := by
  intro m _ h hok hI
  obtain ⟨t, i1, i2, i3, i4, i5, i6, ⟨cc, hcc, hc13, hck⟩, i8, ⟨i9, A, L⟩, i10⟩ := id hI
  unfold F_X11_strike F_X12_strike F_X1_night
  rw [bd_s]
  have t14v : (14 : Int).toNat = 14 := rfl
  by_cases q1 : 9999 ≤ h 1 5
  · refine ⟨-1, h, h, by rw [if_pos q1], ?_, hI⟩
    rw [s_in, bd_s, t14v, i4.1]
    by_cases q2 : 0 ≤ m ∧ m ≤ 600
    · rw [if_pos q2, if_neg (by decide), if_pos (by have := i4.2.2.1; omega)]
    · rw [if_neg q2, if_pos rfl]
  rw [if_neg q1, s_isWithin, bd_s]
  by_cases q2 : 0 ≤ m ∧ m ≤ 600
  rotate_left
  · exact ⟨-1, h, h, by rw [if_neg q2, if_pos rfl], by rw [s_in, bd_s, if_neg q2, if_pos rfl], hI⟩
  rw [if_pos q2, if_neg (by decide)]
  obtain ⟨h1, h2, -, a1, a2, -, a4, -, -⟩ := full (N := N) hN q2 (NR_of (st := m) (g := hw h 83 51 m) i1 i2 i3 i4 ⟨hcc, hc13, hck⟩ i8 L hok (fun c j z1 z2 z3 => hw_ne z2) hw_eq)
  obtain ⟨g3, eg3⟩ : ∃ g3, g3 = hw h2 83 51 m := ⟨_, rfl⟩
  have R2 : NR N A t cc m h (cp17 g3 84 85 0) := NR_of i1 i2 i3 i4 ⟨hcc, hc13, hck⟩ i8 L hok (fun c j z1 z2 z3 => by rw [cpf z3, eg3, hw_ne z2]; exact a4 c j (by omega) (by omega) (by omega) (by omega)) (by rw [cpf (by omega), eg3, hw_eq])
  obtain ⟨h1', h2', g2, b1, b2, b3, b4, b5, b6⟩ := full (N := N) hN q2 R2
  rw [a1] at b1
  obtain rfl : h1 = h1' := by simpa using b1
  rw [a2] at b2
  obtain rfl : h2 = h2' := by simpa using b2
  refine ⟨h2 57 10, h2, hw (cp17 g2 85 84 0) 83 51 0, ?_, ?_, ?_⟩
  · unfold F_X5_slept
    rw [a1, bv_s, a2, bv_s, bd_s]
  · have e14 : h2 84 14 = h 1 5 := by rw [a4 84 14 (by omega) (by omega) (by omega) (by omega)]; exact i4.1
    rw [s_in, bd_s, if_pos q2, if_neg (by decide), t14v, e14, if_neg (by omega), bnd_s, ← eg3, slp hN (h1 := h1) b3 b5, bd_s, bnd_s]
  · have X := back b5.1
    refine hI.exS (g := h2) a4 (fun c j z1 z2 z3 z4 z5 z6 => ?_)
    by_cases w : c = 83 ∧ j = 51
    · obtain ⟨rfl, rfl⟩ := w
      rw [hw_eq, a4 83 51 (by omega) (by omega) (by omega) (by omega)]
      exact i10.symm
    · rw [hw_ne w, X c j z1 z2 z3 z4 z5 z6, eg3, hw_ne w]
theorem op_tried {N : Nat} (hN : 1000000 ≤ N) : ∀ a1 : Int, inR a1 → Sm (Inv N) (F_X11_tried N a1) (F_X12_tried N a1) := by
  intro w rw0 h hok hI
  obtain ⟨t, i1, i2, i3, i4, i5, i6, ⟨cc, hcc, hc13, hck⟩, i8, ⟨i9, A, L⟩, i10⟩ := id hI
  have ht := i1.1
  have rw1 := rw0.1
  have rw2 := rw0.2
  -- what may be asked
  obtain ⟨ok, eok⟩ : ∃ ok : Prop, ok = ((0 ≤ w ∧ w ≤ 5) ∨ ((10 ≤ w ∧ w ≤ 23) ∧ isT t (w - 10)) ∨ ((30 ≤ w ∧ w ≤ 34) ∧ cc.testBit (w - 30).toNat = true) ∨ ((40 ≤ w ∧ w ≤ 44) ∧ cc.testBit (w - 40).toNat = true)) := ⟨_, rfl⟩
  have can : ∃ b, F_X11_canBeTried N w h = some (b, h) ∧ (b = 0 ∨ b = 1) ∧ (b = 1 ↔ ok) := by
    unfold F_X11_canBeTried
    by_cases c1 : 10 ≤ w
    · rw [if_pos c1]
      by_cases c2 : 30 ≤ w
      · rw [if_pos c2]
        by_cases c3 : 40 ≤ w
        · rw [if_pos c3, w32_id ⟨by omega, by omega⟩, s_isToldCart hck, bd_s]
          by_cases z : 0 ≤ w - 40 ∧ w - 40 ≤ 4 ∧ cc.testBit (w - 40).toNat = true
          · rw [if_pos z, grd_t (Or.inr rfl)]
            exact ⟨1, rfl, Or.inr rfl, ⟨fun _ => by rw [eok]; exact Or.inr (Or.inr (Or.inr ⟨⟨by omega, by omega⟩, z.2.2⟩)), fun _ => rfl⟩⟩
          · rw [if_neg z, grd_t (Or.inl rfl)]
            refine ⟨0, rfl, Or.inl rfl, ⟨fun y => absurd y (by decide), fun y => ?_⟩⟩
            rw [eok] at y
            rcases y with y | y | y | y
            · omega
            · omega
            · omega
            · exact absurd ⟨by omega, by omega, y.2⟩ z
        · rw [if_neg c3, w32_id ⟨by omega, by omega⟩, s_isToldCart hck, bd_s]
          by_cases z : 0 ≤ w - 30 ∧ w - 30 ≤ 4 ∧ cc.testBit (w - 30).toNat = true
          · rw [if_pos z, grd_t (Or.inr rfl)]
            exact ⟨1, rfl, Or.inr rfl, ⟨fun _ => by rw [eok]; exact Or.inr (Or.inr (Or.inl ⟨⟨by omega, by omega⟩, z.2.2⟩)), fun _ => rfl⟩⟩
          · rw [if_neg z, grd_t (Or.inl rfl)]
            refine ⟨0, rfl, Or.inl rfl, ⟨fun y => absurd y (by decide), fun y => ?_⟩⟩
            rw [eok] at y
            rcases y with y | y | y | y
            · omega
            · omega
            · exact absurd ⟨by omega, by omega, y.2⟩ z
            · omega
      · rw [if_neg c2, w32_id ⟨by omega, by omega⟩, s_isTold ht i1.2.1, bd_s]
        by_cases z : isT t (w - 10)
        · rw [if_pos z, grd_t (Or.inr rfl)]
          exact ⟨1, rfl, Or.inr rfl, ⟨fun _ => by rw [eok]; exact Or.inr (Or.inl ⟨⟨by omega, by have := z.2.1; omega⟩, z⟩), fun _ => rfl⟩⟩
        · rw [if_neg z, grd_t (Or.inl rfl)]
          refine ⟨0, rfl, Or.inl rfl, ⟨fun y => absurd y (by decide), fun y => ?_⟩⟩
          rw [eok] at y
          rcases y with y | y | y | y
          · omega
          · exact absurd y.2 z
          · omega
          · omega
    · rw [if_neg c1, s_isWithin, bd_s]
      by_cases z : 0 ≤ w ∧ w ≤ 5
      · rw [if_pos z, grd_t (Or.inr rfl)]
        exact ⟨1, rfl, Or.inr rfl, ⟨fun _ => by rw [eok]; exact Or.inl z, fun _ => rfl⟩⟩
      · rw [if_neg z, grd_t (Or.inl rfl)]
        refine ⟨0, rfl, Or.inl rfl, ⟨fun y => absurd y (by decide), fun y => ?_⟩⟩
        rw [eok] at y
        rcases y with y | y | y | y
        · exact absurd y z
        · omega
        · omega
        · omega
  have ref : ∀ g : Hp, (∀ j, (j = 12 ∨ j = 13) → g 83 j = h 83 j) → (ok → F_X12_tried N w g = J_X12_tried_80 N w 1 g) ∧ (¬ ok → F_X12_tried N w g = some (-1, g)) := fun g G => by
    have e12 : g 83 12 = (t : Int) := by rw [G 12 (by omega)]; exact i1.2.2
    have e13 : g 83 13 = (cc : Int) := by rw [G 13 (by omega)]; exact hc13
    have j0 : J_X12_tried_80 N w 0 g = some (-1, g) := by unfold J_X12_tried_80; rw [if_pos rfl]
    unfold F_X12_tried J_X12_tried_31 J_X12_tried_53
    rw [s_in, bd_s]
    by_cases c1 : 0 ≤ w ∧ w ≤ 5
    · rw [if_pos c1, if_neg (by decide)]
      exact ⟨fun _ => rfl, fun y => absurd (by rw [eok]; exact Or.inl c1) y⟩
    · rw [if_neg c1, if_pos rfl, s_in, bd_s]
      by_cases c2 : 10 ≤ w ∧ w ≤ 23
      · rw [if_pos c2, if_neg (by decide), w32_id (x := w - 10) ⟨by omega, by omega⟩, s_isStreet ht e12, bd_s]
        by_cases z : isT t (w - 10)
        · rw [if_pos z, if_neg (by decide)]
          exact ⟨fun _ => rfl, fun y => absurd (by rw [eok]; exact Or.inr (Or.inl ⟨c2, z⟩)) y⟩
        · rw [if_neg z, if_pos rfl, s_in, bd_s, if_neg (show ¬ (30 ≤ w ∧ w ≤ 34) by omega), if_pos rfl, s_in, bd_s, if_neg (show ¬ (40 ≤ w ∧ w ≤ 44) by omega), if_pos rfl, j0]
          refine ⟨fun y => ?_, fun _ => rfl⟩
          rw [eok] at y
          rcases y with y | y | y | y
          · omega
          · exact absurd y.2 z
          · omega
          · omega
      · rw [if_neg c2, if_pos rfl, s_in, bd_s]
        by_cases c3 : 30 ≤ w ∧ w ≤ 34
        · rw [if_pos c3, if_neg (by decide), w32_id (x := w - 30) ⟨by omega, by omega⟩, s_isCart hcc e13, bd_s]
          by_cases z : cc.testBit (w - 30).toNat = true
          · rw [if_pos (show 0 ≤ w - 30 ∧ w - 30 ≤ 4 ∧ cc.testBit (w - 30).toNat = true from ⟨by omega, by omega, z⟩), if_neg (by decide)]
            exact ⟨fun _ => rfl, fun y => absurd (by rw [eok]; exact Or.inr (Or.inr (Or.inl ⟨c3, z⟩))) y⟩
          · rw [if_neg (show ¬ (0 ≤ w - 30 ∧ w - 30 ≤ 4 ∧ cc.testBit (w - 30).toNat = true) from fun y => z y.2.2), if_pos rfl, s_in, bd_s, if_neg (show ¬ (40 ≤ w ∧ w ≤ 44) by omega), if_pos rfl, j0]
            refine ⟨fun y => ?_, fun _ => rfl⟩
            rw [eok] at y
            rcases y with y | y | y | y
            · omega
            · omega
            · exact absurd y.2 z
            · omega
        · rw [if_neg c3, if_pos rfl, s_in, bd_s]
          by_cases c4 : 40 ≤ w ∧ w ≤ 44
          · rw [if_pos c4, if_neg (by decide), w32_id (x := w - 40) ⟨by omega, by omega⟩, s_isCart hcc e13, bd_s]
            by_cases z : cc.testBit (w - 40).toNat = true
            · rw [if_pos (show 0 ≤ w - 40 ∧ w - 40 ≤ 4 ∧ cc.testBit (w - 40).toNat = true from ⟨by omega, by omega, z⟩), if_neg (by decide)]
              exact ⟨fun _ => rfl, fun y => absurd (by rw [eok]; exact Or.inr (Or.inr (Or.inr ⟨c4, z⟩))) y⟩
            · rw [if_neg (show ¬ (0 ≤ w - 40 ∧ w - 40 ≤ 4 ∧ cc.testBit (w - 40).toNat = true) from fun y => z y.2.2), if_pos rfl, j0]
              refine ⟨fun y => ?_, fun _ => rfl⟩
              rw [eok] at y
              rcases y with y | y | y | y
              · omega
              · omega
              · omega
              · exact absurd y.2 z
          · rw [if_neg c4, if_pos rfl, j0]
            refine ⟨fun y => ?_, fun _ => rfl⟩
            rw [eok] at y
            rcases y with y | y | y | y
            · exact absurd y c1
            · exact absurd y.1 c2
            · exact absurd y.1 c3
            · exact absurd y.1 c4
  obtain ⟨b, ca1, ca2, ca3⟩ := can
  unfold F_X11_tried F_X1_night
  rw [bd_s, ca1, bd_s]
  have t14v : (14 : Int).toNat = 14 := rfl
  have t15v : (15 : Int).toNat = 15 := rfl
  by_cases q1 : 9999 ≤ h 1 5
  · refine ⟨-1, h, h, by rw [if_pos q1], ?_, hI⟩
    by_cases q2 : ok
    · rw [(ref h (fun _ _ => rfl)).1 q2]
      unfold J_X12_tried_80
      rw [if_neg (by decide), t14v, i4.1, if_pos (by have := i4.2.2.1; omega)]
    · exact (ref h (fun _ _ => rfl)).2 q2
  rw [if_neg q1]
  by_cases q2 : ok
  rotate_left
  · refine ⟨-1, h, h, ?_, (ref h (fun _ _ => rfl)).2 q2, hI⟩
    rcases ca2 with rfl | rfl
    · rw [if_pos rfl]
    · exact absurd (ca3.mp rfl) q2
  rw [ca3.mpr q2, if_neg (by decide)]
  obtain ⟨h1, h2, -, a1, a2, -, a4, -, -⟩ := full (N := N) (st := 0) hN ⟨by omega, by omega⟩ (NR_of (st := 0) (g := h) i1 i2 i3 i4 ⟨hcc, hc13, hck⟩ i8 L hok (fun c j z1 z2 z3 => rfl) i10)
  have R2 : NR N A t cc 0 h (cp17 h2 84 85 0) := NR_of i1 i2 i3 i4 ⟨hcc, hc13, hck⟩ i8 L hok (fun c j z1 z2 z3 => by rw [cpf z3]; exact a4 c j (by omega) (by omega) (by omega) (by omega)) (by rw [cpf (by omega), a4 83 51 (by omega) (by omega) (by omega) (by omega)]; exact i10)
  obtain ⟨h1', h2', g2, b1, b2, b3, b4, b5, b6⟩ := full (N := N) (st := 0) hN ⟨by omega, by omega⟩ R2
  rw [a1] at b1
  obtain rfl : h1 = h1' := by simpa using b1
  rw [a2] at b2
  obtain rfl : h2 = h2' := by simpa using b2
  have X := back b5.1
  have inv : Inv N (cp17 g2 85 84 0) := hI.exS (g := h2) a4 X
  have e14 : h2 84 14 = h 1 5 := by rw [a4 84 14 (by omega) (by omega) (by omega) (by omega)]; exact i4.1
  obtain ⟨F, ⟨s1, s2, s3⟩, s4, s5, s6, s7, s8, s9⟩ := id b5
  have j262 : ∀ v, J_X12_tried_262 N v g2 = some (v, cp17 g2 85 84 0) := fun v => by unfold J_X12_tried_262; rw [s_cp_v2 hN, bv_s]
  have j80 : J_X12_tried_80 N w 1 h2 = (if w = 0 then bnd ((w32 ((g2 84 15) - (g2 85 15)))) fun y3 => J_X12_tried_262 N y3 g2 else if w = 1 then bd (F_X12_yardsAll N g2) fun y5 h4 => J_X12_tried_262 N y5 h4 else if w = 2 then bnd ((g2 83 47)) fun y6 => J_X12_tried_262 N y6 g2 else if w = 3 then bnd ((g2 83 48)) fun y7 => J_X12_tried_262 N y7 g2 else if w = 4 then bnd ((g2 83 49)) fun y8 => J_X12_tried_262 N y8 g2 else if w = 5 then bnd ((g2 83 50)) fun y9 => J_X12_tried_262 N y9 g2 else if 30 ≤ w then if 40 ≤ w then bd (F_X12_lastOf N (w32 (w - 40)) g2) fun y11 h10 => J_X12_tried_262 N y11 h10 else grd (0 ≤ (w32 (w - 30)) ∧ (w32 (w - 30)) < 5) <| bnd ((g2 114 (w32 (w - 30)).toNat)) fun y12 => J_X12_tried_262 N y12 g2 else grd (0 ≤ (w32 ((w32 (0 + w)) - 10)) ∧ (w32 ((w32 (0 + w)) - 10)) < 17) <| bnd ((g2 84 (w32 ((w32 (0 + w)) - 10)).toNat)) fun y13 => J_X12_tried_262 N y13 g2) := by
    unfold J_X12_tried_80
    rw [if_neg (by decide), t14v, e14, if_neg (by have := i4.2.2.1; omega), s_cp hN, bv_s, b3, bv_s]
    rfl
  have rX : F_X12_tried N w h2 = J_X12_tried_80 N w 1 h2 := (ref h2 (fun j hj => a4 83 j (by omega) (by omega) (by omega) (by omega))).1 q2
  have e12' : g2 83 12 = (t : Int) := by rw [F 83 12 (by omega) (by omega) (by omega) (by omega) (by omega), cpf (by omega), a4 83 12 (by omega) (by omega) (by omega) (by omega)]; exact i1.2.2
  have cl : (bv (F_X11_sendCarts N 0 h) fun h5 => bv (F_X5_goThrough N h5) fun h6 => if 10 ≤ w then if 30 ≤ w then if 40 ≤ w then bd (F_X5_lastMinuteOf N (w32 (w - 40)) h6) fun y8 h7 => some (y8, h7) else bd (F_X5_loadOf N (w32 (w - 30)) h6) fun y10 h9 => some (y10, h9) else bd (F_X5_depthOf N (w32 (w - 10)) h6) fun y12 h11 => some (y12, h11) else bd (F_X5_total N w h6) fun y14 h13 => some (y14, h13)) = (if 10 ≤ w then if 30 ≤ w then if 40 ≤ w then bd (F_X5_lastMinuteOf N (w32 (w - 40)) h2) fun y8 h7 => some (y8, h7) else bd (F_X5_loadOf N (w32 (w - 30)) h2) fun y10 h9 => some (y10, h9) else bd (F_X5_depthOf N (w32 (w - 10)) h2) fun y12 h11 => some (y12, h11) else bd (F_X5_total N w h2) fun y14 h13 => some (y14, h13)) := by rw [a1, bv_s, a2, bv_s]
  have fin : ∀ v : Int, (bv (F_X11_sendCarts N 0 h) fun h5 => bv (F_X5_goThrough N h5) fun h6 => if 10 ≤ w then if 30 ≤ w then if 40 ≤ w then bd (F_X5_lastMinuteOf N (w32 (w - 40)) h6) fun y8 h7 => some (y8, h7) else bd (F_X5_loadOf N (w32 (w - 30)) h6) fun y10 h9 => some (y10, h9) else bd (F_X5_depthOf N (w32 (w - 10)) h6) fun y12 h11 => some (y12, h11) else bd (F_X5_total N w h6) fun y14 h13 => some (y14, h13)) = some (v, h2) → F_X12_tried N w h2 = some (v, cp17 g2 85 84 0) → ∃ (r : Int) (h1 h2 : Hp), (bv (F_X11_sendCarts N 0 h) fun h5 => bv (F_X5_goThrough N h5) fun h6 => if 10 ≤ w then if 30 ≤ w then if 40 ≤ w then bd (F_X5_lastMinuteOf N (w32 (w - 40)) h6) fun y8 h7 => some (y8, h7) else bd (F_X5_loadOf N (w32 (w - 30)) h6) fun y10 h9 => some (y10, h9) else bd (F_X5_depthOf N (w32 (w - 10)) h6) fun y12 h11 => some (y12, h11) else bd (F_X5_total N w h6) fun y14 h13 => some (y14, h13)) = some (r, h1) ∧ F_X12_tried N w h1 = some (r, h2) ∧ Inv N h2 := fun v x1 x2 => ⟨v, h2, _, x1, x2, inv⟩
  rw [eok] at q2
  rcases q2 with q2 | ⟨q2, q3⟩ | ⟨q2, q3⟩ | ⟨q2, q3⟩
  · unfold F_X5_total at cl fin
    rw [if_neg (show ¬ (10 : Int) ≤ w by omega)] at cl
    rcases (show w = 0 ∨ w = 1 ∨ w = 2 ∨ w = 3 ∨ w = 4 ∨ w = 5 by omega) with rfl | rfl | rfl | rfl | rfl | rfl
    · refine fin (h2 57 10) (by rw [cl, if_pos rfl, bd_s]) ?_
      have e85 : g2 85 15 = h2 84 15 := by rw [F 85 15 (by omega) (by omega) (by omega) (by omega) (by omega)]; exact cp85 (by omega)
      have e84 : cp17 h2 84 85 0 84 15 = h2 84 15 := cpf (by omega)
      unfold eqw at s3
      rw [rX, j80, if_pos rfl, bnd_s, j262, e85, s3, e84, w32_back ⟨s1, by omega⟩]
    · refine fin (h2 57 11) (by rw [cl, if_neg (by decide), if_pos rfl, bd_s]) ?_
      have ya : F_X12_yardsAll N g2 = some (sm (g2 84) 14, g2) := l_yards (N := N) g2 ht e12' (fun k hk => by
        have := s5 k hk
        rw [this.1]
        exact ⟨this.2.1, this.2.2.1, fun z => this.2.2.2 (by rw [z]; decide)⟩) N 0 (by omega) (by omega)
      rw [rX, j80, if_neg (by decide), if_pos rfl, ya, bd_s, j262, s4, sm_c (f := g2 84) (g := h2 58) (fun j hj => (s5 j hj).1)]
    · exact fin (h2 57 12) (by rw [cl, if_neg (by decide), if_neg (by decide), if_pos rfl, bd_s]) (by rw [rX, j80, if_neg (by decide), if_neg (by decide), if_pos rfl, bnd_s, j262, s6])
    · exact fin (h2 57 13) (by rw [cl, if_neg (by decide), if_neg (by decide), if_neg (by decide), if_pos rfl, bd_s]) (by rw [rX, j80, if_neg (by decide), if_neg (by decide), if_neg (by decide), if_pos rfl, bnd_s, j262, s7])
    · exact fin (h2 57 14) (by rw [cl, if_neg (by decide), if_neg (by decide), if_neg (by decide), if_neg (by decide), if_pos rfl, bd_s]) (by rw [rX, j80, if_neg (by decide), if_neg (by decide), if_neg (by decide), if_neg (by decide), if_pos rfl, bnd_s, j262, s8])
    · exact fin (h2 57 15) (by rw [cl, if_neg (by decide), if_neg (by decide), if_neg (by decide), if_neg (by decide), if_neg (by decide), if_pos rfl, bd_s]) (by rw [rX, j80, if_neg (by decide), if_neg (by decide), if_neg (by decide), if_neg (by decide), if_neg (by decide), if_pos rfl, bnd_s, j262, s9])
  · obtain ⟨i, rfl⟩ : ∃ i : Nat, w = ((i + 10 : Nat) : Int) := ⟨(w - 10).toNat, by omega⟩
    have i14 : i < 14 := by have := q3.2.1; omega
    refine fin (h2 58 i) ?_ ?_
    · rw [cl, if_pos (by omega), if_neg (by omega), w32_id ⟨by omega, by omega⟩, show ((i + 10 : Nat) : Int) - 10 = (i : Int) by omega, s_d58 i14, bd_s]
    · rw [rX, j80, if_neg (by omega), if_neg (by omega), if_neg (by omega), if_neg (by omega), if_neg (by omega), if_neg (by omega), if_neg (by omega), w14 ⟨by omega, by omega⟩, w32_id ⟨by omega, by omega⟩, show ((i + 10 : Nat) : Int) - 10 = (i : Int) by omega, grd_t ⟨by omega, by omega⟩, bnd_s, j262, Int.toNat_natCast, (s5 i i14).1]
  · obtain ⟨k, rfl⟩ : ∃ i : Nat, w = ((i + 30 : Nat) : Int) := ⟨(w - 30).toNat, by omega⟩
    have k5 : k < 5 := by omega
    rw [show (((k + 30 : Nat) : Int) - 30).toNat = k by omega] at q3
    have las := b6 k k5 q3
    refine fin (h2 63 k) ?_ ?_
    · rw [cl, if_pos (by omega), if_pos (by omega), if_neg (by omega), w32_id ⟨by omega, by omega⟩, show ((k + 30 : Nat) : Int) - 30 = (k : Int) by omega]
      unfold F_X5_loadOf
      rw [s_isWithin, bd_s, if_pos (show 0 ≤ (k : Int) ∧ (k : Int) ≤ 4 from ⟨by omega, by omega⟩), if_neg (by decide), grd_t ⟨by omega, by omega⟩, bd_s, Int.toNat_natCast]
    · rw [rX, j80, if_neg (by omega), if_neg (by omega), if_neg (by omega), if_neg (by omega), if_neg (by omega), if_neg (by omega), if_pos (by omega), if_neg (by omega), w32_id ⟨by omega, by omega⟩, show ((k + 30 : Nat) : Int) - 30 = (k : Int) by omega, grd_t ⟨by omega, by omega⟩, bnd_s, j262, Int.toNat_natCast, las.1]
  · obtain ⟨k, rfl⟩ : ∃ i : Nat, w = ((i + 40 : Nat) : Int) := ⟨(w - 40).toNat, by omega⟩
    have k5 : k < 5 := by omega
    rw [show (((k + 40 : Nat) : Int) - 40).toNat = k by omega] at q3
    have las := (b6 k k5 q3).2
    have g5 : 0 ≤ (k : Int) ∧ (k : Int) < 5 := ⟨by omega, by omega⟩
    obtain ⟨v, xv, mv⟩ : ∃ v, F_X5_lastMinuteOf N (k : Int) h2 = some (v, h2) ∧ F_X12_lastOf N (k : Int) g2 = some (v, g2) := by
      unfold F_X5_lastMinuteOf F_X12_lastOf
      rw [s_isWithin, bd_s, if_pos (show 0 ≤ (k : Int) ∧ (k : Int) ≤ 4 from ⟨by omega, by omega⟩), if_neg (by decide)]
      simp only [grd_t g5, Int.toNat_natCast]
      rcases las with ⟨y1, y2, y3 | y3⟩ | y
      · rw [if_pos y1, y3.1, y3.2, if_pos (by decide)]
        exact ⟨-2, rfl, rfl⟩
      · rw [if_pos y1, if_neg (by omega), if_pos y2, y3.1]
        exact ⟨_, rfl, rfl⟩
      · rw [if_neg (by omega), if_pos y.2]
        exact ⟨-2, rfl, rfl⟩
    refine fin v ?_ ?_
    · rw [cl, if_pos (by omega), if_pos (by omega), if_pos (by omega), w32_id ⟨by omega, by omega⟩, show ((k + 40 : Nat) : Int) - 40 = (k : Int) by omega, xv, bd_s]
    · rw [rX, j80, if_neg (by omega), if_neg (by omega), if_neg (by omega), if_neg (by omega), if_neg (by omega), if_neg (by omega), if_pos (by omega), if_pos (by omega), w32_id ⟨by omega, by omega⟩, show ((k + 40 : Nat) : Int) - 40 = (k : Int) by omega, mv, bd_s, j262]
