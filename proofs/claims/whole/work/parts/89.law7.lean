/-! THE LAW: READING SUMS -/
abbrev opP (o : Int) : Prop := o = 42 ∨ o = 47 ∨ o = 37
abbrev opS (o : Int) : Prop := o = 43 ∨ o = 45
def RF (N m q : Nat) (x1 : Int) (g : Hp) : Option (Int × Hp) := bd (L_X12_readsFactor_0 N m g) fun y h => if y = 0 then some (0, h) else L_X12_readsSum_14 N q x1 h
def BadO (b : Nat → Int) (L n : Nat) (h h' g : Hp) (res : Option (Int × Hp)) : Prop := ∃ f g', f ≠ 0 ∧ FS b L n f h h' ∧ res = some (0, g') ∧ g' 83 18 = f ∧ exQ 0 0 g g'
/-- a product sign may still wait -/
def PP (b : Nat → Int) (L n x2 d a c p H : Nat) (h g : Hp) : Prop := (RSt b L n p c H x2 g ∧ SuC (PG h g) (d + 1) a c) ∨ ∃ o m e, c = e + 1 ∧ opP o ∧ RSt b L n p e (H + 1) x2 g ∧ g 98 H = 1048576 * rop o ∧ SuC (PG h g) (d + 1) a m ∧ SuC (PG h g) d m e ∧ h 49 e = o ∧ h 50 e = 0
def SuP (b : Nat → Int) (L n x2 d a c p H : Nat) (h g : Hp) : Prop := PP b L n x2 d a c p H h g ∨ ∃ o m e, c = e + 1 ∧ opS o ∧ g 98 H = 1048576 * rop o ∧ SuC (PG h g) (d + 2) a m ∧ PP b L n x2 d m e p (H + 1) h g ∧ h 49 e = o ∧ h 50 e = 0
section LS
variable {b : Nat → Int} {N L n p len ht op x2 d a c H : Nat} {f : Int} {h g : Hp}
theorem PG.ag {h' g' : Hp} {x y : Nat} (H : SuC (PG h g) d x y) (e1 : ∀ j, j < y → h' 49 j = h 49 j ∧ h' 50 j = h 50 j) (e2 : ∀ j, j < y → g' 97 j = g 97 j) : SuC (PG h' g') d x y := H.ag (fun j z1 z2 o v z => ⟨by rw [(e1 j z2).1]; exact z.1, by rw [(e1 j z2).2]; exact z.2.1, by rw [e2 j z2]; exact z.2.2⟩)
theorem tp_s {x : Nat} {r : Int} (hr : 0 ≤ r ∧ r ≤ 20) {v : Int} (hv : 0 ≤ v ∧ v < 1048576) (e : g 98 x = 1048576 * r + v) : tp g (x + 1) = r := by
  unfold tp
  rw [if_neg (by omega), show x + 1 - 1 = x by omega, e, (cod hr hv).1]
theorem tp_q {g' : Hp} {x s a : Nat} (E : exQ a s g g') (hs : x ≤ s) : tp g' x = tp g x := by
  unfold tp
  by_cases z : x = 0
  · rw [if_pos z, if_pos z]
  · rw [if_neg z, if_neg z, E 98 (x - 1) (by omega) (by omega) (by omega)]
theorem cl_37 (R : RSt b L n p len (H + 1) op g) (hl : len < 250) (hH : H < 250) (ht2 : 0 ≤ tp g (H + 1) ∧ tp g (H + 1) ≤ 20) {x : Int} {k : Nat} : ∃ g', J_X12_closesSums_37 N (L_X12_closesSums_0 N k) x g = L_X12_closesSums_0 N k x g' ∧ RSt b L n p (len + 1) H op g' ∧ g' 97 len = 1048576 * tp g (H + 1) ∧ (∀ c j, ¬ (c = 83 ∧ (j = 21 ∨ j = 22)) → ¬ (c = 97 ∧ j = len) → g' c j = g c j) := by
  have w : w32 (((H + 1 : Nat) : Int) - 1) = (H : Int) := by rw [w32_id ⟨by omega, by omega⟩]; omega
  unfold J_X12_closesSums_37
  rw [m_top R.2.2.1 (by omega), bd_s, m_notes ht2 ⟨by omega, by omega⟩ R.2.1 (by omega), bv_s, bnd_s, hw_ne (by omega), hw_ne (by omega), R.2.2.1, w, Int.add_zero]
  exact ⟨_, rfl, ((R.wc (by omega) (by omega)).sl (len + 1)).sh H, by rw [hw_ne (by omega), hw_ne (by omega), hw_eq], fun c j z1 z2 => by rw [hw_ne (by omega), hw_ne (by omega), hw_ne (by omega)]⟩
theorem cl_pp (hc : c ≤ 240) (hH : H ≤ 240) (Q : PP b L n x2 d a c p H h g) : ∃ g' e, e ≤ 1 ∧ (∀ (k : Nat) (x : Int), L_X12_closesSums_0 N (k + e) x g = L_X12_closesSums_0 N k x g') ∧ RSt b L n p c H x2 g' ∧ SuC (PG h g') (d + 1) a c ∧ exQ a H g g' := by
  rcases Q with ⟨R, S⟩ | ⟨o, m, e, rfl, ho, R, e98, s1, s2, e49, e50⟩
  · exact ⟨g, 0, by omega, fun _ _ => rfl, R, S, fun _ _ _ _ _ => rfl⟩
  · have ro : 4 ≤ rop o ∧ rop o ≤ 6 := by rcases ho with rfl | rfl | rfl <;> decide
    have t : tp g (H + 1) = rop o := tp_s ⟨by omega, by omega⟩ (v := 0) ⟨by omega, by omega⟩ (by rw [e98, Int.add_zero])
    obtain ⟨g', -, a2, a3, a4⟩ := cl_37 (N := N) (k := 0) (x := 0) R (by omega) (by omega) (by rw [t]; omega)
    have am := s1.lt
    have me := s2.lt
    refine ⟨g', 1, by omega, fun k x => ?_, a2, ?_, fun c j z1 z2 z3 => a4 c j (by omega) (by omega)⟩
    · obtain ⟨g2, b1, b2, b3, b4⟩ := cl_37 (N := N) (k := k) (x := x) R (by omega) (by omega) (by rw [t]; omega)
      have : g2 = g' := funext fun c => funext fun j => by
        by_cases y1 : c = 83 ∧ j = 21
        · rw [y1.1, y1.2, b2.2.1, a2.2.1]
        by_cases y2 : c = 83 ∧ j = 22
        · rw [y2.1, y2.2, b2.2.2.1, a2.2.2.1]
        by_cases y3 : c = 97 ∧ j = e
        · rw [y3.1, y3.2, b3, a3]
        rw [b4 c j (by omega) y3, a4 c j (by omega) y3]
      rw [this] at b1
      conv => lhs; unfold L_X12_closesSums_0
      rw [m_top R.2.2.1 (by omega), bd_s, t, if_neg (by omega), m_top R.2.2.1 (by omega), bd_s, t, if_pos (by omega)]
      exact b1
    · exact SuC.bin (PG.ag s1 (fun _ _ => ⟨rfl, rfl⟩) (fun j hj => a4 97 j (by omega) (by omega))) (PG.ag s2 (fun _ _ => ⟨rfl, rfl⟩) (fun j hj => a4 97 j (by omega) (by omega))) (by rcases ho with rfl | rfl | rfl <;> decide) ⟨e49, e50, by rw [a3, t, Int.add_zero]⟩
theorem cl_bar {k : Nat} {x : Int} (e22 : g 83 22 = (ht : Int)) (hh : ht ≤ 260) (hb : ¬ (4 ≤ tp g ht ∧ tp g ht ≤ 6)) (hx : x = 0 ∨ ¬ (2 ≤ tp g ht ∧ tp g ht ≤ 6)) : L_X12_closesSums_0 N (k + 1) x g = some g := by
  have t := m_top (N := N) e22 hh
  have j17 : J_X12_closesSums_17 N (L_X12_closesSums_0 N k) x g = some g := by
    unfold J_X12_closesSums_17
    by_cases z : x = 0
    · rw [if_pos z]
    · have hx := hx.resolve_left z
      rw [if_neg z, t, bd_s, if_neg (by omega), t, bd_s, if_neg (by omega)]
  unfold L_X12_closesSums_0
  rw [t, bd_s]
  by_cases z : tp g ht < 4
  · rw [if_pos z, j17]
  · rw [if_neg z, t, bd_s, if_neg (by omega), j17]
theorem cl_0 (hN : 1000000 ≤ N) (hc : c ≤ 240) (hH : H ≤ 240) (Q : PP b L n x2 d a c p H h g) (hb : ¬ (4 ≤ tp g H ∧ tp g H ≤ 6)) : ∃ g', F_X12_closesSums N 0 g = some g' ∧ RSt b L n p c H x2 g' ∧ SuC (PG h g') (d + 1) a c ∧ exQ a H g g' := by
  obtain ⟨g', e, e1, l, R, S, E⟩ := cl_pp (N := N) hc hH Q
  obtain ⟨k, ek⟩ : ∃ k, N = (k + 1) + e := ⟨N - 1 - e, by omega⟩
  refine ⟨g', ?_, R, S, E⟩
  have e2 : L_X12_closesSums_0 N N 0 g = L_X12_closesSums_0 N (k + 1 + e) 0 g := by rw [← ek]
  unfold F_X12_closesSums
  rw [e2, l, cl_bar R.2.2.1 (by omega) (by rw [tp_q E (Nat.le_refl _)]; exact hb) (Or.inl rfl)]
theorem cl_1 (hN : 1000000 ≤ N) (hc : c ≤ 240) (hH : H + 1 ≤ 240) (Q : SuP b L n x2 d a c p H h g) (hb : ¬ (2 ≤ tp g H ∧ tp g H ≤ 6)) : ∃ g', F_X12_closesSums N 1 g = some g' ∧ RSt b L n p c H x2 g' ∧ SuC (PG h g') (d + 2) a c ∧ exQ a H g g' := by
  unfold F_X12_closesSums
  rcases Q with Q | ⟨o, m, e, rfl, ho, e98, s1, Q, e49, e50⟩
  · obtain ⟨g', e, e1, l, R, S, E⟩ := cl_pp (N := N) hc (by omega) Q
    obtain ⟨k, ek⟩ : ∃ k, N = (k + 1) + e := ⟨N - 1 - e, by omega⟩
    refine ⟨g', ?_, R, S.up _ (by omega), E⟩
    have e2 : L_X12_closesSums_0 N N 1 g = L_X12_closesSums_0 N (k + 1 + e) 1 g := by rw [← ek]
    have tt := tp_q E (Nat.le_refl H)
    rw [e2, l, cl_bar R.2.2.1 (by omega) (by rw [tt]; omega) (Or.inr (by rw [tt]; exact hb))]
  · obtain ⟨g1, e', e1, l, R, S, E⟩ := cl_pp (N := N) (by omega) hH Q
    obtain ⟨k, ek⟩ : ∃ k, N = (k + 1 + 1) + e' := ⟨N - 2 - e', by omega⟩
    have ro : 2 ≤ rop o ∧ rop o ≤ 3 := by rcases ho with rfl | rfl <;> decide
    have am := s1.lt
    have me := S.lt
    have t : tp g1 (H + 1) = rop o := tp_s ⟨by omega, by omega⟩ (v := 0) ⟨by omega, by omega⟩ (by rw [E 98 H (by omega) (by omega) (by omega), e98, Int.add_zero])
    obtain ⟨g', a1, a2, a3, a4⟩ := cl_37 (N := N) (k := k + 1) (x := 1) R (by omega) (by omega) (by rw [t]; omega)
    have E2 : exQ a H g g' := fun c j z1 z2 z3 => by rw [a4 c j (by omega) (by omega), E c j z1 (by omega) (by omega)]
    refine ⟨g', ?_, a2, ?_, E2⟩
    · have e2 : L_X12_closesSums_0 N N 1 g = L_X12_closesSums_0 N (k + 1 + 1 + e') 1 g := by rw [← ek]
      have tt := tp_q E2 (Nat.le_refl H)
      rw [e2, l]
      have T := m_top (N := N) R.2.2.1 (by omega)
      conv => lhs; unfold L_X12_closesSums_0
      unfold J_X12_closesSums_17
      rw [T, bd_s, t, if_pos (by omega), if_neg (by decide), T, bd_s, t]
      have fin : L_X12_closesSums_0 N (k + 1) 1 g' = some g' := cl_bar a2.2.2.1 (by omega) (by rw [tt]; omega) (Or.inr (by rw [tt]; exact hb))
      by_cases z : rop o = 2
      · rw [if_pos z, a1, fin]
      · rw [if_neg z, T, bd_s, t, if_pos (by omega), a1, fin]
    · exact SuC.bin (d := d + 1) (PG.ag s1 (fun _ _ => ⟨rfl, rfl⟩) (fun j hj => by rw [a4 97 j (by omega) (by omega), E 97 j (by omega) (by omega) (by omega)])) (PG.ag S (fun _ _ => ⟨rfl, rfl⟩) (fun j hj => a4 97 j (by omega) (by omega))) (by rcases ho with rfl | rfl <;> decide) ⟨e49, e50, by rw [a3, t, Int.add_zero]⟩
theorem has14 {hh k0 : Nat} (e22 : g 83 22 = (hh : Int)) (h1 : hh ≤ 260) (h2 : k0 < hh) (e : g 98 k0 = 1048576 * 14) : ∀ (d q j : Nat), j + d = k0 → d < q → L_X12_hasOpenSum_2 N q (j : Int) g = some (1, g)
  | _, 0, _, _, hq => absurd hq (by omega)
  | d, q + 1, j, hd, hq => by
    unfold L_X12_hasOpenSum_2
    rw [e22, if_neg (by omega), grd_t ⟨by omega, by omega⟩, Int.toNat_natCast]
    by_cases z : idiv (g 98 j) 1048576 = 14
    · rw [if_pos z]
    · rw [if_neg z, bnd_s, inc (by omega)]
      by_cases y : j = k0
      · subst y
        rw [e] at z
        exact absurd (by decide) z
      · exact has14 e22 h1 h2 e (d - 1) q (j + 1) (by omega) (by omega)
theorem has0 {hh : Nat} (e22 : g 83 22 = (hh : Int)) (h1 : hh ≤ 260) : ∀ (d q j : Nat), j + d = hh → d < q → (∀ i, j ≤ i → i < hh → idiv (g 98 i) 1048576 ≠ 14) → L_X12_hasOpenSum_2 N q (j : Int) g = some (0, g)
  | _, 0, _, _, hq, _ => absurd hq (by omega)
  | 0, q + 1, j, hd, hq, _ => by
    unfold L_X12_hasOpenSum_2
    rw [e22, if_pos (by omega)]
  | d + 1, q + 1, j, hd, hq, z => by
    unfold L_X12_hasOpenSum_2
    rw [e22, if_neg (by omega), grd_t ⟨by omega, by omega⟩, Int.toNat_natCast, if_neg (z j (by omega) (by omega)), bnd_s, inc (by omega)]
    exact has0 e22 h1 d q (j + 1) (by omega) (by omega) (fun i y1 y2 => z i (by omega) y2)
end LS
