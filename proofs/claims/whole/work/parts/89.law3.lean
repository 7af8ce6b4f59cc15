/-! THE LAW: BOTH RECKONERS COME TO THE SAME -/
def EX (P : Nat → Int → Int → Prop) (r : Option Int) (d a b : Nat) (f : Nat → Int) : Prop := ∀ (N q x2 s : Nat) (h : Hp), b ≤ x2 → x2 ≤ 240 → s + d ≤ 64 → (∀ j o v, a ≤ j → j < b → P j o v → PX h j o v) → VX s f h → ∃ h' q', q ≤ q' ∧ exE s h h' ∧ ((∃ v, r = some v ∧ L_X2_reckon_12 N (q + (b - a) + 1) (x2 : Int) (a : Int) h = L_X2_reckon_12 N (q' + 1) (x2 : Int) (b : Int) h' ∧ VX (s + 1) f h' ∧ h' 19 s = v) ∨ (r = none ∧ L_X2_reckon_12 N (q + (b - a) + 1) (x2 : Int) (a : Int) h = some (0, h')))
def EM (P : Nat → Int → Int → Prop) (r : Option Int) (d a b : Nat) (f : Nat → Int) : Prop := ∀ (N q x2 s : Nat) (g : Hp), b ≤ x2 → x2 ≤ 240 → s + d ≤ 64 → (∀ j o v, a ≤ j → j < b → P j o v → PM g j o v) → VM f g → ∃ g' q', q ≤ q' ∧ exVM s g g' ∧ ((∃ v, r = some v ∧ L_X12_comesTo_16 N (q + (b - a) + 1) (x2 : Int) (s : Int) 0 (a : Int) g = L_X12_comesTo_16 N (q' + 1) (x2 : Int) ((s + 1 : Nat) : Int) 0 (b : Int) g' ∧ g' 108 s = v) ∨ (r = none ∧ L_X12_comesTo_16 N (q + (b - a) + 1) (x2 : Int) (s : Int) 0 (a : Int) g = some (0, g')))
def r2 (o : Int) (r1 r2 : Option Int) : Option Int := r1.bind fun x => r2.bind fun y => ari o x y
section ES
variable {P : Nat → Int → Int → Prop} {d a b m e : Nat} {o : Int} {f : Nat → Int} {ra rb : Option Int}
theorem cx_x {s : Nat} {h h' : Hp} (E : exE s h h') (C : ∀ j o v, a ≤ j → j < b → P j o v → PX h j o v) {a' b' : Nat} (h1 : a ≤ a') (h2 : b' ≤ b) : ∀ j o v, a' ≤ j → j < b' → P j o v → PX h' j o v := fun j o v z1 z2 z3 => by
  have := C j o v (by omega) (by omega) z3
  unfold PX at this ⊢
  rw [E 16 j (by omega) (by omega), E 17 j (by omega) (by omega)]
  exact this
theorem cx_m {s : Nat} {g g' : Hp} (E : exVM s g g') (C : ∀ j o v, a ≤ j → j < b → P j o v → PM g j o v) {a' b' : Nat} (h1 : a ≤ a') (h2 : b' ≤ b) : ∀ j o v, a' ≤ j → j < b' → P j o v → PM g' j o v := fun j o v z1 z2 z3 => by
  have := C j o v (by omega) (by omega) z3
  unfold PM at this ⊢
  rw [E 103 j (by omega)]
  exact this
theorem e_binX {d1 d2 D : Nat} (am : a < m) (me : m < e) (A : EX P ra d1 a m f) (B : EX P rb d2 m e f) (ho : ar o ∨ cm o) (p : P e o 0) (hd1 : d1 ≤ D) (hd2 : d2 + 1 ≤ D) (hD : 2 ≤ D) : EX P (r2 o ra rb) D a (e + 1) f := by
  intro N q x2 s h hx hx2 hs C V
  have eqa : q + (e + 1 - m) + (m - a) + 1 = q + (e + 1 - a) + 1 := by omega
  obtain ⟨h1, q1, k1, E1, R1⟩ := A N (q + (e + 1 - m)) x2 s h (by omega) hx2 (by omega) (fun j o v z1 z2 z3 => C j o v z1 (by omega) z3) V
  rw [eqa] at R1
  rcases R1 with ⟨x, r1, l1, V1, y1⟩ | ⟨r1, l1⟩
  rotate_left
  · exact ⟨h1, q, Nat.le_refl _, E1, Or.inr ⟨by rw [r1]; rfl, l1⟩⟩
  obtain ⟨q2, eq2⟩ : ∃ q2, q1 = q2 + 1 + (e - m) := ⟨q1 - 1 - (e - m), by omega⟩
  obtain ⟨h2, q3, k3, E2, R2⟩ := B N (q2 + 1) x2 (s + 1) h1 (by omega) hx2 (by omega) (cx_x E1 C (by omega) (by omega)) V1
  rw [← eq2] at R2
  have E12 := exE.tr E1 E2 (by omega)
  rcases R2 with ⟨y, r3, l3, V3, y3⟩ | ⟨r3, l3⟩
  rotate_left
  · exact ⟨h2, q, Nat.le_refl _, E12, Or.inr ⟨by rw [r1, r3]; rfl, l1.trans l3⟩⟩
  obtain ⟨q4, eq4⟩ : ∃ q4, q3 = q4 + 1 := ⟨q3 - 1, by omega⟩
  rw [eq4] at l3
  have p2 := cx_x E12 C (a' := e) (b' := e + 1) (by omega) (by omega) e o 0 (by omega) (by omega) p
  obtain ⟨h3, E3, R3⟩ := x_bin (N := N) (s := s) (q := q4) V3 (show e < x2 by omega) hx2 (by omega) ho p2 (x := x) (y := y) (by rw [E2 19 s (by omega) (by omega)]; exact y1) y3
  have E13 := exE.tr E12 E3 (by omega)
  rcases R3 with ⟨w, t1, t2, t3, t4⟩ | ⟨t1, t2⟩
  · exact ⟨h3, q4, by omega, E13, Or.inl ⟨w, by rw [r1, r3]; exact t1, (l1.trans l3).trans t2, t3, t4⟩⟩
  · exact ⟨h3, q, Nat.le_refl _, E13, Or.inr ⟨by rw [r1, r3]; exact t1, (l1.trans l3).trans t2⟩⟩
theorem e_binM {d1 d2 D : Nat} (am : a < m) (me : m < e) (A : EM P ra d1 a m f) (B : EM P rb d2 m e f) (ho : ar o ∨ cm o) (p : P e o 0) (hd1 : d1 ≤ D) (hd2 : d2 + 1 ≤ D) (hD : 2 ≤ D) : EM P (r2 o ra rb) D a (e + 1) f := by
  intro N q x2 s h hx hx2 hs C V
  have eqa : q + (e + 1 - m) + (m - a) + 1 = q + (e + 1 - a) + 1 := by omega
  obtain ⟨h1, q1, k1, E1, R1⟩ := A N (q + (e + 1 - m)) x2 s h (by omega) hx2 (by omega) (fun j o v z1 z2 z3 => C j o v z1 (by omega) z3) V
  rw [eqa] at R1
  rcases R1 with ⟨x, r1, l1, y1⟩ | ⟨r1, l1⟩
  rotate_left
  · exact ⟨h1, q, Nat.le_refl _, E1, Or.inr ⟨by rw [r1]; rfl, l1⟩⟩
  obtain ⟨q2, eq2⟩ : ∃ q2, q1 = q2 + 1 + (e - m) := ⟨q1 - 1 - (e - m), by omega⟩
  obtain ⟨h2, q3, k3, E2, R2⟩ := B N (q2 + 1) x2 (s + 1) h1 (by omega) hx2 (by omega) (cx_m E1 C (by omega) (by omega)) (V.ag (fun c j z => E1 c j (by omega)))
  rw [← eq2] at R2
  have E12 := exVM.tr E1 E2 (by omega)
  rcases R2 with ⟨y, r3, l3, y3⟩ | ⟨r3, l3⟩
  rotate_left
  · exact ⟨h2, q, Nat.le_refl _, E12, Or.inr ⟨by rw [r1, r3]; rfl, l1.trans l3⟩⟩
  obtain ⟨q4, eq4⟩ : ∃ q4, q3 = q4 + 1 := ⟨q3 - 1, by omega⟩
  rw [eq4] at l3
  have p2 := cx_m E12 C (a' := e) (b' := e + 1) (by omega) (by omega) e o 0 (by omega) (by omega) p
  obtain ⟨h3, E3, R3⟩ := m_bin (N := N) (s := s) (q := q4 + 1) (show e < x2 by omega) (by omega) (by omega) ho p2 (x := x) (y := y) (by rw [E2 108 s (by omega)]; exact y1) y3
  have E13 := exVM.tr E12 E3 (by omega)
  rcases R3 with ⟨w, t1, t2, t4⟩ | ⟨t1, t2⟩
  · exact ⟨h3, q4, by omega, E13, Or.inl ⟨w, by rw [r1, r3]; exact t1, (l1.trans l3).trans t2, t4⟩⟩
  · exact ⟨h3, q, Nat.le_refl _, E13, Or.inr ⟨by rw [r1, r3]; exact t1, (l1.trans l3).trans t2⟩⟩
theorem se (H : SuC P d a b) : a < b ∧ 1 ≤ d ∧ ∀ f, ∃ r, EX P r d a b f ∧ EM P r d a b f := H (fun d a b => a < b ∧ 1 ≤ d ∧ ∀ f, ∃ r, EX P r d a b f ∧ EM P r d a b f)
  (fun d a hd hl => ⟨by omega, hd, fun f => by
    have e1 : ∀ q, q + (a + 1 - a) + 1 = (q + 1) + 1 := fun q => by omega
    obtain ⟨v, ⟨v1, v2, v3⟩ | ⟨v1, v2, v3⟩⟩ := hl
    · refine ⟨some v, fun N q x2 s h hx hx2 hs C V => ?_, fun N q x2 s g hx hx2 hs C V => ?_⟩
      · obtain ⟨h', a1, a2, a3, a4⟩ := x_leaf (N := N) (q := q + 1) V (show a < x2 by omega) hx2 (by omega) (r := v) (Or.inl (C a _ _ (by omega) (by omega) v3))
        exact ⟨h', q, Nat.le_refl _, a4, Or.inl ⟨v, rfl, by rw [e1]; exact a1, a2, a3⟩⟩
      · obtain ⟨g', a1, a3, a4⟩ := m_leaf (N := N) (q := q + 1) V (show a < x2 by omega) (by omega) (show s < 64 by omega) (r := v) (Or.inl ⟨C a _ _ (by omega) (by omega) v3, v1, v2⟩)
        exact ⟨g', q, Nat.le_refl _, a4, Or.inl ⟨v, rfl, by rw [e1]; exact a1, a3⟩⟩
    · obtain ⟨k, rfl⟩ : ∃ k : Nat, v = (k : Int) := ⟨v.toNat, by omega⟩
      refine ⟨some (f k), fun N q x2 s h hx hx2 hs C V => ?_, fun N q x2 s g hx hx2 hs C V => ?_⟩
      · obtain ⟨h', a1, a2, a3, a4⟩ := x_leaf (N := N) (q := q + 1) V (show a < x2 by omega) hx2 (by omega) (r := f k) (Or.inr ⟨k, by omega, C a _ _ (by omega) (by omega) v3, rfl⟩)
        exact ⟨h', q, Nat.le_refl _, a4, Or.inl ⟨f k, rfl, by rw [e1]; exact a1, a2, a3⟩⟩
      · obtain ⟨g', a1, a3, a4⟩ := m_leaf (N := N) (q := q + 1) V (show a < x2 by omega) (by omega) (show s < 64 by omega) (r := f k) (Or.inr ⟨k, by omega, C a _ _ (by omega) (by omega) v3, rfl⟩)
        exact ⟨g', q, Nat.le_refl _, a4, Or.inl ⟨f k, rfl, by rw [e1]; exact a1, a3⟩⟩⟩)
  (fun d a m e o h1 h2 ho p => ⟨by omega, by omega, fun f => by
    obtain ⟨r, a1, a2⟩ := h1.2.2 f
    obtain ⟨r', b1, b2⟩ := h2.2.2 f
    exact ⟨r2 o r r', e_binX h1.1 h2.1 a1 b1 (Or.inl ho) p (by omega) (by omega) (by omega), e_binM h1.1 h2.1 a2 b2 (Or.inl ho) p (by omega) (by omega) (by omega)⟩⟩)
theorem ari_01 {x y w : Int} (ho : cm o) (e1 : ari o x y = some w) : w = 0 ∨ w = 1 := by
  rcases ho with rfl | rfl | rfl
  · have e1 : (if y ≤ x then some (0 : Int) else some 1) = some w := e1
    by_cases z : y ≤ x
    · rw [if_pos z] at e1; exact Or.inl (Option.some.inj e1).symm
    · rw [if_neg z] at e1; exact Or.inr (Option.some.inj e1).symm
  · have e1 : (if x ≤ y then some (0 : Int) else some 1) = some w := e1
    by_cases z : x ≤ y
    · rw [if_pos z] at e1; exact Or.inl (Option.some.inj e1).symm
    · rw [if_neg z] at e1; exact Or.inr (Option.some.inj e1).symm
  · have e1 : (if x = y then some (1 : Int) else some 0) = some w := e1
    by_cases z : x = y
    · rw [if_pos z] at e1; exact Or.inr (Option.some.inj e1).symm
    · rw [if_neg z] at e1; exact Or.inl (Option.some.inj e1).symm
def r01 (r : Option Int) : Prop := ∀ v, r = some v → v = 0 ∨ v = 1
def rj (o : Int) (ra rb : Option Int) : Option Int := ra.bind fun y => if y = (if o = 38 then 0 else 1) then some y else rb
theorem e_negX (ae : a < e) (A : EX P ra 16 a e f) (p : P e 33 0) : EX P (ra.map fun y => w32 (1 - y)) 16 a (e + 1) f := by
  intro N q x2 s h hx hx2 hs C V
  have eqa : q + 1 + (e - a) + 1 = q + (e + 1 - a) + 1 := by omega
  obtain ⟨h1, q1, k1, E1, R1⟩ := A N (q + 1) x2 s h (by omega) hx2 (by omega) (fun j o v z1 z2 z3 => C j o v z1 (by omega) z3) V
  rw [eqa] at R1
  rcases R1 with ⟨x, r1, l1, V1, y1⟩ | ⟨r1, l1⟩
  rotate_left
  · exact ⟨h1, q, Nat.le_refl _, E1, Or.inr ⟨by rw [r1]; rfl, l1⟩⟩
  obtain ⟨q4, eq4⟩ : ∃ q4, q1 = q4 + 1 := ⟨q1 - 1, by omega⟩
  rw [eq4] at l1
  obtain ⟨h3, E3, t2, t3, t4⟩ := x_neg (N := N) (s := s) (q := q4 + 1) V1 (show e < x2 by omega) hx2 (by omega) (cx_x E1 C (a' := e) (b' := e + 1) (by omega) (by omega) e 33 0 (by omega) (by omega) p)
  exact ⟨h3, q4, by omega, exE.tr E1 E3 (by omega), Or.inl ⟨w32 (1 - x), by rw [r1]; rfl, l1.trans t2, t3, by rw [t4, y1]⟩⟩
theorem e_negM (ae : a < e) (A : EM P ra 16 a e f) (p : P e 33 0) : EM P (ra.map fun y => w32 (1 - y)) 16 a (e + 1) f := by
  intro N q x2 s h hx hx2 hs C V
  have eqa : q + 1 + (e - a) + 1 = q + (e + 1 - a) + 1 := by omega
  obtain ⟨h1, q1, k1, E1, R1⟩ := A N (q + 1) x2 s h (by omega) hx2 (by omega) (fun j o v z1 z2 z3 => C j o v z1 (by omega) z3) V
  rw [eqa] at R1
  rcases R1 with ⟨x, r1, l1, y1⟩ | ⟨r1, l1⟩
  rotate_left
  · exact ⟨h1, q, Nat.le_refl _, E1, Or.inr ⟨by rw [r1]; rfl, l1⟩⟩
  obtain ⟨q4, eq4⟩ : ∃ q4, q1 = q4 + 1 := ⟨q1 - 1, by omega⟩
  rw [eq4] at l1
  obtain ⟨h3, E3, t2, t4⟩ := m_neg (N := N) (s := s) (q := q4 + 1) (show e < x2 by omega) (by omega) (by omega) (cx_m E1 C (a' := e) (b' := e + 1) (by omega) (by omega) e 33 0 (by omega) (by omega) p)
  exact ⟨h3, q4, by omega, exVM.tr E1 E3 (by omega), Or.inl ⟨w32 (1 - x), by rw [r1]; rfl, l1.trans t2, by rw [t4, y1]⟩⟩
theorem e_jnX (am : a < m) (me : m + 1 < e) (A : EX P ra 16 a m f) (B : EX P rb 16 (m + 1) e f) (ho : o = 38 ∨ o = 124) (p : P m o (e : Int)) (z1 : r01 ra) : EX P (rj o ra rb) 16 a e f := by
  intro N q x2 s h hx hx2 hs C V
  have eqa : q + (e - m) + (m - a) + 1 = q + (e - a) + 1 := by omega
  obtain ⟨h1, q1, k1, E1, R1⟩ := A N (q + (e - m)) x2 s h (by omega) hx2 (by omega) (fun j o v z1 z2 z3 => C j o v z1 (by omega) z3) V
  rw [eqa] at R1
  rcases R1 with ⟨x, r1, l1, V1, y1⟩ | ⟨r1, l1⟩
  rotate_left
  · exact ⟨h1, q, Nat.le_refl _, E1, Or.inr ⟨by rw [r1]; rfl, l1⟩⟩
  obtain ⟨h3, E3, R3⟩ := x_jn (N := N) (s := s) (q := q1) (z := e) V1 (show m < x2 by omega) hx2 (by omega) ho (by omega) (by omega) (cx_x E1 C (a' := m) (b' := e) (by omega) (by omega) m o _ (by omega) (by omega) p) (by rw [y1]; exact z1 x r1)
  have E13 := exE.tr E1 E3 (by omega)
  rw [y1] at R3
  rcases R3 with ⟨t1, t2, t3, t4⟩ | ⟨t1, t2, t3⟩
  · obtain ⟨q4, eq4⟩ : ∃ q4, q1 = q4 + 1 := ⟨q1 - 1, by omega⟩
    refine ⟨h3, q4, by omega, E13, Or.inl ⟨x, by rw [r1]; exact if_pos t1, ?_, t3, t4⟩⟩
    rw [← eq4]
    exact l1.trans t2
  · obtain ⟨q4, eq4⟩ : ∃ q4, q1 = q4 + (e - (m + 1)) + 1 := ⟨q1 - 1 - (e - (m + 1)), by omega⟩
    obtain ⟨h5, q5, k5, E5, R5⟩ := B N q4 x2 s h3 (by omega) hx2 (by omega) (cx_x E13 C (by omega) (by omega)) t3
    rw [← eq4] at R5
    have rr : rj o ra rb = rb := by rw [r1]; exact if_neg t1
    rw [rr]
    refine ⟨h5, q5, by omega, exE.tr E13 E5 (by omega), ?_⟩
    rcases R5 with ⟨y, u1, u2, u3⟩ | ⟨u1, u2⟩
    · exact Or.inl ⟨y, u1, (l1.trans t2).trans u2, u3⟩
    · exact Or.inr ⟨u1, (l1.trans t2).trans u2⟩
theorem e_jnM (am : a < m) (me : m + 1 < e) (A : EM P ra 16 a m f) (B : EM P rb 16 (m + 1) e f) (ho : o = 38 ∨ o = 124) (p : P m o (e : Int)) : EM P (rj o ra rb) 16 a e f := by
  intro N q x2 s h hx hx2 hs C V
  have eqa : q + (e - m) + (m - a) + 1 = q + (e - a) + 1 := by omega
  obtain ⟨h1, q1, k1, E1, R1⟩ := A N (q + (e - m)) x2 s h (by omega) hx2 (by omega) (fun j o v z1 z2 z3 => C j o v z1 (by omega) z3) V
  rw [eqa] at R1
  rcases R1 with ⟨x, r1, l1, y1⟩ | ⟨r1, l1⟩
  rotate_left
  · exact ⟨h1, q, Nat.le_refl _, E1, Or.inr ⟨by rw [r1]; rfl, l1⟩⟩
  have R3 := m_jn (N := N) (s := s) (q := q1) (z := e) (g := h1) (show m < x2 by omega) (by omega) (by omega) ho (by omega) (cx_m E1 C (a' := m) (b' := e) (by omega) (by omega) m o _ (by omega) (by omega) p)
  rw [y1] at R3
  rcases R3 with ⟨t1, t2⟩ | ⟨t1, t2⟩
  · obtain ⟨q4, eq4⟩ : ∃ q4, q1 = q4 + 1 := ⟨q1 - 1, by omega⟩
    refine ⟨h1, q4, by omega, E1, Or.inl ⟨x, by rw [r1]; exact if_pos t1, ?_, y1⟩⟩
    rw [← eq4]
    exact l1.trans t2
  · obtain ⟨q4, eq4⟩ : ∃ q4, q1 = q4 + (e - (m + 1)) + 1 := ⟨q1 - 1 - (e - (m + 1)), by omega⟩
    obtain ⟨h5, q5, k5, E5, R5⟩ := B N q4 x2 s h1 (by omega) hx2 (by omega) (cx_m E1 C (by omega) (by omega)) (V.ag (fun c j z => E1 c j (by omega)))
    rw [← eq4] at R5
    have rr : rj o ra rb = rb := by rw [r1]; exact if_neg t1
    rw [rr]
    refine ⟨h5, q5, by omega, exVM.tr E1 E5 (by omega), ?_⟩
    rcases R5 with ⟨y, u1, u2, u3⟩ | ⟨u1, u2⟩
    · exact Or.inl ⟨y, u1, (l1.trans t2).trans u2, u3⟩
    · exact Or.inr ⟨u1, (l1.trans t2).trans u2⟩
theorem ce (H : CoC P a b) : a < b ∧ ∀ f, ∃ r, r01 r ∧ EX P r 16 a b f ∧ EM P r 16 a b f := H (fun a b => a < b ∧ ∀ f, ∃ r, r01 r ∧ EX P r 16 a b f ∧ EM P r 16 a b f)
  (fun a m e o h1 h2 ho p => ⟨by have := h1.lt; have := h2.lt; omega, fun f => by
    obtain ⟨r, a1, a2⟩ := (se h1).2.2 f
    obtain ⟨r', b1, b2⟩ := (se h2).2.2 f
    refine ⟨r2 o r r', fun v hv => ?_, e_binX h1.lt h2.lt a1 b1 (Or.inr ho) p (by omega) (by omega) (by omega), e_binM h1.lt h2.lt a2 b2 (Or.inr ho) p (by omega) (by omega) (by omega)⟩
    cases hr : r with
    | none => rw [hr] at hv; exact absurd hv (by simp [r2])
    | some x =>
      cases hr' : r' with
      | none => rw [hr, hr'] at hv; exact absurd hv (by simp [r2])
      | some y => rw [hr, hr'] at hv; exact ari_01 ho hv⟩)
  (fun a e h1 p => ⟨by omega, fun f => by
    obtain ⟨r, a0, a1, a2⟩ := h1.2 f
    refine ⟨r.map fun y => w32 (1 - y), fun v hv => ?_, e_negX h1.1 a1 p, e_negM h1.1 a2 p⟩
    cases hr : r with
    | none => rw [hr] at hv; exact absurd hv (by simp)
    | some x =>
      rw [hr] at hv
      have ev : w32 (1 - x) = v := Option.some.inj hv
      rcases a0 x hr with z | z
      · rw [z] at ev; exact Or.inr (ev.symm.trans (by decide))
      · rw [z] at ev; exact Or.inl (ev.symm.trans (by decide))⟩)
  (fun a m e o h1 h2 ho p => ⟨by omega, fun f => by
    obtain ⟨r, a0, a1, a2⟩ := h1.2 f
    obtain ⟨r', b0, b1, b2⟩ := h2.2 f
    refine ⟨rj o r r', fun v hv => ?_, e_jnX h1.1 h2.1 a1 b1 ho p a0, e_jnM h1.1 h2.1 a2 b2 ho p⟩
    cases hr : r with
    | none => rw [hr] at hv; exact absurd hv (by simp [rj])
    | some x =>
      rw [hr] at hv
      have hv : (if x = (if o = 38 then 0 else 1) then some x else r') = some v := hv
      by_cases z : x = (if o = 38 then 0 else 1)
      · rw [if_pos z] at hv; rw [← Option.some.inj hv]; exact a0 x hr
      · rw [if_neg z] at hv; exact b0 v hv⟩)
end ES
