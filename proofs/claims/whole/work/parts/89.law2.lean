/-! THE LAW: THE OTHER RECKONER -/
section EW
variable {N s e : Nat} {f : Nat → Int} {h g : Hp} {o v : Int}
theorem cod {x w : Int} (hx : 0 ≤ x ∧ x ≤ 20) (hw' : 0 ≤ w ∧ w < 1048576) : idiv (1048576 * x + w) 1048576 = x ∧ irem (1048576 * x + w) 1048576 = w := by
  rw [idiv_pos ⟨by omega, by omega⟩ ⟨by omega, by omega⟩, irem_pos ⟨by omega, by omega⟩ ⟨by omega, by omega⟩]
  omega
theorem rop_b : 0 ≤ rop o ∧ rop o ≤ 12 := by
  unfold rop
  repeat' split
  all_goals omega
theorem m_turn {x2 q : Nat} (he : e < x2) (hx : x2 ≤ 250) (hv : 0 ≤ v ∧ v < 1048576) (c : PM g e o v) {r : Int} (er : rop o = r) {x3 : Int} : L_X12_comesTo_16 N (q + 1) (x2 : Int) x3 0 (e : Int) g = (if r = 0 then J_X12_comesTo_63 N (L_X12_comesTo_16 N q) (x2 : Int) x3 0 ((e + 1 : Nat) : Int) r v g else if r = 1 then J_X12_comesTo_63 N (L_X12_comesTo_16 N q) (x2 : Int) x3 0 ((e + 1 : Nat) : Int) r v g else if r = 10 then (grd (0 ≤ (w32 (x3 - 1)) ∧ (w32 (x3 - 1)) < 260) <| grd (0 ≤ (w32 (x3 - 1)) ∧ (w32 (x3 - 1)) < 260) <| bnd (hw g 108 (w32 (x3 - 1)).toNat (w32 (1 - (g 108 (w32 (x3 - 1)).toNat)))) fun h5 => (L_X12_comesTo_16 N q) (x2 : Int) x3 0 ((e + 1 : Nat) : Int) h5) else if r = 11 then J_X12_comesTo_135 N (L_X12_comesTo_16 N q) (x2 : Int) x3 0 ((e + 1 : Nat) : Int) r v g else if r = 12 then J_X12_comesTo_135 N (L_X12_comesTo_16 N q) (x2 : Int) x3 0 ((e + 1 : Nat) : Int) r v g else if r = 5 then J_X12_comesTo_192 N (L_X12_comesTo_16 N q) (x2 : Int) (w32 (x3 - 1)) 0 ((e + 1 : Nat) : Int) r g else if r = 6 then J_X12_comesTo_192 N (L_X12_comesTo_16 N q) (x2 : Int) (w32 (x3 - 1)) 0 ((e + 1 : Nat) : Int) r g else J_X12_comesTo_203 N (L_X12_comesTo_16 N q) (x2 : Int) (w32 (x3 - 1)) 0 ((e + 1 : Nat) : Int) r g) := by
  have rb := rop_b (o := o)
  have cd := cod (x := rop o) (w := v) ⟨rb.1, by omega⟩ hv
  unfold PM at c
  conv => lhs; unfold L_X12_comesTo_16
  rw [if_neg (by omega), grd_t ⟨by omega, by omega⟩, Int.toNat_natCast, c, cd.1, er, bnd_s, grd_t ⟨by omega, by omega⟩, bnd_s, bnd_s, ← er, cd.2, inc (by omega)]
  simp only [bnd_s]
theorem m_leaf (H : VM f g) {x2 q : Nat} (he : e < x2) (hx : x2 ≤ 250) (hs : s < 64) {r : Int} (c : (PM g e 48 r ∧ 0 ≤ r ∧ r ≤ 99999) ∨ ∃ k : Nat, k < 8 ∧ PM g e 97 (k : Int) ∧ r = f k) : ∃ g', L_X12_comesTo_16 N (q + 1) (x2 : Int) (s : Int) 0 (e : Int) g = L_X12_comesTo_16 N q (x2 : Int) ((s + 1 : Nat) : Int) 0 ((e + 1 : Nat) : Int) g' ∧ g' 108 s = r ∧ exVM s g g' := by
  refine ⟨hw g 108 s r, ?_, hw_eq, fun c j z => by rw [hw_ne (by omega)]⟩
  have go : J_X12_comesTo_85 N (L_X12_comesTo_16 N q) (x2 : Int) (s : Int) 0 ((e + 1 : Nat) : Int) (s : Int) r g = L_X12_comesTo_16 N q (x2 : Int) ((s + 1 : Nat) : Int) 0 ((e + 1 : Nat) : Int) (hw g 108 s r) := by
    unfold J_X12_comesTo_85
    rw [grd_t ⟨by omega, by omega⟩, bnd_s, bnd_s, inc (by omega), Int.toNat_natCast]
  rcases c with ⟨c1, c2, c3⟩ | ⟨k, hk, c1, c2⟩
  · rw [m_turn he hx ⟨by omega, by omega⟩ c1 (r := 0) rfl, if_pos rfl]
    unfold J_X12_comesTo_63
    rw [if_pos rfl]
    exact go
  · rw [m_turn he hx ⟨by omega, by omega⟩ c1 (r := 1) rfl, if_neg (by decide), if_pos rfl]
    unfold J_X12_comesTo_63
    rw [if_neg (by decide), grd_t ⟨by omega, by omega⟩, Int.toNat_natCast, H k hk, ← c2]
    exact go
theorem m_reckon {x y : Int} (ho : ar o ∨ cm o) {w : Int} (e1 : ari o x y = some w) : F_X12_reckon N (rop o) x y g = some (w, g) ∧ ((o = 47 ∨ o = 37) → y ≠ 0) := by
  have dv : (o = 47 ∨ o = 37) → y ≠ 0 := fun z1 z2 => by
    unfold ari at e1
    rw [if_neg (by omega), if_neg (by omega), if_neg (by omega), if_neg (by omega), if_neg (by omega), if_neg (by omega), if_pos z2] at e1
    exact absurd e1 (by simp)
  refine ⟨?_, dv⟩
  rcases ho with (rfl | rfl | rfl | rfl | rfl) | (rfl | rfl | rfl)
  · have e1 : some (w32 (x + y)) = some w := e1
    show some (w32 (x + y), g) = _
    rw [Option.some.inj e1]
  · have e1 : some (w32 (x - y)) = some w := e1
    show some (w32 (x - y), g) = _
    rw [Option.some.inj e1]
  · have e1 : some (w32 (x * y)) = some w := e1
    show some (w32 (x * y), g) = _
    rw [Option.some.inj e1]
  · have d := dv (Or.inl rfl)
    have e1 : (if y = 0 then none else some (idiv x y)) = some w := e1
    rw [if_neg d] at e1
    show grd (y ≠ 0) (some (idiv x y, g)) = _
    rw [grd_t d, Option.some.inj e1]
  · have d := dv (Or.inr rfl)
    have e1 : (if y = 0 then none else some (irem x y)) = some w := e1
    rw [if_neg d] at e1
    show grd (y ≠ 0) (some (irem x y, g)) = _
    rw [grd_t d, Option.some.inj e1]
  · have e1 : (if y ≤ x then some 0 else some 1) = some w := e1
    show (if y ≤ x then some (0, g) else some (1, g)) = _
    by_cases z : y ≤ x
    · rw [if_pos z] at e1 ⊢; rw [Option.some.inj e1]
    · rw [if_neg z] at e1 ⊢; rw [Option.some.inj e1]
  · have e1 : (if x ≤ y then some 0 else some 1) = some w := e1
    show (if x ≤ y then some (0, g) else some (1, g)) = _
    by_cases z : x ≤ y
    · rw [if_pos z] at e1 ⊢; rw [Option.some.inj e1]
    · rw [if_neg z] at e1 ⊢; rw [Option.some.inj e1]
  · have e1 : (if x = y then some 1 else some 0) = some w := e1
    show (if x = y then some (1, g) else some (0, g)) = _
    by_cases z : x = y
    · rw [if_pos z] at e1 ⊢; rw [Option.some.inj e1]
    · rw [if_neg z] at e1 ⊢; rw [Option.some.inj e1]
theorem ari_n {x y : Int} (ho : ar o ∨ cm o) (e1 : ari o x y = none) : (o = 47 ∨ o = 37) ∧ y = 0 := by
  rcases ho with (rfl | rfl | rfl | rfl | rfl) | (rfl | rfl | rfl)
  · exact absurd (show some (w32 (x + y)) = none from e1) (by simp)
  · exact absurd (show some (w32 (x - y)) = none from e1) (by simp)
  · exact absurd (show some (w32 (x * y)) = none from e1) (by simp)
  · refine ⟨Or.inl rfl, ?_⟩
    by_cases z : y = 0
    · exact z
    · have e1 : (if y = 0 then none else some (idiv x y)) = none := e1
      rw [if_neg z] at e1
      exact absurd e1 (by simp)
  · refine ⟨Or.inr rfl, ?_⟩
    by_cases z : y = 0
    · exact z
    · have e1 : (if y = 0 then none else some (irem x y)) = none := e1
      rw [if_neg z] at e1
      exact absurd e1 (by simp)
  · have e1 : (if y ≤ x then some (0 : Int) else some 1) = none := e1
    exact absurd e1 (by split <;> simp)
  · have e1 : (if x ≤ y then some (0 : Int) else some 1) = none := e1
    exact absurd e1 (by split <;> simp)
  · have e1 : (if x = y then some (1 : Int) else some 0) = none := e1
    exact absurd e1 (by split <;> simp)
theorem m_bin {x2 q : Nat} (he : e < x2) (hx : x2 ≤ 250) (hs : s + 2 ≤ 64) (ho : ar o ∨ cm o) (c : PM g e o 0) {x y : Int} (ex : g 108 s = x) (ey : g 108 (s + 1) = y) : ∃ g', exVM s g g' ∧ ((∃ w, ari o x y = some w ∧ L_X12_comesTo_16 N (q + 1) (x2 : Int) ((s + 2 : Nat) : Int) 0 (e : Int) g = L_X12_comesTo_16 N q (x2 : Int) ((s + 1 : Nat) : Int) 0 ((e + 1 : Nat) : Int) g' ∧ g' 108 s = w) ∨ (ari o x y = none ∧ L_X12_comesTo_16 N (q + 1) (x2 : Int) ((s + 2 : Nat) : Int) 0 (e : Int) g = some (0, g'))) := by
  have w1 : w32 (((s + 2 : Nat) : Int) - 1) = ((s + 1 : Nat) : Int) := by rw [w32_id ⟨by omega, by omega⟩]; omega
  have w2 : w32 (((s + 1 : Nat) : Int) - 1) = (s : Int) := by rw [w32_id ⟨by omega, by omega⟩]; omega
  have t := m_turn (N := N) (q := q) (x3 := ((s + 2 : Nat) : Int)) he hx ⟨by omega, by omega⟩ c rfl
  have nn : ∀ r : Int, r = rop o → (¬ r = 0 ∧ ¬ r = 1 ∧ ¬ r = 10 ∧ ¬ r = 11 ∧ ¬ r = 12) ∧ ((r = 5 ↔ o = 47) ∧ (r = 6 ↔ o = 37)) := fun r er => by
    rw [er]
    rcases ho with (rfl | rfl | rfl | rfl | rfl) | (rfl | rfl | rfl) <;> decide
  obtain ⟨⟨n1, n2, n3, n4, n5⟩, n6, n7⟩ := nn _ rfl
  rw [if_neg n1, if_neg n2, if_neg n3, if_neg n4, if_neg n5, w1] at t
  have j203 : ∀ w, ari o x y = some w → J_X12_comesTo_203 N (L_X12_comesTo_16 N q) (x2 : Int) ((s + 1 : Nat) : Int) 0 ((e + 1 : Nat) : Int) (rop o) g = L_X12_comesTo_16 N q (x2 : Int) ((s + 1 : Nat) : Int) 0 ((e + 1 : Nat) : Int) (hw g 108 s w) := fun w ew => by
    unfold J_X12_comesTo_203
    rw [w2, grd_t ⟨by omega, by omega⟩, grd_t ⟨by omega, by omega⟩, Int.toNat_natCast, Int.toNat_natCast, ex, ey, (m_reckon (N := N) (g := g) ho ew).1, bd_s, grd_t ⟨by omega, by omega⟩, bnd_s]
  cases ea : ari o x y with
  | some w =>
    refine ⟨hw g 108 s w, fun c j z => by rw [hw_ne (by omega)], Or.inl ⟨w, rfl, ?_, hw_eq⟩⟩
    have dv := (m_reckon (N := N) (g := g) ho ea).2
    have j192 : (o = 47 ∨ o = 37) → J_X12_comesTo_192 N (L_X12_comesTo_16 N q) (x2 : Int) ((s + 1 : Nat) : Int) 0 ((e + 1 : Nat) : Int) (rop o) g = L_X12_comesTo_16 N q (x2 : Int) ((s + 1 : Nat) : Int) 0 ((e + 1 : Nat) : Int) (hw g 108 s w) := fun z => by
      unfold J_X12_comesTo_192
      rw [grd_t ⟨by omega, by omega⟩, Int.toNat_natCast, ey, if_neg (dv z)]
      exact j203 w ea
    by_cases z1 : rop o = 5
    · rw [if_pos z1] at t
      exact t.trans (j192 (Or.inl (n6.mp z1)))
    rw [if_neg z1] at t
    by_cases z2 : rop o = 6
    · rw [if_pos z2] at t
      exact t.trans (j192 (Or.inr (n7.mp z2)))
    rw [if_neg z2] at t
    exact t.trans (j203 w ea)
  | none =>
    obtain ⟨y1, y2⟩ := ari_n ho ea
    refine ⟨g, fun _ _ _ => rfl, Or.inr ⟨rfl, ?_⟩⟩
    have j192 : J_X12_comesTo_192 N (L_X12_comesTo_16 N q) (x2 : Int) ((s + 1 : Nat) : Int) 0 ((e + 1 : Nat) : Int) (rop o) g = some (0, g) := by
      unfold J_X12_comesTo_192
      rw [grd_t ⟨by omega, by omega⟩, Int.toNat_natCast, ey, if_pos y2]
    by_cases z1 : rop o = 5
    · rw [if_pos z1] at t
      exact t.trans j192
    rw [if_neg z1] at t
    by_cases z2 : rop o = 6
    · rw [if_pos z2] at t
      exact t.trans j192
    rcases y1 with y | y
    · exact absurd (n6.mpr y) z1
    · exact absurd (n7.mpr y) z2
theorem m_neg {x2 q : Nat} (he : e < x2) (hx : x2 ≤ 250) (hs : s + 1 ≤ 64) (c : PM g e 33 0) : ∃ g', exVM s g g' ∧ L_X12_comesTo_16 N (q + 1) (x2 : Int) ((s + 1 : Nat) : Int) 0 (e : Int) g = L_X12_comesTo_16 N q (x2 : Int) ((s + 1 : Nat) : Int) 0 ((e + 1 : Nat) : Int) g' ∧ g' 108 s = w32 (1 - g 108 s) := by
  have w2 : w32 (((s + 1 : Nat) : Int) - 1) = (s : Int) := by rw [w32_id ⟨by omega, by omega⟩]; omega
  refine ⟨hw g 108 s (w32 (1 - g 108 s)), fun c j z => by rw [hw_ne (by omega)], ?_, hw_eq⟩
  rw [m_turn he hx ⟨by omega, by omega⟩ c (r := 10) rfl, if_neg (by decide), if_neg (by decide), if_pos rfl, w2, grd_t ⟨by omega, by omega⟩, grd_t ⟨by omega, by omega⟩, bnd_s, Int.toNat_natCast]
theorem m_jn {x2 q z : Nat} (he : e < x2) (hx : x2 ≤ 250) (hs : s + 1 ≤ 64) (ho : o = 38 ∨ o = 124) (hz2 : z ≤ 240) (c : PM g e o (z : Int)) : (g 108 s = (if o = 38 then 0 else 1) ∧ L_X12_comesTo_16 N (q + 1) (x2 : Int) ((s + 1 : Nat) : Int) 0 (e : Int) g = L_X12_comesTo_16 N q (x2 : Int) ((s + 1 : Nat) : Int) 0 (z : Int) g) ∨ (¬ g 108 s = (if o = 38 then 0 else 1) ∧ L_X12_comesTo_16 N (q + 1) (x2 : Int) ((s + 1 : Nat) : Int) 0 (e : Int) g = L_X12_comesTo_16 N q (x2 : Int) (s : Int) 0 ((e + 1 : Nat) : Int) g) := by
  have w2 : w32 (((s + 1 : Nat) : Int) - 1) = (s : Int) := by rw [w32_id ⟨by omega, by omega⟩]; omega
  have w3 : w32 (0 + (z : Int)) = (z : Int) := by rw [w32_id ⟨by omega, by omega⟩]; omega
  have j : ∀ k1 : Int, (g 108 s = k1 ∧ J_X12_comesTo_155 N (L_X12_comesTo_16 N q) (x2 : Int) ((s + 1 : Nat) : Int) 0 ((e + 1 : Nat) : Int) (z : Int) (g 108 s) k1 g = L_X12_comesTo_16 N q (x2 : Int) ((s + 1 : Nat) : Int) 0 (z : Int) g) ∨ (¬ g 108 s = k1 ∧ J_X12_comesTo_155 N (L_X12_comesTo_16 N q) (x2 : Int) ((s + 1 : Nat) : Int) 0 ((e + 1 : Nat) : Int) (z : Int) (g 108 s) k1 g = L_X12_comesTo_16 N q (x2 : Int) (s : Int) 0 ((e + 1 : Nat) : Int) g) := fun k1 => by
    unfold J_X12_comesTo_155
    by_cases y : g 108 s = k1
    · rw [if_pos y, w3, bnd_s]; exact Or.inl ⟨y, rfl⟩
    · rw [if_neg y, w2, bnd_s]; exact Or.inr ⟨y, rfl⟩
  rcases ho with rfl | rfl
  · rw [show (if (38 : Int) = 38 then (0 : Int) else 1) = 0 from rfl, m_turn he hx ⟨by omega, by omega⟩ c (r := 11) rfl, if_neg (by decide), if_neg (by decide), if_neg (by decide), if_pos rfl]
    unfold J_X12_comesTo_135
    rw [w2, grd_t ⟨by omega, by omega⟩, if_neg (by decide), Int.toNat_natCast]
    exact j 0
  · rw [show (if (124 : Int) = 38 then (0 : Int) else 1) = 1 from rfl, m_turn he hx ⟨by omega, by omega⟩ c (r := 12) rfl, if_neg (by decide), if_neg (by decide), if_neg (by decide), if_neg (by decide), if_pos rfl]
    unfold J_X12_comesTo_135
    rw [w2, grd_t ⟨by omega, by omega⟩, if_pos rfl, Int.toNat_natCast]
    exact j 1
end EW
