/-! THE LAW: PRODUCTS AND SUMS -/
section LR
variable {b : Nat → Int} {N L n p x2 x1 : Nat} {h g : Hp}
theorem x_prodSign (t : TC b L n p 0 h) : F_X3_seesProductSign N h = some (if opP (sg b n p) then 1 else 0, h) := by
  unfold F_X3_seesProductSign
  rw [x_sees t, bd_s]
  by_cases c1 : sg b n p = 42
  · rw [if_pos (show (0 : Int) = 0 ∧ sg b n p = 42 from ⟨rfl, c1⟩), if_neg (by decide), if_pos (Or.inl c1)]
  rw [if_neg (show ¬ ((0 : Int) = 0 ∧ sg b n p = 42) from fun z => c1 z.2), if_pos rfl, x_sees t, bd_s]
  by_cases c2 : sg b n p = 47
  · rw [if_pos (show (0 : Int) = 0 ∧ sg b n p = 47 from ⟨rfl, c2⟩), if_neg (by decide), if_pos (Or.inr (Or.inl c2))]
  rw [if_neg (show ¬ ((0 : Int) = 0 ∧ sg b n p = 47) from fun z => c2 z.2), if_pos rfl, x_sees t, bd_s]
  by_cases c3 : sg b n p = 37
  · rw [if_pos (show (0 : Int) = 0 ∧ sg b n p = 37 from ⟨rfl, c3⟩), if_neg (by decide), if_pos (Or.inr (Or.inr c3))]
  rw [if_neg (show ¬ ((0 : Int) = 0 ∧ sg b n p = 37) from fun z => c3 z.2), if_pos rfl, if_neg (show ¬ opP (sg b n p) by omega)]
theorem PP.lt {d a c H : Nat} (Q : PP b L n x2 d a c p H h g) : a < c := by
  rcases Q with ⟨-, s⟩ | ⟨o, m, e, rfl, -, -, -, s1, s2, -⟩
  · exact s.lt
  · have := s1.lt; have := s2.lt; omega
theorem PP.mc {d a c H : Nat} (Q : PP b L n x2 d a c p H h g) : MC b L n p g := by
  rcases Q with ⟨s, -⟩ | ⟨o, m, e, -, -, s, -⟩
  · exact s.1
  · exact s.1
theorem SuP.lt {d a c H : Nat} (Q : SuP b L n x2 d a c p H h g) : a < c := by
  rcases Q with s | ⟨o, m, e, rfl, -, -, s1, s2, -⟩
  · exact s.lt
  · have := s1.lt; have := s2.lt; omega
theorem SuP.mc {d a c H : Nat} (Q : SuP b L n x2 d a c p H h g) : MC b L n p g := by
  rcases Q with s | ⟨o, m, e, -, -, -, -, s, -⟩
  · exact s.mc
  · exact s.mc
/-- a sign waits, and the next factor is read -/
theorem push_op {c H q : Nat} {o s1 : Int} (R : RSt b L n p c H x2 g) (hp : p ≤ 240) (hH : H ≤ 240) (ro : 0 ≤ rop o ∧ rop o ≤ 12) {g0 : Hp} (cl : F_X12_closesSums N s1 g0 = some g) : ∃ g4, J_X12_readsSum_38 N (L_X12_readsSum_14 N q) (x1 : Int) (rop o) s1 g0 = RF N N q (x1 : Int) g4 ∧ RSt b L n (p + 1) c (H + 1) x2 g4 ∧ g4 98 H = 1048576 * rop o ∧ exQ c H g g4 := by
  unfold J_X12_readsSum_38
  rw [cl, bv_s, R.2.2.1, grd_t ⟨by omega, by omega⟩, w32_id (x := 1048576 * rop o) ⟨by omega, by omega⟩, bnd_s, Int.toNat_natCast, bnd_s, hw_ne (by omega), R.2.2.1, inc (by omega), bnd_s, hw_ne (by omega), hw_ne (by omega), R.1.1, inc (by omega)]
  exact ⟨_, rfl, ((R.wc (by omega) (by omega)).sh (H + 1)).st, by rw [hw_ne (by omega), hw_ne (by omega), hw_eq], fun c j z1 z2 z3 => by rw [hw_ne (by omega), hw_ne (by omega), hw_ne (by omega)]⟩
theorem prl (hN : 1000000 ≤ N) (T : TXT b L n) (hn : n ≤ 240) (hx2 : x2 ≤ 6) (rc : Int → Hp → Option Hp) (RC : x2 < 6 → SumSim b L n N (x2 + 1) (rc ((x2 + 1 : Nat) : Int))) {a H : Nat} (hx1 : x1 ≤ H) : ∀ (mm k cnt p c q : Nat) (h g : Hp), n - p < mm → mm ≤ k → cnt < p → p ≤ n → c ≤ p → H < p → TC b L n p 0 h → h 44 7 = (c : Int) → PP b L n x2 (13 - 2 * x2) a c p H h g → ¬ (4 ≤ tp g H ∧ tp g H ≤ 6) → 1000 ≤ q + p → ∃ h', L_X3_readProduct_8 N rc k (x2 : Int) (cnt : Int) h = some h' ∧ ((∃ p' c' q' g', p ≤ p' ∧ p' ≤ n ∧ c ≤ c' ∧ c' + p ≤ c + p' ∧ exP a h h' ∧ TC b L n p' 0 h' ∧ h' 44 7 = (c' : Int) ∧ L_X12_readsSum_14 N q (x1 : Int) g = L_X12_readsSum_14 N q' (x1 : Int) g' ∧ 1000 ≤ q' + p' ∧ exQ a H g g' ∧ PP b L n x2 (13 - 2 * x2) a c' p' H h' g' ∧ ¬ opP (sg b n p')) ∨ BadO b L n h h' g (L_X12_readsSum_14 N q (x1 : Int) g))
  | 0, _, _, _, _, _, _, _, hm, _, _, _, _, _, _, _, _, _, _ => absurd hm (by omega)
  | mm + 1, k, cnt, p, c, q, h, g, hm, hk, hcnt, hp, hc, hH, t, e, Q, hb, hq => by
    have T1 := T.1
    have T2 := T.2.1
    obtain ⟨k, rfl⟩ : ∃ k', k = k' + 1 := ⟨k - 1, by omega⟩
    obtain ⟨q, rfl⟩ : ∃ q', q = q' + 1 := ⟨q - 1, by omega⟩
    have ac := Q.lt
    unfold L_X3_readProduct_8
    by_cases c0 : 240 ≤ cnt
    · omega
    rw [if_neg (by omega), x_prodSign t, bd_s]
    by_cases c1 : opP (sg b n p)
    rotate_left
    · rw [if_neg c1, if_pos rfl]
      exact ⟨h, rfl, Or.inl ⟨p, c, q + 1, g, Nat.le_refl _, hp, Nat.le_refl _, Nat.le_refl _, fun _ _ _ _ _ => rfl, t, e, rfl, hq, fun _ _ _ _ _ => rfl, Q, c1⟩⟩
    have pn := (sg_b T p).2.2 (by omega)
    obtain ⟨o, eo⟩ : ∃ o, o = sg b n p := ⟨_, rfl⟩
    rw [← eo] at c1
    have ro : 4 ≤ rop o ∧ rop o ≤ 6 := by rcases c1 with z | z | z <;> rw [z] <;> decide
    obtain ⟨g1, d1, d2, d3, d4⟩ := cl_0 (N := N) hN (by omega) (by omega) Q hb
    obtain ⟨g4, r1, r2, r3, r4⟩ := push_op (N := N) (q := q) (x1 := x1) (o := o) (s1 := 0) d2 (by omega) (by omega) ⟨by omega, by omega⟩ d1
    have l14 : L_X12_readsSum_14 N (q + 1) (x1 : Int) g = RF N N q (x1 : Int) g4 := by
      conv => lhs; unfold L_X12_readsSum_14
      rw [m_here T Q.mc, bd_s, s_sumSign, bd_s, ← eo, if_pos (Or.inl c1), if_neg (by omega), if_pos (by omega)]
      exact r1
    have E4 : exQ a H g g4 := exQ.tr d4 r4 (by omega) (Nat.le_refl _)
    obtain ⟨h1, a1, a2, a3⟩ := x_step (N := N) T t (by omega)
    obtain ⟨h2, b1, F⟩ := fac (N := N) hN T hn hx2 rc RC N q x1 (p := p + 1) (len := c) (ht := H + 1) (by omega) (by omega) (by omega) (by omega) a2 (by rw [a3 44 7 (by omega)]; exact e) r2 (by omega) (by omega)
    rw [← eo, if_pos c1, if_neg (by decide), x_sign t, bd_s, a1, bv_s, b1, bv_s, ← eo, l14]
    rcases F with ⟨p', c', q', g', s1, s2, s3, s4, s5, s6, s7, s8, s9, s10, s11, s12⟩ | ⟨f, g', s1, s2, s3, s4, s5⟩
    · obtain ⟨h3, k1, k2, k3, k4, k5⟩ := x_adS (N := N) (o := o) (v := 0) s7 (by omega)
      have e3 : ∀ j, j < c → h3 49 j = h 49 j ∧ h3 50 j = h 50 j := fun j hj => by
        rw [k5 49 j (by omega) (by omega), k5 50 j (by omega) (by omega), s5 49 j (by omega) (by omega) (by omega), s5 50 j (by omega) (by omega) (by omega), a3 49 j (by omega), a3 50 j (by omega)]
        exact ⟨rfl, rfl⟩
      have E' : exQ a H g g' := exQ.tr E4 s10 (by omega) (by omega)
      have Q' : PP b L n x2 (13 - 2 * x2) a (c' + 1) p' H h3 g' := Or.inr ⟨o, c, c', rfl, c1, s11, by rw [s10 98 H (by omega) (by omega) (by omega)]; exact r3, PG.ag d3 e3 (fun j hj => by rw [s10 97 j (by omega) (by omega) (by omega), r4 97 j (by omega) (by omega) (by omega)]), PG.ag s12 (fun j hj => ⟨k5 49 j (by omega) (by omega), k5 50 j (by omega) (by omega)⟩) (fun _ _ => rfl), k3, k4⟩
      obtain ⟨h4, m1, M⟩ := prl hN T hn hx2 rc RC hx1 mm k (cnt + 1) p' (c' + 1) q' h3 g' (by omega) (by omega) (by omega) s2 (by omega) (by omega) (s6.ag (fun c j y => k5 c j (by omega) (by omega))) k2 Q' (by rw [tp_q E' (Nat.le_refl _)]; exact hb) s9
      rw [k1, bv_s, bnd_s, inc (by omega), m1]
      refine ⟨h4, rfl, ?_⟩
      have E3 : exP a h h3 := fun c j z1 z2 z3 => by rw [k5 c j z2 (by omega), s5 c j z1 z2 (by omega), a3 c j z1]
      rw [s8]
      rcases M with ⟨p2, c2, q2, g2, u1, u2, u3, u4, u5, u6, u7, u8, u9, u10, u11, u12⟩ | ⟨f, g2, u1, u2, u3, u4, u5⟩
      · exact Or.inl ⟨p2, c2, q2, g2, by omega, u2, by omega, by omega, exP.tr E3 u5 (Nat.le_refl _), u6, u7, u8, u9, exQ.tr E' u10 (Nat.le_refl _) (Nat.le_refl _), u11, u12⟩
      · exact Or.inr ⟨f, g2, u1, ⟨u2.1, u2.2.1, exP.tr (exP.lo (a' := 0) E3 (by omega)) u2.2.2 (by omega)⟩, u3, u4, exQ.tr (exQ.lo (a' := 0) (s' := 0) E' (by omega) (by omega)) u5 (by omega) (by omega)⟩
    · obtain ⟨h3, k1, k2, -⟩ := s2.ad (N := N) (o := o) (v := 0)
      rw [k1, bv_s, bnd_s, inc (by omega), ff_pl s1 k2 rc _ _ (by omega)]
      exact ⟨h3, rfl, Or.inr ⟨f, g', s1, ⟨k2.1, k2.2.1, exP.tr (a3.P 0) k2.2.2 (by omega)⟩, s3, s4, exQ.tr (exQ.lo (a' := 0) (s' := 0) E4 (by omega) (by omega)) s5 (by omega) (by omega)⟩⟩
theorem prd (hN : 1000000 ≤ N) (T : TXT b L n) (hn : n ≤ 240) (hx2 : x2 ≤ 6) (rc : Int → Hp → Option Hp) (RC : x2 < 6 → SumSim b L n N (x2 + 1) (rc ((x2 + 1 : Nat) : Int))) {len H : Nat} (m q : Nat) (hp : p ≤ n) (hl : len ≤ p) (hh : H ≤ p) (hx1 : x1 ≤ H) (t : TC b L n p 0 h) (e : h 44 7 = (len : Int)) (R : RSt b L n p len H x2 g) (hb : ¬ (4 ≤ tp g H ∧ tp g H ≤ 6)) (hm : 1000 ≤ m + p) (hq : 1000 ≤ q + p) : ∃ h', F_X3_readProduct N rc (x2 : Int) h = some h' ∧ PrdR b L n N x2 p len H x1 h g h' (RF N m q (x1 : Int) g) := by
  obtain ⟨h1, a1, F⟩ := fac (N := N) hN T hn hx2 rc RC m q x1 hp hl hh hx1 t e R hm hq
  unfold F_X3_readProduct
  rw [a1, bv_s]
  rcases F with ⟨p', c', q', g', s1, s2, s3, s4, s5, s6, s7, s8, s9, s10, s11, s12⟩ | ⟨f, g', s1, s2, s3, s4, s5⟩
  · obtain ⟨h4, m1, M⟩ := prl (N := N) (a := len) (H := H) hN T hn hx2 rc RC hx1 1000 N 0 p' c' q' h1 g' (by omega) (by omega) (by omega) s2 (by omega) (by omega) s6 s7 (Or.inl ⟨s11, s12.up _ (by omega)⟩) (by rw [tp_q s10 (Nat.le_refl _)]; exact hb) s9
    have m1 : L_X3_readProduct_8 N rc N (x2 : Int) 0 h1 = some h4 := m1
    rw [m1, s8]
    refine ⟨h4, rfl, ?_⟩
    rcases M with ⟨p2, c2, q2, g2, u1, u2, u3, u4, u5, u6, u7, u8, u9, u10, u11, u12⟩ | ⟨f, g2, u1, u2, u3, u4, u5⟩
    · exact Or.inl ⟨p2, c2, q2, g2, by omega, u2, by omega, by omega, exP.tr s5 u5 (Nat.le_refl _), u6, u7, u8, u9, exQ.tr s10 u10 (Nat.le_refl _) (Nat.le_refl _), u11, u12⟩
    · exact Or.inr ⟨f, g2, u1, ⟨u2.1, u2.2.1, exP.tr (exP.lo (a' := 0) s5 (by omega)) u2.2.2 (by omega)⟩, u3, u4, exQ.tr (exQ.lo (a' := 0) (s' := 0) s10 (by omega) (by omega)) u5 (by omega) (by omega)⟩
  · rw [ff_pl s1 s2 rc _ _ (by omega)]
    exact ⟨h1, rfl, Or.inr ⟨f, g', s1, s2, s3, s4, s5⟩⟩
theorem sml (hN : 1000000 ≤ N) (T : TXT b L n) (hn : n ≤ 240) (hx2 : x2 ≤ 6) (rc : Int → Hp → Option Hp) (RC : x2 < 6 → SumSim b L n N (x2 + 1) (rc ((x2 + 1 : Nat) : Int))) {a H : Nat} (hx1 : x1 ≤ H) : ∀ (mm k cnt p c q : Nat) (h g : Hp), n - p < mm → mm ≤ k → cnt < p → p ≤ n → c ≤ p → H < p → TC b L n p 0 h → h 44 7 = (c : Int) → SuP b L n x2 (13 - 2 * x2) a c p H h g → ¬ opP (sg b n p) → ¬ (2 ≤ tp g H ∧ tp g H ≤ 6) → 1000 ≤ q + p → ∃ h', L_X3_readSum_8 N rc k (x2 : Int) (cnt : Int) h = some h' ∧ ((∃ p' c' q' g', p ≤ p' ∧ p' ≤ n ∧ c ≤ c' ∧ c' + p ≤ c + p' ∧ exP a h h' ∧ TC b L n p' 0 h' ∧ h' 44 7 = (c' : Int) ∧ L_X12_readsSum_14 N q (x1 : Int) g = L_X12_readsSum_14 N q' (x1 : Int) g' ∧ 1000 ≤ q' + p' ∧ exQ a H g g' ∧ SuP b L n x2 (13 - 2 * x2) a c' p' H h' g' ∧ ¬ opP (sg b n p') ∧ ¬ opS (sg b n p')) ∨ BadO b L n h h' g (L_X12_readsSum_14 N q (x1 : Int) g))
  | 0, _, _, _, _, _, _, _, hm, _, _, _, _, _, _, _, _, _, _, _ => absurd hm (by omega)
  | mm + 1, k, cnt, p, c, q, h, g, hm, hk, hcnt, hp, hc, hH, t, e, Q, np, hb, hq => by
    have T1 := T.1
    have T2 := T.2.1
    obtain ⟨k, rfl⟩ : ∃ k', k = k' + 1 := ⟨k - 1, by omega⟩
    obtain ⟨q, rfl⟩ : ∃ q', q = q' + 1 := ⟨q - 1, by omega⟩
    have ac := Q.lt
    have top : L_X3_readSum_8 N rc (k + 1) (x2 : Int) (cnt : Int) h = if opS (sg b n p) then J_X3_readSum_33 N rc (L_X3_readSum_8 N rc k) (x2 : Int) (cnt : Int) h else some h := by
      conv => lhs; unfold L_X3_readSum_8
      by_cases c0 : 240 ≤ cnt
      · omega
      rw [if_neg (by omega), x_sees t, bd_s]
      by_cases c1 : sg b n p = 43
      · rw [if_pos (show (0 : Int) = 0 ∧ sg b n p = 43 from ⟨rfl, c1⟩), if_neg (by decide), if_pos (Or.inl c1)]
      rw [if_neg (show ¬ ((0 : Int) = 0 ∧ sg b n p = 43) from fun z => c1 z.2), if_pos rfl, x_sees t, bd_s]
      by_cases c2 : sg b n p = 45
      · rw [if_pos (show (0 : Int) = 0 ∧ sg b n p = 45 from ⟨rfl, c2⟩), if_neg (by decide), if_pos (Or.inr c2)]
      rw [if_neg (show ¬ ((0 : Int) = 0 ∧ sg b n p = 45) from fun z => c2 z.2), if_pos rfl, if_neg (show ¬ opS (sg b n p) by omega)]
    rw [top]
    by_cases c1 : opS (sg b n p)
    rotate_left
    · rw [if_neg c1]
      exact ⟨h, rfl, Or.inl ⟨p, c, q + 1, g, Nat.le_refl _, hp, Nat.le_refl _, Nat.le_refl _, fun _ _ _ _ _ => rfl, t, e, rfl, hq, fun _ _ _ _ _ => rfl, Q, np, c1⟩⟩
    have pn := (sg_b T p).2.2 (by omega)
    obtain ⟨o, eo⟩ : ∃ o, o = sg b n p := ⟨_, rfl⟩
    rw [if_pos c1]
    rw [← eo] at c1
    have ro : 2 ≤ rop o ∧ rop o ≤ 3 := by rcases c1 with z | z <;> rw [z] <;> decide
    obtain ⟨g1, d1, d2, d3, d4⟩ := cl_1 (N := N) hN (by omega) (by omega) Q hb
    obtain ⟨g4, r1, r2, r3, r4⟩ := push_op (N := N) (q := q) (x1 := x1) (o := o) (s1 := 1) d2 (by omega) (by omega) ⟨by omega, by omega⟩ d1
    have l14 : L_X12_readsSum_14 N (q + 1) (x1 : Int) g = RF N N q (x1 : Int) g4 := by
      conv => lhs; unfold L_X12_readsSum_14
      rw [m_here T Q.mc, bd_s, s_sumSign, bd_s, ← eo, if_pos (Or.inr c1), if_neg (by omega), if_neg (by omega)]
      exact r1
    have E4 : exQ a H g g4 := exQ.tr d4 r4 (by omega) (Nat.le_refl _)
    have t4 : tp g4 (H + 1) = rop o := tp_s ⟨by omega, by omega⟩ (v := 0) ⟨by omega, by omega⟩ (by rw [r3, Int.add_zero])
    obtain ⟨h1, a1, a2, a3⟩ := x_step (N := N) T t (by omega)
    obtain ⟨h2, b1, F⟩ := prd (N := N) (x1 := x1) hN T hn hx2 rc RC N q (p := p + 1) (len := c) (H := H + 1) (by omega) (by omega) (by omega) (by omega) a2 (by rw [a3 44 7 (by omega)]; exact e) r2 (by omega) (by omega) (by omega)
    unfold J_X3_readSum_33
    rw [x_sign t, bd_s, a1, bv_s, b1, bv_s, ← eo, l14]
    rcases F with ⟨p', c', q', g', s1, s2, s3, s4, s5, s6, s7, s8, s9, s10, s11, s12⟩ | ⟨f, g', s1, s2, s3, s4, s5⟩
    · obtain ⟨h3, k1, k2, k3, k4, k5⟩ := x_adS (N := N) (o := o) (v := 0) s7 (by omega)
      have e3 : ∀ j, j < c → h3 49 j = h 49 j ∧ h3 50 j = h 50 j := fun j hj => by
        rw [k5 49 j (by omega) (by omega), k5 50 j (by omega) (by omega), s5 49 j (by omega) (by omega) (by omega), s5 50 j (by omega) (by omega) (by omega), a3 49 j (by omega), a3 50 j (by omega)]
        exact ⟨rfl, rfl⟩
      have E' : exQ a H g g' := exQ.tr E4 s10 (by omega) (by omega)
      have e4 : ∀ j, j < c' → h3 49 j = h2 49 j ∧ h3 50 j = h2 50 j := fun j hj => ⟨k5 49 j (by omega) (by omega), k5 50 j (by omega) (by omega)⟩
      have Q2 : PP b L n x2 (13 - 2 * x2) c c' p' (H + 1) h3 g' := by
        rcases s11 with ⟨y1, y2⟩ | ⟨o', m', e', y0, y1, y2, y3, y4, y5, y6, y7⟩
        · exact Or.inl ⟨y1, PG.ag y2 e4 (fun _ _ => rfl)⟩
        · have l1 := y4.lt
          have l2 := y5.lt
          exact Or.inr ⟨o', m', e', y0, y1, y2, y3, PG.ag y4 (fun j hj => e4 j (by omega)) (fun _ _ => rfl), PG.ag y5 (fun j hj => e4 j (by omega)) (fun _ _ => rfl), by rw [(e4 e' (by omega)).1]; exact y6, by rw [(e4 e' (by omega)).2]; exact y7⟩
      have Q' : SuP b L n x2 (13 - 2 * x2) a (c' + 1) p' H h3 g' := Or.inr ⟨o, c, c', rfl, c1, by rw [s10 98 H (by omega) (by omega) (by omega)]; exact r3, PG.ag d3 e3 (fun j hj => by rw [s10 97 j (by omega) (by omega) (by omega), r4 97 j (by omega) (by omega) (by omega)]), Q2, k3, k4⟩
      obtain ⟨h4, m1, M⟩ := sml hN T hn hx2 rc RC hx1 mm k (cnt + 1) p' (c' + 1) q' h3 g' (by omega) (by omega) (by omega) s2 (by omega) (by omega) (s6.ag (fun c j y => k5 c j (by omega) (by omega))) k2 Q' s12 (by rw [tp_q E' (Nat.le_refl _)]; exact hb) s9
      rw [k1, bv_s, bnd_s, inc (by omega), m1]
      refine ⟨h4, rfl, ?_⟩
      have E3 : exP a h h3 := fun c j z1 z2 z3 => by rw [k5 c j z2 (by omega), s5 c j z1 z2 (by omega), a3 c j z1]
      rw [s8]
      rcases M with ⟨p2, c2, q2, g2, u1, u2, u3, u4, u5, u6, u7, u8, u9, u10, u11, u12⟩ | ⟨f, g2, u1, u2, u3, u4, u5⟩
      · exact Or.inl ⟨p2, c2, q2, g2, by omega, u2, by omega, by omega, exP.tr E3 u5 (Nat.le_refl _), u6, u7, u8, u9, exQ.tr E' u10 (Nat.le_refl _) (Nat.le_refl _), u11, u12⟩
      · exact Or.inr ⟨f, g2, u1, ⟨u2.1, u2.2.1, exP.tr (exP.lo (a' := 0) E3 (by omega)) u2.2.2 (by omega)⟩, u3, u4, exQ.tr (exQ.lo (a' := 0) (s' := 0) E' (by omega) (by omega)) u5 (by omega) (by omega)⟩
    · obtain ⟨h3, k1, k2, -⟩ := s2.ad (N := N) (o := o) (v := 0)
      rw [k1, bv_s, bnd_s, inc (by omega), ff_sl s1 k2 rc _ _ (by omega)]
      exact ⟨h3, rfl, Or.inr ⟨f, g', s1, ⟨k2.1, k2.2.1, exP.tr (a3.P 0) k2.2.2 (by omega)⟩, s3, s4, exQ.tr (exQ.lo (a' := 0) (s' := 0) E4 (by omega) (by omega)) s5 (by omega) (by omega)⟩⟩
theorem sum_o (hN : 1000000 ≤ N) (T : TXT b L n) (hn : n ≤ 240) (hx2 : x2 ≤ 6) (rc : Int → Hp → Option Hp) (RC : x2 < 6 → SumSim b L n N (x2 + 1) (rc ((x2 + 1 : Nat) : Int))) : SumSim b L n N x2 (O_X3_readSum N rc (x2 : Int)) := by
  intro p len ht m q x1 h g hp hl hh hx1 t e R hb hm hq
  obtain ⟨h1, a1, F⟩ := prd (N := N) (x1 := x1) hN T hn hx2 rc RC m q hp hl hh hx1 t e R (by omega) hm hq
  unfold O_X3_readSum
  rw [a1, bv_s]
  unfold SumR
  rcases F with ⟨p', c', q', g', s1, s2, s3, s4, s5, s6, s7, s8, s9, s10, s11, s12⟩ | ⟨f, g', s1, s2, s3, s4, s5⟩
  · obtain ⟨h4, m1, M⟩ := sml (N := N) (a := len) (H := ht) hN T hn hx2 rc RC hx1 1000 N 0 p' c' q' h1 g' (by omega) (by omega) (by omega) s2 (by omega) (by omega) s6 s7 (Or.inl s11) s12 (by rw [tp_q s10 (Nat.le_refl _)]; exact hb) s9
    have m1 : L_X3_readSum_8 N rc N (x2 : Int) 0 h1 = some h4 := m1
    rw [m1, s8]
    refine ⟨h4, rfl, ?_⟩
    rcases M with ⟨p2, c2, q2, g2, u1, u2, u3, u4, u5, u6, u7, u8, u9, u10, u11, u12⟩ | ⟨f, g2, u1, u2, u3, u4, u5⟩
    · exact Or.inl ⟨p2, c2, q2, g2, by omega, u2, by omega, by omega, exP.tr s5 u5 (Nat.le_refl _), u6, u7, u8, u9, exQ.tr s10 u10 (Nat.le_refl _) (Nat.le_refl _), u11, u12⟩
    · exact Or.inr ⟨f, g2, u1, ⟨u2.1, u2.2.1, exP.tr (exP.lo (a' := 0) s5 (by omega)) u2.2.2 (by omega)⟩, u3, u4, exQ.tr (exQ.lo (a' := 0) (s' := 0) s10 (by omega) (by omega)) u5 (by omega) (by omega)⟩
  · rw [ff_sl s1 s2 rc _ _ (by omega)]
    exact ⟨h1, rfl, Or.inr ⟨f, g', s1, s2, s3, s4, s5⟩⟩
/-- a sum is read -/
theorem sum_sim (hN : 1000000 ≤ N) (T : TXT b L n) (hn : n ≤ 240) : ∀ (D x2 : Nat), x2 ≤ 6 → 7 ≤ D + x2 → SumSim b L n N x2 (F_X3_readSum N D (x2 : Int))
  | 0, x2, h1, h2 => absurd h2 (by omega)
  | D + 1, x2, h1, h2 => sum_o hN T hn h1 (F_X3_readSum N D) (fun z => sum_sim hN T hn D (x2 + 1) (by omega) (by omega))
end LR
