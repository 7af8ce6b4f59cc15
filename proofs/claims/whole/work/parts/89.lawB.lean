/-! THE LAW: TESTS -/
section LC
variable {b : Nat → Int} {N L n p x2 a c H len ht : Nat} {h g : Hp}
theorem ep_bar {e : Nat} (e22 : g 83 22 = (ht : Int)) (hh : ht ≤ 260) (hb : tp g ht ≠ 10) : L_X12_endsPiece_0 N (e + 1) g = some g := by
  unfold L_X12_endsPiece_0
  rw [m_top e22 hh, bd_s, if_neg hb]
theorem u40 {q : Nat} (T : TXT b L n) (M : MC b L n p g) : L_X12_readsCondition_40 N (q + 1) g = if sg b n p = 33 then J_X12_readsCondition_75 N (L_X12_readsCondition_40 N q) 10 g else if sg b n p = 40 then J_X12_readsCondition_75 N (L_X12_readsCondition_40 N q) 13 g else bd (F_X12_readsCompared N g) fun y6 h5 => if y6 = 0 then some (0, h5) else L_X12_readsCondition_92 N (KC N q) N h5 := by
  conv => lhs; unfold L_X12_readsCondition_40
  unfold J_X12_readsCondition_58
  have hr := m_here (N := N) T M
  rw [hr, bd_s]
  by_cases z : sg b n p = 33
  · rw [if_pos z, if_pos z, hr, bd_s, if_pos z]
  rw [if_neg z, if_neg z, hr, bd_s]
  by_cases y : sg b n p = 40
  · rw [if_pos y, if_pos y, hr, bd_s, if_neg z]
  rw [if_neg y, if_neg y]
  rfl
theorem cmp_sim (hN : 1000000 ≤ N) (T : TXT b L n) (hn : n ≤ 240) (hx2 : x2 ≤ 6) {q : Nat} (hp : p ≤ n) (hl : len ≤ p) (hh : ht ≤ p) (t : TC b L n p 0 h) (e : h 44 7 = (len : Int)) (R : RSt b L n p len ht x2 g) (hb : ¬ (2 ≤ tp g ht ∧ tp g ht ≤ 6)) : ∃ h', F_X3_readComparison N (x2 : Int) h = some h' ∧ ((∃ p' len' g', p < p' ∧ p' ≤ n ∧ len < len' ∧ len' + p ≤ len + p' ∧ exP len h h' ∧ TC b L n p' 0 h' ∧ h' 44 7 = (len' : Int) ∧ (bd (F_X12_readsCompared N g) fun y6 h5 => if y6 = 0 then some (0, h5) else L_X12_readsCondition_92 N (KC N q) N h5) = EP N q N N g' ∧ exQ len ht g g' ∧ RSt b L n p' len' ht x2 g' ∧ CoC (PG h' g') len len') ∨ BadO b L n h h' g (bd (F_X12_readsCompared N g) fun y6 h5 => if y6 = 0 then some (0, h5) else L_X12_readsCondition_92 N (KC N q) N h5)) := by
  have T1 := T.1
  have T2 := T.2.1
  obtain ⟨h1, a1, S⟩ := sum_all (N := N) (D := 8) hN T hn hx2 (by omega) hp hl hh t e R hb
  unfold F_X3_readComparison F_X12_readsCompared
  rw [a1, bv_s]
  rcases S with ⟨p1, l1, g1, s1, s2, s3, s4, s5, s6, s7, s8, s9, s10, s11⟩ | ⟨f, g1, s1, s2, s3, s4, s5⟩
  rotate_left
  · obtain ⟨h2, b1, b2⟩ := s2.fl (N := N) T s1 (k := 1) (by omega)
    have b1 : F_X10_fail N 1 h1 = some h2 := b1
    rw [s2.se s1, bd_s, if_pos rfl, s2.se s1, bd_s, if_pos rfl, s2.se s1, bd_s, if_pos rfl, b1, bv_s, s3, bd_s, if_pos rfl, bd_s, if_pos rfl]
    exact ⟨h2, rfl, Or.inr ⟨f, g1, s1, b2, rfl, s4, s5⟩⟩
  obtain ⟨o, eo⟩ : ∃ o, o = sg b n p1 := ⟨_, rfl⟩
  have hr := m_here (N := N) T s10.1
  rw [← eo] at hr
  have ref : (bd (F_X12_readsSum N g) fun y2 h1 => if y2 = 0 then some (0, h1) else bd (F_X12_here N h1) fun y4 h3 => if y4 = 60 then J_X12_readsCompared_52 N 7 h3 else bd (F_X12_here N h3) fun y6 h5 => if y6 = 62 then J_X12_readsCompared_52 N 8 h5 else bd (F_X12_here N h5) fun y8 h7 => if y8 = 61 then J_X12_readsCompared_52 N 9 h7 else J_X12_readsCompared_52 N (-1) h7) = J_X12_readsCompared_52 N (if cm o then rop o else -1) g1 := by
    rw [s8, bd_s, if_neg (by decide), hr, bd_s]
    by_cases z1 : o = 60
    · rw [if_pos z1, if_pos (Or.inl z1), z1]; rfl
    rw [if_neg z1, hr, bd_s]
    by_cases z2 : o = 62
    · rw [if_pos z2, if_pos (Or.inr (Or.inl z2)), z2]; rfl
    rw [if_neg z2, hr, bd_s]
    by_cases z3 : o = 61
    · rw [if_pos z3, if_pos (Or.inr (Or.inr z3)), z3]; rfl
    rw [if_neg z3, if_neg (show ¬ cm o by omega)]
  rw [ref]
  have sees : ∀ k : Int, F_X10_sees N k h1 = some (if (0 : Int) = 0 ∧ o = k then 1 else 0, h1) := fun k => by rw [eo]; exact x_sees s6 k
  have cls : (bd (F_X10_sees N 60 h1) fun y3 h2 => if y3 = 0 then bd (F_X10_sees N 62 h2) fun y5 h4 => if y5 = 0 then bd (F_X10_sees N 61 h4) fun y7 h6 => if y7 = 0 then bv (F_X10_fail N 1 h6) fun h8 => some h8 else J_X3_readComparison_39 N (x2 : Int) h6 else J_X3_readComparison_39 N (x2 : Int) h4 else J_X3_readComparison_39 N (x2 : Int) h2) = if cm o then J_X3_readComparison_39 N (x2 : Int) h1 else bv (F_X10_fail N 1 h1) fun h8 => some h8 := by
    rw [sees, bd_s]
    by_cases z1 : o = 60
    · rw [if_pos (show (0 : Int) = 0 ∧ o = 60 from ⟨rfl, z1⟩), if_neg (by decide), if_pos (Or.inl z1)]
    rw [if_neg (show ¬ ((0 : Int) = 0 ∧ o = 60) from fun y => z1 y.2), if_pos rfl, sees, bd_s]
    by_cases z2 : o = 62
    · rw [if_pos (show (0 : Int) = 0 ∧ o = 62 from ⟨rfl, z2⟩), if_neg (by decide), if_pos (Or.inr (Or.inl z2))]
    rw [if_neg (show ¬ ((0 : Int) = 0 ∧ o = 62) from fun y => z2 y.2), if_pos rfl, sees, bd_s]
    by_cases z3 : o = 61
    · rw [if_pos (show (0 : Int) = 0 ∧ o = 61 from ⟨rfl, z3⟩), if_neg (by decide), if_pos (Or.inr (Or.inr z3))]
    rw [if_neg (show ¬ ((0 : Int) = 0 ∧ o = 61) from fun y => z3 y.2), if_pos rfl, if_neg (show ¬ cm o by omega)]
  rw [cls]
  unfold J_X12_readsCompared_52
  by_cases c1 : cm o
  rotate_left
  · obtain ⟨h2, b1, b2, b3⟩ := x_fail (N := N) s6 (by omega) (k := 1) (by omega)
    have b1 : F_X10_fail N 1 h1 = some h2 := b1
    rw [if_pos rfl] at b2
    have wr : F_X12_wrongAt N 1 (g1 83 16) g1 = some (0, hw g1 83 18 (-1000 * ((1 : Nat) : Int) - p1)) := m_wr (N := N) (k := 1) s10 T s2 (by omega)
    rw [if_neg c1, b1, bv_s, if_neg c1, if_pos rfl, wr, bd_s, grd_t (Or.inl rfl), bd_s, if_pos rfl]
    refine ⟨h2, rfl, Or.inr ⟨_, _, ?_, FS.mk T s2 b2 (show l1 ≤ 240 by omega) (by rw [b3 44 7 (by omega)]; exact s7) (exP.tr (exP.lo (a' := 0) s5 (by omega)) (b3.P 0) (by omega)), rfl, by rw [hw_eq], fun c j z1 z2 z3 => by rw [hw_ne (by omega)]; exact s9 c j z1 (by omega) (by omega)⟩⟩
    omega
  have ro : 7 ≤ rop o ∧ rop o ≤ 9 := by rcases c1 with z | z | z <;> rw [z] <;> decide
  have pn := (sg_b T p1).2.2 (by omega)
  obtain ⟨h2, b1, b2, b3⟩ := x_step (N := N) T s6 (by omega)
  have E1 : exQ len ht g (hw g1 83 16 ((p1 + 1 : Nat) : Int)) := fun c j z1 z2 z3 => by rw [hw_ne (by omega)]; exact s9 c j z1 z2 z3
  obtain ⟨h3, k1, S⟩ := sum_all (N := N) (D := 8) (ht := ht) hN T hn hx2 (by omega) (show p1 + 1 ≤ n by omega) (show l1 ≤ p1 + 1 by omega) (by omega) b2 (by rw [b3 44 7 (by omega)]; exact s7) s10.st (by rw [tp_q E1 (Nat.le_refl _)]; exact hb)
  unfold J_X3_readComparison_39
  rw [if_pos c1, if_pos c1, if_neg (by omega), x_sign s6, bd_s, b1, bv_s, k1, bv_s, s10.1.1, inc (by omega), bnd_s, ← eo]
  rcases S with ⟨p2, l2, g2, u1, u2, u3, u4, u5, u6, u7, u8, u9, u10, u11⟩ | ⟨f, g2, u1, u2, u3, u4, u5⟩
  rotate_left
  · obtain ⟨h4, v1, v2, -⟩ := u2.ad (N := N) (o := o) (v := 0)
    rw [v1, bv_s, u3, bd_s, if_pos rfl, bd_s, if_pos rfl]
    exact ⟨h4, rfl, Or.inr ⟨f, g2, u1, ⟨v2.1, v2.2.1, exP.tr (exP.lo (a' := 0) s5 (by omega)) (exP.tr (b3.P 0) v2.2.2 (by omega)) (by omega)⟩, rfl, u4, exQ.tr (exQ.lo (a' := 0) (s' := 0) E1 (by omega) (by omega)) u5 (by omega) (by omega)⟩⟩
  obtain ⟨h4, v1, v2, v3, v4, v5⟩ := x_adS (N := N) (o := o) (v := 0) u7 (by omega)
  rw [v1, bv_s, u8, bd_s, if_neg (by decide), m_notes ⟨by omega, by omega⟩ ⟨by omega, by omega⟩ u10.2.1 (by omega), bv_s]
  obtain ⟨g4, eg4⟩ : ∃ g4, g4 = hw (hw g2 97 l2 (1048576 * rop o + 0)) 83 21 ((l2 + 1 : Nat) : Int) := ⟨_, rfl⟩
  rw [← eg4]
  have f4 : ∀ c j, ¬ (c = 83 ∧ j = 21) → ¬ (c = 97 ∧ j = l2) → g4 c j = g2 c j := fun c j z1 z2 => by rw [eg4, hw_ne z1, hw_ne z2]
  have E2 : exQ len ht g g2 := exQ.tr E1 u9 (by omega) (Nat.le_refl _)
  refine ⟨h4, rfl, Or.inl ⟨p2, l2 + 1, g4, by omega, u2, by omega, by omega, fun c j z1 z2 z3 => ?_, u6.ag (fun c j y => v5 c j (by omega) (by omega)), v2, ?_, fun c j z1 z2 z3 => ?_, ?_, ?_⟩⟩
  · rw [v5 c j z2 (by omega), u5 c j z1 z2 (by omega), b3 c j z1, s5 c j z1 z2 z3]
  · unfold EP F_X12_endsPiece
    cases hq : L_X12_endsPiece_0 N N g4 with
    | none => rfl
    | some h5 => rw [bv_s, bv_s, bd_s, if_neg (by decide)]
  · rw [f4 c j (by omega) (by omega)]; exact E2 c j z1 z2 z3
  · rw [eg4]; exact (u10.wc (by omega) (by omega)).sl (l2 + 1)
  · refine CoC.cmp (m := l1) (o := o) (PG.ag s11 (fun j hj => ?_) (fun j hj => ?_)) (PG.ag u11 (fun j hj => ⟨v5 49 j (by omega) (by omega), v5 50 j (by omega) (by omega)⟩) (fun j hj => f4 97 j (by omega) (by omega))) c1 ⟨v3, v4, by rw [eg4, hw_ne (by omega), hw_eq]⟩
    · rw [v5 49 j (by omega) (by omega), v5 50 j (by omega) (by omega), u5 49 j (by omega) (by omega) (by omega), u5 50 j (by omega) (by omega) (by omega), b3 49 j (by omega), b3 50 j (by omega)]
      exact ⟨rfl, rfl⟩
    · rw [f4 97 j (by omega) (by omega), u9 97 j (by omega) (by omega) (by omega), hw_ne (by omega)]
/-- a sign between tests -/
theorem jmp {o : Int} (ho : o = 11 ∨ o = 12) (R : RSt b L n p c H x2 g) (hp : p ≤ 240) (hc : c ≤ 240) (hH : H ≤ 240) : ∃ g4, F_X12_jumps N o g = some g4 ∧ RSt b L n (p + 1) (c + 1) (H + 1) x2 g4 ∧ g4 98 H = 1048576 * o + (c : Int) ∧ g4 97 c = 1048576 * o ∧ exQ c H g g4 := by
  unfold F_X12_jumps
  rw [R.2.2.1, grd_t ⟨by omega, by omega⟩, w32_id (x := 1048576 * o) ⟨by omega, by omega⟩, R.2.1, w32_id (x := 1048576 * o + (c : Int)) ⟨by omega, by omega⟩, bnd_s, Int.toNat_natCast, bnd_s, hw_ne (by omega), R.2.2.1, inc (by omega)]
  obtain ⟨g2, eg2⟩ : ∃ g2, g2 = hw (hw g 98 H (1048576 * o + (c : Int))) 83 22 ((H + 1 : Nat) : Int) := ⟨_, rfl⟩
  have R2 : RSt b L n p c (H + 1) x2 g2 := by rw [eg2]; exact (R.wc (by omega) (by omega)).sh (H + 1)
  rw [← eg2, m_notes ⟨by omega, by omega⟩ ⟨by omega, by omega⟩ R2.2.1 (by omega), bv_s, bnd_s, hw_ne (by omega), hw_ne (by omega), R2.1.1, inc (by omega)]
  exact ⟨_, rfl, ((R2.wc (by omega) (by omega)).sl (c + 1)).st, by rw [hw_ne (by omega), hw_ne (by omega), hw_ne (by omega), eg2, hw_ne (by omega), hw_eq], by rw [hw_ne (by omega), hw_ne (by omega), hw_eq, Int.add_zero], fun c j z1 z2 z3 => by rw [hw_ne (by omega), hw_ne (by omega), hw_ne (by omega), eg2, hw_ne (by omega), hw_ne (by omega)]⟩
theorem x_lead {l y : Nat} (e : h 44 7 = (l : Int)) (hy : y < l) (hl : l ≤ 240) : F_X2_leadToEnd N (y : Int) h = some (hw h 50 y (l : Int)) := by
  unfold F_X2_leadToEnd
  rw [e, s_isWithin, bd_s, w32_id (x := (l : Int) - 1) ⟨by omega, by omega⟩, if_pos (show 0 ≤ (y : Int) ∧ (y : Int) ≤ (l : Int) - 1 from ⟨by omega, by omega⟩), if_neg (by decide), grd_t ⟨by omega, by omega⟩, bnd_s, Int.toNat_natCast, e]
def PaR (b : Nat → Int) (L n N x2 a p c H : Nat) (h g h' : Hp) (res : Option (Int × Hp)) : Prop := (∃ p' c' q' q92 g', p ≤ p' ∧ p' ≤ n ∧ c ≤ c' ∧ c' + p ≤ c + p' ∧ exP a h h' ∧ TC b L n p' 0 h' ∧ h' 44 7 = (c' : Int) ∧ res = L_X12_readsCondition_92 N (KC N q') q92 g' ∧ 1000 ≤ q' + p' ∧ 1000 ≤ q92 + p' ∧ exQ a H g g' ∧ PA b L n x2 a c' p' H h' g' ∧ ¬ sg b n p' = 38) ∨ BadO b L n h h' g res
theorem pal (hN : 1000000 ≤ N) (T : TXT b L n) (hn : n ≤ 240) (hx2 : x2 ≤ 6) (D : Nat) (RC : TestSim b L n N x2 (F_X3_readTest N (D + 1) (x2 : Int))) {a H : Nat} (hH1 : 1 ≤ H) : ∀ (mm k cnt p c q q92 : Nat) (h g : Hp), n - p < mm → mm ≤ k → cnt < p → p ≤ n → c ≤ p → H < p → TC b L n p 0 h → h 44 7 = (c : Int) → PA b L n x2 a c p H h g → (tp g H = 12 ∨ tp g H = 13) → 1000 ≤ q + p → 1000 ≤ q92 + p → ∃ h', L_X3_readPart_8 N (F_X3_readTest N (D + 1)) k (x2 : Int) (cnt : Int) h = some h' ∧ PaR b L n N x2 a p c H h g h' (L_X12_readsCondition_92 N (KC N q) q92 g)
  | 0, _, _, _, _, _, _, _, _, hm, _, _, _, _, _, _, _, _, _, _, _ => absurd hm (by omega)
  | mm + 1, k, cnt, p, c, q, q92, h, g, hm, hk, hcnt, hp, hc, hH, t, e, Q, hb, hq, hq2 => by
    have T1 := T.1
    have T2 := T.2.1
    obtain ⟨k, rfl⟩ : ∃ k', k = k' + 1 := ⟨k - 1, by omega⟩
    obtain ⟨q92, rfl⟩ : ∃ q', q92 = q' + 1 := ⟨q92 - 1, by omega⟩
    have ac := Q.lt
    unfold L_X3_readPart_8
    by_cases c0 : 240 ≤ cnt
    · omega
    rw [if_neg (by omega), x_sees t, bd_s]
    by_cases c1 : sg b n p = 38
    rotate_left
    · rw [if_neg (show ¬ ((0 : Int) = 0 ∧ sg b n p = 38) from fun z => c1 z.2), if_pos rfl]
      exact ⟨h, rfl, Or.inl ⟨p, c, q, q92 + 1, g, Nat.le_refl _, hp, Nat.le_refl _, Nat.le_refl _, fun _ _ _ _ _ => rfl, t, e, rfl, hq, hq2, fun _ _ _ _ _ => rfl, Q, c1⟩⟩
    have pn := (sg_b T p).2.2 (by omega)
    obtain ⟨g1, d1, d2, d3, d4⟩ := ld_0 (N := N) hN (by omega) (by omega) Q (by omega)
    obtain ⟨g4, r1, r2, r3, r5, r4⟩ := jmp (N := N) (o := 11) (Or.inl rfl) d2 (by omega) (by omega) (by omega)
    have hr := m_here (N := N) T Q.mc
    have hr1 := m_here (N := N) T d2.1
    have l92 : L_X12_readsCondition_92 N (KC N q) (q92 + 1) g = L_X12_readsCondition_40 N q g4 := by
      conv => lhs; unfold L_X12_readsCondition_92
      unfold KC J_X12_readsCondition_180 J_X12_readsCondition_195 J_X12_readsCondition_215
      rw [hr, bd_s, if_neg (by omega), hr, bd_s, if_pos c1, hr, bd_s, if_neg (by omega), d1, bv_s, hr1, bd_s, if_pos c1, r1, bv_s]
    have E4 : exQ a H g g4 := exQ.tr d4 r4 (by omega) (Nat.le_refl _)
    have t4 : tp g4 (H + 1) = 11 := tp_s ⟨by omega, by omega⟩ (v := (c : Int)) ⟨by omega, by omega⟩ r3
    obtain ⟨h1, a1, a2, a3, a4, a5⟩ := x_adS (N := N) (o := 38) (v := 0) e (by omega)
    obtain ⟨h2, b1, b2, b3⟩ := x_step (N := N) T (t.ag (h' := h1) (fun c j y => a5 c j (by omega) (by omega))) (by omega)
    obtain ⟨h3, k1, S⟩ := RC (p + 1) (c + 1) (H + 1) q h2 g4 (by omega) (by omega) (by omega) (by omega) b2 (by rw [b3 44 7 (by omega)]; exact a2) r2 (by omega) (by omega)
    unfold F_X2_length
    rw [if_pos (show (0 : Int) = 0 ∧ sg b n p = 38 from ⟨rfl, c1⟩), if_neg (by decide), bd_s, e, a1, bv_s, b1, bv_s, k1, bv_s, l92]
    have E2 : exP c h h2 := fun c j z1 z2 z3 => by rw [b3 c j z1, a5 c j z2 (by omega)]
    rcases S with ⟨p', c', q', q9', e', g', s1, s2, s3, s4, s5, s6, s7, s8, s9, s10, s11, s12, s13, s14⟩ | ⟨f, g', s1, s2, s3, s4, s5⟩
    · obtain ⟨e', rfl⟩ : ∃ e'', e' = e'' + 1 := ⟨e' - 1, by omega⟩
      have t5 : tp g' (H + 1) = 11 := by rw [tp_q s12 (Nat.le_refl _)]; exact t4
      rw [x_lead (y := c) s7 (by omega) (by omega), bv_s, bnd_s, inc (by omega)]
      obtain ⟨h4, eh4⟩ : ∃ h4, h4 = hw h3 50 c (c' : Int) := ⟨_, rfl⟩
      rw [← eh4]
      have f4 : ∀ x j, ¬ (x = 50 ∧ j = c) → h4 x j = h3 x j := fun x j z => by rw [eh4, hw_ne z]
      have E' : exQ a H g g' := exQ.tr E4 s12 (by omega) (by omega)
      have e3 : ∀ j, j < c → h4 49 j = h 49 j ∧ h4 50 j = h 50 j := fun j hj => by
        rw [f4 49 j (by omega), f4 50 j (by omega), s5 49 j (by omega) (by omega) (by omega), s5 50 j (by omega) (by omega) (by omega), E2 49 j (by omega) (by omega) (by omega), E2 50 j (by omega) (by omega) (by omega)]
        exact ⟨rfl, rfl⟩
      have Q' : PA b L n x2 a c' p' H h4 g' := Or.inr ⟨c, s13, by rw [s12 98 H (by omega) (by omega) (by omega)]; exact r3, CG.ag d3 e3 (fun j hj => by rw [s12 97 j (by omega) (by omega) (by omega), r4 97 j (by omega) (by omega) (by omega)]), s14.ag (fun j z1 z2 o v z => ⟨by rw [f4 49 j (by omega)]; exact z.1, by rw [f4 50 j (by omega)]; exact z.2.1, z.2.2⟩), by rw [f4 49 c (by omega), s5 49 c (by omega) (by omega) (by omega), b3 49 c (by omega)]; exact a3, by rw [eh4, hw_eq], by rw [s12 97 c (by omega) (by omega) (by omega)]; exact r5⟩
      obtain ⟨h5, m1, M⟩ := pal hN T hn hx2 D RC hH1 mm k (cnt + 1) p' c' q' q9' h4 g' (by omega) (by omega) (by omega) s2 (by omega) (by omega) (s6.ag (fun c j y => f4 c j (by omega))) (by rw [f4 44 7 (by omega)]; exact s7) Q' (by rw [tp_q E' (Nat.le_refl _)]; exact hb) s9 s10
      rw [m1]
      refine ⟨h5, rfl, ?_⟩
      have ep : EP N q' q9' (e' + 1) g' = L_X12_readsCondition_92 N (KC N q') q9' g' := by
        unfold EP
        rw [ep_bar s13.2.2.1 (by omega) (by omega), bv_s]
      rw [s8, ep]
      have E4' : exP a h h4 := fun x j z1 z2 z3 => by rw [f4 x j (by omega), s5 x j z1 z2 (by omega), E2 x j z1 z2 (by omega)]
      rcases M with ⟨p2, c2, q2, q3, g2, u1, u2, u3, u4, u5, u6, u7, u8, u9, u10, u11, u12, u13⟩ | ⟨f, g2, u1, u2, u3, u4, u5⟩
      · exact Or.inl ⟨p2, c2, q2, q3, g2, by omega, u2, by omega, by omega, exP.tr E4' u5 (Nat.le_refl _), u6, u7, u8, u9, u10, exQ.tr E' u11 (Nat.le_refl _) (Nat.le_refl _), u12, u13⟩
      · exact Or.inr ⟨f, g2, u1, ⟨u2.1, u2.2.1, exP.tr (exP.lo (a' := 0) E4' (by omega)) u2.2.2 (by omega)⟩, u3, u4, exQ.tr (exQ.lo (a' := 0) (s' := 0) E' (by omega) (by omega)) u5 (by omega) (by omega)⟩
    · obtain ⟨h4, m1, m2⟩ := ff_lead (N := N) s2 (c : Int)
      rw [m1, bv_s, bnd_s, inc (by omega), ff_partl s1 m2 _ _ _ (by omega)]
      exact ⟨h4, rfl, Or.inr ⟨f, g', s1, ⟨m2.1, m2.2.1, exP.tr (exP.lo (a' := 0) E2 (by omega)) m2.2.2 (by omega)⟩, s3, s4, exQ.tr (exQ.lo (a' := 0) (s' := 0) E4 (by omega) (by omega)) s5 (by omega) (by omega)⟩⟩
end LC
