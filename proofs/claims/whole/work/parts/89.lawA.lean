/-! THE LAW: WHOLE SUMS; WAITING TESTS -/
section LA
variable {b : Nat → Int} {N L n p x2 : Nat} {h g : Hp}
theorem opR {o : Int} (ho : opP o ∨ opS o) : idiv (1048576 * rop o) 1048576 ≠ 14 := by
  rcases ho with (rfl | rfl | rfl) | (rfl | rfl) <;> decide
theorem sum_all (hN : 1000000 ≤ N) (T : TXT b L n) (hn : n ≤ 240) {D len ht : Nat} (hx2 : x2 ≤ 6) (hD : 7 ≤ D + x2) (hp : p ≤ n) (hl : len ≤ p) (hh : ht ≤ p) (t : TC b L n p 0 h) (e : h 44 7 = (len : Int)) (R : RSt b L n p len ht x2 g) (hb : ¬ (2 ≤ tp g ht ∧ tp g ht ≤ 6)) : ∃ h', F_X3_readSum N D (x2 : Int) h = some h' ∧ ((∃ p' len' g', p < p' ∧ p' ≤ n ∧ len < len' ∧ len' + p ≤ len + p' ∧ exP len h h' ∧ TC b L n p' 0 h' ∧ h' 44 7 = (len' : Int) ∧ F_X12_readsSum N g = some (1, g') ∧ exQ len ht g g' ∧ RSt b L n p' len' ht x2 g' ∧ SuC (PG h' g') 15 len len') ∨ BadO b L n h h' g (F_X12_readsSum N g)) := by
  obtain ⟨h1, a1, S⟩ := sum_sim (N := N) hN T hn D x2 hx2 hD p len ht N N ht h g hp hl hh (Nat.le_refl _) t e R hb (by omega) (by omega)
  have rs : F_X12_readsSum N g = RF N N N (ht : Int) g := by
    unfold F_X12_readsSum
    rw [bnd_s, R.2.2.1]
    rfl
  refine ⟨h1, a1, ?_⟩
  rw [rs]
  rcases S with ⟨p', c', q', g', s1, s2, s3, s4, s5, s6, s7, s8, s9, s10, s11, s12, s13⟩ | z
  rotate_left
  · exact Or.inr z
  left
  obtain ⟨g2, d1, d2, d3, d4⟩ := cl_1 (N := N) hN (by omega) (by omega) s11 (by rw [tp_q s10 (Nat.le_refl _)]; exact hb)
  obtain ⟨q', rfl⟩ : ∃ q'', q' = q'' + 1 := ⟨q' - 1, by omega⟩
  have hos : F_X12_hasOpenSum N (ht : Int) g' = some (0, g') := by
    rcases s11 with (⟨z, -⟩ | ⟨o, _, _, _, ho, z, e98, _⟩) | ⟨o, _, _, _, ho, e98, _, (⟨z, -⟩ | ⟨o2, _, _, _, ho2, z, e982, _⟩), _⟩
    · exact has0 z.2.2.1 (by omega) 0 N ht (by omega) (by omega) (fun i y1 y2 => absurd y1 (by omega))
    · exact has0 z.2.2.1 (by omega) 1 N ht (by omega) (by omega) (fun i y1 y2 => by
        obtain rfl : i = ht := by omega
        rw [e98]; exact opR (Or.inl ho))
    · exact has0 z.2.2.1 (by omega) 1 N ht (by omega) (by omega) (fun i y1 y2 => by
        obtain rfl : i = ht := by omega
        rw [e98]; exact opR (Or.inr ho))
    · exact has0 z.2.2.1 (by omega) 2 N ht (by omega) (by omega) (fun i y1 y2 => by
        by_cases w : i = ht
        · rw [w, e98]; exact opR (Or.inr ho)
        · rw [show i = ht + 1 by omega, e982]; exact opR (Or.inl ho2))
  have j138 : J_X12_readsSum_138 N (ht : Int) g' = some (1, g2) := by
    unfold J_X12_readsSum_138
    rw [hos, bd_s, if_pos rfl, d1, bv_s]
  refine ⟨p', c', g2, s1, s2, s3, s4, s5, s6, s7, ?_, exQ.tr s10 d4 (Nat.le_refl _) (Nat.le_refl _), d2, d3.up 15 (by omega)⟩
  rw [s8]
  conv => lhs; unfold L_X12_readsSum_14
  rw [m_here T s11.mc, bd_s, s_sumSign, bd_s, if_neg (show ¬ (opP (sg b n p') ∨ opS (sg b n p')) from fun z => z.elim s12 s13), if_pos rfl, m_here T s11.mc, bd_s]
  by_cases z93 : sg b n p' = 93
  · rw [if_pos z93, hos, bd_s, if_pos rfl, j138]
  · rw [if_neg z93, j138]
end LA
/-- after a test -/
def KC (N q : Nat) : Hp → Option (Int × Hp) := fun (h7 : Hp) => bd (F_X12_here N h7) fun y9 h8 => if y9 = 38 then J_X12_readsCondition_180 N (L_X12_readsCondition_40 N q) h8 else bd (F_X12_here N h8) fun y11 h10 => if y11 = 124 then J_X12_readsCondition_180 N (L_X12_readsCondition_40 N q) h10 else bd (F_X12_wrongAt N 1 (h10 83 16) h10) fun y13 h12 => grd (y13 = 0 ∨ y13 = 1) <| some (y13, h12)
def EP (N q q92 e : Nat) (g : Hp) : Option (Int × Hp) := bv (L_X12_endsPiece_0 N e g) fun h => L_X12_readsCondition_92 N (KC N q) q92 h
def PA (b : Nat → Int) (L n x2 a c p H : Nat) (h g : Hp) : Prop := (RSt b L n p c H x2 g ∧ CoC (PG h g) a c) ∨ ∃ m : Nat, RSt b L n p c (H + 1) x2 g ∧ g 98 H = 1048576 * 11 + (m : Int) ∧ CoC (PG h g) a m ∧ CoC (PG h g) (m + 1) c ∧ h 49 m = 38 ∧ h 50 m = (c : Int) ∧ g 97 m = 1048576 * 11
def CHP (b : Nat → Int) (L n x2 a c p H : Nat) (h g : Hp) : Prop := PA b L n x2 a c p H h g ∨ ∃ m : Nat, g 98 H = 1048576 * 12 + (m : Int) ∧ CoC (PG h g) a m ∧ PA b L n x2 (m + 1) c p (H + 1) h g ∧ h 49 m = 124 ∧ h 50 m = (c : Int) ∧ g 97 m = 1048576 * 12
def TestSim (b : Nat → Int) (L n N x2 : Nat) (Fc : Hp → Option Hp) : Prop := ∀ (p len ht q : Nat) (h g : Hp), p ≤ n → len ≤ p → 1 ≤ ht → ht ≤ p → TC b L n p 0 h → h 44 7 = (len : Int) → RSt b L n p len ht x2 g → ¬ (2 ≤ tp g ht ∧ tp g ht ≤ 6) → 1000 ≤ q + p → ∃ h', Fc h = some h' ∧ ((∃ p' len' q' q92 e g', p < p' ∧ p' ≤ n ∧ len < len' ∧ len' + p ≤ len + p' ∧ exP len h h' ∧ TC b L n p' 0 h' ∧ h' 44 7 = (len' : Int) ∧ L_X12_readsCondition_40 N q g = EP N q' q92 e g' ∧ 1000 ≤ q' + p' ∧ 1000 ≤ q92 + p' ∧ 1000 ≤ e + 7 - x2 ∧ exQ len ht g g' ∧ RSt b L n p' len' ht x2 g' ∧ CoC (PG h' g') len len') ∨ BadO b L n h h' g (L_X12_readsCondition_40 N q g))
section LB
variable {b : Nat → Int} {N L n p x2 a c H : Nat} {h g : Hp}
theorem CG.ag {h' g' : Hp} {x y : Nat} (H : CoC (PG h g) x y) (e1 : ∀ j, j < y → h' 49 j = h 49 j ∧ h' 50 j = h 50 j) (e2 : ∀ j, j < y → g' 97 j = g 97 j) : CoC (PG h' g') x y := H.ag (fun j z1 z2 o v z => ⟨by rw [(e1 j z2).1]; exact z.1, by rw [(e1 j z2).2]; exact z.2.1, by rw [e2 j z2]; exact z.2.2⟩)
theorem PA.lt (Q : PA b L n x2 a c p H h g) : a < c := by
  rcases Q with ⟨-, s⟩ | ⟨m, -, -, s1, s2, -⟩
  · exact s.lt
  · have := s1.lt; have := s2.lt; omega
theorem PA.mc (Q : PA b L n x2 a c p H h g) : MC b L n p g := by
  rcases Q with ⟨s, -⟩ | ⟨m, s, -⟩
  · exact s.1
  · exact s.1
theorem CHP.lt (Q : CHP b L n x2 a c p H h g) : a < c := by
  rcases Q with s | ⟨m, -, s1, s2, -⟩
  · exact s.lt
  · have := s1.lt; have := s2.lt; omega
theorem CHP.mc (Q : CHP b L n x2 a c p H h g) : MC b L n p g := by
  rcases Q with s | ⟨m, -, -, s, -⟩
  · exact s.mc
  · exact s.mc
theorem ld_22 {o : Int} {m : Nat} (ho : o = 11 ∨ o = 12) (R : RSt b L n p c (H + 1) x2 g) (hc : c ≤ 240) (hm : m < c) (hH : H < 250) (e98 : g 98 H = 1048576 * o + (m : Int)) (e97 : g 97 m = 1048576 * o) {x : Int} {k : Nat} : ∃ g', J_X12_lands_22 N (L_X12_lands_0 N k) x g = L_X12_lands_0 N k x g' ∧ RSt b L n p c H x2 g' ∧ g' 97 m = 1048576 * o + (c : Int) ∧ (∀ c j, ¬ (c = 83 ∧ j = 22) → ¬ (c = 97 ∧ j = m) → g' c j = g c j) := by
  have ob : 0 ≤ o ∧ o ≤ 20 := by omega
  have cd := cod (x := o) (w := (m : Int)) ob ⟨by omega, by omega⟩
  have cd2 := cod (x := o) (w := 0) ob ⟨by omega, by omega⟩
  rw [Int.add_zero] at cd2
  unfold J_X12_lands_22
  rw [R.2.2.1, dec1 (by omega), grd_t ⟨by omega, by omega⟩, Int.toNat_natCast, e98, cd.2, bnd_s, grd_t ⟨by omega, by omega⟩, grd_t ⟨by omega, by omega⟩, Int.toNat_natCast, e97, cd2.1, R.2.1, w32_id (x := 1048576 * o) ⟨by omega, by omega⟩, w32_id (x := 1048576 * o + (c : Int)) ⟨by omega, by omega⟩, bnd_s, hw_ne (by omega), R.2.2.1, dec1 (by omega), bnd_s]
  exact ⟨_, rfl, (R.wc (by omega) (by omega)).sh H, by rw [hw_ne (by omega), hw_eq], fun c j z1 z2 => by rw [hw_ne (by omega), hw_ne (by omega)]⟩
theorem ld_pa (hc : c ≤ 240) (hH : H ≤ 240) (Q : PA b L n x2 a c p H h g) : ∃ g' e, e ≤ 1 ∧ (∀ (k : Nat) (x : Int), L_X12_lands_0 N (k + e) x g = L_X12_lands_0 N k x g') ∧ RSt b L n p c H x2 g' ∧ CoC (PG h g') a c ∧ exQ a H g g' := by
  rcases Q with ⟨R, S⟩ | ⟨m, R, e98, s1, s2, e49, e50, e97⟩
  · exact ⟨g, 0, by omega, fun _ _ => rfl, R, S, fun _ _ _ _ _ => rfl⟩
  · have am := s1.lt
    have mc := s2.lt
    have t : tp g (H + 1) = 11 := tp_s ⟨by omega, by omega⟩ (v := (m : Int)) ⟨by omega, by omega⟩ e98
    obtain ⟨g', -, a2, a3, a4⟩ := ld_22 (N := N) (k := 0) (x := 0) (Or.inl rfl) R hc (show m < c by omega) (by omega) e98 e97
    refine ⟨g', 1, by omega, fun k x => ?_, a2, ?_, fun c j z1 z2 z3 => a4 c j (by omega) (by omega)⟩
    · obtain ⟨g2, b1, b2, b3, b4⟩ := ld_22 (N := N) (k := k) (x := x) (Or.inl rfl) R hc (show m < c by omega) (by omega) e98 e97
      have : g2 = g' := funext fun c => funext fun j => by
        by_cases y2 : c = 83 ∧ j = 22
        · rw [y2.1, y2.2, b2.2.2.1, a2.2.2.1]
        by_cases y3 : c = 97 ∧ j = m
        · rw [y3.1, y3.2, b3, a3]
        rw [b4 c j y2 y3, a4 c j y2 y3]
      rw [this] at b1
      conv => lhs; unfold L_X12_lands_0
      rw [m_top R.2.2.1 (by omega), bd_s, t, if_pos rfl]
      exact b1
    · exact CoC.jn (CG.ag s1 (fun _ _ => ⟨rfl, rfl⟩) (fun j hj => a4 97 j (by omega) (by omega))) (s2.ag (fun j z1 z2 o v z => ⟨z.1, z.2.1, by rw [a4 97 j (by omega) (by omega)]; exact z.2.2⟩)) (Or.inl rfl) ⟨e49, e50, a3⟩
theorem ld_bar {k ht : Nat} {x : Int} (e22 : g 83 22 = (ht : Int)) (hh : ht ≤ 260) (hb : tp g ht ≠ 11) (hx : x = 0 ∨ tp g ht ≠ 12) : L_X12_lands_0 N (k + 1) x g = some g := by
  have t := m_top (N := N) e22 hh
  unfold L_X12_lands_0
  rw [t, bd_s, if_neg hb]
  by_cases z : x = 0
  · rw [if_pos z]
  · rw [if_neg z, t, bd_s, if_neg (hx.resolve_left z)]
theorem ld_0 (hN : 1000000 ≤ N) (hc : c ≤ 240) (hH : H ≤ 240) (Q : PA b L n x2 a c p H h g) (hb : tp g H ≠ 11) : ∃ g', F_X12_lands N 0 g = some g' ∧ RSt b L n p c H x2 g' ∧ CoC (PG h g') a c ∧ exQ a H g g' := by
  obtain ⟨g', e, e1, l, R, S, E⟩ := ld_pa (N := N) hc hH Q
  obtain ⟨k, ek⟩ : ∃ k, N = (k + 1) + e := ⟨N - 1 - e, by omega⟩
  refine ⟨g', ?_, R, S, E⟩
  have e2 : L_X12_lands_0 N N 0 g = L_X12_lands_0 N (k + 1 + e) 0 g := by rw [← ek]
  unfold F_X12_lands
  rw [e2, l, ld_bar R.2.2.1 (by omega) (by rw [tp_q E (Nat.le_refl _)]; exact hb) (Or.inl rfl)]
theorem ld_1 (hN : 1000000 ≤ N) (hc : c ≤ 240) (hH : H + 1 ≤ 240) (Q : CHP b L n x2 a c p H h g) (hb : tp g H ≠ 11 ∧ tp g H ≠ 12) : ∃ g', F_X12_lands N 1 g = some g' ∧ RSt b L n p c H x2 g' ∧ CoC (PG h g') a c ∧ exQ a H g g' := by
  unfold F_X12_lands
  rcases Q with Q | ⟨m, e98, s1, Q, e49, e50, e97⟩
  · obtain ⟨g', e, e1, l, R, S, E⟩ := ld_pa (N := N) hc (by omega) Q
    obtain ⟨k, ek⟩ : ∃ k, N = (k + 1) + e := ⟨N - 1 - e, by omega⟩
    refine ⟨g', ?_, R, S, E⟩
    have e2 : L_X12_lands_0 N N 1 g = L_X12_lands_0 N (k + 1 + e) 1 g := by rw [← ek]
    have tt := tp_q E (Nat.le_refl H)
    rw [e2, l, ld_bar R.2.2.1 (by omega) (by rw [tt]; exact hb.1) (Or.inr (by rw [tt]; exact hb.2))]
  · obtain ⟨g1, e', e1, l, R, S, E⟩ := ld_pa (N := N) hc hH Q
    obtain ⟨k, ek⟩ : ∃ k, N = (k + 1 + 1) + e' := ⟨N - 2 - e', by omega⟩
    have am := s1.lt
    have mc := S.lt
    have e98' : g1 98 H = 1048576 * 12 + (m : Int) := by rw [E 98 H (by omega) (by omega) (by omega)]; exact e98
    have e97' : g1 97 m = 1048576 * 12 := by rw [E 97 m (by omega) (by omega) (by omega)]; exact e97
    have t : tp g1 (H + 1) = 12 := tp_s ⟨by omega, by omega⟩ (v := (m : Int)) ⟨by omega, by omega⟩ e98'
    obtain ⟨g', a1, a2, a3, a4⟩ := ld_22 (N := N) (k := k + 1) (x := 1) (Or.inr rfl) R hc (show m < c by omega) (by omega) e98' e97'
    have E2 : exQ a H g g' := fun c j z1 z2 z3 => by rw [a4 c j (by omega) (by omega), E c j z1 (by omega) (by omega)]
    refine ⟨g', ?_, a2, ?_, E2⟩
    · have e2 : L_X12_lands_0 N N 1 g = L_X12_lands_0 N (k + 1 + 1 + e') 1 g := by rw [← ek]
      have tt := tp_q E2 (Nat.le_refl H)
      have T := m_top (N := N) R.2.2.1 (by omega)
      rw [e2, l]
      conv => lhs; unfold L_X12_lands_0
      rw [T, bd_s, t, if_neg (by decide), if_neg (by decide), T, bd_s, t, if_pos rfl, a1]
      exact ld_bar a2.2.2.1 (by omega) (by rw [tt]; exact hb.1) (Or.inr (by rw [tt]; exact hb.2))
    · exact CoC.jn (CG.ag s1 (fun _ _ => ⟨rfl, rfl⟩) (fun j hj => by rw [a4 97 j (by omega) (by omega), E 97 j (by omega) (by omega) (by omega)])) (S.ag (fun j z1 z2 o v z => ⟨z.1, z.2.1, by rw [a4 97 j (by omega) (by omega)]; exact z.2.2⟩)) (Or.inr rfl) ⟨e49, e50, a3⟩
end LB
