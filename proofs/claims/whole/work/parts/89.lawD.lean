/-! THE LAW: ALL TESTS -/
section LE
variable {b : Nat → Int} {N L n : Nat}
/-- a choice is closed: both at the sign after it -/
theorem close_ch {p q q92 x2 c a ht : Nat} {h g : Hp} (hN : 1000000 ≤ N) (T : TXT b L n) (hn : n ≤ 240) (hp : p ≤ n) (hc : c ≤ p) (hH : ht + 1 ≤ p) (hx : x2 ≤ 6) (t : TC b L n p 0 h) (e : h 44 7 = (c : Int)) (Q : CHP b L n (x2 + 1) a c p (ht + 1) h g) (n38 : ¬ sg b n p = 38) (n124 : ¬ sg b n p = 124) (hb : tp g (ht + 1) = 13) : ∃ h', F_X10_need N 41 h = some h' ∧ ex41 h h' ∧ ((p < n ∧ TC b L n (p + 1) 0 h' ∧ ∃ g', RSt b L n (p + 1) c ht x2 g' ∧ CoC (PG h' g') a c ∧ exQ a ht g g' ∧ (1 ≤ ht → L_X12_readsCondition_92 N (KC N q) (q92 + 1) g = EP N q q92 N g') ∧ (ht = 0 → L_X12_readsCondition_92 N (KC N q) (q92 + 1) g = some (1, g'))) ∨ (∃ f g', f ≠ 0 ∧ FS b L n f h h' ∧ L_X12_readsCondition_92 N (KC N q) (q92 + 1) g = some (0, g') ∧ g' 83 18 = f ∧ exQ 0 0 g g')) := by
  have T1 := T.1
  have T2 := T.2.1
  obtain ⟨h3, c1, c2, c3⟩ := x_need (N := N) T t (by omega) 41
  refine ⟨h3, c1, c2, ?_⟩
  have hr := m_here (N := N) T Q.mc
  rcases c3 with ⟨-, c4, c5⟩ | ⟨c4, c5⟩
  · left
    have pn0 := (sg_b T p).2.2 (by omega)
    obtain ⟨g2, d1, d2, d3, d4⟩ := ld_1 (N := N) hN (by omega) (by omega) Q ⟨by omega, by omega⟩
    obtain ⟨g5, eg5⟩ : ∃ g5, g5 = hw (hw (hw g2 83 22 (ht : Int)) 83 20 (x2 : Int)) 83 16 ((p + 1 : Nat) : Int) := ⟨_, rfl⟩
    have f5 : ∀ c j, ¬ (c = 83 ∧ (j = 16 ∨ j = 20 ∨ j = 22)) → g5 c j = g2 c j := fun c j z => by rw [eg5, hw_ne (by omega), hw_ne (by omega), hw_ne (by omega)]
    have e22 : g5 83 22 = (ht : Int) := by rw [eg5, hw_ne (by omega), hw_ne (by omega), hw_eq]
    have run : L_X12_readsCondition_92 N (KC N q) (q92 + 1) g = if g5 83 22 = 0 then some (1, g5) else bv (F_X12_endsPiece N g5) fun h7 => L_X12_readsCondition_92 N (KC N q) q92 h7 := by
      conv => lhs; unfold L_X12_readsCondition_92
      rw [hr, bd_s, if_pos c4, d1, bv_s, d2.2.2.1, dec1 (by omega), bnd_s, hw_ne (by omega), d2.2.2.2, dec1 (by omega), bnd_s, hw_ne (by omega), hw_ne (by omega), d2.1.1, inc (by omega), bnd_s, ← eg5]
    refine ⟨(sg_b T p).2.2 (by omega), c5, g5, by rw [eg5]; exact ((d2.sh ht).so x2).st, CG.ag d3 (fun j _ => ⟨c2 49 j (by omega), c2 50 j (by omega)⟩) (fun j _ => f5 97 j (by omega)), fun c j z1 z2 z3 => by rw [f5 c j (by omega)]; exact d4 c j z1 z2 (by omega), fun z => ?_, fun z => ?_⟩
    · rw [run, e22, if_neg (by omega)]; rfl
    · rw [run, e22, if_pos (by omega)]
  · right
    have nz : ¬ sg b n p = 41 := fun z => c4 ⟨rfl, z⟩
    rw [if_pos rfl] at c5
    have wr : F_X12_wrongAt N 1 (g 83 16) g = some (0, hw g 83 18 (-1000 * ((1 : Nat) : Int) - p)) := by rw [Q.mc.1]; exact m_wrong (N := N) (k := 1) (w := p) (by omega) (by omega)
    refine ⟨-1000 - (p : Int), hw g 83 18 (-1000 * ((1 : Nat) : Int) - p), by omega, FS.mk T hp c5 (show c ≤ 240 by omega) (by rw [c2 44 7 (by omega)]; exact e) (c2.P 0), ?_, by rw [hw_eq]; omega, fun c j z1 z2 z3 => by rw [hw_ne (by omega)]⟩
    conv => lhs; unfold L_X12_readsCondition_92
    unfold KC
    rw [hr, bd_s, if_neg nz, hr, bd_s, if_neg n38, hr, bd_s, if_neg n124, wr, bd_s, grd_t (Or.inl rfl)]
theorem test_sim (hN : 1000000 ≤ N) (T : TXT b L n) (hn : n ≤ 240) : ∀ (D x2 : Nat), x2 ≤ 6 → 7 ≤ D + x2 → TestSim b L n N x2 (F_X3_readTest N D (x2 : Int))
  | 0, x2, h1, h2 => absurd h2 (by omega)
  | D + 1, x2, hx2, hD => by
    intro p len ht q h g hp hl hht hh t e R hb hq
    have T1 := T.1
    have T2 := T.2.1
    obtain ⟨q, rfl⟩ : ∃ q', q = q' + 1 := ⟨q - 1, by omega⟩
    show ∃ h', O_X3_readTest N (F_X3_readTest N D) (x2 : Int) h = some h' ∧ _
    unfold O_X3_readTest
    rw [x_sees t, bd_s, u40 (q := q) T R.1]
    by_cases c33 : sg b n p = 33
    · have pn := (sg_b T p).2.2 (by omega)
      rw [if_pos (show (0 : Int) = 0 ∧ sg b n p = 33 from ⟨rfl, c33⟩), if_neg (by decide), if_pos c33]
      unfold F_X3_readNegation J_X12_readsCondition_75
      rcases opn (N := N) T hn hx2 (o := 10) (Or.inl rfl) pn hl hh t e R with ⟨-, f, h1, g1, z1, z2, z3, z4, z5, z6⟩ | ⟨z0, h1, g4, z1, z2, z3, z4, z5, z6, z7, z8⟩
      · rw [z2, bd_s, if_pos rfl, bv_s, z4, bd_s, if_pos rfl]
        exact ⟨h1, rfl, Or.inr ⟨f, g1, z1, z3, rfl, z5, z6⟩⟩
      obtain ⟨h2, k1, S⟩ := test_sim hN T hn D (x2 + 1) (by omega) (by omega) (p + 1) len (ht + 1) q h1 g4 (by omega) (by omega) (by omega) (by omega) z2 (by rw [z3 44 7 (by omega)]; exact e) z5 (by omega) (by omega)
      rw [z1, bd_s, if_neg (by decide), inc (show x2 < 100000000 by omega), k1, bv_s, z4, bd_s, if_neg (by decide)]
      rcases S with ⟨p', c', q', q9', e', g', s1, s2, s3, s4, s5, s6, s7, s8, s9, s10, s11, s12, s13, s14⟩ | ⟨f, g', s1, s2, s3, s4, s5⟩
      rotate_left
      · obtain ⟨h3, v1, v2, -⟩ := s2.ad (N := N) (o := 33) (v := 0)
        rw [v1, bv_s, bv_s]
        exact ⟨h3, rfl, Or.inr ⟨f, g', s1, ⟨v2.1, v2.2.1, exP.tr (z3.P 0) v2.2.2 (by omega)⟩, s3, s4, exQ.tr (exQ.lo (a' := 0) (s' := 0) z8 (by omega) (by omega)) s5 (by omega) (by omega)⟩⟩
      obtain ⟨h3, v1, v2, v3, v4, v5⟩ := x_adS (N := N) (o := 33) (v := 0) s7 (by omega)
      obtain ⟨e', rfl⟩ : ∃ e'', e' = e'' + 1 := ⟨e' - 1, by omega⟩
      have t5 : tp g' (ht + 1) = 10 := by rw [tp_q s12 (Nat.le_refl _)]; exact z7
      obtain ⟨g5, eg5⟩ : ∃ g5, g5 = hw (hw (hw (hw g' 97 c' (1048576 * 10 + 0)) 83 21 ((c' + 1 : Nat) : Int)) 83 22 (ht : Int)) 83 20 (x2 : Int) := ⟨_, rfl⟩
      have R2 : RSt b L n p' (c' + 1) (ht + 1) (x2 + 1) (hw (hw g' 97 c' (1048576 * 10 + 0)) 83 21 ((c' + 1 : Nat) : Int)) := (s13.wc (by omega) (by omega)).sl (c' + 1)
      have ep : EP N q' q9' (e' + 1) g' = EP N q' q9' e' g5 := by
        unfold EP
        conv => lhs; unfold L_X12_endsPiece_0
        rw [m_top s13.2.2.1 (by omega), bd_s, t5, if_pos rfl, m_notes ⟨by omega, by omega⟩ ⟨by omega, by omega⟩ s13.2.1 (by omega), bv_s, R2.2.2.1, dec1 (by omega), bnd_s, hw_ne (by omega), R2.2.2.2, dec1 (by omega), bnd_s, ← eg5]
      have f5 : ∀ c j, ¬ (c = 83 ∧ (j = 20 ∨ j = 21 ∨ j = 22)) → ¬ (c = 97 ∧ j = c') → g5 c j = g' c j := fun c j y1 y2 => by rw [eg5, hw_ne (by omega), hw_ne (by omega), hw_ne (by omega), hw_ne (by omega)]
      rw [v1, bv_s, bv_s]
      refine ⟨h3, rfl, Or.inl ⟨p', c' + 1, q', q9', e', g5, by omega, s2, by omega, by omega, fun c j y1 y2 y3 => by rw [v5 c j y2 (by omega), s5 c j y1 y2 y3, z3 c j y1], s6.ag (fun c j y => v5 c j (by omega) (by omega)), v2, by rw [s8, ep], s9, s10, by omega, fun c j y1 y2 y3 => by rw [f5 c j (by omega) (by omega), s12 c j y1 y2 (by omega)]; exact z8 c j y1 y2 y3, by rw [eg5]; exact (R2.sh ht).so x2, ?_⟩⟩
      exact CoC.neg (CG.ag s14 (fun j hj => ⟨v5 49 j (by omega) (by omega), v5 50 j (by omega) (by omega)⟩) (fun j hj => f5 97 j (by omega) (by omega))) ⟨v3, v4, by rw [eg5, hw_ne (by omega), hw_ne (by omega), hw_ne (by omega), hw_eq]; rfl⟩
    rw [if_neg (show ¬ ((0 : Int) = 0 ∧ sg b n p = 33) from fun z => c33 z.2), if_pos rfl, if_neg c33, x_sees t, bd_s]
    by_cases c40 : sg b n p = 40
    · have pn := (sg_b T p).2.2 (by omega)
      rw [if_pos (show (0 : Int) = 0 ∧ sg b n p = 40 from ⟨rfl, c40⟩), if_neg (by decide), if_pos c40]
      unfold J_X12_readsCondition_75
      rcases opn (N := N) T hn hx2 (o := 13) (Or.inr rfl) pn hl hh t e R with ⟨-, f, h1, g1, z1, z2, z3, z4, z5, z6⟩ | ⟨z0, h1, g4, z1, z2, z3, z4, z5, z6, z7, z8⟩
      · rw [z2, bd_s, if_pos rfl, z4, bd_s, if_pos rfl]
        exact ⟨h1, rfl, Or.inr ⟨f, g1, z1, z3, rfl, z5, z6⟩⟩
      have ts := test_sim hN T hn D (x2 + 1) (by omega) (by omega)
      obtain ⟨D, rfl⟩ : ∃ D', D = D' + 1 := ⟨D - 1, by omega⟩
      obtain ⟨h2, k1, S⟩ := choice (N := N) (q := q) (x2 := x2 + 1) hN T hn (by omega) D ts (p := p + 1) (len := len) (ht := ht + 1) (by omega) (by omega) (by omega) (by omega) z2 (by rw [z3 44 7 (by omega)]; exact e) z5 z7 (by omega)
      rw [z1, bd_s, if_neg (by decide), inc (show x2 < 100000000 by omega), k1, bv_s, z4, bd_s, if_neg (by decide)]
      rcases S with ⟨p', c', q', q9', g', s1, s2, s3, s4, s5, s6, s7, s8, s9, s10, s12, s13, s14, s15⟩ | ⟨f, g', s1, s2, s3, s4, s5⟩
      rotate_left
      · obtain ⟨h3, v1, v2⟩ := s2.nd (N := N) T s1 41
        rw [v1, bv_s]
        exact ⟨h3, rfl, Or.inr ⟨f, g', s1, ⟨v2.1, v2.2.1, exP.tr (z3.P 0) v2.2.2 (by omega)⟩, s3, s4, exQ.tr (exQ.lo (a' := 0) (s' := 0) z8 (by omega) (by omega)) s5 (by omega) (by omega)⟩⟩
      obtain ⟨q9', rfl⟩ : ∃ q'', q9' = q'' + 1 := ⟨q9' - 1, by omega⟩
      obtain ⟨h3, v1, v2, V⟩ := close_ch (N := N) (q := q') (q92 := q9') hN T hn s2 (by omega) (by omega) hx2 s6 s7 s13 s14 s15 (by rw [tp_q s12 (Nat.le_refl _)]; exact z7)
      rw [v1, bv_s, s8]
      refine ⟨h3, rfl, ?_⟩
      have E1 : exQ len ht g g' := exQ.tr z8 s12 (Nat.le_refl _) (by omega)
      rcases V with ⟨w0, w1, g5, w2, w3, w4, w5, -⟩ | ⟨f, g5, w1, w2, w3, w4, w5⟩
      · exact Or.inl ⟨p' + 1, c', q', q9', N, g5, by omega, by omega, s3, by omega, fun c j y1 y2 y3 => by rw [v2 c j y1, s5 c j y1 y2 y3, z3 c j y1], w1, by rw [v2 44 7 (by omega)]; exact s7, w5 hht, by omega, by omega, by omega, exQ.tr E1 w4 (Nat.le_refl _) (Nat.le_refl _), w2, w3⟩
      · exact Or.inr ⟨f, g5, w1, ⟨w2.1, w2.2.1, exP.tr (exP.tr (z3.P 0) (exP.lo (a' := 0) s5 (by omega)) (by omega)) w2.2.2 (by omega)⟩, w3, w4, exQ.tr (exQ.lo (a' := 0) (s' := 0) E1 (by omega) (by omega)) w5 (by omega) (by omega)⟩
    rw [if_neg (show ¬ ((0 : Int) = 0 ∧ sg b n p = 40) from fun z => c40 z.2), if_pos rfl, if_neg c40]
    obtain ⟨h1, a1, S⟩ := cmp_sim (N := N) (q := q) hN T hn hx2 hp hl hh t e R hb
    rw [a1, bv_s]
    refine ⟨h1, rfl, ?_⟩
    rcases S with ⟨p', c', g', s1, s2, s3, s4, s5, s6, s7, s8, s9, s10, s11⟩ | z
    · exact Or.inl ⟨p', c', q, N, N, g', s1, s2, s3, s4, s5, s6, s7, s8, by omega, by omega, by omega, s9, s10, s11⟩
    · exact Or.inr z
end LE
