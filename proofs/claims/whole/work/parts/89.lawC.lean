/-! THE LAW: CHOICES -/
section LD
variable {b : Nat → Int} {N L n p x2 c H len ht : Nat} {h g : Hp}
def PtR (b : Nat → Int) (L n N x2 p len ht : Nat) (h g h' : Hp) (res : Option (Int × Hp)) : Prop := (∃ p' c' q' q92 g', p < p' ∧ p' ≤ n ∧ len < c' ∧ c' + p ≤ len + p' ∧ exP len h h' ∧ TC b L n p' 0 h' ∧ h' 44 7 = (c' : Int) ∧ res = L_X12_readsCondition_92 N (KC N q') q92 g' ∧ 1000 ≤ q' + p' ∧ 1000 ≤ q92 + p' ∧ exQ len ht g g' ∧ PA b L n x2 len c' p' ht h' g' ∧ ¬ sg b n p' = 38) ∨ BadO b L n h h' g res
theorem part (hN : 1000000 ≤ N) (T : TXT b L n) (hn : n ≤ 240) (hx2 : x2 ≤ 6) (D : Nat) (RC : TestSim b L n N x2 (F_X3_readTest N (D + 1) (x2 : Int))) {q : Nat} (hp : p ≤ n) (hl : len ≤ p) (h1 : 1 ≤ ht) (hh : ht ≤ p) (t : TC b L n p 0 h) (e : h 44 7 = (len : Int)) (R : RSt b L n p len ht x2 g) (hb : tp g ht = 12 ∨ tp g ht = 13) (hq : 1000 ≤ q + p) : ∃ h', F_X3_readPart N (F_X3_readTest N (D + 1)) (x2 : Int) h = some h' ∧ PtR b L n N x2 p len ht h g h' (L_X12_readsCondition_40 N q g) := by
  obtain ⟨h3, k1, S⟩ := RC p len ht q h g hp hl h1 hh t e R (by omega) hq
  unfold F_X3_readPart
  rw [k1, bv_s]
  rcases S with ⟨p', c', q', q9', e', g', s1, s2, s3, s4, s5, s6, s7, s8, s9, s10, s11, s12, s13, s14⟩ | ⟨f, g', s1, s2, s3, s4, s5⟩
  · obtain ⟨e', rfl⟩ : ∃ e'', e' = e'' + 1 := ⟨e' - 1, by omega⟩
    have t5 := tp_q s12 (Nat.le_refl ht)
    obtain ⟨h5, m1, M⟩ := pal (N := N) (a := len) (H := ht) hN T hn hx2 D RC h1 1000 N 0 p' c' q' q9' h3 g' (by omega) (by omega) (by omega) s2 (by omega) (by omega) s6 s7 (Or.inl ⟨s13, s14⟩) (by rw [t5]; exact hb) s9 s10
    have m1 : L_X3_readPart_8 N (F_X3_readTest N (D + 1)) N (x2 : Int) 0 h3 = some h5 := m1
    rw [m1]
    refine ⟨h5, rfl, ?_⟩
    have ep : EP N q' q9' (e' + 1) g' = L_X12_readsCondition_92 N (KC N q') q9' g' := by
      unfold EP
      rw [ep_bar s13.2.2.1 (by omega) (by rw [t5]; omega), bv_s]
    rw [s8, ep]
    rcases M with ⟨p2, c2, q2, q3, g2, u1, u2, u3, u4, u5, u6, u7, u8, u9, u10, u11, u12, u13⟩ | ⟨f, g2, u1, u2, u3, u4, u5⟩
    · exact Or.inl ⟨p2, c2, q2, q3, g2, by omega, u2, by omega, by omega, exP.tr s5 u5 (Nat.le_refl _), u6, u7, u8, u9, u10, exQ.tr s12 u11 (Nat.le_refl _) (Nat.le_refl _), u12, u13⟩
    · exact Or.inr ⟨f, g2, u1, ⟨u2.1, u2.2.1, exP.tr (exP.lo (a' := 0) s5 (by omega)) u2.2.2 (by omega)⟩, u3, u4, exQ.tr (exQ.lo (a' := 0) (s' := 0) s12 (by omega) (by omega)) u5 (by omega) (by omega)⟩
  · rw [ff_partl s1 s2 _ _ _ (by omega)]
    exact ⟨h3, rfl, Or.inr ⟨f, g', s1, s2, s3, s4, s5⟩⟩
def ChR (b : Nat → Int) (L n N x2 a p c H : Nat) (h g h' : Hp) (res : Option (Int × Hp)) : Prop := (∃ p' c' q' q92 g', p ≤ p' ∧ p' ≤ n ∧ c ≤ c' ∧ c' + p ≤ c + p' ∧ exP a h h' ∧ TC b L n p' 0 h' ∧ h' 44 7 = (c' : Int) ∧ res = L_X12_readsCondition_92 N (KC N q') q92 g' ∧ 1000 ≤ q' + p' ∧ 1000 ≤ q92 + p' ∧ exQ a H g g' ∧ CHP b L n x2 a c' p' H h' g' ∧ ¬ sg b n p' = 38 ∧ ¬ sg b n p' = 124) ∨ BadO b L n h h' g res
theorem chl (hN : 1000000 ≤ N) (T : TXT b L n) (hn : n ≤ 240) (hx2 : x2 ≤ 6) (D : Nat) (RC : TestSim b L n N x2 (F_X3_readTest N (D + 1) (x2 : Int))) {a H : Nat} (hH1 : 1 ≤ H) : ∀ (mm k cnt p c q q92 : Nat) (h g : Hp), n - p < mm → mm ≤ k → cnt < p → p ≤ n → c ≤ p → H < p → TC b L n p 0 h → h 44 7 = (c : Int) → CHP b L n x2 a c p H h g → ¬ sg b n p = 38 → tp g H = 13 → 1000 ≤ q + p → 1000 ≤ q92 + p → ∃ h', L_X3_readChoice_8 N (F_X3_readTest N (D + 1)) k (x2 : Int) (cnt : Int) h = some h' ∧ ChR b L n N x2 a p c H h g h' (L_X12_readsCondition_92 N (KC N q) q92 g)
  | 0, _, _, _, _, _, _, _, _, hm, _, _, _, _, _, _, _, _, _, _, _, _ => absurd hm (by omega)
  | mm + 1, k, cnt, p, c, q, q92, h, g, hm, hk, hcnt, hp, hc, hH, t, e, Q, n38, hb, hq, hq2 => by
    have T1 := T.1
    have T2 := T.2.1
    obtain ⟨k, rfl⟩ : ∃ k', k = k' + 1 := ⟨k - 1, by omega⟩
    obtain ⟨q92, rfl⟩ : ∃ q', q92 = q' + 1 := ⟨q92 - 1, by omega⟩
    have ac := Q.lt
    unfold L_X3_readChoice_8
    by_cases c0 : 240 ≤ cnt
    · omega
    rw [if_neg (by omega), x_sees t, bd_s]
    by_cases c1 : sg b n p = 124
    rotate_left
    · rw [if_neg (show ¬ ((0 : Int) = 0 ∧ sg b n p = 124) from fun z => c1 z.2), if_pos rfl]
      exact ⟨h, rfl, Or.inl ⟨p, c, q, q92 + 1, g, Nat.le_refl _, hp, Nat.le_refl _, Nat.le_refl _, fun _ _ _ _ _ => rfl, t, e, rfl, hq, hq2, fun _ _ _ _ _ => rfl, Q, n38, c1⟩⟩
    have pn := (sg_b T p).2.2 (by omega)
    obtain ⟨g1, d1, d2, d3, d4⟩ := ld_1 (N := N) hN (by omega) (by omega) Q ⟨by omega, by omega⟩
    obtain ⟨g4, r1, r2, r3, r5, r4⟩ := jmp (N := N) (o := 12) (Or.inr rfl) d2 (by omega) (by omega) (by omega)
    have hr := m_here (N := N) T Q.mc
    have hr1 := m_here (N := N) T d2.1
    have l92 : L_X12_readsCondition_92 N (KC N q) (q92 + 1) g = L_X12_readsCondition_40 N q g4 := by
      conv => lhs; unfold L_X12_readsCondition_92
      unfold KC J_X12_readsCondition_180 J_X12_readsCondition_195 J_X12_readsCondition_215
      rw [hr, bd_s, if_neg (by omega), hr, bd_s, if_neg (by omega), hr, bd_s, if_pos c1, hr, bd_s, if_pos c1, d1, bv_s, hr1, bd_s, if_neg (by omega), r1, bv_s]
    have E4 : exQ a H g g4 := exQ.tr d4 r4 (by omega) (Nat.le_refl _)
    have t4 : tp g4 (H + 1) = 12 := tp_s ⟨by omega, by omega⟩ (v := (c : Int)) ⟨by omega, by omega⟩ r3
    obtain ⟨h1, a1, a2, a3, a4, a5⟩ := x_adS (N := N) (o := 124) (v := 0) e (by omega)
    obtain ⟨h2, b1, b2, b3⟩ := x_step (N := N) T (t.ag (h' := h1) (fun c j y => a5 c j (by omega) (by omega))) (by omega)
    obtain ⟨h3, k1, S⟩ := part (N := N) (q := q) hN T hn hx2 D RC (p := p + 1) (len := c + 1) (ht := H + 1) (by omega) (by omega) (by omega) (by omega) b2 (by rw [b3 44 7 (by omega)]; exact a2) r2 (by omega) (by omega)
    unfold F_X2_length
    rw [if_pos (show (0 : Int) = 0 ∧ sg b n p = 124 from ⟨rfl, c1⟩), if_neg (by decide), bd_s, e, a1, bv_s, b1, bv_s, k1, bv_s, l92]
    have E2 : exP c h h2 := fun c j z1 z2 z3 => by rw [b3 c j z1, a5 c j z2 (by omega)]
    rcases S with ⟨p', c', q', q9', g', s1, s2, s3, s4, s5, s6, s7, s8, s9, s10, s12, s13, s14⟩ | ⟨f, g', s1, s2, s3, s4, s5⟩
    · rw [x_lead (y := c) s7 (by omega) (by omega), bv_s, bnd_s, inc (by omega)]
      obtain ⟨h4, eh4⟩ : ∃ h4, h4 = hw h3 50 c (c' : Int) := ⟨_, rfl⟩
      rw [← eh4]
      have f4 : ∀ x j, ¬ (x = 50 ∧ j = c) → h4 x j = h3 x j := fun x j z => by rw [eh4, hw_ne z]
      have E' : exQ a H g g' := exQ.tr E4 s12 (by omega) (by omega)
      have e3 : ∀ j, j < c → h4 49 j = h 49 j ∧ h4 50 j = h 50 j := fun j hj => by
        rw [f4 49 j (by omega), f4 50 j (by omega), s5 49 j (by omega) (by omega) (by omega), s5 50 j (by omega) (by omega) (by omega), E2 49 j (by omega) (by omega) (by omega), E2 50 j (by omega) (by omega) (by omega)]
        exact ⟨rfl, rfl⟩
      have mv : ∀ {x y : Nat}, c + 1 ≤ x → CoC (PG h3 g') x y → CoC (PG h4 g') x y := fun hx H => H.ag (fun j z1 z2 o v z => ⟨by rw [f4 49 j (by omega)]; exact z.1, by rw [f4 50 j (by omega)]; exact z.2.1, z.2.2⟩)
      have QP : PA b L n x2 (c + 1) c' p' (H + 1) h4 g' := by
        rcases s13 with ⟨y1, y2⟩ | ⟨m, y1, y2, y3, y4, y5, y6, y7⟩
        · exact Or.inl ⟨y1, mv (by omega) y2⟩
        · have l1 := y3.lt
          exact Or.inr ⟨m, y1, y2, mv (by omega) y3, mv (by omega) y4, by rw [f4 49 m (by omega)]; exact y5, by rw [f4 50 m (by omega)]; exact y6, y7⟩
      have Q' : CHP b L n x2 a c' p' H h4 g' := Or.inr ⟨c, by rw [s12 98 H (by omega) (by omega) (by omega)]; exact r3, CG.ag d3 e3 (fun j hj => by rw [s12 97 j (by omega) (by omega) (by omega), r4 97 j (by omega) (by omega) (by omega)]), QP, by rw [f4 49 c (by omega), s5 49 c (by omega) (by omega) (by omega), b3 49 c (by omega)]; exact a3, by rw [eh4, hw_eq], by rw [s12 97 c (by omega) (by omega) (by omega)]; exact r5⟩
      obtain ⟨h5, m1, M⟩ := chl hN T hn hx2 D RC hH1 mm k (cnt + 1) p' c' q' q9' h4 g' (by omega) (by omega) (by omega) s2 (by omega) (by omega) (s6.ag (fun c j y => f4 c j (by omega))) (by rw [f4 44 7 (by omega)]; exact s7) Q' s14 (by rw [tp_q E' (Nat.le_refl _)]; exact hb) s9 s10
      rw [m1]
      refine ⟨h5, rfl, ?_⟩
      rw [s8]
      have E4' : exP a h h4 := fun x j z1 z2 z3 => by rw [f4 x j (by omega), s5 x j z1 z2 (by omega), E2 x j z1 z2 (by omega)]
      rcases M with ⟨p2, c2, q2, q3, g2, u1, u2, u3, u4, u5, u6, u7, u8, u9, u10, u11, u12, u13⟩ | ⟨f, g2, u1, u2, u3, u4, u5⟩
      · exact Or.inl ⟨p2, c2, q2, q3, g2, by omega, u2, by omega, by omega, exP.tr E4' u5 (Nat.le_refl _), u6, u7, u8, u9, u10, exQ.tr E' u11 (Nat.le_refl _) (Nat.le_refl _), u12, u13⟩
      · exact Or.inr ⟨f, g2, u1, ⟨u2.1, u2.2.1, exP.tr (exP.lo (a' := 0) E4' (by omega)) u2.2.2 (by omega)⟩, u3, u4, exQ.tr (exQ.lo (a' := 0) (s' := 0) E' (by omega) (by omega)) u5 (by omega) (by omega)⟩
    · obtain ⟨h4, m1, m2⟩ := ff_lead (N := N) s2 (c : Int)
      rw [m1, bv_s, bnd_s, inc (by omega), ff_chl s1 m2 _ _ _ (by omega)]
      exact ⟨h4, rfl, Or.inr ⟨f, g', s1, ⟨m2.1, m2.2.1, exP.tr (exP.lo (a' := 0) E2 (by omega)) m2.2.2 (by omega)⟩, s3, s4, exQ.tr (exQ.lo (a' := 0) (s' := 0) E4 (by omega) (by omega)) s5 (by omega) (by omega)⟩⟩
theorem choice (hN : 1000000 ≤ N) (T : TXT b L n) (hn : n ≤ 240) (hx2 : x2 ≤ 6) (D : Nat) (RC : TestSim b L n N x2 (F_X3_readTest N (D + 1) (x2 : Int))) {q : Nat} (hp : p ≤ n) (hl : len ≤ p) (h1 : 1 ≤ ht) (hh : ht ≤ p) (t : TC b L n p 0 h) (e : h 44 7 = (len : Int)) (R : RSt b L n p len ht x2 g) (hb : tp g ht = 13) (hq : 1000 ≤ q + p) : ∃ h', F_X3_readChoice N (F_X3_readTest N (D + 1)) (x2 : Int) h = some h' ∧ ((∃ p' c' q' q92 g', p < p' ∧ p' ≤ n ∧ len < c' ∧ c' + p ≤ len + p' ∧ exP len h h' ∧ TC b L n p' 0 h' ∧ h' 44 7 = (c' : Int) ∧ L_X12_readsCondition_40 N q g = L_X12_readsCondition_92 N (KC N q') q92 g' ∧ 1000 ≤ q' + p' ∧ 1000 ≤ q92 + p' ∧ exQ len ht g g' ∧ CHP b L n x2 len c' p' ht h' g' ∧ ¬ sg b n p' = 38 ∧ ¬ sg b n p' = 124) ∨ BadO b L n h h' g (L_X12_readsCondition_40 N q g)) := by
  obtain ⟨h3, k1, S⟩ := part (N := N) (q := q) hN T hn hx2 D RC hp hl h1 hh t e R (Or.inr hb) hq
  unfold F_X3_readChoice
  rw [k1, bv_s]
  rcases S with ⟨p', c', q', q9', g', s1, s2, s3, s4, s5, s6, s7, s8, s9, s10, s12, s13, s14⟩ | ⟨f, g', s1, s2, s3, s4, s5⟩
  · obtain ⟨h5, m1, M⟩ := chl (N := N) (a := len) (H := ht) hN T hn hx2 D RC h1 1000 N 0 p' c' q' q9' h3 g' (by omega) (by omega) (by omega) s2 (by omega) (by omega) s6 s7 (Or.inl s13) s14 (by rw [tp_q s12 (Nat.le_refl _)]; exact hb) s9 s10
    have m1 : L_X3_readChoice_8 N (F_X3_readTest N (D + 1)) N (x2 : Int) 0 h3 = some h5 := m1
    rw [m1]
    refine ⟨h5, rfl, ?_⟩
    rw [s8]
    rcases M with ⟨p2, c2, q2, q3, g2, u1, u2, u3, u4, u5, u6, u7, u8, u9, u10, u11, u12, u13⟩ | ⟨f, g2, u1, u2, u3, u4, u5⟩
    · exact Or.inl ⟨p2, c2, q2, q3, g2, by omega, u2, by omega, by omega, exP.tr s5 u5 (Nat.le_refl _), u6, u7, u8, u9, u10, exQ.tr s12 u11 (Nat.le_refl _) (Nat.le_refl _), u12, u13⟩
    · exact Or.inr ⟨f, g2, u1, ⟨u2.1, u2.2.1, exP.tr (exP.lo (a' := 0) s5 (by omega)) u2.2.2 (by omega)⟩, u3, u4, exQ.tr (exQ.lo (a' := 0) (s' := 0) s12 (by omega) (by omega)) u5 (by omega) (by omega)⟩
  · rw [ff_chl s1 s2 _ _ _ (by omega)]
    exact ⟨h3, rfl, Or.inr ⟨f, g', s1, s2, s3, s4, s5⟩⟩
/-- an opening, on both sides -/
theorem opn (T : TXT b L n) (hn : n ≤ 240) (hx2 : x2 ≤ 6) {o : Int} (ho : o = 10 ∨ o = 13) (hp : p < n) (hl : len ≤ p) (hh : ht ≤ p) (t : TC b L n p 0 h) (e : h 44 7 = (len : Int)) (R : RSt b L n p len ht x2 g) : (x2 = 6 ∧ ∃ f h1 g1, f ≠ 0 ∧ F_X3_opens N (x2 : Int) h = some (0, h1) ∧ FS b L n f h h1 ∧ F_X12_opens N o g = some (0, g1) ∧ g1 83 18 = f ∧ exQ 0 0 g g1) ∨ (x2 < 6 ∧ ∃ h1 g4, F_X3_opens N (x2 : Int) h = some (1, h1) ∧ TC b L n (p + 1) 0 h1 ∧ ex41 h h1 ∧ F_X12_opens N o g = some (1, g4) ∧ RSt b L n (p + 1) len (ht + 1) (x2 + 1) g4 ∧ g4 98 ht = 1048576 * o ∧ tp g4 (ht + 1) = o ∧ exQ len ht g g4) := by
  have T1 := T.1
  have T2 := T.2.1
  unfold F_X3_opens F_X12_opens
  rw [R.2.2.2]
  by_cases c2 : x2 = 6
  · left
    obtain ⟨h1, a1, a2, a3⟩ := x_fail (N := N) t (by omega) (k := 5) (by omega)
    have a1 : F_X10_fail N 5 h = some h1 := a1
    have wr : F_X12_wrongAt N 5 (g 83 16) g = some (0, hw g 83 18 (-1000 * ((5 : Nat) : Int) - p)) := m_wr (N := N) (k := 5) R T (by omega) (by omega)
    rw [if_pos rfl] at a2
    rw [if_neg (by omega), a1, bv_s, if_pos (by omega), wr, bd_s, grd_t (Or.inl rfl)]
    exact ⟨c2, _, h1, _, by omega, rfl, FS.mk T (Nat.le_of_lt hp) a2 (show len ≤ 240 by omega) (by rw [a3 44 7 (by omega)]; exact e) (a3.P 0), rfl, by rw [hw_eq], fun c j z1 z2 z3 => by rw [hw_ne (by omega)]⟩
  · right
    obtain ⟨h1, a1, a2, a3⟩ := x_step (N := N) T t (by omega)
    obtain ⟨g4, eg4⟩ : ∃ g4, g4 = hw (hw (hw (hw g 83 20 ((x2 + 1 : Nat) : Int)) 98 ht (1048576 * o)) 83 22 ((ht + 1 : Nat) : Int)) 83 16 ((p + 1 : Nat) : Int) := ⟨_, rfl⟩
    have e14 : g4 98 ht = 1048576 * o := by rw [eg4, hw_ne (by omega), hw_ne (by omega), hw_eq]
    rw [if_pos (by omega), a1, bv_s, if_neg (by omega), inc (show x2 < 100000000 by omega), bnd_s, hw_ne (by omega), R.2.2.1, grd_t ⟨by omega, by omega⟩, w32_id (x := 1048576 * o) ⟨by omega, by omega⟩, bnd_s, Int.toNat_natCast, bnd_s, hw_ne (by omega), hw_ne (by omega), R.2.2.1, inc (by omega), bnd_s, hw_ne (by omega), hw_ne (by omega), hw_ne (by omega), R.1.1, inc (by omega), ← eg4]
    exact ⟨by omega, h1, g4, rfl, a2, a3, rfl, by rw [eg4]; exact (((R.so (x2 + 1)).wc (by omega) (by omega)).sh (ht + 1)).st, e14, tp_s ⟨by omega, by omega⟩ (v := 0) ⟨by omega, by omega⟩ (by rw [e14, Int.add_zero]), fun c j z1 z2 z3 => by rw [eg4, hw_ne (by omega), hw_ne (by omega), hw_ne (by omega), hw_ne (by omega)]⟩
end LD
