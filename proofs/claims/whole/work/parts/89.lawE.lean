/-! THE LAW: A CLAUSE -/
def exL (h h' : Hp) : Prop := ∀ c j, ¬ (c = 41 ∨ (44 ≤ c ∧ c ≤ 50)) → h' c j = h c j
def exN8 (g g' : Hp) : Prop := ∀ c j, ¬ (c = 83 ∧ 16 ≤ j ∧ j ≤ 23 ∧ j ≠ 17) → ¬ (97 ≤ c ∧ c ≤ 102) → g' c j = g c j
theorem exL.tr {x y z : Hp} (h1 : exL x y) (h2 : exL y z) : exL x z := fun c j p => (h2 c j p).trans (h1 c j p)
theorem exN8.tr {x y z : Hp} (h1 : exN8 x y) (h2 : exN8 y z) : exN8 x z := fun c j p q => (h2 c j p q).trans (h1 c j p q)
theorem exP.L {a : Nat} {h h' : Hp} (E : exP a h h') : exL h h' := fun c j z => E c j (by omega) (by omega) (by omega)
theorem exQ.N {a s : Nat} {g g' : Hp} (E : exQ a s g g') : exN8 g g' := fun c j z1 z2 => E c j (by omega) (by omega) (by omega)
theorem ex41.L {h h' : Hp} (E : ex41 h h') : exL h h' := fun c j z => E c j (by omega)
section LG
variable {b : Nat → Int} {N L n : Nat} {f : Int} {h g : Hp}
theorem addC {K len : Nat} {s x y : Int} (e : h 44 4 = (K : Int)) (hK : K < 16) (e7 : h 44 7 = (len : Int)) : ∃ h', F_X2_addClause N s x y h = some h' ∧ h' 45 K = s ∧ h' 46 K = x ∧ h' 47 K = y ∧ h' 48 K = (len : Int) ∧ h' 44 4 = ((K + 1 : Nat) : Int) ∧ ∀ c j, ¬ (c = 44 ∧ j = 4) → ¬ ((45 ≤ c ∧ c ≤ 48) ∧ j = K) → h' c j = h c j := by
  unfold F_X2_addClause
  rw [e, if_neg (by omega), grd_t ⟨by omega, by omega⟩, bnd_s, Int.toNat_natCast, hw_ne (by omega), e, grd_t ⟨by omega, by omega⟩, bnd_s, Int.toNat_natCast, hw_ne (by omega), hw_ne (by omega), e, grd_t ⟨by omega, by omega⟩, bnd_s, Int.toNat_natCast, hw_ne (by omega), hw_ne (by omega), hw_ne (by omega), e, grd_t ⟨by omega, by omega⟩, hw_ne (by omega), hw_ne (by omega), hw_ne (by omega), e7, bnd_s, Int.toNat_natCast, bnd_s, hw_ne (by omega), hw_ne (by omega), hw_ne (by omega), hw_ne (by omega), e, inc (by omega)]
  exact ⟨_, rfl, by rw [hw_ne (by omega), hw_ne (by omega), hw_ne (by omega), hw_ne (by omega), hw_eq], by rw [hw_ne (by omega), hw_ne (by omega), hw_ne (by omega), hw_eq], by rw [hw_ne (by omega), hw_ne (by omega), hw_eq], by rw [hw_ne (by omega), hw_eq], hw_eq, fun c j z1 z2 => by rw [hw_ne (by omega), hw_ne (by omega), hw_ne (by omega), hw_ne (by omega), hw_ne (by omega)]⟩
def FT (b : Nat → Int) (L n : Nat) (f : Int) (h h' : Hp) : Prop := (∃ p, p ≤ n ∧ TC b L n p f h') ∧ exL h h'
theorem ff_t3 {h0 : Hp} {K : Nat} {s x y : Int} (T : TXT b L n) (hf : f ≠ 0) (e : h0 44 4 = (K : Int)) (hK : K < 16) (H : FS b L n f h0 h) : ∃ h', (bv (F_X10_need N 41 h) fun h11 => bv (F_X2_addClause N s x y h11) fun h12 => some h12) = some h' ∧ FT b L n f h0 h' := by
  obtain ⟨h1, a1, a2⟩ := H.nd (N := N) T hf 41
  obtain ⟨⟨p, hp, t⟩, ⟨l, hl, el⟩, E⟩ := a2
  obtain ⟨h2, b1, b2, b3, b4, b5, b6, b7⟩ := addC (N := N) (s := s) (x := x) (y := y) (by rw [E 44 4 (by omega) (by omega) (by omega)]; exact e) hK el
  rw [a1, bv_s, b1, bv_s]
  exact ⟨h2, rfl, ⟨p, hp, t.ag (fun c j z => b7 c j (by omega) (by omega))⟩, fun c j z => by rw [b7 c j (by omega) (by omega)]; exact E.L c j z⟩
theorem ff_t2 {h0 : Hp} {K : Nat} {s x y : Int} (hN : 1000000 ≤ N) (T : TXT b L n) (hf : f ≠ 0) (e : h0 44 4 = (K : Int)) (hK : K < 16) (H : FS b L n f h0 h) : ∃ h', (bv (F_X3_readChoice N (F_X3_readTest N 8) 1 h) fun h10 => bv (F_X10_need N 41 h10) fun h11 => bv (F_X2_addClause N s x y h11) fun h12 => some h12) = some h' ∧ FT b L n f h0 h' := by
  obtain ⟨h1, a1, a2⟩ := ff_choice (N := N) hN T hf H 7 1
  have a1 : F_X3_readChoice N (F_X3_readTest N 8) 1 h = some h1 := a1
  rw [a1, bv_s]
  exact ff_t3 T hf e hK a2
theorem ff_t1 {h0 : Hp} {K : Nat} {s x y : Int} (hN : 1000000 ≤ N) (T : TXT b L n) (hf : f ≠ 0) (e : h0 44 4 = (K : Int)) (hK : K < 16) (H : FS b L n f h0 h) : ∃ h', (bv (F_X10_need N 40 h) fun h9 => bv (F_X3_readChoice N (F_X3_readTest N 8) 1 h9) fun h10 => bv (F_X10_need N 41 h10) fun h11 => bv (F_X2_addClause N s x y h11) fun h12 => some h12) = some h' ∧ FT b L n f h0 h' := by
  obtain ⟨h1, a1, a2⟩ := H.nd (N := N) T hf 40
  rw [a1, bv_s]
  exact ff_t2 hN T hf e hK a2
def CLi (h g : Hp) (len i : Nat) : Prop := h 45 i = g 99 i ∧ ∃ A B C : Nat, (h 46 i = (A : Int) ∧ h 47 i = (B : Int) ∧ h 48 i = (C : Int)) ∧ (g 100 i = (A : Int) ∧ g 101 i = (B : Int) ∧ g 102 i = (C : Int)) ∧ C ≤ len ∧ SuC (PG h g) 15 A B ∧ CoC (PG h g) B C
def LSt (b : Nat → Int) (L n K p len : Nat) (h g : Hp) : Prop := TC b L n p 0 h ∧ h 44 7 = (len : Int) ∧ h 44 4 = (K : Int) ∧ MC b L n p g ∧ g 83 21 = (len : Int) ∧ g 83 23 = (K : Int) ∧ K ≤ 16 ∧ len ≤ p ∧ ∀ i, i < K → CLi h g len i
theorem CLi.ag {h' g' : Hp} {K len len' i : Nat} (H : CLi h g len i) (hi : i < K) (hl : len ≤ len') (e1 : ∀ c, 45 ≤ c → c ≤ 48 → h' c i = h c i) (e2 : ∀ c, 99 ≤ c → c ≤ 102 → g' c i = g c i) (e3 : ∀ j, j < len → h' 49 j = h 49 j ∧ h' 50 j = h 50 j) (e4 : ∀ j, j < len → g' 97 j = g 97 j) : CLi h' g' len' i := by
  obtain ⟨c1, A, B, C, ⟨c2, c3, c4⟩, ⟨c5, c6, c7⟩, c8, c9, c10⟩ := H
  have l1 := c9.lt
  have l2 := c10.lt
  exact ⟨by rw [e1 45 (by omega) (by omega), e2 99 (by omega) (by omega)]; exact c1, A, B, C, ⟨by rw [e1 46 (by omega) (by omega)]; exact c2, by rw [e1 47 (by omega) (by omega)]; exact c3, by rw [e1 48 (by omega) (by omega)]; exact c4⟩, ⟨by rw [e2 100 (by omega) (by omega)]; exact c5, by rw [e2 101 (by omega) (by omega)]; exact c6, by rw [e2 102 (by omega) (by omega)]; exact c7⟩, by omega, PG.ag c9 (fun j hj => e3 j (by omega)) (fun j hj => e4 j (by omega)), CG.ag c10 (fun j hj => e3 j (by omega)) (fun j hj => e4 j (by omega))⟩
def ClR (b : Nat → Int) (L n K p : Nat) (h g h' : Hp) (res : Option (Int × Hp)) : Prop := (∃ p' len' g', p < p' ∧ p' ≤ n ∧ res = some (1, g') ∧ exN8 g g' ∧ LSt b L n (K + 1) p' len' h' g') ∨ ∃ f g', f ≠ 0 ∧ FT b L n f h h' ∧ res = some (0, g') ∧ g' 83 18 = f ∧ exN8 g g'
theorem clause {K p len : Nat} (hN : 1000000 ≤ N) (T : TXT b L n) (hn : n ≤ 240) (hp : p ≤ n) (S : LSt b L n K p len h g) : ∃ h', F_X3_readClause N h = some h' ∧ exL h h' ∧ ClR b L n K p h g h' (F_X12_readsClause N g) := by
  have T1 := T.1
  have T2 := T.2.1
  obtain ⟨t, e7, e4, M, m21, m23, hK, hl, CL⟩ := S
  obtain ⟨s, es⟩ : ∃ s, s = sg b n p := ⟨_, rfl⟩
  have hr := m_here (N := N) T M
  rw [← es] at hr
  have bad : ∀ k : Nat, k < 10 → k ≠ 0 → ∃ h1, F_X10_fail N (k : Int) h = some h1 ∧ J_X3_readClause_54 N s h1 = some h1 ∧ exL h h1 ∧ ∀ res, res = some (0, hw g 83 18 (-1000 * (k : Int) - p)) → ClR b L n K p h g h1 res := fun k hk k0 => by
    obtain ⟨h1, a1, a2, a3⟩ := x_fail (N := N) t (by omega) hk
    rw [if_pos rfl] at a2
    refine ⟨h1, a1, ?_, a3.L, fun res er => Or.inr ⟨_, _, ?_, ⟨⟨p, hp, a2⟩, a3.L⟩, er, by rw [hw_eq], fun c j z1 z2 => by rw [hw_ne (by omega)]⟩⟩
    · unfold J_X3_readClause_54
      rw [x_sound a2, bd_s, if_neg (show ¬ (-1000 * (k : Int) - p = 0) by omega), if_pos rfl]
    · omega
  have wr : ∀ k : Nat, k < 10 → (bd (F_X12_wrongAt N (k : Int) (g 83 16) g) fun y20 h19 => grd (y20 = 0 ∨ y20 = 1) <| some (y20, h19)) = some (0, hw g 83 18 (-1000 * (k : Int) - p)) := fun k hk => by
    rw [M.1, m_wrong hk (by omega), bd_s, grd_t (Or.inl rfl)]
  by_cases lt : s = 119 ∨ s = 99 ∨ s = 115 ∨ s = 117
  rotate_left
  · obtain ⟨h1, a1, a2, a3, a4⟩ := bad 1 (by omega) (by omega)
    have a1 : F_X10_fail N 1 h = some h1 := a1
    refine ⟨h1, ?_, a3, a4 _ ?_⟩
    · unfold F_X3_readClause
      rw [x_sign t, bd_s, ← es, if_neg (by omega), if_neg (by omega), if_neg (by omega), if_neg (by omega), a1, bv_s, a2]
    · unfold F_X12_readsClause F_X12_isClause
      rw [hr, bd_s, if_neg (by omega), if_neg (by omega), if_neg (by omega), if_neg (by omega), bd_s, if_pos rfl]
      exact wr 1 (by omega)
  have cls : F_X3_readClause N h = J_X3_readClause_37 N s h := by
    unfold F_X3_readClause
    rw [x_sign t, bd_s, ← es]
    rcases lt with z | z | z | z
    · rw [if_pos z]
    · rw [if_neg (by omega), if_pos z]
    · rw [if_neg (by omega), if_neg (by omega), if_pos z]
    · rw [if_neg (by omega), if_neg (by omega), if_neg (by omega), if_pos z]
  have isc : F_X12_isClause N s g = some (1, g) := by
    unfold F_X12_isClause
    rcases lt with z | z | z | z
    · rw [if_pos z]
    · rw [if_neg (by omega), if_pos z]
    · rw [if_neg (by omega), if_neg (by omega), if_pos z]
    · rw [if_neg (by omega), if_neg (by omega), if_neg (by omega), if_pos z]
  rw [cls]
  unfold J_X3_readClause_37 F_X2_clauses F_X12_readsClause
  rw [bd_s, e4, hr, bd_s, isc, bd_s, if_neg (show ¬ ((1 : Int) = 0) by decide), m23]
  by_cases k16 : K = 16
  · obtain ⟨h1, a1, a2, a3, a4⟩ := bad 4 (by omega) (by omega)
    have a1 : F_X10_fail N 4 h = some h1 := a1
    rw [if_neg (show ¬ ((K : Int) < 16) by omega), a1, bv_s, a2, if_pos (show (K : Int) = 16 by omega)]
    exact ⟨h1, rfl, a3, a4 _ (wr 4 (by omega))⟩
  have hK' : K < 16 := by omega
  have pn := (sg_b T p).2.2 (by omega)
  obtain ⟨h1, a1, a2, a3⟩ := x_step (N := N) T t (by omega)
  have e71 : h1 44 7 = (len : Int) := by rw [a3 44 7 (by omega)]; exact e7
  have e41 : h1 44 4 = (K : Int) := by rw [a3 44 4 (by omega)]; exact e4
  obtain ⟨gA, egA⟩ : ∃ gA, gA = hw (hw (hw (hw (hw g 99 K s) 83 16 ((p + 1 : Nat) : Int)) 100 K (len : Int)) 83 20 0) 83 22 0 := ⟨_, rfl⟩
  have fA : ∀ c j, ¬ (c = 83 ∧ (j = 16 ∨ j = 20 ∨ j = 22)) → ¬ ((c = 99 ∨ c = 100) ∧ j = K) → gA c j = g c j := fun c j z1 z2 => by rw [egA, hw_ne (by omega), hw_ne (by omega), hw_ne (by omega), hw_ne (by omega), hw_ne (by omega)]
  have RA : RSt b L n (p + 1) len 0 0 gA := ⟨⟨by rw [egA, hw_ne (by omega), hw_ne (by omega), hw_ne (by omega), hw_eq], by rw [fA 83 17 (by omega) (by omega)]; exact M.2.1, fun j hj => by rw [fA 96 j (by omega) (by omega)]; exact M.2.2 j hj⟩, by rw [fA 83 21 (by omega) (by omega)]; exact m21, by rw [egA, hw_eq]; rfl, by rw [egA, hw_ne (by omega), hw_eq]; rfl⟩
  have gA99 : gA 99 K = s := by rw [egA, hw_ne (by omega), hw_ne (by omega), hw_ne (by omega), hw_ne (by omega), hw_eq]
  have gA100 : gA 100 K = (len : Int) := by rw [egA, hw_ne (by omega), hw_ne (by omega), hw_eq]
  have NA : exN8 g gA := fun c j z1 z2 => fA c j (by omega) (by omega)
  obtain ⟨h2, b1, S⟩ := sum_all (N := N) (D := 8) (x2 := 0) hN T hn (by omega) (by omega) (show p + 1 ≤ n by omega) (show len ≤ p + 1 by omega) (Nat.zero_le _) a2 e71 RA (by unfold tp; rw [if_pos rfl]; omega)
  have b1 : F_X3_readSum N 8 0 h1 = some h2 := b1
  have q16 : hw g 99 K s 83 16 = (p : Int) := by rw [hw_ne (by omega)]; exact M.1
  have q23 : hw (hw g 99 K s) 83 16 ((p + 1 : Nat) : Int) 83 23 = (K : Int) := by rw [hw_ne (by omega), hw_ne (by omega)]; exact m23
  have q21 : hw (hw g 99 K s) 83 16 ((p + 1 : Nat) : Int) 83 21 = (len : Int) := by rw [hw_ne (by omega), hw_ne (by omega)]; exact m21
  unfold J_X3_readClause_54 F_X2_length
  rw [if_pos (show (K : Int) < 16 by omega), x_sound t, bd_s, if_pos rfl, if_neg (by decide), a1, bv_s, bd_s, e71, b1, bv_s, bd_s, if_neg (show ¬ ((K : Int) = 16) by omega), grd_t ⟨by omega, by omega⟩, bnd_s, Int.toNat_natCast, bnd_s, q16, inc (by omega), q23, grd_t ⟨by omega, by omega⟩, q21, bnd_s, Int.toNat_natCast, bnd_s, bnd_s, ← egA]
  rcases S with ⟨p1, l1, g1, s1, s2, s3, s4, s5, s6, s7, s8, s9, s10, s11⟩ | ⟨f, g1, s1, s2, s3, s4, s5⟩
  rotate_left
  · obtain ⟨h3, c1, c2⟩ := ff_t1 (N := N) (s := s) (x := (len : Int)) (y := h2 44 7) hN T s1 e41 hK' s2
    rw [c1, s3, bd_s, if_pos rfl]
    exact ⟨h3, rfl, exL.tr a3.L c2.2, Or.inr ⟨f, g1, s1, ⟨c2.1, exL.tr a3.L c2.2⟩, rfl, s4, exN8.tr NA s5.N⟩⟩
  have m231 : g1 83 23 = (K : Int) := by rw [s9 83 23 (by omega) (by omega) (by omega), fA 83 23 (by omega) (by omega)]; exact m23
  have e42 : h2 44 4 = (K : Int) := by rw [s5 44 4 (by omega) (by omega) (by omega)]; exact e41
  obtain ⟨g2, eg2⟩ : ∃ g2, g2 = hw g1 101 K (l1 : Int) := ⟨_, rfl⟩
  have f2 : ∀ c j, ¬ (c = 101 ∧ j = K) → g2 c j = g1 c j := fun c j z => by rw [eg2, hw_ne z]
  have R2 : RSt b L n p1 l1 0 0 g2 := by rw [eg2]; exact s10.wc (by omega) (by omega)
  have N2 : exN8 g g2 := exN8.tr NA (exN8.tr s9.N (fun c j z1 z2 => f2 c j (by omega)))
  rw [s7, s8, bd_s, if_neg (by decide), m231, grd_t ⟨by omega, by omega⟩, s10.2.1, bnd_s, Int.toNat_natCast, ← eg2]
  unfold F_X12_readsCondition
  have hr2 := m_here (N := N) T R2.1
  obtain ⟨h3, c1, c2, c3⟩ := x_need (N := N) T s6 (by omega) 40
  have EL3 : exL h h3 := exL.tr a3.L (exL.tr s5.L c2.L)
  rw [c1, bv_s, hr2, bd_s]
  rcases c3 with ⟨-, c4, c5⟩ | ⟨c4, c5⟩
  rotate_left
  · rw [if_pos rfl] at c5
    have nz : ¬ sg b n p1 = 40 := fun z => c4 ⟨rfl, z⟩
    have wr2 : F_X12_wrongAt N 1 (g2 83 16) g2 = some (0, hw g2 83 18 (-1000 * ((1 : Nat) : Int) - p1)) := m_wr (N := N) (k := 1) R2 T s2 (by omega)
    obtain ⟨h4, d1, d2⟩ := ff_t2 (N := N) (h := h3) (h0 := h2) (s := s) (x := (len : Int)) (y := (l1 : Int)) (f := -1000 - (p1 : Int)) hN T (by omega) e42 hK' (FS.mk T s2 c5 (show l1 ≤ 240 by omega) (by rw [c2 44 7 (by omega)]; exact s7) (c2.P 0))
    rw [d1, if_neg nz, wr2, bd_s, grd_t (Or.inl rfl), bd_s, if_pos rfl]
    have EL4 : exL h h4 := exL.tr (exL.tr a3.L s5.L) d2.2
    exact ⟨h4, rfl, EL4, Or.inr ⟨-1000 - (p1 : Int), _, by omega, ⟨d2.1, EL4⟩, rfl, by rw [hw_eq]; omega, fun c j z1 z2 => by rw [hw_ne (by omega)]; exact N2 c j z1 z2⟩⟩
  have pn1 := (sg_b T p1).2.2 (by omega)
  obtain ⟨g3, eg3⟩ : ∃ g3, g3 = hw (hw g2 83 20 0) 83 22 0 := ⟨_, rfl⟩
  have R3 : RSt b L n p1 l1 0 0 g3 := by rw [eg3]; exact (R2.so 0).sh 0
  have f3 : ∀ c j, ¬ (c = 83 ∧ (j = 20 ∨ j = 22)) → g3 c j = g2 c j := fun c j z => by rw [eg3, hw_ne (by omega), hw_ne (by omega)]
  rcases opn (N := N) T hn (x2 := 0) (o := 13) (by omega) (Or.inr rfl) pn1 (by omega) (Nat.zero_le _) s6 s7 R3 with ⟨z0, -⟩ | ⟨-, -, g4, -, -, -, z4, z5, z6, z7, z8⟩
  · exact absurd z0 (by omega)
  rw [if_pos c4, bnd_s, bnd_s, ← eg3, z4, bd_s, if_neg (by decide)]
  have e73 : h3 44 7 = (l1 : Int) := by rw [c2 44 7 (by omega)]; exact s7
  have e43 : h3 44 4 = (K : Int) := by rw [c2 44 4 (by omega)]; exact e42
  obtain ⟨h4, k1, S⟩ := choice (N := N) (q := N) (x2 := 1) hN T hn (by omega) 7 (test_sim hN T hn 8 1 (by omega) (by omega)) (p := p1 + 1) (len := l1) (ht := 1) (by omega) (by omega) (by omega) (by omega) c5 e73 z5 z7 (by omega)
  have k1 : F_X3_readChoice N (F_X3_readTest N 8) 1 h3 = some h4 := k1
  have N4 : exN8 g g4 := exN8.tr N2 (exN8.tr (fun c j z1 z2 => f3 c j (by omega)) z8.N)
  rw [k1, bv_s]
  rcases S with ⟨p2, l2, q', q9', g5, u1, u2, u3, u4, u5, u6, u7, u8, u9, u10, u12, u13, u14, u15⟩ | ⟨f, g5, u1, u2, u3, u4, u5⟩
  rotate_left
  · obtain ⟨h5, d1, d2⟩ := ff_t3 (N := N) (h0 := h3) (s := s) (x := (len : Int)) (y := (l1 : Int)) T u1 e43 hK' u2
    have EL5 : exL h h5 := exL.tr EL3 d2.2
    rw [d1, u3, bd_s, if_pos rfl]
    exact ⟨h5, rfl, EL5, Or.inr ⟨f, g5, u1, ⟨d2.1, EL5⟩, rfl, u4, exN8.tr N4 u5.N⟩⟩
  obtain ⟨q9', rfl⟩ : ∃ q'', q9' = q'' + 1 := ⟨q9' - 1, by omega⟩
  obtain ⟨h5, v1, v2, V⟩ := close_ch (N := N) (q := q') (q92 := q9') (ht := 0) (x2 := 0) hN T hn u2 (by omega) (by omega) (by omega) u6 u7 u13 u14 u15 (by rw [tp_q u12 (Nat.le_refl _)]; exact z7)
  have e45 : h5 44 4 = (K : Int) := by rw [v2 44 4 (by omega), u5 44 4 (by omega) (by omega) (by omega)]; exact e43
  have e75 : h5 44 7 = (l2 : Int) := by rw [v2 44 7 (by omega)]; exact u7
  obtain ⟨h6, w1, w2, w3, w4, w5, w6, w7⟩ := addC (N := N) (s := s) (x := (len : Int)) (y := (l1 : Int)) e45 hK' e75
  have EL6 : exL h h6 := exL.tr EL3 (exL.tr u5.L (exL.tr v2.L (fun c j z => w7 c j (by omega) (by omega))))
  rw [v1, bv_s, w1, bv_s, u8]
  refine ⟨h6, rfl, EL6, ?_⟩
  rcases V with ⟨x0, x1, g6, x2, x3, x4, -, x5⟩ | ⟨f, g6, x1, x2, x3, x4, x5⟩
  rotate_left
  · rw [x3, bd_s, if_pos rfl]
    obtain ⟨⟨pz, hpz, tz⟩, -, -⟩ := x2
    exact Or.inr ⟨f, g6, x1, ⟨⟨pz, hpz, tz.ag (fun c j z => w7 c j (by omega) (by omega))⟩, EL6⟩, rfl, x4, exN8.tr N4 (exN8.tr u12.N x5.N)⟩
  have N6 : exN8 g4 g6 := exN8.tr u12.N x4.N
  have g4m : ∀ c j, (c = 83 ∧ j = 23) ∨ (99 ≤ c ∧ c ≤ 102) → g6 c j = g2 c j := fun c j z => by rw [x4 c j (by omega) (by omega) (by omega), u12 c j (by omega) (by omega) (by omega), z8 c j (by omega) (by omega) (by omega), f3 c j (by omega)]
  have m236 : g6 83 23 = (K : Int) := by rw [g4m 83 23 (by omega), f2 83 23 (by omega)]; exact m231
  rw [x5 rfl, bd_s, if_neg (by decide), m236, grd_t ⟨by omega, by omega⟩, x2.2.1, bnd_s, Int.toNat_natCast, bnd_s, hw_ne (by omega), m236, inc (by omega)]
  obtain ⟨g7, eg7⟩ : ∃ g7, g7 = hw (hw g6 102 K (l2 : Int)) 83 23 ((K + 1 : Nat) : Int) := ⟨_, rfl⟩
  rw [← eg7]
  have f7 : ∀ c j, ¬ (c = 102 ∧ j = K) → ¬ (c = 83 ∧ j = 23) → g7 c j = g6 c j := fun c j z1 z2 => by rw [eg7, hw_ne z2, hw_ne z1]
  have c97 : ∀ j, j < l1 → g7 97 j = g1 97 j := fun j hj => by rw [f7 97 j (by omega) (by omega), x4 97 j (by omega) (by omega) (by omega), u12 97 j (by omega) (by omega) (by omega), z8 97 j (by omega) (by omega) (by omega), f3 97 j (by omega), f2 97 j (by omega)]
  have c49 : ∀ j, j < l1 → h6 49 j = h2 49 j ∧ h6 50 j = h2 50 j := fun j hj => by
    rw [w7 49 j (by omega) (by omega), w7 50 j (by omega) (by omega), v2 49 j (by omega), v2 50 j (by omega), u5 49 j (by omega) (by omega) (by omega), u5 50 j (by omega) (by omega) (by omega), c2 49 j (by omega), c2 50 j (by omega)]
    exact ⟨rfl, rfl⟩
  have c0 : ∀ c, 99 ≤ c → c ≤ 102 → ∀ i, i < K → g7 c i = g c i := fun c y1 y2 i hi => by rw [f7 c i (by omega) (by omega), g4m c i (by omega), f2 c i (by omega), s9 c i (by omega) (by omega) (by omega), fA c i (by omega) (by omega)]
  have d0 : ∀ c, 45 ≤ c → c ≤ 48 → ∀ i, i < K → h6 c i = h c i := fun c y1 y2 i hi => by rw [w7 c i (by omega) (by omega), v2 c i (by omega), u5 c i (by omega) (by omega) (by omega), c2 c i (by omega), s5 c i (by omega) (by omega) (by omega), a3 c i (by omega)]
  refine Or.inl ⟨p2 + 1, l2, g7, by omega, by omega, rfl, exN8.tr N4 (exN8.tr N6 (fun c j z1 z2 => f7 c j (by omega) (by omega))), x1.ag (fun c j z => w7 c j (by omega) (by omega)), by rw [w7 44 7 (by omega) (by omega)]; exact e75, w6, ?_, by rw [f7 83 21 (by omega) (by omega)]; exact x2.2.1, by rw [eg7, hw_eq], by omega, by omega, fun i hi => ?_⟩
  · rw [eg7]; exact (x2.1.wc (by omega) (by omega)).w (by omega) (by omega)
  · by_cases ik : i = K
    · subst ik
      refine ⟨?_, len, l1, l2, ⟨w3, w4, w5⟩, ⟨?_, ?_, by rw [eg7, hw_ne (by omega), hw_eq]⟩, Nat.le_refl _, PG.ag s11 c49 c97, CG.ag x3 (fun j hj => ⟨w7 49 j (by omega) (by omega), w7 50 j (by omega) (by omega)⟩) (fun j hj => f7 97 j (by omega) (by omega))⟩
      · rw [w2, f7 99 i (by omega) (by omega), g4m 99 i (by omega), f2 99 i (by omega), s9 99 i (by omega) (by omega) (by omega), gA99]
      · rw [f7 100 i (by omega) (by omega), g4m 100 i (by omega), f2 100 i (by omega), s9 100 i (by omega) (by omega) (by omega), gA100]
      · rw [f7 101 i (by omega) (by omega), g4m 101 i (by omega), eg2, hw_eq]
    · exact (CL i (by omega)).ag (K := K) (by omega) (by omega) (fun c y1 y2 => d0 c y1 y2 i (by omega)) (fun c y1 y2 => c0 c y1 y2 i (by omega)) (fun j hj => by
        rw [(c49 j (by omega)).1, (c49 j (by omega)).2, s5 49 j (by omega) (by omega) (by omega), s5 50 j (by omega) (by omega) (by omega), a3 49 j (by omega), a3 50 j (by omega)]
        exact ⟨rfl, rfl⟩) (fun j hj => by rw [c97 j (by omega), s9 97 j (by omega) (by omega) (by omega), fA 97 j (by omega) (by omega)])
end LG
