/-! ROADS -/
def exRd (h h' : Hp) : Prop := ∀ c j, ¬ (c = 41 ∨ c = 9) → h' c j = h c j
def exNd (g g' : Hp) : Prop := ∀ c j, ¬ ((c = 83 ∧ (j = 16 ∨ j = 18 ∨ j = 19 ∨ j = 41)) ∨ c = 110) → g' c j = g c j
theorem exRd.tr {a b c : Hp} (h1 : exRd a b) (h2 : exRd b c) : exRd a c := fun x j p => (h2 x j p).trans (h1 x j p)
theorem exNd.tr {a b c : Hp} (h1 : exNd a b) (h2 : exNd b c) : exNd a c := fun x j p => (h2 x j p).trans (h1 x j p)
def LR (t : Nat) (h g : Hp) : Prop := (∀ q, q < 196 → g 110 q = h 9 q) ∧ RdOK (h 9) t
/-- a road more -/
theorem RdOK.up {r r' : Nat → Int} {t i j : Nat} {v : Int} (H : RdOK r t) (hi : i < 14) (hj : j < 14) (hij : i ≠ j) (ti : t.testBit i = true) (tj : t.testBit j = true) (hv : 1 ≤ v ∧ v ≤ 99) (e : ∀ q, q < 196 → r' q = if q = 14 * i + j ∨ q = 14 * j + i then v else r q) : RdOK r' t := by
  obtain ⟨a1, a2, a3⟩ := H
  refine ⟨fun p hp => ?_, fun x y hx hy => ?_, fun x y hx hy h0 => ?_⟩
  · have := a1 p hp
    rw [e p hp]
    split <;> omega
  · rw [e _ (by omega), e _ (by omega)]
    by_cases z : 14 * x + y = 14 * i + j ∨ 14 * x + y = 14 * j + i
    · rw [if_pos z, if_pos (by omega)]
    · rw [if_neg z, if_neg (by omega)]; exact a2 x y hx hy
  · rw [e _ (by omega)] at h0
    by_cases z : 14 * x + y = 14 * i + j ∨ 14 * x + y = 14 * j + i
    · have : (x = i ∧ y = j) ∨ (x = j ∧ y = i) := by omega
      rcases this with ⟨rfl, rfl⟩ | ⟨rfl, rfl⟩
      · exact ⟨ti, tj, hij⟩
      · exact ⟨tj, ti, Ne.symm hij⟩
    · rw [if_neg z] at h0; exact a3 x y hx hy h0
section RO
variable {b : Nat → Int} {N L n p k t : Nat} {h g : Hp} {f : Int}
theorem x_rs (T : TXT b L n) (H : TC b L n p f h) (hp : p ≤ n) (ht : t < 16384) (e14 : h 1 4 = (t : Int)) : ∃ h', F_X7_readStreet N h = some h' ∧ ex41 h h' ∧ ((f = 0 ∧ ltr (sg b n p) ∧ isT t (sg b n p - 97) ∧ TC b L n (p + 1) 0 h') ∨ (¬ (f = 0 ∧ ltr (sg b n p) ∧ isT t (sg b n p - 97)) ∧ TC b L n p (if f = 0 then (if ltr (sg b n p) then -7000 - (p : Int) else -1000 - p) else f) h')) := by
  have T1 := T.1
  have T2 := T.2.1
  have sb := sg_b T p
  unfold F_X7_readStreet
  rw [x_street H, bd_s]
  by_cases z : f = 0 ∧ ltr (sg b n p)
  · rw [if_pos z, if_neg (by decide), x_sign H, bd_s, w32_id ⟨by omega, by omega⟩, s_isTold ht e14, bd_s]
    by_cases y : isT t (sg b n p - 97)
    · obtain ⟨h', a1, a2, a3⟩ := x_step (N := N) T H (by omega)
      rw [if_pos y, if_neg (by decide), a1, bv_s]
      rw [z.1] at a2
      exact ⟨h', rfl, a3, Or.inl ⟨z.1, z.2, y, a2⟩⟩
    · obtain ⟨h', a1, a2, a3⟩ := x_fail (N := N) H (by omega) (k := 7) (by omega)
      have a1 : F_X10_fail N 7 h = some h' := a1
      rw [if_neg y, if_pos rfl, a1, bv_s]
      refine ⟨h', rfl, a3, Or.inr ⟨fun w => y w.2.2, ?_⟩⟩
      rw [if_pos z.1, if_pos z.2]
      rw [if_pos z.1, show -1000 * ((7 : Nat) : Int) - (p : Int) = -7000 - p by omega] at a2
      exact a2
  · obtain ⟨h', a1, a2, a3⟩ := x_fail (N := N) H (by omega) (k := 1) (by omega)
    have a1 : F_X10_fail N 1 h = some h' := a1
    rw [if_neg z, if_pos rfl, a1, bv_s]
    refine ⟨h', rfl, a3, Or.inr ⟨fun w => z ⟨w.1, w.2.1⟩, ?_⟩⟩
    by_cases y : f = 0
    · rw [if_pos y, if_neg (fun w => z ⟨y, w⟩)]
      rw [if_pos y, show -1000 * ((1 : Nat) : Int) - (p : Int) = -1000 - p by omega] at a2
      exact a2
    · rw [if_neg y]
      rw [if_neg y] at a2
      exact a2
theorem r109_bad (hf : f ≠ 0) (H : TC b L n p f h) (x4 x5 x7 : Int) : J_X7_readLine_109 N x4 x5 x7 h = some h := by
  unfold J_X7_readLine_109
  rw [x_sound H, bd_s, if_neg hf, if_pos rfl]
theorem rs_bad (T : TXT b L n) (hf : f ≠ 0) (H : TC b L n p f h) (hp : p ≤ n) (ht : t < 16384) (e14 : h 1 4 = (t : Int)) : ∃ h', F_X7_readStreet N h = some h' ∧ ex41 h h' ∧ TC b L n p f h' := by
  obtain ⟨h', a1, a2, a3⟩ := x_rs (N := N) T H hp ht e14
  rcases a3 with ⟨z, -⟩ | ⟨-, z⟩
  · exact absurd z hf
  · rw [if_neg hf] at z
    exact ⟨h', a1, a2, z⟩
/-- what follows the second street -/
def rlN (N : Nat) (x4 x5 : Int) (h1 : Hp) : Option Hp := bd (F_X10_place N h1) fun y3 h2 => bd (F_X10_readNumber N 2 h2) fun y5 h4 => bd (F_X10_isSound N h4) fun y7 h6 => if y7 = 0 then J_X7_readLine_109 N x4 x5 y5 h6 else if y5 = 0 then bv (F_X10_failAt N 3 y3 h6) fun h8 => J_X7_readLine_109 N x4 x5 y5 h8 else J_X7_readLine_109 N x4 x5 y5 h6
theorem rn_bad (hN : 1000000 ≤ N) (T : TXT b L n) (hf : f ≠ 0) (H : TC b L n p f h) (hp : p ≤ n) (x4 x5 : Int) : ∃ h', rlN N x4 x5 h = some h' ∧ ex41 h h' ∧ TC b L n p f h' := by
  obtain ⟨h', a1, a2⟩ := x_num (N := N) hN T H hp (x1 := 2) (by omega)
  rcases a2 with ⟨z, -⟩ | ⟨-, a2, a3⟩
  · exact absurd z hf
  · have a2 : F_X10_readNumber N 2 h = some (0, h') := a2
    rw [if_neg hf] at a3
    refine ⟨h', ?_, a1, a3⟩
    unfold rlN
    rw [x_place H, bd_s, a2, bd_s, x_sound a3, bd_s, if_neg hf, if_pos rfl, r109_bad hf a3]
theorem r71_bad (hN : 1000000 ≤ N) (T : TXT b L n) (hf : f ≠ 0) (H : TC b L n p f h) (hp : p ≤ n) (ht : t < 16384) (e14 : h 1 4 = (t : Int)) (x4 x5 : Int) : ∃ h', J_X7_readLine_71 N x4 x5 h = some h' ∧ ex41 h h' ∧ TC b L n p f h' := by
  obtain ⟨h1, a1, a2, a3⟩ := rs_bad (N := N) T hf H hp ht e14
  obtain ⟨h', b1, b2, b3⟩ := rn_bad (N := N) hN T hf a3 hp x4 x5
  refine ⟨h', ?_, ex41.tr a2 b2, b3⟩
  unfold J_X7_readLine_71
  rw [a1, bv_s]
  exact b1
theorem r27_bad (hN : 1000000 ≤ N) (T : TXT b L n) (hf : f ≠ 0) (H : TC b L n p f h) (hp : p ≤ n) (ht : t < 16384) (e14 : h 1 4 = (t : Int)) (x4 : Int) : ∃ h', J_X7_readLine_27 N x4 h = some h' ∧ ex41 h h' ∧ TC b L n p f h' := by
  obtain ⟨h1, a1, a2, a3⟩ := rs_bad (N := N) T hf H hp ht e14
  obtain ⟨h', b1, b2, b3⟩ := r71_bad (N := N) hN T hf a3 hp ht (by rw [a2 1 4 (by omega)]; exact e14) x4 (w32 (sg b n p - 97))
  refine ⟨h', ?_, ex41.tr a2 b2, b3⟩
  unfold J_X7_readLine_27
  rw [a1, bv_s, x_sign a3, bd_s, bnd_s, x_street a3, bd_s, if_neg (show ¬ (f = 0 ∧ ltr (sg b n p)) from fun z => hf z.1), if_pos rfl]
  exact b1
def LN1 (b : Nat → Int) (L n t p k : Nat) (g h' g' : Hp) (fb : Int) : Prop := exNd g g' ∧ ∃ p', p ≤ p' ∧ p' ≤ n ∧ ((∃ f, f ≠ 0 ∧ fb = 0 ∧ TC b L n p' f h' ∧ g' 83 18 = f) ∨ (k < 40 ∧ p < p' ∧ fb = 1 ∧ TC b L n p' 0 h' ∧ MC b L n p' g' ∧ g' 83 41 = ((k + 1 : Nat) : Int) ∧ LR t h' g'))
/-- a fault told by both -/
theorem LN_f {h' : Hp} {w v : Nat} (hv : v < 10) (hw' : w < 1000) (H : TC b L n p f h') (ef : f = -1000 * (v : Int) - w) (f0 : f ≠ 0) {p0 : Nat} (hp0 : p0 ≤ p) (hp : p ≤ n) (gg : Hp) (X : exNd g gg) : F_X12_wrongAt N (v : Int) (w : Int) gg = some (0, hw gg 83 18 f) ∧ LN1 b L n t p0 k g h' (hw gg 83 18 f) 0 := by
  refine ⟨by rw [m_wrong hv hw', ef], exNd.tr X (fun c j z => by rw [hw_ne (by omega)]), p, hp0, hp, Or.inl ⟨f, f0, rfl, H, hw_eq⟩⟩
theorem ln_one (hN : 1000000 ≤ N) (T : TXT b L n) (H : TC b L n p 0 h) (M : MC b L n p g) (hp : p ≤ n) (hk : k ≤ 40) (ht : t < 16384) (e14 : h 1 4 = (t : Int)) (e12 : g 83 12 = (t : Int)) (e41 : g 83 41 = (k : Int)) (S : LR t h g) : ∃ h' g' fb, F_X7_readLine N (k : Int) h = some h' ∧ exRd h h' ∧ F_X12_readsLine N g = some (fb, g') ∧ LN1 b L n t p k g h' g' fb := by
  have T1 := T.1
  have T2 := T.2.1
  have sb := sg_b T p
  have sb1 := sg_b T (p + 1)
  unfold F_X7_readLine F_X12_readsLine
  rw [x_sign H, bd_s, bnd_s, x_street H, bd_s, m_letter T M, bd_s]
  by_cases l1 : ltr (sg b n p)
  rotate_left
  · -- no street's letter
    obtain ⟨h1, a1, a2, a3⟩ := x_rs (N := N) T H hp ht e14
    rcases a3 with ⟨-, z, -⟩ | ⟨-, a3⟩
    · exact absurd z l1
    rw [if_pos rfl, if_neg l1] at a3
    obtain ⟨h', b1, b2, b3⟩ := r71_bad (N := N) hN T (show (-1000 - (p : Int)) ≠ 0 by omega) a3 hp ht (by rw [a2 1 4 (by omega)]; exact e14) (w32 (sg b n p - 97)) (w32 (sg b n p - 97))
    obtain ⟨c1, c2⟩ := LN_f (N := N) (g := g) (t := t) (k := k) (v := 1) (w := p) (by omega) (by omega) b3 (by omega) (by omega) (Nat.le_refl p) hp g (fun _ _ _ => rfl)
    have c1 : F_X12_wrongAt N 1 (p : Int) g = some (0, hw g 83 18 (-1000 - (p : Int))) := c1
    refine ⟨h', _, 0, ?_, fun c j z => (ex41.tr a2 b2) c j (by omega), ?_, c2⟩
    · rw [if_neg (show ¬ ((0 : Int) = 0 ∧ ltr (sg b n p)) from fun z => l1 z.2), if_pos rfl]
      unfold J_X7_readLine_27
      rw [a1, bv_s, x_sign a3, bd_s, bnd_s, x_street a3, bd_s, if_neg (show ¬ (-1000 - (p : Int) = 0 ∧ ltr (sg b n p)) from fun z => l1 z.2), if_pos rfl]
      exact b1
    · rw [if_neg l1, if_pos rfl, M.1, c1, bd_s, grd_t (Or.inl rfl)]
  have pn := sb.2.2 (by omega)
  rw [if_pos (show (0 : Int) = 0 ∧ ltr (sg b n p) from ⟨rfl, l1⟩), if_neg (by decide), if_pos l1, if_neg (show ¬ (1 : Int) = 0 by decide), e41, w32_id (x := sg b n p - 97) ⟨by omega, by omega⟩]
  by_cases k4 : k = 40
  · -- too many lines
    obtain ⟨h1, a1, a2, a3⟩ := x_fail (N := N) H (by omega) (k := 4) (by omega)
    have a1 : F_X10_fail N 4 h = some h1 := a1
    rw [if_pos rfl] at a2
    obtain ⟨h', b1, b2, b3⟩ := r27_bad (N := N) hN T (show (-1000 * ((4 : Nat) : Int) - (p : Int)) ≠ 0 by omega) a2 hp ht (by rw [a3 1 4 (by omega)]; exact e14) (sg b n p - 97)
    obtain ⟨c1, c2⟩ := LN_f (N := N) (g := g) (t := t) (k := k) (v := 4) (w := p) (by omega) (by omega) b3 (by omega) (by omega) (Nat.le_refl p) hp g (fun _ _ _ => rfl)
    have c1 : F_X12_wrongAt N 4 (p : Int) g = some (0, hw g 83 18 (-1000 * ((4 : Nat) : Int) - (p : Int))) := c1
    refine ⟨h', _, 0, ?_, fun c j z => (ex41.tr a3 b2) c j (by omega), ?_, c2⟩
    · rw [if_pos (by omega), a1, bv_s]
      exact b1
    · rw [if_pos (by omega), M.1, c1, bd_s, grd_t (Or.inl rfl)]
  rw [if_neg (by omega), if_neg (by omega), m_here T M, bd_s, w32_id (x := sg b n p - 97) ⟨by omega, by omega⟩, bnd_s, s_isStreet ht e12, bd_s]
  obtain ⟨h1, a1, a2, a3⟩ := x_rs (N := N) T H hp ht e14
  have e14a : h1 1 4 = (t : Int) := by rw [a2 1 4 (by omega)]; exact e14
  by_cases t1 : isT t (sg b n p - 97)
  rotate_left
  · -- untold
    rcases a3 with ⟨-, -, z, -⟩ | ⟨-, a3⟩
    · exact absurd z t1
    rw [if_pos rfl, if_pos l1] at a3
    obtain ⟨h', b1, b2, b3⟩ := r71_bad (N := N) hN T (show (-7000 - (p : Int)) ≠ 0 by omega) a3 hp ht e14a (sg b n p - 97) (w32 (sg b n p - 97))
    obtain ⟨c1, c2⟩ := LN_f (N := N) (g := g) (t := t) (k := k) (v := 7) (w := p) (by omega) (by omega) b3 (by omega) (by omega) (Nat.le_refl p) hp g (fun _ _ _ => rfl)
    have c1 : F_X12_wrongAt N 7 (p : Int) g = some (0, hw g 83 18 (-7000 - (p : Int))) := c1
    refine ⟨h', _, 0, ?_, fun c j z => (ex41.tr a2 b2) c j (by omega), ?_, c2⟩
    · unfold J_X7_readLine_27
      rw [a1, bv_s, x_sign a3, bd_s, bnd_s, x_street a3, bd_s, if_neg (show ¬ (-7000 - (p : Int) = 0 ∧ ltr (sg b n p)) from fun z => by have := z.1; omega), if_pos rfl]
      exact b1
    · rw [if_neg t1, if_pos rfl, M.1, c1, bd_s, grd_t (Or.inl rfl)]
  rcases a3 with ⟨-, -, -, a3⟩ | ⟨z, -⟩
  rotate_left
  · exact absurd ⟨rfl, l1, t1⟩ z
  obtain ⟨i, ei⟩ : ∃ i : Nat, sg b n p - 97 = (i : Int) := ⟨(sg b n p - 97).toNat, by omega⟩
  obtain ⟨g1, eg1⟩ : ∃ g1, g1 = hw g 83 16 ((p + 1 : Nat) : Int) := ⟨_, rfl⟩
  have M1 : MC b L n (p + 1) g1 := by rw [eg1]; exact M.st
  have X1 : exNd g g1 := fun c j z => by rw [eg1, hw_ne (by omega)]
  have e12a : g1 83 12 = (t : Int) := by rw [X1 83 12 (by omega)]; exact e12
  rw [if_pos t1, if_neg (show ¬ (1 : Int) = 0 by decide), M.1, inc (by omega), bnd_s, ← eg1, m_letter T M1, bd_s]
  unfold J_X7_readLine_27
  rw [a1, bv_s, x_sign a3, bd_s, bnd_s, x_street a3, bd_s]
  obtain ⟨h2, b1, b2, b3⟩ := x_rs (N := N) T a3 (by omega) ht e14a
  by_cases l2 : ltr (sg b n (p + 1))
  rotate_left
  · rcases b3 with ⟨-, z, -⟩ | ⟨-, b3⟩
    · exact absurd z l2
    rw [if_pos rfl, if_neg l2] at b3
    obtain ⟨h', d1, d2, d3⟩ := rn_bad (N := N) hN T (show (-1000 - ((p + 1 : Nat) : Int)) ≠ 0 by omega) b3 (by omega) (sg b n p - 97) (w32 (sg b n (p + 1) - 97))
    obtain ⟨c1, c2⟩ := LN_f (N := N) (g := g) (t := t) (k := k) (v := 1) (w := p + 1) (by omega) (by omega) d3 (by omega) (by omega) (show p ≤ p + 1 by omega) (by omega) g1 X1
    have c1 : F_X12_wrongAt N 1 ((p + 1 : Nat) : Int) g1 = some (0, hw g1 83 18 (-1000 - ((p + 1 : Nat) : Int))) := c1
    refine ⟨h', _, 0, ?_, fun c j z => (ex41.tr a2 (ex41.tr b2 d2)) c j (by omega), ?_, c2⟩
    · rw [if_neg (show ¬ ((0 : Int) = 0 ∧ ltr (sg b n (p + 1))) from fun z => l2 z.2), if_pos rfl]
      unfold J_X7_readLine_71
      rw [b1, bv_s]
      exact d1
    · rw [if_neg l2, if_pos rfl, M1.1, c1, bd_s, grd_t (Or.inl rfl)]
  have pn1 := sb1.2.2 (by omega)
  rw [if_pos (show (0 : Int) = 0 ∧ ltr (sg b n (p + 1)) from ⟨rfl, l2⟩), if_neg (show ¬ (1 : Int) = 0 by decide), w32_id (x := sg b n (p + 1) - 97) ⟨by omega, by omega⟩, s_isTold ht e14a, bd_s, if_pos l2, if_neg (show ¬ (1 : Int) = 0 by decide), m_here T M1, bd_s, w32_id (x := sg b n (p + 1) - 97) ⟨by omega, by omega⟩, bnd_s, s_isStreet ht e12a, bd_s]
  by_cases t2 : isT t (sg b n (p + 1) - 97)
  rotate_left
  · rcases b3 with ⟨-, -, z, -⟩ | ⟨-, b3⟩
    · exact absurd z t2
    rw [if_pos rfl, if_pos l2] at b3
    obtain ⟨h', d1, d2, d3⟩ := rn_bad (N := N) hN T (show (-7000 - ((p + 1 : Nat) : Int)) ≠ 0 by omega) b3 (by omega) (sg b n p - 97) (sg b n (p + 1) - 97)
    obtain ⟨c1, c2⟩ := LN_f (N := N) (g := g) (t := t) (k := k) (v := 7) (w := p + 1) (by omega) (by omega) d3 (by omega) (by omega) (show p ≤ p + 1 by omega) (by omega) g1 X1
    have c1 : F_X12_wrongAt N 7 ((p + 1 : Nat) : Int) g1 = some (0, hw g1 83 18 (-7000 - ((p + 1 : Nat) : Int))) := c1
    refine ⟨h', _, 0, ?_, fun c j z => (ex41.tr a2 (ex41.tr b2 d2)) c j (by omega), ?_, c2⟩
    · rw [if_neg t2, if_pos rfl]
      unfold J_X7_readLine_71
      rw [b1, bv_s]
      exact d1
    · rw [if_neg t2, if_pos rfl, M1.1, c1, bd_s, grd_t (Or.inl rfl)]
  obtain ⟨j, ej⟩ : ∃ j : Nat, sg b n (p + 1) - 97 = (j : Int) := ⟨(sg b n (p + 1) - 97).toNat, by omega⟩
  rw [if_pos t2, if_neg (show ¬ (1 : Int) = 0 by decide), if_neg (show ¬ (1 : Int) = 0 by decide)]
  by_cases sm1 : sg b n (p + 1) - 97 = sg b n p - 97
  · -- with itself
    obtain ⟨h3, d1, d2, d3⟩ := x_fail (N := N) a3 (by omega) (k := 6) (by omega)
    have d1 : F_X10_fail N 6 h1 = some h3 := d1
    rw [if_pos rfl] at d2
    obtain ⟨h', f1, f2, f3⟩ := r71_bad (N := N) hN T (show (-1000 * ((6 : Nat) : Int) - ((p + 1 : Nat) : Int)) ≠ 0 by omega) d2 (by omega) ht (by rw [d3 1 4 (by omega)]; exact e14a) (sg b n p - 97) (sg b n (p + 1) - 97)
    obtain ⟨c1, c2⟩ := LN_f (N := N) (g := g) (t := t) (k := k) (v := 6) (w := p + 1) (by omega) (by omega) f3 (by omega) (by omega) (show p ≤ p + 1 by omega) (by omega) g1 X1
    have c1 : F_X12_wrongAt N 6 ((p + 1 : Nat) : Int) g1 = some (0, hw g1 83 18 (-1000 * ((6 : Nat) : Int) - ((p + 1 : Nat) : Int))) := c1
    refine ⟨h', _, 0, ?_, fun c j z => (ex41.tr a2 (ex41.tr d3 f2)) c j (by omega), ?_, c2⟩
    · rw [if_pos sm1, d1, bv_s]
      exact f1
    · rw [if_pos sm1.symm, M1.1, c1, bd_s, grd_t (Or.inl rfl)]
  rw [if_neg sm1, if_neg (Ne.symm sm1)]
  rcases b3 with ⟨-, -, -, b3⟩ | ⟨z, -⟩
  rotate_left
  · exact absurd ⟨rfl, l2, t2⟩ z
  obtain ⟨g2, eg2⟩ : ∃ g2, g2 = hw g1 83 16 ((p + 1 + 1 : Nat) : Int) := ⟨_, rfl⟩
  have M2 : MC b L n (p + 1 + 1) g2 := by rw [eg2]; exact M1.st
  have X2 : exNd g g2 := exNd.tr X1 (fun c j z => by rw [eg2, hw_ne (by omega)])
  rw [M1.1, inc (by omega), bnd_s, ← eg2, bnd_s, M2.1]
  unfold J_X7_readLine_71
  rw [b1, bv_s, x_place b3, bd_s]
  obtain ⟨h3, d1, d2⟩ := x_num (N := N) hN T b3 (show p + 1 + 1 ≤ n by omega) (x1 := 2) (by omega)
  obtain ⟨g3, f1, f2⟩ := m_two (N := N) hN T M2 (show p + 1 + 1 ≤ n by omega)
  have X3 : exNd g g3 := exNd.tr X2 (fun c j z => f1 c j (by omega))
  have xh3 : ex41 h h3 := ex41.tr a2 (ex41.tr b2 d1)
  by_cases dg2 : dgt (sg b n (p + 1 + 1))
  rotate_left
  · rcases d2 with ⟨-, z, -⟩ | ⟨-, d2, d3⟩
    · exact absurd z dg2
    rcases f2 with ⟨z, -⟩ | ⟨-, f2, f3⟩
    · exact absurd z dg2
    have d2 : F_X10_readNumber N 2 h2 = some (0, h3) := d2
    rw [if_pos rfl] at d3
    refine ⟨h3, g3, 0, ?_, fun c j z => xh3 c j (by omega), ?_, X3, p + 1 + 1, by omega, by omega, Or.inl ⟨_, by omega, rfl, d3, f3⟩⟩
    · rw [d2, bd_s, x_sound d3, bd_s, if_neg (show ¬ (-1000 - ((p + 1 + 1 : Nat) : Int)) = 0 by omega), if_pos rfl, r109_bad (by omega) d3]
    · rw [f2, bd_s, if_pos rfl]
  rcases d2 with ⟨-, -, d2, d3⟩ | ⟨z, -⟩
  rotate_left
  · exact absurd ⟨rfl, dg2⟩ z
  rcases f2 with ⟨-, f2, f3, f4⟩ | ⟨z, -⟩
  rotate_left
  · exact absurd dg2 z
  have d2 : F_X10_readNumber N 2 h2 = some (rnv b n 2 (p + 1 + 1) 0, h3) := d2
  have rv := rnv_b (b := b) (n := n) 2 (p + 1 + 1) 0 (by omega)
  have rp := rnp_le T 2 (p + 1 + 1) (by omega)
  obtain ⟨v, ev⟩ : ∃ v, v = rnv b n 2 (p + 1 + 1) 0 := ⟨_, rfl⟩
  rw [← ev] at d2 f4 rv
  have rv : 0 ≤ v ∧ v ≤ 99 := ⟨rv.1, by have := rv.2; have e100 : ((10 ^ 2 : Nat) : Int) = 100 := rfl; rw [e100] at this; omega⟩
  obtain ⟨p3, ep3⟩ : ∃ p3, p3 = rnp b n 2 (p + 1 + 1) := ⟨_, rfl⟩
  rw [← ep3] at d3 f3 rp
  rw [d2, bd_s, x_sound d3, bd_s, if_pos rfl, if_neg (show ¬ (1 : Int) = 0 by decide), f2, bd_s, if_neg (show ¬ (1 : Int) = 0 by decide), f4]
  by_cases v0 : v = 0
  · obtain ⟨h4, q1, q2, q3⟩ := x_failAt (N := N) d3 (w := p + 1 + 1) (by omega) (k := 3) (by omega)
    have q1 : F_X10_failAt N 3 ((p + 1 + 1 : Nat) : Int) h3 = some h4 := q1
    obtain ⟨c1, c2⟩ := LN_f (N := N) (g := g) (t := t) (k := k) (v := 3) (w := p + 1 + 1) (by omega) (by omega) q2 (by omega) (by omega) (show p ≤ p3 by omega) (by omega) g3 X3
    have c1 : F_X12_wrongAt N 3 ((p + 1 + 1 : Nat) : Int) g3 = some (0, hw g3 83 18 (-1000 * ((3 : Nat) : Int) - ((p + 1 + 1 : Nat) : Int))) := c1
    refine ⟨h4, _, 0, ?_, fun c j z => (ex41.tr xh3 q3) c j (by omega), ?_, c2⟩
    · rw [if_pos v0, q1, bv_s, r109_bad (by omega) q2]
    · rw [if_pos v0, c1, bd_s, grd_t (Or.inl rfl)]
  · rw [if_neg v0, if_neg v0]
    have i14 : i < 14 := by have := t1.2.1; omega
    have j14 : j < 14 := by have := t2.2.1; omega
    have ti : t.testBit i = true := by rw [ei] at t1; exact (isT_n i14).mp t1
    have tj : t.testBit j = true := by rw [ej] at t2; exact (isT_n j14).mp t2
    have e14c : h3 1 4 = (t : Int) := by rw [xh3 1 4 (by omega)]; exact e14
    have g1' : 0 ≤ ((14 * i + j : Nat) : Int) ∧ ((14 * i + j : Nat) : Int) < 196 := ⟨by omega, by omega⟩
    have g2' : 0 ≤ ((14 * j + i : Nat) : Int) ∧ ((14 * j + i : Nat) : Int) < 196 := ⟨by omega, by omega⟩
    rw [ei, ej]
    unfold J_X7_readLine_109
    rw [x_sound d3, bd_s, if_pos rfl, if_neg (show ¬ (1 : Int) = 0 by decide), s_isTold ht e14c, bd_s, if_pos ((isT_n i14).mpr ti), if_neg (show ¬ (1 : Int) = 0 by decide), s_isTold ht e14c, bd_s, if_pos ((isT_n j14).mpr tj), if_neg (show ¬ (1 : Int) = 0 by decide), w14m' i14 j14, grd_t g1', bnd_s, w14m' j14 i14, grd_t g2', bnd_s, w14m i14 j14, grd_t g1', bnd_s, w14m j14 i14, grd_t g2', bnd_s]
    simp only [Int.toNat_natCast]
    have e19 : hw g3 110 (14 * i + j) v 83 19 = v := by rw [hw_ne (by omega)]; exact f4
    have e41c : hw (hw g3 110 (14 * i + j) v) 110 (14 * j + i) v 83 41 = (k : Int) := by rw [hw_ne (by omega), hw_ne (by omega), f1 83 41 (by omega), eg2, hw_ne (by omega), eg1, hw_ne (by omega)]; exact e41
    rw [e19, e41c, inc (by omega), bnd_s]
    have h9 : ∀ q, h3 9 q = h 9 q := fun q => xh3 9 q (by omega)
    have g110 : ∀ q, g3 110 q = g 110 q := fun q => by rw [f1 110 q (by omega), eg2, hw_ne (by omega), eg1, hw_ne (by omega)]
    have upx : ∀ q, hw (hw h3 9 (14 * i + j) v) 9 (14 * j + i) v 9 q = if q = 14 * i + j ∨ q = 14 * j + i then v else h 9 q := fun q => by
      by_cases z1 : q = 14 * j + i
      · subst z1; rw [hw_eq, if_pos (Or.inr rfl)]
      · by_cases z2 : q = 14 * i + j
        · subst z2; rw [hw_ne (by omega), hw_eq, if_pos (Or.inl rfl)]
        · rw [hw_ne (by omega), hw_ne (by omega), h9, if_neg (by omega)]
    have upm : ∀ q, hw (hw (hw g3 110 (14 * i + j) v) 110 (14 * j + i) v) 83 41 ((k + 1 : Nat) : Int) 110 q = if q = 14 * i + j ∨ q = 14 * j + i then v else g 110 q := fun q => by
      by_cases z1 : q = 14 * j + i
      · subst z1; rw [hw_ne (by omega), hw_eq, if_pos (Or.inr rfl)]
      · by_cases z2 : q = 14 * i + j
        · subst z2; rw [hw_ne (by omega), hw_ne (by omega), hw_eq, if_pos (Or.inl rfl)]
        · rw [hw_ne (by omega), hw_ne (by omega), hw_ne (by omega), g110, if_neg (by omega)]
    refine ⟨_, _, 1, rfl, fun c q z => by rw [hw_ne (by omega), hw_ne (by omega), xh3 c q (by omega)], rfl, fun c q z => by rw [hw_ne (by omega), hw_ne (by omega), hw_ne (by omega)]; exact X3 c q z, p3, by omega, rp.2, Or.inr ⟨by omega, by omega, rfl, d3.ag (fun c q z => by rw [hw_ne (by omega), hw_ne (by omega)]), ((f3.wc (by omega) (by omega)).wc (by omega) (by omega)).w (by omega) (by omega), hw_eq, fun q hq => ?_, S.2.up i14 j14 (by omega) ti tj ⟨by omega, rv.2⟩ (fun q _ => upx q)⟩⟩
    rw [upm q, upx q, S.1 q hq]
/-- all lines -/
def rd74 (N : Nat) (fb : Int) (g : Hp) : Option (Int × Hp) := J_X12_roads_103 N fb g
theorem ln_all (hN : 1000000 ≤ N) (T : TXT b L n) (ht : t < 16384) : ∀ (m q1 q2 p k : Nat) (h g : Hp), n - p < m → m < q1 → m < q2 → TC b L n p 0 h → MC b L n p g → p ≤ n → k ≤ 40 → h 1 4 = (t : Int) → g 83 12 = (t : Int) → g 83 41 = (k : Int) → LR t h g → ∃ (K : Nat) (h' g' : Hp) (fb f : Int) (p' : Nat), L_X7_read_27 N q1 (k : Int) (k : Int) h = J_X7_read_74 N (K : Int) h' ∧ exRd h h' ∧ (bd (F_X12_readsLine N g) fun y h1 => L_X12_roads_63 N q2 y h1) = J_X12_roads_103 N fb g' ∧ exNd g g' ∧ TC b L n p' f h' ∧ ((f ≠ 0 ∧ fb = 0 ∧ g' 83 18 = f) ∨ (f = 0 ∧ fb = 1 ∧ K ≤ 40 ∧ g' 83 41 = (K : Int) ∧ LR t h' g'))
  | 0, _, _, _, _, _, _, hm, _, _, _, _, _, _, _, _, _, _ => absurd hm (by omega)
  | m + 1, q1, q2, p, k, h, g, hm, hq1, hq2, H, M, hp, hk, e14, e12, e41, S => by
    have T1 := T.1
    have T2 := T.2.1
    obtain ⟨q1, rfl⟩ : ∃ q, q1 = q + 1 := ⟨q1 - 1, by omega⟩
    obtain ⟨q2, rfl⟩ : ∃ q, q2 = q + 1 := ⟨q2 - 1, by omega⟩
    obtain ⟨h1, g1, fb, a1, a2, a3, a4, p', a5, a6, a7⟩ := ln_one (N := N) hN T H M hp hk ht e14 e12 e41 S
    unfold L_X7_read_27
    rw [if_neg (by omega), x_sound H, bd_s, if_pos rfl, if_neg (by decide), a1, bv_s, inc (by omega), bnd_s, a3, bd_s]
    rcases a7 with ⟨f, f0, rfl, c1, c2⟩ | ⟨k16, pp, rfl, c1, c2, c4, c5⟩
    · unfold L_X12_roads_63
      rw [if_pos rfl, x_end c1, bd_s]
      by_cases z : p' < n
      · obtain ⟨h2, d1, d2, d3⟩ := x_need (N := N) T c1 (by omega) 59
        have d3 : TC b L n p' f h2 := by
          rcases d3 with ⟨y, -⟩ | ⟨-, y⟩
          · exact absurd y f0
          · rw [if_neg f0] at y; exact y
        obtain ⟨q1, rfl⟩ : ∃ q, q1 = q + 1 := ⟨q1 - 1, by omega⟩
        refine ⟨k + 1, h2, g1, 0, f, p', ?_, exRd.tr a2 (fun c j y => d2 c j (by omega)), rfl, a4, d3, Or.inl ⟨f0, rfl, c2⟩⟩
        rw [if_pos z, if_pos rfl, d1, bv_s, bnd_s]
        unfold L_X7_read_27
        by_cases y : (40 : Int) < ((k + 1 : Nat) : Int)
        · rw [if_pos y]
        · rw [if_neg y, x_sound d3, bd_s, if_neg f0, if_pos rfl]
      · refine ⟨k + 1, h1, g1, 0, f, p', ?_, a2, rfl, a4, c1, Or.inl ⟨f0, rfl, c2⟩⟩
        rw [if_neg z, if_neg (by decide)]
    · rw [x_end c1, bd_s]
      by_cases z : p' < n
      · obtain ⟨h2, d1, d2, d3⟩ := x_need (N := N) T c1 (by omega) 59
        obtain ⟨g2, e1, e2⟩ := m_takes (N := N) T c2 a6 59
        rw [if_pos z, if_pos rfl, d1, bv_s, bnd_s]
        have u49 : L_X12_roads_63 N (q2 + 1) 1 g1 = bd (F_X12_takes N 59 g1) fun y2 h1 => if y2 = 0 then (L_X12_roads_63 N q2) 0 h1 else bd (F_X12_readsLine N h1) fun y4 h3 => if y4 = 0 then (L_X12_roads_63 N q2) 0 h3 else (L_X12_roads_63 N q2) 1 h3 := by
          conv => lhs; unfold L_X12_roads_63
          rw [if_neg (by decide), c2.1, c2.2.1, if_neg (by omega)]
        have xh2 : exRd h h2 := exRd.tr a2 (fun c j y => d2 c j (by omega))
        have xg2 : exNd g g2 := exNd.tr a4 (fun c j y => e1 c j (by omega))
        rcases d3 with ⟨-, y, d3⟩ | ⟨y, d3⟩
        · rcases e2 with ⟨-, e2, e3⟩ | ⟨y2, -⟩
          · have e9 : h2 9 = h1 9 := funext fun j => d2 9 j (by omega)
            have S2 : LR t h2 g2 := ⟨fun q hq => by rw [e1 110 q (by omega), e9]; exact c5.1 q hq, by rw [e9]; exact c5.2⟩
            obtain ⟨K, h', g', fb, f, p2, b1, b2, b3, b4, b5, b6⟩ := ln_all hN T ht m q1 q2 (p' + 1) (k + 1) h2 g2 (by omega) (by omega) (by omega) d3 e3 (by omega) (by omega) (by rw [xh2 1 4 (by omega)]; exact e14) (by rw [xg2 83 12 (by omega)]; exact e12) (by rw [e1 83 41 (by omega)]; exact c4) S2
            refine ⟨K, h', g', fb, f, p2, b1, exRd.tr xh2 b2, ?_, exNd.tr xg2 b4, b5, b6⟩
            rw [u49, e2, bd_s, if_neg (by decide), ← b3]
            obtain ⟨h3, g3, fb3, s1, s2, s3, -, p3, -, -, s4⟩ := ln_one (N := N) hN T d3 e3 (show p' + 1 ≤ n by omega) (show k + 1 ≤ 40 by omega) ht (by rw [xh2 1 4 (by omega)]; exact e14) (by rw [xg2 83 12 (by omega)]; exact e12) (by rw [e1 83 41 (by omega)]; exact c4) S2
            rw [s3, bd_s, bd_s]
            rcases s4 with ⟨_, -, rfl, -⟩ | ⟨-, -, rfl, -⟩
            · rw [if_pos rfl]
            · rw [if_neg (by decide)]
          · exact absurd y y2
        · have y : ¬ sg b n p' = 59 := fun w => y ⟨rfl, w⟩
          rw [if_pos rfl] at d3
          rcases e2 with ⟨y2, -⟩ | ⟨-, e2, e3⟩
          · exact absurd y2 y
          · obtain ⟨q1, rfl⟩ : ∃ q, q1 = q + 1 := ⟨q1 - 1, by omega⟩
            obtain ⟨q2, rfl⟩ : ∃ q, q2 = q + 1 := ⟨q2 - 1, by omega⟩
            have f0 : ¬ (-1000 - (p' : Int)) = 0 := by omega
            refine ⟨k + 1, h2, g2, 0, -1000 - (p' : Int), p', ?_, xh2, ?_, xg2, d3, Or.inl ⟨f0, rfl, e3⟩⟩
            · unfold L_X7_read_27
              rw [if_neg (by omega), x_sound d3, bd_s, if_neg f0, if_pos rfl]
            · rw [u49, e2, bd_s, if_pos rfl]
              unfold L_X12_roads_63
              rw [if_pos rfl]
      · refine ⟨k + 1, h1, g1, 1, 0, p', ?_, a2, ?_, a4, c1, Or.inr ⟨rfl, rfl, by omega, c4, c5⟩⟩
        · rw [if_neg z, if_neg (by decide)]
        · unfold L_X12_roads_63
          rw [if_neg (by decide), c2.1, c2.2.1, if_pos (by omega)]
theorem l_z9 : ∀ (q k : Nat) (h : Hp), k ≤ 196 → 196 - k < q → (∀ c j, ¬ c = 9 → h c j = g c j) → (∀ i, i < k → h 9 i = 0) → ∃ h', L_X7_read_2 N q (k : Int) h = L_X7_read_27 N N 0 0 h' ∧ (∀ c j, ¬ c = 9 → h' c j = g c j) ∧ ∀ i, i < 196 → h' 9 i = 0
  | 0, k, _, _, hq, _, _ => absurd hq (by omega)
  | q + 1, k, h, hk, hq, F, Z => by
    unfold L_X7_read_2
    by_cases c : k = 196
    · subst c
      rw [if_pos (by omega)]
      exact ⟨h, rfl, F, Z⟩
    · rw [if_neg (by omega), grd_t ⟨by omega, by omega⟩, bnd_s, bnd_s, inc (by omega), Int.toNat_natCast]
      exact l_z9 q (k + 1) _ (by omega) (by omega) (fun c j z => by rw [hw_ne (by omega)]; exact F c j z) (fun i hi => by
        by_cases z : i = k
        · subst z; rw [hw_eq]
        · rw [hw_ne (by omega)]; exact Z i (by omega))
theorem l_z110 : ∀ (q k : Nat) (h : Hp), k ≤ 196 → 196 - k < q → (∀ c j, ¬ c = 110 → h c j = g c j) → (∀ i, i < k → h 110 i = 0) → ∃ h', L_X12_roads_38 N q (k : Int) h = (bd (F_X12_readsLine N h') fun y2 h1 => L_X12_roads_63 N N y2 h1) ∧ (∀ c j, ¬ c = 110 → h' c j = g c j) ∧ ∀ i, i < 196 → h' 110 i = 0
  | 0, k, _, _, hq, _, _ => absurd hq (by omega)
  | q + 1, k, h, hk, hq, F, Z => by
    unfold L_X12_roads_38
    by_cases c : k = 196
    · subst c
      rw [if_pos (by omega)]
      exact ⟨h, rfl, F, Z⟩
    · rw [if_neg (by omega), grd_t ⟨by omega, by omega⟩, bnd_s, bnd_s, inc (by omega), Int.toNat_natCast]
      exact l_z110 q (k + 1) _ (by omega) (by omega) (fun c j z => by rw [hw_ne (by omega)]; exact F c j z) (fun i hi => by
        by_cases z : i = k
        · subst z; rw [hw_eq]
        · rw [hw_ne (by omega)]; exact Z i (by omega))
theorem l_c119 : ∀ (q k : Nat) (h : Hp), k ≤ 196 → 196 - k < q → (∀ c j, ¬ c = 90 → h c j = g c j) → (∀ i, i < k → h 90 i = g 110 i) → ∃ h', L_X12_roads_119 N q (k : Int) h = (bv (F_X12_laysWays N (-1) (-1) h') fun h1 => some ((h1 83 41), h1)) ∧ (∀ c j, ¬ c = 90 → h' c j = g c j) ∧ ∀ i, i < 196 → h' 90 i = g 110 i
  | 0, k, _, _, hq, _, _ => absurd hq (by omega)
  | q + 1, k, h, hk, hq, F, Z => by
    unfold L_X12_roads_119
    by_cases c : k = 196
    · subst c
      rw [if_pos (by omega)]
      exact ⟨h, rfl, F, Z⟩
    · rw [if_neg (by omega), grd_t ⟨by omega, by omega⟩, grd_t ⟨by omega, by omega⟩, bnd_s, bnd_s, inc (by omega), Int.toNat_natCast]
      exact l_c119 q (k + 1) _ (by omega) (by omega) (fun c j z => by rw [hw_ne (by omega)]; exact F c j z) (fun i hi => by
        by_cases z : i = k
        · subst z; rw [hw_eq, F 110 i (by omega)]
        · rw [hw_ne (by omega)]; exact Z i (by omega))
theorem RdOK.cg {r r' : Nat → Int} (e : ∀ p, p < 196 → r' p = r p) (H : RdOK r t) : RdOK r' t := ⟨fun p hp => by rw [e p hp]; exact H.1 p hp, fun i j hi hj => by rw [e _ (by omega), e _ (by omega)]; exact H.2.1 i j hi hj, fun i j hi hj h0 => H.2.2 i j hi hj (by rw [e _ (by omega)] at h0; exact h0)⟩
def exF (h h' : Hp) : Prop := ∀ c j, ¬ (c = 41 ∨ c = 9 ∨ c = 8 ∨ c = 10 ∨ (c = 7 ∧ j = 3)) → h' c j = h c j
theorem ln_fin (hN : 1000000 ≤ N) (T : TXT b L n) (ht : t < 16384) (H : TC b L n 0 0 h) (e14 : h 1 4 = (t : Int)) (h9 : ∀ i, i < 196 → h 9 i = 0) (M : MC b L n 0 g) (e12 : g 83 12 = (t : Int)) (e41 : g 83 41 = 0) (e110 : ∀ i, i < 196 → g 110 i = 0) : ∃ (r : Int) (hh g' : Hp) (fb : Int), L_X7_read_27 N N 0 0 h = some (r, hh) ∧ exF h hh ∧ (bd (F_X12_readsLine N g) fun y h1 => L_X12_roads_63 N N y h1) = J_X12_roads_103 N fb g' ∧ exNd g g' ∧ ((fb = 0 ∧ g' 83 18 = r ∧ exRd h hh) ∨ (fb = 1 ∧ g' 83 41 = r ∧ (∀ p, p < 196 → g' 110 p = hh 8 p) ∧ RdOK (hh 8) t ∧ hh 7 3 = rdCount (hh 8) ∧ ∀ i j, i < 14 → j < 14 → hh 10 (14 * i + j) = if FW (bsX (hh 8)) 14 i j < 1000000 then FW (bsX (hh 8)) 14 i j else -2)) := by
  have r0 : RdOK (h 9) t := ⟨fun p hp => by rw [h9 p hp]; omega, fun i j hi hj => by rw [h9 _ (by omega), h9 _ (by omega)], fun i j hi hj h0 => by rw [h9 _ (by omega)] at h0; omega⟩
  have T1 := T.1
  have T2 := T.2.1
  obtain ⟨K, h', g', fb, f, p', b1, b2, b3, b4, b5, b6⟩ := ln_all (N := N) hN T ht (n + 1) N N 0 0 h g (by omega) (by omega) (by omega) H M (by omega) (by omega) e14 e12 e41 ⟨fun q hq => by rw [e110 q hq, h9 q hq], r0⟩
  have b1 : L_X7_read_27 N N 0 0 h = J_X7_read_74 N (K : Int) h' := b1
  rcases b6 with ⟨f0, rfl, c2⟩ | ⟨rfl, rfl, hK, c3, c4, c5⟩
  · refine ⟨f, h', g', 0, ?_, fun c j z => b2 c j (by omega), b3, b4, Or.inl ⟨rfl, c2, b2⟩⟩
    rw [b1]
    unfold J_X7_read_74
    rw [x_sound b5, bd_s, if_neg f0, if_pos rfl, x_fault b5, bd_s]
  · obtain ⟨hc, ehc⟩ : ∃ hc, hc = hcp h' 9 0 8 0 196 := ⟨_, rfl⟩
    have c8 : ∀ p, p < 196 → hc 8 p = h' 9 p := fun p hp => by rw [ehc]; unfold hcp; rw [if_pos ⟨rfl, by omega, by omega⟩, Nat.sub_zero, Nat.zero_add]
    have cf : ∀ c j, ¬ c = 8 → hc c j = h' c j := fun c j w => by rw [ehc]; unfold hcp; rw [if_neg (fun v => w v.1)]
    obtain ⟨hh, d1, d2, d3, d4⟩ := s_ways (N := N) (g := hc) (r := hc 8) hN (c5.cg c8) (fun _ _ => rfl)
    have e8 : hh 8 = hc 8 := funext fun j => d2 8 j (by omega)
    refine ⟨(K : Int), hh, g', 1, ?_, fun c j z => by rw [d2 c j (by omega), cf c j (by omega)]; exact b2 c j (by omega), b3, b4, Or.inr ⟨rfl, c3, fun p hp => by rw [e8, c8 p hp]; exact c4 p hp, by rw [e8]; exact c5.cg c8, by rw [e8]; exact d3, by rw [e8]; exact d4⟩⟩
    rw [b1]
    unfold J_X7_read_74
    rw [x_sound b5, bd_s, if_pos rfl, if_neg (by decide), bnd_s]
    have d1 : F_X7_findWays N (hcp h' 9 (0 : Int).toNat 8 (0 : Int).toNat (196 : Int).toNat) = some hh := by rw [ehc] at d1; exact d1
    rw [d1, bv_s]
end RO
theorem op_roads {N : Nat} (hN : 1000000 ≤ N) : ∀ a1 : Int, inR a1 → Sm (Inv N) (F_X11_roads N a1) (F_X12_roads N a1) := by
  intro x _ h hok hI
  obtain ⟨t, i1, i2, i3, i4, i5, ⟨L, hL, e1, e2, hb⟩, i7, i8, i9, i10⟩ := id hI
  have ht := i1.1
  unfold F_X11_roads F_X12_roads
  rw [s_isWithin, bd_s]
  by_cases q1 : 1 ≤ x ∧ x ≤ 200
  rotate_left
  · exact ⟨-1, h, h, by rw [if_neg q1, if_pos rfl], by rw [s_in, bd_s, if_neg q1, if_pos rfl], hI⟩
  rw [if_pos q1, if_neg (by decide), s_holds e1, bd_s]
  by_cases q2 : x ≤ (L : Int)
  rotate_left
  · exact ⟨-1, h, h, by rw [if_neg q2, if_pos rfl], by rw [s_in, bd_s, if_pos q1, if_neg (by decide), e2, if_neg q2], hI⟩
  rw [if_pos q2, if_neg (by decide)]
  obtain ⟨n, rfl⟩ : ∃ n : Nat, x = (n : Int) := ⟨x.toNat, by omega⟩
  obtain ⟨b, eb⟩ : ∃ b : Nat → Int, b = h 42 := ⟨_, rfl⟩
  have T : TXT b L n := ⟨hL, by omega, fun j hj => by rw [eb]; exact ⟨(hb j hj).1, (hb j hj).2.1⟩⟩
  obtain ⟨ha, o1, o2, o3⟩ := x_open (N := N) T (by omega) e1 (fun j hj => by rw [eb])
  obtain ⟨hs, z1, z2, z3⟩ := l_z9 (N := N) (g := ha) N 0 ha (by omega) (by omega) (fun _ _ _ => rfl) (fun i hi => absurd hi (by omega))
  have z1 : F_X7_read N ha = L_X7_read_27 N N 0 0 hs := z1
  have Ts : TC b L n 0 0 hs := o2.ag (fun c j z => z2 c j (by omega))
  have xs : exRd h hs := fun c j z => by rw [z2 c j (by omega), o3 c j (by omega)]
  have m96 : ∀ j, j < L → iand (h 96 j) 255 = b j := fun j hj => by rw [eb]; exact tp_and hb hj
  have run := fun (g : Hp) (M : MC b L n 0 g) (e12 : g 83 12 = (t : Int)) (e41 : g 83 41 = 0) (e110 : ∀ i, i < 196 → g 110 i = 0) => ln_fin (N := N) hN T ht Ts (by rw [xs 1 4 (by omega)]; exact i1.2.1) z3 M e12 e41 e110
  -- the reference's beginning
  have beg : ∀ g : Hp, exF h g → ∃ g', (∀ c j, ¬ ((c = 83 ∧ (j = 16 ∨ j = 17 ∨ j = 41)) ∨ c = 110) → g' c j = g c j) ∧ MC b L n 0 g' ∧ g' 83 12 = (t : Int) ∧ g' 83 41 = 0 ∧ (∀ i, i < 196 → g' 110 i = 0) ∧ F_X12_roads N (n : Int) g = bd (F_X12_readsLine N g') fun y2 h1 => L_X12_roads_63 N N y2 h1 := fun g G => by
    obtain ⟨gz, eg⟩ : ∃ gz, gz = hw (hw (hw g 83 16 0) 83 17 (n : Int)) 83 41 0 := ⟨_, rfl⟩
    obtain ⟨g', y1, y2, y3⟩ := l_z110 (N := N) (g := gz) N 0 gz (by omega) (by omega) (fun _ _ _ => rfl) (fun i hi => absurd hi (by omega))
    refine ⟨g', fun c j w => by rw [y2 c j (by omega), eg, hw_ne (by omega), hw_ne (by omega), hw_ne (by omega)], ⟨by rw [y2 83 16 (by omega), eg, hw_ne (by omega), hw_ne (by omega), hw_eq]; rfl, by rw [y2 83 17 (by omega), eg, hw_ne (by omega), hw_eq], fun j hj => by rw [y2 96 j (by omega), eg, hw_ne (by omega), hw_ne (by omega), hw_ne (by omega), G 96 j (by omega)]; exact m96 j hj⟩, by rw [y2 83 12 (by omega), eg, hw_ne (by omega), hw_ne (by omega), hw_ne (by omega), G 83 12 (by omega)]; exact i1.2.2, by rw [y2 83 41 (by omega), eg, hw_eq], y3, ?_⟩
    unfold F_X12_roads
    rw [s_in, bd_s, if_pos q1, if_neg (by decide), G 83 15 (by omega), e2, if_pos q2, bnd_s, bnd_s, bnd_s, ← eg]
    exact y1
  obtain ⟨ga, -, ga2, ga3, ga4, ga5, -⟩ := beg h (fun _ _ _ => rfl)
  obtain ⟨r, hh, gf, fb0, b1, b2, -, -, -⟩ := run ga ga2 ga3 ga4 ga5
  obtain ⟨gx, egx⟩ : ∃ gx, gx = hw hh 41 1 0 := ⟨_, rfl⟩
  have gxf : exF h gx := fun c j w => by rw [egx, hw_ne (by omega), b2 c j w]; exact xs c j (by omega)
  obtain ⟨gb, k1, k2, k3, k4, k5, k6⟩ := beg gx gxf
  obtain ⟨r2, h2, g2, fb, m1, m2, m3, m4, m6⟩ := run gb k2 k3 k4 k5
  rw [b1] at m1
  obtain ⟨rfl, rfl⟩ : r = r2 ∧ hh = h2 := by simpa using m1
  have cl : (bv (F_X10_open N (n : Int) h) fun h5 => bd (F_X7_read N h5) fun y7 h6 => bv (F_X10_clear N h6) fun h8 => some (y7, h8)) = some (r, gx) := by
    unfold F_X10_clear
    rw [o1, bv_s, z1, b1, bd_s, bnd_s, bv_s, egx]
  rcases m6 with ⟨rfl, n1, n2⟩ | ⟨rfl, n1, n2, n3, n4, n5⟩
  · refine ⟨r, gx, hw g2 83 15 0, cl, ?_, hI.clr (fun c j y1 y2 => ?_) ?_ hw_eq⟩
    · have : F_X12_roads N (n : Int) gx = some (r, hw g2 83 15 0) := by
        rw [k6, m3]
        unfold J_X12_roads_103
        rw [bnd_s, if_pos rfl, hw_ne (by omega), n1]
      exact this
    · unfold scr at y1
      unfold tpx at y2
      have : gx c j = h c j := by rw [egx, hw_ne (by omega), n2 c j (by omega)]; exact xs c j (by omega)
      rw [hw_ne (by omega), m4 c j (by omega), k1 c j (by omega), this]
    · rw [hw_ne (by omega), m4 41 1 (by omega), k1 41 1 (by omega), egx, hw_eq]
  · obtain ⟨gc, egc⟩ : ∃ gc, gc = hw g2 83 15 0 := ⟨_, rfl⟩
    obtain ⟨gd, p1, p2, p3⟩ := l_c119 (N := N) (g := gc) N 0 gc (by omega) (by omega) (fun _ _ _ => rfl) (fun i hi => absurd hi (by omega))
    have e12d : gd 83 12 = (t : Int) := by rw [p2 83 12 (by omega), egc, hw_ne (by omega), m4 83 12 (by omega)]; exact k3
    have g8 : ∀ j, gx 8 j = hh 8 j := fun j => by rw [egx, hw_ne (by omega)]
    have e90 : ∀ p, p < 196 → gd 90 p = hh 8 p := fun p hp => by rw [p3 p hp, egc, hw_ne (by omega)]; exact n2 p hp
    obtain ⟨ge, E, W, S⟩ := s_lays (N := N) (g := gd) (t := t) (a := -1) (b := -1) hN ht e12d (fun i j hi hj => by rw [e90 _ (by omega)]; exact n3.1 _ (by omega))
    have fr : ∀ c j, ¬ (c = 91 ∨ c = 90 ∨ c = 110 ∨ (c = 83 ∧ (j = 15 ∨ j = 16 ∨ j = 17 ∨ j = 18 ∨ j = 19 ∨ j = 41))) → ge c j = gx c j := fun c j w => by
      rw [E c j (by omega), p2 c j (by omega), egc, hw_ne (by omega), m4 c j (by omega), k1 c j (by omega)]
    have ref : F_X12_roads N (n : Int) gx = some (r, ge) := by
      rw [k6, m3]
      unfold J_X12_roads_103
      have p1 : L_X12_roads_119 N N 0 gc = (bv (F_X12_laysWays N (-1) (-1) gd) fun h1 => some ((h1 83 41), h1)) := p1
      rw [bnd_s, if_neg (by decide), ← egc, p1, S, bv_s, E 83 41 (by omega), p2 83 41 (by omega), egc, hw_ne (by omega), n1]
    refine ⟨r, gx, ge, cl, ref, ?_⟩
    have hI2 : Inv N (hw (hw h 41 1 0) 83 15 0) := hI.clr (fun c j _ y => by unfold tpx at y; rw [hw_ne (by omega), hw_ne (by omega)]) (by rw [hw_ne (by omega), hw_eq]) hw_eq
    refine hI2.ir (fun c j y1 y2 => ?_) (fun t' j1 _ => ?_)
    · unfold scr at y1
      by_cases w1 : c = 41 ∧ j = 1
      · obtain ⟨rfl, rfl⟩ := w1
        rw [fr 41 1 (by omega), egx, hw_eq, hw_ne (by omega), hw_eq]
      · by_cases w2 : c = 83 ∧ j = 15
        · obtain ⟨rfl, rfl⟩ := w2
          rw [E 83 15 (by omega), p2 83 15 (by omega), egc, hw_eq, hw_eq]
        · rw [fr c j (by omega), gxf c j (by omega), hw_ne w2, hw_ne w1]
    · have et : t' = t := by
        have j2 := j1.2.1
        rw [hw_ne (by omega), hw_ne (by omega)] at j2
        have := i1.2.1
        omega
      subst et
      have e8 : ge 8 = hh 8 := funext fun j => by rw [fr 8 j (by omega)]; exact g8 j
      have e73 : ge 7 3 = hh 7 3 := by rw [fr 7 3 (by omega), egx, hw_ne (by omega)]
      have e10 : ∀ q, ge 10 q = hh 10 q := fun q => by rw [fr 10 q (by omega), egx, hw_ne (by omega)]
      unfold IR
      rw [e8, e73]
      refine ⟨fun p hp => by rw [E 90 p (by omega)]; exact e90 p hp, n3, n4, fun i j hi hj => by rw [e10]; exact n5 i j hi hj, fun i j hi hj => ?_⟩
      rw [W i j hi hj, bsC_M]
      exact FW_cg (fun x y hx hy => by unfold bsM; rw [e90 _ (by omega)]) 14 (by omega) i j hi hj
