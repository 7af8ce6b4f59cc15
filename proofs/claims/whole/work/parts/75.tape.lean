/-! TEXTS ON THE TAPE -/
def sg (b : Nat → Int) (n p : Nat) : Int := if p < n then b p else -1
def TC (b : Nat → Int) (L n p : Nat) (f : Int) (h : Hp) : Prop := h 41 1 = (L : Int) ∧ h 41 2 = (p : Int) ∧ h 41 3 = (n : Int) ∧ h 41 4 = sg b n p ∧ h 41 5 = f ∧ ∀ j, j < L → h 42 j = b j
def MC (b : Nat → Int) (L n p : Nat) (h : Hp) : Prop := h 83 16 = (p : Int) ∧ h 83 17 = (n : Int) ∧ ∀ j, j < L → iand (h 96 j) 255 = b j
def ex41 (h h' : Hp) : Prop := ∀ c j, ¬ c = 41 → h' c j = h c j
theorem ex41.tr {a b c : Hp} (h1 : ex41 a b) (h2 : ex41 b c) : ex41 a c := fun x j p => (h2 x j p).trans (h1 x j p)
abbrev dgt (c : Int) : Prop := 48 ≤ c ∧ c ≤ 57
abbrev ltr (c : Int) : Prop := 97 ≤ c ∧ c ≤ 110
def rnp (b : Nat → Int) (n : Nat) : Nat → Nat → Nat
  | 0, p => p
  | m + 1, p => if dgt (sg b n p) then rnp b n m (p + 1) else p
def rnv (b : Nat → Int) (n : Nat) : Nat → Nat → Int → Int
  | 0, _, v => v
  | m + 1, p, v => if dgt (sg b n p) then rnv b n m (p + 1) (10 * v + sg b n p - 48) else v
/-- a text on the tape -/
def TXT (b : Nat → Int) (L n : Nat) : Prop := L ≤ 260 ∧ n ≤ L ∧ ∀ j, j < L → 0 ≤ b j ∧ b j ≤ 255
section TP
variable {b : Nat → Int} {N L n p : Nat} {f : Int} {h g : Hp}
theorem sg_b (T : TXT b L n) (p : Nat) : -1 ≤ sg b n p ∧ sg b n p ≤ 255 ∧ (0 ≤ sg b n p → p < n) := by
  unfold sg
  by_cases q : p < n
  · have := T.2.2 p (by have := T.2.1; omega)
    rw [if_pos q]; omega
  · rw [if_neg q]; omega
theorem rnp_le (T : TXT b L n) : ∀ m p, p ≤ n → p ≤ rnp b n m p ∧ rnp b n m p ≤ n
  | 0, p, h => ⟨Nat.le_refl _, h⟩
  | m + 1, p, h => by
    unfold rnp
    by_cases q : dgt (sg b n p)
    · have := (sg_b T p).2.2 (by omega)
      have := rnp_le T m (p + 1) (by omega)
      rw [if_pos q]; omega
    · rw [if_neg q]; omega
theorem rnv_b : ∀ m p v, 0 ≤ v → 0 ≤ rnv b n m p v ∧ rnv b n m p v + 1 ≤ (v + 1) * ((10 ^ m : Nat) : Int)
  | 0, p, v, h => by simp only [rnv, Nat.pow_zero]; omega
  | m + 1, p, v, h => by
    have hp : 0 < 10 ^ m := Nat.pow_pos (by decide)
    have e : ((10 ^ (m + 1) : Nat) : Int) = 10 * ((10 ^ m : Nat) : Int) := by rw [Nat.pow_succ]; omega
    obtain ⟨P, hP⟩ : ∃ P : Int, P = ((10 ^ m : Nat) : Int) := ⟨_, rfl⟩
    unfold rnv
    rw [e, ← hP]
    have p1 : 1 ≤ P := by omega
    by_cases q : dgt (sg b n p)
    · have ih := rnv_b m (p + 1) (10 * v + sg b n p - 48) (by omega)
      rw [← hP] at ih
      rw [if_pos q]
      refine ⟨ih.1, Int.le_trans ih.2 ?_⟩
      have e2 : (v + 1) * (10 * P) = (10 * v + 10) * P := by rw [← Int.mul_assoc, show (v + 1) * 10 = 10 * v + 10 by omega]
      rw [e2]
      exact Int.mul_le_mul_of_nonneg_right (by omega) (by omega)
    · rw [if_neg q]
      refine ⟨h, ?_⟩
      have : (v + 1) * 1 ≤ (v + 1) * (10 * P) := Int.mul_le_mul_of_nonneg_left (by omega) (by omega)
      omega
theorem x_step (T : TXT b L n) (H : TC b L n p f h) (hp : p < 1000) : ∃ h', F_X10_step N h = some h' ∧ TC b L n (p + 1) f h' ∧ ex41 h h' := by
  obtain ⟨c1, c2, c3, c4, c5, c6⟩ := H
  obtain ⟨t1, t2, t3⟩ := T
  unfold F_X10_step J_X10_step_53
  rw [c2, inc (by omega), bnd_s]
  obtain ⟨h1, e1⟩ : ∃ h1, h1 = hw h 41 2 ((p + 1 : Nat) : Int) := ⟨_, rfl⟩
  rw [← e1]
  have d2 : h1 41 2 = ((p + 1 : Nat) : Int) := by rw [e1, hw_eq]
  have d3 : h1 41 3 = (n : Int) := by rw [e1, hw_ne (by omega)]; exact c3
  have d1 : h1 41 1 = (L : Int) := by rw [e1, hw_ne (by omega)]; exact c1
  have d42 : ∀ j, h1 42 j = h 42 j := fun j => by rw [e1, hw_ne (by omega)]
  refine ⟨hw h1 41 4 (sg b n (p + 1)), ?_, ⟨by rw [hw_ne (by omega)]; exact d1, by rw [hw_ne (by omega)]; exact d2, by rw [hw_ne (by omega)]; exact d3, by rw [hw_eq], by rw [hw_ne (by omega), e1, hw_ne (by omega)]; exact c5, fun j hj => by rw [hw_ne (by omega), d42]; exact c6 j hj⟩, fun c j z => by rw [hw_ne (by omega), e1, hw_ne (by omega)]⟩
  rw [d2, d3, d1, if_neg (by omega)]
  unfold sg
  by_cases q : p + 1 < n
  · rw [if_neg (by omega), if_neg (by omega), grd_t ⟨by omega, by omega⟩, bnd_s, Int.toNat_natCast, d42, c6 (p + 1) (by omega), if_pos q]
  · rw [if_pos (by omega), bnd_s, if_neg q]
theorem x_fail (H : TC b L n p f h) (hp : p < 1000) {k : Nat} (hk : k < 10) : ∃ h', F_X10_fail N (k : Int) h = some h' ∧ TC b L n p (if f = 0 then -1000 * (k : Int) - p else f) h' ∧ ex41 h h' := by
  obtain ⟨c1, c2, c3, c4, c5, c6⟩ := H
  unfold F_X10_fail
  rw [c5]
  by_cases q : f = 0
  · rw [if_pos q, c2, w32_id (x := -1000 * (k : Int)) ⟨by omega, by omega⟩, w32_id ⟨by omega, by omega⟩, bnd_s, if_pos q]
    exact ⟨_, rfl, ⟨by rw [hw_ne (by omega)]; exact c1, by rw [hw_ne (by omega)]; exact c2, by rw [hw_ne (by omega)]; exact c3, by rw [hw_ne (by omega)]; exact c4, by rw [hw_eq], fun j hj => by rw [hw_ne (by omega)]; exact c6 j hj⟩, fun c j z => by rw [hw_ne (by omega)]⟩
  · rw [if_neg q, if_neg q]
    exact ⟨h, rfl, ⟨c1, c2, c3, c4, c5, c6⟩, fun _ _ _ => rfl⟩
theorem x_failAt (H : TC b L n p 0 h) {w : Nat} (hp : w < 1000) {k : Nat} (hk : k < 10) : ∃ h', F_X10_failAt N (k : Int) (w : Int) h = some h' ∧ TC b L n p (-1000 * (k : Int) - w) h' ∧ ex41 h h' := by
  obtain ⟨c1, c2, c3, c4, c5, c6⟩ := H
  unfold F_X10_failAt
  rw [c5, if_pos rfl, w32_id (x := -1000 * (k : Int)) ⟨by omega, by omega⟩, w32_id ⟨by omega, by omega⟩, bnd_s]
  exact ⟨_, rfl, ⟨by rw [hw_ne (by omega)]; exact c1, by rw [hw_ne (by omega)]; exact c2, by rw [hw_ne (by omega)]; exact c3, by rw [hw_ne (by omega)]; exact c4, by rw [hw_eq], fun j hj => by rw [hw_ne (by omega)]; exact c6 j hj⟩, fun c j z => by rw [hw_ne (by omega)]⟩
theorem x_sees (H : TC b L n p f h) (c : Int) : F_X10_sees N c h = some (if f = 0 ∧ sg b n p = c then 1 else 0, h) := by
  unfold F_X10_sees
  rw [H.2.2.2.2.1, H.2.2.2.1]
  by_cases q : f = 0
  · rw [if_pos q]
    by_cases y : sg b n p = c
    · rw [if_pos y, if_pos ⟨q, y⟩]
    · rw [if_neg y, if_neg (fun z => y z.2)]
  · rw [if_neg q, if_neg (fun z => q z.1)]
theorem x_digit (H : TC b L n p f h) : F_X10_seesDigit N h = some (if f = 0 ∧ dgt (sg b n p) then 1 else 0, h) := by
  unfold F_X10_seesDigit
  rw [H.2.2.2.2.1, H.2.2.2.1]
  by_cases q : f = 0
  · rw [if_pos q]
    by_cases y : sg b n p < 48
    · rw [if_pos y, if_neg (fun z => by have := z.2.1; omega)]
    · rw [if_neg y]
      by_cases x : 57 < sg b n p
      · rw [if_pos x, if_neg (fun z => by have := z.2.2; omega)]
      · rw [if_neg x, if_pos ⟨q, by omega, by omega⟩]
  · rw [if_neg q, if_neg (fun z => q z.1)]
theorem x_street (H : TC b L n p f h) : F_X10_seesStreet N h = some (if f = 0 ∧ ltr (sg b n p) then 1 else 0, h) := by
  unfold F_X10_seesStreet
  rw [H.2.2.2.2.1, H.2.2.2.1]
  by_cases q : f = 0
  · rw [if_pos q]
    by_cases y : sg b n p < 97
    · rw [if_pos y, if_neg (fun z => by have := z.2.1; omega)]
    · rw [if_neg y]
      by_cases x : 110 < sg b n p
      · rw [if_pos x, if_neg (fun z => by have := z.2.2; omega)]
      · rw [if_neg x, if_pos ⟨q, by omega, by omega⟩]
  · rw [if_neg q, if_neg (fun z => q z.1)]
theorem x_sound (H : TC b L n p f h) : F_X10_isSound N h = some (if f = 0 then 1 else 0, h) := by
  unfold F_X10_isSound
  rw [H.2.2.2.2.1]
  by_cases q : f = 0
  · rw [if_pos q, if_pos q]
  · rw [if_neg q, if_neg q]
theorem x_end (H : TC b L n p f h) : F_X10_isAtEnd N h = some (if p < n then 0 else 1, h) := by
  unfold F_X10_isAtEnd
  rw [H.2.1, H.2.2.1]
  by_cases q : p < n
  · rw [if_pos q, if_pos (by omega)]
  · rw [if_neg q, if_neg (by omega)]
theorem x_sign (H : TC b L n p f h) : F_X10_sign N h = some (sg b n p, h) := by unfold F_X10_sign; rw [H.2.2.2.1]
theorem x_place (H : TC b L n p f h) : F_X10_place N h = some ((p : Int), h) := by unfold F_X10_place; rw [H.2.1]
theorem x_fault (H : TC b L n p f h) : F_X10_fault N h = some (f, h) := by unfold F_X10_fault; rw [H.2.2.2.2.1]
theorem x_need (T : TXT b L n) (H : TC b L n p f h) (hp : p < 1000) (c : Int) : ∃ h', F_X10_need N c h = some h' ∧ ex41 h h' ∧ ((f = 0 ∧ sg b n p = c ∧ TC b L n (p + 1) 0 h') ∨ (¬ (f = 0 ∧ sg b n p = c) ∧ TC b L n p (if f = 0 then -1000 - p else f) h')) := by
  unfold F_X10_need
  rw [x_sees H, bd_s]
  by_cases q : f = 0 ∧ sg b n p = c
  · obtain ⟨h', a1, a2, a3⟩ := x_step (N := N) T H hp
    rw [if_pos q, if_neg (by decide), a1, bv_s]
    rw [q.1] at a2
    exact ⟨h', rfl, a3, Or.inl ⟨q.1, q.2, a2⟩⟩
  · obtain ⟨h', a1, a2, a3⟩ := x_fail (N := N) H hp (k := 1) (by omega)
    have a1 : F_X10_fail N 1 h = some h' := a1
    rw [if_neg q, if_pos rfl, a1, bv_s]
    refine ⟨h', rfl, a3, Or.inr ⟨q, ?_⟩⟩
    have e : (-1000 * ((1 : Nat) : Int) - (p : Int)) = -1000 - p := by omega
    rw [e] at a2
    exact a2
theorem l_num (T : TXT b L n) {x1 : Nat} (h10 : x1 ≤ 5) : ∀ (m q p : Nat) (v : Int) (h : Hp), m ≤ x1 → m < q → p ≤ n → TC b L n p 0 h → 0 ≤ v → (v + 1) * ((10 ^ m : Nat) : Int) ≤ 1000000 → ∃ h', L_X10_readNumber_16 N q (x1 : Int) v ((x1 - m : Nat) : Int) h = some (rnv b n m p v, h') ∧ TC b L n (rnp b n m p) 0 h' ∧ ex41 h h'
  | _, 0, _, _, _, _, hq, _, _, _, _ => absurd hq (by omega)
  | 0, q + 1, p, v, h, _, _, _, H, _, _ => by
    unfold L_X10_readNumber_16
    rw [if_pos (by omega)]
    exact ⟨h, rfl, H, fun _ _ _ => rfl⟩
  | m + 1, q + 1, p, v, h, hm, hq, hp, H, hv, hB => by
    have hp0 : 0 < 10 ^ m := Nat.pow_pos (by decide)
    have e : ((10 ^ (m + 1) : Nat) : Int) = 10 * ((10 ^ m : Nat) : Int) := by rw [Nat.pow_succ]; omega
    obtain ⟨P, hP⟩ : ∃ P : Int, P = ((10 ^ m : Nat) : Int) := ⟨_, rfl⟩
    have p1 : 1 ≤ P := by omega
    rw [e, ← hP] at hB
    have e2 : (v + 1) * (10 * P) = (10 * v + 10) * P := by rw [← Int.mul_assoc, show (v + 1) * 10 = 10 * v + 10 by omega]
    rw [e2] at hB
    have vb : 10 * v + 10 ≤ 1000000 := by
      have : (10 * v + 10) * 1 ≤ (10 * v + 10) * P := Int.mul_le_mul_of_nonneg_left (by omega) (by omega)
      omega
    clear e e2
    have T1 := T.1
    have T2 := T.2.1
    unfold L_X10_readNumber_16 rnv rnp
    rw [if_neg (by omega), x_digit H, bd_s]
    by_cases z : dgt (sg b n p)
    · obtain ⟨h1, a1, a2, a3⟩ := x_step (N := N) T H (by omega)
      have pn := (sg_b T p).2.2 (by omega)
      obtain ⟨h', b1, b2, b3⟩ := l_num T h10 m q (p + 1) (10 * v + sg b n p - 48) h1 (by omega) (by omega) (by omega) a2 (by omega) (by
        rw [← hP]
        refine Int.le_trans ?_ hB
        exact Int.mul_le_mul_of_nonneg_right (by omega) (by omega))
      rw [if_pos (show (0 : Int) = 0 ∧ dgt (sg b n p) from ⟨rfl, z⟩), if_neg (by decide), H.2.2.2.1, w32_id (x := v * 10) ⟨by omega, by omega⟩, w32_id (x := v * 10 + sg b n p) ⟨by omega, by omega⟩, w32_id (x := v * 10 + sg b n p - 48) ⟨by omega, by omega⟩, bnd_s, a1, bv_s, bnd_s, inc (by omega), show x1 - (m + 1) + 1 = x1 - m by omega, show v * 10 + sg b n p - 48 = 10 * v + sg b n p - 48 by omega, if_pos z, if_pos z]
      exact ⟨h', b1, b2, ex41.tr a3 b3⟩
    · rw [if_neg (show ¬ ((0 : Int) = 0 ∧ dgt (sg b n p)) from fun y => z y.2), if_pos rfl, if_neg z, if_neg z]
      exact ⟨h, rfl, H, fun _ _ _ => rfl⟩
/-- a number is read -/
theorem x_num (hN : 1000000 ≤ N) (T : TXT b L n) (H : TC b L n p f h) (hp : p ≤ n) {x1 : Nat} (h1 : 1 ≤ x1 ∧ x1 ≤ 5) : ∃ h', ex41 h h' ∧ ((f = 0 ∧ dgt (sg b n p) ∧ F_X10_readNumber N (x1 : Int) h = some (rnv b n x1 p 0, h') ∧ TC b L n (rnp b n x1 p) 0 h') ∨ (¬ (f = 0 ∧ dgt (sg b n p)) ∧ F_X10_readNumber N (x1 : Int) h = some (0, h') ∧ TC b L n p (if f = 0 then -1000 - p else f) h')) := by
  have T1 := T.1
  have T2 := T.2.1
  unfold F_X10_readNumber J_X10_readNumber_12
  rw [x_digit H, bd_s]
  by_cases z : f = 0 ∧ dgt (sg b n p)
  · obtain ⟨z1, z2⟩ := id z
    rw [z1] at H
    obtain ⟨h', a1, a2, a3⟩ := l_num (N := N) T h1.2 x1 N p 0 h (Nat.le_refl _) (by omega) hp H (by omega) (by
      have : 10 ^ x1 ≤ 10 ^ 5 := Nat.pow_le_pow_right (by decide) h1.2
      omega)
    rw [Nat.sub_self] at a1
    rw [if_pos z, if_neg (by decide)]
    exact ⟨h', a3, Or.inl ⟨z1, z2, a1, a2⟩⟩
  · obtain ⟨h', a1, a2, a3⟩ := x_fail (N := N) H (by omega) (k := 1) (by omega)
    have a1 : F_X10_fail N 1 h = some h' := a1
    have e : (-1000 * ((1 : Nat) : Int) - (p : Int)) = -1000 - p := by omega
    rw [e] at a2
    obtain ⟨m, rfl⟩ : ∃ m, N = m + 1 := ⟨N - 1, by omega⟩
    rw [if_neg z, if_pos rfl, a1, bv_s]
    refine ⟨h', a3, Or.inr ⟨z, ?_, a2⟩⟩
    unfold L_X10_readNumber_16
    have nf : ¬ ((if f = 0 then -1000 - (p : Int) else f) = 0 ∧ dgt (sg b n p)) := by
      by_cases y : f = 0
      · rw [if_pos y]; omega
      · rw [if_neg y]; exact fun w => y w.1
    rw [if_neg (by omega), x_digit a2, bd_s, if_neg nf, if_pos rfl]
theorem m_here (T : TXT b L n) (H : MC b L n p g) : F_X12_here N g = some (sg b n p, g) := by
  unfold F_X12_here sg
  have T1 := T.1
  have T2 := T.2.1
  rw [H.1, H.2.1]
  by_cases q : p < n
  · rw [if_neg (by omega), grd_t ⟨by omega, by omega⟩, Int.toNat_natCast, H.2.2 p (by omega), if_pos q]
  · rw [if_pos (by omega), if_neg q]
theorem m_digit (T : TXT b L n) (H : MC b L n p g) : F_X12_isDigit N g = some (if dgt (sg b n p) then 1 else 0, g) := by
  unfold F_X12_isDigit
  rw [m_here T H, bd_s]
  by_cases y : sg b n p < 48
  · rw [if_pos y, if_neg (fun z => by have := z.1; omega)]
  · rw [if_neg y, m_here T H, bd_s]
    by_cases x : 57 < sg b n p
    · rw [if_pos x, if_neg (fun z => by have := z.2; omega)]
    · rw [if_neg x, if_pos ⟨by omega, by omega⟩]
theorem m_letter (T : TXT b L n) (H : MC b L n p g) : F_X12_isLetterHere N g = some (if ltr (sg b n p) then 1 else 0, g) := by
  unfold F_X12_isLetterHere
  rw [m_here T H, bd_s, s_in, bd_s]
  by_cases q : 97 ≤ sg b n p ∧ sg b n p ≤ 110
  · rw [if_pos q, grd_t (Or.inr rfl)]
  · rw [if_neg q, grd_t (Or.inl rfl)]
theorem m_wrong {k w : Nat} (hk : k < 10) (hw' : w < 1000) : F_X12_wrongAt N (k : Int) (w : Int) g = some (0, hw g 83 18 (-1000 * (k : Int) - w)) := by
  unfold F_X12_wrongAt
  rw [w32_id (x := -1000 * (k : Int)) ⟨by omega, by omega⟩, w32_id ⟨by omega, by omega⟩, bnd_s]
theorem MC.w (H : MC b L n p g) {j : Nat} {v : Int} (h1 : j ≠ 16) (h2 : j ≠ 17) : MC b L n p (hw g 83 j v) := ⟨by rw [hw_ne (by omega)]; exact H.1, by rw [hw_ne (by omega)]; exact H.2.1, fun i hi => by rw [hw_ne (by omega)]; exact H.2.2 i hi⟩
theorem MC.wc (H : MC b L n p g) {c j : Nat} {v : Int} (h1 : c ≠ 83) (h2 : c ≠ 96) : MC b L n p (hw g c j v) := ⟨by rw [hw_ne (by omega)]; exact H.1, by rw [hw_ne (by omega)]; exact H.2.1, fun i hi => by rw [hw_ne (by omega)]; exact H.2.2 i hi⟩
theorem MC.st (H : MC b L n p g) : MC b L n (p + 1) (hw g 83 16 ((p + 1 : Nat) : Int)) := ⟨hw_eq, by rw [hw_ne (by omega)]; exact H.2.1, fun i hi => by rw [hw_ne (by omega)]; exact H.2.2 i hi⟩
theorem m_takes (T : TXT b L n) (H : MC b L n p g) (hp : p ≤ n) (c : Int) : ∃ g', (∀ c j, ¬ (c = 83 ∧ (j = 16 ∨ j = 18)) → g' c j = g c j) ∧ ((sg b n p = c ∧ F_X12_takes N c g = some (1, g') ∧ MC b L n (p + 1) g') ∨ (¬ sg b n p = c ∧ F_X12_takes N c g = some (0, g') ∧ g' 83 18 = -1000 - p)) := by
  have T1 := T.1
  have T2 := T.2.1
  unfold F_X12_takes
  rw [m_here T H, bd_s]
  by_cases q : sg b n p = c
  · rw [if_pos q, H.1, inc (by omega), bnd_s]
    exact ⟨_, fun c j z => by rw [hw_ne (by omega)], Or.inl ⟨q, rfl, H.st⟩⟩
  · have e : F_X12_wrongAt N 1 (p : Int) g = some (0, hw g 83 18 (-1000 * ((1 : Nat) : Int) - p)) := m_wrong (N := N) (k := 1) (w := p) (by omega) (by omega)
    rw [if_neg q, H.1, e, bd_s, grd_t (Or.inl rfl)]
    exact ⟨_, fun c j z => by rw [hw_ne (by omega)], Or.inr ⟨q, rfl, by rw [hw_eq]; omega⟩⟩
def ex83 (g h : Hp) : Prop := ∀ c j, ¬ (c = 83 ∧ (j = 16 ∨ j = 18 ∨ j = 19)) → h c j = g c j
theorem ex83.tr {a b c : Hp} (h1 : ex83 a b) (h2 : ex83 b c) : ex83 a c := fun x j p => (h2 x j p).trans (h1 x j p)
theorem l_two (T : TXT b L n) {w : Nat} (hw' : w ≤ n) : ∀ (m q p : Nat) (v : Int) (g : Hp), p + m = w + 2 → m < q → p ≤ n → MC b L n p g → g 83 19 = v → 0 ≤ v → (v + 1) * ((10 ^ m : Nat) : Int) ≤ 1000000 → ∃ g', L_X12_readsTwo_27 N q (w : Int) g = some (1, g') ∧ MC b L n (rnp b n m p) g' ∧ g' 83 19 = rnv b n m p v ∧ ex83 g g'
  | _, 0, _, _, _, _, hq, _, _, _, _, _ => absurd hq (by omega)
  | 0, q + 1, p, v, g, hm, _, hp, H, hv, _, _ => by
    have T1 := T.1
    have T2 := T.2.1
    unfold L_X12_readsTwo_27
    refine ⟨g, ?_, H, hv, fun _ _ _ => rfl⟩
    rw [m_digit T H, bd_s, H.1, w32_id ⟨by omega, by omega⟩]
    by_cases z : dgt (sg b n p)
    · rw [if_pos z, if_neg (by decide), if_pos (by omega)]
    · rw [if_neg z, if_pos rfl]
  | m + 1, q + 1, p, v, g, hm, hq, hp, H, hv, hv0, hB => by
    have T1 := T.1
    have T2 := T.2.1
    have hp0 : 0 < 10 ^ m := Nat.pow_pos (by decide)
    have e : ((10 ^ (m + 1) : Nat) : Int) = 10 * ((10 ^ m : Nat) : Int) := by rw [Nat.pow_succ]; omega
    obtain ⟨P, hP⟩ : ∃ P : Int, P = ((10 ^ m : Nat) : Int) := ⟨_, rfl⟩
    have p1 : 1 ≤ P := by omega
    rw [e, ← hP] at hB
    have e2 : (v + 1) * (10 * P) = (10 * v + 10) * P := by rw [← Int.mul_assoc, show (v + 1) * 10 = 10 * v + 10 by omega]
    rw [e2] at hB
    have vb : 10 * v + 10 ≤ 1000000 := by
      have : (10 * v + 10) * 1 ≤ (10 * v + 10) * P := Int.mul_le_mul_of_nonneg_left (by omega) (by omega)
      omega
    clear e e2
    unfold L_X12_readsTwo_27 rnv rnp
    rw [m_digit T H, bd_s]
    by_cases z : dgt (sg b n p)
    · have pn := (sg_b T p).2.2 (by omega)
      obtain ⟨g1, eg1⟩ : ∃ g1, g1 = hw (hw g 83 19 (10 * v + sg b n p - 48)) 83 16 ((p + 1 : Nat) : Int) := ⟨_, rfl⟩
      have H1 : MC b L n (p + 1) g1 := by rw [eg1]; exact (H.w (by omega) (by omega)).st
      obtain ⟨g', b1, b2, b3, b4⟩ := l_two T hw' m q (p + 1) (10 * v + sg b n p - 48) g1 (by omega) (by omega) (by omega) H1 (by rw [eg1, hw_ne (by omega), hw_eq]) (by omega) (by
        rw [← hP]
        refine Int.le_trans ?_ hB
        exact Int.mul_le_mul_of_nonneg_right (by omega) (by omega))
      rw [if_pos z, if_neg (by decide), H.1, w32_id (x := (w : Int) + 2) ⟨by omega, by omega⟩, if_neg (by omega), m_here T H, bd_s, hv, w32_id (x := 10 * v) ⟨by omega, by omega⟩, w32_id (x := 10 * v + sg b n p) ⟨by omega, by omega⟩, w32_id (x := 10 * v + sg b n p - 48) ⟨by omega, by omega⟩, bnd_s, bnd_s, hw_ne (by omega), H.1, inc (by omega), ← eg1, if_pos z, if_pos z]
      exact ⟨g', b1, b2, b3, ex83.tr (fun c j y => by rw [eg1, hw_ne (by omega), hw_ne (by omega)]) b4⟩
    · rw [if_neg z, if_pos rfl, if_neg z, if_neg z]
      exact ⟨g, rfl, H, hv, fun _ _ _ => rfl⟩
theorem m_two (hN : 1000000 ≤ N) (T : TXT b L n) (H : MC b L n p g) (hp : p ≤ n) : ∃ g', ex83 g g' ∧ ((dgt (sg b n p) ∧ F_X12_readsTwo N g = some (1, g') ∧ MC b L n (rnp b n 2 p) g' ∧ g' 83 19 = rnv b n 2 p 0) ∨ (¬ dgt (sg b n p) ∧ F_X12_readsTwo N g = some (0, g') ∧ g' 83 18 = -1000 - p)) := by
  have T1 := T.1
  have T2 := T.2.1
  unfold F_X12_readsTwo
  rw [bnd_s, m_digit T H, bd_s, H.1]
  by_cases z : dgt (sg b n p)
  · rw [if_pos z, if_neg (by decide), bnd_s]
    obtain ⟨g', b1, b2, b3, b4⟩ := l_two (N := N) T hp 2 N p 0 (hw g 83 19 0) (by omega) (by omega) hp (H.w (by omega) (by omega)) hw_eq (by omega) (by decide)
    exact ⟨g', fun c j y => by rw [b4 c j y, hw_ne (by omega)], Or.inl ⟨z, b1, b2, b3⟩⟩
  · have e : F_X12_wrongAt N 1 (p : Int) g = some (0, hw g 83 18 (-1000 * ((1 : Nat) : Int) - p)) := m_wrong (N := N) (k := 1) (w := p) (by omega) (by omega)
    rw [if_neg z, if_pos rfl, e, bd_s, grd_t (Or.inl rfl)]
    exact ⟨_, fun c j y => by rw [hw_ne (by omega)], Or.inr ⟨z, rfl, by rw [hw_eq]; omega⟩⟩
theorem x_open (T : TXT b L n) (hn : 1 ≤ n) (e1 : h 41 1 = (L : Int)) (hb : ∀ j, j < L → h 42 j = b j) : ∃ h', F_X10_open N (n : Int) h = some h' ∧ TC b L n 0 0 h' ∧ ex41 h h' := by
  obtain ⟨T1, T2, T3⟩ := T
  unfold F_X10_open J_X10_open_32
  simp only [bnd_s]
  obtain ⟨h1, e⟩ : ∃ h1, h1 = hw (hw (hw h 41 2 0) 41 3 (n : Int)) 41 5 0 := ⟨_, rfl⟩
  rw [← e]
  have d1 : h1 41 1 = (L : Int) := by rw [e, hw_ne (by omega), hw_ne (by omega), hw_ne (by omega)]; exact e1
  have d2 : h1 41 2 = 0 := by rw [e, hw_ne (by omega), hw_ne (by omega), hw_eq]
  have d3 : h1 41 3 = (n : Int) := by rw [e, hw_ne (by omega), hw_eq]
  have d5 : h1 41 5 = 0 := by rw [e, hw_eq]
  have d42 : ∀ j, h1 42 j = h 42 j := fun j => by rw [e, hw_ne (by omega), hw_ne (by omega), hw_ne (by omega)]
  have ea : F_X10_at N 0 h1 = some (h1 42 0, h1) := s_at (N := N) (n := L) (i := 0) d1 T1 ⟨by omega, by omega⟩
  rw [d3, if_neg (by omega), ea, bd_s]
  refine ⟨_, rfl, ⟨by rw [hw_ne (by omega)]; exact d1, by rw [hw_ne (by omega)]; exact d2, by rw [hw_ne (by omega)]; exact d3, ?_, by rw [hw_ne (by omega)]; exact d5, fun j hj => by rw [hw_ne (by omega), d42]; exact hb j hj⟩, fun c j z => by rw [hw_ne (by omega), e, hw_ne (by omega), hw_ne (by omega), hw_ne (by omega)]⟩
  rw [hw_eq, d42, hb 0 (by omega)]
  unfold sg
  rw [if_pos (by omega)]
end TP
