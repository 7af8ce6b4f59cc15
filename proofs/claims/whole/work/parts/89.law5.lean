/-! THE LAW: READING, THE SMALL STEPS -/
def i2cAll : Nat → Bool
  | 0 => true
  | k + 1 => decide (i2c (k : Int) = (k : Int)) && i2cAll k
set_option maxRecDepth 1000000 in
theorem i2c_all : i2cAll 256 = true := by decide
theorem i2c_of : ∀ (n : Nat), i2cAll n = true → ∀ k, k < n → i2c (k : Int) = (k : Int)
  | 0, _, k, hk => absurd hk (by omega)
  | n + 1, h, k, hk => by
    unfold i2cAll at h
    rw [Bool.and_eq_true] at h
    by_cases z : k = n
    · subst z; exact of_decide_eq_true h.1
    · exact i2c_of n h.2 k (by omega)
theorem i2c_id {x : Int} (h : 0 ≤ x ∧ x ≤ 255) : i2c x = x := by
  obtain ⟨k, rfl⟩ : ∃ k : Nat, x = (k : Int) := ⟨x.toNat, by omega⟩
  exact i2c_of 256 i2c_all k (by omega)
def RSt (b : Nat → Int) (L n p len ht op : Nat) (g : Hp) : Prop := MC b L n p g ∧ g 83 21 = (len : Int) ∧ g 83 22 = (ht : Int) ∧ g 83 20 = (op : Int)
def exP (a : Nat) (h h' : Hp) : Prop := ∀ c j, ¬ (c = 41) → ¬ (c = 44 ∧ j = 7) → ¬ ((c = 49 ∨ c = 50) ∧ a ≤ j) → h' c j = h c j
def exQ (a s : Nat) (g g' : Hp) : Prop := ∀ c j, ¬ (c = 83 ∧ 16 ≤ j ∧ j ≤ 22 ∧ j ≠ 17) → ¬ (c = 97 ∧ a ≤ j) → ¬ (c = 98 ∧ s ≤ j) → g' c j = g c j
theorem exP.tr {a a' : Nat} {x y z : Hp} (h1 : exP a x y) (h2 : exP a' y z) (ha : a ≤ a') : exP a x z := fun c j p q r => (h2 c j p q (by omega)).trans (h1 c j p q r)
theorem exQ.tr {a a' s s' : Nat} {x y z : Hp} (h1 : exQ a s x y) (h2 : exQ a' s' y z) (ha : a ≤ a') (hs : s ≤ s') : exQ a s x z := fun c j p q r => (h2 c j p (by omega) (by omega)).trans (h1 c j p q r)
def PG (h g : Hp) (j : Nat) (o v : Int) : Prop := h 49 j = o ∧ h 50 j = v ∧ g 97 j = 1048576 * rop o + v
def tp (g : Hp) (ht : Nat) : Int := if ht = 0 then -1 else idiv (g 98 (ht - 1)) 1048576
section LP
variable {b : Nat → Int} {N L n p len ht op : Nat} {f : Int} {h g : Hp}
theorem ex41.P {h' : Hp} (E : ex41 h h') (a : Nat) : exP a h h' := fun c j z1 _ _ => E c j z1
theorem RSt.le (R : RSt b L n p len ht op g) {j : Nat} {v : Int} (hj : j ≠ 16 ∧ j ≠ 17 ∧ j ≠ 20 ∧ j ≠ 21 ∧ j ≠ 22) : RSt b L n p len ht op (hw g 83 j v) := ⟨R.1.w hj.1 hj.2.1, by rw [hw_ne (by omega)]; exact R.2.1, by rw [hw_ne (by omega)]; exact R.2.2.1, by rw [hw_ne (by omega)]; exact R.2.2.2⟩
theorem RSt.wc (R : RSt b L n p len ht op g) {c j : Nat} {v : Int} (h1 : c ≠ 83) (h2 : c ≠ 96) : RSt b L n p len ht op (hw g c j v) := ⟨R.1.wc h1 h2, by rw [hw_ne (by omega)]; exact R.2.1, by rw [hw_ne (by omega)]; exact R.2.2.1, by rw [hw_ne (by omega)]; exact R.2.2.2⟩
theorem RSt.st (R : RSt b L n p len ht op g) : RSt b L n (p + 1) len ht op (hw g 83 16 ((p + 1 : Nat) : Int)) := ⟨R.1.st, by rw [hw_ne (by omega)]; exact R.2.1, by rw [hw_ne (by omega)]; exact R.2.2.1, by rw [hw_ne (by omega)]; exact R.2.2.2⟩
theorem RSt.sl (R : RSt b L n p len ht op g) (x : Nat) : RSt b L n p x ht op (hw g 83 21 (x : Int)) := ⟨R.1.w (by omega) (by omega), hw_eq, by rw [hw_ne (by omega)]; exact R.2.2.1, by rw [hw_ne (by omega)]; exact R.2.2.2⟩
theorem RSt.sh (R : RSt b L n p len ht op g) (x : Nat) : RSt b L n p len x op (hw g 83 22 (x : Int)) := ⟨R.1.w (by omega) (by omega), by rw [hw_ne (by omega)]; exact R.2.1, hw_eq, by rw [hw_ne (by omega)]; exact R.2.2.2⟩
theorem RSt.so (R : RSt b L n p len ht op g) (x : Nat) : RSt b L n p len ht x (hw g 83 20 (x : Int)) := ⟨R.1.w (by omega) (by omega), by rw [hw_ne (by omega)]; exact R.2.1, by rw [hw_ne (by omega)]; exact R.2.2.1, hw_eq⟩
theorem x_adS {o v : Int} (e : h 44 7 = (len : Int)) (hl : len < 240) : ∃ h', F_X2_addSign N o v h = some h' ∧ h' 44 7 = ((len + 1 : Nat) : Int) ∧ h' 49 len = o ∧ h' 50 len = v ∧ (∀ c j, ¬ (c = 44 ∧ j = 7) → ¬ ((c = 49 ∨ c = 50) ∧ j = len) → h' c j = h c j) := by
  unfold F_X2_addSign
  rw [e, if_neg (by omega), grd_t ⟨by omega, by omega⟩, bnd_s, Int.toNat_natCast, hw_ne (by omega), e, grd_t ⟨by omega, by omega⟩, bnd_s, Int.toNat_natCast, bnd_s, hw_ne (by omega), hw_ne (by omega), e, inc (by omega)]
  exact ⟨_, rfl, hw_eq, by rw [hw_ne (by omega), hw_ne (by omega), hw_eq], by rw [hw_ne (by omega), hw_eq], fun c j z1 z2 => by rw [hw_ne (by omega), hw_ne (by omega), hw_ne (by omega)]⟩
/-- at a fault -/
def FS (b : Nat → Int) (L n : Nat) (f : Int) (h h' : Hp) : Prop := (∃ p, p ≤ n ∧ TC b L n p f h') ∧ (∃ l : Nat, l ≤ 240 ∧ h' 44 7 = (l : Int)) ∧ exP 0 h h'
theorem FS.tr {x y z : Hp} (h1 : FS b L n f x y) (h2 : FS b L n f y z) : FS b L n f x z := ⟨h2.1, h2.2.1, exP.tr h1.2.2 h2.2.2 (by omega)⟩
theorem FS.ad {o v : Int} (H : FS b L n f h g) : ∃ h', F_X2_addSign N o v g = some h' ∧ FS b L n f h h' ∧ ∀ j, h' 41 j = g 41 j := by
  obtain ⟨⟨p, hp, t⟩, ⟨l, hl, el⟩, e⟩ := H
  by_cases z : l < 240
  · obtain ⟨h', a1, a2, a3, a4, a5⟩ := x_adS (N := N) (o := o) (v := v) el z
    exact ⟨h', a1, ⟨⟨p, hp, t.ag (fun c j y => a5 c j (by omega) (by omega))⟩, ⟨l + 1, by omega, a2⟩, fun c j z1 z2 z3 => by rw [a5 c j z2 (by omega)]; exact e c j z1 z2 z3⟩, fun j => a5 41 j (by omega) (by omega)⟩
  · refine ⟨g, ?_, ⟨⟨p, hp, t⟩, ⟨l, hl, el⟩, e⟩, fun _ => rfl⟩
    unfold F_X2_addSign
    rw [el, if_pos (by omega)]
theorem FS.st (T : TXT b L n) (H : FS b L n f h g) (hp : ∀ p, TC b L n p f g → p < n) : ∃ h', F_X10_step N g = some h' ∧ FS b L n f h h' := by
  obtain ⟨⟨p, hp', t⟩, ⟨l, hl, el⟩, e⟩ := H
  have T1 := T.1
  have T2 := T.2.1
  have pn := hp p t
  obtain ⟨h', a1, a2, a3⟩ := x_step (N := N) T t (by omega)
  exact ⟨h', a1, ⟨p + 1, pn, a2⟩, ⟨l, hl, by rw [a3 44 7 (by omega)]; exact el⟩, fun c j z1 z2 z3 => by rw [a3 c j z1]; exact e c j z1 z2 z3⟩
theorem FS.fl (T : TXT b L n) (hf : f ≠ 0) (H : FS b L n f h g) {k : Nat} (hk : k < 10) : ∃ h', F_X10_fail N (k : Int) g = some h' ∧ FS b L n f h h' := by
  obtain ⟨⟨p, hp', t⟩, ⟨l, hl, el⟩, e⟩ := H
  have T1 := T.1
  have T2 := T.2.1
  obtain ⟨h', a1, a2, a3⟩ := x_fail (N := N) t (by omega) hk
  rw [if_neg hf] at a2
  exact ⟨h', a1, ⟨p, hp', a2⟩, ⟨l, hl, by rw [a3 44 7 (by omega)]; exact el⟩, fun c j z1 z2 z3 => by rw [a3 c j z1]; exact e c j z1 z2 z3⟩
theorem FS.nd (T : TXT b L n) (hf : f ≠ 0) (H : FS b L n f h g) (c : Int) : ∃ h', F_X10_need N c g = some h' ∧ FS b L n f h h' := by
  obtain ⟨⟨p, hp', t⟩, ⟨l, hl, el⟩, e⟩ := H
  have T1 := T.1
  have T2 := T.2.1
  obtain ⟨h', a1, a3, z | z⟩ := x_need (N := N) T t (by omega) c
  · exact absurd z.1 hf
  · have a2 := z.2
    rw [if_neg hf] at a2
    exact ⟨h', a1, ⟨p, hp', a2⟩, ⟨l, hl, by rw [a3 44 7 (by omega)]; exact el⟩, fun c j z1 z2 z3 => by rw [a3 c j z1]; exact e c j z1 z2 z3⟩
theorem FS.se (hf : f ≠ 0) (H : FS b L n f h g) (c : Int) : F_X10_sees N c g = some (0, g) := by
  obtain ⟨⟨p, hp', t⟩, -⟩ := H
  rw [x_sees t, if_neg (fun z => hf z.1)]
theorem FS.dg (hf : f ≠ 0) (H : FS b L n f h g) : F_X10_seesDigit N g = some (0, g) := by
  obtain ⟨⟨p, hp', t⟩, -⟩ := H
  rw [x_digit t, if_neg (fun z => hf z.1)]
theorem FS.fact (T : TXT b L n) (hf : f ≠ 0) (H : FS b L n f h g) : ∃ h', F_X3_readFact N g = some h' ∧ FS b L n f h h' := by
  obtain ⟨⟨p, hp', t⟩, -⟩ := id H
  have neg : ∃ h', J_X3_readFact_27 N (-1) g = some h' ∧ FS b L n f h h' := by
    obtain ⟨h', a1, a2⟩ := H.fl (N := N) T hf (k := 1) (by omega)
    unfold J_X3_readFact_27
    have a1 : F_X10_fail N 1 g = some h' := a1
    rw [if_pos (by decide), a1, bv_s]
    exact ⟨h', rfl, a2⟩
  unfold F_X3_readFact
  rw [x_end t, bd_s]
  by_cases z : p < n
  · rw [if_pos z, if_pos rfl, x_sign t, bd_s]
    unfold J_X3_readFact_27
    by_cases y : sIdx (i2c (sg b n p)) < 0
    · obtain ⟨h', a1, a2⟩ := H.fl (N := N) T hf (k := 1) (by omega)
      have a1 : F_X10_fail N 1 g = some h' := a1
      rw [if_pos y, a1, bv_s]
      exact ⟨h', rfl, a2⟩
    · rw [if_neg y]
      obtain ⟨h1, a1, a2, a3⟩ := H.ad (N := N) (o := 97) (v := sIdx (i2c (sg b n p)))
      rw [a1, bv_s]
      have hlt : ∀ p', TC b L n p' f h1 → p' < n := fun p' t' => by
        have e1 := t'.2.1
        have e2 := t.2.1
        rw [a3 2, e2] at e1
        omega
      obtain ⟨h2, b1, b2⟩ := a2.st (N := N) T hlt
      rw [b1, bv_s]
      exact ⟨h2, rfl, b2⟩
  · rw [if_neg z, if_neg (by decide)]
    exact neg
end LP
