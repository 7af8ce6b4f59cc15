/-! CUT -/
theorem Inv.ir {h h' : Hp} {N : Nat} (e : ∀ c j, ¬ scr c j → ¬ (c = 7 ∨ c = 8 ∨ c = 10 ∨ c = 90 ∨ c = 91) → h' c j = h c j) (hT : ∀ t, IT h t → IR h t → IR h' t) (H : Inv N h) : Inv N h' := by
  obtain ⟨t, i1, i2, i3, i4, i5, i6, i7, i8, i9, i10⟩ := H
  have ec : ∀ c, (∀ j, ¬ scr c j) → ¬ (c = 7 ∨ c = 8 ∨ c = 10 ∨ c = 90 ∨ c = 91) → h' c = h c := fun c hc hd => funext fun j => e c j (hc j) hd
  unfold scr at e ec
  refine ⟨t, i1.ag (e 1 4 (by omega) (by omega)) (e 83 12 (by omega) (by omega)), i2.ag (fun c hc => ec c (fun j => by omega) (by omega)), i3.ag (ec 5 (fun j => by omega) (by omega)) (fun i _ => e 84 i (by omega) (by omega)), i4.ag (fun j _ => e 1 j (by omega) (by omega)) (fun i _ => e 84 i (by omega) (by omega)), i5.ag (fun j _ => e 1 j (by omega) (by omega)) (ec 6 (fun j => by omega) (by omega)) (ec 86 (fun j => by omega) (by omega)) (e 83 58 (by omega) (by omega)), i6.ag (e 41 1 (by omega) (by omega)) (e 83 15 (by omega) (by omega)) (ec 42 (fun j => by omega) (by omega)) (ec 96 (fun j => by omega) (by omega)), i7.ag (e 83 13 (by omega) (by omega)) (fun c hc => ec c (fun j => by omega) (by omega)), hT t i1 i8, i9.ag (e 83 24 (by omega) (by omega)) (e 11 4 (by omega) (by omega)) (fun c _ _ => ec c (fun j => by omega) (by omega)) (fun c _ _ => ec c (fun j => by omega) (by omega)), (e 83 51 (by omega) (by omega)).trans i10⟩
/-- the roads without one -/
def rcl (r : Nat → Int) (a b p : Nat) : Int := if p = 14 * a + b ∨ p = 14 * b + a then 0 else r p
theorem rcl_ok {r : Nat → Int} {t a b : Nat} (hr : RdOK r t) (ha : a < 14) (hb : b < 14) : RdOK (rcl r a b) t := by
  obtain ⟨r1, r2, r3⟩ := hr
  refine ⟨fun p hp => ?_, fun i j hi hj => ?_, fun i j hi hj h0 => ?_⟩
  · have := r1 p hp
    unfold rcl
    split <;> omega
  · have e : (14 * i + j = 14 * a + b ∨ 14 * i + j = 14 * b + a) ↔ (14 * j + i = 14 * a + b ∨ 14 * j + i = 14 * b + a) := by omega
    unfold rcl
    by_cases z : 14 * i + j = 14 * a + b ∨ 14 * i + j = 14 * b + a
    · rw [if_pos z, if_pos (e.mp z)]
    · rw [if_neg z, if_neg (fun y => z (e.mpr y)), r2 i j hi hj]
  · unfold rcl at h0
    by_cases z : 14 * i + j = 14 * a + b ∨ 14 * i + j = 14 * b + a
    · rw [if_pos z] at h0; omega
    · rw [if_neg z] at h0; exact r3 i j hi hj h0
theorem bsC_rcl {r : Nat → Int} {t a b : Nat} (ha : a < 14) (hb : b < 14) {i j : Nat} (hi : i < 14) (hj : j < 14) : bsC r t (a : Int) (b : Int) i j = bsM (rcl r a b) t i j := by
  unfold bsC bsM rcl
  have e : (((i : Int) = (a : Int) ∧ (j : Int) = (b : Int)) ∨ ((i : Int) = (b : Int) ∧ (j : Int) = (a : Int))) ↔ (14 * i + j = 14 * a + b ∨ 14 * i + j = 14 * b + a) := by omega
  by_cases z : 14 * i + j = 14 * a + b ∨ 14 * i + j = 14 * b + a
  · have z2 := e.mpr z
    simp only [if_pos z, z2, not_true_eq_false, and_false, Int.lt_irrefl, if_false]
  · have z2 : ¬ (((i : Int) = (a : Int) ∧ (j : Int) = (b : Int)) ∨ ((i : Int) = (b : Int) ∧ (j : Int) = (a : Int))) := fun y => z (e.mp y)
    simp only [if_neg z, z2, not_false_eq_true, and_true]
/-- how many are nearer -/
def rk (f : Nat → Int) (v : Int) : Nat → Nat
  | 0 => 0
  | k + 1 => rk f v k + (if f k < v then 1 else 0)
theorem rk_le (f : Nat → Int) (v : Int) : ∀ k, rk f v k ≤ k
  | 0 => Nat.le_refl _
  | k + 1 => by have := rk_le f v k; simp only [rk]; split <;> omega
theorem rk_mono {f : Nat → Int} {v w : Int} (h : v ≤ w) : ∀ k, rk f v k ≤ rk f w k
  | 0 => Nat.le_refl _
  | k + 1 => by
    have := rk_mono (f := f) h k
    simp only [rk]
    by_cases q : f k < v
    · rw [if_pos q, if_pos (by omega)]; omega
    · rw [if_neg q]; omega
theorem rk_lt {f : Nat → Int} {w : Int} {a : Nat} (h : f a < w) : ∀ k, a < k → rk f (f a) k + 1 ≤ rk f w k
  | 0, ha => absurd ha (by omega)
  | k + 1, ha => by
    simp only [rk]
    by_cases e : a = k
    · subst e
      have := rk_mono (f := f) (show f a ≤ w by omega) a
      rw [if_neg (by omega), if_pos h]
      omega
    · have := rk_lt h k (by omega)
      by_cases q : f k < f a
      · rw [if_pos q, if_pos (by omega)]; omega
      · rw [if_neg q]; omega
def nbY (r : Nat → Int) (i j : Nat) : Int := if 0 < r (14 * i + j) then 0 else 1
def nbs (r : Nat → Int) (i : Nat) : Nat := alf (nbY r i) 14
theorem nbs_t {r : Nat → Int} {i j : Nat} : (nbs r i).testBit j = true ↔ j < 14 ∧ 0 < r (14 * i + j) := by
  unfold nbs
  rw [alf_t]
  unfold nbY
  constructor
  · rintro ⟨h1, h2⟩
    refine ⟨h1, ?_⟩
    by_cases q : 0 < r (14 * i + j)
    · exact q
    · rw [if_neg q] at h2; cases h2
  · rintro ⟨h1, h2⟩
    exact ⟨h1, by rw [if_pos h2]⟩
theorem nbs_lt (r : Nat → Int) (i : Nat) : nbs r i < 2 ^ 14 := alf_lt _ _
/-- one turn, up to a street -/
def trn (r : Nat → Int) (s : Nat) : Nat → Nat
  | 0 => s
  | k + 1 => if (trn r s k).testBit k = true then trn r s k ||| nbs r k else trn r s k
section TR
variable {r : Nat → Int} {s : Nat}
theorem trn_lt (hs : s < 2 ^ 14) : ∀ k, trn r s k < 2 ^ 14
  | 0 => hs
  | k + 1 => by
    have := trn_lt hs k
    unfold trn
    split
    · exact Nat.or_lt_two_pow this (nbs_lt r k)
    · exact this
theorem trn_up {x : Nat} : ∀ (k d : Nat), (trn r s k).testBit x = true → (trn r s (k + d)).testBit x = true
  | k, 0, h => h
  | k, d + 1, h => by
    have := trn_up k d h
    show (if (trn r s (k + d)).testBit (k + d) = true then trn r s (k + d) ||| nbs r (k + d) else trn r s (k + d)).testBit x = true
    split
    · rw [Nat.testBit_or, this]; rfl
    · exact this
theorem trn_nb {x y : Nat} (hx : x < 14) (hs : s.testBit x = true) (hy : y < 14) (hr : 0 < r (14 * x + y)) : (trn r s 14).testBit y = true := by
  have h1 : (trn r s x).testBit x = true := by
    have := trn_up (r := r) (s := s) (x := x) 0 x hs
    rw [Nat.zero_add] at this
    exact this
  have h2 : (trn r s (x + 1)).testBit y = true := by
    show (if (trn r s x).testBit x = true then trn r s x ||| nbs r x else trn r s x).testBit y = true
    rw [if_pos h1, Nat.testBit_or, nbs_t.mpr ⟨hy, hr⟩, Bool.or_true]
  have := trn_up (x + 1) (14 - (x + 1)) h2
  rw [show x + 1 + (14 - (x + 1)) = 14 by omega] at this
  exact this
theorem trn_so {P : Nat → Prop} (h0 : ∀ x, s.testBit x = true → P x) (hP : ∀ x y, x < 14 → y < 14 → P x → 0 < r (14 * x + y) → P y) : ∀ k, k ≤ 14 → ∀ x, (trn r s k).testBit x = true → P x
  | 0, _, x, h => h0 x h
  | k + 1, hk, x, h => by
    have ih := trn_so h0 hP k (by omega)
    unfold trn at h
    by_cases q : (trn r s k).testBit k = true
    · rw [if_pos q, Nat.testBit_or, Bool.or_eq_true] at h
      rcases h with h | h
      · exact ih x h
      · obtain ⟨h1, h2⟩ := nbs_t.mp h
        exact hP k x (by omega) h1 (ih k q) h2
    · rw [if_neg q] at h
      exact ih x h
end TR
section CU
variable {N t : Nat} {h g : Hp}
theorem l_nb {i a b : Nat} (hi : i < 14) (ha : a < b) (hb : b < 14) : ∀ q k : Nat, k ≤ 14 → 14 - k < q → L_X7_neighboursOf_6 N q (i : Int) (a : Int) (b : Int) (alf (nbY (rcl (h 8) a b) i) k : Nat) (k : Int) h = some (((nbs (rcl (h 8) a b) i : Nat) : Int), h)
  | 0, k, _, hq => absurd hq (by omega)
  | q + 1, k, hk, hq => by
    unfold L_X7_neighboursOf_6
    by_cases c : k = 14
    · subst c; rw [if_pos (by omega)]; rfl
    · have ih := l_nb hi ha hb q (k + 1) (by omega) (by omega)
      have al := alf_lt (nbY (rcl (h 8) a b) i) k
      have p14 : 2 ^ k < 2 ^ 14 := pow_lt2 (by omega)
      have ew : w32 (w32 ((i : Int) * 14) + (k : Int)) = ((14 * i + k : Nat) : Int) := by rw [w32_id (x := (i : Int) * 14) ⟨by omega, by omega⟩, w32_id ⟨by omega, by omega⟩]; omega
      have g196 : 0 ≤ ((14 * i + k : Nat) : Int) ∧ ((14 * i + k : Nat) : Int) < 196 := ⟨by omega, by omega⟩
      have cl : (imin (i : Int) (k : Int) = (a : Int) ∧ imax (i : Int) (k : Int) = (b : Int)) ↔ (14 * i + k = 14 * a + b ∨ 14 * i + k = 14 * b + a) := by
        unfold imin imax
        by_cases z : (k : Int) < (i : Int)
        · rw [if_pos z, if_neg (by omega)]; omega
        · rw [if_neg z]
          by_cases y : (i : Int) < (k : Int)
          · rw [if_pos y]; omega
          · rw [if_neg y]; omega
      unfold J_X7_neighboursOf_38 J_X7_neighboursOf_69
      simp only [ew, grd_t g196, Int.toNat_natCast, bnd_s, if_neg (show ¬ (1 : Int) = 0 by decide), if_true]
      clear ew
      rw [if_neg (by omega), inc (by omega)]
      simp only [alf] at ih
      by_cases z : 14 * i + k = 14 * a + b ∨ 14 * i + k = 14 * b + a
      · have y0 : ¬ nbY (rcl (h 8) a b) i k = 0 := by unfold nbY rcl; rw [if_pos z]; decide
        rw [if_neg y0] at ih
        rw [if_pos (cl.mpr z).1, if_pos (cl.mpr z).2]
        exact ih
      · have er : rcl (h 8) a b (14 * i + k) = h 8 (14 * i + k) := by unfold rcl; rw [if_neg z]
        have fin : (if h 8 (14 * i + k) ≤ 0 then L_X7_neighboursOf_6 N q (i : Int) (a : Int) (b : Int) (alf (nbY (rcl (h 8) a b) i) k : Nat) ((k + 1 : Nat) : Int) h else L_X7_neighboursOf_6 N q (i : Int) (a : Int) (b : Int) (ior (alf (nbY (rcl (h 8) a b) i) k : Nat) (ishl 1 (k : Int))) ((k + 1 : Nat) : Int) h) = some (((nbs (rcl (h 8) a b) i : Nat) : Int), h) := by
          by_cases y : h 8 (14 * i + k) ≤ 0
          · have y0 : ¬ nbY (rcl (h 8) a b) i k = 0 := by unfold nbY; rw [er, if_neg (by omega)]; decide
            rw [if_neg y0] at ih
            rw [if_pos y]
            exact ih
          · have y0 : nbY (rcl (h 8) a b) i k = 0 := by unfold nbY; rw [er, if_pos (by omega)]
            rw [if_pos y0] at ih
            rw [if_neg y, ishl_1 (by omega), ior_nat (by omega) (by omega)]
            exact ih
        by_cases y1 : imin (i : Int) (k : Int) = (a : Int)
        · rw [if_pos y1, if_neg (fun y2 => z (cl.mp ⟨y1, y2⟩))]
          exact fin
        · rw [if_neg y1]
          exact fin
theorem l_c55 (hN : 1000000 ≤ N) {a b : Nat} (ha : a < b) (hb : b < 14) {s : Nat} (hs : s < 2 ^ 14) (K : Int → Int → Int → Int → Hp → Option (Int × Hp)) (x5 : Int) : ∀ q k : Nat, k ≤ 14 → 14 - k < q → L_X7_isCut_55 N K q (a : Int) (b : Int) (trn (rcl (h 8) a b) s k : Nat) x5 (k : Int) h = K (a : Int) (b : Int) (trn (rcl (h 8) a b) s 14 : Nat) x5 h
  | 0, k, _, hq => absurd hq (by omega)
  | q + 1, k, hk, hq => by
    unfold L_X7_isCut_55
    by_cases c : k = 14
    · subst c; rw [if_pos (by omega)]
    · have ih := l_c55 hN ha hb hs K x5 q (k + 1) (by omega) (by omega)
      have lt := trn_lt (r := rcl (h 8) a b) hs k
      have nl := nbs_lt (rcl (h 8) a b) k
      have en : F_X7_neighboursOf N (k : Int) (a : Int) (b : Int) h = some (((nbs (rcl (h 8) a b) k : Nat) : Int), h) := l_nb (N := N) (by omega) ha hb N 0 (by omega) (by omega)
      unfold J_X7_isCut_85
      simp only [bnd_s]
      rw [if_neg (by omega), s_hasBit (by omega) ⟨by omega, by omega⟩, bd_s, Int.toNat_natCast, inc (by omega)]
      have e1 : trn (rcl (h 8) a b) s (k + 1) = if (trn (rcl (h 8) a b) s k).testBit k = true then trn (rcl (h 8) a b) s k ||| nbs (rcl (h 8) a b) k else trn (rcl (h 8) a b) s k := rfl
      rw [e1] at ih
      by_cases z : (trn (rcl (h 8) a b) s k).testBit k = true
      · rw [if_pos z] at ih
        rw [if_neg (by rw [btN_1.mpr z]; decide), en, bd_s, ior_nat (by omega) (by omega)]
        exact ih
      · rw [if_neg z] at ih
        rw [if_pos (btN_0 z)]
        exact ih
/-- is it come to -/
abbrev rch (r : Nat → Int) (a y : Nat) : Prop := FW (bsX r) 14 a y < 1000000
theorem rch_st {r : Nat → Int} (hr : RdOK r t) {a x y : Nat} (ha : a < 14) (hx : x < 14) (hy : y < 14) (h1 : rch r a x) (h2 : 0 < r (14 * x + y)) : rch r a y := by
  have b1 := FWX_b hr (m := 14) (by omega) ha hx h1
  have b2 := FW_T (bsX_nn (r := r)) 14 x a y hx
  have b3 := hr.1 (14 * x + y) (by omega)
  have b4 : bsX r x y ≤ 99 := by unfold bsX; split <;> (try split) <;> omega
  show FW (bsX r) 14 a y < 1000000
  omega
theorem rch_pr {r : Nat → Int} (hr : RdOK r t) {a y : Nat} (ha : a < 14) (hy : y < 14) (h1 : rch r a y) (hne : y ≠ a) : ∃ x, x < 14 ∧ rch r a x ∧ 0 < r (14 * x + y) ∧ FW (bsX r) 14 a x < FW (bsX r) 14 a y := by
  have ed : ∀ x, x < 14 → x ≠ y → bsX r x y < 1000000 → 0 < r (14 * x + y) := fun x hx hxy hb => by
    unfold bsX at hb
    rw [if_neg hxy] at hb
    by_cases z : 0 < r (14 * x + y)
    · exact z
    · rw [if_neg z] at hb; omega
  have h1' : FW (bsX r) 14 a y < 1000000 := h1
  rcases FW_P (bsX_nn (r := r)) 14 a y with z | ⟨x, x1, x2, x3⟩
  · have p := bsX_p (r := r) a y (Ne.symm hne)
    have f0 : FW (bsX r) 14 a a = 0 := FWX_d
    refine ⟨a, ha, ?_, ed a ha (Ne.symm hne) (by omega), by omega⟩
    show FW (bsX r) 14 a a < 1000000
    omega
  · have p := bsX_p (r := r) x y x2
    have n1 := FW_nn (bsX_nn (r := r)) 14 a x
    refine ⟨x, x1, ?_, ed x x1 x2 (by omega), by omega⟩
    show FW (bsX r) 14 a x < 1000000
    omega
theorem l_c45 (hN : 1000000 ≤ N) {a b : Nat} (ha : a < b) (hb : b < 14) (hr : RdOK (rcl (h 8) a b) t) : ∀ (d q T s : Nat), T + d = 14 → d < q → s < 2 ^ 14 → (∀ x, s.testBit x = true → x < 14 ∧ rch (rcl (h 8) a b) a x) → (∀ y, y < 14 → rch (rcl (h 8) a b) a y → rk (FW (bsX (rcl (h 8) a b)) 14 a) (FW (bsX (rcl (h 8) a b)) 14 a y) 14 ≤ T → s.testBit y = true) → L_X7_isCut_45 N q (a : Int) (b : Int) (s : Int) (T : Int) h = some (if rch (rcl (h 8) a b) a b then 0 else 1, h)
  | _, 0, _, _, _, hq, _, _, _ => absurd hq (by omega)
  | 0, q + 1, T, s, hT, _, hs, A, B => by
    obtain rfl : T = 14 := by omega
    unfold L_X7_isCut_45
    rw [if_pos (by omega), s_hasBit (by omega) ⟨by omega, by omega⟩, bd_s, Int.toNat_natCast]
    by_cases z : rch (rcl (h 8) a b) a b
    · have := B b hb z (rk_le _ _ _)
      rw [if_pos z, if_neg (by rw [btN_1.mpr this]; decide)]
    · rw [if_neg z, if_pos (btN_0 (fun y => z (A b y).2))]
  | d + 1, q + 1, T, s, hT, hq, hs, A, B => by
    unfold L_X7_isCut_45
    have e55 := l_c55 (N := N) (h := h) hN ha hb hs (fun (v3 : Int) (v4 : Int) (v5 : Int) (v6 : Int) (h7 : Hp) => bnd (w32 (v6 + 1)) fun y8 => (L_X7_isCut_45 N q) v3 v4 v5 y8 h7) (T : Int) N 0 (by omega) (by omega)
    have e55 : L_X7_isCut_55 N (fun (v3 : Int) (v4 : Int) (v5 : Int) (v6 : Int) (h7 : Hp) => bnd (w32 (v6 + 1)) fun y8 => (L_X7_isCut_45 N q) v3 v4 v5 y8 h7) N (a : Int) (b : Int) (s : Int) (T : Int) 0 h = bnd (w32 ((T : Int) + 1)) fun y8 => (L_X7_isCut_45 N q) (a : Int) (b : Int) (trn (rcl (h 8) a b) s 14 : Nat) y8 h := e55
    rw [if_neg (by omega), e55, bnd_s, inc (by omega)]
    refine l_c45 hN ha hb hr d q (T + 1) (trn (rcl (h 8) a b) s 14) (by omega) (by omega) (trn_lt hs 14) (fun x hx => ?_) (fun y hy h1 h2 => ?_)
    · exact trn_so (P := fun x => x < 14 ∧ rch (rcl (h 8) a b) a x) A (fun x y hx hy h1 h2 => ⟨hy, rch_st hr (by omega) hx hy h1.2 h2⟩) 14 (by omega) x hx
    · by_cases z : y = a
      · subst z
        have := B y hy h1 (by
          have : ∀ k, rk (FW (bsX (rcl (h 8) y b)) 14 y) (FW (bsX (rcl (h 8) y b)) 14 y y) k = 0 := by
            intro k
            induction k with
            | zero => rfl
            | succ k ih =>
              have n1 := FW_nn (bsX_nn (r := rcl (h 8) y b)) 14 y k
              have f0 : FW (bsX (rcl (h 8) y b)) 14 y y = 0 := FWX_d
              simp only [rk]
              rw [ih, if_neg (by omega)]
          rw [this]
          omega)
        have := trn_up (r := rcl (h 8) y b) (s := s) (x := y) 0 14 this
        exact this
      · obtain ⟨x, x1, x2, x3, x4⟩ := rch_pr hr (by omega) hy h1 z
        have r1 := rk_lt (f := FW (bsX (rcl (h 8) a b)) 14 a) (w := FW (bsX (rcl (h 8) a b)) 14 a y) (a := x) x4 14 x1
        exact trn_nb x1 (B x x1 x2 (by omega)) hy x3
/-- is the pair a road that cuts -/
def ic (r : Nat → Int) (p : Nat) : Int := if p / 14 < p % 14 ∧ r p ≠ 0 ∧ ¬ rch (rcl r (p / 14) (p % 14)) (p / 14) (p % 14) then 1 else 0
theorem ic_01 (r : Nat → Int) (p : Nat) : ic r p = 0 ∨ ic r p = 1 := by unfold ic; split <;> simp
theorem s_isCut (hN : 1000000 ≤ N) (hr : RdOK (h 8) t) {p : Nat} (hp : p < 196) : F_X7_isCut N (p : Int) h = some (ic (h 8) p, h) := by
  obtain ⟨a, ea⟩ : ∃ a, a = p / 14 := ⟨_, rfl⟩
  obtain ⟨b, eb⟩ : ∃ b, b = p % 14 := ⟨_, rfl⟩
  have e1 : idiv (p : Int) 14 = (a : Int) := by rw [idiv_pos ⟨by omega, by omega⟩ ⟨by omega, by omega⟩, ea]; rfl
  have e2 : irem (p : Int) 14 = (b : Int) := by rw [irem_pos ⟨by omega, by omega⟩ ⟨by omega, by omega⟩, eb]; rfl
  unfold F_X7_isCut ic
  rw [e1, e2, bnd_s, bnd_s, ← ea, ← eb]
  by_cases z : a < b
  · rw [if_neg (by omega), s_isWithin, bd_s, if_pos (show 0 ≤ (p : Int) ∧ (p : Int) ≤ 195 by omega), if_neg (by decide), grd_t ⟨by omega, by omega⟩, Int.toNat_natCast]
    by_cases y : h 8 p = 0
    · rw [if_pos y, if_neg (fun w => w.2.1 y)]
    · have hb : b < 14 := by omega
      have rc := rcl_ok (a := a) (b := b) hr (by omega) hb
      have p14 : 2 ^ a < 2 ^ 14 := pow_lt2 (by omega)
      have f0 : FW (bsX (rcl (h 8) a b)) 14 a a = 0 := FWX_d
      have := l_c45 (N := N) (h := h) hN z hb rc 14 N 0 (2 ^ a) (by omega) (by omega) p14 (fun x hx => by
        rw [Nat.testBit_two_pow, decide_eq_true_iff] at hx
        subst hx
        refine ⟨by omega, ?_⟩
        show FW (bsX (rcl (h 8) a b)) 14 a a < 1000000
        omega) (fun y hy h1 h2 => by
        rw [Nat.testBit_two_pow, decide_eq_true_iff]
        refine Decidable.byContradiction fun w => ?_
        obtain ⟨x, x1, x2, x3, x4⟩ := rch_pr rc (by omega) hy h1 (Ne.symm w)
        have r1 := rk_lt (f := FW (bsX (rcl (h 8) a b)) 14 a) (w := FW (bsX (rcl (h 8) a b)) 14 a y) (a := x) x4 14 x1
        omega)
      rw [if_neg y, ishl_1 (by omega), bnd_s]
      refine Eq.trans this ?_
      by_cases w : rch (rcl (h 8) a b) a b
      · rw [if_pos w, if_neg (fun v => v.2.2 w)]
      · rw [if_neg w, if_pos ⟨z, y, w⟩]
  · rw [if_pos (by omega), if_neg (fun w => z w.1)]
/-- the first that cuts -/
def fcu (f : Nat → Int) : Nat → Int
  | 0 => -1
  | k + 1 => if fcu f k = -1 ∧ f k = 1 then (k : Int) else fcu f k
theorem fcu_b (f : Nat → Int) : ∀ k, (fcu f k = -1 ∨ (0 ≤ fcu f k ∧ fcu f k < k))
  | 0 => Or.inl rfl
  | k + 1 => by
    have := fcu_b f k
    unfold fcu
    split <;> omega
theorem fcu_s {f : Nat → Int} (h01 : ∀ p, f p = 0 ∨ f p = 1) : ∀ k, (fcu f k = -1 ↔ sm f k = 0) ∧ 0 ≤ sm f k
  | 0 => by simp [fcu, sm]
  | k + 1 => by
    have ih := fcu_s h01 k
    have b := fcu_b f k
    have hk := h01 k
    unfold fcu
    simp only [sm]
    by_cases z : fcu f k = -1 ∧ f k = 1
    · rw [if_pos z]; omega
    · rw [if_neg z]; omega
theorem fcu_up {f : Nat → Int} {k : Nat} (h : fcu f k ≠ -1) : ∀ d, fcu f (k + d) = fcu f k
  | 0 => rfl
  | d + 1 => by
    have := fcu_up h d
    show (if fcu f (k + d) = -1 ∧ f (k + d) = 1 then ((k + d : Nat) : Int) else fcu f (k + d)) = _
    rw [this, if_neg (fun z => h z.1)]
theorem l_cc (hN : 1000000 ≤ N) (hr : RdOK (h 8) t) : ∀ q k : Nat, k ≤ 196 → 196 - k < q → L_X7_countCuts_4 N q (sm (ic (h 8)) k) (k : Int) h = some (sm (ic (h 8)) 196, h)
  | 0, k, _, hq => absurd hq (by omega)
  | q + 1, k, hk, hq => by
    unfold L_X7_countCuts_4
    by_cases c : k = 196
    · subst c; rw [if_pos (by omega)]
    · have ih := l_cc hN hr q (k + 1) (by omega) (by omega)
      have b := sm_b2 (f := ic (h 8)) (B := 1) (fun p => by rcases ic_01 (h 8) p with z | z <;> omega) k
      unfold J_X7_countCuts_25
      simp only [bnd_s]
      rw [if_neg (by omega), s_isCut hN hr (by omega), bd_s, inc (by omega)]
      have e1 : sm (ic (h 8)) (k + 1) = sm (ic (h 8)) k + ic (h 8) k := rfl
      rw [e1] at ih
      rcases ic_01 (h 8) k with z | z
      · rw [z] at ih
        rw [if_pos z, w32_id ⟨by omega, by omega⟩]
        exact ih
      · rw [z] at ih
        rw [if_neg (by omega), w32_id ⟨by omega, by omega⟩]
        exact ih
theorem l_fc (hN : 1000000 ≤ N) (hr : RdOK (h 8) t) : ∀ q k : Nat, k ≤ 196 → 196 - k < q → fcu (ic (h 8)) k = -1 → L_X7_firstCut_2 N q (k : Int) h = some (if fcu (ic (h 8)) 196 = -1 then -2 else fcu (ic (h 8)) 196, h)
  | 0, k, _, hq, _ => absurd hq (by omega)
  | q + 1, k, hk, hq, A => by
    unfold L_X7_firstCut_2
    by_cases c : k = 196
    · subst c; rw [if_pos (by omega), if_pos A]
    · rw [if_neg (by omega), s_isCut hN hr (by omega), bd_s]
      rcases ic_01 (h 8) k with z | z
      · rw [if_pos z, bnd_s, inc (by omega)]
        exact l_fc hN hr q (k + 1) (by omega) (by omega) (by unfold fcu; rw [if_neg (by omega)]; exact A)
      · have e1 : fcu (ic (h 8)) (k + 1) = (k : Int) := by unfold fcu; rw [if_pos ⟨A, z⟩]
        have e2 := fcu_up (f := ic (h 8)) (k := k + 1) (by rw [e1]; omega) (196 - (k + 1))
        rw [show k + 1 + (196 - (k + 1)) = 196 by omega, e1] at e2
        rw [if_neg (by omega), e2, if_neg (by omega)]
theorem fcu_cg {f : Nat → Int} {k : Nat} (h : f k = 0) : fcu f (k + 1) = fcu f k ∧ sm f (k + 1) = sm f k := by
  refine ⟨?_, by simp only [sm]; omega⟩
  show (if fcu f k = -1 ∧ f k = 1 then (k : Int) else fcu f k) = fcu f k
  rw [if_neg (by omega)]
theorem fcu_z {f : Nat → Int} {k : Nat} : ∀ d, (∀ i, i < d → f (k + i) = 0) → fcu f (k + d) = fcu f k ∧ sm f (k + d) = sm f k
  | 0, _ => ⟨rfl, rfl⟩
  | d + 1, h => by
    have ih := fcu_z d (fun i hi => h i (by omega))
    have := fcu_cg (h d (by omega))
    exact ⟨this.1.trans ih.1, this.2.trans ih.2⟩
theorem l_m31 (hN : 1000000 ≤ N) (ht : t < 16384) (e12 : g 83 12 = (t : Int)) {r : Nat → Int} (hr : RdOK r t) (h90 : ∀ p, p < 196 → g 90 p = r p) (K : Int → Int → Int → Int → Hp → Option (Int × Hp)) (w : Int) {i : Nat} (hi : i < 14) : ∀ (d q j : Nat) (h : Hp), j + d = 14 → d < q → i < j → ex91 g h → ∃ h', ex91 g h' ∧ L_X12_cut_31 N K q w (sm (ic r) (14 * i + j)) (fcu (ic r) (14 * i + j)) (i : Int) (j : Int) h = K w (sm (ic r) (14 * (i + 1))) (fcu (ic r) (14 * (i + 1))) (i : Int) h'
  | _, 0, _, _, _, hq, _, _ => absurd hq (by omega)
  | 0, q + 1, j, h, hj, _, _, F => by
    obtain rfl : j = 14 := by omega
    unfold L_X12_cut_31
    rw [if_pos (by omega), show 14 * i + 14 = 14 * (i + 1) by omega]
    exact ⟨h, F, rfl⟩
  | d + 1, q + 1, j, h, hj, hq, hij, F => by
    have hj14 : j < 14 := by omega
    have b := sm_b2 (f := ic r) (B := 1) (fun p => by rcases ic_01 r p with z | z <;> omega) (14 * i + j)
    have fb := fcu_s (f := ic r) (ic_01 r) (14 * i + j)
    have e90 : h 90 (14 * i + j) = r (14 * i + j) := by rw [F 90 _ (by omega)]; exact h90 _ (by omega)
    have d1 : (14 * i + j) / 14 = i := by omega
    have d2 : (14 * i + j) % 14 = j := by omega
    unfold L_X12_cut_31 J_X12_cut_97 J_X12_cut_102
    simp only [bnd_s]
    rw [if_neg (by omega), w14m hi hj14, grd_t ⟨by omega, by omega⟩, Int.toNat_natCast, e90, inc (by omega)]
    by_cases z : r (14 * i + j) = 0
    · have i0 : ic r (14 * i + j) = 0 := by unfold ic; rw [if_neg (fun y => y.2.1 z)]
      have := fcu_cg i0
      rw [if_pos z, ← this.1, ← this.2]
      exact l_m31 hN ht e12 hr h90 K w hi d q (j + 1) h (by omega) (by omega) (by omega) F
    · obtain ⟨h1, a1, a2, a3⟩ := s_lays (N := N) (g := h) (t := t) (a := (i : Int)) (b := (j : Int)) hN ht (by rw [F 83 12 (by omega)]; exact e12) (fun i j hi hj => by rw [F 90 _ (by omega), h90 _ (by omega)]; exact hr.1 _ (by omega))
      have F1 : ex91 g h1 := fun c k y => by rw [a1 c k y]; exact F c k y
      have tt := hr.2.2 i j hi hj14 (by have := hr.1 (14 * i + j) (by omega); omega)
      have e91 : h1 91 (14 * i + j) = FW (bsX (rcl r i j)) 14 i j := by
        rw [a2 i j hi hj14]
        have e1 : FW (bsC (h 90) t (i : Int) (j : Int)) 14 i j = FW (bsM (rcl r i j) t) 14 i j := FW_cg (fun x y hx hy => by
          have e2 : bsC (h 90) t (i : Int) (j : Int) x y = bsC r t (i : Int) (j : Int) x y := by
            unfold bsC
            rw [F 90 _ (by omega), h90 _ (by omega)]
          rw [e2, bsC_rcl hi hj14 hx hy]) 14 (by omega) i j hi hj14
        rw [e1]
        exact (FW_XM (rcl_ok hr hi hj14) 14 (by omega) i j hi hj14).1 tt.1 tt.2.1
      rw [if_neg z, a3, bv_s, s_far hi hj14, bd_s, e91]
      by_cases y : rch (rcl r i j) i j
      · have i0 : ic r (14 * i + j) = 0 := by unfold ic; rw [d1, d2, if_neg (fun x => x.2.2 y)]
        have := fcu_cg i0
        have y' : FW (bsX (rcl r i j)) 14 i j < 1000000 := y
        rw [if_neg (by omega), ← this.1, ← this.2]
        exact l_m31 hN ht e12 hr h90 K w hi d q (j + 1) h1 (by omega) (by omega) (by omega) F1
      · have i0 : ic r (14 * i + j) = 1 := by unfold ic; rw [d1, d2, if_pos ⟨hij, z, y⟩]
        have y' : ¬ FW (bsX (rcl r i j)) 14 i j < 1000000 := y
        have es : w32 (sm (ic r) (14 * i + j) + 1) = sm (ic r) (14 * i + (j + 1)) := by
          rw [w32_id ⟨by omega, by omega⟩, ← i0]; rfl
        rw [if_pos (by omega), es]
        clear es
        have rc1 := l_m31 hN ht e12 hr h90 K w hi d q (j + 1) h1 (by omega) (by omega) (by omega) F1
        by_cases x : sm (ic r) (14 * i + j) = 0
        · have ef : ((14 * i + j : Nat) : Int) = fcu (ic r) (14 * i + (j + 1)) := by
            show _ = (if fcu (ic r) (14 * i + j) = -1 ∧ ic r (14 * i + j) = 1 then ((14 * i + j : Nat) : Int) else fcu (ic r) (14 * i + j))
            rw [if_pos ⟨fb.1.mpr x, i0⟩]
          rw [if_pos x, ef]
          exact rc1
        · have ef : fcu (ic r) (14 * i + j) = fcu (ic r) (14 * i + (j + 1)) := by
            show _ = (if fcu (ic r) (14 * i + j) = -1 ∧ ic r (14 * i + j) = 1 then ((14 * i + j : Nat) : Int) else fcu (ic r) (14 * i + j))
            rw [if_neg (fun v => x (fb.1.mp v.1))]
          rw [if_neg x, ef]
          exact rc1
theorem l_m18 (hN : 1000000 ≤ N) (ht : t < 16384) (e12 : g 83 12 = (t : Int)) {r : Nat → Int} (hr : RdOK r t) (h90 : ∀ p, p < 196 → g 90 p = r p) (w : Int) : ∀ (d q i : Nat) (h : Hp), i + d = 14 → d < q → ex91 g h → ∃ h', ex91 g h' ∧ (∀ i j, i < 14 → j < 14 → h' 91 (14 * i + j) = FW (bsM r t) 14 i j) ∧ L_X12_cut_18 N q w (sm (ic r) (14 * i)) (fcu (ic r) (14 * i)) (i : Int) h = some (if w = 0 then sm (ic r) 196 else if fcu (ic r) 196 = -1 then -2 else if w = 1 then idiv (fcu (ic r) 196) 14 else irem (fcu (ic r) 196) 14, h')
  | _, 0, _, _, _, hq, _ => absurd hq (by omega)
  | 0, q + 1, i, h, hi, _, F => by
    obtain rfl : i = 14 := by omega
    obtain ⟨h1, a1, a2, a3⟩ := s_lays (N := N) (g := h) (t := t) (a := -1) (b := -1) hN ht (by rw [F 83 12 (by omega)]; exact e12) (fun i j hi hj => by rw [F 90 _ (by omega), h90 _ (by omega)]; exact hr.1 _ (by omega))
    refine ⟨h1, fun c k y => by rw [a1 c k y]; exact F c k y, fun i j hi hj => ?_, ?_⟩
    · rw [a2 i j hi hj, bsC_M]
      exact FW_cg (fun x y hx hy => by unfold bsM; rw [F 90 _ (by omega), h90 _ (by omega)]) 14 (by omega) i j hi hj
    · unfold L_X12_cut_18
      rw [if_pos (by omega), a3, bv_s]
      by_cases z : w = 0
      · rw [if_pos z, if_pos z]
      · rw [if_neg z, if_neg z]
        by_cases y : fcu (ic r) (14 * 14) = -1
        · rw [if_pos y, if_pos y]
        · rw [if_neg y, if_neg y]
          by_cases x : w = 1
          · rw [if_pos x, if_pos x]
          · rw [if_neg x, if_neg x]
  | d + 1, q + 1, i, h, hi, hq, F => by
    have zz : fcu (ic r) (14 * i + (i + 1)) = fcu (ic r) (14 * i) ∧ sm (ic r) (14 * i + (i + 1)) = sm (ic r) (14 * i) := fcu_z (i + 1) (fun k hk => by
      unfold ic
      rw [if_neg (fun y => by have := y.1; omega)])
    obtain ⟨h1, b1, b2⟩ := l_m31 (N := N) hN ht e12 hr h90 (fun (v3 : Int) (v4 : Int) (v5 : Int) (v6 : Int) (h7 : Hp) => bnd (w32 (v6 + 1)) fun y8 => (L_X12_cut_18 N q) v3 v4 v5 y8 h7) w (show i < 14 by omega) (13 - i) N (i + 1) h (by omega) (by omega) (by omega) F
    rw [zz.1, zz.2] at b2
    obtain ⟨h', c1, c2, c3⟩ := l_m18 hN ht e12 hr h90 w d q (i + 1) h1 (by omega) (by omega) b1
    refine ⟨h', c1, c2, ?_⟩
    unfold L_X12_cut_18
    rw [if_neg (by omega), inc (by omega), bnd_s]
    refine Eq.trans b2 ?_
    rw [bnd_s, inc (by omega)]
    exact c3
end CU
theorem op_cut {N : Nat} (hN : 1000000 ≤ N) : ∀ a1 : Int, inR a1 → Sm (Inv N) (F_X11_cut N a1) (F_X12_cut N a1) := by
  intro w _ h hok hI
  obtain ⟨t, i1, i2, i3, i4, i5, i6, i7, i8, i9, i10⟩ := id hI
  have ht := i1.1
  obtain ⟨r1, r2, r3, r4, r5⟩ := id i8
  unfold F_X11_cut F_X12_cut
  rw [s_isWithin, bd_s]
  by_cases c1 : 0 ≤ w ∧ w ≤ 2
  rotate_left
  · exact ⟨-1, h, h, by rw [if_neg c1, if_pos rfl], by rw [s_in, bd_s, if_neg c1, if_pos rfl], hI⟩
  rw [if_pos c1, if_neg (by decide)]
  obtain ⟨h', a1, a2, a3⟩ := l_m18 (N := N) (g := h) hN ht i1.2.2 r2 r1 w 14 N 0 h (by omega) (by omega) (fun _ _ _ => rfl)
  have a3 : L_X12_cut_18 N N w 0 (-1) 0 h = some (if w = 0 then sm (ic (h 8)) 196 else if fcu (ic (h 8)) 196 = -1 then -2 else if w = 1 then idiv (fcu (ic (h 8)) 196) 14 else irem (fcu (ic (h 8)) 196) 14, h') := a3
  have ec : F_X7_countCuts N h = some (sm (ic (h 8)) 196, h) := l_cc (N := N) hN r2 N 0 (by omega) (by omega)
  have ef : F_X7_firstCut N h = some (if fcu (ic (h 8)) 196 = -1 then -2 else fcu (ic (h 8)) 196, h) := l_fc (N := N) hN r2 N 0 (by omega) (by omega) rfl
  refine ⟨_, h, h', ?_, by rw [s_in, bd_s, if_pos c1, if_neg (by decide)]; exact a3, ?_⟩
  · rw [ec, bd_s, ef, bd_s]
    have fb := fcu_b (ic (h 8)) 196
    by_cases z : w = 0
    · rw [if_pos z, if_pos z]
    · rw [if_neg z, if_neg z]
      by_cases y : fcu (ic (h 8)) 196 = -1
      · rw [if_pos y, if_neg (by decide), if_pos y]
      · rw [if_neg y, if_pos (by omega), if_neg y]
        by_cases x : w = 1
        · rw [if_pos x, if_pos x]
        · rw [if_neg x, if_neg x]
  · refine hI.ir (fun c j _ z => a1 c j (by omega)) (fun t' j1 j8 => ?_)
    have et : t' = t := by
      have := j1.2.1
      have := i1.2.1
      omega
    subst et
    have e8 : h' 8 = h 8 := funext fun j => a1 8 j (by omega)
    have e10 : h' 10 = h 10 := funext fun j => a1 10 j (by omega)
    have e90 : h' 90 = h 90 := funext fun j => a1 90 j (by omega)
    unfold IR
    rw [e8, e10, e90, a1 7 3 (by omega)]
    exact ⟨j8.1, j8.2.1, j8.2.2.1, j8.2.2.2.1, a2⟩
