/-! WHAT THE REFERENCE LAYS OF THE WAYS -/
def bsC (r : Nat → Int) (t : Nat) (a b : Int) (i j : Nat) : Int := if i = j ∧ t.testBit i = true then 0 else if t.testBit i = true ∧ t.testBit j = true ∧ 0 < r (14 * i + j) ∧ ¬ (((i : Int) = a ∧ (j : Int) = b) ∨ ((i : Int) = b ∧ (j : Int) = a)) then r (14 * i + j) else 1000000
def ex91 (g h : Hp) : Prop := ∀ c j, ¬ c = 91 → h c j = g c j
theorem s_min {N : Nat} {a b : Int} {h : Hp} : F_X12_min N a b h = some (imin a b, h) := by
  unfold F_X12_min imin
  by_cases q : b ≤ a
  · rw [if_pos q]
    by_cases q2 : b < a
    · rw [if_pos q2]
    · rw [if_neg q2]; congr 2; omega
  · rw [if_neg q, if_neg (by omega)]
theorem w14m {i j : Nat} (hi : i < 14) (hj : j < 14) : w32 (w32 (14 * (i : Int)) + (j : Int)) = ((14 * i + j : Nat) : Int) := by
  rw [w32_id (x := 14 * (i : Int)) ⟨by omega, by omega⟩, w32_id ⟨by omega, by omega⟩]
  omega
section LW
variable {bs : Nat → Nat → Int} {g : Hp} {N : Nat}
def WSt (bs : Nat → Nat → Int) (m i j i' j' : Nat) : Int := if i' < i ∨ (i' = i ∧ j' < j) then FW bs (m + 1) i' j' else FW bs m i' j'
def WT (bs : Nat → Nat → Int) (g : Hp) (m i j : Nat) (h : Hp) : Prop := ex91 g h ∧ ∀ i' j', i' < 14 → j' < 14 → h 91 (14 * i' + j') = WSt bs m i j i' j'
theorem lw3 (h0 : ∀ i j, 0 ≤ bs i j) (hM : ∀ i j, i < 14 → j < 14 → bs i j ≤ 1000000) {m i : Nat} (hm : m < 14) (hi : i < 14) (k : Int → Int → Hp → Option Hp) : ∀ n j h, j ≤ 14 → 14 - j < n → WT bs g m i j h → ∃ h', WT bs g m i 14 h' ∧ L_X12_laysWays_176 N k n (m : Int) (i : Int) (j : Int) h = k (m : Int) (i : Int) h'
  | 0, j, h, _, hf, _ => absurd hf (by omega)
  | n + 1, j, h, hj, hf, H => by
    unfold L_X12_laysWays_176
    by_cases c : j = 14
    · subst c
      exact ⟨h, H, by rw [if_pos (by omega)]⟩
    · have hj' : j < 14 := by omega
      have e1 : h 91 (14 * i + j) = FW bs m i j := by rw [H.2 i j hi hj']; unfold WSt; rw [if_neg (by omega)]
      have e2 : h 91 (14 * i + m) = FW bs m i m := by
        rw [H.2 i m hi hm]; unfold WSt
        split
        · exact FW_col h0 m i
        · rfl
      have e3 : h 91 (14 * m + j) = FW bs m m j := by
        rw [H.2 m j hm hj']; unfold WSt
        split
        · exact FW_row h0 m j
        · rfl
      have b1 := FW_nn h0 m i j
      have b2 := FW_nn h0 m i m
      have b3 := FW_nn h0 m m j
      have c1 := Int.le_trans (FW_le (bs := bs) m i j) (hM i j hi hj')
      have c2 := Int.le_trans (FW_le (bs := bs) m i m) (hM i m hi hm)
      have c3 := Int.le_trans (FW_le (bs := bs) m m j) (hM m j hm hj')
      rw [if_neg (by omega), w14m hi hj', w14m hi hm, w14m hm hj', grd_t ⟨by omega, by omega⟩, grd_t ⟨by omega, by omega⟩, grd_t ⟨by omega, by omega⟩]
      simp only [Int.toNat_natCast]
      rw [e1, e2, e3, w32_id ⟨by omega, by omega⟩, s_min, bd_s, grd_t ⟨by omega, by omega⟩, bnd_s, bnd_s, inc (by omega), ← FW_s]
      refine lw3 h0 hM hm hi k n (j + 1) _ (by omega) (by omega) ⟨fun c p hc => ?_, fun i' j' hi' hj'' => ?_⟩
      · rw [hw_ne (by omega)]; exact H.1 c p hc
      · by_cases q : i' = i ∧ j' = j
        · obtain ⟨rfl, rfl⟩ := q
          rw [hw_eq]; unfold WSt; rw [if_pos (by omega)]
        · rw [hw_ne (by omega), H.2 i' j' hi' hj'']
          unfold WSt
          by_cases z : i' < i ∨ i' = i ∧ j' < j
          · rw [if_pos z, if_pos (by omega)]
          · rw [if_neg z, if_neg (by omega)]
theorem lw2 (hN : 1000000 ≤ N) (h0 : ∀ i j, 0 ≤ bs i j) (hM : ∀ i j, i < 14 → j < 14 → bs i j ≤ 1000000) {m : Nat} (hm : m < 14) (k : Int → Hp → Option Hp) : ∀ n i h, i ≤ 14 → 14 - i < n → WT bs g m i 0 h → ∃ h', WT bs g m 14 0 h' ∧ L_X12_laysWays_166 N k n (m : Int) (i : Int) h = k (m : Int) h'
  | 0, i, h, _, hf, _ => absurd hf (by omega)
  | n + 1, i, h, hi, hf, H => by
    unfold L_X12_laysWays_166
    by_cases c : i = 14
    · subst c
      exact ⟨h, H, by rw [if_pos (by omega)]⟩
    · obtain ⟨h1, H1, e1⟩ := lw3 (N := N) h0 hM hm (show i < 14 by omega) (fun (v1 : Int) (v2 : Int) (h3 : Hp) => bnd (w32 (v2 + 1)) fun y4 => (L_X12_laysWays_166 N k n) v1 y4 h3) N 0 h (by omega) (by omega) H
      obtain ⟨h2, H2, e2⟩ := lw2 hN h0 hM hm k n (i + 1) h1 (by omega) (by omega) ⟨H1.1, fun i' j' hi' hj' => by
        rw [H1.2 i' j' hi' hj']
        unfold WSt
        by_cases z : i' < i ∨ i' = i ∧ j' < 14
        · rw [if_pos z, if_pos (by omega)]
        · rw [if_neg z, if_neg (by omega)]⟩
      refine ⟨h2, H2, ?_⟩
      rw [if_neg (by omega)]
      refine Eq.trans e1 ?_
      rw [bnd_s, inc (by omega)]
      exact e2
theorem lw1 (hN : 1000000 ≤ N) (h0 : ∀ i j, 0 ≤ bs i j) (hM : ∀ i j, i < 14 → j < 14 → bs i j ≤ 1000000) : ∀ n m h, m ≤ 14 → 14 - m < n → WT bs g m 0 0 h → ∃ h', WT bs g 14 0 0 h' ∧ L_X12_laysWays_157 N n (m : Int) h = some h'
  | 0, i, h, _, hf, _ => absurd hf (by omega)
  | n + 1, m, h, hm, hf, H => by
    unfold L_X12_laysWays_157
    by_cases c : m = 14
    · subst c
      exact ⟨h, H, by rw [if_pos (by omega)]⟩
    · obtain ⟨h1, H1, e1⟩ := lw2 (N := N) hN h0 hM (show m < 14 by omega) (fun (v1 : Int) (h2 : Hp) => bnd (w32 (v1 + 1)) fun y3 => (L_X12_laysWays_157 N n) y3 h2) N 0 h (by omega) (by omega) H
      obtain ⟨h2, H2, e2⟩ := lw1 hN h0 hM n (m + 1) h1 (by omega) (by omega) ⟨H1.1, fun i' j' hi' hj' => by
        rw [H1.2 i' j' hi' hj']
        unfold WSt
        rw [if_pos (by omega), if_neg (by omega)]⟩
      refine ⟨h2, H2, ?_⟩
      rw [if_neg (by omega)]
      refine Eq.trans e1 ?_
      rw [bnd_s, inc (by omega)]
      exact e2
/-- the first ways laid, up to a pair -/
def WF (bs : Nat → Nat → Int) (g : Hp) (i j : Nat) (h : Hp) : Prop := ex91 g h ∧ ∀ i' j', i' < 14 → j' < 14 → (i' < i ∨ (i' = i ∧ j' < j)) → h 91 (14 * i' + j') = bs i' j'
end LW
section LW2
variable {g : Hp} {N t : Nat} {a b : Int}
theorem lj142 {k : Int → Int → Int → Int → Hp → Option Hp} {h : Hp} {i j : Nat} {v : Int} (hi : i < 14) (hj : j < 14) : J_X12_laysWays_142 N k a b (i : Int) (j : Int) ((14 * i + j : Nat) : Int) v h = k a b (i : Int) ((j + 1 : Nat) : Int) (hw h 91 (14 * i + j) v) := by
  unfold J_X12_laysWays_142
  rw [grd_t ⟨by omega, by omega⟩, bnd_s, bnd_s, inc (by omega), Int.toNat_natCast]
theorem lj89 (ht : t < 16384) {k : Int → Int → Int → Int → Hp → Option Hp} {h : Hp} {i j : Nat} {s : Int} (hi : i < 14) (hj : j < 14) (e12 : h 83 12 = (t : Int)) : J_X12_laysWays_89 N k a b (i : Int) (j : Int) s h = k a b (i : Int) ((j + 1 : Nat) : Int) (hw h 91 (14 * i + j) (if i = j ∧ t.testBit i = true then 0 else if s = 0 then 1000000 else h 90 (14 * i + j))) := by
  have e120 : J_X12_laysWays_120 N k a b (i : Int) (j : Int) s ((14 * i + j : Nat) : Int) h = k a b (i : Int) ((j + 1 : Nat) : Int) (hw h 91 (14 * i + j) (if s = 0 then 1000000 else h 90 (14 * i + j))) := by
    unfold J_X12_laysWays_120
    by_cases q : s = 0
    · rw [if_pos q, if_pos q, lj142 hi hj]
    · rw [if_neg q, if_neg q, w14m hi hj, grd_t ⟨by omega, by omega⟩, lj142 hi hj, Int.toNat_natCast]
  unfold J_X12_laysWays_89
  rw [w14m hi hj]
  by_cases q : i = j
  · rw [if_pos (by omega), s_isStreet ht e12, bd_s]
    by_cases q2 : t.testBit i = true
    · rw [if_pos (⟨by omega, by omega, by rw [Int.toNat_natCast]; exact q2⟩ : isT t (i : Int)), if_neg (by decide), lj142 hi hj, if_pos ⟨q, q2⟩]
    · rw [if_neg (fun z : isT t (i : Int) => q2 (by have := z.2.2; rw [Int.toNat_natCast] at this; exact this)), if_pos rfl, e120, if_neg (show ¬ (i = j ∧ t.testBit i = true) from fun z => q2 z.2)]
  · rw [if_neg (by omega), e120, if_neg (show ¬ (i = j ∧ t.testBit i = true) from fun z => q z.1)]
theorem lj45 (ht : t < 16384) {k : Int → Int → Int → Int → Hp → Option Hp} {h : Hp} {i j : Nat} {s : Int} (hi : i < 14) (hj : j < 14) (e12 : h 83 12 = (t : Int)) : J_X12_laysWays_45 N k a b (i : Int) (j : Int) s h = k a b (i : Int) ((j + 1 : Nat) : Int) (hw h 91 (14 * i + j) (if i = j ∧ t.testBit i = true then 0 else if t.testBit i = true ∧ t.testBit j = true ∧ 0 < h 90 (14 * i + j) ∧ s = 0 then h 90 (14 * i + j) else 1000000)) := by
  unfold J_X12_laysWays_45
  simp only [s_isStreet ht e12, bd_s, lj89 ht hi hj e12]
  have it : ∀ q : Nat, q < 14 → (isT t (q : Int) ↔ t.testBit q = true) := fun q hq => ⟨fun z => by have := z.2.2; rw [Int.toNat_natCast] at this; exact this, fun z => ⟨by omega, by omega, by rw [Int.toNat_natCast]; exact z⟩⟩
  by_cases q1 : t.testBit i = true
  · rw [if_pos ((it i hi).mpr q1), if_neg (by decide)]
    by_cases q2 : t.testBit j = true
    · rw [if_pos ((it j hj).mpr q2), if_neg (by decide), w14m hi hj, grd_t ⟨by omega, by omega⟩, Int.toNat_natCast]
      by_cases q3 : h 90 (14 * i + j) ≤ 0
      · rw [if_pos q3, if_pos trivial, if_neg (show ¬ (t.testBit i = true ∧ t.testBit j = true ∧ 0 < h 90 (14 * i + j) ∧ s = 0) from fun z => absurd z.2.2.1 (by omega))]
      · rw [if_neg q3]
        by_cases q4 : s = 0
        · rw [if_pos q4, if_neg (show ¬ (1 : Int) = 0 by decide), if_pos (show (t.testBit i = true ∧ t.testBit j = true ∧ 0 < h 90 (14 * i + j) ∧ s = 0) from ⟨q1, q2, by omega, q4⟩)]
        · rw [if_neg q4, if_pos trivial, if_neg (show ¬ (t.testBit i = true ∧ t.testBit j = true ∧ 0 < h 90 (14 * i + j) ∧ s = 0) from fun z => q4 z.2.2.2)]
    · rw [if_neg (fun z => q2 ((it j hj).mp z)), if_pos rfl, if_pos trivial, if_neg (fun z : (t.testBit i = true ∧ t.testBit j = true ∧ 0 < h 90 (14 * i + j) ∧ s = 0) => q2 z.2.1)]
  · rw [if_neg (fun z => q1 ((it i hi).mp z)), if_pos rfl, if_pos trivial, if_neg (fun z : (t.testBit i = true ∧ t.testBit j = true ∧ 0 < h 90 (14 * i + j) ∧ s = 0) => q1 z.1)]
theorem lf2 (ht : t < 16384) (e12 : g 83 12 = (t : Int)) {i : Nat} (hi : i < 14) (k : Int → Int → Int → Hp → Option Hp) : ∀ n j h, j ≤ 14 → 14 - j < n → WF (bsC (g 90) t a b) g i j h → ∃ h', WF (bsC (g 90) t a b) g i 14 h' ∧ L_X12_laysWays_11 N k n a b (i : Int) (j : Int) h = k a b (i : Int) h'
  | 0, i, h, _, hf, _ => absurd hf (by omega)
  | n + 1, j, h, hj, hf, H => by
    unfold L_X12_laysWays_11
    by_cases c : j = 14
    · subst c
      exact ⟨h, H, by rw [if_pos (by omega)]⟩
    · have hj' : j < 14 := by omega
      have eh : h 83 12 = (t : Int) := by rw [H.1 83 12 (by omega)]; exact e12
      have e90 : h 90 = g 90 := funext fun q => H.1 90 q (by omega)
      obtain ⟨h1, H1, e1⟩ := lf2 ht e12 hi k n (j + 1) (hw h 91 (14 * i + j) (bsC (g 90) t a b i j)) (by omega) (by omega) ⟨fun c p hc => by rw [hw_ne (by omega)]; exact H.1 c p hc, fun i' j' hi' hj'' z => by
        by_cases q : i' = i ∧ j' = j
        · obtain ⟨rfl, rfl⟩ := q
          rw [hw_eq]
        · rw [hw_ne (by omega)]
          exact H.2 i' j' hi' hj'' (by omega)⟩
      refine ⟨h1, H1, ?_⟩
      rw [if_neg (by omega), ← e1]
      unfold J_X12_laysWays_29
      simp only [lj45 ht hi hj' eh, e90]
      unfold bsC
      rcases Classical.propComplete ((i : Int) = a) with p1 | p1 <;> rcases Classical.propComplete ((j : Int) = b) with p2 | p2 <;> rcases Classical.propComplete ((i : Int) = b) with p3 | p3 <;> rcases Classical.propComplete ((j : Int) = a) with p4 | p4 <;> simp only [p1, p2, p3, p4, if_true, if_false, true_and, and_true, false_and, and_false, or_true, true_or, or_false, false_or, not_true, not_false_eq_true, show ¬ (1 : Int) = 0 by decide]
theorem lf1 (hN : 1000000 ≤ N) (ht : t < 16384) (e12 : g 83 12 = (t : Int)) (hM : ∀ i j, i < 14 → j < 14 → 0 ≤ g 90 (14 * i + j) ∧ g 90 (14 * i + j) ≤ 99) : ∀ n i h, i ≤ 14 → 14 - i < n → WF (bsC (g 90) t a b) g i 0 h → ∃ h', WT (bsC (g 90) t a b) g 14 0 0 h' ∧ L_X12_laysWays_2 N n a b (i : Int) h = some h'
  | 0, i, h, _, hf, _ => absurd hf (by omega)
  | n + 1, i, h, hi, hf, H => by
    unfold L_X12_laysWays_2
    by_cases c : i = 14
    · subst c
      rw [if_pos (by omega)]
      refine lw1 hN (fun i j => by unfold bsC; split <;> (try split) <;> omega) (fun i j hi hj => by have := hM i j hi hj; unfold bsC; split <;> (try split) <;> omega) N 0 h (by omega) (by omega) ⟨H.1, fun i' j' hi' hj' => ?_⟩
      rw [H.2 i' j' hi' hj' (by omega)]
      unfold WSt
      rw [if_neg (by omega)]
      rfl
    · obtain ⟨h1, H1, e1⟩ := lf2 (N := N) ht e12 (show i < 14 by omega) (fun (v1 : Int) (v2 : Int) (v3 : Int) (h4 : Hp) => bnd (w32 (v3 + 1)) fun y5 => (L_X12_laysWays_2 N n) v1 v2 y5 h4) N 0 h (by omega) (by omega) H
      obtain ⟨h2, H2, e2⟩ := lf1 hN ht e12 hM n (i + 1) h1 (by omega) (by omega) ⟨H1.1, fun i' j' hi' hj' z => H1.2 i' j' hi' hj' (by omega)⟩
      refine ⟨h2, H2, ?_⟩
      rw [if_neg (by omega)]
      refine Eq.trans e1 ?_
      rw [bnd_s, inc (by omega)]
      exact e2
theorem s_lays (hN : 1000000 ≤ N) (ht : t < 16384) (e12 : g 83 12 = (t : Int)) (hM : ∀ i j, i < 14 → j < 14 → 0 ≤ g 90 (14 * i + j) ∧ g 90 (14 * i + j) ≤ 99) : ∃ h', ex91 g h' ∧ (∀ i j, i < 14 → j < 14 → h' 91 (14 * i + j) = FW (bsC (g 90) t a b) 14 i j) ∧ F_X12_laysWays N a b g = some h' := by
  obtain ⟨h', H, e⟩ := lf1 (N := N) (a := a) (b := b) hN ht e12 hM N 0 g (by omega) (by omega) ⟨fun _ _ _ => rfl, fun i' j' _ _ z => by omega⟩
  refine ⟨h', H.1, fun i j hi hj => ?_, e⟩
  rw [H.2 i j hi hj]
  unfold WSt
  rw [if_neg (by omega)]
theorem bsC_M {r : Nat → Int} : bsC r t (-1) (-1) = bsM r t := by
  funext i j
  unfold bsC bsM
  have : ¬ (((i : Int) = -1 ∧ (j : Int) = -1) ∨ ((i : Int) = -1 ∧ (j : Int) = -1)) := by omega
  simp only [this, not_false_eq_true, and_true]
end LW2
