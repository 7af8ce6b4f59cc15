/-! PITAT -/
def fmx (f : Nat → Int) : Nat → Int
  | 0 => 0
  | k + 1 => imax (fmx f k) (f k)
theorem imax_d (a b : Int) : imax a b = if a < b then b else a := by rfl
section PIT
variable {N t : Nat} {h g : Hp}
theorem l_rch {i : Nat} (hi : i < 14) : ∀ n j : Nat, j ≤ 14 → 14 - j < n → L_X7_reachedFrom_4 N n (i : Int) (sm (fun j => if h 10 (14 * i + j) ≤ 0 then 0 else 1) j) (j : Int) h = some (sm (fun j => if h 10 (14 * i + j) ≤ 0 then 0 else 1) 14, h)
  | 0, j, _, hf => absurd hf (by omega)
  | n + 1, j, hj, hf => by
    unfold L_X7_reachedFrom_4
    by_cases c : j = 14
    · subst c; rw [if_pos (by omega)]
    · have ih := l_rch hi n (j + 1) (by omega) (by omega)
      have hs := sm_b (f := fun j => if h 10 (14 * i + j) ≤ 0 then 0 else 1) (M := 14) (fun k _ => by show 0 ≤ (if _ then (0 : Int) else 1) ∧ _; split <;> simp) j hj
      simp only [sm] at ih
      rw [if_neg (by omega), s_btw hi (by omega), bd_s]
      unfold J_X7_reachedFrom_25
      by_cases q : h 10 (14 * i + j) ≤ 0
      · rw [if_pos q, bnd_s, bnd_s, inc (by omega), w32_id ⟨by omega, by omega⟩]
        rw [if_pos q] at ih; exact ih
      · rw [if_neg q, bnd_s, bnd_s, inc (by omega), w32_id ⟨by omega, by omega⟩]
        rw [if_neg q] at ih; exact ih
theorem l_fth {i : Nat} (hi : i < 14) : ∀ n j : Nat, j ≤ 14 → 14 - j < n → L_X7_farthestFrom_4 N n (i : Int) (fmx (fun j => h 10 (14 * i + j)) j) (j : Int) h = some (fmx (fun j => h 10 (14 * i + j)) 14, h)
  | 0, j, _, hf => absurd hf (by omega)
  | n + 1, j, hj, hf => by
    unfold L_X7_farthestFrom_4
    by_cases c : j = 14
    · subst c; rw [if_pos (by omega)]
    · rw [if_neg (by omega), s_btw hi (by omega), bd_s, bnd_s, bnd_s, inc (by omega)]
      exact l_fth hi n (j + 1) (by omega) (by omega)
theorem l_smf {i : Nat} (hi : i < 14) (hb : ∀ j, j < 14 → h 10 (14 * i + j) ≤ 1386) : ∀ n j : Nat, j ≤ 14 → 14 - j < n → L_X7_sumFrom_4 N n (i : Int) (sm (fun j => imax 0 (h 10 (14 * i + j))) j) (j : Int) h = some (sm (fun j => imax 0 (h 10 (14 * i + j))) 14, h)
  | 0, j, _, hf => absurd hf (by omega)
  | n + 1, j, hj, hf => by
    unfold L_X7_sumFrom_4
    by_cases c : j = 14
    · subst c; rw [if_pos (by omega)]
    · have hs := sm_b (f := fun j => imax 0 (h 10 (14 * i + j))) (M := 14) (fun k hk => by have := hb k hk; simp only [imax_d]; split <;> omega) j hj
      have h2 := hb j (by omega)
      have h3 : 0 ≤ imax 0 (h 10 (14 * i + j)) ∧ imax 0 (h 10 (14 * i + j)) ≤ 1386 := by rw [imax_d]; split <;> omega
      rw [if_neg (by omega), s_btw hi (by omega), bd_s, bnd_s, bnd_s, inc (by omega), w32_id ⟨by omega, by omega⟩]
      exact l_smf hi hb n (j + 1) (by omega) (by omega)
/-- one street's row, as the reference lays it -/
def rcM (g : Hp) (i : Nat) : Nat → Int := sm (fun j => if g 91 (14 * i + j) < 1000000 then 1 else 0)
def smM (g : Hp) (i : Nat) : Nat → Int := sm (fun j => if g 91 (14 * i + j) < 1000000 then g 91 (14 * i + j) else 0)
def fmM (g : Hp) (i : Nat) : Nat → Int := fmx (fun j => if g 91 (14 * i + j) < 1000000 then g 91 (14 * i + j) else 0)
def exR (g h : Hp) : Prop := ∀ c j, ¬ (120 ≤ c) → h c j = g c j
theorem fmx_nn {f : Nat → Int} : ∀ k, 0 ≤ fmx f k
  | 0 => Int.le_refl _
  | k + 1 => by have := fmx_nn (f := f) k; simp only [fmx, imax_d]; split <;> omega
theorem s_max {a b : Int} : F_X12_max N a b h = some (imax a b, h) := by
  unfold F_X12_max
  rw [imax_d]
  by_cases q : a ≤ b
  · rw [if_pos q]
    by_cases q2 : a < b
    · rw [if_pos q2]
    · rw [if_neg q2]; congr 2; omega
  · rw [if_neg q, if_neg (by omega)]
theorem l_lr1 {i : Nat} (hi : i < 14) (hb : ∀ j, j < 14 → (0 ≤ g 91 (14 * i + j) ∧ g 91 (14 * i + j) ≤ 1386) ∨ g 91 (14 * i + j) = 1000000) (b : Int) (hb0 : -1 ≤ b ∧ b ≤ 0) (k : Int → Hp → Option Hp) : ∀ n j h, j ≤ 14 → 14 - j < n → exR g h → h 120 i = b + rcM g i j → h 121 i = fmM g i j → h 122 i = smM g i j → ∃ h', exR g h' ∧ h' 120 i = b + rcM g i 14 ∧ h' 121 i = fmM g i 14 ∧ h' 122 i = smM g i 14 ∧ (∀ c p, ¬ p = i → h' c p = h c p) ∧ L_X12_laysReach_43 N k n (i : Int) (j : Int) h = k (i : Int) h'
  | 0, j, h, _, hf, _, _, _, _ => absurd hf (by omega)
  | n + 1, j, h, hj, hf, E, e0, e1, e2 => by
    unfold L_X12_laysReach_43
    by_cases c : j = 14
    · subst c
      exact ⟨h, E, e0, e1, e2, fun _ _ _ => rfl, by rw [if_pos (by omega)]⟩
    · have hj' : j < 14 := by omega
      have hs := sm_b (f := fun j => if g 91 (14 * i + j) < 1000000 then 1 else 0) (M := 14) (fun k _ => by show 0 ≤ (if _ then (1 : Int) else 0) ∧ _; split <;> simp) j hj
      have hs2 := sm_b (f := fun j => if g 91 (14 * i + j) < 1000000 then g 91 (14 * i + j) else 0) (M := 14) (fun k hk => by have := hb k hk; show 0 ≤ (if _ then _ else (0 : Int)) ∧ _; split <;> omega) j hj
      have e91 : h 91 (14 * i + j) = g 91 (14 * i + j) := E 91 _ (by omega)
      have hbj := hb j hj'
      have g14 : 0 ≤ (i : Int) ∧ (i : Int) < 14 := ⟨by omega, by omega⟩
      have hr0 : rcM g i (j + 1) = rcM g i j + (if g 91 (14 * i + j) < 1000000 then 1 else 0) := rfl
      have hr1 : fmM g i (j + 1) = imax (fmM g i j) (if g 91 (14 * i + j) < 1000000 then g 91 (14 * i + j) else 0) := rfl
      have hr2 : smM g i (j + 1) = smM g i j + (if g 91 (14 * i + j) < 1000000 then g 91 (14 * i + j) else 0) := rfl
      have hs' : 0 ≤ rcM g i j ∧ rcM g i j ≤ 100000 * j := hs
      have hs2' : 0 ≤ smM g i j ∧ smM g i j ≤ 100000 * j := hs2
      rw [if_neg (by omega), s_far hi hj', bd_s, e91]
      unfold J_X12_laysReach_117
      by_cases q : g 91 (14 * i + j) < 1000000
      · rw [if_pos q] at hr0 hr1 hr2
        rw [if_pos q, grd_t g14, grd_t g14, bnd_s, Int.toNat_natCast, grd_t g14, s_far hi hj', bd_s, s_max, bd_s, grd_t g14, bnd_s, grd_t g14, s_far hi hj', bd_s, grd_t g14, bnd_s, bnd_s, inc (by omega)]
        obtain ⟨h', F1, F2, F3, F4, F5, F6⟩ := l_lr1 hi hb b hb0 k n (j + 1) (hw (hw (hw h 120 i (b + rcM g i (j + 1))) 121 i (fmM g i (j + 1))) 122 i (smM g i (j + 1))) (by omega) (by omega) (fun c p hc => by rw [hw_ne (by omega), hw_ne (by omega), hw_ne (by omega)]; exact E c p hc) (by rw [hw_ne (by omega), hw_ne (by omega), hw_eq]) (by rw [hw_ne (by omega), hw_eq]) hw_eq
        refine ⟨h', F1, F2, F3, F4, fun c p hp => by rw [F5 c p hp, hw_ne (by omega), hw_ne (by omega), hw_ne (by omega)], ?_⟩
        rw [← F6]
        congr 1
        have w0 : w32 (h 120 i + 1) = b + rcM g i (j + 1) := by rw [e0, hr0, w32_id ⟨by omega, by omega⟩]; omega
        rw [w0]
        have v0 : hw h 120 i (b + rcM g i (j + 1)) 91 (14 * i + j) = g 91 (14 * i + j) := by rw [hw_ne (by omega)]; exact e91
        have v1 : hw h 120 i (b + rcM g i (j + 1)) 121 i = fmM g i j := by rw [hw_ne (by omega)]; exact e1
        rw [v0, v1, ← hr1]
        have v2 : hw (hw h 120 i (b + rcM g i (j + 1))) 121 i (fmM g i (j + 1)) 122 i = smM g i j := by rw [hw_ne (by omega), hw_ne (by omega)]; exact e2
        have v3 : hw (hw h 120 i (b + rcM g i (j + 1))) 121 i (fmM g i (j + 1)) 91 (14 * i + j) = g 91 (14 * i + j) := by rw [hw_ne (by omega), hw_ne (by omega)]; exact e91
        rw [v2, v3, w32_id ⟨by omega, by omega⟩, ← hr2]
      · rw [if_neg q] at hr0 hr1 hr2
        rw [if_neg q, bnd_s, inc (by omega)]
        exact l_lr1 hi hb b hb0 k n (j + 1) h (by omega) (by omega) E (by rw [hr0, e0]; omega) (by rw [hr1, e1, imax_d]; have := fmx_nn (f := fun j => if g 91 (14 * i + j) < 1000000 then g 91 (14 * i + j) else 0) j; have : 0 ≤ fmM g i j := this; split <;> omega) (by rw [hr2, e2]; omega)
def rowR (g : Hp) (t i : Nat) : Int := (if t.testBit i = true then 0 else -1) + rcM g i 14
def RowsTo (g : Hp) (t k : Nat) (h : Hp) : Prop := ∀ i, i < k → h 120 i = rowR g t i ∧ h 121 i = fmM g i 14 ∧ h 122 i = smM g i 14
theorem l_lr (hN : 1000000 ≤ N) (ht : t < 16384) (e12 : g 83 12 = (t : Int)) (hb : ∀ i j, i < 14 → j < 14 → (0 ≤ g 91 (14 * i + j) ∧ g 91 (14 * i + j) ≤ 1386) ∨ g 91 (14 * i + j) = 1000000) : ∀ n i h, i ≤ 14 → 14 - i < n → exR g h → RowsTo g t i h → ∃ h', exR g h' ∧ RowsTo g t 14 h' ∧ L_X12_laysReach_2 N n (i : Int) h = some h'
  | 0, j, h, _, hf, _, _ => absurd hf (by omega)
  | n + 1, i, h, hi, hf, E, R => by
    unfold L_X12_laysReach_2
    by_cases c : i = 14
    · subst c
      exact ⟨h, E, R, by rw [if_pos (by omega)]⟩
    · have hi' : i < 14 := by omega
      have g14 : 0 ≤ (i : Int) ∧ (i : Int) < 14 := ⟨by omega, by omega⟩
      have eh : h 83 12 = (t : Int) := by rw [E 83 12 (by omega)]; exact e12
      have key : ∀ b : Int, b = (if t.testBit i = true then 0 else -1) → ∃ h', exR g h' ∧ RowsTo g t 14 h' ∧ J_X12_laysReach_26 N (L_X12_laysReach_2 N n) (i : Int) (i : Int) b h = some h' := by
        intro b hbb
        unfold J_X12_laysReach_26
        rw [grd_t g14, bnd_s, grd_t g14, bnd_s, grd_t g14, bnd_s, Int.toNat_natCast]
        obtain ⟨h1, F1, F2, F3, F4, F5, F6⟩ := l_lr1 (N := N) (g := g) hi' (fun j hj => hb i j hi' hj) b (by rw [hbb]; split <;> omega) (fun (v4 : Int) (h5 : Hp) => bnd (w32 (v4 + 1)) fun y6 => (L_X12_laysReach_2 N n) y6 h5) N 0 (hw (hw (hw h 120 i b) 121 i 0) 122 i 0) (by omega) (by omega) (fun c p hc => by rw [hw_ne (by omega), hw_ne (by omega), hw_ne (by omega)]; exact E c p hc) (by rw [hw_ne (by omega), hw_ne (by omega), hw_eq]; show b = b + 0; omega) (by rw [hw_ne (by omega), hw_eq]; rfl) (by rw [hw_eq]; rfl)
        obtain ⟨h2, G1, G2, G3⟩ := l_lr hN ht e12 hb n (i + 1) h1 (by omega) (by omega) F1 (fun q hq => by
          by_cases z : q = i
          · subst z
            exact ⟨by rw [F2, hbb]; rfl, F3, F4⟩
          · have := R q (by omega)
            rw [F5 _ _ z, F5 _ _ z, F5 _ _ z, hw_ne (by omega), hw_ne (by omega), hw_ne (by omega), hw_ne (by omega), hw_ne (by omega), hw_ne (by omega), hw_ne (by omega), hw_ne (by omega), hw_ne (by omega)]
            exact this)
        refine ⟨h2, G1, G2, ?_⟩
        refine Eq.trans F6 ?_
        rw [bnd_s, inc (by omega)]
        exact G3
      rw [if_neg (by omega), s_isStreet ht eh, bd_s]
      by_cases q : t.testBit i = true
      · rw [if_pos ((isT_n hi').mpr q), if_neg (by decide)]
        exact key 0 (by rw [if_pos q])
      · rw [if_neg (fun z => q ((isT_n hi').mp z)), if_pos rfl]
        exact key (-1) (by rw [if_neg q])
/-- the best of the first, by reach and then by a row -/
def bB (a b : Nat → Int) : Nat → Nat
  | 0 => 0
  | k + 1 => if a (bB a b k) < a (k + 1) ∨ (a (k + 1) = a (bB a b k) ∧ b (k + 1) < b (bB a b k)) then k + 1 else bB a b k
theorem bB_le (a b : Nat → Int) : ∀ k, bB a b k ≤ k
  | 0 => Nat.le_refl _
  | k + 1 => by have := bB_le a b k; unfold bB; split <;> omega
theorem l_bb1 : ∀ n k : Nat, k ≤ 13 → 13 - k < n → L_X12_bestBy_4 N n ((bB (h 120) (h 121) k : Nat) : Int) ((k + 1 : Nat) : Int) h = some (((bB (h 120) (h 121) 13 : Nat) : Int), h)
  | 0, j, _, hf => absurd hf (by omega)
  | n + 1, k, hk, hf => by
    have hle := bB_le (h 120) (h 121) k
    unfold L_X12_bestBy_4
    by_cases c : k = 13
    · subst c; rw [if_pos (by omega)]
    · have ih := l_bb1 n (k + 1) (by omega) (by omega)
      have e1 : bB (h 120) (h 121) (k + 1) = if h 120 (bB (h 120) (h 121) k) < h 120 (k + 1) ∨ (h 120 (k + 1) = h 120 (bB (h 120) (h 121) k) ∧ h 121 (k + 1) < h 121 (bB (h 120) (h 121) k)) then k + 1 else bB (h 120) (h 121) k := rfl
      rw [if_neg (by omega), grd_t ⟨by omega, by omega⟩, grd_t ⟨by omega, by omega⟩]
      simp only [Int.toNat_natCast]
      unfold J_X12_bestBy_51
      rw [grd_t ⟨by omega, by omega⟩, grd_t ⟨by omega, by omega⟩, grd_t ⟨by omega, by omega⟩, grd_t ⟨by omega, by omega⟩]
      simp only [bnd_s, inc (show k + 1 < 100000000 by omega)]
      by_cases q1 : h 120 (bB (h 120) (h 121) k) < h 120 (k + 1)
      · rw [if_pos (Or.inl q1)] at e1
        rw [if_pos q1]
        rw [e1] at ih
        exact ih
      · rw [if_neg q1]
        by_cases q2 : h 120 (k + 1) = h 120 (bB (h 120) (h 121) k)
        · rw [if_pos q2]
          by_cases q3 : h 121 (bB (h 120) (h 121) k) ≤ h 121 (k + 1)
          · rw [if_neg (by omega)] at e1
            rw [if_pos q3, ← e1]; exact ih
          · rw [if_pos (Or.inr ⟨q2, by omega⟩)] at e1
            rw [if_neg q3]
            rw [e1] at ih
            exact ih
        · rw [if_neg (by omega)] at e1
          rw [if_neg q2, ← e1]; exact ih
theorem l_bb2 : ∀ n k : Nat, k ≤ 13 → 13 - k < n → L_X12_bestBy_v2_4 N n ((bB (h 120) (h 122) k : Nat) : Int) ((k + 1 : Nat) : Int) h = some (((bB (h 120) (h 122) 13 : Nat) : Int), h)
  | 0, j, _, hf => absurd hf (by omega)
  | n + 1, k, hk, hf => by
    have hle := bB_le (h 120) (h 122) k
    unfold L_X12_bestBy_v2_4
    by_cases c : k = 13
    · subst c; rw [if_pos (by omega)]
    · have ih := l_bb2 n (k + 1) (by omega) (by omega)
      have e1 : bB (h 120) (h 122) (k + 1) = if h 120 (bB (h 120) (h 122) k) < h 120 (k + 1) ∨ (h 120 (k + 1) = h 120 (bB (h 120) (h 122) k) ∧ h 122 (k + 1) < h 122 (bB (h 120) (h 122) k)) then k + 1 else bB (h 120) (h 122) k := rfl
      rw [if_neg (by omega), grd_t ⟨by omega, by omega⟩, grd_t ⟨by omega, by omega⟩]
      simp only [Int.toNat_natCast]
      unfold J_X12_bestBy_v2_51
      rw [grd_t ⟨by omega, by omega⟩, grd_t ⟨by omega, by omega⟩, grd_t ⟨by omega, by omega⟩, grd_t ⟨by omega, by omega⟩]
      simp only [bnd_s, inc (show k + 1 < 100000000 by omega)]
      by_cases q1 : h 120 (bB (h 120) (h 122) k) < h 120 (k + 1)
      · rw [if_pos (Or.inl q1)] at e1
        rw [if_pos q1]
        rw [e1] at ih
        exact ih
      · rw [if_neg q1]
        by_cases q2 : h 120 (k + 1) = h 120 (bB (h 120) (h 122) k)
        · rw [if_pos q2]
          by_cases q3 : h 122 (bB (h 120) (h 122) k) ≤ h 122 (k + 1)
          · rw [if_neg (by omega)] at e1
            rw [if_pos q3, ← e1]; exact ih
          · rw [if_pos (Or.inr ⟨q2, by omega⟩)] at e1
            rw [if_neg q3]
            rw [e1] at ih
            exact ih
        · rw [if_neg (by omega)] at e1
          rw [if_neg q2, ← e1]; exact ih
theorem bB_0 {a b : Nat → Int} : ∀ k, (∀ q, q ≤ k → a q = -1 ∧ b q = 0) → bB a b k = 0
  | 0, _ => rfl
  | k + 1, H => by
    have ih := bB_0 k (fun q hq => H q (by omega))
    have h1 := H 0 (by omega)
    have h2 := H (k + 1) (by omega)
    show (if _ then _ else _) = _
    rw [ih, if_neg (by omega)]
def StP (t : Nat) (a b : Nat → Int) (i : Nat) (x3 x4 x5 : Int) : Prop := ((∀ q, q < i → t.testBit q = false) ∧ x3 = -2 ∧ x4 = -2 ∧ x5 = 0) ∨ ∃ k, i = k + 1 ∧ t.testBit (bB a b k) = true ∧ x3 = ((bB a b k : Nat) : Int) ∧ x4 = a (bB a b k) - 1 ∧ x5 = b (bB a b k)
theorem l_bp (hN : 1000000 ≤ N) (ht : t < 16384) (e4 : h 1 4 = (t : Int)) {a b : Nat → Int} {x2 : Int} (hu : ∀ q, q < 14 → t.testBit q = false → a q = -1 ∧ b q = 0) (hT : ∀ q, q < 14 → t.testBit q = true → 1 ≤ a q ∧ F_X7_reachedFrom N (q : Int) h = some (a q - 1, h) ∧ (if x2 = 0 then F_X7_sumFrom N (q : Int) h else F_X7_farthestFrom N (q : Int) h) = some (b q, h)) : ∀ n i x3 x4 x5, i ≤ 14 → 14 - i < n → StP t a b i x3 x4 x5 → ∃ x4' x5' x3', StP t a b 14 x3' x4' x5' ∧ L_X7_bestPit_13 N n x2 x3 x4 x5 (i : Int) h = some (x3', h)
  | 0, j, _, _, _, _, hf, _ => absurd hf (by omega)
  | n + 1, i, x3, x4, x5, hi, hf, S => by
    unfold L_X7_bestPit_13
    by_cases c : i = 14
    · subst c
      exact ⟨x4, x5, x3, S, by rw [if_pos (by omega)]⟩
    · have hi' : i < 14 := by omega
      rw [if_neg (by omega), s_isTold ht e4, bd_s]
      unfold J_X7_bestPit_56 J_X7_bestPit_79 J_X7_bestPit_90
      simp only [bnd_s, inc (show i < 100000000 by omega)]
      cases ti : t.testBit i with
      | false =>
        rw [if_neg (show ¬ isT t (i : Int) from fun z => by rw [(isT_n hi').mp z] at ti; cases ti), if_pos rfl]
        refine l_bp hN ht e4 hu hT n (i + 1) x3 x4 x5 (by omega) (by omega) ?_
        rcases S with ⟨s1, s2⟩ | ⟨k, rfl, s1, s2, s3, s4⟩
        · refine Or.inl ⟨fun q hq => ?_, s2⟩
          by_cases z : q = i
          · subst z; exact ti
          · exact s1 q (by omega)
        · have hle := bB_le a b k
          have u := hu (k + 1) hi' ti
          have w := (hT (bB a b k) (by omega) s1).1
          have e : bB a b (k + 1) = bB a b k := by
            show (if _ then _ else _) = _
            rw [if_neg (by omega)]
          exact Or.inr ⟨k + 1, rfl, by rw [e]; exact s1, by rw [e]; exact s2, by rw [e]; exact s3, by rw [e]; exact s4⟩
      | true =>
        obtain ⟨w1, w2, w3⟩ := hT i hi' ti
        rw [if_pos ((isT_n hi').mpr ti), if_neg (by decide), w2, bd_s]
        have ih := fun y3 y4 y5 => l_bp hN ht e4 hu hT n (i + 1) y3 y4 y5 (by omega) (by omega)
        have key : ∃ x4' x5' x3', StP t a b 14 x3' x4' x5' ∧ (if x4 < a i - 1 then L_X7_bestPit_13 N n x2 (i : Int) (a i - 1) (b i) ((i + 1 : Nat) : Int) h else if a i - 1 = x4 then (if x5 ≤ b i then L_X7_bestPit_13 N n x2 x3 x4 x5 ((i + 1 : Nat) : Int) h else L_X7_bestPit_13 N n x2 (i : Int) (a i - 1) (b i) ((i + 1 : Nat) : Int) h) else L_X7_bestPit_13 N n x2 x3 x4 x5 ((i + 1 : Nat) : Int) h) = some (x3', h) := by
          rcases S with ⟨s1, s2, s3, s4⟩ | ⟨k, rfl, s1, s2, s3, s4⟩
          · rw [if_pos (by omega)]
            refine ih _ _ _ (Or.inr ⟨i, rfl, ?_⟩)
            have e : bB a b i = i := by
              cases i with
              | zero => rfl
              | succ k =>
                have e0 : bB a b k = 0 := bB_0 k (fun q hq => hu q (by omega) (s1 q (by omega)))
                have u := hu 0 (by omega) (s1 0 (by omega))
                show (if _ then _ else _) = _
                rw [e0, if_pos (by omega)]
            rw [e]
            exact ⟨ti, rfl, rfl, rfl⟩
          · have e : bB a b (k + 1) = if a (bB a b k) < a (k + 1) ∨ (a (k + 1) = a (bB a b k) ∧ b (k + 1) < b (bB a b k)) then k + 1 else bB a b k := rfl
            have put : bB a b (k + 1) = k + 1 → StP t a b (k + 1 + 1) ((k + 1 : Nat) : Int) (a (k + 1) - 1) (b (k + 1)) := fun z => Or.inr ⟨k + 1, rfl, by rw [z]; exact ti, by rw [z], by rw [z], by rw [z]⟩
            have stay : bB a b (k + 1) = bB a b k → StP t a b (k + 1 + 1) x3 x4 x5 := fun z => Or.inr ⟨k + 1, rfl, by rw [z]; exact s1, by rw [z]; exact s2, by rw [z]; exact s3, by rw [z]; exact s4⟩
            by_cases p1 : x4 < a (k + 1) - 1
            · rw [if_pos p1]
              exact ih _ _ _ (put (by rw [e, if_pos (by omega)]))
            · rw [if_neg p1]
              by_cases p2 : a (k + 1) - 1 = x4
              · rw [if_pos p2]
                by_cases p3 : x5 ≤ b (k + 1)
                · rw [if_pos p3]
                  exact ih _ _ _ (stay (by rw [e, if_neg (by omega)]))
                · rw [if_neg p3]
                  exact ih _ _ _ (put (by rw [e, if_pos (by omega)]))
              · rw [if_neg p2]
                exact ih _ _ _ (stay (by rw [e, if_neg (by omega)]))
        by_cases p : x2 = 0
        · rw [if_pos p] at w3
          rw [if_pos p, w3, bd_s]
          exact key
        · rw [if_neg p] at w3
          rw [if_neg p, w3, bd_s]
          exact key
theorem row_t (H : IR h t) {i : Nat} (hi : i < 14) (ti : t.testBit i = true) : ∀ k, k ≤ 14 → rcM h i k = sm (fun j => if h 10 (14 * i + j) ≤ 0 then 0 else 1) k + (if i < k then 1 else 0) ∧ fmM h i k = fmx (fun j => h 10 (14 * i + j)) k ∧ smM h i k = sm (fun j => imax 0 (h 10 (14 * i + j))) k
  | 0, _ => ⟨rfl, rfl, rfl⟩
  | k + 1, hk => by
    obtain ⟨a1, a2, a3⟩ := row_t H hi ti k (by omega)
    have hr0 : rcM h i (k + 1) = rcM h i k + (if h 91 (14 * i + k) < 1000000 then 1 else 0) := rfl
    have hr1 : fmM h i (k + 1) = imax (fmM h i k) (if h 91 (14 * i + k) < 1000000 then h 91 (14 * i + k) else 0) := rfl
    have hr2 : smM h i (k + 1) = smM h i k + (if h 91 (14 * i + k) < 1000000 then h 91 (14 * i + k) else 0) := rfl
    have n1 := fmx_nn (f := fun j => h 10 (14 * i + j)) k
    simp only [sm, fmx]
    rw [hr0, hr1, hr2, a1, a2, a3]
    have W : (h 91 (14 * i + k) < 1000000 ∧ h 10 (14 * i + k) = h 91 (14 * i + k) ∧ 0 ≤ h 91 (14 * i + k) ∧ (i ≠ k → 1 ≤ h 91 (14 * i + k)) ∧ (i = k → h 91 (14 * i + k) = 0)) ∨ (h 91 (14 * i + k) = 1000000 ∧ h 10 (14 * i + k) = -2 ∧ i ≠ k) := by
      by_cases tk : t.testBit k = true
      · rcases way_t H hi (show k < 14 by omega) ti tk with z | z
        · exact Or.inl ⟨z.1, z.2.1, z.2.2.1, z.2.2.2.2⟩
        · exact Or.inr z
      · have z := way_u H hi (show k < 14 by omega) (fun y => tk y.2)
        have ne : i ≠ k := fun e => tk (by rw [← e]; exact ti)
        exact Or.inr ⟨z.1, z.2.1 ne, ne⟩
    rcases W with z | z
    · rw [if_pos z.1, if_pos z.1, z.2.1]
      refine ⟨?_, rfl, by rw [imax_d]; split <;> omega⟩
      by_cases e : i = k
      · have := z.2.2.2.2 e
        rw [if_pos (show h 91 (14 * i + k) ≤ 0 by omega), if_neg (by omega), if_pos (by omega)]
      · have := z.2.2.2.1 e
        rw [if_neg (show ¬ h 91 (14 * i + k) ≤ 0 by omega)]
        by_cases y : i < k
        · rw [if_pos y, if_pos (show i < k + 1 by omega)]
        · rw [if_neg y, if_neg (show ¬ i < k + 1 by omega)]; omega
    · have zn : ¬ h 91 (14 * i + k) < 1000000 := by omega
      rw [if_neg zn, if_neg zn, z.2.1, if_pos (show (-2 : Int) ≤ 0 by omega)]
      refine ⟨?_, ?_, ?_⟩
      · by_cases y : i < k
        · rw [if_pos y, if_pos (show i < k + 1 by omega)]; omega
        · rw [if_neg y, if_neg (show ¬ i < k + 1 by omega)]
      · rw [imax_d, imax_d, if_neg (show ¬ fmx (fun j => h 10 (14 * i + j)) k < -2 by omega)]; split <;> omega
      · rw [show imax 0 (-2) = 0 from rfl]
theorem row_u (H : IR h t) {i : Nat} (hi : i < 14) (ti : t.testBit i = false) : ∀ k, k ≤ 14 → rcM h i k = 0 ∧ fmM h i k = 0 ∧ smM h i k = 0
  | 0, _ => ⟨rfl, rfl, rfl⟩
  | k + 1, hk => by
    obtain ⟨a1, a2, a3⟩ := row_u H hi ti k (by omega)
    have hr0 : rcM h i (k + 1) = rcM h i k + (if h 91 (14 * i + k) < 1000000 then 1 else 0) := rfl
    have hr1 : fmM h i (k + 1) = imax (fmM h i k) (if h 91 (14 * i + k) < 1000000 then h 91 (14 * i + k) else 0) := rfl
    have hr2 : smM h i (k + 1) = smM h i k + (if h 91 (14 * i + k) < 1000000 then h 91 (14 * i + k) else 0) := rfl
    have z := way_u H hi (show k < 14 by omega) (fun y => by rw [y.1] at ti; cases ti)
    rw [hr0, hr1, hr2, a1, a2, a3, if_neg (by omega), if_neg (by omega)]
    exact ⟨rfl, rfl, rfl⟩
end PIT
theorem op_pitAt {N : Nat} (hN : 1000000 ≤ N) : ∀ a1 : Int, inR a1 → Sm (Inv N) (F_X11_pitAt N a1) (F_X12_pitAt N a1) := by
  intro w _ h hok hI
  obtain ⟨t, i1, i2, i3, i4, i5, i6, i7, i8, i9, i10⟩ := id hI
  have ht := i1.1
  unfold F_X11_pitAt F_X12_pitAt F_X1_toldStreets
  simp only [s_isWithin, s_in, bd_s]
  by_cases q1 : 0 ≤ w ∧ w ≤ 3
  · simp only [if_pos q1, if_neg (show ¬ (1 : Int) = 0 by decide)]
    by_cases q2 : t = 0
    · refine ⟨-2, h, h, ?_, ?_, hI⟩
      · rw [i1.2.1, if_pos (by omega)]
      · rw [i1.2.2, if_pos (by omega)]
    · have hbt : ∀ i j, i < 14 → j < 14 → (0 ≤ h 91 (14 * i + j) ∧ h 91 (14 * i + j) ≤ 1386) ∨ h 91 (14 * i + j) = 1000000 := fun i j hi hj => by
        by_cases tt : t.testBit i = true ∧ t.testBit j = true
        · rcases way_t i8 hi hj tt.1 tt.2 with z | z
          · exact Or.inl ⟨z.2.2.1, z.2.2.2.1⟩
          · exact Or.inr z.1
        · exact Or.inr (way_u i8 hi hj tt).1
      have hb10 : ∀ i j, i < 14 → j < 14 → h 10 (14 * i + j) ≤ 1386 := fun i j hi hj => by
        by_cases tt : t.testBit i = true ∧ t.testBit j = true
        · rcases way_t i8 hi hj tt.1 tt.2 with z | z <;> omega
        · have z := way_u i8 hi hj tt
          by_cases e : i = j
          · rw [z.2.2 e]; omega
          · rw [z.2.1 e]; omega
      obtain ⟨k, E, R, S⟩ := l_lr (N := N) (t := t) (g := h) hN ht i1.2.2 hbt N 0 h (by omega) (by omega) (fun _ _ _ => rfl) (fun i hi => absurd hi (by omega))
      have S : F_X12_laysReach N h = some k := S
      have ka : ∀ i, i < 14 → k 120 i = rowR h t i := fun i hi => (R i hi).1
      have hu1 : ∀ q, q < 14 → t.testBit q = false → k 120 q = -1 ∧ k 121 q = 0 ∧ k 122 q = 0 := fun q hq tq => by
        obtain ⟨a, b, c⟩ := row_u i8 hq tq 14 (by omega)
        refine ⟨?_, by rw [(R q hq).2.1, b], by rw [(R q hq).2.2, c]⟩
        rw [ka q hq]; unfold rowR; rw [a, tq]; rfl
      have hT1 : ∀ q, q < 14 → t.testBit q = true → 1 ≤ k 120 q ∧ F_X7_reachedFrom N (q : Int) h = some (k 120 q - 1, h) ∧ F_X7_farthestFrom N (q : Int) h = some (k 121 q, h) ∧ F_X7_sumFrom N (q : Int) h = some (k 122 q, h) := fun q hq tq => by
        obtain ⟨a, b, c⟩ := row_t i8 hq tq 14 (by omega)
        have nn := sm_b (f := fun j => if h 10 (14 * q + j) ≤ 0 then 0 else 1) (M := 14) (fun k _ => by show 0 ≤ (if _ then (0 : Int) else 1) ∧ _; split <;> simp) 14 (by omega)
        have e0 : k 120 q = sm (fun j => if h 10 (14 * q + j) ≤ 0 then 0 else 1) 14 + 1 := by rw [ka q hq]; unfold rowR; rw [a, if_pos tq, if_pos hq]; omega
        refine ⟨by omega, ?_, ?_, ?_⟩
        · rw [e0, Int.add_sub_cancel]
          exact l_rch hq N 0 (by omega) (by omega)
        · rw [(R q hq).2.1, b]
          exact l_fth hq N 0 (by omega) (by omega)
        · rw [(R q hq).2.2, c]
          exact l_smf hq (fun j hj => hb10 q j hq hj) N 0 (by omega) (by omega)
      have some_t : ¬ ∀ q, q < 14 → t.testBit q = false := fun z => q2 (Nat.eq_of_testBit_eq (fun q => by
        rw [Nat.zero_testBit]
        by_cases hq : q < 14
        · exact z q hq
        · exact Nat.testBit_lt_two_pow (Nat.lt_of_lt_of_le (show t < 2 ^ 14 from ht) (Nat.pow_le_pow_right (by decide) (by omega)))))
      have bp1 : F_X7_bestPit N 1 h = some (((bB (k 120) (k 121) 13 : Nat) : Int), h) ∧ t.testBit (bB (k 120) (k 121) 13) = true := by
        obtain ⟨x4, x5, x3, P, Q⟩ := l_bp (N := N) (t := t) (h := h) (a := k 120) (b := k 121) (x2 := 1) hN ht i1.2.1 (fun q hq tq => ⟨(hu1 q hq tq).1, (hu1 q hq tq).2.1⟩) (fun q hq tq => ⟨(hT1 q hq tq).1, (hT1 q hq tq).2.1, by rw [if_neg (by decide)]; exact (hT1 q hq tq).2.2.1⟩) N 0 (-2) (-2) 0 (by omega) (by omega) (Or.inl ⟨fun q hq => absurd hq (by omega), rfl, rfl, rfl⟩)
        rcases P with P | ⟨k', e, P1, P2, -⟩
        · exact absurd P.1 some_t
        · obtain rfl : k' = 13 := by omega
          rw [P2] at Q
          exact ⟨Q, P1⟩
      have bp2 : F_X7_bestPit N 0 h = some (((bB (k 120) (k 122) 13 : Nat) : Int), h) ∧ t.testBit (bB (k 120) (k 122) 13) = true := by
        obtain ⟨x4, x5, x3, P, Q⟩ := l_bp (N := N) (t := t) (h := h) (a := k 120) (b := k 122) (x2 := 0) hN ht i1.2.1 (fun q hq tq => ⟨(hu1 q hq tq).1, (hu1 q hq tq).2.2⟩) (fun q hq tq => ⟨(hT1 q hq tq).1, (hT1 q hq tq).2.1, by rw [if_pos rfl]; exact (hT1 q hq tq).2.2.2⟩) N 0 (-2) (-2) 0 (by omega) (by omega) (Or.inl ⟨fun q hq => absurd hq (by omega), rfl, rfl, rfl⟩)
        rcases P with P | ⟨k', e, P1, P2, -⟩
        · exact absurd P.1 some_t
        · obtain rfl : k' = 13 := by omega
          rw [P2] at Q
          exact ⟨Q, P1⟩
      have m1 : F_X12_bestBy N k = some (((bB (k 120) (k 121) 13 : Nat) : Int), k) := l_bb1 N 0 (by omega) (by omega)
      have m2 : F_X12_bestBy_v2 N k = some (((bB (k 120) (k 122) 13 : Nat) : Int), k) := l_bb2 N 0 (by omega) (by omega)
      have l1 := bB_le (k 120) (k 121) 13
      have l2 := bB_le (k 120) (k 122) 13
      have hx : ∀ v : Int, (if 2 ≤ w then J_X11_pitAt_42 N w 0 h else J_X11_pitAt_42 N w 1 h) = some (v, h) → (if w = 0 then some (((bB (k 120) (k 121) 13 : Nat) : Int), k) else if w = 1 then some (k 121 (bB (k 120) (k 121) 13), k) else if w = 2 then some (((bB (k 120) (k 122) 13 : Nat) : Int), k) else some (k 122 (bB (k 120) (k 122) 13), k)) = some (v, k) → ∃ r h1 h2, (if h 1 4 = 0 then some (-2, h) else if 2 ≤ w then J_X11_pitAt_42 N w 0 h else J_X11_pitAt_42 N w 1 h) = some (r, h1) ∧ (if h1 83 12 = 0 then some (-2, h1) else bv (F_X12_laysReach N h1) fun h3 => bd (F_X12_bestBy N h3) fun y5 h4 => bd (F_X12_bestBy_v2 N h4) fun y7 h6 => if w = 0 then some (y5, h6) else if w = 1 then grd (0 ≤ y5 ∧ y5 < 14) (some (h6 121 y5.toNat, h6)) else if w = 2 then some (y7, h6) else grd (0 ≤ y7 ∧ y7 < 14) (some (h6 122 y7.toNat, h6))) = some (r, h2) ∧ Inv N h2 := by
        intro v X M
        refine ⟨v, h, k, by rw [i1.2.1, if_neg (by omega)]; exact X, ?_, hI.ag (fun c j hc => E c j (by unfold scr at hc; omega))⟩
        rw [i1.2.2, if_neg (by omega), S, bv_s, m1, bd_s, m2, bd_s, grd_t ⟨by omega, by omega⟩, grd_t ⟨by omega, by omega⟩]
        simp only [Int.toNat_natCast]
        exact M
      rcases (show w = 0 ∨ w = 1 ∨ w = 2 ∨ w = 3 by omega) with rfl | rfl | rfl | rfl
      · refine hx _ ?_ rfl
        rw [if_neg (by decide)]; unfold J_X11_pitAt_42; rw [bp1.1, bd_s, if_pos rfl]
      · refine hx _ ?_ rfl
        rw [if_neg (by decide)]; unfold J_X11_pitAt_42; rw [bp1.1, bd_s, if_neg (by decide), if_neg (by decide), if_pos rfl, (hT1 _ (by omega) bp1.2).2.2.1, bd_s]
      · refine hx _ ?_ rfl
        rw [if_pos (by decide)]; unfold J_X11_pitAt_42; rw [bp2.1, bd_s, if_neg (by decide), if_pos rfl]
      · refine hx _ ?_ rfl
        rw [if_pos (by decide)]; unfold J_X11_pitAt_42; rw [bp2.1, bd_s, if_neg (by decide), if_neg (by decide), if_neg (by decide), (hT1 _ (by omega) bp2.2).2.2.2, bd_s]
  · refine ⟨-1, h, h, ?_, ?_, hI⟩ <;> simp only [if_neg q1, if_true]
