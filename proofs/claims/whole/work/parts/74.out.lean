/-! OUT -/
theorem sm_pt {f g : Nat → Int} {x : Nat} (e : ∀ i, i ≠ x → f i = g i) : ∀ {n : Nat}, x < n → sm f n = sm g n + (f x - g x)
  | 0, h => absurd h (by omega)
  | n + 1, h => by
    simp only [sm]
    by_cases q : x = n
    · subst q
      rw [sm_c (f := f) (g := g) (fun j hj => e j (by omega))]
      omega
    · rw [sm_pt e (n := n) (by omega), e n (Ne.symm q)]
      omega
theorem sm_le {f g : Nat → Int} : ∀ {n : Nat}, (∀ i, i < n → f i ≤ g i) → sm f n ≤ sm g n
  | 0, _ => Int.le_refl _
  | n + 1, h => by
    have := sm_le (n := n) (fun i hi => h i (by omega))
    have := h n (by omega)
    simp only [sm]
    omega
theorem sm_sub (f g : Nat → Int) : ∀ n, sm (fun i => f i - g i) n = sm f n - sm g n
  | 0 => rfl
  | n + 1 => by simp only [sm]; rw [sm_sub f g n]; omega
theorem cn_sm (s : Nat) : ∀ k, (cnt s k : Int) = sm (bF (fun _ => 1) s) k
  | 0 => rfl
  | k + 1 => by
    simp only [cnt, sm]
    have e : bF (fun _ => (1 : Int)) s k = if s.testBit k = true then 1 else 0 := rfl
    rw [← cn_sm s k, e]
    split <;> omega
theorem nm_sm (s : Nat) : ∀ k, ((s % 2 ^ k : Nat) : Int) = sm (bF (fun i => ((2 ^ i : Nat) : Int)) s) k
  | 0 => by simp [sm, Nat.mod_one]
  | k + 1 => by
    rw [mod_s]
    simp only [sm]
    have e : bF (fun i => ((2 ^ i : Nat) : Int)) s k = if s.testBit k = true then ((2 ^ k : Nat) : Int) else 0 := rfl
    rw [← nm_sm s k, e]
    split <;> omega
theorem dl_lt14 {s k : Nat} (hs : s < 2 ^ 14) : dl s k < 2 ^ 14 := by
  apply Nat.lt_pow_two_of_testBit
  intro i hi
  cases q : (dl s k).testBit i with
  | false => rfl
  | true =>
    have := ((dl_t s k i).mp q).1
    rw [Nat.testBit_lt_two_pow (Nat.lt_of_lt_of_le hs (Nat.pow_le_pow_right (by decide) hi))] at this
    cases this
theorem bF_dl (f : Nat → Int) {s x : Nat} (hx : x < 14) (b : s.testBit x = true) : sm (bF f s) 14 = sm (bF f (dl s x)) 14 + f x := by
  rw [sm_pt (f := bF f s) (g := bF f (dl s x)) (x := x) (fun i hi => ?_) hx]
  · have e1 : bF f s x = f x := by unfold bF; rw [if_pos b]
    have e2 : bF f (dl s x) x = 0 := by unfold bF; rw [if_neg (fun z => ((dl_t s x x).mp z).2 rfl)]
    rw [e1, e2]; omega
  · unfold bF
    by_cases q : s.testBit i = true
    · rw [if_pos q, if_pos ((dl_t s x i).mpr ⟨q, hi⟩)]
    · rw [if_neg q, if_neg (fun z => q ((dl_t s x i).mp z).1)]
theorem bF_or (f : Nat → Int) {s x : Nat} (hx : x < 14) (b : ¬ s.testBit x = true) : sm (bF f (s ||| 2 ^ x)) 14 = sm (bF f s) 14 + f x := by
  rw [sm_pt (f := bF f (s ||| 2 ^ x)) (g := bF f s) (x := x) (fun i hi => ?_) hx]
  · have e1 : bF f (s ||| 2 ^ x) x = f x := by unfold bF; rw [if_pos (by rw [tb_or]; simp)]
    have e2 : bF f s x = 0 := by unfold bF; rw [if_neg b]
    rw [e1, e2]; omega
  · unfold bF
    rw [tb_or]
    have : decide (x = i) = false := decide_eq_false (Ne.symm hi)
    rw [this, Bool.or_false]
theorem nm14 {s : Nat} (hs : s < 2 ^ 14) : (s : Int) = sm (bF (fun i => ((2 ^ i : Nat) : Int)) s) 14 := by rw [← nm_sm s 14, Nat.mod_eq_of_lt hs]
theorem cn14 (s : Nat) : (cn s : Int) = sm (bF (fun _ => 1) s) 14 := cn_sm s 14
theorem more {s d : Nat} (h : cn d < cn s) : ∃ x, x < 14 ∧ s.testBit x = true ∧ ¬ d.testBit x = true := by
  refine Classical.byContradiction fun z => ?_
  have h1 : sm (bF (fun _ => 1) s) 14 ≤ sm (bF (fun _ => 1) d) 14 := sm_le (fun i hi => by
    show (if s.testBit i = true then (1 : Int) else 0) ≤ (if d.testBit i = true then 1 else 0)
    by_cases q : s.testBit i = true
    · by_cases p : d.testBit i = true
      · rw [if_pos q, if_pos p]; omega
      · exact absurd ⟨i, hi, q, p⟩ z
    · rw [if_neg q]; split <;> omega)
  rw [← cn14, ← cn14] at h1
  omega
/-- the first of the greatest outside a set -/
def FB (t d : Nat) (f : Nat → Int) (k b : Nat) : Prop := b < k ∧ t.testBit b = true ∧ ¬ d.testBit b = true ∧ ∀ i, i < k → t.testBit i = true → ¬ d.testBit i = true → f i < f b ∨ (f i = f b ∧ b ≤ i)
/-- the sets of so many told streets -/
def Vs (t m s : Nat) : Prop := s < 2 ^ 14 ∧ (∀ i, s.testBit i = true → t.testBit i = true) ∧ cn s = m
def gs (f : Nat → Int) (s : Nat) : Int := sm (bF f s) 14
def GD (t : Nat) (f : Nat → Int) (m d : Nat) : Prop := Vs t m d ∧ ∀ s, Vs t m s → gs f s < gs f d ∨ (gs f s = gs f d ∧ d ≤ s)
theorem GD_0 {t : Nat} {f : Nat → Int} : GD t f 0 0 := by
  refine ⟨⟨by decide, fun i h => by simp at h, by decide⟩, fun s h => ?_⟩
  have : s = 0 := by
    have h1 := cn_pos h.1
    have := h.2.2
    omega
  subst this
  exact Or.inr ⟨rfl, Nat.le_refl _⟩
theorem GD_s {t m d b : Nat} {f : Nat → Int} (H : GD t f m d) (B : FB t d f 14 b) : GD t f (m + 1) (d ||| 2 ^ b) ∧ gs f (d ||| 2 ^ b) = gs f d + f b := by
  obtain ⟨⟨v1, v2, v3⟩, H2⟩ := H
  obtain ⟨b1, b2, b3, b4⟩ := B
  have p14 : 2 ^ b < 2 ^ 14 := pow_lt2 b1
  have lt : d ||| 2 ^ b < 2 ^ 14 := Nat.or_lt_two_pow v1 p14
  have e1 : gs f (d ||| 2 ^ b) = gs f d + f b := bF_or f b1 b3
  have e2 := bF_or (fun _ => 1) b1 b3
  rw [← cn14, ← cn14] at e2
  have e3 := bF_or (fun i => ((2 ^ i : Nat) : Int)) b1 b3
  rw [← nm14 lt, ← nm14 v1] at e3
  refine ⟨⟨⟨lt, fun i hi => ?_, by omega⟩, fun s hs => ?_⟩, e1⟩
  · rw [tb_or, Bool.or_eq_true, decide_eq_true_iff] at hi
    rcases hi with hi | hi
    · exact v2 i hi
    · subst hi; exact b2
  · obtain ⟨s1, s2, s3⟩ := hs
    obtain ⟨x, x1, x2, x3⟩ := more (s := s) (d := d) (by omega)
    have f1 : gs f s = gs f (dl s x) + f x := bF_dl f x1 x2
    have f2 := bF_dl (fun _ => 1) x1 x2
    rw [← cn14, ← cn14] at f2
    have f3 := bF_dl (fun i => ((2 ^ i : Nat) : Int)) x1 x2
    rw [← nm14 s1, ← nm14 (dl_lt14 s1)] at f3
    have ih := H2 (dl s x) ⟨dl_lt14 s1, fun i hi => s2 i ((dl_t s x i).mp hi).1, by omega⟩
    have bx := b4 x x1 (s2 x x2) x3
    rcases ih with ih | ⟨ih1, ih2⟩
    · left
      omega
    · rcases bx with bx | ⟨bx1, bx2⟩
      · left; omega
      · refine Or.inr ⟨by omega, ?_⟩
        have : 2 ^ b ≤ 2 ^ x := Nat.pow_le_pow_right (by decide) bx2
        omega
section OU
variable {N t : Nat} {h g : Hp} {A : Int → (Nat → Int) → Int}
def Ww (A : Int → (Nat → Int) → Int) (h : Hp) (lm : Int) (i r : Nat) : Int := A 119 (fc (h 2 i) lm (h 4 i) i (h 5 i) r (h 1 5) 0)
theorem Ww_b (L : LawOK N h A) (lm : Int) (i r : Nat) : 0 ≤ Ww A h lm i r ∧ Ww A h lm i r ≤ 999 := L.1 119 _
def fr18 (h h1 : Hp) : Prop := ∀ c j, ¬ c = 18 → ¬ c = 19 → ¬ (c = 11 ∧ (j = 10 ∨ j = 11)) → h1 c j = h c j
theorem fr18.tr {a b c : Hp} (h1 : fr18 a b) (h2 : fr18 b c) : fr18 a c := fun x j p q r => (h2 x j p q r).trans (h1 x j p q r)
theorem bX.fr {h' h1 : Hp} (H : bX h h') (e : fr18 h' h1) : bX h h1 := H.of (fun c j z => e c j (by omega) (by omega) (by omega))
theorem l_wb (L : LawOK N h A) (lm : Int) {i : Nat} (hi : i < 14) : ∀ (q k : Nat) (h' : Hp), k ≤ 10 → 10 - k < q → bX h h' → h' 18 0 = (i : Int) → h' 18 1 = h 2 i → h' 18 2 = lm → h' 18 3 = h 5 i → h' 18 4 = h 4 i → ∃ h1, L_X9_wastedBy_24 N q (sm (Ww A h lm i) k) (k : Int) h' = some (sm (Ww A h lm i) 10, h1) ∧ fr18 h' h1
  | 0, k, _, _, hq, _, _, _, _, _, _ => absurd hq (by omega)
  | q + 1, k, h', hk, hq, H, f0, f1, f2, f3, f4 => by
    unfold L_X9_wastedBy_24
    by_cases c : k = 10
    · subst c
      rw [if_pos (by omega)]
      exact ⟨h', rfl, fun _ _ _ _ _ => rfl⟩
    · have b := sm_b2 (f := Ww A h lm i) (Ww_b L lm i) k
      have bk := Ww_b L lm i k
      unfold F_X1_night F_X2_regardTime
      simp only [bd_s, bnd_s, bv_s, t5, t6, t7, H.2.2 5]
      obtain ⟨e, he⟩ : ∃ e, e = hw (hw (hw h' 18 5 (k : Int)) 18 6 (h 1 5)) 18 7 0 := ⟨_, rfl⟩
      rw [← he, if_neg (by omega)]
      have ec : ∀ c j, ¬ c = 18 → e c j = h' c j := fun c j z => by rw [he, hw_ne (by omega), hw_ne (by omega), hw_ne (by omega)]
      obtain ⟨h1, a1, a2⟩ := L.2.2.1 e 119 (H.of (fun c j z => ec c j (by omega)) : bX h e).1 (Or.inl rfl)
      have eA : A 119 (e 18) = Ww A h lm i k := L.2.1 119 _ _ (fun j hj => by
        rw [he]
        rcases (show j = 0 ∨ j = 1 ∨ j = 2 ∨ j = 3 ∨ j = 4 ∨ j = 5 ∨ j = 6 ∨ j = 7 by omega) with rfl | rfl | rfl | rfl | rfl | rfl | rfl | rfl <;> simp [hw, fc, f0, f1, f2, f3, f4])
      have e18 : ∀ j, j < 5 → h1 18 j = h' 18 j := fun j hj => by rw [a2 18 j (by omega), he, hw_ne (by omega), hw_ne (by omega), hw_ne (by omega)]
      have fr : fr18 h' h1 := fun c j z1 z2 z3 => by rw [a2 c j (by omega), ec c j z1]
      rw [a1, bd_s, eA, w32_id ⟨by omega, by omega⟩, inc (by omega)]
      obtain ⟨h2, c1, c2⟩ := l_wb L lm hi q (k + 1) h1 (by omega) (by omega) (H.fr fr) (by rw [e18 0 (by omega)]; exact f0) (by rw [e18 1 (by omega)]; exact f1) (by rw [e18 2 (by omega)]; exact f2) (by rw [e18 3 (by omega)]; exact f3) (by rw [e18 4 (by omega)]; exact f4)
      exact ⟨h2, c1, fr18.tr fr c2⟩
theorem x_wb (hN : 1000000 ≤ N) (L : LawOK N h A) (lm : Int) {i : Nat} (hi : i < 14) {h' : Hp} (H : bX h h') (hd : h' 5 i = h 5 i) : ∃ h1, F_X9_wastedBy N lm (i : Int) h' = some (sm (Ww A h lm i) 10, h1) ∧ fr18 h' h1 := by
  unfold F_X9_wastedBy F_X2_regardStreet
  simp only [s_depthOf hi, bd_s, bnd_s, s_houses hi, s_stars hi, t0, t1, t2, t3, t4]
  have e2 : hw h' 18 0 (i : Int) 2 i = h 2 i := by rw [hw_ne (by omega), H.2.1 2 (by omega)]
  have e4 : hw (hw (hw (hw h' 18 0 (i : Int)) 18 1 (h 2 i)) 18 2 lm) 18 3 (h 5 i) 4 i = h 4 i := by rw [hw_ne (by omega), hw_ne (by omega), hw_ne (by omega), hw_ne (by omega), H.2.1 4 (by omega)]
  rw [hd, e2, e4, bv_s]
  obtain ⟨e, he⟩ : ∃ e, e = hw (hw (hw (hw (hw h' 18 0 (i : Int)) 18 1 (h 2 i)) 18 2 lm) 18 3 (h 5 i)) 18 4 (h 4 i) := ⟨_, rfl⟩
  rw [← he]
  have fr : fr18 h' e := fun c j z1 z2 z3 => by rw [he, hw_ne (by omega), hw_ne (by omega), hw_ne (by omega), hw_ne (by omega), hw_ne (by omega)]
  obtain ⟨h1, a1, a2⟩ := l_wb (N := N) L lm hi N 0 e (by omega) (by omega) (H.fr fr) (by rw [he]; simp [hw]) (by rw [he]; simp [hw]) (by rw [he]; simp [hw]) (by rw [he]; simp [hw]) (by rw [he]; simp [hw])
  exact ⟨h1, a1, fr18.tr fr a2⟩
/-- what a street's lamps put out would spare -/
def gn (A : Int → (Nat → Int) → Int) (h : Hp) (i : Nat) : Int := sm (Ww A h (h 3 i) i) 10 - sm (Ww A h 0 i) 10
theorem gn_b (L : LawOK N h A) (i : Nat) : -9990 ≤ gn A h i ∧ gn A h i ≤ 9990 := by
  have b1 := sm_b2 (f := Ww A h (h 3 i) i) (Ww_b L (h 3 i) i) 10
  have b2 := sm_b2 (f := Ww A h 0 i) (Ww_b L 0 i) 10
  unfold gn
  omega
def fx72 (g h : Hp) : Prop := ∀ c j, ¬ (c = 72 ∨ c = 18 ∨ c = 19 ∨ (c = 11 ∧ (j = 10 ∨ j = 11))) → h c j = g c j
theorem l_rg (hN : 1000000 ≤ N) (ht : t < 16384) (L : LawOK N h A) (e14 : h 1 4 = (t : Int)) : ∀ (q k : Nat) (h' : Hp), k ≤ 14 → 14 - k < q → fx72 h h' → (∀ i, i < k → t.testBit i = true → h' 72 i = gn A h i) → ∃ h1, L_X9_reckonGains_2 N q (k : Int) h' = some h1 ∧ fx72 h h1 ∧ ∀ i, i < 14 → t.testBit i = true → h1 72 i = gn A h i
  | 0, k, _, _, hq, _, _ => absurd hq (by omega)
  | q + 1, k, h', hk, hq, F, G => by
    unfold L_X9_reckonGains_2 J_X9_reckonGains_47
    simp only [bnd_s]
    by_cases c : k = 14
    · subst c
      rw [if_pos (by omega)]
      exact ⟨h', rfl, F, G⟩
    · have hk14 : k < 14 := by omega
      have bx : ∀ {h' : Hp}, fx72 h h' → bX h h' := fun F => (show bX h h from ⟨⟨fun _ _ _ => rfl, rfl⟩, fun _ _ => rfl, fun _ => rfl⟩).of (fun c j z => F c j (by omega))
      rw [if_neg (by omega), s_isTold ht (by rw [F 1 4 (by omega)]; exact e14), bd_s, inc (by omega)]
      by_cases z : isT t (k : Int)
      · obtain ⟨h1, a1, a2⟩ := x_wb (N := N) hN L (h 3 k) hk14 (bx F) (F 5 k (by omega))
        have F1 : fx72 h h1 := fun c j y => by rw [a2 c j (by omega) (by omega) (by omega)]; exact F c j y
        obtain ⟨h2, b1, b2⟩ := x_wb (N := N) hN L 0 hk14 (bx F1) (F1 5 k (by omega))
        have F2 : fx72 h h2 := fun c j y => by rw [b2 c j (by omega) (by omega) (by omega)]; exact F1 c j y
        have gb := gn_b L k
        rw [if_pos z, if_neg (by decide), s_lamps hk14, bd_s, F 3 k (by omega), a1, bd_s, b1, bd_s, grd_t ⟨by omega, by omega⟩, Int.toNat_natCast, show sm (Ww A h (h 3 k) k) 10 - sm (Ww A h 0 k) 10 = gn A h k from rfl, w32_id ⟨by omega, by omega⟩]
        exact l_rg hN ht L e14 q (k + 1) (hw h2 72 k (gn A h k)) (by omega) (by omega) (fun c j y => by rw [hw_ne (by omega)]; exact F2 c j y) (fun i h1' h2' => by
          by_cases y : i = k
          · subst y; rw [hw_eq]
          · rw [hw_ne (by omega), b2 72 i (by omega) (by omega) (by omega), a2 72 i (by omega) (by omega) (by omega)]; exact G i (by omega) h2')
      · rw [if_neg z, if_pos rfl]
        exact l_rg hN ht L e14 q (k + 1) h' (by omega) (by omega) F (fun i h1' h2' => by
          by_cases y : i = k
          · subst y; exact absurd ((isT_n hk14).mpr h2') z
          · exact G i (by omega) h2')
theorem l_bg {d : Nat} {f : Nat → Int} (hd : d < 2 ^ 14) (ht : t < 16384) (e14 : h 1 4 = (t : Int)) (h72 : ∀ i, i < 14 → t.testBit i = true → h 72 i = f i) (ex : ∃ x, x < 14 ∧ t.testBit x = true ∧ ¬ d.testBit x = true) : ∀ (q k : Nat) (x2 : Int), k ≤ 14 → 14 - k < q → ((x2 = -1 ∧ ∀ i, i < k → t.testBit i = true → d.testBit i = true) ∨ ∃ b : Nat, x2 = (b : Int) ∧ FB t d f k b) → ∃ b : Nat, L_X9_bestGainBeside_4 N q (d : Int) x2 (k : Int) h = some ((b : Int), h) ∧ FB t d f 14 b
  | 0, k, _, _, hq, _ => absurd hq (by omega)
  | q + 1, k, x2, hk, hq, S => by
    unfold L_X9_bestGainBeside_4 J_X9_bestGainBeside_50
    simp only [bnd_s]
    by_cases c : k = 14
    · subst c
      rw [if_pos (by omega)]
      rcases S with ⟨-, s2⟩ | ⟨b, s1, s2⟩
      · obtain ⟨x, x1, x2, x3⟩ := ex
        exact absurd (s2 x x1 x2) x3
      · refine ⟨b, ?_, s2⟩
        have : imax 0 x2 = (b : Int) := by unfold imax; split <;> omega
        rw [this]
    · have hk14 : k < 14 := by omega
      rw [if_neg (by omega), s_isTold ht e14, bd_s, inc (by omega)]
      have up : (t.testBit k = true → ¬ d.testBit k = true → ∃ b : Nat, x2 = (b : Int) ∧ FB t d f k b ∧ f k ≤ f b) → ((x2 = -1 ∧ ∀ i, i < k + 1 → t.testBit i = true → d.testBit i = true) ∨ ∃ b : Nat, x2 = (b : Int) ∧ FB t d f (k + 1) b) := by
        intro w
        rcases S with ⟨s1, s2⟩ | ⟨b, s1, s2⟩
        · refine Or.inl ⟨s1, fun i hi ti => ?_⟩
          by_cases y : i = k
          · subst y
            refine Decidable.byContradiction fun v => ?_
            obtain ⟨b, w1, -, -⟩ := w ti v
            omega
          · exact s2 i (by omega) ti
        · refine Or.inr ⟨b, s1, by have := s2.1; omega, s2.2.1, s2.2.2.1, fun i hi ti di => ?_⟩
          by_cases y : i = k
          · subst y
            obtain ⟨b', w1, w2, w3⟩ := w ti di
            obtain rfl : b = b' := by omega
            have := s2.1
            omega
          · exact s2.2.2.2 i (by omega) ti di
      have tk : t.testBit k = true → ¬ d.testBit k = true → (x2 = -1 ∨ ∃ b : Nat, x2 = (b : Int) ∧ f b < f k) → ∃ b : Nat, ((k : Nat) : Int) = (b : Int) ∧ FB t d f (k + 1) b := by
        intro w1 w2 w3
        refine ⟨k, rfl, by omega, w1, w2, fun i hi ti di => ?_⟩
        by_cases y : i = k
        · subst y; exact Or.inr ⟨rfl, Nat.le_refl _⟩
        · rcases S with ⟨s1, s2⟩ | ⟨b, s1, s2⟩
          · exact absurd (s2 i (by omega) ti) di
          · have s3 := s2.2.2.2 i (by omega) ti di
            rcases w3 with w3 | ⟨b', w3, w4⟩
            · omega
            · obtain rfl : b = b' := by omega
              left
              omega
      by_cases z : isT t (k : Int)
      · have tb := (isT_n hk14).mp z
        rw [if_pos z, if_neg (by decide), s_hasBit (by omega) ⟨by omega, by omega⟩, bd_s, Int.toNat_natCast]
        by_cases y : d.testBit k = true
        · rw [if_neg (by rw [btN_1.mpr y]; decide)]
          exact l_bg hd ht e14 h72 ex q (k + 1) x2 (by omega) (by omega) (up (fun _ w => absurd y w))
        · rw [if_pos (btN_0 y)]
          rcases id S with ⟨s1, -⟩ | ⟨b, s1, s2⟩
          · rw [if_pos (by omega)]
            exact l_bg hd ht e14 h72 ex q (k + 1) _ (by omega) (by omega) (Or.inr (tk tb y (Or.inl s1)))
          · have b1 := s2.1
            rw [if_neg (by omega), grd_t ⟨by omega, by omega⟩, grd_t ⟨by omega, by omega⟩, s1, Int.toNat_natCast, h72 k hk14 tb, h72 b (by omega) s2.2.1]
            by_cases w : f k ≤ f b
            · rw [if_pos w, ← s1]
              exact l_bg hd ht e14 h72 ex q (k + 1) _ (by omega) (by omega) (up (fun _ _ => ⟨b, s1, s2, w⟩))
            · rw [if_neg w]
              exact l_bg hd ht e14 h72 ex q (k + 1) _ (by omega) (by omega) (Or.inr (tk tb y (Or.inr ⟨b, s1, by omega⟩)))
      · rw [if_neg z, if_pos rfl]
        exact l_bg hd ht e14 h72 ex q (k + 1) x2 (by omega) (by omega) (up (fun w => absurd ((isT_n hk14).mpr w) z))
theorem gs_b {f : Nat → Int} (hf : ∀ i, -9990 ≤ f i ∧ f i ≤ 9990) (s : Nat) : ∀ k : Nat, -(9990 * k) ≤ sm (bF f s) k ∧ sm (bF f s) k ≤ 9990 * k
  | 0 => by simp [sm]
  | k + 1 => by
    have := gs_b hf s k
    have := hf k
    have e : bF f s k = if s.testBit k = true then f k else 0 := rfl
    simp only [sm]
    rw [e]
    split <;> omega
theorem l_go {f : Nat → Int} (hN : 1000000 ≤ N) (hf : ∀ i, -9990 ≤ f i ∧ f i ≤ 9990) (ht : t < 16384) (e14 : h 1 4 = (t : Int)) (h72 : ∀ i, i < 14 → t.testBit i = true → h 72 i = f i) {m : Nat} (hm : m ≤ 5 ∧ m ≤ cn t) (w : Int) : ∀ (r q k d : Nat), k + r = m → r < q → GD t f k d → ∃ d', GD t f m d' ∧ L_X11_out_53 N q (m : Int) w (d : Int) (gs f d) (k : Int) h = some (if w = 0 then gs f d' else (d' : Int), h)
  | _, 0, _, _, _, hq, _ => absurd hq (by omega)
  | 0, q + 1, k, d, hk, _, G => by
    obtain rfl : k = m := by omega
    unfold L_X11_out_53
    refine ⟨d, G, ?_⟩
    rw [if_pos (by omega)]
    by_cases z : w = 0
    · rw [if_pos z, if_pos z]
    · rw [if_neg z, if_neg z]
  | r + 1, q + 1, k, d, hk, hq, G => by
    have d14 := G.1.1
    have ex := more (s := t) (d := d) (by have := G.1.2.2; omega)
    obtain ⟨b, b1, b2⟩ := l_bg (N := N) (f := f) d14 ht e14 h72 ex N 0 (-1) (by omega) (by omega) (Or.inl ⟨rfl, fun i hi => absurd hi (by omega)⟩)
    have b1 : F_X9_bestGainBeside N (d : Int) h = some ((b : Int), h) := b1
    obtain ⟨g1, g2⟩ := GD_s G b2
    have bl := b2.1
    have p14 : 2 ^ b < 2 ^ 14 := pow_lt2 bl
    have s1 := gs_b hf d 14
    have s2 := hf b
    have s1 : -(9990 * 14) ≤ gs f d ∧ gs f d ≤ 9990 * 14 := s1
    unfold L_X11_out_53 F_X9_gainOf
    rw [if_neg (by omega), b1, bd_s, bnd_s, s_isWithin, bd_s, if_pos (show 0 ≤ (b : Int) ∧ (b : Int) ≤ 13 from ⟨by omega, by omega⟩), if_neg (by decide), grd_t ⟨by omega, by omega⟩, bd_s, Int.toNat_natCast, h72 b bl b2.2.1, bnd_s, bnd_s, ishl_1 (by omega), ior_nat (by omega) (by omega), inc (by omega), w32_id ⟨by omega, by omega⟩, ← g2]
    exact l_go hN hf ht e14 h72 hm w r q (k + 1) (d ||| 2 ^ b) (by omega) (by omega) g1
/-- the reference -/
theorem m_sp (hN : 1000000 ≤ N) (L : LawOK N h A) {i : Nat} (hi : i < 14) (hh : ∀ j, j < 14 → h 87 j = h 2 j ∧ h 88 j = h 3 j ∧ h 89 j = h 4 j) : ∀ (q k : Nat) (h' : Hp), k ≤ 10 → 10 - k < q → bM h h' → h' 84 i = h 5 i → h' 84 14 = h 1 5 → ∃ h1, L_X12_spared_4 N q (i : Int) (sm (fun r => Ww A h (h 3 i) i r - Ww A h 0 i r) k) (k : Int) h' = some (sm (fun r => Ww A h (h 3 i) i r - Ww A h 0 i r) 10, h1) ∧ lwm h' h1
  | 0, k, _, _, hq, _, _, _ => absurd hq (by omega)
  | q + 1, k, h', hk, hq, H, f1, f2 => by
    unfold L_X12_spared_4
    by_cases c : k = 10
    · subst c
      rw [if_pos (by omega)]
      exact ⟨h', rfl, fun _ _ _ _ => rfl⟩
    · have bs : ∀ k : Nat, -(999 * (k : Int)) ≤ sm (fun r => Ww A h (h 3 i) i r - Ww A h 0 i r) k ∧ sm (fun r => Ww A h (h 3 i) i r - Ww A h 0 i r) k ≤ 999 * k := fun k => by
        have b1 := sm_b2 (f := Ww A h (h 3 i) i) (Ww_b L (h 3 i) i) k
        have b2 := sm_b2 (f := Ww A h 0 i) (Ww_b L 0 i) k
        rw [sm_sub]
        omega
      have bk := bs k
      have w1 := Ww_b L (h 3 i) i k
      have w2 := Ww_b L 0 i k
      obtain ⟨g1, a1, a2⟩ := m_byStreet L hi H (k : Int) hh (l := 119) (Or.inl rfl)
      rw [f1, f2] at a1
      have a1 : F_X12_byStreet N 119 (i : Int) (k : Int) h' = some (Ww A h (h 3 i) i k, g1) := a1
      obtain ⟨g2, b1, b2, b3⟩ := m_feels (N := N) hi (H.lw a2) (k : Int) 0 hh
      rw [a2 84 i (by omega) (by omega), f1, a2 84 14 (by omega) (by omega), f2] at b2
      obtain ⟨g3, eg3⟩ : ∃ g3, g3 = hw g2 109 2 0 := ⟨_, rfl⟩
      obtain ⟨g4, c1, c2⟩ := L.2.2.2 g3 119 ((H.lw a2).of (fun c j z => by rw [eg3, hw_ne (by omega), b3 c j (by omega)]) : bM h g3).1 (Or.inl rfl)
      have eA : A 119 (g3 109) = Ww A h 0 i k := L.2.1 119 _ _ (fun j hj => by
        rw [eg3]
        by_cases z : j = 2
        · subst z; rw [hw_eq]; rfl
        · rw [hw_ne (by omega), b2 j hj]
          rcases (show j = 0 ∨ j = 1 ∨ j = 3 ∨ j = 4 ∨ j = 5 ∨ j = 6 ∨ j = 7 by omega) with rfl | rfl | rfl | rfl | rfl | rfl | rfl <;> rfl)
      have c1 : F_X12_byLaw N 119 999 g3 = some (A 119 (g3 109), g4) := c1
      have fr : lwm h' g4 := fun c j z1 z2 => by rw [c2 c j z1, eg3, hw_ne (by omega), b3 c j z2, a2 c j z1 z2]
      rw [if_neg (by omega), a1, bd_s, w32_id (x := _ + Ww A h (h 3 i) i k) ⟨by omega, by omega⟩, bnd_s, b1, bv_s, bnd_s, t2, ← eg3, c1, bd_s, eA, w32_id ⟨by omega, by omega⟩, bnd_s, bnd_s, inc (by omega)]
      obtain ⟨h1, d1, d2⟩ := m_sp hN L hi hh q (k + 1) g4 (by omega) (by omega) (H.lw fr) (by rw [fr 84 i (by omega) (by omega)]; exact f1) (by rw [fr 84 14 (by omega) (by omega)]; exact f2)
      refine ⟨h1, ?_, lwm.tr fr d2⟩
      rw [← d1]
      have e1 : sm (fun r => Ww A h (h 3 i) i r - Ww A h 0 i r) (k + 1) = sm (fun r => Ww A h (h 3 i) i r - Ww A h 0 i r) k + (Ww A h (h 3 i) i k - Ww A h 0 i k) := rfl
      rw [e1, show sm (fun r => Ww A h (h 3 i) i r - Ww A h 0 i r) k + Ww A h (h 3 i) i k - Ww A h 0 i k = sm (fun r => Ww A h (h 3 i) i r - Ww A h 0 i r) k + (Ww A h (h 3 i) i k - Ww A h 0 i k) by omega]
def fx122 (g h : Hp) : Prop := ∀ c j, ¬ (c = 122 ∨ c = 108 ∨ c = 109) → h c j = g c j
theorem l_m33 (hN : 1000000 ≤ N) (ht : t < 16384) (L : LawOK N h A) (hh : ∀ j, j < 14 → h 87 j = h 2 j ∧ h 88 j = h 3 j ∧ h 89 j = h 4 j) (G : bM h g) (e12 : g 83 12 = (t : Int)) (h84 : ∀ i, i < 14 → g 84 i = h 5 i) (h14 : g 84 14 = h 1 5) (m w : Int) : ∀ (q k : Nat) (h' : Hp), k ≤ 14 → 14 - k < q → fx122 g h' → (∀ i, i < k → h' 122 i = if t.testBit i = true then gn A h i else 0) → ∃ h1, L_X12_out_33 N q m w (k : Int) h' = L_X12_out_76 N N m w (-1) 0 0 h1 ∧ fx122 g h1 ∧ ∀ i, i < 14 → h1 122 i = if t.testBit i = true then gn A h i else 0
  | 0, k, _, _, hq, _, _ => absurd hq (by omega)
  | q + 1, k, h', hk, hq, F, Z => by
    unfold L_X12_out_33 J_X12_out_61
    simp only [bnd_s]
    by_cases c : k = 14
    · subst c
      rw [if_pos (by omega)]
      exact ⟨h', rfl, F, Z⟩
    · have hk14 : k < 14 := by omega
      have g14 : 0 ≤ (k : Int) ∧ (k : Int) < 14 := ⟨by omega, by omega⟩
      simp only [grd_t g14, Int.toNat_natCast]
      rw [if_neg (by omega), s_isStreet ht (by rw [F 83 12 (by omega)]; exact e12), bd_s, inc (by omega)]
      by_cases z : isT t (k : Int)
      · have tb := (isT_n hk14).mp z
        obtain ⟨h1, a1, a2⟩ := m_sp (N := N) hN L hk14 hh N 0 h' (by omega) (by omega) (G.of (fun c j y => F c j (by omega))) (by rw [F 84 k (by omega)]; exact h84 k hk14) (by rw [F 84 14 (by omega)]; exact h14)
        rw [sm_sub (Ww A h (h 3 k) k) (Ww A h 0 k) 10] at a1
        have a1 : F_X12_spared N (k : Int) h' = some (gn A h k, h1) := a1
        rw [if_pos z, if_neg (by decide), a1, bd_s]
        exact l_m33 hN ht L hh G e12 h84 h14 m w q (k + 1) (hw h1 122 k (gn A h k)) (by omega) (by omega) (fun c j y => by rw [hw_ne (by omega), a2 c j (by omega) (by omega)]; exact F c j y) (fun i hi => by
          by_cases y : i = k
          · subst y; rw [hw_eq, if_pos tb]
          · rw [hw_ne (by omega), a2 122 i (by omega) (by omega)]; exact Z i (by omega))
      · have tb : ¬ t.testBit k = true := fun y => z ((isT_n hk14).mpr y)
        rw [if_neg z, if_pos rfl]
        exact l_m33 hN ht L hh G e12 h84 h14 m w q (k + 1) (hw h' 122 k 0) (by omega) (by omega) (fun c j y => by rw [hw_ne (by omega)]; exact F c j y) (fun i hi => by
          by_cases y : i = k
          · subst y; rw [hw_eq, if_neg tb]
          · rw [hw_ne (by omega)]; exact Z i (by omega))
theorem l_m114 {f : Nat → Int} (hf : ∀ i, -9990 ≤ f i ∧ f i ≤ 9990) {s : Nat} (hs : s < 16384) (h122 : ∀ i, i < 14 → h 122 i = f i) (K : Int → Int → Int → Int → Int → Int → Hp → Option (Int × Hp)) (x1 x2 x3 x4 : Int) : ∀ q k : Nat, k ≤ 14 → 14 - k < q → L_X12_out_114 N K q x1 x2 x3 x4 (s : Int) (sm (bF f s) k) (k : Int) h = K x1 x2 x3 x4 (s : Int) (gs f s) h
  | 0, k, _, hq => absurd hq (by omega)
  | q + 1, k, hk, hq => by
    unfold L_X12_out_114 J_X12_out_144
    simp only [bnd_s]
    by_cases c : k = 14
    · subst c; rw [if_pos (by omega)]; rfl
    · have ih := l_m114 hf hs h122 K x1 x2 x3 x4 q (k + 1) (by omega) (by omega)
      have b := gs_b hf s k
      have bk := hf k
      have e1 : sm (bF f s) (k + 1) = sm (bF f s) k + bF f s k := rfl
      rw [e1] at ih
      rw [if_neg (by omega), s_has (by omega) ⟨by omega, by omega⟩, bd_s, Int.toNat_natCast, inc (by omega)]
      by_cases z : s.testBit k = true
      · rw [show bF f s k = f k by unfold bF; rw [if_pos z]] at ih
        rw [if_neg (by rw [btN_1.mpr z]; decide), grd_t ⟨by omega, by omega⟩, h122 k (by omega), w32_id ⟨by omega, by omega⟩]
        exact ih
      · rw [show bF f s k = 0 by unfold bF; rw [if_neg z]] at ih
        rw [if_pos (btN_0 z), w32_id ⟨by omega, by omega⟩]
        exact ih
theorem l_m76 {f : Nat → Int} (hN : 1000000 ≤ N) (hf : ∀ i, -9990 ≤ f i ∧ f i ≤ 9990) (ht : t < 16384) (e12 : h 83 12 = (t : Int)) (h122 : ∀ i, i < 14 → h 122 i = f i) {m d : Nat} (G : GD t f m d) (w : Int) : ∀ (r q c : Nat) (x3 x4 : Int), c + r = 16384 → r < q → (((∀ s, s < c → ¬ Vs t m s) ∧ x3 = -1) ∨ ∃ b : Nat, x3 = (b : Int) ∧ x4 = gs f b ∧ Bst (Vs t m) (fun s => - gs f s) c b) → L_X12_out_76 N q (m : Int) w x3 x4 (c : Int) h = some (if w = 0 then gs f d else (d : Int), h)
  | _, 0, _, _, _, _, hq, _ => absurd hq (by omega)
  | r, q + 1, c, x3, x4, hc, hq, S => by
    unfold L_X12_out_76 J_X12_out_168 J_X12_out_175
    simp only [bnd_s]
    cases r with
    | zero =>
      obtain rfl : c = 16384 := by omega
      rw [if_pos (by omega)]
      rcases S with ⟨s1, -⟩ | ⟨b, s1, s2, s3⟩
      · exact absurd G.1 (s1 d G.1.1)
      · have a1 : - gs f b < - gs f d ∨ (- gs f b = - gs f d ∧ b ≤ d) := s3.2.2 d G.1.1 G.1
        have a2 := G.2 b s3.2.1
        obtain rfl : b = d := by omega
        rw [s1, s2]
        by_cases z : w = 0
        · rw [if_pos z, if_pos z]
        · rw [if_neg z, if_neg z]
    | succ r =>
      have rec1 := fun x3 x4 => l_m76 hN hf ht e12 h122 G w r q (c + 1) x3 x4 (by omega) (by omega)
      have skip : (Vs t m c → ∃ b : Nat, x3 = (b : Int) ∧ gs f c ≤ gs f b) → (((∀ s, s < c + 1 → ¬ Vs t m s) ∧ x3 = -1) ∨ ∃ b : Nat, x3 = (b : Int) ∧ x4 = gs f b ∧ Bst (Vs t m) (fun s => - gs f s) (c + 1) b) := by
        intro z
        rcases S with ⟨s1, s2⟩ | ⟨b, s1, s2, s3⟩
        · refine Or.inl ⟨fun s hs v => ?_, s2⟩
          by_cases y : s = c
          · subst y
            obtain ⟨b, z1, -⟩ := z v
            omega
          · exact s1 s (by omega) v
        · refine Or.inr ⟨b, s1, s2, Bst_skip s3 (by omega) (fun s a1 a2 v => ?_)⟩
          obtain rfl : s = c := by omega
          obtain ⟨b', z1, z2⟩ := z v
          obtain rfl : b = b' := by omega
          show - gs f b ≤ - gs f s
          omega
      rw [if_neg (by omega), e12, inc (by omega)]
      by_cases y : iand (c : Int) (ixor (t : Int) (-1)) = 0
      · obtain ⟨u, u1, u2, u3⟩ := (sub_iff ⟨by omega, by omega⟩ ht).mp y
        obtain rfl : c = u := by omega
        rw [if_pos y, s_bits hN u2, bd_s]
        by_cases x : ((cn c : Nat) : Int) = (m : Int)
        · have v : Vs t m c := ⟨u2, u3, by omega⟩
          have e114 := l_m114 (N := N) hf u2 h122 (fun (v3 : Int) (v4 : Int) (v5 : Int) (v6 : Int) (v7 : Int) (v8 : Int) (h9 : Hp) => if v5 = (-1) then (L_X12_out_76 N q) v3 v4 v7 v8 (w32 (v7 + 1)) h9 else if v6 < v8 then (L_X12_out_76 N q) v3 v4 v7 v8 (w32 (v7 + 1)) h9 else (L_X12_out_76 N q) v3 v4 v5 v6 (w32 (v7 + 1)) h9) (m : Int) w x3 x4 N 0 (by omega) (by omega)
          have take : (x3 = -1 ∨ x4 < gs f c) → (((∀ s, s < c + 1 → ¬ Vs t m s) ∧ ((c : Nat) : Int) = -1) ∨ ∃ b : Nat, ((c : Nat) : Int) = (b : Int) ∧ gs f c = gs f b ∧ Bst (Vs t m) (fun s => - gs f s) (c + 1) b) := by
            intro z
            refine Or.inr ⟨c, rfl, rfl, by omega, v, fun s h1 h2 => ?_⟩
            by_cases k : s = c
            · subst k; exact Or.inr ⟨rfl, Nat.le_refl _⟩
            · rcases S with ⟨s1, -⟩ | ⟨b, s1, s2, s3⟩
              · exact absurd h2 (s1 s (by omega))
              · have : - gs f b < - gs f s ∨ (- gs f b = - gs f s ∧ b ≤ s) := s3.2.2 s (by omega) h2
                left
                show - gs f c < - gs f s
                have z2 : x4 < gs f c := z.resolve_left (by omega)
                omega
          rw [if_pos x]
          refine Eq.trans e114 ?_
          rw [inc (by omega)]
          by_cases z : x3 = -1
          · rw [if_pos z]
            exact rec1 _ _ (take (Or.inl z))
          · rw [if_neg z]
            by_cases k : x4 < gs f c
            · rw [if_pos k]
              exact rec1 _ _ (take (Or.inr k))
            · rw [if_neg k]
              refine rec1 _ _ (skip (fun _ => ?_))
              rcases S with ⟨-, s2⟩ | ⟨b, s1, s2, s3⟩
              · exact absurd s2 z
              · exact ⟨b, s1, by omega⟩
        · rw [if_neg x]
          exact rec1 _ _ (skip (fun v => absurd (by rw [v.2.2]) x))
      · rw [if_neg y]
        exact rec1 _ _ (skip (fun v => absurd ((sub_iff ⟨by omega, by omega⟩ ht).mpr ⟨c, rfl, v.1, v.2.1⟩) y))
end OU
theorem op_out {N : Nat} (hN : 1000000 ≤ N) : ∀ a1 : Int, inR a1 → ∀ a2 : Int, inR a2 → Sm (Inv N) (F_X11_out N a1 a2) (F_X12_out N a1 a2) := by
  intro k _ w _ h hok hI
  obtain ⟨t, i1, i2, i3, i4, i5, i6, i7, i8, ⟨i9, A, L⟩, i10⟩ := id hI
  have ht := i1.1
  unfold F_X11_out F_X12_out F_X1_toldStreets
  rw [s_isWithin, bd_s]
  by_cases q1 : 1 ≤ k ∧ k ≤ 5
  rotate_left
  · exact ⟨-1, h, h, by rw [if_neg q1, if_pos rfl], by rw [s_in, bd_s, if_neg q1, if_pos rfl], hI⟩
  obtain ⟨m, rfl⟩ : ∃ n : Nat, k = (n : Int) := ⟨k.toNat, by omega⟩
  rw [if_pos q1, if_neg (by decide), bd_s, i1.2.1, s_bitCount ht, bd_s]
  by_cases q2 : ((cn t : Nat) : Int) < (m : Int)
  · exact ⟨-1, h, h, by rw [if_pos q2], by rw [s_in, bd_s, if_pos q1, if_neg (by decide), i1.2.2, s_bits hN ht, bd_s, if_pos q2], hI⟩
  rw [if_neg q2, s_isWithin, bd_s]
  by_cases q3 : 0 ≤ w ∧ w ≤ 1
  rotate_left
  · exact ⟨-1, h, h, by rw [if_neg q3, if_pos rfl], by rw [s_in, bd_s, if_pos q1, if_neg (by decide), i1.2.2, s_bits hN ht, bd_s, if_neg q2, s_in, bd_s, if_neg q3, if_pos rfl], hI⟩
  rw [if_pos q3, if_neg (by decide)]
  obtain ⟨f, ef⟩ : ∃ f : Nat → Int, f = fun i => if t.testBit i = true then gn A h i else 0 := ⟨_, rfl⟩
  have hf : ∀ i, -9990 ≤ f i ∧ f i ≤ 9990 := fun i => by
    have := gn_b L i
    rw [ef]
    by_cases z : t.testBit i = true
    · simp only [if_pos z]; omega
    · simp only [if_neg z]; omega
  obtain ⟨h1, a1, a2, a3⟩ := l_rg (N := N) (t := t) hN ht L i1.2.1 N 0 h (by omega) (by omega) (fun _ _ _ => rfl) (fun i hi => absurd hi (by omega))
  have a1 : F_X9_reckonGains N h = some h1 := a1
  obtain ⟨d, b1, b2⟩ := l_go (N := N) (f := f) (h := h1) (m := m) hN hf ht (by rw [a2 1 4 (by omega)]; exact i1.2.1) (fun i hi ti => by rw [a3 i hi ti, ef]; simp only [if_pos ti]) ⟨by omega, by omega⟩ w m N 0 0 (by omega) (by omega) GD_0
  have g0 : gs f 0 = 0 := by
    have : ∀ k, sm (bF f 0) k = 0 := by
      intro k
      induction k with
      | zero => rfl
      | succ k ih =>
        have e : bF f 0 k = 0 := by unfold bF; rw [if_neg (by simp)]
        simp only [sm]
        rw [ih, e]; rfl
    exact this 14
  rw [g0] at b2
  have b2 : L_X11_out_53 N N (m : Int) w 0 0 0 h1 = some (if w = 0 then gs f d else (d : Int), h1) := b2
  have bm : bM h h1 := (show bM h h from ⟨⟨fun _ _ _ => rfl, rfl⟩, fun _ _ => rfl⟩).of (fun c j z => a2 c j (by omega))
  have hh : ∀ j, j < 14 → h 87 j = h 2 j ∧ h 88 j = h 3 j ∧ h 89 j = h 4 j := fun j hj => ⟨(i2 j hj).1.1, (i2 j hj).2.1.1, (i2 j hj).2.2.1⟩
  have e12 : h1 83 12 = (t : Int) := by rw [a2 83 12 (by omega)]; exact i1.2.2
  obtain ⟨h2, c1, c2, c3⟩ := l_m33 (N := N) (g := h1) hN ht L hh bm e12 (fun i hi => by rw [a2 84 i (by omega)]; exact (i3 i hi).1) (by rw [a2 84 14 (by omega)]; exact i4.1) (m : Int) w N 0 h1 (by omega) (by omega) (fun _ _ _ => rfl) (fun i hi => absurd hi (by omega))
  have c1 : L_X12_out_33 N N (m : Int) w 0 h1 = L_X12_out_76 N N (m : Int) w (-1) 0 0 h2 := c1
  have d1 := l_m76 (N := N) (f := f) (h := h2) hN hf ht (by rw [c2 83 12 (by omega)]; exact e12) (fun i hi => by rw [c3 i hi, ef]) b1 w 16384 N 0 (-1) 0 (by omega) (by omega) (Or.inl ⟨fun s hs => absurd hs (by omega), rfl⟩)
  have d1 : L_X12_out_76 N N (m : Int) w (-1) 0 0 h2 = some (if w = 0 then gs f d else (d : Int), h2) := d1
  refine ⟨if w = 0 then gs f d else (d : Int), h1, h2, by rw [a1, bv_s, b2], ?_, hI.ag (fun c j z => by unfold scr at z; rw [c2 c j (by omega), a2 c j (by omega)])⟩
  rw [s_in, bd_s, if_pos q1, if_neg (by decide), e12, s_bits hN ht, bd_s, if_neg q2, s_in, bd_s, if_pos q3, if_neg (by decide), c1, d1]
