/-! SHARE -/
/-- what a level needs -/
def ndf (D : Nat → Int) (l : Int) (p : Nat) : Int := imax 0 (l - D p)
def need (D : Nat → Int) (n : Nat) (l : Int) : Int := sm (ndf D l) n
section SH
variable {N n : Nat} {D : Nat → Int} {y : Int} {h g : Hp}
theorem ndf_b (hD : ∀ p, p < n → 0 ≤ D p ∧ D p ≤ 999) {l : Int} (hl : 0 ≤ l ∧ l ≤ 1000) {p : Nat} (hp : p < n) : 0 ≤ ndf D l p ∧ ndf D l p ≤ 1000 := by
  have := hD p hp
  unfold ndf imax
  split <;> omega
theorem nd_sm (hD : ∀ p, p < n → 0 ≤ D p ∧ D p ≤ 999) {l : Int} (hl : 0 ≤ l ∧ l ≤ 1000) {k : Nat} (hk : k ≤ n) : 0 ≤ sm (ndf D l) k ∧ sm (ndf D l) k ≤ 100000 * k := sm_b (M := n) (fun p hp => ⟨(ndf_b hD hl hp).1, by have := (ndf_b hD hl hp).2; omega⟩) k hk
theorem need_mono {l l' : Int} (hl : l ≤ l') : ∀ n, need D n l ≤ need D n l'
  | 0 => Int.le_refl _
  | n + 1 => by
    have ih := need_mono hl n
    have : ndf D l n ≤ ndf D l' n := by unfold ndf imax; split <;> split <;> omega
    unfold need at ih ⊢
    simp only [sm]
    omega
def SHX (n : Nat) (D : Nat → Int) (h : Hp) : Prop := h 69 4 = (n : Int) ∧ ∀ p, p < n → ∃ s : Nat, s < 14 ∧ h 70 p = (s : Int) ∧ h 5 s = D p
def SHM (n : Nat) (D : Nat → Int) (h : Hp) : Prop := ∀ p, p < n → ∃ s : Nat, s < 14 ∧ h 118 p = (s : Int) ∧ h 84 s = D p
theorem l_needX (hn : n ≤ 8) (hD : ∀ p, p < n → 0 ≤ D p ∧ D p ≤ 999) (H : SHX n D h) {l : Int} (hl : 0 ≤ l ∧ l ≤ 1000) : ∀ f k : Nat, k ≤ n → n - k < f → L_X9_neededFor_4 N f l (sm (ndf D l) k) (k : Int) h = some (need D n l, h)
  | 0, k, _, hf => absurd hf (by omega)
  | f + 1, k, hk, hf => by
    unfold L_X9_neededFor_4
    rw [H.1]
    by_cases c : k = n
    · subst c; rw [if_pos (by omega)]; rfl
    · obtain ⟨s, hs, e1, e2⟩ := H.2 k (by omega)
      have d := hD k (by omega)
      have b1 := ndf_b hD hl (show k < n by omega)
      have b2 := nd_sm hD hl hk
      rw [if_neg (by omega), grd_t ⟨by omega, by omega⟩, Int.toNat_natCast, e1, s_depthOf hs, bd_s, e2, w32_id (x := l - D k) ⟨by omega, by omega⟩, bnd_s, bnd_s, show imax 0 (l - D k) = ndf D l k from rfl, w32_id ⟨by omega, by omega⟩, inc (by omega)]
      exact l_needX hn hD H hl f (k + 1) (by omega) (by omega)
theorem s_needX (hN : 1000000 ≤ N) (hn : n ≤ 8) (hD : ∀ p, p < n → 0 ≤ D p ∧ D p ≤ 999) (H : SHX n D h) {l : Int} (hl : 0 ≤ l ∧ l ≤ 1000) : F_X9_neededFor N l h = some (need D n l, h) := l_needX hn hD H hl N 0 (by omega) (by omega)
theorem l_needM (hn : n ≤ 8) (hD : ∀ p, p < n → 0 ≤ D p ∧ D p ≤ 999) (H : SHM n D h) {l : Int} (hl : 0 ≤ l ∧ l ≤ 1000) : ∀ f k : Nat, k ≤ n → n - k < f → L_X12_needFor_5 N f (n : Int) l (sm (ndf D l) k) (k : Int) h = some (need D n l, h)
  | 0, k, _, hf => absurd hf (by omega)
  | f + 1, k, hk, hf => by
    unfold L_X12_needFor_5
    by_cases c : k = n
    · subst c; rw [if_pos (by omega)]; rfl
    · obtain ⟨s, hs, e1, e2⟩ := H k (by omega)
      have d := hD k (by omega)
      have b1 := ndf_b hD hl (show k < n by omega)
      have b2 := nd_sm hD hl hk
      rw [if_neg (by omega), grd_t ⟨by omega, by omega⟩, Int.toNat_natCast, e1, w14 ⟨by omega, by omega⟩, grd_t ⟨by omega, by omega⟩, Int.toNat_natCast, e2, w32_id (x := l - D k) ⟨by omega, by omega⟩, s_max, bd_s, bnd_s, bnd_s, show imax 0 (l - D k) = ndf D l k from rfl, w32_id ⟨by omega, by omega⟩, inc (by omega)]
      exact l_needM hn hD H hl f (k + 1) (by omega) (by omega)
theorem s_needM (hN : 1000000 ≤ N) (hn : n ≤ 8) (hD : ∀ p, p < n → 0 ≤ D p ∧ D p ≤ 999) (H : SHM n D h) {l : Int} (hl : 0 ≤ l ∧ l ≤ 1000) : F_X12_needFor N (n : Int) l h = some (need D n l, h) := l_needM hn hD H hl N 0 (by omega) (by omega)
def IsLv (n : Nat) (D : Nat → Int) (y l : Int) : Prop := 0 ≤ l ∧ l ≤ 999 ∧ need D n l ≤ y ∧ (l = 999 ∨ y < need D n (l + 1))
theorem l_gl (hN : 1000000 ≤ N) (hn : n ≤ 8) (hD : ∀ p, p < n → 0 ≤ D p ∧ D p ≤ 999) (H : SHX n D h) : ∀ k f : Nat, ∀ lo hi : Int, k ≤ 10 → k < f → 0 ≤ lo → lo ≤ hi → hi ≤ 999 → hi - lo < ((2 ^ k : Nat) : Int) → need D n lo ≤ y → (hi = 999 ∨ y < need D n (hi + 1)) → ∃ l, IsLv n D y l ∧ L_X9_greatestLevel_9 N f y lo hi (10 - (k : Int)) h = some (l, h)
  | _, 0, _, _, _, hf, _, _, _, _, _, _ => absurd hf (by omega)
  | 0, f + 1, lo, hi, _, _, a1, a2, a3, a4, a5, a6 => by
    unfold L_X9_greatestLevel_9
    rw [if_pos (by omega)]
    have : lo = hi := by simp at a4; omega
    subst this
    exact ⟨lo, ⟨a1, a3, a5, a6⟩, rfl⟩
  | k + 1, f + 1, lo, hi, hk, hf, a1, a2, a3, a4, a5, a6 => by
    unfold L_X9_greatestLevel_9 J_X9_greatestLevel_46
    have hp : (2 : Nat) ^ (k + 1) = 2 * 2 ^ k := Nat.pow_succ'
    obtain ⟨P, hP⟩ : ∃ P : Nat, P = 2 ^ k := ⟨_, rfl⟩
    rw [hp, ← hP] at a4
    rw [if_neg (by omega), w32_id (x := lo + hi) ⟨by omega, by omega⟩, w32_id (x := lo + hi + 1) ⟨by omega, by omega⟩, idiv_pos ⟨by omega, by omega⟩ ⟨by omega, by omega⟩, bnd_s, s_needX hN hn hD H ⟨by omega, by omega⟩, bd_s, bnd_s, w32_id (x := 10 - ((k + 1 : Nat) : Int) + 1) ⟨by omega, by omega⟩, show 10 - ((k + 1 : Nat) : Int) + 1 = 10 - (k : Int) by omega]
    by_cases q : y < need D n ((lo + hi + 1) / 2)
    · rw [if_pos q, w32_id ⟨by omega, by omega⟩, bnd_s]
      have hlo : lo < (lo + hi + 1) / 2 := by
        refine Int.lt_of_not_ge (fun z => ?_)
        have := need_mono (D := D) z n
        omega
      exact l_gl hN hn hD H k f lo _ (by omega) (by omega) a1 (by omega) (by omega) (by rw [← hP]; omega) a5 (Or.inr (by rw [show (lo + hi + 1) / 2 - 1 + 1 = (lo + hi + 1) / 2 by omega]; exact q))
    · rw [if_neg q]
      exact l_gl hN hn hD H k f _ hi (by omega) (by omega) (by omega) (by omega) a3 (by rw [← hP]; omega) (by omega) a6
theorem lv_u {l l' : Int} (h1 : IsLv n D y l) (h2 : IsLv n D y l') : l = l' := by
  obtain ⟨a1, a2, a3, a4⟩ := h1
  obtain ⟨b1, b2, b3, b4⟩ := h2
  rcases Int.lt_trichotomy l l' with z | z | z
  · have := need_mono (D := D) (show l + 1 ≤ l' by omega) n
    omega
  · exact z
  · have := need_mono (D := D) (show l' + 1 ≤ l by omega) n
    omega
theorem l_lvM (hN : 1000000 ≤ N) (hn : n ≤ 8) (hD : ∀ p, p < n → 0 ≤ D p ∧ D p ≤ 999) (H : SHM n D h) {l : Int} (hl : IsLv n D y l) (x3 x5 : Int) : ∀ d f k : Nat, (k : Int) + d = l → d < f → L_X12_share_125 N f y x3 (n : Int) x5 (k : Int) h = J_X12_share_156 N y x3 (n : Int) x5 l h
  | _, 0, _, _, hf => absurd hf (by omega)
  | 0, f + 1, k, e, _ => by
    have e : (k : Int) = l := by omega
    unfold L_X12_share_125
    obtain ⟨a1, a2, a3, a4⟩ := hl
    rw [e]
    by_cases q : 999 ≤ l
    · rw [if_pos q]
    · rw [if_neg q, w32_id ⟨by omega, by omega⟩, s_needM hN hn hD H ⟨by omega, by omega⟩, bd_s, if_pos (by omega)]
  | d + 1, f + 1, k, e, hf => by
    unfold L_X12_share_125
    obtain ⟨a1, a2, a3, a4⟩ := id hl
    have := need_mono (D := D) (show ((k : Int) + 1) ≤ l by omega) n
    rw [if_neg (by omega), w32_id ⟨by omega, by omega⟩, s_needM hN hn hD H ⟨by omega, by omega⟩, bd_s, if_neg (by omega), bnd_s, show (k : Int) + 1 = ((k + 1 : Nat) : Int) by omega]
    exact l_lvM hN hn hD H hl x3 x5 d f (k + 1) (by omega) (by omega)
/-- what is over, from the last street on -/
def slk (D : Nat → Int) (l : Int) (p : Nat) : Int := 999 - D p - ndf D l p
def ov (n : Nat) (D : Nat → Int) (l O : Int) : Nat → Int
  | 0 => O
  | j + 1 => ov n D l O j - imin (ov n D l O j) (slk D l (n - 1 - j))
def yT (n : Nat) (D : Nat → Int) (l O : Int) (j : Nat) : Int := ndf D l (n - 1 - j) + imin (ov n D l O j) (slk D l (n - 1 - j))
def cT (n : Nat) (D : Nat → Int) (j : Nat) : Int := 999 - D (n - 1 - j)
theorem sm_rev (f : Nat → Int) (n : Nat) : ∀ k, k ≤ n → sm (fun j => f (n - 1 - j)) k + sm f (n - k) = sm f n
  | 0, _ => by simp [sm]
  | k + 1, hk => by
    have ih := sm_rev f n k (by omega)
    rw [show n - k = (n - (k + 1)) + 1 by omega] at ih
    simp only [sm] at ih ⊢
    rw [show n - (k + 1) = n - 1 - k by omega] at ih ⊢
    omega
theorem ov_f (hD : ∀ p, p < n → 0 ≤ D p ∧ D p ≤ 999) {l O : Int} (hl : 0 ≤ l ∧ l ≤ 999) (hO : 0 ≤ O) : ∀ j, j ≤ n → 0 ≤ ov n D l O j ∧ ov n D l O j ≤ O ∧ sm (yT n D l O) j ≤ sm (cT n D) j ∧ (0 < ov n D l O j → sm (yT n D l O) j = sm (cT n D) j) ∧ sm (yT n D l O) j = sm (fun j => ndf D l (n - 1 - j)) j + O - ov n D l O j
  | 0, _ => ⟨hO, Int.le_refl _, Int.le_refl _, fun _ => rfl, by simp [sm, ov]⟩
  | j + 1, hj => by
    obtain ⟨a1, a2, a3, a4, a5⟩ := ov_f hD hl hO j (by omega)
    have d := hD (n - 1 - j) (by omega)
    have s0 : 0 ≤ slk D l (n - 1 - j) := by unfold slk ndf imax; split <;> omega
    have e1 : yT n D l O j = ndf D l (n - 1 - j) + imin (ov n D l O j) (slk D l (n - 1 - j)) := rfl
    have e2 : cT n D j = ndf D l (n - 1 - j) + slk D l (n - 1 - j) := by unfold cT slk; omega
    have e3 : ov n D l O (j + 1) = ov n D l O j - imin (ov n D l O j) (slk D l (n - 1 - j)) := rfl
    simp only [sm]
    rw [e1, e2, e3]
    have m1 := imin_le1 (ov n D l O j) (slk D l (n - 1 - j))
    have m2 := imin_le2 (ov n D l O j) (slk D l (n - 1 - j))
    have m3 := imin_or (ov n D l O j) (slk D l (n - 1 - j))
    refine ⟨by omega, by omega, by omega, fun z => ?_, by omega⟩
    have := a4 (by omega)
    omega
theorem l_spr (hn : n ≤ 8) (hD : ∀ p, p < n → 0 ≤ D p ∧ D p ≤ 999) {l O : Int} (hl : 0 ≤ l ∧ l ≤ 999) (hO : 0 ≤ O ∧ O ≤ 100000) : ∀ (r f : Nat) (h : Hp), r ≤ n → r < f → SHX n D h → h 69 5 = l → ∃ h', L_X9_spread_40 N f (ov n D l O (n - r)) ((r : Int) - 1) h = some (1, h') ∧ (∀ c i, ¬ c = 71 → h' c i = h c i) ∧ (∀ p, p < r → h' 71 p = yT n D l O (n - 1 - p)) ∧ ∀ p, r ≤ p → h' 71 p = h 71 p
  | _, 0, _, _, hf, _, _ => absurd hf (by omega)
  | 0, f + 1, h, _, _, _, _ => by
    refine ⟨h, ?_, fun _ _ _ => rfl, fun p hp => absurd hp (by omega), fun _ _ => rfl⟩
    unfold L_X9_spread_40
    rw [if_pos (by omega)]
  | r + 1, f + 1, h, hr, hf, H, h5 => by
    obtain ⟨s, hs, e1, e2⟩ := H.2 r (by omega)
    have d := hD r (by omega)
    have b := ndf_b hD (l := l) ⟨hl.1, by omega⟩ (show r < n by omega)
    obtain ⟨o1, o2, o3, o4, o5⟩ := ov_f hD hl hO.1 (n - (r + 1)) (by omega)
    have s0 : 0 ≤ slk D l r ∧ slk D l r ≤ 999 := by unfold slk ndf imax; split <;> omega
    have m1 := imin_le1 (ov n D l O (n - (r + 1))) (slk D l r)
    have m3 := imin_or (ov n D l O (n - (r + 1))) (slk D l r)
    have er : n - 1 - (n - (r + 1)) = r := by omega
    have ey : ndf D l r + imin (ov n D l O (n - (r + 1))) (slk D l r) = yT n D l O (n - 1 - r) := by
      unfold yT
      rw [show n - 1 - (n - 1 - r) = r by omega, show n - 1 - r = n - (r + 1) by omega]
    have eo : ov n D l O (n - (r + 1)) - imin (ov n D l O (n - (r + 1))) (slk D l r) = ov n D l O (n - r) := by
      rw [show n - r = (n - (r + 1)) + 1 by omega]
      show _ = ov n D l O (n - (r + 1)) - imin (ov n D l O (n - (r + 1))) (slk D l (n - 1 - (n - (r + 1))))
      rw [er]
    obtain ⟨h1, hh1⟩ : ∃ h1, h1 = hw h 71 r (yT n D l O (n - 1 - r)) := ⟨_, rfl⟩
    obtain ⟨h', a1, a2, a3, a4⟩ := l_spr hn hD hl hO r f h1 (by omega) (by omega) ⟨by rw [hh1, hw_ne (by omega)]; exact H.1, fun p hp => by
      obtain ⟨s, z1, z2, z3⟩ := H.2 p hp
      exact ⟨s, z1, by rw [hh1, hw_ne (by omega)]; exact z2, by rw [hh1, hw_ne (by omega)]; exact z3⟩⟩ (by rw [hh1, hw_ne (by omega)]; exact h5)
    refine ⟨h', ?_, fun c i z => by rw [a2 c i z, hh1, hw_ne (by omega)], fun p hp => ?_, fun p hp => by rw [a4 p (by omega), hh1, hw_ne (by omega)]⟩
    · unfold L_X9_spread_40
      rw [show ((r + 1 : Nat) : Int) - 1 = (r : Int) by omega, if_neg (by omega), grd_t ⟨by omega, by omega⟩, Int.toNat_natCast, e1, s_depthOf hs, bd_s, h5, e2, w32_id (x := l - D r) ⟨by omega, by omega⟩, show imax 0 (l - D r) = ndf D l r from rfl, bnd_s, w32_id (x := 999 - D r) ⟨by omega, by omega⟩, w32_id (x := 999 - D r - ndf D l r) ⟨by omega, by omega⟩, show 999 - D r - ndf D l r = slk D l r from rfl, bnd_s, grd_t ⟨by omega, by omega⟩, w32_id (x := ndf D l r + _) ⟨by omega, by omega⟩, ey, bnd_s, w32_id (x := ov n D l O (n - (r + 1)) - _) ⟨by omega, by omega⟩, eo, bnd_s, w32_id ⟨by omega, by omega⟩, bnd_s, ← hh1, show (r : Int) + -1 = (r : Int) - 1 by omega]
      exact a1
    · by_cases z : p = r
      · subst z; rw [a4 p (by omega), hh1, hw_eq]
      · exact a3 p (by omega)
theorem l_yfor (hn : n ≤ 8) (h4 : h 69 4 = (n : Int)) {p0 : Nat} (hp : p0 < n) {x : Int} (e : h 70 p0 = x) (hx : ∀ p, p < p0 → h 70 p ≠ x) : ∀ d f k : Nat, k + d = p0 → d < f → L_X9_yardsFor_2 N f x (k : Int) h = some (h 71 p0, h)
  | _, 0, _, _, hf => absurd hf (by omega)
  | 0, f + 1, k, ek, _ => by
    obtain rfl : k = p0 := by omega
    unfold L_X9_yardsFor_2
    rw [h4, if_neg (by omega), grd_t ⟨by omega, by omega⟩, Int.toNat_natCast, if_pos e, grd_t ⟨by omega, by omega⟩]
  | d + 1, f + 1, k, ek, hf => by
    unfold L_X9_yardsFor_2
    rw [h4, if_neg (by omega), grd_t ⟨by omega, by omega⟩, Int.toNat_natCast, if_neg (hx k (by omega)), bnd_s, inc (by omega)]
    exact l_yfor hn h4 hp e hx d f (k + 1) (by omega) (by omega)
theorem cT_b (hD : ∀ p, p < n → 0 ≤ D p ∧ D p ≤ 999) : ∀ j, j ≤ n → 0 ≤ sm (cT n D) j ∧ sm (cT n D) j ≤ 100000 * j := sm_b (M := n) (fun p hp => by
  have := hD (n - 1 - p) (by omega)
  unfold cT
  omega)
theorem l_gets (hn : n ≤ 8) (hD : ∀ p, p < n → 0 ≤ D p ∧ D p ≤ 999) (H : SHM n D h) {l O : Int} (hl : 0 ≤ l ∧ l ≤ 999) (hO : 0 ≤ O ∧ O ≤ 100000) {p0 : Nat} (hp : p0 < n) {x : Int} (e : h 118 p0 = x) (hx : ∀ p, p < p0 → h 118 p ≠ x) : ∀ d f k : Nat, k + d = p0 → d < f → L_X12_share_171 N f x (n : Int) (sm (cT n D) (n - k)) l (sm (yT n D l O) (n - k)) (k : Int) h = some (yT n D l O (n - 1 - p0), h)
  | _, 0, _, _, hf => absurd hf (by omega)
  | d, f + 1, k, ek, hf => by
    obtain ⟨s, hs, e1, e2⟩ := H k (by omega)
    have dk := hD k (by omega)
    have b := ndf_b hD (l := l) ⟨hl.1, by omega⟩ (show k < n by omega)
    obtain ⟨o1, o2, o3, o4, o5⟩ := ov_f hD hl hO.1 (n - (k + 1)) (by omega)
    obtain ⟨q1, q2, q3, q4, q5⟩ := ov_f hD hl hO.1 (n - k) (by omega)
    have c1 := cT_b hD (n - (k + 1)) (by omega)
    have c2 := cT_b hD (n - k) (by omega)
    have nb := fun j hj => sm_b (f := fun j => ndf D l (n - 1 - j)) (M := n) (fun p hp => by
      have := ndf_b hD (l := l) ⟨hl.1, by omega⟩ (show n - 1 - p < n by omega)
      omega) j hj
    have n1 := nb (n - (k + 1)) (by omega)
    have n2 := nb (n - k) (by omega)
    have ek1 : n - k = (n - (k + 1)) + 1 := by omega
    have ei : n - 1 - (n - (k + 1)) = k := by omega
    have ec : sm (cT n D) (n - k) = sm (cT n D) (n - (k + 1)) + (999 - D k) := by
      rw [ek1]; show sm (cT n D) (n - (k + 1)) + (999 - D (n - 1 - (n - (k + 1)))) = _; rw [ei]
    have ej : n - 1 - k = n - (k + 1) := by omega
    have ey : sm (yT n D l O) (n - k) = sm (yT n D l O) (n - (k + 1)) + yT n D l O (n - 1 - k) := by
      rw [ek1, ej]; rfl
    have yv : yT n D l O (n - 1 - k) = ndf D l k + imin (ov n D l O (n - (k + 1))) (slk D l k) := by
      rw [ej]; unfold yT; rw [ei]
    have s0 : 0 ≤ slk D l k ∧ slk D l k ≤ 999 := by unfold slk ndf imax; split <;> omega
    have m1 := imin_le1 (ov n D l O (n - (k + 1))) (slk D l k)
    have m3 := imin_or (ov n D l O (n - (k + 1))) (slk D l k)
    have eg : imax (ndf D l k) (sm (yT n D l O) (n - k) - sm (cT n D) (n - (k + 1))) = yT n D l O (n - 1 - k) := by
      rw [ey, yv]
      by_cases z : 0 < ov n D l O (n - (k + 1))
      · have := o4 z
        unfold imax
        split <;> omega
      · unfold imax
        split <;> omega
    unfold L_X12_share_171
    rw [if_neg (by omega), grd_t ⟨by omega, by omega⟩, Int.toNat_natCast, e1, w14 ⟨by omega, by omega⟩, grd_t ⟨by omega, by omega⟩, Int.toNat_natCast, e2, w32_id (x := sm (cT n D) (n - k) - 999) ⟨by omega, by omega⟩, w32_id ⟨by omega, by omega⟩, show sm (cT n D) (n - k) - 999 + D k = sm (cT n D) (n - (k + 1)) by omega, bnd_s, grd_t ⟨by omega, by omega⟩, grd_t ⟨by omega, by omega⟩, w32_id (x := l - D k) ⟨by omega, by omega⟩, s_max, bd_s, show imax 0 (l - D k) = ndf D l k from rfl, w32_id (x := sm (yT n D l O) (n - k) - _) ⟨by omega, by omega⟩, s_max, bd_s, eg, grd_t ⟨by omega, by omega⟩]
    cases d with
    | zero =>
      obtain rfl : k = p0 := by omega
      rw [if_pos e]
    | succ d =>
      rw [if_neg (hx k (by omega)), w32_id ⟨by omega, by omega⟩, show sm (yT n D l O) (n - k) - yT n D l O (n - 1 - k) = sm (yT n D l O) (n - (k + 1)) by omega, bnd_s, inc (by omega), bnd_s]
      exact l_gets hn hD H hl hO hp e hx d f (k + 1) (by omega) (by omega)
theorem l_room (hn : n ≤ 8) (hD : ∀ p, p < n → 0 ≤ D p ∧ D p ≤ 999) (H : SHM n D h) (x3 : Int) : ∀ f k : Nat, k ≤ n → n - k < f → L_X12_share_77 N f y x3 (n : Int) (sm (ndf D 999) k) (k : Int) h = if y ≤ need D n 999 then L_X12_share_125 N N y x3 (n : Int) (need D n 999) 0 h else some (-2, h)
  | 0, k, _, hf => absurd hf (by omega)
  | f + 1, k, hk, hf => by
    unfold L_X12_share_77
    by_cases c : k = n
    · subst c; rw [if_pos (by omega)]; rfl
    · obtain ⟨s, hs, e1, e2⟩ := H k (by omega)
      have d := hD k (by omega)
      have b2 := nd_sm hD (l := 999) ⟨by omega, by omega⟩ hk
      have en : ndf D 999 k = 999 - D k := by unfold ndf imax; split <;> omega
      have es : sm (ndf D 999) (k + 1) = sm (ndf D 999) k + (999 - D k) := by rw [← en]; rfl
      rw [if_neg (by omega), grd_t ⟨by omega, by omega⟩, Int.toNat_natCast, e1, w14 ⟨by omega, by omega⟩, grd_t ⟨by omega, by omega⟩, Int.toNat_natCast, e2, w32_id (x := sm (ndf D 999) k + 999) ⟨by omega, by omega⟩, w32_id ⟨by omega, by omega⟩, bnd_s, bnd_s, inc (by omega), show sm (ndf D 999) k + 999 - D k = sm (ndf D 999) (k + 1) by omega]
      exact l_room hn hD H x3 f (k + 1) (by omega) (by omega)
end SH
theorem op_share {N : Nat} (hN : 1000000 ≤ N) : ∀ a1 : Int, inR a1 → ∀ a2 : Int, inR a2 → ∀ a3 : Int, inR a3 → Sm (Inv N) (F_X11_share N a1 a2 a3) (F_X12_share N a1 a2 a3) := by
  intro y _ x2 r2 w rw3 h hok hI
  obtain ⟨t, i1, i2, i3, i4, i5, i6, i7, i8, i9, i10⟩ := id hI
  have ht := i1.1
  unfold F_X11_share F_X12_share
  rw [s_isWithin, bd_s]
  by_cases cy : 0 ≤ y ∧ y ≤ 600
  rotate_left
  · refine ⟨-1, h, h, by rw [if_neg cy, if_pos rfl], by rw [s_in, bd_s, if_neg cy, if_pos rfl], hI⟩
  rw [if_pos cy, if_neg (by decide)]
  by_cases cz : iand x2 (ixor (t : Int) (-1)) = 0
  rotate_left
  · refine ⟨-1, h, h, by rw [s_told_n cz i1.2.1, bd_s, if_pos rfl], ?_, hI⟩
    rw [s_in, bd_s, if_pos cy, if_neg (by decide), i1.2.2, if_neg cz]
    split <;> rfl
  obtain ⟨u, rfl, hu, hs⟩ := (sub_iff r2 ht).mp cz
  have hcp := cn_pos hu
  rw [s_told_y hu ht hs i1.2.1, bd_s]
  by_cases cc : 1 ≤ (cn u : Int) ∧ (cn u : Int) ≤ 6
  rotate_left
  · refine ⟨-1, h, h, by rw [if_neg cc, if_pos rfl], ?_, hI⟩
    rw [s_in, bd_s, if_pos cy, if_neg (by decide), i1.2.2]
    by_cases c1 : (u : Int) < 1
    · rw [if_pos c1]
    · rw [if_neg c1, if_pos cz, s_bits hN hu, bd_s, if_neg (by omega)]
  rw [if_pos cc, if_neg (by decide)]
  have c1 : ¬ (u : Int) < 1 := by omega
  -- the shares themselves
  have core : (w = 20 ∨ ∃ v : Nat, w = (v : Int) ∧ v < 14 ∧ u.testBit v = true) → ∃ (r : Int) (h1 h2 : Hp), J_X11_share_53 N y (u : Int) w h = some (r, h1) ∧ (∀ c j, ¬ (c = 69 ∨ c = 70 ∨ c = 71) → h1 c j = h c j) ∧ J_X12_share_64 N y (u : Int) w h1 = some (r, h2) ∧ ∀ c j, ¬ c = 118 → h2 c j = h1 c j := by
    intro hw0
    obtain ⟨D, hDd⟩ : ∃ D : Nat → Int, D = fun p => h 5 (sel u p) := ⟨_, rfl⟩
    have hD : ∀ p, p < cn u → 0 ≤ D p ∧ D p ≤ 999 := fun p hp => by
      have z := i3 (sel u p) (sel_ok hp).1
      rw [hDd]
      exact ⟨z.2.1, z.2.2.1⟩
    have hn : cn u ≤ 8 := by omega
    obtain ⟨ha, a1, a2, a3, a4⟩ := s_choose (N := N) hN hu hn h
    have HX : SHX (cn u) D ha := ⟨a2, fun p hp => ⟨sel u p, (sel_ok hp).1, a3 p hp, by rw [a1 5 _ (by omega) (by omega), hDd]⟩⟩
    have inj : ∀ p q, p < q → q < cn u → (sel u p : Int) ≠ (sel u q : Int) := fun p q h1 h2 => by have := sel_lt h1 h2; omega
    unfold J_X11_share_53 J_X12_share_64
    rw [a4, bv_s]
    unfold F_X9_spread
    rw [s_needX hN hn hD HX ⟨by omega, by omega⟩, bd_s]
    by_cases cr : y ≤ need D (cn u) 999
    rotate_left
    · rw [if_neg cr, bd_s, if_pos rfl]
      obtain ⟨hb, b1, b2, b3⟩ := s_who (N := N) hN hu hn ha
      have HM : SHM (cn u) D hb := fun p hp => ⟨sel u p, (sel_ok hp).1, b2 p hp, by rw [b1 84 _ (by omega), a1 84 _ (by omega) (by omega), (i3 _ (sel_ok hp).1).1, hDd]⟩
      refine ⟨-2, ha, hb, rfl, fun c j z => a1 c j (by omega) (by omega), ?_, b1⟩
      rw [b3, bd_s]
      have := l_room (N := N) (y := y) hn hD HM w N 0 (by omega) (by omega)
      rw [if_neg cr] at this
      exact this
    · rw [if_pos cr]
      have z0 : need D (cn u) 0 ≤ y := by
        have : ∀ k, k ≤ cn u → sm (ndf D 0) k = 0 := by
          intro k
          induction k with
          | zero => intro _; rfl
          | succ k ih =>
            intro hk
            have d := hD k (by omega)
            have : ndf D 0 k = 0 := by unfold ndf imax; split <;> omega
            simp only [sm]
            rw [ih (by omega), this]; rfl
        unfold need
        rw [this _ (Nat.le_refl _)]
        exact cy.1
      obtain ⟨l, hl, el⟩ := l_gl (N := N) (y := y) hN hn hD HX 10 N 0 999 (by omega) (by omega) (by omega) (by omega) (by omega) (by decide) z0 (Or.inl rfl)
      obtain ⟨l1, l2, l3, l4⟩ := id hl
      have el : F_X9_greatestLevel N y ha = some (l, ha) := el
      obtain ⟨hc, hhc⟩ : ∃ hc, hc = hw ha 69 5 l := ⟨_, rfl⟩
      have HX' : SHX (cn u) D hc := ⟨by rw [hhc, hw_ne (by omega)]; exact HX.1, fun p hp => by
        obtain ⟨s, z1, z2, z3⟩ := HX.2 p hp
        exact ⟨s, z1, by rw [hhc, hw_ne (by omega)]; exact z2, by rw [hhc, hw_ne (by omega)]; exact z3⟩⟩
      have nb := nd_sm hD (l := l) ⟨l1, by omega⟩ (Nat.le_refl (cn u))
      have nb : 0 ≤ need D (cn u) l := nb.1
      have h5 : hc 69 5 = l := by rw [hhc, hw_eq]
      have h4 : hc 69 4 = (cn u : Int) := HX'.1
      obtain ⟨O, hO⟩ : ∃ O, O = y - need D (cn u) l := ⟨_, rfl⟩
      obtain ⟨hd, d1, d2, d3, -⟩ := l_spr (N := N) hn hD ⟨l1, l2⟩ (O := O) ⟨by omega, by omega⟩ (cn u) N hc (Nat.le_refl _) (by omega) HX' h5
      rw [Nat.sub_self, show ov (cn u) D l O 0 = O from rfl] at d1
      rw [el, bd_s, bnd_s, ← hhc, h5, s_needX hN hn hD HX' ⟨l1, by omega⟩, bd_s, w32_id (x := y - _) ⟨by omega, by omega⟩, ← hO, bnd_s, h4, w32_id ⟨by omega, by omega⟩, bnd_s, d1, bd_s, if_neg (by decide)]
      have fx : ∀ c j, ¬ (c = 69 ∨ c = 70 ∨ c = 71) → hd c j = h c j := fun c j z => by rw [d2 c j (by omega), hhc, hw_ne (by omega), a1 c j (by omega) (by omega)]
      obtain ⟨hb, b1, b2, b3⟩ := s_who (N := N) hN hu hn hd
      have HM : SHM (cn u) D hb := fun p hp => ⟨sel u p, (sel_ok hp).1, b2 p hp, by rw [b1 84 _ (by omega), fx 84 _ (by omega), (i3 _ (sel_ok hp).1).1, hDd]⟩
      have e77 := l_room (N := N) (y := y) hn hD HM w N 0 (by omega) (by omega)
      rw [if_pos cr] at e77
      have e77 : L_X12_share_77 N N y w (cn u : Nat) 0 0 hb = L_X12_share_125 N N y w (cn u : Nat) (need D (cn u) 999) 0 hb := e77
      have e125 := l_lvM (N := N) hN hn hD HM hl w (need D (cn u) 999) l.toNat N 0 (by omega) (by omega)
      have e125 : L_X12_share_125 N N y w (cn u : Nat) (need D (cn u) 999) 0 hb = J_X12_share_156 N y w (cn u : Nat) (need D (cn u) 999) l hb := e125
      have eR : (bd (F_X12_laysWho N (u : Int) hd) fun y2 h1 => L_X12_share_77 N N y w y2 0 0 h1) = J_X12_share_156 N y w (cn u : Nat) (need D (cn u) 999) l hb := by rw [b3, bd_s, e77, e125]
      unfold J_X12_share_156 at eR
      rcases hw0 with rfl | ⟨v, rfl, hv, bv⟩
      · unfold F_X9_least
        rw [if_pos rfl] at eR
        rw [if_pos rfl, bd_s]
        exact ⟨l, hd, hb, by rw [d2 69 5 (by omega), h5], fx, eR, b1⟩
      · rw [if_neg (by omega)] at eR
        rw [if_neg (by omega)]
        obtain ⟨so1, so2⟩ := sel_of hv bv
        have e70 : ∀ p, p < cn u → hd 70 p = (sel u p : Int) := fun p hp => by rw [d2 70 p (by omega), hhc, hw_ne (by omega)]; exact a3 p hp
        have ey : F_X9_yardsFor N (v : Int) hd = some (hd 71 (cnt u v), hd) := l_yfor (N := N) (n := cn u) hn (by rw [d2 69 4 (by omega)]; exact h4) so2 (by rw [e70 _ so2, so1]) (fun p hp => by rw [e70 p (by omega), ← so1]; exact inj p _ hp so2) (cnt u v) N 0 (by omega) (by omega)
        have oA := ov_f (O := O) hD ⟨l1, l2⟩ (by omega) (cn u) (Nat.le_refl _)
        have e999 : sm (cT (cn u) D) (cn u) = need D (cn u) 999 := by
          have := sm_rev (fun p => 999 - D p) (cn u) (cn u) (Nat.le_refl _)
          rw [Nat.sub_self] at this
          have e3 : sm (fun p => 999 - D p) (cn u) = need D (cn u) 999 := sm_c (fun p hp => by have := hD p hp; unfold ndf imax; split <;> omega)
          rw [← e3, ← this]
          simp only [sm, Int.add_zero]
          rfl
        have eM : sm (fun j => ndf D l (cn u - 1 - j)) (cn u) = need D (cn u) l := by
          have := sm_rev (ndf D l) (cn u) (cn u) (Nat.le_refl _)
          rw [Nat.sub_self] at this
          simp only [sm, Int.add_zero] at this
          exact this
        have esy : sm (yT (cn u) D l O) (cn u) = y := by
          obtain ⟨z1, z2, z3, z4, z5⟩ := oA
          rw [eM] at z5
          by_cases q : 0 < ov (cn u) D l O (cn u)
          · have := z4 q
            omega
          · omega
        have eg := l_gets (N := N) hn hD HM ⟨l1, l2⟩ (O := O) ⟨by omega, by omega⟩ so2 (by rw [b2 _ so2, so1]) (fun p hp => by rw [b2 p (by omega), ← so1]; exact inj p _ hp so2) (cnt u v) N 0 (by omega) (by omega)
        rw [Nat.sub_zero, e999, esy] at eg
        refine ⟨_, hd, hb, by rw [ey, bd_s], fx, ?_, b1⟩
        rw [d3 _ so2, eR]
        exact eg
  by_cases cw : w = 20 ∨ ∃ v : Nat, w = (v : Int) ∧ v < 14 ∧ u.testBit v = true
  · obtain ⟨r, h1, h2, k1, k2, k3, k4⟩ := core cw
    refine ⟨r, h1, h2, ?_, ?_, hI.ag (fun c j z => by unfold scr at z; rw [k4 c j (by omega), k2 c j (by omega)])⟩
    · rw [← k1]
      rcases cw with rfl | ⟨v, rfl, hv, bv⟩
      · rw [if_pos rfl]
      · rw [if_neg (by omega), s_isTold ht i1.2.1, bd_s, if_pos ((isT_n hv).mpr (hs v bv)), if_neg (by decide), s_hasBit (by omega) ⟨by omega, by omega⟩, bd_s, Int.toNat_natCast, if_neg (by rw [btN_1.mpr bv]; decide)]
    · have e12 : h1 83 12 = (t : Int) := by rw [k2 83 12 (by omega)]; exact i1.2.2
      rw [← k3, s_in, bd_s, if_pos cy, if_neg (by decide), if_neg c1, e12, if_pos cz, s_bits hN hu, bd_s, if_pos cc.2]
      rcases cw with rfl | ⟨v, rfl, hv, bv⟩
      · rw [if_pos rfl]
      · rw [if_neg (by omega), s_in, bd_s, if_pos (show 0 ≤ (v : Int) ∧ (v : Int) ≤ 13 from ⟨by omega, by omega⟩), if_neg (by decide), s_has (by omega) ⟨by omega, by omega⟩, bd_s, Int.toNat_natCast, if_neg (by rw [btN_1.mpr bv]; decide)]
  · have n20 : ¬ w = 20 := fun z => cw (Or.inl z)
    refine ⟨-1, h, h, ?_, ?_, hI⟩
    · rw [if_neg n20, s_isTold ht i1.2.1, bd_s]
      by_cases q : isT t w
      · obtain ⟨v, rfl⟩ : ∃ v : Nat, w = (v : Int) := ⟨w.toNat, by omega⟩
        have nb : ¬ u.testBit v = true := fun z => cw (Or.inr ⟨v, rfl, by omega, z⟩)
        rw [if_pos q, if_neg (by decide), s_hasBit (by omega) ⟨by omega, by omega⟩, bd_s, Int.toNat_natCast, if_pos (by unfold btN; rw [if_neg nb])]
      · rw [if_neg q, if_pos rfl]
    · rw [s_in, bd_s, if_pos cy, if_neg (by decide), if_neg c1, i1.2.2, if_pos cz, s_bits hN hu, bd_s, if_pos cc.2, if_neg n20, s_in, bd_s]
      by_cases q : 0 ≤ w ∧ w ≤ 13
      · obtain ⟨v, rfl⟩ : ∃ v : Nat, w = (v : Int) := ⟨w.toNat, by omega⟩
        have nb : ¬ u.testBit v = true := fun z => cw (Or.inr ⟨v, rfl, by omega, z⟩)
        rw [if_pos q, if_neg (by decide), s_has (by omega) ⟨by omega, by omega⟩, bd_s, Int.toNat_natCast, if_pos (by unfold btN; rw [if_neg nb])]
      · rw [if_neg q, if_pos rfl]
