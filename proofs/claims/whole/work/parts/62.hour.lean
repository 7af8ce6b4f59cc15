/-! AN HOUR IN A STREET: what the law says, on both sides -/
def fc (hs lm st i d r n k : Int) : Nat → Int
  | 0 => i
  | 1 => hs
  | 2 => lm
  | 3 => d
  | 4 => st
  | 5 => r
  | 6 => n
  | _ => k
def lwx (h h1 : Hp) : Prop := ∀ c j, ¬ (c = 18 ∧ j < 5) → ¬ c = 19 → ¬ (c = 11 ∧ (j = 10 ∨ j = 11)) → h1 c j = h c j
def lwm (h h1 : Hp) : Prop := ∀ c j, ¬ c = 108 → ¬ c = 109 → h1 c j = h c j
theorem lwx.tr {a b c : Hp} (h1 : lwx a b) (h2 : lwx b c) : lwx a c := fun x j p q r => (h2 x j p q r).trans (h1 x j p q r)
theorem lwm.tr {a b c : Hp} (h1 : lwm a b) (h2 : lwm b c) : lwm a c := fun x j p q => (h2 x j p q).trans (h1 x j p q)
/-- the class's heap in a night's reckoning stands on that before -/
def bX (h h' : Hp) : Prop := agX h h' ∧ (∀ c, c = 2 ∨ c = 3 ∨ c = 4 → h' c = h c) ∧ ∀ j, h' 1 j = h 1 j
def bM (h h' : Hp) : Prop := agM h h' ∧ ∀ c, c = 87 ∨ c = 88 ∨ c = 89 → h' c = h c
theorem bX.of {h h' h1 : Hp} (H : bX h h') (e : ∀ c j, (12 ≤ c ∧ c ≤ 17) ∨ (c = 11 ∧ j = 4) ∨ c = 1 ∨ c = 2 ∨ c = 3 ∨ c = 4 → h1 c j = h' c j) : bX h h1 :=
  ⟨⟨fun c a b => by rw [← H.1.1 c a b]; exact funext fun j => e c j (Or.inl ⟨a, b⟩), by rw [e 11 4 (by omega)]; exact H.1.2⟩, fun c hc => by rw [← H.2.1 c hc]; exact funext fun j => e c j (by omega), fun j => by rw [e 1 j (by omega)]; exact H.2.2 j⟩
theorem bM.of {h h' h1 : Hp} (H : bM h h') (e : ∀ c j, (103 ≤ c ∧ c ≤ 107) ∨ (c = 83 ∧ j = 24) ∨ c = 87 ∨ c = 88 ∨ c = 89 → h1 c j = h' c j) : bM h h1 :=
  ⟨⟨fun c a b => by rw [← H.1.1 c a b]; exact funext fun j => e c j (Or.inl ⟨a, b⟩), by rw [e 83 24 (by omega)]; exact H.1.2⟩, fun c hc => by rw [← H.2 c hc]; exact funext fun j => e c j (by omega)⟩
theorem bX.lw {h h' h1 : Hp} (H : bX h h') (e : lwx h' h1) : bX h h1 := H.of (fun c j z => e c j (by omega) (by omega) (by omega))
theorem bM.lw {h h' h1 : Hp} (H : bM h h') (e : lwm h' h1) : bM h h1 := H.of (fun c j z => e c j (by omega) (by omega))
section HR
variable {N : Nat} {h h' : Hp} {A : Int → (Nat → Int) → Int}
theorem s_houses {i : Nat} (hi : i < 14) : F_X1_housesOf N (i : Int) h = some (h 2 i, h) := by
  unfold F_X1_housesOf
  rw [if_neg (by omega), if_neg (by omega), grd_t ⟨by omega, by omega⟩, Int.toNat_natCast]
theorem s_lamps {i : Nat} (hi : i < 14) : F_X1_lampsOf N (i : Int) h = some (h 3 i, h) := by
  unfold F_X1_lampsOf
  rw [if_neg (by omega), if_neg (by omega), grd_t ⟨by omega, by omega⟩, Int.toNat_natCast]
theorem s_stars {i : Nat} (hi : i < 14) : F_X1_starsOf N (i : Int) h = some (h 4 i, h) := by
  unfold F_X1_starsOf
  rw [if_neg (by omega), if_neg (by omega), grd_t ⟨by omega, by omega⟩, Int.toNat_natCast]
theorem s_d58 {i : Nat} (hi : i < 14) : F_X5_depthOf N (i : Int) h = some (h 58 i, h) := by
  unfold F_X5_depthOf
  rw [if_neg (by omega), if_neg (by omega), grd_t ⟨by omega, by omega⟩, Int.toNat_natCast]
theorem t0 : (0 : Int).toNat = 0 := rfl
theorem t1 : (1 : Int).toNat = 1 := rfl
theorem t2 : (2 : Int).toNat = 2 := rfl
theorem t3 : (3 : Int).toNat = 3 := rfl
theorem t4 : (4 : Int).toNat = 4 := rfl
theorem t5 : (5 : Int).toNat = 5 := rfl
theorem t6 : (6 : Int).toNat = 6 := rfl
theorem t7 : (7 : Int).toNat = 7 := rfl
theorem t14 : (14 : Int).toNat = 14 := rfl
theorem x_askS (L : LawOK N h A) (H : bX h h') {i : Nat} (hi : i < 14) (lm d : Int) {l : Int} (hl : isLt l) : ∃ h5, F_X2_regardStreet N (i : Int) lm d h' = some h5 ∧ lwx h' h5 ∧ ∃ h1, F_X2_ask N l h5 = some (A l (fc (h 2 i) lm (h 4 i) i d (h' 18 5) (h' 18 6) (h' 18 7)), h1) ∧ lwx h' h1 ∧ (∀ j, h1 18 j = h5 18 j) := by
  unfold F_X2_regardStreet
  simp only [bnd_s, s_houses hi, bd_s, s_stars hi, t0, t1, t2, t3, t4]
  have e2 : hw h' 18 0 (i : Int) 2 i = h 2 i := by rw [hw_ne (by omega), H.2.1 2 (by omega)]
  have e4 : hw (hw (hw (hw h' 18 0 (i : Int)) 18 1 (h 2 i)) 18 2 lm) 18 3 d 4 i = h 4 i := by rw [hw_ne (by omega), hw_ne (by omega), hw_ne (by omega), hw_ne (by omega), H.2.1 4 (by omega)]
  rw [e2, e4]
  obtain ⟨g, hg⟩ : ∃ g, g = hw (hw (hw (hw (hw h' 18 0 (i : Int)) 18 1 (h 2 i)) 18 2 lm) 18 3 d) 18 4 (h 4 i) := ⟨_, rfl⟩
  rw [← hg]
  have x5 : lwx h' g := fun c j a b z => by rw [hg, hw_ne (by omega), hw_ne (by omega), hw_ne (by omega), hw_ne (by omega), hw_ne (by omega)]
  obtain ⟨h1, e1, f1⟩ := L.2.2.1 g l (H.lw x5).1 hl
  refine ⟨g, rfl, x5, h1, ?_, fun c j a b z => by rw [f1 c j (by omega)]; exact x5 c j a b z, fun j => f1 18 j (by omega)⟩
  rw [e1]
  congr 2
  refine L.2.1 l _ _ (fun k hk => ?_)
  rw [hg]
  rcases (show k = 0 ∨ k = 1 ∨ k = 2 ∨ k = 3 ∨ k = 4 ∨ k = 5 ∨ k = 6 ∨ k = 7 by omega) with rfl | rfl | rfl | rfl | rfl | rfl | rfl | rfl <;> simp [hw, fc]
theorem x_ask (L : LawOK N h A) (H : bX h h') {i : Nat} (hi : i < 14) {l : Int} (hl : isLt l) : ∃ h1, F_X5_askOf N l (i : Int) h' = some (A l (fc (h 2 i) (h 3 i) (h 4 i) i (h' 58 i) (h' 18 5) (h' 18 6) (h' 18 7)), h1) ∧ lwx h' h1 := by
  obtain ⟨h5, e5, -, h1, e1, f1, -⟩ := x_askS L H hi (h 3 i) (h' 58 i) hl
  refine ⟨h1, ?_, f1⟩
  unfold F_X5_askOf
  rw [s_lamps hi, bd_s, s_d58 hi, bd_s, H.2.1 3 (by omega), e5, bv_s, e1, bd_s]
theorem x_lose (L : LawOK N h A) (H : bX h h') {i : Nat} (hi : i < 14) {l : Int} (hl : isLt l) (hd : 0 ≤ h' 58 i ∧ h' 58 i ≤ 999) (v : Int) (hv : v = imin (h' 58 i) (A l (fc (h 2 i) (h 3 i) (h 4 i) i (h' 58 i) (h' 18 5) (h' 18 6) (h' 18 7)))) : ∃ h1, F_X5_lose N l (i : Int) h' = some (v, hw h1 58 i (h' 58 i - v)) ∧ lwx h' h1 ∧ 0 ≤ v ∧ v ≤ h' 58 i := by
  obtain ⟨h1, e1, f1⟩ := x_ask L H hi hl
  have hA := (L.1 l (fc (h 2 i) (h 3 i) (h 4 i) i (h' 58 i) (h' 18 5) (h' 18 6) (h' 18 7))).1
  have hvb : 0 ≤ v ∧ v ≤ h' 58 i := by rw [hv]; unfold imin; split <;> omega
  refine ⟨h1, ?_, f1, hvb⟩
  unfold F_X5_lose
  rw [s_d58 hi, bd_s, e1, bd_s, bnd_s, ← hv, s_isWithin, bd_s, if_pos (show 0 ≤ (i : Int) ∧ (i : Int) ≤ 13 by omega), if_neg (by decide), grd_t ⟨by omega, by omega⟩, grd_t ⟨by omega, by omega⟩, bnd_s, Int.toNat_natCast, f1 58 i (by omega) (by omega) (by omega), w32_id ⟨by omega, by omega⟩]
/-- what an hour's end does in a street -/
def lW (A : Int → (Nat → Int) → Int) (hs lm st i r n d : Int) : Int := imin d (A 119 (fc hs lm st i d r n 0))
def lC (A : Int → (Nat → Int) → Int) (hs lm st i r n d : Int) : Int := imin (d - lW A hs lm st i r n d) (A 99 (fc hs lm st i (d - lW A hs lm st i r n d) r n 0))
def lD (A : Int → (Nat → Int) → Int) (hs lm st i r n d : Int) : Int := d - lW A hs lm st i r n d - lC A hs lm st i r n d
abbrev lS (A : Int → (Nat → Int) → Int) (hs lm st i r n d : Int) : Prop := 0 < lD A hs lm st i r n d ∧ A 115 (fc hs lm st i (lD A hs lm st i r n d) r n 0) ≤ lD A hs lm st i r n d
theorem lWCD (L : LawOK N h A) {hs lm st i r n d : Int} (hd : 0 ≤ d) : 0 ≤ lW A hs lm st i r n d ∧ lW A hs lm st i r n d ≤ d ∧ 0 ≤ lC A hs lm st i r n d ∧ lC A hs lm st i r n d ≤ d ∧ 0 ≤ lD A hs lm st i r n d ∧ lD A hs lm st i r n d ≤ d := by
  have h1 := (L.1 119 (fc hs lm st i d r n 0)).1
  have h2 := (L.1 99 (fc hs lm st i (d - lW A hs lm st i r n d) r n 0)).1
  have a : 0 ≤ lW A hs lm st i r n d ∧ lW A hs lm st i r n d ≤ d := by unfold lW imin; split <;> omega
  have b : 0 ≤ lC A hs lm st i r n d ∧ lC A hs lm st i r n d ≤ d - lW A hs lm st i r n d := by
    unfold lC imin
    split <;> omega
  unfold lD
  omega
theorem x_after (L : LawOK N h A) (H : bX h h') {i : Nat} (hi : i < 14) {r : Int} (hd : 0 ≤ h' 58 i ∧ h' 58 i ≤ 999) :
    ∃ h1 s, F_X5_sleepsAfter N r (i : Int) h' = some (s, h1) ∧ (s = 0 ∨ s = 1) ∧ (s = 1 ↔ lS A (h 2 i) (h 3 i) (h 4 i) i r (h 1 5) (h' 58 i)) ∧ h1 58 i = lD A (h 2 i) (h 3 i) (h 4 i) i r (h 1 5) (h' 58 i) ∧ (0 ≤ h' 57 12 ∧ h' 57 12 ≤ 100000000 → h1 57 12 = h' 57 12 + lW A (h 2 i) (h 3 i) (h 4 i) i r (h 1 5) (h' 58 i)) ∧ (0 ≤ h' 57 13 ∧ h' 57 13 ≤ 100000000 → h1 57 13 = h' 57 13 + lC A (h 2 i) (h 3 i) (h 4 i) i r (h 1 5) (h' 58 i)) ∧ ∀ c j, ¬ (c = 58 ∧ j = i) → ¬ (c = 57 ∧ (j = 12 ∨ j = 13)) → ¬ c = 18 → ¬ c = 19 → ¬ (c = 11 ∧ (j = 10 ∨ j = 11)) → h1 c j = h' c j := by
  obtain ⟨d, hdd⟩ : ∃ d, d = h' 58 i := ⟨_, rfl⟩
  rw [← hdd]
  have B := lWCD (hs := h 2 i) (lm := h 3 i) (st := h 4 i) (i := (i : Int)) (r := r) (n := h 1 5) L (show 0 ≤ d by omega)
  unfold F_X5_sleepsAfter F_X1_night F_X2_regardTime
  simp only [s_d58 hi, bd_s, bnd_s, bv_s, t5, t6, t7, ← hdd]
  by_cases q : d = 0
  · refine ⟨h', 0, by rw [if_pos q], Or.inl rfl, ⟨fun z => absurd z (by decide), fun z => ?_⟩, by omega, fun _ => by omega, fun _ => by omega, fun _ _ _ _ _ _ _ => rfl⟩
    have := z.1
    omega
  · rw [if_neg q, H.2.2 5]
    obtain ⟨g, hg⟩ : ∃ g, g = hw (hw (hw h' 18 5 r) 18 6 (h 1 5)) 18 7 0 := ⟨_, rfl⟩
    rw [← hg]
    have gc : ∀ c j, ¬ c = 18 → g c j = h' c j := fun c j z => by rw [hg, hw_ne (by omega), hw_ne (by omega), hw_ne (by omega)]
    have g5 : g 18 5 = r ∧ g 18 6 = h 1 5 ∧ g 18 7 = 0 := by rw [hg]; simp [hw]
    have Hg : bX h g := H.of (fun c j z => gc c j (by omega))
    have gd : g 58 i = d := by rw [gc 58 i (by omega), hdd]
    obtain ⟨h1, e1, f1, v1⟩ := x_lose L Hg hi (l := 119) (Or.inl rfl) (by omega) (lW A (h 2 i) (h 3 i) (h 4 i) i r (h 1 5) d) (by rw [gd, g5.1, g5.2.1, g5.2.2]; rfl)
    rw [e1, bd_s, gd, gc 57 12 (by omega)]
    obtain ⟨h2, hh2⟩ : ∃ h2, h2 = hw (hw h1 58 i (d - lW A (h 2 i) (h 3 i) (h 4 i) i r (h 1 5) d)) 57 12 (w32 (h' 57 12 + lW A (h 2 i) (h 3 i) (h 4 i) i r (h 1 5) d)) := ⟨_, rfl⟩
    rw [← hh2]
    have H2 : bX h h2 := (Hg.lw f1).of (fun c j z => by rw [hh2, hw_ne (by omega), hw_ne (by omega)])
    have d2 : h2 58 i = d - lW A (h 2 i) (h 3 i) (h 4 i) i r (h 1 5) d := by rw [hh2, hw_ne (by omega), hw_eq]
    have g52 : h2 18 5 = r ∧ h2 18 6 = h 1 5 ∧ h2 18 7 = 0 := by
      rw [hh2, hw_ne (by omega), hw_ne (by omega), hw_ne (by omega), hw_ne (by omega), hw_ne (by omega), hw_ne (by omega), f1 18 5 (by omega) (by omega) (by omega), f1 18 6 (by omega) (by omega) (by omega), f1 18 7 (by omega) (by omega) (by omega)]
      exact g5
    have r57 : h2 57 13 = h' 57 13 := by rw [hh2, hw_ne (by omega), hw_ne (by omega), f1 57 13 (by omega) (by omega) (by omega), gc 57 13 (by omega)]
    obtain ⟨h3, e3, f3, v3⟩ := x_lose L H2 hi (l := 99) (Or.inr (Or.inl rfl)) (by omega) (lC A (h 2 i) (h 3 i) (h 4 i) i r (h 1 5) d) (by rw [d2, g52.1, g52.2.1, g52.2.2]; rfl)
    rw [e3, bd_s, r57]
    obtain ⟨h4, hh4⟩ : ∃ h4, h4 = hw (hw h3 58 i (h2 58 i - lC A (h 2 i) (h 3 i) (h 4 i) i r (h 1 5) d)) 57 13 (w32 (h' 57 13 + lC A (h 2 i) (h 3 i) (h 4 i) i r (h 1 5) d)) := ⟨_, rfl⟩
    rw [← hh4]
    have H4 : bX h h4 := (H2.lw f3).of (fun c j z => by rw [hh4, hw_ne (by omega), hw_ne (by omega)])
    have d4 : h4 58 i = lD A (h 2 i) (h 3 i) (h 4 i) i r (h 1 5) d := by rw [hh4, hw_ne (by omega), hw_eq, d2]; rfl
    have g54 : h4 18 5 = r ∧ h4 18 6 = h 1 5 ∧ h4 18 7 = 0 := by
      rw [hh4, hw_ne (by omega), hw_ne (by omega), hw_ne (by omega), hw_ne (by omega), hw_ne (by omega), hw_ne (by omega), f3 18 5 (by omega) (by omega) (by omega), f3 18 6 (by omega) (by omega) (by omega), f3 18 7 (by omega) (by omega) (by omega)]
      exact g52
    have fr : ∀ c j, ¬ (c = 58 ∧ j = i) → ¬ (c = 57 ∧ (j = 12 ∨ j = 13)) → ¬ c = 18 → ¬ c = 19 → ¬ (c = 11 ∧ (j = 10 ∨ j = 11)) → h4 c j = h' c j := fun c j z1 z2 z3 z4 z5 => by
      rw [hh4, hw_ne (by omega), hw_ne (by omega), f3 c j (by omega) (by omega) (by omega), hh2, hw_ne (by omega), hw_ne (by omega), f1 c j (by omega) (by omega) (by omega), gc c j (by omega)]
    have w12 : 0 ≤ h' 57 12 ∧ h' 57 12 ≤ 100000000 → h4 57 12 = h' 57 12 + lW A (h 2 i) (h 3 i) (h 4 i) i r (h 1 5) d := fun z => by
      rw [hh4, hw_ne (by omega), hw_ne (by omega), f3 57 12 (by omega) (by omega) (by omega), hh2, hw_eq, w32_id ⟨by omega, by omega⟩]
    have w13 : 0 ≤ h' 57 13 ∧ h' 57 13 ≤ 100000000 → h4 57 13 = h' 57 13 + lC A (h 2 i) (h 3 i) (h 4 i) i r (h 1 5) d := fun z => by
      rw [hh4, hw_eq, w32_id ⟨by omega, by omega⟩]
    obtain ⟨h5, e5, f5⟩ := x_ask L H4 hi (l := 115) (Or.inr (Or.inr (Or.inl rfl)))
    rw [d4, g54.1, g54.2.1, g54.2.2] at e5
    rw [d4, e5, bd_s]
    have fr5 : ∀ c j, ¬ (c = 58 ∧ j = i) → ¬ (c = 57 ∧ (j = 12 ∨ j = 13)) → ¬ c = 18 → ¬ c = 19 → ¬ (c = 11 ∧ (j = 10 ∨ j = 11)) → h5 c j = h' c j := fun c j z1 z2 z3 z4 z5 => by
      rw [f5 c j (by omega) (by omega) (by omega), fr c j z1 z2 z3 z4 z5]
    by_cases p : lD A (h 2 i) (h 3 i) (h 4 i) i r (h 1 5) d ≤ 0
    · refine ⟨h4, 0, by rw [if_pos p], Or.inl rfl, ⟨fun z => absurd z (by decide), fun z => ?_⟩, d4, w12, w13, fr⟩
      have := z.1
      omega
    · rw [if_neg p]
      by_cases p2 : lD A (h 2 i) (h 3 i) (h 4 i) i r (h 1 5) d < A 115 (fc (h 2 i) (h 3 i) (h 4 i) i (lD A (h 2 i) (h 3 i) (h 4 i) i r (h 1 5) d) r (h 1 5) 0)
      · refine ⟨h5, 0, by rw [if_pos p2], Or.inl rfl, ⟨fun z => absurd z (by decide), fun z => ?_⟩, by rw [f5 58 i (by omega) (by omega) (by omega)]; exact d4, fun z => by rw [f5 57 12 (by omega) (by omega) (by omega)]; exact w12 z, fun z => by rw [f5 57 13 (by omega) (by omega) (by omega)]; exact w13 z, fr5⟩
        have := z.2
        omega
      · exact ⟨h5, 1, by rw [if_neg p2], Or.inr rfl, ⟨fun _ => ⟨by omega, by omega⟩, fun _ => rfl⟩, by rw [f5 58 i (by omega) (by omega) (by omega)]; exact d4, fun z => by rw [f5 57 12 (by omega) (by omega) (by omega)]; exact w12 z, fun z => by rw [f5 57 13 (by omega) (by omega) (by omega)]; exact w13 z, fr5⟩
theorem m_feels {i : Nat} (hi : i < 14) (H : bM h h') (r k : Int) (hh : ∀ j, j < 14 → h 87 j = h 2 j ∧ h 88 j = h 3 j ∧ h 89 j = h 4 j) : ∃ g, F_X12_feels N (i : Int) r k h' = some g ∧ (∀ j, j < 8 → g 109 j = fc (h 2 i) (h 3 i) (h 4 i) i (h' 84 i) r (h' 84 14) k j) ∧ (∀ c j, ¬ c = 109 → g c j = h' c j) := by
  unfold F_X12_feels
  have w : w32 (0 + (i : Int)) = (i : Int) := w14 ⟨by omega, by omega⟩
  simp only [bnd_s, w, grd_t (show 0 ≤ (i : Int) ∧ (i : Int) < 14 from ⟨by omega, by omega⟩), grd_t (show 0 ≤ (i : Int) ∧ (i : Int) < 17 from ⟨by omega, by omega⟩), t0, t1, t2, t3, t4, t5, t6, t7, t14, Int.toNat_natCast]
  have e87 : h' 87 i = h 2 i := by rw [H.2 87 (by omega)]; exact (hh i hi).1
  have e88 : h' 88 i = h 3 i := by rw [H.2 88 (by omega)]; exact (hh i hi).2.1
  have e89 : h' 89 i = h 4 i := by rw [H.2 89 (by omega)]; exact (hh i hi).2.2
  refine ⟨_, rfl, fun j hj => ?_, fun c j hc => ?_⟩
  · rcases (show j = 0 ∨ j = 1 ∨ j = 2 ∨ j = 3 ∨ j = 4 ∨ j = 5 ∨ j = 6 ∨ j = 7 by omega) with rfl | rfl | rfl | rfl | rfl | rfl | rfl | rfl <;> simp [hw, fc, e87, e88, e89]
  · rw [hw_ne (by omega), hw_ne (by omega), hw_ne (by omega), hw_ne (by omega), hw_ne (by omega), hw_ne (by omega), hw_ne (by omega), hw_ne (by omega)]
theorem m_byStreet (L : LawOK N h A) {i : Nat} (hi : i < 14) (H : bM h h') (r : Int) (hh : ∀ j, j < 14 → h 87 j = h 2 j ∧ h 88 j = h 3 j ∧ h 89 j = h 4 j) {l : Int} (hl : l = 119 ∨ l = 99 ∨ l = 115) : ∃ g, F_X12_byStreet N l (i : Int) r h' = some (A l (fc (h 2 i) (h 3 i) (h 4 i) i (h' 84 i) r (h' 84 14) 0), g) ∧ lwm h' g := by
  obtain ⟨g, e, f1, f2⟩ := m_feels (N := N) hi H r 0 hh
  have hm : most l = 999 := by unfold most; rw [if_neg (by omega)]
  obtain ⟨g2, e2, f3⟩ := L.2.2.2 g l (H.of (fun c j z => f2 c j (by omega))).1 (by unfold isLt; omega)
  rw [hm] at e2
  refine ⟨g2, ?_, fun c j a b => by rw [f3 c j a, f2 c j b]⟩
  unfold F_X12_byStreet
  rw [e, bv_s, e2, bd_s, L.2.1 l _ _ f1]
end HR
