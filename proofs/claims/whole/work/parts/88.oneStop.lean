/-! ONE STOP -/
def scO (c j : Nat) : Prop := c = 18 ∨ c = 19 ∨ (c = 11 ∧ (j = 10 ∨ j = 11)) ∨ (53 ≤ c ∧ c ≤ 64) ∨ (c = 84 ∧ 17 ≤ j) ∨ c = 85 ∨ (c = 83 ∧ 47 ≤ j ∧ j ≤ 50) ∨ c = 108 ∨ c = 109 ∨ (113 ≤ c ∧ c ≤ 117)
def EQO (h h' : Hp) : Prop := ∀ c j, ¬ scO c j → h' c j = h c j
def gst (k : Nat) (y i : Int) (h : Hp) : Hp := hw (hw (hw (hw (hw (hw h 83 13 ((2 ^ k : Nat) : Int)) 93 k 2) 94 (16 * k) 14) 95 (16 * k) y) 95 (16 * k + 1) y) 94 (16 * k + 1) i
def bo (t : Nat) (v : Nat → Int) : Nat → Int × Int
  | 0 => (-2, -2)
  | i + 1 => if t.testBit i = true then (if v i ≤ (bo t v i).2 then bo t v i else ((i : Int), v i)) else bo t v i
theorem Inv.eqo {N : Nat} {h g' : Hp} (H : Inv N h) (X : EQO h g') : Inv N g' := by
  have e : ∀ c j, ¬ (c = 84 ∧ 17 ≤ j) → ¬ scr c j → g' c j = h c j := fun c j z1 z2 => X c j (by unfold scr at z2; unfold scO; omega)
  refine H.dn (fun c j z1 z2 => e c j (by omega) z1) (fun t i1 i3 i5 i4 => ⟨fun i hi => ?_, ?_⟩)
  · rw [e 84 i (by omega) (by unfold scr; omega), e 5 i (by omega) (by unfold scr; omega)]
    exact i3 i hi
  · unfold IN
    rw [e 84 14 (by omega) (by unfold scr; omega), e 84 15 (by omega) (by unfold scr; omega), e 84 16 (by omega) (by unfold scr; omega), e 1 5 (by omega) (by unfold scr; omega), e 1 6 (by omega) (by unfold scr; omega), e 1 7 (by omega) (by unfold scr; omega)]
    exact i4
section OS
variable {N t cc k : Nat} {A : Int → (Nat → Int) → Int} {h h' g : Hp} {y : Int}
theorem gst_o {i : Int} {c j : Nat} (z : ¬ (c = 83 ∧ j = 13) ∧ ¬ (c = 93) ∧ ¬ c = 94 ∧ ¬ c = 95) : gst k y i h c j = h c j := by
  unfold gst
  rw [hw_ne (by omega), hw_ne (by omega), hw_ne (by omega), hw_ne (by omega), hw_ne (by omega), hw_ne (by omega)]
theorem gst_v {i : Int} : gst k y i h 83 13 = ((2 ^ k : Nat) : Int) ∧ gst k y i h 93 k = 2 ∧ gst k y i h 94 (16 * k) = 14 ∧ gst k y i h 95 (16 * k) = y ∧ gst k y i h 95 (16 * k + 1) = y ∧ gst k y i h 94 (16 * k + 1) = i := by
  unfold gst
  refine ⟨?_, ?_, ?_, ?_, ?_, ?_⟩
  · rw [hw_ne (by omega), hw_ne (by omega), hw_ne (by omega), hw_ne (by omega), hw_ne (by omega), hw_eq]
  · rw [hw_ne (by omega), hw_ne (by omega), hw_ne (by omega), hw_ne (by omega), hw_eq]
  · rw [hw_ne (by omega), hw_ne (by omega), hw_ne (by omega), hw_eq]
  · rw [hw_ne (by omega), hw_ne (by omega), hw_eq]
  · rw [hw_ne (by omega), hw_eq]
  · rw [hw_eq]
theorem os_one (hN : 1000000 ≤ N) (i1 : IT h t) (i2 : IS h) (i3 : ID h t) (i4 : IN h) (hk : k < 5) (tk : cc.testBit k = true) (hck : ∀ q, q < 5 → ICk h cc q) (i8 : IR h t) (L : LawOK N h A) (i10 : h 83 51 = 0) (hok : okH h) (hy : 1 ≤ y ∧ y ≤ 99) {i : Nat} (hi : i < 14) (E : EQO h h') (G : EQO (gst k y (i : Int) h) g) : ∃ h1 h2 g', F_X11_sendOneCart N (k : Int) y (i : Int) h' = some h1 ∧ F_X5_goThrough N h1 = some h2 ∧ EQO h h2 ∧ 0 ≤ h2 57 10 ∧ F_X12_sleptBy N g = some (h2 57 10, g') ∧ exS g g' := by
  obtain ⟨hP, p1, p2, p3, p4, p5⟩ := s_prep (N := N) (h := h') hN
  have pe : ∀ c j, ¬ (58 ≤ c ∧ c ≤ 64) → ¬ (c = 57 ∧ 10 ≤ j ∧ j ≤ 15) → ¬ scO c j → hP c j = h c j := fun c j z1 z2 z3 => by rw [p2 c j z1 z2]; exact E c j z3
  obtain ⟨hS, eS⟩ : ∃ hS, hS = adS 53 1 0 (i : Int) y (adS 53 0 1 0 y (hw (hw hP 53 4 (hP (21 + 4 * k) 4)) 53 3 0)) := ⟨_, rfl⟩
  have sP : ∀ c j, ¬ (53 ≤ c ∧ c ≤ 56) → hS c j = hP c j := fun c j z => by
    rw [eS, adS_c (by omega), adS_c (by omega), hw_ne (by omega), hw_ne (by omega)]
  have sH : ∀ c j, ¬ (58 ≤ c ∧ c ≤ 64) → ¬ (c = 57 ∧ 10 ≤ j ∧ j ≤ 15) → ¬ scO c j → hS c j = h c j := fun c j z1 z2 z3 => by rw [sP c j (by unfold scO at z3; omega)]; exact pe c j z1 z2 z3
  obtain ⟨gS, eG⟩ : ∃ gS, gS = cp17 g 84 85 0 := ⟨_, rfl⟩
  have gE : ∀ c j, ¬ scO c j → gS c j = gst k y (i : Int) h c j := fun c j z => by rw [eG, cpf (by unfold scO at z; omega)]; exact G c j z
  have gH : ∀ c j, ¬ scO c j → ¬ (c = 83 ∧ j = 13) ∧ ¬ (c = 93) ∧ ¬ c = 94 ∧ ¬ c = 95 → gS c j = h c j := fun c j z1 z2 => by rw [gE c j z1]; exact gst_o z2
  obtain ⟨v1, v2, v3, v4, v5, v6⟩ := gst_v (k := k) (y := y) (i := (i : Int)) (h := h)
  obtain ⟨w1, w2, w3, w4, w5, -⟩ := hck k hk
  have rm := w4.mp tk
  have e4 : hP (21 + 4 * k) 4 = h (21 + 4 * k) 4 := pe _ _ (by omega) (by omega) (by unfold scO; omega)
  have PRk : PR 2 k 53 hS gS := by
    have a1 := adS_k (t := 53) (k := 1) (tk := 0) (s := (i : Int)) (v := y) (h := adS 53 0 1 0 y (hw (hw hP 53 4 (hP (21 + 4 * k) 4)) 53 3 0))
    have a0 := adS_k (t := 53) (k := 0) (tk := 1) (s := 0) (v := y) (h := hw (hw hP 53 4 (hP (21 + 4 * k) 4)) 53 3 0)
    have s4 : hS 53 4 = h (21 + 4 * k) 4 := by
      rw [eS]
      unfold adS
      rw [hw_ne (by omega), hw_ne (by omega), hw_ne (by omega), hw_ne (by omega), hw_ne (by omega), hw_ne (by omega), hw_ne (by omega), hw_ne (by omega), hw_ne (by omega), hw_eq, e4]
    refine ⟨by decide, by omega, by rw [eS]; exact a1.1, by rw [gE 93 k (by unfold scO; omega)]; exact v2, by rw [s4]; omega, by rw [s4]; exact w3, by rw [s4, gH 92 k (by unfold scO; omega) (by omega)]; exact w5 rm, fun q hq => ?_⟩
    rcases (show q = 0 ∨ q = 1 by omega) with rfl | rfl
    · rw [eS, adS_q (t := 53) (i := 1) (by omega) (by omega), adS_q (t := 53) (i := 2) (by omega) (by omega), adS_q (t := 53) (i := 3) (by omega) (by omega), a0.2.1, a0.2.2.1, a0.2.2.2, gE 94 _ (by unfold scO; omega), gE 95 _ (by unfold scO; omega), Nat.add_zero, v3, v4]
      exact ⟨⟨by omega, by omega, rfl⟩, Or.inr ⟨rfl, rfl, rfl⟩⟩
    · rw [eS, a1.2.1, a1.2.2.1, a1.2.2.2, gE 94 _ (by unfold scO; omega), gE 95 _ (by unfold scO; omega), v5, v6]
      exact ⟨⟨by omega, by omega, rfl⟩, Or.inl ⟨rfl, by omega, by omega, rfl⟩⟩
  obtain ⟨cr, ecr⟩ : ∃ cr : Nat → Nat, cr = fun q => if q = k then 54 else 0 := ⟨_, rfl⟩
  have crk : cr k = 54 := by rw [ecr]; exact if_pos rfl
  have cro : ∀ q, q ≠ k → cr q = 0 := fun q hq => by rw [ecr]; exact if_neg hq
  have S : ST N A t cr (fun _ => 2) h hS gS := by
    refine ⟨i1.1, L, (show bX h h from ⟨⟨fun _ _ _ => rfl, rfl⟩, fun _ _ => rfl, fun _ => rfl⟩).of (fun c j z => sH c j (by omega) (by omega) (by unfold scO; omega)), (show bM h h from ⟨⟨fun _ _ _ => rfl, rfl⟩, fun _ _ => rfl⟩).of (fun c j z => gH c j (by unfold scO; omega) (by omega)), fun j hj => ⟨⟨(i2 j hj).1.1, (i2 j hj).2.1.1, (i2 j hj).2.2.1⟩, (i2 j hj).1.2⟩, by rw [sH 1 4 (by omega) (by omega) (by unfold scO; omega)]; exact i1.2.1, by rw [gH 83 12 (by unfold scO; omega) (by omega)]; exact i1.2.2, by rw [gH 84 14 (by unfold scO; omega) (by omega)]; exact i4.1, (WY.of i8).ag (fun j => sH 10 j (by omega) (by omega) (by unfold scO; omega)) (fun j => gH 91 j (by unfold scO; omega) (by omega)), fun q hq => ?_⟩
    by_cases z : q = k
    · subst z
      exact Or.inr ⟨by rw [crk]; omega, by rw [crk]; exact PRk⟩
    · exact Or.inl (cro q z)
  have h32 : 2 ^ k < 32 := by rcases (show k = 0 ∨ k = 1 ∨ k = 2 ∨ k = 3 ∨ k = 4 by omega) with rfl | rfl | rfl | rfl | rfl <;> decide
  obtain ⟨CL, eCL⟩ : ∃ CL : Nat → Hp → Option Hp, CL = fun q h => if q ≤ k then bv (F_X5_goOn N (k : Int) 0 0 (hw (hw h 59 k (54 : Int)) 61 k 0)) some else some h := ⟨_, rfl⟩
  have cl1 : ∀ q h, q ≤ k → CL q h = bv (F_X5_goOn N (k : Int) 0 0 (hw (hw h 59 k (54 : Int)) 61 k 0)) some := fun q h z => by rw [eCL]; exact if_pos z
  have cl2 : ∀ q h, ¬ q ≤ k → CL q h = some h := fun q h z => by rw [eCL]; exact if_neg z
  obtain ⟨h1, h2, g2, hE, x', a1, a2, a3, a4, a5, a6, a7, a8, a9⟩ := nightC (N := N) (st := 0) (cc := 2 ^ k) hN S ⟨by omega, by omega⟩ (by rw [gH 83 51 (by unfold scO; omega) (by omega)]; exact i10) h32 (by rw [gE 83 13 (by unfold scO; omega)]; exact v1) (fun q hq => by
      rw [Nat.testBit_two_pow]
      by_cases z : q = k
      · subst z; rw [crk]; exact ⟨fun _ => by simp, fun _ => by omega⟩
      · rw [cro q z]; exact ⟨fun y => absurd rfl y, fun y => absurd (by simpa using y) (fun y' : k = q => z y'.symm)⟩) CL (fun h => cl2 5 h (by omega)) (fun q hh hq _ => by
      by_cases z : q = k
      · subst z
        rw [crk, if_neg (by omega), cl1 q hh (by omega), show CL (q + 1) = some from funext fun x => cl2 (q + 1) x (by omega)]
        rfl
      · rw [cro q z, if_pos rfl]
        by_cases z2 : q ≤ k
        · rw [cl1 q hh z2, cl1 (q + 1) hh (by omega)]
        · rw [cl2 q hh z2, cl2 (q + 1) hh (by omega)]) (fun j z1 z2 => by rw [sP 59 j (by omega), sP 62 j (by omega), sP 63 j (by omega), sP 64 j (by omega)]; exact p4 j z1 z2) (fun j z1 z2 => by rw [sP 57 j (by omega)]; exact p5 j z1 z2) (fun q hq => by
      have := i3 q hq
      rw [gH 84 q (by unfold scO; omega) (by omega), sP 58 q (by omega), p3 q hq, E 5 q (by unfold scO; omega)]
      exact ⟨this.1, this.2.1, this.2.2.1, fun z => this.2.2.2 (by cases hq : t.testBit q with | false => rfl | true => exact absurd hq z)⟩) (by rw [gH 84 15 (by unfold scO; omega) (by omega)]; exact hok 84 15)
  have NEo := NE_of a5 rfl a6 a4 a8 a9
  rw [eG] at a3 NEo a5
  refine ⟨h1, h2, cp17 g2 85 84 0, ?_, a2, fun c j z => ?_, NEo.2.1.1, slp hN (h1 := h1) a3 NEo, back a5⟩
  · rw [cl1 0 hS (by omega)] at a1
    have ick' : ∀ q, q < 5 → ICk hP cc q := fun q hq => by
      have := hck q hq
      unfold ICk PlanOK at this ⊢
      have ec : ∀ c, c ≤ 41 → ¬ c = 11 → ¬ c = 18 → ¬ c = 19 → hP c = h c := fun c z1 z2 z3 z4 => funext fun j => pe c j (by omega) (by omega) (by unfold scO; omega)
      have ec9 : ∀ c, 92 ≤ c → c ≤ 95 → hP c = h c := fun c z1 z2 => funext fun j => pe c j (by omega) (by omega) (by unfold scO; omega)
      rw [ec 20 (by omega) (by omega) (by omega) (by omega), ec (21 + 4 * q) (by omega) (by omega) (by omega) (by omega), ec (22 + 4 * q) (by omega) (by omega) (by omega) (by omega), ec (23 + 4 * q) (by omega) (by omega) (by omega) (by omega), ec (24 + 4 * q) (by omega) (by omega) (by omega) (by omega), ec9 92 (by omega) (by omega), ec9 93 (by omega) (by omega), ec9 94 (by omega) (by omega), ec9 95 (by omega) (by omega)]
      exact this
    have ca := s_cartAt (N := N) (k := (k : Int)) ick'
    rw [if_pos ⟨by omega, by omega⟩, Int.toNat_natCast] at ca
    have pl : F_X0_planOneStop N 53 y (i : Int) (hw hP 53 4 (hP (21 + 4 * k) 4)) = some hS := by
      unfold F_X0_planOneStop
      rw [bnd_s, x_add (k := 0) (by omega) (by rw [hw_eq]; rfl) (Or.inr rfl), bv_s, x_add (k := 1) (by omega) adS_k.1 (Or.inl rfl), bv_s, ← eS]
    unfold F_X11_sendOneCart F_X0_room F_X0_tellRoom F_X5_send_v2
    rw [p1, bv_s, ca, bd_s, if_neg (by omega), grd_t (cartR_n hk), bd_s, show 22 + 4 * k - 1 = 21 + 4 * k by omega, bnd_s, bv_s, pl, bv_s, s_isWithin, bd_s, if_pos (show 0 ≤ (k : Int) ∧ (k : Int) ≤ 4 from ⟨by omega, by omega⟩), if_neg (by decide), grd_t ⟨⟨by omega, by omega⟩, by decide⟩, bnd_s, grd_t ⟨by omega, by omega⟩, bnd_s, Int.toNat_natCast]
    cases hq : F_X5_goOn N (k : Int) 0 0 (hw (hw hS 59 k (54 : Int)) 61 k 0) with
    | none => rw [hq, bv_n] at a1; exact absurd a1 (by simp)
    | some h5 => rw [hq, bv_s] at a1; rw [bv_s, bv_s]; exact a1
  · unfold scO at z
    rw [a8 c j (by omega), a6.1 c j (by omega) (by omega) (by omega) (by omega) (by omega)]
    exact sH c j (by omega) (by omega) (by unfold scO; omega)
/-- what is slept with one stop at each street -/
def OV (N t k : Nat) (y : Int) (h : Hp) (v : Nat → Int) : Prop := ∀ i, i < 14 → t.testBit i = true → 0 ≤ v i ∧ (∀ h', EQO h h' → ∃ h1 h2, F_X11_sendOneCart N (k : Int) y (i : Int) h' = some h1 ∧ F_X5_goThrough N h1 = some h2 ∧ EQO h h2 ∧ h2 57 10 = v i) ∧ ∀ g, EQO (gst k y (i : Int) h) g → ∃ g', F_X12_sleptBy N g = some (v i, g') ∧ exS g g'
theorem os_v (hN : 1000000 ≤ N) (i1 : IT h t) (i2 : IS h) (i3 : ID h t) (i4 : IN h) (hk : k < 5) (tk : cc.testBit k = true) (hck : ∀ q, q < 5 → ICk h cc q) (i8 : IR h t) (L : LawOK N h A) (i10 : h 83 51 = 0) (hok : okH h) (hy : 1 ≤ y ∧ y ≤ 99) : ∃ v, OV N t k y h v := by
  refine ⟨fun i => (F_X12_sleptBy N (gst k y (i : Int) h)).elim 0 (·.1), fun i hi _ => ?_⟩
  have one := fun (h' g : Hp) => os_one (N := N) (h' := h') (g := g) hN i1 i2 i3 i4 hk tk hck i8 L i10 hok hy hi
  obtain ⟨h1, h2, g', a1, a2, a3, a4, a5, a6⟩ := one h _ (fun _ _ _ => rfl) (fun _ _ _ => rfl)
  have ev : (F_X12_sleptBy N (gst k y (i : Int) h)).elim 0 (·.1) = h2 57 10 := by rw [a5]; rfl
  simp only [ev]
  refine ⟨a4, fun h' E => ?_, fun g G => ?_⟩
  · obtain ⟨b1, b2, g'', c1, c2, c3, c4, c5, c6⟩ := one h' _ E (fun _ _ _ => rfl)
    rw [a5] at c5
    exact ⟨b1, b2, c1, c2, c3, by have := Option.some.inj c5; exact (congrArg Prod.fst this).symm⟩
  · obtain ⟨b1, b2, g'', c1, c2, c3, c4, c5, c6⟩ := one h g (fun _ _ _ => rfl) G
    rw [a1] at c1
    obtain rfl : h1 = b1 := by simpa using c1
    rw [a2] at c2
    obtain rfl : h2 = b2 := by simpa using c2
    exact ⟨g'', c5, c6⟩
theorem os_x {v : Nat → Int} (hN : 1000000 ≤ N) (i1 : IT h t) (V : OV N t k y h v) {m : Int} : ∀ (d q : Nat) (h' : Hp), d ≤ 14 → d < q → EQO h h' → ∃ h2, L_X11_oneStop_53 N q (k : Int) y m (bo t v (14 - d)).1 (bo t v (14 - d)).2 ((14 - d : Nat) : Int) h' = some (if m = 0 then (bo t v 14).1 else (bo t v 14).2, h2) ∧ EQO h h2
  | 0, q + 1, h', _, _, E => by
    unfold L_X11_oneStop_53
    rw [if_pos (by omega)]
    by_cases z : m = 0
    · rw [if_pos z, if_pos z]; exact ⟨h', rfl, E⟩
    · rw [if_neg z, if_neg z]; exact ⟨h', rfl, E⟩
  | d + 1, q + 1, h', hd, hq, E => by
    have e14 : h' 1 4 = (t : Int) := by rw [E 1 4 (by unfold scO; omega)]; exact i1.2.1
    have es : 14 - d = (14 - (d + 1)) + 1 := by omega
    have hi : 14 - (d + 1) < 14 := by omega
    have ih := fun h'' => os_x hN i1 V (m := m) d q h'' (by omega) (by omega)
    rw [es] at ih
    obtain ⟨i, ei⟩ : ∃ i, i = 14 - (d + 1) := ⟨_, rfl⟩
    rw [← ei] at ih hi ⊢
    unfold L_X11_oneStop_53 J_X11_oneStop_112
    rw [if_neg (by omega), s_isTold i1.1 e14, bd_s]
    by_cases z : t.testBit i = true
    · obtain ⟨-, V1, -⟩ := V i hi z
      obtain ⟨h1, h2, a1, a2, a3, a4⟩ := V1 h' E
      rw [if_pos (show isT t (i : Int) from ⟨by omega, by omega, by rw [Int.toNat_natCast]; exact z⟩), if_neg (by decide), a1, bv_s, a2, bv_s]
      unfold F_X5_slept
      rw [bd_s, a4]
      have eb : bo t v (i + 1) = if v i ≤ (bo t v i).2 then bo t v i else ((i : Int), v i) := by
        conv => lhs; unfold bo
        rw [if_pos z]
      rw [eb] at ih
      by_cases y1 : v i ≤ (bo t v i).2
      · rw [if_pos y1] at ih ⊢
        rw [bnd_s, inc (by omega)]
        exact ih h2 a3
      · rw [if_neg y1] at ih ⊢
        rw [bd_s, bnd_s, inc (by omega)]
        exact ih h2 a3
    · have eb : bo t v (i + 1) = bo t v i := by
        conv => lhs; unfold bo
        rw [if_neg z]
      rw [eb] at ih
      rw [if_neg (fun y : isT t (i : Int) => z (by have := y.2.2; rw [Int.toNat_natCast] at this; exact this)), if_pos rfl, bnd_s, inc (by omega)]
      exact ih h' E
theorem os_m {v : Nat → Int} (hN : 1000000 ≤ N) (hk : k < 5) (i1 : IT h t) (V : OV N t k y h v) {m : Int} {h0 : Hp} (E0 : EQO h h0) (ht : t ≠ 0) : ∀ (d q : Nat) (x12 x13 : Int) (s : Int) (g : Hp), d ≤ 14 → d < q → EQO (gst k y s h) g → ((x12 = (bo t v (14 - d)).1 ∧ x13 = (bo t v (14 - d)).2 ∧ 0 ≤ x12) ∨ (x12 = -1 ∧ (bo t v (14 - d)).2 = -2 ∧ ∀ i, i < 14 - d → ¬ t.testBit i = true)) → ∃ g2, L_X12_oneStop_162 N q (k : Int) m ((16 * k : Nat) : Int) (h0 93 k) (h0 94 (16 * k)) (h0 94 (16 * k + 1)) (h0 95 (16 * k)) (h0 95 (16 * k + 1)) (h0 83 13) x12 x13 ((14 - d : Nat) : Int) g = some (if m = 0 then (bo t v 14).1 else (bo t v 14).2, g2) ∧ EQO h g2
  | 0, q + 1, x12, x13, s, g, _, _, G, R => by
    have hw1 : w32 (((16 * k : Nat) : Int) + 1) = ((16 * k + 1 : Nat) : Int) := inc (by omega)
    unfold L_X12_oneStop_162
    rw [if_pos (by omega), bnd_s, grd_t ⟨by omega, by omega⟩, bnd_s, grd_t ⟨by omega, by omega⟩, bnd_s, hw1, grd_t ⟨by omega, by omega⟩, bnd_s, grd_t ⟨by omega, by omega⟩, bnd_s, grd_t ⟨by omega, by omega⟩, bnd_s]
    simp only [Int.toNat_natCast]
    have R' : x12 = (bo t v 14).1 ∧ x13 = (bo t v 14).2 := by
      rcases R with z | z
      · exact ⟨z.1, z.2.1⟩
      · refine absurd (Nat.eq_of_testBit_eq fun i => ?_) ht
        rw [Nat.zero_testBit]
        by_cases w : i < 14
        · cases hq : t.testBit i with
          | false => rfl
          | true => exact absurd hq (z.2.2 i (by omega))
        · exact Nat.testBit_lt_two_pow (Nat.lt_of_lt_of_le i1.1 (Nat.pow_le_pow_right (n := 2) (by omega) (show 14 ≤ i by omega)))
    rw [R'.1, R'.2]
    have fin : EQO h (hw (hw (hw (hw (hw (hw g 83 13 (h0 83 13)) 93 k (h0 93 k)) 94 (16 * k) (h0 94 (16 * k))) 94 (16 * k + 1) (h0 94 (16 * k + 1))) 95 (16 * k) (h0 95 (16 * k))) 95 (16 * k + 1) (h0 95 (16 * k + 1))) := fun c j z => by
      have e0 := E0 c j z
      by_cases w1 : c = 95 ∧ j = 16 * k + 1
      · obtain ⟨rfl, rfl⟩ := w1; rw [hw_eq]; exact e0
      rw [hw_ne w1]
      by_cases w2 : c = 95 ∧ j = 16 * k
      · obtain ⟨rfl, rfl⟩ := w2; rw [hw_eq]; exact e0
      rw [hw_ne w2]
      by_cases w3 : c = 94 ∧ j = 16 * k + 1
      · obtain ⟨rfl, rfl⟩ := w3; rw [hw_eq]; exact e0
      rw [hw_ne w3]
      by_cases w4 : c = 94 ∧ j = 16 * k
      · obtain ⟨rfl, rfl⟩ := w4; rw [hw_eq]; exact e0
      rw [hw_ne w4]
      by_cases w5 : c = 93 ∧ j = k
      · obtain ⟨rfl, rfl⟩ := w5; rw [hw_eq]; exact e0
      rw [hw_ne w5]
      by_cases w6 : c = 83 ∧ j = 13
      · obtain ⟨rfl, rfl⟩ := w6; rw [hw_eq]; exact e0
      rw [hw_ne w6, G c j z]
      unfold gst
      rw [hw_ne w3, hw_ne w1, hw_ne w2, hw_ne w4, hw_ne w5, hw_ne w6]
    by_cases z : m = 0
    · rw [if_pos z, if_pos z]; exact ⟨_, rfl, fin⟩
    · rw [if_neg z, if_neg z]; exact ⟨_, rfl, fin⟩
  | d + 1, q + 1, x12, x13, s, g, hd, hq, G, R => by
    have hw1 : w32 (((16 * k : Nat) : Int) + 1) = ((16 * k + 1 : Nat) : Int) := inc (by omega)
    have e12 : g 83 12 = (t : Int) := by rw [G 83 12 (by unfold scO; omega), gst_o (by omega)]; exact i1.2.2
    have es : 14 - d = (14 - (d + 1)) + 1 := by omega
    have hi : 14 - (d + 1) < 14 := by omega
    have ih := fun x y' s' g' => os_m hN hk i1 V (m := m) E0 ht d q x y' s' g' (by omega) (by omega)
    rw [es] at ih
    obtain ⟨i, ei⟩ : ∃ i, i = 14 - (d + 1) := ⟨_, rfl⟩
    rw [← ei] at ih hi R ⊢
    unfold L_X12_oneStop_162 J_X12_oneStop_212 J_X12_oneStop_220
    rw [if_neg (by omega), s_isStreet i1.1 e12, bd_s]
    by_cases z : t.testBit i = true
    · obtain ⟨V0, -, V2⟩ := V i hi z
      have G2 : EQO (gst k y (i : Int) h) (hw g 94 (16 * k + 1) (i : Int)) := fun c j z => by
        unfold gst
        by_cases w : c = 94 ∧ j = 16 * k + 1
        · obtain ⟨rfl, rfl⟩ := w; rw [hw_eq, hw_eq]
        · rw [hw_ne w, hw_ne w, G c j z]; unfold gst; rw [hw_ne w]
      obtain ⟨g', a1, a2⟩ := V2 _ G2
      have G3 : EQO (gst k y (i : Int) h) g' := fun c j z => by
        rw [a2 c j (by unfold scO at z; omega) (by unfold scO at z; omega) (by unfold scO at z; omega) (by unfold scO at z; omega) (by unfold scO at z; omega) (by unfold scO at z; omega)]
        exact G2 c j z
      rw [if_pos (show isT t (i : Int) from ⟨by omega, by omega, by rw [Int.toNat_natCast]; exact z⟩), if_neg (by decide), hw1, grd_t ⟨by omega, by omega⟩, bnd_s, Int.toNat_natCast, a1, bd_s]
      have eb : bo t v (i + 1) = if v i ≤ (bo t v i).2 then bo t v i else ((i : Int), v i) := by
        conv => lhs; unfold bo
        rw [if_pos z]
      rw [eb] at ih
      rcases R with ⟨r1, r2, r3⟩ | ⟨r1, r2, r3⟩
      · rw [if_neg (by omega)]
        by_cases y1 : v i ≤ (bo t v i).2
        · rw [if_pos y1] at ih
          rw [if_neg (by omega), bnd_s, inc (by omega)]
          exact ih x12 x13 _ g' G3 (Or.inl ⟨r1, r2, r3⟩)
        · rw [if_neg y1] at ih
          rw [if_pos (by omega), bnd_s, inc (by omega)]
          exact ih _ _ _ g' G3 (Or.inl ⟨rfl, rfl, by omega⟩)
      · rw [if_pos r1, bnd_s, inc (by omega)]
        rw [if_neg (by omega)] at ih
        exact ih _ _ _ g' G3 (Or.inl ⟨rfl, rfl, by omega⟩)
    · have eb : bo t v (i + 1) = bo t v i := by
        conv => lhs; unfold bo
        rw [if_neg z]
      rw [eb] at ih
      rw [if_neg (fun y : isT t (i : Int) => z (by have := y.2.2; rw [Int.toNat_natCast] at this; exact this)), if_pos rfl, bnd_s, inc (by omega)]
      refine ih x12 x13 s g G ?_
      rcases R with r | ⟨r1, r2, r3⟩
      · exact Or.inl r
      · exact Or.inr ⟨r1, r2, fun j hj => by
          by_cases w : j = i
          · subst w; exact z
          · exact r3 j (by omega)⟩
end OS
theorem bo_0 {v : Nat → Int} : ∀ n, bo 0 v n = (-2, -2)
  | 0 => rfl
  | n + 1 => by unfold bo; rw [Nat.zero_testBit, if_neg (by decide)]; exact bo_0 n
theorem op_oneStop {N : Nat} (hN : 1000000 ≤ N) : ∀ a1 : Int, inR a1 → ∀ a2 : Int, inR a2 → ∀ a3 : Int, inR a3 → Sm (Inv N) (F_X11_oneStop N a1 a2 a3) (F_X12_oneStop N a1 a2 a3) := by
  intro k0 _ y _ m _ h hok hI
  obtain ⟨t, i1, i2, i3, i4, i5, i6, ⟨cc, hcc, hc13, hck⟩, i8, ⟨i9, A, L⟩, i10⟩ := id hI
  unfold F_X11_oneStop F_X12_oneStop F_X1_night
  rw [s_isToldCart hck, bd_s]
  have t14v : (14 : Int).toNat = 14 := rfl
  by_cases q1 : 0 ≤ k0 ∧ k0 ≤ 4 ∧ cc.testBit k0.toNat = true
  rotate_left
  · exact ⟨-1, h, h, by rw [if_neg q1, if_pos rfl], by rw [s_isCart hcc hc13, bd_s, if_neg q1, if_pos rfl], hI⟩
  rw [if_pos q1, if_neg (by decide), s_isWithin, bd_s]
  by_cases q2 : 1 ≤ y ∧ y ≤ 99
  rotate_left
  · exact ⟨-1, h, h, by rw [if_neg q2, if_pos rfl], by rw [s_isCart hcc hc13, bd_s, if_pos q1, if_neg (by decide), s_in, bd_s, if_neg q2, if_pos rfl], hI⟩
  rw [if_pos q2, if_neg (by decide), s_isWithin, bd_s]
  by_cases q3 : 0 ≤ m ∧ m ≤ 1
  rotate_left
  · exact ⟨-1, h, h, by rw [if_neg q3, if_pos rfl], by rw [s_isCart hcc hc13, bd_s, if_pos q1, if_neg (by decide), s_in, bd_s, if_pos q2, if_neg (by decide), s_in, bd_s, if_neg q3, if_pos rfl], hI⟩
  rw [if_pos q3, if_neg (by decide), bd_s]
  by_cases q4 : h 1 5 < 9999
  rotate_left
  · exact ⟨-1, h, h, by rw [if_neg q4], by rw [s_isCart hcc hc13, bd_s, if_pos q1, if_neg (by decide), s_in, bd_s, if_pos q2, if_neg (by decide), s_in, bd_s, if_pos q3, if_neg (by decide), t14v, i4.1, if_pos (by have := i4.2.2.1; omega)], hI⟩
  rw [if_pos q4]
  obtain ⟨k, rfl⟩ : ∃ k : Nat, k0 = (k : Int) := ⟨k0.toNat, by omega⟩
  have hk : k < 5 := by omega
  have tk : cc.testBit k = true := by have := q1.2.2; rw [Int.toNat_natCast] at this; exact this
  obtain ⟨v, V⟩ := os_v (N := N) hN i1 i2 i3 i4 hk tk hck i8 L i10 hok q2
  obtain ⟨h2, a1, a2⟩ := os_x (N := N) hN i1 V (m := m) 14 N h (by omega) (by omega) (fun _ _ _ => rfl)
  have b0 : bo t v (14 - 14) = (-2, -2) := rfl
  rw [b0, show ((14 - 14 : Nat) : Int) = 0 by omega] at a1
  have e13 : h2 83 13 = (cc : Int) := by rw [a2 83 13 (by unfold scO; omega)]; exact hc13
  have e14 : h2 84 14 = h 1 5 := by rw [a2 84 14 (by unfold scO; omega)]; exact i4.1
  have e12 : h2 83 12 = (t : Int) := by rw [a2 83 12 (by unfold scO; omega)]; exact i1.2.2
  by_cases q5 : t = 0
  · refine ⟨-2, h2, h2, ?_, ?_, hI.eqo a2⟩
    · refine a1.trans ?_
      rw [q5, bo_0]
      by_cases z : m = 0
      · rw [if_pos z]
      · rw [if_neg z]
    · rw [s_isCart hcc e13, bd_s, if_pos q1, if_neg (by decide), s_in, bd_s, if_pos q2, if_neg (by decide), s_in, bd_s, if_pos q3, if_neg (by decide), t14v, e14, if_neg (by omega), e12, if_pos (by omega)]
  · have w16 : w32 (16 * (k : Int)) = ((16 * k : Nat) : Int) := by rw [w32_id ⟨by omega, by omega⟩]; omega
    have hw1 : w32 (((16 * k : Nat) : Int) + 1) = ((16 * k + 1 : Nat) : Int) := inc (by omega)
    obtain ⟨g1, eg1⟩ : ∃ g1, g1 = hw (hw (hw (hw (hw h2 83 13 ((2 ^ k : Nat) : Int)) 93 k 2) 94 (16 * k) 14) 95 (16 * k) y) 95 (16 * k + 1) y := ⟨_, rfl⟩
    have G : EQO (gst k y (h 94 (16 * k + 1)) h) g1 := fun c j z => by
      have e0 := a2 c j z
      unfold gst
      rw [eg1]
      by_cases w : c = 94 ∧ j = 16 * k + 1
      · obtain ⟨rfl, rfl⟩ := w
        rw [hw_eq, hw_ne (by omega), hw_ne (by omega), hw_ne (by omega), hw_ne (by omega), hw_ne (by omega)]; exact e0
      rw [hw_ne (h := hw (hw (hw (hw (hw h 83 13 ((2 ^ k : Nat) : Int)) 93 k 2) 94 (16 * k) 14) 95 (16 * k) y) 95 (16 * k + 1) y) w]
      unfold hw
      simp only [e0]
    obtain ⟨g2, b1, b2⟩ := os_m (N := N) hN hk i1 V (m := m) a2 q5 14 N (-1) 0 _ g1 (by omega) (by omega) G (Or.inr ⟨rfl, rfl, fun i hi => absurd hi (by omega)⟩)
    rw [show ((14 - 14 : Nat) : Int) = 0 by omega] at b1
    refine ⟨_, h2, g2, a1, ?_, hI.eqo b2⟩
    rw [s_isCart hcc e13, bd_s, if_pos q1, if_neg (by decide), s_in, bd_s, if_pos q2, if_neg (by decide), s_in, bd_s, if_pos q3, if_neg (by decide), t14v, e14, if_neg (by omega), e12, if_neg (by omega), bnd_s, w16, grd_t ⟨by omega, by omega⟩, bnd_s, grd_t ⟨by omega, by omega⟩, bnd_s, hw1, grd_t ⟨by omega, by omega⟩, bnd_s, grd_t ⟨by omega, by omega⟩, bnd_s, grd_t ⟨by omega, by omega⟩, bnd_s, bnd_s, ishl_1 (by omega), bnd_s, grd_t ⟨by omega, by omega⟩, bnd_s, grd_t ⟨by omega, by omega⟩, bnd_s, grd_t ⟨by omega, by omega⟩, bnd_s, grd_t ⟨by omega, by omega⟩, bnd_s]
    simp only [Int.toNat_natCast]
    rw [← eg1]
    exact b1
