/-! PLAN -/
def adS (t k : Nat) (tk s v : Int) (h : Hp) : Hp := hw (hw (hw (hw h (t + 3) k tk) (t + 1) k s) (t + 2) k v) t 3 ((k + 1 : Nat) : Int)
theorem x_add {N t k : Nat} {tk s v : Int} {h : Hp} (hk : k < 16) (e : h t 3 = (k : Int)) (htk : tk = 0 ∨ tk = 1) : F_X0_addStop N t tk s v h = some (adS t k tk s v h) := by
  have g16 : 0 ≤ (k : Int) ∧ (k : Int) < 16 := ⟨by omega, by omega⟩
  unfold F_X0_addStop adS
  rw [e, if_neg (by omega), grd_t ⟨g16, htk⟩, bnd_s, Int.toNat_natCast, hw_ne (by omega), e, grd_t g16, bnd_s, Int.toNat_natCast, hw_ne (by omega), hw_ne (by omega), e, grd_t g16, bnd_s, Int.toNat_natCast, hw_ne (by omega), hw_ne (by omega), hw_ne (by omega), e, inc (by omega), bnd_s]
theorem adS_c {t k : Nat} {tk s v : Int} {h : Hp} {c j : Nat} (z : ¬ (t ≤ c ∧ c ≤ t + 3)) : adS t k tk s v h c j = h c j := by
  unfold adS
  rw [hw_ne (by omega), hw_ne (by omega), hw_ne (by omega), hw_ne (by omega)]
theorem adS_k {t k : Nat} {tk s v : Int} {h : Hp} : adS t k tk s v h t 3 = ((k + 1 : Nat) : Int) ∧ adS t k tk s v h (t + 1) k = s ∧ adS t k tk s v h (t + 2) k = v ∧ adS t k tk s v h (t + 3) k = tk := by
  unfold adS
  refine ⟨hw_eq, ?_, ?_, ?_⟩
  · rw [hw_ne (by omega), hw_ne (by omega), hw_eq]
  · rw [hw_ne (by omega), hw_eq]
  · rw [hw_ne (by omega), hw_ne (by omega), hw_ne (by omega), hw_eq]
theorem adS_q {t k q i : Nat} {tk s v : Int} {h : Hp} (hq : q ≠ k) (hi : 1 ≤ i ∧ i ≤ 3) : adS t k tk s v h (t + i) q = h (t + i) q := by
  unfold adS
  rw [hw_ne (by omega), hw_ne (by omega), hw_ne (by omega), hw_ne (by omega)]
def SE (s y k a b : Int) : Prop := (0 ≤ y ∧ y ≤ 99 ∧ b = y) ∧ ((k = 0 ∧ 0 ≤ s ∧ s ≤ 13 ∧ a = s) ∨ (k = 1 ∧ s = 0 ∧ a = 14))
def SR (k : Nat) (h g : Hp) : Prop := ∀ q, q < k → SE (h 54 q) (h 55 q) (h 56 q) (g 111 q) (g 112 q)
def exX (h h' : Hp) : Prop := ∀ c j, ¬ (c = 41 ∨ (53 ≤ c ∧ c ≤ 56)) → h' c j = h c j
def exM (g g' : Hp) : Prop := ∀ c j, ¬ ((c = 83 ∧ (j = 16 ∨ j = 18 ∨ j = 19 ∨ j = 41)) ∨ c = 111 ∨ c = 112) → g' c j = g c j
theorem exX.tr {a b c : Hp} (h1 : exX a b) (h2 : exX b c) : exX a c := fun x j p => (h2 x j p).trans (h1 x j p)
theorem exM.tr {a b c : Hp} (h1 : exM a b) (h2 : exM b c) : exM a c := fun x j p => (h2 x j p).trans (h1 x j p)
theorem TC.ag {b : Nat → Int} {L n p : Nat} {f : Int} {h h' : Hp} (H : TC b L n p f h) (e : ∀ c j, c = 41 ∨ c = 42 → h' c j = h c j) : TC b L n p f h' := ⟨by rw [e 41 1 (by omega)]; exact H.1, by rw [e 41 2 (by omega)]; exact H.2.1, by rw [e 41 3 (by omega)]; exact H.2.2.1, by rw [e 41 4 (by omega)]; exact H.2.2.2.1, by rw [e 41 5 (by omega)]; exact H.2.2.2.2.1, fun j hj => by rw [e 42 j (by omega)]; exact H.2.2.2.2.2 j hj⟩
section PL
variable {b : Nat → Int} {N L n p k : Nat} {h g : Hp}
/-- what one stop comes to, on both sides -/
def ST1 (b : Nat → Int) (L n p k : Nat) (g h' g' : Hp) (fb : Int) : Prop := exM g g' ∧ ∃ p', p ≤ p' ∧ p' ≤ n ∧ ((∃ f, f ≠ 0 ∧ fb = 0 ∧ TC b L n p' f h' ∧ g' 83 18 = f) ∨ (k < 16 ∧ p < p' ∧ fb = 1 ∧ TC b L n p' 0 h' ∧ MC b L n p' g' ∧ h' 53 3 = ((k + 1 : Nat) : Int) ∧ g' 83 41 = ((k + 1 : Nat) : Int) ∧ SR (k + 1) h' g'))
theorem st_56 {f tk s0 : Int} (hf : f ≠ 0) (H : TC b L n p f h) : J_X0_readStop_56 N 53 tk s0 h = some h := by
  unfold J_X0_readStop_56
  rw [x_sound H, bd_s, if_neg hf, if_pos rfl]
theorem st_42 (hN : 1000000 ≤ N) (T : TXT b L n) (H : TC b L n p 0 h) (M : MC b L n p g) (hp : p < n) (hk : k ≤ 16) (e53 : h 53 3 = (k : Int)) (e41 : g 83 41 = (k : Int)) (S : SR k h g) {tk s0 a : Int} (hs : (tk = 0 ∧ 0 ≤ s0 ∧ s0 ≤ 13 ∧ a = s0) ∨ (tk = 1 ∧ s0 = 0 ∧ a = 14)) (eM : ¬ k = 16 → J_X12_readsStop_26 N g = J_X12_readsStop_74 N (k : Int) a g) : ∃ h' g' fb, J_X0_readStop_42 N 53 tk s0 h = some h' ∧ exX h h' ∧ J_X12_readsStop_26 N g = some (fb, g') ∧ ST1 b L n p k g h' g' fb := by
  have T1 := T.1
  have T2 := T.2.1
  unfold J_X0_readStop_42
  rw [e53]
  by_cases k6 : k = 16
  · obtain ⟨h', a1, a2, a3⟩ := x_fail (N := N) H (by omega) (k := 4) (by omega)
    have a1 : F_X10_fail N 4 h = some h' := a1
    rw [if_pos rfl] at a2
    have e : F_X12_wrongAt N 4 (p : Int) g = some (0, hw g 83 18 (-1000 * ((4 : Nat) : Int) - p)) := m_wrong (N := N) (k := 4) (w := p) (by omega) (by omega)
    rw [if_neg (by omega), a1, bv_s, st_56 (by omega) a2]
    refine ⟨h', hw g 83 18 (-1000 * ((4 : Nat) : Int) - p), 0, rfl, fun c j z => a3 c j (by omega), ?_, fun c j z => by rw [hw_ne (by omega)], p, Nat.le_refl _, by omega, Or.inl ⟨_, ?_, rfl, a2, hw_eq⟩⟩
    · unfold J_X12_readsStop_26
      rw [e41, if_pos (by omega), M.1, e, bd_s, grd_t (Or.inl rfl)]
    · omega
  · rw [if_pos (by omega), eM k6]
    unfold J_X0_readStop_56 J_X12_readsStop_74
    have g16 : 0 ≤ (k : Int) ∧ (k : Int) < 16 := ⟨by omega, by omega⟩
    obtain ⟨h1, a1, a2, a3⟩ := x_step (N := N) T H (by omega)
    obtain ⟨g1, eg1⟩ : ∃ g1, g1 = hw (hw g 111 k a) 83 16 ((p + 1 : Nat) : Int) := ⟨_, rfl⟩
    have M1 : MC b L n (p + 1) g1 := by rw [eg1]; exact (M.wc (by omega) (by omega)).st
    have x1 : exM g g1 := fun c j z => by rw [eg1, hw_ne (by omega), hw_ne (by omega)]
    obtain ⟨h2, b1, b2⟩ := x_num (N := N) hN T a2 (show p + 1 ≤ n by omega) (x1 := 2) (by omega)
    obtain ⟨g2, c1, c2⟩ := m_two (N := N) hN T M1 (show p + 1 ≤ n by omega)
    have tk01 : tk = 0 ∨ tk = 1 := by omega
    have e2 : h2 53 3 = (k : Int) := by rw [b1 53 3 (by omega), a3 53 3 (by omega)]; exact e53
    have xg2 : exM g g2 := fun c j z => by rw [c1 c j (by omega)]; exact x1 c j z
    rw [x_sound H, bd_s, if_pos rfl, if_neg (by decide), a1, bv_s, grd_t g16, bnd_s, Int.toNat_natCast, hw_ne (by omega), M.1, inc (by omega), bnd_s, ← eg1]
    have add : ∀ v, F_X0_addStop N 53 tk s0 v h2 = some (adS 53 k tk s0 v h2) := fun v => x_add (by omega) e2 tk01
    have fx : ∀ v, exX h (adS 53 k tk s0 v h2) := fun v c j z => by rw [adS_c (by omega), b1 c j (by omega), a3 c j (by omega)]
    have e41b : g2 83 41 = (k : Int) := by rw [c1 83 41 (by omega), eg1, hw_ne (by omega), hw_ne (by omega)]; exact e41
    rcases b2 with ⟨-, d1, d2, d3⟩ | ⟨d1, d2, d3⟩
    · rcases c2 with ⟨-, f2, f3, f4⟩ | ⟨f1, -⟩
      · have d2 : F_X10_readNumber N 2 h1 = some (rnv b n 2 (p + 1) 0, h2) := d2
        have rv := rnv_b (b := b) (n := n) 2 (p + 1) 0 (by omega)
        have rp := rnp_le T 2 (p + 1) (by omega)
        obtain ⟨v, ev⟩ : ∃ v, v = rnv b n 2 (p + 1) 0 := ⟨_, rfl⟩
        rw [← ev] at d2 f4 rv
        have rv : 0 ≤ v ∧ v ≤ 99 := ⟨rv.1, by have := rv.2; have e100 : ((10 ^ 2 : Nat) : Int) = 100 := rfl; rw [e100] at this; omega⟩
        rw [d2, bd_s, add v, bv_s, f2, bd_s, if_neg (by decide), e41b, grd_t g16, bnd_s, Int.toNat_natCast, f4, hw_ne (by omega), e41b, inc (by omega), bnd_s]
        refine ⟨_, _, 1, rfl, fx v, rfl, fun c j z => by rw [hw_ne (by omega), hw_ne (by omega)]; exact xg2 c j z, rnp b n 2 (p + 1), by omega, rp.2, Or.inr ⟨by omega, by omega, rfl, d3.ag (fun c j z => adS_c (by omega)), (f3.wc (by omega) (by omega)).w (by omega) (by omega), adS_k.1, hw_eq, fun q hq => ?_⟩⟩
        by_cases z : q = k
        · subst z
          have k1 : adS 53 q tk s0 v h2 54 q = s0 := adS_k.2.1
          have k2 : adS 53 q tk s0 v h2 55 q = v := adS_k.2.2.1
          have k3 : adS 53 q tk s0 v h2 56 q = tk := adS_k.2.2.2
          have k4 : hw (hw g2 112 q v) 83 41 ((q + 1 : Nat) : Int) 111 q = a := by rw [hw_ne (by omega), hw_ne (by omega), c1 111 q (by omega), eg1, hw_ne (by omega), hw_eq]
          have k5 : hw (hw g2 112 q v) 83 41 ((q + 1 : Nat) : Int) 112 q = v := by rw [hw_ne (by omega), hw_eq]
          rw [k1, k2, k3, k4, k5]
          exact ⟨⟨rv.1, rv.2, rfl⟩, hs⟩
        · have k1 : adS 53 k tk s0 v h2 54 q = h 54 q := (adS_q (i := 1) z (by omega)).trans (by rw [b1 54 q (by omega), a3 54 q (by omega)])
          have k2 : adS 53 k tk s0 v h2 55 q = h 55 q := (adS_q (i := 2) z (by omega)).trans (by rw [b1 55 q (by omega), a3 55 q (by omega)])
          have k3 : adS 53 k tk s0 v h2 56 q = h 56 q := (adS_q (i := 3) z (by omega)).trans (by rw [b1 56 q (by omega), a3 56 q (by omega)])
          have k4 : hw (hw g2 112 k v) 83 41 ((k + 1 : Nat) : Int) 111 q = g 111 q := by rw [hw_ne (by omega), hw_ne (by omega), c1 111 q (by omega), eg1, hw_ne (by omega), hw_ne (by omega)]
          have k5 : hw (hw g2 112 k v) 83 41 ((k + 1 : Nat) : Int) 112 q = g 112 q := by rw [hw_ne (by omega), hw_ne (by omega), c1 112 q (by omega), eg1, hw_ne (by omega), hw_ne (by omega)]
          rw [k1, k2, k3, k4, k5]
          exact S q (by omega)
      · exact absurd d1 f1
    · have nd : ¬ dgt (sg b n (p + 1)) := fun y => d1 ⟨rfl, y⟩
      rw [if_pos rfl] at d3
      have d2 : F_X10_readNumber N 2 h1 = some (0, h2) := d2
      rcases c2 with ⟨f1, -⟩ | ⟨-, f2, f3⟩
      · exact absurd f1 nd
      · rw [d2, bd_s, add 0, bv_s, f2, bd_s, if_pos rfl]
        exact ⟨_, g2, 0, rfl, fx 0, rfl, xg2, p + 1, by omega, by omega, Or.inl ⟨_, by omega, rfl, d3.ag (fun c j z => adS_c (by omega)), f3⟩⟩
theorem st_one (hN : 1000000 ≤ N) (T : TXT b L n) (H : TC b L n p 0 h) (M : MC b L n p g) (hp : p ≤ n) (hk : k ≤ 16) (e53 : h 53 3 = (k : Int)) (e41 : g 83 41 = (k : Int)) (S : SR k h g) : ∃ h' g' fb, F_X0_readStop N 53 h = some h' ∧ exX h h' ∧ F_X12_readsStop N g = some (fb, g') ∧ ST1 b L n p k g h' g' fb := by
  have T1 := T.1
  have T2 := T.2.1
  have sb := sg_b T p
  unfold F_X0_readStop F_X12_readsStop J_X0_readStop_22
  rw [x_sees H, bd_s, m_letter T M, bd_s]
  by_cases c43 : sg b n p = 43
  · have pn := sb.2.2 (by omega)
    obtain ⟨h', g', fb, a1, a2, a3, a4⟩ := st_42 (N := N) hN T H M pn hk e53 e41 S (tk := 1) (s0 := 0) (a := 14) (Or.inr ⟨rfl, rfl, rfl⟩) (fun q => by
      unfold J_X12_readsStop_26
      rw [e41, if_neg (by omega), m_here T M, bd_s, if_pos c43])
    refine ⟨h', g', fb, ?_, a2, ?_, a4⟩
    · rw [if_pos (show (0 : Int) = 0 ∧ sg b n p = 43 from ⟨rfl, c43⟩), if_neg (by decide), if_neg (by decide)]
      exact a1
    · rw [if_neg (show ¬ ltr (sg b n p) by omega), if_pos rfl, m_here T M, bd_s, if_pos c43]
      exact a3
  · have n43 : ¬ ((0 : Int) = 0 ∧ sg b n p = 43) := fun y => c43 y.2
    rw [if_neg n43, if_pos rfl, x_sign H, bd_s, if_pos rfl, x_street H, bd_s, w32_id ⟨by omega, by omega⟩]
    by_cases cl : ltr (sg b n p)
    · have pn := sb.2.2 (by omega)
      obtain ⟨h', g', fb, a1, a2, a3, a4⟩ := st_42 (N := N) hN T H M pn hk e53 e41 S (tk := 0) (s0 := sg b n p - 97) (a := sg b n p - 97) (Or.inl ⟨rfl, by omega, by omega, rfl⟩) (fun q => by
        unfold J_X12_readsStop_26
        rw [e41, if_neg (by omega), m_here T M, bd_s, if_neg c43, m_here T M, bd_s, w32_id ⟨by omega, by omega⟩])
      refine ⟨h', g', fb, ?_, a2, ?_, a4⟩
      · rw [if_pos (show (0 : Int) = 0 ∧ ltr (sg b n p) from ⟨rfl, cl⟩), if_neg (by decide)]
        exact a1
      · rw [if_pos cl, if_neg (by decide)]
        exact a3
    · obtain ⟨h', a1, a2, a3⟩ := x_fail (N := N) H (by omega) (k := 1) (by omega)
      have a1 : F_X10_fail N 1 h = some h' := a1
      rw [if_pos rfl] at a2
      have e : F_X12_wrongAt N 1 (p : Int) g = some (0, hw g 83 18 (-1000 * ((1 : Nat) : Int) - p)) := m_wrong (N := N) (k := 1) (w := p) (by omega) (by omega)
      have nl : ¬ ((0 : Int) = 0 ∧ ltr (sg b n p)) := fun y => cl y.2
      refine ⟨h', hw g 83 18 (-1000 * ((1 : Nat) : Int) - p), 0, ?_, fun c j z => a3 c j (by omega), ?_, fun c j z => by rw [hw_ne (by omega)], p, Nat.le_refl _, hp, Or.inl ⟨_, by omega, rfl, a2, hw_eq⟩⟩
      · rw [if_neg nl, if_pos rfl, a1, bv_s, st_56 (by omega) a2]
      · rw [if_neg cl, if_pos rfl, m_here T M, bd_s, if_neg c43, M.1, e, bd_s, grd_t (Or.inl rfl)]
theorem st_47 {f : Int} (H : TC b L n p f h) : J_X0_readStops_47 N 53 h = some (if f = 0 then h 53 3 else f, h) := by
  unfold J_X0_readStops_47
  rw [x_sound H, bd_s]
  by_cases z : f = 0
  · rw [if_pos z, if_neg (by decide), if_pos z]
  · rw [if_neg z, if_pos rfl, x_fault H, bd_s, if_neg z]
/-- all stops -/
theorem st_all (hN : 1000000 ≤ N) (T : TXT b L n) (a : Int) : ∀ (m q1 q2 p k : Nat) (h g : Hp), n - p < m → m < q1 → m < q2 → TC b L n p 0 h → MC b L n p g → p ≤ n → k ≤ 16 → h 53 3 = (k : Int) → g 83 41 = (k : Int) → SR k h g → ∃ r h' g' fb f p', L_X0_readStops_7 N 53 q1 (k : Int) h = some (r, h') ∧ exX h h' ∧ (bd (F_X12_readsStop N g) fun y h1 => L_X12_plan_49 N q2 a y h1) = J_X12_plan_89 N a fb g' ∧ exM g g' ∧ TC b L n p' f h' ∧ ((f ≠ 0 ∧ fb = 0 ∧ r = f ∧ g' 83 18 = f) ∨ (f = 0 ∧ fb = 1 ∧ ∃ K : Nat, K ≤ 16 ∧ r = (K : Int) ∧ h' 53 3 = (K : Int) ∧ g' 83 41 = (K : Int) ∧ SR K h' g'))
  | 0, _, _, _, _, _, _, hm, _, _, _, _, _, _, _, _, _ => absurd hm (by omega)
  | m + 1, q1, q2, p, k, h, g, hm, hq1, hq2, H, M, hp, hk, e53, e41, S => by
    have T1 := T.1
    have T2 := T.2.1
    obtain ⟨q1, rfl⟩ : ∃ q, q1 = q + 1 := ⟨q1 - 1, by omega⟩
    obtain ⟨q2, rfl⟩ : ∃ q, q2 = q + 1 := ⟨q2 - 1, by omega⟩
    obtain ⟨h1, g1, fb, a1, a2, a3, a4, p', a5, a6, a7⟩ := st_one (N := N) hN T H M hp hk e53 e41 S
    unfold L_X0_readStops_7
    rw [if_neg (by omega), x_sound H, bd_s, if_pos rfl, if_neg (by decide), a1, bv_s, a3, bd_s]
    rcases a7 with ⟨f, f0, rfl, c1, c2⟩ | ⟨k16, pp, rfl, c1, c2, c3, c4, c5⟩
    · unfold L_X12_plan_49
      rw [if_pos rfl, x_end c1, bd_s]
      by_cases z : p' < n
      · obtain ⟨h2, d1, d2, d3⟩ := x_need (N := N) T c1 (by omega) 44
        have d3 : TC b L n p' f h2 := by
          rcases d3 with ⟨y, -⟩ | ⟨-, y⟩
          · exact absurd y f0
          · rw [if_neg f0] at y; exact y
        obtain ⟨q1, rfl⟩ : ∃ q, q1 = q + 1 := ⟨q1 - 1, by omega⟩
        refine ⟨f, h2, g1, 0, f, p', ?_, exX.tr a2 (fun c j y => d2 c j (by omega)), rfl, a4, d3, Or.inl ⟨f0, rfl, rfl, c2⟩⟩
        rw [if_pos z, if_pos rfl, d1, bv_s, inc (by omega), bnd_s]
        unfold L_X0_readStops_7
        by_cases y : (16 : Int) < ((k + 1 : Nat) : Int)
        · rw [if_pos y, st_47 d3, if_neg f0]
        · rw [if_neg y, x_sound d3, bd_s, if_neg f0, if_pos rfl, st_47 d3, if_neg f0]
      · refine ⟨f, h1, g1, 0, f, p', ?_, a2, rfl, a4, c1, Or.inl ⟨f0, rfl, rfl, c2⟩⟩
        rw [if_neg z, if_neg (by decide), st_47 c1, if_neg f0]
    · rw [x_end c1, bd_s]
      by_cases z : p' < n
      · obtain ⟨h2, d1, d2, d3⟩ := x_need (N := N) T c1 (by omega) 44
        obtain ⟨g2, e1, e2⟩ := m_takes (N := N) T c2 a6 44
        rw [if_pos z, if_pos rfl, d1, bv_s, inc (by omega), bnd_s]
        have u49 : L_X12_plan_49 N (q2 + 1) a 1 g1 = bd (F_X12_takes N 44 g1) fun y2 h1 => if y2 = 0 then (L_X12_plan_49 N q2) a 0 h1 else bd (F_X12_readsStop N h1) fun y4 h3 => if y4 = 0 then (L_X12_plan_49 N q2) a 0 h3 else (L_X12_plan_49 N q2) a 1 h3 := by
          conv => lhs; unfold L_X12_plan_49
          rw [if_neg (by decide), c2.1, c2.2.1, if_neg (by omega)]
        have xh2 : exX h h2 := exX.tr a2 (fun c j y => d2 c j (by omega))
        have xg2 : exM g g2 := exM.tr a4 (fun c j y => e1 c j (by omega))
        rcases d3 with ⟨-, y, d3⟩ | ⟨y, d3⟩
        · rcases e2 with ⟨-, e2, e3⟩ | ⟨y2, -⟩
          · obtain ⟨r, h', g', fb, f, p2, b1, b2, b3, b4, b5, b6⟩ := st_all hN T a m q1 q2 (p' + 1) (k + 1) h2 g2 (by omega) (by omega) (by omega) d3 e3 (by omega) (by omega) (by rw [d2 53 3 (by omega)]; exact c3) (by rw [e1 83 41 (by omega)]; exact c4) (fun q hq => by
              rw [d2 54 q (by omega), d2 55 q (by omega), d2 56 q (by omega), e1 111 q (by omega), e1 112 q (by omega)]
              exact c5 q hq)
            refine ⟨r, h', g', fb, f, p2, b1, exX.tr xh2 b2, ?_, exM.tr xg2 b4, b5, b6⟩
            rw [u49, e2, bd_s, if_neg (by decide), ← b3]
            obtain ⟨h3, g3, fb3, s1, s2, s3, -, p3, -, -, s4⟩ := st_one (N := N) hN T d3 e3 (show p' + 1 ≤ n by omega) (show k + 1 ≤ 16 by omega) (by rw [d2 53 3 (by omega)]; exact c3) (by rw [e1 83 41 (by omega)]; exact c4) (fun q hq => by
              rw [d2 54 q (by omega), d2 55 q (by omega), d2 56 q (by omega), e1 111 q (by omega), e1 112 q (by omega)]
              exact c5 q hq)
            rw [s3, bd_s, bd_s]
            rcases s4 with ⟨_, -, rfl, -⟩ | ⟨-, -, rfl, -⟩
            · rw [if_pos rfl]
            · rw [if_neg (by decide)]
          · exact absurd y y2
        · have y : ¬ sg b n p' = 44 := fun w => y ⟨rfl, w⟩
          rw [if_pos rfl] at d3
          rcases e2 with ⟨y2, -⟩ | ⟨-, e2, e3⟩
          · exact absurd y2 y
          · obtain ⟨q1, rfl⟩ : ∃ q, q1 = q + 1 := ⟨q1 - 1, by omega⟩
            obtain ⟨q2, rfl⟩ : ∃ q, q2 = q + 1 := ⟨q2 - 1, by omega⟩
            have f0 : ¬ (-1000 - (p' : Int)) = 0 := by omega
            refine ⟨-1000 - (p' : Int), h2, g2, 0, -1000 - (p' : Int), p', ?_, xh2, ?_, xg2, d3, Or.inl ⟨f0, rfl, rfl, e3⟩⟩
            · unfold L_X0_readStops_7
              rw [if_neg (by omega), x_sound d3, bd_s, if_neg f0, if_pos rfl, st_47 d3, if_neg f0]
            · rw [u49, e2, bd_s, if_pos rfl]
              unfold L_X12_plan_49
              rw [if_pos rfl]
      · refine ⟨((k + 1 : Nat) : Int), h1, g1, 1, 0, p', ?_, a2, ?_, a4, c1, Or.inr ⟨rfl, rfl, k + 1, by omega, rfl, c3, c4, c5⟩⟩
        · rw [if_neg z, if_neg (by decide), st_47 c1, if_pos rfl, c3]
        · unfold L_X12_plan_49
          rw [if_neg (by decide), c2.1, c2.2.1, if_pos (by omega)]
end PL
section PL2
variable {N : Nat} {h g : Hp}
/-- the stops are taken over -/
theorem l_take {K c : Nat} (hK : K ≤ 16) (hc : c < 40) (h3 : g 53 3 = (K : Int)) (hR : ∀ q, q < K → g 56 q = 0 ∨ g 56 q = 1) : ∀ (m f q : Nat) (h : Hp), q + m = K → m < f → (∀ c' j, ¬ (c ≤ c' ∧ c' ≤ c + 3) → h c' j = g c' j) → h c 3 = (q : Int) → (∀ i, i < q → h (c + 1) i = g 54 i ∧ h (c + 2) i = g 55 i ∧ h (c + 3) i = g 56 i) → ∃ h', L_X0_takeStopsOf_7 N c f (q : Int) h = some h' ∧ (∀ c' j, ¬ (c ≤ c' ∧ c' ≤ c + 3) → h' c' j = g c' j) ∧ (∀ j, ¬ j = 3 → h' c j = h c j) ∧ h' c 3 = (K : Int) ∧ ∀ i, i < K → h' (c + 1) i = g 54 i ∧ h' (c + 2) i = g 55 i ∧ h' (c + 3) i = g 56 i
  | _, 0, _, _, _, hf, _, _, _ => absurd hf (by omega)
  | 0, f + 1, q, h, hq, _, F, e, R => by
    obtain rfl : q = K := by omega
    unfold L_X0_takeStopsOf_7
    rw [F 53 3 (by omega), h3, if_pos (by omega)]
    exact ⟨h, rfl, F, fun _ _ => rfl, e, R⟩
  | m + 1, f + 1, q, h, hq, hf, F, e, R => by
    have e53 : h 53 3 = (K : Int) := by rw [F 53 3 (by omega)]; exact h3
    have e54 : h 54 q = g 54 q := F 54 q (by omega)
    have e55 : h 55 q = g 55 q := F 55 q (by omega)
    have e56 : h 56 q = g 56 q := F 56 q (by omega)
    have w1 : (0 : Int) ≤ (q : Int) ∧ (q : Int) ≤ (K : Int) - 1 := ⟨by omega, by omega⟩
    have t1 : F_X0_takesOnAt N 53 (q : Int) h = some (g 56 q, h) := by
      unfold F_X0_takesOnAt
      rw [e53, w32_id ⟨by omega, by omega⟩, s_isWithin, bd_s, if_pos w1, if_neg (by decide), grd_t ⟨by omega, by omega⟩, Int.toNat_natCast]
      show (if h 56 q = 0 then some ((0 : Int), h) else some (1, h)) = _
      rw [e56]
      rcases hR q (by omega) with z | z
      · rw [z, if_pos rfl]
      · rw [z, if_neg (by decide)]
    have t2 : F_X0_streetOf N 53 (q : Int) h = some (g 54 q, h) := by
      unfold F_X0_streetOf
      rw [e53, w32_id ⟨by omega, by omega⟩, s_isWithin, bd_s, if_pos w1, if_neg (by decide), grd_t ⟨by omega, by omega⟩, Int.toNat_natCast, ← e54]
    have t3 : F_X0_yardsOf N 53 (q : Int) h = some (g 55 q, h) := by
      unfold F_X0_yardsOf
      rw [e53, w32_id ⟨by omega, by omega⟩, s_isWithin, bd_s, if_pos w1, if_neg (by decide), grd_t ⟨by omega, by omega⟩, Int.toNat_natCast, ← e55]
    obtain ⟨h', a1, a2, a3, a4, a5⟩ := l_take hK hc h3 hR m f (q + 1) (adS c q (g 56 q) (g 54 q) (g 55 q) h) (by omega) (by omega) (fun c' j z => by rw [adS_c z]; exact F c' j z) adS_k.1 (fun i hi => by
      by_cases z : i = q
      · subst z; exact ⟨adS_k.2.1, adS_k.2.2.1, adS_k.2.2.2⟩
      · rw [adS_q (i := 1) z (by omega), adS_q (i := 2) z (by omega), adS_q (i := 3) z (by omega)]; exact R i (by omega))
    refine ⟨h', ?_, a2, fun j z => ?_, a4, a5⟩
    · unfold L_X0_takeStopsOf_7
      rw [e53, if_neg (by omega), t1, bd_s, t2, bd_s, t3, bd_s, x_add (by omega) e (hR q (by omega)), bv_s, bnd_s, inc (by omega)]
      exact a1
    · rw [a3 j z]
      unfold adS
      rw [hw_ne (by omega), hw_ne (by omega), hw_ne (by omega), hw_ne (by omega)]
theorem l_p116 {K a : Nat} (hK : K ≤ 16) (ha : a < 5) (h41 : g 83 41 = (K : Int)) : ∀ (m f q : Nat) (h : Hp), q + m = K → m < f → (∀ c j, ¬ (c = 94 ∨ c = 95) → h c j = g c j) → (∀ c j, (c = 94 ∨ c = 95) → ¬ (16 * a ≤ j ∧ j < 16 * a + 16) → h c j = g c j) → (∀ i, i < q → h 94 (16 * a + i) = g 111 i ∧ h 95 (16 * a + i) = g 112 i) → ∃ h', L_X12_plan_116 N f (a : Int) (q : Int) h = some ((K : Int), h') ∧ (∀ c j, ¬ (c = 94 ∨ c = 95) → h' c j = g c j) ∧ (∀ c j, (c = 94 ∨ c = 95) → ¬ (16 * a ≤ j ∧ j < 16 * a + 16) → h' c j = g c j) ∧ ∀ i, i < K → h' 94 (16 * a + i) = g 111 i ∧ h' 95 (16 * a + i) = g 112 i
  | _, 0, _, _, _, hf, _, _, _ => absurd hf (by omega)
  | 0, f + 1, q, h, hq, _, F, F2, R => by
    obtain rfl : q = K := by omega
    unfold L_X12_plan_116
    rw [F 83 41 (by omega), h41, if_pos (by omega)]
    exact ⟨h, rfl, F, F2, R⟩
  | m + 1, f + 1, q, h, hq, hf, F, F2, R => by
    have ew : w32 (w32 (16 * (a : Int)) + (q : Int)) = ((16 * a + q : Nat) : Int) := by rw [w32_id (x := 16 * (a : Int)) ⟨by omega, by omega⟩, w32_id ⟨by omega, by omega⟩]; omega
    have g80 : 0 ≤ ((16 * a + q : Nat) : Int) ∧ ((16 * a + q : Nat) : Int) < 80 := ⟨by omega, by omega⟩
    have g16 : 0 ≤ (q : Int) ∧ (q : Int) < 16 := ⟨by omega, by omega⟩
    unfold L_X12_plan_116
    rw [F 83 41 (by omega), h41, if_neg (by omega)]
    simp only [ew, grd_t g80, grd_t g16, bnd_s, Int.toNat_natCast]
    clear ew
    rw [hw_ne (by omega), F 111 q (by omega), F 112 q (by omega), inc (by omega)]
    exact l_p116 hK ha h41 m f (q + 1) _ (by omega) (by omega) (fun c j z => by rw [hw_ne (by omega), hw_ne (by omega)]; exact F c j z) (fun c j z1 z2 => by rw [hw_ne (by omega), hw_ne (by omega)]; exact F2 c j z1 z2) (fun i hi => by
      by_cases z : i = q
      · subst z; exact ⟨by rw [hw_ne (by omega), hw_eq], by rw [hw_eq]⟩
      · rw [hw_ne (by omega), hw_ne (by omega), hw_ne (by omega), hw_ne (by omega)]; exact R i (by omega))
end PL2
theorem op_plan {N : Nat} (hN : 1000000 ≤ N) : ∀ a1 : Int, inR a1 → ∀ a2 : Int, inR a2 → Sm (Inv N) (F_X11_plan N a1 a2) (F_X12_plan N a1 a2) := by
  intro k _ x _ h hok hI
  obtain ⟨t, i1, i2, i3, i4, i5, ⟨L, hL, e1, e2, hb⟩, ⟨cc, hcc, hc13, hck⟩, i8, i9, i10⟩ := id hI
  unfold F_X11_plan F_X12_plan
  rw [s_cartAt hck, bd_s]
  by_cases q0 : 0 ≤ k ∧ k ≤ 4
  rotate_left
  · exact ⟨-1, h, h, by rw [if_neg q0, if_pos rfl], by rw [s_in, bd_s, if_neg q0, if_pos rfl], hI⟩
  obtain ⟨a, rfl⟩ : ∃ a : Nat, k = (a : Int) := ⟨k.toNat, by omega⟩
  have ha : a < 5 := by omega
  rw [if_pos q0, if_neg (by omega), s_isWithin, bd_s, Int.toNat_natCast]
  by_cases q1 : 1 ≤ x ∧ x ≤ 80
  rotate_left
  · exact ⟨-1, h, h, by rw [if_neg q1, if_pos rfl], by rw [s_in, bd_s, if_pos q0, if_neg (by decide), s_in, bd_s, if_neg q1, if_pos rfl], hI⟩
  rw [if_pos q1, if_neg (by decide), s_holds e1, bd_s]
  by_cases q2 : x ≤ (L : Int)
  rotate_left
  · exact ⟨-1, h, h, by rw [if_neg q2, if_pos rfl], by rw [s_in, bd_s, if_pos q0, if_neg (by decide), s_in, bd_s, if_pos q1, if_neg (by decide), e2, if_neg q2], hI⟩
  rw [if_pos q2, if_neg (by decide)]
  obtain ⟨n, rfl⟩ : ∃ n : Nat, x = (n : Int) := ⟨x.toNat, by omega⟩
  obtain ⟨b, eb⟩ : ∃ b : Nat → Int, b = h 42 := ⟨_, rfl⟩
  have T : TXT b L n := ⟨hL, by omega, fun j hj => by rw [eb]; exact ⟨(hb j hj).1, (hb j hj).2.1⟩⟩
  obtain ⟨ha1, o1, o2, o3⟩ := x_open (N := N) T (by omega) e1 (fun j hj => by rw [eb])
  have fin : ∀ h', exX h h' → ∃ gm, gm = hw (hw (hw (hw h' 41 1 0) 83 16 0) 83 17 (n : Int)) 83 41 0 := fun h' _ => ⟨_, rfl⟩
  obtain ⟨hs, ehs⟩ : ∃ hs, hs = hw ha1 53 3 0 := ⟨_, rfl⟩
  have Ts : TC b L n 0 0 hs := o2.ag (fun c j z => by rw [ehs, hw_ne (by omega)])
  have xs : exX h hs := fun c j z => by rw [ehs, hw_ne (by omega), o3 c j (by omega)]
  have run := fun (g : Hp) (M : MC b L n 0 g) (e41 : g 83 41 = 0) => st_all (N := N) hN T (a : Int) (n + 1) N N 0 0 hs g (by omega) (by omega) (by omega) Ts M (by omega) (by omega) (by rw [ehs, hw_eq]; rfl) e41 (fun q hq => absurd hq (by omega))
  -- a first run, for the class's own end
  obtain ⟨g0, eg0⟩ : ∃ g0 : Hp, g0 = hw (hw (hw h 83 16 0) 83 17 (n : Int)) 83 41 0 := ⟨_, rfl⟩
  have m96 : ∀ j, j < L → iand (h 96 j) 255 = b j := fun j hj => by rw [eb]; exact tp_and hb hj
  have mk : ∀ g : Hp, (∀ j, g 96 j = h 96 j) → MC b L n 0 (hw (hw (hw g 83 16 0) 83 17 (n : Int)) 83 41 0) ∧ hw (hw (hw g 83 16 0) 83 17 (n : Int)) 83 41 0 83 41 = 0 := fun g e96 => ⟨⟨by rw [hw_ne (by omega), hw_ne (by omega), hw_eq]; rfl, by rw [hw_ne (by omega), hw_eq], fun j hj => by rw [hw_ne (by omega), hw_ne (by omega), hw_ne (by omega), e96]; exact m96 j hj⟩, hw_eq⟩
  have eR : ∀ r h', L_X0_readStops_7 N 53 N ((0 : Nat) : Int) hs = some (r, h') → F_X0_readStops N 53 ha1 = some (r, h') := fun r h' e => by
    unfold F_X0_readStops
    rw [bnd_s, ← ehs]
    exact e
  have eM : ∀ (g : Hp) (v : Option (Int × Hp)), g 83 15 = (L : Int) → (bd (F_X12_readsStop N (hw (hw (hw g 83 16 0) 83 17 (n : Int)) 83 41 0)) fun y h1 => L_X12_plan_49 N N (a : Int) y h1) = v → F_X12_plan N (a : Int) (n : Int) g = v := fun g v e15 e => by
    unfold F_X12_plan
    rw [s_in, bd_s, if_pos q0, if_neg (by decide), s_in, bd_s, if_pos q1, if_neg (by decide), e15, if_pos q2, bnd_s, bnd_s, bnd_s]
    exact e
  have cls : ∀ (r : Int) (h' : Hp) (f : Int) (p' : Nat), L_X0_readStops_7 N 53 N ((0 : Nat) : Int) hs = some (r, h') → TC b L n p' f h' → (bv (F_X10_open N (n : Int) h) fun h7 => bd (F_X0_readStops N 53 h7) fun y9 h8 => bd (F_X10_isSound N h8) fun y11 h10 => if y11 = 0 then J_X11_plan_72 N y9 h10 else grd (cartR (22 + 4 * a)) <| bv (F_X0_takeStopsOf N (22 + 4 * a - 1) h10) fun h13 => J_X11_plan_72 N y9 h13) = if f = 0 then bv (F_X0_takeStopsOf N (21 + 4 * a) h') fun h13 => some (r, hw h13 41 1 0) else some (r, hw h' 41 1 0) := fun r h' f p' e H => by
    unfold J_X11_plan_72 F_X10_clear
    simp only [bnd_s, bv_s]
    rw [o1, bv_s, eR r h' e, bd_s, x_sound H, bd_s]
    by_cases z : f = 0
    · rw [if_pos z, if_neg (by decide), if_pos z, grd_t (cartR_n ha), show 22 + 4 * a - 1 = 21 + 4 * a by omega]
    · rw [if_neg z, if_pos rfl, if_neg z]
  unfold F_X12_plan at eM
  obtain ⟨r, h', -, -, f, p', b1, b2, -, -, b5, -⟩ := run g0 (by rw [eg0]; exact (mk h (fun _ => rfl)).1) (by rw [eg0]; exact (mk h (fun _ => rfl)).2)
  have cl := cls r h' f p' b1 b5
  by_cases z : f = 0
  · -- sound
    subst z
    obtain ⟨r1, h1, g1, fb, f1, p1, c1, c2, c3, c4, c5, c6⟩ := run g0 (by rw [eg0]; exact (mk h (fun _ => rfl)).1) (by rw [eg0]; exact (mk h (fun _ => rfl)).2)
    rw [b1] at c1
    obtain ⟨rfl, rfl⟩ : r = r1 ∧ h' = h1 := by simpa using c1
    have f10 : f1 = 0 := c5.2.2.2.2.1.symm.trans b5.2.2.2.2.1
    subst f10
    rcases c6 with ⟨y, -⟩ | ⟨-, -, K, hK, k1, k2, -, k4⟩
    · exact absurd rfl y
    have sr := fun q hq => k4 q hq
    have R01 : ∀ q, q < K → h' 56 q = 0 ∨ h' 56 q = 1 := fun q hq => by
      have := (k4 q hq).2
      omega
    obtain ⟨ht, d1, d2, d3, d4, d5⟩ := l_take (N := N) (c := 21 + 4 * a) (g := h') hK (by omega) k2 R01 K N 0 (hw h' (21 + 4 * a) 3 0) (by omega) (by omega) (fun c' j y => by rw [hw_ne (by omega)]) hw_eq (fun i hi => absurd hi (by omega))
    have d1 : F_X0_takeStopsOf N (21 + 4 * a) h' = some ht := by unfold F_X0_takeStopsOf; rw [bnd_s]; exact d1
    rw [if_pos rfl, d1, bv_s] at cl
    obtain ⟨gx, egx⟩ : ∃ gx, gx = hw ht 41 1 0 := ⟨_, rfl⟩
    rw [← egx] at cl
    have gxf : ∀ c j, ¬ (c = 41 ∨ (53 ≤ c ∧ c ≤ 56) ∨ (21 + 4 * a ≤ c ∧ c ≤ 24 + 4 * a)) → gx c j = h c j := fun c j y => by
      rw [egx, hw_ne (by omega), d2 c j (by omega), b2 c j (by omega), xs c j (by omega)]
    obtain ⟨mk1, mk2⟩ := mk gx (fun j => gxf 96 j (by omega))
    obtain ⟨r2, h2, g2, fb2, f2, p2, m1, m2, m3, m4, m5, m6⟩ := run _ mk1 mk2
    rw [b1] at m1
    obtain ⟨rfl, rfl⟩ : r = r2 ∧ h' = h2 := by simpa using m1
    have f20 : f2 = 0 := m5.2.2.2.2.1.symm.trans b5.2.2.2.2.1
    subst f20
    rcases m6 with ⟨y, -⟩ | ⟨-, rfl, K2, hK2, n1, n2, n3, n4⟩
    · exact absurd rfl y
    obtain rfl : K = K2 := by omega
    obtain ⟨ge, ege⟩ : ∃ ge, ge = hw (hw g2 83 15 0) 93 a (K : Int) := ⟨_, rfl⟩
    obtain ⟨gz, p1, p2, p3, p4⟩ := l_p116 (N := N) (g := ge) (a := a) hK ha (by rw [ege, hw_ne (by omega), hw_ne (by omega)]; exact n3) K N 0 ge (by omega) (by omega) (fun _ _ _ => rfl) (fun _ _ _ _ => rfl) (fun i hi => absurd hi (by omega))
    have eJ : J_X12_plan_89 N (a : Int) 1 g2 = some ((K : Int), gz) := by
      unfold J_X12_plan_89
      rw [bnd_s, if_neg (by decide), grd_t ⟨by omega, by omega⟩, hw_ne (by omega), n3, bnd_s, Int.toNat_natCast, ← ege]
      exact p1
    rw [eJ] at m3
    have e15 : gx 83 15 = (L : Int) := by rw [gxf 83 15 (by omega)]; exact e2
    refine ⟨r, gx, gz, cl, by rw [n1]; exact eM gx _ e15 m3, ?_⟩
    have gzf : ∀ c j, ¬ (c = 94 ∨ c = 95) → ¬ (c = 93 ∧ j = a) → ¬ (c = 83 ∧ j = 15) → ¬ ((c = 83 ∧ (j = 16 ∨ j = 17 ∨ j = 18 ∨ j = 19 ∨ j = 41)) ∨ c = 111 ∨ c = 112) → gz c j = gx c j := fun c j y1 y2 y3 y4 => by
      rw [p2 c j y1, ege, hw_ne (by omega), hw_ne (by omega), m4 c j (by omega), hw_ne (by omega), hw_ne (by omega), hw_ne (by omega)]
    have hI2 : Inv N (hw (hw h 41 1 0) 83 15 0) := hI.clr (fun c j _ y => by unfold tpx at y; rw [hw_ne (by omega), hw_ne (by omega)]) (by rw [hw_ne (by omega), hw_eq]) hw_eq
    refine hI2.ic (fun c j y1 y2 => ?_) ⟨cc, hcc, ?_, fun k' hk' => ?_⟩
    · unfold scr at y1
      by_cases w1 : c = 41 ∧ j = 1
      · obtain ⟨rfl, rfl⟩ := w1
        rw [gzf 41 1 (by omega) (by omega) (by omega) (by omega), egx, hw_eq, hw_ne (by omega), hw_eq]
      · by_cases w2 : c = 83 ∧ j = 15
        · obtain ⟨rfl, rfl⟩ := w2
          rw [p2 83 15 (by omega), ege, hw_ne (by omega), hw_eq, hw_eq]
        · rw [gzf c j (by omega) (by omega) (by omega) (by omega), gxf c j (by omega), hw_ne w2, hw_ne w1]
    · rw [gzf 83 13 (by omega) (by omega) (by omega) (by omega), gxf 83 13 (by omega)]; exact hc13
    · obtain ⟨v1, v2, v3, v4, v5, v6⟩ := hck k' hk'
      have z20 : gz 20 k' = h 20 k' := by rw [gzf 20 k' (by omega) (by omega) (by omega) (by omega), gxf 20 k' (by omega)]
      have z4 : gz (21 + 4 * k') 4 = h (21 + 4 * k') 4 := by
        rw [gzf _ 4 (by omega) (by omega) (by omega) (by omega)]
        by_cases w : k' = a
        · subst w
          rw [egx, hw_ne (by omega), d3 4 (by omega), hw_ne (by omega), b2 _ 4 (by omega), xs _ 4 (by omega)]
        · exact gxf _ 4 (by omega)
      have z92 : gz 92 k' = h 92 k' := by rw [gzf 92 k' (by omega) (by omega) (by omega) (by omega), gxf 92 k' (by omega)]
      refine ⟨by rw [z20]; exact v1, by rw [z4]; exact v2, by rw [z4]; exact v3, by rw [z4]; exact v4, by rw [z4, z92]; exact v5, ?_⟩
      by_cases w : k' = a
      · subst w
        refine ⟨K, hK, ?_, ?_, fun q hq => ?_⟩
        · rw [gzf _ 3 (by omega) (by omega) (by omega) (by omega), egx, hw_ne (by omega)]; exact d4
        · rw [p2 93 k' (by omega), ege, hw_eq]
        · obtain ⟨d51, d52, d53⟩ := d5 q hq
          have x1 : gz (22 + 4 * k') q = h' 54 q := by rw [gzf _ q (by omega) (by omega) (by omega) (by omega), egx, hw_ne (by omega), show 22 + 4 * k' = 21 + 4 * k' + 1 by omega]; exact d51
          have x2 : gz (23 + 4 * k') q = h' 55 q := by rw [gzf _ q (by omega) (by omega) (by omega) (by omega), egx, hw_ne (by omega), show 23 + 4 * k' = 21 + 4 * k' + 2 by omega]; exact d52
          have x3 : gz (24 + 4 * k') q = h' 56 q := by rw [gzf _ q (by omega) (by omega) (by omega) (by omega), egx, hw_ne (by omega), show 24 + 4 * k' = 21 + 4 * k' + 3 by omega]; exact d53
          have x4 : gz 94 (16 * k' + q) = g2 111 q := by rw [(p4 q hq).1, ege, hw_ne (by omega), hw_ne (by omega)]
          have x5 : gz 95 (16 * k' + q) = g2 112 q := by rw [(p4 q hq).2, ege, hw_ne (by omega), hw_ne (by omega)]
          rw [x1, x2, x3, x4, x5]
          have := n4 q hq
          exact ⟨⟨this.1.1, this.1.2.1, this.1.2.2⟩, this.2⟩
      · obtain ⟨s, s1, s2, s3, s4⟩ := v6
        refine ⟨s, s1, ?_, ?_, fun q hq => ?_⟩
        · rw [gzf _ 3 (by omega) (by omega) (by omega) (by omega), gxf _ 3 (by omega)]; exact s2
        · rw [gzf 93 k' (by omega) (by omega) (by omega) (by omega), gxf 93 k' (by omega)]; exact s3
        · have x1 : gz (22 + 4 * k') q = h (22 + 4 * k') q := by rw [gzf _ q (by omega) (by omega) (by omega) (by omega), gxf _ q (by omega)]
          have x2 : gz (23 + 4 * k') q = h (23 + 4 * k') q := by rw [gzf _ q (by omega) (by omega) (by omega) (by omega), gxf _ q (by omega)]
          have x3 : gz (24 + 4 * k') q = h (24 + 4 * k') q := by rw [gzf _ q (by omega) (by omega) (by omega) (by omega), gxf _ q (by omega)]
          have x9 : ∀ c, c = 94 ∨ c = 95 → gz c (16 * k' + q) = h c (16 * k' + q) := fun c y => by
            rw [p3 c _ y (by omega), ege, hw_ne (by omega), hw_ne (by omega), m4 c _ (by omega), hw_ne (by omega), hw_ne (by omega), hw_ne (by omega), gxf c _ (by omega)]
          rw [x1, x2, x3, x9 94 (by omega), x9 95 (by omega)]
          exact s4 q hq
  · -- a fault
    rw [if_neg z] at cl
    obtain ⟨gx, egx⟩ : ∃ gx, gx = hw h' 41 1 0 := ⟨_, rfl⟩
    rw [← egx] at cl
    have gxf : ∀ c j, ¬ (c = 41 ∨ (53 ≤ c ∧ c ≤ 56)) → gx c j = h c j := fun c j y => by
      rw [egx, hw_ne (by omega), b2 c j (by omega), xs c j (by omega)]
    obtain ⟨mk1, mk2⟩ := mk gx (fun j => gxf 96 j (by omega))
    obtain ⟨r2, h2, g2, fb2, f2, p2, m1, m2, m3, m4, m5, m6⟩ := run _ mk1 mk2
    rw [b1] at m1
    obtain ⟨rfl, rfl⟩ : r = r2 ∧ h' = h2 := by simpa using m1
    have f20 : f2 = f := m5.2.2.2.2.1.symm.trans b5.2.2.2.2.1
    subst f20
    rcases m6 with ⟨-, rfl, n1, n2⟩ | ⟨y, -⟩
    rotate_left
    · exact absurd y z
    have eJ : J_X12_plan_89 N (a : Int) 0 g2 = some (f2, hw g2 83 15 0) := by
      unfold J_X12_plan_89
      rw [bnd_s, if_pos rfl, hw_ne (by omega), n2]
    rw [eJ] at m3
    have e15 : gx 83 15 = (L : Int) := by rw [gxf 83 15 (by omega)]; exact e2
    refine ⟨r, gx, hw g2 83 15 0, cl, by rw [n1]; exact eM gx _ e15 m3, hI.clr (fun c j y1 y2 => ?_) ?_ hw_eq⟩
    · unfold scr at y1
      unfold tpx at y2
      rw [hw_ne (by omega), m4 c j (by omega), hw_ne (by omega), hw_ne (by omega), hw_ne (by omega), gxf c j (by omega)]
    · rw [hw_ne (by omega), m4 41 1 (by omega), hw_ne (by omega), hw_ne (by omega), hw_ne (by omega), egx, hw_eq]
