/-! THE LAW: FACTORS, PRODUCTS, SUMS -/
def FacR (b : Nat → Int) (L n N x2 p len ht m q : Nat) (x1 : Nat) (h g h' : Hp) : Prop := (∃ p' len' q' g', p < p' ∧ p' ≤ n ∧ len < len' ∧ len' + p ≤ len + p' ∧ exP len h h' ∧ TC b L n p' 0 h' ∧ h' 44 7 = (len' : Int) ∧ RF N m q (x1 : Int) g = L_X12_readsSum_14 N q' (x1 : Int) g' ∧ 1000 ≤ q' + p' ∧ exQ len ht g g' ∧ RSt b L n p' len' ht x2 g' ∧ SuC (PG h' g') (13 - 2 * x2) len len') ∨ BadO b L n h h' g (RF N m q (x1 : Int) g)
def SumR (b : Nat → Int) (L n N x2 p len ht m q : Nat) (x1 : Nat) (h g h' : Hp) : Prop := (∃ p' len' q' g', p < p' ∧ p' ≤ n ∧ len < len' ∧ len' + p ≤ len + p' ∧ exP len h h' ∧ TC b L n p' 0 h' ∧ h' 44 7 = (len' : Int) ∧ RF N m q (x1 : Int) g = L_X12_readsSum_14 N q' (x1 : Int) g' ∧ 1000 ≤ q' + p' ∧ exQ len ht g g' ∧ SuP b L n x2 (13 - 2 * x2) len len' p' ht h' g' ∧ ¬ opP (sg b n p') ∧ ¬ opS (sg b n p')) ∨ BadO b L n h h' g (RF N m q (x1 : Int) g)
def PrdR (b : Nat → Int) (L n N x2 p len ht : Nat) (x1 : Nat) (h g h' : Hp) (res : Option (Int × Hp)) : Prop := (∃ p' len' q' g', p < p' ∧ p' ≤ n ∧ len < len' ∧ len' + p ≤ len + p' ∧ exP len h h' ∧ TC b L n p' 0 h' ∧ h' 44 7 = (len' : Int) ∧ res = L_X12_readsSum_14 N q' (x1 : Int) g' ∧ 1000 ≤ q' + p' ∧ exQ len ht g g' ∧ PP b L n x2 (13 - 2 * x2) len len' p' ht h' g' ∧ ¬ opP (sg b n p')) ∨ BadO b L n h h' g res
def SumSim (b : Nat → Int) (L n N x2 : Nat) (Fc : Hp → Option Hp) : Prop := ∀ (p len ht m q x1 : Nat) (h g : Hp), p ≤ n → len ≤ p → ht ≤ p → x1 ≤ ht → TC b L n p 0 h → h 44 7 = (len : Int) → RSt b L n p len ht x2 g → ¬ (2 ≤ tp g ht ∧ tp g ht ≤ 6) → 1000 ≤ m + p → 1000 ≤ q + p → ∃ h', Fc h = some h' ∧ SumR b L n N x2 p len ht m q x1 h g h'
section LF
variable {b : Nat → Int} {N L n p len ht x2 : Nat} {f : Int} {h g : Hp}
theorem FS.mk {h' : Hp} {l : Nat} (T : TXT b L n) (hp : p ≤ n) (t : TC b L n p f h') (hl : l ≤ 240) (e : h' 44 7 = (l : Int)) (E : exP 0 h h') : FS b L n f h h' := ⟨⟨p, hp, t⟩, ⟨l, hl, e⟩, E⟩
theorem exP.lo {a a' : Nat} {h' : Hp} (E : exP a h h') (hs : a' ≤ a) : exP a' h h' := fun c j z1 z2 z3 => E c j z1 z2 (by omega)
theorem exQ.lo {a a' s s' : Nat} {g' : Hp} (E : exQ a s g g') (ha : a' ≤ a) (hs : s' ≤ s) : exQ a' s' g g' := fun c j z1 z2 z3 => E c j z1 (by omega) (by omega)
theorem dec1 {k : Nat} (h : k < 100000) : w32 (((k + 1 : Nat) : Int) - 1) = (k : Int) := by rw [w32_id ⟨by omega, by omega⟩]; omega
theorem s_sumSign {x : Int} : F_X12_sumSign N x g = some (if opP x ∨ opS x then rop x else -1, g) := by
  unfold F_X12_sumSign
  by_cases z : opP x ∨ opS x
  · rw [if_pos z]
    rcases z with (rfl | rfl | rfl) | (rfl | rfl) <;> rfl
  · rw [if_neg z, if_neg (by omega), if_neg (by omega), if_neg (by omega), if_neg (by omega), if_neg (by omega)]
theorem fac (hN : 1000000 ≤ N) (T : TXT b L n) (hn : n ≤ 240) (hx2 : x2 ≤ 6) (rc : Int → Hp → Option Hp) (RC : x2 < 6 → SumSim b L n N (x2 + 1) (rc ((x2 + 1 : Nat) : Int))) (m q x1 : Nat) (hp : p ≤ n) (hl : len ≤ p) (hh : ht ≤ p) (hx1 : x1 ≤ ht) (t : TC b L n p 0 h) (e : h 44 7 = (len : Int)) (R : RSt b L n p len ht x2 g) (hm : 1000 ≤ m + p) (hq : 1000 ≤ q + p) : ∃ h', F_X3_readFactor N rc (x2 : Int) h = some h' ∧ FacR b L n N x2 p len ht m q x1 h g h' := by
  have T1 := T.1
  have T2 := T.2.1
  obtain ⟨m, rfl⟩ : ∃ m', m = m' + 1 := ⟨m - 1, by omega⟩
  have here := m_here (N := N) T R.1
  have sb := sg_b T p
  unfold F_X3_readFactor
  rw [x_sees t, bd_s]
  by_cases c1 : sg b n p = 91
  · -- an opening
    have pn := sb.2.2 (by omega)
    rw [if_pos (show (0 : Int) = 0 ∧ sg b n p = 91 from ⟨rfl, c1⟩), if_neg (by decide)]
    have rf : RF N (m + 1) q (x1 : Int) g = bd (bd (F_X12_opens N 14 g) fun y17 h16 => if y17 = 0 then some (0, h16) else (L_X12_readsFactor_0 N m) h16) fun y h => if y = 0 then some (0, h) else L_X12_readsSum_14 N q (x1 : Int) h := by
      unfold RF
      conv => lhs; unfold L_X12_readsFactor_0
      rw [here, bd_s, if_pos c1]
    unfold F_X3_opens
    unfold F_X12_opens at rf
    by_cases c2 : x2 = 6
    · obtain ⟨h1, a1, a2, a3⟩ := x_fail (N := N) t (by omega) (k := 5) (by omega)
      have a1 : F_X10_fail N 5 h = some h1 := a1
      rw [if_neg (by omega), a1, bv_s, bd_s, if_pos rfl]
      rw [if_pos rfl] at a2
      have wr : F_X12_wrongAt N 5 (g 83 16) g = some (0, hw g 83 18 (-1000 * ((5 : Nat) : Int) - p)) := m_wr (N := N) (k := 5) R T hp (by omega)
      rw [R.2.2.2, if_pos (by omega), wr, bd_s, grd_t (Or.inl rfl), bd_s, if_pos rfl, bd_s, if_pos rfl] at rf
      refine ⟨h1, rfl, Or.inr ⟨_, _, ?_, FS.mk T hp a2 (show len ≤ 240 by omega) (by rw [a3 44 7 (by omega)]; exact e) (a3.P 0), rf, by rw [hw_eq], fun c j z1 z2 z3 => by rw [hw_ne (by omega)]⟩⟩
      omega
    · obtain ⟨h1, a1, a2, a3⟩ := x_step (N := N) T t (by omega)
      rw [if_pos (by omega), a1, bv_s, bd_s, if_neg (by decide), inc (show x2 < 100000000 by omega)]
      obtain ⟨g4, eg4⟩ : ∃ g4, g4 = hw (hw (hw (hw g 83 20 ((x2 + 1 : Nat) : Int)) 98 ht (1048576 * 14)) 83 22 ((ht + 1 : Nat) : Int)) 83 16 ((p + 1 : Nat) : Int) := ⟨_, rfl⟩
      have R4 : RSt b L n (p + 1) len (ht + 1) (x2 + 1) g4 := by rw [eg4]; exact (((R.so (x2 + 1)).wc (by omega) (by omega)).sh (ht + 1)).st
      have E4 : exQ len ht g g4 := fun c j z1 z2 z3 => by rw [eg4, hw_ne (by omega), hw_ne (by omega), hw_ne (by omega), hw_ne (by omega)]
      have e14 : g4 98 ht = 1048576 * 14 := by rw [eg4, hw_ne (by omega), hw_ne (by omega), hw_eq]
      have rf2 : RF N (m + 1) q (x1 : Int) g = RF N m q (x1 : Int) g4 := by
        rw [R.2.2.2, if_neg (by omega), inc (show x2 < 100000000 by omega), bnd_s, hw_ne (by omega), R.2.2.1, grd_t ⟨by omega, by omega⟩, w32_id (x := 1048576 * 14) ⟨by omega, by omega⟩, bnd_s, Int.toNat_natCast, bnd_s, hw_ne (by omega), hw_ne (by omega), R.2.2.1, inc (by omega), bnd_s, hw_ne (by omega), hw_ne (by omega), hw_ne (by omega), R.1.1, inc (by omega), bd_s, if_neg (by decide), ← eg4] at rf
        exact rf
      have t4 : tp g4 (ht + 1) = 14 := tp_s ⟨by omega, by omega⟩ (v := 0) ⟨by omega, by omega⟩ (by rw [e14, Int.add_zero])
      obtain ⟨h2, b1, S⟩ := RC (by omega) (p + 1) len (ht + 1) m q x1 h1 g4 (by omega) (by omega) (by omega) (by omega) a2 (by rw [a3 44 7 (by omega)]; exact e) R4 (by omega) (by omega) (by omega)
      rw [b1, bv_s]
      rcases S with ⟨p', len', q', g', s1, s2, s3, s4, s5, s6, s7, s8, s9, s10, s11, s12, s13⟩ | ⟨f, g', s1, s2, s3, s4, s5⟩
      rotate_left
      · obtain ⟨h3, c1, c2⟩ := s2.nd (N := N) T s1 93
        rw [c1, bv_s]
        refine ⟨h3, rfl, Or.inr ⟨f, g', s1, ?_, by rw [rf2]; exact s3, s4, exQ.tr (exQ.lo (a' := 0) (s' := 0) E4 (by omega) (by omega)) s5 (by omega) (by omega)⟩⟩
        exact ⟨c2.1, c2.2.1, exP.tr (a3.P 0) c2.2.2 (by omega)⟩
      · obtain ⟨h3, c1, c2, c3⟩ := x_need (N := N) T s6 (by omega) 93
        rw [c1, bv_s]
        refine ⟨h3, rfl, ?_⟩
        obtain ⟨q', rfl⟩ : ∃ q'', q' = q'' + 1 := ⟨q' - 1, by omega⟩
        have R' : ∃ c0 h0, RSt b L n p' c0 h0 (x2 + 1) g' ∧ ht < h0 ∧ h0 ≤ ht + 3 := by
          rcases s11 with (⟨z, -⟩ | ⟨_, _, _, _, _, z, _⟩) | ⟨_, _, _, _, _, _, _, (⟨z, -⟩ | ⟨_, _, _, _, _, z, _⟩), _⟩
          · exact ⟨_, _, z, by omega, by omega⟩
          · exact ⟨_, _, z, by omega, by omega⟩
          · exact ⟨_, _, z, by omega, by omega⟩
          · exact ⟨_, _, z, by omega, by omega⟩
        obtain ⟨c0, h0, R0, hh1, hh2⟩ := R'
        have here' := m_here (N := N) T R0.1
        have e14' : g' 98 ht = 1048576 * 14 := by rw [s10 98 ht (by omega) (by omega) (by omega)]; exact e14
        have hos : F_X12_hasOpenSum N (x1 : Int) g' = some (1, g') := has14 R0.2.2.1 (by omega) hh1 e14' (ht - x1) N x1 (by omega) (by omega)
        have E1' : exQ len ht g g' := exQ.tr E4 s10 (by omega) (by omega)
        have l14 : L_X12_readsSum_14 N (q' + 1) (x1 : Int) g' = if sg b n p' = 93 then bv (F_X12_closesSums N 1 g') fun h9 => bnd (hw h9 83 22 (w32 ((h9 83 22) - 1))) fun h10 => bnd (hw h10 83 20 (w32 ((h10 83 20) - 1))) fun h11 => bnd (hw h11 83 16 (w32 ((h11 83 16) + 1))) fun h12 => (L_X12_readsSum_14 N q') (x1 : Int) h12 else J_X12_readsSum_138 N (x1 : Int) g' := by
          conv => lhs; unfold L_X12_readsSum_14
          rw [here', bd_s, s_sumSign, bd_s, if_neg (show ¬ (opP (sg b n p') ∨ opS (sg b n p')) from fun z => z.elim s12 s13), if_pos rfl, here', bd_s]
          by_cases z93 : sg b n p' = 93
          · rw [if_pos z93, if_pos z93, hos, bd_s, if_neg (by decide)]
          · rw [if_neg z93, if_neg z93]
        rcases c3 with ⟨-, c4, c5⟩ | ⟨c4, c5⟩
        · -- closed
          left
          obtain ⟨g2, d1, d2, d3, d4⟩ := cl_1 (N := N) hN (by omega) (by omega) s11 (by rw [tp_q s10 (Nat.le_refl _), t4]; omega)
          obtain ⟨g5, eg5⟩ : ∃ g5, g5 = hw (hw (hw g2 83 22 (ht : Int)) 83 20 (x2 : Int)) 83 16 ((p' + 1 : Nat) : Int) := ⟨_, rfl⟩
          have f5 : ∀ c j, ¬ (c = 83 ∧ (j = 16 ∨ j = 20 ∨ j = 22)) → g5 c j = g2 c j := fun c j z => by rw [eg5, hw_ne (by omega), hw_ne (by omega), hw_ne (by omega)]
          refine ⟨p' + 1, len', q', g5, by omega, by have := (sg_b T p').2.2 (by omega); omega, s3, by omega, exP.tr (a3.P len) (exP.tr s5 (c2.P len) (by omega)) (by omega), c5, by rw [c2 44 7 (by omega)]; exact s7, ?_, by omega, ?_, ?_, ?_⟩
          · rw [rf2, s8, l14, if_pos c4, d1, bv_s, d2.2.2.1, dec1 (by omega), bnd_s, hw_ne (by omega), d2.2.2.2, dec1 (by omega), bnd_s, hw_ne (by omega), hw_ne (by omega), d2.1.1, inc (by omega), bnd_s, ← eg5]
          · exact fun c j z1 z2 z3 => by rw [f5 c j (by omega), d4 c j z1 z2 (by omega)]; exact E1' c j z1 z2 z3
          · rw [eg5]; exact ((d2.sh ht).so x2).st
          · have dd : 13 - 2 * (x2 + 1) + 2 = 13 - 2 * x2 := by omega
            rw [dd] at d3
            exact PG.ag d3 (fun j _ => ⟨c2 49 j (by omega), c2 50 j (by omega)⟩) (fun j _ => f5 97 j (by omega))
        · right
          have nz : ¬ sg b n p' = 93 := fun z => c4 ⟨rfl, z⟩
          have wr : F_X12_wrongAt N 1 (g' 83 16) g' = some (0, hw g' 83 18 (-1000 * ((1 : Nat) : Int) - p')) := m_wr (N := N) (k := 1) R0 T s2 (by omega)
          rw [if_pos rfl] at c5
          refine ⟨-1000 - (p' : Int), hw g' 83 18 (-1000 * ((1 : Nat) : Int) - p'), by omega, FS.mk T s2 c5 (show len' ≤ 240 by omega) (by rw [c2 44 7 (by omega)]; exact s7) (exP.tr (a3.P 0) (exP.tr (exP.lo (a' := 0) s5 (by omega)) (c2.P 0) (by omega)) (by omega)), ?_, by rw [hw_eq]; omega, fun c j z1 z2 z3 => by rw [hw_ne (by omega)]; exact E1' c j z1 (by omega) (by omega)⟩
          rw [rf2, s8, l14, if_neg nz]
          unfold J_X12_readsSum_138
          rw [hos, bd_s, if_neg (by decide), wr, bd_s, grd_t (Or.inl rfl)]
  · rw [if_neg (show ¬ ((0 : Int) = 0 ∧ sg b n p = 91) from fun z => c1 z.2), if_pos rfl, x_digit t, bd_s]
    have rf : RF N (m + 1) q (x1 : Int) g = bd (if (if dgt (sg b n p) then (1 : Int) else 0) = 0 then bd (F_X12_here N g) fun y6 h5 => bd (F_X12_factOf N y6 h5) fun y8 h7 => if y8 = (-1) then bd (F_X12_wrongAt N 1 (h7 83 16) h7) fun y12 h11 => grd (y12 = 0 ∨ y12 = 1) <| some (y12, h11) else bv (F_X12_notes N 1 y8 h7) fun h9 => bnd (hw h9 83 16 (w32 ((h9 83 16) + 1))) fun h10 => some (1, h10) else bd (F_X12_readsNumber N g) fun y14 h13 => if y14 = 0 then some (0, h13) else bv (F_X12_notes N 0 (h13 83 19) h13) fun h15 => some (1, h15)) fun y h => if y = 0 then some (0, h) else L_X12_readsSum_14 N q (x1 : Int) h := by
      unfold RF
      conv => lhs; unfold L_X12_readsFactor_0
      rw [here, bd_s, if_neg c1, m_digit T R.1, bd_s, here]
    by_cases c2 : dgt (sg b n p)
    · -- a number
      have pn := sb.2.2 (by omega)
      rw [if_pos (show (0 : Int) = 0 ∧ dgt (sg b n p) from ⟨rfl, c2⟩), if_neg (by decide)]
      rw [if_pos c2, if_neg (by decide)] at rf
      obtain ⟨h1, a1, z | z⟩ := x_num (N := N) hN T t hp (x1 := 5) ⟨by omega, by omega⟩
      rotate_left
      · exact absurd ⟨rfl, c2⟩ z.1
      obtain ⟨-, -, a2, a3⟩ := z
      have a2 : F_X10_readNumber N 5 h = some (rnv b n 5 p 0, h1) := a2
      have p5 := rnp_le T 5 p hp
      have p5' : p < rnp b n 5 p := by
        have e5 : rnp b n 5 p = if dgt (sg b n p) then rnp b n 4 (p + 1) else p := rfl
        rw [e5, if_pos c2]
        have := rnp_le T 4 (p + 1) (by omega)
        omega
      have vb := rnv_b (b := b) (n := n) 5 p 0 (by omega)
      have vb2 : rnv b n 5 p 0 ≤ 99999 := by
        have := vb.2
        have e5 : ((10 ^ 5 : Nat) : Int) = 100000 := by decide
        rw [e5] at this
        omega
      obtain ⟨h2, b1, b2, b3, b4, b5⟩ := x_adS (N := N) (h := h1) (len := len) (o := 48) (v := rnv b n 5 p 0) (by rw [a1 44 7 (by omega)]; exact e) (by omega)
      have t2 : TC b L n (rnp b n 5 p) 0 h2 := a3.ag (fun c j y => b5 c j (by omega) (by omega))
      have E2 : exP len h h2 := fun c j z1 z2 z3 => by rw [b5 c j z2 (by omega), a1 c j z1]
      rw [a2, bd_s, b1, bv_s, x_digit t2, bd_s]
      obtain ⟨g1, d0, d1⟩ := m_num (N := N) hN T R.1 hp
      rcases d1 with ⟨d1, d2, d3, d4⟩ | ⟨d1, d2, d3⟩
      · rw [if_neg (show ¬ ((0 : Int) = 0 ∧ dgt (sg b n (rnp b n 5 p))) from fun z => d1 z.2), if_pos rfl]
        refine ⟨h2, rfl, Or.inl ⟨rnp b n 5 p, len + 1, q, hw (hw g1 97 len (1048576 * 0 + rnv b n 5 p 0)) 83 21 ((len + 1 : Nat) : Int), p5', p5.2, by omega, by omega, E2, t2, b2, ?_, by omega, ?_, ?_, ?_⟩⟩
        · rw [rf, d2, bd_s, if_neg (by decide), d4, m_notes ⟨by omega, by omega⟩ ⟨vb.1, by omega⟩ (by rw [d0 83 21 (by omega)]; exact R.2.1) (by omega), bv_s, bd_s, if_neg (by decide)]
        · exact fun c j z1 z2 z3 => by rw [hw_ne (by omega), hw_ne (by omega), d0 c j (by omega)]
        · have R1 : RSt b L n (rnp b n 5 p) len ht x2 g1 := ⟨d3, by rw [d0 83 21 (by omega)]; exact R.2.1, by rw [d0 83 22 (by omega)]; exact R.2.2.1, by rw [d0 83 20 (by omega)]; exact R.2.2.2⟩
          exact (R1.wc (by omega) (by omega)).sl (len + 1)
        · exact SuC.leaf (by omega) ⟨rnv b n 5 p 0, Or.inl ⟨vb.1, vb2, b3, b4, by rw [hw_ne (by omega), hw_eq]; rfl⟩⟩
      · obtain ⟨h3, k1, k2, k3⟩ := x_fail (N := N) t2 (by omega) (k := 2) (by omega)
        have k1 : F_X10_fail N 2 h2 = some h3 := k1
        rw [if_pos rfl] at k2
        rw [if_pos (show (0 : Int) = 0 ∧ dgt (sg b n (rnp b n 5 p)) from ⟨rfl, d1⟩), if_neg (by decide), k1, bv_s]
        refine ⟨h3, rfl, Or.inr ⟨_, g1, ?_, FS.mk T p5.2 k2 (show len + 1 ≤ 240 by omega) (by rw [k3 44 7 (by omega)]; exact b2) (exP.tr (exP.lo (a' := 0) E2 (by omega)) (k3.P 0) (by omega)), ?_, by rw [d3]; omega, fun c j z1 z2 z3 => d0 c j (by omega)⟩⟩
        · omega
        · rw [rf, d2, bd_s, if_pos rfl, bd_s, if_pos rfl]
    · -- a fact
      rw [if_neg (show ¬ ((0 : Int) = 0 ∧ dgt (sg b n p)) from fun z => c2 z.2), if_pos rfl]
      have fe := fact_eq (N := N) (g := g) (x := sg b n p)
      rw [if_neg c2, if_pos rfl, here, bd_s, fe.1, bd_s] at rf
      have xf : F_X3_readFact N h = J_X3_readFact_27 N (sIdx (sg b n p)) h := by
        unfold F_X3_readFact
        rw [x_end t, bd_s]
        by_cases pn : p < n
        · rw [if_pos pn, if_pos rfl, x_sign t, bd_s, i2c_id]
          have := T.2.2 p (by omega)
          unfold sg
          rw [if_pos pn]
          exact this
        · rw [if_neg pn, if_neg (by decide)]
          have : sg b n p = -1 := by unfold sg; rw [if_neg pn]
          rw [this]
          rfl
      rw [xf]
      unfold J_X3_readFact_27
      by_cases c3 : sIdx (sg b n p) = -1
      · obtain ⟨h1, a1, a2, a3⟩ := x_fail (N := N) t (by omega) (k := 1) (by omega)
        have a1 : F_X10_fail N 1 h = some h1 := a1
        rw [if_pos rfl] at a2
        have wr : F_X12_wrongAt N 1 (g 83 16) g = some (0, hw g 83 18 (-1000 * ((1 : Nat) : Int) - p)) := m_wr (N := N) (k := 1) R T hp (by omega)
        rw [if_pos c3, wr, bd_s, grd_t (Or.inl rfl), bd_s, if_pos rfl] at rf
        rw [if_pos (by omega), a1, bv_s, bv_s]
        refine ⟨h1, rfl, Or.inr ⟨_, _, ?_, FS.mk T hp a2 (show len ≤ 240 by omega) (by rw [a3 44 7 (by omega)]; exact e) (a3.P 0), rf, by rw [hw_eq], fun c j z1 z2 z3 => by rw [hw_ne (by omega)]⟩⟩
        omega
      · have fb := fe.2.resolve_left c3
        have pn : p < n := by
          by_cases pn : p < n
          · exact pn
          · have : sg b n p = -1 := by unfold sg; rw [if_neg pn]
            rw [this] at c3
            exact absurd rfl c3
        obtain ⟨h2, b1, b2, b3, b4, b5⟩ := x_adS (N := N) (h := h) (len := len) (o := 97) (v := sIdx (sg b n p)) e (by omega)
        have t2 : TC b L n p 0 h2 := t.ag (fun c j y => b5 c j (by omega) (by omega))
        obtain ⟨h3, k1, k2, k3⟩ := x_step (N := N) T t2 (by omega)
        rw [if_neg (by omega), b1, bv_s, k1, bv_s, bv_s]
        obtain ⟨g2, eg2⟩ : ∃ g2, g2 = hw (hw g 97 len (1048576 * 1 + sIdx (sg b n p))) 83 21 ((len + 1 : Nat) : Int) := ⟨_, rfl⟩
        have e16 : g2 83 16 = (p : Int) := by rw [eg2, hw_ne (by omega), hw_ne (by omega)]; exact R.1.1
        rw [if_neg c3, m_notes ⟨by omega, by omega⟩ ⟨fb.1, by omega⟩ R.2.1 (by omega), bv_s, ← eg2, e16, inc (by omega), bnd_s, bd_s, if_neg (by decide)] at rf
        refine ⟨h3, rfl, Or.inl ⟨p + 1, len + 1, q, _, by omega, by omega, by omega, by omega, fun c j z1 z2 z3 => by rw [k3 c j z1, b5 c j z2 (by omega)], k2, by rw [k3 44 7 (by omega)]; exact b2, rf, by omega, ?_, ?_, ?_⟩⟩
        · exact fun c j z1 z2 z3 => by rw [hw_ne (by omega), eg2, hw_ne (by omega), hw_ne (by omega)]
        · rw [eg2]; exact ((R.wc (by omega) (by omega)).sl (len + 1)).st
        · exact SuC.leaf (by omega) ⟨sIdx (sg b n p), Or.inr ⟨fb.1, fb.2, by rw [k3 49 len (by omega)]; exact b3, by rw [k3 50 len (by omega)]; exact b4, by rw [hw_ne (by omega), eg2, hw_ne (by omega), hw_eq]; rfl⟩⟩
end LF
