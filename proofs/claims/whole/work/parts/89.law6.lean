/-! THE LAW: READING AT A FAULT; SMALL STEPS OF THE OTHER READER -/
section LQ
variable {b : Nat → Int} {N L n p len ht op : Nat} {f : Int} {h g : Hp}
theorem ff_factor (T : TXT b L n) (hf : f ≠ 0) (H : FS b L n f h g) (rc : Int → Hp → Option Hp) (x2 : Int) : ∃ h', F_X3_readFactor N rc x2 g = some h' ∧ FS b L n f h h' := by
  obtain ⟨h1, a1, a2⟩ := H.fact (N := N) T hf
  unfold F_X3_readFactor
  rw [H.se hf, bd_s, if_pos rfl, H.dg hf, bd_s, if_pos rfl, a1, bv_s]
  exact ⟨h1, rfl, a2⟩
theorem ff_pl (hf : f ≠ 0) (H : FS b L n f h g) (rc : Int → Hp → Option Hp) (x2 x3 : Int) {q : Nat} (hq : 0 < q) : L_X3_readProduct_8 N rc q x2 x3 g = some g := by
  obtain ⟨q, rfl⟩ : ∃ q', q = q' + 1 := ⟨q - 1, by omega⟩
  unfold L_X3_readProduct_8 F_X3_seesProductSign
  rw [H.se hf, bd_s, if_pos rfl, H.se hf, bd_s, if_pos rfl, H.se hf, bd_s, if_pos rfl, bd_s, if_pos rfl]
  split <;> rfl
theorem ff_product (hN : 1000000 ≤ N) (T : TXT b L n) (hf : f ≠ 0) (H : FS b L n f h g) (rc : Int → Hp → Option Hp) (x2 : Int) : ∃ h', F_X3_readProduct N rc x2 g = some h' ∧ FS b L n f h h' := by
  obtain ⟨h1, a1, a2⟩ := ff_factor (N := N) T hf H rc x2
  unfold F_X3_readProduct
  rw [a1, bv_s, ff_pl hf a2 rc x2 0 (by omega)]
  exact ⟨h1, rfl, a2⟩
theorem ff_sl (hf : f ≠ 0) (H : FS b L n f h g) (rc : Int → Hp → Option Hp) (x2 x3 : Int) {q : Nat} (hq : 0 < q) : L_X3_readSum_8 N rc q x2 x3 g = some g := by
  obtain ⟨q, rfl⟩ : ∃ q', q = q' + 1 := ⟨q - 1, by omega⟩
  unfold L_X3_readSum_8
  rw [H.se hf, bd_s, if_pos rfl, H.se hf, bd_s, if_pos rfl]
  split <;> rfl
theorem ff_sumO (hN : 1000000 ≤ N) (T : TXT b L n) (hf : f ≠ 0) (H : FS b L n f h g) (rc : Int → Hp → Option Hp) (x2 : Int) : ∃ h', O_X3_readSum N rc x2 g = some h' ∧ FS b L n f h h' := by
  obtain ⟨h1, a1, a2⟩ := ff_product (N := N) hN T hf H rc x2
  unfold O_X3_readSum
  rw [a1, bv_s, ff_sl hf a2 rc x2 0 (by omega)]
  exact ⟨h1, rfl, a2⟩
theorem ff_sum (hN : 1000000 ≤ N) (T : TXT b L n) (hf : f ≠ 0) (H : FS b L n f h g) (D : Nat) (x2 : Int) : ∃ h', F_X3_readSum N (D + 1) x2 g = some h' ∧ FS b L n f h h' := ff_sumO hN T hf H (F_X3_readSum N D) x2
theorem ff_lead (H : FS b L n f h g) (x : Int) : ∃ h', F_X2_leadToEnd N x g = some h' ∧ FS b L n f h h' := by
  obtain ⟨⟨p, hp', t⟩, ⟨l, hl, el⟩, e⟩ := id H
  unfold F_X2_leadToEnd
  rw [s_isWithin, bd_s]
  by_cases z : 0 ≤ x ∧ x ≤ w32 (g 44 7 - 1)
  · have z2 : x < 240 := by
      by_cases l0 : l = 0
      · have := z.2; rw [el, l0, show w32 (((0 : Nat) : Int) - 1) = -1 by decide] at this; omega
      · have := z.2; rw [el, w32_id ⟨by omega, by omega⟩] at this; omega
    · rw [if_pos z, if_neg (by decide), grd_t ⟨z.1, z2⟩, bnd_s]
      exact ⟨_, rfl, ⟨p, hp', t.ag (fun c j y => by rw [hw_ne (by omega)])⟩, ⟨l, hl, by rw [hw_ne (by omega)]; exact el⟩, fun c j z1 z2 z3 => by rw [hw_ne (by omega)]; exact e c j z1 z2 z3⟩
  · rw [if_neg z, if_pos rfl]
    exact ⟨g, rfl, H⟩
theorem ff_compare (hN : 1000000 ≤ N) (T : TXT b L n) (hf : f ≠ 0) (H : FS b L n f h g) (x2 : Int) : ∃ h', F_X3_readComparison N x2 g = some h' ∧ FS b L n f h h' := by
  obtain ⟨h1, a1, a2⟩ := ff_sum (N := N) hN T hf H 7 x2
  obtain ⟨h2, b1, b2⟩ := a2.fl (N := N) T hf (k := 1) (by omega)
  have b1 : F_X10_fail N 1 h1 = some h2 := b1
  unfold F_X3_readComparison
  rw [a1, bv_s, a2.se hf, bd_s, if_pos rfl, a2.se hf, bd_s, if_pos rfl, a2.se hf, bd_s, if_pos rfl, b1, bv_s]
  exact ⟨h2, rfl, b2⟩
theorem ff_test (hN : 1000000 ≤ N) (T : TXT b L n) (hf : f ≠ 0) (H : FS b L n f h g) (D : Nat) (x2 : Int) : ∃ h', F_X3_readTest N (D + 1) x2 g = some h' ∧ FS b L n f h h' := by
  obtain ⟨h1, a1, a2⟩ := ff_compare (N := N) hN T hf H x2
  show ∃ h', O_X3_readTest N (F_X3_readTest N D) x2 g = some h' ∧ _
  unfold O_X3_readTest
  rw [H.se hf, bd_s, if_pos rfl, H.se hf, bd_s, if_pos rfl, a1, bv_s]
  exact ⟨h1, rfl, a2⟩
theorem ff_partl (hf : f ≠ 0) (H : FS b L n f h g) (rc : Int → Hp → Option Hp) (x2 x3 : Int) {q : Nat} (hq : 0 < q) : L_X3_readPart_8 N rc q x2 x3 g = some g := by
  obtain ⟨q, rfl⟩ : ∃ q', q = q' + 1 := ⟨q - 1, by omega⟩
  unfold L_X3_readPart_8
  rw [H.se hf, bd_s, if_pos rfl]
  split <;> rfl
theorem ff_part (hN : 1000000 ≤ N) (T : TXT b L n) (hf : f ≠ 0) (H : FS b L n f h g) (D : Nat) (x2 : Int) : ∃ h', F_X3_readPart N (F_X3_readTest N (D + 1)) x2 g = some h' ∧ FS b L n f h h' := by
  obtain ⟨h1, a1, a2⟩ := ff_test (N := N) hN T hf H D x2
  unfold F_X3_readPart
  rw [a1, bv_s, ff_partl hf a2 _ x2 0 (by omega)]
  exact ⟨h1, rfl, a2⟩
theorem ff_chl (hf : f ≠ 0) (H : FS b L n f h g) (rc : Int → Hp → Option Hp) (x2 x3 : Int) {q : Nat} (hq : 0 < q) : L_X3_readChoice_8 N rc q x2 x3 g = some g := by
  obtain ⟨q, rfl⟩ : ∃ q', q = q' + 1 := ⟨q - 1, by omega⟩
  unfold L_X3_readChoice_8
  rw [H.se hf, bd_s, if_pos rfl]
  split <;> rfl
theorem ff_choice (hN : 1000000 ≤ N) (T : TXT b L n) (hf : f ≠ 0) (H : FS b L n f h g) (D : Nat) (x2 : Int) : ∃ h', F_X3_readChoice N (F_X3_readTest N (D + 1)) x2 g = some h' ∧ FS b L n f h h' := by
  obtain ⟨h1, a1, a2⟩ := ff_part (N := N) hN T hf H D x2
  unfold F_X3_readChoice
  rw [a1, bv_s, ff_chl hf a2 _ x2 0 (by omega)]
  exact ⟨h1, rfl, a2⟩
-- the other reader
theorem m_top (e : g 83 22 = (ht : Int)) (hh : ht ≤ 260) : F_X12_waitTop N g = some (tp g ht, g) := by
  unfold F_X12_waitTop tp
  rw [e]
  by_cases z : ht = 0
  · rw [if_pos (by omega), if_pos z]
  · have w : w32 ((ht : Int) - 1) = ((ht - 1 : Nat) : Int) := by rw [w32_id ⟨by omega, by omega⟩]; omega
    rw [if_neg (by omega), w, grd_t ⟨by omega, by omega⟩, Int.toNat_natCast, if_neg z]
theorem m_notes {r v : Int} (hr : 0 ≤ r ∧ r ≤ 20) (hv : 0 ≤ v ∧ v < 1048576) (e : g 83 21 = (len : Int)) (hl : len < 260) : F_X12_notes N r v g = some (hw (hw g 97 len (1048576 * r + v)) 83 21 ((len + 1 : Nat) : Int)) := by
  unfold F_X12_notes
  rw [e, grd_t ⟨by omega, by omega⟩, w32_id (x := 1048576 * r) ⟨by omega, by omega⟩, w32_id ⟨by omega, by omega⟩, bnd_s, bnd_s, Int.toNat_natCast, hw_ne (by omega), e, inc (by omega)]
theorem m_wr (R : RSt b L n p len ht op g) (T : TXT b L n) (hp : p ≤ n) {k : Nat} (hk : k < 10) : F_X12_wrongAt N (k : Int) (g 83 16) g = some (0, hw g 83 18 (-1000 * (k : Int) - p)) := by
  have T1 := T.1
  have T2 := T.2.1
  rw [R.1.1]
  exact m_wrong hk (by omega)
theorem rnp_d (T : TXT b L n) : ∀ m p, dgt (sg b n (rnp b n m p)) → rnp b n m p = p + m
  | 0, p, _ => rfl
  | m + 1, p, h => by
    unfold rnp at h ⊢
    by_cases q : dgt (sg b n p)
    · rw [if_pos q] at h ⊢
      rw [rnp_d T m (p + 1) h]; omega
    · rw [if_neg q] at h
      exact absurd h q
theorem l_rn (T : TXT b L n) {w : Nat} (hw' : w ≤ n) : ∀ (m q p : Nat) (v : Int) (g : Hp), p + m = w + 5 → m < q → p ≤ n → MC b L n p g → g 83 19 = v → 0 ≤ v → (v + 1) * ((10 ^ m : Nat) : Int) ≤ 1000000 → ∃ g', ex83 g g' ∧ ((¬ dgt (sg b n (rnp b n m p)) ∧ L_X12_readsNumber_10 N q (w : Int) g = some (1, g') ∧ MC b L n (rnp b n m p) g' ∧ g' 83 19 = rnv b n m p v) ∨ (dgt (sg b n (rnp b n m p)) ∧ L_X12_readsNumber_10 N q (w : Int) g = some (0, g') ∧ g' 83 18 = -2000 - (rnp b n m p : Int)))
  | _, 0, _, _, _, _, hq, _, _, _, _, _ => absurd hq (by omega)
  | 0, q + 1, p, v, g, hm, _, hp, H, hv, _, _ => by
    have T1 := T.1
    have T2 := T.2.1
    unfold L_X12_readsNumber_10 rnp
    rw [m_digit T H, bd_s, H.1, w32_id (x := (w : Int) + 5) ⟨by omega, by omega⟩]
    by_cases z : dgt (sg b n p)
    · have e : F_X12_wrongAt N 2 (p : Int) g = some (0, hw g 83 18 (-1000 * ((2 : Nat) : Int) - p)) := m_wrong (N := N) (k := 2) (w := p) (by omega) (by omega)
      rw [if_pos z, if_neg (by decide), if_pos (by omega), e, bd_s, grd_t (Or.inl rfl)]
      exact ⟨_, fun c j y => by rw [hw_ne (by omega)], Or.inr ⟨z, rfl, by rw [hw_eq]; omega⟩⟩
    · rw [if_neg z, if_pos rfl]
      exact ⟨g, fun _ _ _ => rfl, Or.inl ⟨z, rfl, H, hv⟩⟩
  | m + 1, q + 1, p, v, g, hm, hq, hp, H, hv, hv0, hB => by
    have T1 := T.1
    have T2 := T.2.1
    have hp0 : 0 < 10 ^ m := Nat.pow_pos (by decide)
    have e : ((10 ^ (m + 1) : Nat) : Int) = 10 * ((10 ^ m : Nat) : Int) := by rw [Nat.pow_succ]; omega
    obtain ⟨P, hP⟩ : ∃ P : Int, P = ((10 ^ m : Nat) : Int) := ⟨_, rfl⟩
    have p1 : 1 ≤ P := by omega
    rw [e, ← hP] at hB
    have e2 : (v + 1) * (10 * P) = (10 * v + 10) * P := by rw [← Int.mul_assoc, show (v + 1) * 10 = 10 * v + 10 by omega]
    rw [e2] at hB
    have vb : 10 * v + 10 ≤ 1000000 := by
      have : (10 * v + 10) * 1 ≤ (10 * v + 10) * P := Int.mul_le_mul_of_nonneg_left (by omega) (by omega)
      omega
    clear e e2
    unfold L_X12_readsNumber_10 rnv rnp
    rw [m_digit T H, bd_s]
    by_cases z : dgt (sg b n p)
    · have pn := (sg_b T p).2.2 (by omega)
      obtain ⟨g1, eg1⟩ : ∃ g1, g1 = hw (hw g 83 19 (10 * v + sg b n p - 48)) 83 16 ((p + 1 : Nat) : Int) := ⟨_, rfl⟩
      have H1 : MC b L n (p + 1) g1 := by rw [eg1]; exact (H.w (by omega) (by omega)).st
      obtain ⟨g', b4, b1⟩ := l_rn T hw' m q (p + 1) (10 * v + sg b n p - 48) g1 (by omega) (by omega) (by omega) H1 (by rw [eg1, hw_ne (by omega), hw_eq]) (by omega) (by
        rw [← hP]
        refine Int.le_trans ?_ hB
        exact Int.mul_le_mul_of_nonneg_right (by omega) (by omega))
      simp only [if_pos z]
      rw [if_neg (by decide), H.1, w32_id (x := (w : Int) + 5) ⟨by omega, by omega⟩, if_neg (by omega), m_here T H, bd_s, hv, w32_id (x := 10 * v) ⟨by omega, by omega⟩, w32_id (x := 10 * v + sg b n p) ⟨by omega, by omega⟩, w32_id (x := 10 * v + sg b n p - 48) ⟨by omega, by omega⟩, bnd_s, bnd_s, hw_ne (by omega), H.1, inc (by omega), ← eg1]
      exact ⟨g', ex83.tr (fun c j y => by rw [eg1, hw_ne (by omega), hw_ne (by omega)]) b4, b1⟩
    · simp only [if_neg z]
      exact ⟨g, fun _ _ _ => rfl, Or.inl ⟨z, rfl, H, hv⟩⟩
theorem m_num (hN : 1000000 ≤ N) (T : TXT b L n) (H : MC b L n p g) (hp : p ≤ n) : ∃ g', ex83 g g' ∧ ((¬ dgt (sg b n (rnp b n 5 p)) ∧ F_X12_readsNumber N g = some (1, g') ∧ MC b L n (rnp b n 5 p) g' ∧ g' 83 19 = rnv b n 5 p 0) ∨ (dgt (sg b n (rnp b n 5 p)) ∧ F_X12_readsNumber N g = some (0, g') ∧ g' 83 18 = -2000 - (rnp b n 5 p : Int))) := by
  unfold F_X12_readsNumber
  rw [bnd_s, bnd_s, H.1]
  obtain ⟨g', b4, b1⟩ := l_rn (N := N) T hp 5 N p 0 (hw g 83 19 0) (by omega) (by omega) hp (H.w (by omega) (by omega)) hw_eq (by omega) (by decide)
  exact ⟨g', fun c j y => by rw [b4 c j y, hw_ne (by omega)], b1⟩
theorem fact_eq {x : Int} : F_X12_factOf N x g = some (sIdx x, g) ∧ (sIdx x = -1 ∨ (0 ≤ sIdx x ∧ sIdx x < 8)) := by
  unfold F_X12_factOf sIdx
  refine ⟨?_, ?_⟩
  · by_cases z : x = 100 ∨ x = 103 ∨ x = 104 ∨ x = 105 ∨ x = 107 ∨ x = 108 ∨ x = 110 ∨ x = 114
    · rcases z with rfl | rfl | rfl | rfl | rfl | rfl | rfl | rfl <;> rfl
    · rw [if_neg (show ¬ x = 105 by omega), if_neg (show ¬ x = 104 by omega), if_neg (show ¬ x = 108 by omega), if_neg (show ¬ x = 100 by omega), if_neg (show ¬ x = 103 by omega), if_neg (show ¬ x = 114 by omega), if_neg (show ¬ x = 110 by omega), if_neg (show ¬ x = 107 by omega), if_neg (show ¬ x = 100 by omega), if_neg (show ¬ x = 103 by omega), if_neg (show ¬ x = 104 by omega), if_neg (show ¬ x = 105 by omega), if_neg (show ¬ x = 107 by omega), if_neg (show ¬ x = 108 by omega), if_neg (show ¬ x = 110 by omega), if_neg (show ¬ x = 114 by omega)]
      repeat' split
      all_goals rfl
  · repeat' split
    all_goals omega
end LQ
