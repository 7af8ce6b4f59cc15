/-! WAY, LATEST, STREET, THE START -/
theorem s_btw {N : Nat} {h : Hp} {i j : Nat} (hi : i < 14) (hj : j < 14) : F_X7_between N (i : Int) (j : Int) h = some (h 10 (14 * i + j), h) := by
  unfold F_X7_between J_X7_between_25
  rw [if_neg (by omega), if_neg (by omega), if_neg (by omega), if_neg (by omega), if_neg (by decide), w32_id (x := (i : Int) * 14) ⟨by omega, by omega⟩, w32_id ⟨by omega, by omega⟩, grd_t ⟨by omega, by omega⟩, show ((i : Int) * 14 + j).toNat = 14 * i + j by omega]
theorem s_far {N : Nat} {h : Hp} {i j : Nat} (hi : i < 14) (hj : j < 14) : F_X12_farOf N (i : Int) (j : Int) h = some (h 91 (14 * i + j), h) := by
  unfold F_X12_farOf
  rw [w14m hi hj, grd_t ⟨by omega, by omega⟩, Int.toNat_natCast]
theorem isT_n {t i : Nat} (hi : i < 14) : isT t (i : Int) ↔ t.testBit i = true := ⟨fun z => by have := z.2.2; rw [Int.toNat_natCast] at this; exact this, fun z => ⟨by omega, by omega, by rw [Int.toNat_natCast]; exact z⟩⟩
/-- what both sides have of a way -/
theorem way_t {h : Hp} {t i j : Nat} (H : IR h t) (hi : i < 14) (hj : j < 14) (ti : t.testBit i = true) (tj : t.testBit j = true) : (h 91 (14 * i + j) < 1000000 ∧ h 10 (14 * i + j) = h 91 (14 * i + j) ∧ 0 ≤ h 91 (14 * i + j) ∧ h 91 (14 * i + j) ≤ 1386 ∧ (i ≠ j → 1 ≤ h 91 (14 * i + j)) ∧ (i = j → h 91 (14 * i + j) = 0)) ∨ (h 91 (14 * i + j) = 1000000 ∧ h 10 (14 * i + j) = -2 ∧ i ≠ j) := by
  obtain ⟨r1, r2, r3, r4, r5⟩ := H
  rw [r4 i j hi hj, r5 i j hi hj, (FW_XM r2 14 (by omega) i j hi hj).1 ti tj]
  have h1 := FW_nn (bsX_nn (r := h 8)) 14 i j
  have h2 := FWX_m r2 (m := 14) hi hj
  by_cases q : FW (bsX (h 8)) 14 i j < 1000000
  · refine Or.inl ⟨q, by rw [if_pos q], h1, FWX_b r2 (by omega) hi hj q, fun e => FW_pos bsX_p bsX_nn 14 i j e, fun e => by subst e; exact FWX_d⟩
  · refine Or.inr ⟨by omega, by rw [if_neg q], fun e => q (by subst e; rw [FWX_d]; omega)⟩
theorem way_u {h : Hp} {t i j : Nat} (H : IR h t) (hi : i < 14) (hj : j < 14) (tu : ¬ (t.testBit i = true ∧ t.testBit j = true)) : h 91 (14 * i + j) = 1000000 ∧ (i ≠ j → h 10 (14 * i + j) = -2) ∧ (i = j → h 10 (14 * i + j) = 0) := by
  obtain ⟨r1, r2, r3, r4, r5⟩ := H
  have z := (FW_XM r2 14 (by omega) i j hi hj).2 tu
  refine ⟨by rw [r5 i j hi hj]; exact z.1, fun e => ?_, fun e => ?_⟩
  · rw [r4 i j hi hj, z.2 e]; rfl
  · subst e; rw [r4 i i hi hi, FWX_d]; rfl
theorem op_way {N : Nat} (hN : 1000000 ≤ N) : ∀ a1 : Int, inR a1 → ∀ a2 : Int, inR a2 → Sm (Inv N) (F_X11_way N a1 a2) (F_X12_way N a1 a2) := by
  intro i _ j _ h hok hI
  obtain ⟨t, i1, i2, i3, i4, i5, i6, i7, i8, i9, i10⟩ := id hI
  have ht := i1.1
  unfold F_X11_way F_X12_way
  simp only [s_isTold ht i1.2.1, bd_s]
  by_cases q1 : isT t i
  · by_cases q2 : isT t j
    · obtain ⟨a, rfl⟩ : ∃ a : Nat, i = (a : Int) := ⟨i.toNat, by omega⟩
      obtain ⟨b, rfl⟩ : ∃ b : Nat, j = (b : Int) := ⟨j.toNat, by omega⟩
      have ha : a < 14 := by omega
      have hb : b < 14 := by omega
      rw [if_pos q1, if_neg (by decide), if_pos q2, if_neg (by decide), s_btw ha hb, bd_s]
      refine ⟨_, h, h, rfl, ?_, hI⟩
      simp only [s_isStreet ht i1.2.2, bd_s, s_far ha hb]
      rw [if_pos q1, if_neg (by decide), if_pos q2, if_neg (by decide)]
      rcases way_t i8 ha hb ((isT_n ha).mp q1) ((isT_n hb).mp q2) with z | z
      · rw [if_pos z.1, z.2.1]
      · rw [if_neg (by omega), z.2.1]
    · rw [if_pos q1, if_neg (by decide), if_neg q2, if_pos rfl]
      refine ⟨_, h, h, rfl, ?_, hI⟩
      simp only [s_isStreet ht i1.2.2, bd_s]
      rw [if_pos q1, if_neg (by decide), if_neg q2, if_pos rfl]
  · rw [if_neg q1, if_pos rfl]
    refine ⟨_, h, h, rfl, ?_, hI⟩
    simp only [s_isStreet ht i1.2.2, bd_s]
    rw [if_neg q1, if_pos rfl]
section LAT
variable {N t n m : Nat} {h g : Hp}
theorem lt2 (hn : n ≤ 260) (e : h 41 1 = (n : Int)) (hb : ∀ j, j < n → 0 ≤ h 42 j ∧ h 42 j ≤ 255) (hg : ∀ j, j < n → g 96 j = (if h 42 j < 128 then h 42 j else h 42 j - 256)) (hw1 : ∀ i j, i < 14 → j < 14 → t.testBit j = true → (h 10 (14 * i + j) = g 91 (14 * i + j) ∧ 0 ≤ g 91 (14 * i + j) ∧ g 91 (14 * i + j) ≤ 1386) ∨ (g 91 (14 * i + j) = 1000000 ∧ h 10 (14 * i + j) = -2)) (hm : m ≤ 6 ∧ 3 * m ≤ n) (hto : ∀ p, p < m → isT t (h 42 (3 * p))) :
    ∀ d p n1 n2 at' : Nat, ∀ gone sX sM : Int, p + d = m → d < n1 → d < n2 → at' < 14 → 0 ≤ gone → gone ≤ 1386 * p → (p = 0 ∧ 100000 ≤ sX ∧ 100000 ≤ sM ∨ (0 < p ∧ sX = sM ∧ -100000 ≤ sX ∧ sX ≤ 100000)) → 1 ≤ m → ∃ r, L_X11_latestStart_48 N n1 (m : Int) (at' : Int) gone sX (p : Int) h = some (r, h) ∧ L_X12_latest_69 N n2 (m : Int) (at' : Int) gone sM (p : Int) g = some (r, g) := by
  intro d
  induction d with
  | zero =>
    intro p n1 n2 at' gone sX sM hp h1 h2 ha g0 g1 hs hm1
    obtain ⟨n1, rfl⟩ : ∃ q, n1 = q + 1 := ⟨n1 - 1, by omega⟩
    obtain ⟨n2, rfl⟩ : ∃ q, n2 = q + 1 := ⟨n2 - 1, by omega⟩
    have hss : sX = sM := by omega
    unfold L_X11_latestStart_48 L_X12_latest_69
    rw [if_pos (show (m : Int) ≤ (p : Int) by omega), if_pos (show (m : Int) ≤ (p : Int) by omega), hss]
    by_cases q : 0 ≤ sM
    · exact ⟨_, by rw [if_pos q], by rw [if_pos q]⟩
    · exact ⟨_, by rw [if_neg q], by rw [if_neg q]⟩
  | succ d ih =>
    intro p n1 n2 at' gone sX sM hp h1 h2 ha g0 g1 hs hm1
    obtain ⟨n1, rfl⟩ : ∃ q, n1 = q + 1 := ⟨n1 - 1, by omega⟩
    obtain ⟨n2, rfl⟩ : ∃ q, n2 = q + 1 := ⟨n2 - 1, by omega⟩
    have T := hto p (by omega)
    obtain ⟨b, hb1⟩ : ∃ b : Nat, h 42 (3 * p) = (b : Int) := ⟨(h 42 (3 * p)).toNat, by omega⟩
    have hb14 : b < 14 := by omega
    have tb : t.testBit b = true := by rw [hb1] at T; exact (isT_n hb14).mp T
    have e96 : g 96 (3 * p) = (b : Int) := by rw [hg (3 * p) (by omega), if_pos (by omega), hb1]
    have e3 : w32 (3 * (p : Int)) = ((3 * p : Nat) : Int) := by rw [w32_id ⟨by omega, by omega⟩]; omega
    have c1 := hb (3 * p + 1) (by omega)
    have c2 := hb (3 * p + 2) (by omega)
    have a1 : iand (g 96 (3 * p + 1)) 255 = h 42 (3 * p + 1) := by
      rw [hg (3 * p + 1) (by omega)]
      obtain ⟨v, hv⟩ : ∃ v : Nat, h 42 (3 * p + 1) = (v : Int) := ⟨(h 42 (3 * p + 1)).toNat, by omega⟩
      rw [hv]; exact byte255 v (by omega)
    have a2 : iand (g 96 (3 * p + 2)) 255 = h 42 (3 * p + 2) := by
      rw [hg (3 * p + 2) (by omega)]
      obtain ⟨v, hv⟩ : ∃ v : Nat, h 42 (3 * p + 2) = (v : Int) := ⟨(h 42 (3 * p + 2)).toNat, by omega⟩
      rw [hv]; exact byte255 v (by omega)
    have hX : L_X11_latestStart_48 N (n1 + 1) (m : Int) (at' : Int) gone sX (p : Int) h = if 0 ≤ h 10 (14 * at' + b) then L_X11_latestStart_48 N n1 (m : Int) (b : Int) (w32 (gone + h 10 (14 * at' + b))) (imin sX (w32 (h 42 (3 * p + 1) * 256 + h 42 (3 * p + 2) - w32 (gone + h 10 (14 * at' + b))))) ((p + 1 : Nat) : Int) h else some (-2, h) := by
      conv => lhs; unfold L_X11_latestStart_48
      rw [if_neg (show ¬ (m : Int) ≤ (p : Int) by omega), e3, s_at e hn ⟨by omega, by omega⟩, bd_s, Int.toNat_natCast, hb1, s_btw ha hb14, bd_s]
      by_cases q : 0 ≤ h 10 (14 * at' + b)
      · rw [if_pos q, if_pos q, w32_id (x := ((3 * p : Nat) : Int) + 1) ⟨by omega, by omega⟩, bnd_s, s_pairAt e hn ⟨by omega, by omega⟩ hb, bd_s, bnd_s, bnd_s, inc (by omega), show (((3 * p : Nat) : Int) + 1).toNat = 3 * p + 1 by omega]
      · rw [if_neg q, if_neg q]
    have hM : L_X12_latest_69 N (n2 + 1) (m : Int) (at' : Int) gone sM (p : Int) g = if g 91 (14 * at' + b) < 1000000 then L_X12_latest_69 N n2 (m : Int) (b : Int) (w32 (gone + g 91 (14 * at' + b))) (imin sM (w32 (h 42 (3 * p + 1) * 256 + h 42 (3 * p + 2) - w32 (gone + g 91 (14 * at' + b))))) ((p + 1 : Nat) : Int) g else some (-2, g) := by
      conv => lhs; unfold L_X12_latest_69
      rw [if_neg (show ¬ (m : Int) ≤ (p : Int) by omega), e3, grd_t ⟨by omega, by omega⟩, Int.toNat_natCast, bnd_s, e96, s_far ha hb14, bd_s]
      by_cases q : g 91 (14 * at' + b) < 1000000
      · rw [if_pos q, if_pos q, s_far ha hb14, bd_s, bnd_s, w32_id (x := ((3 * p : Nat) : Int) + 1) ⟨by omega, by omega⟩, w32_id (x := ((3 * p : Nat) : Int) + 2) ⟨by omega, by omega⟩, grd_t ⟨by omega, by omega⟩, grd_t ⟨by omega, by omega⟩, show (((3 * p : Nat) : Int) + 1).toNat = 3 * p + 1 by omega, show (((3 * p : Nat) : Int) + 2).toNat = 3 * p + 2 by omega, a1, a2, w32_id (x := h 42 (3 * p + 1) * 256) ⟨by omega, by omega⟩, w32_id (x := _ + h 42 (3 * p + 2)) ⟨by omega, by omega⟩, s_min, bd_s, bnd_s, inc (by omega)]
      · rw [if_neg q, if_neg q]
    rw [hX, hM]
    rcases hw1 at' b ha hb14 tb with z | z
    · rw [if_pos (show 0 ≤ h 10 (14 * at' + b) by omega), if_pos (show g 91 (14 * at' + b) < 1000000 by omega), z.1, w32_id (x := gone + _) ⟨by omega, by omega⟩, w32_id ⟨by omega, by omega⟩]
      refine ih (p + 1) n1 n2 b _ _ _ (by omega) (by omega) (by omega) hb14 (by omega) (by omega) (Or.inr ⟨by omega, ?_⟩) hm1
      unfold imin
      refine ⟨?_, ?_, ?_⟩ <;> (try split) <;> (try split) <;> omega
    · rw [if_neg (show ¬ 0 ≤ h 10 (14 * at' + b) by omega), if_neg (show ¬ g 91 (14 * at' + b) < 1000000 by omega)]
      exact ⟨_, rfl, rfl⟩
theorem lt1 (hN : 1000000 ≤ N) (ht : t < 16384) (e4 : h 1 4 = (t : Int)) (e12 : g 83 12 = (t : Int)) (hn : n ≤ 260) (e : h 41 1 = (n : Int)) (hb : ∀ j, j < n → 0 ≤ h 42 j ∧ h 42 j ≤ 255) (hg : ∀ j, j < n → g 96 j = (if h 42 j < 128 then h 42 j else h 42 j - 256)) (hw1 : ∀ i j, i < 14 → j < 14 → t.testBit j = true → (h 10 (14 * i + j) = g 91 (14 * i + j) ∧ 0 ≤ g 91 (14 * i + j) ∧ g 91 (14 * i + j) ≤ 1386) ∨ (g 91 (14 * i + j) = 1000000 ∧ h 10 (14 * i + j) = -2)) (hm : m ≤ 6 ∧ 3 * m ≤ n) (hm1 : 1 ≤ m) :
    ∀ d p n1 n2 : Nat, p + d = m → d < n1 → d < n2 → (∀ q, q < p → isT t (h 42 (3 * q))) → ∃ r, L_X11_latestStart_2 N n1 (m : Int) (p : Int) h = some (r, h) ∧ L_X12_latest_29 N n2 (m : Int) (p : Int) g = some (r, g)
  | d, p, 0, _, _, h1, _, _ => absurd h1 (by omega)
  | d, p, _, 0, _, _, h2, _ => absurd h2 (by omega)
  | 0, p, n1 + 1, n2 + 1, hp, _, _, hq => by
    unfold L_X11_latestStart_2 L_X12_latest_29
    rw [if_pos (by omega), if_pos (by omega)]
    exact lt2 hn e hb hg hw1 hm (fun q hq' => hq q (by omega)) m 0 N N 0 0 2147483647 1000000 (by omega) (by omega) (by omega) (by omega) (by omega) (by omega) (Or.inl ⟨rfl, by decide, by decide⟩) hm1
  | d + 1, p, n1 + 1, n2 + 1, hp, h1, h2, hq => by
    have e3 : w32 (3 * (p : Int)) = ((3 * p : Nat) : Int) := by rw [w32_id ⟨by omega, by omega⟩]; omega
    have c := hb (3 * p) (by omega)
    unfold L_X11_latestStart_2 L_X12_latest_29
    rw [if_neg (by omega), if_neg (by omega), e3, s_at e hn ⟨by omega, by omega⟩, bd_s, Int.toNat_natCast, s_isTold ht e4, bd_s, grd_t ⟨by omega, by omega⟩, s_isStreet ht e12, bd_s, hg (3 * p) (by omega)]
    by_cases q : isT t (h 42 (3 * p))
    · rw [if_pos q, if_neg (by decide), if_pos (show h 42 (3 * p) < 128 by omega), if_pos q, if_neg (by decide), bnd_s, bnd_s, inc (by omega)]
      exact lt1 hN ht e4 e12 hn e hb hg hw1 hm hm1 d (p + 1) n1 n2 (by omega) (by omega) (by omega) (fun q' hq' => by
        by_cases z : q' = p
        · subst z; exact q
        · exact hq q' (by omega))
    · have nq : ¬ isT t (if h 42 (3 * p) < 128 then h 42 (3 * p) else h 42 (3 * p) - 256) := by
        by_cases z : h 42 (3 * p) < 128
        · rw [if_pos z]; exact q
        · rw [if_neg z]; intro y; omega
      rw [if_neg q, if_pos rfl, if_neg nq, if_pos rfl]
      exact ⟨_, rfl, rfl⟩
end LAT
theorem op_latest {N : Nat} (hN : 1000000 ≤ N) : ∀ a1 : Int, inR a1 → Sm (Inv N) (F_X11_latest N a1) (F_X12_latest N a1) := by
  intro k _ h hok hI
  obtain ⟨t, i1, i2, i3, i4, i5, ⟨n, hn, e1, e2, hb⟩, i7, i8, i9, i10⟩ := id hI
  unfold F_X11_latest F_X12_latest
  simp only [s_isWithin, s_in, bd_s, s_holds e1]
  by_cases q1 : 1 ≤ k ∧ k ≤ 6
  · have ew : w32 (3 * k) = 3 * k := w32_id ⟨by omega, by omega⟩
    simp only [ew, if_pos q1, if_neg (show ¬ (1 : Int) = 0 by decide)]
    by_cases q2 : 3 * k ≤ (n : Int)
    · obtain ⟨m, rfl⟩ : ∃ m : Nat, k = (m : Int) := ⟨k.toNat, by omega⟩
      obtain ⟨g, hg⟩ : ∃ g, g = hw (hw h 41 1 0) 83 15 0 := ⟨_, rfl⟩
      have gc : ∀ c j, ¬ (c = 41 ∧ j = 1) → ¬ (c = 83 ∧ j = 15) → g c j = h c j := fun c j a b => by rw [hg, hw_ne b, hw_ne a]
      obtain ⟨r, r1, r2⟩ := lt1 (N := N) (t := t) (h := h) (g := g) hN i1.1 i1.2.1 (by rw [gc _ _ (by omega) (by omega)]; exact i1.2.2) hn e1 (fun j hj => ⟨(hb j hj).1, (hb j hj).2.1⟩) (fun j hj => by rw [gc _ _ (by omega) (by omega)]; exact (hb j hj).2.2) (fun i j hi hj tj => by
        rw [gc 91 _ (by omega) (by omega)]
        by_cases ti : t.testBit i = true
        · rcases way_t i8 hi hj ti tj with z | z
          · exact Or.inl ⟨z.2.1, z.2.2.1, z.2.2.2.1⟩
          · exact Or.inr ⟨z.1, z.2.1⟩
        · have z := way_u i8 hi hj (fun y => ti y.1)
          exact Or.inr ⟨z.1, z.2.1 (fun y => ti (by rw [y]; exact tj))⟩) (m := m) ⟨by omega, by omega⟩ (by omega) m 0 N N (by omega) (by omega) (by omega) (fun q hq => by omega)
      have r1 : F_X11_latestStart N (m : Int) h = some (r, h) := r1
      refine ⟨r, hw h 41 1 0, g, ?_, ?_, ?_⟩
      · simp only [if_pos q2, if_neg (show ¬ (1 : Int) = 0 by decide), r1, bd_s]
        unfold F_X10_clear
        rw [bnd_s, bv_s]
      · rw [hw_ne (by omega), e2, if_pos q2, bnd_s, ← hg]
        exact r2
      · refine hI.clr (fun c j _ hc => ?_) (by rw [hg, hw_ne (by omega), hw_eq]) (by rw [hg, hw_eq])
        unfold tpx at hc
        exact gc c j (by omega) (by omega)
    · refine ⟨-1, h, h, ?_, ?_, hI⟩
      · simp only [if_neg q2, if_true]
      · rw [e2, if_neg q2]
  · refine ⟨-1, h, h, ?_, ?_, hI⟩ <;> simp only [if_neg q1, if_true]
