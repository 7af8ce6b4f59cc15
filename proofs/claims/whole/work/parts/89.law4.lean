/-! THE LAW: A LAW THAT IS LAID IS KEPT -/
def PJ (h : Hp) (j : Nat) (o v : Int) : Prop := PX h j o v ∧ PM h j o v
def LawSh (h : Hp) : Prop := ∃ K : Nat, K ≤ 16 ∧ h 11 4 = (K : Int) ∧ h 83 24 = (K : Int) ∧ ∀ i, i < K → h 104 i = h 12 i ∧ ∃ A B C : Nat, (h 13 i = (A : Int) ∧ h 14 i = (B : Int) ∧ h 15 i = (C : Int)) ∧ (h 105 i = (A : Int) ∧ h 106 i = (B : Int) ∧ h 107 i = (C : Int)) ∧ C ≤ 240 ∧ SuC (PJ h) 15 A B ∧ CoC (PJ h) B C
section LK
variable {N a b : Nat} {P : Nat → Int → Int → Prop} {f : Nat → Int} {h h' g : Hp} {r : Option Int}
def frX (h h1 : Hp) : Prop := ∀ c j, ¬ (c = 19 ∨ c = 11 ∧ (j = 10 ∨ j = 11)) → h1 c j = h c j
theorem x_reckon (hN : 1000000 ≤ N) (ab : a < b) (hb : b ≤ 240) (E : EX P r 16 a b f) (C : ∀ j o v, a ≤ j → j < b → P j o v → PX h j o v) (F : ∀ k, k < 8 → h 18 k = f k) : ∃ h1, F_X2_reckon N (a : Int) (b : Int) h = some (r.getD 0, h1) ∧ frX h h1 := by
  obtain ⟨q, eq⟩ : ∃ q, N = q + (b - a) + 1 := ⟨N - (b - a) - 1, by omega⟩
  obtain ⟨h2, e2⟩ : ∃ h2, h2 = hw (hw h 11 10 0) 11 11 0 := ⟨_, rfl⟩
  have f2 : ∀ c j, ¬ (c = 11 ∧ (j = 10 ∨ j = 11)) → h2 c j = h c j := fun c j z => by rw [e2, hw_ne (by omega), hw_ne (by omega)]
  obtain ⟨h3, q', k, E3, R⟩ := E N q b 0 h2 (Nat.le_refl _) hb (by omega) (fun j o v z1 z2 z3 => by
    have := C j o v z1 z2 z3
    unfold PX at this ⊢
    rw [f2 16 j (by omega), f2 17 j (by omega)]; exact this) ⟨by rw [e2, hw_ne (by omega), hw_eq]; rfl, by rw [e2, hw_eq], fun k hk => by rw [f2 18 k (by omega)]; exact F k hk⟩
  have fr : frX h h3 := fun c j z => by rw [E3 c j (by omega) (by omega), f2 c j (by omega)]
  rw [← eq] at R
  unfold F_X2_reckon
  rw [bnd_s, bnd_s, ← e2]
  rcases R with ⟨v, r1, r2, r3, r4⟩ | ⟨r1, r2⟩
  · rw [r2, r1]
    unfold L_X2_reckon_12 J_X2_reckon_202
    rw [if_neg (by omega), if_pos (by omega), if_pos r3.2.1, x_pop (s := 0) r3.1 (by omega), bd_s, r4]
    exact ⟨_, rfl, fun c j z => by rw [hw_ne (by omega)]; exact fr c j z⟩
  · rw [r2, r1]
    exact ⟨h3, rfl, fr⟩
theorem m_comes (hN : 1000000 ≤ N) (ab : a < b) (hb : b ≤ 240) (E : EM P r 16 a b f) (C : ∀ j o v, a ≤ j → j < b → P j o v → PM g j o v) (F : ∀ k, k < 8 → g 109 k = f k) : ∃ g1, F_X12_comesTo N (a : Int) (b : Int) g = some (r.getD 0, g1) ∧ ∀ c j, ¬ c = 108 → g1 c j = g c j := by
  obtain ⟨q, eq⟩ : ∃ q, N = q + (b - a) + 1 := ⟨N - (b - a) - 1, by omega⟩
  have d0 : w32 (260 * idiv (a : Int) 260) = 0 := by
    rw [idiv_pos ⟨by omega, by omega⟩ ⟨by omega, by omega⟩, show (a : Int) / 260 = 0 by omega]; rfl
  obtain ⟨h3, q', k, E3, R⟩ := E N q b 0 g (Nat.le_refl _) hb (by omega) C F
  have fr : ∀ c j, ¬ c = 108 → h3 c j = g c j := fun c j z => E3 c j (by omega)
  rw [← eq] at R
  unfold F_X12_comesTo
  rw [d0, bnd_s]
  have c0 : ((0 : Nat) : Int) = 0 := rfl
  rw [c0] at R
  rcases R with ⟨v, r1, r2, r4⟩ | ⟨r1, r2⟩
  · rw [r2, r1]
    unfold L_X12_comesTo_16
    rw [if_pos (by omega)]
    exact ⟨h3, by rw [show (0 : Int).toNat = 0 from rfl, r4]; rfl, fr⟩
  · rw [r2, r1]
    exact ⟨h3, rfl, fr⟩
theorem SuE (H : SuC P 15 a b) : a < b ∧ ∀ f, ∃ r, EX P r 16 a b f ∧ EM P r 16 a b f := ⟨H.lt, (se (H.up 16 (by omega))).2.2⟩
theorem law_v (hN : 1000000 ≤ N) {K : Nat} (hK : K ≤ 16) (e4 : h 11 4 = (K : Int)) (e24 : h 83 24 = (K : Int)) (S : ∀ i, i < K → h 104 i = h 12 i ∧ ∃ A B C : Nat, (h 13 i = (A : Int) ∧ h 14 i = (B : Int) ∧ h 15 i = (C : Int)) ∧ (h 105 i = (A : Int) ∧ h 106 i = (B : Int) ∧ h 107 i = (C : Int)) ∧ C ≤ 240 ∧ SuC (PJ h) 15 A B ∧ CoC (PJ h) B C) (l : Int) (f : Nat → Int) : ∀ (d i : Nat), i + d = K → ∃ v, (0 ≤ v ∧ v ≤ most l) ∧ (∀ (q : Nat) (h' : Hp), d < q → agX h h' → (∀ k, k < 8 → h' 18 k = f k) → ∃ h1, L_X2_ask_2 N q l (i : Int) h' = some (v, h1) ∧ frX h' h1) ∧ (∀ (q : Nat) (g : Hp), d < q → agM h g → (∀ k, k < 8 → g 109 k = f k) → ∃ h1, L_X12_byLaw_2 N q l (most l) (i : Int) g = some (v, h1) ∧ ∀ c j, ¬ c = 108 → h1 c j = g c j)
  | 0, i, hd => by
    refine ⟨0, ⟨Int.le_refl _, by unfold most; split <;> omega⟩, fun q h' hq A F => ?_, fun q g hq A F => ?_⟩
    · obtain ⟨q, rfl⟩ : ∃ q', q = q' + 1 := ⟨q - 1, by omega⟩
      unfold L_X2_ask_2
      rw [A.2, e4, if_pos (by omega)]
      exact ⟨h', rfl, fun _ _ _ => rfl⟩
    · obtain ⟨q, rfl⟩ : ∃ q', q = q' + 1 := ⟨q - 1, by omega⟩
      unfold L_X12_byLaw_2
      rw [A.2, e24, if_pos (by omega)]
      exact ⟨g, rfl, fun _ _ _ => rfl⟩
  | d + 1, i, hd => by
    obtain ⟨v, v0, v1, v2⟩ := law_v hN hK e4 e24 S l f d (i + 1) (by omega)
    obtain ⟨s1, A, B, C, ⟨a1, a2, a3⟩, ⟨b1, b2, b3⟩, c1, c2, c3⟩ := S i (by omega)
    have skX : ∀ (q : Nat) (h' h0 : Hp), d < q → agX h h' → (∀ k, k < 8 → h' 18 k = f k) → frX h0 h' → ∃ h1, J_X2_ask_85 N (L_X2_ask_2 N q) l (i : Int) h' = some (v, h1) ∧ frX h0 h1 := fun q h' h0 hq A F fr => by
      obtain ⟨h1, z1, z2⟩ := v1 q h' hq A F
      unfold J_X2_ask_85
      rw [bnd_s, inc (by omega)]
      exact ⟨h1, z1, fun c j z => (z2 c j z).trans (fr c j z)⟩
    have skM : ∀ (q : Nat) (h' h0 : Hp), d < q → agM h h' → (∀ k, k < 8 → h' 109 k = f k) → (∀ c j, ¬ c = 108 → h' c j = h0 c j) → ∃ h1, J_X12_byLaw_83 N (L_X12_byLaw_2 N q) l (most l) (i : Int) h' = some (v, h1) ∧ ∀ c j, ¬ c = 108 → h1 c j = h0 c j := fun q h' h0 hq A F fr => by
      obtain ⟨h1, z1, z2⟩ := v2 q h' hq A F
      unfold J_X12_byLaw_83
      rw [bnd_s, inc (by omega)]
      exact ⟨h1, z1, fun c j z => (z2 c j z).trans (fr c j z)⟩
    have agx : ∀ h' h1 : Hp, agX h h' → frX h' h1 → agX h h1 := fun h' h1 A fr => ⟨fun c y1 y2 => by rw [← A.1 c y1 y2]; exact funext fun j => fr c j (by omega), by rw [fr 11 4 (by omega)]; exact A.2⟩
    have agm : ∀ h' h1 : Hp, agM h h' → (∀ c j, ¬ c = 108 → h1 c j = h' c j) → agM h h1 := fun h' h1 A fr => ⟨fun c y1 y2 => by rw [← A.1 c y1 y2]; exact funext fun j => fr c j (by omega), by rw [fr 83 24 (by omega)]; exact A.2⟩
    have cdx : ∀ h' : Hp, agX h h' → ∀ (x y j : Nat) (o w : Int), x ≤ j → j < y → PJ h j o w → PX h' j o w := fun h' A x y j o w _ _ z => by
      unfold PX
      rw [A.1 16 (by omega) (by omega), A.1 17 (by omega) (by omega)]
      exact z.1
    have cdm : ∀ h' : Hp, agM h h' → ∀ (x y j : Nat) (o w : Int), x ≤ j → j < y → PJ h j o w → PM h' j o w := fun h' A x y j o w _ _ z => by
      unfold PM
      rw [A.1 103 (by omega) (by omega)]
      exact z.2
    obtain ⟨rs, x1, x2⟩ := (SuE c2).2 f
    obtain ⟨rc, y0, y1, y2⟩ := (ce c3).2 f
    have lAB := c2.lt
    have lBC := c3.lt
    by_cases hl : h 12 i = l
    rotate_left
    · refine ⟨v, v0, fun q h' hq A F => ?_, fun q g hq A F => ?_⟩
      · obtain ⟨q, rfl⟩ : ∃ q', q = q' + 1 := ⟨q - 1, by omega⟩
        unfold L_X2_ask_2
        rw [A.2, e4, if_neg (by omega), if_neg (by omega), grd_t ⟨by omega, by omega⟩, Int.toNat_natCast, A.1 12 (by omega) (by omega), if_neg hl]
        exact skX q h' h' (by omega) A F (fun _ _ _ => rfl)
      · obtain ⟨q, rfl⟩ : ∃ q', q = q' + 1 := ⟨q - 1, by omega⟩
        unfold L_X12_byLaw_2
        rw [A.2, e24, if_neg (by omega), grd_t ⟨by omega, by omega⟩, Int.toNat_natCast, A.1 104 (by omega) (by omega), s1, if_neg hl]
        exact skM q g g (by omega) A F (fun _ _ _ => rfl)
    · -- the clause is of this letter
      obtain ⟨cv, ecv⟩ : ∃ cv, cv = rc.getD 0 := ⟨_, rfl⟩
      have cv01 : cv = 0 ∨ cv = 1 := by
        cases hr : rc with
        | none => rw [hr] at ecv; exact Or.inl ecv
        | some x => rw [hr] at ecv; rw [ecv]; exact y0 x hr
      obtain ⟨w, ew⟩ : ∃ w, w = if cv = 0 then v else imax 0 (imin (most l) (rs.getD 0)) := ⟨_, rfl⟩
      have mst : most l = if l = 117 then 9 else 999 := rfl
      refine ⟨w, ?_, fun q h' hq A F => ?_, fun q g hq A F => ?_⟩
      · rw [ew]
        by_cases z : cv = 0
        · rw [if_pos z]; exact v0
        · rw [if_neg z]
          have : 0 ≤ most l := by rw [mst]; split <;> omega
          unfold imax imin
          repeat' split
          all_goals omega
      · obtain ⟨q, rfl⟩ : ∃ q', q = q' + 1 := ⟨q - 1, by omega⟩
        obtain ⟨h1, z1, z2⟩ := x_reckon (N := N) hN lBC c1 y1 (cdx h' A _ _) F
        have A1 := agx h' h1 A z2
        have F1 : ∀ k, k < 8 → h1 18 k = f k := fun k hk => by rw [z2 18 k (by omega)]; exact F k hk
        obtain ⟨h2, z3, z4⟩ := x_reckon (N := N) hN lAB (by omega) x1 (cdx h1 A1 _ _) F1
        unfold L_X2_ask_2
        rw [A.2, e4, if_neg (by omega), if_neg (by omega), grd_t ⟨by omega, by omega⟩, Int.toNat_natCast, A.1 12 (by omega) (by omega), if_pos hl, grd_t ⟨by omega, by omega⟩, grd_t ⟨by omega, by omega⟩, A.1 14 (by omega) (by omega), A.1 15 (by omega) (by omega), a2, a3, z1, bd_s, ← ecv, ew]
        by_cases z : cv = 0
        · rw [if_pos z, if_pos z]
          exact skX q h1 h' (by omega) A1 F1 z2
        · rw [if_neg z, if_neg z]
          have j59 : ∀ s0, J_X2_ask_59 N (i : Int) s0 h1 = some (imax 0 (imin s0 (rs.getD 0)), h2) := fun s0 => by
            unfold J_X2_ask_59
            rw [grd_t ⟨by omega, by omega⟩, grd_t ⟨by omega, by omega⟩, Int.toNat_natCast, A1.1 13 (by omega) (by omega), A1.1 14 (by omega) (by omega), a1, a2, z3, bd_s]
          refine ⟨h2, ?_, fun c j y => (z4 c j y).trans (z2 c j y)⟩
          rw [mst]
          by_cases y : l = 117
          · rw [if_pos y, if_pos y, j59]
          · rw [if_neg y, if_neg y, j59]
      · obtain ⟨q, rfl⟩ : ∃ q', q = q' + 1 := ⟨q - 1, by omega⟩
        obtain ⟨h1, z1, z2⟩ := m_comes (N := N) hN lBC c1 y2 (cdm g A _ _) F
        have A1 := agm g h1 A z2
        have F1 : ∀ k, k < 8 → h1 109 k = f k := fun k hk => by rw [z2 109 k (by omega)]; exact F k hk
        obtain ⟨h2, z3, z4⟩ := m_comes (N := N) hN lAB (by omega) x2 (cdm h1 A1 _ _) F1
        unfold L_X12_byLaw_2
        rw [A.2, e24, if_neg (by omega), grd_t ⟨by omega, by omega⟩, Int.toNat_natCast, A.1 104 (by omega) (by omega), s1, if_pos hl, grd_t ⟨by omega, by omega⟩, grd_t ⟨by omega, by omega⟩, A.1 106 (by omega) (by omega), A.1 107 (by omega) (by omega), b2, b3, z1, bd_s, ← ecv, ew]
        by_cases z : cv = 0
        · rw [if_neg (by omega), if_pos z]
          exact skM q h1 g (by omega) A1 F1 z2
        · rw [if_pos (by omega), if_neg z, grd_t ⟨by omega, by omega⟩, grd_t ⟨by omega, by omega⟩, A1.1 105 (by omega) (by omega), A1.1 106 (by omega) (by omega), b1, b2, z3, bd_s]
          refine ⟨h2, ?_, fun c j y => (z4 c j y).trans (z2 c j y)⟩
          have m0 : 0 ≤ most l := by rw [mst]; split <;> omega
          obtain ⟨u, eu⟩ : ∃ u, u = rs.getD 0 := ⟨_, rfl⟩
          rw [← eu]
          by_cases t1 : 0 ≤ u
          · rw [if_pos t1]
            by_cases t2 : u ≤ most l
            · rw [if_pos t2]
              have : imax 0 (imin (most l) u) = u := by unfold imax imin; repeat' split <;> omega
              rw [this]
            · rw [if_neg t2]
              have : imax 0 (imin (most l) u) = most l := by unfold imax imin; repeat' split <;> omega
              rw [this]
          · rw [if_neg t1]
            have : imax 0 (imin (most l) u) = 0 := by unfold imax imin; repeat' split <;> omega
            rw [this]
theorem law_ok (hN : 1000000 ≤ N) (S : LawSh h) : IL N h := by
  obtain ⟨K, hK, e4, e24, S⟩ := S
  refine ⟨by rw [e24, e4], ?_⟩
  have E := fun (l : Int) (f : Nat → Int) => law_v (N := N) hN hK e4 e24 S l f K 0 (by omega)
  obtain ⟨A0, hA⟩ := Classical.axiomOfChoice (fun l => Classical.axiomOfChoice (E l))
  refine ⟨fun l f => A0 l (fun k => if k < 8 then f k else 0), fun l f => (hA l (fun k => if k < 8 then f k else 0)).1, fun l f g hfg => ?_, fun h' l A hl => ?_, fun h' l A hl => ?_⟩
  · have : (fun k => if k < 8 then f k else 0) = (fun k => if k < 8 then g k else (0 : Int)) := funext fun k => by
      by_cases z : k < 8
      · rw [if_pos z, if_pos z]; exact hfg k z
      · rw [if_neg z, if_neg z]
    show A0 l (fun k => if k < 8 then f k else 0) = A0 l (fun k => if k < 8 then g k else 0)
    rw [this]
  · obtain ⟨h1, z1, z2⟩ := (hA l (fun k => if k < 8 then h' 18 k else 0)).2.1 N h' (by omega) A (fun k hk => by simp only [if_pos hk])
    exact ⟨h1, z1, z2⟩
  · obtain ⟨h1, z1, z2⟩ := (hA l (fun k => if k < 8 then h' 109 k else 0)).2.2 N h' (by omega) A (fun k hk => by simp only [if_pos hk])
    exact ⟨h1, z1, z2⟩
end LK
