/-! THE CLASS'S SHORTEST WAYS -/
def ecw (v : Int) : Int := if v < 1000000 then v else -2
theorem ecw_s {a f c : Int} (ha : 0 ≤ a ∧ a ≤ 1000000 ∧ (a < 1000000 → a ≤ 1386)) (hf : 1 ≤ f ∧ f ≤ 1386) (hc : 0 ≤ c ∧ c ≤ 1000000 ∧ (c < 1000000 → c ≤ 1386)) : ecw (imin a (f + c)) = if ecw c < 0 then ecw a else if ecw a < 0 then f + ecw c else if ecw a ≤ f + ecw c then ecw a else f + ecw c := by
  obtain ⟨a0, a1, a2⟩ := ha
  obtain ⟨c0, c1, c2⟩ := hc
  simp only [ecw, imin]
  (repeat' split) <;> omega
theorem sm_add (f g : Nat → Int) : ∀ n, sm (fun i => f i + g i) n = sm f n + sm g n
  | 0 => rfl
  | n + 1 => by simp only [sm]; rw [sm_add f g n]; omega
theorem sm_pair (f : Nat → Nat → Int) (hs : ∀ i j, f i j = f j i) (hd : ∀ i, f i i = 0) : ∀ n, sm (fun i => sm (f i) n) n = 2 * sm (fun i => sm (f i) i) n
  | 0 => rfl
  | n + 1 => by
    have ih := sm_pair f hs hd n
    have e1 : sm (fun i => sm (f i) (n + 1)) n = sm (fun i => sm (f i) n) n + sm (fun i => f i n) n := sm_add (fun i => sm (f i) n) (fun i => f i n) n
    have e2 : sm (fun i => f i n) n = sm (f n) n := sm_c (fun i _ => hs i n)
    have e3 : sm (fun i => sm (f i) (n + 1)) (n + 1) = sm (fun i => sm (f i) (n + 1)) n + (sm (f n) n + f n n) := rfl
    have e4 : sm (fun i => sm (f i) i) (n + 1) = sm (fun i => sm (f i) i) n + sm (f n) n := rfl
    rw [e3, e4, e1, e2, hd, ih]
    omega
theorem sm_grid (f : Nat → Int) (w i : Nat) : ∀ j, sm f (w * i + j) = sm f (w * i) + sm (fun j => f (w * i + j)) j
  | 0 => by show sm f (w * i) = sm f (w * i) + 0; omega
  | j + 1 => by
    have ih := sm_grid f w i j
    show sm f (w * i + j) + f (w * i + j) = sm f (w * i) + (sm (fun j => f (w * i + j)) j + f (w * i + j))
    omega
theorem sm_grid2 (f : Nat → Int) (w : Nat) : ∀ i, sm f (w * i) = sm (fun i => sm (fun j => f (w * i + j)) w) i
  | 0 => rfl
  | i + 1 => by
    have ih := sm_grid2 f w i
    have g := sm_grid f w i w
    rw [show w * i + w = w * (i + 1) by rw [Nat.mul_succ]] at g
    rw [g, ih]
    rfl
/-- a pair that is a road -/
def rdp (r : Nat → Int) (p : Nat) : Int := if p % 15 = 0 then 0 else if r p ≤ 0 then 0 else 1
theorem rdp_01 (r : Nat → Int) (p : Nat) : 0 ≤ rdp r p ∧ rdp r p ≤ 1 := by unfold rdp; split <;> (try split) <;> omega
theorem rdp_all {r : Nat → Int} {t : Nat} (hr : RdOK r t) : sm (rdp r) 196 = 2 * rdCount r := by
  rw [rdc_sm]
  have e1 := sm_grid2 (rdp r) 14 14
  rw [show 14 * 14 = 196 from rfl] at e1
  rw [e1]
  obtain ⟨f, ef⟩ : ∃ f : Nat → Nat → Int, f = fun i j => if i < 14 ∧ j < 14 ∧ 0 < r (14 * i + j) then 1 else 0 := ⟨_, rfl⟩
  have hs : ∀ i j, f i j = f j i := fun i j => by
    rw [ef]
    simp only
    by_cases z : i < 14 ∧ j < 14
    · rw [hr.2.1 i j z.1 z.2]
      by_cases y : 0 < r (14 * j + i)
      · rw [if_pos ⟨z.1, z.2, y⟩, if_pos ⟨z.2, z.1, y⟩]
      · rw [if_neg (fun w => y w.2.2), if_neg (fun w => y w.2.2)]
    · rw [if_neg (fun w => z ⟨w.1, w.2.1⟩), if_neg (fun w => z ⟨w.2.1, w.1⟩)]
  have hd : ∀ i, f i i = 0 := fun i => by
    rw [ef]
    simp only
    rw [if_neg (fun w => (hr.2.2 i i w.1 w.2.1 w.2.2).2.2 rfl)]
  have p := sm_pair f hs hd 14
  have e2 : sm (fun i => sm (fun j => rdp r (14 * i + j)) 14) 14 = sm (fun i => sm (f i) 14) 14 := sm_c (fun i hi => sm_c (fun j hj => by
    rw [ef]
    unfold rdp
    simp only
    by_cases y : 0 < r (14 * i + j)
    · have := (hr.2.2 i j hi hj y).2.2
      rw [if_neg (by omega), if_neg (by omega), if_pos ⟨hi, hj, y⟩]
    · rw [if_neg (show ¬ (i < 14 ∧ j < 14 ∧ 0 < r (14 * i + j)) from fun w => y w.2.2)]
      split
      · rfl
      · rw [if_pos (by omega)]))
  have e3 : sm (fun i => sm (f i) i) 14 = sm (fun i => sm (rd1 r i) i) 14 := sm_c (fun i hi => sm_c (fun j hj => by
    rw [ef]
    unfold rd1
    simp only
    by_cases y : 0 < r (14 * i + j)
    · rw [if_pos ⟨hi, by omega, y⟩, if_pos y]
    · rw [if_neg (fun w => y w.2.2), if_neg y]))
  rw [e2, p, e3]
section WY
variable {N t : Nat} {r : Nat → Int} {g : Hp}
def exW (g h : Hp) : Prop := ∀ c j, ¬ (c = 10 ∨ (c = 7 ∧ j = 3)) → h c j = g c j
theorem l_w7 (hr : RdOK r t) (h8 : ∀ p, p < 196 → g 8 p = r p) : ∀ (q k : Nat) (h : Hp), k ≤ 196 → 196 - k < q → exW g h → h 7 3 = sm (rdp r) k → (∀ i j, i < 14 → j < 14 → 14 * i + j < k → h 10 (14 * i + j) = ecw (bsX r i j)) → ∃ h', L_X7_findWays_7 N q (k : Int) h = L_X7_findWays_98 N N 0 h' ∧ exW g h' ∧ h' 7 3 = rdCount r ∧ ∀ i j, i < 14 → j < 14 → h' 10 (14 * i + j) = ecw (bsX r i j)
  | 0, k, _, _, hq, _, _, _ => absurd hq (by omega)
  | q + 1, k, h, hk, hq, F, e7, W => by
    have b := sm_b2 (f := rdp r) (B := 1) (rdp_01 r) k
    unfold L_X7_findWays_7
    by_cases c : k = 196
    · subst c
      have e := rdp_all hr
      rw [if_pos (by omega), e7, e, idiv_pos ⟨by omega, by omega⟩ ⟨by omega, by omega⟩, bnd_s, show 2 * rdCount r / 2 = rdCount r by omega]
      exact ⟨_, rfl, fun c j z => by rw [hw_ne (by omega)]; exact F c j z, hw_eq, fun i j hi hj => by rw [hw_ne (by omega)]; exact W i j hi hj (by omega)⟩
    · obtain ⟨i0, ei⟩ : ∃ i, i = k / 14 := ⟨_, rfl⟩
      obtain ⟨j0, ej⟩ : ∃ j, j = k % 14 := ⟨_, rfl⟩
      have g196 : 0 ≤ (k : Int) ∧ (k : Int) < 196 := ⟨by omega, by omega⟩
      have e8 : h 8 k = r k := by rw [F 8 k (by omega)]; exact h8 k (by omega)
      have e1 : sm (rdp r) (k + 1) = sm (rdp r) k + rdp r k := rfl
      unfold J_X7_findWays_56 J_X7_findWays_76 J_X7_findWays_80
      simp only [bnd_s, grd_t g196, Int.toNat_natCast]
      rw [if_neg (by omega), irem_pos ⟨by omega, by omega⟩ ⟨by omega, by omega⟩, inc (by omega), e8]
      by_cases z : k % 15 = 0
      · have r0 : rdp r k = 0 := by unfold rdp; rw [if_pos z]
        have ij : i0 = j0 := by omega
        rw [if_pos (by omega)]
        refine l_w7 hr h8 q (k + 1) _ (by omega) (by omega) (fun c j y => by rw [hw_ne (by omega)]; exact F c j y) (by rw [hw_ne (by omega), e7, e1, r0]; omega) (fun i j hi hj hl => ?_)
        by_cases y : 14 * i + j = k
        · rw [y, hw_eq]
          obtain rfl : i = j := by omega
          rw [bsX_d]; rfl
        · rw [hw_ne (by omega)]; exact W i j hi hj (by omega)
      · have ne : i0 ≠ j0 := by omega
        have bs : bsX r i0 j0 = if 0 < r k then r k else 1000000 := by unfold bsX; rw [if_neg ne, show 14 * i0 + j0 = k by omega]
        rw [if_neg (by omega)]
        have rb := hr.1 k (by omega)
        have next : ∀ h1 : Hp, exW g h1 → h1 7 3 = sm (rdp r) (k + 1) → h1 10 k = ecw (bsX r i0 j0) → (∀ p, p ≠ k → h1 10 p = h 10 p) → ∃ h', L_X7_findWays_7 N q ((k + 1 : Nat) : Int) h1 = L_X7_findWays_98 N N 0 h' ∧ exW g h' ∧ h' 7 3 = rdCount r ∧ ∀ i j, i < 14 → j < 14 → h' 10 (14 * i + j) = ecw (bsX r i j) := fun h1 a1 a2 a3 a4 => l_w7 hr h8 q (k + 1) h1 (by omega) (by omega) a1 a2 (fun i j hi hj hl => by
          by_cases y : 14 * i + j = k
          · obtain rfl : i = i0 := by omega
            obtain rfl : j = j0 := by omega
            rw [y]; exact a3
          · rw [a4 _ y]; exact W i j hi hj (by omega))
        by_cases y : r k ≤ 0
        · have r0 : rdp r k = 0 := by unfold rdp; rw [if_neg z, if_pos y]
          rw [if_pos y, if_pos (show hw h 10 k (-2) 8 k ≤ 0 by rw [hw_ne (by omega), e8]; exact y), hw_ne (show ¬ (7 = 10 ∧ 3 = k) by omega), e7, w32_id ⟨by omega, by omega⟩]
          refine next _ (fun c j w => by rw [hw_ne (by omega), hw_ne (by omega)]; exact F c j w) (by rw [hw_eq, e1, r0]) (by rw [hw_ne (by omega), hw_eq, bs, if_neg (by omega)]; rfl) (fun p w => by rw [hw_ne (by omega), hw_ne (by omega)])
        · have r0 : rdp r k = 1 := by unfold rdp; rw [if_neg z, if_neg y]
          rw [if_neg y, if_neg (show ¬ hw h 10 k (r k) 8 k ≤ 0 by rw [hw_ne (by omega), e8]; exact y), hw_ne (show ¬ (7 = 10 ∧ 3 = k) by omega), e7, w32_id ⟨by omega, by omega⟩]
          refine next _ (fun c j w => by rw [hw_ne (by omega), hw_ne (by omega)]; exact F c j w) (by rw [hw_eq, e1, r0]) (by rw [hw_ne (by omega), hw_eq, bs, if_pos (by omega)]; unfold ecw; rw [if_pos (by omega)]) (fun p w => by rw [hw_ne (by omega), hw_ne (by omega)])
/-- the ways in the middle of a round: up to a street, in its row up to a street -/
def WX (r : Nat → Int) (m i j : Nat) (h : Hp) : Prop := ∀ i' j', i' < 14 → j' < 14 → h 10 (14 * i' + j') = ecw (FW (bsX r) (if i' < i ∨ (i' = i ∧ j' < j) then m + 1 else m) i' j')
theorem FWx_b (hr : RdOK r t) {m i j : Nat} (hm : m ≤ 14) (hi : i < 14) (hj : j < 14) : 0 ≤ FW (bsX r) m i j ∧ FW (bsX r) m i j ≤ 1000000 ∧ (FW (bsX r) m i j < 1000000 → FW (bsX r) m i j ≤ 1386) := ⟨FW_nn bsX_nn m i j, FWX_m hr hi hj, fun h => FWX_b hr hm hi hj h⟩
theorem w14m' {i j : Nat} (hi : i < 14) (hj : j < 14) : w32 (w32 ((i : Int) * 14) + (j : Int)) = ((14 * i + j : Nat) : Int) := by
  rw [w32_id (x := (i : Int) * 14) ⟨by omega, by omega⟩, w32_id ⟨by omega, by omega⟩]; omega
theorem WX_row (hr : RdOK r t) {m i j : Nat} (hm : m < 14) {h : Hp} (W : WX r m i j h) {j' : Nat} (hj : j' < 14) : h 10 (14 * m + j') = ecw (FW (bsX r) m m j') := by
  rw [W m j' hm hj]
  split
  · rw [FW_row bsX_nn]
  · rfl
theorem l_sh (hr : RdOK r t) {m i : Nat} (hm : m < 14) (hi : i < 14) (hf : 1 ≤ FW (bsX r) m i m ∧ FW (bsX r) m i m ≤ 1386) : ∀ (q j : Nat) (h : Hp), j ≤ 14 → 14 - j < q → exW g h → WX r m i j h → ∃ h', L_X7_shortenFrom_15 N q (i : Int) (m : Int) (FW (bsX r) m i m) (j : Int) h = some h' ∧ exW g h' ∧ h' 7 3 = h 7 3 ∧ WX r m i 14 h'
  | 0, j, _, _, hq, _, _ => absurd hq (by omega)
  | q + 1, j, h, hj, hq, F, W => by
    unfold L_X7_shortenFrom_15
    by_cases c : j = 14
    · subst c
      rw [if_pos (by omega)]
      exact ⟨h, rfl, F, rfl, W⟩
    · have hj14 : j < 14 := by omega
      have g1 : 0 ≤ ((14 * m + j : Nat) : Int) ∧ ((14 * m + j : Nat) : Int) < 196 := ⟨by omega, by omega⟩
      have g2 : 0 ≤ ((14 * i + j : Nat) : Int) ∧ ((14 * i + j : Nat) : Int) < 196 := ⟨by omega, by omega⟩
      have rr : h 10 (14 * m + j) = ecw (FW (bsX r) m m j) := WX_row hr hm W hj14
      have rd : h 10 (14 * i + j) = ecw (FW (bsX r) m i j) := by rw [W i j hi hj14, if_neg (by omega)]
      have es := ecw_s (FWx_b hr (m := m) (by omega) hi hj14) hf (FWx_b hr (m := m) (by omega) hm hj14)
      have bc := FWx_b hr (m := m) (by omega) hm hj14
      rw [← FW_s m i j] at es
      unfold J_X7_shortenFrom_69 J_X7_shortenFrom_85
      simp only [w14m' hm hj14, w14m' hi hj14, grd_t g1, grd_t g2, bnd_s, Int.toNat_natCast]
      rw [if_neg (by omega), rr, rd, inc (by omega)]
      have keep : ecw (FW (bsX r) (m + 1) i j) = ecw (FW (bsX r) m i j) → ∃ h', L_X7_shortenFrom_15 N q (i : Int) (m : Int) (FW (bsX r) m i m) ((j + 1 : Nat) : Int) h = some h' ∧ exW g h' ∧ h' 7 3 = h 7 3 ∧ WX r m i 14 h' := fun z => l_sh hr hm hi hf q (j + 1) h (by omega) (by omega) F (fun i' j' hi' hj' => by
        by_cases y : i' = i ∧ j' = j
        · obtain ⟨rfl, rfl⟩ := y
          rw [if_pos (by omega), z]; exact rd
        · rw [W i' j' hi' hj']
          by_cases x : i' < i ∨ (i' = i ∧ j' < j)
          · rw [if_pos x, if_pos (by omega)]
          · rw [if_neg x, if_neg (by omega)])
      have setv : ∀ v, ecw (FW (bsX r) (m + 1) i j) = v → ∃ h', L_X7_shortenFrom_15 N q (i : Int) (m : Int) (FW (bsX r) m i m) ((j + 1 : Nat) : Int) (hw h 10 (14 * i + j) v) = some h' ∧ exW g h' ∧ h' 7 3 = h 7 3 ∧ WX r m i 14 h' := fun v z => by
        obtain ⟨h', a1, a2, a3, a4⟩ := l_sh hr hm hi hf q (j + 1) (hw h 10 (14 * i + j) v) (by omega) (by omega) (fun c j y => by rw [hw_ne (by omega)]; exact F c j y) (fun i' j' hi' hj' => by
          by_cases y : i' = i ∧ j' = j
          · obtain ⟨rfl, rfl⟩ := y
            rw [if_pos (by omega), z, hw_eq]
          · rw [hw_ne (by omega), W i' j' hi' hj']
            by_cases x : i' < i ∨ (i' = i ∧ j' < j)
            · rw [if_pos x, if_pos (by omega)]
            · rw [if_neg x, if_neg (by omega)])
        exact ⟨h', a1, a2, by rw [a3, hw_ne (by omega)], a4⟩
      by_cases z1 : ecw (FW (bsX r) m m j) < 0
      · rw [if_pos z1] at es ⊢
        exact keep es
      · have z2 : FW (bsX r) m m j < 1000000 := by
          refine Int.not_le.mp fun y => z1 ?_
          unfold ecw; rw [if_neg (by omega)]; decide
        have e2 : ecw (FW (bsX r) m m j) = FW (bsX r) m m j := by unfold ecw; rw [if_pos z2]
        have b2 := bc.2.2 z2
        rw [if_neg z1] at es ⊢
        rw [e2] at es ⊢
        rw [w32_id (x := FW (bsX r) m i m + FW (bsX r) m m j) ⟨by omega, by omega⟩]
        by_cases z3 : ecw (FW (bsX r) m i j) < 0
        · rw [if_pos z3] at es ⊢
          exact setv _ es
        · rw [if_neg z3] at es ⊢
          by_cases z4 : ecw (FW (bsX r) m i j) ≤ FW (bsX r) m i m + FW (bsX r) m m j
          · rw [if_pos z4] at es ⊢
            exact keep es
          · rw [if_neg z4] at es ⊢
            exact setv _ es
theorem l_w106 (hN : 1000000 ≤ N) (hr : RdOK r t) {m : Nat} (hm : m < 14) (K : Int → Hp → Option Hp) : ∀ (q i : Nat) (h : Hp), i ≤ 14 → 14 - i < q → exW g h → WX r m i 0 h → ∃ h', L_X7_findWays_106 N K q (m : Int) (i : Int) h = K (m : Int) h' ∧ exW g h' ∧ h' 7 3 = h 7 3 ∧ WX r m 14 0 h'
  | 0, i, _, _, hq, _, _ => absurd hq (by omega)
  | q + 1, i, h, hi, hq, F, W => by
    unfold L_X7_findWays_106
    by_cases c : i = 14
    · subst c
      rw [if_pos (by omega)]
      exact ⟨h, rfl, F, rfl, W⟩
    · have hi14 : i < 14 := by omega
      have g1 : 0 ≤ ((14 * i + m : Nat) : Int) ∧ ((14 * i + m : Nat) : Int) < 196 := ⟨by omega, by omega⟩
      have rd : h 10 (14 * i + m) = ecw (FW (bsX r) m i m) := by rw [W i m hi14 hm, if_neg (by omega)]
      have b := FWx_b hr (m := m) (by omega) hi14 hm
      unfold J_X7_findWays_132
      simp only [w14m' hi14 hm, grd_t g1, bnd_s, Int.toNat_natCast]
      rw [if_neg (by omega), rd, inc (by omega)]
      have nx : ∀ h1 : Hp, WX r m i 14 h1 → WX r m (i + 1) 0 h1 := fun h1 W1 i' j' hi' hj' => by
        rw [W1 i' j' hi' hj']
        by_cases x : i' < i ∨ (i' = i ∧ j' < 14)
        · rw [if_pos x, if_pos (by omega)]
        · rw [if_neg x, if_neg (by omega)]
      by_cases z : ecw (FW (bsX r) m i m) ≤ 0
      · rw [if_pos z]
        have same : ∀ j, j < 14 → FW (bsX r) (m + 1) i j = FW (bsX r) m i j := fun j hj => by
          by_cases y : FW (bsX r) m i m < 1000000
          · have e0 : FW (bsX r) m i m = 0 := by unfold ecw at z; rw [if_pos y] at z; omega
            by_cases x : i = m
            · subst x; exact FW_row bsX_nn i j
            · have := FW_pos (bsX_p (r := r)) bsX_nn m i m x
              omega
          · have bj := FWx_b hr (m := m) (by omega) hi14 hj
            have bm := FWx_b hr (m := m) (by omega) hm hj
            rw [FW_s]
            unfold imin
            rw [if_neg (by omega)]
        exact l_w106 hN hr hm K q (i + 1) h (by omega) (by omega) F (nx h (fun i' j' hi' hj' => by
          rw [W i' j' hi' hj']
          by_cases x : i' = i
          · subst x
            rw [if_neg (by omega), if_pos (by omega), same j' hj']
          · by_cases y : i' < i
            · rw [if_pos (by omega), if_pos (by omega)]
            · rw [if_neg (by omega), if_neg (by omega)]))
      · have y : FW (bsX r) m i m < 1000000 := by
          refine Int.not_le.mp fun y => z ?_
          unfold ecw; rw [if_neg (by omega)]; decide
        have e1 : ecw (FW (bsX r) m i m) = FW (bsX r) m i m := by unfold ecw; rw [if_pos y]
        obtain ⟨h1, a1, a2, a3, a4⟩ := l_sh (N := N) hr hm hi14 ⟨by omega, b.2.2 y⟩ N 0 h (by omega) (by omega) F W
        have es : F_X7_shortenFrom N (i : Int) (m : Int) h = some h1 := by
          unfold F_X7_shortenFrom
          rw [w14m' hi14 hm, grd_t g1, bnd_s, Int.toNat_natCast, rd, e1]
          exact a1
        rw [if_neg z, es, bv_s]
        obtain ⟨h', b1, b2, b3, b4⟩ := l_w106 hN hr hm K q (i + 1) h1 (by omega) (by omega) a2 (nx h1 a4)
        exact ⟨h', b1, b2, by rw [b3, a3], b4⟩
theorem l_w98 (hN : 1000000 ≤ N) (hr : RdOK r t) : ∀ (q m : Nat) (h : Hp), m ≤ 14 → 14 - m < q → exW g h → WX r m 0 0 h → ∃ h', L_X7_findWays_98 N q (m : Int) h = some h' ∧ exW g h' ∧ h' 7 3 = h 7 3 ∧ WX r 14 0 0 h'
  | 0, m, _, _, hq, _, _ => absurd hq (by omega)
  | q + 1, m, h, hm, hq, F, W => by
    unfold L_X7_findWays_98
    by_cases c : m = 14
    · subst c
      rw [if_pos (by omega)]
      exact ⟨h, rfl, F, rfl, W⟩
    · obtain ⟨h1, a1, a2, a3, a4⟩ := l_w106 (N := N) hN hr (show m < 14 by omega) (fun (v1 : Int) (h2 : Hp) => bnd (w32 (v1 + 1)) fun y3 => (L_X7_findWays_98 N q) y3 h2) N 0 h (by omega) (by omega) F W
      have a1 : L_X7_findWays_106 N (fun (v1 : Int) (h2 : Hp) => bnd (w32 (v1 + 1)) fun y3 => (L_X7_findWays_98 N q) y3 h2) N (m : Int) 0 h = bnd (w32 ((m : Int) + 1)) fun y3 => (L_X7_findWays_98 N q) y3 h1 := a1
      rw [if_neg (by omega), a1, bnd_s, inc (by omega)]
      obtain ⟨h', b1, b2, b3, b4⟩ := l_w98 hN hr q (m + 1) h1 (by omega) (by omega) a2 (fun i' j' hi' hj' => by
        rw [a4 i' j' hi' hj', if_pos (by omega), if_neg (by omega)])
      exact ⟨h', b1, b2, by rw [b3, a3], b4⟩
theorem s_ways (hN : 1000000 ≤ N) (hr : RdOK r t) (h8 : ∀ p, p < 196 → g 8 p = r p) : ∃ h', F_X7_findWays N g = some h' ∧ exW g h' ∧ h' 7 3 = rdCount r ∧ ∀ i j, i < 14 → j < 14 → h' 10 (14 * i + j) = if FW (bsX r) 14 i j < 1000000 then FW (bsX r) 14 i j else -2 := by
  obtain ⟨h1, a1, a2, a3, a4⟩ := l_w7 (N := N) (g := g) hr h8 N 0 (hw g 7 3 0) (by omega) (by omega) (fun c j z => by rw [hw_ne (by omega)]) hw_eq (fun i j _ _ h => absurd h (by omega))
  obtain ⟨h', b1, b2, b3, b4⟩ := l_w98 (N := N) (g := g) hN hr N 0 h1 (by omega) (by omega) a2 (fun i' j' hi' hj' => by rw [if_neg (by omega)]; exact a4 i' j' hi' hj')
  refine ⟨h', ?_, b2, by rw [b3, a3], fun i j hi hj => ?_⟩
  · unfold F_X7_findWays
    rw [bnd_s]
    exact a1.trans b1
  · rw [b4 i j hi hj, if_neg (by omega)]
    rfl
end WY
