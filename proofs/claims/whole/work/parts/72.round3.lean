/-! ROUND, THE CALL -/
section R3
variable {N n : Nat} {st : Nat → Nat} {E : Nat → Nat → Int} {g h : Hp}
theorem l_f15 (hN : 1000000 ≤ N) {u o : Nat} (ho : o < 14) (hu : u < 16384) (h7 : cn u ≤ 7) : ∀ (q k : Nat) (h : Hp), k ≤ 14 → 14 - k < q → (∀ c j, ¬ c = 66 → ¬ (c = 65 ∧ j = 4) → h c j = g c j) → h 66 7 = (o : Int) → h 65 4 = (cnt u k : Nat) → ch u k 66 h → (∀ j, j < k → u.testBit j = true → 0 ≤ g 10 (14 * o + j)) → ∃ h', (∀ c j, ¬ c = 66 → ¬ (c = 65 ∧ j = 4) → h' c j = g c j) ∧ (((∃ j, j < 14 ∧ u.testBit j = true ∧ g 10 (14 * o + j) < 0) ∧ L_X8_find_15 N q (o : Int) (u : Int) (k : Int) h = some (0, h')) ∨ ((∀ j, j < 14 → u.testBit j = true → 0 ≤ g 10 (14 * o + j)) ∧ h' 66 7 = (o : Int) ∧ h' 65 4 = (cn u : Nat) ∧ (∀ p, p < cn u → h' 66 p = (sel u p : Int)) ∧ L_X8_find_15 N q (o : Int) (u : Int) (k : Int) h = L_X8_find_80 N N 0 h'))
  | 0, k, h, _, hf, _, _, _, _, _ => absurd hf (by omega)
  | q + 1, k, h, hk, hf, F, e7, e4, C, R => by
    have hm : cnt u k ≤ cn u := by
      have h1 := cnt_mono u k (14 - k)
      rw [show k + (14 - k) = 14 by omega] at h1
      exact h1
    have fin : cnt u k = cn u → (∀ j, j < 14 → u.testBit j = true → 0 ≤ g 10 (14 * o + j)) ∧ h 66 7 = (o : Int) ∧ h 65 4 = (cn u : Nat) ∧ ∀ p, p < cn u → h 66 p = (sel u p : Int) := fun z => by
      refine ⟨fun j hj bj => ?_, e7, by rw [e4, z], fun p hp => ?_⟩
      · by_cases y : j < k
        · exact R j y bj
        · have h1 := cnt_mono u k (j - k)
          rw [show k + (j - k) = j by omega] at h1
          have h2 : cnt u j < cn u := cnt_lt hj bj
          omega
      · have := sel_ok hp
        have hlt : sel u p < k := by
          refine Nat.lt_of_not_le (fun y => ?_)
          have h1 := cnt_mono u k (sel u p - k)
          rw [show k + (sel u p - k) = sel u p by omega] at h1
          omega
        have e := C (sel u p) hlt this.2.1
        rw [this.2.2] at e
        exact e
    unfold L_X8_find_15
    by_cases c : k = 14
    · subst c
      rw [if_pos (by omega)]
      obtain ⟨a, b, d, e⟩ := fin rfl
      exact ⟨h, F, Or.inr ⟨a, b, d, e, rfl⟩⟩
    · rw [if_neg (by omega), e4]
      by_cases c8 : 7 ≤ ((cnt u k : Nat) : Int)
      · rw [if_pos c8]
        obtain ⟨a, b, d, e⟩ := fin (Nat.le_antisymm hm (by clear fin; omega))
        exact ⟨h, F, Or.inr ⟨a, b, d, e, rfl⟩⟩
      · clear fin
        rw [if_neg c8, s_hasBit (by omega) ⟨by omega, by omega⟩, bd_s, Int.toNat_natCast]
        unfold J_X8_find_72
        simp only [bnd_s]
        by_cases b : u.testBit k = true
        · have e : cnt u (k + 1) = cnt u k + 1 := by simp only [cnt]; rw [if_pos b]
          rw [if_neg (by rw [btN_1.mpr b]; decide), s_btw ho (show k < 14 by omega), bd_s, F 10 _ (by omega) (by omega)]
          by_cases y : 0 ≤ g 10 (14 * o + k)
          · rw [if_pos y, e4, grd_t ⟨by omega, by omega⟩, hw_ne (by omega), e4, inc (by omega), inc (by omega), Int.toNat_natCast]
            exact l_f15 hN ho hu h7 q (k + 1) _ (by omega) (by omega) (fun c j z1 z2 => by rw [hw_ne (by omega), hw_ne (by omega)]; exact F c j z1 z2) (by rw [hw_ne (by omega), hw_ne (by omega)]; exact e7) (by rw [hw_eq, e]) (fun j hj bj => by
              by_cases ej : j = k
              · subst ej; rw [hw_ne (by omega), hw_eq]
              · have := cnt_lt (show j < k by omega) bj
                rw [hw_ne (by omega), hw_ne (by omega)]; exact C j (by omega) bj) (fun j hj bj => by
              by_cases ej : j = k
              · subst ej; exact y
              · exact R j (by omega) bj)
          · rw [if_neg y]
            exact ⟨h, F, Or.inl ⟨⟨k, by omega, b, by omega⟩, rfl⟩⟩
        · have e : cnt u (k + 1) = cnt u k := by simp only [cnt]; rw [if_neg b]; rfl
          rw [if_pos (btN_0 b), inc (by omega)]
          exact l_f15 hN ho hu h7 q (k + 1) h (by omega) (by omega) F e7 (by rw [e4, e]) (fun j hj bj => by
            by_cases ej : j = k
            · subst ej; exact absurd bj b
            · exact C j (by omega) bj) (fun j hj bj => by
            by_cases ej : j = k
            · subst ej; exact absurd bj b
            · exact R j (by omega) bj)
/-- the reference's reckoning of a round -/
def RM (n : Nat) (st : Nat → Nat) (E : Nat → Nat → Int) (g : Hp) : Prop := (∀ p, p < n → g 118 p = (st p : Int)) ∧ (∀ p, rok n p → st p < 14) ∧ ∀ a b, rok n a → rok n b → g 91 (14 * st a + st b) = E a b ∧ 0 ≤ E a b ∧ E a b ≤ 1386
theorem ef_b (hn : 1 ≤ n) (hE : ∀ a b, rok n a → rok n b → 0 ≤ E a b ∧ E a b ≤ 1386) {c : Nat} (i : Nat) : 0 ≤ ef E n c i ∧ ef E n c i ≤ 1386 := hE _ _ (pv_ok hn i) (Or.inl (dg_lt hn))
theorem sm_b2 {f : Nat → Int} {B : Int} (hf : ∀ k, 0 ≤ f k ∧ f k ≤ B) : ∀ k : Nat, 0 ≤ sm f k ∧ sm f k ≤ B * k
  | 0 => by simp [sm]
  | k + 1 => by
    have h1 := sm_b2 hf k
    have h2 := hf k
    simp only [sm]
    have : B * ((k + 1 : Nat) : Int) = B * (k : Int) + B := by rw [Int.natCast_add, Int.mul_add]; simp
    omega
theorem lgr_b (hn : 1 ≤ n ∧ n ≤ 7) (hE : ∀ a b, rok n a → rok n b → 0 ≤ E a b ∧ E a b ≤ 1386) (c : Nat) : 0 ≤ lgr E n c ∧ lgr E n c < 1000000 := by
  have h1 := sm_b2 (f := ef E n c) (fun i => ef_b hn.1 hE i) n
  have h2 := hE (pv n c n) 7 (pv_ok hn.1 n) (Or.inr rfl)
  unfold lgr
  omega
theorem l_rb (hn : 1 ≤ n ∧ n ≤ 7) (H : RM n st E g) {c : Nat} (F : ex119 g h) (R : ∀ i, i < n → h 119 i = (dg n n c i : Int)) : ∀ q k : Nat, k ≤ n → n - k < q → L_X12_roundBy_8 N q (st 7 : Nat) (n : Int) (sm (ef E n c) k) (st (pv n c k) : Nat) (k : Int) h = some (lgr E n c, h)
  | 0, k, _, hq => absurd hq (by omega)
  | q + 1, k, hk, hq => by
    have hE := fun a b ha hb => (H.2.2 a b ha hb).2
    have b1 := sm_b2 (f := ef E n c) (fun i => ef_b hn.1 hE i) k
    have pk := pv_ok (c := c) hn.1 k
    unfold L_X12_roundBy_8
    by_cases e : k = n
    · subst e
      have h2 := H.2.2 (pv k c k) 7 pk (Or.inr rfl)
      rw [if_pos (by omega), s_far (H.2.1 _ pk) (H.2.1 7 (Or.inr rfl)), bd_s, F 91 _ (by omega), h2.1, w32_id ⟨by omega, by omega⟩]
      rfl
    · have hd : dg n n c k < n := dg_lt hn.1
      have h2 := H.2.2 (pv n c k) (dg n n c k) pk (Or.inl hd)
      have e118 : h 118 (dg n n c k) = (st (dg n n c k) : Int) := by rw [F 118 _ (by omega)]; exact H.1 _ hd
      have ee : sm (ef E n c) k + E (pv n c k) (dg n n c k) = sm (ef E n c) (k + 1) := rfl
      rw [if_neg (by omega), grd_t ⟨by omega, by omega⟩, Int.toNat_natCast, R k (by omega), grd_t ⟨by omega, by omega⟩, Int.toNat_natCast, e118, s_far (H.2.1 _ pk) (H.2.1 _ (Or.inl hd)), bd_s, F 91 _ (by omega), h2.1, w32_id ⟨by omega, by omega⟩, bnd_s, grd_t ⟨by omega, by omega⟩, R k (by omega), grd_t ⟨by omega, by omega⟩, Int.toNat_natCast, e118, bnd_s, bnd_s, inc (by omega), ee]
      exact l_rb hn H F R q (k + 1) (by omega) (by omega)
theorem pow7 (hn : 1 ≤ n ∧ n ≤ 7) : n ^ n ≤ 823543 := Nat.le_trans (Nat.pow_le_pow_left hn.2 n) (Nat.pow_le_pow_right (n := 7) (by decide) hn.2)
theorem l_rndm (hN : 1000000 ≤ N) (hn : 1 ≤ n ∧ n ≤ 7) (H : RM n st E g) (w : Int) (hw0 : w = 20 ∨ ∃ v : Nat, w = (v : Int) ∧ v < n) {b : Nat} (hb : Bst (fun c => dist n c n) (lgr E n) (n ^ n) b) :
    ∀ (d q c : Nat) (x4 x5 : Int) (h : Hp), c + d = n ^ n → d < q → ex119 g h → MB (fun c => dist n c n) (lgr E n) c x4 x5 → ∃ h', L_X12_round_116 N q (st 7 : Nat) w (n : Int) x4 x5 (c : Int) h = some (if w = 20 then lgr E n b else (st (dg n n b w.toNat) : Int), h') ∧ ex119 g h'
  | _, 0, _, _, _, _, _, hq, _, _ => absurd hq (by omega)
  | d, q + 1, c, x4, x5, h, hc, hq, F, B => by
    have p3 := pow7 hn
    have hE := fun a b ha hb => (H.2.2 a b ha hb).2
    have hbb : ∀ s, dist n s n → lgr E n s < 1000000 := fun s _ => (lgr_b hn hE s).2
    unfold L_X12_round_116
    rw [s_cf hN (by omega) hn.1 (by omega), bd_s]
    cases d with
    | zero =>
      obtain rfl : c = n ^ n := by omega
      rcases B with ⟨z, -⟩ | ⟨b', z1, z2, z3⟩
      · exact absurd hb.2.1 (z b hb.1)
      obtain rfl := Bst_u z1 hb
      rw [if_pos (by omega)]
      rcases hw0 with rfl | ⟨v, rfl, hv⟩
      · rw [if_pos rfl, if_pos rfl]
        exact ⟨h, by rw [z3], F⟩
      · obtain ⟨bb, h', a1, a2, a3, a4, a5⟩ := s_rr (N := N) (c := b') hN ⟨hn.1, by omega⟩ (by have := hb.1; omega) F
        have hd : dg n n b' v < n := dg_lt hn.1
        rw [if_neg (by omega), if_neg (by omega), z2, a1, bd_s, grd_t ⟨by omega, by omega⟩, Int.toNat_natCast, a5 hb.2.1 v hv, grd_t ⟨by omega, by omega⟩, Int.toNat_natCast, a4 118 _ (by omega), H.1 _ hd]
        exact ⟨h', rfl, a4⟩
    | succ d =>
      obtain ⟨bb, h', a1, a2, a3, a4, a5⟩ := s_rr (N := N) (c := c) hN ⟨hn.1, by omega⟩ (by omega) F
      unfold J_X12_round_167
      simp only [bnd_s]
      rw [if_neg (by omega), a1, bd_s, inc (by omega)]
      rcases a2 with rfl | rfl
      · rw [if_pos rfl]
        exact l_rndm hN hn H w hw0 hb d q (c + 1) _ _ h' (by omega) (by omega) a4 (MB_skip hbb B (fun v => absurd (a3.mpr v) (by decide)))
      · rw [if_neg (by decide)]
        have v := a3.mp rfl
        have em : F_X12_roundBy N (st 7 : Nat) (n : Int) h' = some (lgr E n c, h') := l_rb (N := N) hn H a4 (a5 v) N 0 (by omega) (by omega)
        simp only [em, bd_s]
        by_cases z : lgr E n c < x5
        · rw [if_pos z]
          exact l_rndm hN hn H w hw0 hb d q (c + 1) _ _ h' (by omega) (by omega) a4 (MB_take B v z)
        · rw [if_neg z]
          exact l_rndm hN hn H w hw0 hb d q (c + 1) _ _ h' (by omega) (by omega) a4 (MB_skip hbb B (fun _ => by omega))
theorem l_r73 {u o : Nat} (ho : o < 14) (h8 : n ≤ 8) (h118 : ∀ p, p < n → st p < 14 ∧ h 118 p = (st p : Int)) (w : Int) : ∀ q k : Nat, k ≤ n → n - k < q → ((∀ p, k ≤ p → p < n → h 91 (14 * o + st p) < 1000000) ∧ L_X12_round_73 N q (o : Int) w (n : Int) (k : Int) h = L_X12_round_116 N N (o : Int) w (n : Int) (-1) 1000000 0 h) ∨ ((∃ p, p < n ∧ ¬ h 91 (14 * o + st p) < 1000000) ∧ L_X12_round_73 N q (o : Int) w (n : Int) (k : Int) h = some (-2, h))
  | 0, k, _, hq => absurd hq (by omega)
  | q + 1, k, hk, hq => by
    unfold L_X12_round_73
    by_cases e : k = n
    · subst e
      rw [if_pos (by omega)]
      exact Or.inl ⟨fun p h1 h2 => absurd h1 (by omega), rfl⟩
    · obtain ⟨s1, s2⟩ := h118 k (by omega)
      rw [if_neg (by omega), grd_t ⟨by omega, by omega⟩, Int.toNat_natCast, s2, s_far ho s1, bd_s]
      by_cases z : h 91 (14 * o + st k) < 1000000
      · rw [if_pos z, bnd_s, inc (by omega)]
        rcases l_r73 (u := u) ho h8 h118 w q (k + 1) (by omega) (by omega) with ⟨a1, a2⟩ | a
        · refine Or.inl ⟨fun p h1 h2 => ?_, a2⟩
          by_cases y : p = k
          · subst y; exact z
          · exact a1 p (by omega) h2
        · exact Or.inr a
      · rw [if_neg z]
        exact Or.inr ⟨⟨k, by omega, z⟩, rfl⟩
end R3
theorem op_round {N : Nat} (hN : 1000000 ≤ N) : ∀ a1 : Int, inR a1 → ∀ a2 : Int, inR a2 → ∀ a3 : Int, inR a3 → Sm (Inv N) (F_X11_round N a1 a2 a3) (F_X12_round N a1 a2 a3) := by
  intro i _ x2 r2 w _ h hok hI
  obtain ⟨t, i1, i2, i3, i4, i5, i6, i7, i8, i9, i10⟩ := id hI
  have ht := i1.1
  unfold F_X11_round F_X12_round
  rw [s_isTold ht i1.2.1, bd_s]
  by_cases c1 : isT t i
  rotate_left
  · exact ⟨-1, h, h, by rw [if_neg c1, if_pos rfl], by rw [s_isStreet ht i1.2.2, bd_s, if_neg c1, if_pos rfl], hI⟩
  obtain ⟨o, rfl⟩ : ∃ o : Nat, i = (o : Int) := ⟨i.toNat, by omega⟩
  have ho : o < 14 := by omega
  have to : t.testBit o = true := (isT_n ho).mp c1
  rw [if_pos c1, if_neg (by decide)]
  by_cases cz : iand x2 (ixor (t : Int) (-1)) = 0
  rotate_left
  · refine ⟨-1, h, h, by rw [s_told_n cz i1.2.1, bd_s, if_pos rfl], ?_, hI⟩
    rw [s_isStreet ht i1.2.2, bd_s, if_pos c1, if_neg (by decide), i1.2.2, if_neg cz]
    split <;> rfl
  obtain ⟨u, rfl, hu, hs⟩ := (sub_iff r2 ht).mp cz
  have hcp := cn_pos hu
  rw [s_told_y hu ht hs i1.2.1, bd_s]
  by_cases cc : 1 ≤ (cn u : Int) ∧ (cn u : Int) ≤ 7
  rotate_left
  · refine ⟨-1, h, h, by rw [if_neg cc, if_pos rfl], ?_, hI⟩
    rw [s_isStreet ht i1.2.2, bd_s, if_pos c1, if_neg (by decide), i1.2.2]
    by_cases z : (u : Int) < 1
    · rw [if_pos z]
    · rw [if_neg z, if_pos cz, s_has (by omega) ⟨by omega, by omega⟩, bd_s, s_bits hN hu, bd_s, if_neg (show ¬ ((cn u : Nat) : Int) ≤ 7 by omega)]
      split <;> rfl
  have cu : ¬ (u : Int) < 1 := by omega
  rw [if_pos cc, if_neg (by decide), s_hasBit (by omega) ⟨by omega, by omega⟩, bd_s, Int.toNat_natCast]
  by_cases cb : u.testBit o = true
  · refine ⟨-1, h, h, by rw [if_neg (by rw [btN_1.mpr cb]; decide)], ?_, hI⟩
    rw [s_isStreet ht i1.2.2, bd_s, if_pos c1, if_neg (by decide), i1.2.2, if_neg cu, if_pos cz, s_has (by omega) ⟨by omega, by omega⟩, bd_s, Int.toNat_natCast, if_neg (by rw [btN_1.mpr cb]; decide)]
  rw [if_pos (btN_0 cb), s_bitCount hu, bd_s]
  obtain ⟨n, en⟩ : ∃ n, n = cn u := ⟨_, rfl⟩
  have hn : 1 ≤ n ∧ n ≤ 7 := ⟨by omega, by omega⟩
  rw [← en] at cc ⊢
  have w1 : w32 ((n : Int) - 1) = (n : Int) - 1 := w32_id ⟨by omega, by omega⟩
  rw [w1, s_isWithin, bd_s]
  clear w1
  have hn8 : cn u ≤ 8 := by omega
  by_cases cw : w = 20 ∨ (0 ≤ w ∧ w ≤ (n : Int) - 1)
  rotate_left
  · obtain ⟨ka, k1, k2, k3⟩ := s_who (N := N) hN hu hn8 h
    refine ⟨-1, h, ka, by rw [if_neg (fun z => cw (Or.inl z)), if_neg (fun z => cw (Or.inr z)), if_pos rfl], ?_, hI.ag (fun c j z => by unfold scr at z; exact k1 c j (by omega))⟩
    rw [s_isStreet ht i1.2.2, bd_s, if_pos c1, if_neg (by decide), i1.2.2, if_neg cu, if_pos cz, s_has (by omega) ⟨by omega, by omega⟩, bd_s, Int.toNat_natCast, if_pos (btN_0 cb), s_bits hN hu, bd_s, ← en, if_pos cc.2, k3, bd_s, if_neg (fun z => cw (Or.inl z)), s_in, bd_s, ← en, w32_id ⟨by omega, by omega⟩, if_neg (fun z => cw (Or.inr z)), if_pos rfl]
  -- the way over to the pure part
  have tell : ∀ (r : Int) (h1 h2 : Hp), (∀ c j, ¬ (65 ≤ c ∧ c ≤ 68) → h1 c j = h c j) → J_X11_round_56 N (o : Int) (u : Int) w h = some (r, h1) → (∀ ka, (∀ c j, ¬ c = 118 → ka c j = h1 c j) → (∀ p, p < n → ka 118 p = (sel u p : Int)) → ∃ kb, (∀ c j, ¬ (c = 118 ∨ c = 119) → kb c j = h1 c j) ∧ L_X12_round_73 N N (o : Int) w (n : Int) 0 ka = some (r, kb)) → ∃ (r : Int) (h1 h2 : Hp), (if w = 20 then J_X11_round_56 N (o : Int) (u : Int) w h else if (if 0 ≤ w ∧ w ≤ (n : Int) - 1 then (1 : Int) else 0) = 0 then some (-1, h) else J_X11_round_56 N (o : Int) (u : Int) w h) = some (r, h1) ∧ (bd (F_X12_isStreet N (o : Int) h1) fun y2 h1 => if y2 = 0 then some (-1, h1) else if (u : Int) < 1 then some (-1, h1) else if iand (u : Int) (ixor (h1 83 12) (-1)) = 0 then bd (F_X12_has N (u : Int) (o : Int) h1) fun y4 h3 => if y4 = 0 then bd (F_X12_bits N (u : Int) h3) fun y6 h5 => if y6 ≤ 7 then bd (F_X12_laysWho N (u : Int) h5) fun y8 h7 => if w = 20 then L_X12_round_73 N N (o : Int) w y8 0 h7 else bd (F_X12_in N w 0 (w32 (y8 - 1)) h7) fun y10 h9 => if y10 = 0 then some (-1, h9) else L_X12_round_73 N N (o : Int) w y8 0 h9 else some (-1, h5) else some (-1, h3) else some (-1, h1)) = some (r, h2) ∧ Inv N h2 := by
    intro r h1 h2 a1 a2 a3
    obtain ⟨ka, k1, k2, k3⟩ := s_who (N := N) hN hu hn8 h1
    obtain ⟨kb, b1, b2⟩ := a3 ka k1 (fun p hp => k2 p (by omega))
    have e12 : h1 83 12 = (t : Int) := by rw [a1 83 12 (by omega)]; exact i1.2.2
    refine ⟨r, h1, kb, ?_, ?_, hI.ag (fun c j z => by unfold scr at z; rw [b1 c j (by omega), a1 c j (by omega)])⟩
    · rw [a2]
      by_cases z : w = 20
      · rw [if_pos z]
      · rw [if_neg z, if_pos (cw.resolve_left z), if_neg (by decide)]
    · rw [s_isStreet ht e12, bd_s, if_pos c1, if_neg (by decide), e12, if_neg cu, if_pos cz, s_has (by omega) ⟨by omega, by omega⟩, bd_s, Int.toNat_natCast, if_pos (btN_0 cb), s_bits hN hu, bd_s, ← en, if_pos cc.2, k3, bd_s, ← en]
      by_cases z : w = 20
      · rw [if_pos z]; exact b2
      · rw [if_neg z, s_in, bd_s, w32_id ⟨by omega, by omega⟩, if_pos (cw.resolve_left z), if_neg (by decide)]; exact b2
  obtain ⟨ha, eha⟩ : ∃ ha, ha = hw (hw h 65 4 0) 66 7 (o : Int) := ⟨_, rfl⟩
  have fa : ∀ c j, ¬ c = 66 → ¬ (c = 65 ∧ j = 4) → ha c j = h c j := fun c j z1 z2 => by rw [eha, hw_ne (by omega), hw_ne (by omega)]
  obtain ⟨hb, b1, b2⟩ := l_f15 (N := N) (g := h) hN ho hu (by omega) N 0 ha (by omega) (by omega) fa (by rw [eha, hw_eq]) (by rw [eha, hw_ne (by omega), hw_eq]; rfl) (fun j hj => absurd hj (by omega)) (fun j hj => absurd hj (by omega))
  have eF : F_X8_find N (o : Int) (u : Int) h = L_X8_find_15 N N (o : Int) (u : Int) 0 ha := by
    unfold F_X8_find
    rw [bnd_s, bnd_s, eha]
    rfl
  have wy : ∀ j, j < 14 → u.testBit j = true → (h 91 (14 * o + j) < 1000000 ↔ 0 ≤ h 10 (14 * o + j)) := fun j hj bj => by
    rcases way_t i8 ho hj to (hs j bj) with z | z
    · rw [z.2.1]; omega
    · rw [z.2.1, z.1]; omega
  have selb : ∀ p, p < n → sel u p < 14 ∧ u.testBit (sel u p) = true := fun p hp => ⟨(sel_ok (by omega)).1, (sel_ok (by omega)).2.1⟩
  rcases b2 with ⟨⟨j, j1, j2, j3⟩, b2⟩ | ⟨al, b3, b4, b5, b2⟩
  · have b2 : L_X8_find_15 N N (o : Int) (u : Int) 0 ha = some (0, hb) := b2
    refine tell (-2) hb hb (fun c j z => b1 c j (by omega) (by omega)) (by unfold J_X11_round_56; rw [eF, b2, bd_s, if_pos rfl]) (fun ka k1 k2 => ⟨ka, fun c j z => k1 c j (by omega), ?_⟩)
    rcases l_r73 (N := N) (h := ka) (u := u) (n := n) (st := sel u) ho (by omega) (fun p hp => ⟨(selb p hp).1, k2 p hp⟩) w N 0 (by omega) (by omega) with ⟨z1, -⟩ | ⟨-, z⟩
    · exfalso
      obtain ⟨so1, so2⟩ := sel_of j1 j2
      have := z1 (cnt u j) (by omega) (by omega)
      rw [so1, k1 91 _ (by omega), b1 91 _ (by omega) (by omega)] at this
      have := (wy j j1 j2).mp this
      omega
    · exact z
  · have b2 : L_X8_find_15 N N (o : Int) (u : Int) 0 ha = L_X8_find_80 N N 0 hb := b2
    obtain ⟨st, est⟩ : ∃ st : Nat → Nat, st = fun p => if p = 7 then o else sel u p := ⟨_, rfl⟩
    have st7 : st 7 = o := by rw [est]; rfl
    have stp : ∀ p, p < n → st p = sel u p := fun p hp => by rw [est]; simp only; rw [if_neg (by omega)]
    have st14 : ∀ p, rok n p → st p < 14 ∧ t.testBit (st p) = true ∧ 0 ≤ h 10 (14 * o + st p) := fun p hp => by
      rcases hp with z | z
      · rw [stp p z]
        exact ⟨(selb p z).1, hs _ (selb p z).2, al _ (selb p z).1 (selb p z).2⟩
      · rw [z, st7]
        refine ⟨ho, to, ?_⟩
        rcases way_t i8 ho ho to to with y | y
        · rw [y.2.1]; exact y.2.2.1
        · exact absurd rfl y.2.2
    obtain ⟨E, eE⟩ : ∃ E : Nat → Nat → Int, E = fun a b => h 10 (14 * st a + st b) := ⟨_, rfl⟩
    have hE : ∀ a b, rok n a → rok n b → h 10 (14 * st a + st b) = E a b ∧ h 91 (14 * st a + st b) = E a b ∧ 0 ≤ E a b ∧ E a b ≤ 1386 := fun a b ha hb => by
      obtain ⟨a1, a2, a3⟩ := st14 a ha
      obtain ⟨b1, b2, b3⟩ := st14 b hb
      have w3 := way_3 i8 ho a1 b1 a3 b3
      have ee : E a b = h 10 (14 * st a + st b) := by rw [eE]
      rcases way_t i8 a1 b1 a2 b2 with z | z
      · rw [ee, z.2.1]
        exact ⟨rfl, rfl, z.2.2.1, z.2.2.2.1⟩
      · omega
    have G : RG n st E hb := ⟨by rw [b4, en], fun p hp => ⟨(st14 p hp).1, by
      rcases hp with z | z
      · rw [stp p z]; exact b5 p (by omega)
      · rw [z, st7]; exact b3⟩, fun a b ha hb => by rw [b1 10 _ (by omega) (by omega)]; exact ⟨(hE a b ha hb).1, (hE a b ha hb).2.2⟩⟩
    have p7 : 2 ^ n ≤ 2 ^ 7 := Nat.pow_le_pow_right (by decide) hn.2
    obtain ⟨hc, c2, c3, c4⟩ := l_f80 (N := N) hN hn G (2 ^ n) N 0 hb (by omega) (by omega) (fun _ _ _ => rfl) (fun s' l' h1 => absurd h1 (by omega))
    have c4 : L_X8_find_80 N N 0 hb = bv (F_X8_writeRow N hc) fun h4 => some (1, h4) := c4
    have Gc : RG n st E hc := G.ag (fun c j z => c2 c j (by omega))
    obtain ⟨hd, b, d1, d2, d3, d4, d5⟩ := s_wr (N := N) hN hn Gc c3
    have tok := TA_ok c3
    have bd0 := gr_dist d5
    have best : Bst (fun c => dist n c n) (lgr E n) (n ^ n) b := ⟨d3, bd0, fun s h1 h2 => gr_best hn tok d5 h2 n (Nat.le_refl _) (by rw [Nat.div_eq_of_lt h1, Nat.div_eq_of_lt d3])⟩
    have ge := gr_eq hn tok d5 n (Nat.le_refl _)
    rw [Nat.sub_self] at ge
    have ge : tb hc (2 ^ n - 1) 7 + 0 = lgr E n b := ge
    have hw4 : w = 20 ∨ ∃ v : Nat, w = (v : Int) ∧ v < n := by
      rcases cw with z | z
      · exact Or.inl z
      · exact Or.inr ⟨w.toNat, by omega, by omega⟩
    have eX : F_X8_find N (o : Int) (u : Int) h = some (1, hd) := by rw [eF, b2, c4, d1, bv_s]
    have fd : ∀ c j, ¬ (65 ≤ c ∧ c ≤ 68) → hd c j = h c j := fun c j z => by rw [d2 c j (by omega), c2 c j (by omega), b1 c j (by omega) (by omega)]
    refine tell (if w = 20 then lgr E n b else (st (dg n n b w.toNat) : Int)) hd hd fd ?_ (fun ka k1 k2 => ?_)
    · unfold J_X11_round_56
      rw [eX, bd_s, if_neg (by decide)]
      have e4 : hd 65 4 = (n : Int) := by rw [d2 65 4 (by omega)]; exact Gc.1
      rcases hw4 with rfl | ⟨v, rfl, hv⟩
      · unfold F_X8_minutes
        obtain ⟨f, ef⟩ : ∃ f, f = 2 ^ n - 1 := ⟨_, rfl⟩
        rw [← ef] at ge
        have ge2 : hc 67 (8 * f + 7) + 0 = lgr E n b := ge
        rw [if_pos rfl, if_pos rfl, e4, pow_m1 n hn.2, ← ef, w32_id (x := (f : Int) * 8) ⟨by omega, by omega⟩, w32_id (x := (f : Int) * 8 + 7) ⟨by omega, by omega⟩, grd_t ⟨by omega, by omega⟩, show ((f : Int) * 8 + 7).toNat = 8 * f + 7 by omega, bd_s, d2 67 _ (by omega), ← ge2, Int.add_zero]
      · unfold F_X8_streetAt
        have hdg : dg n n b v < n := dg_lt hn.1
        rw [if_neg (by omega), if_neg (by omega), e4, s_isWithin, bd_s, w32_id ⟨by omega, by omega⟩, if_pos (show 0 ≤ (v : Int) ∧ (v : Int) ≤ (n : Int) - 1 from ⟨by omega, by omega⟩), if_neg (by decide), grd_t ⟨by omega, by omega⟩, Int.toNat_natCast, d4 v hv, grd_t ⟨by omega, by omega⟩, Int.toNat_natCast, bd_s, d2 66 _ (by omega), (Gc.2.1 _ (Or.inl hdg)).2]
    · have M : RM n st E ka := ⟨fun p hp => by rw [stp p hp]; exact k2 p hp, fun p hp => (st14 p hp).1, fun a b ha hb => by
        rw [k1 91 _ (by omega), fd 91 _ (by omega)]
        exact (hE a b ha hb).2⟩
      obtain ⟨kb, m1, m2⟩ := l_rndm (N := N) hN hn M w hw4 best (n ^ n) N 0 (-1) 1000000 ka (by omega) (by have := pow7 hn; omega) (fun _ _ _ => rfl) (Or.inl ⟨fun s hs => absurd hs (by omega), rfl⟩)
      rw [st7] at m1
      refine ⟨kb, fun c j z => by rw [m2 c j (by omega), k1 c j (by omega)], ?_⟩
      rcases l_r73 (N := N) (h := ka) (u := u) (n := n) (st := sel u) ho (by omega) (fun p hp => ⟨(selb p hp).1, k2 p hp⟩) w N 0 (by omega) (by omega) with ⟨-, z⟩ | ⟨⟨p, z1, z2⟩, -⟩
      · exact z.trans m1
      · exfalso
        rw [k1 91 _ (by omega), fd 91 _ (by omega)] at z2
        exact z2 ((wy _ (selb p z1).1 (selb p z1).2).mpr (al _ (selb p z1).1 (selb p z1).2))
