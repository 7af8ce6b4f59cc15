/-! ROWS WITHOUT A TWICE; BRIDES -/
/-- the first j of a code's row are apart -/
def dist (n c j : Nat) : Prop := ∀ a b, a < b → b < j → dg n n c a ≠ dg n n c b
def tk (n c : Nat) : Nat → Nat
  | 0 => 0
  | j + 1 => tk n c j ||| 2 ^ dg n n c j
section PR
variable {N n : Nat} {g h : Hp}
theorem tk_t (c x : Nat) : ∀ j, (tk n c j).testBit x = true ↔ ∃ i, i < j ∧ dg n n c i = x
  | 0 => by simp [tk]
  | j + 1 => by
    have ih := tk_t c x j
    unfold tk
    rw [Nat.testBit_or, Bool.or_eq_true, ih, Nat.testBit_two_pow, decide_eq_true_iff]
    constructor
    · rintro (⟨i, h1, h2⟩ | h1)
      · exact ⟨i, by omega, h2⟩
      · exact ⟨j, by omega, h1⟩
    · rintro ⟨i, h1, h2⟩
      by_cases z : i = j
      · subst z; exact Or.inr h2
      · exact Or.inl ⟨i, by omega, h2⟩
theorem tk_lt (hn : 1 ≤ n) (c : Nat) : ∀ j, tk n c j < 2 ^ n
  | 0 => Nat.pow_pos (by decide)
  | j + 1 => by
    have := tk_lt hn c j
    have h2 : 2 ^ dg n n c j < 2 ^ n := Nat.pow_lt_pow_right (by decide) (dg_lt hn)
    unfold tk
    exact Nat.or_lt_two_pow this h2
theorem tk_c {c c' : Nat} : ∀ {j : Nat}, (∀ i, i < j → dg n n c i = dg n n c' i) → tk n c j = tk n c' j
  | 0, _ => rfl
  | j + 1, e => by
    unfold tk
    rw [tk_c (j := j) (fun i hi => e i (by omega)), e j (by omega)]
theorem dist_c {c c' j : Nat} (e : ∀ i, i < j → dg n n c i = dg n n c' i) (h : dist n c j) : dist n c' j := fun a b h1 h2 => by
  rw [← e a (by omega), ← e b h2]
  exact h a b h1 h2
theorem btN_0 {u k : Nat} (q : ¬ u.testBit k = true) : btN u k = 0 := by unfold btN; rw [if_neg q]
def ex119 (g h : Hp) : Prop := ∀ c j, ¬ c = 119 → h c j = g c j
theorem l_rr (hn : 1 ≤ n ∧ n ≤ 8) {c : Nat} (hc : c < 100000000) :
    ∀ (r q s : Nat) (h : Hp), r ≤ n → r < q → ex119 g h → s < 2 ^ n → (∀ x, s.testBit x = true ↔ ∃ i, r ≤ i ∧ i < n ∧ dg n n c i = x) → (∀ a b, r ≤ a → a < b → b < n → dg n n c a ≠ dg n n c b) → (∀ i, r ≤ i → i < n → h 119 i = (dg n n c i : Int)) → ∃ b h', L_X12_readsRow_10 N q (n : Int) ((c / n ^ (n - r) : Nat) : Int) (s : Int) ((r : Int) - 1) h = some (b, h') ∧ (b = 0 ∨ b = 1) ∧ (b = 1 ↔ dist n c n) ∧ ex119 g h' ∧ (dist n c n → ∀ i, i < n → h' 119 i = (dg n n c i : Int))
  | _, 0, _, _, _, hq, _, _, _, _, _ => absurd hq (by omega)
  | 0, q + 1, s, h, _, _, F, _, _, D, R => by
    unfold L_X12_readsRow_10
    rw [if_pos (by omega)]
    exact ⟨1, h, rfl, Or.inr rfl, ⟨fun _ a b h1 h2 => D a b (by omega) h1 h2, fun _ => rfl⟩, F, fun _ i hi => R i (by omega) hi⟩
  | r + 1, q + 1, s, h, hr, hq, F, hs, T, D, R => by
    have hdv : c / n ^ (n - (r + 1)) ≤ c := Nat.div_le_self _ _
    obtain ⟨l, el⟩ : ∃ l, l = c / n ^ (n - (r + 1)) := ⟨_, rfl⟩
    have ed : l % n = dg n n c r := by rw [el]; unfold dg; rw [show n - (r + 1) = n - 1 - r by omega]
    have e2 : l / n = c / n ^ (n - r) := by rw [el, Nat.div_div_eq_div_mul, ← Nat.pow_succ, show (n - (r + 1)).succ = n - r by omega]
    have hd : dg n n c r < n := dg_lt hn.1
    have er : irem (l : Int) (n : Int) = (dg n n c r : Int) := by rw [irem_pos ⟨by omega, by omega⟩ ⟨by omega, by omega⟩, ← ed]; rfl
    have ei : idiv (l : Int) (n : Int) = ((c / n ^ (n - r) : Nat) : Int) := by rw [idiv_pos ⟨by omega, by omega⟩ ⟨by omega, by omega⟩, ← e2]; rfl
    have g8 : 0 ≤ (r : Int) ∧ (r : Int) < 8 := ⟨by omega, by omega⟩
    have gm : (n : Int) ≠ 0 := by omega
    have p8 : 2 ^ n ≤ 2 ^ 8 := Nat.pow_le_pow_right (by decide) hn.2
    obtain ⟨d, edd⟩ : ∃ d, d = dg n n c r := ⟨_, rfl⟩
    have R1 : ∀ i, r ≤ i → i < n → hw h 119 r (d : Int) 119 i = (dg n n c i : Int) := fun i h1 h2 => by
      by_cases z : i = r
      · subst z; rw [hw_eq, edd]
      · rw [hw_ne (by omega)]; exact R i (by omega) h2
    have F1 : ex119 g (hw h 119 r (d : Int)) := fun c i z => by rw [hw_ne (by omega)]; exact F c i z
    unfold L_X12_readsRow_10
    rw [show ((r + 1 : Nat) : Int) - 1 = (r : Int) by omega, if_neg (by omega), ← el]
    simp only [grd_t g8, grd_t gm, bnd_s, Int.toNat_natCast, er, ei, hw_eq]
    rw [← edd] at hd ⊢
    rw [s_has (by omega) ⟨by omega, by omega⟩, bd_s, Int.toNat_natCast]
    by_cases z : s.testBit d = true
    · rw [if_neg (by rw [btN_1.mpr z]; decide)]
      obtain ⟨i, a1, a2, a3⟩ := (T d).mp z
      have nd : ¬ dist n c n := fun y => y r i (by omega) a2 (by rw [a3, edd])
      exact ⟨0, _, rfl, Or.inl rfl, ⟨fun y => absurd y (by decide), fun y => absurd y nd⟩, F1, fun y => absurd y nd⟩
    · rw [if_pos (btN_0 z), hw_eq, ishl_1 (by omega), ior_nat (by omega) (by have := pow_lt2 hd; omega), w32_id ⟨by omega, by omega⟩, show (r : Int) + -1 = (r : Int) - 1 by omega]
      refine l_rr hn hc r q (s ||| 2 ^ d) _ (by omega) (by omega) F1 (Nat.or_lt_two_pow hs (pow_lt2 hd)) (fun x => ?_) (fun a b h1 h2 h3 => ?_) R1
      · rw [Nat.testBit_or, Bool.or_eq_true, T x, Nat.testBit_two_pow, decide_eq_true_iff]
        constructor
        · rintro (⟨i, b1, b2, b3⟩ | b1)
          · exact ⟨i, by omega, b2, b3⟩
          · exact ⟨r, Nat.le_refl _, by omega, by rw [← edd]; exact b1⟩
        · rintro ⟨i, b1, b2, b3⟩
          by_cases y : i = r
          · subst y; exact Or.inr (by rw [edd]; exact b3)
          · exact Or.inl ⟨i, by omega, b2, b3⟩
      · by_cases y : a = r
        · subst y
          intro w
          exact z ((T d).mpr ⟨b, by omega, h3, by rw [edd]; exact w.symm⟩)
        · exact D a b (by omega) h2 h3
theorem s_rr (hN : 1000000 ≤ N) (hn : 1 ≤ n ∧ n ≤ 8) {c : Nat} (hc : c < 100000000) (F : ex119 g h) : ∃ b h', F_X12_readsRow N (c : Int) (n : Int) h = some (b, h') ∧ (b = 0 ∨ b = 1) ∧ (b = 1 ↔ dist n c n) ∧ ex119 g h' ∧ (dist n c n → ∀ i, i < n → h' 119 i = (dg n n c i : Int)) := by
  have := l_rr (N := N) (g := g) hn hc n N 0 h (Nat.le_refl _) (by omega) F (Nat.pow_pos (by decide)) (fun x => by
    constructor
    · intro z; simp at z
    · rintro ⟨i, b1, b2, b3⟩; omega) (fun a b h1 h2 h3 => by omega) (fun i h1 h2 => by omega)
  rw [Nat.sub_self, Nat.pow_zero, Nat.div_one] at this
  unfold F_X12_readsRow
  rw [w32_id ⟨by omega, by omega⟩, bnd_s]
  exact this
/-- some row has no twice -/
theorem dist_ex (hn : 1 ≤ n) : ∃ c, c < n ^ n ∧ dist n c n ∧ ∀ i, i < n → dg n n c i = i := by
  have : ∀ j, j ≤ n → ∃ p, p < n ^ j ∧ ∀ i, i < j → dg n n (p * n ^ (n - j)) i = i := by
    intro j
    induction j with
    | zero => intro _; exact ⟨0, by simp, fun i hi => absurd hi (by omega)⟩
    | succ j ih =>
      intro hj
      obtain ⟨p, h1, h2⟩ := ih (by omega)
      refine ⟨p * n + j, ?_, fun i hi => ?_⟩
      · rw [Nat.pow_succ]
        have : (p + 1) * n ≤ n ^ j * n := Nat.mul_le_mul_right _ h1
        rw [Nat.add_mul, Nat.one_mul] at this
        omega
      · by_cases z : i = j
        · subst z; exact dg_at hn (by omega) (by omega)
        · have e : n - j = (n - (j + 1)) + 1 := by omega
          rw [dg_ch hn (by omega) (by omega), ← e]
          exact h2 i (by omega)
  obtain ⟨p, h1, h2⟩ := this n (Nat.le_refl _)
  rw [Nat.sub_self, Nat.pow_zero, Nat.mul_one] at h2
  exact ⟨p, h1, fun a b x y => by rw [h2 a (by omega), h2 b y]; omega, h2⟩
end PR
def cb (wi st : Nat → Int) (n c i : Nat) : Int := imax 0 (wi i - st (dg n n c i))
def lgb (wi st : Nat → Int) (n c : Nat) : Int := sm (cb wi st n c) n
def BX (g h : Hp) : Prop := ∀ c j, ¬ ((c = 78 ∧ j = 5) ∨ c = 81 ∨ c = 82) → h c j = g c j
theorem w32_nn {a b : Nat} (h : a + b < 2147483648) : w32 ((a : Int) + (b : Int)) = ((a + b : Nat) : Int) := by rw [w32_id ⟨by omega, by omega⟩]; omega
section BR
variable {N n L t : Nat} {wi st : Nat → Int} {g h : Hp}
theorem cb_b (hw' : ∀ k, 0 ≤ wi k ∧ wi k ≤ 255) (hs : ∀ k, 0 ≤ st k ∧ st k ≤ 99) {c : Nat} (i : Nat) : 0 ≤ cb wi st n c i ∧ cb wi st n c i ≤ 255 := by
  have := hw' i
  have := hs (dg n n c i)
  unfold cb imax
  split <;> omega
theorem cbs_b (hw' : ∀ k, 0 ≤ wi k ∧ wi k ≤ 255) (hs : ∀ k, 0 ≤ st k ∧ st k ≤ 99) {c : Nat} (j : Nat) : 0 ≤ sm (cb wi st n c) j ∧ sm (cb wi st n c) j ≤ 100000 * j := sm_b (M := j) (fun i _ => by have := cb_b (n := n) hw' hs (c := c) i; omega) j (Nat.le_refl _)
theorem b_match (hN : 1000000 ≤ N) (hw' : ∀ k, 0 ≤ wi k ∧ wi k ≤ 255) (hs : ∀ k, 0 ≤ st k ∧ st k ≤ 99) (hn : 1 ≤ n ∧ n ≤ 6) (h4 : g 78 4 = (n : Int)) (h79 : ∀ k, k < n → g 79 k = wi k) (h80 : ∀ k, k < n → g 80 k = st k) :
    ∀ (r D p : Nat) (h : Hp), r < D → r ≤ n → BX g h → dist n (p * n ^ r) (n - r) → (∀ i, i < n - r → h 81 i = (dg n n (p * n ^ r) i : Int)) → XB (fun c => dist n c n) (lgb wi st n) n n (p * n ^ r) (h 78 5) (h 82) → ∃ h', F_X4_match N D ((n - r : Nat) : Int) (tk n (p * n ^ r) (n - r) : Nat) (sm (cb wi st n (p * n ^ r)) (n - r)) h = some h' ∧ BX g h' ∧ (∀ i, i < n - r → h' 81 i = (dg n n (p * n ^ r) i : Int)) ∧ XB (fun c => dist n c n) (lgb wi st n) n n ((p + 1) * n ^ r) (h' 78 5) (h' 82)
  | _, 0, _, _, hD, _, _, _, _, _ => absurd hD (by omega)
  | r, D + 1, p, h, hD, hr, F, Di, R, B => by
    have hb : ∀ s, dist n s n → lgb wi st n s < 1000000 := fun s _ => by have := cbs_b (n := n) hw' hs (c := s) n; unfold lgb; omega
    have le1 : p * n ^ r ≤ (p + 1) * n ^ r := Nat.mul_le_mul_right _ (by omega)
    unfold F_X4_match O_X4_match
    by_cases z : sm (cb wi st n (p * n ^ r)) (n - r) < h 78 5
    rotate_left
    · rw [if_neg z]
      refine ⟨h, rfl, F, R, XB_skip hb B le1 (fun s a1 a2 a3 => ?_)⟩
      have e1 : sm (cb wi st n s) (n - r) = sm (cb wi st n (p * n ^ r)) (n - r) := sm_c (fun i hi => by unfold cb; rw [dg_sub hn.1 a1 a2 (by omega)])
      have e2 : sm (cb wi st n s) (n - r) ≤ lgb wi st n s := by
        have := sm_mono (f := cb wi st n s) (fun i => (cb_b hw' hs i).1) (n - r) r
        rw [show n - r + r = n by omega] at this
        exact this
      omega
    rw [if_pos z, F 78 4 (by omega), h4]
    cases r with
    | zero =>
      have e1 : p * n ^ 0 = p := by simp
      have e2 : (p + 1) * n ^ 0 = p + 1 := by simp
      rw [e1, Nat.sub_zero] at R Di z
      rw [e1] at B
      rw [e1, e2, Nat.sub_zero, if_neg (by omega), bnd_s, bnd_s]
      refine ⟨_, rfl, fun c j q => ?_, fun i hi => ?_, ?_⟩
      · show hcp _ 81 0 82 0 6 c j = _
        unfold hcp; rw [if_neg (by omega), hw_ne (by omega)]; exact F c j q
      · show hcp _ 81 0 82 0 6 81 i = _
        unfold hcp; rw [if_neg (by omega), hw_ne (by omega)]; exact R i hi
      · have e6 : hcp (hw h 78 5 (sm (cb wi st n p) n)) 81 (0 : Int).toNat 82 (0 : Int).toNat (6 : Int).toNat 78 5 = lgb wi st n p := by
          show hcp _ 81 0 82 0 6 78 5 = _
          unfold hcp; rw [if_neg (by omega), hw_eq]; rfl
        rw [e6]
        refine XB_take B Di z (fun k hk => ?_)
        show hcp _ 81 0 82 0 6 82 k = _
        unfold hcp
        rw [if_pos ⟨rfl, by omega, by omega⟩, hw_ne (by omega), Nat.sub_zero, Nat.zero_add]
        exact R k hk
    | succ r =>
      obtain ⟨j, ej⟩ : ∃ j, j = n - (r + 1) := ⟨_, rfl⟩
      rw [← ej] at R Di z ⊢
      have eP : p * n ^ (r + 1) = (p * n + 0) * n ^ r := by
        show p * n ^ (r + 1) = p * n * n ^ r
        rw [Nat.pow_succ, Nat.mul_assoc, Nat.mul_comm n]
      have eQ : (p + 1) * n ^ (r + 1) = (p * n + n) * n ^ r := by rw [Nat.pow_succ, Nat.mul_comm (n ^ r), ← Nat.mul_assoc, Nat.add_mul, Nat.one_mul]
      have p6 : 2 ^ n ≤ 2 ^ 6 := Nat.pow_le_pow_right (by decide) hn.2
      have tl := tk_lt hn.1 (p * n ^ (r + 1)) j
      have loop : ∀ (d q k : Nat) (h : Hp), k + d = n → d < q → BX g h → (∀ i, i < j → h 81 i = (dg n n (p * n ^ (r + 1)) i : Int)) → XB (fun c => dist n c n) (lgb wi st n) n n ((p * n + k) * n ^ r) (h 78 5) (h 82) → ∃ h', L_X4_match_41 N (F_X4_match N D) q (j : Int) (tk n (p * n ^ (r + 1)) j : Nat) (sm (cb wi st n (p * n ^ (r + 1))) j) (k : Int) h = some h' ∧ BX g h' ∧ (∀ i, i < j → h' 81 i = (dg n n (p * n ^ (r + 1)) i : Int)) ∧ XB (fun c => dist n c n) (lgb wi st n) n n ((p * n + n) * n ^ r) (h' 78 5) (h' 82) := by
        intro d
        induction d with
        | zero =>
          intro q k h hk hq F R B
          obtain ⟨q, rfl⟩ : ∃ q', q = q' + 1 := ⟨q - 1, by omega⟩
          obtain rfl : k = n := by omega
          unfold L_X4_match_41
          rw [F 78 4 (by omega), h4, if_pos (by omega)]
          exact ⟨h, rfl, F, R, B⟩
        | succ d ih =>
          intro q k h hk hq F R B
          obtain ⟨q, rfl⟩ : ∃ q', q = q' + 1 := ⟨q - 1, by omega⟩
          have hk2 : k < n := by omega
          have le2 : (p * n + k) * n ^ r ≤ (p * n + k + 1) * n ^ r := Nat.mul_le_mul_right _ (by omega)
          have dgj : ∀ i, i < j → dg n n ((p * n + k) * n ^ r) i = dg n n (p * n ^ (r + 1)) i := fun i hi => dg_ch hn.1 hk2 (by omega)
          have dgk : dg n n ((p * n + k) * n ^ r) j = k := dg_at hn.1 hk2 (by omega)
          unfold L_X4_match_41 J_X4_match_68
          simp only [bnd_s]
          rw [F 78 4 (by omega), h4, if_neg (by omega), s_hasBit (by omega) ⟨by omega, by omega⟩, bd_s, Int.toNat_natCast, inc (by omega)]
          by_cases tb : (tk n (p * n ^ (r + 1)) j).testBit k = true
          · rw [if_neg (by rw [btN_1.mpr tb]; decide)]
            refine ih q (k + 1) h (by omega) (by omega) F R (XB_skip hb B le2 (fun s a1 a2 a3 => ?_))
            obtain ⟨i, b1, b2⟩ := (tk_t _ _ _).mp tb
            have c1 : dg n n s j = k := by rw [dg_sub hn.1 a1 a2 (by omega), dgk]
            have c2 : dg n n s i = k := by rw [dg_sub hn.1 a1 a2 (by omega), dgj i b1, b2]
            exact absurd (c2.trans c1.symm) (a3 i j b1 (by omega))
          · obtain ⟨h1, eh1⟩ : ∃ h1, h1 = hw h 81 j (k : Int) := ⟨_, rfl⟩
            have F1 : BX g h1 := fun c i z => by rw [eh1, hw_ne (by omega)]; exact F c i z
            have sb := cbs_b (n := n) hw' hs (c := p * n ^ (r + 1)) j
            have wj := hw' j
            have sk := hs k
            have etk : ior (tk n (p * n ^ (r + 1)) j : Nat) (ishl 1 (k : Int)) = ((tk n ((p * n + k) * n ^ r) (n - r) : Nat) : Int) := by
              have := pow_lt2 hk2
              rw [ishl_1 (by omega), ior_nat (by omega) (by omega), show n - r = j + 1 by omega]
              have : tk n ((p * n + k) * n ^ r) (j + 1) = tk n ((p * n + k) * n ^ r) j ||| 2 ^ dg n n ((p * n + k) * n ^ r) j := rfl
              rw [this, dgk, tk_c dgj]
            have esm : w32 (sm (cb wi st n (p * n ^ (r + 1))) j + imax 0 (w32 (h1 79 j - h1 80 k))) = sm (cb wi st n ((p * n + k) * n ^ r)) (n - r) := by
              rw [F1 79 j (by omega), h79 j (by omega), F1 80 k (by omega), h80 k hk2, w32_id (x := wi j - st k) ⟨by omega, by omega⟩, show n - r = j + 1 by omega]
              have e1 : sm (cb wi st n ((p * n + k) * n ^ r)) (j + 1) = sm (cb wi st n ((p * n + k) * n ^ r)) j + imax 0 (wi j - st (dg n n ((p * n + k) * n ^ r) j)) := rfl
              have e2 : sm (cb wi st n ((p * n + k) * n ^ r)) j = sm (cb wi st n (p * n ^ (r + 1))) j := sm_c (fun i hi => by unfold cb; rw [dgj i hi])
              have e3 : 0 ≤ imax 0 (wi j - st k) ∧ imax 0 (wi j - st k) ≤ 255 := by unfold imax; split <;> omega
              rw [e1, e2, dgk, w32_id ⟨by omega, by omega⟩]
            have w3 : w32 ((j : Int) + 1) = ((n - r : Nat) : Int) := by rw [inc (by omega)]; omega
            have D1 : dist n ((p * n + k) * n ^ r) (n - r) := fun a b x y => by
              by_cases zb : b = j
              · subst zb
                rw [dgk, dgj a x]
                exact fun w => tb ((tk_t _ _ _).mpr ⟨a, x, w⟩)
              · rw [dgj a (by omega), dgj b (by omega)]
                exact Di a b x (by omega)
            obtain ⟨h', c1, c2, c3, c4⟩ := b_match hN hw' hs hn h4 h79 h80 r D (p * n + k) h1 (by omega) (by omega) F1 D1 (fun i hi => by
              by_cases zb : i = j
              · subst zb; rw [eh1, hw_eq, dgk]
              · rw [eh1, hw_ne (by omega), R i (by omega), dgj i (by omega)]) (by rw [eh1, hw_ne (by omega), hw_c (by omega)]; exact B)
            rw [if_pos (btN_0 tb)]
            unfold F_X4_matchWith
            rw [grd_t ⟨by omega, by omega⟩, bnd_s, grd_t ⟨by omega, by omega⟩, grd_t ⟨by omega, by omega⟩, Int.toNat_natCast, Int.toNat_natCast, ← eh1, w3, etk, esm, c1, bv_s, bv_s]
            exact ih q (k + 1) h' (by omega) (by omega) c2 (fun i hi => by rw [c3 i (by omega), dgj i hi]) c4
      rw [if_pos (by omega), eQ]
      exact loop n N 0 h (by omega) (by omega) F R (by rw [← eP]; exact B)
/-- the reference's sum for a row -/
theorem l_mb (hw' : ∀ k, 0 ≤ wi k ∧ wi k ≤ 255) (hs : ∀ k, 0 ≤ st k ∧ st k ≤ 99) (hn : 1 ≤ n ∧ n ≤ 6) {c : Nat} (h96 : ∀ k, k < n → iand (h 96 k) 255 = wi k) (hst : ∀ p, p < n → ∃ s : Nat, s < 14 ∧ h 96 (n + p) = (s : Int) ∧ h 89 s = st p) (R : ∀ i, i < n → h 119 i = (dg n n c i : Int)) :
    ∀ q k : Nat, k ≤ n → n - k < q → L_X12_missingBy_4 N q (n : Int) (sm (cb wi st n c) k) (k : Int) h = some (lgb wi st n c, h)
  | 0, k, _, hq => absurd hq (by omega)
  | q + 1, k, hk, hq => by
    unfold L_X12_missingBy_4
    by_cases e : k = n
    · subst e; rw [if_pos (by omega)]; rfl
    · have hd : dg n n c k < n := dg_lt hn.1
      obtain ⟨s, s14, e1, e2⟩ := hst _ hd
      have w := hw' k
      have sb := hs (dg n n c k)
      have b1 := cb_b (n := n) hw' hs (c := c) k
      have b2 := cbs_b (n := n) hw' hs (c := c) k
      rw [if_neg (by omega), grd_t ⟨by omega, by omega⟩, grd_t ⟨by omega, by omega⟩, Int.toNat_natCast, R k (by omega), w32_nn (by omega), grd_t ⟨by omega, by omega⟩, Int.toNat_natCast, e1, grd_t ⟨by omega, by omega⟩, Int.toNat_natCast, e2, h96 k (by omega), w32_id (x := wi k - _) ⟨by omega, by omega⟩, s_max, bd_s, show imax 0 (wi k - st (dg n n c k)) = cb wi st n c k from rfl, w32_id ⟨by omega, by omega⟩, bnd_s, bnd_s, inc (by omega)]
      exact l_mb hw' hs hn h96 hst R q (k + 1) (by omega) (by omega)
theorem pow6 (hn : 1 ≤ n ∧ n ≤ 6) : n ^ n ≤ 46656 := Nat.le_trans (Nat.pow_le_pow_left hn.2 n) (Nat.pow_le_pow_right (n := 6) (by decide) hn.2)
theorem l_bm (hN : 1000000 ≤ N) (hw' : ∀ k, 0 ≤ wi k ∧ wi k ≤ 255) (hs : ∀ k, 0 ≤ st k ∧ st k ≤ 99) (hn : 1 ≤ n ∧ n ≤ 6) (h96 : ∀ k, k < n → iand (g 96 k) 255 = wi k) (hst : ∀ p, p < n → ∃ s : Nat, s < 14 ∧ g 96 (n + p) = (s : Int) ∧ g 89 s = st p) (w : Int) (hw0 : w = 10 ∨ ∃ v : Nat, w = (v : Int) ∧ v < n) {b : Nat} (hb : Bst (fun c => dist n c n) (lgb wi st n) (n ^ n) b) :
    ∀ (d q c : Nat) (x4 x5 : Int) (h : Hp), c + d = n ^ n → d < q → ex119 g h → MB (fun c => dist n c n) (lgb wi st n) c x4 x5 → ∃ h', L_X12_brides_123 N q (n : Int) w x4 x5 (c : Int) h = some (if w = 10 then lgb wi st n b else g 96 (n + dg n n b w.toNat), h') ∧ ex119 g h'
  | _, 0, _, _, _, _, _, hq, _, _ => absurd hq (by omega)
  | d, q + 1, c, x4, x5, h, hc, hq, F, B => by
    have p3 := pow6 hn
    have hbb : ∀ s, dist n s n → lgb wi st n s < 1000000 := fun s _ => by have := cbs_b (n := n) hw' hs (c := s) n; unfold lgb; omega
    unfold L_X12_brides_123
    rw [s_cf hN (by omega) hn.1 (by omega), bd_s]
    cases d with
    | zero =>
      obtain rfl : c = n ^ n := by omega
      rcases B with ⟨z, -⟩ | ⟨b', z1, z2, z3⟩
      · exact absurd hb.2.1 (z b hb.1)
      obtain rfl := Bst_u z1 hb
      rw [if_pos (by omega)]
      rcases hw0 with rfl | ⟨v, rfl, hv⟩
      · rw [if_pos rfl, if_pos rfl]
        exact ⟨h, by rw [z3], F⟩
      · obtain ⟨bb, h', a1, a2, a3, a4, a5⟩ := s_rr (N := N) (c := b') hN ⟨hn.1, by omega⟩ (by have := hb.1; omega) F
        have hd : dg n n b' v < n := dg_lt hn.1
        rw [if_neg (by omega), if_neg (by omega), z2, a1, bd_s, grd_t ⟨by omega, by omega⟩, Int.toNat_natCast, a5 hb.2.1 v hv, w32_nn (by omega), grd_t ⟨by omega, by omega⟩, Int.toNat_natCast, a4 96 _ (by omega)]
        exact ⟨h', rfl, a4⟩
    | succ d =>
      obtain ⟨bb, h', a1, a2, a3, a4, a5⟩ := s_rr (N := N) (c := c) hN ⟨hn.1, by omega⟩ (by omega) F
      unfold J_X12_brides_167
      simp only [bnd_s]
      rw [if_neg (by omega), a1, bd_s, inc (by omega)]
      rcases a2 with rfl | rfl
      · rw [if_pos rfl]
        exact l_bm hN hw' hs hn h96 hst w hw0 hb d q (c + 1) _ _ h' (by omega) (by omega) a4 (MB_skip hbb B (fun v => absurd (a3.mpr v) (by decide)))
      · rw [if_neg (by decide)]
        have v := a3.mp rfl
        have em : F_X12_missingBy N (n : Int) h' = some (lgb wi st n c, h') := l_mb (N := N) (c := c) hw' hs hn (fun k hk => by rw [a4 96 k (by omega)]; exact h96 k hk) (fun p hp => by
          obtain ⟨s, b1, b2, b3⟩ := hst p hp
          exact ⟨s, b1, by rw [a4 96 _ (by omega)]; exact b2, by rw [a4 89 _ (by omega)]; exact b3⟩) (a5 v) N 0 (by omega) (by omega)
        simp only [em, bd_s]
        by_cases z : lgb wi st n c < x5
        · rw [if_pos z]
          exact l_bm hN hw' hs hn h96 hst w hw0 hb d q (c + 1) _ _ h' (by omega) (by omega) a4 (MB_take B v z)
        · rw [if_neg z]
          exact l_bm hN hw' hs hn h96 hst w hw0 hb d q (c + 1) _ _ h' (by omega) (by omega) a4 (MB_skip hbb B (fun _ => by omega))
theorem l_f13 (hN : 1000000 ≤ N) (hn : 1 ≤ n ∧ n ≤ 6) (hL : L ≤ 260) (hnL : 2 * n ≤ L) (h4 : g 78 4 = (n : Int)) (e1 : g 41 1 = (L : Int)) (hwi : ∀ k, k < n → g 42 k = wi k) (hst : ∀ p, p < n → ∃ s : Nat, s < 14 ∧ g 42 (n + p) = (s : Int) ∧ g 4 s = st p) : ∀ (q k : Nat) (h : Hp), k ≤ n → n - k < q → (∀ c j, ¬ (c = 79 ∨ c = 80) → h c j = g c j) → (∀ i, i < k → h 79 i = wi i ∧ h 80 i = st i) → ∃ h', (∀ c j, ¬ (c = 79 ∨ c = 80) → h' c j = g c j) ∧ (∀ i, i < n → h' 79 i = wi i ∧ h' 80 i = st i) ∧ L_X4_find_13 N q (k : Int) h = bv (F_X4_match N 8 0 0 0 (hw h' 78 5 2147483647)) fun h2 => some h2
  | 0, k, _, _, hq, _, _ => absurd hq (by omega)
  | q + 1, k, h, hk, hq, F, Z => by
    unfold L_X4_find_13
    rw [F 78 4 (by omega), h4]
    by_cases e : k = n
    · subst e
      rw [if_pos (by omega), bnd_s]
      exact ⟨h, F, Z, rfl⟩
    · obtain ⟨s, s14, s1, s2⟩ := hst k (by omega)
      obtain ⟨ha, eha⟩ : ∃ ha, ha = hw h 79 k (wi k) := ⟨_, rfl⟩
      have Fa : ∀ c j, ¬ (c = 79 ∨ c = 80) → ha c j = g c j := fun c j z => by rw [eha, hw_ne (by omega)]; exact F c j z
      rw [if_neg (by omega), s_at (n := L) (by rw [F 41 1 (by omega)]; exact e1) hL ⟨by omega, by omega⟩, bd_s, Int.toNat_natCast, grd_t ⟨by omega, by omega⟩, bnd_s, F 42 k (by omega), hwi k (by omega), ← eha, Fa 78 4 (by omega), h4, w32_nn (by omega), s_at (n := L) (by rw [Fa 41 1 (by omega)]; exact e1) hL ⟨by omega, by omega⟩, bd_s, Int.toNat_natCast, Fa 42 _ (by omega), s1, s_stars s14, bd_s, Fa 4 s (by omega), s2, grd_t ⟨by omega, by omega⟩, bnd_s, bnd_s, inc (by omega)]
      exact l_f13 hN hn hL hnL h4 e1 hwi hst q (k + 1) (hw ha 80 k (st k)) (by omega) (by omega) (fun c i z => by rw [hw_ne (by omega)]; exact Fa c i z) (fun i hi => by
        by_cases z : i = k
        · subst z; exact ⟨by rw [hw_ne (by omega), eha, hw_eq], by rw [hw_eq]⟩
        · rw [hw_ne (by omega), hw_ne (by omega), eha, hw_ne (by omega), hw_ne (by omega)]; exact Z i (by omega))
theorem s_bfind (hN : 1000000 ≤ N) (hw' : ∀ k, 0 ≤ wi k ∧ wi k ≤ 255) (hs : ∀ k, 0 ≤ st k ∧ st k ≤ 99) (hn : 1 ≤ n ∧ n ≤ 6) (hL : L ≤ 260) (hnL : 2 * n ≤ L) (e1 : h 41 1 = (L : Int)) (hwi : ∀ k, k < n → h 42 k = wi k) (hst : ∀ p, p < n → ∃ s : Nat, s < 14 ∧ h 42 (n + p) = (s : Int) ∧ h 4 s = st p) : ∃ h' b, F_X4_find N (n : Int) h = some h' ∧ (∀ c j, ¬ (78 ≤ c ∧ c ≤ 82) → h' c j = h c j) ∧ Bst (fun c => dist n c n) (lgb wi st n) (n ^ n) b ∧ h' 78 5 = lgb wi st n b ∧ ∀ k, k < n → h' 82 k = (dg n n b k : Int) := by
  obtain ⟨ga, ega⟩ : ∃ ga, ga = hw h 78 4 (n : Int) := ⟨_, rfl⟩
  have fa : ∀ c j, ¬ (c = 78 ∧ j = 4) → ga c j = h c j := fun c j z => by rw [ega, hw_ne z]
  have a4 : ga 78 4 = (n : Int) := by rw [ega, hw_eq]
  obtain ⟨hc, c1, c2, c3⟩ := l_f13 (N := N) (g := ga) (wi := wi) (st := st) hN hn hL hnL a4 (by rw [fa 41 1 (by omega)]; exact e1) (fun k hk => by rw [fa 42 k (by omega)]; exact hwi k hk) (fun p hp => by
    obtain ⟨s, z1, z2, z3⟩ := hst p hp
    exact ⟨s, z1, by rw [fa 42 _ (by omega)]; exact z2, by rw [fa 4 _ (by omega)]; exact z3⟩) N 0 ga (by omega) (by omega) (fun _ _ _ => rfl) (fun i hi => absurd hi (by omega))
  obtain ⟨gd, egd⟩ : ∃ gd, gd = hw hc 78 5 2147483647 := ⟨_, rfl⟩
  have fd : ∀ c j, ¬ (c = 78 ∧ j = 5) → gd c j = hc c j := fun c j z => by rw [egd, hw_ne z]
  obtain ⟨h', d1, d2, d3, d5⟩ := b_match (N := N) (g := gd) (wi := wi) (st := st) hN hw' hs hn (by rw [fd 78 4 (by omega), c1 78 4 (by omega)]; exact a4) (fun k hk => by rw [fd 79 k (by omega)]; exact (c2 k hk).1) (fun k hk => by rw [fd 80 k (by omega)]; exact (c2 k hk).2) n 8 0 gd (by omega) (Nat.le_refl _) (fun _ _ _ => rfl) (fun a b x y => absurd y (by omega)) (fun i hi => absurd hi (by omega)) (Or.inl ⟨fun s hs => absurd hs (by omega), by rw [egd, hw_eq]⟩)
  rw [Nat.sub_self] at d1
  rw [Nat.zero_add, Nat.one_mul] at d5
  obtain ⟨c0, v1, v2, -⟩ := dist_ex hn.1
  rcases d5 with ⟨z, -⟩ | ⟨b, z1, z2, z3⟩
  · exact absurd v2 (z c0 v1)
  refine ⟨h', b, ?_, fun c j z => by rw [d2 c j (by omega), fd c j (by omega), c1 c j (by omega), fa c j (by omega)], z1, z2, z3⟩
  unfold F_X4_find
  have i1 : imin (n : Int) 6 = (n : Int) := by unfold imin; rw [if_neg (by omega)]
  rw [bnd_s, i1, ← ega]
  have c3 : L_X4_find_13 N N 0 ga = bv (F_X4_match N 8 0 0 0 (hw hc 78 5 2147483647)) fun h2 => some h2 := c3
  have d1 : F_X4_match N 8 0 0 0 gd = some h' := d1
  rw [c3, ← egd, d1, bv_s]
def TG (t L : Nat) (h g : Hp) : Prop := g 83 12 = (t : Int) ∧ ∀ j, j < L → g 96 j = (if h 42 j < 128 then h 42 j else h 42 j - 256)
theorem l_told (hn : 1 ≤ n ∧ n ≤ 6) (hL : L ≤ 260) (hnL : 2 * n ≤ L) (ht : t < 16384) (e1 : h 41 1 = (L : Int)) (e4 : h 1 4 = (t : Int)) (hb : ∀ j, j < L → 0 ≤ h 42 j ∧ h 42 j ≤ 255) (w : Int) :
    ∀ (d q1 k s : Nat), k + d = n → d < q1 → s < 16384 → (∀ i, i < k → isT t (h 42 (n + i))) → (L_X11_matchBrides_5 N q1 (n : Int) w (s : Int) ((n + k : Nat) : Int) h = some (-2, h) ∧ ∀ (q2 : Nat) (g : Hp), d < q2 → TG t L h g → L_X12_brides_32 N q2 (n : Int) w (s : Int) (k : Int) g = some (-2, g)) ∨ ((∀ i, i < n → isT t (h 42 (n + i))) ∧ L_X11_matchBrides_5 N q1 (n : Int) w (s : Int) ((n + k : Nat) : Int) h = (if w = 10 ∨ (0 ≤ w ∧ w ≤ (n : Int) - 1) then J_X11_matchBrides_81 N (n : Int) w h else some (-4, h)) ∧ ∀ (q2 : Nat) (g : Hp), d < q2 → TG t L h g → L_X12_brides_32 N q2 (n : Int) w (s : Int) (k : Int) g = (if w = 10 ∨ (0 ≤ w ∧ w ≤ (n : Int) - 1) then J_X12_brides_113 N (n : Int) w g else some (-4, g)))
  | _, 0, _, _, _, hq, _, _ => absurd hq (by omega)
  | 0, q1 + 1, k, s, hk, _, hs, T => by
    obtain rfl : k = n := by omega
    have w1 : w32 ((k : Int) - 1) = (k : Int) - 1 := w32_id ⟨by omega, by omega⟩
    have w2 : w32 (2 * (k : Int)) = 2 * (k : Int) := w32_id ⟨by omega, by omega⟩
    refine Or.inr ⟨T, ?_, fun q2 g hq2 G => ?_⟩
    · unfold L_X11_matchBrides_5
      rw [w2, if_pos (by omega), s_isWithin, bd_s, w1]
      by_cases z : w = 10
      · rw [if_pos z, if_pos (Or.inl z)]
      · rw [if_neg z]
        by_cases y : 0 ≤ w ∧ w ≤ (k : Int) - 1
        · rw [if_pos y, if_neg (by decide), if_pos (Or.inr y)]
        · rw [if_neg y, if_pos rfl, if_neg (fun x => x.elim z y)]
    · obtain ⟨q2, rfl⟩ : ∃ q, q2 = q + 1 := ⟨q2 - 1, by omega⟩
      unfold L_X12_brides_32
      rw [if_pos (by omega), s_in, bd_s, w1]
      by_cases z : w = 10
      · rw [if_pos z, if_pos (Or.inl z)]
      · rw [if_neg z]
        by_cases y : 0 ≤ w ∧ w ≤ (k : Int) - 1
        · rw [if_pos y, if_neg (by decide), if_pos (Or.inr y)]
        · rw [if_neg y, if_pos rfl, if_neg (fun x => x.elim z y)]
  | d + 1, q1 + 1, k, s, hk, h1, hs, T => by
    have w2 : w32 (2 * (n : Int)) = 2 * (n : Int) := w32_id ⟨by omega, by omega⟩
    obtain ⟨b0, b1⟩ := hb (n + k) (by omega)
    have gd : 0 ≤ ((n + k : Nat) : Int) ∧ ((n + k : Nat) : Int) < 260 := ⟨by omega, by omega⟩
    unfold L_X11_matchBrides_5
    rw [w2, if_neg (by omega), s_at (n := L) e1 hL ⟨by omega, by omega⟩, bd_s, Int.toNat_natCast, s_isTold ht e4, bd_s]
    by_cases z : isT t (h 42 (n + k))
    · obtain ⟨v, ev⟩ : ∃ v : Nat, h 42 (n + k) = (v : Int) := ⟨(h 42 (n + k)).toNat, by omega⟩
      rw [if_pos z, if_neg (by decide), s_hasBit (by omega) ⟨by omega, by omega⟩, bd_s]
      have e96 : ∀ g, TG t L h g → g 96 (n + k) = (v : Int) := fun g G => by rw [G.2 (n + k) (by omega), if_pos (by omega), ev]
      have zv : isT t (v : Int) := by rw [← ev]; exact z
      have v14 : v < 14 := by have := zv.2.1; omega
      rw [ev, Int.toNat_natCast]
      by_cases y : s.testBit v = true
      · have y1 : ¬ btN s v = 0 := by rw [btN_1.mpr y]; decide
        rw [if_neg y1]
        refine Or.inl ⟨rfl, fun q2 g hq2 G => ?_⟩
        obtain ⟨q2, rfl⟩ : ∃ q, q2 = q + 1 := ⟨q2 - 1, by omega⟩
        unfold L_X12_brides_32
        rw [if_neg (by omega), w32_nn (by omega), grd_t gd, Int.toNat_natCast, e96 g G, s_isStreet ht G.1, bd_s, if_pos zv, if_neg (by decide), grd_t gd, e96 g G, s_has (by omega) ⟨by omega, by omega⟩, bd_s, Int.toNat_natCast, if_neg y1]
      · have p14 : 2 ^ v < 2 ^ 14 := pow_lt2 v14
        rw [if_pos (btN_0 y), bnd_s, bnd_s, ishl_1 (by omega), ior_nat (by omega) (by omega), inc (by omega)]
        have hM : ∀ (q2 : Nat) (g : Hp), TG t L h g → L_X12_brides_32 N (q2 + 1) (n : Int) w (s : Int) (k : Int) g = L_X12_brides_32 N q2 (n : Int) w ((s ||| 2 ^ v : Nat) : Int) ((k + 1 : Nat) : Int) g := fun q2 g G => by
          conv => lhs; unfold L_X12_brides_32
          rw [if_neg (by omega), w32_nn (by omega), grd_t gd, Int.toNat_natCast, e96 g G, s_isStreet ht G.1, bd_s, if_pos zv, if_neg (by decide), grd_t gd, e96 g G, s_has (by omega) ⟨by omega, by omega⟩, bd_s, Int.toNat_natCast, if_pos (btN_0 y), grd_t gd, e96 g G, bnd_s, bnd_s, ishl_1 (by omega), ior_nat (by omega) (by omega), inc (by omega)]
        rcases l_told hn hL hnL ht e1 e4 hb w d q1 (k + 1) (s ||| 2 ^ v) (by omega) (by omega) (Nat.or_lt_two_pow (n := 14) hs p14) (fun i hi => by
          by_cases x : i = k
          · subst x; exact z
          · exact T i (by omega)) with ⟨x1, x2⟩ | ⟨x0, x1, x2⟩
        · refine Or.inl ⟨x1, fun q2 g hq2 G => ?_⟩
          obtain ⟨q2, rfl⟩ : ∃ q, q2 = q + 1 := ⟨q2 - 1, by omega⟩
          rw [hM q2 g G]
          exact x2 q2 g (by omega) G
        · refine Or.inr ⟨x0, x1, fun q2 g hq2 G => ?_⟩
          obtain ⟨q2, rfl⟩ : ∃ q, q2 = q + 1 := ⟨q2 - 1, by omega⟩
          rw [hM q2 g G]
          exact x2 q2 g (by omega) G
    · rw [if_neg z, if_pos rfl]
      refine Or.inl ⟨rfl, fun q2 g hq2 G => ?_⟩
      obtain ⟨q2, rfl⟩ : ∃ q, q2 = q + 1 := ⟨q2 - 1, by omega⟩
      have nz : ¬ isT t (g 96 (n + k)) := by
        rw [G.2 (n + k) (by omega)]
        by_cases y : h 42 (n + k) < 128
        · rw [if_pos y]; exact z
        · rw [if_neg y]; intro x; have := x.1; omega
      unfold L_X12_brides_32
      rw [if_neg (by omega), w32_nn (by omega), grd_t gd, Int.toNat_natCast, s_isStreet ht G.1, bd_s, if_neg nz, if_pos rfl]
end BR
theorem op_brides {N : Nat} (hN : 1000000 ≤ N) : ∀ a1 : Int, inR a1 → ∀ a2 : Int, inR a2 → Sm (Inv N) (F_X11_brides N a1 a2) (F_X12_brides N a1 a2) := by
  intro k _ w _ h hok hI
  obtain ⟨t, i1, i2, i3, i4, i5, ⟨L, hL, e1, e2, hb⟩, i7, i8, i9, i10⟩ := id hI
  have ht := i1.1
  unfold F_X11_brides F_X12_brides F_X10_clear
  rw [s_isWithin, bd_s]
  by_cases q1 : 1 ≤ k ∧ k ≤ 6
  rotate_left
  · exact ⟨-1, h, h, by rw [if_neg q1, if_pos rfl], by rw [s_in, bd_s, if_neg q1, if_pos rfl], hI⟩
  obtain ⟨n, rfl⟩ : ∃ n : Nat, k = (n : Int) := ⟨k.toNat, by omega⟩
  have w2 : w32 (2 * (n : Int)) = 2 * (n : Int) := w32_id ⟨by omega, by omega⟩
  rw [if_pos q1, if_neg (by decide), w2, s_holds e1, bd_s]
  by_cases q2 : 2 * (n : Int) ≤ (L : Int)
  rotate_left
  · exact ⟨-1, h, h, by rw [if_neg q2, if_pos rfl], by rw [s_in, bd_s, if_pos q1, if_neg (by decide), e2, if_neg q2], hI⟩
  have hn : 1 ≤ n ∧ n ≤ 6 := ⟨by omega, by omega⟩
  rw [if_pos q2, if_neg (by decide)]
  unfold F_X11_matchBrides
  have clr : ∀ h' : Hp, (∀ c j, ¬ (78 ≤ c ∧ c ≤ 82) → h' c j = h c j) → ∀ h2 : Hp, ex119 (hw (hw h' 41 1 0) 83 15 0) h2 → Inv N h2 := fun h' a2 h2 c2 => by
    refine hI.clr (fun c j hs hc => ?_) (by rw [c2 41 1 (by omega), hw_ne (by omega), hw_eq]) (by rw [c2 83 15 (by omega), hw_eq])
    unfold scr at hs
    unfold tpx at hc
    rw [c2 c j (by omega), hw_ne (by omega), hw_ne (by omega), a2 c j (by omega)]
  have TGh : ∀ h' : Hp, (∀ c j, ¬ (78 ≤ c ∧ c ≤ 82) → h' c j = h c j) → TG t L h (hw (hw h' 41 1 0) 83 15 0) := fun h' a2 => ⟨by rw [hw_ne (by omega), hw_ne (by omega), a2 83 12 (by omega)]; exact i1.2.2, fun j hj => by rw [hw_ne (by omega), hw_ne (by omega), a2 96 j (by omega)]; exact (hb j hj).2.2⟩
  have tol := l_told (N := N) (n := n) (L := L) (t := t) (h := h) hn hL (by omega) ht e1 i1.2.1 (fun j hj => ⟨(hb j hj).1, (hb j hj).2.1⟩) w n N 0 0 (by omega) (by omega) (by omega) (fun i hi => absurd hi (by omega))
  have top : ∀ (r : Int) (h' h2 : Hp), (∀ c j, ¬ (78 ≤ c ∧ c ≤ 82) → h' c j = h c j) → ex119 (hw (hw h' 41 1 0) 83 15 0) h2 → L_X11_matchBrides_5 N N (n : Int) w 0 (n : Int) h = some (r, h') → L_X12_brides_32 N N (n : Int) w 0 0 (hw (hw h' 41 1 0) 83 15 0) = some (r, h2) → ∃ (r : Int) (h1 h2 : Hp), (bd (L_X11_matchBrides_5 N N (n : Int) w 0 (n : Int) h) fun y6 h5 => bv (bnd (hw h5 41 1 0) fun h1 => some h1) fun h7 => some (y6, h7)) = some (r, h1) ∧ (bd (F_X12_in N (n : Int) 1 6 h1) fun y2 h1 => if y2 = 0 then some (-1, h1) else if 2 * (n : Int) ≤ h1 83 15 then bnd (hw h1 83 15 0) fun h3 => L_X12_brides_32 N N (n : Int) w 0 0 h3 else some (-1, h1)) = some (r, h2) ∧ Inv N h2 := by
    intro r h' h2 a2 c2 x1 x2
    refine ⟨r, hw h' 41 1 0, h2, ?_, ?_, clr h' a2 h2 c2⟩
    · rw [x1, bd_s, bnd_s, bv_s]
    · rw [s_in, bd_s, if_pos q1, if_neg (by decide), hw_ne (by omega), a2 83 15 (by omega), e2, if_pos q2, bnd_s]
      exact x2
  rcases tol with ⟨x1, x2⟩ | ⟨T, x1, x2⟩
  · exact top (-2) h _ (fun _ _ _ => rfl) (fun _ _ _ => rfl) x1 (x2 N _ (by omega) (TGh h (fun _ _ _ => rfl)))
  by_cases cw : w = 10 ∨ (0 ≤ w ∧ w ≤ (n : Int) - 1)
  rotate_left
  · rw [if_neg cw] at x1
    have x3 := x2 N _ (by omega) (TGh h (fun _ _ _ => rfl))
    rw [if_neg cw] at x3
    exact top (-4) h _ (fun _ _ _ => rfl) (fun _ _ _ => rfl) x1 x3
  rw [if_pos cw] at x1
  obtain ⟨wi, ewi⟩ : ∃ f : Nat → Int, f = fun k => if k < n then h 42 k else 0 := ⟨_, rfl⟩
  obtain ⟨st, est⟩ : ∃ f : Nat → Int, f = fun p => if p < n then h 4 (h 42 (n + p)).toNat else 0 := ⟨_, rfl⟩
  have hwi : ∀ k, 0 ≤ wi k ∧ wi k ≤ 255 := fun k => by
    rw [ewi]
    by_cases z : k < n
    · have := hb k (by omega)
      simp only [if_pos z]
      omega
    · simp only [if_neg z]
      omega
  have t14 : ∀ p, p < n → ∃ s : Nat, s < 14 ∧ h 42 (n + p) = (s : Int) := fun p hp => ⟨(h 42 (n + p)).toNat, by have := (T p hp).1; have := (T p hp).2.1; omega, by have := (T p hp).1; omega⟩
  have hst : ∀ k, 0 ≤ st k ∧ st k ≤ 99 := fun k => by
    rw [est]
    by_cases z : k < n
    · obtain ⟨s, s1, s2⟩ := t14 k z
      have := (i2 s s1).2.2
      simp only [if_pos z]
      rw [s2, Int.toNat_natCast]
      omega
    · simp only [if_neg z]
      omega
  have hsp : ∀ p, p < n → ∃ s : Nat, s < 14 ∧ h 42 (n + p) = (s : Int) ∧ h 4 s = st p := fun p hp => by
    obtain ⟨s, s1, s2⟩ := t14 p hp
    refine ⟨s, s1, s2, ?_⟩
    rw [est]
    simp only [if_pos hp]
    rw [s2, Int.toNat_natCast]
  obtain ⟨h', b, a1, a2, a3, a4, a5⟩ := s_bfind (N := N) (h := h) (wi := wi) (st := st) (n := n) (L := L) hN hwi hst hn hL (by omega) e1 (fun k hk => by rw [ewi]; simp only [if_pos hk]) hsp
  have hw4 : w = 10 ∨ ∃ v : Nat, w = (v : Int) ∧ v < n := by
    rcases cw with z | z
    · exact Or.inl z
    · exact Or.inr ⟨w.toNat, by omega, by omega⟩
  obtain ⟨gb, egb⟩ : ∃ gb, gb = hw (hw h' 41 1 0) 83 15 0 := ⟨_, rfl⟩
  have x3 := x2 N gb (by omega) (by rw [egb]; exact TGh h' a2)
  rw [if_pos cw] at x3
  have gf : ∀ c j, ¬ (78 ≤ c ∧ c ≤ 82) → ¬ (c = 41 ∧ j = 1) → ¬ (c = 83 ∧ j = 15) → gb c j = h c j := fun c j z1 z2 z3 => by rw [egb, hw_ne z3, hw_ne z2, a2 c j z1]
  have g96 : ∀ p, p < n → gb 96 (n + p) = h 42 (n + p) := fun p hp => by
    obtain ⟨s, s1, s2⟩ := t14 p hp
    rw [gf 96 _ (by omega) (by omega) (by omega), (hb _ (show n + p < L by omega)).2.2, if_pos (by omega)]
  obtain ⟨h2, c1, c2⟩ := l_bm (N := N) (g := gb) (wi := wi) (st := st) (n := n) hN hwi hst hn (fun k hk => by
    rw [gf 96 k (by omega) (by omega) (by omega), ewi]
    simp only [if_pos hk]
    exact tp_and hb (by omega)) (fun p hp => by
    obtain ⟨s, s1, s2, s3⟩ := hsp p hp
    exact ⟨s, s1, by rw [g96 p hp]; exact s2, by rw [gf 89 s (by omega) (by omega) (by omega), (i2 s s1).2.2.1]; exact s3⟩) w hw4 a3 (n ^ n) N 0 (-1) 1000000 gb (by omega) (by have := pow6 hn; omega) (fun _ _ _ => rfl) (Or.inl ⟨fun s hs => absurd hs (by omega), rfl⟩)
  have x4 : J_X12_brides_113 N (n : Int) w gb = some (if w = 10 then lgb wi st n b else gb 96 (n + dg n n b w.toNat), h2) := c1
  rw [x4] at x3
  refine top (if w = 10 then lgb wi st n b else gb 96 (n + dg n n b w.toNat)) h' h2 a2 (by rw [← egb]; exact c2) ?_ (by rw [← egb]; exact x3)
  have x1 : L_X11_matchBrides_5 N N (n : Int) w 0 (n : Int) h = J_X11_matchBrides_81 N (n : Int) w h := x1
  rw [x1]
  unfold J_X11_matchBrides_81
  rw [a1, bv_s]
  rcases hw4 with rfl | ⟨v, rfl, hv⟩
  · unfold F_X4_missing
    rw [if_pos rfl, if_pos rfl, bd_s, a4]
  · unfold F_X4_placeFor
    have hd : dg n n b v < n := dg_lt hn.1
    rw [if_neg (by omega), if_neg (by omega), s_isWithin, bd_s, if_pos (show 0 ≤ (v : Int) ∧ (v : Int) ≤ 5 from ⟨by omega, by omega⟩), if_neg (by decide), grd_t ⟨by omega, by omega⟩, bd_s, Int.toNat_natCast, a5 v hv, w32_nn (by omega), s_at (n := L) (by rw [a2 41 1 (by omega)]; exact e1) hL ⟨by omega, by omega⟩, bd_s, Int.toNat_natCast, a2 42 _ (by omega), g96 _ hd]
