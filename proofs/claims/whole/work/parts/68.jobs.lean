/-! ROWS AS CODES; JOBS -/
def dg (m n c k : Nat) : Nat := c / m ^ (n - 1 - k) % m
section DG
variable {m n : Nat}
theorem dg_lt (hm : 1 ≤ m) {c k : Nat} : dg m n c k < m := Nat.mod_lt _ hm
theorem dg_pre (hm : 1 ≤ m) {r p t i : Nat} (ht : t < m ^ r) (hi : i + r < n) : dg m n (p * m ^ r + t) i = p / m ^ (n - 1 - i - r) % m := by
  unfold dg
  have hp : 0 < m ^ r := Nat.pow_pos hm
  rw [show n - 1 - i = r + (n - 1 - i - r) by omega, Nat.pow_add, ← Nat.div_div_eq_div_mul, Nat.mul_comm p, Nat.mul_add_div hp, Nat.div_eq_of_lt ht, Nat.add_zero, show r + (n - 1 - i - r) - r = n - 1 - i - r by omega]
theorem dg_at (hm : 1 ≤ m) {r p k j : Nat} (hk : k < m) (hj : n - 1 - j = r) : dg m n ((p * m + k) * m ^ r) j = k := by
  unfold dg
  rw [hj, Nat.mul_div_cancel _ (Nat.pow_pos hm), Nat.mul_add_mod_of_lt hk]
theorem dg_ch (hm : 1 ≤ m) {r p k i : Nat} (hk : k < m) (hi : i + (r + 1) < n) : dg m n ((p * m + k) * m ^ r) i = dg m n (p * m ^ (r + 1)) i := by
  have hp : 0 < m ^ r := Nat.pow_pos hm
  have e : (p * m + k) * m ^ r = p * m ^ (r + 1) + k * m ^ r := by rw [Nat.add_mul, Nat.mul_assoc, Nat.pow_succ, Nat.mul_comm m]
  have h1 : k * m ^ r < m ^ (r + 1) := by rw [Nat.pow_succ, Nat.mul_comm (m ^ r)]; exact Nat.mul_lt_mul_of_pos_right hk hp
  have h2 : (0 : Nat) < m ^ (r + 1) := Nat.pow_pos hm
  have a := dg_pre hm (p := p) h1 hi
  have b := dg_pre hm (p := p) h2 hi
  rw [Nat.add_zero] at b
  rw [e, a, b]
theorem dg_sub (hm : 1 ≤ m) {r p s i : Nat} (h1 : p * m ^ r ≤ s) (h2 : s < (p + 1) * m ^ r) (hi : i + r < n) : dg m n s i = dg m n (p * m ^ r) i := by
  have h3 : (0 : Nat) < m ^ r := Nat.pow_pos hm
  rw [Nat.add_mul, Nat.one_mul] at h2
  have a := dg_pre hm (p := p) (t := s - p * m ^ r) (show s - p * m ^ r < m ^ r by omega) hi
  have b := dg_pre hm (p := p) h3 hi
  rw [show p * m ^ r + (s - p * m ^ r) = s by omega] at a
  rw [Nat.add_zero] at b
  rw [a, b]
end DG
/-- the best among the first c codes -/
def Bst (V : Nat → Prop) (lg : Nat → Int) (c b : Nat) : Prop := b < c ∧ V b ∧ ∀ s, s < c → V s → lg b < lg s ∨ (lg b = lg s ∧ b ≤ s)
def XB (V : Nat → Prop) (lg : Nat → Int) (m n c : Nat) (l : Int) (row : Nat → Int) : Prop := ((∀ s, s < c → ¬ V s) ∧ l = 2147483647) ∨ ∃ b, Bst V lg c b ∧ l = lg b ∧ ∀ k, k < n → row k = (dg m n b k : Int)
def MB (V : Nat → Prop) (lg : Nat → Int) (c : Nat) (x l : Int) : Prop := ((∀ s, s < c → ¬ V s) ∧ l = 1000000) ∨ ∃ b : Nat, Bst V lg c b ∧ x = (b : Int) ∧ l = lg b
section BS
variable {V : Nat → Prop} {lg : Nat → Int} {m n : Nat}
theorem Bst_u {c b b' : Nat} (h1 : Bst V lg c b) (h2 : Bst V lg c b') : b = b' := by
  have a := h1.2.2 b' h2.1 h2.2.1
  have b := h2.2.2 b h1.1 h1.2.1
  omega
theorem Bst_skip {c c' b : Nat} (h : Bst V lg c b) (hc : c ≤ c') (hs : ∀ s, c ≤ s → s < c' → V s → lg b ≤ lg s) : Bst V lg c' b := by
  refine ⟨Nat.lt_of_lt_of_le h.1 hc, h.2.1, fun s h1 h2 => ?_⟩
  by_cases q : s < c
  · exact h.2.2 s q h2
  · have := hs s (by omega) h1 h2
    have := h.1
    omega
theorem XB_skip {c c' : Nat} {l : Int} {row : Nat → Int} (hb : ∀ s, V s → lg s < 1000000) (h : XB V lg m n c l row) (hc : c ≤ c') (hs : ∀ s, c ≤ s → s < c' → V s → l ≤ lg s) : XB V lg m n c' l row := by
  rcases h with ⟨h1, h2⟩ | ⟨b, h1, h2, h3⟩
  · refine Or.inl ⟨fun s a v => ?_, h2⟩
    by_cases q : s < c
    · exact h1 s q v
    · have := hs s (by omega) a v
      have := hb s v
      omega
  · exact Or.inr ⟨b, Bst_skip h1 hc (fun s a1 a2 a3 => by rw [← h2]; exact hs s a1 a2 a3), h2, h3⟩
theorem XB_take {c : Nat} {l : Int} {row row' : Nat → Int} (h : XB V lg m n c l row) (v : V c) (hl : lg c < l) (hr : ∀ k, k < n → row' k = (dg m n c k : Int)) : XB V lg m n (c + 1) (lg c) row' := by
  refine Or.inr ⟨c, ⟨by omega, v, fun s h1 h2 => ?_⟩, rfl, hr⟩
  by_cases q : s = c
  · subst q; exact Or.inr ⟨rfl, Nat.le_refl _⟩
  · rcases h with ⟨a1, a2⟩ | ⟨b, a1, a2, a3⟩
    · exact absurd h2 (a1 s (by omega))
    · have := a1.2.2 s (by omega) h2
      omega
theorem MB_skip {c : Nat} {x l : Int} (hb : ∀ s, V s → lg s < 1000000) (h : MB V lg c x l) (hs : V c → l ≤ lg c) : MB V lg (c + 1) x l := by
  rcases h with ⟨h1, h2⟩ | ⟨b, h1, h2, h3⟩
  · refine Or.inl ⟨fun s a v => ?_, h2⟩
    by_cases q : s < c
    · exact h1 s q v
    · obtain rfl : s = c := by omega
      have := hs v
      have := hb s v
      omega
  · refine Or.inr ⟨b, Bst_skip h1 (by omega) (fun s a1 a2 a3 => ?_), h2, h3⟩
    obtain rfl : s = c := by omega
    rw [← h3]
    exact hs a3
theorem MB_take {c : Nat} {x l : Int} (h : MB V lg c x l) (v : V c) (hl : lg c < l) : MB V lg (c + 1) (c : Int) (lg c) := by
  refine Or.inr ⟨c, ⟨by omega, v, fun s h1 h2 => ?_⟩, rfl, rfl⟩
  by_cases q : s = c
  · subst q; exact Or.inr ⟨rfl, Nat.le_refl _⟩
  · rcases h with ⟨a1, a2⟩ | ⟨b, a1, a2, a3⟩
    · exact absurd h2 (a1 s (by omega))
    · have := a1.2.2 s (by omega) h2
      omega
end BS
theorem fmx_ge {f : Nat → Int} : ∀ {m k : Nat}, k < m → f k ≤ fmx f m
  | 0, _, h => absurd h (by omega)
  | m + 1, k, h => by
    simp only [fmx, imax]
    by_cases q : k = m
    · subst q; split <;> omega
    · have := fmx_ge (f := f) (show k < m by omega)
      split <;> omega
theorem fmx_b {f : Nat → Int} {B : Int} (hB : 0 ≤ B) : ∀ {m : Nat}, (∀ k, k < m → f k ≤ B) → 0 ≤ fmx f m ∧ fmx f m ≤ B
  | 0, _ => ⟨Int.le_refl _, hB⟩
  | m + 1, h => by
    have := fmx_b (m := m) hB (fun k hk => h k (by omega))
    have := h m (by omega)
    simp only [fmx, imax]
    split <;> omega
theorem fmx_c {f g : Nat → Int} : ∀ {m : Nat}, (∀ k, k < m → f k = g k) → fmx f m = fmx g m
  | 0, _ => rfl
  | m + 1, h => by
    simp only [fmx]
    rw [fmx_c (m := m) (fun k hk => h k (by omega)), h m (by omega)]
theorem sm_mono {f : Nat → Int} (hf : ∀ k, 0 ≤ f k) : ∀ (j d : Nat), sm f j ≤ sm f (j + d)
  | j, 0 => Int.le_refl _
  | j, d + 1 => by
    have := sm_mono hf j d
    have := hf (j + d)
    show sm f j ≤ sm f (j + d) + f (j + d)
    omega
/-- what the first j jobs of a code give to a cart -/
def psf (f : Nat → Int) (m n c k i : Nat) : Int := if dg m n c i = k then f i else 0
def ps (f : Nat → Int) (m n c j k : Nat) : Int := sm (psf f m n c k) j
def lgj (f : Nat → Int) (m n c : Nat) : Int := fmx (ps f m n c n) m
def JX (g h : Hp) : Prop := ∀ c j, ¬ ((c = 73 ∧ j = 6) ∨ c = 75 ∨ c = 76 ∨ c = 77) → h c j = g c j
section JB
variable {N m n : Nat} {f : Nat → Int} {g h : Hp}
theorem psf_b (hf : ∀ k, 0 ≤ f k ∧ f k ≤ 255) {c k : Nat} (i : Nat) : 0 ≤ psf f m n c k i ∧ psf f m n c k i ≤ 255 := by
  have := hf i
  unfold psf
  split <;> omega
theorem ps_b (hf : ∀ k, 0 ≤ f k ∧ f k ≤ 255) {c k : Nat} (j : Nat) : 0 ≤ ps f m n c j k ∧ ps f m n c j k ≤ 100000 * j := sm_b (M := j) (fun i _ => by have := psf_b (m := m) (n := n) hf (c := c) (k := k) i; omega) j (Nat.le_refl _)
theorem lgj_b (hf : ∀ k, 0 ≤ f k ∧ f k ≤ 255) (hn : n ≤ 8) (c : Nat) : 0 ≤ lgj f m n c ∧ lgj f m n c ≤ 800000 := fmx_b (by omega) (fun k _ => by have := ps_b (m := m) (n := n) hf (c := c) (k := k) n; omega)
theorem ps_c {c c' j k : Nat} (e : ∀ i, i < j → dg m n c i = dg m n c' i) : ps f m n c j k = ps f m n c' j k := sm_c (fun i hi => by unfold psf; rw [e i hi])
theorem l_keepRow {L : Int} {s : Nat → Int} (h5 : h 73 5 = (m : Int)) (hm : m ≤ 3) (hs : ∀ k, k < m → h 77 k = s k) (h6 : h 73 6 = L) : ∀ q k : Nat, k ≤ m → m - k < q → L_X6_keepRow_4 N q (fmx s k) (k : Int) h = some (if L ≤ fmx s m then h else hcp (hw h 73 6 (fmx s m)) 75 0 76 0 8)
  | 0, k, _, hf => absurd hf (by omega)
  | q + 1, k, hk, hf => by
    unfold L_X6_keepRow_4
    rw [h5, h6]
    by_cases c : k = m
    · subst c
      rw [if_pos (by omega)]
      simp only [bnd_s]
      by_cases z : L ≤ fmx s k
      · rw [if_pos z, if_pos z]
      · rw [if_neg z, if_neg z]; rfl
    · rw [if_neg (by omega), grd_t ⟨by omega, by omega⟩, Int.toNat_natCast, hs k (by omega), bnd_s, bnd_s, inc (by omega)]
      exact l_keepRow h5 hm hs h6 q (k + 1) (by omega) (by omega)
theorem j_give (hN : 1000000 ≤ N) (hf : ∀ k, 0 ≤ f k ∧ f k ≤ 255) (hm : 1 ≤ m ∧ m ≤ 3) (hn : 1 ≤ n ∧ n ≤ 8) (h4 : g 73 4 = (n : Int)) (h5 : g 73 5 = (m : Int)) (h74 : ∀ k, k < n → g 74 k = f k) :
    ∀ (r D p : Nat) (h : Hp), r < D → r ≤ n → JX g h → (∀ i, i < n - r → h 75 i = (dg m n (p * m ^ r) i : Int)) → (∀ k, k < m → h 77 k = ps f m n (p * m ^ r) (n - r) k) → XB (fun _ => True) (lgj f m n) m n (p * m ^ r) (h 73 6) (h 76) → ∃ h', F_X6_give N D ((n - r : Nat) : Int) h = some h' ∧ JX g h' ∧ (∀ i, i < n - r → h' 75 i = (dg m n (p * m ^ r) i : Int)) ∧ (∀ k, k < m → h' 77 k = ps f m n (p * m ^ r) (n - r) k) ∧ XB (fun _ => True) (lgj f m n) m n ((p + 1) * m ^ r) (h' 73 6) (h' 76)
  | _, 0, _, _, hD, _, _, _, _, _ => absurd hD (by omega)
  | 0, D + 1, p, h, _, _, F, R, S, B => by
    have e1 : p * m ^ 0 = p := by simp
    have e2 : (p + 1) * m ^ 0 = p + 1 := by simp
    rw [e1, Nat.sub_zero] at R S
    rw [e1] at B
    rw [e1, e2, Nat.sub_zero]
    have hb := fun s (_ : True) => (show lgj f m n s < 1000000 by have := lgj_b (m := m) hf hn.2 s; omega)
    have ek : F_X6_keepRow N h = _ := l_keepRow (N := N) (m := m) (s := ps f m n p n) (by rw [F 73 5 (by omega)]; exact h5) hm.2 S rfl N 0 (by omega) (by omega)
    have el : fmx (ps f m n p n) m = lgj f m n p := rfl
    rw [el] at ek
    unfold F_X6_give O_X6_give
    rw [F 73 4 (by omega), h4, if_neg (by omega), ek, bv_s]
    by_cases z : h 73 6 ≤ lgj f m n p
    · rw [if_pos z]
      refine ⟨h, rfl, F, R, S, XB_skip hb B (by omega) (fun s a1 a2 _ => ?_)⟩
      obtain rfl : s = p := by omega
      exact z
    · rw [if_neg z]
      refine ⟨_, rfl, fun c j q => ?_, fun i hi => ?_, fun k hk => ?_, ?_⟩
      · unfold hcp; rw [if_neg (by omega), hw_ne (by omega)]; exact F c j q
      · unfold hcp; rw [if_neg (by omega), hw_ne (by omega)]; exact R i hi
      · unfold hcp; rw [if_neg (by omega), hw_ne (by omega)]; exact S k hk
      · have e6 : hcp (hw h 73 6 (lgj f m n p)) 75 0 76 0 8 73 6 = lgj f m n p := by unfold hcp; rw [if_neg (by omega), hw_eq]
        rw [e6]
        refine XB_take B trivial (by omega) (fun k hk => ?_)
        unfold hcp
        rw [if_pos ⟨rfl, by omega, by omega⟩, hw_ne (by omega), Nat.sub_zero, Nat.zero_add]
        exact R k hk
  | r + 1, D + 1, p, h, hD, hr, F, R, S, B => by
    have hb := fun s (_ : True) => (show lgj f m n s < 1000000 by have := lgj_b (m := m) hf hn.2 s; omega)
    obtain ⟨j, ej⟩ : ∃ j, j = n - (r + 1) := ⟨_, rfl⟩
    rw [← ej] at R S ⊢
    have eP : p * m ^ (r + 1) = (p * m + 0) * m ^ r := by
      show p * m ^ (r + 1) = p * m * m ^ r
      rw [Nat.pow_succ, Nat.mul_assoc, Nat.mul_comm m]
    have eQ : (p + 1) * m ^ (r + 1) = (p * m + m) * m ^ r := by rw [Nat.pow_succ, Nat.mul_comm (m ^ r), ← Nat.mul_assoc, Nat.add_mul, Nat.one_mul]
    have mp : 0 < m ^ r := Nat.pow_pos hm.1
    have loop : ∀ (d q k : Nat) (h : Hp), k + d = m → d < q → JX g h → (∀ i, i < j → h 75 i = (dg m n (p * m ^ (r + 1)) i : Int)) → (∀ k, k < m → h 77 k = ps f m n (p * m ^ (r + 1)) j k) → XB (fun _ => True) (lgj f m n) m n ((p * m + k) * m ^ r) (h 73 6) (h 76) → ∃ h', L_X6_give_15 N (F_X6_give N D) q (j : Int) (k : Int) h = some h' ∧ JX g h' ∧ (∀ i, i < j → h' 75 i = (dg m n (p * m ^ (r + 1)) i : Int)) ∧ (∀ k, k < m → h' 77 k = ps f m n (p * m ^ (r + 1)) j k) ∧ XB (fun _ => True) (lgj f m n) m n ((p * m + m) * m ^ r) (h' 73 6) (h' 76) := by
      intro d
      induction d with
      | zero =>
        intro q k h hk hq F R S B
        obtain ⟨q, rfl⟩ : ∃ q', q = q' + 1 := ⟨q - 1, by omega⟩
        obtain rfl : k = m := by omega
        unfold L_X6_give_15
        rw [F 73 5 (by omega), h5, if_pos (by omega)]
        exact ⟨h, rfl, F, R, S, B⟩
      | succ d ih =>
        intro q k h hk hq F R S B
        obtain ⟨q, rfl⟩ : ∃ q', q = q' + 1 := ⟨q - 1, by omega⟩
        have hk2 : k < m := by omega
        have fj := hf j
        have sk := ps_b (m := m) (n := n) hf (c := p * m ^ (r + 1)) (k := k) j
        obtain ⟨h2, eh2⟩ : ∃ h2, h2 = hw (hw h 75 j (k : Int)) 77 k (ps f m n (p * m ^ (r + 1)) j k + f j) := ⟨_, rfl⟩
        have F2 : JX g h2 := fun c i z => by rw [eh2, hw_ne (by omega), hw_ne (by omega)]; exact F c i z
        have e6 : h2 73 6 = h 73 6 := by rw [eh2, hw_ne (by omega), hw_ne (by omega)]
        have e76 : h2 76 = h 76 := by rw [eh2, hw_c (by omega), hw_c (by omega)]
        have e77 : h2 77 k = ps f m n (p * m ^ (r + 1)) j k + f j := by rw [eh2, hw_eq]
        have e74 : h2 74 j = f j := by rw [F2 74 j (by omega)]; exact h74 j (by omega)
        have R2 : ∀ i, i < n - r → h2 75 i = (dg m n ((p * m + k) * m ^ r) i : Int) := fun i hi => by
          by_cases z : i = j
          · subst z
            rw [eh2, hw_ne (by omega), hw_eq, dg_at hm.1 hk2 (by omega)]
          · rw [eh2, hw_ne (by omega), hw_ne (by omega), R i (by omega), dg_ch hm.1 hk2 (by omega)]
        have dgj : ∀ i, i < j → dg m n ((p * m + k) * m ^ r) i = dg m n (p * m ^ (r + 1)) i := fun i hi => dg_ch hm.1 hk2 (by omega)
        have psn : ∀ k', ps f m n ((p * m + k) * m ^ r) (j + 1) k' = ps f m n (p * m ^ (r + 1)) j k' + (if k = k' then f j else 0) := fun k' => by
          have e1 : ps f m n ((p * m + k) * m ^ r) (j + 1) k' = ps f m n ((p * m + k) * m ^ r) j k' + psf f m n ((p * m + k) * m ^ r) k' j := rfl
          rw [e1, ps_c dgj]
          unfold psf
          rw [dg_at hm.1 hk2 (by omega)]
        have S2 : ∀ k', k' < m → h2 77 k' = ps f m n ((p * m + k) * m ^ r) (n - r) k' := fun k' hk' => by
          rw [show n - r = j + 1 by omega, psn k']
          by_cases z : k = k'
          · subst z; rw [if_pos rfl, e77]
          · rw [if_neg z, Int.add_zero, eh2, hw_ne (by omega), hw_ne (by omega)]; exact S k' hk'
        have B2 : XB (fun _ => True) (lgj f m n) m n ((p * m + k) * m ^ r) (h2 73 6) (h2 76) := by rw [e6, e76]; exact B
        have le1 : (p * m + k) * m ^ r ≤ (p * m + k + 1) * m ^ r := Nat.mul_le_mul_right _ (by omega)
        have body : ∃ h3, JX g h3 ∧ (∀ i, i < n - r → h3 75 i = (dg m n ((p * m + k) * m ^ r) i : Int)) ∧ (∀ k', k' < m → h3 77 k' = ps f m n ((p * m + k) * m ^ r) (n - r) k') ∧ XB (fun _ => True) (lgj f m n) m n ((p * m + k + 1) * m ^ r) (h3 73 6) (h3 76) ∧ F_X6_giveTo N (F_X6_give N D) (k : Int) (j : Int) h = J_X6_giveTo_42 N (F_X6_give N D) (k : Int) (j : Int) h3 := by
          have g8 : 0 ≤ (j : Int) ∧ (j : Int) < 8 := ⟨by omega, by omega⟩
          have g3 : 0 ≤ (k : Int) ∧ (k : Int) < 3 := ⟨by omega, by omega⟩
          have w1 : hw h 75 j (k : Int) 77 k = ps f m n (p * m ^ (r + 1)) j k := by rw [hw_ne (by omega)]; exact S k hk2
          have w2 : hw h 75 j (k : Int) 74 j = f j := by rw [hw_ne (by omega), F 74 j (by omega)]; exact h74 j (by omega)
          have w3 : w32 ((j : Int) + 1) = ((n - r : Nat) : Int) := by rw [inc (by omega)]; omega
          unfold F_X6_giveTo
          simp only [grd_t g8, grd_t g3, bnd_s, Int.toNat_natCast, w1, w2, w3]
          rw [w32_id (x := ps f m n (p * m ^ (r + 1)) j k + f j) ⟨by omega, by omega⟩, ← eh2, e77]
          by_cases z : h2 73 6 ≤ ps f m n (p * m ^ (r + 1)) j k + f j
          · rw [if_pos z]
            refine ⟨h2, F2, R2, S2, XB_skip hb B2 le1 (fun s a1 a2 _ => ?_), rfl⟩
            refine Int.le_trans z ?_
            have e1 : ps f m n s (j + 1) k = ps f m n (p * m ^ (r + 1)) j k + f j := by
              rw [ps_c (fun i hi => dg_sub hm.1 a1 a2 (show i + r < n by omega)), psn k, if_pos rfl]
            have e2 : ps f m n s (j + 1) k ≤ ps f m n s n k := by
              have := sm_mono (f := psf f m n s k) (fun i => (psf_b hf i).1) (j + 1) (n - (j + 1))
              rw [show j + 1 + (n - (j + 1)) = n by omega] at this
              exact this
            have e3 : ps f m n s n k ≤ lgj f m n s := fmx_ge (f := ps f m n s n) hk2
            omega
          · rw [if_neg z]
            obtain ⟨h3, c1, c2, c3, c4, c5⟩ := j_give hN hf hm hn h4 h5 h74 r D (p * m + k) h2 (by omega) (by omega) F2 R2 S2 B2
            rw [c1, bv_s]
            exact ⟨h3, c2, c3, c4, c5, rfl⟩
        obtain ⟨h3, c2, c3, c4, c5, c6⟩ := body
        have s3 : h3 77 k = ps f m n (p * m ^ (r + 1)) j k + f j := by rw [c4 k hk2, show n - r = j + 1 by omega, psn k, if_pos rfl]
        have t3 : h3 74 j = f j := by rw [c2 74 j (by omega)]; exact h74 j (by omega)
        obtain ⟨h4', eh4⟩ : ∃ h4, h4 = hw h3 77 k (ps f m n (p * m ^ (r + 1)) j k) := ⟨_, rfl⟩
        have ej : J_X6_giveTo_42 N (F_X6_give N D) (k : Int) (j : Int) h3 = some h4' := by
          unfold J_X6_giveTo_42
          rw [grd_t ⟨by omega, by omega⟩, grd_t ⟨by omega, by omega⟩, grd_t ⟨by omega, by omega⟩, bnd_s, Int.toNat_natCast, Int.toNat_natCast, s3, t3, w32_id ⟨by omega, by omega⟩, show ps f m n (p * m ^ (r + 1)) j k + f j - f j = ps f m n (p * m ^ (r + 1)) j k by omega, ← eh4]
        unfold L_X6_give_15
        rw [F 73 5 (by omega), h5, if_neg (by omega), c6, ej, bv_s, bnd_s, inc (by omega)]
        refine ih q (k + 1) h4' (by omega) (by omega) (fun c i z => by rw [eh4, hw_ne (by omega)]; exact c2 c i z) (fun i hi => ?_) (fun k' hk' => ?_) ?_
        · rw [eh4, hw_ne (by omega), c3 i (by omega), dgj i hi]
        · by_cases z : k = k'
          · subst z; rw [eh4, hw_eq]
          · rw [eh4, hw_ne (by omega), c4 k' hk', show n - r = j + 1 by omega, psn k', if_neg z, Int.add_zero]
        · rw [eh4, hw_ne (by omega), hw_c (by omega)]
          exact c5
    unfold F_X6_give O_X6_give
    rw [F 73 4 (by omega), h4, if_pos (by omega), eQ]
    exact loop m N 0 h (by omega) (by omega) F R S (by rw [← eP]; exact B)
/-- the reference's reckoning of a code -/
theorem l_cf {b k0 : Nat} (hb : b ^ k0 ≤ 1000000) (hb1 : 1 ≤ b) (hk0 : k0 ≤ 100) : ∀ q k : Nat, k ≤ k0 → k0 - k < q → L_X12_codesFor_4 N q (b : Int) (k0 : Int) ((b ^ k : Nat) : Int) (k : Int) h = some (((b ^ k0 : Nat) : Int), h)
  | 0, k, _, hf => absurd hf (by omega)
  | q + 1, k, hk, hf => by
    unfold L_X12_codesFor_4
    by_cases c : k = k0
    · subst c; rw [if_pos (by omega)]
    · have h1 : b ^ (k + 1) ≤ b ^ k0 := Nat.pow_le_pow_right hb1 (by omega)
      have e : ((b ^ k : Nat) : Int) * (b : Int) = ((b ^ (k + 1) : Nat) : Int) := by rw [Nat.pow_succ]; simp
      rw [if_neg (by omega), e, w32_id ⟨by omega, by omega⟩, bnd_s, bnd_s, inc (by omega)]
      exact l_cf hb hb1 hk0 q (k + 1) (by omega) (by omega)
theorem s_cf (hN : 1000000 ≤ N) {b k0 : Nat} (hb : b ^ k0 ≤ 1000000) (hb1 : 1 ≤ b) (hk0 : k0 ≤ 100) : F_X12_codesFor N (b : Int) (k0 : Int) h = some (((b ^ k0 : Nat) : Int), h) := l_cf hb hb1 hk0 N 0 (by omega) (by omega)
theorem l_lb3 (s : Nat → Int) (hm : m ≤ 3) (hs : ∀ k, k < m → h 123 k = s k) : ∀ q k : Nat, k ≤ m → m - k < q → L_X12_longestBy_101 N q (m : Int) (fmx s k) (k : Int) h = some (fmx s m, h)
  | 0, k, _, hf => absurd hf (by omega)
  | q + 1, k, hk, hf => by
    unfold L_X12_longestBy_101
    by_cases c : k = m
    · subst c; rw [if_pos (by omega)]
    · rw [if_neg (by omega), grd_t ⟨by omega, by omega⟩, Int.toNat_natCast, hs k (by omega), s_max, bd_s, bnd_s, inc (by omega)]
      exact l_lb3 s hm hs q (k + 1) (by omega) (by omega)
def LM (g h : Hp) : Prop := ∀ c j, ¬ (c = 119 ∨ c = 123) → h c j = g c j
theorem l_lb2 (hN : 1000000 ≤ N) (hf : ∀ k, 0 ≤ f k ∧ f k ≤ 255) (hm : 1 ≤ m ∧ m ≤ 3) (hn : 1 ≤ n ∧ n ≤ 8) (h96 : ∀ k, k < n → iand (g 96 k) 255 = f k) {c : Nat} (hc : c < 100000) :
    ∀ (r q : Nat) (h : Hp), r ≤ n → r < q → LM g h → (∀ k, k < m → h 123 k = ps f m n c n k - ps f m n c r k) → (∀ i, r ≤ i → i < n → h 119 i = (dg m n c i : Int)) → ∃ h', L_X12_longestBy_31 N q (m : Int) ((c / m ^ (n - r) : Nat) : Int) ((r : Int) - 1) h = some (lgj f m n c, h') ∧ LM g h' ∧ ∀ i, i < n → h' 119 i = (dg m n c i : Int)
  | _, 0, _, _, hq, _, _, _ => absurd hq (by omega)
  | 0, q + 1, h, _, _, F, S, R => by
    unfold L_X12_longestBy_31
    rw [if_pos (by omega)]
    refine ⟨h, ?_, F, fun i hi => R i (by omega) hi⟩
    exact l_lb3 (ps f m n c n) hm.2 (fun k hk => by
      have e0 : ps f m n c 0 k = 0 := rfl
      rw [S k hk, e0, Int.sub_zero]) N 0 (by omega) (by omega)
  | r + 1, q + 1, h, hr, hq, F, S, R => by
    have hdv : c / m ^ (n - (r + 1)) ≤ c := Nat.div_le_self _ _
    obtain ⟨l, el⟩ : ∃ l, l = c / m ^ (n - (r + 1)) := ⟨_, rfl⟩
    have ed : l % m = dg m n c r := by rw [el]; unfold dg; rw [show n - (r + 1) = n - 1 - r by omega]
    have e2 : l / m = c / m ^ (n - r) := by rw [el, Nat.div_div_eq_div_mul, ← Nat.pow_succ, show (n - (r + 1)).succ = n - r by omega]
    have hd : dg m n c r < m := dg_lt hm.1
    have er : irem (l : Int) (m : Int) = (dg m n c r : Int) := by rw [irem_pos ⟨by omega, by omega⟩ ⟨by omega, by omega⟩, ← ed]; rfl
    have ei : idiv (l : Int) (m : Int) = ((c / m ^ (n - r) : Nat) : Int) := by rw [idiv_pos ⟨by omega, by omega⟩ ⟨by omega, by omega⟩, ← e2]; rfl
    have g8 : 0 ≤ (r : Int) ∧ (r : Int) < 8 := ⟨by omega, by omega⟩
    have g260 : 0 ≤ (r : Int) ∧ (r : Int) < 260 := ⟨by omega, by omega⟩
    have gm : (m : Int) ≠ 0 := by omega
    have gd : 0 ≤ (dg m n c r : Int) ∧ (dg m n c r : Int) < 3 := ⟨by omega, by omega⟩
    obtain ⟨d, edd⟩ : ∃ d, d = dg m n c r := ⟨_, rfl⟩
    have pn := ps_b (m := m) (n := n) hf (c := c) (k := d) n
    have pr := ps_b (m := m) (n := n) hf (c := c) (k := d) (r + 1)
    have fr := hf r
    have psr : ∀ k, ps f m n c (r + 1) k = ps f m n c r k + (if d = k then f r else 0) := fun k => by
      have : ps f m n c (r + 1) k = ps f m n c r k + psf f m n c k r := rfl
      rw [this]; unfold psf; rw [edd]
    have psr2 := psr d
    rw [if_pos rfl] at psr2
    obtain ⟨h1, eh1⟩ : ∃ h1, h1 = hw (hw h 119 r (d : Int)) 123 d (ps f m n c n d - ps f m n c r d) := ⟨_, rfl⟩
    have k1 : hw h 119 r (d : Int) 123 d = ps f m n c n d - ps f m n c (r + 1) d := by rw [hw_ne (by omega)]; exact S d (by omega)
    have k2 : iand (hw h 119 r (d : Int) 96 r) 255 = f r := by rw [hw_ne (by omega), F 96 r (by omega)]; exact h96 r (by omega)
    obtain ⟨h', a1, a2, a3⟩ := l_lb2 hN hf hm hn h96 hc r q h1 (by omega) (by omega) (fun c i z => by rw [eh1, hw_ne (by omega), hw_ne (by omega)]; exact F c i z) (fun k hk => by
      by_cases z : d = k
      · subst z; rw [eh1, hw_eq]
      · have := psr k
        rw [if_neg z] at this
        rw [eh1, hw_ne (by omega), hw_ne (by omega), S k hk]
        omega) (fun i h1 h2 => by
      by_cases z : i = r
      · subst z; rw [eh1, hw_ne (by omega), hw_eq, edd]
      · rw [eh1, hw_ne (by omega), hw_ne (by omega)]; exact R i (by omega) h2)
    refine ⟨h', ?_, a2, a3⟩
    unfold L_X12_longestBy_31
    rw [show ((r + 1 : Nat) : Int) - 1 = (r : Int) by omega, if_neg (by omega), ← el]
    simp only [grd_t g8, grd_t g260, grd_t gm, bnd_s, Int.toNat_natCast, er, ei, hw_eq, grd_t gd]
    rw [← edd, k1, k2, w32_id (x := (r : Int) + -1) ⟨by omega, by omega⟩, w32_id ⟨by omega, by omega⟩, show ps f m n c n d - ps f m n c (r + 1) d + f r = ps f m n c n d - ps f m n c r d by omega, ← eh1, show (r : Int) + -1 = (r : Int) - 1 by omega]
    exact a1
theorem l_lb1 (hN : 1000000 ≤ N) (hf : ∀ k, 0 ≤ f k ∧ f k ≤ 255) (hm : 1 ≤ m ∧ m ≤ 3) (hn : 1 ≤ n ∧ n ≤ 8) (h96 : ∀ k, k < n → iand (g 96 k) 255 = f k) {c : Nat} (hc : c < 100000) :
    ∀ (q k : Nat) (h : Hp), k ≤ m → m - k < q → LM g h → (∀ i, i < k → h 123 i = 0) → ∃ h', L_X12_longestBy_6 N q (n : Int) (m : Int) (c : Int) (k : Int) h = some (lgj f m n c, h') ∧ LM g h' ∧ ∀ i, i < n → h' 119 i = (dg m n c i : Int)
  | 0, k, _, _, hq, _, _ => absurd hq (by omega)
  | q + 1, k, h, hk, hq, F, Z => by
    unfold L_X12_longestBy_6
    by_cases e : k = m
    · subst e
      obtain ⟨h', a1, a2, a3⟩ := l_lb2 hN hf hm hn h96 hc n N h (Nat.le_refl _) (by omega) F (fun k hk => by rw [Z k hk]; omega) (fun i h1 h2 => absurd h1 (by omega))
      rw [Nat.sub_self, Nat.pow_zero, Nat.div_one] at a1
      rw [if_pos (by omega), w32_id ⟨by omega, by omega⟩, bnd_s]
      exact ⟨h', a1, a2, a3⟩
    · rw [if_neg (by omega), grd_t ⟨by omega, by omega⟩, bnd_s, bnd_s, inc (by omega), Int.toNat_natCast]
      exact l_lb1 hN hf hm hn h96 hc q (k + 1) (hw h 123 k 0) (by omega) (by omega) (fun c i z => by rw [hw_ne (by omega)]; exact F c i z) (fun i hi => by
        by_cases z : i = k
        · subst z; rw [hw_eq]
        · rw [hw_ne (by omega)]; exact Z i (by omega))
theorem s_lb (hN : 1000000 ≤ N) (hf : ∀ k, 0 ≤ f k ∧ f k ≤ 255) (hm : 1 ≤ m ∧ m ≤ 3) (hn : 1 ≤ n ∧ n ≤ 8) (h96 : ∀ k, k < n → iand (g 96 k) 255 = f k) {c : Nat} (hc : c < 100000) (F : LM g h) : ∃ h', F_X12_longestBy N (c : Int) (n : Int) (m : Int) h = some (lgj f m n c, h') ∧ LM g h' ∧ ∀ i, i < n → h' 119 i = (dg m n c i : Int) := l_lb1 hN hf hm hn h96 hc N 0 h (by omega) (by omega) F (fun i hi => absurd hi (by omega))
theorem pow3 (hm : 1 ≤ m ∧ m ≤ 3) (hn : 1 ≤ n ∧ n ≤ 8) : m ^ n ≤ 6561 := Nat.le_trans (Nat.pow_le_pow_left hm.2 n) (Nat.pow_le_pow_right (n := 3) (by decide) hn.2)
theorem l_jm (hN : 1000000 ≤ N) (hf : ∀ k, 0 ≤ f k ∧ f k ≤ 255) (hm : 1 ≤ m ∧ m ≤ 3) (hn : 1 ≤ n ∧ n ≤ 8) (h96 : ∀ k, k < n → iand (g 96 k) 255 = f k) (w : Int) (hw0 : w = 10 ∨ ∃ v : Nat, w = (v : Int) ∧ v < n) {b : Nat} (hb : Bst (fun _ => True) (lgj f m n) (m ^ n) b) :
    ∀ (d q c : Nat) (x4 x5 : Int) (h : Hp), c + d = m ^ n → d < q → LM g h → MB (fun _ => True) (lgj f m n) c x4 x5 → ∃ h', L_X12_jobs_64 N q (n : Int) (m : Int) w x4 x5 (c : Int) h = some (if w = 10 then lgj f m n b else (dg m n b w.toNat : Int), h') ∧ LM g h'
  | _, 0, _, _, _, _, _, hq, _, _ => absurd hq (by omega)
  | d, q + 1, c, x4, x5, h, hc, hq, F, B => by
    have p3 := pow3 hm hn
    have hbb := fun s (_ : True) => (show lgj f m n s < 1000000 by have := lgj_b (m := m) hf hn.2 s; omega)
    unfold L_X12_jobs_64
    rw [s_cf hN (by omega) hm.1 (by omega), bd_s]
    cases d with
    | zero =>
      obtain rfl : c = m ^ n := by omega
      rcases B with ⟨z, -⟩ | ⟨b', z1, z2, z3⟩
      · exact absurd trivial (z b hb.1)
      obtain rfl := Bst_u z1 hb
      rw [if_pos (by omega)]
      rcases hw0 with rfl | ⟨v, rfl, hv⟩
      · rw [if_pos rfl, if_pos rfl]
        exact ⟨h, by rw [z3], F⟩
      · obtain ⟨h', a1, a2, a3⟩ := s_lb (N := N) (c := b') hN hf hm hn h96 (by have := hb.1; omega) F
        rw [if_neg (by omega), if_neg (by omega), z2, a1, bd_s, grd_t ⟨by omega, by omega⟩, Int.toNat_natCast, a3 v hv]
        exact ⟨h', rfl, a2⟩
    | succ d =>
      obtain ⟨h', a1, a2, a3⟩ := s_lb (N := N) (c := c) hN hf hm hn h96 (by omega) F
      unfold J_X12_jobs_102
      simp only [bnd_s]
      rw [if_neg (by omega), a1, bd_s, inc (by omega)]
      by_cases z : lgj f m n c < x5
      · rw [if_pos z]
        exact l_jm hN hf hm hn h96 w hw0 hb d q (c + 1) _ _ h' (by omega) (by omega) a2 (MB_take B trivial z)
      · rw [if_neg z]
        exact l_jm hN hf hm hn h96 w hw0 hb d q (c + 1) _ _ h' (by omega) (by omega) a2 (MB_skip hbb B (fun _ => by omega))
end JB
section JF
variable {N m n L : Nat} {f : Nat → Int} {g h : Hp}
theorem l_f22 (hN : 1000000 ≤ N) (hn : n ≤ 8) (hL : L ≤ 260) (hnL : n ≤ L) (h4 : g 73 4 = (n : Int)) (e1 : g 41 1 = (L : Int)) (h42 : ∀ k, k < n → g 42 k = f k) : ∀ (q k : Nat) (h : Hp), k ≤ n → n - k < q → (∀ c j, ¬ c = 74 → h c j = g c j) → (∀ i, i < k → h 74 i = f i) → ∃ h', (∀ c j, ¬ c = 74 → h' c j = g c j) ∧ (∀ i, i < n → h' 74 i = f i) ∧ L_X6_find_22 N q (k : Int) h = L_X6_find_53 N N 0 h'
  | 0, k, _, _, hq, _, _ => absurd hq (by omega)
  | q + 1, k, h, hk, hq, F, Z => by
    unfold L_X6_find_22
    rw [F 73 4 (by omega), h4]
    by_cases e : k = n
    · subst e
      rw [if_pos (by omega)]
      exact ⟨h, F, Z, rfl⟩
    · rw [if_neg (by omega), s_at (n := L) (by rw [F 41 1 (by omega)]; exact e1) hL ⟨by omega, by omega⟩, bd_s, Int.toNat_natCast, grd_t ⟨by omega, by omega⟩, bnd_s, bnd_s, inc (by omega), F 42 k (by omega), h42 k (by omega)]
      exact l_f22 hN hn hL hnL h4 e1 h42 q (k + 1) (hw h 74 k (f k)) (by omega) (by omega) (fun c i z => by rw [hw_ne (by omega)]; exact F c i z) (fun i hi => by
        by_cases z : i = k
        · subst z; rw [hw_eq]
        · rw [hw_ne (by omega)]; exact Z i (by omega))
theorem l_f53 (hN : 1000000 ≤ N) (hm : m ≤ 3) (h5 : g 73 5 = (m : Int)) : ∀ (q k : Nat) (h : Hp), k ≤ m → m - k < q → (∀ c j, ¬ c = 77 → h c j = g c j) → (∀ i, i < k → h 77 i = 0) → ∃ h', (∀ c j, ¬ c = 77 → h' c j = g c j) ∧ (∀ i, i < m → h' 77 i = 0) ∧ L_X6_find_53 N q (k : Int) h = bv (F_X6_give N 10 0 (hw h' 73 6 2147483647)) fun h2 => some h2
  | 0, k, _, _, hq, _, _ => absurd hq (by omega)
  | q + 1, k, h, hk, hq, F, Z => by
    unfold L_X6_find_53
    rw [F 73 5 (by omega), h5]
    by_cases e : k = m
    · subst e
      rw [if_pos (by omega), bnd_s]
      exact ⟨h, F, Z, rfl⟩
    · rw [if_neg (by omega), grd_t ⟨by omega, by omega⟩, bnd_s, bnd_s, inc (by omega), Int.toNat_natCast]
      exact l_f53 hN hm h5 q (k + 1) (hw h 77 k 0) (by omega) (by omega) (fun c i z => by rw [hw_ne (by omega)]; exact F c i z) (fun i hi => by
        by_cases z : i = k
        · subst z; rw [hw_eq]
        · rw [hw_ne (by omega)]; exact Z i (by omega))
theorem s_find (hN : 1000000 ≤ N) (hf : ∀ k, 0 ≤ f k ∧ f k ≤ 255) (hm : 1 ≤ m ∧ m ≤ 3) (hn : 1 ≤ n ∧ n ≤ 8) (hL : L ≤ 260) (hnL : n ≤ L) (e1 : h 41 1 = (L : Int)) (h42 : ∀ k, k < n → h 42 k = f k) : ∃ h' b, F_X6_find N (n : Int) (m : Int) h = some h' ∧ (∀ c j, ¬ (73 ≤ c ∧ c ≤ 77) → h' c j = h c j) ∧ Bst (fun _ => True) (lgj f m n) (m ^ n) b ∧ h' 73 6 = lgj f m n b ∧ ∀ k, k < n → h' 76 k = (dg m n b k : Int) := by
  obtain ⟨ga, ega⟩ : ∃ ga, ga = hw (hw h 73 4 (n : Int)) 73 5 (m : Int) := ⟨_, rfl⟩
  have fa : ∀ c j, ¬ (c = 73 ∧ (j = 4 ∨ j = 5)) → ga c j = h c j := fun c j z => by rw [ega, hw_ne (by omega), hw_ne (by omega)]
  have a4 : ga 73 4 = (n : Int) := by rw [ega, hw_ne (by omega), hw_eq]
  have a5 : ga 73 5 = (m : Int) := by rw [ega, hw_eq]
  obtain ⟨hb, b1, b2, b3⟩ := l_f22 (N := N) (g := ga) (f := f) hN hn.2 hL hnL a4 (by rw [fa 41 1 (by omega)]; exact e1) (fun k hk => by rw [fa 42 k (by omega)]; exact h42 k hk) N 0 ga (by omega) (by omega) (fun _ _ _ => rfl) (fun i hi => absurd hi (by omega))
  obtain ⟨hc, c1, c2, c3⟩ := l_f53 (N := N) (g := hb) hN hm.2 (by rw [b1 73 5 (by omega)]; exact a5) N 0 hb (by omega) (by omega) (fun _ _ _ => rfl) (fun i hi => absurd hi (by omega))
  obtain ⟨gd, egd⟩ : ∃ gd, gd = hw hc 73 6 2147483647 := ⟨_, rfl⟩
  have fd : ∀ c j, ¬ (c = 73 ∧ j = 6) → gd c j = hc c j := fun c j z => by rw [egd, hw_ne z]
  obtain ⟨h', d1, d2, d3, d4, d5⟩ := j_give (N := N) (g := gd) (f := f) hN hf hm hn (by rw [fd 73 4 (by omega), c1 73 4 (by omega), b1 73 4 (by omega)]; exact a4) (by rw [fd 73 5 (by omega), c1 73 5 (by omega), b1 73 5 (by omega)]; exact a5) (fun k hk => by rw [fd 74 k (by omega), c1 74 k (by omega)]; exact b2 k hk) n 10 0 gd (by omega) (Nat.le_refl _) (fun _ _ _ => rfl) (fun i hi => absurd hi (by omega)) (fun k hk => by rw [Nat.sub_self, fd 77 k (by omega), c2 k hk]; rfl) (Or.inl ⟨fun s hs => absurd hs (by omega), by rw [egd, hw_eq]⟩)
  rw [Nat.sub_self] at d1
  rw [Nat.zero_add, Nat.one_mul] at d5
  have p0 : 0 < m ^ n := Nat.pow_pos hm.1
  rcases d5 with ⟨z, -⟩ | ⟨b, z1, z2, z3⟩
  · exact absurd trivial (z 0 p0)
  refine ⟨h', b, ?_, fun c j z => by rw [d2 c j (by omega), fd c j (by omega), c1 c j (by omega), b1 c j (by omega), fa c j (by omega)], z1, z2, z3⟩
  unfold F_X6_find
  have i1 : imin (n : Int) 8 = (n : Int) := by unfold imin; rw [if_neg (by omega)]
  have i2 : imin (m : Int) 3 = (m : Int) := by unfold imin; rw [if_neg (by omega)]
  rw [bnd_s, bnd_s, i1, i2, ← ega]
  have b3 : L_X6_find_22 N N 0 ga = L_X6_find_53 N N 0 hb := b3
  have c3 : L_X6_find_53 N N 0 hb = bv (F_X6_give N 10 0 (hw hc 73 6 2147483647)) fun h2 => some h2 := c3
  have d1 : F_X6_give N 10 0 gd = some h' := d1
  rw [b3, c3, ← egd, d1, bv_s]
end JF
theorem op_jobs {N : Nat} (hN : 1000000 ≤ N) : ∀ a1 : Int, inR a1 → ∀ a2 : Int, inR a2 → ∀ a3 : Int, inR a3 → Sm (Inv N) (F_X11_jobs N a1 a2 a3) (F_X12_jobs N a1 a2 a3) := by
  intro k _ m _ w _ h hok hI
  obtain ⟨t, i1, i2, i3, i4, i5, ⟨L, hL, e1, e2, hb⟩, i7, i8, i9, i10⟩ := id hI
  unfold F_X11_jobs F_X12_jobs F_X10_clear
  rw [s_isWithin, bd_s]
  by_cases q1 : 1 ≤ k ∧ k ≤ 8
  rotate_left
  · exact ⟨-1, h, h, by rw [if_neg q1, if_pos rfl], by rw [s_in, bd_s, if_neg q1, if_pos rfl], hI⟩
  rw [if_pos q1, if_neg (by decide), s_holds e1, bd_s]
  by_cases q2 : k ≤ (L : Int)
  rotate_left
  · exact ⟨-1, h, h, by rw [if_neg q2, if_pos rfl], by rw [s_in, bd_s, if_pos q1, if_neg (by decide), e2, if_neg q2], hI⟩
  rw [if_pos q2, if_neg (by decide)]
  obtain ⟨n, rfl⟩ : ∃ n : Nat, k = (n : Int) := ⟨k.toNat, by omega⟩
  have w1 : w32 ((n : Int) - 1) = (n : Int) - 1 := w32_id ⟨by omega, by omega⟩
  unfold F_X11_partJobs
  by_cases q3 : (1 ≤ m ∧ m ≤ 3) ∧ (w = 10 ∨ (0 ≤ w ∧ w ≤ (n : Int) - 1))
  rotate_left
  · refine ⟨-4, hw h 41 1 0, hw (hw h 41 1 0) 83 15 0, ?_, ?_, ?_⟩
    · rw [s_isWithin, bd_s]
      by_cases z : 1 ≤ m ∧ m ≤ 3
      · rw [if_pos z, if_neg (by decide), if_neg (fun y => q3 ⟨z, Or.inl y⟩), s_isWithin, bd_s, w1, if_neg (fun y => q3 ⟨z, Or.inr y⟩), if_pos rfl, bd_s, bnd_s, bv_s]
      · rw [if_neg z, if_pos rfl, bd_s, bnd_s, bv_s]
    · rw [s_in, bd_s, if_pos q1, if_neg (by decide), hw_ne (by omega), e2, if_pos q2, bnd_s, s_in, bd_s]
      by_cases z : 1 ≤ m ∧ m ≤ 3
      · rw [if_pos z, if_neg (by decide), if_neg (fun y => q3 ⟨z, Or.inl y⟩), s_in, bd_s, w1, if_neg (fun y => q3 ⟨z, Or.inr y⟩), if_pos rfl]
      · rw [if_neg z, if_pos rfl]
    · refine hI.clr (fun c j _ hc => ?_) (by rw [hw_ne (by omega), hw_eq]) (by rw [hw_eq])
      unfold tpx at hc
      rw [hw_ne (by omega), hw_ne (by omega)]
  obtain ⟨q3, q4⟩ := q3
  obtain ⟨m, rfl⟩ : ∃ n : Nat, m = (n : Int) := ⟨m.toNat, by omega⟩
  obtain ⟨f, ef⟩ : ∃ f : Nat → Int, f = fun k => if k < n then h 42 k else 0 := ⟨_, rfl⟩
  have hf : ∀ k, 0 ≤ f k ∧ f k ≤ 255 := fun k => by
    rw [ef]
    by_cases z : k < n
    · have := hb k (by omega)
      simp only [if_pos z]
      omega
    · simp only [if_neg z]
      omega
  have f42 : ∀ k, k < n → h 42 k = f k := fun k hk => by rw [ef]; simp only [if_pos hk]
  obtain ⟨h', b, a1, a2, a3, a4, a5⟩ := s_find (N := N) (h := h) (f := f) (m := m) (n := n) (L := L) hN hf ⟨by omega, by omega⟩ ⟨by omega, by omega⟩ hL (by omega) e1 f42
  obtain ⟨gb, egb⟩ : ∃ gb, gb = hw (hw h' 41 1 0) 83 15 0 := ⟨_, rfl⟩
  have hw4 : w = 10 ∨ ∃ v : Nat, w = (v : Int) ∧ v < n := by
    rcases q4 with z | z
    · exact Or.inl z
    · exact Or.inr ⟨w.toNat, by omega, by omega⟩
  have g96 : ∀ k, k < n → iand (gb 96 k) 255 = f k := fun k hk => by
    rw [egb, hw_ne (by omega), hw_ne (by omega), a2 96 k (by omega), ← f42 k hk]
    exact tp_and hb (by omega)
  obtain ⟨h2, c1, c2⟩ := l_jm (N := N) (g := gb) (f := f) (m := m) (n := n) hN hf ⟨by omega, by omega⟩ ⟨by omega, by omega⟩ g96 w hw4 a3 (m ^ n) N 0 (-1) 1000000 gb (by omega) (by have := pow3 (m := m) (n := n) ⟨by omega, by omega⟩ ⟨by omega, by omega⟩; omega) (fun _ _ _ => rfl) (Or.inl ⟨fun s hs => absurd hs (by omega), rfl⟩)
  refine ⟨if w = 10 then lgj f m n b else (dg m n b w.toNat : Int), hw h' 41 1 0, h2, ?_, ?_, ?_⟩
  · have eJ : J_X11_partJobs_29 N (n : Int) (m : Int) w h = some (if w = 10 then lgj f m n b else (dg m n b w.toNat : Int), h') := by
      unfold J_X11_partJobs_29
      rw [a1, bv_s]
      rcases hw4 with rfl | ⟨v, rfl, hv⟩
      · unfold F_X6_longest
        rw [if_pos rfl, if_pos rfl, bd_s, a4]
      · unfold F_X6_cartOf
        rw [if_neg (by omega), if_neg (by omega), s_isWithin, bd_s, if_pos (show 0 ≤ (v : Int) ∧ (v : Int) ≤ 7 from ⟨by omega, by omega⟩), if_neg (by decide), grd_t ⟨by omega, by omega⟩, bd_s, Int.toNat_natCast, a5 v hv]
    rw [s_isWithin, bd_s, if_pos q3, if_neg (by decide)]
    by_cases z : w = 10
    · rw [if_pos z, eJ, bd_s, bnd_s, bv_s]
    · rw [if_neg z, s_isWithin, bd_s, w1, if_pos (q4.resolve_left z), if_neg (by decide), eJ, bd_s, bnd_s, bv_s]
  · have eJ : J_X12_jobs_54 N (n : Int) (m : Int) w gb = some (if w = 10 then lgj f m n b else (dg m n b w.toNat : Int), h2) := c1
    rw [s_in, bd_s, if_pos q1, if_neg (by decide), hw_ne (by omega), a2 83 15 (by omega), e2, if_pos q2, bnd_s, s_in, bd_s, if_pos q3, if_neg (by decide), ← egb]
    by_cases z : w = 10
    · rw [if_pos z, eJ]
    · rw [if_neg z, s_in, bd_s, w1, if_pos (q4.resolve_left z), if_neg (by decide), eJ]
  · refine hI.clr (fun c j hs hc => ?_) (by rw [c2 41 1 (by omega), egb, hw_ne (by omega), hw_eq]) (by rw [c2 83 15 (by omega), egb, hw_eq])
    unfold scr at hs
    unfold tpx at hc
    rw [c2 c j (by omega), egb, hw_ne (by omega), hw_ne (by omega), a2 c j (by omega)]
