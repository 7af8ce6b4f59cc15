/-! FEED, COUNT -/
theorem ib_mod (x : Int) : i2b x = x.bmod 256 := by
  unfold i2b
  rw [Int8.toInt_toInt32, Int32.toInt_toInt8, Int32.toInt_ofInt]
  exact Int.bmod_bmod_of_dvd (by decide)
theorem shr_f {x : Int} (hx : inR x) (s : Nat) (hs : s < 32) : ishr x (s : Int) = x / ((2 ^ s : Nat) : Int) := by
  unfold ishr
  show (Int32.ofInt x >>> (nI s &&& 31)).toBitVec.toInt = _
  rw [Int32.toBitVec_shiftRight, BitVec.sshiftRight_eq', bs_l s hs, BitVec.toInt_sshiftRight]
  show (Int32.ofInt x).toInt >>> s = _
  rw [toR hx, Int.shiftRight_eq_div_pow]
theorem nt_of {x : Int} (hx : inR x) : (Int32.ofInt x).toUInt32.toNat = (x % 4294967296).toNat := by
  have : (Int32.ofInt x).toUInt32.toNat = (Int32.ofInt x).toBitVec.toNat := rfl
  rw [this, Int32.toBitVec_ofInt, BitVec.toNat_ofInt]
  rfl
theorem bw_l : ∀ n : Nat, n < 32 → ((nI n).toUInt32 &&& Int32.toUInt32 31).toNat % 32 = n := by decide +kernel
theorem ushr_f {x : Int} (hx : inR x) (s : Nat) (hs : s < 32) : iand (iushr x (s : Int)) 255 = (((x % 4294967296).toNat / 2 ^ s % 256 : Nat) : Int) := by
  have e : iushr x (s : Int) = (((Int32.ofInt x).toUInt32 >>> ((nI s).toUInt32 &&& Int32.toUInt32 31)).toInt32).toInt := rfl
  unfold iand
  rw [e, Int32.ofInt_toInt]
  have en : (((Int32.ofInt x).toUInt32 >>> ((nI s).toUInt32 &&& Int32.toUInt32 31)).toInt32 &&& Int32.ofInt 255).toBitVec.toNat = (x % 4294967296).toNat / 2 ^ s % 256 := by
    rw [Int32.toBitVec_and, BitVec.toNat_and]
    have e1 : (((Int32.ofInt x).toUInt32 >>> ((nI s).toUInt32 &&& Int32.toUInt32 31)).toInt32).toBitVec.toNat = (x % 4294967296).toNat / 2 ^ s := by
      show ((Int32.ofInt x).toUInt32 >>> ((nI s).toUInt32 &&& Int32.toUInt32 31)).toNat = _
      rw [UInt32.toNat_shiftRight, bw_l s hs, nt_of hx, Nat.shiftRight_eq_div_pow]
    have e2 : (Int32.ofInt 255).toBitVec.toNat = 2 ^ 8 - 1 := by decide
    rw [e1, e2, Nat.and_two_pow_sub_one_eq_mod]
  show (_ : Int32).toBitVec.toInt = _
  rw [BitVec.toInt_eq_toNat_of_lt (by omega), en]
/-- the byte that is fed -/
theorem fed {x : Int} (hx : inR x) (s : Nat) (hs : s = 0 ∨ s = 8 ∨ s = 16 ∨ s = 24) : 0 ≤ iand (iushr x (s : Int)) 255 ∧ iand (iushr x (s : Int)) 255 ≤ 255 ∧ i2b (i2b (ishr x (s : Int))) = if iand (iushr x (s : Int)) 255 < 128 then iand (iushr x (s : Int)) 255 else iand (iushr x (s : Int)) 255 - 256 := by
  have hx2 := hx
  unfold inR at hx2
  rw [ushr_f hx s (by omega), shr_f hx s (by omega), ib_mod, ib_mod, Int.bmod_bmod]
  refine ⟨by omega, by omega, ?_⟩
  unfold Int.bmod
  rcases hs with rfl | rfl | rfl | rfl <;> simp only [Nat.reducePow] <;> omega
def wX (h : Hp) (k : Nat) (v : Int) : Hp := hw (hw h 42 k v) 41 1 ((k + 1 : Nat) : Int)
def wM (h : Hp) (k : Nat) (v : Int) : Hp := hw (hw h 96 k v) 83 15 ((k + 1 : Nat) : Int)
theorem x_st {N f k : Nat} {x s : Int} {h : Hp} (hs : 0 ≤ s ∧ s ≤ 24) (e : h 41 1 = (k : Int)) (hk : k < 260) : L_X10_addWord_3 N (f + 1) x s h = L_X10_addWord_3 N f x (s - 8) (wX h k (iand (iushr x s) 255)) := by
  conv => lhs; unfold L_X10_addWord_3
  rw [if_neg (by omega), e, if_neg (by omega), grd_t ⟨by omega, by omega⟩, bnd_s, bnd_s, hw_ne (by omega), e, Int.toNat_natCast, inc (by omega)]
  unfold J_X10_addWord_43
  rw [bnd_s, w32_id ⟨by omega, by omega⟩]
  rfl
theorem m_st {N f k : Nat} {x s : Int} {h : Hp} (hs : 0 ≤ s ∧ s ≤ 3) (e : h 83 15 = (k : Int)) (hk : k < 260) : L_X12_types_2 N (f + 1) x s h = L_X12_types_2 N f x (s - 1) (wM h k (i2b (i2b (ishr x (8 * s))))) := by
  conv => lhs; unfold L_X12_types_2
  rw [if_neg (by omega), e, grd_t ⟨by omega, by omega⟩, bnd_s, bnd_s, bnd_s, hw_ne (by omega), e, Int.toNat_natCast, inc (by omega), w32_id ⟨by omega, by omega⟩, w32_id ⟨by omega, by omega⟩]
  rfl
theorem wX_n {h : Hp} {k : Nat} {v : Int} : wX h k v 41 1 = ((k + 1 : Nat) : Int) := hw_eq
theorem wM_n {h : Hp} {k : Nat} {v : Int} : wM h k v 83 15 = ((k + 1 : Nat) : Int) := hw_eq
def X4 (h : Hp) (n : Nat) (x : Int) : Hp := wX (wX (wX (wX h n (iand (iushr x (24 : Nat)) 255)) (n + 1) (iand (iushr x (16 : Nat)) 255)) (n + 2) (iand (iushr x (8 : Nat)) 255)) (n + 3) (iand (iushr x (0 : Nat)) 255)
def M4 (h : Hp) (n : Nat) (x : Int) : Hp := wM (wM (wM (wM h n (i2b (i2b (ishr x (24 : Nat))))) (n + 1) (i2b (i2b (ishr x (16 : Nat))))) (n + 2) (i2b (i2b (ishr x (8 : Nat))))) (n + 3) (i2b (i2b (ishr x (0 : Nat))))
theorem x_word {N : Nat} (hN : 1000000 ≤ N) {x : Int} {h : Hp} {n : Nat} (hn : n + 4 ≤ 260) (e : h 41 1 = (n : Int)) : F_X10_addWord N x h = some (X4 h n x) := by
  unfold F_X10_addWord
  obtain ⟨M, hM⟩ : ∃ M, N = M + 1 + 1 + 1 + 1 + 1 := ⟨N - 5, by omega⟩
  conv => lhs; arg 2; rw [hM]
  rw [x_st (by omega) e (by omega), x_st (by omega) wX_n (by omega), x_st (by omega) wX_n (by omega), x_st (by omega) wX_n (by omega)]
  unfold L_X10_addWord_3
  rw [if_pos (by decide)]
  rfl
theorem m_word {N : Nat} (hN : 1000000 ≤ N) {x : Int} {h : Hp} {n : Nat} (hn : n + 4 ≤ 260) (e : h 83 15 = (n : Int)) : F_X12_types N x h = some (M4 h n x) := by
  unfold F_X12_types
  obtain ⟨M, hM⟩ : ∃ M, N = M + 1 + 1 + 1 + 1 + 1 := ⟨N - 5, by omega⟩
  conv => lhs; arg 2; rw [hM]
  rw [m_st (by omega) e (by omega), m_st (by omega) wM_n (by omega), m_st (by omega) wM_n (by omega), m_st (by omega) wM_n (by omega)]
  unfold L_X12_types_2
  rw [if_pos (by decide)]
  rfl
/-- how the tapes stand to each other -/
def T2 (h g : Hp) (n : Nat) : Prop := n ≤ 260 ∧ h 41 1 = (n : Int) ∧ g 83 15 = (n : Int) ∧ ∀ j, j < n → 0 ≤ h 42 j ∧ h 42 j ≤ 255 ∧ g 96 j = (if h 42 j < 128 then h 42 j else h 42 j - 256)
theorem T2.st {h g : Hp} {n : Nat} {x : Int} (H : T2 h g n) (hn : n + 1 ≤ 260) (hx : inR x) (s : Nat) (hs : s = 0 ∨ s = 8 ∨ s = 16 ∨ s = 24) : T2 (wX h n (iand (iushr x (s : Nat)) 255)) (wM g n (i2b (i2b (ishr x (s : Nat))))) (n + 1) := by
  obtain ⟨h1, h2, h3, h4⟩ := H
  refine ⟨hn, wX_n, wM_n, fun j hj => ?_⟩
  have e1 : ∀ v, wX h n v 42 j = if j = n then v else h 42 j := fun v => by simp [wX, hw]
  have e2 : ∀ v, wM g n v 96 j = if j = n then v else g 96 j := fun v => by simp [wM, hw]
  rw [e1, e2]
  by_cases q : j = n
  · rw [if_pos q, if_pos q]
    exact fed hx s hs
  · rw [if_neg q, if_neg q]
    exact h4 j (by omega)
def fr1 (h h' : Hp) : Prop := ∀ c j, ¬ c = 42 → ¬ (c = 41 ∧ j = 1) → h' c j = h c j
def fr2 (h h' : Hp) : Prop := ∀ c j, ¬ c = 96 → ¬ (c = 83 ∧ j = 15) → h' c j = h c j
theorem fr1_w {h h' : Hp} {n : Nat} {v : Int} (H : fr1 h h') : fr1 h (wX h' n v) := fun c j a b => by
  unfold wX
  rw [hw_ne (by omega), hw_ne (by omega)]
  exact H c j a b
theorem fr2_w {h h' : Hp} {n : Nat} {v : Int} (H : fr2 h h') : fr2 h (wM h' n v) := fun c j a b => by
  unfold wM
  rw [hw_ne (by omega), hw_ne (by omega)]
  exact H c j a b
theorem T2.w {h g : Hp} {n : Nat} {x : Int} (hx : inR x) (hn : n + 4 ≤ 260) (H : T2 h g n) : T2 (X4 h n x) (M4 g n x) (n + 4) :=
  (((H.st (by omega) hx 24 (by omega)).st (by omega) hx 16 (by omega)).st (by omega) hx 8 (by omega)).st (by omega) hx 0 (by omega)
theorem fr1_4 {h h' : Hp} {n : Nat} {x : Int} (H : fr1 h h') : fr1 h (X4 h' n x) := fr1_w (fr1_w (fr1_w (fr1_w H)))
theorem fr2_4 {h h' : Hp} {n : Nat} {x : Int} (H : fr2 h h') : fr2 h (M4 h' n x) := fr2_w (fr2_w (fr2_w (fr2_w H)))
theorem op_feed {N : Nat} (hN : 1000000 ≤ N) : ∀ a1 : Int, inR a1 → ∀ a2 : Int, inR a2 → ∀ a3 : Int, inR a3 → ∀ a4 : Int, inR a4 → ∀ a5 : Int, inR a5 → Sm (Inv N) (F_X11_feed N a1 a2 a3 a4 a5) (F_X12_feed N a1 a2 a3 a4 a5) := by
  intro a1 r1 a2 r2 a3 r3 a4 r4 a5 r5 h hok hI
  obtain ⟨t, i1, i2, i3, i4, i5, ⟨n, hn, e1, e2, hb⟩, i7, i8, i9, i10⟩ := id hI
  unfold F_X11_feed F_X12_feed F_X10_hasRoomFor F_X10_length
  by_cases q : n + 20 ≤ 260
  · obtain ⟨h5, d5⟩ : ∃ h5, h5 = X4 (X4 (X4 (X4 (X4 h n a1) (n + 4) a2) (n + 4 + 4) a3) (n + 4 + 4 + 4) a4) (n + 4 + 4 + 4 + 4) a5 := ⟨_, rfl⟩
    obtain ⟨g5, k5⟩ : ∃ g5, g5 = M4 (M4 (M4 (M4 (M4 h5 n a1) (n + 4) a2) (n + 4 + 4) a3) (n + 4 + 4 + 4) a4) (n + 4 + 4 + 4 + 4) a5 := ⟨_, rfl⟩
    have F5 : fr1 h h5 := by rw [d5]; exact fr1_4 (fr1_4 (fr1_4 (fr1_4 (fr1_4 (fun c j _ _ => rfl)))))
    have K5 : fr2 h5 g5 := by rw [k5]; exact fr2_4 (fr2_4 (fr2_4 (fr2_4 (fr2_4 (fun c j _ _ => rfl)))))
    have H0 : T2 h h5 n := ⟨hn, e1, by rw [F5 83 15 (by omega) (by omega)]; exact e2, fun j hj => by rw [F5 96 j (by omega) (by omega)]; exact hb j hj⟩
    have H1 := H0.w r1 (by omega)
    have H2 := H1.w r2 (by omega)
    have H3 := H2.w r3 (by omega)
    have H4 := H3.w r4 (by omega)
    have H5 := H4.w r5 (by omega)
    refine ⟨((n + 20 : Nat) : Int), h5, g5, ?_, ?_, ?_⟩
    · rw [e1, w32_id ⟨by omega, by omega⟩, if_neg (by omega), bd_s, if_neg (by decide), x_word hN (by omega) H0.2.1, bv_s]
      rw [x_word hN (by omega) H1.2.1, bv_s, x_word hN (by omega) H2.2.1, bv_s, x_word hN (by omega) H3.2.1, bv_s, x_word hN (by omega) H4.2.1, bv_s, bd_s]
      rw [H5.2.1, d5]
    · rw [H0.2.2.1, w32_id ⟨by omega, by omega⟩, if_pos (by omega), m_word hN (by omega) H0.2.2.1, bv_s]
      rw [m_word hN (by omega) H1.2.2.1, bv_s, m_word hN (by omega) H2.2.2.1, bv_s, m_word hN (by omega) H3.2.2.1, bv_s, m_word hN (by omega) H4.2.2.1, bv_s]
      rw [H5.2.2.1, k5]
    · refine hI.tp (fun c j a b => ?_) ?_
      · unfold tpx at b
        rw [K5 c j (by omega) (by omega), F5 c j (by omega) (by omega)]
      · rw [← d5, ← k5] at H5
        refine ⟨n + 20, by omega, by rw [K5 41 1 (by omega) (by omega)]; exact H5.2.1, H5.2.2.1, fun j hj => ?_⟩
        rw [K5 42 j (by omega) (by omega)]
        exact H5.2.2.2 j hj
  · refine ⟨-1, h, h, ?_, ?_, hI⟩
    · rw [e1, w32_id ⟨by omega, by omega⟩, if_pos (by omega), bd_s, if_pos rfl]
    · rw [e2, w32_id ⟨by omega, by omega⟩, if_neg (by omega)]
