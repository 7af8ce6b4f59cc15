/-! THE SHORTEST WAYS -/
section FWL
variable {bs : Nat → Nat → Int}
theorem imin_le1 (a b : Int) : imin a b ≤ a := by unfold imin; split <;> omega
theorem imin_le2 (a b : Int) : imin a b ≤ b := by unfold imin; split <;> omega
theorem imin_or (a b : Int) : imin a b = a ∨ imin a b = b := by unfold imin; split <;> simp
theorem imin_ge {a b c : Int} (h1 : c ≤ a) (h2 : c ≤ b) : c ≤ imin a b := by unfold imin; split <;> omega
theorem FW_s (m i j : Nat) : FW bs (m + 1) i j = imin (FW bs m i j) (FW bs m i m + FW bs m m j) := rfl
theorem FW_nn (h0 : ∀ i j, 0 ≤ bs i j) : ∀ m i j, 0 ≤ FW bs m i j
  | 0, i, j => h0 i j
  | m + 1, i, j => by
    rw [FW_s]
    have h1 := FW_nn h0 m i j
    have h2 := FW_nn h0 m i m
    have h3 := FW_nn h0 m m j
    exact imin_ge h1 (by omega)
theorem FW_le : ∀ m i j, FW bs m i j ≤ bs i j
  | 0, i, j => Int.le_refl _
  | m + 1, i, j => Int.le_trans (imin_le1 _ _) (FW_le m i j)
theorem FW_col (h0 : ∀ i j, 0 ≤ bs i j) (m i : Nat) : FW bs (m + 1) i m = FW bs m i m := by
  rw [FW_s]
  have := FW_nn h0 m m m
  unfold imin
  split <;> omega
theorem FW_row (h0 : ∀ i j, 0 ≤ bs i j) (m j : Nat) : FW bs (m + 1) m j = FW bs m m j := by
  rw [FW_s]
  have := FW_nn h0 m m m
  unfold imin
  split <;> omega
/-- one more road at the end -/
theorem FW_T (h0 : ∀ i j, 0 ≤ bs i j) : ∀ m a i j, a < m → FW bs m i j ≤ FW bs m i a + bs a j
  | 0, a, i, j, ha => absurd ha (by omega)
  | m + 1, a, i, j, ha => by
    by_cases e : a = m
    · subst e
      rw [FW_col h0, FW_s]
      have h1 := FW_le (bs := bs) a a j
      have h2 := imin_le2 (FW bs a i j) (FW bs a i a + FW bs a a j)
      omega
    · have h1 := FW_T h0 m a i j (by omega)
      have h2 := FW_T h0 m a m j (by omega)
      rw [FW_s, FW_s m i a]
      have h3 := imin_le1 (FW bs m i j) (FW bs m i m + FW bs m m j)
      have h4 := imin_le2 (FW bs m i j) (FW bs m i m + FW bs m m j)
      rcases imin_or (FW bs m i a) (FW bs m i m + FW bs m m a) with q | q <;> rw [q] <;> omega
/-- the last road of the way -/
theorem FW_P (h0 : ∀ i j, 0 ≤ bs i j) : ∀ m i j, FW bs m i j = bs i j ∨ ∃ a, a < m ∧ a ≠ j ∧ FW bs m i j = FW bs m i a + bs a j
  | 0, i, j => Or.inl rfl
  | m + 1, i, j => by
    have hs := FW_s (bs := bs) m i j
    have c1 : FW bs (m + 1) i j = FW bs m i j → FW bs (m + 1) i j = bs i j ∨ ∃ a, a < m + 1 ∧ a ≠ j ∧ FW bs (m + 1) i j = FW bs (m + 1) i a + bs a j := by
      intro hs
      rcases FW_P h0 m i j with z | ⟨a, ha, hj, z⟩
      · exact Or.inl (by rw [hs, z])
      · refine Or.inr ⟨a, by omega, hj, ?_⟩
        have h1 := FW_T h0 (m + 1) a i j (by omega)
        have h2 : FW bs (m + 1) i a ≤ FW bs m i a := by rw [FW_s]; exact imin_le1 _ _
        omega
    by_cases ej : j = m
    · subst ej
      exact c1 (FW_col h0 _ _)
    rcases imin_or (FW bs m i j) (FW bs m i m + FW bs m m j) with q | q
    · rw [q] at hs
      exact c1 hs
    · rw [q] at hs
      rcases FW_P h0 m m j with z | ⟨a, ha, hj, z⟩
      · refine Or.inr ⟨m, by omega, fun e => ej e.symm, ?_⟩
        rw [FW_col h0]
        omega
      · refine Or.inr ⟨a, by omega, hj, ?_⟩
        have h1 := FW_T h0 (m + 1) a i j (by omega)
        have h2 : FW bs (m + 1) i a ≤ FW bs m i m + FW bs m m a := by rw [FW_s]; exact imin_le2 _ _
        omega
theorem nd_len : ∀ (n : Nat) (l : List Nat), l.Nodup → (∀ a, a ∈ l → a < n) → l.length ≤ n
  | 0, l, _, h2 => by
    cases l with
    | nil => simp
    | cons a l => exact absurd (h2 a (by simp)) (by omega)
  | n + 1, l, h1, h2 => by
    have h3 := nd_len n (l.erase n) (h1.erase n) (fun a ha => by
      have h4 := h2 a (List.mem_of_mem_erase ha)
      have h5 : a ≠ n := fun e => by subst e; exact (List.Nodup.not_mem_erase h1) ha
      omega)
    have h6 := List.length_erase (a := n) (l := l)
    split at h6 <;> omega
/-- a way that there is, is short -/
theorem FW_c (h0 : ∀ i j, 0 ≤ bs i j) (hf : ∀ i j, i < 14 → j < 14 → i ≠ j → 1 ≤ bs i j ∧ (bs i j ≤ 99 ∨ bs i j = 1000000)) (hd : ∀ i, i < 14 → bs i i = 0) {m i : Nat} (hm : m ≤ 14) (hi : i < 14) : ∀ k j : Nat, j < 14 → FW bs m i j < 1000000 → 99 * (k : Int) < FW bs m i j → ∃ l : List Nat, l.Nodup ∧ l.length = k + 1 ∧ (∀ a, a ∈ l → a < 14 ∧ FW bs m i a ≤ FW bs m i j)
  | 0, j, hj, _, _ => ⟨[j], by simp, rfl, fun a ha => by simp at ha; subst ha; exact ⟨hj, Int.le_refl _⟩⟩
  | k + 1, j, hj, h1, h2 => by
    have hij : i ≠ j := fun e => by
      subst e
      have := FW_le (bs := bs) m i i
      rw [hd i hi] at this
      omega
    rcases FW_P h0 m i j with z | ⟨a, ha, haj, z⟩
    · have := hf i j hi hj hij
      omega
    · have n1 := FW_nn h0 m i a
      have h3 := hf a j (by omega) hj haj
      obtain ⟨l, l1, l2, l3⟩ := FW_c h0 hf hd hm hi k a (by omega) (by omega) (by omega)
      refine ⟨j :: l, ?_, by simp [l2], fun b hb => ?_⟩
      · refine List.nodup_cons.mpr ⟨fun q => ?_, l1⟩
        have := (l3 j q).2
        omega
      · rcases List.mem_cons.mp hb with q | q
        · subst q; exact ⟨hj, Int.le_refl _⟩
        · have := l3 b q
          exact ⟨this.1, by omega⟩
theorem FW_b (h0 : ∀ i j, 0 ≤ bs i j) (hf : ∀ i j, i < 14 → j < 14 → i ≠ j → 1 ≤ bs i j ∧ (bs i j ≤ 99 ∨ bs i j = 1000000)) (hd : ∀ i, i < 14 → bs i i = 0) {m i j : Nat} (hm : m ≤ 14) (hi : i < 14) (hj : j < 14) (h1 : FW bs m i j < 1000000) : FW bs m i j ≤ 1386 := by
  refine Int.not_lt.mp (fun q => ?_)
  obtain ⟨l, l1, l2, l3⟩ := FW_c h0 hf hd hm hi 14 j hj h1 (by omega)
  have := nd_len 14 l l1 (fun a ha => (l3 a ha).1)
  omega
theorem FW_pos (hp : ∀ i j, i ≠ j → 1 ≤ bs i j) (h0 : ∀ i j, 0 ≤ bs i j) : ∀ m i j, i ≠ j → 1 ≤ FW bs m i j
  | 0, i, j, h => hp i j h
  | m + 1, i, j, h => by
    rw [FW_s]
    refine imin_ge (FW_pos hp h0 m i j h) ?_
    have n1 := FW_nn h0 m i m
    have n2 := FW_nn h0 m m j
    by_cases e : i = m
    · have := FW_pos hp h0 m m j (by omega)
      omega
    · have := FW_pos hp h0 m i m e
      omega
end FWL
theorem bsX_nn {r : Nat → Int} : ∀ i j, 0 ≤ bsX r i j := fun i j => by unfold bsX; split <;> (try split) <;> omega
theorem bsX_p {r : Nat → Int} : ∀ i j, i ≠ j → 1 ≤ bsX r i j := fun i j h => by unfold bsX; rw [if_neg h]; split <;> omega
theorem bsX_d {r : Nat → Int} (i : Nat) : bsX r i i = 0 := by unfold bsX; rw [if_pos rfl]
theorem bsX_m {r : Nat → Int} {t : Nat} (hr : RdOK r t) {i j : Nat} (hi : i < 14) (hj : j < 14) : bsX r i j ≤ 1000000 := by
  have := hr.1 (14 * i + j) (by omega)
  unfold bsX
  split <;> (try split) <;> omega
theorem FWX_b {r : Nat → Int} {t : Nat} (hr : RdOK r t) {m i j : Nat} (hm : m ≤ 14) (hi : i < 14) (hj : j < 14) (h : FW (bsX r) m i j < 1000000) : FW (bsX r) m i j ≤ 1386 := by
  refine FW_b bsX_nn (fun i j hi hj hij => ?_) (fun i _ => bsX_d i) hm hi hj h
  refine ⟨bsX_p i j hij, ?_⟩
  have := hr.1 (14 * i + j) (by omega)
  unfold bsX
  rw [if_neg hij]
  split
  · exact Or.inl this.2
  · exact Or.inr rfl
theorem FWX_m {r : Nat → Int} {t : Nat} (hr : RdOK r t) {m i j : Nat} (hi : i < 14) (hj : j < 14) : FW (bsX r) m i j ≤ 1000000 := Int.le_trans (FW_le m i j) (bsX_m hr hi hj)
theorem bsM_nn {r : Nat → Int} {t : Nat} : ∀ i j, 0 ≤ bsM r t i j := fun i j => by unfold bsM; split <;> (try split) <;> omega
theorem bsM_m {r : Nat → Int} {t : Nat} (hr : RdOK r t) {i j : Nat} (hi : i < 14) (hj : j < 14) : bsM r t i j ≤ 1000000 := by
  have := hr.1 (14 * i + j) (by omega)
  unfold bsM
  split <;> (try split) <;> omega
theorem FWM_m {r : Nat → Int} {t : Nat} (hr : RdOK r t) {m i j : Nat} (hi : i < 14) (hj : j < 14) : FW (bsM r t) m i j ≤ 1000000 := Int.le_trans (FW_le m i j) (bsM_m hr hi hj)
/-- the ways of both sides -/
theorem FW_XM {r : Nat → Int} {t : Nat} (hr : RdOK r t) : ∀ m, m ≤ 14 → ∀ i j, i < 14 → j < 14 → (t.testBit i = true → t.testBit j = true → FW (bsM r t) m i j = FW (bsX r) m i j) ∧ (¬ (t.testBit i = true ∧ t.testBit j = true) → FW (bsM r t) m i j = 1000000 ∧ (i ≠ j → FW (bsX r) m i j = 1000000))
  | 0, _, i, j, hi, hj => by
    refine ⟨fun a b => ?_, fun a => ⟨?_, fun q => ?_⟩⟩
    · show bsM r t i j = bsX r i j
      unfold bsM bsX
      by_cases e : i = j
      · rw [if_pos ⟨e, a⟩, if_pos e]
      · rw [if_neg (fun q => e q.1), if_neg e]
        by_cases p : 0 < r (14 * i + j)
        · rw [if_pos ⟨a, b, p⟩, if_pos p]
        · rw [if_neg (fun q => p q.2.2), if_neg p]
    · show bsM r t i j = 1000000
      unfold bsM
      rw [if_neg (fun q => a ⟨q.2, by rw [← q.1]; exact q.2⟩), if_neg (fun q => a ⟨q.1, q.2.1⟩)]
    · show bsX r i j = 1000000
      unfold bsX
      rw [if_neg q, if_neg (fun p => a ⟨(hr.2.2 i j hi hj p).1, (hr.2.2 i j hi hj p).2.1⟩)]
  | m + 1, hm, i, j, hi, hj => by
    have I := FW_XM hr m (by omega)
    have a1 := I i j hi hj
    have a2 := I i m hi (by omega)
    have a3 := I m j (by omega) hj
    have x1 := FWX_m hr (m := m) hi hj
    have x2 := FW_nn (bsX_nn (r := r)) m i m
    have x3 := FW_nn (bsX_nn (r := r)) m m j
    have y2 := FW_nn (bsM_nn (r := r) (t := t)) m i m
    have y3 := FW_nn (bsM_nn (r := r) (t := t)) m m j
    rw [FW_s, FW_s]
    refine ⟨fun ti tj => ?_, fun a => ?_⟩
    · by_cases tm : t.testBit m = true
      · rw [a1.1 ti tj, a2.1 ti tm, a3.1 tm tj]
      · have e1 := a2.2 (fun q => tm q.2)
        have e2 := e1.2 (fun q => tm (by rw [← q]; exact ti))
        rw [a1.1 ti tj, e1.1, e2]
        unfold imin
        split <;> split <;> omega
    · obtain ⟨b1, b2⟩ := a1.2 a
      rw [b1]
      by_cases ti : t.testBit i = true
      · have tj : ¬ t.testBit j = true := fun q => a ⟨ti, q⟩
        have e1 := a3.2 (fun q => tj q.2)
        refine ⟨?_, fun q => ?_⟩
        · rw [e1.1]; unfold imin; split <;> omega
        · rw [b2 q]
          by_cases e : m = j
          · subst e; rw [b2 q]; unfold imin; split <;> omega
          · rw [e1.2 e]; unfold imin; split <;> omega
      · have e1 := a2.2 (fun q => ti q.1)
        refine ⟨?_, fun q => ?_⟩
        · rw [e1.1]; unfold imin; split <;> omega
        · rw [b2 q]
          by_cases e : i = m
          · subst e; rw [b2 q]; unfold imin; split <;> omega
          · rw [e1.2 e]; unfold imin; split <;> omega
theorem FWX_d {r : Nat → Int} {m i : Nat} : FW (bsX r) m i i = 0 := by
  have h1 := FW_le (bs := bsX r) m i i
  have h2 := FW_nn (bsX_nn (r := r)) m i i
  rw [bsX_d] at h1
  omega

