/-! THE ROWS OF THE HEAP -/
def Cls (ci : Nat) (C : String) (T : u_T) (N : Nat) : Prop := vwCl[ci]? = some (C, T, N) ∧ (∀ w ∈ u_ws C T N, w ∈ WS) ∧ (∀ k, k < N → parseFieldDescriptor (T k).2.2.1 = some (tyF ci k)) ∧ (∀ a, a < N → ∀ b, b < N → a ≠ b → (T a).2.1 ≠ (T b).2.1) ∧ N = nF ci
def FLk (own : String) (idx ci k : Nat) : Prop := ∃ (C : String) (T : u_T) (N : Nat), Cls ci C T N ∧ k < N ∧ Cond.fieldLink own idx (T k).1 (T k).2.1 (T k).2.2.1 ∈ WS ∧ ((tyF ci k = .int ∨ tyF ci k = .boolean) → (T k).2.2.2 = false)
section HEAP
variable {M : Mth} {d pc : Nat} {loc : List (Option PV)} {st : List PV} {h : Hp} {Q : Option PV → Hp → Prop}
theorem fV_i {b : Nat} {ty : FieldType} {x : Int} {r : Nat} (h : ty = .int ∨ ty = .boolean) : fV b ty x r = .int (Int32.ofInt x) := by rcases h with rfl | rfl <;> rfl
theorem g_getI {idx ci k c : Nat} {rs : List Nat} (hdg : decode M.2.1 pc = .ok (.getfield idx, 3)) (hf : FLk M.1.cls idx ci k) (hc : L0[c]? = some (.inl (ci, rs))) (hty : tyF ci k = .int ∨ tyF ci k = .boolean) (kk : Go M d (pc + 3) loc (.inl (h c k) :: st) h Q) : Go M d pc loc (.inr (c + 1) :: st) h Q := by
  intro p l e R s m args below meth cd b D cA k0 z H locs ls Z hcx hR hS hL hs hh hF
  obtain ⟨C, T, N, ⟨h1, h2, h3, h4, rfl⟩, hk, hl, -⟩ := hf
  have k2 := kk p l e R s m args below meth cd b D cA k0 z H locs ls Z hcx hR hS hL (hs.tl.cons (hh c k)) hh hF
  rw [List.map_cons] at k2
  rw [List.map_cons, cV_s]
  refine va_get hcx.1 hcx.2.1 hcx.2.2.2.2.2.1 h2 hcx.2.2.2.2.1 hcx.2.2.2.2.2.2.2.1 hR c (wd_get hc) h1 k hk (hcx.2.2.2.2.2.1 _ hl) (fun _ q => q) ?_ hdg k2
  rw [List.getElem?_map, List.getElem?_range hk]
  simp [fV_i hty, cV]
theorem g_getR {idx ci k c r : Nat} {rs : List Nat} (hdg : decode M.2.1 pc = .ok (.getfield idx, 3)) (hf : FLk M.1.cls idx ci k) (hc : L0[c]? = some (.inl (ci, rs))) (hty : ¬ tyF ci k = .int ∧ ¬ tyF ci k = .boolean) (hr : rs.getD k 0 = r) (hb : r ≤ 1000) (kk : Go M d (pc + 3) loc (.inr r :: st) h Q) : Go M d pc loc (.inr (c + 1) :: st) h Q := by
  intro p l e R s m args below meth cd b D cA k0 z H locs ls Z hcx hR hS hL hs hh hF
  obtain ⟨C, T, N, ⟨h1, h2, h3, h4, rfl⟩, hk, hl, -⟩ := hf
  have k2 := kk p l e R s m args below meth cd b D cA k0 z H locs ls Z hcx hR hS hL (hs.tl.cons hb) hh hF
  rw [List.map_cons] at k2
  rw [List.map_cons, cV_s]
  refine va_get hcx.1 hcx.2.1 hcx.2.2.2.2.2.1 h2 hcx.2.2.2.2.1 hcx.2.2.2.2.2.2.2.1 hR c (wd_get hc) h1 k hk (hcx.2.2.2.2.2.1 _ hl) (fun _ q => q) ?_ hdg k2
  rw [List.getElem?_map, List.getElem?_range hk]
  show some (fV b (tyF ci k) (h c k) (rs.getD k 0)) = some (va_rf (cR b r))
  rw [hr]
  congr 1
  unfold fV
  split
  · rename_i q; exact absurd q hty.1
  · rename_i q; exact absurd q hty.2
  · rfl
theorem Rp.set {D : va_G} {cA : Nat → ClassId} {b : Nat} {H1 : Heap} {c j : Nat} {v : Int} {dd : Dsc} {e : va_E} (hd : L0[c]? = some dd) (he : e = cE b cA dd (fun j' => if j' = j then v else h c j')) (h1 : va_P D vwCl ((wd b cA L0 h).set c (b + c, e)) H1) : Rp D cA b (hw h c j v) H1 := by
  rw [wd_set hd he] at h1
  rw [hw_S1]
  exact h1
theorem map_set_range {α : Type} (n k : Nat) (g g' : Nat → α) (x : α) (hx : g' k = x) (ho : ∀ j, j ≠ k → g' j = g j) : ((List.range n).map g).set k x = (List.range n).map g' := by
  apply List.ext_getElem?
  intro i
  by_cases hi : i = k
  · subst hi
    by_cases hl : i < n
    · rw [List.getElem?_set_self (by simpa using hl), List.getElem?_map, List.getElem?_range hl]
      simp [hx]
    · rw [List.getElem?_eq_none (by simp; omega), List.getElem?_eq_none (by simp; omega)]
  · rw [List.getElem?_set_ne (Ne.symm hi), List.getElem?_map, List.getElem?_map]
    by_cases hl : i < n
    · rw [List.getElem?_range hl]
      simp [ho i hi]
    · rw [List.getElem?_eq_none (by simp; omega)]
      rfl
theorem g_put {idx ci k c : Nat} {rs : List Nat} {v : Int} (hdg : decode M.2.1 pc = .ok (.putfield idx, 3)) (hf : FLk M.1.cls idx ci k) (hc : L0[c]? = some (.inl (ci, rs))) (hty : tyF ci k = .int ∨ (tyF ci k = .boolean ∧ (v = 0 ∨ v = 1))) (kk : Go M d (pc + 3) loc st (hw h c k v) Q) : Go M d pc loc (.inl v :: .inr (c + 1) :: st) h Q := by
  intro p l e R s m args below meth cd b D cA k0 z H locs ls Z hcx hR hS hL hs hh hF
  obtain ⟨C, T, N, ⟨h1, h2, h3, h4, rfl⟩, hk, hl, hfin⟩ := hf
  have hty2 : tyF ci k = .int ∨ tyF ci k = .boolean := hty.imp id And.left
  rw [List.map_cons, List.map_cons, cV_s]
  have hnf : narrow (tyF ci k) (cV b (.inl v)) = cV b (.inl v) ∧ fits (tyF ci k) (cV b (.inl v)) = true := by
    rcases hty with e | ⟨e, rfl | rfl⟩ <;> rw [e] <;> exact ⟨rfl, rfl⟩
  refine va_put hcx.1 hcx.2.1 hcx.2.2.2.2.2.1 h2 (tyF ci) h3 h4 hcx.2.2.2.2.1 hcx.2.2.2.2.2.2.2.1 hR wd_D hS c (wd_get hc) h1 k hk (hcx.2.2.2.2.2.1 _ hl) (fun _ q => q) (hfin hty2) (h3 k hk) hnf.1 hnf.2 (by simpa using hk) hdg fun H1 locs1 hP1 _ hS1 => ?_
  refine kk p l e R s m args below meth cd b D cA k0 z H1 locs1 ls Z hcx (Rp.set hc ?_ hP1) hS1 hL hs.tl.tl (okH_w hh hs.hd) hF
  show Sum.inr _ = Sum.inr _
  congr 2
  refine map_set_range _ _ _ _ _ ?_ fun j hj => ?_
  · simp [fV_i hty2, cV]
  · simp [hj]
theorem g_iald {c n : Nat} {i : Int} (hdg : decode M.2.1 pc = .ok (.iaload, 1)) (hc : L0[c]? = some (.inr (0, n))) (hi : 0 ≤ i ∧ i < n) (kk : Go M d (pc + 1) loc (.inl (h c i.toNat) :: st) h Q) : Go M d pc loc (.inl i :: .inr (c + 1) :: st) h Q := by
  intro p l e R s m args below meth cd b D cA k0 z H locs ls Z hcx hR hS hL hs hh hF
  have k2 := kk p l e R s m args below meth cd b D cA k0 z H locs ls Z hcx hR hS hL (hs.tl.tl.cons (hh c _)) hh hF
  rw [List.map_cons, List.map_cons, cV_s]
  rw [List.map_cons] at k2
  refine va_iald hcx.1 hcx.2.1 hcx.2.2.2.2.2.2.2.1 hR c 0 (wd_get hc) rfl (vp_of hs.hd hi) hdg ?_
  rw [cl_of hs.hd]
  exact k2
theorem g_bald {c n : Nat} {i : Int} (hdg : decode M.2.1 pc = .ok (.baload, 1)) (hc : L0[c]? = some (.inr (1, n))) (hi : 0 ≤ i ∧ i < n) (kk : Go M d (pc + 1) loc (.inl (h c i.toNat) :: st) h Q) : Go M d pc loc (.inl i :: .inr (c + 1) :: st) h Q := by
  intro p l e R s m args below meth cd b D cA k0 z H locs ls Z hcx hR hS hL hs hh hF
  have k2 := kk p l e R s m args below meth cd b D cA k0 z H locs ls Z hcx hR hS hL (hs.tl.tl.cons (hh c _)) hh hF
  rw [List.map_cons, List.map_cons, cV_s]
  rw [List.map_cons] at k2
  refine va_bald hcx.1 hcx.2.1 hcx.2.2.2.2.2.2.2.1 hR c 1 (wd_get hc) rfl (vp_of hs.hd hi) hdg ?_
  rw [cl_of hs.hd]
  exact k2
theorem g_zald {c n : Nat} {i : Int} (hdg : decode M.2.1 pc = .ok (.baload, 1)) (hc : L0[c]? = some (.inr (2, n))) (hi : 0 ≤ i ∧ i < n) (kk : Go M d (pc + 1) loc (.inl (h c i.toNat) :: st) h Q) : Go M d pc loc (.inl i :: .inr (c + 1) :: st) h Q := by
  intro p l e R s m args below meth cd b D cA k0 z H locs ls Z hcx hR hS hL hs hh hF
  have k2 := kk p l e R s m args below meth cd b D cA k0 z H locs ls Z hcx hR hS hL (hs.tl.tl.cons (hh c _)) hh hF
  rw [List.map_cons, List.map_cons, cV_s]
  rw [List.map_cons] at k2
  refine va_zald hcx.1 hcx.2.1 hcx.2.2.2.2.2.2.2.1 hR c 2 (wd_get hc) rfl (vp_of hs.hd hi) hdg ?_
  rw [cl_of hs.hd]
  exact k2
theorem upd_of (f : Nat → Int) (i : Nat) (v : Int) (x : Int32) (hx : x = Int32.ofInt v) : upd (fun j => Int32.ofInt (f j)) i x = fun j => Int32.ofInt (if j = i then v else f j) := by
  funext j
  unfold upd
  split <;> rename_i h
  · exact hx
  · rfl
theorem g_iast {c n : Nat} {i v : Int} (hdg : decode M.2.1 pc = .ok (.iastore, 1)) (hc : L0[c]? = some (.inr (0, n))) (hi : 0 ≤ i ∧ i < n) (kk : Go M d (pc + 1) loc st (hw h c i.toNat v) Q) : Go M d pc loc (.inl v :: .inl i :: .inr (c + 1) :: st) h Q := by
  intro p l e R s m args below meth cd b D cA k0 z H locs ls Z hcx hR hS hL hs hh hF
  rw [List.map_cons, List.map_cons, List.map_cons, cV_s]
  refine va_iast hcx.1 hcx.2.1 hcx.2.2.2.2.2.2.2.1 hR wd_D hS c 0 (wd_get hc) rfl (vp_of hs.tl.hd hi) hdg fun H1 locs1 hP1 _ hS1 => ?_
  rw [cl_of hs.tl.hd, upd_of _ _ v _ rfl] at hP1
  exact kk p l e R s m args below meth cd b D cA k0 z H1 locs1 ls Z hcx (Rp.set hc rfl hP1) hS1 hL hs.tl.tl.tl (okH_w hh hs.hd) hF
theorem g_bast {c n : Nat} {i v : Int} (hdg : decode M.2.1 pc = .ok (.bastore, 1)) (hc : L0[c]? = some (.inr (1, n))) (hi : 0 ≤ i ∧ i < n) (kk : Go M d (pc + 1) loc st (hw h c i.toNat (i2b v)) Q) : Go M d pc loc (.inl v :: .inl i :: .inr (c + 1) :: st) h Q := by
  intro p l e R s m args below meth cd b D cA k0 z H locs ls Z hcx hR hS hL hs hh hF
  rw [List.map_cons, List.map_cons, List.map_cons, cV_s]
  refine va_bast hcx.1 hcx.2.1 hcx.2.2.2.2.2.2.2.1 hR wd_D hS c 1 (wd_get hc) rfl (vp_of hs.tl.hd hi) hdg fun H1 locs1 hP1 _ hS1 => ?_
  rw [cl_of hs.tl.hd, upd_of _ _ (i2b v) _ (by rw [vp_nar_byte, i2b, Int32.ofInt_toInt])] at hP1
  exact kk p l e R s m args below meth cd b D cA k0 z H1 locs1 ls Z hcx (Rp.set hc rfl hP1) hS1 hL hs.tl.tl.tl (okH_w hh (inR_t _)) hF
theorem g_zast {c n : Nat} {i v : Int} (hdg : decode M.2.1 pc = .ok (.bastore, 1)) (hc : L0[c]? = some (.inr (2, n))) (hi : 0 ≤ i ∧ i < n) (hv : v = 0 ∨ v = 1) (kk : Go M d (pc + 1) loc st (hw h c i.toNat v) Q) : Go M d pc loc (.inl v :: .inl i :: .inr (c + 1) :: st) h Q := by
  intro p l e R s m args below meth cd b D cA k0 z H locs ls Z hcx hR hS hL hs hh hF
  rw [List.map_cons, List.map_cons, List.map_cons, cV_s]
  refine va_zast hcx.1 hcx.2.1 hcx.2.2.2.2.2.2.2.1 hR wd_D hS c 2 (wd_get hc) rfl (vp_of hs.tl.hd hi) hdg fun H1 locs1 hP1 _ hS1 => ?_
  rw [cl_of hs.tl.hd, upd_of _ _ v _ (by rcases hv with rfl | rfl <;> rfl)] at hP1
  exact kk p l e R s m args below meth cd b D cA k0 z H1 locs1 ls Z hcx (Rp.set hc rfl hP1) hS1 hL hs.tl.tl.tl (okH_w hh hs.hd) hF
theorem g_aald {c n : Nat} {i : Int} (hdg : decode M.2.1 pc = .ok (.aaload, 1)) (hc : L0[c]? = some (.inr (3, n))) (hi : 0 ≤ i ∧ i < n) (hb : (h c i.toNat).toNat ≤ 1000) (kk : Go M d (pc + 1) loc (.inr (h c i.toNat).toNat :: st) h Q) : Go M d pc loc (.inl i :: .inr (c + 1) :: st) h Q := by
  intro p l e R s m args below meth cd b D cA k0 z H locs ls Z hcx hR hS hL hs hh hF
  have k2 := kk p l e R s m args below meth cd b D cA k0 z H locs ls Z hcx hR hS hL (hs.tl.tl.cons hb) hh hF
  rw [List.map_cons, List.map_cons, cV_s]
  rw [List.map_cons] at k2
  refine va_aldq hcx.1 hcx.2.1 hcx.2.2.2.2.2.2.2.1 hR c 3 (wd_get hc) rfl (vp_of hs.hd hi) hdg ?_
  rw [cl_of hs.hd]
  exact k2
theorem up_of (b : Nat) (f : Nat → Int) (i r : Nat) : va_up (fun j => cR b (f j).toNat) i (cR b r) = fun j => cR b (if j = i then (r : Int) else f j).toNat := by
  funext j
  unfold va_up
  split <;> rename_i h
  · simp
  · rfl
theorem g_aast {c n r : Nat} {i : Int} (hdg : decode M.2.1 pc = .ok (.aastore, 1)) (hc : L0[c]? = some (.inr (3, n))) (hi : 0 ≤ i ∧ i < n) (hr : r = 0 ∨ ∃ q rs, r = q + 1 ∧ L0[q]? = some (.inl (0, rs))) (kk : Go M d (pc + 1) loc st (hw h c i.toNat (r : Int)) Q) : Go M d pc loc (.inr r :: .inl i :: .inr (c + 1) :: st) h Q := by
  intro p l e R s m args below meth cd b D cA k0 z H locs ls Z hcx hR hS hL hs hh hF
  have hrb : r ≤ 1000 := hs.hd
  have hin : inR (r : Int) := ⟨by omega, by omega⟩
  have hup := up_of b (h c) i.toNat r
  rw [List.map_cons, List.map_cons, List.map_cons, cV_s]
  rcases hr with rfl | ⟨q, rs, rfl, hq⟩
  · rw [cV_0]
    refine va_astqN hcx.1 hcx.2.1 hcx.2.2.2.2.2.2.2.1 hR wd_D hS c 3 (wd_get hc) rfl (vp_of hs.tl.hd hi) hdg fun H1 locs1 hP1 _ hS1 => ?_
    rw [cl_of hs.tl.hd] at hP1
    rw [show cR b 0 = none from rfl] at hup
    rw [hup] at hP1
    exact kk p l e R s m args below meth cd b D cA k0 z H1 locs1 ls Z hcx (Rp.set hc rfl hP1) hS1 hL hs.tl.tl.tl (okH_w hh hin) hF
  · rw [cV_s]
    refine va_astq hcx.1 hcx.2.1 hcx.2.2.2.2.2.2.2.1 hR wd_D hS c 3 q 0 (r := (RX0, TX0, 5)) (wd_get hc) rfl (wd_get hq) rfl (vp_of hs.tl.hd hi) hdg fun H1 locs1 hP1 _ hS1 => ?_
    rw [cl_of hs.tl.hd] at hP1
    rw [show cR b (q + 1) = some (b + q) by simp [cR]] at hup
    rw [hup] at hP1
    exact kk p l e R s m args below meth cd b D cA k0 z H1 locs1 ls Z hcx (Rp.set hc rfl hP1) hS1 hL hs.tl.tl.tl (okH_w hh hin) hF
theorem g_alen {c k n : Nat} (hdg : decode M.2.1 pc = .ok (.arraylength, 1)) (hc : L0[c]? = some (.inr (k, n))) (hk : k < 3) (hn : n < 2147483648) (kk : Go M d (pc + 1) loc (.inl (n : Int) :: st) h Q) : Go M d pc loc (.inr (c + 1) :: st) h Q := by
  intro p l e R s m args below meth cd b D cA k0 z H locs ls Z hcx hR hS hL hs hh hF
  have k2 := kk p l e R s m args below meth cd b D cA k0 z H locs ls Z hcx hR hS hL (hs.tl.cons ⟨by omega, by omega⟩) hh hF
  rw [List.map_cons, cV_s]
  rw [List.map_cons] at k2
  have hof : Int32.ofNat n = Int32.ofInt (n : Int) := rfl
  rcases (show k = 0 ∨ k = 1 ∨ k = 2 by omega) with rfl | rfl | rfl
  · exact va_alen hcx.1 hcx.2.1 hcx.2.2.2.2.2.2.2.1 hR c 0 (wd_get hc) rfl (ty := .int) hof hdg k2
  · exact va_alen hcx.1 hcx.2.1 hcx.2.2.2.2.2.2.2.1 hR c 1 (wd_get hc) rfl (ty := .byte) hof hdg k2
  · exact va_alen hcx.1 hcx.2.1 hcx.2.2.2.2.2.2.2.1 hR c 2 (wd_get hc) rfl (ty := .boolean) hof hdg k2
end HEAP
