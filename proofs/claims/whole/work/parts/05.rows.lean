/-! THE ROWS: an instruction, a row; the goal first -/
section ROWS
variable {M : Mth} {d pc : Nat} {loc : List (Option PV)} {st : List PV} {h : Hp} {Q : Option PV → Hp → Prop}
theorem okS.tl {v : PV} {st : List PV} (h : okS (v :: st)) : okS st := fun w hw => h w (List.mem_cons_of_mem _ hw)
theorem okS.hd {v : PV} {st : List PV} (h : okS (v :: st)) : okV v := h v List.mem_cons_self
theorem okS.cons {v : PV} {st : List PV} (h : okS st) (hv : okV v) : okS (v :: st) := fun w hw => by
  rcases List.mem_cons.mp hw with rfl | hw
  · exact hv
  · exact h w hw
theorem g_iconst {n : Int} (hdg : decode M.2.1 pc = .ok (.iconst n, 1)) (hn : inR n) (k : Go M d (pc + 1) loc (.inl n :: st) h Q) : Go M d pc loc st h Q := by
  intro p l e R s m args below meth c b D cA k0 z H locs ls Z hcx hR hS hL hs hh hF
  exact lv_iconst hcx.1 hcx.2.1 hdg rfl (k p l e R s m args below meth c b D cA k0 z H locs ls Z hcx hR hS hL (hs.cons hn) hh hF)
theorem bi_of {n : Int} (hn : -128 ≤ n ∧ n < 128) : (Int8.ofInt n).toInt32 = Int32.ofInt n := Int32.toInt_inj.1 (by
  rw [Int8.toInt_toInt32, Int8.toInt_ofInt_of_le hn.1 hn.2, toR ⟨by omega, by omega⟩])
theorem si_of {n : Int} (hn : -32768 ≤ n ∧ n < 32768) : (Int16.ofInt n).toInt32 = Int32.ofInt n := Int32.toInt_inj.1 (by
  rw [Int16.toInt_toInt32, Int16.toInt_ofInt_of_le hn.1 hn.2, toR ⟨by omega, by omega⟩])
theorem g_bipush {n : Int} (hdg : decode M.2.1 pc = .ok (.bipush n, 2)) (hn : -128 ≤ n ∧ n < 128) (k : Go M d (pc + 2) loc (.inl n :: st) h Q) : Go M d pc loc st h Q := by
  intro p l e R s m args below meth c b D cA k0 z H locs ls Z hcx hR hS hL hs hh hF
  exact lv_bipush hcx.1 hcx.2.1 hdg (bi_of hn) (k p l e R s m args below meth c b D cA k0 z H locs ls Z hcx hR hS hL (hs.cons ⟨by omega, by omega⟩) hh hF)
theorem g_sipush {n : Int} (hdg : decode M.2.1 pc = .ok (.sipush n, 3)) (hn : -32768 ≤ n ∧ n < 32768) (k : Go M d (pc + 3) loc (.inl n :: st) h Q) : Go M d pc loc st h Q := by
  intro p l e R s m args below meth c b D cA k0 z H locs ls Z hcx hR hS hL hs hh hF
  exact lv_sipush hcx.1 hcx.2.1 hdg (si_of hn) (k p l e R s m args below meth c b D cA k0 z H locs ls Z hcx hR hS hL (hs.cons ⟨by omega, by omega⟩) hh hF)
theorem g_ldc {n : Int} {i : Nat} (hdg : decode M.2.1 pc = .ok (.ldc i, 2)) (hc : Cond.constant M.1.cls i (Int32.ofInt n) ∈ WS) (hn : inR n) (k : Go M d (pc + 2) loc (.inl n :: st) h Q) : Go M d pc loc st h Q := by
  intro p l e R s m args below meth c b D cA k0 z H locs ls Z hcx hR hS hL hs hh hF
  exact lv_ldc hcx.1 hcx.2.1 hcx.2.2.2.2.1 (hcx.2.2.2.2.2.1 _ hc) hdg (k p l e R s m args below meth c b D cA k0 z H locs ls Z hcx hR hS hL (hs.cons hn) hh hF)
theorem g_ldcw {n : Int} {i : Nat} (hdg : decode M.2.1 pc = .ok (.ldc_w i, 3)) (hc : Cond.constant M.1.cls i (Int32.ofInt n) ∈ WS) (hn : inR n) (k : Go M d (pc + 3) loc (.inl n :: st) h Q) : Go M d pc loc st h Q := by
  intro p l e R s m args below meth c b D cA k0 z H locs ls Z hcx hR hS hL hs hh hF
  exact lv_ldcw hcx.1 hcx.2.1 hcx.2.2.2.2.1 (hcx.2.2.2.2.2.1 _ hc) hdg (k p l e R s m args below meth c b D cA k0 z H locs ls Z hcx hR hS hL (hs.cons hn) hh hF)
theorem g_null (hdg : decode M.2.1 pc = .ok (.aconst_null, 1)) (k : Go M d (pc + 1) loc (.inr 0 :: st) h Q) : Go M d pc loc st h Q := by
  intro p l e R s m args below meth c b D cA k0 z H locs ls Z hcx hR hS hL hs hh hF
  have := (k p l e R s m args below meth c b D cA k0 z H locs ls Z hcx hR hS hL (hs.cons (by unfold okV; exact Nat.zero_le _)) hh hF)
  rw [List.map_cons, cV_0] at this
  exact lv_null hcx.1 hcx.2.1 hdg this
theorem g_iload_n {i : Fin 4} {x : Int} (hdg : decode M.2.1 pc = .ok (.iload_n i, 1)) (hl : loc[(i : Nat)]? = some (some (.inl x))) (k : Go M d (pc + 1) loc (.inl x :: st) h Q) : Go M d pc loc st h Q := by
  intro p l e R s m args below meth c b D cA k0 z H locs ls Z hcx hR hS hL hs hh hF
  exact lv_iload_n hcx.1 hcx.2.1 hdg rfl (hL.at hl).1 (k p l e R s m args below meth c b D cA k0 z H locs ls Z hcx hR hS hL (hs.cons (hL.at hl).2) hh hF)
theorem g_iload {i : Nat} {x : Int} (hdg : decode M.2.1 pc = .ok (.iload i, 2)) (hl : loc[i]? = some (some (.inl x))) (k : Go M d (pc + 2) loc (.inl x :: st) h Q) : Go M d pc loc st h Q := by
  intro p l e R s m args below meth c b D cA k0 z H locs ls Z hcx hR hS hL hs hh hF
  exact lv_iload hcx.1 hcx.2.1 hdg (hL.at hl).1 (k p l e R s m args below meth c b D cA k0 z H locs ls Z hcx hR hS hL (hs.cons (hL.at hl).2) hh hF)
theorem g_aload_n {i : Fin 4} {r : Nat} (hdg : decode M.2.1 pc = .ok (.aload_n i, 1)) (hl : loc[(i : Nat)]? = some (some (.inr r))) (k : Go M d (pc + 1) loc (.inr r :: st) h Q) : Go M d pc loc st h Q := by
  intro p l e R s m args below meth c b D cA k0 z H locs ls Z hcx hR hS hL hs hh hF
  have h1 := (hL.at hl).1
  have kk := k p l e R s m args below meth c b D cA k0 z H locs ls Z hcx hR hS hL (hs.cons (hL.at hl).2) hh hF
  rw [List.map_cons] at kk
  cases r with
  | zero => rw [cV_0] at h1 kk; exact lv_aload_nN hcx.1 hcx.2.1 hdg rfl h1 kk
  | succ r => rw [cV_s] at h1 kk; exact lv_aload_n hcx.1 hcx.2.1 hdg rfl h1 kk
theorem g_aload {i : Nat} {r : Nat} (hdg : decode M.2.1 pc = .ok (.aload i, 2)) (hl : loc[i]? = some (some (.inr r))) (k : Go M d (pc + 2) loc (.inr r :: st) h Q) : Go M d pc loc st h Q := by
  intro p l e R s m args below meth c b D cA k0 z H locs ls Z hcx hR hS hL hs hh hF
  have h1 := (hL.at hl).1
  have kk := k p l e R s m args below meth c b D cA k0 z H locs ls Z hcx hR hS hL (hs.cons (hL.at hl).2) hh hF
  rw [List.map_cons] at kk
  cases r with
  | zero => rw [cV_0] at h1 kk; exact lv_aloadN hcx.1 hcx.2.1 hdg h1 kk
  | succ r => rw [cV_s] at h1 kk; exact lv_aload hcx.1 hcx.2.1 hdg h1 kk
theorem g_istore_n {i : Fin 4} {x : Int} (hdg : decode M.2.1 pc = .ok (.istore_n i, 1)) (hi : (i : Nat) < M.2.2.1) (k : Go M d (pc + 1) (loc.set i (some (.inl x))) st h Q) : Go M d pc loc (.inl x :: st) h Q := by
  intro p l e R s m args below meth c b D cA k0 z H locs ls Z hcx hR hS hL hs hh hF
  exact lv_istore_n hcx.1 hcx.2.1 hdg rfl hL.has hi rfl fun ls' hl' => k p l e R s m args below meth c b D cA k0 z H locs ls' Z hcx hR hS (hL.store (v := .inl x) hi hs.hd hl') hs.tl hh hF
theorem g_istore {i : Nat} {x : Int} (hdg : decode M.2.1 pc = .ok (.istore i, 2)) (hi : i < M.2.2.1) (k : Go M d (pc + 2) (loc.set i (some (.inl x))) st h Q) : Go M d pc loc (.inl x :: st) h Q := by
  intro p l e R s m args below meth c b D cA k0 z H locs ls Z hcx hR hS hL hs hh hF
  exact lv_istore hcx.1 hcx.2.1 hdg hL.has hi rfl fun ls' hl' => k p l e R s m args below meth c b D cA k0 z H locs ls' Z hcx hR hS (hL.store (v := .inl x) hi hs.hd hl') hs.tl hh hF
theorem g_astore_n {i : Fin 4} {r : Nat} (hdg : decode M.2.1 pc = .ok (.astore_n i, 1)) (hi : (i : Nat) < M.2.2.1) (k : Go M d (pc + 1) (loc.set i (some (.inr r))) st h Q) : Go M d pc loc (.inr r :: st) h Q := by
  intro p l e R s m args below meth c b D cA k0 z H locs ls Z hcx hR hS hL hs hh hF
  rw [List.map_cons]
  cases r with
  | zero => rw [cV_0]; exact lv_astore_nN hcx.1 hcx.2.1 hdg rfl hL.has hi rfl fun ls' hl' => k p l e R s m args below meth c b D cA k0 z H locs ls' Z hcx hR hS (hL.store (v := .inr 0) hi hs.hd (by rw [cV_0]; exact hl')) hs.tl hh hF
  | succ r => rw [cV_s]; exact lv_astore_n hcx.1 hcx.2.1 hdg rfl hL.has hi rfl fun ls' hl' => k p l e R s m args below meth c b D cA k0 z H locs ls' Z hcx hR hS (hL.store (v := .inr (r + 1)) hi hs.hd (by rw [cV_s]; exact hl')) hs.tl hh hF
theorem g_astore {i : Nat} {r : Nat} (hdg : decode M.2.1 pc = .ok (.astore i, 2)) (hi : i < M.2.2.1) (k : Go M d (pc + 2) (loc.set i (some (.inr r))) st h Q) : Go M d pc loc (.inr r :: st) h Q := by
  intro p l e R s m args below meth c b D cA k0 z H locs ls Z hcx hR hS hL hs hh hF
  rw [List.map_cons]
  cases r with
  | zero => rw [cV_0]; exact lv_astoreN hcx.1 hcx.2.1 hdg hL.has hi rfl fun ls' hl' => k p l e R s m args below meth c b D cA k0 z H locs ls' Z hcx hR hS (hL.store (v := .inr 0) hi hs.hd (by rw [cV_0]; exact hl')) hs.tl hh hF
  | succ r => rw [cV_s]; exact lv_astore hcx.1 hcx.2.1 hdg hL.has hi rfl fun ls' hl' => k p l e R s m args below meth c b D cA k0 z H locs ls' Z hcx hR hS (hL.store (v := .inr (r + 1)) hi hs.hd (by rw [cV_s]; exact hl')) hs.tl hh hF
theorem g_iinc {i : Nat} {n x : Int} (hdg : decode M.2.1 pc = .ok (.iinc i n, 3)) (hl : loc[i]? = some (some (.inl x))) (hi : i < M.2.2.1) (k : Go M d (pc + 3) (loc.set i (some (.inl (w32 (x + n))))) st h Q) : Go M d pc loc st h Q := by
  intro p l e R s m args below meth c b D cA k0 z H locs ls Z hcx hR hS hL hs hh hF
  have hm : (i, cV b (.inl x)) ∈ lvL b loc := lvL_mem.mpr ⟨_, hl, rfl⟩
  obtain ⟨kk, hk⟩ := List.getElem?_of_mem hm
  exact lv_iinc (v := Int32.ofInt (w32 (x + n))) hcx.1 hcx.2.1 hdg hL.has hk (by rw [ofw, Int32.ofInt_add]) hi rfl fun ls' hl' => k p l e R s m args below meth c b D cA k0 z H locs ls' Z hcx hR hS (hL.store (v := .inl (w32 (x + n))) hi (inR_w _) hl') hs hh hF
theorem g_iadd {x y : Int} (hdg : decode M.2.1 pc = .ok (.iadd, 1)) (k : Go M d (pc + 1) loc (.inl (w32 (x + y)) :: st) h Q) : Go M d pc loc (.inl y :: .inl x :: st) h Q := by
  intro p l e R s m args below meth c b D cA k0 z H locs ls Z hcx hR hS hL hs hh hF
  have kk := k p l e R s m args below meth c b D cA k0 z H locs ls Z hcx hR hS hL (hs.tl.tl.cons (inR_w _)) hh hF
  simp only [List.map_cons, cV, ofw, Int32.ofInt_add] at kk
  exact lv_iadd hcx.1 hcx.2.1 hdg kk
theorem g_isub {x y : Int} (hdg : decode M.2.1 pc = .ok (.isub, 1)) (k : Go M d (pc + 1) loc (.inl (w32 (x - y)) :: st) h Q) : Go M d pc loc (.inl y :: .inl x :: st) h Q := by
  intro p l e R s m args below meth c b D cA k0 z H locs ls Z hcx hR hS hL hs hh hF
  have kk := k p l e R s m args below meth c b D cA k0 z H locs ls Z hcx hR hS hL (hs.tl.tl.cons (inR_w _)) hh hF
  simp only [List.map_cons, cV, ofw, Int32.ofInt_sub] at kk
  exact lv_isub hcx.1 hcx.2.1 hdg kk
theorem g_imul {x y : Int} (hdg : decode M.2.1 pc = .ok (.imul, 1)) (k : Go M d (pc + 1) loc (.inl (w32 (x * y)) :: st) h Q) : Go M d pc loc (.inl y :: .inl x :: st) h Q := by
  intro p l e R s m args below meth c b D cA k0 z H locs ls Z hcx hR hS hL hs hh hF
  have kk := k p l e R s m args below meth c b D cA k0 z H locs ls Z hcx hR hS hL (hs.tl.tl.cons (inR_w _)) hh hF
  simp only [List.map_cons, cV, ofw, Int32.ofInt_mul] at kk
  exact lv_imul hcx.1 hcx.2.1 hdg kk
theorem g_iand {x y : Int} (hdg : decode M.2.1 pc = .ok (.iand, 1)) (k : Go M d (pc + 1) loc (.inl (iand x y) :: st) h Q) : Go M d pc loc (.inl y :: .inl x :: st) h Q := by
  intro p l e R s m args below meth c b D cA k0 z H locs ls Z hcx hR hS hL hs hh hF
  have kk := k p l e R s m args below meth c b D cA k0 z H locs ls Z hcx hR hS hL (hs.tl.tl.cons (inR_t _)) hh hF
  simp only [List.map_cons, cV, iand, Int32.ofInt_toInt] at kk
  exact lv_iand hcx.1 hcx.2.1 hdg kk
theorem g_ior {x y : Int} (hdg : decode M.2.1 pc = .ok (.ior, 1)) (k : Go M d (pc + 1) loc (.inl (ior x y) :: st) h Q) : Go M d pc loc (.inl y :: .inl x :: st) h Q := by
  intro p l e R s m args below meth c b D cA k0 z H locs ls Z hcx hR hS hL hs hh hF
  have kk := k p l e R s m args below meth c b D cA k0 z H locs ls Z hcx hR hS hL (hs.tl.tl.cons (inR_t _)) hh hF
  simp only [List.map_cons, cV, ior, Int32.ofInt_toInt] at kk
  exact lv_ior hcx.1 hcx.2.1 hdg kk
theorem g_ixor {x y : Int} (hdg : decode M.2.1 pc = .ok (.ixor, 1)) (k : Go M d (pc + 1) loc (.inl (ixor x y) :: st) h Q) : Go M d pc loc (.inl y :: .inl x :: st) h Q := by
  intro p l e R s m args below meth c b D cA k0 z H locs ls Z hcx hR hS hL hs hh hF
  have kk := k p l e R s m args below meth c b D cA k0 z H locs ls Z hcx hR hS hL (hs.tl.tl.cons (inR_t _)) hh hF
  simp only [List.map_cons, cV, ixor, Int32.ofInt_toInt] at kk
  exact lv_ixor hcx.1 hcx.2.1 hdg kk
theorem g_ishl {x y : Int} (hdg : decode M.2.1 pc = .ok (.ishl, 1)) (k : Go M d (pc + 1) loc (.inl (ishl x y) :: st) h Q) : Go M d pc loc (.inl y :: .inl x :: st) h Q := by
  intro p l e R s m args below meth c b D cA k0 z H locs ls Z hcx hR hS hL hs hh hF
  have kk := k p l e R s m args below meth c b D cA k0 z H locs ls Z hcx hR hS hL (hs.tl.tl.cons (inR_t _)) hh hF
  simp only [List.map_cons, cV, ishl, Int32.ofInt_toInt] at kk
  exact lv_ishl hcx.1 hcx.2.1 hdg kk
theorem g_ishr {x y : Int} (hdg : decode M.2.1 pc = .ok (.ishr, 1)) (k : Go M d (pc + 1) loc (.inl (ishr x y) :: st) h Q) : Go M d pc loc (.inl y :: .inl x :: st) h Q := by
  intro p l e R s m args below meth c b D cA k0 z H locs ls Z hcx hR hS hL hs hh hF
  have kk := k p l e R s m args below meth c b D cA k0 z H locs ls Z hcx hR hS hL (hs.tl.tl.cons (inR_t _)) hh hF
  simp only [List.map_cons, cV, ishr, Int32.ofInt_toInt] at kk
  exact lv_ishr hcx.1 hcx.2.1 hdg kk
theorem g_iushr {x y : Int} (hdg : decode M.2.1 pc = .ok (.iushr, 1)) (k : Go M d (pc + 1) loc (.inl (iushr x y) :: st) h Q) : Go M d pc loc (.inl y :: .inl x :: st) h Q := by
  intro p l e R s m args below meth c b D cA k0 z H locs ls Z hcx hR hS hL hs hh hF
  have kk := k p l e R s m args below meth c b D cA k0 z H locs ls Z hcx hR hS hL (hs.tl.tl.cons (inR_t _)) hh hF
  simp only [List.map_cons, cV, iushr, Int32.ofInt_toInt] at kk
  exact lv_iushr hcx.1 hcx.2.1 hdg rfl kk
theorem g_i2b {x : Int} (hdg : decode M.2.1 pc = .ok (.i2b, 1)) (k : Go M d (pc + 1) loc (.inl (i2b x) :: st) h Q) : Go M d pc loc (.inl x :: st) h Q := by
  intro p l e R s m args below meth c b D cA k0 z H locs ls Z hcx hR hS hL hs hh hF
  have kk := k p l e R s m args below meth c b D cA k0 z H locs ls Z hcx hR hS hL (hs.tl.cons (inR_t _)) hh hF
  simp only [List.map_cons, cV, i2b, Int32.ofInt_toInt] at kk
  exact lv_i2b hcx.1 hcx.2.1 hdg rfl kk
theorem g_i2c {x : Int} (hdg : decode M.2.1 pc = .ok (.i2c, 1)) (k : Go M d (pc + 1) loc (.inl (i2c x) :: st) h Q) : Go M d pc loc (.inl x :: st) h Q := by
  intro p l e R s m args below meth c b D cA k0 z H locs ls Z hcx hR hS hL hs hh hF
  have kk := k p l e R s m args below meth c b D cA k0 z H locs ls Z hcx hR hS hL (hs.tl.cons (inR_t _)) hh hF
  simp only [List.map_cons, cV, i2c, Int32.ofInt_toInt] at kk
  exact lv_i2c hcx.1 hcx.2.1 hdg rfl kk
theorem g_idiv {x y : Int} (hdg : decode M.2.1 pc = .ok (.idiv, 1)) (hy : y ≠ 0) (k : Go M d (pc + 1) loc (.inl (idiv x y) :: st) h Q) : Go M d pc loc (.inl y :: .inl x :: st) h Q := by
  intro p l e R s m args below meth c b D cA k0 z H locs ls Z hcx hR hS hL hs hh hF
  have kk := k p l e R s m args below meth c b D cA k0 z H locs ls Z hcx hR hS hL (hs.tl.tl.cons (inR_t _)) hh hF
  simp only [List.map_cons, cV, idiv, Int32.ofInt_toInt] at kk
  exact lv_idiv hcx.1 hcx.2.1 hdg (fun e => hy ((eq_of hs.hd inR_0).mp e)) kk
theorem g_irem {x y : Int} (hdg : decode M.2.1 pc = .ok (.irem, 1)) (hy : y ≠ 0) (k : Go M d (pc + 1) loc (.inl (irem x y) :: st) h Q) : Go M d pc loc (.inl y :: .inl x :: st) h Q := by
  intro p l e R s m args below meth c b D cA k0 z H locs ls Z hcx hR hS hL hs hh hF
  have kk := k p l e R s m args below meth c b D cA k0 z H locs ls Z hcx hR hS hL (hs.tl.tl.cons (inR_t _)) hh hF
  simp only [List.map_cons, cV, irem, Int32.ofInt_toInt] at kk
  exact lv_irem hcx.1 hcx.2.1 hdg (fun e => hy ((eq_of hs.hd inR_0).mp e)) kk
theorem g_dup {v : PV} (hdg : decode M.2.1 pc = .ok (.dup, 1)) (k : Go M d (pc + 1) loc (v :: v :: st) h Q) : Go M d pc loc (v :: st) h Q := by
  intro p l e R s m args below meth c b D cA k0 z H locs ls Z hcx hR hS hL hs hh hF
  exact lv_dup hcx.1 hcx.2.1 hdg (cV_cat b v) (k p l e R s m args below meth c b D cA k0 z H locs ls Z hcx hR hS hL (hs.cons hs.hd) hh hF)
theorem g_dup2 {v w : PV} (hdg : decode M.2.1 pc = .ok (.dup2, 1)) (k : Go M d (pc + 1) loc (v :: w :: v :: w :: st) h Q) : Go M d pc loc (v :: w :: st) h Q := by
  intro p l e R s m args below meth c b D cA k0 z H locs ls Z hcx hR hS hL hs hh hF
  exact lv_dup2_11 hcx.1 hcx.2.1 hdg (cV_cat b v) (cV_cat b w) (k p l e R s m args below meth c b D cA k0 z H locs ls Z hcx hR hS hL ((hs.cons hs.tl.hd).cons hs.hd) hh hF)
theorem g_pop {v : PV} (hdg : decode M.2.1 pc = .ok (.pop, 1)) (k : Go M d (pc + 1) loc st h Q) : Go M d pc loc (v :: st) h Q := by
  intro p l e R s m args below meth c b D cA k0 z H locs ls Z hcx hR hS hL hs hh hF
  exact lv_pop hcx.1 hcx.2.1 hdg (cV_cat b v) (k p l e R s m args below meth c b D cA k0 z H locs ls Z hcx hR hS hL hs.tl hh hF)
theorem g_goto {off : Int} {tgt : Nat} (hdg : decode M.2.1 pc = .ok (.goto off, 3)) (ht : (pc : Int) + off = (tgt : Int)) (k : Go M d tgt loc st h Q) : Go M d pc loc st h Q := by
  intro p l e R s m args below meth c b D cA k0 z H locs ls Z hcx hR hS hL hs hh hF
  exact lv_goto hcx.1 hcx.2.1 hdg ht (k p l e R s m args below meth c b D cA k0 z H locs ls Z hcx hR hS hL hs hh hF)
theorem g_icmp_eq {x y off : Int} {tgt : Nat} (hdg : decode M.2.1 pc = .ok (.if_icmp .eq off, 3)) (ht : (pc : Int) + off = (tgt : Int)) (k1 : x = y → Go M d tgt loc st h Q) (k2 : ¬ x = y → Go M d (pc + 3) loc st h Q) : Go M d pc loc (.inl y :: .inl x :: st) h Q := by
  intro p l e R s m args below meth c b D cA k0 z H locs ls Z hcx hR hS hL hs hh hF
  have hx : inR x := hs.tl.hd
  have hy : inR y := hs.hd
  have hi := eq_of hx hy
  exact lv_icmp_eq hcx.1 hcx.2.1 hdg ht (fun cc => k1 (hi.mp cc) p l e R s m args below meth c b D cA k0 z H locs ls Z hcx hR hS hL hs.tl.tl hh hF) (fun cc => k2 (fun q => cc (hi.mpr q)) p l e R s m args below meth c b D cA k0 z H locs ls Z hcx hR hS hL hs.tl.tl hh hF)
theorem g_if_eq {x off : Int} {tgt : Nat} (hdg : decode M.2.1 pc = .ok (.ifCond .eq off, 3)) (ht : (pc : Int) + off = (tgt : Int)) (k1 : x = 0 → Go M d tgt loc st h Q) (k2 : ¬ x = 0 → Go M d (pc + 3) loc st h Q) : Go M d pc loc (.inl x :: st) h Q := by
  intro p l e R s m args below meth c b D cA k0 z H locs ls Z hcx hR hS hL hs hh hF
  have hx : inR x := hs.hd
  have hy : inR 0 := inR_0
  have hi := eq_of hx hy
  exact lv_if_eq hcx.1 hcx.2.1 hdg ht (fun cc => k1 (hi.mp cc) p l e R s m args below meth c b D cA k0 z H locs ls Z hcx hR hS hL hs.tl hh hF) (fun cc => k2 (fun q => cc (hi.mpr q)) p l e R s m args below meth c b D cA k0 z H locs ls Z hcx hR hS hL hs.tl hh hF)
theorem g_icmp_ne {x y off : Int} {tgt : Nat} (hdg : decode M.2.1 pc = .ok (.if_icmp .ne off, 3)) (ht : (pc : Int) + off = (tgt : Int)) (k1 : ¬ x = y → Go M d tgt loc st h Q) (k2 : x = y → Go M d (pc + 3) loc st h Q) : Go M d pc loc (.inl y :: .inl x :: st) h Q := by
  intro p l e R s m args below meth c b D cA k0 z H locs ls Z hcx hR hS hL hs hh hF
  have hx : inR x := hs.tl.hd
  have hy : inR y := hs.hd
  have hi := not_congr (eq_of hx hy)
  exact lv_icmp_ne hcx.1 hcx.2.1 hdg ht (fun cc => k1 (hi.mp cc) p l e R s m args below meth c b D cA k0 z H locs ls Z hcx hR hS hL hs.tl.tl hh hF) (fun cc => k2 ((eq_of hx hy).mp cc) p l e R s m args below meth c b D cA k0 z H locs ls Z hcx hR hS hL hs.tl.tl hh hF)
theorem g_if_ne {x off : Int} {tgt : Nat} (hdg : decode M.2.1 pc = .ok (.ifCond .ne off, 3)) (ht : (pc : Int) + off = (tgt : Int)) (k1 : ¬ x = 0 → Go M d tgt loc st h Q) (k2 : x = 0 → Go M d (pc + 3) loc st h Q) : Go M d pc loc (.inl x :: st) h Q := by
  intro p l e R s m args below meth c b D cA k0 z H locs ls Z hcx hR hS hL hs hh hF
  have hx : inR x := hs.hd
  have hy : inR 0 := inR_0
  have hi := not_congr (eq_of hx hy)
  exact lv_if_ne hcx.1 hcx.2.1 hdg ht (fun cc => k1 (hi.mp cc) p l e R s m args below meth c b D cA k0 z H locs ls Z hcx hR hS hL hs.tl hh hF) (fun cc => k2 ((eq_of hx hy).mp cc) p l e R s m args below meth c b D cA k0 z H locs ls Z hcx hR hS hL hs.tl hh hF)
theorem g_icmp_lt {x y off : Int} {tgt : Nat} (hdg : decode M.2.1 pc = .ok (.if_icmp .lt off, 3)) (ht : (pc : Int) + off = (tgt : Int)) (k1 : x < y → Go M d tgt loc st h Q) (k2 : ¬ x < y → Go M d (pc + 3) loc st h Q) : Go M d pc loc (.inl y :: .inl x :: st) h Q := by
  intro p l e R s m args below meth c b D cA k0 z H locs ls Z hcx hR hS hL hs hh hF
  have hx : inR x := hs.tl.hd
  have hy : inR y := hs.hd
  have hi := lt_of hx hy
  exact lv_icmp_lt hcx.1 hcx.2.1 hdg ht (fun cc => k1 (hi.mp cc) p l e R s m args below meth c b D cA k0 z H locs ls Z hcx hR hS hL hs.tl.tl hh hF) (fun cc => k2 (fun q => cc (hi.mpr q)) p l e R s m args below meth c b D cA k0 z H locs ls Z hcx hR hS hL hs.tl.tl hh hF)
theorem g_if_lt {x off : Int} {tgt : Nat} (hdg : decode M.2.1 pc = .ok (.ifCond .lt off, 3)) (ht : (pc : Int) + off = (tgt : Int)) (k1 : x < 0 → Go M d tgt loc st h Q) (k2 : ¬ x < 0 → Go M d (pc + 3) loc st h Q) : Go M d pc loc (.inl x :: st) h Q := by
  intro p l e R s m args below meth c b D cA k0 z H locs ls Z hcx hR hS hL hs hh hF
  have hx : inR x := hs.hd
  have hy : inR 0 := inR_0
  have hi := lt_of hx hy
  exact lv_if_lt hcx.1 hcx.2.1 hdg ht (fun cc => k1 (hi.mp cc) p l e R s m args below meth c b D cA k0 z H locs ls Z hcx hR hS hL hs.tl hh hF) (fun cc => k2 (fun q => cc (hi.mpr q)) p l e R s m args below meth c b D cA k0 z H locs ls Z hcx hR hS hL hs.tl hh hF)
theorem g_icmp_ge {x y off : Int} {tgt : Nat} (hdg : decode M.2.1 pc = .ok (.if_icmp .ge off, 3)) (ht : (pc : Int) + off = (tgt : Int)) (k1 : y ≤ x → Go M d tgt loc st h Q) (k2 : ¬ y ≤ x → Go M d (pc + 3) loc st h Q) : Go M d pc loc (.inl y :: .inl x :: st) h Q := by
  intro p l e R s m args below meth c b D cA k0 z H locs ls Z hcx hR hS hL hs hh hF
  have hx : inR x := hs.tl.hd
  have hy : inR y := hs.hd
  have hi := le_of hy hx
  exact lv_icmp_ge hcx.1 hcx.2.1 hdg ht (fun cc => k1 (hi.mp cc) p l e R s m args below meth c b D cA k0 z H locs ls Z hcx hR hS hL hs.tl.tl hh hF) (fun cc => k2 (fun q => cc (hi.mpr q)) p l e R s m args below meth c b D cA k0 z H locs ls Z hcx hR hS hL hs.tl.tl hh hF)
theorem g_if_ge {x off : Int} {tgt : Nat} (hdg : decode M.2.1 pc = .ok (.ifCond .ge off, 3)) (ht : (pc : Int) + off = (tgt : Int)) (k1 : 0 ≤ x → Go M d tgt loc st h Q) (k2 : ¬ 0 ≤ x → Go M d (pc + 3) loc st h Q) : Go M d pc loc (.inl x :: st) h Q := by
  intro p l e R s m args below meth c b D cA k0 z H locs ls Z hcx hR hS hL hs hh hF
  have hx : inR x := hs.hd
  have hy : inR 0 := inR_0
  have hi := le_of hy hx
  exact lv_if_ge hcx.1 hcx.2.1 hdg ht (fun cc => k1 (hi.mp cc) p l e R s m args below meth c b D cA k0 z H locs ls Z hcx hR hS hL hs.tl hh hF) (fun cc => k2 (fun q => cc (hi.mpr q)) p l e R s m args below meth c b D cA k0 z H locs ls Z hcx hR hS hL hs.tl hh hF)
theorem g_icmp_gt {x y off : Int} {tgt : Nat} (hdg : decode M.2.1 pc = .ok (.if_icmp .gt off, 3)) (ht : (pc : Int) + off = (tgt : Int)) (k1 : y < x → Go M d tgt loc st h Q) (k2 : ¬ y < x → Go M d (pc + 3) loc st h Q) : Go M d pc loc (.inl y :: .inl x :: st) h Q := by
  intro p l e R s m args below meth c b D cA k0 z H locs ls Z hcx hR hS hL hs hh hF
  have hx : inR x := hs.tl.hd
  have hy : inR y := hs.hd
  have hi := lt_of hy hx
  exact lv_icmp_gt hcx.1 hcx.2.1 hdg ht (fun cc => k1 (hi.mp cc) p l e R s m args below meth c b D cA k0 z H locs ls Z hcx hR hS hL hs.tl.tl hh hF) (fun cc => k2 (fun q => cc (hi.mpr q)) p l e R s m args below meth c b D cA k0 z H locs ls Z hcx hR hS hL hs.tl.tl hh hF)
theorem g_if_gt {x off : Int} {tgt : Nat} (hdg : decode M.2.1 pc = .ok (.ifCond .gt off, 3)) (ht : (pc : Int) + off = (tgt : Int)) (k1 : 0 < x → Go M d tgt loc st h Q) (k2 : ¬ 0 < x → Go M d (pc + 3) loc st h Q) : Go M d pc loc (.inl x :: st) h Q := by
  intro p l e R s m args below meth c b D cA k0 z H locs ls Z hcx hR hS hL hs hh hF
  have hx : inR x := hs.hd
  have hy : inR 0 := inR_0
  have hi := lt_of hy hx
  exact lv_if_gt hcx.1 hcx.2.1 hdg ht (fun cc => k1 (hi.mp cc) p l e R s m args below meth c b D cA k0 z H locs ls Z hcx hR hS hL hs.tl hh hF) (fun cc => k2 (fun q => cc (hi.mpr q)) p l e R s m args below meth c b D cA k0 z H locs ls Z hcx hR hS hL hs.tl hh hF)
theorem g_icmp_le {x y off : Int} {tgt : Nat} (hdg : decode M.2.1 pc = .ok (.if_icmp .le off, 3)) (ht : (pc : Int) + off = (tgt : Int)) (k1 : x ≤ y → Go M d tgt loc st h Q) (k2 : ¬ x ≤ y → Go M d (pc + 3) loc st h Q) : Go M d pc loc (.inl y :: .inl x :: st) h Q := by
  intro p l e R s m args below meth c b D cA k0 z H locs ls Z hcx hR hS hL hs hh hF
  have hx : inR x := hs.tl.hd
  have hy : inR y := hs.hd
  have hi := le_of hx hy
  exact lv_icmp_le hcx.1 hcx.2.1 hdg ht (fun cc => k1 (hi.mp cc) p l e R s m args below meth c b D cA k0 z H locs ls Z hcx hR hS hL hs.tl.tl hh hF) (fun cc => k2 (fun q => cc (hi.mpr q)) p l e R s m args below meth c b D cA k0 z H locs ls Z hcx hR hS hL hs.tl.tl hh hF)
theorem g_if_le {x off : Int} {tgt : Nat} (hdg : decode M.2.1 pc = .ok (.ifCond .le off, 3)) (ht : (pc : Int) + off = (tgt : Int)) (k1 : x ≤ 0 → Go M d tgt loc st h Q) (k2 : ¬ x ≤ 0 → Go M d (pc + 3) loc st h Q) : Go M d pc loc (.inl x :: st) h Q := by
  intro p l e R s m args below meth c b D cA k0 z H locs ls Z hcx hR hS hL hs hh hF
  have hx : inR x := hs.hd
  have hy : inR 0 := inR_0
  have hi := le_of hx hy
  exact lv_if_le hcx.1 hcx.2.1 hdg ht (fun cc => k1 (hi.mp cc) p l e R s m args below meth c b D cA k0 z H locs ls Z hcx hR hS hL hs.tl hh hF) (fun cc => k2 (fun q => cc (hi.mpr q)) p l e R s m args below meth c b D cA k0 z H locs ls Z hcx hR hS hL hs.tl hh hF)
theorem g_ifnull {r : Nat} {off : Int} {tgt : Nat} (hdg : decode M.2.1 pc = .ok (.ifnull off, 3)) (ht : (pc : Int) + off = (tgt : Int)) (k1 : r = 0 → Go M d tgt loc st h Q) (k2 : ¬ r = 0 → Go M d (pc + 3) loc st h Q) : Go M d pc loc (.inr r :: st) h Q := by
  intro p l e R s m args below meth c b D cA k0 z H locs ls Z hcx hR hS hL hs hh hF
  rw [List.map_cons]
  cases r with
  | zero => rw [cV_0]; exact lv_ifnullN hcx.1 hcx.2.1 hdg ht (k1 rfl p l e R s m args below meth c b D cA k0 z H locs ls Z hcx hR hS hL hs.tl hh hF)
  | succ r => rw [cV_s]; exact lv_ifnull hcx.1 hcx.2.1 hdg (k2 (by omega) p l e R s m args below meth c b D cA k0 z H locs ls Z hcx hR hS hL hs.tl hh hF)
theorem g_ifnonnull {r : Nat} {off : Int} {tgt : Nat} (hdg : decode M.2.1 pc = .ok (.ifnonnull off, 3)) (ht : (pc : Int) + off = (tgt : Int)) (k1 : ¬ r = 0 → Go M d tgt loc st h Q) (k2 : r = 0 → Go M d (pc + 3) loc st h Q) : Go M d pc loc (.inr r :: st) h Q := by
  intro p l e R s m args below meth c b D cA k0 z H locs ls Z hcx hR hS hL hs hh hF
  rw [List.map_cons]
  cases r with
  | zero => rw [cV_0]; exact lv_ifnonnullN hcx.1 hcx.2.1 hdg (k2 rfl p l e R s m args below meth c b D cA k0 z H locs ls Z hcx hR hS hL hs.tl hh hF)
  | succ r => rw [cV_s]; exact lv_ifnonnull hcx.1 hcx.2.1 hdg ht (k1 (by omega) p l e R s m args below meth c b D cA k0 z H locs ls Z hcx hR hS hL hs.tl hh hF)
theorem g_ret {r : Option PV} {i : Instr} (hdg : decode M.2.1 pc = .ok (i, 1)) (hr : retOK M.2.2.2 i r) (hq : Q r h) : Go M d pc loc r.toList h Q := by
  intro p l e R s m args below meth c b D cA k0 z H locs ls Z hcx hR hS hL hs hh hF
  exact hF r h H locs ls pc i hdg hr hq hh (fun v hv => hs v (by rw [hv]; simp)) hR hS
theorem g_iret {x : Int} (hdg : decode M.2.1 pc = .ok (.ireturn, 1)) (hr : M.2.2.2 = some .int) (hq : Q (some (.inl x)) h) : Go M d pc loc [.inl x] h Q := g_ret (r := some (.inl x)) hdg (Or.inl ⟨rfl, hr, x, rfl⟩) hq
theorem g_zret {x : Int} (hdg : decode M.2.1 pc = .ok (.ireturn, 1)) (hr : M.2.2.2 = some .boolean) (h01 : x = 0 ∨ x = 1) (hq : Q (some (.inl x)) h) : Go M d pc loc [.inl x] h Q := g_ret (r := some (.inl x)) hdg (Or.inr (Or.inl ⟨rfl, hr, by rcases h01 with rfl | rfl; exact Or.inl rfl; exact Or.inr rfl⟩)) hq
theorem g_aret {x : Nat} {n : String} (hdg : decode M.2.1 pc = .ok (.areturn, 1)) (hr : M.2.2.2 = some (.object n)) (hq : Q (some (.inr x)) h) : Go M d pc loc [.inr x] h Q := g_ret (r := some (.inr x)) hdg (Or.inr (Or.inr (Or.inl ⟨rfl, ⟨n, hr⟩, x, rfl⟩))) hq
theorem g_vret (hdg : decode M.2.1 pc = .ok (.return_, 1)) (hr : M.2.2.2 = none) (hq : Q none h) : Go M d pc loc [] h Q := g_ret (r := none) hdg (Or.inr (Or.inr (Or.inr ⟨rfl, hr, rfl⟩))) hq
end ROWS
