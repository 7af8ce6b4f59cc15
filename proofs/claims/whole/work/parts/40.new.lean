/-! CONSTRUCTORS: the cells grow -/
def szD : Dsc → Nat
  | .inl (ci, _) => nF ci
  | .inr (_, n) => n
def szL : List Dsc → Nat
  | [] => 0
  | d :: l => szD d + szL l
theorem szL_app (l : List Dsc) (d : Dsc) : szL (l ++ [d]) = szL l + szD d := by
  induction l with
  | nil => simp [szL]
  | cons a t ih => simp only [List.cons_append, szL, ih]; omega
def RpC (D : va_G) (cA : Nat → ClassId) (b n0 z0 : Nat) (lay : List Dsc) (h : Hp) (H : Heap) : Prop := va_P D vwCl (wd b cA lay h) H ∧ H.size = b + lay.length ∧ n0 ≤ lay.length ∧ z0 ≤ szL lay
def CxC (M : Mth) (d nm zm : Nat) (p : Program) (R : Room) (s : State) (m : MethodId) (args : Array Value) (meth : Method) (c : Code) (b : Nat) (D : va_G) (cA : Nat → ClassId) (n0 z0 : Nat) : Prop :=
  p.tables.exec = Jvm.exec ∧ c.code = M.2.1 ∧ meth.sig.returnType = M.2.2.2 ∧ c.maxLocals = M.2.2.1 ∧ s.vm.findClass M.1.cls = some m.cls ∧ (∀ w ∈ WS, w.before args s = true) ∧ meth.locks = false ∧ va_K D vwCl (tysA cA) s ∧ Nx b s ∧ d ≤ R.frames ∧ 64 * d ≤ R.locals ∧ nm ≤ n0 + R.cells ∧ zm ≤ z0 + R.slots ∧ meth.name = M.1.name ∧ s.heap.size ≤ b + n0 ∧ va_AO "NightCarts$Cart" s
def FinC (M : Mth) (p : Program) (l : Launch) (e : Env) (R : Room) (s : State) (m : MethodId) (args : Array Value) (below : List Frame) (meth : Method) (c : Code) (b : Nat) (D : va_G) (cA : Nat → ClassId) (n0 z0 : Nat) (sz : Bool) (Q : List Dsc → Hp → Prop) (Z : State → Prop) : Prop :=
  ∀ (lay : List Dsc) (h : Hp) (H : Heap) (locs : List Loc) (ls : Array Slot) (pc : Nat), decode M.2.1 pc = .ok (.return_, 1) → M.2.2.2 = none → Q lay h → okH h → va_P D vwCl (wd b cA lay h) H → (sz = true → H.size = b + lay.length) → va_S (fun q => b ≤ q) s.heap H locs → W p l e R s m args below meth c H locs (lay.length - n0) (szL lay - z0) Z (F0 m pc ls [])
def GoC (sz : Bool) (M : Mth) (d nm zm pc : Nat) (loc : List (Option PV)) (st : List PV) (lay : List Dsc) (h : Hp) (Q : List Dsc → Hp → Prop) : Prop :=
  ∀ (p : Program) (l : Launch) (e : Env) (R : Room) (s : State) (m : MethodId) (args : Array Value) (below : List Frame) (meth : Method) (c : Code) (b : Nat) (D : va_G) (cA : Nat → ClassId) (k0 z : Nat) (H : Heap) (locs : List Loc) (ls : Array Slot) (Z : State → Prop),
    CxC M d nm zm p R s m args meth c b D cA k0 z → RpC D cA b k0 z lay h H → va_S (fun q => b ≤ q) s.heap H locs → LH b M.2.2.1 ls loc → okS st → okH h → FinC M p l e R s m args below meth c b D cA k0 z sz Q Z →
    W p l e R s m args below meth c H locs (lay.length - k0) (szL lay - z) Z (F0 m pc ls (st.map (cV b)))
section NEW
variable {sz : Bool} {M : Mth} {d nm zm pc : Nat} {loc : List (Option PV)} {st : List PV} {lay : List Dsc} {h : Hp} {Q : List Dsc → Hp → Prop}
theorem n_iconst {n : Int} (hdg : decode M.2.1 pc = .ok (.iconst n, 1)) (hn : inR n) (k : GoC sz M d nm zm (pc + 1) loc (.inl n :: st) lay h Q) : GoC sz M d nm zm pc loc st lay h Q := by
  intro p l e R s m args below meth c b D cA k0 z H locs ls Z hcx hR hS hL hs hh hF
  exact lv_iconst hcx.1 hcx.2.1 hdg rfl (k p l e R s m args below meth c b D cA k0 z H locs ls Z hcx hR hS hL (hs.cons hn) hh hF)
theorem n_bipush {n : Int} (hdg : decode M.2.1 pc = .ok (.bipush n, 2)) (hn : -128 ≤ n ∧ n < 128) (k : GoC sz M d nm zm (pc + 2) loc (.inl n :: st) lay h Q) : GoC sz M d nm zm pc loc st lay h Q := by
  intro p l e R s m args below meth c b D cA k0 z H locs ls Z hcx hR hS hL hs hh hF
  exact lv_bipush hcx.1 hcx.2.1 hdg (bi_of hn) (k p l e R s m args below meth c b D cA k0 z H locs ls Z hcx hR hS hL (hs.cons ⟨by omega, by omega⟩) hh hF)
theorem n_sipush {n : Int} (hdg : decode M.2.1 pc = .ok (.sipush n, 3)) (hn : -32768 ≤ n ∧ n < 32768) (k : GoC sz M d nm zm (pc + 3) loc (.inl n :: st) lay h Q) : GoC sz M d nm zm pc loc st lay h Q := by
  intro p l e R s m args below meth c b D cA k0 z H locs ls Z hcx hR hS hL hs hh hF
  exact lv_sipush hcx.1 hcx.2.1 hdg (si_of hn) (k p l e R s m args below meth c b D cA k0 z H locs ls Z hcx hR hS hL (hs.cons ⟨by omega, by omega⟩) hh hF)
theorem n_null (hdg : decode M.2.1 pc = .ok (.aconst_null, 1)) (k : GoC sz M d nm zm (pc + 1) loc (.inr 0 :: st) lay h Q) : GoC sz M d nm zm pc loc st lay h Q := by
  intro p l e R s m args below meth c b D cA k0 z H locs ls Z hcx hR hS hL hs hh hF
  have := (k p l e R s m args below meth c b D cA k0 z H locs ls Z hcx hR hS hL (hs.cons (by unfold okV; exact Nat.zero_le _)) hh hF)
  rw [List.map_cons, cV_0] at this
  exact lv_null hcx.1 hcx.2.1 hdg this
theorem n_iload_n {i : Fin 4} {x : Int} (hdg : decode M.2.1 pc = .ok (.iload_n i, 1)) (hl : loc[(i : Nat)]? = some (some (.inl x))) (k : GoC sz M d nm zm (pc + 1) loc (.inl x :: st) lay h Q) : GoC sz M d nm zm pc loc st lay h Q := by
  intro p l e R s m args below meth c b D cA k0 z H locs ls Z hcx hR hS hL hs hh hF
  exact lv_iload_n hcx.1 hcx.2.1 hdg rfl (hL.at hl).1 (k p l e R s m args below meth c b D cA k0 z H locs ls Z hcx hR hS hL (hs.cons (hL.at hl).2) hh hF)
theorem n_iload {i : Nat} {x : Int} (hdg : decode M.2.1 pc = .ok (.iload i, 2)) (hl : loc[i]? = some (some (.inl x))) (k : GoC sz M d nm zm (pc + 2) loc (.inl x :: st) lay h Q) : GoC sz M d nm zm pc loc st lay h Q := by
  intro p l e R s m args below meth c b D cA k0 z H locs ls Z hcx hR hS hL hs hh hF
  exact lv_iload hcx.1 hcx.2.1 hdg (hL.at hl).1 (k p l e R s m args below meth c b D cA k0 z H locs ls Z hcx hR hS hL (hs.cons (hL.at hl).2) hh hF)
theorem n_aload_n {i : Fin 4} {r : Nat} (hdg : decode M.2.1 pc = .ok (.aload_n i, 1)) (hl : loc[(i : Nat)]? = some (some (.inr r))) (k : GoC sz M d nm zm (pc + 1) loc (.inr r :: st) lay h Q) : GoC sz M d nm zm pc loc st lay h Q := by
  intro p l e R s m args below meth c b D cA k0 z H locs ls Z hcx hR hS hL hs hh hF
  have h1 := (hL.at hl).1
  have kk := k p l e R s m args below meth c b D cA k0 z H locs ls Z hcx hR hS hL (hs.cons (hL.at hl).2) hh hF
  rw [List.map_cons] at kk
  cases r with
  | zero => rw [cV_0] at h1 kk; exact lv_aload_nN hcx.1 hcx.2.1 hdg rfl h1 kk
  | succ r => rw [cV_s] at h1 kk; exact lv_aload_n hcx.1 hcx.2.1 hdg rfl h1 kk
theorem n_aload {i : Nat} {r : Nat} (hdg : decode M.2.1 pc = .ok (.aload i, 2)) (hl : loc[i]? = some (some (.inr r))) (k : GoC sz M d nm zm (pc + 2) loc (.inr r :: st) lay h Q) : GoC sz M d nm zm pc loc st lay h Q := by
  intro p l e R s m args below meth c b D cA k0 z H locs ls Z hcx hR hS hL hs hh hF
  have h1 := (hL.at hl).1
  have kk := k p l e R s m args below meth c b D cA k0 z H locs ls Z hcx hR hS hL (hs.cons (hL.at hl).2) hh hF
  rw [List.map_cons] at kk
  cases r with
  | zero => rw [cV_0] at h1 kk; exact lv_aloadN hcx.1 hcx.2.1 hdg h1 kk
  | succ r => rw [cV_s] at h1 kk; exact lv_aload hcx.1 hcx.2.1 hdg h1 kk
theorem n_istore_n {i : Fin 4} {x : Int} (hdg : decode M.2.1 pc = .ok (.istore_n i, 1)) (hi : (i : Nat) < M.2.2.1) (k : GoC sz M d nm zm (pc + 1) (loc.set i (some (.inl x))) st lay h Q) : GoC sz M d nm zm pc loc (.inl x :: st) lay h Q := by
  intro p l e R s m args below meth c b D cA k0 z H locs ls Z hcx hR hS hL hs hh hF
  exact lv_istore_n hcx.1 hcx.2.1 hdg rfl hL.has hi rfl fun ls' hl' => k p l e R s m args below meth c b D cA k0 z H locs ls' Z hcx hR hS (hL.store (v := .inl x) hi hs.hd hl') hs.tl hh hF
theorem n_istore {i : Nat} {x : Int} (hdg : decode M.2.1 pc = .ok (.istore i, 2)) (hi : i < M.2.2.1) (k : GoC sz M d nm zm (pc + 2) (loc.set i (some (.inl x))) st lay h Q) : GoC sz M d nm zm pc loc (.inl x :: st) lay h Q := by
  intro p l e R s m args below meth c b D cA k0 z H locs ls Z hcx hR hS hL hs hh hF
  exact lv_istore hcx.1 hcx.2.1 hdg hL.has hi rfl fun ls' hl' => k p l e R s m args below meth c b D cA k0 z H locs ls' Z hcx hR hS (hL.store (v := .inl x) hi hs.hd hl') hs.tl hh hF
theorem n_astore_n {i : Fin 4} {r : Nat} (hdg : decode M.2.1 pc = .ok (.astore_n i, 1)) (hi : (i : Nat) < M.2.2.1) (k : GoC sz M d nm zm (pc + 1) (loc.set i (some (.inr r))) st lay h Q) : GoC sz M d nm zm pc loc (.inr r :: st) lay h Q := by
  intro p l e R s m args below meth c b D cA k0 z H locs ls Z hcx hR hS hL hs hh hF
  rw [List.map_cons]
  cases r with
  | zero => rw [cV_0]; exact lv_astore_nN hcx.1 hcx.2.1 hdg rfl hL.has hi rfl fun ls' hl' => k p l e R s m args below meth c b D cA k0 z H locs ls' Z hcx hR hS (hL.store (v := .inr 0) hi hs.hd (by rw [cV_0]; exact hl')) hs.tl hh hF
  | succ r => rw [cV_s]; exact lv_astore_n hcx.1 hcx.2.1 hdg rfl hL.has hi rfl fun ls' hl' => k p l e R s m args below meth c b D cA k0 z H locs ls' Z hcx hR hS (hL.store (v := .inr (r + 1)) hi hs.hd (by rw [cV_s]; exact hl')) hs.tl hh hF
theorem n_astore {i : Nat} {r : Nat} (hdg : decode M.2.1 pc = .ok (.astore i, 2)) (hi : i < M.2.2.1) (k : GoC sz M d nm zm (pc + 2) (loc.set i (some (.inr r))) st lay h Q) : GoC sz M d nm zm pc loc (.inr r :: st) lay h Q := by
  intro p l e R s m args below meth c b D cA k0 z H locs ls Z hcx hR hS hL hs hh hF
  rw [List.map_cons]
  cases r with
  | zero => rw [cV_0]; exact lv_astoreN hcx.1 hcx.2.1 hdg hL.has hi rfl fun ls' hl' => k p l e R s m args below meth c b D cA k0 z H locs ls' Z hcx hR hS (hL.store (v := .inr 0) hi hs.hd (by rw [cV_0]; exact hl')) hs.tl hh hF
  | succ r => rw [cV_s]; exact lv_astore hcx.1 hcx.2.1 hdg hL.has hi rfl fun ls' hl' => k p l e R s m args below meth c b D cA k0 z H locs ls' Z hcx hR hS (hL.store (v := .inr (r + 1)) hi hs.hd (by rw [cV_s]; exact hl')) hs.tl hh hF
theorem n_iinc {i : Nat} {n x : Int} (hdg : decode M.2.1 pc = .ok (.iinc i n, 3)) (hl : loc[i]? = some (some (.inl x))) (hi : i < M.2.2.1) (k : GoC sz M d nm zm (pc + 3) (loc.set i (some (.inl (w32 (x + n))))) st lay h Q) : GoC sz M d nm zm pc loc st lay h Q := by
  intro p l e R s m args below meth c b D cA k0 z H locs ls Z hcx hR hS hL hs hh hF
  have hm : (i, cV b (.inl x)) ∈ lvL b loc := lvL_mem.mpr ⟨_, hl, rfl⟩
  obtain ⟨kk, hk⟩ := List.getElem?_of_mem hm
  exact lv_iinc (v := Int32.ofInt (w32 (x + n))) hcx.1 hcx.2.1 hdg hL.has hk (by rw [ofw, Int32.ofInt_add]) hi rfl fun ls' hl' => k p l e R s m args below meth c b D cA k0 z H locs ls' Z hcx hR hS (hL.store (v := .inl (w32 (x + n))) hi (inR_w _) hl') hs hh hF
theorem n_irem {x y : Int} (hdg : decode M.2.1 pc = .ok (.irem, 1)) (hy : y ≠ 0) (k : GoC sz M d nm zm (pc + 1) loc (.inl (irem x y) :: st) lay h Q) : GoC sz M d nm zm pc loc (.inl y :: .inl x :: st) lay h Q := by
  intro p l e R s m args below meth c b D cA k0 z H locs ls Z hcx hR hS hL hs hh hF
  have kk := k p l e R s m args below meth c b D cA k0 z H locs ls Z hcx hR hS hL (hs.tl.tl.cons (inR_t _)) hh hF
  simp only [List.map_cons, cV, irem, Int32.ofInt_toInt] at kk
  exact lv_irem hcx.1 hcx.2.1 hdg (fun e => hy ((eq_of hs.hd inR_0).mp e)) kk
theorem n_dup {v : PV} (hdg : decode M.2.1 pc = .ok (.dup, 1)) (k : GoC sz M d nm zm (pc + 1) loc (v :: v :: st) lay h Q) : GoC sz M d nm zm pc loc (v :: st) lay h Q := by
  intro p l e R s m args below meth c b D cA k0 z H locs ls Z hcx hR hS hL hs hh hF
  exact lv_dup hcx.1 hcx.2.1 hdg (cV_cat b v) (k p l e R s m args below meth c b D cA k0 z H locs ls Z hcx hR hS hL (hs.cons hs.hd) hh hF)
theorem n_goto {off : Int} {tgt : Nat} (hdg : decode M.2.1 pc = .ok (.goto off, 3)) (ht : (pc : Int) + off = (tgt : Int)) (k : GoC sz M d nm zm tgt loc st lay h Q) : GoC sz M d nm zm pc loc st lay h Q := by
  intro p l e R s m args below meth c b D cA k0 z H locs ls Z hcx hR hS hL hs hh hF
  exact lv_goto hcx.1 hcx.2.1 hdg ht (k p l e R s m args below meth c b D cA k0 z H locs ls Z hcx hR hS hL hs hh hF)
theorem n_icmp_ge {x y off : Int} {tgt : Nat} (hdg : decode M.2.1 pc = .ok (.if_icmp .ge off, 3)) (ht : (pc : Int) + off = (tgt : Int)) (k1 : y ≤ x → GoC sz M d nm zm tgt loc st lay h Q) (k2 : ¬ y ≤ x → GoC sz M d nm zm (pc + 3) loc st lay h Q) : GoC sz M d nm zm pc loc (.inl y :: .inl x :: st) lay h Q := by
  intro p l e R s m args below meth c b D cA k0 z H locs ls Z hcx hR hS hL hs hh hF
  have hx : inR x := hs.tl.hd
  have hy : inR y := hs.hd
  have hi := le_of hy hx
  exact lv_icmp_ge hcx.1 hcx.2.1 hdg ht (fun cc => k1 (hi.mp cc) p l e R s m args below meth c b D cA k0 z H locs ls Z hcx hR hS hL hs.tl.tl hh hF) (fun cc => k2 (fun q => cc (hi.mpr q)) p l e R s m args below meth c b D cA k0 z H locs ls Z hcx hR hS hL hs.tl.tl hh hF)
theorem n_if_ne {x off : Int} {tgt : Nat} (hdg : decode M.2.1 pc = .ok (.ifCond .ne off, 3)) (ht : (pc : Int) + off = (tgt : Int)) (k1 : ¬ x = 0 → GoC sz M d nm zm tgt loc st lay h Q) (k2 : x = 0 → GoC sz M d nm zm (pc + 3) loc st lay h Q) : GoC sz M d nm zm pc loc (.inl x :: st) lay h Q := by
  intro p l e R s m args below meth c b D cA k0 z H locs ls Z hcx hR hS hL hs hh hF
  have hx : inR x := hs.hd
  have hy : inR 0 := inR_0
  have hi := not_congr (eq_of hx hy)
  exact lv_if_ne hcx.1 hcx.2.1 hdg ht (fun cc => k1 (hi.mp cc) p l e R s m args below meth c b D cA k0 z H locs ls Z hcx hR hS hL hs.tl hh hF) (fun cc => k2 ((eq_of hx hy).mp cc) p l e R s m args below meth c b D cA k0 z H locs ls Z hcx hR hS hL hs.tl hh hF)
theorem n_if_eq {x off : Int} {tgt : Nat} (hdg : decode M.2.1 pc = .ok (.ifCond .eq off, 3)) (ht : (pc : Int) + off = (tgt : Int)) (k1 : x = 0 → GoC sz M d nm zm tgt loc st lay h Q) (k2 : ¬ x = 0 → GoC sz M d nm zm (pc + 3) loc st lay h Q) : GoC sz M d nm zm pc loc (.inl x :: st) lay h Q := by
  intro p l e R s m args below meth c b D cA k0 z H locs ls Z hcx hR hS hL hs hh hF
  have hx : inR x := hs.hd
  have hy : inR 0 := inR_0
  have hi := eq_of hx hy
  exact lv_if_eq hcx.1 hcx.2.1 hdg ht (fun cc => k1 (hi.mp cc) p l e R s m args below meth c b D cA k0 z H locs ls Z hcx hR hS hL hs.tl hh hF) (fun cc => k2 (fun q => cc (hi.mpr q)) p l e R s m args below meth c b D cA k0 z H locs ls Z hcx hR hS hL hs.tl hh hF)
theorem n_ret (hdg : decode M.2.1 pc = .ok (.return_, 1)) (hr : M.2.2.2 = none) (hq : Q lay h) : GoC sz M d nm zm pc loc [] lay h Q := by
  intro p l e R s m args below meth c b D cA k0 z H locs ls Z hcx hR hS hL hs hh hF
  exact hF lay h H locs ls pc hdg hr hq hh hR.1 (fun _ => hR.2.1) hS
theorem n_obj {idx r : Nat} (hdg : decode M.2.1 pc = .ok (.invokespecial idx, 3)) (hlk : Cond.methodLink M.1.cls idx objectInit ∈ WS) (hw : Cond.instanceMethod objectInit ∈ WS ∧ Cond.code objectInit ⟨#[0xb1]⟩ 1 none ∈ WS) (hst : st.length ≤ 8) (hd : 1 ≤ d) (k : GoC sz M d nm zm (pc + 3) loc st lay h Q) : GoC sz M d nm zm pc loc (.inr (r + 1) :: st) lay h Q := by
  intro p l e R s m args below meth c b D cA k0 z H locs ls Z hcx hR hS hL hs hh hF
  obtain ⟨x1, x2, x3, x4, x5, x6, x7, x8, x9, x10, x11, x12, x13, x14, x15⟩ := id hcx
  have kk := k p l e R s m args below meth c b D cA k0 z H locs ls Z hcx hR hS hL hs.tl hh hF
  rw [List.map_cons, cV_s]
  refine W.objInit x1 x2 x5 (x6 _ hlk) (x6 _ hw.1) (x6 _ hw.2) rfl (by show ls.size = _; rw [x4]; exact hL.1) rfl hdg (by omega) ?_ kk
  have h8 := room_of (b := b) hst
  have h9 := lv_room (m := m) (pc := pc) (ls := ls) (rest := st.map (cV b)) h8
  show 2 * (F0 m pc ls _).monitorRoom + _ + 12 ≤ _
  have : (F0 m pc ls (Value.ref (b + r) :: List.map (cV b) st)).monitorRoom = (F0 m pc ls (st.map (cV b))).monitorRoom := rfl
  rw [this]
  omega
theorem wd_push {b : Nat} {cA : Nat → ClassId} {lay : List Dsc} {h : Hp} {dd : Dsc} : wd b cA (lay ++ [dd]) (hS1 h lay.length (fun _ => 0)) = wd b cA lay h ++ [(b + lay.length, cE b cA dd (fun _ => 0))] := by
  apply List.ext_getElem?
  intro k
  by_cases hk : k < lay.length
  · have h1 : (lay ++ [dd])[k]? = some lay[k] := by rw [List.getElem?_append_left hk, List.getElem?_eq_getElem hk]
    rw [wd_get h1, List.getElem?_append_left (by simpa [wd] using hk), wd_get (List.getElem?_eq_getElem hk)]
    simp [hS1, Nat.ne_of_lt hk]
  · by_cases hk2 : k = lay.length
    · subst hk2
      have h1 : (lay ++ [dd])[lay.length]? = some dd := by simp
      rw [wd_get h1, List.getElem?_append_right (by simp [wd])]
      simp [hS1, wd]
    · rw [List.getElem?_eq_none (by simp [wd]; omega), List.getElem?_eq_none (by simp [wd]; omega)]
theorem okH_0 {h : Hp} {c : Nat} (hh : okH h) : okH (hS1 h c (fun _ => 0)) := by
  intro c' j'
  unfold hS1
  split
  · exact inR_0
  · exact hh c' j'
theorem RpC_push {D : va_G} {cA : Nat → ClassId} {b n0 z0 : Nat} {H H1 : Heap} {dd : Dsc} (hR : RpC D cA b n0 z0 lay h H) (hz : H1.size = H.size + 1) (ho : ∀ q : Nat, q < H.size → H1[q]? = H[q]?) (he : va_at D vwCl (b + lay.length, cE b cA dd (fun _ => 0)) H1) : RpC D cA b n0 z0 (lay ++ [dd]) (hS1 h lay.length (fun _ => 0)) H1 := by
  obtain ⟨hP, hsz, h1, h2⟩ := hR
  refine ⟨?_, by rw [hz, hsz, List.length_append]; rfl, by rw [List.length_append]; omega, by rw [szL_app]; omega⟩
  rw [wd_push]
  have hk : ∀ (k : Nat) (x : Nat × va_E), (wd b cA lay h)[k]? = some x → H1[x.1]? = H[x.1]? := fun k x hx => ho x.1 ((hP k x hx).lt)
  refine (hP.kept hk).app (fun k x hx => ?_)
  have hz : k < 1 := (List.getElem?_eq_some_iff.mp hx).1
  rw [show k = 0 by omega] at hx
  cases hx
  exact he
theorem S_push {b : Nat} {s : State} {H H1 : Heap} {locs : List Loc} (hS : va_S (fun q => b ≤ q) s.heap H locs) (hz : H1.size = H.size + 1) (ho : ∀ q : Nat, q < H.size → H1[q]? = H[q]?) : va_S (fun q => b ≤ q) s.heap H1 locs :=
  ⟨Nat.le_trans hS.1 (by omega), fun x h1 h2 => (ho x (Nat.lt_of_lt_of_le h1 hS.1)).trans (hS.2.1 x h1 h2), hS.2.2⟩
theorem fits_len {n0 : Nat} {dd : Dsc} (h1 : n0 ≤ lay.length) : (lay ++ [dd]).length - n0 = lay.length - n0 + 1 := by rw [List.length_append]; simp only [List.length_cons, List.length_nil]; omega
theorem fits_sz {z0 : Nat} {dd : Dsc} (h1 : z0 ≤ szL lay) : szL (lay ++ [dd]) - z0 = szL lay - z0 + szD dd := by rw [szL_app]; omega
theorem n_new {idx ci N : Nat} {C : String} {T : u_T} (hdg : decode M.2.1 pc = .ok (.new idx, 3)) (hcl : Cls ci C T N) (hlk : Cond.classLink M.1.cls idx C ∈ WS ∧ Cond.instantiable C N ∈ WS ∧ Cond.initialized C ∈ WS) (hdf : ∀ j, j < N → defaultValue (tyF ci j) = fV 0 (tyF ci j) 0 0) (hnm : lay.length + 1 ≤ nm) (hzm : szL lay + N ≤ zm) (hb : lay.length < 1000) (rs : List Nat) (hrs : ∀ j, j < N → rs.getD j 0 = 0)
    (k : GoC sz M d nm zm (pc + 3) loc (.inr (lay.length + 1) :: st) (lay ++ [.inl (ci, rs)]) (hS1 h lay.length (fun _ => 0)) Q) : GoC sz M d nm zm pc loc st lay h Q := by
  intro p l e R s m args below meth c b D cA k0 z H locs ls Z hcx hR hS hL hs hh hF
  obtain ⟨x1, x2, x3, x4, x5, x6, x7, x8, x9, x10, x11, x12, x13, x14, x15⟩ := id hcx
  obtain ⟨h1, h2, h3, h4, rfl⟩ := hcl
  obtain ⟨hP, hsz, hn0, hz0⟩ := id hR
  have hKn := x8.1 ci _ h1
  refine W.newcK x1 x2 x5 (x6 _ hlk.1) (x6 _ hlk.2.1) (x6 _ hlk.2.2) rfl hdg (by omega) (by omega) hKn.2.1 rfl fun H1 kC hkC e1 z1 o1 => ?_
  have kk := k p l e R s m args below meth c b D cA k0 z H1 locs ls Z hcx (RpC_push hR z1 o1 ⟨_, h1, ?_⟩) (S_push hS z1 o1) hL (hs.cons (by show lay.length + 1 ≤ 1000; omega)) (okH_0 hh) hF
  · rw [fits_len hn0, fits_sz hz0, List.map_cons, cV_s, ← hsz] at kk
    exact kk
  · rw [← hsz]
    refine (u_born (tyF ci) x6 h2 hKn hkC e1 h3).to fun j hj => ?_
    rw [hdf j hj]
    simp only [vp_V, List.getD_eq_getElem?_getD, List.getElem?_map, List.getElem?_range hj, Option.map_some, Option.getD_some]
    have hr0 := hrs j hj
    rw [List.getD_eq_getElem?_getD] at hr0
    rw [hr0]
    unfold fV
    split <;> simp [cR]
theorem arrK {cA : Nat → ClassId} {D : va_G} {s : State} {k : Nat} {ty : FieldType} {c0 : ClassId} (hK : va_K D vwCl (tysA cA) s) (hk : (k = 0 ∧ ty = .int) ∨ (k = 1 ∧ ty = .byte) ∨ (k = 2 ∧ ty = .boolean)) (hf : s.vm.findClass ("[" ++ ty.toString) = some c0) : c0 = cA k := by
  rcases hk with ⟨rfl, rfl⟩ | ⟨rfl, rfl⟩ | ⟨rfl, rfl⟩
  · exact Option.some.inj (hf.symm.trans (hK.2 0 _ rfl).2)
  · exact Option.some.inj (hf.symm.trans (hK.2 1 _ rfl).2)
  · exact Option.some.inj (hf.symm.trans (hK.2 2 _ rfl).2)
theorem n_newa {at_ : ArrayType} {kd n : Nat} {x : Int} (hdg : decode M.2.1 pc = .ok (.newarray at_, 2)) (hk : (kd = 0 ∧ newarray.typeOf at_ = .int) ∨ (kd = 1 ∧ newarray.typeOf at_ = .byte) ∨ (kd = 2 ∧ newarray.typeOf at_ = .boolean)) (ha : Cond.arrayClass (newarray.typeOf at_) ∈ WS) (hx : x = (n : Int)) (hn : n ≤ 100000) (hnm : lay.length + 1 ≤ nm) (hzm : szL lay + n ≤ zm) (hb : lay.length < 1000)
    (k : GoC sz M d nm zm (pc + 2) loc (.inr (lay.length + 1) :: st) (lay ++ [.inr (kd, n)]) (hS1 h lay.length (fun _ => 0)) Q) : GoC sz M d nm zm pc loc (.inl x :: st) lay h Q := by
  intro p l e R s m args below meth c b D cA k0 z H locs ls Z hcx hR hS hL hs hh hF
  obtain ⟨x1, x2, x3, x4, x5, x6, x7, x8, x9, x10, x11, x12, x13, x14, x15⟩ := id hcx
  obtain ⟨hP, hsz, hn0, hz0⟩ := id hR
  subst hx
  have hr : inR (n : Int) := hs.hd
  have hcb : componentBytes (newarray.typeOf at_) ≤ 8 := by rcases hk with ⟨-, e1⟩ | ⟨-, e1⟩ | ⟨-, e1⟩ <;> rw [e1] <;> decide
  refine va_newaK x1 x2 (x6 _ ha) rfl hdg (n := Int32.ofInt (n : Int)) (N := n) rfl (fun q => by have := (lt_of hr inR_0).mp q; omega) (by rw [cl_of hr]; simp) (Nat.le_trans (Nat.mul_le_mul_left n hcb) (by omega)) (by omega) (by omega) rfl fun H1 c0 e1 z1 o1 hAr hNm => ?_
  have hc0 : c0 = cA kd := arrK x8 hk hNm
  subst hc0
  have kk := k p l e R s m args below meth c b D cA k0 z H1 locs ls Z hcx (RpC_push hR z1 o1 ?_) (S_push hS z1 o1) hL (hs.tl.cons (by show lay.length + 1 ≤ 1000; omega)) (okH_0 hh) hF
  · rw [fits_len hn0, fits_sz hz0, List.map_cons, cV_s, ← hsz] at kk
    exact kk
  · rw [← hsz]
    rcases hk with ⟨rfl, e2⟩ | ⟨rfl, e2⟩ | ⟨rfl, e2⟩ <;> rw [e2] at e1 <;> exact e1
theorem n_newq {idx n : Nat} {x : Int} (hdg : decode M.2.1 pc = .ok (.anewarray idx, 3)) (hlk : Cond.classLink M.1.cls idx "NightCarts$Cart" ∈ WS) (hx : x = (n : Int)) (hn : n ≤ 100000) (hnm : lay.length + 1 ≤ nm) (hzm : szL lay + n ≤ zm) (hb : lay.length < 1000)
    (k : GoC sz M d nm zm (pc + 3) loc (.inr (lay.length + 1) :: st) (lay ++ [.inr (3, n)]) (hS1 h lay.length (fun _ => 0)) Q) : GoC sz M d nm zm pc loc (.inl x :: st) lay h Q := by
  intro p l e R s m args below meth c b D cA k0 z H locs ls Z hcx hR hS hL hs hh hF
  obtain ⟨x1, x2, x3, x4, x5, x6, x7, x8, x9, x10, x11, x12, x13, x14, x15⟩ := id hcx
  obtain ⟨hP, hsz, hn0, hz0⟩ := id hR
  subst hx
  have hr : inR (n : Int) := hs.hd
  have hcl : (Int32.ofInt (n : Int)).toNatClampNeg = n := by rw [cl_of hr]; simp
  refine W.anew x1 x2 x5 (x6 _ hlk) (va_AO.use x15.2) rfl hdg (n := Int32.ofInt (n : Int)) rfl (fun q => by have := (lt_of hr inR_0).mp q; omega) (by rw [hcl]; omega) (by omega) (by rw [hcl]; omega) fun c0 kA comp f1 f2 f3 f4 => ?_
  rw [hcl]
  generalize hH1 : H.push ({ cls := c0, slots := Array.replicate n .null, vm := .none } : Cell) = H1
  have z1 : H1.size = H.size + 1 := by rw [← hH1, Array.size_push]
  have e1 : H1[H.size]? = some (arrV c0 n (fun _ => .null)) := by rw [← hH1, Array.getElem?_push_size, ← arrV_new]
  have o1 : ∀ q : Nat, q < H.size → H1[q]? = H[q]? := fun q hq => by rw [← hH1, Array.getElem?_push, if_neg (Nat.ne_of_lt hq)]
  have hc0 : c0 = cA 3 := by
    obtain ⟨kB, cB, g1, g2, g3, g4⟩ := (x8.2 3 _ rfl).2
    exact Option.some.inj (f1.symm.trans g4)
  subst hc0
  have kk := k p l e R s m args below meth c b D cA k0 z H1 locs ls Z hcx (RpC_push hR z1 o1 ?_) (S_push hS z1 o1) hL (hs.tl.cons (by show lay.length + 1 ≤ 1000; omega)) (okH_0 hh) hF
  · rw [fits_len hn0, fits_sz hz0, List.map_cons, cV_s, ← hsz] at kk
    exact kk
  · rw [← hsz]
    exact e1
theorem RpC_set {D : va_G} {cA : Nat → ClassId} {b n0 z0 : Nat} {H H1 : Heap} {c : Nat} {dd : Dsc} {f : Nat → Int} (hR : RpC D cA b n0 z0 lay h H) (hd : lay[c]? = some dd) (hz : H1.size = H.size) (ho : ∀ q : Nat, q ≠ b + c → H1[q]? = H[q]?) (he : va_at D vwCl (b + c, cE b cA dd f) H1) : RpC D cA b n0 z0 lay (hS1 h c f) H1 := by
  obtain ⟨hP, hsz, h1, h2⟩ := hR
  refine ⟨?_, by rw [hz, hsz], h1, h2⟩
  rw [← wd_set hd rfl]
  exact hP.set (wd_D (b := b)) (wd_get hd) he ho
theorem n_iast {c n : Nat} {i v : Int} (hdg : decode M.2.1 pc = .ok (.iastore, 1)) (hc : lay[c]? = some (.inr (0, n))) (hi : 0 ≤ i ∧ i < n) (k : GoC sz M d nm zm (pc + 1) loc st lay (hw h c i.toNat v) Q) : GoC sz M d nm zm pc loc (.inl v :: .inl i :: .inr (c + 1) :: st) lay h Q := by
  intro p l e R s m args below meth cd b D cA k0 z H locs ls Z hcx hR hS hL hs hh hF
  obtain ⟨x1, x2, x3, x4, x5, x6, x7, x8, x9, x10, x11, x12, x13, x14, x15⟩ := id hcx
  rw [List.map_cons, List.map_cons, List.map_cons, cV_s]
  have hP := hR.1
  have ha := wd_get (b := b) (cA := cA) (h := h) hc
  have hin := vp_of hs.tl.hd hi
  refine W.iast x1 x2 (hP c _ ha) ((x8.2 0 _ rfl).1 n (fun j => .int (Int32.ofInt (h c j)))) (fun q => by cases q) (by show ¬ (_ < _ ∨ (arrV _ _ _).slots.size ≤ _); rw [arrV_size]; exact hin) rfl rfl hdg fun H1 e1 z1 oq => ?_
  refine k p l e R s m args below meth cd b D cA k0 z H1 _ ls Z hcx ?_ (hS.put z1 oq (Nat.le_add_right _ _)) hL hs.tl.tl.tl (okH_w hh hs.hd) hF
  rw [hw_S1]
  refine RpC_set hR hc z1 oq ?_
  show H1[b + c]? = some (vp_cell _ _)
  rw [e1]
  have hup := upd_of (h c) i.toNat v _ rfl
  rw [cl_of hs.tl.hd]
  show _ = some (vp_cell (cA 0) (n, Sum.inl fun j => Int32.ofInt (if j = i.toNat then v else h c j)))
  rw [← hup]
  show some ((vp_cell (cA 0) (n, Sum.inl fun j => Int32.ofInt (h c j))).setSlot i.toNat (Value.int (Int32.ofInt v))) = _
  rw [vp_cell_i, vp_cell_i, arrV_store]
  congr 2
  funext q
  by_cases hq : q = i.toNat
  · subst hq
    simp [updV, upd]
  · simp [updV, upd, hq]
theorem n_aast {c n q : Nat} {i : Int} {rs : List Nat} (hdg : decode M.2.1 pc = .ok (.aastore, 1)) (hc : lay[c]? = some (.inr (3, n))) (hi : 0 ≤ i ∧ i < n) (hq : lay[q]? = some (.inl (0, rs))) (k : GoC sz M d nm zm (pc + 1) loc st lay (hw h c i.toNat ((q + 1 : Nat) : Int)) Q) : GoC sz M d nm zm pc loc (.inr (q + 1) :: .inl i :: .inr (c + 1) :: st) lay h Q := by
  intro p l e R s m args below meth cd b D cA k0 z H locs ls Z hcx hR hS hL hs hh hF
  obtain ⟨x1, x2, x3, x4, x5, x6, x7, x8, x9, x10, x11, x12, x13, x14, x15⟩ := id hcx
  have hrb : q + 1 ≤ 1000 := hs.hd
  rw [List.map_cons, List.map_cons, List.map_cons, cV_s, cV_s]
  have hP := hR.1
  have ha := wd_get (b := b) (cA := cA) (h := h) hc
  have hv := wd_get (b := b) (cA := cA) (h := h) hq
  have hin := vp_of hs.tl.hd hi
  have hlt : (Int32.ofInt i).toNatClampNeg < n := Nat.not_le.mp fun q => hin (Or.inr q)
  have h0 : ¬ Int32.ofInt i < 0 := fun q => hin (Or.inl q)
  obtain ⟨r', hr', cellV, g1, g2, g3, -⟩ := hP q _ hv
  have hcls := (x8.1 0 (RX0, TX0, 5) rfl).2
  obtain ⟨kA, comp, k1, k2, k3, -⟩ := (x8.2 3 _ rfl).2
  have hcomp : comp = D.1 0 := Option.some.inj (k3.symm.trans hcls.1)
  subst hcomp
  obtain ⟨kC, hkC, -⟩ := hcls.2
  refine W.aast x1 x2 (hP c _ ha) (fun q h => by cases h) (fun h => by cases h) k1 k2 rfl hkC ⟨h0, by show _ < (arrV _ _ _).slots.size; rw [arrV_size]; exact hlt⟩ g1 (fun q h => by rw [g3] at h; cases h) (by rw [g2]; exact hkC) (by rw [g2]; exact va_assign hcls) rfl rfl hdg fun H1 e1 z1 oq => ?_
  refine k p l e R s m args below meth cd b D cA k0 z H1 _ ls Z hcx ?_ (hS.put z1 oq (Nat.le_add_right _ _)) hL hs.tl.tl.tl (okH_w hh ⟨by omega, by omega⟩) hF
  rw [hw_S1]
  refine RpC_set hR hc z1 oq ?_
  show H1[b + c]? = some (vp_cell _ _)
  rw [e1]
  have hup := up_of b (h c) i.toNat (q + 1)
  rw [show cR b (q + 1) = some (b + q) by simp [cR]] at hup
  rw [cl_of hs.tl.hd]
  show _ = some (vp_cell (cA 3) (n, Sum.inr (Sum.inr (Sum.inr (Sum.inr fun j => cR b (if j = i.toNat then ((q + 1 : Nat) : Int) else h c j).toNat)))))
  rw [← hup]
  show some ((vp_cell (cA 3) (n, Sum.inr (Sum.inr (Sum.inr (Sum.inr fun j => cR b (h c j).toNat))))).setSlot i.toNat (Value.ref (b + q))) = _
  rw [vp_cell_q, vp_cell_q, arrV_store]
  congr 2
  funext x
  by_cases hx : x = i.toNat
  · subst hx
    simp [updV, va_up, va_rf]
  · simp [updV, va_up, hx]
theorem wd_lay {b : Nat} {cA : Nat → ClassId} {c : Nat} {dd d0 : Dsc} (hd : lay[c]? = some d0) : (wd b cA lay h).set c (b + c, cE b cA dd (h c)) = wd b cA (lay.set c dd) h := by
  obtain ⟨hl, he⟩ := List.getElem?_eq_some_iff.mp hd
  apply List.ext_getElem?
  intro k
  by_cases hk : k = c
  · subst hk
    rw [List.getElem?_set_self (by simp [wd, hl]), wd_get (d := dd) (by rw [List.getElem?_set_self hl])]
  · rw [List.getElem?_set_ne (Ne.symm hk)]
    by_cases hkl : k < lay.length
    · rw [wd_get (List.getElem?_eq_getElem hkl), wd_get (d := lay[k]) (by rw [List.getElem?_set_ne (Ne.symm hk)]; exact List.getElem?_eq_getElem hkl)]
    · rw [List.getElem?_eq_none (by simp [wd]; omega), List.getElem?_eq_none (by simp [wd]; omega)]
theorem szL_set : ∀ (lay : List Dsc) (c : Nat) (dd d0 : Dsc), lay[c]? = some d0 → szD dd = szD d0 → szL (lay.set c dd) = szL lay
  | [], c, dd, d0, h, _ => by simp at h
  | x :: l, 0, dd, d0, h, hs => by
    simp only [List.getElem?_cons_zero, Option.some.injEq] at h
    simp only [List.set_cons_zero, szL, hs, h]
  | x :: l, c + 1, dd, d0, h, hs => by
    simp only [List.getElem?_cons_succ] at h
    simp only [List.set_cons_succ, szL, szL_set l c dd d0 h hs]
def FLf (own : String) (idx ci k : Nat) : Prop := ∃ (C : String) (T : u_T) (N : Nat), Cls ci C T N ∧ k < N ∧ Cond.fieldLink own idx (T k).1 (T k).2.1 (T k).2.2.1 ∈ WS ∧ (T k).2.2.2 = true ∧ (T k).1 = own
theorem n_putF {idx ci k c r : Nat} {rs : List Nat} (hdg : decode M.2.1 pc = .ok (.putfield idx, 3)) (hf : FLf M.1.cls idx ci k) (hc : lay[c]? = some (.inl (ci, rs))) (hkl : k < rs.length) (hnm : M.1.name = "<init>") (hty : (∃ t, tyF ci k = .array t) ∨ ∃ n, tyF ci k = .object n) (kk : GoC sz M d nm zm (pc + 3) loc st (lay.set c (.inl (ci, rs.set k r))) h Q) : GoC sz M d nm zm pc loc (.inr r :: .inr (c + 1) :: st) lay h Q := by
  intro p l e R s m args below meth cd b D cA k0 z H locs ls Z hcx hR hS hL hs hh hF
  obtain ⟨x1, x2, x3, x4, x5, x6, x7, x8, x9, x10, x11, x12, x13, x14, x15⟩ := id hcx
  obtain ⟨C, T, N, ⟨h1, h2, h3, h4, rfl⟩, hk, hl, hfin, hdecl⟩ := hf
  obtain ⟨hP, hsz, hn0, hz0⟩ := id hR
  rw [List.map_cons, List.map_cons, cV_s]
  have he := wd_get (b := b) (cA := cA) (h := h) hc
  have hap := va_apart (own := M.1.cls) x6 h2 (tyF ci) h3 h4 x8 h1
  obtain ⟨r', hr1, cell, q1, q2, q3, q4⟩ := hP c _ he
  have hr : r' = (C, T, nF ci) := Option.some.inj (hr1.symm.trans h1)
  subst hr
  obtain ⟨hSl, hfc, kC, hkC, hkind⟩ := x8.1 ci _ h1
  obtain ⟨cf, kf, fi, f, hi, hsl⟩ := hSl k hk
  have hlay := x6 _ (h2 _ (u_in_lay hk))
  unfold u_lay at hlay
  rw [if_pos hfin] at hlay
  have hst := (u_facts hfc hkC (u_lays x6 h2 hk) hi).1
  have hcf : m.cls = cf := by
    obtain ⟨_, _, c', _, _, _, -, -, hf', -, -, -, hown2, -⟩ := Cond.laysFinal_spec hlay
    have e1 : c' = cf := by have := hi.symm.trans hf'; simp at this; exact this.1.symm
    rw [hdecl] at hown2
    rw [← e1]; exact Option.some.inj (x5.symm.trans hown2)
  have hnf : narrow (tyF ci k) (cV b (.inr r)) = cV b (.inr r) ∧ fits (tyF ci k) (cV b (.inr r)) = true := by
    show narrow (tyF ci k) (va_rf (cR b r)) = va_rf (cR b r) ∧ fits (tyF ci k) (va_rf (cR b r)) = true
    rcases hty with ⟨t, e1⟩ | ⟨n, e1⟩ <;> rw [e1] <;> cases cR b r <;> exact ⟨rfl, rfl⟩
  have h6 := u_fits hfc hkC hkind (Or.inr hlay) hi (h3 k hk) hnf.1 hnf.2
  refine W.putFinK x1 x2 x5 (x6 _ hl) hi hst hcf (x14.trans hnm) (by rw [q2]; exact h6) q1 q3 (by rw [hsl]; exact k2_hasslot (q4 k hk)) rfl rfl hdg fun H1 e1 e2 e3 => ?_
  rw [hsl] at e1 ⊢
  have hlen : (lay.set c (.inl (ci, rs.set k r))).length = lay.length := List.length_set
  have hszl : szL (lay.set c (.inl (ci, rs.set k r))) = szL lay := szL_set _ _ _ _ hc rfl
  have kk2 := kk p l e R s m args below meth cd b D cA k0 z H1 _ ls Z hcx ⟨?_, by rw [e2, hsz, hlen], by rw [hlen]; exact hn0, by rw [hszl]; exact hz0⟩ (hS.put (k := (D.2 ci) k) e2 e3 (Nat.le_add_right _ _)) hL hs.tl.tl hh hF
  · rw [hlen, hszl] at kk2
    exact kk2
  · rw [← wd_lay hc]
    refine hP.set (wd_D (b := b)) he ⟨_, h1, t_OB.to (V := updV (vp_V _) k (cV b (.inr r))) ⟨_, e1, q2, q3, t_set q4 hap hk _⟩ fun j hj => ?_⟩ e3
    rw [vp_updV_set (by simpa using hk)]
    congr 1
    refine map_set_range _ _ _ _ _ ?_ fun j hj => ?_
    · show fV b (tyF ci k) (h c k) ((rs.set k r).getD k 0) = va_rf (cR b r)
      rw [List.getD_eq_getElem?_getD, List.getElem?_set_self hkl]
      rcases hty with ⟨t, e1⟩ | ⟨n, e1⟩ <;> rw [e1] <;> rfl
    · simp only [List.getD_eq_getElem?_getD]
      rw [List.getElem?_set_ne (Ne.symm hj)]
abbrev rmC (d mc ms : Nat) : Room := { frames := d, cells := mc, slots := ms, locals := 64 * d }
def WdC (D : va_G) (cA : Nat → ClassId) (b : Nat) (lay : List Dsc) (h : Hp) (U : State) : Prop := va_P D vwCl (wd b cA lay h) U.heap ∧ U.heap.size = b + lay.length ∧ va_K D vwCl (tysA cA) U ∧ Nx b U ∧ va_AO "NightCarts$Cart" U
def QgC (sz : Bool) (D : va_G) (cA : Nat → ClassId) (b : Nat) (Q : List Dsc → Hp → Prop) : Array Value → State → Outcome → State → Prop := fun _ st oc t =>
  (∃ (lay : List Dsc) (h : Hp), oc = .returned none ∧ Q lay h ∧ okH h ∧ va_P D vwCl (wd b cA lay h) t.heap ∧ (sz = true → t.heap.size = b + lay.length)) ∧ va_F (fun q => b ≤ q) st t
/-- a constructor's contract -/
def RunsC (sz : Bool) (M : Mth) (d mc ms : Nat) (av : List PV) (lay : List Dsc) (h : Hp) (Q : List Dsc → Hp → Prop) : Prop :=
  ∀ (l : Launch) (D : va_G) (cA : Nat → ClassId) (b : Nat), okH h → okS av → Met l M.1 (wsM M) (rmC d mc ms) (va_Pc (av.map (cV b)) (WdC D cA b lay h)) (QgC sz D cA b Q) mc ms (fun q => b ≤ q)
theorem RunsC.of {mc ms : Nat} {av : List PV} (hy : plainName M.1.cls = true) (hn : av.length ≤ M.2.2.1) (hQ : ∀ lay' h', Q lay' h' → lay'.length = lay.length + mc ∧ szL lay' = szL lay + ms) (hg : GoC sz M d (lay.length + mc) (szL lay + ms) 0 (av.map some ++ List.replicate (M.2.2.1 - av.length) none) [] lay h Q) : RunsC sz M d mc ms av lay h Q := by
  intro l D cA b hh hav
  refine Met.ofW (cc := M.2.1) (maxL := M.2.2.1) (ret := M.2.2.2) hy rfl ?_
  intro p e s m args below meth c s₁ B hml hv
  obtain ⟨rfl, hP, hsz, hK, hN, hAO⟩ := hv
  have hts := atoms_spec (ws := wsM M) B.pre
  have hown : s.vm.findClass M.1.cls = some m.cls := findClass_of_methodNamed B.named
  have hcx : CxC M d (lay.length + mc) (szL lay + ms) p (headSpec (wsM M) (rmC d mc ms)).room s m (av.map (cV b)).toArray meth c b D cA lay.length (szL lay) := ⟨B.exec, B.bytes, B.returns, hml, hown, fun w hw => hts w (List.mem_cons_of_mem _ hw), B.notSynchronized, hK, hN, Nat.le_refl _, Nat.le_refl _, Nat.le_refl _, Nat.le_refl _, (name_of_methodNamed B.named B.method).1, by rw [hsz]; exact Nat.le_refl _, hAO⟩
  have hl := lv_entry (av.map (cV b)) (n := M.2.2.1) (by rw [sl_len]; exact hn)
  rw [lg_entry_eq]
  generalize (lg_sl (av.map (cV b)) ++ List.replicate (M.2.2.1 - (lg_sl (av.map (cV b))).length) Slot.unset).toArray = ls at hl ⊢
  have hLH : LH b M.2.2.1 ls (av.map some ++ List.replicate (M.2.2.1 - av.length) none) := by
    refine ⟨hl.1, hl.2.1, by simp; omega, fun i v hi => ?_⟩
    by_cases hlt : i < av.length
    · rw [List.getElem?_append_left (by simpa using hlt), List.getElem?_map] at hi
      have hv : av[i]? = some v := by
        cases ha : av[i]? with
        | none => rw [ha] at hi; cases hi
        | some w => rw [ha] at hi; simpa using hi
      refine ⟨hl.2.2 (i, cV b v) ?_, hav v (List.mem_of_getElem? hv)⟩
      have := args_mem b av 0 i v hv
      rwa [Nat.zero_add] at this
    · rw [List.getElem?_append_right (by simpa using Nat.le_of_not_lt hlt)] at hi
      have := List.eq_of_mem_replicate (List.mem_of_getElem? hi)
      cases this
  have hw := hg p l e _ s m _ below meth c b D cA lay.length (szL lay) s.heap [] ls (MQ below (QgC sz D cA b Q) (av.map (cV b)).toArray s mc ms (fun q => b ≤ q)) hcx ⟨hP, hsz, Nat.le_refl _, Nat.le_refl _⟩ va_S.rf hLH (fun v hv => by cases hv) hh ?_
  · rw [Nat.sub_self, Nat.sub_self] at hw
    exact hw
  · intro lay' h' H locs ls' pc hd hr hq hh' hP' hz' hS
    have hf : ∀ q ∈ locs, (fun q => b ≤ q) q.base := hS.2.2
    obtain ⟨e1, e2⟩ := hQ lay' h' hq
    rw [e1, e2, Nat.add_sub_cancel_left, Nat.add_sub_cancel_left]
    exact W.vret B.exec B.bytes (B.returns.trans hr) (fun t ht _ => ⟨⟨lay', h', rfl, hq, hh', by rw [ht]; exact hP', fun e => by rw [ht]; exact hz' e⟩, hS.F ht⟩) hf hd B.notSynchronized
theorem blindC {D : va_G} {cA : Nat → ClassId} {b : Nat} {av : List Value} : FrameBlind (va_Pc av (WdC D cA b lay h)) := by
  intro a U g mk q
  obtain ⟨q0, qP, qz, qK, qN, qA⟩ := q
  exact ⟨q0, qP, qz, va_K.moved (u := U) (U := U.calling g mk a) (Vm.Alike.refl U.vm) qK, qN.calling, va_AO.moved (u := U) (U := U.calling g mk a) (Vm.Alike.refl U.vm) qA⟩
theorem callC {p : Program} {l : Launch} {e : Env} {R : Room} {s : State} {m : MethodId} {args : Array Value} {below : List Frame} {meth : Method} {c : Code} {H : Heap} {locs : List Loc} {k z b mc ms : Nat} {Z : State → Prop} {ls : Array Slot} {st0 rest : List Value} {a : Array Value} {D : va_G} {cA : Nat → ClassId} {Q1 : List Dsc → Hp → Prop}
    (hr : va_Run p l e R s m args below meth c H locs k z mc ms (F0 m pc ls st0) rest (QgC sz D cA b Q1 a) (fun q => b ≤ q)) (hS : va_S (fun q => b ≤ q) s.heap H locs)
    (kk : ∀ (lay' : List Dsc) (h' : Hp) (H1 : Heap) (locs1 : List Loc), Q1 lay' h' → okH h' → va_P D vwCl (wd b cA lay' h') H1 → (sz = true → H1.size = b + lay'.length) → va_S (fun q => b ≤ q) s.heap H1 locs1 → W p l e R s m args below meth c H1 locs1 (k + mc) (z + ms) Z (F0 m (pc + 3) ls rest)) :
    W p l e R s m args below meth c H locs k z Z (F0 m pc ls st0) := by
  intro T hT X
  obtain ⟨v, st₀, t, T', L, h0, X', hL, e1, e2, ⟨⟨lay', h', hv, hq, ho, hP, hsz⟩, hz, hk⟩, st⟩ := hr T hT X
  cases hv
  rw [h0] at hz hk
  obtain ⟨t2, a1, b1⟩ := kk lay' h' T'.heap (locs ++ L) hq ho (by rw [e1]; exact hP) (fun e => by rw [e1]; exact hsz e)
    ⟨Nat.le_trans hS.1 (by rw [e1]; exact hz), fun q h1 h2 => by rw [e1, hk q (Nat.lt_of_lt_of_le h1 hS.1) h2]; exact hS.2.1 q h1 h2, fun q hq => by
      rcases List.mem_append.mp hq with h | h
      · exact hS.2.2 q h
      · exact hL q h⟩ T' rfl X'
  exact ⟨t2, st t2 a1, b1⟩
def CBi (M' : Mth) (n : Nat) : Prop := CB M' n ∧ Cond.instanceMethod M'.1 ∈ WS ∧ M'.1.name = "<init>" ∧ M'.2.2.2 = none
theorem n_callI {M' : Mth} {d' idx n r mc ms : Nat} {av : List PV} {Q1 : List Dsc → Hp → Prop} (hdg : decode M.2.1 pc = .ok (.invokespecial idx, 3)) (hlk : Cond.methodLink M.1.cls idx M'.1 ∈ WS ∨ ∃ host, Cond.methodLinkNest M.1.cls idx M'.1 host ∈ NW) (hcb : CBi M' n) (hn : av.length = n) (hst : st.length ≤ 8) (hd : d' + 1 ≤ d) (hnm : lay.length + mc ≤ nm) (hzm : szL lay + ms ≤ zm) (hrun : RunsC true M' d' mc ms (.inr (r + 1) :: av) lay h Q1) (hQ : ∀ lay' h', Q1 lay' h' → lay'.length = lay.length + mc ∧ szL lay' = szL lay + ms)
    (kk : ∀ lay' h', Q1 lay' h' → GoC sz M d nm zm (pc + 3) loc st lay' h' Q) : GoC sz M d nm zm pc loc (av.reverse ++ .inr (r + 1) :: st) lay h Q := by
  intro p l e R s m args below meth cd b D cA k0 z H locs ls Z hcx hR hS hL hs hh hF
  obtain ⟨ho1, ho2⟩ := okS_call hs
  obtain ⟨⟨hcode, hini, hy1, hy2, hpar, hml⟩, hinst, hname, hret⟩ := hcb
  obtain ⟨x1, x2, x3, x4, x5, x6, x7, x8, x9, x10, x11, x12, x13, x14, x15⟩ := id hcx
  obtain ⟨hP, hsz, hn0, hz0⟩ := id hR
  have hM := hrun l D cA b hh ho1
  rw [List.map_append, List.map_cons, cV_s, List.map_reverse]
  have hpre : PreS s H (va_Pc ((.inr (r + 1) :: av).map (cV b)) (WdC D cA b lay h)) (.ref (b + r) :: av.map (cV b)) := ⟨blindC, fun U hU hW => ⟨by rw [List.map_cons, cV_s], by rw [hU]; exact hP, by rw [hU]; exact hsz, va_K.moved hW.alike x8, Nx.warm hW hS hU x9, va_AO.moved hW.alike x15.2⟩⟩
  have hfr : (rmC d' mc ms).frames + 1 ≤ R.frames ∧ 8 + (M'.2.2.1 + 11) + (rmC d' mc ms).locals ≤ R.locals := ⟨by show d' + 1 ≤ R.frames; omega, by show 8 + (M'.2.2.1 + 11) + 64 * d' ≤ R.locals; omega⟩
  have hw : wsM M' = Cond.code M'.1 M'.2.1 M'.2.2.1 none :: WS := by show Cond.code M'.1 M'.2.1 M'.2.2.1 M'.2.2.2 :: WS = _; rw [hret]
  have hrn : va_Run p l e R s m args below meth cd H locs (lay.length - k0) (szL lay - z) mc ms (F0 m pc ls ((av.map (cV b)).reverse ++ .ref (b + r) :: st.map (cV b))) (st.map (cV b)) (QgC true D cA b Q1 (Value.ref (b + r) :: av.map (cV b)).toArray) (fun q => b ≤ q) := by
    rcases hlk with hlk | ⟨host, hlk⟩
    · exact va_runI (As := av.map (cV b)) (rest := st.map (cV b)) ⟨x1, x2, x4, x5, x6⟩ hM (cwI n x6 (good_ws (M := M) hcode) hw rfl rfl (x6 _ hini) (x6 _ hlk) (x6 _ hinst) hname ⟨hy1, hy2, hpar⟩ hfr) hpre rfl (by simpa using hn) hL.1 rfl (lv_room (room_of hst)) hdg ⟨by omega, by omega⟩
    · exact va_runIN (As := av.map (cV b)) (rest := st.map (cV b)) ⟨x1, x2, x4, x5, x6⟩ hM ⟨va_cnB n x6 (good_ws (M := M) hcode) hw rfl rfl (x9.1 _ hlk) (x6 _ hini) ⟨hy1, hy2, hpar⟩ hfr, hname, x6 _ hinst⟩ hpre rfl (by simpa using hn) hL.1 rfl (lv_room (room_of hst)) hdg ⟨by omega, by omega⟩
  refine callC hrn hS ?_
  intro lay' h' H1 locs1 hq ho hP1 hz1 hS1
  obtain ⟨e1, e2⟩ := hQ lay' h' hq
  have := kk lay' h' hq p l e R s m args below meth cd b D cA k0 z H1 locs1 ls Z hcx ⟨hP1, hz1 rfl, by omega, by omega⟩ hS1 hL ho2 ho hF
  rw [e1, e2, show lay.length + mc - k0 = lay.length - k0 + mc by omega, show szL lay + ms - z = szL lay - z + ms by omega] at this
  exact this
/-- behind the last cell the rest is a walk in the world as it stays -/
theorem n_toGo (hl : lay = L0) (hnm : L0.length ≤ nm) (hzm : szL L0 ≤ zm) (hr : M.2.2.2 = none) (k : Go M d pc loc st h (fun _ h' => Q L0 h')) : GoC false M d nm zm pc loc st lay h Q := by
  intro p l e R s m args below meth cd b D cA k0 z H locs ls Z hcx hR hS hL hs hh hF
  subst hl
  obtain ⟨x1, x2, x3, x4, x5, x6, x7, x8, x9, x10, x11, x12, x13, x14, x15⟩ := id hcx
  obtain ⟨hP, hsz, hn0, hz0⟩ := id hR
  refine k p l e R s m args below meth cd b D cA _ _ H locs ls Z ⟨x1, x2, x3, x4, x5, x6, x7, x8, x9, x10, x11, by omega, by omega⟩ hP hS hL hs hh ?_
  intro r h' H1 locs1 ls1 pc1 i hd1 hret hq ho hor hR1 hS1
  rcases hret with ⟨-, e1, -⟩ | ⟨-, e1, -⟩ | ⟨-, ⟨n, e1⟩, -⟩ | ⟨rfl, -, rfl⟩
  · rw [hr] at e1; cases e1
  · rw [hr] at e1; cases e1
  · rw [hr] at e1; cases e1
  · exact hF L0 h' H1 locs1 ls1 pc1 hd1 hr hq ho hR1 (fun e => by cases e) hS1
end NEW
