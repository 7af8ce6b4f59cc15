/-- the heap holds the pure one, at the base b -/
def Rp (D : va_G) (cA : Nat → ClassId) (b : Nat) (h : Hp) (H : Heap) : Prop := va_P D vwCl (wd b cA L0 h) H
/-- the locals hold the pure ones -/
def LH (b n : Nat) (ls : Array Slot) (loc : List (Option PV)) : Prop := ls.size = n ∧ lv_wf ls ∧ loc.length = n ∧ ∀ (i : Nat) (v : PV), loc[i]? = some (some v) → ls[i]? = some (.val (cV b v)) ∧ okV v
/-- the text whose places the reader asks for, and what the tables say of it: outside the cells from b on -/
def strB : List Int32 := [105, 104, 108, 100, 103, 114, 110, 107]
def StrU (b : Nat) (U : State) : Prop := ∃ aS aV : Nat → Nat, vk_R "NightCarts$LawReader" 100 "ihldgrnk" (aS 0) U ∧ vk_S 1 [8] [strB] aS aV (fun q => b ≤ q) U U.heap ∧ va_Z "java/lang/String" "COMPACT_STRINGS" "Z" (.int 1) (fun q => b ≤ q) U U.heap
def Nx (b : Nat) (U : State) : Prop := (∀ w ∈ NW, va_Nw w U) ∧ StrU b U
def okS (st : List PV) : Prop := ∀ v ∈ st, okV v
def okO (r : Option PV) : Prop := ∀ v, r = some v → okV v
/-- what holds in a frame of method M, d frames deep at most -/
def Cx (M : Mth) (d : Nat) (p : Program) (R : Room) (s : State) (m : MethodId) (args : Array Value) (meth : Method) (c : Code) (b : Nat) (D : va_G) (cA : Nat → ClassId) (k z : Nat) : Prop :=
  p.tables.exec = Jvm.exec ∧ c.code = M.2.1 ∧ meth.sig.returnType = M.2.2.2 ∧ c.maxLocals = M.2.2.1 ∧ s.vm.findClass M.1.cls = some m.cls ∧ (∀ w ∈ WS, w.before args s = true) ∧ meth.locks = false ∧ va_K D vwCl (tysA cA) s ∧ Nx b s ∧ d ≤ R.frames ∧ 64 * d ≤ R.locals ∧ k ≤ R.cells ∧ z ≤ R.slots
/-- an answer that the method's kind of return can give -/
def retOK (ret : Option FieldType) (i : Instr) (r : Option PV) : Prop :=
  (i = .ireturn ∧ ret = some .int ∧ ∃ x, r = some (.inl x)) ∨ (i = .ireturn ∧ ret = some .boolean ∧ (r = some (.inl 0) ∨ r = some (.inl 1))) ∨ (i = .areturn ∧ (∃ n, ret = some (.object n)) ∧ ∃ x, r = some (.inr x)) ∨ (i = .return_ ∧ ret = none ∧ r = none)
def FinR (M : Mth) (p : Program) (l : Launch) (e : Env) (R : Room) (s : State) (m : MethodId) (args : Array Value) (below : List Frame) (meth : Method) (c : Code) (b : Nat) (D : va_G) (cA : Nat → ClassId) (k z : Nat) (Q : Option PV → Hp → Prop) (Z : State → Prop) : Prop :=
  ∀ (r : Option PV) (h : Hp) (H : Heap) (locs : List Loc) (ls : Array Slot) (pc : Nat) (i : Instr), decode M.2.1 pc = .ok (i, 1) → retOK M.2.2.2 i r → Q r h → okH h → okO r → Rp D cA b h H → va_S (fun q => b ≤ q) s.heap H locs → W p l e R s m args below meth c H locs k z Z (F0 m pc ls (r.toList.map (cV b)))
/-- from this place on the method comes to its end with Q -/
def Go (M : Mth) (d pc : Nat) (loc : List (Option PV)) (st : List PV) (h : Hp) (Q : Option PV → Hp → Prop) : Prop :=
  ∀ (p : Program) (l : Launch) (e : Env) (R : Room) (s : State) (m : MethodId) (args : Array Value) (below : List Frame) (meth : Method) (c : Code) (b : Nat) (D : va_G) (cA : Nat → ClassId) (k z : Nat) (H : Heap) (locs : List Loc) (ls : Array Slot) (Z : State → Prop),
    Cx M d p R s m args meth c b D cA k z → Rp D cA b h H → va_S (fun q => b ≤ q) s.heap H locs → LH b M.2.2.1 ls loc → okS st → okH h → FinR M p l e R s m args below meth c b D cA k z Q Z →
    W p l e R s m args below meth c H locs k z Z (F0 m pc ls (st.map (cV b)))
def Wd (D : va_G) (cA : Nat → ClassId) (b : Nat) (h : Hp) (U : State) : Prop := Rp D cA b h U.heap ∧ va_K D vwCl (tysA cA) U ∧ Nx b U
def Qg (D : va_G) (cA : Nat → ClassId) (b : Nat) (Q : Option PV → Hp → Prop) : Array Value → State → Outcome → State → Prop := fun _ st oc t =>
  (∃ (r : Option PV) (h : Hp), oc = .returned (r.map (cV b)) ∧ Q r h ∧ okH h ∧ okO r ∧ Rp D cA b h t.heap) ∧ va_F (fun q => b ≤ q) st t
abbrev rmD (d : Nat) : Room := { frames := d, cells := 0, slots := 0, locals := 64 * d }
abbrev wsM (M : Mth) : List Cond := Cond.code M.1 M.2.1 M.2.2.1 M.2.2.2 :: WS
/-- a method's contract: from the arguments av and the heap h it comes to Q -/
def Runs (M : Mth) (d : Nat) (av : List PV) (h : Hp) (Q : Option PV → Hp → Prop) : Prop :=
  ∀ (l : Launch) (D : va_G) (cA : Nat → ClassId) (b : Nat), okH h → okS av → Met l M.1 (wsM M) (rmD d) (va_Pc (av.map (cV b)) (Wd D cA b h)) (Qg D cA b Q) 0 0 (fun q => b ≤ q)
theorem LH.at {b n : Nat} {ls : Array Slot} {loc : List (Option PV)} (h : LH b n ls loc) {i : Nat} {v : PV} (hi : loc[i]? = some (some v)) : ls[i]? = some (.val (cV b v)) ∧ okV v := h.2.2.2 i v hi
/-- the list that the kit's rows speak of -/
def lvL (b : Nat) (loc : List (Option PV)) : List (Nat × Value) := (List.range loc.length).filterMap fun i => (loc.getD i none).map fun v => (i, cV b v)
theorem lvL_mem {b : Nat} {loc : List (Option PV)} {q : Nat × Value} : q ∈ lvL b loc ↔ ∃ v, loc[q.1]? = some (some v) ∧ q.2 = cV b v := by
  simp only [lvL, List.mem_filterMap, List.mem_range, Option.map_eq_some_iff]
  constructor
  · rintro ⟨i, hi, v, hv, rfl⟩
    refine ⟨v, ?_, rfl⟩
    simp only [List.getD_eq_getElem?_getD] at hv
    rw [List.getElem?_eq_getElem hi] at hv ⊢
    simpa using hv
  · rintro ⟨v, hv, h2⟩
    obtain ⟨hl, he⟩ := List.getElem?_eq_some_iff.mp hv
    refine ⟨q.1, hl, v, ?_, ?_⟩
    · simp [List.getD_eq_getElem?_getD, hv]
    · rw [← h2]
theorem LH.has {b n : Nat} {ls : Array Slot} {loc : List (Option PV)} (h : LH b n ls loc) : lv_has ls n (lvL b loc) := by
  refine ⟨h.1, h.2.1, fun q hq => ?_⟩
  obtain ⟨v, h1, h2⟩ := lvL_mem.mp hq
  rw [h2]
  exact (h.2.2.2 _ _ h1).1
theorem LH.store {b n i : Nat} {ls ls' : Array Slot} {loc : List (Option PV)} {v : PV} (h : LH b n ls loc) (hi : i < n) (hv : okV v) (h2 : lv_has ls' n ((i, cV b v) :: (lvL b loc).filter (fun q => !(q.1 == i) && !(q.1 + 1 == i && q.2.category == 2)))) : LH b n ls' (loc.set i (some v)) := by
  refine ⟨h2.1, h2.2.1, by rw [List.length_set]; exact h.2.2.1, fun j w hj => ?_⟩
  by_cases hji : j = i
  · subst hji
    rw [List.getElem?_set_self (by rw [h.2.2.1]; exact hi)] at hj
    cases hj
    exact ⟨h2.2.2 (j, cV b v) List.mem_cons_self, hv⟩
  · rw [List.getElem?_set_ne (Ne.symm hji)] at hj
    refine ⟨h2.2.2 (j, cV b w) (List.mem_cons_of_mem _ (List.mem_filter.mpr ⟨lvL_mem.mpr ⟨w, hj, rfl⟩, ?_⟩)), (h.2.2.2 j w hj).2⟩
    simp [hji, cV_cat]
theorem sl_len (b : Nat) (av : List PV) : (lg_sl (av.map (cV b))).length = av.length := by
  induction av with
  | nil => rfl
  | cons v t ih =>
    have h : lg_sl ((v :: t).map (cV b)) = Slot.val (cV b v) :: lg_sl (t.map (cV b)) := by
      simp only [lg_sl, List.map_cons, List.flatMap_cons, cV_cat]
      rfl
    rw [h, List.length_cons, ih, List.length_cons]
theorem args_mem (b : Nat) : ∀ (av : List PV) (n i : Nat) (v : PV), av[i]? = some v → (n + i, cV b v) ∈ lv_args n (av.map (cV b))
  | [], n, i, v, h => by simp at h
  | w :: t, n, i, v, h => by
    have hc : ¬ (cV b w).category = 2 := by rw [cV_cat]; decide
    rw [List.map_cons, lv_args, if_neg hc]
    cases i with
    | zero =>
      rw [List.getElem?_cons_zero] at h
      cases h
      exact List.mem_cons_self
    | succ i =>
      rw [List.getElem?_cons_succ] at h
      have := args_mem b t (n + 1) i v h
      rw [show n + 1 + i = n + (i + 1) by omega] at this
      exact List.mem_cons_of_mem _ this
theorem nar01 {x : Int} (h : x = 0 ∨ x = 1) : narrow .boolean (.int (Int32.ofInt x)) = .int (Int32.ofInt x) := by
  rcases h with rfl | rfl <;> rfl
/-- a method out of a walk of its body -/
theorem Runs.of {M : Mth} {d : Nat} {av : List PV} {h : Hp} {Q : Option PV → Hp → Prop} (hy : plainName M.1.cls = true) (hn : av.length ≤ M.2.2.1) (hg : Go M d 0 (av.map some ++ List.replicate (M.2.2.1 - av.length) none) [] h Q) : Runs M d av h Q := by
  intro l D cA b hh hav
  refine Met.ofW (cc := M.2.1) (maxL := M.2.2.1) (ret := M.2.2.2) hy rfl ?_
  intro p e s m args below meth c s₁ B hml hv
  obtain ⟨rfl, hP, hK, hN⟩ := hv
  have hts := atoms_spec (ws := wsM M) B.pre
  have hown : s.vm.findClass M.1.cls = some m.cls := findClass_of_methodNamed B.named
  have hcx : Cx M d p (headSpec (wsM M) (rmD d)).room s m (av.map (cV b)).toArray meth c b D cA 0 0 := ⟨B.exec, B.bytes, B.returns, hml, hown, fun w hw => hts w (List.mem_cons_of_mem _ hw), B.notSynchronized, hK, hN, Nat.le_refl _, Nat.le_refl _, Nat.le_refl _, Nat.le_refl _⟩
  have hl := lv_entry (av.map (cV b)) (n := M.2.2.1) (by rw [sl_len]; exact hn)
  rw [lg_entry_eq]
  generalize (lg_sl (av.map (cV b)) ++ List.replicate (M.2.2.1 - (lg_sl (av.map (cV b))).length) Slot.unset).toArray = ls at hl ⊢
  have hLH : LH b M.2.2.1 ls (av.map some ++ List.replicate (M.2.2.1 - av.length) none) := by
    refine ⟨hl.1, hl.2.1, by simp; omega, fun i v hi => ?_⟩
    by_cases hlt : i < av.length
    · rw [List.getElem?_append_left (by simpa using hlt), List.getElem?_map] at hi
      have hv : av[i]? = some v := by
        cases ha : av[i]? with
        | none => rw [ha] at hi; cases hi
        | some w => rw [ha] at hi; simpa using hi
      refine ⟨hl.2.2 (i, cV b v) ?_, hav v (List.mem_of_getElem? hv)⟩
      have := args_mem b av 0 i v hv
      rwa [Nat.zero_add] at this
    · rw [List.getElem?_append_right (by simpa using Nat.le_of_not_lt hlt)] at hi
      have := List.eq_of_mem_replicate (List.mem_of_getElem? hi)
      cases this
  refine hg p l e _ s m _ below meth c b D cA 0 0 s.heap [] ls _ hcx hP va_S.rf hLH (fun v hv => by cases hv) hh ?_
  intro r h' H locs ls' pc i hd hr hq hh' hor hR hS
  have hf : ∀ q ∈ locs, (fun q => b ≤ q) q.base := hS.2.2
  have hQ : ∀ t : State, t.heap = H → s.WarmedH t.vm → Qg D cA b Q (av.map (cV b)).toArray s (.returned (r.map (cV b))) t := fun t ht _ => ⟨⟨r, h', rfl, hq, hh', hor, by rw [ht]; exact hR⟩, hS.F ht⟩
  rcases hr with ⟨rfl, hret, x, rfl⟩ | ⟨rfl, hret, hx⟩ | ⟨rfl, ⟨n, hret⟩, x, rfl⟩ | ⟨rfl, hret, rfl⟩
  · exact W.iret B.exec B.bytes (B.returns.trans hret) hQ hf hd B.notSynchronized
  · rcases hx with rfl | rfl
    · exact W.zret B.exec B.bytes (B.returns.trans hret) (nar01 (Or.inl rfl)) hQ hf hd B.notSynchronized
    · exact W.zret B.exec B.bytes (B.returns.trans hret) (nar01 (Or.inr rfl)) hQ hf hd B.notSynchronized
  · refine W.aret B.exec B.bytes (B.returns.trans hret) (Or.inl ⟨n, rfl⟩) ?_ hQ hf hd B.notSynchronized
    show va_rf (cR b x) = .null ∨ ∃ a, va_rf (cR b x) = .ref a
    cases cR b x with
    | none => exact Or.inl rfl
    | some a => exact Or.inr ⟨a, rfl⟩
  · exact W.vret B.exec B.bytes (B.returns.trans hret) hQ hf hd B.notSynchronized
