/-! THE ROWS OF CALLS, SWITCHES, AND OF THE JDK'S OWN -/
section CALLS
variable {M : Mth} {d pc : Nat} {loc : List (Option PV)} {st : List PV} {h : Hp} {Q : Option PV → Hp → Prop}
/-- what a callee's words are -/
def CB (M' : Mth) (n : Nat) : Prop := Cond.code M'.1 M'.2.1 M'.2.2.1 M'.2.2.2 ∈ WS ∧ Cond.initialized M'.1.cls ∈ WS ∧ M'.1.cls ≠ "java/lang/invoke/MethodHandle" ∧ M'.1.cls ≠ "java/lang/invoke/VarHandle" ∧ (parseMethodDescriptor M'.1.desc).map (fun d => d.parameters.length) = some n ∧ M'.2.2.1 ≤ 45
def CBv (M' : Mth) (ci n : Nat) : Prop := CB M' n ∧ Cond.instanceMethod M'.1 ∈ WS ∧ Cond.selects M'.1.cls M'.1 M'.1 ∈ WS ∧ ∃ (T : u_T) (N : Nat), vwCl[ci]? = some (M'.1.cls, T, N)
def CBs (M' : Mth) (n : Nat) : Prop := CB M' n ∧ Cond.static M'.1 ∈ WS
theorem good_ws {M M' : Mth} (hc : Cond.code M'.1 M'.2.1 M'.2.2.1 M'.2.2.2 ∈ WS) : GoodIn WS (wsM M') := fun w hw => by
  rcases List.mem_cons.mp hw with rfl | hw
  · exact ⟨hc, WS_good _ hc⟩
  · exact ⟨hw, WS_good _ hw⟩
theorem NW_warm {s U : State} (hW : s.WarmedH U.vm) (h : ∀ w ∈ NW, va_Nw w s) : ∀ w ∈ NW, va_Nw w U := by
  intro w hw
  have h1 := h w hw
  have h2 := (List.mem_filter.mp hw).2
  cases w with
  | methodLinkNest a i x hh => exact va_Nw.warmM hW h1
  | _ => cases h2
theorem StrU.warm {b : Nat} {s U : State} {H : Heap} {locs : List Loc} (hW : s.WarmedH U.vm) (hS : va_S (fun q => b ≤ q) s.heap H locs) (hU : U.heap = H) (h : StrU b s) : StrU b U := by
  obtain ⟨aS, aV, h1, h2, h3⟩ := h
  refine ⟨aS, aV, vk_R.warm hW h1, ?_, ?_⟩
  · rw [hU]; exact vk_S.moved hW.alike (h2.kept hS.2.1)
  · rw [hU]; exact va_Z.moved hW.alike (h3.kept hS.2.1)
theorem Nx.warm {b : Nat} {s U : State} {H : Heap} {locs : List Loc} (hW : s.WarmedH U.vm) (hS : va_S (fun q => b ≤ q) s.heap H locs) (hU : U.heap = H) (h : Nx b s) : Nx b U := ⟨NW_warm hW h.1, h.2.warm hW hS hU⟩
theorem Nx.calling {b : Nat} {U : State} {g : JFrame} {mk : MethodId} {a : Array Value} (h : Nx b U) : Nx b (U.calling g mk a) := by
  refine ⟨fun w hw => ?_, ?_⟩
  · have h2 := (List.mem_filter.mp hw).2
    cases w with
    | methodLinkNest x i y hh => exact va_Nw.same (u := U) rfl rfl (h.1 _ hw)
    | _ => cases h2
  · obtain ⟨aS, aV, h1, h2, h3⟩ := h.2
    exact ⟨aS, aV, vk_R.same (u := U) rfl h1, vk_S.moved (u := U) (U := U.calling g mk a) (Vm.Alike.refl U.vm) h2, va_Z.moved (u := U) (U := U.calling g mk a) (Vm.Alike.refl U.vm) h3⟩
theorem blind {D : va_G} {cA : Nat → ClassId} {b : Nat} {h : Hp} {av : List Value} : FrameBlind (va_Pc av (Wd D cA b h)) := by
  intro a U g mk q
  obtain ⟨q0, qP, qK, qN⟩ := q
  exact ⟨q0, qP, va_K.moved (u := U) (U := U.calling g mk a) (Vm.Alike.refl U.vm) qK, qN.calling⟩
theorem call_go {p : Program} {l : Launch} {e : Env} {R : Room} {s : State} {m : MethodId} {args : Array Value} {below : List Frame} {meth : Method} {c : Code} {H : Heap} {locs : List Loc} {k z b : Nat} {Z : State → Prop} {ls : Array Slot} {st0 rest : List Value} {a : Array Value} {D : va_G} {cA : Nat → ClassId} {Q1 : Option PV → Hp → Prop}
    (hr : va_Run p l e R s m args below meth c H locs k z 0 0 (F0 m pc ls st0) rest (Qg D cA b Q1 a) (fun q => b ≤ q)) (hS : va_S (fun q => b ≤ q) s.heap H locs)
    (kk : ∀ (r : Option PV) (h' : Hp) (H1 : Heap) (locs1 : List Loc), Q1 r h' → okH h' → okO r → Rp D cA b h' H1 → va_S (fun q => b ≤ q) s.heap H1 locs1 → W p l e R s m args below meth c H1 locs1 k z Z (F0 m (pc + 3) ls ((r.map (cV b)).toList ++ rest))) :
    W p l e R s m args below meth c H locs k z Z (F0 m pc ls st0) := by
  intro T hT X
  obtain ⟨v, st₀, t, T', L, h0, X', hL, e1, e2, ⟨⟨r, h', hv, hq, ho, hor, hR⟩, hz, hk⟩, st⟩ := hr T hT X
  cases hv
  rw [h0] at hz hk
  obtain ⟨t2, a1, b1⟩ := kk r h' T'.heap (locs ++ L) hq ho hor (by rw [e1]; exact hR)
    ⟨Nat.le_trans hS.1 (by rw [e1]; exact hz), fun q h1 h2 => by rw [e1, hk q (Nat.lt_of_lt_of_le h1 hS.1) h2]; exact hS.2.1 q h1 h2, fun q hq => by
      rcases List.mem_append.mp hq with h | h
      · exact hS.2.2 q h
      · exact hL q h⟩ T' rfl X'
  exact ⟨t2, st t2 a1, b1⟩
theorem okS_call {av : List PV} {c : Nat} (hs : okS (av.reverse ++ .inr (c + 1) :: st)) : okS (.inr (c + 1) :: av) ∧ okS st := by
  refine ⟨fun v hv => hs v ?_, fun v hv => hs v ?_⟩
  · rcases List.mem_cons.mp hv with rfl | hv
    · simp
    · simp [hv]
  · simp [hv]
theorem okS_callS {av : List PV} (hs : okS (av.reverse ++ st)) : okS av ∧ okS st := ⟨fun v hv => hs v (by simp [hv]), fun v hv => hs v (by simp [hv])⟩
theorem okS_ret {r : Option PV} (hr : okO r) (hs : okS st) : okS (r.toList ++ st) := fun v hv => by
  rcases List.mem_append.mp hv with h | h
  · exact hr v (by simpa using h)
  · exact hs v h
theorem room_of {b : Nat} {st : List PV} (h : st.length ≤ 8) : ((st.map (cV b)).map fun v => v.category).sum ≤ 8 := by
  have : ((st.map (cV b)).map fun v => v.category).sum = st.length := by
    clear h
    induction st with
    | nil => rfl
    | cons v t ih => simp only [List.map_cons, List.sum_cons, cV_cat, ih, List.length_cons]; omega
  rw [this]; exact h
theorem mapO {b : Nat} (r : Option PV) : (r.map (cV b)).toList = r.toList.map (cV b) := by cases r <;> rfl
theorem g_callV {M' : Mth} {d' idx ci n c : Nat} {av : List PV} {rs : List Nat} {Q1 : Option PV → Hp → Prop} (hdg : decode M.2.1 pc = .ok (.invokevirtual idx, 3)) (hlk : Cond.methodLink M.1.cls idx M'.1 ∈ WS) (hcb : CBv M' ci n) (hc : L0[c]? = some (.inl (ci, rs))) (hn : av.length = n) (hst : st.length ≤ 8) (hd : d' + 1 ≤ d) (hrun : Runs M' d' (.inr (c + 1) :: av) h Q1)
    (kk : ∀ r h', Q1 r h' → Go M d (pc + 3) loc (r.toList ++ st) h' Q) : Go M d pc loc (av.reverse ++ .inr (c + 1) :: st) h Q := by
  intro p l e R s m args below meth cd b D cA k0 z H locs ls Z hcx hR hS hL hs hh hF
  obtain ⟨ho1, ho2⟩ := okS_call hs
  obtain ⟨⟨hcode, hini, hy1, hy2, hpar, hml⟩, hinst, hsel, T, N, hcl⟩ := hcb
  obtain ⟨x1, x2, x3, x4, x5, x6, x7, x8, x9, x10, x11, x12, x13⟩ := id hcx
  have hM := hrun l D cA b hh ho1
  have cw : CallW R s args M.1.cls M'.1.cls idx M'.1 M'.2.1 M'.2.2.1 M'.2.2.2 (wsM M') (rmD d') 0 0 n := by
    refine cwV n x6 (Ts := WS) (fun w hw => ?_) rfl rfl rfl ⟨rfl, hy1, hy2, hpar⟩ ⟨by show d' + 1 ≤ R.frames; omega, by show 8 + (M'.2.2.1 + 11) + 64 * d' ≤ R.locals; omega⟩
    rcases List.mem_append.mp hw with h | h
    · simp only [List.mem_cons, List.not_mem_nil, or_false] at h
      rcases h with rfl | rfl | rfl | rfl
      · exact ⟨hlk, WS_good _ hlk⟩
      · exact ⟨hinst, WS_good _ hinst⟩
      · exact ⟨hsel, WS_good _ hsel⟩
      · exact ⟨hini, WS_good _ hini⟩
    · exact good_ws (M := M) hcode w h
  have hrecv := va_recv x8 hR hcl (wd_get hc)
  rw [List.map_append, List.map_cons, cV_s, List.map_reverse]
  refine call_go (va_runV (As := av.map (cV b)) (rest := st.map (cV b)) ⟨x1, x2, x4, x5, x6⟩ hM cw ⟨blind, hrecv, fun U hU hW => ⟨by rw [List.map_cons, cV_s], by show Rp D cA b h U.heap; rw [hU]; exact hR, va_K.moved hW.alike x8, Nx.warm hW hS hU x9⟩⟩ rfl (by simpa using hn) hL.1 rfl (lv_room (room_of hst)) hdg ⟨x12, x13⟩) hS ?_
  intro r h' H1 locs1 hq ho hor hR1 hS1
  have := kk r h' hq p l e R s m args below meth cd b D cA k0 z H1 locs1 ls Z hcx hR1 hS1 hL (okS_ret hor ho2) ho hF
  rw [List.map_append] at this
  rw [mapO]
  exact this
theorem g_callS {M' : Mth} {d' idx n : Nat} {av : List PV} {Q1 : Option PV → Hp → Prop} (hdg : decode M.2.1 pc = .ok (.invokestatic idx, 3)) (hlk : Cond.methodLink M.1.cls idx M'.1 ∈ WS) (hcb : CBs M' n) (hn : av.length = n) (hst : st.length ≤ 8) (hd : d' + 1 ≤ d) (hrun : Runs M' d' av h Q1)
    (kk : ∀ r h', Q1 r h' → Go M d (pc + 3) loc (r.toList ++ st) h' Q) : Go M d pc loc (av.reverse ++ st) h Q := by
  intro p l e R s m args below meth cd b D cA k0 z H locs ls Z hcx hR hS hL hs hh hF
  obtain ⟨ho1, ho2⟩ := okS_callS hs
  obtain ⟨⟨hcode, hini, hy1, hy2, hpar, hml⟩, hst1⟩ := hcb
  obtain ⟨x1, x2, x3, x4, x5, x6, x7, x8, x9, x10, x11, x12, x13⟩ := id hcx
  have hM := hrun l D cA b hh ho1
  have cw : CallB R s args M.1.cls idx M'.1 M'.2.1 M'.2.2.1 M'.2.2.2 (wsM M') (rmD d') 0 0 n ∧ (Cond.static M'.1).before args s = true := by
    refine va_cwS n x6 (Ts := WS) (fun w hw => ?_) rfl rfl rfl ⟨hy1, hy2, hpar⟩ ⟨by show d' + 1 ≤ R.frames; omega, by show 8 + (M'.2.2.1 + 11) + 64 * d' ≤ R.locals; omega⟩
    rcases List.mem_append.mp hw with h | h
    · simp only [List.mem_cons, List.not_mem_nil, or_false] at h
      rcases h with rfl | rfl | rfl
      · exact ⟨hlk, WS_good _ hlk⟩
      · exact ⟨hst1, WS_good _ hst1⟩
      · exact ⟨hini, WS_good _ hini⟩
    · exact good_ws (M := M) hcode w h
  rw [List.map_append, List.map_reverse]
  refine call_go (va_runS (As := av.map (cV b)) (rest := st.map (cV b)) ⟨x1, x2, x4, x5, x6⟩ hM cw ⟨blind, fun U hU hW => ⟨rfl, by show Rp D cA b h U.heap; rw [hU]; exact hR, va_K.moved hW.alike x8, Nx.warm hW hS hU x9⟩⟩ rfl (by simpa using hn) hL.1 rfl (lv_room (room_of hst)) hdg ⟨x12, x13⟩) hS ?_
  intro r h' H1 locs1 hq ho hor hR1 hS1
  have := kk r h' hq p l e R s m args below meth cd b D cA k0 z H1 locs1 ls Z hcx hR1 hS1 hL (okS_ret hor ho2) ho hF
  rw [List.map_append] at this
  rw [mapO]
  exact this
theorem g_callSN {M' : Mth} {d' idx n : Nat} {host : String} {av : List PV} {Q1 : Option PV → Hp → Prop} (hdg : decode M.2.1 pc = .ok (.invokestatic idx, 3)) (hlk : Cond.methodLinkNest M.1.cls idx M'.1 host ∈ NW) (hcb : CBs M' n) (hn : av.length = n) (hst : st.length ≤ 8) (hd : d' + 1 ≤ d) (hrun : Runs M' d' av h Q1)
    (kk : ∀ r h', Q1 r h' → Go M d (pc + 3) loc (r.toList ++ st) h' Q) : Go M d pc loc (av.reverse ++ st) h Q := by
  intro p l e R s m args below meth cd b D cA k0 z H locs ls Z hcx hR hS hL hs hh hF
  obtain ⟨ho1, ho2⟩ := okS_callS hs
  obtain ⟨⟨hcode, hini, hy1, hy2, hpar, hml⟩, hst1⟩ := hcb
  obtain ⟨x1, x2, x3, x4, x5, x6, x7, x8, x9, x10, x11, x12, x13⟩ := id hcx
  have hM := hrun l D cA b hh ho1
  have cw : va_CN R s args M.1.cls idx M'.1 host M'.2.1 M'.2.2.1 M'.2.2.2 (wsM M') (rmD d') 0 0 n ∧ (Cond.static M'.1).before args s = true ∧ True :=
    ⟨va_cnB n x6 (good_ws (M := M) hcode) rfl rfl rfl (x9.1 _ hlk) (x6 _ hini) ⟨hy1, hy2, hpar⟩ ⟨by show d' + 1 ≤ R.frames; omega, by show 8 + (M'.2.2.1 + 11) + 64 * d' ≤ R.locals; omega⟩, x6 _ hst1, trivial⟩
  rw [List.map_append, List.map_reverse]
  refine call_go (va_runSN (As := av.map (cV b)) (rest := st.map (cV b)) ⟨x1, x2, x4, x5, x6⟩ hM cw ⟨blind, fun U hU hW => ⟨rfl, by show Rp D cA b h U.heap; rw [hU]; exact hR, va_K.moved hW.alike x8, Nx.warm hW hS hU x9⟩⟩ rfl (by simpa using hn) hL.1 rfl (lv_room (room_of hst)) hdg ⟨x12, x13⟩) hS ?_
  intro r h' H1 locs1 hq ho hor hR1 hS1
  have := kk r h' hq p l e R s m args below meth cd b D cA k0 z H1 locs1 ls Z hcx hR1 hS1 hL (okS_ret hor ho2) ho hF
  rw [List.map_append] at this
  rw [mapO]
  exact this
end CALLS
