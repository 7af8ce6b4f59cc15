/-! THE LAW'S BODY -/
def LX (L : Nat) (xs : Nat → Int32) (p : Program) (s : State) (m : MethodId) (meth : Method) (c : Code) (bs b : Nat) (D : va_G) (cA : Nat → ClassId) : Prop := lw_At p s m meth c bs L xs ∧ b = s.heap.size ∧ va_K D vwCl (tysA cA) s ∧ Nx b s
def GoL (L : Nat) (xs : Nat → Int32) (pc : Nat) (i : Int) (st : List PV) (h : Hp) : Prop :=
  ∀ (p : Program) (l : Launch) (e : Env) (s : State) (m : MethodId) (below : List Frame) (meth : Method) (c : Code) (bs b : Nat) (D : va_G) (cA : Nat → ClassId) (H : Heap) (locs : List Loc) (ls : Array Slot),
    LX L xs p s m meth c bs b D cA → Rp D cA b h H → va_S (fun q => b ≤ q) s.heap H locs → lv_has ls 4 [(0, .ref bs), (1, .ref b), (2, .ref (b + 83)), (3, .int (Int32.ofInt i))] → okS st → okH h → inR i →
    W p l e room_1 s m #[Value.ref bs] below meth c H locs 124 6204 (lw_Z below #[Value.ref bs] s) (F0 m pc ls (st.map (cV b)))
section LAWROWS
variable {L : Nat} {xs : Nat → Int32} {pc : Nat} {i : Int} {st : List PV} {h : Hp}
theorem l_ok (k : okH h → inR i → GoL L xs pc i st h) : GoL L xs pc i st h := by
  intro p l e s m below meth c bs b D cA H locs ls hx hR hS hl hs hh hi
  exact k hh hi p l e s m below meth c bs b D cA H locs ls hx hR hS hl hs hh hi
theorem l_x (hdg : decode cL_law pc = .ok (.aload_n 1, 1)) (k : GoL L xs (pc + 1) i (.inr 1 :: st) h) : GoL L xs pc i st h := by
  intro p l e s m below meth c bs b D cA H locs ls hx hR hS hl hs hh hi
  have kk := k p l e s m below meth c bs b D cA H locs ls hx hR hS hl (hs.cons (by show 1 ≤ 1000; omega)) hh hi
  rw [List.map_cons, show cV b (.inr 1) = .ref b from cV_s b 0] at kk
  exact lv_aload_n hx.1.1 hx.1.2.1 hdg rfl (lv_at hl 1 rfl) kk
theorem l_m (hdg : decode cL_law pc = .ok (.aload_n 2, 1)) (k : GoL L xs (pc + 1) i (.inr 84 :: st) h) : GoL L xs pc i st h := by
  intro p l e s m below meth c bs b D cA H locs ls hx hR hS hl hs hh hi
  have kk := k p l e s m below meth c bs b D cA H locs ls hx hR hS hl (hs.cons (by show 84 ≤ 1000; omega)) hh hi
  rw [List.map_cons, show cV b (.inr 84) = .ref (b + 83) from cV_s b 83] at kk
  exact lv_aload_n hx.1.1 hx.1.2.1 hdg rfl (lv_at hl 2 rfl) kk
theorem l_arg (q : Int) (hq : 0 ≤ q ∧ q < 6) (hL : L ≤ 3072) (hi0 : 0 ≤ i ∧ i + 6 ≤ L) (d1 : decode cL_law pc = .ok (.aload_n 0, 1)) (d2 : decode cL_law (pc + 1) = .ok (.iload_n 3, 1)) (d3 : decode cL_law (pc + 2) = .ok (.iconst q, 1)) (d4 : decode cL_law (pc + 3) = .ok (.iadd, 1)) (d5 : decode cL_law (pc + 4) = .ok (.iaload, 1))
    (k : GoL L xs (pc + 5) i (.inl (xs (i + q).toNat).toInt :: st) h) : GoL L xs pc i st h := by
  intro p l e s m below meth c bs b D cA H locs ls hx hR hS hl hs hh hi
  have kk := k p l e s m below meth c bs b D cA H locs ls hx hR hS hl (hs.cons (inR_t _)) hh hi
  obtain ⟨⟨x1, x2, x3, x4, x5, x6, x7, x8, x9, x10⟩, xb, xK, xN⟩ := id hx
  refine lv_aload_n x1 x2 d1 rfl (lv_at hl 0 rfl) ?_
  refine lv_iload_n x1 x2 d2 rfl (lv_at hl 3 rfl) ?_
  refine lv_iconst (v := Int32.ofInt q) x1 x2 d3 rfl ?_
  refine lv_iadd x1 x2 d4 ?_
  have hr : inR (i + q) := ⟨by omega, by omega⟩
  rw [← Int32.ofInt_add]
  refine va_sld x1 x2 x7 x8 (A := fun q => b ≤ q) (by omega) hS (vp_of hr ⟨by omega, by omega⟩) d5 ?_
  rw [cl_of hr]
  rw [List.map_cons] at kk
  have e : cV b (.inl (xs (i + q).toNat).toInt) = .int (xs (i + q).toNat) := by simp [cV]
  rw [e] at kk
  exact kk
theorem l_call {M' : Mth} {d' idx ci n c0 : Nat} {av : List PV} {rs : List Nat} {r : Int} {h1 : Hp} (hdg : decode cL_law pc = .ok (.invokevirtual idx, 3)) (hlk : Cond.methodLink RL idx M'.1 ∈ WS) (hcb : CBv M' ci n) (hc : L0[c0]? = some (.inl (ci, rs))) (hn : av.length = n) (hst : st.length ≤ 8) (hd : d' + 1 ≤ 1300) (hrun : Runs M' d' (.inr (c0 + 1) :: av) h (Qi (r, h1)))
    (kk : GoL L xs (pc + 3) i (.inl r :: st) h1) : GoL L xs pc i (av.reverse ++ .inr (c0 + 1) :: st) h := by
  intro p l e s m below meth cd bs b D cA H locs ls hx hR hS hl hs hh hi
  obtain ⟨ho1, ho2⟩ := okS_call hs
  obtain ⟨⟨hcode, hini, hy1, hy2, hpar, hml⟩, hinst, hsel, T, N, hcl⟩ := hcb
  obtain ⟨⟨x1, x2, x3, x4, x5, x6, x7, x8, x9, x10⟩, xb, xK, xN⟩ := id hx
  have x6' : ∀ w ∈ WS, w.before #[Value.ref bs] s = true := fun w hw => x6 w (List.mem_filter.mp hw).1
  have hM := hrun l D cA b hh ho1
  have cw : CallW room_1 s #[Value.ref bs] RL M'.1.cls idx M'.1 M'.2.1 M'.2.2.1 M'.2.2.2 (wsM M') (rmD d') 0 0 n := by
    refine cwV n x6' (Ts := WS) (fun w hw => ?_) rfl rfl rfl ⟨rfl, hy1, hy2, hpar⟩ ⟨by show d' + 1 ≤ 2048; omega, by show 8 + (M'.2.2.1 + 11) + 64 * d' ≤ 84000; omega⟩
    rcases List.mem_append.mp hw with h | h
    · simp only [List.mem_cons, List.not_mem_nil, or_false] at h
      rcases h with rfl | rfl | rfl | rfl
      · exact ⟨hlk, WS_good _ hlk⟩
      · exact ⟨hinst, WS_good _ hinst⟩
      · exact ⟨hsel, WS_good _ hsel⟩
      · exact ⟨hini, WS_good _ hini⟩
    · exact good_ws (M := M') hcode w h
  have hrecv := va_recv xK hR hcl (wd_get hc)
  rw [List.map_append, List.map_cons, cV_s, List.map_reverse]
  refine call_go (va_runV (As := av.map (cV b)) (rest := st.map (cV b)) ⟨x1, x2, x4, x5, x6'⟩ hM cw ⟨blind, hrecv, fun U hU hW => ⟨by rw [List.map_cons, cV_s], by show Rp D cA b h U.heap; rw [hU]; exact hR, va_K.moved hW.alike xK, Nx.warm hW hS hU xN⟩⟩ rfl (by simpa using hn) hl.1 rfl (lv_room (room_of hst)) hdg ⟨by show 124 + 0 ≤ 600000; omega, by show 6204 + 0 ≤ 7302250; omega⟩) hS ?_
  intro r2 h' H1 locs1 hq ho hor hR1 hS1
  obtain ⟨rfl, rfl⟩ := hq
  exact kk p l e s m below meth cd bs b D cA H1 locs1 ls hx hR1 hS1 hl (ho2.cons (hor _ rfl)) ho hi
theorem l_eq {x y off : Int} {tgt : Nat} (hdg : decode cL_law pc = .ok (.if_icmp .eq off, 3)) (ht : (pc : Int) + off = (tgt : Int)) (he : x = y) (k : GoL L xs tgt i st h) : GoL L xs pc i (.inl y :: .inl x :: st) h := by
  intro p l e s m below meth c bs b D cA H locs ls hx hR hS hl hs hh hi
  subst he
  exact lv_icmp_eq hx.1.1 hx.1.2.1 hdg ht (fun _ => k p l e s m below meth c bs b D cA H locs ls hx hR hS hl hs.tl.tl hh hi) (fun cc => absurd rfl cc)
theorem l_end {tgt : Nat} {off : Int} (d1 : decode cL_law pc = .ok (.iinc 3 6, 3)) (d2 : decode cL_law (pc + 3) = .ok (.goto off, 3)) (ht : ((pc + 3 : Nat) : Int) + off = (tgt : Int)) (hi2 : 0 ≤ i ∧ i ≤ 3072) (k : GoL L xs tgt (i + 6) [] h) : GoL L xs pc i [] h := by
  intro p l e s m below meth c bs b D cA H locs ls hx hR hS hl hs hh hi
  refine lv_iinc (v := Int32.ofInt (i + 6)) (lv' := [(3, .int (Int32.ofInt (i + 6))), (0, .ref bs), (1, .ref b), (2, .ref (b + 83))]) hx.1.1 hx.1.2.1 d1 hl (k := 3) rfl (by rw [Int32.ofInt_add]) (by decide) rfl (fun ls hl => ?_)
  refine lv_goto hx.1.1 hx.1.2.1 d2 ht ?_
  exact k p l e s m below meth c bs b D cA H locs ls hx hR hS (lv_sub hl [1, 2, 3, 0] rfl) hs hh ⟨by omega, by omega⟩
/-- the head of the law's loop -/
theorem l_head {tgt : Nat} {off : Int} (hL : L ≤ 3072) (hi0 : 0 ≤ i ∧ i ≤ 3078) (d1 : decode cL_law pc = .ok (.iload_n 3, 1)) (d2 : decode cL_law (pc + 1) = .ok (.aload_n 0, 1)) (d3 : decode cL_law (pc + 2) = .ok (.arraylength, 1)) (d4 : decode cL_law (pc + 3) = .ok (.bipush 6, 2)) (d5 : decode cL_law (pc + 5) = .ok (.isub, 1)) (d6 : decode cL_law (pc + 6) = .ok (.if_icmp .gt off, 3)) (ht : ((pc + 6 : Nat) : Int) + off = (tgt : Int))
    (k1 : (L : Int) - 6 < i → GoL L xs tgt i [] h) (k2 : i + 6 ≤ L → GoL L xs (pc + 9) i [] h) : GoL L xs pc i [] h := by
  intro p l e s m below meth c bs b D cA H locs ls hx hR hS hl hs hh hi
  obtain ⟨⟨x1, x2, x3, x4, x5, x6, x7, x8, x9, x10⟩, xb, xK, xN⟩ := id hx
  refine lv_iload_n x1 x2 d1 rfl (lv_at hl 3 rfl) ?_
  refine lv_aload_n x1 x2 d2 rfl (lv_at hl 0 rfl) ?_
  refine va_slen x1 x2 x7 x8 (A := fun q => b ≤ q) (by omega) hS d3 ?_
  refine lv_bipush (v := 6) x1 x2 d4 rfl ?_
  refine lv_isub x1 x2 d5 ?_
  have eL : Int32.ofNat L - 6 = Int32.ofInt ((L : Int) - 6) := by rw [Int32.ofInt_sub]; rfl
  have hr : inR ((L : Int) - 6) := ⟨by omega, by omega⟩
  rw [eL]
  refine lv_icmp_gt x1 x2 d6 ht (fun cc => ?_) (fun cc => ?_)
  · exact k1 ((lt_of hr hi).mp cc) p l e s m below meth c bs b D cA H locs ls hx hR hS hl hs hh hi
  · exact k2 (by have := (not_congr (lt_of hr hi)).mp cc; omega) p l e s m below meth c bs b D cA H locs ls hx hR hS hl hs hh hi
theorem l_true (d1 : decode cL_law pc = .ok (.iconst 1, 1)) (d2 : decode cL_law (pc + 1) = .ok (.ireturn, 1)) : GoL L xs pc i [] h := by
  intro p l e s m below meth c bs b D cA H locs ls hx hR hS hl hs hh hi
  obtain ⟨⟨x1, x2, x3, x4, x5, x6, x7, x8, x9, x10⟩, xb, xK, xN⟩ := id hx
  refine lv_iconst (v := 1) x1 x2 d1 rfl ?_
  refine va_forget (fun q hq => by have := hS.2.2 q hq; omega) ?_
  refine W.widen (k := 600000) (n := 7302250) (by omega) (by omega) ?_
  exact lw_ret x1 x2 x3 x9 d2
/-- which case it is -/
theorem l_kind (hL : L ≤ 3072) (hi0 : 0 ≤ i ∧ i + 6 ≤ L) (d1 : decode cL_law pc = .ok (.aload_n 0, 1)) (d2 : decode cL_law (pc + 1) = .ok (.iload_n 3, 1)) (d3 : decode cL_law (pc + 2) = .ok (.iaload, 1)) (d4 : decode cL_law (pc + 3) = .ok (.bipush 31, 2)) (d5 : decode cL_law (pc + 5) = .ok (.iand, 1))
    (k : ∀ x : Int, GoL L xs (pc + 6) i [.inl x] h) : GoL L xs pc i [] h := by
  intro p l e s m below meth c bs b D cA H locs ls hx hR hS hl hs hh hi
  obtain ⟨⟨x1, x2, x3, x4, x5, x6, x7, x8, x9, x10⟩, xb, xK, xN⟩ := id hx
  refine lv_aload_n x1 x2 d1 rfl (lv_at hl 0 rfl) ?_
  refine lv_iload_n x1 x2 d2 rfl (lv_at hl 3 rfl) ?_
  refine va_sld x1 x2 x7 x8 (A := fun q => b ≤ q) (by omega) hS (vp_of hi ⟨by omega, by omega⟩) d3 ?_
  refine lv_bipush (v := 31) x1 x2 d4 rfl ?_
  refine lv_iand x1 x2 d5 ?_
  have kk := k ((xs (Int32.ofInt i).toNatClampNeg) &&& 31).toInt p l e s m below meth c bs b D cA H locs ls hx hR hS hl (hs.cons (inR_t _)) hh hi
  rw [List.map_cons] at kk
  have e2 : cV b (.inl ((xs (Int32.ofInt i).toNatClampNeg) &&& 31).toInt) = .int ((xs (Int32.ofInt i).toNatClampNeg) &&& 31) := by simp [cV]
  rw [e2] at kk
  exact kk
theorem l_swOut {dflt lo hi2 x : Int} {offs : Array Int} {len tgt : Nat} (hdg : decode cL_law pc = .ok (.tableswitch dflt lo hi2 offs, len)) (hx2 : x < lo ∨ hi2 < x) (ht : (pc : Int) + dflt = (tgt : Int)) (k : GoL L xs tgt i [] h) : GoL L xs pc i [.inl x] h := by
  intro p l e s m below meth c bs b D cA H locs ls hx hR hS hl hs hh hi
  have ex : (Int32.ofInt x).toInt = x := toR hs.hd
  exact lv_tableOut hx.1.1 hx.1.2.1 hdg (by rw [ex]; exact hx2) ht (k p l e s m below meth c bs b D cA H locs ls hx hR hS hl hs.tl hh hi)
theorem l_swIn {dflt lo hi2 x off : Int} {offs : Array Int} {len tgt : Nat} (hdg : decode cL_law pc = .ok (.tableswitch dflt lo hi2 offs, len)) (h1 : ¬ x < lo) (h2 : ¬ hi2 < x) (ho : offs[(x - lo).toNat]? = some off) (ht : (pc : Int) + off = (tgt : Int)) (k : GoL L xs tgt i [] h) : GoL L xs pc i [.inl x] h := by
  intro p l e s m below meth c bs b D cA H locs ls hx hR hS hl hs hh hi
  have ex : (Int32.ofInt x).toInt = x := toR hs.hd
  exact lv_tableIn hx.1.1 hx.1.2.1 hdg (by rw [ex]; exact h1) (by rw [ex]; exact h2) (by rw [ex]; exact ho) ht (k p l e s m below meth c bs b D cA H locs ls hx hR hS hl hs.tl hh hi)
end LAWROWS
/-- class and reference answer alike, and what holds between them goes on holding -/
def Sm (Inv : Hp → Prop) (f g : Hp → Option (Int × Hp)) : Prop := ∀ h, okH h → Inv h → ∃ (r : Int) (h1 h2 : Hp), f h = some (r, h1) ∧ g h1 = some (r, h2) ∧ Inv h2
set_option maxRecDepth 100000 in
set_option maxHeartbeats 4000000 in
theorem l_case0 {L : Nat} {xs : Nat → Int32} {i : Int} {N : Nat} {Inv : Hp → Prop} (o : ∀ a1 : Int, inR a1 → ∀ a2 : Int, inR a2 → ∀ a3 : Int, inR a3 → ∀ a4 : Int, inR a4 → Sm Inv (F_X11_street N a1 a2 a3 a4) (F_X12_street N a1 a2 a3 a4)) (hL : L ≤ 3072) (hi : 0 ≤ i ∧ i + 6 ≤ L) (h : Hp) (hI : Inv h) (k : ∀ h2, Inv h2 → GoL L xs 1054 i [] h2) : GoL L xs 160 i [] h := by
  refine l_ok fun hok _ => ?_
  refine l_x (T_L_0 22 _ _ _ rfl) ?_
  refine l_arg 1 (by decide) hL hi (T_L_0 23 _ _ _ rfl) (T_L_0 24 _ _ _ rfl) (T_L_0 25 _ _ _ rfl) (T_L_0 26 _ _ _ rfl) (T_L_0 27 _ _ _ rfl) ?_
  refine l_arg 2 (by decide) hL hi (T_L_0 28 _ _ _ rfl) (T_L_0 29 _ _ _ rfl) (T_L_0 30 _ _ _ rfl) (T_L_0 31 _ _ _ rfl) (T_L_0 32 _ _ _ rfl) ?_
  refine l_arg 3 (by decide) hL hi (T_L_0 33 _ _ _ rfl) (T_L_0 34 _ _ _ rfl) (T_L_0 35 _ _ _ rfl) (T_L_0 36 _ _ _ rfl) (T_L_0 37 _ _ _ rfl) ?_
  refine l_arg 4 (by decide) hL hi (T_L_0 38 _ _ _ rfl) (T_L_0 39 _ _ _ rfl) (T_L_0 40 _ _ _ rfl) (T_L_0 41 _ _ _ rfl) (T_L_0 42 _ _ _ rfl) ?_
  obtain ⟨r, h1, h2, e1, e2, hI2⟩ := o _ (inR_t _) _ (inR_t _) _ (inR_t _) _ (inR_t _) h hok hI
  refine l_call (M' := M_X11_street) (c0 := 0) (av := [.inl (xs (i + 1).toNat).toInt, .inl (xs (i + 2).toNat).toInt, .inl (xs (i + 3).toNat).toInt, .inl (xs (i + 4).toNat).toInt]) (st := []) (T_L_0 43 _ _ _ rfl) ml_L_13 cb_X11_street rfl rfl (Nat.le_of_ble_eq_true rfl) (by decide) (R_X11_street N _ _ _ _ _ _ e1) ?_
  refine l_m (T_L_0 44 _ _ _ rfl) ?_
  refine l_arg 1 (by decide) hL hi (T_L_0 45 _ _ _ rfl) (T_L_0 46 _ _ _ rfl) (T_L_1 0 _ _ _ rfl) (T_L_1 1 _ _ _ rfl) (T_L_1 2 _ _ _ rfl) ?_
  refine l_arg 2 (by decide) hL hi (T_L_1 3 _ _ _ rfl) (T_L_1 4 _ _ _ rfl) (T_L_1 5 _ _ _ rfl) (T_L_1 6 _ _ _ rfl) (T_L_1 7 _ _ _ rfl) ?_
  refine l_arg 3 (by decide) hL hi (T_L_1 8 _ _ _ rfl) (T_L_1 9 _ _ _ rfl) (T_L_1 10 _ _ _ rfl) (T_L_1 11 _ _ _ rfl) (T_L_1 12 _ _ _ rfl) ?_
  refine l_arg 4 (by decide) hL hi (T_L_1 13 _ _ _ rfl) (T_L_1 14 _ _ _ rfl) (T_L_1 15 _ _ _ rfl) (T_L_1 16 _ _ _ rfl) (T_L_1 17 _ _ _ rfl) ?_
  refine l_call (M' := M_X12_street) (c0 := 83) (av := [.inl (xs (i + 1).toNat).toInt, .inl (xs (i + 2).toNat).toInt, .inl (xs (i + 3).toNat).toInt, .inl (xs (i + 4).toNat).toInt]) (st := [.inl r]) (T_L_1 18 _ _ _ rfl) ml_L_17 cb_X12_street rfl rfl (Nat.le_of_ble_eq_true rfl) (by decide) (R_X12_street N _ _ _ _ _ _ e2) ?_
  refine l_eq (tgt := 1054) (T_L_1 19 _ _ _ rfl) (by decide) rfl ?_
  exact k h2 hI2
set_option maxRecDepth 100000 in
set_option maxHeartbeats 4000000 in
theorem l_case1 {L : Nat} {xs : Nat → Int32} {i : Int} {N : Nat} {Inv : Hp → Prop} (o : ∀ a1 : Int, inR a1 → ∀ a2 : Int, inR a2 → Sm Inv (F_X11_cart N a1 a2) (F_X12_cart N a1 a2)) (hL : L ≤ 3072) (hi : 0 ≤ i ∧ i + 6 ≤ L) (h : Hp) (hI : Inv h) (k : ∀ h2, Inv h2 → GoL L xs 1054 i [] h2) : GoL L xs 213 i [] h := by
  refine l_ok fun hok _ => ?_
  refine l_x (T_L_1 22 _ _ _ rfl) ?_
  refine l_arg 1 (by decide) hL hi (T_L_1 23 _ _ _ rfl) (T_L_1 24 _ _ _ rfl) (T_L_1 25 _ _ _ rfl) (T_L_1 26 _ _ _ rfl) (T_L_1 27 _ _ _ rfl) ?_
  refine l_arg 2 (by decide) hL hi (T_L_1 28 _ _ _ rfl) (T_L_1 29 _ _ _ rfl) (T_L_1 30 _ _ _ rfl) (T_L_1 31 _ _ _ rfl) (T_L_1 32 _ _ _ rfl) ?_
  obtain ⟨r, h1, h2, e1, e2, hI2⟩ := o _ (inR_t _) _ (inR_t _) h hok hI
  refine l_call (M' := M_X11_cart) (c0 := 0) (av := [.inl (xs (i + 1).toNat).toInt, .inl (xs (i + 2).toNat).toInt]) (st := []) (T_L_1 33 _ _ _ rfl) ml_L_18 cb_X11_cart rfl rfl (Nat.le_of_ble_eq_true rfl) (by decide) (R_X11_cart N _ _ _ _ e1) ?_
  refine l_m (T_L_1 34 _ _ _ rfl) ?_
  refine l_arg 1 (by decide) hL hi (T_L_1 35 _ _ _ rfl) (T_L_1 36 _ _ _ rfl) (T_L_1 37 _ _ _ rfl) (T_L_1 38 _ _ _ rfl) (T_L_1 39 _ _ _ rfl) ?_
  refine l_arg 2 (by decide) hL hi (T_L_1 40 _ _ _ rfl) (T_L_1 41 _ _ _ rfl) (T_L_1 42 _ _ _ rfl) (T_L_1 43 _ _ _ rfl) (T_L_1 44 _ _ _ rfl) ?_
  refine l_call (M' := M_X12_cart) (c0 := 83) (av := [.inl (xs (i + 1).toNat).toInt, .inl (xs (i + 2).toNat).toInt]) (st := [.inl r]) (T_L_1 45 _ _ _ rfl) ml_L_22 cb_X12_cart rfl rfl (Nat.le_of_ble_eq_true rfl) (by decide) (R_X12_cart N _ _ _ _ e2) ?_
  refine l_eq (tgt := 1054) (T_L_1 46 _ _ _ rfl) (by decide) rfl ?_
  exact k h2 hI2
set_option maxRecDepth 100000 in
set_option maxHeartbeats 4000000 in
theorem l_case2 {L : Nat} {xs : Nat → Int32} {i : Int} {N : Nat} {Inv : Hp → Prop} (o : ∀ a1 : Int, inR a1 → ∀ a2 : Int, inR a2 → Sm Inv (F_X11_pour N a1 a2) (F_X12_pour N a1 a2)) (hL : L ≤ 3072) (hi : 0 ≤ i ∧ i + 6 ≤ L) (h : Hp) (hI : Inv h) (k : ∀ h2, Inv h2 → GoL L xs 1054 i [] h2) : GoL L xs 246 i [] h := by
  refine l_ok fun hok _ => ?_
  refine l_x (T_L_2 2 _ _ _ rfl) ?_
  refine l_arg 1 (by decide) hL hi (T_L_2 3 _ _ _ rfl) (T_L_2 4 _ _ _ rfl) (T_L_2 5 _ _ _ rfl) (T_L_2 6 _ _ _ rfl) (T_L_2 7 _ _ _ rfl) ?_
  refine l_arg 2 (by decide) hL hi (T_L_2 8 _ _ _ rfl) (T_L_2 9 _ _ _ rfl) (T_L_2 10 _ _ _ rfl) (T_L_2 11 _ _ _ rfl) (T_L_2 12 _ _ _ rfl) ?_
  obtain ⟨r, h1, h2, e1, e2, hI2⟩ := o _ (inR_t _) _ (inR_t _) h hok hI
  refine l_call (M' := M_X11_pour) (c0 := 0) (av := [.inl (xs (i + 1).toNat).toInt, .inl (xs (i + 2).toNat).toInt]) (st := []) (T_L_2 13 _ _ _ rfl) ml_L_23 cb_X11_pour rfl rfl (Nat.le_of_ble_eq_true rfl) (by decide) (R_X11_pour N _ _ _ _ e1) ?_
  refine l_m (T_L_2 14 _ _ _ rfl) ?_
  refine l_arg 1 (by decide) hL hi (T_L_2 15 _ _ _ rfl) (T_L_2 16 _ _ _ rfl) (T_L_2 17 _ _ _ rfl) (T_L_2 18 _ _ _ rfl) (T_L_2 19 _ _ _ rfl) ?_
  refine l_arg 2 (by decide) hL hi (T_L_2 20 _ _ _ rfl) (T_L_2 21 _ _ _ rfl) (T_L_2 22 _ _ _ rfl) (T_L_2 23 _ _ _ rfl) (T_L_2 24 _ _ _ rfl) ?_
  refine l_call (M' := M_X12_pour) (c0 := 83) (av := [.inl (xs (i + 1).toNat).toInt, .inl (xs (i + 2).toNat).toInt]) (st := [.inl r]) (T_L_2 25 _ _ _ rfl) ml_L_27 cb_X12_pour rfl rfl (Nat.le_of_ble_eq_true rfl) (by decide) (R_X12_pour N _ _ _ _ e2) ?_
  refine l_eq (tgt := 1054) (T_L_2 26 _ _ _ rfl) (by decide) rfl ?_
  exact k h2 hI2
set_option maxRecDepth 100000 in
set_option maxHeartbeats 4000000 in
theorem l_case3 {L : Nat} {xs : Nat → Int32} {i : Int} {N : Nat} {Inv : Hp → Prop} (o : ∀ a1 : Int, inR a1 → ∀ a2 : Int, inR a2 → ∀ a3 : Int, inR a3 → ∀ a4 : Int, inR a4 → ∀ a5 : Int, inR a5 → Sm Inv (F_X11_feed N a1 a2 a3 a4 a5) (F_X12_feed N a1 a2 a3 a4 a5)) (hL : L ≤ 3072) (hi : 0 ≤ i ∧ i + 6 ≤ L) (h : Hp) (hI : Inv h) (k : ∀ h2, Inv h2 → GoL L xs 1054 i [] h2) : GoL L xs 279 i [] h := by
  refine l_ok fun hok _ => ?_
  refine l_x (T_L_2 29 _ _ _ rfl) ?_
  refine l_arg 1 (by decide) hL hi (T_L_2 30 _ _ _ rfl) (T_L_2 31 _ _ _ rfl) (T_L_2 32 _ _ _ rfl) (T_L_2 33 _ _ _ rfl) (T_L_2 34 _ _ _ rfl) ?_
  refine l_arg 2 (by decide) hL hi (T_L_2 35 _ _ _ rfl) (T_L_2 36 _ _ _ rfl) (T_L_2 37 _ _ _ rfl) (T_L_2 38 _ _ _ rfl) (T_L_2 39 _ _ _ rfl) ?_
  refine l_arg 3 (by decide) hL hi (T_L_2 40 _ _ _ rfl) (T_L_2 41 _ _ _ rfl) (T_L_2 42 _ _ _ rfl) (T_L_2 43 _ _ _ rfl) (T_L_2 44 _ _ _ rfl) ?_
  refine l_arg 4 (by decide) hL hi (T_L_2 45 _ _ _ rfl) (T_L_2 46 _ _ _ rfl) (T_L_3 0 _ _ _ rfl) (T_L_3 1 _ _ _ rfl) (T_L_3 2 _ _ _ rfl) ?_
  refine l_arg 5 (by decide) hL hi (T_L_3 3 _ _ _ rfl) (T_L_3 4 _ _ _ rfl) (T_L_3 5 _ _ _ rfl) (T_L_3 6 _ _ _ rfl) (T_L_3 7 _ _ _ rfl) ?_
  obtain ⟨r, h1, h2, e1, e2, hI2⟩ := o _ (inR_t _) _ (inR_t _) _ (inR_t _) _ (inR_t _) _ (inR_t _) h hok hI
  refine l_call (M' := M_X11_feed) (c0 := 0) (av := [.inl (xs (i + 1).toNat).toInt, .inl (xs (i + 2).toNat).toInt, .inl (xs (i + 3).toNat).toInt, .inl (xs (i + 4).toNat).toInt, .inl (xs (i + 5).toNat).toInt]) (st := []) (T_L_3 8 _ _ _ rfl) ml_L_28 cb_X11_feed rfl rfl (Nat.le_of_ble_eq_true rfl) (by decide) (R_X11_feed N _ _ _ _ _ _ _ e1) ?_
  refine l_m (T_L_3 9 _ _ _ rfl) ?_
  refine l_arg 1 (by decide) hL hi (T_L_3 10 _ _ _ rfl) (T_L_3 11 _ _ _ rfl) (T_L_3 12 _ _ _ rfl) (T_L_3 13 _ _ _ rfl) (T_L_3 14 _ _ _ rfl) ?_
  refine l_arg 2 (by decide) hL hi (T_L_3 15 _ _ _ rfl) (T_L_3 16 _ _ _ rfl) (T_L_3 17 _ _ _ rfl) (T_L_3 18 _ _ _ rfl) (T_L_3 19 _ _ _ rfl) ?_
  refine l_arg 3 (by decide) hL hi (T_L_3 20 _ _ _ rfl) (T_L_3 21 _ _ _ rfl) (T_L_3 22 _ _ _ rfl) (T_L_3 23 _ _ _ rfl) (T_L_3 24 _ _ _ rfl) ?_
  refine l_arg 4 (by decide) hL hi (T_L_3 25 _ _ _ rfl) (T_L_3 26 _ _ _ rfl) (T_L_3 27 _ _ _ rfl) (T_L_3 28 _ _ _ rfl) (T_L_3 29 _ _ _ rfl) ?_
  refine l_arg 5 (by decide) hL hi (T_L_3 30 _ _ _ rfl) (T_L_3 31 _ _ _ rfl) (T_L_3 32 _ _ _ rfl) (T_L_3 33 _ _ _ rfl) (T_L_3 34 _ _ _ rfl) ?_
  refine l_call (M' := M_X12_feed) (c0 := 83) (av := [.inl (xs (i + 1).toNat).toInt, .inl (xs (i + 2).toNat).toInt, .inl (xs (i + 3).toNat).toInt, .inl (xs (i + 4).toNat).toInt, .inl (xs (i + 5).toNat).toInt]) (st := [.inl r]) (T_L_3 35 _ _ _ rfl) ml_L_32 cb_X12_feed rfl rfl (Nat.le_of_ble_eq_true rfl) (by decide) (R_X12_feed N _ _ _ _ _ _ _ e2) ?_
  refine l_eq (tgt := 1054) (T_L_3 36 _ _ _ rfl) (by decide) rfl ?_
  exact k h2 hI2
set_option maxRecDepth 100000 in
set_option maxHeartbeats 4000000 in
theorem l_case4 {L : Nat} {xs : Nat → Int32} {i : Int} {N : Nat} {Inv : Hp → Prop} (o : ∀ a1 : Int, inR a1 → Sm Inv (F_X11_law N a1) (F_X12_law N a1)) (hL : L ≤ 3072) (hi : 0 ≤ i ∧ i + 6 ≤ L) (h : Hp) (hI : Inv h) (k : ∀ h2, Inv h2 → GoL L xs 1054 i [] h2) : GoL L xs 342 i [] h := by
  refine l_ok fun hok _ => ?_
  refine l_x (T_L_3 39 _ _ _ rfl) ?_
  refine l_arg 1 (by decide) hL hi (T_L_3 40 _ _ _ rfl) (T_L_3 41 _ _ _ rfl) (T_L_3 42 _ _ _ rfl) (T_L_3 43 _ _ _ rfl) (T_L_3 44 _ _ _ rfl) ?_
  obtain ⟨r, h1, h2, e1, e2, hI2⟩ := o _ (inR_t _) h hok hI
  refine l_call (M' := M_X11_law) (c0 := 0) (av := [.inl (xs (i + 1).toNat).toInt]) (st := []) (T_L_3 45 _ _ _ rfl) ml_L_33 cb_X11_law rfl rfl (Nat.le_of_ble_eq_true rfl) (by decide) (R_X11_law N _ _ _ e1) ?_
  refine l_m (T_L_3 46 _ _ _ rfl) ?_
  refine l_arg 1 (by decide) hL hi (T_L_4 0 _ _ _ rfl) (T_L_4 1 _ _ _ rfl) (T_L_4 2 _ _ _ rfl) (T_L_4 3 _ _ _ rfl) (T_L_4 4 _ _ _ rfl) ?_
  refine l_call (M' := M_X12_law) (c0 := 83) (av := [.inl (xs (i + 1).toNat).toInt]) (st := [.inl r]) (T_L_4 5 _ _ _ rfl) ml_L_37 cb_X12_law rfl rfl (Nat.le_of_ble_eq_true rfl) (by decide) (R_X12_law N _ _ _ e2) ?_
  refine l_eq (tgt := 1054) (T_L_4 6 _ _ _ rfl) (by decide) rfl ?_
  exact k h2 hI2
set_option maxRecDepth 100000 in
set_option maxHeartbeats 4000000 in
theorem l_case5 {L : Nat} {xs : Nat → Int32} {i : Int} {N : Nat} {Inv : Hp → Prop} (o : ∀ a1 : Int, inR a1 → Sm Inv (F_X11_roads N a1) (F_X12_roads N a1)) (hL : L ≤ 3072) (hi : 0 ≤ i ∧ i + 6 ≤ L) (h : Hp) (hI : Inv h) (k : ∀ h2, Inv h2 → GoL L xs 1054 i [] h2) : GoL L xs 365 i [] h := by
  refine l_ok fun hok _ => ?_
  refine l_x (T_L_4 9 _ _ _ rfl) ?_
  refine l_arg 1 (by decide) hL hi (T_L_4 10 _ _ _ rfl) (T_L_4 11 _ _ _ rfl) (T_L_4 12 _ _ _ rfl) (T_L_4 13 _ _ _ rfl) (T_L_4 14 _ _ _ rfl) ?_
  obtain ⟨r, h1, h2, e1, e2, hI2⟩ := o _ (inR_t _) h hok hI
  refine l_call (M' := M_X11_roads) (c0 := 0) (av := [.inl (xs (i + 1).toNat).toInt]) (st := []) (T_L_4 15 _ _ _ rfl) ml_L_38 cb_X11_roads rfl rfl (Nat.le_of_ble_eq_true rfl) (by decide) (R_X11_roads N _ _ _ e1) ?_
  refine l_m (T_L_4 16 _ _ _ rfl) ?_
  refine l_arg 1 (by decide) hL hi (T_L_4 17 _ _ _ rfl) (T_L_4 18 _ _ _ rfl) (T_L_4 19 _ _ _ rfl) (T_L_4 20 _ _ _ rfl) (T_L_4 21 _ _ _ rfl) ?_
  refine l_call (M' := M_X12_roads) (c0 := 83) (av := [.inl (xs (i + 1).toNat).toInt]) (st := [.inl r]) (T_L_4 22 _ _ _ rfl) ml_L_41 cb_X12_roads rfl rfl (Nat.le_of_ble_eq_true rfl) (by decide) (R_X12_roads N _ _ _ e2) ?_
  refine l_eq (tgt := 1054) (T_L_4 23 _ _ _ rfl) (by decide) rfl ?_
  exact k h2 hI2
set_option maxRecDepth 100000 in
set_option maxHeartbeats 4000000 in
theorem l_case6 {L : Nat} {xs : Nat → Int32} {i : Int} {N : Nat} {Inv : Hp → Prop} (o : ∀ a1 : Int, inR a1 → ∀ a2 : Int, inR a2 → Sm Inv (F_X11_plan N a1 a2) (F_X12_plan N a1 a2)) (hL : L ≤ 3072) (hi : 0 ≤ i ∧ i + 6 ≤ L) (h : Hp) (hI : Inv h) (k : ∀ h2, Inv h2 → GoL L xs 1054 i [] h2) : GoL L xs 388 i [] h := by
  refine l_ok fun hok _ => ?_
  refine l_x (T_L_4 26 _ _ _ rfl) ?_
  refine l_arg 1 (by decide) hL hi (T_L_4 27 _ _ _ rfl) (T_L_4 28 _ _ _ rfl) (T_L_4 29 _ _ _ rfl) (T_L_4 30 _ _ _ rfl) (T_L_4 31 _ _ _ rfl) ?_
  refine l_arg 2 (by decide) hL hi (T_L_4 32 _ _ _ rfl) (T_L_4 33 _ _ _ rfl) (T_L_4 34 _ _ _ rfl) (T_L_4 35 _ _ _ rfl) (T_L_4 36 _ _ _ rfl) ?_
  obtain ⟨r, h1, h2, e1, e2, hI2⟩ := o _ (inR_t _) _ (inR_t _) h hok hI
  refine l_call (M' := M_X11_plan) (c0 := 0) (av := [.inl (xs (i + 1).toNat).toInt, .inl (xs (i + 2).toNat).toInt]) (st := []) (T_L_4 37 _ _ _ rfl) ml_L_42 cb_X11_plan rfl rfl (Nat.le_of_ble_eq_true rfl) (by decide) (R_X11_plan N _ _ _ _ e1) ?_
  refine l_m (T_L_4 38 _ _ _ rfl) ?_
  refine l_arg 1 (by decide) hL hi (T_L_4 39 _ _ _ rfl) (T_L_4 40 _ _ _ rfl) (T_L_4 41 _ _ _ rfl) (T_L_4 42 _ _ _ rfl) (T_L_4 43 _ _ _ rfl) ?_
  refine l_arg 2 (by decide) hL hi (T_L_4 44 _ _ _ rfl) (T_L_4 45 _ _ _ rfl) (T_L_4 46 _ _ _ rfl) (T_L_5 0 _ _ _ rfl) (T_L_5 1 _ _ _ rfl) ?_
  refine l_call (M' := M_X12_plan) (c0 := 83) (av := [.inl (xs (i + 1).toNat).toInt, .inl (xs (i + 2).toNat).toInt]) (st := [.inl r]) (T_L_5 2 _ _ _ rfl) ml_L_45 cb_X12_plan rfl rfl (Nat.le_of_ble_eq_true rfl) (by decide) (R_X12_plan N _ _ _ _ e2) ?_
  refine l_eq (tgt := 1054) (T_L_5 3 _ _ _ rfl) (by decide) rfl ?_
  exact k h2 hI2
set_option maxRecDepth 100000 in
set_option maxHeartbeats 4000000 in
theorem l_case7 {L : Nat} {xs : Nat → Int32} {i : Int} {N : Nat} {Inv : Hp → Prop} (o : ∀ a1 : Int, inR a1 → Sm Inv (F_X11_nights N a1) (F_X12_nights N a1)) (hL : L ≤ 3072) (hi : 0 ≤ i ∧ i + 6 ≤ L) (h : Hp) (hI : Inv h) (k : ∀ h2, Inv h2 → GoL L xs 1054 i [] h2) : GoL L xs 421 i [] h := by
  refine l_ok fun hok _ => ?_
  refine l_x (T_L_5 6 _ _ _ rfl) ?_
  refine l_arg 1 (by decide) hL hi (T_L_5 7 _ _ _ rfl) (T_L_5 8 _ _ _ rfl) (T_L_5 9 _ _ _ rfl) (T_L_5 10 _ _ _ rfl) (T_L_5 11 _ _ _ rfl) ?_
  obtain ⟨r, h1, h2, e1, e2, hI2⟩ := o _ (inR_t _) h hok hI
  refine l_call (M' := M_X11_nights) (c0 := 0) (av := [.inl (xs (i + 1).toNat).toInt]) (st := []) (T_L_5 12 _ _ _ rfl) ml_L_46 cb_X11_nights rfl rfl (Nat.le_of_ble_eq_true rfl) (by decide) (R_X11_nights N _ _ _ e1) ?_
  refine l_m (T_L_5 13 _ _ _ rfl) ?_
  refine l_arg 1 (by decide) hL hi (T_L_5 14 _ _ _ rfl) (T_L_5 15 _ _ _ rfl) (T_L_5 16 _ _ _ rfl) (T_L_5 17 _ _ _ rfl) (T_L_5 18 _ _ _ rfl) ?_
  refine l_call (M' := M_X12_nights) (c0 := 83) (av := [.inl (xs (i + 1).toNat).toInt]) (st := [.inl r]) (T_L_5 19 _ _ _ rfl) ml_L_49 cb_X12_nights rfl rfl (Nat.le_of_ble_eq_true rfl) (by decide) (R_X12_nights N _ _ _ e2) ?_
  refine l_eq (tgt := 1054) (T_L_5 20 _ _ _ rfl) (by decide) rfl ?_
  exact k h2 hI2
set_option maxRecDepth 100000 in
set_option maxHeartbeats 4000000 in
theorem l_case8 {L : Nat} {xs : Nat → Int32} {i : Int} {N : Nat} {Inv : Hp → Prop} (o : ∀ a1 : Int, inR a1 → Sm Inv (F_X11_tried N a1) (F_X12_tried N a1)) (hL : L ≤ 3072) (hi : 0 ≤ i ∧ i + 6 ≤ L) (h : Hp) (hI : Inv h) (k : ∀ h2, Inv h2 → GoL L xs 1054 i [] h2) : GoL L xs 444 i [] h := by
  refine l_ok fun hok _ => ?_
  refine l_x (T_L_5 23 _ _ _ rfl) ?_
  refine l_arg 1 (by decide) hL hi (T_L_5 24 _ _ _ rfl) (T_L_5 25 _ _ _ rfl) (T_L_5 26 _ _ _ rfl) (T_L_5 27 _ _ _ rfl) (T_L_5 28 _ _ _ rfl) ?_
  obtain ⟨r, h1, h2, e1, e2, hI2⟩ := o _ (inR_t _) h hok hI
  refine l_call (M' := M_X11_tried) (c0 := 0) (av := [.inl (xs (i + 1).toNat).toInt]) (st := []) (T_L_5 29 _ _ _ rfl) ml_L_50 cb_X11_tried rfl rfl (Nat.le_of_ble_eq_true rfl) (by decide) (R_X11_tried N _ _ _ e1) ?_
  refine l_m (T_L_5 30 _ _ _ rfl) ?_
  refine l_arg 1 (by decide) hL hi (T_L_5 31 _ _ _ rfl) (T_L_5 32 _ _ _ rfl) (T_L_5 33 _ _ _ rfl) (T_L_5 34 _ _ _ rfl) (T_L_5 35 _ _ _ rfl) ?_
  refine l_call (M' := M_X12_tried) (c0 := 83) (av := [.inl (xs (i + 1).toNat).toInt]) (st := [.inl r]) (T_L_5 36 _ _ _ rfl) ml_L_53 cb_X12_tried rfl rfl (Nat.le_of_ble_eq_true rfl) (by decide) (R_X12_tried N _ _ _ e2) ?_
  refine l_eq (tgt := 1054) (T_L_5 37 _ _ _ rfl) (by decide) rfl ?_
  exact k h2 hI2
set_option maxRecDepth 100000 in
set_option maxHeartbeats 4000000 in
theorem l_case9 {L : Nat} {xs : Nat → Int32} {i : Int} {N : Nat} {Inv : Hp → Prop} (o : ∀ a1 : Int, inR a1 → ∀ a2 : Int, inR a2 → Sm Inv (F_X11_way N a1 a2) (F_X12_way N a1 a2)) (hL : L ≤ 3072) (hi : 0 ≤ i ∧ i + 6 ≤ L) (h : Hp) (hI : Inv h) (k : ∀ h2, Inv h2 → GoL L xs 1054 i [] h2) : GoL L xs 467 i [] h := by
  refine l_ok fun hok _ => ?_
  refine l_x (T_L_5 40 _ _ _ rfl) ?_
  refine l_arg 1 (by decide) hL hi (T_L_5 41 _ _ _ rfl) (T_L_5 42 _ _ _ rfl) (T_L_5 43 _ _ _ rfl) (T_L_5 44 _ _ _ rfl) (T_L_5 45 _ _ _ rfl) ?_
  refine l_arg 2 (by decide) hL hi (T_L_5 46 _ _ _ rfl) (T_L_6 0 _ _ _ rfl) (T_L_6 1 _ _ _ rfl) (T_L_6 2 _ _ _ rfl) (T_L_6 3 _ _ _ rfl) ?_
  obtain ⟨r, h1, h2, e1, e2, hI2⟩ := o _ (inR_t _) _ (inR_t _) h hok hI
  refine l_call (M' := M_X11_way) (c0 := 0) (av := [.inl (xs (i + 1).toNat).toInt, .inl (xs (i + 2).toNat).toInt]) (st := []) (T_L_6 4 _ _ _ rfl) ml_L_54 cb_X11_way rfl rfl (Nat.le_of_ble_eq_true rfl) (by decide) (R_X11_way N _ _ _ _ e1) ?_
  refine l_m (T_L_6 5 _ _ _ rfl) ?_
  refine l_arg 1 (by decide) hL hi (T_L_6 6 _ _ _ rfl) (T_L_6 7 _ _ _ rfl) (T_L_6 8 _ _ _ rfl) (T_L_6 9 _ _ _ rfl) (T_L_6 10 _ _ _ rfl) ?_
  refine l_arg 2 (by decide) hL hi (T_L_6 11 _ _ _ rfl) (T_L_6 12 _ _ _ rfl) (T_L_6 13 _ _ _ rfl) (T_L_6 14 _ _ _ rfl) (T_L_6 15 _ _ _ rfl) ?_
  refine l_call (M' := M_X12_way) (c0 := 83) (av := [.inl (xs (i + 1).toNat).toInt, .inl (xs (i + 2).toNat).toInt]) (st := [.inl r]) (T_L_6 16 _ _ _ rfl) ml_L_57 cb_X12_way rfl rfl (Nat.le_of_ble_eq_true rfl) (by decide) (R_X12_way N _ _ _ _ e2) ?_
  refine l_eq (tgt := 1054) (T_L_6 17 _ _ _ rfl) (by decide) rfl ?_
  exact k h2 hI2
set_option maxRecDepth 100000 in
set_option maxHeartbeats 4000000 in
theorem l_case10 {L : Nat} {xs : Nat → Int32} {i : Int} {N : Nat} {Inv : Hp → Prop} (o : ∀ a1 : Int, inR a1 → ∀ a2 : Int, inR a2 → ∀ a3 : Int, inR a3 → Sm Inv (F_X11_round N a1 a2 a3) (F_X12_round N a1 a2 a3)) (hL : L ≤ 3072) (hi : 0 ≤ i ∧ i + 6 ≤ L) (h : Hp) (hI : Inv h) (k : ∀ h2, Inv h2 → GoL L xs 1054 i [] h2) : GoL L xs 500 i [] h := by
  refine l_ok fun hok _ => ?_
  refine l_x (T_L_6 20 _ _ _ rfl) ?_
  refine l_arg 1 (by decide) hL hi (T_L_6 21 _ _ _ rfl) (T_L_6 22 _ _ _ rfl) (T_L_6 23 _ _ _ rfl) (T_L_6 24 _ _ _ rfl) (T_L_6 25 _ _ _ rfl) ?_
  refine l_arg 2 (by decide) hL hi (T_L_6 26 _ _ _ rfl) (T_L_6 27 _ _ _ rfl) (T_L_6 28 _ _ _ rfl) (T_L_6 29 _ _ _ rfl) (T_L_6 30 _ _ _ rfl) ?_
  refine l_arg 3 (by decide) hL hi (T_L_6 31 _ _ _ rfl) (T_L_6 32 _ _ _ rfl) (T_L_6 33 _ _ _ rfl) (T_L_6 34 _ _ _ rfl) (T_L_6 35 _ _ _ rfl) ?_
  obtain ⟨r, h1, h2, e1, e2, hI2⟩ := o _ (inR_t _) _ (inR_t _) _ (inR_t _) h hok hI
  refine l_call (M' := M_X11_round) (c0 := 0) (av := [.inl (xs (i + 1).toNat).toInt, .inl (xs (i + 2).toNat).toInt, .inl (xs (i + 3).toNat).toInt]) (st := []) (T_L_6 36 _ _ _ rfl) ml_L_58 cb_X11_round rfl rfl (Nat.le_of_ble_eq_true rfl) (by decide) (R_X11_round N _ _ _ _ _ e1) ?_
  refine l_m (T_L_6 37 _ _ _ rfl) ?_
  refine l_arg 1 (by decide) hL hi (T_L_6 38 _ _ _ rfl) (T_L_6 39 _ _ _ rfl) (T_L_6 40 _ _ _ rfl) (T_L_6 41 _ _ _ rfl) (T_L_6 42 _ _ _ rfl) ?_
  refine l_arg 2 (by decide) hL hi (T_L_6 43 _ _ _ rfl) (T_L_6 44 _ _ _ rfl) (T_L_6 45 _ _ _ rfl) (T_L_6 46 _ _ _ rfl) (T_L_7 0 _ _ _ rfl) ?_
  refine l_arg 3 (by decide) hL hi (T_L_7 1 _ _ _ rfl) (T_L_7 2 _ _ _ rfl) (T_L_7 3 _ _ _ rfl) (T_L_7 4 _ _ _ rfl) (T_L_7 5 _ _ _ rfl) ?_
  refine l_call (M' := M_X12_round) (c0 := 83) (av := [.inl (xs (i + 1).toNat).toInt, .inl (xs (i + 2).toNat).toInt, .inl (xs (i + 3).toNat).toInt]) (st := [.inl r]) (T_L_7 6 _ _ _ rfl) ml_L_62 cb_X12_round rfl rfl (Nat.le_of_ble_eq_true rfl) (by decide) (R_X12_round N _ _ _ _ _ e2) ?_
  refine l_eq (tgt := 1054) (T_L_7 7 _ _ _ rfl) (by decide) rfl ?_
  exact k h2 hI2
set_option maxRecDepth 100000 in
set_option maxHeartbeats 4000000 in
theorem l_case11 {L : Nat} {xs : Nat → Int32} {i : Int} {N : Nat} {Inv : Hp → Prop} (o : ∀ a1 : Int, inR a1 → ∀ a2 : Int, inR a2 → ∀ a3 : Int, inR a3 → Sm Inv (F_X11_share N a1 a2 a3) (F_X12_share N a1 a2 a3)) (hL : L ≤ 3072) (hi : 0 ≤ i ∧ i + 6 ≤ L) (h : Hp) (hI : Inv h) (k : ∀ h2, Inv h2 → GoL L xs 1054 i [] h2) : GoL L xs 543 i [] h := by
  refine l_ok fun hok _ => ?_
  refine l_x (T_L_7 10 _ _ _ rfl) ?_
  refine l_arg 1 (by decide) hL hi (T_L_7 11 _ _ _ rfl) (T_L_7 12 _ _ _ rfl) (T_L_7 13 _ _ _ rfl) (T_L_7 14 _ _ _ rfl) (T_L_7 15 _ _ _ rfl) ?_
  refine l_arg 2 (by decide) hL hi (T_L_7 16 _ _ _ rfl) (T_L_7 17 _ _ _ rfl) (T_L_7 18 _ _ _ rfl) (T_L_7 19 _ _ _ rfl) (T_L_7 20 _ _ _ rfl) ?_
  refine l_arg 3 (by decide) hL hi (T_L_7 21 _ _ _ rfl) (T_L_7 22 _ _ _ rfl) (T_L_7 23 _ _ _ rfl) (T_L_7 24 _ _ _ rfl) (T_L_7 25 _ _ _ rfl) ?_
  obtain ⟨r, h1, h2, e1, e2, hI2⟩ := o _ (inR_t _) _ (inR_t _) _ (inR_t _) h hok hI
  refine l_call (M' := M_X11_share) (c0 := 0) (av := [.inl (xs (i + 1).toNat).toInt, .inl (xs (i + 2).toNat).toInt, .inl (xs (i + 3).toNat).toInt]) (st := []) (T_L_7 26 _ _ _ rfl) ml_L_63 cb_X11_share rfl rfl (Nat.le_of_ble_eq_true rfl) (by decide) (R_X11_share N _ _ _ _ _ e1) ?_
  refine l_m (T_L_7 27 _ _ _ rfl) ?_
  refine l_arg 1 (by decide) hL hi (T_L_7 28 _ _ _ rfl) (T_L_7 29 _ _ _ rfl) (T_L_7 30 _ _ _ rfl) (T_L_7 31 _ _ _ rfl) (T_L_7 32 _ _ _ rfl) ?_
  refine l_arg 2 (by decide) hL hi (T_L_7 33 _ _ _ rfl) (T_L_7 34 _ _ _ rfl) (T_L_7 35 _ _ _ rfl) (T_L_7 36 _ _ _ rfl) (T_L_7 37 _ _ _ rfl) ?_
  refine l_arg 3 (by decide) hL hi (T_L_7 38 _ _ _ rfl) (T_L_7 39 _ _ _ rfl) (T_L_7 40 _ _ _ rfl) (T_L_7 41 _ _ _ rfl) (T_L_7 42 _ _ _ rfl) ?_
  refine l_call (M' := M_X12_share) (c0 := 83) (av := [.inl (xs (i + 1).toNat).toInt, .inl (xs (i + 2).toNat).toInt, .inl (xs (i + 3).toNat).toInt]) (st := [.inl r]) (T_L_7 43 _ _ _ rfl) ml_L_66 cb_X12_share rfl rfl (Nat.le_of_ble_eq_true rfl) (by decide) (R_X12_share N _ _ _ _ _ e2) ?_
  refine l_eq (tgt := 1054) (T_L_7 44 _ _ _ rfl) (by decide) rfl ?_
  exact k h2 hI2
set_option maxRecDepth 100000 in
set_option maxHeartbeats 4000000 in
theorem l_case12 {L : Nat} {xs : Nat → Int32} {i : Int} {N : Nat} {Inv : Hp → Prop} (o : ∀ a1 : Int, inR a1 → ∀ a2 : Int, inR a2 → ∀ a3 : Int, inR a3 → Sm Inv (F_X11_sleepful N a1 a2 a3) (F_X12_sleepful N a1 a2 a3)) (hL : L ≤ 3072) (hi : 0 ≤ i ∧ i + 6 ≤ L) (h : Hp) (hI : Inv h) (k : ∀ h2, Inv h2 → GoL L xs 1054 i [] h2) : GoL L xs 586 i [] h := by
  refine l_ok fun hok _ => ?_
  refine l_x (T_L_8 0 _ _ _ rfl) ?_
  refine l_arg 1 (by decide) hL hi (T_L_8 1 _ _ _ rfl) (T_L_8 2 _ _ _ rfl) (T_L_8 3 _ _ _ rfl) (T_L_8 4 _ _ _ rfl) (T_L_8 5 _ _ _ rfl) ?_
  refine l_arg 2 (by decide) hL hi (T_L_8 6 _ _ _ rfl) (T_L_8 7 _ _ _ rfl) (T_L_8 8 _ _ _ rfl) (T_L_8 9 _ _ _ rfl) (T_L_8 10 _ _ _ rfl) ?_
  refine l_arg 3 (by decide) hL hi (T_L_8 11 _ _ _ rfl) (T_L_8 12 _ _ _ rfl) (T_L_8 13 _ _ _ rfl) (T_L_8 14 _ _ _ rfl) (T_L_8 15 _ _ _ rfl) ?_
  obtain ⟨r, h1, h2, e1, e2, hI2⟩ := o _ (inR_t _) _ (inR_t _) _ (inR_t _) h hok hI
  refine l_call (M' := M_X11_sleepful) (c0 := 0) (av := [.inl (xs (i + 1).toNat).toInt, .inl (xs (i + 2).toNat).toInt, .inl (xs (i + 3).toNat).toInt]) (st := []) (T_L_8 16 _ _ _ rfl) ml_L_67 cb_X11_sleepful rfl rfl (Nat.le_of_ble_eq_true rfl) (by decide) (R_X11_sleepful N _ _ _ _ _ e1) ?_
  refine l_m (T_L_8 17 _ _ _ rfl) ?_
  refine l_arg 1 (by decide) hL hi (T_L_8 18 _ _ _ rfl) (T_L_8 19 _ _ _ rfl) (T_L_8 20 _ _ _ rfl) (T_L_8 21 _ _ _ rfl) (T_L_8 22 _ _ _ rfl) ?_
  refine l_arg 2 (by decide) hL hi (T_L_8 23 _ _ _ rfl) (T_L_8 24 _ _ _ rfl) (T_L_8 25 _ _ _ rfl) (T_L_8 26 _ _ _ rfl) (T_L_8 27 _ _ _ rfl) ?_
  refine l_arg 3 (by decide) hL hi (T_L_8 28 _ _ _ rfl) (T_L_8 29 _ _ _ rfl) (T_L_8 30 _ _ _ rfl) (T_L_8 31 _ _ _ rfl) (T_L_8 32 _ _ _ rfl) ?_
  refine l_call (M' := M_X12_sleepful) (c0 := 83) (av := [.inl (xs (i + 1).toNat).toInt, .inl (xs (i + 2).toNat).toInt, .inl (xs (i + 3).toNat).toInt]) (st := [.inl r]) (T_L_8 33 _ _ _ rfl) ml_L_70 cb_X12_sleepful rfl rfl (Nat.le_of_ble_eq_true rfl) (by decide) (R_X12_sleepful N _ _ _ _ _ e2) ?_
  refine l_eq (tgt := 1054) (T_L_8 34 _ _ _ rfl) (by decide) rfl ?_
  exact k h2 hI2
set_option maxRecDepth 100000 in
set_option maxHeartbeats 4000000 in
theorem l_case13 {L : Nat} {xs : Nat → Int32} {i : Int} {N : Nat} {Inv : Hp → Prop} (o : ∀ a1 : Int, inR a1 → Sm Inv (F_X11_pitAt N a1) (F_X12_pitAt N a1)) (hL : L ≤ 3072) (hi : 0 ≤ i ∧ i + 6 ≤ L) (h : Hp) (hI : Inv h) (k : ∀ h2, Inv h2 → GoL L xs 1054 i [] h2) : GoL L xs 629 i [] h := by
  refine l_ok fun hok _ => ?_
  refine l_x (T_L_8 37 _ _ _ rfl) ?_
  refine l_arg 1 (by decide) hL hi (T_L_8 38 _ _ _ rfl) (T_L_8 39 _ _ _ rfl) (T_L_8 40 _ _ _ rfl) (T_L_8 41 _ _ _ rfl) (T_L_8 42 _ _ _ rfl) ?_
  obtain ⟨r, h1, h2, e1, e2, hI2⟩ := o _ (inR_t _) h hok hI
  refine l_call (M' := M_X11_pitAt) (c0 := 0) (av := [.inl (xs (i + 1).toNat).toInt]) (st := []) (T_L_8 43 _ _ _ rfl) ml_L_71 cb_X11_pitAt rfl rfl (Nat.le_of_ble_eq_true rfl) (by decide) (R_X11_pitAt N _ _ _ e1) ?_
  refine l_m (T_L_8 44 _ _ _ rfl) ?_
  refine l_arg 1 (by decide) hL hi (T_L_8 45 _ _ _ rfl) (T_L_8 46 _ _ _ rfl) (T_L_9 0 _ _ _ rfl) (T_L_9 1 _ _ _ rfl) (T_L_9 2 _ _ _ rfl) ?_
  refine l_call (M' := M_X12_pitAt) (c0 := 83) (av := [.inl (xs (i + 1).toNat).toInt]) (st := [.inl r]) (T_L_9 3 _ _ _ rfl) ml_L_74 cb_X12_pitAt rfl rfl (Nat.le_of_ble_eq_true rfl) (by decide) (R_X12_pitAt N _ _ _ e2) ?_
  refine l_eq (tgt := 1054) (T_L_9 4 _ _ _ rfl) (by decide) rfl ?_
  exact k h2 hI2
set_option maxRecDepth 100000 in
set_option maxHeartbeats 4000000 in
theorem l_case14 {L : Nat} {xs : Nat → Int32} {i : Int} {N : Nat} {Inv : Hp → Prop} (o : ∀ a1 : Int, inR a1 → Sm Inv (F_X11_cut N a1) (F_X12_cut N a1)) (hL : L ≤ 3072) (hi : 0 ≤ i ∧ i + 6 ≤ L) (h : Hp) (hI : Inv h) (k : ∀ h2, Inv h2 → GoL L xs 1054 i [] h2) : GoL L xs 652 i [] h := by
  refine l_ok fun hok _ => ?_
  refine l_x (T_L_9 7 _ _ _ rfl) ?_
  refine l_arg 1 (by decide) hL hi (T_L_9 8 _ _ _ rfl) (T_L_9 9 _ _ _ rfl) (T_L_9 10 _ _ _ rfl) (T_L_9 11 _ _ _ rfl) (T_L_9 12 _ _ _ rfl) ?_
  obtain ⟨r, h1, h2, e1, e2, hI2⟩ := o _ (inR_t _) h hok hI
  refine l_call (M' := M_X11_cut) (c0 := 0) (av := [.inl (xs (i + 1).toNat).toInt]) (st := []) (T_L_9 13 _ _ _ rfl) ml_L_75 cb_X11_cut rfl rfl (Nat.le_of_ble_eq_true rfl) (by decide) (R_X11_cut N _ _ _ e1) ?_
  refine l_m (T_L_9 14 _ _ _ rfl) ?_
  refine l_arg 1 (by decide) hL hi (T_L_9 15 _ _ _ rfl) (T_L_9 16 _ _ _ rfl) (T_L_9 17 _ _ _ rfl) (T_L_9 18 _ _ _ rfl) (T_L_9 19 _ _ _ rfl) ?_
  refine l_call (M' := M_X12_cut) (c0 := 83) (av := [.inl (xs (i + 1).toNat).toInt]) (st := [.inl r]) (T_L_9 20 _ _ _ rfl) ml_L_78 cb_X12_cut rfl rfl (Nat.le_of_ble_eq_true rfl) (by decide) (R_X12_cut N _ _ _ e2) ?_
  refine l_eq (tgt := 1054) (T_L_9 21 _ _ _ rfl) (by decide) rfl ?_
  exact k h2 hI2
set_option maxRecDepth 100000 in
set_option maxHeartbeats 4000000 in
theorem l_case15 {L : Nat} {xs : Nat → Int32} {i : Int} {N : Nat} {Inv : Hp → Prop} (o : ∀ a1 : Int, inR a1 → Sm Inv (F_X11_strike N a1) (F_X12_strike N a1)) (hL : L ≤ 3072) (hi : 0 ≤ i ∧ i + 6 ≤ L) (h : Hp) (hI : Inv h) (k : ∀ h2, Inv h2 → GoL L xs 1054 i [] h2) : GoL L xs 675 i [] h := by
  refine l_ok fun hok _ => ?_
  refine l_x (T_L_9 24 _ _ _ rfl) ?_
  refine l_arg 1 (by decide) hL hi (T_L_9 25 _ _ _ rfl) (T_L_9 26 _ _ _ rfl) (T_L_9 27 _ _ _ rfl) (T_L_9 28 _ _ _ rfl) (T_L_9 29 _ _ _ rfl) ?_
  obtain ⟨r, h1, h2, e1, e2, hI2⟩ := o _ (inR_t _) h hok hI
  refine l_call (M' := M_X11_strike) (c0 := 0) (av := [.inl (xs (i + 1).toNat).toInt]) (st := []) (T_L_9 30 _ _ _ rfl) ml_L_79 cb_X11_strike rfl rfl (Nat.le_of_ble_eq_true rfl) (by decide) (R_X11_strike N _ _ _ e1) ?_
  refine l_m (T_L_9 31 _ _ _ rfl) ?_
  refine l_arg 1 (by decide) hL hi (T_L_9 32 _ _ _ rfl) (T_L_9 33 _ _ _ rfl) (T_L_9 34 _ _ _ rfl) (T_L_9 35 _ _ _ rfl) (T_L_9 36 _ _ _ rfl) ?_
  refine l_call (M' := M_X12_strike) (c0 := 83) (av := [.inl (xs (i + 1).toNat).toInt]) (st := [.inl r]) (T_L_9 37 _ _ _ rfl) ml_L_82 cb_X12_strike rfl rfl (Nat.le_of_ble_eq_true rfl) (by decide) (R_X12_strike N _ _ _ e2) ?_
  refine l_eq (tgt := 1054) (T_L_9 38 _ _ _ rfl) (by decide) rfl ?_
  exact k h2 hI2
set_option maxRecDepth 100000 in
set_option maxHeartbeats 4000000 in
theorem l_case16 {L : Nat} {xs : Nat → Int32} {i : Int} {N : Nat} {Inv : Hp → Prop} (o : ∀ a1 : Int, inR a1 → Sm Inv (F_X11_enough N a1) (F_X12_enough N a1)) (hL : L ≤ 3072) (hi : 0 ≤ i ∧ i + 6 ≤ L) (h : Hp) (hI : Inv h) (k : ∀ h2, Inv h2 → GoL L xs 1054 i [] h2) : GoL L xs 698 i [] h := by
  refine l_ok fun hok _ => ?_
  refine l_x (T_L_9 41 _ _ _ rfl) ?_
  refine l_arg 1 (by decide) hL hi (T_L_9 42 _ _ _ rfl) (T_L_9 43 _ _ _ rfl) (T_L_9 44 _ _ _ rfl) (T_L_9 45 _ _ _ rfl) (T_L_9 46 _ _ _ rfl) ?_
  obtain ⟨r, h1, h2, e1, e2, hI2⟩ := o _ (inR_t _) h hok hI
  refine l_call (M' := M_X11_enough) (c0 := 0) (av := [.inl (xs (i + 1).toNat).toInt]) (st := []) (T_L_10 0 _ _ _ rfl) ml_L_83 cb_X11_enough rfl rfl (Nat.le_of_ble_eq_true rfl) (by decide) (R_X11_enough N _ _ _ e1) ?_
  refine l_m (T_L_10 1 _ _ _ rfl) ?_
  refine l_arg 1 (by decide) hL hi (T_L_10 2 _ _ _ rfl) (T_L_10 3 _ _ _ rfl) (T_L_10 4 _ _ _ rfl) (T_L_10 5 _ _ _ rfl) (T_L_10 6 _ _ _ rfl) ?_
  refine l_call (M' := M_X12_enough) (c0 := 83) (av := [.inl (xs (i + 1).toNat).toInt]) (st := [.inl r]) (T_L_10 7 _ _ _ rfl) ml_L_86 cb_X12_enough rfl rfl (Nat.le_of_ble_eq_true rfl) (by decide) (R_X12_enough N _ _ _ e2) ?_
  refine l_eq (tgt := 1054) (T_L_10 8 _ _ _ rfl) (by decide) rfl ?_
  exact k h2 hI2
set_option maxRecDepth 100000 in
set_option maxHeartbeats 4000000 in
theorem l_case17 {L : Nat} {xs : Nat → Int32} {i : Int} {N : Nat} {Inv : Hp → Prop} (o : ∀ a1 : Int, inR a1 → ∀ a2 : Int, inR a2 → ∀ a3 : Int, inR a3 → Sm Inv (F_X11_oneStop N a1 a2 a3) (F_X12_oneStop N a1 a2 a3)) (hL : L ≤ 3072) (hi : 0 ≤ i ∧ i + 6 ≤ L) (h : Hp) (hI : Inv h) (k : ∀ h2, Inv h2 → GoL L xs 1054 i [] h2) : GoL L xs 721 i [] h := by
  refine l_ok fun hok _ => ?_
  refine l_x (T_L_10 11 _ _ _ rfl) ?_
  refine l_arg 1 (by decide) hL hi (T_L_10 12 _ _ _ rfl) (T_L_10 13 _ _ _ rfl) (T_L_10 14 _ _ _ rfl) (T_L_10 15 _ _ _ rfl) (T_L_10 16 _ _ _ rfl) ?_
  refine l_arg 2 (by decide) hL hi (T_L_10 17 _ _ _ rfl) (T_L_10 18 _ _ _ rfl) (T_L_10 19 _ _ _ rfl) (T_L_10 20 _ _ _ rfl) (T_L_10 21 _ _ _ rfl) ?_
  refine l_arg 3 (by decide) hL hi (T_L_10 22 _ _ _ rfl) (T_L_10 23 _ _ _ rfl) (T_L_10 24 _ _ _ rfl) (T_L_10 25 _ _ _ rfl) (T_L_10 26 _ _ _ rfl) ?_
  obtain ⟨r, h1, h2, e1, e2, hI2⟩ := o _ (inR_t _) _ (inR_t _) _ (inR_t _) h hok hI
  refine l_call (M' := M_X11_oneStop) (c0 := 0) (av := [.inl (xs (i + 1).toNat).toInt, .inl (xs (i + 2).toNat).toInt, .inl (xs (i + 3).toNat).toInt]) (st := []) (T_L_10 27 _ _ _ rfl) ml_L_87 cb_X11_oneStop rfl rfl (Nat.le_of_ble_eq_true rfl) (by decide) (R_X11_oneStop N _ _ _ _ _ e1) ?_
  refine l_m (T_L_10 28 _ _ _ rfl) ?_
  refine l_arg 1 (by decide) hL hi (T_L_10 29 _ _ _ rfl) (T_L_10 30 _ _ _ rfl) (T_L_10 31 _ _ _ rfl) (T_L_10 32 _ _ _ rfl) (T_L_10 33 _ _ _ rfl) ?_
  refine l_arg 2 (by decide) hL hi (T_L_10 34 _ _ _ rfl) (T_L_10 35 _ _ _ rfl) (T_L_10 36 _ _ _ rfl) (T_L_10 37 _ _ _ rfl) (T_L_10 38 _ _ _ rfl) ?_
  refine l_arg 3 (by decide) hL hi (T_L_10 39 _ _ _ rfl) (T_L_10 40 _ _ _ rfl) (T_L_10 41 _ _ _ rfl) (T_L_10 42 _ _ _ rfl) (T_L_10 43 _ _ _ rfl) ?_
  refine l_call (M' := M_X12_oneStop) (c0 := 83) (av := [.inl (xs (i + 1).toNat).toInt, .inl (xs (i + 2).toNat).toInt, .inl (xs (i + 3).toNat).toInt]) (st := [.inl r]) (T_L_10 44 _ _ _ rfl) ml_L_90 cb_X12_oneStop rfl rfl (Nat.le_of_ble_eq_true rfl) (by decide) (R_X12_oneStop N _ _ _ _ _ e2) ?_
  refine l_eq (tgt := 1054) (T_L_10 45 _ _ _ rfl) (by decide) rfl ?_
  exact k h2 hI2
set_option maxRecDepth 100000 in
set_option maxHeartbeats 4000000 in
theorem l_case18 {L : Nat} {xs : Nat → Int32} {i : Int} {N : Nat} {Inv : Hp → Prop} (o : ∀ a1 : Int, inR a1 → ∀ a2 : Int, inR a2 → Sm Inv (F_X11_out N a1 a2) (F_X12_out N a1 a2)) (hL : L ≤ 3072) (hi : 0 ≤ i ∧ i + 6 ≤ L) (h : Hp) (hI : Inv h) (k : ∀ h2, Inv h2 → GoL L xs 1054 i [] h2) : GoL L xs 764 i [] h := by
  refine l_ok fun hok _ => ?_
  refine l_x (T_L_11 1 _ _ _ rfl) ?_
  refine l_arg 1 (by decide) hL hi (T_L_11 2 _ _ _ rfl) (T_L_11 3 _ _ _ rfl) (T_L_11 4 _ _ _ rfl) (T_L_11 5 _ _ _ rfl) (T_L_11 6 _ _ _ rfl) ?_
  refine l_arg 2 (by decide) hL hi (T_L_11 7 _ _ _ rfl) (T_L_11 8 _ _ _ rfl) (T_L_11 9 _ _ _ rfl) (T_L_11 10 _ _ _ rfl) (T_L_11 11 _ _ _ rfl) ?_
  obtain ⟨r, h1, h2, e1, e2, hI2⟩ := o _ (inR_t _) _ (inR_t _) h hok hI
  refine l_call (M' := M_X11_out) (c0 := 0) (av := [.inl (xs (i + 1).toNat).toInt, .inl (xs (i + 2).toNat).toInt]) (st := []) (T_L_11 12 _ _ _ rfl) ml_L_91 cb_X11_out rfl rfl (Nat.le_of_ble_eq_true rfl) (by decide) (R_X11_out N _ _ _ _ e1) ?_
  refine l_m (T_L_11 13 _ _ _ rfl) ?_
  refine l_arg 1 (by decide) hL hi (T_L_11 14 _ _ _ rfl) (T_L_11 15 _ _ _ rfl) (T_L_11 16 _ _ _ rfl) (T_L_11 17 _ _ _ rfl) (T_L_11 18 _ _ _ rfl) ?_
  refine l_arg 2 (by decide) hL hi (T_L_11 19 _ _ _ rfl) (T_L_11 20 _ _ _ rfl) (T_L_11 21 _ _ _ rfl) (T_L_11 22 _ _ _ rfl) (T_L_11 23 _ _ _ rfl) ?_
  refine l_call (M' := M_X12_out) (c0 := 83) (av := [.inl (xs (i + 1).toNat).toInt, .inl (xs (i + 2).toNat).toInt]) (st := [.inl r]) (T_L_11 24 _ _ _ rfl) ml_L_94 cb_X12_out rfl rfl (Nat.le_of_ble_eq_true rfl) (by decide) (R_X12_out N _ _ _ _ e2) ?_
  refine l_eq (tgt := 1054) (T_L_11 25 _ _ _ rfl) (by decide) rfl ?_
  exact k h2 hI2
set_option maxRecDepth 100000 in
set_option maxHeartbeats 4000000 in
theorem l_case19 {L : Nat} {xs : Nat → Int32} {i : Int} {N : Nat} {Inv : Hp → Prop} (o : ∀ a1 : Int, inR a1 → ∀ a2 : Int, inR a2 → ∀ a3 : Int, inR a3 → Sm Inv (F_X11_jobs N a1 a2 a3) (F_X12_jobs N a1 a2 a3)) (hL : L ≤ 3072) (hi : 0 ≤ i ∧ i + 6 ≤ L) (h : Hp) (hI : Inv h) (k : ∀ h2, Inv h2 → GoL L xs 1054 i [] h2) : GoL L xs 797 i [] h := by
  refine l_ok fun hok _ => ?_
  refine l_x (T_L_11 28 _ _ _ rfl) ?_
  refine l_arg 1 (by decide) hL hi (T_L_11 29 _ _ _ rfl) (T_L_11 30 _ _ _ rfl) (T_L_11 31 _ _ _ rfl) (T_L_11 32 _ _ _ rfl) (T_L_11 33 _ _ _ rfl) ?_
  refine l_arg 2 (by decide) hL hi (T_L_11 34 _ _ _ rfl) (T_L_11 35 _ _ _ rfl) (T_L_11 36 _ _ _ rfl) (T_L_11 37 _ _ _ rfl) (T_L_11 38 _ _ _ rfl) ?_
  refine l_arg 3 (by decide) hL hi (T_L_11 39 _ _ _ rfl) (T_L_11 40 _ _ _ rfl) (T_L_11 41 _ _ _ rfl) (T_L_11 42 _ _ _ rfl) (T_L_11 43 _ _ _ rfl) ?_
  obtain ⟨r, h1, h2, e1, e2, hI2⟩ := o _ (inR_t _) _ (inR_t _) _ (inR_t _) h hok hI
  refine l_call (M' := M_X11_jobs) (c0 := 0) (av := [.inl (xs (i + 1).toNat).toInt, .inl (xs (i + 2).toNat).toInt, .inl (xs (i + 3).toNat).toInt]) (st := []) (T_L_11 44 _ _ _ rfl) ml_L_95 cb_X11_jobs rfl rfl (Nat.le_of_ble_eq_true rfl) (by decide) (R_X11_jobs N _ _ _ _ _ e1) ?_
  refine l_m (T_L_11 45 _ _ _ rfl) ?_
  refine l_arg 1 (by decide) hL hi (T_L_11 46 _ _ _ rfl) (T_L_12 0 _ _ _ rfl) (T_L_12 1 _ _ _ rfl) (T_L_12 2 _ _ _ rfl) (T_L_12 3 _ _ _ rfl) ?_
  refine l_arg 2 (by decide) hL hi (T_L_12 4 _ _ _ rfl) (T_L_12 5 _ _ _ rfl) (T_L_12 6 _ _ _ rfl) (T_L_12 7 _ _ _ rfl) (T_L_12 8 _ _ _ rfl) ?_
  refine l_arg 3 (by decide) hL hi (T_L_12 9 _ _ _ rfl) (T_L_12 10 _ _ _ rfl) (T_L_12 11 _ _ _ rfl) (T_L_12 12 _ _ _ rfl) (T_L_12 13 _ _ _ rfl) ?_
  refine l_call (M' := M_X12_jobs) (c0 := 83) (av := [.inl (xs (i + 1).toNat).toInt, .inl (xs (i + 2).toNat).toInt, .inl (xs (i + 3).toNat).toInt]) (st := [.inl r]) (T_L_12 14 _ _ _ rfl) ml_L_98 cb_X12_jobs rfl rfl (Nat.le_of_ble_eq_true rfl) (by decide) (R_X12_jobs N _ _ _ _ _ e2) ?_
  refine l_eq (tgt := 1054) (T_L_12 15 _ _ _ rfl) (by decide) rfl ?_
  exact k h2 hI2
set_option maxRecDepth 100000 in
set_option maxHeartbeats 4000000 in
theorem l_case20 {L : Nat} {xs : Nat → Int32} {i : Int} {N : Nat} {Inv : Hp → Prop} (o : ∀ a1 : Int, inR a1 → ∀ a2 : Int, inR a2 → ∀ a3 : Int, inR a3 → Sm Inv (F_X11_load N a1 a2 a3) (F_X12_load N a1 a2 a3)) (hL : L ≤ 3072) (hi : 0 ≤ i ∧ i + 6 ≤ L) (h : Hp) (hI : Inv h) (k : ∀ h2, Inv h2 → GoL L xs 1054 i [] h2) : GoL L xs 840 i [] h := by
  refine l_ok fun hok _ => ?_
  refine l_x (T_L_12 18 _ _ _ rfl) ?_
  refine l_arg 1 (by decide) hL hi (T_L_12 19 _ _ _ rfl) (T_L_12 20 _ _ _ rfl) (T_L_12 21 _ _ _ rfl) (T_L_12 22 _ _ _ rfl) (T_L_12 23 _ _ _ rfl) ?_
  refine l_arg 2 (by decide) hL hi (T_L_12 24 _ _ _ rfl) (T_L_12 25 _ _ _ rfl) (T_L_12 26 _ _ _ rfl) (T_L_12 27 _ _ _ rfl) (T_L_12 28 _ _ _ rfl) ?_
  refine l_arg 3 (by decide) hL hi (T_L_12 29 _ _ _ rfl) (T_L_12 30 _ _ _ rfl) (T_L_12 31 _ _ _ rfl) (T_L_12 32 _ _ _ rfl) (T_L_12 33 _ _ _ rfl) ?_
  obtain ⟨r, h1, h2, e1, e2, hI2⟩ := o _ (inR_t _) _ (inR_t _) _ (inR_t _) h hok hI
  refine l_call (M' := M_X11_load) (c0 := 0) (av := [.inl (xs (i + 1).toNat).toInt, .inl (xs (i + 2).toNat).toInt, .inl (xs (i + 3).toNat).toInt]) (st := []) (T_L_12 34 _ _ _ rfl) ml_L_99 cb_X11_load rfl rfl (Nat.le_of_ble_eq_true rfl) (by decide) (R_X11_load N _ _ _ _ _ e1) ?_
  refine l_m (T_L_12 35 _ _ _ rfl) ?_
  refine l_arg 1 (by decide) hL hi (T_L_12 36 _ _ _ rfl) (T_L_12 37 _ _ _ rfl) (T_L_12 38 _ _ _ rfl) (T_L_12 39 _ _ _ rfl) (T_L_12 40 _ _ _ rfl) ?_
  refine l_arg 2 (by decide) hL hi (T_L_12 41 _ _ _ rfl) (T_L_12 42 _ _ _ rfl) (T_L_12 43 _ _ _ rfl) (T_L_12 44 _ _ _ rfl) (T_L_12 45 _ _ _ rfl) ?_
  refine l_arg 3 (by decide) hL hi (T_L_12 46 _ _ _ rfl) (T_L_13 0 _ _ _ rfl) (T_L_13 1 _ _ _ rfl) (T_L_13 2 _ _ _ rfl) (T_L_13 3 _ _ _ rfl) ?_
  refine l_call (M' := M_X12_load) (c0 := 83) (av := [.inl (xs (i + 1).toNat).toInt, .inl (xs (i + 2).toNat).toInt, .inl (xs (i + 3).toNat).toInt]) (st := [.inl r]) (T_L_13 4 _ _ _ rfl) ml_L_102 cb_X12_load rfl rfl (Nat.le_of_ble_eq_true rfl) (by decide) (R_X12_load N _ _ _ _ _ e2) ?_
  refine l_eq (tgt := 1054) (T_L_13 5 _ _ _ rfl) (by decide) rfl ?_
  exact k h2 hI2
set_option maxRecDepth 100000 in
set_option maxHeartbeats 4000000 in
theorem l_case21 {L : Nat} {xs : Nat → Int32} {i : Int} {N : Nat} {Inv : Hp → Prop} (o : ∀ a1 : Int, inR a1 → ∀ a2 : Int, inR a2 → Sm Inv (F_X11_brides N a1 a2) (F_X12_brides N a1 a2)) (hL : L ≤ 3072) (hi : 0 ≤ i ∧ i + 6 ≤ L) (h : Hp) (hI : Inv h) (k : ∀ h2, Inv h2 → GoL L xs 1054 i [] h2) : GoL L xs 883 i [] h := by
  refine l_ok fun hok _ => ?_
  refine l_x (T_L_13 8 _ _ _ rfl) ?_
  refine l_arg 1 (by decide) hL hi (T_L_13 9 _ _ _ rfl) (T_L_13 10 _ _ _ rfl) (T_L_13 11 _ _ _ rfl) (T_L_13 12 _ _ _ rfl) (T_L_13 13 _ _ _ rfl) ?_
  refine l_arg 2 (by decide) hL hi (T_L_13 14 _ _ _ rfl) (T_L_13 15 _ _ _ rfl) (T_L_13 16 _ _ _ rfl) (T_L_13 17 _ _ _ rfl) (T_L_13 18 _ _ _ rfl) ?_
  obtain ⟨r, h1, h2, e1, e2, hI2⟩ := o _ (inR_t _) _ (inR_t _) h hok hI
  refine l_call (M' := M_X11_brides) (c0 := 0) (av := [.inl (xs (i + 1).toNat).toInt, .inl (xs (i + 2).toNat).toInt]) (st := []) (T_L_13 19 _ _ _ rfl) ml_L_103 cb_X11_brides rfl rfl (Nat.le_of_ble_eq_true rfl) (by decide) (R_X11_brides N _ _ _ _ e1) ?_
  refine l_m (T_L_13 20 _ _ _ rfl) ?_
  refine l_arg 1 (by decide) hL hi (T_L_13 21 _ _ _ rfl) (T_L_13 22 _ _ _ rfl) (T_L_13 23 _ _ _ rfl) (T_L_13 24 _ _ _ rfl) (T_L_13 25 _ _ _ rfl) ?_
  refine l_arg 2 (by decide) hL hi (T_L_13 26 _ _ _ rfl) (T_L_13 27 _ _ _ rfl) (T_L_13 28 _ _ _ rfl) (T_L_13 29 _ _ _ rfl) (T_L_13 30 _ _ _ rfl) ?_
  refine l_call (M' := M_X12_brides) (c0 := 83) (av := [.inl (xs (i + 1).toNat).toInt, .inl (xs (i + 2).toNat).toInt]) (st := [.inl r]) (T_L_13 31 _ _ _ rfl) ml_L_106 cb_X12_brides rfl rfl (Nat.le_of_ble_eq_true rfl) (by decide) (R_X12_brides N _ _ _ _ e2) ?_
  refine l_eq (tgt := 1054) (T_L_13 32 _ _ _ rfl) (by decide) rfl ?_
  exact k h2 hI2
set_option maxRecDepth 100000 in
set_option maxHeartbeats 4000000 in
theorem l_case22 {L : Nat} {xs : Nat → Int32} {i : Int} {N : Nat} {Inv : Hp → Prop} (o : ∀ a1 : Int, inR a1 → ∀ a2 : Int, inR a2 → ∀ a3 : Int, inR a3 → Sm Inv (F_X11_thieves N a1 a2 a3) (F_X12_thieves N a1 a2 a3)) (hL : L ≤ 3072) (hi : 0 ≤ i ∧ i + 6 ≤ L) (h : Hp) (hI : Inv h) (k : ∀ h2, Inv h2 → GoL L xs 1054 i [] h2) : GoL L xs 916 i [] h := by
  refine l_ok fun hok _ => ?_
  refine l_x (T_L_13 35 _ _ _ rfl) ?_
  refine l_arg 1 (by decide) hL hi (T_L_13 36 _ _ _ rfl) (T_L_13 37 _ _ _ rfl) (T_L_13 38 _ _ _ rfl) (T_L_13 39 _ _ _ rfl) (T_L_13 40 _ _ _ rfl) ?_
  refine l_arg 2 (by decide) hL hi (T_L_13 41 _ _ _ rfl) (T_L_13 42 _ _ _ rfl) (T_L_13 43 _ _ _ rfl) (T_L_13 44 _ _ _ rfl) (T_L_13 45 _ _ _ rfl) ?_
  refine l_arg 3 (by decide) hL hi (T_L_13 46 _ _ _ rfl) (T_L_14 0 _ _ _ rfl) (T_L_14 1 _ _ _ rfl) (T_L_14 2 _ _ _ rfl) (T_L_14 3 _ _ _ rfl) ?_
  obtain ⟨r, h1, h2, e1, e2, hI2⟩ := o _ (inR_t _) _ (inR_t _) _ (inR_t _) h hok hI
  refine l_call (M' := M_X11_thieves) (c0 := 0) (av := [.inl (xs (i + 1).toNat).toInt, .inl (xs (i + 2).toNat).toInt, .inl (xs (i + 3).toNat).toInt]) (st := []) (T_L_14 4 _ _ _ rfl) ml_L_107 cb_X11_thieves rfl rfl (Nat.le_of_ble_eq_true rfl) (by decide) (R_X11_thieves N _ _ _ _ _ e1) ?_
  refine l_m (T_L_14 5 _ _ _ rfl) ?_
  refine l_arg 1 (by decide) hL hi (T_L_14 6 _ _ _ rfl) (T_L_14 7 _ _ _ rfl) (T_L_14 8 _ _ _ rfl) (T_L_14 9 _ _ _ rfl) (T_L_14 10 _ _ _ rfl) ?_
  refine l_arg 2 (by decide) hL hi (T_L_14 11 _ _ _ rfl) (T_L_14 12 _ _ _ rfl) (T_L_14 13 _ _ _ rfl) (T_L_14 14 _ _ _ rfl) (T_L_14 15 _ _ _ rfl) ?_
  refine l_arg 3 (by decide) hL hi (T_L_14 16 _ _ _ rfl) (T_L_14 17 _ _ _ rfl) (T_L_14 18 _ _ _ rfl) (T_L_14 19 _ _ _ rfl) (T_L_14 20 _ _ _ rfl) ?_
  refine l_call (M' := M_X12_thieves) (c0 := 83) (av := [.inl (xs (i + 1).toNat).toInt, .inl (xs (i + 2).toNat).toInt, .inl (xs (i + 3).toNat).toInt]) (st := [.inl r]) (T_L_14 21 _ _ _ rfl) ml_L_110 cb_X12_thieves rfl rfl (Nat.le_of_ble_eq_true rfl) (by decide) (R_X12_thieves N _ _ _ _ _ e2) ?_
  refine l_eq (tgt := 1054) (T_L_14 22 _ _ _ rfl) (by decide) rfl ?_
  exact k h2 hI2
set_option maxRecDepth 100000 in
set_option maxHeartbeats 4000000 in
theorem l_case23 {L : Nat} {xs : Nat → Int32} {i : Int} {N : Nat} {Inv : Hp → Prop} (o : ∀ a1 : Int, inR a1 → Sm Inv (F_X11_latest N a1) (F_X12_latest N a1)) (hL : L ≤ 3072) (hi : 0 ≤ i ∧ i + 6 ≤ L) (h : Hp) (hI : Inv h) (k : ∀ h2, Inv h2 → GoL L xs 1054 i [] h2) : GoL L xs 959 i [] h := by
  refine l_ok fun hok _ => ?_
  refine l_x (T_L_14 25 _ _ _ rfl) ?_
  refine l_arg 1 (by decide) hL hi (T_L_14 26 _ _ _ rfl) (T_L_14 27 _ _ _ rfl) (T_L_14 28 _ _ _ rfl) (T_L_14 29 _ _ _ rfl) (T_L_14 30 _ _ _ rfl) ?_
  obtain ⟨r, h1, h2, e1, e2, hI2⟩ := o _ (inR_t _) h hok hI
  refine l_call (M' := M_X11_latest) (c0 := 0) (av := [.inl (xs (i + 1).toNat).toInt]) (st := []) (T_L_14 31 _ _ _ rfl) ml_L_111 cb_X11_latest rfl rfl (Nat.le_of_ble_eq_true rfl) (by decide) (R_X11_latest N _ _ _ e1) ?_
  refine l_m (T_L_14 32 _ _ _ rfl) ?_
  refine l_arg 1 (by decide) hL hi (T_L_14 33 _ _ _ rfl) (T_L_14 34 _ _ _ rfl) (T_L_14 35 _ _ _ rfl) (T_L_14 36 _ _ _ rfl) (T_L_14 37 _ _ _ rfl) ?_
  refine l_call (M' := M_X12_latest) (c0 := 83) (av := [.inl (xs (i + 1).toNat).toInt]) (st := [.inl r]) (T_L_14 38 _ _ _ rfl) ml_L_114 cb_X12_latest rfl rfl (Nat.le_of_ble_eq_true rfl) (by decide) (R_X12_latest N _ _ _ e2) ?_
  refine l_eq (tgt := 1054) (T_L_14 39 _ _ _ rfl) (by decide) rfl ?_
  exact k h2 hI2
set_option maxRecDepth 100000 in
set_option maxHeartbeats 4000000 in
theorem l_case24 {L : Nat} {xs : Nat → Int32} {i : Int} {N : Nat} {Inv : Hp → Prop} (o : Sm Inv (F_X11_keep N ) (F_X12_keep N )) (hL : L ≤ 3072) (hi : 0 ≤ i ∧ i + 6 ≤ L) (h : Hp) (hI : Inv h) (k : ∀ h2, Inv h2 → GoL L xs 1054 i [] h2) : GoL L xs 982 i [] h := by
  refine l_ok fun hok _ => ?_
  refine l_x (T_L_14 42 _ _ _ rfl) ?_
  obtain ⟨r, h1, h2, e1, e2, hI2⟩ := o h hok hI
  refine l_call (M' := M_X11_keep) (c0 := 0) (av := []) (st := []) (T_L_14 43 _ _ _ rfl) ml_L_115 cb_X11_keep rfl rfl (Nat.le_of_ble_eq_true rfl) (by decide) (R_X11_keep N _ _ e1) ?_
  refine l_m (T_L_14 44 _ _ _ rfl) ?_
  refine l_call (M' := M_X12_keep) (c0 := 83) (av := []) (st := [.inl r]) (T_L_14 45 _ _ _ rfl) ml_L_119 cb_X12_keep rfl rfl (Nat.le_of_ble_eq_true rfl) (by decide) (R_X12_keep N _ _ e2) ?_
  refine l_eq (tgt := 1054) (T_L_14 46 _ _ _ rfl) (by decide) rfl ?_
  exact k h2 hI2
set_option maxRecDepth 100000 in
set_option maxHeartbeats 4000000 in
theorem l_case25 {L : Nat} {xs : Nat → Int32} {i : Int} {N : Nat} {Inv : Hp → Prop} (o : Sm Inv (F_X11_undo N ) (F_X12_undo N )) (hL : L ≤ 3072) (hi : 0 ≤ i ∧ i + 6 ≤ L) (h : Hp) (hI : Inv h) (k : ∀ h2, Inv h2 → GoL L xs 1054 i [] h2) : GoL L xs 995 i [] h := by
  refine l_ok fun hok _ => ?_
  refine l_x (T_L_15 2 _ _ _ rfl) ?_
  obtain ⟨r, h1, h2, e1, e2, hI2⟩ := o h hok hI
  refine l_call (M' := M_X11_undo) (c0 := 0) (av := []) (st := []) (T_L_15 3 _ _ _ rfl) ml_L_120 cb_X11_undo rfl rfl (Nat.le_of_ble_eq_true rfl) (by decide) (R_X11_undo N _ _ e1) ?_
  refine l_m (T_L_15 4 _ _ _ rfl) ?_
  refine l_call (M' := M_X12_undo) (c0 := 83) (av := []) (st := [.inl r]) (T_L_15 5 _ _ _ rfl) ml_L_124 cb_X12_undo rfl rfl (Nat.le_of_ble_eq_true rfl) (by decide) (R_X12_undo N _ _ e2) ?_
  refine l_eq (tgt := 1054) (T_L_15 6 _ _ _ rfl) (by decide) rfl ?_
  exact k h2 hI2
set_option maxRecDepth 100000 in
set_option maxHeartbeats 4000000 in
theorem l_case26 {L : Nat} {xs : Nat → Int32} {i : Int} {N : Nat} {Inv : Hp → Prop} (o : ∀ a1 : Int, inR a1 → Sm Inv (F_X11_check N a1) (F_X12_check N a1)) (hL : L ≤ 3072) (hi : 0 ≤ i ∧ i + 6 ≤ L) (h : Hp) (hI : Inv h) (k : ∀ h2, Inv h2 → GoL L xs 1054 i [] h2) : GoL L xs 1008 i [] h := by
  refine l_ok fun hok _ => ?_
  refine l_x (T_L_15 9 _ _ _ rfl) ?_
  refine l_arg 1 (by decide) hL hi (T_L_15 10 _ _ _ rfl) (T_L_15 11 _ _ _ rfl) (T_L_15 12 _ _ _ rfl) (T_L_15 13 _ _ _ rfl) (T_L_15 14 _ _ _ rfl) ?_
  obtain ⟨r, h1, h2, e1, e2, hI2⟩ := o _ (inR_t _) h hok hI
  refine l_call (M' := M_X11_check) (c0 := 0) (av := [.inl (xs (i + 1).toNat).toInt]) (st := []) (T_L_15 15 _ _ _ rfl) ml_L_125 cb_X11_check rfl rfl (Nat.le_of_ble_eq_true rfl) (by decide) (R_X11_check N _ _ _ e1) ?_
  refine l_m (T_L_15 16 _ _ _ rfl) ?_
  refine l_arg 1 (by decide) hL hi (T_L_15 17 _ _ _ rfl) (T_L_15 18 _ _ _ rfl) (T_L_15 19 _ _ _ rfl) (T_L_15 20 _ _ _ rfl) (T_L_15 21 _ _ _ rfl) ?_
  refine l_call (M' := M_X12_check) (c0 := 83) (av := [.inl (xs (i + 1).toNat).toInt]) (st := [.inl r]) (T_L_15 22 _ _ _ rfl) ml_L_128 cb_X12_check rfl rfl (Nat.le_of_ble_eq_true rfl) (by decide) (R_X12_check N _ _ _ e2) ?_
  refine l_eq (tgt := 1054) (T_L_15 23 _ _ _ rfl) (by decide) rfl ?_
  exact k h2 hI2
set_option maxRecDepth 100000 in
set_option maxHeartbeats 4000000 in
theorem l_case27 {L : Nat} {xs : Nat → Int32} {i : Int} {N : Nat} {Inv : Hp → Prop} (o : ∀ a1 : Int, inR a1 → Sm Inv (F_X11_count N a1) (F_X12_count N a1)) (hL : L ≤ 3072) (hi : 0 ≤ i ∧ i + 6 ≤ L) (h : Hp) (hI : Inv h) (k : ∀ h2, Inv h2 → GoL L xs 1054 i [] h2) : GoL L xs 1031 i [] h := by
  refine l_ok fun hok _ => ?_
  refine l_x (T_L_15 26 _ _ _ rfl) ?_
  refine l_arg 1 (by decide) hL hi (T_L_15 27 _ _ _ rfl) (T_L_15 28 _ _ _ rfl) (T_L_15 29 _ _ _ rfl) (T_L_15 30 _ _ _ rfl) (T_L_15 31 _ _ _ rfl) ?_
  obtain ⟨r, h1, h2, e1, e2, hI2⟩ := o _ (inR_t _) h hok hI
  refine l_call (M' := M_X11_count) (c0 := 0) (av := [.inl (xs (i + 1).toNat).toInt]) (st := []) (T_L_15 32 _ _ _ rfl) ml_L_129 cb_X11_count rfl rfl (Nat.le_of_ble_eq_true rfl) (by decide) (R_X11_count N _ _ _ e1) ?_
  refine l_m (T_L_15 33 _ _ _ rfl) ?_
  refine l_arg 1 (by decide) hL hi (T_L_15 34 _ _ _ rfl) (T_L_15 35 _ _ _ rfl) (T_L_15 36 _ _ _ rfl) (T_L_15 37 _ _ _ rfl) (T_L_15 38 _ _ _ rfl) ?_
  refine l_call (M' := M_X12_count) (c0 := 83) (av := [.inl (xs (i + 1).toNat).toInt]) (st := [.inl r]) (T_L_15 39 _ _ _ rfl) ml_L_132 cb_X12_count rfl rfl (Nat.le_of_ble_eq_true rfl) (by decide) (R_X12_count N _ _ _ e2) ?_
  refine l_eq (tgt := 1054) (T_L_15 40 _ _ _ rfl) (by decide) rfl ?_
  exact k h2 hI2
set_option maxRecDepth 100000 in
set_option maxHeartbeats 4000000 in
theorem law_loop {L : Nat} {xs : Nat → Int32} {N : Nat} {Inv : Hp → Prop} (o0 : ∀ a1 : Int, inR a1 → ∀ a2 : Int, inR a2 → ∀ a3 : Int, inR a3 → ∀ a4 : Int, inR a4 → Sm Inv (F_X11_street N a1 a2 a3 a4) (F_X12_street N a1 a2 a3 a4)) (o1 : ∀ a1 : Int, inR a1 → ∀ a2 : Int, inR a2 → Sm Inv (F_X11_cart N a1 a2) (F_X12_cart N a1 a2)) (o2 : ∀ a1 : Int, inR a1 → ∀ a2 : Int, inR a2 → Sm Inv (F_X11_pour N a1 a2) (F_X12_pour N a1 a2)) (o3 : ∀ a1 : Int, inR a1 → ∀ a2 : Int, inR a2 → ∀ a3 : Int, inR a3 → ∀ a4 : Int, inR a4 → ∀ a5 : Int, inR a5 → Sm Inv (F_X11_feed N a1 a2 a3 a4 a5) (F_X12_feed N a1 a2 a3 a4 a5)) (o4 : ∀ a1 : Int, inR a1 → Sm Inv (F_X11_law N a1) (F_X12_law N a1)) (o5 : ∀ a1 : Int, inR a1 → Sm Inv (F_X11_roads N a1) (F_X12_roads N a1)) (o6 : ∀ a1 : Int, inR a1 → ∀ a2 : Int, inR a2 → Sm Inv (F_X11_plan N a1 a2) (F_X12_plan N a1 a2)) (o7 : ∀ a1 : Int, inR a1 → Sm Inv (F_X11_nights N a1) (F_X12_nights N a1)) (o8 : ∀ a1 : Int, inR a1 → Sm Inv (F_X11_tried N a1) (F_X12_tried N a1)) (o9 : ∀ a1 : Int, inR a1 → ∀ a2 : Int, inR a2 → Sm Inv (F_X11_way N a1 a2) (F_X12_way N a1 a2)) (o10 : ∀ a1 : Int, inR a1 → ∀ a2 : Int, inR a2 → ∀ a3 : Int, inR a3 → Sm Inv (F_X11_round N a1 a2 a3) (F_X12_round N a1 a2 a3)) (o11 : ∀ a1 : Int, inR a1 → ∀ a2 : Int, inR a2 → ∀ a3 : Int, inR a3 → Sm Inv (F_X11_share N a1 a2 a3) (F_X12_share N a1 a2 a3)) (o12 : ∀ a1 : Int, inR a1 → ∀ a2 : Int, inR a2 → ∀ a3 : Int, inR a3 → Sm Inv (F_X11_sleepful N a1 a2 a3) (F_X12_sleepful N a1 a2 a3)) (o13 : ∀ a1 : Int, inR a1 → Sm Inv (F_X11_pitAt N a1) (F_X12_pitAt N a1)) (o14 : ∀ a1 : Int, inR a1 → Sm Inv (F_X11_cut N a1) (F_X12_cut N a1)) (o15 : ∀ a1 : Int, inR a1 → Sm Inv (F_X11_strike N a1) (F_X12_strike N a1)) (o16 : ∀ a1 : Int, inR a1 → Sm Inv (F_X11_enough N a1) (F_X12_enough N a1)) (o17 : ∀ a1 : Int, inR a1 → ∀ a2 : Int, inR a2 → ∀ a3 : Int, inR a3 → Sm Inv (F_X11_oneStop N a1 a2 a3) (F_X12_oneStop N a1 a2 a3)) (o18 : ∀ a1 : Int, inR a1 → ∀ a2 : Int, inR a2 → Sm Inv (F_X11_out N a1 a2) (F_X12_out N a1 a2)) (o19 : ∀ a1 : Int, inR a1 → ∀ a2 : Int, inR a2 → ∀ a3 : Int, inR a3 → Sm Inv (F_X11_jobs N a1 a2 a3) (F_X12_jobs N a1 a2 a3)) (o20 : ∀ a1 : Int, inR a1 → ∀ a2 : Int, inR a2 → ∀ a3 : Int, inR a3 → Sm Inv (F_X11_load N a1 a2 a3) (F_X12_load N a1 a2 a3)) (o21 : ∀ a1 : Int, inR a1 → ∀ a2 : Int, inR a2 → Sm Inv (F_X11_brides N a1 a2) (F_X12_brides N a1 a2)) (o22 : ∀ a1 : Int, inR a1 → ∀ a2 : Int, inR a2 → ∀ a3 : Int, inR a3 → Sm Inv (F_X11_thieves N a1 a2 a3) (F_X12_thieves N a1 a2 a3)) (o23 : ∀ a1 : Int, inR a1 → Sm Inv (F_X11_latest N a1) (F_X12_latest N a1)) (o24 : Sm Inv (F_X11_keep N ) (F_X12_keep N )) (o25 : Sm Inv (F_X11_undo N ) (F_X12_undo N )) (o26 : ∀ a1 : Int, inR a1 → Sm Inv (F_X11_check N a1) (F_X12_check N a1)) (o27 : ∀ a1 : Int, inR a1 → Sm Inv (F_X11_count N a1) (F_X12_count N a1)) (hL : L ≤ 3072) : ∀ (n : Nat) (i : Int) (h : Hp), 0 ≤ i → i ≤ L + 6 → (L : Int) + 6 - i < n → Inv h → GoL L xs 18 i [] h
  | 0, i, h, h0, h1, hn, _ => absurd hn (by omega)
  | n + 1, i, h, h0, h1, hn, hI => by
    have ih := law_loop (xs := xs) o0 o1 o2 o3 o4 o5 o6 o7 o8 o9 o10 o11 o12 o13 o14 o15 o16 o17 o18 o19 o20 o21 o22 o23 o24 o25 o26 o27 hL n
    refine l_head (tgt := 1060) hL ⟨h0, by omega⟩ (T_L_0 10 _ _ _ rfl) (T_L_0 11 _ _ _ rfl) (T_L_0 12 _ _ _ rfl) (T_L_0 13 _ _ _ rfl) (T_L_0 14 _ _ _ rfl) (T_L_0 15 _ _ _ rfl) (by decide) (fun _ => l_true (T_L_15 45 _ _ _ rfl) (T_L_15 46 _ _ _ rfl)) (fun hi => ?_)
    have hend : ∀ h2, Inv h2 → GoL L xs 1054 i [] h2 := fun h2 hI2 => l_end (tgt := 18) (T_L_15 43 _ _ _ rfl) (T_L_15 44 _ _ _ rfl) (by decide) ⟨h0, by omega⟩ (ih (i + 6) h2 (by omega) (by omega) (by omega) hI2)
    refine l_kind hL ⟨h0, hi⟩ (T_L_0 16 _ _ _ rfl) (T_L_0 17 _ _ _ rfl) (T_L_0 18 _ _ _ rfl) (T_L_0 19 _ _ _ rfl) (T_L_0 20 _ _ _ rfl) fun x => ?_
    by_cases c0 : x = 0
    · exact l_swIn (tgt := 160) (T_L_0 21 _ _ _ rfl) (by rw [c0]; decide) (by rw [c0]; decide) (by rw [c0]; rfl) (by decide) (l_case0 o0 hL ⟨h0, hi⟩ h hI hend)
    by_cases c1 : x = 1
    · exact l_swIn (tgt := 213) (T_L_0 21 _ _ _ rfl) (by rw [c1]; decide) (by rw [c1]; decide) (by rw [c1]; rfl) (by decide) (l_case1 o1 hL ⟨h0, hi⟩ h hI hend)
    by_cases c2 : x = 2
    · exact l_swIn (tgt := 246) (T_L_0 21 _ _ _ rfl) (by rw [c2]; decide) (by rw [c2]; decide) (by rw [c2]; rfl) (by decide) (l_case2 o2 hL ⟨h0, hi⟩ h hI hend)
    by_cases c3 : x = 3
    · exact l_swIn (tgt := 279) (T_L_0 21 _ _ _ rfl) (by rw [c3]; decide) (by rw [c3]; decide) (by rw [c3]; rfl) (by decide) (l_case3 o3 hL ⟨h0, hi⟩ h hI hend)
    by_cases c4 : x = 4
    · exact l_swIn (tgt := 342) (T_L_0 21 _ _ _ rfl) (by rw [c4]; decide) (by rw [c4]; decide) (by rw [c4]; rfl) (by decide) (l_case4 o4 hL ⟨h0, hi⟩ h hI hend)
    by_cases c5 : x = 5
    · exact l_swIn (tgt := 365) (T_L_0 21 _ _ _ rfl) (by rw [c5]; decide) (by rw [c5]; decide) (by rw [c5]; rfl) (by decide) (l_case5 o5 hL ⟨h0, hi⟩ h hI hend)
    by_cases c6 : x = 6
    · exact l_swIn (tgt := 388) (T_L_0 21 _ _ _ rfl) (by rw [c6]; decide) (by rw [c6]; decide) (by rw [c6]; rfl) (by decide) (l_case6 o6 hL ⟨h0, hi⟩ h hI hend)
    by_cases c7 : x = 7
    · exact l_swIn (tgt := 421) (T_L_0 21 _ _ _ rfl) (by rw [c7]; decide) (by rw [c7]; decide) (by rw [c7]; rfl) (by decide) (l_case7 o7 hL ⟨h0, hi⟩ h hI hend)
    by_cases c8 : x = 8
    · exact l_swIn (tgt := 444) (T_L_0 21 _ _ _ rfl) (by rw [c8]; decide) (by rw [c8]; decide) (by rw [c8]; rfl) (by decide) (l_case8 o8 hL ⟨h0, hi⟩ h hI hend)
    by_cases c9 : x = 9
    · exact l_swIn (tgt := 467) (T_L_0 21 _ _ _ rfl) (by rw [c9]; decide) (by rw [c9]; decide) (by rw [c9]; rfl) (by decide) (l_case9 o9 hL ⟨h0, hi⟩ h hI hend)
    by_cases c10 : x = 10
    · exact l_swIn (tgt := 500) (T_L_0 21 _ _ _ rfl) (by rw [c10]; decide) (by rw [c10]; decide) (by rw [c10]; rfl) (by decide) (l_case10 o10 hL ⟨h0, hi⟩ h hI hend)
    by_cases c11 : x = 11
    · exact l_swIn (tgt := 543) (T_L_0 21 _ _ _ rfl) (by rw [c11]; decide) (by rw [c11]; decide) (by rw [c11]; rfl) (by decide) (l_case11 o11 hL ⟨h0, hi⟩ h hI hend)
    by_cases c12 : x = 12
    · exact l_swIn (tgt := 586) (T_L_0 21 _ _ _ rfl) (by rw [c12]; decide) (by rw [c12]; decide) (by rw [c12]; rfl) (by decide) (l_case12 o12 hL ⟨h0, hi⟩ h hI hend)
    by_cases c13 : x = 13
    · exact l_swIn (tgt := 629) (T_L_0 21 _ _ _ rfl) (by rw [c13]; decide) (by rw [c13]; decide) (by rw [c13]; rfl) (by decide) (l_case13 o13 hL ⟨h0, hi⟩ h hI hend)
    by_cases c14 : x = 14
    · exact l_swIn (tgt := 652) (T_L_0 21 _ _ _ rfl) (by rw [c14]; decide) (by rw [c14]; decide) (by rw [c14]; rfl) (by decide) (l_case14 o14 hL ⟨h0, hi⟩ h hI hend)
    by_cases c15 : x = 15
    · exact l_swIn (tgt := 675) (T_L_0 21 _ _ _ rfl) (by rw [c15]; decide) (by rw [c15]; decide) (by rw [c15]; rfl) (by decide) (l_case15 o15 hL ⟨h0, hi⟩ h hI hend)
    by_cases c16 : x = 16
    · exact l_swIn (tgt := 698) (T_L_0 21 _ _ _ rfl) (by rw [c16]; decide) (by rw [c16]; decide) (by rw [c16]; rfl) (by decide) (l_case16 o16 hL ⟨h0, hi⟩ h hI hend)
    by_cases c17 : x = 17
    · exact l_swIn (tgt := 721) (T_L_0 21 _ _ _ rfl) (by rw [c17]; decide) (by rw [c17]; decide) (by rw [c17]; rfl) (by decide) (l_case17 o17 hL ⟨h0, hi⟩ h hI hend)
    by_cases c18 : x = 18
    · exact l_swIn (tgt := 764) (T_L_0 21 _ _ _ rfl) (by rw [c18]; decide) (by rw [c18]; decide) (by rw [c18]; rfl) (by decide) (l_case18 o18 hL ⟨h0, hi⟩ h hI hend)
    by_cases c19 : x = 19
    · exact l_swIn (tgt := 797) (T_L_0 21 _ _ _ rfl) (by rw [c19]; decide) (by rw [c19]; decide) (by rw [c19]; rfl) (by decide) (l_case19 o19 hL ⟨h0, hi⟩ h hI hend)
    by_cases c20 : x = 20
    · exact l_swIn (tgt := 840) (T_L_0 21 _ _ _ rfl) (by rw [c20]; decide) (by rw [c20]; decide) (by rw [c20]; rfl) (by decide) (l_case20 o20 hL ⟨h0, hi⟩ h hI hend)
    by_cases c21 : x = 21
    · exact l_swIn (tgt := 883) (T_L_0 21 _ _ _ rfl) (by rw [c21]; decide) (by rw [c21]; decide) (by rw [c21]; rfl) (by decide) (l_case21 o21 hL ⟨h0, hi⟩ h hI hend)
    by_cases c22 : x = 22
    · exact l_swIn (tgt := 916) (T_L_0 21 _ _ _ rfl) (by rw [c22]; decide) (by rw [c22]; decide) (by rw [c22]; rfl) (by decide) (l_case22 o22 hL ⟨h0, hi⟩ h hI hend)
    by_cases c23 : x = 23
    · exact l_swIn (tgt := 959) (T_L_0 21 _ _ _ rfl) (by rw [c23]; decide) (by rw [c23]; decide) (by rw [c23]; rfl) (by decide) (l_case23 o23 hL ⟨h0, hi⟩ h hI hend)
    by_cases c24 : x = 24
    · exact l_swIn (tgt := 982) (T_L_0 21 _ _ _ rfl) (by rw [c24]; decide) (by rw [c24]; decide) (by rw [c24]; rfl) (by decide) (l_case24 o24 hL ⟨h0, hi⟩ h hI hend)
    by_cases c25 : x = 25
    · exact l_swIn (tgt := 995) (T_L_0 21 _ _ _ rfl) (by rw [c25]; decide) (by rw [c25]; decide) (by rw [c25]; rfl) (by decide) (l_case25 o25 hL ⟨h0, hi⟩ h hI hend)
    by_cases c26 : x = 26
    · exact l_swIn (tgt := 1008) (T_L_0 21 _ _ _ rfl) (by rw [c26]; decide) (by rw [c26]; decide) (by rw [c26]; rfl) (by decide) (l_case26 o26 hL ⟨h0, hi⟩ h hI hend)
    by_cases c27 : x = 27
    · exact l_swIn (tgt := 1031) (T_L_0 21 _ _ _ rfl) (by rw [c27]; decide) (by rw [c27]; decide) (by rw [c27]; rfl) (by decide) (l_case27 o27 hL ⟨h0, hi⟩ h hI hend)
    exact l_swOut (tgt := 1054) (T_L_0 21 _ _ _ rfl) (by omega) (by decide) (hend h hI)
