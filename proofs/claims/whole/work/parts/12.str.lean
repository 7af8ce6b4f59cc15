/-! THE TEXT'S OWN METHODS: String.indexOf over the reader's constant. Words and tables by program -/
abbrev MS_ioI : Mth := (yJ0_indexOf_0f7a4, cJ0_indexOf_0f7a4, 2, some .int)
set_option maxRecDepth 100000 in
theorem TS_ioI : Tab cJ0_indexOf_0f7a4 [(0, .aload_n 0, 1), (1, .iload_n 1, 1), (2, .iconst 0, 1), (3, .invokevirtual 633, 3), (6, .ireturn, 1)] := Tab.of (by decide +kernel)
theorem cs_ioI : CB MS_ioI 1 ∧ Cond.instanceMethod MS_ioI.1 ∈ WS ∧ Cond.selects MS_ioI.1.cls MS_ioI.1 MS_ioI.1 ∈ WS := ⟨⟨(inB3 86 rfl rfl), (inB1 15 rfl rfl), by decide +kernel, by decide +kernel, by decide +kernel, by decide⟩, (inB3 84 rfl rfl), (inB3 85 rfl rfl)⟩
abbrev MS_ioII : Mth := (yJ0_indexOf_7cf53, cJ0_indexOf_7cf53, 3, some .int)
set_option maxRecDepth 100000 in
theorem TS_ioII : Tab cJ0_indexOf_7cf53 [(0, .aload_n 0, 1), (1, .invokevirtual 492, 3), (4, .ifCond .eq 19, 3), (7, .aload_n 0, 1), (8, .getfield 9, 3), (11, .iload_n 1, 1), (12, .iload_n 2, 1), (13, .aload_n 0, 1), (14, .invokevirtual 505, 3), (17, .invokestatic 637, 3), (20, .goto 16, 3), (23, .aload_n 0, 1), (24, .getfield 9, 3), (27, .iload_n 1, 1), (28, .iload_n 2, 1), (29, .aload_n 0, 1), (30, .invokevirtual 505, 3), (33, .invokestatic 640, 3), (36, .ireturn, 1)] := Tab.of (by decide +kernel)
theorem cs_ioII : CB MS_ioII 2 ∧ Cond.instanceMethod MS_ioII.1 ∈ WS ∧ Cond.selects MS_ioII.1.cls MS_ioII.1 MS_ioII.1 ∈ WS := ⟨⟨(inB3 90 rfl rfl), (inB1 15 rfl rfl), by decide +kernel, by decide +kernel, by decide +kernel, by decide⟩, (inB3 88 rfl rfl), (inB3 89 rfl rfl)⟩
abbrev MS_isL : Mth := (yJ0_isLatin1_aae02, cJ0_isLatin1_aae02, 1, some .boolean)
set_option maxRecDepth 100000 in
theorem TS_isL : Tab cJ0_isLatin1_aae02 [(0, .getstatic 38, 3), (3, .ifCond .eq 14, 3), (6, .aload_n 0, 1), (7, .getfield 15, 3), (10, .ifCond .ne 7, 3), (13, .iconst 1, 1), (14, .goto 4, 3), (17, .iconst 0, 1), (18, .ireturn, 1)] := Tab.of (by decide +kernel)
theorem cs_isL : CB MS_isL 0 ∧ Cond.instanceMethod MS_isL.1 ∈ WS ∧ Cond.selects MS_isL.1.cls MS_isL.1 MS_isL.1 ∈ WS := ⟨⟨(inB3 94 rfl rfl), (inB1 15 rfl rfl), by decide +kernel, by decide +kernel, by decide +kernel, by decide⟩, (inB3 92 rfl rfl), (inB3 93 rfl rfl)⟩
abbrev MS_len : Mth := (yJ0_length_8abf5, cJ0_length_8abf5, 1, some .int)
set_option maxRecDepth 100000 in
theorem TS_len : Tab cJ0_length_8abf5 [(0, .aload_n 0, 1), (1, .getfield 9, 3), (4, .arraylength, 1), (5, .aload_n 0, 1), (6, .invokevirtual 335, 3), (9, .ishr, 1), (10, .ireturn, 1)] := Tab.of (by decide +kernel)
theorem cs_len : CB MS_len 0 ∧ Cond.instanceMethod MS_len.1 ∈ WS ∧ Cond.selects MS_len.1.cls MS_len.1 MS_len.1 ∈ WS := ⟨⟨(inB3 100 rfl rfl), (inB1 15 rfl rfl), by decide +kernel, by decide +kernel, by decide +kernel, by decide⟩, (inB3 98 rfl rfl), (inB3 99 rfl rfl)⟩
abbrev MS_cod : Mth := (yJ0_coder_7d493, cJ0_coder_7d493, 1, some .byte)
set_option maxRecDepth 100000 in
theorem TS_cod : Tab cJ0_coder_7d493 [(0, .getstatic 38, 3), (3, .ifCond .eq 10, 3), (6, .aload_n 0, 1), (7, .getfield 15, 3), (10, .goto 4, 3), (13, .iconst 1, 1), (14, .ireturn, 1)] := Tab.of (by decide +kernel)
theorem cs_cod : CB MS_cod 0 ∧ Cond.instanceMethod MS_cod.1 ∈ WS ∧ Cond.selects MS_cod.1.cls MS_cod.1 MS_cod.1 ∈ WS := ⟨⟨(inB3 104 rfl rfl), (inB1 15 rfl rfl), by decide +kernel, by decide +kernel, by decide +kernel, by decide⟩, (inB3 102 rfl rfl), (inB3 103 rfl rfl)⟩
abbrev MS_lat : Mth := (yJ1_indexOf_4cfef, cJ1_indexOf_4cfef, 4, some .int)
set_option maxRecDepth 100000 in
theorem TS_lat : Tab cJ1_indexOf_4cfef [(0, .iload_n 1, 1), (1, .invokestatic 88, 3), (4, .ifCond .ne 5, 3), (7, .iconst (-1), 1), (8, .ireturn, 1), (9, .iload_n 2, 1), (10, .iconst 0, 1), (11, .invokestatic 92, 3), (14, .istore_n 2, 1), (15, .iload_n 3, 1), (16, .aload_n 0, 1), (17, .arraylength, 1), (18, .invokestatic 38, 3), (21, .istore_n 3, 1), (22, .iload_n 2, 1), (23, .iload_n 3, 1), (24, .if_icmp .lt 5, 3), (27, .iconst (-1), 1), (28, .ireturn, 1), (29, .aload_n 0, 1), (30, .iload_n 1, 1), (31, .iload_n 2, 1), (32, .iload_n 3, 1), (33, .invokestatic 95, 3), (36, .ireturn, 1)] := Tab.of (by decide +kernel)
theorem cs_lat : CBs MS_lat 4 := ⟨⟨(inB3 107 rfl rfl), (inB1 16 rfl rfl), by decide +kernel, by decide +kernel, by decide +kernel, by decide⟩, (inB3 106 rfl rfl)⟩
abbrev MS_chr : Mth := (yJ1_indexOfChar_4cfef, cJ1_indexOfChar_4cfef, 6, some .int)
set_option maxRecDepth 100000 in
theorem TS_chr : Tab cJ1_indexOfChar_4cfef [(0, .iload_n 1, 1), (1, .i2b, 1), (2, .istore 4, 2), (4, .iload_n 2, 1), (5, .istore 5, 2), (7, .iload 5, 2), (9, .iload_n 3, 1), (10, .if_icmp .ge 21, 3), (13, .aload_n 0, 1), (14, .iload 5, 2), (16, .baload, 1), (17, .iload 4, 2), (19, .if_icmp .ne 6, 3), (22, .iload 5, 2), (24, .ireturn, 1), (25, .iinc 5 1, 3), (28, .goto (-21), 3), (31, .iconst (-1), 1), (32, .ireturn, 1)] := Tab.of (by decide +kernel)
theorem cs_chr : CBs MS_chr 4 := ⟨⟨(inB3 117 rfl rfl), (inB1 16 rfl rfl), by decide +kernel, by decide +kernel, by decide +kernel, by decide⟩, (inB3 116 rfl rfl)⟩
abbrev MS_can : Mth := (yJ1_canEncode_9a6ad, cJ1_canEncode_9a6ad, 1, some .boolean)
set_option maxRecDepth 100000 in
theorem TS_can : Tab cJ1_canEncode_9a6ad [(0, .iload_n 0, 1), (1, .ifCond .lt 14, 3), (4, .iload_n 0, 1), (5, .sipush 255, 3), (8, .if_icmp .gt 7, 3), (11, .iconst 1, 1), (12, .goto 4, 3), (15, .iconst 0, 1), (16, .ireturn, 1)] := Tab.of (by decide +kernel)
theorem cs_can : CBs MS_can 1 := ⟨⟨(inB3 110 rfl rfl), (inB1 16 rfl rfl), by decide +kernel, by decide +kernel, by decide +kernel, by decide⟩, (inB3 109 rfl rfl)⟩
theorem mls_ioII_isL : Cond.methodLink "java/lang/String" 492 yJ0_isLatin1_aae02 ∈ WS := (inB3 91 rfl rfl)
theorem mls_ioII_len : Cond.methodLink "java/lang/String" 505 yJ0_length_8abf5 ∈ WS := (inB3 97 rfl rfl)
theorem mls_ioII_lat : Cond.methodLink "java/lang/String" 637 yJ1_indexOf_4cfef ∈ WS := (inB3 105 rfl rfl)
theorem mls_len_cod : Cond.methodLink "java/lang/String" 335 yJ0_coder_7d493 ∈ WS := (inB3 101 rfl rfl)
theorem mls_ioI_ioII : Cond.methodLink "java/lang/String" 633 yJ0_indexOf_7cf53 ∈ WS := (inB3 87 rfl rfl)
theorem mls_lat_can : Cond.methodLink "java/lang/StringLatin1" 88 yJ1_canEncode_9a6ad ∈ WS := (inB3 108 rfl rfl)
theorem mls_lat_chr : Cond.methodLink "java/lang/StringLatin1" 95 yJ1_indexOfChar_4cfef ∈ WS := (inB3 115 rfl rfl)
theorem mls_rf_ioI : Cond.methodLink "NightCarts$LawReader" 102 yJ0_indexOf_0f7a4 ∈ WS := (inB3 83 rfl rfl)
theorem mls_max : Cond.methodLink "java/lang/StringLatin1" 92 Lib.Math.max.name ∈ WS := (inB3 111 rfl rfl)
theorem mls_min : Cond.methodLink "java/lang/StringLatin1" 38 Lib.Math.min.name ∈ WS := (inB3 114 rfl rfl)
theorem fls_cs : Cond.fieldLink "java/lang/String" 38 "java/lang/String" "COMPACT_STRINGS" "Z" ∈ WS := (inB3 95 rfl rfl)
theorem fls_co : Cond.fieldLink "java/lang/String" 15 "java/lang/String" "coder" "B" ∈ WS := (inB8 205 rfl rfl)
theorem fls_va : Cond.fieldLink "java/lang/String" 9 "java/lang/String" "value" "[B" ∈ WS := (inB8 206 rfl rfl)
/-- what the text's methods stand on -/
def Sx (b : Nat) (aS aV : Nat → Nat) (U : State) : Prop := vk_S 1 [8] [strB] aS aV (fun q => b ≤ q) U U.heap ∧ va_Z "java/lang/String" "COMPACT_STRINGS" "Z" (.int 1) (fun q => b ≤ q) U U.heap
def SMet (M : Mth) (d : Nat) (av : List Value) (b : Nat) (aS aV : Nat → Nat) (v : Int32) : Prop := ∀ l : Launch, Met l M.1 (wsM M) (rmD d) (va_Pc av (Sx b aS aV)) (QcRead v) 0 0 (fun _ => False)
theorem Sx.blind {b : Nat} {aS aV : Nat → Nat} {av : List Value} : FrameBlind (va_Pc av (Sx b aS aV)) := by
  intro a U g mk q
  obtain ⟨q0, h2, h3⟩ := q
  exact ⟨q0, vk_S.moved (u := U) (U := U.calling g mk a) (Vm.Alike.refl U.vm) h2, va_Z.moved (u := U) (U := U.calling g mk a) (Vm.Alike.refl U.vm) h3⟩
theorem Sx.warm {b : Nat} {aS aV : Nat → Nat} {s U : State} {H : Heap} {locs : List Loc} (hW : s.WarmedH U.vm) (hS : va_S (fun q => b ≤ q) s.heap H locs) (hU : U.heap = H) (h : Sx b aS aV s) : Sx b aS aV U :=
  ⟨by rw [hU]; exact vk_S.moved hW.alike (h.1.kept hS.2.1), by rw [hU]; exact va_Z.moved hW.alike (h.2.kept hS.2.1)⟩
section RO
variable {p : Program} {l : Launch} {e : Env} {R : Room} {s : State} {m : MethodId} {args : Array Value} {below : List Frame} {meth : Method} {c : Code} {H : Heap} {locs : List Loc} {cells slots : Nat} {Z : State → Prop} {cc : ByteArray} {nL pc : Nat} {ls : Array Slot} {own : String} {aS aV : Nat → Nat} {b : Nat} {rest : List Value}
theorem ro_callV {M' : Mth} {d' idx n : Nat} {As : List Value} {v : Int32} (S : CallFix p m c cc nL s args WS own) (hE : Sx b aS aV s) (hS : va_S (fun q => b ≤ q) s.heap H locs) (hM : SMet M' d' (.ref (aS 0) :: As) b aS aV v) (hlk : Cond.methodLink own idx M'.1 ∈ WS) (hcb : CB M' n ∧ Cond.instanceMethod M'.1 ∈ WS ∧ Cond.selects M'.1.cls M'.1 M'.1 ∈ WS) (hC : M'.1.cls = "java/lang/String") (hn : As.length = n) (hsz : ls.size = nL) (hrm : (rest.map fun v => v.category).sum ≤ 8) (hd : d' + 1 ≤ R.frames ∧ 64 * (d' + 1) ≤ R.locals ∧ cells ≤ R.cells ∧ slots ≤ R.slots) (hdg : decode cc pc = .ok (.invokevirtual idx, 3))
    (kk : W p l e R s m args below meth c H locs cells slots Z (F0 m (pc + 3) ls (.int v :: rest))) : W p l e R s m args below meth c H locs cells slots Z (F0 m pc ls (As.reverse ++ .ref (aS 0) :: rest)) := by
  obtain ⟨⟨hcode, hini, hy1, hy2, hpar, hml⟩, hinst, hsel⟩ := hcb
  obtain ⟨cell, h1, h2, h3⟩ := vk_recv (i := 0) hE.1 (by decide) hS
  have cw : CallW R s args own M'.1.cls idx M'.1 M'.2.1 M'.2.2.1 M'.2.2.2 (wsM M') (rmD d') 0 0 n := by
    refine cwV n S.2.2.2.2 (Ts := WS) (fun w hw => ?_) rfl rfl rfl ⟨rfl, hy1, hy2, hpar⟩ ⟨by show d' + 1 ≤ R.frames; omega, by show 8 + (M'.2.2.1 + 11) + 64 * d' ≤ R.locals; omega⟩
    rcases List.mem_append.mp hw with h | h
    · simp only [List.mem_cons, List.not_mem_nil, or_false] at h
      rcases h with rfl | rfl | rfl | rfl
      · exact ⟨hlk, WS_good _ hlk⟩
      · exact ⟨hinst, WS_good _ hinst⟩
      · exact ⟨hsel, WS_good _ hsel⟩
      · exact ⟨hini, WS_good _ hini⟩
    · exact good_ws (M := M') hcode w h
  exact W.callR (W.runV (As := As) (rest := rest) (b := aS 0) S (hM l) cw ⟨Sx.blind, ⟨cell, h1, h2, by rw [hC]; exact h3⟩, fun U hU hW => ⟨rfl, hE.warm hW hS hU⟩⟩ rfl hn hsz rfl (lv_room hrm) hdg ⟨hd.2.2.1, hd.2.2.2⟩) kk
theorem ro_callS {M' : Mth} {d' idx n : Nat} {As : List Value} {v : Int32} (S : CallFix p m c cc nL s args WS own) (hE : Sx b aS aV s) (hS : va_S (fun q => b ≤ q) s.heap H locs) (hM : SMet M' d' As b aS aV v) (hlk : Cond.methodLink own idx M'.1 ∈ WS) (hcb : CBs M' n) (hn : As.length = n) (hsz : ls.size = nL) (hrm : (rest.map fun v => v.category).sum ≤ 8) (hd : d' + 1 ≤ R.frames ∧ 64 * (d' + 1) ≤ R.locals ∧ cells ≤ R.cells ∧ slots ≤ R.slots) (hdg : decode cc pc = .ok (.invokestatic idx, 3))
    (kk : W p l e R s m args below meth c H locs cells slots Z (F0 m (pc + 3) ls (.int v :: rest))) : W p l e R s m args below meth c H locs cells slots Z (F0 m pc ls (As.reverse ++ rest)) := by
  obtain ⟨⟨hcode, hini, hy1, hy2, hpar, hml⟩, hst1⟩ := hcb
  have cw : CallB R s args own idx M'.1 M'.2.1 M'.2.2.1 M'.2.2.2 (wsM M') (rmD d') 0 0 n ∧ (Cond.static M'.1).before args s = true := by
    refine va_cwS n S.2.2.2.2 (Ts := WS) (fun w hw => ?_) rfl rfl rfl ⟨hy1, hy2, hpar⟩ ⟨by show d' + 1 ≤ R.frames; omega, by show 8 + (M'.2.2.1 + 11) + 64 * d' ≤ R.locals; omega⟩
    rcases List.mem_append.mp hw with h | h
    · simp only [List.mem_cons, List.not_mem_nil, or_false] at h
      rcases h with rfl | rfl | rfl
      · exact ⟨hlk, WS_good _ hlk⟩
      · exact ⟨hst1, WS_good _ hst1⟩
      · exact ⟨hini, WS_good _ hini⟩
    · exact good_ws (M := M') hcode w h
  exact W.callR (W.runS (As := As) (rest := rest) S (hM l) cw ⟨Sx.blind, fun U hU hW => ⟨rfl, hE.warm hW hS hU⟩⟩ rfl hn hsz rfl (lv_room hrm) hdg ⟨hd.2.2.1, hd.2.2.2⟩) kk
end RO
set_option maxRecDepth 100000 in
set_option maxHeartbeats 4000000 in
theorem sm_isL (b : Nat) (aS aV : Nat → Nat) : SMet MS_isL 1 [.ref (aS 0)] b aS aV 1 := by
  intro l
  refine Met.ofW (cc := cJ0_isLatin1_aae02) (maxL := 1) (ret := some .boolean) (by decide +kernel) rfl ?_
  intro p e s m args below meth c s₁ B hml hv
  obtain ⟨rfl, hE⟩ := hv
  have hx := B.exec
  have hb := B.bytes
  have hr := B.returns
  have hts := atoms_spec (ws := wsM MS_isL) B.pre
  have hts' : ∀ w ∈ WS, w.before _ s = true := fun w hw => hts w (List.mem_cons_of_mem _ hw)
  have hown : s.vm.findClass "java/lang/String" = some m.cls := findClass_of_methodNamed B.named
  have hlocks := B.notSynchronized
  have hS : va_S (fun q => b ≤ q) s.heap s.heap [] := va_S.rf
  have hl := lv_entry ([.ref (aS 0)]) (n := 1) (Nat.le_of_ble_eq_true rfl)
  rw [lg_entry_eq]
  generalize (lg_sl ([.ref (aS 0)]) ++ List.replicate (1 - (lg_sl ([.ref (aS 0)])).length) Slot.unset).toArray = ls at hl ⊢
  have hl : lv_has ls 1 [(0, .ref (aS 0))] := hl
  refine va_gets hx hb hE.2 hS hown (hts' _ fls_cs) (fun _ q => q) (TS_isL 0 _ _ _ rfl) ?_
  refine lv_if_eq (tgt := 17) hx hb (TS_isL 1 _ _ _ rfl) (by decide) (fun cc => absurd cc (by decide)) (fun _ => ?_)
  refine lv_aload_n hx hb (TS_isL 2 _ _ _ rfl) rfl (lv_at hl 0 rfl) ?_
  refine vk_getf hx hb (hE.1.1 0 (by decide)).2.1 hS hown (hts' _ fls_co) (fun _ q => q) (TS_isL 3 _ _ _ rfl) ?_
  refine lv_if_ne (tgt := 17) hx hb (TS_isL 4 _ _ _ rfl) (by decide) (fun cc => absurd rfl cc) (fun _ => ?_)
  refine lv_iconst (v := 1) hx hb (TS_isL 5 _ _ _ rfl) rfl ?_
  refine lv_goto (tgt := 18) hx hb (TS_isL 6 _ _ _ rfl) (by decide) ?_
  exact W.zret hx hb hr rfl (fun t ht _ => ⟨rfl, ht⟩) (fun q hq => by cases hq) (TS_isL 8 _ _ _ rfl) hlocks

set_option maxRecDepth 100000 in
set_option maxHeartbeats 4000000 in
theorem sm_cod (b : Nat) (aS aV : Nat → Nat) : SMet MS_cod 1 [.ref (aS 0)] b aS aV 0 := by
  intro l
  refine Met.ofW (cc := cJ0_coder_7d493) (maxL := 1) (ret := some .byte) (by decide +kernel) rfl ?_
  intro p e s m args below meth c s₁ B hml hv
  obtain ⟨rfl, hE⟩ := hv
  have hx := B.exec
  have hb := B.bytes
  have hr := B.returns
  have hts := atoms_spec (ws := wsM MS_cod) B.pre
  have hts' : ∀ w ∈ WS, w.before _ s = true := fun w hw => hts w (List.mem_cons_of_mem _ hw)
  have hown : s.vm.findClass "java/lang/String" = some m.cls := findClass_of_methodNamed B.named
  have hlocks := B.notSynchronized
  have hS : va_S (fun q => b ≤ q) s.heap s.heap [] := va_S.rf
  have hl := lv_entry ([.ref (aS 0)]) (n := 1) (Nat.le_of_ble_eq_true rfl)
  rw [lg_entry_eq]
  generalize (lg_sl ([.ref (aS 0)]) ++ List.replicate (1 - (lg_sl ([.ref (aS 0)])).length) Slot.unset).toArray = ls at hl ⊢
  have hl : lv_has ls 1 [(0, .ref (aS 0))] := hl
  refine va_gets hx hb hE.2 hS hown (hts' _ fls_cs) (fun _ q => q) (TS_cod 0 _ _ _ rfl) ?_
  refine lv_if_eq (tgt := 13) hx hb (TS_cod 1 _ _ _ rfl) (by decide) (fun cc => absurd cc (by decide)) (fun _ => ?_)
  refine lv_aload_n hx hb (TS_cod 2 _ _ _ rfl) rfl (lv_at hl 0 rfl) ?_
  refine vk_getf hx hb (hE.1.1 0 (by decide)).2.1 hS hown (hts' _ fls_co) (fun _ q => q) (TS_cod 3 _ _ _ rfl) ?_
  refine lv_goto (tgt := 14) hx hb (TS_cod 4 _ _ _ rfl) (by decide) ?_
  exact W.zret hx hb hr rfl (fun t ht _ => ⟨rfl, ht⟩) (fun q hq => by cases hq) (TS_cod 6 _ _ _ rfl) hlocks

set_option maxRecDepth 100000 in
set_option maxHeartbeats 4000000 in
theorem sm_len (b : Nat) (aS aV : Nat → Nat) : SMet MS_len 2 [.ref (aS 0)] b aS aV 8 := by
  intro l
  refine Met.ofW (cc := cJ0_length_8abf5) (maxL := 1) (ret := some .int) (by decide +kernel) rfl ?_
  intro p e s m args below meth c s₁ B hml hv
  obtain ⟨rfl, hE⟩ := hv
  have hx := B.exec
  have hb := B.bytes
  have hr := B.returns
  have hts := atoms_spec (ws := wsM MS_len) B.pre
  have hts' : ∀ w ∈ WS, w.before _ s = true := fun w hw => hts w (List.mem_cons_of_mem _ hw)
  have hown : s.vm.findClass "java/lang/String" = some m.cls := findClass_of_methodNamed B.named
  have hlocks := B.notSynchronized
  have hS : va_S (fun q => b ≤ q) s.heap s.heap [] := va_S.rf
  have hl := lv_entry ([.ref (aS 0)]) (n := 1) (Nat.le_of_ble_eq_true rfl)
  rw [lg_entry_eq]
  generalize (lg_sl ([.ref (aS 0)]) ++ List.replicate (1 - (lg_sl ([.ref (aS 0)])).length) Slot.unset).toArray = ls at hl ⊢
  have hl : lv_has ls 1 [(0, .ref (aS 0))] := hl
  refine lv_aload_n hx hb (TS_len 0 _ _ _ rfl) rfl (lv_at hl 0 rfl) ?_
  refine vk_getf hx hb (hE.1.1 0 (by decide)).2.2.1 hS hown (hts' _ fls_va) (fun _ q => q) (TS_len 1 _ _ _ rfl) ?_
  refine va_tlen hx hb (v := 8) (hE.1.1 0 (by decide)).2.2.2 hS rfl (TS_len 2 _ _ _ rfl) ?_
  refine lv_aload_n hx hb (TS_len 3 _ _ _ rfl) rfl (lv_at hl 0 rfl) ?_
  refine ro_callV (M' := MS_cod) (As := []) (rest := [.int 8]) ⟨hx, hb, hml, hown, hts'⟩ hE hS (sm_cod b aS aV) mls_len_cod cs_cod rfl rfl hl.1 (by decide) ⟨by decide, by decide, by decide, by decide⟩ (TS_len 4 _ _ _ rfl) ?_
  refine lv_ishr hx hb (TS_len 5 _ _ _ rfl) ?_
  refine lv_topi fun y ey => ?_
  have ey : y = 8 := by rw [ey]; decide
  subst ey
  exact W.iret hx hb hr (fun t ht _ => ⟨rfl, ht⟩) (fun q hq => by cases hq) (TS_len 6 _ _ _ rfl) hlocks

set_option maxRecDepth 100000 in
set_option maxHeartbeats 4000000 in
theorem sm_can (b : Nat) (aS aV : Nat → Nat) (x : Int) (hxx : 0 ≤ x ∧ x < 65536) : SMet MS_can 1 [.int (Int32.ofInt x)] b aS aV (if x ≤ 255 then 1 else 0) := by
  intro l
  refine Met.ofW (cc := cJ1_canEncode_9a6ad) (maxL := 1) (ret := some .boolean) (by decide +kernel) rfl ?_
  intro p e s m args below meth c s₁ B hml hv
  obtain ⟨rfl, hE⟩ := hv
  have hx := B.exec
  have hb := B.bytes
  have hr := B.returns
  have hts := atoms_spec (ws := wsM MS_can) B.pre
  have hts' : ∀ w ∈ WS, w.before _ s = true := fun w hw => hts w (List.mem_cons_of_mem _ hw)
  have hown : s.vm.findClass "java/lang/StringLatin1" = some m.cls := findClass_of_methodNamed B.named
  have hlocks := B.notSynchronized
  have hS : va_S (fun q => b ≤ q) s.heap s.heap [] := va_S.rf
  have hl := lv_entry ([.int (Int32.ofInt x)]) (n := 1) (Nat.le_of_ble_eq_true rfl)
  rw [lg_entry_eq]
  generalize (lg_sl ([.int (Int32.ofInt x)]) ++ List.replicate (1 - (lg_sl ([.int (Int32.ofInt x)])).length) Slot.unset).toArray = ls at hl ⊢
  have hl : lv_has ls 1 [(0, .int (Int32.ofInt x))] := hl
  have hrx : inR x := ⟨by omega, by omega⟩
  refine lv_iload_n hx hb (TS_can 0 _ _ _ rfl) rfl (lv_at hl 0 rfl) ?_
  refine lv_if_lt (tgt := 15) hx hb (TS_can 1 _ _ _ rfl) (by decide) (fun cc => absurd ((lt_of hrx inR_0).mp cc) (by omega)) (fun _ => ?_)
  refine lv_iload_n hx hb (TS_can 2 _ _ _ rfl) rfl (lv_at hl 0 rfl) ?_
  refine lv_sipush (v := Int32.ofInt 255) hx hb (TS_can 3 _ _ _ rfl) rfl ?_
  refine lv_icmp_gt (tgt := 15) hx hb (TS_can 4 _ _ _ rfl) (by decide) (fun cc => ?_) (fun cc => ?_)
  · have h2 := (lt_of (x := 255) (y := x) ⟨by decide, by decide⟩ hrx).mp cc
    rw [if_neg (by omega)]
    refine lv_iconst (v := 0) hx hb (TS_can 7 _ _ _ rfl) rfl ?_
    exact W.zret hx hb hr rfl (fun t ht _ => ⟨rfl, ht⟩) (fun q hq => by cases hq) (TS_can 8 _ _ _ rfl) hlocks
  · have h2 := (not_congr (lt_of (x := 255) (y := x) ⟨by decide, by decide⟩ hrx)).mp cc
    rw [if_pos (by omega)]
    refine lv_iconst (v := 1) hx hb (TS_can 5 _ _ _ rfl) rfl ?_
    refine lv_goto (tgt := 16) hx hb (TS_can 6 _ _ _ rfl) (by decide) ?_
    exact W.zret hx hb hr rfl (fun t ht _ => ⟨rfl, ht⟩) (fun q hq => by cases hq) (TS_can 8 _ _ _ rfl) hlocks

def sIdx (x : Int) : Int := if x = 105 then 0 else if x = 104 then 1 else if x = 108 then 2 else if x = 100 then 3 else if x = 103 then 4 else if x = 114 then 5 else if x = 110 then 6 else if x = 107 then 7 else -1
theorem sb8 : ∀ n : Nat, n < 256 → ((105 = (nI n).toInt8.toInt32) ↔ n = 105) ∧ ((104 = (nI n).toInt8.toInt32) ↔ n = 104) ∧ ((108 = (nI n).toInt8.toInt32) ↔ n = 108) ∧ ((100 = (nI n).toInt8.toInt32) ↔ n = 100) ∧ ((103 = (nI n).toInt8.toInt32) ↔ n = 103) ∧ ((114 = (nI n).toInt8.toInt32) ↔ n = 114) ∧ ((110 = (nI n).toInt8.toInt32) ↔ n = 110) ∧ ((107 = (nI n).toInt8.toInt32) ↔ n = 107) := by decide +kernel
set_option maxRecDepth 100000 in
set_option maxHeartbeats 4000000 in
theorem sm_chr (b : Nat) (aS aV : Nat → Nat) (x : Int) (hxx : 0 ≤ x ∧ x < 256) : SMet MS_chr 1 [.ref (aV 0), .int (Int32.ofInt x), .int 0, .int 8] b aS aV (Int32.ofInt (sIdx x)) := by
  obtain ⟨g0, g1, g2, g3, g4, g5, g6, g7⟩ := sb8 x.toNat (by omega)
  have ex : x = (x.toNat : Int) := by omega
  have ec : (nI x.toNat).toInt8.toInt32 = (Int32.ofInt x).toInt8.toInt32 := by
    have e9 : nI x.toNat = Int32.ofInt (x.toNat : Int) := rfl
    rw [e9, ← ex]
  rw [ec] at g0 g1 g2 g3 g4 g5 g6 g7
  intro l
  refine Met.ofW (cc := cJ1_indexOfChar_4cfef) (maxL := 6) (ret := some .int) (by decide +kernel) rfl ?_
  intro p e s m args below meth c s₁ B hml hv
  obtain ⟨rfl, hE⟩ := hv
  have hx := B.exec
  have hb := B.bytes
  have hr := B.returns
  have hts := atoms_spec (ws := wsM MS_chr) B.pre
  have hts' : ∀ w ∈ WS, w.before _ s = true := fun w hw => hts w (List.mem_cons_of_mem _ hw)
  have hown : s.vm.findClass "java/lang/StringLatin1" = some m.cls := findClass_of_methodNamed B.named
  have hlocks := B.notSynchronized
  have hS : va_S (fun q => b ≤ q) s.heap s.heap [] := va_S.rf
  have hl := lv_entry ([.ref (aV 0), .int (Int32.ofInt x), .int 0, .int 8]) (n := 6) (Nat.le_of_ble_eq_true rfl)
  rw [lg_entry_eq]
  generalize (lg_sl ([.ref (aV 0), .int (Int32.ofInt x), .int 0, .int 8]) ++ List.replicate (6 - (lg_sl ([.ref (aV 0), .int (Int32.ofInt x), .int 0, .int 8])).length) Slot.unset).toArray = ls at hl ⊢
  have hl : lv_has ls 6 [(0, .ref (aV 0)), (1, .int (Int32.ofInt x)), (2, .int 0), (3, .int 8)] := hl
  have hT := (hE.1.1 0 (by decide)).2.2.2
  refine lv_iload_n hx hb (TS_chr 0 _ _ _ rfl) rfl (lv_at hl 1 rfl) ?_
  refine lv_i2b hx hb (TS_chr 1 _ _ _ rfl) rfl ?_
  generalize (Int32.ofInt x).toInt8.toInt32 = c8 at g0 g1 g2 g3 g4 g5 g6 g7 ⊢
  refine lv_istore (lv' := [(4, .int c8), (0, .ref (aV 0)), (1, .int (Int32.ofInt x)), (2, .int 0), (3, .int 8)]) hx hb (TS_chr 2 _ _ _ rfl) hl (by decide) rfl (fun ls hl => ?_)
  refine lv_iload_n hx hb (TS_chr 3 _ _ _ rfl) rfl (lv_at hl 3 rfl) ?_
  refine lv_istore (lv' := [(5, .int 0), (4, .int c8), (0, .ref (aV 0)), (1, .int (Int32.ofInt x)), (2, .int 0), (3, .int 8)]) hx hb (TS_chr 4 _ _ _ rfl) hl (by decide) rfl (fun ls hl => ?_)
  refine lv_iload hx hb (TS_chr 5 _ _ _ rfl) (lv_at hl 0 rfl) ?_
  refine lv_iload_n hx hb (TS_chr 6 _ _ _ rfl) rfl (lv_at hl 5 rfl) ?_
  refine lv_icmp_ge (tgt := 31) hx hb (TS_chr 7 _ _ _ rfl) (by decide) (fun cc => absurd cc (by decide)) (fun _ => ?_)
  refine lv_aload_n hx hb (TS_chr 8 _ _ _ rfl) rfl (lv_at hl 2 rfl) ?_
  refine lv_iload hx hb (TS_chr 9 _ _ _ rfl) (lv_at hl 0 rfl) ?_
  refine va_tb hx hb hT hS (i := 0) (v := .int 105) (vp_in_iff.mpr (by decide)) rfl (TS_chr 10 _ _ _ rfl) ?_
  refine lv_iload hx hb (TS_chr 11 _ _ _ rfl) (lv_at hl 1 rfl) ?_
  refine lv_icmp_ne (tgt := 25) hx hb (TS_chr 12 _ _ _ rfl) (by decide) (fun n0 => ?_) (fun cc => ?_)
  rotate_left
  · have hv : Int32.ofInt (sIdx x) = 0 := by
      have e1 : x = 105 := by have := g0.mp cc; omega
      rw [e1]; decide
    rw [hv]
    refine lv_iload hx hb (TS_chr 13 _ _ _ rfl) (lv_at hl 0 rfl) ?_
    exact W.iret hx hb hr (fun t ht _ => ⟨rfl, ht⟩) (fun q hq => by cases hq) (TS_chr 14 _ _ _ rfl) hlocks
  refine lv_iinc (v := 1) (lv' := [(5, .int 1), (4, .int c8), (0, .ref (aV 0)), (1, .int (Int32.ofInt x)), (2, .int 0), (3, .int 8)]) hx hb (TS_chr 15 _ _ _ rfl) hl (k := 0) rfl rfl (by decide) rfl (fun ls hl => ?_)
  refine lv_goto (tgt := 7) hx hb (TS_chr 16 _ _ _ rfl) (by decide) ?_
  refine lv_iload hx hb (TS_chr 5 _ _ _ rfl) (lv_at hl 0 rfl) ?_
  refine lv_iload_n hx hb (TS_chr 6 _ _ _ rfl) rfl (lv_at hl 5 rfl) ?_
  refine lv_icmp_ge (tgt := 31) hx hb (TS_chr 7 _ _ _ rfl) (by decide) (fun cc => absurd cc (by decide)) (fun _ => ?_)
  refine lv_aload_n hx hb (TS_chr 8 _ _ _ rfl) rfl (lv_at hl 2 rfl) ?_
  refine lv_iload hx hb (TS_chr 9 _ _ _ rfl) (lv_at hl 0 rfl) ?_
  refine va_tb hx hb hT hS (i := 1) (v := .int 104) (vp_in_iff.mpr (by decide)) rfl (TS_chr 10 _ _ _ rfl) ?_
  refine lv_iload hx hb (TS_chr 11 _ _ _ rfl) (lv_at hl 1 rfl) ?_
  refine lv_icmp_ne (tgt := 25) hx hb (TS_chr 12 _ _ _ rfl) (by decide) (fun n1 => ?_) (fun cc => ?_)
  rotate_left
  · have hv : Int32.ofInt (sIdx x) = 1 := by
      have e1 : x = 104 := by have := g1.mp cc; omega
      rw [e1]; decide
    rw [hv]
    refine lv_iload hx hb (TS_chr 13 _ _ _ rfl) (lv_at hl 0 rfl) ?_
    exact W.iret hx hb hr (fun t ht _ => ⟨rfl, ht⟩) (fun q hq => by cases hq) (TS_chr 14 _ _ _ rfl) hlocks
  refine lv_iinc (v := 2) (lv' := [(5, .int 2), (4, .int c8), (0, .ref (aV 0)), (1, .int (Int32.ofInt x)), (2, .int 0), (3, .int 8)]) hx hb (TS_chr 15 _ _ _ rfl) hl (k := 0) rfl rfl (by decide) rfl (fun ls hl => ?_)
  refine lv_goto (tgt := 7) hx hb (TS_chr 16 _ _ _ rfl) (by decide) ?_
  refine lv_iload hx hb (TS_chr 5 _ _ _ rfl) (lv_at hl 0 rfl) ?_
  refine lv_iload_n hx hb (TS_chr 6 _ _ _ rfl) rfl (lv_at hl 5 rfl) ?_
  refine lv_icmp_ge (tgt := 31) hx hb (TS_chr 7 _ _ _ rfl) (by decide) (fun cc => absurd cc (by decide)) (fun _ => ?_)
  refine lv_aload_n hx hb (TS_chr 8 _ _ _ rfl) rfl (lv_at hl 2 rfl) ?_
  refine lv_iload hx hb (TS_chr 9 _ _ _ rfl) (lv_at hl 0 rfl) ?_
  refine va_tb hx hb hT hS (i := 2) (v := .int 108) (vp_in_iff.mpr (by decide)) rfl (TS_chr 10 _ _ _ rfl) ?_
  refine lv_iload hx hb (TS_chr 11 _ _ _ rfl) (lv_at hl 1 rfl) ?_
  refine lv_icmp_ne (tgt := 25) hx hb (TS_chr 12 _ _ _ rfl) (by decide) (fun n2 => ?_) (fun cc => ?_)
  rotate_left
  · have hv : Int32.ofInt (sIdx x) = 2 := by
      have e1 : x = 108 := by have := g2.mp cc; omega
      rw [e1]; decide
    rw [hv]
    refine lv_iload hx hb (TS_chr 13 _ _ _ rfl) (lv_at hl 0 rfl) ?_
    exact W.iret hx hb hr (fun t ht _ => ⟨rfl, ht⟩) (fun q hq => by cases hq) (TS_chr 14 _ _ _ rfl) hlocks
  refine lv_iinc (v := 3) (lv' := [(5, .int 3), (4, .int c8), (0, .ref (aV 0)), (1, .int (Int32.ofInt x)), (2, .int 0), (3, .int 8)]) hx hb (TS_chr 15 _ _ _ rfl) hl (k := 0) rfl rfl (by decide) rfl (fun ls hl => ?_)
  refine lv_goto (tgt := 7) hx hb (TS_chr 16 _ _ _ rfl) (by decide) ?_
  refine lv_iload hx hb (TS_chr 5 _ _ _ rfl) (lv_at hl 0 rfl) ?_
  refine lv_iload_n hx hb (TS_chr 6 _ _ _ rfl) rfl (lv_at hl 5 rfl) ?_
  refine lv_icmp_ge (tgt := 31) hx hb (TS_chr 7 _ _ _ rfl) (by decide) (fun cc => absurd cc (by decide)) (fun _ => ?_)
  refine lv_aload_n hx hb (TS_chr 8 _ _ _ rfl) rfl (lv_at hl 2 rfl) ?_
  refine lv_iload hx hb (TS_chr 9 _ _ _ rfl) (lv_at hl 0 rfl) ?_
  refine va_tb hx hb hT hS (i := 3) (v := .int 100) (vp_in_iff.mpr (by decide)) rfl (TS_chr 10 _ _ _ rfl) ?_
  refine lv_iload hx hb (TS_chr 11 _ _ _ rfl) (lv_at hl 1 rfl) ?_
  refine lv_icmp_ne (tgt := 25) hx hb (TS_chr 12 _ _ _ rfl) (by decide) (fun n3 => ?_) (fun cc => ?_)
  rotate_left
  · have hv : Int32.ofInt (sIdx x) = 3 := by
      have e1 : x = 100 := by have := g3.mp cc; omega
      rw [e1]; decide
    rw [hv]
    refine lv_iload hx hb (TS_chr 13 _ _ _ rfl) (lv_at hl 0 rfl) ?_
    exact W.iret hx hb hr (fun t ht _ => ⟨rfl, ht⟩) (fun q hq => by cases hq) (TS_chr 14 _ _ _ rfl) hlocks
  refine lv_iinc (v := 4) (lv' := [(5, .int 4), (4, .int c8), (0, .ref (aV 0)), (1, .int (Int32.ofInt x)), (2, .int 0), (3, .int 8)]) hx hb (TS_chr 15 _ _ _ rfl) hl (k := 0) rfl rfl (by decide) rfl (fun ls hl => ?_)
  refine lv_goto (tgt := 7) hx hb (TS_chr 16 _ _ _ rfl) (by decide) ?_
  refine lv_iload hx hb (TS_chr 5 _ _ _ rfl) (lv_at hl 0 rfl) ?_
  refine lv_iload_n hx hb (TS_chr 6 _ _ _ rfl) rfl (lv_at hl 5 rfl) ?_
  refine lv_icmp_ge (tgt := 31) hx hb (TS_chr 7 _ _ _ rfl) (by decide) (fun cc => absurd cc (by decide)) (fun _ => ?_)
  refine lv_aload_n hx hb (TS_chr 8 _ _ _ rfl) rfl (lv_at hl 2 rfl) ?_
  refine lv_iload hx hb (TS_chr 9 _ _ _ rfl) (lv_at hl 0 rfl) ?_
  refine va_tb hx hb hT hS (i := 4) (v := .int 103) (vp_in_iff.mpr (by decide)) rfl (TS_chr 10 _ _ _ rfl) ?_
  refine lv_iload hx hb (TS_chr 11 _ _ _ rfl) (lv_at hl 1 rfl) ?_
  refine lv_icmp_ne (tgt := 25) hx hb (TS_chr 12 _ _ _ rfl) (by decide) (fun n4 => ?_) (fun cc => ?_)
  rotate_left
  · have hv : Int32.ofInt (sIdx x) = 4 := by
      have e1 : x = 103 := by have := g4.mp cc; omega
      rw [e1]; decide
    rw [hv]
    refine lv_iload hx hb (TS_chr 13 _ _ _ rfl) (lv_at hl 0 rfl) ?_
    exact W.iret hx hb hr (fun t ht _ => ⟨rfl, ht⟩) (fun q hq => by cases hq) (TS_chr 14 _ _ _ rfl) hlocks
  refine lv_iinc (v := 5) (lv' := [(5, .int 5), (4, .int c8), (0, .ref (aV 0)), (1, .int (Int32.ofInt x)), (2, .int 0), (3, .int 8)]) hx hb (TS_chr 15 _ _ _ rfl) hl (k := 0) rfl rfl (by decide) rfl (fun ls hl => ?_)
  refine lv_goto (tgt := 7) hx hb (TS_chr 16 _ _ _ rfl) (by decide) ?_
  refine lv_iload hx hb (TS_chr 5 _ _ _ rfl) (lv_at hl 0 rfl) ?_
  refine lv_iload_n hx hb (TS_chr 6 _ _ _ rfl) rfl (lv_at hl 5 rfl) ?_
  refine lv_icmp_ge (tgt := 31) hx hb (TS_chr 7 _ _ _ rfl) (by decide) (fun cc => absurd cc (by decide)) (fun _ => ?_)
  refine lv_aload_n hx hb (TS_chr 8 _ _ _ rfl) rfl (lv_at hl 2 rfl) ?_
  refine lv_iload hx hb (TS_chr 9 _ _ _ rfl) (lv_at hl 0 rfl) ?_
  refine va_tb hx hb hT hS (i := 5) (v := .int 114) (vp_in_iff.mpr (by decide)) rfl (TS_chr 10 _ _ _ rfl) ?_
  refine lv_iload hx hb (TS_chr 11 _ _ _ rfl) (lv_at hl 1 rfl) ?_
  refine lv_icmp_ne (tgt := 25) hx hb (TS_chr 12 _ _ _ rfl) (by decide) (fun n5 => ?_) (fun cc => ?_)
  rotate_left
  · have hv : Int32.ofInt (sIdx x) = 5 := by
      have e1 : x = 114 := by have := g5.mp cc; omega
      rw [e1]; decide
    rw [hv]
    refine lv_iload hx hb (TS_chr 13 _ _ _ rfl) (lv_at hl 0 rfl) ?_
    exact W.iret hx hb hr (fun t ht _ => ⟨rfl, ht⟩) (fun q hq => by cases hq) (TS_chr 14 _ _ _ rfl) hlocks
  refine lv_iinc (v := 6) (lv' := [(5, .int 6), (4, .int c8), (0, .ref (aV 0)), (1, .int (Int32.ofInt x)), (2, .int 0), (3, .int 8)]) hx hb (TS_chr 15 _ _ _ rfl) hl (k := 0) rfl rfl (by decide) rfl (fun ls hl => ?_)
  refine lv_goto (tgt := 7) hx hb (TS_chr 16 _ _ _ rfl) (by decide) ?_
  refine lv_iload hx hb (TS_chr 5 _ _ _ rfl) (lv_at hl 0 rfl) ?_
  refine lv_iload_n hx hb (TS_chr 6 _ _ _ rfl) rfl (lv_at hl 5 rfl) ?_
  refine lv_icmp_ge (tgt := 31) hx hb (TS_chr 7 _ _ _ rfl) (by decide) (fun cc => absurd cc (by decide)) (fun _ => ?_)
  refine lv_aload_n hx hb (TS_chr 8 _ _ _ rfl) rfl (lv_at hl 2 rfl) ?_
  refine lv_iload hx hb (TS_chr 9 _ _ _ rfl) (lv_at hl 0 rfl) ?_
  refine va_tb hx hb hT hS (i := 6) (v := .int 110) (vp_in_iff.mpr (by decide)) rfl (TS_chr 10 _ _ _ rfl) ?_
  refine lv_iload hx hb (TS_chr 11 _ _ _ rfl) (lv_at hl 1 rfl) ?_
  refine lv_icmp_ne (tgt := 25) hx hb (TS_chr 12 _ _ _ rfl) (by decide) (fun n6 => ?_) (fun cc => ?_)
  rotate_left
  · have hv : Int32.ofInt (sIdx x) = 6 := by
      have e1 : x = 110 := by have := g6.mp cc; omega
      rw [e1]; decide
    rw [hv]
    refine lv_iload hx hb (TS_chr 13 _ _ _ rfl) (lv_at hl 0 rfl) ?_
    exact W.iret hx hb hr (fun t ht _ => ⟨rfl, ht⟩) (fun q hq => by cases hq) (TS_chr 14 _ _ _ rfl) hlocks
  refine lv_iinc (v := 7) (lv' := [(5, .int 7), (4, .int c8), (0, .ref (aV 0)), (1, .int (Int32.ofInt x)), (2, .int 0), (3, .int 8)]) hx hb (TS_chr 15 _ _ _ rfl) hl (k := 0) rfl rfl (by decide) rfl (fun ls hl => ?_)
  refine lv_goto (tgt := 7) hx hb (TS_chr 16 _ _ _ rfl) (by decide) ?_
  refine lv_iload hx hb (TS_chr 5 _ _ _ rfl) (lv_at hl 0 rfl) ?_
  refine lv_iload_n hx hb (TS_chr 6 _ _ _ rfl) rfl (lv_at hl 5 rfl) ?_
  refine lv_icmp_ge (tgt := 31) hx hb (TS_chr 7 _ _ _ rfl) (by decide) (fun cc => absurd cc (by decide)) (fun _ => ?_)
  refine lv_aload_n hx hb (TS_chr 8 _ _ _ rfl) rfl (lv_at hl 2 rfl) ?_
  refine lv_iload hx hb (TS_chr 9 _ _ _ rfl) (lv_at hl 0 rfl) ?_
  refine va_tb hx hb hT hS (i := 7) (v := .int 107) (vp_in_iff.mpr (by decide)) rfl (TS_chr 10 _ _ _ rfl) ?_
  refine lv_iload hx hb (TS_chr 11 _ _ _ rfl) (lv_at hl 1 rfl) ?_
  refine lv_icmp_ne (tgt := 25) hx hb (TS_chr 12 _ _ _ rfl) (by decide) (fun n7 => ?_) (fun cc => ?_)
  rotate_left
  · have hv : Int32.ofInt (sIdx x) = 7 := by
      have e1 : x = 107 := by have := g7.mp cc; omega
      rw [e1]; decide
    rw [hv]
    refine lv_iload hx hb (TS_chr 13 _ _ _ rfl) (lv_at hl 0 rfl) ?_
    exact W.iret hx hb hr (fun t ht _ => ⟨rfl, ht⟩) (fun q hq => by cases hq) (TS_chr 14 _ _ _ rfl) hlocks
  refine lv_iinc (v := 8) (lv' := [(5, .int 8), (4, .int c8), (0, .ref (aV 0)), (1, .int (Int32.ofInt x)), (2, .int 0), (3, .int 8)]) hx hb (TS_chr 15 _ _ _ rfl) hl (k := 0) rfl rfl (by decide) rfl (fun ls hl => ?_)
  refine lv_goto (tgt := 7) hx hb (TS_chr 16 _ _ _ rfl) (by decide) ?_
  refine lv_iload hx hb (TS_chr 5 _ _ _ rfl) (lv_at hl 0 rfl) ?_
  refine lv_iload_n hx hb (TS_chr 6 _ _ _ rfl) rfl (lv_at hl 5 rfl) ?_
  refine lv_icmp_ge (tgt := 31) hx hb (TS_chr 7 _ _ _ rfl) (by decide) (fun _ => ?_) (fun cc => absurd (by decide) cc)
  have hv : Int32.ofInt (sIdx x) = -1 := by
    unfold sIdx
    rw [if_neg (fun q => n0 (g0.mpr (by omega))), if_neg (fun q => n1 (g1.mpr (by omega))), if_neg (fun q => n2 (g2.mpr (by omega))), if_neg (fun q => n3 (g3.mpr (by omega))), if_neg (fun q => n4 (g4.mpr (by omega))), if_neg (fun q => n5 (g5.mpr (by omega))), if_neg (fun q => n6 (g6.mpr (by omega))), if_neg (fun q => n7 (g7.mpr (by omega)))]
    rfl
  rw [hv]
  refine lv_iconst (v := -1) hx hb (TS_chr 17 _ _ _ rfl) rfl ?_
  exact W.iret hx hb hr (fun t ht _ => ⟨rfl, ht⟩) (fun q hq => by cases hq) (TS_chr 18 _ _ _ rfl) hlocks

set_option maxRecDepth 100000 in
set_option maxHeartbeats 4000000 in
theorem sm_lat (b : Nat) (aS aV : Nat → Nat) (x : Int) (hxx : 0 ≤ x ∧ x < 65536) : SMet MS_lat 2 [.ref (aV 0), .int (Int32.ofInt x), .int 0, .int 8] b aS aV (Int32.ofInt (sIdx x)) := by
  intro l
  refine Met.ofW (cc := cJ1_indexOf_4cfef) (maxL := 4) (ret := some .int) (by decide +kernel) rfl ?_
  intro p e s m args below meth c s₁ B hml hv
  obtain ⟨rfl, hE⟩ := hv
  have hx := B.exec
  have hb := B.bytes
  have hr := B.returns
  have hts := atoms_spec (ws := wsM MS_lat) B.pre
  have hts' : ∀ w ∈ WS, w.before _ s = true := fun w hw => hts w (List.mem_cons_of_mem _ hw)
  have hown : s.vm.findClass "java/lang/StringLatin1" = some m.cls := findClass_of_methodNamed B.named
  have hlocks := B.notSynchronized
  have hS : va_S (fun q => b ≤ q) s.heap s.heap [] := va_S.rf
  have hl := lv_entry ([.ref (aV 0), .int (Int32.ofInt x), .int 0, .int 8]) (n := 4) (Nat.le_of_ble_eq_true rfl)
  rw [lg_entry_eq]
  generalize (lg_sl ([.ref (aV 0), .int (Int32.ofInt x), .int 0, .int 8]) ++ List.replicate (4 - (lg_sl ([.ref (aV 0), .int (Int32.ofInt x), .int 0, .int 8])).length) Slot.unset).toArray = ls at hl ⊢
  have hl : lv_has ls 4 [(0, .ref (aV 0)), (1, .int (Int32.ofInt x)), (2, .int 0), (3, .int 8)] := hl
  refine lv_iload_n hx hb (TS_lat 0 _ _ _ rfl) rfl (lv_at hl 1 rfl) ?_
  refine ro_callS (M' := MS_can) (As := [.int (Int32.ofInt x)]) (rest := []) ⟨hx, hb, hml, hown, hts'⟩ hE hS (sm_can b aS aV x hxx) mls_lat_can cs_can rfl hl.1 (by decide) ⟨by decide, by decide, by decide, by decide⟩ (TS_lat 1 _ _ _ rfl) ?_
  by_cases h255 : x ≤ 255
  · rw [if_pos h255]
    refine lv_if_ne (tgt := 9) hx hb (TS_lat 2 _ _ _ rfl) (by decide) (fun _ => ?_) (fun cc => absurd cc (by decide))
    refine lv_iload_n hx hb (TS_lat 5 _ _ _ rfl) rfl (lv_at hl 2 rfl) ?_
    refine lv_iconst (v := 0) hx hb (TS_lat 6 _ _ _ rfl) rfl ?_
    refine va_mmax (rest := []) hx hb (by rw [hml]; exact hl.1.symm) hown (hts' _ mls_max) (hts' _ wmax.1) (hts' _ wmax.2.1) (hts' _ wmax.2.2) (by decide) (by decide) (by decide) (by decide) (TS_lat 7 _ _ _ rfl) ?_
    refine lv_topi fun y ey => ?_
    have ey : y = 0 := by rw [ey]; decide
    subst ey
    refine lv_istore_n (lv' := [(2, .int 0), (0, .ref (aV 0)), (1, .int (Int32.ofInt x)), (3, .int 8)]) hx hb (TS_lat 8 _ _ _ rfl) rfl hl (by decide) rfl (fun ls hl => ?_)
    refine lv_iload_n hx hb (TS_lat 9 _ _ _ rfl) rfl (lv_at hl 3 rfl) ?_
    refine lv_aload_n hx hb (TS_lat 10 _ _ _ rfl) rfl (lv_at hl 1 rfl) ?_
    refine va_tlen hx hb (v := 8) (hE.1.1 0 (by decide)).2.2.2 hS rfl (TS_lat 11 _ _ _ rfl) ?_
    refine va_mmin (rest := []) hx hb (by rw [hml]; exact hl.1.symm) hown (hts' _ mls_min) (hts' _ wmin.1) (hts' _ wmin.2.1) (hts' _ wmin.2.2) (by decide) (by decide) (by decide) (by decide) (TS_lat 12 _ _ _ rfl) ?_
    refine lv_topi fun y ey => ?_
    have ey : y = 8 := by rw [ey]; decide
    subst ey
    refine lv_istore_n (lv' := [(3, .int 8), (2, .int 0), (0, .ref (aV 0)), (1, .int (Int32.ofInt x))]) hx hb (TS_lat 13 _ _ _ rfl) rfl hl (by decide) rfl (fun ls hl => ?_)
    refine lv_iload_n hx hb (TS_lat 14 _ _ _ rfl) rfl (lv_at hl 1 rfl) ?_
    refine lv_iload_n hx hb (TS_lat 15 _ _ _ rfl) rfl (lv_at hl 0 rfl) ?_
    refine lv_icmp_lt (tgt := 29) hx hb (TS_lat 16 _ _ _ rfl) (by decide) (fun _ => ?_) (fun cc => absurd (by decide) cc)
    refine lv_aload_n hx hb (TS_lat 19 _ _ _ rfl) rfl (lv_at hl 2 rfl) ?_
    refine lv_iload_n hx hb (TS_lat 20 _ _ _ rfl) rfl (lv_at hl 3 rfl) ?_
    refine lv_iload_n hx hb (TS_lat 21 _ _ _ rfl) rfl (lv_at hl 1 rfl) ?_
    refine lv_iload_n hx hb (TS_lat 22 _ _ _ rfl) rfl (lv_at hl 0 rfl) ?_
    refine ro_callS (M' := MS_chr) (As := [.ref (aV 0), .int (Int32.ofInt x), .int 0, .int 8]) (rest := []) ⟨hx, hb, hml, hown, hts'⟩ hE hS (sm_chr b aS aV x ⟨by omega, by omega⟩) mls_lat_chr cs_chr rfl hl.1 (by decide) ⟨by decide, by decide, by decide, by decide⟩ (TS_lat 23 _ _ _ rfl) ?_
    exact W.iret hx hb hr (fun t ht _ => ⟨rfl, ht⟩) (fun q hq => by cases hq) (TS_lat 24 _ _ _ rfl) hlocks
  · rw [if_neg h255]
    refine lv_if_ne (tgt := 9) hx hb (TS_lat 2 _ _ _ rfl) (by decide) (fun cc => absurd rfl cc) (fun _ => ?_)
    have hv : Int32.ofInt (sIdx x) = -1 := by
      unfold sIdx
      rw [if_neg (by omega), if_neg (by omega), if_neg (by omega), if_neg (by omega), if_neg (by omega), if_neg (by omega), if_neg (by omega), if_neg (by omega)]
      rfl
    rw [hv]
    refine lv_iconst (v := -1) hx hb (TS_lat 3 _ _ _ rfl) rfl ?_
    exact W.iret hx hb hr (fun t ht _ => ⟨rfl, ht⟩) (fun q hq => by cases hq) (TS_lat 4 _ _ _ rfl) hlocks

set_option maxRecDepth 100000 in
set_option maxHeartbeats 4000000 in
theorem sm_ioII (b : Nat) (aS aV : Nat → Nat) (x : Int) (hxx : 0 ≤ x ∧ x < 65536) : SMet MS_ioII 3 [.ref (aS 0), .int (Int32.ofInt x), .int 0] b aS aV (Int32.ofInt (sIdx x)) := by
  intro l
  refine Met.ofW (cc := cJ0_indexOf_7cf53) (maxL := 3) (ret := some .int) (by decide +kernel) rfl ?_
  intro p e s m args below meth c s₁ B hml hv
  obtain ⟨rfl, hE⟩ := hv
  have hx := B.exec
  have hb := B.bytes
  have hr := B.returns
  have hts := atoms_spec (ws := wsM MS_ioII) B.pre
  have hts' : ∀ w ∈ WS, w.before _ s = true := fun w hw => hts w (List.mem_cons_of_mem _ hw)
  have hown : s.vm.findClass "java/lang/String" = some m.cls := findClass_of_methodNamed B.named
  have hlocks := B.notSynchronized
  have hS : va_S (fun q => b ≤ q) s.heap s.heap [] := va_S.rf
  have hl := lv_entry ([.ref (aS 0), .int (Int32.ofInt x), .int 0]) (n := 3) (Nat.le_of_ble_eq_true rfl)
  rw [lg_entry_eq]
  generalize (lg_sl ([.ref (aS 0), .int (Int32.ofInt x), .int 0]) ++ List.replicate (3 - (lg_sl ([.ref (aS 0), .int (Int32.ofInt x), .int 0])).length) Slot.unset).toArray = ls at hl ⊢
  have hl : lv_has ls 3 [(0, .ref (aS 0)), (1, .int (Int32.ofInt x)), (2, .int 0)] := hl
  refine lv_aload_n hx hb (TS_ioII 0 _ _ _ rfl) rfl (lv_at hl 0 rfl) ?_
  refine ro_callV (M' := MS_isL) (As := []) (rest := []) ⟨hx, hb, hml, hown, hts'⟩ hE hS (sm_isL b aS aV) mls_ioII_isL cs_isL rfl rfl hl.1 (by decide) ⟨by decide, by decide, by decide, by decide⟩ (TS_ioII 1 _ _ _ rfl) ?_
  refine lv_if_eq (tgt := 23) hx hb (TS_ioII 2 _ _ _ rfl) (by decide) (fun cc => absurd cc (by decide)) (fun _ => ?_)
  refine lv_aload_n hx hb (TS_ioII 3 _ _ _ rfl) rfl (lv_at hl 0 rfl) ?_
  refine vk_getf hx hb (hE.1.1 0 (by decide)).2.2.1 hS hown (hts' _ fls_va) (fun _ q => q) (TS_ioII 4 _ _ _ rfl) ?_
  refine lv_iload_n hx hb (TS_ioII 5 _ _ _ rfl) rfl (lv_at hl 1 rfl) ?_
  refine lv_iload_n hx hb (TS_ioII 6 _ _ _ rfl) rfl (lv_at hl 2 rfl) ?_
  refine lv_aload_n hx hb (TS_ioII 7 _ _ _ rfl) rfl (lv_at hl 0 rfl) ?_
  refine ro_callV (M' := MS_len) (As := []) (rest := [.int 0, .int (Int32.ofInt x), .ref (aV 0)]) ⟨hx, hb, hml, hown, hts'⟩ hE hS (sm_len b aS aV) mls_ioII_len cs_len rfl rfl hl.1 (Nat.le_of_ble_eq_true rfl) ⟨by decide, by decide, by decide, by decide⟩ (TS_ioII 8 _ _ _ rfl) ?_
  refine ro_callS (M' := MS_lat) (As := [.ref (aV 0), .int (Int32.ofInt x), .int 0, .int 8]) (rest := []) ⟨hx, hb, hml, hown, hts'⟩ hE hS (sm_lat b aS aV x hxx) mls_ioII_lat cs_lat rfl hl.1 (by decide) ⟨by decide, by decide, by decide, by decide⟩ (TS_ioII 9 _ _ _ rfl) ?_
  refine lv_goto (tgt := 36) hx hb (TS_ioII 10 _ _ _ rfl) (by decide) ?_
  exact W.iret hx hb hr (fun t ht _ => ⟨rfl, ht⟩) (fun q hq => by cases hq) (TS_ioII 18 _ _ _ rfl) hlocks

set_option maxRecDepth 100000 in
set_option maxHeartbeats 4000000 in
theorem sm_ioI (b : Nat) (aS aV : Nat → Nat) (x : Int) (hxx : 0 ≤ x ∧ x < 65536) : SMet MS_ioI 4 [.ref (aS 0), .int (Int32.ofInt x)] b aS aV (Int32.ofInt (sIdx x)) := by
  intro l
  refine Met.ofW (cc := cJ0_indexOf_0f7a4) (maxL := 2) (ret := some .int) (by decide +kernel) rfl ?_
  intro p e s m args below meth c s₁ B hml hv
  obtain ⟨rfl, hE⟩ := hv
  have hx := B.exec
  have hb := B.bytes
  have hr := B.returns
  have hts := atoms_spec (ws := wsM MS_ioI) B.pre
  have hts' : ∀ w ∈ WS, w.before _ s = true := fun w hw => hts w (List.mem_cons_of_mem _ hw)
  have hown : s.vm.findClass "java/lang/String" = some m.cls := findClass_of_methodNamed B.named
  have hlocks := B.notSynchronized
  have hS : va_S (fun q => b ≤ q) s.heap s.heap [] := va_S.rf
  have hl := lv_entry ([.ref (aS 0), .int (Int32.ofInt x)]) (n := 2) (Nat.le_of_ble_eq_true rfl)
  rw [lg_entry_eq]
  generalize (lg_sl ([.ref (aS 0), .int (Int32.ofInt x)]) ++ List.replicate (2 - (lg_sl ([.ref (aS 0), .int (Int32.ofInt x)])).length) Slot.unset).toArray = ls at hl ⊢
  have hl : lv_has ls 2 [(0, .ref (aS 0)), (1, .int (Int32.ofInt x))] := hl
  refine lv_aload_n hx hb (TS_ioI 0 _ _ _ rfl) rfl (lv_at hl 0 rfl) ?_
  refine lv_iload_n hx hb (TS_ioI 1 _ _ _ rfl) rfl (lv_at hl 1 rfl) ?_
  refine lv_iconst (v := 0) hx hb (TS_ioI 2 _ _ _ rfl) rfl ?_
  refine ro_callV (M' := MS_ioII) (As := [.int (Int32.ofInt x), .int 0]) (rest := []) ⟨hx, hb, hml, hown, hts'⟩ hE hS (sm_ioII b aS aV x hxx) mls_ioI_ioII cs_ioII rfl rfl hl.1 (by decide) ⟨by decide, by decide, by decide, by decide⟩ (TS_ioI 3 _ _ _ rfl) ?_
  exact W.iret hx hb hr (fun t ht _ => ⟨rfl, ht⟩) (fun q hq => by cases hq) (TS_ioI 4 _ _ _ rfl) hlocks

set_option maxRecDepth 100000 in
set_option maxHeartbeats 4000000 in
theorem g_readIdx {d d' pc : Nat} {loc : List (Option PV)} {h h1 : Hp} {Q : Option PV → Hp → Prop} {y : Int} (hd5 : 5 ≤ d) (hd' : d' + 1 ≤ d) (hl1 : loc[1]? = some (some (.inr 42))) (t1 : decode cX3_readFact pc = .ok (.ldc 100, 2)) (t2 : decode cX3_readFact (pc + 2) = .ok (.aload_n 1, 1)) (t3 : decode cX3_readFact (pc + 3) = .ok (.invokevirtual 45, 3)) (t4 : decode cX3_readFact (pc + 6) = .ok (.i2c, 1)) (t5 : decode cX3_readFact (pc + 7) = .ok (.invokevirtual 102, 3))
    (hrun : Runs M_X10_sign d' [.inr 42] h (Qi (y, h1))) (k : Go M_X3_readFact d (pc + 10) loc [.inl (sIdx (i2c y))] h1 Q) : Go M_X3_readFact d pc loc [] h Q := by
  intro p l e R s m args below meth cd b D cA k0 z H locs ls Z hcx hR hS hL hs hh hF
  obtain ⟨x1, x2, x3, x4, x5, x6, x7, x8, x9, x10, x11, x12, x13⟩ := id hcx
  obtain ⟨aS, aV, v1, v2, v3⟩ := x9.2
  have hlv := (hL.at hl1).1
  rw [show cV b (.inr 42) = .ref (b + 41) from cV_s b 41] at hlv
  refine va_ldcS x1 x2 x5 v1 t1 ?_
  refine lv_aload_n x1 x2 t2 rfl hlv ?_
  obtain ⟨⟨hcode, hini, hy1, hy2, hpar, hml⟩, hinst, hsel, T, N, hcl⟩ := cb_X10_sign
  have hM := hrun l D cA b hh (fun v hv => by rcases List.mem_cons.mp hv with rfl | hv; exact (by decide : (42 : Nat) ≤ 1000); cases hv)
  have cw : CallW R s args RX3 M_X10_sign.1.cls 45 M_X10_sign.1 M_X10_sign.2.1 M_X10_sign.2.2.1 M_X10_sign.2.2.2 (wsM M_X10_sign) (rmD d') 0 0 0 := by
    refine cwV 0 x6 (Ts := WS) (fun w hw => ?_) rfl rfl rfl ⟨rfl, hy1, hy2, hpar⟩ ⟨by show d' + 1 ≤ R.frames; omega, by show 8 + (1 + 11) + 64 * d' ≤ R.locals; omega⟩
    rcases List.mem_append.mp hw with h | h
    · simp only [List.mem_cons, List.not_mem_nil, or_false] at h
      rcases h with rfl | rfl | rfl | rfl
      · exact ⟨ml_X3_45, WS_good _ ml_X3_45⟩
      · exact ⟨hinst, WS_good _ hinst⟩
      · exact ⟨hsel, WS_good _ hsel⟩
      · exact ⟨hini, WS_good _ hini⟩
    · exact good_ws (M := M_X10_sign) hcode w h
  have hrecv := va_recv x8 hR hcl (wd_get (c := 41) (d := .inl (10, [43, 0, 0, 0, 0, 0])) rfl)
  refine call_go (va_runV (As := []) (rest := [.ref (aS 0)]) ⟨x1, x2, x4, x5, x6⟩ hM cw ⟨blind, hrecv, fun U hU hW => ⟨by rw [List.map_cons, show cV b (.inr 42) = .ref (b + 41) from cV_s b 41]; rfl, by show Rp D cA b h U.heap; rw [hU]; exact hR, va_K.moved hW.alike x8, Nx.warm hW hS hU x9⟩⟩ rfl rfl hL.1 rfl (lv_room (Nat.le_of_ble_eq_true rfl)) t3 ⟨x12, x13⟩) hS ?_
  intro r2 h' H1 locs1 hq ho hor hR1 hS1
  obtain ⟨rfl, rfl⟩ := hq
  refine lv_i2c x1 x2 t4 rfl ?_
  have ec : (((Int32.ofInt y).toUInt32 % 65536).toInt32 : Int32) = Int32.ofInt (i2c y) := by unfold i2c; rw [Int32.ofInt_toInt]
  have hb2 : 0 ≤ i2c y ∧ i2c y < 65536 := by
    have e2 := pk_char (Int32.ofInt y)
    have e3 : (Int32.ofInt y).toBitVec.toNat % 65536 < 65536 := Nat.mod_lt _ (by decide)
    unfold i2c
    rw [e2, nI_toInt (by omega)]
    omega
  show W _ _ _ _ _ _ _ _ _ _ _ _ _ _ _ (F0 m _ ls (.int (((Int32.ofInt y).toUInt32 % 65536).toInt32) :: [.ref (aS 0)]))
  rw [ec]
  refine ro_callV (M' := MS_ioI) (As := [.int (Int32.ofInt (i2c y))]) (rest := []) ⟨x1, x2, x4, x5, x6⟩ ⟨v2, v3⟩ hS1 (sm_ioI b aS aV (i2c y) hb2) mls_rf_ioI cs_ioI rfl rfl hL.1 (by decide) ⟨by omega, by omega, x12, x13⟩ t5 ?_
  have hsr : okV (.inl (sIdx (i2c y))) := by
    show inR (sIdx (i2c y))
    unfold sIdx
    repeat (first | split | exact ⟨by decide, by decide⟩)
  exact k p l e R s m args below meth cd b D cA k0 z H1 locs1 ls Z hcx hR1 hS1 hL (fun v hv => by rcases List.mem_cons.mp hv with rfl | hv; exact hsr; cases hv) ho hF
