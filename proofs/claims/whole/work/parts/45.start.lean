/-! FROM THE LAW'S ENTRY TO ITS LOOP -/
theorem kn_arr {s : State} {args : Array Value} {ty : FieldType} (h : (Cond.arrayClass ty).before args s = true) : ∃ c : ClassId, ArrOfT s c ty ∧ s.vm.findClass ("[" ++ ty.toString) = some c := by
  obtain ⟨c, k, comp, h1, h2, h3⟩ := Cond.arrayClass_spec h
  exact ⟨c, fun n z => ⟨fun k h => (by cases h), k, h2, comp, h3⟩, h1⟩
theorem str_of {s : State} {bs : Nat} (x6t : ∀ w ∈ lw_tbl, w.before #[Value.ref bs] s = true) (x6 : ∀ w ∈ WS, w.before #[Value.ref bs] s = true) (hg : (Jvm.Cond.and given_1 narrow_1).before #[Value.ref bs] s = true) : StrU s.heap.size s := by
  have hs := flat_of_before _ hg
  have hA : ∀ a : Nat, a < s.heap.size → ¬ s.heap.size ≤ a := fun a h => by omega
  obtain ⟨aS, aV, h1, h2⟩ := vk_Sof (args := #[Value.ref bs]) (s := s) (N := 1) (tm := fun _ => Term.string "NightCarts$LawReader" 100) (len := [8]) (byt := [strB]) (A := fun q => s.heap.size ≤ q) (fun i hi => by rcases (show i = 0 by omega) with rfl; decide) (fun i hi => hs _ (by decide +kernel)) (fun i hi => hs _ (by decide +kernel)) (fun i hi => hs _ (by decide +kernel)) (fun i hi => by rcases (show i = 0 by omega) with rfl; exact hs _ (by decide +kernel))
    (fun i hi j hj => by
      rcases (show i = 0 by omega) with rfl
      have hj8 : j < 8 := hj
      rcases (show j = 0 ∨ j = 1 ∨ j = 2 ∨ j = 3 ∨ j = 4 ∨ j = 5 ∨ j = 6 ∨ j = 7 by omega) with rfl | rfl | rfl | rfl | rfl | rfl | rfl | rfl <;> exact hs _ (by decide +kernel))
    (fun i j hi hj hij => absurd (show i = j by omega) hij) hA
  refine ⟨aS, aV, vk_R.of (x6t _ (List.mem_append_right _ (List.mem_append_right _ (List.mem_append_right _ (List.mem_append_left _ (List.mem_of_getElem? (l := tables_1_3) (i := 82) rfl)))))) (h2 0 (by decide)), h1, ?_⟩
  exact va_Zof (args := #[Value.ref bs]) (x6t _ (List.mem_append_right _ (List.mem_append_right _ (List.mem_append_right _ (List.mem_append_left _ (List.mem_of_getElem? (l := tables_1_3) (i := 96) rfl)))))) (x6 _ (inB1 15 rfl rfl)) (va_eqt (hs _ (by decide +kernel))) hA
section START
variable {p : Program} {l : Launch} {e : Env} {s : State} {m : MethodId} {below : List Frame} {meth : Method} {c : Code} {bs L : Nat} {xs : Nat → Int32} {b : Nat} {D : va_G} {cA : Nat → ClassId} {H : Heap} {locs : List Loc} {ls : Array Slot} {Z : State → Prop} {lay : List Dsc} {h : Hp} {rest : List Value} {pc : Nat}
theorem w_newL {idx ci N : Nat} {C : String} {T : u_T} {rs : List Nat} (x1 : p.tables.exec = Jvm.exec) (x2 : c.code = cL_law) (x5 : s.vm.findClass RL = some m.cls) (x6 : ∀ w ∈ WS, w.before #[Value.ref bs] s = true) (x8 : va_K D vwCl (tysA cA) s) (hR : RpC D cA b 0 0 lay h H) (hS : va_S (fun q => b ≤ q) s.heap H locs) (hz : h lay.length = fun _ => 0) (hdg : decode cL_law pc = .ok (.new idx, 3)) (hcl : Cls ci C T N) (hlk : Cond.classLink RL idx C ∈ WS ∧ Cond.instantiable C N ∈ WS ∧ Cond.initialized C ∈ WS) (hdf : ∀ j, j < N → defaultValue (tyF ci j) = fV 0 (tyF ci j) 0 0) (hrs : ∀ j, j < N → rs.getD j 0 = 0) (hnm : lay.length + 1 ≤ 600000) (hzm : szL lay + N ≤ 7302250)
    (k : ∀ H1, RpC D cA b 0 0 (lay ++ [.inl (ci, rs)]) h H1 → va_S (fun q => b ≤ q) s.heap H1 locs → W p l e room_1 s m #[Value.ref bs] below meth c H1 locs (lay.length + 1) (szL lay + N) Z (F0 m (pc + 3) ls (.ref (b + lay.length) :: rest))) : W p l e room_1 s m #[Value.ref bs] below meth c H locs lay.length (szL lay) Z (F0 m pc ls rest) := by
  obtain ⟨h1, h2, h3, h4, rfl⟩ := hcl
  obtain ⟨hP, hsz, hn0, hz0⟩ := id hR
  have hKn := x8.1 ci _ h1
  refine W.newcK x1 x2 x5 (x6 _ hlk.1) (x6 _ hlk.2.1) (x6 _ hlk.2.2) rfl hdg hnm hzm hKn.2.1 rfl fun H1 kC hkC e1 z1 o1 => ?_
  have hR1 : RpC D cA b 0 0 (lay ++ [.inl (ci, rs)]) (hS1 h lay.length (fun _ => 0)) H1 := by
    refine RpC_push hR z1 o1 ⟨_, h1, ?_⟩
    rw [← hsz]
    refine (u_born (tyF ci) x6 h2 hKn hkC e1 h3).to fun j hj => ?_
    rw [hdf j hj]
    simp only [vp_V, List.getD_eq_getElem?_getD, List.getElem?_map, List.getElem?_range hj, Option.map_some, Option.getD_some]
    have hr0 := hrs j hj
    rw [List.getD_eq_getElem?_getD] at hr0
    rw [hr0]
    unfold fV
    split <;> simp [cR]
  rw [hS1_id hz] at hR1
  have kk := k H1 hR1 (S_push hS z1 o1)
  rw [← hsz] at kk
  exact kk
theorem w_callL {sz : Bool} {M' : Mth} {d' idx r mc ms : Nat} {Q1 : List Dsc → Hp → Prop} (x1 : p.tables.exec = Jvm.exec) (x2 : c.code = cL_law) (x4 : c.maxLocals = 4) (x5 : s.vm.findClass RL = some m.cls) (x6 : ∀ w ∈ WS, w.before #[Value.ref bs] s = true) (x8 : va_K D vwCl (tysA cA) s) (x9 : Nx b s) (xA : va_AO "NightCarts$Cart" s) (hR : RpC D cA b 0 0 lay h H) (hS : va_S (fun q => b ≤ q) s.heap H locs) (hh : okH h) (hl : ls.size = 4) (hr9 : r + 1 ≤ 1000)
    (hdg : decode cL_law pc = .ok (.invokespecial idx, 3)) (hlk : Cond.methodLink RL idx M'.1 ∈ WS) (hcb : CBi M' 0) (hd : d' + 1 ≤ 1300) (hnm : lay.length + mc ≤ 600000) (hzm : szL lay + ms ≤ 7302250) (hrun : RunsC sz M' d' mc ms [.inr (r + 1)] lay h Q1) (hst : (rest.map fun v => v.category).sum ≤ 8)
    (kk : ∀ (lay' : List Dsc) (h' : Hp) (H1 : Heap) (locs1 : List Loc), Q1 lay' h' → okH h' → va_P D vwCl (wd b cA lay' h') H1 → (sz = true → H1.size = b + lay'.length) → va_S (fun q => b ≤ q) s.heap H1 locs1 → W p l e room_1 s m #[Value.ref bs] below meth c H1 locs1 (lay.length + mc) (szL lay + ms) Z (F0 m (pc + 3) ls rest)) :
    W p l e room_1 s m #[Value.ref bs] below meth c H locs lay.length (szL lay) Z (F0 m pc ls (.ref (b + r) :: rest)) := by
  obtain ⟨⟨hcode, hini, hy1, hy2, hpar, hml⟩, hinst, hname, hret⟩ := hcb
  obtain ⟨hP, hsz, hn0, hz0⟩ := id hR
  have hM := hrun l D cA b hh (fun v hv => by rcases List.mem_cons.mp hv with rfl | hv; exact hr9; cases hv)
  have hpre : PreS s H (va_Pc ([.inr (r + 1)].map (cV b)) (WdC D cA b lay h)) [.ref (b + r)] := ⟨blindC, fun U hU hW => ⟨by rw [List.map_cons, cV_s]; rfl, by rw [hU]; exact hP, by rw [hU]; exact hsz, va_K.moved hW.alike x8, Nx.warm hW hS hU x9, va_AO.moved hW.alike xA⟩⟩
  have hw : wsM M' = Cond.code M'.1 M'.2.1 M'.2.2.1 none :: WS := by show Cond.code M'.1 M'.2.1 M'.2.2.1 M'.2.2.2 :: WS = _; rw [hret]
  refine callC (va_runI (As := []) (rest := rest) ⟨x1, x2, x4, x5, x6⟩ hM (cwI 0 x6 (good_ws (M := M') hcode) hw rfl rfl (x6 _ hini) (x6 _ hlk) (x6 _ hinst) hname ⟨hy1, hy2, hpar⟩ ⟨by show d' + 1 ≤ 2048; omega, by show 8 + (M'.2.2.1 + 11) + 64 * d' ≤ 84000; omega⟩) hpre rfl rfl hl rfl (lv_room hst) hdg ⟨hnm, hzm⟩) hS kk
end START
set_option maxRecDepth 100000 in
set_option maxHeartbeats 4000000 in
theorem start_of {p : Program} {e : Env} {s : State} {m : MethodId} {below : List Frame} {meth : Method} {c : Code} (l : Launch) {b L : Nat} {xs : Nat → Int32} (hL : L ≤ 3072) (C0 : lw_At p s m meth c b L xs) {N : Nat} {Inv : Hp → Prop} (o0 : ∀ a1 : Int, inR a1 → ∀ a2 : Int, inR a2 → ∀ a3 : Int, inR a3 → ∀ a4 : Int, inR a4 → Sm Inv (F_X11_street N a1 a2 a3 a4) (F_X12_street N a1 a2 a3 a4)) (o1 : ∀ a1 : Int, inR a1 → ∀ a2 : Int, inR a2 → Sm Inv (F_X11_cart N a1 a2) (F_X12_cart N a1 a2)) (o2 : ∀ a1 : Int, inR a1 → ∀ a2 : Int, inR a2 → Sm Inv (F_X11_pour N a1 a2) (F_X12_pour N a1 a2)) (o3 : ∀ a1 : Int, inR a1 → ∀ a2 : Int, inR a2 → ∀ a3 : Int, inR a3 → ∀ a4 : Int, inR a4 → ∀ a5 : Int, inR a5 → Sm Inv (F_X11_feed N a1 a2 a3 a4 a5) (F_X12_feed N a1 a2 a3 a4 a5)) (o4 : ∀ a1 : Int, inR a1 → Sm Inv (F_X11_law N a1) (F_X12_law N a1)) (o5 : ∀ a1 : Int, inR a1 → Sm Inv (F_X11_roads N a1) (F_X12_roads N a1)) (o6 : ∀ a1 : Int, inR a1 → ∀ a2 : Int, inR a2 → Sm Inv (F_X11_plan N a1 a2) (F_X12_plan N a1 a2)) (o7 : ∀ a1 : Int, inR a1 → Sm Inv (F_X11_nights N a1) (F_X12_nights N a1)) (o8 : ∀ a1 : Int, inR a1 → Sm Inv (F_X11_tried N a1) (F_X12_tried N a1)) (o9 : ∀ a1 : Int, inR a1 → ∀ a2 : Int, inR a2 → Sm Inv (F_X11_way N a1 a2) (F_X12_way N a1 a2)) (o10 : ∀ a1 : Int, inR a1 → ∀ a2 : Int, inR a2 → ∀ a3 : Int, inR a3 → Sm Inv (F_X11_round N a1 a2 a3) (F_X12_round N a1 a2 a3)) (o11 : ∀ a1 : Int, inR a1 → ∀ a2 : Int, inR a2 → ∀ a3 : Int, inR a3 → Sm Inv (F_X11_share N a1 a2 a3) (F_X12_share N a1 a2 a3)) (o12 : ∀ a1 : Int, inR a1 → ∀ a2 : Int, inR a2 → ∀ a3 : Int, inR a3 → Sm Inv (F_X11_sleepful N a1 a2 a3) (F_X12_sleepful N a1 a2 a3)) (o13 : ∀ a1 : Int, inR a1 → Sm Inv (F_X11_pitAt N a1) (F_X12_pitAt N a1)) (o14 : ∀ a1 : Int, inR a1 → Sm Inv (F_X11_cut N a1) (F_X12_cut N a1)) (o15 : ∀ a1 : Int, inR a1 → Sm Inv (F_X11_strike N a1) (F_X12_strike N a1)) (o16 : ∀ a1 : Int, inR a1 → Sm Inv (F_X11_enough N a1) (F_X12_enough N a1)) (o17 : ∀ a1 : Int, inR a1 → ∀ a2 : Int, inR a2 → ∀ a3 : Int, inR a3 → Sm Inv (F_X11_oneStop N a1 a2 a3) (F_X12_oneStop N a1 a2 a3)) (o18 : ∀ a1 : Int, inR a1 → ∀ a2 : Int, inR a2 → Sm Inv (F_X11_out N a1 a2) (F_X12_out N a1 a2)) (o19 : ∀ a1 : Int, inR a1 → ∀ a2 : Int, inR a2 → ∀ a3 : Int, inR a3 → Sm Inv (F_X11_jobs N a1 a2 a3) (F_X12_jobs N a1 a2 a3)) (o20 : ∀ a1 : Int, inR a1 → ∀ a2 : Int, inR a2 → ∀ a3 : Int, inR a3 → Sm Inv (F_X11_load N a1 a2 a3) (F_X12_load N a1 a2 a3)) (o21 : ∀ a1 : Int, inR a1 → ∀ a2 : Int, inR a2 → Sm Inv (F_X11_brides N a1 a2) (F_X12_brides N a1 a2)) (o22 : ∀ a1 : Int, inR a1 → ∀ a2 : Int, inR a2 → ∀ a3 : Int, inR a3 → Sm Inv (F_X11_thieves N a1 a2 a3) (F_X12_thieves N a1 a2 a3)) (o23 : ∀ a1 : Int, inR a1 → Sm Inv (F_X11_latest N a1) (F_X12_latest N a1)) (o24 : Sm Inv (F_X11_keep N ) (F_X12_keep N )) (o25 : Sm Inv (F_X11_undo N ) (F_X12_undo N )) (o26 : ∀ a1 : Int, inR a1 → Sm Inv (F_X11_check N a1) (F_X12_check N a1)) (o27 : ∀ a1 : Int, inR a1 → Sm Inv (F_X11_count N a1) (F_X12_count N a1)) {h1 : Hp} (H1 : F_X12_laysWays N (-1) (-1) hX0 = some h1) (hI : Inv h1) : W p l e room_1 s m #[Value.ref b] below meth c s.heap [] 0 0 (lw_Z below #[Value.ref b] s) (entryFrame m ([Value.ref b] : List Value).toArray 4) := by
  obtain ⟨x1, x2, x3, x4, x5, x6t, x7, x8, x9, x10⟩ := id C0
  have x6 : ∀ w ∈ WS, w.before #[Value.ref b] s = true := fun w hw => x6t w (List.mem_filter.mp hw).1
  obtain ⟨c0, iS0, hKn0⟩ := u_known (C := RX0) (T := TX0) (N := 5) (n := 5) x6 wi0 (x6 _ nw_X11_18.2.1)
  obtain ⟨c1, iS1, hKn1⟩ := u_known (C := RX1) (T := TX1) (N := 13) (n := 13) x6 wi1 (x6 _ nw_X11_7.2.1)
  obtain ⟨c2, iS2, hKn2⟩ := u_known (C := RX2) (T := TX2) (N := 12) (n := 12) x6 wi2 (x6 _ nw_X11_13.2.1)
  obtain ⟨c3, iS3, hKn3⟩ := u_known (C := RX3) (T := TX3) (N := 1) (n := 1) x6 wi3 (x6 _ nw_X11_40.2.1)
  obtain ⟨c4, iS4, hKn4⟩ := u_known (C := RX4) (T := TX4) (N := 6) (n := 6) x6 wi4 (x6 _ nw_X11_89.2.1)
  obtain ⟨c5, iS5, hKn5⟩ := u_known (C := RX5) (T := TX5) (N := 16) (n := 16) x6 wi5 (x6 _ nw_X11_55.2.1)
  obtain ⟨c6, iS6, hKn6⟩ := u_known (C := RX6) (T := TX6) (N := 7) (n := 7) x6 wi6 (x6 _ nw_X11_82.2.1)
  obtain ⟨c7, iS7, hKn7⟩ := u_known (C := RX7) (T := TX7) (N := 4) (n := 4) x6 wi7 (x6 _ nw_X11_10.2.1)
  obtain ⟨c8, iS8, hKn8⟩ := u_known (C := RX8) (T := TX8) (N := 5) (n := 5) x6 wi8 (x6 _ nw_X11_64.2.1)
  obtain ⟨c9, iS9, hKn9⟩ := u_known (C := RX9) (T := TX9) (N := 9) (n := 9) x6 wi9 (x6 _ nw_X11_73.2.1)
  obtain ⟨c10, iS10, hKn10⟩ := u_known (C := RX10) (T := TX10) (N := 6) (n := 6) x6 wi10 (x6 _ nw_X11_21.2.1)
  obtain ⟨c11, iS11, hKn11⟩ := u_known (C := RX11) (T := TX11) (N := 12) (n := 12) x6 wi11 (x6 _ nw_L_7.2.1)
  obtain ⟨c12, iS12, hKn12⟩ := u_known (C := RX12) (T := TX12) (N := 59) (n := 59) x6 wi12 (x6 _ nw_L_10.2.1)
  obtain ⟨ai, ai1, ai2⟩ := kn_arr (x6 _ wa_int)
  obtain ⟨ab, ab1, ab2⟩ := kn_arr (x6 _ wa_byte)
  obtain ⟨az, az1, az2⟩ := kn_arr (x6 _ wa_boolean)
  have hAO : va_AO "NightCarts$Cart" s := x6t _ (List.mem_append_right _ (List.mem_append_left _ (List.mem_of_getElem? (l := tables_1_1) (i := 140) rfl)))
  obtain ⟨comp, aq, kq, q1, q2, q3, q4, q5⟩ := Cond.arrayOver_spec hAO
  obtain ⟨D, hD⟩ : ∃ D : va_G, ∀ (k : Nat) (q : vw_C), vwCl[k]? = some q → u_Kn s q.1 q.2.1 q.2.2 (D.1 k) (D.2 k) := by
    refine ⟨(fun k => if k = 0 then c0 else if k = 1 then c1 else if k = 2 then c2 else if k = 3 then c3 else if k = 4 then c4 else if k = 5 then c5 else if k = 6 then c6 else if k = 7 then c7 else if k = 8 then c8 else if k = 9 then c9 else if k = 10 then c10 else if k = 11 then c11 else c12, fun k => if k = 0 then iS0 else if k = 1 then iS1 else if k = 2 then iS2 else if k = 3 then iS3 else if k = 4 then iS4 else if k = 5 then iS5 else if k = 6 then iS6 else if k = 7 then iS7 else if k = 8 then iS8 else if k = 9 then iS9 else if k = 10 then iS10 else if k = 11 then iS11 else iS12), ?_⟩
    intro k q hq
    match k, hq with
    | 0, hq => cases hq; exact hKn0
    | 1, hq => cases hq; exact hKn1
    | 2, hq => cases hq; exact hKn2
    | 3, hq => cases hq; exact hKn3
    | 4, hq => cases hq; exact hKn4
    | 5, hq => cases hq; exact hKn5
    | 6, hq => cases hq; exact hKn6
    | 7, hq => cases hq; exact hKn7
    | 8, hq => cases hq; exact hKn8
    | 9, hq => cases hq; exact hKn9
    | 10, hq => cases hq; exact hKn10
    | 11, hq => cases hq; exact hKn11
    | 12, hq => cases hq; exact hKn12
    | k + 13, hq => simp [vwCl] at hq
  obtain ⟨cA, hcA⟩ : ∃ cA : Nat → ClassId, cA 0 = ai ∧ cA 1 = ab ∧ cA 2 = az ∧ cA 3 = aq := ⟨fun k => if k = 0 then ai else if k = 1 then ab else if k = 2 then az else aq, rfl, rfl, rfl, rfl⟩
  obtain ⟨rfl, rfl, rfl, rfl⟩ := hcA
  have hK : va_K D vwCl (tysA cA) s := by
    refine ⟨hD, fun k q hq => ?_⟩
    match k, hq with
    | 0, hq => cases hq; exact ⟨ai1, ai2⟩
    | 1, hq => cases hq; exact ⟨ab1, ab2⟩
    | 2, hq => cases hq; exact ⟨az1, az2⟩
    | 3, hq => cases hq; exact ⟨fun n z => ⟨fun k h => (by cases h), kq, q3, comp, q4⟩, kq, comp, q3, q4, q1, q5⟩
    | k + 4, hq => simp at hq
  have hN0 : ∀ w ∈ NW, va_Nw w s := by
    intro w hw
    have h2 := (List.mem_filter.mp hw).2
    have h3 := x6t w (List.mem_filter.mp hw).1
    cases w with
    | methodLinkNest a i x hh => exact va_Nw.of rfl h3
    | _ => cases h2
  have hN : Nx s.heap.size s := ⟨hN0, str_of x6t x6 x10⟩
  have hl := lv_entry ([.ref b]) (n := 4) (Nat.le_of_ble_eq_true rfl)
  rw [lg_entry_eq]
  generalize (lg_sl ([.ref b]) ++ List.replicate (4 - (lg_sl ([.ref b])).length) Slot.unset).toArray = ls at hl ⊢
  have hl : lv_has ls 4 [(0, .ref b)] := hl
  have hok0 : okH h00 := fun _ _ => inR_0
  have hR0 : RpC D cA s.heap.size 0 0 [] h00 s.heap := ⟨fun k q h => by simp [wd] at h, rfl, Nat.le_refl _, Nat.le_refl _⟩
  refine w_newL (lay := []) (h := h00) (rs := [0, 0, 0, 0, 0, 0, 0, 0, 0, 0, 0, 0]) x1 x2 x5 x6 hK hR0 va_S.rf rfl (T_L_0 0 _ _ _ rfl) cl11 nw_L_7 df_11 zr_11 (by decide) (by decide) fun Ha hRa hSa => ?_
  refine lv_dup x1 x2 (T_L_0 1 _ _ _ rfl) rfl ?_
  refine w_callL (lay := [.inl (11, [0, 0, 0, 0, 0, 0, 0, 0, 0, 0, 0, 0])]) (M' := M_X11_init) (d' := 6) (r := 0) (mc := 82) (ms := 3728) x1 x2 x4 x5 x6 hK hN hAO hRa hSa hok0 hl.1 (by decide) (T_L_0 2 _ _ _ rfl) ml_L_9 cbi_X11_init (by decide) (by decide) (by decide) C_X11_init (by simp [Value.category]) ?_
  intro lay1 g1 Hb locsb hq1 hok1 hPb hzb hSb
  obtain ⟨rfl, rfl⟩ := hq1
  refine lv_astore_n (lv' := [(1, .ref s.heap.size), (0, .ref b)]) x1 x2 (T_L_0 3 _ _ _ rfl) rfl hl (by decide) rfl (fun ls hl => ?_)
  refine w_newL (lay := L83) (h := hX0) (rs := [0, 0, 0, 0, 0, 0, 0, 0, 0, 0, 0, 0, 0, 0, 0, 0, 0, 0, 0, 0, 0, 0, 0, 0, 0, 0, 0, 0, 0, 0, 0, 0, 0, 0, 0, 0, 0, 0, 0, 0, 0, 0, 0, 0, 0, 0, 0, 0, 0, 0, 0, 0, 0, 0, 0, 0, 0, 0, 0]) x1 x2 x5 x6 hK ⟨hPb, hzb rfl, Nat.zero_le _, Nat.zero_le _⟩ hSb (hX0_z _ (by decide)) (T_L_0 4 _ _ _ rfl) cl12 nw_L_10 df_12 zr_12 (by decide) (by decide) fun Hc hRc hSc => ?_
  refine lv_dup x1 x2 (T_L_0 5 _ _ _ rfl) rfl ?_
  refine w_callL (lay := L83 ++ Z_0) (M' := M_X12_init) (d' := 6) (r := 83) (mc := 40) (ms := 2405) x1 x2 x4 x5 x6 hK hN hAO hRc hSc hok1 hl.1 (by decide) (T_L_0 6 _ _ _ rfl) ml_L_12 cbi_X12_init (by decide) (by decide) (by decide) (C_X12_init N h1 H1) (by simp [Value.category]) ?_
  intro lay2 g2 Hd locsd hq2 hok2 hPd hzd hSd
  obtain ⟨rfl, rfl⟩ := hq2
  refine lv_astore_n (lv' := [(2, .ref (s.heap.size + 83)), (1, .ref s.heap.size), (0, .ref b)]) x1 x2 (T_L_0 7 _ _ _ rfl) rfl hl (by decide) rfl (fun ls hl => ?_)
  refine lv_iconst (v := 0) x1 x2 (T_L_0 8 _ _ _ rfl) rfl ?_
  refine lv_istore_n (lv' := [(3, .int 0), (2, .ref (s.heap.size + 83)), (1, .ref s.heap.size), (0, .ref b)]) x1 x2 (T_L_0 9 _ _ _ rfl) rfl hl (by decide) rfl (fun ls hl => ?_)
  exact law_loop o0 o1 o2 o3 o4 o5 o6 o7 o8 o9 o10 o11 o12 o13 o14 o15 o16 o17 o18 o19 o20 o21 o22 o23 o24 o25 o26 o27 hL (L + 7) 0 g2 (by omega) (by omega) (by omega) hI p l e s m below meth c b s.heap.size D cA Hd locsd ls ⟨C0, rfl, hK, hN⟩ hPd hSd (lv_sub hl [3, 2, 1, 0] rfl) (fun v hv => by cases hv) hok2 inR_0
