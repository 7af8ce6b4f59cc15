/-! by program: the methods as functions, and the walks that show it -/
def J_X5_serve_161 (N : Nat) (x1 : Int) (x3 : Int) (x4 : Int) (x6 : Int) (s0 : Int) (h : Hp) : Option (Hp) :=
  bv (F_X5_goOn N x1 (w32 (x4 + 1)) (w32 (x3 + (w32 (x6 * s0)))) h) fun h1 =>
  some h1
set_option maxRecDepth 100000 in
set_option maxHeartbeats 4000000 in
theorem R_J_X5_serve_161 (N : Nat) (x1 : Int) (x3 : Int) (x4 : Int) (x6 : Int) (s0 : Int) (h : Hp) (res : Hp) (H : J_X5_serve_161 N x1 x3 x4 x6 s0 h = some res) : Go M_X5_serve 5 161 [some (.inr 58), some (.inl x1), none, some (.inl x3), some (.inl x4), none, some (.inl x6), none] [.inl s0] h (Qv res) := by
  unfold J_X5_serve_161 at H
  refine g_istore (T_X5_serve 91 _ _ _ rfl) (by decide) ?_
  refine g_aload_n (T_X5_serve 92 _ _ _ rfl) rfl ?_
  refine g_iload_n (T_X5_serve 93 _ _ _ rfl) rfl ?_
  refine g_iload (T_X5_serve 94 _ _ _ rfl) rfl ?_
  refine g_iconst (T_X5_serve 95 _ _ _ rfl) ⟨by decide, by decide⟩ ?_
  refine g_iadd (T_X5_serve 96 _ _ _ rfl) ?_
  refine g_iload_n (T_X5_serve 97 _ _ _ rfl) rfl ?_
  refine g_iload (T_X5_serve 98 _ _ _ rfl) rfl ?_
  refine g_iload (T_X5_serve 99 _ _ _ rfl) rfl ?_
  refine g_imul (T_X5_serve 100 _ _ _ rfl) ?_
  refine g_iadd (T_X5_serve 101 _ _ _ rfl) ?_
  obtain ⟨h1, hq, H⟩ := bv_some H
  refine g_callVv (M' := M_X5_goOn) (c := 57) (av := [.inl x1, .inl (w32 (x4 + 1)), .inl (w32 (x3 + (w32 (x6 * s0))))]) (st := []) (T_X5_serve 102 _ _ _ rfl) ml_X5_80 cb_X5_goOn rfl rfl (Nat.le_of_ble_eq_true rfl) (by omega) (R_X5_goOn N _ _ _ _ _ hq) ?_
  exact g_vret (T_X5_serve 103 _ _ _ rfl) rfl (qv_of H)
def J_X5_serve_19 (N : Nat) (x1 : Int) (q0 : Nat) (h : Hp) : Option (Hp) :=
  if q0 = 0 then
    some h
  else
  grd (0 ≤ x1 ∧ x1 < 5) <|
  bnd ((h 62 x1.toNat)) fun y1 =>
  grd (0 ≤ x1 ∧ x1 < 5) <|
  bnd ((h 60 x1.toNat)) fun y2 =>
  grd (cartR q0) <|
  bd (F_X0_streetOf N (q0 - 1) y2 h) fun y5 h4 =>
  bnd (hw h4 57 15 (w32 ((h4 57 15) + 1))) fun h6 =>
  grd (0 ≤ x1 ∧ x1 < 5) <|
  bnd (hw h6 64 x1.toNat y1) fun h7 =>
  grd (0 ≤ x1 ∧ x1 < 5) <|
  bnd (hw h7 61 x1.toNat y5) fun h8 =>
  bd (F_X1_night N h8) fun y10 h9 =>
  bv (F_X2_regardTime N (idiv y1 60) y10 x1 h9) fun h11 =>
  bd (F_X5_askOf N 117 y5 h11) fun y13 h12 =>
  bd (F_X0_takesOnAt N (q0 - 1) y2 h12) fun y15 h14 =>
  if y15 = 0 then
    bd (F_X0_yardsOf N (q0 - 1) y2 h14) fun y17 h16 =>
    grd (0 ≤ x1 ∧ x1 < 5) <|
    bd (F_X5_leave N x1 y5 (imin y17 (h16 63 x1.toNat)) h16) fun y19 h18 =>
    J_X5_serve_161 N  x1 y1 y2 y13 y19 h18
  else
  bd (F_X0_yardsOf N (q0 - 1) y2 h14) fun y21 h20 =>
  bd (F_X0_room N (q0 - 1) h20) fun y23 h22 =>
  grd (0 ≤ x1 ∧ x1 < 5) <|
  bd (F_X5_takeOn N x1 (imin y21 (w32 (y23 - (h22 63 x1.toNat)))) h22) fun y25 h24 =>
  J_X5_serve_161 N  x1 y1 y2 y13 y25 h24
set_option maxRecDepth 100000 in
set_option maxHeartbeats 4000000 in
theorem R_J_X5_serve_19 (N : Nat) (x1 : Int) (q0 : Nat) (h : Hp) (res : Hp) (H : J_X5_serve_19 N x1 q0 h = some res) : Go M_X5_serve 5 19 [some (.inr 58), some (.inl x1), none, none, none, none, none, none] [.inr q0] h (Qv res) := by
  unfold J_X5_serve_19 at H
  refine g_astore_n (T_X5_serve 11 _ _ _ rfl) (by decide) ?_
  refine g_aload_n (T_X5_serve 12 _ _ _ rfl) rfl ?_
  refine g_ifnonnull (tgt := 25) (T_X5_serve 13 _ _ _ rfl) (by decide) (fun cc => ?_) (fun cc => ?_)
  · replace H := ite_n cc H
    refine g_aload_n (T_X5_serve 15 _ _ _ rfl) rfl ?_
    refine g_getR (c := 57) (r := 63) (T_X5_serve 16 _ _ _ rfl) fl_X5_29 rfl (nR rfl) rfl (by decide) ?_
    refine g_iload_n (T_X5_serve 17 _ _ _ rfl) rfl ?_
    obtain ⟨hg, H⟩ := grd_some H
    refine g_iald (c := 62) (T_X5_serve 18 _ _ _ rfl) rfl hg ?_
    refine g_bndI H fun y1 H => ?_
    refine g_istore_n (T_X5_serve 19 _ _ _ rfl) (by decide) ?_
    refine g_aload_n (T_X5_serve 20 _ _ _ rfl) rfl ?_
    refine g_getR (c := 57) (r := 61) (T_X5_serve 21 _ _ _ rfl) fl_X5_23 rfl (nR rfl) rfl (by decide) ?_
    refine g_iload_n (T_X5_serve 22 _ _ _ rfl) rfl ?_
    obtain ⟨hg, H⟩ := grd_some H
    refine g_iald (c := 60) (T_X5_serve 23 _ _ _ rfl) rfl hg ?_
    refine g_bndI H fun y2 H => ?_
    refine g_istore (T_X5_serve 24 _ _ _ rfl) (by decide) ?_
    refine g_aload_n (T_X5_serve 25 _ _ _ rfl) rfl ?_
    refine g_iload (T_X5_serve 26 _ _ _ rfl) rfl ?_
    obtain ⟨hg, H⟩ := grd_some H
    obtain ⟨t3, rfl, ht3⟩ := cartR_spec hg
    simp only [Nat.add_sub_cancel] at H
    obtain ⟨y5, h4, hq, H⟩ := bd_some H
    refine g_callVi (M' := M_X0_streetOf) (c := t3) (av := [.inl y2]) (st := []) (T_X5_serve 27 _ _ _ rfl) ml_X5_144 cb_X0_streetOf ht3.2.1 rfl (Nat.le_of_ble_eq_true rfl) (by omega) (R_X0_streetOf N t3 ht3 _ _ _ hq) ?_
    refine g_istore (T_X5_serve 28 _ _ _ rfl) (by decide) ?_
    refine g_aload_n (T_X5_serve 29 _ _ _ rfl) rfl ?_
    refine g_dup (T_X5_serve 30 _ _ _ rfl) ?_
    refine g_getI (c := 57) (T_X5_serve 31 _ _ _ rfl) fl_X5_66 rfl (Or.inl rfl) ?_
    refine g_iconst (T_X5_serve 32 _ _ _ rfl) ⟨by decide, by decide⟩ ?_
    refine g_iadd (T_X5_serve 33 _ _ _ rfl) ?_
    refine g_put (c := 57) (T_X5_serve 34 _ _ _ rfl) fl_X5_66 rfl (Or.inl rfl) ?_
    refine g_bndH H fun h6 H => ?_
    refine g_aload_n (T_X5_serve 35 _ _ _ rfl) rfl ?_
    refine g_getR (c := 57) (r := 65) (T_X5_serve 36 _ _ _ rfl) fl_X5_35 rfl (nR rfl) rfl (by decide) ?_
    refine g_iload_n (T_X5_serve 37 _ _ _ rfl) rfl ?_
    refine g_iload_n (T_X5_serve 38 _ _ _ rfl) rfl ?_
    obtain ⟨hg, H⟩ := grd_some H
    refine g_iast (c := 64) (T_X5_serve 39 _ _ _ rfl) rfl hg ?_
    refine g_bndH H fun h7 H => ?_
    refine g_aload_n (T_X5_serve 40 _ _ _ rfl) rfl ?_
    refine g_getR (c := 57) (r := 62) (T_X5_serve 41 _ _ _ rfl) fl_X5_26 rfl (nR rfl) rfl (by decide) ?_
    refine g_iload_n (T_X5_serve 42 _ _ _ rfl) rfl ?_
    refine g_iload (T_X5_serve 43 _ _ _ rfl) rfl ?_
    obtain ⟨hg, H⟩ := grd_some H
    refine g_iast (c := 61) (T_X5_serve 44 _ _ _ rfl) rfl hg ?_
    refine g_bndH H fun h8 H => ?_
    refine g_aload_n (T_X5_serve 45 _ _ _ rfl) rfl ?_
    refine g_getR (c := 57) (r := 12) (T_X5_serve 46 _ _ _ rfl) fl_X5_46 rfl (nR rfl) rfl (by decide) ?_
    refine g_iload_n (T_X5_serve 47 _ _ _ rfl) rfl ?_
    refine g_bipush (T_X5_serve 48 _ _ _ rfl) (by decide) ?_
    refine g_idiv (T_X5_serve 49 _ _ _ rfl) (by decide) ?_
    refine g_aload_n (T_X5_serve 50 _ _ _ rfl) rfl ?_
    refine g_getR (c := 57) (r := 2) (T_X5_serve 51 _ _ _ rfl) fl_X5_38 rfl (nR rfl) rfl (by decide) ?_
    obtain ⟨y10, h9, hq, H⟩ := bd_some H
    refine g_callVi (M' := M_X1_night) (c := 1) (av := []) (st := [.inl (idiv y1 60), .inr 12]) (T_X5_serve 52 _ _ _ rfl) ml_X5_111 cb_X1_night rfl rfl (Nat.le_of_ble_eq_true rfl) (by omega) (R_X1_night N _ _ hq) ?_
    refine g_iload_n (T_X5_serve 53 _ _ _ rfl) rfl ?_
    obtain ⟨h11, hq, H⟩ := bv_some H
    refine g_callVv (M' := M_X2_regardTime) (c := 11) (av := [.inl (idiv y1 60), .inl y10, .inl x1]) (st := []) (T_X5_serve 54 _ _ _ rfl) ml_X5_114 cb_X2_regardTime rfl rfl (Nat.le_of_ble_eq_true rfl) (by omega) (R_X2_regardTime N _ _ _ _ _ hq) ?_
    refine g_aload_n (T_X5_serve 55 _ _ _ rfl) rfl ?_
    refine g_bipush (T_X5_serve 56 _ _ _ rfl) (by decide) ?_
    refine g_iload (T_X5_serve 57 _ _ _ rfl) rfl ?_
    obtain ⟨y13, h12, hq, H⟩ := bd_some H
    refine g_callVi (M' := M_X5_askOf) (c := 57) (av := [.inl 117, .inl y5]) (st := []) (T_X5_serve 58 _ _ _ rfl) ml_X5_123 cb_X5_askOf rfl rfl (Nat.le_of_ble_eq_true rfl) (by omega) (R_X5_askOf N _ _ _ _ hq) ?_
    refine g_istore (T_X5_serve 59 _ _ _ rfl) (by decide) ?_
    refine g_aload_n (T_X5_serve 60 _ _ _ rfl) rfl ?_
    refine g_iload (T_X5_serve 61 _ _ _ rfl) rfl ?_
    obtain ⟨y15, h14, hq, H⟩ := bd_some H
    refine g_callVi (M' := M_X0_takesOnAt) (c := t3) (av := [.inl y2]) (st := []) (T_X5_serve 62 _ _ _ rfl) ml_X5_147 cb_X0_takesOnAt ht3.2.1 rfl (Nat.le_of_ble_eq_true rfl) (by omega) (R_X0_takesOnAt N t3 ht3 _ _ _ hq) ?_
    refine g_if_eq (tgt := 139) (T_X5_serve 63 _ _ _ rfl) (by decide) (fun cc => ?_) (fun cc => ?_)
    · replace H := ite_p cc H
      refine g_aload_n (T_X5_serve 79 _ _ _ rfl) rfl ?_
      refine g_iload_n (T_X5_serve 80 _ _ _ rfl) rfl ?_
      refine g_iload (T_X5_serve 81 _ _ _ rfl) rfl ?_
      refine g_aload_n (T_X5_serve 82 _ _ _ rfl) rfl ?_
      refine g_iload (T_X5_serve 83 _ _ _ rfl) rfl ?_
      obtain ⟨y17, h16, hq, H⟩ := bd_some H
      refine g_callVi (M' := M_X0_yardsOf) (c := t3) (av := [.inl y2]) (st := [.inl y5, .inl x1, .inr 58]) (T_X5_serve 84 _ _ _ rfl) ml_X5_150 cb_X0_yardsOf ht3.2.1 rfl (Nat.le_of_ble_eq_true rfl) (by omega) (R_X0_yardsOf N t3 ht3 _ _ _ hq) ?_
      refine g_aload_n (T_X5_serve 85 _ _ _ rfl) rfl ?_
      refine g_getR (c := 57) (r := 64) (T_X5_serve 86 _ _ _ rfl) fl_X5_32 rfl (nR rfl) rfl (by decide) ?_
      refine g_iload_n (T_X5_serve 87 _ _ _ rfl) rfl ?_
      obtain ⟨hg, H⟩ := grd_some H
      refine g_iald (c := 63) (T_X5_serve 88 _ _ _ rfl) rfl hg ?_
      refine g_min (st := [.inl y5, .inl x1, .inr 58]) (T_X5_serve 89 _ _ _ rfl) ml_X5_126 wmin (Nat.le_of_ble_eq_true rfl) (by omega) ?_
      obtain ⟨y19, h18, hq, H⟩ := bd_some H
      refine g_callVi (M' := M_X5_leave) (c := 57) (av := [.inl x1, .inl y5, .inl (imin y17 (h16 63 x1.toNat))]) (st := []) (T_X5_serve 90 _ _ _ rfl) ml_X5_159 cb_X5_leave rfl rfl (Nat.le_of_ble_eq_true rfl) (by omega) (R_X5_leave N _ _ _ _ _ hq) ?_
      refine g_weak [true, true, false, true, true, false, true, false] ?_
      exact R_J_X5_serve_161 N   _ _ _ _ _ _ _ H
    · replace H := ite_n cc H
      refine g_aload_n (T_X5_serve 64 _ _ _ rfl) rfl ?_
      refine g_iload_n (T_X5_serve 65 _ _ _ rfl) rfl ?_
      refine g_aload_n (T_X5_serve 66 _ _ _ rfl) rfl ?_
      refine g_iload (T_X5_serve 67 _ _ _ rfl) rfl ?_
      obtain ⟨y21, h20, hq, H⟩ := bd_some H
      refine g_callVi (M' := M_X0_yardsOf) (c := t3) (av := [.inl y2]) (st := [.inl x1, .inr 58]) (T_X5_serve 68 _ _ _ rfl) ml_X5_150 cb_X0_yardsOf ht3.2.1 rfl (Nat.le_of_ble_eq_true rfl) (by omega) (R_X0_yardsOf N t3 ht3 _ _ _ hq) ?_
      refine g_aload_n (T_X5_serve 69 _ _ _ rfl) rfl ?_
      obtain ⟨y23, h22, hq, H⟩ := bd_some H
      refine g_callVi (M' := M_X0_room) (c := t3) (av := []) (st := [.inl y21, .inl x1, .inr 58]) (T_X5_serve 70 _ _ _ rfl) ml_X5_153 cb_X0_room ht3.2.1 rfl (Nat.le_of_ble_eq_true rfl) (by omega) (R_X0_room N t3 ht3 _ _ hq) ?_
      refine g_aload_n (T_X5_serve 71 _ _ _ rfl) rfl ?_
      refine g_getR (c := 57) (r := 64) (T_X5_serve 72 _ _ _ rfl) fl_X5_32 rfl (nR rfl) rfl (by decide) ?_
      refine g_iload_n (T_X5_serve 73 _ _ _ rfl) rfl ?_
      obtain ⟨hg, H⟩ := grd_some H
      refine g_iald (c := 63) (T_X5_serve 74 _ _ _ rfl) rfl hg ?_
      refine g_isub (T_X5_serve 75 _ _ _ rfl) ?_
      refine g_min (st := [.inl x1, .inr 58]) (T_X5_serve 76 _ _ _ rfl) ml_X5_126 wmin (Nat.le_of_ble_eq_true rfl) (by omega) ?_
      obtain ⟨y25, h24, hq, H⟩ := bd_some H
      refine g_callVi (M' := M_X5_takeOn) (c := 57) (av := [.inl x1, .inl (imin y21 (w32 (y23 - (h22 63 x1.toNat))))]) (st := []) (T_X5_serve 77 _ _ _ rfl) ml_X5_156 cb_X5_takeOn rfl rfl (Nat.le_of_ble_eq_true rfl) (by omega) (R_X5_takeOn N _ _ _ _ hq) ?_
      refine g_goto (tgt := 161) (T_X5_serve 78 _ _ _ rfl) (by decide) ?_
      refine g_weak [true, true, false, true, true, false, true, false] ?_
      exact R_J_X5_serve_161 N   _ _ _ _ _ _ _ H
  · replace H := ite_p cc H
    exact g_vret (T_X5_serve 14 _ _ _ rfl) rfl (qv_of H)
def F_X5_serve (N : Nat) (x1 : Int) (h : Hp) : Option (Hp) :=
  bd (F_X11_isWithin N x1 0 4 h) fun y2 h1 =>
  if y2 = 0 then
    J_X5_serve_19 N  x1 0 h1
  else
  grd (0 ≤ x1 ∧ x1 < 5 ∧ (h1 59 x1.toNat).toNat ≤ 1000) <|
  bnd ((h1 59 x1.toNat).toNat) fun z3 =>
  J_X5_serve_19 N  x1 z3 h1
set_option maxRecDepth 100000 in
set_option maxHeartbeats 4000000 in
theorem R_X5_serve (N : Nat) (x1 : Int) (h : Hp) (res : Hp) (H : F_X5_serve N x1 h = some res) : Runs M_X5_serve 5 [.inr 58, .inl x1] h (Qv res) := by
  refine Runs.of rfl (Nat.le_of_ble_eq_true rfl) ?_
  show Go M_X5_serve 5 0 [some (.inr 58), some (.inl x1), none, none, none, none, none, none] [] h (Qv res)
  unfold F_X5_serve at H
  refine g_iload_n (T_X5_serve 0 _ _ _ rfl) rfl ?_
  refine g_iconst (T_X5_serve 1 _ _ _ rfl) ⟨by decide, by decide⟩ ?_
  refine g_iconst (T_X5_serve 2 _ _ _ rfl) ⟨by decide, by decide⟩ ?_
  obtain ⟨y2, h1, hq, H⟩ := bd_some H
  refine g_callSNi (M' := M_X11_isWithin) (av := [.inl x1, .inl 0, .inl 4]) (st := []) (T_X5_serve 3 _ _ _ rfl) ml_X5_69 cb_X11_isWithin rfl (Nat.le_of_ble_eq_true rfl) (by omega) (R_X11_isWithin N _ _ _ _ _ hq) ?_
  refine g_if_eq (tgt := 18) (T_X5_serve 4 _ _ _ rfl) (by decide) (fun cc => ?_) (fun cc => ?_)
  · replace H := ite_p cc H
    refine g_null (T_X5_serve 10 _ _ _ rfl) ?_
    refine g_weak [true, true, false, false, false, false, false, false] ?_
    exact R_J_X5_serve_19 N   _ _ _ _ H
  · replace H := ite_n cc H
    refine g_aload_n (T_X5_serve 5 _ _ _ rfl) rfl ?_
    refine g_getR (c := 57) (r := 60) (T_X5_serve 6 _ _ _ rfl) fl_X5_19 rfl (nR rfl) rfl (by decide) ?_
    refine g_iload_n (T_X5_serve 7 _ _ _ rfl) rfl ?_
    obtain ⟨hg, H⟩ := grd_some H
    refine g_aald (c := 59) (T_X5_serve 8 _ _ _ rfl) rfl ⟨hg.1, hg.2.1⟩ hg.2.2 ?_
    refine g_bndR H fun z3 H => ?_
    refine g_goto (tgt := 19) (T_X5_serve 9 _ _ _ rfl) (by decide) ?_
    refine g_weak [true, true, false, false, false, false, false, false] ?_
    exact R_J_X5_serve_19 N   _ _ _ _ H
def L_X5_serveBefore_2 (N : Nat) : Nat → Int → Int → Hp → Option (Hp)
  | 0, _, _, _ => none
  | n + 1, x1, x2, h =>
    if 80 ≤ x2 then
      some h
    else
    bd (F_X5_earliestCart N h) fun y2 h1 =>
    grd (0 ≤ y2 ∧ y2 < 5) <|
    if (h1 62 y2.toNat) < x1 then
      bv (F_X5_serve N y2 h1) fun h3 =>
      bnd (w32 (x2 + 1)) fun y4 =>
      (L_X5_serveBefore_2 N n) x1 y4 h3
    else
    some h1
set_option maxRecDepth 100000 in
set_option maxHeartbeats 4000000 in
theorem R_L_X5_serveBefore_2 (N : Nat) : ∀ (n : Nat) (x1 : Int) (x2 : Int) (h : Hp) (res : Hp), L_X5_serveBefore_2 N n x1 x2 h = some res → Go M_X5_serveBefore 6 2 [some (.inr 58), some (.inl x1), some (.inl x2), none] [] h (Qv res)
  | 0, _, _, _, _, H => by cases H
  | n + 1, x1, x2, h, res, H => by
    have ih := R_L_X5_serveBefore_2 N n
    simp only [L_X5_serveBefore_2] at H
    refine g_iload_n (T_X5_serveBefore 2 _ _ _ rfl) rfl ?_
    refine g_bipush (T_X5_serveBefore 3 _ _ _ rfl) (by decide) ?_
    refine g_icmp_ge (tgt := 35) (T_X5_serveBefore 4 _ _ _ rfl) (by decide) (fun cc => ?_) (fun cc => ?_)
    · replace H := ite_p cc H
      exact g_vret (T_X5_serveBefore 20 _ _ _ rfl) rfl (qv_of H)
    · replace H := ite_n cc H
      refine g_aload_n (T_X5_serveBefore 5 _ _ _ rfl) rfl ?_
      obtain ⟨y2, h1, hq, H⟩ := bd_some H
      refine g_callVi (M' := M_X5_earliestCart) (c := 57) (av := []) (st := []) (T_X5_serveBefore 6 _ _ _ rfl) ml_X5_104 cb_X5_earliestCart rfl rfl (Nat.le_of_ble_eq_true rfl) (by omega) (R_X5_earliestCart N _ _ hq) ?_
      refine g_istore_n (T_X5_serveBefore 7 _ _ _ rfl) (by decide) ?_
      refine g_aload_n (T_X5_serveBefore 8 _ _ _ rfl) rfl ?_
      refine g_getR (c := 57) (r := 63) (T_X5_serveBefore 9 _ _ _ rfl) fl_X5_29 rfl (nR rfl) rfl (by decide) ?_
      refine g_iload_n (T_X5_serveBefore 10 _ _ _ rfl) rfl ?_
      obtain ⟨hg, H⟩ := grd_some H
      refine g_iald (c := 62) (T_X5_serveBefore 11 _ _ _ rfl) rfl hg ?_
      refine g_iload_n (T_X5_serveBefore 12 _ _ _ rfl) rfl ?_
      refine g_icmp_lt (tgt := 24) (T_X5_serveBefore 13 _ _ _ rfl) (by decide) (fun cc => ?_) (fun cc => ?_)
      · replace H := ite_p cc H
        refine g_aload_n (T_X5_serveBefore 15 _ _ _ rfl) rfl ?_
        refine g_iload_n (T_X5_serveBefore 16 _ _ _ rfl) rfl ?_
        obtain ⟨h3, hq, H⟩ := bv_some H
        refine g_callVv (M' := M_X5_serve) (c := 57) (av := [.inl y2]) (st := []) (T_X5_serveBefore 17 _ _ _ rfl) ml_X5_141 cb_X5_serve rfl rfl (Nat.le_of_ble_eq_true rfl) (by omega) (R_X5_serve N _ _ _ hq) ?_
        refine g_iincB (T_X5_serveBefore 18 _ _ _ rfl) rfl (by decide) H fun y4 H => ?_
        refine g_goto (tgt := 2) (T_X5_serveBefore 19 _ _ _ rfl) (by decide) ?_
        refine g_weak [true, true, true, false] ?_
        exact ih _ _ _ _ H
      · replace H := ite_n cc H
        exact g_vret (T_X5_serveBefore 14 _ _ _ rfl) rfl (qv_of H)
def F_X5_serveBefore (N : Nat) (x1 : Int) (h : Hp) : Option (Hp) :=
  L_X5_serveBefore_2 N  N x1 0 h
set_option maxRecDepth 100000 in
set_option maxHeartbeats 4000000 in
theorem R_X5_serveBefore (N : Nat) (x1 : Int) (h : Hp) (res : Hp) (H : F_X5_serveBefore N x1 h = some res) : Runs M_X5_serveBefore 6 [.inr 58, .inl x1] h (Qv res) := by
  refine Runs.of rfl (Nat.le_of_ble_eq_true rfl) ?_
  show Go M_X5_serveBefore 6 0 [some (.inr 58), some (.inl x1), none, none] [] h (Qv res)
  unfold F_X5_serveBefore at H
  refine g_iconst (T_X5_serveBefore 0 _ _ _ rfl) ⟨by decide, by decide⟩ ?_
  refine g_istore_n (T_X5_serveBefore 1 _ _ _ rfl) (by decide) ?_
  refine g_weak [true, true, true, false] ?_
  refine R_L_X5_serveBefore_2 N   _ _ _ _ _ H
def F_X5_lose (N : Nat) (x1 : Int) (x2 : Int) (h : Hp) : Option (Int × Hp) :=
  bd (F_X5_depthOf N x2 h) fun y2 h1 =>
  bd (F_X5_askOf N x1 x2 h1) fun y4 h3 =>
  bnd ((imin y2 y4)) fun y5 =>
  bd (F_X11_isWithin N x2 0 13 h3) fun y7 h6 =>
  if y7 = 0 then
    some (y5, h6)
  else
  grd (0 ≤ x2 ∧ x2 < 14) <|
  grd (0 ≤ x2 ∧ x2 < 14) <|
  bnd (hw h6 58 x2.toNat (w32 ((h6 58 x2.toNat) - y5))) fun h8 =>
  some (y5, h8)
set_option maxRecDepth 100000 in
set_option maxHeartbeats 4000000 in
theorem R_X5_lose (N : Nat) (x1 : Int) (x2 : Int) (h : Hp) (res : Int × Hp) (H : F_X5_lose N x1 x2 h = some res) : Runs M_X5_lose 5 [.inr 58, .inl x1, .inl x2] h (Qi res) := by
  refine Runs.of rfl (Nat.le_of_ble_eq_true rfl) ?_
  show Go M_X5_lose 5 0 [some (.inr 58), some (.inl x1), some (.inl x2), none] [] h (Qi res)
  unfold F_X5_lose at H
  refine g_aload_n (T_X5_lose 0 _ _ _ rfl) rfl ?_
  refine g_iload_n (T_X5_lose 1 _ _ _ rfl) rfl ?_
  obtain ⟨y2, h1, hq, H⟩ := bd_some H
  refine g_callVi (M' := M_X5_depthOf) (c := 57) (av := [.inl x2]) (st := []) (T_X5_lose 2 _ _ _ rfl) ml_X5_108 cb_X5_depthOf rfl rfl (Nat.le_of_ble_eq_true rfl) (by omega) (R_X5_depthOf N _ _ _ hq) ?_
  refine g_aload_n (T_X5_lose 3 _ _ _ rfl) rfl ?_
  refine g_iload_n (T_X5_lose 4 _ _ _ rfl) rfl ?_
  refine g_iload_n (T_X5_lose 5 _ _ _ rfl) rfl ?_
  obtain ⟨y4, h3, hq, H⟩ := bd_some H
  refine g_callVi (M' := M_X5_askOf) (c := 57) (av := [.inl x1, .inl x2]) (st := [.inl y2]) (T_X5_lose 6 _ _ _ rfl) ml_X5_123 cb_X5_askOf rfl rfl (Nat.le_of_ble_eq_true rfl) (by omega) (R_X5_askOf N _ _ _ _ hq) ?_
  refine g_min (st := []) (T_X5_lose 7 _ _ _ rfl) ml_X5_126 wmin (Nat.le_of_ble_eq_true rfl) (by omega) ?_
  refine g_bndI H fun y5 H => ?_
  refine g_istore_n (T_X5_lose 8 _ _ _ rfl) (by decide) ?_
  refine g_iload_n (T_X5_lose 9 _ _ _ rfl) rfl ?_
  refine g_iconst (T_X5_lose 10 _ _ _ rfl) ⟨by decide, by decide⟩ ?_
  refine g_bipush (T_X5_lose 11 _ _ _ rfl) (by decide) ?_
  obtain ⟨y7, h6, hq, H⟩ := bd_some H
  refine g_callSNi (M' := M_X11_isWithin) (av := [.inl x2, .inl 0, .inl 13]) (st := []) (T_X5_lose 12 _ _ _ rfl) ml_X5_69 cb_X11_isWithin rfl (Nat.le_of_ble_eq_true rfl) (by omega) (R_X11_isWithin N _ _ _ _ _ hq) ?_
  refine g_if_eq (tgt := 35) (T_X5_lose 13 _ _ _ rfl) (by decide) (fun cc => ?_) (fun cc => ?_)
  · replace H := ite_p cc H
    refine g_iload_n (T_X5_lose 22 _ _ _ rfl) rfl ?_
    exact g_iret (T_X5_lose 23 _ _ _ rfl) rfl (qi_of H)
  · replace H := ite_n cc H
    refine g_aload_n (T_X5_lose 14 _ _ _ rfl) rfl ?_
    refine g_getR (c := 57) (r := 59) (T_X5_lose 15 _ _ _ rfl) fl_X5_11 rfl (nR rfl) rfl (by decide) ?_
    refine g_iload_n (T_X5_lose 16 _ _ _ rfl) rfl ?_
    refine g_dup2 (T_X5_lose 17 _ _ _ rfl) ?_
    obtain ⟨hg, H⟩ := grd_some H
    refine g_iald (c := 58) (T_X5_lose 18 _ _ _ rfl) rfl hg ?_
    refine g_iload_n (T_X5_lose 19 _ _ _ rfl) rfl ?_
    refine g_isub (T_X5_lose 20 _ _ _ rfl) ?_
    obtain ⟨hg, H⟩ := grd_some H
    refine g_iast (c := 58) (T_X5_lose 21 _ _ _ rfl) rfl hg ?_
    refine g_bndH H fun h8 H => ?_
    refine g_iload_n (T_X5_lose 22 _ _ _ rfl) rfl ?_
    exact g_iret (T_X5_lose 23 _ _ _ rfl) rfl (qi_of H)
def F_X5_sleepsAfter (N : Nat) (x1 : Int) (x2 : Int) (h : Hp) : Option (Int × Hp) :=
  bd (F_X5_depthOf N x2 h) fun y2 h1 =>
  if y2 = 0 then
    some (0, h1)
  else
  bd (F_X1_night N h1) fun y4 h3 =>
  bv (F_X2_regardTime N x1 y4 0 h3) fun h5 =>
  bd (F_X5_lose N 119 x2 h5) fun y7 h6 =>
  bnd (hw h6 57 12 (w32 ((h5 57 12) + y7))) fun h8 =>
  bd (F_X5_lose N 99 x2 h8) fun y10 h9 =>
  bnd (hw h9 57 13 (w32 ((h8 57 13) + y10))) fun h11 =>
  bd (F_X5_depthOf N x2 h11) fun y13 h12 =>
  if y13 ≤ 0 then
    some (0, h12)
  else
  bd (F_X5_depthOf N x2 h12) fun y15 h14 =>
  bd (F_X5_askOf N 115 x2 h14) fun y17 h16 =>
  if y15 < y17 then
    some (0, h16)
  else
  some (1, h16)
set_option maxRecDepth 100000 in
set_option maxHeartbeats 4000000 in
theorem R_X5_sleepsAfter (N : Nat) (x1 : Int) (x2 : Int) (h : Hp) (res : Int × Hp) (H : F_X5_sleepsAfter N x1 x2 h = some res) : Runs M_X5_sleepsAfter 6 [.inr 58, .inl x1, .inl x2] h (Qi res) := by
  refine Runs.of rfl (Nat.le_of_ble_eq_true rfl) ?_
  show Go M_X5_sleepsAfter 6 0 [some (.inr 58), some (.inl x1), some (.inl x2)] [] h (Qi res)
  unfold F_X5_sleepsAfter at H
  refine g_aload_n (T_X5_sleepsAfter 0 _ _ _ rfl) rfl ?_
  refine g_iload_n (T_X5_sleepsAfter 1 _ _ _ rfl) rfl ?_
  obtain ⟨y2, h1, hq, H⟩ := bd_some H
  refine g_callVi (M' := M_X5_depthOf) (c := 57) (av := [.inl x2]) (st := []) (T_X5_sleepsAfter 2 _ _ _ rfl) ml_X5_108 cb_X5_depthOf rfl rfl (Nat.le_of_ble_eq_true rfl) (by omega) (R_X5_depthOf N _ _ _ hq) ?_
  refine g_if_ne (tgt := 10) (T_X5_sleepsAfter 3 _ _ _ rfl) (by decide) (fun cc => ?_) (fun cc => ?_)
  · replace H := ite_n cc H
    refine g_aload_n (T_X5_sleepsAfter 6 _ _ _ rfl) rfl ?_
    refine g_getR (c := 57) (r := 12) (T_X5_sleepsAfter 7 _ _ _ rfl) fl_X5_46 rfl (nR rfl) rfl (by decide) ?_
    refine g_iload_n (T_X5_sleepsAfter 8 _ _ _ rfl) rfl ?_
    refine g_aload_n (T_X5_sleepsAfter 9 _ _ _ rfl) rfl ?_
    refine g_getR (c := 57) (r := 2) (T_X5_sleepsAfter 10 _ _ _ rfl) fl_X5_38 rfl (nR rfl) rfl (by decide) ?_
    obtain ⟨y4, h3, hq, H⟩ := bd_some H
    refine g_callVi (M' := M_X1_night) (c := 1) (av := []) (st := [.inl x1, .inr 12]) (T_X5_sleepsAfter 11 _ _ _ rfl) ml_X5_111 cb_X1_night rfl rfl (Nat.le_of_ble_eq_true rfl) (by omega) (R_X1_night N _ _ hq) ?_
    refine g_iconst (T_X5_sleepsAfter 12 _ _ _ rfl) ⟨by decide, by decide⟩ ?_
    obtain ⟨h5, hq, H⟩ := bv_some H
    refine g_callVv (M' := M_X2_regardTime) (c := 11) (av := [.inl x1, .inl y4, .inl 0]) (st := []) (T_X5_sleepsAfter 13 _ _ _ rfl) ml_X5_114 cb_X2_regardTime rfl rfl (Nat.le_of_ble_eq_true rfl) (by omega) (R_X2_regardTime N _ _ _ _ _ hq) ?_
    refine g_aload_n (T_X5_sleepsAfter 14 _ _ _ rfl) rfl ?_
    refine g_dup (T_X5_sleepsAfter 15 _ _ _ rfl) ?_
    refine g_getI (c := 57) (T_X5_sleepsAfter 16 _ _ _ rfl) fl_X5_57 rfl (Or.inl rfl) ?_
    refine g_aload_n (T_X5_sleepsAfter 17 _ _ _ rfl) rfl ?_
    refine g_bipush (T_X5_sleepsAfter 18 _ _ _ rfl) (by decide) ?_
    refine g_iload_n (T_X5_sleepsAfter 19 _ _ _ rfl) rfl ?_
    obtain ⟨y7, h6, hq, H⟩ := bd_some H
    refine g_callVi (M' := M_X5_lose) (c := 57) (av := [.inl 119, .inl x2]) (st := [.inl (h5 57 12), .inr 58]) (T_X5_sleepsAfter 20 _ _ _ rfl) ml_X5_119 cb_X5_lose rfl rfl (Nat.le_of_ble_eq_true rfl) (by omega) (R_X5_lose N _ _ _ _ hq) ?_
    refine g_iadd (T_X5_sleepsAfter 21 _ _ _ rfl) ?_
    refine g_put (c := 57) (T_X5_sleepsAfter 22 _ _ _ rfl) fl_X5_57 rfl (Or.inl rfl) ?_
    refine g_bndH H fun h8 H => ?_
    refine g_aload_n (T_X5_sleepsAfter 23 _ _ _ rfl) rfl ?_
    refine g_dup (T_X5_sleepsAfter 24 _ _ _ rfl) ?_
    refine g_getI (c := 57) (T_X5_sleepsAfter 25 _ _ _ rfl) fl_X5_60 rfl (Or.inl rfl) ?_
    refine g_aload_n (T_X5_sleepsAfter 26 _ _ _ rfl) rfl ?_
    refine g_bipush (T_X5_sleepsAfter 27 _ _ _ rfl) (by decide) ?_
    refine g_iload_n (T_X5_sleepsAfter 28 _ _ _ rfl) rfl ?_
    obtain ⟨y10, h9, hq, H⟩ := bd_some H
    refine g_callVi (M' := M_X5_lose) (c := 57) (av := [.inl 99, .inl x2]) (st := [.inl (h8 57 13), .inr 58]) (T_X5_sleepsAfter 29 _ _ _ rfl) ml_X5_119 cb_X5_lose rfl rfl (Nat.le_of_ble_eq_true rfl) (by omega) (R_X5_lose N _ _ _ _ hq) ?_
    refine g_iadd (T_X5_sleepsAfter 30 _ _ _ rfl) ?_
    refine g_put (c := 57) (T_X5_sleepsAfter 31 _ _ _ rfl) fl_X5_60 rfl (Or.inl rfl) ?_
    refine g_bndH H fun h11 H => ?_
    refine g_aload_n (T_X5_sleepsAfter 32 _ _ _ rfl) rfl ?_
    refine g_iload_n (T_X5_sleepsAfter 33 _ _ _ rfl) rfl ?_
    obtain ⟨y13, h12, hq, H⟩ := bd_some H
    refine g_callVi (M' := M_X5_depthOf) (c := 57) (av := [.inl x2]) (st := []) (T_X5_sleepsAfter 34 _ _ _ rfl) ml_X5_108 cb_X5_depthOf rfl rfl (Nat.le_of_ble_eq_true rfl) (by omega) (R_X5_depthOf N _ _ _ hq) ?_
    refine g_if_le (tgt := 85) (T_X5_sleepsAfter 35 _ _ _ rfl) (by decide) (fun cc => ?_) (fun cc => ?_)
    · replace H := ite_p cc H
      refine g_iconst (T_X5_sleepsAfter 46 _ _ _ rfl) ⟨by decide, by decide⟩ ?_
      exact g_zret (T_X5_sleepsAfter 47 _ _ _ rfl) rfl (by decide) (qi_of H)
    · replace H := ite_n cc H
      refine g_aload_n (T_X5_sleepsAfter 36 _ _ _ rfl) rfl ?_
      refine g_iload_n (T_X5_sleepsAfter 37 _ _ _ rfl) rfl ?_
      obtain ⟨y15, h14, hq, H⟩ := bd_some H
      refine g_callVi (M' := M_X5_depthOf) (c := 57) (av := [.inl x2]) (st := []) (T_X5_sleepsAfter 38 _ _ _ rfl) ml_X5_108 cb_X5_depthOf rfl rfl (Nat.le_of_ble_eq_true rfl) (by omega) (R_X5_depthOf N _ _ _ hq) ?_
      refine g_aload_n (T_X5_sleepsAfter 39 _ _ _ rfl) rfl ?_
      refine g_bipush (T_X5_sleepsAfter 40 _ _ _ rfl) (by decide) ?_
      refine g_iload_n (T_X5_sleepsAfter 41 _ _ _ rfl) rfl ?_
      obtain ⟨y17, h16, hq, H⟩ := bd_some H
      refine g_callVi (M' := M_X5_askOf) (c := 57) (av := [.inl 115, .inl x2]) (st := [.inl y15]) (T_X5_sleepsAfter 42 _ _ _ rfl) ml_X5_123 cb_X5_askOf rfl rfl (Nat.le_of_ble_eq_true rfl) (by omega) (R_X5_askOf N _ _ _ _ hq) ?_
      refine g_icmp_lt (tgt := 85) (T_X5_sleepsAfter 43 _ _ _ rfl) (by decide) (fun cc => ?_) (fun cc => ?_)
      · replace H := ite_p cc H
        refine g_iconst (T_X5_sleepsAfter 46 _ _ _ rfl) ⟨by decide, by decide⟩ ?_
        exact g_zret (T_X5_sleepsAfter 47 _ _ _ rfl) rfl (by decide) (qi_of H)
      · replace H := ite_n cc H
        refine g_iconst (T_X5_sleepsAfter 44 _ _ _ rfl) ⟨by decide, by decide⟩ ?_
        refine g_goto (tgt := 86) (T_X5_sleepsAfter 45 _ _ _ rfl) (by decide) ?_
        exact g_zret (T_X5_sleepsAfter 47 _ _ _ rfl) rfl (by decide) (qi_of H)
  · replace H := ite_p cc H
    refine g_iconst (T_X5_sleepsAfter 4 _ _ _ rfl) ⟨by decide, by decide⟩ ?_
    exact g_zret (T_X5_sleepsAfter 5 _ _ _ rfl) rfl (by decide) (qi_of H)
def L_X5_goThrough_84 (N : Nat) : Nat → Int → Hp → Option (Hp)
  | 0, _, _ => none
  | n + 1, x1, h =>
    if 14 ≤ x1 then
      some h
    else
    grd (0 ≤ x1 ∧ x1 < 14) <|
    bnd (hw h 57 11 (w32 ((h 57 11) + (h 58 x1.toNat)))) fun h1 =>
    bnd (w32 (x1 + 1)) fun y2 =>
    (L_X5_goThrough_84 N n) y2 h1
set_option maxRecDepth 100000 in
set_option maxHeartbeats 4000000 in
theorem R_L_X5_goThrough_84 (N : Nat) : ∀ (n : Nat) (x1 : Int) (h : Hp) (res : Hp), L_X5_goThrough_84 N n x1 h = some res → Go M_X5_goThrough 7 84 [some (.inr 58), some (.inl x1), none] [] h (Qv res)
  | 0, _, _, _, H => by cases H
  | n + 1, x1, h, res, H => by
    have ih := R_L_X5_goThrough_84 N n
    simp only [L_X5_goThrough_84] at H
    refine g_iload_n (T_X5_goThrough 45 _ _ _ rfl) rfl ?_
    refine g_bipush (T_X5_goThrough 46 _ _ _ rfl) (by decide) ?_
    refine g_icmp_ge (tgt := 111) (T_X5_goThrough 47 _ _ _ rfl) (by decide) (fun cc => ?_) (fun cc => ?_)
    · replace H := ite_p cc H
      exact g_vret (T_X5_goThrough 59 _ _ _ rfl) rfl (qv_of H)
    · replace H := ite_n cc H
      refine g_aload_n (T_X5_goThrough 48 _ _ _ rfl) rfl ?_
      refine g_dup (T_X5_goThrough 49 _ _ _ rfl) ?_
      refine g_getI (c := 57) (T_X5_goThrough 50 _ _ _ rfl) fl_X5_54 rfl (Or.inl rfl) ?_
      refine g_aload_n (T_X5_goThrough 51 _ _ _ rfl) rfl ?_
      refine g_getR (c := 57) (r := 59) (T_X5_goThrough 52 _ _ _ rfl) fl_X5_11 rfl (nR rfl) rfl (by decide) ?_
      refine g_iload_n (T_X5_goThrough 53 _ _ _ rfl) rfl ?_
      obtain ⟨hg, H⟩ := grd_some H
      refine g_iald (c := 58) (T_X5_goThrough 54 _ _ _ rfl) rfl hg ?_
      refine g_iadd (T_X5_goThrough 55 _ _ _ rfl) ?_
      refine g_put (c := 57) (T_X5_goThrough 56 _ _ _ rfl) fl_X5_54 rfl (Or.inl rfl) ?_
      refine g_bndH H fun h1 H => ?_
      refine g_iincB (T_X5_goThrough 57 _ _ _ rfl) rfl (by decide) H fun y2 H => ?_
      refine g_goto (tgt := 84) (T_X5_goThrough 58 _ _ _ rfl) (by decide) ?_
      refine g_weak [true, true, false] ?_
      exact ih _ _ _ H
def J_X5_goThrough_70 (N : Nat) (k27 : Int → Int → Hp → Option (Hp)) (x1 : Int) (x2 : Int) (h : Hp) : Option (Hp) :=
  bnd (w32 (x2 + 1)) fun y1 =>
  k27 x1 y1 h
set_option maxRecDepth 100000 in
set_option maxHeartbeats 4000000 in
theorem R_J_X5_goThrough_70 (N : Nat) (k27 : Int → Int → Hp → Option (Hp)) (hk27 : ∀ (x1 : Int) (x2 : Int) (h : Hp) (res : Hp), k27 x1 x2 h = some res → Go M_X5_goThrough 7 27 [some (.inr 58), some (.inl x1), some (.inl x2)] [] h (Qv res)) (x1 : Int) (x2 : Int) (h : Hp) (res : Hp) (H : J_X5_goThrough_70 N k27 x1 x2 h = some res) : Go M_X5_goThrough 7 70 [some (.inr 58), some (.inl x1), some (.inl x2)] [] h (Qv res) := by
  unfold J_X5_goThrough_70 at H
  refine g_iincB (T_X5_goThrough 39 _ _ _ rfl) rfl (by decide) H fun y1 H => ?_
  refine g_goto (tgt := 27) (T_X5_goThrough 40 _ _ _ rfl) (by decide) ?_
  refine g_weak [true, true, true] ?_
  exact hk27 _ _ _ _ H
def L_X5_goThrough_27 (N : Nat) (k76 : Int → Hp → Option (Hp)) : Nat → Int → Int → Hp → Option (Hp)
  | 0, _, _, _ => none
  | n + 1, x1, x2, h =>
    if 14 ≤ x2 then
      k76 x1 h
    else
    bd (F_X1_isTold N x2 h) fun y2 h1 =>
    if y2 = 0 then
      J_X5_goThrough_70 N (L_X5_goThrough_27 N k76 n) x1 x2 h1
    else
    bd (F_X5_sleepsAfter N x1 x2 h1) fun y4 h3 =>
    if y4 = 0 then
      J_X5_goThrough_70 N (L_X5_goThrough_27 N k76 n) x1 x2 h3
    else
    bd (F_X1_housesOf N x2 h3) fun y6 h5 =>
    bnd (hw h5 57 10 (w32 ((h3 57 10) + y6))) fun h7 =>
    J_X5_goThrough_70 N (L_X5_goThrough_27 N k76 n) x1 x2 h7
set_option maxRecDepth 100000 in
set_option maxHeartbeats 4000000 in
theorem R_L_X5_goThrough_27 (N : Nat) (k76 : Int → Hp → Option (Hp)) (hk76 : ∀ (x1 : Int) (h : Hp) (res : Hp), k76 x1 h = some res → Go M_X5_goThrough 7 76 [some (.inr 58), some (.inl x1), none] [] h (Qv res)) : ∀ (n : Nat) (x1 : Int) (x2 : Int) (h : Hp) (res : Hp), L_X5_goThrough_27 N k76 n x1 x2 h = some res → Go M_X5_goThrough 7 27 [some (.inr 58), some (.inl x1), some (.inl x2)] [] h (Qv res)
  | 0, _, _, _, _, H => by cases H
  | n + 1, x1, x2, h, res, H => by
    have ih := R_L_X5_goThrough_27 N k76 hk76 n
    simp only [L_X5_goThrough_27] at H
    refine g_iload_n (T_X5_goThrough 17 _ _ _ rfl) rfl ?_
    refine g_bipush (T_X5_goThrough 18 _ _ _ rfl) (by decide) ?_
    refine g_icmp_ge (tgt := 76) (T_X5_goThrough 19 _ _ _ rfl) (by decide) (fun cc => ?_) (fun cc => ?_)
    · replace H := ite_p cc H
      refine g_weak [true, true, false] ?_
      exact hk76 _ _ _ H
    · replace H := ite_n cc H
      refine g_aload_n (T_X5_goThrough 20 _ _ _ rfl) rfl ?_
      refine g_getR (c := 57) (r := 2) (T_X5_goThrough 21 _ _ _ rfl) fl_X5_38 rfl (nR rfl) rfl (by decide) ?_
      refine g_iload_n (T_X5_goThrough 22 _ _ _ rfl) rfl ?_
      obtain ⟨y2, h1, hq, H⟩ := bd_some H
      refine g_callVi (M' := M_X1_isTold) (c := 1) (av := [.inl x2]) (st := []) (T_X5_goThrough 23 _ _ _ rfl) ml_X5_92 cb_X1_isTold rfl rfl (Nat.le_of_ble_eq_true rfl) (by omega) (R_X1_isTold N _ _ _ hq) ?_
      refine g_if_eq (tgt := 70) (T_X5_goThrough 24 _ _ _ rfl) (by decide) (fun cc => ?_) (fun cc => ?_)
      · replace H := ite_p cc H
        refine g_weak [true, true, true] ?_
        exact R_J_X5_goThrough_70 N (L_X5_goThrough_27 N k76 n) ih _ _ _ _ H
      · replace H := ite_n cc H
        refine g_aload_n (T_X5_goThrough 25 _ _ _ rfl) rfl ?_
        refine g_iload_n (T_X5_goThrough 26 _ _ _ rfl) rfl ?_
        refine g_iload_n (T_X5_goThrough 27 _ _ _ rfl) rfl ?_
        obtain ⟨y4, h3, hq, H⟩ := bd_some H
        refine g_callVi (M' := M_X5_sleepsAfter) (c := 57) (av := [.inl x1, .inl x2]) (st := []) (T_X5_goThrough 28 _ _ _ rfl) ml_X5_96 cb_X5_sleepsAfter rfl rfl (Nat.le_of_ble_eq_true rfl) (by omega) (R_X5_sleepsAfter N _ _ _ _ hq) ?_
        refine g_if_eq (tgt := 70) (T_X5_goThrough 29 _ _ _ rfl) (by decide) (fun cc => ?_) (fun cc => ?_)
        · replace H := ite_p cc H
          refine g_weak [true, true, true] ?_
          exact R_J_X5_goThrough_70 N (L_X5_goThrough_27 N k76 n) ih _ _ _ _ H
        · replace H := ite_n cc H
          refine g_aload_n (T_X5_goThrough 30 _ _ _ rfl) rfl ?_
          refine g_dup (T_X5_goThrough 31 _ _ _ rfl) ?_
          refine g_getI (c := 57) (T_X5_goThrough 32 _ _ _ rfl) fl_X5_50 rfl (Or.inl rfl) ?_
          refine g_aload_n (T_X5_goThrough 33 _ _ _ rfl) rfl ?_
          refine g_getR (c := 57) (r := 2) (T_X5_goThrough 34 _ _ _ rfl) fl_X5_38 rfl (nR rfl) rfl (by decide) ?_
          refine g_iload_n (T_X5_goThrough 35 _ _ _ rfl) rfl ?_
          obtain ⟨y6, h5, hq, H⟩ := bd_some H
          refine g_callVi (M' := M_X1_housesOf) (c := 1) (av := [.inl x2]) (st := [.inl (h3 57 10), .inr 58]) (T_X5_goThrough 36 _ _ _ rfl) ml_X5_100 cb_X1_housesOf rfl rfl (Nat.le_of_ble_eq_true rfl) (by omega) (R_X1_housesOf N _ _ _ hq) ?_
          refine g_iadd (T_X5_goThrough 37 _ _ _ rfl) ?_
          refine g_put (c := 57) (T_X5_goThrough 38 _ _ _ rfl) fl_X5_50 rfl (Or.inl rfl) ?_
          refine g_bndH H fun h7 H => ?_
          refine g_weak [true, true, true] ?_
          exact R_J_X5_goThrough_70 N (L_X5_goThrough_27 N k76 n) ih _ _ _ _ H
def L_X5_goThrough_2 (N : Nat) : Nat → Int → Hp → Option (Hp)
  | 0, _, _ => none
  | n + 1, x1, h =>
    if 10 ≤ x1 then
      L_X5_goThrough_84 N  N 0 h
    else
    bd (F_X5_isIdle N h) fun y2 h1 =>
    if y2 = 0 then
      bv (F_X5_serveBefore N (w32 ((w32 (x1 + 1)) * 60)) h1) fun h3 =>
      L_X5_goThrough_27 N (fun (v4 : Int) (h5 : Hp) =>
        bnd (w32 (v4 + 1)) fun y6 =>
        (L_X5_goThrough_2 N n) y6 h5) N x1 0 h3
    else
    L_X5_goThrough_84 N  N 0 h1
set_option maxRecDepth 100000 in
set_option maxHeartbeats 4000000 in
theorem R_L_X5_goThrough_2 (N : Nat) : ∀ (n : Nat) (x1 : Int) (h : Hp) (res : Hp), L_X5_goThrough_2 N n x1 h = some res → Go M_X5_goThrough 7 2 [some (.inr 58), some (.inl x1), none] [] h (Qv res)
  | 0, _, _, _, H => by cases H
  | n + 1, x1, h, res, H => by
    have ih := R_L_X5_goThrough_2 N n
    simp only [L_X5_goThrough_2] at H
    refine g_iload_n (T_X5_goThrough 2 _ _ _ rfl) rfl ?_
    refine g_bipush (T_X5_goThrough 3 _ _ _ rfl) (by decide) ?_
    refine g_icmp_ge (tgt := 82) (T_X5_goThrough 4 _ _ _ rfl) (by decide) (fun cc => ?_) (fun cc => ?_)
    · replace H := ite_p cc H
      refine g_iconst (T_X5_goThrough 43 _ _ _ rfl) ⟨by decide, by decide⟩ ?_
      refine g_istore_n (T_X5_goThrough 44 _ _ _ rfl) (by decide) ?_
      refine g_weak [true, true, false] ?_
      refine R_L_X5_goThrough_84 N   _ _ _ _ H
    · replace H := ite_n cc H
      refine g_aload_n (T_X5_goThrough 5 _ _ _ rfl) rfl ?_
      obtain ⟨y2, h1, hq, H⟩ := bd_some H
      refine g_callVi (M' := M_X5_isIdle) (c := 57) (av := []) (st := []) (T_X5_goThrough 6 _ _ _ rfl) ml_X5_84 cb_X5_isIdle rfl rfl (Nat.le_of_ble_eq_true rfl) (by omega) (R_X5_isIdle N _ _ hq) ?_
      refine g_if_ne (tgt := 82) (T_X5_goThrough 7 _ _ _ rfl) (by decide) (fun cc => ?_) (fun cc => ?_)
      · replace H := ite_n cc H
        refine g_iconst (T_X5_goThrough 43 _ _ _ rfl) ⟨by decide, by decide⟩ ?_
        refine g_istore_n (T_X5_goThrough 44 _ _ _ rfl) (by decide) ?_
        refine g_weak [true, true, false] ?_
        refine R_L_X5_goThrough_84 N   _ _ _ _ H
      · replace H := ite_p cc H
        refine g_aload_n (T_X5_goThrough 8 _ _ _ rfl) rfl ?_
        refine g_iload_n (T_X5_goThrough 9 _ _ _ rfl) rfl ?_
        refine g_iconst (T_X5_goThrough 10 _ _ _ rfl) ⟨by decide, by decide⟩ ?_
        refine g_iadd (T_X5_goThrough 11 _ _ _ rfl) ?_
        refine g_bipush (T_X5_goThrough 12 _ _ _ rfl) (by decide) ?_
        refine g_imul (T_X5_goThrough 13 _ _ _ rfl) ?_
        obtain ⟨h3, hq, H⟩ := bv_some H
        refine g_callVv (M' := M_X5_serveBefore) (c := 57) (av := [.inl (w32 ((w32 (x1 + 1)) * 60))]) (st := []) (T_X5_goThrough 14 _ _ _ rfl) ml_X5_88 cb_X5_serveBefore rfl rfl (Nat.le_of_ble_eq_true rfl) (by omega) (R_X5_serveBefore N _ _ _ hq) ?_
        refine g_iconst (T_X5_goThrough 15 _ _ _ rfl) ⟨by decide, by decide⟩ ?_
        refine g_istore_n (T_X5_goThrough 16 _ _ _ rfl) (by decide) ?_
        refine g_weak [true, true, true] ?_
        refine R_L_X5_goThrough_27 N _ (fun v4 h5 res H => ?_) _ _ _ _ _ H
        · refine g_iincB (T_X5_goThrough 41 _ _ _ rfl) rfl (by decide) H fun y6 H => ?_
          refine g_goto (tgt := 2) (T_X5_goThrough 42 _ _ _ rfl) (by decide) ?_
          refine g_weak [true, true, false] ?_
          exact ih _ _ _ H
def F_X5_goThrough (N : Nat) (h : Hp) : Option (Hp) :=
  L_X5_goThrough_2 N  N 0 h
set_option maxRecDepth 100000 in
set_option maxHeartbeats 4000000 in
theorem R_X5_goThrough (N : Nat) (h : Hp) (res : Hp) (H : F_X5_goThrough N h = some res) : Runs M_X5_goThrough 7 [.inr 58] h (Qv res) := by
  refine Runs.of rfl (Nat.le_of_ble_eq_true rfl) ?_
  show Go M_X5_goThrough 7 0 [some (.inr 58), none, none] [] h (Qv res)
  unfold F_X5_goThrough at H
  refine g_iconst (T_X5_goThrough 0 _ _ _ rfl) ⟨by decide, by decide⟩ ?_
  refine g_istore_n (T_X5_goThrough 1 _ _ _ rfl) (by decide) ?_
  refine g_weak [true, true, false] ?_
  refine R_L_X5_goThrough_2 N   _ _ _ _ H
def F_X5_slept (N : Nat) (h : Hp) : Option (Int × Hp) :=
  some ((h 57 10), h)
set_option maxRecDepth 100000 in
set_option maxHeartbeats 4000000 in
theorem R_X5_slept (N : Nat) (h : Hp) (res : Int × Hp) (H : F_X5_slept N h = some res) : Runs M_X5_slept 1 [.inr 58] h (Qi res) := by
  refine Runs.of rfl (Nat.le_of_ble_eq_true rfl) ?_
  show Go M_X5_slept 1 0 [some (.inr 58)] [] h (Qi res)
  unfold F_X5_slept at H
  refine g_aload_n (T_X5_slept 0 _ _ _ rfl) rfl ?_
  refine g_getI (c := 57) (T_X5_slept 1 _ _ _ rfl) fl_X5_50 rfl (Or.inl rfl) ?_
  exact g_iret (T_X5_slept 2 _ _ _ rfl) rfl (qi_of H)
def F_X5_swept (N : Nat) (h : Hp) : Option (Int × Hp) :=
  some ((h 57 11), h)
set_option maxRecDepth 100000 in
set_option maxHeartbeats 4000000 in
theorem R_X5_swept (N : Nat) (h : Hp) (res : Int × Hp) (H : F_X5_swept N h = some res) : Runs M_X5_swept 1 [.inr 58] h (Qi res) := by
  refine Runs.of rfl (Nat.le_of_ble_eq_true rfl) ?_
  show Go M_X5_swept 1 0 [some (.inr 58)] [] h (Qi res)
  unfold F_X5_swept at H
  refine g_aload_n (T_X5_swept 0 _ _ _ rfl) rfl ?_
  refine g_getI (c := 57) (T_X5_swept 1 _ _ _ rfl) fl_X5_54 rfl (Or.inl rfl) ?_
  exact g_iret (T_X5_swept 2 _ _ _ rfl) rfl (qi_of H)
def L_X1_endNight_32 (N : Nat) : Nat → Int → Hp → Option (Hp)
  | 0, _, _ => none
  | n + 1, x3, h =>
    if 14 ≤ x3 then
      some h
    else
    grd (0 ≤ x3 ∧ x3 < 14) <|
    bnd (hw h 5 x3.toNat 0) fun h1 =>
    bnd (w32 (x3 + 1)) fun y2 =>
    (L_X1_endNight_32 N n) y2 h1
set_option maxRecDepth 100000 in
set_option maxHeartbeats 4000000 in
theorem R_L_X1_endNight_32 (N : Nat) : ∀ (n : Nat) (x3 : Int) (h : Hp) (res : Hp), L_X1_endNight_32 N n x3 h = some res → Go M_X1_endNight 1 32 [some (.inr 2), none, none, some (.inl x3)] [] h (Qv res)
  | 0, _, _, _, H => by cases H
  | n + 1, x3, h, res, H => by
    have ih := R_L_X1_endNight_32 N n
    simp only [L_X1_endNight_32] at H
    refine g_iload_n (T_X1_endNight 20 _ _ _ rfl) rfl ?_
    refine g_bipush (T_X1_endNight 21 _ _ _ rfl) (by decide) ?_
    refine g_icmp_ge (tgt := 51) (T_X1_endNight 22 _ _ _ rfl) (by decide) (fun cc => ?_) (fun cc => ?_)
    · replace H := ite_p cc H
      exact g_vret (T_X1_endNight 30 _ _ _ rfl) rfl (qv_of H)
    · replace H := ite_n cc H
      refine g_aload_n (T_X1_endNight 23 _ _ _ rfl) rfl ?_
      refine g_getR (c := 1) (r := 6) (T_X1_endNight 24 _ _ _ rfl) fl_X1_21 rfl (nR rfl) rfl (by decide) ?_
      refine g_iload_n (T_X1_endNight 25 _ _ _ rfl) rfl ?_
      refine g_iconst (T_X1_endNight 26 _ _ _ rfl) ⟨by decide, by decide⟩ ?_
      obtain ⟨hg, H⟩ := grd_some H
      refine g_iast (c := 5) (T_X1_endNight 27 _ _ _ rfl) rfl hg ?_
      refine g_bndH H fun h1 H => ?_
      refine g_iincB (T_X1_endNight 28 _ _ _ rfl) rfl (by decide) H fun y2 H => ?_
      refine g_goto (tgt := 32) (T_X1_endNight 29 _ _ _ rfl) (by decide) ?_
      refine g_weak [true, false, false, true] ?_
      exact ih _ _ _ H
def F_X1_endNight (N : Nat) (x1 : Int) (x2 : Int) (h : Hp) : Option (Hp) :=
  bnd (hw h 1 6 (w32 ((h 1 6) + x1))) fun h1 =>
  bnd (hw h1 1 7 (w32 ((h1 1 7) + x2))) fun h2 =>
  bnd (hw h2 1 5 (w32 ((h2 1 5) + 1))) fun h3 =>
  L_X1_endNight_32 N  N 0 h3
set_option maxRecDepth 100000 in
set_option maxHeartbeats 4000000 in
theorem R_X1_endNight (N : Nat) (x1 : Int) (x2 : Int) (h : Hp) (res : Hp) (H : F_X1_endNight N x1 x2 h = some res) : Runs M_X1_endNight 1 [.inr 2, .inl x1, .inl x2] h (Qv res) := by
  refine Runs.of rfl (Nat.le_of_ble_eq_true rfl) ?_
  show Go M_X1_endNight 1 0 [some (.inr 2), some (.inl x1), some (.inl x2), none] [] h (Qv res)
  unfold F_X1_endNight at H
  refine g_aload_n (T_X1_endNight 0 _ _ _ rfl) rfl ?_
  refine g_dup (T_X1_endNight 1 _ _ _ rfl) ?_
  refine g_getI (c := 1) (T_X1_endNight 2 _ _ _ rfl) fl_X1_63 rfl (Or.inl rfl) ?_
  refine g_iload_n (T_X1_endNight 3 _ _ _ rfl) rfl ?_
  refine g_iadd (T_X1_endNight 4 _ _ _ rfl) ?_
  refine g_put (c := 1) (T_X1_endNight 5 _ _ _ rfl) fl_X1_63 rfl (Or.inl rfl) ?_
  refine g_bndH H fun h1 H => ?_
  refine g_aload_n (T_X1_endNight 6 _ _ _ rfl) rfl ?_
  refine g_dup (T_X1_endNight 7 _ _ _ rfl) ?_
  refine g_getI (c := 1) (T_X1_endNight 8 _ _ _ rfl) fl_X1_66 rfl (Or.inl rfl) ?_
  refine g_iload_n (T_X1_endNight 9 _ _ _ rfl) rfl ?_
  refine g_iadd (T_X1_endNight 10 _ _ _ rfl) ?_
  refine g_put (c := 1) (T_X1_endNight 11 _ _ _ rfl) fl_X1_66 rfl (Or.inl rfl) ?_
  refine g_bndH H fun h2 H => ?_
  refine g_aload_n (T_X1_endNight 12 _ _ _ rfl) rfl ?_
  refine g_dup (T_X1_endNight 13 _ _ _ rfl) ?_
  refine g_getI (c := 1) (T_X1_endNight 14 _ _ _ rfl) fl_X1_60 rfl (Or.inl rfl) ?_
  refine g_iconst (T_X1_endNight 15 _ _ _ rfl) ⟨by decide, by decide⟩ ?_
  refine g_iadd (T_X1_endNight 16 _ _ _ rfl) ?_
  refine g_put (c := 1) (T_X1_endNight 17 _ _ _ rfl) fl_X1_60 rfl (Or.inl rfl) ?_
  refine g_bndH H fun h3 H => ?_
  refine g_iconst (T_X1_endNight 18 _ _ _ rfl) ⟨by decide, by decide⟩ ?_
  refine g_istore_n (T_X1_endNight 19 _ _ _ rfl) (by decide) ?_
  refine g_weak [true, false, false, true] ?_
  refine R_L_X1_endNight_32 N   _ _ _ _ H
def L_X11_nights_16 (N : Nat) : Nat → Int → Int → Int → Hp → Option (Int × Hp)
  | 0, _, _, _, _ => none
  | n + 1, x1, x2, x3, h =>
    if x1 ≤ x3 then
      some (x2, h)
    else
    bd (F_X1_night N h) fun y2 h1 =>
    if 9999 ≤ y2 then
      some (x2, h1)
    else
    bv (F_X11_sendCarts N 0 h1) fun h3 =>
    bv (F_X5_goThrough N h3) fun h4 =>
    bd (F_X5_slept N h4) fun y6 h5 =>
    bnd ((w32 (x2 + y6))) fun y7 =>
    bd (F_X5_slept N h5) fun y9 h8 =>
    bd (F_X5_swept N h8) fun y11 h10 =>
    bv (F_X1_endNight N y9 y11 h10) fun h12 =>
    bnd (w32 (x3 + 1)) fun y13 =>
    (L_X11_nights_16 N n) x1 y7 y13 h12
set_option maxRecDepth 100000 in
set_option maxHeartbeats 4000000 in
theorem R_L_X11_nights_16 (N : Nat) : ∀ (n : Nat) (x1 : Int) (x2 : Int) (x3 : Int) (h : Hp) (res : Int × Hp), L_X11_nights_16 N n x1 x2 x3 h = some res → Go M_X11_nights 8 16 [some (.inr 1), some (.inl x1), some (.inl x2), some (.inl x3)] [] h (Qi res)
  | 0, _, _, _, _, _, H => by cases H
  | n + 1, x1, x2, x3, h, res, H => by
    have ih := R_L_X11_nights_16 N n
    simp only [L_X11_nights_16] at H
    refine g_iload_n (T_X11_nights 11 _ _ _ rfl) rfl ?_
    refine g_iload_n (T_X11_nights 12 _ _ _ rfl) rfl ?_
    refine g_icmp_ge (tgt := 83) (T_X11_nights 13 _ _ _ rfl) (by decide) (fun cc => ?_) (fun cc => ?_)
    · replace H := ite_p cc H
      refine g_iload_n (T_X11_nights 42 _ _ _ rfl) rfl ?_
      exact g_iret (T_X11_nights 43 _ _ _ rfl) rfl (qi_of H)
    · replace H := ite_n cc H
      refine g_aload_n (T_X11_nights 14 _ _ _ rfl) rfl ?_
      refine g_getR (c := 0) (r := 2) (T_X11_nights 15 _ _ _ rfl) fl_X11_28 rfl (nR rfl) rfl (by decide) ?_
      obtain ⟨y2, h1, hq, H⟩ := bd_some H
      refine g_callVi (M' := M_X1_night) (c := 1) (av := []) (st := []) (T_X11_nights 16 _ _ _ rfl) ml_X11_165 cb_X1_night rfl rfl (Nat.le_of_ble_eq_true rfl) (by omega) (R_X1_night N _ _ hq) ?_
      refine g_sipush (T_X11_nights 17 _ _ _ rfl) (by decide) ?_
      refine g_icmp_ge (tgt := 83) (T_X11_nights 18 _ _ _ rfl) (by decide) (fun cc => ?_) (fun cc => ?_)
      · replace H := ite_p cc H
        refine g_iload_n (T_X11_nights 42 _ _ _ rfl) rfl ?_
        exact g_iret (T_X11_nights 43 _ _ _ rfl) rfl (qi_of H)
      · replace H := ite_n cc H
        refine g_aload_n (T_X11_nights 19 _ _ _ rfl) rfl ?_
        refine g_iconst (T_X11_nights 20 _ _ _ rfl) ⟨by decide, by decide⟩ ?_
        obtain ⟨h3, hq, H⟩ := bv_some H
        refine g_callVv (M' := M_X11_sendCarts) (c := 0) (av := [.inl 0]) (st := []) (T_X11_nights 21 _ _ _ rfl) ml_X11_167 cb_X11_sendCarts rfl rfl (Nat.le_of_ble_eq_true rfl) (by omega) (R_X11_sendCarts N _ _ _ hq) ?_
        refine g_aload_n (T_X11_nights 22 _ _ _ rfl) rfl ?_
        refine g_getR (c := 0) (r := 58) (T_X11_nights 23 _ _ _ rfl) fl_X11_60 rfl (nR rfl) rfl (by decide) ?_
        obtain ⟨h4, hq, H⟩ := bv_some H
        refine g_callVv (M' := M_X5_goThrough) (c := 57) (av := []) (st := []) (T_X11_nights 24 _ _ _ rfl) ml_X11_170 cb_X5_goThrough rfl rfl (Nat.le_of_ble_eq_true rfl) (by omega) (R_X5_goThrough N _ _ hq) ?_
        refine g_iload_n (T_X11_nights 25 _ _ _ rfl) rfl ?_
        refine g_aload_n (T_X11_nights 26 _ _ _ rfl) rfl ?_
        refine g_getR (c := 0) (r := 58) (T_X11_nights 27 _ _ _ rfl) fl_X11_60 rfl (nR rfl) rfl (by decide) ?_
        obtain ⟨y6, h5, hq, H⟩ := bd_some H
        refine g_callVi (M' := M_X5_slept) (c := 57) (av := []) (st := [.inl x2]) (T_X11_nights 28 _ _ _ rfl) ml_X11_173 cb_X5_slept rfl rfl (Nat.le_of_ble_eq_true rfl) (by omega) (R_X5_slept N _ _ hq) ?_
        refine g_iadd (T_X11_nights 29 _ _ _ rfl) ?_
        refine g_bndI H fun y7 H => ?_
        refine g_istore_n (T_X11_nights 30 _ _ _ rfl) (by decide) ?_
        refine g_aload_n (T_X11_nights 31 _ _ _ rfl) rfl ?_
        refine g_getR (c := 0) (r := 2) (T_X11_nights 32 _ _ _ rfl) fl_X11_28 rfl (nR rfl) rfl (by decide) ?_
        refine g_aload_n (T_X11_nights 33 _ _ _ rfl) rfl ?_
        refine g_getR (c := 0) (r := 58) (T_X11_nights 34 _ _ _ rfl) fl_X11_60 rfl (nR rfl) rfl (by decide) ?_
        obtain ⟨y9, h8, hq, H⟩ := bd_some H
        refine g_callVi (M' := M_X5_slept) (c := 57) (av := []) (st := [.inr 2]) (T_X11_nights 35 _ _ _ rfl) ml_X11_173 cb_X5_slept rfl rfl (Nat.le_of_ble_eq_true rfl) (by omega) (R_X5_slept N _ _ hq) ?_
        refine g_aload_n (T_X11_nights 36 _ _ _ rfl) rfl ?_
        refine g_getR (c := 0) (r := 58) (T_X11_nights 37 _ _ _ rfl) fl_X11_60 rfl (nR rfl) rfl (by decide) ?_
        obtain ⟨y11, h10, hq, H⟩ := bd_some H
        refine g_callVi (M' := M_X5_swept) (c := 57) (av := []) (st := [.inl y9, .inr 2]) (T_X11_nights 38 _ _ _ rfl) ml_X11_176 cb_X5_swept rfl rfl (Nat.le_of_ble_eq_true rfl) (by omega) (R_X5_swept N _ _ hq) ?_
        obtain ⟨h12, hq, H⟩ := bv_some H
        refine g_callVv (M' := M_X1_endNight) (c := 1) (av := [.inl y9, .inl y11]) (st := []) (T_X11_nights 39 _ _ _ rfl) ml_X11_179 cb_X1_endNight rfl rfl (Nat.le_of_ble_eq_true rfl) (by omega) (R_X1_endNight N _ _ _ _ hq) ?_
        refine g_iincB (T_X11_nights 40 _ _ _ rfl) rfl (by decide) H fun y13 H => ?_
        refine g_goto (tgt := 16) (T_X11_nights 41 _ _ _ rfl) (by decide) ?_
        refine g_weak [true, true, true, true] ?_
        exact ih _ _ _ _ _ H
def F_X11_nights (N : Nat) (x1 : Int) (h : Hp) : Option (Int × Hp) :=
  bd (F_X11_isWithin N x1 1 20 h) fun y2 h1 =>
  if y2 = 0 then
    some ((-1), h1)
  else
  L_X11_nights_16 N  N x1 0 0 h1
set_option maxRecDepth 100000 in
set_option maxHeartbeats 4000000 in
theorem R_X11_nights (N : Nat) (x1 : Int) (h : Hp) (res : Int × Hp) (H : F_X11_nights N x1 h = some res) : Runs M_X11_nights 8 [.inr 1, .inl x1] h (Qi res) := by
  refine Runs.of rfl (Nat.le_of_ble_eq_true rfl) ?_
  show Go M_X11_nights 8 0 [some (.inr 1), some (.inl x1), none, none] [] h (Qi res)
  unfold F_X11_nights at H
  refine g_iload_n (T_X11_nights 0 _ _ _ rfl) rfl ?_
  refine g_iconst (T_X11_nights 1 _ _ _ rfl) ⟨by decide, by decide⟩ ?_
  refine g_bipush (T_X11_nights 2 _ _ _ rfl) (by decide) ?_
  obtain ⟨y2, h1, hq, H⟩ := bd_some H
  refine g_callSi (M' := M_X11_isWithin) (av := [.inl x1, .inl 1, .inl 20]) (st := []) (T_X11_nights 3 _ _ _ rfl) ml_X11_96 cb_X11_isWithin rfl (Nat.le_of_ble_eq_true rfl) (by omega) (R_X11_isWithin N _ _ _ _ _ hq) ?_
  refine g_if_ne (tgt := 12) (T_X11_nights 4 _ _ _ rfl) (by decide) (fun cc => ?_) (fun cc => ?_)
  · replace H := ite_n cc H
    refine g_iconst (T_X11_nights 7 _ _ _ rfl) ⟨by decide, by decide⟩ ?_
    refine g_istore_n (T_X11_nights 8 _ _ _ rfl) (by decide) ?_
    refine g_iconst (T_X11_nights 9 _ _ _ rfl) ⟨by decide, by decide⟩ ?_
    refine g_istore_n (T_X11_nights 10 _ _ _ rfl) (by decide) ?_
    refine g_weak [true, true, true, true] ?_
    refine R_L_X11_nights_16 N   _ _ _ _ _ _ H
  · replace H := ite_p cc H
    refine g_iconst (T_X11_nights 5 _ _ _ rfl) ⟨by decide, by decide⟩ ?_
    exact g_iret (T_X11_nights 6 _ _ _ rfl) rfl (qi_of H)
def F_X11_canBeTried (N : Nat) (x1 : Int) (h : Hp) : Option (Int × Hp) :=
  if 10 ≤ x1 then
    if 30 ≤ x1 then
      if 40 ≤ x1 then
        bd (F_X11_isToldCart N (w32 (x1 - 40)) h) fun y2 h1 =>
        grd (y2 = 0 ∨ y2 = 1) <|
        some (y2, h1)
      else
      bd (F_X11_isToldCart N (w32 (x1 - 30)) h) fun y4 h3 =>
      grd (y4 = 0 ∨ y4 = 1) <|
      some (y4, h3)
    else
    bd (F_X1_isTold N (w32 (x1 - 10)) h) fun y6 h5 =>
    grd (y6 = 0 ∨ y6 = 1) <|
    some (y6, h5)
  else
  bd (F_X11_isWithin N x1 0 5 h) fun y8 h7 =>
  grd (y8 = 0 ∨ y8 = 1) <|
  some (y8, h7)
set_option maxRecDepth 100000 in
set_option maxHeartbeats 4000000 in
theorem R_X11_canBeTried (N : Nat) (x1 : Int) (h : Hp) (res : Int × Hp) (H : F_X11_canBeTried N x1 h = some res) : Runs M_X11_canBeTried 4 [.inr 1, .inl x1] h (Qi res) := by
  refine Runs.of rfl (Nat.le_of_ble_eq_true rfl) ?_
  show Go M_X11_canBeTried 4 0 [some (.inr 1), some (.inl x1)] [] h (Qi res)
  unfold F_X11_canBeTried at H
  refine g_iload_n (T_X11_canBeTried 0 _ _ _ rfl) rfl ?_
  refine g_bipush (T_X11_canBeTried 1 _ _ _ rfl) (by decide) ?_
  refine g_icmp_ge (tgt := 13) (T_X11_canBeTried 2 _ _ _ rfl) (by decide) (fun cc => ?_) (fun cc => ?_)
  · replace H := ite_p cc H
    refine g_iload_n (T_X11_canBeTried 8 _ _ _ rfl) rfl ?_
    refine g_bipush (T_X11_canBeTried 9 _ _ _ rfl) (by decide) ?_
    refine g_icmp_ge (tgt := 31) (T_X11_canBeTried 10 _ _ _ rfl) (by decide) (fun cc => ?_) (fun cc => ?_)
    · replace H := ite_p cc H
      refine g_iload_n (T_X11_canBeTried 18 _ _ _ rfl) rfl ?_
      refine g_bipush (T_X11_canBeTried 19 _ _ _ rfl) (by decide) ?_
      refine g_icmp_ge (tgt := 48) (T_X11_canBeTried 20 _ _ _ rfl) (by decide) (fun cc => ?_) (fun cc => ?_)
      · replace H := ite_p cc H
        refine g_aload_n (T_X11_canBeTried 27 _ _ _ rfl) rfl ?_
        refine g_iload_n (T_X11_canBeTried 28 _ _ _ rfl) rfl ?_
        refine g_bipush (T_X11_canBeTried 29 _ _ _ rfl) (by decide) ?_
        refine g_isub (T_X11_canBeTried 30 _ _ _ rfl) ?_
        obtain ⟨y2, h1, hq, H⟩ := bd_some H
        refine g_callVi (M' := M_X11_isToldCart) (c := 0) (av := [.inl (w32 (x1 - 40))]) (st := []) (T_X11_canBeTried 31 _ _ _ rfl) ml_X11_271 cb_X11_isToldCart rfl rfl (Nat.le_of_ble_eq_true rfl) (by omega) (R_X11_isToldCart N _ _ _ hq) ?_
        obtain ⟨hg, H⟩ := grd_some H
        exact g_zret (T_X11_canBeTried 32 _ _ _ rfl) rfl hg (qi_of H)
      · replace H := ite_n cc H
        refine g_aload_n (T_X11_canBeTried 21 _ _ _ rfl) rfl ?_
        refine g_iload_n (T_X11_canBeTried 22 _ _ _ rfl) rfl ?_
        refine g_bipush (T_X11_canBeTried 23 _ _ _ rfl) (by decide) ?_
        refine g_isub (T_X11_canBeTried 24 _ _ _ rfl) ?_
        obtain ⟨y4, h3, hq, H⟩ := bd_some H
        refine g_callVi (M' := M_X11_isToldCart) (c := 0) (av := [.inl (w32 (x1 - 30))]) (st := []) (T_X11_canBeTried 25 _ _ _ rfl) ml_X11_271 cb_X11_isToldCart rfl rfl (Nat.le_of_ble_eq_true rfl) (by omega) (R_X11_isToldCart N _ _ _ hq) ?_
        refine g_goto (tgt := 56) (T_X11_canBeTried 26 _ _ _ rfl) (by decide) ?_
        obtain ⟨hg, H⟩ := grd_some H
        exact g_zret (T_X11_canBeTried 32 _ _ _ rfl) rfl hg (qi_of H)
    · replace H := ite_n cc H
      refine g_aload_n (T_X11_canBeTried 11 _ _ _ rfl) rfl ?_
      refine g_getR (c := 0) (r := 2) (T_X11_canBeTried 12 _ _ _ rfl) fl_X11_28 rfl (nR rfl) rfl (by decide) ?_
      refine g_iload_n (T_X11_canBeTried 13 _ _ _ rfl) rfl ?_
      refine g_bipush (T_X11_canBeTried 14 _ _ _ rfl) (by decide) ?_
      refine g_isub (T_X11_canBeTried 15 _ _ _ rfl) ?_
      obtain ⟨y6, h5, hq, H⟩ := bd_some H
      refine g_callVi (M' := M_X1_isTold) (c := 1) (av := [.inl (w32 (x1 - 10))]) (st := []) (T_X11_canBeTried 16 _ _ _ rfl) ml_X11_112 cb_X1_isTold rfl rfl (Nat.le_of_ble_eq_true rfl) (by omega) (R_X1_isTold N _ _ _ hq) ?_
      obtain ⟨hg, H⟩ := grd_some H
      exact g_zret (T_X11_canBeTried 17 _ _ _ rfl) rfl hg (qi_of H)
  · replace H := ite_n cc H
    refine g_iload_n (T_X11_canBeTried 3 _ _ _ rfl) rfl ?_
    refine g_iconst (T_X11_canBeTried 4 _ _ _ rfl) ⟨by decide, by decide⟩ ?_
    refine g_iconst (T_X11_canBeTried 5 _ _ _ rfl) ⟨by decide, by decide⟩ ?_
    obtain ⟨y8, h7, hq, H⟩ := bd_some H
    refine g_callSi (M' := M_X11_isWithin) (av := [.inl x1, .inl 0, .inl 5]) (st := []) (T_X11_canBeTried 6 _ _ _ rfl) ml_X11_96 cb_X11_isWithin rfl (Nat.le_of_ble_eq_true rfl) (by omega) (R_X11_isWithin N _ _ _ _ _ hq) ?_
    obtain ⟨hg, H⟩ := grd_some H
    exact g_zret (T_X11_canBeTried 7 _ _ _ rfl) rfl hg (qi_of H)
def F_X5_lastMinuteOf (N : Nat) (x1 : Int) (h : Hp) : Option (Int × Hp) :=
  bd (F_X11_isWithin N x1 0 4 h) fun y2 h1 =>
  if y2 = 0 then
    some ((-2), h1)
  else
  grd (0 ≤ x1 ∧ x1 < 5) <|
  if (h1 62 x1.toNat) = 2147483647 then
    grd (0 ≤ x1 ∧ x1 < 5) <|
    some ((h1 64 x1.toNat), h1)
  else
  some ((-2), h1)
set_option maxRecDepth 100000 in
set_option maxHeartbeats 4000000 in
theorem R_X5_lastMinuteOf (N : Nat) (x1 : Int) (h : Hp) (res : Int × Hp) (H : F_X5_lastMinuteOf N x1 h = some res) : Runs M_X5_lastMinuteOf 2 [.inr 58, .inl x1] h (Qi res) := by
  refine Runs.of rfl (Nat.le_of_ble_eq_true rfl) ?_
  show Go M_X5_lastMinuteOf 2 0 [some (.inr 58), some (.inl x1)] [] h (Qi res)
  unfold F_X5_lastMinuteOf at H
  refine g_iload_n (T_X5_lastMinuteOf 0 _ _ _ rfl) rfl ?_
  refine g_iconst (T_X5_lastMinuteOf 1 _ _ _ rfl) ⟨by decide, by decide⟩ ?_
  refine g_iconst (T_X5_lastMinuteOf 2 _ _ _ rfl) ⟨by decide, by decide⟩ ?_
  obtain ⟨y2, h1, hq, H⟩ := bd_some H
  refine g_callSNi (M' := M_X11_isWithin) (av := [.inl x1, .inl 0, .inl 4]) (st := []) (T_X5_lastMinuteOf 3 _ _ _ rfl) ml_X5_69 cb_X11_isWithin rfl (Nat.le_of_ble_eq_true rfl) (by omega) (R_X11_isWithin N _ _ _ _ _ hq) ?_
  refine g_if_eq (tgt := 29) (T_X5_lastMinuteOf 4 _ _ _ rfl) (by decide) (fun cc => ?_) (fun cc => ?_)
  · replace H := ite_p cc H
    refine g_bipush (T_X5_lastMinuteOf 16 _ _ _ rfl) (by decide) ?_
    exact g_iret (T_X5_lastMinuteOf 17 _ _ _ rfl) rfl (qi_of H)
  · replace H := ite_n cc H
    refine g_aload_n (T_X5_lastMinuteOf 5 _ _ _ rfl) rfl ?_
    refine g_getR (c := 57) (r := 63) (T_X5_lastMinuteOf 6 _ _ _ rfl) fl_X5_29 rfl (nR rfl) rfl (by decide) ?_
    refine g_iload_n (T_X5_lastMinuteOf 7 _ _ _ rfl) rfl ?_
    obtain ⟨hg, H⟩ := grd_some H
    refine g_iald (c := 62) (T_X5_lastMinuteOf 8 _ _ _ rfl) rfl hg ?_
    refine g_ldc (T_X5_lastMinuteOf 9 _ _ _ rfl) kc_X5_73 ⟨by decide, by decide⟩ ?_
    refine g_icmp_ne (tgt := 29) (T_X5_lastMinuteOf 10 _ _ _ rfl) (by decide) (fun cc => ?_) (fun cc => ?_)
    · replace H := ite_n cc H
      refine g_bipush (T_X5_lastMinuteOf 16 _ _ _ rfl) (by decide) ?_
      exact g_iret (T_X5_lastMinuteOf 17 _ _ _ rfl) rfl (qi_of H)
    · replace H := ite_p cc H
      refine g_aload_n (T_X5_lastMinuteOf 11 _ _ _ rfl) rfl ?_
      refine g_getR (c := 57) (r := 65) (T_X5_lastMinuteOf 12 _ _ _ rfl) fl_X5_35 rfl (nR rfl) rfl (by decide) ?_
      refine g_iload_n (T_X5_lastMinuteOf 13 _ _ _ rfl) rfl ?_
      obtain ⟨hg, H⟩ := grd_some H
      refine g_iald (c := 64) (T_X5_lastMinuteOf 14 _ _ _ rfl) rfl hg ?_
      refine g_goto (tgt := 31) (T_X5_lastMinuteOf 15 _ _ _ rfl) (by decide) ?_
      exact g_iret (T_X5_lastMinuteOf 17 _ _ _ rfl) rfl (qi_of H)
def F_X5_loadOf (N : Nat) (x1 : Int) (h : Hp) : Option (Int × Hp) :=
  bd (F_X11_isWithin N x1 0 4 h) fun y2 h1 =>
  if y2 = 0 then
    some (0, h1)
  else
  grd (0 ≤ x1 ∧ x1 < 5) <|
  some ((h1 63 x1.toNat), h1)
set_option maxRecDepth 100000 in
set_option maxHeartbeats 4000000 in
theorem R_X5_loadOf (N : Nat) (x1 : Int) (h : Hp) (res : Int × Hp) (H : F_X5_loadOf N x1 h = some res) : Runs M_X5_loadOf 2 [.inr 58, .inl x1] h (Qi res) := by
  refine Runs.of rfl (Nat.le_of_ble_eq_true rfl) ?_
  show Go M_X5_loadOf 2 0 [some (.inr 58), some (.inl x1)] [] h (Qi res)
  unfold F_X5_loadOf at H
  refine g_iload_n (T_X5_loadOf 0 _ _ _ rfl) rfl ?_
  refine g_iconst (T_X5_loadOf 1 _ _ _ rfl) ⟨by decide, by decide⟩ ?_
  refine g_iconst (T_X5_loadOf 2 _ _ _ rfl) ⟨by decide, by decide⟩ ?_
  obtain ⟨y2, h1, hq, H⟩ := bd_some H
  refine g_callSNi (M' := M_X11_isWithin) (av := [.inl x1, .inl 0, .inl 4]) (st := []) (T_X5_loadOf 3 _ _ _ rfl) ml_X5_69 cb_X11_isWithin rfl (Nat.le_of_ble_eq_true rfl) (by omega) (R_X11_isWithin N _ _ _ _ _ hq) ?_
  refine g_if_eq (tgt := 18) (T_X5_loadOf 4 _ _ _ rfl) (by decide) (fun cc => ?_) (fun cc => ?_)
  · replace H := ite_p cc H
    refine g_iconst (T_X5_loadOf 10 _ _ _ rfl) ⟨by decide, by decide⟩ ?_
    exact g_iret (T_X5_loadOf 11 _ _ _ rfl) rfl (qi_of H)
  · replace H := ite_n cc H
    refine g_aload_n (T_X5_loadOf 5 _ _ _ rfl) rfl ?_
    refine g_getR (c := 57) (r := 64) (T_X5_loadOf 6 _ _ _ rfl) fl_X5_32 rfl (nR rfl) rfl (by decide) ?_
    refine g_iload_n (T_X5_loadOf 7 _ _ _ rfl) rfl ?_
    obtain ⟨hg, H⟩ := grd_some H
    refine g_iald (c := 63) (T_X5_loadOf 8 _ _ _ rfl) rfl hg ?_
    refine g_goto (tgt := 19) (T_X5_loadOf 9 _ _ _ rfl) (by decide) ?_
    exact g_iret (T_X5_loadOf 11 _ _ _ rfl) rfl (qi_of H)
def F_X5_total (N : Nat) (x1 : Int) (h : Hp) : Option (Int × Hp) :=
  if x1 = 0 then
    some ((h 57 10), h)
  else if x1 = 1 then
    some ((h 57 11), h)
  else if x1 = 2 then
    some ((h 57 12), h)
  else if x1 = 3 then
    some ((h 57 13), h)
  else if x1 = 4 then
    some ((h 57 14), h)
  else if x1 = 5 then
    some ((h 57 15), h)
  else 
  some ((-1), h)
set_option maxRecDepth 100000 in
set_option maxHeartbeats 4000000 in
theorem R_X5_total (N : Nat) (x1 : Int) (h : Hp) (res : Int × Hp) (H : F_X5_total N x1 h = some res) : Runs M_X5_total 1 [.inr 58, .inl x1] h (Qi res) := by
  refine Runs.of rfl (Nat.le_of_ble_eq_true rfl) ?_
  show Go M_X5_total 1 0 [some (.inr 58), some (.inl x1)] [] h (Qi res)
  unfold F_X5_total at H
  refine g_iload_n (T_X5_total 0 _ _ _ rfl) rfl ?_
  by_cases cc0 : x1 = 0
  · replace H := ite_p cc0 H
    refine g_tswIn (tgt := 40) (T_X5_total 1 _ _ _ rfl) (by rw [cc0]; decide) (by rw [cc0]; decide) (by first | (rw [cc0]; done) | (rw [cc0]; rfl)) (by decide) ?_
    refine g_aload_n (T_X5_total 2 _ _ _ rfl) rfl ?_
    refine g_getI (c := 57) (T_X5_total 3 _ _ _ rfl) fl_X5_50 rfl (Or.inl rfl) ?_
    exact g_iret (T_X5_total 4 _ _ _ rfl) rfl (qi_of H)
  replace H := ite_n cc0 H
  by_cases cc1 : x1 = 1
  · replace H := ite_p cc1 H
    refine g_tswIn (tgt := 45) (T_X5_total 1 _ _ _ rfl) (by rw [cc1]; decide) (by rw [cc1]; decide) (by first | (rw [cc1]; done) | (rw [cc1]; rfl)) (by decide) ?_
    refine g_aload_n (T_X5_total 5 _ _ _ rfl) rfl ?_
    refine g_getI (c := 57) (T_X5_total 6 _ _ _ rfl) fl_X5_54 rfl (Or.inl rfl) ?_
    exact g_iret (T_X5_total 7 _ _ _ rfl) rfl (qi_of H)
  replace H := ite_n cc1 H
  by_cases cc2 : x1 = 2
  · replace H := ite_p cc2 H
    refine g_tswIn (tgt := 50) (T_X5_total 1 _ _ _ rfl) (by rw [cc2]; decide) (by rw [cc2]; decide) (by first | (rw [cc2]; done) | (rw [cc2]; rfl)) (by decide) ?_
    refine g_aload_n (T_X5_total 8 _ _ _ rfl) rfl ?_
    refine g_getI (c := 57) (T_X5_total 9 _ _ _ rfl) fl_X5_57 rfl (Or.inl rfl) ?_
    exact g_iret (T_X5_total 10 _ _ _ rfl) rfl (qi_of H)
  replace H := ite_n cc2 H
  by_cases cc3 : x1 = 3
  · replace H := ite_p cc3 H
    refine g_tswIn (tgt := 55) (T_X5_total 1 _ _ _ rfl) (by rw [cc3]; decide) (by rw [cc3]; decide) (by first | (rw [cc3]; done) | (rw [cc3]; rfl)) (by decide) ?_
    refine g_aload_n (T_X5_total 11 _ _ _ rfl) rfl ?_
    refine g_getI (c := 57) (T_X5_total 12 _ _ _ rfl) fl_X5_60 rfl (Or.inl rfl) ?_
    exact g_iret (T_X5_total 13 _ _ _ rfl) rfl (qi_of H)
  replace H := ite_n cc3 H
  by_cases cc4 : x1 = 4
  · replace H := ite_p cc4 H
    refine g_tswIn (tgt := 60) (T_X5_total 1 _ _ _ rfl) (by rw [cc4]; decide) (by rw [cc4]; decide) (by first | (rw [cc4]; done) | (rw [cc4]; rfl)) (by decide) ?_
    refine g_aload_n (T_X5_total 14 _ _ _ rfl) rfl ?_
    refine g_getI (c := 57) (T_X5_total 15 _ _ _ rfl) fl_X5_63 rfl (Or.inl rfl) ?_
    exact g_iret (T_X5_total 16 _ _ _ rfl) rfl (qi_of H)
  replace H := ite_n cc4 H
  by_cases cc5 : x1 = 5
  · replace H := ite_p cc5 H
    refine g_tswIn (tgt := 65) (T_X5_total 1 _ _ _ rfl) (by rw [cc5]; decide) (by rw [cc5]; decide) (by first | (rw [cc5]; done) | (rw [cc5]; rfl)) (by decide) ?_
    refine g_aload_n (T_X5_total 17 _ _ _ rfl) rfl ?_
    refine g_getI (c := 57) (T_X5_total 18 _ _ _ rfl) fl_X5_66 rfl (Or.inl rfl) ?_
    exact g_iret (T_X5_total 19 _ _ _ rfl) rfl (qi_of H)
  replace H := ite_n cc5 H
  refine g_tswOut (tgt := 70) (T_X5_total 1 _ _ _ rfl) (by omega) (by decide) ?_
  refine g_iconst (T_X5_total 20 _ _ _ rfl) ⟨by decide, by decide⟩ ?_
  exact g_iret (T_X5_total 21 _ _ _ rfl) rfl (qi_of H)
def F_X11_tried (N : Nat) (x1 : Int) (h : Hp) : Option (Int × Hp) :=
  bd (F_X1_night N h) fun y2 h1 =>
  if 9999 ≤ y2 then
    some ((-1), h1)
  else
  bd (F_X11_canBeTried N x1 h1) fun y4 h3 =>
  if y4 = 0 then
    some ((-1), h3)
  else
  bv (F_X11_sendCarts N 0 h3) fun h5 =>
  bv (F_X5_goThrough N h5) fun h6 =>
  if 10 ≤ x1 then
    if 30 ≤ x1 then
      if 40 ≤ x1 then
        bd (F_X5_lastMinuteOf N (w32 (x1 - 40)) h6) fun y8 h7 =>
        some (y8, h7)
      else
      bd (F_X5_loadOf N (w32 (x1 - 30)) h6) fun y10 h9 =>
      some (y10, h9)
    else
    bd (F_X5_depthOf N (w32 (x1 - 10)) h6) fun y12 h11 =>
    some (y12, h11)
  else
  bd (F_X5_total N x1 h6) fun y14 h13 =>
  some (y14, h13)
set_option maxRecDepth 100000 in
set_option maxHeartbeats 4000000 in
theorem R_X11_tried (N : Nat) (x1 : Int) (h : Hp) (res : Int × Hp) (H : F_X11_tried N x1 h = some res) : Runs M_X11_tried 8 [.inr 1, .inl x1] h (Qi res) := by
  refine Runs.of rfl (Nat.le_of_ble_eq_true rfl) ?_
  show Go M_X11_tried 8 0 [some (.inr 1), some (.inl x1)] [] h (Qi res)
  unfold F_X11_tried at H
  refine g_aload_n (T_X11_tried 0 _ _ _ rfl) rfl ?_
  refine g_getR (c := 0) (r := 2) (T_X11_tried 1 _ _ _ rfl) fl_X11_28 rfl (nR rfl) rfl (by decide) ?_
  obtain ⟨y2, h1, hq, H⟩ := bd_some H
  refine g_callVi (M' := M_X1_night) (c := 1) (av := []) (st := []) (T_X11_tried 2 _ _ _ rfl) ml_X11_165 cb_X1_night rfl rfl (Nat.le_of_ble_eq_true rfl) (by omega) (R_X1_night N _ _ hq) ?_
  refine g_sipush (T_X11_tried 3 _ _ _ rfl) (by decide) ?_
  refine g_icmp_ge (tgt := 21) (T_X11_tried 4 _ _ _ rfl) (by decide) (fun cc => ?_) (fun cc => ?_)
  · replace H := ite_p cc H
    refine g_iconst (T_X11_tried 9 _ _ _ rfl) ⟨by decide, by decide⟩ ?_
    exact g_iret (T_X11_tried 10 _ _ _ rfl) rfl (qi_of H)
  · replace H := ite_n cc H
    refine g_aload_n (T_X11_tried 5 _ _ _ rfl) rfl ?_
    refine g_iload_n (T_X11_tried 6 _ _ _ rfl) rfl ?_
    obtain ⟨y4, h3, hq, H⟩ := bd_some H
    refine g_callVi (M' := M_X11_canBeTried) (c := 0) (av := [.inl x1]) (st := []) (T_X11_tried 7 _ _ _ rfl) ml_X11_183 cb_X11_canBeTried rfl rfl (Nat.le_of_ble_eq_true rfl) (by omega) (R_X11_canBeTried N _ _ _ hq) ?_
    refine g_if_ne (tgt := 23) (T_X11_tried 8 _ _ _ rfl) (by decide) (fun cc => ?_) (fun cc => ?_)
    · replace H := ite_n cc H
      refine g_aload_n (T_X11_tried 11 _ _ _ rfl) rfl ?_
      refine g_iconst (T_X11_tried 12 _ _ _ rfl) ⟨by decide, by decide⟩ ?_
      obtain ⟨h5, hq, H⟩ := bv_some H
      refine g_callVv (M' := M_X11_sendCarts) (c := 0) (av := [.inl 0]) (st := []) (T_X11_tried 13 _ _ _ rfl) ml_X11_167 cb_X11_sendCarts rfl rfl (Nat.le_of_ble_eq_true rfl) (by omega) (R_X11_sendCarts N _ _ _ hq) ?_
      refine g_aload_n (T_X11_tried 14 _ _ _ rfl) rfl ?_
      refine g_getR (c := 0) (r := 58) (T_X11_tried 15 _ _ _ rfl) fl_X11_60 rfl (nR rfl) rfl (by decide) ?_
      obtain ⟨h6, hq, H⟩ := bv_some H
      refine g_callVv (M' := M_X5_goThrough) (c := 57) (av := []) (st := []) (T_X11_tried 16 _ _ _ rfl) ml_X11_170 cb_X5_goThrough rfl rfl (Nat.le_of_ble_eq_true rfl) (by omega) (R_X5_goThrough N _ _ hq) ?_
      refine g_iload_n (T_X11_tried 17 _ _ _ rfl) rfl ?_
      refine g_bipush (T_X11_tried 18 _ _ _ rfl) (by decide) ?_
      refine g_icmp_ge (tgt := 50) (T_X11_tried 19 _ _ _ rfl) (by decide) (fun cc => ?_) (fun cc => ?_)
      · replace H := ite_p cc H
        refine g_iload_n (T_X11_tried 25 _ _ _ rfl) rfl ?_
        refine g_bipush (T_X11_tried 26 _ _ _ rfl) (by decide) ?_
        refine g_icmp_ge (tgt := 68) (T_X11_tried 27 _ _ _ rfl) (by decide) (fun cc => ?_) (fun cc => ?_)
        · replace H := ite_p cc H
          refine g_iload_n (T_X11_tried 35 _ _ _ rfl) rfl ?_
          refine g_bipush (T_X11_tried 36 _ _ _ rfl) (by decide) ?_
          refine g_icmp_ge (tgt := 86) (T_X11_tried 37 _ _ _ rfl) (by decide) (fun cc => ?_) (fun cc => ?_)
          · replace H := ite_p cc H
            refine g_aload_n (T_X11_tried 45 _ _ _ rfl) rfl ?_
            refine g_getR (c := 0) (r := 58) (T_X11_tried 46 _ _ _ rfl) fl_X11_60 rfl (nR rfl) rfl (by decide) ?_
            refine g_iload_n (T_X11_tried 47 _ _ _ rfl) rfl ?_
            refine g_bipush (T_X11_tried 48 _ _ _ rfl) (by decide) ?_
            refine g_isub (T_X11_tried 49 _ _ _ rfl) ?_
            obtain ⟨y8, h7, hq, H⟩ := bd_some H
            refine g_callVi (M' := M_X5_lastMinuteOf) (c := 57) (av := [.inl (w32 (x1 - 40))]) (st := []) (T_X11_tried 50 _ _ _ rfl) ml_X11_196 cb_X5_lastMinuteOf rfl rfl (Nat.le_of_ble_eq_true rfl) (by omega) (R_X5_lastMinuteOf N _ _ _ hq) ?_
            exact g_iret (T_X11_tried 51 _ _ _ rfl) rfl (qi_of H)
          · replace H := ite_n cc H
            refine g_aload_n (T_X11_tried 38 _ _ _ rfl) rfl ?_
            refine g_getR (c := 0) (r := 58) (T_X11_tried 39 _ _ _ rfl) fl_X11_60 rfl (nR rfl) rfl (by decide) ?_
            refine g_iload_n (T_X11_tried 40 _ _ _ rfl) rfl ?_
            refine g_bipush (T_X11_tried 41 _ _ _ rfl) (by decide) ?_
            refine g_isub (T_X11_tried 42 _ _ _ rfl) ?_
            obtain ⟨y10, h9, hq, H⟩ := bd_some H
            refine g_callVi (M' := M_X5_loadOf) (c := 57) (av := [.inl (w32 (x1 - 30))]) (st := []) (T_X11_tried 43 _ _ _ rfl) ml_X11_193 cb_X5_loadOf rfl rfl (Nat.le_of_ble_eq_true rfl) (by omega) (R_X5_loadOf N _ _ _ hq) ?_
            exact g_iret (T_X11_tried 44 _ _ _ rfl) rfl (qi_of H)
        · replace H := ite_n cc H
          refine g_aload_n (T_X11_tried 28 _ _ _ rfl) rfl ?_
          refine g_getR (c := 0) (r := 58) (T_X11_tried 29 _ _ _ rfl) fl_X11_60 rfl (nR rfl) rfl (by decide) ?_
          refine g_iload_n (T_X11_tried 30 _ _ _ rfl) rfl ?_
          refine g_bipush (T_X11_tried 31 _ _ _ rfl) (by decide) ?_
          refine g_isub (T_X11_tried 32 _ _ _ rfl) ?_
          obtain ⟨y12, h11, hq, H⟩ := bd_some H
          refine g_callVi (M' := M_X5_depthOf) (c := 57) (av := [.inl (w32 (x1 - 10))]) (st := []) (T_X11_tried 33 _ _ _ rfl) ml_X11_190 cb_X5_depthOf rfl rfl (Nat.le_of_ble_eq_true rfl) (by omega) (R_X5_depthOf N _ _ _ hq) ?_
          exact g_iret (T_X11_tried 34 _ _ _ rfl) rfl (qi_of H)
      · replace H := ite_n cc H
        refine g_aload_n (T_X11_tried 20 _ _ _ rfl) rfl ?_
        refine g_getR (c := 0) (r := 58) (T_X11_tried 21 _ _ _ rfl) fl_X11_60 rfl (nR rfl) rfl (by decide) ?_
        refine g_iload_n (T_X11_tried 22 _ _ _ rfl) rfl ?_
        obtain ⟨y14, h13, hq, H⟩ := bd_some H
        refine g_callVi (M' := M_X5_total) (c := 57) (av := [.inl x1]) (st := []) (T_X11_tried 23 _ _ _ rfl) ml_X11_186 cb_X5_total rfl rfl (Nat.le_of_ble_eq_true rfl) (by omega) (R_X5_total N _ _ _ hq) ?_
        exact g_iret (T_X11_tried 24 _ _ _ rfl) rfl (qi_of H)
    · replace H := ite_p cc H
      refine g_iconst (T_X11_tried 9 _ _ _ rfl) ⟨by decide, by decide⟩ ?_
      exact g_iret (T_X11_tried 10 _ _ _ rfl) rfl (qi_of H)
def F_X11_way (N : Nat) (x1 : Int) (x2 : Int) (h : Hp) : Option (Int × Hp) :=
  bd (F_X1_isTold N x1 h) fun y2 h1 =>
  if y2 = 0 then
    some ((-1), h1)
  else
  bd (F_X1_isTold N x2 h1) fun y4 h3 =>
  if y4 = 0 then
    some ((-1), h3)
  else
  bd (F_X7_between N x1 x2 h3) fun y6 h5 =>
  some (y6, h5)
set_option maxRecDepth 100000 in
set_option maxHeartbeats 4000000 in
theorem R_X11_way (N : Nat) (x1 : Int) (x2 : Int) (h : Hp) (res : Int × Hp) (H : F_X11_way N x1 x2 h = some res) : Runs M_X11_way 2 [.inr 1, .inl x1, .inl x2] h (Qi res) := by
  refine Runs.of rfl (Nat.le_of_ble_eq_true rfl) ?_
  show Go M_X11_way 2 0 [some (.inr 1), some (.inl x1), some (.inl x2)] [] h (Qi res)
  unfold F_X11_way at H
  refine g_aload_n (T_X11_way 0 _ _ _ rfl) rfl ?_
  refine g_getR (c := 0) (r := 2) (T_X11_way 1 _ _ _ rfl) fl_X11_28 rfl (nR rfl) rfl (by decide) ?_
  refine g_iload_n (T_X11_way 2 _ _ _ rfl) rfl ?_
  obtain ⟨y2, h1, hq, H⟩ := bd_some H
  refine g_callVi (M' := M_X1_isTold) (c := 1) (av := [.inl x1]) (st := []) (T_X11_way 3 _ _ _ rfl) ml_X11_112 cb_X1_isTold rfl rfl (Nat.le_of_ble_eq_true rfl) (by omega) (R_X1_isTold N _ _ _ hq) ?_
  refine g_if_eq (tgt := 22) (T_X11_way 4 _ _ _ rfl) (by decide) (fun cc => ?_) (fun cc => ?_)
  · replace H := ite_p cc H
    refine g_iconst (T_X11_way 10 _ _ _ rfl) ⟨by decide, by decide⟩ ?_
    exact g_iret (T_X11_way 11 _ _ _ rfl) rfl (qi_of H)
  · replace H := ite_n cc H
    refine g_aload_n (T_X11_way 5 _ _ _ rfl) rfl ?_
    refine g_getR (c := 0) (r := 2) (T_X11_way 6 _ _ _ rfl) fl_X11_28 rfl (nR rfl) rfl (by decide) ?_
    refine g_iload_n (T_X11_way 7 _ _ _ rfl) rfl ?_
    obtain ⟨y4, h3, hq, H⟩ := bd_some H
    refine g_callVi (M' := M_X1_isTold) (c := 1) (av := [.inl x2]) (st := []) (T_X11_way 8 _ _ _ rfl) ml_X11_112 cb_X1_isTold rfl rfl (Nat.le_of_ble_eq_true rfl) (by omega) (R_X1_isTold N _ _ _ hq) ?_
    refine g_if_ne (tgt := 24) (T_X11_way 9 _ _ _ rfl) (by decide) (fun cc => ?_) (fun cc => ?_)
    · replace H := ite_n cc H
      refine g_aload_n (T_X11_way 12 _ _ _ rfl) rfl ?_
      refine g_getR (c := 0) (r := 8) (T_X11_way 13 _ _ _ rfl) fl_X11_32 rfl (nR rfl) rfl (by decide) ?_
      refine g_iload_n (T_X11_way 14 _ _ _ rfl) rfl ?_
      refine g_iload_n (T_X11_way 15 _ _ _ rfl) rfl ?_
      obtain ⟨y6, h5, hq, H⟩ := bd_some H
      refine g_callVi (M' := M_X7_between) (c := 7) (av := [.inl x1, .inl x2]) (st := []) (T_X11_way 16 _ _ _ rfl) ml_X11_199 cb_X7_between rfl rfl (Nat.le_of_ble_eq_true rfl) (by omega) (R_X7_between N _ _ _ _ hq) ?_
      exact g_iret (T_X11_way 17 _ _ _ rfl) rfl (qi_of H)
    · replace H := ite_p cc H
      refine g_iconst (T_X11_way 10 _ _ _ rfl) ⟨by decide, by decide⟩ ?_
      exact g_iret (T_X11_way 11 _ _ _ rfl) rfl (qi_of H)
def F_J6_bitCount_0f7a4 (N : Nat) (x0 : Int) (h : Hp) : Option (Int × Hp) :=
  bnd ((w32 (x0 - (iand (iushr x0 1) 1431655765)))) fun y1 =>
  bnd ((w32 ((iand y1 858993459) + (iand (iushr y1 2) 858993459)))) fun y2 =>
  bnd ((iand (w32 (y2 + (iushr y2 4))) 252645135)) fun y3 =>
  bnd ((w32 (y3 + (iushr y3 8)))) fun y4 =>
  bnd ((w32 (y4 + (iushr y4 16)))) fun y5 =>
  some ((iand y5 63), h)
set_option maxRecDepth 100000 in
set_option maxHeartbeats 4000000 in
theorem R_J6_bitCount_0f7a4 (N : Nat) (x0 : Int) (h : Hp) (res : Int × Hp) (H : F_J6_bitCount_0f7a4 N x0 h = some res) : Runs M_J6_bitCount_0f7a4 1 [.inl x0] h (Qi res) := by
  refine Runs.of rfl (Nat.le_of_ble_eq_true rfl) ?_
  show Go M_J6_bitCount_0f7a4 1 0 [some (.inl x0)] [] h (Qi res)
  unfold F_J6_bitCount_0f7a4 at H
  refine g_iload_n (T_J6_bitCount_0f7a4 0 _ _ _ rfl) rfl ?_
  refine g_iload_n (T_J6_bitCount_0f7a4 1 _ _ _ rfl) rfl ?_
  refine g_iconst (T_J6_bitCount_0f7a4 2 _ _ _ rfl) ⟨by decide, by decide⟩ ?_
  refine g_iushr (T_J6_bitCount_0f7a4 3 _ _ _ rfl) ?_
  refine g_ldcw (T_J6_bitCount_0f7a4 4 _ _ _ rfl) kc_J6_265 ⟨by decide, by decide⟩ ?_
  refine g_iand (T_J6_bitCount_0f7a4 5 _ _ _ rfl) ?_
  refine g_isub (T_J6_bitCount_0f7a4 6 _ _ _ rfl) ?_
  refine g_bndI H fun y1 H => ?_
  refine g_istore_n (T_J6_bitCount_0f7a4 7 _ _ _ rfl) (by decide) ?_
  refine g_iload_n (T_J6_bitCount_0f7a4 8 _ _ _ rfl) rfl ?_
  refine g_ldcw (T_J6_bitCount_0f7a4 9 _ _ _ rfl) kc_J6_266 ⟨by decide, by decide⟩ ?_
  refine g_iand (T_J6_bitCount_0f7a4 10 _ _ _ rfl) ?_
  refine g_iload_n (T_J6_bitCount_0f7a4 11 _ _ _ rfl) rfl ?_
  refine g_iconst (T_J6_bitCount_0f7a4 12 _ _ _ rfl) ⟨by decide, by decide⟩ ?_
  refine g_iushr (T_J6_bitCount_0f7a4 13 _ _ _ rfl) ?_
  refine g_ldcw (T_J6_bitCount_0f7a4 14 _ _ _ rfl) kc_J6_266 ⟨by decide, by decide⟩ ?_
  refine g_iand (T_J6_bitCount_0f7a4 15 _ _ _ rfl) ?_
  refine g_iadd (T_J6_bitCount_0f7a4 16 _ _ _ rfl) ?_
  refine g_bndI H fun y2 H => ?_
  refine g_istore_n (T_J6_bitCount_0f7a4 17 _ _ _ rfl) (by decide) ?_
  refine g_iload_n (T_J6_bitCount_0f7a4 18 _ _ _ rfl) rfl ?_
  refine g_iload_n (T_J6_bitCount_0f7a4 19 _ _ _ rfl) rfl ?_
  refine g_iconst (T_J6_bitCount_0f7a4 20 _ _ _ rfl) ⟨by decide, by decide⟩ ?_
  refine g_iushr (T_J6_bitCount_0f7a4 21 _ _ _ rfl) ?_
  refine g_iadd (T_J6_bitCount_0f7a4 22 _ _ _ rfl) ?_
  refine g_ldcw (T_J6_bitCount_0f7a4 23 _ _ _ rfl) kc_J6_267 ⟨by decide, by decide⟩ ?_
  refine g_iand (T_J6_bitCount_0f7a4 24 _ _ _ rfl) ?_
  refine g_bndI H fun y3 H => ?_
  refine g_istore_n (T_J6_bitCount_0f7a4 25 _ _ _ rfl) (by decide) ?_
  refine g_iload_n (T_J6_bitCount_0f7a4 26 _ _ _ rfl) rfl ?_
  refine g_iload_n (T_J6_bitCount_0f7a4 27 _ _ _ rfl) rfl ?_
  refine g_bipush (T_J6_bitCount_0f7a4 28 _ _ _ rfl) (by decide) ?_
  refine g_iushr (T_J6_bitCount_0f7a4 29 _ _ _ rfl) ?_
  refine g_iadd (T_J6_bitCount_0f7a4 30 _ _ _ rfl) ?_
  refine g_bndI H fun y4 H => ?_
  refine g_istore_n (T_J6_bitCount_0f7a4 31 _ _ _ rfl) (by decide) ?_
  refine g_iload_n (T_J6_bitCount_0f7a4 32 _ _ _ rfl) rfl ?_
  refine g_iload_n (T_J6_bitCount_0f7a4 33 _ _ _ rfl) rfl ?_
  refine g_bipush (T_J6_bitCount_0f7a4 34 _ _ _ rfl) (by decide) ?_
  refine g_iushr (T_J6_bitCount_0f7a4 35 _ _ _ rfl) ?_
  refine g_iadd (T_J6_bitCount_0f7a4 36 _ _ _ rfl) ?_
  refine g_bndI H fun y5 H => ?_
  refine g_istore_n (T_J6_bitCount_0f7a4 37 _ _ _ rfl) (by decide) ?_
  refine g_iload_n (T_J6_bitCount_0f7a4 38 _ _ _ rfl) rfl ?_
  refine g_bipush (T_J6_bitCount_0f7a4 39 _ _ _ rfl) (by decide) ?_
  refine g_iand (T_J6_bitCount_0f7a4 40 _ _ _ rfl) ?_
  exact g_iret (T_J6_bitCount_0f7a4 41 _ _ _ rfl) rfl (qi_of H)
def F_X1_areTold (N : Nat) (x1 : Int) (x2 : Int) (h : Hp) : Option (Int × Hp) :=
  if (iand x1 (ixor (h 1 4) (-1))) = 0 then
    bd (F_J6_bitCount_0f7a4 N x1 h) fun y2 h1 =>
    bd (F_X11_isWithin N y2 1 x2 h1) fun y4 h3 =>
    if y4 = 0 then
      some (0, h3)
    else
    some (1, h3)
  else
  some (0, h)
set_option maxRecDepth 100000 in
set_option maxHeartbeats 4000000 in
theorem R_X1_areTold (N : Nat) (x1 : Int) (x2 : Int) (h : Hp) (res : Int × Hp) (H : F_X1_areTold N x1 x2 h = some res) : Runs M_X1_areTold 2 [.inr 2, .inl x1, .inl x2] h (Qi res) := by
  refine Runs.of rfl (Nat.le_of_ble_eq_true rfl) ?_
  show Go M_X1_areTold 2 0 [some (.inr 2), some (.inl x1), some (.inl x2)] [] h (Qi res)
  unfold F_X1_areTold at H
  refine g_iload_n (T_X1_areTold 0 _ _ _ rfl) rfl ?_
  refine g_aload_n (T_X1_areTold 1 _ _ _ rfl) rfl ?_
  refine g_getI (c := 1) (T_X1_areTold 2 _ _ _ rfl) fl_X1_27 rfl (Or.inl rfl) ?_
  refine g_iconst (T_X1_areTold 3 _ _ _ rfl) ⟨by decide, by decide⟩ ?_
  refine g_ixor (T_X1_areTold 4 _ _ _ rfl) ?_
  refine g_iand (T_X1_areTold 5 _ _ _ rfl) ?_
  refine g_if_ne (tgt := 27) (T_X1_areTold 6 _ _ _ rfl) (by decide) (fun cc => ?_) (fun cc => ?_)
  · replace H := ite_n cc H
    refine g_iconst (T_X1_areTold 15 _ _ _ rfl) ⟨by decide, by decide⟩ ?_
    exact g_zret (T_X1_areTold 16 _ _ _ rfl) rfl (by decide) (qi_of H)
  · replace H := ite_p cc H
    refine g_iload_n (T_X1_areTold 7 _ _ _ rfl) rfl ?_
    obtain ⟨y2, h1, hq, H⟩ := bd_some H
    refine g_callSi (M' := M_J6_bitCount_0f7a4) (av := [.inl x1]) (st := []) (T_X1_areTold 8 _ _ _ rfl) ml_X1_31 cb_J6_bitCount_0f7a4 rfl (Nat.le_of_ble_eq_true rfl) (by omega) (R_J6_bitCount_0f7a4 N _ _ _ hq) ?_
    refine g_iconst (T_X1_areTold 9 _ _ _ rfl) ⟨by decide, by decide⟩ ?_
    refine g_iload_n (T_X1_areTold 10 _ _ _ rfl) rfl ?_
    obtain ⟨y4, h3, hq, H⟩ := bd_some H
    refine g_callSNi (M' := M_X11_isWithin) (av := [.inl y2, .inl 1, .inl x2]) (st := []) (T_X1_areTold 11 _ _ _ rfl) ml_X1_37 cb_X11_isWithin rfl (Nat.le_of_ble_eq_true rfl) (by omega) (R_X11_isWithin N _ _ _ _ _ hq) ?_
    refine g_if_eq (tgt := 27) (T_X1_areTold 12 _ _ _ rfl) (by decide) (fun cc => ?_) (fun cc => ?_)
    · replace H := ite_p cc H
      refine g_iconst (T_X1_areTold 15 _ _ _ rfl) ⟨by decide, by decide⟩ ?_
      exact g_zret (T_X1_areTold 16 _ _ _ rfl) rfl (by decide) (qi_of H)
    · replace H := ite_n cc H
      refine g_iconst (T_X1_areTold 13 _ _ _ rfl) ⟨by decide, by decide⟩ ?_
      refine g_goto (tgt := 28) (T_X1_areTold 14 _ _ _ rfl) (by decide) ?_
      exact g_zret (T_X1_areTold 16 _ _ _ rfl) rfl (by decide) (qi_of H)
def F_X11_hasBit (N : Nat) (x0 : Int) (x1 : Int) (h : Hp) : Option (Int × Hp) :=
  if (iand (ishr x0 x1) 1) = 1 then
    some (1, h)
  else
  some (0, h)
set_option maxRecDepth 100000 in
set_option maxHeartbeats 4000000 in
theorem R_X11_hasBit (N : Nat) (x0 : Int) (x1 : Int) (h : Hp) (res : Int × Hp) (H : F_X11_hasBit N x0 x1 h = some res) : Runs M_X11_hasBit 1 [.inl x0, .inl x1] h (Qi res) := by
  refine Runs.of rfl (Nat.le_of_ble_eq_true rfl) ?_
  show Go M_X11_hasBit 1 0 [some (.inl x0), some (.inl x1)] [] h (Qi res)
  unfold F_X11_hasBit at H
  refine g_iload_n (T_X11_hasBit 0 _ _ _ rfl) rfl ?_
  refine g_iload_n (T_X11_hasBit 1 _ _ _ rfl) rfl ?_
  refine g_ishr (T_X11_hasBit 2 _ _ _ rfl) ?_
  refine g_iconst (T_X11_hasBit 3 _ _ _ rfl) ⟨by decide, by decide⟩ ?_
  refine g_iand (T_X11_hasBit 4 _ _ _ rfl) ?_
  refine g_iconst (T_X11_hasBit 5 _ _ _ rfl) ⟨by decide, by decide⟩ ?_
  refine g_icmp_ne (tgt := 13) (T_X11_hasBit 6 _ _ _ rfl) (by decide) (fun cc => ?_) (fun cc => ?_)
  · replace H := ite_n cc H
    refine g_iconst (T_X11_hasBit 9 _ _ _ rfl) ⟨by decide, by decide⟩ ?_
    exact g_zret (T_X11_hasBit 10 _ _ _ rfl) rfl (by decide) (qi_of H)
  · replace H := ite_p cc H
    refine g_iconst (T_X11_hasBit 7 _ _ _ rfl) ⟨by decide, by decide⟩ ?_
    refine g_goto (tgt := 14) (T_X11_hasBit 8 _ _ _ rfl) (by decide) ?_
    exact g_zret (T_X11_hasBit 10 _ _ _ rfl) rfl (by decide) (qi_of H)
def F_X8_minutesBetween (N : Nat) (x1 : Int) (x2 : Int) (h : Hp) : Option (Int × Hp) :=
  grd (0 ≤ x1 ∧ x1 < 8) <|
  grd (0 ≤ x2 ∧ x2 < 8) <|
  bd (F_X7_between N (h 66 x1.toNat) (h 66 x2.toNat) h) fun y2 h1 =>
  some (y2, h1)
set_option maxRecDepth 100000 in
set_option maxHeartbeats 4000000 in
theorem R_X8_minutesBetween (N : Nat) (x1 : Int) (x2 : Int) (h : Hp) (res : Int × Hp) (H : F_X8_minutesBetween N x1 x2 h = some res) : Runs M_X8_minutesBetween 2 [.inr 66, .inl x1, .inl x2] h (Qi res) := by
  refine Runs.of rfl (Nat.le_of_ble_eq_true rfl) ?_
  show Go M_X8_minutesBetween 2 0 [some (.inr 66), some (.inl x1), some (.inl x2)] [] h (Qi res)
  unfold F_X8_minutesBetween at H
  refine g_aload_n (T_X8_minutesBetween 0 _ _ _ rfl) rfl ?_
  refine g_getR (c := 65) (r := 8) (T_X8_minutesBetween 1 _ _ _ rfl) fl_X8_21 rfl (nR rfl) rfl (by decide) ?_
  refine g_aload_n (T_X8_minutesBetween 2 _ _ _ rfl) rfl ?_
  refine g_getR (c := 65) (r := 67) (T_X8_minutesBetween 3 _ _ _ rfl) fl_X8_11 rfl (nR rfl) rfl (by decide) ?_
  refine g_iload_n (T_X8_minutesBetween 4 _ _ _ rfl) rfl ?_
  obtain ⟨hg, H⟩ := grd_some H
  refine g_iald (c := 66) (T_X8_minutesBetween 5 _ _ _ rfl) rfl hg ?_
  refine g_aload_n (T_X8_minutesBetween 6 _ _ _ rfl) rfl ?_
  refine g_getR (c := 65) (r := 67) (T_X8_minutesBetween 7 _ _ _ rfl) fl_X8_11 rfl (nR rfl) rfl (by decide) ?_
  refine g_iload_n (T_X8_minutesBetween 8 _ _ _ rfl) rfl ?_
  obtain ⟨hg, H⟩ := grd_some H
  refine g_iald (c := 66) (T_X8_minutesBetween 9 _ _ _ rfl) rfl hg ?_
  obtain ⟨y2, h1, hq, H⟩ := bd_some H
  refine g_callVi (M' := M_X7_between) (c := 7) (av := [.inl (h 66 x1.toNat), .inl (h 66 x2.toNat)]) (st := []) (T_X8_minutesBetween 10 _ _ _ rfl) ml_X8_33 cb_X7_between rfl rfl (Nat.le_of_ble_eq_true rfl) (by omega) (R_X7_between N _ _ _ _ hq) ?_
  exact g_iret (T_X8_minutesBetween 11 _ _ _ rfl) rfl (qi_of H)
def F_X8_minutesOver (N : Nat) (x1 : Int) (x2 : Int) (x3 : Int) (h : Hp) : Option (Int × Hp) :=
  bd (F_X8_minutesBetween N x1 x2 h) fun y2 h1 =>
  grd (0 ≤ (w32 ((w32 ((iand x3 (ixor (ishl 1 x2) (-1))) * 8)) + x2)) ∧ (w32 ((w32 ((iand x3 (ixor (ishl 1 x2) (-1))) * 8)) + x2)) < 1024) <|
  some ((w32 (y2 + (h1 67 (w32 ((w32 ((iand x3 (ixor (ishl 1 x2) (-1))) * 8)) + x2)).toNat))), h1)
set_option maxRecDepth 100000 in
set_option maxHeartbeats 4000000 in
theorem R_X8_minutesOver (N : Nat) (x1 : Int) (x2 : Int) (x3 : Int) (h : Hp) (res : Int × Hp) (H : F_X8_minutesOver N x1 x2 x3 h = some res) : Runs M_X8_minutesOver 3 [.inr 66, .inl x1, .inl x2, .inl x3] h (Qi res) := by
  refine Runs.of rfl (Nat.le_of_ble_eq_true rfl) ?_
  show Go M_X8_minutesOver 3 0 [some (.inr 66), some (.inl x1), some (.inl x2), some (.inl x3)] [] h (Qi res)
  unfold F_X8_minutesOver at H
  refine g_aload_n (T_X8_minutesOver 0 _ _ _ rfl) rfl ?_
  refine g_iload_n (T_X8_minutesOver 1 _ _ _ rfl) rfl ?_
  refine g_iload_n (T_X8_minutesOver 2 _ _ _ rfl) rfl ?_
  obtain ⟨y2, h1, hq, H⟩ := bd_some H
  refine g_callVi (M' := M_X8_minutesBetween) (c := 65) (av := [.inl x1, .inl x2]) (st := []) (T_X8_minutesOver 3 _ _ _ rfl) ml_X8_49 cb_X8_minutesBetween rfl rfl (Nat.le_of_ble_eq_true rfl) (by omega) (R_X8_minutesBetween N _ _ _ _ hq) ?_
  refine g_aload_n (T_X8_minutesOver 4 _ _ _ rfl) rfl ?_
  refine g_getR (c := 65) (r := 68) (T_X8_minutesOver 5 _ _ _ rfl) fl_X8_15 rfl (nR rfl) rfl (by decide) ?_
  refine g_iload_n (T_X8_minutesOver 6 _ _ _ rfl) rfl ?_
  refine g_iconst (T_X8_minutesOver 7 _ _ _ rfl) ⟨by decide, by decide⟩ ?_
  refine g_iload_n (T_X8_minutesOver 8 _ _ _ rfl) rfl ?_
  refine g_ishl (T_X8_minutesOver 9 _ _ _ rfl) ?_
  refine g_iconst (T_X8_minutesOver 10 _ _ _ rfl) ⟨by decide, by decide⟩ ?_
  refine g_ixor (T_X8_minutesOver 11 _ _ _ rfl) ?_
  refine g_iand (T_X8_minutesOver 12 _ _ _ rfl) ?_
  refine g_bipush (T_X8_minutesOver 13 _ _ _ rfl) (by decide) ?_
  refine g_imul (T_X8_minutesOver 14 _ _ _ rfl) ?_
  refine g_iload_n (T_X8_minutesOver 15 _ _ _ rfl) rfl ?_
  refine g_iadd (T_X8_minutesOver 16 _ _ _ rfl) ?_
  obtain ⟨hg, H⟩ := grd_some H
  refine g_iald (c := 67) (T_X8_minutesOver 17 _ _ _ rfl) rfl hg ?_
  refine g_iadd (T_X8_minutesOver 18 _ _ _ rfl) ?_
  exact g_iret (T_X8_minutesOver 19 _ _ _ rfl) rfl (qi_of H)
def J_X8_leastFrom_49 (N : Nat) (k18 : Int → Int → Int → Int → Hp → Option (Int × Hp)) (x1 : Int) (x2 : Int) (x3 : Int) (x4 : Int) (h : Hp) : Option (Int × Hp) :=
  bnd (w32 (x4 + 1)) fun y1 =>
  k18 x1 x2 x3 y1 h
set_option maxRecDepth 100000 in
set_option maxHeartbeats 4000000 in
theorem R_J_X8_leastFrom_49 (N : Nat) (k18 : Int → Int → Int → Int → Hp → Option (Int × Hp)) (hk18 : ∀ (x1 : Int) (x2 : Int) (x3 : Int) (x4 : Int) (h : Hp) (res : Int × Hp), k18 x1 x2 x3 x4 h = some res → Go M_X8_leastFrom 4 18 [some (.inr 66), some (.inl x1), some (.inl x2), some (.inl x3), some (.inl x4)] [] h (Qi res)) (x1 : Int) (x2 : Int) (x3 : Int) (x4 : Int) (h : Hp) (res : Int × Hp) (H : J_X8_leastFrom_49 N k18 x1 x2 x3 x4 h = some res) : Go M_X8_leastFrom 4 49 [some (.inr 66), some (.inl x1), some (.inl x2), some (.inl x3), some (.inl x4)] [] h (Qi res) := by
  unfold J_X8_leastFrom_49 at H
  refine g_iincB (T_X8_leastFrom 27 _ _ _ rfl) rfl (by decide) H fun y1 H => ?_
  refine g_goto (tgt := 18) (T_X8_leastFrom 28 _ _ _ rfl) (by decide) ?_
  refine g_weak [true, true, true, true, true] ?_
  exact hk18 _ _ _ _ _ _ H
def L_X8_leastFrom_18 (N : Nat) : Nat → Int → Int → Int → Int → Hp → Option (Int × Hp)
  | 0, _, _, _, _, _ => none
  | n + 1, x1, x2, x3, x4, h =>
    if (h 65 4) ≤ x4 then
      some (x3, h)
    else
    bd (F_X11_hasBit N x2 x4 h) fun y2 h1 =>
    if y2 = 0 then
      J_X8_leastFrom_49 N (L_X8_leastFrom_18 N n) x1 x2 x3 x4 h1
    else
    bd (F_X8_minutesOver N x1 x4 x2 h1) fun y4 h3 =>
    bnd ((imin x3 y4)) fun y5 =>
    J_X8_leastFrom_49 N (L_X8_leastFrom_18 N n) x1 x2 y5 x4 h3
set_option maxRecDepth 100000 in
set_option maxHeartbeats 4000000 in
theorem R_L_X8_leastFrom_18 (N : Nat) : ∀ (n : Nat) (x1 : Int) (x2 : Int) (x3 : Int) (x4 : Int) (h : Hp) (res : Int × Hp), L_X8_leastFrom_18 N n x1 x2 x3 x4 h = some res → Go M_X8_leastFrom 4 18 [some (.inr 66), some (.inl x1), some (.inl x2), some (.inl x3), some (.inl x4)] [] h (Qi res)
  | 0, _, _, _, _, _, _, H => by cases H
  | n + 1, x1, x2, x3, x4, h, res, H => by
    have ih := R_L_X8_leastFrom_18 N n
    simp only [L_X8_leastFrom_18] at H
    refine g_iload (T_X8_leastFrom 11 _ _ _ rfl) rfl ?_
    refine g_aload_n (T_X8_leastFrom 12 _ _ _ rfl) rfl ?_
    refine g_getI (c := 65) (T_X8_leastFrom 13 _ _ _ rfl) fl_X8_25 rfl (Or.inl rfl) ?_
    refine g_icmp_ge (tgt := 55) (T_X8_leastFrom 14 _ _ _ rfl) (by decide) (fun cc => ?_) (fun cc => ?_)
    · replace H := ite_p cc H
      refine g_iload_n (T_X8_leastFrom 29 _ _ _ rfl) rfl ?_
      exact g_iret (T_X8_leastFrom 30 _ _ _ rfl) rfl (qi_of H)
    · replace H := ite_n cc H
      refine g_iload_n (T_X8_leastFrom 15 _ _ _ rfl) rfl ?_
      refine g_iload (T_X8_leastFrom 16 _ _ _ rfl) rfl ?_
      obtain ⟨y2, h1, hq, H⟩ := bd_some H
      refine g_callSNi (M' := M_X11_hasBit) (av := [.inl x2, .inl x4]) (st := []) (T_X8_leastFrom 17 _ _ _ rfl) ml_X8_29 cb_X11_hasBit rfl (Nat.le_of_ble_eq_true rfl) (by omega) (R_X11_hasBit N _ _ _ _ hq) ?_
      refine g_if_eq (tgt := 49) (T_X8_leastFrom 18 _ _ _ rfl) (by decide) (fun cc => ?_) (fun cc => ?_)
      · replace H := ite_p cc H
        refine g_weak [true, true, true, true, true] ?_
        exact R_J_X8_leastFrom_49 N (L_X8_leastFrom_18 N n) ih _ _ _ _ _ _ H
      · replace H := ite_n cc H
        refine g_iload_n (T_X8_leastFrom 19 _ _ _ rfl) rfl ?_
        refine g_aload_n (T_X8_leastFrom 20 _ _ _ rfl) rfl ?_
        refine g_iload_n (T_X8_leastFrom 21 _ _ _ rfl) rfl ?_
        refine g_iload (T_X8_leastFrom 22 _ _ _ rfl) rfl ?_
        refine g_iload_n (T_X8_leastFrom 23 _ _ _ rfl) rfl ?_
        obtain ⟨y4, h3, hq, H⟩ := bd_some H
        refine g_callVi (M' := M_X8_minutesOver) (c := 65) (av := [.inl x1, .inl x4, .inl x2]) (st := [.inl x3]) (T_X8_leastFrom 24 _ _ _ rfl) ml_X8_55 cb_X8_minutesOver rfl rfl (Nat.le_of_ble_eq_true rfl) (by omega) (R_X8_minutesOver N _ _ _ _ _ hq) ?_
        refine g_min (st := []) (T_X8_leastFrom 25 _ _ _ rfl) ml_X8_59 wmin (Nat.le_of_ble_eq_true rfl) (by omega) ?_
        refine g_bndI H fun y5 H => ?_
        refine g_istore_n (T_X8_leastFrom 26 _ _ _ rfl) (by decide) ?_
        refine g_weak [true, true, true, true, true] ?_
        exact R_J_X8_leastFrom_49 N (L_X8_leastFrom_18 N n) ih _ _ _ _ _ _ H
def F_X8_leastFrom (N : Nat) (x1 : Int) (x2 : Int) (h : Hp) : Option (Int × Hp) :=
  if x2 = 0 then
    bd (F_X8_minutesBetween N x1 7 h) fun y2 h1 =>
    some (y2, h1)
  else
  L_X8_leastFrom_18 N  N x1 x2 2147483647 0 h
set_option maxRecDepth 100000 in
set_option maxHeartbeats 4000000 in
theorem R_X8_leastFrom (N : Nat) (x1 : Int) (x2 : Int) (h : Hp) (res : Int × Hp) (H : F_X8_leastFrom N x1 x2 h = some res) : Runs M_X8_leastFrom 4 [.inr 66, .inl x1, .inl x2] h (Qi res) := by
  refine Runs.of rfl (Nat.le_of_ble_eq_true rfl) ?_
  show Go M_X8_leastFrom 4 0 [some (.inr 66), some (.inl x1), some (.inl x2), none, none] [] h (Qi res)
  unfold F_X8_leastFrom at H
  refine g_iload_n (T_X8_leastFrom 0 _ _ _ rfl) rfl ?_
  refine g_if_ne (tgt := 12) (T_X8_leastFrom 1 _ _ _ rfl) (by decide) (fun cc => ?_) (fun cc => ?_)
  · replace H := ite_n cc H
    refine g_ldc (T_X8_leastFrom 7 _ _ _ rfl) kc_X8_54 ⟨by decide, by decide⟩ ?_
    refine g_istore_n (T_X8_leastFrom 8 _ _ _ rfl) (by decide) ?_
    refine g_iconst (T_X8_leastFrom 9 _ _ _ rfl) ⟨by decide, by decide⟩ ?_
    refine g_istore (T_X8_leastFrom 10 _ _ _ rfl) (by decide) ?_
    refine g_weak [true, true, true, true, true] ?_
    refine R_L_X8_leastFrom_18 N   _ _ _ _ _ _ _ H
  · replace H := ite_p cc H
    refine g_aload_n (T_X8_leastFrom 2 _ _ _ rfl) rfl ?_
    refine g_iload_n (T_X8_leastFrom 3 _ _ _ rfl) rfl ?_
    refine g_bipush (T_X8_leastFrom 4 _ _ _ rfl) (by decide) ?_
    obtain ⟨y2, h1, hq, H⟩ := bd_some H
    refine g_callVi (M' := M_X8_minutesBetween) (c := 65) (av := [.inl x1, .inl 7]) (st := []) (T_X8_leastFrom 5 _ _ _ rfl) ml_X8_49 cb_X8_minutesBetween rfl rfl (Nat.le_of_ble_eq_true rfl) (by omega) (R_X8_minutesBetween N _ _ _ _ hq) ?_
    exact g_iret (T_X8_leastFrom 6 _ _ _ rfl) rfl (qi_of H)
def J_X8_firstThatMeets_36 (N : Nat) (k3 : Int → Int → Int → Int → Hp → Option (Int × Hp)) (x1 : Int) (x2 : Int) (x3 : Int) (x4 : Int) (h : Hp) : Option (Int × Hp) :=
  bnd (w32 (x4 + 1)) fun y1 =>
  k3 x1 x2 x3 y1 h
set_option maxRecDepth 100000 in
set_option maxHeartbeats 4000000 in
theorem R_J_X8_firstThatMeets_36 (N : Nat) (k3 : Int → Int → Int → Int → Hp → Option (Int × Hp)) (hk3 : ∀ (x1 : Int) (x2 : Int) (x3 : Int) (x4 : Int) (h : Hp) (res : Int × Hp), k3 x1 x2 x3 x4 h = some res → Go M_X8_firstThatMeets 4 3 [some (.inr 66), some (.inl x1), some (.inl x2), some (.inl x3), some (.inl x4)] [] h (Qi res)) (x1 : Int) (x2 : Int) (x3 : Int) (x4 : Int) (h : Hp) (res : Int × Hp) (H : J_X8_firstThatMeets_36 N k3 x1 x2 x3 x4 h = some res) : Go M_X8_firstThatMeets 4 36 [some (.inr 66), some (.inl x1), some (.inl x2), some (.inl x3), some (.inl x4)] [] h (Qi res) := by
  unfold J_X8_firstThatMeets_36 at H
  refine g_iincB (T_X8_firstThatMeets 19 _ _ _ rfl) rfl (by decide) H fun y1 H => ?_
  refine g_goto (tgt := 3) (T_X8_firstThatMeets 20 _ _ _ rfl) (by decide) ?_
  refine g_weak [true, true, true, true, true] ?_
  exact hk3 _ _ _ _ _ _ H
def L_X8_firstThatMeets_3 (N : Nat) : Nat → Int → Int → Int → Int → Hp → Option (Int × Hp)
  | 0, _, _, _, _, _ => none
  | n + 1, x1, x2, x3, x4, h =>
    if (h 65 4) ≤ x4 then
      some (0, h)
    else
    bd (F_X11_hasBit N x2 x4 h) fun y2 h1 =>
    if y2 = 0 then
      J_X8_firstThatMeets_36 N (L_X8_firstThatMeets_3 N n) x1 x2 x3 x4 h1
    else
    bd (F_X8_minutesOver N x1 x4 x2 h1) fun y4 h3 =>
    if y4 = x3 then
      some (x4, h3)
    else
    J_X8_firstThatMeets_36 N (L_X8_firstThatMeets_3 N n) x1 x2 x3 x4 h3
set_option maxRecDepth 100000 in
set_option maxHeartbeats 4000000 in
theorem R_L_X8_firstThatMeets_3 (N : Nat) : ∀ (n : Nat) (x1 : Int) (x2 : Int) (x3 : Int) (x4 : Int) (h : Hp) (res : Int × Hp), L_X8_firstThatMeets_3 N n x1 x2 x3 x4 h = some res → Go M_X8_firstThatMeets 4 3 [some (.inr 66), some (.inl x1), some (.inl x2), some (.inl x3), some (.inl x4)] [] h (Qi res)
  | 0, _, _, _, _, _, _, H => by cases H
  | n + 1, x1, x2, x3, x4, h, res, H => by
    have ih := R_L_X8_firstThatMeets_3 N n
    simp only [L_X8_firstThatMeets_3] at H
    refine g_iload (T_X8_firstThatMeets 2 _ _ _ rfl) rfl ?_
    refine g_aload_n (T_X8_firstThatMeets 3 _ _ _ rfl) rfl ?_
    refine g_getI (c := 65) (T_X8_firstThatMeets 4 _ _ _ rfl) fl_X8_25 rfl (Or.inl rfl) ?_
    refine g_icmp_ge (tgt := 42) (T_X8_firstThatMeets 5 _ _ _ rfl) (by decide) (fun cc => ?_) (fun cc => ?_)
    · replace H := ite_p cc H
      refine g_iconst (T_X8_firstThatMeets 21 _ _ _ rfl) ⟨by decide, by decide⟩ ?_
      exact g_iret (T_X8_firstThatMeets 22 _ _ _ rfl) rfl (qi_of H)
    · replace H := ite_n cc H
      refine g_iload_n (T_X8_firstThatMeets 6 _ _ _ rfl) rfl ?_
      refine g_iload (T_X8_firstThatMeets 7 _ _ _ rfl) rfl ?_
      obtain ⟨y2, h1, hq, H⟩ := bd_some H
      refine g_callSNi (M' := M_X11_hasBit) (av := [.inl x2, .inl x4]) (st := []) (T_X8_firstThatMeets 8 _ _ _ rfl) ml_X8_29 cb_X11_hasBit rfl (Nat.le_of_ble_eq_true rfl) (by omega) (R_X11_hasBit N _ _ _ _ hq) ?_
      refine g_if_eq (tgt := 36) (T_X8_firstThatMeets 9 _ _ _ rfl) (by decide) (fun cc => ?_) (fun cc => ?_)
      · replace H := ite_p cc H
        refine g_weak [true, true, true, true, true] ?_
        exact R_J_X8_firstThatMeets_36 N (L_X8_firstThatMeets_3 N n) ih _ _ _ _ _ _ H
      · replace H := ite_n cc H
        refine g_aload_n (T_X8_firstThatMeets 10 _ _ _ rfl) rfl ?_
        refine g_iload_n (T_X8_firstThatMeets 11 _ _ _ rfl) rfl ?_
        refine g_iload (T_X8_firstThatMeets 12 _ _ _ rfl) rfl ?_
        refine g_iload_n (T_X8_firstThatMeets 13 _ _ _ rfl) rfl ?_
        obtain ⟨y4, h3, hq, H⟩ := bd_some H
        refine g_callVi (M' := M_X8_minutesOver) (c := 65) (av := [.inl x1, .inl x4, .inl x2]) (st := []) (T_X8_firstThatMeets 14 _ _ _ rfl) ml_X8_55 cb_X8_minutesOver rfl rfl (Nat.le_of_ble_eq_true rfl) (by omega) (R_X8_minutesOver N _ _ _ _ _ hq) ?_
        refine g_iload_n (T_X8_firstThatMeets 15 _ _ _ rfl) rfl ?_
        refine g_icmp_ne (tgt := 36) (T_X8_firstThatMeets 16 _ _ _ rfl) (by decide) (fun cc => ?_) (fun cc => ?_)
        · replace H := ite_n cc H
          refine g_weak [true, true, true, true, true] ?_
          exact R_J_X8_firstThatMeets_36 N (L_X8_firstThatMeets_3 N n) ih _ _ _ _ _ _ H
        · replace H := ite_p cc H
          refine g_iload (T_X8_firstThatMeets 17 _ _ _ rfl) rfl ?_
          exact g_iret (T_X8_firstThatMeets 18 _ _ _ rfl) rfl (qi_of H)
def F_X8_firstThatMeets (N : Nat) (x1 : Int) (x2 : Int) (x3 : Int) (h : Hp) : Option (Int × Hp) :=
  L_X8_firstThatMeets_3 N  N x1 x2 x3 0 h
set_option maxRecDepth 100000 in
set_option maxHeartbeats 4000000 in
theorem R_X8_firstThatMeets (N : Nat) (x1 : Int) (x2 : Int) (x3 : Int) (h : Hp) (res : Int × Hp) (H : F_X8_firstThatMeets N x1 x2 x3 h = some res) : Runs M_X8_firstThatMeets 4 [.inr 66, .inl x1, .inl x2, .inl x3] h (Qi res) := by
  refine Runs.of rfl (Nat.le_of_ble_eq_true rfl) ?_
  show Go M_X8_firstThatMeets 4 0 [some (.inr 66), some (.inl x1), some (.inl x2), some (.inl x3), none] [] h (Qi res)
  unfold F_X8_firstThatMeets at H
  refine g_iconst (T_X8_firstThatMeets 0 _ _ _ rfl) ⟨by decide, by decide⟩ ?_
  refine g_istore (T_X8_firstThatMeets 1 _ _ _ rfl) (by decide) ?_
  refine g_weak [true, true, true, true, true] ?_
  refine R_L_X8_firstThatMeets_3 N   _ _ _ _ _ _ _ H
def L_X8_writeRow_14 (N : Nat) : Nat → Int → Int → Int → Hp → Option (Hp)
  | 0, _, _, _, _ => none
  | n + 1, x1, x2, x3, h =>
    if (h 65 4) ≤ x3 then
      some h
    else
    bd (F_X8_leastFrom N x2 x1 h) fun y2 h1 =>
    bd (F_X8_firstThatMeets N x2 x1 y2 h1) fun y4 h3 =>
    grd (0 ≤ x3 ∧ x3 < 7) <|
    bnd (hw h3 68 x3.toNat y4) fun h5 =>
    bnd ((iand x1 (ixor (ishl 1 y4) (-1)))) fun y6 =>
    bnd (w32 (x3 + 1)) fun y7 =>
    (L_X8_writeRow_14 N n) y6 y4 y7 h5
set_option maxRecDepth 100000 in
set_option maxHeartbeats 4000000 in
theorem R_L_X8_writeRow_14 (N : Nat) : ∀ (n : Nat) (x1 : Int) (x2 : Int) (x3 : Int) (h : Hp) (res : Hp), L_X8_writeRow_14 N n x1 x2 x3 h = some res → Go M_X8_writeRow 5 14 [some (.inr 66), some (.inl x1), some (.inl x2), some (.inl x3), none, none] [] h (Qv res)
  | 0, _, _, _, _, _, H => by cases H
  | n + 1, x1, x2, x3, h, res, H => by
    have ih := R_L_X8_writeRow_14 N n
    simp only [L_X8_writeRow_14] at H
    refine g_iload_n (T_X8_writeRow 11 _ _ _ rfl) rfl ?_
    refine g_aload_n (T_X8_writeRow 12 _ _ _ rfl) rfl ?_
    refine g_getI (c := 65) (T_X8_writeRow 13 _ _ _ rfl) fl_X8_25 rfl (Or.inl rfl) ?_
    refine g_icmp_ge (tgt := 66) (T_X8_writeRow 14 _ _ _ rfl) (by decide) (fun cc => ?_) (fun cc => ?_)
    · replace H := ite_p cc H
      exact g_vret (T_X8_writeRow 43 _ _ _ rfl) rfl (qv_of H)
    · replace H := ite_n cc H
      refine g_aload_n (T_X8_writeRow 15 _ _ _ rfl) rfl ?_
      refine g_iload_n (T_X8_writeRow 16 _ _ _ rfl) rfl ?_
      refine g_iload_n (T_X8_writeRow 17 _ _ _ rfl) rfl ?_
      obtain ⟨y2, h1, hq, H⟩ := bd_some H
      refine g_callVi (M' := M_X8_leastFrom) (c := 65) (av := [.inl x2, .inl x1]) (st := []) (T_X8_writeRow 18 _ _ _ rfl) ml_X8_39 cb_X8_leastFrom rfl rfl (Nat.le_of_ble_eq_true rfl) (by omega) (R_X8_leastFrom N _ _ _ _ hq) ?_
      refine g_istore (T_X8_writeRow 19 _ _ _ rfl) (by decide) ?_
      refine g_aload_n (T_X8_writeRow 20 _ _ _ rfl) rfl ?_
      refine g_iload_n (T_X8_writeRow 21 _ _ _ rfl) rfl ?_
      refine g_iload_n (T_X8_writeRow 22 _ _ _ rfl) rfl ?_
      refine g_iload (T_X8_writeRow 23 _ _ _ rfl) rfl ?_
      obtain ⟨y4, h3, hq, H⟩ := bd_some H
      refine g_callVi (M' := M_X8_firstThatMeets) (c := 65) (av := [.inl x2, .inl x1, .inl y2]) (st := []) (T_X8_writeRow 24 _ _ _ rfl) ml_X8_64 cb_X8_firstThatMeets rfl rfl (Nat.le_of_ble_eq_true rfl) (by omega) (R_X8_firstThatMeets N _ _ _ _ _ hq) ?_
      refine g_istore (T_X8_writeRow 25 _ _ _ rfl) (by decide) ?_
      refine g_aload_n (T_X8_writeRow 26 _ _ _ rfl) rfl ?_
      refine g_getR (c := 65) (r := 69) (T_X8_writeRow 27 _ _ _ rfl) fl_X8_18 rfl (nR rfl) rfl (by decide) ?_
      refine g_iload_n (T_X8_writeRow 28 _ _ _ rfl) rfl ?_
      refine g_iload (T_X8_writeRow 29 _ _ _ rfl) rfl ?_
      obtain ⟨hg, H⟩ := grd_some H
      refine g_iast (c := 68) (T_X8_writeRow 30 _ _ _ rfl) rfl hg ?_
      refine g_bndH H fun h5 H => ?_
      refine g_iload_n (T_X8_writeRow 31 _ _ _ rfl) rfl ?_
      refine g_iconst (T_X8_writeRow 32 _ _ _ rfl) ⟨by decide, by decide⟩ ?_
      refine g_iload (T_X8_writeRow 33 _ _ _ rfl) rfl ?_
      refine g_ishl (T_X8_writeRow 34 _ _ _ rfl) ?_
      refine g_iconst (T_X8_writeRow 35 _ _ _ rfl) ⟨by decide, by decide⟩ ?_
      refine g_ixor (T_X8_writeRow 36 _ _ _ rfl) ?_
      refine g_iand (T_X8_writeRow 37 _ _ _ rfl) ?_
      refine g_bndI H fun y6 H => ?_
      refine g_istore_n (T_X8_writeRow 38 _ _ _ rfl) (by decide) ?_
      refine g_iload (T_X8_writeRow 39 _ _ _ rfl) rfl ?_
      refine g_istore_n (T_X8_writeRow 40 _ _ _ rfl) (by decide) ?_
      refine g_iincB (T_X8_writeRow 41 _ _ _ rfl) rfl (by decide) H fun y7 H => ?_
      refine g_goto (tgt := 14) (T_X8_writeRow 42 _ _ _ rfl) (by decide) ?_
      refine g_weak [true, true, true, true, false, false] ?_
      exact ih _ _ _ _ _ H
def F_X8_writeRow (N : Nat) (h : Hp) : Option (Hp) :=
  bnd ((w32 ((ishl 1 (h 65 4)) - 1))) fun y1 =>
  L_X8_writeRow_14 N  N y1 7 0 h
set_option maxRecDepth 100000 in
set_option maxHeartbeats 4000000 in
theorem R_X8_writeRow (N : Nat) (h : Hp) (res : Hp) (H : F_X8_writeRow N h = some res) : Runs M_X8_writeRow 5 [.inr 66] h (Qv res) := by
  refine Runs.of rfl (Nat.le_of_ble_eq_true rfl) ?_
  show Go M_X8_writeRow 5 0 [some (.inr 66), none, none, none, none, none] [] h (Qv res)
  unfold F_X8_writeRow at H
  refine g_iconst (T_X8_writeRow 0 _ _ _ rfl) ⟨by decide, by decide⟩ ?_
  refine g_aload_n (T_X8_writeRow 1 _ _ _ rfl) rfl ?_
  refine g_getI (c := 65) (T_X8_writeRow 2 _ _ _ rfl) fl_X8_25 rfl (Or.inl rfl) ?_
  refine g_ishl (T_X8_writeRow 3 _ _ _ rfl) ?_
  refine g_iconst (T_X8_writeRow 4 _ _ _ rfl) ⟨by decide, by decide⟩ ?_
  refine g_isub (T_X8_writeRow 5 _ _ _ rfl) ?_
  refine g_bndI H fun y1 H => ?_
  refine g_istore_n (T_X8_writeRow 6 _ _ _ rfl) (by decide) ?_
  refine g_bipush (T_X8_writeRow 7 _ _ _ rfl) (by decide) ?_
  refine g_istore_n (T_X8_writeRow 8 _ _ _ rfl) (by decide) ?_
  refine g_iconst (T_X8_writeRow 9 _ _ _ rfl) ⟨by decide, by decide⟩ ?_
  refine g_istore_n (T_X8_writeRow 10 _ _ _ rfl) (by decide) ?_
  refine g_weak [true, true, true, true, false, false] ?_
  refine R_L_X8_writeRow_14 N   _ _ _ _ _ _ H
def L_X8_find_93 (N : Nat) (k127 : Int → Hp → Option (Int × Hp)) : Nat → Int → Int → Hp → Option (Int × Hp)
  | 0, _, _, _ => none
  | n + 1, x3, x4, h =>
    if (h 65 4) ≤ x4 then
      k127 x3 h
    else
    bd (F_X8_leastFrom N x4 x3 h) fun y2 h1 =>
    grd (0 ≤ (w32 ((w32 (x3 * 8)) + x4)) ∧ (w32 ((w32 (x3 * 8)) + x4)) < 1024) <|
    bnd (hw h1 67 (w32 ((w32 (x3 * 8)) + x4)).toNat y2) fun h3 =>
    bnd (w32 (x4 + 1)) fun y4 =>
    (L_X8_find_93 N k127 n) x3 y4 h3
set_option maxRecDepth 100000 in
set_option maxHeartbeats 4000000 in
theorem R_L_X8_find_93 (N : Nat) (k127 : Int → Hp → Option (Int × Hp)) (hk127 : ∀ (x3 : Int) (h : Hp) (res : Int × Hp), k127 x3 h = some res → Go M_X8_find 6 127 [some (.inr 66), none, none, some (.inl x3), none] [] h (Qi res)) : ∀ (n : Nat) (x3 : Int) (x4 : Int) (h : Hp) (res : Int × Hp), L_X8_find_93 N k127 n x3 x4 h = some res → Go M_X8_find 6 93 [some (.inr 66), none, none, some (.inl x3), some (.inl x4)] [] h (Qi res)
  | 0, _, _, _, _, H => by cases H
  | n + 1, x3, x4, h, res, H => by
    have ih := R_L_X8_find_93 N k127 hk127 n
    simp only [L_X8_find_93] at H
    refine g_iload (T_X8_find 53 _ _ _ rfl) rfl ?_
    refine g_aload_n (T_X8_find 54 _ _ _ rfl) rfl ?_
    refine g_getI (c := 65) (T_X8_find 55 _ _ _ rfl) fl_X8_25 rfl (Or.inl rfl) ?_
    refine g_icmp_ge (tgt := 127) (T_X8_find 56 _ _ _ rfl) (by decide) (fun cc => ?_) (fun cc => ?_)
    · replace H := ite_p cc H
      refine g_weak [true, false, false, true, false] ?_
      exact hk127 _ _ _ H
    · replace H := ite_n cc H
      refine g_aload_n (T_X8_find 57 _ _ _ rfl) rfl ?_
      refine g_getR (c := 65) (r := 68) (T_X8_find 58 _ _ _ rfl) fl_X8_15 rfl (nR rfl) rfl (by decide) ?_
      refine g_iload_n (T_X8_find 59 _ _ _ rfl) rfl ?_
      refine g_bipush (T_X8_find 60 _ _ _ rfl) (by decide) ?_
      refine g_imul (T_X8_find 61 _ _ _ rfl) ?_
      refine g_iload (T_X8_find 62 _ _ _ rfl) rfl ?_
      refine g_iadd (T_X8_find 63 _ _ _ rfl) ?_
      refine g_aload_n (T_X8_find 64 _ _ _ rfl) rfl ?_
      refine g_iload (T_X8_find 65 _ _ _ rfl) rfl ?_
      refine g_iload_n (T_X8_find 66 _ _ _ rfl) rfl ?_
      obtain ⟨y2, h1, hq, H⟩ := bd_some H
      refine g_callVi (M' := M_X8_leastFrom) (c := 65) (av := [.inl x4, .inl x3]) (st := [.inl (w32 ((w32 (x3 * 8)) + x4)), .inr 68]) (T_X8_find 67 _ _ _ rfl) ml_X8_39 cb_X8_leastFrom rfl rfl (Nat.le_of_ble_eq_true rfl) (by omega) (R_X8_leastFrom N _ _ _ _ hq) ?_
      obtain ⟨hg, H⟩ := grd_some H
      refine g_iast (c := 67) (T_X8_find 68 _ _ _ rfl) rfl hg ?_
      refine g_bndH H fun h3 H => ?_
      refine g_iincB (T_X8_find 69 _ _ _ rfl) rfl (by decide) H fun y4 H => ?_
      refine g_goto (tgt := 93) (T_X8_find 70 _ _ _ rfl) (by decide) ?_
      refine g_weak [true, false, false, true, true] ?_
      exact ih _ _ _ _ H
def L_X8_find_80 (N : Nat) : Nat → Int → Hp → Option (Int × Hp)
  | 0, _, _ => none
  | n + 1, x3, h =>
    if (ishl 1 (h 65 4)) ≤ x3 then
      bd (F_X8_leastFrom N 7 (w32 ((ishl 1 (h 65 4)) - 1)) h) fun y2 h1 =>
      grd (0 ≤ (w32 ((w32 ((w32 ((ishl 1 (h 65 4)) - 1)) * 8)) + 7)) ∧ (w32 ((w32 ((w32 ((ishl 1 (h 65 4)) - 1)) * 8)) + 7)) < 1024) <|
      bnd (hw h1 67 (w32 ((w32 ((w32 ((ishl 1 (h 65 4)) - 1)) * 8)) + 7)).toNat y2) fun h3 =>
      bv (F_X8_writeRow N h3) fun h4 =>
      some (1, h4)
    else
    L_X8_find_93 N (fun (v5 : Int) (h6 : Hp) =>
      bnd (w32 (v5 + 1)) fun y7 =>
      (L_X8_find_80 N n) y7 h6) N x3 0 h
set_option maxRecDepth 100000 in
set_option maxHeartbeats 4000000 in
theorem R_L_X8_find_80 (N : Nat) : ∀ (n : Nat) (x3 : Int) (h : Hp) (res : Int × Hp), L_X8_find_80 N n x3 h = some res → Go M_X8_find 6 80 [some (.inr 66), none, none, some (.inl x3), none] [] h (Qi res)
  | 0, _, _, _, H => by cases H
  | n + 1, x3, h, res, H => by
    have ih := R_L_X8_find_80 N n
    simp only [L_X8_find_80] at H
    refine g_iload_n (T_X8_find 45 _ _ _ rfl) rfl ?_
    refine g_iconst (T_X8_find 46 _ _ _ rfl) ⟨by decide, by decide⟩ ?_
    refine g_aload_n (T_X8_find 47 _ _ _ rfl) rfl ?_
    refine g_getI (c := 65) (T_X8_find 48 _ _ _ rfl) fl_X8_25 rfl (Or.inl rfl) ?_
    refine g_ishl (T_X8_find 49 _ _ _ rfl) ?_
    refine g_icmp_ge (tgt := 133) (T_X8_find 50 _ _ _ rfl) (by decide) (fun cc => ?_) (fun cc => ?_)
    · replace H := ite_p cc H
      refine g_aload_n (T_X8_find 73 _ _ _ rfl) rfl ?_
      refine g_getR (c := 65) (r := 68) (T_X8_find 74 _ _ _ rfl) fl_X8_15 rfl (nR rfl) rfl (by decide) ?_
      refine g_iconst (T_X8_find 75 _ _ _ rfl) ⟨by decide, by decide⟩ ?_
      refine g_aload_n (T_X8_find 76 _ _ _ rfl) rfl ?_
      refine g_getI (c := 65) (T_X8_find 77 _ _ _ rfl) fl_X8_25 rfl (Or.inl rfl) ?_
      refine g_ishl (T_X8_find 78 _ _ _ rfl) ?_
      refine g_iconst (T_X8_find 79 _ _ _ rfl) ⟨by decide, by decide⟩ ?_
      refine g_isub (T_X8_find 80 _ _ _ rfl) ?_
      refine g_bipush (T_X8_find 81 _ _ _ rfl) (by decide) ?_
      refine g_imul (T_X8_find 82 _ _ _ rfl) ?_
      refine g_bipush (T_X8_find 83 _ _ _ rfl) (by decide) ?_
      refine g_iadd (T_X8_find 84 _ _ _ rfl) ?_
      refine g_aload_n (T_X8_find 85 _ _ _ rfl) rfl ?_
      refine g_bipush (T_X8_find 86 _ _ _ rfl) (by decide) ?_
      refine g_iconst (T_X8_find 87 _ _ _ rfl) ⟨by decide, by decide⟩ ?_
      refine g_aload_n (T_X8_find 88 _ _ _ rfl) rfl ?_
      refine g_getI (c := 65) (T_X8_find 89 _ _ _ rfl) fl_X8_25 rfl (Or.inl rfl) ?_
      refine g_ishl (T_X8_find 90 _ _ _ rfl) ?_
      refine g_iconst (T_X8_find 91 _ _ _ rfl) ⟨by decide, by decide⟩ ?_
      refine g_isub (T_X8_find 92 _ _ _ rfl) ?_
      obtain ⟨y2, h1, hq, H⟩ := bd_some H
      refine g_callVi (M' := M_X8_leastFrom) (c := 65) (av := [.inl 7, .inl (w32 ((ishl 1 (h 65 4)) - 1))]) (st := [.inl (w32 ((w32 ((w32 ((ishl 1 (h 65 4)) - 1)) * 8)) + 7)), .inr 68]) (T_X8_find 93 _ _ _ rfl) ml_X8_39 cb_X8_leastFrom rfl rfl (Nat.le_of_ble_eq_true rfl) (by omega) (R_X8_leastFrom N _ _ _ _ hq) ?_
      obtain ⟨hg, H⟩ := grd_some H
      refine g_iast (c := 67) (T_X8_find 94 _ _ _ rfl) rfl hg ?_
      refine g_bndH H fun h3 H => ?_
      refine g_aload_n (T_X8_find 95 _ _ _ rfl) rfl ?_
      obtain ⟨h4, hq, H⟩ := bv_some H
      refine g_callVv (M' := M_X8_writeRow) (c := 65) (av := []) (st := []) (T_X8_find 96 _ _ _ rfl) ml_X8_42 cb_X8_writeRow rfl rfl (Nat.le_of_ble_eq_true rfl) (by omega) (R_X8_writeRow N _ _ hq) ?_
      refine g_iconst (T_X8_find 97 _ _ _ rfl) ⟨by decide, by decide⟩ ?_
      exact g_zret (T_X8_find 98 _ _ _ rfl) rfl (by decide) (qi_of H)
    · replace H := ite_n cc H
      refine g_iconst (T_X8_find 51 _ _ _ rfl) ⟨by decide, by decide⟩ ?_
      refine g_istore (T_X8_find 52 _ _ _ rfl) (by decide) ?_
      refine g_weak [true, false, false, true, true] ?_
      refine R_L_X8_find_93 N _ (fun v5 h6 res H => ?_) _ _ _ _ _ H
      · refine g_iincB (T_X8_find 71 _ _ _ rfl) rfl (by decide) H fun y7 H => ?_
        refine g_goto (tgt := 80) (T_X8_find 72 _ _ _ rfl) (by decide) ?_
        refine g_weak [true, false, false, true, false] ?_
        exact ih _ _ _ H
def J_X8_find_72 (N : Nat) (k15 : Int → Int → Int → Hp → Option (Int × Hp)) (x1 : Int) (x2 : Int) (x3 : Int) (h : Hp) : Option (Int × Hp) :=
  bnd (w32 (x3 + 1)) fun y1 =>
  k15 x1 x2 y1 h
set_option maxRecDepth 100000 in
set_option maxHeartbeats 4000000 in
theorem R_J_X8_find_72 (N : Nat) (k15 : Int → Int → Int → Hp → Option (Int × Hp)) (hk15 : ∀ (x1 : Int) (x2 : Int) (x3 : Int) (h : Hp) (res : Int × Hp), k15 x1 x2 x3 h = some res → Go M_X8_find 6 15 [some (.inr 66), some (.inl x1), some (.inl x2), some (.inl x3), none] [] h (Qi res)) (x1 : Int) (x2 : Int) (x3 : Int) (h : Hp) (res : Int × Hp) (H : J_X8_find_72 N k15 x1 x2 x3 h = some res) : Go M_X8_find 6 72 [some (.inr 66), some (.inl x1), some (.inl x2), some (.inl x3), none] [] h (Qi res) := by
  unfold J_X8_find_72 at H
  refine g_iincB (T_X8_find 41 _ _ _ rfl) rfl (by decide) H fun y1 H => ?_
  refine g_goto (tgt := 15) (T_X8_find 42 _ _ _ rfl) (by decide) ?_
  refine g_weak [true, true, true, true, false] ?_
  exact hk15 _ _ _ _ _ H
def L_X8_find_15 (N : Nat) : Nat → Int → Int → Int → Hp → Option (Int × Hp)
  | 0, _, _, _, _ => none
  | n + 1, x1, x2, x3, h =>
    if 14 ≤ x3 then
      L_X8_find_80 N  N 0 h
    else
    if 7 ≤ (h 65 4) then
      L_X8_find_80 N  N 0 h
    else
    bd (F_X11_hasBit N x2 x3 h) fun y2 h1 =>
    if y2 = 0 then
      J_X8_find_72 N (L_X8_find_15 N n) x1 x2 x3 h1
    else
    bd (F_X7_between N x1 x3 h1) fun y4 h3 =>
    if 0 ≤ y4 then
      grd (0 ≤ (h3 65 4) ∧ (h3 65 4) < 8) <|
      bnd (hw h3 66 (h3 65 4).toNat x3) fun h5 =>
      bnd (hw h5 65 4 (w32 ((h5 65 4) + 1))) fun h6 =>
      J_X8_find_72 N (L_X8_find_15 N n) x1 x2 x3 h6
    else
    some (0, h3)
set_option maxRecDepth 100000 in
set_option maxHeartbeats 4000000 in
theorem R_L_X8_find_15 (N : Nat) : ∀ (n : Nat) (x1 : Int) (x2 : Int) (x3 : Int) (h : Hp) (res : Int × Hp), L_X8_find_15 N n x1 x2 x3 h = some res → Go M_X8_find 6 15 [some (.inr 66), some (.inl x1), some (.inl x2), some (.inl x3), none] [] h (Qi res)
  | 0, _, _, _, _, _, H => by cases H
  | n + 1, x1, x2, x3, h, res, H => by
    have ih := R_L_X8_find_15 N n
    simp only [L_X8_find_15] at H
    refine g_iload_n (T_X8_find 10 _ _ _ rfl) rfl ?_
    refine g_bipush (T_X8_find 11 _ _ _ rfl) (by decide) ?_
    refine g_icmp_ge (tgt := 78) (T_X8_find 12 _ _ _ rfl) (by decide) (fun cc => ?_) (fun cc => ?_)
    · replace H := ite_p cc H
      refine g_iconst (T_X8_find 43 _ _ _ rfl) ⟨by decide, by decide⟩ ?_
      refine g_istore_n (T_X8_find 44 _ _ _ rfl) (by decide) ?_
      refine g_weak [true, false, false, true, false] ?_
      refine R_L_X8_find_80 N   _ _ _ _ H
    · replace H := ite_n cc H
      refine g_aload_n (T_X8_find 13 _ _ _ rfl) rfl ?_
      refine g_getI (c := 65) (T_X8_find 14 _ _ _ rfl) fl_X8_25 rfl (Or.inl rfl) ?_
      refine g_bipush (T_X8_find 15 _ _ _ rfl) (by decide) ?_
      refine g_icmp_ge (tgt := 78) (T_X8_find 16 _ _ _ rfl) (by decide) (fun cc => ?_) (fun cc => ?_)
      · replace H := ite_p cc H
        refine g_iconst (T_X8_find 43 _ _ _ rfl) ⟨by decide, by decide⟩ ?_
        refine g_istore_n (T_X8_find 44 _ _ _ rfl) (by decide) ?_
        refine g_weak [true, false, false, true, false] ?_
        refine R_L_X8_find_80 N   _ _ _ _ H
      · replace H := ite_n cc H
        refine g_iload_n (T_X8_find 17 _ _ _ rfl) rfl ?_
        refine g_iload_n (T_X8_find 18 _ _ _ rfl) rfl ?_
        obtain ⟨y2, h1, hq, H⟩ := bd_some H
        refine g_callSNi (M' := M_X11_hasBit) (av := [.inl x2, .inl x3]) (st := []) (T_X8_find 19 _ _ _ rfl) ml_X8_29 cb_X11_hasBit rfl (Nat.le_of_ble_eq_true rfl) (by omega) (R_X11_hasBit N _ _ _ _ hq) ?_
        refine g_if_eq (tgt := 72) (T_X8_find 20 _ _ _ rfl) (by decide) (fun cc => ?_) (fun cc => ?_)
        · replace H := ite_p cc H
          refine g_weak [true, true, true, true, false] ?_
          exact R_J_X8_find_72 N (L_X8_find_15 N n) ih _ _ _ _ _ H
        · replace H := ite_n cc H
          refine g_aload_n (T_X8_find 21 _ _ _ rfl) rfl ?_
          refine g_getR (c := 65) (r := 8) (T_X8_find 22 _ _ _ rfl) fl_X8_21 rfl (nR rfl) rfl (by decide) ?_
          refine g_iload_n (T_X8_find 23 _ _ _ rfl) rfl ?_
          refine g_iload_n (T_X8_find 24 _ _ _ rfl) rfl ?_
          obtain ⟨y4, h3, hq, H⟩ := bd_some H
          refine g_callVi (M' := M_X7_between) (c := 7) (av := [.inl x1, .inl x3]) (st := []) (T_X8_find 25 _ _ _ rfl) ml_X8_33 cb_X7_between rfl rfl (Nat.le_of_ble_eq_true rfl) (by omega) (R_X7_between N _ _ _ _ hq) ?_
          refine g_if_ge (tgt := 52) (T_X8_find 26 _ _ _ rfl) (by decide) (fun cc => ?_) (fun cc => ?_)
          · replace H := ite_p cc H
            refine g_aload_n (T_X8_find 29 _ _ _ rfl) rfl ?_
            refine g_getR (c := 65) (r := 67) (T_X8_find 30 _ _ _ rfl) fl_X8_11 rfl (nR rfl) rfl (by decide) ?_
            refine g_aload_n (T_X8_find 31 _ _ _ rfl) rfl ?_
            refine g_getI (c := 65) (T_X8_find 32 _ _ _ rfl) fl_X8_25 rfl (Or.inl rfl) ?_
            refine g_iload_n (T_X8_find 33 _ _ _ rfl) rfl ?_
            obtain ⟨hg, H⟩ := grd_some H
            refine g_iast (c := 66) (T_X8_find 34 _ _ _ rfl) rfl hg ?_
            refine g_bndH H fun h5 H => ?_
            refine g_aload_n (T_X8_find 35 _ _ _ rfl) rfl ?_
            refine g_dup (T_X8_find 36 _ _ _ rfl) ?_
            refine g_getI (c := 65) (T_X8_find 37 _ _ _ rfl) fl_X8_25 rfl (Or.inl rfl) ?_
            refine g_iconst (T_X8_find 38 _ _ _ rfl) ⟨by decide, by decide⟩ ?_
            refine g_iadd (T_X8_find 39 _ _ _ rfl) ?_
            refine g_put (c := 65) (T_X8_find 40 _ _ _ rfl) fl_X8_25 rfl (Or.inl rfl) ?_
            refine g_bndH H fun h6 H => ?_
            refine g_weak [true, true, true, true, false] ?_
            exact R_J_X8_find_72 N (L_X8_find_15 N n) ih _ _ _ _ _ H
          · replace H := ite_n cc H
            refine g_iconst (T_X8_find 27 _ _ _ rfl) ⟨by decide, by decide⟩ ?_
            exact g_zret (T_X8_find 28 _ _ _ rfl) rfl (by decide) (qi_of H)
def F_X8_find (N : Nat) (x1 : Int) (x2 : Int) (h : Hp) : Option (Int × Hp) :=
  bnd (hw h 65 4 0) fun h1 =>
  bnd (hw h1 66 (7 : Int).toNat x1) fun h2 =>
  L_X8_find_15 N  N x1 x2 0 h2
set_option maxRecDepth 100000 in
set_option maxHeartbeats 4000000 in
theorem R_X8_find (N : Nat) (x1 : Int) (x2 : Int) (h : Hp) (res : Int × Hp) (H : F_X8_find N x1 x2 h = some res) : Runs M_X8_find 6 [.inr 66, .inl x1, .inl x2] h (Qi res) := by
  refine Runs.of rfl (Nat.le_of_ble_eq_true rfl) ?_
  show Go M_X8_find 6 0 [some (.inr 66), some (.inl x1), some (.inl x2), none, none] [] h (Qi res)
  unfold F_X8_find at H
  refine g_aload_n (T_X8_find 0 _ _ _ rfl) rfl ?_
  refine g_iconst (T_X8_find 1 _ _ _ rfl) ⟨by decide, by decide⟩ ?_
  refine g_put (c := 65) (T_X8_find 2 _ _ _ rfl) fl_X8_25 rfl (Or.inl rfl) ?_
  refine g_bndH H fun h1 H => ?_
  refine g_aload_n (T_X8_find 3 _ _ _ rfl) rfl ?_
  refine g_getR (c := 65) (r := 67) (T_X8_find 4 _ _ _ rfl) fl_X8_11 rfl (nR rfl) rfl (by decide) ?_
  refine g_bipush (T_X8_find 5 _ _ _ rfl) (by decide) ?_
  refine g_iload_n (T_X8_find 6 _ _ _ rfl) rfl ?_
  refine g_iast (c := 66) (T_X8_find 7 _ _ _ rfl) rfl (by decide) ?_
  refine g_bndH H fun h2 H => ?_
  refine g_iconst (T_X8_find 8 _ _ _ rfl) ⟨by decide, by decide⟩ ?_
  refine g_istore_n (T_X8_find 9 _ _ _ rfl) (by decide) ?_
  refine g_weak [true, true, true, true, false] ?_
  refine R_L_X8_find_15 N   _ _ _ _ _ _ H
def F_X8_streetAt (N : Nat) (x1 : Int) (h : Hp) : Option (Int × Hp) :=
  bd (F_X11_isWithin N x1 0 (w32 ((h 65 4) - 1)) h) fun y2 h1 =>
  if y2 = 0 then
    some ((-1), h1)
  else
  grd (0 ≤ x1 ∧ x1 < 7) <|
  grd (0 ≤ (h1 68 x1.toNat) ∧ (h1 68 x1.toNat) < 8) <|
  some ((h1 66 (h1 68 x1.toNat).toNat), h1)
set_option maxRecDepth 100000 in
set_option maxHeartbeats 4000000 in
theorem R_X8_streetAt (N : Nat) (x1 : Int) (h : Hp) (res : Int × Hp) (H : F_X8_streetAt N x1 h = some res) : Runs M_X8_streetAt 2 [.inr 66, .inl x1] h (Qi res) := by
  refine Runs.of rfl (Nat.le_of_ble_eq_true rfl) ?_
  show Go M_X8_streetAt 2 0 [some (.inr 66), some (.inl x1)] [] h (Qi res)
  unfold F_X8_streetAt at H
  refine g_iload_n (T_X8_streetAt 0 _ _ _ rfl) rfl ?_
  refine g_iconst (T_X8_streetAt 1 _ _ _ rfl) ⟨by decide, by decide⟩ ?_
  refine g_aload_n (T_X8_streetAt 2 _ _ _ rfl) rfl ?_
  refine g_getI (c := 65) (T_X8_streetAt 3 _ _ _ rfl) fl_X8_25 rfl (Or.inl rfl) ?_
  refine g_iconst (T_X8_streetAt 4 _ _ _ rfl) ⟨by decide, by decide⟩ ?_
  refine g_isub (T_X8_streetAt 5 _ _ _ rfl) ?_
  obtain ⟨y2, h1, hq, H⟩ := bd_some H
  refine g_callSNi (M' := M_X11_isWithin) (av := [.inl x1, .inl 0, .inl (w32 ((h 65 4) - 1))]) (st := []) (T_X8_streetAt 6 _ _ _ rfl) ml_X8_45 cb_X11_isWithin rfl (Nat.le_of_ble_eq_true rfl) (by omega) (R_X11_isWithin N _ _ _ _ _ hq) ?_
  refine g_if_eq (tgt := 28) (T_X8_streetAt 7 _ _ _ rfl) (by decide) (fun cc => ?_) (fun cc => ?_)
  · replace H := ite_p cc H
    refine g_iconst (T_X8_streetAt 16 _ _ _ rfl) ⟨by decide, by decide⟩ ?_
    exact g_iret (T_X8_streetAt 17 _ _ _ rfl) rfl (qi_of H)
  · replace H := ite_n cc H
    refine g_aload_n (T_X8_streetAt 8 _ _ _ rfl) rfl ?_
    refine g_getR (c := 65) (r := 67) (T_X8_streetAt 9 _ _ _ rfl) fl_X8_11 rfl (nR rfl) rfl (by decide) ?_
    refine g_aload_n (T_X8_streetAt 10 _ _ _ rfl) rfl ?_
    refine g_getR (c := 65) (r := 69) (T_X8_streetAt 11 _ _ _ rfl) fl_X8_18 rfl (nR rfl) rfl (by decide) ?_
    refine g_iload_n (T_X8_streetAt 12 _ _ _ rfl) rfl ?_
    obtain ⟨hg, H⟩ := grd_some H
    refine g_iald (c := 68) (T_X8_streetAt 13 _ _ _ rfl) rfl hg ?_
    obtain ⟨hg, H⟩ := grd_some H
    refine g_iald (c := 66) (T_X8_streetAt 14 _ _ _ rfl) rfl hg ?_
    refine g_goto (tgt := 29) (T_X8_streetAt 15 _ _ _ rfl) (by decide) ?_
    exact g_iret (T_X8_streetAt 17 _ _ _ rfl) rfl (qi_of H)
def F_X8_minutes (N : Nat) (h : Hp) : Option (Int × Hp) :=
  grd (0 ≤ (w32 ((w32 ((w32 ((ishl 1 (h 65 4)) - 1)) * 8)) + 7)) ∧ (w32 ((w32 ((w32 ((ishl 1 (h 65 4)) - 1)) * 8)) + 7)) < 1024) <|
  some ((h 67 (w32 ((w32 ((w32 ((ishl 1 (h 65 4)) - 1)) * 8)) + 7)).toNat), h)
set_option maxRecDepth 100000 in
set_option maxHeartbeats 4000000 in
theorem R_X8_minutes (N : Nat) (h : Hp) (res : Int × Hp) (H : F_X8_minutes N h = some res) : Runs M_X8_minutes 1 [.inr 66] h (Qi res) := by
  refine Runs.of rfl (Nat.le_of_ble_eq_true rfl) ?_
  show Go M_X8_minutes 1 0 [some (.inr 66)] [] h (Qi res)
  unfold F_X8_minutes at H
  refine g_aload_n (T_X8_minutes 0 _ _ _ rfl) rfl ?_
  refine g_getR (c := 65) (r := 68) (T_X8_minutes 1 _ _ _ rfl) fl_X8_15 rfl (nR rfl) rfl (by decide) ?_
  refine g_iconst (T_X8_minutes 2 _ _ _ rfl) ⟨by decide, by decide⟩ ?_
  refine g_aload_n (T_X8_minutes 3 _ _ _ rfl) rfl ?_
  refine g_getI (c := 65) (T_X8_minutes 4 _ _ _ rfl) fl_X8_25 rfl (Or.inl rfl) ?_
  refine g_ishl (T_X8_minutes 5 _ _ _ rfl) ?_
  refine g_iconst (T_X8_minutes 6 _ _ _ rfl) ⟨by decide, by decide⟩ ?_
  refine g_isub (T_X8_minutes 7 _ _ _ rfl) ?_
  refine g_bipush (T_X8_minutes 8 _ _ _ rfl) (by decide) ?_
  refine g_imul (T_X8_minutes 9 _ _ _ rfl) ?_
  refine g_bipush (T_X8_minutes 10 _ _ _ rfl) (by decide) ?_
  refine g_iadd (T_X8_minutes 11 _ _ _ rfl) ?_
  obtain ⟨hg, H⟩ := grd_some H
  refine g_iald (c := 67) (T_X8_minutes 12 _ _ _ rfl) rfl hg ?_
  exact g_iret (T_X8_minutes 13 _ _ _ rfl) rfl (qi_of H)
