/-! by program: the methods as functions, and the walks that show it -/
def L_X0_takeStopsOf_7 (N : Nat) (t : Nat) : Nat → Int → Hp → Option (Hp)
  | 0, _, _ => none
  | n + 1, x2, h =>
    if (h 53 3) ≤ x2 then
      some h
    else
    bd (F_X0_takesOnAt N 53 x2 h) fun y2 h1 =>
    bd (F_X0_streetOf N 53 x2 h1) fun y4 h3 =>
    bd (F_X0_yardsOf N 53 x2 h3) fun y6 h5 =>
    bv (F_X0_addStop N t y2 y4 y6 h5) fun h7 =>
    bnd (w32 (x2 + 1)) fun y8 =>
    (L_X0_takeStopsOf_7 N t n) y8 h7
set_option maxRecDepth 100000 in
set_option maxHeartbeats 4000000 in
theorem R_L_X0_takeStopsOf_7 (N : Nat) (t : Nat) (ht : isCart t) : ∀ (n : Nat) (x2 : Int) (h : Hp) (res : Hp), L_X0_takeStopsOf_7 N t n x2 h = some res → Go M_X0_takeStopsOf 3 7 [some (.inr (t + 1)), some (.inr 54), some (.inl x2)] [] h (Qv res)
  | 0, _, _, _, H => by cases H
  | n + 1, x2, h, res, H => by
    have ih := R_L_X0_takeStopsOf_7 N t ht n
    simp only [L_X0_takeStopsOf_7] at H
    refine g_iload_n (T_X0_takeStopsOf 5 _ _ _ rfl) rfl ?_
    refine g_aload_n (T_X0_takeStopsOf 6 _ _ _ rfl) rfl ?_
    refine g_getI (c := 53) (T_X0_takeStopsOf 7 _ _ _ rfl) fl_X0_26 rfl (Or.inl rfl) ?_
    refine g_icmp_ge (tgt := 40) (T_X0_takeStopsOf 8 _ _ _ rfl) (by decide) (fun cc => ?_) (fun cc => ?_)
    · replace H := ite_p cc H
      exact g_vret (T_X0_takeStopsOf 22 _ _ _ rfl) rfl (qv_of H)
    · replace H := ite_n cc H
      refine g_aload_n (T_X0_takeStopsOf 9 _ _ _ rfl) rfl ?_
      refine g_aload_n (T_X0_takeStopsOf 10 _ _ _ rfl) rfl ?_
      refine g_iload_n (T_X0_takeStopsOf 11 _ _ _ rfl) rfl ?_
      obtain ⟨y2, h1, hq, H⟩ := bd_some H
      refine g_callVi (M' := M_X0_takesOnAt) (c := 53) (av := [.inl x2]) (st := [.inr (t + 1)]) (T_X0_takeStopsOf 12 _ _ _ rfl) ml_X0_78 cb_X0_takesOnAt rfl rfl (Nat.le_of_ble_eq_true rfl) (by omega) (R_X0_takesOnAt N 53 isCart53 _ _ _ hq) ?_
      refine g_aload_n (T_X0_takeStopsOf 13 _ _ _ rfl) rfl ?_
      refine g_iload_n (T_X0_takeStopsOf 14 _ _ _ rfl) rfl ?_
      obtain ⟨y4, h3, hq, H⟩ := bd_some H
      refine g_callVi (M' := M_X0_streetOf) (c := 53) (av := [.inl x2]) (st := [.inl y2, .inr (t + 1)]) (T_X0_takeStopsOf 15 _ _ _ rfl) ml_X0_81 cb_X0_streetOf rfl rfl (Nat.le_of_ble_eq_true rfl) (by omega) (R_X0_streetOf N 53 isCart53 _ _ _ hq) ?_
      refine g_aload_n (T_X0_takeStopsOf 16 _ _ _ rfl) rfl ?_
      refine g_iload_n (T_X0_takeStopsOf 17 _ _ _ rfl) rfl ?_
      obtain ⟨y6, h5, hq, H⟩ := bd_some H
      refine g_callVi (M' := M_X0_yardsOf) (c := 53) (av := [.inl x2]) (st := [.inl y4, .inl y2, .inr (t + 1)]) (T_X0_takeStopsOf 18 _ _ _ rfl) ml_X0_84 cb_X0_yardsOf rfl rfl (Nat.le_of_ble_eq_true rfl) (by omega) (R_X0_yardsOf N 53 isCart53 _ _ _ hq) ?_
      obtain ⟨h7, hq, H⟩ := bv_some H
      refine g_callVv (M' := M_X0_addStop) (c := t) (av := [.inl y2, .inl y4, .inl y6]) (st := []) (T_X0_takeStopsOf 19 _ _ _ rfl) ml_X0_74 cb_X0_addStop ht.2.1 rfl (Nat.le_of_ble_eq_true rfl) (by omega) (R_X0_addStop N t ht _ _ _ _ _ hq) ?_
      refine g_iincB (T_X0_takeStopsOf 20 _ _ _ rfl) rfl (by decide) H fun y8 H => ?_
      refine g_goto (tgt := 7) (T_X0_takeStopsOf 21 _ _ _ rfl) (by decide) ?_
      refine g_weak [true, true, true] ?_
      exact ih _ _ _ H
def F_X0_takeStopsOf (N : Nat) (t : Nat) (h : Hp) : Option (Hp) :=
  bnd (hw h t 3 0) fun h1 =>
  L_X0_takeStopsOf_7 N t  N 0 h1
set_option maxRecDepth 100000 in
set_option maxHeartbeats 4000000 in
theorem R_X0_takeStopsOf (N : Nat) (t : Nat) (ht : isCart t) (h : Hp) (res : Hp) (H : F_X0_takeStopsOf N t h = some res) : Runs M_X0_takeStopsOf 3 [.inr (t + 1), .inr 54] h (Qv res) := by
  refine Runs.of rfl (Nat.le_of_ble_eq_true rfl) ?_
  show Go M_X0_takeStopsOf 3 0 [some (.inr (t + 1)), some (.inr 54), none] [] h (Qv res)
  unfold F_X0_takeStopsOf at H
  refine g_aload_n (T_X0_takeStopsOf 0 _ _ _ rfl) rfl ?_
  refine g_iconst (T_X0_takeStopsOf 1 _ _ _ rfl) ⟨by decide, by decide⟩ ?_
  refine g_put (c := t) (T_X0_takeStopsOf 2 _ _ _ rfl) fl_X0_26 ht.2.1 (Or.inl rfl) ?_
  refine g_bndH H fun h1 H => ?_
  refine g_iconst (T_X0_takeStopsOf 3 _ _ _ rfl) ⟨by decide, by decide⟩ ?_
  refine g_istore_n (T_X0_takeStopsOf 4 _ _ _ rfl) (by decide) ?_
  refine g_weak [true, true, true] ?_
  refine R_L_X0_takeStopsOf_7 N t  ht  _ _ _ _ H
def J_X11_plan_72 (N : Nat) (x4 : Int) (h : Hp) : Option (Int × Hp) :=
  bv (F_X10_clear N h) fun h1 =>
  some (x4, h1)
set_option maxRecDepth 100000 in
set_option maxHeartbeats 4000000 in
theorem R_J_X11_plan_72 (N : Nat) (x4 : Int) (h : Hp) (res : Int × Hp) (H : J_X11_plan_72 N x4 h = some res) : Go M_X11_plan 5 72 [some (.inr 1), none, none, none, some (.inl x4)] [] h (Qi res) := by
  unfold J_X11_plan_72 at H
  refine g_aload_n (T_X11_plan 36 _ _ _ rfl) rfl ?_
  refine g_getR (c := 0) (r := 42) (T_X11_plan 37 _ _ _ rfl) fl_X11_24 rfl (nR rfl) rfl (by decide) ?_
  obtain ⟨h1, hq, H⟩ := bv_some H
  refine g_callVv (M' := M_X10_clear) (c := 41) (av := []) (st := []) (T_X11_plan 38 _ _ _ rfl) ml_X11_152 cb_X10_clear rfl rfl (Nat.le_of_ble_eq_true rfl) (by omega) (R_X10_clear N _ _ hq) ?_
  refine g_iload (T_X11_plan 39 _ _ _ rfl) rfl ?_
  exact g_iret (T_X11_plan 40 _ _ _ rfl) rfl (qi_of H)
def F_X11_plan (N : Nat) (x1 : Int) (x2 : Int) (h : Hp) : Option (Int × Hp) :=
  bd (F_X11_cartAt N x1 h) fun z2 h1 =>
  if z2 = 0 then
    some ((-1), h1)
  else
  bd (F_X11_isWithin N x2 1 80 h1) fun y4 h3 =>
  if y4 = 0 then
    some ((-1), h3)
  else
  bd (F_X10_holds N x2 h3) fun y6 h5 =>
  if y6 = 0 then
    some ((-1), h5)
  else
  bv (F_X10_open N x2 h5) fun h7 =>
  bd (F_X0_readStops N 53 h7) fun y9 h8 =>
  bd (F_X10_isSound N h8) fun y11 h10 =>
  if y11 = 0 then
    J_X11_plan_72 N  y9 h10
  else
  grd (cartR z2) <|
  bv (F_X0_takeStopsOf N (z2 - 1) h10) fun h13 =>
  J_X11_plan_72 N  y9 h13
set_option maxRecDepth 100000 in
set_option maxHeartbeats 4000000 in
theorem R_X11_plan (N : Nat) (x1 : Int) (x2 : Int) (h : Hp) (res : Int × Hp) (H : F_X11_plan N x1 x2 h = some res) : Runs M_X11_plan 5 [.inr 1, .inl x1, .inl x2] h (Qi res) := by
  refine Runs.of rfl (Nat.le_of_ble_eq_true rfl) ?_
  show Go M_X11_plan 5 0 [some (.inr 1), some (.inl x1), some (.inl x2), none, none] [] h (Qi res)
  unfold F_X11_plan at H
  refine g_aload_n (T_X11_plan 0 _ _ _ rfl) rfl ?_
  refine g_iload_n (T_X11_plan 1 _ _ _ rfl) rfl ?_
  obtain ⟨z2, h1, hq, H⟩ := bd_some H
  refine g_callVr (M' := M_X11_cartAt) (c := 0) (av := [.inl x1]) (st := []) (T_X11_plan 2 _ _ _ rfl) ml_X11_104 cb_X11_cartAt rfl rfl (Nat.le_of_ble_eq_true rfl) (by omega) (R_X11_cartAt N _ _ _ hq) ?_
  refine g_astore_n (T_X11_plan 3 _ _ _ rfl) (by decide) ?_
  refine g_aload_n (T_X11_plan 4 _ _ _ rfl) rfl ?_
  refine g_ifnull (tgt := 31) (T_X11_plan 5 _ _ _ rfl) (by decide) (fun cc => ?_) (fun cc => ?_)
  · replace H := ite_p cc H
    refine g_iconst (T_X11_plan 16 _ _ _ rfl) ⟨by decide, by decide⟩ ?_
    exact g_iret (T_X11_plan 17 _ _ _ rfl) rfl (qi_of H)
  · replace H := ite_n cc H
    refine g_iload_n (T_X11_plan 6 _ _ _ rfl) rfl ?_
    refine g_iconst (T_X11_plan 7 _ _ _ rfl) ⟨by decide, by decide⟩ ?_
    refine g_bipush (T_X11_plan 8 _ _ _ rfl) (by decide) ?_
    obtain ⟨y4, h3, hq, H⟩ := bd_some H
    refine g_callSi (M' := M_X11_isWithin) (av := [.inl x2, .inl 1, .inl 80]) (st := []) (T_X11_plan 9 _ _ _ rfl) ml_X11_96 cb_X11_isWithin rfl (Nat.le_of_ble_eq_true rfl) (by omega) (R_X11_isWithin N _ _ _ _ _ hq) ?_
    refine g_if_eq (tgt := 31) (T_X11_plan 10 _ _ _ rfl) (by decide) (fun cc => ?_) (fun cc => ?_)
    · replace H := ite_p cc H
      refine g_iconst (T_X11_plan 16 _ _ _ rfl) ⟨by decide, by decide⟩ ?_
      exact g_iret (T_X11_plan 17 _ _ _ rfl) rfl (qi_of H)
    · replace H := ite_n cc H
      refine g_aload_n (T_X11_plan 11 _ _ _ rfl) rfl ?_
      refine g_getR (c := 0) (r := 42) (T_X11_plan 12 _ _ _ rfl) fl_X11_24 rfl (nR rfl) rfl (by decide) ?_
      refine g_iload_n (T_X11_plan 13 _ _ _ rfl) rfl ?_
      obtain ⟨y6, h5, hq, H⟩ := bd_some H
      refine g_callVi (M' := M_X10_holds) (c := 41) (av := [.inl x2]) (st := []) (T_X11_plan 14 _ _ _ rfl) ml_X11_130 cb_X10_holds rfl rfl (Nat.le_of_ble_eq_true rfl) (by omega) (R_X10_holds N _ _ _ hq) ?_
      refine g_if_ne (tgt := 33) (T_X11_plan 15 _ _ _ rfl) (by decide) (fun cc => ?_) (fun cc => ?_)
      · replace H := ite_n cc H
        refine g_aload_n (T_X11_plan 18 _ _ _ rfl) rfl ?_
        refine g_getR (c := 0) (r := 42) (T_X11_plan 19 _ _ _ rfl) fl_X11_24 rfl (nR rfl) rfl (by decide) ?_
        refine g_iload_n (T_X11_plan 20 _ _ _ rfl) rfl ?_
        obtain ⟨h7, hq, H⟩ := bv_some H
        refine g_callVv (M' := M_X10_open) (c := 41) (av := [.inl x2]) (st := []) (T_X11_plan 21 _ _ _ rfl) ml_X11_133 cb_X10_open rfl rfl (Nat.le_of_ble_eq_true rfl) (by omega) (R_X10_open N _ _ _ hq) ?_
        refine g_aload_n (T_X11_plan 22 _ _ _ rfl) rfl ?_
        refine g_getR (c := 0) (r := 54) (T_X11_plan 23 _ _ _ rfl) fl_X11_51 rfl (nR rfl) rfl (by decide) ?_
        refine g_aload_n (T_X11_plan 24 _ _ _ rfl) rfl ?_
        refine g_getR (c := 0) (r := 42) (T_X11_plan 25 _ _ _ rfl) fl_X11_24 rfl (nR rfl) rfl (by decide) ?_
        obtain ⟨y9, h8, hq, H⟩ := bd_some H
        refine g_callVi (M' := M_X0_readStops) (c := 53) (av := [.inr 42]) (st := []) (T_X11_plan 26 _ _ _ rfl) ml_X11_158 cb_X0_readStops rfl rfl (Nat.le_of_ble_eq_true rfl) (by omega) (R_X0_readStops N 53 isCart53 _ _ hq) ?_
        refine g_istore (T_X11_plan 27 _ _ _ rfl) (by decide) ?_
        refine g_aload_n (T_X11_plan 28 _ _ _ rfl) rfl ?_
        refine g_getR (c := 0) (r := 42) (T_X11_plan 29 _ _ _ rfl) fl_X11_24 rfl (nR rfl) rfl (by decide) ?_
        obtain ⟨y11, h10, hq, H⟩ := bd_some H
        refine g_callVi (M' := M_X10_isSound) (c := 41) (av := []) (st := []) (T_X11_plan 30 _ _ _ rfl) ml_X11_140 cb_X10_isSound rfl rfl (Nat.le_of_ble_eq_true rfl) (by omega) (R_X10_isSound N _ _ hq) ?_
        refine g_if_eq (tgt := 72) (T_X11_plan 31 _ _ _ rfl) (by decide) (fun cc => ?_) (fun cc => ?_)
        · replace H := ite_p cc H
          refine g_weak [true, false, false, false, true] ?_
          exact R_J_X11_plan_72 N   _ _ _ H
        · replace H := ite_n cc H
          refine g_aload_n (T_X11_plan 32 _ _ _ rfl) rfl ?_
          refine g_aload_n (T_X11_plan 33 _ _ _ rfl) rfl ?_
          refine g_getR (c := 0) (r := 54) (T_X11_plan 34 _ _ _ rfl) fl_X11_51 rfl (nR rfl) rfl (by decide) ?_
          obtain ⟨hg, H⟩ := grd_some H
          obtain ⟨t12, rfl, ht12⟩ := cartR_spec hg
          simp only [Nat.add_sub_cancel] at H
          obtain ⟨h13, hq, H⟩ := bv_some H
          refine g_callVv (M' := M_X0_takeStopsOf) (c := t12) (av := [.inr 54]) (st := []) (T_X11_plan 35 _ _ _ rfl) ml_X11_161 cb_X0_takeStopsOf ht12.2.1 rfl (Nat.le_of_ble_eq_true rfl) (by omega) (R_X0_takeStopsOf N t12 ht12 _ _ hq) ?_
          refine g_weak [true, false, false, false, true] ?_
          exact R_J_X11_plan_72 N   _ _ _ H
      · replace H := ite_p cc H
        refine g_iconst (T_X11_plan 16 _ _ _ rfl) ⟨by decide, by decide⟩ ?_
        exact g_iret (T_X11_plan 17 _ _ _ rfl) rfl (qi_of H)
def F_X1_night (N : Nat) (h : Hp) : Option (Int × Hp) :=
  some ((h 1 5), h)
set_option maxRecDepth 100000 in
set_option maxHeartbeats 4000000 in
theorem R_X1_night (N : Nat) (h : Hp) (res : Int × Hp) (H : F_X1_night N h = some res) : Runs M_X1_night 1 [.inr 2] h (Qi res) := by
  refine Runs.of rfl (Nat.le_of_ble_eq_true rfl) ?_
  show Go M_X1_night 1 0 [some (.inr 2)] [] h (Qi res)
  unfold F_X1_night at H
  refine g_aload_n (T_X1_night 0 _ _ _ rfl) rfl ?_
  refine g_getI (c := 1) (T_X1_night 1 _ _ _ rfl) fl_X1_60 rfl (Or.inl rfl) ?_
  exact g_iret (T_X1_night 2 _ _ _ rfl) rfl (qi_of H)
def F_X1_copyDepths (N : Nat) (h : Hp) : Option (Hp) :=
  grd ((0 : Int) ≤ 0 ∧ (0 : Int) ≤ 0 ∧ 0 ≤ (imin 14 14) ∧ 0 + (imin 14 14) ≤ 14 ∧ 0 + (imin 14 14) ≤ 14) <|
  bnd (hcp h 5 (0 : Int).toNat 58 (0 : Int).toNat ((imin 14 14) : Int).toNat) fun h1 =>
  some h1
set_option maxRecDepth 100000 in
set_option maxHeartbeats 4000000 in
theorem R_X1_copyDepths (N : Nat) (h : Hp) (res : Hp) (H : F_X1_copyDepths N h = some res) : Runs M_X1_copyDepths 1 [.inr 2, .inr 59] h (Qv res) := by
  refine Runs.of rfl (Nat.le_of_ble_eq_true rfl) ?_
  show Go M_X1_copyDepths 1 0 [some (.inr 2), some (.inr 59)] [] h (Qv res)
  unfold F_X1_copyDepths at H
  refine g_aload_n (T_X1_copyDepths 0 _ _ _ rfl) rfl ?_
  refine g_getR (c := 1) (r := 6) (T_X1_copyDepths 1 _ _ _ rfl) fl_X1_21 rfl (nR rfl) rfl (by decide) ?_
  refine g_iconst (T_X1_copyDepths 2 _ _ _ rfl) ⟨by decide, by decide⟩ ?_
  refine g_aload_n (T_X1_copyDepths 3 _ _ _ rfl) rfl ?_
  refine g_iconst (T_X1_copyDepths 4 _ _ _ rfl) ⟨by decide, by decide⟩ ?_
  refine g_bipush (T_X1_copyDepths 5 _ _ _ rfl) (by decide) ?_
  refine g_aload_n (T_X1_copyDepths 6 _ _ _ rfl) rfl ?_
  refine g_alen (c := 58) (n := 14) (T_X1_copyDepths 7 _ _ _ rfl) rfl (by decide) (by decide) ?_
  refine g_min (st := [.inl 0, .inr 59, .inl 0, .inr 6]) (T_X1_copyDepths 8 _ _ _ rfl) ml_X1_45 wmin (Nat.le_of_ble_eq_true rfl) (by omega) ?_
  obtain ⟨hg, H⟩ := grd_some H
  refine g_copy (c0 := 5) (c1 := 58) (n0 := 14) (n1 := 14) (st := []) (T_X1_copyDepths 9 _ _ _ rfl) ml_X1_54 wcopy rfl rfl hg (Nat.le_of_ble_eq_true rfl) (by omega) ?_
  refine g_bndH H fun h1 H => ?_
  exact g_vret (T_X1_copyDepths 10 _ _ _ rfl) rfl (qv_of H)
def L_X5_prepare_13 (N : Nat) : Nat → Int → Hp → Option (Hp)
  | 0, _, _ => none
  | n + 1, x1, h =>
    if 5 ≤ x1 then
      bnd (hw h 57 10 0) fun h1 =>
      bnd (hw h1 57 11 0) fun h2 =>
      bnd (hw h2 57 12 0) fun h3 =>
      bnd (hw h3 57 13 0) fun h4 =>
      bnd (hw h4 57 14 0) fun h5 =>
      bnd (hw h5 57 15 0) fun h6 =>
      some h6
    else
    grd (0 ≤ x1 ∧ x1 < 5) <|
    bnd (hw h 59 x1.toNat ((0 : Nat) : Int)) fun h7 =>
    grd (0 ≤ x1 ∧ x1 < 5) <|
    bnd (hw h7 62 x1.toNat 2147483647) fun h8 =>
    grd (0 ≤ x1 ∧ x1 < 5) <|
    bnd (hw h8 63 x1.toNat 0) fun h9 =>
    grd (0 ≤ x1 ∧ x1 < 5) <|
    bnd (hw h9 64 x1.toNat (-2)) fun h10 =>
    bnd (w32 (x1 + 1)) fun y11 =>
    (L_X5_prepare_13 N n) y11 h10
set_option maxRecDepth 100000 in
set_option maxHeartbeats 4000000 in
theorem R_L_X5_prepare_13 (N : Nat) : ∀ (n : Nat) (x1 : Int) (h : Hp) (res : Hp), L_X5_prepare_13 N n x1 h = some res → Go M_X5_prepare 2 13 [some (.inr 58), some (.inl x1)] [] h (Qv res)
  | 0, _, _, _, H => by cases H
  | n + 1, x1, h, res, H => by
    have ih := R_L_X5_prepare_13 N n
    simp only [L_X5_prepare_13] at H
    refine g_iload_n (T_X5_prepare 7 _ _ _ rfl) rfl ?_
    refine g_iconst (T_X5_prepare 8 _ _ _ rfl) ⟨by decide, by decide⟩ ?_
    refine g_icmp_ge (tgt := 54) (T_X5_prepare 9 _ _ _ rfl) (by decide) (fun cc => ?_) (fun cc => ?_)
    · replace H := ite_p cc H
      refine g_aload_n (T_X5_prepare 32 _ _ _ rfl) rfl ?_
      refine g_iconst (T_X5_prepare 33 _ _ _ rfl) ⟨by decide, by decide⟩ ?_
      refine g_put (c := 57) (T_X5_prepare 34 _ _ _ rfl) fl_X5_50 rfl (Or.inl rfl) ?_
      refine g_bndH H fun h1 H => ?_
      refine g_aload_n (T_X5_prepare 35 _ _ _ rfl) rfl ?_
      refine g_iconst (T_X5_prepare 36 _ _ _ rfl) ⟨by decide, by decide⟩ ?_
      refine g_put (c := 57) (T_X5_prepare 37 _ _ _ rfl) fl_X5_54 rfl (Or.inl rfl) ?_
      refine g_bndH H fun h2 H => ?_
      refine g_aload_n (T_X5_prepare 38 _ _ _ rfl) rfl ?_
      refine g_iconst (T_X5_prepare 39 _ _ _ rfl) ⟨by decide, by decide⟩ ?_
      refine g_put (c := 57) (T_X5_prepare 40 _ _ _ rfl) fl_X5_57 rfl (Or.inl rfl) ?_
      refine g_bndH H fun h3 H => ?_
      refine g_aload_n (T_X5_prepare 41 _ _ _ rfl) rfl ?_
      refine g_iconst (T_X5_prepare 42 _ _ _ rfl) ⟨by decide, by decide⟩ ?_
      refine g_put (c := 57) (T_X5_prepare 43 _ _ _ rfl) fl_X5_60 rfl (Or.inl rfl) ?_
      refine g_bndH H fun h4 H => ?_
      refine g_aload_n (T_X5_prepare 44 _ _ _ rfl) rfl ?_
      refine g_iconst (T_X5_prepare 45 _ _ _ rfl) ⟨by decide, by decide⟩ ?_
      refine g_put (c := 57) (T_X5_prepare 46 _ _ _ rfl) fl_X5_63 rfl (Or.inl rfl) ?_
      refine g_bndH H fun h5 H => ?_
      refine g_aload_n (T_X5_prepare 47 _ _ _ rfl) rfl ?_
      refine g_iconst (T_X5_prepare 48 _ _ _ rfl) ⟨by decide, by decide⟩ ?_
      refine g_put (c := 57) (T_X5_prepare 49 _ _ _ rfl) fl_X5_66 rfl (Or.inl rfl) ?_
      refine g_bndH H fun h6 H => ?_
      exact g_vret (T_X5_prepare 50 _ _ _ rfl) rfl (qv_of H)
    · replace H := ite_n cc H
      refine g_aload_n (T_X5_prepare 10 _ _ _ rfl) rfl ?_
      refine g_getR (c := 57) (r := 60) (T_X5_prepare 11 _ _ _ rfl) fl_X5_19 rfl (nR rfl) rfl (by decide) ?_
      refine g_iload_n (T_X5_prepare 12 _ _ _ rfl) rfl ?_
      refine g_null (T_X5_prepare 13 _ _ _ rfl) ?_
      obtain ⟨hg, H⟩ := grd_some H
      refine g_aast (c := 59) (T_X5_prepare 14 _ _ _ rfl) rfl hg (Or.inl rfl) ?_
      refine g_bndH H fun h7 H => ?_
      refine g_aload_n (T_X5_prepare 15 _ _ _ rfl) rfl ?_
      refine g_getR (c := 57) (r := 63) (T_X5_prepare 16 _ _ _ rfl) fl_X5_29 rfl (nR rfl) rfl (by decide) ?_
      refine g_iload_n (T_X5_prepare 17 _ _ _ rfl) rfl ?_
      refine g_ldc (T_X5_prepare 18 _ _ _ rfl) kc_X5_73 ⟨by decide, by decide⟩ ?_
      obtain ⟨hg, H⟩ := grd_some H
      refine g_iast (c := 62) (T_X5_prepare 19 _ _ _ rfl) rfl hg ?_
      refine g_bndH H fun h8 H => ?_
      refine g_aload_n (T_X5_prepare 20 _ _ _ rfl) rfl ?_
      refine g_getR (c := 57) (r := 64) (T_X5_prepare 21 _ _ _ rfl) fl_X5_32 rfl (nR rfl) rfl (by decide) ?_
      refine g_iload_n (T_X5_prepare 22 _ _ _ rfl) rfl ?_
      refine g_iconst (T_X5_prepare 23 _ _ _ rfl) ⟨by decide, by decide⟩ ?_
      obtain ⟨hg, H⟩ := grd_some H
      refine g_iast (c := 63) (T_X5_prepare 24 _ _ _ rfl) rfl hg ?_
      refine g_bndH H fun h9 H => ?_
      refine g_aload_n (T_X5_prepare 25 _ _ _ rfl) rfl ?_
      refine g_getR (c := 57) (r := 65) (T_X5_prepare 26 _ _ _ rfl) fl_X5_35 rfl (nR rfl) rfl (by decide) ?_
      refine g_iload_n (T_X5_prepare 27 _ _ _ rfl) rfl ?_
      refine g_bipush (T_X5_prepare 28 _ _ _ rfl) (by decide) ?_
      obtain ⟨hg, H⟩ := grd_some H
      refine g_iast (c := 64) (T_X5_prepare 29 _ _ _ rfl) rfl hg ?_
      refine g_bndH H fun h10 H => ?_
      refine g_iincB (T_X5_prepare 30 _ _ _ rfl) rfl (by decide) H fun y11 H => ?_
      refine g_goto (tgt := 13) (T_X5_prepare 31 _ _ _ rfl) (by decide) ?_
      refine g_weak [true, true] ?_
      exact ih _ _ _ H
def F_X5_prepare (N : Nat) (h : Hp) : Option (Hp) :=
  bv (F_X1_copyDepths N h) fun h1 =>
  L_X5_prepare_13 N  N 0 h1
set_option maxRecDepth 100000 in
set_option maxHeartbeats 4000000 in
theorem R_X5_prepare (N : Nat) (h : Hp) (res : Hp) (H : F_X5_prepare N h = some res) : Runs M_X5_prepare 2 [.inr 58] h (Qv res) := by
  refine Runs.of rfl (Nat.le_of_ble_eq_true rfl) ?_
  show Go M_X5_prepare 2 0 [some (.inr 58), none] [] h (Qv res)
  unfold F_X5_prepare at H
  refine g_aload_n (T_X5_prepare 0 _ _ _ rfl) rfl ?_
  refine g_getR (c := 57) (r := 2) (T_X5_prepare 1 _ _ _ rfl) fl_X5_38 rfl (nR rfl) rfl (by decide) ?_
  refine g_aload_n (T_X5_prepare 2 _ _ _ rfl) rfl ?_
  refine g_getR (c := 57) (r := 59) (T_X5_prepare 3 _ _ _ rfl) fl_X5_11 rfl (nR rfl) rfl (by decide) ?_
  obtain ⟨h1, hq, H⟩ := bv_some H
  refine g_callVv (M' := M_X1_copyDepths) (c := 1) (av := [.inr 59]) (st := []) (T_X5_prepare 4 _ _ _ rfl) ml_X5_74 cb_X1_copyDepths rfl rfl (Nat.le_of_ble_eq_true rfl) (by omega) (R_X1_copyDepths N _ _ hq) ?_
  refine g_iconst (T_X5_prepare 5 _ _ _ rfl) ⟨by decide, by decide⟩ ?_
  refine g_istore_n (T_X5_prepare 6 _ _ _ rfl) (by decide) ?_
  refine g_weak [true, true] ?_
  refine R_L_X5_prepare_13 N   _ _ _ _ H
def F_X0_isTold (N : Nat) (t : Nat) (h : Hp) : Option (Int × Hp) :=
  if (h t 4) ≤ 0 then
    some (0, h)
  else
  some (1, h)
set_option maxRecDepth 100000 in
set_option maxHeartbeats 4000000 in
theorem R_X0_isTold (N : Nat) (t : Nat) (ht : isCart t) (h : Hp) (res : Int × Hp) (H : F_X0_isTold N t h = some res) : Runs M_X0_isTold 1 [.inr (t + 1)] h (Qi res) := by
  refine Runs.of rfl (Nat.le_of_ble_eq_true rfl) ?_
  show Go M_X0_isTold 1 0 [some (.inr (t + 1))] [] h (Qi res)
  unfold F_X0_isTold at H
  refine g_aload_n (T_X0_isTold 0 _ _ _ rfl) rfl ?_
  refine g_getI (c := t) (T_X0_isTold 1 _ _ _ rfl) fl_X0_22 ht.2.1 (Or.inl rfl) ?_
  refine g_if_le (tgt := 11) (T_X0_isTold 2 _ _ _ rfl) (by decide) (fun cc => ?_) (fun cc => ?_)
  · replace H := ite_p cc H
    refine g_iconst (T_X0_isTold 5 _ _ _ rfl) ⟨by decide, by decide⟩ ?_
    exact g_zret (T_X0_isTold 6 _ _ _ rfl) rfl (by decide) (qi_of H)
  · replace H := ite_n cc H
    refine g_iconst (T_X0_isTold 3 _ _ _ rfl) ⟨by decide, by decide⟩ ?_
    refine g_goto (tgt := 12) (T_X0_isTold 4 _ _ _ rfl) (by decide) ?_
    exact g_zret (T_X0_isTold 6 _ _ _ rfl) rfl (by decide) (qi_of H)
def F_X11_isToldCart (N : Nat) (x1 : Int) (h : Hp) : Option (Int × Hp) :=
  bd (F_X11_cartAt N x1 h) fun z2 h1 =>
  if z2 = 0 then
    some (0, h1)
  else
  grd (cartR z2) <|
  bd (F_X0_isTold N (z2 - 1) h1) fun y5 h4 =>
  if y5 = 0 then
    some (0, h4)
  else
  some (1, h4)
set_option maxRecDepth 100000 in
set_option maxHeartbeats 4000000 in
theorem R_X11_isToldCart (N : Nat) (x1 : Int) (h : Hp) (res : Int × Hp) (H : F_X11_isToldCart N x1 h = some res) : Runs M_X11_isToldCart 3 [.inr 1, .inl x1] h (Qi res) := by
  refine Runs.of rfl (Nat.le_of_ble_eq_true rfl) ?_
  show Go M_X11_isToldCart 3 0 [some (.inr 1), some (.inl x1), none] [] h (Qi res)
  unfold F_X11_isToldCart at H
  refine g_aload_n (T_X11_isToldCart 0 _ _ _ rfl) rfl ?_
  refine g_iload_n (T_X11_isToldCart 1 _ _ _ rfl) rfl ?_
  obtain ⟨z2, h1, hq, H⟩ := bd_some H
  refine g_callVr (M' := M_X11_cartAt) (c := 0) (av := [.inl x1]) (st := []) (T_X11_isToldCart 2 _ _ _ rfl) ml_X11_104 cb_X11_cartAt rfl rfl (Nat.le_of_ble_eq_true rfl) (by omega) (R_X11_cartAt N _ _ _ hq) ?_
  refine g_astore_n (T_X11_isToldCart 3 _ _ _ rfl) (by decide) ?_
  refine g_aload_n (T_X11_isToldCart 4 _ _ _ rfl) rfl ?_
  refine g_ifnull (tgt := 21) (T_X11_isToldCart 5 _ _ _ rfl) (by decide) (fun cc => ?_) (fun cc => ?_)
  · replace H := ite_p cc H
    refine g_iconst (T_X11_isToldCart 11 _ _ _ rfl) ⟨by decide, by decide⟩ ?_
    exact g_zret (T_X11_isToldCart 12 _ _ _ rfl) rfl (by decide) (qi_of H)
  · replace H := ite_n cc H
    refine g_aload_n (T_X11_isToldCart 6 _ _ _ rfl) rfl ?_
    obtain ⟨hg, H⟩ := grd_some H
    obtain ⟨t3, rfl, ht3⟩ := cartR_spec hg
    simp only [Nat.add_sub_cancel] at H
    obtain ⟨y5, h4, hq, H⟩ := bd_some H
    refine g_callVi (M' := M_X0_isTold) (c := t3) (av := []) (st := []) (T_X11_isToldCart 7 _ _ _ rfl) ml_X11_330 cb_X0_isTold ht3.2.1 rfl (Nat.le_of_ble_eq_true rfl) (by omega) (R_X0_isTold N t3 ht3 _ _ hq) ?_
    refine g_if_eq (tgt := 21) (T_X11_isToldCart 8 _ _ _ rfl) (by decide) (fun cc => ?_) (fun cc => ?_)
    · replace H := ite_p cc H
      refine g_iconst (T_X11_isToldCart 11 _ _ _ rfl) ⟨by decide, by decide⟩ ?_
      exact g_zret (T_X11_isToldCart 12 _ _ _ rfl) rfl (by decide) (qi_of H)
    · replace H := ite_n cc H
      refine g_iconst (T_X11_isToldCart 9 _ _ _ rfl) ⟨by decide, by decide⟩ ?_
      refine g_goto (tgt := 22) (T_X11_isToldCart 10 _ _ _ rfl) (by decide) ?_
      exact g_zret (T_X11_isToldCart 12 _ _ _ rfl) rfl (by decide) (qi_of H)
def F_X0_stops (N : Nat) (t : Nat) (h : Hp) : Option (Int × Hp) :=
  some ((h t 3), h)
set_option maxRecDepth 100000 in
set_option maxHeartbeats 4000000 in
theorem R_X0_stops (N : Nat) (t : Nat) (ht : isCart t) (h : Hp) (res : Int × Hp) (H : F_X0_stops N t h = some res) : Runs M_X0_stops 1 [.inr (t + 1)] h (Qi res) := by
  refine Runs.of rfl (Nat.le_of_ble_eq_true rfl) ?_
  show Go M_X0_stops 1 0 [some (.inr (t + 1))] [] h (Qi res)
  unfold F_X0_stops at H
  refine g_aload_n (T_X0_stops 0 _ _ _ rfl) rfl ?_
  refine g_getI (c := t) (T_X0_stops 1 _ _ _ rfl) fl_X0_26 ht.2.1 (Or.inl rfl) ?_
  exact g_iret (T_X0_stops 2 _ _ _ rfl) rfl (qi_of H)
def J_X7_between_25 (N : Nat) (x1 : Int) (x2 : Int) (s0 : Int) (h : Hp) : Option (Int × Hp) :=
  if s0 = 0 then
    some ((-2), h)
  else
  grd (0 ≤ (w32 ((w32 (x1 * 14)) + x2)) ∧ (w32 ((w32 (x1 * 14)) + x2)) < 196) <|
  some ((h 10 (w32 ((w32 (x1 * 14)) + x2)).toNat), h)
set_option maxRecDepth 100000 in
set_option maxHeartbeats 4000000 in
theorem R_J_X7_between_25 (N : Nat) (x1 : Int) (x2 : Int) (s0 : Int) (h : Hp) (res : Int × Hp) (H : J_X7_between_25 N x1 x2 s0 h = some res) : Go M_X7_between 1 25 [some (.inr 8), some (.inl x1), some (.inl x2), none] [.inl s0] h (Qi res) := by
  unfold J_X7_between_25 at H
  refine g_istore_n (T_X7_between 13 _ _ _ rfl) (by decide) ?_
  refine g_iload_n (T_X7_between 14 _ _ _ rfl) rfl ?_
  refine g_if_eq (tgt := 44) (T_X7_between 15 _ _ _ rfl) (by decide) (fun cc => ?_) (fun cc => ?_)
  · replace H := ite_p cc H
    refine g_bipush (T_X7_between 25 _ _ _ rfl) (by decide) ?_
    exact g_iret (T_X7_between 26 _ _ _ rfl) rfl (qi_of H)
  · replace H := ite_n cc H
    refine g_aload_n (T_X7_between 16 _ _ _ rfl) rfl ?_
    refine g_getR (c := 7) (r := 11) (T_X7_between 17 _ _ _ rfl) fl_X7_18 rfl (nR rfl) rfl (by decide) ?_
    refine g_iload_n (T_X7_between 18 _ _ _ rfl) rfl ?_
    refine g_bipush (T_X7_between 19 _ _ _ rfl) (by decide) ?_
    refine g_imul (T_X7_between 20 _ _ _ rfl) ?_
    refine g_iload_n (T_X7_between 21 _ _ _ rfl) rfl ?_
    refine g_iadd (T_X7_between 22 _ _ _ rfl) ?_
    obtain ⟨hg, H⟩ := grd_some H
    refine g_iald (c := 10) (T_X7_between 23 _ _ _ rfl) rfl hg ?_
    refine g_goto (tgt := 46) (T_X7_between 24 _ _ _ rfl) (by decide) ?_
    exact g_iret (T_X7_between 26 _ _ _ rfl) rfl (qi_of H)
def F_X7_between (N : Nat) (x1 : Int) (x2 : Int) (h : Hp) : Option (Int × Hp) :=
  if x1 < 0 then
    J_X7_between_25 N  x1 x2 0 h
  else
  if 14 ≤ x1 then
    J_X7_between_25 N  x1 x2 0 h
  else
  if x2 < 0 then
    J_X7_between_25 N  x1 x2 0 h
  else
  if 14 ≤ x2 then
    J_X7_between_25 N  x1 x2 0 h
  else
  J_X7_between_25 N  x1 x2 1 h
set_option maxRecDepth 100000 in
set_option maxHeartbeats 4000000 in
theorem R_X7_between (N : Nat) (x1 : Int) (x2 : Int) (h : Hp) (res : Int × Hp) (H : F_X7_between N x1 x2 h = some res) : Runs M_X7_between 1 [.inr 8, .inl x1, .inl x2] h (Qi res) := by
  refine Runs.of rfl (Nat.le_of_ble_eq_true rfl) ?_
  show Go M_X7_between 1 0 [some (.inr 8), some (.inl x1), some (.inl x2), none] [] h (Qi res)
  unfold F_X7_between at H
  refine g_iload_n (T_X7_between 0 _ _ _ rfl) rfl ?_
  refine g_if_lt (tgt := 24) (T_X7_between 1 _ _ _ rfl) (by decide) (fun cc => ?_) (fun cc => ?_)
  · replace H := ite_p cc H
    refine g_iconst (T_X7_between 12 _ _ _ rfl) ⟨by decide, by decide⟩ ?_
    refine g_weak [true, true, true, false] ?_
    exact R_J_X7_between_25 N   _ _ _ _ _ H
  · replace H := ite_n cc H
    refine g_iload_n (T_X7_between 2 _ _ _ rfl) rfl ?_
    refine g_bipush (T_X7_between 3 _ _ _ rfl) (by decide) ?_
    refine g_icmp_ge (tgt := 24) (T_X7_between 4 _ _ _ rfl) (by decide) (fun cc => ?_) (fun cc => ?_)
    · replace H := ite_p cc H
      refine g_iconst (T_X7_between 12 _ _ _ rfl) ⟨by decide, by decide⟩ ?_
      refine g_weak [true, true, true, false] ?_
      exact R_J_X7_between_25 N   _ _ _ _ _ H
    · replace H := ite_n cc H
      refine g_iload_n (T_X7_between 5 _ _ _ rfl) rfl ?_
      refine g_if_lt (tgt := 24) (T_X7_between 6 _ _ _ rfl) (by decide) (fun cc => ?_) (fun cc => ?_)
      · replace H := ite_p cc H
        refine g_iconst (T_X7_between 12 _ _ _ rfl) ⟨by decide, by decide⟩ ?_
        refine g_weak [true, true, true, false] ?_
        exact R_J_X7_between_25 N   _ _ _ _ _ H
      · replace H := ite_n cc H
        refine g_iload_n (T_X7_between 7 _ _ _ rfl) rfl ?_
        refine g_bipush (T_X7_between 8 _ _ _ rfl) (by decide) ?_
        refine g_icmp_ge (tgt := 24) (T_X7_between 9 _ _ _ rfl) (by decide) (fun cc => ?_) (fun cc => ?_)
        · replace H := ite_p cc H
          refine g_iconst (T_X7_between 12 _ _ _ rfl) ⟨by decide, by decide⟩ ?_
          refine g_weak [true, true, true, false] ?_
          exact R_J_X7_between_25 N   _ _ _ _ _ H
        · replace H := ite_n cc H
          refine g_iconst (T_X7_between 10 _ _ _ rfl) ⟨by decide, by decide⟩ ?_
          refine g_goto (tgt := 25) (T_X7_between 11 _ _ _ rfl) (by decide) ?_
          refine g_weak [true, true, true, false] ?_
          exact R_J_X7_between_25 N   _ _ _ _ _ H
def J_X5_goOn_109 (N : Nat) (k36 : Int → Int → Nat → Int → Hp → Option (Hp)) (x1 : Int) (x3 : Int) (r4 : Nat) (x5 : Int) (h : Hp) : Option (Hp) :=
  bnd (w32 (x5 + 1)) fun y1 =>
  k36 x1 x3 r4 y1 h
set_option maxRecDepth 100000 in
set_option maxHeartbeats 4000000 in
theorem R_J_X5_goOn_109 (N : Nat) (k36 : Int → Int → Nat → Int → Hp → Option (Hp)) (hk36 : ∀ (x1 : Int) (x3 : Int) (r4 : Nat) (x5 : Int) (h : Hp) (res : Hp), k36 x1 x3 r4 x5 h = some res → Go M_X5_goOn 3 36 [some (.inr 58), some (.inl x1), none, some (.inl x3), some (.inr r4), some (.inl x5), none] [] h (Qv res)) (x1 : Int) (x3 : Int) (r4 : Nat) (x5 : Int) (h : Hp) (res : Hp) (H : J_X5_goOn_109 N k36 x1 x3 r4 x5 h = some res) : Go M_X5_goOn 3 109 [some (.inr 58), some (.inl x1), none, some (.inl x3), some (.inr r4), some (.inl x5), none] [] h (Qv res) := by
  unfold J_X5_goOn_109 at H
  refine g_iincB (T_X5_goOn 57 _ _ _ rfl) rfl (by decide) H fun y1 H => ?_
  refine g_goto (tgt := 36) (T_X5_goOn 58 _ _ _ rfl) (by decide) ?_
  refine g_weak [true, true, false, true, true, true, false] ?_
  exact hk36 _ _ _ _ _ _ H
def L_X5_goOn_36 (N : Nat) : Nat → Int → Int → Nat → Int → Hp → Option (Hp)
  | 0, _, _, _, _, _ => none
  | n + 1, x1, x3, r4, x5, h =>
    grd (cartR r4) <|
    bd (F_X0_stops N (r4 - 1) h) fun y3 h2 =>
    if y3 ≤ x5 then
      some h2
    else
    grd (0 ≤ x1 ∧ x1 < 5) <|
    bd (F_X0_streetOf N (r4 - 1) x5 h2) fun y5 h4 =>
    bd (F_X7_between N (h2 61 x1.toNat) y5 h4) fun y7 h6 =>
    if y7 < 0 then
      J_X5_goOn_109 N (L_X5_goOn_36 N n) x1 x3 r4 x5 h6
    else
    bd (F_X0_streetOf N (r4 - 1) x5 h6) fun y9 h8 =>
    bd (F_X1_isTold N y9 h8) fun y11 h10 =>
    if y11 = 0 then
      J_X5_goOn_109 N (L_X5_goOn_36 N n) x1 x3 r4 x5 h10
    else
    grd (0 ≤ x1 ∧ x1 < 5) <|
    bnd (hw h10 60 x1.toNat x5) fun h12 =>
    grd (0 ≤ x1 ∧ x1 < 5) <|
    bnd (hw h12 62 x1.toNat (w32 (x3 + y7))) fun h13 =>
    some h13
set_option maxRecDepth 100000 in
set_option maxHeartbeats 4000000 in
theorem R_L_X5_goOn_36 (N : Nat) : ∀ (n : Nat) (x1 : Int) (x3 : Int) (r4 : Nat) (x5 : Int) (h : Hp) (res : Hp), L_X5_goOn_36 N n x1 x3 r4 x5 h = some res → Go M_X5_goOn 3 36 [some (.inr 58), some (.inl x1), none, some (.inl x3), some (.inr r4), some (.inl x5), none] [] h (Qv res)
  | 0, _, _, _, _, _, _, H => by cases H
  | n + 1, x1, x3, r4, x5, h, res, H => by
    have ih := R_L_X5_goOn_36 N n
    simp only [L_X5_goOn_36] at H
    refine g_iload (T_X5_goOn 20 _ _ _ rfl) rfl ?_
    refine g_aload (T_X5_goOn 21 _ _ _ rfl) rfl ?_
    obtain ⟨hg, H⟩ := grd_some H
    obtain ⟨t1, rfl, ht1⟩ := cartR_spec hg
    simp only [Nat.add_sub_cancel] at H
    obtain ⟨y3, h2, hq, H⟩ := bd_some H
    refine g_callVi (M' := M_X0_stops) (c := t1) (av := []) (st := [.inl x5]) (T_X5_goOn 22 _ _ _ rfl) ml_X5_163 cb_X0_stops ht1.2.1 rfl (Nat.le_of_ble_eq_true rfl) (by omega) (R_X0_stops N t1 ht1 _ _ hq) ?_
    refine g_icmp_ge (tgt := 115) (T_X5_goOn 23 _ _ _ rfl) (by decide) (fun cc => ?_) (fun cc => ?_)
    · replace H := ite_p cc H
      exact g_vret (T_X5_goOn 59 _ _ _ rfl) rfl (qv_of H)
    · replace H := ite_n cc H
      refine g_aload_n (T_X5_goOn 24 _ _ _ rfl) rfl ?_
      refine g_getR (c := 57) (r := 8) (T_X5_goOn 25 _ _ _ rfl) fl_X5_42 rfl (nR rfl) rfl (by decide) ?_
      refine g_aload_n (T_X5_goOn 26 _ _ _ rfl) rfl ?_
      refine g_getR (c := 57) (r := 62) (T_X5_goOn 27 _ _ _ rfl) fl_X5_26 rfl (nR rfl) rfl (by decide) ?_
      refine g_iload_n (T_X5_goOn 28 _ _ _ rfl) rfl ?_
      obtain ⟨hg, H⟩ := grd_some H
      refine g_iald (c := 61) (T_X5_goOn 29 _ _ _ rfl) rfl hg ?_
      refine g_aload (T_X5_goOn 30 _ _ _ rfl) rfl ?_
      refine g_iload (T_X5_goOn 31 _ _ _ rfl) rfl ?_
      obtain ⟨y5, h4, hq, H⟩ := bd_some H
      refine g_callVi (M' := M_X0_streetOf) (c := t1) (av := [.inl x5]) (st := [.inl (h2 61 x1.toNat), .inr 8]) (T_X5_goOn 32 _ _ _ rfl) ml_X5_144 cb_X0_streetOf ht1.2.1 rfl (Nat.le_of_ble_eq_true rfl) (by omega) (R_X0_streetOf N t1 ht1 _ _ _ hq) ?_
      obtain ⟨y7, h6, hq, H⟩ := bd_some H
      refine g_callVi (M' := M_X7_between) (c := 7) (av := [.inl (h2 61 x1.toNat), .inl y5]) (st := []) (T_X5_goOn 33 _ _ _ rfl) ml_X5_165 cb_X7_between rfl rfl (Nat.le_of_ble_eq_true rfl) (by omega) (R_X7_between N _ _ _ _ hq) ?_
      refine g_istore (T_X5_goOn 34 _ _ _ rfl) (by decide) ?_
      refine g_iload (T_X5_goOn 35 _ _ _ rfl) rfl ?_
      refine g_if_lt (tgt := 109) (T_X5_goOn 36 _ _ _ rfl) (by decide) (fun cc => ?_) (fun cc => ?_)
      · replace H := ite_p cc H
        refine g_weak [true, true, false, true, true, true, false] ?_
        exact R_J_X5_goOn_109 N (L_X5_goOn_36 N n) ih _ _ _ _ _ _ H
      · replace H := ite_n cc H
        refine g_aload_n (T_X5_goOn 37 _ _ _ rfl) rfl ?_
        refine g_getR (c := 57) (r := 2) (T_X5_goOn 38 _ _ _ rfl) fl_X5_38 rfl (nR rfl) rfl (by decide) ?_
        refine g_aload (T_X5_goOn 39 _ _ _ rfl) rfl ?_
        refine g_iload (T_X5_goOn 40 _ _ _ rfl) rfl ?_
        obtain ⟨y9, h8, hq, H⟩ := bd_some H
        refine g_callVi (M' := M_X0_streetOf) (c := t1) (av := [.inl x5]) (st := [.inr 2]) (T_X5_goOn 41 _ _ _ rfl) ml_X5_144 cb_X0_streetOf ht1.2.1 rfl (Nat.le_of_ble_eq_true rfl) (by omega) (R_X0_streetOf N t1 ht1 _ _ _ hq) ?_
        obtain ⟨y11, h10, hq, H⟩ := bd_some H
        refine g_callVi (M' := M_X1_isTold) (c := 1) (av := [.inl y9]) (st := []) (T_X5_goOn 42 _ _ _ rfl) ml_X5_92 cb_X1_isTold rfl rfl (Nat.le_of_ble_eq_true rfl) (by omega) (R_X1_isTold N _ _ _ hq) ?_
        refine g_if_eq (tgt := 109) (T_X5_goOn 43 _ _ _ rfl) (by decide) (fun cc => ?_) (fun cc => ?_)
        · replace H := ite_p cc H
          refine g_weak [true, true, false, true, true, true, false] ?_
          exact R_J_X5_goOn_109 N (L_X5_goOn_36 N n) ih _ _ _ _ _ _ H
        · replace H := ite_n cc H
          refine g_aload_n (T_X5_goOn 44 _ _ _ rfl) rfl ?_
          refine g_getR (c := 57) (r := 61) (T_X5_goOn 45 _ _ _ rfl) fl_X5_23 rfl (nR rfl) rfl (by decide) ?_
          refine g_iload_n (T_X5_goOn 46 _ _ _ rfl) rfl ?_
          refine g_iload (T_X5_goOn 47 _ _ _ rfl) rfl ?_
          obtain ⟨hg, H⟩ := grd_some H
          refine g_iast (c := 60) (T_X5_goOn 48 _ _ _ rfl) rfl hg ?_
          refine g_bndH H fun h12 H => ?_
          refine g_aload_n (T_X5_goOn 49 _ _ _ rfl) rfl ?_
          refine g_getR (c := 57) (r := 63) (T_X5_goOn 50 _ _ _ rfl) fl_X5_29 rfl (nR rfl) rfl (by decide) ?_
          refine g_iload_n (T_X5_goOn 51 _ _ _ rfl) rfl ?_
          refine g_iload_n (T_X5_goOn 52 _ _ _ rfl) rfl ?_
          refine g_iload (T_X5_goOn 53 _ _ _ rfl) rfl ?_
          refine g_iadd (T_X5_goOn 54 _ _ _ rfl) ?_
          obtain ⟨hg, H⟩ := grd_some H
          refine g_iast (c := 62) (T_X5_goOn 55 _ _ _ rfl) rfl hg ?_
          refine g_bndH H fun h13 H => ?_
          exact g_vret (T_X5_goOn 56 _ _ _ rfl) rfl (qv_of H)
def F_X5_goOn (N : Nat) (x1 : Int) (x2 : Int) (x3 : Int) (h : Hp) : Option (Hp) :=
  grd (0 ≤ x1 ∧ x1 < 5 ∧ (h 59 x1.toNat).toNat ≤ 1000) <|
  bnd ((h 59 x1.toNat).toNat) fun z1 =>
  grd (0 ≤ x1 ∧ x1 < 5) <|
  bnd (hw h 62 x1.toNat 2147483647) fun h2 =>
  if z1 = 0 then
    some h2
  else
  bd (F_X1_isTold N 0 h2) fun y4 h3 =>
  if y4 = 0 then
    some h3
  else
  L_X5_goOn_36 N  N x1 x3 z1 x2 h3
set_option maxRecDepth 100000 in
set_option maxHeartbeats 4000000 in
theorem R_X5_goOn (N : Nat) (x1 : Int) (x2 : Int) (x3 : Int) (h : Hp) (res : Hp) (H : F_X5_goOn N x1 x2 x3 h = some res) : Runs M_X5_goOn 3 [.inr 58, .inl x1, .inl x2, .inl x3] h (Qv res) := by
  refine Runs.of rfl (Nat.le_of_ble_eq_true rfl) ?_
  show Go M_X5_goOn 3 0 [some (.inr 58), some (.inl x1), some (.inl x2), some (.inl x3), none, none, none] [] h (Qv res)
  unfold F_X5_goOn at H
  refine g_aload_n (T_X5_goOn 0 _ _ _ rfl) rfl ?_
  refine g_getR (c := 57) (r := 60) (T_X5_goOn 1 _ _ _ rfl) fl_X5_19 rfl (nR rfl) rfl (by decide) ?_
  refine g_iload_n (T_X5_goOn 2 _ _ _ rfl) rfl ?_
  obtain ⟨hg, H⟩ := grd_some H
  refine g_aald (c := 59) (T_X5_goOn 3 _ _ _ rfl) rfl ⟨hg.1, hg.2.1⟩ hg.2.2 ?_
  refine g_bndR H fun z1 H => ?_
  refine g_astore (T_X5_goOn 4 _ _ _ rfl) (by decide) ?_
  refine g_aload_n (T_X5_goOn 5 _ _ _ rfl) rfl ?_
  refine g_getR (c := 57) (r := 63) (T_X5_goOn 6 _ _ _ rfl) fl_X5_29 rfl (nR rfl) rfl (by decide) ?_
  refine g_iload_n (T_X5_goOn 7 _ _ _ rfl) rfl ?_
  refine g_ldc (T_X5_goOn 8 _ _ _ rfl) kc_X5_73 ⟨by decide, by decide⟩ ?_
  obtain ⟨hg, H⟩ := grd_some H
  refine g_iast (c := 62) (T_X5_goOn 9 _ _ _ rfl) rfl hg ?_
  refine g_bndH H fun h2 H => ?_
  refine g_aload (T_X5_goOn 10 _ _ _ rfl) rfl ?_
  refine g_ifnull (tgt := 32) (T_X5_goOn 11 _ _ _ rfl) (by decide) (fun cc => ?_) (fun cc => ?_)
  · replace H := ite_p cc H
    exact g_vret (T_X5_goOn 17 _ _ _ rfl) rfl (qv_of H)
  · replace H := ite_n cc H
    refine g_aload_n (T_X5_goOn 12 _ _ _ rfl) rfl ?_
    refine g_getR (c := 57) (r := 2) (T_X5_goOn 13 _ _ _ rfl) fl_X5_38 rfl (nR rfl) rfl (by decide) ?_
    refine g_iconst (T_X5_goOn 14 _ _ _ rfl) ⟨by decide, by decide⟩ ?_
    obtain ⟨y4, h3, hq, H⟩ := bd_some H
    refine g_callVi (M' := M_X1_isTold) (c := 1) (av := [.inl 0]) (st := []) (T_X5_goOn 15 _ _ _ rfl) ml_X5_92 cb_X1_isTold rfl rfl (Nat.le_of_ble_eq_true rfl) (by omega) (R_X1_isTold N _ _ _ hq) ?_
    refine g_if_ne (tgt := 33) (T_X5_goOn 16 _ _ _ rfl) (by decide) (fun cc => ?_) (fun cc => ?_)
    · replace H := ite_n cc H
      refine g_iload_n (T_X5_goOn 18 _ _ _ rfl) rfl ?_
      refine g_istore (T_X5_goOn 19 _ _ _ rfl) (by decide) ?_
      refine g_weak [true, true, false, true, true, true, false] ?_
      refine R_L_X5_goOn_36 N   _ _ _ _ _ _ _ H
    · replace H := ite_p cc H
      exact g_vret (T_X5_goOn 17 _ _ _ rfl) rfl (qv_of H)
def F_X5_send (N : Nat) (x1 : Int) (r2 : Nat) (x3 : Int) (h : Hp) : Option (Hp) :=
  bd (F_X11_isWithin N x1 0 4 h) fun y2 h1 =>
  if y2 = 0 then
    some h1
  else
  grd ((0 ≤ x1 ∧ x1 < 5) ∧ refOK r2) <|
  bnd (hw h1 59 x1.toNat (r2 : Int)) fun h3 =>
  grd (0 ≤ x1 ∧ x1 < 5) <|
  bnd (hw h3 61 x1.toNat 0) fun h4 =>
  bv (F_X5_goOn N x1 0 x3 h4) fun h5 =>
  some h5
set_option maxRecDepth 100000 in
set_option maxHeartbeats 4000000 in
theorem R_X5_send (N : Nat) (x1 : Int) (r2 : Nat) (x3 : Int) (h : Hp) (res : Hp) (H : F_X5_send N x1 r2 x3 h = some res) : Runs M_X5_send 4 [.inr 58, .inl x1, .inr r2, .inl x3] h (Qv res) := by
  refine Runs.of rfl (Nat.le_of_ble_eq_true rfl) ?_
  show Go M_X5_send 4 0 [some (.inr 58), some (.inl x1), some (.inr r2), some (.inl x3)] [] h (Qv res)
  unfold F_X5_send at H
  refine g_iload_n (T_X5_send 0 _ _ _ rfl) rfl ?_
  refine g_iconst (T_X5_send 1 _ _ _ rfl) ⟨by decide, by decide⟩ ?_
  refine g_iconst (T_X5_send 2 _ _ _ rfl) ⟨by decide, by decide⟩ ?_
  obtain ⟨y2, h1, hq, H⟩ := bd_some H
  refine g_callSNi (M' := M_X11_isWithin) (av := [.inl x1, .inl 0, .inl 4]) (st := []) (T_X5_send 3 _ _ _ rfl) ml_X5_69 cb_X11_isWithin rfl (Nat.le_of_ble_eq_true rfl) (by omega) (R_X11_isWithin N _ _ _ _ _ hq) ?_
  refine g_if_eq (tgt := 30) (T_X5_send 4 _ _ _ rfl) (by decide) (fun cc => ?_) (fun cc => ?_)
  · replace H := ite_p cc H
    exact g_vret (T_X5_send 20 _ _ _ rfl) rfl (qv_of H)
  · replace H := ite_n cc H
    refine g_aload_n (T_X5_send 5 _ _ _ rfl) rfl ?_
    refine g_getR (c := 57) (r := 60) (T_X5_send 6 _ _ _ rfl) fl_X5_19 rfl (nR rfl) rfl (by decide) ?_
    refine g_iload_n (T_X5_send 7 _ _ _ rfl) rfl ?_
    refine g_aload_n (T_X5_send 8 _ _ _ rfl) rfl ?_
    obtain ⟨hg, H⟩ := grd_some H
    refine g_aast (c := 59) (T_X5_send 9 _ _ _ rfl) rfl hg.1 (refOK_spec hg.2) ?_
    refine g_bndH H fun h3 H => ?_
    refine g_aload_n (T_X5_send 10 _ _ _ rfl) rfl ?_
    refine g_getR (c := 57) (r := 62) (T_X5_send 11 _ _ _ rfl) fl_X5_26 rfl (nR rfl) rfl (by decide) ?_
    refine g_iload_n (T_X5_send 12 _ _ _ rfl) rfl ?_
    refine g_iconst (T_X5_send 13 _ _ _ rfl) ⟨by decide, by decide⟩ ?_
    obtain ⟨hg, H⟩ := grd_some H
    refine g_iast (c := 61) (T_X5_send 14 _ _ _ rfl) rfl hg ?_
    refine g_bndH H fun h4 H => ?_
    refine g_aload_n (T_X5_send 15 _ _ _ rfl) rfl ?_
    refine g_iload_n (T_X5_send 16 _ _ _ rfl) rfl ?_
    refine g_iconst (T_X5_send 17 _ _ _ rfl) ⟨by decide, by decide⟩ ?_
    refine g_iload_n (T_X5_send 18 _ _ _ rfl) rfl ?_
    obtain ⟨h5, hq, H⟩ := bv_some H
    refine g_callVv (M' := M_X5_goOn) (c := 57) (av := [.inl x1, .inl 0, .inl x3]) (st := []) (T_X5_send 19 _ _ _ rfl) ml_X5_80 cb_X5_goOn rfl rfl (Nat.le_of_ble_eq_true rfl) (by omega) (R_X5_goOn N _ _ _ _ _ hq) ?_
    exact g_vret (T_X5_send 20 _ _ _ rfl) rfl (qv_of H)
def J_X11_sendCarts_37 (N : Nat) (k9 : Int → Int → Hp → Option (Hp)) (x1 : Int) (x2 : Int) (h : Hp) : Option (Hp) :=
  bnd (w32 (x2 + 1)) fun y1 =>
  k9 x1 y1 h
set_option maxRecDepth 100000 in
set_option maxHeartbeats 4000000 in
theorem R_J_X11_sendCarts_37 (N : Nat) (k9 : Int → Int → Hp → Option (Hp)) (hk9 : ∀ (x1 : Int) (x2 : Int) (h : Hp) (res : Hp), k9 x1 x2 h = some res → Go M_X11_sendCarts 5 9 [some (.inr 1), some (.inl x1), some (.inl x2)] [] h (Qv res)) (x1 : Int) (x2 : Int) (h : Hp) (res : Hp) (H : J_X11_sendCarts_37 N k9 x1 x2 h = some res) : Go M_X11_sendCarts 5 37 [some (.inr 1), some (.inl x1), some (.inl x2)] [] h (Qv res) := by
  unfold J_X11_sendCarts_37 at H
  refine g_iincB (T_X11_sendCarts 21 _ _ _ rfl) rfl (by decide) H fun y1 H => ?_
  refine g_goto (tgt := 9) (T_X11_sendCarts 22 _ _ _ rfl) (by decide) ?_
  refine g_weak [true, true, true] ?_
  exact hk9 _ _ _ _ H
def L_X11_sendCarts_9 (N : Nat) : Nat → Int → Int → Hp → Option (Hp)
  | 0, _, _, _ => none
  | n + 1, x1, x2, h =>
    if 5 ≤ x2 then
      some h
    else
    bd (F_X11_isToldCart N x2 h) fun y2 h1 =>
    if y2 = 0 then
      J_X11_sendCarts_37 N (L_X11_sendCarts_9 N n) x1 x2 h1
    else
    grd (0 ≤ x2 ∧ x2 < 5 ∧ (h1 20 x2.toNat).toNat ≤ 1000) <|
    bnd ((h1 20 x2.toNat).toNat) fun z3 =>
    bv (F_X5_send N x2 z3 x1 h1) fun h4 =>
    J_X11_sendCarts_37 N (L_X11_sendCarts_9 N n) x1 x2 h4
set_option maxRecDepth 100000 in
set_option maxHeartbeats 4000000 in
theorem R_L_X11_sendCarts_9 (N : Nat) : ∀ (n : Nat) (x1 : Int) (x2 : Int) (h : Hp) (res : Hp), L_X11_sendCarts_9 N n x1 x2 h = some res → Go M_X11_sendCarts 5 9 [some (.inr 1), some (.inl x1), some (.inl x2)] [] h (Qv res)
  | 0, _, _, _, _, H => by cases H
  | n + 1, x1, x2, h, res, H => by
    have ih := R_L_X11_sendCarts_9 N n
    simp only [L_X11_sendCarts_9] at H
    refine g_iload_n (T_X11_sendCarts 5 _ _ _ rfl) rfl ?_
    refine g_iconst (T_X11_sendCarts 6 _ _ _ rfl) ⟨by decide, by decide⟩ ?_
    refine g_icmp_ge (tgt := 43) (T_X11_sendCarts 7 _ _ _ rfl) (by decide) (fun cc => ?_) (fun cc => ?_)
    · replace H := ite_p cc H
      exact g_vret (T_X11_sendCarts 23 _ _ _ rfl) rfl (qv_of H)
    · replace H := ite_n cc H
      refine g_aload_n (T_X11_sendCarts 8 _ _ _ rfl) rfl ?_
      refine g_iload_n (T_X11_sendCarts 9 _ _ _ rfl) rfl ?_
      obtain ⟨y2, h1, hq, H⟩ := bd_some H
      refine g_callVi (M' := M_X11_isToldCart) (c := 0) (av := [.inl x2]) (st := []) (T_X11_sendCarts 10 _ _ _ rfl) ml_X11_271 cb_X11_isToldCart rfl rfl (Nat.le_of_ble_eq_true rfl) (by omega) (R_X11_isToldCart N _ _ _ hq) ?_
      refine g_if_eq (tgt := 37) (T_X11_sendCarts 11 _ _ _ rfl) (by decide) (fun cc => ?_) (fun cc => ?_)
      · replace H := ite_p cc H
        refine g_weak [true, true, true] ?_
        exact R_J_X11_sendCarts_37 N (L_X11_sendCarts_9 N n) ih _ _ _ _ H
      · replace H := ite_n cc H
        refine g_aload_n (T_X11_sendCarts 12 _ _ _ rfl) rfl ?_
        refine g_getR (c := 0) (r := 58) (T_X11_sendCarts 13 _ _ _ rfl) fl_X11_60 rfl (nR rfl) rfl (by decide) ?_
        refine g_iload_n (T_X11_sendCarts 14 _ _ _ rfl) rfl ?_
        refine g_aload_n (T_X11_sendCarts 15 _ _ _ rfl) rfl ?_
        refine g_getR (c := 0) (r := 21) (T_X11_sendCarts 16 _ _ _ rfl) fl_X11_47 rfl (nR rfl) rfl (by decide) ?_
        refine g_iload_n (T_X11_sendCarts 17 _ _ _ rfl) rfl ?_
        obtain ⟨hg, H⟩ := grd_some H
        refine g_aald (c := 20) (T_X11_sendCarts 18 _ _ _ rfl) rfl ⟨hg.1, hg.2.1⟩ hg.2.2 ?_
        refine g_bndR H fun z3 H => ?_
        refine g_iload_n (T_X11_sendCarts 19 _ _ _ rfl) rfl ?_
        obtain ⟨h4, hq, H⟩ := bv_some H
        refine g_callVv (M' := M_X5_send) (c := 57) (av := [.inl x2, .inr z3, .inl x1]) (st := []) (T_X11_sendCarts 20 _ _ _ rfl) ml_X11_344 cb_X5_send rfl rfl (Nat.le_of_ble_eq_true rfl) (by omega) (R_X5_send N _ _ _ _ _ hq) ?_
        refine g_weak [true, true, true] ?_
        exact R_J_X11_sendCarts_37 N (L_X11_sendCarts_9 N n) ih _ _ _ _ H
def F_X11_sendCarts (N : Nat) (x1 : Int) (h : Hp) : Option (Hp) :=
  bv (F_X5_prepare N h) fun h1 =>
  L_X11_sendCarts_9 N  N x1 0 h1
set_option maxRecDepth 100000 in
set_option maxHeartbeats 4000000 in
theorem R_X11_sendCarts (N : Nat) (x1 : Int) (h : Hp) (res : Hp) (H : F_X11_sendCarts N x1 h = some res) : Runs M_X11_sendCarts 5 [.inr 1, .inl x1] h (Qv res) := by
  refine Runs.of rfl (Nat.le_of_ble_eq_true rfl) ?_
  show Go M_X11_sendCarts 5 0 [some (.inr 1), some (.inl x1), none] [] h (Qv res)
  unfold F_X11_sendCarts at H
  refine g_aload_n (T_X11_sendCarts 0 _ _ _ rfl) rfl ?_
  refine g_getR (c := 0) (r := 58) (T_X11_sendCarts 1 _ _ _ rfl) fl_X11_60 rfl (nR rfl) rfl (by decide) ?_
  obtain ⟨h1, hq, H⟩ := bv_some H
  refine g_callVv (M' := M_X5_prepare) (c := 57) (av := []) (st := []) (T_X11_sendCarts 2 _ _ _ rfl) ml_X11_341 cb_X5_prepare rfl rfl (Nat.le_of_ble_eq_true rfl) (by omega) (R_X5_prepare N _ _ hq) ?_
  refine g_iconst (T_X11_sendCarts 3 _ _ _ rfl) ⟨by decide, by decide⟩ ?_
  refine g_istore_n (T_X11_sendCarts 4 _ _ _ rfl) (by decide) ?_
  refine g_weak [true, true, true] ?_
  refine R_L_X11_sendCarts_9 N   _ _ _ _ _ H
def J_X5_earliestCart_26 (N : Nat) (k4 : Int → Int → Hp → Option (Int × Hp)) (x1 : Int) (x2 : Int) (h : Hp) : Option (Int × Hp) :=
  bnd (w32 (x2 + 1)) fun y1 =>
  k4 x1 y1 h
set_option maxRecDepth 100000 in
set_option maxHeartbeats 4000000 in
theorem R_J_X5_earliestCart_26 (N : Nat) (k4 : Int → Int → Hp → Option (Int × Hp)) (hk4 : ∀ (x1 : Int) (x2 : Int) (h : Hp) (res : Int × Hp), k4 x1 x2 h = some res → Go M_X5_earliestCart 1 4 [some (.inr 58), some (.inl x1), some (.inl x2)] [] h (Qi res)) (x1 : Int) (x2 : Int) (h : Hp) (res : Int × Hp) (H : J_X5_earliestCart_26 N k4 x1 x2 h = some res) : Go M_X5_earliestCart 1 26 [some (.inr 58), some (.inl x1), some (.inl x2)] [] h (Qi res) := by
  unfold J_X5_earliestCart_26 at H
  refine g_iincB (T_X5_earliestCart 18 _ _ _ rfl) rfl (by decide) H fun y1 H => ?_
  refine g_goto (tgt := 4) (T_X5_earliestCart 19 _ _ _ rfl) (by decide) ?_
  refine g_weak [true, true, true] ?_
  exact hk4 _ _ _ _ H
def L_X5_earliestCart_4 (N : Nat) : Nat → Int → Int → Hp → Option (Int × Hp)
  | 0, _, _, _ => none
  | n + 1, x1, x2, h =>
    if 5 ≤ x2 then
      some (x1, h)
    else
    grd (0 ≤ x2 ∧ x2 < 5) <|
    grd (0 ≤ x1 ∧ x1 < 5) <|
    if (h 62 x1.toNat) ≤ (h 62 x2.toNat) then
      J_X5_earliestCart_26 N (L_X5_earliestCart_4 N n) x1 x2 h
    else
    J_X5_earliestCart_26 N (L_X5_earliestCart_4 N n) x2 x2 h
set_option maxRecDepth 100000 in
set_option maxHeartbeats 4000000 in
theorem R_L_X5_earliestCart_4 (N : Nat) : ∀ (n : Nat) (x1 : Int) (x2 : Int) (h : Hp) (res : Int × Hp), L_X5_earliestCart_4 N n x1 x2 h = some res → Go M_X5_earliestCart 1 4 [some (.inr 58), some (.inl x1), some (.inl x2)] [] h (Qi res)
  | 0, _, _, _, _, H => by cases H
  | n + 1, x1, x2, h, res, H => by
    have ih := R_L_X5_earliestCart_4 N n
    simp only [L_X5_earliestCart_4] at H
    refine g_iload_n (T_X5_earliestCart 4 _ _ _ rfl) rfl ?_
    refine g_iconst (T_X5_earliestCart 5 _ _ _ rfl) ⟨by decide, by decide⟩ ?_
    refine g_icmp_ge (tgt := 32) (T_X5_earliestCart 6 _ _ _ rfl) (by decide) (fun cc => ?_) (fun cc => ?_)
    · replace H := ite_p cc H
      refine g_iload_n (T_X5_earliestCart 20 _ _ _ rfl) rfl ?_
      exact g_iret (T_X5_earliestCart 21 _ _ _ rfl) rfl (qi_of H)
    · replace H := ite_n cc H
      refine g_aload_n (T_X5_earliestCart 7 _ _ _ rfl) rfl ?_
      refine g_getR (c := 57) (r := 63) (T_X5_earliestCart 8 _ _ _ rfl) fl_X5_29 rfl (nR rfl) rfl (by decide) ?_
      refine g_iload_n (T_X5_earliestCart 9 _ _ _ rfl) rfl ?_
      obtain ⟨hg, H⟩ := grd_some H
      refine g_iald (c := 62) (T_X5_earliestCart 10 _ _ _ rfl) rfl hg ?_
      refine g_aload_n (T_X5_earliestCart 11 _ _ _ rfl) rfl ?_
      refine g_getR (c := 57) (r := 63) (T_X5_earliestCart 12 _ _ _ rfl) fl_X5_29 rfl (nR rfl) rfl (by decide) ?_
      refine g_iload_n (T_X5_earliestCart 13 _ _ _ rfl) rfl ?_
      obtain ⟨hg, H⟩ := grd_some H
      refine g_iald (c := 62) (T_X5_earliestCart 14 _ _ _ rfl) rfl hg ?_
      refine g_icmp_ge (tgt := 26) (T_X5_earliestCart 15 _ _ _ rfl) (by decide) (fun cc => ?_) (fun cc => ?_)
      · replace H := ite_p cc H
        refine g_weak [true, true, true] ?_
        exact R_J_X5_earliestCart_26 N (L_X5_earliestCart_4 N n) ih _ _ _ _ H
      · replace H := ite_n cc H
        refine g_iload_n (T_X5_earliestCart 16 _ _ _ rfl) rfl ?_
        refine g_istore_n (T_X5_earliestCart 17 _ _ _ rfl) (by decide) ?_
        refine g_weak [true, true, true] ?_
        exact R_J_X5_earliestCart_26 N (L_X5_earliestCart_4 N n) ih _ _ _ _ H
def F_X5_earliestCart (N : Nat) (h : Hp) : Option (Int × Hp) :=
  L_X5_earliestCart_4 N  N 0 1 h
set_option maxRecDepth 100000 in
set_option maxHeartbeats 4000000 in
theorem R_X5_earliestCart (N : Nat) (h : Hp) (res : Int × Hp) (H : F_X5_earliestCart N h = some res) : Runs M_X5_earliestCart 1 [.inr 58] h (Qi res) := by
  refine Runs.of rfl (Nat.le_of_ble_eq_true rfl) ?_
  show Go M_X5_earliestCart 1 0 [some (.inr 58), none, none] [] h (Qi res)
  unfold F_X5_earliestCart at H
  refine g_iconst (T_X5_earliestCart 0 _ _ _ rfl) ⟨by decide, by decide⟩ ?_
  refine g_istore_n (T_X5_earliestCart 1 _ _ _ rfl) (by decide) ?_
  refine g_iconst (T_X5_earliestCart 2 _ _ _ rfl) ⟨by decide, by decide⟩ ?_
  refine g_istore_n (T_X5_earliestCart 3 _ _ _ rfl) (by decide) ?_
  refine g_weak [true, true, true] ?_
  refine R_L_X5_earliestCart_4 N   _ _ _ _ _ H
def L_X5_isIdle_2 (N : Nat) : Nat → Int → Hp → Option (Int × Hp)
  | 0, _, _ => none
  | n + 1, x1, h =>
    if 14 ≤ x1 then
      bd (F_X5_earliestCart N h) fun y2 h1 =>
      grd (0 ≤ y2 ∧ y2 < 5) <|
      if (h1 62 y2.toNat) < 600 then
        some (0, h1)
      else
      some (1, h1)
    else
    grd (0 ≤ x1 ∧ x1 < 14) <|
    if (h 58 x1.toNat) ≤ 0 then
      bnd (w32 (x1 + 1)) fun y3 =>
      (L_X5_isIdle_2 N n) y3 h
    else
    some (0, h)
set_option maxRecDepth 100000 in
set_option maxHeartbeats 4000000 in
theorem R_L_X5_isIdle_2 (N : Nat) : ∀ (n : Nat) (x1 : Int) (h : Hp) (res : Int × Hp), L_X5_isIdle_2 N n x1 h = some res → Go M_X5_isIdle 2 2 [some (.inr 58), some (.inl x1)] [] h (Qi res)
  | 0, _, _, _, H => by cases H
  | n + 1, x1, h, res, H => by
    have ih := R_L_X5_isIdle_2 N n
    simp only [L_X5_isIdle_2] at H
    refine g_iload_n (T_X5_isIdle 2 _ _ _ rfl) rfl ?_
    refine g_bipush (T_X5_isIdle 3 _ _ _ rfl) (by decide) ?_
    refine g_icmp_ge (tgt := 25) (T_X5_isIdle 4 _ _ _ rfl) (by decide) (fun cc => ?_) (fun cc => ?_)
    · replace H := ite_p cc H
      refine g_aload_n (T_X5_isIdle 14 _ _ _ rfl) rfl ?_
      refine g_getR (c := 57) (r := 63) (T_X5_isIdle 15 _ _ _ rfl) fl_X5_29 rfl (nR rfl) rfl (by decide) ?_
      refine g_aload_n (T_X5_isIdle 16 _ _ _ rfl) rfl ?_
      obtain ⟨y2, h1, hq, H⟩ := bd_some H
      refine g_callVi (M' := M_X5_earliestCart) (c := 57) (av := []) (st := [.inr 63]) (T_X5_isIdle 17 _ _ _ rfl) ml_X5_104 cb_X5_earliestCart rfl rfl (Nat.le_of_ble_eq_true rfl) (by omega) (R_X5_earliestCart N _ _ hq) ?_
      obtain ⟨hg, H⟩ := grd_some H
      refine g_iald (c := 62) (T_X5_isIdle 18 _ _ _ rfl) rfl hg ?_
      refine g_sipush (T_X5_isIdle 19 _ _ _ rfl) (by decide) ?_
      refine g_icmp_lt (tgt := 44) (T_X5_isIdle 20 _ _ _ rfl) (by decide) (fun cc => ?_) (fun cc => ?_)
      · replace H := ite_p cc H
        refine g_iconst (T_X5_isIdle 23 _ _ _ rfl) ⟨by decide, by decide⟩ ?_
        exact g_zret (T_X5_isIdle 24 _ _ _ rfl) rfl (by decide) (qi_of H)
      · replace H := ite_n cc H
        refine g_iconst (T_X5_isIdle 21 _ _ _ rfl) ⟨by decide, by decide⟩ ?_
        refine g_goto (tgt := 45) (T_X5_isIdle 22 _ _ _ rfl) (by decide) ?_
        exact g_zret (T_X5_isIdle 24 _ _ _ rfl) rfl (by decide) (qi_of H)
    · replace H := ite_n cc H
      refine g_aload_n (T_X5_isIdle 5 _ _ _ rfl) rfl ?_
      refine g_getR (c := 57) (r := 59) (T_X5_isIdle 6 _ _ _ rfl) fl_X5_11 rfl (nR rfl) rfl (by decide) ?_
      refine g_iload_n (T_X5_isIdle 7 _ _ _ rfl) rfl ?_
      obtain ⟨hg, H⟩ := grd_some H
      refine g_iald (c := 58) (T_X5_isIdle 8 _ _ _ rfl) rfl hg ?_
      refine g_if_le (tgt := 19) (T_X5_isIdle 9 _ _ _ rfl) (by decide) (fun cc => ?_) (fun cc => ?_)
      · replace H := ite_p cc H
        refine g_iincB (T_X5_isIdle 12 _ _ _ rfl) rfl (by decide) H fun y3 H => ?_
        refine g_goto (tgt := 2) (T_X5_isIdle 13 _ _ _ rfl) (by decide) ?_
        refine g_weak [true, true] ?_
        exact ih _ _ _ H
      · replace H := ite_n cc H
        refine g_iconst (T_X5_isIdle 10 _ _ _ rfl) ⟨by decide, by decide⟩ ?_
        exact g_zret (T_X5_isIdle 11 _ _ _ rfl) rfl (by decide) (qi_of H)
def F_X5_isIdle (N : Nat) (h : Hp) : Option (Int × Hp) :=
  L_X5_isIdle_2 N  N 0 h
set_option maxRecDepth 100000 in
set_option maxHeartbeats 4000000 in
theorem R_X5_isIdle (N : Nat) (h : Hp) (res : Int × Hp) (H : F_X5_isIdle N h = some res) : Runs M_X5_isIdle 2 [.inr 58] h (Qi res) := by
  refine Runs.of rfl (Nat.le_of_ble_eq_true rfl) ?_
  show Go M_X5_isIdle 2 0 [some (.inr 58), none] [] h (Qi res)
  unfold F_X5_isIdle at H
  refine g_iconst (T_X5_isIdle 0 _ _ _ rfl) ⟨by decide, by decide⟩ ?_
  refine g_istore_n (T_X5_isIdle 1 _ _ _ rfl) (by decide) ?_
  refine g_weak [true, true] ?_
  refine R_L_X5_isIdle_2 N   _ _ _ _ H
def F_X2_regardTime (N : Nat) (x1 : Int) (x2 : Int) (x3 : Int) (h : Hp) : Option (Hp) :=
  bnd (hw h 18 (5 : Int).toNat x1) fun h1 =>
  bnd (hw h1 18 (6 : Int).toNat x2) fun h2 =>
  bnd (hw h2 18 (7 : Int).toNat x3) fun h3 =>
  some h3
set_option maxRecDepth 100000 in
set_option maxHeartbeats 4000000 in
theorem R_X2_regardTime (N : Nat) (x1 : Int) (x2 : Int) (x3 : Int) (h : Hp) (res : Hp) (H : F_X2_regardTime N x1 x2 x3 h = some res) : Runs M_X2_regardTime 1 [.inr 12, .inl x1, .inl x2, .inl x3] h (Qv res) := by
  refine Runs.of rfl (Nat.le_of_ble_eq_true rfl) ?_
  show Go M_X2_regardTime 1 0 [some (.inr 12), some (.inl x1), some (.inl x2), some (.inl x3)] [] h (Qv res)
  unfold F_X2_regardTime at H
  refine g_aload_n (T_X2_regardTime 0 _ _ _ rfl) rfl ?_
  refine g_getR (c := 11) (r := 19) (T_X2_regardTime 1 _ _ _ rfl) fl_X2_30 rfl (nR rfl) rfl (by decide) ?_
  refine g_iconst (T_X2_regardTime 2 _ _ _ rfl) ⟨by decide, by decide⟩ ?_
  refine g_iload_n (T_X2_regardTime 3 _ _ _ rfl) rfl ?_
  refine g_iast (c := 18) (T_X2_regardTime 4 _ _ _ rfl) rfl (by decide) ?_
  refine g_bndH H fun h1 H => ?_
  refine g_aload_n (T_X2_regardTime 5 _ _ _ rfl) rfl ?_
  refine g_getR (c := 11) (r := 19) (T_X2_regardTime 6 _ _ _ rfl) fl_X2_30 rfl (nR rfl) rfl (by decide) ?_
  refine g_bipush (T_X2_regardTime 7 _ _ _ rfl) (by decide) ?_
  refine g_iload_n (T_X2_regardTime 8 _ _ _ rfl) rfl ?_
  refine g_iast (c := 18) (T_X2_regardTime 9 _ _ _ rfl) rfl (by decide) ?_
  refine g_bndH H fun h2 H => ?_
  refine g_aload_n (T_X2_regardTime 10 _ _ _ rfl) rfl ?_
  refine g_getR (c := 11) (r := 19) (T_X2_regardTime 11 _ _ _ rfl) fl_X2_30 rfl (nR rfl) rfl (by decide) ?_
  refine g_bipush (T_X2_regardTime 12 _ _ _ rfl) (by decide) ?_
  refine g_iload_n (T_X2_regardTime 13 _ _ _ rfl) rfl ?_
  refine g_iast (c := 18) (T_X2_regardTime 14 _ _ _ rfl) rfl (by decide) ?_
  refine g_bndH H fun h3 H => ?_
  exact g_vret (T_X2_regardTime 15 _ _ _ rfl) rfl (qv_of H)
def F_X1_lampsOf (N : Nat) (x1 : Int) (h : Hp) : Option (Int × Hp) :=
  if x1 < 0 then
    some (0, h)
  else
  if 14 ≤ x1 then
    some (0, h)
  else
  grd (0 ≤ x1 ∧ x1 < 14) <|
  some ((h 3 x1.toNat), h)
set_option maxRecDepth 100000 in
set_option maxHeartbeats 4000000 in
theorem R_X1_lampsOf (N : Nat) (x1 : Int) (h : Hp) (res : Int × Hp) (H : F_X1_lampsOf N x1 h = some res) : Runs M_X1_lampsOf 1 [.inr 2, .inl x1] h (Qi res) := by
  refine Runs.of rfl (Nat.le_of_ble_eq_true rfl) ?_
  show Go M_X1_lampsOf 1 0 [some (.inr 2), some (.inl x1)] [] h (Qi res)
  unfold F_X1_lampsOf at H
  refine g_iload_n (T_X1_lampsOf 0 _ _ _ rfl) rfl ?_
  refine g_if_lt (tgt := 19) (T_X1_lampsOf 1 _ _ _ rfl) (by decide) (fun cc => ?_) (fun cc => ?_)
  · replace H := ite_p cc H
    refine g_iconst (T_X1_lampsOf 10 _ _ _ rfl) ⟨by decide, by decide⟩ ?_
    exact g_iret (T_X1_lampsOf 11 _ _ _ rfl) rfl (qi_of H)
  · replace H := ite_n cc H
    refine g_iload_n (T_X1_lampsOf 2 _ _ _ rfl) rfl ?_
    refine g_bipush (T_X1_lampsOf 3 _ _ _ rfl) (by decide) ?_
    refine g_icmp_ge (tgt := 19) (T_X1_lampsOf 4 _ _ _ rfl) (by decide) (fun cc => ?_) (fun cc => ?_)
    · replace H := ite_p cc H
      refine g_iconst (T_X1_lampsOf 10 _ _ _ rfl) ⟨by decide, by decide⟩ ?_
      exact g_iret (T_X1_lampsOf 11 _ _ _ rfl) rfl (qi_of H)
    · replace H := ite_n cc H
      refine g_aload_n (T_X1_lampsOf 5 _ _ _ rfl) rfl ?_
      refine g_getR (c := 1) (r := 4) (T_X1_lampsOf 6 _ _ _ rfl) fl_X1_15 rfl (nR rfl) rfl (by decide) ?_
      refine g_iload_n (T_X1_lampsOf 7 _ _ _ rfl) rfl ?_
      obtain ⟨hg, H⟩ := grd_some H
      refine g_iald (c := 3) (T_X1_lampsOf 8 _ _ _ rfl) rfl hg ?_
      refine g_goto (tgt := 20) (T_X1_lampsOf 9 _ _ _ rfl) (by decide) ?_
      exact g_iret (T_X1_lampsOf 11 _ _ _ rfl) rfl (qi_of H)
def F_X5_depthOf (N : Nat) (x1 : Int) (h : Hp) : Option (Int × Hp) :=
  if x1 < 0 then
    some (0, h)
  else
  if 14 ≤ x1 then
    some (0, h)
  else
  grd (0 ≤ x1 ∧ x1 < 14) <|
  some ((h 58 x1.toNat), h)
set_option maxRecDepth 100000 in
set_option maxHeartbeats 4000000 in
theorem R_X5_depthOf (N : Nat) (x1 : Int) (h : Hp) (res : Int × Hp) (H : F_X5_depthOf N x1 h = some res) : Runs M_X5_depthOf 1 [.inr 58, .inl x1] h (Qi res) := by
  refine Runs.of rfl (Nat.le_of_ble_eq_true rfl) ?_
  show Go M_X5_depthOf 1 0 [some (.inr 58), some (.inl x1)] [] h (Qi res)
  unfold F_X5_depthOf at H
  refine g_iload_n (T_X5_depthOf 0 _ _ _ rfl) rfl ?_
  refine g_if_lt (tgt := 19) (T_X5_depthOf 1 _ _ _ rfl) (by decide) (fun cc => ?_) (fun cc => ?_)
  · replace H := ite_p cc H
    refine g_iconst (T_X5_depthOf 10 _ _ _ rfl) ⟨by decide, by decide⟩ ?_
    exact g_iret (T_X5_depthOf 11 _ _ _ rfl) rfl (qi_of H)
  · replace H := ite_n cc H
    refine g_iload_n (T_X5_depthOf 2 _ _ _ rfl) rfl ?_
    refine g_bipush (T_X5_depthOf 3 _ _ _ rfl) (by decide) ?_
    refine g_icmp_ge (tgt := 19) (T_X5_depthOf 4 _ _ _ rfl) (by decide) (fun cc => ?_) (fun cc => ?_)
    · replace H := ite_p cc H
      refine g_iconst (T_X5_depthOf 10 _ _ _ rfl) ⟨by decide, by decide⟩ ?_
      exact g_iret (T_X5_depthOf 11 _ _ _ rfl) rfl (qi_of H)
    · replace H := ite_n cc H
      refine g_aload_n (T_X5_depthOf 5 _ _ _ rfl) rfl ?_
      refine g_getR (c := 57) (r := 59) (T_X5_depthOf 6 _ _ _ rfl) fl_X5_11 rfl (nR rfl) rfl (by decide) ?_
      refine g_iload_n (T_X5_depthOf 7 _ _ _ rfl) rfl ?_
      obtain ⟨hg, H⟩ := grd_some H
      refine g_iald (c := 58) (T_X5_depthOf 8 _ _ _ rfl) rfl hg ?_
      refine g_goto (tgt := 20) (T_X5_depthOf 9 _ _ _ rfl) (by decide) ?_
      exact g_iret (T_X5_depthOf 11 _ _ _ rfl) rfl (qi_of H)
def F_X1_housesOf (N : Nat) (x1 : Int) (h : Hp) : Option (Int × Hp) :=
  if x1 < 0 then
    some (0, h)
  else
  if 14 ≤ x1 then
    some (0, h)
  else
  grd (0 ≤ x1 ∧ x1 < 14) <|
  some ((h 2 x1.toNat), h)
set_option maxRecDepth 100000 in
set_option maxHeartbeats 4000000 in
theorem R_X1_housesOf (N : Nat) (x1 : Int) (h : Hp) (res : Int × Hp) (H : F_X1_housesOf N x1 h = some res) : Runs M_X1_housesOf 1 [.inr 2, .inl x1] h (Qi res) := by
  refine Runs.of rfl (Nat.le_of_ble_eq_true rfl) ?_
  show Go M_X1_housesOf 1 0 [some (.inr 2), some (.inl x1)] [] h (Qi res)
  unfold F_X1_housesOf at H
  refine g_iload_n (T_X1_housesOf 0 _ _ _ rfl) rfl ?_
  refine g_if_lt (tgt := 19) (T_X1_housesOf 1 _ _ _ rfl) (by decide) (fun cc => ?_) (fun cc => ?_)
  · replace H := ite_p cc H
    refine g_iconst (T_X1_housesOf 10 _ _ _ rfl) ⟨by decide, by decide⟩ ?_
    exact g_iret (T_X1_housesOf 11 _ _ _ rfl) rfl (qi_of H)
  · replace H := ite_n cc H
    refine g_iload_n (T_X1_housesOf 2 _ _ _ rfl) rfl ?_
    refine g_bipush (T_X1_housesOf 3 _ _ _ rfl) (by decide) ?_
    refine g_icmp_ge (tgt := 19) (T_X1_housesOf 4 _ _ _ rfl) (by decide) (fun cc => ?_) (fun cc => ?_)
    · replace H := ite_p cc H
      refine g_iconst (T_X1_housesOf 10 _ _ _ rfl) ⟨by decide, by decide⟩ ?_
      exact g_iret (T_X1_housesOf 11 _ _ _ rfl) rfl (qi_of H)
    · replace H := ite_n cc H
      refine g_aload_n (T_X1_housesOf 5 _ _ _ rfl) rfl ?_
      refine g_getR (c := 1) (r := 3) (T_X1_housesOf 6 _ _ _ rfl) fl_X1_9 rfl (nR rfl) rfl (by decide) ?_
      refine g_iload_n (T_X1_housesOf 7 _ _ _ rfl) rfl ?_
      obtain ⟨hg, H⟩ := grd_some H
      refine g_iald (c := 2) (T_X1_housesOf 8 _ _ _ rfl) rfl hg ?_
      refine g_goto (tgt := 20) (T_X1_housesOf 9 _ _ _ rfl) (by decide) ?_
      exact g_iret (T_X1_housesOf 11 _ _ _ rfl) rfl (qi_of H)
def F_X1_starsOf (N : Nat) (x1 : Int) (h : Hp) : Option (Int × Hp) :=
  if x1 < 0 then
    some (0, h)
  else
  if 14 ≤ x1 then
    some (0, h)
  else
  grd (0 ≤ x1 ∧ x1 < 14) <|
  some ((h 4 x1.toNat), h)
set_option maxRecDepth 100000 in
set_option maxHeartbeats 4000000 in
theorem R_X1_starsOf (N : Nat) (x1 : Int) (h : Hp) (res : Int × Hp) (H : F_X1_starsOf N x1 h = some res) : Runs M_X1_starsOf 1 [.inr 2, .inl x1] h (Qi res) := by
  refine Runs.of rfl (Nat.le_of_ble_eq_true rfl) ?_
  show Go M_X1_starsOf 1 0 [some (.inr 2), some (.inl x1)] [] h (Qi res)
  unfold F_X1_starsOf at H
  refine g_iload_n (T_X1_starsOf 0 _ _ _ rfl) rfl ?_
  refine g_if_lt (tgt := 19) (T_X1_starsOf 1 _ _ _ rfl) (by decide) (fun cc => ?_) (fun cc => ?_)
  · replace H := ite_p cc H
    refine g_iconst (T_X1_starsOf 10 _ _ _ rfl) ⟨by decide, by decide⟩ ?_
    exact g_iret (T_X1_starsOf 11 _ _ _ rfl) rfl (qi_of H)
  · replace H := ite_n cc H
    refine g_iload_n (T_X1_starsOf 2 _ _ _ rfl) rfl ?_
    refine g_bipush (T_X1_starsOf 3 _ _ _ rfl) (by decide) ?_
    refine g_icmp_ge (tgt := 19) (T_X1_starsOf 4 _ _ _ rfl) (by decide) (fun cc => ?_) (fun cc => ?_)
    · replace H := ite_p cc H
      refine g_iconst (T_X1_starsOf 10 _ _ _ rfl) ⟨by decide, by decide⟩ ?_
      exact g_iret (T_X1_starsOf 11 _ _ _ rfl) rfl (qi_of H)
    · replace H := ite_n cc H
      refine g_aload_n (T_X1_starsOf 5 _ _ _ rfl) rfl ?_
      refine g_getR (c := 1) (r := 5) (T_X1_starsOf 6 _ _ _ rfl) fl_X1_18 rfl (nR rfl) rfl (by decide) ?_
      refine g_iload_n (T_X1_starsOf 7 _ _ _ rfl) rfl ?_
      obtain ⟨hg, H⟩ := grd_some H
      refine g_iald (c := 4) (T_X1_starsOf 8 _ _ _ rfl) rfl hg ?_
      refine g_goto (tgt := 20) (T_X1_starsOf 9 _ _ _ rfl) (by decide) ?_
      exact g_iret (T_X1_starsOf 11 _ _ _ rfl) rfl (qi_of H)
def F_X2_regardStreet (N : Nat) (x2 : Int) (x3 : Int) (x4 : Int) (h : Hp) : Option (Hp) :=
  bnd (hw h 18 (0 : Int).toNat x2) fun h1 =>
  bd (F_X1_housesOf N x2 h1) fun y3 h2 =>
  bnd (hw h2 18 (1 : Int).toNat y3) fun h4 =>
  bnd (hw h4 18 (2 : Int).toNat x3) fun h5 =>
  bnd (hw h5 18 (3 : Int).toNat x4) fun h6 =>
  bd (F_X1_starsOf N x2 h6) fun y8 h7 =>
  bnd (hw h7 18 (4 : Int).toNat y8) fun h9 =>
  some h9
set_option maxRecDepth 100000 in
set_option maxHeartbeats 4000000 in
theorem R_X2_regardStreet (N : Nat) (x2 : Int) (x3 : Int) (x4 : Int) (h : Hp) (res : Hp) (H : F_X2_regardStreet N x2 x3 x4 h = some res) : Runs M_X2_regardStreet 2 [.inr 12, .inr 2, .inl x2, .inl x3, .inl x4] h (Qv res) := by
  refine Runs.of rfl (Nat.le_of_ble_eq_true rfl) ?_
  show Go M_X2_regardStreet 2 0 [some (.inr 12), some (.inr 2), some (.inl x2), some (.inl x3), some (.inl x4)] [] h (Qv res)
  unfold F_X2_regardStreet at H
  refine g_aload_n (T_X2_regardStreet 0 _ _ _ rfl) rfl ?_
  refine g_getR (c := 11) (r := 19) (T_X2_regardStreet 1 _ _ _ rfl) fl_X2_30 rfl (nR rfl) rfl (by decide) ?_
  refine g_iconst (T_X2_regardStreet 2 _ _ _ rfl) ⟨by decide, by decide⟩ ?_
  refine g_iload_n (T_X2_regardStreet 3 _ _ _ rfl) rfl ?_
  refine g_iast (c := 18) (T_X2_regardStreet 4 _ _ _ rfl) rfl (by decide) ?_
  refine g_bndH H fun h1 H => ?_
  refine g_aload_n (T_X2_regardStreet 5 _ _ _ rfl) rfl ?_
  refine g_getR (c := 11) (r := 19) (T_X2_regardStreet 6 _ _ _ rfl) fl_X2_30 rfl (nR rfl) rfl (by decide) ?_
  refine g_iconst (T_X2_regardStreet 7 _ _ _ rfl) ⟨by decide, by decide⟩ ?_
  refine g_aload_n (T_X2_regardStreet 8 _ _ _ rfl) rfl ?_
  refine g_iload_n (T_X2_regardStreet 9 _ _ _ rfl) rfl ?_
  obtain ⟨y3, h2, hq, H⟩ := bd_some H
  refine g_callVi (M' := M_X1_housesOf) (c := 1) (av := [.inl x2]) (st := [.inl 1, .inr 19]) (T_X2_regardStreet 10 _ _ _ rfl) ml_X2_53 cb_X1_housesOf rfl rfl (Nat.le_of_ble_eq_true rfl) (by omega) (R_X1_housesOf N _ _ _ hq) ?_
  refine g_iast (c := 18) (T_X2_regardStreet 11 _ _ _ rfl) rfl (by decide) ?_
  refine g_bndH H fun h4 H => ?_
  refine g_aload_n (T_X2_regardStreet 12 _ _ _ rfl) rfl ?_
  refine g_getR (c := 11) (r := 19) (T_X2_regardStreet 13 _ _ _ rfl) fl_X2_30 rfl (nR rfl) rfl (by decide) ?_
  refine g_iconst (T_X2_regardStreet 14 _ _ _ rfl) ⟨by decide, by decide⟩ ?_
  refine g_iload_n (T_X2_regardStreet 15 _ _ _ rfl) rfl ?_
  refine g_iast (c := 18) (T_X2_regardStreet 16 _ _ _ rfl) rfl (by decide) ?_
  refine g_bndH H fun h5 H => ?_
  refine g_aload_n (T_X2_regardStreet 17 _ _ _ rfl) rfl ?_
  refine g_getR (c := 11) (r := 19) (T_X2_regardStreet 18 _ _ _ rfl) fl_X2_30 rfl (nR rfl) rfl (by decide) ?_
  refine g_iconst (T_X2_regardStreet 19 _ _ _ rfl) ⟨by decide, by decide⟩ ?_
  refine g_iload (T_X2_regardStreet 20 _ _ _ rfl) rfl ?_
  refine g_iast (c := 18) (T_X2_regardStreet 21 _ _ _ rfl) rfl (by decide) ?_
  refine g_bndH H fun h6 H => ?_
  refine g_aload_n (T_X2_regardStreet 22 _ _ _ rfl) rfl ?_
  refine g_getR (c := 11) (r := 19) (T_X2_regardStreet 23 _ _ _ rfl) fl_X2_30 rfl (nR rfl) rfl (by decide) ?_
  refine g_iconst (T_X2_regardStreet 24 _ _ _ rfl) ⟨by decide, by decide⟩ ?_
  refine g_aload_n (T_X2_regardStreet 25 _ _ _ rfl) rfl ?_
  refine g_iload_n (T_X2_regardStreet 26 _ _ _ rfl) rfl ?_
  obtain ⟨y8, h7, hq, H⟩ := bd_some H
  refine g_callVi (M' := M_X1_starsOf) (c := 1) (av := [.inl x2]) (st := [.inl 4, .inr 19]) (T_X2_regardStreet 27 _ _ _ rfl) ml_X2_59 cb_X1_starsOf rfl rfl (Nat.le_of_ble_eq_true rfl) (by omega) (R_X1_starsOf N _ _ _ hq) ?_
  refine g_iast (c := 18) (T_X2_regardStreet 28 _ _ _ rfl) rfl (by decide) ?_
  refine g_bndH H fun h9 H => ?_
  exact g_vret (T_X2_regardStreet 29 _ _ _ rfl) rfl (qv_of H)
def F_X2_pop (N : Nat) (h : Hp) : Option (Int × Hp) :=
  if (h 11 10) < 1 then
    some (0, h)
  else
  if (h 11 10) ≤ 64 then
    bnd (hw h 11 10 (w32 ((h 11 10) - 1))) fun h1 =>
    grd (0 ≤ (h1 11 10) ∧ (h1 11 10) < 64) <|
    some ((h1 19 (h1 11 10).toNat), h1)
  else
  some (0, h)
set_option maxRecDepth 100000 in
set_option maxHeartbeats 4000000 in
theorem R_X2_pop (N : Nat) (h : Hp) (res : Int × Hp) (H : F_X2_pop N h = some res) : Runs M_X2_pop 1 [.inr 12] h (Qi res) := by
  refine Runs.of rfl (Nat.le_of_ble_eq_true rfl) ?_
  show Go M_X2_pop 1 0 [some (.inr 12)] [] h (Qi res)
  unfold F_X2_pop at H
  refine g_aload_n (T_X2_pop 0 _ _ _ rfl) rfl ?_
  refine g_getI (c := 11) (T_X2_pop 1 _ _ _ rfl) fl_X2_74 rfl (Or.inl rfl) ?_
  refine g_iconst (T_X2_pop 2 _ _ _ rfl) ⟨by decide, by decide⟩ ?_
  refine g_icmp_lt (tgt := 17) (T_X2_pop 3 _ _ _ rfl) (by decide) (fun cc => ?_) (fun cc => ?_)
  · replace H := ite_p cc H
    refine g_iconst (T_X2_pop 8 _ _ _ rfl) ⟨by decide, by decide⟩ ?_
    exact g_iret (T_X2_pop 9 _ _ _ rfl) rfl (qi_of H)
  · replace H := ite_n cc H
    refine g_aload_n (T_X2_pop 4 _ _ _ rfl) rfl ?_
    refine g_getI (c := 11) (T_X2_pop 5 _ _ _ rfl) fl_X2_74 rfl (Or.inl rfl) ?_
    refine g_bipush (T_X2_pop 6 _ _ _ rfl) (by decide) ?_
    refine g_icmp_le (tgt := 19) (T_X2_pop 7 _ _ _ rfl) (by decide) (fun cc => ?_) (fun cc => ?_)
    · replace H := ite_p cc H
      refine g_aload_n (T_X2_pop 10 _ _ _ rfl) rfl ?_
      refine g_dup (T_X2_pop 11 _ _ _ rfl) ?_
      refine g_getI (c := 11) (T_X2_pop 12 _ _ _ rfl) fl_X2_74 rfl (Or.inl rfl) ?_
      refine g_iconst (T_X2_pop 13 _ _ _ rfl) ⟨by decide, by decide⟩ ?_
      refine g_isub (T_X2_pop 14 _ _ _ rfl) ?_
      refine g_put (c := 11) (T_X2_pop 15 _ _ _ rfl) fl_X2_74 rfl (Or.inl rfl) ?_
      refine g_bndH H fun h1 H => ?_
      refine g_aload_n (T_X2_pop 16 _ _ _ rfl) rfl ?_
      refine g_getR (c := 11) (r := 20) (T_X2_pop 17 _ _ _ rfl) fl_X2_33 rfl (nR rfl) rfl (by decide) ?_
      refine g_aload_n (T_X2_pop 18 _ _ _ rfl) rfl ?_
      refine g_getI (c := 11) (T_X2_pop 19 _ _ _ rfl) fl_X2_74 rfl (Or.inl rfl) ?_
      obtain ⟨hg, H⟩ := grd_some H
      refine g_iald (c := 19) (T_X2_pop 20 _ _ _ rfl) rfl hg ?_
      exact g_iret (T_X2_pop 21 _ _ _ rfl) rfl (qi_of H)
    · replace H := ite_n cc H
      refine g_iconst (T_X2_pop 8 _ _ _ rfl) ⟨by decide, by decide⟩ ?_
      exact g_iret (T_X2_pop 9 _ _ _ rfl) rfl (qi_of H)
def F_X2_push (N : Nat) (x1 : Int) (h : Hp) : Option (Hp) :=
  if (h 11 10) < 0 then
    some h
  else
  if 64 ≤ (h 11 10) then
    some h
  else
  grd (0 ≤ (h 11 10) ∧ (h 11 10) < 64) <|
  bnd (hw h 19 (h 11 10).toNat x1) fun h1 =>
  bnd (hw h1 11 10 (w32 ((h1 11 10) + 1))) fun h2 =>
  some h2
set_option maxRecDepth 100000 in
set_option maxHeartbeats 4000000 in
theorem R_X2_push (N : Nat) (x1 : Int) (h : Hp) (res : Hp) (H : F_X2_push N x1 h = some res) : Runs M_X2_push 1 [.inr 12, .inl x1] h (Qv res) := by
  refine Runs.of rfl (Nat.le_of_ble_eq_true rfl) ?_
  show Go M_X2_push 1 0 [some (.inr 12), some (.inl x1)] [] h (Qv res)
  unfold F_X2_push at H
  refine g_aload_n (T_X2_push 0 _ _ _ rfl) rfl ?_
  refine g_getI (c := 11) (T_X2_push 1 _ _ _ rfl) fl_X2_74 rfl (Or.inl rfl) ?_
  refine g_if_lt (tgt := 36) (T_X2_push 2 _ _ _ rfl) (by decide) (fun cc => ?_) (fun cc => ?_)
  · replace H := ite_p cc H
    exact g_vret (T_X2_push 19 _ _ _ rfl) rfl (qv_of H)
  · replace H := ite_n cc H
    refine g_aload_n (T_X2_push 3 _ _ _ rfl) rfl ?_
    refine g_getI (c := 11) (T_X2_push 4 _ _ _ rfl) fl_X2_74 rfl (Or.inl rfl) ?_
    refine g_bipush (T_X2_push 5 _ _ _ rfl) (by decide) ?_
    refine g_icmp_ge (tgt := 36) (T_X2_push 6 _ _ _ rfl) (by decide) (fun cc => ?_) (fun cc => ?_)
    · replace H := ite_p cc H
      exact g_vret (T_X2_push 19 _ _ _ rfl) rfl (qv_of H)
    · replace H := ite_n cc H
      refine g_aload_n (T_X2_push 7 _ _ _ rfl) rfl ?_
      refine g_getR (c := 11) (r := 20) (T_X2_push 8 _ _ _ rfl) fl_X2_33 rfl (nR rfl) rfl (by decide) ?_
      refine g_aload_n (T_X2_push 9 _ _ _ rfl) rfl ?_
      refine g_getI (c := 11) (T_X2_push 10 _ _ _ rfl) fl_X2_74 rfl (Or.inl rfl) ?_
      refine g_iload_n (T_X2_push 11 _ _ _ rfl) rfl ?_
      obtain ⟨hg, H⟩ := grd_some H
      refine g_iast (c := 19) (T_X2_push 12 _ _ _ rfl) rfl hg ?_
      refine g_bndH H fun h1 H => ?_
      refine g_aload_n (T_X2_push 13 _ _ _ rfl) rfl ?_
      refine g_dup (T_X2_push 14 _ _ _ rfl) ?_
      refine g_getI (c := 11) (T_X2_push 15 _ _ _ rfl) fl_X2_74 rfl (Or.inl rfl) ?_
      refine g_iconst (T_X2_push 16 _ _ _ rfl) ⟨by decide, by decide⟩ ?_
      refine g_iadd (T_X2_push 17 _ _ _ rfl) ?_
      refine g_put (c := 11) (T_X2_push 18 _ _ _ rfl) fl_X2_74 rfl (Or.inl rfl) ?_
      refine g_bndH H fun h2 H => ?_
      exact g_vret (T_X2_push 19 _ _ _ rfl) rfl (qv_of H)
def F_X2_join (N : Nat) (x1 : Int) (x2 : Int) (x3 : Int) (h : Hp) : Option (Int × Hp) :=
  if x2 = 42 then
    some ((w32 (x1 * x3)), h)
  else if x2 = 43 then
    some ((w32 (x1 + x3)), h)
  else if x2 = 45 then
    some ((w32 (x1 - x3)), h)
  else if x2 = 60 then
    if x3 ≤ x1 then
      some (0, h)
    else
    some (1, h)
  else if x2 = 61 then
    if x1 = x3 then
      some (1, h)
    else
    some (0, h)
  else if x2 = 62 then
    if x1 ≤ x3 then
      some (0, h)
    else
    some (1, h)
  else 
  if x3 = 0 then
    bnd (hw h 11 11 1) fun h1 =>
    some (0, h1)
  else
  if x2 = 47 then
    grd (x3 ≠ 0) <|
    some ((idiv x1 x3), h)
  else
  grd (x3 ≠ 0) <|
  some ((irem x1 x3), h)
set_option maxRecDepth 100000 in
set_option maxHeartbeats 4000000 in
theorem R_X2_join (N : Nat) (x1 : Int) (x2 : Int) (x3 : Int) (h : Hp) (res : Int × Hp) (H : F_X2_join N x1 x2 x3 h = some res) : Runs M_X2_join 1 [.inr 12, .inl x1, .inl x2, .inl x3] h (Qi res) := by
  refine Runs.of rfl (Nat.le_of_ble_eq_true rfl) ?_
  show Go M_X2_join 1 0 [some (.inr 12), some (.inl x1), some (.inl x2), some (.inl x3)] [] h (Qi res)
  unfold F_X2_join at H
  refine g_iload_n (T_X2_join 0 _ _ _ rfl) rfl ?_
  by_cases cc0 : x2 = 42
  · replace H := ite_p cc0 H
    refine g_lsw (tgt := 68) (T_X2_join 1 _ _ _ rfl) (by decide) (by first | (rw [cc0]; done) | (rw [cc0]; rfl)) (by decide) ?_
    refine g_iload_n (T_X2_join 10 _ _ _ rfl) rfl ?_
    refine g_iload_n (T_X2_join 11 _ _ _ rfl) rfl ?_
    refine g_imul (T_X2_join 12 _ _ _ rfl) ?_
    exact g_iret (T_X2_join 13 _ _ _ rfl) rfl (qi_of H)
  replace H := ite_n cc0 H
  by_cases cc1 : x2 = 43
  · replace H := ite_p cc1 H
    refine g_lsw (tgt := 60) (T_X2_join 1 _ _ _ rfl) (by decide) (by first | (rw [cc1]; done) | (rw [cc1]; rfl)) (by decide) ?_
    refine g_iload_n (T_X2_join 2 _ _ _ rfl) rfl ?_
    refine g_iload_n (T_X2_join 3 _ _ _ rfl) rfl ?_
    refine g_iadd (T_X2_join 4 _ _ _ rfl) ?_
    exact g_iret (T_X2_join 5 _ _ _ rfl) rfl (qi_of H)
  replace H := ite_n cc1 H
  by_cases cc2 : x2 = 45
  · replace H := ite_p cc2 H
    refine g_lsw (tgt := 64) (T_X2_join 1 _ _ _ rfl) (by decide) (by first | (rw [cc2]; done) | (rw [cc2]; rfl)) (by decide) ?_
    refine g_iload_n (T_X2_join 6 _ _ _ rfl) rfl ?_
    refine g_iload_n (T_X2_join 7 _ _ _ rfl) rfl ?_
    refine g_isub (T_X2_join 8 _ _ _ rfl) ?_
    exact g_iret (T_X2_join 9 _ _ _ rfl) rfl (qi_of H)
  replace H := ite_n cc2 H
  by_cases cc3 : x2 = 60
  · replace H := ite_p cc3 H
    refine g_lsw (tgt := 72) (T_X2_join 1 _ _ _ rfl) (by decide) (by first | (rw [cc3]; done) | (rw [cc3]; rfl)) (by decide) ?_
    refine g_iload_n (T_X2_join 14 _ _ _ rfl) rfl ?_
    refine g_iload_n (T_X2_join 15 _ _ _ rfl) rfl ?_
    refine g_icmp_ge (tgt := 81) (T_X2_join 16 _ _ _ rfl) (by decide) (fun cc => ?_) (fun cc => ?_)
    · replace H := ite_p cc H
      refine g_iconst (T_X2_join 19 _ _ _ rfl) ⟨by decide, by decide⟩ ?_
      exact g_iret (T_X2_join 20 _ _ _ rfl) rfl (qi_of H)
    · replace H := ite_n cc H
      refine g_iconst (T_X2_join 17 _ _ _ rfl) ⟨by decide, by decide⟩ ?_
      refine g_goto (tgt := 82) (T_X2_join 18 _ _ _ rfl) (by decide) ?_
      exact g_iret (T_X2_join 20 _ _ _ rfl) rfl (qi_of H)
  replace H := ite_n cc3 H
  by_cases cc4 : x2 = 61
  · replace H := ite_p cc4 H
    refine g_lsw (tgt := 94) (T_X2_join 1 _ _ _ rfl) (by decide) (by first | (rw [cc4]; done) | (rw [cc4]; rfl)) (by decide) ?_
    refine g_iload_n (T_X2_join 28 _ _ _ rfl) rfl ?_
    refine g_iload_n (T_X2_join 29 _ _ _ rfl) rfl ?_
    refine g_icmp_ne (tgt := 103) (T_X2_join 30 _ _ _ rfl) (by decide) (fun cc => ?_) (fun cc => ?_)
    · replace H := ite_n cc H
      refine g_iconst (T_X2_join 33 _ _ _ rfl) ⟨by decide, by decide⟩ ?_
      exact g_iret (T_X2_join 34 _ _ _ rfl) rfl (qi_of H)
    · replace H := ite_p cc H
      refine g_iconst (T_X2_join 31 _ _ _ rfl) ⟨by decide, by decide⟩ ?_
      refine g_goto (tgt := 104) (T_X2_join 32 _ _ _ rfl) (by decide) ?_
      exact g_iret (T_X2_join 34 _ _ _ rfl) rfl (qi_of H)
  replace H := ite_n cc4 H
  by_cases cc5 : x2 = 62
  · replace H := ite_p cc5 H
    refine g_lsw (tgt := 83) (T_X2_join 1 _ _ _ rfl) (by decide) (by first | (rw [cc5]; done) | (rw [cc5]; rfl)) (by decide) ?_
    refine g_iload_n (T_X2_join 21 _ _ _ rfl) rfl ?_
    refine g_iload_n (T_X2_join 22 _ _ _ rfl) rfl ?_
    refine g_icmp_le (tgt := 92) (T_X2_join 23 _ _ _ rfl) (by decide) (fun cc => ?_) (fun cc => ?_)
    · replace H := ite_p cc H
      refine g_iconst (T_X2_join 26 _ _ _ rfl) ⟨by decide, by decide⟩ ?_
      exact g_iret (T_X2_join 27 _ _ _ rfl) rfl (qi_of H)
    · replace H := ite_n cc H
      refine g_iconst (T_X2_join 24 _ _ _ rfl) ⟨by decide, by decide⟩ ?_
      refine g_goto (tgt := 93) (T_X2_join 25 _ _ _ rfl) (by decide) ?_
      exact g_iret (T_X2_join 27 _ _ _ rfl) rfl (qi_of H)
  replace H := ite_n cc5 H
  refine g_lsw (tgt := 105) (T_X2_join 1 _ _ _ rfl) (by decide) (by simp [Op.lookupswitch.offset_cons, Op.lookupswitch.offset_nil, eq_comm, cc0, cc1, cc2, cc3, cc4, cc5]; rfl) (by decide) ?_
  refine g_iload_n (T_X2_join 35 _ _ _ rfl) rfl ?_
  refine g_if_ne (tgt := 116) (T_X2_join 36 _ _ _ rfl) (by decide) (fun cc => ?_) (fun cc => ?_)
  · replace H := ite_n cc H
    refine g_iload_n (T_X2_join 42 _ _ _ rfl) rfl ?_
    refine g_bipush (T_X2_join 43 _ _ _ rfl) (by decide) ?_
    refine g_icmp_ne (tgt := 128) (T_X2_join 44 _ _ _ rfl) (by decide) (fun cc => ?_) (fun cc => ?_)
    · replace H := ite_n cc H
      refine g_iload_n (T_X2_join 49 _ _ _ rfl) rfl ?_
      refine g_iload_n (T_X2_join 50 _ _ _ rfl) rfl ?_
      obtain ⟨hg, H⟩ := grd_some H
      refine g_irem (T_X2_join 51 _ _ _ rfl) hg ?_
      exact g_iret (T_X2_join 52 _ _ _ rfl) rfl (qi_of H)
    · replace H := ite_p cc H
      refine g_iload_n (T_X2_join 45 _ _ _ rfl) rfl ?_
      refine g_iload_n (T_X2_join 46 _ _ _ rfl) rfl ?_
      obtain ⟨hg, H⟩ := grd_some H
      refine g_idiv (T_X2_join 47 _ _ _ rfl) hg ?_
      refine g_goto (tgt := 131) (T_X2_join 48 _ _ _ rfl) (by decide) ?_
      exact g_iret (T_X2_join 52 _ _ _ rfl) rfl (qi_of H)
  · replace H := ite_p cc H
    refine g_aload_n (T_X2_join 37 _ _ _ rfl) rfl ?_
    refine g_iconst (T_X2_join 38 _ _ _ rfl) ⟨by decide, by decide⟩ ?_
    refine g_put (c := 11) (T_X2_join 39 _ _ _ rfl) fl_X2_77 rfl (Or.inr ⟨rfl, by decide⟩) ?_
    refine g_bndH H fun h1 H => ?_
    refine g_iconst (T_X2_join 40 _ _ _ rfl) ⟨by decide, by decide⟩ ?_
    exact g_iret (T_X2_join 41 _ _ _ rfl) rfl (qi_of H)
def F_X2_factAt (N : Nat) (x1 : Int) (h : Hp) : Option (Int × Hp) :=
  if x1 < 0 then
    some (0, h)
  else
  if 8 ≤ x1 then
    some (0, h)
  else
  grd (0 ≤ x1 ∧ x1 < 8) <|
  some ((h 18 x1.toNat), h)
set_option maxRecDepth 100000 in
set_option maxHeartbeats 4000000 in
theorem R_X2_factAt (N : Nat) (x1 : Int) (h : Hp) (res : Int × Hp) (H : F_X2_factAt N x1 h = some res) : Runs M_X2_factAt 1 [.inr 12, .inl x1] h (Qi res) := by
  refine Runs.of rfl (Nat.le_of_ble_eq_true rfl) ?_
  show Go M_X2_factAt 1 0 [some (.inr 12), some (.inl x1)] [] h (Qi res)
  unfold F_X2_factAt at H
  refine g_iload_n (T_X2_factAt 0 _ _ _ rfl) rfl ?_
  refine g_if_lt (tgt := 22) (T_X2_factAt 1 _ _ _ rfl) (by decide) (fun cc => ?_) (fun cc => ?_)
  · replace H := ite_p cc H
    refine g_iconst (T_X2_factAt 12 _ _ _ rfl) ⟨by decide, by decide⟩ ?_
    exact g_iret (T_X2_factAt 13 _ _ _ rfl) rfl (qi_of H)
  · replace H := ite_n cc H
    refine g_iload_n (T_X2_factAt 2 _ _ _ rfl) rfl ?_
    refine g_aload_n (T_X2_factAt 3 _ _ _ rfl) rfl ?_
    refine g_getR (c := 11) (r := 19) (T_X2_factAt 4 _ _ _ rfl) fl_X2_30 rfl (nR rfl) rfl (by decide) ?_
    refine g_alen (c := 18) (n := 8) (T_X2_factAt 5 _ _ _ rfl) rfl (by decide) (by decide) ?_
    refine g_icmp_ge (tgt := 22) (T_X2_factAt 6 _ _ _ rfl) (by decide) (fun cc => ?_) (fun cc => ?_)
    · replace H := ite_p cc H
      refine g_iconst (T_X2_factAt 12 _ _ _ rfl) ⟨by decide, by decide⟩ ?_
      exact g_iret (T_X2_factAt 13 _ _ _ rfl) rfl (qi_of H)
    · replace H := ite_n cc H
      refine g_aload_n (T_X2_factAt 7 _ _ _ rfl) rfl ?_
      refine g_getR (c := 11) (r := 19) (T_X2_factAt 8 _ _ _ rfl) fl_X2_30 rfl (nR rfl) rfl (by decide) ?_
      refine g_iload_n (T_X2_factAt 9 _ _ _ rfl) rfl ?_
      obtain ⟨hg, H⟩ := grd_some H
      refine g_iald (c := 18) (T_X2_factAt 10 _ _ _ rfl) rfl hg ?_
      refine g_goto (tgt := 23) (T_X2_factAt 11 _ _ _ rfl) (by decide) ?_
      exact g_iret (T_X2_factAt 13 _ _ _ rfl) rfl (qi_of H)
def J_X2_reckon_202 (N : Nat) (h : Hp) : Option (Int × Hp) :=
  if (h 11 11) = 0 then
    bd (F_X2_pop N h) fun y2 h1 =>
    some (y2, h1)
  else
  some (0, h)
set_option maxRecDepth 100000 in
set_option maxHeartbeats 4000000 in
theorem R_J_X2_reckon_202 (N : Nat) (h : Hp) (res : Int × Hp) (H : J_X2_reckon_202 N h = some res) : Go M_X2_reckon 2 202 [some (.inr 12), none, none, none, none, none] [] h (Qi res) := by
  unfold J_X2_reckon_202 at H
  refine g_aload_n (T_X2_reckon 103 _ _ _ rfl) rfl ?_
  refine g_getI (c := 11) (T_X2_reckon 104 _ _ _ rfl) fl_X2_77 rfl (Or.inr rfl) ?_
  refine g_if_eq (tgt := 213) (T_X2_reckon 105 _ _ _ rfl) (by decide) (fun cc => ?_) (fun cc => ?_)
  · replace H := ite_p cc H
    refine g_aload_n (T_X2_reckon 108 _ _ _ rfl) rfl ?_
    obtain ⟨y2, h1, hq, H⟩ := bd_some H
    refine g_callVi (M' := M_X2_pop) (c := 11) (av := []) (st := []) (T_X2_reckon 109 _ _ _ rfl) ml_X2_88 cb_X2_pop rfl rfl (Nat.le_of_ble_eq_true rfl) (by omega) (R_X2_pop N _ _ hq) ?_
    exact g_iret (T_X2_reckon 110 _ _ _ rfl) rfl (qi_of H)
  · replace H := ite_n cc H
    refine g_iconst (T_X2_reckon 106 _ _ _ rfl) ⟨by decide, by decide⟩ ?_
    refine g_goto (tgt := 217) (T_X2_reckon 107 _ _ _ rfl) (by decide) ?_
    exact g_iret (T_X2_reckon 110 _ _ _ rfl) rfl (qi_of H)
def J_X2_reckon_196 (N : Nat) (k12 : Int → Int → Hp → Option (Int × Hp)) (x2 : Int) (x3 : Int) (h : Hp) : Option (Int × Hp) :=
  bnd (w32 (x3 + 1)) fun y1 =>
  k12 x2 y1 h
set_option maxRecDepth 100000 in
set_option maxHeartbeats 4000000 in
theorem R_J_X2_reckon_196 (N : Nat) (k12 : Int → Int → Hp → Option (Int × Hp)) (hk12 : ∀ (x2 : Int) (x3 : Int) (h : Hp) (res : Int × Hp), k12 x2 x3 h = some res → Go M_X2_reckon 2 12 [some (.inr 12), none, some (.inl x2), some (.inl x3), none, none] [] h (Qi res)) (x2 : Int) (x3 : Int) (h : Hp) (res : Int × Hp) (H : J_X2_reckon_196 N k12 x2 x3 h = some res) : Go M_X2_reckon 2 196 [some (.inr 12), none, some (.inl x2), some (.inl x3), none, none] [] h (Qi res) := by
  unfold J_X2_reckon_196 at H
  refine g_iincB (T_X2_reckon 101 _ _ _ rfl) rfl (by decide) H fun y1 H => ?_
  refine g_goto (tgt := 12) (T_X2_reckon 102 _ _ _ rfl) (by decide) ?_
  refine g_weak [true, false, true, true, false, false] ?_
  exact hk12 _ _ _ _ H
def J_X2_reckon_149 (N : Nat) (k12 : Int → Int → Hp → Option (Int × Hp)) (x2 : Int) (x3 : Int) (x5 : Int) (s0 : Int) (s1 : Int) (h : Hp) : Option (Int × Hp) :=
  if s0 = s1 then
    bv (F_X2_push N x5 h) fun h1 =>
    grd (0 ≤ x3 ∧ x3 < 240) <|
    bnd ((imax x3 (w32 ((h1 17 x3.toNat) - 1)))) fun y2 =>
    J_X2_reckon_196 N k12 x2 y2 h1
  else
  J_X2_reckon_196 N k12 x2 x3 h
set_option maxRecDepth 100000 in
set_option maxHeartbeats 4000000 in
theorem R_J_X2_reckon_149 (N : Nat) (k12 : Int → Int → Hp → Option (Int × Hp)) (hk12 : ∀ (x2 : Int) (x3 : Int) (h : Hp) (res : Int × Hp), k12 x2 x3 h = some res → Go M_X2_reckon 2 12 [some (.inr 12), none, some (.inl x2), some (.inl x3), none, none] [] h (Qi res)) (x2 : Int) (x3 : Int) (x5 : Int) (s0 : Int) (s1 : Int) (h : Hp) (res : Int × Hp) (H : J_X2_reckon_149 N k12 x2 x3 x5 s0 s1 h = some res) : Go M_X2_reckon 2 149 [some (.inr 12), none, some (.inl x2), some (.inl x3), none, some (.inl x5)] [.inl s1, .inl s0] h (Qi res) := by
  unfold J_X2_reckon_149 at H
  refine g_icmp_ne (tgt := 171) (T_X2_reckon 76 _ _ _ rfl) (by decide) (fun cc => ?_) (fun cc => ?_)
  · replace H := ite_n cc H
    refine g_goto (tgt := 196) (T_X2_reckon 89 _ _ _ rfl) (by decide) ?_
    refine g_weak [true, false, true, true, false, false] ?_
    exact R_J_X2_reckon_196 N k12 hk12 _ _ _ _ H
  · replace H := ite_p cc H
    refine g_aload_n (T_X2_reckon 77 _ _ _ rfl) rfl ?_
    refine g_iload (T_X2_reckon 78 _ _ _ rfl) rfl ?_
    obtain ⟨h1, hq, H⟩ := bv_some H
    refine g_callVv (M' := M_X2_push) (c := 11) (av := [.inl x5]) (st := []) (T_X2_reckon 79 _ _ _ rfl) ml_X2_81 cb_X2_push rfl rfl (Nat.le_of_ble_eq_true rfl) (by omega) (R_X2_push N _ _ _ hq) ?_
    refine g_iload_n (T_X2_reckon 80 _ _ _ rfl) rfl ?_
    refine g_aload_n (T_X2_reckon 81 _ _ _ rfl) rfl ?_
    refine g_getR (c := 11) (r := 18) (T_X2_reckon 82 _ _ _ rfl) fl_X2_27 rfl (nR rfl) rfl (by decide) ?_
    refine g_iload_n (T_X2_reckon 83 _ _ _ rfl) rfl ?_
    obtain ⟨hg, H⟩ := grd_some H
    refine g_iald (c := 17) (T_X2_reckon 84 _ _ _ rfl) rfl hg ?_
    refine g_iconst (T_X2_reckon 85 _ _ _ rfl) ⟨by decide, by decide⟩ ?_
    refine g_isub (T_X2_reckon 86 _ _ _ rfl) ?_
    refine g_max (st := []) (T_X2_reckon 87 _ _ _ rfl) ml_X2_71 wmax (Nat.le_of_ble_eq_true rfl) (by omega) ?_
    refine g_bndI H fun y2 H => ?_
    refine g_istore_n (T_X2_reckon 88 _ _ _ rfl) (by decide) ?_
    refine g_goto (tgt := 196) (T_X2_reckon 89 _ _ _ rfl) (by decide) ?_
    refine g_weak [true, false, true, true, false, false] ?_
    exact R_J_X2_reckon_196 N k12 hk12 _ _ _ _ H
def J_X2_reckon_137 (N : Nat) (k12 : Int → Int → Hp → Option (Int × Hp)) (x2 : Int) (x3 : Int) (x4 : Int) (x5 : Int) (s0 : Int) (h : Hp) : Option (Int × Hp) :=
  if x4 = 38 then
    J_X2_reckon_149 N k12 x2 x3 x5 s0 1 h
  else
  J_X2_reckon_149 N k12 x2 x3 x5 s0 0 h
set_option maxRecDepth 100000 in
set_option maxHeartbeats 4000000 in
theorem R_J_X2_reckon_137 (N : Nat) (k12 : Int → Int → Hp → Option (Int × Hp)) (hk12 : ∀ (x2 : Int) (x3 : Int) (h : Hp) (res : Int × Hp), k12 x2 x3 h = some res → Go M_X2_reckon 2 12 [some (.inr 12), none, some (.inl x2), some (.inl x3), none, none] [] h (Qi res)) (x2 : Int) (x3 : Int) (x4 : Int) (x5 : Int) (s0 : Int) (h : Hp) (res : Int × Hp) (H : J_X2_reckon_137 N k12 x2 x3 x4 x5 s0 h = some res) : Go M_X2_reckon 2 137 [some (.inr 12), none, some (.inl x2), some (.inl x3), some (.inl x4), some (.inl x5)] [.inl s0] h (Qi res) := by
  unfold J_X2_reckon_137 at H
  refine g_iload (T_X2_reckon 70 _ _ _ rfl) rfl ?_
  refine g_bipush (T_X2_reckon 71 _ _ _ rfl) (by decide) ?_
  refine g_icmp_ne (tgt := 148) (T_X2_reckon 72 _ _ _ rfl) (by decide) (fun cc => ?_) (fun cc => ?_)
  · replace H := ite_n cc H
    refine g_iconst (T_X2_reckon 75 _ _ _ rfl) ⟨by decide, by decide⟩ ?_
    refine g_weak [true, false, true, true, false, true] ?_
    exact R_J_X2_reckon_149 N k12 hk12 _ _ _ _ _ _ _ H
  · replace H := ite_p cc H
    refine g_iconst (T_X2_reckon 73 _ _ _ rfl) ⟨by decide, by decide⟩ ?_
    refine g_goto (tgt := 149) (T_X2_reckon 74 _ _ _ rfl) (by decide) ?_
    refine g_weak [true, false, true, true, false, true] ?_
    exact R_J_X2_reckon_149 N k12 hk12 _ _ _ _ _ _ _ H
def J_X2_reckon_121 (N : Nat) (k12 : Int → Int → Hp → Option (Int × Hp)) (x2 : Int) (x3 : Int) (x4 : Int) (h : Hp) : Option (Int × Hp) :=
  bd (F_X2_pop N h) fun y2 h1 =>
  if y2 = 0 then
    J_X2_reckon_137 N k12 x2 x3 x4 y2 1 h1
  else
  J_X2_reckon_137 N k12 x2 x3 x4 y2 0 h1
set_option maxRecDepth 100000 in
set_option maxHeartbeats 4000000 in
theorem R_J_X2_reckon_121 (N : Nat) (k12 : Int → Int → Hp → Option (Int × Hp)) (hk12 : ∀ (x2 : Int) (x3 : Int) (h : Hp) (res : Int × Hp), k12 x2 x3 h = some res → Go M_X2_reckon 2 12 [some (.inr 12), none, some (.inl x2), some (.inl x3), none, none] [] h (Qi res)) (x2 : Int) (x3 : Int) (x4 : Int) (h : Hp) (res : Int × Hp) (H : J_X2_reckon_121 N k12 x2 x3 x4 h = some res) : Go M_X2_reckon 2 121 [some (.inr 12), none, some (.inl x2), some (.inl x3), some (.inl x4), none] [] h (Qi res) := by
  unfold J_X2_reckon_121 at H
  refine g_aload_n (T_X2_reckon 62 _ _ _ rfl) rfl ?_
  obtain ⟨y2, h1, hq, H⟩ := bd_some H
  refine g_callVi (M' := M_X2_pop) (c := 11) (av := []) (st := []) (T_X2_reckon 63 _ _ _ rfl) ml_X2_88 cb_X2_pop rfl rfl (Nat.le_of_ble_eq_true rfl) (by omega) (R_X2_pop N _ _ hq) ?_
  refine g_istore (T_X2_reckon 64 _ _ _ rfl) (by decide) ?_
  refine g_iload (T_X2_reckon 65 _ _ _ rfl) rfl ?_
  refine g_if_ne (tgt := 136) (T_X2_reckon 66 _ _ _ rfl) (by decide) (fun cc => ?_) (fun cc => ?_)
  · replace H := ite_n cc H
    refine g_iconst (T_X2_reckon 69 _ _ _ rfl) ⟨by decide, by decide⟩ ?_
    refine g_weak [true, false, true, true, true, true] ?_
    exact R_J_X2_reckon_137 N k12 hk12 _ _ _ _ _ _ _ H
  · replace H := ite_p cc H
    refine g_iconst (T_X2_reckon 67 _ _ _ rfl) ⟨by decide, by decide⟩ ?_
    refine g_goto (tgt := 137) (T_X2_reckon 68 _ _ _ rfl) (by decide) ?_
    refine g_weak [true, false, true, true, true, true] ?_
    exact R_J_X2_reckon_137 N k12 hk12 _ _ _ _ _ _ _ H
def L_X2_reckon_12 (N : Nat) : Nat → Int → Int → Hp → Option (Int × Hp)
  | 0, _, _, _ => none
  | n + 1, x2, x3, h =>
    if x3 < 0 then
      J_X2_reckon_202 N  h
    else
    if x2 ≤ x3 then
      J_X2_reckon_202 N  h
    else
    if 240 ≤ x3 then
      J_X2_reckon_202 N  h
    else
    if (h 11 11) = 0 then
      grd (0 ≤ x3 ∧ x3 < 240) <|
      bnd ((h 16 x3.toNat)) fun y1 =>
      if y1 = 48 then
        grd (0 ≤ x3 ∧ x3 < 240) <|
        bv (F_X2_push N (h 17 x3.toNat) h) fun h15 =>
        J_X2_reckon_196 N (L_X2_reckon_12 N n) x2 x3 h15
      else
      if y1 = 97 then
        grd (0 ≤ x3 ∧ x3 < 240) <|
        bd (F_X2_factAt N (h 17 x3.toNat) h) fun y13 h12 =>
        bv (F_X2_push N y13 h12) fun h14 =>
        J_X2_reckon_196 N (L_X2_reckon_12 N n) x2 x3 h14
      else
      if y1 = 33 then
        bd (F_X2_pop N h) fun y10 h9 =>
        bv (F_X2_push N (w32 (1 - y10)) h9) fun h11 =>
        J_X2_reckon_196 N (L_X2_reckon_12 N n) x2 x3 h11
      else
      if y1 = 38 then
        J_X2_reckon_121 N (L_X2_reckon_12 N n) x2 x3 y1 h
      else
      if y1 = 124 then
        J_X2_reckon_121 N (L_X2_reckon_12 N n) x2 x3 y1 h
      else
      bd (F_X2_pop N h) fun y3 h2 =>
      bd (F_X2_pop N h2) fun y5 h4 =>
      bd (F_X2_join N y5 y1 y3 h4) fun y7 h6 =>
      bv (F_X2_push N y7 h6) fun h8 =>
      J_X2_reckon_196 N (L_X2_reckon_12 N n) x2 x3 h8
    else
    J_X2_reckon_202 N  h
set_option maxRecDepth 100000 in
set_option maxHeartbeats 4000000 in
theorem R_L_X2_reckon_12 (N : Nat) : ∀ (n : Nat) (x2 : Int) (x3 : Int) (h : Hp) (res : Int × Hp), L_X2_reckon_12 N n x2 x3 h = some res → Go M_X2_reckon 2 12 [some (.inr 12), none, some (.inl x2), some (.inl x3), none, none] [] h (Qi res)
  | 0, _, _, _, _, H => by cases H
  | n + 1, x2, x3, h, res, H => by
    have ih := R_L_X2_reckon_12 N n
    simp only [L_X2_reckon_12] at H
    refine g_iload_n (T_X2_reckon 8 _ _ _ rfl) rfl ?_
    refine g_if_lt (tgt := 202) (T_X2_reckon 9 _ _ _ rfl) (by decide) (fun cc => ?_) (fun cc => ?_)
    · replace H := ite_p cc H
      refine g_weak [true, false, false, false, false, false] ?_
      exact R_J_X2_reckon_202 N   _ _ H
    · replace H := ite_n cc H
      refine g_iload_n (T_X2_reckon 10 _ _ _ rfl) rfl ?_
      refine g_iload_n (T_X2_reckon 11 _ _ _ rfl) rfl ?_
      refine g_icmp_ge (tgt := 202) (T_X2_reckon 12 _ _ _ rfl) (by decide) (fun cc => ?_) (fun cc => ?_)
      · replace H := ite_p cc H
        refine g_weak [true, false, false, false, false, false] ?_
        exact R_J_X2_reckon_202 N   _ _ H
      · replace H := ite_n cc H
        refine g_iload_n (T_X2_reckon 13 _ _ _ rfl) rfl ?_
        refine g_sipush (T_X2_reckon 14 _ _ _ rfl) (by decide) ?_
        refine g_icmp_ge (tgt := 202) (T_X2_reckon 15 _ _ _ rfl) (by decide) (fun cc => ?_) (fun cc => ?_)
        · replace H := ite_p cc H
          refine g_weak [true, false, false, false, false, false] ?_
          exact R_J_X2_reckon_202 N   _ _ H
        · replace H := ite_n cc H
          refine g_aload_n (T_X2_reckon 16 _ _ _ rfl) rfl ?_
          refine g_getI (c := 11) (T_X2_reckon 17 _ _ _ rfl) fl_X2_77 rfl (Or.inr rfl) ?_
          refine g_if_ne (tgt := 202) (T_X2_reckon 18 _ _ _ rfl) (by decide) (fun cc => ?_) (fun cc => ?_)
          · replace H := ite_n cc H
            refine g_weak [true, false, false, false, false, false] ?_
            exact R_J_X2_reckon_202 N   _ _ H
          · replace H := ite_p cc H
            refine g_aload_n (T_X2_reckon 19 _ _ _ rfl) rfl ?_
            refine g_getR (c := 11) (r := 17) (T_X2_reckon 20 _ _ _ rfl) fl_X2_24 rfl (nR rfl) rfl (by decide) ?_
            refine g_iload_n (T_X2_reckon 21 _ _ _ rfl) rfl ?_
            obtain ⟨hg, H⟩ := grd_some H
            refine g_iald (c := 16) (T_X2_reckon 22 _ _ _ rfl) rfl hg ?_
            refine g_bndI H fun y1 H => ?_
            refine g_istore (T_X2_reckon 23 _ _ _ rfl) (by decide) ?_
            refine g_iload (T_X2_reckon 24 _ _ _ rfl) rfl ?_
            refine g_bipush (T_X2_reckon 25 _ _ _ rfl) (by decide) ?_
            refine g_icmp_ne (tgt := 63) (T_X2_reckon 26 _ _ _ rfl) (by decide) (fun cc => ?_) (fun cc => ?_)
            · replace H := ite_n cc H
              refine g_iload (T_X2_reckon 34 _ _ _ rfl) rfl ?_
              refine g_bipush (T_X2_reckon 35 _ _ _ rfl) (by decide) ?_
              refine g_icmp_ne (tgt := 87) (T_X2_reckon 36 _ _ _ rfl) (by decide) (fun cc => ?_) (fun cc => ?_)
              · replace H := ite_n cc H
                refine g_iload (T_X2_reckon 46 _ _ _ rfl) rfl ?_
                refine g_bipush (T_X2_reckon 47 _ _ _ rfl) (by decide) ?_
                refine g_icmp_ne (tgt := 107) (T_X2_reckon 48 _ _ _ rfl) (by decide) (fun cc => ?_) (fun cc => ?_)
                · replace H := ite_n cc H
                  refine g_iload (T_X2_reckon 56 _ _ _ rfl) rfl ?_
                  refine g_bipush (T_X2_reckon 57 _ _ _ rfl) (by decide) ?_
                  refine g_icmp_eq (tgt := 121) (T_X2_reckon 58 _ _ _ rfl) (by decide) (fun cc => ?_) (fun cc => ?_)
                  · replace H := ite_p cc H
                    refine g_weak [true, false, true, true, true, false] ?_
                    exact R_J_X2_reckon_121 N (L_X2_reckon_12 N n) ih _ _ _ _ _ H
                  · replace H := ite_n cc H
                    refine g_iload (T_X2_reckon 59 _ _ _ rfl) rfl ?_
                    refine g_bipush (T_X2_reckon 60 _ _ _ rfl) (by decide) ?_
                    refine g_icmp_ne (tgt := 174) (T_X2_reckon 61 _ _ _ rfl) (by decide) (fun cc => ?_) (fun cc => ?_)
                    · replace H := ite_n cc H
                      refine g_aload_n (T_X2_reckon 90 _ _ _ rfl) rfl ?_
                      obtain ⟨y3, h2, hq, H⟩ := bd_some H
                      refine g_callVi (M' := M_X2_pop) (c := 11) (av := []) (st := []) (T_X2_reckon 91 _ _ _ rfl) ml_X2_88 cb_X2_pop rfl rfl (Nat.le_of_ble_eq_true rfl) (by omega) (R_X2_pop N _ _ hq) ?_
                      refine g_istore (T_X2_reckon 92 _ _ _ rfl) (by decide) ?_
                      refine g_aload_n (T_X2_reckon 93 _ _ _ rfl) rfl ?_
                      refine g_aload_n (T_X2_reckon 94 _ _ _ rfl) rfl ?_
                      refine g_aload_n (T_X2_reckon 95 _ _ _ rfl) rfl ?_
                      obtain ⟨y5, h4, hq, H⟩ := bd_some H
                      refine g_callVi (M' := M_X2_pop) (c := 11) (av := []) (st := [.inr 12, .inr 12]) (T_X2_reckon 96 _ _ _ rfl) ml_X2_88 cb_X2_pop rfl rfl (Nat.le_of_ble_eq_true rfl) (by omega) (R_X2_pop N _ _ hq) ?_
                      refine g_iload (T_X2_reckon 97 _ _ _ rfl) rfl ?_
                      refine g_iload (T_X2_reckon 98 _ _ _ rfl) rfl ?_
                      obtain ⟨y7, h6, hq, H⟩ := bd_some H
                      refine g_callVi (M' := M_X2_join) (c := 11) (av := [.inl y5, .inl y1, .inl y3]) (st := [.inr 12]) (T_X2_reckon 99 _ _ _ rfl) ml_X2_92 cb_X2_join rfl rfl (Nat.le_of_ble_eq_true rfl) (by omega) (R_X2_join N _ _ _ _ _ hq) ?_
                      obtain ⟨h8, hq, H⟩ := bv_some H
                      refine g_callVv (M' := M_X2_push) (c := 11) (av := [.inl y7]) (st := []) (T_X2_reckon 100 _ _ _ rfl) ml_X2_81 cb_X2_push rfl rfl (Nat.le_of_ble_eq_true rfl) (by omega) (R_X2_push N _ _ _ hq) ?_
                      refine g_weak [true, false, true, true, false, false] ?_
                      exact R_J_X2_reckon_196 N (L_X2_reckon_12 N n) ih _ _ _ _ H
                    · replace H := ite_p cc H
                      refine g_weak [true, false, true, true, true, false] ?_
                      exact R_J_X2_reckon_121 N (L_X2_reckon_12 N n) ih _ _ _ _ _ H
                · replace H := ite_p cc H
                  refine g_aload_n (T_X2_reckon 49 _ _ _ rfl) rfl ?_
                  refine g_iconst (T_X2_reckon 50 _ _ _ rfl) ⟨by decide, by decide⟩ ?_
                  refine g_aload_n (T_X2_reckon 51 _ _ _ rfl) rfl ?_
                  obtain ⟨y10, h9, hq, H⟩ := bd_some H
                  refine g_callVi (M' := M_X2_pop) (c := 11) (av := []) (st := [.inl 1, .inr 12]) (T_X2_reckon 52 _ _ _ rfl) ml_X2_88 cb_X2_pop rfl rfl (Nat.le_of_ble_eq_true rfl) (by omega) (R_X2_pop N _ _ hq) ?_
                  refine g_isub (T_X2_reckon 53 _ _ _ rfl) ?_
                  obtain ⟨h11, hq, H⟩ := bv_some H
                  refine g_callVv (M' := M_X2_push) (c := 11) (av := [.inl (w32 (1 - y10))]) (st := []) (T_X2_reckon 54 _ _ _ rfl) ml_X2_81 cb_X2_push rfl rfl (Nat.le_of_ble_eq_true rfl) (by omega) (R_X2_push N _ _ _ hq) ?_
                  refine g_goto (tgt := 196) (T_X2_reckon 55 _ _ _ rfl) (by decide) ?_
                  refine g_weak [true, false, true, true, false, false] ?_
                  exact R_J_X2_reckon_196 N (L_X2_reckon_12 N n) ih _ _ _ _ H
              · replace H := ite_p cc H
                refine g_aload_n (T_X2_reckon 37 _ _ _ rfl) rfl ?_
                refine g_aload_n (T_X2_reckon 38 _ _ _ rfl) rfl ?_
                refine g_aload_n (T_X2_reckon 39 _ _ _ rfl) rfl ?_
                refine g_getR (c := 11) (r := 18) (T_X2_reckon 40 _ _ _ rfl) fl_X2_27 rfl (nR rfl) rfl (by decide) ?_
                refine g_iload_n (T_X2_reckon 41 _ _ _ rfl) rfl ?_
                obtain ⟨hg, H⟩ := grd_some H
                refine g_iald (c := 17) (T_X2_reckon 42 _ _ _ rfl) rfl hg ?_
                obtain ⟨y13, h12, hq, H⟩ := bd_some H
                refine g_callVi (M' := M_X2_factAt) (c := 11) (av := [.inl (h 17 x3.toNat)]) (st := [.inr 12]) (T_X2_reckon 43 _ _ _ rfl) ml_X2_85 cb_X2_factAt rfl rfl (Nat.le_of_ble_eq_true rfl) (by omega) (R_X2_factAt N _ _ _ hq) ?_
                obtain ⟨h14, hq, H⟩ := bv_some H
                refine g_callVv (M' := M_X2_push) (c := 11) (av := [.inl y13]) (st := []) (T_X2_reckon 44 _ _ _ rfl) ml_X2_81 cb_X2_push rfl rfl (Nat.le_of_ble_eq_true rfl) (by omega) (R_X2_push N _ _ _ hq) ?_
                refine g_goto (tgt := 196) (T_X2_reckon 45 _ _ _ rfl) (by decide) ?_
                refine g_weak [true, false, true, true, false, false] ?_
                exact R_J_X2_reckon_196 N (L_X2_reckon_12 N n) ih _ _ _ _ H
            · replace H := ite_p cc H
              refine g_aload_n (T_X2_reckon 27 _ _ _ rfl) rfl ?_
              refine g_aload_n (T_X2_reckon 28 _ _ _ rfl) rfl ?_
              refine g_getR (c := 11) (r := 18) (T_X2_reckon 29 _ _ _ rfl) fl_X2_27 rfl (nR rfl) rfl (by decide) ?_
              refine g_iload_n (T_X2_reckon 30 _ _ _ rfl) rfl ?_
              obtain ⟨hg, H⟩ := grd_some H
              refine g_iald (c := 17) (T_X2_reckon 31 _ _ _ rfl) rfl hg ?_
              obtain ⟨h15, hq, H⟩ := bv_some H
              refine g_callVv (M' := M_X2_push) (c := 11) (av := [.inl (h 17 x3.toNat)]) (st := []) (T_X2_reckon 32 _ _ _ rfl) ml_X2_81 cb_X2_push rfl rfl (Nat.le_of_ble_eq_true rfl) (by omega) (R_X2_push N _ _ _ hq) ?_
              refine g_goto (tgt := 196) (T_X2_reckon 33 _ _ _ rfl) (by decide) ?_
              refine g_weak [true, false, true, true, false, false] ?_
              exact R_J_X2_reckon_196 N (L_X2_reckon_12 N n) ih _ _ _ _ H
def F_X2_reckon (N : Nat) (x1 : Int) (x2 : Int) (h : Hp) : Option (Int × Hp) :=
  bnd (hw h 11 10 0) fun h1 =>
  bnd (hw h1 11 11 0) fun h2 =>
  L_X2_reckon_12 N  N x2 x1 h2
set_option maxRecDepth 100000 in
set_option maxHeartbeats 4000000 in
theorem R_X2_reckon (N : Nat) (x1 : Int) (x2 : Int) (h : Hp) (res : Int × Hp) (H : F_X2_reckon N x1 x2 h = some res) : Runs M_X2_reckon 2 [.inr 12, .inl x1, .inl x2] h (Qi res) := by
  refine Runs.of rfl (Nat.le_of_ble_eq_true rfl) ?_
  show Go M_X2_reckon 2 0 [some (.inr 12), some (.inl x1), some (.inl x2), none, none, none] [] h (Qi res)
  unfold F_X2_reckon at H
  refine g_aload_n (T_X2_reckon 0 _ _ _ rfl) rfl ?_
  refine g_iconst (T_X2_reckon 1 _ _ _ rfl) ⟨by decide, by decide⟩ ?_
  refine g_put (c := 11) (T_X2_reckon 2 _ _ _ rfl) fl_X2_74 rfl (Or.inl rfl) ?_
  refine g_bndH H fun h1 H => ?_
  refine g_aload_n (T_X2_reckon 3 _ _ _ rfl) rfl ?_
  refine g_iconst (T_X2_reckon 4 _ _ _ rfl) ⟨by decide, by decide⟩ ?_
  refine g_put (c := 11) (T_X2_reckon 5 _ _ _ rfl) fl_X2_77 rfl (Or.inr ⟨rfl, by decide⟩) ?_
  refine g_bndH H fun h2 H => ?_
  refine g_iload_n (T_X2_reckon 6 _ _ _ rfl) rfl ?_
  refine g_istore_n (T_X2_reckon 7 _ _ _ rfl) (by decide) ?_
  refine g_weak [true, false, true, true, false, false] ?_
  refine R_L_X2_reckon_12 N   _ _ _ _ _ H
def J_X2_ask_85 (N : Nat) (k2 : Int → Int → Hp → Option (Int × Hp)) (x1 : Int) (x2 : Int) (h : Hp) : Option (Int × Hp) :=
  bnd (w32 (x2 + 1)) fun y1 =>
  k2 x1 y1 h
set_option maxRecDepth 100000 in
set_option maxHeartbeats 4000000 in
theorem R_J_X2_ask_85 (N : Nat) (k2 : Int → Int → Hp → Option (Int × Hp)) (hk2 : ∀ (x1 : Int) (x2 : Int) (h : Hp) (res : Int × Hp), k2 x1 x2 h = some res → Go M_X2_ask 3 2 [some (.inr 12), some (.inl x1), some (.inl x2), none] [] h (Qi res)) (x1 : Int) (x2 : Int) (h : Hp) (res : Int × Hp) (H : J_X2_ask_85 N k2 x1 x2 h = some res) : Go M_X2_ask 3 85 [some (.inr 12), some (.inl x1), some (.inl x2), none] [] h (Qi res) := by
  unfold J_X2_ask_85 at H
  refine g_iincB (T_X2_ask 48 _ _ _ rfl) rfl (by decide) H fun y1 H => ?_
  refine g_goto (tgt := 2) (T_X2_ask 49 _ _ _ rfl) (by decide) ?_
  refine g_weak [true, true, true, false] ?_
  exact hk2 _ _ _ _ H
def J_X2_ask_59 (N : Nat) (x2 : Int) (s0 : Int) (h : Hp) : Option (Int × Hp) :=
  grd (0 ≤ x2 ∧ x2 < 16) <|
  grd (0 ≤ x2 ∧ x2 < 16) <|
  bd (F_X2_reckon N (h 13 x2.toNat) (h 14 x2.toNat) h) fun y2 h1 =>
  some ((imax 0 (imin s0 y2)), h1)
set_option maxRecDepth 100000 in
set_option maxHeartbeats 4000000 in
theorem R_J_X2_ask_59 (N : Nat) (x2 : Int) (s0 : Int) (h : Hp) (res : Int × Hp) (H : J_X2_ask_59 N x2 s0 h = some res) : Go M_X2_ask 3 59 [some (.inr 12), none, some (.inl x2), none] [.inl s0] h (Qi res) := by
  unfold J_X2_ask_59 at H
  refine g_istore_n (T_X2_ask 32 _ _ _ rfl) (by decide) ?_
  refine g_iconst (T_X2_ask 33 _ _ _ rfl) ⟨by decide, by decide⟩ ?_
  refine g_iload_n (T_X2_ask 34 _ _ _ rfl) rfl ?_
  refine g_aload_n (T_X2_ask 35 _ _ _ rfl) rfl ?_
  refine g_aload_n (T_X2_ask 36 _ _ _ rfl) rfl ?_
  refine g_getR (c := 11) (r := 14) (T_X2_ask 37 _ _ _ rfl) fl_X2_15 rfl (nR rfl) rfl (by decide) ?_
  refine g_iload_n (T_X2_ask 38 _ _ _ rfl) rfl ?_
  obtain ⟨hg, H⟩ := grd_some H
  refine g_iald (c := 13) (T_X2_ask 39 _ _ _ rfl) rfl hg ?_
  refine g_aload_n (T_X2_ask 40 _ _ _ rfl) rfl ?_
  refine g_getR (c := 11) (r := 15) (T_X2_ask 41 _ _ _ rfl) fl_X2_18 rfl (nR rfl) rfl (by decide) ?_
  refine g_iload_n (T_X2_ask 42 _ _ _ rfl) rfl ?_
  obtain ⟨hg, H⟩ := grd_some H
  refine g_iald (c := 14) (T_X2_ask 43 _ _ _ rfl) rfl hg ?_
  obtain ⟨y2, h1, hq, H⟩ := bd_some H
  refine g_callVi (M' := M_X2_reckon) (c := 11) (av := [.inl (h 13 x2.toNat), .inl (h 14 x2.toNat)]) (st := [.inl s0, .inl 0]) (T_X2_ask 44 _ _ _ rfl) ml_X2_62 cb_X2_reckon rfl rfl (Nat.le_of_ble_eq_true rfl) (by omega) (R_X2_reckon N _ _ _ _ hq) ?_
  refine g_min (st := [.inl 0]) (T_X2_ask 45 _ _ _ rfl) ml_X2_66 wmin (Nat.le_of_ble_eq_true rfl) (by omega) ?_
  refine g_max (st := []) (T_X2_ask 46 _ _ _ rfl) ml_X2_71 wmax (Nat.le_of_ble_eq_true rfl) (by omega) ?_
  exact g_iret (T_X2_ask 47 _ _ _ rfl) rfl (qi_of H)
def L_X2_ask_2 (N : Nat) : Nat → Int → Int → Hp → Option (Int × Hp)
  | 0, _, _, _ => none
  | n + 1, x1, x2, h =>
    if (h 11 4) ≤ x2 then
      some (0, h)
    else
    if 16 ≤ x2 then
      some (0, h)
    else
    grd (0 ≤ x2 ∧ x2 < 16) <|
    if (h 12 x2.toNat) = x1 then
      grd (0 ≤ x2 ∧ x2 < 16) <|
      grd (0 ≤ x2 ∧ x2 < 16) <|
      bd (F_X2_reckon N (h 14 x2.toNat) (h 15 x2.toNat) h) fun y2 h1 =>
      if y2 = 0 then
        J_X2_ask_85 N (L_X2_ask_2 N n) x1 x2 h1
      else
      if x1 = 117 then
        J_X2_ask_59 N  x2 9 h1
      else
      J_X2_ask_59 N  x2 999 h1
    else
    J_X2_ask_85 N (L_X2_ask_2 N n) x1 x2 h
set_option maxRecDepth 100000 in
set_option maxHeartbeats 4000000 in
theorem R_L_X2_ask_2 (N : Nat) : ∀ (n : Nat) (x1 : Int) (x2 : Int) (h : Hp) (res : Int × Hp), L_X2_ask_2 N n x1 x2 h = some res → Go M_X2_ask 3 2 [some (.inr 12), some (.inl x1), some (.inl x2), none] [] h (Qi res)
  | 0, _, _, _, _, H => by cases H
  | n + 1, x1, x2, h, res, H => by
    have ih := R_L_X2_ask_2 N n
    simp only [L_X2_ask_2] at H
    refine g_iload_n (T_X2_ask 2 _ _ _ rfl) rfl ?_
    refine g_aload_n (T_X2_ask 3 _ _ _ rfl) rfl ?_
    refine g_getI (c := 11) (T_X2_ask 4 _ _ _ rfl) fl_X2_36 rfl (Or.inl rfl) ?_
    refine g_icmp_ge (tgt := 91) (T_X2_ask 5 _ _ _ rfl) (by decide) (fun cc => ?_) (fun cc => ?_)
    · replace H := ite_p cc H
      refine g_iconst (T_X2_ask 50 _ _ _ rfl) ⟨by decide, by decide⟩ ?_
      exact g_iret (T_X2_ask 51 _ _ _ rfl) rfl (qi_of H)
    · replace H := ite_n cc H
      refine g_iload_n (T_X2_ask 6 _ _ _ rfl) rfl ?_
      refine g_bipush (T_X2_ask 7 _ _ _ rfl) (by decide) ?_
      refine g_icmp_ge (tgt := 91) (T_X2_ask 8 _ _ _ rfl) (by decide) (fun cc => ?_) (fun cc => ?_)
      · replace H := ite_p cc H
        refine g_iconst (T_X2_ask 50 _ _ _ rfl) ⟨by decide, by decide⟩ ?_
        exact g_iret (T_X2_ask 51 _ _ _ rfl) rfl (qi_of H)
      · replace H := ite_n cc H
        refine g_aload_n (T_X2_ask 9 _ _ _ rfl) rfl ?_
        refine g_getR (c := 11) (r := 13) (T_X2_ask 10 _ _ _ rfl) fl_X2_9 rfl (nR rfl) rfl (by decide) ?_
        refine g_iload_n (T_X2_ask 11 _ _ _ rfl) rfl ?_
        obtain ⟨hg, H⟩ := grd_some H
        refine g_iald (c := 12) (T_X2_ask 12 _ _ _ rfl) rfl hg ?_
        refine g_iload_n (T_X2_ask 13 _ _ _ rfl) rfl ?_
        refine g_icmp_ne (tgt := 85) (T_X2_ask 14 _ _ _ rfl) (by decide) (fun cc => ?_) (fun cc => ?_)
        · replace H := ite_n cc H
          refine g_weak [true, true, true, false] ?_
          exact R_J_X2_ask_85 N (L_X2_ask_2 N n) ih _ _ _ _ H
        · replace H := ite_p cc H
          refine g_aload_n (T_X2_ask 15 _ _ _ rfl) rfl ?_
          refine g_aload_n (T_X2_ask 16 _ _ _ rfl) rfl ?_
          refine g_getR (c := 11) (r := 15) (T_X2_ask 17 _ _ _ rfl) fl_X2_18 rfl (nR rfl) rfl (by decide) ?_
          refine g_iload_n (T_X2_ask 18 _ _ _ rfl) rfl ?_
          obtain ⟨hg, H⟩ := grd_some H
          refine g_iald (c := 14) (T_X2_ask 19 _ _ _ rfl) rfl hg ?_
          refine g_aload_n (T_X2_ask 20 _ _ _ rfl) rfl ?_
          refine g_getR (c := 11) (r := 16) (T_X2_ask 21 _ _ _ rfl) fl_X2_21 rfl (nR rfl) rfl (by decide) ?_
          refine g_iload_n (T_X2_ask 22 _ _ _ rfl) rfl ?_
          obtain ⟨hg, H⟩ := grd_some H
          refine g_iald (c := 15) (T_X2_ask 23 _ _ _ rfl) rfl hg ?_
          obtain ⟨y2, h1, hq, H⟩ := bd_some H
          refine g_callVi (M' := M_X2_reckon) (c := 11) (av := [.inl (h 14 x2.toNat), .inl (h 15 x2.toNat)]) (st := []) (T_X2_ask 24 _ _ _ rfl) ml_X2_62 cb_X2_reckon rfl rfl (Nat.le_of_ble_eq_true rfl) (by omega) (R_X2_reckon N _ _ _ _ hq) ?_
          refine g_if_eq (tgt := 85) (T_X2_ask 25 _ _ _ rfl) (by decide) (fun cc => ?_) (fun cc => ?_)
          · replace H := ite_p cc H
            refine g_weak [true, true, true, false] ?_
            exact R_J_X2_ask_85 N (L_X2_ask_2 N n) ih _ _ _ _ H
          · replace H := ite_n cc H
            refine g_iload_n (T_X2_ask 26 _ _ _ rfl) rfl ?_
            refine g_bipush (T_X2_ask 27 _ _ _ rfl) (by decide) ?_
            refine g_icmp_ne (tgt := 56) (T_X2_ask 28 _ _ _ rfl) (by decide) (fun cc => ?_) (fun cc => ?_)
            · replace H := ite_n cc H
              refine g_sipush (T_X2_ask 31 _ _ _ rfl) (by decide) ?_
              refine g_weak [true, false, true, false] ?_
              exact R_J_X2_ask_59 N   _ _ _ _ H
            · replace H := ite_p cc H
              refine g_bipush (T_X2_ask 29 _ _ _ rfl) (by decide) ?_
              refine g_goto (tgt := 59) (T_X2_ask 30 _ _ _ rfl) (by decide) ?_
              refine g_weak [true, false, true, false] ?_
              exact R_J_X2_ask_59 N   _ _ _ _ H
def F_X2_ask (N : Nat) (x1 : Int) (h : Hp) : Option (Int × Hp) :=
  L_X2_ask_2 N  N x1 0 h
set_option maxRecDepth 100000 in
set_option maxHeartbeats 4000000 in
theorem R_X2_ask (N : Nat) (x1 : Int) (h : Hp) (res : Int × Hp) (H : F_X2_ask N x1 h = some res) : Runs M_X2_ask 3 [.inr 12, .inl x1] h (Qi res) := by
  refine Runs.of rfl (Nat.le_of_ble_eq_true rfl) ?_
  show Go M_X2_ask 3 0 [some (.inr 12), some (.inl x1), none, none] [] h (Qi res)
  unfold F_X2_ask at H
  refine g_iconst (T_X2_ask 0 _ _ _ rfl) ⟨by decide, by decide⟩ ?_
  refine g_istore_n (T_X2_ask 1 _ _ _ rfl) (by decide) ?_
  refine g_weak [true, true, true, false] ?_
  refine R_L_X2_ask_2 N   _ _ _ _ _ H
def F_X5_askOf (N : Nat) (x1 : Int) (x2 : Int) (h : Hp) : Option (Int × Hp) :=
  bd (F_X1_lampsOf N x2 h) fun y2 h1 =>
  bd (F_X5_depthOf N x2 h1) fun y4 h3 =>
  bv (F_X2_regardStreet N x2 y2 y4 h3) fun h5 =>
  bd (F_X2_ask N x1 h5) fun y7 h6 =>
  some (y7, h6)
set_option maxRecDepth 100000 in
set_option maxHeartbeats 4000000 in
theorem R_X5_askOf (N : Nat) (x1 : Int) (x2 : Int) (h : Hp) (res : Int × Hp) (H : F_X5_askOf N x1 x2 h = some res) : Runs M_X5_askOf 4 [.inr 58, .inl x1, .inl x2] h (Qi res) := by
  refine Runs.of rfl (Nat.le_of_ble_eq_true rfl) ?_
  show Go M_X5_askOf 4 0 [some (.inr 58), some (.inl x1), some (.inl x2)] [] h (Qi res)
  unfold F_X5_askOf at H
  refine g_aload_n (T_X5_askOf 0 _ _ _ rfl) rfl ?_
  refine g_getR (c := 57) (r := 12) (T_X5_askOf 1 _ _ _ rfl) fl_X5_46 rfl (nR rfl) rfl (by decide) ?_
  refine g_aload_n (T_X5_askOf 2 _ _ _ rfl) rfl ?_
  refine g_getR (c := 57) (r := 2) (T_X5_askOf 3 _ _ _ rfl) fl_X5_38 rfl (nR rfl) rfl (by decide) ?_
  refine g_iload_n (T_X5_askOf 4 _ _ _ rfl) rfl ?_
  refine g_aload_n (T_X5_askOf 5 _ _ _ rfl) rfl ?_
  refine g_getR (c := 57) (r := 2) (T_X5_askOf 6 _ _ _ rfl) fl_X5_38 rfl (nR rfl) rfl (by decide) ?_
  refine g_iload_n (T_X5_askOf 7 _ _ _ rfl) rfl ?_
  obtain ⟨y2, h1, hq, H⟩ := bd_some H
  refine g_callVi (M' := M_X1_lampsOf) (c := 1) (av := [.inl x2]) (st := [.inl x2, .inr 2, .inr 12]) (T_X5_askOf 8 _ _ _ rfl) ml_X5_131 cb_X1_lampsOf rfl rfl (Nat.le_of_ble_eq_true rfl) (by omega) (R_X1_lampsOf N _ _ _ hq) ?_
  refine g_aload_n (T_X5_askOf 9 _ _ _ rfl) rfl ?_
  refine g_iload_n (T_X5_askOf 10 _ _ _ rfl) rfl ?_
  obtain ⟨y4, h3, hq, H⟩ := bd_some H
  refine g_callVi (M' := M_X5_depthOf) (c := 57) (av := [.inl x2]) (st := [.inl y2, .inl x2, .inr 2, .inr 12]) (T_X5_askOf 11 _ _ _ rfl) ml_X5_108 cb_X5_depthOf rfl rfl (Nat.le_of_ble_eq_true rfl) (by omega) (R_X5_depthOf N _ _ _ hq) ?_
  obtain ⟨h5, hq, H⟩ := bv_some H
  refine g_callVv (M' := M_X2_regardStreet) (c := 11) (av := [.inr 2, .inl x2, .inl y2, .inl y4]) (st := []) (T_X5_askOf 12 _ _ _ rfl) ml_X5_134 cb_X2_regardStreet rfl rfl (Nat.le_of_ble_eq_true rfl) (by omega) (R_X2_regardStreet N _ _ _ _ _ hq) ?_
  refine g_aload_n (T_X5_askOf 13 _ _ _ rfl) rfl ?_
  refine g_getR (c := 57) (r := 12) (T_X5_askOf 14 _ _ _ rfl) fl_X5_46 rfl (nR rfl) rfl (by decide) ?_
  refine g_iload_n (T_X5_askOf 15 _ _ _ rfl) rfl ?_
  obtain ⟨y7, h6, hq, H⟩ := bd_some H
  refine g_callVi (M' := M_X2_ask) (c := 11) (av := [.inl x1]) (st := []) (T_X5_askOf 16 _ _ _ rfl) ml_X5_138 cb_X2_ask rfl rfl (Nat.le_of_ble_eq_true rfl) (by omega) (R_X2_ask N _ _ _ hq) ?_
  exact g_iret (T_X5_askOf 17 _ _ _ rfl) rfl (qi_of H)
def F_X5_leave (N : Nat) (x1 : Int) (x2 : Int) (x3 : Int) (h : Hp) : Option (Int × Hp) :=
  grd (0 ≤ x1 ∧ x1 < 5) <|
  grd (0 ≤ x1 ∧ x1 < 5) <|
  bnd (hw h 63 x1.toNat (w32 ((h 63 x1.toNat) - x3))) fun h1 =>
  bnd (hw h1 57 14 (w32 ((h1 57 14) + x3))) fun h2 =>
  bd (F_X11_isWithin N x2 0 13 h2) fun y4 h3 =>
  if y4 = 0 then
    some (x3, h3)
  else
  grd (0 ≤ x2 ∧ x2 < 14) <|
  grd (0 ≤ x2 ∧ x2 < 14) <|
  bnd (hw h3 58 x2.toNat (imin 999 (w32 ((h3 58 x2.toNat) + x3)))) fun h5 =>
  some (x3, h5)
set_option maxRecDepth 100000 in
set_option maxHeartbeats 4000000 in
theorem R_X5_leave (N : Nat) (x1 : Int) (x2 : Int) (x3 : Int) (h : Hp) (res : Int × Hp) (H : F_X5_leave N x1 x2 x3 h = some res) : Runs M_X5_leave 2 [.inr 58, .inl x1, .inl x2, .inl x3] h (Qi res) := by
  refine Runs.of rfl (Nat.le_of_ble_eq_true rfl) ?_
  show Go M_X5_leave 2 0 [some (.inr 58), some (.inl x1), some (.inl x2), some (.inl x3)] [] h (Qi res)
  unfold F_X5_leave at H
  refine g_aload_n (T_X5_leave 0 _ _ _ rfl) rfl ?_
  refine g_getR (c := 57) (r := 64) (T_X5_leave 1 _ _ _ rfl) fl_X5_32 rfl (nR rfl) rfl (by decide) ?_
  refine g_iload_n (T_X5_leave 2 _ _ _ rfl) rfl ?_
  refine g_dup2 (T_X5_leave 3 _ _ _ rfl) ?_
  obtain ⟨hg, H⟩ := grd_some H
  refine g_iald (c := 63) (T_X5_leave 4 _ _ _ rfl) rfl hg ?_
  refine g_iload_n (T_X5_leave 5 _ _ _ rfl) rfl ?_
  refine g_isub (T_X5_leave 6 _ _ _ rfl) ?_
  obtain ⟨hg, H⟩ := grd_some H
  refine g_iast (c := 63) (T_X5_leave 7 _ _ _ rfl) rfl hg ?_
  refine g_bndH H fun h1 H => ?_
  refine g_aload_n (T_X5_leave 8 _ _ _ rfl) rfl ?_
  refine g_dup (T_X5_leave 9 _ _ _ rfl) ?_
  refine g_getI (c := 57) (T_X5_leave 10 _ _ _ rfl) fl_X5_63 rfl (Or.inl rfl) ?_
  refine g_iload_n (T_X5_leave 11 _ _ _ rfl) rfl ?_
  refine g_iadd (T_X5_leave 12 _ _ _ rfl) ?_
  refine g_put (c := 57) (T_X5_leave 13 _ _ _ rfl) fl_X5_63 rfl (Or.inl rfl) ?_
  refine g_bndH H fun h2 H => ?_
  refine g_iload_n (T_X5_leave 14 _ _ _ rfl) rfl ?_
  refine g_iconst (T_X5_leave 15 _ _ _ rfl) ⟨by decide, by decide⟩ ?_
  refine g_bipush (T_X5_leave 16 _ _ _ rfl) (by decide) ?_
  obtain ⟨y4, h3, hq, H⟩ := bd_some H
  refine g_callSNi (M' := M_X11_isWithin) (av := [.inl x2, .inl 0, .inl 13]) (st := []) (T_X5_leave 17 _ _ _ rfl) ml_X5_69 cb_X11_isWithin rfl (Nat.le_of_ble_eq_true rfl) (by omega) (R_X11_isWithin N _ _ _ _ _ hq) ?_
  refine g_if_eq (tgt := 50) (T_X5_leave 18 _ _ _ rfl) (by decide) (fun cc => ?_) (fun cc => ?_)
  · replace H := ite_p cc H
    refine g_iload_n (T_X5_leave 31 _ _ _ rfl) rfl ?_
    exact g_iret (T_X5_leave 32 _ _ _ rfl) rfl (qi_of H)
  · replace H := ite_n cc H
    refine g_aload_n (T_X5_leave 19 _ _ _ rfl) rfl ?_
    refine g_getR (c := 57) (r := 59) (T_X5_leave 20 _ _ _ rfl) fl_X5_11 rfl (nR rfl) rfl (by decide) ?_
    refine g_iload_n (T_X5_leave 21 _ _ _ rfl) rfl ?_
    refine g_sipush (T_X5_leave 22 _ _ _ rfl) (by decide) ?_
    refine g_aload_n (T_X5_leave 23 _ _ _ rfl) rfl ?_
    refine g_getR (c := 57) (r := 59) (T_X5_leave 24 _ _ _ rfl) fl_X5_11 rfl (nR rfl) rfl (by decide) ?_
    refine g_iload_n (T_X5_leave 25 _ _ _ rfl) rfl ?_
    obtain ⟨hg, H⟩ := grd_some H
    refine g_iald (c := 58) (T_X5_leave 26 _ _ _ rfl) rfl hg ?_
    refine g_iload_n (T_X5_leave 27 _ _ _ rfl) rfl ?_
    refine g_iadd (T_X5_leave 28 _ _ _ rfl) ?_
    refine g_min (st := [.inl x2, .inr 59]) (T_X5_leave 29 _ _ _ rfl) ml_X5_126 wmin (Nat.le_of_ble_eq_true rfl) (by omega) ?_
    obtain ⟨hg, H⟩ := grd_some H
    refine g_iast (c := 58) (T_X5_leave 30 _ _ _ rfl) rfl hg ?_
    refine g_bndH H fun h5 H => ?_
    refine g_iload_n (T_X5_leave 31 _ _ _ rfl) rfl ?_
    exact g_iret (T_X5_leave 32 _ _ _ rfl) rfl (qi_of H)
def F_X0_room (N : Nat) (t : Nat) (h : Hp) : Option (Int × Hp) :=
  some ((h t 4), h)
set_option maxRecDepth 100000 in
set_option maxHeartbeats 4000000 in
theorem R_X0_room (N : Nat) (t : Nat) (ht : isCart t) (h : Hp) (res : Int × Hp) (H : F_X0_room N t h = some res) : Runs M_X0_room 1 [.inr (t + 1)] h (Qi res) := by
  refine Runs.of rfl (Nat.le_of_ble_eq_true rfl) ?_
  show Go M_X0_room 1 0 [some (.inr (t + 1))] [] h (Qi res)
  unfold F_X0_room at H
  refine g_aload_n (T_X0_room 0 _ _ _ rfl) rfl ?_
  refine g_getI (c := t) (T_X0_room 1 _ _ _ rfl) fl_X0_22 ht.2.1 (Or.inl rfl) ?_
  exact g_iret (T_X0_room 2 _ _ _ rfl) rfl (qi_of H)
def F_X5_takeOn (N : Nat) (x1 : Int) (x2 : Int) (h : Hp) : Option (Int × Hp) :=
  grd (0 ≤ x1 ∧ x1 < 5) <|
  grd (0 ≤ x1 ∧ x1 < 5) <|
  bnd (hw h 63 x1.toNat (w32 ((h 63 x1.toNat) + x2))) fun h1 =>
  some (x2, h1)
set_option maxRecDepth 100000 in
set_option maxHeartbeats 4000000 in
theorem R_X5_takeOn (N : Nat) (x1 : Int) (x2 : Int) (h : Hp) (res : Int × Hp) (H : F_X5_takeOn N x1 x2 h = some res) : Runs M_X5_takeOn 1 [.inr 58, .inl x1, .inl x2] h (Qi res) := by
  refine Runs.of rfl (Nat.le_of_ble_eq_true rfl) ?_
  show Go M_X5_takeOn 1 0 [some (.inr 58), some (.inl x1), some (.inl x2)] [] h (Qi res)
  unfold F_X5_takeOn at H
  refine g_aload_n (T_X5_takeOn 0 _ _ _ rfl) rfl ?_
  refine g_getR (c := 57) (r := 64) (T_X5_takeOn 1 _ _ _ rfl) fl_X5_32 rfl (nR rfl) rfl (by decide) ?_
  refine g_iload_n (T_X5_takeOn 2 _ _ _ rfl) rfl ?_
  refine g_dup2 (T_X5_takeOn 3 _ _ _ rfl) ?_
  obtain ⟨hg, H⟩ := grd_some H
  refine g_iald (c := 63) (T_X5_takeOn 4 _ _ _ rfl) rfl hg ?_
  refine g_iload_n (T_X5_takeOn 5 _ _ _ rfl) rfl ?_
  refine g_iadd (T_X5_takeOn 6 _ _ _ rfl) ?_
  obtain ⟨hg, H⟩ := grd_some H
  refine g_iast (c := 63) (T_X5_takeOn 7 _ _ _ rfl) rfl hg ?_
  refine g_bndH H fun h1 H => ?_
  refine g_iload_n (T_X5_takeOn 8 _ _ _ rfl) rfl ?_
  exact g_iret (T_X5_takeOn 9 _ _ _ rfl) rfl (qi_of H)
