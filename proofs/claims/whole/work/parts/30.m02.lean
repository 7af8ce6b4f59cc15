/-! by program: the methods as functions, and the walks that show it -/
def L_X12_plan_116 (N : Nat) : Nat → Int → Int → Hp → Option (Int × Hp)
  | 0, _, _, _ => none
  | n + 1, x1, x4, h =>
    if (h 83 41) ≤ x4 then
      some ((h 83 41), h)
    else
    grd (0 ≤ x4 ∧ x4 < 16) <|
    grd (0 ≤ (w32 ((w32 (16 * x1)) + x4)) ∧ (w32 ((w32 (16 * x1)) + x4)) < 80) <|
    bnd (hw h 94 (w32 ((w32 (16 * x1)) + x4)).toNat (h 111 x4.toNat)) fun h1 =>
    grd (0 ≤ x4 ∧ x4 < 16) <|
    grd (0 ≤ (w32 ((w32 (16 * x1)) + x4)) ∧ (w32 ((w32 (16 * x1)) + x4)) < 80) <|
    bnd (hw h1 95 (w32 ((w32 (16 * x1)) + x4)).toNat (h1 112 x4.toNat)) fun h2 =>
    bnd (w32 (x4 + 1)) fun y3 =>
    (L_X12_plan_116 N n) x1 y3 h2
set_option maxRecDepth 100000 in
set_option maxHeartbeats 4000000 in
theorem R_L_X12_plan_116 (N : Nat) : ∀ (n : Nat) (x1 : Int) (x4 : Int) (h : Hp) (res : Int × Hp), L_X12_plan_116 N n x1 x4 h = some res → Go M_X12_plan 5 116 [some (.inr 84), some (.inl x1), none, none, some (.inl x4)] [] h (Qi res)
  | 0, _, _, _, _, H => by cases H
  | n + 1, x1, x4, h, res, H => by
    have ih := R_L_X12_plan_116 N n
    simp only [L_X12_plan_116] at H
    refine g_iload (T_X12_plan 63 _ _ _ rfl) rfl ?_
    refine g_aload_n (T_X12_plan 64 _ _ _ rfl) rfl ?_
    refine g_getI (c := 83) (T_X12_plan 65 _ _ _ rfl) fl_X12_278 rfl (Or.inl rfl) ?_
    refine g_icmp_ge (tgt := 169) (T_X12_plan 66 _ _ _ rfl) (by decide) (fun cc => ?_) (fun cc => ?_)
    · replace H := ite_p cc H
      refine g_aload_n (T_X12_plan 93 _ _ _ rfl) rfl ?_
      refine g_getI (c := 83) (T_X12_plan 94 _ _ _ rfl) fl_X12_278 rfl (Or.inl rfl) ?_
      exact g_iret (T_X12_plan 95 _ _ _ rfl) rfl (qi_of H)
    · replace H := ite_n cc H
      refine g_aload_n (T_X12_plan 67 _ _ _ rfl) rfl ?_
      refine g_getR (c := 83) (r := 95) (T_X12_plan 68 _ _ _ rfl) fl_X12_40 rfl (nR rfl) rfl (by decide) ?_
      refine g_bipush (T_X12_plan 69 _ _ _ rfl) (by decide) ?_
      refine g_iload_n (T_X12_plan 70 _ _ _ rfl) rfl ?_
      refine g_imul (T_X12_plan 71 _ _ _ rfl) ?_
      refine g_iload (T_X12_plan 72 _ _ _ rfl) rfl ?_
      refine g_iadd (T_X12_plan 73 _ _ _ rfl) ?_
      refine g_aload_n (T_X12_plan 74 _ _ _ rfl) rfl ?_
      refine g_getR (c := 83) (r := 112) (T_X12_plan 75 _ _ _ rfl) fl_X12_92 rfl (nR rfl) rfl (by decide) ?_
      refine g_iload (T_X12_plan 76 _ _ _ rfl) rfl ?_
      obtain ⟨hg, H⟩ := grd_some H
      refine g_iald (c := 111) (T_X12_plan 77 _ _ _ rfl) rfl hg ?_
      obtain ⟨hg, H⟩ := grd_some H
      refine g_iast (c := 94) (T_X12_plan 78 _ _ _ rfl) rfl hg ?_
      refine g_bndH H fun h1 H => ?_
      refine g_aload_n (T_X12_plan 79 _ _ _ rfl) rfl ?_
      refine g_getR (c := 83) (r := 96) (T_X12_plan 80 _ _ _ rfl) fl_X12_43 rfl (nR rfl) rfl (by decide) ?_
      refine g_bipush (T_X12_plan 81 _ _ _ rfl) (by decide) ?_
      refine g_iload_n (T_X12_plan 82 _ _ _ rfl) rfl ?_
      refine g_imul (T_X12_plan 83 _ _ _ rfl) ?_
      refine g_iload (T_X12_plan 84 _ _ _ rfl) rfl ?_
      refine g_iadd (T_X12_plan 85 _ _ _ rfl) ?_
      refine g_aload_n (T_X12_plan 86 _ _ _ rfl) rfl ?_
      refine g_getR (c := 83) (r := 113) (T_X12_plan 87 _ _ _ rfl) fl_X12_95 rfl (nR rfl) rfl (by decide) ?_
      refine g_iload (T_X12_plan 88 _ _ _ rfl) rfl ?_
      obtain ⟨hg, H⟩ := grd_some H
      refine g_iald (c := 112) (T_X12_plan 89 _ _ _ rfl) rfl hg ?_
      obtain ⟨hg, H⟩ := grd_some H
      refine g_iast (c := 95) (T_X12_plan 90 _ _ _ rfl) rfl hg ?_
      refine g_bndH H fun h2 H => ?_
      refine g_iincB (T_X12_plan 91 _ _ _ rfl) rfl (by decide) H fun y3 H => ?_
      refine g_goto (tgt := 116) (T_X12_plan 92 _ _ _ rfl) (by decide) ?_
      refine g_weak [true, true, false, false, true] ?_
      exact ih _ _ _ _ H
def J_X12_plan_89 (N : Nat) (x1 : Int) (x3 : Int) (h : Hp) : Option (Int × Hp) :=
  bnd (hw h 83 15 0) fun h1 =>
  if x3 = 0 then
    some ((h1 83 18), h1)
  else
  grd (0 ≤ x1 ∧ x1 < 5) <|
  bnd (hw h1 93 x1.toNat (h1 83 41)) fun h2 =>
  L_X12_plan_116 N  N x1 0 h2
set_option maxRecDepth 100000 in
set_option maxHeartbeats 4000000 in
theorem R_J_X12_plan_89 (N : Nat) (x1 : Int) (x3 : Int) (h : Hp) (res : Int × Hp) (H : J_X12_plan_89 N x1 x3 h = some res) : Go M_X12_plan 5 89 [some (.inr 84), some (.inl x1), none, some (.inl x3), none] [] h (Qi res) := by
  unfold J_X12_plan_89 at H
  refine g_aload_n (T_X12_plan 47 _ _ _ rfl) rfl ?_
  refine g_iconst (T_X12_plan 48 _ _ _ rfl) ⟨by decide, by decide⟩ ?_
  refine g_put (c := 83) (T_X12_plan 49 _ _ _ rfl) fl_X12_159 rfl (Or.inl rfl) ?_
  refine g_bndH H fun h1 H => ?_
  refine g_iload_n (T_X12_plan 50 _ _ _ rfl) rfl ?_
  refine g_if_ne (tgt := 103) (T_X12_plan 51 _ _ _ rfl) (by decide) (fun cc => ?_) (fun cc => ?_)
  · replace H := ite_n cc H
    refine g_aload_n (T_X12_plan 55 _ _ _ rfl) rfl ?_
    refine g_getR (c := 83) (r := 94) (T_X12_plan 56 _ _ _ rfl) fl_X12_37 rfl (nR rfl) rfl (by decide) ?_
    refine g_iload_n (T_X12_plan 57 _ _ _ rfl) rfl ?_
    refine g_aload_n (T_X12_plan 58 _ _ _ rfl) rfl ?_
    refine g_getI (c := 83) (T_X12_plan 59 _ _ _ rfl) fl_X12_278 rfl (Or.inl rfl) ?_
    obtain ⟨hg, H⟩ := grd_some H
    refine g_iast (c := 93) (T_X12_plan 60 _ _ _ rfl) rfl hg ?_
    refine g_bndH H fun h2 H => ?_
    refine g_iconst (T_X12_plan 61 _ _ _ rfl) ⟨by decide, by decide⟩ ?_
    refine g_istore (T_X12_plan 62 _ _ _ rfl) (by decide) ?_
    refine g_weak [true, true, false, false, true] ?_
    refine R_L_X12_plan_116 N   _ _ _ _ _ H
  · replace H := ite_p cc H
    refine g_aload_n (T_X12_plan 52 _ _ _ rfl) rfl ?_
    refine g_getI (c := 83) (T_X12_plan 53 _ _ _ rfl) fl_X12_176 rfl (Or.inl rfl) ?_
    exact g_iret (T_X12_plan 54 _ _ _ rfl) rfl (qi_of H)
def L_X12_plan_49 (N : Nat) : Nat → Int → Int → Hp → Option (Int × Hp)
  | 0, _, _, _ => none
  | n + 1, x1, x3, h =>
    if x3 = 0 then
      J_X12_plan_89 N  x1 x3 h
    else
    if (h 83 17) ≤ (h 83 16) then
      J_X12_plan_89 N  x1 x3 h
    else
    bd (F_X12_takes N 44 h) fun y2 h1 =>
    if y2 = 0 then
      (L_X12_plan_49 N n) x1 0 h1
    else
    bd (F_X12_readsStop N h1) fun y4 h3 =>
    if y4 = 0 then
      (L_X12_plan_49 N n) x1 0 h3
    else
    (L_X12_plan_49 N n) x1 1 h3
set_option maxRecDepth 100000 in
set_option maxHeartbeats 4000000 in
theorem R_L_X12_plan_49 (N : Nat) : ∀ (n : Nat) (x1 : Int) (x3 : Int) (h : Hp) (res : Int × Hp), L_X12_plan_49 N n x1 x3 h = some res → Go M_X12_plan 5 49 [some (.inr 84), some (.inl x1), none, some (.inl x3), none] [] h (Qi res)
  | 0, _, _, _, _, H => by cases H
  | n + 1, x1, x3, h, res, H => by
    have ih := R_L_X12_plan_49 N n
    simp only [L_X12_plan_49] at H
    refine g_iload_n (T_X12_plan 28 _ _ _ rfl) rfl ?_
    refine g_if_eq (tgt := 89) (T_X12_plan 29 _ _ _ rfl) (by decide) (fun cc => ?_) (fun cc => ?_)
    · replace H := ite_p cc H
      refine g_weak [true, true, false, true, false] ?_
      exact R_J_X12_plan_89 N   _ _ _ _ H
    · replace H := ite_n cc H
      refine g_aload_n (T_X12_plan 30 _ _ _ rfl) rfl ?_
      refine g_getI (c := 83) (T_X12_plan 31 _ _ _ rfl) fl_X12_166 rfl (Or.inl rfl) ?_
      refine g_aload_n (T_X12_plan 32 _ _ _ rfl) rfl ?_
      refine g_getI (c := 83) (T_X12_plan 33 _ _ _ rfl) fl_X12_169 rfl (Or.inl rfl) ?_
      refine g_icmp_ge (tgt := 89) (T_X12_plan 34 _ _ _ rfl) (by decide) (fun cc => ?_) (fun cc => ?_)
      · replace H := ite_p cc H
        refine g_weak [true, true, false, true, false] ?_
        exact R_J_X12_plan_89 N   _ _ _ _ H
      · replace H := ite_n cc H
        refine g_aload_n (T_X12_plan 35 _ _ _ rfl) rfl ?_
        refine g_bipush (T_X12_plan 36 _ _ _ rfl) (by decide) ?_
        obtain ⟨y2, h1, hq, H⟩ := bd_some H
        refine g_callVi (M' := M_X12_takes) (c := 83) (av := [.inl 44]) (st := []) (T_X12_plan 37 _ _ _ rfl) ml_X12_255 cb_X12_takes rfl rfl (Nat.le_of_ble_eq_true rfl) (by omega) (R_X12_takes N _ _ _ hq) ?_
        refine g_if_eq (tgt := 84) (T_X12_plan 38 _ _ _ rfl) (by decide) (fun cc => ?_) (fun cc => ?_)
        · replace H := ite_p cc H
          refine g_iconst (T_X12_plan 44 _ _ _ rfl) ⟨by decide, by decide⟩ ?_
          refine g_istore_n (T_X12_plan 45 _ _ _ rfl) (by decide) ?_
          refine g_goto (tgt := 49) (T_X12_plan 46 _ _ _ rfl) (by decide) ?_
          refine g_weak [true, true, false, true, false] ?_
          exact ih _ _ _ _ H
        · replace H := ite_n cc H
          refine g_aload_n (T_X12_plan 39 _ _ _ rfl) rfl ?_
          obtain ⟨y4, h3, hq, H⟩ := bd_some H
          refine g_callVi (M' := M_X12_readsStop) (c := 83) (av := []) (st := []) (T_X12_plan 40 _ _ _ rfl) ml_X12_287 cb_X12_readsStop rfl rfl (Nat.le_of_ble_eq_true rfl) (by omega) (R_X12_readsStop N _ _ hq) ?_
          refine g_if_eq (tgt := 84) (T_X12_plan 41 _ _ _ rfl) (by decide) (fun cc => ?_) (fun cc => ?_)
          · replace H := ite_p cc H
            refine g_iconst (T_X12_plan 44 _ _ _ rfl) ⟨by decide, by decide⟩ ?_
            refine g_istore_n (T_X12_plan 45 _ _ _ rfl) (by decide) ?_
            refine g_goto (tgt := 49) (T_X12_plan 46 _ _ _ rfl) (by decide) ?_
            refine g_weak [true, true, false, true, false] ?_
            exact ih _ _ _ _ H
          · replace H := ite_n cc H
            refine g_iconst (T_X12_plan 42 _ _ _ rfl) ⟨by decide, by decide⟩ ?_
            refine g_goto (tgt := 85) (T_X12_plan 43 _ _ _ rfl) (by decide) ?_
            refine g_istore_n (T_X12_plan 45 _ _ _ rfl) (by decide) ?_
            refine g_goto (tgt := 49) (T_X12_plan 46 _ _ _ rfl) (by decide) ?_
            refine g_weak [true, true, false, true, false] ?_
            exact ih _ _ _ _ H
def F_X12_plan (N : Nat) (x1 : Int) (x2 : Int) (h : Hp) : Option (Int × Hp) :=
  bd (F_X12_in N x1 0 4 h) fun y2 h1 =>
  if y2 = 0 then
    some ((-1), h1)
  else
  bd (F_X12_in N x2 1 80 h1) fun y4 h3 =>
  if y4 = 0 then
    some ((-1), h3)
  else
  if x2 ≤ (h3 83 15) then
    bnd (hw h3 83 16 0) fun h5 =>
    bnd (hw h5 83 17 x2) fun h6 =>
    bnd (hw h6 83 41 0) fun h7 =>
    bd (F_X12_readsStop N h7) fun y9 h8 =>
    L_X12_plan_49 N  N x1 y9 h8
  else
  some ((-1), h3)
set_option maxRecDepth 100000 in
set_option maxHeartbeats 4000000 in
theorem R_X12_plan (N : Nat) (x1 : Int) (x2 : Int) (h : Hp) (res : Int × Hp) (H : F_X12_plan N x1 x2 h = some res) : Runs M_X12_plan 5 [.inr 84, .inl x1, .inl x2] h (Qi res) := by
  refine Runs.of rfl (Nat.le_of_ble_eq_true rfl) ?_
  show Go M_X12_plan 5 0 [some (.inr 84), some (.inl x1), some (.inl x2), none, none] [] h (Qi res)
  unfold F_X12_plan at H
  refine g_iload_n (T_X12_plan 0 _ _ _ rfl) rfl ?_
  refine g_iconst (T_X12_plan 1 _ _ _ rfl) ⟨by decide, by decide⟩ ?_
  refine g_iconst (T_X12_plan 2 _ _ _ rfl) ⟨by decide, by decide⟩ ?_
  obtain ⟨y2, h1, hq, H⟩ := bd_some H
  refine g_callSi (M' := M_X12_in) (av := [.inl x1, .inl 0, .inl 4]) (st := []) (T_X12_plan 3 _ _ _ rfl) ml_X12_155 cb_X12_in rfl (Nat.le_of_ble_eq_true rfl) (by omega) (R_X12_in N _ _ _ _ _ hq) ?_
  refine g_if_eq (tgt := 27) (T_X12_plan 4 _ _ _ rfl) (by decide) (fun cc => ?_) (fun cc => ?_)
  · replace H := ite_p cc H
    refine g_iconst (T_X12_plan 14 _ _ _ rfl) ⟨by decide, by decide⟩ ?_
    exact g_iret (T_X12_plan 15 _ _ _ rfl) rfl (qi_of H)
  · replace H := ite_n cc H
    refine g_iload_n (T_X12_plan 5 _ _ _ rfl) rfl ?_
    refine g_iconst (T_X12_plan 6 _ _ _ rfl) ⟨by decide, by decide⟩ ?_
    refine g_bipush (T_X12_plan 7 _ _ _ rfl) (by decide) ?_
    obtain ⟨y4, h3, hq, H⟩ := bd_some H
    refine g_callSi (M' := M_X12_in) (av := [.inl x2, .inl 1, .inl 80]) (st := []) (T_X12_plan 8 _ _ _ rfl) ml_X12_155 cb_X12_in rfl (Nat.le_of_ble_eq_true rfl) (by omega) (R_X12_in N _ _ _ _ _ hq) ?_
    refine g_if_eq (tgt := 27) (T_X12_plan 9 _ _ _ rfl) (by decide) (fun cc => ?_) (fun cc => ?_)
    · replace H := ite_p cc H
      refine g_iconst (T_X12_plan 14 _ _ _ rfl) ⟨by decide, by decide⟩ ?_
      exact g_iret (T_X12_plan 15 _ _ _ rfl) rfl (qi_of H)
    · replace H := ite_n cc H
      refine g_iload_n (T_X12_plan 10 _ _ _ rfl) rfl ?_
      refine g_aload_n (T_X12_plan 11 _ _ _ rfl) rfl ?_
      refine g_getI (c := 83) (T_X12_plan 12 _ _ _ rfl) fl_X12_159 rfl (Or.inl rfl) ?_
      refine g_icmp_le (tgt := 29) (T_X12_plan 13 _ _ _ rfl) (by decide) (fun cc => ?_) (fun cc => ?_)
      · replace H := ite_p cc H
        refine g_aload_n (T_X12_plan 16 _ _ _ rfl) rfl ?_
        refine g_iconst (T_X12_plan 17 _ _ _ rfl) ⟨by decide, by decide⟩ ?_
        refine g_put (c := 83) (T_X12_plan 18 _ _ _ rfl) fl_X12_166 rfl (Or.inl rfl) ?_
        refine g_bndH H fun h5 H => ?_
        refine g_aload_n (T_X12_plan 19 _ _ _ rfl) rfl ?_
        refine g_iload_n (T_X12_plan 20 _ _ _ rfl) rfl ?_
        refine g_put (c := 83) (T_X12_plan 21 _ _ _ rfl) fl_X12_169 rfl (Or.inl rfl) ?_
        refine g_bndH H fun h6 H => ?_
        refine g_aload_n (T_X12_plan 22 _ _ _ rfl) rfl ?_
        refine g_iconst (T_X12_plan 23 _ _ _ rfl) ⟨by decide, by decide⟩ ?_
        refine g_put (c := 83) (T_X12_plan 24 _ _ _ rfl) fl_X12_278 rfl (Or.inl rfl) ?_
        refine g_bndH H fun h7 H => ?_
        refine g_aload_n (T_X12_plan 25 _ _ _ rfl) rfl ?_
        obtain ⟨y9, h8, hq, H⟩ := bd_some H
        refine g_callVi (M' := M_X12_readsStop) (c := 83) (av := []) (st := []) (T_X12_plan 26 _ _ _ rfl) ml_X12_287 cb_X12_readsStop rfl rfl (Nat.le_of_ble_eq_true rfl) (by omega) (R_X12_readsStop N _ _ hq) ?_
        refine g_istore_n (T_X12_plan 27 _ _ _ rfl) (by decide) ?_
        refine g_weak [true, true, false, true, false] ?_
        refine R_L_X12_plan_49 N   _ _ _ _ _ H
      · replace H := ite_n cc H
        refine g_iconst (T_X12_plan 14 _ _ _ rfl) ⟨by decide, by decide⟩ ?_
        exact g_iret (T_X12_plan 15 _ _ _ rfl) rfl (qi_of H)
def F_X12_placeOf (N : Nat) (x0 : Int) (h : Hp) : Option (Int × Hp) :=
  if x0 = 14 then
    some (0, h)
  else
  some (x0, h)
set_option maxRecDepth 100000 in
set_option maxHeartbeats 4000000 in
theorem R_X12_placeOf (N : Nat) (x0 : Int) (h : Hp) (res : Int × Hp) (H : F_X12_placeOf N x0 h = some res) : Runs M_X12_placeOf 1 [.inl x0] h (Qi res) := by
  refine Runs.of rfl (Nat.le_of_ble_eq_true rfl) ?_
  show Go M_X12_placeOf 1 0 [some (.inl x0)] [] h (Qi res)
  unfold F_X12_placeOf at H
  refine g_iload_n (T_X12_placeOf 0 _ _ _ rfl) rfl ?_
  refine g_bipush (T_X12_placeOf 1 _ _ _ rfl) (by decide) ?_
  refine g_icmp_ne (tgt := 10) (T_X12_placeOf 2 _ _ _ rfl) (by decide) (fun cc => ?_) (fun cc => ?_)
  · replace H := ite_n cc H
    refine g_iload_n (T_X12_placeOf 5 _ _ _ rfl) rfl ?_
    exact g_iret (T_X12_placeOf 6 _ _ _ rfl) rfl (qi_of H)
  · replace H := ite_p cc H
    refine g_iconst (T_X12_placeOf 3 _ _ _ rfl) ⟨by decide, by decide⟩ ?_
    refine g_goto (tgt := 11) (T_X12_placeOf 4 _ _ _ rfl) (by decide) ?_
    exact g_iret (T_X12_placeOf 6 _ _ _ rfl) rfl (qi_of H)
def F_X12_feels (N : Nat) (x1 : Int) (x2 : Int) (x3 : Int) (h : Hp) : Option (Hp) :=
  bnd (hw h 109 (0 : Int).toNat x1) fun h1 =>
  grd (0 ≤ x1 ∧ x1 < 14) <|
  bnd (hw h1 109 (1 : Int).toNat (h1 87 x1.toNat)) fun h2 =>
  grd (0 ≤ x1 ∧ x1 < 14) <|
  bnd (hw h2 109 (2 : Int).toNat (h2 88 x1.toNat)) fun h3 =>
  grd (0 ≤ (w32 (0 + x1)) ∧ (w32 (0 + x1)) < 17) <|
  bnd (hw h3 109 (3 : Int).toNat (h3 84 (w32 (0 + x1)).toNat)) fun h4 =>
  grd (0 ≤ x1 ∧ x1 < 14) <|
  bnd (hw h4 109 (4 : Int).toNat (h4 89 x1.toNat)) fun h5 =>
  bnd (hw h5 109 (5 : Int).toNat x2) fun h6 =>
  bnd (hw h6 109 (6 : Int).toNat (h6 84 (14 : Int).toNat)) fun h7 =>
  bnd (hw h7 109 (7 : Int).toNat x3) fun h8 =>
  some h8
set_option maxRecDepth 100000 in
set_option maxHeartbeats 4000000 in
theorem R_X12_feels (N : Nat) (x1 : Int) (x2 : Int) (x3 : Int) (h : Hp) (res : Hp) (H : F_X12_feels N x1 x2 x3 h = some res) : Runs M_X12_feels 1 [.inr 84, .inl x1, .inl x2, .inl x3] h (Qv res) := by
  refine Runs.of rfl (Nat.le_of_ble_eq_true rfl) ?_
  show Go M_X12_feels 1 0 [some (.inr 84), some (.inl x1), some (.inl x2), some (.inl x3)] [] h (Qv res)
  unfold F_X12_feels at H
  refine g_aload_n (T_X12_feels 0 _ _ _ rfl) rfl ?_
  refine g_getR (c := 83) (r := 110) (T_X12_feels 1 _ _ _ rfl) fl_X12_86 rfl (nR rfl) rfl (by decide) ?_
  refine g_iconst (T_X12_feels 2 _ _ _ rfl) ⟨by decide, by decide⟩ ?_
  refine g_iload_n (T_X12_feels 3 _ _ _ rfl) rfl ?_
  refine g_iast (c := 109) (T_X12_feels 4 _ _ _ rfl) rfl (by decide) ?_
  refine g_bndH H fun h1 H => ?_
  refine g_aload_n (T_X12_feels 5 _ _ _ rfl) rfl ?_
  refine g_getR (c := 83) (r := 110) (T_X12_feels 6 _ _ _ rfl) fl_X12_86 rfl (nR rfl) rfl (by decide) ?_
  refine g_iconst (T_X12_feels 7 _ _ _ rfl) ⟨by decide, by decide⟩ ?_
  refine g_aload_n (T_X12_feels 8 _ _ _ rfl) rfl ?_
  refine g_getR (c := 83) (r := 88) (T_X12_feels 9 _ _ _ rfl) fl_X12_19 rfl (nR rfl) rfl (by decide) ?_
  refine g_iload_n (T_X12_feels 10 _ _ _ rfl) rfl ?_
  obtain ⟨hg, H⟩ := grd_some H
  refine g_iald (c := 87) (T_X12_feels 11 _ _ _ rfl) rfl hg ?_
  refine g_iast (c := 109) (T_X12_feels 12 _ _ _ rfl) rfl (by decide) ?_
  refine g_bndH H fun h2 H => ?_
  refine g_aload_n (T_X12_feels 13 _ _ _ rfl) rfl ?_
  refine g_getR (c := 83) (r := 110) (T_X12_feels 14 _ _ _ rfl) fl_X12_86 rfl (nR rfl) rfl (by decide) ?_
  refine g_iconst (T_X12_feels 15 _ _ _ rfl) ⟨by decide, by decide⟩ ?_
  refine g_aload_n (T_X12_feels 16 _ _ _ rfl) rfl ?_
  refine g_getR (c := 83) (r := 89) (T_X12_feels 17 _ _ _ rfl) fl_X12_22 rfl (nR rfl) rfl (by decide) ?_
  refine g_iload_n (T_X12_feels 18 _ _ _ rfl) rfl ?_
  obtain ⟨hg, H⟩ := grd_some H
  refine g_iald (c := 88) (T_X12_feels 19 _ _ _ rfl) rfl hg ?_
  refine g_iast (c := 109) (T_X12_feels 20 _ _ _ rfl) rfl (by decide) ?_
  refine g_bndH H fun h3 H => ?_
  refine g_aload_n (T_X12_feels 21 _ _ _ rfl) rfl ?_
  refine g_getR (c := 83) (r := 110) (T_X12_feels 22 _ _ _ rfl) fl_X12_86 rfl (nR rfl) rfl (by decide) ?_
  refine g_iconst (T_X12_feels 23 _ _ _ rfl) ⟨by decide, by decide⟩ ?_
  refine g_aload_n (T_X12_feels 24 _ _ _ rfl) rfl ?_
  refine g_getR (c := 83) (r := 85) (T_X12_feels 25 _ _ _ rfl) fl_X12_7 rfl (nR rfl) rfl (by decide) ?_
  refine g_iconst (T_X12_feels 26 _ _ _ rfl) ⟨by decide, by decide⟩ ?_
  refine g_iload_n (T_X12_feels 27 _ _ _ rfl) rfl ?_
  refine g_iadd (T_X12_feels 28 _ _ _ rfl) ?_
  obtain ⟨hg, H⟩ := grd_some H
  refine g_iald (c := 84) (T_X12_feels 29 _ _ _ rfl) rfl hg ?_
  refine g_iast (c := 109) (T_X12_feels 30 _ _ _ rfl) rfl (by decide) ?_
  refine g_bndH H fun h4 H => ?_
  refine g_aload_n (T_X12_feels 31 _ _ _ rfl) rfl ?_
  refine g_getR (c := 83) (r := 110) (T_X12_feels 32 _ _ _ rfl) fl_X12_86 rfl (nR rfl) rfl (by decide) ?_
  refine g_iconst (T_X12_feels 33 _ _ _ rfl) ⟨by decide, by decide⟩ ?_
  refine g_aload_n (T_X12_feels 34 _ _ _ rfl) rfl ?_
  refine g_getR (c := 83) (r := 90) (T_X12_feels 35 _ _ _ rfl) fl_X12_25 rfl (nR rfl) rfl (by decide) ?_
  refine g_iload_n (T_X12_feels 36 _ _ _ rfl) rfl ?_
  obtain ⟨hg, H⟩ := grd_some H
  refine g_iald (c := 89) (T_X12_feels 37 _ _ _ rfl) rfl hg ?_
  refine g_iast (c := 109) (T_X12_feels 38 _ _ _ rfl) rfl (by decide) ?_
  refine g_bndH H fun h5 H => ?_
  refine g_aload_n (T_X12_feels 39 _ _ _ rfl) rfl ?_
  refine g_getR (c := 83) (r := 110) (T_X12_feels 40 _ _ _ rfl) fl_X12_86 rfl (nR rfl) rfl (by decide) ?_
  refine g_iconst (T_X12_feels 41 _ _ _ rfl) ⟨by decide, by decide⟩ ?_
  refine g_iload_n (T_X12_feels 42 _ _ _ rfl) rfl ?_
  refine g_iast (c := 109) (T_X12_feels 43 _ _ _ rfl) rfl (by decide) ?_
  refine g_bndH H fun h6 H => ?_
  refine g_aload_n (T_X12_feels 44 _ _ _ rfl) rfl ?_
  refine g_getR (c := 83) (r := 110) (T_X12_feels 45 _ _ _ rfl) fl_X12_86 rfl (nR rfl) rfl (by decide) ?_
  refine g_bipush (T_X12_feels 46 _ _ _ rfl) (by decide) ?_
  refine g_aload_n (T_X12_feels 47 _ _ _ rfl) rfl ?_
  refine g_getR (c := 83) (r := 85) (T_X12_feels 48 _ _ _ rfl) fl_X12_7 rfl (nR rfl) rfl (by decide) ?_
  refine g_bipush (T_X12_feels 49 _ _ _ rfl) (by decide) ?_
  refine g_iald (c := 84) (T_X12_feels 50 _ _ _ rfl) rfl (by decide) ?_
  refine g_iast (c := 109) (T_X12_feels 51 _ _ _ rfl) rfl (by decide) ?_
  refine g_bndH H fun h7 H => ?_
  refine g_aload_n (T_X12_feels 52 _ _ _ rfl) rfl ?_
  refine g_getR (c := 83) (r := 110) (T_X12_feels 53 _ _ _ rfl) fl_X12_86 rfl (nR rfl) rfl (by decide) ?_
  refine g_bipush (T_X12_feels 54 _ _ _ rfl) (by decide) ?_
  refine g_iload_n (T_X12_feels 55 _ _ _ rfl) rfl ?_
  refine g_iast (c := 109) (T_X12_feels 56 _ _ _ rfl) rfl (by decide) ?_
  refine g_bndH H fun h8 H => ?_
  exact g_vret (T_X12_feels 57 _ _ _ rfl) rfl (qv_of H)
def F_X12_reckon (N : Nat) (x0 : Int) (x1 : Int) (x2 : Int) (h : Hp) : Option (Int × Hp) :=
  if x0 = 2 then
    some ((w32 (x1 + x2)), h)
  else if x0 = 3 then
    some ((w32 (x1 - x2)), h)
  else if x0 = 4 then
    some ((w32 (x1 * x2)), h)
  else if x0 = 5 then
    grd (x2 ≠ 0) <|
    some ((idiv x1 x2), h)
  else if x0 = 6 then
    grd (x2 ≠ 0) <|
    some ((irem x1 x2), h)
  else if x0 = 7 then
    if x2 ≤ x1 then
      some (0, h)
    else
    some (1, h)
  else if x0 = 8 then
    if x1 ≤ x2 then
      some (0, h)
    else
    some (1, h)
  else 
  if x1 = x2 then
    some (1, h)
  else
  some (0, h)
set_option maxRecDepth 100000 in
set_option maxHeartbeats 4000000 in
theorem R_X12_reckon (N : Nat) (x0 : Int) (x1 : Int) (x2 : Int) (h : Hp) (res : Int × Hp) (H : F_X12_reckon N x0 x1 x2 h = some res) : Runs M_X12_reckon 1 [.inl x0, .inl x1, .inl x2] h (Qi res) := by
  refine Runs.of rfl (Nat.le_of_ble_eq_true rfl) ?_
  show Go M_X12_reckon 1 0 [some (.inl x0), some (.inl x1), some (.inl x2)] [] h (Qi res)
  unfold F_X12_reckon at H
  refine g_iload_n (T_X12_reckon 0 _ _ _ rfl) rfl ?_
  by_cases cc0 : x0 = 2
  · replace H := ite_p cc0 H
    refine g_tswIn (tgt := 44) (T_X12_reckon 1 _ _ _ rfl) (by rw [cc0]; decide) (by rw [cc0]; decide) (by first | (rw [cc0]; done) | (rw [cc0]; rfl)) (by decide) ?_
    refine g_iload_n (T_X12_reckon 2 _ _ _ rfl) rfl ?_
    refine g_iload_n (T_X12_reckon 3 _ _ _ rfl) rfl ?_
    refine g_iadd (T_X12_reckon 4 _ _ _ rfl) ?_
    exact g_iret (T_X12_reckon 5 _ _ _ rfl) rfl (qi_of H)
  replace H := ite_n cc0 H
  by_cases cc1 : x0 = 3
  · replace H := ite_p cc1 H
    refine g_tswIn (tgt := 48) (T_X12_reckon 1 _ _ _ rfl) (by rw [cc1]; decide) (by rw [cc1]; decide) (by first | (rw [cc1]; done) | (rw [cc1]; rfl)) (by decide) ?_
    refine g_iload_n (T_X12_reckon 6 _ _ _ rfl) rfl ?_
    refine g_iload_n (T_X12_reckon 7 _ _ _ rfl) rfl ?_
    refine g_isub (T_X12_reckon 8 _ _ _ rfl) ?_
    exact g_iret (T_X12_reckon 9 _ _ _ rfl) rfl (qi_of H)
  replace H := ite_n cc1 H
  by_cases cc2 : x0 = 4
  · replace H := ite_p cc2 H
    refine g_tswIn (tgt := 52) (T_X12_reckon 1 _ _ _ rfl) (by rw [cc2]; decide) (by rw [cc2]; decide) (by first | (rw [cc2]; done) | (rw [cc2]; rfl)) (by decide) ?_
    refine g_iload_n (T_X12_reckon 10 _ _ _ rfl) rfl ?_
    refine g_iload_n (T_X12_reckon 11 _ _ _ rfl) rfl ?_
    refine g_imul (T_X12_reckon 12 _ _ _ rfl) ?_
    exact g_iret (T_X12_reckon 13 _ _ _ rfl) rfl (qi_of H)
  replace H := ite_n cc2 H
  by_cases cc3 : x0 = 5
  · replace H := ite_p cc3 H
    refine g_tswIn (tgt := 56) (T_X12_reckon 1 _ _ _ rfl) (by rw [cc3]; decide) (by rw [cc3]; decide) (by first | (rw [cc3]; done) | (rw [cc3]; rfl)) (by decide) ?_
    refine g_iload_n (T_X12_reckon 14 _ _ _ rfl) rfl ?_
    refine g_iload_n (T_X12_reckon 15 _ _ _ rfl) rfl ?_
    obtain ⟨hg, H⟩ := grd_some H
    refine g_idiv (T_X12_reckon 16 _ _ _ rfl) hg ?_
    exact g_iret (T_X12_reckon 17 _ _ _ rfl) rfl (qi_of H)
  replace H := ite_n cc3 H
  by_cases cc4 : x0 = 6
  · replace H := ite_p cc4 H
    refine g_tswIn (tgt := 60) (T_X12_reckon 1 _ _ _ rfl) (by rw [cc4]; decide) (by rw [cc4]; decide) (by first | (rw [cc4]; done) | (rw [cc4]; rfl)) (by decide) ?_
    refine g_iload_n (T_X12_reckon 18 _ _ _ rfl) rfl ?_
    refine g_iload_n (T_X12_reckon 19 _ _ _ rfl) rfl ?_
    obtain ⟨hg, H⟩ := grd_some H
    refine g_irem (T_X12_reckon 20 _ _ _ rfl) hg ?_
    exact g_iret (T_X12_reckon 21 _ _ _ rfl) rfl (qi_of H)
  replace H := ite_n cc4 H
  by_cases cc5 : x0 = 7
  · replace H := ite_p cc5 H
    refine g_tswIn (tgt := 64) (T_X12_reckon 1 _ _ _ rfl) (by rw [cc5]; decide) (by rw [cc5]; decide) (by first | (rw [cc5]; done) | (rw [cc5]; rfl)) (by decide) ?_
    refine g_iload_n (T_X12_reckon 22 _ _ _ rfl) rfl ?_
    refine g_iload_n (T_X12_reckon 23 _ _ _ rfl) rfl ?_
    refine g_icmp_ge (tgt := 73) (T_X12_reckon 24 _ _ _ rfl) (by decide) (fun cc => ?_) (fun cc => ?_)
    · replace H := ite_p cc H
      refine g_iconst (T_X12_reckon 27 _ _ _ rfl) ⟨by decide, by decide⟩ ?_
      exact g_iret (T_X12_reckon 28 _ _ _ rfl) rfl (qi_of H)
    · replace H := ite_n cc H
      refine g_iconst (T_X12_reckon 25 _ _ _ rfl) ⟨by decide, by decide⟩ ?_
      refine g_goto (tgt := 74) (T_X12_reckon 26 _ _ _ rfl) (by decide) ?_
      exact g_iret (T_X12_reckon 28 _ _ _ rfl) rfl (qi_of H)
  replace H := ite_n cc5 H
  by_cases cc6 : x0 = 8
  · replace H := ite_p cc6 H
    refine g_tswIn (tgt := 75) (T_X12_reckon 1 _ _ _ rfl) (by rw [cc6]; decide) (by rw [cc6]; decide) (by first | (rw [cc6]; done) | (rw [cc6]; rfl)) (by decide) ?_
    refine g_iload_n (T_X12_reckon 29 _ _ _ rfl) rfl ?_
    refine g_iload_n (T_X12_reckon 30 _ _ _ rfl) rfl ?_
    refine g_icmp_le (tgt := 84) (T_X12_reckon 31 _ _ _ rfl) (by decide) (fun cc => ?_) (fun cc => ?_)
    · replace H := ite_p cc H
      refine g_iconst (T_X12_reckon 34 _ _ _ rfl) ⟨by decide, by decide⟩ ?_
      exact g_iret (T_X12_reckon 35 _ _ _ rfl) rfl (qi_of H)
    · replace H := ite_n cc H
      refine g_iconst (T_X12_reckon 32 _ _ _ rfl) ⟨by decide, by decide⟩ ?_
      refine g_goto (tgt := 85) (T_X12_reckon 33 _ _ _ rfl) (by decide) ?_
      exact g_iret (T_X12_reckon 35 _ _ _ rfl) rfl (qi_of H)
  replace H := ite_n cc6 H
  refine g_tswOut (tgt := 86) (T_X12_reckon 1 _ _ _ rfl) (by omega) (by decide) ?_
  refine g_iload_n (T_X12_reckon 36 _ _ _ rfl) rfl ?_
  refine g_iload_n (T_X12_reckon 37 _ _ _ rfl) rfl ?_
  refine g_icmp_ne (tgt := 95) (T_X12_reckon 38 _ _ _ rfl) (by decide) (fun cc => ?_) (fun cc => ?_)
  · replace H := ite_n cc H
    refine g_iconst (T_X12_reckon 41 _ _ _ rfl) ⟨by decide, by decide⟩ ?_
    exact g_iret (T_X12_reckon 42 _ _ _ rfl) rfl (qi_of H)
  · replace H := ite_p cc H
    refine g_iconst (T_X12_reckon 39 _ _ _ rfl) ⟨by decide, by decide⟩ ?_
    refine g_goto (tgt := 96) (T_X12_reckon 40 _ _ _ rfl) (by decide) ?_
    exact g_iret (T_X12_reckon 42 _ _ _ rfl) rfl (qi_of H)
def J_X12_comesTo_85 (N : Nat) (k16 : Int → Int → Int → Int → Hp → Option (Int × Hp)) (x2 : Int) (x3 : Int) (x4 : Int) (x5 : Int) (s1 : Int) (s2 : Int) (h : Hp) : Option (Int × Hp) :=
  grd (0 ≤ s1 ∧ s1 < 260) <|
  bnd (hw h 108 s1.toNat s2) fun h1 =>
  bnd ((w32 (x3 + 1))) fun y2 =>
  k16 x2 y2 x4 x5 h1
set_option maxRecDepth 100000 in
set_option maxHeartbeats 4000000 in
theorem R_J_X12_comesTo_85 (N : Nat) (k16 : Int → Int → Int → Int → Hp → Option (Int × Hp)) (hk16 : ∀ (x2 : Int) (x3 : Int) (x4 : Int) (x5 : Int) (h : Hp) (res : Int × Hp), k16 x2 x3 x4 x5 h = some res → Go M_X12_comesTo 2 16 [some (.inr 84), none, some (.inl x2), some (.inl x3), some (.inl x4), some (.inl x5), none, none] [] h (Qi res)) (x2 : Int) (x3 : Int) (x4 : Int) (x5 : Int) (s1 : Int) (s2 : Int) (h : Hp) (res : Int × Hp) (H : J_X12_comesTo_85 N k16 x2 x3 x4 x5 s1 s2 h = some res) : Go M_X12_comesTo 2 85 [some (.inr 84), none, some (.inl x2), some (.inl x3), some (.inl x4), some (.inl x5), none, none] [.inl s2, .inl s1, .inr 109] h (Qi res) := by
  unfold J_X12_comesTo_85 at H
  obtain ⟨hg, H⟩ := grd_some H
  refine g_iast (c := 108) (T_X12_comesTo 47 _ _ _ rfl) rfl hg ?_
  refine g_bndH H fun h1 H => ?_
  refine g_iload_n (T_X12_comesTo 48 _ _ _ rfl) rfl ?_
  refine g_iconst (T_X12_comesTo 49 _ _ _ rfl) ⟨by decide, by decide⟩ ?_
  refine g_iadd (T_X12_comesTo 50 _ _ _ rfl) ?_
  refine g_bndI H fun y2 H => ?_
  refine g_istore_n (T_X12_comesTo 51 _ _ _ rfl) (by decide) ?_
  refine g_goto (tgt := 230) (T_X12_comesTo 52 _ _ _ rfl) (by decide) ?_
  refine g_goto (tgt := 16) (T_X12_comesTo 135 _ _ _ rfl) (by decide) ?_
  refine g_weak [true, false, true, true, true, true, false, false] ?_
  exact hk16 _ _ _ _ _ _ H
def J_X12_comesTo_63 (N : Nat) (k16 : Int → Int → Int → Int → Hp → Option (Int × Hp)) (x2 : Int) (x3 : Int) (x4 : Int) (x5 : Int) (x6 : Int) (x7 : Int) (h : Hp) : Option (Int × Hp) :=
  if x6 = 0 then
    J_X12_comesTo_85 N k16 x2 x3 x4 x5 x3 x7 h
  else
  grd (0 ≤ x7 ∧ x7 < 8) <|
  J_X12_comesTo_85 N k16 x2 x3 x4 x5 x3 (h 109 x7.toNat) h
set_option maxRecDepth 100000 in
set_option maxHeartbeats 4000000 in
theorem R_J_X12_comesTo_63 (N : Nat) (k16 : Int → Int → Int → Int → Hp → Option (Int × Hp)) (hk16 : ∀ (x2 : Int) (x3 : Int) (x4 : Int) (x5 : Int) (h : Hp) (res : Int × Hp), k16 x2 x3 x4 x5 h = some res → Go M_X12_comesTo 2 16 [some (.inr 84), none, some (.inl x2), some (.inl x3), some (.inl x4), some (.inl x5), none, none] [] h (Qi res)) (x2 : Int) (x3 : Int) (x4 : Int) (x5 : Int) (x6 : Int) (x7 : Int) (h : Hp) (res : Int × Hp) (H : J_X12_comesTo_63 N k16 x2 x3 x4 x5 x6 x7 h = some res) : Go M_X12_comesTo 2 63 [some (.inr 84), none, some (.inl x2), some (.inl x3), some (.inl x4), some (.inl x5), some (.inl x6), some (.inl x7)] [] h (Qi res) := by
  unfold J_X12_comesTo_63 at H
  refine g_aload_n (T_X12_comesTo 36 _ _ _ rfl) rfl ?_
  refine g_getR (c := 83) (r := 109) (T_X12_comesTo 37 _ _ _ rfl) fl_X12_83 rfl (nR rfl) rfl (by decide) ?_
  refine g_iload_n (T_X12_comesTo 38 _ _ _ rfl) rfl ?_
  refine g_iload (T_X12_comesTo 39 _ _ _ rfl) rfl ?_
  refine g_if_ne (tgt := 78) (T_X12_comesTo 40 _ _ _ rfl) (by decide) (fun cc => ?_) (fun cc => ?_)
  · replace H := ite_n cc H
    refine g_aload_n (T_X12_comesTo 43 _ _ _ rfl) rfl ?_
    refine g_getR (c := 83) (r := 110) (T_X12_comesTo 44 _ _ _ rfl) fl_X12_86 rfl (nR rfl) rfl (by decide) ?_
    refine g_iload (T_X12_comesTo 45 _ _ _ rfl) rfl ?_
    obtain ⟨hg, H⟩ := grd_some H
    refine g_iald (c := 109) (T_X12_comesTo 46 _ _ _ rfl) rfl hg ?_
    refine g_weak [true, false, true, true, true, true, false, false] ?_
    exact R_J_X12_comesTo_85 N k16 hk16 _ _ _ _ _ _ _ _ H
  · replace H := ite_p cc H
    refine g_iload (T_X12_comesTo 41 _ _ _ rfl) rfl ?_
    refine g_goto (tgt := 85) (T_X12_comesTo 42 _ _ _ rfl) (by decide) ?_
    refine g_weak [true, false, true, true, true, true, false, false] ?_
    exact R_J_X12_comesTo_85 N k16 hk16 _ _ _ _ _ _ _ _ H
def J_X12_comesTo_155 (N : Nat) (k16 : Int → Int → Int → Int → Hp → Option (Int × Hp)) (x2 : Int) (x3 : Int) (x4 : Int) (x5 : Int) (x7 : Int) (s0 : Int) (s1 : Int) (h : Hp) : Option (Int × Hp) :=
  if s0 = s1 then
    bnd ((w32 (x4 + x7))) fun y2 =>
    k16 x2 x3 x4 y2 h
  else
  bnd ((w32 (x3 - 1))) fun y1 =>
  k16 x2 y1 x4 x5 h
set_option maxRecDepth 100000 in
set_option maxHeartbeats 4000000 in
theorem R_J_X12_comesTo_155 (N : Nat) (k16 : Int → Int → Int → Int → Hp → Option (Int × Hp)) (hk16 : ∀ (x2 : Int) (x3 : Int) (x4 : Int) (x5 : Int) (h : Hp) (res : Int × Hp), k16 x2 x3 x4 x5 h = some res → Go M_X12_comesTo 2 16 [some (.inr 84), none, some (.inl x2), some (.inl x3), some (.inl x4), some (.inl x5), none, none] [] h (Qi res)) (x2 : Int) (x3 : Int) (x4 : Int) (x5 : Int) (x7 : Int) (s0 : Int) (s1 : Int) (h : Hp) (res : Int × Hp) (H : J_X12_comesTo_155 N k16 x2 x3 x4 x5 x7 s0 s1 h = some res) : Go M_X12_comesTo 2 155 [some (.inr 84), none, some (.inl x2), some (.inl x3), some (.inl x4), some (.inl x5), none, some (.inl x7)] [.inl s1, .inl s0] h (Qi res) := by
  unfold J_X12_comesTo_155 at H
  refine g_icmp_ne (tgt := 168) (T_X12_comesTo 89 _ _ _ rfl) (by decide) (fun cc => ?_) (fun cc => ?_)
  · replace H := ite_n cc H
    refine g_iload_n (T_X12_comesTo 95 _ _ _ rfl) rfl ?_
    refine g_iconst (T_X12_comesTo 96 _ _ _ rfl) ⟨by decide, by decide⟩ ?_
    refine g_isub (T_X12_comesTo 97 _ _ _ rfl) ?_
    refine g_bndI H fun y1 H => ?_
    refine g_istore_n (T_X12_comesTo 98 _ _ _ rfl) (by decide) ?_
    refine g_goto (tgt := 230) (T_X12_comesTo 99 _ _ _ rfl) (by decide) ?_
    refine g_goto (tgt := 16) (T_X12_comesTo 135 _ _ _ rfl) (by decide) ?_
    refine g_weak [true, false, true, true, true, true, false, false] ?_
    exact hk16 _ _ _ _ _ _ H
  · replace H := ite_p cc H
    refine g_iload (T_X12_comesTo 90 _ _ _ rfl) rfl ?_
    refine g_iload (T_X12_comesTo 91 _ _ _ rfl) rfl ?_
    refine g_iadd (T_X12_comesTo 92 _ _ _ rfl) ?_
    refine g_bndI H fun y2 H => ?_
    refine g_istore (T_X12_comesTo 93 _ _ _ rfl) (by decide) ?_
    refine g_goto (tgt := 230) (T_X12_comesTo 94 _ _ _ rfl) (by decide) ?_
    refine g_goto (tgt := 16) (T_X12_comesTo 135 _ _ _ rfl) (by decide) ?_
    refine g_weak [true, false, true, true, true, true, false, false] ?_
    exact hk16 _ _ _ _ _ _ H
def J_X12_comesTo_135 (N : Nat) (k16 : Int → Int → Int → Int → Hp → Option (Int × Hp)) (x2 : Int) (x3 : Int) (x4 : Int) (x5 : Int) (x6 : Int) (x7 : Int) (h : Hp) : Option (Int × Hp) :=
  grd (0 ≤ (w32 (x3 - 1)) ∧ (w32 (x3 - 1)) < 260) <|
  if x6 = 12 then
    J_X12_comesTo_155 N k16 x2 x3 x4 x5 x7 (h 108 (w32 (x3 - 1)).toNat) 1 h
  else
  J_X12_comesTo_155 N k16 x2 x3 x4 x5 x7 (h 108 (w32 (x3 - 1)).toNat) 0 h
set_option maxRecDepth 100000 in
set_option maxHeartbeats 4000000 in
theorem R_J_X12_comesTo_135 (N : Nat) (k16 : Int → Int → Int → Int → Hp → Option (Int × Hp)) (hk16 : ∀ (x2 : Int) (x3 : Int) (x4 : Int) (x5 : Int) (h : Hp) (res : Int × Hp), k16 x2 x3 x4 x5 h = some res → Go M_X12_comesTo 2 16 [some (.inr 84), none, some (.inl x2), some (.inl x3), some (.inl x4), some (.inl x5), none, none] [] h (Qi res)) (x2 : Int) (x3 : Int) (x4 : Int) (x5 : Int) (x6 : Int) (x7 : Int) (h : Hp) (res : Int × Hp) (H : J_X12_comesTo_135 N k16 x2 x3 x4 x5 x6 x7 h = some res) : Go M_X12_comesTo 2 135 [some (.inr 84), none, some (.inl x2), some (.inl x3), some (.inl x4), some (.inl x5), some (.inl x6), some (.inl x7)] [] h (Qi res) := by
  unfold J_X12_comesTo_135 at H
  refine g_aload_n (T_X12_comesTo 77 _ _ _ rfl) rfl ?_
  refine g_getR (c := 83) (r := 109) (T_X12_comesTo 78 _ _ _ rfl) fl_X12_83 rfl (nR rfl) rfl (by decide) ?_
  refine g_iload_n (T_X12_comesTo 79 _ _ _ rfl) rfl ?_
  refine g_iconst (T_X12_comesTo 80 _ _ _ rfl) ⟨by decide, by decide⟩ ?_
  refine g_isub (T_X12_comesTo 81 _ _ _ rfl) ?_
  obtain ⟨hg, H⟩ := grd_some H
  refine g_iald (c := 108) (T_X12_comesTo 82 _ _ _ rfl) rfl hg ?_
  refine g_iload (T_X12_comesTo 83 _ _ _ rfl) rfl ?_
  refine g_bipush (T_X12_comesTo 84 _ _ _ rfl) (by decide) ?_
  refine g_icmp_ne (tgt := 154) (T_X12_comesTo 85 _ _ _ rfl) (by decide) (fun cc => ?_) (fun cc => ?_)
  · replace H := ite_n cc H
    refine g_iconst (T_X12_comesTo 88 _ _ _ rfl) ⟨by decide, by decide⟩ ?_
    refine g_weak [true, false, true, true, true, true, false, true] ?_
    exact R_J_X12_comesTo_155 N k16 hk16 _ _ _ _ _ _ _ _ _ H
  · replace H := ite_p cc H
    refine g_iconst (T_X12_comesTo 86 _ _ _ rfl) ⟨by decide, by decide⟩ ?_
    refine g_goto (tgt := 155) (T_X12_comesTo 87 _ _ _ rfl) (by decide) ?_
    refine g_weak [true, false, true, true, true, true, false, true] ?_
    exact R_J_X12_comesTo_155 N k16 hk16 _ _ _ _ _ _ _ _ _ H
def J_X12_comesTo_203 (N : Nat) (k16 : Int → Int → Int → Int → Hp → Option (Int × Hp)) (x2 : Int) (x3 : Int) (x4 : Int) (x5 : Int) (x6 : Int) (h : Hp) : Option (Int × Hp) :=
  grd (0 ≤ (w32 (x3 - 1)) ∧ (w32 (x3 - 1)) < 260) <|
  grd (0 ≤ x3 ∧ x3 < 260) <|
  bd (F_X12_reckon N x6 (h 108 (w32 (x3 - 1)).toNat) (h 108 x3.toNat) h) fun y2 h1 =>
  grd (0 ≤ (w32 (x3 - 1)) ∧ (w32 (x3 - 1)) < 260) <|
  bnd (hw h1 108 (w32 (x3 - 1)).toNat y2) fun h3 =>
  k16 x2 x3 x4 x5 h3
set_option maxRecDepth 100000 in
set_option maxHeartbeats 4000000 in
theorem R_J_X12_comesTo_203 (N : Nat) (k16 : Int → Int → Int → Int → Hp → Option (Int × Hp)) (hk16 : ∀ (x2 : Int) (x3 : Int) (x4 : Int) (x5 : Int) (h : Hp) (res : Int × Hp), k16 x2 x3 x4 x5 h = some res → Go M_X12_comesTo 2 16 [some (.inr 84), none, some (.inl x2), some (.inl x3), some (.inl x4), some (.inl x5), none, none] [] h (Qi res)) (x2 : Int) (x3 : Int) (x4 : Int) (x5 : Int) (x6 : Int) (h : Hp) (res : Int × Hp) (H : J_X12_comesTo_203 N k16 x2 x3 x4 x5 x6 h = some res) : Go M_X12_comesTo 2 203 [some (.inr 84), none, some (.inl x2), some (.inl x3), some (.inl x4), some (.inl x5), some (.inl x6), none] [] h (Qi res) := by
  unfold J_X12_comesTo_203 at H
  refine g_aload_n (T_X12_comesTo 117 _ _ _ rfl) rfl ?_
  refine g_getR (c := 83) (r := 109) (T_X12_comesTo 118 _ _ _ rfl) fl_X12_83 rfl (nR rfl) rfl (by decide) ?_
  refine g_iload_n (T_X12_comesTo 119 _ _ _ rfl) rfl ?_
  refine g_iconst (T_X12_comesTo 120 _ _ _ rfl) ⟨by decide, by decide⟩ ?_
  refine g_isub (T_X12_comesTo 121 _ _ _ rfl) ?_
  refine g_iload (T_X12_comesTo 122 _ _ _ rfl) rfl ?_
  refine g_aload_n (T_X12_comesTo 123 _ _ _ rfl) rfl ?_
  refine g_getR (c := 83) (r := 109) (T_X12_comesTo 124 _ _ _ rfl) fl_X12_83 rfl (nR rfl) rfl (by decide) ?_
  refine g_iload_n (T_X12_comesTo 125 _ _ _ rfl) rfl ?_
  refine g_iconst (T_X12_comesTo 126 _ _ _ rfl) ⟨by decide, by decide⟩ ?_
  refine g_isub (T_X12_comesTo 127 _ _ _ rfl) ?_
  obtain ⟨hg, H⟩ := grd_some H
  refine g_iald (c := 108) (T_X12_comesTo 128 _ _ _ rfl) rfl hg ?_
  refine g_aload_n (T_X12_comesTo 129 _ _ _ rfl) rfl ?_
  refine g_getR (c := 83) (r := 109) (T_X12_comesTo 130 _ _ _ rfl) fl_X12_83 rfl (nR rfl) rfl (by decide) ?_
  refine g_iload_n (T_X12_comesTo 131 _ _ _ rfl) rfl ?_
  obtain ⟨hg, H⟩ := grd_some H
  refine g_iald (c := 108) (T_X12_comesTo 132 _ _ _ rfl) rfl hg ?_
  obtain ⟨y2, h1, hq, H⟩ := bd_some H
  refine g_callSi (M' := M_X12_reckon) (av := [.inl x6, .inl (h 108 (w32 (x3 - 1)).toNat), .inl (h 108 x3.toNat)]) (st := [.inl (w32 (x3 - 1)), .inr 109]) (T_X12_comesTo 133 _ _ _ rfl) ml_X12_261 cb_X12_reckon rfl (Nat.le_of_ble_eq_true rfl) (by omega) (R_X12_reckon N _ _ _ _ _ hq) ?_
  obtain ⟨hg, H⟩ := grd_some H
  refine g_iast (c := 108) (T_X12_comesTo 134 _ _ _ rfl) rfl hg ?_
  refine g_bndH H fun h3 H => ?_
  refine g_goto (tgt := 16) (T_X12_comesTo 135 _ _ _ rfl) (by decide) ?_
  refine g_weak [true, false, true, true, true, true, false, false] ?_
  exact hk16 _ _ _ _ _ _ H
def J_X12_comesTo_192 (N : Nat) (k16 : Int → Int → Int → Int → Hp → Option (Int × Hp)) (x2 : Int) (x3 : Int) (x4 : Int) (x5 : Int) (x6 : Int) (h : Hp) : Option (Int × Hp) :=
  grd (0 ≤ x3 ∧ x3 < 260) <|
  if (h 108 x3.toNat) = 0 then
    some (0, h)
  else
  J_X12_comesTo_203 N k16 x2 x3 x4 x5 x6 h
set_option maxRecDepth 100000 in
set_option maxHeartbeats 4000000 in
theorem R_J_X12_comesTo_192 (N : Nat) (k16 : Int → Int → Int → Int → Hp → Option (Int × Hp)) (hk16 : ∀ (x2 : Int) (x3 : Int) (x4 : Int) (x5 : Int) (h : Hp) (res : Int × Hp), k16 x2 x3 x4 x5 h = some res → Go M_X12_comesTo 2 16 [some (.inr 84), none, some (.inl x2), some (.inl x3), some (.inl x4), some (.inl x5), none, none] [] h (Qi res)) (x2 : Int) (x3 : Int) (x4 : Int) (x5 : Int) (x6 : Int) (h : Hp) (res : Int × Hp) (H : J_X12_comesTo_192 N k16 x2 x3 x4 x5 x6 h = some res) : Go M_X12_comesTo 2 192 [some (.inr 84), none, some (.inl x2), some (.inl x3), some (.inl x4), some (.inl x5), some (.inl x6), none] [] h (Qi res) := by
  unfold J_X12_comesTo_192 at H
  refine g_aload_n (T_X12_comesTo 110 _ _ _ rfl) rfl ?_
  refine g_getR (c := 83) (r := 109) (T_X12_comesTo 111 _ _ _ rfl) fl_X12_83 rfl (nR rfl) rfl (by decide) ?_
  refine g_iload_n (T_X12_comesTo 112 _ _ _ rfl) rfl ?_
  obtain ⟨hg, H⟩ := grd_some H
  refine g_iald (c := 108) (T_X12_comesTo 113 _ _ _ rfl) rfl hg ?_
  refine g_if_ne (tgt := 203) (T_X12_comesTo 114 _ _ _ rfl) (by decide) (fun cc => ?_) (fun cc => ?_)
  · replace H := ite_n cc H
    refine g_weak [true, false, true, true, true, true, true, false] ?_
    exact R_J_X12_comesTo_203 N k16 hk16 _ _ _ _ _ _ _ H
  · replace H := ite_p cc H
    refine g_iconst (T_X12_comesTo 115 _ _ _ rfl) ⟨by decide, by decide⟩ ?_
    exact g_iret (T_X12_comesTo 116 _ _ _ rfl) rfl (qi_of H)
def L_X12_comesTo_16 (N : Nat) : Nat → Int → Int → Int → Int → Hp → Option (Int × Hp)
  | 0, _, _, _, _, _ => none
  | n + 1, x2, x3, x4, x5, h =>
    if x2 ≤ x5 then
      some ((h 108 (0 : Int).toNat), h)
    else
    grd (0 ≤ x5 ∧ x5 < 260) <|
    bnd ((idiv (h 103 x5.toNat) 1048576)) fun y1 =>
    grd (0 ≤ x5 ∧ x5 < 260) <|
    bnd ((irem (h 103 x5.toNat) 1048576)) fun y2 =>
    bnd ((w32 (x5 + 1))) fun y3 =>
    if y1 = 0 then
      J_X12_comesTo_63 N (L_X12_comesTo_16 N n) x2 x3 x4 y3 y1 y2 h
    else
    if y1 = 1 then
      J_X12_comesTo_63 N (L_X12_comesTo_16 N n) x2 x3 x4 y3 y1 y2 h
    else
    if y1 = 10 then
      grd (0 ≤ (w32 (x3 - 1)) ∧ (w32 (x3 - 1)) < 260) <|
      grd (0 ≤ (w32 (x3 - 1)) ∧ (w32 (x3 - 1)) < 260) <|
      bnd (hw h 108 (w32 (x3 - 1)).toNat (w32 (1 - (h 108 (w32 (x3 - 1)).toNat)))) fun h5 =>
      (L_X12_comesTo_16 N n) x2 x3 x4 y3 h5
    else
    if y1 = 11 then
      J_X12_comesTo_135 N (L_X12_comesTo_16 N n) x2 x3 x4 y3 y1 y2 h
    else
    if y1 = 12 then
      J_X12_comesTo_135 N (L_X12_comesTo_16 N n) x2 x3 x4 y3 y1 y2 h
    else
    bnd ((w32 (x3 - 1))) fun y4 =>
    if y1 = 5 then
      J_X12_comesTo_192 N (L_X12_comesTo_16 N n) x2 y4 x4 y3 y1 h
    else
    if y1 = 6 then
      J_X12_comesTo_192 N (L_X12_comesTo_16 N n) x2 y4 x4 y3 y1 h
    else
    J_X12_comesTo_203 N (L_X12_comesTo_16 N n) x2 y4 x4 y3 y1 h
set_option maxRecDepth 100000 in
set_option maxHeartbeats 4000000 in
theorem R_L_X12_comesTo_16 (N : Nat) : ∀ (n : Nat) (x2 : Int) (x3 : Int) (x4 : Int) (x5 : Int) (h : Hp) (res : Int × Hp), L_X12_comesTo_16 N n x2 x3 x4 x5 h = some res → Go M_X12_comesTo 2 16 [some (.inr 84), none, some (.inl x2), some (.inl x3), some (.inl x4), some (.inl x5), none, none] [] h (Qi res)
  | 0, _, _, _, _, _, _, H => by cases H
  | n + 1, x2, x3, x4, x5, h, res, H => by
    have ih := R_L_X12_comesTo_16 N n
    simp only [L_X12_comesTo_16] at H
    refine g_iload (T_X12_comesTo 10 _ _ _ rfl) rfl ?_
    refine g_iload_n (T_X12_comesTo 11 _ _ _ rfl) rfl ?_
    refine g_icmp_ge (tgt := 233) (T_X12_comesTo 12 _ _ _ rfl) (by decide) (fun cc => ?_) (fun cc => ?_)
    · replace H := ite_p cc H
      refine g_aload_n (T_X12_comesTo 136 _ _ _ rfl) rfl ?_
      refine g_getR (c := 83) (r := 109) (T_X12_comesTo 137 _ _ _ rfl) fl_X12_83 rfl (nR rfl) rfl (by decide) ?_
      refine g_iconst (T_X12_comesTo 138 _ _ _ rfl) ⟨by decide, by decide⟩ ?_
      refine g_iald (c := 108) (T_X12_comesTo 139 _ _ _ rfl) rfl (by decide) ?_
      exact g_iret (T_X12_comesTo 140 _ _ _ rfl) rfl (qi_of H)
    · replace H := ite_n cc H
      refine g_aload_n (T_X12_comesTo 13 _ _ _ rfl) rfl ?_
      refine g_getR (c := 83) (r := 104) (T_X12_comesTo 14 _ _ _ rfl) fl_X12_68 rfl (nR rfl) rfl (by decide) ?_
      refine g_iload (T_X12_comesTo 15 _ _ _ rfl) rfl ?_
      obtain ⟨hg, H⟩ := grd_some H
      refine g_iald (c := 103) (T_X12_comesTo 16 _ _ _ rfl) rfl hg ?_
      refine g_ldc (T_X12_comesTo 17 _ _ _ rfl) kc_X12_192 ⟨by decide, by decide⟩ ?_
      refine g_idiv (T_X12_comesTo 18 _ _ _ rfl) (by decide) ?_
      refine g_bndI H fun y1 H => ?_
      refine g_istore (T_X12_comesTo 19 _ _ _ rfl) (by decide) ?_
      refine g_aload_n (T_X12_comesTo 20 _ _ _ rfl) rfl ?_
      refine g_getR (c := 83) (r := 104) (T_X12_comesTo 21 _ _ _ rfl) fl_X12_68 rfl (nR rfl) rfl (by decide) ?_
      refine g_iload (T_X12_comesTo 22 _ _ _ rfl) rfl ?_
      obtain ⟨hg, H⟩ := grd_some H
      refine g_iald (c := 103) (T_X12_comesTo 23 _ _ _ rfl) rfl hg ?_
      refine g_ldc (T_X12_comesTo 24 _ _ _ rfl) kc_X12_192 ⟨by decide, by decide⟩ ?_
      refine g_irem (T_X12_comesTo 25 _ _ _ rfl) (by decide) ?_
      refine g_bndI H fun y2 H => ?_
      refine g_istore (T_X12_comesTo 26 _ _ _ rfl) (by decide) ?_
      refine g_iload (T_X12_comesTo 27 _ _ _ rfl) rfl ?_
      refine g_iconst (T_X12_comesTo 28 _ _ _ rfl) ⟨by decide, by decide⟩ ?_
      refine g_iadd (T_X12_comesTo 29 _ _ _ rfl) ?_
      refine g_bndI H fun y3 H => ?_
      refine g_istore (T_X12_comesTo 30 _ _ _ rfl) (by decide) ?_
      refine g_iload (T_X12_comesTo 31 _ _ _ rfl) rfl ?_
      refine g_if_eq (tgt := 63) (T_X12_comesTo 32 _ _ _ rfl) (by decide) (fun cc => ?_) (fun cc => ?_)
      · replace H := ite_p cc H
        refine g_weak [true, false, true, true, true, true, true, true] ?_
        exact R_J_X12_comesTo_63 N (L_X12_comesTo_16 N n) ih _ _ _ _ _ _ _ _ H
      · replace H := ite_n cc H
        refine g_iload (T_X12_comesTo 33 _ _ _ rfl) rfl ?_
        refine g_iconst (T_X12_comesTo 34 _ _ _ rfl) ⟨by decide, by decide⟩ ?_
        refine g_icmp_ne (tgt := 93) (T_X12_comesTo 35 _ _ _ rfl) (by decide) (fun cc => ?_) (fun cc => ?_)
        · replace H := ite_n cc H
          refine g_iload (T_X12_comesTo 53 _ _ _ rfl) rfl ?_
          refine g_bipush (T_X12_comesTo 54 _ _ _ rfl) (by decide) ?_
          refine g_icmp_ne (tgt := 121) (T_X12_comesTo 55 _ _ _ rfl) (by decide) (fun cc => ?_) (fun cc => ?_)
          · replace H := ite_n cc H
            refine g_iload (T_X12_comesTo 71 _ _ _ rfl) rfl ?_
            refine g_bipush (T_X12_comesTo 72 _ _ _ rfl) (by decide) ?_
            refine g_icmp_eq (tgt := 135) (T_X12_comesTo 73 _ _ _ rfl) (by decide) (fun cc => ?_) (fun cc => ?_)
            · replace H := ite_p cc H
              refine g_weak [true, false, true, true, true, true, true, true] ?_
              exact R_J_X12_comesTo_135 N (L_X12_comesTo_16 N n) ih _ _ _ _ _ _ _ _ H
            · replace H := ite_n cc H
              refine g_iload (T_X12_comesTo 74 _ _ _ rfl) rfl ?_
              refine g_bipush (T_X12_comesTo 75 _ _ _ rfl) (by decide) ?_
              refine g_icmp_ne (tgt := 175) (T_X12_comesTo 76 _ _ _ rfl) (by decide) (fun cc => ?_) (fun cc => ?_)
              · replace H := ite_n cc H
                refine g_iload_n (T_X12_comesTo 100 _ _ _ rfl) rfl ?_
                refine g_iconst (T_X12_comesTo 101 _ _ _ rfl) ⟨by decide, by decide⟩ ?_
                refine g_isub (T_X12_comesTo 102 _ _ _ rfl) ?_
                refine g_bndI H fun y4 H => ?_
                refine g_istore_n (T_X12_comesTo 103 _ _ _ rfl) (by decide) ?_
                refine g_iload (T_X12_comesTo 104 _ _ _ rfl) rfl ?_
                refine g_iconst (T_X12_comesTo 105 _ _ _ rfl) ⟨by decide, by decide⟩ ?_
                refine g_icmp_eq (tgt := 192) (T_X12_comesTo 106 _ _ _ rfl) (by decide) (fun cc => ?_) (fun cc => ?_)
                · replace H := ite_p cc H
                  refine g_weak [true, false, true, true, true, true, true, false] ?_
                  exact R_J_X12_comesTo_192 N (L_X12_comesTo_16 N n) ih _ _ _ _ _ _ _ H
                · replace H := ite_n cc H
                  refine g_iload (T_X12_comesTo 107 _ _ _ rfl) rfl ?_
                  refine g_bipush (T_X12_comesTo 108 _ _ _ rfl) (by decide) ?_
                  refine g_icmp_ne (tgt := 203) (T_X12_comesTo 109 _ _ _ rfl) (by decide) (fun cc => ?_) (fun cc => ?_)
                  · replace H := ite_n cc H
                    refine g_weak [true, false, true, true, true, true, true, false] ?_
                    exact R_J_X12_comesTo_203 N (L_X12_comesTo_16 N n) ih _ _ _ _ _ _ _ H
                  · replace H := ite_p cc H
                    refine g_weak [true, false, true, true, true, true, true, false] ?_
                    exact R_J_X12_comesTo_192 N (L_X12_comesTo_16 N n) ih _ _ _ _ _ _ _ H
              · replace H := ite_p cc H
                refine g_weak [true, false, true, true, true, true, true, true] ?_
                exact R_J_X12_comesTo_135 N (L_X12_comesTo_16 N n) ih _ _ _ _ _ _ _ _ H
          · replace H := ite_p cc H
            refine g_aload_n (T_X12_comesTo 56 _ _ _ rfl) rfl ?_
            refine g_getR (c := 83) (r := 109) (T_X12_comesTo 57 _ _ _ rfl) fl_X12_83 rfl (nR rfl) rfl (by decide) ?_
            refine g_iload_n (T_X12_comesTo 58 _ _ _ rfl) rfl ?_
            refine g_iconst (T_X12_comesTo 59 _ _ _ rfl) ⟨by decide, by decide⟩ ?_
            refine g_isub (T_X12_comesTo 60 _ _ _ rfl) ?_
            refine g_iconst (T_X12_comesTo 61 _ _ _ rfl) ⟨by decide, by decide⟩ ?_
            refine g_aload_n (T_X12_comesTo 62 _ _ _ rfl) rfl ?_
            refine g_getR (c := 83) (r := 109) (T_X12_comesTo 63 _ _ _ rfl) fl_X12_83 rfl (nR rfl) rfl (by decide) ?_
            refine g_iload_n (T_X12_comesTo 64 _ _ _ rfl) rfl ?_
            refine g_iconst (T_X12_comesTo 65 _ _ _ rfl) ⟨by decide, by decide⟩ ?_
            refine g_isub (T_X12_comesTo 66 _ _ _ rfl) ?_
            obtain ⟨hg, H⟩ := grd_some H
            refine g_iald (c := 108) (T_X12_comesTo 67 _ _ _ rfl) rfl hg ?_
            refine g_isub (T_X12_comesTo 68 _ _ _ rfl) ?_
            obtain ⟨hg, H⟩ := grd_some H
            refine g_iast (c := 108) (T_X12_comesTo 69 _ _ _ rfl) rfl hg ?_
            refine g_bndH H fun h5 H => ?_
            refine g_goto (tgt := 230) (T_X12_comesTo 70 _ _ _ rfl) (by decide) ?_
            refine g_goto (tgt := 16) (T_X12_comesTo 135 _ _ _ rfl) (by decide) ?_
            refine g_weak [true, false, true, true, true, true, false, false] ?_
            exact ih _ _ _ _ _ _ H
        · replace H := ite_p cc H
          refine g_weak [true, false, true, true, true, true, true, true] ?_
          exact R_J_X12_comesTo_63 N (L_X12_comesTo_16 N n) ih _ _ _ _ _ _ _ _ H
def F_X12_comesTo (N : Nat) (x1 : Int) (x2 : Int) (h : Hp) : Option (Int × Hp) :=
  bnd ((w32 (260 * (idiv x1 260)))) fun y1 =>
  L_X12_comesTo_16 N  N x2 0 y1 x1 h
set_option maxRecDepth 100000 in
set_option maxHeartbeats 4000000 in
theorem R_X12_comesTo (N : Nat) (x1 : Int) (x2 : Int) (h : Hp) (res : Int × Hp) (H : F_X12_comesTo N x1 x2 h = some res) : Runs M_X12_comesTo 2 [.inr 84, .inl x1, .inl x2] h (Qi res) := by
  refine Runs.of rfl (Nat.le_of_ble_eq_true rfl) ?_
  show Go M_X12_comesTo 2 0 [some (.inr 84), some (.inl x1), some (.inl x2), none, none, none, none, none] [] h (Qi res)
  unfold F_X12_comesTo at H
  refine g_iconst (T_X12_comesTo 0 _ _ _ rfl) ⟨by decide, by decide⟩ ?_
  refine g_istore_n (T_X12_comesTo 1 _ _ _ rfl) (by decide) ?_
  refine g_sipush (T_X12_comesTo 2 _ _ _ rfl) (by decide) ?_
  refine g_iload_n (T_X12_comesTo 3 _ _ _ rfl) rfl ?_
  refine g_sipush (T_X12_comesTo 4 _ _ _ rfl) (by decide) ?_
  refine g_idiv (T_X12_comesTo 5 _ _ _ rfl) (by decide) ?_
  refine g_imul (T_X12_comesTo 6 _ _ _ rfl) ?_
  refine g_bndI H fun y1 H => ?_
  refine g_istore (T_X12_comesTo 7 _ _ _ rfl) (by decide) ?_
  refine g_iload_n (T_X12_comesTo 8 _ _ _ rfl) rfl ?_
  refine g_istore (T_X12_comesTo 9 _ _ _ rfl) (by decide) ?_
  refine g_weak [true, false, true, true, true, true, false, false] ?_
  refine R_L_X12_comesTo_16 N   _ _ _ _ _ _ _ H
def J_X12_byLaw_83 (N : Nat) (k2 : Int → Int → Int → Hp → Option (Int × Hp)) (x1 : Int) (x2 : Int) (x3 : Int) (h : Hp) : Option (Int × Hp) :=
  bnd (w32 (x3 + 1)) fun y1 =>
  k2 x1 x2 y1 h
set_option maxRecDepth 100000 in
set_option maxHeartbeats 4000000 in
theorem R_J_X12_byLaw_83 (N : Nat) (k2 : Int → Int → Int → Hp → Option (Int × Hp)) (hk2 : ∀ (x1 : Int) (x2 : Int) (x3 : Int) (h : Hp) (res : Int × Hp), k2 x1 x2 x3 h = some res → Go M_X12_byLaw 3 2 [some (.inr 84), some (.inl x1), some (.inl x2), some (.inl x3), none] [] h (Qi res)) (x1 : Int) (x2 : Int) (x3 : Int) (h : Hp) (res : Int × Hp) (H : J_X12_byLaw_83 N k2 x1 x2 x3 h = some res) : Go M_X12_byLaw 3 83 [some (.inr 84), some (.inl x1), some (.inl x2), some (.inl x3), none] [] h (Qi res) := by
  unfold J_X12_byLaw_83 at H
  refine g_iincB (T_X12_byLaw 47 _ _ _ rfl) rfl (by decide) H fun y1 H => ?_
  refine g_goto (tgt := 2) (T_X12_byLaw 48 _ _ _ rfl) (by decide) ?_
  refine g_weak [true, true, true, true, false] ?_
  exact hk2 _ _ _ _ _ H
def L_X12_byLaw_2 (N : Nat) : Nat → Int → Int → Int → Hp → Option (Int × Hp)
  | 0, _, _, _, _ => none
  | n + 1, x1, x2, x3, h =>
    if (h 83 24) ≤ x3 then
      some (0, h)
    else
    grd (0 ≤ x3 ∧ x3 < 16) <|
    if (h 104 x3.toNat) = x1 then
      grd (0 ≤ x3 ∧ x3 < 16) <|
      grd (0 ≤ x3 ∧ x3 < 16) <|
      bd (F_X12_comesTo N (h 106 x3.toNat) (h 107 x3.toNat) h) fun y2 h1 =>
      if y2 = 1 then
        grd (0 ≤ x3 ∧ x3 < 16) <|
        grd (0 ≤ x3 ∧ x3 < 16) <|
        bd (F_X12_comesTo N (h1 105 x3.toNat) (h1 106 x3.toNat) h1) fun y4 h3 =>
        if 0 ≤ y4 then
          if y4 ≤ x2 then
            some (y4, h3)
          else
          some (x2, h3)
        else
        some (0, h3)
      else
      J_X12_byLaw_83 N (L_X12_byLaw_2 N n) x1 x2 x3 h1
    else
    J_X12_byLaw_83 N (L_X12_byLaw_2 N n) x1 x2 x3 h
set_option maxRecDepth 100000 in
set_option maxHeartbeats 4000000 in
theorem R_L_X12_byLaw_2 (N : Nat) : ∀ (n : Nat) (x1 : Int) (x2 : Int) (x3 : Int) (h : Hp) (res : Int × Hp), L_X12_byLaw_2 N n x1 x2 x3 h = some res → Go M_X12_byLaw 3 2 [some (.inr 84), some (.inl x1), some (.inl x2), some (.inl x3), none] [] h (Qi res)
  | 0, _, _, _, _, _, H => by cases H
  | n + 1, x1, x2, x3, h, res, H => by
    have ih := R_L_X12_byLaw_2 N n
    simp only [L_X12_byLaw_2] at H
    refine g_iload_n (T_X12_byLaw 2 _ _ _ rfl) rfl ?_
    refine g_aload_n (T_X12_byLaw 3 _ _ _ rfl) rfl ?_
    refine g_getI (c := 83) (T_X12_byLaw 4 _ _ _ rfl) fl_X12_258 rfl (Or.inl rfl) ?_
    refine g_icmp_ge (tgt := 89) (T_X12_byLaw 5 _ _ _ rfl) (by decide) (fun cc => ?_) (fun cc => ?_)
    · replace H := ite_p cc H
      refine g_iconst (T_X12_byLaw 49 _ _ _ rfl) ⟨by decide, by decide⟩ ?_
      exact g_iret (T_X12_byLaw 50 _ _ _ rfl) rfl (qi_of H)
    · replace H := ite_n cc H
      refine g_aload_n (T_X12_byLaw 6 _ _ _ rfl) rfl ?_
      refine g_getR (c := 83) (r := 105) (T_X12_byLaw 7 _ _ _ rfl) fl_X12_71 rfl (nR rfl) rfl (by decide) ?_
      refine g_iload_n (T_X12_byLaw 8 _ _ _ rfl) rfl ?_
      obtain ⟨hg, H⟩ := grd_some H
      refine g_iald (c := 104) (T_X12_byLaw 9 _ _ _ rfl) rfl hg ?_
      refine g_iload_n (T_X12_byLaw 10 _ _ _ rfl) rfl ?_
      refine g_icmp_ne (tgt := 83) (T_X12_byLaw 11 _ _ _ rfl) (by decide) (fun cc => ?_) (fun cc => ?_)
      · replace H := ite_n cc H
        refine g_weak [true, true, true, true, false] ?_
        exact R_J_X12_byLaw_83 N (L_X12_byLaw_2 N n) ih _ _ _ _ _ H
      · replace H := ite_p cc H
        refine g_aload_n (T_X12_byLaw 12 _ _ _ rfl) rfl ?_
        refine g_aload_n (T_X12_byLaw 13 _ _ _ rfl) rfl ?_
        refine g_getR (c := 83) (r := 107) (T_X12_byLaw 14 _ _ _ rfl) fl_X12_77 rfl (nR rfl) rfl (by decide) ?_
        refine g_iload_n (T_X12_byLaw 15 _ _ _ rfl) rfl ?_
        obtain ⟨hg, H⟩ := grd_some H
        refine g_iald (c := 106) (T_X12_byLaw 16 _ _ _ rfl) rfl hg ?_
        refine g_aload_n (T_X12_byLaw 17 _ _ _ rfl) rfl ?_
        refine g_getR (c := 83) (r := 108) (T_X12_byLaw 18 _ _ _ rfl) fl_X12_80 rfl (nR rfl) rfl (by decide) ?_
        refine g_iload_n (T_X12_byLaw 19 _ _ _ rfl) rfl ?_
        obtain ⟨hg, H⟩ := grd_some H
        refine g_iald (c := 107) (T_X12_byLaw 20 _ _ _ rfl) rfl hg ?_
        obtain ⟨y2, h1, hq, H⟩ := bd_some H
        refine g_callVi (M' := M_X12_comesTo) (c := 83) (av := [.inl (h 106 x3.toNat), .inl (h 107 x3.toNat)]) (st := []) (T_X12_byLaw 21 _ _ _ rfl) ml_X12_265 cb_X12_comesTo rfl rfl (Nat.le_of_ble_eq_true rfl) (by omega) (R_X12_comesTo N _ _ _ _ hq) ?_
        refine g_iconst (T_X12_byLaw 22 _ _ _ rfl) ⟨by decide, by decide⟩ ?_
        refine g_icmp_eq (tgt := 43) (T_X12_byLaw 23 _ _ _ rfl) (by decide) (fun cc => ?_) (fun cc => ?_)
        · replace H := ite_p cc H
          refine g_aload_n (T_X12_byLaw 25 _ _ _ rfl) rfl ?_
          refine g_aload_n (T_X12_byLaw 26 _ _ _ rfl) rfl ?_
          refine g_getR (c := 83) (r := 106) (T_X12_byLaw 27 _ _ _ rfl) fl_X12_74 rfl (nR rfl) rfl (by decide) ?_
          refine g_iload_n (T_X12_byLaw 28 _ _ _ rfl) rfl ?_
          obtain ⟨hg, H⟩ := grd_some H
          refine g_iald (c := 105) (T_X12_byLaw 29 _ _ _ rfl) rfl hg ?_
          refine g_aload_n (T_X12_byLaw 30 _ _ _ rfl) rfl ?_
          refine g_getR (c := 83) (r := 107) (T_X12_byLaw 31 _ _ _ rfl) fl_X12_77 rfl (nR rfl) rfl (by decide) ?_
          refine g_iload_n (T_X12_byLaw 32 _ _ _ rfl) rfl ?_
          obtain ⟨hg, H⟩ := grd_some H
          refine g_iald (c := 106) (T_X12_byLaw 33 _ _ _ rfl) rfl hg ?_
          obtain ⟨y4, h3, hq, H⟩ := bd_some H
          refine g_callVi (M' := M_X12_comesTo) (c := 83) (av := [.inl (h1 105 x3.toNat), .inl (h1 106 x3.toNat)]) (st := []) (T_X12_byLaw 34 _ _ _ rfl) ml_X12_265 cb_X12_comesTo rfl rfl (Nat.le_of_ble_eq_true rfl) (by omega) (R_X12_comesTo N _ _ _ _ hq) ?_
          refine g_istore (T_X12_byLaw 35 _ _ _ rfl) (by decide) ?_
          refine g_iload (T_X12_byLaw 36 _ _ _ rfl) rfl ?_
          refine g_if_ge (tgt := 70) (T_X12_byLaw 37 _ _ _ rfl) (by decide) (fun cc => ?_) (fun cc => ?_)
          · replace H := ite_p cc H
            refine g_iload (T_X12_byLaw 40 _ _ _ rfl) rfl ?_
            refine g_iload_n (T_X12_byLaw 41 _ _ _ rfl) rfl ?_
            refine g_icmp_le (tgt := 80) (T_X12_byLaw 42 _ _ _ rfl) (by decide) (fun cc => ?_) (fun cc => ?_)
            · replace H := ite_p cc H
              refine g_iload (T_X12_byLaw 45 _ _ _ rfl) rfl ?_
              exact g_iret (T_X12_byLaw 46 _ _ _ rfl) rfl (qi_of H)
            · replace H := ite_n cc H
              refine g_iload_n (T_X12_byLaw 43 _ _ _ rfl) rfl ?_
              refine g_goto (tgt := 82) (T_X12_byLaw 44 _ _ _ rfl) (by decide) ?_
              exact g_iret (T_X12_byLaw 46 _ _ _ rfl) rfl (qi_of H)
          · replace H := ite_n cc H
            refine g_iconst (T_X12_byLaw 38 _ _ _ rfl) ⟨by decide, by decide⟩ ?_
            refine g_goto (tgt := 82) (T_X12_byLaw 39 _ _ _ rfl) (by decide) ?_
            exact g_iret (T_X12_byLaw 46 _ _ _ rfl) rfl (qi_of H)
        · replace H := ite_n cc H
          refine g_goto (tgt := 83) (T_X12_byLaw 24 _ _ _ rfl) (by decide) ?_
          refine g_weak [true, true, true, true, false] ?_
          exact R_J_X12_byLaw_83 N (L_X12_byLaw_2 N n) ih _ _ _ _ _ H
def F_X12_byLaw (N : Nat) (x1 : Int) (x2 : Int) (h : Hp) : Option (Int × Hp) :=
  L_X12_byLaw_2 N  N x1 x2 0 h
set_option maxRecDepth 100000 in
set_option maxHeartbeats 4000000 in
theorem R_X12_byLaw (N : Nat) (x1 : Int) (x2 : Int) (h : Hp) (res : Int × Hp) (H : F_X12_byLaw N x1 x2 h = some res) : Runs M_X12_byLaw 3 [.inr 84, .inl x1, .inl x2] h (Qi res) := by
  refine Runs.of rfl (Nat.le_of_ble_eq_true rfl) ?_
  show Go M_X12_byLaw 3 0 [some (.inr 84), some (.inl x1), some (.inl x2), none, none] [] h (Qi res)
  unfold F_X12_byLaw at H
  refine g_iconst (T_X12_byLaw 0 _ _ _ rfl) ⟨by decide, by decide⟩ ?_
  refine g_istore_n (T_X12_byLaw 1 _ _ _ rfl) (by decide) ?_
  refine g_weak [true, true, true, true, false] ?_
  refine R_L_X12_byLaw_2 N   _ _ _ _ _ _ H
def F_X12_farOf (N : Nat) (x1 : Int) (x2 : Int) (h : Hp) : Option (Int × Hp) :=
  grd (0 ≤ (w32 ((w32 (14 * x1)) + x2)) ∧ (w32 ((w32 (14 * x1)) + x2)) < 196) <|
  some ((h 91 (w32 ((w32 (14 * x1)) + x2)).toNat), h)
set_option maxRecDepth 100000 in
set_option maxHeartbeats 4000000 in
theorem R_X12_farOf (N : Nat) (x1 : Int) (x2 : Int) (h : Hp) (res : Int × Hp) (H : F_X12_farOf N x1 x2 h = some res) : Runs M_X12_farOf 1 [.inr 84, .inl x1, .inl x2] h (Qi res) := by
  refine Runs.of rfl (Nat.le_of_ble_eq_true rfl) ?_
  show Go M_X12_farOf 1 0 [some (.inr 84), some (.inl x1), some (.inl x2)] [] h (Qi res)
  unfold F_X12_farOf at H
  refine g_aload_n (T_X12_farOf 0 _ _ _ rfl) rfl ?_
  refine g_getR (c := 83) (r := 92) (T_X12_farOf 1 _ _ _ rfl) fl_X12_31 rfl (nR rfl) rfl (by decide) ?_
  refine g_bipush (T_X12_farOf 2 _ _ _ rfl) (by decide) ?_
  refine g_iload_n (T_X12_farOf 3 _ _ _ rfl) rfl ?_
  refine g_imul (T_X12_farOf 4 _ _ _ rfl) ?_
  refine g_iload_n (T_X12_farOf 5 _ _ _ rfl) rfl ?_
  refine g_iadd (T_X12_farOf 6 _ _ _ rfl) ?_
  obtain ⟨hg, H⟩ := grd_some H
  refine g_iald (c := 91) (T_X12_farOf 7 _ _ _ rfl) rfl hg ?_
  exact g_iret (T_X12_farOf 8 _ _ _ rfl) rfl (qi_of H)
def F_X12_canCome (N : Nat) (x1 : Int) (x2 : Int) (h : Hp) : Option (Int × Hp) :=
  grd (0 ≤ x1 ∧ x1 < 5) <|
  grd (0 ≤ (w32 ((w32 (16 * x1)) + x2)) ∧ (w32 ((w32 (16 * x1)) + x2)) < 80) <|
  bd (F_X12_placeOf N (h 94 (w32 ((w32 (16 * x1)) + x2)).toNat) h) fun y2 h1 =>
  bd (F_X12_farOf N (h 113 x1.toNat) y2 h1) fun y4 h3 =>
  if 1000000 ≤ y4 then
    some (0, h3)
  else
  some (1, h3)
set_option maxRecDepth 100000 in
set_option maxHeartbeats 4000000 in
theorem R_X12_canCome (N : Nat) (x1 : Int) (x2 : Int) (h : Hp) (res : Int × Hp) (H : F_X12_canCome N x1 x2 h = some res) : Runs M_X12_canCome 2 [.inr 84, .inl x1, .inl x2] h (Qi res) := by
  refine Runs.of rfl (Nat.le_of_ble_eq_true rfl) ?_
  show Go M_X12_canCome 2 0 [some (.inr 84), some (.inl x1), some (.inl x2)] [] h (Qi res)
  unfold F_X12_canCome at H
  refine g_aload_n (T_X12_canCome 0 _ _ _ rfl) rfl ?_
  refine g_aload_n (T_X12_canCome 1 _ _ _ rfl) rfl ?_
  refine g_getR (c := 83) (r := 114) (T_X12_canCome 2 _ _ _ rfl) fl_X12_98 rfl (nR rfl) rfl (by decide) ?_
  refine g_iload_n (T_X12_canCome 3 _ _ _ rfl) rfl ?_
  obtain ⟨hg, H⟩ := grd_some H
  refine g_iald (c := 113) (T_X12_canCome 4 _ _ _ rfl) rfl hg ?_
  refine g_aload_n (T_X12_canCome 5 _ _ _ rfl) rfl ?_
  refine g_getR (c := 83) (r := 95) (T_X12_canCome 6 _ _ _ rfl) fl_X12_40 rfl (nR rfl) rfl (by decide) ?_
  refine g_bipush (T_X12_canCome 7 _ _ _ rfl) (by decide) ?_
  refine g_iload_n (T_X12_canCome 8 _ _ _ rfl) rfl ?_
  refine g_imul (T_X12_canCome 9 _ _ _ rfl) ?_
  refine g_iload_n (T_X12_canCome 10 _ _ _ rfl) rfl ?_
  refine g_iadd (T_X12_canCome 11 _ _ _ rfl) ?_
  obtain ⟨hg, H⟩ := grd_some H
  refine g_iald (c := 94) (T_X12_canCome 12 _ _ _ rfl) rfl hg ?_
  obtain ⟨y2, h1, hq, H⟩ := bd_some H
  refine g_callSi (M' := M_X12_placeOf) (av := [.inl (h 94 (w32 ((w32 (16 * x1)) + x2)).toNat)]) (st := [.inl (h 113 x1.toNat), .inr 84]) (T_X12_canCome 13 _ _ _ rfl) ml_X12_290 cb_X12_placeOf rfl (Nat.le_of_ble_eq_true rfl) (by omega) (R_X12_placeOf N _ _ _ hq) ?_
  obtain ⟨y4, h3, hq, H⟩ := bd_some H
  refine g_callVi (M' := M_X12_farOf) (c := 83) (av := [.inl (h 113 x1.toNat), .inl y2]) (st := []) (T_X12_canCome 14 _ _ _ rfl) ml_X12_293 cb_X12_farOf rfl rfl (Nat.le_of_ble_eq_true rfl) (by omega) (R_X12_farOf N _ _ _ _ hq) ?_
  refine g_ldc (T_X12_canCome 15 _ _ _ rfl) kc_X12_150 ⟨by decide, by decide⟩ ?_
  refine g_icmp_ge (tgt := 33) (T_X12_canCome 16 _ _ _ rfl) (by decide) (fun cc => ?_) (fun cc => ?_)
  · replace H := ite_p cc H
    refine g_iconst (T_X12_canCome 19 _ _ _ rfl) ⟨by decide, by decide⟩ ?_
    exact g_zret (T_X12_canCome 20 _ _ _ rfl) rfl (by decide) (qi_of H)
  · replace H := ite_n cc H
    refine g_iconst (T_X12_canCome 17 _ _ _ rfl) ⟨by decide, by decide⟩ ?_
    refine g_goto (tgt := 34) (T_X12_canCome 18 _ _ _ rfl) (by decide) ?_
    exact g_zret (T_X12_canCome 20 _ _ _ rfl) rfl (by decide) (qi_of H)
def J_X12_goesOn_46 (N : Nat) (x1 : Int) (x2 : Int) (h : Hp) : Option (Hp) :=
  grd (0 ≤ x1 ∧ x1 < 5) <|
  grd (0 ≤ x1 ∧ x1 < 5) <|
  if (h 115 x1.toNat) = (h 93 x1.toNat) then
    grd (0 ≤ x1 ∧ x1 < 5) <|
    bnd (hw h 116 x1.toNat 1000000) fun h7 =>
    some h7
  else
  grd (0 ≤ x1 ∧ x1 < 5) <|
  grd (0 ≤ (w32 ((w32 (16 * x1)) + (h 115 x1.toNat))) ∧ (w32 ((w32 (16 * x1)) + (h 115 x1.toNat))) < 80) <|
  bd (F_X12_placeOf N (h 94 (w32 ((w32 (16 * x1)) + (h 115 x1.toNat))).toNat) h) fun y2 h1 =>
  grd (0 ≤ x1 ∧ x1 < 5) <|
  bd (F_X12_farOf N (h1 113 x1.toNat) y2 h1) fun y4 h3 =>
  grd (0 ≤ x1 ∧ x1 < 5) <|
  bnd (hw h3 116 x1.toNat (w32 (x2 + y4))) fun h5 =>
  grd (0 ≤ x1 ∧ x1 < 5) <|
  grd (0 ≤ x1 ∧ x1 < 5) <|
  bnd (hw h5 117 x1.toNat (h5 116 x1.toNat)) fun h6 =>
  some h6
set_option maxRecDepth 100000 in
set_option maxHeartbeats 4000000 in
theorem R_J_X12_goesOn_46 (N : Nat) (x1 : Int) (x2 : Int) (h : Hp) (res : Hp) (H : J_X12_goesOn_46 N x1 x2 h = some res) : Go M_X12_goesOn 3 46 [some (.inr 84), some (.inl x1), some (.inl x2), none] [] h (Qv res) := by
  unfold J_X12_goesOn_46 at H
  refine g_aload_n (T_X12_goesOn 28 _ _ _ rfl) rfl ?_
  refine g_getR (c := 83) (r := 116) (T_X12_goesOn 29 _ _ _ rfl) fl_X12_104 rfl (nR rfl) rfl (by decide) ?_
  refine g_iload_n (T_X12_goesOn 30 _ _ _ rfl) rfl ?_
  obtain ⟨hg, H⟩ := grd_some H
  refine g_iald (c := 115) (T_X12_goesOn 31 _ _ _ rfl) rfl hg ?_
  refine g_aload_n (T_X12_goesOn 32 _ _ _ rfl) rfl ?_
  refine g_getR (c := 83) (r := 94) (T_X12_goesOn 33 _ _ _ rfl) fl_X12_37 rfl (nR rfl) rfl (by decide) ?_
  refine g_iload_n (T_X12_goesOn 34 _ _ _ rfl) rfl ?_
  obtain ⟨hg, H⟩ := grd_some H
  refine g_iald (c := 93) (T_X12_goesOn 35 _ _ _ rfl) rfl hg ?_
  refine g_icmp_ne (tgt := 70) (T_X12_goesOn 36 _ _ _ rfl) (by decide) (fun cc => ?_) (fun cc => ?_)
  · replace H := ite_n cc H
    refine g_aload_n (T_X12_goesOn 43 _ _ _ rfl) rfl ?_
    refine g_getR (c := 83) (r := 95) (T_X12_goesOn 44 _ _ _ rfl) fl_X12_40 rfl (nR rfl) rfl (by decide) ?_
    refine g_bipush (T_X12_goesOn 45 _ _ _ rfl) (by decide) ?_
    refine g_iload_n (T_X12_goesOn 46 _ _ _ rfl) rfl ?_
    refine g_imul (T_X12_goesOn 47 _ _ _ rfl) ?_
    refine g_aload_n (T_X12_goesOn 48 _ _ _ rfl) rfl ?_
    refine g_getR (c := 83) (r := 116) (T_X12_goesOn 49 _ _ _ rfl) fl_X12_104 rfl (nR rfl) rfl (by decide) ?_
    refine g_iload_n (T_X12_goesOn 50 _ _ _ rfl) rfl ?_
    obtain ⟨hg, H⟩ := grd_some H
    refine g_iald (c := 115) (T_X12_goesOn 51 _ _ _ rfl) rfl hg ?_
    refine g_iadd (T_X12_goesOn 52 _ _ _ rfl) ?_
    obtain ⟨hg, H⟩ := grd_some H
    refine g_iald (c := 94) (T_X12_goesOn 53 _ _ _ rfl) rfl hg ?_
    obtain ⟨y2, h1, hq, H⟩ := bd_some H
    refine g_callSi (M' := M_X12_placeOf) (av := [.inl (h 94 (w32 ((w32 (16 * x1)) + (h 115 x1.toNat))).toNat)]) (st := []) (T_X12_goesOn 54 _ _ _ rfl) ml_X12_290 cb_X12_placeOf rfl (Nat.le_of_ble_eq_true rfl) (by omega) (R_X12_placeOf N _ _ _ hq) ?_
    refine g_istore_n (T_X12_goesOn 55 _ _ _ rfl) (by decide) ?_
    refine g_aload_n (T_X12_goesOn 56 _ _ _ rfl) rfl ?_
    refine g_getR (c := 83) (r := 117) (T_X12_goesOn 57 _ _ _ rfl) fl_X12_107 rfl (nR rfl) rfl (by decide) ?_
    refine g_iload_n (T_X12_goesOn 58 _ _ _ rfl) rfl ?_
    refine g_iload_n (T_X12_goesOn 59 _ _ _ rfl) rfl ?_
    refine g_aload_n (T_X12_goesOn 60 _ _ _ rfl) rfl ?_
    refine g_aload_n (T_X12_goesOn 61 _ _ _ rfl) rfl ?_
    refine g_getR (c := 83) (r := 114) (T_X12_goesOn 62 _ _ _ rfl) fl_X12_98 rfl (nR rfl) rfl (by decide) ?_
    refine g_iload_n (T_X12_goesOn 63 _ _ _ rfl) rfl ?_
    obtain ⟨hg, H⟩ := grd_some H
    refine g_iald (c := 113) (T_X12_goesOn 64 _ _ _ rfl) rfl hg ?_
    refine g_iload_n (T_X12_goesOn 65 _ _ _ rfl) rfl ?_
    obtain ⟨y4, h3, hq, H⟩ := bd_some H
    refine g_callVi (M' := M_X12_farOf) (c := 83) (av := [.inl (h1 113 x1.toNat), .inl y2]) (st := [.inl x2, .inl x1, .inr 117]) (T_X12_goesOn 66 _ _ _ rfl) ml_X12_293 cb_X12_farOf rfl rfl (Nat.le_of_ble_eq_true rfl) (by omega) (R_X12_farOf N _ _ _ _ hq) ?_
    refine g_iadd (T_X12_goesOn 67 _ _ _ rfl) ?_
    obtain ⟨hg, H⟩ := grd_some H
    refine g_iast (c := 116) (T_X12_goesOn 68 _ _ _ rfl) rfl hg ?_
    refine g_bndH H fun h5 H => ?_
    refine g_aload_n (T_X12_goesOn 69 _ _ _ rfl) rfl ?_
    refine g_getR (c := 83) (r := 118) (T_X12_goesOn 70 _ _ _ rfl) fl_X12_110 rfl (nR rfl) rfl (by decide) ?_
    refine g_iload_n (T_X12_goesOn 71 _ _ _ rfl) rfl ?_
    refine g_aload_n (T_X12_goesOn 72 _ _ _ rfl) rfl ?_
    refine g_getR (c := 83) (r := 117) (T_X12_goesOn 73 _ _ _ rfl) fl_X12_107 rfl (nR rfl) rfl (by decide) ?_
    refine g_iload_n (T_X12_goesOn 74 _ _ _ rfl) rfl ?_
    obtain ⟨hg, H⟩ := grd_some H
    refine g_iald (c := 116) (T_X12_goesOn 75 _ _ _ rfl) rfl hg ?_
    obtain ⟨hg, H⟩ := grd_some H
    refine g_iast (c := 117) (T_X12_goesOn 76 _ _ _ rfl) rfl hg ?_
    refine g_bndH H fun h6 H => ?_
    exact g_vret (T_X12_goesOn 77 _ _ _ rfl) rfl (qv_of H)
  · replace H := ite_p cc H
    refine g_aload_n (T_X12_goesOn 37 _ _ _ rfl) rfl ?_
    refine g_getR (c := 83) (r := 117) (T_X12_goesOn 38 _ _ _ rfl) fl_X12_107 rfl (nR rfl) rfl (by decide) ?_
    refine g_iload_n (T_X12_goesOn 39 _ _ _ rfl) rfl ?_
    refine g_ldc (T_X12_goesOn 40 _ _ _ rfl) kc_X12_150 ⟨by decide, by decide⟩ ?_
    obtain ⟨hg, H⟩ := grd_some H
    refine g_iast (c := 116) (T_X12_goesOn 41 _ _ _ rfl) rfl hg ?_
    refine g_bndH H fun h7 H => ?_
    exact g_vret (T_X12_goesOn 42 _ _ _ rfl) rfl (qv_of H)
def L_X12_goesOn_0 (N : Nat) : Nat → Int → Int → Hp → Option (Hp)
  | 0, _, _, _ => none
  | n + 1, x1, x2, h =>
    grd (0 ≤ x1 ∧ x1 < 5) <|
    grd (0 ≤ x1 ∧ x1 < 5) <|
    if (h 93 x1.toNat) ≤ (h 115 x1.toNat) then
      J_X12_goesOn_46 N  x1 x2 h
    else
    grd (0 ≤ x1 ∧ x1 < 5) <|
    bd (F_X12_canCome N x1 (h 115 x1.toNat) h) fun y2 h1 =>
    if y2 = 0 then
      grd (0 ≤ x1 ∧ x1 < 5) <|
      grd (0 ≤ x1 ∧ x1 < 5) <|
      bnd (hw h1 115 x1.toNat (w32 ((h1 115 x1.toNat) + 1))) fun h3 =>
      (L_X12_goesOn_0 N n) x1 x2 h3
    else
    J_X12_goesOn_46 N  x1 x2 h1
set_option maxRecDepth 100000 in
set_option maxHeartbeats 4000000 in
theorem R_L_X12_goesOn_0 (N : Nat) : ∀ (n : Nat) (x1 : Int) (x2 : Int) (h : Hp) (res : Hp), L_X12_goesOn_0 N n x1 x2 h = some res → Go M_X12_goesOn 3 0 [some (.inr 84), some (.inl x1), some (.inl x2), none] [] h (Qv res)
  | 0, _, _, _, _, H => by cases H
  | n + 1, x1, x2, h, res, H => by
    have ih := R_L_X12_goesOn_0 N n
    simp only [L_X12_goesOn_0] at H
    refine g_aload_n (T_X12_goesOn 0 _ _ _ rfl) rfl ?_
    refine g_getR (c := 83) (r := 116) (T_X12_goesOn 1 _ _ _ rfl) fl_X12_104 rfl (nR rfl) rfl (by decide) ?_
    refine g_iload_n (T_X12_goesOn 2 _ _ _ rfl) rfl ?_
    obtain ⟨hg, H⟩ := grd_some H
    refine g_iald (c := 115) (T_X12_goesOn 3 _ _ _ rfl) rfl hg ?_
    refine g_aload_n (T_X12_goesOn 4 _ _ _ rfl) rfl ?_
    refine g_getR (c := 83) (r := 94) (T_X12_goesOn 5 _ _ _ rfl) fl_X12_37 rfl (nR rfl) rfl (by decide) ?_
    refine g_iload_n (T_X12_goesOn 6 _ _ _ rfl) rfl ?_
    obtain ⟨hg, H⟩ := grd_some H
    refine g_iald (c := 93) (T_X12_goesOn 7 _ _ _ rfl) rfl hg ?_
    refine g_icmp_ge (tgt := 46) (T_X12_goesOn 8 _ _ _ rfl) (by decide) (fun cc => ?_) (fun cc => ?_)
    · replace H := ite_p cc H
      refine g_weak [true, true, true, false] ?_
      exact R_J_X12_goesOn_46 N   _ _ _ _ H
    · replace H := ite_n cc H
      refine g_aload_n (T_X12_goesOn 9 _ _ _ rfl) rfl ?_
      refine g_iload_n (T_X12_goesOn 10 _ _ _ rfl) rfl ?_
      refine g_aload_n (T_X12_goesOn 11 _ _ _ rfl) rfl ?_
      refine g_getR (c := 83) (r := 116) (T_X12_goesOn 12 _ _ _ rfl) fl_X12_104 rfl (nR rfl) rfl (by decide) ?_
      refine g_iload_n (T_X12_goesOn 13 _ _ _ rfl) rfl ?_
      obtain ⟨hg, H⟩ := grd_some H
      refine g_iald (c := 115) (T_X12_goesOn 14 _ _ _ rfl) rfl hg ?_
      obtain ⟨y2, h1, hq, H⟩ := bd_some H
      refine g_callVi (M' := M_X12_canCome) (c := 83) (av := [.inl x1, .inl (h 115 x1.toNat)]) (st := []) (T_X12_goesOn 15 _ _ _ rfl) ml_X12_296 cb_X12_canCome rfl rfl (Nat.le_of_ble_eq_true rfl) (by omega) (R_X12_canCome N _ _ _ _ hq) ?_
      refine g_if_ne (tgt := 46) (T_X12_goesOn 16 _ _ _ rfl) (by decide) (fun cc => ?_) (fun cc => ?_)
      · replace H := ite_n cc H
        refine g_weak [true, true, true, false] ?_
        exact R_J_X12_goesOn_46 N   _ _ _ _ H
      · replace H := ite_p cc H
        refine g_aload_n (T_X12_goesOn 17 _ _ _ rfl) rfl ?_
        refine g_getR (c := 83) (r := 116) (T_X12_goesOn 18 _ _ _ rfl) fl_X12_104 rfl (nR rfl) rfl (by decide) ?_
        refine g_iload_n (T_X12_goesOn 19 _ _ _ rfl) rfl ?_
        refine g_aload_n (T_X12_goesOn 20 _ _ _ rfl) rfl ?_
        refine g_getR (c := 83) (r := 116) (T_X12_goesOn 21 _ _ _ rfl) fl_X12_104 rfl (nR rfl) rfl (by decide) ?_
        refine g_iload_n (T_X12_goesOn 22 _ _ _ rfl) rfl ?_
        obtain ⟨hg, H⟩ := grd_some H
        refine g_iald (c := 115) (T_X12_goesOn 23 _ _ _ rfl) rfl hg ?_
        refine g_iconst (T_X12_goesOn 24 _ _ _ rfl) ⟨by decide, by decide⟩ ?_
        refine g_iadd (T_X12_goesOn 25 _ _ _ rfl) ?_
        obtain ⟨hg, H⟩ := grd_some H
        refine g_iast (c := 115) (T_X12_goesOn 26 _ _ _ rfl) rfl hg ?_
        refine g_bndH H fun h3 H => ?_
        refine g_goto (tgt := 0) (T_X12_goesOn 27 _ _ _ rfl) (by decide) ?_
        refine g_weak [true, true, true, false] ?_
        exact ih _ _ _ _ H
def F_X12_goesOn (N : Nat) (x1 : Int) (x2 : Int) (h : Hp) : Option (Hp) :=
  L_X12_goesOn_0 N  N x1 x2 h
set_option maxRecDepth 100000 in
set_option maxHeartbeats 4000000 in
theorem R_X12_goesOn (N : Nat) (x1 : Int) (x2 : Int) (h : Hp) (res : Hp) (H : F_X12_goesOn N x1 x2 h = some res) : Runs M_X12_goesOn 3 [.inr 84, .inl x1, .inl x2] h (Qv res) := by
  refine Runs.of rfl (Nat.le_of_ble_eq_true rfl) ?_
  show Go M_X12_goesOn 3 0 [some (.inr 84), some (.inl x1), some (.inl x2), none] [] h (Qv res)
  unfold F_X12_goesOn at H
  refine g_weak [true, true, true, false] ?_
  refine R_L_X12_goesOn_0 N   _ _ _ _ _ H
def J_X12_arrives_185 (N : Nat) (x1 : Int) (x2 : Int) (x5 : Int) (x6 : Int) (h : Hp) : Option (Hp) :=
  grd (0 ≤ x1 ∧ x1 < 5) <|
  grd (0 ≤ x1 ∧ x1 < 5) <|
  bnd (hw h 115 x1.toNat (w32 ((h 115 x1.toNat) + 1))) fun h1 =>
  bv (F_X12_goesOn N x1 (w32 (x2 + (w32 (x5 * x6)))) h1) fun h2 =>
  some h2
set_option maxRecDepth 100000 in
set_option maxHeartbeats 4000000 in
theorem R_J_X12_arrives_185 (N : Nat) (x1 : Int) (x2 : Int) (x5 : Int) (x6 : Int) (h : Hp) (res : Hp) (H : J_X12_arrives_185 N x1 x2 x5 x6 h = some res) : Go M_X12_arrives 4 185 [some (.inr 84), some (.inl x1), some (.inl x2), none, none, some (.inl x5), some (.inl x6)] [] h (Qv res) := by
  unfold J_X12_arrives_185 at H
  refine g_aload_n (T_X12_arrives 112 _ _ _ rfl) rfl ?_
  refine g_getR (c := 83) (r := 116) (T_X12_arrives 113 _ _ _ rfl) fl_X12_104 rfl (nR rfl) rfl (by decide) ?_
  refine g_iload_n (T_X12_arrives 114 _ _ _ rfl) rfl ?_
  refine g_aload_n (T_X12_arrives 115 _ _ _ rfl) rfl ?_
  refine g_getR (c := 83) (r := 116) (T_X12_arrives 116 _ _ _ rfl) fl_X12_104 rfl (nR rfl) rfl (by decide) ?_
  refine g_iload_n (T_X12_arrives 117 _ _ _ rfl) rfl ?_
  obtain ⟨hg, H⟩ := grd_some H
  refine g_iald (c := 115) (T_X12_arrives 118 _ _ _ rfl) rfl hg ?_
  refine g_iconst (T_X12_arrives 119 _ _ _ rfl) ⟨by decide, by decide⟩ ?_
  refine g_iadd (T_X12_arrives 120 _ _ _ rfl) ?_
  obtain ⟨hg, H⟩ := grd_some H
  refine g_iast (c := 115) (T_X12_arrives 121 _ _ _ rfl) rfl hg ?_
  refine g_bndH H fun h1 H => ?_
  refine g_aload_n (T_X12_arrives 122 _ _ _ rfl) rfl ?_
  refine g_iload_n (T_X12_arrives 123 _ _ _ rfl) rfl ?_
  refine g_iload_n (T_X12_arrives 124 _ _ _ rfl) rfl ?_
  refine g_iload (T_X12_arrives 125 _ _ _ rfl) rfl ?_
  refine g_iload (T_X12_arrives 126 _ _ _ rfl) rfl ?_
  refine g_imul (T_X12_arrives 127 _ _ _ rfl) ?_
  refine g_iadd (T_X12_arrives 128 _ _ _ rfl) ?_
  obtain ⟨h2, hq, H⟩ := bv_some H
  refine g_callVv (M' := M_X12_goesOn) (c := 83) (av := [.inl x1, .inl (w32 (x2 + (w32 (x5 * x6))))]) (st := []) (T_X12_arrives 129 _ _ _ rfl) ml_X12_305 cb_X12_goesOn rfl rfl (Nat.le_of_ble_eq_true rfl) (by omega) (R_X12_goesOn N _ _ _ _ hq) ?_
  exact g_vret (T_X12_arrives 130 _ _ _ rfl) rfl (qv_of H)
def F_X12_arrives (N : Nat) (x1 : Int) (x2 : Int) (h : Hp) : Option (Hp) :=
  grd (0 ≤ x1 ∧ x1 < 5) <|
  bnd ((w32 ((w32 (16 * x1)) + (h 115 x1.toNat)))) fun y1 =>
  grd (0 ≤ y1 ∧ y1 < 80) <|
  bnd ((h 94 y1.toNat)) fun y2 =>
  bd (F_X12_placeOf N y2 h) fun y4 h3 =>
  grd (0 ≤ x1 ∧ x1 < 5) <|
  bnd (hw h3 113 x1.toNat y4) fun h5 =>
  bnd (hw h5 83 50 (w32 ((h5 83 50) + 1))) fun h6 =>
  grd (0 ≤ x1 ∧ x1 < 5) <|
  bv (F_X12_feels N (h6 113 x1.toNat) (idiv x2 60) x1 h6) fun h7 =>
  bd (F_X12_byLaw N 117 9 h7) fun y9 h8 =>
  if y2 = 14 then
    grd (0 ≤ y1 ∧ y1 < 80) <|
    grd (0 ≤ x1 ∧ x1 < 5) <|
    grd (0 ≤ x1 ∧ x1 < 5) <|
    bd (F_X12_min N (h8 95 y1.toNat) (w32 ((h8 92 x1.toNat) - (h8 114 x1.toNat))) h8) fun y18 h17 =>
    grd (0 ≤ x1 ∧ x1 < 5) <|
    grd (0 ≤ x1 ∧ x1 < 5) <|
    bnd (hw h17 114 x1.toNat (w32 ((h17 114 x1.toNat) + y18))) fun h19 =>
    J_X12_arrives_185 N  x1 x2 y9 y18 h19
  else
  grd (0 ≤ y1 ∧ y1 < 80) <|
  grd (0 ≤ x1 ∧ x1 < 5) <|
  bd (F_X12_min N (h8 95 y1.toNat) (h8 114 x1.toNat) h8) fun y11 h10 =>
  grd (0 ≤ x1 ∧ x1 < 5) <|
  grd (0 ≤ x1 ∧ x1 < 5) <|
  bnd (hw h10 114 x1.toNat (w32 ((h10 114 x1.toNat) - y11))) fun h12 =>
  bnd (hw h12 83 49 (w32 ((h12 83 49) + y11))) fun h13 =>
  grd (0 ≤ (w32 (0 + y2)) ∧ (w32 (0 + y2)) < 17) <|
  bd (F_X12_min N 999 (w32 ((h13 84 (w32 (0 + y2)).toNat) + y11)) h13) fun y15 h14 =>
  grd (0 ≤ (w32 (0 + y2)) ∧ (w32 (0 + y2)) < 17) <|
  bnd (hw h14 84 (w32 (0 + y2)).toNat y15) fun h16 =>
  J_X12_arrives_185 N  x1 x2 y9 y11 h16
set_option maxRecDepth 100000 in
set_option maxHeartbeats 4000000 in
theorem R_X12_arrives (N : Nat) (x1 : Int) (x2 : Int) (h : Hp) (res : Hp) (H : F_X12_arrives N x1 x2 h = some res) : Runs M_X12_arrives 4 [.inr 84, .inl x1, .inl x2] h (Qv res) := by
  refine Runs.of rfl (Nat.le_of_ble_eq_true rfl) ?_
  show Go M_X12_arrives 4 0 [some (.inr 84), some (.inl x1), some (.inl x2), none, none, none, none] [] h (Qv res)
  unfold F_X12_arrives at H
  refine g_bipush (T_X12_arrives 0 _ _ _ rfl) (by decide) ?_
  refine g_iload_n (T_X12_arrives 1 _ _ _ rfl) rfl ?_
  refine g_imul (T_X12_arrives 2 _ _ _ rfl) ?_
  refine g_aload_n (T_X12_arrives 3 _ _ _ rfl) rfl ?_
  refine g_getR (c := 83) (r := 116) (T_X12_arrives 4 _ _ _ rfl) fl_X12_104 rfl (nR rfl) rfl (by decide) ?_
  refine g_iload_n (T_X12_arrives 5 _ _ _ rfl) rfl ?_
  obtain ⟨hg, H⟩ := grd_some H
  refine g_iald (c := 115) (T_X12_arrives 6 _ _ _ rfl) rfl hg ?_
  refine g_iadd (T_X12_arrives 7 _ _ _ rfl) ?_
  refine g_bndI H fun y1 H => ?_
  refine g_istore_n (T_X12_arrives 8 _ _ _ rfl) (by decide) ?_
  refine g_aload_n (T_X12_arrives 9 _ _ _ rfl) rfl ?_
  refine g_getR (c := 83) (r := 95) (T_X12_arrives 10 _ _ _ rfl) fl_X12_40 rfl (nR rfl) rfl (by decide) ?_
  refine g_iload_n (T_X12_arrives 11 _ _ _ rfl) rfl ?_
  obtain ⟨hg, H⟩ := grd_some H
  refine g_iald (c := 94) (T_X12_arrives 12 _ _ _ rfl) rfl hg ?_
  refine g_bndI H fun y2 H => ?_
  refine g_istore (T_X12_arrives 13 _ _ _ rfl) (by decide) ?_
  refine g_aload_n (T_X12_arrives 14 _ _ _ rfl) rfl ?_
  refine g_getR (c := 83) (r := 114) (T_X12_arrives 15 _ _ _ rfl) fl_X12_98 rfl (nR rfl) rfl (by decide) ?_
  refine g_iload_n (T_X12_arrives 16 _ _ _ rfl) rfl ?_
  refine g_iload (T_X12_arrives 17 _ _ _ rfl) rfl ?_
  obtain ⟨y4, h3, hq, H⟩ := bd_some H
  refine g_callSi (M' := M_X12_placeOf) (av := [.inl y2]) (st := [.inl x1, .inr 114]) (T_X12_arrives 18 _ _ _ rfl) ml_X12_290 cb_X12_placeOf rfl (Nat.le_of_ble_eq_true rfl) (by omega) (R_X12_placeOf N _ _ _ hq) ?_
  obtain ⟨hg, H⟩ := grd_some H
  refine g_iast (c := 113) (T_X12_arrives 19 _ _ _ rfl) rfl hg ?_
  refine g_bndH H fun h5 H => ?_
  refine g_aload_n (T_X12_arrives 20 _ _ _ rfl) rfl ?_
  refine g_aload_n (T_X12_arrives 21 _ _ _ rfl) rfl ?_
  refine g_getI (c := 83) (T_X12_arrives 22 _ _ _ rfl) fl_X12_299 rfl (Or.inl rfl) ?_
  refine g_iconst (T_X12_arrives 23 _ _ _ rfl) ⟨by decide, by decide⟩ ?_
  refine g_iadd (T_X12_arrives 24 _ _ _ rfl) ?_
  refine g_put (c := 83) (T_X12_arrives 25 _ _ _ rfl) fl_X12_299 rfl (Or.inl rfl) ?_
  refine g_bndH H fun h6 H => ?_
  refine g_aload_n (T_X12_arrives 26 _ _ _ rfl) rfl ?_
  refine g_aload_n (T_X12_arrives 27 _ _ _ rfl) rfl ?_
  refine g_getR (c := 83) (r := 114) (T_X12_arrives 28 _ _ _ rfl) fl_X12_98 rfl (nR rfl) rfl (by decide) ?_
  refine g_iload_n (T_X12_arrives 29 _ _ _ rfl) rfl ?_
  obtain ⟨hg, H⟩ := grd_some H
  refine g_iald (c := 113) (T_X12_arrives 30 _ _ _ rfl) rfl hg ?_
  refine g_iload_n (T_X12_arrives 31 _ _ _ rfl) rfl ?_
  refine g_bipush (T_X12_arrives 32 _ _ _ rfl) (by decide) ?_
  refine g_idiv (T_X12_arrives 33 _ _ _ rfl) (by decide) ?_
  refine g_iload_n (T_X12_arrives 34 _ _ _ rfl) rfl ?_
  obtain ⟨h7, hq, H⟩ := bv_some H
  refine g_callVv (M' := M_X12_feels) (c := 83) (av := [.inl (h6 113 x1.toNat), .inl (idiv x2 60), .inl x1]) (st := []) (T_X12_arrives 35 _ _ _ rfl) ml_X12_268 cb_X12_feels rfl rfl (Nat.le_of_ble_eq_true rfl) (by omega) (R_X12_feels N _ _ _ _ _ hq) ?_
  refine g_aload_n (T_X12_arrives 36 _ _ _ rfl) rfl ?_
  refine g_bipush (T_X12_arrives 37 _ _ _ rfl) (by decide) ?_
  refine g_bipush (T_X12_arrives 38 _ _ _ rfl) (by decide) ?_
  obtain ⟨y9, h8, hq, H⟩ := bd_some H
  refine g_callVi (M' := M_X12_byLaw) (c := 83) (av := [.inl 117, .inl 9]) (st := []) (T_X12_arrives 39 _ _ _ rfl) ml_X12_272 cb_X12_byLaw rfl rfl (Nat.le_of_ble_eq_true rfl) (by omega) (R_X12_byLaw N _ _ _ _ hq) ?_
  refine g_istore (T_X12_arrives 40 _ _ _ rfl) (by decide) ?_
  refine g_iload (T_X12_arrives 41 _ _ _ rfl) rfl ?_
  refine g_bipush (T_X12_arrives 42 _ _ _ rfl) (by decide) ?_
  refine g_icmp_ne (tgt := 115) (T_X12_arrives 43 _ _ _ rfl) (by decide) (fun cc => ?_) (fun cc => ?_)
  · replace H := ite_n cc H
    refine g_aload_n (T_X12_arrives 70 _ _ _ rfl) rfl ?_
    refine g_getR (c := 83) (r := 96) (T_X12_arrives 71 _ _ _ rfl) fl_X12_43 rfl (nR rfl) rfl (by decide) ?_
    refine g_iload_n (T_X12_arrives 72 _ _ _ rfl) rfl ?_
    obtain ⟨hg, H⟩ := grd_some H
    refine g_iald (c := 95) (T_X12_arrives 73 _ _ _ rfl) rfl hg ?_
    refine g_aload_n (T_X12_arrives 74 _ _ _ rfl) rfl ?_
    refine g_getR (c := 83) (r := 115) (T_X12_arrives 75 _ _ _ rfl) fl_X12_101 rfl (nR rfl) rfl (by decide) ?_
    refine g_iload_n (T_X12_arrives 76 _ _ _ rfl) rfl ?_
    obtain ⟨hg, H⟩ := grd_some H
    refine g_iald (c := 114) (T_X12_arrives 77 _ _ _ rfl) rfl hg ?_
    obtain ⟨y11, h10, hq, H⟩ := bd_some H
    refine g_callSi (M' := M_X12_min) (av := [.inl (h8 95 y1.toNat), .inl (h8 114 x1.toNat)]) (st := []) (T_X12_arrives 78 _ _ _ rfl) ml_X12_151 cb_X12_min rfl (Nat.le_of_ble_eq_true rfl) (by omega) (R_X12_min N _ _ _ _ hq) ?_
    refine g_istore (T_X12_arrives 79 _ _ _ rfl) (by decide) ?_
    refine g_aload_n (T_X12_arrives 80 _ _ _ rfl) rfl ?_
    refine g_getR (c := 83) (r := 115) (T_X12_arrives 81 _ _ _ rfl) fl_X12_101 rfl (nR rfl) rfl (by decide) ?_
    refine g_iload_n (T_X12_arrives 82 _ _ _ rfl) rfl ?_
    refine g_aload_n (T_X12_arrives 83 _ _ _ rfl) rfl ?_
    refine g_getR (c := 83) (r := 115) (T_X12_arrives 84 _ _ _ rfl) fl_X12_101 rfl (nR rfl) rfl (by decide) ?_
    refine g_iload_n (T_X12_arrives 85 _ _ _ rfl) rfl ?_
    obtain ⟨hg, H⟩ := grd_some H
    refine g_iald (c := 114) (T_X12_arrives 86 _ _ _ rfl) rfl hg ?_
    refine g_iload (T_X12_arrives 87 _ _ _ rfl) rfl ?_
    refine g_isub (T_X12_arrives 88 _ _ _ rfl) ?_
    obtain ⟨hg, H⟩ := grd_some H
    refine g_iast (c := 114) (T_X12_arrives 89 _ _ _ rfl) rfl hg ?_
    refine g_bndH H fun h12 H => ?_
    refine g_aload_n (T_X12_arrives 90 _ _ _ rfl) rfl ?_
    refine g_aload_n (T_X12_arrives 91 _ _ _ rfl) rfl ?_
    refine g_getI (c := 83) (T_X12_arrives 92 _ _ _ rfl) fl_X12_302 rfl (Or.inl rfl) ?_
    refine g_iload (T_X12_arrives 93 _ _ _ rfl) rfl ?_
    refine g_iadd (T_X12_arrives 94 _ _ _ rfl) ?_
    refine g_put (c := 83) (T_X12_arrives 95 _ _ _ rfl) fl_X12_302 rfl (Or.inl rfl) ?_
    refine g_bndH H fun h13 H => ?_
    refine g_aload_n (T_X12_arrives 96 _ _ _ rfl) rfl ?_
    refine g_getR (c := 83) (r := 85) (T_X12_arrives 97 _ _ _ rfl) fl_X12_7 rfl (nR rfl) rfl (by decide) ?_
    refine g_iconst (T_X12_arrives 98 _ _ _ rfl) ⟨by decide, by decide⟩ ?_
    refine g_iload (T_X12_arrives 99 _ _ _ rfl) rfl ?_
    refine g_iadd (T_X12_arrives 100 _ _ _ rfl) ?_
    refine g_sipush (T_X12_arrives 101 _ _ _ rfl) (by decide) ?_
    refine g_aload_n (T_X12_arrives 102 _ _ _ rfl) rfl ?_
    refine g_getR (c := 83) (r := 85) (T_X12_arrives 103 _ _ _ rfl) fl_X12_7 rfl (nR rfl) rfl (by decide) ?_
    refine g_iconst (T_X12_arrives 104 _ _ _ rfl) ⟨by decide, by decide⟩ ?_
    refine g_iload (T_X12_arrives 105 _ _ _ rfl) rfl ?_
    refine g_iadd (T_X12_arrives 106 _ _ _ rfl) ?_
    obtain ⟨hg, H⟩ := grd_some H
    refine g_iald (c := 84) (T_X12_arrives 107 _ _ _ rfl) rfl hg ?_
    refine g_iload (T_X12_arrives 108 _ _ _ rfl) rfl ?_
    refine g_iadd (T_X12_arrives 109 _ _ _ rfl) ?_
    obtain ⟨y15, h14, hq, H⟩ := bd_some H
    refine g_callSi (M' := M_X12_min) (av := [.inl 999, .inl (w32 ((h13 84 (w32 (0 + y2)).toNat) + y11))]) (st := [.inl (w32 (0 + y2)), .inr 85]) (T_X12_arrives 110 _ _ _ rfl) ml_X12_151 cb_X12_min rfl (Nat.le_of_ble_eq_true rfl) (by omega) (R_X12_min N _ _ _ _ hq) ?_
    obtain ⟨hg, H⟩ := grd_some H
    refine g_iast (c := 84) (T_X12_arrives 111 _ _ _ rfl) rfl hg ?_
    refine g_bndH H fun h16 H => ?_
    refine g_weak [true, true, true, false, false, true, true] ?_
    exact R_J_X12_arrives_185 N   _ _ _ _ _ _ H
  · replace H := ite_p cc H
    refine g_aload_n (T_X12_arrives 44 _ _ _ rfl) rfl ?_
    refine g_getR (c := 83) (r := 96) (T_X12_arrives 45 _ _ _ rfl) fl_X12_43 rfl (nR rfl) rfl (by decide) ?_
    refine g_iload_n (T_X12_arrives 46 _ _ _ rfl) rfl ?_
    obtain ⟨hg, H⟩ := grd_some H
    refine g_iald (c := 95) (T_X12_arrives 47 _ _ _ rfl) rfl hg ?_
    refine g_aload_n (T_X12_arrives 48 _ _ _ rfl) rfl ?_
    refine g_getR (c := 83) (r := 93) (T_X12_arrives 49 _ _ _ rfl) fl_X12_34 rfl (nR rfl) rfl (by decide) ?_
    refine g_iload_n (T_X12_arrives 50 _ _ _ rfl) rfl ?_
    obtain ⟨hg, H⟩ := grd_some H
    refine g_iald (c := 92) (T_X12_arrives 51 _ _ _ rfl) rfl hg ?_
    refine g_aload_n (T_X12_arrives 52 _ _ _ rfl) rfl ?_
    refine g_getR (c := 83) (r := 115) (T_X12_arrives 53 _ _ _ rfl) fl_X12_101 rfl (nR rfl) rfl (by decide) ?_
    refine g_iload_n (T_X12_arrives 54 _ _ _ rfl) rfl ?_
    obtain ⟨hg, H⟩ := grd_some H
    refine g_iald (c := 114) (T_X12_arrives 55 _ _ _ rfl) rfl hg ?_
    refine g_isub (T_X12_arrives 56 _ _ _ rfl) ?_
    obtain ⟨y18, h17, hq, H⟩ := bd_some H
    refine g_callSi (M' := M_X12_min) (av := [.inl (h8 95 y1.toNat), .inl (w32 ((h8 92 x1.toNat) - (h8 114 x1.toNat)))]) (st := []) (T_X12_arrives 57 _ _ _ rfl) ml_X12_151 cb_X12_min rfl (Nat.le_of_ble_eq_true rfl) (by omega) (R_X12_min N _ _ _ _ hq) ?_
    refine g_istore (T_X12_arrives 58 _ _ _ rfl) (by decide) ?_
    refine g_aload_n (T_X12_arrives 59 _ _ _ rfl) rfl ?_
    refine g_getR (c := 83) (r := 115) (T_X12_arrives 60 _ _ _ rfl) fl_X12_101 rfl (nR rfl) rfl (by decide) ?_
    refine g_iload_n (T_X12_arrives 61 _ _ _ rfl) rfl ?_
    refine g_aload_n (T_X12_arrives 62 _ _ _ rfl) rfl ?_
    refine g_getR (c := 83) (r := 115) (T_X12_arrives 63 _ _ _ rfl) fl_X12_101 rfl (nR rfl) rfl (by decide) ?_
    refine g_iload_n (T_X12_arrives 64 _ _ _ rfl) rfl ?_
    obtain ⟨hg, H⟩ := grd_some H
    refine g_iald (c := 114) (T_X12_arrives 65 _ _ _ rfl) rfl hg ?_
    refine g_iload (T_X12_arrives 66 _ _ _ rfl) rfl ?_
    refine g_iadd (T_X12_arrives 67 _ _ _ rfl) ?_
    obtain ⟨hg, H⟩ := grd_some H
    refine g_iast (c := 114) (T_X12_arrives 68 _ _ _ rfl) rfl hg ?_
    refine g_bndH H fun h19 H => ?_
    refine g_goto (tgt := 185) (T_X12_arrives 69 _ _ _ rfl) (by decide) ?_
    refine g_weak [true, true, true, false, false, true, true] ?_
    exact R_J_X12_arrives_185 N   _ _ _ _ _ _ H
def F_X12_byStreet (N : Nat) (x1 : Int) (x2 : Int) (x3 : Int) (h : Hp) : Option (Int × Hp) :=
  bv (F_X12_feels N x2 x3 0 h) fun h1 =>
  bd (F_X12_byLaw N x1 999 h1) fun y3 h2 =>
  some (y3, h2)
set_option maxRecDepth 100000 in
set_option maxHeartbeats 4000000 in
theorem R_X12_byStreet (N : Nat) (x1 : Int) (x2 : Int) (x3 : Int) (h : Hp) (res : Int × Hp) (H : F_X12_byStreet N x1 x2 x3 h = some res) : Runs M_X12_byStreet 4 [.inr 84, .inl x1, .inl x2, .inl x3] h (Qi res) := by
  refine Runs.of rfl (Nat.le_of_ble_eq_true rfl) ?_
  show Go M_X12_byStreet 4 0 [some (.inr 84), some (.inl x1), some (.inl x2), some (.inl x3)] [] h (Qi res)
  unfold F_X12_byStreet at H
  refine g_aload_n (T_X12_byStreet 0 _ _ _ rfl) rfl ?_
  refine g_iload_n (T_X12_byStreet 1 _ _ _ rfl) rfl ?_
  refine g_iload_n (T_X12_byStreet 2 _ _ _ rfl) rfl ?_
  refine g_iconst (T_X12_byStreet 3 _ _ _ rfl) ⟨by decide, by decide⟩ ?_
  obtain ⟨h1, hq, H⟩ := bv_some H
  refine g_callVv (M' := M_X12_feels) (c := 83) (av := [.inl x2, .inl x3, .inl 0]) (st := []) (T_X12_byStreet 4 _ _ _ rfl) ml_X12_268 cb_X12_feels rfl rfl (Nat.le_of_ble_eq_true rfl) (by omega) (R_X12_feels N _ _ _ _ _ hq) ?_
  refine g_aload_n (T_X12_byStreet 5 _ _ _ rfl) rfl ?_
  refine g_iload_n (T_X12_byStreet 6 _ _ _ rfl) rfl ?_
  refine g_sipush (T_X12_byStreet 7 _ _ _ rfl) (by decide) ?_
  obtain ⟨y3, h2, hq, H⟩ := bd_some H
  refine g_callVi (M' := M_X12_byLaw) (c := 83) (av := [.inl x1, .inl 999]) (st := []) (T_X12_byStreet 8 _ _ _ rfl) ml_X12_272 cb_X12_byLaw rfl rfl (Nat.le_of_ble_eq_true rfl) (by omega) (R_X12_byLaw N _ _ _ _ hq) ?_
  exact g_iret (T_X12_byStreet 9 _ _ _ rfl) rfl (qi_of H)
def J_X12_hourEnds_166 (N : Nat) (k2 : Int → Int → Hp → Option (Hp)) (x1 : Int) (x2 : Int) (h : Hp) : Option (Hp) :=
  bnd (w32 (x2 + 1)) fun y1 =>
  k2 x1 y1 h
set_option maxRecDepth 100000 in
set_option maxHeartbeats 4000000 in
theorem R_J_X12_hourEnds_166 (N : Nat) (k2 : Int → Int → Hp → Option (Hp)) (hk2 : ∀ (x1 : Int) (x2 : Int) (h : Hp) (res : Hp), k2 x1 x2 h = some res → Go M_X12_hourEnds 5 2 [some (.inr 84), some (.inl x1), some (.inl x2), none] [] h (Qv res)) (x1 : Int) (x2 : Int) (h : Hp) (res : Hp) (H : J_X12_hourEnds_166 N k2 x1 x2 h = some res) : Go M_X12_hourEnds 5 166 [some (.inr 84), some (.inl x1), some (.inl x2), none] [] h (Qv res) := by
  unfold J_X12_hourEnds_166 at H
  refine g_iincB (T_X12_hourEnds 108 _ _ _ rfl) rfl (by decide) H fun y1 H => ?_
  refine g_goto (tgt := 2) (T_X12_hourEnds 109 _ _ _ rfl) (by decide) ?_
  refine g_weak [true, true, true, false] ?_
  exact hk2 _ _ _ _ H
def L_X12_hourEnds_2 (N : Nat) : Nat → Int → Int → Hp → Option (Hp)
  | 0, _, _, _ => none
  | n + 1, x1, x2, h =>
    if 14 ≤ x2 then
      some h
    else
    bd (F_X12_isStreet N x2 h) fun y2 h1 =>
    if y2 = 0 then
      J_X12_hourEnds_166 N (L_X12_hourEnds_2 N n) x1 x2 h1
    else
    grd (0 ≤ (w32 (0 + x2)) ∧ (w32 (0 + x2)) < 17) <|
    bd (F_X12_byStreet N 119 x2 x1 h1) fun y4 h3 =>
    bd (F_X12_min N (h1 84 (w32 (0 + x2)).toNat) y4 h3) fun y6 h5 =>
    grd (0 ≤ (w32 (0 + x2)) ∧ (w32 (0 + x2)) < 17) <|
    grd (0 ≤ (w32 (0 + x2)) ∧ (w32 (0 + x2)) < 17) <|
    bnd (hw h5 84 (w32 (0 + x2)).toNat (w32 ((h5 84 (w32 (0 + x2)).toNat) - y6))) fun h7 =>
    bnd (hw h7 83 47 (w32 ((h7 83 47) + y6))) fun h8 =>
    grd (0 ≤ (w32 (0 + x2)) ∧ (w32 (0 + x2)) < 17) <|
    bd (F_X12_byStreet N 99 x2 x1 h8) fun y10 h9 =>
    bd (F_X12_min N (h8 84 (w32 (0 + x2)).toNat) y10 h9) fun y12 h11 =>
    grd (0 ≤ (w32 (0 + x2)) ∧ (w32 (0 + x2)) < 17) <|
    grd (0 ≤ (w32 (0 + x2)) ∧ (w32 (0 + x2)) < 17) <|
    bnd (hw h11 84 (w32 (0 + x2)).toNat (w32 ((h11 84 (w32 (0 + x2)).toNat) - y12))) fun h13 =>
    bnd (hw h13 83 48 (w32 ((h13 83 48) + y12))) fun h14 =>
    grd (0 ≤ (w32 (0 + x2)) ∧ (w32 (0 + x2)) < 17) <|
    if (h14 84 (w32 (0 + x2)).toNat) ≤ 0 then
      J_X12_hourEnds_166 N (L_X12_hourEnds_2 N n) x1 x2 h14
    else
    grd (0 ≤ (w32 (0 + x2)) ∧ (w32 (0 + x2)) < 17) <|
    bd (F_X12_byStreet N 115 x2 x1 h14) fun y16 h15 =>
    if (h14 84 (w32 (0 + x2)).toNat) < y16 then
      J_X12_hourEnds_166 N (L_X12_hourEnds_2 N n) x1 x2 h15
    else
    grd (0 ≤ x2 ∧ x2 < 14) <|
    bnd (hw h15 84 (15 : Int).toNat (w32 ((h15 84 (15 : Int).toNat) + (h15 87 x2.toNat)))) fun h17 =>
    J_X12_hourEnds_166 N (L_X12_hourEnds_2 N n) x1 x2 h17
set_option maxRecDepth 100000 in
set_option maxHeartbeats 4000000 in
theorem R_L_X12_hourEnds_2 (N : Nat) : ∀ (n : Nat) (x1 : Int) (x2 : Int) (h : Hp) (res : Hp), L_X12_hourEnds_2 N n x1 x2 h = some res → Go M_X12_hourEnds 5 2 [some (.inr 84), some (.inl x1), some (.inl x2), none] [] h (Qv res)
  | 0, _, _, _, _, H => by cases H
  | n + 1, x1, x2, h, res, H => by
    have ih := R_L_X12_hourEnds_2 N n
    simp only [L_X12_hourEnds_2] at H
    refine g_iload_n (T_X12_hourEnds 2 _ _ _ rfl) rfl ?_
    refine g_bipush (T_X12_hourEnds 3 _ _ _ rfl) (by decide) ?_
    refine g_icmp_ge (tgt := 172) (T_X12_hourEnds 4 _ _ _ rfl) (by decide) (fun cc => ?_) (fun cc => ?_)
    · replace H := ite_p cc H
      exact g_vret (T_X12_hourEnds 110 _ _ _ rfl) rfl (qv_of H)
    · replace H := ite_n cc H
      refine g_aload_n (T_X12_hourEnds 5 _ _ _ rfl) rfl ?_
      refine g_iload_n (T_X12_hourEnds 6 _ _ _ rfl) rfl ?_
      obtain ⟨y2, h1, hq, H⟩ := bd_some H
      refine g_callVi (M' := M_X12_isStreet) (c := 83) (av := [.inl x2]) (st := []) (T_X12_hourEnds 7 _ _ _ rfl) ml_X12_146 cb_X12_isStreet rfl rfl (Nat.le_of_ble_eq_true rfl) (by omega) (R_X12_isStreet N _ _ _ hq) ?_
      refine g_if_ne (tgt := 19) (T_X12_hourEnds 8 _ _ _ rfl) (by decide) (fun cc => ?_) (fun cc => ?_)
      · replace H := ite_n cc H
        refine g_aload_n (T_X12_hourEnds 10 _ _ _ rfl) rfl ?_
        refine g_getR (c := 83) (r := 85) (T_X12_hourEnds 11 _ _ _ rfl) fl_X12_7 rfl (nR rfl) rfl (by decide) ?_
        refine g_iconst (T_X12_hourEnds 12 _ _ _ rfl) ⟨by decide, by decide⟩ ?_
        refine g_iload_n (T_X12_hourEnds 13 _ _ _ rfl) rfl ?_
        refine g_iadd (T_X12_hourEnds 14 _ _ _ rfl) ?_
        obtain ⟨hg, H⟩ := grd_some H
        refine g_iald (c := 84) (T_X12_hourEnds 15 _ _ _ rfl) rfl hg ?_
        refine g_aload_n (T_X12_hourEnds 16 _ _ _ rfl) rfl ?_
        refine g_bipush (T_X12_hourEnds 17 _ _ _ rfl) (by decide) ?_
        refine g_iload_n (T_X12_hourEnds 18 _ _ _ rfl) rfl ?_
        refine g_iload_n (T_X12_hourEnds 19 _ _ _ rfl) rfl ?_
        obtain ⟨y4, h3, hq, H⟩ := bd_some H
        refine g_callVi (M' := M_X12_byStreet) (c := 83) (av := [.inl 119, .inl x2, .inl x1]) (st := [.inl (h1 84 (w32 (0 + x2)).toNat)]) (T_X12_hourEnds 20 _ _ _ rfl) ml_X12_308 cb_X12_byStreet rfl rfl (Nat.le_of_ble_eq_true rfl) (by omega) (R_X12_byStreet N _ _ _ _ _ hq) ?_
        obtain ⟨y6, h5, hq, H⟩ := bd_some H
        refine g_callSi (M' := M_X12_min) (av := [.inl (h1 84 (w32 (0 + x2)).toNat), .inl y4]) (st := []) (T_X12_hourEnds 21 _ _ _ rfl) ml_X12_151 cb_X12_min rfl (Nat.le_of_ble_eq_true rfl) (by omega) (R_X12_min N _ _ _ _ hq) ?_
        refine g_istore_n (T_X12_hourEnds 22 _ _ _ rfl) (by decide) ?_
        refine g_aload_n (T_X12_hourEnds 23 _ _ _ rfl) rfl ?_
        refine g_getR (c := 83) (r := 85) (T_X12_hourEnds 24 _ _ _ rfl) fl_X12_7 rfl (nR rfl) rfl (by decide) ?_
        refine g_iconst (T_X12_hourEnds 25 _ _ _ rfl) ⟨by decide, by decide⟩ ?_
        refine g_iload_n (T_X12_hourEnds 26 _ _ _ rfl) rfl ?_
        refine g_iadd (T_X12_hourEnds 27 _ _ _ rfl) ?_
        refine g_aload_n (T_X12_hourEnds 28 _ _ _ rfl) rfl ?_
        refine g_getR (c := 83) (r := 85) (T_X12_hourEnds 29 _ _ _ rfl) fl_X12_7 rfl (nR rfl) rfl (by decide) ?_
        refine g_iconst (T_X12_hourEnds 30 _ _ _ rfl) ⟨by decide, by decide⟩ ?_
        refine g_iload_n (T_X12_hourEnds 31 _ _ _ rfl) rfl ?_
        refine g_iadd (T_X12_hourEnds 32 _ _ _ rfl) ?_
        obtain ⟨hg, H⟩ := grd_some H
        refine g_iald (c := 84) (T_X12_hourEnds 33 _ _ _ rfl) rfl hg ?_
        refine g_iload_n (T_X12_hourEnds 34 _ _ _ rfl) rfl ?_
        refine g_isub (T_X12_hourEnds 35 _ _ _ rfl) ?_
        obtain ⟨hg, H⟩ := grd_some H
        refine g_iast (c := 84) (T_X12_hourEnds 36 _ _ _ rfl) rfl hg ?_
        refine g_bndH H fun h7 H => ?_
        refine g_aload_n (T_X12_hourEnds 37 _ _ _ rfl) rfl ?_
        refine g_aload_n (T_X12_hourEnds 38 _ _ _ rfl) rfl ?_
        refine g_getI (c := 83) (T_X12_hourEnds 39 _ _ _ rfl) fl_X12_311 rfl (Or.inl rfl) ?_
        refine g_iload_n (T_X12_hourEnds 40 _ _ _ rfl) rfl ?_
        refine g_iadd (T_X12_hourEnds 41 _ _ _ rfl) ?_
        refine g_put (c := 83) (T_X12_hourEnds 42 _ _ _ rfl) fl_X12_311 rfl (Or.inl rfl) ?_
        refine g_bndH H fun h8 H => ?_
        refine g_aload_n (T_X12_hourEnds 43 _ _ _ rfl) rfl ?_
        refine g_getR (c := 83) (r := 85) (T_X12_hourEnds 44 _ _ _ rfl) fl_X12_7 rfl (nR rfl) rfl (by decide) ?_
        refine g_iconst (T_X12_hourEnds 45 _ _ _ rfl) ⟨by decide, by decide⟩ ?_
        refine g_iload_n (T_X12_hourEnds 46 _ _ _ rfl) rfl ?_
        refine g_iadd (T_X12_hourEnds 47 _ _ _ rfl) ?_
        obtain ⟨hg, H⟩ := grd_some H
        refine g_iald (c := 84) (T_X12_hourEnds 48 _ _ _ rfl) rfl hg ?_
        refine g_aload_n (T_X12_hourEnds 49 _ _ _ rfl) rfl ?_
        refine g_bipush (T_X12_hourEnds 50 _ _ _ rfl) (by decide) ?_
        refine g_iload_n (T_X12_hourEnds 51 _ _ _ rfl) rfl ?_
        refine g_iload_n (T_X12_hourEnds 52 _ _ _ rfl) rfl ?_
        obtain ⟨y10, h9, hq, H⟩ := bd_some H
        refine g_callVi (M' := M_X12_byStreet) (c := 83) (av := [.inl 99, .inl x2, .inl x1]) (st := [.inl (h8 84 (w32 (0 + x2)).toNat)]) (T_X12_hourEnds 53 _ _ _ rfl) ml_X12_308 cb_X12_byStreet rfl rfl (Nat.le_of_ble_eq_true rfl) (by omega) (R_X12_byStreet N _ _ _ _ _ hq) ?_
        obtain ⟨y12, h11, hq, H⟩ := bd_some H
        refine g_callSi (M' := M_X12_min) (av := [.inl (h8 84 (w32 (0 + x2)).toNat), .inl y10]) (st := []) (T_X12_hourEnds 54 _ _ _ rfl) ml_X12_151 cb_X12_min rfl (Nat.le_of_ble_eq_true rfl) (by omega) (R_X12_min N _ _ _ _ hq) ?_
        refine g_istore_n (T_X12_hourEnds 55 _ _ _ rfl) (by decide) ?_
        refine g_aload_n (T_X12_hourEnds 56 _ _ _ rfl) rfl ?_
        refine g_getR (c := 83) (r := 85) (T_X12_hourEnds 57 _ _ _ rfl) fl_X12_7 rfl (nR rfl) rfl (by decide) ?_
        refine g_iconst (T_X12_hourEnds 58 _ _ _ rfl) ⟨by decide, by decide⟩ ?_
        refine g_iload_n (T_X12_hourEnds 59 _ _ _ rfl) rfl ?_
        refine g_iadd (T_X12_hourEnds 60 _ _ _ rfl) ?_
        refine g_aload_n (T_X12_hourEnds 61 _ _ _ rfl) rfl ?_
        refine g_getR (c := 83) (r := 85) (T_X12_hourEnds 62 _ _ _ rfl) fl_X12_7 rfl (nR rfl) rfl (by decide) ?_
        refine g_iconst (T_X12_hourEnds 63 _ _ _ rfl) ⟨by decide, by decide⟩ ?_
        refine g_iload_n (T_X12_hourEnds 64 _ _ _ rfl) rfl ?_
        refine g_iadd (T_X12_hourEnds 65 _ _ _ rfl) ?_
        obtain ⟨hg, H⟩ := grd_some H
        refine g_iald (c := 84) (T_X12_hourEnds 66 _ _ _ rfl) rfl hg ?_
        refine g_iload_n (T_X12_hourEnds 67 _ _ _ rfl) rfl ?_
        refine g_isub (T_X12_hourEnds 68 _ _ _ rfl) ?_
        obtain ⟨hg, H⟩ := grd_some H
        refine g_iast (c := 84) (T_X12_hourEnds 69 _ _ _ rfl) rfl hg ?_
        refine g_bndH H fun h13 H => ?_
        refine g_aload_n (T_X12_hourEnds 70 _ _ _ rfl) rfl ?_
        refine g_aload_n (T_X12_hourEnds 71 _ _ _ rfl) rfl ?_
        refine g_getI (c := 83) (T_X12_hourEnds 72 _ _ _ rfl) fl_X12_314 rfl (Or.inl rfl) ?_
        refine g_iload_n (T_X12_hourEnds 73 _ _ _ rfl) rfl ?_
        refine g_iadd (T_X12_hourEnds 74 _ _ _ rfl) ?_
        refine g_put (c := 83) (T_X12_hourEnds 75 _ _ _ rfl) fl_X12_314 rfl (Or.inl rfl) ?_
        refine g_bndH H fun h14 H => ?_
        refine g_aload_n (T_X12_hourEnds 76 _ _ _ rfl) rfl ?_
        refine g_getR (c := 83) (r := 85) (T_X12_hourEnds 77 _ _ _ rfl) fl_X12_7 rfl (nR rfl) rfl (by decide) ?_
        refine g_iconst (T_X12_hourEnds 78 _ _ _ rfl) ⟨by decide, by decide⟩ ?_
        refine g_iload_n (T_X12_hourEnds 79 _ _ _ rfl) rfl ?_
        refine g_iadd (T_X12_hourEnds 80 _ _ _ rfl) ?_
        obtain ⟨hg, H⟩ := grd_some H
        refine g_iald (c := 84) (T_X12_hourEnds 81 _ _ _ rfl) rfl hg ?_
        refine g_if_le (tgt := 166) (T_X12_hourEnds 82 _ _ _ rfl) (by decide) (fun cc => ?_) (fun cc => ?_)
        · replace H := ite_p cc H
          refine g_weak [true, true, true, false] ?_
          exact R_J_X12_hourEnds_166 N (L_X12_hourEnds_2 N n) ih _ _ _ _ H
        · replace H := ite_n cc H
          refine g_aload_n (T_X12_hourEnds 83 _ _ _ rfl) rfl ?_
          refine g_getR (c := 83) (r := 85) (T_X12_hourEnds 84 _ _ _ rfl) fl_X12_7 rfl (nR rfl) rfl (by decide) ?_
          refine g_iconst (T_X12_hourEnds 85 _ _ _ rfl) ⟨by decide, by decide⟩ ?_
          refine g_iload_n (T_X12_hourEnds 86 _ _ _ rfl) rfl ?_
          refine g_iadd (T_X12_hourEnds 87 _ _ _ rfl) ?_
          obtain ⟨hg, H⟩ := grd_some H
          refine g_iald (c := 84) (T_X12_hourEnds 88 _ _ _ rfl) rfl hg ?_
          refine g_aload_n (T_X12_hourEnds 89 _ _ _ rfl) rfl ?_
          refine g_bipush (T_X12_hourEnds 90 _ _ _ rfl) (by decide) ?_
          refine g_iload_n (T_X12_hourEnds 91 _ _ _ rfl) rfl ?_
          refine g_iload_n (T_X12_hourEnds 92 _ _ _ rfl) rfl ?_
          obtain ⟨y16, h15, hq, H⟩ := bd_some H
          refine g_callVi (M' := M_X12_byStreet) (c := 83) (av := [.inl 115, .inl x2, .inl x1]) (st := [.inl (h14 84 (w32 (0 + x2)).toNat)]) (T_X12_hourEnds 93 _ _ _ rfl) ml_X12_308 cb_X12_byStreet rfl rfl (Nat.le_of_ble_eq_true rfl) (by omega) (R_X12_byStreet N _ _ _ _ _ hq) ?_
          refine g_icmp_lt (tgt := 166) (T_X12_hourEnds 94 _ _ _ rfl) (by decide) (fun cc => ?_) (fun cc => ?_)
          · replace H := ite_p cc H
            refine g_weak [true, true, true, false] ?_
            exact R_J_X12_hourEnds_166 N (L_X12_hourEnds_2 N n) ih _ _ _ _ H
          · replace H := ite_n cc H
            refine g_aload_n (T_X12_hourEnds 95 _ _ _ rfl) rfl ?_
            refine g_getR (c := 83) (r := 85) (T_X12_hourEnds 96 _ _ _ rfl) fl_X12_7 rfl (nR rfl) rfl (by decide) ?_
            refine g_bipush (T_X12_hourEnds 97 _ _ _ rfl) (by decide) ?_
            refine g_aload_n (T_X12_hourEnds 98 _ _ _ rfl) rfl ?_
            refine g_getR (c := 83) (r := 85) (T_X12_hourEnds 99 _ _ _ rfl) fl_X12_7 rfl (nR rfl) rfl (by decide) ?_
            refine g_bipush (T_X12_hourEnds 100 _ _ _ rfl) (by decide) ?_
            refine g_iald (c := 84) (T_X12_hourEnds 101 _ _ _ rfl) rfl (by decide) ?_
            refine g_aload_n (T_X12_hourEnds 102 _ _ _ rfl) rfl ?_
            refine g_getR (c := 83) (r := 88) (T_X12_hourEnds 103 _ _ _ rfl) fl_X12_19 rfl (nR rfl) rfl (by decide) ?_
            refine g_iload_n (T_X12_hourEnds 104 _ _ _ rfl) rfl ?_
            obtain ⟨hg, H⟩ := grd_some H
            refine g_iald (c := 87) (T_X12_hourEnds 105 _ _ _ rfl) rfl hg ?_
            refine g_iadd (T_X12_hourEnds 106 _ _ _ rfl) ?_
            refine g_iast (c := 84) (T_X12_hourEnds 107 _ _ _ rfl) rfl (by decide) ?_
            refine g_bndH H fun h17 H => ?_
            refine g_weak [true, true, true, false] ?_
            exact R_J_X12_hourEnds_166 N (L_X12_hourEnds_2 N n) ih _ _ _ _ H
      · replace H := ite_p cc H
        refine g_goto (tgt := 166) (T_X12_hourEnds 9 _ _ _ rfl) (by decide) ?_
        refine g_weak [true, true, true, false] ?_
        exact R_J_X12_hourEnds_166 N (L_X12_hourEnds_2 N n) ih _ _ _ _ H
def F_X12_hourEnds (N : Nat) (x1 : Int) (h : Hp) : Option (Hp) :=
  L_X12_hourEnds_2 N  N x1 0 h
set_option maxRecDepth 100000 in
set_option maxHeartbeats 4000000 in
theorem R_X12_hourEnds (N : Nat) (x1 : Int) (h : Hp) (res : Hp) (H : F_X12_hourEnds N x1 h = some res) : Runs M_X12_hourEnds 5 [.inr 84, .inl x1] h (Qv res) := by
  refine Runs.of rfl (Nat.le_of_ble_eq_true rfl) ?_
  show Go M_X12_hourEnds 5 0 [some (.inr 84), some (.inl x1), none, none] [] h (Qv res)
  unfold F_X12_hourEnds at H
  refine g_iconst (T_X12_hourEnds 0 _ _ _ rfl) ⟨by decide, by decide⟩ ?_
  refine g_istore_n (T_X12_hourEnds 1 _ _ _ rfl) (by decide) ?_
  refine g_weak [true, true, true, false] ?_
  refine R_L_X12_hourEnds_2 N   _ _ _ _ _ H
def F_X12_isCart (N : Nat) (x1 : Int) (h : Hp) : Option (Int × Hp) :=
  if x1 < 0 then
    some (0, h)
  else
  if 5 ≤ x1 then
    some (0, h)
  else
  bd (F_X12_has N (h 83 13) x1 h) fun y2 h1 =>
  if y2 = 0 then
    some (0, h1)
  else
  some (1, h1)
set_option maxRecDepth 100000 in
set_option maxHeartbeats 4000000 in
theorem R_X12_isCart (N : Nat) (x1 : Int) (h : Hp) (res : Int × Hp) (H : F_X12_isCart N x1 h = some res) : Runs M_X12_isCart 2 [.inr 84, .inl x1] h (Qi res) := by
  refine Runs.of rfl (Nat.le_of_ble_eq_true rfl) ?_
  show Go M_X12_isCart 2 0 [some (.inr 84), some (.inl x1)] [] h (Qi res)
  unfold F_X12_isCart at H
  refine g_iload_n (T_X12_isCart 0 _ _ _ rfl) rfl ?_
  refine g_if_lt (tgt := 24) (T_X12_isCart 1 _ _ _ rfl) (by decide) (fun cc => ?_) (fun cc => ?_)
  · replace H := ite_p cc H
    refine g_iconst (T_X12_isCart 12 _ _ _ rfl) ⟨by decide, by decide⟩ ?_
    exact g_zret (T_X12_isCart 13 _ _ _ rfl) rfl (by decide) (qi_of H)
  · replace H := ite_n cc H
    refine g_iload_n (T_X12_isCart 2 _ _ _ rfl) rfl ?_
    refine g_iconst (T_X12_isCart 3 _ _ _ rfl) ⟨by decide, by decide⟩ ?_
    refine g_icmp_ge (tgt := 24) (T_X12_isCart 4 _ _ _ rfl) (by decide) (fun cc => ?_) (fun cc => ?_)
    · replace H := ite_p cc H
      refine g_iconst (T_X12_isCart 12 _ _ _ rfl) ⟨by decide, by decide⟩ ?_
      exact g_zret (T_X12_isCart 13 _ _ _ rfl) rfl (by decide) (qi_of H)
    · replace H := ite_n cc H
      refine g_aload_n (T_X12_isCart 5 _ _ _ rfl) rfl ?_
      refine g_getI (c := 83) (T_X12_isCart 6 _ _ _ rfl) fl_X12_143 rfl (Or.inl rfl) ?_
      refine g_iload_n (T_X12_isCart 7 _ _ _ rfl) rfl ?_
      obtain ⟨y2, h1, hq, H⟩ := bd_some H
      refine g_callSi (M' := M_X12_has) (av := [.inl (h 83 13), .inl x1]) (st := []) (T_X12_isCart 8 _ _ _ rfl) ml_X12_139 cb_X12_has rfl (Nat.le_of_ble_eq_true rfl) (by omega) (R_X12_has N _ _ _ _ hq) ?_
      refine g_if_eq (tgt := 24) (T_X12_isCart 9 _ _ _ rfl) (by decide) (fun cc => ?_) (fun cc => ?_)
      · replace H := ite_p cc H
        refine g_iconst (T_X12_isCart 12 _ _ _ rfl) ⟨by decide, by decide⟩ ?_
        exact g_zret (T_X12_isCart 13 _ _ _ rfl) rfl (by decide) (qi_of H)
      · replace H := ite_n cc H
        refine g_iconst (T_X12_isCart 10 _ _ _ rfl) ⟨by decide, by decide⟩ ?_
        refine g_goto (tgt := 25) (T_X12_isCart 11 _ _ _ rfl) (by decide) ?_
        exact g_zret (T_X12_isCart 13 _ _ _ rfl) rfl (by decide) (qi_of H)
def L_X12_goesNight_103 (N : Nat) (k122 : Int → Int → Hp → Option (Hp)) : Nat → Int → Int → Hp → Option (Hp)
  | 0, _, _, _ => none
  | n + 1, x1, x2, h =>
    grd (0 ≤ x2 ∧ x2 < 5) <|
    if (h 116 x2.toNat) = x1 then
      bv (F_X12_arrives N x2 x1 h) fun h1 =>
      (L_X12_goesNight_103 N k122 n) x1 x2 h1
    else
    k122 x1 x2 h
set_option maxRecDepth 100000 in
set_option maxHeartbeats 4000000 in
theorem R_L_X12_goesNight_103 (N : Nat) (k122 : Int → Int → Hp → Option (Hp)) (hk122 : ∀ (x1 : Int) (x2 : Int) (h : Hp) (res : Hp), k122 x1 x2 h = some res → Go M_X12_goesNight 6 122 [some (.inr 84), some (.inl x1), some (.inl x2)] [] h (Qv res)) : ∀ (n : Nat) (x1 : Int) (x2 : Int) (h : Hp) (res : Hp), L_X12_goesNight_103 N k122 n x1 x2 h = some res → Go M_X12_goesNight 6 103 [some (.inr 84), some (.inl x1), some (.inl x2)] [] h (Qv res)
  | 0, _, _, _, _, H => by cases H
  | n + 1, x1, x2, h, res, H => by
    have ih := R_L_X12_goesNight_103 N k122 hk122 n
    simp only [L_X12_goesNight_103] at H
    refine g_aload_n (T_X12_goesNight 63 _ _ _ rfl) rfl ?_
    refine g_getR (c := 83) (r := 117) (T_X12_goesNight 64 _ _ _ rfl) fl_X12_107 rfl (nR rfl) rfl (by decide) ?_
    refine g_iload_n (T_X12_goesNight 65 _ _ _ rfl) rfl ?_
    obtain ⟨hg, H⟩ := grd_some H
    refine g_iald (c := 116) (T_X12_goesNight 66 _ _ _ rfl) rfl hg ?_
    refine g_iload_n (T_X12_goesNight 67 _ _ _ rfl) rfl ?_
    refine g_icmp_ne (tgt := 122) (T_X12_goesNight 68 _ _ _ rfl) (by decide) (fun cc => ?_) (fun cc => ?_)
    · replace H := ite_n cc H
      refine g_weak [true, true, true] ?_
      exact hk122 _ _ _ _ H
    · replace H := ite_p cc H
      refine g_aload_n (T_X12_goesNight 69 _ _ _ rfl) rfl ?_
      refine g_iload_n (T_X12_goesNight 70 _ _ _ rfl) rfl ?_
      refine g_iload_n (T_X12_goesNight 71 _ _ _ rfl) rfl ?_
      obtain ⟨h1, hq, H⟩ := bv_some H
      refine g_callVv (M' := M_X12_arrives) (c := 83) (av := [.inl x2, .inl x1]) (st := []) (T_X12_goesNight 72 _ _ _ rfl) ml_X12_323 cb_X12_arrives rfl rfl (Nat.le_of_ble_eq_true rfl) (by omega) (R_X12_arrives N _ _ _ _ hq) ?_
      refine g_goto (tgt := 103) (T_X12_goesNight 73 _ _ _ rfl) (by decide) ?_
      refine g_weak [true, true, true] ?_
      exact ih _ _ _ _ H
def L_X12_goesNight_98 (N : Nat) (k128 : Int → Hp → Option (Hp)) : Nat → Int → Int → Hp → Option (Hp)
  | 0, _, _, _ => none
  | n + 1, x1, x2, h =>
    if 5 ≤ x2 then
      k128 x1 h
    else
    L_X12_goesNight_103 N (fun (v1 : Int) (v2 : Int) (h3 : Hp) =>
      bnd (w32 (v2 + 1)) fun y4 =>
      (L_X12_goesNight_98 N k128 n) v1 y4 h3) N x1 x2 h
set_option maxRecDepth 100000 in
set_option maxHeartbeats 4000000 in
theorem R_L_X12_goesNight_98 (N : Nat) (k128 : Int → Hp → Option (Hp)) (hk128 : ∀ (x1 : Int) (h : Hp) (res : Hp), k128 x1 h = some res → Go M_X12_goesNight 6 128 [some (.inr 84), some (.inl x1), none] [] h (Qv res)) : ∀ (n : Nat) (x1 : Int) (x2 : Int) (h : Hp) (res : Hp), L_X12_goesNight_98 N k128 n x1 x2 h = some res → Go M_X12_goesNight 6 98 [some (.inr 84), some (.inl x1), some (.inl x2)] [] h (Qv res)
  | 0, _, _, _, _, H => by cases H
  | n + 1, x1, x2, h, res, H => by
    have ih := R_L_X12_goesNight_98 N k128 hk128 n
    simp only [L_X12_goesNight_98] at H
    refine g_iload_n (T_X12_goesNight 60 _ _ _ rfl) rfl ?_
    refine g_iconst (T_X12_goesNight 61 _ _ _ rfl) ⟨by decide, by decide⟩ ?_
    refine g_icmp_ge (tgt := 128) (T_X12_goesNight 62 _ _ _ rfl) (by decide) (fun cc => ?_) (fun cc => ?_)
    · replace H := ite_p cc H
      refine g_weak [true, true, false] ?_
      exact hk128 _ _ _ H
    · replace H := ite_n cc H
      refine g_weak [true, true, true] ?_
      refine R_L_X12_goesNight_103 N _ (fun v1 v2 h3 res H => ?_) _ _ _ _ _ H
      · refine g_iincB (T_X12_goesNight 74 _ _ _ rfl) rfl (by decide) H fun y4 H => ?_
        refine g_goto (tgt := 98) (T_X12_goesNight 75 _ _ _ rfl) (by decide) ?_
        refine g_weak [true, true, true] ?_
        exact ih _ _ _ _ H
def J_X12_goesNight_145 (N : Nat) (k89 : Int → Hp → Option (Hp)) (x1 : Int) (h : Hp) : Option (Hp) :=
  bnd (w32 (x1 + 1)) fun y1 =>
  k89 y1 h
set_option maxRecDepth 100000 in
set_option maxHeartbeats 4000000 in
theorem R_J_X12_goesNight_145 (N : Nat) (k89 : Int → Hp → Option (Hp)) (hk89 : ∀ (x1 : Int) (h : Hp) (res : Hp), k89 x1 h = some res → Go M_X12_goesNight 6 89 [some (.inr 84), some (.inl x1), none] [] h (Qv res)) (x1 : Int) (h : Hp) (res : Hp) (H : J_X12_goesNight_145 N k89 x1 h = some res) : Go M_X12_goesNight 6 145 [some (.inr 84), some (.inl x1), none] [] h (Qv res) := by
  unfold J_X12_goesNight_145 at H
  refine g_iincB (T_X12_goesNight 86 _ _ _ rfl) rfl (by decide) H fun y1 H => ?_
  refine g_goto (tgt := 89) (T_X12_goesNight 87 _ _ _ rfl) (by decide) ?_
  refine g_weak [true, true, false] ?_
  exact hk89 _ _ _ H
def L_X12_goesNight_89 (N : Nat) : Nat → Int → Hp → Option (Hp)
  | 0, _, _ => none
  | n + 1, x1, h =>
    if 600 ≤ x1 then
      some h
    else
    L_X12_goesNight_98 N (fun (v1 : Int) (h2 : Hp) =>
      if (irem v1 60) = 59 then
        bv (F_X12_hourEnds N (idiv v1 60) h2) fun h3 =>
        J_X12_goesNight_145 N (L_X12_goesNight_89 N n) v1 h3
      else
      J_X12_goesNight_145 N (L_X12_goesNight_89 N n) v1 h2) N x1 0 h
set_option maxRecDepth 100000 in
set_option maxHeartbeats 4000000 in
theorem R_L_X12_goesNight_89 (N : Nat) : ∀ (n : Nat) (x1 : Int) (h : Hp) (res : Hp), L_X12_goesNight_89 N n x1 h = some res → Go M_X12_goesNight 6 89 [some (.inr 84), some (.inl x1), none] [] h (Qv res)
  | 0, _, _, _, H => by cases H
  | n + 1, x1, h, res, H => by
    have ih := R_L_X12_goesNight_89 N n
    simp only [L_X12_goesNight_89] at H
    refine g_iload_n (T_X12_goesNight 55 _ _ _ rfl) rfl ?_
    refine g_sipush (T_X12_goesNight 56 _ _ _ rfl) (by decide) ?_
    refine g_icmp_ge (tgt := 151) (T_X12_goesNight 57 _ _ _ rfl) (by decide) (fun cc => ?_) (fun cc => ?_)
    · replace H := ite_p cc H
      exact g_vret (T_X12_goesNight 88 _ _ _ rfl) rfl (qv_of H)
    · replace H := ite_n cc H
      refine g_iconst (T_X12_goesNight 58 _ _ _ rfl) ⟨by decide, by decide⟩ ?_
      refine g_istore_n (T_X12_goesNight 59 _ _ _ rfl) (by decide) ?_
      refine g_weak [true, true, true] ?_
      refine R_L_X12_goesNight_98 N _ (fun v1 h2 res H => ?_) _ _ _ _ _ H
      · refine g_iload_n (T_X12_goesNight 76 _ _ _ rfl) rfl ?_
        refine g_bipush (T_X12_goesNight 77 _ _ _ rfl) (by decide) ?_
        refine g_irem (T_X12_goesNight 78 _ _ _ rfl) (by decide) ?_
        refine g_bipush (T_X12_goesNight 79 _ _ _ rfl) (by decide) ?_
        refine g_icmp_ne (tgt := 145) (T_X12_goesNight 80 _ _ _ rfl) (by decide) (fun cc => ?_) (fun cc => ?_)
        · replace H := ite_n cc H
          refine g_weak [true, true, false] ?_
          exact R_J_X12_goesNight_145 N (L_X12_goesNight_89 N n) ih _ _ _ H
        · replace H := ite_p cc H
          refine g_aload_n (T_X12_goesNight 81 _ _ _ rfl) rfl ?_
          refine g_iload_n (T_X12_goesNight 82 _ _ _ rfl) rfl ?_
          refine g_bipush (T_X12_goesNight 83 _ _ _ rfl) (by decide) ?_
          refine g_idiv (T_X12_goesNight 84 _ _ _ rfl) (by decide) ?_
          obtain ⟨h3, hq, H⟩ := bv_some H
          refine g_callVv (M' := M_X12_hourEnds) (c := 83) (av := [.inl (idiv v1 60)]) (st := []) (T_X12_goesNight 85 _ _ _ rfl) ml_X12_326 cb_X12_hourEnds rfl rfl (Nat.le_of_ble_eq_true rfl) (by omega) (R_X12_hourEnds N _ _ _ hq) ?_
          refine g_weak [true, true, false] ?_
          exact R_J_X12_goesNight_145 N (L_X12_goesNight_89 N n) ih _ _ _ H
def J_X12_goesNight_81 (N : Nat) (k22 : Int → Hp → Option (Hp)) (x1 : Int) (h : Hp) : Option (Hp) :=
  bnd (w32 (x1 + 1)) fun y1 =>
  k22 y1 h
set_option maxRecDepth 100000 in
set_option maxHeartbeats 4000000 in
theorem R_J_X12_goesNight_81 (N : Nat) (k22 : Int → Hp → Option (Hp)) (hk22 : ∀ (x1 : Int) (h : Hp) (res : Hp), k22 x1 h = some res → Go M_X12_goesNight 6 22 [some (.inr 84), some (.inl x1), none] [] h (Qv res)) (x1 : Int) (h : Hp) (res : Hp) (H : J_X12_goesNight_81 N k22 x1 h = some res) : Go M_X12_goesNight 6 81 [some (.inr 84), some (.inl x1), none] [] h (Qv res) := by
  unfold J_X12_goesNight_81 at H
  refine g_iincB (T_X12_goesNight 51 _ _ _ rfl) rfl (by decide) H fun y1 H => ?_
  refine g_goto (tgt := 22) (T_X12_goesNight 52 _ _ _ rfl) (by decide) ?_
  refine g_weak [true, true, false] ?_
  exact hk22 _ _ _ H
def L_X12_goesNight_22 (N : Nat) : Nat → Int → Hp → Option (Hp)
  | 0, _, _ => none
  | n + 1, x1, h =>
    if 5 ≤ x1 then
      L_X12_goesNight_89 N  N 0 h
    else
    grd (0 ≤ x1 ∧ x1 < 5) <|
    bnd (hw h 113 x1.toNat 0) fun h1 =>
    grd (0 ≤ x1 ∧ x1 < 5) <|
    bnd (hw h1 114 x1.toNat 0) fun h2 =>
    grd (0 ≤ x1 ∧ x1 < 5) <|
    bnd (hw h2 115 x1.toNat 0) fun h3 =>
    grd (0 ≤ x1 ∧ x1 < 5) <|
    bnd (hw h3 116 x1.toNat 1000000) fun h4 =>
    grd (0 ≤ x1 ∧ x1 < 5) <|
    bnd (hw h4 117 x1.toNat 1000000) fun h5 =>
    bd (F_X12_isCart N x1 h5) fun y7 h6 =>
    if y7 = 0 then
      J_X12_goesNight_81 N (L_X12_goesNight_22 N n) x1 h6
    else
    bv (F_X12_goesOn N x1 (h6 83 51) h6) fun h8 =>
    J_X12_goesNight_81 N (L_X12_goesNight_22 N n) x1 h8
set_option maxRecDepth 100000 in
set_option maxHeartbeats 4000000 in
theorem R_L_X12_goesNight_22 (N : Nat) : ∀ (n : Nat) (x1 : Int) (h : Hp) (res : Hp), L_X12_goesNight_22 N n x1 h = some res → Go M_X12_goesNight 6 22 [some (.inr 84), some (.inl x1), none] [] h (Qv res)
  | 0, _, _, _, H => by cases H
  | n + 1, x1, h, res, H => by
    have ih := R_L_X12_goesNight_22 N n
    simp only [L_X12_goesNight_22] at H
    refine g_iload_n (T_X12_goesNight 14 _ _ _ rfl) rfl ?_
    refine g_iconst (T_X12_goesNight 15 _ _ _ rfl) ⟨by decide, by decide⟩ ?_
    refine g_icmp_ge (tgt := 87) (T_X12_goesNight 16 _ _ _ rfl) (by decide) (fun cc => ?_) (fun cc => ?_)
    · replace H := ite_p cc H
      refine g_iconst (T_X12_goesNight 53 _ _ _ rfl) ⟨by decide, by decide⟩ ?_
      refine g_istore_n (T_X12_goesNight 54 _ _ _ rfl) (by decide) ?_
      refine g_weak [true, true, false] ?_
      refine R_L_X12_goesNight_89 N   _ _ _ _ H
    · replace H := ite_n cc H
      refine g_aload_n (T_X12_goesNight 17 _ _ _ rfl) rfl ?_
      refine g_getR (c := 83) (r := 114) (T_X12_goesNight 18 _ _ _ rfl) fl_X12_98 rfl (nR rfl) rfl (by decide) ?_
      refine g_iload_n (T_X12_goesNight 19 _ _ _ rfl) rfl ?_
      refine g_iconst (T_X12_goesNight 20 _ _ _ rfl) ⟨by decide, by decide⟩ ?_
      obtain ⟨hg, H⟩ := grd_some H
      refine g_iast (c := 113) (T_X12_goesNight 21 _ _ _ rfl) rfl hg ?_
      refine g_bndH H fun h1 H => ?_
      refine g_aload_n (T_X12_goesNight 22 _ _ _ rfl) rfl ?_
      refine g_getR (c := 83) (r := 115) (T_X12_goesNight 23 _ _ _ rfl) fl_X12_101 rfl (nR rfl) rfl (by decide) ?_
      refine g_iload_n (T_X12_goesNight 24 _ _ _ rfl) rfl ?_
      refine g_iconst (T_X12_goesNight 25 _ _ _ rfl) ⟨by decide, by decide⟩ ?_
      obtain ⟨hg, H⟩ := grd_some H
      refine g_iast (c := 114) (T_X12_goesNight 26 _ _ _ rfl) rfl hg ?_
      refine g_bndH H fun h2 H => ?_
      refine g_aload_n (T_X12_goesNight 27 _ _ _ rfl) rfl ?_
      refine g_getR (c := 83) (r := 116) (T_X12_goesNight 28 _ _ _ rfl) fl_X12_104 rfl (nR rfl) rfl (by decide) ?_
      refine g_iload_n (T_X12_goesNight 29 _ _ _ rfl) rfl ?_
      refine g_iconst (T_X12_goesNight 30 _ _ _ rfl) ⟨by decide, by decide⟩ ?_
      obtain ⟨hg, H⟩ := grd_some H
      refine g_iast (c := 115) (T_X12_goesNight 31 _ _ _ rfl) rfl hg ?_
      refine g_bndH H fun h3 H => ?_
      refine g_aload_n (T_X12_goesNight 32 _ _ _ rfl) rfl ?_
      refine g_getR (c := 83) (r := 117) (T_X12_goesNight 33 _ _ _ rfl) fl_X12_107 rfl (nR rfl) rfl (by decide) ?_
      refine g_iload_n (T_X12_goesNight 34 _ _ _ rfl) rfl ?_
      refine g_ldc (T_X12_goesNight 35 _ _ _ rfl) kc_X12_150 ⟨by decide, by decide⟩ ?_
      obtain ⟨hg, H⟩ := grd_some H
      refine g_iast (c := 116) (T_X12_goesNight 36 _ _ _ rfl) rfl hg ?_
      refine g_bndH H fun h4 H => ?_
      refine g_aload_n (T_X12_goesNight 37 _ _ _ rfl) rfl ?_
      refine g_getR (c := 83) (r := 118) (T_X12_goesNight 38 _ _ _ rfl) fl_X12_110 rfl (nR rfl) rfl (by decide) ?_
      refine g_iload_n (T_X12_goesNight 39 _ _ _ rfl) rfl ?_
      refine g_ldc (T_X12_goesNight 40 _ _ _ rfl) kc_X12_150 ⟨by decide, by decide⟩ ?_
      obtain ⟨hg, H⟩ := grd_some H
      refine g_iast (c := 117) (T_X12_goesNight 41 _ _ _ rfl) rfl hg ?_
      refine g_bndH H fun h5 H => ?_
      refine g_aload_n (T_X12_goesNight 42 _ _ _ rfl) rfl ?_
      refine g_iload_n (T_X12_goesNight 43 _ _ _ rfl) rfl ?_
      obtain ⟨y7, h6, hq, H⟩ := bd_some H
      refine g_callVi (M' := M_X12_isCart) (c := 83) (av := [.inl x1]) (st := []) (T_X12_goesNight 44 _ _ _ rfl) ml_X12_317 cb_X12_isCart rfl rfl (Nat.le_of_ble_eq_true rfl) (by omega) (R_X12_isCart N _ _ _ hq) ?_
      refine g_if_eq (tgt := 81) (T_X12_goesNight 45 _ _ _ rfl) (by decide) (fun cc => ?_) (fun cc => ?_)
      · replace H := ite_p cc H
        refine g_weak [true, true, false] ?_
        exact R_J_X12_goesNight_81 N (L_X12_goesNight_22 N n) ih _ _ _ H
      · replace H := ite_n cc H
        refine g_aload_n (T_X12_goesNight 46 _ _ _ rfl) rfl ?_
        refine g_iload_n (T_X12_goesNight 47 _ _ _ rfl) rfl ?_
        refine g_aload_n (T_X12_goesNight 48 _ _ _ rfl) rfl ?_
        refine g_getI (c := 83) (T_X12_goesNight 49 _ _ _ rfl) fl_X12_320 rfl (Or.inl rfl) ?_
        obtain ⟨h8, hq, H⟩ := bv_some H
        refine g_callVv (M' := M_X12_goesOn) (c := 83) (av := [.inl x1, .inl (h6 83 51)]) (st := []) (T_X12_goesNight 50 _ _ _ rfl) ml_X12_305 cb_X12_goesOn rfl rfl (Nat.le_of_ble_eq_true rfl) (by omega) (R_X12_goesOn N _ _ _ _ hq) ?_
        refine g_weak [true, true, false] ?_
        exact R_J_X12_goesNight_81 N (L_X12_goesNight_22 N n) ih _ _ _ H
def F_X12_goesNight (N : Nat) (h : Hp) : Option (Hp) :=
  bnd (hw h 83 47 0) fun h1 =>
  bnd (hw h1 83 48 0) fun h2 =>
  bnd (hw h2 83 49 0) fun h3 =>
  bnd (hw h3 83 50 0) fun h4 =>
  L_X12_goesNight_22 N  N 0 h4
set_option maxRecDepth 100000 in
set_option maxHeartbeats 4000000 in
theorem R_X12_goesNight (N : Nat) (h : Hp) (res : Hp) (H : F_X12_goesNight N h = some res) : Runs M_X12_goesNight 6 [.inr 84] h (Qv res) := by
  refine Runs.of rfl (Nat.le_of_ble_eq_true rfl) ?_
  show Go M_X12_goesNight 6 0 [some (.inr 84), none, none] [] h (Qv res)
  unfold F_X12_goesNight at H
  refine g_aload_n (T_X12_goesNight 0 _ _ _ rfl) rfl ?_
  refine g_iconst (T_X12_goesNight 1 _ _ _ rfl) ⟨by decide, by decide⟩ ?_
  refine g_put (c := 83) (T_X12_goesNight 2 _ _ _ rfl) fl_X12_311 rfl (Or.inl rfl) ?_
  refine g_bndH H fun h1 H => ?_
  refine g_aload_n (T_X12_goesNight 3 _ _ _ rfl) rfl ?_
  refine g_iconst (T_X12_goesNight 4 _ _ _ rfl) ⟨by decide, by decide⟩ ?_
  refine g_put (c := 83) (T_X12_goesNight 5 _ _ _ rfl) fl_X12_314 rfl (Or.inl rfl) ?_
  refine g_bndH H fun h2 H => ?_
  refine g_aload_n (T_X12_goesNight 6 _ _ _ rfl) rfl ?_
  refine g_iconst (T_X12_goesNight 7 _ _ _ rfl) ⟨by decide, by decide⟩ ?_
  refine g_put (c := 83) (T_X12_goesNight 8 _ _ _ rfl) fl_X12_302 rfl (Or.inl rfl) ?_
  refine g_bndH H fun h3 H => ?_
  refine g_aload_n (T_X12_goesNight 9 _ _ _ rfl) rfl ?_
  refine g_iconst (T_X12_goesNight 10 _ _ _ rfl) ⟨by decide, by decide⟩ ?_
  refine g_put (c := 83) (T_X12_goesNight 11 _ _ _ rfl) fl_X12_299 rfl (Or.inl rfl) ?_
  refine g_bndH H fun h4 H => ?_
  refine g_iconst (T_X12_goesNight 12 _ _ _ rfl) ⟨by decide, by decide⟩ ?_
  refine g_istore_n (T_X12_goesNight 13 _ _ _ rfl) (by decide) ?_
  refine g_weak [true, true, false] ?_
  refine R_L_X12_goesNight_22 N   _ _ _ _ H
