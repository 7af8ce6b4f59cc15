/-! by program: the methods as functions, and the walks that show it -/
def J_X11_round_56 (N : Nat) (x1 : Int) (x2 : Int) (x3 : Int) (h : Hp) : Option (Int × Hp) :=
  bd (F_X8_find N x1 x2 h) fun y2 h1 =>
  if y2 = 0 then
    some ((-2), h1)
  else
  if x3 = 20 then
    bd (F_X8_minutes N h1) fun y6 h5 =>
    some (y6, h5)
  else
  bd (F_X8_streetAt N x3 h1) fun y4 h3 =>
  some (y4, h3)
set_option maxRecDepth 100000 in
set_option maxHeartbeats 4000000 in
theorem R_J_X11_round_56 (N : Nat) (x1 : Int) (x2 : Int) (x3 : Int) (h : Hp) (res : Int × Hp) (H : J_X11_round_56 N x1 x2 x3 h = some res) : Go M_X11_round 7 56 [some (.inr 1), some (.inl x1), some (.inl x2), some (.inl x3)] [] h (Qi res) := by
  unfold J_X11_round_56 at H
  refine g_aload_n (T_X11_round 30 _ _ _ rfl) rfl ?_
  refine g_getR (c := 0) (r := 66) (T_X11_round 31 _ _ _ rfl) fl_X11_69 rfl (nR rfl) rfl (by decide) ?_
  refine g_iload_n (T_X11_round 32 _ _ _ rfl) rfl ?_
  refine g_iload_n (T_X11_round 33 _ _ _ rfl) rfl ?_
  obtain ⟨y2, h1, hq, H⟩ := bd_some H
  refine g_callVi (M' := M_X8_find) (c := 65) (av := [.inl x1, .inl x2]) (st := []) (T_X11_round 34 _ _ _ rfl) ml_X11_214 cb_X8_find rfl rfl (Nat.le_of_ble_eq_true rfl) (by omega) (R_X8_find N _ _ _ _ hq) ?_
  refine g_if_ne (tgt := 71) (T_X11_round 35 _ _ _ rfl) (by decide) (fun cc => ?_) (fun cc => ?_)
  · replace H := ite_n cc H
    refine g_iload_n (T_X11_round 38 _ _ _ rfl) rfl ?_
    refine g_bipush (T_X11_round 39 _ _ _ rfl) (by decide) ?_
    refine g_icmp_ne (tgt := 87) (T_X11_round 40 _ _ _ rfl) (by decide) (fun cc => ?_) (fun cc => ?_)
    · replace H := ite_n cc H
      refine g_aload_n (T_X11_round 45 _ _ _ rfl) rfl ?_
      refine g_getR (c := 0) (r := 66) (T_X11_round 46 _ _ _ rfl) fl_X11_69 rfl (nR rfl) rfl (by decide) ?_
      refine g_iload_n (T_X11_round 47 _ _ _ rfl) rfl ?_
      obtain ⟨y4, h3, hq, H⟩ := bd_some H
      refine g_callVi (M' := M_X8_streetAt) (c := 65) (av := [.inl x3]) (st := []) (T_X11_round 48 _ _ _ rfl) ml_X11_220 cb_X8_streetAt rfl rfl (Nat.le_of_ble_eq_true rfl) (by omega) (R_X8_streetAt N _ _ _ hq) ?_
      exact g_iret (T_X11_round 49 _ _ _ rfl) rfl (qi_of H)
    · replace H := ite_p cc H
      refine g_aload_n (T_X11_round 41 _ _ _ rfl) rfl ?_
      refine g_getR (c := 0) (r := 66) (T_X11_round 42 _ _ _ rfl) fl_X11_69 rfl (nR rfl) rfl (by decide) ?_
      obtain ⟨y6, h5, hq, H⟩ := bd_some H
      refine g_callVi (M' := M_X8_minutes) (c := 65) (av := []) (st := []) (T_X11_round 43 _ _ _ rfl) ml_X11_217 cb_X8_minutes rfl rfl (Nat.le_of_ble_eq_true rfl) (by omega) (R_X8_minutes N _ _ hq) ?_
      refine g_goto (tgt := 95) (T_X11_round 44 _ _ _ rfl) (by decide) ?_
      exact g_iret (T_X11_round 49 _ _ _ rfl) rfl (qi_of H)
  · replace H := ite_p cc H
    refine g_bipush (T_X11_round 36 _ _ _ rfl) (by decide) ?_
    exact g_iret (T_X11_round 37 _ _ _ rfl) rfl (qi_of H)
def F_X11_round (N : Nat) (x1 : Int) (x2 : Int) (x3 : Int) (h : Hp) : Option (Int × Hp) :=
  bd (F_X1_isTold N x1 h) fun y2 h1 =>
  if y2 = 0 then
    some ((-1), h1)
  else
  bd (F_X1_areTold N x2 7 h1) fun y4 h3 =>
  if y4 = 0 then
    some ((-1), h3)
  else
  bd (F_X11_hasBit N x2 x1 h3) fun y6 h5 =>
  if y6 = 0 then
    if x3 = 20 then
      J_X11_round_56 N  x1 x2 x3 h5
    else
    bd (F_J6_bitCount_0f7a4 N x2 h5) fun y8 h7 =>
    bd (F_X11_isWithin N x3 0 (w32 (y8 - 1)) h7) fun y10 h9 =>
    if y10 = 0 then
      some ((-1), h9)
    else
    J_X11_round_56 N  x1 x2 x3 h9
  else
  some ((-1), h5)
set_option maxRecDepth 100000 in
set_option maxHeartbeats 4000000 in
theorem R_X11_round (N : Nat) (x1 : Int) (x2 : Int) (x3 : Int) (h : Hp) (res : Int × Hp) (H : F_X11_round N x1 x2 x3 h = some res) : Runs M_X11_round 7 [.inr 1, .inl x1, .inl x2, .inl x3] h (Qi res) := by
  refine Runs.of rfl (Nat.le_of_ble_eq_true rfl) ?_
  show Go M_X11_round 7 0 [some (.inr 1), some (.inl x1), some (.inl x2), some (.inl x3)] [] h (Qi res)
  unfold F_X11_round at H
  refine g_aload_n (T_X11_round 0 _ _ _ rfl) rfl ?_
  refine g_getR (c := 0) (r := 2) (T_X11_round 1 _ _ _ rfl) fl_X11_28 rfl (nR rfl) rfl (by decide) ?_
  refine g_iload_n (T_X11_round 2 _ _ _ rfl) rfl ?_
  obtain ⟨y2, h1, hq, H⟩ := bd_some H
  refine g_callVi (M' := M_X1_isTold) (c := 1) (av := [.inl x1]) (st := []) (T_X11_round 3 _ _ _ rfl) ml_X11_112 cb_X1_isTold rfl rfl (Nat.le_of_ble_eq_true rfl) (by omega) (R_X1_isTold N _ _ _ hq) ?_
  refine g_if_eq (tgt := 32) (T_X11_round 4 _ _ _ rfl) (by decide) (fun cc => ?_) (fun cc => ?_)
  · replace H := ite_p cc H
    refine g_iconst (T_X11_round 15 _ _ _ rfl) ⟨by decide, by decide⟩ ?_
    exact g_iret (T_X11_round 16 _ _ _ rfl) rfl (qi_of H)
  · replace H := ite_n cc H
    refine g_aload_n (T_X11_round 5 _ _ _ rfl) rfl ?_
    refine g_getR (c := 0) (r := 2) (T_X11_round 6 _ _ _ rfl) fl_X11_28 rfl (nR rfl) rfl (by decide) ?_
    refine g_iload_n (T_X11_round 7 _ _ _ rfl) rfl ?_
    refine g_bipush (T_X11_round 8 _ _ _ rfl) (by decide) ?_
    obtain ⟨y4, h3, hq, H⟩ := bd_some H
    refine g_callVi (M' := M_X1_areTold) (c := 1) (av := [.inl x2, .inl 7]) (st := []) (T_X11_round 9 _ _ _ rfl) ml_X11_202 cb_X1_areTold rfl rfl (Nat.le_of_ble_eq_true rfl) (by omega) (R_X1_areTold N _ _ _ _ hq) ?_
    refine g_if_eq (tgt := 32) (T_X11_round 10 _ _ _ rfl) (by decide) (fun cc => ?_) (fun cc => ?_)
    · replace H := ite_p cc H
      refine g_iconst (T_X11_round 15 _ _ _ rfl) ⟨by decide, by decide⟩ ?_
      exact g_iret (T_X11_round 16 _ _ _ rfl) rfl (qi_of H)
    · replace H := ite_n cc H
      refine g_iload_n (T_X11_round 11 _ _ _ rfl) rfl ?_
      refine g_iload_n (T_X11_round 12 _ _ _ rfl) rfl ?_
      obtain ⟨y6, h5, hq, H⟩ := bd_some H
      refine g_callSi (M' := M_X11_hasBit) (av := [.inl x2, .inl x1]) (st := []) (T_X11_round 13 _ _ _ rfl) ml_X11_206 cb_X11_hasBit rfl (Nat.le_of_ble_eq_true rfl) (by omega) (R_X11_hasBit N _ _ _ _ hq) ?_
      refine g_if_eq (tgt := 34) (T_X11_round 14 _ _ _ rfl) (by decide) (fun cc => ?_) (fun cc => ?_)
      · replace H := ite_p cc H
        refine g_iload_n (T_X11_round 17 _ _ _ rfl) rfl ?_
        refine g_bipush (T_X11_round 18 _ _ _ rfl) (by decide) ?_
        refine g_icmp_eq (tgt := 56) (T_X11_round 19 _ _ _ rfl) (by decide) (fun cc => ?_) (fun cc => ?_)
        · replace H := ite_p cc H
          refine g_weak [true, true, true, true] ?_
          exact R_J_X11_round_56 N   _ _ _ _ _ H
        · replace H := ite_n cc H
          refine g_iload_n (T_X11_round 20 _ _ _ rfl) rfl ?_
          refine g_iconst (T_X11_round 21 _ _ _ rfl) ⟨by decide, by decide⟩ ?_
          refine g_iload_n (T_X11_round 22 _ _ _ rfl) rfl ?_
          obtain ⟨y8, h7, hq, H⟩ := bd_some H
          refine g_callSi (M' := M_J6_bitCount_0f7a4) (av := [.inl x2]) (st := [.inl 0, .inl x3]) (T_X11_round 23 _ _ _ rfl) ml_X11_209 cb_J6_bitCount_0f7a4 rfl (Nat.le_of_ble_eq_true rfl) (by omega) (R_J6_bitCount_0f7a4 N _ _ _ hq) ?_
          refine g_iconst (T_X11_round 24 _ _ _ rfl) ⟨by decide, by decide⟩ ?_
          refine g_isub (T_X11_round 25 _ _ _ rfl) ?_
          obtain ⟨y10, h9, hq, H⟩ := bd_some H
          refine g_callSi (M' := M_X11_isWithin) (av := [.inl x3, .inl 0, .inl (w32 (y8 - 1))]) (st := []) (T_X11_round 26 _ _ _ rfl) ml_X11_96 cb_X11_isWithin rfl (Nat.le_of_ble_eq_true rfl) (by omega) (R_X11_isWithin N _ _ _ _ _ hq) ?_
          refine g_if_ne (tgt := 56) (T_X11_round 27 _ _ _ rfl) (by decide) (fun cc => ?_) (fun cc => ?_)
          · replace H := ite_n cc H
            refine g_weak [true, true, true, true] ?_
            exact R_J_X11_round_56 N   _ _ _ _ _ H
          · replace H := ite_p cc H
            refine g_iconst (T_X11_round 28 _ _ _ rfl) ⟨by decide, by decide⟩ ?_
            exact g_iret (T_X11_round 29 _ _ _ rfl) rfl (qi_of H)
      · replace H := ite_n cc H
        refine g_iconst (T_X11_round 15 _ _ _ rfl) ⟨by decide, by decide⟩ ?_
        exact g_iret (T_X11_round 16 _ _ _ rfl) rfl (qi_of H)
def J_X9_choose_50 (N : Nat) (k7 : Int → Int → Hp → Option (Hp)) (x1 : Int) (x2 : Int) (h : Hp) : Option (Hp) :=
  bnd (w32 (x2 + 1)) fun y1 =>
  k7 x1 y1 h
set_option maxRecDepth 100000 in
set_option maxHeartbeats 4000000 in
theorem R_J_X9_choose_50 (N : Nat) (k7 : Int → Int → Hp → Option (Hp)) (hk7 : ∀ (x1 : Int) (x2 : Int) (h : Hp) (res : Hp), k7 x1 x2 h = some res → Go M_X9_choose 2 7 [some (.inr 70), some (.inl x1), some (.inl x2)] [] h (Qv res)) (x1 : Int) (x2 : Int) (h : Hp) (res : Hp) (H : J_X9_choose_50 N k7 x1 x2 h = some res) : Go M_X9_choose 2 50 [some (.inr 70), some (.inl x1), some (.inl x2)] [] h (Qv res) := by
  unfold J_X9_choose_50 at H
  refine g_iincB (T_X9_choose 28 _ _ _ rfl) rfl (by decide) H fun y1 H => ?_
  refine g_goto (tgt := 7) (T_X9_choose 29 _ _ _ rfl) (by decide) ?_
  refine g_weak [true, true, true] ?_
  exact hk7 _ _ _ _ H
def L_X9_choose_7 (N : Nat) : Nat → Int → Int → Hp → Option (Hp)
  | 0, _, _, _ => none
  | n + 1, x1, x2, h =>
    if 14 ≤ x2 then
      some h
    else
    if 8 ≤ (h 69 4) then
      some h
    else
    bd (F_X11_hasBit N x1 x2 h) fun y2 h1 =>
    if y2 = 0 then
      J_X9_choose_50 N (L_X9_choose_7 N n) x1 x2 h1
    else
    grd (0 ≤ (h1 69 4) ∧ (h1 69 4) < 8) <|
    bnd (hw h1 70 (h1 69 4).toNat x2) fun h3 =>
    bnd (hw h3 69 4 (w32 ((h3 69 4) + 1))) fun h4 =>
    J_X9_choose_50 N (L_X9_choose_7 N n) x1 x2 h4
set_option maxRecDepth 100000 in
set_option maxHeartbeats 4000000 in
theorem R_L_X9_choose_7 (N : Nat) : ∀ (n : Nat) (x1 : Int) (x2 : Int) (h : Hp) (res : Hp), L_X9_choose_7 N n x1 x2 h = some res → Go M_X9_choose 2 7 [some (.inr 70), some (.inl x1), some (.inl x2)] [] h (Qv res)
  | 0, _, _, _, _, H => by cases H
  | n + 1, x1, x2, h, res, H => by
    have ih := R_L_X9_choose_7 N n
    simp only [L_X9_choose_7] at H
    refine g_iload_n (T_X9_choose 5 _ _ _ rfl) rfl ?_
    refine g_bipush (T_X9_choose 6 _ _ _ rfl) (by decide) ?_
    refine g_icmp_ge (tgt := 56) (T_X9_choose 7 _ _ _ rfl) (by decide) (fun cc => ?_) (fun cc => ?_)
    · replace H := ite_p cc H
      exact g_vret (T_X9_choose 30 _ _ _ rfl) rfl (qv_of H)
    · replace H := ite_n cc H
      refine g_aload_n (T_X9_choose 8 _ _ _ rfl) rfl ?_
      refine g_getI (c := 69) (T_X9_choose 9 _ _ _ rfl) fl_X9_25 rfl (Or.inl rfl) ?_
      refine g_bipush (T_X9_choose 10 _ _ _ rfl) (by decide) ?_
      refine g_icmp_ge (tgt := 56) (T_X9_choose 11 _ _ _ rfl) (by decide) (fun cc => ?_) (fun cc => ?_)
      · replace H := ite_p cc H
        exact g_vret (T_X9_choose 30 _ _ _ rfl) rfl (qv_of H)
      · replace H := ite_n cc H
        refine g_iload_n (T_X9_choose 12 _ _ _ rfl) rfl ?_
        refine g_iload_n (T_X9_choose 13 _ _ _ rfl) rfl ?_
        obtain ⟨y2, h1, hq, H⟩ := bd_some H
        refine g_callSNi (M' := M_X11_hasBit) (av := [.inl x1, .inl x2]) (st := []) (T_X9_choose 14 _ _ _ rfl) ml_X9_29 cb_X11_hasBit rfl (Nat.le_of_ble_eq_true rfl) (by omega) (R_X11_hasBit N _ _ _ _ hq) ?_
        refine g_if_eq (tgt := 50) (T_X9_choose 15 _ _ _ rfl) (by decide) (fun cc => ?_) (fun cc => ?_)
        · replace H := ite_p cc H
          refine g_weak [true, true, true] ?_
          exact R_J_X9_choose_50 N (L_X9_choose_7 N n) ih _ _ _ _ H
        · replace H := ite_n cc H
          refine g_aload_n (T_X9_choose 16 _ _ _ rfl) rfl ?_
          refine g_getR (c := 69) (r := 71) (T_X9_choose 17 _ _ _ rfl) fl_X9_9 rfl (nR rfl) rfl (by decide) ?_
          refine g_aload_n (T_X9_choose 18 _ _ _ rfl) rfl ?_
          refine g_getI (c := 69) (T_X9_choose 19 _ _ _ rfl) fl_X9_25 rfl (Or.inl rfl) ?_
          refine g_iload_n (T_X9_choose 20 _ _ _ rfl) rfl ?_
          obtain ⟨hg, H⟩ := grd_some H
          refine g_iast (c := 70) (T_X9_choose 21 _ _ _ rfl) rfl hg ?_
          refine g_bndH H fun h3 H => ?_
          refine g_aload_n (T_X9_choose 22 _ _ _ rfl) rfl ?_
          refine g_dup (T_X9_choose 23 _ _ _ rfl) ?_
          refine g_getI (c := 69) (T_X9_choose 24 _ _ _ rfl) fl_X9_25 rfl (Or.inl rfl) ?_
          refine g_iconst (T_X9_choose 25 _ _ _ rfl) ⟨by decide, by decide⟩ ?_
          refine g_iadd (T_X9_choose 26 _ _ _ rfl) ?_
          refine g_put (c := 69) (T_X9_choose 27 _ _ _ rfl) fl_X9_25 rfl (Or.inl rfl) ?_
          refine g_bndH H fun h4 H => ?_
          refine g_weak [true, true, true] ?_
          exact R_J_X9_choose_50 N (L_X9_choose_7 N n) ih _ _ _ _ H
def F_X9_choose (N : Nat) (x1 : Int) (h : Hp) : Option (Hp) :=
  bnd (hw h 69 4 0) fun h1 =>
  L_X9_choose_7 N  N x1 0 h1
set_option maxRecDepth 100000 in
set_option maxHeartbeats 4000000 in
theorem R_X9_choose (N : Nat) (x1 : Int) (h : Hp) (res : Hp) (H : F_X9_choose N x1 h = some res) : Runs M_X9_choose 2 [.inr 70, .inl x1] h (Qv res) := by
  refine Runs.of rfl (Nat.le_of_ble_eq_true rfl) ?_
  show Go M_X9_choose 2 0 [some (.inr 70), some (.inl x1), none] [] h (Qv res)
  unfold F_X9_choose at H
  refine g_aload_n (T_X9_choose 0 _ _ _ rfl) rfl ?_
  refine g_iconst (T_X9_choose 1 _ _ _ rfl) ⟨by decide, by decide⟩ ?_
  refine g_put (c := 69) (T_X9_choose 2 _ _ _ rfl) fl_X9_25 rfl (Or.inl rfl) ?_
  refine g_bndH H fun h1 H => ?_
  refine g_iconst (T_X9_choose 3 _ _ _ rfl) ⟨by decide, by decide⟩ ?_
  refine g_istore_n (T_X9_choose 4 _ _ _ rfl) (by decide) ?_
  refine g_weak [true, true, true] ?_
  refine R_L_X9_choose_7 N   _ _ _ _ _ H
def L_X9_neededFor_4 (N : Nat) : Nat → Int → Int → Int → Hp → Option (Int × Hp)
  | 0, _, _, _, _ => none
  | n + 1, x1, x2, x3, h =>
    if (h 69 4) ≤ x3 then
      some (x2, h)
    else
    grd (0 ≤ x3 ∧ x3 < 8) <|
    bd (F_X1_depthOf N (h 70 x3.toNat) h) fun y2 h1 =>
    bnd ((w32 (x2 + (imax 0 (w32 (x1 - y2)))))) fun y3 =>
    bnd (w32 (x3 + 1)) fun y4 =>
    (L_X9_neededFor_4 N n) x1 y3 y4 h1
set_option maxRecDepth 100000 in
set_option maxHeartbeats 4000000 in
theorem R_L_X9_neededFor_4 (N : Nat) : ∀ (n : Nat) (x1 : Int) (x2 : Int) (x3 : Int) (h : Hp) (res : Int × Hp), L_X9_neededFor_4 N n x1 x2 x3 h = some res → Go M_X9_neededFor 2 4 [some (.inr 70), some (.inl x1), some (.inl x2), some (.inl x3)] [] h (Qi res)
  | 0, _, _, _, _, _, H => by cases H
  | n + 1, x1, x2, x3, h, res, H => by
    have ih := R_L_X9_neededFor_4 N n
    simp only [L_X9_neededFor_4] at H
    refine g_iload_n (T_X9_neededFor 4 _ _ _ rfl) rfl ?_
    refine g_aload_n (T_X9_neededFor 5 _ _ _ rfl) rfl ?_
    refine g_getI (c := 69) (T_X9_neededFor 6 _ _ _ rfl) fl_X9_25 rfl (Or.inl rfl) ?_
    refine g_icmp_ge (tgt := 40) (T_X9_neededFor 7 _ _ _ rfl) (by decide) (fun cc => ?_) (fun cc => ?_)
    · replace H := ite_p cc H
      refine g_iload_n (T_X9_neededFor 24 _ _ _ rfl) rfl ?_
      exact g_iret (T_X9_neededFor 25 _ _ _ rfl) rfl (qi_of H)
    · replace H := ite_n cc H
      refine g_iload_n (T_X9_neededFor 8 _ _ _ rfl) rfl ?_
      refine g_iconst (T_X9_neededFor 9 _ _ _ rfl) ⟨by decide, by decide⟩ ?_
      refine g_iload_n (T_X9_neededFor 10 _ _ _ rfl) rfl ?_
      refine g_aload_n (T_X9_neededFor 11 _ _ _ rfl) rfl ?_
      refine g_getR (c := 69) (r := 2) (T_X9_neededFor 12 _ _ _ rfl) fl_X9_21 rfl (nR rfl) rfl (by decide) ?_
      refine g_aload_n (T_X9_neededFor 13 _ _ _ rfl) rfl ?_
      refine g_getR (c := 69) (r := 71) (T_X9_neededFor 14 _ _ _ rfl) fl_X9_9 rfl (nR rfl) rfl (by decide) ?_
      refine g_iload_n (T_X9_neededFor 15 _ _ _ rfl) rfl ?_
      obtain ⟨hg, H⟩ := grd_some H
      refine g_iald (c := 70) (T_X9_neededFor 16 _ _ _ rfl) rfl hg ?_
      obtain ⟨y2, h1, hq, H⟩ := bd_some H
      refine g_callVi (M' := M_X1_depthOf) (c := 1) (av := [.inl (h 70 x3.toNat)]) (st := [.inl x1, .inl 0, .inl x2]) (T_X9_neededFor 17 _ _ _ rfl) ml_X9_43 cb_X1_depthOf rfl rfl (Nat.le_of_ble_eq_true rfl) (by omega) (R_X1_depthOf N _ _ _ hq) ?_
      refine g_isub (T_X9_neededFor 18 _ _ _ rfl) ?_
      refine g_max (st := [.inl x2]) (T_X9_neededFor 19 _ _ _ rfl) ml_X9_48 wmax (Nat.le_of_ble_eq_true rfl) (by omega) ?_
      refine g_iadd (T_X9_neededFor 20 _ _ _ rfl) ?_
      refine g_bndI H fun y3 H => ?_
      refine g_istore_n (T_X9_neededFor 21 _ _ _ rfl) (by decide) ?_
      refine g_iincB (T_X9_neededFor 22 _ _ _ rfl) rfl (by decide) H fun y4 H => ?_
      refine g_goto (tgt := 4) (T_X9_neededFor 23 _ _ _ rfl) (by decide) ?_
      refine g_weak [true, true, true, true] ?_
      exact ih _ _ _ _ _ H
def F_X9_neededFor (N : Nat) (x1 : Int) (h : Hp) : Option (Int × Hp) :=
  L_X9_neededFor_4 N  N x1 0 0 h
set_option maxRecDepth 100000 in
set_option maxHeartbeats 4000000 in
theorem R_X9_neededFor (N : Nat) (x1 : Int) (h : Hp) (res : Int × Hp) (H : F_X9_neededFor N x1 h = some res) : Runs M_X9_neededFor 2 [.inr 70, .inl x1] h (Qi res) := by
  refine Runs.of rfl (Nat.le_of_ble_eq_true rfl) ?_
  show Go M_X9_neededFor 2 0 [some (.inr 70), some (.inl x1), none, none] [] h (Qi res)
  unfold F_X9_neededFor at H
  refine g_iconst (T_X9_neededFor 0 _ _ _ rfl) ⟨by decide, by decide⟩ ?_
  refine g_istore_n (T_X9_neededFor 1 _ _ _ rfl) (by decide) ?_
  refine g_iconst (T_X9_neededFor 2 _ _ _ rfl) ⟨by decide, by decide⟩ ?_
  refine g_istore_n (T_X9_neededFor 3 _ _ _ rfl) (by decide) ?_
  refine g_weak [true, true, true, true] ?_
  refine R_L_X9_neededFor_4 N   _ _ _ _ _ _ H
def J_X9_greatestLevel_46 (N : Nat) (k9 : Int → Int → Int → Int → Hp → Option (Int × Hp)) (x1 : Int) (x2 : Int) (x3 : Int) (x4 : Int) (h : Hp) : Option (Int × Hp) :=
  bnd (w32 (x4 + 1)) fun y1 =>
  k9 x1 x2 x3 y1 h
set_option maxRecDepth 100000 in
set_option maxHeartbeats 4000000 in
theorem R_J_X9_greatestLevel_46 (N : Nat) (k9 : Int → Int → Int → Int → Hp → Option (Int × Hp)) (hk9 : ∀ (x1 : Int) (x2 : Int) (x3 : Int) (x4 : Int) (h : Hp) (res : Int × Hp), k9 x1 x2 x3 x4 h = some res → Go M_X9_greatestLevel 3 9 [some (.inr 70), some (.inl x1), some (.inl x2), some (.inl x3), some (.inl x4), none] [] h (Qi res)) (x1 : Int) (x2 : Int) (x3 : Int) (x4 : Int) (h : Hp) (res : Int × Hp) (H : J_X9_greatestLevel_46 N k9 x1 x2 x3 x4 h = some res) : Go M_X9_greatestLevel 3 46 [some (.inr 70), some (.inl x1), some (.inl x2), some (.inl x3), some (.inl x4), none] [] h (Qi res) := by
  unfold J_X9_greatestLevel_46 at H
  refine g_iincB (T_X9_greatestLevel 29 _ _ _ rfl) rfl (by decide) H fun y1 H => ?_
  refine g_goto (tgt := 9) (T_X9_greatestLevel 30 _ _ _ rfl) (by decide) ?_
  refine g_weak [true, true, true, true, true, false] ?_
  exact hk9 _ _ _ _ _ _ H
def L_X9_greatestLevel_9 (N : Nat) : Nat → Int → Int → Int → Int → Hp → Option (Int × Hp)
  | 0, _, _, _, _, _ => none
  | n + 1, x1, x2, x3, x4, h =>
    if 10 ≤ x4 then
      some (x2, h)
    else
    bnd ((idiv (w32 ((w32 (x2 + x3)) + 1)) 2)) fun y1 =>
    bd (F_X9_neededFor N y1 h) fun y3 h2 =>
    if x1 < y3 then
      bnd ((w32 (y1 - 1))) fun y4 =>
      J_X9_greatestLevel_46 N (L_X9_greatestLevel_9 N n) x1 x2 y4 x4 h2
    else
    J_X9_greatestLevel_46 N (L_X9_greatestLevel_9 N n) x1 y1 x3 x4 h2
set_option maxRecDepth 100000 in
set_option maxHeartbeats 4000000 in
theorem R_L_X9_greatestLevel_9 (N : Nat) : ∀ (n : Nat) (x1 : Int) (x2 : Int) (x3 : Int) (x4 : Int) (h : Hp) (res : Int × Hp), L_X9_greatestLevel_9 N n x1 x2 x3 x4 h = some res → Go M_X9_greatestLevel 3 9 [some (.inr 70), some (.inl x1), some (.inl x2), some (.inl x3), some (.inl x4), none] [] h (Qi res)
  | 0, _, _, _, _, _, _, H => by cases H
  | n + 1, x1, x2, x3, x4, h, res, H => by
    have ih := R_L_X9_greatestLevel_9 N n
    simp only [L_X9_greatestLevel_9] at H
    refine g_iload (T_X9_greatestLevel 6 _ _ _ rfl) rfl ?_
    refine g_bipush (T_X9_greatestLevel 7 _ _ _ rfl) (by decide) ?_
    refine g_icmp_ge (tgt := 52) (T_X9_greatestLevel 8 _ _ _ rfl) (by decide) (fun cc => ?_) (fun cc => ?_)
    · replace H := ite_p cc H
      refine g_iload_n (T_X9_greatestLevel 31 _ _ _ rfl) rfl ?_
      exact g_iret (T_X9_greatestLevel 32 _ _ _ rfl) rfl (qi_of H)
    · replace H := ite_n cc H
      refine g_iload_n (T_X9_greatestLevel 9 _ _ _ rfl) rfl ?_
      refine g_iload_n (T_X9_greatestLevel 10 _ _ _ rfl) rfl ?_
      refine g_iadd (T_X9_greatestLevel 11 _ _ _ rfl) ?_
      refine g_iconst (T_X9_greatestLevel 12 _ _ _ rfl) ⟨by decide, by decide⟩ ?_
      refine g_iadd (T_X9_greatestLevel 13 _ _ _ rfl) ?_
      refine g_iconst (T_X9_greatestLevel 14 _ _ _ rfl) ⟨by decide, by decide⟩ ?_
      refine g_idiv (T_X9_greatestLevel 15 _ _ _ rfl) (by decide) ?_
      refine g_bndI H fun y1 H => ?_
      refine g_istore (T_X9_greatestLevel 16 _ _ _ rfl) (by decide) ?_
      refine g_aload_n (T_X9_greatestLevel 17 _ _ _ rfl) rfl ?_
      refine g_iload (T_X9_greatestLevel 18 _ _ _ rfl) rfl ?_
      obtain ⟨y3, h2, hq, H⟩ := bd_some H
      refine g_callVi (M' := M_X9_neededFor) (c := 69) (av := [.inl y1]) (st := []) (T_X9_greatestLevel 19 _ _ _ rfl) ml_X9_36 cb_X9_neededFor rfl rfl (Nat.le_of_ble_eq_true rfl) (by omega) (R_X9_neededFor N _ _ _ hq) ?_
      refine g_iload_n (T_X9_greatestLevel 20 _ _ _ rfl) rfl ?_
      refine g_icmp_gt (tgt := 41) (T_X9_greatestLevel 21 _ _ _ rfl) (by decide) (fun cc => ?_) (fun cc => ?_)
      · replace H := ite_p cc H
        refine g_iload (T_X9_greatestLevel 25 _ _ _ rfl) rfl ?_
        refine g_iconst (T_X9_greatestLevel 26 _ _ _ rfl) ⟨by decide, by decide⟩ ?_
        refine g_isub (T_X9_greatestLevel 27 _ _ _ rfl) ?_
        refine g_bndI H fun y4 H => ?_
        refine g_istore_n (T_X9_greatestLevel 28 _ _ _ rfl) (by decide) ?_
        refine g_weak [true, true, true, true, true, false] ?_
        exact R_J_X9_greatestLevel_46 N (L_X9_greatestLevel_9 N n) ih _ _ _ _ _ _ H
      · replace H := ite_n cc H
        refine g_iload (T_X9_greatestLevel 22 _ _ _ rfl) rfl ?_
        refine g_istore_n (T_X9_greatestLevel 23 _ _ _ rfl) (by decide) ?_
        refine g_goto (tgt := 46) (T_X9_greatestLevel 24 _ _ _ rfl) (by decide) ?_
        refine g_weak [true, true, true, true, true, false] ?_
        exact R_J_X9_greatestLevel_46 N (L_X9_greatestLevel_9 N n) ih _ _ _ _ _ _ H
def F_X9_greatestLevel (N : Nat) (x1 : Int) (h : Hp) : Option (Int × Hp) :=
  L_X9_greatestLevel_9 N  N x1 0 999 0 h
set_option maxRecDepth 100000 in
set_option maxHeartbeats 4000000 in
theorem R_X9_greatestLevel (N : Nat) (x1 : Int) (h : Hp) (res : Int × Hp) (H : F_X9_greatestLevel N x1 h = some res) : Runs M_X9_greatestLevel 3 [.inr 70, .inl x1] h (Qi res) := by
  refine Runs.of rfl (Nat.le_of_ble_eq_true rfl) ?_
  show Go M_X9_greatestLevel 3 0 [some (.inr 70), some (.inl x1), none, none, none, none] [] h (Qi res)
  unfold F_X9_greatestLevel at H
  refine g_iconst (T_X9_greatestLevel 0 _ _ _ rfl) ⟨by decide, by decide⟩ ?_
  refine g_istore_n (T_X9_greatestLevel 1 _ _ _ rfl) (by decide) ?_
  refine g_sipush (T_X9_greatestLevel 2 _ _ _ rfl) (by decide) ?_
  refine g_istore_n (T_X9_greatestLevel 3 _ _ _ rfl) (by decide) ?_
  refine g_iconst (T_X9_greatestLevel 4 _ _ _ rfl) ⟨by decide, by decide⟩ ?_
  refine g_istore (T_X9_greatestLevel 5 _ _ _ rfl) (by decide) ?_
  refine g_weak [true, true, true, true, true, false] ?_
  refine R_L_X9_greatestLevel_9 N   _ _ _ _ _ _ _ H
def L_X9_spread_40 (N : Nat) : Nat → Int → Int → Hp → Option (Int × Hp)
  | 0, _, _, _ => none
  | n + 1, x2, x3, h =>
    if x3 < 0 then
      some (1, h)
    else
    grd (0 ≤ x3 ∧ x3 < 8) <|
    bd (F_X1_depthOf N (h 70 x3.toNat) h) fun y2 h1 =>
    bnd ((imax 0 (w32 ((h1 69 5) - y2)))) fun y3 =>
    bnd ((imin x2 (w32 ((w32 (999 - y2)) - y3)))) fun y4 =>
    grd (0 ≤ x3 ∧ x3 < 8) <|
    bnd (hw h1 71 x3.toNat (w32 (y3 + y4))) fun h5 =>
    bnd ((w32 (x2 - y4))) fun y6 =>
    bnd (w32 (x3 + (-1))) fun y7 =>
    (L_X9_spread_40 N n) y6 y7 h5
set_option maxRecDepth 100000 in
set_option maxHeartbeats 4000000 in
theorem R_L_X9_spread_40 (N : Nat) : ∀ (n : Nat) (x2 : Int) (x3 : Int) (h : Hp) (res : Int × Hp), L_X9_spread_40 N n x2 x3 h = some res → Go M_X9_spread 4 40 [some (.inr 70), none, some (.inl x2), some (.inl x3), none, none, none] [] h (Qi res)
  | 0, _, _, _, _, H => by cases H
  | n + 1, x2, x3, h, res, H => by
    have ih := R_L_X9_spread_40 N n
    simp only [L_X9_spread_40] at H
    refine g_iload_n (T_X9_spread 24 _ _ _ rfl) rfl ?_
    refine g_if_lt (tgt := 109) (T_X9_spread 25 _ _ _ rfl) (by decide) (fun cc => ?_) (fun cc => ?_)
    · replace H := ite_p cc H
      refine g_iconst (T_X9_spread 62 _ _ _ rfl) ⟨by decide, by decide⟩ ?_
      exact g_zret (T_X9_spread 63 _ _ _ rfl) rfl (by decide) (qi_of H)
    · replace H := ite_n cc H
      refine g_aload_n (T_X9_spread 26 _ _ _ rfl) rfl ?_
      refine g_getR (c := 69) (r := 2) (T_X9_spread 27 _ _ _ rfl) fl_X9_21 rfl (nR rfl) rfl (by decide) ?_
      refine g_aload_n (T_X9_spread 28 _ _ _ rfl) rfl ?_
      refine g_getR (c := 69) (r := 71) (T_X9_spread 29 _ _ _ rfl) fl_X9_9 rfl (nR rfl) rfl (by decide) ?_
      refine g_iload_n (T_X9_spread 30 _ _ _ rfl) rfl ?_
      obtain ⟨hg, H⟩ := grd_some H
      refine g_iald (c := 70) (T_X9_spread 31 _ _ _ rfl) rfl hg ?_
      obtain ⟨y2, h1, hq, H⟩ := bd_some H
      refine g_callVi (M' := M_X1_depthOf) (c := 1) (av := [.inl (h 70 x3.toNat)]) (st := []) (T_X9_spread 32 _ _ _ rfl) ml_X9_43 cb_X1_depthOf rfl rfl (Nat.le_of_ble_eq_true rfl) (by omega) (R_X1_depthOf N _ _ _ hq) ?_
      refine g_istore (T_X9_spread 33 _ _ _ rfl) (by decide) ?_
      refine g_iconst (T_X9_spread 34 _ _ _ rfl) ⟨by decide, by decide⟩ ?_
      refine g_aload_n (T_X9_spread 35 _ _ _ rfl) rfl ?_
      refine g_getI (c := 69) (T_X9_spread 36 _ _ _ rfl) fl_X9_33 rfl (Or.inl rfl) ?_
      refine g_iload (T_X9_spread 37 _ _ _ rfl) rfl ?_
      refine g_isub (T_X9_spread 38 _ _ _ rfl) ?_
      refine g_max (st := []) (T_X9_spread 39 _ _ _ rfl) ml_X9_48 wmax (Nat.le_of_ble_eq_true rfl) (by omega) ?_
      refine g_bndI H fun y3 H => ?_
      refine g_istore (T_X9_spread 40 _ _ _ rfl) (by decide) ?_
      refine g_iload_n (T_X9_spread 41 _ _ _ rfl) rfl ?_
      refine g_sipush (T_X9_spread 42 _ _ _ rfl) (by decide) ?_
      refine g_iload (T_X9_spread 43 _ _ _ rfl) rfl ?_
      refine g_isub (T_X9_spread 44 _ _ _ rfl) ?_
      refine g_iload (T_X9_spread 45 _ _ _ rfl) rfl ?_
      refine g_isub (T_X9_spread 46 _ _ _ rfl) ?_
      refine g_min (st := []) (T_X9_spread 47 _ _ _ rfl) ml_X9_54 wmin (Nat.le_of_ble_eq_true rfl) (by omega) ?_
      refine g_bndI H fun y4 H => ?_
      refine g_istore (T_X9_spread 48 _ _ _ rfl) (by decide) ?_
      refine g_aload_n (T_X9_spread 49 _ _ _ rfl) rfl ?_
      refine g_getR (c := 69) (r := 72) (T_X9_spread 50 _ _ _ rfl) fl_X9_15 rfl (nR rfl) rfl (by decide) ?_
      refine g_iload_n (T_X9_spread 51 _ _ _ rfl) rfl ?_
      refine g_iload (T_X9_spread 52 _ _ _ rfl) rfl ?_
      refine g_iload (T_X9_spread 53 _ _ _ rfl) rfl ?_
      refine g_iadd (T_X9_spread 54 _ _ _ rfl) ?_
      obtain ⟨hg, H⟩ := grd_some H
      refine g_iast (c := 71) (T_X9_spread 55 _ _ _ rfl) rfl hg ?_
      refine g_bndH H fun h5 H => ?_
      refine g_iload_n (T_X9_spread 56 _ _ _ rfl) rfl ?_
      refine g_iload (T_X9_spread 57 _ _ _ rfl) rfl ?_
      refine g_isub (T_X9_spread 58 _ _ _ rfl) ?_
      refine g_bndI H fun y6 H => ?_
      refine g_istore_n (T_X9_spread 59 _ _ _ rfl) (by decide) ?_
      refine g_iincB (T_X9_spread 60 _ _ _ rfl) rfl (by decide) H fun y7 H => ?_
      refine g_goto (tgt := 40) (T_X9_spread 61 _ _ _ rfl) (by decide) ?_
      refine g_weak [true, false, true, true, false, false, false] ?_
      exact ih _ _ _ _ H
def F_X9_spread (N : Nat) (x1 : Int) (h : Hp) : Option (Int × Hp) :=
  bd (F_X9_neededFor N 999 h) fun y2 h1 =>
  if x1 ≤ y2 then
    bd (F_X9_greatestLevel N x1 h1) fun y4 h3 =>
    bnd (hw h3 69 5 y4) fun h5 =>
    bd (F_X9_neededFor N (h5 69 5) h5) fun y7 h6 =>
    bnd ((w32 (x1 - y7))) fun y8 =>
    bnd ((w32 ((h6 69 4) - 1))) fun y9 =>
    L_X9_spread_40 N  N y8 y9 h6
  else
  some (0, h1)
set_option maxRecDepth 100000 in
set_option maxHeartbeats 4000000 in
theorem R_X9_spread (N : Nat) (x1 : Int) (h : Hp) (res : Int × Hp) (H : F_X9_spread N x1 h = some res) : Runs M_X9_spread 4 [.inr 70, .inl x1] h (Qi res) := by
  refine Runs.of rfl (Nat.le_of_ble_eq_true rfl) ?_
  show Go M_X9_spread 4 0 [some (.inr 70), some (.inl x1), none, none, none, none, none] [] h (Qi res)
  unfold F_X9_spread at H
  refine g_aload_n (T_X9_spread 0 _ _ _ rfl) rfl ?_
  refine g_sipush (T_X9_spread 1 _ _ _ rfl) (by decide) ?_
  obtain ⟨y2, h1, hq, H⟩ := bd_some H
  refine g_callVi (M' := M_X9_neededFor) (c := 69) (av := [.inl 999]) (st := []) (T_X9_spread 2 _ _ _ rfl) ml_X9_36 cb_X9_neededFor rfl rfl (Nat.le_of_ble_eq_true rfl) (by omega) (R_X9_neededFor N _ _ _ hq) ?_
  refine g_iload_n (T_X9_spread 3 _ _ _ rfl) rfl ?_
  refine g_icmp_ge (tgt := 13) (T_X9_spread 4 _ _ _ rfl) (by decide) (fun cc => ?_) (fun cc => ?_)
  · replace H := ite_p cc H
    refine g_aload_n (T_X9_spread 7 _ _ _ rfl) rfl ?_
    refine g_aload_n (T_X9_spread 8 _ _ _ rfl) rfl ?_
    refine g_iload_n (T_X9_spread 9 _ _ _ rfl) rfl ?_
    obtain ⟨y4, h3, hq, H⟩ := bd_some H
    refine g_callVi (M' := M_X9_greatestLevel) (c := 69) (av := [.inl x1]) (st := [.inr 70]) (T_X9_spread 10 _ _ _ rfl) ml_X9_40 cb_X9_greatestLevel rfl rfl (Nat.le_of_ble_eq_true rfl) (by omega) (R_X9_greatestLevel N _ _ _ hq) ?_
    refine g_put (c := 69) (T_X9_spread 11 _ _ _ rfl) fl_X9_33 rfl (Or.inl rfl) ?_
    refine g_bndH H fun h5 H => ?_
    refine g_iload_n (T_X9_spread 12 _ _ _ rfl) rfl ?_
    refine g_aload_n (T_X9_spread 13 _ _ _ rfl) rfl ?_
    refine g_aload_n (T_X9_spread 14 _ _ _ rfl) rfl ?_
    refine g_getI (c := 69) (T_X9_spread 15 _ _ _ rfl) fl_X9_33 rfl (Or.inl rfl) ?_
    obtain ⟨y7, h6, hq, H⟩ := bd_some H
    refine g_callVi (M' := M_X9_neededFor) (c := 69) (av := [.inl (h5 69 5)]) (st := [.inl x1]) (T_X9_spread 16 _ _ _ rfl) ml_X9_36 cb_X9_neededFor rfl rfl (Nat.le_of_ble_eq_true rfl) (by omega) (R_X9_neededFor N _ _ _ hq) ?_
    refine g_isub (T_X9_spread 17 _ _ _ rfl) ?_
    refine g_bndI H fun y8 H => ?_
    refine g_istore_n (T_X9_spread 18 _ _ _ rfl) (by decide) ?_
    refine g_aload_n (T_X9_spread 19 _ _ _ rfl) rfl ?_
    refine g_getI (c := 69) (T_X9_spread 20 _ _ _ rfl) fl_X9_25 rfl (Or.inl rfl) ?_
    refine g_iconst (T_X9_spread 21 _ _ _ rfl) ⟨by decide, by decide⟩ ?_
    refine g_isub (T_X9_spread 22 _ _ _ rfl) ?_
    refine g_bndI H fun y9 H => ?_
    refine g_istore_n (T_X9_spread 23 _ _ _ rfl) (by decide) ?_
    refine g_weak [true, false, true, true, false, false, false] ?_
    refine R_L_X9_spread_40 N   _ _ _ _ _ H
  · replace H := ite_n cc H
    refine g_iconst (T_X9_spread 5 _ _ _ rfl) ⟨by decide, by decide⟩ ?_
    exact g_zret (T_X9_spread 6 _ _ _ rfl) rfl (by decide) (qi_of H)
def L_X9_yardsFor_2 (N : Nat) : Nat → Int → Int → Hp → Option (Int × Hp)
  | 0, _, _, _ => none
  | n + 1, x1, x2, h =>
    if (h 69 4) ≤ x2 then
      some ((-1), h)
    else
    grd (0 ≤ x2 ∧ x2 < 8) <|
    if (h 70 x2.toNat) = x1 then
      grd (0 ≤ x2 ∧ x2 < 8) <|
      some ((h 71 x2.toNat), h)
    else
    bnd (w32 (x2 + 1)) fun y1 =>
    (L_X9_yardsFor_2 N n) x1 y1 h
set_option maxRecDepth 100000 in
set_option maxHeartbeats 4000000 in
theorem R_L_X9_yardsFor_2 (N : Nat) : ∀ (n : Nat) (x1 : Int) (x2 : Int) (h : Hp) (res : Int × Hp), L_X9_yardsFor_2 N n x1 x2 h = some res → Go M_X9_yardsFor 1 2 [some (.inr 70), some (.inl x1), some (.inl x2)] [] h (Qi res)
  | 0, _, _, _, _, H => by cases H
  | n + 1, x1, x2, h, res, H => by
    have ih := R_L_X9_yardsFor_2 N n
    simp only [L_X9_yardsFor_2] at H
    refine g_iload_n (T_X9_yardsFor 2 _ _ _ rfl) rfl ?_
    refine g_aload_n (T_X9_yardsFor 3 _ _ _ rfl) rfl ?_
    refine g_getI (c := 69) (T_X9_yardsFor 4 _ _ _ rfl) fl_X9_25 rfl (Or.inl rfl) ?_
    refine g_icmp_ge (tgt := 33) (T_X9_yardsFor 5 _ _ _ rfl) (by decide) (fun cc => ?_) (fun cc => ?_)
    · replace H := ite_p cc H
      refine g_iconst (T_X9_yardsFor 19 _ _ _ rfl) ⟨by decide, by decide⟩ ?_
      exact g_iret (T_X9_yardsFor 20 _ _ _ rfl) rfl (qi_of H)
    · replace H := ite_n cc H
      refine g_aload_n (T_X9_yardsFor 6 _ _ _ rfl) rfl ?_
      refine g_getR (c := 69) (r := 71) (T_X9_yardsFor 7 _ _ _ rfl) fl_X9_9 rfl (nR rfl) rfl (by decide) ?_
      refine g_iload_n (T_X9_yardsFor 8 _ _ _ rfl) rfl ?_
      obtain ⟨hg, H⟩ := grd_some H
      refine g_iald (c := 70) (T_X9_yardsFor 9 _ _ _ rfl) rfl hg ?_
      refine g_iload_n (T_X9_yardsFor 10 _ _ _ rfl) rfl ?_
      refine g_icmp_ne (tgt := 27) (T_X9_yardsFor 11 _ _ _ rfl) (by decide) (fun cc => ?_) (fun cc => ?_)
      · replace H := ite_n cc H
        refine g_iincB (T_X9_yardsFor 17 _ _ _ rfl) rfl (by decide) H fun y1 H => ?_
        refine g_goto (tgt := 2) (T_X9_yardsFor 18 _ _ _ rfl) (by decide) ?_
        refine g_weak [true, true, true] ?_
        exact ih _ _ _ _ H
      · replace H := ite_p cc H
        refine g_aload_n (T_X9_yardsFor 12 _ _ _ rfl) rfl ?_
        refine g_getR (c := 69) (r := 72) (T_X9_yardsFor 13 _ _ _ rfl) fl_X9_15 rfl (nR rfl) rfl (by decide) ?_
        refine g_iload_n (T_X9_yardsFor 14 _ _ _ rfl) rfl ?_
        obtain ⟨hg, H⟩ := grd_some H
        refine g_iald (c := 71) (T_X9_yardsFor 15 _ _ _ rfl) rfl hg ?_
        exact g_iret (T_X9_yardsFor 16 _ _ _ rfl) rfl (qi_of H)
def F_X9_yardsFor (N : Nat) (x1 : Int) (h : Hp) : Option (Int × Hp) :=
  L_X9_yardsFor_2 N  N x1 0 h
set_option maxRecDepth 100000 in
set_option maxHeartbeats 4000000 in
theorem R_X9_yardsFor (N : Nat) (x1 : Int) (h : Hp) (res : Int × Hp) (H : F_X9_yardsFor N x1 h = some res) : Runs M_X9_yardsFor 1 [.inr 70, .inl x1] h (Qi res) := by
  refine Runs.of rfl (Nat.le_of_ble_eq_true rfl) ?_
  show Go M_X9_yardsFor 1 0 [some (.inr 70), some (.inl x1), none] [] h (Qi res)
  unfold F_X9_yardsFor at H
  refine g_iconst (T_X9_yardsFor 0 _ _ _ rfl) ⟨by decide, by decide⟩ ?_
  refine g_istore_n (T_X9_yardsFor 1 _ _ _ rfl) (by decide) ?_
  refine g_weak [true, true, true] ?_
  refine R_L_X9_yardsFor_2 N   _ _ _ _ _ H
def F_X9_least (N : Nat) (h : Hp) : Option (Int × Hp) :=
  some ((h 69 5), h)
set_option maxRecDepth 100000 in
set_option maxHeartbeats 4000000 in
theorem R_X9_least (N : Nat) (h : Hp) (res : Int × Hp) (H : F_X9_least N h = some res) : Runs M_X9_least 1 [.inr 70] h (Qi res) := by
  refine Runs.of rfl (Nat.le_of_ble_eq_true rfl) ?_
  show Go M_X9_least 1 0 [some (.inr 70)] [] h (Qi res)
  unfold F_X9_least at H
  refine g_aload_n (T_X9_least 0 _ _ _ rfl) rfl ?_
  refine g_getI (c := 69) (T_X9_least 1 _ _ _ rfl) fl_X9_33 rfl (Or.inl rfl) ?_
  exact g_iret (T_X9_least 2 _ _ _ rfl) rfl (qi_of H)
def J_X11_share_53 (N : Nat) (x1 : Int) (x2 : Int) (x3 : Int) (h : Hp) : Option (Int × Hp) :=
  bv (F_X9_choose N x2 h) fun h1 =>
  bd (F_X9_spread N x1 h1) fun y3 h2 =>
  if y3 = 0 then
    some ((-2), h2)
  else
  if x3 = 20 then
    bd (F_X9_least N h2) fun y7 h6 =>
    some (y7, h6)
  else
  bd (F_X9_yardsFor N x3 h2) fun y5 h4 =>
  some (y5, h4)
set_option maxRecDepth 100000 in
set_option maxHeartbeats 4000000 in
theorem R_J_X11_share_53 (N : Nat) (x1 : Int) (x2 : Int) (x3 : Int) (h : Hp) (res : Int × Hp) (H : J_X11_share_53 N x1 x2 x3 h = some res) : Go M_X11_share 5 53 [some (.inr 1), some (.inl x1), some (.inl x2), some (.inl x3)] [] h (Qi res) := by
  unfold J_X11_share_53 at H
  refine g_aload_n (T_X11_share 27 _ _ _ rfl) rfl ?_
  refine g_getR (c := 0) (r := 70) (T_X11_share 28 _ _ _ rfl) fl_X11_78 rfl (nR rfl) rfl (by decide) ?_
  refine g_iload_n (T_X11_share 29 _ _ _ rfl) rfl ?_
  obtain ⟨h1, hq, H⟩ := bv_some H
  refine g_callVv (M' := M_X9_choose) (c := 69) (av := [.inl x2]) (st := []) (T_X11_share 30 _ _ _ rfl) ml_X11_223 cb_X9_choose rfl rfl (Nat.le_of_ble_eq_true rfl) (by omega) (R_X9_choose N _ _ _ hq) ?_
  refine g_aload_n (T_X11_share 31 _ _ _ rfl) rfl ?_
  refine g_getR (c := 0) (r := 70) (T_X11_share 32 _ _ _ rfl) fl_X11_78 rfl (nR rfl) rfl (by decide) ?_
  refine g_iload_n (T_X11_share 33 _ _ _ rfl) rfl ?_
  obtain ⟨y3, h2, hq, H⟩ := bd_some H
  refine g_callVi (M' := M_X9_spread) (c := 69) (av := [.inl x1]) (st := []) (T_X11_share 34 _ _ _ rfl) ml_X11_226 cb_X9_spread rfl rfl (Nat.le_of_ble_eq_true rfl) (by omega) (R_X9_spread N _ _ _ hq) ?_
  refine g_if_ne (tgt := 75) (T_X11_share 35 _ _ _ rfl) (by decide) (fun cc => ?_) (fun cc => ?_)
  · replace H := ite_n cc H
    refine g_iload_n (T_X11_share 38 _ _ _ rfl) rfl ?_
    refine g_bipush (T_X11_share 39 _ _ _ rfl) (by decide) ?_
    refine g_icmp_ne (tgt := 91) (T_X11_share 40 _ _ _ rfl) (by decide) (fun cc => ?_) (fun cc => ?_)
    · replace H := ite_n cc H
      refine g_aload_n (T_X11_share 45 _ _ _ rfl) rfl ?_
      refine g_getR (c := 0) (r := 70) (T_X11_share 46 _ _ _ rfl) fl_X11_78 rfl (nR rfl) rfl (by decide) ?_
      refine g_iload_n (T_X11_share 47 _ _ _ rfl) rfl ?_
      obtain ⟨y5, h4, hq, H⟩ := bd_some H
      refine g_callVi (M' := M_X9_yardsFor) (c := 69) (av := [.inl x3]) (st := []) (T_X11_share 48 _ _ _ rfl) ml_X11_232 cb_X9_yardsFor rfl rfl (Nat.le_of_ble_eq_true rfl) (by omega) (R_X9_yardsFor N _ _ _ hq) ?_
      exact g_iret (T_X11_share 49 _ _ _ rfl) rfl (qi_of H)
    · replace H := ite_p cc H
      refine g_aload_n (T_X11_share 41 _ _ _ rfl) rfl ?_
      refine g_getR (c := 0) (r := 70) (T_X11_share 42 _ _ _ rfl) fl_X11_78 rfl (nR rfl) rfl (by decide) ?_
      obtain ⟨y7, h6, hq, H⟩ := bd_some H
      refine g_callVi (M' := M_X9_least) (c := 69) (av := []) (st := []) (T_X11_share 43 _ _ _ rfl) ml_X11_229 cb_X9_least rfl rfl (Nat.le_of_ble_eq_true rfl) (by omega) (R_X9_least N _ _ hq) ?_
      refine g_goto (tgt := 99) (T_X11_share 44 _ _ _ rfl) (by decide) ?_
      exact g_iret (T_X11_share 49 _ _ _ rfl) rfl (qi_of H)
  · replace H := ite_p cc H
    refine g_bipush (T_X11_share 36 _ _ _ rfl) (by decide) ?_
    exact g_iret (T_X11_share 37 _ _ _ rfl) rfl (qi_of H)
def F_X11_share (N : Nat) (x1 : Int) (x2 : Int) (x3 : Int) (h : Hp) : Option (Int × Hp) :=
  bd (F_X11_isWithin N x1 0 600 h) fun y2 h1 =>
  if y2 = 0 then
    some ((-1), h1)
  else
  bd (F_X1_areTold N x2 6 h1) fun y4 h3 =>
  if y4 = 0 then
    some ((-1), h3)
  else
  if x3 = 20 then
    J_X11_share_53 N  x1 x2 x3 h3
  else
  bd (F_X1_isTold N x3 h3) fun y6 h5 =>
  if y6 = 0 then
    some ((-1), h5)
  else
  bd (F_X11_hasBit N x2 x3 h5) fun y8 h7 =>
  if y8 = 0 then
    some ((-1), h7)
  else
  J_X11_share_53 N  x1 x2 x3 h7
set_option maxRecDepth 100000 in
set_option maxHeartbeats 4000000 in
theorem R_X11_share (N : Nat) (x1 : Int) (x2 : Int) (x3 : Int) (h : Hp) (res : Int × Hp) (H : F_X11_share N x1 x2 x3 h = some res) : Runs M_X11_share 5 [.inr 1, .inl x1, .inl x2, .inl x3] h (Qi res) := by
  refine Runs.of rfl (Nat.le_of_ble_eq_true rfl) ?_
  show Go M_X11_share 5 0 [some (.inr 1), some (.inl x1), some (.inl x2), some (.inl x3)] [] h (Qi res)
  unfold F_X11_share at H
  refine g_iload_n (T_X11_share 0 _ _ _ rfl) rfl ?_
  refine g_iconst (T_X11_share 1 _ _ _ rfl) ⟨by decide, by decide⟩ ?_
  refine g_sipush (T_X11_share 2 _ _ _ rfl) (by decide) ?_
  obtain ⟨y2, h1, hq, H⟩ := bd_some H
  refine g_callSi (M' := M_X11_isWithin) (av := [.inl x1, .inl 0, .inl 600]) (st := []) (T_X11_share 3 _ _ _ rfl) ml_X11_96 cb_X11_isWithin rfl (Nat.le_of_ble_eq_true rfl) (by omega) (R_X11_isWithin N _ _ _ _ _ hq) ?_
  refine g_if_eq (tgt := 24) (T_X11_share 4 _ _ _ rfl) (by decide) (fun cc => ?_) (fun cc => ?_)
  · replace H := ite_p cc H
    refine g_iconst (T_X11_share 11 _ _ _ rfl) ⟨by decide, by decide⟩ ?_
    exact g_iret (T_X11_share 12 _ _ _ rfl) rfl (qi_of H)
  · replace H := ite_n cc H
    refine g_aload_n (T_X11_share 5 _ _ _ rfl) rfl ?_
    refine g_getR (c := 0) (r := 2) (T_X11_share 6 _ _ _ rfl) fl_X11_28 rfl (nR rfl) rfl (by decide) ?_
    refine g_iload_n (T_X11_share 7 _ _ _ rfl) rfl ?_
    refine g_bipush (T_X11_share 8 _ _ _ rfl) (by decide) ?_
    obtain ⟨y4, h3, hq, H⟩ := bd_some H
    refine g_callVi (M' := M_X1_areTold) (c := 1) (av := [.inl x2, .inl 6]) (st := []) (T_X11_share 9 _ _ _ rfl) ml_X11_202 cb_X1_areTold rfl rfl (Nat.le_of_ble_eq_true rfl) (by omega) (R_X1_areTold N _ _ _ _ hq) ?_
    refine g_if_ne (tgt := 26) (T_X11_share 10 _ _ _ rfl) (by decide) (fun cc => ?_) (fun cc => ?_)
    · replace H := ite_n cc H
      refine g_iload_n (T_X11_share 13 _ _ _ rfl) rfl ?_
      refine g_bipush (T_X11_share 14 _ _ _ rfl) (by decide) ?_
      refine g_icmp_eq (tgt := 53) (T_X11_share 15 _ _ _ rfl) (by decide) (fun cc => ?_) (fun cc => ?_)
      · replace H := ite_p cc H
        refine g_weak [true, true, true, true] ?_
        exact R_J_X11_share_53 N   _ _ _ _ _ H
      · replace H := ite_n cc H
        refine g_aload_n (T_X11_share 16 _ _ _ rfl) rfl ?_
        refine g_getR (c := 0) (r := 2) (T_X11_share 17 _ _ _ rfl) fl_X11_28 rfl (nR rfl) rfl (by decide) ?_
        refine g_iload_n (T_X11_share 18 _ _ _ rfl) rfl ?_
        obtain ⟨y6, h5, hq, H⟩ := bd_some H
        refine g_callVi (M' := M_X1_isTold) (c := 1) (av := [.inl x3]) (st := []) (T_X11_share 19 _ _ _ rfl) ml_X11_112 cb_X1_isTold rfl rfl (Nat.le_of_ble_eq_true rfl) (by omega) (R_X1_isTold N _ _ _ hq) ?_
        refine g_if_eq (tgt := 51) (T_X11_share 20 _ _ _ rfl) (by decide) (fun cc => ?_) (fun cc => ?_)
        · replace H := ite_p cc H
          refine g_iconst (T_X11_share 25 _ _ _ rfl) ⟨by decide, by decide⟩ ?_
          exact g_iret (T_X11_share 26 _ _ _ rfl) rfl (qi_of H)
        · replace H := ite_n cc H
          refine g_iload_n (T_X11_share 21 _ _ _ rfl) rfl ?_
          refine g_iload_n (T_X11_share 22 _ _ _ rfl) rfl ?_
          obtain ⟨y8, h7, hq, H⟩ := bd_some H
          refine g_callSi (M' := M_X11_hasBit) (av := [.inl x2, .inl x3]) (st := []) (T_X11_share 23 _ _ _ rfl) ml_X11_206 cb_X11_hasBit rfl (Nat.le_of_ble_eq_true rfl) (by omega) (R_X11_hasBit N _ _ _ _ hq) ?_
          refine g_if_ne (tgt := 53) (T_X11_share 24 _ _ _ rfl) (by decide) (fun cc => ?_) (fun cc => ?_)
          · replace H := ite_n cc H
            refine g_weak [true, true, true, true] ?_
            exact R_J_X11_share_53 N   _ _ _ _ _ H
          · replace H := ite_p cc H
            refine g_iconst (T_X11_share 25 _ _ _ rfl) ⟨by decide, by decide⟩ ?_
            exact g_iret (T_X11_share 26 _ _ _ rfl) rfl (qi_of H)
    · replace H := ite_p cc H
      refine g_iconst (T_X11_share 11 _ _ _ rfl) ⟨by decide, by decide⟩ ?_
      exact g_iret (T_X11_share 12 _ _ _ rfl) rfl (qi_of H)
def J_X9_weigh_92 (N : Nat) (x1 : Int) (x3 : Int) (x4 : Int) (h : Hp) : Option (Hp) :=
  bnd (hw h 69 6 x1) fun h1 =>
  bnd (hw h1 69 7 x4) fun h2 =>
  bnd (hw h2 69 8 x3) fun h3 =>
  some h3
set_option maxRecDepth 100000 in
set_option maxHeartbeats 4000000 in
theorem R_J_X9_weigh_92 (N : Nat) (x1 : Int) (x3 : Int) (x4 : Int) (h : Hp) (res : Hp) (H : J_X9_weigh_92 N x1 x3 x4 h = some res) : Go M_X9_weigh 2 92 [some (.inr 70), some (.inl x1), none, some (.inl x3), some (.inl x4), none] [] h (Qv res) := by
  unfold J_X9_weigh_92 at H
  refine g_aload_n (T_X9_weigh 48 _ _ _ rfl) rfl ?_
  refine g_iload_n (T_X9_weigh 49 _ _ _ rfl) rfl ?_
  refine g_put (c := 69) (T_X9_weigh 50 _ _ _ rfl) fl_X9_63 rfl (Or.inl rfl) ?_
  refine g_bndH H fun h1 H => ?_
  refine g_aload_n (T_X9_weigh 51 _ _ _ rfl) rfl ?_
  refine g_iload (T_X9_weigh 52 _ _ _ rfl) rfl ?_
  refine g_put (c := 69) (T_X9_weigh 53 _ _ _ rfl) fl_X9_57 rfl (Or.inl rfl) ?_
  refine g_bndH H fun h2 H => ?_
  refine g_aload_n (T_X9_weigh 54 _ _ _ rfl) rfl ?_
  refine g_iload_n (T_X9_weigh 55 _ _ _ rfl) rfl ?_
  refine g_put (c := 69) (T_X9_weigh 56 _ _ _ rfl) fl_X9_60 rfl (Or.inl rfl) ?_
  refine g_bndH H fun h3 H => ?_
  exact g_vret (T_X9_weigh 57 _ _ _ rfl) rfl (qv_of H)
def J_X9_weigh_55 (N : Nat) (k8 : Int → Int → Int → Int → Int → Hp → Option (Hp)) (x1 : Int) (x2 : Int) (x3 : Int) (x4 : Int) (x5 : Int) (h : Hp) : Option (Hp) :=
  bnd (w32 (x5 + 1)) fun y1 =>
  k8 x1 x2 x3 x4 y1 h
set_option maxRecDepth 100000 in
set_option maxHeartbeats 4000000 in
theorem R_J_X9_weigh_55 (N : Nat) (k8 : Int → Int → Int → Int → Int → Hp → Option (Hp)) (hk8 : ∀ (x1 : Int) (x2 : Int) (x3 : Int) (x4 : Int) (x5 : Int) (h : Hp) (res : Hp), k8 x1 x2 x3 x4 x5 h = some res → Go M_X9_weigh 2 8 [some (.inr 70), some (.inl x1), some (.inl x2), some (.inl x3), some (.inl x4), some (.inl x5)] [] h (Qv res)) (x1 : Int) (x2 : Int) (x3 : Int) (x4 : Int) (x5 : Int) (h : Hp) (res : Hp) (H : J_X9_weigh_55 N k8 x1 x2 x3 x4 x5 h = some res) : Go M_X9_weigh 2 55 [some (.inr 70), some (.inl x1), some (.inl x2), some (.inl x3), some (.inl x4), some (.inl x5)] [] h (Qv res) := by
  unfold J_X9_weigh_55 at H
  refine g_iincB (T_X9_weigh 31 _ _ _ rfl) rfl (by decide) H fun y1 H => ?_
  refine g_goto (tgt := 8) (T_X9_weigh 32 _ _ _ rfl) (by decide) ?_
  refine g_weak [true, true, true, true, true, true] ?_
  exact hk8 _ _ _ _ _ _ _ H
def L_X9_weigh_8 (N : Nat) : Nat → Int → Int → Int → Int → Int → Hp → Option (Hp)
  | 0, _, _, _, _, _, _ => none
  | n + 1, x1, x2, x3, x4, x5, h =>
    if (h 69 4) ≤ x5 then
      if x2 < x3 then
        some h
      else
      if (h 69 7) < x4 then
        J_X9_weigh_92 N  x1 x3 x4 h
      else
      if x4 = (h 69 7) then
        if (h 69 8) ≤ x3 then
          some h
        else
        J_X9_weigh_92 N  x1 x3 x4 h
      else
      some h
    else
    bd (F_X11_hasBit N x1 x5 h) fun y2 h1 =>
    if y2 = 0 then
      J_X9_weigh_55 N (L_X9_weigh_8 N n) x1 x2 x3 x4 x5 h1
    else
    grd (0 ≤ x5 ∧ x5 < 8) <|
    bnd ((w32 (x3 + (h1 71 x5.toNat)))) fun y3 =>
    grd (0 ≤ x5 ∧ x5 < 8) <|
    bd (F_X1_housesOf N (h1 70 x5.toNat) h1) fun y5 h4 =>
    bnd ((w32 (x4 + y5))) fun y6 =>
    J_X9_weigh_55 N (L_X9_weigh_8 N n) x1 x2 y3 y6 x5 h4
set_option maxRecDepth 100000 in
set_option maxHeartbeats 4000000 in
theorem R_L_X9_weigh_8 (N : Nat) : ∀ (n : Nat) (x1 : Int) (x2 : Int) (x3 : Int) (x4 : Int) (x5 : Int) (h : Hp) (res : Hp), L_X9_weigh_8 N n x1 x2 x3 x4 x5 h = some res → Go M_X9_weigh 2 8 [some (.inr 70), some (.inl x1), some (.inl x2), some (.inl x3), some (.inl x4), some (.inl x5)] [] h (Qv res)
  | 0, _, _, _, _, _, _, _, H => by cases H
  | n + 1, x1, x2, x3, x4, x5, h, res, H => by
    have ih := R_L_X9_weigh_8 N n
    simp only [L_X9_weigh_8] at H
    refine g_iload (T_X9_weigh 6 _ _ _ rfl) rfl ?_
    refine g_aload_n (T_X9_weigh 7 _ _ _ rfl) rfl ?_
    refine g_getI (c := 69) (T_X9_weigh 8 _ _ _ rfl) fl_X9_25 rfl (Or.inl rfl) ?_
    refine g_icmp_ge (tgt := 61) (T_X9_weigh 9 _ _ _ rfl) (by decide) (fun cc => ?_) (fun cc => ?_)
    · replace H := ite_p cc H
      refine g_iload_n (T_X9_weigh 33 _ _ _ rfl) rfl ?_
      refine g_iload_n (T_X9_weigh 34 _ _ _ rfl) rfl ?_
      refine g_icmp_gt (tgt := 108) (T_X9_weigh 35 _ _ _ rfl) (by decide) (fun cc => ?_) (fun cc => ?_)
      · replace H := ite_p cc H
        exact g_vret (T_X9_weigh 57 _ _ _ rfl) rfl (qv_of H)
      · replace H := ite_n cc H
        refine g_iload (T_X9_weigh 36 _ _ _ rfl) rfl ?_
        refine g_aload_n (T_X9_weigh 37 _ _ _ rfl) rfl ?_
        refine g_getI (c := 69) (T_X9_weigh 38 _ _ _ rfl) fl_X9_57 rfl (Or.inl rfl) ?_
        refine g_icmp_gt (tgt := 92) (T_X9_weigh 39 _ _ _ rfl) (by decide) (fun cc => ?_) (fun cc => ?_)
        · replace H := ite_p cc H
          refine g_weak [true, true, false, true, true, false] ?_
          exact R_J_X9_weigh_92 N   _ _ _ _ _ H
        · replace H := ite_n cc H
          refine g_iload (T_X9_weigh 40 _ _ _ rfl) rfl ?_
          refine g_aload_n (T_X9_weigh 41 _ _ _ rfl) rfl ?_
          refine g_getI (c := 69) (T_X9_weigh 42 _ _ _ rfl) fl_X9_57 rfl (Or.inl rfl) ?_
          refine g_icmp_ne (tgt := 108) (T_X9_weigh 43 _ _ _ rfl) (by decide) (fun cc => ?_) (fun cc => ?_)
          · replace H := ite_n cc H
            exact g_vret (T_X9_weigh 57 _ _ _ rfl) rfl (qv_of H)
          · replace H := ite_p cc H
            refine g_iload_n (T_X9_weigh 44 _ _ _ rfl) rfl ?_
            refine g_aload_n (T_X9_weigh 45 _ _ _ rfl) rfl ?_
            refine g_getI (c := 69) (T_X9_weigh 46 _ _ _ rfl) fl_X9_60 rfl (Or.inl rfl) ?_
            refine g_icmp_ge (tgt := 108) (T_X9_weigh 47 _ _ _ rfl) (by decide) (fun cc => ?_) (fun cc => ?_)
            · replace H := ite_p cc H
              exact g_vret (T_X9_weigh 57 _ _ _ rfl) rfl (qv_of H)
            · replace H := ite_n cc H
              refine g_weak [true, true, false, true, true, false] ?_
              exact R_J_X9_weigh_92 N   _ _ _ _ _ H
    · replace H := ite_n cc H
      refine g_iload_n (T_X9_weigh 10 _ _ _ rfl) rfl ?_
      refine g_iload (T_X9_weigh 11 _ _ _ rfl) rfl ?_
      obtain ⟨y2, h1, hq, H⟩ := bd_some H
      refine g_callSNi (M' := M_X11_hasBit) (av := [.inl x1, .inl x5]) (st := []) (T_X9_weigh 12 _ _ _ rfl) ml_X9_29 cb_X11_hasBit rfl (Nat.le_of_ble_eq_true rfl) (by omega) (R_X11_hasBit N _ _ _ _ hq) ?_
      refine g_if_eq (tgt := 55) (T_X9_weigh 13 _ _ _ rfl) (by decide) (fun cc => ?_) (fun cc => ?_)
      · replace H := ite_p cc H
        refine g_weak [true, true, true, true, true, true] ?_
        exact R_J_X9_weigh_55 N (L_X9_weigh_8 N n) ih _ _ _ _ _ _ _ H
      · replace H := ite_n cc H
        refine g_iload_n (T_X9_weigh 14 _ _ _ rfl) rfl ?_
        refine g_aload_n (T_X9_weigh 15 _ _ _ rfl) rfl ?_
        refine g_getR (c := 69) (r := 72) (T_X9_weigh 16 _ _ _ rfl) fl_X9_15 rfl (nR rfl) rfl (by decide) ?_
        refine g_iload (T_X9_weigh 17 _ _ _ rfl) rfl ?_
        obtain ⟨hg, H⟩ := grd_some H
        refine g_iald (c := 71) (T_X9_weigh 18 _ _ _ rfl) rfl hg ?_
        refine g_iadd (T_X9_weigh 19 _ _ _ rfl) ?_
        refine g_bndI H fun y3 H => ?_
        refine g_istore_n (T_X9_weigh 20 _ _ _ rfl) (by decide) ?_
        refine g_iload (T_X9_weigh 21 _ _ _ rfl) rfl ?_
        refine g_aload_n (T_X9_weigh 22 _ _ _ rfl) rfl ?_
        refine g_getR (c := 69) (r := 2) (T_X9_weigh 23 _ _ _ rfl) fl_X9_21 rfl (nR rfl) rfl (by decide) ?_
        refine g_aload_n (T_X9_weigh 24 _ _ _ rfl) rfl ?_
        refine g_getR (c := 69) (r := 71) (T_X9_weigh 25 _ _ _ rfl) fl_X9_9 rfl (nR rfl) rfl (by decide) ?_
        refine g_iload (T_X9_weigh 26 _ _ _ rfl) rfl ?_
        obtain ⟨hg, H⟩ := grd_some H
        refine g_iald (c := 70) (T_X9_weigh 27 _ _ _ rfl) rfl hg ?_
        obtain ⟨y5, h4, hq, H⟩ := bd_some H
        refine g_callVi (M' := M_X1_housesOf) (c := 1) (av := [.inl (h1 70 x5.toNat)]) (st := [.inl x4]) (T_X9_weigh 28 _ _ _ rfl) ml_X9_94 cb_X1_housesOf rfl rfl (Nat.le_of_ble_eq_true rfl) (by omega) (R_X1_housesOf N _ _ _ hq) ?_
        refine g_iadd (T_X9_weigh 29 _ _ _ rfl) ?_
        refine g_bndI H fun y6 H => ?_
        refine g_istore (T_X9_weigh 30 _ _ _ rfl) (by decide) ?_
        refine g_weak [true, true, true, true, true, true] ?_
        exact R_J_X9_weigh_55 N (L_X9_weigh_8 N n) ih _ _ _ _ _ _ _ H
def F_X9_weigh (N : Nat) (x1 : Int) (x2 : Int) (h : Hp) : Option (Hp) :=
  L_X9_weigh_8 N  N x1 x2 0 0 0 h
set_option maxRecDepth 100000 in
set_option maxHeartbeats 4000000 in
theorem R_X9_weigh (N : Nat) (x1 : Int) (x2 : Int) (h : Hp) (res : Hp) (H : F_X9_weigh N x1 x2 h = some res) : Runs M_X9_weigh 2 [.inr 70, .inl x1, .inl x2] h (Qv res) := by
  refine Runs.of rfl (Nat.le_of_ble_eq_true rfl) ?_
  show Go M_X9_weigh 2 0 [some (.inr 70), some (.inl x1), some (.inl x2), none, none, none] [] h (Qv res)
  unfold F_X9_weigh at H
  refine g_iconst (T_X9_weigh 0 _ _ _ rfl) ⟨by decide, by decide⟩ ?_
  refine g_istore_n (T_X9_weigh 1 _ _ _ rfl) (by decide) ?_
  refine g_iconst (T_X9_weigh 2 _ _ _ rfl) ⟨by decide, by decide⟩ ?_
  refine g_istore (T_X9_weigh 3 _ _ _ rfl) (by decide) ?_
  refine g_iconst (T_X9_weigh 4 _ _ _ rfl) ⟨by decide, by decide⟩ ?_
  refine g_istore (T_X9_weigh 5 _ _ _ rfl) (by decide) ?_
  refine g_weak [true, true, true, true, true, true] ?_
  refine R_L_X9_weigh_8 N   _ _ _ _ _ _ _ _ H
def F_X9_missingToSleep (N : Nat) (x1 : Int) (h : Hp) : Option (Int × Hp) :=
  bd (F_X1_depthOf N x1 h) fun y2 h1 =>
  bd (F_X1_night N h1) fun y4 h3 =>
  bv (F_X2_regardTime N 0 y4 0 h3) fun h5 =>
  bd (F_X1_lampsOf N x1 h5) fun y7 h6 =>
  bv (F_X2_regardStreet N x1 y7 y2 h6) fun h8 =>
  bd (F_X2_ask N 115 h8) fun y10 h9 =>
  some ((imax 0 (w32 ((imax 1 y10) - y2))), h9)
set_option maxRecDepth 100000 in
set_option maxHeartbeats 4000000 in
theorem R_X9_missingToSleep (N : Nat) (x1 : Int) (h : Hp) (res : Int × Hp) (H : F_X9_missingToSleep N x1 h = some res) : Runs M_X9_missingToSleep 4 [.inr 70, .inl x1, .inr 12] h (Qi res) := by
  refine Runs.of rfl (Nat.le_of_ble_eq_true rfl) ?_
  show Go M_X9_missingToSleep 4 0 [some (.inr 70), some (.inl x1), some (.inr 12), none] [] h (Qi res)
  unfold F_X9_missingToSleep at H
  refine g_aload_n (T_X9_missingToSleep 0 _ _ _ rfl) rfl ?_
  refine g_getR (c := 69) (r := 2) (T_X9_missingToSleep 1 _ _ _ rfl) fl_X9_21 rfl (nR rfl) rfl (by decide) ?_
  refine g_iload_n (T_X9_missingToSleep 2 _ _ _ rfl) rfl ?_
  obtain ⟨y2, h1, hq, H⟩ := bd_some H
  refine g_callVi (M' := M_X1_depthOf) (c := 1) (av := [.inl x1]) (st := []) (T_X9_missingToSleep 3 _ _ _ rfl) ml_X9_43 cb_X1_depthOf rfl rfl (Nat.le_of_ble_eq_true rfl) (by omega) (R_X1_depthOf N _ _ _ hq) ?_
  refine g_istore_n (T_X9_missingToSleep 4 _ _ _ rfl) (by decide) ?_
  refine g_aload_n (T_X9_missingToSleep 5 _ _ _ rfl) rfl ?_
  refine g_iconst (T_X9_missingToSleep 6 _ _ _ rfl) ⟨by decide, by decide⟩ ?_
  refine g_aload_n (T_X9_missingToSleep 7 _ _ _ rfl) rfl ?_
  refine g_getR (c := 69) (r := 2) (T_X9_missingToSleep 8 _ _ _ rfl) fl_X9_21 rfl (nR rfl) rfl (by decide) ?_
  obtain ⟨y4, h3, hq, H⟩ := bd_some H
  refine g_callVi (M' := M_X1_night) (c := 1) (av := []) (st := [.inl 0, .inr 12]) (T_X9_missingToSleep 9 _ _ _ rfl) ml_X9_74 cb_X1_night rfl rfl (Nat.le_of_ble_eq_true rfl) (by omega) (R_X1_night N _ _ hq) ?_
  refine g_iconst (T_X9_missingToSleep 10 _ _ _ rfl) ⟨by decide, by decide⟩ ?_
  obtain ⟨h5, hq, H⟩ := bv_some H
  refine g_callVv (M' := M_X2_regardTime) (c := 11) (av := [.inl 0, .inl y4, .inl 0]) (st := []) (T_X9_missingToSleep 11 _ _ _ rfl) ml_X9_78 cb_X2_regardTime rfl rfl (Nat.le_of_ble_eq_true rfl) (by omega) (R_X2_regardTime N _ _ _ _ _ hq) ?_
  refine g_aload_n (T_X9_missingToSleep 12 _ _ _ rfl) rfl ?_
  refine g_aload_n (T_X9_missingToSleep 13 _ _ _ rfl) rfl ?_
  refine g_getR (c := 69) (r := 2) (T_X9_missingToSleep 14 _ _ _ rfl) fl_X9_21 rfl (nR rfl) rfl (by decide) ?_
  refine g_iload_n (T_X9_missingToSleep 15 _ _ _ rfl) rfl ?_
  refine g_aload_n (T_X9_missingToSleep 16 _ _ _ rfl) rfl ?_
  refine g_getR (c := 69) (r := 2) (T_X9_missingToSleep 17 _ _ _ rfl) fl_X9_21 rfl (nR rfl) rfl (by decide) ?_
  refine g_iload_n (T_X9_missingToSleep 18 _ _ _ rfl) rfl ?_
  obtain ⟨y7, h6, hq, H⟩ := bd_some H
  refine g_callVi (M' := M_X1_lampsOf) (c := 1) (av := [.inl x1]) (st := [.inl x1, .inr 2, .inr 12]) (T_X9_missingToSleep 19 _ _ _ rfl) ml_X9_84 cb_X1_lampsOf rfl rfl (Nat.le_of_ble_eq_true rfl) (by omega) (R_X1_lampsOf N _ _ _ hq) ?_
  refine g_iload_n (T_X9_missingToSleep 20 _ _ _ rfl) rfl ?_
  obtain ⟨h8, hq, H⟩ := bv_some H
  refine g_callVv (M' := M_X2_regardStreet) (c := 11) (av := [.inr 2, .inl x1, .inl y7, .inl y2]) (st := []) (T_X9_missingToSleep 21 _ _ _ rfl) ml_X9_87 cb_X2_regardStreet rfl rfl (Nat.le_of_ble_eq_true rfl) (by omega) (R_X2_regardStreet N _ _ _ _ _ hq) ?_
  refine g_iconst (T_X9_missingToSleep 22 _ _ _ rfl) ⟨by decide, by decide⟩ ?_
  refine g_iconst (T_X9_missingToSleep 23 _ _ _ rfl) ⟨by decide, by decide⟩ ?_
  refine g_aload_n (T_X9_missingToSleep 24 _ _ _ rfl) rfl ?_
  refine g_bipush (T_X9_missingToSleep 25 _ _ _ rfl) (by decide) ?_
  obtain ⟨y10, h9, hq, H⟩ := bd_some H
  refine g_callVi (M' := M_X2_ask) (c := 11) (av := [.inl 115]) (st := [.inl 1, .inl 0]) (T_X9_missingToSleep 26 _ _ _ rfl) ml_X9_91 cb_X2_ask rfl rfl (Nat.le_of_ble_eq_true rfl) (by omega) (R_X2_ask N _ _ _ hq) ?_
  refine g_max (st := [.inl 0]) (T_X9_missingToSleep 27 _ _ _ rfl) ml_X9_48 wmax (Nat.le_of_ble_eq_true rfl) (by omega) ?_
  refine g_iload_n (T_X9_missingToSleep 28 _ _ _ rfl) rfl ?_
  refine g_isub (T_X9_missingToSleep 29 _ _ _ rfl) ?_
  refine g_max (st := []) (T_X9_missingToSleep 30 _ _ _ rfl) ml_X9_48 wmax (Nat.le_of_ble_eq_true rfl) (by omega) ?_
  exact g_iret (T_X9_missingToSleep 31 _ _ _ rfl) rfl (qi_of H)
def J_X9_findSleepful_90 (N : Nat) (k64 : Int → Int → Int → Hp → Option (Hp)) (x1 : Int) (x3 : Int) (x4 : Int) (h : Hp) : Option (Hp) :=
  bnd (w32 (x4 + 1)) fun y1 =>
  k64 x1 x3 y1 h
set_option maxRecDepth 100000 in
set_option maxHeartbeats 4000000 in
theorem R_J_X9_findSleepful_90 (N : Nat) (k64 : Int → Int → Int → Hp → Option (Hp)) (hk64 : ∀ (x1 : Int) (x3 : Int) (x4 : Int) (h : Hp) (res : Hp), k64 x1 x3 x4 h = some res → Go M_X9_findSleepful 5 64 [some (.inr 70), some (.inl x1), none, some (.inl x3), some (.inl x4)] [] h (Qv res)) (x1 : Int) (x3 : Int) (x4 : Int) (h : Hp) (res : Hp) (H : J_X9_findSleepful_90 N k64 x1 x3 x4 h = some res) : Go M_X9_findSleepful 5 90 [some (.inr 70), some (.inl x1), none, some (.inl x3), some (.inl x4)] [] h (Qv res) := by
  unfold J_X9_findSleepful_90 at H
  refine g_iincB (T_X9_findSleepful 52 _ _ _ rfl) rfl (by decide) H fun y1 H => ?_
  refine g_goto (tgt := 64) (T_X9_findSleepful 53 _ _ _ rfl) (by decide) ?_
  refine g_weak [true, true, false, true, true] ?_
  exact hk64 _ _ _ _ _ H
def L_X9_findSleepful_64 (N : Nat) : Nat → Int → Int → Int → Hp → Option (Hp)
  | 0, _, _, _, _ => none
  | n + 1, x1, x3, x4, h =>
    if (ishl 1 (h 69 4)) ≤ x4 then
      some h
    else
    if (iand x4 x3) = x3 then
      bv (F_X9_weigh N x4 x1 h) fun h1 =>
      J_X9_findSleepful_90 N (L_X9_findSleepful_64 N n) x1 x3 x4 h1
    else
    J_X9_findSleepful_90 N (L_X9_findSleepful_64 N n) x1 x3 x4 h
set_option maxRecDepth 100000 in
set_option maxHeartbeats 4000000 in
theorem R_L_X9_findSleepful_64 (N : Nat) : ∀ (n : Nat) (x1 : Int) (x3 : Int) (x4 : Int) (h : Hp) (res : Hp), L_X9_findSleepful_64 N n x1 x3 x4 h = some res → Go M_X9_findSleepful 5 64 [some (.inr 70), some (.inl x1), none, some (.inl x3), some (.inl x4)] [] h (Qv res)
  | 0, _, _, _, _, _, H => by cases H
  | n + 1, x1, x3, x4, h, res, H => by
    have ih := R_L_X9_findSleepful_64 N n
    simp only [L_X9_findSleepful_64] at H
    refine g_iload (T_X9_findSleepful 37 _ _ _ rfl) rfl ?_
    refine g_iconst (T_X9_findSleepful 38 _ _ _ rfl) ⟨by decide, by decide⟩ ?_
    refine g_aload_n (T_X9_findSleepful 39 _ _ _ rfl) rfl ?_
    refine g_getI (c := 69) (T_X9_findSleepful 40 _ _ _ rfl) fl_X9_25 rfl (Or.inl rfl) ?_
    refine g_ishl (T_X9_findSleepful 41 _ _ _ rfl) ?_
    refine g_icmp_ge (tgt := 96) (T_X9_findSleepful 42 _ _ _ rfl) (by decide) (fun cc => ?_) (fun cc => ?_)
    · replace H := ite_p cc H
      exact g_vret (T_X9_findSleepful 54 _ _ _ rfl) rfl (qv_of H)
    · replace H := ite_n cc H
      refine g_iload (T_X9_findSleepful 43 _ _ _ rfl) rfl ?_
      refine g_iload_n (T_X9_findSleepful 44 _ _ _ rfl) rfl ?_
      refine g_iand (T_X9_findSleepful 45 _ _ _ rfl) ?_
      refine g_iload_n (T_X9_findSleepful 46 _ _ _ rfl) rfl ?_
      refine g_icmp_ne (tgt := 90) (T_X9_findSleepful 47 _ _ _ rfl) (by decide) (fun cc => ?_) (fun cc => ?_)
      · replace H := ite_n cc H
        refine g_weak [true, true, false, true, true] ?_
        exact R_J_X9_findSleepful_90 N (L_X9_findSleepful_64 N n) ih _ _ _ _ _ H
      · replace H := ite_p cc H
        refine g_aload_n (T_X9_findSleepful 48 _ _ _ rfl) rfl ?_
        refine g_iload (T_X9_findSleepful 49 _ _ _ rfl) rfl ?_
        refine g_iload_n (T_X9_findSleepful 50 _ _ _ rfl) rfl ?_
        obtain ⟨h1, hq, H⟩ := bv_some H
        refine g_callVv (M' := M_X9_weigh) (c := 69) (av := [.inl x4, .inl x1]) (st := []) (T_X9_findSleepful 51 _ _ _ rfl) ml_X9_70 cb_X9_weigh rfl rfl (Nat.le_of_ble_eq_true rfl) (by omega) (R_X9_weigh N _ _ _ _ hq) ?_
        refine g_weak [true, true, false, true, true] ?_
        exact R_J_X9_findSleepful_90 N (L_X9_findSleepful_64 N n) ih _ _ _ _ _ H
def J_X9_findSleepful_50 (N : Nat) (k5 : Int → Int → Int → Hp → Option (Hp)) (x1 : Int) (x3 : Int) (x4 : Int) (h : Hp) : Option (Hp) :=
  bnd (w32 (x4 + 1)) fun y1 =>
  k5 x1 x3 y1 h
set_option maxRecDepth 100000 in
set_option maxHeartbeats 4000000 in
theorem R_J_X9_findSleepful_50 (N : Nat) (k5 : Int → Int → Int → Hp → Option (Hp)) (hk5 : ∀ (x1 : Int) (x3 : Int) (x4 : Int) (h : Hp) (res : Hp), k5 x1 x3 x4 h = some res → Go M_X9_findSleepful 5 5 [some (.inr 70), some (.inl x1), some (.inr 12), some (.inl x3), some (.inl x4)] [] h (Qv res)) (x1 : Int) (x3 : Int) (x4 : Int) (h : Hp) (res : Hp) (H : J_X9_findSleepful_50 N k5 x1 x3 x4 h = some res) : Go M_X9_findSleepful 5 50 [some (.inr 70), some (.inl x1), some (.inr 12), some (.inl x3), some (.inl x4)] [] h (Qv res) := by
  unfold J_X9_findSleepful_50 at H
  refine g_iincB (T_X9_findSleepful 30 _ _ _ rfl) rfl (by decide) H fun y1 H => ?_
  refine g_goto (tgt := 5) (T_X9_findSleepful 31 _ _ _ rfl) (by decide) ?_
  refine g_weak [true, true, true, true, true] ?_
  exact hk5 _ _ _ _ _ H
def L_X9_findSleepful_5 (N : Nat) : Nat → Int → Int → Int → Hp → Option (Hp)
  | 0, _, _, _, _ => none
  | n + 1, x1, x3, x4, h =>
    if (h 69 4) ≤ x4 then
      bnd (hw h 69 7 (-1)) fun h1 =>
      L_X9_findSleepful_64 N  N x1 x3 0 h1
    else
    grd (0 ≤ x4 ∧ x4 < 8) <|
    bd (F_X9_missingToSleep N (h 70 x4.toNat) h) fun y3 h2 =>
    grd (0 ≤ x4 ∧ x4 < 8) <|
    bnd (hw h2 71 x4.toNat y3) fun h4 =>
    grd (0 ≤ x4 ∧ x4 < 8) <|
    if (h4 71 x4.toNat) = 0 then
      bnd ((ior x3 (ishl 1 x4))) fun y5 =>
      J_X9_findSleepful_50 N (L_X9_findSleepful_5 N n) x1 y5 x4 h4
    else
    J_X9_findSleepful_50 N (L_X9_findSleepful_5 N n) x1 x3 x4 h4
set_option maxRecDepth 100000 in
set_option maxHeartbeats 4000000 in
theorem R_L_X9_findSleepful_5 (N : Nat) : ∀ (n : Nat) (x1 : Int) (x3 : Int) (x4 : Int) (h : Hp) (res : Hp), L_X9_findSleepful_5 N n x1 x3 x4 h = some res → Go M_X9_findSleepful 5 5 [some (.inr 70), some (.inl x1), some (.inr 12), some (.inl x3), some (.inl x4)] [] h (Qv res)
  | 0, _, _, _, _, _, H => by cases H
  | n + 1, x1, x3, x4, h, res, H => by
    have ih := R_L_X9_findSleepful_5 N n
    simp only [L_X9_findSleepful_5] at H
    refine g_iload (T_X9_findSleepful 4 _ _ _ rfl) rfl ?_
    refine g_aload_n (T_X9_findSleepful 5 _ _ _ rfl) rfl ?_
    refine g_getI (c := 69) (T_X9_findSleepful 6 _ _ _ rfl) fl_X9_25 rfl (Or.inl rfl) ?_
    refine g_icmp_ge (tgt := 56) (T_X9_findSleepful 7 _ _ _ rfl) (by decide) (fun cc => ?_) (fun cc => ?_)
    · replace H := ite_p cc H
      refine g_aload_n (T_X9_findSleepful 32 _ _ _ rfl) rfl ?_
      refine g_iconst (T_X9_findSleepful 33 _ _ _ rfl) ⟨by decide, by decide⟩ ?_
      refine g_put (c := 69) (T_X9_findSleepful 34 _ _ _ rfl) fl_X9_57 rfl (Or.inl rfl) ?_
      refine g_bndH H fun h1 H => ?_
      refine g_iconst (T_X9_findSleepful 35 _ _ _ rfl) ⟨by decide, by decide⟩ ?_
      refine g_istore (T_X9_findSleepful 36 _ _ _ rfl) (by decide) ?_
      refine g_weak [true, true, false, true, true] ?_
      refine R_L_X9_findSleepful_64 N   _ _ _ _ _ _ H
    · replace H := ite_n cc H
      refine g_aload_n (T_X9_findSleepful 8 _ _ _ rfl) rfl ?_
      refine g_getR (c := 69) (r := 72) (T_X9_findSleepful 9 _ _ _ rfl) fl_X9_15 rfl (nR rfl) rfl (by decide) ?_
      refine g_iload (T_X9_findSleepful 10 _ _ _ rfl) rfl ?_
      refine g_aload_n (T_X9_findSleepful 11 _ _ _ rfl) rfl ?_
      refine g_aload_n (T_X9_findSleepful 12 _ _ _ rfl) rfl ?_
      refine g_getR (c := 69) (r := 71) (T_X9_findSleepful 13 _ _ _ rfl) fl_X9_9 rfl (nR rfl) rfl (by decide) ?_
      refine g_iload (T_X9_findSleepful 14 _ _ _ rfl) rfl ?_
      obtain ⟨hg, H⟩ := grd_some H
      refine g_iald (c := 70) (T_X9_findSleepful 15 _ _ _ rfl) rfl hg ?_
      refine g_aload_n (T_X9_findSleepful 16 _ _ _ rfl) rfl ?_
      obtain ⟨y3, h2, hq, H⟩ := bd_some H
      refine g_callVi (M' := M_X9_missingToSleep) (c := 69) (av := [.inl (h 70 x4.toNat), .inr 12]) (st := [.inl x4, .inr 72]) (T_X9_findSleepful 17 _ _ _ rfl) ml_X9_66 cb_X9_missingToSleep rfl rfl (Nat.le_of_ble_eq_true rfl) (by omega) (R_X9_missingToSleep N _ _ _ hq) ?_
      obtain ⟨hg, H⟩ := grd_some H
      refine g_iast (c := 71) (T_X9_findSleepful 18 _ _ _ rfl) rfl hg ?_
      refine g_bndH H fun h4 H => ?_
      refine g_aload_n (T_X9_findSleepful 19 _ _ _ rfl) rfl ?_
      refine g_getR (c := 69) (r := 72) (T_X9_findSleepful 20 _ _ _ rfl) fl_X9_15 rfl (nR rfl) rfl (by decide) ?_
      refine g_iload (T_X9_findSleepful 21 _ _ _ rfl) rfl ?_
      obtain ⟨hg, H⟩ := grd_some H
      refine g_iald (c := 71) (T_X9_findSleepful 22 _ _ _ rfl) rfl hg ?_
      refine g_if_ne (tgt := 50) (T_X9_findSleepful 23 _ _ _ rfl) (by decide) (fun cc => ?_) (fun cc => ?_)
      · replace H := ite_n cc H
        refine g_weak [true, true, true, true, true] ?_
        exact R_J_X9_findSleepful_50 N (L_X9_findSleepful_5 N n) ih _ _ _ _ _ H
      · replace H := ite_p cc H
        refine g_iload_n (T_X9_findSleepful 24 _ _ _ rfl) rfl ?_
        refine g_iconst (T_X9_findSleepful 25 _ _ _ rfl) ⟨by decide, by decide⟩ ?_
        refine g_iload (T_X9_findSleepful 26 _ _ _ rfl) rfl ?_
        refine g_ishl (T_X9_findSleepful 27 _ _ _ rfl) ?_
        refine g_ior (T_X9_findSleepful 28 _ _ _ rfl) ?_
        refine g_bndI H fun y5 H => ?_
        refine g_istore_n (T_X9_findSleepful 29 _ _ _ rfl) (by decide) ?_
        refine g_weak [true, true, true, true, true] ?_
        exact R_J_X9_findSleepful_50 N (L_X9_findSleepful_5 N n) ih _ _ _ _ _ H
def F_X9_findSleepful (N : Nat) (x1 : Int) (h : Hp) : Option (Hp) :=
  L_X9_findSleepful_5 N  N x1 0 0 h
set_option maxRecDepth 100000 in
set_option maxHeartbeats 4000000 in
theorem R_X9_findSleepful (N : Nat) (x1 : Int) (h : Hp) (res : Hp) (H : F_X9_findSleepful N x1 h = some res) : Runs M_X9_findSleepful 5 [.inr 70, .inl x1, .inr 12] h (Qv res) := by
  refine Runs.of rfl (Nat.le_of_ble_eq_true rfl) ?_
  show Go M_X9_findSleepful 5 0 [some (.inr 70), some (.inl x1), some (.inr 12), none, none] [] h (Qv res)
  unfold F_X9_findSleepful at H
  refine g_iconst (T_X9_findSleepful 0 _ _ _ rfl) ⟨by decide, by decide⟩ ?_
  refine g_istore_n (T_X9_findSleepful 1 _ _ _ rfl) (by decide) ?_
  refine g_iconst (T_X9_findSleepful 2 _ _ _ rfl) ⟨by decide, by decide⟩ ?_
  refine g_istore (T_X9_findSleepful 3 _ _ _ rfl) (by decide) ?_
  refine g_weak [true, true, true, true, true] ?_
  refine R_L_X9_findSleepful_5 N   _ _ _ _ _ _ H
def J_X9_sleepingStreets_34 (N : Nat) (k4 : Int → Int → Hp → Option (Int × Hp)) (x1 : Int) (x2 : Int) (h : Hp) : Option (Int × Hp) :=
  bnd (w32 (x2 + 1)) fun y1 =>
  k4 x1 y1 h
set_option maxRecDepth 100000 in
set_option maxHeartbeats 4000000 in
theorem R_J_X9_sleepingStreets_34 (N : Nat) (k4 : Int → Int → Hp → Option (Int × Hp)) (hk4 : ∀ (x1 : Int) (x2 : Int) (h : Hp) (res : Int × Hp), k4 x1 x2 h = some res → Go M_X9_sleepingStreets 2 4 [some (.inr 70), some (.inl x1), some (.inl x2)] [] h (Qi res)) (x1 : Int) (x2 : Int) (h : Hp) (res : Int × Hp) (H : J_X9_sleepingStreets_34 N k4 x1 x2 h = some res) : Go M_X9_sleepingStreets 2 34 [some (.inr 70), some (.inl x1), some (.inl x2)] [] h (Qi res) := by
  unfold J_X9_sleepingStreets_34 at H
  refine g_iincB (T_X9_sleepingStreets 22 _ _ _ rfl) rfl (by decide) H fun y1 H => ?_
  refine g_goto (tgt := 4) (T_X9_sleepingStreets 23 _ _ _ rfl) (by decide) ?_
  refine g_weak [true, true, true] ?_
  exact hk4 _ _ _ _ H
def L_X9_sleepingStreets_4 (N : Nat) : Nat → Int → Int → Hp → Option (Int × Hp)
  | 0, _, _, _ => none
  | n + 1, x1, x2, h =>
    if (h 69 4) ≤ x2 then
      some (x1, h)
    else
    bd (F_X11_hasBit N (h 69 6) x2 h) fun y2 h1 =>
    if y2 = 0 then
      J_X9_sleepingStreets_34 N (L_X9_sleepingStreets_4 N n) x1 x2 h1
    else
    grd (0 ≤ x2 ∧ x2 < 8) <|
    bnd ((ior x1 (ishl 1 (h1 70 x2.toNat)))) fun y3 =>
    J_X9_sleepingStreets_34 N (L_X9_sleepingStreets_4 N n) y3 x2 h1
set_option maxRecDepth 100000 in
set_option maxHeartbeats 4000000 in
theorem R_L_X9_sleepingStreets_4 (N : Nat) : ∀ (n : Nat) (x1 : Int) (x2 : Int) (h : Hp) (res : Int × Hp), L_X9_sleepingStreets_4 N n x1 x2 h = some res → Go M_X9_sleepingStreets 2 4 [some (.inr 70), some (.inl x1), some (.inl x2)] [] h (Qi res)
  | 0, _, _, _, _, H => by cases H
  | n + 1, x1, x2, h, res, H => by
    have ih := R_L_X9_sleepingStreets_4 N n
    simp only [L_X9_sleepingStreets_4] at H
    refine g_iload_n (T_X9_sleepingStreets 4 _ _ _ rfl) rfl ?_
    refine g_aload_n (T_X9_sleepingStreets 5 _ _ _ rfl) rfl ?_
    refine g_getI (c := 69) (T_X9_sleepingStreets 6 _ _ _ rfl) fl_X9_25 rfl (Or.inl rfl) ?_
    refine g_icmp_ge (tgt := 40) (T_X9_sleepingStreets 7 _ _ _ rfl) (by decide) (fun cc => ?_) (fun cc => ?_)
    · replace H := ite_p cc H
      refine g_iload_n (T_X9_sleepingStreets 24 _ _ _ rfl) rfl ?_
      exact g_iret (T_X9_sleepingStreets 25 _ _ _ rfl) rfl (qi_of H)
    · replace H := ite_n cc H
      refine g_aload_n (T_X9_sleepingStreets 8 _ _ _ rfl) rfl ?_
      refine g_getI (c := 69) (T_X9_sleepingStreets 9 _ _ _ rfl) fl_X9_63 rfl (Or.inl rfl) ?_
      refine g_iload_n (T_X9_sleepingStreets 10 _ _ _ rfl) rfl ?_
      obtain ⟨y2, h1, hq, H⟩ := bd_some H
      refine g_callSNi (M' := M_X11_hasBit) (av := [.inl (h 69 6), .inl x2]) (st := []) (T_X9_sleepingStreets 11 _ _ _ rfl) ml_X9_29 cb_X11_hasBit rfl (Nat.le_of_ble_eq_true rfl) (by omega) (R_X11_hasBit N _ _ _ _ hq) ?_
      refine g_if_eq (tgt := 34) (T_X9_sleepingStreets 12 _ _ _ rfl) (by decide) (fun cc => ?_) (fun cc => ?_)
      · replace H := ite_p cc H
        refine g_weak [true, true, true] ?_
        exact R_J_X9_sleepingStreets_34 N (L_X9_sleepingStreets_4 N n) ih _ _ _ _ H
      · replace H := ite_n cc H
        refine g_iload_n (T_X9_sleepingStreets 13 _ _ _ rfl) rfl ?_
        refine g_iconst (T_X9_sleepingStreets 14 _ _ _ rfl) ⟨by decide, by decide⟩ ?_
        refine g_aload_n (T_X9_sleepingStreets 15 _ _ _ rfl) rfl ?_
        refine g_getR (c := 69) (r := 71) (T_X9_sleepingStreets 16 _ _ _ rfl) fl_X9_9 rfl (nR rfl) rfl (by decide) ?_
        refine g_iload_n (T_X9_sleepingStreets 17 _ _ _ rfl) rfl ?_
        obtain ⟨hg, H⟩ := grd_some H
        refine g_iald (c := 70) (T_X9_sleepingStreets 18 _ _ _ rfl) rfl hg ?_
        refine g_ishl (T_X9_sleepingStreets 19 _ _ _ rfl) ?_
        refine g_ior (T_X9_sleepingStreets 20 _ _ _ rfl) ?_
        refine g_bndI H fun y3 H => ?_
        refine g_istore_n (T_X9_sleepingStreets 21 _ _ _ rfl) (by decide) ?_
        refine g_weak [true, true, true] ?_
        exact R_J_X9_sleepingStreets_34 N (L_X9_sleepingStreets_4 N n) ih _ _ _ _ H
def F_X9_sleepingStreets (N : Nat) (h : Hp) : Option (Int × Hp) :=
  L_X9_sleepingStreets_4 N  N 0 0 h
set_option maxRecDepth 100000 in
set_option maxHeartbeats 4000000 in
theorem R_X9_sleepingStreets (N : Nat) (h : Hp) (res : Int × Hp) (H : F_X9_sleepingStreets N h = some res) : Runs M_X9_sleepingStreets 2 [.inr 70] h (Qi res) := by
  refine Runs.of rfl (Nat.le_of_ble_eq_true rfl) ?_
  show Go M_X9_sleepingStreets 2 0 [some (.inr 70), none, none] [] h (Qi res)
  unfold F_X9_sleepingStreets at H
  refine g_iconst (T_X9_sleepingStreets 0 _ _ _ rfl) ⟨by decide, by decide⟩ ?_
  refine g_istore_n (T_X9_sleepingStreets 1 _ _ _ rfl) (by decide) ?_
  refine g_iconst (T_X9_sleepingStreets 2 _ _ _ rfl) ⟨by decide, by decide⟩ ?_
  refine g_istore_n (T_X9_sleepingStreets 3 _ _ _ rfl) (by decide) ?_
  refine g_weak [true, true, true] ?_
  refine R_L_X9_sleepingStreets_4 N   _ _ _ _ _ H
def F_X9_spent (N : Nat) (h : Hp) : Option (Int × Hp) :=
  some ((h 69 8), h)
set_option maxRecDepth 100000 in
set_option maxHeartbeats 4000000 in
theorem R_X9_spent (N : Nat) (h : Hp) (res : Int × Hp) (H : F_X9_spent N h = some res) : Runs M_X9_spent 1 [.inr 70] h (Qi res) := by
  refine Runs.of rfl (Nat.le_of_ble_eq_true rfl) ?_
  show Go M_X9_spent 1 0 [some (.inr 70)] [] h (Qi res)
  unfold F_X9_spent at H
  refine g_aload_n (T_X9_spent 0 _ _ _ rfl) rfl ?_
  refine g_getI (c := 69) (T_X9_spent 1 _ _ _ rfl) fl_X9_60 rfl (Or.inl rfl) ?_
  exact g_iret (T_X9_spent 2 _ _ _ rfl) rfl (qi_of H)
def F_X9_houses (N : Nat) (h : Hp) : Option (Int × Hp) :=
  some ((h 69 7), h)
set_option maxRecDepth 100000 in
set_option maxHeartbeats 4000000 in
theorem R_X9_houses (N : Nat) (h : Hp) (res : Int × Hp) (H : F_X9_houses N h = some res) : Runs M_X9_houses 1 [.inr 70] h (Qi res) := by
  refine Runs.of rfl (Nat.le_of_ble_eq_true rfl) ?_
  show Go M_X9_houses 1 0 [some (.inr 70)] [] h (Qi res)
  unfold F_X9_houses at H
  refine g_aload_n (T_X9_houses 0 _ _ _ rfl) rfl ?_
  refine g_getI (c := 69) (T_X9_houses 1 _ _ _ rfl) fl_X9_57 rfl (Or.inl rfl) ?_
  exact g_iret (T_X9_houses 2 _ _ _ rfl) rfl (qi_of H)
def F_X11_sleepful (N : Nat) (x1 : Int) (x2 : Int) (x3 : Int) (h : Hp) : Option (Int × Hp) :=
  bd (F_X11_isWithin N x1 0 300 h) fun y2 h1 =>
  if y2 = 0 then
    some ((-1), h1)
  else
  bd (F_X1_areTold N x2 8 h1) fun y4 h3 =>
  if y4 = 0 then
    some ((-1), h3)
  else
  bd (F_X11_isWithin N x3 0 2 h3) fun y6 h5 =>
  if y6 = 0 then
    some ((-1), h5)
  else
  bv (F_X9_choose N x2 h5) fun h7 =>
  bv (F_X9_findSleepful N x1 h7) fun h8 =>
  if x3 = 0 then
    bd (F_X9_houses N h8) fun y14 h13 =>
    some (y14, h13)
  else
  if x3 = 1 then
    bd (F_X9_spent N h8) fun y12 h11 =>
    some (y12, h11)
  else
  bd (F_X9_sleepingStreets N h8) fun y10 h9 =>
  some (y10, h9)
set_option maxRecDepth 100000 in
set_option maxHeartbeats 4000000 in
theorem R_X11_sleepful (N : Nat) (x1 : Int) (x2 : Int) (x3 : Int) (h : Hp) (res : Int × Hp) (H : F_X11_sleepful N x1 x2 x3 h = some res) : Runs M_X11_sleepful 6 [.inr 1, .inl x1, .inl x2, .inl x3] h (Qi res) := by
  refine Runs.of rfl (Nat.le_of_ble_eq_true rfl) ?_
  show Go M_X11_sleepful 6 0 [some (.inr 1), some (.inl x1), some (.inl x2), some (.inl x3)] [] h (Qi res)
  unfold F_X11_sleepful at H
  refine g_iload_n (T_X11_sleepful 0 _ _ _ rfl) rfl ?_
  refine g_iconst (T_X11_sleepful 1 _ _ _ rfl) ⟨by decide, by decide⟩ ?_
  refine g_sipush (T_X11_sleepful 2 _ _ _ rfl) (by decide) ?_
  obtain ⟨y2, h1, hq, H⟩ := bd_some H
  refine g_callSi (M' := M_X11_isWithin) (av := [.inl x1, .inl 0, .inl 300]) (st := []) (T_X11_sleepful 3 _ _ _ rfl) ml_X11_96 cb_X11_isWithin rfl (Nat.le_of_ble_eq_true rfl) (by omega) (R_X11_isWithin N _ _ _ _ _ hq) ?_
  refine g_if_eq (tgt := 33) (T_X11_sleepful 4 _ _ _ rfl) (by decide) (fun cc => ?_) (fun cc => ?_)
  · replace H := ite_p cc H
    refine g_iconst (T_X11_sleepful 16 _ _ _ rfl) ⟨by decide, by decide⟩ ?_
    exact g_iret (T_X11_sleepful 17 _ _ _ rfl) rfl (qi_of H)
  · replace H := ite_n cc H
    refine g_aload_n (T_X11_sleepful 5 _ _ _ rfl) rfl ?_
    refine g_getR (c := 0) (r := 2) (T_X11_sleepful 6 _ _ _ rfl) fl_X11_28 rfl (nR rfl) rfl (by decide) ?_
    refine g_iload_n (T_X11_sleepful 7 _ _ _ rfl) rfl ?_
    refine g_bipush (T_X11_sleepful 8 _ _ _ rfl) (by decide) ?_
    obtain ⟨y4, h3, hq, H⟩ := bd_some H
    refine g_callVi (M' := M_X1_areTold) (c := 1) (av := [.inl x2, .inl 8]) (st := []) (T_X11_sleepful 9 _ _ _ rfl) ml_X11_202 cb_X1_areTold rfl rfl (Nat.le_of_ble_eq_true rfl) (by omega) (R_X1_areTold N _ _ _ _ hq) ?_
    refine g_if_eq (tgt := 33) (T_X11_sleepful 10 _ _ _ rfl) (by decide) (fun cc => ?_) (fun cc => ?_)
    · replace H := ite_p cc H
      refine g_iconst (T_X11_sleepful 16 _ _ _ rfl) ⟨by decide, by decide⟩ ?_
      exact g_iret (T_X11_sleepful 17 _ _ _ rfl) rfl (qi_of H)
    · replace H := ite_n cc H
      refine g_iload_n (T_X11_sleepful 11 _ _ _ rfl) rfl ?_
      refine g_iconst (T_X11_sleepful 12 _ _ _ rfl) ⟨by decide, by decide⟩ ?_
      refine g_iconst (T_X11_sleepful 13 _ _ _ rfl) ⟨by decide, by decide⟩ ?_
      obtain ⟨y6, h5, hq, H⟩ := bd_some H
      refine g_callSi (M' := M_X11_isWithin) (av := [.inl x3, .inl 0, .inl 2]) (st := []) (T_X11_sleepful 14 _ _ _ rfl) ml_X11_96 cb_X11_isWithin rfl (Nat.le_of_ble_eq_true rfl) (by omega) (R_X11_isWithin N _ _ _ _ _ hq) ?_
      refine g_if_ne (tgt := 35) (T_X11_sleepful 15 _ _ _ rfl) (by decide) (fun cc => ?_) (fun cc => ?_)
      · replace H := ite_n cc H
        refine g_aload_n (T_X11_sleepful 18 _ _ _ rfl) rfl ?_
        refine g_getR (c := 0) (r := 70) (T_X11_sleepful 19 _ _ _ rfl) fl_X11_78 rfl (nR rfl) rfl (by decide) ?_
        refine g_iload_n (T_X11_sleepful 20 _ _ _ rfl) rfl ?_
        obtain ⟨h7, hq, H⟩ := bv_some H
        refine g_callVv (M' := M_X9_choose) (c := 69) (av := [.inl x2]) (st := []) (T_X11_sleepful 21 _ _ _ rfl) ml_X11_223 cb_X9_choose rfl rfl (Nat.le_of_ble_eq_true rfl) (by omega) (R_X9_choose N _ _ _ hq) ?_
        refine g_aload_n (T_X11_sleepful 22 _ _ _ rfl) rfl ?_
        refine g_getR (c := 0) (r := 70) (T_X11_sleepful 23 _ _ _ rfl) fl_X11_78 rfl (nR rfl) rfl (by decide) ?_
        refine g_iload_n (T_X11_sleepful 24 _ _ _ rfl) rfl ?_
        refine g_aload_n (T_X11_sleepful 25 _ _ _ rfl) rfl ?_
        refine g_getR (c := 0) (r := 12) (T_X11_sleepful 26 _ _ _ rfl) fl_X11_36 rfl (nR rfl) rfl (by decide) ?_
        obtain ⟨h8, hq, H⟩ := bv_some H
        refine g_callVv (M' := M_X9_findSleepful) (c := 69) (av := [.inl x1, .inr 12]) (st := []) (T_X11_sleepful 27 _ _ _ rfl) ml_X11_235 cb_X9_findSleepful rfl rfl (Nat.le_of_ble_eq_true rfl) (by omega) (R_X9_findSleepful N _ _ _ hq) ?_
        refine g_iload_n (T_X11_sleepful 28 _ _ _ rfl) rfl ?_
        refine g_if_ne (tgt := 67) (T_X11_sleepful 29 _ _ _ rfl) (by decide) (fun cc => ?_) (fun cc => ?_)
        · replace H := ite_n cc H
          refine g_iload_n (T_X11_sleepful 34 _ _ _ rfl) rfl ?_
          refine g_iconst (T_X11_sleepful 35 _ _ _ rfl) ⟨by decide, by decide⟩ ?_
          refine g_icmp_ne (tgt := 82) (T_X11_sleepful 36 _ _ _ rfl) (by decide) (fun cc => ?_) (fun cc => ?_)
          · replace H := ite_n cc H
            refine g_aload_n (T_X11_sleepful 41 _ _ _ rfl) rfl ?_
            refine g_getR (c := 0) (r := 70) (T_X11_sleepful 42 _ _ _ rfl) fl_X11_78 rfl (nR rfl) rfl (by decide) ?_
            obtain ⟨y10, h9, hq, H⟩ := bd_some H
            refine g_callVi (M' := M_X9_sleepingStreets) (c := 69) (av := []) (st := []) (T_X11_sleepful 43 _ _ _ rfl) ml_X11_245 cb_X9_sleepingStreets rfl rfl (Nat.le_of_ble_eq_true rfl) (by omega) (R_X9_sleepingStreets N _ _ hq) ?_
            exact g_iret (T_X11_sleepful 44 _ _ _ rfl) rfl (qi_of H)
          · replace H := ite_p cc H
            refine g_aload_n (T_X11_sleepful 37 _ _ _ rfl) rfl ?_
            refine g_getR (c := 0) (r := 70) (T_X11_sleepful 38 _ _ _ rfl) fl_X11_78 rfl (nR rfl) rfl (by decide) ?_
            obtain ⟨y12, h11, hq, H⟩ := bd_some H
            refine g_callVi (M' := M_X9_spent) (c := 69) (av := []) (st := []) (T_X11_sleepful 39 _ _ _ rfl) ml_X11_242 cb_X9_spent rfl rfl (Nat.le_of_ble_eq_true rfl) (by omega) (R_X9_spent N _ _ hq) ?_
            refine g_goto (tgt := 89) (T_X11_sleepful 40 _ _ _ rfl) (by decide) ?_
            exact g_iret (T_X11_sleepful 44 _ _ _ rfl) rfl (qi_of H)
        · replace H := ite_p cc H
          refine g_aload_n (T_X11_sleepful 30 _ _ _ rfl) rfl ?_
          refine g_getR (c := 0) (r := 70) (T_X11_sleepful 31 _ _ _ rfl) fl_X11_78 rfl (nR rfl) rfl (by decide) ?_
          obtain ⟨y14, h13, hq, H⟩ := bd_some H
          refine g_callVi (M' := M_X9_houses) (c := 69) (av := []) (st := []) (T_X11_sleepful 32 _ _ _ rfl) ml_X11_239 cb_X9_houses rfl rfl (Nat.le_of_ble_eq_true rfl) (by omega) (R_X9_houses N _ _ hq) ?_
          exact g_iret (T_X11_sleepful 33 _ _ _ rfl) rfl (qi_of H)
      · replace H := ite_p cc H
        refine g_iconst (T_X11_sleepful 16 _ _ _ rfl) ⟨by decide, by decide⟩ ?_
        exact g_iret (T_X11_sleepful 17 _ _ _ rfl) rfl (qi_of H)
def F_X1_toldStreets (N : Nat) (h : Hp) : Option (Int × Hp) :=
  some ((h 1 4), h)
set_option maxRecDepth 100000 in
set_option maxHeartbeats 4000000 in
theorem R_X1_toldStreets (N : Nat) (h : Hp) (res : Int × Hp) (H : F_X1_toldStreets N h = some res) : Runs M_X1_toldStreets 1 [.inr 2] h (Qi res) := by
  refine Runs.of rfl (Nat.le_of_ble_eq_true rfl) ?_
  show Go M_X1_toldStreets 1 0 [some (.inr 2)] [] h (Qi res)
  unfold F_X1_toldStreets at H
  refine g_aload_n (T_X1_toldStreets 0 _ _ _ rfl) rfl ?_
  refine g_getI (c := 1) (T_X1_toldStreets 1 _ _ _ rfl) fl_X1_27 rfl (Or.inl rfl) ?_
  exact g_iret (T_X1_toldStreets 2 _ _ _ rfl) rfl (qi_of H)
def J_X7_reachedFrom_25 (N : Nat) (k4 : Int → Int → Int → Hp → Option (Int × Hp)) (x1 : Int) (x3 : Int) (s0 : Int) (s1 : Int) (h : Hp) : Option (Int × Hp) :=
  bnd ((w32 (s0 + s1))) fun y1 =>
  bnd (w32 (x3 + 1)) fun y2 =>
  k4 x1 y1 y2 h
set_option maxRecDepth 100000 in
set_option maxHeartbeats 4000000 in
theorem R_J_X7_reachedFrom_25 (N : Nat) (k4 : Int → Int → Int → Hp → Option (Int × Hp)) (hk4 : ∀ (x1 : Int) (x2 : Int) (x3 : Int) (h : Hp) (res : Int × Hp), k4 x1 x2 x3 h = some res → Go M_X7_reachedFrom 2 4 [some (.inr 8), some (.inl x1), some (.inl x2), some (.inl x3)] [] h (Qi res)) (x1 : Int) (x3 : Int) (s0 : Int) (s1 : Int) (h : Hp) (res : Int × Hp) (H : J_X7_reachedFrom_25 N k4 x1 x3 s0 s1 h = some res) : Go M_X7_reachedFrom 2 25 [some (.inr 8), some (.inl x1), none, some (.inl x3)] [.inl s1, .inl s0] h (Qi res) := by
  unfold J_X7_reachedFrom_25 at H
  refine g_iadd (T_X7_reachedFrom 16 _ _ _ rfl) ?_
  refine g_bndI H fun y1 H => ?_
  refine g_istore_n (T_X7_reachedFrom 17 _ _ _ rfl) (by decide) ?_
  refine g_iincB (T_X7_reachedFrom 18 _ _ _ rfl) rfl (by decide) H fun y2 H => ?_
  refine g_goto (tgt := 4) (T_X7_reachedFrom 19 _ _ _ rfl) (by decide) ?_
  refine g_weak [true, true, true, true] ?_
  exact hk4 _ _ _ _ _ H
def L_X7_reachedFrom_4 (N : Nat) : Nat → Int → Int → Int → Hp → Option (Int × Hp)
  | 0, _, _, _, _ => none
  | n + 1, x1, x2, x3, h =>
    if 14 ≤ x3 then
      some (x2, h)
    else
    bd (F_X7_between N x1 x3 h) fun y2 h1 =>
    if y2 ≤ 0 then
      J_X7_reachedFrom_25 N (L_X7_reachedFrom_4 N n) x1 x3 x2 0 h1
    else
    J_X7_reachedFrom_25 N (L_X7_reachedFrom_4 N n) x1 x3 x2 1 h1
set_option maxRecDepth 100000 in
set_option maxHeartbeats 4000000 in
theorem R_L_X7_reachedFrom_4 (N : Nat) : ∀ (n : Nat) (x1 : Int) (x2 : Int) (x3 : Int) (h : Hp) (res : Int × Hp), L_X7_reachedFrom_4 N n x1 x2 x3 h = some res → Go M_X7_reachedFrom 2 4 [some (.inr 8), some (.inl x1), some (.inl x2), some (.inl x3)] [] h (Qi res)
  | 0, _, _, _, _, _, H => by cases H
  | n + 1, x1, x2, x3, h, res, H => by
    have ih := R_L_X7_reachedFrom_4 N n
    simp only [L_X7_reachedFrom_4] at H
    refine g_iload_n (T_X7_reachedFrom 4 _ _ _ rfl) rfl ?_
    refine g_bipush (T_X7_reachedFrom 5 _ _ _ rfl) (by decide) ?_
    refine g_icmp_ge (tgt := 33) (T_X7_reachedFrom 6 _ _ _ rfl) (by decide) (fun cc => ?_) (fun cc => ?_)
    · replace H := ite_p cc H
      refine g_iload_n (T_X7_reachedFrom 20 _ _ _ rfl) rfl ?_
      exact g_iret (T_X7_reachedFrom 21 _ _ _ rfl) rfl (qi_of H)
    · replace H := ite_n cc H
      refine g_iload_n (T_X7_reachedFrom 7 _ _ _ rfl) rfl ?_
      refine g_aload_n (T_X7_reachedFrom 8 _ _ _ rfl) rfl ?_
      refine g_iload_n (T_X7_reachedFrom 9 _ _ _ rfl) rfl ?_
      refine g_iload_n (T_X7_reachedFrom 10 _ _ _ rfl) rfl ?_
      obtain ⟨y2, h1, hq, H⟩ := bd_some H
      refine g_callVi (M' := M_X7_between) (c := 7) (av := [.inl x1, .inl x3]) (st := [.inl x2]) (T_X7_reachedFrom 11 _ _ _ rfl) ml_X7_91 cb_X7_between rfl rfl (Nat.le_of_ble_eq_true rfl) (by omega) (R_X7_between N _ _ _ _ hq) ?_
      refine g_if_le (tgt := 24) (T_X7_reachedFrom 12 _ _ _ rfl) (by decide) (fun cc => ?_) (fun cc => ?_)
      · replace H := ite_p cc H
        refine g_iconst (T_X7_reachedFrom 15 _ _ _ rfl) ⟨by decide, by decide⟩ ?_
        refine g_weak [true, true, false, true] ?_
        exact R_J_X7_reachedFrom_25 N (L_X7_reachedFrom_4 N n) ih _ _ _ _ _ _ H
      · replace H := ite_n cc H
        refine g_iconst (T_X7_reachedFrom 13 _ _ _ rfl) ⟨by decide, by decide⟩ ?_
        refine g_goto (tgt := 25) (T_X7_reachedFrom 14 _ _ _ rfl) (by decide) ?_
        refine g_weak [true, true, false, true] ?_
        exact R_J_X7_reachedFrom_25 N (L_X7_reachedFrom_4 N n) ih _ _ _ _ _ _ H
def F_X7_reachedFrom (N : Nat) (x1 : Int) (h : Hp) : Option (Int × Hp) :=
  L_X7_reachedFrom_4 N  N x1 0 0 h
set_option maxRecDepth 100000 in
set_option maxHeartbeats 4000000 in
theorem R_X7_reachedFrom (N : Nat) (x1 : Int) (h : Hp) (res : Int × Hp) (H : F_X7_reachedFrom N x1 h = some res) : Runs M_X7_reachedFrom 2 [.inr 8, .inl x1] h (Qi res) := by
  refine Runs.of rfl (Nat.le_of_ble_eq_true rfl) ?_
  show Go M_X7_reachedFrom 2 0 [some (.inr 8), some (.inl x1), none, none] [] h (Qi res)
  unfold F_X7_reachedFrom at H
  refine g_iconst (T_X7_reachedFrom 0 _ _ _ rfl) ⟨by decide, by decide⟩ ?_
  refine g_istore_n (T_X7_reachedFrom 1 _ _ _ rfl) (by decide) ?_
  refine g_iconst (T_X7_reachedFrom 2 _ _ _ rfl) ⟨by decide, by decide⟩ ?_
  refine g_istore_n (T_X7_reachedFrom 3 _ _ _ rfl) (by decide) ?_
  refine g_weak [true, true, true, true] ?_
  refine R_L_X7_reachedFrom_4 N   _ _ _ _ _ _ H
def L_X7_sumFrom_4 (N : Nat) : Nat → Int → Int → Int → Hp → Option (Int × Hp)
  | 0, _, _, _, _ => none
  | n + 1, x1, x2, x3, h =>
    if 14 ≤ x3 then
      some (x2, h)
    else
    bd (F_X7_between N x1 x3 h) fun y2 h1 =>
    bnd ((w32 (x2 + (imax 0 y2)))) fun y3 =>
    bnd (w32 (x3 + 1)) fun y4 =>
    (L_X7_sumFrom_4 N n) x1 y3 y4 h1
set_option maxRecDepth 100000 in
set_option maxHeartbeats 4000000 in
theorem R_L_X7_sumFrom_4 (N : Nat) : ∀ (n : Nat) (x1 : Int) (x2 : Int) (x3 : Int) (h : Hp) (res : Int × Hp), L_X7_sumFrom_4 N n x1 x2 x3 h = some res → Go M_X7_sumFrom 2 4 [some (.inr 8), some (.inl x1), some (.inl x2), some (.inl x3)] [] h (Qi res)
  | 0, _, _, _, _, _, H => by cases H
  | n + 1, x1, x2, x3, h, res, H => by
    have ih := R_L_X7_sumFrom_4 N n
    simp only [L_X7_sumFrom_4] at H
    refine g_iload_n (T_X7_sumFrom 4 _ _ _ rfl) rfl ?_
    refine g_bipush (T_X7_sumFrom 5 _ _ _ rfl) (by decide) ?_
    refine g_icmp_ge (tgt := 29) (T_X7_sumFrom 6 _ _ _ rfl) (by decide) (fun cc => ?_) (fun cc => ?_)
    · replace H := ite_p cc H
      refine g_iload_n (T_X7_sumFrom 18 _ _ _ rfl) rfl ?_
      exact g_iret (T_X7_sumFrom 19 _ _ _ rfl) rfl (qi_of H)
    · replace H := ite_n cc H
      refine g_iload_n (T_X7_sumFrom 7 _ _ _ rfl) rfl ?_
      refine g_iconst (T_X7_sumFrom 8 _ _ _ rfl) ⟨by decide, by decide⟩ ?_
      refine g_aload_n (T_X7_sumFrom 9 _ _ _ rfl) rfl ?_
      refine g_iload_n (T_X7_sumFrom 10 _ _ _ rfl) rfl ?_
      refine g_iload_n (T_X7_sumFrom 11 _ _ _ rfl) rfl ?_
      obtain ⟨y2, h1, hq, H⟩ := bd_some H
      refine g_callVi (M' := M_X7_between) (c := 7) (av := [.inl x1, .inl x3]) (st := [.inl 0, .inl x2]) (T_X7_sumFrom 12 _ _ _ rfl) ml_X7_91 cb_X7_between rfl rfl (Nat.le_of_ble_eq_true rfl) (by omega) (R_X7_between N _ _ _ _ hq) ?_
      refine g_max (st := [.inl x2]) (T_X7_sumFrom 13 _ _ _ rfl) ml_X7_95 wmax (Nat.le_of_ble_eq_true rfl) (by omega) ?_
      refine g_iadd (T_X7_sumFrom 14 _ _ _ rfl) ?_
      refine g_bndI H fun y3 H => ?_
      refine g_istore_n (T_X7_sumFrom 15 _ _ _ rfl) (by decide) ?_
      refine g_iincB (T_X7_sumFrom 16 _ _ _ rfl) rfl (by decide) H fun y4 H => ?_
      refine g_goto (tgt := 4) (T_X7_sumFrom 17 _ _ _ rfl) (by decide) ?_
      refine g_weak [true, true, true, true] ?_
      exact ih _ _ _ _ _ H
def F_X7_sumFrom (N : Nat) (x1 : Int) (h : Hp) : Option (Int × Hp) :=
  L_X7_sumFrom_4 N  N x1 0 0 h
set_option maxRecDepth 100000 in
set_option maxHeartbeats 4000000 in
theorem R_X7_sumFrom (N : Nat) (x1 : Int) (h : Hp) (res : Int × Hp) (H : F_X7_sumFrom N x1 h = some res) : Runs M_X7_sumFrom 2 [.inr 8, .inl x1] h (Qi res) := by
  refine Runs.of rfl (Nat.le_of_ble_eq_true rfl) ?_
  show Go M_X7_sumFrom 2 0 [some (.inr 8), some (.inl x1), none, none] [] h (Qi res)
  unfold F_X7_sumFrom at H
  refine g_iconst (T_X7_sumFrom 0 _ _ _ rfl) ⟨by decide, by decide⟩ ?_
  refine g_istore_n (T_X7_sumFrom 1 _ _ _ rfl) (by decide) ?_
  refine g_iconst (T_X7_sumFrom 2 _ _ _ rfl) ⟨by decide, by decide⟩ ?_
  refine g_istore_n (T_X7_sumFrom 3 _ _ _ rfl) (by decide) ?_
  refine g_weak [true, true, true, true] ?_
  refine R_L_X7_sumFrom_4 N   _ _ _ _ _ _ H
def L_X7_farthestFrom_4 (N : Nat) : Nat → Int → Int → Int → Hp → Option (Int × Hp)
  | 0, _, _, _, _ => none
  | n + 1, x1, x2, x3, h =>
    if 14 ≤ x3 then
      some (x2, h)
    else
    bd (F_X7_between N x1 x3 h) fun y2 h1 =>
    bnd ((imax x2 y2)) fun y3 =>
    bnd (w32 (x3 + 1)) fun y4 =>
    (L_X7_farthestFrom_4 N n) x1 y3 y4 h1
set_option maxRecDepth 100000 in
set_option maxHeartbeats 4000000 in
theorem R_L_X7_farthestFrom_4 (N : Nat) : ∀ (n : Nat) (x1 : Int) (x2 : Int) (x3 : Int) (h : Hp) (res : Int × Hp), L_X7_farthestFrom_4 N n x1 x2 x3 h = some res → Go M_X7_farthestFrom 2 4 [some (.inr 8), some (.inl x1), some (.inl x2), some (.inl x3)] [] h (Qi res)
  | 0, _, _, _, _, _, H => by cases H
  | n + 1, x1, x2, x3, h, res, H => by
    have ih := R_L_X7_farthestFrom_4 N n
    simp only [L_X7_farthestFrom_4] at H
    refine g_iload_n (T_X7_farthestFrom 4 _ _ _ rfl) rfl ?_
    refine g_bipush (T_X7_farthestFrom 5 _ _ _ rfl) (by decide) ?_
    refine g_icmp_ge (tgt := 27) (T_X7_farthestFrom 6 _ _ _ rfl) (by decide) (fun cc => ?_) (fun cc => ?_)
    · replace H := ite_p cc H
      refine g_iload_n (T_X7_farthestFrom 16 _ _ _ rfl) rfl ?_
      exact g_iret (T_X7_farthestFrom 17 _ _ _ rfl) rfl (qi_of H)
    · replace H := ite_n cc H
      refine g_iload_n (T_X7_farthestFrom 7 _ _ _ rfl) rfl ?_
      refine g_aload_n (T_X7_farthestFrom 8 _ _ _ rfl) rfl ?_
      refine g_iload_n (T_X7_farthestFrom 9 _ _ _ rfl) rfl ?_
      refine g_iload_n (T_X7_farthestFrom 10 _ _ _ rfl) rfl ?_
      obtain ⟨y2, h1, hq, H⟩ := bd_some H
      refine g_callVi (M' := M_X7_between) (c := 7) (av := [.inl x1, .inl x3]) (st := [.inl x2]) (T_X7_farthestFrom 11 _ _ _ rfl) ml_X7_91 cb_X7_between rfl rfl (Nat.le_of_ble_eq_true rfl) (by omega) (R_X7_between N _ _ _ _ hq) ?_
      refine g_max (st := []) (T_X7_farthestFrom 12 _ _ _ rfl) ml_X7_95 wmax (Nat.le_of_ble_eq_true rfl) (by omega) ?_
      refine g_bndI H fun y3 H => ?_
      refine g_istore_n (T_X7_farthestFrom 13 _ _ _ rfl) (by decide) ?_
      refine g_iincB (T_X7_farthestFrom 14 _ _ _ rfl) rfl (by decide) H fun y4 H => ?_
      refine g_goto (tgt := 4) (T_X7_farthestFrom 15 _ _ _ rfl) (by decide) ?_
      refine g_weak [true, true, true, true] ?_
      exact ih _ _ _ _ _ H
def F_X7_farthestFrom (N : Nat) (x1 : Int) (h : Hp) : Option (Int × Hp) :=
  L_X7_farthestFrom_4 N  N x1 0 0 h
set_option maxRecDepth 100000 in
set_option maxHeartbeats 4000000 in
theorem R_X7_farthestFrom (N : Nat) (x1 : Int) (h : Hp) (res : Int × Hp) (H : F_X7_farthestFrom N x1 h = some res) : Runs M_X7_farthestFrom 2 [.inr 8, .inl x1] h (Qi res) := by
  refine Runs.of rfl (Nat.le_of_ble_eq_true rfl) ?_
  show Go M_X7_farthestFrom 2 0 [some (.inr 8), some (.inl x1), none, none] [] h (Qi res)
  unfold F_X7_farthestFrom at H
  refine g_iconst (T_X7_farthestFrom 0 _ _ _ rfl) ⟨by decide, by decide⟩ ?_
  refine g_istore_n (T_X7_farthestFrom 1 _ _ _ rfl) (by decide) ?_
  refine g_iconst (T_X7_farthestFrom 2 _ _ _ rfl) ⟨by decide, by decide⟩ ?_
  refine g_istore_n (T_X7_farthestFrom 3 _ _ _ rfl) (by decide) ?_
  refine g_weak [true, true, true, true] ?_
  refine R_L_X7_farthestFrom_4 N   _ _ _ _ _ _ H
def J_X7_bestPit_90 (N : Nat) (k13 : Int → Int → Int → Int → Int → Hp → Option (Int × Hp)) (x2 : Int) (x3 : Int) (x4 : Int) (x5 : Int) (x6 : Int) (h : Hp) : Option (Int × Hp) :=
  bnd (w32 (x6 + 1)) fun y1 =>
  k13 x2 x3 x4 x5 y1 h
set_option maxRecDepth 100000 in
set_option maxHeartbeats 4000000 in
theorem R_J_X7_bestPit_90 (N : Nat) (k13 : Int → Int → Int → Int → Int → Hp → Option (Int × Hp)) (hk13 : ∀ (x2 : Int) (x3 : Int) (x4 : Int) (x5 : Int) (x6 : Int) (h : Hp) (res : Int × Hp), k13 x2 x3 x4 x5 x6 h = some res → Go M_X7_bestPit 3 13 [some (.inr 8), some (.inr 2), some (.inl x2), some (.inl x3), some (.inl x4), some (.inl x5), some (.inl x6), none, none] [] h (Qi res)) (x2 : Int) (x3 : Int) (x4 : Int) (x5 : Int) (x6 : Int) (h : Hp) (res : Int × Hp) (H : J_X7_bestPit_90 N k13 x2 x3 x4 x5 x6 h = some res) : Go M_X7_bestPit 3 90 [some (.inr 8), some (.inr 2), some (.inl x2), some (.inl x3), some (.inl x4), some (.inl x5), some (.inl x6), none, none] [] h (Qi res) := by
  unfold J_X7_bestPit_90 at H
  refine g_iincB (T_X7_bestPit 44 _ _ _ rfl) rfl (by decide) H fun y1 H => ?_
  refine g_goto (tgt := 13) (T_X7_bestPit 45 _ _ _ rfl) (by decide) ?_
  refine g_weak [true, true, true, true, true, true, true, false, false] ?_
  exact hk13 _ _ _ _ _ _ _ H
def J_X7_bestPit_79 (N : Nat) (k13 : Int → Int → Int → Int → Int → Hp → Option (Int × Hp)) (x2 : Int) (x6 : Int) (x7 : Int) (x8 : Int) (h : Hp) : Option (Int × Hp) :=
  J_X7_bestPit_90 N k13 x2 x6 x7 x8 x6 h
set_option maxRecDepth 100000 in
set_option maxHeartbeats 4000000 in
theorem R_J_X7_bestPit_79 (N : Nat) (k13 : Int → Int → Int → Int → Int → Hp → Option (Int × Hp)) (hk13 : ∀ (x2 : Int) (x3 : Int) (x4 : Int) (x5 : Int) (x6 : Int) (h : Hp) (res : Int × Hp), k13 x2 x3 x4 x5 x6 h = some res → Go M_X7_bestPit 3 13 [some (.inr 8), some (.inr 2), some (.inl x2), some (.inl x3), some (.inl x4), some (.inl x5), some (.inl x6), none, none] [] h (Qi res)) (x2 : Int) (x6 : Int) (x7 : Int) (x8 : Int) (h : Hp) (res : Int × Hp) (H : J_X7_bestPit_79 N k13 x2 x6 x7 x8 h = some res) : Go M_X7_bestPit 3 79 [some (.inr 8), some (.inr 2), some (.inl x2), none, none, none, some (.inl x6), some (.inl x7), some (.inl x8)] [] h (Qi res) := by
  unfold J_X7_bestPit_79 at H
  refine g_iload (T_X7_bestPit 38 _ _ _ rfl) rfl ?_
  refine g_istore_n (T_X7_bestPit 39 _ _ _ rfl) (by decide) ?_
  refine g_iload (T_X7_bestPit 40 _ _ _ rfl) rfl ?_
  refine g_istore (T_X7_bestPit 41 _ _ _ rfl) (by decide) ?_
  refine g_iload (T_X7_bestPit 42 _ _ _ rfl) rfl ?_
  refine g_istore (T_X7_bestPit 43 _ _ _ rfl) (by decide) ?_
  refine g_weak [true, true, true, true, true, true, true, false, false] ?_
  exact R_J_X7_bestPit_90 N k13 hk13 _ _ _ _ _ _ _ H
def J_X7_bestPit_56 (N : Nat) (k13 : Int → Int → Int → Int → Int → Hp → Option (Int × Hp)) (x2 : Int) (x3 : Int) (x4 : Int) (x5 : Int) (x6 : Int) (x7 : Int) (s0 : Int) (h : Hp) : Option (Int × Hp) :=
  if x4 < x7 then
    J_X7_bestPit_79 N k13 x2 x6 x7 s0 h
  else
  if x7 = x4 then
    if x5 ≤ s0 then
      J_X7_bestPit_90 N k13 x2 x3 x4 x5 x6 h
    else
    J_X7_bestPit_79 N k13 x2 x6 x7 s0 h
  else
  J_X7_bestPit_90 N k13 x2 x3 x4 x5 x6 h
set_option maxRecDepth 100000 in
set_option maxHeartbeats 4000000 in
theorem R_J_X7_bestPit_56 (N : Nat) (k13 : Int → Int → Int → Int → Int → Hp → Option (Int × Hp)) (hk13 : ∀ (x2 : Int) (x3 : Int) (x4 : Int) (x5 : Int) (x6 : Int) (h : Hp) (res : Int × Hp), k13 x2 x3 x4 x5 x6 h = some res → Go M_X7_bestPit 3 13 [some (.inr 8), some (.inr 2), some (.inl x2), some (.inl x3), some (.inl x4), some (.inl x5), some (.inl x6), none, none] [] h (Qi res)) (x2 : Int) (x3 : Int) (x4 : Int) (x5 : Int) (x6 : Int) (x7 : Int) (s0 : Int) (h : Hp) (res : Int × Hp) (H : J_X7_bestPit_56 N k13 x2 x3 x4 x5 x6 x7 s0 h = some res) : Go M_X7_bestPit 3 56 [some (.inr 8), some (.inr 2), some (.inl x2), some (.inl x3), some (.inl x4), some (.inl x5), some (.inl x6), some (.inl x7), none] [.inl s0] h (Qi res) := by
  unfold J_X7_bestPit_56 at H
  refine g_istore (T_X7_bestPit 28 _ _ _ rfl) (by decide) ?_
  refine g_iload (T_X7_bestPit 29 _ _ _ rfl) rfl ?_
  refine g_iload (T_X7_bestPit 30 _ _ _ rfl) rfl ?_
  refine g_icmp_gt (tgt := 79) (T_X7_bestPit 31 _ _ _ rfl) (by decide) (fun cc => ?_) (fun cc => ?_)
  · replace H := ite_p cc H
    refine g_weak [true, true, true, false, false, false, true, true, true] ?_
    exact R_J_X7_bestPit_79 N k13 hk13 _ _ _ _ _ _ H
  · replace H := ite_n cc H
    refine g_iload (T_X7_bestPit 32 _ _ _ rfl) rfl ?_
    refine g_iload (T_X7_bestPit 33 _ _ _ rfl) rfl ?_
    refine g_icmp_ne (tgt := 90) (T_X7_bestPit 34 _ _ _ rfl) (by decide) (fun cc => ?_) (fun cc => ?_)
    · replace H := ite_n cc H
      refine g_weak [true, true, true, true, true, true, true, false, false] ?_
      exact R_J_X7_bestPit_90 N k13 hk13 _ _ _ _ _ _ _ H
    · replace H := ite_p cc H
      refine g_iload (T_X7_bestPit 35 _ _ _ rfl) rfl ?_
      refine g_iload (T_X7_bestPit 36 _ _ _ rfl) rfl ?_
      refine g_icmp_ge (tgt := 90) (T_X7_bestPit 37 _ _ _ rfl) (by decide) (fun cc => ?_) (fun cc => ?_)
      · replace H := ite_p cc H
        refine g_weak [true, true, true, true, true, true, true, false, false] ?_
        exact R_J_X7_bestPit_90 N k13 hk13 _ _ _ _ _ _ _ H
      · replace H := ite_n cc H
        refine g_weak [true, true, true, false, false, false, true, true, true] ?_
        exact R_J_X7_bestPit_79 N k13 hk13 _ _ _ _ _ _ H
def L_X7_bestPit_13 (N : Nat) : Nat → Int → Int → Int → Int → Int → Hp → Option (Int × Hp)
  | 0, _, _, _, _, _, _ => none
  | n + 1, x2, x3, x4, x5, x6, h =>
    if 14 ≤ x6 then
      some (x3, h)
    else
    bd (F_X1_isTold N x6 h) fun y2 h1 =>
    if y2 = 0 then
      J_X7_bestPit_90 N (L_X7_bestPit_13 N n) x2 x3 x4 x5 x6 h1
    else
    bd (F_X7_reachedFrom N x6 h1) fun y4 h3 =>
    if x2 = 0 then
      bd (F_X7_sumFrom N x6 h3) fun y6 h5 =>
      J_X7_bestPit_56 N (L_X7_bestPit_13 N n) x2 x3 x4 x5 x6 y4 y6 h5
    else
    bd (F_X7_farthestFrom N x6 h3) fun y8 h7 =>
    J_X7_bestPit_56 N (L_X7_bestPit_13 N n) x2 x3 x4 x5 x6 y4 y8 h7
set_option maxRecDepth 100000 in
set_option maxHeartbeats 4000000 in
theorem R_L_X7_bestPit_13 (N : Nat) : ∀ (n : Nat) (x2 : Int) (x3 : Int) (x4 : Int) (x5 : Int) (x6 : Int) (h : Hp) (res : Int × Hp), L_X7_bestPit_13 N n x2 x3 x4 x5 x6 h = some res → Go M_X7_bestPit 3 13 [some (.inr 8), some (.inr 2), some (.inl x2), some (.inl x3), some (.inl x4), some (.inl x5), some (.inl x6), none, none] [] h (Qi res)
  | 0, _, _, _, _, _, _, _, H => by cases H
  | n + 1, x2, x3, x4, x5, x6, h, res, H => by
    have ih := R_L_X7_bestPit_13 N n
    simp only [L_X7_bestPit_13] at H
    refine g_iload (T_X7_bestPit 8 _ _ _ rfl) rfl ?_
    refine g_bipush (T_X7_bestPit 9 _ _ _ rfl) (by decide) ?_
    refine g_icmp_ge (tgt := 96) (T_X7_bestPit 10 _ _ _ rfl) (by decide) (fun cc => ?_) (fun cc => ?_)
    · replace H := ite_p cc H
      refine g_iload_n (T_X7_bestPit 46 _ _ _ rfl) rfl ?_
      exact g_iret (T_X7_bestPit 47 _ _ _ rfl) rfl (qi_of H)
    · replace H := ite_n cc H
      refine g_aload_n (T_X7_bestPit 11 _ _ _ rfl) rfl ?_
      refine g_iload (T_X7_bestPit 12 _ _ _ rfl) rfl ?_
      obtain ⟨y2, h1, hq, H⟩ := bd_some H
      refine g_callVi (M' := M_X1_isTold) (c := 1) (av := [.inl x6]) (st := []) (T_X7_bestPit 13 _ _ _ rfl) ml_X7_68 cb_X1_isTold rfl rfl (Nat.le_of_ble_eq_true rfl) (by omega) (R_X1_isTold N _ _ _ hq) ?_
      refine g_if_eq (tgt := 90) (T_X7_bestPit 14 _ _ _ rfl) (by decide) (fun cc => ?_) (fun cc => ?_)
      · replace H := ite_p cc H
        refine g_weak [true, true, true, true, true, true, true, false, false] ?_
        exact R_J_X7_bestPit_90 N (L_X7_bestPit_13 N n) ih _ _ _ _ _ _ _ H
      · replace H := ite_n cc H
        refine g_aload_n (T_X7_bestPit 15 _ _ _ rfl) rfl ?_
        refine g_iload (T_X7_bestPit 16 _ _ _ rfl) rfl ?_
        obtain ⟨y4, h3, hq, H⟩ := bd_some H
        refine g_callVi (M' := M_X7_reachedFrom) (c := 7) (av := [.inl x6]) (st := []) (T_X7_bestPit 17 _ _ _ rfl) ml_X7_100 cb_X7_reachedFrom rfl rfl (Nat.le_of_ble_eq_true rfl) (by omega) (R_X7_reachedFrom N _ _ _ hq) ?_
        refine g_istore (T_X7_bestPit 18 _ _ _ rfl) (by decide) ?_
        refine g_iload_n (T_X7_bestPit 19 _ _ _ rfl) rfl ?_
        refine g_if_eq (tgt := 50) (T_X7_bestPit 20 _ _ _ rfl) (by decide) (fun cc => ?_) (fun cc => ?_)
        · replace H := ite_p cc H
          refine g_aload_n (T_X7_bestPit 25 _ _ _ rfl) rfl ?_
          refine g_iload (T_X7_bestPit 26 _ _ _ rfl) rfl ?_
          obtain ⟨y6, h5, hq, H⟩ := bd_some H
          refine g_callVi (M' := M_X7_sumFrom) (c := 7) (av := [.inl x6]) (st := []) (T_X7_bestPit 27 _ _ _ rfl) ml_X7_106 cb_X7_sumFrom rfl rfl (Nat.le_of_ble_eq_true rfl) (by omega) (R_X7_sumFrom N _ _ _ hq) ?_
          refine g_weak [true, true, true, true, true, true, true, true, false] ?_
          exact R_J_X7_bestPit_56 N (L_X7_bestPit_13 N n) ih _ _ _ _ _ _ _ _ _ H
        · replace H := ite_n cc H
          refine g_aload_n (T_X7_bestPit 21 _ _ _ rfl) rfl ?_
          refine g_iload (T_X7_bestPit 22 _ _ _ rfl) rfl ?_
          obtain ⟨y8, h7, hq, H⟩ := bd_some H
          refine g_callVi (M' := M_X7_farthestFrom) (c := 7) (av := [.inl x6]) (st := []) (T_X7_bestPit 23 _ _ _ rfl) ml_X7_103 cb_X7_farthestFrom rfl rfl (Nat.le_of_ble_eq_true rfl) (by omega) (R_X7_farthestFrom N _ _ _ hq) ?_
          refine g_goto (tgt := 56) (T_X7_bestPit 24 _ _ _ rfl) (by decide) ?_
          refine g_weak [true, true, true, true, true, true, true, true, false] ?_
          exact R_J_X7_bestPit_56 N (L_X7_bestPit_13 N n) ih _ _ _ _ _ _ _ _ _ H
def F_X7_bestPit (N : Nat) (x2 : Int) (h : Hp) : Option (Int × Hp) :=
  L_X7_bestPit_13 N  N x2 (-2) (-2) 0 0 h
set_option maxRecDepth 100000 in
set_option maxHeartbeats 4000000 in
theorem R_X7_bestPit (N : Nat) (x2 : Int) (h : Hp) (res : Int × Hp) (H : F_X7_bestPit N x2 h = some res) : Runs M_X7_bestPit 3 [.inr 8, .inr 2, .inl x2] h (Qi res) := by
  refine Runs.of rfl (Nat.le_of_ble_eq_true rfl) ?_
  show Go M_X7_bestPit 3 0 [some (.inr 8), some (.inr 2), some (.inl x2), none, none, none, none, none, none] [] h (Qi res)
  unfold F_X7_bestPit at H
  refine g_bipush (T_X7_bestPit 0 _ _ _ rfl) (by decide) ?_
  refine g_istore_n (T_X7_bestPit 1 _ _ _ rfl) (by decide) ?_
  refine g_bipush (T_X7_bestPit 2 _ _ _ rfl) (by decide) ?_
  refine g_istore (T_X7_bestPit 3 _ _ _ rfl) (by decide) ?_
  refine g_iconst (T_X7_bestPit 4 _ _ _ rfl) ⟨by decide, by decide⟩ ?_
  refine g_istore (T_X7_bestPit 5 _ _ _ rfl) (by decide) ?_
  refine g_iconst (T_X7_bestPit 6 _ _ _ rfl) ⟨by decide, by decide⟩ ?_
  refine g_istore (T_X7_bestPit 7 _ _ _ rfl) (by decide) ?_
  refine g_weak [true, true, true, true, true, true, true, false, false] ?_
  refine R_L_X7_bestPit_13 N   _ _ _ _ _ _ _ _ H
def J_X11_pitAt_42 (N : Nat) (x1 : Int) (s2 : Int) (h : Hp) : Option (Int × Hp) :=
  bd (F_X7_bestPit N s2 h) fun y2 h1 =>
  if x1 = 0 then
    some (y2, h1)
  else
  if x1 = 2 then
    some (y2, h1)
  else
  if x1 = 1 then
    bd (F_X7_farthestFrom N y2 h1) fun y6 h5 =>
    some (y6, h5)
  else
  bd (F_X7_sumFrom N y2 h1) fun y4 h3 =>
  some (y4, h3)
set_option maxRecDepth 100000 in
set_option maxHeartbeats 4000000 in
theorem R_J_X11_pitAt_42 (N : Nat) (x1 : Int) (s2 : Int) (h : Hp) (res : Int × Hp) (H : J_X11_pitAt_42 N x1 s2 h = some res) : Go M_X11_pitAt 4 42 [some (.inr 1), some (.inl x1), none] [.inl s2, .inr 2, .inr 8] h (Qi res) := by
  unfold J_X11_pitAt_42 at H
  obtain ⟨y2, h1, hq, H⟩ := bd_some H
  refine g_callVi (M' := M_X7_bestPit) (c := 7) (av := [.inr 2, .inl s2]) (st := []) (T_X11_pitAt 23 _ _ _ rfl) ml_X11_251 cb_X7_bestPit rfl rfl (Nat.le_of_ble_eq_true rfl) (by omega) (R_X7_bestPit N _ _ _ hq) ?_
  refine g_istore_n (T_X11_pitAt 24 _ _ _ rfl) (by decide) ?_
  refine g_iload_n (T_X11_pitAt 25 _ _ _ rfl) rfl ?_
  refine g_if_eq (tgt := 55) (T_X11_pitAt 26 _ _ _ rfl) (by decide) (fun cc => ?_) (fun cc => ?_)
  · replace H := ite_p cc H
    refine g_iload_n (T_X11_pitAt 30 _ _ _ rfl) rfl ?_
    exact g_iret (T_X11_pitAt 31 _ _ _ rfl) rfl (qi_of H)
  · replace H := ite_n cc H
    refine g_iload_n (T_X11_pitAt 27 _ _ _ rfl) rfl ?_
    refine g_iconst (T_X11_pitAt 28 _ _ _ rfl) ⟨by decide, by decide⟩ ?_
    refine g_icmp_ne (tgt := 57) (T_X11_pitAt 29 _ _ _ rfl) (by decide) (fun cc => ?_) (fun cc => ?_)
    · replace H := ite_n cc H
      refine g_iload_n (T_X11_pitAt 32 _ _ _ rfl) rfl ?_
      refine g_iconst (T_X11_pitAt 33 _ _ _ rfl) ⟨by decide, by decide⟩ ?_
      refine g_icmp_ne (tgt := 73) (T_X11_pitAt 34 _ _ _ rfl) (by decide) (fun cc => ?_) (fun cc => ?_)
      · replace H := ite_n cc H
        refine g_aload_n (T_X11_pitAt 40 _ _ _ rfl) rfl ?_
        refine g_getR (c := 0) (r := 8) (T_X11_pitAt 41 _ _ _ rfl) fl_X11_32 rfl (nR rfl) rfl (by decide) ?_
        refine g_iload_n (T_X11_pitAt 42 _ _ _ rfl) rfl ?_
        obtain ⟨y4, h3, hq, H⟩ := bd_some H
        refine g_callVi (M' := M_X7_sumFrom) (c := 7) (av := [.inl y2]) (st := []) (T_X11_pitAt 43 _ _ _ rfl) ml_X11_258 cb_X7_sumFrom rfl rfl (Nat.le_of_ble_eq_true rfl) (by omega) (R_X7_sumFrom N _ _ _ hq) ?_
        exact g_iret (T_X11_pitAt 44 _ _ _ rfl) rfl (qi_of H)
      · replace H := ite_p cc H
        refine g_aload_n (T_X11_pitAt 35 _ _ _ rfl) rfl ?_
        refine g_getR (c := 0) (r := 8) (T_X11_pitAt 36 _ _ _ rfl) fl_X11_32 rfl (nR rfl) rfl (by decide) ?_
        refine g_iload_n (T_X11_pitAt 37 _ _ _ rfl) rfl ?_
        obtain ⟨y6, h5, hq, H⟩ := bd_some H
        refine g_callVi (M' := M_X7_farthestFrom) (c := 7) (av := [.inl y2]) (st := []) (T_X11_pitAt 38 _ _ _ rfl) ml_X11_255 cb_X7_farthestFrom rfl rfl (Nat.le_of_ble_eq_true rfl) (by omega) (R_X7_farthestFrom N _ _ _ hq) ?_
        refine g_goto (tgt := 81) (T_X11_pitAt 39 _ _ _ rfl) (by decide) ?_
        exact g_iret (T_X11_pitAt 44 _ _ _ rfl) rfl (qi_of H)
    · replace H := ite_p cc H
      refine g_iload_n (T_X11_pitAt 30 _ _ _ rfl) rfl ?_
      exact g_iret (T_X11_pitAt 31 _ _ _ rfl) rfl (qi_of H)
def F_X11_pitAt (N : Nat) (x1 : Int) (h : Hp) : Option (Int × Hp) :=
  bd (F_X11_isWithin N x1 0 3 h) fun y2 h1 =>
  if y2 = 0 then
    some ((-1), h1)
  else
  bd (F_X1_toldStreets N h1) fun y4 h3 =>
  if y4 = 0 then
    some ((-2), h3)
  else
  if 2 ≤ x1 then
    J_X11_pitAt_42 N  x1 0 h3
  else
  J_X11_pitAt_42 N  x1 1 h3
set_option maxRecDepth 100000 in
set_option maxHeartbeats 4000000 in
theorem R_X11_pitAt (N : Nat) (x1 : Int) (h : Hp) (res : Int × Hp) (H : F_X11_pitAt N x1 h = some res) : Runs M_X11_pitAt 4 [.inr 1, .inl x1] h (Qi res) := by
  refine Runs.of rfl (Nat.le_of_ble_eq_true rfl) ?_
  show Go M_X11_pitAt 4 0 [some (.inr 1), some (.inl x1), none] [] h (Qi res)
  unfold F_X11_pitAt at H
  refine g_iload_n (T_X11_pitAt 0 _ _ _ rfl) rfl ?_
  refine g_iconst (T_X11_pitAt 1 _ _ _ rfl) ⟨by decide, by decide⟩ ?_
  refine g_iconst (T_X11_pitAt 2 _ _ _ rfl) ⟨by decide, by decide⟩ ?_
  obtain ⟨y2, h1, hq, H⟩ := bd_some H
  refine g_callSi (M' := M_X11_isWithin) (av := [.inl x1, .inl 0, .inl 3]) (st := []) (T_X11_pitAt 3 _ _ _ rfl) ml_X11_96 cb_X11_isWithin rfl (Nat.le_of_ble_eq_true rfl) (by omega) (R_X11_isWithin N _ _ _ _ _ hq) ?_
  refine g_if_ne (tgt := 11) (T_X11_pitAt 4 _ _ _ rfl) (by decide) (fun cc => ?_) (fun cc => ?_)
  · replace H := ite_n cc H
    refine g_aload_n (T_X11_pitAt 7 _ _ _ rfl) rfl ?_
    refine g_getR (c := 0) (r := 2) (T_X11_pitAt 8 _ _ _ rfl) fl_X11_28 rfl (nR rfl) rfl (by decide) ?_
    obtain ⟨y4, h3, hq, H⟩ := bd_some H
    refine g_callVi (M' := M_X1_toldStreets) (c := 1) (av := []) (st := []) (T_X11_pitAt 9 _ _ _ rfl) ml_X11_248 cb_X1_toldStreets rfl rfl (Nat.le_of_ble_eq_true rfl) (by omega) (R_X1_toldStreets N _ _ hq) ?_
    refine g_if_ne (tgt := 24) (T_X11_pitAt 10 _ _ _ rfl) (by decide) (fun cc => ?_) (fun cc => ?_)
    · replace H := ite_n cc H
      refine g_aload_n (T_X11_pitAt 13 _ _ _ rfl) rfl ?_
      refine g_getR (c := 0) (r := 8) (T_X11_pitAt 14 _ _ _ rfl) fl_X11_32 rfl (nR rfl) rfl (by decide) ?_
      refine g_aload_n (T_X11_pitAt 15 _ _ _ rfl) rfl ?_
      refine g_getR (c := 0) (r := 2) (T_X11_pitAt 16 _ _ _ rfl) fl_X11_28 rfl (nR rfl) rfl (by decide) ?_
      refine g_iload_n (T_X11_pitAt 17 _ _ _ rfl) rfl ?_
      refine g_iconst (T_X11_pitAt 18 _ _ _ rfl) ⟨by decide, by decide⟩ ?_
      refine g_icmp_ge (tgt := 41) (T_X11_pitAt 19 _ _ _ rfl) (by decide) (fun cc => ?_) (fun cc => ?_)
      · replace H := ite_p cc H
        refine g_iconst (T_X11_pitAt 22 _ _ _ rfl) ⟨by decide, by decide⟩ ?_
        refine g_weak [true, true, false] ?_
        exact R_J_X11_pitAt_42 N   _ _ _ _ H
      · replace H := ite_n cc H
        refine g_iconst (T_X11_pitAt 20 _ _ _ rfl) ⟨by decide, by decide⟩ ?_
        refine g_goto (tgt := 42) (T_X11_pitAt 21 _ _ _ rfl) (by decide) ?_
        refine g_weak [true, true, false] ?_
        exact R_J_X11_pitAt_42 N   _ _ _ _ H
    · replace H := ite_p cc H
      refine g_bipush (T_X11_pitAt 11 _ _ _ rfl) (by decide) ?_
      exact g_iret (T_X11_pitAt 12 _ _ _ rfl) rfl (qi_of H)
  · replace H := ite_p cc H
    refine g_iconst (T_X11_pitAt 5 _ _ _ rfl) ⟨by decide, by decide⟩ ?_
    exact g_iret (T_X11_pitAt 6 _ _ _ rfl) rfl (qi_of H)
def J_X7_neighboursOf_69 (N : Nat) (k6 : Int → Int → Int → Int → Int → Hp → Option (Int × Hp)) (x1 : Int) (x2 : Int) (x3 : Int) (x4 : Int) (x5 : Int) (h : Hp) : Option (Int × Hp) :=
  bnd (w32 (x5 + 1)) fun y1 =>
  k6 x1 x2 x3 x4 y1 h
set_option maxRecDepth 100000 in
set_option maxHeartbeats 4000000 in
theorem R_J_X7_neighboursOf_69 (N : Nat) (k6 : Int → Int → Int → Int → Int → Hp → Option (Int × Hp)) (hk6 : ∀ (x1 : Int) (x2 : Int) (x3 : Int) (x4 : Int) (x5 : Int) (h : Hp) (res : Int × Hp), k6 x1 x2 x3 x4 x5 h = some res → Go M_X7_neighboursOf 1 6 [some (.inr 8), some (.inl x1), some (.inl x2), some (.inl x3), some (.inl x4), some (.inl x5), none] [] h (Qi res)) (x1 : Int) (x2 : Int) (x3 : Int) (x4 : Int) (x5 : Int) (h : Hp) (res : Int × Hp) (H : J_X7_neighboursOf_69 N k6 x1 x2 x3 x4 x5 h = some res) : Go M_X7_neighboursOf 1 69 [some (.inr 8), some (.inl x1), some (.inl x2), some (.inl x3), some (.inl x4), some (.inl x5), none] [] h (Qi res) := by
  unfold J_X7_neighboursOf_69 at H
  refine g_iincB (T_X7_neighboursOf 38 _ _ _ rfl) rfl (by decide) H fun y1 H => ?_
  refine g_goto (tgt := 6) (T_X7_neighboursOf 39 _ _ _ rfl) (by decide) ?_
  refine g_weak [true, true, true, true, true, true, false] ?_
  exact hk6 _ _ _ _ _ _ _ H
def J_X7_neighboursOf_38 (N : Nat) (k6 : Int → Int → Int → Int → Int → Hp → Option (Int × Hp)) (x1 : Int) (x2 : Int) (x3 : Int) (x4 : Int) (x5 : Int) (s0 : Int) (h : Hp) : Option (Int × Hp) :=
  if s0 = 0 then
    grd (0 ≤ (w32 ((w32 (x1 * 14)) + x5)) ∧ (w32 ((w32 (x1 * 14)) + x5)) < 196) <|
    if (h 8 (w32 ((w32 (x1 * 14)) + x5)).toNat) ≤ 0 then
      J_X7_neighboursOf_69 N k6 x1 x2 x3 x4 x5 h
    else
    bnd ((ior x4 (ishl 1 x5))) fun y1 =>
    J_X7_neighboursOf_69 N k6 x1 x2 x3 y1 x5 h
  else
  J_X7_neighboursOf_69 N k6 x1 x2 x3 x4 x5 h
set_option maxRecDepth 100000 in
set_option maxHeartbeats 4000000 in
theorem R_J_X7_neighboursOf_38 (N : Nat) (k6 : Int → Int → Int → Int → Int → Hp → Option (Int × Hp)) (hk6 : ∀ (x1 : Int) (x2 : Int) (x3 : Int) (x4 : Int) (x5 : Int) (h : Hp) (res : Int × Hp), k6 x1 x2 x3 x4 x5 h = some res → Go M_X7_neighboursOf 1 6 [some (.inr 8), some (.inl x1), some (.inl x2), some (.inl x3), some (.inl x4), some (.inl x5), none] [] h (Qi res)) (x1 : Int) (x2 : Int) (x3 : Int) (x4 : Int) (x5 : Int) (s0 : Int) (h : Hp) (res : Int × Hp) (H : J_X7_neighboursOf_38 N k6 x1 x2 x3 x4 x5 s0 h = some res) : Go M_X7_neighboursOf 1 38 [some (.inr 8), some (.inl x1), some (.inl x2), some (.inl x3), some (.inl x4), some (.inl x5), none] [.inl s0] h (Qi res) := by
  unfold J_X7_neighboursOf_38 at H
  refine g_istore (T_X7_neighboursOf 20 _ _ _ rfl) (by decide) ?_
  refine g_iload (T_X7_neighboursOf 21 _ _ _ rfl) rfl ?_
  refine g_if_ne (tgt := 69) (T_X7_neighboursOf 22 _ _ _ rfl) (by decide) (fun cc => ?_) (fun cc => ?_)
  · replace H := ite_n cc H
    refine g_weak [true, true, true, true, true, true, false] ?_
    exact R_J_X7_neighboursOf_69 N k6 hk6 _ _ _ _ _ _ _ H
  · replace H := ite_p cc H
    refine g_aload_n (T_X7_neighboursOf 23 _ _ _ rfl) rfl ?_
    refine g_getR (c := 7) (r := 9) (T_X7_neighboursOf 24 _ _ _ rfl) fl_X7_11 rfl (nR rfl) rfl (by decide) ?_
    refine g_iload_n (T_X7_neighboursOf 25 _ _ _ rfl) rfl ?_
    refine g_bipush (T_X7_neighboursOf 26 _ _ _ rfl) (by decide) ?_
    refine g_imul (T_X7_neighboursOf 27 _ _ _ rfl) ?_
    refine g_iload (T_X7_neighboursOf 28 _ _ _ rfl) rfl ?_
    refine g_iadd (T_X7_neighboursOf 29 _ _ _ rfl) ?_
    obtain ⟨hg, H⟩ := grd_some H
    refine g_iald (c := 8) (T_X7_neighboursOf 30 _ _ _ rfl) rfl hg ?_
    refine g_if_le (tgt := 69) (T_X7_neighboursOf 31 _ _ _ rfl) (by decide) (fun cc => ?_) (fun cc => ?_)
    · replace H := ite_p cc H
      refine g_weak [true, true, true, true, true, true, false] ?_
      exact R_J_X7_neighboursOf_69 N k6 hk6 _ _ _ _ _ _ _ H
    · replace H := ite_n cc H
      refine g_iload (T_X7_neighboursOf 32 _ _ _ rfl) rfl ?_
      refine g_iconst (T_X7_neighboursOf 33 _ _ _ rfl) ⟨by decide, by decide⟩ ?_
      refine g_iload (T_X7_neighboursOf 34 _ _ _ rfl) rfl ?_
      refine g_ishl (T_X7_neighboursOf 35 _ _ _ rfl) ?_
      refine g_ior (T_X7_neighboursOf 36 _ _ _ rfl) ?_
      refine g_bndI H fun y1 H => ?_
      refine g_istore (T_X7_neighboursOf 37 _ _ _ rfl) (by decide) ?_
      refine g_weak [true, true, true, true, true, true, false] ?_
      exact R_J_X7_neighboursOf_69 N k6 hk6 _ _ _ _ _ _ _ H
def L_X7_neighboursOf_6 (N : Nat) : Nat → Int → Int → Int → Int → Int → Hp → Option (Int × Hp)
  | 0, _, _, _, _, _, _ => none
  | n + 1, x1, x2, x3, x4, x5, h =>
    if 14 ≤ x5 then
      some (x4, h)
    else
    if (imin x1 x5) = x2 then
      if (imax x1 x5) = x3 then
        J_X7_neighboursOf_38 N (L_X7_neighboursOf_6 N n) x1 x2 x3 x4 x5 1 h
      else
      J_X7_neighboursOf_38 N (L_X7_neighboursOf_6 N n) x1 x2 x3 x4 x5 0 h
    else
    J_X7_neighboursOf_38 N (L_X7_neighboursOf_6 N n) x1 x2 x3 x4 x5 0 h
set_option maxRecDepth 100000 in
set_option maxHeartbeats 4000000 in
theorem R_L_X7_neighboursOf_6 (N : Nat) : ∀ (n : Nat) (x1 : Int) (x2 : Int) (x3 : Int) (x4 : Int) (x5 : Int) (h : Hp) (res : Int × Hp), L_X7_neighboursOf_6 N n x1 x2 x3 x4 x5 h = some res → Go M_X7_neighboursOf 1 6 [some (.inr 8), some (.inl x1), some (.inl x2), some (.inl x3), some (.inl x4), some (.inl x5), none] [] h (Qi res)
  | 0, _, _, _, _, _, _, _, H => by cases H
  | n + 1, x1, x2, x3, x4, x5, h, res, H => by
    have ih := R_L_X7_neighboursOf_6 N n
    simp only [L_X7_neighboursOf_6] at H
    refine g_iload (T_X7_neighboursOf 4 _ _ _ rfl) rfl ?_
    refine g_bipush (T_X7_neighboursOf 5 _ _ _ rfl) (by decide) ?_
    refine g_icmp_ge (tgt := 75) (T_X7_neighboursOf 6 _ _ _ rfl) (by decide) (fun cc => ?_) (fun cc => ?_)
    · replace H := ite_p cc H
      refine g_iload (T_X7_neighboursOf 40 _ _ _ rfl) rfl ?_
      exact g_iret (T_X7_neighboursOf 41 _ _ _ rfl) rfl (qi_of H)
    · replace H := ite_n cc H
      refine g_iload_n (T_X7_neighboursOf 7 _ _ _ rfl) rfl ?_
      refine g_iload (T_X7_neighboursOf 8 _ _ _ rfl) rfl ?_
      refine g_min (st := []) (T_X7_neighboursOf 9 _ _ _ rfl) ml_X7_124 wmin (Nat.le_of_ble_eq_true rfl) (by omega) ?_
      refine g_iload_n (T_X7_neighboursOf 10 _ _ _ rfl) rfl ?_
      refine g_icmp_ne (tgt := 37) (T_X7_neighboursOf 11 _ _ _ rfl) (by decide) (fun cc => ?_) (fun cc => ?_)
      · replace H := ite_n cc H
        refine g_iconst (T_X7_neighboursOf 19 _ _ _ rfl) ⟨by decide, by decide⟩ ?_
        refine g_weak [true, true, true, true, true, true, false] ?_
        exact R_J_X7_neighboursOf_38 N (L_X7_neighboursOf_6 N n) ih _ _ _ _ _ _ _ _ H
      · replace H := ite_p cc H
        refine g_iload_n (T_X7_neighboursOf 12 _ _ _ rfl) rfl ?_
        refine g_iload (T_X7_neighboursOf 13 _ _ _ rfl) rfl ?_
        refine g_max (st := []) (T_X7_neighboursOf 14 _ _ _ rfl) ml_X7_95 wmax (Nat.le_of_ble_eq_true rfl) (by omega) ?_
        refine g_iload_n (T_X7_neighboursOf 15 _ _ _ rfl) rfl ?_
        refine g_icmp_ne (tgt := 37) (T_X7_neighboursOf 16 _ _ _ rfl) (by decide) (fun cc => ?_) (fun cc => ?_)
        · replace H := ite_n cc H
          refine g_iconst (T_X7_neighboursOf 19 _ _ _ rfl) ⟨by decide, by decide⟩ ?_
          refine g_weak [true, true, true, true, true, true, false] ?_
          exact R_J_X7_neighboursOf_38 N (L_X7_neighboursOf_6 N n) ih _ _ _ _ _ _ _ _ H
        · replace H := ite_p cc H
          refine g_iconst (T_X7_neighboursOf 17 _ _ _ rfl) ⟨by decide, by decide⟩ ?_
          refine g_goto (tgt := 38) (T_X7_neighboursOf 18 _ _ _ rfl) (by decide) ?_
          refine g_weak [true, true, true, true, true, true, false] ?_
          exact R_J_X7_neighboursOf_38 N (L_X7_neighboursOf_6 N n) ih _ _ _ _ _ _ _ _ H
def F_X7_neighboursOf (N : Nat) (x1 : Int) (x2 : Int) (x3 : Int) (h : Hp) : Option (Int × Hp) :=
  L_X7_neighboursOf_6 N  N x1 x2 x3 0 0 h
set_option maxRecDepth 100000 in
set_option maxHeartbeats 4000000 in
theorem R_X7_neighboursOf (N : Nat) (x1 : Int) (x2 : Int) (x3 : Int) (h : Hp) (res : Int × Hp) (H : F_X7_neighboursOf N x1 x2 x3 h = some res) : Runs M_X7_neighboursOf 1 [.inr 8, .inl x1, .inl x2, .inl x3] h (Qi res) := by
  refine Runs.of rfl (Nat.le_of_ble_eq_true rfl) ?_
  show Go M_X7_neighboursOf 1 0 [some (.inr 8), some (.inl x1), some (.inl x2), some (.inl x3), none, none, none] [] h (Qi res)
  unfold F_X7_neighboursOf at H
  refine g_iconst (T_X7_neighboursOf 0 _ _ _ rfl) ⟨by decide, by decide⟩ ?_
  refine g_istore (T_X7_neighboursOf 1 _ _ _ rfl) (by decide) ?_
  refine g_iconst (T_X7_neighboursOf 2 _ _ _ rfl) ⟨by decide, by decide⟩ ?_
  refine g_istore (T_X7_neighboursOf 3 _ _ _ rfl) (by decide) ?_
  refine g_weak [true, true, true, true, true, true, false] ?_
  refine R_L_X7_neighboursOf_6 N   _ _ _ _ _ _ _ _ H
