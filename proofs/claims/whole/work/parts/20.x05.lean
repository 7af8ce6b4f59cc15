/-! by program: the methods as functions, and the walks that show it -/
def J_X7_isCut_85 (N : Nat) (k55 : Int → Int → Int → Int → Int → Hp → Option (Int × Hp)) (x2 : Int) (x3 : Int) (x4 : Int) (x5 : Int) (x6 : Int) (h : Hp) : Option (Int × Hp) :=
  bnd (w32 (x6 + 1)) fun y1 =>
  k55 x2 x3 x4 x5 y1 h
set_option maxRecDepth 100000 in
set_option maxHeartbeats 4000000 in
theorem R_J_X7_isCut_85 (N : Nat) (k55 : Int → Int → Int → Int → Int → Hp → Option (Int × Hp)) (hk55 : ∀ (x2 : Int) (x3 : Int) (x4 : Int) (x5 : Int) (x6 : Int) (h : Hp) (res : Int × Hp), k55 x2 x3 x4 x5 x6 h = some res → Go M_X7_isCut 2 55 [some (.inr 8), none, some (.inl x2), some (.inl x3), some (.inl x4), some (.inl x5), some (.inl x6)] [] h (Qi res)) (x2 : Int) (x3 : Int) (x4 : Int) (x5 : Int) (x6 : Int) (h : Hp) (res : Int × Hp) (H : J_X7_isCut_85 N k55 x2 x3 x4 x5 x6 h = some res) : Go M_X7_isCut 2 85 [some (.inr 8), none, some (.inl x2), some (.inl x3), some (.inl x4), some (.inl x5), some (.inl x6)] [] h (Qi res) := by
  unfold J_X7_isCut_85 at H
  refine g_iincB (T_X7_isCut 49 _ _ _ rfl) rfl (by decide) H fun y1 H => ?_
  refine g_goto (tgt := 55) (T_X7_isCut 50 _ _ _ rfl) (by decide) ?_
  refine g_weak [true, false, true, true, true, true, true] ?_
  exact hk55 _ _ _ _ _ _ _ H
def L_X7_isCut_55 (N : Nat) (k91 : Int → Int → Int → Int → Hp → Option (Int × Hp)) : Nat → Int → Int → Int → Int → Int → Hp → Option (Int × Hp)
  | 0, _, _, _, _, _, _ => none
  | n + 1, x2, x3, x4, x5, x6, h =>
    if 14 ≤ x6 then
      k91 x2 x3 x4 x5 h
    else
    bd (F_X11_hasBit N x4 x6 h) fun y2 h1 =>
    if y2 = 0 then
      J_X7_isCut_85 N (L_X7_isCut_55 N k91 n) x2 x3 x4 x5 x6 h1
    else
    bd (F_X7_neighboursOf N x6 x2 x3 h1) fun y4 h3 =>
    bnd ((ior x4 y4)) fun y5 =>
    J_X7_isCut_85 N (L_X7_isCut_55 N k91 n) x2 x3 y5 x5 x6 h3
set_option maxRecDepth 100000 in
set_option maxHeartbeats 4000000 in
theorem R_L_X7_isCut_55 (N : Nat) (k91 : Int → Int → Int → Int → Hp → Option (Int × Hp)) (hk91 : ∀ (x2 : Int) (x3 : Int) (x4 : Int) (x5 : Int) (h : Hp) (res : Int × Hp), k91 x2 x3 x4 x5 h = some res → Go M_X7_isCut 2 91 [some (.inr 8), none, some (.inl x2), some (.inl x3), some (.inl x4), some (.inl x5), none] [] h (Qi res)) : ∀ (n : Nat) (x2 : Int) (x3 : Int) (x4 : Int) (x5 : Int) (x6 : Int) (h : Hp) (res : Int × Hp), L_X7_isCut_55 N k91 n x2 x3 x4 x5 x6 h = some res → Go M_X7_isCut 2 55 [some (.inr 8), none, some (.inl x2), some (.inl x3), some (.inl x4), some (.inl x5), some (.inl x6)] [] h (Qi res)
  | 0, _, _, _, _, _, _, _, H => by cases H
  | n + 1, x2, x3, x4, x5, x6, h, res, H => by
    have ih := R_L_X7_isCut_55 N k91 hk91 n
    simp only [L_X7_isCut_55] at H
    refine g_iload (T_X7_isCut 34 _ _ _ rfl) rfl ?_
    refine g_bipush (T_X7_isCut 35 _ _ _ rfl) (by decide) ?_
    refine g_icmp_ge (tgt := 91) (T_X7_isCut 36 _ _ _ rfl) (by decide) (fun cc => ?_) (fun cc => ?_)
    · replace H := ite_p cc H
      refine g_weak [true, false, true, true, true, true, false] ?_
      exact hk91 _ _ _ _ _ _ H
    · replace H := ite_n cc H
      refine g_iload (T_X7_isCut 37 _ _ _ rfl) rfl ?_
      refine g_iload (T_X7_isCut 38 _ _ _ rfl) rfl ?_
      obtain ⟨y2, h1, hq, H⟩ := bd_some H
      refine g_callSNi (M' := M_X11_hasBit) (av := [.inl x4, .inl x6]) (st := []) (T_X7_isCut 39 _ _ _ rfl) ml_X7_116 cb_X11_hasBit rfl (Nat.le_of_ble_eq_true rfl) (by omega) (R_X11_hasBit N _ _ _ _ hq) ?_
      refine g_if_eq (tgt := 85) (T_X7_isCut 40 _ _ _ rfl) (by decide) (fun cc => ?_) (fun cc => ?_)
      · replace H := ite_p cc H
        refine g_weak [true, false, true, true, true, true, true] ?_
        exact R_J_X7_isCut_85 N (L_X7_isCut_55 N k91 n) ih _ _ _ _ _ _ _ H
      · replace H := ite_n cc H
        refine g_iload (T_X7_isCut 41 _ _ _ rfl) rfl ?_
        refine g_aload_n (T_X7_isCut 42 _ _ _ rfl) rfl ?_
        refine g_iload (T_X7_isCut 43 _ _ _ rfl) rfl ?_
        refine g_iload_n (T_X7_isCut 44 _ _ _ rfl) rfl ?_
        refine g_iload_n (T_X7_isCut 45 _ _ _ rfl) rfl ?_
        obtain ⟨y4, h3, hq, H⟩ := bd_some H
        refine g_callVi (M' := M_X7_neighboursOf) (c := 7) (av := [.inl x6, .inl x2, .inl x3]) (st := [.inl x4]) (T_X7_isCut 46 _ _ _ rfl) ml_X7_120 cb_X7_neighboursOf rfl rfl (Nat.le_of_ble_eq_true rfl) (by omega) (R_X7_neighboursOf N _ _ _ _ _ hq) ?_
        refine g_ior (T_X7_isCut 47 _ _ _ rfl) ?_
        refine g_bndI H fun y5 H => ?_
        refine g_istore (T_X7_isCut 48 _ _ _ rfl) (by decide) ?_
        refine g_weak [true, false, true, true, true, true, true] ?_
        exact R_J_X7_isCut_85 N (L_X7_isCut_55 N k91 n) ih _ _ _ _ _ _ _ H
def L_X7_isCut_45 (N : Nat) : Nat → Int → Int → Int → Int → Hp → Option (Int × Hp)
  | 0, _, _, _, _, _ => none
  | n + 1, x2, x3, x4, x5, h =>
    if 14 ≤ x5 then
      bd (F_X11_hasBit N x4 x3 h) fun y2 h1 =>
      if y2 = 0 then
        some (1, h1)
      else
      some (0, h1)
    else
    L_X7_isCut_55 N (fun (v3 : Int) (v4 : Int) (v5 : Int) (v6 : Int) (h7 : Hp) =>
      bnd (w32 (v6 + 1)) fun y8 =>
      (L_X7_isCut_45 N n) v3 v4 v5 y8 h7) N x2 x3 x4 x5 0 h
set_option maxRecDepth 100000 in
set_option maxHeartbeats 4000000 in
theorem R_L_X7_isCut_45 (N : Nat) : ∀ (n : Nat) (x2 : Int) (x3 : Int) (x4 : Int) (x5 : Int) (h : Hp) (res : Int × Hp), L_X7_isCut_45 N n x2 x3 x4 x5 h = some res → Go M_X7_isCut 2 45 [some (.inr 8), none, some (.inl x2), some (.inl x3), some (.inl x4), some (.inl x5), none] [] h (Qi res)
  | 0, _, _, _, _, _, _, H => by cases H
  | n + 1, x2, x3, x4, x5, h, res, H => by
    have ih := R_L_X7_isCut_45 N n
    simp only [L_X7_isCut_45] at H
    refine g_iload (T_X7_isCut 29 _ _ _ rfl) rfl ?_
    refine g_bipush (T_X7_isCut 30 _ _ _ rfl) (by decide) ?_
    refine g_icmp_ge (tgt := 97) (T_X7_isCut 31 _ _ _ rfl) (by decide) (fun cc => ?_) (fun cc => ?_)
    · replace H := ite_p cc H
      refine g_iload (T_X7_isCut 53 _ _ _ rfl) rfl ?_
      refine g_iload_n (T_X7_isCut 54 _ _ _ rfl) rfl ?_
      obtain ⟨y2, h1, hq, H⟩ := bd_some H
      refine g_callSNi (M' := M_X11_hasBit) (av := [.inl x4, .inl x3]) (st := []) (T_X7_isCut 55 _ _ _ rfl) ml_X7_116 cb_X11_hasBit rfl (Nat.le_of_ble_eq_true rfl) (by omega) (R_X11_hasBit N _ _ _ _ hq) ?_
      refine g_if_ne (tgt := 110) (T_X7_isCut 56 _ _ _ rfl) (by decide) (fun cc => ?_) (fun cc => ?_)
      · replace H := ite_n cc H
        refine g_iconst (T_X7_isCut 59 _ _ _ rfl) ⟨by decide, by decide⟩ ?_
        exact g_zret (T_X7_isCut 60 _ _ _ rfl) rfl (by decide) (qi_of H)
      · replace H := ite_p cc H
        refine g_iconst (T_X7_isCut 57 _ _ _ rfl) ⟨by decide, by decide⟩ ?_
        refine g_goto (tgt := 111) (T_X7_isCut 58 _ _ _ rfl) (by decide) ?_
        exact g_zret (T_X7_isCut 60 _ _ _ rfl) rfl (by decide) (qi_of H)
    · replace H := ite_n cc H
      refine g_iconst (T_X7_isCut 32 _ _ _ rfl) ⟨by decide, by decide⟩ ?_
      refine g_istore (T_X7_isCut 33 _ _ _ rfl) (by decide) ?_
      refine g_weak [true, false, true, true, true, true, true] ?_
      refine R_L_X7_isCut_55 N _ (fun v3 v4 v5 v6 h7 res H => ?_) _ _ _ _ _ _ _ _ H
      · refine g_iincB (T_X7_isCut 51 _ _ _ rfl) rfl (by decide) H fun y8 H => ?_
        refine g_goto (tgt := 45) (T_X7_isCut 52 _ _ _ rfl) (by decide) ?_
        refine g_weak [true, false, true, true, true, true, false] ?_
        exact ih _ _ _ _ _ _ H
def F_X7_isCut (N : Nat) (x1 : Int) (h : Hp) : Option (Int × Hp) :=
  bnd ((idiv x1 14)) fun y1 =>
  bnd ((irem x1 14)) fun y2 =>
  if y2 ≤ y1 then
    some (0, h)
  else
  bd (F_X11_isWithin N x1 0 195 h) fun y4 h3 =>
  if y4 = 0 then
    some (0, h3)
  else
  grd (0 ≤ x1 ∧ x1 < 196) <|
  if (h3 8 x1.toNat) = 0 then
    some (0, h3)
  else
  bnd ((ishl 1 y1)) fun y5 =>
  L_X7_isCut_45 N  N y1 y2 y5 0 h3
set_option maxRecDepth 100000 in
set_option maxHeartbeats 4000000 in
theorem R_X7_isCut (N : Nat) (x1 : Int) (h : Hp) (res : Int × Hp) (H : F_X7_isCut N x1 h = some res) : Runs M_X7_isCut 2 [.inr 8, .inl x1] h (Qi res) := by
  refine Runs.of rfl (Nat.le_of_ble_eq_true rfl) ?_
  show Go M_X7_isCut 2 0 [some (.inr 8), some (.inl x1), none, none, none, none, none] [] h (Qi res)
  unfold F_X7_isCut at H
  refine g_iload_n (T_X7_isCut 0 _ _ _ rfl) rfl ?_
  refine g_bipush (T_X7_isCut 1 _ _ _ rfl) (by decide) ?_
  refine g_idiv (T_X7_isCut 2 _ _ _ rfl) (by decide) ?_
  refine g_bndI H fun y1 H => ?_
  refine g_istore_n (T_X7_isCut 3 _ _ _ rfl) (by decide) ?_
  refine g_iload_n (T_X7_isCut 4 _ _ _ rfl) rfl ?_
  refine g_bipush (T_X7_isCut 5 _ _ _ rfl) (by decide) ?_
  refine g_irem (T_X7_isCut 6 _ _ _ rfl) (by decide) ?_
  refine g_bndI H fun y2 H => ?_
  refine g_istore_n (T_X7_isCut 7 _ _ _ rfl) (by decide) ?_
  refine g_iload_n (T_X7_isCut 8 _ _ _ rfl) rfl ?_
  refine g_iload_n (T_X7_isCut 9 _ _ _ rfl) rfl ?_
  refine g_icmp_ge (tgt := 35) (T_X7_isCut 10 _ _ _ rfl) (by decide) (fun cc => ?_) (fun cc => ?_)
  · replace H := ite_p cc H
    refine g_iconst (T_X7_isCut 21 _ _ _ rfl) ⟨by decide, by decide⟩ ?_
    exact g_zret (T_X7_isCut 22 _ _ _ rfl) rfl (by decide) (qi_of H)
  · replace H := ite_n cc H
    refine g_iload_n (T_X7_isCut 11 _ _ _ rfl) rfl ?_
    refine g_iconst (T_X7_isCut 12 _ _ _ rfl) ⟨by decide, by decide⟩ ?_
    refine g_sipush (T_X7_isCut 13 _ _ _ rfl) (by decide) ?_
    obtain ⟨y4, h3, hq, H⟩ := bd_some H
    refine g_callSNi (M' := M_X11_isWithin) (av := [.inl x1, .inl 0, .inl 195]) (st := []) (T_X7_isCut 14 _ _ _ rfl) ml_X7_112 cb_X11_isWithin rfl (Nat.le_of_ble_eq_true rfl) (by omega) (R_X11_isWithin N _ _ _ _ _ hq) ?_
    refine g_if_eq (tgt := 35) (T_X7_isCut 15 _ _ _ rfl) (by decide) (fun cc => ?_) (fun cc => ?_)
    · replace H := ite_p cc H
      refine g_iconst (T_X7_isCut 21 _ _ _ rfl) ⟨by decide, by decide⟩ ?_
      exact g_zret (T_X7_isCut 22 _ _ _ rfl) rfl (by decide) (qi_of H)
    · replace H := ite_n cc H
      refine g_aload_n (T_X7_isCut 16 _ _ _ rfl) rfl ?_
      refine g_getR (c := 7) (r := 9) (T_X7_isCut 17 _ _ _ rfl) fl_X7_11 rfl (nR rfl) rfl (by decide) ?_
      refine g_iload_n (T_X7_isCut 18 _ _ _ rfl) rfl ?_
      obtain ⟨hg, H⟩ := grd_some H
      refine g_iald (c := 8) (T_X7_isCut 19 _ _ _ rfl) rfl hg ?_
      refine g_if_ne (tgt := 37) (T_X7_isCut 20 _ _ _ rfl) (by decide) (fun cc => ?_) (fun cc => ?_)
      · replace H := ite_n cc H
        refine g_iconst (T_X7_isCut 23 _ _ _ rfl) ⟨by decide, by decide⟩ ?_
        refine g_iload_n (T_X7_isCut 24 _ _ _ rfl) rfl ?_
        refine g_ishl (T_X7_isCut 25 _ _ _ rfl) ?_
        refine g_bndI H fun y5 H => ?_
        refine g_istore (T_X7_isCut 26 _ _ _ rfl) (by decide) ?_
        refine g_iconst (T_X7_isCut 27 _ _ _ rfl) ⟨by decide, by decide⟩ ?_
        refine g_istore (T_X7_isCut 28 _ _ _ rfl) (by decide) ?_
        refine g_weak [true, false, true, true, true, true, false] ?_
        refine R_L_X7_isCut_45 N   _ _ _ _ _ _ _ H
      · replace H := ite_p cc H
        refine g_iconst (T_X7_isCut 21 _ _ _ rfl) ⟨by decide, by decide⟩ ?_
        exact g_zret (T_X7_isCut 22 _ _ _ rfl) rfl (by decide) (qi_of H)
def L_X7_firstCut_2 (N : Nat) : Nat → Int → Hp → Option (Int × Hp)
  | 0, _, _ => none
  | n + 1, x1, h =>
    if 196 ≤ x1 then
      some ((-2), h)
    else
    bd (F_X7_isCut N x1 h) fun y2 h1 =>
    if y2 = 0 then
      bnd (w32 (x1 + 1)) fun y3 =>
      (L_X7_firstCut_2 N n) y3 h1
    else
    some (x1, h1)
set_option maxRecDepth 100000 in
set_option maxHeartbeats 4000000 in
theorem R_L_X7_firstCut_2 (N : Nat) : ∀ (n : Nat) (x1 : Int) (h : Hp) (res : Int × Hp), L_X7_firstCut_2 N n x1 h = some res → Go M_X7_firstCut 3 2 [some (.inr 8), some (.inl x1)] [] h (Qi res)
  | 0, _, _, _, H => by cases H
  | n + 1, x1, h, res, H => by
    have ih := R_L_X7_firstCut_2 N n
    simp only [L_X7_firstCut_2] at H
    refine g_iload_n (T_X7_firstCut 2 _ _ _ rfl) rfl ?_
    refine g_sipush (T_X7_firstCut 3 _ _ _ rfl) (by decide) ?_
    refine g_icmp_ge (tgt := 25) (T_X7_firstCut 4 _ _ _ rfl) (by decide) (fun cc => ?_) (fun cc => ?_)
    · replace H := ite_p cc H
      refine g_bipush (T_X7_firstCut 13 _ _ _ rfl) (by decide) ?_
      exact g_iret (T_X7_firstCut 14 _ _ _ rfl) rfl (qi_of H)
    · replace H := ite_n cc H
      refine g_aload_n (T_X7_firstCut 5 _ _ _ rfl) rfl ?_
      refine g_iload_n (T_X7_firstCut 6 _ _ _ rfl) rfl ?_
      obtain ⟨y2, h1, hq, H⟩ := bd_some H
      refine g_callVi (M' := M_X7_isCut) (c := 7) (av := [.inl x1]) (st := []) (T_X7_firstCut 7 _ _ _ rfl) ml_X7_109 cb_X7_isCut rfl rfl (Nat.le_of_ble_eq_true rfl) (by omega) (R_X7_isCut N _ _ _ hq) ?_
      refine g_if_eq (tgt := 19) (T_X7_firstCut 8 _ _ _ rfl) (by decide) (fun cc => ?_) (fun cc => ?_)
      · replace H := ite_p cc H
        refine g_iincB (T_X7_firstCut 11 _ _ _ rfl) rfl (by decide) H fun y3 H => ?_
        refine g_goto (tgt := 2) (T_X7_firstCut 12 _ _ _ rfl) (by decide) ?_
        refine g_weak [true, true] ?_
        exact ih _ _ _ H
      · replace H := ite_n cc H
        refine g_iload_n (T_X7_firstCut 9 _ _ _ rfl) rfl ?_
        exact g_iret (T_X7_firstCut 10 _ _ _ rfl) rfl (qi_of H)
def F_X7_firstCut (N : Nat) (h : Hp) : Option (Int × Hp) :=
  L_X7_firstCut_2 N  N 0 h
set_option maxRecDepth 100000 in
set_option maxHeartbeats 4000000 in
theorem R_X7_firstCut (N : Nat) (h : Hp) (res : Int × Hp) (H : F_X7_firstCut N h = some res) : Runs M_X7_firstCut 3 [.inr 8] h (Qi res) := by
  refine Runs.of rfl (Nat.le_of_ble_eq_true rfl) ?_
  show Go M_X7_firstCut 3 0 [some (.inr 8), none] [] h (Qi res)
  unfold F_X7_firstCut at H
  refine g_iconst (T_X7_firstCut 0 _ _ _ rfl) ⟨by decide, by decide⟩ ?_
  refine g_istore_n (T_X7_firstCut 1 _ _ _ rfl) (by decide) ?_
  refine g_weak [true, true] ?_
  refine R_L_X7_firstCut_2 N   _ _ _ _ H
def J_X7_countCuts_25 (N : Nat) (k4 : Int → Int → Hp → Option (Int × Hp)) (x2 : Int) (s0 : Int) (s1 : Int) (h : Hp) : Option (Int × Hp) :=
  bnd ((w32 (s0 + s1))) fun y1 =>
  bnd (w32 (x2 + 1)) fun y2 =>
  k4 y1 y2 h
set_option maxRecDepth 100000 in
set_option maxHeartbeats 4000000 in
theorem R_J_X7_countCuts_25 (N : Nat) (k4 : Int → Int → Hp → Option (Int × Hp)) (hk4 : ∀ (x1 : Int) (x2 : Int) (h : Hp) (res : Int × Hp), k4 x1 x2 h = some res → Go M_X7_countCuts 3 4 [some (.inr 8), some (.inl x1), some (.inl x2)] [] h (Qi res)) (x2 : Int) (s0 : Int) (s1 : Int) (h : Hp) (res : Int × Hp) (H : J_X7_countCuts_25 N k4 x2 s0 s1 h = some res) : Go M_X7_countCuts 3 25 [some (.inr 8), none, some (.inl x2)] [.inl s1, .inl s0] h (Qi res) := by
  unfold J_X7_countCuts_25 at H
  refine g_iadd (T_X7_countCuts 15 _ _ _ rfl) ?_
  refine g_bndI H fun y1 H => ?_
  refine g_istore_n (T_X7_countCuts 16 _ _ _ rfl) (by decide) ?_
  refine g_iincB (T_X7_countCuts 17 _ _ _ rfl) rfl (by decide) H fun y2 H => ?_
  refine g_goto (tgt := 4) (T_X7_countCuts 18 _ _ _ rfl) (by decide) ?_
  refine g_weak [true, true, true] ?_
  exact hk4 _ _ _ _ H
def L_X7_countCuts_4 (N : Nat) : Nat → Int → Int → Hp → Option (Int × Hp)
  | 0, _, _, _ => none
  | n + 1, x1, x2, h =>
    if 196 ≤ x2 then
      some (x1, h)
    else
    bd (F_X7_isCut N x2 h) fun y2 h1 =>
    if y2 = 0 then
      J_X7_countCuts_25 N (L_X7_countCuts_4 N n) x2 x1 0 h1
    else
    J_X7_countCuts_25 N (L_X7_countCuts_4 N n) x2 x1 1 h1
set_option maxRecDepth 100000 in
set_option maxHeartbeats 4000000 in
theorem R_L_X7_countCuts_4 (N : Nat) : ∀ (n : Nat) (x1 : Int) (x2 : Int) (h : Hp) (res : Int × Hp), L_X7_countCuts_4 N n x1 x2 h = some res → Go M_X7_countCuts 3 4 [some (.inr 8), some (.inl x1), some (.inl x2)] [] h (Qi res)
  | 0, _, _, _, _, H => by cases H
  | n + 1, x1, x2, h, res, H => by
    have ih := R_L_X7_countCuts_4 N n
    simp only [L_X7_countCuts_4] at H
    refine g_iload_n (T_X7_countCuts 4 _ _ _ rfl) rfl ?_
    refine g_sipush (T_X7_countCuts 5 _ _ _ rfl) (by decide) ?_
    refine g_icmp_ge (tgt := 33) (T_X7_countCuts 6 _ _ _ rfl) (by decide) (fun cc => ?_) (fun cc => ?_)
    · replace H := ite_p cc H
      refine g_iload_n (T_X7_countCuts 19 _ _ _ rfl) rfl ?_
      exact g_iret (T_X7_countCuts 20 _ _ _ rfl) rfl (qi_of H)
    · replace H := ite_n cc H
      refine g_iload_n (T_X7_countCuts 7 _ _ _ rfl) rfl ?_
      refine g_aload_n (T_X7_countCuts 8 _ _ _ rfl) rfl ?_
      refine g_iload_n (T_X7_countCuts 9 _ _ _ rfl) rfl ?_
      obtain ⟨y2, h1, hq, H⟩ := bd_some H
      refine g_callVi (M' := M_X7_isCut) (c := 7) (av := [.inl x2]) (st := [.inl x1]) (T_X7_countCuts 10 _ _ _ rfl) ml_X7_109 cb_X7_isCut rfl rfl (Nat.le_of_ble_eq_true rfl) (by omega) (R_X7_isCut N _ _ _ hq) ?_
      refine g_if_eq (tgt := 24) (T_X7_countCuts 11 _ _ _ rfl) (by decide) (fun cc => ?_) (fun cc => ?_)
      · replace H := ite_p cc H
        refine g_iconst (T_X7_countCuts 14 _ _ _ rfl) ⟨by decide, by decide⟩ ?_
        refine g_weak [true, false, true] ?_
        exact R_J_X7_countCuts_25 N (L_X7_countCuts_4 N n) ih _ _ _ _ _ H
      · replace H := ite_n cc H
        refine g_iconst (T_X7_countCuts 12 _ _ _ rfl) ⟨by decide, by decide⟩ ?_
        refine g_goto (tgt := 25) (T_X7_countCuts 13 _ _ _ rfl) (by decide) ?_
        refine g_weak [true, false, true] ?_
        exact R_J_X7_countCuts_25 N (L_X7_countCuts_4 N n) ih _ _ _ _ _ H
def F_X7_countCuts (N : Nat) (h : Hp) : Option (Int × Hp) :=
  L_X7_countCuts_4 N  N 0 0 h
set_option maxRecDepth 100000 in
set_option maxHeartbeats 4000000 in
theorem R_X7_countCuts (N : Nat) (h : Hp) (res : Int × Hp) (H : F_X7_countCuts N h = some res) : Runs M_X7_countCuts 3 [.inr 8] h (Qi res) := by
  refine Runs.of rfl (Nat.le_of_ble_eq_true rfl) ?_
  show Go M_X7_countCuts 3 0 [some (.inr 8), none, none] [] h (Qi res)
  unfold F_X7_countCuts at H
  refine g_iconst (T_X7_countCuts 0 _ _ _ rfl) ⟨by decide, by decide⟩ ?_
  refine g_istore_n (T_X7_countCuts 1 _ _ _ rfl) (by decide) ?_
  refine g_iconst (T_X7_countCuts 2 _ _ _ rfl) ⟨by decide, by decide⟩ ?_
  refine g_istore_n (T_X7_countCuts 3 _ _ _ rfl) (by decide) ?_
  refine g_weak [true, true, true] ?_
  refine R_L_X7_countCuts_4 N   _ _ _ _ _ H
def F_X11_cut (N : Nat) (x1 : Int) (h : Hp) : Option (Int × Hp) :=
  bd (F_X11_isWithin N x1 0 2 h) fun y2 h1 =>
  if y2 = 0 then
    some ((-1), h1)
  else
  if x1 = 0 then
    bd (F_X7_countCuts N h1) fun y6 h5 =>
    some (y6, h5)
  else
  bd (F_X7_firstCut N h1) fun y4 h3 =>
  if 0 ≤ y4 then
    if x1 = 1 then
      some ((idiv y4 14), h3)
    else
    some ((irem y4 14), h3)
  else
  some ((-2), h3)
set_option maxRecDepth 100000 in
set_option maxHeartbeats 4000000 in
theorem R_X11_cut (N : Nat) (x1 : Int) (h : Hp) (res : Int × Hp) (H : F_X11_cut N x1 h = some res) : Runs M_X11_cut 4 [.inr 1, .inl x1] h (Qi res) := by
  refine Runs.of rfl (Nat.le_of_ble_eq_true rfl) ?_
  show Go M_X11_cut 4 0 [some (.inr 1), some (.inl x1), none] [] h (Qi res)
  unfold F_X11_cut at H
  refine g_iload_n (T_X11_cut 0 _ _ _ rfl) rfl ?_
  refine g_iconst (T_X11_cut 1 _ _ _ rfl) ⟨by decide, by decide⟩ ?_
  refine g_iconst (T_X11_cut 2 _ _ _ rfl) ⟨by decide, by decide⟩ ?_
  obtain ⟨y2, h1, hq, H⟩ := bd_some H
  refine g_callSi (M' := M_X11_isWithin) (av := [.inl x1, .inl 0, .inl 2]) (st := []) (T_X11_cut 3 _ _ _ rfl) ml_X11_96 cb_X11_isWithin rfl (Nat.le_of_ble_eq_true rfl) (by omega) (R_X11_isWithin N _ _ _ _ _ hq) ?_
  refine g_if_ne (tgt := 11) (T_X11_cut 4 _ _ _ rfl) (by decide) (fun cc => ?_) (fun cc => ?_)
  · replace H := ite_n cc H
    refine g_iload_n (T_X11_cut 7 _ _ _ rfl) rfl ?_
    refine g_if_ne (tgt := 23) (T_X11_cut 8 _ _ _ rfl) (by decide) (fun cc => ?_) (fun cc => ?_)
    · replace H := ite_n cc H
      refine g_aload_n (T_X11_cut 13 _ _ _ rfl) rfl ?_
      refine g_getR (c := 0) (r := 8) (T_X11_cut 14 _ _ _ rfl) fl_X11_32 rfl (nR rfl) rfl (by decide) ?_
      obtain ⟨y4, h3, hq, H⟩ := bd_some H
      refine g_callVi (M' := M_X7_firstCut) (c := 7) (av := []) (st := []) (T_X11_cut 15 _ _ _ rfl) ml_X11_264 cb_X7_firstCut rfl rfl (Nat.le_of_ble_eq_true rfl) (by omega) (R_X7_firstCut N _ _ hq) ?_
      refine g_istore_n (T_X11_cut 16 _ _ _ rfl) (by decide) ?_
      refine g_iload_n (T_X11_cut 17 _ _ _ rfl) rfl ?_
      refine g_if_ge (tgt := 38) (T_X11_cut 18 _ _ _ rfl) (by decide) (fun cc => ?_) (fun cc => ?_)
      · replace H := ite_p cc H
        refine g_iload_n (T_X11_cut 21 _ _ _ rfl) rfl ?_
        refine g_iconst (T_X11_cut 22 _ _ _ rfl) ⟨by decide, by decide⟩ ?_
        refine g_icmp_ne (tgt := 50) (T_X11_cut 23 _ _ _ rfl) (by decide) (fun cc => ?_) (fun cc => ?_)
        · replace H := ite_n cc H
          refine g_iload_n (T_X11_cut 28 _ _ _ rfl) rfl ?_
          refine g_bipush (T_X11_cut 29 _ _ _ rfl) (by decide) ?_
          refine g_irem (T_X11_cut 30 _ _ _ rfl) (by decide) ?_
          exact g_iret (T_X11_cut 31 _ _ _ rfl) rfl (qi_of H)
        · replace H := ite_p cc H
          refine g_iload_n (T_X11_cut 24 _ _ _ rfl) rfl ?_
          refine g_bipush (T_X11_cut 25 _ _ _ rfl) (by decide) ?_
          refine g_idiv (T_X11_cut 26 _ _ _ rfl) (by decide) ?_
          refine g_goto (tgt := 54) (T_X11_cut 27 _ _ _ rfl) (by decide) ?_
          exact g_iret (T_X11_cut 31 _ _ _ rfl) rfl (qi_of H)
      · replace H := ite_n cc H
        refine g_bipush (T_X11_cut 19 _ _ _ rfl) (by decide) ?_
        exact g_iret (T_X11_cut 20 _ _ _ rfl) rfl (qi_of H)
    · replace H := ite_p cc H
      refine g_aload_n (T_X11_cut 9 _ _ _ rfl) rfl ?_
      refine g_getR (c := 0) (r := 8) (T_X11_cut 10 _ _ _ rfl) fl_X11_32 rfl (nR rfl) rfl (by decide) ?_
      obtain ⟨y6, h5, hq, H⟩ := bd_some H
      refine g_callVi (M' := M_X7_countCuts) (c := 7) (av := []) (st := []) (T_X11_cut 11 _ _ _ rfl) ml_X11_261 cb_X7_countCuts rfl rfl (Nat.le_of_ble_eq_true rfl) (by omega) (R_X7_countCuts N _ _ hq) ?_
      exact g_iret (T_X11_cut 12 _ _ _ rfl) rfl (qi_of H)
  · replace H := ite_p cc H
    refine g_iconst (T_X11_cut 5 _ _ _ rfl) ⟨by decide, by decide⟩ ?_
    exact g_iret (T_X11_cut 6 _ _ _ rfl) rfl (qi_of H)
def F_X11_strike (N : Nat) (x1 : Int) (h : Hp) : Option (Int × Hp) :=
  bd (F_X1_night N h) fun y2 h1 =>
  if 9999 ≤ y2 then
    some ((-1), h1)
  else
  bd (F_X11_isWithin N x1 0 600 h1) fun y4 h3 =>
  if y4 = 0 then
    some ((-1), h3)
  else
  bv (F_X11_sendCarts N x1 h3) fun h5 =>
  bv (F_X5_goThrough N h5) fun h6 =>
  bd (F_X5_slept N h6) fun y8 h7 =>
  some (y8, h7)
set_option maxRecDepth 100000 in
set_option maxHeartbeats 4000000 in
theorem R_X11_strike (N : Nat) (x1 : Int) (h : Hp) (res : Int × Hp) (H : F_X11_strike N x1 h = some res) : Runs M_X11_strike 8 [.inr 1, .inl x1] h (Qi res) := by
  refine Runs.of rfl (Nat.le_of_ble_eq_true rfl) ?_
  show Go M_X11_strike 8 0 [some (.inr 1), some (.inl x1)] [] h (Qi res)
  unfold F_X11_strike at H
  refine g_aload_n (T_X11_strike 0 _ _ _ rfl) rfl ?_
  refine g_getR (c := 0) (r := 2) (T_X11_strike 1 _ _ _ rfl) fl_X11_28 rfl (nR rfl) rfl (by decide) ?_
  obtain ⟨y2, h1, hq, H⟩ := bd_some H
  refine g_callVi (M' := M_X1_night) (c := 1) (av := []) (st := []) (T_X11_strike 2 _ _ _ rfl) ml_X11_165 cb_X1_night rfl rfl (Nat.le_of_ble_eq_true rfl) (by omega) (R_X1_night N _ _ hq) ?_
  refine g_sipush (T_X11_strike 3 _ _ _ rfl) (by decide) ?_
  refine g_icmp_ge (tgt := 24) (T_X11_strike 4 _ _ _ rfl) (by decide) (fun cc => ?_) (fun cc => ?_)
  · replace H := ite_p cc H
    refine g_iconst (T_X11_strike 10 _ _ _ rfl) ⟨by decide, by decide⟩ ?_
    exact g_iret (T_X11_strike 11 _ _ _ rfl) rfl (qi_of H)
  · replace H := ite_n cc H
    refine g_iload_n (T_X11_strike 5 _ _ _ rfl) rfl ?_
    refine g_iconst (T_X11_strike 6 _ _ _ rfl) ⟨by decide, by decide⟩ ?_
    refine g_sipush (T_X11_strike 7 _ _ _ rfl) (by decide) ?_
    obtain ⟨y4, h3, hq, H⟩ := bd_some H
    refine g_callSi (M' := M_X11_isWithin) (av := [.inl x1, .inl 0, .inl 600]) (st := []) (T_X11_strike 8 _ _ _ rfl) ml_X11_96 cb_X11_isWithin rfl (Nat.le_of_ble_eq_true rfl) (by omega) (R_X11_isWithin N _ _ _ _ _ hq) ?_
    refine g_if_ne (tgt := 26) (T_X11_strike 9 _ _ _ rfl) (by decide) (fun cc => ?_) (fun cc => ?_)
    · replace H := ite_n cc H
      refine g_aload_n (T_X11_strike 12 _ _ _ rfl) rfl ?_
      refine g_iload_n (T_X11_strike 13 _ _ _ rfl) rfl ?_
      obtain ⟨h5, hq, H⟩ := bv_some H
      refine g_callVv (M' := M_X11_sendCarts) (c := 0) (av := [.inl x1]) (st := []) (T_X11_strike 14 _ _ _ rfl) ml_X11_167 cb_X11_sendCarts rfl rfl (Nat.le_of_ble_eq_true rfl) (by omega) (R_X11_sendCarts N _ _ _ hq) ?_
      refine g_aload_n (T_X11_strike 15 _ _ _ rfl) rfl ?_
      refine g_getR (c := 0) (r := 58) (T_X11_strike 16 _ _ _ rfl) fl_X11_60 rfl (nR rfl) rfl (by decide) ?_
      obtain ⟨h6, hq, H⟩ := bv_some H
      refine g_callVv (M' := M_X5_goThrough) (c := 57) (av := []) (st := []) (T_X11_strike 17 _ _ _ rfl) ml_X11_170 cb_X5_goThrough rfl rfl (Nat.le_of_ble_eq_true rfl) (by omega) (R_X5_goThrough N _ _ hq) ?_
      refine g_aload_n (T_X11_strike 18 _ _ _ rfl) rfl ?_
      refine g_getR (c := 0) (r := 58) (T_X11_strike 19 _ _ _ rfl) fl_X11_60 rfl (nR rfl) rfl (by decide) ?_
      obtain ⟨y8, h7, hq, H⟩ := bd_some H
      refine g_callVi (M' := M_X5_slept) (c := 57) (av := []) (st := []) (T_X11_strike 20 _ _ _ rfl) ml_X11_173 cb_X5_slept rfl rfl (Nat.le_of_ble_eq_true rfl) (by omega) (R_X5_slept N _ _ hq) ?_
      exact g_iret (T_X11_strike 21 _ _ _ rfl) rfl (qi_of H)
    · replace H := ite_p cc H
      refine g_iconst (T_X11_strike 10 _ _ _ rfl) ⟨by decide, by decide⟩ ?_
      exact g_iret (T_X11_strike 11 _ _ _ rfl) rfl (qi_of H)
def L_X5_sleepsThrough_22 (N : Nat) : Nat → Int → Int → Int → Hp → Option (Int × Hp)
  | 0, _, _, _, _ => none
  | n + 1, x1, x3, x4, h =>
    if 10 ≤ x4 then
      grd (x3 = 0 ∨ x3 = 1) <|
      some (x3, h)
    else
    if x3 = 0 then
      grd (x3 = 0 ∨ x3 = 1) <|
      some (x3, h)
    else
    bd (F_X5_sleepsAfter N x4 x1 h) fun y2 h1 =>
    bnd (w32 (x4 + 1)) fun y3 =>
    (L_X5_sleepsThrough_22 N n) x1 y2 y3 h1
set_option maxRecDepth 100000 in
set_option maxHeartbeats 4000000 in
theorem R_L_X5_sleepsThrough_22 (N : Nat) : ∀ (n : Nat) (x1 : Int) (x3 : Int) (x4 : Int) (h : Hp) (res : Int × Hp), L_X5_sleepsThrough_22 N n x1 x3 x4 h = some res → Go M_X5_sleepsThrough 7 22 [some (.inr 58), some (.inl x1), none, some (.inl x3), some (.inl x4)] [] h (Qi res)
  | 0, _, _, _, _, _, H => by cases H
  | n + 1, x1, x3, x4, h, res, H => by
    have ih := R_L_X5_sleepsThrough_22 N n
    simp only [L_X5_sleepsThrough_22] at H
    refine g_iload (T_X5_sleepsThrough 14 _ _ _ rfl) rfl ?_
    refine g_bipush (T_X5_sleepsThrough 15 _ _ _ rfl) (by decide) ?_
    refine g_icmp_ge (tgt := 47) (T_X5_sleepsThrough 16 _ _ _ rfl) (by decide) (fun cc => ?_) (fun cc => ?_)
    · replace H := ite_p cc H
      refine g_iload_n (T_X5_sleepsThrough 26 _ _ _ rfl) rfl ?_
      obtain ⟨hg, H⟩ := grd_some H
      exact g_zret (T_X5_sleepsThrough 27 _ _ _ rfl) rfl hg (qi_of H)
    · replace H := ite_n cc H
      refine g_iload_n (T_X5_sleepsThrough 17 _ _ _ rfl) rfl ?_
      refine g_if_eq (tgt := 47) (T_X5_sleepsThrough 18 _ _ _ rfl) (by decide) (fun cc => ?_) (fun cc => ?_)
      · replace H := ite_p cc H
        refine g_iload_n (T_X5_sleepsThrough 26 _ _ _ rfl) rfl ?_
        obtain ⟨hg, H⟩ := grd_some H
        exact g_zret (T_X5_sleepsThrough 27 _ _ _ rfl) rfl hg (qi_of H)
      · replace H := ite_n cc H
        refine g_aload_n (T_X5_sleepsThrough 19 _ _ _ rfl) rfl ?_
        refine g_iload (T_X5_sleepsThrough 20 _ _ _ rfl) rfl ?_
        refine g_iload_n (T_X5_sleepsThrough 21 _ _ _ rfl) rfl ?_
        obtain ⟨y2, h1, hq, H⟩ := bd_some H
        refine g_callVi (M' := M_X5_sleepsAfter) (c := 57) (av := [.inl x4, .inl x1]) (st := []) (T_X5_sleepsThrough 22 _ _ _ rfl) ml_X5_96 cb_X5_sleepsAfter rfl rfl (Nat.le_of_ble_eq_true rfl) (by omega) (R_X5_sleepsAfter N _ _ _ _ hq) ?_
        refine g_istore_n (T_X5_sleepsThrough 23 _ _ _ rfl) (by decide) ?_
        refine g_iincB (T_X5_sleepsThrough 24 _ _ _ rfl) rfl (by decide) H fun y3 H => ?_
        refine g_goto (tgt := 22) (T_X5_sleepsThrough 25 _ _ _ rfl) (by decide) ?_
        refine g_weak [true, true, false, true, true] ?_
        exact ih _ _ _ _ _ H
def F_X5_sleepsThrough (N : Nat) (x1 : Int) (x2 : Int) (h : Hp) : Option (Int × Hp) :=
  bd (F_X11_isWithin N x1 0 13 h) fun y2 h1 =>
  if y2 = 0 then
    L_X5_sleepsThrough_22 N  N x1 y2 0 h1
  else
  grd (0 ≤ x1 ∧ x1 < 14) <|
  bnd (hw h1 58 x1.toNat x2) fun h3 =>
  L_X5_sleepsThrough_22 N  N x1 y2 0 h3
set_option maxRecDepth 100000 in
set_option maxHeartbeats 4000000 in
theorem R_X5_sleepsThrough (N : Nat) (x1 : Int) (x2 : Int) (h : Hp) (res : Int × Hp) (H : F_X5_sleepsThrough N x1 x2 h = some res) : Runs M_X5_sleepsThrough 7 [.inr 58, .inl x1, .inl x2] h (Qi res) := by
  refine Runs.of rfl (Nat.le_of_ble_eq_true rfl) ?_
  show Go M_X5_sleepsThrough 7 0 [some (.inr 58), some (.inl x1), some (.inl x2), none, none] [] h (Qi res)
  unfold F_X5_sleepsThrough at H
  refine g_iload_n (T_X5_sleepsThrough 0 _ _ _ rfl) rfl ?_
  refine g_iconst (T_X5_sleepsThrough 1 _ _ _ rfl) ⟨by decide, by decide⟩ ?_
  refine g_bipush (T_X5_sleepsThrough 2 _ _ _ rfl) (by decide) ?_
  obtain ⟨y2, h1, hq, H⟩ := bd_some H
  refine g_callSNi (M' := M_X11_isWithin) (av := [.inl x1, .inl 0, .inl 13]) (st := []) (T_X5_sleepsThrough 3 _ _ _ rfl) ml_X5_69 cb_X11_isWithin rfl (Nat.le_of_ble_eq_true rfl) (by omega) (R_X11_isWithin N _ _ _ _ _ hq) ?_
  refine g_istore_n (T_X5_sleepsThrough 4 _ _ _ rfl) (by decide) ?_
  refine g_iload_n (T_X5_sleepsThrough 5 _ _ _ rfl) rfl ?_
  refine g_if_eq (tgt := 19) (T_X5_sleepsThrough 6 _ _ _ rfl) (by decide) (fun cc => ?_) (fun cc => ?_)
  · replace H := ite_p cc H
    refine g_iconst (T_X5_sleepsThrough 12 _ _ _ rfl) ⟨by decide, by decide⟩ ?_
    refine g_istore (T_X5_sleepsThrough 13 _ _ _ rfl) (by decide) ?_
    refine g_weak [true, true, false, true, true] ?_
    refine R_L_X5_sleepsThrough_22 N   _ _ _ _ _ _ H
  · replace H := ite_n cc H
    refine g_aload_n (T_X5_sleepsThrough 7 _ _ _ rfl) rfl ?_
    refine g_getR (c := 57) (r := 59) (T_X5_sleepsThrough 8 _ _ _ rfl) fl_X5_11 rfl (nR rfl) rfl (by decide) ?_
    refine g_iload_n (T_X5_sleepsThrough 9 _ _ _ rfl) rfl ?_
    refine g_iload_n (T_X5_sleepsThrough 10 _ _ _ rfl) rfl ?_
    obtain ⟨hg, H⟩ := grd_some H
    refine g_iast (c := 58) (T_X5_sleepsThrough 11 _ _ _ rfl) rfl hg ?_
    refine g_bndH H fun h3 H => ?_
    refine g_iconst (T_X5_sleepsThrough 12 _ _ _ rfl) ⟨by decide, by decide⟩ ?_
    refine g_istore (T_X5_sleepsThrough 13 _ _ _ rfl) (by decide) ?_
    refine g_weak [true, true, false, true, true] ?_
    refine R_L_X5_sleepsThrough_22 N   _ _ _ _ _ _ H
def L_X11_enough_28 (N : Nat) : Nat → Int → Int → Int → Hp → Option (Int × Hp)
  | 0, _, _, _, _ => none
  | n + 1, x1, x2, x3, h =>
    if x2 < x3 then
      some ((-2), h)
    else
    bd (F_X1_depthOf N x1 h) fun y2 h1 =>
    bd (F_X5_sleepsThrough N x1 (w32 (y2 + x3)) h1) fun y4 h3 =>
    if y4 = 0 then
      bnd (w32 (x3 + 1)) fun y5 =>
      (L_X11_enough_28 N n) x1 x2 y5 h3
    else
    some (x3, h3)
set_option maxRecDepth 100000 in
set_option maxHeartbeats 4000000 in
theorem R_L_X11_enough_28 (N : Nat) : ∀ (n : Nat) (x1 : Int) (x2 : Int) (x3 : Int) (h : Hp) (res : Int × Hp), L_X11_enough_28 N n x1 x2 x3 h = some res → Go M_X11_enough 8 28 [some (.inr 1), some (.inl x1), some (.inl x2), some (.inl x3)] [] h (Qi res)
  | 0, _, _, _, _, _, H => by cases H
  | n + 1, x1, x2, x3, h, res, H => by
    have ih := R_L_X11_enough_28 N n
    simp only [L_X11_enough_28] at H
    refine g_iload_n (T_X11_enough 16 _ _ _ rfl) rfl ?_
    refine g_iload_n (T_X11_enough 17 _ _ _ rfl) rfl ?_
    refine g_icmp_gt (tgt := 62) (T_X11_enough 18 _ _ _ rfl) (by decide) (fun cc => ?_) (fun cc => ?_)
    · replace H := ite_p cc H
      refine g_bipush (T_X11_enough 34 _ _ _ rfl) (by decide) ?_
      exact g_iret (T_X11_enough 35 _ _ _ rfl) rfl (qi_of H)
    · replace H := ite_n cc H
      refine g_aload_n (T_X11_enough 19 _ _ _ rfl) rfl ?_
      refine g_getR (c := 0) (r := 58) (T_X11_enough 20 _ _ _ rfl) fl_X11_60 rfl (nR rfl) rfl (by decide) ?_
      refine g_iload_n (T_X11_enough 21 _ _ _ rfl) rfl ?_
      refine g_aload_n (T_X11_enough 22 _ _ _ rfl) rfl ?_
      refine g_getR (c := 0) (r := 2) (T_X11_enough 23 _ _ _ rfl) fl_X11_28 rfl (nR rfl) rfl (by decide) ?_
      refine g_iload_n (T_X11_enough 24 _ _ _ rfl) rfl ?_
      obtain ⟨y2, h1, hq, H⟩ := bd_some H
      refine g_callVi (M' := M_X1_depthOf) (c := 1) (av := [.inl x1]) (st := [.inl x1, .inr 58]) (T_X11_enough 25 _ _ _ rfl) ml_X11_267 cb_X1_depthOf rfl rfl (Nat.le_of_ble_eq_true rfl) (by omega) (R_X1_depthOf N _ _ _ hq) ?_
      refine g_iload_n (T_X11_enough 26 _ _ _ rfl) rfl ?_
      refine g_iadd (T_X11_enough 27 _ _ _ rfl) ?_
      obtain ⟨y4, h3, hq, H⟩ := bd_some H
      refine g_callVi (M' := M_X5_sleepsThrough) (c := 57) (av := [.inl x1, .inl (w32 (y2 + x3))]) (st := []) (T_X11_enough 28 _ _ _ rfl) ml_X11_268 cb_X5_sleepsThrough rfl rfl (Nat.le_of_ble_eq_true rfl) (by omega) (R_X5_sleepsThrough N _ _ _ _ hq) ?_
      refine g_if_eq (tgt := 56) (T_X11_enough 29 _ _ _ rfl) (by decide) (fun cc => ?_) (fun cc => ?_)
      · replace H := ite_p cc H
        refine g_iincB (T_X11_enough 32 _ _ _ rfl) rfl (by decide) H fun y5 H => ?_
        refine g_goto (tgt := 28) (T_X11_enough 33 _ _ _ rfl) (by decide) ?_
        refine g_weak [true, true, true, true] ?_
        exact ih _ _ _ _ _ H
      · replace H := ite_n cc H
        refine g_iload_n (T_X11_enough 30 _ _ _ rfl) rfl ?_
        exact g_iret (T_X11_enough 31 _ _ _ rfl) rfl (qi_of H)
def F_X11_enough (N : Nat) (x1 : Int) (h : Hp) : Option (Int × Hp) :=
  bd (F_X1_isTold N x1 h) fun y2 h1 =>
  if y2 = 0 then
    some ((-1), h1)
  else
  bd (F_X1_depthOf N x1 h1) fun y4 h3 =>
  bnd ((w32 (999 - y4))) fun y5 =>
  L_X11_enough_28 N  N x1 y5 0 h3
set_option maxRecDepth 100000 in
set_option maxHeartbeats 4000000 in
theorem R_X11_enough (N : Nat) (x1 : Int) (h : Hp) (res : Int × Hp) (H : F_X11_enough N x1 h = some res) : Runs M_X11_enough 8 [.inr 1, .inl x1] h (Qi res) := by
  refine Runs.of rfl (Nat.le_of_ble_eq_true rfl) ?_
  show Go M_X11_enough 8 0 [some (.inr 1), some (.inl x1), none, none] [] h (Qi res)
  unfold F_X11_enough at H
  refine g_aload_n (T_X11_enough 0 _ _ _ rfl) rfl ?_
  refine g_getR (c := 0) (r := 2) (T_X11_enough 1 _ _ _ rfl) fl_X11_28 rfl (nR rfl) rfl (by decide) ?_
  refine g_iload_n (T_X11_enough 2 _ _ _ rfl) rfl ?_
  obtain ⟨y2, h1, hq, H⟩ := bd_some H
  refine g_callVi (M' := M_X1_isTold) (c := 1) (av := [.inl x1]) (st := []) (T_X11_enough 3 _ _ _ rfl) ml_X11_112 cb_X1_isTold rfl rfl (Nat.le_of_ble_eq_true rfl) (by omega) (R_X1_isTold N _ _ _ hq) ?_
  refine g_if_ne (tgt := 13) (T_X11_enough 4 _ _ _ rfl) (by decide) (fun cc => ?_) (fun cc => ?_)
  · replace H := ite_n cc H
    refine g_sipush (T_X11_enough 7 _ _ _ rfl) (by decide) ?_
    refine g_aload_n (T_X11_enough 8 _ _ _ rfl) rfl ?_
    refine g_getR (c := 0) (r := 2) (T_X11_enough 9 _ _ _ rfl) fl_X11_28 rfl (nR rfl) rfl (by decide) ?_
    refine g_iload_n (T_X11_enough 10 _ _ _ rfl) rfl ?_
    obtain ⟨y4, h3, hq, H⟩ := bd_some H
    refine g_callVi (M' := M_X1_depthOf) (c := 1) (av := [.inl x1]) (st := [.inl 999]) (T_X11_enough 11 _ _ _ rfl) ml_X11_267 cb_X1_depthOf rfl rfl (Nat.le_of_ble_eq_true rfl) (by omega) (R_X1_depthOf N _ _ _ hq) ?_
    refine g_isub (T_X11_enough 12 _ _ _ rfl) ?_
    refine g_bndI H fun y5 H => ?_
    refine g_istore_n (T_X11_enough 13 _ _ _ rfl) (by decide) ?_
    refine g_iconst (T_X11_enough 14 _ _ _ rfl) ⟨by decide, by decide⟩ ?_
    refine g_istore_n (T_X11_enough 15 _ _ _ rfl) (by decide) ?_
    refine g_weak [true, true, true, true] ?_
    refine R_L_X11_enough_28 N   _ _ _ _ _ _ H
  · replace H := ite_p cc H
    refine g_iconst (T_X11_enough 5 _ _ _ rfl) ⟨by decide, by decide⟩ ?_
    exact g_iret (T_X11_enough 6 _ _ _ rfl) rfl (qi_of H)
def F_X0_planOneStop (N : Nat) (t : Nat) (x1 : Int) (x2 : Int) (h : Hp) : Option (Hp) :=
  bnd (hw h t 3 0) fun h1 =>
  bv (F_X0_addStop N t 1 0 x1 h1) fun h2 =>
  bv (F_X0_addStop N t 0 x2 x1 h2) fun h3 =>
  some h3
set_option maxRecDepth 100000 in
set_option maxHeartbeats 4000000 in
theorem R_X0_planOneStop (N : Nat) (t : Nat) (ht : isCart t) (x1 : Int) (x2 : Int) (h : Hp) (res : Hp) (H : F_X0_planOneStop N t x1 x2 h = some res) : Runs M_X0_planOneStop 2 [.inr (t + 1), .inl x1, .inl x2] h (Qv res) := by
  refine Runs.of rfl (Nat.le_of_ble_eq_true rfl) ?_
  show Go M_X0_planOneStop 2 0 [some (.inr (t + 1)), some (.inl x1), some (.inl x2)] [] h (Qv res)
  unfold F_X0_planOneStop at H
  refine g_aload_n (T_X0_planOneStop 0 _ _ _ rfl) rfl ?_
  refine g_iconst (T_X0_planOneStop 1 _ _ _ rfl) ⟨by decide, by decide⟩ ?_
  refine g_put (c := t) (T_X0_planOneStop 2 _ _ _ rfl) fl_X0_26 ht.2.1 (Or.inl rfl) ?_
  refine g_bndH H fun h1 H => ?_
  refine g_aload_n (T_X0_planOneStop 3 _ _ _ rfl) rfl ?_
  refine g_iconst (T_X0_planOneStop 4 _ _ _ rfl) ⟨by decide, by decide⟩ ?_
  refine g_iconst (T_X0_planOneStop 5 _ _ _ rfl) ⟨by decide, by decide⟩ ?_
  refine g_iload_n (T_X0_planOneStop 6 _ _ _ rfl) rfl ?_
  obtain ⟨h2, hq, H⟩ := bv_some H
  refine g_callVv (M' := M_X0_addStop) (c := t) (av := [.inl 1, .inl 0, .inl x1]) (st := []) (T_X0_planOneStop 7 _ _ _ rfl) ml_X0_74 cb_X0_addStop ht.2.1 rfl (Nat.le_of_ble_eq_true rfl) (by omega) (R_X0_addStop N t ht _ _ _ _ _ hq) ?_
  refine g_aload_n (T_X0_planOneStop 8 _ _ _ rfl) rfl ?_
  refine g_iconst (T_X0_planOneStop 9 _ _ _ rfl) ⟨by decide, by decide⟩ ?_
  refine g_iload_n (T_X0_planOneStop 10 _ _ _ rfl) rfl ?_
  refine g_iload_n (T_X0_planOneStop 11 _ _ _ rfl) rfl ?_
  obtain ⟨h3, hq, H⟩ := bv_some H
  refine g_callVv (M' := M_X0_addStop) (c := t) (av := [.inl 0, .inl x2, .inl x1]) (st := []) (T_X0_planOneStop 12 _ _ _ rfl) ml_X0_74 cb_X0_addStop ht.2.1 rfl (Nat.le_of_ble_eq_true rfl) (by omega) (R_X0_addStop N t ht _ _ _ _ _ hq) ?_
  exact g_vret (T_X0_planOneStop 13 _ _ _ rfl) rfl (qv_of H)
def F_X5_send_v2 (N : Nat) (x1 : Int) (x3 : Int) (h : Hp) : Option (Hp) :=
  bd (F_X11_isWithin N x1 0 4 h) fun y2 h1 =>
  if y2 = 0 then
    some h1
  else
  grd ((0 ≤ x1 ∧ x1 < 5) ∧ refOK 54) <|
  bnd (hw h1 59 x1.toNat (54 : Int)) fun h3 =>
  grd (0 ≤ x1 ∧ x1 < 5) <|
  bnd (hw h3 61 x1.toNat 0) fun h4 =>
  bv (F_X5_goOn N x1 0 x3 h4) fun h5 =>
  some h5
set_option maxRecDepth 100000 in
set_option maxHeartbeats 4000000 in
theorem R_X5_send_v2 (N : Nat) (x1 : Int) (x3 : Int) (h : Hp) (res : Hp) (H : F_X5_send_v2 N x1 x3 h = some res) : Runs M_X5_send 4 [.inr 58, .inl x1, .inr 54, .inl x3] h (Qv res) := by
  refine Runs.of rfl (Nat.le_of_ble_eq_true rfl) ?_
  show Go M_X5_send 4 0 [some (.inr 58), some (.inl x1), some (.inr 54), some (.inl x3)] [] h (Qv res)
  unfold F_X5_send_v2 at H
  refine g_iload_n (T_X5_send 0 _ _ _ rfl) rfl ?_
  refine g_iconst (T_X5_send 1 _ _ _ rfl) ⟨by decide, by decide⟩ ?_
  refine g_iconst (T_X5_send 2 _ _ _ rfl) ⟨by decide, by decide⟩ ?_
  obtain ⟨y2, h1, hq, H⟩ := bd_some H
  refine g_callSNi (M' := M_X11_isWithin) (av := [.inl x1, .inl 0, .inl 4]) (st := []) (T_X5_send 3 _ _ _ rfl) ml_X5_69 cb_X11_isWithin rfl (Nat.le_of_ble_eq_true rfl) (by omega) (R_X11_isWithin N _ _ _ _ _ hq) ?_
  refine g_if_eq (tgt := 30) (T_X5_send 4 _ _ _ rfl) (by decide) (fun cc => ?_) (fun cc => ?_)
  · replace H := ite_p cc H
    exact g_vret (T_X5_send 20 _ _ _ rfl) rfl (qv_of H)
  · replace H := ite_n cc H
    refine g_aload_n (T_X5_send 5 _ _ _ rfl) rfl ?_
    refine g_getR (c := 57) (r := 60) (T_X5_send 6 _ _ _ rfl) fl_X5_19 rfl (nR rfl) rfl (by decide) ?_
    refine g_iload_n (T_X5_send 7 _ _ _ rfl) rfl ?_
    refine g_aload_n (T_X5_send 8 _ _ _ rfl) rfl ?_
    obtain ⟨hg, H⟩ := grd_some H
    refine g_aast (c := 59) (T_X5_send 9 _ _ _ rfl) rfl hg.1 (refOK_spec hg.2) ?_
    refine g_bndH H fun h3 H => ?_
    refine g_aload_n (T_X5_send 10 _ _ _ rfl) rfl ?_
    refine g_getR (c := 57) (r := 62) (T_X5_send 11 _ _ _ rfl) fl_X5_26 rfl (nR rfl) rfl (by decide) ?_
    refine g_iload_n (T_X5_send 12 _ _ _ rfl) rfl ?_
    refine g_iconst (T_X5_send 13 _ _ _ rfl) ⟨by decide, by decide⟩ ?_
    obtain ⟨hg, H⟩ := grd_some H
    refine g_iast (c := 61) (T_X5_send 14 _ _ _ rfl) rfl hg ?_
    refine g_bndH H fun h4 H => ?_
    refine g_aload_n (T_X5_send 15 _ _ _ rfl) rfl ?_
    refine g_iload_n (T_X5_send 16 _ _ _ rfl) rfl ?_
    refine g_iconst (T_X5_send 17 _ _ _ rfl) ⟨by decide, by decide⟩ ?_
    refine g_iload_n (T_X5_send 18 _ _ _ rfl) rfl ?_
    obtain ⟨h5, hq, H⟩ := bv_some H
    refine g_callVv (M' := M_X5_goOn) (c := 57) (av := [.inl x1, .inl 0, .inl x3]) (st := []) (T_X5_send 19 _ _ _ rfl) ml_X5_80 cb_X5_goOn rfl rfl (Nat.le_of_ble_eq_true rfl) (by omega) (R_X5_goOn N _ _ _ _ _ hq) ?_
    exact g_vret (T_X5_send 20 _ _ _ rfl) rfl (qv_of H)
def F_X11_sendOneCart (N : Nat) (x1 : Int) (x2 : Int) (x3 : Int) (h : Hp) : Option (Hp) :=
  bv (F_X5_prepare N h) fun h1 =>
  bd (F_X11_cartAt N x1 h1) fun z3 h2 =>
  if z3 = 0 then
    some h2
  else
  grd (cartR z3) <|
  bd (F_X0_room N (z3 - 1) h2) fun y6 h5 =>
  bv (F_X0_tellRoom N 53 y6 h5) fun h7 =>
  bv (F_X0_planOneStop N 53 x2 x3 h7) fun h8 =>
  bv (F_X5_send_v2 N x1 0 h8) fun h9 =>
  some h9
set_option maxRecDepth 100000 in
set_option maxHeartbeats 4000000 in
theorem R_X11_sendOneCart (N : Nat) (x1 : Int) (x2 : Int) (x3 : Int) (h : Hp) (res : Hp) (H : F_X11_sendOneCart N x1 x2 x3 h = some res) : Runs M_X11_sendOneCart 5 [.inr 1, .inl x1, .inl x2, .inl x3] h (Qv res) := by
  refine Runs.of rfl (Nat.le_of_ble_eq_true rfl) ?_
  show Go M_X11_sendOneCart 5 0 [some (.inr 1), some (.inl x1), some (.inl x2), some (.inl x3), none] [] h (Qv res)
  unfold F_X11_sendOneCart at H
  refine g_aload_n (T_X11_sendOneCart 0 _ _ _ rfl) rfl ?_
  refine g_getR (c := 0) (r := 58) (T_X11_sendOneCart 1 _ _ _ rfl) fl_X11_60 rfl (nR rfl) rfl (by decide) ?_
  obtain ⟨h1, hq, H⟩ := bv_some H
  refine g_callVv (M' := M_X5_prepare) (c := 57) (av := []) (st := []) (T_X11_sendOneCart 2 _ _ _ rfl) ml_X11_341 cb_X5_prepare rfl rfl (Nat.le_of_ble_eq_true rfl) (by omega) (R_X5_prepare N _ _ hq) ?_
  refine g_aload_n (T_X11_sendOneCart 3 _ _ _ rfl) rfl ?_
  refine g_iload_n (T_X11_sendOneCart 4 _ _ _ rfl) rfl ?_
  obtain ⟨z3, h2, hq, H⟩ := bd_some H
  refine g_callVr (M' := M_X11_cartAt) (c := 0) (av := [.inl x1]) (st := []) (T_X11_sendOneCart 5 _ _ _ rfl) ml_X11_104 cb_X11_cartAt rfl rfl (Nat.le_of_ble_eq_true rfl) (by omega) (R_X11_cartAt N _ _ _ hq) ?_
  refine g_astore (T_X11_sendOneCart 6 _ _ _ rfl) (by decide) ?_
  refine g_aload (T_X11_sendOneCart 7 _ _ _ rfl) rfl ?_
  refine g_ifnull (tgt := 53) (T_X11_sendOneCart 8 _ _ _ rfl) (by decide) (fun cc => ?_) (fun cc => ?_)
  · replace H := ite_p cc H
    exact g_vret (T_X11_sendOneCart 26 _ _ _ rfl) rfl (qv_of H)
  · replace H := ite_n cc H
    refine g_aload_n (T_X11_sendOneCart 9 _ _ _ rfl) rfl ?_
    refine g_getR (c := 0) (r := 54) (T_X11_sendOneCart 10 _ _ _ rfl) fl_X11_51 rfl (nR rfl) rfl (by decide) ?_
    refine g_aload (T_X11_sendOneCart 11 _ _ _ rfl) rfl ?_
    obtain ⟨hg, H⟩ := grd_some H
    obtain ⟨t4, rfl, ht4⟩ := cartR_spec hg
    simp only [Nat.add_sub_cancel] at H
    obtain ⟨y6, h5, hq, H⟩ := bd_some H
    refine g_callVi (M' := M_X0_room) (c := t4) (av := []) (st := [.inr 54]) (T_X11_sendOneCart 12 _ _ _ rfl) ml_X11_313 cb_X0_room ht4.2.1 rfl (Nat.le_of_ble_eq_true rfl) (by omega) (R_X0_room N t4 ht4 _ _ hq) ?_
    obtain ⟨h7, hq, H⟩ := bv_some H
    refine g_callVv (M' := M_X0_tellRoom) (c := 53) (av := [.inl y6]) (st := []) (T_X11_sendOneCart 13 _ _ _ rfl) ml_X11_108 cb_X0_tellRoom rfl rfl (Nat.le_of_ble_eq_true rfl) (by omega) (R_X0_tellRoom N 53 isCart53 _ _ _ hq) ?_
    refine g_aload_n (T_X11_sendOneCart 14 _ _ _ rfl) rfl ?_
    refine g_getR (c := 0) (r := 54) (T_X11_sendOneCart 15 _ _ _ rfl) fl_X11_51 rfl (nR rfl) rfl (by decide) ?_
    refine g_iload_n (T_X11_sendOneCart 16 _ _ _ rfl) rfl ?_
    refine g_iload_n (T_X11_sendOneCart 17 _ _ _ rfl) rfl ?_
    obtain ⟨h8, hq, H⟩ := bv_some H
    refine g_callVv (M' := M_X0_planOneStop) (c := 53) (av := [.inl x2, .inl x3]) (st := []) (T_X11_sendOneCart 18 _ _ _ rfl) ml_X11_348 cb_X0_planOneStop rfl rfl (Nat.le_of_ble_eq_true rfl) (by omega) (R_X0_planOneStop N 53 isCart53 _ _ _ _ hq) ?_
    refine g_aload_n (T_X11_sendOneCart 19 _ _ _ rfl) rfl ?_
    refine g_getR (c := 0) (r := 58) (T_X11_sendOneCart 20 _ _ _ rfl) fl_X11_60 rfl (nR rfl) rfl (by decide) ?_
    refine g_iload_n (T_X11_sendOneCart 21 _ _ _ rfl) rfl ?_
    refine g_aload_n (T_X11_sendOneCart 22 _ _ _ rfl) rfl ?_
    refine g_getR (c := 0) (r := 54) (T_X11_sendOneCart 23 _ _ _ rfl) fl_X11_51 rfl (nR rfl) rfl (by decide) ?_
    refine g_iconst (T_X11_sendOneCart 24 _ _ _ rfl) ⟨by decide, by decide⟩ ?_
    obtain ⟨h9, hq, H⟩ := bv_some H
    refine g_callVv (M' := M_X5_send) (c := 57) (av := [.inl x1, .inr 54, .inl 0]) (st := []) (T_X11_sendOneCart 25 _ _ _ rfl) ml_X11_344 cb_X5_send rfl rfl (Nat.le_of_ble_eq_true rfl) (by omega) (R_X5_send_v2 N _ _ _ _ hq) ?_
    exact g_vret (T_X11_sendOneCart 26 _ _ _ rfl) rfl (qv_of H)
def J_X11_oneStop_112 (N : Nat) (k53 : Int → Int → Int → Int → Int → Int → Hp → Option (Int × Hp)) (x1 : Int) (x2 : Int) (x3 : Int) (x4 : Int) (x5 : Int) (x6 : Int) (h : Hp) : Option (Int × Hp) :=
  bnd (w32 (x6 + 1)) fun y1 =>
  k53 x1 x2 x3 x4 x5 y1 h
set_option maxRecDepth 100000 in
set_option maxHeartbeats 4000000 in
theorem R_J_X11_oneStop_112 (N : Nat) (k53 : Int → Int → Int → Int → Int → Int → Hp → Option (Int × Hp)) (hk53 : ∀ (x1 : Int) (x2 : Int) (x3 : Int) (x4 : Int) (x5 : Int) (x6 : Int) (h : Hp) (res : Int × Hp), k53 x1 x2 x3 x4 x5 x6 h = some res → Go M_X11_oneStop 8 53 [some (.inr 1), some (.inl x1), some (.inl x2), some (.inl x3), some (.inl x4), some (.inl x5), some (.inl x6)] [] h (Qi res)) (x1 : Int) (x2 : Int) (x3 : Int) (x4 : Int) (x5 : Int) (x6 : Int) (h : Hp) (res : Int × Hp) (H : J_X11_oneStop_112 N k53 x1 x2 x3 x4 x5 x6 h = some res) : Go M_X11_oneStop 8 112 [some (.inr 1), some (.inl x1), some (.inl x2), some (.inl x3), some (.inl x4), some (.inl x5), some (.inl x6)] [] h (Qi res) := by
  unfold J_X11_oneStop_112 at H
  refine g_iincB (T_X11_oneStop 54 _ _ _ rfl) rfl (by decide) H fun y1 H => ?_
  refine g_goto (tgt := 53) (T_X11_oneStop 55 _ _ _ rfl) (by decide) ?_
  refine g_weak [true, true, true, true, true, true, true] ?_
  exact hk53 _ _ _ _ _ _ _ _ H
def L_X11_oneStop_53 (N : Nat) : Nat → Int → Int → Int → Int → Int → Int → Hp → Option (Int × Hp)
  | 0, _, _, _, _, _, _, _ => none
  | n + 1, x1, x2, x3, x4, x5, x6, h =>
    if 14 ≤ x6 then
      if x3 = 0 then
        some (x4, h)
      else
      some (x5, h)
    else
    bd (F_X1_isTold N x6 h) fun y2 h1 =>
    if y2 = 0 then
      J_X11_oneStop_112 N (L_X11_oneStop_53 N n) x1 x2 x3 x4 x5 x6 h1
    else
    bv (F_X11_sendOneCart N x1 x2 x6 h1) fun h3 =>
    bv (F_X5_goThrough N h3) fun h4 =>
    bd (F_X5_slept N h4) fun y6 h5 =>
    if y6 ≤ x5 then
      J_X11_oneStop_112 N (L_X11_oneStop_53 N n) x1 x2 x3 x4 x5 x6 h5
    else
    bd (F_X5_slept N h5) fun y8 h7 =>
    J_X11_oneStop_112 N (L_X11_oneStop_53 N n) x1 x2 x3 x6 y8 x6 h7
set_option maxRecDepth 100000 in
set_option maxHeartbeats 4000000 in
theorem R_L_X11_oneStop_53 (N : Nat) : ∀ (n : Nat) (x1 : Int) (x2 : Int) (x3 : Int) (x4 : Int) (x5 : Int) (x6 : Int) (h : Hp) (res : Int × Hp), L_X11_oneStop_53 N n x1 x2 x3 x4 x5 x6 h = some res → Go M_X11_oneStop 8 53 [some (.inr 1), some (.inl x1), some (.inl x2), some (.inl x3), some (.inl x4), some (.inl x5), some (.inl x6)] [] h (Qi res)
  | 0, _, _, _, _, _, _, _, _, H => by cases H
  | n + 1, x1, x2, x3, x4, x5, x6, h, res, H => by
    have ih := R_L_X11_oneStop_53 N n
    simp only [L_X11_oneStop_53] at H
    refine g_iload (T_X11_oneStop 27 _ _ _ rfl) rfl ?_
    refine g_bipush (T_X11_oneStop 28 _ _ _ rfl) (by decide) ?_
    refine g_icmp_ge (tgt := 118) (T_X11_oneStop 29 _ _ _ rfl) (by decide) (fun cc => ?_) (fun cc => ?_)
    · replace H := ite_p cc H
      refine g_iload_n (T_X11_oneStop 56 _ _ _ rfl) rfl ?_
      refine g_if_ne (tgt := 127) (T_X11_oneStop 57 _ _ _ rfl) (by decide) (fun cc => ?_) (fun cc => ?_)
      · replace H := ite_n cc H
        refine g_iload (T_X11_oneStop 60 _ _ _ rfl) rfl ?_
        exact g_iret (T_X11_oneStop 61 _ _ _ rfl) rfl (qi_of H)
      · replace H := ite_p cc H
        refine g_iload (T_X11_oneStop 58 _ _ _ rfl) rfl ?_
        refine g_goto (tgt := 129) (T_X11_oneStop 59 _ _ _ rfl) (by decide) ?_
        exact g_iret (T_X11_oneStop 61 _ _ _ rfl) rfl (qi_of H)
    · replace H := ite_n cc H
      refine g_aload_n (T_X11_oneStop 30 _ _ _ rfl) rfl ?_
      refine g_getR (c := 0) (r := 2) (T_X11_oneStop 31 _ _ _ rfl) fl_X11_28 rfl (nR rfl) rfl (by decide) ?_
      refine g_iload (T_X11_oneStop 32 _ _ _ rfl) rfl ?_
      obtain ⟨y2, h1, hq, H⟩ := bd_some H
      refine g_callVi (M' := M_X1_isTold) (c := 1) (av := [.inl x6]) (st := []) (T_X11_oneStop 33 _ _ _ rfl) ml_X11_112 cb_X1_isTold rfl rfl (Nat.le_of_ble_eq_true rfl) (by omega) (R_X1_isTold N _ _ _ hq) ?_
      refine g_if_eq (tgt := 112) (T_X11_oneStop 34 _ _ _ rfl) (by decide) (fun cc => ?_) (fun cc => ?_)
      · replace H := ite_p cc H
        refine g_weak [true, true, true, true, true, true, true] ?_
        exact R_J_X11_oneStop_112 N (L_X11_oneStop_53 N n) ih _ _ _ _ _ _ _ _ H
      · replace H := ite_n cc H
        refine g_aload_n (T_X11_oneStop 35 _ _ _ rfl) rfl ?_
        refine g_iload_n (T_X11_oneStop 36 _ _ _ rfl) rfl ?_
        refine g_iload_n (T_X11_oneStop 37 _ _ _ rfl) rfl ?_
        refine g_iload (T_X11_oneStop 38 _ _ _ rfl) rfl ?_
        obtain ⟨h3, hq, H⟩ := bv_some H
        refine g_callVv (M' := M_X11_sendOneCart) (c := 0) (av := [.inl x1, .inl x2, .inl x6]) (st := []) (T_X11_oneStop 39 _ _ _ rfl) ml_X11_274 cb_X11_sendOneCart rfl rfl (Nat.le_of_ble_eq_true rfl) (by omega) (R_X11_sendOneCart N _ _ _ _ _ hq) ?_
        refine g_aload_n (T_X11_oneStop 40 _ _ _ rfl) rfl ?_
        refine g_getR (c := 0) (r := 58) (T_X11_oneStop 41 _ _ _ rfl) fl_X11_60 rfl (nR rfl) rfl (by decide) ?_
        obtain ⟨h4, hq, H⟩ := bv_some H
        refine g_callVv (M' := M_X5_goThrough) (c := 57) (av := []) (st := []) (T_X11_oneStop 42 _ _ _ rfl) ml_X11_170 cb_X5_goThrough rfl rfl (Nat.le_of_ble_eq_true rfl) (by omega) (R_X5_goThrough N _ _ hq) ?_
        refine g_aload_n (T_X11_oneStop 43 _ _ _ rfl) rfl ?_
        refine g_getR (c := 0) (r := 58) (T_X11_oneStop 44 _ _ _ rfl) fl_X11_60 rfl (nR rfl) rfl (by decide) ?_
        obtain ⟨y6, h5, hq, H⟩ := bd_some H
        refine g_callVi (M' := M_X5_slept) (c := 57) (av := []) (st := []) (T_X11_oneStop 45 _ _ _ rfl) ml_X11_173 cb_X5_slept rfl rfl (Nat.le_of_ble_eq_true rfl) (by omega) (R_X5_slept N _ _ hq) ?_
        refine g_iload (T_X11_oneStop 46 _ _ _ rfl) rfl ?_
        refine g_icmp_le (tgt := 112) (T_X11_oneStop 47 _ _ _ rfl) (by decide) (fun cc => ?_) (fun cc => ?_)
        · replace H := ite_p cc H
          refine g_weak [true, true, true, true, true, true, true] ?_
          exact R_J_X11_oneStop_112 N (L_X11_oneStop_53 N n) ih _ _ _ _ _ _ _ _ H
        · replace H := ite_n cc H
          refine g_aload_n (T_X11_oneStop 48 _ _ _ rfl) rfl ?_
          refine g_getR (c := 0) (r := 58) (T_X11_oneStop 49 _ _ _ rfl) fl_X11_60 rfl (nR rfl) rfl (by decide) ?_
          obtain ⟨y8, h7, hq, H⟩ := bd_some H
          refine g_callVi (M' := M_X5_slept) (c := 57) (av := []) (st := []) (T_X11_oneStop 50 _ _ _ rfl) ml_X11_173 cb_X5_slept rfl rfl (Nat.le_of_ble_eq_true rfl) (by omega) (R_X5_slept N _ _ hq) ?_
          refine g_istore (T_X11_oneStop 51 _ _ _ rfl) (by decide) ?_
          refine g_iload (T_X11_oneStop 52 _ _ _ rfl) rfl ?_
          refine g_istore (T_X11_oneStop 53 _ _ _ rfl) (by decide) ?_
          refine g_weak [true, true, true, true, true, true, true] ?_
          exact R_J_X11_oneStop_112 N (L_X11_oneStop_53 N n) ih _ _ _ _ _ _ _ _ H
def F_X11_oneStop (N : Nat) (x1 : Int) (x2 : Int) (x3 : Int) (h : Hp) : Option (Int × Hp) :=
  bd (F_X11_isToldCart N x1 h) fun y2 h1 =>
  if y2 = 0 then
    some ((-1), h1)
  else
  bd (F_X11_isWithin N x2 1 99 h1) fun y4 h3 =>
  if y4 = 0 then
    some ((-1), h3)
  else
  bd (F_X11_isWithin N x3 0 1 h3) fun y6 h5 =>
  if y6 = 0 then
    some ((-1), h5)
  else
  bd (F_X1_night N h5) fun y8 h7 =>
  if y8 < 9999 then
    L_X11_oneStop_53 N  N x1 x2 x3 (-2) (-2) 0 h7
  else
  some ((-1), h7)
set_option maxRecDepth 100000 in
set_option maxHeartbeats 4000000 in
theorem R_X11_oneStop (N : Nat) (x1 : Int) (x2 : Int) (x3 : Int) (h : Hp) (res : Int × Hp) (H : F_X11_oneStop N x1 x2 x3 h = some res) : Runs M_X11_oneStop 8 [.inr 1, .inl x1, .inl x2, .inl x3] h (Qi res) := by
  refine Runs.of rfl (Nat.le_of_ble_eq_true rfl) ?_
  show Go M_X11_oneStop 8 0 [some (.inr 1), some (.inl x1), some (.inl x2), some (.inl x3), none, none, none] [] h (Qi res)
  unfold F_X11_oneStop at H
  refine g_aload_n (T_X11_oneStop 0 _ _ _ rfl) rfl ?_
  refine g_iload_n (T_X11_oneStop 1 _ _ _ rfl) rfl ?_
  obtain ⟨y2, h1, hq, H⟩ := bd_some H
  refine g_callVi (M' := M_X11_isToldCart) (c := 0) (av := [.inl x1]) (st := []) (T_X11_oneStop 2 _ _ _ rfl) ml_X11_271 cb_X11_isToldCart rfl rfl (Nat.le_of_ble_eq_true rfl) (by omega) (R_X11_isToldCart N _ _ _ hq) ?_
  refine g_if_eq (tgt := 40) (T_X11_oneStop 3 _ _ _ rfl) (by decide) (fun cc => ?_) (fun cc => ?_)
  · replace H := ite_p cc H
    refine g_iconst (T_X11_oneStop 19 _ _ _ rfl) ⟨by decide, by decide⟩ ?_
    exact g_iret (T_X11_oneStop 20 _ _ _ rfl) rfl (qi_of H)
  · replace H := ite_n cc H
    refine g_iload_n (T_X11_oneStop 4 _ _ _ rfl) rfl ?_
    refine g_iconst (T_X11_oneStop 5 _ _ _ rfl) ⟨by decide, by decide⟩ ?_
    refine g_bipush (T_X11_oneStop 6 _ _ _ rfl) (by decide) ?_
    obtain ⟨y4, h3, hq, H⟩ := bd_some H
    refine g_callSi (M' := M_X11_isWithin) (av := [.inl x2, .inl 1, .inl 99]) (st := []) (T_X11_oneStop 7 _ _ _ rfl) ml_X11_96 cb_X11_isWithin rfl (Nat.le_of_ble_eq_true rfl) (by omega) (R_X11_isWithin N _ _ _ _ _ hq) ?_
    refine g_if_eq (tgt := 40) (T_X11_oneStop 8 _ _ _ rfl) (by decide) (fun cc => ?_) (fun cc => ?_)
    · replace H := ite_p cc H
      refine g_iconst (T_X11_oneStop 19 _ _ _ rfl) ⟨by decide, by decide⟩ ?_
      exact g_iret (T_X11_oneStop 20 _ _ _ rfl) rfl (qi_of H)
    · replace H := ite_n cc H
      refine g_iload_n (T_X11_oneStop 9 _ _ _ rfl) rfl ?_
      refine g_iconst (T_X11_oneStop 10 _ _ _ rfl) ⟨by decide, by decide⟩ ?_
      refine g_iconst (T_X11_oneStop 11 _ _ _ rfl) ⟨by decide, by decide⟩ ?_
      obtain ⟨y6, h5, hq, H⟩ := bd_some H
      refine g_callSi (M' := M_X11_isWithin) (av := [.inl x3, .inl 0, .inl 1]) (st := []) (T_X11_oneStop 12 _ _ _ rfl) ml_X11_96 cb_X11_isWithin rfl (Nat.le_of_ble_eq_true rfl) (by omega) (R_X11_isWithin N _ _ _ _ _ hq) ?_
      refine g_if_eq (tgt := 40) (T_X11_oneStop 13 _ _ _ rfl) (by decide) (fun cc => ?_) (fun cc => ?_)
      · replace H := ite_p cc H
        refine g_iconst (T_X11_oneStop 19 _ _ _ rfl) ⟨by decide, by decide⟩ ?_
        exact g_iret (T_X11_oneStop 20 _ _ _ rfl) rfl (qi_of H)
      · replace H := ite_n cc H
        refine g_aload_n (T_X11_oneStop 14 _ _ _ rfl) rfl ?_
        refine g_getR (c := 0) (r := 2) (T_X11_oneStop 15 _ _ _ rfl) fl_X11_28 rfl (nR rfl) rfl (by decide) ?_
        obtain ⟨y8, h7, hq, H⟩ := bd_some H
        refine g_callVi (M' := M_X1_night) (c := 1) (av := []) (st := []) (T_X11_oneStop 16 _ _ _ rfl) ml_X11_165 cb_X1_night rfl rfl (Nat.le_of_ble_eq_true rfl) (by omega) (R_X1_night N _ _ hq) ?_
        refine g_sipush (T_X11_oneStop 17 _ _ _ rfl) (by decide) ?_
        refine g_icmp_lt (tgt := 42) (T_X11_oneStop 18 _ _ _ rfl) (by decide) (fun cc => ?_) (fun cc => ?_)
        · replace H := ite_p cc H
          refine g_bipush (T_X11_oneStop 21 _ _ _ rfl) (by decide) ?_
          refine g_istore (T_X11_oneStop 22 _ _ _ rfl) (by decide) ?_
          refine g_bipush (T_X11_oneStop 23 _ _ _ rfl) (by decide) ?_
          refine g_istore (T_X11_oneStop 24 _ _ _ rfl) (by decide) ?_
          refine g_iconst (T_X11_oneStop 25 _ _ _ rfl) ⟨by decide, by decide⟩ ?_
          refine g_istore (T_X11_oneStop 26 _ _ _ rfl) (by decide) ?_
          refine g_weak [true, true, true, true, true, true, true] ?_
          refine R_L_X11_oneStop_53 N   _ _ _ _ _ _ _ _ _ H
        · replace H := ite_n cc H
          refine g_iconst (T_X11_oneStop 19 _ _ _ rfl) ⟨by decide, by decide⟩ ?_
          exact g_iret (T_X11_oneStop 20 _ _ _ rfl) rfl (qi_of H)
def L_X9_wastedBy_24 (N : Nat) : Nat → Int → Int → Hp → Option (Int × Hp)
  | 0, _, _, _ => none
  | n + 1, x4, x5, h =>
    if 10 ≤ x5 then
      some (x4, h)
    else
    bd (F_X1_night N h) fun y2 h1 =>
    bv (F_X2_regardTime N x5 y2 0 h1) fun h3 =>
    bd (F_X2_ask N 119 h3) fun y5 h4 =>
    bnd ((w32 (x4 + y5))) fun y6 =>
    bnd (w32 (x5 + 1)) fun y7 =>
    (L_X9_wastedBy_24 N n) y6 y7 h4
set_option maxRecDepth 100000 in
set_option maxHeartbeats 4000000 in
theorem R_L_X9_wastedBy_24 (N : Nat) : ∀ (n : Nat) (x4 : Int) (x5 : Int) (h : Hp) (res : Int × Hp), L_X9_wastedBy_24 N n x4 x5 h = some res → Go M_X9_wastedBy 4 24 [some (.inr 70), none, none, some (.inr 12), some (.inl x4), some (.inl x5)] [] h (Qi res)
  | 0, _, _, _, _, H => by cases H
  | n + 1, x4, x5, h, res, H => by
    have ih := R_L_X9_wastedBy_24 N n
    simp only [L_X9_wastedBy_24] at H
    refine g_iload (T_X9_wastedBy 14 _ _ _ rfl) rfl ?_
    refine g_bipush (T_X9_wastedBy 15 _ _ _ rfl) (by decide) ?_
    refine g_icmp_ge (tgt := 62) (T_X9_wastedBy 16 _ _ _ rfl) (by decide) (fun cc => ?_) (fun cc => ?_)
    · replace H := ite_p cc H
      refine g_iload (T_X9_wastedBy 32 _ _ _ rfl) rfl ?_
      exact g_iret (T_X9_wastedBy 33 _ _ _ rfl) rfl (qi_of H)
    · replace H := ite_n cc H
      refine g_aload_n (T_X9_wastedBy 17 _ _ _ rfl) rfl ?_
      refine g_iload (T_X9_wastedBy 18 _ _ _ rfl) rfl ?_
      refine g_aload_n (T_X9_wastedBy 19 _ _ _ rfl) rfl ?_
      refine g_getR (c := 69) (r := 2) (T_X9_wastedBy 20 _ _ _ rfl) fl_X9_21 rfl (nR rfl) rfl (by decide) ?_
      obtain ⟨y2, h1, hq, H⟩ := bd_some H
      refine g_callVi (M' := M_X1_night) (c := 1) (av := []) (st := [.inl x5, .inr 12]) (T_X9_wastedBy 21 _ _ _ rfl) ml_X9_74 cb_X1_night rfl rfl (Nat.le_of_ble_eq_true rfl) (by omega) (R_X1_night N _ _ hq) ?_
      refine g_iconst (T_X9_wastedBy 22 _ _ _ rfl) ⟨by decide, by decide⟩ ?_
      obtain ⟨h3, hq, H⟩ := bv_some H
      refine g_callVv (M' := M_X2_regardTime) (c := 11) (av := [.inl x5, .inl y2, .inl 0]) (st := []) (T_X9_wastedBy 23 _ _ _ rfl) ml_X9_78 cb_X2_regardTime rfl rfl (Nat.le_of_ble_eq_true rfl) (by omega) (R_X2_regardTime N _ _ _ _ _ hq) ?_
      refine g_iload (T_X9_wastedBy 24 _ _ _ rfl) rfl ?_
      refine g_aload_n (T_X9_wastedBy 25 _ _ _ rfl) rfl ?_
      refine g_bipush (T_X9_wastedBy 26 _ _ _ rfl) (by decide) ?_
      obtain ⟨y5, h4, hq, H⟩ := bd_some H
      refine g_callVi (M' := M_X2_ask) (c := 11) (av := [.inl 119]) (st := [.inl x4]) (T_X9_wastedBy 27 _ _ _ rfl) ml_X9_91 cb_X2_ask rfl rfl (Nat.le_of_ble_eq_true rfl) (by omega) (R_X2_ask N _ _ _ hq) ?_
      refine g_iadd (T_X9_wastedBy 28 _ _ _ rfl) ?_
      refine g_bndI H fun y6 H => ?_
      refine g_istore (T_X9_wastedBy 29 _ _ _ rfl) (by decide) ?_
      refine g_iincB (T_X9_wastedBy 30 _ _ _ rfl) rfl (by decide) H fun y7 H => ?_
      refine g_goto (tgt := 24) (T_X9_wastedBy 31 _ _ _ rfl) (by decide) ?_
      refine g_weak [true, false, false, true, true, true] ?_
      exact ih _ _ _ _ H
def F_X9_wastedBy (N : Nat) (x1 : Int) (x2 : Int) (h : Hp) : Option (Int × Hp) :=
  bd (F_X1_depthOf N x2 h) fun y2 h1 =>
  bv (F_X2_regardStreet N x2 x1 y2 h1) fun h3 =>
  L_X9_wastedBy_24 N  N 0 0 h3
set_option maxRecDepth 100000 in
set_option maxHeartbeats 4000000 in
theorem R_X9_wastedBy (N : Nat) (x1 : Int) (x2 : Int) (h : Hp) (res : Int × Hp) (H : F_X9_wastedBy N x1 x2 h = some res) : Runs M_X9_wastedBy 4 [.inr 70, .inl x1, .inl x2, .inr 12] h (Qi res) := by
  refine Runs.of rfl (Nat.le_of_ble_eq_true rfl) ?_
  show Go M_X9_wastedBy 4 0 [some (.inr 70), some (.inl x1), some (.inl x2), some (.inr 12), none, none] [] h (Qi res)
  unfold F_X9_wastedBy at H
  refine g_iconst (T_X9_wastedBy 0 _ _ _ rfl) ⟨by decide, by decide⟩ ?_
  refine g_istore (T_X9_wastedBy 1 _ _ _ rfl) (by decide) ?_
  refine g_aload_n (T_X9_wastedBy 2 _ _ _ rfl) rfl ?_
  refine g_aload_n (T_X9_wastedBy 3 _ _ _ rfl) rfl ?_
  refine g_getR (c := 69) (r := 2) (T_X9_wastedBy 4 _ _ _ rfl) fl_X9_21 rfl (nR rfl) rfl (by decide) ?_
  refine g_iload_n (T_X9_wastedBy 5 _ _ _ rfl) rfl ?_
  refine g_iload_n (T_X9_wastedBy 6 _ _ _ rfl) rfl ?_
  refine g_aload_n (T_X9_wastedBy 7 _ _ _ rfl) rfl ?_
  refine g_getR (c := 69) (r := 2) (T_X9_wastedBy 8 _ _ _ rfl) fl_X9_21 rfl (nR rfl) rfl (by decide) ?_
  refine g_iload_n (T_X9_wastedBy 9 _ _ _ rfl) rfl ?_
  obtain ⟨y2, h1, hq, H⟩ := bd_some H
  refine g_callVi (M' := M_X1_depthOf) (c := 1) (av := [.inl x2]) (st := [.inl x1, .inl x2, .inr 2, .inr 12]) (T_X9_wastedBy 10 _ _ _ rfl) ml_X9_43 cb_X1_depthOf rfl rfl (Nat.le_of_ble_eq_true rfl) (by omega) (R_X1_depthOf N _ _ _ hq) ?_
  obtain ⟨h3, hq, H⟩ := bv_some H
  refine g_callVv (M' := M_X2_regardStreet) (c := 11) (av := [.inr 2, .inl x2, .inl x1, .inl y2]) (st := []) (T_X9_wastedBy 11 _ _ _ rfl) ml_X9_87 cb_X2_regardStreet rfl rfl (Nat.le_of_ble_eq_true rfl) (by omega) (R_X2_regardStreet N _ _ _ _ _ hq) ?_
  refine g_iconst (T_X9_wastedBy 12 _ _ _ rfl) ⟨by decide, by decide⟩ ?_
  refine g_istore (T_X9_wastedBy 13 _ _ _ rfl) (by decide) ?_
  refine g_weak [true, false, false, true, true, true] ?_
  refine R_L_X9_wastedBy_24 N   _ _ _ _ _ H
def J_X9_reckonGains_47 (N : Nat) (k2 : Int → Hp → Option (Hp)) (x2 : Int) (h : Hp) : Option (Hp) :=
  bnd (w32 (x2 + 1)) fun y1 =>
  k2 y1 h
set_option maxRecDepth 100000 in
set_option maxHeartbeats 4000000 in
theorem R_J_X9_reckonGains_47 (N : Nat) (k2 : Int → Hp → Option (Hp)) (hk2 : ∀ (x2 : Int) (h : Hp) (res : Hp), k2 x2 h = some res → Go M_X9_reckonGains 5 2 [some (.inr 70), some (.inr 12), some (.inl x2)] [] h (Qv res)) (x2 : Int) (h : Hp) (res : Hp) (H : J_X9_reckonGains_47 N k2 x2 h = some res) : Go M_X9_reckonGains 5 47 [some (.inr 70), some (.inr 12), some (.inl x2)] [] h (Qv res) := by
  unfold J_X9_reckonGains_47 at H
  refine g_iincB (T_X9_reckonGains 28 _ _ _ rfl) rfl (by decide) H fun y1 H => ?_
  refine g_goto (tgt := 2) (T_X9_reckonGains 29 _ _ _ rfl) (by decide) ?_
  refine g_weak [true, true, true] ?_
  exact hk2 _ _ _ H
def L_X9_reckonGains_2 (N : Nat) : Nat → Int → Hp → Option (Hp)
  | 0, _, _ => none
  | n + 1, x2, h =>
    if 14 ≤ x2 then
      some h
    else
    bd (F_X1_isTold N x2 h) fun y2 h1 =>
    if y2 = 0 then
      J_X9_reckonGains_47 N (L_X9_reckonGains_2 N n) x2 h1
    else
    bd (F_X1_lampsOf N x2 h1) fun y4 h3 =>
    bd (F_X9_wastedBy N y4 x2 h3) fun y6 h5 =>
    bd (F_X9_wastedBy N 0 x2 h5) fun y8 h7 =>
    grd (0 ≤ x2 ∧ x2 < 14) <|
    bnd (hw h7 72 x2.toNat (w32 (y6 - y8))) fun h9 =>
    J_X9_reckonGains_47 N (L_X9_reckonGains_2 N n) x2 h9
set_option maxRecDepth 100000 in
set_option maxHeartbeats 4000000 in
theorem R_L_X9_reckonGains_2 (N : Nat) : ∀ (n : Nat) (x2 : Int) (h : Hp) (res : Hp), L_X9_reckonGains_2 N n x2 h = some res → Go M_X9_reckonGains 5 2 [some (.inr 70), some (.inr 12), some (.inl x2)] [] h (Qv res)
  | 0, _, _, _, H => by cases H
  | n + 1, x2, h, res, H => by
    have ih := R_L_X9_reckonGains_2 N n
    simp only [L_X9_reckonGains_2] at H
    refine g_iload_n (T_X9_reckonGains 2 _ _ _ rfl) rfl ?_
    refine g_bipush (T_X9_reckonGains 3 _ _ _ rfl) (by decide) ?_
    refine g_icmp_ge (tgt := 53) (T_X9_reckonGains 4 _ _ _ rfl) (by decide) (fun cc => ?_) (fun cc => ?_)
    · replace H := ite_p cc H
      exact g_vret (T_X9_reckonGains 30 _ _ _ rfl) rfl (qv_of H)
    · replace H := ite_n cc H
      refine g_aload_n (T_X9_reckonGains 5 _ _ _ rfl) rfl ?_
      refine g_getR (c := 69) (r := 2) (T_X9_reckonGains 6 _ _ _ rfl) fl_X9_21 rfl (nR rfl) rfl (by decide) ?_
      refine g_iload_n (T_X9_reckonGains 7 _ _ _ rfl) rfl ?_
      obtain ⟨y2, h1, hq, H⟩ := bd_some H
      refine g_callVi (M' := M_X1_isTold) (c := 1) (av := [.inl x2]) (st := []) (T_X9_reckonGains 8 _ _ _ rfl) ml_X9_97 cb_X1_isTold rfl rfl (Nat.le_of_ble_eq_true rfl) (by omega) (R_X1_isTold N _ _ _ hq) ?_
      refine g_if_eq (tgt := 47) (T_X9_reckonGains 9 _ _ _ rfl) (by decide) (fun cc => ?_) (fun cc => ?_)
      · replace H := ite_p cc H
        refine g_weak [true, true, true] ?_
        exact R_J_X9_reckonGains_47 N (L_X9_reckonGains_2 N n) ih _ _ _ H
      · replace H := ite_n cc H
        refine g_aload_n (T_X9_reckonGains 10 _ _ _ rfl) rfl ?_
        refine g_getR (c := 69) (r := 73) (T_X9_reckonGains 11 _ _ _ rfl) fl_X9_18 rfl (nR rfl) rfl (by decide) ?_
        refine g_iload_n (T_X9_reckonGains 12 _ _ _ rfl) rfl ?_
        refine g_aload_n (T_X9_reckonGains 13 _ _ _ rfl) rfl ?_
        refine g_aload_n (T_X9_reckonGains 14 _ _ _ rfl) rfl ?_
        refine g_getR (c := 69) (r := 2) (T_X9_reckonGains 15 _ _ _ rfl) fl_X9_21 rfl (nR rfl) rfl (by decide) ?_
        refine g_iload_n (T_X9_reckonGains 16 _ _ _ rfl) rfl ?_
        obtain ⟨y4, h3, hq, H⟩ := bd_some H
        refine g_callVi (M' := M_X1_lampsOf) (c := 1) (av := [.inl x2]) (st := [.inr 70, .inl x2, .inr 73]) (T_X9_reckonGains 17 _ _ _ rfl) ml_X9_84 cb_X1_lampsOf rfl rfl (Nat.le_of_ble_eq_true rfl) (by omega) (R_X1_lampsOf N _ _ _ hq) ?_
        refine g_iload_n (T_X9_reckonGains 18 _ _ _ rfl) rfl ?_
        refine g_aload_n (T_X9_reckonGains 19 _ _ _ rfl) rfl ?_
        obtain ⟨y6, h5, hq, H⟩ := bd_some H
        refine g_callVi (M' := M_X9_wastedBy) (c := 69) (av := [.inl y4, .inl x2, .inr 12]) (st := [.inl x2, .inr 73]) (T_X9_reckonGains 20 _ _ _ rfl) ml_X9_101 cb_X9_wastedBy rfl rfl (Nat.le_of_ble_eq_true rfl) (by omega) (R_X9_wastedBy N _ _ _ _ hq) ?_
        refine g_aload_n (T_X9_reckonGains 21 _ _ _ rfl) rfl ?_
        refine g_iconst (T_X9_reckonGains 22 _ _ _ rfl) ⟨by decide, by decide⟩ ?_
        refine g_iload_n (T_X9_reckonGains 23 _ _ _ rfl) rfl ?_
        refine g_aload_n (T_X9_reckonGains 24 _ _ _ rfl) rfl ?_
        obtain ⟨y8, h7, hq, H⟩ := bd_some H
        refine g_callVi (M' := M_X9_wastedBy) (c := 69) (av := [.inl 0, .inl x2, .inr 12]) (st := [.inl y6, .inl x2, .inr 73]) (T_X9_reckonGains 25 _ _ _ rfl) ml_X9_101 cb_X9_wastedBy rfl rfl (Nat.le_of_ble_eq_true rfl) (by omega) (R_X9_wastedBy N _ _ _ _ hq) ?_
        refine g_isub (T_X9_reckonGains 26 _ _ _ rfl) ?_
        obtain ⟨hg, H⟩ := grd_some H
        refine g_iast (c := 72) (T_X9_reckonGains 27 _ _ _ rfl) rfl hg ?_
        refine g_bndH H fun h9 H => ?_
        refine g_weak [true, true, true] ?_
        exact R_J_X9_reckonGains_47 N (L_X9_reckonGains_2 N n) ih _ _ _ H
def F_X9_reckonGains (N : Nat) (h : Hp) : Option (Hp) :=
  L_X9_reckonGains_2 N  N 0 h
set_option maxRecDepth 100000 in
set_option maxHeartbeats 4000000 in
theorem R_X9_reckonGains (N : Nat) (h : Hp) (res : Hp) (H : F_X9_reckonGains N h = some res) : Runs M_X9_reckonGains 5 [.inr 70, .inr 12] h (Qv res) := by
  refine Runs.of rfl (Nat.le_of_ble_eq_true rfl) ?_
  show Go M_X9_reckonGains 5 0 [some (.inr 70), some (.inr 12), none] [] h (Qv res)
  unfold F_X9_reckonGains at H
  refine g_iconst (T_X9_reckonGains 0 _ _ _ rfl) ⟨by decide, by decide⟩ ?_
  refine g_istore_n (T_X9_reckonGains 1 _ _ _ rfl) (by decide) ?_
  refine g_weak [true, true, true] ?_
  refine R_L_X9_reckonGains_2 N   _ _ _ _ H
def J_X9_bestGainBeside_50 (N : Nat) (k4 : Int → Int → Int → Hp → Option (Int × Hp)) (x1 : Int) (x2 : Int) (x3 : Int) (h : Hp) : Option (Int × Hp) :=
  bnd (w32 (x3 + 1)) fun y1 =>
  k4 x1 x2 y1 h
set_option maxRecDepth 100000 in
set_option maxHeartbeats 4000000 in
theorem R_J_X9_bestGainBeside_50 (N : Nat) (k4 : Int → Int → Int → Hp → Option (Int × Hp)) (hk4 : ∀ (x1 : Int) (x2 : Int) (x3 : Int) (h : Hp) (res : Int × Hp), k4 x1 x2 x3 h = some res → Go M_X9_bestGainBeside 2 4 [some (.inr 70), some (.inl x1), some (.inl x2), some (.inl x3)] [] h (Qi res)) (x1 : Int) (x2 : Int) (x3 : Int) (h : Hp) (res : Int × Hp) (H : J_X9_bestGainBeside_50 N k4 x1 x2 x3 h = some res) : Go M_X9_bestGainBeside 2 50 [some (.inr 70), some (.inl x1), some (.inl x2), some (.inl x3)] [] h (Qi res) := by
  unfold J_X9_bestGainBeside_50 at H
  refine g_iincB (T_X9_bestGainBeside 29 _ _ _ rfl) rfl (by decide) H fun y1 H => ?_
  refine g_goto (tgt := 4) (T_X9_bestGainBeside 30 _ _ _ rfl) (by decide) ?_
  refine g_weak [true, true, true, true] ?_
  exact hk4 _ _ _ _ _ H
def L_X9_bestGainBeside_4 (N : Nat) : Nat → Int → Int → Int → Hp → Option (Int × Hp)
  | 0, _, _, _, _ => none
  | n + 1, x1, x2, x3, h =>
    if 14 ≤ x3 then
      some ((imax 0 x2), h)
    else
    bd (F_X1_isTold N x3 h) fun y2 h1 =>
    if y2 = 0 then
      J_X9_bestGainBeside_50 N (L_X9_bestGainBeside_4 N n) x1 x2 x3 h1
    else
    bd (F_X11_hasBit N x1 x3 h1) fun y4 h3 =>
    if y4 = 0 then
      if x2 < 0 then
        J_X9_bestGainBeside_50 N (L_X9_bestGainBeside_4 N n) x1 x3 x3 h3
      else
      grd (0 ≤ x3 ∧ x3 < 14) <|
      grd (0 ≤ x2 ∧ x2 < 14) <|
      if (h3 72 x3.toNat) ≤ (h3 72 x2.toNat) then
        J_X9_bestGainBeside_50 N (L_X9_bestGainBeside_4 N n) x1 x2 x3 h3
      else
      J_X9_bestGainBeside_50 N (L_X9_bestGainBeside_4 N n) x1 x3 x3 h3
    else
    J_X9_bestGainBeside_50 N (L_X9_bestGainBeside_4 N n) x1 x2 x3 h3
set_option maxRecDepth 100000 in
set_option maxHeartbeats 4000000 in
theorem R_L_X9_bestGainBeside_4 (N : Nat) : ∀ (n : Nat) (x1 : Int) (x2 : Int) (x3 : Int) (h : Hp) (res : Int × Hp), L_X9_bestGainBeside_4 N n x1 x2 x3 h = some res → Go M_X9_bestGainBeside 2 4 [some (.inr 70), some (.inl x1), some (.inl x2), some (.inl x3)] [] h (Qi res)
  | 0, _, _, _, _, _, H => by cases H
  | n + 1, x1, x2, x3, h, res, H => by
    have ih := R_L_X9_bestGainBeside_4 N n
    simp only [L_X9_bestGainBeside_4] at H
    refine g_iload_n (T_X9_bestGainBeside 4 _ _ _ rfl) rfl ?_
    refine g_bipush (T_X9_bestGainBeside 5 _ _ _ rfl) (by decide) ?_
    refine g_icmp_ge (tgt := 56) (T_X9_bestGainBeside 6 _ _ _ rfl) (by decide) (fun cc => ?_) (fun cc => ?_)
    · replace H := ite_p cc H
      refine g_iconst (T_X9_bestGainBeside 31 _ _ _ rfl) ⟨by decide, by decide⟩ ?_
      refine g_iload_n (T_X9_bestGainBeside 32 _ _ _ rfl) rfl ?_
      refine g_max (st := []) (T_X9_bestGainBeside 33 _ _ _ rfl) ml_X9_48 wmax (Nat.le_of_ble_eq_true rfl) (by omega) ?_
      exact g_iret (T_X9_bestGainBeside 34 _ _ _ rfl) rfl (qi_of H)
    · replace H := ite_n cc H
      refine g_aload_n (T_X9_bestGainBeside 7 _ _ _ rfl) rfl ?_
      refine g_getR (c := 69) (r := 2) (T_X9_bestGainBeside 8 _ _ _ rfl) fl_X9_21 rfl (nR rfl) rfl (by decide) ?_
      refine g_iload_n (T_X9_bestGainBeside 9 _ _ _ rfl) rfl ?_
      obtain ⟨y2, h1, hq, H⟩ := bd_some H
      refine g_callVi (M' := M_X1_isTold) (c := 1) (av := [.inl x3]) (st := []) (T_X9_bestGainBeside 10 _ _ _ rfl) ml_X9_97 cb_X1_isTold rfl rfl (Nat.le_of_ble_eq_true rfl) (by omega) (R_X1_isTold N _ _ _ hq) ?_
      refine g_if_eq (tgt := 50) (T_X9_bestGainBeside 11 _ _ _ rfl) (by decide) (fun cc => ?_) (fun cc => ?_)
      · replace H := ite_p cc H
        refine g_weak [true, true, true, true] ?_
        exact R_J_X9_bestGainBeside_50 N (L_X9_bestGainBeside_4 N n) ih _ _ _ _ _ H
      · replace H := ite_n cc H
        refine g_iload_n (T_X9_bestGainBeside 12 _ _ _ rfl) rfl ?_
        refine g_iload_n (T_X9_bestGainBeside 13 _ _ _ rfl) rfl ?_
        obtain ⟨y4, h3, hq, H⟩ := bd_some H
        refine g_callSNi (M' := M_X11_hasBit) (av := [.inl x1, .inl x3]) (st := []) (T_X9_bestGainBeside 14 _ _ _ rfl) ml_X9_29 cb_X11_hasBit rfl (Nat.le_of_ble_eq_true rfl) (by omega) (R_X11_hasBit N _ _ _ _ hq) ?_
        refine g_if_ne (tgt := 50) (T_X9_bestGainBeside 15 _ _ _ rfl) (by decide) (fun cc => ?_) (fun cc => ?_)
        · replace H := ite_n cc H
          refine g_weak [true, true, true, true] ?_
          exact R_J_X9_bestGainBeside_50 N (L_X9_bestGainBeside_4 N n) ih _ _ _ _ _ H
        · replace H := ite_p cc H
          refine g_iload_n (T_X9_bestGainBeside 16 _ _ _ rfl) rfl ?_
          refine g_if_lt (tgt := 48) (T_X9_bestGainBeside 17 _ _ _ rfl) (by decide) (fun cc => ?_) (fun cc => ?_)
          · replace H := ite_p cc H
            refine g_iload_n (T_X9_bestGainBeside 27 _ _ _ rfl) rfl ?_
            refine g_istore_n (T_X9_bestGainBeside 28 _ _ _ rfl) (by decide) ?_
            refine g_weak [true, true, true, true] ?_
            exact R_J_X9_bestGainBeside_50 N (L_X9_bestGainBeside_4 N n) ih _ _ _ _ _ H
          · replace H := ite_n cc H
            refine g_aload_n (T_X9_bestGainBeside 18 _ _ _ rfl) rfl ?_
            refine g_getR (c := 69) (r := 73) (T_X9_bestGainBeside 19 _ _ _ rfl) fl_X9_18 rfl (nR rfl) rfl (by decide) ?_
            refine g_iload_n (T_X9_bestGainBeside 20 _ _ _ rfl) rfl ?_
            obtain ⟨hg, H⟩ := grd_some H
            refine g_iald (c := 72) (T_X9_bestGainBeside 21 _ _ _ rfl) rfl hg ?_
            refine g_aload_n (T_X9_bestGainBeside 22 _ _ _ rfl) rfl ?_
            refine g_getR (c := 69) (r := 73) (T_X9_bestGainBeside 23 _ _ _ rfl) fl_X9_18 rfl (nR rfl) rfl (by decide) ?_
            refine g_iload_n (T_X9_bestGainBeside 24 _ _ _ rfl) rfl ?_
            obtain ⟨hg, H⟩ := grd_some H
            refine g_iald (c := 72) (T_X9_bestGainBeside 25 _ _ _ rfl) rfl hg ?_
            refine g_icmp_le (tgt := 50) (T_X9_bestGainBeside 26 _ _ _ rfl) (by decide) (fun cc => ?_) (fun cc => ?_)
            · replace H := ite_p cc H
              refine g_weak [true, true, true, true] ?_
              exact R_J_X9_bestGainBeside_50 N (L_X9_bestGainBeside_4 N n) ih _ _ _ _ _ H
            · replace H := ite_n cc H
              refine g_iload_n (T_X9_bestGainBeside 27 _ _ _ rfl) rfl ?_
              refine g_istore_n (T_X9_bestGainBeside 28 _ _ _ rfl) (by decide) ?_
              refine g_weak [true, true, true, true] ?_
              exact R_J_X9_bestGainBeside_50 N (L_X9_bestGainBeside_4 N n) ih _ _ _ _ _ H
def F_X9_bestGainBeside (N : Nat) (x1 : Int) (h : Hp) : Option (Int × Hp) :=
  L_X9_bestGainBeside_4 N  N x1 (-1) 0 h
set_option maxRecDepth 100000 in
set_option maxHeartbeats 4000000 in
theorem R_X9_bestGainBeside (N : Nat) (x1 : Int) (h : Hp) (res : Int × Hp) (H : F_X9_bestGainBeside N x1 h = some res) : Runs M_X9_bestGainBeside 2 [.inr 70, .inl x1] h (Qi res) := by
  refine Runs.of rfl (Nat.le_of_ble_eq_true rfl) ?_
  show Go M_X9_bestGainBeside 2 0 [some (.inr 70), some (.inl x1), none, none] [] h (Qi res)
  unfold F_X9_bestGainBeside at H
  refine g_iconst (T_X9_bestGainBeside 0 _ _ _ rfl) ⟨by decide, by decide⟩ ?_
  refine g_istore_n (T_X9_bestGainBeside 1 _ _ _ rfl) (by decide) ?_
  refine g_iconst (T_X9_bestGainBeside 2 _ _ _ rfl) ⟨by decide, by decide⟩ ?_
  refine g_istore_n (T_X9_bestGainBeside 3 _ _ _ rfl) (by decide) ?_
  refine g_weak [true, true, true, true] ?_
  refine R_L_X9_bestGainBeside_4 N   _ _ _ _ _ _ H
def F_X9_gainOf (N : Nat) (x1 : Int) (h : Hp) : Option (Int × Hp) :=
  bd (F_X11_isWithin N x1 0 13 h) fun y2 h1 =>
  if y2 = 0 then
    some (0, h1)
  else
  grd (0 ≤ x1 ∧ x1 < 14) <|
  some ((h1 72 x1.toNat), h1)
set_option maxRecDepth 100000 in
set_option maxHeartbeats 4000000 in
theorem R_X9_gainOf (N : Nat) (x1 : Int) (h : Hp) (res : Int × Hp) (H : F_X9_gainOf N x1 h = some res) : Runs M_X9_gainOf 2 [.inr 70, .inl x1] h (Qi res) := by
  refine Runs.of rfl (Nat.le_of_ble_eq_true rfl) ?_
  show Go M_X9_gainOf 2 0 [some (.inr 70), some (.inl x1)] [] h (Qi res)
  unfold F_X9_gainOf at H
  refine g_iload_n (T_X9_gainOf 0 _ _ _ rfl) rfl ?_
  refine g_iconst (T_X9_gainOf 1 _ _ _ rfl) ⟨by decide, by decide⟩ ?_
  refine g_bipush (T_X9_gainOf 2 _ _ _ rfl) (by decide) ?_
  obtain ⟨y2, h1, hq, H⟩ := bd_some H
  refine g_callSNi (M' := M_X11_isWithin) (av := [.inl x1, .inl 0, .inl 13]) (st := []) (T_X9_gainOf 3 _ _ _ rfl) ml_X9_105 cb_X11_isWithin rfl (Nat.le_of_ble_eq_true rfl) (by omega) (R_X11_isWithin N _ _ _ _ _ hq) ?_
  refine g_if_eq (tgt := 19) (T_X9_gainOf 4 _ _ _ rfl) (by decide) (fun cc => ?_) (fun cc => ?_)
  · replace H := ite_p cc H
    refine g_iconst (T_X9_gainOf 10 _ _ _ rfl) ⟨by decide, by decide⟩ ?_
    exact g_iret (T_X9_gainOf 11 _ _ _ rfl) rfl (qi_of H)
  · replace H := ite_n cc H
    refine g_aload_n (T_X9_gainOf 5 _ _ _ rfl) rfl ?_
    refine g_getR (c := 69) (r := 73) (T_X9_gainOf 6 _ _ _ rfl) fl_X9_18 rfl (nR rfl) rfl (by decide) ?_
    refine g_iload_n (T_X9_gainOf 7 _ _ _ rfl) rfl ?_
    obtain ⟨hg, H⟩ := grd_some H
    refine g_iald (c := 72) (T_X9_gainOf 8 _ _ _ rfl) rfl hg ?_
    refine g_goto (tgt := 20) (T_X9_gainOf 9 _ _ _ rfl) (by decide) ?_
    exact g_iret (T_X9_gainOf 11 _ _ _ rfl) rfl (qi_of H)
def L_X11_out_53 (N : Nat) : Nat → Int → Int → Int → Int → Int → Hp → Option (Int × Hp)
  | 0, _, _, _, _, _, _ => none
  | n + 1, x1, x2, x3, x4, x5, h =>
    if x1 ≤ x5 then
      if x2 = 0 then
        some (x4, h)
      else
      some (x3, h)
    else
    bd (F_X9_bestGainBeside N x3 h) fun y2 h1 =>
    bnd ((ior x3 (ishl 1 y2))) fun y3 =>
    bd (F_X9_gainOf N y2 h1) fun y5 h4 =>
    bnd ((w32 (x4 + y5))) fun y6 =>
    bnd (w32 (x5 + 1)) fun y7 =>
    (L_X11_out_53 N n) x1 x2 y3 y6 y7 h4
set_option maxRecDepth 100000 in
set_option maxHeartbeats 4000000 in
theorem R_L_X11_out_53 (N : Nat) : ∀ (n : Nat) (x1 : Int) (x2 : Int) (x3 : Int) (x4 : Int) (x5 : Int) (h : Hp) (res : Int × Hp), L_X11_out_53 N n x1 x2 x3 x4 x5 h = some res → Go M_X11_out 6 53 [some (.inr 1), some (.inl x1), some (.inl x2), some (.inl x3), some (.inl x4), some (.inl x5), none] [] h (Qi res)
  | 0, _, _, _, _, _, _, _, H => by cases H
  | n + 1, x1, x2, x3, x4, x5, h, res, H => by
    have ih := R_L_X11_out_53 N n
    simp only [L_X11_out_53] at H
    refine g_iload (T_X11_out 29 _ _ _ rfl) rfl ?_
    refine g_iload_n (T_X11_out 30 _ _ _ rfl) rfl ?_
    refine g_icmp_ge (tgt := 96) (T_X11_out 31 _ _ _ rfl) (by decide) (fun cc => ?_) (fun cc => ?_)
    · replace H := ite_p cc H
      refine g_iload_n (T_X11_out 52 _ _ _ rfl) rfl ?_
      refine g_if_ne (tgt := 105) (T_X11_out 53 _ _ _ rfl) (by decide) (fun cc => ?_) (fun cc => ?_)
      · replace H := ite_n cc H
        refine g_iload_n (T_X11_out 56 _ _ _ rfl) rfl ?_
        exact g_iret (T_X11_out 57 _ _ _ rfl) rfl (qi_of H)
      · replace H := ite_p cc H
        refine g_iload (T_X11_out 54 _ _ _ rfl) rfl ?_
        refine g_goto (tgt := 106) (T_X11_out 55 _ _ _ rfl) (by decide) ?_
        exact g_iret (T_X11_out 57 _ _ _ rfl) rfl (qi_of H)
    · replace H := ite_n cc H
      refine g_aload_n (T_X11_out 32 _ _ _ rfl) rfl ?_
      refine g_getR (c := 0) (r := 70) (T_X11_out 33 _ _ _ rfl) fl_X11_78 rfl (nR rfl) rfl (by decide) ?_
      refine g_iload_n (T_X11_out 34 _ _ _ rfl) rfl ?_
      obtain ⟨y2, h1, hq, H⟩ := bd_some H
      refine g_callVi (M' := M_X9_bestGainBeside) (c := 69) (av := [.inl x3]) (st := []) (T_X11_out 35 _ _ _ rfl) ml_X11_281 cb_X9_bestGainBeside rfl rfl (Nat.le_of_ble_eq_true rfl) (by omega) (R_X9_bestGainBeside N _ _ _ hq) ?_
      refine g_istore (T_X11_out 36 _ _ _ rfl) (by decide) ?_
      refine g_iload_n (T_X11_out 37 _ _ _ rfl) rfl ?_
      refine g_iconst (T_X11_out 38 _ _ _ rfl) ⟨by decide, by decide⟩ ?_
      refine g_iload (T_X11_out 39 _ _ _ rfl) rfl ?_
      refine g_ishl (T_X11_out 40 _ _ _ rfl) ?_
      refine g_ior (T_X11_out 41 _ _ _ rfl) ?_
      refine g_bndI H fun y3 H => ?_
      refine g_istore_n (T_X11_out 42 _ _ _ rfl) (by decide) ?_
      refine g_iload (T_X11_out 43 _ _ _ rfl) rfl ?_
      refine g_aload_n (T_X11_out 44 _ _ _ rfl) rfl ?_
      refine g_getR (c := 0) (r := 70) (T_X11_out 45 _ _ _ rfl) fl_X11_78 rfl (nR rfl) rfl (by decide) ?_
      refine g_iload (T_X11_out 46 _ _ _ rfl) rfl ?_
      obtain ⟨y5, h4, hq, H⟩ := bd_some H
      refine g_callVi (M' := M_X9_gainOf) (c := 69) (av := [.inl y2]) (st := [.inl x4]) (T_X11_out 47 _ _ _ rfl) ml_X11_284 cb_X9_gainOf rfl rfl (Nat.le_of_ble_eq_true rfl) (by omega) (R_X9_gainOf N _ _ _ hq) ?_
      refine g_iadd (T_X11_out 48 _ _ _ rfl) ?_
      refine g_bndI H fun y6 H => ?_
      refine g_istore (T_X11_out 49 _ _ _ rfl) (by decide) ?_
      refine g_iincB (T_X11_out 50 _ _ _ rfl) rfl (by decide) H fun y7 H => ?_
      refine g_goto (tgt := 53) (T_X11_out 51 _ _ _ rfl) (by decide) ?_
      refine g_weak [true, true, true, true, true, true, false] ?_
      exact ih _ _ _ _ _ _ _ H
def F_X11_out (N : Nat) (x1 : Int) (x2 : Int) (h : Hp) : Option (Int × Hp) :=
  bd (F_X11_isWithin N x1 1 5 h) fun y2 h1 =>
  if y2 = 0 then
    some ((-1), h1)
  else
  bd (F_X1_toldStreets N h1) fun y4 h3 =>
  bd (F_J6_bitCount_0f7a4 N y4 h3) fun y6 h5 =>
  if y6 < x1 then
    some ((-1), h5)
  else
  bd (F_X11_isWithin N x2 0 1 h5) fun y8 h7 =>
  if y8 = 0 then
    some ((-1), h7)
  else
  bv (F_X9_reckonGains N h7) fun h9 =>
  L_X11_out_53 N  N x1 x2 0 0 0 h9
set_option maxRecDepth 100000 in
set_option maxHeartbeats 4000000 in
theorem R_X11_out (N : Nat) (x1 : Int) (x2 : Int) (h : Hp) (res : Int × Hp) (H : F_X11_out N x1 x2 h = some res) : Runs M_X11_out 6 [.inr 1, .inl x1, .inl x2] h (Qi res) := by
  refine Runs.of rfl (Nat.le_of_ble_eq_true rfl) ?_
  show Go M_X11_out 6 0 [some (.inr 1), some (.inl x1), some (.inl x2), none, none, none, none] [] h (Qi res)
  unfold F_X11_out at H
  refine g_iload_n (T_X11_out 0 _ _ _ rfl) rfl ?_
  refine g_iconst (T_X11_out 1 _ _ _ rfl) ⟨by decide, by decide⟩ ?_
  refine g_iconst (T_X11_out 2 _ _ _ rfl) ⟨by decide, by decide⟩ ?_
  obtain ⟨y2, h1, hq, H⟩ := bd_some H
  refine g_callSi (M' := M_X11_isWithin) (av := [.inl x1, .inl 1, .inl 5]) (st := []) (T_X11_out 3 _ _ _ rfl) ml_X11_96 cb_X11_isWithin rfl (Nat.le_of_ble_eq_true rfl) (by omega) (R_X11_isWithin N _ _ _ _ _ hq) ?_
  refine g_if_eq (tgt := 32) (T_X11_out 4 _ _ _ rfl) (by decide) (fun cc => ?_) (fun cc => ?_)
  · replace H := ite_p cc H
    refine g_iconst (T_X11_out 16 _ _ _ rfl) ⟨by decide, by decide⟩ ?_
    exact g_iret (T_X11_out 17 _ _ _ rfl) rfl (qi_of H)
  · replace H := ite_n cc H
    refine g_iload_n (T_X11_out 5 _ _ _ rfl) rfl ?_
    refine g_aload_n (T_X11_out 6 _ _ _ rfl) rfl ?_
    refine g_getR (c := 0) (r := 2) (T_X11_out 7 _ _ _ rfl) fl_X11_28 rfl (nR rfl) rfl (by decide) ?_
    obtain ⟨y4, h3, hq, H⟩ := bd_some H
    refine g_callVi (M' := M_X1_toldStreets) (c := 1) (av := []) (st := [.inl x1]) (T_X11_out 8 _ _ _ rfl) ml_X11_248 cb_X1_toldStreets rfl rfl (Nat.le_of_ble_eq_true rfl) (by omega) (R_X1_toldStreets N _ _ hq) ?_
    obtain ⟨y6, h5, hq, H⟩ := bd_some H
    refine g_callSi (M' := M_J6_bitCount_0f7a4) (av := [.inl y4]) (st := [.inl x1]) (T_X11_out 9 _ _ _ rfl) ml_X11_209 cb_J6_bitCount_0f7a4 rfl (Nat.le_of_ble_eq_true rfl) (by omega) (R_J6_bitCount_0f7a4 N _ _ _ hq) ?_
    refine g_icmp_gt (tgt := 32) (T_X11_out 10 _ _ _ rfl) (by decide) (fun cc => ?_) (fun cc => ?_)
    · replace H := ite_p cc H
      refine g_iconst (T_X11_out 16 _ _ _ rfl) ⟨by decide, by decide⟩ ?_
      exact g_iret (T_X11_out 17 _ _ _ rfl) rfl (qi_of H)
    · replace H := ite_n cc H
      refine g_iload_n (T_X11_out 11 _ _ _ rfl) rfl ?_
      refine g_iconst (T_X11_out 12 _ _ _ rfl) ⟨by decide, by decide⟩ ?_
      refine g_iconst (T_X11_out 13 _ _ _ rfl) ⟨by decide, by decide⟩ ?_
      obtain ⟨y8, h7, hq, H⟩ := bd_some H
      refine g_callSi (M' := M_X11_isWithin) (av := [.inl x2, .inl 0, .inl 1]) (st := []) (T_X11_out 14 _ _ _ rfl) ml_X11_96 cb_X11_isWithin rfl (Nat.le_of_ble_eq_true rfl) (by omega) (R_X11_isWithin N _ _ _ _ _ hq) ?_
      refine g_if_ne (tgt := 34) (T_X11_out 15 _ _ _ rfl) (by decide) (fun cc => ?_) (fun cc => ?_)
      · replace H := ite_n cc H
        refine g_aload_n (T_X11_out 18 _ _ _ rfl) rfl ?_
        refine g_getR (c := 0) (r := 70) (T_X11_out 19 _ _ _ rfl) fl_X11_78 rfl (nR rfl) rfl (by decide) ?_
        refine g_aload_n (T_X11_out 20 _ _ _ rfl) rfl ?_
        refine g_getR (c := 0) (r := 12) (T_X11_out 21 _ _ _ rfl) fl_X11_36 rfl (nR rfl) rfl (by decide) ?_
        obtain ⟨h9, hq, H⟩ := bv_some H
        refine g_callVv (M' := M_X9_reckonGains) (c := 69) (av := [.inr 12]) (st := []) (T_X11_out 22 _ _ _ rfl) ml_X11_278 cb_X9_reckonGains rfl rfl (Nat.le_of_ble_eq_true rfl) (by omega) (R_X9_reckonGains N _ _ hq) ?_
        refine g_iconst (T_X11_out 23 _ _ _ rfl) ⟨by decide, by decide⟩ ?_
        refine g_istore_n (T_X11_out 24 _ _ _ rfl) (by decide) ?_
        refine g_iconst (T_X11_out 25 _ _ _ rfl) ⟨by decide, by decide⟩ ?_
        refine g_istore (T_X11_out 26 _ _ _ rfl) (by decide) ?_
        refine g_iconst (T_X11_out 27 _ _ _ rfl) ⟨by decide, by decide⟩ ?_
        refine g_istore (T_X11_out 28 _ _ _ rfl) (by decide) ?_
        refine g_weak [true, true, true, true, true, true, false] ?_
        refine R_L_X11_out_53 N   _ _ _ _ _ _ _ _ H
      · replace H := ite_p cc H
        refine g_iconst (T_X11_out 16 _ _ _ rfl) ⟨by decide, by decide⟩ ?_
        exact g_iret (T_X11_out 17 _ _ _ rfl) rfl (qi_of H)
def J_X6_giveTo_42 (N : Nat) (rc : Int → Hp → Option (Hp)) (x1 : Int) (x2 : Int) (h : Hp) : Option (Hp) :=
  grd (0 ≤ x1 ∧ x1 < 3) <|
  grd (0 ≤ x2 ∧ x2 < 8) <|
  grd (0 ≤ x1 ∧ x1 < 3) <|
  bnd (hw h 77 x1.toNat (w32 ((h 77 x1.toNat) - (h 74 x2.toNat)))) fun h1 =>
  some h1
set_option maxRecDepth 100000 in
set_option maxHeartbeats 4000000 in
theorem R_J_X6_giveTo_42 (N : Nat) (rc : Int → Hp → Option (Hp)) (dr : Nat) (hrc : ∀ (a0 : Int) (h : Hp) (res : Hp), rc a0 h = some res → Runs M_X6_give dr [.inr 74, .inl a0] h (Qv res)) (x1 : Int) (x2 : Int) (h : Hp) (res : Hp) (H : J_X6_giveTo_42 N rc x1 x2 h = some res) : Go M_X6_giveTo (dr + 1) 42 [some (.inr 74), some (.inl x1), some (.inl x2)] [] h (Qv res) := by
  unfold J_X6_giveTo_42 at H
  refine g_aload_n (T_X6_giveTo 28 _ _ _ rfl) rfl ?_
  refine g_getR (c := 73) (r := 78) (T_X6_giveTo 29 _ _ _ rfl) fl_X6_21 rfl (nR rfl) rfl (by decide) ?_
  refine g_iload_n (T_X6_giveTo 30 _ _ _ rfl) rfl ?_
  refine g_dup2 (T_X6_giveTo 31 _ _ _ rfl) ?_
  obtain ⟨hg, H⟩ := grd_some H
  refine g_iald (c := 77) (T_X6_giveTo 32 _ _ _ rfl) rfl hg ?_
  refine g_aload_n (T_X6_giveTo 33 _ _ _ rfl) rfl ?_
  refine g_getR (c := 73) (r := 75) (T_X6_giveTo 34 _ _ _ rfl) fl_X6_9 rfl (nR rfl) rfl (by decide) ?_
  refine g_iload_n (T_X6_giveTo 35 _ _ _ rfl) rfl ?_
  obtain ⟨hg, H⟩ := grd_some H
  refine g_iald (c := 74) (T_X6_giveTo 36 _ _ _ rfl) rfl hg ?_
  refine g_isub (T_X6_giveTo 37 _ _ _ rfl) ?_
  obtain ⟨hg, H⟩ := grd_some H
  refine g_iast (c := 77) (T_X6_giveTo 38 _ _ _ rfl) rfl hg ?_
  refine g_bndH H fun h1 H => ?_
  exact g_vret (T_X6_giveTo 39 _ _ _ rfl) rfl (qv_of H)
def F_X6_giveTo (N : Nat) (rc : Int → Hp → Option (Hp)) (x1 : Int) (x2 : Int) (h : Hp) : Option (Hp) :=
  grd (0 ≤ x2 ∧ x2 < 8) <|
  bnd (hw h 75 x2.toNat x1) fun h1 =>
  grd (0 ≤ x1 ∧ x1 < 3) <|
  grd (0 ≤ x2 ∧ x2 < 8) <|
  grd (0 ≤ x1 ∧ x1 < 3) <|
  bnd (hw h1 77 x1.toNat (w32 ((h1 77 x1.toNat) + (h1 74 x2.toNat)))) fun h2 =>
  grd (0 ≤ x1 ∧ x1 < 3) <|
  if (h2 73 6) ≤ (h2 77 x1.toNat) then
    J_X6_giveTo_42 N rc  x1 x2 h2
  else
  bv (rc (w32 (x2 + 1)) h2) fun h3 =>
  J_X6_giveTo_42 N rc  x1 x2 h3
set_option maxRecDepth 100000 in
set_option maxHeartbeats 4000000 in
theorem R_X6_giveTo (N : Nat) (rc : Int → Hp → Option (Hp)) (dr : Nat) (hrc : ∀ (a0 : Int) (h : Hp) (res : Hp), rc a0 h = some res → Runs M_X6_give dr [.inr 74, .inl a0] h (Qv res)) (x1 : Int) (x2 : Int) (h : Hp) (res : Hp) (H : F_X6_giveTo N rc x1 x2 h = some res) : Runs M_X6_giveTo (dr + 1) [.inr 74, .inl x1, .inl x2] h (Qv res) := by
  refine Runs.of rfl (Nat.le_of_ble_eq_true rfl) ?_
  show Go M_X6_giveTo (dr + 1) 0 [some (.inr 74), some (.inl x1), some (.inl x2)] [] h (Qv res)
  unfold F_X6_giveTo at H
  refine g_aload_n (T_X6_giveTo 0 _ _ _ rfl) rfl ?_
  refine g_getR (c := 73) (r := 76) (T_X6_giveTo 1 _ _ _ rfl) fl_X6_15 rfl (nR rfl) rfl (by decide) ?_
  refine g_iload_n (T_X6_giveTo 2 _ _ _ rfl) rfl ?_
  refine g_iload_n (T_X6_giveTo 3 _ _ _ rfl) rfl ?_
  obtain ⟨hg, H⟩ := grd_some H
  refine g_iast (c := 75) (T_X6_giveTo 4 _ _ _ rfl) rfl hg ?_
  refine g_bndH H fun h1 H => ?_
  refine g_aload_n (T_X6_giveTo 5 _ _ _ rfl) rfl ?_
  refine g_getR (c := 73) (r := 78) (T_X6_giveTo 6 _ _ _ rfl) fl_X6_21 rfl (nR rfl) rfl (by decide) ?_
  refine g_iload_n (T_X6_giveTo 7 _ _ _ rfl) rfl ?_
  refine g_dup2 (T_X6_giveTo 8 _ _ _ rfl) ?_
  obtain ⟨hg, H⟩ := grd_some H
  refine g_iald (c := 77) (T_X6_giveTo 9 _ _ _ rfl) rfl hg ?_
  refine g_aload_n (T_X6_giveTo 10 _ _ _ rfl) rfl ?_
  refine g_getR (c := 73) (r := 75) (T_X6_giveTo 11 _ _ _ rfl) fl_X6_9 rfl (nR rfl) rfl (by decide) ?_
  refine g_iload_n (T_X6_giveTo 12 _ _ _ rfl) rfl ?_
  obtain ⟨hg, H⟩ := grd_some H
  refine g_iald (c := 74) (T_X6_giveTo 13 _ _ _ rfl) rfl hg ?_
  refine g_iadd (T_X6_giveTo 14 _ _ _ rfl) ?_
  obtain ⟨hg, H⟩ := grd_some H
  refine g_iast (c := 77) (T_X6_giveTo 15 _ _ _ rfl) rfl hg ?_
  refine g_bndH H fun h2 H => ?_
  refine g_aload_n (T_X6_giveTo 16 _ _ _ rfl) rfl ?_
  refine g_getR (c := 73) (r := 78) (T_X6_giveTo 17 _ _ _ rfl) fl_X6_21 rfl (nR rfl) rfl (by decide) ?_
  refine g_iload_n (T_X6_giveTo 18 _ _ _ rfl) rfl ?_
  obtain ⟨hg, H⟩ := grd_some H
  refine g_iald (c := 77) (T_X6_giveTo 19 _ _ _ rfl) rfl hg ?_
  refine g_aload_n (T_X6_giveTo 20 _ _ _ rfl) rfl ?_
  refine g_getI (c := 73) (T_X6_giveTo 21 _ _ _ rfl) fl_X6_24 rfl (Or.inl rfl) ?_
  refine g_icmp_ge (tgt := 42) (T_X6_giveTo 22 _ _ _ rfl) (by decide) (fun cc => ?_) (fun cc => ?_)
  · replace H := ite_p cc H
    refine g_weak [true, true, true] ?_
    exact R_J_X6_giveTo_42 N rc  dr hrc  _ _ _ _ H
  · replace H := ite_n cc H
    refine g_aload_n (T_X6_giveTo 23 _ _ _ rfl) rfl ?_
    refine g_iload_n (T_X6_giveTo 24 _ _ _ rfl) rfl ?_
    refine g_iconst (T_X6_giveTo 25 _ _ _ rfl) ⟨by decide, by decide⟩ ?_
    refine g_iadd (T_X6_giveTo 26 _ _ _ rfl) ?_
    obtain ⟨h3, hq, H⟩ := bv_some H
    refine g_callVv (M' := M_X6_give) (c := 73) (av := [.inl (w32 (x2 + 1))]) (st := []) (T_X6_giveTo 27 _ _ _ rfl) ml_X6_53 cb_X6_give rfl rfl (Nat.le_of_ble_eq_true rfl) (by omega) (hrc _ _ _ hq) ?_
    refine g_weak [true, true, true] ?_
    exact R_J_X6_giveTo_42 N rc  dr hrc  _ _ _ _ H
def L_X6_keepRow_4 (N : Nat) : Nat → Int → Int → Hp → Option (Hp)
  | 0, _, _, _ => none
  | n + 1, x1, x2, h =>
    if (h 73 5) ≤ x2 then
      if (h 73 6) ≤ x1 then
        some h
      else
      bnd (hw h 73 6 x1) fun h1 =>
      bnd (hcp h1 75 (0 : Int).toNat 76 (0 : Int).toNat (8 : Int).toNat) fun h2 =>
      some h2
    else
    grd (0 ≤ x2 ∧ x2 < 3) <|
    bnd ((imax x1 (h 77 x2.toNat))) fun y3 =>
    bnd (w32 (x2 + 1)) fun y4 =>
    (L_X6_keepRow_4 N n) y3 y4 h
set_option maxRecDepth 100000 in
set_option maxHeartbeats 4000000 in
theorem R_L_X6_keepRow_4 (N : Nat) : ∀ (n : Nat) (x1 : Int) (x2 : Int) (h : Hp) (res : Hp), L_X6_keepRow_4 N n x1 x2 h = some res → Go M_X6_keepRow 1 4 [some (.inr 74), some (.inl x1), some (.inl x2)] [] h (Qv res)
  | 0, _, _, _, _, H => by cases H
  | n + 1, x1, x2, h, res, H => by
    have ih := R_L_X6_keepRow_4 N n
    simp only [L_X6_keepRow_4] at H
    refine g_iload_n (T_X6_keepRow 4 _ _ _ rfl) rfl ?_
    refine g_aload_n (T_X6_keepRow 5 _ _ _ rfl) rfl ?_
    refine g_getI (c := 73) (T_X6_keepRow 6 _ _ _ rfl) fl_X6_41 rfl (Or.inl rfl) ?_
    refine g_icmp_ge (tgt := 29) (T_X6_keepRow 7 _ _ _ rfl) (by decide) (fun cc => ?_) (fun cc => ?_)
    · replace H := ite_p cc H
      refine g_iload_n (T_X6_keepRow 17 _ _ _ rfl) rfl ?_
      refine g_aload_n (T_X6_keepRow 18 _ _ _ rfl) rfl ?_
      refine g_getI (c := 73) (T_X6_keepRow 19 _ _ _ rfl) fl_X6_24 rfl (Or.inl rfl) ?_
      refine g_icmp_ge (tgt := 57) (T_X6_keepRow 20 _ _ _ rfl) (by decide) (fun cc => ?_) (fun cc => ?_)
      · replace H := ite_p cc H
        exact g_vret (T_X6_keepRow 32 _ _ _ rfl) rfl (qv_of H)
      · replace H := ite_n cc H
        refine g_aload_n (T_X6_keepRow 21 _ _ _ rfl) rfl ?_
        refine g_iload_n (T_X6_keepRow 22 _ _ _ rfl) rfl ?_
        refine g_put (c := 73) (T_X6_keepRow 23 _ _ _ rfl) fl_X6_24 rfl (Or.inl rfl) ?_
        refine g_bndH H fun h1 H => ?_
        refine g_aload_n (T_X6_keepRow 24 _ _ _ rfl) rfl ?_
        refine g_getR (c := 73) (r := 76) (T_X6_keepRow 25 _ _ _ rfl) fl_X6_15 rfl (nR rfl) rfl (by decide) ?_
        refine g_iconst (T_X6_keepRow 26 _ _ _ rfl) ⟨by decide, by decide⟩ ?_
        refine g_aload_n (T_X6_keepRow 27 _ _ _ rfl) rfl ?_
        refine g_getR (c := 73) (r := 77) (T_X6_keepRow 28 _ _ _ rfl) fl_X6_18 rfl (nR rfl) rfl (by decide) ?_
        refine g_iconst (T_X6_keepRow 29 _ _ _ rfl) ⟨by decide, by decide⟩ ?_
        refine g_bipush (T_X6_keepRow 30 _ _ _ rfl) (by decide) ?_
        refine g_copy (c0 := 75) (c1 := 76) (n0 := 8) (n1 := 8) (st := []) (T_X6_keepRow 31 _ _ _ rfl) ml_X6_67 wcopy rfl rfl (by decide) (Nat.le_of_ble_eq_true rfl) (by omega) ?_
        refine g_bndH H fun h2 H => ?_
        exact g_vret (T_X6_keepRow 32 _ _ _ rfl) rfl (qv_of H)
    · replace H := ite_n cc H
      refine g_iload_n (T_X6_keepRow 8 _ _ _ rfl) rfl ?_
      refine g_aload_n (T_X6_keepRow 9 _ _ _ rfl) rfl ?_
      refine g_getR (c := 73) (r := 78) (T_X6_keepRow 10 _ _ _ rfl) fl_X6_21 rfl (nR rfl) rfl (by decide) ?_
      refine g_iload_n (T_X6_keepRow 11 _ _ _ rfl) rfl ?_
      obtain ⟨hg, H⟩ := grd_some H
      refine g_iald (c := 77) (T_X6_keepRow 12 _ _ _ rfl) rfl hg ?_
      refine g_max (st := []) (T_X6_keepRow 13 _ _ _ rfl) ml_X6_64 wmax (Nat.le_of_ble_eq_true rfl) (by omega) ?_
      refine g_bndI H fun y3 H => ?_
      refine g_istore_n (T_X6_keepRow 14 _ _ _ rfl) (by decide) ?_
      refine g_iincB (T_X6_keepRow 15 _ _ _ rfl) rfl (by decide) H fun y4 H => ?_
      refine g_goto (tgt := 4) (T_X6_keepRow 16 _ _ _ rfl) (by decide) ?_
      refine g_weak [true, true, true] ?_
      exact ih _ _ _ _ H
def F_X6_keepRow (N : Nat) (h : Hp) : Option (Hp) :=
  L_X6_keepRow_4 N  N 0 0 h
set_option maxRecDepth 100000 in
set_option maxHeartbeats 4000000 in
theorem R_X6_keepRow (N : Nat) (h : Hp) (res : Hp) (H : F_X6_keepRow N h = some res) : Runs M_X6_keepRow 1 [.inr 74] h (Qv res) := by
  refine Runs.of rfl (Nat.le_of_ble_eq_true rfl) ?_
  show Go M_X6_keepRow 1 0 [some (.inr 74), none, none] [] h (Qv res)
  unfold F_X6_keepRow at H
  refine g_iconst (T_X6_keepRow 0 _ _ _ rfl) ⟨by decide, by decide⟩ ?_
  refine g_istore_n (T_X6_keepRow 1 _ _ _ rfl) (by decide) ?_
  refine g_iconst (T_X6_keepRow 2 _ _ _ rfl) ⟨by decide, by decide⟩ ?_
  refine g_istore_n (T_X6_keepRow 3 _ _ _ rfl) (by decide) ?_
  refine g_weak [true, true, true] ?_
  refine R_L_X6_keepRow_4 N   _ _ _ _ _ H
def L_X6_give_15 (N : Nat) (rc : Int → Hp → Option (Hp)) : Nat → Int → Int → Hp → Option (Hp)
  | 0, _, _, _ => none
  | n + 1, x1, x2, h =>
    if (h 73 5) ≤ x2 then
      some h
    else
    bv (F_X6_giveTo N rc x2 x1 h) fun h1 =>
    bnd (w32 (x2 + 1)) fun y2 =>
    (L_X6_give_15 N rc n) x1 y2 h1
set_option maxRecDepth 100000 in
set_option maxHeartbeats 4000000 in
theorem R_L_X6_give_15 (N : Nat) (rc : Int → Hp → Option (Hp)) (dr : Nat) (hrc : ∀ (a0 : Int) (h : Hp) (res : Hp), rc a0 h = some res → Runs M_X6_give dr [.inr 74, .inl a0] h (Qv res)) : ∀ (n : Nat) (x1 : Int) (x2 : Int) (h : Hp) (res : Hp), L_X6_give_15 N rc n x1 x2 h = some res → Go M_X6_give (dr + 2) 15 [some (.inr 74), some (.inl x1), some (.inl x2)] [] h (Qv res)
  | 0, _, _, _, _, H => by cases H
  | n + 1, x1, x2, h, res, H => by
    have ih := R_L_X6_give_15 N rc dr hrc n
    simp only [L_X6_give_15] at H
    refine g_iload_n (T_X6_give 9 _ _ _ rfl) rfl ?_
    refine g_aload_n (T_X6_give 10 _ _ _ rfl) rfl ?_
    refine g_getI (c := 73) (T_X6_give 11 _ _ _ rfl) fl_X6_41 rfl (Or.inl rfl) ?_
    refine g_icmp_ge (tgt := 35) (T_X6_give 12 _ _ _ rfl) (by decide) (fun cc => ?_) (fun cc => ?_)
    · replace H := ite_p cc H
      exact g_vret (T_X6_give 19 _ _ _ rfl) rfl (qv_of H)
    · replace H := ite_n cc H
      refine g_aload_n (T_X6_give 13 _ _ _ rfl) rfl ?_
      refine g_iload_n (T_X6_give 14 _ _ _ rfl) rfl ?_
      refine g_iload_n (T_X6_give 15 _ _ _ rfl) rfl ?_
      obtain ⟨h1, hq, H⟩ := bv_some H
      refine g_callVv (M' := M_X6_giveTo) (c := 73) (av := [.inl x2, .inl x1]) (st := []) (T_X6_give 16 _ _ _ rfl) ml_X6_60 cb_X6_giveTo rfl rfl (Nat.le_of_ble_eq_true rfl) (by omega) (R_X6_giveTo N rc dr hrc _ _ _ _ hq) ?_
      refine g_iincB (T_X6_give 17 _ _ _ rfl) rfl (by decide) H fun y2 H => ?_
      refine g_goto (tgt := 15) (T_X6_give 18 _ _ _ rfl) (by decide) ?_
      refine g_weak [true, true, true] ?_
      exact ih _ _ _ _ H
def O_X6_give (N : Nat) (rc : Int → Hp → Option (Hp)) (x1 : Int) (h : Hp) : Option (Hp) :=
  if x1 < (h 73 4) then
    L_X6_give_15 N rc  N x1 0 h
  else
  bv (F_X6_keepRow N h) fun h1 =>
  some h1
set_option maxRecDepth 100000 in
set_option maxHeartbeats 4000000 in
theorem RO_X6_give (N : Nat) (rc : Int → Hp → Option (Hp)) (dr : Nat) (hrc : ∀ (a0 : Int) (h : Hp) (res : Hp), rc a0 h = some res → Runs M_X6_give dr [.inr 74, .inl a0] h (Qv res)) (x1 : Int) (h : Hp) (res : Hp) (H : O_X6_give N rc x1 h = some res) : Runs M_X6_give (dr + 2) [.inr 74, .inl x1] h (Qv res) := by
  refine Runs.of rfl (Nat.le_of_ble_eq_true rfl) ?_
  show Go M_X6_give (dr + 2) 0 [some (.inr 74), some (.inl x1), none] [] h (Qv res)
  unfold O_X6_give at H
  refine g_iload_n (T_X6_give 0 _ _ _ rfl) rfl ?_
  refine g_aload_n (T_X6_give 1 _ _ _ rfl) rfl ?_
  refine g_getI (c := 73) (T_X6_give 2 _ _ _ rfl) fl_X6_38 rfl (Or.inl rfl) ?_
  refine g_icmp_lt (tgt := 13) (T_X6_give 3 _ _ _ rfl) (by decide) (fun cc => ?_) (fun cc => ?_)
  · replace H := ite_p cc H
    refine g_iconst (T_X6_give 7 _ _ _ rfl) ⟨by decide, by decide⟩ ?_
    refine g_istore_n (T_X6_give 8 _ _ _ rfl) (by decide) ?_
    refine g_weak [true, true, true] ?_
    refine R_L_X6_give_15 N rc  dr hrc  _ _ _ _ _ H
  · replace H := ite_n cc H
    refine g_aload_n (T_X6_give 4 _ _ _ rfl) rfl ?_
    obtain ⟨h1, hq, H⟩ := bv_some H
    refine g_callVv (M' := M_X6_keepRow) (c := 73) (av := []) (st := []) (T_X6_give 5 _ _ _ rfl) ml_X6_57 cb_X6_keepRow rfl rfl (Nat.le_of_ble_eq_true rfl) (by omega) (R_X6_keepRow N _ _ hq) ?_
    exact g_vret (T_X6_give 6 _ _ _ rfl) rfl (qv_of H)
def F_X6_give (N : Nat) : Nat → Int → Hp → Option (Hp)
  | 0, _, _ => none
  | D + 1, x1, h => O_X6_give N (F_X6_give N D) x1 h
set_option maxRecDepth 100000 in
set_option maxHeartbeats 4000000 in
theorem R_X6_give (N : Nat) : ∀ (D : Nat) (x1 : Int) (h : Hp) (res : Hp), F_X6_give N D x1 h = some res → Runs M_X6_give (2 * D + 1) [.inr 74, .inl x1] h (Qv res)
  | 0, _, _, _, H => by cases H
  | D + 1, x1, h, res, H => by
    simp only [F_X6_give] at H
    have e : 2 * (D + 1) + 1 = 2 * D + 1 + 2 := by omega
    rw [e]
    exact RO_X6_give N (F_X6_give N D) (2 * D + 1) (R_X6_give N D) _ _ _ H
def L_X6_find_53 (N : Nat) : Nat → Int → Hp → Option (Hp)
  | 0, _, _ => none
  | n + 1, x4, h =>
    if (h 73 5) ≤ x4 then
      bnd (hw h 73 6 2147483647) fun h1 =>
      bv (F_X6_give N 10 0 h1) fun h2 =>
      some h2
    else
    grd (0 ≤ x4 ∧ x4 < 3) <|
    bnd (hw h 77 x4.toNat 0) fun h3 =>
    bnd (w32 (x4 + 1)) fun y4 =>
    (L_X6_find_53 N n) y4 h3
set_option maxRecDepth 100000 in
set_option maxHeartbeats 4000000 in
theorem R_L_X6_find_53 (N : Nat) : ∀ (n : Nat) (x4 : Int) (h : Hp) (res : Hp), L_X6_find_53 N n x4 h = some res → Go M_X6_find 22 53 [some (.inr 74), none, none, none, some (.inl x4)] [] h (Qv res)
  | 0, _, _, _, H => by cases H
  | n + 1, x4, h, res, H => by
    have ih := R_L_X6_find_53 N n
    simp only [L_X6_find_53] at H
    refine g_iload (T_X6_find 27 _ _ _ rfl) rfl ?_
    refine g_aload_n (T_X6_find 28 _ _ _ rfl) rfl ?_
    refine g_getI (c := 73) (T_X6_find 29 _ _ _ rfl) fl_X6_41 rfl (Or.inl rfl) ?_
    refine g_icmp_ge (tgt := 76) (T_X6_find 30 _ _ _ rfl) (by decide) (fun cc => ?_) (fun cc => ?_)
    · replace H := ite_p cc H
      refine g_aload_n (T_X6_find 38 _ _ _ rfl) rfl ?_
      refine g_ldc (T_X6_find 39 _ _ _ rfl) kc_X6_52 ⟨by decide, by decide⟩ ?_
      refine g_put (c := 73) (T_X6_find 40 _ _ _ rfl) fl_X6_24 rfl (Or.inl rfl) ?_
      refine g_bndH H fun h1 H => ?_
      refine g_aload_n (T_X6_find 41 _ _ _ rfl) rfl ?_
      refine g_iconst (T_X6_find 42 _ _ _ rfl) ⟨by decide, by decide⟩ ?_
      obtain ⟨h2, hq, H⟩ := bv_some H
      refine g_callVv (M' := M_X6_give) (c := 73) (av := [.inl 0]) (st := []) (T_X6_find 43 _ _ _ rfl) ml_X6_53 cb_X6_give rfl rfl (Nat.le_of_ble_eq_true rfl) (by omega) (R_X6_give N  10 _ _ _ hq) ?_
      exact g_vret (T_X6_find 44 _ _ _ rfl) rfl (qv_of H)
    · replace H := ite_n cc H
      refine g_aload_n (T_X6_find 31 _ _ _ rfl) rfl ?_
      refine g_getR (c := 73) (r := 78) (T_X6_find 32 _ _ _ rfl) fl_X6_21 rfl (nR rfl) rfl (by decide) ?_
      refine g_iload (T_X6_find 33 _ _ _ rfl) rfl ?_
      refine g_iconst (T_X6_find 34 _ _ _ rfl) ⟨by decide, by decide⟩ ?_
      obtain ⟨hg, H⟩ := grd_some H
      refine g_iast (c := 77) (T_X6_find 35 _ _ _ rfl) rfl hg ?_
      refine g_bndH H fun h3 H => ?_
      refine g_iincB (T_X6_find 36 _ _ _ rfl) rfl (by decide) H fun y4 H => ?_
      refine g_goto (tgt := 53) (T_X6_find 37 _ _ _ rfl) (by decide) ?_
      refine g_weak [true, false, false, false, true] ?_
      exact ih _ _ _ H
def L_X6_find_22 (N : Nat) : Nat → Int → Hp → Option (Hp)
  | 0, _, _ => none
  | n + 1, x4, h =>
    if (h 73 4) ≤ x4 then
      L_X6_find_53 N  N 0 h
    else
    bd (F_X10_at N x4 h) fun y2 h1 =>
    grd (0 ≤ x4 ∧ x4 < 8) <|
    bnd (hw h1 74 x4.toNat y2) fun h3 =>
    bnd (w32 (x4 + 1)) fun y4 =>
    (L_X6_find_22 N n) y4 h3
set_option maxRecDepth 100000 in
set_option maxHeartbeats 4000000 in
theorem R_L_X6_find_22 (N : Nat) : ∀ (n : Nat) (x4 : Int) (h : Hp) (res : Hp), L_X6_find_22 N n x4 h = some res → Go M_X6_find 22 22 [some (.inr 74), some (.inr 42), none, none, some (.inl x4)] [] h (Qv res)
  | 0, _, _, _, H => by cases H
  | n + 1, x4, h, res, H => by
    have ih := R_L_X6_find_22 N n
    simp only [L_X6_find_22] at H
    refine g_iload (T_X6_find 12 _ _ _ rfl) rfl ?_
    refine g_aload_n (T_X6_find 13 _ _ _ rfl) rfl ?_
    refine g_getI (c := 73) (T_X6_find 14 _ _ _ rfl) fl_X6_38 rfl (Or.inl rfl) ?_
    refine g_icmp_ge (tgt := 50) (T_X6_find 15 _ _ _ rfl) (by decide) (fun cc => ?_) (fun cc => ?_)
    · replace H := ite_p cc H
      refine g_iconst (T_X6_find 25 _ _ _ rfl) ⟨by decide, by decide⟩ ?_
      refine g_istore (T_X6_find 26 _ _ _ rfl) (by decide) ?_
      refine g_weak [true, false, false, false, true] ?_
      refine R_L_X6_find_53 N   _ _ _ _ H
    · replace H := ite_n cc H
      refine g_aload_n (T_X6_find 16 _ _ _ rfl) rfl ?_
      refine g_getR (c := 73) (r := 75) (T_X6_find 17 _ _ _ rfl) fl_X6_9 rfl (nR rfl) rfl (by decide) ?_
      refine g_iload (T_X6_find 18 _ _ _ rfl) rfl ?_
      refine g_aload_n (T_X6_find 19 _ _ _ rfl) rfl ?_
      refine g_iload (T_X6_find 20 _ _ _ rfl) rfl ?_
      obtain ⟨y2, h1, hq, H⟩ := bd_some H
      refine g_callVi (M' := M_X10_at) (c := 41) (av := [.inl x4]) (st := [.inl x4, .inr 75]) (T_X6_find 21 _ _ _ rfl) ml_X6_44 cb_X10_at rfl rfl (Nat.le_of_ble_eq_true rfl) (by omega) (R_X10_at N _ _ _ hq) ?_
      obtain ⟨hg, H⟩ := grd_some H
      refine g_iast (c := 74) (T_X6_find 22 _ _ _ rfl) rfl hg ?_
      refine g_bndH H fun h3 H => ?_
      refine g_iincB (T_X6_find 23 _ _ _ rfl) rfl (by decide) H fun y4 H => ?_
      refine g_goto (tgt := 22) (T_X6_find 24 _ _ _ rfl) (by decide) ?_
      refine g_weak [true, true, false, false, true] ?_
      exact ih _ _ _ H
def F_X6_find (N : Nat) (x2 : Int) (x3 : Int) (h : Hp) : Option (Hp) :=
  bnd (hw h 73 4 (imin x2 8)) fun h1 =>
  bnd (hw h1 73 5 (imin x3 3)) fun h2 =>
  L_X6_find_22 N  N 0 h2
set_option maxRecDepth 100000 in
set_option maxHeartbeats 4000000 in
theorem R_X6_find (N : Nat) (x2 : Int) (x3 : Int) (h : Hp) (res : Hp) (H : F_X6_find N x2 x3 h = some res) : Runs M_X6_find 22 [.inr 74, .inr 42, .inl x2, .inl x3] h (Qv res) := by
  refine Runs.of rfl (Nat.le_of_ble_eq_true rfl) ?_
  show Go M_X6_find 22 0 [some (.inr 74), some (.inr 42), some (.inl x2), some (.inl x3), none] [] h (Qv res)
  unfold F_X6_find at H
  refine g_aload_n (T_X6_find 0 _ _ _ rfl) rfl ?_
  refine g_iload_n (T_X6_find 1 _ _ _ rfl) rfl ?_
  refine g_bipush (T_X6_find 2 _ _ _ rfl) (by decide) ?_
  refine g_min (st := [.inr 74]) (T_X6_find 3 _ _ _ rfl) ml_X6_32 wmin (Nat.le_of_ble_eq_true rfl) (by omega) ?_
  refine g_put (c := 73) (T_X6_find 4 _ _ _ rfl) fl_X6_38 rfl (Or.inl rfl) ?_
  refine g_bndH H fun h1 H => ?_
  refine g_aload_n (T_X6_find 5 _ _ _ rfl) rfl ?_
  refine g_iload_n (T_X6_find 6 _ _ _ rfl) rfl ?_
  refine g_iconst (T_X6_find 7 _ _ _ rfl) ⟨by decide, by decide⟩ ?_
  refine g_min (st := [.inr 74]) (T_X6_find 8 _ _ _ rfl) ml_X6_32 wmin (Nat.le_of_ble_eq_true rfl) (by omega) ?_
  refine g_put (c := 73) (T_X6_find 9 _ _ _ rfl) fl_X6_41 rfl (Or.inl rfl) ?_
  refine g_bndH H fun h2 H => ?_
  refine g_iconst (T_X6_find 10 _ _ _ rfl) ⟨by decide, by decide⟩ ?_
  refine g_istore (T_X6_find 11 _ _ _ rfl) (by decide) ?_
  refine g_weak [true, true, false, false, true] ?_
  refine R_L_X6_find_22 N   _ _ _ _ H
def F_X6_cartOf (N : Nat) (x1 : Int) (h : Hp) : Option (Int × Hp) :=
  bd (F_X11_isWithin N x1 0 7 h) fun y2 h1 =>
  if y2 = 0 then
    some ((-1), h1)
  else
  grd (0 ≤ x1 ∧ x1 < 8) <|
  some ((h1 76 x1.toNat), h1)
set_option maxRecDepth 100000 in
set_option maxHeartbeats 4000000 in
theorem R_X6_cartOf (N : Nat) (x1 : Int) (h : Hp) (res : Int × Hp) (H : F_X6_cartOf N x1 h = some res) : Runs M_X6_cartOf 2 [.inr 74, .inl x1] h (Qi res) := by
  refine Runs.of rfl (Nat.le_of_ble_eq_true rfl) ?_
  show Go M_X6_cartOf 2 0 [some (.inr 74), some (.inl x1)] [] h (Qi res)
  unfold F_X6_cartOf at H
  refine g_iload_n (T_X6_cartOf 0 _ _ _ rfl) rfl ?_
  refine g_iconst (T_X6_cartOf 1 _ _ _ rfl) ⟨by decide, by decide⟩ ?_
  refine g_bipush (T_X6_cartOf 2 _ _ _ rfl) (by decide) ?_
  obtain ⟨y2, h1, hq, H⟩ := bd_some H
  refine g_callSNi (M' := M_X11_isWithin) (av := [.inl x1, .inl 0, .inl 7]) (st := []) (T_X6_cartOf 3 _ _ _ rfl) ml_X6_28 cb_X11_isWithin rfl (Nat.le_of_ble_eq_true rfl) (by omega) (R_X11_isWithin N _ _ _ _ _ hq) ?_
  refine g_if_eq (tgt := 19) (T_X6_cartOf 4 _ _ _ rfl) (by decide) (fun cc => ?_) (fun cc => ?_)
  · replace H := ite_p cc H
    refine g_iconst (T_X6_cartOf 10 _ _ _ rfl) ⟨by decide, by decide⟩ ?_
    exact g_iret (T_X6_cartOf 11 _ _ _ rfl) rfl (qi_of H)
  · replace H := ite_n cc H
    refine g_aload_n (T_X6_cartOf 5 _ _ _ rfl) rfl ?_
    refine g_getR (c := 73) (r := 77) (T_X6_cartOf 6 _ _ _ rfl) fl_X6_18 rfl (nR rfl) rfl (by decide) ?_
    refine g_iload_n (T_X6_cartOf 7 _ _ _ rfl) rfl ?_
    obtain ⟨hg, H⟩ := grd_some H
    refine g_iald (c := 76) (T_X6_cartOf 8 _ _ _ rfl) rfl hg ?_
    refine g_goto (tgt := 20) (T_X6_cartOf 9 _ _ _ rfl) (by decide) ?_
    exact g_iret (T_X6_cartOf 11 _ _ _ rfl) rfl (qi_of H)
def F_X6_longest (N : Nat) (h : Hp) : Option (Int × Hp) :=
  some ((h 73 6), h)
set_option maxRecDepth 100000 in
set_option maxHeartbeats 4000000 in
theorem R_X6_longest (N : Nat) (h : Hp) (res : Int × Hp) (H : F_X6_longest N h = some res) : Runs M_X6_longest 1 [.inr 74] h (Qi res) := by
  refine Runs.of rfl (Nat.le_of_ble_eq_true rfl) ?_
  show Go M_X6_longest 1 0 [some (.inr 74)] [] h (Qi res)
  unfold F_X6_longest at H
  refine g_aload_n (T_X6_longest 0 _ _ _ rfl) rfl ?_
  refine g_getI (c := 73) (T_X6_longest 1 _ _ _ rfl) fl_X6_24 rfl (Or.inl rfl) ?_
  exact g_iret (T_X6_longest 2 _ _ _ rfl) rfl (qi_of H)
def J_X11_partJobs_29 (N : Nat) (x1 : Int) (x2 : Int) (x3 : Int) (h : Hp) : Option (Int × Hp) :=
  bv (F_X6_find N x1 x2 h) fun h1 =>
  if x3 = 10 then
    bd (F_X6_longest N h1) fun y5 h4 =>
    some (y5, h4)
  else
  bd (F_X6_cartOf N x3 h1) fun y3 h2 =>
  some (y3, h2)
set_option maxRecDepth 100000 in
set_option maxHeartbeats 4000000 in
theorem R_J_X11_partJobs_29 (N : Nat) (x1 : Int) (x2 : Int) (x3 : Int) (h : Hp) (res : Int × Hp) (H : J_X11_partJobs_29 N x1 x2 x3 h = some res) : Go M_X11_partJobs 23 29 [some (.inr 1), some (.inl x1), some (.inl x2), some (.inl x3)] [] h (Qi res) := by
  unfold J_X11_partJobs_29 at H
  refine g_aload_n (T_X11_partJobs 17 _ _ _ rfl) rfl ?_
  refine g_getR (c := 0) (r := 74) (T_X11_partJobs 18 _ _ _ rfl) fl_X11_85 rfl (nR rfl) rfl (by decide) ?_
  refine g_aload_n (T_X11_partJobs 19 _ _ _ rfl) rfl ?_
  refine g_getR (c := 0) (r := 42) (T_X11_partJobs 20 _ _ _ rfl) fl_X11_24 rfl (nR rfl) rfl (by decide) ?_
  refine g_iload_n (T_X11_partJobs 21 _ _ _ rfl) rfl ?_
  refine g_iload_n (T_X11_partJobs 22 _ _ _ rfl) rfl ?_
  obtain ⟨h1, hq, H⟩ := bv_some H
  refine g_callVv (M' := M_X6_find) (c := 73) (av := [.inr 42, .inl x1, .inl x2]) (st := []) (T_X11_partJobs 23 _ _ _ rfl) ml_X11_351 cb_X6_find rfl rfl (Nat.le_of_ble_eq_true rfl) (by omega) (R_X6_find N _ _ _ _ hq) ?_
  refine g_iload_n (T_X11_partJobs 24 _ _ _ rfl) rfl ?_
  refine g_bipush (T_X11_partJobs 25 _ _ _ rfl) (by decide) ?_
  refine g_icmp_ne (tgt := 58) (T_X11_partJobs 26 _ _ _ rfl) (by decide) (fun cc => ?_) (fun cc => ?_)
  · replace H := ite_n cc H
    refine g_aload_n (T_X11_partJobs 31 _ _ _ rfl) rfl ?_
    refine g_getR (c := 0) (r := 74) (T_X11_partJobs 32 _ _ _ rfl) fl_X11_85 rfl (nR rfl) rfl (by decide) ?_
    refine g_iload_n (T_X11_partJobs 33 _ _ _ rfl) rfl ?_
    obtain ⟨y3, h2, hq, H⟩ := bd_some H
    refine g_callVi (M' := M_X6_cartOf) (c := 73) (av := [.inl x3]) (st := []) (T_X11_partJobs 34 _ _ _ rfl) ml_X11_357 cb_X6_cartOf rfl rfl (Nat.le_of_ble_eq_true rfl) (by omega) (R_X6_cartOf N _ _ _ hq) ?_
    exact g_iret (T_X11_partJobs 35 _ _ _ rfl) rfl (qi_of H)
  · replace H := ite_p cc H
    refine g_aload_n (T_X11_partJobs 27 _ _ _ rfl) rfl ?_
    refine g_getR (c := 0) (r := 74) (T_X11_partJobs 28 _ _ _ rfl) fl_X11_85 rfl (nR rfl) rfl (by decide) ?_
    obtain ⟨y5, h4, hq, H⟩ := bd_some H
    refine g_callVi (M' := M_X6_longest) (c := 73) (av := []) (st := []) (T_X11_partJobs 29 _ _ _ rfl) ml_X11_354 cb_X6_longest rfl rfl (Nat.le_of_ble_eq_true rfl) (by omega) (R_X6_longest N _ _ hq) ?_
    refine g_goto (tgt := 66) (T_X11_partJobs 30 _ _ _ rfl) (by decide) ?_
    exact g_iret (T_X11_partJobs 35 _ _ _ rfl) rfl (qi_of H)
def F_X11_partJobs (N : Nat) (x1 : Int) (x2 : Int) (x3 : Int) (h : Hp) : Option (Int × Hp) :=
  bd (F_X11_isWithin N x2 1 3 h) fun y2 h1 =>
  if y2 = 0 then
    some ((-4), h1)
  else
  if x3 = 10 then
    J_X11_partJobs_29 N  x1 x2 x3 h1
  else
  bd (F_X11_isWithin N x3 0 (w32 (x1 - 1)) h1) fun y4 h3 =>
  if y4 = 0 then
    some ((-4), h3)
  else
  J_X11_partJobs_29 N  x1 x2 x3 h3
set_option maxRecDepth 100000 in
set_option maxHeartbeats 4000000 in
theorem R_X11_partJobs (N : Nat) (x1 : Int) (x2 : Int) (x3 : Int) (h : Hp) (res : Int × Hp) (H : F_X11_partJobs N x1 x2 x3 h = some res) : Runs M_X11_partJobs 23 [.inr 1, .inl x1, .inl x2, .inl x3] h (Qi res) := by
  refine Runs.of rfl (Nat.le_of_ble_eq_true rfl) ?_
  show Go M_X11_partJobs 23 0 [some (.inr 1), some (.inl x1), some (.inl x2), some (.inl x3)] [] h (Qi res)
  unfold F_X11_partJobs at H
  refine g_iload_n (T_X11_partJobs 0 _ _ _ rfl) rfl ?_
  refine g_iconst (T_X11_partJobs 1 _ _ _ rfl) ⟨by decide, by decide⟩ ?_
  refine g_iconst (T_X11_partJobs 2 _ _ _ rfl) ⟨by decide, by decide⟩ ?_
  obtain ⟨y2, h1, hq, H⟩ := bd_some H
  refine g_callSi (M' := M_X11_isWithin) (av := [.inl x2, .inl 1, .inl 3]) (st := []) (T_X11_partJobs 3 _ _ _ rfl) ml_X11_96 cb_X11_isWithin rfl (Nat.le_of_ble_eq_true rfl) (by omega) (R_X11_isWithin N _ _ _ _ _ hq) ?_
  refine g_if_eq (tgt := 26) (T_X11_partJobs 4 _ _ _ rfl) (by decide) (fun cc => ?_) (fun cc => ?_)
  · replace H := ite_p cc H
    refine g_bipush (T_X11_partJobs 15 _ _ _ rfl) (by decide) ?_
    exact g_iret (T_X11_partJobs 16 _ _ _ rfl) rfl (qi_of H)
  · replace H := ite_n cc H
    refine g_iload_n (T_X11_partJobs 5 _ _ _ rfl) rfl ?_
    refine g_bipush (T_X11_partJobs 6 _ _ _ rfl) (by decide) ?_
    refine g_icmp_eq (tgt := 29) (T_X11_partJobs 7 _ _ _ rfl) (by decide) (fun cc => ?_) (fun cc => ?_)
    · replace H := ite_p cc H
      refine g_weak [true, true, true, true] ?_
      exact R_J_X11_partJobs_29 N   _ _ _ _ _ H
    · replace H := ite_n cc H
      refine g_iload_n (T_X11_partJobs 8 _ _ _ rfl) rfl ?_
      refine g_iconst (T_X11_partJobs 9 _ _ _ rfl) ⟨by decide, by decide⟩ ?_
      refine g_iload_n (T_X11_partJobs 10 _ _ _ rfl) rfl ?_
      refine g_iconst (T_X11_partJobs 11 _ _ _ rfl) ⟨by decide, by decide⟩ ?_
      refine g_isub (T_X11_partJobs 12 _ _ _ rfl) ?_
      obtain ⟨y4, h3, hq, H⟩ := bd_some H
      refine g_callSi (M' := M_X11_isWithin) (av := [.inl x3, .inl 0, .inl (w32 (x1 - 1))]) (st := []) (T_X11_partJobs 13 _ _ _ rfl) ml_X11_96 cb_X11_isWithin rfl (Nat.le_of_ble_eq_true rfl) (by omega) (R_X11_isWithin N _ _ _ _ _ hq) ?_
      refine g_if_ne (tgt := 29) (T_X11_partJobs 14 _ _ _ rfl) (by decide) (fun cc => ?_) (fun cc => ?_)
      · replace H := ite_n cc H
        refine g_weak [true, true, true, true] ?_
        exact R_J_X11_partJobs_29 N   _ _ _ _ _ H
      · replace H := ite_p cc H
        refine g_bipush (T_X11_partJobs 15 _ _ _ rfl) (by decide) ?_
        exact g_iret (T_X11_partJobs 16 _ _ _ rfl) rfl (qi_of H)
def F_X11_jobs (N : Nat) (x1 : Int) (x2 : Int) (x3 : Int) (h : Hp) : Option (Int × Hp) :=
  bd (F_X11_isWithin N x1 1 8 h) fun y2 h1 =>
  if y2 = 0 then
    some ((-1), h1)
  else
  bd (F_X10_holds N x1 h1) fun y4 h3 =>
  if y4 = 0 then
    some ((-1), h3)
  else
  bd (F_X11_partJobs N x1 x2 x3 h3) fun y6 h5 =>
  bv (F_X10_clear N h5) fun h7 =>
  some (y6, h7)
set_option maxRecDepth 100000 in
set_option maxHeartbeats 4000000 in
theorem R_X11_jobs (N : Nat) (x1 : Int) (x2 : Int) (x3 : Int) (h : Hp) (res : Int × Hp) (H : F_X11_jobs N x1 x2 x3 h = some res) : Runs M_X11_jobs 24 [.inr 1, .inl x1, .inl x2, .inl x3] h (Qi res) := by
  refine Runs.of rfl (Nat.le_of_ble_eq_true rfl) ?_
  show Go M_X11_jobs 24 0 [some (.inr 1), some (.inl x1), some (.inl x2), some (.inl x3), none] [] h (Qi res)
  unfold F_X11_jobs at H
  refine g_iload_n (T_X11_jobs 0 _ _ _ rfl) rfl ?_
  refine g_iconst (T_X11_jobs 1 _ _ _ rfl) ⟨by decide, by decide⟩ ?_
  refine g_bipush (T_X11_jobs 2 _ _ _ rfl) (by decide) ?_
  obtain ⟨y2, h1, hq, H⟩ := bd_some H
  refine g_callSi (M' := M_X11_isWithin) (av := [.inl x1, .inl 1, .inl 8]) (st := []) (T_X11_jobs 3 _ _ _ rfl) ml_X11_96 cb_X11_isWithin rfl (Nat.le_of_ble_eq_true rfl) (by omega) (R_X11_isWithin N _ _ _ _ _ hq) ?_
  refine g_if_eq (tgt := 21) (T_X11_jobs 4 _ _ _ rfl) (by decide) (fun cc => ?_) (fun cc => ?_)
  · replace H := ite_p cc H
    refine g_iconst (T_X11_jobs 10 _ _ _ rfl) ⟨by decide, by decide⟩ ?_
    exact g_iret (T_X11_jobs 11 _ _ _ rfl) rfl (qi_of H)
  · replace H := ite_n cc H
    refine g_aload_n (T_X11_jobs 5 _ _ _ rfl) rfl ?_
    refine g_getR (c := 0) (r := 42) (T_X11_jobs 6 _ _ _ rfl) fl_X11_24 rfl (nR rfl) rfl (by decide) ?_
    refine g_iload_n (T_X11_jobs 7 _ _ _ rfl) rfl ?_
    obtain ⟨y4, h3, hq, H⟩ := bd_some H
    refine g_callVi (M' := M_X10_holds) (c := 41) (av := [.inl x1]) (st := []) (T_X11_jobs 8 _ _ _ rfl) ml_X11_130 cb_X10_holds rfl rfl (Nat.le_of_ble_eq_true rfl) (by omega) (R_X10_holds N _ _ _ hq) ?_
    refine g_if_ne (tgt := 23) (T_X11_jobs 9 _ _ _ rfl) (by decide) (fun cc => ?_) (fun cc => ?_)
    · replace H := ite_n cc H
      refine g_aload_n (T_X11_jobs 12 _ _ _ rfl) rfl ?_
      refine g_iload_n (T_X11_jobs 13 _ _ _ rfl) rfl ?_
      refine g_iload_n (T_X11_jobs 14 _ _ _ rfl) rfl ?_
      refine g_iload_n (T_X11_jobs 15 _ _ _ rfl) rfl ?_
      obtain ⟨y6, h5, hq, H⟩ := bd_some H
      refine g_callVi (M' := M_X11_partJobs) (c := 0) (av := [.inl x1, .inl x2, .inl x3]) (st := []) (T_X11_jobs 16 _ _ _ rfl) ml_X11_287 cb_X11_partJobs rfl rfl (Nat.le_of_ble_eq_true rfl) (by omega) (R_X11_partJobs N _ _ _ _ _ hq) ?_
      refine g_istore (T_X11_jobs 17 _ _ _ rfl) (by decide) ?_
      refine g_aload_n (T_X11_jobs 18 _ _ _ rfl) rfl ?_
      refine g_getR (c := 0) (r := 42) (T_X11_jobs 19 _ _ _ rfl) fl_X11_24 rfl (nR rfl) rfl (by decide) ?_
      obtain ⟨h7, hq, H⟩ := bv_some H
      refine g_callVv (M' := M_X10_clear) (c := 41) (av := []) (st := []) (T_X11_jobs 20 _ _ _ rfl) ml_X11_152 cb_X10_clear rfl rfl (Nat.le_of_ble_eq_true rfl) (by omega) (R_X10_clear N _ _ hq) ?_
      refine g_iload (T_X11_jobs 21 _ _ _ rfl) rfl ?_
      exact g_iret (T_X11_jobs 22 _ _ _ rfl) rfl (qi_of H)
    · replace H := ite_p cc H
      refine g_iconst (T_X11_jobs 10 _ _ _ rfl) ⟨by decide, by decide⟩ ?_
      exact g_iret (T_X11_jobs 11 _ _ _ rfl) rfl (qi_of H)
def J_X10_sumOf_37 (N : Nat) (k6 : Int → Int → Int → Int → Int → Int → Hp → Option (Int × Hp)) (x1 : Int) (x2 : Int) (x3 : Int) (x4 : Int) (x5 : Int) (x6 : Int) (h : Hp) : Option (Int × Hp) :=
  bnd (w32 (x6 + 1)) fun y1 =>
  k6 x1 x2 x3 x4 x5 y1 h
set_option maxRecDepth 100000 in
set_option maxHeartbeats 4000000 in
theorem R_J_X10_sumOf_37 (N : Nat) (k6 : Int → Int → Int → Int → Int → Int → Hp → Option (Int × Hp)) (hk6 : ∀ (x1 : Int) (x2 : Int) (x3 : Int) (x4 : Int) (x5 : Int) (x6 : Int) (h : Hp) (res : Int × Hp), k6 x1 x2 x3 x4 x5 x6 h = some res → Go M_X10_sumOf 2 6 [some (.inr 42), some (.inl x1), some (.inl x2), some (.inl x3), some (.inl x4), some (.inl x5), some (.inl x6)] [] h (Qi res)) (x1 : Int) (x2 : Int) (x3 : Int) (x4 : Int) (x5 : Int) (x6 : Int) (h : Hp) (res : Int × Hp) (H : J_X10_sumOf_37 N k6 x1 x2 x3 x4 x5 x6 h = some res) : Go M_X10_sumOf 2 37 [some (.inr 42), some (.inl x1), some (.inl x2), some (.inl x3), some (.inl x4), some (.inl x5), some (.inl x6)] [] h (Qi res) := by
  unfold J_X10_sumOf_37 at H
  refine g_iincB (T_X10_sumOf 21 _ _ _ rfl) rfl (by decide) H fun y1 H => ?_
  refine g_goto (tgt := 6) (T_X10_sumOf 22 _ _ _ rfl) (by decide) ?_
  refine g_weak [true, true, true, true, true, true, true] ?_
  exact hk6 _ _ _ _ _ _ _ _ H
def L_X10_sumOf_6 (N : Nat) : Nat → Int → Int → Int → Int → Int → Int → Hp → Option (Int × Hp)
  | 0, _, _, _, _, _, _, _ => none
  | n + 1, x1, x2, x3, x4, x5, x6, h =>
    if x4 ≤ x6 then
      some (x5, h)
    else
    bd (F_X11_hasBit N x1 x6 h) fun y2 h1 =>
    if y2 = 0 then
      J_X10_sumOf_37 N (L_X10_sumOf_6 N n) x1 x2 x3 x4 x5 x6 h1
    else
    bd (F_X10_at N (w32 (x2 + (w32 (x6 * x3)))) h1) fun y4 h3 =>
    bnd ((w32 (x5 + y4))) fun y5 =>
    J_X10_sumOf_37 N (L_X10_sumOf_6 N n) x1 x2 x3 x4 y5 x6 h3
set_option maxRecDepth 100000 in
set_option maxHeartbeats 4000000 in
theorem R_L_X10_sumOf_6 (N : Nat) : ∀ (n : Nat) (x1 : Int) (x2 : Int) (x3 : Int) (x4 : Int) (x5 : Int) (x6 : Int) (h : Hp) (res : Int × Hp), L_X10_sumOf_6 N n x1 x2 x3 x4 x5 x6 h = some res → Go M_X10_sumOf 2 6 [some (.inr 42), some (.inl x1), some (.inl x2), some (.inl x3), some (.inl x4), some (.inl x5), some (.inl x6)] [] h (Qi res)
  | 0, _, _, _, _, _, _, _, _, H => by cases H
  | n + 1, x1, x2, x3, x4, x5, x6, h, res, H => by
    have ih := R_L_X10_sumOf_6 N n
    simp only [L_X10_sumOf_6] at H
    refine g_iload (T_X10_sumOf 4 _ _ _ rfl) rfl ?_
    refine g_iload (T_X10_sumOf 5 _ _ _ rfl) rfl ?_
    refine g_icmp_ge (tgt := 43) (T_X10_sumOf 6 _ _ _ rfl) (by decide) (fun cc => ?_) (fun cc => ?_)
    · replace H := ite_p cc H
      refine g_iload (T_X10_sumOf 23 _ _ _ rfl) rfl ?_
      exact g_iret (T_X10_sumOf 24 _ _ _ rfl) rfl (qi_of H)
    · replace H := ite_n cc H
      refine g_iload_n (T_X10_sumOf 7 _ _ _ rfl) rfl ?_
      refine g_iload (T_X10_sumOf 8 _ _ _ rfl) rfl ?_
      obtain ⟨y2, h1, hq, H⟩ := bd_some H
      refine g_callSNi (M' := M_X11_hasBit) (av := [.inl x1, .inl x6]) (st := []) (T_X10_sumOf 9 _ _ _ rfl) ml_X10_23 cb_X11_hasBit rfl (Nat.le_of_ble_eq_true rfl) (by omega) (R_X11_hasBit N _ _ _ _ hq) ?_
      refine g_if_eq (tgt := 37) (T_X10_sumOf 10 _ _ _ rfl) (by decide) (fun cc => ?_) (fun cc => ?_)
      · replace H := ite_p cc H
        refine g_weak [true, true, true, true, true, true, true] ?_
        exact R_J_X10_sumOf_37 N (L_X10_sumOf_6 N n) ih _ _ _ _ _ _ _ _ H
      · replace H := ite_n cc H
        refine g_iload (T_X10_sumOf 11 _ _ _ rfl) rfl ?_
        refine g_aload_n (T_X10_sumOf 12 _ _ _ rfl) rfl ?_
        refine g_iload_n (T_X10_sumOf 13 _ _ _ rfl) rfl ?_
        refine g_iload (T_X10_sumOf 14 _ _ _ rfl) rfl ?_
        refine g_iload_n (T_X10_sumOf 15 _ _ _ rfl) rfl ?_
        refine g_imul (T_X10_sumOf 16 _ _ _ rfl) ?_
        refine g_iadd (T_X10_sumOf 17 _ _ _ rfl) ?_
        obtain ⟨y4, h3, hq, H⟩ := bd_some H
        refine g_callVi (M' := M_X10_at) (c := 41) (av := [.inl (w32 (x2 + (w32 (x6 * x3))))]) (st := [.inl x5]) (T_X10_sumOf 18 _ _ _ rfl) ml_X10_19 cb_X10_at rfl rfl (Nat.le_of_ble_eq_true rfl) (by omega) (R_X10_at N _ _ _ hq) ?_
        refine g_iadd (T_X10_sumOf 19 _ _ _ rfl) ?_
        refine g_bndI H fun y5 H => ?_
        refine g_istore (T_X10_sumOf 20 _ _ _ rfl) (by decide) ?_
        refine g_weak [true, true, true, true, true, true, true] ?_
        exact R_J_X10_sumOf_37 N (L_X10_sumOf_6 N n) ih _ _ _ _ _ _ _ _ H
def F_X10_sumOf (N : Nat) (x1 : Int) (x2 : Int) (x3 : Int) (x4 : Int) (h : Hp) : Option (Int × Hp) :=
  L_X10_sumOf_6 N  N x1 x2 x3 x4 0 0 h
set_option maxRecDepth 100000 in
set_option maxHeartbeats 4000000 in
theorem R_X10_sumOf (N : Nat) (x1 : Int) (x2 : Int) (x3 : Int) (x4 : Int) (h : Hp) (res : Int × Hp) (H : F_X10_sumOf N x1 x2 x3 x4 h = some res) : Runs M_X10_sumOf 2 [.inr 42, .inl x1, .inl x2, .inl x3, .inl x4] h (Qi res) := by
  refine Runs.of rfl (Nat.le_of_ble_eq_true rfl) ?_
  show Go M_X10_sumOf 2 0 [some (.inr 42), some (.inl x1), some (.inl x2), some (.inl x3), some (.inl x4), none, none] [] h (Qi res)
  unfold F_X10_sumOf at H
  refine g_iconst (T_X10_sumOf 0 _ _ _ rfl) ⟨by decide, by decide⟩ ?_
  refine g_istore (T_X10_sumOf 1 _ _ _ rfl) (by decide) ?_
  refine g_iconst (T_X10_sumOf 2 _ _ _ rfl) ⟨by decide, by decide⟩ ?_
  refine g_istore (T_X10_sumOf 3 _ _ _ rfl) (by decide) ?_
  refine g_weak [true, true, true, true, true, true, true] ?_
  refine R_L_X10_sumOf_6 N   _ _ _ _ _ _ _ _ _ H
