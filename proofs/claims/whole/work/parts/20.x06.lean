/-! by program: the methods as functions, and the walks that show it -/
def J_X11_load_109 (N : Nat) (k56 : Int → Int → Int → Int → Int → Int → Hp → Option (Int × Hp)) (x1 : Int) (x2 : Int) (x3 : Int) (x4 : Int) (x5 : Int) (x6 : Int) (h : Hp) : Option (Int × Hp) :=
  bnd (w32 (x6 + 1)) fun y1 =>
  k56 x1 x2 x3 x4 x5 y1 h
set_option maxRecDepth 100000 in
set_option maxHeartbeats 4000000 in
theorem R_J_X11_load_109 (N : Nat) (k56 : Int → Int → Int → Int → Int → Int → Hp → Option (Int × Hp)) (hk56 : ∀ (x1 : Int) (x2 : Int) (x3 : Int) (x4 : Int) (x5 : Int) (x6 : Int) (h : Hp) (res : Int × Hp), k56 x1 x2 x3 x4 x5 x6 h = some res → Go M_X11_load 3 56 [some (.inr 1), some (.inl x1), some (.inl x2), some (.inl x3), some (.inl x4), some (.inl x5), some (.inl x6), none] [] h (Qi res)) (x1 : Int) (x2 : Int) (x3 : Int) (x4 : Int) (x5 : Int) (x6 : Int) (h : Hp) (res : Int × Hp) (H : J_X11_load_109 N k56 x1 x2 x3 x4 x5 x6 h = some res) : Go M_X11_load 3 109 [some (.inr 1), some (.inl x1), some (.inl x2), some (.inl x3), some (.inl x4), some (.inl x5), some (.inl x6), none] [] h (Qi res) := by
  unfold J_X11_load_109 at H
  refine g_iincB (T_X11_load 59 _ _ _ rfl) rfl (by decide) H fun y1 H => ?_
  refine g_goto (tgt := 56) (T_X11_load 60 _ _ _ rfl) (by decide) ?_
  refine g_weak [true, true, true, true, true, true, true, false] ?_
  exact hk56 _ _ _ _ _ _ _ _ H
def L_X11_load_56 (N : Nat) : Nat → Int → Int → Int → Int → Int → Int → Hp → Option (Int × Hp)
  | 0, _, _, _, _, _, _, _ => none
  | n + 1, x1, x2, x3, x4, x5, x6, h =>
    if (ishl 1 x1) ≤ x6 then
      bv (F_X10_clear N h) fun h1 =>
      if x3 = 0 then
        some (x4, h1)
      else
      some (x5, h1)
    else
    bd (F_X10_sumOf N x6 0 2 x1 h) fun y3 h2 =>
    if y3 = x2 then
      bd (F_X10_sumOf N x6 1 2 x1 h2) fun y5 h4 =>
      if y5 ≤ x4 then
        J_X11_load_109 N (L_X11_load_56 N n) x1 x2 x3 x4 x5 x6 h4
      else
      J_X11_load_109 N (L_X11_load_56 N n) x1 x2 x3 y5 x6 x6 h4
    else
    J_X11_load_109 N (L_X11_load_56 N n) x1 x2 x3 x4 x5 x6 h2
set_option maxRecDepth 100000 in
set_option maxHeartbeats 4000000 in
theorem R_L_X11_load_56 (N : Nat) : ∀ (n : Nat) (x1 : Int) (x2 : Int) (x3 : Int) (x4 : Int) (x5 : Int) (x6 : Int) (h : Hp) (res : Int × Hp), L_X11_load_56 N n x1 x2 x3 x4 x5 x6 h = some res → Go M_X11_load 3 56 [some (.inr 1), some (.inl x1), some (.inl x2), some (.inl x3), some (.inl x4), some (.inl x5), some (.inl x6), none] [] h (Qi res)
  | 0, _, _, _, _, _, _, _, _, H => by cases H
  | n + 1, x1, x2, x3, x4, x5, x6, h, res, H => by
    have ih := R_L_X11_load_56 N n
    simp only [L_X11_load_56] at H
    refine g_iload (T_X11_load 30 _ _ _ rfl) rfl ?_
    refine g_iconst (T_X11_load 31 _ _ _ rfl) ⟨by decide, by decide⟩ ?_
    refine g_iload_n (T_X11_load 32 _ _ _ rfl) rfl ?_
    refine g_ishl (T_X11_load 33 _ _ _ rfl) ?_
    refine g_icmp_ge (tgt := 115) (T_X11_load 34 _ _ _ rfl) (by decide) (fun cc => ?_) (fun cc => ?_)
    · replace H := ite_p cc H
      refine g_aload_n (T_X11_load 61 _ _ _ rfl) rfl ?_
      refine g_getR (c := 0) (r := 42) (T_X11_load 62 _ _ _ rfl) fl_X11_24 rfl (nR rfl) rfl (by decide) ?_
      obtain ⟨h1, hq, H⟩ := bv_some H
      refine g_callVv (M' := M_X10_clear) (c := 41) (av := []) (st := []) (T_X11_load 63 _ _ _ rfl) ml_X11_152 cb_X10_clear rfl rfl (Nat.le_of_ble_eq_true rfl) (by omega) (R_X10_clear N _ _ hq) ?_
      refine g_iload_n (T_X11_load 64 _ _ _ rfl) rfl ?_
      refine g_if_ne (tgt := 131) (T_X11_load 65 _ _ _ rfl) (by decide) (fun cc => ?_) (fun cc => ?_)
      · replace H := ite_n cc H
        refine g_iload (T_X11_load 68 _ _ _ rfl) rfl ?_
        exact g_iret (T_X11_load 69 _ _ _ rfl) rfl (qi_of H)
      · replace H := ite_p cc H
        refine g_iload (T_X11_load 66 _ _ _ rfl) rfl ?_
        refine g_goto (tgt := 133) (T_X11_load 67 _ _ _ rfl) (by decide) ?_
        exact g_iret (T_X11_load 69 _ _ _ rfl) rfl (qi_of H)
    · replace H := ite_n cc H
      refine g_aload_n (T_X11_load 35 _ _ _ rfl) rfl ?_
      refine g_getR (c := 0) (r := 42) (T_X11_load 36 _ _ _ rfl) fl_X11_24 rfl (nR rfl) rfl (by decide) ?_
      refine g_iload (T_X11_load 37 _ _ _ rfl) rfl ?_
      refine g_iconst (T_X11_load 38 _ _ _ rfl) ⟨by decide, by decide⟩ ?_
      refine g_iconst (T_X11_load 39 _ _ _ rfl) ⟨by decide, by decide⟩ ?_
      refine g_iload_n (T_X11_load 40 _ _ _ rfl) rfl ?_
      obtain ⟨y3, h2, hq, H⟩ := bd_some H
      refine g_callVi (M' := M_X10_sumOf) (c := 41) (av := [.inl x6, .inl 0, .inl 2, .inl x1]) (st := []) (T_X11_load 41 _ _ _ rfl) ml_X11_291 cb_X10_sumOf rfl rfl (Nat.le_of_ble_eq_true rfl) (by omega) (R_X10_sumOf N _ _ _ _ _ _ hq) ?_
      refine g_iload_n (T_X11_load 42 _ _ _ rfl) rfl ?_
      refine g_icmp_ne (tgt := 109) (T_X11_load 43 _ _ _ rfl) (by decide) (fun cc => ?_) (fun cc => ?_)
      · replace H := ite_n cc H
        refine g_weak [true, true, true, true, true, true, true, false] ?_
        exact R_J_X11_load_109 N (L_X11_load_56 N n) ih _ _ _ _ _ _ _ _ H
      · replace H := ite_p cc H
        refine g_aload_n (T_X11_load 44 _ _ _ rfl) rfl ?_
        refine g_getR (c := 0) (r := 42) (T_X11_load 45 _ _ _ rfl) fl_X11_24 rfl (nR rfl) rfl (by decide) ?_
        refine g_iload (T_X11_load 46 _ _ _ rfl) rfl ?_
        refine g_iconst (T_X11_load 47 _ _ _ rfl) ⟨by decide, by decide⟩ ?_
        refine g_iconst (T_X11_load 48 _ _ _ rfl) ⟨by decide, by decide⟩ ?_
        refine g_iload_n (T_X11_load 49 _ _ _ rfl) rfl ?_
        obtain ⟨y5, h4, hq, H⟩ := bd_some H
        refine g_callVi (M' := M_X10_sumOf) (c := 41) (av := [.inl x6, .inl 1, .inl 2, .inl x1]) (st := []) (T_X11_load 50 _ _ _ rfl) ml_X11_291 cb_X10_sumOf rfl rfl (Nat.le_of_ble_eq_true rfl) (by omega) (R_X10_sumOf N _ _ _ _ _ _ hq) ?_
        refine g_istore (T_X11_load 51 _ _ _ rfl) (by decide) ?_
        refine g_iload (T_X11_load 52 _ _ _ rfl) rfl ?_
        refine g_iload (T_X11_load 53 _ _ _ rfl) rfl ?_
        refine g_icmp_le (tgt := 109) (T_X11_load 54 _ _ _ rfl) (by decide) (fun cc => ?_) (fun cc => ?_)
        · replace H := ite_p cc H
          refine g_weak [true, true, true, true, true, true, true, false] ?_
          exact R_J_X11_load_109 N (L_X11_load_56 N n) ih _ _ _ _ _ _ _ _ H
        · replace H := ite_n cc H
          refine g_iload (T_X11_load 55 _ _ _ rfl) rfl ?_
          refine g_istore (T_X11_load 56 _ _ _ rfl) (by decide) ?_
          refine g_iload (T_X11_load 57 _ _ _ rfl) rfl ?_
          refine g_istore (T_X11_load 58 _ _ _ rfl) (by decide) ?_
          refine g_weak [true, true, true, true, true, true, true, false] ?_
          exact R_J_X11_load_109 N (L_X11_load_56 N n) ih _ _ _ _ _ _ _ _ H
def F_X11_load (N : Nat) (x1 : Int) (x2 : Int) (x3 : Int) (h : Hp) : Option (Int × Hp) :=
  bd (F_X11_isWithin N x1 1 8 h) fun y2 h1 =>
  if y2 = 0 then
    some ((-1), h1)
  else
  bd (F_X11_isWithin N x2 0 999 h1) fun y4 h3 =>
  if y4 = 0 then
    some ((-1), h3)
  else
  bd (F_X11_isWithin N x3 0 1 h3) fun y6 h5 =>
  if y6 = 0 then
    some ((-1), h5)
  else
  bd (F_X10_holds N (w32 (2 * x1)) h5) fun y8 h7 =>
  if y8 = 0 then
    some ((-1), h7)
  else
  L_X11_load_56 N  N x1 x2 x3 (-2) (-2) 0 h7
set_option maxRecDepth 100000 in
set_option maxHeartbeats 4000000 in
theorem R_X11_load (N : Nat) (x1 : Int) (x2 : Int) (x3 : Int) (h : Hp) (res : Int × Hp) (H : F_X11_load N x1 x2 x3 h = some res) : Runs M_X11_load 3 [.inr 1, .inl x1, .inl x2, .inl x3] h (Qi res) := by
  refine Runs.of rfl (Nat.le_of_ble_eq_true rfl) ?_
  show Go M_X11_load 3 0 [some (.inr 1), some (.inl x1), some (.inl x2), some (.inl x3), none, none, none, none] [] h (Qi res)
  unfold F_X11_load at H
  refine g_iload_n (T_X11_load 0 _ _ _ rfl) rfl ?_
  refine g_iconst (T_X11_load 1 _ _ _ rfl) ⟨by decide, by decide⟩ ?_
  refine g_bipush (T_X11_load 2 _ _ _ rfl) (by decide) ?_
  obtain ⟨y2, h1, hq, H⟩ := bd_some H
  refine g_callSi (M' := M_X11_isWithin) (av := [.inl x1, .inl 1, .inl 8]) (st := []) (T_X11_load 3 _ _ _ rfl) ml_X11_96 cb_X11_isWithin rfl (Nat.le_of_ble_eq_true rfl) (by omega) (R_X11_isWithin N _ _ _ _ _ hq) ?_
  refine g_if_eq (tgt := 43) (T_X11_load 4 _ _ _ rfl) (by decide) (fun cc => ?_) (fun cc => ?_)
  · replace H := ite_p cc H
    refine g_iconst (T_X11_load 22 _ _ _ rfl) ⟨by decide, by decide⟩ ?_
    exact g_iret (T_X11_load 23 _ _ _ rfl) rfl (qi_of H)
  · replace H := ite_n cc H
    refine g_iload_n (T_X11_load 5 _ _ _ rfl) rfl ?_
    refine g_iconst (T_X11_load 6 _ _ _ rfl) ⟨by decide, by decide⟩ ?_
    refine g_sipush (T_X11_load 7 _ _ _ rfl) (by decide) ?_
    obtain ⟨y4, h3, hq, H⟩ := bd_some H
    refine g_callSi (M' := M_X11_isWithin) (av := [.inl x2, .inl 0, .inl 999]) (st := []) (T_X11_load 8 _ _ _ rfl) ml_X11_96 cb_X11_isWithin rfl (Nat.le_of_ble_eq_true rfl) (by omega) (R_X11_isWithin N _ _ _ _ _ hq) ?_
    refine g_if_eq (tgt := 43) (T_X11_load 9 _ _ _ rfl) (by decide) (fun cc => ?_) (fun cc => ?_)
    · replace H := ite_p cc H
      refine g_iconst (T_X11_load 22 _ _ _ rfl) ⟨by decide, by decide⟩ ?_
      exact g_iret (T_X11_load 23 _ _ _ rfl) rfl (qi_of H)
    · replace H := ite_n cc H
      refine g_iload_n (T_X11_load 10 _ _ _ rfl) rfl ?_
      refine g_iconst (T_X11_load 11 _ _ _ rfl) ⟨by decide, by decide⟩ ?_
      refine g_iconst (T_X11_load 12 _ _ _ rfl) ⟨by decide, by decide⟩ ?_
      obtain ⟨y6, h5, hq, H⟩ := bd_some H
      refine g_callSi (M' := M_X11_isWithin) (av := [.inl x3, .inl 0, .inl 1]) (st := []) (T_X11_load 13 _ _ _ rfl) ml_X11_96 cb_X11_isWithin rfl (Nat.le_of_ble_eq_true rfl) (by omega) (R_X11_isWithin N _ _ _ _ _ hq) ?_
      refine g_if_eq (tgt := 43) (T_X11_load 14 _ _ _ rfl) (by decide) (fun cc => ?_) (fun cc => ?_)
      · replace H := ite_p cc H
        refine g_iconst (T_X11_load 22 _ _ _ rfl) ⟨by decide, by decide⟩ ?_
        exact g_iret (T_X11_load 23 _ _ _ rfl) rfl (qi_of H)
      · replace H := ite_n cc H
        refine g_aload_n (T_X11_load 15 _ _ _ rfl) rfl ?_
        refine g_getR (c := 0) (r := 42) (T_X11_load 16 _ _ _ rfl) fl_X11_24 rfl (nR rfl) rfl (by decide) ?_
        refine g_iconst (T_X11_load 17 _ _ _ rfl) ⟨by decide, by decide⟩ ?_
        refine g_iload_n (T_X11_load 18 _ _ _ rfl) rfl ?_
        refine g_imul (T_X11_load 19 _ _ _ rfl) ?_
        obtain ⟨y8, h7, hq, H⟩ := bd_some H
        refine g_callVi (M' := M_X10_holds) (c := 41) (av := [.inl (w32 (2 * x1))]) (st := []) (T_X11_load 20 _ _ _ rfl) ml_X11_130 cb_X10_holds rfl rfl (Nat.le_of_ble_eq_true rfl) (by omega) (R_X10_holds N _ _ _ hq) ?_
        refine g_if_ne (tgt := 45) (T_X11_load 21 _ _ _ rfl) (by decide) (fun cc => ?_) (fun cc => ?_)
        · replace H := ite_n cc H
          refine g_bipush (T_X11_load 24 _ _ _ rfl) (by decide) ?_
          refine g_istore (T_X11_load 25 _ _ _ rfl) (by decide) ?_
          refine g_bipush (T_X11_load 26 _ _ _ rfl) (by decide) ?_
          refine g_istore (T_X11_load 27 _ _ _ rfl) (by decide) ?_
          refine g_iconst (T_X11_load 28 _ _ _ rfl) ⟨by decide, by decide⟩ ?_
          refine g_istore (T_X11_load 29 _ _ _ rfl) (by decide) ?_
          refine g_weak [true, true, true, true, true, true, true, false] ?_
          refine R_L_X11_load_56 N   _ _ _ _ _ _ _ _ _ H
        · replace H := ite_p cc H
          refine g_iconst (T_X11_load 22 _ _ _ rfl) ⟨by decide, by decide⟩ ?_
          exact g_iret (T_X11_load 23 _ _ _ rfl) rfl (qi_of H)
def F_X4_matchWith (N : Nat) (rc : Int → Int → Int → Hp → Option (Hp)) (x1 : Int) (x2 : Int) (x3 : Int) (x4 : Int) (h : Hp) : Option (Hp) :=
  grd (0 ≤ x2 ∧ x2 < 6) <|
  bnd (hw h 81 x2.toNat x1) fun h1 =>
  grd (0 ≤ x2 ∧ x2 < 6) <|
  grd (0 ≤ x1 ∧ x1 < 6) <|
  bv (rc (w32 (x2 + 1)) (ior x3 (ishl 1 x1)) (w32 (x4 + (imax 0 (w32 ((h1 79 x2.toNat) - (h1 80 x1.toNat)))))) h1) fun h2 =>
  some h2
set_option maxRecDepth 100000 in
set_option maxHeartbeats 4000000 in
theorem R_X4_matchWith (N : Nat) (rc : Int → Int → Int → Hp → Option (Hp)) (dr : Nat) (hrc : ∀ (a0 : Int) (a1 : Int) (a2 : Int) (h : Hp) (res : Hp), rc a0 a1 a2 h = some res → Runs M_X4_match dr [.inr 79, .inl a0, .inl a1, .inl a2] h (Qv res)) (x1 : Int) (x2 : Int) (x3 : Int) (x4 : Int) (h : Hp) (res : Hp) (H : F_X4_matchWith N rc x1 x2 x3 x4 h = some res) : Runs M_X4_matchWith (dr + 1) [.inr 79, .inl x1, .inl x2, .inl x3, .inl x4] h (Qv res) := by
  refine Runs.of rfl (Nat.le_of_ble_eq_true rfl) ?_
  show Go M_X4_matchWith (dr + 1) 0 [some (.inr 79), some (.inl x1), some (.inl x2), some (.inl x3), some (.inl x4)] [] h (Qv res)
  unfold F_X4_matchWith at H
  refine g_aload_n (T_X4_matchWith 0 _ _ _ rfl) rfl ?_
  refine g_getR (c := 78) (r := 82) (T_X4_matchWith 1 _ _ _ rfl) fl_X4_18 rfl (nR rfl) rfl (by decide) ?_
  refine g_iload_n (T_X4_matchWith 2 _ _ _ rfl) rfl ?_
  refine g_iload_n (T_X4_matchWith 3 _ _ _ rfl) rfl ?_
  obtain ⟨hg, H⟩ := grd_some H
  refine g_iast (c := 81) (T_X4_matchWith 4 _ _ _ rfl) rfl hg ?_
  refine g_bndH H fun h1 H => ?_
  refine g_aload_n (T_X4_matchWith 5 _ _ _ rfl) rfl ?_
  refine g_iload_n (T_X4_matchWith 6 _ _ _ rfl) rfl ?_
  refine g_iconst (T_X4_matchWith 7 _ _ _ rfl) ⟨by decide, by decide⟩ ?_
  refine g_iadd (T_X4_matchWith 8 _ _ _ rfl) ?_
  refine g_iload_n (T_X4_matchWith 9 _ _ _ rfl) rfl ?_
  refine g_iconst (T_X4_matchWith 10 _ _ _ rfl) ⟨by decide, by decide⟩ ?_
  refine g_iload_n (T_X4_matchWith 11 _ _ _ rfl) rfl ?_
  refine g_ishl (T_X4_matchWith 12 _ _ _ rfl) ?_
  refine g_ior (T_X4_matchWith 13 _ _ _ rfl) ?_
  refine g_iload (T_X4_matchWith 14 _ _ _ rfl) rfl ?_
  refine g_iconst (T_X4_matchWith 15 _ _ _ rfl) ⟨by decide, by decide⟩ ?_
  refine g_aload_n (T_X4_matchWith 16 _ _ _ rfl) rfl ?_
  refine g_getR (c := 78) (r := 80) (T_X4_matchWith 17 _ _ _ rfl) fl_X4_9 rfl (nR rfl) rfl (by decide) ?_
  refine g_iload_n (T_X4_matchWith 18 _ _ _ rfl) rfl ?_
  obtain ⟨hg, H⟩ := grd_some H
  refine g_iald (c := 79) (T_X4_matchWith 19 _ _ _ rfl) rfl hg ?_
  refine g_aload_n (T_X4_matchWith 20 _ _ _ rfl) rfl ?_
  refine g_getR (c := 78) (r := 81) (T_X4_matchWith 21 _ _ _ rfl) fl_X4_15 rfl (nR rfl) rfl (by decide) ?_
  refine g_iload_n (T_X4_matchWith 22 _ _ _ rfl) rfl ?_
  obtain ⟨hg, H⟩ := grd_some H
  refine g_iald (c := 80) (T_X4_matchWith 23 _ _ _ rfl) rfl hg ?_
  refine g_isub (T_X4_matchWith 24 _ _ _ rfl) ?_
  refine g_max (st := [.inl x4, .inl (ior x3 (ishl 1 x1)), .inl (w32 (x2 + 1)), .inr 79]) (T_X4_matchWith 25 _ _ _ rfl) ml_X4_73 wmax (Nat.le_of_ble_eq_true rfl) (by omega) ?_
  refine g_iadd (T_X4_matchWith 26 _ _ _ rfl) ?_
  obtain ⟨h2, hq, H⟩ := bv_some H
  refine g_callVv (M' := M_X4_match) (c := 78) (av := [.inl (w32 (x2 + 1)), .inl (ior x3 (ishl 1 x1)), .inl (w32 (x4 + (imax 0 (w32 ((h1 79 x2.toNat) - (h1 80 x1.toNat))))))]) (st := []) (T_X4_matchWith 27 _ _ _ rfl) ml_X4_55 cb_X4_match rfl rfl (Nat.le_of_ble_eq_true rfl) (by omega) (hrc _ _ _ _ _ hq) ?_
  exact g_vret (T_X4_matchWith 28 _ _ _ rfl) rfl (qv_of H)
def J_X4_match_68 (N : Nat) (rc : Int → Int → Int → Hp → Option (Hp)) (k41 : Int → Int → Int → Int → Hp → Option (Hp)) (x1 : Int) (x2 : Int) (x3 : Int) (x4 : Int) (h : Hp) : Option (Hp) :=
  bnd (w32 (x4 + 1)) fun y1 =>
  k41 x1 x2 x3 y1 h
set_option maxRecDepth 100000 in
set_option maxHeartbeats 4000000 in
theorem R_J_X4_match_68 (N : Nat) (rc : Int → Int → Int → Hp → Option (Hp)) (k41 : Int → Int → Int → Int → Hp → Option (Hp)) (dr : Nat) (hrc : ∀ (a0 : Int) (a1 : Int) (a2 : Int) (h : Hp) (res : Hp), rc a0 a1 a2 h = some res → Runs M_X4_match dr [.inr 79, .inl a0, .inl a1, .inl a2] h (Qv res)) (hk41 : ∀ (x1 : Int) (x2 : Int) (x3 : Int) (x4 : Int) (h : Hp) (res : Hp), k41 x1 x2 x3 x4 h = some res → Go M_X4_match (dr + 2) 41 [some (.inr 79), some (.inl x1), some (.inl x2), some (.inl x3), some (.inl x4)] [] h (Qv res)) (x1 : Int) (x2 : Int) (x3 : Int) (x4 : Int) (h : Hp) (res : Hp) (H : J_X4_match_68 N rc k41 x1 x2 x3 x4 h = some res) : Go M_X4_match (dr + 2) 68 [some (.inr 79), some (.inl x1), some (.inl x2), some (.inl x3), some (.inl x4)] [] h (Qv res) := by
  unfold J_X4_match_68 at H
  refine g_iincB (T_X4_match 37 _ _ _ rfl) rfl (by decide) H fun y1 H => ?_
  refine g_goto (tgt := 41) (T_X4_match 38 _ _ _ rfl) (by decide) ?_
  refine g_weak [true, true, true, true, true] ?_
  exact hk41 _ _ _ _ _ _ H
def L_X4_match_41 (N : Nat) (rc : Int → Int → Int → Hp → Option (Hp)) : Nat → Int → Int → Int → Int → Hp → Option (Hp)
  | 0, _, _, _, _, _ => none
  | n + 1, x1, x2, x3, x4, h =>
    if (h 78 4) ≤ x4 then
      some h
    else
    bd (F_X11_hasBit N x2 x4 h) fun y2 h1 =>
    if y2 = 0 then
      bv (F_X4_matchWith N rc x4 x1 x2 x3 h1) fun h3 =>
      J_X4_match_68 N rc (L_X4_match_41 N rc n) x1 x2 x3 x4 h3
    else
    J_X4_match_68 N rc (L_X4_match_41 N rc n) x1 x2 x3 x4 h1
set_option maxRecDepth 100000 in
set_option maxHeartbeats 4000000 in
theorem R_L_X4_match_41 (N : Nat) (rc : Int → Int → Int → Hp → Option (Hp)) (dr : Nat) (hrc : ∀ (a0 : Int) (a1 : Int) (a2 : Int) (h : Hp) (res : Hp), rc a0 a1 a2 h = some res → Runs M_X4_match dr [.inr 79, .inl a0, .inl a1, .inl a2] h (Qv res)) : ∀ (n : Nat) (x1 : Int) (x2 : Int) (x3 : Int) (x4 : Int) (h : Hp) (res : Hp), L_X4_match_41 N rc n x1 x2 x3 x4 h = some res → Go M_X4_match (dr + 2) 41 [some (.inr 79), some (.inl x1), some (.inl x2), some (.inl x3), some (.inl x4)] [] h (Qv res)
  | 0, _, _, _, _, _, _, H => by cases H
  | n + 1, x1, x2, x3, x4, h, res, H => by
    have ih := R_L_X4_match_41 N rc dr hrc n
    simp only [L_X4_match_41] at H
    refine g_iload (T_X4_match 23 _ _ _ rfl) rfl ?_
    refine g_aload_n (T_X4_match 24 _ _ _ rfl) rfl ?_
    refine g_getI (c := 78) (T_X4_match 25 _ _ _ rfl) fl_X4_38 rfl (Or.inl rfl) ?_
    refine g_icmp_ge (tgt := 74) (T_X4_match 26 _ _ _ rfl) (by decide) (fun cc => ?_) (fun cc => ?_)
    · replace H := ite_p cc H
      exact g_vret (T_X4_match 39 _ _ _ rfl) rfl (qv_of H)
    · replace H := ite_n cc H
      refine g_iload_n (T_X4_match 27 _ _ _ rfl) rfl ?_
      refine g_iload (T_X4_match 28 _ _ _ rfl) rfl ?_
      obtain ⟨y2, h1, hq, H⟩ := bd_some H
      refine g_callSNi (M' := M_X11_hasBit) (av := [.inl x2, .inl x4]) (st := []) (T_X4_match 29 _ _ _ rfl) ml_X4_65 cb_X11_hasBit rfl (Nat.le_of_ble_eq_true rfl) (by omega) (R_X11_hasBit N _ _ _ _ hq) ?_
      refine g_if_ne (tgt := 68) (T_X4_match 30 _ _ _ rfl) (by decide) (fun cc => ?_) (fun cc => ?_)
      · replace H := ite_n cc H
        refine g_weak [true, true, true, true, true] ?_
        exact R_J_X4_match_68 N rc (L_X4_match_41 N rc n) dr hrc ih _ _ _ _ _ _ H
      · replace H := ite_p cc H
        refine g_aload_n (T_X4_match 31 _ _ _ rfl) rfl ?_
        refine g_iload (T_X4_match 32 _ _ _ rfl) rfl ?_
        refine g_iload_n (T_X4_match 33 _ _ _ rfl) rfl ?_
        refine g_iload_n (T_X4_match 34 _ _ _ rfl) rfl ?_
        refine g_iload_n (T_X4_match 35 _ _ _ rfl) rfl ?_
        obtain ⟨h3, hq, H⟩ := bv_some H
        refine g_callVv (M' := M_X4_matchWith) (c := 78) (av := [.inl x4, .inl x1, .inl x2, .inl x3]) (st := []) (T_X4_match 36 _ _ _ rfl) ml_X4_69 cb_X4_matchWith rfl rfl (Nat.le_of_ble_eq_true rfl) (by omega) (R_X4_matchWith N rc dr hrc _ _ _ _ _ _ hq) ?_
        refine g_weak [true, true, true, true, true] ?_
        exact R_J_X4_match_68 N rc (L_X4_match_41 N rc n) dr hrc ih _ _ _ _ _ _ H
def O_X4_match (N : Nat) (rc : Int → Int → Int → Hp → Option (Hp)) (x1 : Int) (x2 : Int) (x3 : Int) (h : Hp) : Option (Hp) :=
  if x3 < (h 78 5) then
    if x1 < (h 78 4) then
      L_X4_match_41 N rc  N x1 x2 x3 0 h
    else
    bnd (hw h 78 5 x3) fun h1 =>
    bnd (hcp h1 81 (0 : Int).toNat 82 (0 : Int).toNat (6 : Int).toNat) fun h2 =>
    some h2
  else
  some h
set_option maxRecDepth 100000 in
set_option maxHeartbeats 4000000 in
theorem RO_X4_match (N : Nat) (rc : Int → Int → Int → Hp → Option (Hp)) (dr : Nat) (hrc : ∀ (a0 : Int) (a1 : Int) (a2 : Int) (h : Hp) (res : Hp), rc a0 a1 a2 h = some res → Runs M_X4_match dr [.inr 79, .inl a0, .inl a1, .inl a2] h (Qv res)) (x1 : Int) (x2 : Int) (x3 : Int) (h : Hp) (res : Hp) (H : O_X4_match N rc x1 x2 x3 h = some res) : Runs M_X4_match (dr + 2) [.inr 79, .inl x1, .inl x2, .inl x3] h (Qv res) := by
  refine Runs.of rfl (Nat.le_of_ble_eq_true rfl) ?_
  show Go M_X4_match (dr + 2) 0 [some (.inr 79), some (.inl x1), some (.inl x2), some (.inl x3), none] [] h (Qv res)
  unfold O_X4_match at H
  refine g_iload_n (T_X4_match 0 _ _ _ rfl) rfl ?_
  refine g_aload_n (T_X4_match 1 _ _ _ rfl) rfl ?_
  refine g_getI (c := 78) (T_X4_match 2 _ _ _ rfl) fl_X4_24 rfl (Or.inl rfl) ?_
  refine g_icmp_lt (tgt := 9) (T_X4_match 3 _ _ _ rfl) (by decide) (fun cc => ?_) (fun cc => ?_)
  · replace H := ite_p cc H
    refine g_iload_n (T_X4_match 5 _ _ _ rfl) rfl ?_
    refine g_aload_n (T_X4_match 6 _ _ _ rfl) rfl ?_
    refine g_getI (c := 78) (T_X4_match 7 _ _ _ rfl) fl_X4_38 rfl (Or.inl rfl) ?_
    refine g_icmp_lt (tgt := 38) (T_X4_match 8 _ _ _ rfl) (by decide) (fun cc => ?_) (fun cc => ?_)
    · replace H := ite_p cc H
      refine g_iconst (T_X4_match 21 _ _ _ rfl) ⟨by decide, by decide⟩ ?_
      refine g_istore (T_X4_match 22 _ _ _ rfl) (by decide) ?_
      refine g_weak [true, true, true, true, true] ?_
      refine R_L_X4_match_41 N rc  dr hrc  _ _ _ _ _ _ _ H
    · replace H := ite_n cc H
      refine g_aload_n (T_X4_match 9 _ _ _ rfl) rfl ?_
      refine g_iload_n (T_X4_match 10 _ _ _ rfl) rfl ?_
      refine g_put (c := 78) (T_X4_match 11 _ _ _ rfl) fl_X4_24 rfl (Or.inl rfl) ?_
      refine g_bndH H fun h1 H => ?_
      refine g_aload_n (T_X4_match 12 _ _ _ rfl) rfl ?_
      refine g_getR (c := 78) (r := 82) (T_X4_match 13 _ _ _ rfl) fl_X4_18 rfl (nR rfl) rfl (by decide) ?_
      refine g_iconst (T_X4_match 14 _ _ _ rfl) ⟨by decide, by decide⟩ ?_
      refine g_aload_n (T_X4_match 15 _ _ _ rfl) rfl ?_
      refine g_getR (c := 78) (r := 83) (T_X4_match 16 _ _ _ rfl) fl_X4_21 rfl (nR rfl) rfl (by decide) ?_
      refine g_iconst (T_X4_match 17 _ _ _ rfl) ⟨by decide, by decide⟩ ?_
      refine g_bipush (T_X4_match 18 _ _ _ rfl) (by decide) ?_
      refine g_copy (c0 := 81) (c1 := 82) (n0 := 6) (n1 := 6) (st := []) (T_X4_match 19 _ _ _ rfl) ml_X4_59 wcopy rfl rfl (by decide) (Nat.le_of_ble_eq_true rfl) (by omega) ?_
      refine g_bndH H fun h2 H => ?_
      exact g_vret (T_X4_match 20 _ _ _ rfl) rfl (qv_of H)
  · replace H := ite_n cc H
    exact g_vret (T_X4_match 4 _ _ _ rfl) rfl (qv_of H)
def F_X4_match (N : Nat) : Nat → Int → Int → Int → Hp → Option (Hp)
  | 0, _, _, _, _ => none
  | D + 1, x1, x2, x3, h => O_X4_match N (F_X4_match N D) x1 x2 x3 h
set_option maxRecDepth 100000 in
set_option maxHeartbeats 4000000 in
theorem R_X4_match (N : Nat) : ∀ (D : Nat) (x1 : Int) (x2 : Int) (x3 : Int) (h : Hp) (res : Hp), F_X4_match N D x1 x2 x3 h = some res → Runs M_X4_match (2 * D + 1) [.inr 79, .inl x1, .inl x2, .inl x3] h (Qv res)
  | 0, _, _, _, _, _, H => by cases H
  | D + 1, x1, x2, x3, h, res, H => by
    simp only [F_X4_match] at H
    have e : 2 * (D + 1) + 1 = 2 * D + 1 + 2 := by omega
    rw [e]
    exact RO_X4_match N (F_X4_match N D) (2 * D + 1) (R_X4_match N D) _ _ _ _ _ H
def L_X4_find_13 (N : Nat) : Nat → Int → Hp → Option (Hp)
  | 0, _, _ => none
  | n + 1, x4, h =>
    if (h 78 4) ≤ x4 then
      bnd (hw h 78 5 2147483647) fun h1 =>
      bv (F_X4_match N 8 0 0 0 h1) fun h2 =>
      some h2
    else
    bd (F_X10_at N x4 h) fun y4 h3 =>
    grd (0 ≤ x4 ∧ x4 < 6) <|
    bnd (hw h3 79 x4.toNat y4) fun h5 =>
    bd (F_X10_at N (w32 ((h5 78 4) + x4)) h5) fun y7 h6 =>
    bd (F_X1_starsOf N y7 h6) fun y9 h8 =>
    grd (0 ≤ x4 ∧ x4 < 6) <|
    bnd (hw h8 80 x4.toNat y9) fun h10 =>
    bnd (w32 (x4 + 1)) fun y11 =>
    (L_X4_find_13 N n) y11 h10
set_option maxRecDepth 100000 in
set_option maxHeartbeats 4000000 in
theorem R_L_X4_find_13 (N : Nat) : ∀ (n : Nat) (x4 : Int) (h : Hp) (res : Hp), L_X4_find_13 N n x4 h = some res → Go M_X4_find 18 13 [some (.inr 79), some (.inr 42), none, some (.inr 2), some (.inl x4)] [] h (Qv res)
  | 0, _, _, _, H => by cases H
  | n + 1, x4, h, res, H => by
    have ih := R_L_X4_find_13 N n
    simp only [L_X4_find_13] at H
    refine g_iload (T_X4_find 7 _ _ _ rfl) rfl ?_
    refine g_aload_n (T_X4_find 8 _ _ _ rfl) rfl ?_
    refine g_getI (c := 78) (T_X4_find 9 _ _ _ rfl) fl_X4_38 rfl (Or.inl rfl) ?_
    refine g_icmp_ge (tgt := 63) (T_X4_find 10 _ _ _ rfl) (by decide) (fun cc => ?_) (fun cc => ?_)
    · replace H := ite_p cc H
      refine g_aload_n (T_X4_find 32 _ _ _ rfl) rfl ?_
      refine g_ldc (T_X4_find 33 _ _ _ rfl) kc_X4_54 ⟨by decide, by decide⟩ ?_
      refine g_put (c := 78) (T_X4_find 34 _ _ _ rfl) fl_X4_24 rfl (Or.inl rfl) ?_
      refine g_bndH H fun h1 H => ?_
      refine g_aload_n (T_X4_find 35 _ _ _ rfl) rfl ?_
      refine g_iconst (T_X4_find 36 _ _ _ rfl) ⟨by decide, by decide⟩ ?_
      refine g_iconst (T_X4_find 37 _ _ _ rfl) ⟨by decide, by decide⟩ ?_
      refine g_iconst (T_X4_find 38 _ _ _ rfl) ⟨by decide, by decide⟩ ?_
      obtain ⟨h2, hq, H⟩ := bv_some H
      refine g_callVv (M' := M_X4_match) (c := 78) (av := [.inl 0, .inl 0, .inl 0]) (st := []) (T_X4_find 39 _ _ _ rfl) ml_X4_55 cb_X4_match rfl rfl (Nat.le_of_ble_eq_true rfl) (by omega) (R_X4_match N  8 _ _ _ _ _ hq) ?_
      exact g_vret (T_X4_find 40 _ _ _ rfl) rfl (qv_of H)
    · replace H := ite_n cc H
      refine g_aload_n (T_X4_find 11 _ _ _ rfl) rfl ?_
      refine g_getR (c := 78) (r := 80) (T_X4_find 12 _ _ _ rfl) fl_X4_9 rfl (nR rfl) rfl (by decide) ?_
      refine g_iload (T_X4_find 13 _ _ _ rfl) rfl ?_
      refine g_aload_n (T_X4_find 14 _ _ _ rfl) rfl ?_
      refine g_iload (T_X4_find 15 _ _ _ rfl) rfl ?_
      obtain ⟨y4, h3, hq, H⟩ := bd_some H
      refine g_callVi (M' := M_X10_at) (c := 41) (av := [.inl x4]) (st := [.inl x4, .inr 80]) (T_X4_find 16 _ _ _ rfl) ml_X4_41 cb_X10_at rfl rfl (Nat.le_of_ble_eq_true rfl) (by omega) (R_X10_at N _ _ _ hq) ?_
      obtain ⟨hg, H⟩ := grd_some H
      refine g_iast (c := 79) (T_X4_find 17 _ _ _ rfl) rfl hg ?_
      refine g_bndH H fun h5 H => ?_
      refine g_aload_n (T_X4_find 18 _ _ _ rfl) rfl ?_
      refine g_getR (c := 78) (r := 81) (T_X4_find 19 _ _ _ rfl) fl_X4_15 rfl (nR rfl) rfl (by decide) ?_
      refine g_iload (T_X4_find 20 _ _ _ rfl) rfl ?_
      refine g_aload_n (T_X4_find 21 _ _ _ rfl) rfl ?_
      refine g_aload_n (T_X4_find 22 _ _ _ rfl) rfl ?_
      refine g_aload_n (T_X4_find 23 _ _ _ rfl) rfl ?_
      refine g_getI (c := 78) (T_X4_find 24 _ _ _ rfl) fl_X4_38 rfl (Or.inl rfl) ?_
      refine g_iload (T_X4_find 25 _ _ _ rfl) rfl ?_
      refine g_iadd (T_X4_find 26 _ _ _ rfl) ?_
      obtain ⟨y7, h6, hq, H⟩ := bd_some H
      refine g_callVi (M' := M_X10_at) (c := 41) (av := [.inl (w32 ((h5 78 4) + x4))]) (st := [.inr 2, .inl x4, .inr 81]) (T_X4_find 27 _ _ _ rfl) ml_X4_41 cb_X10_at rfl rfl (Nat.le_of_ble_eq_true rfl) (by omega) (R_X10_at N _ _ _ hq) ?_
      obtain ⟨y9, h8, hq, H⟩ := bd_some H
      refine g_callVi (M' := M_X1_starsOf) (c := 1) (av := [.inl y7]) (st := [.inl x4, .inr 81]) (T_X4_find 28 _ _ _ rfl) ml_X4_47 cb_X1_starsOf rfl rfl (Nat.le_of_ble_eq_true rfl) (by omega) (R_X1_starsOf N _ _ _ hq) ?_
      obtain ⟨hg, H⟩ := grd_some H
      refine g_iast (c := 80) (T_X4_find 29 _ _ _ rfl) rfl hg ?_
      refine g_bndH H fun h10 H => ?_
      refine g_iincB (T_X4_find 30 _ _ _ rfl) rfl (by decide) H fun y11 H => ?_
      refine g_goto (tgt := 13) (T_X4_find 31 _ _ _ rfl) (by decide) ?_
      refine g_weak [true, true, false, true, true] ?_
      exact ih _ _ _ H
def F_X4_find (N : Nat) (x2 : Int) (h : Hp) : Option (Hp) :=
  bnd (hw h 78 4 (imin x2 6)) fun h1 =>
  L_X4_find_13 N  N 0 h1
set_option maxRecDepth 100000 in
set_option maxHeartbeats 4000000 in
theorem R_X4_find (N : Nat) (x2 : Int) (h : Hp) (res : Hp) (H : F_X4_find N x2 h = some res) : Runs M_X4_find 18 [.inr 79, .inr 42, .inl x2, .inr 2] h (Qv res) := by
  refine Runs.of rfl (Nat.le_of_ble_eq_true rfl) ?_
  show Go M_X4_find 18 0 [some (.inr 79), some (.inr 42), some (.inl x2), some (.inr 2), none] [] h (Qv res)
  unfold F_X4_find at H
  refine g_aload_n (T_X4_find 0 _ _ _ rfl) rfl ?_
  refine g_iload_n (T_X4_find 1 _ _ _ rfl) rfl ?_
  refine g_bipush (T_X4_find 2 _ _ _ rfl) (by decide) ?_
  refine g_min (st := [.inr 79]) (T_X4_find 3 _ _ _ rfl) ml_X4_32 wmin (Nat.le_of_ble_eq_true rfl) (by omega) ?_
  refine g_put (c := 78) (T_X4_find 4 _ _ _ rfl) fl_X4_38 rfl (Or.inl rfl) ?_
  refine g_bndH H fun h1 H => ?_
  refine g_iconst (T_X4_find 5 _ _ _ rfl) ⟨by decide, by decide⟩ ?_
  refine g_istore (T_X4_find 6 _ _ _ rfl) (by decide) ?_
  refine g_weak [true, true, false, true, true] ?_
  refine R_L_X4_find_13 N   _ _ _ _ H
def F_X4_placeFor (N : Nat) (x1 : Int) (h : Hp) : Option (Int × Hp) :=
  bd (F_X11_isWithin N x1 0 5 h) fun y2 h1 =>
  if y2 = 0 then
    some (0, h1)
  else
  grd (0 ≤ x1 ∧ x1 < 6) <|
  some ((h1 82 x1.toNat), h1)
set_option maxRecDepth 100000 in
set_option maxHeartbeats 4000000 in
theorem R_X4_placeFor (N : Nat) (x1 : Int) (h : Hp) (res : Int × Hp) (H : F_X4_placeFor N x1 h = some res) : Runs M_X4_placeFor 2 [.inr 79, .inl x1] h (Qi res) := by
  refine Runs.of rfl (Nat.le_of_ble_eq_true rfl) ?_
  show Go M_X4_placeFor 2 0 [some (.inr 79), some (.inl x1)] [] h (Qi res)
  unfold F_X4_placeFor at H
  refine g_iload_n (T_X4_placeFor 0 _ _ _ rfl) rfl ?_
  refine g_iconst (T_X4_placeFor 1 _ _ _ rfl) ⟨by decide, by decide⟩ ?_
  refine g_iconst (T_X4_placeFor 2 _ _ _ rfl) ⟨by decide, by decide⟩ ?_
  obtain ⟨y2, h1, hq, H⟩ := bd_some H
  refine g_callSNi (M' := M_X11_isWithin) (av := [.inl x1, .inl 0, .inl 5]) (st := []) (T_X4_placeFor 3 _ _ _ rfl) ml_X4_28 cb_X11_isWithin rfl (Nat.le_of_ble_eq_true rfl) (by omega) (R_X11_isWithin N _ _ _ _ _ hq) ?_
  refine g_if_eq (tgt := 18) (T_X4_placeFor 4 _ _ _ rfl) (by decide) (fun cc => ?_) (fun cc => ?_)
  · replace H := ite_p cc H
    refine g_iconst (T_X4_placeFor 10 _ _ _ rfl) ⟨by decide, by decide⟩ ?_
    exact g_iret (T_X4_placeFor 11 _ _ _ rfl) rfl (qi_of H)
  · replace H := ite_n cc H
    refine g_aload_n (T_X4_placeFor 5 _ _ _ rfl) rfl ?_
    refine g_getR (c := 78) (r := 83) (T_X4_placeFor 6 _ _ _ rfl) fl_X4_21 rfl (nR rfl) rfl (by decide) ?_
    refine g_iload_n (T_X4_placeFor 7 _ _ _ rfl) rfl ?_
    obtain ⟨hg, H⟩ := grd_some H
    refine g_iald (c := 82) (T_X4_placeFor 8 _ _ _ rfl) rfl hg ?_
    refine g_goto (tgt := 19) (T_X4_placeFor 9 _ _ _ rfl) (by decide) ?_
    exact g_iret (T_X4_placeFor 11 _ _ _ rfl) rfl (qi_of H)
def F_X4_missing (N : Nat) (h : Hp) : Option (Int × Hp) :=
  some ((h 78 5), h)
set_option maxRecDepth 100000 in
set_option maxHeartbeats 4000000 in
theorem R_X4_missing (N : Nat) (h : Hp) (res : Int × Hp) (H : F_X4_missing N h = some res) : Runs M_X4_missing 1 [.inr 79] h (Qi res) := by
  refine Runs.of rfl (Nat.le_of_ble_eq_true rfl) ?_
  show Go M_X4_missing 1 0 [some (.inr 79)] [] h (Qi res)
  unfold F_X4_missing at H
  refine g_aload_n (T_X4_missing 0 _ _ _ rfl) rfl ?_
  refine g_getI (c := 78) (T_X4_missing 1 _ _ _ rfl) fl_X4_24 rfl (Or.inl rfl) ?_
  exact g_iret (T_X4_missing 2 _ _ _ rfl) rfl (qi_of H)
def J_X11_matchBrides_81 (N : Nat) (x1 : Int) (x2 : Int) (h : Hp) : Option (Int × Hp) :=
  bv (F_X4_find N x1 h) fun h1 =>
  if x2 = 10 then
    bd (F_X4_missing N h1) fun y7 h6 =>
    some (y7, h6)
  else
  bd (F_X4_placeFor N x2 h1) fun y3 h2 =>
  bd (F_X10_at N (w32 (x1 + y3)) h2) fun y5 h4 =>
  some (y5, h4)
set_option maxRecDepth 100000 in
set_option maxHeartbeats 4000000 in
theorem R_J_X11_matchBrides_81 (N : Nat) (x1 : Int) (x2 : Int) (h : Hp) (res : Int × Hp) (H : J_X11_matchBrides_81 N x1 x2 h = some res) : Go M_X11_matchBrides 19 81 [some (.inr 1), some (.inl x1), some (.inl x2), none, none, none] [] h (Qi res) := by
  unfold J_X11_matchBrides_81 at H
  refine g_aload_n (T_X11_matchBrides 45 _ _ _ rfl) rfl ?_
  refine g_getR (c := 0) (r := 79) (T_X11_matchBrides 46 _ _ _ rfl) fl_X11_92 rfl (nR rfl) rfl (by decide) ?_
  refine g_aload_n (T_X11_matchBrides 47 _ _ _ rfl) rfl ?_
  refine g_getR (c := 0) (r := 42) (T_X11_matchBrides 48 _ _ _ rfl) fl_X11_24 rfl (nR rfl) rfl (by decide) ?_
  refine g_iload_n (T_X11_matchBrides 49 _ _ _ rfl) rfl ?_
  refine g_aload_n (T_X11_matchBrides 50 _ _ _ rfl) rfl ?_
  refine g_getR (c := 0) (r := 2) (T_X11_matchBrides 51 _ _ _ rfl) fl_X11_28 rfl (nR rfl) rfl (by decide) ?_
  obtain ⟨h1, hq, H⟩ := bv_some H
  refine g_callVv (M' := M_X4_find) (c := 78) (av := [.inr 42, .inl x1, .inr 2]) (st := []) (T_X11_matchBrides 52 _ _ _ rfl) ml_X11_363 cb_X4_find rfl rfl (Nat.le_of_ble_eq_true rfl) (by omega) (R_X4_find N _ _ _ hq) ?_
  refine g_iload_n (T_X11_matchBrides 53 _ _ _ rfl) rfl ?_
  refine g_bipush (T_X11_matchBrides 54 _ _ _ rfl) (by decide) ?_
  refine g_icmp_ne (tgt := 113) (T_X11_matchBrides 55 _ _ _ rfl) (by decide) (fun cc => ?_) (fun cc => ?_)
  · replace H := ite_n cc H
    refine g_aload_n (T_X11_matchBrides 60 _ _ _ rfl) rfl ?_
    refine g_getR (c := 0) (r := 42) (T_X11_matchBrides 61 _ _ _ rfl) fl_X11_24 rfl (nR rfl) rfl (by decide) ?_
    refine g_iload_n (T_X11_matchBrides 62 _ _ _ rfl) rfl ?_
    refine g_aload_n (T_X11_matchBrides 63 _ _ _ rfl) rfl ?_
    refine g_getR (c := 0) (r := 79) (T_X11_matchBrides 64 _ _ _ rfl) fl_X11_92 rfl (nR rfl) rfl (by decide) ?_
    refine g_iload_n (T_X11_matchBrides 65 _ _ _ rfl) rfl ?_
    obtain ⟨y3, h2, hq, H⟩ := bd_some H
    refine g_callVi (M' := M_X4_placeFor) (c := 78) (av := [.inl x2]) (st := [.inl x1, .inr 42]) (T_X11_matchBrides 66 _ _ _ rfl) ml_X11_369 cb_X4_placeFor rfl rfl (Nat.le_of_ble_eq_true rfl) (by omega) (R_X4_placeFor N _ _ _ hq) ?_
    refine g_iadd (T_X11_matchBrides 67 _ _ _ rfl) ?_
    obtain ⟨y5, h4, hq, H⟩ := bd_some H
    refine g_callVi (M' := M_X10_at) (c := 41) (av := [.inl (w32 (x1 + y3))]) (st := []) (T_X11_matchBrides 68 _ _ _ rfl) ml_X11_360 cb_X10_at rfl rfl (Nat.le_of_ble_eq_true rfl) (by omega) (R_X10_at N _ _ _ hq) ?_
    exact g_iret (T_X11_matchBrides 69 _ _ _ rfl) rfl (qi_of H)
  · replace H := ite_p cc H
    refine g_aload_n (T_X11_matchBrides 56 _ _ _ rfl) rfl ?_
    refine g_getR (c := 0) (r := 79) (T_X11_matchBrides 57 _ _ _ rfl) fl_X11_92 rfl (nR rfl) rfl (by decide) ?_
    obtain ⟨y7, h6, hq, H⟩ := bd_some H
    refine g_callVi (M' := M_X4_missing) (c := 78) (av := []) (st := []) (T_X11_matchBrides 58 _ _ _ rfl) ml_X11_366 cb_X4_missing rfl rfl (Nat.le_of_ble_eq_true rfl) (by omega) (R_X4_missing N _ _ hq) ?_
    refine g_goto (tgt := 130) (T_X11_matchBrides 59 _ _ _ rfl) (by decide) ?_
    exact g_iret (T_X11_matchBrides 69 _ _ _ rfl) rfl (qi_of H)
def L_X11_matchBrides_5 (N : Nat) : Nat → Int → Int → Int → Int → Hp → Option (Int × Hp)
  | 0, _, _, _, _, _ => none
  | n + 1, x1, x2, x3, x4, h =>
    if (w32 (2 * x1)) ≤ x4 then
      if x2 = 10 then
        J_X11_matchBrides_81 N  x1 x2 h
      else
      bd (F_X11_isWithin N x2 0 (w32 (x1 - 1)) h) fun y2 h1 =>
      if y2 = 0 then
        some ((-4), h1)
      else
      J_X11_matchBrides_81 N  x1 x2 h1
    else
    bd (F_X10_at N x4 h) fun y4 h3 =>
    bd (F_X1_isTold N y4 h3) fun y6 h5 =>
    if y6 = 0 then
      some ((-2), h5)
    else
    bd (F_X11_hasBit N x3 y4 h5) fun y8 h7 =>
    if y8 = 0 then
      bnd ((ior x3 (ishl 1 y4))) fun y9 =>
      bnd (w32 (x4 + 1)) fun y10 =>
      (L_X11_matchBrides_5 N n) x1 x2 y9 y10 h7
    else
    some ((-2), h7)
set_option maxRecDepth 100000 in
set_option maxHeartbeats 4000000 in
theorem R_L_X11_matchBrides_5 (N : Nat) : ∀ (n : Nat) (x1 : Int) (x2 : Int) (x3 : Int) (x4 : Int) (h : Hp) (res : Int × Hp), L_X11_matchBrides_5 N n x1 x2 x3 x4 h = some res → Go M_X11_matchBrides 19 5 [some (.inr 1), some (.inl x1), some (.inl x2), some (.inl x3), some (.inl x4), none] [] h (Qi res)
  | 0, _, _, _, _, _, _, H => by cases H
  | n + 1, x1, x2, x3, x4, h, res, H => by
    have ih := R_L_X11_matchBrides_5 N n
    simp only [L_X11_matchBrides_5] at H
    refine g_iload (T_X11_matchBrides 4 _ _ _ rfl) rfl ?_
    refine g_iconst (T_X11_matchBrides 5 _ _ _ rfl) ⟨by decide, by decide⟩ ?_
    refine g_iload_n (T_X11_matchBrides 6 _ _ _ rfl) rfl ?_
    refine g_imul (T_X11_matchBrides 7 _ _ _ rfl) ?_
    refine g_icmp_ge (tgt := 61) (T_X11_matchBrides 8 _ _ _ rfl) (by decide) (fun cc => ?_) (fun cc => ?_)
    · replace H := ite_p cc H
      refine g_iload_n (T_X11_matchBrides 33 _ _ _ rfl) rfl ?_
      refine g_bipush (T_X11_matchBrides 34 _ _ _ rfl) (by decide) ?_
      refine g_icmp_eq (tgt := 81) (T_X11_matchBrides 35 _ _ _ rfl) (by decide) (fun cc => ?_) (fun cc => ?_)
      · replace H := ite_p cc H
        refine g_weak [true, true, true, false, false, false] ?_
        exact R_J_X11_matchBrides_81 N   _ _ _ _ H
      · replace H := ite_n cc H
        refine g_iload_n (T_X11_matchBrides 36 _ _ _ rfl) rfl ?_
        refine g_iconst (T_X11_matchBrides 37 _ _ _ rfl) ⟨by decide, by decide⟩ ?_
        refine g_iload_n (T_X11_matchBrides 38 _ _ _ rfl) rfl ?_
        refine g_iconst (T_X11_matchBrides 39 _ _ _ rfl) ⟨by decide, by decide⟩ ?_
        refine g_isub (T_X11_matchBrides 40 _ _ _ rfl) ?_
        obtain ⟨y2, h1, hq, H⟩ := bd_some H
        refine g_callSi (M' := M_X11_isWithin) (av := [.inl x2, .inl 0, .inl (w32 (x1 - 1))]) (st := []) (T_X11_matchBrides 41 _ _ _ rfl) ml_X11_96 cb_X11_isWithin rfl (Nat.le_of_ble_eq_true rfl) (by omega) (R_X11_isWithin N _ _ _ _ _ hq) ?_
        refine g_if_ne (tgt := 81) (T_X11_matchBrides 42 _ _ _ rfl) (by decide) (fun cc => ?_) (fun cc => ?_)
        · replace H := ite_n cc H
          refine g_weak [true, true, true, false, false, false] ?_
          exact R_J_X11_matchBrides_81 N   _ _ _ _ H
        · replace H := ite_p cc H
          refine g_bipush (T_X11_matchBrides 43 _ _ _ rfl) (by decide) ?_
          exact g_iret (T_X11_matchBrides 44 _ _ _ rfl) rfl (qi_of H)
    · replace H := ite_n cc H
      refine g_aload_n (T_X11_matchBrides 9 _ _ _ rfl) rfl ?_
      refine g_getR (c := 0) (r := 42) (T_X11_matchBrides 10 _ _ _ rfl) fl_X11_24 rfl (nR rfl) rfl (by decide) ?_
      refine g_iload (T_X11_matchBrides 11 _ _ _ rfl) rfl ?_
      obtain ⟨y4, h3, hq, H⟩ := bd_some H
      refine g_callVi (M' := M_X10_at) (c := 41) (av := [.inl x4]) (st := []) (T_X11_matchBrides 12 _ _ _ rfl) ml_X11_360 cb_X10_at rfl rfl (Nat.le_of_ble_eq_true rfl) (by omega) (R_X10_at N _ _ _ hq) ?_
      refine g_istore (T_X11_matchBrides 13 _ _ _ rfl) (by decide) ?_
      refine g_aload_n (T_X11_matchBrides 14 _ _ _ rfl) rfl ?_
      refine g_getR (c := 0) (r := 2) (T_X11_matchBrides 15 _ _ _ rfl) fl_X11_28 rfl (nR rfl) rfl (by decide) ?_
      refine g_iload (T_X11_matchBrides 16 _ _ _ rfl) rfl ?_
      obtain ⟨y6, h5, hq, H⟩ := bd_some H
      refine g_callVi (M' := M_X1_isTold) (c := 1) (av := [.inl y4]) (st := []) (T_X11_matchBrides 17 _ _ _ rfl) ml_X11_112 cb_X1_isTold rfl rfl (Nat.le_of_ble_eq_true rfl) (by omega) (R_X1_isTold N _ _ _ hq) ?_
      refine g_if_eq (tgt := 45) (T_X11_matchBrides 18 _ _ _ rfl) (by decide) (fun cc => ?_) (fun cc => ?_)
      · replace H := ite_p cc H
        refine g_bipush (T_X11_matchBrides 23 _ _ _ rfl) (by decide) ?_
        exact g_iret (T_X11_matchBrides 24 _ _ _ rfl) rfl (qi_of H)
      · replace H := ite_n cc H
        refine g_iload_n (T_X11_matchBrides 19 _ _ _ rfl) rfl ?_
        refine g_iload (T_X11_matchBrides 20 _ _ _ rfl) rfl ?_
        obtain ⟨y8, h7, hq, H⟩ := bd_some H
        refine g_callSi (M' := M_X11_hasBit) (av := [.inl x3, .inl y4]) (st := []) (T_X11_matchBrides 21 _ _ _ rfl) ml_X11_206 cb_X11_hasBit rfl (Nat.le_of_ble_eq_true rfl) (by omega) (R_X11_hasBit N _ _ _ _ hq) ?_
        refine g_if_eq (tgt := 48) (T_X11_matchBrides 22 _ _ _ rfl) (by decide) (fun cc => ?_) (fun cc => ?_)
        · replace H := ite_p cc H
          refine g_iload_n (T_X11_matchBrides 25 _ _ _ rfl) rfl ?_
          refine g_iconst (T_X11_matchBrides 26 _ _ _ rfl) ⟨by decide, by decide⟩ ?_
          refine g_iload (T_X11_matchBrides 27 _ _ _ rfl) rfl ?_
          refine g_ishl (T_X11_matchBrides 28 _ _ _ rfl) ?_
          refine g_ior (T_X11_matchBrides 29 _ _ _ rfl) ?_
          refine g_bndI H fun y9 H => ?_
          refine g_istore_n (T_X11_matchBrides 30 _ _ _ rfl) (by decide) ?_
          refine g_iincB (T_X11_matchBrides 31 _ _ _ rfl) rfl (by decide) H fun y10 H => ?_
          refine g_goto (tgt := 5) (T_X11_matchBrides 32 _ _ _ rfl) (by decide) ?_
          refine g_weak [true, true, true, true, true, false] ?_
          exact ih _ _ _ _ _ _ H
        · replace H := ite_n cc H
          refine g_bipush (T_X11_matchBrides 23 _ _ _ rfl) (by decide) ?_
          exact g_iret (T_X11_matchBrides 24 _ _ _ rfl) rfl (qi_of H)
def F_X11_matchBrides (N : Nat) (x1 : Int) (x2 : Int) (h : Hp) : Option (Int × Hp) :=
  L_X11_matchBrides_5 N  N x1 x2 0 x1 h
set_option maxRecDepth 100000 in
set_option maxHeartbeats 4000000 in
theorem R_X11_matchBrides (N : Nat) (x1 : Int) (x2 : Int) (h : Hp) (res : Int × Hp) (H : F_X11_matchBrides N x1 x2 h = some res) : Runs M_X11_matchBrides 19 [.inr 1, .inl x1, .inl x2] h (Qi res) := by
  refine Runs.of rfl (Nat.le_of_ble_eq_true rfl) ?_
  show Go M_X11_matchBrides 19 0 [some (.inr 1), some (.inl x1), some (.inl x2), none, none, none] [] h (Qi res)
  unfold F_X11_matchBrides at H
  refine g_iconst (T_X11_matchBrides 0 _ _ _ rfl) ⟨by decide, by decide⟩ ?_
  refine g_istore_n (T_X11_matchBrides 1 _ _ _ rfl) (by decide) ?_
  refine g_iload_n (T_X11_matchBrides 2 _ _ _ rfl) rfl ?_
  refine g_istore (T_X11_matchBrides 3 _ _ _ rfl) (by decide) ?_
  refine g_weak [true, true, true, true, true, false] ?_
  refine R_L_X11_matchBrides_5 N   _ _ _ _ _ _ _ H
def F_X11_brides (N : Nat) (x1 : Int) (x2 : Int) (h : Hp) : Option (Int × Hp) :=
  bd (F_X11_isWithin N x1 1 6 h) fun y2 h1 =>
  if y2 = 0 then
    some ((-1), h1)
  else
  bd (F_X10_holds N (w32 (2 * x1)) h1) fun y4 h3 =>
  if y4 = 0 then
    some ((-1), h3)
  else
  bd (F_X11_matchBrides N x1 x2 h3) fun y6 h5 =>
  bv (F_X10_clear N h5) fun h7 =>
  some (y6, h7)
set_option maxRecDepth 100000 in
set_option maxHeartbeats 4000000 in
theorem R_X11_brides (N : Nat) (x1 : Int) (x2 : Int) (h : Hp) (res : Int × Hp) (H : F_X11_brides N x1 x2 h = some res) : Runs M_X11_brides 20 [.inr 1, .inl x1, .inl x2] h (Qi res) := by
  refine Runs.of rfl (Nat.le_of_ble_eq_true rfl) ?_
  show Go M_X11_brides 20 0 [some (.inr 1), some (.inl x1), some (.inl x2), none] [] h (Qi res)
  unfold F_X11_brides at H
  refine g_iload_n (T_X11_brides 0 _ _ _ rfl) rfl ?_
  refine g_iconst (T_X11_brides 1 _ _ _ rfl) ⟨by decide, by decide⟩ ?_
  refine g_bipush (T_X11_brides 2 _ _ _ rfl) (by decide) ?_
  obtain ⟨y2, h1, hq, H⟩ := bd_some H
  refine g_callSi (M' := M_X11_isWithin) (av := [.inl x1, .inl 1, .inl 6]) (st := []) (T_X11_brides 3 _ _ _ rfl) ml_X11_96 cb_X11_isWithin rfl (Nat.le_of_ble_eq_true rfl) (by omega) (R_X11_isWithin N _ _ _ _ _ hq) ?_
  refine g_if_eq (tgt := 23) (T_X11_brides 4 _ _ _ rfl) (by decide) (fun cc => ?_) (fun cc => ?_)
  · replace H := ite_p cc H
    refine g_iconst (T_X11_brides 12 _ _ _ rfl) ⟨by decide, by decide⟩ ?_
    exact g_iret (T_X11_brides 13 _ _ _ rfl) rfl (qi_of H)
  · replace H := ite_n cc H
    refine g_aload_n (T_X11_brides 5 _ _ _ rfl) rfl ?_
    refine g_getR (c := 0) (r := 42) (T_X11_brides 6 _ _ _ rfl) fl_X11_24 rfl (nR rfl) rfl (by decide) ?_
    refine g_iconst (T_X11_brides 7 _ _ _ rfl) ⟨by decide, by decide⟩ ?_
    refine g_iload_n (T_X11_brides 8 _ _ _ rfl) rfl ?_
    refine g_imul (T_X11_brides 9 _ _ _ rfl) ?_
    obtain ⟨y4, h3, hq, H⟩ := bd_some H
    refine g_callVi (M' := M_X10_holds) (c := 41) (av := [.inl (w32 (2 * x1))]) (st := []) (T_X11_brides 10 _ _ _ rfl) ml_X11_130 cb_X10_holds rfl rfl (Nat.le_of_ble_eq_true rfl) (by omega) (R_X10_holds N _ _ _ hq) ?_
    refine g_if_ne (tgt := 25) (T_X11_brides 11 _ _ _ rfl) (by decide) (fun cc => ?_) (fun cc => ?_)
    · replace H := ite_n cc H
      refine g_aload_n (T_X11_brides 14 _ _ _ rfl) rfl ?_
      refine g_iload_n (T_X11_brides 15 _ _ _ rfl) rfl ?_
      refine g_iload_n (T_X11_brides 16 _ _ _ rfl) rfl ?_
      obtain ⟨y6, h5, hq, H⟩ := bd_some H
      refine g_callVi (M' := M_X11_matchBrides) (c := 0) (av := [.inl x1, .inl x2]) (st := []) (T_X11_brides 17 _ _ _ rfl) ml_X11_295 cb_X11_matchBrides rfl rfl (Nat.le_of_ble_eq_true rfl) (by omega) (R_X11_matchBrides N _ _ _ _ hq) ?_
      refine g_istore_n (T_X11_brides 18 _ _ _ rfl) (by decide) ?_
      refine g_aload_n (T_X11_brides 19 _ _ _ rfl) rfl ?_
      refine g_getR (c := 0) (r := 42) (T_X11_brides 20 _ _ _ rfl) fl_X11_24 rfl (nR rfl) rfl (by decide) ?_
      obtain ⟨h7, hq, H⟩ := bv_some H
      refine g_callVv (M' := M_X10_clear) (c := 41) (av := []) (st := []) (T_X11_brides 21 _ _ _ rfl) ml_X11_152 cb_X10_clear rfl rfl (Nat.le_of_ble_eq_true rfl) (by omega) (R_X10_clear N _ _ hq) ?_
      refine g_iload_n (T_X11_brides 22 _ _ _ rfl) rfl ?_
      exact g_iret (T_X11_brides 23 _ _ _ rfl) rfl (qi_of H)
    · replace H := ite_p cc H
      refine g_iconst (T_X11_brides 12 _ _ _ rfl) ⟨by decide, by decide⟩ ?_
      exact g_iret (T_X11_brides 13 _ _ _ rfl) rfl (qi_of H)
def J_X11_thieves_108 (N : Nat) (k60 : Int → Int → Int → Int → Int → Int → Int → Hp → Option (Int × Hp)) (x1 : Int) (x2 : Int) (x3 : Int) (x4 : Int) (x5 : Int) (x6 : Int) (x7 : Int) (h : Hp) : Option (Int × Hp) :=
  bnd (w32 (x7 + 1)) fun y1 =>
  k60 x1 x2 x3 x4 x5 x6 y1 h
set_option maxRecDepth 100000 in
set_option maxHeartbeats 4000000 in
theorem R_J_X11_thieves_108 (N : Nat) (k60 : Int → Int → Int → Int → Int → Int → Int → Hp → Option (Int × Hp)) (hk60 : ∀ (x1 : Int) (x2 : Int) (x3 : Int) (x4 : Int) (x5 : Int) (x6 : Int) (x7 : Int) (h : Hp) (res : Int × Hp), k60 x1 x2 x3 x4 x5 x6 x7 h = some res → Go M_X11_thieves 3 60 [some (.inr 1), some (.inl x1), some (.inl x2), some (.inl x3), some (.inl x4), some (.inl x5), some (.inl x6), some (.inl x7)] [] h (Qi res)) (x1 : Int) (x2 : Int) (x3 : Int) (x4 : Int) (x5 : Int) (x6 : Int) (x7 : Int) (h : Hp) (res : Int × Hp) (H : J_X11_thieves_108 N k60 x1 x2 x3 x4 x5 x6 x7 h = some res) : Go M_X11_thieves 3 108 [some (.inr 1), some (.inl x1), some (.inl x2), some (.inl x3), some (.inl x4), some (.inl x5), some (.inl x6), some (.inl x7)] [] h (Qi res) := by
  unfold J_X11_thieves_108 at H
  refine g_iincB (T_X11_thieves 59 _ _ _ rfl) rfl (by decide) H fun y1 H => ?_
  refine g_goto (tgt := 60) (T_X11_thieves 60 _ _ _ rfl) (by decide) ?_
  refine g_weak [true, true, true, true, true, true, true, true] ?_
  exact hk60 _ _ _ _ _ _ _ _ _ H
def J_X11_thieves_96 (N : Nat) (k60 : Int → Int → Int → Int → Int → Int → Int → Hp → Option (Int × Hp)) (x1 : Int) (x2 : Int) (x3 : Int) (x4 : Int) (x6 : Int) (x7 : Int) (s0 : Int) (h : Hp) : Option (Int × Hp) :=
  bnd ((iand x6 x7)) fun y1 =>
  bnd (w32 (x4 + 1)) fun y2 =>
  J_X11_thieves_108 N k60 x1 x2 x3 y2 s0 y1 x7 h
set_option maxRecDepth 100000 in
set_option maxHeartbeats 4000000 in
theorem R_J_X11_thieves_96 (N : Nat) (k60 : Int → Int → Int → Int → Int → Int → Int → Hp → Option (Int × Hp)) (hk60 : ∀ (x1 : Int) (x2 : Int) (x3 : Int) (x4 : Int) (x5 : Int) (x6 : Int) (x7 : Int) (h : Hp) (res : Int × Hp), k60 x1 x2 x3 x4 x5 x6 x7 h = some res → Go M_X11_thieves 3 60 [some (.inr 1), some (.inl x1), some (.inl x2), some (.inl x3), some (.inl x4), some (.inl x5), some (.inl x6), some (.inl x7)] [] h (Qi res)) (x1 : Int) (x2 : Int) (x3 : Int) (x4 : Int) (x6 : Int) (x7 : Int) (s0 : Int) (h : Hp) (res : Int × Hp) (H : J_X11_thieves_96 N k60 x1 x2 x3 x4 x6 x7 s0 h = some res) : Go M_X11_thieves 3 96 [some (.inr 1), some (.inl x1), some (.inl x2), some (.inl x3), some (.inl x4), none, some (.inl x6), some (.inl x7)] [.inl s0] h (Qi res) := by
  unfold J_X11_thieves_96 at H
  refine g_istore (T_X11_thieves 53 _ _ _ rfl) (by decide) ?_
  refine g_iload (T_X11_thieves 54 _ _ _ rfl) rfl ?_
  refine g_iload (T_X11_thieves 55 _ _ _ rfl) rfl ?_
  refine g_iand (T_X11_thieves 56 _ _ _ rfl) ?_
  refine g_bndI H fun y1 H => ?_
  refine g_istore (T_X11_thieves 57 _ _ _ rfl) (by decide) ?_
  refine g_iincB (T_X11_thieves 58 _ _ _ rfl) rfl (by decide) H fun y2 H => ?_
  refine g_weak [true, true, true, true, true, true, true, true] ?_
  exact R_J_X11_thieves_108 N k60 hk60 _ _ _ _ _ _ _ _ _ H
def L_X11_thieves_60 (N : Nat) : Nat → Int → Int → Int → Int → Int → Int → Int → Hp → Option (Int × Hp)
  | 0, _, _, _, _, _, _, _, _ => none
  | n + 1, x1, x2, x3, x4, x5, x6, x7, h =>
    if (ishl 1 x1) ≤ x7 then
      bv (F_X10_clear N h) fun h1 =>
      if x3 = 0 then
        some (x4, h1)
      else
      if x3 = 1 then
        some (x5, h1)
      else
      if x4 = 0 then
        some (x5, h1)
      else
      some (x6, h1)
    else
    bd (F_X10_sumOf N x7 0 1 x1 h) fun y3 h2 =>
    if y3 = x2 then
      if x4 = 0 then
        J_X11_thieves_96 N (L_X11_thieves_60 N n) x1 x2 x3 x4 x6 x7 x7 h2
      else
      J_X11_thieves_96 N (L_X11_thieves_60 N n) x1 x2 x3 x4 x6 x7 x5 h2
    else
    J_X11_thieves_108 N (L_X11_thieves_60 N n) x1 x2 x3 x4 x5 x6 x7 h2
set_option maxRecDepth 100000 in
set_option maxHeartbeats 4000000 in
theorem R_L_X11_thieves_60 (N : Nat) : ∀ (n : Nat) (x1 : Int) (x2 : Int) (x3 : Int) (x4 : Int) (x5 : Int) (x6 : Int) (x7 : Int) (h : Hp) (res : Int × Hp), L_X11_thieves_60 N n x1 x2 x3 x4 x5 x6 x7 h = some res → Go M_X11_thieves 3 60 [some (.inr 1), some (.inl x1), some (.inl x2), some (.inl x3), some (.inl x4), some (.inl x5), some (.inl x6), some (.inl x7)] [] h (Qi res)
  | 0, _, _, _, _, _, _, _, _, _, H => by cases H
  | n + 1, x1, x2, x3, x4, x5, x6, x7, h, res, H => by
    have ih := R_L_X11_thieves_60 N n
    simp only [L_X11_thieves_60] at H
    refine g_iload (T_X11_thieves 34 _ _ _ rfl) rfl ?_
    refine g_iconst (T_X11_thieves 35 _ _ _ rfl) ⟨by decide, by decide⟩ ?_
    refine g_iload_n (T_X11_thieves 36 _ _ _ rfl) rfl ?_
    refine g_ishl (T_X11_thieves 37 _ _ _ rfl) ?_
    refine g_icmp_ge (tgt := 114) (T_X11_thieves 38 _ _ _ rfl) (by decide) (fun cc => ?_) (fun cc => ?_)
    · replace H := ite_p cc H
      refine g_aload_n (T_X11_thieves 61 _ _ _ rfl) rfl ?_
      refine g_getR (c := 0) (r := 42) (T_X11_thieves 62 _ _ _ rfl) fl_X11_24 rfl (nR rfl) rfl (by decide) ?_
      obtain ⟨h1, hq, H⟩ := bv_some H
      refine g_callVv (M' := M_X10_clear) (c := 41) (av := []) (st := []) (T_X11_thieves 63 _ _ _ rfl) ml_X11_152 cb_X10_clear rfl rfl (Nat.le_of_ble_eq_true rfl) (by omega) (R_X10_clear N _ _ hq) ?_
      refine g_iload_n (T_X11_thieves 64 _ _ _ rfl) rfl ?_
      refine g_if_ne (tgt := 128) (T_X11_thieves 65 _ _ _ rfl) (by decide) (fun cc => ?_) (fun cc => ?_)
      · replace H := ite_n cc H
        refine g_iload_n (T_X11_thieves 68 _ _ _ rfl) rfl ?_
        refine g_iconst (T_X11_thieves 69 _ _ _ rfl) ⟨by decide, by decide⟩ ?_
        refine g_icmp_eq (tgt := 138) (T_X11_thieves 70 _ _ _ rfl) (by decide) (fun cc => ?_) (fun cc => ?_)
        · replace H := ite_p cc H
          refine g_iload (T_X11_thieves 73 _ _ _ rfl) rfl ?_
          refine g_goto (tgt := 145) (T_X11_thieves 74 _ _ _ rfl) (by decide) ?_
          exact g_iret (T_X11_thieves 76 _ _ _ rfl) rfl (qi_of H)
        · replace H := ite_n cc H
          refine g_iload (T_X11_thieves 71 _ _ _ rfl) rfl ?_
          refine g_if_ne (tgt := 143) (T_X11_thieves 72 _ _ _ rfl) (by decide) (fun cc => ?_) (fun cc => ?_)
          · replace H := ite_n cc H
            refine g_iload (T_X11_thieves 75 _ _ _ rfl) rfl ?_
            exact g_iret (T_X11_thieves 76 _ _ _ rfl) rfl (qi_of H)
          · replace H := ite_p cc H
            refine g_iload (T_X11_thieves 73 _ _ _ rfl) rfl ?_
            refine g_goto (tgt := 145) (T_X11_thieves 74 _ _ _ rfl) (by decide) ?_
            exact g_iret (T_X11_thieves 76 _ _ _ rfl) rfl (qi_of H)
      · replace H := ite_p cc H
        refine g_iload (T_X11_thieves 66 _ _ _ rfl) rfl ?_
        exact g_iret (T_X11_thieves 67 _ _ _ rfl) rfl (qi_of H)
    · replace H := ite_n cc H
      refine g_aload_n (T_X11_thieves 39 _ _ _ rfl) rfl ?_
      refine g_getR (c := 0) (r := 42) (T_X11_thieves 40 _ _ _ rfl) fl_X11_24 rfl (nR rfl) rfl (by decide) ?_
      refine g_iload (T_X11_thieves 41 _ _ _ rfl) rfl ?_
      refine g_iconst (T_X11_thieves 42 _ _ _ rfl) ⟨by decide, by decide⟩ ?_
      refine g_iconst (T_X11_thieves 43 _ _ _ rfl) ⟨by decide, by decide⟩ ?_
      refine g_iload_n (T_X11_thieves 44 _ _ _ rfl) rfl ?_
      obtain ⟨y3, h2, hq, H⟩ := bd_some H
      refine g_callVi (M' := M_X10_sumOf) (c := 41) (av := [.inl x7, .inl 0, .inl 1, .inl x1]) (st := []) (T_X11_thieves 45 _ _ _ rfl) ml_X11_291 cb_X10_sumOf rfl rfl (Nat.le_of_ble_eq_true rfl) (by omega) (R_X10_sumOf N _ _ _ _ _ _ hq) ?_
      refine g_iload_n (T_X11_thieves 46 _ _ _ rfl) rfl ?_
      refine g_icmp_ne (tgt := 108) (T_X11_thieves 47 _ _ _ rfl) (by decide) (fun cc => ?_) (fun cc => ?_)
      · replace H := ite_n cc H
        refine g_weak [true, true, true, true, true, true, true, true] ?_
        exact R_J_X11_thieves_108 N (L_X11_thieves_60 N n) ih _ _ _ _ _ _ _ _ _ H
      · replace H := ite_p cc H
        refine g_iload (T_X11_thieves 48 _ _ _ rfl) rfl ?_
        refine g_if_ne (tgt := 94) (T_X11_thieves 49 _ _ _ rfl) (by decide) (fun cc => ?_) (fun cc => ?_)
        · replace H := ite_n cc H
          refine g_iload (T_X11_thieves 52 _ _ _ rfl) rfl ?_
          refine g_weak [true, true, true, true, true, false, true, true] ?_
          exact R_J_X11_thieves_96 N (L_X11_thieves_60 N n) ih _ _ _ _ _ _ _ _ _ H
        · replace H := ite_p cc H
          refine g_iload (T_X11_thieves 50 _ _ _ rfl) rfl ?_
          refine g_goto (tgt := 96) (T_X11_thieves 51 _ _ _ rfl) (by decide) ?_
          refine g_weak [true, true, true, true, true, false, true, true] ?_
          exact R_J_X11_thieves_96 N (L_X11_thieves_60 N n) ih _ _ _ _ _ _ _ _ _ H
def F_X11_thieves (N : Nat) (x1 : Int) (x2 : Int) (x3 : Int) (h : Hp) : Option (Int × Hp) :=
  bd (F_X11_isWithin N x1 1 10 h) fun y2 h1 =>
  if y2 = 0 then
    some ((-1), h1)
  else
  bd (F_X11_isWithin N x2 0 2550 h1) fun y4 h3 =>
  if y4 = 0 then
    some ((-1), h3)
  else
  bd (F_X11_isWithin N x3 0 2 h3) fun y6 h5 =>
  if y6 = 0 then
    some ((-1), h5)
  else
  bd (F_X10_holds N x1 h5) fun y8 h7 =>
  if y8 = 0 then
    some ((-1), h7)
  else
  bnd ((w32 ((ishl 1 x1) - 1))) fun y9 =>
  L_X11_thieves_60 N  N x1 x2 x3 0 (-2) y9 0 h7
set_option maxRecDepth 100000 in
set_option maxHeartbeats 4000000 in
theorem R_X11_thieves (N : Nat) (x1 : Int) (x2 : Int) (x3 : Int) (h : Hp) (res : Int × Hp) (H : F_X11_thieves N x1 x2 x3 h = some res) : Runs M_X11_thieves 3 [.inr 1, .inl x1, .inl x2, .inl x3] h (Qi res) := by
  refine Runs.of rfl (Nat.le_of_ble_eq_true rfl) ?_
  show Go M_X11_thieves 3 0 [some (.inr 1), some (.inl x1), some (.inl x2), some (.inl x3), none, none, none, none] [] h (Qi res)
  unfold F_X11_thieves at H
  refine g_iload_n (T_X11_thieves 0 _ _ _ rfl) rfl ?_
  refine g_iconst (T_X11_thieves 1 _ _ _ rfl) ⟨by decide, by decide⟩ ?_
  refine g_bipush (T_X11_thieves 2 _ _ _ rfl) (by decide) ?_
  obtain ⟨y2, h1, hq, H⟩ := bd_some H
  refine g_callSi (M' := M_X11_isWithin) (av := [.inl x1, .inl 1, .inl 10]) (st := []) (T_X11_thieves 3 _ _ _ rfl) ml_X11_96 cb_X11_isWithin rfl (Nat.le_of_ble_eq_true rfl) (by omega) (R_X11_isWithin N _ _ _ _ _ hq) ?_
  refine g_if_eq (tgt := 41) (T_X11_thieves 4 _ _ _ rfl) (by decide) (fun cc => ?_) (fun cc => ?_)
  · replace H := ite_p cc H
    refine g_iconst (T_X11_thieves 20 _ _ _ rfl) ⟨by decide, by decide⟩ ?_
    exact g_iret (T_X11_thieves 21 _ _ _ rfl) rfl (qi_of H)
  · replace H := ite_n cc H
    refine g_iload_n (T_X11_thieves 5 _ _ _ rfl) rfl ?_
    refine g_iconst (T_X11_thieves 6 _ _ _ rfl) ⟨by decide, by decide⟩ ?_
    refine g_sipush (T_X11_thieves 7 _ _ _ rfl) (by decide) ?_
    obtain ⟨y4, h3, hq, H⟩ := bd_some H
    refine g_callSi (M' := M_X11_isWithin) (av := [.inl x2, .inl 0, .inl 2550]) (st := []) (T_X11_thieves 8 _ _ _ rfl) ml_X11_96 cb_X11_isWithin rfl (Nat.le_of_ble_eq_true rfl) (by omega) (R_X11_isWithin N _ _ _ _ _ hq) ?_
    refine g_if_eq (tgt := 41) (T_X11_thieves 9 _ _ _ rfl) (by decide) (fun cc => ?_) (fun cc => ?_)
    · replace H := ite_p cc H
      refine g_iconst (T_X11_thieves 20 _ _ _ rfl) ⟨by decide, by decide⟩ ?_
      exact g_iret (T_X11_thieves 21 _ _ _ rfl) rfl (qi_of H)
    · replace H := ite_n cc H
      refine g_iload_n (T_X11_thieves 10 _ _ _ rfl) rfl ?_
      refine g_iconst (T_X11_thieves 11 _ _ _ rfl) ⟨by decide, by decide⟩ ?_
      refine g_iconst (T_X11_thieves 12 _ _ _ rfl) ⟨by decide, by decide⟩ ?_
      obtain ⟨y6, h5, hq, H⟩ := bd_some H
      refine g_callSi (M' := M_X11_isWithin) (av := [.inl x3, .inl 0, .inl 2]) (st := []) (T_X11_thieves 13 _ _ _ rfl) ml_X11_96 cb_X11_isWithin rfl (Nat.le_of_ble_eq_true rfl) (by omega) (R_X11_isWithin N _ _ _ _ _ hq) ?_
      refine g_if_eq (tgt := 41) (T_X11_thieves 14 _ _ _ rfl) (by decide) (fun cc => ?_) (fun cc => ?_)
      · replace H := ite_p cc H
        refine g_iconst (T_X11_thieves 20 _ _ _ rfl) ⟨by decide, by decide⟩ ?_
        exact g_iret (T_X11_thieves 21 _ _ _ rfl) rfl (qi_of H)
      · replace H := ite_n cc H
        refine g_aload_n (T_X11_thieves 15 _ _ _ rfl) rfl ?_
        refine g_getR (c := 0) (r := 42) (T_X11_thieves 16 _ _ _ rfl) fl_X11_24 rfl (nR rfl) rfl (by decide) ?_
        refine g_iload_n (T_X11_thieves 17 _ _ _ rfl) rfl ?_
        obtain ⟨y8, h7, hq, H⟩ := bd_some H
        refine g_callVi (M' := M_X10_holds) (c := 41) (av := [.inl x1]) (st := []) (T_X11_thieves 18 _ _ _ rfl) ml_X11_130 cb_X10_holds rfl rfl (Nat.le_of_ble_eq_true rfl) (by omega) (R_X10_holds N _ _ _ hq) ?_
        refine g_if_ne (tgt := 43) (T_X11_thieves 19 _ _ _ rfl) (by decide) (fun cc => ?_) (fun cc => ?_)
        · replace H := ite_n cc H
          refine g_iconst (T_X11_thieves 22 _ _ _ rfl) ⟨by decide, by decide⟩ ?_
          refine g_istore (T_X11_thieves 23 _ _ _ rfl) (by decide) ?_
          refine g_bipush (T_X11_thieves 24 _ _ _ rfl) (by decide) ?_
          refine g_istore (T_X11_thieves 25 _ _ _ rfl) (by decide) ?_
          refine g_iconst (T_X11_thieves 26 _ _ _ rfl) ⟨by decide, by decide⟩ ?_
          refine g_iload_n (T_X11_thieves 27 _ _ _ rfl) rfl ?_
          refine g_ishl (T_X11_thieves 28 _ _ _ rfl) ?_
          refine g_iconst (T_X11_thieves 29 _ _ _ rfl) ⟨by decide, by decide⟩ ?_
          refine g_isub (T_X11_thieves 30 _ _ _ rfl) ?_
          refine g_bndI H fun y9 H => ?_
          refine g_istore (T_X11_thieves 31 _ _ _ rfl) (by decide) ?_
          refine g_iconst (T_X11_thieves 32 _ _ _ rfl) ⟨by decide, by decide⟩ ?_
          refine g_istore (T_X11_thieves 33 _ _ _ rfl) (by decide) ?_
          refine g_weak [true, true, true, true, true, true, true, true] ?_
          refine R_L_X11_thieves_60 N   _ _ _ _ _ _ _ _ _ _ H
        · replace H := ite_p cc H
          refine g_iconst (T_X11_thieves 20 _ _ _ rfl) ⟨by decide, by decide⟩ ?_
          exact g_iret (T_X11_thieves 21 _ _ _ rfl) rfl (qi_of H)
def F_X10_pairAt (N : Nat) (x1 : Int) (h : Hp) : Option (Int × Hp) :=
  bd (F_X10_at N x1 h) fun y2 h1 =>
  bd (F_X10_at N (w32 (x1 + 1)) h1) fun y4 h3 =>
  some ((w32 ((w32 (y2 * 256)) + y4)), h3)
set_option maxRecDepth 100000 in
set_option maxHeartbeats 4000000 in
theorem R_X10_pairAt (N : Nat) (x1 : Int) (h : Hp) (res : Int × Hp) (H : F_X10_pairAt N x1 h = some res) : Runs M_X10_pairAt 2 [.inr 42, .inl x1] h (Qi res) := by
  refine Runs.of rfl (Nat.le_of_ble_eq_true rfl) ?_
  show Go M_X10_pairAt 2 0 [some (.inr 42), some (.inl x1)] [] h (Qi res)
  unfold F_X10_pairAt at H
  refine g_aload_n (T_X10_pairAt 0 _ _ _ rfl) rfl ?_
  refine g_iload_n (T_X10_pairAt 1 _ _ _ rfl) rfl ?_
  obtain ⟨y2, h1, hq, H⟩ := bd_some H
  refine g_callVi (M' := M_X10_at) (c := 41) (av := [.inl x1]) (st := []) (T_X10_pairAt 2 _ _ _ rfl) ml_X10_19 cb_X10_at rfl rfl (Nat.le_of_ble_eq_true rfl) (by omega) (R_X10_at N _ _ _ hq) ?_
  refine g_sipush (T_X10_pairAt 3 _ _ _ rfl) (by decide) ?_
  refine g_imul (T_X10_pairAt 4 _ _ _ rfl) ?_
  refine g_aload_n (T_X10_pairAt 5 _ _ _ rfl) rfl ?_
  refine g_iload_n (T_X10_pairAt 6 _ _ _ rfl) rfl ?_
  refine g_iconst (T_X10_pairAt 7 _ _ _ rfl) ⟨by decide, by decide⟩ ?_
  refine g_iadd (T_X10_pairAt 8 _ _ _ rfl) ?_
  obtain ⟨y4, h3, hq, H⟩ := bd_some H
  refine g_callVi (M' := M_X10_at) (c := 41) (av := [.inl (w32 (x1 + 1))]) (st := [.inl (w32 (y2 * 256))]) (T_X10_pairAt 9 _ _ _ rfl) ml_X10_19 cb_X10_at rfl rfl (Nat.le_of_ble_eq_true rfl) (by omega) (R_X10_at N _ _ _ hq) ?_
  refine g_iadd (T_X10_pairAt 10 _ _ _ rfl) ?_
  exact g_iret (T_X10_pairAt 11 _ _ _ rfl) rfl (qi_of H)
def L_X11_latestStart_48 (N : Nat) : Nat → Int → Int → Int → Int → Int → Hp → Option (Int × Hp)
  | 0, _, _, _, _, _, _ => none
  | n + 1, x1, x2, x3, x4, x5, h =>
    if x1 ≤ x5 then
      if 0 ≤ x4 then
        some (x4, h)
      else
      some ((-2), h)
    else
    bd (F_X10_at N (w32 (3 * x5)) h) fun y2 h1 =>
    bd (F_X7_between N x2 y2 h1) fun y4 h3 =>
    if 0 ≤ y4 then
      bnd ((w32 (x3 + y4))) fun y5 =>
      bd (F_X10_pairAt N (w32 ((w32 (3 * x5)) + 1)) h3) fun y7 h6 =>
      bnd ((imin x4 (w32 (y7 - y5)))) fun y8 =>
      bnd (w32 (x5 + 1)) fun y9 =>
      (L_X11_latestStart_48 N n) x1 y2 y5 y8 y9 h6
    else
    some ((-2), h3)
set_option maxRecDepth 100000 in
set_option maxHeartbeats 4000000 in
theorem R_L_X11_latestStart_48 (N : Nat) : ∀ (n : Nat) (x1 : Int) (x2 : Int) (x3 : Int) (x4 : Int) (x5 : Int) (h : Hp) (res : Int × Hp), L_X11_latestStart_48 N n x1 x2 x3 x4 x5 h = some res → Go M_X11_latestStart 3 48 [some (.inr 1), some (.inl x1), some (.inl x2), some (.inl x3), some (.inl x4), some (.inl x5), none, none] [] h (Qi res)
  | 0, _, _, _, _, _, _, _, H => by cases H
  | n + 1, x1, x2, x3, x4, x5, h, res, H => by
    have ih := R_L_X11_latestStart_48 N n
    simp only [L_X11_latestStart_48] at H
    refine g_iload (T_X11_latestStart 27 _ _ _ rfl) rfl ?_
    refine g_iload_n (T_X11_latestStart 28 _ _ _ rfl) rfl ?_
    refine g_icmp_ge (tgt := 123) (T_X11_latestStart 29 _ _ _ rfl) (by decide) (fun cc => ?_) (fun cc => ?_)
    · replace H := ite_p cc H
      refine g_iload (T_X11_latestStart 68 _ _ _ rfl) rfl ?_
      refine g_if_ge (tgt := 133) (T_X11_latestStart 69 _ _ _ rfl) (by decide) (fun cc => ?_) (fun cc => ?_)
      · replace H := ite_p cc H
        refine g_iload (T_X11_latestStart 72 _ _ _ rfl) rfl ?_
        exact g_iret (T_X11_latestStart 73 _ _ _ rfl) rfl (qi_of H)
      · replace H := ite_n cc H
        refine g_bipush (T_X11_latestStart 70 _ _ _ rfl) (by decide) ?_
        refine g_goto (tgt := 135) (T_X11_latestStart 71 _ _ _ rfl) (by decide) ?_
        exact g_iret (T_X11_latestStart 73 _ _ _ rfl) rfl (qi_of H)
    · replace H := ite_n cc H
      refine g_aload_n (T_X11_latestStart 30 _ _ _ rfl) rfl ?_
      refine g_getR (c := 0) (r := 42) (T_X11_latestStart 31 _ _ _ rfl) fl_X11_24 rfl (nR rfl) rfl (by decide) ?_
      refine g_iconst (T_X11_latestStart 32 _ _ _ rfl) ⟨by decide, by decide⟩ ?_
      refine g_iload (T_X11_latestStart 33 _ _ _ rfl) rfl ?_
      refine g_imul (T_X11_latestStart 34 _ _ _ rfl) ?_
      obtain ⟨y2, h1, hq, H⟩ := bd_some H
      refine g_callVi (M' := M_X10_at) (c := 41) (av := [.inl (w32 (3 * x5))]) (st := []) (T_X11_latestStart 35 _ _ _ rfl) ml_X11_360 cb_X10_at rfl rfl (Nat.le_of_ble_eq_true rfl) (by omega) (R_X10_at N _ _ _ hq) ?_
      refine g_istore (T_X11_latestStart 36 _ _ _ rfl) (by decide) ?_
      refine g_aload_n (T_X11_latestStart 37 _ _ _ rfl) rfl ?_
      refine g_getR (c := 0) (r := 8) (T_X11_latestStart 38 _ _ _ rfl) fl_X11_32 rfl (nR rfl) rfl (by decide) ?_
      refine g_iload_n (T_X11_latestStart 39 _ _ _ rfl) rfl ?_
      refine g_iload (T_X11_latestStart 40 _ _ _ rfl) rfl ?_
      obtain ⟨y4, h3, hq, H⟩ := bd_some H
      refine g_callVi (M' := M_X7_between) (c := 7) (av := [.inl x2, .inl y2]) (st := []) (T_X11_latestStart 41 _ _ _ rfl) ml_X11_199 cb_X7_between rfl rfl (Nat.le_of_ble_eq_true rfl) (by omega) (R_X7_between N _ _ _ _ hq) ?_
      refine g_istore (T_X11_latestStart 42 _ _ _ rfl) (by decide) ?_
      refine g_iload (T_X11_latestStart 43 _ _ _ rfl) rfl ?_
      refine g_if_ge (tgt := 87) (T_X11_latestStart 44 _ _ _ rfl) (by decide) (fun cc => ?_) (fun cc => ?_)
      · replace H := ite_p cc H
        refine g_iload_n (T_X11_latestStart 47 _ _ _ rfl) rfl ?_
        refine g_iload (T_X11_latestStart 48 _ _ _ rfl) rfl ?_
        refine g_iadd (T_X11_latestStart 49 _ _ _ rfl) ?_
        refine g_bndI H fun y5 H => ?_
        refine g_istore_n (T_X11_latestStart 50 _ _ _ rfl) (by decide) ?_
        refine g_iload (T_X11_latestStart 51 _ _ _ rfl) rfl ?_
        refine g_aload_n (T_X11_latestStart 52 _ _ _ rfl) rfl ?_
        refine g_getR (c := 0) (r := 42) (T_X11_latestStart 53 _ _ _ rfl) fl_X11_24 rfl (nR rfl) rfl (by decide) ?_
        refine g_iconst (T_X11_latestStart 54 _ _ _ rfl) ⟨by decide, by decide⟩ ?_
        refine g_iload (T_X11_latestStart 55 _ _ _ rfl) rfl ?_
        refine g_imul (T_X11_latestStart 56 _ _ _ rfl) ?_
        refine g_iconst (T_X11_latestStart 57 _ _ _ rfl) ⟨by decide, by decide⟩ ?_
        refine g_iadd (T_X11_latestStart 58 _ _ _ rfl) ?_
        obtain ⟨y7, h6, hq, H⟩ := bd_some H
        refine g_callVi (M' := M_X10_pairAt) (c := 41) (av := [.inl (w32 ((w32 (3 * x5)) + 1))]) (st := [.inl x4]) (T_X11_latestStart 59 _ _ _ rfl) ml_X11_307 cb_X10_pairAt rfl rfl (Nat.le_of_ble_eq_true rfl) (by omega) (R_X10_pairAt N _ _ _ hq) ?_
        refine g_iload_n (T_X11_latestStart 60 _ _ _ rfl) rfl ?_
        refine g_isub (T_X11_latestStart 61 _ _ _ rfl) ?_
        refine g_min (st := []) (T_X11_latestStart 62 _ _ _ rfl) ml_X11_373 wmin (Nat.le_of_ble_eq_true rfl) (by omega) ?_
        refine g_bndI H fun y8 H => ?_
        refine g_istore (T_X11_latestStart 63 _ _ _ rfl) (by decide) ?_
        refine g_iload (T_X11_latestStart 64 _ _ _ rfl) rfl ?_
        refine g_istore_n (T_X11_latestStart 65 _ _ _ rfl) (by decide) ?_
        refine g_iincB (T_X11_latestStart 66 _ _ _ rfl) rfl (by decide) H fun y9 H => ?_
        refine g_goto (tgt := 48) (T_X11_latestStart 67 _ _ _ rfl) (by decide) ?_
        refine g_weak [true, true, true, true, true, true, false, false] ?_
        exact ih _ _ _ _ _ _ _ H
      · replace H := ite_n cc H
        refine g_bipush (T_X11_latestStart 45 _ _ _ rfl) (by decide) ?_
        exact g_iret (T_X11_latestStart 46 _ _ _ rfl) rfl (qi_of H)
def L_X11_latestStart_2 (N : Nat) : Nat → Int → Int → Hp → Option (Int × Hp)
  | 0, _, _, _ => none
  | n + 1, x1, x2, h =>
    if x1 ≤ x2 then
      L_X11_latestStart_48 N  N x1 0 0 2147483647 0 h
    else
    bd (F_X10_at N (w32 (3 * x2)) h) fun y2 h1 =>
    bd (F_X1_isTold N y2 h1) fun y4 h3 =>
    if y4 = 0 then
      some ((-3), h3)
    else
    bnd (w32 (x2 + 1)) fun y5 =>
    (L_X11_latestStart_2 N n) x1 y5 h3
set_option maxRecDepth 100000 in
set_option maxHeartbeats 4000000 in
theorem R_L_X11_latestStart_2 (N : Nat) : ∀ (n : Nat) (x1 : Int) (x2 : Int) (h : Hp) (res : Int × Hp), L_X11_latestStart_2 N n x1 x2 h = some res → Go M_X11_latestStart 3 2 [some (.inr 1), some (.inl x1), some (.inl x2), none, none, none, none, none] [] h (Qi res)
  | 0, _, _, _, _, H => by cases H
  | n + 1, x1, x2, h, res, H => by
    have ih := R_L_X11_latestStart_2 N n
    simp only [L_X11_latestStart_2] at H
    refine g_iload_n (T_X11_latestStart 2 _ _ _ rfl) rfl ?_
    refine g_iload_n (T_X11_latestStart 3 _ _ _ rfl) rfl ?_
    refine g_icmp_ge (tgt := 36) (T_X11_latestStart 4 _ _ _ rfl) (by decide) (fun cc => ?_) (fun cc => ?_)
    · replace H := ite_p cc H
      refine g_iconst (T_X11_latestStart 19 _ _ _ rfl) ⟨by decide, by decide⟩ ?_
      refine g_istore_n (T_X11_latestStart 20 _ _ _ rfl) (by decide) ?_
      refine g_iconst (T_X11_latestStart 21 _ _ _ rfl) ⟨by decide, by decide⟩ ?_
      refine g_istore_n (T_X11_latestStart 22 _ _ _ rfl) (by decide) ?_
      refine g_ldcw (T_X11_latestStart 23 _ _ _ rfl) kc_X11_372 ⟨by decide, by decide⟩ ?_
      refine g_istore (T_X11_latestStart 24 _ _ _ rfl) (by decide) ?_
      refine g_iconst (T_X11_latestStart 25 _ _ _ rfl) ⟨by decide, by decide⟩ ?_
      refine g_istore (T_X11_latestStart 26 _ _ _ rfl) (by decide) ?_
      refine g_weak [true, true, true, true, true, true, false, false] ?_
      refine R_L_X11_latestStart_48 N   _ _ _ _ _ _ _ _ H
    · replace H := ite_n cc H
      refine g_aload_n (T_X11_latestStart 5 _ _ _ rfl) rfl ?_
      refine g_getR (c := 0) (r := 2) (T_X11_latestStart 6 _ _ _ rfl) fl_X11_28 rfl (nR rfl) rfl (by decide) ?_
      refine g_aload_n (T_X11_latestStart 7 _ _ _ rfl) rfl ?_
      refine g_getR (c := 0) (r := 42) (T_X11_latestStart 8 _ _ _ rfl) fl_X11_24 rfl (nR rfl) rfl (by decide) ?_
      refine g_iconst (T_X11_latestStart 9 _ _ _ rfl) ⟨by decide, by decide⟩ ?_
      refine g_iload_n (T_X11_latestStart 10 _ _ _ rfl) rfl ?_
      refine g_imul (T_X11_latestStart 11 _ _ _ rfl) ?_
      obtain ⟨y2, h1, hq, H⟩ := bd_some H
      refine g_callVi (M' := M_X10_at) (c := 41) (av := [.inl (w32 (3 * x2))]) (st := [.inr 2]) (T_X11_latestStart 12 _ _ _ rfl) ml_X11_360 cb_X10_at rfl rfl (Nat.le_of_ble_eq_true rfl) (by omega) (R_X10_at N _ _ _ hq) ?_
      obtain ⟨y4, h3, hq, H⟩ := bd_some H
      refine g_callVi (M' := M_X1_isTold) (c := 1) (av := [.inl y2]) (st := []) (T_X11_latestStart 13 _ _ _ rfl) ml_X11_112 cb_X1_isTold rfl rfl (Nat.le_of_ble_eq_true rfl) (by omega) (R_X1_isTold N _ _ _ hq) ?_
      refine g_if_ne (tgt := 30) (T_X11_latestStart 14 _ _ _ rfl) (by decide) (fun cc => ?_) (fun cc => ?_)
      · replace H := ite_n cc H
        refine g_iincB (T_X11_latestStart 17 _ _ _ rfl) rfl (by decide) H fun y5 H => ?_
        refine g_goto (tgt := 2) (T_X11_latestStart 18 _ _ _ rfl) (by decide) ?_
        refine g_weak [true, true, true, false, false, false, false, false] ?_
        exact ih _ _ _ _ H
      · replace H := ite_p cc H
        refine g_bipush (T_X11_latestStart 15 _ _ _ rfl) (by decide) ?_
        exact g_iret (T_X11_latestStart 16 _ _ _ rfl) rfl (qi_of H)
def F_X11_latestStart (N : Nat) (x1 : Int) (h : Hp) : Option (Int × Hp) :=
  L_X11_latestStart_2 N  N x1 0 h
set_option maxRecDepth 100000 in
set_option maxHeartbeats 4000000 in
theorem R_X11_latestStart (N : Nat) (x1 : Int) (h : Hp) (res : Int × Hp) (H : F_X11_latestStart N x1 h = some res) : Runs M_X11_latestStart 3 [.inr 1, .inl x1] h (Qi res) := by
  refine Runs.of rfl (Nat.le_of_ble_eq_true rfl) ?_
  show Go M_X11_latestStart 3 0 [some (.inr 1), some (.inl x1), none, none, none, none, none, none] [] h (Qi res)
  unfold F_X11_latestStart at H
  refine g_iconst (T_X11_latestStart 0 _ _ _ rfl) ⟨by decide, by decide⟩ ?_
  refine g_istore_n (T_X11_latestStart 1 _ _ _ rfl) (by decide) ?_
  refine g_weak [true, true, true, false, false, false, false, false] ?_
  refine R_L_X11_latestStart_2 N   _ _ _ _ _ H
def F_X11_latest (N : Nat) (x1 : Int) (h : Hp) : Option (Int × Hp) :=
  bd (F_X11_isWithin N x1 1 6 h) fun y2 h1 =>
  if y2 = 0 then
    some ((-1), h1)
  else
  bd (F_X10_holds N (w32 (3 * x1)) h1) fun y4 h3 =>
  if y4 = 0 then
    some ((-1), h3)
  else
  bd (F_X11_latestStart N x1 h3) fun y6 h5 =>
  bv (F_X10_clear N h5) fun h7 =>
  some (y6, h7)
set_option maxRecDepth 100000 in
set_option maxHeartbeats 4000000 in
theorem R_X11_latest (N : Nat) (x1 : Int) (h : Hp) (res : Int × Hp) (H : F_X11_latest N x1 h = some res) : Runs M_X11_latest 4 [.inr 1, .inl x1] h (Qi res) := by
  refine Runs.of rfl (Nat.le_of_ble_eq_true rfl) ?_
  show Go M_X11_latest 4 0 [some (.inr 1), some (.inl x1), none] [] h (Qi res)
  unfold F_X11_latest at H
  refine g_iload_n (T_X11_latest 0 _ _ _ rfl) rfl ?_
  refine g_iconst (T_X11_latest 1 _ _ _ rfl) ⟨by decide, by decide⟩ ?_
  refine g_bipush (T_X11_latest 2 _ _ _ rfl) (by decide) ?_
  obtain ⟨y2, h1, hq, H⟩ := bd_some H
  refine g_callSi (M' := M_X11_isWithin) (av := [.inl x1, .inl 1, .inl 6]) (st := []) (T_X11_latest 3 _ _ _ rfl) ml_X11_96 cb_X11_isWithin rfl (Nat.le_of_ble_eq_true rfl) (by omega) (R_X11_isWithin N _ _ _ _ _ hq) ?_
  refine g_if_eq (tgt := 23) (T_X11_latest 4 _ _ _ rfl) (by decide) (fun cc => ?_) (fun cc => ?_)
  · replace H := ite_p cc H
    refine g_iconst (T_X11_latest 12 _ _ _ rfl) ⟨by decide, by decide⟩ ?_
    exact g_iret (T_X11_latest 13 _ _ _ rfl) rfl (qi_of H)
  · replace H := ite_n cc H
    refine g_aload_n (T_X11_latest 5 _ _ _ rfl) rfl ?_
    refine g_getR (c := 0) (r := 42) (T_X11_latest 6 _ _ _ rfl) fl_X11_24 rfl (nR rfl) rfl (by decide) ?_
    refine g_iconst (T_X11_latest 7 _ _ _ rfl) ⟨by decide, by decide⟩ ?_
    refine g_iload_n (T_X11_latest 8 _ _ _ rfl) rfl ?_
    refine g_imul (T_X11_latest 9 _ _ _ rfl) ?_
    obtain ⟨y4, h3, hq, H⟩ := bd_some H
    refine g_callVi (M' := M_X10_holds) (c := 41) (av := [.inl (w32 (3 * x1))]) (st := []) (T_X11_latest 10 _ _ _ rfl) ml_X11_130 cb_X10_holds rfl rfl (Nat.le_of_ble_eq_true rfl) (by omega) (R_X10_holds N _ _ _ hq) ?_
    refine g_if_ne (tgt := 25) (T_X11_latest 11 _ _ _ rfl) (by decide) (fun cc => ?_) (fun cc => ?_)
    · replace H := ite_n cc H
      refine g_aload_n (T_X11_latest 14 _ _ _ rfl) rfl ?_
      refine g_iload_n (T_X11_latest 15 _ _ _ rfl) rfl ?_
      obtain ⟨y6, h5, hq, H⟩ := bd_some H
      refine g_callVi (M' := M_X11_latestStart) (c := 0) (av := [.inl x1]) (st := []) (T_X11_latest 16 _ _ _ rfl) ml_X11_298 cb_X11_latestStart rfl rfl (Nat.le_of_ble_eq_true rfl) (by omega) (R_X11_latestStart N _ _ _ hq) ?_
      refine g_istore_n (T_X11_latest 17 _ _ _ rfl) (by decide) ?_
      refine g_aload_n (T_X11_latest 18 _ _ _ rfl) rfl ?_
      refine g_getR (c := 0) (r := 42) (T_X11_latest 19 _ _ _ rfl) fl_X11_24 rfl (nR rfl) rfl (by decide) ?_
      obtain ⟨h7, hq, H⟩ := bv_some H
      refine g_callVv (M' := M_X10_clear) (c := 41) (av := []) (st := []) (T_X11_latest 20 _ _ _ rfl) ml_X11_152 cb_X10_clear rfl rfl (Nat.le_of_ble_eq_true rfl) (by omega) (R_X10_clear N _ _ hq) ?_
      refine g_iload_n (T_X11_latest 21 _ _ _ rfl) rfl ?_
      exact g_iret (T_X11_latest 22 _ _ _ rfl) rfl (qi_of H)
    · replace H := ite_p cc H
      refine g_iconst (T_X11_latest 12 _ _ _ rfl) ⟨by decide, by decide⟩ ?_
      exact g_iret (T_X11_latest 13 _ _ _ rfl) rfl (qi_of H)
def F_X1_copyDepths_v2 (N : Nat) (h : Hp) : Option (Hp) :=
  grd ((0 : Int) ≤ 0 ∧ (0 : Int) ≤ 0 ∧ 0 ≤ (imin 14 14) ∧ 0 + (imin 14 14) ≤ 14 ∧ 0 + (imin 14 14) ≤ 14) <|
  bnd (hcp h 5 (0 : Int).toNat 6 (0 : Int).toNat ((imin 14 14) : Int).toNat) fun h1 =>
  some h1
set_option maxRecDepth 100000 in
set_option maxHeartbeats 4000000 in
theorem R_X1_copyDepths_v2 (N : Nat) (h : Hp) (res : Hp) (H : F_X1_copyDepths_v2 N h = some res) : Runs M_X1_copyDepths 1 [.inr 2, .inr 7] h (Qv res) := by
  refine Runs.of rfl (Nat.le_of_ble_eq_true rfl) ?_
  show Go M_X1_copyDepths 1 0 [some (.inr 2), some (.inr 7)] [] h (Qv res)
  unfold F_X1_copyDepths_v2 at H
  refine g_aload_n (T_X1_copyDepths 0 _ _ _ rfl) rfl ?_
  refine g_getR (c := 1) (r := 6) (T_X1_copyDepths 1 _ _ _ rfl) fl_X1_21 rfl (nR rfl) rfl (by decide) ?_
  refine g_iconst (T_X1_copyDepths 2 _ _ _ rfl) ⟨by decide, by decide⟩ ?_
  refine g_aload_n (T_X1_copyDepths 3 _ _ _ rfl) rfl ?_
  refine g_iconst (T_X1_copyDepths 4 _ _ _ rfl) ⟨by decide, by decide⟩ ?_
  refine g_bipush (T_X1_copyDepths 5 _ _ _ rfl) (by decide) ?_
  refine g_aload_n (T_X1_copyDepths 6 _ _ _ rfl) rfl ?_
  refine g_alen (c := 6) (n := 14) (T_X1_copyDepths 7 _ _ _ rfl) rfl (by decide) (by decide) ?_
  refine g_min (st := [.inl 0, .inr 7, .inl 0, .inr 6]) (T_X1_copyDepths 8 _ _ _ rfl) ml_X1_45 wmin (Nat.le_of_ble_eq_true rfl) (by omega) ?_
  obtain ⟨hg, H⟩ := grd_some H
  refine g_copy (c0 := 5) (c1 := 6) (n0 := 14) (n1 := 14) (st := []) (T_X1_copyDepths 9 _ _ _ rfl) ml_X1_54 wcopy rfl rfl hg (Nat.le_of_ble_eq_true rfl) (by omega) ?_
  refine g_bndH H fun h1 H => ?_
  exact g_vret (T_X1_copyDepths 10 _ _ _ rfl) rfl (qv_of H)
def L_X1_store_41 (N : Nat) : Nat → Int → Int → Hp → Option (Int × Hp)
  | 0, _, _, _ => none
  | n + 1, x1, x2, h =>
    if 14 ≤ x2 then
      some (x1, h)
    else
    grd (0 ≤ x2 ∧ x2 < 14) <|
    bnd ((w32 (x1 + (h 5 x2.toNat)))) fun y1 =>
    bnd (w32 (x2 + 1)) fun y2 =>
    (L_X1_store_41 N n) y1 y2 h
set_option maxRecDepth 100000 in
set_option maxHeartbeats 4000000 in
theorem R_L_X1_store_41 (N : Nat) : ∀ (n : Nat) (x1 : Int) (x2 : Int) (h : Hp) (res : Int × Hp), L_X1_store_41 N n x1 x2 h = some res → Go M_X1_store 2 41 [some (.inr 2), some (.inl x1), some (.inl x2)] [] h (Qi res)
  | 0, _, _, _, _, H => by cases H
  | n + 1, x1, x2, h, res, H => by
    have ih := R_L_X1_store_41 N n
    simp only [L_X1_store_41] at H
    refine g_iload_n (T_X1_store 23 _ _ _ rfl) rfl ?_
    refine g_bipush (T_X1_store 24 _ _ _ rfl) (by decide) ?_
    refine g_icmp_ge (tgt := 62) (T_X1_store 25 _ _ _ rfl) (by decide) (fun cc => ?_) (fun cc => ?_)
    · replace H := ite_p cc H
      refine g_iload_n (T_X1_store 35 _ _ _ rfl) rfl ?_
      exact g_iret (T_X1_store 36 _ _ _ rfl) rfl (qi_of H)
    · replace H := ite_n cc H
      refine g_iload_n (T_X1_store 26 _ _ _ rfl) rfl ?_
      refine g_aload_n (T_X1_store 27 _ _ _ rfl) rfl ?_
      refine g_getR (c := 1) (r := 6) (T_X1_store 28 _ _ _ rfl) fl_X1_21 rfl (nR rfl) rfl (by decide) ?_
      refine g_iload_n (T_X1_store 29 _ _ _ rfl) rfl ?_
      obtain ⟨hg, H⟩ := grd_some H
      refine g_iald (c := 5) (T_X1_store 30 _ _ _ rfl) rfl hg ?_
      refine g_iadd (T_X1_store 31 _ _ _ rfl) ?_
      refine g_bndI H fun y1 H => ?_
      refine g_istore_n (T_X1_store 32 _ _ _ rfl) (by decide) ?_
      refine g_iincB (T_X1_store 33 _ _ _ rfl) rfl (by decide) H fun y2 H => ?_
      refine g_goto (tgt := 41) (T_X1_store 34 _ _ _ rfl) (by decide) ?_
      refine g_weak [true, true, true] ?_
      exact ih _ _ _ _ H
def F_X1_store (N : Nat) (h : Hp) : Option (Int × Hp) :=
  bv (F_X1_copyDepths_v2 N h) fun h1 =>
  bnd (hw h1 1 9 1) fun h2 =>
  bnd (hw h2 1 10 (h2 1 5)) fun h3 =>
  bnd (hw h3 1 11 (h3 1 6)) fun h4 =>
  bnd (hw h4 1 12 (h4 1 7)) fun h5 =>
  L_X1_store_41 N  N 0 0 h5
set_option maxRecDepth 100000 in
set_option maxHeartbeats 4000000 in
theorem R_X1_store (N : Nat) (h : Hp) (res : Int × Hp) (H : F_X1_store N h = some res) : Runs M_X1_store 2 [.inr 2] h (Qi res) := by
  refine Runs.of rfl (Nat.le_of_ble_eq_true rfl) ?_
  show Go M_X1_store 2 0 [some (.inr 2), none, none] [] h (Qi res)
  unfold F_X1_store at H
  refine g_aload_n (T_X1_store 0 _ _ _ rfl) rfl ?_
  refine g_aload_n (T_X1_store 1 _ _ _ rfl) rfl ?_
  refine g_getR (c := 1) (r := 7) (T_X1_store 2 _ _ _ rfl) fl_X1_24 rfl (nR rfl) rfl (by decide) ?_
  obtain ⟨h1, hq, H⟩ := bv_some H
  refine g_callVv (M' := M_X1_copyDepths) (c := 1) (av := [.inr 7]) (st := []) (T_X1_store 3 _ _ _ rfl) ml_X1_69 cb_X1_copyDepths rfl rfl (Nat.le_of_ble_eq_true rfl) (by omega) (R_X1_copyDepths_v2 N _ _ hq) ?_
  refine g_aload_n (T_X1_store 4 _ _ _ rfl) rfl ?_
  refine g_iconst (T_X1_store 5 _ _ _ rfl) ⟨by decide, by decide⟩ ?_
  refine g_put (c := 1) (T_X1_store 6 _ _ _ rfl) fl_X1_73 rfl (Or.inr ⟨rfl, by decide⟩) ?_
  refine g_bndH H fun h2 H => ?_
  refine g_aload_n (T_X1_store 7 _ _ _ rfl) rfl ?_
  refine g_aload_n (T_X1_store 8 _ _ _ rfl) rfl ?_
  refine g_getI (c := 1) (T_X1_store 9 _ _ _ rfl) fl_X1_60 rfl (Or.inl rfl) ?_
  refine g_put (c := 1) (T_X1_store 10 _ _ _ rfl) fl_X1_77 rfl (Or.inl rfl) ?_
  refine g_bndH H fun h3 H => ?_
  refine g_aload_n (T_X1_store 11 _ _ _ rfl) rfl ?_
  refine g_aload_n (T_X1_store 12 _ _ _ rfl) rfl ?_
  refine g_getI (c := 1) (T_X1_store 13 _ _ _ rfl) fl_X1_63 rfl (Or.inl rfl) ?_
  refine g_put (c := 1) (T_X1_store 14 _ _ _ rfl) fl_X1_80 rfl (Or.inl rfl) ?_
  refine g_bndH H fun h4 H => ?_
  refine g_aload_n (T_X1_store 15 _ _ _ rfl) rfl ?_
  refine g_aload_n (T_X1_store 16 _ _ _ rfl) rfl ?_
  refine g_getI (c := 1) (T_X1_store 17 _ _ _ rfl) fl_X1_66 rfl (Or.inl rfl) ?_
  refine g_put (c := 1) (T_X1_store 18 _ _ _ rfl) fl_X1_83 rfl (Or.inl rfl) ?_
  refine g_bndH H fun h5 H => ?_
  refine g_iconst (T_X1_store 19 _ _ _ rfl) ⟨by decide, by decide⟩ ?_
  refine g_istore_n (T_X1_store 20 _ _ _ rfl) (by decide) ?_
  refine g_iconst (T_X1_store 21 _ _ _ rfl) ⟨by decide, by decide⟩ ?_
  refine g_istore_n (T_X1_store 22 _ _ _ rfl) (by decide) ?_
  refine g_weak [true, true, true] ?_
  refine R_L_X1_store_41 N   _ _ _ _ _ H
def F_X11_keep (N : Nat) (h : Hp) : Option (Int × Hp) :=
  bd (F_X1_store N h) fun y2 h1 =>
  some (y2, h1)
set_option maxRecDepth 100000 in
set_option maxHeartbeats 4000000 in
theorem R_X11_keep (N : Nat) (h : Hp) (res : Int × Hp) (H : F_X11_keep N h = some res) : Runs M_X11_keep 3 [.inr 1] h (Qi res) := by
  refine Runs.of rfl (Nat.le_of_ble_eq_true rfl) ?_
  show Go M_X11_keep 3 0 [some (.inr 1)] [] h (Qi res)
  unfold F_X11_keep at H
  refine g_aload_n (T_X11_keep 0 _ _ _ rfl) rfl ?_
  refine g_getR (c := 0) (r := 2) (T_X11_keep 1 _ _ _ rfl) fl_X11_28 rfl (nR rfl) rfl (by decide) ?_
  obtain ⟨y2, h1, hq, H⟩ := bd_some H
  refine g_callVi (M' := M_X1_store) (c := 1) (av := []) (st := []) (T_X11_keep 2 _ _ _ rfl) ml_X11_301 cb_X1_store rfl rfl (Nat.le_of_ble_eq_true rfl) (by omega) (R_X1_store N _ _ hq) ?_
  exact g_iret (T_X11_keep 3 _ _ _ rfl) rfl (qi_of H)
def J_X1_restore_46 (N : Nat) (h : Hp) : Option (Int × Hp) :=
  grd ((h 1 9) = 0 ∨ (h 1 9) = 1) <|
  some ((h 1 9), h)
set_option maxRecDepth 100000 in
set_option maxHeartbeats 4000000 in
theorem R_J_X1_restore_46 (N : Nat) (h : Hp) (res : Int × Hp) (H : J_X1_restore_46 N h = some res) : Go M_X1_restore 1 46 [some (.inr 2)] [] h (Qi res) := by
  unfold J_X1_restore_46 at H
  refine g_aload_n (T_X1_restore 23 _ _ _ rfl) rfl ?_
  refine g_getI (c := 1) (T_X1_restore 24 _ _ _ rfl) fl_X1_73 rfl (Or.inr rfl) ?_
  obtain ⟨hg, H⟩ := grd_some H
  exact g_zret (T_X1_restore 25 _ _ _ rfl) rfl hg (qi_of H)
def F_X1_restore (N : Nat) (h : Hp) : Option (Int × Hp) :=
  if (h 1 9) = 0 then
    J_X1_restore_46 N  h
  else
  bnd (hcp h 6 (0 : Int).toNat 5 (0 : Int).toNat (14 : Int).toNat) fun h1 =>
  bnd (hw h1 1 5 (h1 1 10)) fun h2 =>
  bnd (hw h2 1 6 (h2 1 11)) fun h3 =>
  bnd (hw h3 1 7 (h3 1 12)) fun h4 =>
  J_X1_restore_46 N  h4
set_option maxRecDepth 100000 in
set_option maxHeartbeats 4000000 in
theorem R_X1_restore (N : Nat) (h : Hp) (res : Int × Hp) (H : F_X1_restore N h = some res) : Runs M_X1_restore 1 [.inr 2] h (Qi res) := by
  refine Runs.of rfl (Nat.le_of_ble_eq_true rfl) ?_
  show Go M_X1_restore 1 0 [some (.inr 2)] [] h (Qi res)
  unfold F_X1_restore at H
  refine g_aload_n (T_X1_restore 0 _ _ _ rfl) rfl ?_
  refine g_getI (c := 1) (T_X1_restore 1 _ _ _ rfl) fl_X1_73 rfl (Or.inr rfl) ?_
  refine g_if_eq (tgt := 46) (T_X1_restore 2 _ _ _ rfl) (by decide) (fun cc => ?_) (fun cc => ?_)
  · replace H := ite_p cc H
    refine g_weak [true] ?_
    exact R_J_X1_restore_46 N   _ _ H
  · replace H := ite_n cc H
    refine g_aload_n (T_X1_restore 3 _ _ _ rfl) rfl ?_
    refine g_getR (c := 1) (r := 7) (T_X1_restore 4 _ _ _ rfl) fl_X1_24 rfl (nR rfl) rfl (by decide) ?_
    refine g_iconst (T_X1_restore 5 _ _ _ rfl) ⟨by decide, by decide⟩ ?_
    refine g_aload_n (T_X1_restore 6 _ _ _ rfl) rfl ?_
    refine g_getR (c := 1) (r := 6) (T_X1_restore 7 _ _ _ rfl) fl_X1_21 rfl (nR rfl) rfl (by decide) ?_
    refine g_iconst (T_X1_restore 8 _ _ _ rfl) ⟨by decide, by decide⟩ ?_
    refine g_bipush (T_X1_restore 9 _ _ _ rfl) (by decide) ?_
    refine g_copy (c0 := 6) (c1 := 5) (n0 := 14) (n1 := 14) (st := []) (T_X1_restore 10 _ _ _ rfl) ml_X1_54 wcopy rfl rfl (by decide) (Nat.le_of_ble_eq_true rfl) (by omega) ?_
    refine g_bndH H fun h1 H => ?_
    refine g_aload_n (T_X1_restore 11 _ _ _ rfl) rfl ?_
    refine g_aload_n (T_X1_restore 12 _ _ _ rfl) rfl ?_
    refine g_getI (c := 1) (T_X1_restore 13 _ _ _ rfl) fl_X1_77 rfl (Or.inl rfl) ?_
    refine g_put (c := 1) (T_X1_restore 14 _ _ _ rfl) fl_X1_60 rfl (Or.inl rfl) ?_
    refine g_bndH H fun h2 H => ?_
    refine g_aload_n (T_X1_restore 15 _ _ _ rfl) rfl ?_
    refine g_aload_n (T_X1_restore 16 _ _ _ rfl) rfl ?_
    refine g_getI (c := 1) (T_X1_restore 17 _ _ _ rfl) fl_X1_80 rfl (Or.inl rfl) ?_
    refine g_put (c := 1) (T_X1_restore 18 _ _ _ rfl) fl_X1_63 rfl (Or.inl rfl) ?_
    refine g_bndH H fun h3 H => ?_
    refine g_aload_n (T_X1_restore 19 _ _ _ rfl) rfl ?_
    refine g_aload_n (T_X1_restore 20 _ _ _ rfl) rfl ?_
    refine g_getI (c := 1) (T_X1_restore 21 _ _ _ rfl) fl_X1_83 rfl (Or.inl rfl) ?_
    refine g_put (c := 1) (T_X1_restore 22 _ _ _ rfl) fl_X1_66 rfl (Or.inl rfl) ?_
    refine g_bndH H fun h4 H => ?_
    refine g_weak [true] ?_
    exact R_J_X1_restore_46 N   _ _ H
def F_X11_undo (N : Nat) (h : Hp) : Option (Int × Hp) :=
  bd (F_X1_restore N h) fun y2 h1 =>
  grd (y2 = 0 ∨ y2 = 1) <|
  some (y2, h1)
set_option maxRecDepth 100000 in
set_option maxHeartbeats 4000000 in
theorem R_X11_undo (N : Nat) (h : Hp) (res : Int × Hp) (H : F_X11_undo N h = some res) : Runs M_X11_undo 2 [.inr 1] h (Qi res) := by
  refine Runs.of rfl (Nat.le_of_ble_eq_true rfl) ?_
  show Go M_X11_undo 2 0 [some (.inr 1)] [] h (Qi res)
  unfold F_X11_undo at H
  refine g_aload_n (T_X11_undo 0 _ _ _ rfl) rfl ?_
  refine g_getR (c := 0) (r := 2) (T_X11_undo 1 _ _ _ rfl) fl_X11_28 rfl (nR rfl) rfl (by decide) ?_
  obtain ⟨y2, h1, hq, H⟩ := bd_some H
  refine g_callVi (M' := M_X1_restore) (c := 1) (av := []) (st := []) (T_X11_undo 2 _ _ _ rfl) ml_X11_304 cb_X1_restore rfl rfl (Nat.le_of_ble_eq_true rfl) (by omega) (R_X1_restore N _ _ hq) ?_
  obtain ⟨hg, H⟩ := grd_some H
  exact g_zret (T_X11_undo 3 _ _ _ rfl) rfl hg (qi_of H)
def J_X11_check_69 (N : Nat) (x2 : Int) (h : Hp) : Option (Int × Hp) :=
  bv (F_X10_clear N h) fun h1 =>
  some (x2, h1)
set_option maxRecDepth 100000 in
set_option maxHeartbeats 4000000 in
theorem R_J_X11_check_69 (N : Nat) (x2 : Int) (h : Hp) (res : Int × Hp) (H : J_X11_check_69 N x2 h = some res) : Go M_X11_check 3 69 [some (.inr 1), none, some (.inl x2), none] [] h (Qi res) := by
  unfold J_X11_check_69 at H
  refine g_aload_n (T_X11_check 39 _ _ _ rfl) rfl ?_
  refine g_getR (c := 0) (r := 42) (T_X11_check 40 _ _ _ rfl) fl_X11_24 rfl (nR rfl) rfl (by decide) ?_
  obtain ⟨h1, hq, H⟩ := bv_some H
  refine g_callVv (M' := M_X10_clear) (c := 41) (av := []) (st := []) (T_X11_check 41 _ _ _ rfl) ml_X11_152 cb_X10_clear rfl rfl (Nat.le_of_ble_eq_true rfl) (by omega) (R_X10_clear N _ _ hq) ?_
  refine g_iload_n (T_X11_check 42 _ _ _ rfl) rfl ?_
  exact g_iret (T_X11_check 43 _ _ _ rfl) rfl (qi_of H)
def J_X11_check_63 (N : Nat) (k30 : Int → Int → Int → Hp → Option (Int × Hp)) (x1 : Int) (x2 : Int) (x3 : Int) (h : Hp) : Option (Int × Hp) :=
  bnd (w32 (x3 + 1)) fun y1 =>
  k30 x1 x2 y1 h
set_option maxRecDepth 100000 in
set_option maxHeartbeats 4000000 in
theorem R_J_X11_check_63 (N : Nat) (k30 : Int → Int → Int → Hp → Option (Int × Hp)) (hk30 : ∀ (x1 : Int) (x2 : Int) (x3 : Int) (h : Hp) (res : Int × Hp), k30 x1 x2 x3 h = some res → Go M_X11_check 3 30 [some (.inr 1), some (.inl x1), some (.inl x2), some (.inl x3)] [] h (Qi res)) (x1 : Int) (x2 : Int) (x3 : Int) (h : Hp) (res : Int × Hp) (H : J_X11_check_63 N k30 x1 x2 x3 h = some res) : Go M_X11_check 3 63 [some (.inr 1), some (.inl x1), some (.inl x2), some (.inl x3)] [] h (Qi res) := by
  unfold J_X11_check_63 at H
  refine g_iincB (T_X11_check 37 _ _ _ rfl) rfl (by decide) H fun y1 H => ?_
  refine g_goto (tgt := 30) (T_X11_check 38 _ _ _ rfl) (by decide) ?_
  refine g_weak [true, true, true, true] ?_
  exact hk30 _ _ _ _ _ H
def L_X11_check_30 (N : Nat) : Nat → Int → Int → Int → Hp → Option (Int × Hp)
  | 0, _, _, _, _ => none
  | n + 1, x1, x2, x3, h =>
    if x1 ≤ x3 then
      J_X11_check_69 N  x2 h
    else
    if x2 = (-1) then
      bd (F_X10_pairAt N (w32 (2 * x3)) h) fun y2 h1 =>
      bd (F_X1_depthOf N x3 h1) fun y4 h3 =>
      if y2 = y4 then
        J_X11_check_63 N (L_X11_check_30 N n) x1 x2 x3 h3
      else
      J_X11_check_63 N (L_X11_check_30 N n) x1 x3 x3 h3
    else
    J_X11_check_69 N  x2 h
set_option maxRecDepth 100000 in
set_option maxHeartbeats 4000000 in
theorem R_L_X11_check_30 (N : Nat) : ∀ (n : Nat) (x1 : Int) (x2 : Int) (x3 : Int) (h : Hp) (res : Int × Hp), L_X11_check_30 N n x1 x2 x3 h = some res → Go M_X11_check 3 30 [some (.inr 1), some (.inl x1), some (.inl x2), some (.inl x3)] [] h (Qi res)
  | 0, _, _, _, _, _, H => by cases H
  | n + 1, x1, x2, x3, h, res, H => by
    have ih := R_L_X11_check_30 N n
    simp only [L_X11_check_30] at H
    refine g_iload_n (T_X11_check 18 _ _ _ rfl) rfl ?_
    refine g_iload_n (T_X11_check 19 _ _ _ rfl) rfl ?_
    refine g_icmp_ge (tgt := 69) (T_X11_check 20 _ _ _ rfl) (by decide) (fun cc => ?_) (fun cc => ?_)
    · replace H := ite_p cc H
      refine g_weak [true, false, true, false] ?_
      exact R_J_X11_check_69 N   _ _ _ H
    · replace H := ite_n cc H
      refine g_iload_n (T_X11_check 21 _ _ _ rfl) rfl ?_
      refine g_iconst (T_X11_check 22 _ _ _ rfl) ⟨by decide, by decide⟩ ?_
      refine g_icmp_ne (tgt := 69) (T_X11_check 23 _ _ _ rfl) (by decide) (fun cc => ?_) (fun cc => ?_)
      · replace H := ite_n cc H
        refine g_weak [true, false, true, false] ?_
        exact R_J_X11_check_69 N   _ _ _ H
      · replace H := ite_p cc H
        refine g_aload_n (T_X11_check 24 _ _ _ rfl) rfl ?_
        refine g_getR (c := 0) (r := 42) (T_X11_check 25 _ _ _ rfl) fl_X11_24 rfl (nR rfl) rfl (by decide) ?_
        refine g_iconst (T_X11_check 26 _ _ _ rfl) ⟨by decide, by decide⟩ ?_
        refine g_iload_n (T_X11_check 27 _ _ _ rfl) rfl ?_
        refine g_imul (T_X11_check 28 _ _ _ rfl) ?_
        obtain ⟨y2, h1, hq, H⟩ := bd_some H
        refine g_callVi (M' := M_X10_pairAt) (c := 41) (av := [.inl (w32 (2 * x3))]) (st := []) (T_X11_check 29 _ _ _ rfl) ml_X11_307 cb_X10_pairAt rfl rfl (Nat.le_of_ble_eq_true rfl) (by omega) (R_X10_pairAt N _ _ _ hq) ?_
        refine g_aload_n (T_X11_check 30 _ _ _ rfl) rfl ?_
        refine g_getR (c := 0) (r := 2) (T_X11_check 31 _ _ _ rfl) fl_X11_28 rfl (nR rfl) rfl (by decide) ?_
        refine g_iload_n (T_X11_check 32 _ _ _ rfl) rfl ?_
        obtain ⟨y4, h3, hq, H⟩ := bd_some H
        refine g_callVi (M' := M_X1_depthOf) (c := 1) (av := [.inl x3]) (st := [.inl y2]) (T_X11_check 33 _ _ _ rfl) ml_X11_267 cb_X1_depthOf rfl rfl (Nat.le_of_ble_eq_true rfl) (by omega) (R_X1_depthOf N _ _ _ hq) ?_
        refine g_icmp_eq (tgt := 63) (T_X11_check 34 _ _ _ rfl) (by decide) (fun cc => ?_) (fun cc => ?_)
        · replace H := ite_p cc H
          refine g_weak [true, true, true, true] ?_
          exact R_J_X11_check_63 N (L_X11_check_30 N n) ih _ _ _ _ _ H
        · replace H := ite_n cc H
          refine g_iload_n (T_X11_check 35 _ _ _ rfl) rfl ?_
          refine g_istore_n (T_X11_check 36 _ _ _ rfl) (by decide) ?_
          refine g_weak [true, true, true, true] ?_
          exact R_J_X11_check_63 N (L_X11_check_30 N n) ih _ _ _ _ _ H
def F_X11_check (N : Nat) (x1 : Int) (h : Hp) : Option (Int × Hp) :=
  bd (F_X11_isWithin N x1 0 14 h) fun y2 h1 =>
  if y2 = 0 then
    some ((-2), h1)
  else
  bd (F_X10_holds N (w32 (2 * x1)) h1) fun y4 h3 =>
  if y4 = 0 then
    some ((-2), h3)
  else
  L_X11_check_30 N  N x1 (-1) 0 h3
set_option maxRecDepth 100000 in
set_option maxHeartbeats 4000000 in
theorem R_X11_check (N : Nat) (x1 : Int) (h : Hp) (res : Int × Hp) (H : F_X11_check N x1 h = some res) : Runs M_X11_check 3 [.inr 1, .inl x1] h (Qi res) := by
  refine Runs.of rfl (Nat.le_of_ble_eq_true rfl) ?_
  show Go M_X11_check 3 0 [some (.inr 1), some (.inl x1), none, none] [] h (Qi res)
  unfold F_X11_check at H
  refine g_iload_n (T_X11_check 0 _ _ _ rfl) rfl ?_
  refine g_iconst (T_X11_check 1 _ _ _ rfl) ⟨by decide, by decide⟩ ?_
  refine g_bipush (T_X11_check 2 _ _ _ rfl) (by decide) ?_
  obtain ⟨y2, h1, hq, H⟩ := bd_some H
  refine g_callSi (M' := M_X11_isWithin) (av := [.inl x1, .inl 0, .inl 14]) (st := []) (T_X11_check 3 _ _ _ rfl) ml_X11_96 cb_X11_isWithin rfl (Nat.le_of_ble_eq_true rfl) (by omega) (R_X11_isWithin N _ _ _ _ _ hq) ?_
  refine g_if_eq (tgt := 23) (T_X11_check 4 _ _ _ rfl) (by decide) (fun cc => ?_) (fun cc => ?_)
  · replace H := ite_p cc H
    refine g_bipush (T_X11_check 12 _ _ _ rfl) (by decide) ?_
    exact g_iret (T_X11_check 13 _ _ _ rfl) rfl (qi_of H)
  · replace H := ite_n cc H
    refine g_aload_n (T_X11_check 5 _ _ _ rfl) rfl ?_
    refine g_getR (c := 0) (r := 42) (T_X11_check 6 _ _ _ rfl) fl_X11_24 rfl (nR rfl) rfl (by decide) ?_
    refine g_iconst (T_X11_check 7 _ _ _ rfl) ⟨by decide, by decide⟩ ?_
    refine g_iload_n (T_X11_check 8 _ _ _ rfl) rfl ?_
    refine g_imul (T_X11_check 9 _ _ _ rfl) ?_
    obtain ⟨y4, h3, hq, H⟩ := bd_some H
    refine g_callVi (M' := M_X10_holds) (c := 41) (av := [.inl (w32 (2 * x1))]) (st := []) (T_X11_check 10 _ _ _ rfl) ml_X11_130 cb_X10_holds rfl rfl (Nat.le_of_ble_eq_true rfl) (by omega) (R_X10_holds N _ _ _ hq) ?_
    refine g_if_ne (tgt := 26) (T_X11_check 11 _ _ _ rfl) (by decide) (fun cc => ?_) (fun cc => ?_)
    · replace H := ite_n cc H
      refine g_iconst (T_X11_check 14 _ _ _ rfl) ⟨by decide, by decide⟩ ?_
      refine g_istore_n (T_X11_check 15 _ _ _ rfl) (by decide) ?_
      refine g_iconst (T_X11_check 16 _ _ _ rfl) ⟨by decide, by decide⟩ ?_
      refine g_istore_n (T_X11_check 17 _ _ _ rfl) (by decide) ?_
      refine g_weak [true, true, true, true] ?_
      refine R_L_X11_check_30 N   _ _ _ _ _ _ H
    · replace H := ite_p cc H
      refine g_bipush (T_X11_check 12 _ _ _ rfl) (by decide) ?_
      exact g_iret (T_X11_check 13 _ _ _ rfl) rfl (qi_of H)
def F_X1_slept (N : Nat) (h : Hp) : Option (Int × Hp) :=
  some ((h 1 6), h)
set_option maxRecDepth 100000 in
set_option maxHeartbeats 4000000 in
theorem R_X1_slept (N : Nat) (h : Hp) (res : Int × Hp) (H : F_X1_slept N h = some res) : Runs M_X1_slept 1 [.inr 2] h (Qi res) := by
  refine Runs.of rfl (Nat.le_of_ble_eq_true rfl) ?_
  show Go M_X1_slept 1 0 [some (.inr 2)] [] h (Qi res)
  unfold F_X1_slept at H
  refine g_aload_n (T_X1_slept 0 _ _ _ rfl) rfl ?_
  refine g_getI (c := 1) (T_X1_slept 1 _ _ _ rfl) fl_X1_63 rfl (Or.inl rfl) ?_
  exact g_iret (T_X1_slept 2 _ _ _ rfl) rfl (qi_of H)
def F_X1_swept (N : Nat) (h : Hp) : Option (Int × Hp) :=
  some ((h 1 7), h)
set_option maxRecDepth 100000 in
set_option maxHeartbeats 4000000 in
theorem R_X1_swept (N : Nat) (h : Hp) (res : Int × Hp) (H : F_X1_swept N h = some res) : Runs M_X1_swept 1 [.inr 2] h (Qi res) := by
  refine Runs.of rfl (Nat.le_of_ble_eq_true rfl) ?_
  show Go M_X1_swept 1 0 [some (.inr 2)] [] h (Qi res)
  unfold F_X1_swept at H
  refine g_aload_n (T_X1_swept 0 _ _ _ rfl) rfl ?_
  refine g_getI (c := 1) (T_X1_swept 1 _ _ _ rfl) fl_X1_66 rfl (Or.inl rfl) ?_
  exact g_iret (T_X1_swept 2 _ _ _ rfl) rfl (qi_of H)
def J_X11_toldCarts_23 (N : Nat) (k4 : Int → Int → Hp → Option (Int × Hp)) (x1 : Int) (x2 : Int) (h : Hp) : Option (Int × Hp) :=
  bnd (w32 (x2 + 1)) fun y1 =>
  k4 x1 y1 h
set_option maxRecDepth 100000 in
set_option maxHeartbeats 4000000 in
theorem R_J_X11_toldCarts_23 (N : Nat) (k4 : Int → Int → Hp → Option (Int × Hp)) (hk4 : ∀ (x1 : Int) (x2 : Int) (h : Hp) (res : Int × Hp), k4 x1 x2 h = some res → Go M_X11_toldCarts 4 4 [some (.inr 1), some (.inl x1), some (.inl x2)] [] h (Qi res)) (x1 : Int) (x2 : Int) (h : Hp) (res : Int × Hp) (H : J_X11_toldCarts_23 N k4 x1 x2 h = some res) : Go M_X11_toldCarts 4 23 [some (.inr 1), some (.inl x1), some (.inl x2)] [] h (Qi res) := by
  unfold J_X11_toldCarts_23 at H
  refine g_iincB (T_X11_toldCarts 17 _ _ _ rfl) rfl (by decide) H fun y1 H => ?_
  refine g_goto (tgt := 4) (T_X11_toldCarts 18 _ _ _ rfl) (by decide) ?_
  refine g_weak [true, true, true] ?_
  exact hk4 _ _ _ _ H
def L_X11_toldCarts_4 (N : Nat) : Nat → Int → Int → Hp → Option (Int × Hp)
  | 0, _, _, _ => none
  | n + 1, x1, x2, h =>
    if 5 ≤ x2 then
      some (x1, h)
    else
    bd (F_X11_isToldCart N x2 h) fun y2 h1 =>
    if y2 = 0 then
      J_X11_toldCarts_23 N (L_X11_toldCarts_4 N n) x1 x2 h1
    else
    bnd ((ior x1 (ishl 1 x2))) fun y3 =>
    J_X11_toldCarts_23 N (L_X11_toldCarts_4 N n) y3 x2 h1
set_option maxRecDepth 100000 in
set_option maxHeartbeats 4000000 in
theorem R_L_X11_toldCarts_4 (N : Nat) : ∀ (n : Nat) (x1 : Int) (x2 : Int) (h : Hp) (res : Int × Hp), L_X11_toldCarts_4 N n x1 x2 h = some res → Go M_X11_toldCarts 4 4 [some (.inr 1), some (.inl x1), some (.inl x2)] [] h (Qi res)
  | 0, _, _, _, _, H => by cases H
  | n + 1, x1, x2, h, res, H => by
    have ih := R_L_X11_toldCarts_4 N n
    simp only [L_X11_toldCarts_4] at H
    refine g_iload_n (T_X11_toldCarts 4 _ _ _ rfl) rfl ?_
    refine g_iconst (T_X11_toldCarts 5 _ _ _ rfl) ⟨by decide, by decide⟩ ?_
    refine g_icmp_ge (tgt := 29) (T_X11_toldCarts 6 _ _ _ rfl) (by decide) (fun cc => ?_) (fun cc => ?_)
    · replace H := ite_p cc H
      refine g_iload_n (T_X11_toldCarts 19 _ _ _ rfl) rfl ?_
      exact g_iret (T_X11_toldCarts 20 _ _ _ rfl) rfl (qi_of H)
    · replace H := ite_n cc H
      refine g_aload_n (T_X11_toldCarts 7 _ _ _ rfl) rfl ?_
      refine g_iload_n (T_X11_toldCarts 8 _ _ _ rfl) rfl ?_
      obtain ⟨y2, h1, hq, H⟩ := bd_some H
      refine g_callVi (M' := M_X11_isToldCart) (c := 0) (av := [.inl x2]) (st := []) (T_X11_toldCarts 9 _ _ _ rfl) ml_X11_271 cb_X11_isToldCart rfl rfl (Nat.le_of_ble_eq_true rfl) (by omega) (R_X11_isToldCart N _ _ _ hq) ?_
      refine g_if_eq (tgt := 23) (T_X11_toldCarts 10 _ _ _ rfl) (by decide) (fun cc => ?_) (fun cc => ?_)
      · replace H := ite_p cc H
        refine g_weak [true, true, true] ?_
        exact R_J_X11_toldCarts_23 N (L_X11_toldCarts_4 N n) ih _ _ _ _ H
      · replace H := ite_n cc H
        refine g_iload_n (T_X11_toldCarts 11 _ _ _ rfl) rfl ?_
        refine g_iconst (T_X11_toldCarts 12 _ _ _ rfl) ⟨by decide, by decide⟩ ?_
        refine g_iload_n (T_X11_toldCarts 13 _ _ _ rfl) rfl ?_
        refine g_ishl (T_X11_toldCarts 14 _ _ _ rfl) ?_
        refine g_ior (T_X11_toldCarts 15 _ _ _ rfl) ?_
        refine g_bndI H fun y3 H => ?_
        refine g_istore_n (T_X11_toldCarts 16 _ _ _ rfl) (by decide) ?_
        refine g_weak [true, true, true] ?_
        exact R_J_X11_toldCarts_23 N (L_X11_toldCarts_4 N n) ih _ _ _ _ H
def F_X11_toldCarts (N : Nat) (h : Hp) : Option (Int × Hp) :=
  L_X11_toldCarts_4 N  N 0 0 h
set_option maxRecDepth 100000 in
set_option maxHeartbeats 4000000 in
theorem R_X11_toldCarts (N : Nat) (h : Hp) (res : Int × Hp) (H : F_X11_toldCarts N h = some res) : Runs M_X11_toldCarts 4 [.inr 1] h (Qi res) := by
  refine Runs.of rfl (Nat.le_of_ble_eq_true rfl) ?_
  show Go M_X11_toldCarts 4 0 [some (.inr 1), none, none] [] h (Qi res)
  unfold F_X11_toldCarts at H
  refine g_iconst (T_X11_toldCarts 0 _ _ _ rfl) ⟨by decide, by decide⟩ ?_
  refine g_istore_n (T_X11_toldCarts 1 _ _ _ rfl) (by decide) ?_
  refine g_iconst (T_X11_toldCarts 2 _ _ _ rfl) ⟨by decide, by decide⟩ ?_
  refine g_istore_n (T_X11_toldCarts 3 _ _ _ rfl) (by decide) ?_
  refine g_weak [true, true, true] ?_
  refine R_L_X11_toldCarts_4 N   _ _ _ _ _ H
def F_X2_clauses_v2 (N : Nat) (h : Hp) : Option (Int × Hp) :=
  some ((h 11 4), h)
set_option maxRecDepth 100000 in
set_option maxHeartbeats 4000000 in
theorem R_X2_clauses_v2 (N : Nat) (h : Hp) (res : Int × Hp) (H : F_X2_clauses_v2 N h = some res) : Runs M_X2_clauses 1 [.inr 12] h (Qi res) := by
  refine Runs.of rfl (Nat.le_of_ble_eq_true rfl) ?_
  show Go M_X2_clauses 1 0 [some (.inr 12)] [] h (Qi res)
  unfold F_X2_clauses_v2 at H
  refine g_aload_n (T_X2_clauses 0 _ _ _ rfl) rfl ?_
  refine g_getI (c := 11) (T_X2_clauses 1 _ _ _ rfl) fl_X2_36 rfl (Or.inl rfl) ?_
  exact g_iret (T_X2_clauses 2 _ _ _ rfl) rfl (qi_of H)
def F_X7_howMany (N : Nat) (h : Hp) : Option (Int × Hp) :=
  some ((h 7 3), h)
set_option maxRecDepth 100000 in
set_option maxHeartbeats 4000000 in
theorem R_X7_howMany (N : Nat) (h : Hp) (res : Int × Hp) (H : F_X7_howMany N h = some res) : Runs M_X7_howMany 1 [.inr 8] h (Qi res) := by
  refine Runs.of rfl (Nat.le_of_ble_eq_true rfl) ?_
  show Go M_X7_howMany 1 0 [some (.inr 8)] [] h (Qi res)
  unfold F_X7_howMany at H
  refine g_aload_n (T_X7_howMany 0 _ _ _ rfl) rfl ?_
  refine g_getI (c := 7) (T_X7_howMany 1 _ _ _ rfl) fl_X7_21 rfl (Or.inl rfl) ?_
  exact g_iret (T_X7_howMany 2 _ _ _ rfl) rfl (qi_of H)
def F_X11_countOfStreet (N : Nat) (x1 : Int) (h : Hp) : Option (Int × Hp) :=
  if 30 ≤ x1 then
    if 50 ≤ x1 then
      if 70 ≤ x1 then
        bd (F_X1_isTold N (w32 (x1 - 70)) h) fun y2 h1 =>
        if y2 = 0 then
          some ((-1), h1)
        else
        bd (F_X1_depthOf N (w32 (x1 - 70)) h1) fun y4 h3 =>
        some (y4, h3)
      else
      bd (F_X1_isTold N (w32 (x1 - 50)) h) fun y6 h5 =>
      if y6 = 0 then
        some ((-1), h5)
      else
      bd (F_X1_starsOf N (w32 (x1 - 50)) h5) fun y8 h7 =>
      some (y8, h7)
    else
    bd (F_X1_isTold N (w32 (x1 - 30)) h) fun y10 h9 =>
    if y10 = 0 then
      some ((-1), h9)
    else
    bd (F_X1_lampsOf N (w32 (x1 - 30)) h9) fun y12 h11 =>
    some (y12, h11)
  else
  bd (F_X1_isTold N (w32 (x1 - 10)) h) fun y14 h13 =>
  if y14 = 0 then
    some ((-1), h13)
  else
  bd (F_X1_housesOf N (w32 (x1 - 10)) h13) fun y16 h15 =>
  some (y16, h15)
set_option maxRecDepth 100000 in
set_option maxHeartbeats 4000000 in
theorem R_X11_countOfStreet (N : Nat) (x1 : Int) (h : Hp) (res : Int × Hp) (H : F_X11_countOfStreet N x1 h = some res) : Runs M_X11_countOfStreet 2 [.inr 1, .inl x1] h (Qi res) := by
  refine Runs.of rfl (Nat.le_of_ble_eq_true rfl) ?_
  show Go M_X11_countOfStreet 2 0 [some (.inr 1), some (.inl x1)] [] h (Qi res)
  unfold F_X11_countOfStreet at H
  refine g_iload_n (T_X11_countOfStreet 0 _ _ _ rfl) rfl ?_
  refine g_bipush (T_X11_countOfStreet 1 _ _ _ rfl) (by decide) ?_
  refine g_icmp_ge (tgt := 36) (T_X11_countOfStreet 2 _ _ _ rfl) (by decide) (fun cc => ?_) (fun cc => ?_)
  · replace H := ite_p cc H
    refine g_iload_n (T_X11_countOfStreet 19 _ _ _ rfl) rfl ?_
    refine g_bipush (T_X11_countOfStreet 20 _ _ _ rfl) (by decide) ?_
    refine g_icmp_ge (tgt := 72) (T_X11_countOfStreet 21 _ _ _ rfl) (by decide) (fun cc => ?_) (fun cc => ?_)
    · replace H := ite_p cc H
      refine g_iload_n (T_X11_countOfStreet 38 _ _ _ rfl) rfl ?_
      refine g_bipush (T_X11_countOfStreet 39 _ _ _ rfl) (by decide) ?_
      refine g_icmp_ge (tgt := 108) (T_X11_countOfStreet 40 _ _ _ rfl) (by decide) (fun cc => ?_) (fun cc => ?_)
      · replace H := ite_p cc H
        refine g_aload_n (T_X11_countOfStreet 57 _ _ _ rfl) rfl ?_
        refine g_getR (c := 0) (r := 2) (T_X11_countOfStreet 58 _ _ _ rfl) fl_X11_28 rfl (nR rfl) rfl (by decide) ?_
        refine g_iload_n (T_X11_countOfStreet 59 _ _ _ rfl) rfl ?_
        refine g_bipush (T_X11_countOfStreet 60 _ _ _ rfl) (by decide) ?_
        refine g_isub (T_X11_countOfStreet 61 _ _ _ rfl) ?_
        obtain ⟨y2, h1, hq, H⟩ := bd_some H
        refine g_callVi (M' := M_X1_isTold) (c := 1) (av := [.inl (w32 (x1 - 70))]) (st := []) (T_X11_countOfStreet 62 _ _ _ rfl) ml_X11_112 cb_X1_isTold rfl rfl (Nat.le_of_ble_eq_true rfl) (by omega) (R_X1_isTold N _ _ _ hq) ?_
        refine g_if_eq (tgt := 136) (T_X11_countOfStreet 63 _ _ _ rfl) (by decide) (fun cc => ?_) (fun cc => ?_)
        · replace H := ite_p cc H
          refine g_iconst (T_X11_countOfStreet 71 _ _ _ rfl) ⟨by decide, by decide⟩ ?_
          exact g_iret (T_X11_countOfStreet 72 _ _ _ rfl) rfl (qi_of H)
        · replace H := ite_n cc H
          refine g_aload_n (T_X11_countOfStreet 64 _ _ _ rfl) rfl ?_
          refine g_getR (c := 0) (r := 2) (T_X11_countOfStreet 65 _ _ _ rfl) fl_X11_28 rfl (nR rfl) rfl (by decide) ?_
          refine g_iload_n (T_X11_countOfStreet 66 _ _ _ rfl) rfl ?_
          refine g_bipush (T_X11_countOfStreet 67 _ _ _ rfl) (by decide) ?_
          refine g_isub (T_X11_countOfStreet 68 _ _ _ rfl) ?_
          obtain ⟨y4, h3, hq, H⟩ := bd_some H
          refine g_callVi (M' := M_X1_depthOf) (c := 1) (av := [.inl (w32 (x1 - 70))]) (st := []) (T_X11_countOfStreet 69 _ _ _ rfl) ml_X11_267 cb_X1_depthOf rfl rfl (Nat.le_of_ble_eq_true rfl) (by omega) (R_X1_depthOf N _ _ _ hq) ?_
          refine g_goto (tgt := 137) (T_X11_countOfStreet 70 _ _ _ rfl) (by decide) ?_
          exact g_iret (T_X11_countOfStreet 72 _ _ _ rfl) rfl (qi_of H)
      · replace H := ite_n cc H
        refine g_aload_n (T_X11_countOfStreet 41 _ _ _ rfl) rfl ?_
        refine g_getR (c := 0) (r := 2) (T_X11_countOfStreet 42 _ _ _ rfl) fl_X11_28 rfl (nR rfl) rfl (by decide) ?_
        refine g_iload_n (T_X11_countOfStreet 43 _ _ _ rfl) rfl ?_
        refine g_bipush (T_X11_countOfStreet 44 _ _ _ rfl) (by decide) ?_
        refine g_isub (T_X11_countOfStreet 45 _ _ _ rfl) ?_
        obtain ⟨y6, h5, hq, H⟩ := bd_some H
        refine g_callVi (M' := M_X1_isTold) (c := 1) (av := [.inl (w32 (x1 - 50))]) (st := []) (T_X11_countOfStreet 46 _ _ _ rfl) ml_X11_112 cb_X1_isTold rfl rfl (Nat.le_of_ble_eq_true rfl) (by omega) (R_X1_isTold N _ _ _ hq) ?_
        refine g_if_eq (tgt := 106) (T_X11_countOfStreet 47 _ _ _ rfl) (by decide) (fun cc => ?_) (fun cc => ?_)
        · replace H := ite_p cc H
          refine g_iconst (T_X11_countOfStreet 55 _ _ _ rfl) ⟨by decide, by decide⟩ ?_
          exact g_iret (T_X11_countOfStreet 56 _ _ _ rfl) rfl (qi_of H)
        · replace H := ite_n cc H
          refine g_aload_n (T_X11_countOfStreet 48 _ _ _ rfl) rfl ?_
          refine g_getR (c := 0) (r := 2) (T_X11_countOfStreet 49 _ _ _ rfl) fl_X11_28 rfl (nR rfl) rfl (by decide) ?_
          refine g_iload_n (T_X11_countOfStreet 50 _ _ _ rfl) rfl ?_
          refine g_bipush (T_X11_countOfStreet 51 _ _ _ rfl) (by decide) ?_
          refine g_isub (T_X11_countOfStreet 52 _ _ _ rfl) ?_
          obtain ⟨y8, h7, hq, H⟩ := bd_some H
          refine g_callVi (M' := M_X1_starsOf) (c := 1) (av := [.inl (w32 (x1 - 50))]) (st := []) (T_X11_countOfStreet 53 _ _ _ rfl) ml_X11_338 cb_X1_starsOf rfl rfl (Nat.le_of_ble_eq_true rfl) (by omega) (R_X1_starsOf N _ _ _ hq) ?_
          refine g_goto (tgt := 107) (T_X11_countOfStreet 54 _ _ _ rfl) (by decide) ?_
          exact g_iret (T_X11_countOfStreet 56 _ _ _ rfl) rfl (qi_of H)
    · replace H := ite_n cc H
      refine g_aload_n (T_X11_countOfStreet 22 _ _ _ rfl) rfl ?_
      refine g_getR (c := 0) (r := 2) (T_X11_countOfStreet 23 _ _ _ rfl) fl_X11_28 rfl (nR rfl) rfl (by decide) ?_
      refine g_iload_n (T_X11_countOfStreet 24 _ _ _ rfl) rfl ?_
      refine g_bipush (T_X11_countOfStreet 25 _ _ _ rfl) (by decide) ?_
      refine g_isub (T_X11_countOfStreet 26 _ _ _ rfl) ?_
      obtain ⟨y10, h9, hq, H⟩ := bd_some H
      refine g_callVi (M' := M_X1_isTold) (c := 1) (av := [.inl (w32 (x1 - 30))]) (st := []) (T_X11_countOfStreet 27 _ _ _ rfl) ml_X11_112 cb_X1_isTold rfl rfl (Nat.le_of_ble_eq_true rfl) (by omega) (R_X1_isTold N _ _ _ hq) ?_
      refine g_if_eq (tgt := 70) (T_X11_countOfStreet 28 _ _ _ rfl) (by decide) (fun cc => ?_) (fun cc => ?_)
      · replace H := ite_p cc H
        refine g_iconst (T_X11_countOfStreet 36 _ _ _ rfl) ⟨by decide, by decide⟩ ?_
        exact g_iret (T_X11_countOfStreet 37 _ _ _ rfl) rfl (qi_of H)
      · replace H := ite_n cc H
        refine g_aload_n (T_X11_countOfStreet 29 _ _ _ rfl) rfl ?_
        refine g_getR (c := 0) (r := 2) (T_X11_countOfStreet 30 _ _ _ rfl) fl_X11_28 rfl (nR rfl) rfl (by decide) ?_
        refine g_iload_n (T_X11_countOfStreet 31 _ _ _ rfl) rfl ?_
        refine g_bipush (T_X11_countOfStreet 32 _ _ _ rfl) (by decide) ?_
        refine g_isub (T_X11_countOfStreet 33 _ _ _ rfl) ?_
        obtain ⟨y12, h11, hq, H⟩ := bd_some H
        refine g_callVi (M' := M_X1_lampsOf) (c := 1) (av := [.inl (w32 (x1 - 30))]) (st := []) (T_X11_countOfStreet 34 _ _ _ rfl) ml_X11_335 cb_X1_lampsOf rfl rfl (Nat.le_of_ble_eq_true rfl) (by omega) (R_X1_lampsOf N _ _ _ hq) ?_
        refine g_goto (tgt := 71) (T_X11_countOfStreet 35 _ _ _ rfl) (by decide) ?_
        exact g_iret (T_X11_countOfStreet 37 _ _ _ rfl) rfl (qi_of H)
  · replace H := ite_n cc H
    refine g_aload_n (T_X11_countOfStreet 3 _ _ _ rfl) rfl ?_
    refine g_getR (c := 0) (r := 2) (T_X11_countOfStreet 4 _ _ _ rfl) fl_X11_28 rfl (nR rfl) rfl (by decide) ?_
    refine g_iload_n (T_X11_countOfStreet 5 _ _ _ rfl) rfl ?_
    refine g_bipush (T_X11_countOfStreet 6 _ _ _ rfl) (by decide) ?_
    refine g_isub (T_X11_countOfStreet 7 _ _ _ rfl) ?_
    obtain ⟨y14, h13, hq, H⟩ := bd_some H
    refine g_callVi (M' := M_X1_isTold) (c := 1) (av := [.inl (w32 (x1 - 10))]) (st := []) (T_X11_countOfStreet 8 _ _ _ rfl) ml_X11_112 cb_X1_isTold rfl rfl (Nat.le_of_ble_eq_true rfl) (by omega) (R_X1_isTold N _ _ _ hq) ?_
    refine g_if_eq (tgt := 34) (T_X11_countOfStreet 9 _ _ _ rfl) (by decide) (fun cc => ?_) (fun cc => ?_)
    · replace H := ite_p cc H
      refine g_iconst (T_X11_countOfStreet 17 _ _ _ rfl) ⟨by decide, by decide⟩ ?_
      exact g_iret (T_X11_countOfStreet 18 _ _ _ rfl) rfl (qi_of H)
    · replace H := ite_n cc H
      refine g_aload_n (T_X11_countOfStreet 10 _ _ _ rfl) rfl ?_
      refine g_getR (c := 0) (r := 2) (T_X11_countOfStreet 11 _ _ _ rfl) fl_X11_28 rfl (nR rfl) rfl (by decide) ?_
      refine g_iload_n (T_X11_countOfStreet 12 _ _ _ rfl) rfl ?_
      refine g_bipush (T_X11_countOfStreet 13 _ _ _ rfl) (by decide) ?_
      refine g_isub (T_X11_countOfStreet 14 _ _ _ rfl) ?_
      obtain ⟨y16, h15, hq, H⟩ := bd_some H
      refine g_callVi (M' := M_X1_housesOf) (c := 1) (av := [.inl (w32 (x1 - 10))]) (st := []) (T_X11_countOfStreet 15 _ _ _ rfl) ml_X11_332 cb_X1_housesOf rfl rfl (Nat.le_of_ble_eq_true rfl) (by omega) (R_X1_housesOf N _ _ _ hq) ?_
      refine g_goto (tgt := 35) (T_X11_countOfStreet 16 _ _ _ rfl) (by decide) ?_
      exact g_iret (T_X11_countOfStreet 18 _ _ _ rfl) rfl (qi_of H)
def F_X11_count (N : Nat) (x1 : Int) (h : Hp) : Option (Int × Hp) :=
  if x1 < 100 then
    if x1 < 90 then
      if x1 < 10 then
        if x1 = 0 then
          bd (F_X1_night N h) fun y2 h1 =>
          some (y2, h1)
        else if x1 = 1 then
          bd (F_X1_slept N h) fun y4 h3 =>
          some (y4, h3)
        else if x1 = 2 then
          bd (F_X1_swept N h) fun y6 h5 =>
          some (y6, h5)
        else if x1 = 3 then
          bd (F_X1_toldStreets N h) fun y8 h7 =>
          some (y8, h7)
        else if x1 = 4 then
          bd (F_X11_toldCarts N h) fun y10 h9 =>
          some (y10, h9)
        else if x1 = 5 then
          bd (F_X2_clauses_v2 N h) fun y12 h11 =>
          some (y12, h11)
        else if x1 = 6 then
          bd (F_X10_length N h) fun y14 h13 =>
          some (y14, h13)
        else if x1 = 7 then
          bd (F_X7_howMany N h) fun y16 h15 =>
          some (y16, h15)
        else 
        some ((-1), h)
      else
      bd (F_X11_countOfStreet N x1 h) fun y18 h17 =>
      some (y18, h17)
    else
    bd (F_X11_isToldCart N (w32 (x1 - 90)) h) fun y20 h19 =>
    if y20 = 0 then
      some ((-1), h19)
    else
    grd (0 ≤ (w32 (x1 - 90)) ∧ (w32 (x1 - 90)) < 5 ∧ (h19 20 (w32 (x1 - 90)).toNat).toNat ≤ 1000) <|
    bnd ((h19 20 (w32 (x1 - 90)).toNat).toNat) fun z21 =>
    grd (cartR z21) <|
    bd (F_X0_room N (z21 - 1) h19) fun y24 h23 =>
    some (y24, h23)
  else
  bd (F_X11_cartAt N (w32 (x1 - 100)) h) fun z26 h25 =>
  if z26 = 0 then
    some ((-1), h25)
  else
  grd (cartR z26) <|
  bd (F_X0_stops N (z26 - 1) h25) fun y29 h28 =>
  some (y29, h28)
set_option maxRecDepth 100000 in
set_option maxHeartbeats 4000000 in
theorem R_X11_count (N : Nat) (x1 : Int) (h : Hp) (res : Int × Hp) (H : F_X11_count N x1 h = some res) : Runs M_X11_count 5 [.inr 1, .inl x1] h (Qi res) := by
  refine Runs.of rfl (Nat.le_of_ble_eq_true rfl) ?_
  show Go M_X11_count 5 0 [some (.inr 1), some (.inl x1), none] [] h (Qi res)
  unfold F_X11_count at H
  refine g_iload_n (T_X11_count 0 _ _ _ rfl) rfl ?_
  refine g_bipush (T_X11_count 1 _ _ _ rfl) (by decide) ?_
  refine g_icmp_lt (tgt := 28) (T_X11_count 2 _ _ _ rfl) (by decide) (fun cc => ?_) (fun cc => ?_)
  · replace H := ite_p cc H
    refine g_iload_n (T_X11_count 16 _ _ _ rfl) rfl ?_
    refine g_bipush (T_X11_count 17 _ _ _ rfl) (by decide) ?_
    refine g_icmp_lt (tgt := 62) (T_X11_count 18 _ _ _ rfl) (by decide) (fun cc => ?_) (fun cc => ?_)
    · replace H := ite_p cc H
      refine g_iload_n (T_X11_count 35 _ _ _ rfl) rfl ?_
      refine g_bipush (T_X11_count 36 _ _ _ rfl) (by decide) ?_
      refine g_icmp_lt (tgt := 74) (T_X11_count 37 _ _ _ rfl) (by decide) (fun cc => ?_) (fun cc => ?_)
      · replace H := ite_p cc H
        refine g_iload_n (T_X11_count 42 _ _ _ rfl) rfl ?_
        by_cases cc0 : x1 = 0
        · replace H := ite_p cc0 H
          refine g_tswIn (tgt := 120) (T_X11_count 43 _ _ _ rfl) (by rw [cc0]; decide) (by rw [cc0]; decide) (by first | (rw [cc0]; done) | (rw [cc0]; rfl)) (by decide) ?_
          refine g_aload_n (T_X11_count 44 _ _ _ rfl) rfl ?_
          refine g_getR (c := 0) (r := 2) (T_X11_count 45 _ _ _ rfl) fl_X11_28 rfl (nR rfl) rfl (by decide) ?_
          obtain ⟨y2, h1, hq, H⟩ := bd_some H
          refine g_callVi (M' := M_X1_night) (c := 1) (av := []) (st := []) (T_X11_count 46 _ _ _ rfl) ml_X11_165 cb_X1_night rfl rfl (Nat.le_of_ble_eq_true rfl) (by omega) (R_X1_night N _ _ hq) ?_
          exact g_iret (T_X11_count 47 _ _ _ rfl) rfl (qi_of H)
        replace H := ite_n cc0 H
        by_cases cc1 : x1 = 1
        · replace H := ite_p cc1 H
          refine g_tswIn (tgt := 128) (T_X11_count 43 _ _ _ rfl) (by rw [cc1]; decide) (by rw [cc1]; decide) (by first | (rw [cc1]; done) | (rw [cc1]; rfl)) (by decide) ?_
          refine g_aload_n (T_X11_count 48 _ _ _ rfl) rfl ?_
          refine g_getR (c := 0) (r := 2) (T_X11_count 49 _ _ _ rfl) fl_X11_28 rfl (nR rfl) rfl (by decide) ?_
          obtain ⟨y4, h3, hq, H⟩ := bd_some H
          refine g_callVi (M' := M_X1_slept) (c := 1) (av := []) (st := []) (T_X11_count 50 _ _ _ rfl) ml_X11_319 cb_X1_slept rfl rfl (Nat.le_of_ble_eq_true rfl) (by omega) (R_X1_slept N _ _ hq) ?_
          exact g_iret (T_X11_count 51 _ _ _ rfl) rfl (qi_of H)
        replace H := ite_n cc1 H
        by_cases cc2 : x1 = 2
        · replace H := ite_p cc2 H
          refine g_tswIn (tgt := 136) (T_X11_count 43 _ _ _ rfl) (by rw [cc2]; decide) (by rw [cc2]; decide) (by first | (rw [cc2]; done) | (rw [cc2]; rfl)) (by decide) ?_
          refine g_aload_n (T_X11_count 52 _ _ _ rfl) rfl ?_
          refine g_getR (c := 0) (r := 2) (T_X11_count 53 _ _ _ rfl) fl_X11_28 rfl (nR rfl) rfl (by decide) ?_
          obtain ⟨y6, h5, hq, H⟩ := bd_some H
          refine g_callVi (M' := M_X1_swept) (c := 1) (av := []) (st := []) (T_X11_count 54 _ _ _ rfl) ml_X11_320 cb_X1_swept rfl rfl (Nat.le_of_ble_eq_true rfl) (by omega) (R_X1_swept N _ _ hq) ?_
          exact g_iret (T_X11_count 55 _ _ _ rfl) rfl (qi_of H)
        replace H := ite_n cc2 H
        by_cases cc3 : x1 = 3
        · replace H := ite_p cc3 H
          refine g_tswIn (tgt := 144) (T_X11_count 43 _ _ _ rfl) (by rw [cc3]; decide) (by rw [cc3]; decide) (by first | (rw [cc3]; done) | (rw [cc3]; rfl)) (by decide) ?_
          refine g_aload_n (T_X11_count 56 _ _ _ rfl) rfl ?_
          refine g_getR (c := 0) (r := 2) (T_X11_count 57 _ _ _ rfl) fl_X11_28 rfl (nR rfl) rfl (by decide) ?_
          obtain ⟨y8, h7, hq, H⟩ := bd_some H
          refine g_callVi (M' := M_X1_toldStreets) (c := 1) (av := []) (st := []) (T_X11_count 58 _ _ _ rfl) ml_X11_248 cb_X1_toldStreets rfl rfl (Nat.le_of_ble_eq_true rfl) (by omega) (R_X1_toldStreets N _ _ hq) ?_
          exact g_iret (T_X11_count 59 _ _ _ rfl) rfl (qi_of H)
        replace H := ite_n cc3 H
        by_cases cc4 : x1 = 4
        · replace H := ite_p cc4 H
          refine g_tswIn (tgt := 152) (T_X11_count 43 _ _ _ rfl) (by rw [cc4]; decide) (by rw [cc4]; decide) (by first | (rw [cc4]; done) | (rw [cc4]; rfl)) (by decide) ?_
          refine g_aload_n (T_X11_count 60 _ _ _ rfl) rfl ?_
          obtain ⟨y10, h9, hq, H⟩ := bd_some H
          refine g_callVi (M' := M_X11_toldCarts) (c := 0) (av := []) (st := []) (T_X11_count 61 _ _ _ rfl) ml_X11_321 cb_X11_toldCarts rfl rfl (Nat.le_of_ble_eq_true rfl) (by omega) (R_X11_toldCarts N _ _ hq) ?_
          exact g_iret (T_X11_count 62 _ _ _ rfl) rfl (qi_of H)
        replace H := ite_n cc4 H
        by_cases cc5 : x1 = 5
        · replace H := ite_p cc5 H
          refine g_tswIn (tgt := 157) (T_X11_count 43 _ _ _ rfl) (by rw [cc5]; decide) (by rw [cc5]; decide) (by first | (rw [cc5]; done) | (rw [cc5]; rfl)) (by decide) ?_
          refine g_aload_n (T_X11_count 63 _ _ _ rfl) rfl ?_
          refine g_getR (c := 0) (r := 12) (T_X11_count 64 _ _ _ rfl) fl_X11_36 rfl (nR rfl) rfl (by decide) ?_
          obtain ⟨y12, h11, hq, H⟩ := bd_some H
          refine g_callVi (M' := M_X2_clauses) (c := 11) (av := []) (st := []) (T_X11_count 65 _ _ _ rfl) ml_X11_324 cb_X2_clauses rfl rfl (Nat.le_of_ble_eq_true rfl) (by omega) (R_X2_clauses_v2 N _ _ hq) ?_
          exact g_iret (T_X11_count 66 _ _ _ rfl) rfl (qi_of H)
        replace H := ite_n cc5 H
        by_cases cc6 : x1 = 6
        · replace H := ite_p cc6 H
          refine g_tswIn (tgt := 165) (T_X11_count 43 _ _ _ rfl) (by rw [cc6]; decide) (by rw [cc6]; decide) (by first | (rw [cc6]; done) | (rw [cc6]; rfl)) (by decide) ?_
          refine g_aload_n (T_X11_count 67 _ _ _ rfl) rfl ?_
          refine g_getR (c := 0) (r := 42) (T_X11_count 68 _ _ _ rfl) fl_X11_24 rfl (nR rfl) rfl (by decide) ?_
          obtain ⟨y14, h13, hq, H⟩ := bd_some H
          refine g_callVi (M' := M_X10_length) (c := 41) (av := []) (st := []) (T_X11_count 69 _ _ _ rfl) ml_X11_126 cb_X10_length rfl rfl (Nat.le_of_ble_eq_true rfl) (by omega) (R_X10_length N _ _ hq) ?_
          exact g_iret (T_X11_count 70 _ _ _ rfl) rfl (qi_of H)
        replace H := ite_n cc6 H
        by_cases cc7 : x1 = 7
        · replace H := ite_p cc7 H
          refine g_tswIn (tgt := 173) (T_X11_count 43 _ _ _ rfl) (by rw [cc7]; decide) (by rw [cc7]; decide) (by first | (rw [cc7]; done) | (rw [cc7]; rfl)) (by decide) ?_
          refine g_aload_n (T_X11_count 71 _ _ _ rfl) rfl ?_
          refine g_getR (c := 0) (r := 8) (T_X11_count 72 _ _ _ rfl) fl_X11_32 rfl (nR rfl) rfl (by decide) ?_
          obtain ⟨y16, h15, hq, H⟩ := bd_some H
          refine g_callVi (M' := M_X7_howMany) (c := 7) (av := []) (st := []) (T_X11_count 73 _ _ _ rfl) ml_X11_327 cb_X7_howMany rfl rfl (Nat.le_of_ble_eq_true rfl) (by omega) (R_X7_howMany N _ _ hq) ?_
          exact g_iret (T_X11_count 74 _ _ _ rfl) rfl (qi_of H)
        replace H := ite_n cc7 H
        refine g_tswOut (tgt := 181) (T_X11_count 43 _ _ _ rfl) (by omega) (by decide) ?_
        refine g_iconst (T_X11_count 75 _ _ _ rfl) ⟨by decide, by decide⟩ ?_
        exact g_iret (T_X11_count 76 _ _ _ rfl) rfl (qi_of H)
      · replace H := ite_n cc H
        refine g_aload_n (T_X11_count 38 _ _ _ rfl) rfl ?_
        refine g_iload_n (T_X11_count 39 _ _ _ rfl) rfl ?_
        obtain ⟨y18, h17, hq, H⟩ := bd_some H
        refine g_callVi (M' := M_X11_countOfStreet) (c := 0) (av := [.inl x1]) (st := []) (T_X11_count 40 _ _ _ rfl) ml_X11_316 cb_X11_countOfStreet rfl rfl (Nat.le_of_ble_eq_true rfl) (by omega) (R_X11_countOfStreet N _ _ _ hq) ?_
        exact g_iret (T_X11_count 41 _ _ _ rfl) rfl (qi_of H)
    · replace H := ite_n cc H
      refine g_aload_n (T_X11_count 19 _ _ _ rfl) rfl ?_
      refine g_iload_n (T_X11_count 20 _ _ _ rfl) rfl ?_
      refine g_bipush (T_X11_count 21 _ _ _ rfl) (by decide) ?_
      refine g_isub (T_X11_count 22 _ _ _ rfl) ?_
      obtain ⟨y20, h19, hq, H⟩ := bd_some H
      refine g_callVi (M' := M_X11_isToldCart) (c := 0) (av := [.inl (w32 (x1 - 90))]) (st := []) (T_X11_count 23 _ _ _ rfl) ml_X11_271 cb_X11_isToldCart rfl rfl (Nat.le_of_ble_eq_true rfl) (by omega) (R_X11_isToldCart N _ _ _ hq) ?_
      refine g_if_eq (tgt := 60) (T_X11_count 24 _ _ _ rfl) (by decide) (fun cc => ?_) (fun cc => ?_)
      · replace H := ite_p cc H
        refine g_iconst (T_X11_count 33 _ _ _ rfl) ⟨by decide, by decide⟩ ?_
        exact g_iret (T_X11_count 34 _ _ _ rfl) rfl (qi_of H)
      · replace H := ite_n cc H
        refine g_aload_n (T_X11_count 25 _ _ _ rfl) rfl ?_
        refine g_getR (c := 0) (r := 21) (T_X11_count 26 _ _ _ rfl) fl_X11_47 rfl (nR rfl) rfl (by decide) ?_
        refine g_iload_n (T_X11_count 27 _ _ _ rfl) rfl ?_
        refine g_bipush (T_X11_count 28 _ _ _ rfl) (by decide) ?_
        refine g_isub (T_X11_count 29 _ _ _ rfl) ?_
        obtain ⟨hg, H⟩ := grd_some H
        refine g_aald (c := 20) (T_X11_count 30 _ _ _ rfl) rfl ⟨hg.1, hg.2.1⟩ hg.2.2 ?_
        refine g_bndR H fun z21 H => ?_
        obtain ⟨hg, H⟩ := grd_some H
        obtain ⟨t22, rfl, ht22⟩ := cartR_spec hg
        simp only [Nat.add_sub_cancel] at H
        obtain ⟨y24, h23, hq, H⟩ := bd_some H
        refine g_callVi (M' := M_X0_room) (c := t22) (av := []) (st := []) (T_X11_count 31 _ _ _ rfl) ml_X11_313 cb_X0_room ht22.2.1 rfl (Nat.le_of_ble_eq_true rfl) (by omega) (R_X0_room N t22 ht22 _ _ hq) ?_
        refine g_goto (tgt := 61) (T_X11_count 32 _ _ _ rfl) (by decide) ?_
        exact g_iret (T_X11_count 34 _ _ _ rfl) rfl (qi_of H)
  · replace H := ite_n cc H
    refine g_aload_n (T_X11_count 3 _ _ _ rfl) rfl ?_
    refine g_iload_n (T_X11_count 4 _ _ _ rfl) rfl ?_
    refine g_bipush (T_X11_count 5 _ _ _ rfl) (by decide) ?_
    refine g_isub (T_X11_count 6 _ _ _ rfl) ?_
    obtain ⟨z26, h25, hq, H⟩ := bd_some H
    refine g_callVr (M' := M_X11_cartAt) (c := 0) (av := [.inl (w32 (x1 - 100))]) (st := []) (T_X11_count 7 _ _ _ rfl) ml_X11_104 cb_X11_cartAt rfl rfl (Nat.le_of_ble_eq_true rfl) (by omega) (R_X11_cartAt N _ _ _ hq) ?_
    refine g_astore_n (T_X11_count 8 _ _ _ rfl) (by decide) ?_
    refine g_aload_n (T_X11_count 9 _ _ _ rfl) rfl ?_
    refine g_ifnonnull (tgt := 23) (T_X11_count 10 _ _ _ rfl) (by decide) (fun cc => ?_) (fun cc => ?_)
    · replace H := ite_n cc H
      refine g_aload_n (T_X11_count 13 _ _ _ rfl) rfl ?_
      obtain ⟨hg, H⟩ := grd_some H
      obtain ⟨t27, rfl, ht27⟩ := cartR_spec hg
      simp only [Nat.add_sub_cancel] at H
      obtain ⟨y29, h28, hq, H⟩ := bd_some H
      refine g_callVi (M' := M_X0_stops) (c := t27) (av := []) (st := []) (T_X11_count 14 _ _ _ rfl) ml_X11_310 cb_X0_stops ht27.2.1 rfl (Nat.le_of_ble_eq_true rfl) (by omega) (R_X0_stops N t27 ht27 _ _ hq) ?_
      exact g_iret (T_X11_count 15 _ _ _ rfl) rfl (qi_of H)
    · replace H := ite_p cc H
      refine g_iconst (T_X11_count 11 _ _ _ rfl) ⟨by decide, by decide⟩ ?_
      refine g_goto (tgt := 27) (T_X11_count 12 _ _ _ rfl) (by decide) ?_
      exact g_iret (T_X11_count 15 _ _ _ rfl) rfl (qi_of H)
