/-! by program: the methods as functions, and the walks that show it -/
def O_X3_readTest (N : Nat) (rc : Int → Hp → Option (Hp)) (x2 : Int) (h : Hp) : Option (Hp) :=
  bd (F_X10_sees N 33 h) fun y2 h1 =>
  if y2 = 0 then
    bd (F_X10_sees N 40 h1) fun y4 h3 =>
    if y4 = 0 then
      bv (F_X3_readComparison N x2 h3) fun h5 =>
      some h5
    else
    bd (F_X3_opens N x2 h3) fun y7 h6 =>
    if y7 = 0 then
      some h6
    else
    bv (F_X3_readChoice N rc (w32 (x2 + 1)) h6) fun h8 =>
    bv (F_X10_need N 41 h8) fun h9 =>
    some h9
  else
  bv (F_X3_readNegation N rc x2 h1) fun h10 =>
  some h10
set_option maxRecDepth 100000 in
set_option maxHeartbeats 4000000 in
theorem RO_X3_readTest (N : Nat) (rc : Int → Hp → Option (Hp)) (dr : Nat) (hrc : ∀ (a0 : Int) (h : Hp) (res : Hp), rc a0 h = some res → Runs M_X3_readTest dr [.inr 44, .inr 42, .inl a0] h (Qv res)) (x2 : Int) (h : Hp) (res : Hp) (H : O_X3_readTest N rc x2 h = some res) : Runs M_X3_readTest (dr + 91) [.inr 44, .inr 42, .inl x2] h (Qv res) := by
  refine Runs.of rfl (Nat.le_of_ble_eq_true rfl) ?_
  show Go M_X3_readTest (dr + 91) 0 [some (.inr 44), some (.inr 42), some (.inl x2)] [] h (Qv res)
  unfold O_X3_readTest at H
  refine g_aload_n (T_X3_readTest 0 _ _ _ rfl) rfl ?_
  refine g_bipush (T_X3_readTest 1 _ _ _ rfl) (by decide) ?_
  obtain ⟨y2, h1, hq, H⟩ := bd_some H
  refine g_callVi (M' := M_X10_sees) (c := 41) (av := [.inl 33]) (st := []) (T_X3_readTest 2 _ _ _ rfl) ml_X3_71 cb_X10_sees rfl rfl (Nat.le_of_ble_eq_true rfl) (by omega) (R_X10_sees N _ _ _ hq) ?_
  refine g_if_eq (tgt := 18) (T_X3_readTest 3 _ _ _ rfl) (by decide) (fun cc => ?_) (fun cc => ?_)
  · replace H := ite_p cc H
    refine g_aload_n (T_X3_readTest 9 _ _ _ rfl) rfl ?_
    refine g_bipush (T_X3_readTest 10 _ _ _ rfl) (by decide) ?_
    obtain ⟨y4, h3, hq, H⟩ := bd_some H
    refine g_callVi (M' := M_X10_sees) (c := 41) (av := [.inl 40]) (st := []) (T_X3_readTest 11 _ _ _ rfl) ml_X3_71 cb_X10_sees rfl rfl (Nat.le_of_ble_eq_true rfl) (by omega) (R_X10_sees N _ _ _ hq) ?_
    refine g_if_eq (tgt := 53) (T_X3_readTest 12 _ _ _ rfl) (by decide) (fun cc => ?_) (fun cc => ?_)
    · replace H := ite_p cc H
      refine g_aload_n (T_X3_readTest 28 _ _ _ rfl) rfl ?_
      refine g_aload_n (T_X3_readTest 29 _ _ _ rfl) rfl ?_
      refine g_iload_n (T_X3_readTest 30 _ _ _ rfl) rfl ?_
      obtain ⟨h5, hq, H⟩ := bv_some H
      refine g_callVv (M' := M_X3_readComparison) (c := 43) (av := [.inr 42, .inl x2]) (st := []) (T_X3_readTest 31 _ _ _ rfl) ml_X3_119 cb_X3_readComparison rfl rfl (Nat.le_of_ble_eq_true rfl) (by omega) (R_X3_readComparison N _ _ _ hq) ?_
      exact g_vret (T_X3_readTest 32 _ _ _ rfl) rfl (qv_of H)
    · replace H := ite_n cc H
      refine g_aload_n (T_X3_readTest 13 _ _ _ rfl) rfl ?_
      refine g_aload_n (T_X3_readTest 14 _ _ _ rfl) rfl ?_
      refine g_iload_n (T_X3_readTest 15 _ _ _ rfl) rfl ?_
      obtain ⟨y7, h6, hq, H⟩ := bd_some H
      refine g_callVi (M' := M_X3_opens) (c := 43) (av := [.inr 42, .inl x2]) (st := []) (T_X3_readTest 16 _ _ _ rfl) ml_X3_86 cb_X3_opens rfl rfl (Nat.le_of_ble_eq_true rfl) (by omega) (R_X3_opens N _ _ _ hq) ?_
      refine g_if_eq (tgt := 59) (T_X3_readTest 17 _ _ _ rfl) (by decide) (fun cc => ?_) (fun cc => ?_)
      · replace H := ite_p cc H
        exact g_vret (T_X3_readTest 32 _ _ _ rfl) rfl (qv_of H)
      · replace H := ite_n cc H
        refine g_aload_n (T_X3_readTest 18 _ _ _ rfl) rfl ?_
        refine g_aload_n (T_X3_readTest 19 _ _ _ rfl) rfl ?_
        refine g_iload_n (T_X3_readTest 20 _ _ _ rfl) rfl ?_
        refine g_iconst (T_X3_readTest 21 _ _ _ rfl) ⟨by decide, by decide⟩ ?_
        refine g_iadd (T_X3_readTest 22 _ _ _ rfl) ?_
        obtain ⟨h8, hq, H⟩ := bv_some H
        refine g_callVv (M' := M_X3_readChoice) (c := 43) (av := [.inr 42, .inl (w32 (x2 + 1))]) (st := []) (T_X3_readTest 23 _ _ _ rfl) ml_X3_61 cb_X3_readChoice rfl rfl (Nat.le_of_ble_eq_true rfl) (by omega) (R_X3_readChoice N rc dr hrc _ _ _ hq) ?_
        refine g_aload_n (T_X3_readTest 24 _ _ _ rfl) rfl ?_
        refine g_bipush (T_X3_readTest 25 _ _ _ rfl) (by decide) ?_
        obtain ⟨h9, hq, H⟩ := bv_some H
        refine g_callVv (M' := M_X10_need) (c := 41) (av := [.inl 41]) (st := []) (T_X3_readTest 26 _ _ _ rfl) ml_X3_34 cb_X10_need rfl rfl (Nat.le_of_ble_eq_true rfl) (by omega) (R_X10_need N _ _ _ hq) ?_
        refine g_goto (tgt := 59) (T_X3_readTest 27 _ _ _ rfl) (by decide) ?_
        exact g_vret (T_X3_readTest 32 _ _ _ rfl) rfl (qv_of H)
  · replace H := ite_n cc H
    refine g_aload_n (T_X3_readTest 4 _ _ _ rfl) rfl ?_
    refine g_aload_n (T_X3_readTest 5 _ _ _ rfl) rfl ?_
    refine g_iload_n (T_X3_readTest 6 _ _ _ rfl) rfl ?_
    obtain ⟨h10, hq, H⟩ := bv_some H
    refine g_callVv (M' := M_X3_readNegation) (c := 43) (av := [.inr 42, .inl x2]) (st := []) (T_X3_readTest 7 _ _ _ rfl) ml_X3_116 cb_X3_readNegation rfl rfl (Nat.le_of_ble_eq_true rfl) (by omega) (R_X3_readNegation N rc dr hrc _ _ _ hq) ?_
    refine g_goto (tgt := 59) (T_X3_readTest 8 _ _ _ rfl) (by decide) ?_
    exact g_vret (T_X3_readTest 32 _ _ _ rfl) rfl (qv_of H)
def F_X3_readTest (N : Nat) : Nat → Int → Hp → Option (Hp)
  | 0, _, _ => none
  | D + 1, x2, h => O_X3_readTest N (F_X3_readTest N D) x2 h
set_option maxRecDepth 100000 in
set_option maxHeartbeats 4000000 in
theorem R_X3_readTest (N : Nat) : ∀ (D : Nat) (x2 : Int) (h : Hp) (res : Hp), F_X3_readTest N D x2 h = some res → Runs M_X3_readTest (91 * D + 1) [.inr 44, .inr 42, .inl x2] h (Qv res)
  | 0, _, _, _, H => by cases H
  | D + 1, x2, h, res, H => by
    simp only [F_X3_readTest] at H
    have e : 91 * (D + 1) + 1 = 91 * D + 1 + 91 := by omega
    rw [e]
    exact RO_X3_readTest N (F_X3_readTest N D) (91 * D + 1) (R_X3_readTest N D) _ _ _ H
def F_X2_addClause (N : Nat) (x1 : Int) (x2 : Int) (x3 : Int) (h : Hp) : Option (Hp) :=
  if 16 ≤ (h 44 4) then
    some h
  else
  grd (0 ≤ (h 44 4) ∧ (h 44 4) < 16) <|
  bnd (hw h 45 (h 44 4).toNat x1) fun h1 =>
  grd (0 ≤ (h1 44 4) ∧ (h1 44 4) < 16) <|
  bnd (hw h1 46 (h1 44 4).toNat x2) fun h2 =>
  grd (0 ≤ (h2 44 4) ∧ (h2 44 4) < 16) <|
  bnd (hw h2 47 (h2 44 4).toNat x3) fun h3 =>
  grd (0 ≤ (h3 44 4) ∧ (h3 44 4) < 16) <|
  bnd (hw h3 48 (h3 44 4).toNat (h3 44 7)) fun h4 =>
  bnd (hw h4 44 4 (w32 ((h4 44 4) + 1))) fun h5 =>
  some h5
set_option maxRecDepth 100000 in
set_option maxHeartbeats 4000000 in
theorem R_X2_addClause (N : Nat) (x1 : Int) (x2 : Int) (x3 : Int) (h : Hp) (res : Hp) (H : F_X2_addClause N x1 x2 x3 h = some res) : Runs M_X2_addClause 1 [.inr 45, .inl x1, .inl x2, .inl x3] h (Qv res) := by
  refine Runs.of rfl (Nat.le_of_ble_eq_true rfl) ?_
  show Go M_X2_addClause 1 0 [some (.inr 45), some (.inl x1), some (.inl x2), some (.inl x3)] [] h (Qv res)
  unfold F_X2_addClause at H
  refine g_aload_n (T_X2_addClause 0 _ _ _ rfl) rfl ?_
  refine g_getI (c := 44) (T_X2_addClause 1 _ _ _ rfl) fl_X2_36 rfl (Or.inl rfl) ?_
  refine g_bipush (T_X2_addClause 2 _ _ _ rfl) (by decide) ?_
  refine g_icmp_ge (tgt := 62) (T_X2_addClause 3 _ _ _ rfl) (by decide) (fun cc => ?_) (fun cc => ?_)
  · replace H := ite_p cc H
    exact g_vret (T_X2_addClause 35 _ _ _ rfl) rfl (qv_of H)
  · replace H := ite_n cc H
    refine g_aload_n (T_X2_addClause 4 _ _ _ rfl) rfl ?_
    refine g_getR (c := 44) (r := 46) (T_X2_addClause 5 _ _ _ rfl) fl_X2_9 rfl (nR rfl) rfl (by decide) ?_
    refine g_aload_n (T_X2_addClause 6 _ _ _ rfl) rfl ?_
    refine g_getI (c := 44) (T_X2_addClause 7 _ _ _ rfl) fl_X2_36 rfl (Or.inl rfl) ?_
    refine g_iload_n (T_X2_addClause 8 _ _ _ rfl) rfl ?_
    obtain ⟨hg, H⟩ := grd_some H
    refine g_iast (c := 45) (T_X2_addClause 9 _ _ _ rfl) rfl hg ?_
    refine g_bndH H fun h1 H => ?_
    refine g_aload_n (T_X2_addClause 10 _ _ _ rfl) rfl ?_
    refine g_getR (c := 44) (r := 47) (T_X2_addClause 11 _ _ _ rfl) fl_X2_15 rfl (nR rfl) rfl (by decide) ?_
    refine g_aload_n (T_X2_addClause 12 _ _ _ rfl) rfl ?_
    refine g_getI (c := 44) (T_X2_addClause 13 _ _ _ rfl) fl_X2_36 rfl (Or.inl rfl) ?_
    refine g_iload_n (T_X2_addClause 14 _ _ _ rfl) rfl ?_
    obtain ⟨hg, H⟩ := grd_some H
    refine g_iast (c := 46) (T_X2_addClause 15 _ _ _ rfl) rfl hg ?_
    refine g_bndH H fun h2 H => ?_
    refine g_aload_n (T_X2_addClause 16 _ _ _ rfl) rfl ?_
    refine g_getR (c := 44) (r := 48) (T_X2_addClause 17 _ _ _ rfl) fl_X2_18 rfl (nR rfl) rfl (by decide) ?_
    refine g_aload_n (T_X2_addClause 18 _ _ _ rfl) rfl ?_
    refine g_getI (c := 44) (T_X2_addClause 19 _ _ _ rfl) fl_X2_36 rfl (Or.inl rfl) ?_
    refine g_iload_n (T_X2_addClause 20 _ _ _ rfl) rfl ?_
    obtain ⟨hg, H⟩ := grd_some H
    refine g_iast (c := 47) (T_X2_addClause 21 _ _ _ rfl) rfl hg ?_
    refine g_bndH H fun h3 H => ?_
    refine g_aload_n (T_X2_addClause 22 _ _ _ rfl) rfl ?_
    refine g_getR (c := 44) (r := 49) (T_X2_addClause 23 _ _ _ rfl) fl_X2_21 rfl (nR rfl) rfl (by decide) ?_
    refine g_aload_n (T_X2_addClause 24 _ _ _ rfl) rfl ?_
    refine g_getI (c := 44) (T_X2_addClause 25 _ _ _ rfl) fl_X2_36 rfl (Or.inl rfl) ?_
    refine g_aload_n (T_X2_addClause 26 _ _ _ rfl) rfl ?_
    refine g_getI (c := 44) (T_X2_addClause 27 _ _ _ rfl) fl_X2_40 rfl (Or.inl rfl) ?_
    obtain ⟨hg, H⟩ := grd_some H
    refine g_iast (c := 48) (T_X2_addClause 28 _ _ _ rfl) rfl hg ?_
    refine g_bndH H fun h4 H => ?_
    refine g_aload_n (T_X2_addClause 29 _ _ _ rfl) rfl ?_
    refine g_dup (T_X2_addClause 30 _ _ _ rfl) ?_
    refine g_getI (c := 44) (T_X2_addClause 31 _ _ _ rfl) fl_X2_36 rfl (Or.inl rfl) ?_
    refine g_iconst (T_X2_addClause 32 _ _ _ rfl) ⟨by decide, by decide⟩ ?_
    refine g_iadd (T_X2_addClause 33 _ _ _ rfl) ?_
    refine g_put (c := 44) (T_X2_addClause 34 _ _ _ rfl) fl_X2_36 rfl (Or.inl rfl) ?_
    refine g_bndH H fun h5 H => ?_
    exact g_vret (T_X2_addClause 35 _ _ _ rfl) rfl (qv_of H)
def J_X3_readClause_54 (N : Nat) (x2 : Int) (h : Hp) : Option (Hp) :=
  bd (F_X10_isSound N h) fun y2 h1 =>
  if y2 = 0 then
    some h1
  else
  bv (F_X10_step N h1) fun h3 =>
  bd (F_X2_length N h3) fun y5 h4 =>
  bv (F_X3_readSum N 8 0 h4) fun h6 =>
  bd (F_X2_length N h6) fun y8 h7 =>
  bv (F_X10_need N 40 h7) fun h9 =>
  bv (F_X3_readChoice N (F_X3_readTest N 8) 1 h9) fun h10 =>
  bv (F_X10_need N 41 h10) fun h11 =>
  bv (F_X2_addClause N x2 y5 y8 h11) fun h12 =>
  some h12
set_option maxRecDepth 100000 in
set_option maxHeartbeats 4000000 in
theorem R_J_X3_readClause_54 (N : Nat) (x2 : Int) (h : Hp) (res : Hp) (H : J_X3_readClause_54 N x2 h = some res) : Go M_X3_readClause 734 54 [some (.inr 44), some (.inr 42), some (.inl x2), none, none] [] h (Qv res) := by
  unfold J_X3_readClause_54 at H
  refine g_aload_n (T_X3_readClause 27 _ _ _ rfl) rfl ?_
  obtain ⟨y2, h1, hq, H⟩ := bd_some H
  refine g_callVi (M' := M_X10_isSound) (c := 41) (av := []) (st := []) (T_X3_readClause 28 _ _ _ rfl) ml_X3_21 cb_X10_isSound rfl rfl (Nat.le_of_ble_eq_true rfl) (by omega) (R_X10_isSound N _ _ hq) ?_
  refine g_if_ne (tgt := 62) (T_X3_readClause 29 _ _ _ rfl) (by decide) (fun cc => ?_) (fun cc => ?_)
  · replace H := ite_n cc H
    refine g_aload_n (T_X3_readClause 31 _ _ _ rfl) rfl ?_
    obtain ⟨h3, hq, H⟩ := bv_some H
    refine g_callVv (M' := M_X10_step) (c := 41) (av := []) (st := []) (T_X3_readClause 32 _ _ _ rfl) ml_X3_51 cb_X10_step rfl rfl (Nat.le_of_ble_eq_true rfl) (by omega) (R_X10_step N _ _ hq) ?_
    refine g_aload_n (T_X3_readClause 33 _ _ _ rfl) rfl ?_
    refine g_getR (c := 43) (r := 45) (T_X3_readClause 34 _ _ _ rfl) fl_X3_12 rfl (nR rfl) rfl (by decide) ?_
    obtain ⟨y5, h4, hq, H⟩ := bd_some H
    refine g_callVi (M' := M_X2_length) (c := 44) (av := []) (st := []) (T_X3_readClause 35 _ _ _ rfl) ml_X3_54 cb_X2_length rfl rfl (Nat.le_of_ble_eq_true rfl) (by omega) (R_X2_length N _ _ hq) ?_
    refine g_istore_n (T_X3_readClause 36 _ _ _ rfl) (by decide) ?_
    refine g_aload_n (T_X3_readClause 37 _ _ _ rfl) rfl ?_
    refine g_aload_n (T_X3_readClause 38 _ _ _ rfl) rfl ?_
    refine g_iconst (T_X3_readClause 39 _ _ _ rfl) ⟨by decide, by decide⟩ ?_
    obtain ⟨h6, hq, H⟩ := bv_some H
    refine g_callVv (M' := M_X3_readSum) (c := 43) (av := [.inr 42, .inl 0]) (st := []) (T_X3_readClause 40 _ _ _ rfl) ml_X3_57 cb_X3_readSum rfl rfl (Nat.le_of_ble_eq_true rfl) (by omega) (R_X3_readSum N  8 _ _ _ hq) ?_
    refine g_aload_n (T_X3_readClause 41 _ _ _ rfl) rfl ?_
    refine g_getR (c := 43) (r := 45) (T_X3_readClause 42 _ _ _ rfl) fl_X3_12 rfl (nR rfl) rfl (by decide) ?_
    obtain ⟨y8, h7, hq, H⟩ := bd_some H
    refine g_callVi (M' := M_X2_length) (c := 44) (av := []) (st := []) (T_X3_readClause 43 _ _ _ rfl) ml_X3_54 cb_X2_length rfl rfl (Nat.le_of_ble_eq_true rfl) (by omega) (R_X2_length N _ _ hq) ?_
    refine g_istore (T_X3_readClause 44 _ _ _ rfl) (by decide) ?_
    refine g_aload_n (T_X3_readClause 45 _ _ _ rfl) rfl ?_
    refine g_bipush (T_X3_readClause 46 _ _ _ rfl) (by decide) ?_
    obtain ⟨h9, hq, H⟩ := bv_some H
    refine g_callVv (M' := M_X10_need) (c := 41) (av := [.inl 40]) (st := []) (T_X3_readClause 47 _ _ _ rfl) ml_X3_34 cb_X10_need rfl rfl (Nat.le_of_ble_eq_true rfl) (by omega) (R_X10_need N _ _ _ hq) ?_
    refine g_aload_n (T_X3_readClause 48 _ _ _ rfl) rfl ?_
    refine g_aload_n (T_X3_readClause 49 _ _ _ rfl) rfl ?_
    refine g_iconst (T_X3_readClause 50 _ _ _ rfl) ⟨by decide, by decide⟩ ?_
    obtain ⟨h10, hq, H⟩ := bv_some H
    refine g_callVv (M' := M_X3_readChoice) (c := 43) (av := [.inr 42, .inl 1]) (st := []) (T_X3_readClause 51 _ _ _ rfl) ml_X3_61 cb_X3_readChoice rfl rfl (Nat.le_of_ble_eq_true rfl) (by omega) (R_X3_readChoice N (F_X3_readTest N 8) (729) (R_X3_readTest N 8) _ _ _ hq) ?_
    refine g_aload_n (T_X3_readClause 52 _ _ _ rfl) rfl ?_
    refine g_bipush (T_X3_readClause 53 _ _ _ rfl) (by decide) ?_
    obtain ⟨h11, hq, H⟩ := bv_some H
    refine g_callVv (M' := M_X10_need) (c := 41) (av := [.inl 41]) (st := []) (T_X3_readClause 54 _ _ _ rfl) ml_X3_34 cb_X10_need rfl rfl (Nat.le_of_ble_eq_true rfl) (by omega) (R_X10_need N _ _ _ hq) ?_
    refine g_aload_n (T_X3_readClause 55 _ _ _ rfl) rfl ?_
    refine g_getR (c := 43) (r := 45) (T_X3_readClause 56 _ _ _ rfl) fl_X3_12 rfl (nR rfl) rfl (by decide) ?_
    refine g_iload_n (T_X3_readClause 57 _ _ _ rfl) rfl ?_
    refine g_iload_n (T_X3_readClause 58 _ _ _ rfl) rfl ?_
    refine g_iload (T_X3_readClause 59 _ _ _ rfl) rfl ?_
    obtain ⟨h12, hq, H⟩ := bv_some H
    refine g_callVv (M' := M_X2_addClause) (c := 44) (av := [.inl x2, .inl y5, .inl y8]) (st := []) (T_X3_readClause 60 _ _ _ rfl) ml_X3_64 cb_X2_addClause rfl rfl (Nat.le_of_ble_eq_true rfl) (by omega) (R_X2_addClause N _ _ _ _ _ hq) ?_
    exact g_vret (T_X3_readClause 61 _ _ _ rfl) rfl (qv_of H)
  · replace H := ite_p cc H
    exact g_vret (T_X3_readClause 30 _ _ _ rfl) rfl (qv_of H)
def J_X3_readClause_37 (N : Nat) (x2 : Int) (h : Hp) : Option (Hp) :=
  bd (F_X2_clauses N h) fun y2 h1 =>
  if y2 < 16 then
    J_X3_readClause_54 N  x2 h1
  else
  bv (F_X10_fail N 4 h1) fun h3 =>
  J_X3_readClause_54 N  x2 h3
set_option maxRecDepth 100000 in
set_option maxHeartbeats 4000000 in
theorem R_J_X3_readClause_37 (N : Nat) (x2 : Int) (h : Hp) (res : Hp) (H : J_X3_readClause_37 N x2 h = some res) : Go M_X3_readClause 734 37 [some (.inr 44), some (.inr 42), some (.inl x2), none, none] [] h (Qv res) := by
  unfold J_X3_readClause_37 at H
  refine g_aload_n (T_X3_readClause 19 _ _ _ rfl) rfl ?_
  refine g_getR (c := 43) (r := 45) (T_X3_readClause 20 _ _ _ rfl) fl_X3_12 rfl (nR rfl) rfl (by decide) ?_
  obtain ⟨y2, h1, hq, H⟩ := bd_some H
  refine g_callVi (M' := M_X2_clauses) (c := 44) (av := []) (st := []) (T_X3_readClause 21 _ _ _ rfl) ml_X3_38 cb_X2_clauses rfl rfl (Nat.le_of_ble_eq_true rfl) (by omega) (R_X2_clauses N _ _ hq) ?_
  refine g_bipush (T_X3_readClause 22 _ _ _ rfl) (by decide) ?_
  refine g_icmp_lt (tgt := 54) (T_X3_readClause 23 _ _ _ rfl) (by decide) (fun cc => ?_) (fun cc => ?_)
  · replace H := ite_p cc H
    refine g_weak [true, true, true, false, false] ?_
    exact R_J_X3_readClause_54 N   _ _ _ H
  · replace H := ite_n cc H
    refine g_aload_n (T_X3_readClause 24 _ _ _ rfl) rfl ?_
    refine g_iconst (T_X3_readClause 25 _ _ _ rfl) ⟨by decide, by decide⟩ ?_
    obtain ⟨h3, hq, H⟩ := bv_some H
    refine g_callVv (M' := M_X10_fail) (c := 41) (av := [.inl 4]) (st := []) (T_X3_readClause 26 _ _ _ rfl) ml_X3_48 cb_X10_fail rfl rfl (Nat.le_of_ble_eq_true rfl) (by omega) (R_X10_fail N _ _ _ hq) ?_
    refine g_weak [true, true, true, false, false] ?_
    exact R_J_X3_readClause_54 N   _ _ _ H
def F_X3_readClause (N : Nat) (h : Hp) : Option (Hp) :=
  bd (F_X10_sign N h) fun y2 h1 =>
  if y2 = 119 then
    J_X3_readClause_37 N  y2 h1
  else
  if y2 = 99 then
    J_X3_readClause_37 N  y2 h1
  else
  if y2 = 115 then
    J_X3_readClause_37 N  y2 h1
  else
  if y2 = 117 then
    J_X3_readClause_37 N  y2 h1
  else
  bv (F_X10_fail N 1 h1) fun h3 =>
  J_X3_readClause_54 N  y2 h3
set_option maxRecDepth 100000 in
set_option maxHeartbeats 4000000 in
theorem R_X3_readClause (N : Nat) (h : Hp) (res : Hp) (H : F_X3_readClause N h = some res) : Runs M_X3_readClause 734 [.inr 44, .inr 42] h (Qv res) := by
  refine Runs.of rfl (Nat.le_of_ble_eq_true rfl) ?_
  show Go M_X3_readClause 734 0 [some (.inr 44), some (.inr 42), none, none, none] [] h (Qv res)
  unfold F_X3_readClause at H
  refine g_aload_n (T_X3_readClause 0 _ _ _ rfl) rfl ?_
  obtain ⟨y2, h1, hq, H⟩ := bd_some H
  refine g_callVi (M' := M_X10_sign) (c := 41) (av := []) (st := []) (T_X3_readClause 1 _ _ _ rfl) ml_X3_45 cb_X10_sign rfl rfl (Nat.le_of_ble_eq_true rfl) (by omega) (R_X10_sign N _ _ hq) ?_
  refine g_istore_n (T_X3_readClause 2 _ _ _ rfl) (by decide) ?_
  refine g_iload_n (T_X3_readClause 3 _ _ _ rfl) rfl ?_
  refine g_bipush (T_X3_readClause 4 _ _ _ rfl) (by decide) ?_
  refine g_icmp_eq (tgt := 37) (T_X3_readClause 5 _ _ _ rfl) (by decide) (fun cc => ?_) (fun cc => ?_)
  · replace H := ite_p cc H
    refine g_weak [true, true, true, false, false] ?_
    exact R_J_X3_readClause_37 N   _ _ _ H
  · replace H := ite_n cc H
    refine g_iload_n (T_X3_readClause 6 _ _ _ rfl) rfl ?_
    refine g_bipush (T_X3_readClause 7 _ _ _ rfl) (by decide) ?_
    refine g_icmp_eq (tgt := 37) (T_X3_readClause 8 _ _ _ rfl) (by decide) (fun cc => ?_) (fun cc => ?_)
    · replace H := ite_p cc H
      refine g_weak [true, true, true, false, false] ?_
      exact R_J_X3_readClause_37 N   _ _ _ H
    · replace H := ite_n cc H
      refine g_iload_n (T_X3_readClause 9 _ _ _ rfl) rfl ?_
      refine g_bipush (T_X3_readClause 10 _ _ _ rfl) (by decide) ?_
      refine g_icmp_eq (tgt := 37) (T_X3_readClause 11 _ _ _ rfl) (by decide) (fun cc => ?_) (fun cc => ?_)
      · replace H := ite_p cc H
        refine g_weak [true, true, true, false, false] ?_
        exact R_J_X3_readClause_37 N   _ _ _ H
      · replace H := ite_n cc H
        refine g_iload_n (T_X3_readClause 12 _ _ _ rfl) rfl ?_
        refine g_bipush (T_X3_readClause 13 _ _ _ rfl) (by decide) ?_
        refine g_icmp_eq (tgt := 37) (T_X3_readClause 14 _ _ _ rfl) (by decide) (fun cc => ?_) (fun cc => ?_)
        · replace H := ite_p cc H
          refine g_weak [true, true, true, false, false] ?_
          exact R_J_X3_readClause_37 N   _ _ _ H
        · replace H := ite_n cc H
          refine g_aload_n (T_X3_readClause 15 _ _ _ rfl) rfl ?_
          refine g_iconst (T_X3_readClause 16 _ _ _ rfl) ⟨by decide, by decide⟩ ?_
          obtain ⟨h3, hq, H⟩ := bv_some H
          refine g_callVv (M' := M_X10_fail) (c := 41) (av := [.inl 1]) (st := []) (T_X3_readClause 17 _ _ _ rfl) ml_X3_48 cb_X10_fail rfl rfl (Nat.le_of_ble_eq_true rfl) (by omega) (R_X10_fail N _ _ _ hq) ?_
          refine g_goto (tgt := 54) (T_X3_readClause 18 _ _ _ rfl) (by decide) ?_
          refine g_weak [true, true, true, false, false] ?_
          exact R_J_X3_readClause_54 N   _ _ _ H
def J_X3_read_49 (N : Nat) (h : Hp) : Option (Int × Hp) :=
  bd (F_X10_isSound N h) fun y2 h1 =>
  if y2 = 0 then
    bd (F_X10_fault N h1) fun y4 h3 =>
    some (y4, h3)
  else
  bd (F_X2_clauses N h1) fun y6 h5 =>
  some (y6, h5)
set_option maxRecDepth 100000 in
set_option maxHeartbeats 4000000 in
theorem R_J_X3_read_49 (N : Nat) (h : Hp) (res : Int × Hp) (H : J_X3_read_49 N h = some res) : Go M_X3_read 735 49 [some (.inr 44), some (.inr 42), none] [] h (Qi res) := by
  unfold J_X3_read_49 at H
  refine g_aload_n (T_X3_read 23 _ _ _ rfl) rfl ?_
  obtain ⟨y2, h1, hq, H⟩ := bd_some H
  refine g_callVi (M' := M_X10_isSound) (c := 41) (av := []) (st := []) (T_X3_read 24 _ _ _ rfl) ml_X3_21 cb_X10_isSound rfl rfl (Nat.le_of_ble_eq_true rfl) (by omega) (R_X10_isSound N _ _ hq) ?_
  refine g_if_eq (tgt := 66) (T_X3_read 25 _ _ _ rfl) (by decide) (fun cc => ?_) (fun cc => ?_)
  · replace H := ite_p cc H
    refine g_aload_n (T_X3_read 30 _ _ _ rfl) rfl ?_
    obtain ⟨y4, h3, hq, H⟩ := bd_some H
    refine g_callVi (M' := M_X10_fault) (c := 41) (av := []) (st := []) (T_X3_read 31 _ _ _ rfl) ml_X3_42 cb_X10_fault rfl rfl (Nat.le_of_ble_eq_true rfl) (by omega) (R_X10_fault N _ _ hq) ?_
    exact g_iret (T_X3_read 32 _ _ _ rfl) rfl (qi_of H)
  · replace H := ite_n cc H
    refine g_aload_n (T_X3_read 26 _ _ _ rfl) rfl ?_
    refine g_getR (c := 43) (r := 45) (T_X3_read 27 _ _ _ rfl) fl_X3_12 rfl (nR rfl) rfl (by decide) ?_
    obtain ⟨y6, h5, hq, H⟩ := bd_some H
    refine g_callVi (M' := M_X2_clauses) (c := 44) (av := []) (st := []) (T_X3_read 28 _ _ _ rfl) ml_X3_38 cb_X2_clauses rfl rfl (Nat.le_of_ble_eq_true rfl) (by omega) (R_X2_clauses N _ _ hq) ?_
    refine g_goto (tgt := 70) (T_X3_read 29 _ _ _ rfl) (by decide) ?_
    exact g_iret (T_X3_read 32 _ _ _ rfl) rfl (qi_of H)
def L_X3_read_9 (N : Nat) : Nat → Int → Hp → Option (Int × Hp)
  | 0, _, _ => none
  | n + 1, x2, h =>
    if 16 < x2 then
      J_X3_read_49 N  h
    else
    bd (F_X10_isSound N h) fun y2 h1 =>
    if y2 = 0 then
      J_X3_read_49 N  h1
    else
    bv (F_X3_readClause N h1) fun h3 =>
    bd (F_X10_isAtEnd N h3) fun y5 h4 =>
    if y5 = 0 then
      bv (F_X10_need N 59 h4) fun h6 =>
      bnd (w32 (x2 + 1)) fun y7 =>
      (L_X3_read_9 N n) y7 h6
    else
    J_X3_read_49 N  h4
set_option maxRecDepth 100000 in
set_option maxHeartbeats 4000000 in
theorem R_L_X3_read_9 (N : Nat) : ∀ (n : Nat) (x2 : Int) (h : Hp) (res : Int × Hp), L_X3_read_9 N n x2 h = some res → Go M_X3_read 735 9 [some (.inr 44), some (.inr 42), some (.inl x2)] [] h (Qi res)
  | 0, _, _, _, H => by cases H
  | n + 1, x2, h, res, H => by
    have ih := R_L_X3_read_9 N n
    simp only [L_X3_read_9] at H
    refine g_iload_n (T_X3_read 5 _ _ _ rfl) rfl ?_
    refine g_bipush (T_X3_read 6 _ _ _ rfl) (by decide) ?_
    refine g_icmp_gt (tgt := 49) (T_X3_read 7 _ _ _ rfl) (by decide) (fun cc => ?_) (fun cc => ?_)
    · replace H := ite_p cc H
      refine g_weak [true, true, false] ?_
      exact R_J_X3_read_49 N   _ _ H
    · replace H := ite_n cc H
      refine g_aload_n (T_X3_read 8 _ _ _ rfl) rfl ?_
      obtain ⟨y2, h1, hq, H⟩ := bd_some H
      refine g_callVi (M' := M_X10_isSound) (c := 41) (av := []) (st := []) (T_X3_read 9 _ _ _ rfl) ml_X3_21 cb_X10_isSound rfl rfl (Nat.le_of_ble_eq_true rfl) (by omega) (R_X10_isSound N _ _ hq) ?_
      refine g_if_eq (tgt := 49) (T_X3_read 10 _ _ _ rfl) (by decide) (fun cc => ?_) (fun cc => ?_)
      · replace H := ite_p cc H
        refine g_weak [true, true, false] ?_
        exact R_J_X3_read_49 N   _ _ H
      · replace H := ite_n cc H
        refine g_aload_n (T_X3_read 11 _ _ _ rfl) rfl ?_
        refine g_aload_n (T_X3_read 12 _ _ _ rfl) rfl ?_
        obtain ⟨h3, hq, H⟩ := bv_some H
        refine g_callVv (M' := M_X3_readClause) (c := 43) (av := [.inr 42]) (st := []) (T_X3_read 13 _ _ _ rfl) ml_X3_27 cb_X3_readClause rfl rfl (Nat.le_of_ble_eq_true rfl) (by omega) (R_X3_readClause N _ _ hq) ?_
        refine g_aload_n (T_X3_read 14 _ _ _ rfl) rfl ?_
        obtain ⟨y5, h4, hq, H⟩ := bd_some H
        refine g_callVi (M' := M_X10_isAtEnd) (c := 41) (av := []) (st := []) (T_X3_read 15 _ _ _ rfl) ml_X3_31 cb_X10_isAtEnd rfl rfl (Nat.le_of_ble_eq_true rfl) (by omega) (R_X10_isAtEnd N _ _ hq) ?_
        refine g_if_eq (tgt := 37) (T_X3_read 16 _ _ _ rfl) (by decide) (fun cc => ?_) (fun cc => ?_)
        · replace H := ite_p cc H
          refine g_aload_n (T_X3_read 18 _ _ _ rfl) rfl ?_
          refine g_bipush (T_X3_read 19 _ _ _ rfl) (by decide) ?_
          obtain ⟨h6, hq, H⟩ := bv_some H
          refine g_callVv (M' := M_X10_need) (c := 41) (av := [.inl 59]) (st := []) (T_X3_read 20 _ _ _ rfl) ml_X3_34 cb_X10_need rfl rfl (Nat.le_of_ble_eq_true rfl) (by omega) (R_X10_need N _ _ _ hq) ?_
          refine g_iincB (T_X3_read 21 _ _ _ rfl) rfl (by decide) H fun y7 H => ?_
          refine g_goto (tgt := 9) (T_X3_read 22 _ _ _ rfl) (by decide) ?_
          refine g_weak [true, true, true] ?_
          exact ih _ _ _ H
        · replace H := ite_n cc H
          refine g_goto (tgt := 49) (T_X3_read 17 _ _ _ rfl) (by decide) ?_
          refine g_weak [true, true, false] ?_
          exact R_J_X3_read_49 N   _ _ H
def F_X3_read (N : Nat) (h : Hp) : Option (Int × Hp) :=
  bv (F_X2_clear N h) fun h1 =>
  L_X3_read_9 N  N 0 h1
set_option maxRecDepth 100000 in
set_option maxHeartbeats 4000000 in
theorem R_X3_read (N : Nat) (h : Hp) (res : Int × Hp) (H : F_X3_read N h = some res) : Runs M_X3_read 735 [.inr 44, .inr 42] h (Qi res) := by
  refine Runs.of rfl (Nat.le_of_ble_eq_true rfl) ?_
  show Go M_X3_read 735 0 [some (.inr 44), some (.inr 42), none] [] h (Qi res)
  unfold F_X3_read at H
  refine g_aload_n (T_X3_read 0 _ _ _ rfl) rfl ?_
  refine g_getR (c := 43) (r := 45) (T_X3_read 1 _ _ _ rfl) fl_X3_12 rfl (nR rfl) rfl (by decide) ?_
  obtain ⟨h1, hq, H⟩ := bv_some H
  refine g_callVv (M' := M_X2_clear) (c := 44) (av := []) (st := []) (T_X3_read 2 _ _ _ rfl) ml_X3_18 cb_X2_clear rfl rfl (Nat.le_of_ble_eq_true rfl) (by omega) (R_X2_clear N _ _ hq) ?_
  refine g_iconst (T_X3_read 3 _ _ _ rfl) ⟨by decide, by decide⟩ ?_
  refine g_istore_n (T_X3_read 4 _ _ _ rfl) (by decide) ?_
  refine g_weak [true, true, true] ?_
  refine R_L_X3_read_9 N   _ _ _ _ H
def F_X10_clear (N : Nat) (h : Hp) : Option (Hp) :=
  bnd (hw h 41 1 0) fun h1 =>
  some h1
set_option maxRecDepth 100000 in
set_option maxHeartbeats 4000000 in
theorem R_X10_clear (N : Nat) (h : Hp) (res : Hp) (H : F_X10_clear N h = some res) : Runs M_X10_clear 1 [.inr 42] h (Qv res) := by
  refine Runs.of rfl (Nat.le_of_ble_eq_true rfl) ?_
  show Go M_X10_clear 1 0 [some (.inr 42)] [] h (Qv res)
  unfold F_X10_clear at H
  refine g_aload_n (T_X10_clear 0 _ _ _ rfl) rfl ?_
  refine g_iconst (T_X10_clear 1 _ _ _ rfl) ⟨by decide, by decide⟩ ?_
  refine g_put (c := 41) (T_X10_clear 2 _ _ _ rfl) fl_X10_15 rfl (Or.inl rfl) ?_
  refine g_bndH H fun h1 H => ?_
  exact g_vret (T_X10_clear 3 _ _ _ rfl) rfl (qv_of H)
def F_X3_fresh (N : Nat) (h : Hp) : Option (Nat × Hp) :=
  some (45, h)
set_option maxRecDepth 100000 in
set_option maxHeartbeats 4000000 in
theorem R_X3_fresh (N : Nat) (h : Hp) (res : Nat × Hp) (H : F_X3_fresh N h = some res) : Runs M_X3_fresh 1 [.inr 44] h (Qr res) := by
  refine Runs.of rfl (Nat.le_of_ble_eq_true rfl) ?_
  show Go M_X3_fresh 1 0 [some (.inr 44)] [] h (Qr res)
  unfold F_X3_fresh at H
  refine g_aload_n (T_X3_fresh 0 _ _ _ rfl) rfl ?_
  refine g_getR (c := 43) (r := 45) (T_X3_fresh 1 _ _ _ rfl) fl_X3_12 rfl (nR rfl) rfl (by decide) ?_
  exact g_aret (T_X3_fresh 2 _ _ _ rfl) rfl (qr_of H)
def F_X2_takeOver (N : Nat) (h : Hp) : Option (Hp) :=
  bnd (hw h 11 4 (h 44 4)) fun h1 =>
  bnd (hw h1 11 7 (h1 44 7)) fun h2 =>
  bnd (hcp h2 45 (0 : Int).toNat 12 (0 : Int).toNat (16 : Int).toNat) fun h3 =>
  bnd (hcp h3 46 (0 : Int).toNat 13 (0 : Int).toNat (16 : Int).toNat) fun h4 =>
  bnd (hcp h4 47 (0 : Int).toNat 14 (0 : Int).toNat (16 : Int).toNat) fun h5 =>
  bnd (hcp h5 48 (0 : Int).toNat 15 (0 : Int).toNat (16 : Int).toNat) fun h6 =>
  bnd (hcp h6 49 (0 : Int).toNat 16 (0 : Int).toNat (240 : Int).toNat) fun h7 =>
  bnd (hcp h7 50 (0 : Int).toNat 17 (0 : Int).toNat (240 : Int).toNat) fun h8 =>
  some h8
set_option maxRecDepth 100000 in
set_option maxHeartbeats 4000000 in
theorem R_X2_takeOver (N : Nat) (h : Hp) (res : Hp) (H : F_X2_takeOver N h = some res) : Runs M_X2_takeOver 1 [.inr 12, .inr 45] h (Qv res) := by
  refine Runs.of rfl (Nat.le_of_ble_eq_true rfl) ?_
  show Go M_X2_takeOver 1 0 [some (.inr 12), some (.inr 45)] [] h (Qv res)
  unfold F_X2_takeOver at H
  refine g_aload_n (T_X2_takeOver 0 _ _ _ rfl) rfl ?_
  refine g_aload_n (T_X2_takeOver 1 _ _ _ rfl) rfl ?_
  refine g_getI (c := 44) (T_X2_takeOver 2 _ _ _ rfl) fl_X2_36 rfl (Or.inl rfl) ?_
  refine g_put (c := 11) (T_X2_takeOver 3 _ _ _ rfl) fl_X2_36 rfl (Or.inl rfl) ?_
  refine g_bndH H fun h1 H => ?_
  refine g_aload_n (T_X2_takeOver 4 _ _ _ rfl) rfl ?_
  refine g_aload_n (T_X2_takeOver 5 _ _ _ rfl) rfl ?_
  refine g_getI (c := 44) (T_X2_takeOver 6 _ _ _ rfl) fl_X2_40 rfl (Or.inl rfl) ?_
  refine g_put (c := 11) (T_X2_takeOver 7 _ _ _ rfl) fl_X2_40 rfl (Or.inl rfl) ?_
  refine g_bndH H fun h2 H => ?_
  refine g_aload_n (T_X2_takeOver 8 _ _ _ rfl) rfl ?_
  refine g_getR (c := 44) (r := 46) (T_X2_takeOver 9 _ _ _ rfl) fl_X2_9 rfl (nR rfl) rfl (by decide) ?_
  refine g_iconst (T_X2_takeOver 10 _ _ _ rfl) ⟨by decide, by decide⟩ ?_
  refine g_aload_n (T_X2_takeOver 11 _ _ _ rfl) rfl ?_
  refine g_getR (c := 11) (r := 13) (T_X2_takeOver 12 _ _ _ rfl) fl_X2_9 rfl (nR rfl) rfl (by decide) ?_
  refine g_iconst (T_X2_takeOver 13 _ _ _ rfl) ⟨by decide, by decide⟩ ?_
  refine g_bipush (T_X2_takeOver 14 _ _ _ rfl) (by decide) ?_
  refine g_copy (c0 := 45) (c1 := 12) (n0 := 16) (n1 := 16) (st := []) (T_X2_takeOver 15 _ _ _ rfl) ml_X2_47 wcopy rfl rfl (by decide) (Nat.le_of_ble_eq_true rfl) (by omega) ?_
  refine g_bndH H fun h3 H => ?_
  refine g_aload_n (T_X2_takeOver 16 _ _ _ rfl) rfl ?_
  refine g_getR (c := 44) (r := 47) (T_X2_takeOver 17 _ _ _ rfl) fl_X2_15 rfl (nR rfl) rfl (by decide) ?_
  refine g_iconst (T_X2_takeOver 18 _ _ _ rfl) ⟨by decide, by decide⟩ ?_
  refine g_aload_n (T_X2_takeOver 19 _ _ _ rfl) rfl ?_
  refine g_getR (c := 11) (r := 14) (T_X2_takeOver 20 _ _ _ rfl) fl_X2_15 rfl (nR rfl) rfl (by decide) ?_
  refine g_iconst (T_X2_takeOver 21 _ _ _ rfl) ⟨by decide, by decide⟩ ?_
  refine g_bipush (T_X2_takeOver 22 _ _ _ rfl) (by decide) ?_
  refine g_copy (c0 := 46) (c1 := 13) (n0 := 16) (n1 := 16) (st := []) (T_X2_takeOver 23 _ _ _ rfl) ml_X2_47 wcopy rfl rfl (by decide) (Nat.le_of_ble_eq_true rfl) (by omega) ?_
  refine g_bndH H fun h4 H => ?_
  refine g_aload_n (T_X2_takeOver 24 _ _ _ rfl) rfl ?_
  refine g_getR (c := 44) (r := 48) (T_X2_takeOver 25 _ _ _ rfl) fl_X2_18 rfl (nR rfl) rfl (by decide) ?_
  refine g_iconst (T_X2_takeOver 26 _ _ _ rfl) ⟨by decide, by decide⟩ ?_
  refine g_aload_n (T_X2_takeOver 27 _ _ _ rfl) rfl ?_
  refine g_getR (c := 11) (r := 15) (T_X2_takeOver 28 _ _ _ rfl) fl_X2_18 rfl (nR rfl) rfl (by decide) ?_
  refine g_iconst (T_X2_takeOver 29 _ _ _ rfl) ⟨by decide, by decide⟩ ?_
  refine g_bipush (T_X2_takeOver 30 _ _ _ rfl) (by decide) ?_
  refine g_copy (c0 := 47) (c1 := 14) (n0 := 16) (n1 := 16) (st := []) (T_X2_takeOver 31 _ _ _ rfl) ml_X2_47 wcopy rfl rfl (by decide) (Nat.le_of_ble_eq_true rfl) (by omega) ?_
  refine g_bndH H fun h5 H => ?_
  refine g_aload_n (T_X2_takeOver 32 _ _ _ rfl) rfl ?_
  refine g_getR (c := 44) (r := 49) (T_X2_takeOver 33 _ _ _ rfl) fl_X2_21 rfl (nR rfl) rfl (by decide) ?_
  refine g_iconst (T_X2_takeOver 34 _ _ _ rfl) ⟨by decide, by decide⟩ ?_
  refine g_aload_n (T_X2_takeOver 35 _ _ _ rfl) rfl ?_
  refine g_getR (c := 11) (r := 16) (T_X2_takeOver 36 _ _ _ rfl) fl_X2_21 rfl (nR rfl) rfl (by decide) ?_
  refine g_iconst (T_X2_takeOver 37 _ _ _ rfl) ⟨by decide, by decide⟩ ?_
  refine g_bipush (T_X2_takeOver 38 _ _ _ rfl) (by decide) ?_
  refine g_copy (c0 := 48) (c1 := 15) (n0 := 16) (n1 := 16) (st := []) (T_X2_takeOver 39 _ _ _ rfl) ml_X2_47 wcopy rfl rfl (by decide) (Nat.le_of_ble_eq_true rfl) (by omega) ?_
  refine g_bndH H fun h6 H => ?_
  refine g_aload_n (T_X2_takeOver 40 _ _ _ rfl) rfl ?_
  refine g_getR (c := 44) (r := 50) (T_X2_takeOver 41 _ _ _ rfl) fl_X2_24 rfl (nR rfl) rfl (by decide) ?_
  refine g_iconst (T_X2_takeOver 42 _ _ _ rfl) ⟨by decide, by decide⟩ ?_
  refine g_aload_n (T_X2_takeOver 43 _ _ _ rfl) rfl ?_
  refine g_getR (c := 11) (r := 17) (T_X2_takeOver 44 _ _ _ rfl) fl_X2_24 rfl (nR rfl) rfl (by decide) ?_
  refine g_iconst (T_X2_takeOver 45 _ _ _ rfl) ⟨by decide, by decide⟩ ?_
  refine g_sipush (T_X2_takeOver 46 _ _ _ rfl) (by decide) ?_
  refine g_copy (c0 := 49) (c1 := 16) (n0 := 240) (n1 := 240) (st := []) (T_X2_takeOver 47 _ _ _ rfl) ml_X2_47 wcopy rfl rfl (by decide) (Nat.le_of_ble_eq_true rfl) (by omega) ?_
  refine g_bndH H fun h7 H => ?_
  refine g_aload_n (T_X2_takeOver 48 _ _ _ rfl) rfl ?_
  refine g_getR (c := 44) (r := 51) (T_X2_takeOver 49 _ _ _ rfl) fl_X2_27 rfl (nR rfl) rfl (by decide) ?_
  refine g_iconst (T_X2_takeOver 50 _ _ _ rfl) ⟨by decide, by decide⟩ ?_
  refine g_aload_n (T_X2_takeOver 51 _ _ _ rfl) rfl ?_
  refine g_getR (c := 11) (r := 18) (T_X2_takeOver 52 _ _ _ rfl) fl_X2_27 rfl (nR rfl) rfl (by decide) ?_
  refine g_iconst (T_X2_takeOver 53 _ _ _ rfl) ⟨by decide, by decide⟩ ?_
  refine g_sipush (T_X2_takeOver 54 _ _ _ rfl) (by decide) ?_
  refine g_copy (c0 := 50) (c1 := 17) (n0 := 240) (n1 := 240) (st := []) (T_X2_takeOver 55 _ _ _ rfl) ml_X2_47 wcopy rfl rfl (by decide) (Nat.le_of_ble_eq_true rfl) (by omega) ?_
  refine g_bndH H fun h8 H => ?_
  exact g_vret (T_X2_takeOver 56 _ _ _ rfl) rfl (qv_of H)
def J_X11_law_68 (N : Nat) (x2 : Int) (h : Hp) : Option (Int × Hp) :=
  bv (F_X10_clear N h) fun h1 =>
  some (x2, h1)
set_option maxRecDepth 100000 in
set_option maxHeartbeats 4000000 in
theorem R_J_X11_law_68 (N : Nat) (x2 : Int) (h : Hp) (res : Int × Hp) (H : J_X11_law_68 N x2 h = some res) : Go M_X11_law 736 68 [some (.inr 1), none, some (.inl x2)] [] h (Qi res) := by
  unfold J_X11_law_68 at H
  refine g_aload_n (T_X11_law 32 _ _ _ rfl) rfl ?_
  refine g_getR (c := 0) (r := 42) (T_X11_law 33 _ _ _ rfl) fl_X11_24 rfl (nR rfl) rfl (by decide) ?_
  obtain ⟨h1, hq, H⟩ := bv_some H
  refine g_callVv (M' := M_X10_clear) (c := 41) (av := []) (st := []) (T_X11_law 34 _ _ _ rfl) ml_X11_152 cb_X10_clear rfl rfl (Nat.le_of_ble_eq_true rfl) (by omega) (R_X10_clear N _ _ hq) ?_
  refine g_iload_n (T_X11_law 35 _ _ _ rfl) rfl ?_
  exact g_iret (T_X11_law 36 _ _ _ rfl) rfl (qi_of H)
def F_X11_law (N : Nat) (x1 : Int) (h : Hp) : Option (Int × Hp) :=
  bd (F_X11_isWithin N x1 1 240 h) fun y2 h1 =>
  if y2 = 0 then
    some ((-1), h1)
  else
  bd (F_X10_holds N x1 h1) fun y4 h3 =>
  if y4 = 0 then
    some ((-1), h3)
  else
  bv (F_X10_open N x1 h3) fun h5 =>
  bd (F_X3_read N h5) fun y7 h6 =>
  bd (F_X10_isSound N h6) fun y9 h8 =>
  if y9 = 0 then
    J_X11_law_68 N  y7 h8
  else
  bd (F_X3_fresh N h8) fun z11 h10 =>
  grd (z11 = 45) <|
  bv (F_X2_takeOver N h10) fun h12 =>
  J_X11_law_68 N  y7 h12
set_option maxRecDepth 100000 in
set_option maxHeartbeats 4000000 in
theorem R_X11_law (N : Nat) (x1 : Int) (h : Hp) (res : Int × Hp) (H : F_X11_law N x1 h = some res) : Runs M_X11_law 736 [.inr 1, .inl x1] h (Qi res) := by
  refine Runs.of rfl (Nat.le_of_ble_eq_true rfl) ?_
  show Go M_X11_law 736 0 [some (.inr 1), some (.inl x1), none] [] h (Qi res)
  unfold F_X11_law at H
  refine g_iload_n (T_X11_law 0 _ _ _ rfl) rfl ?_
  refine g_iconst (T_X11_law 1 _ _ _ rfl) ⟨by decide, by decide⟩ ?_
  refine g_sipush (T_X11_law 2 _ _ _ rfl) (by decide) ?_
  obtain ⟨y2, h1, hq, H⟩ := bd_some H
  refine g_callSi (M' := M_X11_isWithin) (av := [.inl x1, .inl 1, .inl 240]) (st := []) (T_X11_law 3 _ _ _ rfl) ml_X11_96 cb_X11_isWithin rfl (Nat.le_of_ble_eq_true rfl) (by omega) (R_X11_isWithin N _ _ _ _ _ hq) ?_
  refine g_if_eq (tgt := 22) (T_X11_law 4 _ _ _ rfl) (by decide) (fun cc => ?_) (fun cc => ?_)
  · replace H := ite_p cc H
    refine g_iconst (T_X11_law 10 _ _ _ rfl) ⟨by decide, by decide⟩ ?_
    exact g_iret (T_X11_law 11 _ _ _ rfl) rfl (qi_of H)
  · replace H := ite_n cc H
    refine g_aload_n (T_X11_law 5 _ _ _ rfl) rfl ?_
    refine g_getR (c := 0) (r := 42) (T_X11_law 6 _ _ _ rfl) fl_X11_24 rfl (nR rfl) rfl (by decide) ?_
    refine g_iload_n (T_X11_law 7 _ _ _ rfl) rfl ?_
    obtain ⟨y4, h3, hq, H⟩ := bd_some H
    refine g_callVi (M' := M_X10_holds) (c := 41) (av := [.inl x1]) (st := []) (T_X11_law 8 _ _ _ rfl) ml_X11_130 cb_X10_holds rfl rfl (Nat.le_of_ble_eq_true rfl) (by omega) (R_X10_holds N _ _ _ hq) ?_
    refine g_if_ne (tgt := 24) (T_X11_law 9 _ _ _ rfl) (by decide) (fun cc => ?_) (fun cc => ?_)
    · replace H := ite_n cc H
      refine g_aload_n (T_X11_law 12 _ _ _ rfl) rfl ?_
      refine g_getR (c := 0) (r := 42) (T_X11_law 13 _ _ _ rfl) fl_X11_24 rfl (nR rfl) rfl (by decide) ?_
      refine g_iload_n (T_X11_law 14 _ _ _ rfl) rfl ?_
      obtain ⟨h5, hq, H⟩ := bv_some H
      refine g_callVv (M' := M_X10_open) (c := 41) (av := [.inl x1]) (st := []) (T_X11_law 15 _ _ _ rfl) ml_X11_133 cb_X10_open rfl rfl (Nat.le_of_ble_eq_true rfl) (by omega) (R_X10_open N _ _ _ hq) ?_
      refine g_aload_n (T_X11_law 16 _ _ _ rfl) rfl ?_
      refine g_getR (c := 0) (r := 44) (T_X11_law 17 _ _ _ rfl) fl_X11_43 rfl (nR rfl) rfl (by decide) ?_
      refine g_aload_n (T_X11_law 18 _ _ _ rfl) rfl ?_
      refine g_getR (c := 0) (r := 42) (T_X11_law 19 _ _ _ rfl) fl_X11_24 rfl (nR rfl) rfl (by decide) ?_
      obtain ⟨y7, h6, hq, H⟩ := bd_some H
      refine g_callVi (M' := M_X3_read) (c := 43) (av := [.inr 42]) (st := []) (T_X11_law 20 _ _ _ rfl) ml_X11_136 cb_X3_read rfl rfl (Nat.le_of_ble_eq_true rfl) (by omega) (R_X3_read N _ _ hq) ?_
      refine g_istore_n (T_X11_law 21 _ _ _ rfl) (by decide) ?_
      refine g_aload_n (T_X11_law 22 _ _ _ rfl) rfl ?_
      refine g_getR (c := 0) (r := 42) (T_X11_law 23 _ _ _ rfl) fl_X11_24 rfl (nR rfl) rfl (by decide) ?_
      obtain ⟨y9, h8, hq, H⟩ := bd_some H
      refine g_callVi (M' := M_X10_isSound) (c := 41) (av := []) (st := []) (T_X11_law 24 _ _ _ rfl) ml_X11_140 cb_X10_isSound rfl rfl (Nat.le_of_ble_eq_true rfl) (by omega) (R_X10_isSound N _ _ hq) ?_
      refine g_if_eq (tgt := 68) (T_X11_law 25 _ _ _ rfl) (by decide) (fun cc => ?_) (fun cc => ?_)
      · replace H := ite_p cc H
        refine g_weak [true, false, true] ?_
        exact R_J_X11_law_68 N   _ _ _ H
      · replace H := ite_n cc H
        refine g_aload_n (T_X11_law 26 _ _ _ rfl) rfl ?_
        refine g_getR (c := 0) (r := 12) (T_X11_law 27 _ _ _ rfl) fl_X11_36 rfl (nR rfl) rfl (by decide) ?_
        refine g_aload_n (T_X11_law 28 _ _ _ rfl) rfl ?_
        refine g_getR (c := 0) (r := 44) (T_X11_law 29 _ _ _ rfl) fl_X11_43 rfl (nR rfl) rfl (by decide) ?_
        obtain ⟨z11, h10, hq, H⟩ := bd_some H
        refine g_callVr (M' := M_X3_fresh) (c := 43) (av := []) (st := [.inr 12]) (T_X11_law 30 _ _ _ rfl) ml_X11_144 cb_X3_fresh rfl rfl (Nat.le_of_ble_eq_true rfl) (by omega) (R_X3_fresh N _ _ hq) ?_
        have hgH := grd_some H
        clear H
        obtain ⟨hg, H⟩ := hgH
        subst hg
        obtain ⟨h12, hq, H⟩ := bv_some H
        refine g_callVv (M' := M_X2_takeOver) (c := 11) (av := [.inr 45]) (st := []) (T_X11_law 31 _ _ _ rfl) ml_X11_148 cb_X2_takeOver rfl rfl (Nat.le_of_ble_eq_true rfl) (by omega) (R_X2_takeOver N _ _ hq) ?_
        refine g_weak [true, false, true] ?_
        exact R_J_X11_law_68 N   _ _ _ H
    · replace H := ite_p cc H
      refine g_iconst (T_X11_law 10 _ _ _ rfl) ⟨by decide, by decide⟩ ?_
      exact g_iret (T_X11_law 11 _ _ _ rfl) rfl (qi_of H)
def J_X7_shortenFrom_85 (N : Nat) (k15 : Int → Int → Int → Int → Hp → Option (Hp)) (x1 : Int) (x2 : Int) (x3 : Int) (x4 : Int) (h : Hp) : Option (Hp) :=
  bnd (w32 (x4 + 1)) fun y1 =>
  k15 x1 x2 x3 y1 h
set_option maxRecDepth 100000 in
set_option maxHeartbeats 4000000 in
theorem R_J_X7_shortenFrom_85 (N : Nat) (k15 : Int → Int → Int → Int → Hp → Option (Hp)) (hk15 : ∀ (x1 : Int) (x2 : Int) (x3 : Int) (x4 : Int) (h : Hp) (res : Hp), k15 x1 x2 x3 x4 h = some res → Go M_X7_shortenFrom 1 15 [some (.inr 8), some (.inl x1), some (.inl x2), some (.inl x3), some (.inl x4), none, none] [] h (Qv res)) (x1 : Int) (x2 : Int) (x3 : Int) (x4 : Int) (h : Hp) (res : Hp) (H : J_X7_shortenFrom_85 N k15 x1 x2 x3 x4 h = some res) : Go M_X7_shortenFrom 1 85 [some (.inr 8), some (.inl x1), some (.inl x2), some (.inl x3), some (.inl x4), none, none] [] h (Qv res) := by
  unfold J_X7_shortenFrom_85 at H
  refine g_iincB (T_X7_shortenFrom 52 _ _ _ rfl) rfl (by decide) H fun y1 H => ?_
  refine g_goto (tgt := 15) (T_X7_shortenFrom 53 _ _ _ rfl) (by decide) ?_
  refine g_weak [true, true, true, true, true, false, false] ?_
  exact hk15 _ _ _ _ _ _ H
def J_X7_shortenFrom_69 (N : Nat) (k15 : Int → Int → Int → Int → Hp → Option (Hp)) (x1 : Int) (x2 : Int) (x3 : Int) (x4 : Int) (x5 : Int) (h : Hp) : Option (Hp) :=
  grd (0 ≤ (w32 ((w32 (x1 * 14)) + x4)) ∧ (w32 ((w32 (x1 * 14)) + x4)) < 196) <|
  bnd (hw h 10 (w32 ((w32 (x1 * 14)) + x4)).toNat (w32 (x3 + x5))) fun h1 =>
  J_X7_shortenFrom_85 N k15 x1 x2 x3 x4 h1
set_option maxRecDepth 100000 in
set_option maxHeartbeats 4000000 in
theorem R_J_X7_shortenFrom_69 (N : Nat) (k15 : Int → Int → Int → Int → Hp → Option (Hp)) (hk15 : ∀ (x1 : Int) (x2 : Int) (x3 : Int) (x4 : Int) (h : Hp) (res : Hp), k15 x1 x2 x3 x4 h = some res → Go M_X7_shortenFrom 1 15 [some (.inr 8), some (.inl x1), some (.inl x2), some (.inl x3), some (.inl x4), none, none] [] h (Qv res)) (x1 : Int) (x2 : Int) (x3 : Int) (x4 : Int) (x5 : Int) (h : Hp) (res : Hp) (H : J_X7_shortenFrom_69 N k15 x1 x2 x3 x4 x5 h = some res) : Go M_X7_shortenFrom 1 69 [some (.inr 8), some (.inl x1), some (.inl x2), some (.inl x3), some (.inl x4), some (.inl x5), none] [] h (Qv res) := by
  unfold J_X7_shortenFrom_69 at H
  refine g_aload_n (T_X7_shortenFrom 41 _ _ _ rfl) rfl ?_
  refine g_getR (c := 7) (r := 11) (T_X7_shortenFrom 42 _ _ _ rfl) fl_X7_18 rfl (nR rfl) rfl (by decide) ?_
  refine g_iload_n (T_X7_shortenFrom 43 _ _ _ rfl) rfl ?_
  refine g_bipush (T_X7_shortenFrom 44 _ _ _ rfl) (by decide) ?_
  refine g_imul (T_X7_shortenFrom 45 _ _ _ rfl) ?_
  refine g_iload (T_X7_shortenFrom 46 _ _ _ rfl) rfl ?_
  refine g_iadd (T_X7_shortenFrom 47 _ _ _ rfl) ?_
  refine g_iload_n (T_X7_shortenFrom 48 _ _ _ rfl) rfl ?_
  refine g_iload (T_X7_shortenFrom 49 _ _ _ rfl) rfl ?_
  refine g_iadd (T_X7_shortenFrom 50 _ _ _ rfl) ?_
  obtain ⟨hg, H⟩ := grd_some H
  refine g_iast (c := 10) (T_X7_shortenFrom 51 _ _ _ rfl) rfl hg ?_
  refine g_bndH H fun h1 H => ?_
  refine g_weak [true, true, true, true, true, false, false] ?_
  exact R_J_X7_shortenFrom_85 N k15 hk15 _ _ _ _ _ _ H
def L_X7_shortenFrom_15 (N : Nat) : Nat → Int → Int → Int → Int → Hp → Option (Hp)
  | 0, _, _, _, _, _ => none
  | n + 1, x1, x2, x3, x4, h =>
    if 14 ≤ x4 then
      some h
    else
    grd (0 ≤ (w32 ((w32 (x2 * 14)) + x4)) ∧ (w32 ((w32 (x2 * 14)) + x4)) < 196) <|
    bnd ((h 10 (w32 ((w32 (x2 * 14)) + x4)).toNat)) fun y1 =>
    grd (0 ≤ (w32 ((w32 (x1 * 14)) + x4)) ∧ (w32 ((w32 (x1 * 14)) + x4)) < 196) <|
    bnd ((h 10 (w32 ((w32 (x1 * 14)) + x4)).toNat)) fun y2 =>
    if y1 < 0 then
      J_X7_shortenFrom_85 N (L_X7_shortenFrom_15 N n) x1 x2 x3 x4 h
    else
    if y2 < 0 then
      J_X7_shortenFrom_69 N (L_X7_shortenFrom_15 N n) x1 x2 x3 x4 y1 h
    else
    if y2 ≤ (w32 (x3 + y1)) then
      J_X7_shortenFrom_85 N (L_X7_shortenFrom_15 N n) x1 x2 x3 x4 h
    else
    J_X7_shortenFrom_69 N (L_X7_shortenFrom_15 N n) x1 x2 x3 x4 y1 h
set_option maxRecDepth 100000 in
set_option maxHeartbeats 4000000 in
theorem R_L_X7_shortenFrom_15 (N : Nat) : ∀ (n : Nat) (x1 : Int) (x2 : Int) (x3 : Int) (x4 : Int) (h : Hp) (res : Hp), L_X7_shortenFrom_15 N n x1 x2 x3 x4 h = some res → Go M_X7_shortenFrom 1 15 [some (.inr 8), some (.inl x1), some (.inl x2), some (.inl x3), some (.inl x4), none, none] [] h (Qv res)
  | 0, _, _, _, _, _, _, H => by cases H
  | n + 1, x1, x2, x3, x4, h, res, H => by
    have ih := R_L_X7_shortenFrom_15 N n
    simp only [L_X7_shortenFrom_15] at H
    refine g_iload (T_X7_shortenFrom 11 _ _ _ rfl) rfl ?_
    refine g_bipush (T_X7_shortenFrom 12 _ _ _ rfl) (by decide) ?_
    refine g_icmp_ge (tgt := 91) (T_X7_shortenFrom 13 _ _ _ rfl) (by decide) (fun cc => ?_) (fun cc => ?_)
    · replace H := ite_p cc H
      exact g_vret (T_X7_shortenFrom 54 _ _ _ rfl) rfl (qv_of H)
    · replace H := ite_n cc H
      refine g_aload_n (T_X7_shortenFrom 14 _ _ _ rfl) rfl ?_
      refine g_getR (c := 7) (r := 11) (T_X7_shortenFrom 15 _ _ _ rfl) fl_X7_18 rfl (nR rfl) rfl (by decide) ?_
      refine g_iload_n (T_X7_shortenFrom 16 _ _ _ rfl) rfl ?_
      refine g_bipush (T_X7_shortenFrom 17 _ _ _ rfl) (by decide) ?_
      refine g_imul (T_X7_shortenFrom 18 _ _ _ rfl) ?_
      refine g_iload (T_X7_shortenFrom 19 _ _ _ rfl) rfl ?_
      refine g_iadd (T_X7_shortenFrom 20 _ _ _ rfl) ?_
      obtain ⟨hg, H⟩ := grd_some H
      refine g_iald (c := 10) (T_X7_shortenFrom 21 _ _ _ rfl) rfl hg ?_
      refine g_bndI H fun y1 H => ?_
      refine g_istore (T_X7_shortenFrom 22 _ _ _ rfl) (by decide) ?_
      refine g_aload_n (T_X7_shortenFrom 23 _ _ _ rfl) rfl ?_
      refine g_getR (c := 7) (r := 11) (T_X7_shortenFrom 24 _ _ _ rfl) fl_X7_18 rfl (nR rfl) rfl (by decide) ?_
      refine g_iload_n (T_X7_shortenFrom 25 _ _ _ rfl) rfl ?_
      refine g_bipush (T_X7_shortenFrom 26 _ _ _ rfl) (by decide) ?_
      refine g_imul (T_X7_shortenFrom 27 _ _ _ rfl) ?_
      refine g_iload (T_X7_shortenFrom 28 _ _ _ rfl) rfl ?_
      refine g_iadd (T_X7_shortenFrom 29 _ _ _ rfl) ?_
      obtain ⟨hg, H⟩ := grd_some H
      refine g_iald (c := 10) (T_X7_shortenFrom 30 _ _ _ rfl) rfl hg ?_
      refine g_bndI H fun y2 H => ?_
      refine g_istore (T_X7_shortenFrom 31 _ _ _ rfl) (by decide) ?_
      refine g_iload (T_X7_shortenFrom 32 _ _ _ rfl) rfl ?_
      refine g_if_lt (tgt := 85) (T_X7_shortenFrom 33 _ _ _ rfl) (by decide) (fun cc => ?_) (fun cc => ?_)
      · replace H := ite_p cc H
        refine g_weak [true, true, true, true, true, false, false] ?_
        exact R_J_X7_shortenFrom_85 N (L_X7_shortenFrom_15 N n) ih _ _ _ _ _ _ H
      · replace H := ite_n cc H
        refine g_iload (T_X7_shortenFrom 34 _ _ _ rfl) rfl ?_
        refine g_if_lt (tgt := 69) (T_X7_shortenFrom 35 _ _ _ rfl) (by decide) (fun cc => ?_) (fun cc => ?_)
        · replace H := ite_p cc H
          refine g_weak [true, true, true, true, true, true, false] ?_
          exact R_J_X7_shortenFrom_69 N (L_X7_shortenFrom_15 N n) ih _ _ _ _ _ _ _ H
        · replace H := ite_n cc H
          refine g_iload_n (T_X7_shortenFrom 36 _ _ _ rfl) rfl ?_
          refine g_iload (T_X7_shortenFrom 37 _ _ _ rfl) rfl ?_
          refine g_iadd (T_X7_shortenFrom 38 _ _ _ rfl) ?_
          refine g_iload (T_X7_shortenFrom 39 _ _ _ rfl) rfl ?_
          refine g_icmp_ge (tgt := 85) (T_X7_shortenFrom 40 _ _ _ rfl) (by decide) (fun cc => ?_) (fun cc => ?_)
          · replace H := ite_p cc H
            refine g_weak [true, true, true, true, true, false, false] ?_
            exact R_J_X7_shortenFrom_85 N (L_X7_shortenFrom_15 N n) ih _ _ _ _ _ _ H
          · replace H := ite_n cc H
            refine g_weak [true, true, true, true, true, true, false] ?_
            exact R_J_X7_shortenFrom_69 N (L_X7_shortenFrom_15 N n) ih _ _ _ _ _ _ _ H
def F_X7_shortenFrom (N : Nat) (x1 : Int) (x2 : Int) (h : Hp) : Option (Hp) :=
  grd (0 ≤ (w32 ((w32 (x1 * 14)) + x2)) ∧ (w32 ((w32 (x1 * 14)) + x2)) < 196) <|
  bnd ((h 10 (w32 ((w32 (x1 * 14)) + x2)).toNat)) fun y1 =>
  L_X7_shortenFrom_15 N  N x1 x2 y1 0 h
set_option maxRecDepth 100000 in
set_option maxHeartbeats 4000000 in
theorem R_X7_shortenFrom (N : Nat) (x1 : Int) (x2 : Int) (h : Hp) (res : Hp) (H : F_X7_shortenFrom N x1 x2 h = some res) : Runs M_X7_shortenFrom 1 [.inr 8, .inl x1, .inl x2] h (Qv res) := by
  refine Runs.of rfl (Nat.le_of_ble_eq_true rfl) ?_
  show Go M_X7_shortenFrom 1 0 [some (.inr 8), some (.inl x1), some (.inl x2), none, none, none, none] [] h (Qv res)
  unfold F_X7_shortenFrom at H
  refine g_aload_n (T_X7_shortenFrom 0 _ _ _ rfl) rfl ?_
  refine g_getR (c := 7) (r := 11) (T_X7_shortenFrom 1 _ _ _ rfl) fl_X7_18 rfl (nR rfl) rfl (by decide) ?_
  refine g_iload_n (T_X7_shortenFrom 2 _ _ _ rfl) rfl ?_
  refine g_bipush (T_X7_shortenFrom 3 _ _ _ rfl) (by decide) ?_
  refine g_imul (T_X7_shortenFrom 4 _ _ _ rfl) ?_
  refine g_iload_n (T_X7_shortenFrom 5 _ _ _ rfl) rfl ?_
  refine g_iadd (T_X7_shortenFrom 6 _ _ _ rfl) ?_
  obtain ⟨hg, H⟩ := grd_some H
  refine g_iald (c := 10) (T_X7_shortenFrom 7 _ _ _ rfl) rfl hg ?_
  refine g_bndI H fun y1 H => ?_
  refine g_istore_n (T_X7_shortenFrom 8 _ _ _ rfl) (by decide) ?_
  refine g_iconst (T_X7_shortenFrom 9 _ _ _ rfl) ⟨by decide, by decide⟩ ?_
  refine g_istore (T_X7_shortenFrom 10 _ _ _ rfl) (by decide) ?_
  refine g_weak [true, true, true, true, true, false, false] ?_
  refine R_L_X7_shortenFrom_15 N   _ _ _ _ _ _ _ H
def J_X7_findWays_132 (N : Nat) (k106 : Int → Int → Hp → Option (Hp)) (x1 : Int) (x2 : Int) (h : Hp) : Option (Hp) :=
  bnd (w32 (x2 + 1)) fun y1 =>
  k106 x1 y1 h
set_option maxRecDepth 100000 in
set_option maxHeartbeats 4000000 in
theorem R_J_X7_findWays_132 (N : Nat) (k106 : Int → Int → Hp → Option (Hp)) (hk106 : ∀ (x1 : Int) (x2 : Int) (h : Hp) (res : Hp), k106 x1 x2 h = some res → Go M_X7_findWays 2 106 [some (.inr 8), some (.inl x1), some (.inl x2)] [] h (Qv res)) (x1 : Int) (x2 : Int) (h : Hp) (res : Hp) (H : J_X7_findWays_132 N k106 x1 x2 h = some res) : Go M_X7_findWays 2 132 [some (.inr 8), some (.inl x1), some (.inl x2)] [] h (Qv res) := by
  unfold J_X7_findWays_132 at H
  refine g_iincB (T_X7_findWays 77 _ _ _ rfl) rfl (by decide) H fun y1 H => ?_
  refine g_goto (tgt := 106) (T_X7_findWays 78 _ _ _ rfl) (by decide) ?_
  refine g_weak [true, true, true] ?_
  exact hk106 _ _ _ _ H
def L_X7_findWays_106 (N : Nat) (k138 : Int → Hp → Option (Hp)) : Nat → Int → Int → Hp → Option (Hp)
  | 0, _, _, _ => none
  | n + 1, x1, x2, h =>
    if 14 ≤ x2 then
      k138 x1 h
    else
    grd (0 ≤ (w32 ((w32 (x2 * 14)) + x1)) ∧ (w32 ((w32 (x2 * 14)) + x1)) < 196) <|
    if (h 10 (w32 ((w32 (x2 * 14)) + x1)).toNat) ≤ 0 then
      J_X7_findWays_132 N (L_X7_findWays_106 N k138 n) x1 x2 h
    else
    bv (F_X7_shortenFrom N x2 x1 h) fun h1 =>
    J_X7_findWays_132 N (L_X7_findWays_106 N k138 n) x1 x2 h1
set_option maxRecDepth 100000 in
set_option maxHeartbeats 4000000 in
theorem R_L_X7_findWays_106 (N : Nat) (k138 : Int → Hp → Option (Hp)) (hk138 : ∀ (x1 : Int) (h : Hp) (res : Hp), k138 x1 h = some res → Go M_X7_findWays 2 138 [some (.inr 8), some (.inl x1), none] [] h (Qv res)) : ∀ (n : Nat) (x1 : Int) (x2 : Int) (h : Hp) (res : Hp), L_X7_findWays_106 N k138 n x1 x2 h = some res → Go M_X7_findWays 2 106 [some (.inr 8), some (.inl x1), some (.inl x2)] [] h (Qv res)
  | 0, _, _, _, _, H => by cases H
  | n + 1, x1, x2, h, res, H => by
    have ih := R_L_X7_findWays_106 N k138 hk138 n
    simp only [L_X7_findWays_106] at H
    refine g_iload_n (T_X7_findWays 61 _ _ _ rfl) rfl ?_
    refine g_bipush (T_X7_findWays 62 _ _ _ rfl) (by decide) ?_
    refine g_icmp_ge (tgt := 138) (T_X7_findWays 63 _ _ _ rfl) (by decide) (fun cc => ?_) (fun cc => ?_)
    · replace H := ite_p cc H
      refine g_weak [true, true, false] ?_
      exact hk138 _ _ _ H
    · replace H := ite_n cc H
      refine g_aload_n (T_X7_findWays 64 _ _ _ rfl) rfl ?_
      refine g_getR (c := 7) (r := 11) (T_X7_findWays 65 _ _ _ rfl) fl_X7_18 rfl (nR rfl) rfl (by decide) ?_
      refine g_iload_n (T_X7_findWays 66 _ _ _ rfl) rfl ?_
      refine g_bipush (T_X7_findWays 67 _ _ _ rfl) (by decide) ?_
      refine g_imul (T_X7_findWays 68 _ _ _ rfl) ?_
      refine g_iload_n (T_X7_findWays 69 _ _ _ rfl) rfl ?_
      refine g_iadd (T_X7_findWays 70 _ _ _ rfl) ?_
      obtain ⟨hg, H⟩ := grd_some H
      refine g_iald (c := 10) (T_X7_findWays 71 _ _ _ rfl) rfl hg ?_
      refine g_if_le (tgt := 132) (T_X7_findWays 72 _ _ _ rfl) (by decide) (fun cc => ?_) (fun cc => ?_)
      · replace H := ite_p cc H
        refine g_weak [true, true, true] ?_
        exact R_J_X7_findWays_132 N (L_X7_findWays_106 N k138 n) ih _ _ _ _ H
      · replace H := ite_n cc H
        refine g_aload_n (T_X7_findWays 73 _ _ _ rfl) rfl ?_
        refine g_iload_n (T_X7_findWays 74 _ _ _ rfl) rfl ?_
        refine g_iload_n (T_X7_findWays 75 _ _ _ rfl) rfl ?_
        obtain ⟨h1, hq, H⟩ := bv_some H
        refine g_callVv (M' := M_X7_shortenFrom) (c := 7) (av := [.inl x2, .inl x1]) (st := []) (T_X7_findWays 76 _ _ _ rfl) ml_X7_88 cb_X7_shortenFrom rfl rfl (Nat.le_of_ble_eq_true rfl) (by omega) (R_X7_shortenFrom N _ _ _ _ hq) ?_
        refine g_weak [true, true, true] ?_
        exact R_J_X7_findWays_132 N (L_X7_findWays_106 N k138 n) ih _ _ _ _ H
def L_X7_findWays_98 (N : Nat) : Nat → Int → Hp → Option (Hp)
  | 0, _, _ => none
  | n + 1, x1, h =>
    if 14 ≤ x1 then
      some h
    else
    L_X7_findWays_106 N (fun (v1 : Int) (h2 : Hp) =>
      bnd (w32 (v1 + 1)) fun y3 =>
      (L_X7_findWays_98 N n) y3 h2) N x1 0 h
set_option maxRecDepth 100000 in
set_option maxHeartbeats 4000000 in
theorem R_L_X7_findWays_98 (N : Nat) : ∀ (n : Nat) (x1 : Int) (h : Hp) (res : Hp), L_X7_findWays_98 N n x1 h = some res → Go M_X7_findWays 2 98 [some (.inr 8), some (.inl x1), none] [] h (Qv res)
  | 0, _, _, _, H => by cases H
  | n + 1, x1, h, res, H => by
    have ih := R_L_X7_findWays_98 N n
    simp only [L_X7_findWays_98] at H
    refine g_iload_n (T_X7_findWays 56 _ _ _ rfl) rfl ?_
    refine g_bipush (T_X7_findWays 57 _ _ _ rfl) (by decide) ?_
    refine g_icmp_ge (tgt := 144) (T_X7_findWays 58 _ _ _ rfl) (by decide) (fun cc => ?_) (fun cc => ?_)
    · replace H := ite_p cc H
      exact g_vret (T_X7_findWays 81 _ _ _ rfl) rfl (qv_of H)
    · replace H := ite_n cc H
      refine g_iconst (T_X7_findWays 59 _ _ _ rfl) ⟨by decide, by decide⟩ ?_
      refine g_istore_n (T_X7_findWays 60 _ _ _ rfl) (by decide) ?_
      refine g_weak [true, true, true] ?_
      refine R_L_X7_findWays_106 N _ (fun v1 h2 res H => ?_) _ _ _ _ _ H
      · refine g_iincB (T_X7_findWays 79 _ _ _ rfl) rfl (by decide) H fun y3 H => ?_
        refine g_goto (tgt := 98) (T_X7_findWays 80 _ _ _ rfl) (by decide) ?_
        refine g_weak [true, true, false] ?_
        exact ih _ _ _ H
def J_X7_findWays_80 (N : Nat) (k7 : Int → Hp → Option (Hp)) (x1 : Int) (h : Hp) : Option (Hp) :=
  bnd (w32 (x1 + 1)) fun y1 =>
  k7 y1 h
set_option maxRecDepth 100000 in
set_option maxHeartbeats 4000000 in
theorem R_J_X7_findWays_80 (N : Nat) (k7 : Int → Hp → Option (Hp)) (hk7 : ∀ (x1 : Int) (h : Hp) (res : Hp), k7 x1 h = some res → Go M_X7_findWays 2 7 [some (.inr 8), some (.inl x1), none] [] h (Qv res)) (x1 : Int) (h : Hp) (res : Hp) (H : J_X7_findWays_80 N k7 x1 h = some res) : Go M_X7_findWays 2 80 [some (.inr 8), some (.inl x1), none] [] h (Qv res) := by
  unfold J_X7_findWays_80 at H
  refine g_iincB (T_X7_findWays 46 _ _ _ rfl) rfl (by decide) H fun y1 H => ?_
  refine g_goto (tgt := 7) (T_X7_findWays 47 _ _ _ rfl) (by decide) ?_
  refine g_weak [true, true, false] ?_
  exact hk7 _ _ _ H
def J_X7_findWays_76 (N : Nat) (k7 : Int → Hp → Option (Hp)) (x1 : Int) (s1 : Int) (s2 : Int) (h : Hp) : Option (Hp) :=
  bnd (hw h 7 3 (w32 (s1 + s2))) fun h1 =>
  J_X7_findWays_80 N k7 x1 h1
set_option maxRecDepth 100000 in
set_option maxHeartbeats 4000000 in
theorem R_J_X7_findWays_76 (N : Nat) (k7 : Int → Hp → Option (Hp)) (hk7 : ∀ (x1 : Int) (h : Hp) (res : Hp), k7 x1 h = some res → Go M_X7_findWays 2 7 [some (.inr 8), some (.inl x1), none] [] h (Qv res)) (x1 : Int) (s1 : Int) (s2 : Int) (h : Hp) (res : Hp) (H : J_X7_findWays_76 N k7 x1 s1 s2 h = some res) : Go M_X7_findWays 2 76 [some (.inr 8), some (.inl x1), none] [.inl s2, .inl s1, .inr 8] h (Qv res) := by
  unfold J_X7_findWays_76 at H
  refine g_iadd (T_X7_findWays 44 _ _ _ rfl) ?_
  refine g_put (c := 7) (T_X7_findWays 45 _ _ _ rfl) fl_X7_21 rfl (Or.inl rfl) ?_
  refine g_bndH H fun h1 H => ?_
  refine g_weak [true, true, false] ?_
  exact R_J_X7_findWays_80 N k7 hk7 _ _ _ H
def J_X7_findWays_56 (N : Nat) (k7 : Int → Hp → Option (Hp)) (x1 : Int) (s1 : Int) (s2 : Int) (h : Hp) : Option (Hp) :=
  grd (0 ≤ s1 ∧ s1 < 196) <|
  bnd (hw h 10 s1.toNat s2) fun h1 =>
  grd (0 ≤ x1 ∧ x1 < 196) <|
  if (h1 8 x1.toNat) ≤ 0 then
    J_X7_findWays_76 N k7 x1 (h1 7 3) 0 h1
  else
  J_X7_findWays_76 N k7 x1 (h1 7 3) 1 h1
set_option maxRecDepth 100000 in
set_option maxHeartbeats 4000000 in
theorem R_J_X7_findWays_56 (N : Nat) (k7 : Int → Hp → Option (Hp)) (hk7 : ∀ (x1 : Int) (h : Hp) (res : Hp), k7 x1 h = some res → Go M_X7_findWays 2 7 [some (.inr 8), some (.inl x1), none] [] h (Qv res)) (x1 : Int) (s1 : Int) (s2 : Int) (h : Hp) (res : Hp) (H : J_X7_findWays_56 N k7 x1 s1 s2 h = some res) : Go M_X7_findWays 2 56 [some (.inr 8), some (.inl x1), none] [.inl s2, .inl s1, .inr 11] h (Qv res) := by
  unfold J_X7_findWays_56 at H
  obtain ⟨hg, H⟩ := grd_some H
  refine g_iast (c := 10) (T_X7_findWays 32 _ _ _ rfl) rfl hg ?_
  refine g_bndH H fun h1 H => ?_
  refine g_aload_n (T_X7_findWays 33 _ _ _ rfl) rfl ?_
  refine g_dup (T_X7_findWays 34 _ _ _ rfl) ?_
  refine g_getI (c := 7) (T_X7_findWays 35 _ _ _ rfl) fl_X7_21 rfl (Or.inl rfl) ?_
  refine g_aload_n (T_X7_findWays 36 _ _ _ rfl) rfl ?_
  refine g_getR (c := 7) (r := 9) (T_X7_findWays 37 _ _ _ rfl) fl_X7_11 rfl (nR rfl) rfl (by decide) ?_
  refine g_iload_n (T_X7_findWays 38 _ _ _ rfl) rfl ?_
  obtain ⟨hg, H⟩ := grd_some H
  refine g_iald (c := 8) (T_X7_findWays 39 _ _ _ rfl) rfl hg ?_
  refine g_if_le (tgt := 75) (T_X7_findWays 40 _ _ _ rfl) (by decide) (fun cc => ?_) (fun cc => ?_)
  · replace H := ite_p cc H
    refine g_iconst (T_X7_findWays 43 _ _ _ rfl) ⟨by decide, by decide⟩ ?_
    refine g_weak [true, true, false] ?_
    exact R_J_X7_findWays_76 N k7 hk7 _ _ _ _ _ H
  · replace H := ite_n cc H
    refine g_iconst (T_X7_findWays 41 _ _ _ rfl) ⟨by decide, by decide⟩ ?_
    refine g_goto (tgt := 76) (T_X7_findWays 42 _ _ _ rfl) (by decide) ?_
    refine g_weak [true, true, false] ?_
    exact R_J_X7_findWays_76 N k7 hk7 _ _ _ _ _ H
def L_X7_findWays_7 (N : Nat) : Nat → Int → Hp → Option (Hp)
  | 0, _, _ => none
  | n + 1, x1, h =>
    if 196 ≤ x1 then
      bnd (hw h 7 3 (idiv (h 7 3) 2)) fun h1 =>
      L_X7_findWays_98 N  N 0 h1
    else
    if (irem x1 15) = 0 then
      grd (0 ≤ x1 ∧ x1 < 196) <|
      bnd (hw h 10 x1.toNat 0) fun h2 =>
      J_X7_findWays_80 N (L_X7_findWays_7 N n) x1 h2
    else
    grd (0 ≤ x1 ∧ x1 < 196) <|
    if (h 8 x1.toNat) ≤ 0 then
      J_X7_findWays_56 N (L_X7_findWays_7 N n) x1 x1 (-2) h
    else
    grd (0 ≤ x1 ∧ x1 < 196) <|
    J_X7_findWays_56 N (L_X7_findWays_7 N n) x1 x1 (h 8 x1.toNat) h
set_option maxRecDepth 100000 in
set_option maxHeartbeats 4000000 in
theorem R_L_X7_findWays_7 (N : Nat) : ∀ (n : Nat) (x1 : Int) (h : Hp) (res : Hp), L_X7_findWays_7 N n x1 h = some res → Go M_X7_findWays 2 7 [some (.inr 8), some (.inl x1), none] [] h (Qv res)
  | 0, _, _, _, H => by cases H
  | n + 1, x1, h, res, H => by
    have ih := R_L_X7_findWays_7 N n
    simp only [L_X7_findWays_7] at H
    refine g_iload_n (T_X7_findWays 5 _ _ _ rfl) rfl ?_
    refine g_sipush (T_X7_findWays 6 _ _ _ rfl) (by decide) ?_
    refine g_icmp_ge (tgt := 86) (T_X7_findWays 7 _ _ _ rfl) (by decide) (fun cc => ?_) (fun cc => ?_)
    · replace H := ite_p cc H
      refine g_aload_n (T_X7_findWays 48 _ _ _ rfl) rfl ?_
      refine g_dup (T_X7_findWays 49 _ _ _ rfl) ?_
      refine g_getI (c := 7) (T_X7_findWays 50 _ _ _ rfl) fl_X7_21 rfl (Or.inl rfl) ?_
      refine g_iconst (T_X7_findWays 51 _ _ _ rfl) ⟨by decide, by decide⟩ ?_
      refine g_idiv (T_X7_findWays 52 _ _ _ rfl) (by decide) ?_
      refine g_put (c := 7) (T_X7_findWays 53 _ _ _ rfl) fl_X7_21 rfl (Or.inl rfl) ?_
      refine g_bndH H fun h1 H => ?_
      refine g_iconst (T_X7_findWays 54 _ _ _ rfl) ⟨by decide, by decide⟩ ?_
      refine g_istore_n (T_X7_findWays 55 _ _ _ rfl) (by decide) ?_
      refine g_weak [true, true, false] ?_
      refine R_L_X7_findWays_98 N   _ _ _ _ H
    · replace H := ite_n cc H
      refine g_iload_n (T_X7_findWays 8 _ _ _ rfl) rfl ?_
      refine g_bipush (T_X7_findWays 9 _ _ _ rfl) (by decide) ?_
      refine g_irem (T_X7_findWays 10 _ _ _ rfl) (by decide) ?_
      refine g_if_ne (tgt := 31) (T_X7_findWays 11 _ _ _ rfl) (by decide) (fun cc => ?_) (fun cc => ?_)
      · replace H := ite_n cc H
        refine g_aload_n (T_X7_findWays 18 _ _ _ rfl) rfl ?_
        refine g_getR (c := 7) (r := 11) (T_X7_findWays 19 _ _ _ rfl) fl_X7_18 rfl (nR rfl) rfl (by decide) ?_
        refine g_iload_n (T_X7_findWays 20 _ _ _ rfl) rfl ?_
        refine g_aload_n (T_X7_findWays 21 _ _ _ rfl) rfl ?_
        refine g_getR (c := 7) (r := 9) (T_X7_findWays 22 _ _ _ rfl) fl_X7_11 rfl (nR rfl) rfl (by decide) ?_
        refine g_iload_n (T_X7_findWays 23 _ _ _ rfl) rfl ?_
        obtain ⟨hg, H⟩ := grd_some H
        refine g_iald (c := 8) (T_X7_findWays 24 _ _ _ rfl) rfl hg ?_
        refine g_if_le (tgt := 54) (T_X7_findWays 25 _ _ _ rfl) (by decide) (fun cc => ?_) (fun cc => ?_)
        · replace H := ite_p cc H
          refine g_bipush (T_X7_findWays 31 _ _ _ rfl) (by decide) ?_
          refine g_weak [true, true, false] ?_
          exact R_J_X7_findWays_56 N (L_X7_findWays_7 N n) ih _ _ _ _ _ H
        · replace H := ite_n cc H
          refine g_aload_n (T_X7_findWays 26 _ _ _ rfl) rfl ?_
          refine g_getR (c := 7) (r := 9) (T_X7_findWays 27 _ _ _ rfl) fl_X7_11 rfl (nR rfl) rfl (by decide) ?_
          refine g_iload_n (T_X7_findWays 28 _ _ _ rfl) rfl ?_
          obtain ⟨hg, H⟩ := grd_some H
          refine g_iald (c := 8) (T_X7_findWays 29 _ _ _ rfl) rfl hg ?_
          refine g_goto (tgt := 56) (T_X7_findWays 30 _ _ _ rfl) (by decide) ?_
          refine g_weak [true, true, false] ?_
          exact R_J_X7_findWays_56 N (L_X7_findWays_7 N n) ih _ _ _ _ _ H
      · replace H := ite_p cc H
        refine g_aload_n (T_X7_findWays 12 _ _ _ rfl) rfl ?_
        refine g_getR (c := 7) (r := 11) (T_X7_findWays 13 _ _ _ rfl) fl_X7_18 rfl (nR rfl) rfl (by decide) ?_
        refine g_iload_n (T_X7_findWays 14 _ _ _ rfl) rfl ?_
        refine g_iconst (T_X7_findWays 15 _ _ _ rfl) ⟨by decide, by decide⟩ ?_
        obtain ⟨hg, H⟩ := grd_some H
        refine g_iast (c := 10) (T_X7_findWays 16 _ _ _ rfl) rfl hg ?_
        refine g_bndH H fun h2 H => ?_
        refine g_goto (tgt := 80) (T_X7_findWays 17 _ _ _ rfl) (by decide) ?_
        refine g_weak [true, true, false] ?_
        exact R_J_X7_findWays_80 N (L_X7_findWays_7 N n) ih _ _ _ H
def F_X7_findWays (N : Nat) (h : Hp) : Option (Hp) :=
  bnd (hw h 7 3 0) fun h1 =>
  L_X7_findWays_7 N  N 0 h1
set_option maxRecDepth 100000 in
set_option maxHeartbeats 4000000 in
theorem R_X7_findWays (N : Nat) (h : Hp) (res : Hp) (H : F_X7_findWays N h = some res) : Runs M_X7_findWays 2 [.inr 8] h (Qv res) := by
  refine Runs.of rfl (Nat.le_of_ble_eq_true rfl) ?_
  show Go M_X7_findWays 2 0 [some (.inr 8), none, none] [] h (Qv res)
  unfold F_X7_findWays at H
  refine g_aload_n (T_X7_findWays 0 _ _ _ rfl) rfl ?_
  refine g_iconst (T_X7_findWays 1 _ _ _ rfl) ⟨by decide, by decide⟩ ?_
  refine g_put (c := 7) (T_X7_findWays 2 _ _ _ rfl) fl_X7_21 rfl (Or.inl rfl) ?_
  refine g_bndH H fun h1 H => ?_
  refine g_iconst (T_X7_findWays 3 _ _ _ rfl) ⟨by decide, by decide⟩ ?_
  refine g_istore_n (T_X7_findWays 4 _ _ _ rfl) (by decide) ?_
  refine g_weak [true, true, false] ?_
  refine R_L_X7_findWays_7 N   _ _ _ _ H
def F_X10_seesStreet (N : Nat) (h : Hp) : Option (Int × Hp) :=
  if (h 41 5) = 0 then
    if (h 41 4) < 97 then
      some (0, h)
    else
    if 110 < (h 41 4) then
      some (0, h)
    else
    some (1, h)
  else
  some (0, h)
set_option maxRecDepth 100000 in
set_option maxHeartbeats 4000000 in
theorem R_X10_seesStreet (N : Nat) (h : Hp) (res : Int × Hp) (H : F_X10_seesStreet N h = some res) : Runs M_X10_seesStreet 1 [.inr 42] h (Qi res) := by
  refine Runs.of rfl (Nat.le_of_ble_eq_true rfl) ?_
  show Go M_X10_seesStreet 1 0 [some (.inr 42)] [] h (Qi res)
  unfold F_X10_seesStreet at H
  refine g_aload_n (T_X10_seesStreet 0 _ _ _ rfl) rfl ?_
  refine g_getI (c := 41) (T_X10_seesStreet 1 _ _ _ rfl) fl_X10_33 rfl (Or.inl rfl) ?_
  refine g_if_ne (tgt := 29) (T_X10_seesStreet 2 _ _ _ rfl) (by decide) (fun cc => ?_) (fun cc => ?_)
  · replace H := ite_n cc H
    refine g_iconst (T_X10_seesStreet 13 _ _ _ rfl) ⟨by decide, by decide⟩ ?_
    exact g_zret (T_X10_seesStreet 14 _ _ _ rfl) rfl (by decide) (qi_of H)
  · replace H := ite_p cc H
    refine g_aload_n (T_X10_seesStreet 3 _ _ _ rfl) rfl ?_
    refine g_getI (c := 41) (T_X10_seesStreet 4 _ _ _ rfl) fl_X10_36 rfl (Or.inl rfl) ?_
    refine g_bipush (T_X10_seesStreet 5 _ _ _ rfl) (by decide) ?_
    refine g_icmp_lt (tgt := 29) (T_X10_seesStreet 6 _ _ _ rfl) (by decide) (fun cc => ?_) (fun cc => ?_)
    · replace H := ite_p cc H
      refine g_iconst (T_X10_seesStreet 13 _ _ _ rfl) ⟨by decide, by decide⟩ ?_
      exact g_zret (T_X10_seesStreet 14 _ _ _ rfl) rfl (by decide) (qi_of H)
    · replace H := ite_n cc H
      refine g_aload_n (T_X10_seesStreet 7 _ _ _ rfl) rfl ?_
      refine g_getI (c := 41) (T_X10_seesStreet 8 _ _ _ rfl) fl_X10_36 rfl (Or.inl rfl) ?_
      refine g_bipush (T_X10_seesStreet 9 _ _ _ rfl) (by decide) ?_
      refine g_icmp_gt (tgt := 29) (T_X10_seesStreet 10 _ _ _ rfl) (by decide) (fun cc => ?_) (fun cc => ?_)
      · replace H := ite_p cc H
        refine g_iconst (T_X10_seesStreet 13 _ _ _ rfl) ⟨by decide, by decide⟩ ?_
        exact g_zret (T_X10_seesStreet 14 _ _ _ rfl) rfl (by decide) (qi_of H)
      · replace H := ite_n cc H
        refine g_iconst (T_X10_seesStreet 11 _ _ _ rfl) ⟨by decide, by decide⟩ ?_
        refine g_goto (tgt := 30) (T_X10_seesStreet 12 _ _ _ rfl) (by decide) ?_
        exact g_zret (T_X10_seesStreet 14 _ _ _ rfl) rfl (by decide) (qi_of H)
def F_X7_readStreet (N : Nat) (h : Hp) : Option (Hp) :=
  bd (F_X10_seesStreet N h) fun y2 h1 =>
  if y2 = 0 then
    bv (F_X10_fail N 1 h1) fun h9 =>
    some h9
  else
  bd (F_X10_sign N h1) fun y4 h3 =>
  bd (F_X1_isTold N (w32 (y4 - 97)) h3) fun y6 h5 =>
  if y6 = 0 then
    bv (F_X10_fail N 7 h5) fun h8 =>
    some h8
  else
  bv (F_X10_step N h5) fun h7 =>
  some h7
set_option maxRecDepth 100000 in
set_option maxHeartbeats 4000000 in
theorem R_X7_readStreet (N : Nat) (h : Hp) (res : Hp) (H : F_X7_readStreet N h = some res) : Runs M_X7_readStreet 2 [.inr 8, .inr 42, .inr 2] h (Qv res) := by
  refine Runs.of rfl (Nat.le_of_ble_eq_true rfl) ?_
  show Go M_X7_readStreet 2 0 [some (.inr 8), some (.inr 42), some (.inr 2)] [] h (Qv res)
  unfold F_X7_readStreet at H
  refine g_aload_n (T_X7_readStreet 0 _ _ _ rfl) rfl ?_
  obtain ⟨y2, h1, hq, H⟩ := bd_some H
  refine g_callVi (M' := M_X10_seesStreet) (c := 41) (av := []) (st := []) (T_X7_readStreet 1 _ _ _ rfl) ml_X7_58 cb_X10_seesStreet rfl rfl (Nat.le_of_ble_eq_true rfl) (by omega) (R_X10_seesStreet N _ _ hq) ?_
  refine g_if_ne (tgt := 15) (T_X7_readStreet 2 _ _ _ rfl) (by decide) (fun cc => ?_) (fun cc => ?_)
  · replace H := ite_n cc H
    refine g_aload_n (T_X7_readStreet 7 _ _ _ rfl) rfl ?_
    refine g_aload_n (T_X7_readStreet 8 _ _ _ rfl) rfl ?_
    obtain ⟨y4, h3, hq, H⟩ := bd_some H
    refine g_callVi (M' := M_X10_sign) (c := 41) (av := []) (st := [.inr 2]) (T_X7_readStreet 9 _ _ _ rfl) ml_X7_55 cb_X10_sign rfl rfl (Nat.le_of_ble_eq_true rfl) (by omega) (R_X10_sign N _ _ hq) ?_
    refine g_bipush (T_X7_readStreet 10 _ _ _ rfl) (by decide) ?_
    refine g_isub (T_X7_readStreet 11 _ _ _ rfl) ?_
    obtain ⟨y6, h5, hq, H⟩ := bd_some H
    refine g_callVi (M' := M_X1_isTold) (c := 1) (av := [.inl (w32 (y4 - 97))]) (st := []) (T_X7_readStreet 12 _ _ _ rfl) ml_X7_68 cb_X1_isTold rfl rfl (Nat.le_of_ble_eq_true rfl) (by omega) (R_X1_isTold N _ _ _ hq) ?_
    refine g_if_ne (tgt := 38) (T_X7_readStreet 13 _ _ _ rfl) (by decide) (fun cc => ?_) (fun cc => ?_)
    · replace H := ite_n cc H
      refine g_aload_n (T_X7_readStreet 18 _ _ _ rfl) rfl ?_
      obtain ⟨h7, hq, H⟩ := bv_some H
      refine g_callVv (M' := M_X10_step) (c := 41) (av := []) (st := []) (T_X7_readStreet 19 _ _ _ rfl) ml_X7_85 cb_X10_step rfl rfl (Nat.le_of_ble_eq_true rfl) (by omega) (R_X10_step N _ _ hq) ?_
      exact g_vret (T_X7_readStreet 20 _ _ _ rfl) rfl (qv_of H)
    · replace H := ite_p cc H
      refine g_aload_n (T_X7_readStreet 14 _ _ _ rfl) rfl ?_
      refine g_bipush (T_X7_readStreet 15 _ _ _ rfl) (by decide) ?_
      obtain ⟨h8, hq, H⟩ := bv_some H
      refine g_callVv (M' := M_X10_fail) (c := 41) (av := [.inl 7]) (st := []) (T_X7_readStreet 16 _ _ _ rfl) ml_X7_61 cb_X10_fail rfl rfl (Nat.le_of_ble_eq_true rfl) (by omega) (R_X10_fail N _ _ _ hq) ?_
      refine g_goto (tgt := 42) (T_X7_readStreet 17 _ _ _ rfl) (by decide) ?_
      exact g_vret (T_X7_readStreet 20 _ _ _ rfl) rfl (qv_of H)
  · replace H := ite_p cc H
    refine g_aload_n (T_X7_readStreet 3 _ _ _ rfl) rfl ?_
    refine g_iconst (T_X7_readStreet 4 _ _ _ rfl) ⟨by decide, by decide⟩ ?_
    obtain ⟨h9, hq, H⟩ := bv_some H
    refine g_callVv (M' := M_X10_fail) (c := 41) (av := [.inl 1]) (st := []) (T_X7_readStreet 5 _ _ _ rfl) ml_X7_61 cb_X10_fail rfl rfl (Nat.le_of_ble_eq_true rfl) (by omega) (R_X10_fail N _ _ _ hq) ?_
    refine g_goto (tgt := 42) (T_X7_readStreet 6 _ _ _ rfl) (by decide) ?_
    exact g_vret (T_X7_readStreet 20 _ _ _ rfl) rfl (qv_of H)
def F_X10_place (N : Nat) (h : Hp) : Option (Int × Hp) :=
  some ((h 41 2), h)
set_option maxRecDepth 100000 in
set_option maxHeartbeats 4000000 in
theorem R_X10_place (N : Nat) (h : Hp) (res : Int × Hp) (H : F_X10_place N h = some res) : Runs M_X10_place 1 [.inr 42] h (Qi res) := by
  refine Runs.of rfl (Nat.le_of_ble_eq_true rfl) ?_
  show Go M_X10_place 1 0 [some (.inr 42)] [] h (Qi res)
  unfold F_X10_place at H
  refine g_aload_n (T_X10_place 0 _ _ _ rfl) rfl ?_
  refine g_getI (c := 41) (T_X10_place 1 _ _ _ rfl) fl_X10_27 rfl (Or.inl rfl) ?_
  exact g_iret (T_X10_place 2 _ _ _ rfl) rfl (qi_of H)
def F_X10_failAt (N : Nat) (x1 : Int) (x2 : Int) (h : Hp) : Option (Hp) :=
  if (h 41 5) = 0 then
    bnd (hw h 41 5 (w32 ((w32 ((-1000) * x1)) - x2))) fun h1 =>
    some h1
  else
  some h
set_option maxRecDepth 100000 in
set_option maxHeartbeats 4000000 in
theorem R_X10_failAt (N : Nat) (x1 : Int) (x2 : Int) (h : Hp) (res : Hp) (H : F_X10_failAt N x1 x2 h = some res) : Runs M_X10_failAt 1 [.inr 42, .inl x1, .inl x2] h (Qv res) := by
  refine Runs.of rfl (Nat.le_of_ble_eq_true rfl) ?_
  show Go M_X10_failAt 1 0 [some (.inr 42), some (.inl x1), some (.inl x2)] [] h (Qv res)
  unfold F_X10_failAt at H
  refine g_aload_n (T_X10_failAt 0 _ _ _ rfl) rfl ?_
  refine g_getI (c := 41) (T_X10_failAt 1 _ _ _ rfl) fl_X10_33 rfl (Or.inl rfl) ?_
  refine g_if_ne (tgt := 18) (T_X10_failAt 2 _ _ _ rfl) (by decide) (fun cc => ?_) (fun cc => ?_)
  · replace H := ite_n cc H
    exact g_vret (T_X10_failAt 10 _ _ _ rfl) rfl (qv_of H)
  · replace H := ite_p cc H
    refine g_aload_n (T_X10_failAt 3 _ _ _ rfl) rfl ?_
    refine g_sipush (T_X10_failAt 4 _ _ _ rfl) (by decide) ?_
    refine g_iload_n (T_X10_failAt 5 _ _ _ rfl) rfl ?_
    refine g_imul (T_X10_failAt 6 _ _ _ rfl) ?_
    refine g_iload_n (T_X10_failAt 7 _ _ _ rfl) rfl ?_
    refine g_isub (T_X10_failAt 8 _ _ _ rfl) ?_
    refine g_put (c := 41) (T_X10_failAt 9 _ _ _ rfl) fl_X10_33 rfl (Or.inl rfl) ?_
    refine g_bndH H fun h1 H => ?_
    exact g_vret (T_X10_failAt 10 _ _ _ rfl) rfl (qv_of H)
def J_X7_readLine_109 (N : Nat) (x4 : Int) (x5 : Int) (x7 : Int) (h : Hp) : Option (Hp) :=
  bd (F_X10_isSound N h) fun y2 h1 =>
  if y2 = 0 then
    some h1
  else
  bd (F_X1_isTold N x4 h1) fun y4 h3 =>
  if y4 = 0 then
    some h3
  else
  bd (F_X1_isTold N x5 h3) fun y6 h5 =>
  if y6 = 0 then
    some h5
  else
  grd (0 ≤ (w32 ((w32 (x4 * 14)) + x5)) ∧ (w32 ((w32 (x4 * 14)) + x5)) < 196) <|
  bnd (hw h5 9 (w32 ((w32 (x4 * 14)) + x5)).toNat x7) fun h7 =>
  grd (0 ≤ (w32 ((w32 (x5 * 14)) + x4)) ∧ (w32 ((w32 (x5 * 14)) + x4)) < 196) <|
  bnd (hw h7 9 (w32 ((w32 (x5 * 14)) + x4)).toNat x7) fun h8 =>
  some h8
set_option maxRecDepth 100000 in
set_option maxHeartbeats 4000000 in
theorem R_J_X7_readLine_109 (N : Nat) (x4 : Int) (x5 : Int) (x7 : Int) (h : Hp) (res : Hp) (H : J_X7_readLine_109 N x4 x5 x7 h = some res) : Go M_X7_readLine 3 109 [some (.inr 8), some (.inr 42), some (.inr 2), none, some (.inl x4), some (.inl x5), none, some (.inl x7)] [] h (Qv res) := by
  unfold J_X7_readLine_109 at H
  refine g_aload_n (T_X7_readLine 56 _ _ _ rfl) rfl ?_
  obtain ⟨y2, h1, hq, H⟩ := bd_some H
  refine g_callVi (M' := M_X10_isSound) (c := 41) (av := []) (st := []) (T_X7_readLine 57 _ _ _ rfl) ml_X7_25 cb_X10_isSound rfl rfl (Nat.le_of_ble_eq_true rfl) (by omega) (R_X10_isSound N _ _ hq) ?_
  refine g_if_eq (tgt := 164) (T_X7_readLine 58 _ _ _ rfl) (by decide) (fun cc => ?_) (fun cc => ?_)
  · replace H := ite_p cc H
    exact g_vret (T_X7_readLine 85 _ _ _ rfl) rfl (qv_of H)
  · replace H := ite_n cc H
    refine g_aload_n (T_X7_readLine 59 _ _ _ rfl) rfl ?_
    refine g_iload (T_X7_readLine 60 _ _ _ rfl) rfl ?_
    obtain ⟨y4, h3, hq, H⟩ := bd_some H
    refine g_callVi (M' := M_X1_isTold) (c := 1) (av := [.inl x4]) (st := []) (T_X7_readLine 61 _ _ _ rfl) ml_X7_68 cb_X1_isTold rfl rfl (Nat.le_of_ble_eq_true rfl) (by omega) (R_X1_isTold N _ _ _ hq) ?_
    refine g_if_eq (tgt := 164) (T_X7_readLine 62 _ _ _ rfl) (by decide) (fun cc => ?_) (fun cc => ?_)
    · replace H := ite_p cc H
      exact g_vret (T_X7_readLine 85 _ _ _ rfl) rfl (qv_of H)
    · replace H := ite_n cc H
      refine g_aload_n (T_X7_readLine 63 _ _ _ rfl) rfl ?_
      refine g_iload (T_X7_readLine 64 _ _ _ rfl) rfl ?_
      obtain ⟨y6, h5, hq, H⟩ := bd_some H
      refine g_callVi (M' := M_X1_isTold) (c := 1) (av := [.inl x5]) (st := []) (T_X7_readLine 65 _ _ _ rfl) ml_X7_68 cb_X1_isTold rfl rfl (Nat.le_of_ble_eq_true rfl) (by omega) (R_X1_isTold N _ _ _ hq) ?_
      refine g_if_eq (tgt := 164) (T_X7_readLine 66 _ _ _ rfl) (by decide) (fun cc => ?_) (fun cc => ?_)
      · replace H := ite_p cc H
        exact g_vret (T_X7_readLine 85 _ _ _ rfl) rfl (qv_of H)
      · replace H := ite_n cc H
        refine g_aload_n (T_X7_readLine 67 _ _ _ rfl) rfl ?_
        refine g_getR (c := 7) (r := 10) (T_X7_readLine 68 _ _ _ rfl) fl_X7_15 rfl (nR rfl) rfl (by decide) ?_
        refine g_iload (T_X7_readLine 69 _ _ _ rfl) rfl ?_
        refine g_bipush (T_X7_readLine 70 _ _ _ rfl) (by decide) ?_
        refine g_imul (T_X7_readLine 71 _ _ _ rfl) ?_
        refine g_iload (T_X7_readLine 72 _ _ _ rfl) rfl ?_
        refine g_iadd (T_X7_readLine 73 _ _ _ rfl) ?_
        refine g_iload (T_X7_readLine 74 _ _ _ rfl) rfl ?_
        obtain ⟨hg, H⟩ := grd_some H
        refine g_iast (c := 9) (T_X7_readLine 75 _ _ _ rfl) rfl hg ?_
        refine g_bndH H fun h7 H => ?_
        refine g_aload_n (T_X7_readLine 76 _ _ _ rfl) rfl ?_
        refine g_getR (c := 7) (r := 10) (T_X7_readLine 77 _ _ _ rfl) fl_X7_15 rfl (nR rfl) rfl (by decide) ?_
        refine g_iload (T_X7_readLine 78 _ _ _ rfl) rfl ?_
        refine g_bipush (T_X7_readLine 79 _ _ _ rfl) (by decide) ?_
        refine g_imul (T_X7_readLine 80 _ _ _ rfl) ?_
        refine g_iload (T_X7_readLine 81 _ _ _ rfl) rfl ?_
        refine g_iadd (T_X7_readLine 82 _ _ _ rfl) ?_
        refine g_iload (T_X7_readLine 83 _ _ _ rfl) rfl ?_
        obtain ⟨hg, H⟩ := grd_some H
        refine g_iast (c := 9) (T_X7_readLine 84 _ _ _ rfl) rfl hg ?_
        refine g_bndH H fun h8 H => ?_
        exact g_vret (T_X7_readLine 85 _ _ _ rfl) rfl (qv_of H)
def J_X7_readLine_71 (N : Nat) (x4 : Int) (x5 : Int) (h : Hp) : Option (Hp) :=
  bv (F_X7_readStreet N h) fun h1 =>
  bd (F_X10_place N h1) fun y3 h2 =>
  bd (F_X10_readNumber N 2 h2) fun y5 h4 =>
  bd (F_X10_isSound N h4) fun y7 h6 =>
  if y7 = 0 then
    J_X7_readLine_109 N  x4 x5 y5 h6
  else
  if y5 = 0 then
    bv (F_X10_failAt N 3 y3 h6) fun h8 =>
    J_X7_readLine_109 N  x4 x5 y5 h8
  else
  J_X7_readLine_109 N  x4 x5 y5 h6
set_option maxRecDepth 100000 in
set_option maxHeartbeats 4000000 in
theorem R_J_X7_readLine_71 (N : Nat) (x4 : Int) (x5 : Int) (h : Hp) (res : Hp) (H : J_X7_readLine_71 N x4 x5 h = some res) : Go M_X7_readLine 3 71 [some (.inr 8), some (.inr 42), some (.inr 2), none, some (.inl x4), some (.inl x5), none, none] [] h (Qv res) := by
  unfold J_X7_readLine_71 at H
  refine g_aload_n (T_X7_readLine 36 _ _ _ rfl) rfl ?_
  refine g_aload_n (T_X7_readLine 37 _ _ _ rfl) rfl ?_
  refine g_aload_n (T_X7_readLine 38 _ _ _ rfl) rfl ?_
  obtain ⟨h1, hq, H⟩ := bv_some H
  refine g_callVv (M' := M_X7_readStreet) (c := 7) (av := [.inr 42, .inr 2]) (st := []) (T_X7_readLine 39 _ _ _ rfl) ml_X7_64 cb_X7_readStreet rfl rfl (Nat.le_of_ble_eq_true rfl) (by omega) (R_X7_readStreet N _ _ hq) ?_
  refine g_aload_n (T_X7_readLine 40 _ _ _ rfl) rfl ?_
  obtain ⟨y3, h2, hq, H⟩ := bd_some H
  refine g_callVi (M' := M_X10_place) (c := 41) (av := []) (st := []) (T_X7_readLine 41 _ _ _ rfl) ml_X7_74 cb_X10_place rfl rfl (Nat.le_of_ble_eq_true rfl) (by omega) (R_X10_place N _ _ hq) ?_
  refine g_istore (T_X7_readLine 42 _ _ _ rfl) (by decide) ?_
  refine g_aload_n (T_X7_readLine 43 _ _ _ rfl) rfl ?_
  refine g_iconst (T_X7_readLine 44 _ _ _ rfl) ⟨by decide, by decide⟩ ?_
  obtain ⟨y5, h4, hq, H⟩ := bd_some H
  refine g_callVi (M' := M_X10_readNumber) (c := 41) (av := [.inl 2]) (st := []) (T_X7_readLine 45 _ _ _ rfl) ml_X7_77 cb_X10_readNumber rfl rfl (Nat.le_of_ble_eq_true rfl) (by omega) (R_X10_readNumber N _ _ _ hq) ?_
  refine g_istore (T_X7_readLine 46 _ _ _ rfl) (by decide) ?_
  refine g_aload_n (T_X7_readLine 47 _ _ _ rfl) rfl ?_
  obtain ⟨y7, h6, hq, H⟩ := bd_some H
  refine g_callVi (M' := M_X10_isSound) (c := 41) (av := []) (st := []) (T_X7_readLine 48 _ _ _ rfl) ml_X7_25 cb_X10_isSound rfl rfl (Nat.le_of_ble_eq_true rfl) (by omega) (R_X10_isSound N _ _ hq) ?_
  refine g_if_eq (tgt := 109) (T_X7_readLine 49 _ _ _ rfl) (by decide) (fun cc => ?_) (fun cc => ?_)
  · replace H := ite_p cc H
    refine g_weak [true, true, true, false, true, true, false, true] ?_
    exact R_J_X7_readLine_109 N   _ _ _ _ _ H
  · replace H := ite_n cc H
    refine g_iload (T_X7_readLine 50 _ _ _ rfl) rfl ?_
    refine g_if_ne (tgt := 109) (T_X7_readLine 51 _ _ _ rfl) (by decide) (fun cc => ?_) (fun cc => ?_)
    · replace H := ite_n cc H
      refine g_weak [true, true, true, false, true, true, false, true] ?_
      exact R_J_X7_readLine_109 N   _ _ _ _ _ H
    · replace H := ite_p cc H
      refine g_aload_n (T_X7_readLine 52 _ _ _ rfl) rfl ?_
      refine g_iconst (T_X7_readLine 53 _ _ _ rfl) ⟨by decide, by decide⟩ ?_
      refine g_iload (T_X7_readLine 54 _ _ _ rfl) rfl ?_
      obtain ⟨h8, hq, H⟩ := bv_some H
      refine g_callVv (M' := M_X10_failAt) (c := 41) (av := [.inl 3, .inl y3]) (st := []) (T_X7_readLine 55 _ _ _ rfl) ml_X7_81 cb_X10_failAt rfl rfl (Nat.le_of_ble_eq_true rfl) (by omega) (R_X10_failAt N _ _ _ _ hq) ?_
      refine g_weak [true, true, true, false, true, true, false, true] ?_
      exact R_J_X7_readLine_109 N   _ _ _ _ _ H
def J_X7_readLine_27 (N : Nat) (x4 : Int) (h : Hp) : Option (Hp) :=
  bv (F_X7_readStreet N h) fun h1 =>
  bd (F_X10_sign N h1) fun y3 h2 =>
  bnd ((w32 (y3 - 97))) fun y4 =>
  bd (F_X10_seesStreet N h2) fun y6 h5 =>
  if y6 = 0 then
    J_X7_readLine_71 N  x4 y4 h5
  else
  bd (F_X1_isTold N y4 h5) fun y8 h7 =>
  if y8 = 0 then
    J_X7_readLine_71 N  x4 y4 h7
  else
  if y4 = x4 then
    bv (F_X10_fail N 6 h7) fun h9 =>
    J_X7_readLine_71 N  x4 y4 h9
  else
  J_X7_readLine_71 N  x4 y4 h7
set_option maxRecDepth 100000 in
set_option maxHeartbeats 4000000 in
theorem R_J_X7_readLine_27 (N : Nat) (x4 : Int) (h : Hp) (res : Hp) (H : J_X7_readLine_27 N x4 h = some res) : Go M_X7_readLine 3 27 [some (.inr 8), some (.inr 42), some (.inr 2), none, some (.inl x4), none, none, none] [] h (Qv res) := by
  unfold J_X7_readLine_27 at H
  refine g_aload_n (T_X7_readLine 14 _ _ _ rfl) rfl ?_
  refine g_aload_n (T_X7_readLine 15 _ _ _ rfl) rfl ?_
  refine g_aload_n (T_X7_readLine 16 _ _ _ rfl) rfl ?_
  obtain ⟨h1, hq, H⟩ := bv_some H
  refine g_callVv (M' := M_X7_readStreet) (c := 7) (av := [.inr 42, .inr 2]) (st := []) (T_X7_readLine 17 _ _ _ rfl) ml_X7_64 cb_X7_readStreet rfl rfl (Nat.le_of_ble_eq_true rfl) (by omega) (R_X7_readStreet N _ _ hq) ?_
  refine g_aload_n (T_X7_readLine 18 _ _ _ rfl) rfl ?_
  obtain ⟨y3, h2, hq, H⟩ := bd_some H
  refine g_callVi (M' := M_X10_sign) (c := 41) (av := []) (st := []) (T_X7_readLine 19 _ _ _ rfl) ml_X7_55 cb_X10_sign rfl rfl (Nat.le_of_ble_eq_true rfl) (by omega) (R_X10_sign N _ _ hq) ?_
  refine g_bipush (T_X7_readLine 20 _ _ _ rfl) (by decide) ?_
  refine g_isub (T_X7_readLine 21 _ _ _ rfl) ?_
  refine g_bndI H fun y4 H => ?_
  refine g_istore (T_X7_readLine 22 _ _ _ rfl) (by decide) ?_
  refine g_aload_n (T_X7_readLine 23 _ _ _ rfl) rfl ?_
  obtain ⟨y6, h5, hq, H⟩ := bd_some H
  refine g_callVi (M' := M_X10_seesStreet) (c := 41) (av := []) (st := []) (T_X7_readLine 24 _ _ _ rfl) ml_X7_58 cb_X10_seesStreet rfl rfl (Nat.le_of_ble_eq_true rfl) (by omega) (R_X10_seesStreet N _ _ hq) ?_
  refine g_if_eq (tgt := 71) (T_X7_readLine 25 _ _ _ rfl) (by decide) (fun cc => ?_) (fun cc => ?_)
  · replace H := ite_p cc H
    refine g_weak [true, true, true, false, true, true, false, false] ?_
    exact R_J_X7_readLine_71 N   _ _ _ _ H
  · replace H := ite_n cc H
    refine g_aload_n (T_X7_readLine 26 _ _ _ rfl) rfl ?_
    refine g_iload (T_X7_readLine 27 _ _ _ rfl) rfl ?_
    obtain ⟨y8, h7, hq, H⟩ := bd_some H
    refine g_callVi (M' := M_X1_isTold) (c := 1) (av := [.inl y4]) (st := []) (T_X7_readLine 28 _ _ _ rfl) ml_X7_68 cb_X1_isTold rfl rfl (Nat.le_of_ble_eq_true rfl) (by omega) (R_X1_isTold N _ _ _ hq) ?_
    refine g_if_eq (tgt := 71) (T_X7_readLine 29 _ _ _ rfl) (by decide) (fun cc => ?_) (fun cc => ?_)
    · replace H := ite_p cc H
      refine g_weak [true, true, true, false, true, true, false, false] ?_
      exact R_J_X7_readLine_71 N   _ _ _ _ H
    · replace H := ite_n cc H
      refine g_iload (T_X7_readLine 30 _ _ _ rfl) rfl ?_
      refine g_iload (T_X7_readLine 31 _ _ _ rfl) rfl ?_
      refine g_icmp_ne (tgt := 71) (T_X7_readLine 32 _ _ _ rfl) (by decide) (fun cc => ?_) (fun cc => ?_)
      · replace H := ite_n cc H
        refine g_weak [true, true, true, false, true, true, false, false] ?_
        exact R_J_X7_readLine_71 N   _ _ _ _ H
      · replace H := ite_p cc H
        refine g_aload_n (T_X7_readLine 33 _ _ _ rfl) rfl ?_
        refine g_bipush (T_X7_readLine 34 _ _ _ rfl) (by decide) ?_
        obtain ⟨h9, hq, H⟩ := bv_some H
        refine g_callVv (M' := M_X10_fail) (c := 41) (av := [.inl 6]) (st := []) (T_X7_readLine 35 _ _ _ rfl) ml_X7_61 cb_X10_fail rfl rfl (Nat.le_of_ble_eq_true rfl) (by omega) (R_X10_fail N _ _ _ hq) ?_
        refine g_weak [true, true, true, false, true, true, false, false] ?_
        exact R_J_X7_readLine_71 N   _ _ _ _ H
def F_X7_readLine (N : Nat) (x3 : Int) (h : Hp) : Option (Hp) :=
  bd (F_X10_sign N h) fun y2 h1 =>
  bnd ((w32 (y2 - 97))) fun y3 =>
  bd (F_X10_seesStreet N h1) fun y5 h4 =>
  if y5 = 0 then
    J_X7_readLine_27 N  y3 h4
  else
  if x3 = 40 then
    bv (F_X10_fail N 4 h4) fun h6 =>
    J_X7_readLine_27 N  y3 h6
  else
  J_X7_readLine_27 N  y3 h4
set_option maxRecDepth 100000 in
set_option maxHeartbeats 4000000 in
theorem R_X7_readLine (N : Nat) (x3 : Int) (h : Hp) (res : Hp) (H : F_X7_readLine N x3 h = some res) : Runs M_X7_readLine 3 [.inr 8, .inr 42, .inr 2, .inl x3] h (Qv res) := by
  refine Runs.of rfl (Nat.le_of_ble_eq_true rfl) ?_
  show Go M_X7_readLine 3 0 [some (.inr 8), some (.inr 42), some (.inr 2), some (.inl x3), none, none, none, none] [] h (Qv res)
  unfold F_X7_readLine at H
  refine g_aload_n (T_X7_readLine 0 _ _ _ rfl) rfl ?_
  obtain ⟨y2, h1, hq, H⟩ := bd_some H
  refine g_callVi (M' := M_X10_sign) (c := 41) (av := []) (st := []) (T_X7_readLine 1 _ _ _ rfl) ml_X7_55 cb_X10_sign rfl rfl (Nat.le_of_ble_eq_true rfl) (by omega) (R_X10_sign N _ _ hq) ?_
  refine g_bipush (T_X7_readLine 2 _ _ _ rfl) (by decide) ?_
  refine g_isub (T_X7_readLine 3 _ _ _ rfl) ?_
  refine g_bndI H fun y3 H => ?_
  refine g_istore (T_X7_readLine 4 _ _ _ rfl) (by decide) ?_
  refine g_aload_n (T_X7_readLine 5 _ _ _ rfl) rfl ?_
  obtain ⟨y5, h4, hq, H⟩ := bd_some H
  refine g_callVi (M' := M_X10_seesStreet) (c := 41) (av := []) (st := []) (T_X7_readLine 6 _ _ _ rfl) ml_X7_58 cb_X10_seesStreet rfl rfl (Nat.le_of_ble_eq_true rfl) (by omega) (R_X10_seesStreet N _ _ hq) ?_
  refine g_if_eq (tgt := 27) (T_X7_readLine 7 _ _ _ rfl) (by decide) (fun cc => ?_) (fun cc => ?_)
  · replace H := ite_p cc H
    refine g_weak [true, true, true, false, true, false, false, false] ?_
    exact R_J_X7_readLine_27 N   _ _ _ H
  · replace H := ite_n cc H
    refine g_iload_n (T_X7_readLine 8 _ _ _ rfl) rfl ?_
    refine g_bipush (T_X7_readLine 9 _ _ _ rfl) (by decide) ?_
    refine g_icmp_ne (tgt := 27) (T_X7_readLine 10 _ _ _ rfl) (by decide) (fun cc => ?_) (fun cc => ?_)
    · replace H := ite_n cc H
      refine g_weak [true, true, true, false, true, false, false, false] ?_
      exact R_J_X7_readLine_27 N   _ _ _ H
    · replace H := ite_p cc H
      refine g_aload_n (T_X7_readLine 11 _ _ _ rfl) rfl ?_
      refine g_iconst (T_X7_readLine 12 _ _ _ rfl) ⟨by decide, by decide⟩ ?_
      obtain ⟨h6, hq, H⟩ := bv_some H
      refine g_callVv (M' := M_X10_fail) (c := 41) (av := [.inl 4]) (st := []) (T_X7_readLine 13 _ _ _ rfl) ml_X7_61 cb_X10_fail rfl rfl (Nat.le_of_ble_eq_true rfl) (by omega) (R_X10_fail N _ _ _ hq) ?_
      refine g_weak [true, true, true, false, true, false, false, false] ?_
      exact R_J_X7_readLine_27 N   _ _ _ H
def J_X7_read_74 (N : Nat) (x3 : Int) (h : Hp) : Option (Int × Hp) :=
  bd (F_X10_isSound N h) fun y2 h1 =>
  if y2 = 0 then
    bd (F_X10_fault N h1) fun y6 h5 =>
    some (y6, h5)
  else
  bnd (hcp h1 9 (0 : Int).toNat 8 (0 : Int).toNat (196 : Int).toNat) fun h3 =>
  bv (F_X7_findWays N h3) fun h4 =>
  some (x3, h4)
set_option maxRecDepth 100000 in
set_option maxHeartbeats 4000000 in
theorem R_J_X7_read_74 (N : Nat) (x3 : Int) (h : Hp) (res : Int × Hp) (H : J_X7_read_74 N x3 h = some res) : Go M_X7_read 4 74 [some (.inr 8), some (.inr 42), none, some (.inl x3), none] [] h (Qi res) := by
  unfold J_X7_read_74 at H
  refine g_aload_n (T_X7_read 37 _ _ _ rfl) rfl ?_
  obtain ⟨y2, h1, hq, H⟩ := bd_some H
  refine g_callVi (M' := M_X10_isSound) (c := 41) (av := []) (st := []) (T_X7_read 38 _ _ _ rfl) ml_X7_25 cb_X10_isSound rfl rfl (Nat.le_of_ble_eq_true rfl) (by omega) (R_X10_isSound N _ _ hq) ?_
  refine g_if_ne (tgt := 86) (T_X7_read 39 _ _ _ rfl) (by decide) (fun cc => ?_) (fun cc => ?_)
  · replace H := ite_n cc H
    refine g_aload_n (T_X7_read 43 _ _ _ rfl) rfl ?_
    refine g_getR (c := 7) (r := 10) (T_X7_read 44 _ _ _ rfl) fl_X7_15 rfl (nR rfl) rfl (by decide) ?_
    refine g_iconst (T_X7_read 45 _ _ _ rfl) ⟨by decide, by decide⟩ ?_
    refine g_aload_n (T_X7_read 46 _ _ _ rfl) rfl ?_
    refine g_getR (c := 7) (r := 9) (T_X7_read 47 _ _ _ rfl) fl_X7_11 rfl (nR rfl) rfl (by decide) ?_
    refine g_iconst (T_X7_read 48 _ _ _ rfl) ⟨by decide, by decide⟩ ?_
    refine g_sipush (T_X7_read 49 _ _ _ rfl) (by decide) ?_
    refine g_copy (c0 := 9) (c1 := 8) (n0 := 196) (n1 := 196) (st := []) (T_X7_read 50 _ _ _ rfl) ml_X7_46 wcopy rfl rfl (by decide) (Nat.le_of_ble_eq_true rfl) (by omega) ?_
    refine g_bndH H fun h3 H => ?_
    refine g_aload_n (T_X7_read 51 _ _ _ rfl) rfl ?_
    obtain ⟨h4, hq, H⟩ := bv_some H
    refine g_callVv (M' := M_X7_findWays) (c := 7) (av := []) (st := []) (T_X7_read 52 _ _ _ rfl) ml_X7_52 cb_X7_findWays rfl rfl (Nat.le_of_ble_eq_true rfl) (by omega) (R_X7_findWays N _ _ hq) ?_
    refine g_iload_n (T_X7_read 53 _ _ _ rfl) rfl ?_
    exact g_iret (T_X7_read 54 _ _ _ rfl) rfl (qi_of H)
  · replace H := ite_p cc H
    refine g_aload_n (T_X7_read 40 _ _ _ rfl) rfl ?_
    obtain ⟨y6, h5, hq, H⟩ := bd_some H
    refine g_callVi (M' := M_X10_fault) (c := 41) (av := []) (st := []) (T_X7_read 41 _ _ _ rfl) ml_X7_42 cb_X10_fault rfl rfl (Nat.le_of_ble_eq_true rfl) (by omega) (R_X10_fault N _ _ hq) ?_
    exact g_iret (T_X7_read 42 _ _ _ rfl) rfl (qi_of H)
def L_X7_read_27 (N : Nat) : Nat → Int → Int → Hp → Option (Int × Hp)
  | 0, _, _, _ => none
  | n + 1, x3, x4, h =>
    if 40 < x4 then
      J_X7_read_74 N  x3 h
    else
    bd (F_X10_isSound N h) fun y2 h1 =>
    if y2 = 0 then
      J_X7_read_74 N  x3 h1
    else
    bv (F_X7_readLine N x4 h1) fun h3 =>
    bnd (w32 (x3 + 1)) fun y4 =>
    bd (F_X10_isAtEnd N h3) fun y6 h5 =>
    if y6 = 0 then
      bv (F_X10_need N 59 h5) fun h7 =>
      bnd (w32 (x4 + 1)) fun y8 =>
      (L_X7_read_27 N n) y4 y8 h7
    else
    J_X7_read_74 N  y4 h5
set_option maxRecDepth 100000 in
set_option maxHeartbeats 4000000 in
theorem R_L_X7_read_27 (N : Nat) : ∀ (n : Nat) (x3 : Int) (x4 : Int) (h : Hp) (res : Int × Hp), L_X7_read_27 N n x3 x4 h = some res → Go M_X7_read 4 27 [some (.inr 8), some (.inr 42), some (.inr 2), some (.inl x3), some (.inl x4)] [] h (Qi res)
  | 0, _, _, _, _, H => by cases H
  | n + 1, x3, x4, h, res, H => by
    have ih := R_L_X7_read_27 N n
    simp only [L_X7_read_27] at H
    refine g_iload (T_X7_read 16 _ _ _ rfl) rfl ?_
    refine g_bipush (T_X7_read 17 _ _ _ rfl) (by decide) ?_
    refine g_icmp_gt (tgt := 74) (T_X7_read 18 _ _ _ rfl) (by decide) (fun cc => ?_) (fun cc => ?_)
    · replace H := ite_p cc H
      refine g_weak [true, true, false, true, false] ?_
      exact R_J_X7_read_74 N   _ _ _ H
    · replace H := ite_n cc H
      refine g_aload_n (T_X7_read 19 _ _ _ rfl) rfl ?_
      obtain ⟨y2, h1, hq, H⟩ := bd_some H
      refine g_callVi (M' := M_X10_isSound) (c := 41) (av := []) (st := []) (T_X7_read 20 _ _ _ rfl) ml_X7_25 cb_X10_isSound rfl rfl (Nat.le_of_ble_eq_true rfl) (by omega) (R_X10_isSound N _ _ hq) ?_
      refine g_if_eq (tgt := 74) (T_X7_read 21 _ _ _ rfl) (by decide) (fun cc => ?_) (fun cc => ?_)
      · replace H := ite_p cc H
        refine g_weak [true, true, false, true, false] ?_
        exact R_J_X7_read_74 N   _ _ _ H
      · replace H := ite_n cc H
        refine g_aload_n (T_X7_read 22 _ _ _ rfl) rfl ?_
        refine g_aload_n (T_X7_read 23 _ _ _ rfl) rfl ?_
        refine g_aload_n (T_X7_read 24 _ _ _ rfl) rfl ?_
        refine g_iload (T_X7_read 25 _ _ _ rfl) rfl ?_
        obtain ⟨h3, hq, H⟩ := bv_some H
        refine g_callVv (M' := M_X7_readLine) (c := 7) (av := [.inr 42, .inr 2, .inl x4]) (st := []) (T_X7_read 26 _ _ _ rfl) ml_X7_31 cb_X7_readLine rfl rfl (Nat.le_of_ble_eq_true rfl) (by omega) (R_X7_readLine N _ _ _ hq) ?_
        refine g_iincB (T_X7_read 27 _ _ _ rfl) rfl (by decide) H fun y4 H => ?_
        refine g_aload_n (T_X7_read 28 _ _ _ rfl) rfl ?_
        obtain ⟨y6, h5, hq, H⟩ := bd_some H
        refine g_callVi (M' := M_X10_isAtEnd) (c := 41) (av := []) (st := []) (T_X7_read 29 _ _ _ rfl) ml_X7_35 cb_X10_isAtEnd rfl rfl (Nat.le_of_ble_eq_true rfl) (by omega) (R_X10_isAtEnd N _ _ hq) ?_
        refine g_if_eq (tgt := 62) (T_X7_read 30 _ _ _ rfl) (by decide) (fun cc => ?_) (fun cc => ?_)
        · replace H := ite_p cc H
          refine g_aload_n (T_X7_read 32 _ _ _ rfl) rfl ?_
          refine g_bipush (T_X7_read 33 _ _ _ rfl) (by decide) ?_
          obtain ⟨h7, hq, H⟩ := bv_some H
          refine g_callVv (M' := M_X10_need) (c := 41) (av := [.inl 59]) (st := []) (T_X7_read 34 _ _ _ rfl) ml_X7_38 cb_X10_need rfl rfl (Nat.le_of_ble_eq_true rfl) (by omega) (R_X10_need N _ _ _ hq) ?_
          refine g_iincB (T_X7_read 35 _ _ _ rfl) rfl (by decide) H fun y8 H => ?_
          refine g_goto (tgt := 27) (T_X7_read 36 _ _ _ rfl) (by decide) ?_
          refine g_weak [true, true, true, true, true] ?_
          exact ih _ _ _ _ H
        · replace H := ite_n cc H
          refine g_goto (tgt := 74) (T_X7_read 31 _ _ _ rfl) (by decide) ?_
          refine g_weak [true, true, false, true, false] ?_
          exact R_J_X7_read_74 N   _ _ _ H
def L_X7_read_2 (N : Nat) : Nat → Int → Hp → Option (Int × Hp)
  | 0, _, _ => none
  | n + 1, x3, h =>
    if 196 ≤ x3 then
      L_X7_read_27 N  N 0 0 h
    else
    grd (0 ≤ x3 ∧ x3 < 196) <|
    bnd (hw h 9 x3.toNat 0) fun h1 =>
    bnd (w32 (x3 + 1)) fun y2 =>
    (L_X7_read_2 N n) y2 h1
set_option maxRecDepth 100000 in
set_option maxHeartbeats 4000000 in
theorem R_L_X7_read_2 (N : Nat) : ∀ (n : Nat) (x3 : Int) (h : Hp) (res : Int × Hp), L_X7_read_2 N n x3 h = some res → Go M_X7_read 4 2 [some (.inr 8), some (.inr 42), some (.inr 2), some (.inl x3), none] [] h (Qi res)
  | 0, _, _, _, H => by cases H
  | n + 1, x3, h, res, H => by
    have ih := R_L_X7_read_2 N n
    simp only [L_X7_read_2] at H
    refine g_iload_n (T_X7_read 2 _ _ _ rfl) rfl ?_
    refine g_sipush (T_X7_read 3 _ _ _ rfl) (by decide) ?_
    refine g_icmp_ge (tgt := 22) (T_X7_read 4 _ _ _ rfl) (by decide) (fun cc => ?_) (fun cc => ?_)
    · replace H := ite_p cc H
      refine g_iconst (T_X7_read 12 _ _ _ rfl) ⟨by decide, by decide⟩ ?_
      refine g_istore_n (T_X7_read 13 _ _ _ rfl) (by decide) ?_
      refine g_iconst (T_X7_read 14 _ _ _ rfl) ⟨by decide, by decide⟩ ?_
      refine g_istore (T_X7_read 15 _ _ _ rfl) (by decide) ?_
      refine g_weak [true, true, true, true, true] ?_
      refine R_L_X7_read_27 N   _ _ _ _ _ H
    · replace H := ite_n cc H
      refine g_aload_n (T_X7_read 5 _ _ _ rfl) rfl ?_
      refine g_getR (c := 7) (r := 10) (T_X7_read 6 _ _ _ rfl) fl_X7_15 rfl (nR rfl) rfl (by decide) ?_
      refine g_iload_n (T_X7_read 7 _ _ _ rfl) rfl ?_
      refine g_iconst (T_X7_read 8 _ _ _ rfl) ⟨by decide, by decide⟩ ?_
      obtain ⟨hg, H⟩ := grd_some H
      refine g_iast (c := 9) (T_X7_read 9 _ _ _ rfl) rfl hg ?_
      refine g_bndH H fun h1 H => ?_
      refine g_iincB (T_X7_read 10 _ _ _ rfl) rfl (by decide) H fun y2 H => ?_
      refine g_goto (tgt := 2) (T_X7_read 11 _ _ _ rfl) (by decide) ?_
      refine g_weak [true, true, true, true, false] ?_
      exact ih _ _ _ H
def F_X7_read (N : Nat) (h : Hp) : Option (Int × Hp) :=
  L_X7_read_2 N  N 0 h
set_option maxRecDepth 100000 in
set_option maxHeartbeats 4000000 in
theorem R_X7_read (N : Nat) (h : Hp) (res : Int × Hp) (H : F_X7_read N h = some res) : Runs M_X7_read 4 [.inr 8, .inr 42, .inr 2] h (Qi res) := by
  refine Runs.of rfl (Nat.le_of_ble_eq_true rfl) ?_
  show Go M_X7_read 4 0 [some (.inr 8), some (.inr 42), some (.inr 2), none, none] [] h (Qi res)
  unfold F_X7_read at H
  refine g_iconst (T_X7_read 0 _ _ _ rfl) ⟨by decide, by decide⟩ ?_
  refine g_istore_n (T_X7_read 1 _ _ _ rfl) (by decide) ?_
  refine g_weak [true, true, true, true, false] ?_
  refine R_L_X7_read_2 N   _ _ _ _ H
def F_X11_roads (N : Nat) (x1 : Int) (h : Hp) : Option (Int × Hp) :=
  bd (F_X11_isWithin N x1 1 200 h) fun y2 h1 =>
  if y2 = 0 then
    some ((-1), h1)
  else
  bd (F_X10_holds N x1 h1) fun y4 h3 =>
  if y4 = 0 then
    some ((-1), h3)
  else
  bv (F_X10_open N x1 h3) fun h5 =>
  bd (F_X7_read N h5) fun y7 h6 =>
  bv (F_X10_clear N h6) fun h8 =>
  some (y7, h8)
set_option maxRecDepth 100000 in
set_option maxHeartbeats 4000000 in
theorem R_X11_roads (N : Nat) (x1 : Int) (h : Hp) (res : Int × Hp) (H : F_X11_roads N x1 h = some res) : Runs M_X11_roads 5 [.inr 1, .inl x1] h (Qi res) := by
  refine Runs.of rfl (Nat.le_of_ble_eq_true rfl) ?_
  show Go M_X11_roads 5 0 [some (.inr 1), some (.inl x1), none] [] h (Qi res)
  unfold F_X11_roads at H
  refine g_iload_n (T_X11_roads 0 _ _ _ rfl) rfl ?_
  refine g_iconst (T_X11_roads 1 _ _ _ rfl) ⟨by decide, by decide⟩ ?_
  refine g_sipush (T_X11_roads 2 _ _ _ rfl) (by decide) ?_
  obtain ⟨y2, h1, hq, H⟩ := bd_some H
  refine g_callSi (M' := M_X11_isWithin) (av := [.inl x1, .inl 1, .inl 200]) (st := []) (T_X11_roads 3 _ _ _ rfl) ml_X11_96 cb_X11_isWithin rfl (Nat.le_of_ble_eq_true rfl) (by omega) (R_X11_isWithin N _ _ _ _ _ hq) ?_
  refine g_if_eq (tgt := 22) (T_X11_roads 4 _ _ _ rfl) (by decide) (fun cc => ?_) (fun cc => ?_)
  · replace H := ite_p cc H
    refine g_iconst (T_X11_roads 10 _ _ _ rfl) ⟨by decide, by decide⟩ ?_
    exact g_iret (T_X11_roads 11 _ _ _ rfl) rfl (qi_of H)
  · replace H := ite_n cc H
    refine g_aload_n (T_X11_roads 5 _ _ _ rfl) rfl ?_
    refine g_getR (c := 0) (r := 42) (T_X11_roads 6 _ _ _ rfl) fl_X11_24 rfl (nR rfl) rfl (by decide) ?_
    refine g_iload_n (T_X11_roads 7 _ _ _ rfl) rfl ?_
    obtain ⟨y4, h3, hq, H⟩ := bd_some H
    refine g_callVi (M' := M_X10_holds) (c := 41) (av := [.inl x1]) (st := []) (T_X11_roads 8 _ _ _ rfl) ml_X11_130 cb_X10_holds rfl rfl (Nat.le_of_ble_eq_true rfl) (by omega) (R_X10_holds N _ _ _ hq) ?_
    refine g_if_ne (tgt := 24) (T_X11_roads 9 _ _ _ rfl) (by decide) (fun cc => ?_) (fun cc => ?_)
    · replace H := ite_n cc H
      refine g_aload_n (T_X11_roads 12 _ _ _ rfl) rfl ?_
      refine g_getR (c := 0) (r := 42) (T_X11_roads 13 _ _ _ rfl) fl_X11_24 rfl (nR rfl) rfl (by decide) ?_
      refine g_iload_n (T_X11_roads 14 _ _ _ rfl) rfl ?_
      obtain ⟨h5, hq, H⟩ := bv_some H
      refine g_callVv (M' := M_X10_open) (c := 41) (av := [.inl x1]) (st := []) (T_X11_roads 15 _ _ _ rfl) ml_X11_133 cb_X10_open rfl rfl (Nat.le_of_ble_eq_true rfl) (by omega) (R_X10_open N _ _ _ hq) ?_
      refine g_aload_n (T_X11_roads 16 _ _ _ rfl) rfl ?_
      refine g_getR (c := 0) (r := 8) (T_X11_roads 17 _ _ _ rfl) fl_X11_32 rfl (nR rfl) rfl (by decide) ?_
      refine g_aload_n (T_X11_roads 18 _ _ _ rfl) rfl ?_
      refine g_getR (c := 0) (r := 42) (T_X11_roads 19 _ _ _ rfl) fl_X11_24 rfl (nR rfl) rfl (by decide) ?_
      refine g_aload_n (T_X11_roads 20 _ _ _ rfl) rfl ?_
      refine g_getR (c := 0) (r := 2) (T_X11_roads 21 _ _ _ rfl) fl_X11_28 rfl (nR rfl) rfl (by decide) ?_
      obtain ⟨y7, h6, hq, H⟩ := bd_some H
      refine g_callVi (M' := M_X7_read) (c := 7) (av := [.inr 42, .inr 2]) (st := []) (T_X11_roads 22 _ _ _ rfl) ml_X11_155 cb_X7_read rfl rfl (Nat.le_of_ble_eq_true rfl) (by omega) (R_X7_read N _ _ hq) ?_
      refine g_istore_n (T_X11_roads 23 _ _ _ rfl) (by decide) ?_
      refine g_aload_n (T_X11_roads 24 _ _ _ rfl) rfl ?_
      refine g_getR (c := 0) (r := 42) (T_X11_roads 25 _ _ _ rfl) fl_X11_24 rfl (nR rfl) rfl (by decide) ?_
      obtain ⟨h8, hq, H⟩ := bv_some H
      refine g_callVv (M' := M_X10_clear) (c := 41) (av := []) (st := []) (T_X11_roads 26 _ _ _ rfl) ml_X11_152 cb_X10_clear rfl rfl (Nat.le_of_ble_eq_true rfl) (by omega) (R_X10_clear N _ _ hq) ?_
      refine g_iload_n (T_X11_roads 27 _ _ _ rfl) rfl ?_
      exact g_iret (T_X11_roads 28 _ _ _ rfl) rfl (qi_of H)
    · replace H := ite_p cc H
      refine g_iconst (T_X11_roads 10 _ _ _ rfl) ⟨by decide, by decide⟩ ?_
      exact g_iret (T_X11_roads 11 _ _ _ rfl) rfl (qi_of H)
def F_X0_addStop (N : Nat) (t : Nat) (x1 : Int) (x2 : Int) (x3 : Int) (h : Hp) : Option (Hp) :=
  if 16 ≤ (h t 3) then
    some h
  else
  grd ((0 ≤ (h t 3) ∧ (h t 3) < 16) ∧ (x1 = 0 ∨ x1 = 1)) <|
  bnd (hw h (t + 3) (h t 3).toNat x1) fun h1 =>
  grd (0 ≤ (h1 t 3) ∧ (h1 t 3) < 16) <|
  bnd (hw h1 (t + 1) (h1 t 3).toNat x2) fun h2 =>
  grd (0 ≤ (h2 t 3) ∧ (h2 t 3) < 16) <|
  bnd (hw h2 (t + 2) (h2 t 3).toNat x3) fun h3 =>
  bnd (hw h3 t 3 (w32 ((h3 t 3) + 1))) fun h4 =>
  some h4
set_option maxRecDepth 100000 in
set_option maxHeartbeats 4000000 in
theorem R_X0_addStop (N : Nat) (t : Nat) (ht : isCart t) (x1 : Int) (x2 : Int) (x3 : Int) (h : Hp) (res : Hp) (H : F_X0_addStop N t x1 x2 x3 h = some res) : Runs M_X0_addStop 1 [.inr (t + 1), .inl x1, .inl x2, .inl x3] h (Qv res) := by
  refine Runs.of rfl (Nat.le_of_ble_eq_true rfl) ?_
  show Go M_X0_addStop 1 0 [some (.inr (t + 1)), some (.inl x1), some (.inl x2), some (.inl x3)] [] h (Qv res)
  unfold F_X0_addStop at H
  refine g_aload_n (T_X0_addStop 0 _ _ _ rfl) rfl ?_
  refine g_getI (c := t) (T_X0_addStop 1 _ _ _ rfl) fl_X0_26 ht.2.1 (Or.inl rfl) ?_
  refine g_bipush (T_X0_addStop 2 _ _ _ rfl) (by decide) ?_
  refine g_icmp_ge (tgt := 49) (T_X0_addStop 3 _ _ _ rfl) (by decide) (fun cc => ?_) (fun cc => ?_)
  · replace H := ite_p cc H
    exact g_vret (T_X0_addStop 28 _ _ _ rfl) rfl (qv_of H)
  · replace H := ite_n cc H
    refine g_aload_n (T_X0_addStop 4 _ _ _ rfl) rfl ?_
    refine g_getR (c := t) (r := (t + 4)) (T_X0_addStop 5 _ _ _ rfl) fl_X0_18 ht.2.1 (nR rfl) rfl (by have := ht.1; omega) ?_
    refine g_aload_n (T_X0_addStop 6 _ _ _ rfl) rfl ?_
    refine g_getI (c := t) (T_X0_addStop 7 _ _ _ rfl) fl_X0_26 ht.2.1 (Or.inl rfl) ?_
    refine g_iload_n (T_X0_addStop 8 _ _ _ rfl) rfl ?_
    obtain ⟨hg, H⟩ := grd_some H
    refine g_zast (c := (t + 3)) (T_X0_addStop 9 _ _ _ rfl) ht.2.2.2.2 hg.1 hg.2 ?_
    refine g_bndH H fun h1 H => ?_
    refine g_aload_n (T_X0_addStop 10 _ _ _ rfl) rfl ?_
    refine g_getR (c := t) (r := (t + 2)) (T_X0_addStop 11 _ _ _ rfl) fl_X0_9 ht.2.1 (nR rfl) rfl (by have := ht.1; omega) ?_
    refine g_aload_n (T_X0_addStop 12 _ _ _ rfl) rfl ?_
    refine g_getI (c := t) (T_X0_addStop 13 _ _ _ rfl) fl_X0_26 ht.2.1 (Or.inl rfl) ?_
    refine g_iload_n (T_X0_addStop 14 _ _ _ rfl) rfl ?_
    obtain ⟨hg, H⟩ := grd_some H
    refine g_iast (c := (t + 1)) (T_X0_addStop 15 _ _ _ rfl) ht.2.2.1 hg ?_
    refine g_bndH H fun h2 H => ?_
    refine g_aload_n (T_X0_addStop 16 _ _ _ rfl) rfl ?_
    refine g_getR (c := t) (r := (t + 3)) (T_X0_addStop 17 _ _ _ rfl) fl_X0_15 ht.2.1 (nR rfl) rfl (by have := ht.1; omega) ?_
    refine g_aload_n (T_X0_addStop 18 _ _ _ rfl) rfl ?_
    refine g_getI (c := t) (T_X0_addStop 19 _ _ _ rfl) fl_X0_26 ht.2.1 (Or.inl rfl) ?_
    refine g_iload_n (T_X0_addStop 20 _ _ _ rfl) rfl ?_
    obtain ⟨hg, H⟩ := grd_some H
    refine g_iast (c := (t + 2)) (T_X0_addStop 21 _ _ _ rfl) ht.2.2.2.1 hg ?_
    refine g_bndH H fun h3 H => ?_
    refine g_aload_n (T_X0_addStop 22 _ _ _ rfl) rfl ?_
    refine g_dup (T_X0_addStop 23 _ _ _ rfl) ?_
    refine g_getI (c := t) (T_X0_addStop 24 _ _ _ rfl) fl_X0_26 ht.2.1 (Or.inl rfl) ?_
    refine g_iconst (T_X0_addStop 25 _ _ _ rfl) ⟨by decide, by decide⟩ ?_
    refine g_iadd (T_X0_addStop 26 _ _ _ rfl) ?_
    refine g_put (c := t) (T_X0_addStop 27 _ _ _ rfl) fl_X0_26 ht.2.1 (Or.inl rfl) ?_
    refine g_bndH H fun h4 H => ?_
    exact g_vret (T_X0_addStop 28 _ _ _ rfl) rfl (qv_of H)
def J_X0_readStop_56 (N : Nat) (t : Nat) (x2 : Int) (x3 : Int) (h : Hp) : Option (Hp) :=
  bd (F_X10_isSound N h) fun y2 h1 =>
  if y2 = 0 then
    some h1
  else
  bv (F_X10_step N h1) fun h3 =>
  bd (F_X10_readNumber N 2 h3) fun y5 h4 =>
  bv (F_X0_addStop N t x2 x3 y5 h4) fun h6 =>
  some h6
set_option maxRecDepth 100000 in
set_option maxHeartbeats 4000000 in
theorem R_J_X0_readStop_56 (N : Nat) (t : Nat) (ht : isCart t) (x2 : Int) (x3 : Int) (h : Hp) (res : Hp) (H : J_X0_readStop_56 N t x2 x3 h = some res) : Go M_X0_readStop 3 56 [some (.inr (t + 1)), some (.inr 42), some (.inl x2), some (.inl x3)] [] h (Qv res) := by
  unfold J_X0_readStop_56 at H
  refine g_aload_n (T_X0_readStop 29 _ _ _ rfl) rfl ?_
  obtain ⟨y2, h1, hq, H⟩ := bd_some H
  refine g_callVi (M' := M_X10_isSound) (c := 41) (av := []) (st := []) (T_X0_readStop 30 _ _ _ rfl) ml_X0_33 cb_X10_isSound rfl rfl (Nat.le_of_ble_eq_true rfl) (by omega) (R_X10_isSound N _ _ hq) ?_
  refine g_if_eq (tgt := 78) (T_X0_readStop 31 _ _ _ rfl) (by decide) (fun cc => ?_) (fun cc => ?_)
  · replace H := ite_p cc H
    exact g_vret (T_X0_readStop 41 _ _ _ rfl) rfl (qv_of H)
  · replace H := ite_n cc H
    refine g_aload_n (T_X0_readStop 32 _ _ _ rfl) rfl ?_
    obtain ⟨h3, hq, H⟩ := bv_some H
    refine g_callVv (M' := M_X10_step) (c := 41) (av := []) (st := []) (T_X0_readStop 33 _ _ _ rfl) ml_X0_67 cb_X10_step rfl rfl (Nat.le_of_ble_eq_true rfl) (by omega) (R_X10_step N _ _ hq) ?_
    refine g_aload_n (T_X0_readStop 34 _ _ _ rfl) rfl ?_
    refine g_iload_n (T_X0_readStop 35 _ _ _ rfl) rfl ?_
    refine g_iload_n (T_X0_readStop 36 _ _ _ rfl) rfl ?_
    refine g_aload_n (T_X0_readStop 37 _ _ _ rfl) rfl ?_
    refine g_iconst (T_X0_readStop 38 _ _ _ rfl) ⟨by decide, by decide⟩ ?_
    obtain ⟨y5, h4, hq, H⟩ := bd_some H
    refine g_callVi (M' := M_X10_readNumber) (c := 41) (av := [.inl 2]) (st := [.inl x3, .inl x2, .inr (t + 1)]) (T_X0_readStop 39 _ _ _ rfl) ml_X0_70 cb_X10_readNumber rfl rfl (Nat.le_of_ble_eq_true rfl) (by omega) (R_X10_readNumber N _ _ _ hq) ?_
    obtain ⟨h6, hq, H⟩ := bv_some H
    refine g_callVv (M' := M_X0_addStop) (c := t) (av := [.inl x2, .inl x3, .inl y5]) (st := []) (T_X0_readStop 40 _ _ _ rfl) ml_X0_74 cb_X0_addStop ht.2.1 rfl (Nat.le_of_ble_eq_true rfl) (by omega) (R_X0_addStop N t ht _ _ _ _ _ hq) ?_
    exact g_vret (T_X0_readStop 41 _ _ _ rfl) rfl (qv_of H)
def J_X0_readStop_42 (N : Nat) (t : Nat) (x2 : Int) (x3 : Int) (h : Hp) : Option (Hp) :=
  if (h t 3) < 16 then
    J_X0_readStop_56 N t  x2 x3 h
  else
  bv (F_X10_fail N 4 h) fun h1 =>
  J_X0_readStop_56 N t  x2 x3 h1
set_option maxRecDepth 100000 in
set_option maxHeartbeats 4000000 in
theorem R_J_X0_readStop_42 (N : Nat) (t : Nat) (ht : isCart t) (x2 : Int) (x3 : Int) (h : Hp) (res : Hp) (H : J_X0_readStop_42 N t x2 x3 h = some res) : Go M_X0_readStop 3 42 [some (.inr (t + 1)), some (.inr 42), some (.inl x2), some (.inl x3)] [] h (Qv res) := by
  unfold J_X0_readStop_42 at H
  refine g_aload_n (T_X0_readStop 22 _ _ _ rfl) rfl ?_
  refine g_getI (c := t) (T_X0_readStop 23 _ _ _ rfl) fl_X0_26 ht.2.1 (Or.inl rfl) ?_
  refine g_bipush (T_X0_readStop 24 _ _ _ rfl) (by decide) ?_
  refine g_icmp_lt (tgt := 56) (T_X0_readStop 25 _ _ _ rfl) (by decide) (fun cc => ?_) (fun cc => ?_)
  · replace H := ite_p cc H
    refine g_weak [true, true, true, true] ?_
    exact R_J_X0_readStop_56 N t  ht  _ _ _ _ H
  · replace H := ite_n cc H
    refine g_aload_n (T_X0_readStop 26 _ _ _ rfl) rfl ?_
    refine g_iconst (T_X0_readStop 27 _ _ _ rfl) ⟨by decide, by decide⟩ ?_
    obtain ⟨h1, hq, H⟩ := bv_some H
    refine g_callVv (M' := M_X10_fail) (c := 41) (av := [.inl 4]) (st := []) (T_X0_readStop 28 _ _ _ rfl) ml_X0_64 cb_X10_fail rfl rfl (Nat.le_of_ble_eq_true rfl) (by omega) (R_X10_fail N _ _ _ hq) ?_
    refine g_weak [true, true, true, true] ?_
    exact R_J_X0_readStop_56 N t  ht  _ _ _ _ H
def J_X0_readStop_22 (N : Nat) (t : Nat) (x2 : Int) (s0 : Int) (h : Hp) : Option (Hp) :=
  if x2 = 0 then
    bd (F_X10_seesStreet N h) fun y2 h1 =>
    if y2 = 0 then
      bv (F_X10_fail N 1 h1) fun h3 =>
      J_X0_readStop_56 N t  x2 s0 h3
    else
    J_X0_readStop_42 N t  x2 s0 h1
  else
  J_X0_readStop_42 N t  x2 s0 h
set_option maxRecDepth 100000 in
set_option maxHeartbeats 4000000 in
theorem R_J_X0_readStop_22 (N : Nat) (t : Nat) (ht : isCart t) (x2 : Int) (s0 : Int) (h : Hp) (res : Hp) (H : J_X0_readStop_22 N t x2 s0 h = some res) : Go M_X0_readStop 3 22 [some (.inr (t + 1)), some (.inr 42), some (.inl x2), none] [.inl s0] h (Qv res) := by
  unfold J_X0_readStop_22 at H
  refine g_istore_n (T_X0_readStop 12 _ _ _ rfl) (by decide) ?_
  refine g_iload_n (T_X0_readStop 13 _ _ _ rfl) rfl ?_
  refine g_if_ne (tgt := 42) (T_X0_readStop 14 _ _ _ rfl) (by decide) (fun cc => ?_) (fun cc => ?_)
  · replace H := ite_n cc H
    refine g_weak [true, true, true, true] ?_
    exact R_J_X0_readStop_42 N t  ht  _ _ _ _ H
  · replace H := ite_p cc H
    refine g_aload_n (T_X0_readStop 15 _ _ _ rfl) rfl ?_
    obtain ⟨y2, h1, hq, H⟩ := bd_some H
    refine g_callVi (M' := M_X10_seesStreet) (c := 41) (av := []) (st := []) (T_X0_readStop 16 _ _ _ rfl) ml_X0_61 cb_X10_seesStreet rfl rfl (Nat.le_of_ble_eq_true rfl) (by omega) (R_X10_seesStreet N _ _ hq) ?_
    refine g_if_ne (tgt := 42) (T_X0_readStop 17 _ _ _ rfl) (by decide) (fun cc => ?_) (fun cc => ?_)
    · replace H := ite_n cc H
      refine g_weak [true, true, true, true] ?_
      exact R_J_X0_readStop_42 N t  ht  _ _ _ _ H
    · replace H := ite_p cc H
      refine g_aload_n (T_X0_readStop 18 _ _ _ rfl) rfl ?_
      refine g_iconst (T_X0_readStop 19 _ _ _ rfl) ⟨by decide, by decide⟩ ?_
      obtain ⟨h3, hq, H⟩ := bv_some H
      refine g_callVv (M' := M_X10_fail) (c := 41) (av := [.inl 1]) (st := []) (T_X0_readStop 20 _ _ _ rfl) ml_X0_64 cb_X10_fail rfl rfl (Nat.le_of_ble_eq_true rfl) (by omega) (R_X10_fail N _ _ _ hq) ?_
      refine g_goto (tgt := 56) (T_X0_readStop 21 _ _ _ rfl) (by decide) ?_
      refine g_weak [true, true, true, true] ?_
      exact R_J_X0_readStop_56 N t  ht  _ _ _ _ H
def F_X0_readStop (N : Nat) (t : Nat) (h : Hp) : Option (Hp) :=
  bd (F_X10_sees N 43 h) fun y2 h1 =>
  if y2 = 0 then
    bd (F_X10_sign N h1) fun y4 h3 =>
    J_X0_readStop_22 N t  y2 (w32 (y4 - 97)) h3
  else
  J_X0_readStop_22 N t  y2 0 h1
set_option maxRecDepth 100000 in
set_option maxHeartbeats 4000000 in
theorem R_X0_readStop (N : Nat) (t : Nat) (ht : isCart t) (h : Hp) (res : Hp) (H : F_X0_readStop N t h = some res) : Runs M_X0_readStop 3 [.inr (t + 1), .inr 42] h (Qv res) := by
  refine Runs.of rfl (Nat.le_of_ble_eq_true rfl) ?_
  show Go M_X0_readStop 3 0 [some (.inr (t + 1)), some (.inr 42), none, none] [] h (Qv res)
  unfold F_X0_readStop at H
  refine g_aload_n (T_X0_readStop 0 _ _ _ rfl) rfl ?_
  refine g_bipush (T_X0_readStop 1 _ _ _ rfl) (by decide) ?_
  obtain ⟨y2, h1, hq, H⟩ := bd_some H
  refine g_callVi (M' := M_X10_sees) (c := 41) (av := [.inl 43]) (st := []) (T_X0_readStop 2 _ _ _ rfl) ml_X0_54 cb_X10_sees rfl rfl (Nat.le_of_ble_eq_true rfl) (by omega) (R_X10_sees N _ _ _ hq) ?_
  refine g_istore_n (T_X0_readStop 3 _ _ _ rfl) (by decide) ?_
  refine g_iload_n (T_X0_readStop 4 _ _ _ rfl) rfl ?_
  refine g_if_eq (tgt := 15) (T_X0_readStop 5 _ _ _ rfl) (by decide) (fun cc => ?_) (fun cc => ?_)
  · replace H := ite_p cc H
    refine g_aload_n (T_X0_readStop 8 _ _ _ rfl) rfl ?_
    obtain ⟨y4, h3, hq, H⟩ := bd_some H
    refine g_callVi (M' := M_X10_sign) (c := 41) (av := []) (st := []) (T_X0_readStop 9 _ _ _ rfl) ml_X0_58 cb_X10_sign rfl rfl (Nat.le_of_ble_eq_true rfl) (by omega) (R_X10_sign N _ _ hq) ?_
    refine g_bipush (T_X0_readStop 10 _ _ _ rfl) (by decide) ?_
    refine g_isub (T_X0_readStop 11 _ _ _ rfl) ?_
    refine g_weak [true, true, true, false] ?_
    exact R_J_X0_readStop_22 N t  ht  _ _ _ _ H
  · replace H := ite_n cc H
    refine g_iconst (T_X0_readStop 6 _ _ _ rfl) ⟨by decide, by decide⟩ ?_
    refine g_goto (tgt := 22) (T_X0_readStop 7 _ _ _ rfl) (by decide) ?_
    refine g_weak [true, true, true, false] ?_
    exact R_J_X0_readStop_22 N t  ht  _ _ _ _ H
def J_X0_readStops_47 (N : Nat) (t : Nat) (h : Hp) : Option (Int × Hp) :=
  bd (F_X10_isSound N h) fun y2 h1 =>
  if y2 = 0 then
    bd (F_X10_fault N h1) fun y4 h3 =>
    some (y4, h3)
  else
  some ((h1 t 3), h1)
set_option maxRecDepth 100000 in
set_option maxHeartbeats 4000000 in
theorem R_J_X0_readStops_47 (N : Nat) (t : Nat) (ht : isCart t) (h : Hp) (res : Int × Hp) (H : J_X0_readStops_47 N t h = some res) : Go M_X0_readStops 4 47 [some (.inr (t + 1)), some (.inr 42), none] [] h (Qi res) := by
  unfold J_X0_readStops_47 at H
  refine g_aload_n (T_X0_readStops 23 _ _ _ rfl) rfl ?_
  obtain ⟨y2, h1, hq, H⟩ := bd_some H
  refine g_callVi (M' := M_X10_isSound) (c := 41) (av := []) (st := []) (T_X0_readStops 24 _ _ _ rfl) ml_X0_33 cb_X10_isSound rfl rfl (Nat.le_of_ble_eq_true rfl) (by omega) (R_X10_isSound N _ _ hq) ?_
  refine g_if_eq (tgt := 61) (T_X0_readStops 25 _ _ _ rfl) (by decide) (fun cc => ?_) (fun cc => ?_)
  · replace H := ite_p cc H
    refine g_aload_n (T_X0_readStops 29 _ _ _ rfl) rfl ?_
    obtain ⟨y4, h3, hq, H⟩ := bd_some H
    refine g_callVi (M' := M_X10_fault) (c := 41) (av := []) (st := []) (T_X0_readStops 30 _ _ _ rfl) ml_X0_50 cb_X10_fault rfl rfl (Nat.le_of_ble_eq_true rfl) (by omega) (R_X10_fault N _ _ hq) ?_
    exact g_iret (T_X0_readStops 31 _ _ _ rfl) rfl (qi_of H)
  · replace H := ite_n cc H
    refine g_aload_n (T_X0_readStops 26 _ _ _ rfl) rfl ?_
    refine g_getI (c := t) (T_X0_readStops 27 _ _ _ rfl) fl_X0_26 ht.2.1 (Or.inl rfl) ?_
    refine g_goto (tgt := 65) (T_X0_readStops 28 _ _ _ rfl) (by decide) ?_
    exact g_iret (T_X0_readStops 31 _ _ _ rfl) rfl (qi_of H)
def L_X0_readStops_7 (N : Nat) (t : Nat) : Nat → Int → Hp → Option (Int × Hp)
  | 0, _, _ => none
  | n + 1, x2, h =>
    if 16 < x2 then
      J_X0_readStops_47 N t  h
    else
    bd (F_X10_isSound N h) fun y2 h1 =>
    if y2 = 0 then
      J_X0_readStops_47 N t  h1
    else
    bv (F_X0_readStop N t h1) fun h3 =>
    bd (F_X10_isAtEnd N h3) fun y5 h4 =>
    if y5 = 0 then
      bv (F_X10_need N 44 h4) fun h6 =>
      bnd (w32 (x2 + 1)) fun y7 =>
      (L_X0_readStops_7 N t n) y7 h6
    else
    J_X0_readStops_47 N t  h4
set_option maxRecDepth 100000 in
set_option maxHeartbeats 4000000 in
theorem R_L_X0_readStops_7 (N : Nat) (t : Nat) (ht : isCart t) : ∀ (n : Nat) (x2 : Int) (h : Hp) (res : Int × Hp), L_X0_readStops_7 N t n x2 h = some res → Go M_X0_readStops 4 7 [some (.inr (t + 1)), some (.inr 42), some (.inl x2)] [] h (Qi res)
  | 0, _, _, _, H => by cases H
  | n + 1, x2, h, res, H => by
    have ih := R_L_X0_readStops_7 N t ht n
    simp only [L_X0_readStops_7] at H
    refine g_iload_n (T_X0_readStops 5 _ _ _ rfl) rfl ?_
    refine g_bipush (T_X0_readStops 6 _ _ _ rfl) (by decide) ?_
    refine g_icmp_gt (tgt := 47) (T_X0_readStops 7 _ _ _ rfl) (by decide) (fun cc => ?_) (fun cc => ?_)
    · replace H := ite_p cc H
      refine g_weak [true, true, false] ?_
      exact R_J_X0_readStops_47 N t  ht  _ _ H
    · replace H := ite_n cc H
      refine g_aload_n (T_X0_readStops 8 _ _ _ rfl) rfl ?_
      obtain ⟨y2, h1, hq, H⟩ := bd_some H
      refine g_callVi (M' := M_X10_isSound) (c := 41) (av := []) (st := []) (T_X0_readStops 9 _ _ _ rfl) ml_X0_33 cb_X10_isSound rfl rfl (Nat.le_of_ble_eq_true rfl) (by omega) (R_X10_isSound N _ _ hq) ?_
      refine g_if_eq (tgt := 47) (T_X0_readStops 10 _ _ _ rfl) (by decide) (fun cc => ?_) (fun cc => ?_)
      · replace H := ite_p cc H
        refine g_weak [true, true, false] ?_
        exact R_J_X0_readStops_47 N t  ht  _ _ H
      · replace H := ite_n cc H
        refine g_aload_n (T_X0_readStops 11 _ _ _ rfl) rfl ?_
        refine g_aload_n (T_X0_readStops 12 _ _ _ rfl) rfl ?_
        obtain ⟨h3, hq, H⟩ := bv_some H
        refine g_callVv (M' := M_X0_readStop) (c := t) (av := [.inr 42]) (st := []) (T_X0_readStops 13 _ _ _ rfl) ml_X0_39 cb_X0_readStop ht.2.1 rfl (Nat.le_of_ble_eq_true rfl) (by omega) (R_X0_readStop N t ht _ _ hq) ?_
        refine g_aload_n (T_X0_readStops 14 _ _ _ rfl) rfl ?_
        obtain ⟨y5, h4, hq, H⟩ := bd_some H
        refine g_callVi (M' := M_X10_isAtEnd) (c := 41) (av := []) (st := []) (T_X0_readStops 15 _ _ _ rfl) ml_X0_43 cb_X10_isAtEnd rfl rfl (Nat.le_of_ble_eq_true rfl) (by omega) (R_X10_isAtEnd N _ _ hq) ?_
        refine g_if_eq (tgt := 35) (T_X0_readStops 16 _ _ _ rfl) (by decide) (fun cc => ?_) (fun cc => ?_)
        · replace H := ite_p cc H
          refine g_aload_n (T_X0_readStops 18 _ _ _ rfl) rfl ?_
          refine g_bipush (T_X0_readStops 19 _ _ _ rfl) (by decide) ?_
          obtain ⟨h6, hq, H⟩ := bv_some H
          refine g_callVv (M' := M_X10_need) (c := 41) (av := [.inl 44]) (st := []) (T_X0_readStops 20 _ _ _ rfl) ml_X0_46 cb_X10_need rfl rfl (Nat.le_of_ble_eq_true rfl) (by omega) (R_X10_need N _ _ _ hq) ?_
          refine g_iincB (T_X0_readStops 21 _ _ _ rfl) rfl (by decide) H fun y7 H => ?_
          refine g_goto (tgt := 7) (T_X0_readStops 22 _ _ _ rfl) (by decide) ?_
          refine g_weak [true, true, true] ?_
          exact ih _ _ _ H
        · replace H := ite_n cc H
          refine g_goto (tgt := 47) (T_X0_readStops 17 _ _ _ rfl) (by decide) ?_
          refine g_weak [true, true, false] ?_
          exact R_J_X0_readStops_47 N t  ht  _ _ H
def F_X0_readStops (N : Nat) (t : Nat) (h : Hp) : Option (Int × Hp) :=
  bnd (hw h t 3 0) fun h1 =>
  L_X0_readStops_7 N t  N 0 h1
set_option maxRecDepth 100000 in
set_option maxHeartbeats 4000000 in
theorem R_X0_readStops (N : Nat) (t : Nat) (ht : isCart t) (h : Hp) (res : Int × Hp) (H : F_X0_readStops N t h = some res) : Runs M_X0_readStops 4 [.inr (t + 1), .inr 42] h (Qi res) := by
  refine Runs.of rfl (Nat.le_of_ble_eq_true rfl) ?_
  show Go M_X0_readStops 4 0 [some (.inr (t + 1)), some (.inr 42), none] [] h (Qi res)
  unfold F_X0_readStops at H
  refine g_aload_n (T_X0_readStops 0 _ _ _ rfl) rfl ?_
  refine g_iconst (T_X0_readStops 1 _ _ _ rfl) ⟨by decide, by decide⟩ ?_
  refine g_put (c := t) (T_X0_readStops 2 _ _ _ rfl) fl_X0_26 ht.2.1 (Or.inl rfl) ?_
  refine g_bndH H fun h1 H => ?_
  refine g_iconst (T_X0_readStops 3 _ _ _ rfl) ⟨by decide, by decide⟩ ?_
  refine g_istore_n (T_X0_readStops 4 _ _ _ rfl) (by decide) ?_
  refine g_weak [true, true, true] ?_
  refine R_L_X0_readStops_7 N t  ht  _ _ _ _ H
def F_X0_takesOnAt (N : Nat) (t : Nat) (x1 : Int) (h : Hp) : Option (Int × Hp) :=
  bd (F_X11_isWithin N x1 0 (w32 ((h t 3) - 1)) h) fun y2 h1 =>
  if y2 = 0 then
    some (0, h1)
  else
  grd (0 ≤ x1 ∧ x1 < 16) <|
  if (h1 (t + 3) x1.toNat) = 0 then
    some (0, h1)
  else
  some (1, h1)
set_option maxRecDepth 100000 in
set_option maxHeartbeats 4000000 in
theorem R_X0_takesOnAt (N : Nat) (t : Nat) (ht : isCart t) (x1 : Int) (h : Hp) (res : Int × Hp) (H : F_X0_takesOnAt N t x1 h = some res) : Runs M_X0_takesOnAt 2 [.inr (t + 1), .inl x1] h (Qi res) := by
  refine Runs.of rfl (Nat.le_of_ble_eq_true rfl) ?_
  show Go M_X0_takesOnAt 2 0 [some (.inr (t + 1)), some (.inl x1)] [] h (Qi res)
  unfold F_X0_takesOnAt at H
  refine g_iload_n (T_X0_takesOnAt 0 _ _ _ rfl) rfl ?_
  refine g_iconst (T_X0_takesOnAt 1 _ _ _ rfl) ⟨by decide, by decide⟩ ?_
  refine g_aload_n (T_X0_takesOnAt 2 _ _ _ rfl) rfl ?_
  refine g_getI (c := t) (T_X0_takesOnAt 3 _ _ _ rfl) fl_X0_26 ht.2.1 (Or.inl rfl) ?_
  refine g_iconst (T_X0_takesOnAt 4 _ _ _ rfl) ⟨by decide, by decide⟩ ?_
  refine g_isub (T_X0_takesOnAt 5 _ _ _ rfl) ?_
  obtain ⟨y2, h1, hq, H⟩ := bd_some H
  refine g_callSNi (M' := M_X11_isWithin) (av := [.inl x1, .inl 0, .inl (w32 ((h t 3) - 1))]) (st := []) (T_X0_takesOnAt 6 _ _ _ rfl) ml_X0_29 cb_X11_isWithin rfl (Nat.le_of_ble_eq_true rfl) (by omega) (R_X11_isWithin N _ _ _ _ _ hq) ?_
  refine g_if_eq (tgt := 27) (T_X0_takesOnAt 7 _ _ _ rfl) (by decide) (fun cc => ?_) (fun cc => ?_)
  · replace H := ite_p cc H
    refine g_iconst (T_X0_takesOnAt 15 _ _ _ rfl) ⟨by decide, by decide⟩ ?_
    exact g_zret (T_X0_takesOnAt 16 _ _ _ rfl) rfl (by decide) (qi_of H)
  · replace H := ite_n cc H
    refine g_aload_n (T_X0_takesOnAt 8 _ _ _ rfl) rfl ?_
    refine g_getR (c := t) (r := (t + 4)) (T_X0_takesOnAt 9 _ _ _ rfl) fl_X0_18 ht.2.1 (nR rfl) rfl (by have := ht.1; omega) ?_
    refine g_iload_n (T_X0_takesOnAt 10 _ _ _ rfl) rfl ?_
    obtain ⟨hg, H⟩ := grd_some H
    refine g_zald (c := (t + 3)) (T_X0_takesOnAt 11 _ _ _ rfl) ht.2.2.2.2 hg ?_
    refine g_if_eq (tgt := 27) (T_X0_takesOnAt 12 _ _ _ rfl) (by decide) (fun cc => ?_) (fun cc => ?_)
    · replace H := ite_p cc H
      refine g_iconst (T_X0_takesOnAt 15 _ _ _ rfl) ⟨by decide, by decide⟩ ?_
      exact g_zret (T_X0_takesOnAt 16 _ _ _ rfl) rfl (by decide) (qi_of H)
    · replace H := ite_n cc H
      refine g_iconst (T_X0_takesOnAt 13 _ _ _ rfl) ⟨by decide, by decide⟩ ?_
      refine g_goto (tgt := 28) (T_X0_takesOnAt 14 _ _ _ rfl) (by decide) ?_
      exact g_zret (T_X0_takesOnAt 16 _ _ _ rfl) rfl (by decide) (qi_of H)
def F_X0_streetOf (N : Nat) (t : Nat) (x1 : Int) (h : Hp) : Option (Int × Hp) :=
  bd (F_X11_isWithin N x1 0 (w32 ((h t 3) - 1)) h) fun y2 h1 =>
  if y2 = 0 then
    some ((-2), h1)
  else
  grd (0 ≤ x1 ∧ x1 < 16) <|
  some ((h1 (t + 1) x1.toNat), h1)
set_option maxRecDepth 100000 in
set_option maxHeartbeats 4000000 in
theorem R_X0_streetOf (N : Nat) (t : Nat) (ht : isCart t) (x1 : Int) (h : Hp) (res : Int × Hp) (H : F_X0_streetOf N t x1 h = some res) : Runs M_X0_streetOf 2 [.inr (t + 1), .inl x1] h (Qi res) := by
  refine Runs.of rfl (Nat.le_of_ble_eq_true rfl) ?_
  show Go M_X0_streetOf 2 0 [some (.inr (t + 1)), some (.inl x1)] [] h (Qi res)
  unfold F_X0_streetOf at H
  refine g_iload_n (T_X0_streetOf 0 _ _ _ rfl) rfl ?_
  refine g_iconst (T_X0_streetOf 1 _ _ _ rfl) ⟨by decide, by decide⟩ ?_
  refine g_aload_n (T_X0_streetOf 2 _ _ _ rfl) rfl ?_
  refine g_getI (c := t) (T_X0_streetOf 3 _ _ _ rfl) fl_X0_26 ht.2.1 (Or.inl rfl) ?_
  refine g_iconst (T_X0_streetOf 4 _ _ _ rfl) ⟨by decide, by decide⟩ ?_
  refine g_isub (T_X0_streetOf 5 _ _ _ rfl) ?_
  obtain ⟨y2, h1, hq, H⟩ := bd_some H
  refine g_callSNi (M' := M_X11_isWithin) (av := [.inl x1, .inl 0, .inl (w32 ((h t 3) - 1))]) (st := []) (T_X0_streetOf 6 _ _ _ rfl) ml_X0_29 cb_X11_isWithin rfl (Nat.le_of_ble_eq_true rfl) (by omega) (R_X11_isWithin N _ _ _ _ _ hq) ?_
  refine g_if_eq (tgt := 23) (T_X0_streetOf 7 _ _ _ rfl) (by decide) (fun cc => ?_) (fun cc => ?_)
  · replace H := ite_p cc H
    refine g_bipush (T_X0_streetOf 13 _ _ _ rfl) (by decide) ?_
    exact g_iret (T_X0_streetOf 14 _ _ _ rfl) rfl (qi_of H)
  · replace H := ite_n cc H
    refine g_aload_n (T_X0_streetOf 8 _ _ _ rfl) rfl ?_
    refine g_getR (c := t) (r := (t + 2)) (T_X0_streetOf 9 _ _ _ rfl) fl_X0_9 ht.2.1 (nR rfl) rfl (by have := ht.1; omega) ?_
    refine g_iload_n (T_X0_streetOf 10 _ _ _ rfl) rfl ?_
    obtain ⟨hg, H⟩ := grd_some H
    refine g_iald (c := (t + 1)) (T_X0_streetOf 11 _ _ _ rfl) ht.2.2.1 hg ?_
    refine g_goto (tgt := 25) (T_X0_streetOf 12 _ _ _ rfl) (by decide) ?_
    exact g_iret (T_X0_streetOf 14 _ _ _ rfl) rfl (qi_of H)
def F_X0_yardsOf (N : Nat) (t : Nat) (x1 : Int) (h : Hp) : Option (Int × Hp) :=
  bd (F_X11_isWithin N x1 0 (w32 ((h t 3) - 1)) h) fun y2 h1 =>
  if y2 = 0 then
    some (0, h1)
  else
  grd (0 ≤ x1 ∧ x1 < 16) <|
  some ((h1 (t + 2) x1.toNat), h1)
set_option maxRecDepth 100000 in
set_option maxHeartbeats 4000000 in
theorem R_X0_yardsOf (N : Nat) (t : Nat) (ht : isCart t) (x1 : Int) (h : Hp) (res : Int × Hp) (H : F_X0_yardsOf N t x1 h = some res) : Runs M_X0_yardsOf 2 [.inr (t + 1), .inl x1] h (Qi res) := by
  refine Runs.of rfl (Nat.le_of_ble_eq_true rfl) ?_
  show Go M_X0_yardsOf 2 0 [some (.inr (t + 1)), some (.inl x1)] [] h (Qi res)
  unfold F_X0_yardsOf at H
  refine g_iload_n (T_X0_yardsOf 0 _ _ _ rfl) rfl ?_
  refine g_iconst (T_X0_yardsOf 1 _ _ _ rfl) ⟨by decide, by decide⟩ ?_
  refine g_aload_n (T_X0_yardsOf 2 _ _ _ rfl) rfl ?_
  refine g_getI (c := t) (T_X0_yardsOf 3 _ _ _ rfl) fl_X0_26 ht.2.1 (Or.inl rfl) ?_
  refine g_iconst (T_X0_yardsOf 4 _ _ _ rfl) ⟨by decide, by decide⟩ ?_
  refine g_isub (T_X0_yardsOf 5 _ _ _ rfl) ?_
  obtain ⟨y2, h1, hq, H⟩ := bd_some H
  refine g_callSNi (M' := M_X11_isWithin) (av := [.inl x1, .inl 0, .inl (w32 ((h t 3) - 1))]) (st := []) (T_X0_yardsOf 6 _ _ _ rfl) ml_X0_29 cb_X11_isWithin rfl (Nat.le_of_ble_eq_true rfl) (by omega) (R_X11_isWithin N _ _ _ _ _ hq) ?_
  refine g_if_eq (tgt := 23) (T_X0_yardsOf 7 _ _ _ rfl) (by decide) (fun cc => ?_) (fun cc => ?_)
  · replace H := ite_p cc H
    refine g_iconst (T_X0_yardsOf 13 _ _ _ rfl) ⟨by decide, by decide⟩ ?_
    exact g_iret (T_X0_yardsOf 14 _ _ _ rfl) rfl (qi_of H)
  · replace H := ite_n cc H
    refine g_aload_n (T_X0_yardsOf 8 _ _ _ rfl) rfl ?_
    refine g_getR (c := t) (r := (t + 3)) (T_X0_yardsOf 9 _ _ _ rfl) fl_X0_15 ht.2.1 (nR rfl) rfl (by have := ht.1; omega) ?_
    refine g_iload_n (T_X0_yardsOf 10 _ _ _ rfl) rfl ?_
    obtain ⟨hg, H⟩ := grd_some H
    refine g_iald (c := (t + 2)) (T_X0_yardsOf 11 _ _ _ rfl) ht.2.2.2.1 hg ?_
    refine g_goto (tgt := 24) (T_X0_yardsOf 12 _ _ _ rfl) (by decide) ?_
    exact g_iret (T_X0_yardsOf 14 _ _ _ rfl) rfl (qi_of H)
