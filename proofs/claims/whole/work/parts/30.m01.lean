/-! by program: the methods as functions, and the walks that show it -/
def J_X12_readsCompared_52 (N : Nat) (s0 : Int) (h : Hp) : Option (Int × Hp) :=
  if s0 = (-1) then
    bd (F_X12_wrongAt N 1 (h 83 16) h) fun y7 h6 =>
    grd (y7 = 0 ∨ y7 = 1) <|
    some (y7, h6)
  else
  bnd (hw h 83 16 (w32 ((h 83 16) + 1))) fun h1 =>
  bd (F_X12_readsSum N h1) fun y3 h2 =>
  if y3 = 0 then
    some (0, h2)
  else
  bv (F_X12_notes N s0 0 h2) fun h4 =>
  bv (F_X12_endsPiece N h4) fun h5 =>
  some (1, h5)
set_option maxRecDepth 100000 in
set_option maxHeartbeats 4000000 in
theorem R_J_X12_readsCompared_52 (N : Nat) (s0 : Int) (h : Hp) (res : Int × Hp) (H : J_X12_readsCompared_52 N s0 h = some res) : Go M_X12_readsCompared 6 52 [some (.inr 84), none] [.inl s0] h (Qi res) := by
  unfold J_X12_readsCompared_52 at H
  refine g_istore_n (T_X12_readsCompared 24 _ _ _ rfl) (by decide) ?_
  refine g_iload_n (T_X12_readsCompared 25 _ _ _ rfl) rfl ?_
  refine g_iconst (T_X12_readsCompared 26 _ _ _ rfl) ⟨by decide, by decide⟩ ?_
  refine g_icmp_ne (tgt := 68) (T_X12_readsCompared 27 _ _ _ rfl) (by decide) (fun cc => ?_) (fun cc => ?_)
  · replace H := ite_n cc H
    refine g_aload_n (T_X12_readsCompared 34 _ _ _ rfl) rfl ?_
    refine g_aload_n (T_X12_readsCompared 35 _ _ _ rfl) rfl ?_
    refine g_getI (c := 83) (T_X12_readsCompared 36 _ _ _ rfl) fl_X12_166 rfl (Or.inl rfl) ?_
    refine g_iconst (T_X12_readsCompared 37 _ _ _ rfl) ⟨by decide, by decide⟩ ?_
    refine g_iadd (T_X12_readsCompared 38 _ _ _ rfl) ?_
    refine g_put (c := 83) (T_X12_readsCompared 39 _ _ _ rfl) fl_X12_166 rfl (Or.inl rfl) ?_
    refine g_bndH H fun h1 H => ?_
    refine g_aload_n (T_X12_readsCompared 40 _ _ _ rfl) rfl ?_
    obtain ⟨y3, h2, hq, H⟩ := bd_some H
    refine g_callVi (M' := M_X12_readsSum) (c := 83) (av := []) (st := []) (T_X12_readsCompared 41 _ _ _ rfl) ml_X12_228 cb_X12_readsSum rfl rfl (Nat.le_of_ble_eq_true rfl) (by omega) (R_X12_readsSum N _ _ hq) ?_
    refine g_if_ne (tgt := 87) (T_X12_readsCompared 42 _ _ _ rfl) (by decide) (fun cc => ?_) (fun cc => ?_)
    · replace H := ite_n cc H
      refine g_aload_n (T_X12_readsCompared 45 _ _ _ rfl) rfl ?_
      refine g_iload_n (T_X12_readsCompared 46 _ _ _ rfl) rfl ?_
      refine g_iconst (T_X12_readsCompared 47 _ _ _ rfl) ⟨by decide, by decide⟩ ?_
      obtain ⟨h4, hq, H⟩ := bv_some H
      refine g_callVv (M' := M_X12_notes) (c := 83) (av := [.inl s0, .inl 0]) (st := []) (T_X12_readsCompared 48 _ _ _ rfl) ml_X12_202 cb_X12_notes rfl rfl (Nat.le_of_ble_eq_true rfl) (by omega) (R_X12_notes N _ _ _ _ hq) ?_
      refine g_aload_n (T_X12_readsCompared 49 _ _ _ rfl) rfl ?_
      obtain ⟨h5, hq, H⟩ := bv_some H
      refine g_callVv (M' := M_X12_endsPiece) (c := 83) (av := []) (st := []) (T_X12_readsCompared 50 _ _ _ rfl) ml_X12_231 cb_X12_endsPiece rfl rfl (Nat.le_of_ble_eq_true rfl) (by omega) (R_X12_endsPiece N _ _ hq) ?_
      refine g_iconst (T_X12_readsCompared 51 _ _ _ rfl) ⟨by decide, by decide⟩ ?_
      exact g_zret (T_X12_readsCompared 52 _ _ _ rfl) rfl (by decide) (qi_of H)
    · replace H := ite_p cc H
      refine g_iconst (T_X12_readsCompared 43 _ _ _ rfl) ⟨by decide, by decide⟩ ?_
      exact g_zret (T_X12_readsCompared 44 _ _ _ rfl) rfl (by decide) (qi_of H)
  · replace H := ite_p cc H
    refine g_aload_n (T_X12_readsCompared 28 _ _ _ rfl) rfl ?_
    refine g_iconst (T_X12_readsCompared 29 _ _ _ rfl) ⟨by decide, by decide⟩ ?_
    refine g_aload_n (T_X12_readsCompared 30 _ _ _ rfl) rfl ?_
    refine g_getI (c := 83) (T_X12_readsCompared 31 _ _ _ rfl) fl_X12_166 rfl (Or.inl rfl) ?_
    obtain ⟨y7, h6, hq, H⟩ := bd_some H
    refine g_callVi (M' := M_X12_wrongAt) (c := 83) (av := [.inl 1, .inl (h 83 16)]) (st := []) (T_X12_readsCompared 32 _ _ _ rfl) ml_X12_179 cb_X12_wrongAt rfl rfl (Nat.le_of_ble_eq_true rfl) (by omega) (R_X12_wrongAt N _ _ _ _ hq) ?_
    obtain ⟨hg, H⟩ := grd_some H
    exact g_zret (T_X12_readsCompared 33 _ _ _ rfl) rfl hg (qi_of H)
def F_X12_readsCompared (N : Nat) (h : Hp) : Option (Int × Hp) :=
  bd (F_X12_readsSum N h) fun y2 h1 =>
  if y2 = 0 then
    some (0, h1)
  else
  bd (F_X12_here N h1) fun y4 h3 =>
  if y4 = 60 then
    J_X12_readsCompared_52 N  7 h3
  else
  bd (F_X12_here N h3) fun y6 h5 =>
  if y6 = 62 then
    J_X12_readsCompared_52 N  8 h5
  else
  bd (F_X12_here N h5) fun y8 h7 =>
  if y8 = 61 then
    J_X12_readsCompared_52 N  9 h7
  else
  J_X12_readsCompared_52 N  (-1) h7
set_option maxRecDepth 100000 in
set_option maxHeartbeats 4000000 in
theorem R_X12_readsCompared (N : Nat) (h : Hp) (res : Int × Hp) (H : F_X12_readsCompared N h = some res) : Runs M_X12_readsCompared 6 [.inr 84] h (Qi res) := by
  refine Runs.of rfl (Nat.le_of_ble_eq_true rfl) ?_
  show Go M_X12_readsCompared 6 0 [some (.inr 84), none] [] h (Qi res)
  unfold F_X12_readsCompared at H
  refine g_aload_n (T_X12_readsCompared 0 _ _ _ rfl) rfl ?_
  obtain ⟨y2, h1, hq, H⟩ := bd_some H
  refine g_callVi (M' := M_X12_readsSum) (c := 83) (av := []) (st := []) (T_X12_readsCompared 1 _ _ _ rfl) ml_X12_228 cb_X12_readsSum rfl rfl (Nat.le_of_ble_eq_true rfl) (by omega) (R_X12_readsSum N _ _ hq) ?_
  refine g_if_ne (tgt := 9) (T_X12_readsCompared 2 _ _ _ rfl) (by decide) (fun cc => ?_) (fun cc => ?_)
  · replace H := ite_n cc H
    refine g_aload_n (T_X12_readsCompared 5 _ _ _ rfl) rfl ?_
    obtain ⟨y4, h3, hq, H⟩ := bd_some H
    refine g_callVi (M' := M_X12_here) (c := 83) (av := []) (st := []) (T_X12_readsCompared 6 _ _ _ rfl) ml_X12_172 cb_X12_here rfl rfl (Nat.le_of_ble_eq_true rfl) (by omega) (R_X12_here N _ _ hq) ?_
    refine g_bipush (T_X12_readsCompared 7 _ _ _ rfl) (by decide) ?_
    refine g_icmp_ne (tgt := 23) (T_X12_readsCompared 8 _ _ _ rfl) (by decide) (fun cc => ?_) (fun cc => ?_)
    · replace H := ite_n cc H
      refine g_aload_n (T_X12_readsCompared 11 _ _ _ rfl) rfl ?_
      obtain ⟨y6, h5, hq, H⟩ := bd_some H
      refine g_callVi (M' := M_X12_here) (c := 83) (av := []) (st := []) (T_X12_readsCompared 12 _ _ _ rfl) ml_X12_172 cb_X12_here rfl rfl (Nat.le_of_ble_eq_true rfl) (by omega) (R_X12_here N _ _ hq) ?_
      refine g_bipush (T_X12_readsCompared 13 _ _ _ rfl) (by decide) ?_
      refine g_icmp_ne (tgt := 37) (T_X12_readsCompared 14 _ _ _ rfl) (by decide) (fun cc => ?_) (fun cc => ?_)
      · replace H := ite_n cc H
        refine g_aload_n (T_X12_readsCompared 17 _ _ _ rfl) rfl ?_
        obtain ⟨y8, h7, hq, H⟩ := bd_some H
        refine g_callVi (M' := M_X12_here) (c := 83) (av := []) (st := []) (T_X12_readsCompared 18 _ _ _ rfl) ml_X12_172 cb_X12_here rfl rfl (Nat.le_of_ble_eq_true rfl) (by omega) (R_X12_here N _ _ hq) ?_
        refine g_bipush (T_X12_readsCompared 19 _ _ _ rfl) (by decide) ?_
        refine g_icmp_ne (tgt := 51) (T_X12_readsCompared 20 _ _ _ rfl) (by decide) (fun cc => ?_) (fun cc => ?_)
        · replace H := ite_n cc H
          refine g_iconst (T_X12_readsCompared 23 _ _ _ rfl) ⟨by decide, by decide⟩ ?_
          refine g_weak [true, false] ?_
          exact R_J_X12_readsCompared_52 N   _ _ _ H
        · replace H := ite_p cc H
          refine g_bipush (T_X12_readsCompared 21 _ _ _ rfl) (by decide) ?_
          refine g_goto (tgt := 52) (T_X12_readsCompared 22 _ _ _ rfl) (by decide) ?_
          refine g_weak [true, false] ?_
          exact R_J_X12_readsCompared_52 N   _ _ _ H
      · replace H := ite_p cc H
        refine g_bipush (T_X12_readsCompared 15 _ _ _ rfl) (by decide) ?_
        refine g_goto (tgt := 52) (T_X12_readsCompared 16 _ _ _ rfl) (by decide) ?_
        refine g_weak [true, false] ?_
        exact R_J_X12_readsCompared_52 N   _ _ _ H
    · replace H := ite_p cc H
      refine g_bipush (T_X12_readsCompared 9 _ _ _ rfl) (by decide) ?_
      refine g_goto (tgt := 52) (T_X12_readsCompared 10 _ _ _ rfl) (by decide) ?_
      refine g_weak [true, false] ?_
      exact R_J_X12_readsCompared_52 N   _ _ _ H
  · replace H := ite_p cc H
    refine g_iconst (T_X12_readsCompared 3 _ _ _ rfl) ⟨by decide, by decide⟩ ?_
    exact g_zret (T_X12_readsCompared 4 _ _ _ rfl) rfl (by decide) (qi_of H)
def J_X12_lands_22 (N : Nat) (k0 : Int → Hp → Option (Hp)) (x1 : Int) (h : Hp) : Option (Hp) :=
  grd (0 ≤ (w32 ((h 83 22) - 1)) ∧ (w32 ((h 83 22) - 1)) < 260) <|
  bnd ((irem (h 98 (w32 ((h 83 22) - 1)).toNat) 1048576)) fun y1 =>
  grd (0 ≤ y1 ∧ y1 < 260) <|
  grd (0 ≤ y1 ∧ y1 < 260) <|
  bnd (hw h 97 y1.toNat (w32 ((w32 (1048576 * (idiv (h 97 y1.toNat) 1048576))) + (h 83 21)))) fun h2 =>
  bnd (hw h2 83 22 (w32 ((h2 83 22) - 1))) fun h3 =>
  k0 x1 h3
set_option maxRecDepth 100000 in
set_option maxHeartbeats 4000000 in
theorem R_J_X12_lands_22 (N : Nat) (k0 : Int → Hp → Option (Hp)) (hk0 : ∀ (x1 : Int) (h : Hp) (res : Hp), k0 x1 h = some res → Go M_X12_lands 2 0 [some (.inr 84), some (.inl x1), none] [] h (Qv res)) (x1 : Int) (h : Hp) (res : Hp) (H : J_X12_lands_22 N k0 x1 h = some res) : Go M_X12_lands 2 22 [some (.inr 84), some (.inl x1), none] [] h (Qv res) := by
  unfold J_X12_lands_22 at H
  refine g_aload_n (T_X12_lands 10 _ _ _ rfl) rfl ?_
  refine g_getR (c := 83) (r := 99) (T_X12_lands 11 _ _ _ rfl) fl_X12_53 rfl (nR rfl) rfl (by decide) ?_
  refine g_aload_n (T_X12_lands 12 _ _ _ rfl) rfl ?_
  refine g_getI (c := 83) (T_X12_lands 13 _ _ _ rfl) fl_X12_196 rfl (Or.inl rfl) ?_
  refine g_iconst (T_X12_lands 14 _ _ _ rfl) ⟨by decide, by decide⟩ ?_
  refine g_isub (T_X12_lands 15 _ _ _ rfl) ?_
  obtain ⟨hg, H⟩ := grd_some H
  refine g_iald (c := 98) (T_X12_lands 16 _ _ _ rfl) rfl hg ?_
  refine g_ldc (T_X12_lands 17 _ _ _ rfl) kc_X12_192 ⟨by decide, by decide⟩ ?_
  refine g_irem (T_X12_lands 18 _ _ _ rfl) (by decide) ?_
  refine g_bndI H fun y1 H => ?_
  refine g_istore_n (T_X12_lands 19 _ _ _ rfl) (by decide) ?_
  refine g_aload_n (T_X12_lands 20 _ _ _ rfl) rfl ?_
  refine g_getR (c := 83) (r := 98) (T_X12_lands 21 _ _ _ rfl) fl_X12_50 rfl (nR rfl) rfl (by decide) ?_
  refine g_iload_n (T_X12_lands 22 _ _ _ rfl) rfl ?_
  refine g_ldc (T_X12_lands 23 _ _ _ rfl) kc_X12_192 ⟨by decide, by decide⟩ ?_
  refine g_aload_n (T_X12_lands 24 _ _ _ rfl) rfl ?_
  refine g_getR (c := 83) (r := 98) (T_X12_lands 25 _ _ _ rfl) fl_X12_50 rfl (nR rfl) rfl (by decide) ?_
  refine g_iload_n (T_X12_lands 26 _ _ _ rfl) rfl ?_
  obtain ⟨hg, H⟩ := grd_some H
  refine g_iald (c := 97) (T_X12_lands 27 _ _ _ rfl) rfl hg ?_
  refine g_ldc (T_X12_lands 28 _ _ _ rfl) kc_X12_192 ⟨by decide, by decide⟩ ?_
  refine g_idiv (T_X12_lands 29 _ _ _ rfl) (by decide) ?_
  refine g_imul (T_X12_lands 30 _ _ _ rfl) ?_
  refine g_aload_n (T_X12_lands 31 _ _ _ rfl) rfl ?_
  refine g_getI (c := 83) (T_X12_lands 32 _ _ _ rfl) fl_X12_189 rfl (Or.inl rfl) ?_
  refine g_iadd (T_X12_lands 33 _ _ _ rfl) ?_
  obtain ⟨hg, H⟩ := grd_some H
  refine g_iast (c := 97) (T_X12_lands 34 _ _ _ rfl) rfl hg ?_
  refine g_bndH H fun h2 H => ?_
  refine g_aload_n (T_X12_lands 35 _ _ _ rfl) rfl ?_
  refine g_aload_n (T_X12_lands 36 _ _ _ rfl) rfl ?_
  refine g_getI (c := 83) (T_X12_lands 37 _ _ _ rfl) fl_X12_196 rfl (Or.inl rfl) ?_
  refine g_iconst (T_X12_lands 38 _ _ _ rfl) ⟨by decide, by decide⟩ ?_
  refine g_isub (T_X12_lands 39 _ _ _ rfl) ?_
  refine g_put (c := 83) (T_X12_lands 40 _ _ _ rfl) fl_X12_196 rfl (Or.inl rfl) ?_
  refine g_bndH H fun h3 H => ?_
  refine g_goto (tgt := 0) (T_X12_lands 41 _ _ _ rfl) (by decide) ?_
  refine g_weak [true, true, false] ?_
  exact hk0 _ _ _ H
def L_X12_lands_0 (N : Nat) : Nat → Int → Hp → Option (Hp)
  | 0, _, _ => none
  | n + 1, x1, h =>
    bd (F_X12_waitTop N h) fun y2 h1 =>
    if y2 = 11 then
      J_X12_lands_22 N (L_X12_lands_0 N n) x1 h1
    else
    if x1 = 0 then
      some h1
    else
    bd (F_X12_waitTop N h1) fun y4 h3 =>
    if y4 = 12 then
      J_X12_lands_22 N (L_X12_lands_0 N n) x1 h3
    else
    some h3
set_option maxRecDepth 100000 in
set_option maxHeartbeats 4000000 in
theorem R_L_X12_lands_0 (N : Nat) : ∀ (n : Nat) (x1 : Int) (h : Hp) (res : Hp), L_X12_lands_0 N n x1 h = some res → Go M_X12_lands 2 0 [some (.inr 84), some (.inl x1), none] [] h (Qv res)
  | 0, _, _, _, H => by cases H
  | n + 1, x1, h, res, H => by
    have ih := R_L_X12_lands_0 N n
    simp only [L_X12_lands_0] at H
    refine g_aload_n (T_X12_lands 0 _ _ _ rfl) rfl ?_
    obtain ⟨y2, h1, hq, H⟩ := bd_some H
    refine g_callVi (M' := M_X12_waitTop) (c := 83) (av := []) (st := []) (T_X12_lands 1 _ _ _ rfl) ml_X12_199 cb_X12_waitTop rfl rfl (Nat.le_of_ble_eq_true rfl) (by omega) (R_X12_waitTop N _ _ hq) ?_
    refine g_bipush (T_X12_lands 2 _ _ _ rfl) (by decide) ?_
    refine g_icmp_eq (tgt := 22) (T_X12_lands 3 _ _ _ rfl) (by decide) (fun cc => ?_) (fun cc => ?_)
    · replace H := ite_p cc H
      refine g_weak [true, true, false] ?_
      exact R_J_X12_lands_22 N (L_X12_lands_0 N n) ih _ _ _ H
    · replace H := ite_n cc H
      refine g_iload_n (T_X12_lands 4 _ _ _ rfl) rfl ?_
      refine g_if_eq (tgt := 73) (T_X12_lands 5 _ _ _ rfl) (by decide) (fun cc => ?_) (fun cc => ?_)
      · replace H := ite_p cc H
        exact g_vret (T_X12_lands 42 _ _ _ rfl) rfl (qv_of H)
      · replace H := ite_n cc H
        refine g_aload_n (T_X12_lands 6 _ _ _ rfl) rfl ?_
        obtain ⟨y4, h3, hq, H⟩ := bd_some H
        refine g_callVi (M' := M_X12_waitTop) (c := 83) (av := []) (st := []) (T_X12_lands 7 _ _ _ rfl) ml_X12_199 cb_X12_waitTop rfl rfl (Nat.le_of_ble_eq_true rfl) (by omega) (R_X12_waitTop N _ _ hq) ?_
        refine g_bipush (T_X12_lands 8 _ _ _ rfl) (by decide) ?_
        refine g_icmp_ne (tgt := 73) (T_X12_lands 9 _ _ _ rfl) (by decide) (fun cc => ?_) (fun cc => ?_)
        · replace H := ite_n cc H
          exact g_vret (T_X12_lands 42 _ _ _ rfl) rfl (qv_of H)
        · replace H := ite_p cc H
          refine g_weak [true, true, false] ?_
          exact R_J_X12_lands_22 N (L_X12_lands_0 N n) ih _ _ _ H
def F_X12_lands (N : Nat) (x1 : Int) (h : Hp) : Option (Hp) :=
  L_X12_lands_0 N  N x1 h
set_option maxRecDepth 100000 in
set_option maxHeartbeats 4000000 in
theorem R_X12_lands (N : Nat) (x1 : Int) (h : Hp) (res : Hp) (H : F_X12_lands N x1 h = some res) : Runs M_X12_lands 2 [.inr 84, .inl x1] h (Qv res) := by
  refine Runs.of rfl (Nat.le_of_ble_eq_true rfl) ?_
  show Go M_X12_lands 2 0 [some (.inr 84), some (.inl x1), none] [] h (Qv res)
  unfold F_X12_lands at H
  refine g_weak [true, true, false] ?_
  refine R_L_X12_lands_0 N   _ _ _ _ H
def F_X12_jumps (N : Nat) (x1 : Int) (h : Hp) : Option (Hp) :=
  grd (0 ≤ (h 83 22) ∧ (h 83 22) < 260) <|
  bnd (hw h 98 (h 83 22).toNat (w32 ((w32 (1048576 * x1)) + (h 83 21)))) fun h1 =>
  bnd (hw h1 83 22 (w32 ((h1 83 22) + 1))) fun h2 =>
  bv (F_X12_notes N x1 0 h2) fun h3 =>
  bnd (hw h3 83 16 (w32 ((h3 83 16) + 1))) fun h4 =>
  some h4
set_option maxRecDepth 100000 in
set_option maxHeartbeats 4000000 in
theorem R_X12_jumps (N : Nat) (x1 : Int) (h : Hp) (res : Hp) (H : F_X12_jumps N x1 h = some res) : Runs M_X12_jumps 2 [.inr 84, .inl x1] h (Qv res) := by
  refine Runs.of rfl (Nat.le_of_ble_eq_true rfl) ?_
  show Go M_X12_jumps 2 0 [some (.inr 84), some (.inl x1)] [] h (Qv res)
  unfold F_X12_jumps at H
  refine g_aload_n (T_X12_jumps 0 _ _ _ rfl) rfl ?_
  refine g_getR (c := 83) (r := 99) (T_X12_jumps 1 _ _ _ rfl) fl_X12_53 rfl (nR rfl) rfl (by decide) ?_
  refine g_aload_n (T_X12_jumps 2 _ _ _ rfl) rfl ?_
  refine g_getI (c := 83) (T_X12_jumps 3 _ _ _ rfl) fl_X12_196 rfl (Or.inl rfl) ?_
  refine g_ldc (T_X12_jumps 4 _ _ _ rfl) kc_X12_192 ⟨by decide, by decide⟩ ?_
  refine g_iload_n (T_X12_jumps 5 _ _ _ rfl) rfl ?_
  refine g_imul (T_X12_jumps 6 _ _ _ rfl) ?_
  refine g_aload_n (T_X12_jumps 7 _ _ _ rfl) rfl ?_
  refine g_getI (c := 83) (T_X12_jumps 8 _ _ _ rfl) fl_X12_189 rfl (Or.inl rfl) ?_
  refine g_iadd (T_X12_jumps 9 _ _ _ rfl) ?_
  obtain ⟨hg, H⟩ := grd_some H
  refine g_iast (c := 98) (T_X12_jumps 10 _ _ _ rfl) rfl hg ?_
  refine g_bndH H fun h1 H => ?_
  refine g_aload_n (T_X12_jumps 11 _ _ _ rfl) rfl ?_
  refine g_aload_n (T_X12_jumps 12 _ _ _ rfl) rfl ?_
  refine g_getI (c := 83) (T_X12_jumps 13 _ _ _ rfl) fl_X12_196 rfl (Or.inl rfl) ?_
  refine g_iconst (T_X12_jumps 14 _ _ _ rfl) ⟨by decide, by decide⟩ ?_
  refine g_iadd (T_X12_jumps 15 _ _ _ rfl) ?_
  refine g_put (c := 83) (T_X12_jumps 16 _ _ _ rfl) fl_X12_196 rfl (Or.inl rfl) ?_
  refine g_bndH H fun h2 H => ?_
  refine g_aload_n (T_X12_jumps 17 _ _ _ rfl) rfl ?_
  refine g_iload_n (T_X12_jumps 18 _ _ _ rfl) rfl ?_
  refine g_iconst (T_X12_jumps 19 _ _ _ rfl) ⟨by decide, by decide⟩ ?_
  obtain ⟨h3, hq, H⟩ := bv_some H
  refine g_callVv (M' := M_X12_notes) (c := 83) (av := [.inl x1, .inl 0]) (st := []) (T_X12_jumps 20 _ _ _ rfl) ml_X12_202 cb_X12_notes rfl rfl (Nat.le_of_ble_eq_true rfl) (by omega) (R_X12_notes N _ _ _ _ hq) ?_
  refine g_aload_n (T_X12_jumps 21 _ _ _ rfl) rfl ?_
  refine g_aload_n (T_X12_jumps 22 _ _ _ rfl) rfl ?_
  refine g_getI (c := 83) (T_X12_jumps 23 _ _ _ rfl) fl_X12_166 rfl (Or.inl rfl) ?_
  refine g_iconst (T_X12_jumps 24 _ _ _ rfl) ⟨by decide, by decide⟩ ?_
  refine g_iadd (T_X12_jumps 25 _ _ _ rfl) ?_
  refine g_put (c := 83) (T_X12_jumps 26 _ _ _ rfl) fl_X12_166 rfl (Or.inl rfl) ?_
  refine g_bndH H fun h4 H => ?_
  exact g_vret (T_X12_jumps 27 _ _ _ rfl) rfl (qv_of H)
def J_X12_readsCondition_75 (N : Nat) (k40 : Hp → Option (Int × Hp)) (s1 : Int) (h : Hp) : Option (Int × Hp) :=
  bd (F_X12_opens N s1 h) fun y2 h1 =>
  if y2 = 0 then
    some (0, h1)
  else
  k40 h1
set_option maxRecDepth 100000 in
set_option maxHeartbeats 4000000 in
theorem R_J_X12_readsCondition_75 (N : Nat) (k40 : Hp → Option (Int × Hp)) (hk40 : ∀ (h : Hp) (res : Int × Hp), k40 h = some res → Go M_X12_readsCondition 7 40 [some (.inr 84)] [] h (Qi res)) (s1 : Int) (h : Hp) (res : Int × Hp) (H : J_X12_readsCondition_75 N k40 s1 h = some res) : Go M_X12_readsCondition 7 75 [some (.inr 84)] [.inl s1, .inr 84] h (Qi res) := by
  unfold J_X12_readsCondition_75 at H
  obtain ⟨y2, h1, hq, H⟩ := bd_some H
  refine g_callVi (M' := M_X12_opens) (c := 83) (av := [.inl s1]) (st := []) (T_X12_readsCondition 38 _ _ _ rfl) ml_X12_205 cb_X12_opens rfl rfl (Nat.le_of_ble_eq_true rfl) (by omega) (R_X12_opens N _ _ _ hq) ?_
  refine g_if_ne (tgt := 40) (T_X12_readsCondition 39 _ _ _ rfl) (by decide) (fun cc => ?_) (fun cc => ?_)
  · replace H := ite_n cc H
    refine g_weak [true] ?_
    exact hk40 _ _ H
  · replace H := ite_p cc H
    refine g_iconst (T_X12_readsCondition 40 _ _ _ rfl) ⟨by decide, by decide⟩ ?_
    exact g_zret (T_X12_readsCondition 41 _ _ _ rfl) rfl (by decide) (qi_of H)
def J_X12_readsCondition_58 (N : Nat) (k40 : Hp → Option (Int × Hp)) (h : Hp) : Option (Int × Hp) :=
  bd (F_X12_here N h) fun y2 h1 =>
  if y2 = 33 then
    J_X12_readsCondition_75 N k40 10 h1
  else
  J_X12_readsCondition_75 N k40 13 h1
set_option maxRecDepth 100000 in
set_option maxHeartbeats 4000000 in
theorem R_J_X12_readsCondition_58 (N : Nat) (k40 : Hp → Option (Int × Hp)) (hk40 : ∀ (h : Hp) (res : Int × Hp), k40 h = some res → Go M_X12_readsCondition 7 40 [some (.inr 84)] [] h (Qi res)) (h : Hp) (res : Int × Hp) (H : J_X12_readsCondition_58 N k40 h = some res) : Go M_X12_readsCondition 7 58 [some (.inr 84)] [] h (Qi res) := by
  unfold J_X12_readsCondition_58 at H
  refine g_aload_n (T_X12_readsCondition 30 _ _ _ rfl) rfl ?_
  refine g_aload_n (T_X12_readsCondition 31 _ _ _ rfl) rfl ?_
  obtain ⟨y2, h1, hq, H⟩ := bd_some H
  refine g_callVi (M' := M_X12_here) (c := 83) (av := []) (st := [.inr 84]) (T_X12_readsCondition 32 _ _ _ rfl) ml_X12_172 cb_X12_here rfl rfl (Nat.le_of_ble_eq_true rfl) (by omega) (R_X12_here N _ _ hq) ?_
  refine g_bipush (T_X12_readsCondition 33 _ _ _ rfl) (by decide) ?_
  refine g_icmp_ne (tgt := 73) (T_X12_readsCondition 34 _ _ _ rfl) (by decide) (fun cc => ?_) (fun cc => ?_)
  · replace H := ite_n cc H
    refine g_bipush (T_X12_readsCondition 37 _ _ _ rfl) (by decide) ?_
    refine g_weak [true] ?_
    exact R_J_X12_readsCondition_75 N k40 hk40 _ _ _ H
  · replace H := ite_p cc H
    refine g_bipush (T_X12_readsCondition 35 _ _ _ rfl) (by decide) ?_
    refine g_goto (tgt := 75) (T_X12_readsCondition 36 _ _ _ rfl) (by decide) ?_
    refine g_weak [true] ?_
    exact R_J_X12_readsCondition_75 N k40 hk40 _ _ _ H
def L_X12_readsCondition_92 (N : Nat) (k152 : Hp → Option (Int × Hp)) : Nat → Hp → Option (Int × Hp)
  | 0, _ => none
  | n + 1, h =>
    bd (F_X12_here N h) fun y2 h1 =>
    if y2 = 41 then
      bv (F_X12_lands N 1 h1) fun h3 =>
      bnd (hw h3 83 22 (w32 ((h3 83 22) - 1))) fun h4 =>
      bnd (hw h4 83 20 (w32 ((h4 83 20) - 1))) fun h5 =>
      bnd (hw h5 83 16 (w32 ((h5 83 16) + 1))) fun h6 =>
      if (h6 83 22) = 0 then
        some (1, h6)
      else
      bv (F_X12_endsPiece N h6) fun h7 =>
      (L_X12_readsCondition_92 N k152 n) h7
    else
    k152 h1
set_option maxRecDepth 100000 in
set_option maxHeartbeats 4000000 in
theorem R_L_X12_readsCondition_92 (N : Nat) (k152 : Hp → Option (Int × Hp)) (hk152 : ∀ (h : Hp) (res : Int × Hp), k152 h = some res → Go M_X12_readsCondition 7 152 [some (.inr 84)] [] h (Qi res)) : ∀ (n : Nat) (h : Hp) (res : Int × Hp), L_X12_readsCondition_92 N k152 n h = some res → Go M_X12_readsCondition 7 92 [some (.inr 84)] [] h (Qi res)
  | 0, _, _, H => by cases H
  | n + 1, h, res, H => by
    have ih := R_L_X12_readsCondition_92 N k152 hk152 n
    simp only [L_X12_readsCondition_92] at H
    refine g_aload_n (T_X12_readsCondition 47 _ _ _ rfl) rfl ?_
    obtain ⟨y2, h1, hq, H⟩ := bd_some H
    refine g_callVi (M' := M_X12_here) (c := 83) (av := []) (st := []) (T_X12_readsCondition 48 _ _ _ rfl) ml_X12_172 cb_X12_here rfl rfl (Nat.le_of_ble_eq_true rfl) (by omega) (R_X12_here N _ _ hq) ?_
    refine g_bipush (T_X12_readsCondition 49 _ _ _ rfl) (by decide) ?_
    refine g_icmp_ne (tgt := 152) (T_X12_readsCondition 50 _ _ _ rfl) (by decide) (fun cc => ?_) (fun cc => ?_)
    · replace H := ite_n cc H
      refine g_weak [true] ?_
      exact hk152 _ _ H
    · replace H := ite_p cc H
      refine g_aload_n (T_X12_readsCondition 51 _ _ _ rfl) rfl ?_
      refine g_iconst (T_X12_readsCondition 52 _ _ _ rfl) ⟨by decide, by decide⟩ ?_
      obtain ⟨h3, hq, H⟩ := bv_some H
      refine g_callVv (M' := M_X12_lands) (c := 83) (av := [.inl 1]) (st := []) (T_X12_readsCondition 53 _ _ _ rfl) ml_X12_237 cb_X12_lands rfl rfl (Nat.le_of_ble_eq_true rfl) (by omega) (R_X12_lands N _ _ _ hq) ?_
      refine g_aload_n (T_X12_readsCondition 54 _ _ _ rfl) rfl ?_
      refine g_aload_n (T_X12_readsCondition 55 _ _ _ rfl) rfl ?_
      refine g_getI (c := 83) (T_X12_readsCondition 56 _ _ _ rfl) fl_X12_196 rfl (Or.inl rfl) ?_
      refine g_iconst (T_X12_readsCondition 57 _ _ _ rfl) ⟨by decide, by decide⟩ ?_
      refine g_isub (T_X12_readsCondition 58 _ _ _ rfl) ?_
      refine g_put (c := 83) (T_X12_readsCondition 59 _ _ _ rfl) fl_X12_196 rfl (Or.inl rfl) ?_
      refine g_bndH H fun h4 H => ?_
      refine g_aload_n (T_X12_readsCondition 60 _ _ _ rfl) rfl ?_
      refine g_aload_n (T_X12_readsCondition 61 _ _ _ rfl) rfl ?_
      refine g_getI (c := 83) (T_X12_readsCondition 62 _ _ _ rfl) fl_X12_193 rfl (Or.inl rfl) ?_
      refine g_iconst (T_X12_readsCondition 63 _ _ _ rfl) ⟨by decide, by decide⟩ ?_
      refine g_isub (T_X12_readsCondition 64 _ _ _ rfl) ?_
      refine g_put (c := 83) (T_X12_readsCondition 65 _ _ _ rfl) fl_X12_193 rfl (Or.inl rfl) ?_
      refine g_bndH H fun h5 H => ?_
      refine g_aload_n (T_X12_readsCondition 66 _ _ _ rfl) rfl ?_
      refine g_aload_n (T_X12_readsCondition 67 _ _ _ rfl) rfl ?_
      refine g_getI (c := 83) (T_X12_readsCondition 68 _ _ _ rfl) fl_X12_166 rfl (Or.inl rfl) ?_
      refine g_iconst (T_X12_readsCondition 69 _ _ _ rfl) ⟨by decide, by decide⟩ ?_
      refine g_iadd (T_X12_readsCondition 70 _ _ _ rfl) ?_
      refine g_put (c := 83) (T_X12_readsCondition 71 _ _ _ rfl) fl_X12_166 rfl (Or.inl rfl) ?_
      refine g_bndH H fun h6 H => ?_
      refine g_aload_n (T_X12_readsCondition 72 _ _ _ rfl) rfl ?_
      refine g_getI (c := 83) (T_X12_readsCondition 73 _ _ _ rfl) fl_X12_196 rfl (Or.inl rfl) ?_
      refine g_if_ne (tgt := 145) (T_X12_readsCondition 74 _ _ _ rfl) (by decide) (fun cc => ?_) (fun cc => ?_)
      · replace H := ite_n cc H
        refine g_aload_n (T_X12_readsCondition 77 _ _ _ rfl) rfl ?_
        obtain ⟨h7, hq, H⟩ := bv_some H
        refine g_callVv (M' := M_X12_endsPiece) (c := 83) (av := []) (st := []) (T_X12_readsCondition 78 _ _ _ rfl) ml_X12_231 cb_X12_endsPiece rfl rfl (Nat.le_of_ble_eq_true rfl) (by omega) (R_X12_endsPiece N _ _ hq) ?_
        refine g_goto (tgt := 92) (T_X12_readsCondition 79 _ _ _ rfl) (by decide) ?_
        refine g_weak [true] ?_
        exact ih _ _ H
      · replace H := ite_p cc H
        refine g_iconst (T_X12_readsCondition 75 _ _ _ rfl) ⟨by decide, by decide⟩ ?_
        exact g_zret (T_X12_readsCondition 76 _ _ _ rfl) rfl (by decide) (qi_of H)
def J_X12_readsCondition_215 (N : Nat) (k40 : Hp → Option (Int × Hp)) (s1 : Int) (h : Hp) : Option (Int × Hp) :=
  bv (F_X12_jumps N s1 h) fun h1 =>
  k40 h1
set_option maxRecDepth 100000 in
set_option maxHeartbeats 4000000 in
theorem R_J_X12_readsCondition_215 (N : Nat) (k40 : Hp → Option (Int × Hp)) (hk40 : ∀ (h : Hp) (res : Int × Hp), k40 h = some res → Go M_X12_readsCondition 7 40 [some (.inr 84)] [] h (Qi res)) (s1 : Int) (h : Hp) (res : Int × Hp) (H : J_X12_readsCondition_215 N k40 s1 h = some res) : Go M_X12_readsCondition 7 215 [some (.inr 84)] [.inl s1, .inr 84] h (Qi res) := by
  unfold J_X12_readsCondition_215 at H
  obtain ⟨h1, hq, H⟩ := bv_some H
  refine g_callVv (M' := M_X12_jumps) (c := 83) (av := [.inl s1]) (st := []) (T_X12_readsCondition 111 _ _ _ rfl) ml_X12_240 cb_X12_jumps rfl rfl (Nat.le_of_ble_eq_true rfl) (by omega) (R_X12_jumps N _ _ _ hq) ?_
  refine g_goto (tgt := 40) (T_X12_readsCondition 112 _ _ _ rfl) (by decide) ?_
  refine g_weak [true] ?_
  exact hk40 _ _ H
def J_X12_readsCondition_195 (N : Nat) (k40 : Hp → Option (Int × Hp)) (s1 : Int) (h : Hp) : Option (Int × Hp) :=
  bv (F_X12_lands N s1 h) fun h1 =>
  bd (F_X12_here N h1) fun y3 h2 =>
  if y3 = 38 then
    J_X12_readsCondition_215 N k40 11 h2
  else
  J_X12_readsCondition_215 N k40 12 h2
set_option maxRecDepth 100000 in
set_option maxHeartbeats 4000000 in
theorem R_J_X12_readsCondition_195 (N : Nat) (k40 : Hp → Option (Int × Hp)) (hk40 : ∀ (h : Hp) (res : Int × Hp), k40 h = some res → Go M_X12_readsCondition 7 40 [some (.inr 84)] [] h (Qi res)) (s1 : Int) (h : Hp) (res : Int × Hp) (H : J_X12_readsCondition_195 N k40 s1 h = some res) : Go M_X12_readsCondition 7 195 [some (.inr 84)] [.inl s1, .inr 84] h (Qi res) := by
  unfold J_X12_readsCondition_195 at H
  obtain ⟨h1, hq, H⟩ := bv_some H
  refine g_callVv (M' := M_X12_lands) (c := 83) (av := [.inl s1]) (st := []) (T_X12_readsCondition 102 _ _ _ rfl) ml_X12_237 cb_X12_lands rfl rfl (Nat.le_of_ble_eq_true rfl) (by omega) (R_X12_lands N _ _ _ hq) ?_
  refine g_aload_n (T_X12_readsCondition 103 _ _ _ rfl) rfl ?_
  refine g_aload_n (T_X12_readsCondition 104 _ _ _ rfl) rfl ?_
  obtain ⟨y3, h2, hq, H⟩ := bd_some H
  refine g_callVi (M' := M_X12_here) (c := 83) (av := []) (st := [.inr 84]) (T_X12_readsCondition 105 _ _ _ rfl) ml_X12_172 cb_X12_here rfl rfl (Nat.le_of_ble_eq_true rfl) (by omega) (R_X12_here N _ _ hq) ?_
  refine g_bipush (T_X12_readsCondition 106 _ _ _ rfl) (by decide) ?_
  refine g_icmp_ne (tgt := 213) (T_X12_readsCondition 107 _ _ _ rfl) (by decide) (fun cc => ?_) (fun cc => ?_)
  · replace H := ite_n cc H
    refine g_bipush (T_X12_readsCondition 110 _ _ _ rfl) (by decide) ?_
    refine g_weak [true] ?_
    exact R_J_X12_readsCondition_215 N k40 hk40 _ _ _ H
  · replace H := ite_p cc H
    refine g_bipush (T_X12_readsCondition 108 _ _ _ rfl) (by decide) ?_
    refine g_goto (tgt := 215) (T_X12_readsCondition 109 _ _ _ rfl) (by decide) ?_
    refine g_weak [true] ?_
    exact R_J_X12_readsCondition_215 N k40 hk40 _ _ _ H
def J_X12_readsCondition_180 (N : Nat) (k40 : Hp → Option (Int × Hp)) (h : Hp) : Option (Int × Hp) :=
  bd (F_X12_here N h) fun y2 h1 =>
  if y2 = 124 then
    J_X12_readsCondition_195 N k40 1 h1
  else
  J_X12_readsCondition_195 N k40 0 h1
set_option maxRecDepth 100000 in
set_option maxHeartbeats 4000000 in
theorem R_J_X12_readsCondition_180 (N : Nat) (k40 : Hp → Option (Int × Hp)) (hk40 : ∀ (h : Hp) (res : Int × Hp), k40 h = some res → Go M_X12_readsCondition 7 40 [some (.inr 84)] [] h (Qi res)) (h : Hp) (res : Int × Hp) (H : J_X12_readsCondition_180 N k40 h = some res) : Go M_X12_readsCondition 7 180 [some (.inr 84)] [] h (Qi res) := by
  unfold J_X12_readsCondition_180 at H
  refine g_aload_n (T_X12_readsCondition 94 _ _ _ rfl) rfl ?_
  refine g_aload_n (T_X12_readsCondition 95 _ _ _ rfl) rfl ?_
  obtain ⟨y2, h1, hq, H⟩ := bd_some H
  refine g_callVi (M' := M_X12_here) (c := 83) (av := []) (st := [.inr 84]) (T_X12_readsCondition 96 _ _ _ rfl) ml_X12_172 cb_X12_here rfl rfl (Nat.le_of_ble_eq_true rfl) (by omega) (R_X12_here N _ _ hq) ?_
  refine g_bipush (T_X12_readsCondition 97 _ _ _ rfl) (by decide) ?_
  refine g_icmp_ne (tgt := 194) (T_X12_readsCondition 98 _ _ _ rfl) (by decide) (fun cc => ?_) (fun cc => ?_)
  · replace H := ite_n cc H
    refine g_iconst (T_X12_readsCondition 101 _ _ _ rfl) ⟨by decide, by decide⟩ ?_
    refine g_weak [true] ?_
    exact R_J_X12_readsCondition_195 N k40 hk40 _ _ _ H
  · replace H := ite_p cc H
    refine g_iconst (T_X12_readsCondition 99 _ _ _ rfl) ⟨by decide, by decide⟩ ?_
    refine g_goto (tgt := 195) (T_X12_readsCondition 100 _ _ _ rfl) (by decide) ?_
    refine g_weak [true] ?_
    exact R_J_X12_readsCondition_195 N k40 hk40 _ _ _ H
def L_X12_readsCondition_40 (N : Nat) : Nat → Hp → Option (Int × Hp)
  | 0, _ => none
  | n + 1, h =>
    bd (F_X12_here N h) fun y2 h1 =>
    if y2 = 33 then
      J_X12_readsCondition_58 N (L_X12_readsCondition_40 N n) h1
    else
    bd (F_X12_here N h1) fun y4 h3 =>
    if y4 = 40 then
      J_X12_readsCondition_58 N (L_X12_readsCondition_40 N n) h3
    else
    bd (F_X12_readsCompared N h3) fun y6 h5 =>
    if y6 = 0 then
      some (0, h5)
    else
    L_X12_readsCondition_92 N (fun (h7 : Hp) =>
      bd (F_X12_here N h7) fun y9 h8 =>
      if y9 = 38 then
        J_X12_readsCondition_180 N (L_X12_readsCondition_40 N n) h8
      else
      bd (F_X12_here N h8) fun y11 h10 =>
      if y11 = 124 then
        J_X12_readsCondition_180 N (L_X12_readsCondition_40 N n) h10
      else
      bd (F_X12_wrongAt N 1 (h10 83 16) h10) fun y13 h12 =>
      grd (y13 = 0 ∨ y13 = 1) <|
      some (y13, h12)) N h5
set_option maxRecDepth 100000 in
set_option maxHeartbeats 4000000 in
theorem R_L_X12_readsCondition_40 (N : Nat) : ∀ (n : Nat) (h : Hp) (res : Int × Hp), L_X12_readsCondition_40 N n h = some res → Go M_X12_readsCondition 7 40 [some (.inr 84)] [] h (Qi res)
  | 0, _, _, H => by cases H
  | n + 1, h, res, H => by
    have ih := R_L_X12_readsCondition_40 N n
    simp only [L_X12_readsCondition_40] at H
    refine g_aload_n (T_X12_readsCondition 22 _ _ _ rfl) rfl ?_
    obtain ⟨y2, h1, hq, H⟩ := bd_some H
    refine g_callVi (M' := M_X12_here) (c := 83) (av := []) (st := []) (T_X12_readsCondition 23 _ _ _ rfl) ml_X12_172 cb_X12_here rfl rfl (Nat.le_of_ble_eq_true rfl) (by omega) (R_X12_here N _ _ hq) ?_
    refine g_bipush (T_X12_readsCondition 24 _ _ _ rfl) (by decide) ?_
    refine g_icmp_eq (tgt := 58) (T_X12_readsCondition 25 _ _ _ rfl) (by decide) (fun cc => ?_) (fun cc => ?_)
    · replace H := ite_p cc H
      refine g_weak [true] ?_
      exact R_J_X12_readsCondition_58 N (L_X12_readsCondition_40 N n) ih _ _ H
    · replace H := ite_n cc H
      refine g_aload_n (T_X12_readsCondition 26 _ _ _ rfl) rfl ?_
      obtain ⟨y4, h3, hq, H⟩ := bd_some H
      refine g_callVi (M' := M_X12_here) (c := 83) (av := []) (st := []) (T_X12_readsCondition 27 _ _ _ rfl) ml_X12_172 cb_X12_here rfl rfl (Nat.le_of_ble_eq_true rfl) (by omega) (R_X12_here N _ _ hq) ?_
      refine g_bipush (T_X12_readsCondition 28 _ _ _ rfl) (by decide) ?_
      refine g_icmp_ne (tgt := 83) (T_X12_readsCondition 29 _ _ _ rfl) (by decide) (fun cc => ?_) (fun cc => ?_)
      · replace H := ite_n cc H
        refine g_aload_n (T_X12_readsCondition 42 _ _ _ rfl) rfl ?_
        obtain ⟨y6, h5, hq, H⟩ := bd_some H
        refine g_callVi (M' := M_X12_readsCompared) (c := 83) (av := []) (st := []) (T_X12_readsCondition 43 _ _ _ rfl) ml_X12_234 cb_X12_readsCompared rfl rfl (Nat.le_of_ble_eq_true rfl) (by omega) (R_X12_readsCompared N _ _ hq) ?_
        refine g_if_ne (tgt := 92) (T_X12_readsCondition 44 _ _ _ rfl) (by decide) (fun cc => ?_) (fun cc => ?_)
        · replace H := ite_n cc H
          refine g_weak [true] ?_
          refine R_L_X12_readsCondition_92 N _ (fun h7 res H => ?_) _ _ _ H
          · refine g_aload_n (T_X12_readsCondition 80 _ _ _ rfl) rfl ?_
            obtain ⟨y9, h8, hq, H⟩ := bd_some H
            refine g_callVi (M' := M_X12_here) (c := 83) (av := []) (st := []) (T_X12_readsCondition 81 _ _ _ rfl) ml_X12_172 cb_X12_here rfl rfl (Nat.le_of_ble_eq_true rfl) (by omega) (R_X12_here N _ _ hq) ?_
            refine g_bipush (T_X12_readsCondition 82 _ _ _ rfl) (by decide) ?_
            refine g_icmp_eq (tgt := 180) (T_X12_readsCondition 83 _ _ _ rfl) (by decide) (fun cc => ?_) (fun cc => ?_)
            · replace H := ite_p cc H
              refine g_weak [true] ?_
              exact R_J_X12_readsCondition_180 N (L_X12_readsCondition_40 N n) ih _ _ H
            · replace H := ite_n cc H
              refine g_aload_n (T_X12_readsCondition 84 _ _ _ rfl) rfl ?_
              obtain ⟨y11, h10, hq, H⟩ := bd_some H
              refine g_callVi (M' := M_X12_here) (c := 83) (av := []) (st := []) (T_X12_readsCondition 85 _ _ _ rfl) ml_X12_172 cb_X12_here rfl rfl (Nat.le_of_ble_eq_true rfl) (by omega) (R_X12_here N _ _ hq) ?_
              refine g_bipush (T_X12_readsCondition 86 _ _ _ rfl) (by decide) ?_
              refine g_icmp_eq (tgt := 180) (T_X12_readsCondition 87 _ _ _ rfl) (by decide) (fun cc => ?_) (fun cc => ?_)
              · replace H := ite_p cc H
                refine g_weak [true] ?_
                exact R_J_X12_readsCondition_180 N (L_X12_readsCondition_40 N n) ih _ _ H
              · replace H := ite_n cc H
                refine g_aload_n (T_X12_readsCondition 88 _ _ _ rfl) rfl ?_
                refine g_iconst (T_X12_readsCondition 89 _ _ _ rfl) ⟨by decide, by decide⟩ ?_
                refine g_aload_n (T_X12_readsCondition 90 _ _ _ rfl) rfl ?_
                refine g_getI (c := 83) (T_X12_readsCondition 91 _ _ _ rfl) fl_X12_166 rfl (Or.inl rfl) ?_
                obtain ⟨y13, h12, hq, H⟩ := bd_some H
                refine g_callVi (M' := M_X12_wrongAt) (c := 83) (av := [.inl 1, .inl (h10 83 16)]) (st := []) (T_X12_readsCondition 92 _ _ _ rfl) ml_X12_179 cb_X12_wrongAt rfl rfl (Nat.le_of_ble_eq_true rfl) (by omega) (R_X12_wrongAt N _ _ _ _ hq) ?_
                obtain ⟨hg, H⟩ := grd_some H
                exact g_zret (T_X12_readsCondition 93 _ _ _ rfl) rfl hg (qi_of H)
        · replace H := ite_p cc H
          refine g_iconst (T_X12_readsCondition 45 _ _ _ rfl) ⟨by decide, by decide⟩ ?_
          exact g_zret (T_X12_readsCondition 46 _ _ _ rfl) rfl (by decide) (qi_of H)
      · replace H := ite_p cc H
        refine g_weak [true] ?_
        exact R_J_X12_readsCondition_58 N (L_X12_readsCondition_40 N n) ih _ _ H
def F_X12_readsCondition (N : Nat) (h : Hp) : Option (Int × Hp) :=
  bd (F_X12_here N h) fun y2 h1 =>
  if y2 = 40 then
    bnd (hw h1 83 20 0) fun h3 =>
    bnd (hw h3 83 22 0) fun h4 =>
    bd (F_X12_opens N 13 h4) fun y6 h5 =>
    if y6 = 0 then
      some (0, h5)
    else
    L_X12_readsCondition_40 N  N h5
  else
  bd (F_X12_wrongAt N 1 (h1 83 16) h1) fun y8 h7 =>
  grd (y8 = 0 ∨ y8 = 1) <|
  some (y8, h7)
set_option maxRecDepth 100000 in
set_option maxHeartbeats 4000000 in
theorem R_X12_readsCondition (N : Nat) (h : Hp) (res : Int × Hp) (H : F_X12_readsCondition N h = some res) : Runs M_X12_readsCondition 7 [.inr 84] h (Qi res) := by
  refine Runs.of rfl (Nat.le_of_ble_eq_true rfl) ?_
  show Go M_X12_readsCondition 7 0 [some (.inr 84)] [] h (Qi res)
  unfold F_X12_readsCondition at H
  refine g_aload_n (T_X12_readsCondition 0 _ _ _ rfl) rfl ?_
  obtain ⟨y2, h1, hq, H⟩ := bd_some H
  refine g_callVi (M' := M_X12_here) (c := 83) (av := []) (st := []) (T_X12_readsCondition 1 _ _ _ rfl) ml_X12_172 cb_X12_here rfl rfl (Nat.le_of_ble_eq_true rfl) (by omega) (R_X12_here N _ _ hq) ?_
  refine g_bipush (T_X12_readsCondition 2 _ _ _ rfl) (by decide) ?_
  refine g_icmp_eq (tgt := 19) (T_X12_readsCondition 3 _ _ _ rfl) (by decide) (fun cc => ?_) (fun cc => ?_)
  · replace H := ite_p cc H
    refine g_aload_n (T_X12_readsCondition 10 _ _ _ rfl) rfl ?_
    refine g_iconst (T_X12_readsCondition 11 _ _ _ rfl) ⟨by decide, by decide⟩ ?_
    refine g_put (c := 83) (T_X12_readsCondition 12 _ _ _ rfl) fl_X12_193 rfl (Or.inl rfl) ?_
    refine g_bndH H fun h3 H => ?_
    refine g_aload_n (T_X12_readsCondition 13 _ _ _ rfl) rfl ?_
    refine g_iconst (T_X12_readsCondition 14 _ _ _ rfl) ⟨by decide, by decide⟩ ?_
    refine g_put (c := 83) (T_X12_readsCondition 15 _ _ _ rfl) fl_X12_196 rfl (Or.inl rfl) ?_
    refine g_bndH H fun h4 H => ?_
    refine g_aload_n (T_X12_readsCondition 16 _ _ _ rfl) rfl ?_
    refine g_bipush (T_X12_readsCondition 17 _ _ _ rfl) (by decide) ?_
    obtain ⟨y6, h5, hq, H⟩ := bd_some H
    refine g_callVi (M' := M_X12_opens) (c := 83) (av := [.inl 13]) (st := []) (T_X12_readsCondition 18 _ _ _ rfl) ml_X12_205 cb_X12_opens rfl rfl (Nat.le_of_ble_eq_true rfl) (by omega) (R_X12_opens N _ _ _ hq) ?_
    refine g_if_ne (tgt := 40) (T_X12_readsCondition 19 _ _ _ rfl) (by decide) (fun cc => ?_) (fun cc => ?_)
    · replace H := ite_n cc H
      refine g_weak [true] ?_
      refine R_L_X12_readsCondition_40 N   _ _ _ H
    · replace H := ite_p cc H
      refine g_iconst (T_X12_readsCondition 20 _ _ _ rfl) ⟨by decide, by decide⟩ ?_
      exact g_zret (T_X12_readsCondition 21 _ _ _ rfl) rfl (by decide) (qi_of H)
  · replace H := ite_n cc H
    refine g_aload_n (T_X12_readsCondition 4 _ _ _ rfl) rfl ?_
    refine g_iconst (T_X12_readsCondition 5 _ _ _ rfl) ⟨by decide, by decide⟩ ?_
    refine g_aload_n (T_X12_readsCondition 6 _ _ _ rfl) rfl ?_
    refine g_getI (c := 83) (T_X12_readsCondition 7 _ _ _ rfl) fl_X12_166 rfl (Or.inl rfl) ?_
    obtain ⟨y8, h7, hq, H⟩ := bd_some H
    refine g_callVi (M' := M_X12_wrongAt) (c := 83) (av := [.inl 1, .inl (h1 83 16)]) (st := []) (T_X12_readsCondition 8 _ _ _ rfl) ml_X12_179 cb_X12_wrongAt rfl rfl (Nat.le_of_ble_eq_true rfl) (by omega) (R_X12_wrongAt N _ _ _ _ hq) ?_
    obtain ⟨hg, H⟩ := grd_some H
    exact g_zret (T_X12_readsCondition 9 _ _ _ rfl) rfl hg (qi_of H)
def F_X12_readsClause (N : Nat) (h : Hp) : Option (Int × Hp) :=
  bd (F_X12_here N h) fun y2 h1 =>
  bd (F_X12_isClause N y2 h1) fun y4 h3 =>
  if y4 = 0 then
    bd (F_X12_wrongAt N 1 (h3 83 16) h3) fun y20 h19 =>
    grd (y20 = 0 ∨ y20 = 1) <|
    some (y20, h19)
  else
  if (h3 83 23) = 16 then
    bd (F_X12_wrongAt N 4 (h3 83 16) h3) fun y18 h17 =>
    grd (y18 = 0 ∨ y18 = 1) <|
    some (y18, h17)
  else
  grd (0 ≤ (h3 83 23) ∧ (h3 83 23) < 16) <|
  bnd (hw h3 99 (h3 83 23).toNat y2) fun h5 =>
  bnd (hw h5 83 16 (w32 ((h5 83 16) + 1))) fun h6 =>
  grd (0 ≤ (h6 83 23) ∧ (h6 83 23) < 16) <|
  bnd (hw h6 100 (h6 83 23).toNat (h6 83 21)) fun h7 =>
  bnd (hw h7 83 20 0) fun h8 =>
  bnd (hw h8 83 22 0) fun h9 =>
  bd (F_X12_readsSum N h9) fun y11 h10 =>
  if y11 = 0 then
    some (0, h10)
  else
  grd (0 ≤ (h10 83 23) ∧ (h10 83 23) < 16) <|
  bnd (hw h10 101 (h10 83 23).toNat (h10 83 21)) fun h12 =>
  bd (F_X12_readsCondition N h12) fun y14 h13 =>
  if y14 = 0 then
    some (0, h13)
  else
  grd (0 ≤ (h13 83 23) ∧ (h13 83 23) < 16) <|
  bnd (hw h13 102 (h13 83 23).toNat (h13 83 21)) fun h15 =>
  bnd (hw h15 83 23 (w32 ((h15 83 23) + 1))) fun h16 =>
  some (1, h16)
set_option maxRecDepth 100000 in
set_option maxHeartbeats 4000000 in
theorem R_X12_readsClause (N : Nat) (h : Hp) (res : Int × Hp) (H : F_X12_readsClause N h = some res) : Runs M_X12_readsClause 8 [.inr 84] h (Qi res) := by
  refine Runs.of rfl (Nat.le_of_ble_eq_true rfl) ?_
  show Go M_X12_readsClause 8 0 [some (.inr 84), none] [] h (Qi res)
  unfold F_X12_readsClause at H
  refine g_aload_n (T_X12_readsClause 0 _ _ _ rfl) rfl ?_
  obtain ⟨y2, h1, hq, H⟩ := bd_some H
  refine g_callVi (M' := M_X12_here) (c := 83) (av := []) (st := []) (T_X12_readsClause 1 _ _ _ rfl) ml_X12_172 cb_X12_here rfl rfl (Nat.le_of_ble_eq_true rfl) (by omega) (R_X12_here N _ _ hq) ?_
  refine g_istore_n (T_X12_readsClause 2 _ _ _ rfl) (by decide) ?_
  refine g_iload_n (T_X12_readsClause 3 _ _ _ rfl) rfl ?_
  obtain ⟨y4, h3, hq, H⟩ := bd_some H
  refine g_callSi (M' := M_X12_isClause) (av := [.inl y2]) (st := []) (T_X12_readsClause 4 _ _ _ rfl) ml_X12_243 cb_X12_isClause rfl (Nat.le_of_ble_eq_true rfl) (by omega) (R_X12_isClause N _ _ _ hq) ?_
  refine g_if_ne (tgt := 22) (T_X12_readsClause 5 _ _ _ rfl) (by decide) (fun cc => ?_) (fun cc => ?_)
  · replace H := ite_n cc H
    refine g_aload_n (T_X12_readsClause 12 _ _ _ rfl) rfl ?_
    refine g_getI (c := 83) (T_X12_readsClause 13 _ _ _ rfl) fl_X12_246 rfl (Or.inl rfl) ?_
    refine g_bipush (T_X12_readsClause 14 _ _ _ rfl) (by decide) ?_
    refine g_icmp_ne (tgt := 41) (T_X12_readsClause 15 _ _ _ rfl) (by decide) (fun cc => ?_) (fun cc => ?_)
    · replace H := ite_n cc H
      refine g_aload_n (T_X12_readsClause 22 _ _ _ rfl) rfl ?_
      refine g_getR (c := 83) (r := 100) (T_X12_readsClause 23 _ _ _ rfl) fl_X12_56 rfl (nR rfl) rfl (by decide) ?_
      refine g_aload_n (T_X12_readsClause 24 _ _ _ rfl) rfl ?_
      refine g_getI (c := 83) (T_X12_readsClause 25 _ _ _ rfl) fl_X12_246 rfl (Or.inl rfl) ?_
      refine g_iload_n (T_X12_readsClause 26 _ _ _ rfl) rfl ?_
      obtain ⟨hg, H⟩ := grd_some H
      refine g_iast (c := 99) (T_X12_readsClause 27 _ _ _ rfl) rfl hg ?_
      refine g_bndH H fun h5 H => ?_
      refine g_aload_n (T_X12_readsClause 28 _ _ _ rfl) rfl ?_
      refine g_aload_n (T_X12_readsClause 29 _ _ _ rfl) rfl ?_
      refine g_getI (c := 83) (T_X12_readsClause 30 _ _ _ rfl) fl_X12_166 rfl (Or.inl rfl) ?_
      refine g_iconst (T_X12_readsClause 31 _ _ _ rfl) ⟨by decide, by decide⟩ ?_
      refine g_iadd (T_X12_readsClause 32 _ _ _ rfl) ?_
      refine g_put (c := 83) (T_X12_readsClause 33 _ _ _ rfl) fl_X12_166 rfl (Or.inl rfl) ?_
      refine g_bndH H fun h6 H => ?_
      refine g_aload_n (T_X12_readsClause 34 _ _ _ rfl) rfl ?_
      refine g_getR (c := 83) (r := 101) (T_X12_readsClause 35 _ _ _ rfl) fl_X12_59 rfl (nR rfl) rfl (by decide) ?_
      refine g_aload_n (T_X12_readsClause 36 _ _ _ rfl) rfl ?_
      refine g_getI (c := 83) (T_X12_readsClause 37 _ _ _ rfl) fl_X12_246 rfl (Or.inl rfl) ?_
      refine g_aload_n (T_X12_readsClause 38 _ _ _ rfl) rfl ?_
      refine g_getI (c := 83) (T_X12_readsClause 39 _ _ _ rfl) fl_X12_189 rfl (Or.inl rfl) ?_
      obtain ⟨hg, H⟩ := grd_some H
      refine g_iast (c := 100) (T_X12_readsClause 40 _ _ _ rfl) rfl hg ?_
      refine g_bndH H fun h7 H => ?_
      refine g_aload_n (T_X12_readsClause 41 _ _ _ rfl) rfl ?_
      refine g_iconst (T_X12_readsClause 42 _ _ _ rfl) ⟨by decide, by decide⟩ ?_
      refine g_put (c := 83) (T_X12_readsClause 43 _ _ _ rfl) fl_X12_193 rfl (Or.inl rfl) ?_
      refine g_bndH H fun h8 H => ?_
      refine g_aload_n (T_X12_readsClause 44 _ _ _ rfl) rfl ?_
      refine g_iconst (T_X12_readsClause 45 _ _ _ rfl) ⟨by decide, by decide⟩ ?_
      refine g_put (c := 83) (T_X12_readsClause 46 _ _ _ rfl) fl_X12_196 rfl (Or.inl rfl) ?_
      refine g_bndH H fun h9 H => ?_
      refine g_aload_n (T_X12_readsClause 47 _ _ _ rfl) rfl ?_
      obtain ⟨y11, h10, hq, H⟩ := bd_some H
      refine g_callVi (M' := M_X12_readsSum) (c := 83) (av := []) (st := []) (T_X12_readsClause 48 _ _ _ rfl) ml_X12_228 cb_X12_readsSum rfl rfl (Nat.le_of_ble_eq_true rfl) (by omega) (R_X12_readsSum N _ _ hq) ?_
      refine g_if_ne (tgt := 93) (T_X12_readsClause 49 _ _ _ rfl) (by decide) (fun cc => ?_) (fun cc => ?_)
      · replace H := ite_n cc H
        refine g_aload_n (T_X12_readsClause 52 _ _ _ rfl) rfl ?_
        refine g_getR (c := 83) (r := 102) (T_X12_readsClause 53 _ _ _ rfl) fl_X12_62 rfl (nR rfl) rfl (by decide) ?_
        refine g_aload_n (T_X12_readsClause 54 _ _ _ rfl) rfl ?_
        refine g_getI (c := 83) (T_X12_readsClause 55 _ _ _ rfl) fl_X12_246 rfl (Or.inl rfl) ?_
        refine g_aload_n (T_X12_readsClause 56 _ _ _ rfl) rfl ?_
        refine g_getI (c := 83) (T_X12_readsClause 57 _ _ _ rfl) fl_X12_189 rfl (Or.inl rfl) ?_
        obtain ⟨hg, H⟩ := grd_some H
        refine g_iast (c := 101) (T_X12_readsClause 58 _ _ _ rfl) rfl hg ?_
        refine g_bndH H fun h12 H => ?_
        refine g_aload_n (T_X12_readsClause 59 _ _ _ rfl) rfl ?_
        obtain ⟨y14, h13, hq, H⟩ := bd_some H
        refine g_callVi (M' := M_X12_readsCondition) (c := 83) (av := []) (st := []) (T_X12_readsClause 60 _ _ _ rfl) ml_X12_249 cb_X12_readsCondition rfl rfl (Nat.le_of_ble_eq_true rfl) (by omega) (R_X12_readsCondition N _ _ hq) ?_
        refine g_if_ne (tgt := 115) (T_X12_readsClause 61 _ _ _ rfl) (by decide) (fun cc => ?_) (fun cc => ?_)
        · replace H := ite_n cc H
          refine g_aload_n (T_X12_readsClause 64 _ _ _ rfl) rfl ?_
          refine g_getR (c := 83) (r := 103) (T_X12_readsClause 65 _ _ _ rfl) fl_X12_65 rfl (nR rfl) rfl (by decide) ?_
          refine g_aload_n (T_X12_readsClause 66 _ _ _ rfl) rfl ?_
          refine g_getI (c := 83) (T_X12_readsClause 67 _ _ _ rfl) fl_X12_246 rfl (Or.inl rfl) ?_
          refine g_aload_n (T_X12_readsClause 68 _ _ _ rfl) rfl ?_
          refine g_getI (c := 83) (T_X12_readsClause 69 _ _ _ rfl) fl_X12_189 rfl (Or.inl rfl) ?_
          obtain ⟨hg, H⟩ := grd_some H
          refine g_iast (c := 102) (T_X12_readsClause 70 _ _ _ rfl) rfl hg ?_
          refine g_bndH H fun h15 H => ?_
          refine g_aload_n (T_X12_readsClause 71 _ _ _ rfl) rfl ?_
          refine g_aload_n (T_X12_readsClause 72 _ _ _ rfl) rfl ?_
          refine g_getI (c := 83) (T_X12_readsClause 73 _ _ _ rfl) fl_X12_246 rfl (Or.inl rfl) ?_
          refine g_iconst (T_X12_readsClause 74 _ _ _ rfl) ⟨by decide, by decide⟩ ?_
          refine g_iadd (T_X12_readsClause 75 _ _ _ rfl) ?_
          refine g_put (c := 83) (T_X12_readsClause 76 _ _ _ rfl) fl_X12_246 rfl (Or.inl rfl) ?_
          refine g_bndH H fun h16 H => ?_
          refine g_iconst (T_X12_readsClause 77 _ _ _ rfl) ⟨by decide, by decide⟩ ?_
          exact g_zret (T_X12_readsClause 78 _ _ _ rfl) rfl (by decide) (qi_of H)
        · replace H := ite_p cc H
          refine g_iconst (T_X12_readsClause 62 _ _ _ rfl) ⟨by decide, by decide⟩ ?_
          exact g_zret (T_X12_readsClause 63 _ _ _ rfl) rfl (by decide) (qi_of H)
      · replace H := ite_p cc H
        refine g_iconst (T_X12_readsClause 50 _ _ _ rfl) ⟨by decide, by decide⟩ ?_
        exact g_zret (T_X12_readsClause 51 _ _ _ rfl) rfl (by decide) (qi_of H)
    · replace H := ite_p cc H
      refine g_aload_n (T_X12_readsClause 16 _ _ _ rfl) rfl ?_
      refine g_iconst (T_X12_readsClause 17 _ _ _ rfl) ⟨by decide, by decide⟩ ?_
      refine g_aload_n (T_X12_readsClause 18 _ _ _ rfl) rfl ?_
      refine g_getI (c := 83) (T_X12_readsClause 19 _ _ _ rfl) fl_X12_166 rfl (Or.inl rfl) ?_
      obtain ⟨y18, h17, hq, H⟩ := bd_some H
      refine g_callVi (M' := M_X12_wrongAt) (c := 83) (av := [.inl 4, .inl (h3 83 16)]) (st := []) (T_X12_readsClause 20 _ _ _ rfl) ml_X12_179 cb_X12_wrongAt rfl rfl (Nat.le_of_ble_eq_true rfl) (by omega) (R_X12_wrongAt N _ _ _ _ hq) ?_
      obtain ⟨hg, H⟩ := grd_some H
      exact g_zret (T_X12_readsClause 21 _ _ _ rfl) rfl hg (qi_of H)
  · replace H := ite_p cc H
    refine g_aload_n (T_X12_readsClause 6 _ _ _ rfl) rfl ?_
    refine g_iconst (T_X12_readsClause 7 _ _ _ rfl) ⟨by decide, by decide⟩ ?_
    refine g_aload_n (T_X12_readsClause 8 _ _ _ rfl) rfl ?_
    refine g_getI (c := 83) (T_X12_readsClause 9 _ _ _ rfl) fl_X12_166 rfl (Or.inl rfl) ?_
    obtain ⟨y20, h19, hq, H⟩ := bd_some H
    refine g_callVi (M' := M_X12_wrongAt) (c := 83) (av := [.inl 1, .inl (h3 83 16)]) (st := []) (T_X12_readsClause 10 _ _ _ rfl) ml_X12_179 cb_X12_wrongAt rfl rfl (Nat.le_of_ble_eq_true rfl) (by omega) (R_X12_wrongAt N _ _ _ _ hq) ?_
    obtain ⟨hg, H⟩ := grd_some H
    exact g_zret (T_X12_readsClause 11 _ _ _ rfl) rfl hg (qi_of H)
def F_X12_takes (N : Nat) (x1 : Int) (h : Hp) : Option (Int × Hp) :=
  bd (F_X12_here N h) fun y2 h1 =>
  if y2 = x1 then
    bnd (hw h1 83 16 (w32 ((h1 83 16) + 1))) fun h3 =>
    some (1, h3)
  else
  bd (F_X12_wrongAt N 1 (h1 83 16) h1) fun y5 h4 =>
  grd (y5 = 0 ∨ y5 = 1) <|
  some (y5, h4)
set_option maxRecDepth 100000 in
set_option maxHeartbeats 4000000 in
theorem R_X12_takes (N : Nat) (x1 : Int) (h : Hp) (res : Int × Hp) (H : F_X12_takes N x1 h = some res) : Runs M_X12_takes 2 [.inr 84, .inl x1] h (Qi res) := by
  refine Runs.of rfl (Nat.le_of_ble_eq_true rfl) ?_
  show Go M_X12_takes 2 0 [some (.inr 84), some (.inl x1)] [] h (Qi res)
  unfold F_X12_takes at H
  refine g_aload_n (T_X12_takes 0 _ _ _ rfl) rfl ?_
  obtain ⟨y2, h1, hq, H⟩ := bd_some H
  refine g_callVi (M' := M_X12_here) (c := 83) (av := []) (st := []) (T_X12_takes 1 _ _ _ rfl) ml_X12_172 cb_X12_here rfl rfl (Nat.le_of_ble_eq_true rfl) (by omega) (R_X12_here N _ _ hq) ?_
  refine g_iload_n (T_X12_takes 2 _ _ _ rfl) rfl ?_
  refine g_icmp_eq (tgt := 18) (T_X12_takes 3 _ _ _ rfl) (by decide) (fun cc => ?_) (fun cc => ?_)
  · replace H := ite_p cc H
    refine g_aload_n (T_X12_takes 10 _ _ _ rfl) rfl ?_
    refine g_aload_n (T_X12_takes 11 _ _ _ rfl) rfl ?_
    refine g_getI (c := 83) (T_X12_takes 12 _ _ _ rfl) fl_X12_166 rfl (Or.inl rfl) ?_
    refine g_iconst (T_X12_takes 13 _ _ _ rfl) ⟨by decide, by decide⟩ ?_
    refine g_iadd (T_X12_takes 14 _ _ _ rfl) ?_
    refine g_put (c := 83) (T_X12_takes 15 _ _ _ rfl) fl_X12_166 rfl (Or.inl rfl) ?_
    refine g_bndH H fun h3 H => ?_
    refine g_iconst (T_X12_takes 16 _ _ _ rfl) ⟨by decide, by decide⟩ ?_
    exact g_zret (T_X12_takes 17 _ _ _ rfl) rfl (by decide) (qi_of H)
  · replace H := ite_n cc H
    refine g_aload_n (T_X12_takes 4 _ _ _ rfl) rfl ?_
    refine g_iconst (T_X12_takes 5 _ _ _ rfl) ⟨by decide, by decide⟩ ?_
    refine g_aload_n (T_X12_takes 6 _ _ _ rfl) rfl ?_
    refine g_getI (c := 83) (T_X12_takes 7 _ _ _ rfl) fl_X12_166 rfl (Or.inl rfl) ?_
    obtain ⟨y5, h4, hq, H⟩ := bd_some H
    refine g_callVi (M' := M_X12_wrongAt) (c := 83) (av := [.inl 1, .inl (h1 83 16)]) (st := []) (T_X12_takes 8 _ _ _ rfl) ml_X12_179 cb_X12_wrongAt rfl rfl (Nat.le_of_ble_eq_true rfl) (by omega) (R_X12_wrongAt N _ _ _ _ hq) ?_
    obtain ⟨hg, H⟩ := grd_some H
    exact g_zret (T_X12_takes 9 _ _ _ rfl) rfl hg (qi_of H)
def L_X12_law_138 (N : Nat) : Nat → Int → Hp → Option (Int × Hp)
  | 0, _, _ => none
  | n + 1, x3, h =>
    if (h 83 23) ≤ x3 then
      some ((h 83 23), h)
    else
    grd (0 ≤ x3 ∧ x3 < 16) <|
    grd (0 ≤ x3 ∧ x3 < 16) <|
    bnd (hw h 104 x3.toNat (h 99 x3.toNat)) fun h1 =>
    grd (0 ≤ x3 ∧ x3 < 16) <|
    grd (0 ≤ x3 ∧ x3 < 16) <|
    bnd (hw h1 105 x3.toNat (h1 100 x3.toNat)) fun h2 =>
    grd (0 ≤ x3 ∧ x3 < 16) <|
    grd (0 ≤ x3 ∧ x3 < 16) <|
    bnd (hw h2 106 x3.toNat (h2 101 x3.toNat)) fun h3 =>
    grd (0 ≤ x3 ∧ x3 < 16) <|
    grd (0 ≤ x3 ∧ x3 < 16) <|
    bnd (hw h3 107 x3.toNat (h3 102 x3.toNat)) fun h4 =>
    bnd (w32 (x3 + 1)) fun y5 =>
    (L_X12_law_138 N n) y5 h4
set_option maxRecDepth 100000 in
set_option maxHeartbeats 4000000 in
theorem R_L_X12_law_138 (N : Nat) : ∀ (n : Nat) (x3 : Int) (h : Hp) (res : Int × Hp), L_X12_law_138 N n x3 h = some res → Go M_X12_law 9 138 [some (.inr 84), none, none, some (.inl x3)] [] h (Qi res)
  | 0, _, _, _, H => by cases H
  | n + 1, x3, h, res, H => by
    have ih := R_L_X12_law_138 N n
    simp only [L_X12_law_138] at H
    refine g_iload_n (T_X12_law 75 _ _ _ rfl) rfl ?_
    refine g_aload_n (T_X12_law 76 _ _ _ rfl) rfl ?_
    refine g_getI (c := 83) (T_X12_law 77 _ _ _ rfl) fl_X12_246 rfl (Or.inl rfl) ?_
    refine g_icmp_ge (tgt := 200) (T_X12_law 78 _ _ _ rfl) (by decide) (fun cc => ?_) (fun cc => ?_)
    · replace H := ite_p cc H
      refine g_aload_n (T_X12_law 113 _ _ _ rfl) rfl ?_
      refine g_getI (c := 83) (T_X12_law 114 _ _ _ rfl) fl_X12_246 rfl (Or.inl rfl) ?_
      exact g_iret (T_X12_law 115 _ _ _ rfl) rfl (qi_of H)
    · replace H := ite_n cc H
      refine g_aload_n (T_X12_law 79 _ _ _ rfl) rfl ?_
      refine g_getR (c := 83) (r := 105) (T_X12_law 80 _ _ _ rfl) fl_X12_71 rfl (nR rfl) rfl (by decide) ?_
      refine g_iload_n (T_X12_law 81 _ _ _ rfl) rfl ?_
      refine g_aload_n (T_X12_law 82 _ _ _ rfl) rfl ?_
      refine g_getR (c := 83) (r := 100) (T_X12_law 83 _ _ _ rfl) fl_X12_56 rfl (nR rfl) rfl (by decide) ?_
      refine g_iload_n (T_X12_law 84 _ _ _ rfl) rfl ?_
      obtain ⟨hg, H⟩ := grd_some H
      refine g_iald (c := 99) (T_X12_law 85 _ _ _ rfl) rfl hg ?_
      obtain ⟨hg, H⟩ := grd_some H
      refine g_iast (c := 104) (T_X12_law 86 _ _ _ rfl) rfl hg ?_
      refine g_bndH H fun h1 H => ?_
      refine g_aload_n (T_X12_law 87 _ _ _ rfl) rfl ?_
      refine g_getR (c := 83) (r := 106) (T_X12_law 88 _ _ _ rfl) fl_X12_74 rfl (nR rfl) rfl (by decide) ?_
      refine g_iload_n (T_X12_law 89 _ _ _ rfl) rfl ?_
      refine g_aload_n (T_X12_law 90 _ _ _ rfl) rfl ?_
      refine g_getR (c := 83) (r := 101) (T_X12_law 91 _ _ _ rfl) fl_X12_59 rfl (nR rfl) rfl (by decide) ?_
      refine g_iload_n (T_X12_law 92 _ _ _ rfl) rfl ?_
      obtain ⟨hg, H⟩ := grd_some H
      refine g_iald (c := 100) (T_X12_law 93 _ _ _ rfl) rfl hg ?_
      obtain ⟨hg, H⟩ := grd_some H
      refine g_iast (c := 105) (T_X12_law 94 _ _ _ rfl) rfl hg ?_
      refine g_bndH H fun h2 H => ?_
      refine g_aload_n (T_X12_law 95 _ _ _ rfl) rfl ?_
      refine g_getR (c := 83) (r := 107) (T_X12_law 96 _ _ _ rfl) fl_X12_77 rfl (nR rfl) rfl (by decide) ?_
      refine g_iload_n (T_X12_law 97 _ _ _ rfl) rfl ?_
      refine g_aload_n (T_X12_law 98 _ _ _ rfl) rfl ?_
      refine g_getR (c := 83) (r := 102) (T_X12_law 99 _ _ _ rfl) fl_X12_62 rfl (nR rfl) rfl (by decide) ?_
      refine g_iload_n (T_X12_law 100 _ _ _ rfl) rfl ?_
      obtain ⟨hg, H⟩ := grd_some H
      refine g_iald (c := 101) (T_X12_law 101 _ _ _ rfl) rfl hg ?_
      obtain ⟨hg, H⟩ := grd_some H
      refine g_iast (c := 106) (T_X12_law 102 _ _ _ rfl) rfl hg ?_
      refine g_bndH H fun h3 H => ?_
      refine g_aload_n (T_X12_law 103 _ _ _ rfl) rfl ?_
      refine g_getR (c := 83) (r := 108) (T_X12_law 104 _ _ _ rfl) fl_X12_80 rfl (nR rfl) rfl (by decide) ?_
      refine g_iload_n (T_X12_law 105 _ _ _ rfl) rfl ?_
      refine g_aload_n (T_X12_law 106 _ _ _ rfl) rfl ?_
      refine g_getR (c := 83) (r := 103) (T_X12_law 107 _ _ _ rfl) fl_X12_65 rfl (nR rfl) rfl (by decide) ?_
      refine g_iload_n (T_X12_law 108 _ _ _ rfl) rfl ?_
      obtain ⟨hg, H⟩ := grd_some H
      refine g_iald (c := 102) (T_X12_law 109 _ _ _ rfl) rfl hg ?_
      obtain ⟨hg, H⟩ := grd_some H
      refine g_iast (c := 107) (T_X12_law 110 _ _ _ rfl) rfl hg ?_
      refine g_bndH H fun h4 H => ?_
      refine g_iincB (T_X12_law 111 _ _ _ rfl) rfl (by decide) H fun y5 H => ?_
      refine g_goto (tgt := 138) (T_X12_law 112 _ _ _ rfl) (by decide) ?_
      refine g_weak [true, false, false, true] ?_
      exact ih _ _ _ H
def L_X12_law_110 (N : Nat) : Nat → Int → Hp → Option (Int × Hp)
  | 0, _, _ => none
  | n + 1, x3, h =>
    if (h 83 21) ≤ x3 then
      L_X12_law_138 N  N 0 h
    else
    grd (0 ≤ x3 ∧ x3 < 260) <|
    grd (0 ≤ x3 ∧ x3 < 260) <|
    bnd (hw h 103 x3.toNat (h 97 x3.toNat)) fun h1 =>
    bnd (w32 (x3 + 1)) fun y2 =>
    (L_X12_law_110 N n) y2 h1
set_option maxRecDepth 100000 in
set_option maxHeartbeats 4000000 in
theorem R_L_X12_law_110 (N : Nat) : ∀ (n : Nat) (x3 : Int) (h : Hp) (res : Int × Hp), L_X12_law_110 N n x3 h = some res → Go M_X12_law 9 110 [some (.inr 84), none, none, some (.inl x3)] [] h (Qi res)
  | 0, _, _, _, H => by cases H
  | n + 1, x3, h, res, H => by
    have ih := R_L_X12_law_110 N n
    simp only [L_X12_law_110] at H
    refine g_iload_n (T_X12_law 59 _ _ _ rfl) rfl ?_
    refine g_aload_n (T_X12_law 60 _ _ _ rfl) rfl ?_
    refine g_getI (c := 83) (T_X12_law 61 _ _ _ rfl) fl_X12_189 rfl (Or.inl rfl) ?_
    refine g_icmp_ge (tgt := 136) (T_X12_law 62 _ _ _ rfl) (by decide) (fun cc => ?_) (fun cc => ?_)
    · replace H := ite_p cc H
      refine g_iconst (T_X12_law 73 _ _ _ rfl) ⟨by decide, by decide⟩ ?_
      refine g_istore_n (T_X12_law 74 _ _ _ rfl) (by decide) ?_
      refine g_weak [true, false, false, true] ?_
      refine R_L_X12_law_138 N   _ _ _ _ H
    · replace H := ite_n cc H
      refine g_aload_n (T_X12_law 63 _ _ _ rfl) rfl ?_
      refine g_getR (c := 83) (r := 104) (T_X12_law 64 _ _ _ rfl) fl_X12_68 rfl (nR rfl) rfl (by decide) ?_
      refine g_iload_n (T_X12_law 65 _ _ _ rfl) rfl ?_
      refine g_aload_n (T_X12_law 66 _ _ _ rfl) rfl ?_
      refine g_getR (c := 83) (r := 98) (T_X12_law 67 _ _ _ rfl) fl_X12_50 rfl (nR rfl) rfl (by decide) ?_
      refine g_iload_n (T_X12_law 68 _ _ _ rfl) rfl ?_
      obtain ⟨hg, H⟩ := grd_some H
      refine g_iald (c := 97) (T_X12_law 69 _ _ _ rfl) rfl hg ?_
      obtain ⟨hg, H⟩ := grd_some H
      refine g_iast (c := 103) (T_X12_law 70 _ _ _ rfl) rfl hg ?_
      refine g_bndH H fun h1 H => ?_
      refine g_iincB (T_X12_law 71 _ _ _ rfl) rfl (by decide) H fun y2 H => ?_
      refine g_goto (tgt := 110) (T_X12_law 72 _ _ _ rfl) (by decide) ?_
      refine g_weak [true, false, false, true] ?_
      exact ih _ _ _ H
def J_X12_law_86 (N : Nat) (x2 : Int) (h : Hp) : Option (Int × Hp) :=
  bnd (hw h 83 15 0) fun h1 =>
  if x2 = 0 then
    some ((h1 83 18), h1)
  else
  bnd (hw h1 83 24 (h1 83 23)) fun h2 =>
  L_X12_law_110 N  N 0 h2
set_option maxRecDepth 100000 in
set_option maxHeartbeats 4000000 in
theorem R_J_X12_law_86 (N : Nat) (x2 : Int) (h : Hp) (res : Int × Hp) (H : J_X12_law_86 N x2 h = some res) : Go M_X12_law 9 86 [some (.inr 84), none, some (.inl x2), none] [] h (Qi res) := by
  unfold J_X12_law_86 at H
  refine g_aload_n (T_X12_law 45 _ _ _ rfl) rfl ?_
  refine g_iconst (T_X12_law 46 _ _ _ rfl) ⟨by decide, by decide⟩ ?_
  refine g_put (c := 83) (T_X12_law 47 _ _ _ rfl) fl_X12_159 rfl (Or.inl rfl) ?_
  refine g_bndH H fun h1 H => ?_
  refine g_iload_n (T_X12_law 48 _ _ _ rfl) rfl ?_
  refine g_if_ne (tgt := 100) (T_X12_law 49 _ _ _ rfl) (by decide) (fun cc => ?_) (fun cc => ?_)
  · replace H := ite_n cc H
    refine g_aload_n (T_X12_law 53 _ _ _ rfl) rfl ?_
    refine g_aload_n (T_X12_law 54 _ _ _ rfl) rfl ?_
    refine g_getI (c := 83) (T_X12_law 55 _ _ _ rfl) fl_X12_246 rfl (Or.inl rfl) ?_
    refine g_put (c := 83) (T_X12_law 56 _ _ _ rfl) fl_X12_258 rfl (Or.inl rfl) ?_
    refine g_bndH H fun h2 H => ?_
    refine g_iconst (T_X12_law 57 _ _ _ rfl) ⟨by decide, by decide⟩ ?_
    refine g_istore_n (T_X12_law 58 _ _ _ rfl) (by decide) ?_
    refine g_weak [true, false, false, true] ?_
    refine R_L_X12_law_110 N   _ _ _ _ H
  · replace H := ite_p cc H
    refine g_aload_n (T_X12_law 50 _ _ _ rfl) rfl ?_
    refine g_getI (c := 83) (T_X12_law 51 _ _ _ rfl) fl_X12_176 rfl (Or.inl rfl) ?_
    exact g_iret (T_X12_law 52 _ _ _ rfl) rfl (qi_of H)
def L_X12_law_46 (N : Nat) : Nat → Int → Hp → Option (Int × Hp)
  | 0, _, _ => none
  | n + 1, x2, h =>
    if x2 = 0 then
      J_X12_law_86 N  x2 h
    else
    if (h 83 17) ≤ (h 83 16) then
      J_X12_law_86 N  x2 h
    else
    bd (F_X12_takes N 59 h) fun y2 h1 =>
    if y2 = 0 then
      (L_X12_law_46 N n) 0 h1
    else
    bd (F_X12_readsClause N h1) fun y4 h3 =>
    if y4 = 0 then
      (L_X12_law_46 N n) 0 h3
    else
    (L_X12_law_46 N n) 1 h3
set_option maxRecDepth 100000 in
set_option maxHeartbeats 4000000 in
theorem R_L_X12_law_46 (N : Nat) : ∀ (n : Nat) (x2 : Int) (h : Hp) (res : Int × Hp), L_X12_law_46 N n x2 h = some res → Go M_X12_law 9 46 [some (.inr 84), none, some (.inl x2), none] [] h (Qi res)
  | 0, _, _, _, H => by cases H
  | n + 1, x2, h, res, H => by
    have ih := R_L_X12_law_46 N n
    simp only [L_X12_law_46] at H
    refine g_iload_n (T_X12_law 26 _ _ _ rfl) rfl ?_
    refine g_if_eq (tgt := 86) (T_X12_law 27 _ _ _ rfl) (by decide) (fun cc => ?_) (fun cc => ?_)
    · replace H := ite_p cc H
      refine g_weak [true, false, true, false] ?_
      exact R_J_X12_law_86 N   _ _ _ H
    · replace H := ite_n cc H
      refine g_aload_n (T_X12_law 28 _ _ _ rfl) rfl ?_
      refine g_getI (c := 83) (T_X12_law 29 _ _ _ rfl) fl_X12_166 rfl (Or.inl rfl) ?_
      refine g_aload_n (T_X12_law 30 _ _ _ rfl) rfl ?_
      refine g_getI (c := 83) (T_X12_law 31 _ _ _ rfl) fl_X12_169 rfl (Or.inl rfl) ?_
      refine g_icmp_ge (tgt := 86) (T_X12_law 32 _ _ _ rfl) (by decide) (fun cc => ?_) (fun cc => ?_)
      · replace H := ite_p cc H
        refine g_weak [true, false, true, false] ?_
        exact R_J_X12_law_86 N   _ _ _ H
      · replace H := ite_n cc H
        refine g_aload_n (T_X12_law 33 _ _ _ rfl) rfl ?_
        refine g_bipush (T_X12_law 34 _ _ _ rfl) (by decide) ?_
        obtain ⟨y2, h1, hq, H⟩ := bd_some H
        refine g_callVi (M' := M_X12_takes) (c := 83) (av := [.inl 59]) (st := []) (T_X12_law 35 _ _ _ rfl) ml_X12_255 cb_X12_takes rfl rfl (Nat.le_of_ble_eq_true rfl) (by omega) (R_X12_takes N _ _ _ hq) ?_
        refine g_if_eq (tgt := 81) (T_X12_law 36 _ _ _ rfl) (by decide) (fun cc => ?_) (fun cc => ?_)
        · replace H := ite_p cc H
          refine g_iconst (T_X12_law 42 _ _ _ rfl) ⟨by decide, by decide⟩ ?_
          refine g_istore_n (T_X12_law 43 _ _ _ rfl) (by decide) ?_
          refine g_goto (tgt := 46) (T_X12_law 44 _ _ _ rfl) (by decide) ?_
          refine g_weak [true, false, true, false] ?_
          exact ih _ _ _ H
        · replace H := ite_n cc H
          refine g_aload_n (T_X12_law 37 _ _ _ rfl) rfl ?_
          obtain ⟨y4, h3, hq, H⟩ := bd_some H
          refine g_callVi (M' := M_X12_readsClause) (c := 83) (av := []) (st := []) (T_X12_law 38 _ _ _ rfl) ml_X12_252 cb_X12_readsClause rfl rfl (Nat.le_of_ble_eq_true rfl) (by omega) (R_X12_readsClause N _ _ hq) ?_
          refine g_if_eq (tgt := 81) (T_X12_law 39 _ _ _ rfl) (by decide) (fun cc => ?_) (fun cc => ?_)
          · replace H := ite_p cc H
            refine g_iconst (T_X12_law 42 _ _ _ rfl) ⟨by decide, by decide⟩ ?_
            refine g_istore_n (T_X12_law 43 _ _ _ rfl) (by decide) ?_
            refine g_goto (tgt := 46) (T_X12_law 44 _ _ _ rfl) (by decide) ?_
            refine g_weak [true, false, true, false] ?_
            exact ih _ _ _ H
          · replace H := ite_n cc H
            refine g_iconst (T_X12_law 40 _ _ _ rfl) ⟨by decide, by decide⟩ ?_
            refine g_goto (tgt := 82) (T_X12_law 41 _ _ _ rfl) (by decide) ?_
            refine g_istore_n (T_X12_law 43 _ _ _ rfl) (by decide) ?_
            refine g_goto (tgt := 46) (T_X12_law 44 _ _ _ rfl) (by decide) ?_
            refine g_weak [true, false, true, false] ?_
            exact ih _ _ _ H
def F_X12_law (N : Nat) (x1 : Int) (h : Hp) : Option (Int × Hp) :=
  bd (F_X12_in N x1 1 240 h) fun y2 h1 =>
  if y2 = 0 then
    some ((-1), h1)
  else
  if x1 ≤ (h1 83 15) then
    bnd (hw h1 83 16 0) fun h3 =>
    bnd (hw h3 83 17 x1) fun h4 =>
    bnd (hw h4 83 21 0) fun h5 =>
    bnd (hw h5 83 23 0) fun h6 =>
    bd (F_X12_readsClause N h6) fun y8 h7 =>
    L_X12_law_46 N  N y8 h7
  else
  some ((-1), h1)
set_option maxRecDepth 100000 in
set_option maxHeartbeats 4000000 in
theorem R_X12_law (N : Nat) (x1 : Int) (h : Hp) (res : Int × Hp) (H : F_X12_law N x1 h = some res) : Runs M_X12_law 9 [.inr 84, .inl x1] h (Qi res) := by
  refine Runs.of rfl (Nat.le_of_ble_eq_true rfl) ?_
  show Go M_X12_law 9 0 [some (.inr 84), some (.inl x1), none, none] [] h (Qi res)
  unfold F_X12_law at H
  refine g_iload_n (T_X12_law 0 _ _ _ rfl) rfl ?_
  refine g_iconst (T_X12_law 1 _ _ _ rfl) ⟨by decide, by decide⟩ ?_
  refine g_sipush (T_X12_law 2 _ _ _ rfl) (by decide) ?_
  obtain ⟨y2, h1, hq, H⟩ := bd_some H
  refine g_callSi (M' := M_X12_in) (av := [.inl x1, .inl 1, .inl 240]) (st := []) (T_X12_law 3 _ _ _ rfl) ml_X12_155 cb_X12_in rfl (Nat.le_of_ble_eq_true rfl) (by omega) (R_X12_in N _ _ _ _ _ hq) ?_
  refine g_if_eq (tgt := 19) (T_X12_law 4 _ _ _ rfl) (by decide) (fun cc => ?_) (fun cc => ?_)
  · replace H := ite_p cc H
    refine g_iconst (T_X12_law 9 _ _ _ rfl) ⟨by decide, by decide⟩ ?_
    exact g_iret (T_X12_law 10 _ _ _ rfl) rfl (qi_of H)
  · replace H := ite_n cc H
    refine g_iload_n (T_X12_law 5 _ _ _ rfl) rfl ?_
    refine g_aload_n (T_X12_law 6 _ _ _ rfl) rfl ?_
    refine g_getI (c := 83) (T_X12_law 7 _ _ _ rfl) fl_X12_159 rfl (Or.inl rfl) ?_
    refine g_icmp_le (tgt := 21) (T_X12_law 8 _ _ _ rfl) (by decide) (fun cc => ?_) (fun cc => ?_)
    · replace H := ite_p cc H
      refine g_aload_n (T_X12_law 11 _ _ _ rfl) rfl ?_
      refine g_iconst (T_X12_law 12 _ _ _ rfl) ⟨by decide, by decide⟩ ?_
      refine g_put (c := 83) (T_X12_law 13 _ _ _ rfl) fl_X12_166 rfl (Or.inl rfl) ?_
      refine g_bndH H fun h3 H => ?_
      refine g_aload_n (T_X12_law 14 _ _ _ rfl) rfl ?_
      refine g_iload_n (T_X12_law 15 _ _ _ rfl) rfl ?_
      refine g_put (c := 83) (T_X12_law 16 _ _ _ rfl) fl_X12_169 rfl (Or.inl rfl) ?_
      refine g_bndH H fun h4 H => ?_
      refine g_aload_n (T_X12_law 17 _ _ _ rfl) rfl ?_
      refine g_iconst (T_X12_law 18 _ _ _ rfl) ⟨by decide, by decide⟩ ?_
      refine g_put (c := 83) (T_X12_law 19 _ _ _ rfl) fl_X12_189 rfl (Or.inl rfl) ?_
      refine g_bndH H fun h5 H => ?_
      refine g_aload_n (T_X12_law 20 _ _ _ rfl) rfl ?_
      refine g_iconst (T_X12_law 21 _ _ _ rfl) ⟨by decide, by decide⟩ ?_
      refine g_put (c := 83) (T_X12_law 22 _ _ _ rfl) fl_X12_246 rfl (Or.inl rfl) ?_
      refine g_bndH H fun h6 H => ?_
      refine g_aload_n (T_X12_law 23 _ _ _ rfl) rfl ?_
      obtain ⟨y8, h7, hq, H⟩ := bd_some H
      refine g_callVi (M' := M_X12_readsClause) (c := 83) (av := []) (st := []) (T_X12_law 24 _ _ _ rfl) ml_X12_252 cb_X12_readsClause rfl rfl (Nat.le_of_ble_eq_true rfl) (by omega) (R_X12_readsClause N _ _ hq) ?_
      refine g_istore_n (T_X12_law 25 _ _ _ rfl) (by decide) ?_
      refine g_weak [true, false, true, false] ?_
      refine R_L_X12_law_46 N   _ _ _ _ H
    · replace H := ite_n cc H
      refine g_iconst (T_X12_law 9 _ _ _ rfl) ⟨by decide, by decide⟩ ?_
      exact g_iret (T_X12_law 10 _ _ _ rfl) rfl (qi_of H)
def F_X12_isLetterHere (N : Nat) (h : Hp) : Option (Int × Hp) :=
  bd (F_X12_here N h) fun y2 h1 =>
  bd (F_X12_in N y2 97 110 h1) fun y4 h3 =>
  grd (y4 = 0 ∨ y4 = 1) <|
  some (y4, h3)
set_option maxRecDepth 100000 in
set_option maxHeartbeats 4000000 in
theorem R_X12_isLetterHere (N : Nat) (h : Hp) (res : Int × Hp) (H : F_X12_isLetterHere N h = some res) : Runs M_X12_isLetterHere 2 [.inr 84] h (Qi res) := by
  refine Runs.of rfl (Nat.le_of_ble_eq_true rfl) ?_
  show Go M_X12_isLetterHere 2 0 [some (.inr 84)] [] h (Qi res)
  unfold F_X12_isLetterHere at H
  refine g_aload_n (T_X12_isLetterHere 0 _ _ _ rfl) rfl ?_
  obtain ⟨y2, h1, hq, H⟩ := bd_some H
  refine g_callVi (M' := M_X12_here) (c := 83) (av := []) (st := []) (T_X12_isLetterHere 1 _ _ _ rfl) ml_X12_172 cb_X12_here rfl rfl (Nat.le_of_ble_eq_true rfl) (by omega) (R_X12_here N _ _ hq) ?_
  refine g_bipush (T_X12_isLetterHere 2 _ _ _ rfl) (by decide) ?_
  refine g_bipush (T_X12_isLetterHere 3 _ _ _ rfl) (by decide) ?_
  obtain ⟨y4, h3, hq, H⟩ := bd_some H
  refine g_callSi (M' := M_X12_in) (av := [.inl y2, .inl 97, .inl 110]) (st := []) (T_X12_isLetterHere 4 _ _ _ rfl) ml_X12_155 cb_X12_in rfl (Nat.le_of_ble_eq_true rfl) (by omega) (R_X12_in N _ _ _ _ _ hq) ?_
  obtain ⟨hg, H⟩ := grd_some H
  exact g_zret (T_X12_isLetterHere 5 _ _ _ rfl) rfl hg (qi_of H)
def L_X12_readsTwo_27 (N : Nat) : Nat → Int → Hp → Option (Int × Hp)
  | 0, _, _ => none
  | n + 1, x1, h =>
    bd (F_X12_isDigit N h) fun y2 h1 =>
    if y2 = 0 then
      some (1, h1)
    else
    if (w32 (x1 + 2)) ≤ (h1 83 16) then
      some (1, h1)
    else
    bd (F_X12_here N h1) fun y4 h3 =>
    bnd (hw h3 83 19 (w32 ((w32 ((w32 (10 * (h1 83 19))) + y4)) - 48))) fun h5 =>
    bnd (hw h5 83 16 (w32 ((h5 83 16) + 1))) fun h6 =>
    (L_X12_readsTwo_27 N n) x1 h6
set_option maxRecDepth 100000 in
set_option maxHeartbeats 4000000 in
theorem R_L_X12_readsTwo_27 (N : Nat) : ∀ (n : Nat) (x1 : Int) (h : Hp) (res : Int × Hp), L_X12_readsTwo_27 N n x1 h = some res → Go M_X12_readsTwo 3 27 [some (.inr 84), some (.inl x1)] [] h (Qi res)
  | 0, _, _, _, H => by cases H
  | n + 1, x1, h, res, H => by
    have ih := R_L_X12_readsTwo_27 N n
    simp only [L_X12_readsTwo_27] at H
    refine g_aload_n (T_X12_readsTwo 15 _ _ _ rfl) rfl ?_
    obtain ⟨y2, h1, hq, H⟩ := bd_some H
    refine g_callVi (M' := M_X12_isDigit) (c := 83) (av := []) (st := []) (T_X12_readsTwo 16 _ _ _ rfl) ml_X12_185 cb_X12_isDigit rfl rfl (Nat.le_of_ble_eq_true rfl) (by omega) (R_X12_isDigit N _ _ hq) ?_
    refine g_if_eq (tgt := 76) (T_X12_readsTwo 17 _ _ _ rfl) (by decide) (fun cc => ?_) (fun cc => ?_)
    · replace H := ite_p cc H
      refine g_iconst (T_X12_readsTwo 42 _ _ _ rfl) ⟨by decide, by decide⟩ ?_
      exact g_zret (T_X12_readsTwo 43 _ _ _ rfl) rfl (by decide) (qi_of H)
    · replace H := ite_n cc H
      refine g_aload_n (T_X12_readsTwo 18 _ _ _ rfl) rfl ?_
      refine g_getI (c := 83) (T_X12_readsTwo 19 _ _ _ rfl) fl_X12_166 rfl (Or.inl rfl) ?_
      refine g_iload_n (T_X12_readsTwo 20 _ _ _ rfl) rfl ?_
      refine g_iconst (T_X12_readsTwo 21 _ _ _ rfl) ⟨by decide, by decide⟩ ?_
      refine g_iadd (T_X12_readsTwo 22 _ _ _ rfl) ?_
      refine g_icmp_ge (tgt := 76) (T_X12_readsTwo 23 _ _ _ rfl) (by decide) (fun cc => ?_) (fun cc => ?_)
      · replace H := ite_p cc H
        refine g_iconst (T_X12_readsTwo 42 _ _ _ rfl) ⟨by decide, by decide⟩ ?_
        exact g_zret (T_X12_readsTwo 43 _ _ _ rfl) rfl (by decide) (qi_of H)
      · replace H := ite_n cc H
        refine g_aload_n (T_X12_readsTwo 24 _ _ _ rfl) rfl ?_
        refine g_bipush (T_X12_readsTwo 25 _ _ _ rfl) (by decide) ?_
        refine g_aload_n (T_X12_readsTwo 26 _ _ _ rfl) rfl ?_
        refine g_getI (c := 83) (T_X12_readsTwo 27 _ _ _ rfl) fl_X12_182 rfl (Or.inl rfl) ?_
        refine g_imul (T_X12_readsTwo 28 _ _ _ rfl) ?_
        refine g_aload_n (T_X12_readsTwo 29 _ _ _ rfl) rfl ?_
        obtain ⟨y4, h3, hq, H⟩ := bd_some H
        refine g_callVi (M' := M_X12_here) (c := 83) (av := []) (st := [.inl (w32 (10 * (h1 83 19))), .inr 84]) (T_X12_readsTwo 30 _ _ _ rfl) ml_X12_172 cb_X12_here rfl rfl (Nat.le_of_ble_eq_true rfl) (by omega) (R_X12_here N _ _ hq) ?_
        refine g_iadd (T_X12_readsTwo 31 _ _ _ rfl) ?_
        refine g_bipush (T_X12_readsTwo 32 _ _ _ rfl) (by decide) ?_
        refine g_isub (T_X12_readsTwo 33 _ _ _ rfl) ?_
        refine g_put (c := 83) (T_X12_readsTwo 34 _ _ _ rfl) fl_X12_182 rfl (Or.inl rfl) ?_
        refine g_bndH H fun h5 H => ?_
        refine g_aload_n (T_X12_readsTwo 35 _ _ _ rfl) rfl ?_
        refine g_aload_n (T_X12_readsTwo 36 _ _ _ rfl) rfl ?_
        refine g_getI (c := 83) (T_X12_readsTwo 37 _ _ _ rfl) fl_X12_166 rfl (Or.inl rfl) ?_
        refine g_iconst (T_X12_readsTwo 38 _ _ _ rfl) ⟨by decide, by decide⟩ ?_
        refine g_iadd (T_X12_readsTwo 39 _ _ _ rfl) ?_
        refine g_put (c := 83) (T_X12_readsTwo 40 _ _ _ rfl) fl_X12_166 rfl (Or.inl rfl) ?_
        refine g_bndH H fun h6 H => ?_
        refine g_goto (tgt := 27) (T_X12_readsTwo 41 _ _ _ rfl) (by decide) ?_
        refine g_weak [true, true] ?_
        exact ih _ _ _ H
def F_X12_readsTwo (N : Nat) (h : Hp) : Option (Int × Hp) :=
  bnd ((h 83 16)) fun y1 =>
  bd (F_X12_isDigit N h) fun y3 h2 =>
  if y3 = 0 then
    bd (F_X12_wrongAt N 1 (h2 83 16) h2) fun y6 h5 =>
    grd (y6 = 0 ∨ y6 = 1) <|
    some (y6, h5)
  else
  bnd (hw h2 83 19 0) fun h4 =>
  L_X12_readsTwo_27 N  N y1 h4
set_option maxRecDepth 100000 in
set_option maxHeartbeats 4000000 in
theorem R_X12_readsTwo (N : Nat) (h : Hp) (res : Int × Hp) (H : F_X12_readsTwo N h = some res) : Runs M_X12_readsTwo 3 [.inr 84] h (Qi res) := by
  refine Runs.of rfl (Nat.le_of_ble_eq_true rfl) ?_
  show Go M_X12_readsTwo 3 0 [some (.inr 84), none] [] h (Qi res)
  unfold F_X12_readsTwo at H
  refine g_aload_n (T_X12_readsTwo 0 _ _ _ rfl) rfl ?_
  refine g_getI (c := 83) (T_X12_readsTwo 1 _ _ _ rfl) fl_X12_166 rfl (Or.inl rfl) ?_
  refine g_bndI H fun y1 H => ?_
  refine g_istore_n (T_X12_readsTwo 2 _ _ _ rfl) (by decide) ?_
  refine g_aload_n (T_X12_readsTwo 3 _ _ _ rfl) rfl ?_
  obtain ⟨y3, h2, hq, H⟩ := bd_some H
  refine g_callVi (M' := M_X12_isDigit) (c := 83) (av := []) (st := []) (T_X12_readsTwo 4 _ _ _ rfl) ml_X12_185 cb_X12_isDigit rfl rfl (Nat.le_of_ble_eq_true rfl) (by omega) (R_X12_isDigit N _ _ hq) ?_
  refine g_if_ne (tgt := 22) (T_X12_readsTwo 5 _ _ _ rfl) (by decide) (fun cc => ?_) (fun cc => ?_)
  · replace H := ite_n cc H
    refine g_aload_n (T_X12_readsTwo 12 _ _ _ rfl) rfl ?_
    refine g_iconst (T_X12_readsTwo 13 _ _ _ rfl) ⟨by decide, by decide⟩ ?_
    refine g_put (c := 83) (T_X12_readsTwo 14 _ _ _ rfl) fl_X12_182 rfl (Or.inl rfl) ?_
    refine g_bndH H fun h4 H => ?_
    refine g_weak [true, true] ?_
    refine R_L_X12_readsTwo_27 N   _ _ _ _ H
  · replace H := ite_p cc H
    refine g_aload_n (T_X12_readsTwo 6 _ _ _ rfl) rfl ?_
    refine g_iconst (T_X12_readsTwo 7 _ _ _ rfl) ⟨by decide, by decide⟩ ?_
    refine g_aload_n (T_X12_readsTwo 8 _ _ _ rfl) rfl ?_
    refine g_getI (c := 83) (T_X12_readsTwo 9 _ _ _ rfl) fl_X12_166 rfl (Or.inl rfl) ?_
    obtain ⟨y6, h5, hq, H⟩ := bd_some H
    refine g_callVi (M' := M_X12_wrongAt) (c := 83) (av := [.inl 1, .inl (h2 83 16)]) (st := []) (T_X12_readsTwo 10 _ _ _ rfl) ml_X12_179 cb_X12_wrongAt rfl rfl (Nat.le_of_ble_eq_true rfl) (by omega) (R_X12_wrongAt N _ _ _ _ hq) ?_
    obtain ⟨hg, H⟩ := grd_some H
    exact g_zret (T_X12_readsTwo 11 _ _ _ rfl) rfl hg (qi_of H)
def F_X12_readsLine (N : Nat) (h : Hp) : Option (Int × Hp) :=
  bd (F_X12_isLetterHere N h) fun y2 h1 =>
  if y2 = 0 then
    bd (F_X12_wrongAt N 1 (h1 83 16) h1) fun y36 h35 =>
    grd (y36 = 0 ∨ y36 = 1) <|
    some (y36, h35)
  else
  if (h1 83 41) = 40 then
    bd (F_X12_wrongAt N 4 (h1 83 16) h1) fun y34 h33 =>
    grd (y34 = 0 ∨ y34 = 1) <|
    some (y34, h33)
  else
  bd (F_X12_here N h1) fun y4 h3 =>
  bnd ((w32 (y4 - 97))) fun y5 =>
  bd (F_X12_isStreet N y5 h3) fun y7 h6 =>
  if y7 = 0 then
    bd (F_X12_wrongAt N 7 (h6 83 16) h6) fun y32 h31 =>
    grd (y32 = 0 ∨ y32 = 1) <|
    some (y32, h31)
  else
  bnd (hw h6 83 16 (w32 ((h6 83 16) + 1))) fun h8 =>
  bd (F_X12_isLetterHere N h8) fun y10 h9 =>
  if y10 = 0 then
    bd (F_X12_wrongAt N 1 (h9 83 16) h9) fun y30 h29 =>
    grd (y30 = 0 ∨ y30 = 1) <|
    some (y30, h29)
  else
  bd (F_X12_here N h9) fun y12 h11 =>
  bnd ((w32 (y12 - 97))) fun y13 =>
  bd (F_X12_isStreet N y13 h11) fun y15 h14 =>
  if y15 = 0 then
    bd (F_X12_wrongAt N 7 (h14 83 16) h14) fun y28 h27 =>
    grd (y28 = 0 ∨ y28 = 1) <|
    some (y28, h27)
  else
  if y5 = y13 then
    bd (F_X12_wrongAt N 6 (h14 83 16) h14) fun y26 h25 =>
    grd (y26 = 0 ∨ y26 = 1) <|
    some (y26, h25)
  else
  bnd (hw h14 83 16 (w32 ((h14 83 16) + 1))) fun h16 =>
  bnd ((h16 83 16)) fun y17 =>
  bd (F_X12_readsTwo N h16) fun y19 h18 =>
  if y19 = 0 then
    some (0, h18)
  else
  if (h18 83 19) = 0 then
    bd (F_X12_wrongAt N 3 y17 h18) fun y24 h23 =>
    grd (y24 = 0 ∨ y24 = 1) <|
    some (y24, h23)
  else
  grd (0 ≤ (w32 ((w32 (14 * y5)) + y13)) ∧ (w32 ((w32 (14 * y5)) + y13)) < 196) <|
  bnd (hw h18 110 (w32 ((w32 (14 * y5)) + y13)).toNat (h18 83 19)) fun h20 =>
  grd (0 ≤ (w32 ((w32 (14 * y13)) + y5)) ∧ (w32 ((w32 (14 * y13)) + y5)) < 196) <|
  bnd (hw h20 110 (w32 ((w32 (14 * y13)) + y5)).toNat (h20 83 19)) fun h21 =>
  bnd (hw h21 83 41 (w32 ((h21 83 41) + 1))) fun h22 =>
  some (1, h22)
set_option maxRecDepth 100000 in
set_option maxHeartbeats 4000000 in
theorem R_X12_readsLine (N : Nat) (h : Hp) (res : Int × Hp) (H : F_X12_readsLine N h = some res) : Runs M_X12_readsLine 4 [.inr 84] h (Qi res) := by
  refine Runs.of rfl (Nat.le_of_ble_eq_true rfl) ?_
  show Go M_X12_readsLine 4 0 [some (.inr 84), none, none, none] [] h (Qi res)
  unfold F_X12_readsLine at H
  refine g_aload_n (T_X12_readsLine 0 _ _ _ rfl) rfl ?_
  obtain ⟨y2, h1, hq, H⟩ := bd_some H
  refine g_callVi (M' := M_X12_isLetterHere) (c := 83) (av := []) (st := []) (T_X12_readsLine 1 _ _ _ rfl) ml_X12_275 cb_X12_isLetterHere rfl rfl (Nat.le_of_ble_eq_true rfl) (by omega) (R_X12_isLetterHere N _ _ hq) ?_
  refine g_if_ne (tgt := 17) (T_X12_readsLine 2 _ _ _ rfl) (by decide) (fun cc => ?_) (fun cc => ?_)
  · replace H := ite_n cc H
    refine g_aload_n (T_X12_readsLine 9 _ _ _ rfl) rfl ?_
    refine g_getI (c := 83) (T_X12_readsLine 10 _ _ _ rfl) fl_X12_278 rfl (Or.inl rfl) ?_
    refine g_bipush (T_X12_readsLine 11 _ _ _ rfl) (by decide) ?_
    refine g_icmp_ne (tgt := 36) (T_X12_readsLine 12 _ _ _ rfl) (by decide) (fun cc => ?_) (fun cc => ?_)
    · replace H := ite_n cc H
      refine g_aload_n (T_X12_readsLine 19 _ _ _ rfl) rfl ?_
      obtain ⟨y4, h3, hq, H⟩ := bd_some H
      refine g_callVi (M' := M_X12_here) (c := 83) (av := []) (st := []) (T_X12_readsLine 20 _ _ _ rfl) ml_X12_172 cb_X12_here rfl rfl (Nat.le_of_ble_eq_true rfl) (by omega) (R_X12_here N _ _ hq) ?_
      refine g_bipush (T_X12_readsLine 21 _ _ _ rfl) (by decide) ?_
      refine g_isub (T_X12_readsLine 22 _ _ _ rfl) ?_
      refine g_bndI H fun y5 H => ?_
      refine g_istore_n (T_X12_readsLine 23 _ _ _ rfl) (by decide) ?_
      refine g_aload_n (T_X12_readsLine 24 _ _ _ rfl) rfl ?_
      refine g_iload_n (T_X12_readsLine 25 _ _ _ rfl) rfl ?_
      obtain ⟨y7, h6, hq, H⟩ := bd_some H
      refine g_callVi (M' := M_X12_isStreet) (c := 83) (av := [.inl y5]) (st := []) (T_X12_readsLine 26 _ _ _ rfl) ml_X12_146 cb_X12_isStreet rfl rfl (Nat.le_of_ble_eq_true rfl) (by omega) (R_X12_isStreet N _ _ _ hq) ?_
      refine g_if_ne (tgt := 63) (T_X12_readsLine 27 _ _ _ rfl) (by decide) (fun cc => ?_) (fun cc => ?_)
      · replace H := ite_n cc H
        refine g_aload_n (T_X12_readsLine 34 _ _ _ rfl) rfl ?_
        refine g_aload_n (T_X12_readsLine 35 _ _ _ rfl) rfl ?_
        refine g_getI (c := 83) (T_X12_readsLine 36 _ _ _ rfl) fl_X12_166 rfl (Or.inl rfl) ?_
        refine g_iconst (T_X12_readsLine 37 _ _ _ rfl) ⟨by decide, by decide⟩ ?_
        refine g_iadd (T_X12_readsLine 38 _ _ _ rfl) ?_
        refine g_put (c := 83) (T_X12_readsLine 39 _ _ _ rfl) fl_X12_166 rfl (Or.inl rfl) ?_
        refine g_bndH H fun h8 H => ?_
        refine g_aload_n (T_X12_readsLine 40 _ _ _ rfl) rfl ?_
        obtain ⟨y10, h9, hq, H⟩ := bd_some H
        refine g_callVi (M' := M_X12_isLetterHere) (c := 83) (av := []) (st := []) (T_X12_readsLine 41 _ _ _ rfl) ml_X12_275 cb_X12_isLetterHere rfl rfl (Nat.le_of_ble_eq_true rfl) (by omega) (R_X12_isLetterHere N _ _ hq) ?_
        refine g_if_ne (tgt := 90) (T_X12_readsLine 42 _ _ _ rfl) (by decide) (fun cc => ?_) (fun cc => ?_)
        · replace H := ite_n cc H
          refine g_aload_n (T_X12_readsLine 49 _ _ _ rfl) rfl ?_
          obtain ⟨y12, h11, hq, H⟩ := bd_some H
          refine g_callVi (M' := M_X12_here) (c := 83) (av := []) (st := []) (T_X12_readsLine 50 _ _ _ rfl) ml_X12_172 cb_X12_here rfl rfl (Nat.le_of_ble_eq_true rfl) (by omega) (R_X12_here N _ _ hq) ?_
          refine g_bipush (T_X12_readsLine 51 _ _ _ rfl) (by decide) ?_
          refine g_isub (T_X12_readsLine 52 _ _ _ rfl) ?_
          refine g_bndI H fun y13 H => ?_
          refine g_istore_n (T_X12_readsLine 53 _ _ _ rfl) (by decide) ?_
          refine g_aload_n (T_X12_readsLine 54 _ _ _ rfl) rfl ?_
          refine g_iload_n (T_X12_readsLine 55 _ _ _ rfl) rfl ?_
          obtain ⟨y15, h14, hq, H⟩ := bd_some H
          refine g_callVi (M' := M_X12_isStreet) (c := 83) (av := [.inl y13]) (st := []) (T_X12_readsLine 56 _ _ _ rfl) ml_X12_146 cb_X12_isStreet rfl rfl (Nat.le_of_ble_eq_true rfl) (by omega) (R_X12_isStreet N _ _ _ hq) ?_
          refine g_if_ne (tgt := 117) (T_X12_readsLine 57 _ _ _ rfl) (by decide) (fun cc => ?_) (fun cc => ?_)
          · replace H := ite_n cc H
            refine g_iload_n (T_X12_readsLine 64 _ _ _ rfl) rfl ?_
            refine g_iload_n (T_X12_readsLine 65 _ _ _ rfl) rfl ?_
            refine g_icmp_ne (tgt := 133) (T_X12_readsLine 66 _ _ _ rfl) (by decide) (fun cc => ?_) (fun cc => ?_)
            · replace H := ite_n cc H
              refine g_aload_n (T_X12_readsLine 73 _ _ _ rfl) rfl ?_
              refine g_aload_n (T_X12_readsLine 74 _ _ _ rfl) rfl ?_
              refine g_getI (c := 83) (T_X12_readsLine 75 _ _ _ rfl) fl_X12_166 rfl (Or.inl rfl) ?_
              refine g_iconst (T_X12_readsLine 76 _ _ _ rfl) ⟨by decide, by decide⟩ ?_
              refine g_iadd (T_X12_readsLine 77 _ _ _ rfl) ?_
              refine g_put (c := 83) (T_X12_readsLine 78 _ _ _ rfl) fl_X12_166 rfl (Or.inl rfl) ?_
              refine g_bndH H fun h16 H => ?_
              refine g_aload_n (T_X12_readsLine 79 _ _ _ rfl) rfl ?_
              refine g_getI (c := 83) (T_X12_readsLine 80 _ _ _ rfl) fl_X12_166 rfl (Or.inl rfl) ?_
              refine g_bndI H fun y17 H => ?_
              refine g_istore_n (T_X12_readsLine 81 _ _ _ rfl) (by decide) ?_
              refine g_aload_n (T_X12_readsLine 82 _ _ _ rfl) rfl ?_
              obtain ⟨y19, h18, hq, H⟩ := bd_some H
              refine g_callVi (M' := M_X12_readsTwo) (c := 83) (av := []) (st := []) (T_X12_readsLine 83 _ _ _ rfl) ml_X12_281 cb_X12_readsTwo rfl rfl (Nat.le_of_ble_eq_true rfl) (by omega) (R_X12_readsTwo N _ _ hq) ?_
              refine g_if_ne (tgt := 157) (T_X12_readsLine 84 _ _ _ rfl) (by decide) (fun cc => ?_) (fun cc => ?_)
              · replace H := ite_n cc H
                refine g_aload_n (T_X12_readsLine 87 _ _ _ rfl) rfl ?_
                refine g_getI (c := 83) (T_X12_readsLine 88 _ _ _ rfl) fl_X12_182 rfl (Or.inl rfl) ?_
                refine g_if_ne (tgt := 171) (T_X12_readsLine 89 _ _ _ rfl) (by decide) (fun cc => ?_) (fun cc => ?_)
                · replace H := ite_n cc H
                  refine g_aload_n (T_X12_readsLine 95 _ _ _ rfl) rfl ?_
                  refine g_getR (c := 83) (r := 111) (T_X12_readsLine 96 _ _ _ rfl) fl_X12_89 rfl (nR rfl) rfl (by decide) ?_
                  refine g_bipush (T_X12_readsLine 97 _ _ _ rfl) (by decide) ?_
                  refine g_iload_n (T_X12_readsLine 98 _ _ _ rfl) rfl ?_
                  refine g_imul (T_X12_readsLine 99 _ _ _ rfl) ?_
                  refine g_iload_n (T_X12_readsLine 100 _ _ _ rfl) rfl ?_
                  refine g_iadd (T_X12_readsLine 101 _ _ _ rfl) ?_
                  refine g_aload_n (T_X12_readsLine 102 _ _ _ rfl) rfl ?_
                  refine g_getI (c := 83) (T_X12_readsLine 103 _ _ _ rfl) fl_X12_182 rfl (Or.inl rfl) ?_
                  obtain ⟨hg, H⟩ := grd_some H
                  refine g_iast (c := 110) (T_X12_readsLine 104 _ _ _ rfl) rfl hg ?_
                  refine g_bndH H fun h20 H => ?_
                  refine g_aload_n (T_X12_readsLine 105 _ _ _ rfl) rfl ?_
                  refine g_getR (c := 83) (r := 111) (T_X12_readsLine 106 _ _ _ rfl) fl_X12_89 rfl (nR rfl) rfl (by decide) ?_
                  refine g_bipush (T_X12_readsLine 107 _ _ _ rfl) (by decide) ?_
                  refine g_iload_n (T_X12_readsLine 108 _ _ _ rfl) rfl ?_
                  refine g_imul (T_X12_readsLine 109 _ _ _ rfl) ?_
                  refine g_iload_n (T_X12_readsLine 110 _ _ _ rfl) rfl ?_
                  refine g_iadd (T_X12_readsLine 111 _ _ _ rfl) ?_
                  refine g_aload_n (T_X12_readsLine 112 _ _ _ rfl) rfl ?_
                  refine g_getI (c := 83) (T_X12_readsLine 113 _ _ _ rfl) fl_X12_182 rfl (Or.inl rfl) ?_
                  obtain ⟨hg, H⟩ := grd_some H
                  refine g_iast (c := 110) (T_X12_readsLine 114 _ _ _ rfl) rfl hg ?_
                  refine g_bndH H fun h21 H => ?_
                  refine g_aload_n (T_X12_readsLine 115 _ _ _ rfl) rfl ?_
                  refine g_aload_n (T_X12_readsLine 116 _ _ _ rfl) rfl ?_
                  refine g_getI (c := 83) (T_X12_readsLine 117 _ _ _ rfl) fl_X12_278 rfl (Or.inl rfl) ?_
                  refine g_iconst (T_X12_readsLine 118 _ _ _ rfl) ⟨by decide, by decide⟩ ?_
                  refine g_iadd (T_X12_readsLine 119 _ _ _ rfl) ?_
                  refine g_put (c := 83) (T_X12_readsLine 120 _ _ _ rfl) fl_X12_278 rfl (Or.inl rfl) ?_
                  refine g_bndH H fun h22 H => ?_
                  refine g_iconst (T_X12_readsLine 121 _ _ _ rfl) ⟨by decide, by decide⟩ ?_
                  exact g_zret (T_X12_readsLine 122 _ _ _ rfl) rfl (by decide) (qi_of H)
                · replace H := ite_p cc H
                  refine g_aload_n (T_X12_readsLine 90 _ _ _ rfl) rfl ?_
                  refine g_iconst (T_X12_readsLine 91 _ _ _ rfl) ⟨by decide, by decide⟩ ?_
                  refine g_iload_n (T_X12_readsLine 92 _ _ _ rfl) rfl ?_
                  obtain ⟨y24, h23, hq, H⟩ := bd_some H
                  refine g_callVi (M' := M_X12_wrongAt) (c := 83) (av := [.inl 3, .inl y17]) (st := []) (T_X12_readsLine 93 _ _ _ rfl) ml_X12_179 cb_X12_wrongAt rfl rfl (Nat.le_of_ble_eq_true rfl) (by omega) (R_X12_wrongAt N _ _ _ _ hq) ?_
                  obtain ⟨hg, H⟩ := grd_some H
                  exact g_zret (T_X12_readsLine 94 _ _ _ rfl) rfl hg (qi_of H)
              · replace H := ite_p cc H
                refine g_iconst (T_X12_readsLine 85 _ _ _ rfl) ⟨by decide, by decide⟩ ?_
                exact g_zret (T_X12_readsLine 86 _ _ _ rfl) rfl (by decide) (qi_of H)
            · replace H := ite_p cc H
              refine g_aload_n (T_X12_readsLine 67 _ _ _ rfl) rfl ?_
              refine g_bipush (T_X12_readsLine 68 _ _ _ rfl) (by decide) ?_
              refine g_aload_n (T_X12_readsLine 69 _ _ _ rfl) rfl ?_
              refine g_getI (c := 83) (T_X12_readsLine 70 _ _ _ rfl) fl_X12_166 rfl (Or.inl rfl) ?_
              obtain ⟨y26, h25, hq, H⟩ := bd_some H
              refine g_callVi (M' := M_X12_wrongAt) (c := 83) (av := [.inl 6, .inl (h14 83 16)]) (st := []) (T_X12_readsLine 71 _ _ _ rfl) ml_X12_179 cb_X12_wrongAt rfl rfl (Nat.le_of_ble_eq_true rfl) (by omega) (R_X12_wrongAt N _ _ _ _ hq) ?_
              obtain ⟨hg, H⟩ := grd_some H
              exact g_zret (T_X12_readsLine 72 _ _ _ rfl) rfl hg (qi_of H)
          · replace H := ite_p cc H
            refine g_aload_n (T_X12_readsLine 58 _ _ _ rfl) rfl ?_
            refine g_bipush (T_X12_readsLine 59 _ _ _ rfl) (by decide) ?_
            refine g_aload_n (T_X12_readsLine 60 _ _ _ rfl) rfl ?_
            refine g_getI (c := 83) (T_X12_readsLine 61 _ _ _ rfl) fl_X12_166 rfl (Or.inl rfl) ?_
            obtain ⟨y28, h27, hq, H⟩ := bd_some H
            refine g_callVi (M' := M_X12_wrongAt) (c := 83) (av := [.inl 7, .inl (h14 83 16)]) (st := []) (T_X12_readsLine 62 _ _ _ rfl) ml_X12_179 cb_X12_wrongAt rfl rfl (Nat.le_of_ble_eq_true rfl) (by omega) (R_X12_wrongAt N _ _ _ _ hq) ?_
            obtain ⟨hg, H⟩ := grd_some H
            exact g_zret (T_X12_readsLine 63 _ _ _ rfl) rfl hg (qi_of H)
        · replace H := ite_p cc H
          refine g_aload_n (T_X12_readsLine 43 _ _ _ rfl) rfl ?_
          refine g_iconst (T_X12_readsLine 44 _ _ _ rfl) ⟨by decide, by decide⟩ ?_
          refine g_aload_n (T_X12_readsLine 45 _ _ _ rfl) rfl ?_
          refine g_getI (c := 83) (T_X12_readsLine 46 _ _ _ rfl) fl_X12_166 rfl (Or.inl rfl) ?_
          obtain ⟨y30, h29, hq, H⟩ := bd_some H
          refine g_callVi (M' := M_X12_wrongAt) (c := 83) (av := [.inl 1, .inl (h9 83 16)]) (st := []) (T_X12_readsLine 47 _ _ _ rfl) ml_X12_179 cb_X12_wrongAt rfl rfl (Nat.le_of_ble_eq_true rfl) (by omega) (R_X12_wrongAt N _ _ _ _ hq) ?_
          obtain ⟨hg, H⟩ := grd_some H
          exact g_zret (T_X12_readsLine 48 _ _ _ rfl) rfl hg (qi_of H)
      · replace H := ite_p cc H
        refine g_aload_n (T_X12_readsLine 28 _ _ _ rfl) rfl ?_
        refine g_bipush (T_X12_readsLine 29 _ _ _ rfl) (by decide) ?_
        refine g_aload_n (T_X12_readsLine 30 _ _ _ rfl) rfl ?_
        refine g_getI (c := 83) (T_X12_readsLine 31 _ _ _ rfl) fl_X12_166 rfl (Or.inl rfl) ?_
        obtain ⟨y32, h31, hq, H⟩ := bd_some H
        refine g_callVi (M' := M_X12_wrongAt) (c := 83) (av := [.inl 7, .inl (h6 83 16)]) (st := []) (T_X12_readsLine 32 _ _ _ rfl) ml_X12_179 cb_X12_wrongAt rfl rfl (Nat.le_of_ble_eq_true rfl) (by omega) (R_X12_wrongAt N _ _ _ _ hq) ?_
        obtain ⟨hg, H⟩ := grd_some H
        exact g_zret (T_X12_readsLine 33 _ _ _ rfl) rfl hg (qi_of H)
    · replace H := ite_p cc H
      refine g_aload_n (T_X12_readsLine 13 _ _ _ rfl) rfl ?_
      refine g_iconst (T_X12_readsLine 14 _ _ _ rfl) ⟨by decide, by decide⟩ ?_
      refine g_aload_n (T_X12_readsLine 15 _ _ _ rfl) rfl ?_
      refine g_getI (c := 83) (T_X12_readsLine 16 _ _ _ rfl) fl_X12_166 rfl (Or.inl rfl) ?_
      obtain ⟨y34, h33, hq, H⟩ := bd_some H
      refine g_callVi (M' := M_X12_wrongAt) (c := 83) (av := [.inl 4, .inl (h1 83 16)]) (st := []) (T_X12_readsLine 17 _ _ _ rfl) ml_X12_179 cb_X12_wrongAt rfl rfl (Nat.le_of_ble_eq_true rfl) (by omega) (R_X12_wrongAt N _ _ _ _ hq) ?_
      obtain ⟨hg, H⟩ := grd_some H
      exact g_zret (T_X12_readsLine 18 _ _ _ rfl) rfl hg (qi_of H)
  · replace H := ite_p cc H
    refine g_aload_n (T_X12_readsLine 3 _ _ _ rfl) rfl ?_
    refine g_iconst (T_X12_readsLine 4 _ _ _ rfl) ⟨by decide, by decide⟩ ?_
    refine g_aload_n (T_X12_readsLine 5 _ _ _ rfl) rfl ?_
    refine g_getI (c := 83) (T_X12_readsLine 6 _ _ _ rfl) fl_X12_166 rfl (Or.inl rfl) ?_
    obtain ⟨y36, h35, hq, H⟩ := bd_some H
    refine g_callVi (M' := M_X12_wrongAt) (c := 83) (av := [.inl 1, .inl (h1 83 16)]) (st := []) (T_X12_readsLine 7 _ _ _ rfl) ml_X12_179 cb_X12_wrongAt rfl rfl (Nat.le_of_ble_eq_true rfl) (by omega) (R_X12_wrongAt N _ _ _ _ hq) ?_
    obtain ⟨hg, H⟩ := grd_some H
    exact g_zret (T_X12_readsLine 8 _ _ _ rfl) rfl hg (qi_of H)
def L_X12_roads_119 (N : Nat) : Nat → Int → Hp → Option (Int × Hp)
  | 0, _, _ => none
  | n + 1, x3, h =>
    if 196 ≤ x3 then
      bv (F_X12_laysWays N (-1) (-1) h) fun h1 =>
      some ((h1 83 41), h1)
    else
    grd (0 ≤ x3 ∧ x3 < 196) <|
    grd (0 ≤ x3 ∧ x3 < 196) <|
    bnd (hw h 90 x3.toNat (h 110 x3.toNat)) fun h2 =>
    bnd (w32 (x3 + 1)) fun y3 =>
    (L_X12_roads_119 N n) y3 h2
set_option maxRecDepth 100000 in
set_option maxHeartbeats 4000000 in
theorem R_L_X12_roads_119 (N : Nat) : ∀ (n : Nat) (x3 : Int) (h : Hp) (res : Int × Hp), L_X12_roads_119 N n x3 h = some res → Go M_X12_roads 5 119 [some (.inr 84), none, none, some (.inl x3)] [] h (Qi res)
  | 0, _, _, _, H => by cases H
  | n + 1, x3, h, res, H => by
    have ih := R_L_X12_roads_119 N n
    simp only [L_X12_roads_119] at H
    refine g_iload_n (T_X12_roads 64 _ _ _ rfl) rfl ?_
    refine g_sipush (T_X12_roads 65 _ _ _ rfl) (by decide) ?_
    refine g_icmp_ge (tgt := 144) (T_X12_roads 66 _ _ _ rfl) (by decide) (fun cc => ?_) (fun cc => ?_)
    · replace H := ite_p cc H
      refine g_aload_n (T_X12_roads 77 _ _ _ rfl) rfl ?_
      refine g_iconst (T_X12_roads 78 _ _ _ rfl) ⟨by decide, by decide⟩ ?_
      refine g_iconst (T_X12_roads 79 _ _ _ rfl) ⟨by decide, by decide⟩ ?_
      obtain ⟨h1, hq, H⟩ := bv_some H
      refine g_callVv (M' := M_X12_laysWays) (c := 83) (av := [.inl (-1), .inl (-1)]) (st := []) (T_X12_roads 80 _ _ _ rfl) ml_X12_131 cb_X12_laysWays rfl rfl (Nat.le_of_ble_eq_true rfl) (by omega) (R_X12_laysWays N _ _ _ _ hq) ?_
      refine g_aload_n (T_X12_roads 81 _ _ _ rfl) rfl ?_
      refine g_getI (c := 83) (T_X12_roads 82 _ _ _ rfl) fl_X12_278 rfl (Or.inl rfl) ?_
      exact g_iret (T_X12_roads 83 _ _ _ rfl) rfl (qi_of H)
    · replace H := ite_n cc H
      refine g_aload_n (T_X12_roads 67 _ _ _ rfl) rfl ?_
      refine g_getR (c := 83) (r := 91) (T_X12_roads 68 _ _ _ rfl) fl_X12_28 rfl (nR rfl) rfl (by decide) ?_
      refine g_iload_n (T_X12_roads 69 _ _ _ rfl) rfl ?_
      refine g_aload_n (T_X12_roads 70 _ _ _ rfl) rfl ?_
      refine g_getR (c := 83) (r := 111) (T_X12_roads 71 _ _ _ rfl) fl_X12_89 rfl (nR rfl) rfl (by decide) ?_
      refine g_iload_n (T_X12_roads 72 _ _ _ rfl) rfl ?_
      obtain ⟨hg, H⟩ := grd_some H
      refine g_iald (c := 110) (T_X12_roads 73 _ _ _ rfl) rfl hg ?_
      obtain ⟨hg, H⟩ := grd_some H
      refine g_iast (c := 90) (T_X12_roads 74 _ _ _ rfl) rfl hg ?_
      refine g_bndH H fun h2 H => ?_
      refine g_iincB (T_X12_roads 75 _ _ _ rfl) rfl (by decide) H fun y3 H => ?_
      refine g_goto (tgt := 119) (T_X12_roads 76 _ _ _ rfl) (by decide) ?_
      refine g_weak [true, false, false, true] ?_
      exact ih _ _ _ H
def J_X12_roads_103 (N : Nat) (x2 : Int) (h : Hp) : Option (Int × Hp) :=
  bnd (hw h 83 15 0) fun h1 =>
  if x2 = 0 then
    some ((h1 83 18), h1)
  else
  L_X12_roads_119 N  N 0 h1
set_option maxRecDepth 100000 in
set_option maxHeartbeats 4000000 in
theorem R_J_X12_roads_103 (N : Nat) (x2 : Int) (h : Hp) (res : Int × Hp) (H : J_X12_roads_103 N x2 h = some res) : Go M_X12_roads 5 103 [some (.inr 84), none, some (.inl x2), none] [] h (Qi res) := by
  unfold J_X12_roads_103 at H
  refine g_aload_n (T_X12_roads 54 _ _ _ rfl) rfl ?_
  refine g_iconst (T_X12_roads 55 _ _ _ rfl) ⟨by decide, by decide⟩ ?_
  refine g_put (c := 83) (T_X12_roads 56 _ _ _ rfl) fl_X12_159 rfl (Or.inl rfl) ?_
  refine g_bndH H fun h1 H => ?_
  refine g_iload_n (T_X12_roads 57 _ _ _ rfl) rfl ?_
  refine g_if_ne (tgt := 117) (T_X12_roads 58 _ _ _ rfl) (by decide) (fun cc => ?_) (fun cc => ?_)
  · replace H := ite_n cc H
    refine g_iconst (T_X12_roads 62 _ _ _ rfl) ⟨by decide, by decide⟩ ?_
    refine g_istore_n (T_X12_roads 63 _ _ _ rfl) (by decide) ?_
    refine g_weak [true, false, false, true] ?_
    refine R_L_X12_roads_119 N   _ _ _ _ H
  · replace H := ite_p cc H
    refine g_aload_n (T_X12_roads 59 _ _ _ rfl) rfl ?_
    refine g_getI (c := 83) (T_X12_roads 60 _ _ _ rfl) fl_X12_176 rfl (Or.inl rfl) ?_
    exact g_iret (T_X12_roads 61 _ _ _ rfl) rfl (qi_of H)
def L_X12_roads_63 (N : Nat) : Nat → Int → Hp → Option (Int × Hp)
  | 0, _, _ => none
  | n + 1, x2, h =>
    if x2 = 0 then
      J_X12_roads_103 N  x2 h
    else
    if (h 83 17) ≤ (h 83 16) then
      J_X12_roads_103 N  x2 h
    else
    bd (F_X12_takes N 59 h) fun y2 h1 =>
    if y2 = 0 then
      (L_X12_roads_63 N n) 0 h1
    else
    bd (F_X12_readsLine N h1) fun y4 h3 =>
    if y4 = 0 then
      (L_X12_roads_63 N n) 0 h3
    else
    (L_X12_roads_63 N n) 1 h3
set_option maxRecDepth 100000 in
set_option maxHeartbeats 4000000 in
theorem R_L_X12_roads_63 (N : Nat) : ∀ (n : Nat) (x2 : Int) (h : Hp) (res : Int × Hp), L_X12_roads_63 N n x2 h = some res → Go M_X12_roads 5 63 [some (.inr 84), none, some (.inl x2), none] [] h (Qi res)
  | 0, _, _, _, H => by cases H
  | n + 1, x2, h, res, H => by
    have ih := R_L_X12_roads_63 N n
    simp only [L_X12_roads_63] at H
    refine g_iload_n (T_X12_roads 35 _ _ _ rfl) rfl ?_
    refine g_if_eq (tgt := 103) (T_X12_roads 36 _ _ _ rfl) (by decide) (fun cc => ?_) (fun cc => ?_)
    · replace H := ite_p cc H
      refine g_weak [true, false, true, false] ?_
      exact R_J_X12_roads_103 N   _ _ _ H
    · replace H := ite_n cc H
      refine g_aload_n (T_X12_roads 37 _ _ _ rfl) rfl ?_
      refine g_getI (c := 83) (T_X12_roads 38 _ _ _ rfl) fl_X12_166 rfl (Or.inl rfl) ?_
      refine g_aload_n (T_X12_roads 39 _ _ _ rfl) rfl ?_
      refine g_getI (c := 83) (T_X12_roads 40 _ _ _ rfl) fl_X12_169 rfl (Or.inl rfl) ?_
      refine g_icmp_ge (tgt := 103) (T_X12_roads 41 _ _ _ rfl) (by decide) (fun cc => ?_) (fun cc => ?_)
      · replace H := ite_p cc H
        refine g_weak [true, false, true, false] ?_
        exact R_J_X12_roads_103 N   _ _ _ H
      · replace H := ite_n cc H
        refine g_aload_n (T_X12_roads 42 _ _ _ rfl) rfl ?_
        refine g_bipush (T_X12_roads 43 _ _ _ rfl) (by decide) ?_
        obtain ⟨y2, h1, hq, H⟩ := bd_some H
        refine g_callVi (M' := M_X12_takes) (c := 83) (av := [.inl 59]) (st := []) (T_X12_roads 44 _ _ _ rfl) ml_X12_255 cb_X12_takes rfl rfl (Nat.le_of_ble_eq_true rfl) (by omega) (R_X12_takes N _ _ _ hq) ?_
        refine g_if_eq (tgt := 98) (T_X12_roads 45 _ _ _ rfl) (by decide) (fun cc => ?_) (fun cc => ?_)
        · replace H := ite_p cc H
          refine g_iconst (T_X12_roads 51 _ _ _ rfl) ⟨by decide, by decide⟩ ?_
          refine g_istore_n (T_X12_roads 52 _ _ _ rfl) (by decide) ?_
          refine g_goto (tgt := 63) (T_X12_roads 53 _ _ _ rfl) (by decide) ?_
          refine g_weak [true, false, true, false] ?_
          exact ih _ _ _ H
        · replace H := ite_n cc H
          refine g_aload_n (T_X12_roads 46 _ _ _ rfl) rfl ?_
          obtain ⟨y4, h3, hq, H⟩ := bd_some H
          refine g_callVi (M' := M_X12_readsLine) (c := 83) (av := []) (st := []) (T_X12_roads 47 _ _ _ rfl) ml_X12_284 cb_X12_readsLine rfl rfl (Nat.le_of_ble_eq_true rfl) (by omega) (R_X12_readsLine N _ _ hq) ?_
          refine g_if_eq (tgt := 98) (T_X12_roads 48 _ _ _ rfl) (by decide) (fun cc => ?_) (fun cc => ?_)
          · replace H := ite_p cc H
            refine g_iconst (T_X12_roads 51 _ _ _ rfl) ⟨by decide, by decide⟩ ?_
            refine g_istore_n (T_X12_roads 52 _ _ _ rfl) (by decide) ?_
            refine g_goto (tgt := 63) (T_X12_roads 53 _ _ _ rfl) (by decide) ?_
            refine g_weak [true, false, true, false] ?_
            exact ih _ _ _ H
          · replace H := ite_n cc H
            refine g_iconst (T_X12_roads 49 _ _ _ rfl) ⟨by decide, by decide⟩ ?_
            refine g_goto (tgt := 99) (T_X12_roads 50 _ _ _ rfl) (by decide) ?_
            refine g_istore_n (T_X12_roads 52 _ _ _ rfl) (by decide) ?_
            refine g_goto (tgt := 63) (T_X12_roads 53 _ _ _ rfl) (by decide) ?_
            refine g_weak [true, false, true, false] ?_
            exact ih _ _ _ H
def L_X12_roads_38 (N : Nat) : Nat → Int → Hp → Option (Int × Hp)
  | 0, _, _ => none
  | n + 1, x2, h =>
    if 196 ≤ x2 then
      bd (F_X12_readsLine N h) fun y2 h1 =>
      L_X12_roads_63 N  N y2 h1
    else
    grd (0 ≤ x2 ∧ x2 < 196) <|
    bnd (hw h 110 x2.toNat 0) fun h3 =>
    bnd (w32 (x2 + 1)) fun y4 =>
    (L_X12_roads_38 N n) y4 h3
set_option maxRecDepth 100000 in
set_option maxHeartbeats 4000000 in
theorem R_L_X12_roads_38 (N : Nat) : ∀ (n : Nat) (x2 : Int) (h : Hp) (res : Int × Hp), L_X12_roads_38 N n x2 h = some res → Go M_X12_roads 5 38 [some (.inr 84), none, some (.inl x2), none] [] h (Qi res)
  | 0, _, _, _, H => by cases H
  | n + 1, x2, h, res, H => by
    have ih := R_L_X12_roads_38 N n
    simp only [L_X12_roads_38] at H
    refine g_iload_n (T_X12_roads 22 _ _ _ rfl) rfl ?_
    refine g_sipush (T_X12_roads 23 _ _ _ rfl) (by decide) ?_
    refine g_icmp_ge (tgt := 58) (T_X12_roads 24 _ _ _ rfl) (by decide) (fun cc => ?_) (fun cc => ?_)
    · replace H := ite_p cc H
      refine g_aload_n (T_X12_roads 32 _ _ _ rfl) rfl ?_
      obtain ⟨y2, h1, hq, H⟩ := bd_some H
      refine g_callVi (M' := M_X12_readsLine) (c := 83) (av := []) (st := []) (T_X12_roads 33 _ _ _ rfl) ml_X12_284 cb_X12_readsLine rfl rfl (Nat.le_of_ble_eq_true rfl) (by omega) (R_X12_readsLine N _ _ hq) ?_
      refine g_istore_n (T_X12_roads 34 _ _ _ rfl) (by decide) ?_
      refine g_weak [true, false, true, false] ?_
      refine R_L_X12_roads_63 N   _ _ _ _ H
    · replace H := ite_n cc H
      refine g_aload_n (T_X12_roads 25 _ _ _ rfl) rfl ?_
      refine g_getR (c := 83) (r := 111) (T_X12_roads 26 _ _ _ rfl) fl_X12_89 rfl (nR rfl) rfl (by decide) ?_
      refine g_iload_n (T_X12_roads 27 _ _ _ rfl) rfl ?_
      refine g_iconst (T_X12_roads 28 _ _ _ rfl) ⟨by decide, by decide⟩ ?_
      obtain ⟨hg, H⟩ := grd_some H
      refine g_iast (c := 110) (T_X12_roads 29 _ _ _ rfl) rfl hg ?_
      refine g_bndH H fun h3 H => ?_
      refine g_iincB (T_X12_roads 30 _ _ _ rfl) rfl (by decide) H fun y4 H => ?_
      refine g_goto (tgt := 38) (T_X12_roads 31 _ _ _ rfl) (by decide) ?_
      refine g_weak [true, false, true, false] ?_
      exact ih _ _ _ H
def F_X12_roads (N : Nat) (x1 : Int) (h : Hp) : Option (Int × Hp) :=
  bd (F_X12_in N x1 1 200 h) fun y2 h1 =>
  if y2 = 0 then
    some ((-1), h1)
  else
  if x1 ≤ (h1 83 15) then
    bnd (hw h1 83 16 0) fun h3 =>
    bnd (hw h3 83 17 x1) fun h4 =>
    bnd (hw h4 83 41 0) fun h5 =>
    L_X12_roads_38 N  N 0 h5
  else
  some ((-1), h1)
set_option maxRecDepth 100000 in
set_option maxHeartbeats 4000000 in
theorem R_X12_roads (N : Nat) (x1 : Int) (h : Hp) (res : Int × Hp) (H : F_X12_roads N x1 h = some res) : Runs M_X12_roads 5 [.inr 84, .inl x1] h (Qi res) := by
  refine Runs.of rfl (Nat.le_of_ble_eq_true rfl) ?_
  show Go M_X12_roads 5 0 [some (.inr 84), some (.inl x1), none, none] [] h (Qi res)
  unfold F_X12_roads at H
  refine g_iload_n (T_X12_roads 0 _ _ _ rfl) rfl ?_
  refine g_iconst (T_X12_roads 1 _ _ _ rfl) ⟨by decide, by decide⟩ ?_
  refine g_sipush (T_X12_roads 2 _ _ _ rfl) (by decide) ?_
  obtain ⟨y2, h1, hq, H⟩ := bd_some H
  refine g_callSi (M' := M_X12_in) (av := [.inl x1, .inl 1, .inl 200]) (st := []) (T_X12_roads 3 _ _ _ rfl) ml_X12_155 cb_X12_in rfl (Nat.le_of_ble_eq_true rfl) (by omega) (R_X12_in N _ _ _ _ _ hq) ?_
  refine g_if_eq (tgt := 19) (T_X12_roads 4 _ _ _ rfl) (by decide) (fun cc => ?_) (fun cc => ?_)
  · replace H := ite_p cc H
    refine g_iconst (T_X12_roads 9 _ _ _ rfl) ⟨by decide, by decide⟩ ?_
    exact g_iret (T_X12_roads 10 _ _ _ rfl) rfl (qi_of H)
  · replace H := ite_n cc H
    refine g_iload_n (T_X12_roads 5 _ _ _ rfl) rfl ?_
    refine g_aload_n (T_X12_roads 6 _ _ _ rfl) rfl ?_
    refine g_getI (c := 83) (T_X12_roads 7 _ _ _ rfl) fl_X12_159 rfl (Or.inl rfl) ?_
    refine g_icmp_le (tgt := 21) (T_X12_roads 8 _ _ _ rfl) (by decide) (fun cc => ?_) (fun cc => ?_)
    · replace H := ite_p cc H
      refine g_aload_n (T_X12_roads 11 _ _ _ rfl) rfl ?_
      refine g_iconst (T_X12_roads 12 _ _ _ rfl) ⟨by decide, by decide⟩ ?_
      refine g_put (c := 83) (T_X12_roads 13 _ _ _ rfl) fl_X12_166 rfl (Or.inl rfl) ?_
      refine g_bndH H fun h3 H => ?_
      refine g_aload_n (T_X12_roads 14 _ _ _ rfl) rfl ?_
      refine g_iload_n (T_X12_roads 15 _ _ _ rfl) rfl ?_
      refine g_put (c := 83) (T_X12_roads 16 _ _ _ rfl) fl_X12_169 rfl (Or.inl rfl) ?_
      refine g_bndH H fun h4 H => ?_
      refine g_aload_n (T_X12_roads 17 _ _ _ rfl) rfl ?_
      refine g_iconst (T_X12_roads 18 _ _ _ rfl) ⟨by decide, by decide⟩ ?_
      refine g_put (c := 83) (T_X12_roads 19 _ _ _ rfl) fl_X12_278 rfl (Or.inl rfl) ?_
      refine g_bndH H fun h5 H => ?_
      refine g_iconst (T_X12_roads 20 _ _ _ rfl) ⟨by decide, by decide⟩ ?_
      refine g_istore_n (T_X12_roads 21 _ _ _ rfl) (by decide) ?_
      refine g_weak [true, false, true, false] ?_
      refine R_L_X12_roads_38 N   _ _ _ _ H
    · replace H := ite_n cc H
      refine g_iconst (T_X12_roads 9 _ _ _ rfl) ⟨by decide, by decide⟩ ?_
      exact g_iret (T_X12_roads 10 _ _ _ rfl) rfl (qi_of H)
def J_X12_readsStop_74 (N : Nat) (s1 : Int) (s2 : Int) (h : Hp) : Option (Int × Hp) :=
  grd (0 ≤ s1 ∧ s1 < 16) <|
  bnd (hw h 111 s1.toNat s2) fun h1 =>
  bnd (hw h1 83 16 (w32 ((h1 83 16) + 1))) fun h2 =>
  bd (F_X12_readsTwo N h2) fun y4 h3 =>
  if y4 = 0 then
    some (0, h3)
  else
  grd (0 ≤ (h3 83 41) ∧ (h3 83 41) < 16) <|
  bnd (hw h3 112 (h3 83 41).toNat (h3 83 19)) fun h5 =>
  bnd (hw h5 83 41 (w32 ((h5 83 41) + 1))) fun h6 =>
  some (1, h6)
set_option maxRecDepth 100000 in
set_option maxHeartbeats 4000000 in
theorem R_J_X12_readsStop_74 (N : Nat) (s1 : Int) (s2 : Int) (h : Hp) (res : Int × Hp) (H : J_X12_readsStop_74 N s1 s2 h = some res) : Go M_X12_readsStop 4 74 [some (.inr 84)] [.inl s2, .inl s1, .inr 112] h (Qi res) := by
  unfold J_X12_readsStop_74 at H
  obtain ⟨hg, H⟩ := grd_some H
  refine g_iast (c := 111) (T_X12_readsStop 37 _ _ _ rfl) rfl hg ?_
  refine g_bndH H fun h1 H => ?_
  refine g_aload_n (T_X12_readsStop 38 _ _ _ rfl) rfl ?_
  refine g_aload_n (T_X12_readsStop 39 _ _ _ rfl) rfl ?_
  refine g_getI (c := 83) (T_X12_readsStop 40 _ _ _ rfl) fl_X12_166 rfl (Or.inl rfl) ?_
  refine g_iconst (T_X12_readsStop 41 _ _ _ rfl) ⟨by decide, by decide⟩ ?_
  refine g_iadd (T_X12_readsStop 42 _ _ _ rfl) ?_
  refine g_put (c := 83) (T_X12_readsStop 43 _ _ _ rfl) fl_X12_166 rfl (Or.inl rfl) ?_
  refine g_bndH H fun h2 H => ?_
  refine g_aload_n (T_X12_readsStop 44 _ _ _ rfl) rfl ?_
  obtain ⟨y4, h3, hq, H⟩ := bd_some H
  refine g_callVi (M' := M_X12_readsTwo) (c := 83) (av := []) (st := []) (T_X12_readsStop 45 _ _ _ rfl) ml_X12_281 cb_X12_readsTwo rfl rfl (Nat.le_of_ble_eq_true rfl) (by omega) (R_X12_readsTwo N _ _ hq) ?_
  refine g_if_ne (tgt := 94) (T_X12_readsStop 46 _ _ _ rfl) (by decide) (fun cc => ?_) (fun cc => ?_)
  · replace H := ite_n cc H
    refine g_aload_n (T_X12_readsStop 49 _ _ _ rfl) rfl ?_
    refine g_getR (c := 83) (r := 113) (T_X12_readsStop 50 _ _ _ rfl) fl_X12_95 rfl (nR rfl) rfl (by decide) ?_
    refine g_aload_n (T_X12_readsStop 51 _ _ _ rfl) rfl ?_
    refine g_getI (c := 83) (T_X12_readsStop 52 _ _ _ rfl) fl_X12_278 rfl (Or.inl rfl) ?_
    refine g_aload_n (T_X12_readsStop 53 _ _ _ rfl) rfl ?_
    refine g_getI (c := 83) (T_X12_readsStop 54 _ _ _ rfl) fl_X12_182 rfl (Or.inl rfl) ?_
    obtain ⟨hg, H⟩ := grd_some H
    refine g_iast (c := 112) (T_X12_readsStop 55 _ _ _ rfl) rfl hg ?_
    refine g_bndH H fun h5 H => ?_
    refine g_aload_n (T_X12_readsStop 56 _ _ _ rfl) rfl ?_
    refine g_aload_n (T_X12_readsStop 57 _ _ _ rfl) rfl ?_
    refine g_getI (c := 83) (T_X12_readsStop 58 _ _ _ rfl) fl_X12_278 rfl (Or.inl rfl) ?_
    refine g_iconst (T_X12_readsStop 59 _ _ _ rfl) ⟨by decide, by decide⟩ ?_
    refine g_iadd (T_X12_readsStop 60 _ _ _ rfl) ?_
    refine g_put (c := 83) (T_X12_readsStop 61 _ _ _ rfl) fl_X12_278 rfl (Or.inl rfl) ?_
    refine g_bndH H fun h6 H => ?_
    refine g_iconst (T_X12_readsStop 62 _ _ _ rfl) ⟨by decide, by decide⟩ ?_
    exact g_zret (T_X12_readsStop 63 _ _ _ rfl) rfl (by decide) (qi_of H)
  · replace H := ite_p cc H
    refine g_iconst (T_X12_readsStop 47 _ _ _ rfl) ⟨by decide, by decide⟩ ?_
    exact g_zret (T_X12_readsStop 48 _ _ _ rfl) rfl (by decide) (qi_of H)
def J_X12_readsStop_26 (N : Nat) (h : Hp) : Option (Int × Hp) :=
  if (h 83 41) = 16 then
    bd (F_X12_wrongAt N 4 (h 83 16) h) fun y6 h5 =>
    grd (y6 = 0 ∨ y6 = 1) <|
    some (y6, h5)
  else
  bd (F_X12_here N h) fun y2 h1 =>
  if y2 = 43 then
    J_X12_readsStop_74 N  (h 83 41) 14 h1
  else
  bd (F_X12_here N h1) fun y4 h3 =>
  J_X12_readsStop_74 N  (h 83 41) (w32 (y4 - 97)) h3
set_option maxRecDepth 100000 in
set_option maxHeartbeats 4000000 in
theorem R_J_X12_readsStop_26 (N : Nat) (h : Hp) (res : Int × Hp) (H : J_X12_readsStop_26 N h = some res) : Go M_X12_readsStop 4 26 [some (.inr 84)] [] h (Qi res) := by
  unfold J_X12_readsStop_26 at H
  refine g_aload_n (T_X12_readsStop 13 _ _ _ rfl) rfl ?_
  refine g_getI (c := 83) (T_X12_readsStop 14 _ _ _ rfl) fl_X12_278 rfl (Or.inl rfl) ?_
  refine g_bipush (T_X12_readsStop 15 _ _ _ rfl) (by decide) ?_
  refine g_icmp_ne (tgt := 45) (T_X12_readsStop 16 _ _ _ rfl) (by decide) (fun cc => ?_) (fun cc => ?_)
  · replace H := ite_n cc H
    refine g_aload_n (T_X12_readsStop 23 _ _ _ rfl) rfl ?_
    refine g_getR (c := 83) (r := 112) (T_X12_readsStop 24 _ _ _ rfl) fl_X12_92 rfl (nR rfl) rfl (by decide) ?_
    refine g_aload_n (T_X12_readsStop 25 _ _ _ rfl) rfl ?_
    refine g_getI (c := 83) (T_X12_readsStop 26 _ _ _ rfl) fl_X12_278 rfl (Or.inl rfl) ?_
    refine g_aload_n (T_X12_readsStop 27 _ _ _ rfl) rfl ?_
    obtain ⟨y2, h1, hq, H⟩ := bd_some H
    refine g_callVi (M' := M_X12_here) (c := 83) (av := []) (st := [.inl (h 83 41), .inr 112]) (T_X12_readsStop 28 _ _ _ rfl) ml_X12_172 cb_X12_here rfl rfl (Nat.le_of_ble_eq_true rfl) (by omega) (R_X12_here N _ _ hq) ?_
    refine g_bipush (T_X12_readsStop 29 _ _ _ rfl) (by decide) ?_
    refine g_icmp_ne (tgt := 67) (T_X12_readsStop 30 _ _ _ rfl) (by decide) (fun cc => ?_) (fun cc => ?_)
    · replace H := ite_n cc H
      refine g_aload_n (T_X12_readsStop 33 _ _ _ rfl) rfl ?_
      obtain ⟨y4, h3, hq, H⟩ := bd_some H
      refine g_callVi (M' := M_X12_here) (c := 83) (av := []) (st := [.inl (h 83 41), .inr 112]) (T_X12_readsStop 34 _ _ _ rfl) ml_X12_172 cb_X12_here rfl rfl (Nat.le_of_ble_eq_true rfl) (by omega) (R_X12_here N _ _ hq) ?_
      refine g_bipush (T_X12_readsStop 35 _ _ _ rfl) (by decide) ?_
      refine g_isub (T_X12_readsStop 36 _ _ _ rfl) ?_
      refine g_weak [true] ?_
      exact R_J_X12_readsStop_74 N   _ _ _ _ H
    · replace H := ite_p cc H
      refine g_bipush (T_X12_readsStop 31 _ _ _ rfl) (by decide) ?_
      refine g_goto (tgt := 74) (T_X12_readsStop 32 _ _ _ rfl) (by decide) ?_
      refine g_weak [true] ?_
      exact R_J_X12_readsStop_74 N   _ _ _ _ H
  · replace H := ite_p cc H
    refine g_aload_n (T_X12_readsStop 17 _ _ _ rfl) rfl ?_
    refine g_iconst (T_X12_readsStop 18 _ _ _ rfl) ⟨by decide, by decide⟩ ?_
    refine g_aload_n (T_X12_readsStop 19 _ _ _ rfl) rfl ?_
    refine g_getI (c := 83) (T_X12_readsStop 20 _ _ _ rfl) fl_X12_166 rfl (Or.inl rfl) ?_
    obtain ⟨y6, h5, hq, H⟩ := bd_some H
    refine g_callVi (M' := M_X12_wrongAt) (c := 83) (av := [.inl 4, .inl (h 83 16)]) (st := []) (T_X12_readsStop 21 _ _ _ rfl) ml_X12_179 cb_X12_wrongAt rfl rfl (Nat.le_of_ble_eq_true rfl) (by omega) (R_X12_wrongAt N _ _ _ _ hq) ?_
    obtain ⟨hg, H⟩ := grd_some H
    exact g_zret (T_X12_readsStop 22 _ _ _ rfl) rfl hg (qi_of H)
def F_X12_readsStop (N : Nat) (h : Hp) : Option (Int × Hp) :=
  bd (F_X12_isLetterHere N h) fun y2 h1 =>
  if y2 = 0 then
    bd (F_X12_here N h1) fun y4 h3 =>
    if y4 = 43 then
      J_X12_readsStop_26 N  h3
    else
    bd (F_X12_wrongAt N 1 (h3 83 16) h3) fun y6 h5 =>
    grd (y6 = 0 ∨ y6 = 1) <|
    some (y6, h5)
  else
  J_X12_readsStop_26 N  h1
set_option maxRecDepth 100000 in
set_option maxHeartbeats 4000000 in
theorem R_X12_readsStop (N : Nat) (h : Hp) (res : Int × Hp) (H : F_X12_readsStop N h = some res) : Runs M_X12_readsStop 4 [.inr 84] h (Qi res) := by
  refine Runs.of rfl (Nat.le_of_ble_eq_true rfl) ?_
  show Go M_X12_readsStop 4 0 [some (.inr 84)] [] h (Qi res)
  unfold F_X12_readsStop at H
  refine g_aload_n (T_X12_readsStop 0 _ _ _ rfl) rfl ?_
  obtain ⟨y2, h1, hq, H⟩ := bd_some H
  refine g_callVi (M' := M_X12_isLetterHere) (c := 83) (av := []) (st := []) (T_X12_readsStop 1 _ _ _ rfl) ml_X12_275 cb_X12_isLetterHere rfl rfl (Nat.le_of_ble_eq_true rfl) (by omega) (R_X12_isLetterHere N _ _ hq) ?_
  refine g_if_ne (tgt := 26) (T_X12_readsStop 2 _ _ _ rfl) (by decide) (fun cc => ?_) (fun cc => ?_)
  · replace H := ite_n cc H
    refine g_weak [true] ?_
    exact R_J_X12_readsStop_26 N   _ _ H
  · replace H := ite_p cc H
    refine g_aload_n (T_X12_readsStop 3 _ _ _ rfl) rfl ?_
    obtain ⟨y4, h3, hq, H⟩ := bd_some H
    refine g_callVi (M' := M_X12_here) (c := 83) (av := []) (st := []) (T_X12_readsStop 4 _ _ _ rfl) ml_X12_172 cb_X12_here rfl rfl (Nat.le_of_ble_eq_true rfl) (by omega) (R_X12_here N _ _ hq) ?_
    refine g_bipush (T_X12_readsStop 5 _ _ _ rfl) (by decide) ?_
    refine g_icmp_eq (tgt := 26) (T_X12_readsStop 6 _ _ _ rfl) (by decide) (fun cc => ?_) (fun cc => ?_)
    · replace H := ite_p cc H
      refine g_weak [true] ?_
      exact R_J_X12_readsStop_26 N   _ _ H
    · replace H := ite_n cc H
      refine g_aload_n (T_X12_readsStop 7 _ _ _ rfl) rfl ?_
      refine g_iconst (T_X12_readsStop 8 _ _ _ rfl) ⟨by decide, by decide⟩ ?_
      refine g_aload_n (T_X12_readsStop 9 _ _ _ rfl) rfl ?_
      refine g_getI (c := 83) (T_X12_readsStop 10 _ _ _ rfl) fl_X12_166 rfl (Or.inl rfl) ?_
      obtain ⟨y6, h5, hq, H⟩ := bd_some H
      refine g_callVi (M' := M_X12_wrongAt) (c := 83) (av := [.inl 1, .inl (h3 83 16)]) (st := []) (T_X12_readsStop 11 _ _ _ rfl) ml_X12_179 cb_X12_wrongAt rfl rfl (Nat.le_of_ble_eq_true rfl) (by omega) (R_X12_wrongAt N _ _ _ _ hq) ?_
      obtain ⟨hg, H⟩ := grd_some H
      exact g_zret (T_X12_readsStop 12 _ _ _ rfl) rfl hg (qi_of H)
